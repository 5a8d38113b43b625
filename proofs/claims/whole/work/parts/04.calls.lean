/-! ===== calls ===== -/
def jrm (D : Nat) : Room := { frames := D, cells := 0, slots := 0, locals := 64 * D }
/-- a method, from its entry -/
def jMR (E : jE) (D : Nat) (M : jM) (av : List Value) (S : jS) (r : List Value) (S' : jS) : Prop := (lg_sl av).length ≤ M.2.2.1 ∧ JR E D M 0 (lv_args 0 av) [] S r S'
def jB (E : jE) (S : jS) (U : State) : Prop := va_P (jG E) vwCl (jws E S) U.heap ∧ va_K (jG E) vwCl (jtys E) U ∧ va_D (fun _ => True) (jws E S) ∧ jNW U
theorem jNW.warm {s U : State} (hW : s.WarmedH U.vm) (h : jNW s) : jNW U := fun q hq => va_Nw.warmM hW (h q hq)
/-- what is fixed of a callee -/
def jOK (N : jM) (n : Nat) : Prop := plainName N.1.cls = true ∧ Cond.code N.1 N.2.1 N.2.2.1 N.2.2.2 ∈ jAll ∧ Cond.initialized N.1.cls ∈ jAll ∧ (N.1.cls ≠ "java/lang/invoke/MethodHandle" ∧ N.1.cls ≠ "java/lang/invoke/VarHandle" ∧ (parseMethodDescriptor N.1.desc).map (fun d => d.parameters.length) = some n) ∧ N.2.2.1 ≤ 40 ∧ N.1 ≠ yL_law
theorem jAll_good : ∀ w ∈ jAll, goodWord w = true := fun w hw => (List.mem_filter.mp hw).2
theorem jGood {N : jM} {n : Nat} (h : jOK N n) : GoodIn jAll (jTs N) := by
  intro w hw
  rcases List.mem_cons.mp hw with rfl | hw
  · exact ⟨h.2.1, good_of_word (jAll_good _ h.2.1)⟩
  · exact ⟨hw, good_of_word (jAll_good _ hw)⟩
def jQ (v : List Value) (E : jE) (S' : jS) (A : Nat → Prop) : Array Value → State → Outcome → State → Prop := fun _ st oc t => (oc = .returned v.head? ∧ va_P (jG E) vwCl (jws E S') t.heap) ∧ va_F A st t
set_option maxHeartbeats 1000000 in
theorem jMet {E : jE} {D n : Nat} {N : jM} {av : List Value} {S S' : jS} {r : List Value} (hN : jOK N n) (h : jMR E D N av S r S') (l : Launch) (sz : Nat) : Met l N.1 (jTs N) (jrm D) (va_Pc av (fun U => U.heap.size = sz ∧ jB E S U)) (jQ r E S' (va_A (jws E S) sz)) 0 0 (va_A (jws E S) sz) := by
  refine Met.ofW (cc := N.2.1) (maxL := N.2.2.1) (ret := N.2.2.2) (ws' := jAll) hN.1 rfl ?_
  intro p e s m args below meth c s₁ B hml hv
  obtain ⟨rfl, hsz, hP, hK, hD0, hNW⟩ := hv
  have hx := B.exec
  have hb := B.bytes
  have hr := B.returns
  have hts := atoms_spec (ws := jTs N) B.pre
  have hown : s.vm.findClass N.1.cls = some m.cls := findClass_of_methodNamed B.named
  have hlocks := B.notSynchronized
  subst hsz
  have hD := hD0.self (sz := s.heap.size)
  have hA : ∀ q : Nat, s.heap.size ≤ q → va_A (jws E S) s.heap.size q := fun q h => Or.inr h
  have hl := lv_entry av (n := N.2.2.1) h.1
  rw [lg_entry_eq]
  refine h.2 p l e _ s m av.toArray below meth c 0 0 _ (va_A (jws E S) s.heap.size) ⟨⟨hx, hb, hml, hown, fun w hw => hts w (List.mem_cons_of_mem _ hw)⟩, hK, hNW, hA, Nat.le_refl _, Nat.le_refl _, Nat.le_refl _, Nat.le_refl _, fun h9 => absurd h9 hN.2.2.2.2.2⟩ ?_ _ _ _ hl hP hD va_S.rf
  intro pc' ls' H' locs' hret hP' hD' hS'
  rcases hret with ⟨hd, v, rfl, ty, hty, hn⟩ | ⟨hd, rfl, hty⟩
  · exact W.zret hx hb (hr.trans hty) hn (fun t ht hW => ⟨⟨rfl, by rw [ht]; exact hP'⟩, hS'.F ht⟩) hS'.2.2 hd
  · exact W.vret hx hb (hr.trans hty) (fun t ht hW => ⟨⟨rfl, by rw [ht]; exact hP'⟩, hS'.F ht⟩) hS'.2.2 hd
theorem jBlind {E : jE} {S : jS} {av : List Value} {sz : Nat} : FrameBlind (va_Pc av (fun U => U.heap.size = sz ∧ jB E S U)) := by
  intro a U g mk q
  obtain ⟨q0, q1, qP, qK, qD, qN⟩ := q
  exact ⟨q0, q1, qP, va_K.moved (u := U) (U := U.calling g mk a) (Vm.Alike.refl U.vm) qK, qD, fun w hw => va_Nw.same (u := U) (U := U.calling g mk a) rfl rfl (qN w hw)⟩
theorem jFree {E : jE} {S : jS} {A : Nat → Prop} {H0 H : Heap} {locs : List Loc} (hD : va_D A (jws E S)) (hS : va_S A H0 H locs) (hA : ∀ q : Nat, H0.size ≤ q → A q) : ∀ q, va_A (jws E S) H.size q → A q := by
  intro q hq
  rcases hq with ⟨k, e, hk⟩ | hq
  · exact hD.2 k _ hk
  · exact hA q (Nat.le_trans hS.1 hq)
section JCalls
variable {p : Program} {l : Launch} {e : Env} {R : Room} {s : State} {m : MethodId} {args : Array Value} {below : List Frame} {meth : Method} {c : Code} {H : Heap} {locs : List Loc} {cells slots : Nat} {Q : State → Prop}
/-- behind a call, whatever its kind -/
theorem jBehind {E : jE} {S S1 : jS} {v : List Value} {A : Nat → Prop} {pc : Nat} {ls : Array Slot} {st0 rest : List Value} {a : Array Value} (hv : v.length ≤ 1)
    (hr : va_Run p l e R s m args below meth c H locs cells slots 0 0 (F0 m pc ls st0) rest (jQ v E S1 (va_A (jws E S) H.size) a) (va_A (jws E S) H.size)) (hD : va_D A (jws E S)) (hS : va_S A s.heap H locs) (hA : ∀ q : Nat, s.heap.size ≤ q → A q)
    (kk : ∀ (H1 : Heap) (locs1 : List Loc), va_P (jG E) vwCl (jws E S1) H1 → va_S A s.heap H1 locs1 → W p l e R s m args below meth c H1 locs1 cells slots Q (F0 m (pc + 3) ls (v ++ rest))) : W p l e R s m args below meth c H locs cells slots Q (F0 m pc ls st0) := by
  have hF := jFree hD hS hA
  intro T hT X
  obtain ⟨v', st₀, t, T', L, h0, X', hL, e1, e2, ⟨⟨hv', hPt⟩, hz, hk⟩, stp⟩ := hr T hT X
  cases hv'
  rw [h0] at hz hk
  obtain ⟨t2, a1, b1⟩ := kk T'.heap (locs ++ L) (by rw [e1]; exact hPt)
    ⟨Nat.le_trans hS.1 (by rw [e1]; exact hz), fun q h1 h2 => by rw [e1, hk q (Nat.lt_of_lt_of_le h1 hS.1) (fun z => h2 (hF q z))]; exact hS.2.1 q h1 h2, fun q hq => by
      rcases List.mem_append.mp hq with h | h
      · exact hS.2.2 q h
      · exact hF _ (hL q h)⟩ T' rfl X'
  have ev : v.head?.toList ++ rest = v ++ rest := by
    match v, hv with
    | [], _ => rfl
    | [x], _ => rfl
    | x :: y :: z, h => simp at h
  rw [← ev] at a1
  exact ⟨t2, stp t2 a1, b1⟩
end JCalls
section JCallRules
variable {E : jE} {D D' : Nat} {M N : jM} {pc idx n : Nat} {lv : List (Nat × Value)} {st rest As : List Value} {S S1 S' : jS} {r v : List Value}
set_option maxHeartbeats 1000000 in
theorem j_callV {rr : jR} {ci : Nat} {fs : List Value} (hd : decode M.2.1 pc = .ok (.invokevirtual idx, 3)) (hM : jMR E D' N (.ref (E.1 rr) :: As) S v S1) (hv : v.length ≤ 1) (hDD : D' + 1 ≤ D) (hN : jOK N n) (hI : Cond.instanceMethod N.1 ∈ jAll) (hsel : Cond.selects N.1.cls N.1 N.1 ∈ jAll) (hL : Cond.methodLink M.1.cls idx N.1 ∈ jAll) (hr : rr ∈ jL E) (he : jenc E S rr = .inr (ci, fs)) (hc : (vwCl[ci]?).map (fun q => q.1) = some N.1.cls) (hn : As.length = n) (hst : st = As.reverse ++ .ref (E.1 rr) :: rest) (hcat : (rest.map fun v => v.category).sum ≤ 8)
    (k : JR E D M (pc + 3) lv (v ++ rest) S1 r S') : JR E D M pc lv st S r S' := by
  intro p l e R s m args below meth c cells slots Q A C K ls H locs hl hP hD hS
  subst hst
  have hlo := C.2.2.2.2.2.1
  have hfr := C.2.2.2.2.1
  have hmx := hN.2.2.2.2.1
  have hts := C.1.2.2.2.2
  have hOKc := hN
  obtain ⟨q, hq⟩ := jws_get (S := S) hr
  rw [he] at hq
  obtain ⟨cq, hcq, hcn⟩ := Option.map_eq_some_iff.mp hc
  have hrecv := va_recv C.2.1 hP hcq hq
  rw [hcn] at hrecv
  refine jBehind (E := E) (S := S) (S1 := S1) (v := v) (a := (Value.ref (E.1 rr) :: As).toArray) (rest := rest) hv ?_ hD hS C.2.2.2.1 (fun H1 locs1 hP1 hS1 => k p l e R s m args below meth c cells slots Q A C K ls H1 locs1 hl hP1 (jD_any hD) hS1)
  refine va_runV (C := N.1.cls) (n := n) (bytes := N.2.1) (maxL := N.2.2.1) (ret := N.2.2.2) (Ts := jAll) (own := M.1.cls) (As := As) (rest := rest) ⟨C.1.1, C.1.2.1, C.1.2.2.1, C.1.2.2.2.1, hts⟩ (jMet hN hM l H.size) (cwV n hts ?_ rfl rfl rfl ⟨rfl, hN.2.2.2.1⟩ ⟨by simp only [jrm]; omega, by simp only [jrm]; omega⟩) ⟨jBlind, hrecv, fun U hU hW => ⟨rfl, by rw [hU], by rw [hU]; exact hP, va_K.moved hW.alike C.2.1, hD.weaken (fun _ _ _ _ => trivial), jNW.warm hW C.2.2.1⟩⟩ rfl hn hl.1 rfl (lv_room hcat) hd ⟨C.2.2.2.2.2.2.1, C.2.2.2.2.2.2.2.1⟩
  intro w hw
  rcases List.mem_append.mp hw with hw | hw
  · have hm : w ∈ jAll := by
      simp only [List.mem_cons, List.not_mem_nil, or_false] at hw
      rcases hw with rfl | rfl | rfl | rfl
      · exact hL
      · exact hI
      · exact hsel
      · exact hN.2.2.1
    exact ⟨hm, good_of_word (jAll_good _ hm)⟩
  · exact jGood hN w hw
set_option maxHeartbeats 1000000 in
theorem j_callS (hd : decode M.2.1 pc = .ok (.invokestatic idx, 3)) (hM : jMR E D' N As S v S1) (hv : v.length ≤ 1) (hDD : D' + 1 ≤ D) (hN : jOK N n) (hI : Cond.static N.1 ∈ jAll) (hL : Cond.methodLink M.1.cls idx N.1 ∈ jAll) (hn : As.length = n) (hst : st = As.reverse ++ rest) (hcat : (rest.map fun v => v.category).sum ≤ 8)
    (k : JR E D M (pc + 3) lv (v ++ rest) S1 r S') : JR E D M pc lv st S r S' := by
  intro p l e R s m args below meth c cells slots Q A C K ls H locs hl hP hD hS
  subst hst
  have hlo := C.2.2.2.2.2.1
  have hfr := C.2.2.2.2.1
  have hmx := hN.2.2.2.2.1
  have hts := C.1.2.2.2.2
  refine jBehind (E := E) (S := S) (S1 := S1) (v := v) (a := As.toArray) (rest := rest) hv ?_ hD hS C.2.2.2.1 (fun H1 locs1 hP1 hS1 => k p l e R s m args below meth c cells slots Q A C K ls H1 locs1 hl hP1 (jD_any hD) hS1)
  refine va_runS (n := n) (bytes := N.2.1) (maxL := N.2.2.1) (ret := N.2.2.2) (Ts := jAll) (own := M.1.cls) (As := As) (rest := rest) ⟨C.1.1, C.1.2.1, C.1.2.2.1, C.1.2.2.2.1, hts⟩ (jMet hN hM l H.size) (va_cwS n hts ?_ rfl rfl rfl hN.2.2.2.1 ⟨by simp only [jrm]; omega, by simp only [jrm]; omega⟩) ⟨jBlind, fun U hU hW => ⟨rfl, by rw [hU], by rw [hU]; exact hP, va_K.moved hW.alike C.2.1, hD.weaken (fun _ _ _ _ => trivial), jNW.warm hW C.2.2.1⟩⟩ rfl hn hl.1 rfl (lv_room hcat) hd ⟨C.2.2.2.2.2.2.1, C.2.2.2.2.2.2.2.1⟩
  intro w hw
  rcases List.mem_append.mp hw with hw | hw
  · have hm : w ∈ jAll := by
      simp only [List.mem_cons, List.not_mem_nil, or_false] at hw
      rcases hw with rfl | rfl | rfl
      · exact hL
      · exact hI
      · exact hN.2.2.1
    exact ⟨hm, good_of_word (jAll_good _ hm)⟩
  · exact jGood hN w hw
set_option maxHeartbeats 1000000 in
theorem j_callN {host : String} (hd : decode M.2.1 pc = .ok (.invokestatic idx, 3)) (hM : jMR E D' N As S v S1) (hv : v.length ≤ 1) (hDD : D' + 1 ≤ D) (hN : jOK N n) (hI : Cond.static N.1 ∈ jAll) (hL : (M.1.cls, idx, N.1, host) ∈ jNest) (hn : As.length = n) (hst : st = As.reverse ++ rest) (hcat : (rest.map fun v => v.category).sum ≤ 8)
    (k : JR E D M (pc + 3) lv (v ++ rest) S1 r S') : JR E D M pc lv st S r S' := by
  intro p l e R s m args below meth c cells slots Q A C K ls H locs hl hP hD hS
  subst hst
  have hlo := C.2.2.2.2.2.1
  have hfr := C.2.2.2.2.1
  have hmx := hN.2.2.2.2.1
  have hts := C.1.2.2.2.2
  refine jBehind (E := E) (S := S) (S1 := S1) (v := v) (a := As.toArray) (rest := rest) hv ?_ hD hS C.2.2.2.1 (fun H1 locs1 hP1 hS1 => k p l e R s m args below meth c cells slots Q A C K ls H1 locs1 hl hP1 (jD_any hD) hS1)
  exact va_runSN (n := n) (bytes := N.2.1) (maxL := N.2.2.1) (ret := N.2.2.2) (Ts := jAll) (own := M.1.cls) (host := host) (As := As) (rest := rest) ⟨C.1.1, C.1.2.1, C.1.2.2.1, C.1.2.2.2.1, hts⟩ (jMet hN hM l H.size) ⟨va_cnB n hts (jGood hN) rfl rfl rfl (C.2.2.1 _ hL) (hts _ hN.2.2.1) hN.2.2.2.1 ⟨by simp only [jrm]; omega, by simp only [jrm]; omega⟩, hts _ hI, trivial⟩ ⟨jBlind, fun U hU hW => ⟨rfl, by rw [hU], by rw [hU]; exact hP, va_K.moved hW.alike C.2.1, hD.weaken (fun _ _ _ _ => trivial), jNW.warm hW C.2.2.1⟩⟩ rfl hn hl.1 rfl (lv_room hcat) hd ⟨C.2.2.2.2.2.2.1, C.2.2.2.2.2.2.2.1⟩
end JCallRules
