/-! ===== the outer constructor: the text is written and laid ===== -/
def JX (E : jE) (ak av D : Nat) (M : jM) (pc : Nat) (lv : List (Nat × Value)) (st : List Value) (S : jS) (r : List Value) (S' : jS) : Prop :=
  ∀ (p : Program) (l : Launch) (e : Env) (R : Room) (s : State) (m : MethodId) (args : Array Value) (below : List Frame) (meth : Method) (c : Code) (cells slots : Nat) (Q : State → Prop) (A : Nat → Prop),
    jC E D M p R s m args c cells slots A → nS ak av A s s.heap →
    (∀ (pc' : Nat) (ls' : Array Slot) (H' : Heap) (locs' : List Loc), jRet M r pc' → va_P (jG E) vwCl (jws E S') H' → va_D A (jws E S') → va_S A s.heap H' locs' → W p l e R s m args below meth c H' locs' cells slots Q (F0 m pc' ls' r)) →
    ∀ (ls : Array Slot) (H : Heap) (locs : List Loc), lv_has ls M.2.2.1 lv → va_P (jG E) vwCl (jws E S) H → va_D A (jws E S) → va_S A s.heap H locs → W p l e R s m args below meth c H locs cells slots Q (F0 m pc ls st)
section XRules
variable {E : jE} {ak av D D' : Nat} {M N : jM} {pc idx n : Nat} {lv : List (Nat × Value)} {st rest As : List Value} {S S1 S' : jS} {r v : List Value}
theorem x_of (h : JR E D M pc lv st S r S') : JX E ak av D M pc lv st S r S' := by
  intro p l e R s m args below meth c cells slots Q A C _ K ls H locs hl hP hD hS
  exact h p l e R s m args below meth c cells slots Q A C K ls H locs hl hP hD hS
theorem x_sub {lv' : List (Nat × Value)} (ks : List Nat) (h : lv_pick lv ks = lv') (k : JX E ak av D M pc lv' st S r S') : JX E ak av D M pc lv st S r S' := by
  intro p l e R s m args below meth c cells slots Q A C Z K ls H locs hl hP hD hS
  exact k p l e R s m args below meth c cells slots Q A C Z K ls H locs (lv_sub hl ks h) hP hD hS
theorem x_iload_n {n : Fin 4} {i : Nat} {x : Int32} (q : Nat) (hd : decode M.2.1 pc = .ok (.iload_n n, 1)) (hi : (n : Nat) = i) (hq : lv[q]? = some (i, .int x)) (k : JX E ak av D M (pc + 1) lv (.int x :: st) S r S') : JX E ak av D M pc lv st S r S' := by
  intro p l e R s m args below meth c cells slots Q A C Z K ls H locs hl hP hD hS
  exact lv_iload_n C.1.1 C.1.2.1 hd hi (lv_at hl q hq) (k p l e R s m args below meth c cells slots Q A C Z K ls H locs hl hP hD hS)
theorem x_aload_n {n : Fin 4} {i x : Nat} (q : Nat) (hd : decode M.2.1 pc = .ok (.aload_n n, 1)) (hi : (n : Nat) = i) (hq : lv[q]? = some (i, .ref x)) (k : JX E ak av D M (pc + 1) lv (.ref x :: st) S r S') : JX E ak av D M pc lv st S r S' := by
  intro p l e R s m args below meth c cells slots Q A C Z K ls H locs hl hP hD hS
  exact lv_aload_n C.1.1 C.1.2.1 hd hi (lv_at hl q hq) (k p l e R s m args below meth c cells slots Q A C Z K ls H locs hl hP hD hS)
theorem x_iconst {n : Int} {v : Int32} (hd : decode M.2.1 pc = .ok (.iconst n, 1)) (hv : Int32.ofInt n = v) (k : JX E ak av D M (pc + 1) lv (.int v :: st) S r S') : JX E ak av D M pc lv st S r S' := by
  intro p l e R s m args below meth c cells slots Q A C Z K ls H locs hl hP hD hS
  exact lv_iconst C.1.1 C.1.2.1 hd hv (k p l e R s m args below meth c cells slots Q A C Z K ls H locs hl hP hD hS)
theorem x_istore_n {n : Fin 4} {i : Nat} {x : Int32} (hd : decode M.2.1 pc = .ok (.istore_n n, 1)) (hi : (n : Nat) = i) {lv' : List (Nat × Value)} (hn : i < M.2.2.1) (hl' : (i, Value.int x) :: lv.filter (fun q => !(q.1 == i) && !(q.1 + 1 == i && q.2.category == 2)) = lv') (k : JX E ak av D M (pc + 1) lv' st S r S') : JX E ak av D M pc lv (.int x :: st) S r S' := by
  intro p l e R s m args below meth c cells slots Q A C Z K ls H locs hl hP hD hS
  exact lv_istore_n C.1.1 C.1.2.1 hd hi hl hn hl' (fun ls hl => k p l e R s m args below meth c cells slots Q A C Z K ls H locs hl hP hD hS)
theorem x_iinc {i : Nat} {n : Int} {x v : Int32} {lv' : List (Nat × Value)} (q : Nat) (hd : decode M.2.1 pc = .ok (.iinc i n, 3)) (hq : lv[q]? = some (i, .int x)) (hv : x + Int32.ofInt n = v) (hn : i < M.2.2.1) (hl' : (i, Value.int v) :: lv.filter (fun q => !(q.1 == i) && !(q.1 + 1 == i && q.2.category == 2)) = lv') (k : JX E ak av D M (pc + 3) lv' st S r S') : JX E ak av D M pc lv st S r S' := by
  intro p l e R s m args below meth c cells slots Q A C Z K ls H locs hl hP hD hS
  exact lv_iinc C.1.1 C.1.2.1 hd hl hq hv hn hl' (fun ls hl => k p l e R s m args below meth c cells slots Q A C Z K ls H locs hl hP hD hS)
theorem x_goto {off : Int} {tgt : Nat} (hd : decode M.2.1 pc = .ok (.goto off, 3)) (ht : (pc : Int) + off = (tgt : Int)) (k : JX E ak av D M tgt lv st S r S') : JX E ak av D M pc lv st S r S' := by
  intro p l e R s m args below meth c cells slots Q A C Z K ls H locs hl hP hD hS
  exact lv_goto C.1.1 C.1.2.1 hd ht (k p l e R s m args below meth c cells slots Q A C Z K ls H locs hl hP hD hS)
theorem x_icmp_ge {x y : Int32} {off : Int} {tgt : Nat} (hd : decode M.2.1 pc = .ok (.if_icmp .ge off, 3)) (ht : (pc : Int) + off = (tgt : Int)) (kt : y ≤ x → JX E ak av D M tgt lv st S r S') (kf : ¬ (y ≤ x) → JX E ak av D M (pc + 3) lv st S r S') : JX E ak av D M pc lv (.int y :: .int x :: st) S r S' := by
  intro p l e R s m args below meth c cells slots Q A C Z K ls H locs hl hP hD hS
  exact lv_icmp_ge C.1.1 C.1.2.1 hd ht (fun h => kt h p l e R s m args below meth c cells slots Q A C Z K ls H locs hl hP hD hS) (fun h => kf h p l e R s m args below meth c cells slots Q A C Z K ls H locs hl hP hD hS)
theorem x_ldc (hd : decode M.2.1 pc = .ok (.ldc 47, 2)) (hM : M.1.cls = "DropQueues") (k : JX E ak av D M (pc + 2) lv (.ref ak :: st) S r S') : JX E ak av D M pc lv st S r S' := by
  intro p l e R s m args below meth c cells slots Q A C Z K ls H locs hl hP hD hS
  have hown := C.1.2.2.2.1
  rw [hM] at hown
  exact va_ldcS C.1.1 C.1.2.1 hown Z.1 hd (k p l e R s m args below meth c cells slots Q A C Z K ls H locs hl hP hD hS)
theorem x_get {rr : jR} {ci kf N idx : Nat} {fs : List Value} {Cn : String} {T : u_T} {v : Value} (hd : decode M.2.1 pc = .ok (.getfield idx, 3)) (hr : rr ∈ jL E) (he : jenc E S rr = .inr (ci, fs)) (hc : vwCl[ci]? = some (Cn, T, N)) (hk : kf < N) (hin : ∀ w ∈ u_ws Cn T N, w ∈ jAll) (hlink : Cond.fieldLink M.1.cls idx (T kf).1 (T kf).2.1 (T kf).2.2.1 ∈ jAll) (hv : fs[kf]? = some v) (k : JX E ak av D M (pc + 3) lv (v :: st) S r S') : JX E ak av D M pc lv (.ref (E.1 rr) :: st) S r S' := by
  intro p l e R s m args below meth c cells slots Q A C Z K ls H locs hl hP hD hS
  obtain ⟨q, hq⟩ := jws_get (S := S) hr
  rw [he] at hq
  exact va_get (D := jG E) C.1.1 C.1.2.1 C.1.2.2.2.2 hin C.1.2.2.2.1 C.2.1 hP q hq hc kf hk (C.1.2.2.2.2 _ hlink) (fun _ h9 => h9) hv hd (k p l e R s m args below meth c cells slots Q A C Z K ls H locs hl hP hD hS)
set_option maxHeartbeats 1000000 in
theorem x_callV {rr : jR} {ci : Nat} {fs : List Value} (hd : decode M.2.1 pc = .ok (.invokevirtual idx, 3)) (hM : jMR E D' N (.ref (E.1 rr) :: As) S v S1) (hv : v.length ≤ 1) (hDD : D' + 1 ≤ D) (hN : jOK N n) (hI : Cond.instanceMethod N.1 ∈ jAll) (hsel : Cond.selects N.1.cls N.1 N.1 ∈ jAll) (hL : Cond.methodLink M.1.cls idx N.1 ∈ jAll) (hr : rr ∈ jL E) (he : jenc E S rr = .inr (ci, fs)) (hc : (vwCl[ci]?).map (fun q => q.1) = some N.1.cls) (hn : As.length = n) (hst : st = As.reverse ++ .ref (E.1 rr) :: rest) (hcat : (rest.map fun v => v.category).sum ≤ 8)
    (k : JX E ak av D M (pc + 3) lv (v ++ rest) S1 r S') : JX E ak av D M pc lv st S r S' := by
  intro p l e R s m args below meth c cells slots Q A C Z K ls H locs hl hP hD hS
  subst hst
  have hlo := C.2.2.2.2.2.1
  have hfr := C.2.2.2.2.1
  have hmx := hN.2.2.2.2.1
  have hts := C.1.2.2.2.2
  obtain ⟨q, hq⟩ := jws_get (S := S) hr
  rw [he] at hq
  obtain ⟨cq, hcq, hcn⟩ := Option.map_eq_some_iff.mp hc
  have hrecv := va_recv C.2.1 hP hcq hq
  rw [hcn] at hrecv
  refine jBehind (E := E) (S := S) (S1 := S1) (v := v) (a := (Value.ref (E.1 rr) :: As).toArray) (rest := rest) hv ?_ hD hS C.2.2.2.1 (fun H1 locs1 hP1 hS1 => k p l e R s m args below meth c cells slots Q A C Z K ls H1 locs1 hl hP1 (jD_any hD) hS1)
  refine va_runV (C := N.1.cls) (n := n) (bytes := N.2.1) (maxL := N.2.2.1) (ret := N.2.2.2) (Ts := jAll) (own := M.1.cls) (As := As) (rest := rest) ⟨C.1.1, C.1.2.1, C.1.2.2.1, C.1.2.2.2.1, hts⟩ (jMet hN hM l H.size) (cwV n hts ?_ rfl rfl rfl ⟨rfl, hN.2.2.2.1⟩ ⟨by simp only [jrm]; omega, by simp only [jrm]; omega⟩) ⟨jBlind, hrecv, fun U hU hW => ⟨rfl, by rw [hU], by rw [hU]; exact hP, va_K.moved hW.alike C.2.1, hD.weaken (fun _ _ _ _ => trivial), jNW.warm hW C.2.2.1⟩⟩ rfl hn hl.1 rfl (lv_room hcat) hd ⟨C.2.2.2.2.2.2.1, C.2.2.2.2.2.2.2.1⟩
  intro w hw
  rcases List.mem_append.mp hw with hw | hw
  · have hm : w ∈ jAll := by
      simp only [List.mem_cons, List.not_mem_nil, or_false] at hw
      rcases hw with rfl | rfl | rfl | rfl
      · exact hL
      · exact hI
      · exact hsel
      · exact hN.2.2.1
    exact ⟨hm, good_of_word (jAll_good _ hm)⟩
  · exact jGood hN w hw
set_option maxHeartbeats 1000000 in
theorem x_callT (hd : decode M.2.1 pc = .ok (.invokevirtual idx, 3)) (hM : sMR ak av D' N (.ref ak :: As) v) (hv : v.length ≤ 1) (hDD : D' + 1 ≤ D) (hN : jOK N n) (hcls : N.1.cls = "java/lang/String") (hI : Cond.instanceMethod N.1 ∈ jAll) (hsel : Cond.selects N.1.cls N.1 N.1 ∈ jAll) (hL : Cond.methodLink M.1.cls idx N.1 ∈ jAll) (hn : As.length = n) (hst : st = As.reverse ++ .ref ak :: rest) (hcat : (rest.map fun v => v.category).sum ≤ 8)
    (k : JX E ak av D M (pc + 3) lv (v ++ rest) S r S') : JX E ak av D M pc lv st S r S' := by
  intro p l e R s m args below meth c cells slots Q A C Z K ls H locs hl hP hD hS
  subst hst
  have hlo := C.2.2.2.2.2.1
  have hfr := C.2.2.2.2.1
  have hmx := hN.2.2.2.2.1
  have hts := C.1.2.2.2.2
  have hrecv := vk_recv Z.2.1 (i := 0) (by omega) hS
  rw [← hcls] at hrecv
  refine sBehind (v := v) (a := (Value.ref ak :: As).toArray) (rest := rest) hv ?_ hS C.2.2.2.1 (fun H1 locs1 hk1 hS1 => k p l e R s m args below meth c cells slots Q A C Z K ls H1 locs1 hl (hP.kept (fun j x hx => hk1 x.1 (hP j x hx).lt)) hD hS1)
  refine va_runV (C := N.1.cls) (n := n) (bytes := N.2.1) (maxL := N.2.2.1) (ret := N.2.2.2) (Ts := jAll) (own := M.1.cls) (As := As) (rest := rest) ⟨C.1.1, C.1.2.1, C.1.2.2.1, C.1.2.2.2.1, hts⟩ (sMet hN hM l H.size) (cwV n hts ?_ rfl rfl rfl ⟨rfl, hN.2.2.2.1⟩ ⟨by simp only [jrm]; omega, by simp only [jrm]; omega⟩) ⟨sBlind, hrecv, fun U hU hW => ⟨rfl, nS.call Z hS hU hW⟩⟩ rfl hn hl.1 rfl (lv_room hcat) hd ⟨C.2.2.2.2.2.2.1, C.2.2.2.2.2.2.2.1⟩
  intro w hw
  rcases List.mem_append.mp hw with hw | hw
  · have hm : w ∈ jAll := by
      simp only [List.mem_cons, List.not_mem_nil, or_false] at hw
      rcases hw with rfl | rfl | rfl | rfl
      · exact hL
      · exact hI
      · exact hsel
      · exact hN.2.2.1
    exact ⟨hm, good_of_word (jAll_good _ hm)⟩
  · exact jGood hN w hw
end XRules
