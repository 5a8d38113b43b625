/-! THE CLAIM OUT OF ONE WALK OF THE LAW'S BODY. Your part is whole_start (and what it stands on); all else here is the same for every law, but numbers. -/
def R_law : String := "DropQueuesLaw"
def lw_P (b : Addr) (xs : List Int32) (args : Array Value) (s : State) : Prop := args = #[.ref b] ∧ s.IntsAt b xs ∧ xs.length ≤ 2048 ∧ (Jvm.Cond.and given_1 narrow_1).before args s = true
def lw_Q (_ : Array Value) (s : State) (o : Outcome) (t : State) : Prop := o = .returned (some (.int 1)) ∧ Framed s o t [] 600000 7302250
def lw_Z (below : List Frame) (a : Array Value) (s : State) : State → Prop := fun t => ∃ o, t.status = .running ∧ Ended t below o ∧ lw_Q a s o t
/-- the law's own end, with 1 on the stack, nothing written that was there before, its room as the claim has it -/
theorem lw_ret {p : Program} {l : Launch} {e : Env} {s : State} {m : MethodId} {below : List Frame} {meth : Method} {c : Code} {b : Nat} (hx : p.tables.exec = Jvm.exec) (hb : c.code = code) (hr : meth.sig.returnType = ret) (hlocks : meth.locks = false) {pc : Nat} {H : Heap} {ls : Array Slot} (hdg : decode code pc = .ok (.ireturn, 1)) : W p l e room_1 s m #[Value.ref b] below meth c H [] 600000 7302250 (lw_Z below #[Value.ref b] s) (F0 m pc ls [.int 1]) := by
  intro T hT X
  obtain ⟨fs, hret, hrun, hended, hW, hframe⟩ := X.leave (v := some (.int 1)) (hlocks := hlocks) (fun h => by rw [hr] at h; cases h)
  have hmeth' : T.vm.method? m = some meth := X.method'
  refine ⟨T.setFrames fs, ?_, .returned (some (.int 1)), hrun, hended, rfl, ⟨_, rfl⟩, hW, hframe⟩
  jvm_step X.here [X.here.top, hx, hb, hdg, hmeth', hr, ret, narrow_b1]
  (try refine ⟨rfl, ?_⟩); (try refine ⟨rfl, ?_⟩)
  first | (intro acts; rw [hret _ acts rfl rfl rfl]) | rw [hret _ _ rfl rfl rfl]
  exact Steps.refl _
/-- what holds at the law's entry: the machine, the code, the tables' words (any of lw_tbl by 'hts w (by decide +kernel)'), the script of L ints xs at the cell b, what the Statement gives of the start (any of its parts by flat_of_before) -/
def lw_At (p : Program) (s : State) (m : MethodId) (meth : Method) (c : Code) (b L : Nat) (xs : Nat → Int32) : Prop :=
  p.tables.exec = Jvm.exec ∧ c.code = code ∧ meth.sig.returnType = ret ∧ c.maxLocals = 4 ∧ s.vm.findClass R_law = some m.cls ∧ (∀ w ∈ lw_tbl, w.before #[Value.ref b] s = true) ∧ va_X b L xs s s.heap ∧ b < s.heap.size ∧ meth.locks = false ∧ (Jvm.Cond.and given_1 narrow_1).before #[Value.ref b] s = true
/-! ===== what the tables and the start give ===== -/
theorem e_arr {s : State} {args : Array Value} {ty : FieldType} (h : (Cond.arrayClass ty).before args s = true) (hty : ty = .int ∨ ty = .char ∨ ty = .boolean) : ∃ cA : ClassId, ArrOfT s cA ty ∧ va_RA s cA ty := by
  obtain ⟨cA, kA, comp, h1, h2, h3⟩ := Cond.arrayClass_spec h
  refine ⟨cA, fun n z => ⟨fun k h => (by cases h), kA, h2, comp, h3⟩, ?_⟩
  rcases hty with rfl | rfl | rfl <;> exact h1
theorem e_arO {s : State} {args : Array Value} (h : (Cond.arrayOver (.object "DropQueues$World")).before args s = true) : ∃ cA : ClassId, ArrOfT s cA (.object "DropQueues$World") ∧ va_RA s cA (.object "DropQueues$World") := by
  obtain ⟨comp, cA, kA, h1, -, h3, h4, h5⟩ := Cond.arrayOver_spec h
  exact ⟨cA, fun n z => ⟨fun k h => (by cases h), kA, h3, comp, h4⟩, kA, comp, h3, h4, h1, h5⟩
theorem e_cls {s : State} {args : Array Value} (hts : ∀ w ∈ jAll, w.before args s = true) : ∃ G : va_G, ∀ (k : Nat) (q : vw_C), vwCl[k]? = some q → u_Kn s q.1 q.2.1 q.2.2 (G.1 k) (G.2 k) := by
  obtain ⟨c0, i0, h0⟩ := u_known (C := RX0) (T := TX0) (N := 3) (n := 3) hts inX0 (hts _ tw_244)
  obtain ⟨c1, i1, h1⟩ := u_known (C := RX1) (T := TX1) (N := 4) (n := 4) hts inX1 (hts _ tw_289)
  obtain ⟨c2, i2, h2⟩ := u_known (C := RX2) (T := TX2) (N := 12) (n := 12) hts inX2 (hts _ tw_120)
  obtain ⟨c3, i3, h3⟩ := u_known (C := RX3) (T := TX3) (N := 4) (n := 4) hts inX3 (hts _ tw_264)
  obtain ⟨c4, i4, h4⟩ := u_known (C := RX4) (T := TX4) (N := 8) (n := 8) hts inX4 (hts _ tw_190)
  obtain ⟨c5, i5, h5⟩ := u_known (C := RX5) (T := TX5) (N := 3) (n := 3) hts inX5 (hts _ tw_95)
  obtain ⟨c6, i6, h6⟩ := u_known (C := RX6) (T := TX6) (N := 2) (n := 2) hts inX6 (hts _ tw_114)
  obtain ⟨c7, i7, h7⟩ := u_known (C := RX7) (T := TX7) (N := 6) (n := 6) hts inX7 (hts _ tw_87)
  obtain ⟨c8, i8, h8⟩ := u_known (C := RX8) (T := TX8) (N := 20) (n := 20) hts inX8 (hts _ tw_757)
  refine ⟨(fun k => match k with | 0 => c0 | 1 => c1 | 2 => c2 | 3 => c3 | 4 => c4 | 5 => c5 | 6 => c6 | 7 => c7 | _ => c8, fun k => match k with | 0 => i0 | 1 => i1 | 2 => i2 | 3 => i3 | 4 => i4 | 5 => i5 | 6 => i6 | 7 => i7 | _ => i8), ?_⟩
  intro k q hq
  match k, hq with
  | 0, hq => cases hq; exact h0
  | 1, hq => cases hq; exact h1
  | 2, hq => cases hq; exact h2
  | 3, hq => cases hq; exact h3
  | 4, hq => cases hq; exact h4
  | 5, hq => cases hq; exact h5
  | 6, hq => cases hq; exact h6
  | 7, hq => cases hq; exact h7
  | 8, hq => cases hq; exact h8
  | k + 9, hq => simp [vwCl] at hq
abbrev eTm : Term := .string "DropQueues" 47
theorem e_in {w : Cond} (i : Nat) (h : lw_tbl[i]? = some w) : w ∈ lw_tbl := List.mem_of_getElem? h
set_option maxRecDepth 100000 in
theorem e_el : (List.range 97).all (fun j => decide (Cond.eq (.elem (.field eTm "java/lang/String" "value" "[B") (.int (Int32.ofNat j))) (.int (l_T.getD j 0)) ∈ flatC (Jvm.Cond.and given_1 narrow_1))) = true := by decide +kernel
theorem e_str {s : State} {args : Array Value} (hts : ∀ w ∈ lw_tbl, w.before args s = true) (hgv : (Jvm.Cond.and given_1 narrow_1).before args s = true) : ∃ ak av : Nat, nS ak av (fun q => s.heap.size ≤ q) s s.heap := by
  have hs := flat_of_before _ hgv
  have hA : ∀ a : Nat, a < s.heap.size → ¬ (fun q => s.heap.size ≤ q) a := fun a h q => by
    have : s.heap.size ≤ a := q
    omega
  obtain ⟨adK, adV, h1, h2⟩ := vk_Sof (args := args) (s := s) (N := 1) (tm := fun _ => eTm) (len := [97]) (byt := [l_T]) (A := fun q => s.heap.size ≤ q) (fun i hi => by
      obtain rfl : i = 0 := by omega
      decide) (fun i _ => hs _ (by decide +kernel)) (fun i _ => hs _ (by decide +kernel)) (fun i _ => hs _ (by decide +kernel)) (fun i hi => by
      obtain rfl : i = 0 := by omega
      exact hs _ (by decide +kernel)) (fun i hi j hj => by
      obtain rfl : i = 0 := by omega
      have h9 := List.all_eq_true.mp e_el j (List.mem_range.mpr hj)
      exact hs _ (of_decide_eq_true h9)) (fun i j hi hj hij => absurd (by omega) hij) hA
  refine ⟨adK 0, adV 0, vk_R.of (hts _ (e_in 310 (by decide +kernel))) (h2 0 (by omega)), ⟨fun i hi => ?_, fun i j hi hj _ => by omega⟩, va_Zof (hts _ (e_in 320 (by decide +kernel))) (hts _ (List.mem_filter.mp tw_77).1) (va_eqt (hs _ (by decide +kernel))) hA, va_Zqof (hts _ (e_in 336 (by decide +kernel))) (hts _ (List.mem_filter.mp tw_79).1) (hs _ (by decide +kernel)) hA⟩
  obtain rfl : i = 0 := by omega
  exact h1.1 0 hi
/-! ===== both sides as one ===== -/
def cE (E : jE) (f1 f2 : jR → Nat) : jE := (fun r => if r.1 < 50 ∧ r.1 ≠ 9 then f1 r else f2 r, E.2.1, E.2.2.1, nLC ++ nLR, E.2.2.2.2)
def cS (S1 S2 : jS) : jS := (fun r => if r.1 < 12 then S1.1 r else S2.1 r, fun r => if r.1 < 50 then S1.2 r else S2.2 r)
theorem jcy_eq {E E' : jE} (h : E.2.1 = E'.2.1) (k : Nat) : jcy E k = jcy E' k := by
  unfold jcy jCC jCZ jCI
  rw [h]
theorem jenc_c {E E' : jE} {S S' : jS} (h1 : ∀ c i, c < 50 → c ≠ 9 → E.1 (c, i) = E'.1 (c, i)) (h2 : E.2.1 = E'.2.1) (h3 : ∀ c i, c < 12 → S.1 (c, i) = S'.1 (c, i)) (h4 : ∀ c i, c < 50 → S.2 (c, i) = S'.2 (c, i)) {r : jR} (hr : r.1 < 50 ∧ r.1 ≠ 9) : jenc E S r = jenc E' S' r := by
  obtain ⟨k, i⟩ := r
  by_cases hk : 10 ≤ k
  · rw [jenc_arr _ _ _ hk, jenc_arr _ _ _ hk, jcy_eq h2, h4 k i hr.1]
  · have e2 : ∀ x, E.1 x = E'.1 x ∨ ¬ (x.1 < 50 ∧ x.1 ≠ 9) := fun x => by
      by_cases c : x.1 < 50 ∧ x.1 ≠ 9
      · exact Or.inl (h1 x.1 x.2 c.1 c.2)
      · exact Or.inr c
    have hk9 : k ≠ 9 := hr.2
    rcases (show k = 0 ∨ k = 1 ∨ k = 2 ∨ k = 3 ∨ k = 4 ∨ k = 5 ∨ k = 6 ∨ k = 7 ∨ k = 8 by omega) with rfl | rfl | rfl | rfl | rfl | rfl | rfl | rfl | rfl
    all_goals simp [jenc, jCO, h1, h3, h2]
theorem jenc_m {E E' : jE} {S S' : jS} (h1 : ∀ c i, 50 ≤ c ∨ c = 9 → E.1 (c, i) = E'.1 (c, i)) (h2 : E.2.1 = E'.2.1) (h3 : ∀ c i, 12 ≤ c → S.1 (c, i) = S'.1 (c, i)) (h4 : ∀ c i, 50 ≤ c → S.2 (c, i) = S'.2 (c, i)) {r : jR} (hr : 50 ≤ r.1 ∨ r.1 = 9) : jenc E S r = jenc E' S' r := by
  obtain ⟨k, i⟩ := r
  by_cases hk : 50 ≤ k
  · rw [jenc_arr _ _ _ (show 10 ≤ k by omega), jenc_arr _ _ _ (show 10 ≤ k by omega), jcy_eq h2, h4 k i hk]
  · obtain rfl : k = 9 := by
      rcases hr with h | h
      · exact absurd h hk
      · exact h
    simp [jenc, h1, h3, h2]
theorem nLC_k : ∀ r ∈ nLC, r.1 < 50 ∧ r.1 ≠ 9 := by decide +kernel
theorem nLR_k : ∀ r ∈ nLR, 50 ≤ r.1 ∨ r.1 = 9 := by decide +kernel
theorem cws {E : jE} {f1 f2 : jR → Nat} {S1 S2 : jS} : jws (cE E f1 f2) (cS S1 S2) = jws (eE E f1 nLC) S1 ++ jws (eE E f2 nLR) S2 := by
  show (nLC ++ nLR).map _ = nLC.map _ ++ nLR.map _
  rw [List.map_append]
  refine congr (congrArg HAppend.hAppend ?_) ?_
  · refine List.map_congr_left (fun r hr => ?_)
    have hk := nLC_k r hr
    have a1 : ∀ x : jR, x.1 < 50 ∧ x.1 ≠ 9 → (cE E f1 f2).1 x = (eE E f1 nLC).1 x := fun x hx => if_pos hx
    rw [a1 r hk, jenc_c (E' := eE E f1 nLC) (S' := S1) (fun c i q1 q2 => a1 (c, i) ⟨q1, q2⟩) rfl (fun c i q => if_pos q) (fun c i q => if_pos q) hk]
  · refine List.map_congr_left (fun r hr => ?_)
    have hk := nLR_k r hr
    have a1 : ∀ x : jR, 50 ≤ x.1 ∨ x.1 = 9 → (cE E f1 f2).1 x = (eE E f2 nLR).1 x := fun x hx => if_neg (fun q => by omega)
    rw [a1 r hk, jenc_m (E' := eE E f2 nLR) (S' := S2) (fun c i q => a1 (c, i) q) rfl (fun c i q => if_neg (by show ¬ c < 12; omega)) (fun c i q => if_neg (by show ¬ c < 50; omega)) hk]
theorem c_SM {S1 S2 : jS} {Wh : Nat → aW} {T : Nat → Int32} (h1 : CS S1 0 Wh A_F 0 T) (h2 : MS S2 0 Wh A_F 0 T) : SM 0 (cS S1 S2) := by
  refine ⟨0, Wh, A_F, 0, T, CS.fr (S := S1) ⟨fun r hr => if_pos ?_, fun r hr => if_pos ?_⟩ h1, MS.fr (S := S2) ⟨fun r hr => if_neg ?_, fun r hr => if_neg ?_⟩ h2, AV_F, fun i hi => by omega⟩
  · have : ¬ 12 ≤ r.1 := of_decide_eq_false hr
    omega
  · have : ¬ 50 ≤ r.1 := of_decide_eq_false hr
    omega
  · exact of_decide_eq_false hr
  · exact of_decide_eq_false hr
