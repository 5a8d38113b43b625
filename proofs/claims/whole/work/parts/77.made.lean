/-! ===== both constructors, as contracts ===== -/
abbrev xLv (E : jE) (k : Nat) : List (Nat × Value) := [(0, .ref (E.1 (0, 0))), (1, .int (nI k))]
set_option maxRecDepth 10000 in
set_option maxHeartbeats 4000000 in
theorem dq_end {E : jE} (hC : jHC E) {S S1 : jS} (h : fX7_layText S = some (1, S1)) : JR E 30 mX7_init 100 [(0, .ref (E.1 (0, 0)))] [] S [] (jset S1 (0, 0) 0) := by
  refine j_aload_n (pc := 100) 0 dX7_init_100 rfl rfl ?_
  refine j_callV (pc := 101) (N := mX7_layText) (rr := (0, 0)) (As := []) (rest := []) (v := [.int 1]) (S1 := S1) dX7_init_101 (kX7_layText hC h) (by simp) (by decide) okX7_layText tw_365 tw_0 tw_363 (hC (0, 0) rfl) rfl rfl rfl rfl (by simp) ?_
  refine j_pop (pc := 104) dX7_init_104 rfl ?_
  refine j_aload_n (pc := 105) 0 dX7_init_105 rfl rfl ?_
  refine jg_0_0 (pc := 106) dX7_init_106 (hC (0, 0) rfl) tw_478 ?_
  refine j_iconst (pc := 109) dX7_init_109 jci_0 ?_
  refine jp_0 (pc := 110) dX7_init_110 (hC (1, 0) rfl) tw_100 rfl ?_
  exact j_vret (pc := 113) dX7_init_113 rfl
set_option maxRecDepth 10000 in
set_option maxHeartbeats 4000000 in
theorem dq_loop {E : jE} (hC : jHC E) {ak av : Nat} {Wh : Nat → aW} {T : Nat → Int32} : ∀ (d k : Nat) (S : jS), k + d = 97 → aI k S → ∃ S', JX E ak av 30 mX7_init 72 (xLv E k) [] S [] S' ∧ CS S' 0 Wh A_F 0 T := by
  intro d
  induction d with
  | zero =>
    intro k S hk I
    obtain rfl : k = 97 := by omega
    obtain ⟨S1, a1, a2⟩ := c_init (W := Wh) (T := T) I
    refine ⟨jset S1 (0, 0) 0, ?_, a2⟩
    refine x_iload_n (pc := 72) 1 dX7_init_72 rfl rfl ?_
    refine x_ldc (pc := 73) dX7_init_73 rfl ?_
    refine x_callT (pc := 75) (N := mJ0_length) (As := []) (rest := [.int (nI 97)]) (v := [.int 97]) dX7_init_75 kJ0_length (by simp) (by decide) okJ0_length rfl tw_312 tw_313 tw_311 rfl rfl (by simp [Value.category]) ?_
    refine x_icmp_ge (pc := 78) (tgt := 100) dX7_init_78 (by decide) (fun _ => ?_) (fun h => absurd (by decide) h)
    exact x_sub [0] rfl (x_of (dq_end hC a1))
  | succ d ih =>
    intro k S hk I
    obtain ⟨S1, a1, a2⟩ := c_append (by omega) I
    obtain ⟨S', b1, b2⟩ := ih (k + 1) S1 (by omega) a2
    refine ⟨S', ?_, b2⟩
    refine x_iload_n (pc := 72) 1 dX7_init_72 rfl rfl ?_
    refine x_ldc (pc := 73) dX7_init_73 rfl ?_
    refine x_callT (pc := 75) (N := mJ0_length) (As := []) (rest := [.int (nI k)]) (v := [.int 97]) dX7_init_75 kJ0_length (by simp) (by decide) okJ0_length rfl tw_312 tw_313 tw_311 rfl rfl (by simp [Value.category]) ?_
    refine x_icmp_ge (pc := 78) (tgt := 100) dX7_init_78 (by decide) (fun h => absurd ((nI_leI (a := 97) (b := k) (by omega) (by omega)).mp h) (by omega)) (fun _ => ?_)
    refine x_aload_n (pc := 81) 0 dX7_init_81 rfl rfl ?_
    refine x_get (pc := 82) (rr := (0, 0)) (ci := 7) (kf := 0) (N := 6) (Cn := RX7) (T := TX7) dX7_init_82 (hC (0, 0) rfl) rfl rfl (by decide) inX7 tw_478 rfl ?_
    refine x_ldc (pc := 85) dX7_init_85 rfl ?_
    refine x_iload_n (pc := 87) 1 dX7_init_87 rfl rfl ?_
    refine x_callT (pc := 88) (N := mJ0_charAt) (As := [.int (nI k)]) (rest := [.ref (E.1 (1, 0))]) (v := [.int (hL l_T k)]) dX7_init_88 (kJ0_charAt (by omega)) (by simp) (by decide) okJ0_charAt rfl tw_322 tw_323 tw_321 rfl rfl (by simp [Value.category]) ?_
    refine x_callV (pc := 91) (N := mX5_append) (rr := (1, 0)) (As := [.int (hL l_T k)]) (rest := []) (v := []) (S1 := S1) dX7_init_91 (kX5_append hC a1) (by simp) (by decide) okX5_append tw_360 tw_361 tw_359 (hC (1, 0) rfl) rfl rfl rfl rfl (by simp) ?_
    refine x_iinc (pc := 94) (v := nI (k + 1)) (lv' := [(1, .int (nI (k + 1))), (0, .ref (E.1 (0, 0)))]) 1 dX7_init_94 rfl (nI_1 k) (by decide) rfl ?_
    refine x_goto (pc := 97) (tgt := 72) dX7_init_97 (by decide) ?_
    exact x_sub [1, 0] rfl b1
/-- the environment with these addresses and these cells -/
def eE (E : jE) (f : jR → Nat) (L : List jR) : jE := (f, E.2.1, E.2.2.1, L, E.2.2.2.2)
theorem eE_enc {E : jE} {f : jR → Nat} {L : List jR} {S : jS} (r : jR) : jenc (eE E f L) S r = jenc (f, E.2) S r := rfl
theorem eE_wl {E : jE} {f : jR → Nat} {L : List jR} : jws (eE E f L) jZ = wl E f L := rfl
theorem jdomC_lt : ∀ r, jdomC r = true → r.1 < 45 ∧ r.2 < 6 := by
  intro r h
  unfold jdomC at h
  split at h <;> first | (have := Nat.eq_of_beq_eq_true h; omega) | (have := of_decide_eq_true h; omega) | cases h
theorem jdomC_b : (List.range 45).all (fun c => (List.range 6).all (fun i => !jdomC (c, i) || nLC.contains (c, i))) = true := by decide +kernel
theorem jdomC_all (c : Nat) (hc : c < 45) (i : Nat) (hi : i < 6) (h : jdomC (c, i) = true) : (c, i) ∈ nLC := by
  have h1 := List.all_eq_true.mp jdomC_b c (List.mem_range.mpr hc)
  have h2 := List.all_eq_true.mp h1 i (List.mem_range.mpr hi)
  rw [h] at h2
  exact List.contains_iff_mem.mp h2
theorem jHC_E {E : jE} (h : ∀ r, r ∈ nLC → r ∈ jL E) : jHC E := by
  intro r hr
  obtain ⟨c, i⟩ := r
  obtain ⟨h1, h2⟩ := jdomC_lt (c, i) hr
  exact h _ (jdomC_all c h1 i h2 hr)
theorem jHM_E {E : jE} (h : ∀ r, r ∈ nLR → r ∈ jL E) : jHM E := by
  intro r hr
  obtain ⟨c, i⟩ := r
  simp only [jdomM, Bool.and_eq_true, Bool.or_eq_true] at hr
  obtain ⟨h1, h2⟩ := hr
  have e1 : i = 0 := Nat.eq_of_beq_eq_true h1
  have e2 : c = 9 ∨ (50 ≤ c ∧ c ≤ 64) := by
    rcases h2 with h2 | ⟨h2, h3⟩
    · exact Or.inl (Nat.eq_of_beq_eq_true h2)
    · exact Or.inr ⟨Nat.le_of_ble_eq_true h2, Nat.le_of_ble_eq_true h3⟩
  subst e1
  have all : ∀ c, c < 65 → (c = 9 ∨ (50 ≤ c ∧ c ≤ 64)) → (c, 0) ∈ nLR := by decide +kernel
  exact h _ (all c (by omega) e2)
abbrev bl7 : va_E := .inr (7, [.null, .null, .null, .null, .null, .null])
abbrev bl8 : va_E := .inr (8, [.null, .null, .null, .int 0, .null, .int 0, .null, .int 0, .null, .null, .null, .null, .null, .null, .int 0, .int 0, .null, .null, .null, .null])
def dPost (E : jE) (a : Nat) (Wh : Nat → aW) (T : Nat → Int32) (ws : va_W) : Prop := ∃ (f : jR → Nat) (S : jS), f (0, 0) = a ∧ CS S 0 Wh A_F 0 T ∧ ws = jws (eE E f nLC) S
def mPost (E : jE) (a : Nat) (Wh : Nat → aW) (T : Nat → Int32) (ws : va_W) : Prop := ∃ (f : jR → Nat) (S : jS), f (9, 0) = a ∧ MS S 0 Wh A_F 0 T ∧ ws = jws (eE E f nLR) S
def dqB (E : jE) (ak av a sz : Nat) (U : State) : Prop := U.heap.size = sz ∧ nB E [(a, bl7)] U ∧ nS ak av (va_A [(a, bl7)] sz) U U.heap
set_option maxHeartbeats 4000000 in
theorem dMet {E : jE} {ak av a : Nat} {Wh : Nat → aW} {T : Nat → Int32} (l : Launch) (sz : Nat) : Met l yX7_init (jTs mX7_init) (nrm 30 111 5579) (va_Pc [.ref a] (dqB E ak av a sz)) (nQ E (dPost E a Wh T) (va_A [(a, bl7)] sz)) 111 5579 (va_A [(a, bl7)] sz) := by
  refine Met.ofW (cc := cX7_init) (maxL := 2) (ret := none) (ws' := jAll) okX7_init.1 rfl ?_
  intro p e s m args below meth c s₁ B hml hv
  obtain ⟨rfl, hsz, ⟨hP, hK, hD0, hNW, hAO⟩, hZ⟩ := hv
  have hx := B.exec
  have hb := B.bytes
  have hr := B.returns
  have hts := atoms_spec (ws := jTs mX7_init) B.pre
  have hown : s.vm.findClass yX7_init.cls = some m.cls := findClass_of_methodNamed B.named
  have hlocks := B.notSynchronized
  have hin : meth.name = "<init>" := (name_of_methodNamed B.named B.method).1
  subst hsz
  have hD := hD0.self (sz := s.heap.size)
  have hA : ∀ q : Nat, s.heap.size ≤ q → va_A [(a, bl7)] s.heap.size q := fun q h => Or.inr h
  have hl := lv_entry [.ref a] (n := 2) (Nat.le_of_ble_eq_true rfl)
  rw [lg_entry_eq]
  have hts' : ∀ w ∈ jAll, w.before #[Value.ref a] s = true := fun w hw => hts w (List.mem_cons_of_mem _ hw)
  refine nX7 (E := E) (a := a) p l e (nrm 30 111 5579) s m _ below meth c 0 0 111 5579 _ (va_A [(a, bl7)] s.heap.size) ⟨⟨hx, hb, hml, hown, hts'⟩, hK, hNW, hAO, hA, by show 4 ≤ 30; omega, by show 64 * 4 ≤ 64 * 30; omega, hin⟩ (by omega) (by omega) (Nat.le_refl _) (Nat.le_refl _) ?_ _ _ _ hl hP hD va_S.rf
  intro pc' lv' ls' H' locs' ws' hfin hl' hp hP' hD' hS'
  obtain ⟨rfl, rfl⟩ := hfin
  obtain ⟨f, hf, rfl⟩ := hp
  have hC : jHC (eE E f nLC) := jHC_E (fun r hr => hr)
  obtain ⟨S', b1, b2⟩ := dq_loop (E := eE E f nLC) hC (ak := ak) (av := av) (Wh := Wh) (T := T) 97 0 jZ (by omega) ⟨rfl, fun j hj => by omega, rfl⟩
  have b3 : JX (eE E f nLC) ak av 30 mX7_init 70 [(0, .ref ((eE E f nLC).1 (0, 0)))] [] jZ [] S' := by
    refine x_iconst (pc := 70) dX7_init_70 jci_0 ?_
    refine x_istore_n (pc := 71) (lv' := [(1, .int 0), (0, .ref ((eE E f nLC).1 (0, 0)))]) dX7_init_71 rfl (by decide) rfl ?_
    exact x_sub [1, 0] rfl b1
  have hf' : (eE E f nLC).1 (0, 0) = a := hf
  rw [hf'] at b3
  refine b3 p l e (nrm 30 111 5579) s m _ below meth c 111 5579 _ (va_A [(a, bl7)] s.heap.size) ⟨⟨hx, hb, hml, hown, hts'⟩, hK, hNW, hA, Nat.le_refl _, Nat.le_refl _, Nat.le_refl _, Nat.le_refl _, fun h9 => absurd h9 (by decide)⟩ hZ ?_ ls' H' locs' hl' hP' hD' hS'
  intro pc2 ls2 H2 locs2 hret hP2 hD2 hS2
  rcases hret with ⟨hd, v, h9, -⟩ | ⟨hd, -, hty⟩
  · cases h9
  · exact W.vret hx hb hr (fun t ht hW => ⟨⟨_, rfl, ⟨f, S', hf, b2, rfl⟩, by rw [ht]; exact hP2, hD2⟩, hS2.F ht⟩) hS2.2.2 hd
set_option maxHeartbeats 4000000 in
theorem mMet {E : jE} {a : Nat} {Wh : Nat → aW} {T : Nat → Int32} (l : Launch) (sz : Nat) : Met l yX8_init (jTs mX8_init) (nrm 30 15 8282) (va_Pc [.ref a] (fun U => U.heap.size = sz ∧ nB E [(a, bl8)] U)) (nQ E (mPost E a Wh T) (va_A [(a, bl8)] sz)) 15 8282 (va_A [(a, bl8)] sz) := by
  refine Met.ofW (cc := cX8_init) (maxL := 1) (ret := none) (ws' := jAll) okX8_init.1 rfl ?_
  intro p e s m args below meth c s₁ B hml hv
  obtain ⟨rfl, hsz, hP, hK, hD0, hNW, hAO⟩ := hv
  have hx := B.exec
  have hb := B.bytes
  have hr := B.returns
  have hts := atoms_spec (ws := jTs mX8_init) B.pre
  have hown : s.vm.findClass yX8_init.cls = some m.cls := findClass_of_methodNamed B.named
  have hlocks := B.notSynchronized
  have hin : meth.name = "<init>" := (name_of_methodNamed B.named B.method).1
  subst hsz
  have hD := hD0.self (sz := s.heap.size)
  have hA : ∀ q : Nat, s.heap.size ≤ q → va_A [(a, bl8)] s.heap.size q := fun q h => Or.inr h
  have hl := lv_entry [.ref a] (n := 1) (Nat.le_of_ble_eq_true rfl)
  rw [lg_entry_eq]
  have hts' : ∀ w ∈ jAll, w.before #[Value.ref a] s = true := fun w hw => hts w (List.mem_cons_of_mem _ hw)
  refine nX8 (E := E) (a := a) p l e (nrm 30 15 8282) s m _ below meth c 0 0 15 8282 _ (va_A [(a, bl8)] s.heap.size) ⟨⟨hx, hb, hml, hown, hts'⟩, hK, hNW, hAO, hA, by show 4 ≤ 30; omega, by show 64 * 4 ≤ 64 * 30; omega, hin⟩ (by omega) (by omega) (Nat.le_refl _) (Nat.le_refl _) ?_ _ _ _ hl hP hD va_S.rf
  intro pc' lv' ls' H' locs' ws' hfin hl' hp hP' hD' hS'
  obtain ⟨rfl, rfl⟩ := hfin
  obtain ⟨f, hf, rfl⟩ := hp
  have hM : jHM (eE E f nLR) := jHM_E (fun r hr => hr)
  obtain ⟨S', b1, b2⟩ := m_init (W := Wh) (T := T)
  have b3 := kX8_init_130 (E := eE E f nLR) hM b1
  have hf' : (eE E f nLR).1 (9, 0) = a := hf
  rw [hf'] at b3
  refine b3 p l e (nrm 30 15 8282) s m _ below meth c 15 8282 _ (va_A [(a, bl8)] s.heap.size) ⟨⟨hx, hb, hml, hown, hts'⟩, hK, hNW, hA, by show 9 ≤ 30; omega, by show 64 * 9 ≤ 64 * 30; omega, Nat.le_refl _, Nat.le_refl _, fun h9 => absurd h9 (by decide)⟩ ?_ ls' H' locs' hl' hP' hD' hS'
  intro pc2 ls2 H2 locs2 hret hP2 hD2 hS2
  rcases hret with ⟨hd, v, h9, -⟩ | ⟨hd, -, hty⟩
  · cases h9
  · exact W.vret hx hb hr (fun t ht hW => ⟨⟨_, rfl, ⟨f, S', hf, b2, rfl⟩, by rw [ht]; exact hP2, hD2⟩, hS2.F ht⟩) hS2.2.2 hd
