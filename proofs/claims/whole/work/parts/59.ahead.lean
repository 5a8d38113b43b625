/-! ===== ahead, without ===== -/
theorem ZZ_scm {N kept n : Nat} {W : Nat → aW} {A : aW} {T : Nat → Int32} {S : jS} {f g : jS → Option (Int32 × jS)} {r : Int32} (C : CS S kept W A n T) (M : MS S kept W A n T) (V : VS N kept W A) (hf : ∃ S1, f S = some (r, S1) ∧ jFr gpS gqS S S1) (hg : ∀ S1, MS S1 kept W A n T → ∃ S2, g S1 = some (r, S2) ∧ MS S2 kept W A n T ∧ jFr gpD gqD S1 S2) : ZZ N S f g := by
  obtain ⟨S1, f1, f2⟩ := hf
  exact ZZ_of (r := r) M (V.mono (by omega)) ⟨S1, f1, C.scr f2, f2.C⟩ hg
def gqB (r : jR) : Bool := r == (50, 0) || r == (51, 0) || decide (54 ≤ r.1)
theorem gqB_D : ∀ r, gqB r = true → gqD r = true := fun r h => by
  simp only [gqB, Bool.or_eq_true, beq_iff_eq, decide_eq_true_eq] at h
  refine decide_eq_true ?_
  rcases h with (rfl | rfl) | h
  · decide
  · decide
  · omega
theorem gpE_D : ∀ r, gpE r = true → gpD r = true := fun r h => by
  simp only [gpE, Bool.or_eq_true, beq_iff_eq] at h
  rcases h with (rfl | rfl) | rfl <;> decide
theorem gpG_E : ∀ r, gpG r = true → gpE r = true := fun r h => by
  simp only [gpG, Bool.or_eq_true, beq_iff_eq] at h
  rcases h with rfl | rfl <;> decide
theorem gqG_B : ∀ r, gqG r = true → gqB r = true := fun r h => by
  simp only [gqG, Bool.or_eq_true, beq_iff_eq] at h
  rcases h with (((((((rfl | rfl) | rfl) | rfl) | rfl) | rfl) | rfl) | rfl) | rfl <;> decide
theorem g64_B : ∀ r : jR, (r == (64, 0)) = true → gqB r = true := fun r h => by
  simp only [beq_iff_eq] at h
  subst h
  decide
/-- the row comes back -/
theorem m_back {S S1 : jS} {kept n : Nat} {W : Nat → aW} {A : aW} {T : Nat → Int32} (M : MS S kept W A n T) (F : jFr gpE gqB S S1) (e : ∀ j, j < 815 → S1.2 (51, 0) j = S.2 (50, 0) j) : ∃ S2, fX8_comesBack S1 = some S2 ∧ MS S2 kept W A n T ∧ jFr gpD gqD S S2 := by
  have F2 : jFr gpD gqD S (jput S1 (50, 0) (fun j => if j < 815 then S1.2 (51, 0) j else S1.2 (50, 0) j)) := (F.mono gpE_D gqB_D).tr (jFr.put rfl)
  refine ⟨_, sX8_comesBack S1, ?_, F2⟩
  obtain ⟨R, e0, hn, eT⟩ := M
  refine ⟨R.now ?_ ?_ ?_, ?_, hn, fun j hj => ?_⟩
  · exact F.1 (12, 0) (by decide)
  · rw [jput_o (by decide)]
    exact F.2 (52, 0) (by decide)
  · rw [jput_at]
    exact WM_congr (fun j hj => by rw [if_pos hj]; exact e j hj) R.1
  · exact (F.1 (13, 0) (by decide)).trans e0
  · rw [jput_o (by decide), F.2 (53, 0) (by decide)]
    exact eT j hj
/-- the reference lays its row aside -/
theorem m_aside (S : jS) : ∃ S1, fX8_laysAside S = some S1 ∧ S1.2 (50, 0) = S.2 (50, 0) ∧ (∀ j, j < 815 → S1.2 (51, 0) j = S.2 (50, 0) j) ∧ jFr gpE gqB S S1 := by
  refine ⟨_, sX8_laysAside S, jput_o (by decide), fun j hj => ?_, jFr.put (by decide)⟩
  rw [jput_at, if_pos hj]
theorem gpM1_S : ∀ r, gpM 1 r = true → gpS r = true := fun r h => by
  simp only [gpM, Bool.or_eq_true, beq_iff_eq] at h
  rcases h with ((rfl | rfl) | rfl) | rfl <;> decide
theorem gqM1_S : ∀ r, gqM 1 r = true → gqS r = true := fun r h => by
  simp only [gqM, gqT, gq3x, gq40, Bool.or_eq_true, beq_iff_eq] at h
  rcases h with (((((((rfl | rfl) | rfl) | rfl) | rfl) | rfl) | rfl) | rfl) | (rfl | rfl) <;> decide
theorem gpK1_S : ∀ r, gpK 1 r = true → gpS r = true := fun r h => by simp only [gpS, h, Bool.or_true]
theorem gqK1_S : ∀ r, gqK 1 r = true → gqS r = true := fun r h => by simp only [gqS, h, Bool.or_true, Bool.true_or]
/-- the class tries -/
theorem c_trial {S : jS} {A : aW} (H : HV A.1) (w : WC 0 S A.1 A.2) : ∃ S1, fX6_copyFrom 1 0 S = some S1 ∧ WC 1 S1 A.1 A.2 ∧ jFr gpS gqS S S1 := by
  obtain ⟨S1, a1, a2⟩ := sX6_copyFrom (k := 1) (k2 := 0) (S := S) (by omega)
  exact ⟨S1, a1, WC_copy H a2 w, (a2.fr (by decide) (by decide)).mono gpK1_S gqK1_S⟩
/-- the answer of a trial -/
def aSi (wh : Nat) (A B : aW) : Int32 := if wh = 0 then aPk B.2 18 else if wh = 1 then aTh B.1 - aTh A.1 else B.1 76 - A.1 76
theorem c_since {S : jS} {A B : aW} {wh : Nat} (hw : wh ≤ 2) (w0 : WC 0 S A.1 A.2) (w1 : WC 1 S B.1 B.2) : fX7_trialSince S (nI wh) = some (aSi wh A B, S) := by
  unfold fX7_trialSince aSi
  by_cases c0 : wh = 0
  · subst c0
    rw [if_pos nI_0, if_pos rfl, sX4_packets w1.2.2, Option.bind_some]
  rw [if_neg (fun q : nI wh = 0 => c0 ((nI_eq (b := 0) (by omega) (by omega)).mp q)), if_neg c0]
  by_cases c1 : wh = 1
  · subst c1
    rw [if_pos (show nI 1 = (1 : Int32) from rfl), if_pos rfl, sX4_thereInAll w1.2.2, Option.bind_some]
    dsimp only
    rw [sX4_thereInAll w0.2.2, Option.bind_some]
  rw [if_neg (fun q : nI wh = (1 : Int32) => c1 ((nI_eq (b := 1) (by omega) (by omega)).mp q)), if_neg c1, w1.2.2.1.2.1, w0.2.2.1.2.1]
noncomputable def aMx (bar : Nat → Bool) (fs : Nat → Nat → Nat) (A : aW) : Nat → Int32
  | 0 => 0
  | i + 1 => if aMx bar fs A i < aSq (aIt bar fs A (i + 1)).2 18 then aSq (aIt bar fs A (i + 1)).2 18 else aMx bar fs A i
theorem sX7_ahead_37 {n T : Nat} {A : aW} {y : Int32} (H : HV A.1) (hn : n ≤ 60) (hT : T + 61 < 2 ^ 31) : ∀ (d fu i : Nat) (S : jS), cI 1 S (fun l => (0 : Nat).testBit l) (fun _ => hfe A.1) A T i → i + d = n → d < fu → ∃ S' fu', fX7_ahead_37 fu S (nI n) y (aMx (fun l => (0 : Nat).testBit l) (fun _ => hfe A.1) A i) (nI i) = fX7_ahead_37 (fu' + 1) S' (nI n) y (aMx (fun l => (0 : Nat).testBit l) (fun _ => hfe A.1) A n) (nI n) ∧ cI 1 S' (fun l => (0 : Nat).testBit l) (fun _ => hfe A.1) A T n ∧ jFr gpS gqS S S' := by
  intro d
  induction d with
  | zero =>
    intro fu i S I hd hf
    obtain ⟨fu, rfl⟩ : ∃ m, fu = m + 1 := ⟨fu - 1, by omega⟩
    obtain rfl : i = n := by omega
    exact ⟨S, fu, rfl, I, jFr.rf⟩
  | succ d ih =>
    intro fu i S I hd hf
    obtain ⟨fu, rfl⟩ : ∃ m, fu = m + 1 := ⟨fu - 1, by omega⟩
    obtain ⟨S1, a1, a2, a3⟩ := cI_step (bar := 0) (a := (25, 1)) (by omega) I rfl (by decide) (fun q hq => by have := (H.fe hq).2; omega) (fun i' g h1 h2 h3 => H.fz h1 h2 h3) (fun i' g h1 h2 => cI_feeds H I _ (by have := H.1.2.2; have := H.2.1.2.2; omega))
    obtain ⟨S', fu', b1, b2, b3⟩ := ih fu (i + 1) S1 a2 (by omega) (by omega)
    refine ⟨S', fu', ?_, b2, (a3.mono gpM1_S gqM1_S).tr b3⟩
    show bX7_ahead_37 (fX7_ahead_37 fu) S _ _ _ _ = _
    unfold bX7_ahead_37
    have a1' : fX1_move 1 (25, 1) S 0 = some S1 := a1
    rw [if_neg (fun q => by have := (nI_leI (a := n) (b := i) (by omega) (by omega)).mp q; omega), a1', Option.bind_some, sX4_squares a2.1.2.2, Option.bind_some, jlet_eq, jlet_eq, nI_1]
    exact b1
theorem sX8_ahead_54 {n T : Nat} {A : aW} {y u v : Int32} (H : HV A.1) (hn : n ≤ 60) (hT : T + 61 < 2 ^ 20) : ∀ (d fu i : Nat) (S : jS), mI S (fun l => (0 : Nat).testBit l) (fun _ => hfe A.1) A T i → (∀ q, q < 18 → S.2 (64, 0) q = nI (hfe A.1 q)) → i + d = n → d < fu → ∃ S' fu', fX8_ahead_54 fu S (nI n) y u v (aMx (fun l => (0 : Nat).testBit l) (fun _ => hfe A.1) A i) (nI i) = fX8_ahead_54 (fu' + 1) S' (nI n) y u v (aMx (fun l => (0 : Nat).testBit l) (fun _ => hfe A.1) A n) (nI n) ∧ mI S' (fun l => (0 : Nat).testBit l) (fun _ => hfe A.1) A T n ∧ jFr gpG gqG S S' := by
  intro d
  induction d with
  | zero =>
    intro fu i S I ef hd hf
    obtain ⟨fu, rfl⟩ : ∃ m, fu = m + 1 := ⟨fu - 1, by omega⟩
    obtain rfl : i = n := by omega
    exact ⟨S, fu, rfl, I, jFr.rf⟩
  | succ d ih =>
    intro fu i S I ef hd hf
    obtain ⟨fu, rfl⟩ : ∃ m, fu = m + 1 := ⟨fu - 1, by omega⟩
    obtain ⟨S1, a1, a2, a3⟩ := mI_step (but := -4) (by omega) I nb0 (fun q hq => by have := (H.fe hq).2; omega) (fun i' g h1 h2 h3 => H.fz h1 h2 h3) (fun i' g h1 h2 => ef _ (by have := H.1.2.2; have := H.2.1.2.2; omega))
    obtain ⟨S', fu', b1, b2, b3⟩ := ih fu (i + 1) S1 a2 (fun q hq => by rw [a3.2 (64, 0) (by decide)]; exact ef q hq) (by omega) (by omega)
    refine ⟨S', fu', ?_, b2, a3.tr b3⟩
    show bX8_ahead_54 (fX8_ahead_54 fu) S _ _ _ _ _ _ = _
    unfold bX8_ahead_54 bX8_ahead_84
    rw [if_neg (fun q => by have := (nI_leI (a := n) (b := i) (by omega) (by omega)).mp q; omega), a1, Option.bind_some, sX8_squares a2.1, Option.bind_some]
    dsimp only
    rw [sX8_squares a2.1, Option.bind_some]
    dsimp only
    rw [jlet_eq, jlet_eq, nI_1]
    rw [← b1]
    show _ = fX8_ahead_54 fu S1 (nI n) y u v (if aMx (fun l => (0 : Nat).testBit l) (fun _ => hfe A.1) A i < aSq (aIt (fun l => (0 : Nat).testBit l) (fun _ => hfe A.1) A (i + 1)).2 18 then aSq (aIt (fun l => (0 : Nat).testBit l) (fun _ => hfe A.1) A (i + 1)).2 18 else aMx (fun l => (0 : Nat).testBit l) (fun _ => hfe A.1) A i) (nI (i + 1))
    by_cases c : aMx (fun l => (0 : Nat).testBit l) (fun _ => hfe A.1) A i < aSq (aIt (fun l => (0 : Nat).testBit l) (fun _ => hfe A.1) A (i + 1)).2 18
    · rw [if_neg (fun q => Int32.not_lt.mpr q c), if_pos c]
    · rw [if_pos (Int32.not_lt.mp c), if_neg c]
theorem z_ahead {N : Nat} {S : jS} (h : SM N S) (hN : N < 2000) (x y : Int32) : ZZ N S (fun S => fX7_ahead S x y) (fun S => fX8_ahead S x y) := by
  obtain ⟨kept, W, A, n, T, C, M, V⟩ := h
  have H := V.1.1
  by_cases c1 : ∃ j, (1 ≤ j ∧ j ≤ 60) ∧ x = nI j
  case neg =>
    refine ZZ_bad (r := -1) C M V ?_ (fun S1 M1 => ?_)
    · show fX7_ahead S x y = _
      unfold fX7_ahead
      rw [wi_no S 1 60 (x := 1) (y := 60) (by omega) (by omega) c1 rfl rfl, Option.bind_some]
      rfl
    · show fX8_ahead S1 x y = _
      unfold fX8_ahead
      rw [in_no S1 (a := 1) (b := 60) (x := 1) (y := 60) c1 (by decide) (by decide), Option.bind_some]
      rfl
  obtain ⟨m, hm', rfl⟩ := c1
  by_cases c2 : ∃ j, (0 ≤ j ∧ j ≤ 3) ∧ y = nI j
  case neg =>
    refine ZZ_bad (r := -1) C M V ?_ (fun S1 M1 => ?_)
    · show fX7_ahead S (nI m) y = _
      unfold fX7_ahead
      rw [wi_yes S 1 60 (x := 1) (y := 60) hm'.1 hm'.2 (by omega) rfl rfl, Option.bind_some]
      dsimp only
      rw [if_neg (by decide), wi_no S 0 3 (x := 0) (y := 3) (by omega) (by omega) c2 rfl rfl, Option.bind_some]
      rfl
    · show fX8_ahead S1 (nI m) y = _
      unfold fX8_ahead
      rw [in_yes S1 (a := 1) (b := 60) (x := 1) (y := 60) hm'.1 hm'.2 (by omega) (by decide) (by decide), Option.bind_some]
      dsimp only
      rw [if_neg (by decide), in_no S1 (a := 0) (b := 3) (x := 0) (y := 3) c2 (by decide) (by decide), Option.bind_some]
      rfl
  obtain ⟨wh, hw, rfl⟩ := c2
  obtain ⟨S1, a1, a2, a3⟩ := c_trial H C.1.1
  obtain ⟨S2, fu2, b1, b2, b3⟩ := sX7_ahead_37 (n := m) (T := 60 * N) (y := nI wh) H hm'.2 (by omega) m 5000 0 S1 ⟨a2, V.1, fun _ _ => rfl⟩ (by omega) (by omega)
  have w0 : WC 0 S2 A.1 A.2 := C.1.1.same (WSame_S (by omega) (a3.tr b3))
  refine ZZ_scm (r := if wh = 3 then aMx (fun l => (0 : Nat).testBit l) (fun _ => hfe A.1) A m else aSi wh A (aIt (fun l => (0 : Nat).testBit l) (fun _ => hfe A.1) A m)) C M V ⟨S2, ?_, a3.tr b3⟩ (fun Sm Mm => ?_)
  · show fX7_ahead S (nI m) (nI wh) = _
    unfold fX7_ahead
    rw [wi_yes S 1 60 (x := 1) (y := 60) hm'.1 hm'.2 (by omega) rfl rfl, Option.bind_some]
    dsimp only
    rw [if_neg (by decide), wi_yes S 0 3 (x := 0) (y := 3) hw.1 hw.2 (by omega) rfl rfl, Option.bind_some]
    dsimp only
    rw [if_neg (by decide), a1, Option.bind_some]
    refine b1.trans ?_
    show bX7_ahead_37 (fX7_ahead_37 fu2) S2 _ _ _ _ = _
    unfold bX7_ahead_37
    rw [if_pos ((nI_leI (by omega) (by omega)).mpr (Nat.le_refl _))]
    by_cases c : wh = 3
    · subst c
      rw [if_pos (show nI 3 = (3 : Int32) from rfl), if_pos rfl]
    · rw [if_neg (fun q : nI wh = (3 : Int32) => c ((nI_eq (b := 3) (by omega) (by omega)).mp q)), if_neg c, c_since (by omega) w0 b2.1, Option.bind_some]
  · obtain ⟨Sa, e1, e2, e3, e4⟩ := m_aside Sm
    obtain ⟨Sf, f1, f2, f3, f4⟩ := m_feeds H (S := Sa) (h := A.1) (qs := A.2) (by rw [e2]; exact Mm.1.1)
    obtain ⟨S3, fu3, g1, g2, g3⟩ := sX8_ahead_54 (n := m) (T := 60 * N) (y := nI wh) (u := aTh A.1) (v := A.1 76) H hm'.2 (by omega) m 5000 0 Sf ⟨by rw [f2, e2]; exact Mm.1.1, V.1, fun _ _ => rfl⟩ f3 (by omega) (by omega)
    obtain ⟨S4, k1, k2, k3⟩ := m_back Mm ((e4.tr (f4.mono gp0_E g64_B)).tr (g3.mono gpG_E gqG_B)) (fun j hj => by rw [g3.2 (51, 0) (by decide), f4.2 (51, 0) (by decide)]; exact e3 j hj)
    refine ⟨S4, ?_, k2, k3⟩
    show fX8_ahead Sm (nI m) (nI wh) = _
    unfold fX8_ahead
    rw [in_yes Sm (a := 1) (b := 60) (x := 1) (y := 60) hm'.1 hm'.2 (by omega) (by decide) (by decide), Option.bind_some]
    dsimp only
    rw [if_neg (by decide), in_yes Sm (a := 0) (b := 3) (x := 0) (y := 3) hw.1 hw.2 (by omega) (by decide) (by decide), Option.bind_some]
    dsimp only
    have Mf : WM (Sf.2 (50, 0)) A.1 A.2 := by rw [f2, e2]; exact Mm.1.1
    rw [if_neg (by decide), e1, Option.bind_some, f1, Option.bind_some, sX8_thereAll Mf, Option.bind_some]
    dsimp only
    rw [if_pos (by decide), jlet_eq, cl76, Mf.1 76 (by omega)]
    refine g1.trans ?_
    show bX8_ahead_54 (fX8_ahead_54 fu3) S3 _ _ _ _ _ _ = _
    unfold bX8_ahead_54 bX8_ahead_137 aSi
    rw [if_pos ((nI_leI (by omega) (by omega)).mpr (Nat.le_refl _)), sX8_packets g2.1, Option.bind_some, sX8_thereAll g2.1, Option.bind_some]
    dsimp only
    rw [k1, if_pos (show jIn (76 : Int32) 815 by decide), cl76, g2.1.1 76 (by omega)]
    rcases (show wh = 0 ∨ wh = 1 ∨ wh = 2 ∨ wh = 3 by omega) with rfl | rfl | rfl | rfl
    · rfl
    · rfl
    · rfl
    · rfl
theorem le20 {i : Nat} (h : i < 2 ^ 31) : (20 : Int32) ≤ nI i ↔ 20 ≤ i := nI_leI (a := 20) (by omega) h
theorem sX7_without_29 {l T : Nat} {A : aW} (H : HV A.1) (hl : l < 10) (hT : T + 61 < 2 ^ 31) : ∀ (d fu i : Nat) (S : jS), cI 1 S (fun j => (2 ^ l).testBit j) (fun _ => hfe A.1) A T i → i + d = 20 → d < fu → ∃ S', fX7_without_29 fu S (nI l) (nI i) = some (aPk (aIt (fun j => (2 ^ l).testBit j) (fun _ => hfe A.1) A 20).2 18, S') ∧ jFr gpS gqS S S' := by
  intro d
  induction d with
  | zero =>
    intro fu i S I hd hf
    obtain ⟨fu, rfl⟩ : ∃ m, fu = m + 1 := ⟨fu - 1, by omega⟩
    obtain rfl : i = 20 := by omega
    refine ⟨S, ?_, jFr.rf⟩
    show bX7_without_29 (fX7_without_29 fu) S _ _ = _
    unfold bX7_without_29
    rw [if_pos ((le20 (by omega)).mpr (Nat.le_refl _)), sX4_packets I.1.2.2, Option.bind_some]
  | succ d ih =>
    intro fu i S I hd hf
    obtain ⟨fu, rfl⟩ : ∃ m, fu = m + 1 := ⟨fu - 1, by omega⟩
    obtain ⟨S1, a1, a2, a3⟩ := cI_step (bar := 2 ^ l) (a := (25, 1)) (by omega) I rfl (by decide) (fun q hq => by have := (H.fe hq).2; omega) (fun i' g h1 h2 h3 => H.fz h1 h2 h3) (fun i' g h1 h2 => cI_feeds H I _ (by have := H.1.2.2; have := H.2.1.2.2; omega))
    obtain ⟨S', b1, b2⟩ := ih fu (i + 1) S1 a2 (by omega) (by omega)
    refine ⟨S', ?_, (a3.mono gpM1_S gqM1_S).tr b2⟩
    show bX7_without_29 (fX7_without_29 fu) S _ _ = _
    unfold bX7_without_29
    rw [if_neg (fun q => by have := (le20 (by omega)).mp q; omega), nb_pow l (by omega), a1, Option.bind_some, jlet_eq, nI_1]
    exact b1
theorem nbl {l0 : Nat} (h0 : l0 < 10) : ∀ l, l < 10 → (2 ^ l0).testBit l = decide (nI l = nI l0) := fun l hl => by
  rw [Nat.testBit_two_pow]
  by_cases c : l0 = l
  · rw [decide_eq_true c, c, decide_eq_true rfl]
  · rw [decide_eq_false c, decide_eq_false (fun q => c ((nI_eq (by omega) (by omega)).mp q).symm)]
theorem sX8_without_20 {l T : Nat} {A : aW} (H : HV A.1) (hl : l < 10) (hT : T + 61 < 2 ^ 20) : ∀ (d fu i : Nat) (S : jS), mI S (fun j => (2 ^ l).testBit j) (fun _ => hfe A.1) A T i → (∀ q, q < 18 → S.2 (64, 0) q = nI (hfe A.1 q)) → i + d = 20 → d < fu → ∃ S', fX8_without_20 fu S (nI l) (nI i) = (fX8_comesBack S').bind (fun y7 => some (aPk (aIt (fun j => (2 ^ l).testBit j) (fun _ => hfe A.1) A 20).2 18, y7)) ∧ jFr gpG gqG S S' := by
  intro d
  induction d with
  | zero =>
    intro fu i S I ef hd hf
    obtain ⟨fu, rfl⟩ : ∃ m, fu = m + 1 := ⟨fu - 1, by omega⟩
    obtain rfl : i = 20 := by omega
    refine ⟨S, ?_, jFr.rf⟩
    show bX8_without_20 (fX8_without_20 fu) S _ _ = _
    unfold bX8_without_20
    rw [if_pos ((le20 (by omega)).mpr (Nat.le_refl _)), sX8_packets I.1, Option.bind_some]
  | succ d ih =>
    intro fu i S I ef hd hf
    obtain ⟨fu, rfl⟩ : ∃ m, fu = m + 1 := ⟨fu - 1, by omega⟩
    obtain ⟨S1, a1, a2, a3⟩ := mI_step (but := nI l) (by omega) I (nbl hl) (fun q hq => by have := (H.fe hq).2; omega) (fun i' g h1 h2 h3 => H.fz h1 h2 h3) (fun i' g h1 h2 => ef _ (by have := H.1.2.2; have := H.2.1.2.2; omega))
    obtain ⟨S', b1, b2⟩ := ih fu (i + 1) S1 a2 (fun q hq => by rw [a3.2 (64, 0) (by decide)]; exact ef q hq) (by omega) (by omega)
    refine ⟨S', ?_, a3.tr b2⟩
    show bX8_without_20 (fX8_without_20 fu) S _ _ = _
    unfold bX8_without_20
    rw [if_neg (fun q => by have := (le20 (by omega)).mp q; omega), a1, Option.bind_some, jlet_eq, nI_1]
    exact b1
theorem z_without {N : Nat} {S : jS} (h : SM N S) (hN : N < 2000) (x : Int32) : ZZ N S (fun S => fX7_without S x) (fun S => fX8_without S x) := by
  obtain ⟨kept, W, A, n, T, C, M, V⟩ := h
  have H := V.1.1
  have n10 := H.2.2.1.2
  obtain ⟨-, -, N3'⟩ := C.1.1.1.n H
  by_cases d1 : ∃ l, l < hn A.1 ∧ x = nI l
  case neg =>
    refine ZZ_bad (r := -1) C M V ?_ (fun S1 M1 => ?_)
    · show fX7_without S x = _
      unfold fX7_without
      rw [lk7_no (by omega) N3' d1, Option.bind_some]
      rfl
    · show fX8_without S1 x = _
      unfold fX8_without
      rw [lk8_no H M1.1.1 d1, Option.bind_some]
      rfl
  obtain ⟨l, hl, rfl⟩ := d1
  obtain ⟨S1, a1, a2, a3⟩ := c_trial H C.1.1
  obtain ⟨S2, b1, b2⟩ := sX7_without_29 (l := l) (T := 60 * N) H (by omega) (by omega) 20 5000 0 S1 ⟨a2, V.1, fun _ _ => rfl⟩ (by omega) (by omega)
  refine ZZ_scm (r := aPk (aIt (fun j => (2 ^ l).testBit j) (fun _ => hfe A.1) A 20).2 18) C M V ⟨S2, ?_, a3.tr b2⟩ (fun Sm Mm => ?_)
  · show fX7_without S (nI l) = _
    unfold fX7_without
    rw [lk7_yes (by omega) N3' hl, Option.bind_some]
    dsimp only
    rw [if_neg (by decide), a1, Option.bind_some]
    exact b1
  · obtain ⟨Sa, e1, e2, e3, e4⟩ := m_aside Sm
    obtain ⟨Sf, f1, f2, f3, f4⟩ := m_feeds H (S := Sa) (h := A.1) (qs := A.2) (by rw [e2]; exact Mm.1.1)
    obtain ⟨S3, g1, g3⟩ := sX8_without_20 (l := l) (T := 60 * N) H (by omega) (by omega) 20 5000 0 Sf ⟨by rw [f2, e2]; exact Mm.1.1, V.1, fun _ _ => rfl⟩ f3 (by omega) (by omega)
    obtain ⟨S4, k1, k2, k3⟩ := m_back Mm ((e4.tr (f4.mono gp0_E g64_B)).tr (g3.mono gpG_E gqG_B)) (fun j hj => by rw [g3.2 (51, 0) (by decide), f4.2 (51, 0) (by decide)]; exact e3 j hj)
    refine ⟨S4, ?_, k2, k3⟩
    show fX8_without Sm (nI l) = _
    unfold fX8_without
    rw [lk8_yes H Mm.1.1 hl, Option.bind_some]
    dsimp only
    rw [if_neg (by decide), e1, Option.bind_some, f1, Option.bind_some]
    refine g1.trans ?_
    rw [k1, Option.bind_some]
