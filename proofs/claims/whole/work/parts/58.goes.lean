/-! ===== goes, link ===== -/
theorem gq40_S : ∀ r, gq40 0 r = true → gqS r = true := fun r h => by
  simp only [gq40, Bool.or_eq_true, beq_iff_eq] at h
  rcases h with rfl | rfl <;> decide
theorem gPut_S {S : jS} {w : Nat → Nat} {b : Nat} : jFr gpS gqS S (gPut S 0 w b) := (jFr.set (by decide)).tr (jFr.set (by decide))
theorem c_goes {S : jS} {A : aW} (H : HV A.1) (w : WC 0 S A.1 A.2) : ∃ b S1, aGo A.1 A.2 (hcl A.1) (fun l => (0 : Nat).testBit l) b ∧ fX3_weigh 0 0 S = some S1 ∧ (∀ a, a < hn A.1 → S1.2 (40, 0) a = (aCho A.1 A.2 a).1 ∧ S1.2 (41, 0) a = aWt A.1 A.2 a) ∧ fX3_pick 0 0 S1 0 = some (gPut S1 0 (aWn A.1 A.2) b) ∧ jFr gp0 (gq40 0) S S1 := by
  obtain ⟨S1, a1, a2, a3⟩ := sX3_weigh (j := 0) H w
  have w1 : WC 0 S1 A.1 A.2 := w.same (WSame.fr a3 (fun c _ => rfl) (fun c h1 h2 => by
    simp only [gq40, bq_f (c := c) (k := 0) (x := 40) (y := 0) (Or.inl (by omega)), bq_f (c := c) (k := 0) (x := 41) (y := 0) (Or.inl (by omega))]
    rfl))
  obtain ⟨b, b1, b2⟩ := sX3_pickW (j := 0) (k := 0) (bar := 0) (cl := hcl A.1) (S := S1) H (fun q hq => (w.2.2.2 q hq).2.1) w1.1.1.2.2.1 (fun a ha => (w1.1.2.2.1 a ha).2.2.2.trans (H.c.1 a ha)) H.c.2.1 H.c.2.2.1 H.cl a2
  exact ⟨b, S1, b1, a1, a2, b2, a3⟩
theorem gq56_E : ∀ r, gq56 r = true → gqE r = true := fun r h => by
  simp only [gq56, Bool.or_eq_true, beq_iff_eq] at h
  rcases h with (rfl | rfl) | rfl <;> decide
theorem gq59_E : ∀ r, gq59 r = true → gqE r = true := fun r h => by
  simp only [gq59, Bool.or_eq_true, beq_iff_eq] at h
  rcases h with rfl | rfl <;> decide
theorem gp15_E : ∀ r, gp15 r = true → gpE r = true := fun r h => by
  simp only [gp15, Bool.or_eq_true, beq_iff_eq] at h
  rcases h with rfl | rfl <;> decide
theorem m_goes {S : jS} {A : aW} {b : Nat} (H : HV A.1) (M : WM (S.2 (50, 0)) A.1 A.2) (hb : aGo A.1 A.2 (hcl A.1) (fun l => (0 : Nat).testBit l) b) : ∃ S2, fX8_findsAll S = some S2 ∧ (∀ a, a < hn A.1 → S2.2 (57, 0) a = (aCho A.1 A.2 a).1 ∧ S2.2 (58, 0) a = aWt A.1 A.2 a) ∧ S2.1 (15, 0) = nI b ∧ S2.1 (16, 0) = nI (gW (aWn A.1 A.2) b) ∧ S2.2 (50, 0) = S.2 (50, 0) ∧ jFr gpE gqE S S2 := by
  have n10 := H.2.2.1.2
  obtain ⟨S1, a1, a2, a3, a4⟩ := sX8_findsChoices H M
  have e50 : S1.2 (50, 0) = S.2 (50, 0) := a4.2 _ (by decide)
  have e5 : S1.2 (50, 0) 5 = A.1 5 := by rw [e50]; exact M.1 5 (by omega)
  obtain ⟨S2, g, b1, b2, b3, b4, b5⟩ := sX8_goingW (cl := hcl A.1) (S := S1) (b := -4) H (fun q hq => (M.2 q hq).2.1) e5 (fun a ha => by rw [e50, M.1 _ (by omega)]; exact H.c.1 a ha) H.c.2.1 H.c.2.2.1 H.cl a2
  have : g = b := gB_unique (aGo_bar (bar' := fun l => (0 : Nat).testBit l) (fun l hl => (nb0 l (by omega)).symm) b1) hb
  subst this
  refine ⟨S2, ?_, fun a ha => ?_, b3, b4, (b5.2 _ (by decide)).trans e50, (a4.mono gp0_E gq56_E).tr (b5.mono gp15_E gq59_E)⟩
  · unfold fX8_findsAll
    rw [a1, Option.bind_some, b2, Option.bind_some]
  · rw [b5.2 (57, 0) (by decide), b5.2 (58, 0) (by decide)]
    exact a2 a ha
theorem z_goes {N : Nat} {S : jS} (h : SM N S) (x : Int32) : ZZ N S (fun S => fX7_goes S x) (fun S => fX8_goes S x) := by
  obtain ⟨kept, W, A, n, T, C, M, V⟩ := h
  have H := V.1.1
  by_cases d1 : ∃ j, (0 ≤ j ∧ j ≤ 1) ∧ x = nI j
  case neg =>
    refine ZZ_bad (r := -1) C M V ?_ (fun S1 M1 => ?_)
    · show fX7_goes S x = _
      unfold fX7_goes
      rw [wi_no S 0 1 (x := 0) (y := 1) (by omega) (by omega) d1 rfl rfl, Option.bind_some]
      rfl
    · show fX8_goes S1 x = _
      unfold fX8_goes
      rw [in_no S1 (a := 0) (b := 1) (x := 0) (y := 1) d1 (by decide) (by decide), Option.bind_some]
      rfl
  obtain ⟨j, hj, rfl⟩ := d1
  obtain ⟨b, S1, b1, b2, b3, b4, b5⟩ := c_goes H C.1.1
  refine ZZ_scr (r := if j = 0 then nI b else nI (gW (aWn A.1 A.2) b)) C M V ⟨gPut S1 0 (aWn A.1 A.2) b, ?_, (b5.mono gp0_S gq40_S).tr gPut_S⟩ (fun Sm Mm => ?_)
  · show fX7_goes S (nI j) = _
    unfold fX7_goes
    rw [wi_yes S 0 1 (x := 0) (y := 1) hj.1 hj.2 (by omega) rfl rfl, Option.bind_some]
    dsimp only
    rw [if_neg (by decide), b2, Option.bind_some, b4, Option.bind_some, gPut_b, gPut_w]
    by_cases c : j = 0
    · subst c
      exact if_pos nI_0
    · rw [if_neg (fun q : nI j = 0 => c ((nI_eq (b := 0) (by omega) (by omega)).mp q)), if_neg c]
  · obtain ⟨S2, a1, a2, a3, a4, a5, a6⟩ := m_goes H Mm.1.1 b1
    refine ⟨S2, ?_, a6⟩
    show fX8_goes Sm (nI j) = _
    unfold fX8_goes
    rw [in_yes Sm (a := 0) (b := 1) (x := 0) (y := 1) hj.1 hj.2 (by omega) (by decide) (by decide), Option.bind_some]
    dsimp only
    rw [if_neg (by decide), a1, Option.bind_some, a3, a4]
    by_cases c : j = 0
    · subst c
      exact if_pos nI_0
    · rw [if_neg (fun q : nI j = 0 => c ((nI_eq (b := 0) (by omega) (by omega)).mp q)), if_neg c]
theorem z_link {N : Nat} {S : jS} (h : SM N S) (x y : Int32) : ZZ N S (fun S => fX7_link S x y) (fun S => fX8_link S x y) := by
  obtain ⟨kept, W, A, n, T, C, M, V⟩ := h
  have H := V.1.1
  have n10 := H.2.2.1.2
  obtain ⟨-, -, N3'⟩ := C.1.1.1.n H
  by_cases d1 : ∃ l, l < hn A.1 ∧ x = nI l
  case neg =>
    refine ZZ_bad (r := -1) C M V ?_ (fun S1 M1 => ?_)
    · show fX7_link S x y = _
      unfold fX7_link
      rw [lk7_no (by omega) N3' d1, Option.bind_some]
      rfl
    · show fX8_link S1 x y = _
      unfold fX8_link
      rw [lk8_no H M1.1.1 d1, Option.bind_some]
      rfl
  obtain ⟨l, hl, rfl⟩ := d1
  by_cases d2 : ∃ j, (0 ≤ j ∧ j ≤ 6) ∧ y = nI j
  case neg =>
    refine ZZ_bad (r := -1) C M V ?_ (fun S1 M1 => ?_)
    · show fX7_link S (nI l) y = _
      unfold fX7_link
      rw [lk7_yes (by omega) N3' hl, Option.bind_some]
      dsimp only
      rw [if_neg (by decide), wi_no S 0 6 (x := 0) (y := 6) (by omega) (by omega) d2 rfl rfl, Option.bind_some]
      rfl
    · show fX8_link S1 (nI l) y = _
      unfold fX8_link
      rw [lk8_yes H M1.1.1 hl, Option.bind_some]
      dsimp only
      rw [if_neg (by decide), in_no S1 (a := 0) (b := 6) (x := 0) (y := 6) d2 (by decide) (by decide), Option.bind_some]
      rfl
  obtain ⟨j, hj, rfl⟩ := d2
  have i1 : jIn (nI l) 10 := jIn_lit (by omega) (by omega)
  have e1 := nI_clamp (show l < 2 ^ 31 by omega)
  obtain ⟨s0, s1, s2, s6⟩ := C.1.1.1.2.2.1 l hl
  obtain ⟨b, Sw, b1, b2, b3, b4, b5⟩ := c_goes H C.1.1
  have bl : b < 1024 := b1.1.1
  rcases (show j = 0 ∨ j = 1 ∨ j = 2 ∨ j = 3 ∨ j = 4 ∨ j = 5 ∨ j = 6 by omega) with rfl | rfl | rfl | rfl | rfl | rfl | rfl
  · refine ZZ_scr (r := A.1 (6 + 3 * l)) C M V ⟨S, ?_, jFr.rf⟩ (fun Sm Mm => ?_)
    · show fX7_link S (nI l) 0 = _
      unfold fX7_link fX7_linkAsQueuesAre
      rw [lk7_yes (by omega) N3' hl, Option.bind_some]
      dsimp only
      rw [if_neg (by decide), show fX7_within S (0 : Int32) 0 6 = some (1, S) from wi_yes S (j := 0) 0 6 (by omega) (by omega) (by omega) rfl rfl, Option.bind_some]
      dsimp only
      rw [if_neg (by decide), if_pos rfl, if_pos i1, e1, s0]
    · refine ⟨Sm, ?_, jFr.rf⟩
      show fX8_link Sm (nI l) 0 = _
      unfold fX8_link
      rw [lk8_yes H Mm.1.1 hl, Option.bind_some]
      dsimp only
      rw [if_neg (by decide), show fX8_in Sm (0 : Int32).toInt64 0 6 = some (1, Sm) from in_yes Sm (j := 0) (a := 0) (b := 6) (by omega) (by omega) (by omega) (by decide) (by decide), Option.bind_some]
      dsimp only
      rw [if_neg (by decide), if_neg (by decide), li_3m, li_6, show nI (6 + 3 * l) + (0 : Int32) = nI (6 + 3 * l) from (nI_add (6 + 3 * l) 0).trans (congrArg nI (by omega)), if_pos (jIn_lit (by omega) (by omega)), nI_clamp (by omega), Mm.1.1.1 _ (by omega)]
  · refine ZZ_scr (r := A.1 (7 + 3 * l)) C M V ⟨S, ?_, jFr.rf⟩ (fun Sm Mm => ?_)
    · show fX7_link S (nI l) 1 = _
      unfold fX7_link fX7_linkAsQueuesAre
      rw [lk7_yes (by omega) N3' hl, Option.bind_some]
      dsimp only
      rw [if_neg (by decide), show fX7_within S (1 : Int32) 0 6 = some (1, S) from wi_yes S (j := 1) 0 6 (by omega) (by omega) (by omega) rfl rfl, Option.bind_some]
      dsimp only
      rw [if_neg (by decide), if_neg (by decide), if_pos rfl, if_pos i1, e1, s1]
    · refine ⟨Sm, ?_, jFr.rf⟩
      show fX8_link Sm (nI l) 1 = _
      unfold fX8_link
      rw [lk8_yes H Mm.1.1 hl, Option.bind_some]
      dsimp only
      rw [if_neg (by decide), show fX8_in Sm (1 : Int32).toInt64 0 6 = some (1, Sm) from in_yes Sm (j := 1) (a := 0) (b := 6) (by omega) (by omega) (by omega) (by decide) (by decide), Option.bind_some]
      dsimp only
      rw [if_neg (by decide), if_neg (by decide), li_3m, li_6, show nI (6 + 3 * l) + (1 : Int32) = nI (7 + 3 * l) from (nI_add (6 + 3 * l) 1).trans (congrArg nI (by omega)), if_pos (jIn_lit (by omega) (by omega)), nI_clamp (by omega), Mm.1.1.1 _ (by omega)]
  · refine ZZ_scr (r := A.1 (8 + 3 * l)) C M V ⟨S, ?_, jFr.rf⟩ (fun Sm Mm => ?_)
    · show fX7_link S (nI l) 2 = _
      unfold fX7_link fX7_linkAsQueuesAre
      rw [lk7_yes (by omega) N3' hl, Option.bind_some]
      dsimp only
      rw [if_neg (by decide), show fX7_within S (2 : Int32) 0 6 = some (1, S) from wi_yes S (j := 2) 0 6 (by omega) (by omega) (by omega) rfl rfl, Option.bind_some]
      dsimp only
      rw [if_neg (by decide), if_neg (by decide), if_neg (by decide), if_pos rfl, if_pos i1, e1, s2]
    · refine ⟨Sm, ?_, jFr.rf⟩
      show fX8_link Sm (nI l) 2 = _
      unfold fX8_link
      rw [lk8_yes H Mm.1.1 hl, Option.bind_some]
      dsimp only
      rw [if_neg (by decide), show fX8_in Sm (2 : Int32).toInt64 0 6 = some (1, Sm) from in_yes Sm (j := 2) (a := 0) (b := 6) (by omega) (by omega) (by omega) (by decide) (by decide), Option.bind_some]
      dsimp only
      rw [if_neg (by decide), if_neg (by decide), li_3m, li_6, show nI (6 + 3 * l) + (2 : Int32) = nI (8 + 3 * l) from (nI_add (6 + 3 * l) 2).trans (congrArg nI (by omega)), if_pos (jIn_lit (by omega) (by omega)), nI_clamp (by omega), Mm.1.1.1 _ (by omega)]
  · refine ZZ_scr (r := (aCho A.1 A.2 l).1) C M V ⟨Sw, ?_, b5.mono gp0_S gq40_S⟩ (fun Sm Mm => ?_)
    · show fX7_link S (nI l) 3 = _
      unfold fX7_link fX7_linkAsQueuesAre
      rw [lk7_yes (by omega) N3' hl, Option.bind_some]
      dsimp only
      rw [if_neg (by decide), show fX7_within S (3 : Int32) 0 6 = some (1, S) from wi_yes S (j := 3) 0 6 (by omega) (by omega) (by omega) rfl rfl, Option.bind_some]
      dsimp only
      rw [if_neg (by decide), if_neg (by decide), if_neg (by decide), if_neg (by decide), if_neg (by decide), b2, Option.bind_some, if_pos rfl, if_pos i1, e1, (b3 l hl).1]
      rfl
    · obtain ⟨S2, a1, a2, a3, a4, a5, a6⟩ := m_goes H Mm.1.1 b1
      refine ⟨S2, ?_, a6⟩
      show fX8_link Sm (nI l) 3 = _
      unfold fX8_link
      rw [lk8_yes H Mm.1.1 hl, Option.bind_some]
      dsimp only
      rw [if_neg (by decide), show fX8_in Sm (3 : Int32).toInt64 0 6 = some (1, Sm) from in_yes Sm (j := 3) (a := 0) (b := 6) (by omega) (by omega) (by omega) (by decide) (by decide), Option.bind_some]
      dsimp only
      rw [if_neg (by decide), if_pos (by decide), a1, Option.bind_some, if_pos rfl, if_pos i1, e1, (a2 l hl).1]
  · refine ZZ_scr (r := aWt A.1 A.2 l) C M V ⟨Sw, ?_, b5.mono gp0_S gq40_S⟩ (fun Sm Mm => ?_)
    · show fX7_link S (nI l) 4 = _
      unfold fX7_link fX7_linkAsQueuesAre
      rw [lk7_yes (by omega) N3' hl, Option.bind_some]
      dsimp only
      rw [if_neg (by decide), show fX7_within S (4 : Int32) 0 6 = some (1, S) from wi_yes S (j := 4) 0 6 (by omega) (by omega) (by omega) rfl rfl, Option.bind_some]
      dsimp only
      rw [if_neg (by decide), if_neg (by decide), if_neg (by decide), if_neg (by decide), if_neg (by decide), b2, Option.bind_some, if_neg (by decide), if_pos rfl, if_pos i1, e1, (b3 l hl).2]
      rfl
    · obtain ⟨S2, a1, a2, a3, a4, a5, a6⟩ := m_goes H Mm.1.1 b1
      refine ⟨S2, ?_, a6⟩
      show fX8_link Sm (nI l) 4 = _
      unfold fX8_link
      rw [lk8_yes H Mm.1.1 hl, Option.bind_some]
      dsimp only
      rw [if_neg (by decide), show fX8_in Sm (4 : Int32).toInt64 0 6 = some (1, Sm) from in_yes Sm (j := 4) (a := 0) (b := 6) (by omega) (by omega) (by omega) (by decide) (by decide), Option.bind_some]
      dsimp only
      rw [if_neg (by decide), if_pos (by decide), a1, Option.bind_some, if_neg (by decide), if_pos rfl, if_pos i1, e1, (a2 l hl).2]
  · refine ZZ_scr (r := nI (if b.testBit l then 1 else 0)) C M V ⟨gPut Sw 0 (aWn A.1 A.2) b, ?_, (b5.mono gp0_S gq40_S).tr gPut_S⟩ (fun Sm Mm => ?_)
    · show fX7_link S (nI l) 5 = _
      unfold fX7_link fX7_linkAsQueuesAre
      rw [lk7_yes (by omega) N3' hl, Option.bind_some]
      dsimp only
      rw [if_neg (by decide), show fX7_within S (5 : Int32) 0 6 = some (1, S) from wi_yes S (j := 5) 0 6 (by omega) (by omega) (by omega) rfl rfl, Option.bind_some]
      dsimp only
      rw [if_neg (by decide), if_neg (by decide), if_neg (by decide), if_neg (by decide), if_neg (by decide), b2, Option.bind_some, if_neg (by decide), if_neg (by decide), b4, Option.bind_some, gPut_b, nb_bit (by omega) (by omega), Option.bind_some]
    · obtain ⟨S2, a1, a2, a3, a4, a5, a6⟩ := m_goes H Mm.1.1 b1
      refine ⟨S2, ?_, a6⟩
      show fX8_link Sm (nI l) 5 = _
      unfold fX8_link
      rw [lk8_yes H Mm.1.1 hl, Option.bind_some]
      dsimp only
      rw [if_neg (by decide), show fX8_in Sm (5 : Int32).toInt64 0 6 = some (1, Sm) from in_yes Sm (j := 5) (a := 0) (b := 6) (by omega) (by omega) (by omega) (by decide) (by decide), Option.bind_some]
      dsimp only
      rw [if_neg (by decide), if_pos (by decide), a1, Option.bind_some, if_neg (by decide), if_neg (by decide), if_pos rfl, a3, nb_bit (by omega) (by omega)]
  · refine ZZ_scr (r := A.1 (36 + l)) C M V ⟨S, ?_, jFr.rf⟩ (fun Sm Mm => ?_)
    · show fX7_link S (nI l) 6 = _
      unfold fX7_link fX7_linkAsQueuesAre
      rw [lk7_yes (by omega) N3' hl, Option.bind_some]
      dsimp only
      rw [if_neg (by decide), show fX7_within S (6 : Int32) 0 6 = some (1, S) from wi_yes S (j := 6) 0 6 (by omega) (by omega) (by omega) rfl rfl, Option.bind_some]
      dsimp only
      rw [if_neg (by decide), if_neg (by decide), if_neg (by decide), if_neg (by decide), if_pos rfl, if_pos i1, e1, s6]
    · obtain ⟨S2, a1, a2, a3, a4, a5, a6⟩ := m_goes H Mm.1.1 b1
      refine ⟨S2, ?_, a6⟩
      show fX8_link Sm (nI l) 6 = _
      unfold fX8_link
      rw [lk8_yes H Mm.1.1 hl, Option.bind_some]
      dsimp only
      rw [if_neg (by decide), show fX8_in Sm (6 : Int32).toInt64 0 6 = some (1, Sm) from in_yes Sm (j := 6) (a := 0) (b := 6) (by omega) (by omega) (by omega) (by decide) (by decide), Option.bind_some]
      dsimp only
      rw [if_neg (by decide), if_pos (by decide), a1, Option.bind_some, if_neg (by decide), if_neg (by decide), if_neg (by decide), li_36, if_pos (jIn_lit (by omega) (by omega)), nI_clamp (by omega), a5, Mm.1.1.1 _ (by omega)]
