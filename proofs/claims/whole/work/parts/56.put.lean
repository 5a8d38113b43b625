/-! ===== put, slot ===== -/
theorem aAdN_ok {A : aW} {q : Nat} {x : Int32} : ∀ k, (A.2 q).length + k ≤ 40 → (aAdN A q x k).1 = A.1 ∧ ((aAdN A q x k).2 q).length = (A.2 q).length + k
  | 0, _ => ⟨rfl, rfl⟩
  | k + 1, h => by
    obtain ⟨h1, h2⟩ := aAdN_ok (A := A) (q := q) (x := x) k (by omega)
    show (aAdd (aAdN A q x k) q x).1 = _ ∧ ((aAdd (aAdN A q x k) q x).2 q).length = _
    unfold aAdd
    rw [if_pos (by omega)]
    refine ⟨h1, ?_⟩
    show (va_up (aAdN A q x k).2 q ((aAdN A q x k).2 q ++ [x]) q).length = _
    rw [va_up_self, List.length_append, h2]
    rfl
theorem sX8_put_49 {i g n : Nat} {x : Int32} {A : aW} (hi : i < 6) (hg : g < 3) (hx : A.1 66 = x) (hn : (A.2 (3 * i + g)).length + n ≤ 40) : ∀ (d fu k : Nat) (S : jS), WM (S.2 (50, 0)) (aAdN A (3 * i + g) x k).1 (aAdN A (3 * i + g) x k).2 → k + d = n → d < fu → ∃ S', fX8_put_49 fu S (nI i) (nI g) (nI n) 1 (nI k) = some (nI ((A.2 (3 * i + g)).length + n), S') ∧ WM (S'.2 (50, 0)) (aAdN A (3 * i + g) x n).1 (aAdN A (3 * i + g) x n).2 ∧ jFr gp0 gq50 S S' := by
  intro d
  induction d with
  | zero =>
    intro fu k S M hd hf
    obtain ⟨fu, rfl⟩ : ∃ m, fu = m + 1 := ⟨fu - 1, by omega⟩
    obtain rfl : k = n := by omega
    refine ⟨S, ?_, M, jFr.rf⟩
    show bX8_put_49 (fX8_put_49 fu) S _ _ _ _ _ = _
    unfold bX8_put_49
    rw [if_pos ((nI_leI (by omega) (by omega)).mpr (Nat.le_refl _)), if_neg (by decide), sX8_manyIn M hi hg, Option.bind_some, (aAdN_ok k (by omega)).2]
  | succ d ih =>
    intro fu k S M hd hf
    obtain ⟨fu, rfl⟩ : ∃ m, fu = m + 1 := ⟨fu - 1, by omega⟩
    obtain ⟨k1, k2⟩ := aAdN_ok (A := A) (q := 3 * i + g) (x := x) k (by omega)
    obtain ⟨S1, a1, a2, a3⟩ := sX8_comes M hi hg x
    rw [if_pos (by omega)] at a1 a2
    have a2' : WM (S1.2 (50, 0)) (aAdN A (3 * i + g) x (k + 1)).1 (aAdN A (3 * i + g) x (k + 1)).2 := by
      show WM (S1.2 (50, 0)) (aAdd (aAdN A (3 * i + g) x k) (3 * i + g) x).1 (aAdd (aAdN A (3 * i + g) x k) (3 * i + g) x).2
      unfold aAdd
      rw [if_pos (by omega)]
      exact a2
    obtain ⟨S', b1, b2, b3⟩ := ih fu (k + 1) S1 a2' (by omega) (by omega)
    refine ⟨S', ?_, b2, a3.tr b3⟩
    show bX8_put_49 (fX8_put_49 fu) S _ _ _ _ _ = _
    unfold bX8_put_49 bX8_put_81
    rw [if_neg (fun q => by have := (nI_leI (a := n) (b := k) (by omega) (by omega)).mp q; omega), if_pos (by decide), cl66, M.1 66 (by omega), k1, hx, a1, Option.bind_some]
    dsimp only
    rw [if_neg (by decide), if_neg (by decide), jlet_eq, nI_1]
    exact b1
theorem gp0_G : ∀ r, gp0 r = true → gpG r = true := fun r h => by cases h
theorem gq50_N : ∀ r, gq50 r = true → gqN r = true := fun r h => by
  simp only [gq50, beq_iff_eq] at h
  subst h
  decide
theorem WC_queues {k : Nat} {S S' : jS} {h : Nat → Int32} {qs : Nat → List Int32} {A : aW} (w : WC k S h qs) (Q : QC k S' A.1 A.2) (e : A.1 = h) (F : jFr (gp67 k) (gq3x k) S S') : WC k S' A.1 A.2 := by
  rw [e] at Q ⊢
  refine ⟨NC.fr F (fun c _ h2 => ?_) (fun c h1 h2 => ?_) w.1, fun q hq => ?_, Q⟩
  · simp only [gp67, bq_f (c := c) (k := k) (x := 6) (y := k) (Or.inl (by omega)), bq_f (c := c) (k := k) (x := 7) (y := k) (Or.inl (by omega))]
    rfl
  · simp only [gq3x, bq_f (c := c) (k := k) (x := 30) (y := k) (Or.inl (by omega)), bq_f (c := c) (k := k) (x := 31) (y := k) (Or.inl (by omega)), bq_f (c := c) (k := k) (x := 32) (y := k) (Or.inl (by omega)), bq_f (c := c) (k := k) (x := 33) (y := k) (Or.inl (by omega)), bq_f (c := c) (k := k) (x := 34) (y := k) (Or.inl (by omega)), bq_f (c := c) (k := k) (x := 35) (y := k) (Or.inl (by omega))]
    rfl
  · rw [F.2 (26, k) (by simp only [gq3x, bq_f (c := 26) (k := k) (x := 30) (y := k) (Or.inl (by omega)), bq_f (c := 26) (k := k) (x := 31) (y := k) (Or.inl (by omega)), bq_f (c := 26) (k := k) (x := 32) (y := k) (Or.inl (by omega)), bq_f (c := 26) (k := k) (x := 33) (y := k) (Or.inl (by omega)), bq_f (c := 26) (k := k) (x := 34) (y := k) (Or.inl (by omega)), bq_f (c := 26) (k := k) (x := 35) (y := k) (Or.inl (by omega))]; rfl)]
    exact w.2.1 q hq
theorem z_put {N : Nat} {S : jS} (h : SM N S) (x y z : Int32) : ZZ N S (fun S => fX7_put S x y z) (fun S => fX8_put S x y z) := by
  obtain ⟨kept, W, A, n, T, C, M, V⟩ := h
  have H := V.1.1
  have h6 := H.1.2.2
  have h3 := H.2.1.2.2
  by_cases c1 : ∃ i g, (x = nI i ∧ y = nI g) ∧ hq A.1 i g
  case neg =>
    refine ZZ_bad (r := -1) C M V ?_ (fun S1 M1 => ?_)
    · show fX7_put S x y z = _
      unfold fX7_put
      rw [qu7_no H C.1.1.1 c1, Option.bind_some]
      rfl
    · show fX8_put S1 x y z = _
      unfold fX8_put
      rw [qu8_no H M1.1.1 c1, Option.bind_some]
      rfl
  obtain ⟨i, g, ⟨rfl, rfl⟩, hq'⟩ := c1
  obtain ⟨hi, hg, hgo'⟩ := id hq'
  by_cases c2 : ∃ j, (1 ≤ j ∧ j ≤ 40) ∧ z = nI j
  case neg =>
    refine ZZ_bad (r := -1) C M V ?_ (fun S1 M1 => ?_)
    · show fX7_put S (nI i) (nI g) z = _
      unfold fX7_put
      rw [qu7_yes H C.1.1.1 hq', Option.bind_some]
      dsimp only
      rw [if_neg (by decide), wi_no S 1 40 (x := 1) (y := 40) (by omega) (by omega) c2 rfl rfl, Option.bind_some]
      rfl
    · show fX8_put S1 (nI i) (nI g) z = _
      unfold fX8_put
      rw [qu8_yes H M1.1.1 hq', Option.bind_some]
      dsimp only
      rw [if_neg (by decide), in_no S1 (a := 1) (b := 40) (x := 1) (y := 40) c2 (by decide) (by decide), Option.bind_some]
      rfl
  obtain ⟨m, hm', rfl⟩ := c2
  have hl40 := (C.1.1.2.2.2 (3 * i + g) (by omega)).2.1
  have esz := (C.1.1.2.2.2 (3 * i + g) (by omega)).1
  by_cases c3 : (A.2 (3 * i + g)).length + m ≤ 40
  case neg =>
    refine ZZ_bad (r := -3) C M V ?_ (fun S1 M1 => ?_)
    · show fX7_put S (nI i) (nI g) (nI m) = _
      unfold fX7_put fX7_spot
      rw [qu7_yes H C.1.1.1 hq', Option.bind_some]
      dsimp only
      rw [if_neg (by decide), wi_yes S 1 40 (x := 1) (y := 40) hm'.1 hm'.2 (by omega) rfl rfl, Option.bind_some]
      dsimp only
      rw [if_neg (by decide), Option.bind_some]
      dsimp only
      rw [li_m3, nI_add, if_pos (jIn_lit (by omega) (by omega))]
      simp only [nI_clamp (show 3 * i + g < 2 ^ 31 by omega)]
      rw [esz, nI_add, if_neg (fun q : nI ((A.2 (3 * i + g)).length + m) ≤ (40 : Int32) => c3 ((nI_leI (b := 40) (by omega) (by omega)).mp q))]
    · show fX8_put S1 (nI i) (nI g) (nI m) = _
      unfold fX8_put
      rw [qu8_yes H M1.1.1 hq', Option.bind_some]
      dsimp only
      rw [if_neg (by decide), in_yes S1 (a := 1) (b := 40) (x := 1) (y := 40) hm'.1 hm'.2 (by omega) (by decide) (by decide), Option.bind_some]
      dsimp only
      rw [if_neg (by decide), sX8_manyIn M1.1.1 (by omega) (by omega), Option.bind_some]
      dsimp only
      rw [nI_add, if_neg (fun q : nI ((A.2 (3 * i + g)).length + m) ≤ (40 : Int32) => c3 ((nI_leI (b := 40) (by omega) (by omega)).mp q))]
  obtain ⟨-, s, hs, P⟩ := V.1
  obtain ⟨k1, k2⟩ := aAdN_ok (A := A) (q := 3 * i + g) (x := A.1 66) m c3
  have V' : AV (60 * (N + 1)) (aAdN A (3 * i + g) (A.1 66) m) := by
    have P' := PV.adN P (i := i) (g := g) (b := s) (by omega) (by omega) (Nat.le_refl _) m (fun _ => hq')
    rw [P.2.1]
    rw [P.2.1] at k1
    exact ⟨by rw [k1]; exact H, s, by omega, PV_own P'⟩
  refine ZZ_of (r := nI ((A.2 (3 * i + g)).length + m)) (n' := n) (T' := T) M (V.push V') ?_ (fun Sm Mm => ?_)
  · obtain ⟨S1, a1, a2, a3, a4, a5⟩ := sX0_keep H C.1
    obtain ⟨S2, b1, b2, b3⟩ := sX4_addMany (k := 0) (q := 3 * i + g) (n := m) (x := A.1 66) (S := S1) (A := A) (by omega) (by omega) a2.1.2.2
    have w2 := WC_queues a2.1 b2 k1 b3
    obtain ⟨d1, d2⟩ := c_world C a3 a2 (b3.mono gp67_M gq3x_M) w2
    refine ⟨S2, ?_, d1, d2⟩
    have e6 : S1.1 (6, 0) = A.1 66 := a2.1.2.2.1.1
    have e33 : S2.2 (33, 0) (3 * i + g) = nI ((A.2 (3 * i + g)).length + m) := by
      rw [(b2.2 (3 * i + g) (by omega)).1, k2]
    show fX7_put S (nI i) (nI g) (nI m) = _
    unfold fX7_put fX7_spot
    rw [qu7_yes H C.1.1.1 hq', Option.bind_some]
    dsimp only
    rw [if_neg (by decide), wi_yes S 1 40 (x := 1) (y := 40) hm'.1 hm'.2 (by omega) rfl rfl, Option.bind_some]
    dsimp only
    rw [if_neg (by decide), Option.bind_some]
    dsimp only
    rw [li_m3, nI_add, if_pos (jIn_lit (by omega) (by omega))]
    simp only [nI_clamp (show 3 * i + g < 2 ^ 31 by omega)]
    rw [esz, nI_add, if_pos (show nI ((A.2 (3 * i + g)).length + m) ≤ (40 : Int32) from (nI_leI (b := 40) (by omega) (by omega)).mpr c3), a1, Option.bind_some, e6, b1, Option.bind_some, if_pos (jIn_lit (by omega) (by omega)), e33]
  · obtain ⟨S1, a1, a2, a3⟩ := sX8_keeps Mm.1
    obtain ⟨S2, b1, b2, b3⟩ := sX8_put_49 (i := i) (g := g) (n := m) (x := A.1 66) (A := A) (by omega) (by omega) rfl c3 m 5000 0 S1 a2.1 (by omega) (by omega)
    obtain ⟨d1, d2⟩ := m_world Mm a3 a2 (b3.mono gp0_G gq50_N) b2
    refine ⟨S2, ?_, d1, d2⟩
    show fX8_put Sm (nI i) (nI g) (nI m) = _
    unfold fX8_put
    rw [qu8_yes H Mm.1.1 hq', Option.bind_some]
    dsimp only
    rw [if_neg (by decide), in_yes Sm (a := 1) (b := 40) (x := 1) (y := 40) hm'.1 hm'.2 (by omega) (by decide) (by decide), Option.bind_some]
    dsimp only
    rw [if_neg (by decide), sX8_manyIn Mm.1.1 (by omega) (by omega), Option.bind_some]
    dsimp only
    rw [nI_add, if_pos (show nI ((A.2 (3 * i + g)).length + m) ≤ (40 : Int32) from (nI_leI (b := 40) (by omega) (by omega)).mpr c3), a1, Option.bind_some]
    exact b1
theorem sX7_slot_36 {n T : Nat} {A : aW} {x : Int32} (H : HV A.1) (hn : n ≤ 60) (hT : T + 61 < 2 ^ 31) : ∀ (d fu i : Nat) (S : jS), cI 0 S (fun l => (0 : Nat).testBit l) (fun _ => hfe A.1) A T i → i + d = n → d < fu → ∃ S', fX7_slot_36 fu S (nI n) x (nI i) = some (aTh (aIt (fun l => (0 : Nat).testBit l) (fun _ => hfe A.1) A n).1 - x, S') ∧ cI 0 S' (fun l => (0 : Nat).testBit l) (fun _ => hfe A.1) A T n ∧ jFr (gpM 0) (gqM 0) S S' := by
  intro d
  induction d with
  | zero =>
    intro fu i S I hd hf
    obtain ⟨fu, rfl⟩ : ∃ m, fu = m + 1 := ⟨fu - 1, by omega⟩
    obtain rfl : i = n := by omega
    refine ⟨S, ?_, I, jFr.rf⟩
    show bX7_slot_36 (fX7_slot_36 fu) S _ _ _ = _
    unfold bX7_slot_36
    rw [if_pos ((nI_leI (by omega) (by omega)).mpr (Nat.le_refl _)), sX4_thereInAll I.1.2.2]
    rfl
  | succ d ih =>
    intro fu i S I hd hf
    obtain ⟨fu, rfl⟩ : ∃ m, fu = m + 1 := ⟨fu - 1, by omega⟩
    obtain ⟨S1, a1, a2, a3⟩ := cI_step (bar := 0) (a := (25, 0)) (by omega) I rfl (by decide) (fun q hq => by have := (H.fe hq).2; omega) (fun i' g h1 h2 h3 => H.fz h1 h2 h3) (fun i' g h1 h2 => cI_feeds H I _ (by have := H.1.2.2; have := H.2.1.2.2; omega))
    obtain ⟨S', b1, b2, b3⟩ := ih fu (i + 1) S1 a2 (by omega) (by omega)
    refine ⟨S', ?_, b2, a3.tr b3⟩
    show bX7_slot_36 (fX7_slot_36 fu) S _ _ _ = _
    unfold bX7_slot_36
    have a1' : fX1_move 0 (25, 0) S 0 = some S1 := a1
    rw [if_neg (fun q => by have := (nI_leI (a := n) (b := i) (by omega) (by omega)).mp q; omega), a1', Option.bind_some, jlet_eq, nI_1]
    exact b1
theorem nb0 : ∀ l, l < 10 → (0 : Nat).testBit l = decide (nI l = -4) := fun l hl => by
  rw [Nat.zero_testBit, decide_eq_false (n4_ne (by omega))]
theorem sX8_slot_29 {n T : Nat} {A : aW} {x : Int32} (H : HV A.1) (hn : n ≤ 60) (hT : T + 61 < 2 ^ 20) : ∀ (d fu i : Nat) (S : jS), mI S (fun l => (0 : Nat).testBit l) (fun _ => hfe A.1) A T i → (∀ q, q < 18 → S.2 (64, 0) q = nI (hfe A.1 q)) → i + d = n → d < fu → ∃ S', fX8_slot_29 fu S (nI n) x (nI i) = some (aTh (aIt (fun l => (0 : Nat).testBit l) (fun _ => hfe A.1) A n).1 - x, S') ∧ mI S' (fun l => (0 : Nat).testBit l) (fun _ => hfe A.1) A T n ∧ jFr gpG gqG S S' := by
  intro d
  induction d with
  | zero =>
    intro fu i S I ef hd hf
    obtain ⟨fu, rfl⟩ : ∃ m, fu = m + 1 := ⟨fu - 1, by omega⟩
    obtain rfl : i = n := by omega
    refine ⟨S, ?_, I, jFr.rf⟩
    show bX8_slot_29 (fX8_slot_29 fu) S _ _ _ = _
    unfold bX8_slot_29
    rw [if_pos ((nI_leI (by omega) (by omega)).mpr (Nat.le_refl _)), sX8_thereAll I.1]
    rfl
  | succ d ih =>
    intro fu i S I ef hd hf
    obtain ⟨fu, rfl⟩ : ∃ m, fu = m + 1 := ⟨fu - 1, by omega⟩
    obtain ⟨S1, a1, a2, a3⟩ := mI_step (but := -4) (by omega) I nb0 (fun q hq => by have := (H.fe hq).2; omega) (fun i' g h1 h2 h3 => H.fz h1 h2 h3) (fun i' g h1 h2 => ef _ (by have := H.1.2.2; have := H.2.1.2.2; omega))
    obtain ⟨S', b1, b2, b3⟩ := ih fu (i + 1) S1 a2 (fun q hq => by rw [a3.2 (64, 0) (by decide)]; exact ef q hq) (by omega) (by omega)
    refine ⟨S', ?_, b2, a3.tr b3⟩
    show bX8_slot_29 (fX8_slot_29 fu) S _ _ _ = _
    unfold bX8_slot_29
    rw [if_neg (fun q => by have := (nI_leI (a := n) (b := i) (by omega) (by omega)).mp q; omega), a1, Option.bind_some, jlet_eq, nI_1]
    exact b1
theorem m_feeds {S : jS} {h : Nat → Int32} {qs : Nat → List Int32} (H : HV h) (M : WM (S.2 (50, 0)) h qs) : ∃ S', fX8_laysFeeds S = some S' ∧ S'.2 (50, 0) = S.2 (50, 0) ∧ (∀ q, q < 18 → S'.2 (64, 0) q = nI (hfe h q)) ∧ jFr gp0 (fun r => r == (64, 0)) S S' := by
  refine ⟨_, sX8_laysFeeds S, jput_o (by decide), fun q hq => ?_, jFr.put rfl⟩
  rw [jput_at, if_pos hq, M.1 _ (by omega)]
  exact (H.fe hq).1
theorem g64_N : ∀ r : jR, (r == (64, 0)) = true → gqN r = true := fun r h => by
  simp only [beq_iff_eq] at h
  subst h
  decide
theorem z_slot {N : Nat} {S : jS} (h : SM N S) (hN : N < 2000) (x : Int32) : ZZ N S (fun S => fX7_slot S x) (fun S => fX8_slot S x) := by
  obtain ⟨kept, W, A, n, T, C, M, V⟩ := h
  have H := V.1.1
  by_cases c1 : ∃ j, (1 ≤ j ∧ j ≤ 60) ∧ x = nI j
  case neg =>
    refine ZZ_bad (r := -1) C M V ?_ (fun S1 M1 => ?_)
    · show fX7_slot S x = _
      unfold fX7_slot
      rw [wi_no S 1 60 (x := 1) (y := 60) (by omega) (by omega) c1 rfl rfl, Option.bind_some]
      rfl
    · show fX8_slot S1 x = _
      unfold fX8_slot
      rw [in_no S1 (a := 1) (b := 60) (x := 1) (y := 60) c1 (by decide) (by decide), Option.bind_some]
      rfl
  obtain ⟨m, hm', rfl⟩ := c1
  obtain ⟨S1, a1, a2, a3, a4, a5⟩ := sX0_keep H C.1
  obtain ⟨S2, b1, b2, b3⟩ := sX7_slot_36 (n := m) (T := 60 * N) (x := aTh A.1) H hm'.2 (by omega) m 5000 0 S1 ⟨a2.1, V.1, fun _ _ => rfl⟩ (by omega) (by omega)
  obtain ⟨d1, d2⟩ := c_world C a3 a2 b3 b2.1
  refine ZZ_of (r := aTh (aIt (fun l => (0 : Nat).testBit l) (fun _ => hfe A.1) A m).1 - aTh A.1) M (V.push (b2.2.1.mono (by omega))) ⟨S2, ?_, d1, d2⟩ (fun Sm Mm => ?_)
  · show fX7_slot S (nI m) = _
    unfold fX7_slot
    rw [wi_yes S 1 60 (x := 1) (y := 60) hm'.1 hm'.2 (by omega) rfl rfl, Option.bind_some]
    dsimp only
    rw [if_neg (by decide), a1, Option.bind_some, sX4_thereInAll a2.1.2.2, Option.bind_some]
    exact b1
  · obtain ⟨Sk, k1, k2, k3⟩ := sX8_keeps Mm.1
    obtain ⟨Sf, f1, f2, f3, f4⟩ := m_feeds H k2.1
    obtain ⟨S2, b1, b2, b3⟩ := sX8_slot_29 (n := m) (T := 60 * N) (x := aTh A.1) H hm'.2 (by omega) m 5000 0 Sf ⟨by rw [f2]; exact k2.1, V.1, fun _ _ => rfl⟩ f3 (by omega) (by omega)
    obtain ⟨d1, d2⟩ := m_world Mm k3 k2 ((f4.mono gp0_G g64_N).tr (b3.mono (fun _ h => h) gqG_N)) b2.1
    refine ⟨S2, ?_, d1, d2⟩
    show fX8_slot Sm (nI m) = _
    unfold fX8_slot
    rw [in_yes Sm (a := 1) (b := 60) (x := 1) (y := 60) hm'.1 hm'.2 (by omega) (by decide) (by decide), Option.bind_some]
    dsimp only
    rw [if_neg (by decide), k1, Option.bind_some, f1, Option.bind_some, sX8_thereAll (S := Sf) (h := A.1) (qs := A.2) (by rw [f2]; exact k2.1), Option.bind_some]
    exact b1
