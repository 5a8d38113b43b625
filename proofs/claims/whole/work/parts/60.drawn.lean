/-! ===== drawn ===== -/
def aDw (z k i : Nat) : Nat := (7919 * z + 6151 * k + 97 * i + 1) * (7919 * z + 6151 * k + 97 * i + 1) % 65521
def aDv (fe : Nat → Nat) (z k i g : Nat) : Nat := aDw z k i / 8 ^ g % (2 * fe (3 * i + g) + 1)
def aDf (h : Nat → Int32) (z k q : Nat) : Nat := if q / 3 < hm h ∧ q % 3 < hG h then aDv (hfe h) z k (q / 3) (q % 3) else 0
theorem aDw_lt (z k i : Nat) : aDw z k i < 65521 := Nat.mod_lt _ (by omega)
theorem aDx {z k i : Nat} (hz : z ≤ 9999) (hk : k < 60) (hi : i < 6) : ((((7919 : Int64) * (nI z).toInt64) + ((6151 : Int64) * (nI k).toInt64)) + ((97 : Int64) * (nI i).toInt64)) + (1 : Int64) = lN (7919 * z + 6151 * k + 97 * i + 1) := by
  rw [nI_l (show z < 2 ^ 31 by omega), nI_l (show k < 2 ^ 31 by omega), nI_l (show i < 2 ^ 31 by omega), show (7919 : Int64) = lN 7919 from rfl, show (6151 : Int64) = lN 6151 from rfl, show (97 : Int64) = lN 97 from rfl, lN_mul, lN_mul, lN_mul, lN_add, lN_add, lN_1]
theorem aDy {z k i : Nat} (hz : z ≤ 9999) (hk : k < 60) (hi : i < 6) : lN (7919 * z + 6151 * k + 97 * i + 1) * lN (7919 * z + 6151 * k + 97 * i + 1) - lN (7919 * z + 6151 * k + 97 * i + 1) * lN (7919 * z + 6151 * k + 97 * i + 1) / (65521 : Int64) * (65521 : Int64) = lN (aDw z k i) := by
  have hx : 7919 * z + 6151 * k + 97 * i + 1 < 100000000 := by omega
  have hx2 : (7919 * z + 6151 * k + 97 * i + 1) * (7919 * z + 6151 * k + 97 * i + 1) < 100000000 * 100000000 := Nat.mul_lt_mul'' hx hx
  rw [lN_mul, show (65521 : Int64) = lN 65521 from rfl, pk_lRem (Nat.lt_trans hx2 (by decide)) (by omega) (by omega)]
  rfl
theorem pow8 (g : Nat) : 2 ^ (3 * g) = 8 ^ g := by rw [Nat.pow_mul]
/-- what has been written so far -/
def aDW (f : Nat → Int32) (v : Nat → Nat → Nat) (G i g : Nat) : Prop := ∀ i' g', g' < G → (i' < i ∨ (i' = i ∧ g' < g)) → f (3 * i' + g') = nI (v i' g')
theorem aDW.put {f : Nat → Int32} {v : Nat → Nat → Nat} {G i g : Nat} (hG : G ≤ 3) (hg : g < G) (h : aDW f v G i g) : aDW (upd f (3 * i + g) (nI (v i g))) v G i (g + 1) := by
  intro i' g' h1 h2
  by_cases c : i' = i ∧ g' = g
  · obtain ⟨rfl, rfl⟩ := c
    exact pk_us
  · rw [pk_un (by omega)]
    exact h i' g' h1 (by omega)
theorem aDW.next {f : Nat → Int32} {v : Nat → Nat → Nat} {G i : Nat} (h : aDW f v G i G) : aDW f v G (i + 1) 0 := fun i' g' h1 h2 => h i' g' h1 (by omega)
def gq42 (r : jR) : Bool := r == (42, 0)
def gq64 (r : jR) : Bool := r == (64, 0)
theorem sX1_drawFeeds_52 {q3 : jS → Int32 → Int32 → Int32 → Option jS} {G i : Nat} {z k : Int32} {D : Nat} {fe : Nat → Nat} {v : Nat → Nat → Nat} (hG : G ≤ 3) (hi : i < 6) (hD : D < 65521) (hfe : ∀ q, q < 18 → fe q ≤ 9) (hv : ∀ g, g < G → v i g = D / 8 ^ g % (2 * fe (3 * i + g) + 1)) : ∀ (d fu g : Nat) (S : jS), S.1 (2, 1) = nI G → (∀ q, q < 18 → S.2 (25, 1) q = nI (fe q)) → aDW (S.2 (42, 0)) v G i g → g + d = G → d < fu → ∃ S', fX1_drawFeeds_52 1 q3 fu S z k (nI i) (nI D) (nI g) = q3 S' z k (nI (i + 1)) ∧ aDW (S'.2 (42, 0)) v G i G ∧ jFr gp0 gq42 S S' := by
  intro d
  induction d with
  | zero =>
    intro fu g S eG ef w hd hf
    obtain ⟨fu, rfl⟩ : ∃ m, fu = m + 1 := ⟨fu - 1, by omega⟩
    obtain rfl : g = G := by omega
    refine ⟨S, ?_, w, jFr.rf⟩
    show bX1_drawFeeds_52 1 q3 (fX1_drawFeeds_52 1 q3 fu) S _ _ _ _ _ = _
    unfold bX1_drawFeeds_52
    rw [eG, if_pos ((nI_leI (by omega) (by omega)).mpr (Nat.le_refl _)), jlet_eq, nI_1]
  | succ d ih =>
    intro fu g S eG ef w hd hf
    obtain ⟨fu, rfl⟩ : ∃ m, fu = m + 1 := ⟨fu - 1, by omega⟩
    have hF := hfe (3 * i + g) (by omega)
    have w1 : aDW ((jput S (42, 0) (upd (S.2 (42, 0)) (3 * i + g) (nI (v i g)))).2 (42, 0)) v G i (g + 1) := by
      rw [jput_at]
      exact w.put hG (by omega)
    obtain ⟨S', b1, b2, b3⟩ := ih fu (g + 1) (jput S (42, 0) (upd (S.2 (42, 0)) (3 * i + g) (nI (v i g)))) eG (fun q hq => by rw [jput_o (by decide)]; exact ef q hq) w1 (by omega) (by omega)
    refine ⟨S', ?_, b2, (jFr.put rfl).tr b3⟩
    show bX1_drawFeeds_52 1 q3 (fX1_drawFeeds_52 1 q3 fu) S _ _ _ _ _ = _
    unfold bX1_drawFeeds_52 fX7_spot
    rw [eG, if_neg (fun q => by have := (nI_leI (a := G) (b := g) (by omega) (by omega)).mp q; omega), Option.bind_some]
    dsimp only
    have e2 : (2 : Int32) * nI (fe (3 * i + g)) + 1 = nI (2 * fe (3 * i + g) + 1) := by
      rw [show (2 : Int32) = nI 2 from rfl, pk_mul, nI_1]
    rw [li_m3, nI_add, if_pos (jIn_lit (by omega) (by omega))]
    simp only [nI_clamp (show 3 * i + g < 2 ^ 31 by omega), ef (3 * i + g) (by omega), e2]
    rw [if_pos (nI_ne0 (by omega) (by omega)), if_pos (jIn_lit (by omega) (by omega)), jlet_eq, jlet_eq, nI_1, li_3m, pk_shrN (by omega) _ (3 * g) (nb_sl _ (by omega)), pk_rem (Nat.lt_of_le_of_lt (Nat.div_le_self _ _) (by omega)) (by omega) (by omega), pow8, ← hv g (by omega)]
    exact b1
theorem sX1_drawFeeds_3 {m G z k : Nat} {fe : Nat → Nat} (hm : m ≤ 6) (hG : G ≤ 3) (hz : z ≤ 9999) (hk : k < 60) (hfe : ∀ q, q < 18 → fe q ≤ 9) : ∀ (d fu i : Nat) (S : jS), S.1 (1, 1) = nI m → S.1 (2, 1) = nI G → (∀ q, q < 18 → S.2 (25, 1) q = nI (fe q)) → aDW (S.2 (42, 0)) (aDv fe z k) G i 0 → i + d = m → d < fu → ∃ S', fX1_drawFeeds_3 1 fu S (nI z) (nI k) (nI i) = some S' ∧ aDW (S'.2 (42, 0)) (aDv fe z k) G m 0 ∧ jFr gp0 gq42 S S' := by
  intro d
  induction d with
  | zero =>
    intro fu i S em eG ef w hd hf
    obtain ⟨fu, rfl⟩ : ∃ m, fu = m + 1 := ⟨fu - 1, by omega⟩
    obtain rfl : i = m := by omega
    refine ⟨S, ?_, w, jFr.rf⟩
    show bX1_drawFeeds_3 1 (fX1_drawFeeds_3 1 fu) S _ _ _ = _
    unfold bX1_drawFeeds_3
    rw [em, if_pos ((nI_leI (by omega) (by omega)).mpr (Nat.le_refl _))]
  | succ d ih =>
    intro fu i S em eG ef w hd hf
    obtain ⟨fu, rfl⟩ : ∃ m, fu = m + 1 := ⟨fu - 1, by omega⟩
    obtain ⟨S1, a1, a2, a3⟩ := sX1_drawFeeds_52 (q3 := fX1_drawFeeds_3 1 fu) (z := nI z) (k := nI k) (D := aDw z k i) (v := aDv fe z k) hG (show i < 6 by omega) (aDw_lt z k i) hfe (fun g hg => rfl) G 5000 0 S eG ef w (by omega) (by omega)
    obtain ⟨S', b1, b2, b3⟩ := ih fu (i + 1) S1 ((a3.1 (1, 1) rfl).trans em) ((a3.1 (2, 1) rfl).trans eG) (fun q hq => by rw [a3.2 (25, 1) (by decide)]; exact ef q hq) a2.next (by omega) (by omega)
    refine ⟨S', ?_, b2, a3.tr b3⟩
    show bX1_drawFeeds_3 1 (fX1_drawFeeds_3 1 fu) S _ _ _ = _
    unfold bX1_drawFeeds_3
    rw [em, if_neg (fun q => by have := (nI_leI (a := m) (b := i) (by omega) (by omega)).mp q; omega), jlet_eq, jlet_eq, aDx hz hk (by omega), aDy hz hk (by omega), lN_i]
    exact a1.trans b1
theorem sX8_drawsFeeds_50 {q2 : jS → Int32 → Int32 → Int32 → Option jS} {G i : Nat} {z k : Int32} {D : Nat} {fe : Nat → Nat} {v : Nat → Nat → Nat} (hG : G ≤ 3) (hi : i < 6) (hD : D < 65521) (hfe : ∀ q, q < 18 → fe q ≤ 9) (hv : ∀ g, g < G → v i g = D / 8 ^ g % (2 * fe (3 * i + g) + 1)) : ∀ (d fu g : Nat) (S : jS), S.2 (50, 0) 1 = nI G → (∀ q, q < 18 → S.2 (50, 0) (46 + q) = nI (fe q)) → aDW (S.2 (64, 0)) v G i g → g + d = G → d < fu → ∃ S', fX8_drawsFeeds_50 q2 fu S z k (nI i) (lN (D / 8 ^ g)) (nI g) = q2 S' z k (nI (i + 1)) ∧ aDW (S'.2 (64, 0)) v G i G ∧ jFr gp0 gq64 S S' := by
  intro d
  induction d with
  | zero =>
    intro fu g S eG ef w hd hf
    obtain ⟨fu, rfl⟩ : ∃ m, fu = m + 1 := ⟨fu - 1, by omega⟩
    obtain rfl : g = G := by omega
    refine ⟨S, ?_, w, jFr.rf⟩
    show bX8_drawsFeeds_50 q2 (fX8_drawsFeeds_50 q2 fu) S _ _ _ _ _ = _
    unfold bX8_drawsFeeds_50
    rw [if_pos j18, q1, eG, if_pos ((nI_leI (by omega) (by omega)).mpr (Nat.le_refl _)), jlet_eq, nI_1]
  | succ d ih =>
    intro fu g S eG ef w hd hf
    obtain ⟨fu, rfl⟩ : ∃ m, fu = m + 1 := ⟨fu - 1, by omega⟩
    have hF := hfe (3 * i + g) (by omega)
    have w1 : aDW ((jput S (64, 0) (upd (S.2 (64, 0)) (3 * i + g) (nI (v i g)))).2 (64, 0)) v G i (g + 1) := by
      rw [jput_at]
      exact w.put hG (by omega)
    obtain ⟨S', b1, b2, b3⟩ := ih fu (g + 1) (jput S (64, 0) (upd (S.2 (64, 0)) (3 * i + g) (nI (v i g)))) (by rw [jput_o (by decide)]; exact eG) (fun q hq => by rw [jput_o (by decide)]; exact ef q hq) w1 (by omega) (by omega)
    refine ⟨S', ?_, b2, (jFr.put rfl).tr b3⟩
    show bX8_drawsFeeds_50 q2 (fX8_drawsFeeds_50 q2 fu) S _ _ _ _ _ = _
    unfold bX8_drawsFeeds_50
    have hDg : D / 8 ^ g ≤ D := Nat.div_le_self _ _
    have e2 : (2 : Int64) * (nI (fe (3 * i + g))).toInt64 + 1 = lN (2 * fe (3 * i + g) + 1) := by
      rw [nI_l (by omega), show (2 : Int64) = lN 2 from rfl, lN_mul, lN_1]
    have e8 : lN (D / 8 ^ g) / (8 : Int64) = lN (D / 8 ^ (g + 1)) := by
      rw [show (8 : Int64) = lN 8 from rfl, pk_lDiv (by omega) (by omega) (by omega), Nat.div_div_eq_div_mul, ← Nat.pow_succ]
    have en : ¬ lN (2 * fe (3 * i + g) + 1) = 0 := fun q => by
      have := (pk_lEQ (a := 2 * fe (3 * i + g) + 1) (b := 0) (by omega) (by omega)).mp q
      omega
    rw [if_pos j18, q1, eG, if_neg (fun q => by have := (nI_leI (a := G) (b := g) (by omega) (by omega)).mp q; omega), li_3m, li_46, nI_add, nI_add, Nat.add_assoc, if_pos (jIn_lit (by omega) (by omega))]
    simp only [nI_clamp (show 46 + (3 * i + g) < 2 ^ 31 by omega), nI_clamp (show 3 * i + g < 2 ^ 31 by omega), ef (3 * i + g) (by omega), e2]
    rw [if_pos en, if_pos (jIn_lit (by omega) (by omega)), jlet_eq, jlet_eq, jlet_eq, nI_1, e8, pk_lRem (by omega) (by omega) (by omega), lN_i, ← hv g (by omega)]
    exact b1
theorem sX8_drawsFeeds_2 {m G z k : Nat} {fe : Nat → Nat} (hm : m ≤ 6) (hG : G ≤ 3) (hz : z ≤ 9999) (hk : k < 60) (hfe : ∀ q, q < 18 → fe q ≤ 9) : ∀ (d fu i : Nat) (S : jS), S.2 (50, 0) 0 = nI m → S.2 (50, 0) 1 = nI G → (∀ q, q < 18 → S.2 (50, 0) (46 + q) = nI (fe q)) → aDW (S.2 (64, 0)) (aDv fe z k) G i 0 → i + d = m → d < fu → ∃ S', fX8_drawsFeeds_2 fu S (nI z) (nI k) (nI i) = some S' ∧ aDW (S'.2 (64, 0)) (aDv fe z k) G m 0 ∧ jFr gp0 gq64 S S' := by
  intro d
  induction d with
  | zero =>
    intro fu i S em eG ef w hd hf
    obtain ⟨fu, rfl⟩ : ∃ m, fu = m + 1 := ⟨fu - 1, by omega⟩
    obtain rfl : i = m := by omega
    refine ⟨S, ?_, w, jFr.rf⟩
    show bX8_drawsFeeds_2 (fX8_drawsFeeds_2 fu) S _ _ _ = _
    unfold bX8_drawsFeeds_2
    rw [if_pos j08, q0, em, if_pos ((nI_leI (by omega) (by omega)).mpr (Nat.le_refl _))]
  | succ d ih =>
    intro fu i S em eG ef w hd hf
    obtain ⟨fu, rfl⟩ : ∃ m, fu = m + 1 := ⟨fu - 1, by omega⟩
    obtain ⟨S1, a1, a2, a3⟩ := sX8_drawsFeeds_50 (q2 := fX8_drawsFeeds_2 fu) (z := nI z) (k := nI k) (D := aDw z k i) (v := aDv fe z k) hG (show i < 6 by omega) (aDw_lt z k i) hfe (fun g hg => rfl) G 5000 0 S eG ef w (by omega) (by omega)
    have e50 : S1.2 (50, 0) = S.2 (50, 0) := a3.2 (50, 0) (by decide)
    obtain ⟨S', b1, b2, b3⟩ := ih fu (i + 1) S1 (by rw [e50]; exact em) (by rw [e50]; exact eG) (by rw [e50]; exact ef) a2.next (by omega) (by omega)
    refine ⟨S', ?_, b2, a3.tr b3⟩
    show bX8_drawsFeeds_2 (fX8_drawsFeeds_2 fu) S _ _ _ = _
    unfold bX8_drawsFeeds_2
    rw [if_pos j08, q0, em, if_neg (fun q => by have := (nI_leI (a := m) (b := i) (by omega) (by omega)).mp q; omega), jlet_eq, jlet_eq, aDx hz hk (by omega), aDy hz hk (by omega)]
    rw [Nat.pow_zero, Nat.div_one] at a1
    exact a1.trans b1
theorem aDf_lt {h : Nat → Int32} (H : HV h) {z k q : Nat} (hq : q < 18) : aDf h z k q < 100 := by
  unfold aDf aDv
  have h3 := Nat.div_add_mod q 3
  have hF := (H.fe hq).2
  split
  · refine Nat.lt_trans (Nat.mod_lt _ (by omega)) ?_
    rw [h3]
    omega
  · omega
theorem aDf_z {h : Nat → Int32} (H : HV h) {z k i g : Nat} (hi : i < 6) (hg : g < 3) (hn : ¬ hq h i g) : aDf h z k (3 * i + g) = 0 := by
  unfold aDf aDv
  have e1 : (3 * i + g) / 3 = i := by omega
  have e2 : (3 * i + g) % 3 = g := by omega
  rw [e1, e2, H.fz hi hg hn]
  split
  · exact Nat.mod_one _
  · rfl
theorem aDf_in {h : Nat → Int32} {z k i g : Nat} (hi : i < hm h) (hg : g < hG h) (h3 : hG h ≤ 3) : aDf h z k (3 * i + g) = aDv (hfe h) z k i g := by
  unfold aDf
  have e1 : (3 * i + g) / 3 = i := by omega
  have e2 : (3 * i + g) % 3 = g := by omega
  rw [e1, e2, if_pos ⟨hi, hg⟩]
theorem gq42_S : ∀ r, gq42 r = true → gqS r = true := fun r h => by
  simp only [gq42, beq_iff_eq] at h
  subst h
  decide
theorem cI_42 {S S' : jS} {bar : Nat → Bool} {fs : Nat → Nat → Nat} {A : aW} {T i : Nat} (F : jFr gp0 gq42 S S') (I : cI 1 S bar fs A T i) : cI 1 S' bar fs A T i := ⟨I.1.same (WSame.fr F (fun c _ => rfl) (fun c h1 h2 => bq_f (Or.inl (by omega)))), I.2⟩
theorem sX7_drawn_46 {n z T : Nat} {A : aW} {y : Int32} (H : HV A.1) (hz : z ≤ 9999) (hn : n ≤ 60) (hT : T + 61 < 2 ^ 31) : ∀ (d fu i : Nat) (S : jS), cI 1 S (fun l => (0 : Nat).testBit l) (aDf A.1 z) A T i → i + d = n → d < fu → ∃ S' fu', fX7_drawn_46 fu S (nI z) (nI n) y (nI i) = fX7_drawn_46 (fu' + 1) S' (nI z) (nI n) y (nI n) ∧ cI 1 S' (fun l => (0 : Nat).testBit l) (aDf A.1 z) A T n ∧ jFr gpS gqS S S' := by
  have h6 := H.1.2.2
  have h3 := H.2.1.2.2
  intro d
  induction d with
  | zero =>
    intro fu i S I hd hf
    obtain ⟨fu, rfl⟩ : ∃ m, fu = m + 1 := ⟨fu - 1, by omega⟩
    obtain rfl : i = n := by omega
    exact ⟨S, fu, rfl, I, jFr.rf⟩
  | succ d ih =>
    intro fu i S I hd hf
    obtain ⟨fu, rfl⟩ : ∃ m, fu = m + 1 := ⟨fu - 1, by omega⟩
    have em : S.1 (1, 1) = nI (hm A.1) := by rw [I.1.1.1.1, I.2.2 0 (by omega)]; exact H.1.1
    have eG : S.1 (2, 1) = nI (hG A.1) := by rw [I.1.1.1.2.1, I.2.2 1 (by omega)]; exact H.2.1.1
    obtain ⟨S0, c1, c2, c3⟩ := sX1_drawFeeds_3 (m := hm A.1) (G := hG A.1) (z := z) (k := i) (fe := hfe A.1) h6 h3 hz (by omega) (fun q hq => (H.fe hq).2) (hm A.1) 5000 0 S em eG (cI_feeds H I) (fun i' g' _ h2 => by omega) (by omega) (by omega)
    obtain ⟨S1, a1, a2, a3⟩ := cI_step (bar := 0) (a := (42, 0)) (by omega) (cI_42 c3 I) rfl (by decide) (fun q hq => aDf_lt H hq) (fun i' g h1 h2 h3 => aDf_z H h1 h2 h3) (fun i' g h1 h2 => by rw [aDf_in h1 h2 h3]; exact c2 i' g h2 (by omega))
    obtain ⟨S', fu', b1, b2, b3⟩ := ih fu (i + 1) S1 a2 (by omega) (by omega)
    refine ⟨S', fu', ?_, b2, ((c3.mono gp0_S gq42_S).tr (a3.mono gpM1_S gqM1_S)).tr b3⟩
    show bX7_drawn_46 (fX7_drawn_46 fu) S _ _ _ _ = _
    unfold bX7_drawn_46
    have a1' : fX1_move 1 (42, 0) S0 0 = some S1 := a1
    have c1' : fX1_drawFeeds 1 S (nI z) (nI i) = some S0 := c1
    rw [if_neg (fun q => by have := (nI_leI (a := n) (b := i) (by omega) (by omega)).mp q; omega), c1', Option.bind_some, a1', Option.bind_some, jlet_eq, nI_1]
    exact b1
theorem gq64_B : ∀ r, gq64 r = true → gqB r = true := fun r h => by
  simp only [gq64, beq_iff_eq] at h
  subst h
  decide
theorem mI_64 {S S' : jS} {bar : Nat → Bool} {fs : Nat → Nat → Nat} {A : aW} {T i : Nat} (F : jFr gp0 gq64 S S') (I : mI S bar fs A T i) : mI S' bar fs A T i := ⟨by rw [F.2 (50, 0) (by decide)]; exact I.1, I.2⟩
theorem sX8_drawn_60 {n z T : Nat} {A : aW} {y u v : Int32} (H : HV A.1) (hz : z ≤ 9999) (hn : n ≤ 60) (hT : T + 61 < 2 ^ 20) : ∀ (d fu i : Nat) (S : jS), mI S (fun l => (0 : Nat).testBit l) (aDf A.1 z) A T i → i + d = n → d < fu → ∃ S' fu', fX8_drawn_60 fu S (nI z) (nI n) y u v (nI i) = fX8_drawn_60 (fu' + 1) S' (nI z) (nI n) y u v (nI n) ∧ mI S' (fun l => (0 : Nat).testBit l) (aDf A.1 z) A T n ∧ jFr gpE gqB S S' ∧ S'.2 (51, 0) = S.2 (51, 0) := by
  have h6 := H.1.2.2
  have h3 := H.2.1.2.2
  intro d
  induction d with
  | zero =>
    intro fu i S I hd hf
    obtain ⟨fu, rfl⟩ : ∃ m, fu = m + 1 := ⟨fu - 1, by omega⟩
    obtain rfl : i = n := by omega
    exact ⟨S, fu, rfl, I, jFr.rf, rfl⟩
  | succ d ih =>
    intro fu i S I hd hf
    obtain ⟨fu, rfl⟩ : ∃ m, fu = m + 1 := ⟨fu - 1, by omega⟩
    have em : S.2 (50, 0) 0 = nI (hm A.1) := by rw [I.1.1 0 (by omega), I.2.2 0 (by omega)]; exact H.1.1
    have eG : S.2 (50, 0) 1 = nI (hG A.1) := by rw [I.1.1 1 (by omega), I.2.2 1 (by omega)]; exact H.2.1.1
    obtain ⟨S0, c1, c2, c3⟩ := sX8_drawsFeeds_2 (m := hm A.1) (G := hG A.1) (z := z) (k := i) (fe := hfe A.1) h6 h3 hz (by omega) (fun q hq => (H.fe hq).2) (hm A.1) 5000 0 S em eG (fun q hq => by rw [I.1.1 _ (by omega), I.2.2 _ (by omega)]; exact (H.fe hq).1) (fun i' g' _ h2 => by omega) (by omega) (by omega)
    obtain ⟨S1, a1, a2, a3⟩ := mI_step (but := -4) (by omega) (mI_64 c3 I) nb0 (fun q hq => aDf_lt H hq) (fun i' g h1 h2 h3 => aDf_z H h1 h2 h3) (fun i' g h1 h2 => by rw [aDf_in h1 h2 h3]; exact c2 i' g h2 (by omega))
    obtain ⟨S', fu', b1, b2, b3, b4⟩ := ih fu (i + 1) S1 a2 (by omega) (by omega)
    refine ⟨S', fu', ?_, b2, ((c3.mono gp0_E gq64_B).tr (a3.mono gpG_E gqG_B)).tr b3, b4.trans ((a3.2 (51, 0) (by decide)).trans (c3.2 (51, 0) (by decide)))⟩
    show bX8_drawn_60 (fX8_drawn_60 fu) S _ _ _ _ _ _ = _
    unfold bX8_drawn_60
    have c1' : fX8_drawsFeeds S (nI z) (nI i) = some S0 := c1
    rw [if_neg (fun q => by have := (nI_leI (a := n) (b := i) (by omega) (by omega)).mp q; omega), c1', Option.bind_some, a1, Option.bind_some, jlet_eq, nI_1]
    exact b1
theorem z_drawn {N : Nat} {S : jS} (h : SM N S) (hN : N < 2000) (x y w : Int32) : ZZ N S (fun S => fX7_drawn S x y w) (fun S => fX8_drawn S x y w) := by
  obtain ⟨kept, W, A, n, T, C, M, V⟩ := h
  have H := V.1.1
  by_cases c0 : ∃ j, (0 ≤ j ∧ j ≤ 9999) ∧ x = nI j
  case neg =>
    refine ZZ_bad (r := -1) C M V ?_ (fun S1 M1 => ?_)
    · show fX7_drawn S x y w = _
      unfold fX7_drawn
      rw [wi_no S 0 9999 (x := 0) (y := 9999) (by omega) (by omega) c0 rfl rfl, Option.bind_some]
      rfl
    · show fX8_drawn S1 x y w = _
      unfold fX8_drawn
      rw [in_no S1 (a := 0) (b := 9999) (x := 0) (y := 9999) c0 (by decide) (by decide), Option.bind_some]
      rfl
  obtain ⟨z, hz, rfl⟩ := c0
  by_cases c1 : ∃ j, (1 ≤ j ∧ j ≤ 60) ∧ y = nI j
  case neg =>
    refine ZZ_bad (r := -1) C M V ?_ (fun S1 M1 => ?_)
    · show fX7_drawn S (nI z) y w = _
      unfold fX7_drawn
      rw [wi_yes S 0 9999 (x := 0) (y := 9999) hz.1 hz.2 (by omega) rfl rfl, Option.bind_some]
      dsimp only
      rw [if_neg (by decide), wi_no S 1 60 (x := 1) (y := 60) (by omega) (by omega) c1 rfl rfl, Option.bind_some]
      rfl
    · show fX8_drawn S1 (nI z) y w = _
      unfold fX8_drawn
      rw [in_yes S1 (a := 0) (b := 9999) (x := 0) (y := 9999) hz.1 hz.2 (by omega) (by decide) (by decide), Option.bind_some]
      dsimp only
      rw [if_neg (by decide), in_no S1 (a := 1) (b := 60) (x := 1) (y := 60) c1 (by decide) (by decide), Option.bind_some]
      rfl
  obtain ⟨m, hm', rfl⟩ := c1
  by_cases c2 : ∃ j, (0 ≤ j ∧ j ≤ 2) ∧ w = nI j
  case neg =>
    refine ZZ_bad (r := -1) C M V ?_ (fun S1 M1 => ?_)
    · show fX7_drawn S (nI z) (nI m) w = _
      unfold fX7_drawn
      rw [wi_yes S 0 9999 (x := 0) (y := 9999) hz.1 hz.2 (by omega) rfl rfl, Option.bind_some]
      dsimp only
      rw [if_neg (by decide), wi_yes S 1 60 (x := 1) (y := 60) hm'.1 hm'.2 (by omega) rfl rfl, Option.bind_some]
      dsimp only
      rw [if_neg (by decide), wi_no S 0 2 (x := 0) (y := 2) (by omega) (by omega) c2 rfl rfl, Option.bind_some]
      rfl
    · show fX8_drawn S1 (nI z) (nI m) w = _
      unfold fX8_drawn
      rw [in_yes S1 (a := 0) (b := 9999) (x := 0) (y := 9999) hz.1 hz.2 (by omega) (by decide) (by decide), Option.bind_some]
      dsimp only
      rw [if_neg (by decide), in_yes S1 (a := 1) (b := 60) (x := 1) (y := 60) hm'.1 hm'.2 (by omega) (by decide) (by decide), Option.bind_some]
      dsimp only
      rw [if_neg (by decide), in_no S1 (a := 0) (b := 2) (x := 0) (y := 2) c2 (by decide) (by decide), Option.bind_some]
      rfl
  obtain ⟨wh, hw, rfl⟩ := c2
  obtain ⟨S1, a1, a2, a3⟩ := c_trial H C.1.1
  obtain ⟨S2, fu2, b1, b2, b3⟩ := sX7_drawn_46 (n := m) (z := z) (T := 60 * N) (y := nI wh) H hz.2 hm'.2 (by omega) m 5000 0 S1 ⟨a2, V.1, fun _ _ => rfl⟩ (by omega) (by omega)
  have w0 : WC 0 S2 A.1 A.2 := C.1.1.same (WSame_S (by omega) (a3.tr b3))
  refine ZZ_scm (r := aSi wh A (aIt (fun l => (0 : Nat).testBit l) (aDf A.1 z) A m)) C M V ⟨S2, ?_, a3.tr b3⟩ (fun Sm Mm => ?_)
  · show fX7_drawn S (nI z) (nI m) (nI wh) = _
    unfold fX7_drawn
    rw [wi_yes S 0 9999 (x := 0) (y := 9999) hz.1 hz.2 (by omega) rfl rfl, Option.bind_some]
    dsimp only
    rw [if_neg (by decide), wi_yes S 1 60 (x := 1) (y := 60) hm'.1 hm'.2 (by omega) rfl rfl, Option.bind_some]
    dsimp only
    rw [if_neg (by decide), wi_yes S 0 2 (x := 0) (y := 2) hw.1 hw.2 (by omega) rfl rfl, Option.bind_some]
    dsimp only
    rw [if_neg (by decide), a1, Option.bind_some]
    refine b1.trans ?_
    show bX7_drawn_46 (fX7_drawn_46 fu2) S2 _ _ _ _ = _
    unfold bX7_drawn_46
    rw [if_pos ((nI_leI (by omega) (by omega)).mpr (Nat.le_refl _)), c_since hw.2 w0 b2.1, Option.bind_some]
  · obtain ⟨Sa, e1, e2, e3, e4⟩ := m_aside Sm
    have Ma : WM (Sa.2 (50, 0)) A.1 A.2 := by rw [e2]; exact Mm.1.1
    obtain ⟨S3, fu3, g1, g2, g3, g4⟩ := sX8_drawn_60 (n := m) (z := z) (T := 60 * N) (y := nI wh) (u := aTh A.1) (v := A.1 76) H hz.2 hm'.2 (by omega) m 5000 0 Sa ⟨Ma, V.1, fun _ _ => rfl⟩ (by omega) (by omega)
    obtain ⟨S4, k1, k2, k3⟩ := m_back Mm (e4.tr g3) (fun j hj => by rw [g4]; exact e3 j hj)
    refine ⟨S4, ?_, k2, k3⟩
    show fX8_drawn Sm (nI z) (nI m) (nI wh) = _
    unfold fX8_drawn
    rw [in_yes Sm (a := 0) (b := 9999) (x := 0) (y := 9999) hz.1 hz.2 (by omega) (by decide) (by decide), Option.bind_some]
    dsimp only
    rw [if_neg (by decide), in_yes Sm (a := 1) (b := 60) (x := 1) (y := 60) hm'.1 hm'.2 (by omega) (by decide) (by decide), Option.bind_some]
    dsimp only
    rw [if_neg (by decide), in_yes Sm (a := 0) (b := 2) (x := 0) (y := 2) hw.1 hw.2 (by omega) (by decide) (by decide), Option.bind_some]
    dsimp only
    rw [if_neg (by decide), e1, Option.bind_some, sX8_thereAll Ma, Option.bind_some]
    dsimp only
    rw [if_pos (by decide), jlet_eq, cl76, Ma.1 76 (by omega)]
    refine g1.trans ?_
    show bX8_drawn_60 (fX8_drawn_60 fu3) S3 _ _ _ _ _ _ = _
    unfold bX8_drawn_60 bX8_drawn_121 aSi
    rw [if_pos ((nI_leI (by omega) (by omega)).mpr (Nat.le_refl _)), sX8_packets g2.1, Option.bind_some, sX8_thereAll g2.1, Option.bind_some]
    dsimp only
    rw [k1, if_pos (show jIn (76 : Int32) 815 by decide), cl76, g2.1.1 76 (by omega)]
    rcases (show wh = 0 ∨ wh = 1 ∨ wh = 2 by omega) with rfl | rfl | rfl
    · rfl
    · rfl
    · rfl
