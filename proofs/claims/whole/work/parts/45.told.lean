/-! ===== an item keeps the header valid ===== -/
theorem TV_zero : TV (fun _ => 0) := by
  have z : jN 0 = 0 := by decide
  have c0 : ∀ a, hcl (fun _ => 0) a = 0 := fun a => by
    unfold hcl
    show (if _ then jN 0 else 0) = 0
    rw [z]
    split <;> rfl
  refine ⟨⟨?_, ?_, ?_⟩, ⟨⟨?_, ?_⟩, ?_, ?_⟩, ⟨⟨?_, ?_⟩, ?_⟩, ⟨?_, ?_, ?_, ?_⟩, ?_, ⟨⟨?_, ?_⟩, ?_⟩, fun _ _ _ => rfl, fun _ _ _ => rfl⟩
  · show (0 : Int32) = nI (jN 0); rw [z]; rfl
  · show jN 0 ≤ 6; rw [z]; omega
  · show jN 0 ≠ 1; rw [z]; omega
  · show (0 : Int32) = nI (jN 0); rw [z]; rfl
  · show jN 0 ≤ 3; rw [z]; omega
  · intro g hg; exact absurd (show g < jN 0 from hg) (by rw [z]; omega)
  · intro g g' hg; exact absurd (show g < jN 0 from hg) (by rw [z]; omega)
  · show (0 : Int32) = nI (jN 0); rw [z]; rfl
  · show jN 0 ≤ 10; rw [z]; omega
  · intro g hg; exact absurd (show g < jN 0 from hg) (by rw [z]; omega)
  · intro g hg; exact absurd (show g < jN 0 from hg) (by rw [z]; omega)
  · intro a b; rw [c0, c0, Nat.zero_testBit, Nat.zero_testBit]
  · intro a; rw [c0, Nat.zero_testBit]
  · intro a; rw [c0]; exact Nat.two_pow_pos _
  · intro i g _ _
    refine ⟨⟨?_, ?_⟩, fun _ => rfl⟩
    · show (0 : Int32) = nI (jN 0); rw [z]; rfl
    · show jN 0 ≤ 9; rw [z]; omega
  · show (0 : Int32) = nI (jN 0); rw [z]; rfl
  · show jN 0 ≤ 9; rw [z]; omega
  · exact Or.inl rfl
theorem hn_of {h h' : Nat → Int32} (e : h' 5 = h 5) : hn h' = hn h := congrArg jN e
theorem cz_cg {h h' : Nat → Int32} (e5 : h' 5 = h 5) (e : ∀ j, 36 ≤ j → j < 46 → h' j = h j) (H : ∀ l, hn h ≤ l → l < 10 → h (36 + l) = 0) : ∀ l, hn h' ≤ l → l < 10 → h' (36 + l) = 0 := fun l h1 h2 => by
  rw [e _ (by omega) (by omega)]
  exact H l (by rw [hn_of e5] at h1; exact h1) h2
theorem TV_n {h : Nat → Int32} (H : TV h) {u : Nat} (h0 : hm h = 0) (h2 : 2 ≤ u) (h6 : u ≤ 6) : TV (upd h 0 (nI u)) := by
  obtain ⟨a, g, l, c, f, b, cz, z⟩ := H
  have E : ∀ j, j ≠ 0 → upd h 0 (nI u) j = h j := fun j hj => pk_un hj
  have em : hm (upd h 0 (nI u)) = u := by
    show jN (upd h 0 (nI u) 0) = u
    rw [pk_us, jN_nI (by omega)]
  have eG : hG (upd h 0 (nI u)) = hG h := congrArg jN (E 1 (by omega))
  have en : hn (upd h 0 (nI u)) = hn h := congrArg jN (E 5 (by omega))
  have g0 : hG h = 0 := by
    by_cases q : hG h = 0
    · exact q
    · have := (g.2.1 0 (by omega)).2
      omega
  have n0 : hn h = 0 := by
    by_cases q : hn h = 0
    · exact q
    · have := (l.2 0 (by omega)).1.2
      omega
  refine ⟨⟨?_, by omega, by omega⟩, ⟨⟨?_, by omega⟩, fun k hk => absurd hk (by omega), fun k _ hk => absurd hk (by omega)⟩, ⟨⟨?_, by omega⟩, fun k hk => absurd hk (by omega)⟩, c.cg l.1.2 (E 5 (by omega)) (fun j _ _ => E j (by omega)), ?_, b.cg (E 64 (by omega)) (E 65 (by omega)), cz_cg (E 5 (by omega)) (fun j _ _ => E j (by omega)) cz, fun j h1 h2 => by rw [E j (by omega)]; exact z j h1 h2⟩
  · rw [em]; exact pk_us
  · rw [eG, E 1 (by omega)]; exact g.1.1
  · rw [en, E 5 (by omega)]; exact l.1.1
  · intro i k hi hk
    have ef : hfe (upd h 0 (nI u)) (3 * i + k) = hfe h (3 * i + k) := congrArg jN (E _ (by omega))
    rw [E _ (by omega), ef]
    exact ⟨(f i k hi hk).1, fun _ => (f i k hi hk).2 (fun q => by have := q.2.1; omega)⟩
theorem TV_b {h : Nat → Int32} (H : TV h) {u : Nat} (h9 : u ≤ 9) : TV (upd h 64 (nI u)) := by
  obtain ⟨a, g, l, c, f, b, cz, z⟩ := H
  have E : ∀ j, j ≠ 64 → upd h 64 (nI u) j = h j := fun j hj => pk_un hj
  have em : hb (upd h 64 (nI u)) = u := by
    show jN (upd h 64 (nI u) 64) = u
    rw [pk_us, jN_nI (by omega)]
  refine ⟨a.cg (E 0 (by omega)), g.cg (fun j _ => E j (by omega)), l.cg (E 0 (by omega)) (fun j _ _ => E j (by omega)), c.cg l.1.2 (E 5 (by omega)) (fun j _ _ => E j (by omega)), f.cg g.1.2 (fun j _ => E j (by omega)) (fun j _ _ => E j (by omega)), ⟨⟨?_, by omega⟩, ?_⟩, cz_cg (E 5 (by omega)) (fun j _ _ => E j (by omega)) cz, fun j h1 h2 => by rw [E j (by omega)]; exact z j h1 h2⟩
  · rw [em]; exact pk_us
  · rw [E 65 (by omega)]; exact b.2
theorem TV_o {h : Nat → Int32} (H : TV h) {u : Nat} (h9 : u ≤ 1) : TV (upd h 65 (nI u)) := by
  obtain ⟨a, g, l, c, f, b, cz, z⟩ := H
  have E : ∀ j, j ≠ 65 → upd h 65 (nI u) j = h j := fun j hj => pk_un hj
  have em : hb (upd h 65 (nI u)) = hb h := congrArg jN (E 64 (by omega))
  refine ⟨a.cg (E 0 (by omega)), g.cg (fun j _ => E j (by omega)), l.cg (E 0 (by omega)) (fun j _ _ => E j (by omega)), c.cg l.1.2 (E 5 (by omega)) (fun j _ _ => E j (by omega)), f.cg g.1.2 (fun j _ => E j (by omega)) (fun j _ _ => E j (by omega)), ⟨?_, ?_⟩, cz_cg (E 5 (by omega)) (fun j _ _ => E j (by omega)) cz, fun j h1 h2 => by rw [E j (by omega)]; exact z j h1 h2⟩
  · rw [em, E 64 (by omega)]; exact b.1
  · rw [pk_us]
    rcases Nat.le_one_iff_eq_zero_or_eq_one.mp h9 with rfl | rfl
    · exact Or.inl rfl
    · exact Or.inr rfl
theorem Vf.feed {h : Nat → Int32} (H : Vf h) (a : hm h ≤ 6) (h3 : hG h ≤ 3) {u v w : Nat} (hu : u < hm h) (hv : v < hG h) (hgo' : hgo h v ≠ u) (hw : w ≤ 9) : Vf (upd h (46 + (3 * u + v)) (nI w)) := by
  have E : ∀ j, j ≠ 46 + (3 * u + v) → upd h (46 + (3 * u + v)) (nI w) j = h j := fun j hj => pk_un hj
  intro i g hi hg
  have eq : hq (upd h (46 + (3 * u + v)) (nI w)) i g ↔ hq h i g := by
    have a0 : hm (upd h (46 + (3 * u + v)) (nI w)) = hm h := congrArg jN (E 0 (by omega))
    have a1 : hG (upd h (46 + (3 * u + v)) (nI w)) = hG h := congrArg jN (E 1 (by omega))
    have a2 : hgo (upd h (46 + (3 * u + v)) (nI w)) g = hgo h g := congrArg jN (E _ (by omega))
    unfold hq
    rw [a0, a1, a2]
  by_cases c : 3 * i + g = 3 * u + v
  · have e1 : i = u := by omega
    have e2 : g = v := by omega
    subst e1 e2
    have ef : hfe (upd h (46 + (3 * i + g)) (nI w)) (3 * i + g) = w := by
      unfold hfe
      rw [pk_us, jN_nI (by omega)]
    rw [ef, pk_us]
    exact ⟨⟨rfl, hw⟩, fun q => absurd (eq.mpr ⟨hu, hv, hgo'⟩) q⟩
  · have ef : hfe (upd h (46 + (3 * u + v)) (nI w)) (3 * i + g) = hfe h (3 * i + g) := congrArg jN (E _ (by omega))
    rw [ef, E _ (by omega)]
    exact ⟨(H i g hi hg).1, fun q => (H i g hi hg).2 (fun q' => q (eq.mpr q'))⟩
theorem TV_f {h : Nat → Int32} (H : TV h) {u v w : Nat} (hu : u < hm h) (hv : v < hG h) (hgo' : hgo h v ≠ u) (hw : w ≤ 9) : TV (upd h (46 + (3 * u + v)) (nI w)) := by
  obtain ⟨a, g, l, c, f, b, cz, z⟩ := H
  have E : ∀ j, j < 46 ∨ 64 ≤ j → upd h (46 + (3 * u + v)) (nI w) j = h j := fun j hj => pk_un (by have := a.2.1; have := g.1.2; omega)
  exact ⟨a.cg (E 0 (by omega)), g.cg (fun j _ => E j (by omega)), l.cg (E 0 (by omega)) (fun j _ _ => E j (by omega)), c.cg l.1.2 (E 5 (by omega)) (fun j _ _ => E j (by omega)), f.feed a.2.1 g.1.2 hu hv hgo' hw, b.cg (E 64 (by omega)) (E 65 (by omega)), cz_cg (E 5 (by omega)) (fun j _ _ => E j (by omega)) cz, fun j h1 h2 => by rw [E j (by omega)]; exact z j h1 h2⟩
theorem TV_g {h : Nat → Int32} (H : TV h) {u : Nat} (hu : u < hm h) (h3 : hG h < 3) (hno : ∀ g, g < hG h → hgo h g ≠ u) : TV (tG h u) := by
  obtain ⟨a, g, l, c, f, b, cz, z⟩ := H
  have a6 := a.2.1
  have E : ∀ j, j = 0 ∨ 5 ≤ j → tG h u j = h j := fun j hj => by
    unfold tG
    rw [pk_un (by omega), pk_un (by omega)]
  have em : hm (tG h u) = hm h := congrArg jN (E 0 (by omega))
  have e1 : tG h u 1 = nI (hG h + 1) := pk_us
  have eG : hG (tG h u) = hG h + 1 := by
    show jN (tG h u 1) = _
    rw [e1, jN_nI (by omega)]
  have en : tG h u (2 + hG h) = nI u := by
    unfold tG
    rw [pk_un (by omega), pk_us]
  have eo : ∀ k, k ≠ hG h → tG h u (2 + k) = h (2 + k) := fun k hk => by
    unfold tG
    rw [pk_un (by omega), pk_un (by omega)]
  have gn : hgo (tG h u) (hG h) = u := by
    unfold hgo
    rw [en, jN_nI (by omega)]
  have go : ∀ k, k ≠ hG h → hgo (tG h u) k = hgo h k := fun k hk => congrArg jN (eo k hk)
  refine ⟨a.cg (E 0 (by omega)), ⟨⟨by rw [e1, eG], by omega⟩, fun k hk => ?_, fun k k' hk hk' q => ?_⟩, l.cg (E 0 (by omega)) (fun j _ _ => E j (by omega)), c.cg l.1.2 (E 5 (by omega)) (fun j _ _ => E j (by omega)), fun i k hi hk => ?_, b.cg (E 64 (by omega)) (E 65 (by omega)), cz_cg (E 5 (by omega)) (fun j _ _ => E j (by omega)) cz, fun j h1 h2 => by rw [E j (by omega)]; exact z j h1 h2⟩
  · rw [eG] at hk
    rw [em]
    by_cases c1 : k = hG h
    · subst c1
      rw [en, gn]
      exact ⟨rfl, hu⟩
    · rw [eo k c1, go k c1]
      exact g.2.1 k (by omega)
  · rw [eG] at hk hk'
    by_cases c1 : k = hG h
    · by_cases c2 : k' = hG h
      · omega
      · rw [c1, gn, go k' c2] at q
        exact absurd q.symm (hno k' (by omega))
    · by_cases c2 : k' = hG h
      · rw [c2, gn, go k c1] at q
        exact absurd q (hno k (by omega))
      · rw [go k c1, go k' c2] at q
        exact g.2.2 k k' (by omega) (by omega) q
  · have ef : hfe (tG h u) (3 * i + k) = hfe h (3 * i + k) := congrArg jN (E _ (by omega))
    rw [E _ (by omega), ef]
    refine ⟨(f i k hi hk).1, fun q => (f i k hi hk).2 (fun q' => q ?_)⟩
    obtain ⟨q1, q2, q3⟩ := q'
    exact ⟨by rw [em]; exact q1, by rw [eG]; omega, by rw [go k (by omega)]; exact q3⟩
theorem TV_l {h : Nat → Int32} (H : TV h) {u v w : Nat} (hu : u < hm h) (hv : v < hm h) (huv : u ≠ v) (hw : 1 ≤ w ∧ w ≤ 9) (h10 : hn h < 10) : TV (tL h u v w) := by
  obtain ⟨a, g, l, c, f, b, cz, z⟩ := H
  have a6 := a.2.1
  have E : ∀ j, j < 5 ∨ 36 ≤ j → tL h u v w j = h j := fun j hj => by
    unfold tL
    rw [pk_un (by omega), pk_un (by omega), pk_un (by omega), pk_un (by omega)]
  have em : hm (tL h u v w) = hm h := congrArg jN (E 0 (by omega))
  have e5 : tL h u v w 5 = nI (hn h + 1) := pk_us
  have en : hn (tL h u v w) = hn h + 1 := by
    show jN (tL h u v w 5) = _
    rw [e5, jN_nI (by omega)]
  have l1 : tL h u v w (6 + 3 * hn h) = nI u := by
    unfold tL
    rw [pk_un (by omega), pk_un (by omega), pk_un (by omega), pk_us]
  have l2 : tL h u v w (7 + 3 * hn h) = nI v := by
    unfold tL
    rw [pk_un (by omega), pk_un (by omega), show 7 + 3 * hn h = 6 + 3 * hn h + 1 by omega, pk_us]
  have l3 : tL h u v w (8 + 3 * hn h) = nI w := by
    unfold tL
    rw [pk_un (by omega), show 8 + 3 * hn h = 6 + 3 * hn h + 2 by omega, pk_us]
  have lo : ∀ j, 6 ≤ j → j < 6 + 3 * hn h → tL h u v w j = h j := fun j h1 h2 => by
    unfold tL
    rw [pk_un (by omega), pk_un (by omega), pk_un (by omega), pk_un (by omega)]
  have cl0 : hcl (tL h u v w) = hcl h := by
    funext x
    unfold hcl
    rw [en, E _ (by omega)]
    by_cases c1 : x < hn h
    · rw [if_pos c1, if_pos (by omega)]
    · rw [if_neg c1]
      by_cases c2 : x < hn h + 1
      · rw [if_pos c2, cz x (by omega) (by omega)]
        rfl
      · rw [if_neg c2]
  refine ⟨a.cg (E 0 (by omega)), g.cg (fun j _ => E j (by omega)), ⟨⟨by rw [e5, en], by omega⟩, fun k hk => ?_⟩, ⟨fun k hk => ?_, ?_, ?_, ?_⟩, f.cg g.1.2 (fun j _ => E j (by omega)) (fun j _ _ => E j (by omega)), b.cg (E 64 (by omega)) (E 65 (by omega)), fun k h1 h2 => ?_, fun j h1 h2 => by rw [E j (by omega)]; exact z j h1 h2⟩
  · rw [en] at hk
    rw [em]
    by_cases c1 : k = hn h
    · subst c1
      have b1 : hfi (tL h u v w) (hn h) = u := by unfold hfi; rw [l1, jN_nI (by omega)]
      have b2 : hse (tL h u v w) (hn h) = v := by unfold hse; rw [l2, jN_nI (by omega)]
      have b3 : hro (tL h u v w) (hn h) = w := by unfold hro; rw [l3, jN_nI (by omega)]
      rw [b1, b2, b3, l1, l2, l3]
      exact ⟨⟨rfl, hu⟩, ⟨rfl, hv⟩, huv, rfl, hw⟩
    · have b1 : hfi (tL h u v w) k = hfi h k := congrArg jN (lo _ (by omega) (by omega))
      have b2 : hse (tL h u v w) k = hse h k := congrArg jN (lo _ (by omega) (by omega))
      have b3 : hro (tL h u v w) k = hro h k := congrArg jN (lo _ (by omega) (by omega))
      rw [b1, b2, b3, lo _ (by omega) (by omega), lo _ (by omega) (by omega), lo _ (by omega) (by omega)]
      exact l.2 k (by omega)
  · rw [en] at hk
    rw [cl0, E _ (by omega)]
    by_cases c1 : k < hn h
    · exact c.1 k c1
    · rw [cz k (by omega) (by omega)]
      unfold hcl
      rw [if_neg c1]
      rfl
  · rw [cl0]; exact c.2.1
  · rw [cl0]; exact c.2.2.1
  · intro x
    rw [cl0, en]
    exact Nat.lt_of_lt_of_le (c.2.2.2 x) (Nat.pow_le_pow_right (by omega) (by omega))
  · rw [en] at h1
    rw [E _ (by omega)]
    exact cz k (by omega) h2
theorem or_bits (a v b : Nat) : (a ||| 2 ^ v).testBit b = if b = v then true else a.testBit b := by
  rw [Nat.testBit_or, Nat.testBit_two_pow]
  by_cases c : b = v
  · subst c; simp
  · rw [if_neg c]
    have : ¬ v = b := fun q => c q.symm
    simp [this]
theorem TV_x {h : Nat → Int32} (H : TV h) {u v x y : Nat} {β : Bool} (hu : u < hn h) (hv : v < hn h) (huv : u ≠ v) (hx : ∀ b, x.testBit b = if b = v then β else (hcl h u).testBit b) (hy : ∀ b, y.testBit b = if b = u then β else (hcl h v).testBit b) : TV (tC h u v x y) := by
  obtain ⟨a, g, l, c, f, b, cz, z⟩ := H
  have n10 := l.1.2
  have E : ∀ j, j < 36 ∨ 36 + hn h ≤ j → tC h u v x y j = h j := fun j hj => by
    unfold tC
    rw [pk_un (by omega), pk_un (by omega)]
  refine ⟨a.cg (E 0 (by omega)), g.cg (fun j _ => E j (by omega)), l.cg (E 0 (by omega)) (fun j _ _ => E j (by omega)), (c.clash l.1.2 hu hv huv hx hy).1, f.cg g.1.2 (fun j _ => E j (by omega)) (fun j _ _ => E j (by omega)), b.cg (E 64 (by omega)) (E 65 (by omega)), fun k h1 h2 => ?_, fun j h1 h2 => by rw [E j (by omega)]; exact z j h1 h2⟩
  rw [hn_of (E 5 (by omega))] at h1
  rw [E _ (by omega)]
  exact cz k h1 h2
theorem tI_TV {h h' : Nat → Int32} (H : TV h) {c : Int32} {u v w : Nat} (e : tI h c u v w = some h') : TV h' := by
  unfold tI at e
  by_cases c1 : c = 110
  · rw [if_pos c1] at e
    by_cases q : hm h = 0 ∧ 2 ≤ u ∧ u ≤ 6
    · rw [if_pos q] at e
      cases e
      exact TV_n H q.1 q.2.1 q.2.2
    · rw [if_neg q] at e; cases e
  rw [if_neg c1] at e
  by_cases c2 : hm h = 0
  · rw [if_pos c2] at e; cases e
  rw [if_neg c2] at e
  by_cases c3 : c = 98
  · rw [if_pos c3] at e
    by_cases q : u ≤ 9
    · rw [if_pos q] at e
      cases e
      exact TV_b H q
    · rw [if_neg q] at e; cases e
  rw [if_neg c3] at e
  by_cases c4 : c = 102
  · rw [if_pos c4] at e
    by_cases q : u < hm h ∧ v < hG h ∧ hgo h v ≠ u ∧ w ≤ 9
    · rw [if_pos q] at e
      cases e
      exact TV_f H q.1 q.2.1 q.2.2.1 q.2.2.2
    · rw [if_neg q] at e; cases e
  rw [if_neg c4] at e
  by_cases c5 : c = 103
  · rw [if_pos c5] at e
    by_cases q : u < hm h ∧ hG h < 3 ∧ ∀ g, g < hG h → hgo h g ≠ u
    · rw [if_pos q] at e
      cases e
      exact TV_g H q.1 q.2.1 q.2.2
    · rw [if_neg q] at e; cases e
  rw [if_neg c5] at e
  by_cases c6 : c = 108
  · rw [if_pos c6] at e
    by_cases q : u < hm h ∧ v < hm h ∧ u ≠ v ∧ (1 ≤ w ∧ w ≤ 9) ∧ hn h < 10
    · rw [if_pos q] at e
      cases e
      exact TV_l H q.1 q.2.1 q.2.2.1 q.2.2.2.1 q.2.2.2.2
    · rw [if_neg q] at e; cases e
  rw [if_neg c6] at e
  by_cases c7 : c = 111
  · rw [if_pos c7] at e
    by_cases q : u ≤ 1
    · rw [if_pos q] at e
      cases e
      exact TV_o H q
    · rw [if_neg q] at e; cases e
  rw [if_neg c7] at e
  by_cases c8 : c = 120
  · rw [if_pos c8] at e
    by_cases q : u < hn h ∧ v < hn h ∧ u ≠ v
    · rw [if_pos q] at e
      cases e
      exact TV_x H q.1 q.2.1 q.2.2 (or_bits _ _) (or_bits _ _)
    · rw [if_neg q] at e; cases e
  rw [if_neg c8] at e
  cases e
