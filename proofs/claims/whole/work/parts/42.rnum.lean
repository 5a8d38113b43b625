/-! ===== readNumbers of the class, whole ===== -/
theorem tNs_one {T : Nat → Int32} {n k v k' : Nat} (h1 : tNum T n k v k') (h2 : k' < n) (h3 : T k' = 59) : tNs T n 1 k [v] (k' + 1) := ⟨v, k', h1, h2, Or.inl ⟨rfl, h3, rfl, rfl⟩⟩
theorem tNs_more {T : Nat → Int32} {n k v k' w : Nat} {L : List Nat} {e : Nat} (h1 : tNum T n k v k') (h2 : k' < n) (h3 : T k' = 44) (hw : w ≠ 0) (h4 : tNs T n w (k' + 1) L e) : tNs T n (w + 1) k (v :: L) e := ⟨v, k', h1, h2, Or.inr ⟨hw, h3, L, rfl, h4⟩⟩
/-- behind a number -/
theorem tNs_not {T : Nat → Int32} {n k v k' : Nat} (h1 : tNum T n k v k') (h2 : ¬ (T k' = 44 ∨ T k' = 59)) : ∀ m L e', ¬ tNs T n m k L e'
  | 0, _, _, h => h
  | m + 1, L, e', ⟨v2, k2, g1, g2, g3⟩ => by
    obtain ⟨rfl, rfl⟩ := tNum_fun h1 g1
    rcases g3 with ⟨-, a, -⟩ | ⟨-, a, -⟩
    · exact h2 (Or.inr a)
    · exact h2 (Or.inl a)
theorem tNs_nodig {T : Nat → Int32} {n k : Nat} (h : ¬ tDig T n k) : ∀ m L e', ¬ tNs T n m k L e'
  | 0, _, _, q => q
  | m + 1, L, e', ⟨v2, k2, g1, g2, g3⟩ => h g1.1
/-- the rest behind a number -/
theorem tNs_rest {T : Nat → Int32} {n k v k' : Nat} (h1 : tNum T n k v k') (h2 : T k' = 44) : ∀ {m L e'}, tNs T n m k L e' → ∃ m' L', m = m' + 1 ∧ L = v :: L' ∧ tNs T n m' (k' + 1) L' e'
  | 0, _, _, h => h.elim
  | m + 1, L, e', ⟨v2, k2, g1, g2, g3⟩ => by
    obtain ⟨rfl, rfl⟩ := tNum_fun h1 g1
    rcases g3 with ⟨-, a, -⟩ | ⟨-, a, L', rfl, q⟩
    · exact absurd (h2.symm.trans a) (by decide)
    · exact ⟨m, L', rfl, rfl, q⟩
theorem fig_no59 {x : Int32} (h : 48 ≤ x.toInt ∧ x.toInt ≤ 57) : x ≠ 59 ∧ x ≠ 44 := by
  refine ⟨?_, ?_⟩
  · rintro rfl; revert h; decide
  · rintro rfl; revert h; decide
def RN (T : Nat → Int32) (n e k rd : Nat) (S : jS) (o : Option (Int32 × jS)) : Prop :=
  ∃ r S', o = some (r, S') ∧ jFr (fun _ => false) gq11 S S' ∧ (∀ j, j < rd → S'.2 (11, 0) j = S.2 (11, 0) j) ∧
    ((∃ m L, tNs T n m k L (e + 1) ∧ rd + m ≤ 3 ∧ r = nI (rd + m) ∧ ∀ j, j < m → S'.2 (11, 0) (rd + j) = nI (L.getD j 0)) ∨ (r = 0 ∧ ∀ m L e', rd + m ≤ 3 → ¬ tNs T n m k L e'))
/-- behind the figures of a number -/
theorem rn_sep {T : Nat → Int32} {n e : Nat} (he : e < 200) (hn : e < n) (hTe : T e = 59) {fu k k' v rd figs : Nat} {S : jS} (hT : S.2 (10, 0) = T) (hk : k' ≤ e) (hrd : rd ≤ 3) (hf : e + 2 ≤ k' + fu) (h1 : tNum T n k v k') (hff : 0 < figs ∧ figs ≤ 2) (hd : ¬ (48 ≤ (T k').toInt ∧ (T k').toInt ≤ 57) ∨ 2 ≤ figs)
    (h59 : k' < e → T k' ≠ 59) (ih : ∀ (fu' : Nat) (S' : jS), S'.2 (10, 0) = T → k' + 1 ≤ e → rd + 1 ≤ 3 → e + 2 ≤ k' + 1 + fu' → RN T n e (k' + 1) (rd + 1) S' (fX5_readNumbers_11 fu' S' (nI e) (nI (rd + 1)) (nI 0) (nI 0) (nI (k' + 1)))) :
    RN T n e k rd S (fX5_readNumbers_11 fu S (nI e) (nI rd) (nI figs) (nI v) (nI k')) := by
  obtain ⟨fu, rfl⟩ : ∃ m, fu = m + 1 := ⟨fu - 1, by omega⟩
  rw [rn_other he hk hrd (by rw [hT]; exact hd) hff.2, hT]
  by_cases c : (T k' = 44 ∨ T k' = 59) ∧ 0 < figs ∧ rd < 3
  · rw [if_pos c]
    by_cases c59 : T k' = 59
    · obtain rfl : k' = e := by
        by_cases q : k' < e
        · exact absurd c59 (h59 q)
        · omega
      obtain ⟨fu, rfl⟩ : ∃ m, fu = m + 1 := ⟨fu - 1, by omega⟩
      refine ⟨nI (rd + 1), _, rn_end he, jFr.put rfl, fun j hj => ?_, Or.inl ⟨1, [v], tNs_one h1 hn c59, by omega, rfl, fun j hj => ?_⟩⟩
      · rw [jput_at, pk_un (by omega)]
      · obtain rfl : j = 0 := by omega
        rw [jput_at]
        exact pk_us
    · have c44 : T k' = 44 := c.1.resolve_right c59
      have hlt : k' + 1 ≤ e := by
        by_cases q : k' = e
        · subst q; exact absurd hTe c59
        · omega
      obtain ⟨r, S', e1, e2, e3, e4⟩ := ih fu (jput S (11, 0) (upd (S.2 (11, 0)) rd (nI v))) (by rw [← hT]; rfl) hlt (by omega) (by omega)
      refine ⟨r, S', e1, (jFr.put rfl).tr e2, fun j hj => ?_, ?_⟩
      · rw [e3 j (by omega), jput_at, pk_un (by omega)]
      · rcases e4 with ⟨m, L, a1, a2, a3, a4⟩ | ⟨a1, a2⟩
        · refine Or.inl ⟨m + 1, v :: L, tNs_more h1 (by omega) c44 (by rintro rfl; exact a1) a1, by omega, by rw [a3]; congr 1; omega, fun j hj => ?_⟩
          cases j with
          | zero =>
            rw [Nat.add_zero, e3 rd (by omega), jput_at]
            exact pk_us
          | succ j =>
            rw [show rd + (j + 1) = rd + 1 + j by omega, a4 j (by omega)]
            rfl
        · refine Or.inr ⟨a1, fun m L e' hm q => ?_⟩
          obtain ⟨m', L', rfl, rfl, q'⟩ := tNs_rest h1 c44 q
          exact a2 m' L' e' (by omega) q'
  · rw [if_neg c]
    refine ⟨0, S, rfl, jFr.rf, fun _ _ => rfl, Or.inr ⟨rfl, fun m L e' hm q => ?_⟩⟩
    by_cases cs : T k' = 44 ∨ T k' = 59
    · have hr : ¬ rd < 3 := fun h => c ⟨cs, hff.1, h⟩
      obtain rfl : m = 0 := by omega
      exact q
    · exact tNs_not h1 cs m L e' q
theorem sRN {T : Nat → Int32} {n e : Nat} (he : e < 200) (hn : e < n) (hTe : T e = 59) : ∀ (d fu k rd : Nat) (S : jS), S.2 (10, 0) = T → e < k + d → k ≤ e → rd ≤ 3 → e + 2 ≤ k + fu → (∀ j, k ≤ j → j < e → T j ≠ 59) → RN T n e k rd S (fX5_readNumbers_11 fu S (nI e) (nI rd) (nI 0) (nI 0) (nI k))
  | 0, fu, k, rd, S, hT, h1, h2, _, _, _ => by omega
  | d + 1, fu, k, rd, S, hT, h1, h2, h3, h4, h5 => by
    have ih := sRN he hn hTe d
    obtain ⟨fu, rfl⟩ : ∃ m, fu = m + 1 := ⟨fu - 1, by omega⟩
    by_cases c1 : 48 ≤ (T k).toInt ∧ (T k).toInt ≤ 57
    · obtain ⟨d1, q1, q2, q3⟩ := fig c1.1 c1.2
      have hke : k < e := by
        by_cases q : k = e
        · subst q; exact absurd hTe (fig_no59 c1).1
        · omega
      rw [rn_fig (d := d1) he h2 q1 (by rw [hT]; exact q2) (by omega)]
      by_cases c2 : 48 ≤ (T (k + 1)).toInt ∧ (T (k + 1)).toInt ≤ 57
      · obtain ⟨d2, r1, r2, r3⟩ := fig c2.1 c2.2
        have hke2 : k + 1 < e := by
          by_cases q : k + 1 = e
          · rw [q] at c2; exact absurd hTe (fig_no59 c2).1
          · omega
        obtain ⟨fu, rfl⟩ : ∃ m, fu = m + 1 := ⟨fu - 1, by omega⟩
        rw [rn_fig (d := d2) he (by omega) r1 (by rw [hT]; exact r2) (by omega)]
        exact rn_sep he hn hTe hT (by omega) h3 (by omega) ⟨⟨by omega, c1.1, c1.2⟩, Or.inl ⟨⟨by omega, c2.1, c2.2⟩, rfl, by omega⟩⟩ ⟨by omega, by omega⟩ (Or.inr (by omega)) (fun q => h5 _ (by omega) q)
          (fun fu' S' a1 a2 a3 a4 => ih fu' _ _ S' a1 (by omega) a2 a3 a4 (fun j b1 b2 => h5 j (by omega) b2))
      · exact rn_sep he hn hTe hT (by omega) h3 (by omega) ⟨⟨by omega, c1.1, c1.2⟩, Or.inr ⟨fun q => c2 q.2, rfl, by omega⟩⟩ ⟨by omega, by omega⟩ (Or.inl c2) (fun q => h5 _ (by omega) q)
          (fun fu' S' a1 a2 a3 a4 => ih fu' _ _ S' a1 (by omega) a2 a3 a4 (fun j b1 b2 => h5 j (by omega) b2))
    · rw [rn_other he h2 h3 (by rw [hT]; exact Or.inl c1) (by omega), if_neg (fun q => by omega)]
      exact ⟨0, S, rfl, jFr.rf, fun _ _ => rfl, Or.inr ⟨rfl, fun m L e' _ q => tNs_nodig (fun q => c1 q.2) m L e' q⟩⟩
theorem sX5_readNumbers {T : Nat → Int32} {n e k : Nat} {S : jS} (he : e < 200) (hn : e < n) (hTe : T e = 59) (hT : S.2 (10, 0) = T) (hk : k ≤ e) (h5 : ∀ j, k ≤ j → j < e → T j ≠ 59) : RN T n e k 0 S (fX5_readNumbers S (nI k) (nI e)) :=
  sRN he hn hTe 300 5000 k 0 S hT (by omega) hk (by omega) (by omega) h5
