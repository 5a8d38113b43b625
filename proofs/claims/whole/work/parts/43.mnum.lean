/-! ===== takesNumbers of the reference ===== -/
theorem sX8_inL (S : jS) (x a b : Int64) : fX8_in S x a b = some (if a ≤ x ∧ x ≤ b then 1 else 0, S) := by
  unfold fX8_in
  by_cases h1 : lg_cmp x a < 0
  · rw [if_pos h1, if_neg (fun q => ?_)]
    exact absurd q.1 (Int64.not_le.mpr ((lg_cmp_lt x a).mp h1))
  · rw [if_neg h1]
    by_cases h2 : 0 < lg_cmp x b
    · rw [if_pos h2, if_neg (fun q => ?_)]
      exact absurd q.2 (Int64.not_le.mpr ((lg_cmp_gt x b).mp h2))
    · rw [if_neg h2, if_pos ⟨Int64.not_lt.mp (fun q => h1 ((lg_cmp_lt x a).mpr q)), Int64.not_lt.mp (fun q => h2 ((lg_cmp_gt x b).mpr q))⟩]
theorem sX8_in (S : jS) (x : Int32) {a b : Int64} : fX8_in S x.toInt64 a b = some (if a.toInt ≤ x.toInt ∧ x.toInt ≤ b.toInt then 1 else 0, S) := by
  rw [sX8_inL]
  congr 2
  simp only [Int64.le_iff_toInt_le, Int32.toInt_toInt64]
theorem sX8_isAt {S : jS} {T : Nat → Int32} {n k : Nat} (hT : S.2 (53, 0) = T) (hn : S.1 (13, 0) = nI n) (hk : S.1 (14, 0) = nI k) (h200 : n ≤ 200) (hk3 : k ≤ 300) (a b : Int32) : fX8_isAt S a b = some (if k < n ∧ a.toInt ≤ (T k).toInt ∧ (T k).toInt ≤ b.toInt then 1 else 0, S) := by
  unfold fX8_isAt
  rw [hn, hk, hT]
  by_cases c : n ≤ k
  · rw [if_pos ((nI_leI (by omega) (by omega)).mpr c), if_neg (fun q => by omega)]
  · rw [if_neg (fun q => c ((nI_leI (by omega) (by omega)).mp q)), if_pos (jIn_lit (by omega) (by omega)), nI_clamp (by omega), sX8_in, Option.bind_some, Int32.toInt_toInt64, Int32.toInt_toInt64]
    dsimp only
    by_cases c2 : a.toInt ≤ (T k).toInt ∧ (T k).toInt ≤ b.toInt
    · rw [if_pos c2, if_neg (by decide), if_pos ⟨by omega, c2⟩]
    · rw [if_neg c2, if_pos rfl, if_neg (fun q => c2 q.2)]
def g14 (r : jR) : Bool := r == (14, 0)
def g55 (r : jR) : Bool := r == (55, 0)
/-- the reference at a place of the text -/
def MT (T : Nat → Int32) (n k : Nat) (S : jS) : Prop := S.2 (53, 0) = T ∧ S.1 (13, 0) = nI n ∧ S.1 (14, 0) = nI k
theorem MT.fr {T : Nat → Int32} {n k : Nat} {S S' : jS} (h : MT T n k S) (F : jFr g14 g55 S S') {k' : Nat} (hk : S'.1 (14, 0) = nI k') : MT T n k' S' := ⟨(F.2 _ (by decide)).trans h.1, (F.1 _ (by decide)).trans h.2.1, hk⟩
theorem nI_2 (a : Nat) : nI a + 2 = nI (a + 2) := nI_add a 2
theorem jsp_at {S : jS} {a b : jR} {f : Nat → Int32} {v : Int32} : (jset (jput S a f) b v).2 a = f := jup_self _ _ _
theorem tn_step {T : Nat → Int32} {n k k0 to fu : Nat} {S : jS} (h : MT T n k S) (h200 : n ≤ 200) (hk : k ≤ 300) (hk0 : k0 ≤ 300) (hto : to < 3) : fX8_takesNumber_12 (fu + 1) S (nI to) (nI k0) = if ¬ k0 + 2 ≤ k ∧ k < n ∧ 48 ≤ (T k).toInt ∧ (T k).toInt ≤ 57 then fX8_takesNumber_12 fu (jset (jput S (55, 0) (upd (S.2 (55, 0)) to (((10 : Int32) * S.2 (55, 0) to + T k) - 48))) (14, 0) (nI (k + 1))) (nI to) (nI k0) else some (if k ≤ k0 then 0 else 1, S) := by
  show bX8_takesNumber_12 (fX8_takesNumber_12 fu) S (nI to) (nI k0) = _
  have h74 : bX8_takesNumber_74 S (nI k0) = some (if k ≤ k0 then 0 else 1, S) := by
    unfold bX8_takesNumber_74
    rw [h.2.2]
    by_cases c : k ≤ k0
    · rw [if_pos c, if_pos ((nI_leI (by omega) (by omega)).mpr c)]
    · rw [if_neg c, if_neg (fun q => c ((nI_leI (by omega) (by omega)).mp q))]
  unfold bX8_takesNumber_12
  rw [h74, sX8_isAt h.1 h.2.1 h.2.2 h200 hk, Option.bind_some, ti48, ti57, h.2.2, nI_2, h.1]
  by_cases c1 : k0 + 2 ≤ k
  · rw [if_pos ((nI_leI (by omega) (by omega)).mpr c1), if_neg (fun q : ¬ k0 + 2 ≤ k ∧ k < n ∧ 48 ≤ (T k).toInt ∧ (T k).toInt ≤ 57 => q.1 c1)]
  · rw [if_neg (fun q => c1 ((nI_leI (by omega) (by omega)).mp q))]
    by_cases c2 : tDig T n k
    · have e1 : (if k < n ∧ (48 : Int) ≤ (T k).toInt ∧ (T k).toInt ≤ 57 then (1 : Int32) else 0) = 1 := if_pos c2
      have hn1 := c2.1
      simp only [e1]
      rw [if_neg (by decide), if_pos (jIn_lit (by omega) hto), if_pos (jIn_lit (by omega) (by omega)), if_pos (jIn_lit (by omega) hto), if_pos ⟨c1, c2⟩]
      unfold jlet
      dsimp only
      rw [nI_clamp (by omega), nI_clamp (by omega)]
      have e2 : (jput S (55, 0) (upd (S.2 (55, 0)) to (((10 : Int32) * S.2 (55, 0) to + T k) - 48))).1 (14, 0) = nI k := h.2.2
      rw [e2, nI_1]
    · have e1 : (if k < n ∧ (48 : Int) ≤ (T k).toInt ∧ (T k).toInt ≤ 57 then (1 : Int32) else 0) = 0 := if_neg c2
      simp only [e1]
      rw [if_pos trivial, if_neg (fun q => c2 q.2)]
      exact h74
theorem nI_fig (d a : Nat) : ((10 : Int32) * nI a + nI (48 + d)) - 48 = nI (a * 10 + d) := by
  rw [← nI_add, show (48 : Int32) = nI 48 from rfl, show (10 : Int32) = nI 10 from rfl, pk_mul, Nat.mul_comm, ← nI_add]
  grind
theorem sX8_takesNumber {T : Nat → Int32} {n k to : Nat} {S : jS} (h : MT T n k S) (h200 : n ≤ 200) (hk : k ≤ 250) (hto : to < 3) : ∃ r S', fX8_takesNumber S (nI to) = some (r, S') ∧ jFr g14 g55 S S' ∧ (∀ j, j ≠ to → S'.2 (55, 0) j = S.2 (55, 0) j) ∧ ((r = 1 ∧ ∃ v k', tNum T n k v k' ∧ S'.1 (14, 0) = nI k' ∧ S'.2 (55, 0) to = nI v) ∨ (r = 0 ∧ ¬ tDig T n k)) := by
  unfold fX8_takesNumber jlet
  dsimp only
  rw [if_pos (jIn_lit (by omega) hto), h.2.2, nI_clamp (by omega)]
  have hA : MT T n k (jput S (55, 0) (upd (S.2 (55, 0)) to 0)) := ⟨h.1, h.2.1, h.2.2⟩
  have FA : jFr g14 g55 S (jput S (55, 0) (upd (S.2 (55, 0)) to 0)) := jFr.put rfl
  have fx : ∀ (S : jS) a b, jFr g14 g55 S (jset (jput S (55, 0) a) (14, 0) b) := fun S a b => (jFr.put rfl).tr (jFr.set rfl)
  by_cases c1 : tDig T n k
  · obtain ⟨d1, q1, q2, q3⟩ := fig c1.2.1 c1.2.2
    rw [tn_step hA h200 (by omega) (by omega) hto, if_pos ⟨by omega, c1⟩, jput_at, pk_us, jput_put, q2, show (0 : Int32) = nI 0 from rfl, nI_fig]
    have FB : jFr g14 g55 S (jset (jput S (55, 0) (upd (upd (S.2 (55, 0)) to (nI 0)) to (nI (0 * 10 + d1)))) (14, 0) (nI (k + 1))) := fx _ _ _
    have hB := h.fr FB (k' := k + 1) rfl
    rw [tn_step hB h200 (by omega) (by omega) hto]
    by_cases c2 : tDig T n (k + 1)
    · obtain ⟨d2, r1, r2, r3⟩ := fig c2.2.1 c2.2.2
      rw [if_pos ⟨by omega, c2⟩]
      have e0 : (jset (jput S (55, 0) (upd (upd (S.2 (55, 0)) to (nI 0)) to (nI (0 * 10 + d1)))) (14, 0) (nI (k + 1))).2 (55, 0) = upd (upd (S.2 (55, 0)) to (nI 0)) to (nI (0 * 10 + d1)) := jsp_at
      rw [e0, pk_us, r2, nI_fig]
      have FC := FB.tr (fx _ (upd (upd (upd (S.2 (55, 0)) to (nI 0)) to (nI (0 * 10 + d1))) to (nI ((0 * 10 + d1) * 10 + d2))) (nI (k + 1 + 1)))
      have hC := h.fr FC (k' := k + 2) rfl
      rw [tn_step hC h200 (by omega) (by omega) hto, if_neg (fun q => q.1 (by omega)), if_neg (by omega)]
      refine ⟨_, _, rfl, FC, fun j hj => ?_, Or.inl ⟨rfl, (0 * 10 + d1) * 10 + d2, k + 2, ⟨c1, Or.inl ⟨c2, rfl, by omega⟩⟩, rfl, ?_⟩⟩
      · refine (congrFun (show _ = upd (upd (upd (S.2 (55, 0)) to (nI 0)) to (nI (0 * 10 + d1))) to (nI ((0 * 10 + d1) * 10 + d2)) from jsp_at) j).trans ?_
        rw [pk_un hj, pk_un hj, pk_un hj]
      · refine (congrFun (show _ = upd (upd (upd (S.2 (55, 0)) to (nI 0)) to (nI (0 * 10 + d1))) to (nI ((0 * 10 + d1) * 10 + d2)) from jsp_at) to).trans ?_
        exact pk_us
    · rw [if_neg (fun q => c2 q.2), if_neg (by omega)]
      refine ⟨_, _, rfl, FB, fun j hj => ?_, Or.inl ⟨rfl, 0 * 10 + d1, k + 1, ⟨c1, Or.inr ⟨c2, rfl, by omega⟩⟩, rfl, ?_⟩⟩
      · refine (congrFun (show _ = upd (upd (S.2 (55, 0)) to (nI 0)) to (nI (0 * 10 + d1)) from jsp_at) j).trans ?_
        rw [pk_un hj, pk_un hj]
      · refine (congrFun (show _ = upd (upd (S.2 (55, 0)) to (nI 0)) to (nI (0 * 10 + d1)) from jsp_at) to).trans ?_
        exact pk_us
  · rw [tn_step hA h200 (by omega) (by omega) hto, if_neg (fun q => c1 q.2), if_pos (Nat.le_refl _)]
    refine ⟨_, _, rfl, FA, fun j hj => ?_, Or.inr ⟨rfl, c1⟩⟩
    rw [jput_at, pk_un hj]
theorem sign_eq {x : Int32} {a : Int32} : (a.toInt ≤ x.toInt ∧ x.toInt ≤ a.toInt) ↔ x = a := by
  constructor
  · intro h
    exact Int32.toInt_inj.mp (by omega)
  · rintro rfl
    exact ⟨by omega, by omega⟩
theorem sMN {T : Nat → Int32} {n w : Nat} (h200 : n ≤ 200) (hw : w ≤ 3) : ∀ (d fu j k : Nat) (S : jS), j + (d + 1) = w → d + 1 < fu → MT T n k S → k ≤ 200 → ∃ r S', fX8_takesNumbers_2 fu S (nI w) (nI j) = some (r, S') ∧ jFr g14 g55 S S' ∧ (∀ i, i < j → S'.2 (55, 0) i = S.2 (55, 0) i) ∧ ((r = 1 ∧ ∃ L e, tNs T n (d + 1) k L e ∧ S'.1 (14, 0) = nI e ∧ ∀ i, i < d + 1 → S'.2 (55, 0) (j + i) = nI (L.getD i 0)) ∨ (r = 0 ∧ ∀ L e, ¬ tNs T n (d + 1) k L e)) := by
  intro d
  induction d with
  | zero =>
    intro fu j k S hj hfu hM hk
    obtain ⟨fu, rfl⟩ : ∃ m, fu = m + 1 := ⟨fu - 1, by omega⟩
    obtain ⟨fu, rfl⟩ : ∃ m, fu = m + 1 := ⟨fu - 1, by omega⟩
    show ∃ r S', bX8_takesNumbers_2 (fX8_takesNumbers_2 (fu + 1)) S (nI w) (nI j) = some (r, S') ∧ _
    unfold bX8_takesNumbers_2
    obtain ⟨r, S1, e1, F1, o1, q1⟩ := sX8_takesNumber hM h200 (by omega) (show j < 3 by omega)
    rw [if_neg (fun q => by have := (nI_leI (a := w) (b := j) (by omega) (by omega)).mp q; omega), e1, Option.bind_some]
    dsimp only
    rcases q1 with ⟨rfl, v, k', q2, q3, q4⟩ | ⟨rfl, q2⟩
    · rw [if_neg (by decide), if_pos (by rw [← hj]; exact (nI_pred j).symm)]
      have hM1 := hM.fr F1 q3
      have hb := tNum_lt q2
      unfold bX8_takesNumbers_31
      rw [sX8_isAt hM1.1 hM1.2.1 hM1.2.2 h200 (by omega), Option.bind_some]
      dsimp only
      by_cases c : k' < n ∧ (59 : Int32).toInt ≤ (T k').toInt ∧ (T k').toInt ≤ (59 : Int32).toInt
      · rw [if_pos c, if_neg (by decide)]
        unfold jlet
        rw [q3, nI_1, nI_1]
        show ∃ r S', bX8_takesNumbers_2 (fX8_takesNumbers_2 fu) (jset S1 (14, 0) (nI (k' + 1))) (nI w) (nI (j + 1)) = some (r, S') ∧ _
        unfold bX8_takesNumbers_2
        rw [if_pos ((nI_leI (by omega) (by omega)).mpr (by omega))]
        refine ⟨1, _, rfl, F1.tr (jFr.set rfl), fun i hi => o1 i (by omega), Or.inl ⟨rfl, [v], k' + 1, tNs_one q2 c.1 (sign_eq.mp c.2), rfl, fun i hi => ?_⟩⟩
        obtain rfl : i = 0 := by omega
        exact q4
      · rw [if_neg c, if_pos rfl]
        refine ⟨0, _, rfl, F1, fun i hi => o1 i (by omega), Or.inr ⟨rfl, fun L e => ?_⟩⟩
        rintro ⟨v2, k2, g1, g2, ⟨-, a, -⟩ | ⟨a, -⟩⟩
        · obtain ⟨rfl, rfl⟩ := tNum_fun q2 g1
          exact c ⟨g2, sign_eq.mpr a⟩
        · exact a rfl
    · rw [if_pos rfl]
      exact ⟨0, _, rfl, F1, fun i hi => o1 i (by omega), Or.inr ⟨rfl, fun L e => tNs_nodig q2 _ L e⟩⟩
  | succ d ih =>
    intro fu j k S hj hfu hM hk
    obtain ⟨fu, rfl⟩ : ∃ m, fu = m + 1 := ⟨fu - 1, by omega⟩
    show ∃ r S', bX8_takesNumbers_2 (fX8_takesNumbers_2 fu) S (nI w) (nI j) = some (r, S') ∧ _
    unfold bX8_takesNumbers_2
    obtain ⟨r, S1, e1, F1, o1, q1⟩ := sX8_takesNumber hM h200 (by omega) (show j < 3 by omega)
    rw [if_neg (fun q => by have := (nI_leI (a := w) (b := j) (by omega) (by omega)).mp q; omega), e1, Option.bind_some]
    dsimp only
    rcases q1 with ⟨rfl, v, k', q2, q3, q4⟩ | ⟨rfl, q2⟩
    · rw [if_neg (by decide), if_neg (by
        obtain ⟨w', rfl⟩ : ∃ w', w = w' + 1 := ⟨w - 1, by omega⟩
        rw [nI_pred]
        intro q
        have := (nI_eq (by omega) (by omega)).mp q
        omega)]
      have hM1 := hM.fr F1 q3
      have hb := tNum_lt q2
      unfold bX8_takesNumbers_31
      rw [sX8_isAt hM1.1 hM1.2.1 hM1.2.2 h200 (by omega), Option.bind_some]
      dsimp only
      by_cases c : k' < n ∧ (44 : Int32).toInt ≤ (T k').toInt ∧ (T k').toInt ≤ (44 : Int32).toInt
      · rw [if_pos c, if_neg (by decide)]
        unfold jlet
        rw [q3, nI_1, nI_1]
        obtain ⟨r, S2, e2, F2, o2, p2⟩ := ih fu (j + 1) (k' + 1) (jset S1 (14, 0) (nI (k' + 1))) (by omega) (by omega) (hM.fr (F1.tr (jFr.set rfl)) rfl) (by omega)
        refine ⟨r, S2, e2, (F1.tr (jFr.set rfl)).tr F2, fun i hi => (o2 i (by omega)).trans (o1 i (by omega)), ?_⟩
        rcases p2 with ⟨rfl, L, e, a1, a2, a3⟩ | ⟨rfl, a1⟩
        · refine Or.inl ⟨rfl, v :: L, e, tNs_more q2 c.1 (sign_eq.mp c.2) (by omega) a1, a2, fun i hi => ?_⟩
          cases i with
          | zero => exact (o2 j (by omega)).trans q4
          | succ i =>
            rw [show j + (i + 1) = j + 1 + i by omega, a3 i (by omega)]
            rfl
        · refine Or.inr ⟨rfl, fun L e q => ?_⟩
          obtain ⟨m', L', h1, rfl, q'⟩ := tNs_rest q2 (sign_eq.mp c.2) q
          obtain rfl : m' = d + 1 := by omega
          exact a1 L' e q'
      · rw [if_neg c, if_pos rfl]
        refine ⟨0, _, rfl, F1, fun i hi => o1 i (by omega), Or.inr ⟨rfl, fun L e => ?_⟩⟩
        rintro ⟨v2, k2, g1, g2, ⟨a, -⟩ | ⟨-, a, -⟩⟩
        · omega
        · obtain ⟨rfl, rfl⟩ := tNum_fun q2 g1
          exact c ⟨g2, sign_eq.mpr a⟩
    · rw [if_pos rfl]
      exact ⟨0, _, rfl, F1, fun i hi => o1 i (by omega), Or.inr ⟨rfl, fun L e => tNs_nodig q2 _ L e⟩⟩
theorem sX8_takesNumbers {T : Nat → Int32} {n w k : Nat} {S : jS} (h200 : n ≤ 200) (hw : w ≤ 3) (hw0 : 0 < w) (hM : MT T n k S) (hk : k ≤ 200) : ∃ r S', fX8_takesNumbers S (nI w) = some (r, S') ∧ jFr g14 g55 S S' ∧ ((r = 1 ∧ ∃ L e, tNs T n w k L e ∧ S'.1 (14, 0) = nI e ∧ ∀ i, i < w → S'.2 (55, 0) i = nI (L.getD i 0)) ∨ (r = 0 ∧ ∀ L e, ¬ tNs T n w k L e)) := by
  obtain ⟨d, rfl⟩ : ∃ d, w = d + 1 := ⟨w - 1, by omega⟩
  obtain ⟨r, S', e1, e2, -, e3⟩ := sMN h200 hw d 5000 0 k S (by omega) (by omega) hM hk
  refine ⟨r, S', e1, e2, ?_⟩
  rcases e3 with ⟨rfl, L, e, a1, a2, a3⟩ | e3
  · exact Or.inl ⟨rfl, L, e, a1, a2, fun i hi => by have := a3 i hi; rwa [Nat.zero_add] at this⟩
  · exact Or.inr e3
