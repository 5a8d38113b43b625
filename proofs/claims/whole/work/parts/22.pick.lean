/-! ===== the class: weightOf, offer, search, pick ===== -/
theorem gW_le {w : Nat → Nat} (hw : ∀ l, l < 10 → w l ≤ 2000) (s : Nat) : gW w s ≤ 20000 := by
  have := gS_bound (f := fun l => if s.testBit l then w l else 0) (c := 2000) (n := 10) (fun i hi => by have := hw i hi; split <;> omega)
  exact this
theorem sX3_weightOf_4 {j : Nat} {S : jS} {s : Nat} {w : Nat → Nat} (hs : s < 1024) (hw : ∀ l, l < 10 → s.testBit l = true → S.2 (41, j) l = nI (w l)) : ∀ (d n l : Nat), l + d = 10 → d < n → fX3_weightOf_4 j n S (nI s) (nI (gS (fun l => if s.testBit l then w l else 0) l)) (nI l) = some (nI (gW w s), S) := by
  intro d
  induction d with
  | zero =>
    intro n l hl hn
    obtain ⟨n, rfl⟩ : ∃ m, n = m + 1 := ⟨n - 1, by omega⟩
    obtain rfl : l = 10 := by omega
    show bX3_weightOf_4 j (fX3_weightOf_4 j n) S (nI s) _ (nI 10) = _
    unfold bX3_weightOf_4
    rw [if_pos (by decide)]
    rfl
  | succ d ih =>
    intro n l hl hn
    obtain ⟨n, rfl⟩ : ∃ m, n = m + 1 := ⟨n - 1, by omega⟩
    show bX3_weightOf_4 j (fX3_weightOf_4 j n) S (nI s) _ (nI l) = _
    unfold bX3_weightOf_4
    rw [if_neg (show ¬ (10 : Int32) ≤ nI l from fun h => by have := (nI_leI (a := 10) (b := l) (by omega) (by omega)).mp h; omega)]
    have hb := nb_bit1 (s := s) (l := l) (by omega) (by omega)
    have hgo := ih n (l + 1) (by omega) (by omega)
    cases ht : s.testBit l with
    | true =>
      rw [if_pos (hb.mpr ht), if_pos (jIn_lit (by omega) (by omega)), nI_clamp (by omega), hw l (by omega) ht]
      unfold bX3_weightOf_28 jlet
      dsimp only
      rw [nI_add, nI_1]
      have e : gS (fun l => if s.testBit l then w l else 0) (l + 1) = gS (fun l => if s.testBit l then w l else 0) l + w l := by
        show gS _ l + (if s.testBit l then w l else 0) = _
        rw [ht]; rfl
      rw [← e]
      exact hgo
    | false =>
      rw [if_neg (fun h => by rw [hb.mp h] at ht; cases ht)]
      unfold bX3_weightOf_28 jlet
      dsimp only
      rw [nI_1]
      have e : gS (fun l => if s.testBit l then w l else 0) (l + 1) = gS (fun l => if s.testBit l then w l else 0) l := by
        show gS _ l + (if s.testBit l then w l else 0) = _
        rw [ht]; rfl
      rw [← e]
      exact hgo
theorem sX3_weightOf {j : Nat} {S : jS} {s : Nat} {w : Nat → Nat} (hs : s < 1024) (hw : ∀ l, l < 10 → s.testBit l = true → S.2 (41, j) l = nI (w l)) : fX3_weightOf j S (nI s) = some (nI (gW w s), S) :=
  sX3_weightOf_4 hs hw 10 5000 0 rfl (by omega)
theorem sX3_comesAhead (S : jS) {a b : Nat} (ha : a < 1024) (hb : b < 1024) : fX3_comesAhead S (nI a) (nI b) = some (if gC a < gC b ∨ (gC a = gC b ∧ a < b) then 1 else 0, S) := by
  unfold fX3_comesAhead
  rw [sJ6 S ha, Option.bind_some]
  dsimp only
  rw [sJ6 S hb, Option.bind_some]
  dsimp only
  have hx := gC_le a
  have hy := gC_le b
  generalize gC a = x at hx ⊢
  generalize gC b = y at hy ⊢
  unfold jlet
  dsimp only
  have h1 := nb_sub0 (a := x) (b := y) (by omega) (by omega)
  have h2 := nb_sube (a := x) (b := y) (by omega) (by omega)
  have h3 := nI_leI (a := b) (b := a) (by omega) (by omega)
  by_cases c1 : x < y
  · rw [if_pos (h1.mpr c1), if_pos (Or.inl c1)]
  · rw [if_neg (fun h => c1 (h1.mp h))]
    by_cases c2 : x = y
    · rw [if_pos (h2.mpr c2)]
      by_cases c3 : a < b
      · rw [if_neg (fun h => by have := h3.mp h; omega), if_pos (Or.inr ⟨c2, c3⟩)]
      · rw [if_pos (h3.mpr (by omega)), if_neg (fun h => by rcases h with h | h <;> omega)]
    · rw [if_neg (fun h => c2 (h2.mp h)), if_neg (fun h => by rcases h with h | h <;> omega)]
/-- the best set as the picker keeps it -/
def gPut (S : jS) (j : Nat) (w : Nat → Nat) (b : Nat) : jS := jset (jset S (10, j) (nI b)) (11, j) (nI (gW w b))
theorem gPut_self {S : jS} {j : Nat} {w : Nat → Nat} {b : Nat} (h1 : S.1 (10, j) = nI b) (h2 : S.1 (11, j) = nI (gW w b)) : gPut S j w b = S := by
  unfold gPut
  rw [jset_same h1, jset_same h2]
theorem gPut_gPut {S : jS} {j : Nat} {w : Nat → Nat} {a b : Nat} : gPut (gPut S j w a) j w b = gPut S j w b := by
  unfold gPut jset
  simp only
  rw [jup_comm (b := (11, j)) (a := (10, j)) _ (by simp), jup_jup, jup_comm (a := (11, j)) (b := (10, j)) _ (by simp), jup_jup, jup_comm (a := (10, j)) (b := (11, j)) _ (by simp)]
theorem gPut_b {S : jS} {j : Nat} {w : Nat → Nat} {b : Nat} : (gPut S j w b).1 (10, j) = nI b := by simp [gPut, jset, jup]
theorem gPut_w {S : jS} {j : Nat} {w : Nat → Nat} {b : Nat} : (gPut S j w b).1 (11, j) = nI (gW w b) := by simp [gPut, jset, jup]
theorem gPut_1 {S : jS} {j : Nat} {w : Nat → Nat} {b : Nat} {r : jR} (h : r.1 ≠ 10) (h2 : r.1 ≠ 11) : (gPut S j w b).1 r = S.1 r := by
  obtain ⟨c, i⟩ := r
  simp only at h h2
  simp [gPut, jset, jup, h, h2]
theorem sX3_offer {j : Nat} {S : jS} {w : Nat → Nat} (hw : ∀ l, l < 10 → w l ≤ 2000) {c b : Nat} (hc : c < 1024) (hb : b < 1024) (h1 : S.1 (10, j) = nI b) (h2 : S.1 (11, j) = nI (gW w b)) : fX3_offer j S (nI c) (nI (gW w c)) = some (gPut S j w (if gK w b < gK w c then c else b)) := by
  have bc := gW_le hw c
  have bb := gW_le hw b
  have cc := gC_le c
  have cb := gC_le b
  have hput : bX3_offer_27 j S (nI c) (nI (gW w c)) = some (gPut S j w c) := rfl
  have hk : gK w b < gK w c ↔ (gW w b < gW w c ∨ (gW w b = gW w c ∧ (gC c < gC b ∨ (gC c = gC b ∧ c < b)))) := by
    unfold gK
    constructor
    · intro h
      rcases Nat.lt_trichotomy (gW w b) (gW w c) with q | q | q
      · exact Or.inl q
      · rw [q] at h; refine Or.inr ⟨q, ?_⟩; omega
      · exfalso
        have : (gW w c + 1) * 20480 ≤ gW w b * 20480 := Nat.mul_le_mul_right _ q
        omega
    · rintro (q | ⟨q, q2⟩)
      · have : (gW w b + 1) * 20480 ≤ gW w c * 20480 := Nat.mul_le_mul_right _ q
        omega
      · rw [q]; omega
  unfold fX3_offer
  rw [h2, h1]
  have e1 := nI_ltI (a := gW w b) (b := gW w c) (by omega) (by omega)
  have e2 := nI_eq (a := gW w c) (b := gW w b) (by omega) (by omega)
  by_cases c1 : gW w b < gW w c
  · rw [if_pos (e1.mpr c1), if_pos (hk.mpr (Or.inl c1)), hput]
  · rw [if_neg (fun h => c1 (e1.mp h))]
    by_cases c2 : gW w c = gW w b
    · rw [if_pos (e2.mpr c2), sX3_comesAhead S hc hb]
      simp only [Option.bind_some]
      by_cases c3 : gC c < gC b ∨ (gC c = gC b ∧ c < b)
      · rw [if_pos c3, if_neg (by decide), if_pos (hk.mpr (Or.inr ⟨c2.symm, c3⟩)), hput]
      · rw [if_neg c3, if_pos rfl, if_neg (fun h => by rcases hk.mp h with q | q; exact c1 q; exact c3 q.2), gPut_self h1 h2]
    · rw [if_neg (fun h => c2 (e2.mp h)), if_neg (fun h => by rcases hk.mp h with q | q; exact c1 q; exact c2 q.1.symm), gPut_self h1 h2]
/-! ===== the search ===== -/
theorem gK_lt {w : Nat → Nat} {t b : Nat} (h : gW w t < gW w b) : gK w t ≤ gK w b := by
  have := gC_le t
  have := gC_le b
  have h2 : (gW w t + 1) * 20480 ≤ gW w b * 20480 := Nat.mul_le_mul_right _ h
  unfold gK
  omega
theorem gO_next {may : Nat} {cl : Nat → Nat} {l chosen o : Nat} (ho : gO may cl l chosen o) : gO may cl (l + 1) chosen (gD o (2 ^ l)) := by
  intro a
  rw [gD_bit, Nat.testBit_two_pow]
  simp only [Bool.and_eq_true, Bool.not_eq_true', decide_eq_false_iff_not]
  rw [ho a]
  constructor
  · rintro ⟨⟨h1, h2⟩, h3⟩
    exact ⟨by omega, h2⟩
  · rintro ⟨h1, h2⟩
    exact ⟨⟨by omega, h2⟩, by omega⟩
theorem gO_take {may : Nat} {cl : Nat → Nat} {l chosen o : Nat} (ho : gO may cl l chosen o) : gO may cl (l + 1) (chosen ||| 2 ^ l) (gD (gD o (2 ^ l)) (cl l)) := by
  intro a
  rw [gD_bit]
  have hn := gO_next ho a
  simp only [Bool.and_eq_true, Bool.not_eq_true']
  rw [hn]
  constructor
  · rintro ⟨⟨h1, h2, h3⟩, h4⟩
    refine ⟨h1, h2, fun c hc => ?_⟩
    rw [Nat.testBit_or, Nat.testBit_two_pow] at hc
    simp only [Bool.or_eq_true, decide_eq_true_eq] at hc
    rcases hc with hc | rfl
    · exact h3 c hc
    · exact h4
  · rintro ⟨h1, h2, h3⟩
    refine ⟨⟨h1, h2, fun c hc => h3 c ?_⟩, h3 l ?_⟩
    · rw [Nat.testBit_or, hc]; rfl
    · rw [Nat.testBit_or, Nat.testBit_two_pow_self, Bool.or_true]
theorem gF_take {may : Nat} {cl : Nat → Nat} {l chosen o : Nat} (hl : l < 10) (hsym : ∀ a b, (cl a).testBit b = (cl b).testBit a) (hirr : ∀ a, (cl a).testBit a = false) (ho : gO may cl l chosen o) (hol : o.testBit l = true) (hf : gF may cl chosen) : gF may cl (chosen ||| 2 ^ l) := by
  have hor : ∀ a, (chosen ||| 2 ^ l).testBit a = true → chosen.testBit a = true ∨ a = l := by
    intro a ha
    rw [Nat.testBit_or, Nat.testBit_two_pow] at ha
    simp only [Bool.or_eq_true, decide_eq_true_eq] at ha
    rcases ha with h1 | h1
    · exact Or.inl h1
    · exact Or.inr h1.symm
  have hx := (ho l).mp hol
  refine ⟨gor_lt hf.1 hl, fun a ha => ?_, fun a b ha hb => ?_⟩
  · rcases hor a ha with h1 | rfl
    · exact hf.2.1 a h1
    · exact hx.2.1
  · rcases hor a ha with h1 | rfl
    · rcases hor b hb with h2 | rfl
      · exact hf.2.2 a b h1 h2
      · exact hx.2.2 a h1
    · rcases hor b hb with h2 | rfl
      · rw [hsym]; exact hx.2.2 b h2
      · exact hirr _
/-- what the search rests on -/
def gHyp (S : jS) (j k n may : Nat) (cl w : Nat → Nat) : Prop := S.1 (3, k) = nI n ∧ (∀ a, a < n → S.2 (41, j) a = nI (w a)) ∧ (∀ a, a < n → S.2 (24, k) a = nI (cl a)) ∧ n ≤ 10 ∧ (∀ a, may.testBit a = true → a < n ∧ 0 < w a) ∧ (∀ l, l < 10 → w l ≤ 2000) ∧ (∀ a b, (cl a).testBit b = (cl b).testBit a) ∧ (∀ a, (cl a).testBit a = false) ∧ (∀ a, cl a < 1024)
theorem gHyp.put {S : jS} {j k n may : Nat} {cl w : Nat → Nat} (h : gHyp S j k n may cl w) (b : Nat) : gHyp (gPut S j w b) j k n may cl w := by
  obtain ⟨h1, h2⟩ := h
  exact ⟨by rw [gPut_1 (by simp) (by simp)]; exact h1, h2⟩
theorem g_eq_of_bits {a b : Nat} (h : ∀ i, a.testBit i = b.testBit i) : a = b := Nat.eq_of_testBit_eq h
set_option maxHeartbeats 4000000 in
theorem sX3_search {j k n may : Nat} {cl w : Nat → Nat} : ∀ (fu l chosen o b : Nat) (S : jS), gHyp S j k n may cl w → l ≤ n → n - l < fu → S.1 (10, j) = nI b → S.1 (11, j) = nI (gW w b) → b < 1024 → (∀ a, chosen.testBit a = true → a < l) → o < 1024 → gO may cl l chosen o → gF may cl chosen →
    ∃ b', b' < 1024 ∧ fX3_search fu j k S (nI l) (nI o) (nI chosen) (nI (gW w chosen)) = some (gPut S j w b') ∧ gK w b ≤ gK w b' ∧ (b' = b ∨ gX may cl l chosen b') ∧ ∀ t, gX may cl l chosen t → gK w t ≤ gK w b' := by
  intro fu
  induction fu with
  | zero => intro l chosen o b S _ _ h; omega
  | succ fu ih =>
    intro l chosen o b S hyp hln hfu hb1 hb2 hb hch ho10 ho hf
    obtain ⟨e3, ew, ec, hn, hmay, hw, hsym, hirr, hcl⟩ := id hyp
    have ho_n : ∀ a, o.testBit a = true → a < n := fun a ha => (hmay a ((ho a).mp ha).2.1).1
    show ∃ b', b' < 1024 ∧ bX3_search j k (fX3_search fu) S (nI l) (nI o) (nI chosen) (nI (gW w chosen)) = some (gPut S j w b') ∧ _
    unfold bX3_search
    rw [sX3_weightOf (w := w) ho10 (fun a _ ha => ew a (ho_n a ha))]
    simp only [Option.bind_some]
    have bch := gW_le hw chosen
    have bo := gW_le hw o
    have bb := gW_le hw b
    rw [hb2, nI_add]
    have hcmp := nI_leI (a := gW w b) (b := gW w chosen + gW w o) (by omega) (by omega)
    by_cases c1 : gW w b ≤ gW w chosen + gW w o
    · rw [if_pos (hcmp.mpr c1), e3]
      have hcmp2 := nI_leI (a := n) (b := l) (by omega) (by omega)
      by_cases c2 : n ≤ l
      · -- a leaf
        rw [if_pos (hcmp2.mpr c2)]
        unfold bX3_search_30
        rw [sX3_offer hw hf.1 hb hb1 hb2]
        simp only [Option.bind_some]
        have hx : ∀ t, gX may cl l chosen t → t = chosen := by
          intro t ht
          apply g_eq_of_bits
          intro i
          rcases Nat.lt_or_ge i l with hi | hi
          · exact ht.2 i hi
          · have h1 : t.testBit i = false := by
              cases h : t.testBit i with
              | false => rfl
              | true => exact absurd (hmay i (ht.1.2.1 i h)).1 (by omega)
            have h2 : chosen.testBit i = false := by
              cases h : chosen.testBit i with
              | false => rfl
              | true => exact absurd (hch i h) (by omega)
            rw [h1, h2]
        refine ⟨if gK w b < gK w chosen then chosen else b, by split; exact hf.1; exact hb, rfl, by split <;> omega, ?_, ?_⟩
        · split
          · exact Or.inr ⟨hf, fun a _ => rfl⟩
          · exact Or.inl rfl
        · intro t ht
          rw [hx t ht]
          split <;> omega
      · rw [if_neg (fun h => c2 (hcmp2.mp h)), if_pos (show nI l < (10 : Int32) from (nI_ltI (a := l) (b := 10) (by omega) (by omega)).mpr (by omega))]
        have hl10 : l < 10 := by omega
        unfold jlet
        dsimp only
        rw [nb_pow l (by omega), nb_not]
        have hrest : gD o (2 ^ l) < 1024 := gD_lt ho10
        have hov := nI_eq (a := gD o (2 ^ l)) (b := o) (by omega) (by omega)
        have hnext := gO_next ho
        have hch' : ∀ a, chosen.testBit a = true → a < l + 1 := fun a ha => Nat.lt_succ_of_lt (hch a ha)
        cases hol : o.testBit l with
        | false =>
          have hsame : gD o (2 ^ l) = o := by
            apply g_eq_of_bits
            intro i
            rw [gD_bit, Nat.testBit_two_pow]
            by_cases hi : l = i
            · subst hi; simp [hol]
            · simp [hi]
          rw [if_pos (hov.mpr hsame)]
          unfold bX3_search_63
          rw [if_pos rfl]
          unfold bX3_search_103
          rw [if_pos rfl]
          unfold bX3_search_120
          rw [nI_1]
          obtain ⟨b', q1, q2, q3, q4, q5⟩ := ih (l + 1) chosen (gD o (2 ^ l)) b S hyp (by omega) (by omega) hb1 hb2 hb hch' hrest hnext hf
          rw [q2]
          refine ⟨b', q1, rfl, q3, ?_, ?_⟩
          · rcases q4 with q | q
            · exact Or.inl q
            · exact Or.inr ((gX_split hch).mpr (Or.inl q))
          · intro t ht
            rcases (gX_split hch).mp ht with h | h
            · exact q5 t h
            · exfalso
              have htl : t.testBit l = true := by rw [h.2 l (Nat.lt_succ_self l), Nat.testBit_or, Nat.testBit_two_pow_self, Bool.or_true]
              have : o.testBit l = true := (ho l).mpr ⟨Nat.le_refl l, h.1.2.1 l htl, fun c hc => h.1.2.2 c l (by rw [ht.2 c (hch c hc)]; exact hc) htl⟩
              rw [hol] at this; cases this
        | true =>
          have hne : ¬ gD o (2 ^ l) = o := by
            intro h
            have h2 := congrArg (fun x => x.testBit l) h
            simp only [gD_bit, Nat.testBit_two_pow_self, hol] at h2
            cases h2
          rw [if_neg (fun h => hne (hov.mp h))]
          unfold bX3_search_63
          rw [if_neg (by decide), if_pos (jIn_lit (by omega) hl10), if_pos (jIn_lit (by omega) hl10), nI_clamp (by omega), ec l (by omega), ew l (by omega), nb_not, nb_or, nI_add, nI_1]
          have hcl0 : chosen.testBit l = false := by
            cases h : chosen.testBit l with
            | false => rfl
            | true => exact absurd (hch l h) (Nat.lt_irrefl l)
          rw [← gW_or (w := w) hl10 hcl0]
          have hft := gF_take hl10 hsym hirr ho hol hf
          have hcht : ∀ a, (chosen ||| 2 ^ l).testBit a = true → a < l + 1 := by
            intro a ha
            rw [Nat.testBit_or, Nat.testBit_two_pow] at ha
            simp only [Bool.or_eq_true, decide_eq_true_eq] at ha
            rcases ha with h1 | h1
            · exact hch' a h1
            · omega
          obtain ⟨b1, q1, q2, q3, q4, q5⟩ := ih (l + 1) (chosen ||| 2 ^ l) (gD (gD o (2 ^ l)) (cl l)) b S hyp (by omega) (by omega) hb1 hb2 hb hcht (gD_lt hrest) (gO_take ho) hft
          rw [q2]
          simp only [Option.bind_some]
          unfold bX3_search_103
          have hg2 : (gPut S j w b1).2 = S.2 := rfl
          rw [if_neg (by decide), if_pos (jIn_lit (by omega) hl10), nI_clamp (by omega), hg2, ec l (by omega), nb_and]
          have hz : nI (gD o (2 ^ l) &&& cl l) = (0 : Int32) ↔ gD o (2 ^ l) &&& cl l = 0 := nI_eq (a := gD o (2 ^ l) &&& cl l) (b := 0) (by have := Nat.and_le_left (n := gD o (2 ^ l)) (m := cl l); omega) (by omega)
          by_cases c3 : gD o (2 ^ l) &&& cl l = 0
          · rw [if_pos (hz.mpr c3)]
            refine ⟨b1, q1, rfl, q3, ?_, ?_⟩
            · rcases q4 with q | q
              · exact Or.inl q
              · exact Or.inr ((gX_split hch).mpr (Or.inr q))
            · intro t ht
              rcases (gX_split hch).mp ht with h | h
              · have hno : ∀ a, l < a → o.testBit a = true → (cl l).testBit a = false := by
                  intro a hla hoa
                  have h2 := congrArg (fun x => x.testBit a) c3
                  simp only [Nat.testBit_and, gD_bit, Nat.testBit_two_pow, Nat.zero_testBit, hoa] at h2
                  have : decide (l = a) = false := by simp; omega
                  rw [this] at h2
                  simpa using h2
                obtain ⟨x1, x2⟩ := gX_leave (w := w) hl10 hsym hirr (hmay l ((ho l).mp hol).2.1).2 hch ho hol hno h
                exact Nat.le_trans x2 (q5 _ x1)
              · exact q5 t h
          · rw [if_neg (fun h => c3 (hz.mp h))]
            unfold bX3_search_120
            rw [nI_1]
            obtain ⟨b2, r1, r2, r3, r4, r5⟩ := ih (l + 1) chosen (gD o (2 ^ l)) b1 (gPut S j w b1) (hyp.put b1) (by omega) (by omega) gPut_b gPut_w q1 hch' hrest hnext hf
            rw [r2, gPut_gPut]
            refine ⟨b2, r1, rfl, Nat.le_trans q3 r3, ?_, ?_⟩
            · rcases r4 with rfl | q
              · rcases q4 with q | q
                · exact Or.inl q
                · exact Or.inr ((gX_split hch).mpr (Or.inr q))
              · exact Or.inr ((gX_split hch).mpr (Or.inl q))
            · intro t ht
              rcases (gX_split hch).mp ht with h | h
              · exact r5 t h
              · exact Nat.le_trans (q5 t h) r3
    · rw [if_neg (fun h => c1 (hcmp.mp h))]
      refine ⟨b, hb, by rw [gPut_self hb1 hb2], Nat.le_refl _, Or.inl rfl, fun t ht => ?_⟩
      have := gX_weight (w := w) hch ho ht
      exact gK_lt (by omega)
