/-! ===== sets of links as bits: weights, the order among sets, the best one ===== -/
def gS (f : Nat → Nat) : Nat → Nat
  | 0 => 0
  | n + 1 => gS f n + f n
theorem gS_congr {f g : Nat → Nat} : ∀ {n : Nat}, (∀ i, i < n → f i = g i) → gS f n = gS g n
  | 0, _ => rfl
  | n + 1, h => by
    show gS f n + f n = gS g n + g n
    rw [gS_congr (fun i hi => h i (Nat.lt_succ_of_lt hi)), h n (Nat.lt_succ_self n)]
theorem gS_add {f g h : Nat → Nat} : ∀ {n : Nat}, (∀ i, i < n → f i = g i + h i) → gS f n = gS g n + gS h n
  | 0, _ => rfl
  | n + 1, e => by
    show gS f n + f n = (gS g n + g n) + (gS h n + h n)
    rw [gS_add (fun i hi => e i (Nat.lt_succ_of_lt hi)), e n (Nat.lt_succ_self n)]
    omega
theorem gS_le {f g : Nat → Nat} : ∀ {n : Nat}, (∀ i, i < n → f i ≤ g i) → gS f n ≤ gS g n
  | 0, _ => Nat.le_refl _
  | n + 1, h => Nat.add_le_add (gS_le (fun i hi => h i (Nat.lt_succ_of_lt hi))) (h n (Nat.lt_succ_self n))
theorem gS_one (l c : Nat) : ∀ n, gS (fun i => if i = l then c else 0) n = if l < n then c else 0
  | 0 => by simp [gS]
  | n + 1 => by
    show gS _ n + (if n = l then c else 0) = _
    rw [gS_one l c n]
    by_cases h : n = l
    · subst h; simp
    · by_cases h2 : l < n
      · have : l < n + 1 := by omega
        simp [h, h2, this]
      · have : ¬ l < n + 1 := by omega
        simp [h, h2, this]
theorem gS_bound {f : Nat → Nat} {c : Nat} : ∀ {n : Nat}, (∀ i, i < n → f i ≤ c) → gS f n ≤ n * c
  | 0, _ => by simp [gS]
  | n + 1, h => by
    have h1 := gS_bound (n := n) (fun i hi => h i (Nat.lt_succ_of_lt hi))
    have h2 := h n (Nat.lt_succ_self n)
    show gS f n + f n ≤ (n + 1) * c
    rw [Nat.succ_mul]
    omega
/-- weight of a set -/
def gW (w : Nat → Nat) (s : Nat) : Nat := gS (fun l => if s.testBit l then w l else 0) 10
def gC (s : Nat) : Nat := gW (fun _ => 1) s
def gK (w : Nat → Nat) (s : Nat) : Nat := gW w s * 20480 + (10 - gC s) * 1024 + (1023 - s)
/-- sets that may go together -/
def gF (may : Nat) (cl : Nat → Nat) (t : Nat) : Prop := t < 1024 ∧ (∀ a, t.testBit a = true → may.testBit a = true) ∧ ∀ a b, t.testBit a = true → t.testBit b = true → (cl a).testBit b = false
/-- the best of them -/
def gB (w : Nat → Nat) (may : Nat) (cl : Nat → Nat) (b : Nat) : Prop := gF may cl b ∧ ∀ t, gF may cl t → gK w t ≤ gK w b
theorem gW_zero (w : Nat → Nat) : gW w 0 = 0 := by
  unfold gW
  rw [gS_congr (g := fun _ => 0) (fun i _ => by simp)]
  rfl
theorem gW_or {w : Nat → Nat} {s l : Nat} (hl : l < 10) (h : s.testBit l = false) : gW w (s ||| 2 ^ l) = gW w s + w l := by
  unfold gW
  rw [gS_add (g := fun i => if s.testBit i then w i else 0) (h := fun i => if i = l then w l else 0) (fun i _ => ?_), gS_one, if_pos hl]
  by_cases hi : i = l
  · subst hi
    simp [h]
  · have : (2 ^ l).testBit i = false := by
      rw [Nat.testBit_two_pow]
      simp [Ne.symm hi]
    simp [this, hi]
theorem gW_congr {w w' : Nat → Nat} {s : Nat} (h : ∀ l, l < 10 → s.testBit l = true → w l = w' l) : gW w s = gW w' s := by
  unfold gW
  apply gS_congr
  intro i hi
  by_cases hb : s.testBit i = true
  · simp [hb, h i hi hb]
  · simp [hb]
theorem gW_mono {w : Nat → Nat} {s t : Nat} (h : ∀ l, s.testBit l = true → t.testBit l = true) : gW w s ≤ gW w t := by
  unfold gW
  apply gS_le
  intro i hi
  by_cases hb : s.testBit i = true
  · simp [hb, h i hb]
  · simp [hb]
theorem gW_disj {w : Nat → Nat} {s t u : Nat} (h : ∀ l, u.testBit l = (s.testBit l || t.testBit l)) (hd : ∀ l, ¬ (s.testBit l = true ∧ t.testBit l = true)) : gW w u = gW w s + gW w t := by
  unfold gW
  apply gS_add
  intro i _
  have h1 := h i
  have h2 := hd i
  cases hs : s.testBit i <;> cases ht : t.testBit i <;> simp_all
theorem gC_le (s : Nat) : gC s ≤ 10 := by
  have := gS_bound (f := fun l => if s.testBit l then 1 else 0) (c := 1) (n := 10) (fun i _ => by split <;> omega)
  exact this
theorem gK_inj {w : Nat → Nat} {s t : Nat} (hs : s < 1024) (ht : t < 1024) (h : gK w s = gK w t) : s = t := by
  unfold gK at h
  omega
theorem gB_unique {w : Nat → Nat} {may : Nat} {cl : Nat → Nat} {a b : Nat} (ha : gB w may cl a) (hb : gB w may cl b) : a = b :=
  gK_inj ha.1.1 hb.1.1 (Nat.le_antisymm (hb.2 a ha.1) (ha.2 b hb.1))
theorem gF_congr {may may' : Nat} {cl cl' : Nat → Nat} {t : Nat} (h1 : ∀ a, may.testBit a = true → may'.testBit a = true) (h2 : ∀ a b, may.testBit a = true → may.testBit b = true → (cl a).testBit b = false → (cl' a).testBit b = false) (h : gF may cl t) : gF may' cl' t :=
  ⟨h.1, fun a ha => h1 a (h.2.1 a ha), fun a b ha hb => h2 a b (h.2.1 a ha) (h.2.1 b hb) (h.2.2 a b ha hb)⟩
theorem gK_congr {w w' : Nat → Nat} {s : Nat} (h : gW w s = gW w' s) : gK w s = gK w' s := by unfold gK; rw [h]
theorem gF_zero (may : Nat) (cl : Nat → Nat) : gF may cl 0 := ⟨by omega, fun a h => by simp at h, fun a b h => by simp at h⟩
theorem gtb_lt {s l : Nat} (hs : s < 1024) (h : s.testBit l = true) : l < 10 := by
  rcases Nat.lt_or_ge l 10 with h1 | h1
  · exact h1
  · have : s < 2 ^ l := Nat.lt_of_lt_of_le hs (show 2 ^ 10 ≤ 2 ^ l from Nat.pow_le_pow_right (by omega) h1)
    rw [Nat.testBit_lt_two_pow this] at h
    cases h
theorem gor_lt {s l : Nat} (hs : s < 1024) (hl : l < 10) : s ||| 2 ^ l < 1024 :=
  Nat.or_lt_two_pow (n := 10) hs (Nat.pow_lt_pow_right (by omega) hl)
/-! the search, purely: the best of those that extend what is chosen -/
/-- sets that extend the chosen by open links from l on -/
def gX (may : Nat) (cl : Nat → Nat) (l chosen : Nat) (t : Nat) : Prop := gF may cl t ∧ ∀ a, a < l → t.testBit a = chosen.testBit a
/-- what is open at l -/
def gO (may : Nat) (cl : Nat → Nat) (l chosen o : Nat) : Prop := ∀ a, o.testBit a = true ↔ (l ≤ a ∧ may.testBit a = true ∧ ∀ c, chosen.testBit c = true → (cl c).testBit a = false)
theorem gX_split {may : Nat} {cl : Nat → Nat} {l chosen t : Nat} (hc : ∀ a, chosen.testBit a = true → a < l) : gX may cl l chosen t ↔ (gX may cl (l + 1) chosen t ∨ gX may cl (l + 1) (chosen ||| 2 ^ l) t) := by
  have hcl : chosen.testBit l = false := by
    cases h : chosen.testBit l with
    | false => rfl
    | true => exact absurd (hc l h) (Nat.lt_irrefl l)
  have hp : ∀ a, a < l → (2 ^ l).testBit a = false := fun a ha => by rw [Nat.testBit_two_pow]; simp; omega
  constructor
  · rintro ⟨h1, h2⟩
    cases ht : t.testBit l with
    | false =>
      refine Or.inl ⟨h1, fun a ha => ?_⟩
      rcases Nat.lt_succ_iff_lt_or_eq.mp ha with h | rfl
      · exact h2 a h
      · rw [ht, hcl]
    | true =>
      refine Or.inr ⟨h1, fun a ha => ?_⟩
      rcases Nat.lt_succ_iff_lt_or_eq.mp ha with h | rfl
      · rw [Nat.testBit_or, hp a h, Bool.or_false]; exact h2 a h
      · rw [ht, Nat.testBit_or, Nat.testBit_two_pow_self, Bool.or_true]
  · rintro (⟨h1, h2⟩ | ⟨h1, h2⟩)
    · exact ⟨h1, fun a ha => h2 a (Nat.lt_succ_of_lt ha)⟩
    · refine ⟨h1, fun a ha => ?_⟩
      rw [h2 a (Nat.lt_succ_of_lt ha), Nat.testBit_or, hp a ha, Bool.or_false]
/-- an extension weighs at most what is chosen and all that is open -/
theorem gX_weight {w : Nat → Nat} {may : Nat} {cl : Nat → Nat} {l chosen o t : Nat} (hc : ∀ a, chosen.testBit a = true → a < l) (ho : gO may cl l chosen o) (h : gX may cl l chosen t) : gW w t ≤ gW w chosen + gW w o := by
  have hd : ∀ a, ¬ (chosen.testBit a = true ∧ o.testBit a = true) := fun a ⟨h1, h2⟩ => absurd (hc a h1) (Nat.not_lt.mpr ((ho a).mp h2).1)
  rw [← gW_disj (w := w) (s := chosen) (t := o) (u := chosen ||| o) (fun a => Nat.testBit_or _ _ _) hd]
  apply gW_mono
  intro a ha
  rw [Nat.testBit_or]
  rcases Nat.lt_or_ge a l with hl | hl
  · rw [← h.2 a hl, ha]; rfl
  · have : o.testBit a = true := (ho a).mpr ⟨hl, h.1.2.1 a ha, fun c hcc => h.1.2.2 c a (by rw [h.2 c (hc c hcc)]; exact hcc) ha⟩
    rw [this, Bool.or_true]
/-- to leave out an open link that bars none of the rest doesn't pay -/
theorem gX_leave {w : Nat → Nat} {may : Nat} {cl : Nat → Nat} {l chosen o t : Nat} (hl : l < 10) (hsym : ∀ a b, (cl a).testBit b = (cl b).testBit a) (hirr : ∀ a, (cl a).testBit a = false) (hw : 0 < w l) (hc : ∀ a, chosen.testBit a = true → a < l) (ho : gO may cl l chosen o) (hol : o.testBit l = true) (hno : ∀ a, l < a → o.testBit a = true → (cl l).testBit a = false) (h : gX may cl (l + 1) chosen t) : gX may cl (l + 1) (chosen ||| 2 ^ l) (t ||| 2 ^ l) ∧ gK w t ≤ gK w (t ||| 2 ^ l) := by
  have hcl : chosen.testBit l = false := by
    cases h : chosen.testBit l with
    | false => rfl
    | true => exact absurd (hc l h) (Nat.lt_irrefl l)
  have htl : t.testBit l = false := by rw [h.2 l (Nat.lt_succ_self l)]; exact hcl
  have hbar : ∀ a, t.testBit a = true → (cl l).testBit a = false := by
    intro a ha
    rcases Nat.lt_trichotomy a l with h1 | h1 | h1
    · rw [hsym]
      exact ((ho l).mp hol).2.2 a (by rw [← h.2 a (Nat.lt_succ_of_lt h1)]; exact ha)
    · subst h1; rw [htl] at ha; cases ha
    · exact hno a h1 ((ho a).mpr ⟨Nat.le_of_lt h1, h.1.2.1 a ha, fun c hcc => h.1.2.2 c a (by rw [h.2 c (Nat.lt_succ_of_lt (hc c hcc))]; exact hcc) ha⟩)
  have hor : ∀ a, (t ||| 2 ^ l).testBit a = true → t.testBit a = true ∨ a = l := by
    intro a ha
    rw [Nat.testBit_or, Nat.testBit_two_pow] at ha
    simp only [Bool.or_eq_true, decide_eq_true_eq] at ha
    rcases ha with h1 | h1
    · exact Or.inl h1
    · exact Or.inr h1.symm
  refine ⟨⟨⟨gor_lt h.1.1 hl, fun a ha => ?_, fun a b ha hb => ?_⟩, fun a ha => ?_⟩, ?_⟩
  · rcases hor a ha with h1 | rfl
    · exact h.1.2.1 a h1
    · exact ((ho a).mp hol).2.1
  · rcases hor a ha with h1 | rfl
    · rcases hor b hb with h2 | rfl
      · exact h.1.2.2 a b h1 h2
      · rw [hsym]; exact hbar a h1
    · rcases hor b hb with h2 | rfl
      · exact hbar b h2
      · exact hirr _
  · rw [Nat.testBit_or, Nat.testBit_or, h.2 a ha]
  · have e1 := gW_or (w := w) hl htl
    have e2 := gC_le t
    have e3 := gC_le (t ||| 2 ^ l)
    unfold gK
    rw [e1]
    have h3 := h.1.1
    have h4 := gor_lt h.1.1 hl
    have : (gW w t + w l) * 20480 = gW w t * 20480 + w l * 20480 := Nat.add_mul _ _ _
    omega
