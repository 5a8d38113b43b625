/-! ===== hops: rounds over the links; from nodes - 1 rounds on nothing changes ===== -/
def hRel (fi se : Nat → Nat) (g : Nat) (hp : Nat → Int32) (l : Nat) : Nat → Int32 := upd hp (3 * fi l + g) (if hp (3 * se l + g) + 1 < hp (3 * fi l + g) then hp (3 * se l + g) + 1 else hp (3 * fi l + g))
def hRnd (fi se : Nat → Nat) (g : Nat) (hp : Nat → Int32) : Nat → Nat → Int32
  | 0 => hp
  | l + 1 => hRel fi se g (hRnd fi se g hp l) l
def hIt (fi se : Nat → Nat) (n g : Nat) (hp : Nat → Int32) : Nat → Nat → Int32
  | 0 => hp
  | r + 1 => hRnd fi se g (hIt fi se n g hp r) n
def hAll (fi se go : Nat → Nat) (n r : Nat) (hp : Nat → Int32) : Nat → Nat → Int32
  | 0 => hp
  | g + 1 => hIt fi se n g (upd (hAll fi se go n r hp g) (3 * go g + g) 0) r
/-! one goal, in numbers -/
def dRel (fi se : Nat → Nat) (d : Nat → Nat) (l : Nat) : Nat → Nat := fun i => if i = fi l then min (d (fi l)) (d (se l) + 1) else d i
def dRnd (fi se : Nat → Nat) (d : Nat → Nat) : Nat → Nat → Nat
  | 0 => d
  | l + 1 => dRel fi se (dRnd fi se d l) l
def dIt (fi se : Nat → Nat) (n : Nat) (d : Nat → Nat) : Nat → Nat → Nat
  | 0 => d
  | r + 1 => dRnd fi se (dIt fi se n d r) n
/-- nodes from which the goal is reached by at most t links -/
def dR (fi se : Nat → Nat) (n go : Nat) : Nat → Nat → Prop
  | 0 => fun i => i = go
  | t + 1 => fun i => dR fi se n go t i ∨ ∃ l, l < n ∧ fi l = i ∧ dR fi se n go t (se l)
theorem dR_mono {fi se : Nat → Nat} {n go i : Nat} : ∀ {t u : Nat}, t ≤ u → dR fi se n go t i → dR fi se n go u i := by
  intro t u h hr
  induction u with
  | zero => obtain rfl : t = 0 := by omega
            exact hr
  | succ u ih =>
    rcases Nat.lt_or_ge t (u + 1) with h1 | h1
    · exact Or.inl (ih (by omega))
    · obtain rfl : t = u + 1 := by omega
      exact hr
theorem dRel_le {fi se : Nat → Nat} {d : Nat → Nat} {l i : Nat} : dRel fi se d l i ≤ d i := by
  unfold dRel
  split
  · next h => subst h; exact Nat.min_le_left _ _
  · exact Nat.le_refl _
theorem dRnd_le {fi se : Nat → Nat} {d : Nat → Nat} {i : Nat} : ∀ l, dRnd fi se d l i ≤ d i
  | 0 => Nat.le_refl _
  | l + 1 => Nat.le_trans dRel_le (dRnd_le l)
/-- what holds at every moment: a value below 9 is the length of a way -/
theorem dRnd_sound {fi se : Nat → Nat} {n go : Nat} {d : Nat → Nat} (h : ∀ i, d i < 9 → dR fi se n go (d i) i) : ∀ l, l ≤ n → ∀ i, dRnd fi se d l i < 9 → dR fi se n go (dRnd fi se d l i) i := by
  intro l
  induction l with
  | zero => intro _ i; exact h i
  | succ l ih =>
    intro hl i hi
    have ih := ih (by omega)
    show dR fi se n go (dRel fi se (dRnd fi se d l) l i) i
    have hi' : dRel fi se (dRnd fi se d l) l i < 9 := hi
    generalize hx : dRel fi se (dRnd fi se d l) l i = x at hi' ⊢
    unfold dRel at hx
    by_cases e : i = fi l
    · rw [if_pos e] at hx
      subst e
      rcases Nat.le_total (dRnd fi se d l (fi l)) (dRnd fi se d l (se l) + 1) with q | q
      · rw [Nat.min_eq_left q] at hx
        rw [← hx]
        exact ih _ (by omega)
      · rw [Nat.min_eq_right q] at hx
        rw [← hx]
        exact Or.inr ⟨l, by omega, rfl, ih _ (by omega)⟩
    · rw [if_neg e] at hx
      rw [← hx]
      exact ih i (by omega)
theorem dRnd_step {fi se : Nat → Nat} {d : Nat → Nat} {k j : Nat} (hj : d j ≤ k) : ∀ n l, l < n → se l = j → dRnd fi se d n (fi l) ≤ k + 1 := by
  intro n
  induction n with
  | zero => intro l h; omega
  | succ n ih =>
    intro l hl hs
    rcases Nat.lt_or_ge l n with h | h
    · exact Nat.le_trans dRel_le (ih l h hs)
    · obtain rfl : l = n := by omega
      show dRel fi se (dRnd fi se d l) l (fi l) ≤ k + 1
      unfold dRel
      rw [if_pos rfl, hs]
      have := dRnd_le (fi := fi) (se := se) (d := d) (i := j) l
      exact Nat.le_trans (Nat.min_le_right _ _) (by omega)
theorem dIt_sound {fi se : Nat → Nat} {n go : Nat} {d : Nat → Nat} (h : ∀ i, d i < 9 → dR fi se n go (d i) i) : ∀ r i, dIt fi se n d r i < 9 → dR fi se n go (dIt fi se n d r i) i
  | 0, i => h i
  | r + 1, i => dRnd_sound (dIt_sound h r) n (Nat.le_refl n) i
theorem dIt_le {fi se : Nat → Nat} {n : Nat} {d : Nat → Nat} {i : Nat} : ∀ r, dIt fi se n d r i ≤ d i
  | 0 => Nat.le_refl _
  | r + 1 => Nat.le_trans (dRnd_le n) (dIt_le r)
theorem dIt_near {fi se : Nat → Nat} {n go : Nat} {d : Nat → Nat} (hg : d go = 0) : ∀ r t, t ≤ r → ∀ i, dR fi se n go t i → dIt fi se n d r i ≤ t := by
  intro r
  induction r with
  | zero =>
    intro t ht i hi
    obtain rfl : t = 0 := by omega
    have hi : i = go := hi
    subst hi
    show d i ≤ 0
    omega
  | succ r ih =>
    intro t ht i hi
    rcases Nat.lt_or_ge t (r + 1) with h | h
    · exact Nat.le_trans (dRnd_le n) (ih t (by omega) i hi)
    · obtain rfl : t = r + 1 := by omega
      rcases hi with hi | ⟨l, h1, h2, h3⟩
      · exact Nat.le_trans (dRnd_le n) (Nat.le_trans (ih r (Nat.le_refl _) i hi) (by omega))
      · subst h2
        exact dRnd_step (ih r (Nat.le_refl _) _ h3) n l h1 rfl
/-! how far it can be: as sets of bits -/
def dB (fi se : Nat → Nat) (n go : Nat) (t : Nat) (s : Nat) : Prop := ∀ i, s.testBit i = true ↔ (dR fi se n go t i ∧ i < 6)
theorem gC_lt {s t a : Nat} (h : ∀ l, s.testBit l = true → t.testBit l = true) (ha : a < 10) (h1 : t.testBit a = true) (h2 : s.testBit a = false) : gC s + 1 ≤ gC t := by
  have e := gW_or (w := fun _ => 1) ha h2
  show gW (fun _ => 1) s + 1 ≤ gW (fun _ => 1) t
  rw [← e]
  apply gW_mono
  intro l hl
  rw [Nat.testBit_or, Nat.testBit_two_pow] at hl
  simp only [Bool.or_eq_true, decide_eq_true_eq] at hl
  rcases hl with hl | rfl
  · exact h l hl
  · exact h1
def gMp (p : Nat → Bool) : Nat → Nat
  | 0 => 0
  | n + 1 => if p n = true then gMp p n ||| 2 ^ n else gMp p n
theorem gMp_bit (p : Nat → Bool) : ∀ (n a : Nat), (gMp p n).testBit a = decide (a < n ∧ p a = true)
  | 0, a => by simp [gMp]
  | n + 1, a => by
    have ih := gMp_bit p n a
    unfold gMp
    split
    · next h =>
      rw [Nat.testBit_or, ih, Nat.testBit_two_pow]
      by_cases ha : n = a
      · subst ha; simp [h]
      · have : a < n + 1 ↔ a < n := by omega
        simp [this, ha]
    · next h =>
      rw [ih]
      by_cases ha : a = n
      · subst ha; simp [h]
      · have : a < n + 1 ↔ a < n := by omega
        simp [this]
theorem dB_ex (fi se : Nat → Nat) (n go t : Nat) : ∃ s, dB fi se n go t s := by
  refine ⟨gMp (fun i => @decide (dR fi se n go t i) (Classical.propDecidable _)) 6, fun i => ?_⟩
  rw [gMp_bit]
  simp [and_comm]
/-- with nodes below m (at most 6) the sets stand still from m - 1 on -/
theorem dR_still {fi se : Nat → Nat} {n go m : Nat} (hm : m ≤ 6) (hgo : go < m) (hfi : ∀ l, l < n → fi l < m) : ∀ t i, dR fi se n go t i → dR fi se n go (m - 1) i := by
  have hlt : ∀ t i, dR fi se n go t i → i < m := by
    intro t
    induction t with
    | zero => intro i h; have h : i = go := h; omega
    | succ t ih =>
      intro i h
      rcases h with h | ⟨l, h1, h2, h3⟩
      · exact ih i h
      · rw [← h2]; exact hfi l h1
  have hst : ∀ t, (∀ i, dR fi se n go (t + 1) i → dR fi se n go t i) → ∀ u i, dR fi se n go u i → dR fi se n go t i := by
    intro t h u
    induction u with
    | zero => intro i hi; exact dR_mono (Nat.zero_le t) hi
    | succ u ih =>
      intro i hi
      rcases hi with hi | ⟨l, h1, h2, h3⟩
      · exact ih i hi
      · exact h i (Or.inr ⟨l, h1, h2, ih _ h3⟩)
  have hcount : ∀ t, (∃ u, u < t ∧ ∀ i, dR fi se n go (u + 1) i → dR fi se n go u i) ∨ ∀ s, dB fi se n go t s → t + 1 ≤ gC s := by
    intro t
    induction t with
    | zero =>
      right
      intro s hs
      have h1 : s.testBit go = true := (hs go).mpr ⟨rfl, by omega⟩
      have := gC_lt (s := 0) (t := s) (a := go) (fun l h => by simp at h) (by omega) h1 (by simp)
      have h0 : gC 0 = 0 := gW_zero _
      omega
    | succ t ih =>
      rcases ih with ⟨u, h1, h2⟩ | ih
      · exact Or.inl ⟨u, by omega, h2⟩
      · by_cases h : ∀ i, dR fi se n go (t + 1) i → dR fi se n go t i
        · exact Or.inl ⟨t, by omega, h⟩
        · right
          intro s hs
          obtain ⟨i, hi⟩ := Classical.not_forall.mp h
          obtain ⟨h1, h2⟩ := Classical.not_imp.mp hi
          obtain ⟨s0, hs0⟩ := dB_ex fi se n go t
          have e1 := ih s0 hs0
          have hi6 : i < 6 := Nat.lt_of_lt_of_le (hlt _ _ h1) hm
          have e2 := gC_lt (s := s0) (t := s) (a := i) (fun l hl => (hs l).mpr ⟨Or.inl ((hs0 l).mp hl).1, ((hs0 l).mp hl).2⟩) (by omega) ((hs i).mpr ⟨h1, hi6⟩) (by
            cases e : s0.testBit i with
            | false => rfl
            | true => exact absurd ((hs0 i).mp e).1 h2)
          omega
  intro t i hi
  rcases hcount m with ⟨u, h1, h2⟩ | h
  · exact dR_mono (show u ≤ m - 1 by omega) (hst u h2 t i hi)
  · exfalso
    obtain ⟨s, hs⟩ := dB_ex fi se n go m
    have e1 := h s hs
    have e2 : gC s ≤ m := by
      show gS (fun l => if s.testBit l then 1 else 0) 10 ≤ m
      have hb : ∀ l, s.testBit l = true → l < m := fun l hl => hlt _ _ ((hs l).mp hl).1
      have : ∀ k, gS (fun l => if s.testBit l then 1 else 0) k ≤ min k m := by
        intro k
        induction k with
        | zero => simp [gS]
        | succ k ihk =>
          show gS _ k + (if s.testBit k then 1 else 0) ≤ _
          cases e : s.testBit k with
          | false => simp; omega
          | true => have := hb k e; simp; omega
      have := this 10
      omega
    omega
/-- so the rounds beyond m - 1 change nothing -/
theorem dIt_still {fi se : Nat → Nat} {n go m : Nat} {d : Nat → Nat} (hm : m ≤ 6) (hgo : go < m) (hfi : ∀ l, l < n → fi l < m) (hg : d go = 0) (h9 : ∀ i, i ≠ go → d i = 9) {r : Nat} (hr : m - 1 ≤ r) (i : Nat) : dIt fi se n d r i = dIt fi se n d (m - 1) i := by
  have hs0 : ∀ i, d i < 9 → dR fi se n go (d i) i := by
    intro i hi
    by_cases e : i = go
    · subst e; rw [hg]; rfl
    · rw [h9 i e] at hi; omega
  have hub : ∀ r i, dIt fi se n d r i ≤ 9 := by
    intro r i
    refine Nat.le_trans (dIt_le r) ?_
    by_cases e : i = go
    · subst e; omega
    · rw [h9 i e]; exact Nat.le_refl _
  have one : ∀ r r', m - 1 ≤ r → m - 1 ≤ r' → dIt fi se n d r i ≤ dIt fi se n d r' i := by
    intro r r' h1 h2
    rcases Nat.lt_or_ge (dIt fi se n d r' i) 9 with h | h
    · have hR := dIt_sound hs0 r' i h
      have hS := dR_still hm hgo hfi _ _ hR
      rcases Nat.lt_or_ge (dIt fi se n d r' i) (m - 1) with q | q
      · exact dIt_near hg r _ (by omega) i hR
      · exact Nat.le_trans (dIt_near hg r (m - 1) h1 i hS) q
    · exact Nat.le_trans (hub r i) h
  exact Nat.le_antisymm (one r (m - 1) hr (Nat.le_refl _)) (one (m - 1) r (Nat.le_refl _) hr)
