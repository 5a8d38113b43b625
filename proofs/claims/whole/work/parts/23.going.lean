/-! ===== frames; the class's pick; the reference's going ===== -/
def jFr (p q : jR → Bool) (S S' : jS) : Prop := (∀ r, p r = false → S'.1 r = S.1 r) ∧ ∀ r, q r = false → S'.2 r = S.2 r
theorem jFr.rf {p q : jR → Bool} {S : jS} : jFr p q S S := ⟨fun _ _ => rfl, fun _ _ => rfl⟩
theorem jFr.tr {p q : jR → Bool} {S S1 S2 : jS} (h1 : jFr p q S S1) (h2 : jFr p q S1 S2) : jFr p q S S2 := ⟨fun r h => (h2.1 r h).trans (h1.1 r h), fun r h => (h2.2 r h).trans (h1.2 r h)⟩
theorem jFr.mono {p q p' q' : jR → Bool} {S S' : jS} (h : jFr p q S S') (hp : ∀ r, p r = true → p' r = true) (hq : ∀ r, q r = true → q' r = true) : jFr p' q' S S' :=
  ⟨fun r hr => h.1 r (by cases e : p r; rfl; rw [hp r e] at hr; cases hr), fun r hr => h.2 r (by cases e : q r; rfl; rw [hq r e] at hr; cases hr)⟩
theorem jFr.set {p q : jR → Bool} {S : jS} {a : jR} {v : Int32} (h : p a = true) : jFr p q S (jset S a v) := by
  refine ⟨fun r hr => ?_, fun _ _ => rfl⟩
  have : r ≠ a := by rintro rfl; rw [h] at hr; cases hr
  exact jup_ne _ _ this
theorem jFr.put {p q : jR → Bool} {S : jS} {a : jR} {f : Nat → Int32} (h : q a = true) : jFr p q S (jput S a f) := by
  refine ⟨fun _ _ => rfl, fun r hr => ?_⟩
  have : r ≠ a := by rintro rfl; rw [h] at hr; cases hr
  exact jup_ne _ _ this
/-- the links below n that have a choice, but for the barred -/
def gM (f : Nat → Int32) (bar : Nat → Bool) : Nat → Nat
  | 0 => 0
  | n + 1 => if f n = -4 ∨ bar n = true then gM f bar n else gM f bar n ||| 2 ^ n
theorem gM_bit (f : Nat → Int32) (bar : Nat → Bool) : ∀ (n a : Nat), (gM f bar n).testBit a = decide (a < n ∧ f a ≠ -4 ∧ bar a = false)
  | 0, a => by simp [gM]
  | n + 1, a => by
    have ih := gM_bit f bar n a
    unfold gM
    split
    · next h =>
      rw [ih]
      by_cases ha : a = n
      · subst ha
        rcases h with h | h <;> simp [h]
      · have : a < n + 1 ↔ a < n := by omega
        simp [this]
    · next h =>
      rw [Nat.testBit_or, ih, Nat.testBit_two_pow]
      by_cases ha : n = a
      · subst ha
        have h1 : f n ≠ -4 := fun q => h (Or.inl q)
        have h2 : bar n = false := by cases e : bar n; rfl; exact absurd (Or.inr e) h
        simp [h1, h2]
      · have : a < n + 1 ↔ a < n := by omega
        simp [this, ha]
theorem gM_lt {f : Nat → Int32} {bar : Nat → Bool} {n : Nat} (hn : n ≤ 10) : gM f bar n < 1024 := by
  apply Nat.lt_pow_two_of_testBit (n := 10)
  intro i hi
  rw [gM_bit]
  simp
  omega
theorem sX3_pick_5 {j k n : Nat} {S : jS} {b : Int32} (hn : n ≤ 10) (e3 : S.1 (3, k) = nI n) : ∀ (d fu l : Nat), l + d = n → d < fu → fX3_pick_5 j k fu S b (nI (gM (S.2 (40, j)) (fun _ => false) l)) (nI l) = (fX3_search 11 j k (jset (jset S (10, j) 0) (11, j) 0) 0 (nI (gM (S.2 (40, j)) (fun _ => false) n) &&& (b ^^^ (-1 : Int32))) 0 0).bind fun y => some y := by
  intro d
  induction d with
  | zero =>
    intro fu l hl hfu
    obtain ⟨fu, rfl⟩ : ∃ m, fu = m + 1 := ⟨fu - 1, by omega⟩
    obtain rfl : l = n := by omega
    show bX3_pick_5 j k (fX3_pick_5 j k fu) S b _ _ = _
    unfold bX3_pick_5
    rw [e3, if_pos ((nI_leI (by omega) (by omega)).mpr (Nat.le_refl _))]
    rfl
  | succ d ih =>
    intro fu l hl hfu
    obtain ⟨fu, rfl⟩ : ∃ m, fu = m + 1 := ⟨fu - 1, by omega⟩
    show bX3_pick_5 j k (fX3_pick_5 j k fu) S b _ _ = _
    unfold bX3_pick_5
    have hgo := ih fu (l + 1) (by omega) (by omega)
    rw [e3, if_neg (fun h => by have := (nI_leI (a := n) (b := l) (by omega) (by omega)).mp h; omega), if_pos (jIn_lit (by omega) (by omega)), nI_clamp (by omega)]
    unfold bX3_pick_33 jlet
    dsimp only
    rw [nI_1, nb_pow l (by omega), nb_or]
    by_cases c : S.2 (40, j) l = -4
    · rw [if_pos c]
      have e : gM (S.2 (40, j)) (fun _ => false) (l + 1) = gM (S.2 (40, j)) (fun _ => false) l := by
        show (if _ then _ else _) = _
        rw [if_pos (Or.inl c)]
      rw [← e]
      exact hgo
    · rw [if_neg c]
      have e : gM (S.2 (40, j)) (fun _ => false) (l + 1) = gM (S.2 (40, j)) (fun _ => false) l ||| 2 ^ l := by
        show (if _ then _ else _) = _
        rw [if_neg (by simp [c])]
      rw [← e]
      exact hgo
/-- the class's pick: the best of the sets of links that have a choice and aren't barred -/
theorem sX3_pick {j k n bar : Nat} {cl w : Nat → Nat} {S : jS} (e3 : S.1 (3, k) = nI n) (hn : n ≤ 10) (ew : ∀ a, a < n → S.2 (41, j) a = nI (w a)) (ec : ∀ a, a < n → S.2 (24, k) a = nI (cl a)) (hpos : ∀ a, a < n → S.2 (40, j) a ≠ -4 → 0 < w a) (hw : ∀ l, l < 10 → w l ≤ 2000) (hsym : ∀ a b, (cl a).testBit b = (cl b).testBit a) (hirr : ∀ a, (cl a).testBit a = false) (hcl : ∀ a, cl a < 1024) :
    ∃ b, gB w (gM (S.2 (40, j)) (fun a => bar.testBit a) n) cl b ∧ fX3_pick j k S (nI bar) = some (gPut S j w b) := by
  have hmb : gD (gM (S.2 (40, j)) (fun _ => false) n) bar = gM (S.2 (40, j)) (fun a => bar.testBit a) n := by
    apply g_eq_of_bits
    intro i
    rw [gD_bit, gM_bit, gM_bit]
    cases bar.testBit i <;> simp
  have hm := fun a => gM_bit (S.2 (40, j)) (fun a => bar.testBit a) n a
  have hml := gM_lt (f := S.2 (40, j)) (bar := fun a => bar.testBit a) hn
  generalize gM (S.2 (40, j)) (fun a => bar.testBit a) n = may at hmb hm hml ⊢
  have hyp : gHyp (jset (jset S (10, j) 0) (11, j) 0) j k n may cl w := by
    refine ⟨?_, ew, ec, hn, fun a ha => ?_, hw, hsym, hirr, hcl⟩
    · show jup (jup S.1 (10, j) 0) (11, j) 0 (3, k) = nI n
      rw [jup_ne _ _ (by simp), jup_ne _ _ (by simp)]
      exact e3
    · rw [hm a] at ha
      have := of_decide_eq_true ha
      exact ⟨this.1, hpos a this.1 this.2.1⟩
  obtain ⟨b, q1, q2, q3, q4, q5⟩ := sX3_search 11 0 0 may 0 (jset (jset S (10, j) 0) (11, j) 0) hyp (Nat.zero_le _) (by omega) (by simp [jup, nI]) (by rw [gW_zero]; simp [jup, nI]) (by omega) (fun a h => by simp at h) hml (fun a => ⟨fun h => ⟨Nat.zero_le _, h, fun c hc => by simp at hc⟩, fun h => h.2.1⟩) (gF_zero _ _)
  have hx : ∀ t, gF may cl t → gX may cl 0 0 t := fun t ht => ⟨ht, fun a ha => absurd ha (Nat.not_lt_zero a)⟩
  refine ⟨b, ⟨?_, fun t ht => q5 t (hx t ht)⟩, ?_⟩
  · rcases q4 with rfl | q
    · exact gF_zero _ _
    · exact q.1
  · have h0 := sX3_pick_5 (j := j) (k := k) (S := S) (b := nI bar) hn e3 n 5000 0 (by omega) (by omega)
    show fX3_pick_5 j k 5000 S (nI bar) 0 0 = _
    refine h0.trans ?_
    rw [nb_not, hmb]
    rw [gW_zero] at q2
    have q2' : fX3_search 11 j k (jset (jset S (10, j) 0) (11, j) 0) 0 (nI may) 0 0 = some (gPut (jset (jset S (10, j) 0) (11, j) 0) j w b) := q2
    rw [q2', Option.bind_some]
    congr 1
    unfold gPut jset
    dsimp only
    rw [jup_comm (a := (11, j)) (b := (10, j)) _ (by simp), jup_jup, jup_jup]
/-! the reference -/
theorem sX8_has (S : jS) {s l : Nat} (hs : s < 2 ^ 31) (hl : l < 32) : fX8_has S (nI s) (nI l) = some (if s.testBit l then 1 else 0, S) := by
  unfold fX8_has
  have h := nb_bit1 hs hl
  cases e : s.testBit l with
  | true => rw [if_pos (h.mpr e)]; rfl
  | false => rw [if_neg (fun q => by rw [h.mp q] at e; cases e)]; rfl
theorem sX8_ones_4 (S : jS) {s : Nat} (hs : s < 1024) : ∀ (d n l : Nat), l + d = 10 → d < n → fX8_ones_4 n S (nI s) (nI (gS (fun l => if s.testBit l then 1 else 0) l)) (nI l) = some (nI (gC s), S) := by
  intro d
  induction d with
  | zero =>
    intro n l hl hn
    obtain ⟨n, rfl⟩ : ∃ m, n = m + 1 := ⟨n - 1, by omega⟩
    obtain rfl : l = 10 := by omega
    show bX8_ones_4 (fX8_ones_4 n) S (nI s) _ (nI 10) = _
    unfold bX8_ones_4
    rw [if_pos (by decide)]
    rfl
  | succ d ih =>
    intro n l hl hn
    obtain ⟨n, rfl⟩ : ∃ m, n = m + 1 := ⟨n - 1, by omega⟩
    show bX8_ones_4 (fX8_ones_4 n) S (nI s) _ (nI l) = _
    unfold bX8_ones_4
    rw [if_neg (show ¬ (10 : Int32) ≤ nI l from fun h => by have := (nI_leI (a := 10) (b := l) (by omega) (by omega)).mp h; omega)]
    unfold jlet
    dsimp only
    rw [nb_bit (by omega) (by omega), nI_add, nI_1]
    exact ih n (l + 1) (by omega) (by omega)
theorem sX8_ones (S : jS) {s : Nat} (hs : s < 1024) : fX8_ones S (nI s) = some (nI (gC s), S) := sX8_ones_4 S hs 10 5000 0 rfl (by omega)
theorem sX8_lowestOf_2 (S : jS) {s : Nat} (hs : s < 1024) : ∀ (d n k : Nat), s.testBit (k + d) = true → (∀ i, i < k + d → s.testBit i = false) → d < n → fX8_lowestOf_2 n S (nI s) (nI k) = some (nI (k + d), S) := by
  intro d
  induction d with
  | zero =>
    intro n k h1 h2 hn
    obtain ⟨n, rfl⟩ : ∃ m, n = m + 1 := ⟨n - 1, by omega⟩
    have hk := gtb_lt hs h1
    show bX8_lowestOf_2 (fX8_lowestOf_2 n) S (nI s) (nI k) = _
    unfold bX8_lowestOf_2
    rw [sX8_has S (by omega) (by omega), Option.bind_some]
    dsimp only
    rw [show s.testBit k = true from h1, if_neg (by decide)]
    rfl
  | succ d ih =>
    intro n k h1 h2 hn
    obtain ⟨n, rfl⟩ : ∃ m, n = m + 1 := ⟨n - 1, by omega⟩
    have hk := gtb_lt hs h1
    show bX8_lowestOf_2 (fX8_lowestOf_2 n) S (nI s) (nI k) = _
    unfold bX8_lowestOf_2
    rw [sX8_has S (by omega) (by omega), Option.bind_some]
    dsimp only
    rw [h2 k (by omega), if_pos (by decide)]
    unfold jlet
    dsimp only
    rw [nI_1]
    have h := ih n (k + 1) (by rw [show k + 1 + d = k + (d + 1) by omega]; exact h1) (fun i hi => h2 i (by omega)) (by omega)
    rw [h, show k + 1 + d = k + (d + 1) by omega]
/-- the lowest bit -/
theorem g_low {s : Nat} (h0 : 0 < s) : ∃ l, s.testBit l = true ∧ ∀ i, i < l → s.testBit i = false := by
  have hne : ∃ l, s.testBit l = true := Nat.exists_testBit_of_ne_zero (by omega)
  obtain ⟨l, h1, h2⟩ := pk_least (fun l => s.testBit l = true) hne
  exact ⟨l, h1, fun i hi => by cases e : s.testBit i; rfl; exact absurd e (h2 i hi)⟩
theorem g_rest : ∀ s, s < 1024 → ∀ l, l < 10 → s.testBit l = true → (List.range l).all (fun i => !s.testBit i) = true → s &&& (s - 1) = gD s (2 ^ l) := by decide +kernel
theorem g_rest' {s l : Nat} (hs : s < 1024) (h1 : s.testBit l = true) (h2 : ∀ i, i < l → s.testBit i = false) : s &&& (s - 1) = gD s (2 ^ l) :=
  g_rest s hs l (gtb_lt hs h1) h1 (List.all_eq_true.mpr (fun i hi => by rw [h2 i (List.mem_range.mp hi)]; rfl))
