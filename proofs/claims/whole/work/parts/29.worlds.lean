/-! ===== abstract worlds: a header (the reference's row 0..76) and queues as lists of births ===== -/
def jN (x : Int32) : Nat := x.toNatClampNeg
theorem jN_nI {a : Nat} (h : a < 2 ^ 31) : jN (nI a) = a := nI_clamp h
def hm (h : Nat → Int32) : Nat := jN (h 0)
def hG (h : Nat → Int32) : Nat := jN (h 1)
def hn (h : Nat → Int32) : Nat := jN (h 5)
def hb (h : Nat → Int32) : Nat := jN (h 64)
def hgo (h : Nat → Int32) (g : Nat) : Nat := jN (h (2 + g))
def hfi (h : Nat → Int32) (l : Nat) : Nat := jN (h (6 + 3 * l))
def hse (h : Nat → Int32) (l : Nat) : Nat := jN (h (7 + 3 * l))
def hro (h : Nat → Int32) (l : Nat) : Nat := jN (h (8 + 3 * l))
def hcl (h : Nat → Int32) (a : Nat) : Nat := if a < hn h then jN (h (36 + a)) else 0
def hfe (h : Nat → Int32) (q : Nat) : Nat := jN (h (46 + q))
/-- there is a queue -/
def hq (h : Nat → Int32) (i g : Nat) : Prop := i < hm h ∧ g < hG h ∧ hgo h g ≠ i
/-- a header as it must be -/
def HV (h : Nat → Int32) : Prop :=
  (h 0 = nI (hm h) ∧ 2 ≤ hm h ∧ hm h ≤ 6) ∧ (h 1 = nI (hG h) ∧ 1 ≤ hG h ∧ hG h ≤ 3) ∧ (h 5 = nI (hn h) ∧ hn h ≤ 10) ∧ (h 64 = nI (hb h) ∧ hb h ≤ 9) ∧ (h 65 = 0 ∨ h 65 = 1) ∧
  (∀ g, g < hG h → h (2 + g) = nI (hgo h g) ∧ hgo h g < hm h) ∧ (∀ g g', g < hG h → g' < hG h → hgo h g = hgo h g' → g = g') ∧
  (∀ l, l < hn h → (h (6 + 3 * l) = nI (hfi h l) ∧ hfi h l < hm h) ∧ (h (7 + 3 * l) = nI (hse h l) ∧ hse h l < hm h) ∧ hfi h l ≠ hse h l ∧ (h (8 + 3 * l) = nI (hro h l) ∧ 1 ≤ hro h l ∧ hro h l ≤ 9) ∧ h (36 + l) = nI (hcl h l)) ∧
  ((∀ a b, (hcl h a).testBit b = (hcl h b).testBit a) ∧ (∀ a, (hcl h a).testBit a = false) ∧ ∀ a, hcl h a < 2 ^ hn h) ∧
  ∀ i g, i < 6 → g < 3 → (h (46 + (3 * i + g)) = nI (hfe h (3 * i + g)) ∧ hfe h (3 * i + g) ≤ 9) ∧ (¬ hq h i g → h (46 + (3 * i + g)) = 0)
def hops (h : Nat → Int32) : Nat → Int32 := hAll (hfi h) (hse h) (hgo h) (hn h) 6 (fun _ => 9) (hG h)
theorem HV.cl {h : Nat → Int32} (H : HV h) (a : Nat) : hcl h a < 1024 := Nat.lt_of_lt_of_le (H.2.2.2.2.2.2.2.2.1.2.2 a) (show 2 ^ hn h ≤ 2 ^ 10 from Nat.pow_le_pow_right (by omega) H.2.2.1.2)
theorem HV.lk {h : Nat → Int32} (H : HV h) {l : Nat} (hl : l < hn h) : hfi h l < 6 ∧ hse h l < 6 := by
  obtain ⟨h1, h2, -⟩ := H.2.2.2.2.2.2.2.1 l hl
  have := H.1.2.2
  exact ⟨by omega, by omega⟩
theorem hAll_small {fi se go : Nat → Nat} {n r : Nat} (hl : ∀ l, l < n → fi l < 6 ∧ se l < 6) : ∀ G, G ≤ 3 → (∀ g, g < G → go g < 6) → ∀ i g, i < 6 → g < 3 → ∃ d, d ≤ 9 ∧ hAll fi se go n r (fun _ => 9) G (3 * i + g) = nI d
  | 0, _, _, i, g, _, _ => ⟨9, Nat.le_refl _, rfl⟩
  | G + 1, hG, hgo, i, g, hi, hg => by
    have ih := hAll_small (go := go) (r := r) hl G (by omega) (fun g q => hgo g (by omega))
    by_cases e : g = G
    · subst e
      have hD0 : hD g (upd (hAll fi se go n r (fun _ => 9) g) (3 * go g + g) 0) (fun i => if i = go g then 0 else 9) := by
        intro i hi
        by_cases e : i = go g
        · subst e
          rw [pk_us]
          simp [nI_0]
        · rw [pk_un (by omega), hAll_o (fun l q => (hl l q).1) g (fun g' q => hgo g' (by omega)) (fun g' q i' hi' => by omega)]
          simp [e]
          rfl
      obtain ⟨h1, h2⟩ := hIt_D hD0 hl r i hi
      exact ⟨_, h2, h1⟩
    · obtain ⟨d, h1, h2⟩ := ih i g hi hg
      refine ⟨d, h1, ?_⟩
      show hIt fi se n G _ r (3 * i + g) = _
      rw [hIt_o (fun l q => (hl l q).1) (fun i' hi' => by omega), pk_un (by have := hgo G (by omega); omega)]
      exact h2
theorem hops_small {h : Nat → Int32} (H : HV h) {i g : Nat} (hi : i < 6) (hg : g < 3) : ∃ d, d ≤ 9 ∧ hops h (3 * i + g) = nI d :=
  hAll_small (fun l hl => H.lk hl) (hG h) H.2.1.2.2 (fun g hg => by have := (H.2.2.2.2.2.1 g hg).2; have := H.1.2.2; omega) i g hi hg
/-- the class's net k holds the header -/
def NC (k : Nat) (S : jS) (h : Nat → Int32) : Prop :=
  (S.1 (1, k) = h 0 ∧ S.1 (2, k) = h 1 ∧ S.1 (3, k) = h 5 ∧ S.1 (4, k) = h 65 ∧ S.1 (5, k) = h 64) ∧ (∀ g, g < hG h → S.2 (20, k) g = h (2 + g)) ∧ (∀ l, l < hn h → S.2 (21, k) l = h (6 + 3 * l) ∧ S.2 (22, k) l = h (7 + 3 * l) ∧ S.2 (23, k) l = h (8 + 3 * l) ∧ S.2 (24, k) l = h (36 + l)) ∧ ∀ q, q < 18 → S.2 (25, k) q = h (46 + q)
def HC (k : Nat) (S : jS) (h : Nat → Int32) : Prop := ∀ q, q < 18 → S.2 (26, k) q = hops h q
/-- the queue q of world k is the list -/
def QL (k : Nat) (S : jS) (q : Nat) (L : List Int32) : Prop := S.2 (33, k) q = nI L.length ∧ L.length ≤ 40 ∧ ∃ hd, hd < 40 ∧ S.2 (35, k) q = nI hd ∧ ∀ i, i < L.length → S.2 (34, k) (40 * q + (hd + i) % 40) = L.getD i 0
def QC (k : Nat) (S : jS) (h : Nat → Int32) (qs : Nat → List Int32) : Prop :=
  (S.1 (6, k) = h 66 ∧ S.1 (7, k) = h 76 ∧ ∀ g, g < 3 → S.2 (30, k) g = h (67 + g) ∧ S.2 (31, k) g = h (70 + g) ∧ S.2 (32, k) g = h (73 + g)) ∧ ∀ q, q < 18 → QL k S q (qs q)
def WC (k : Nat) (S : jS) (h : Nat → Int32) (qs : Nat → List Int32) : Prop := NC k S h ∧ HC k S h ∧ QC k S h qs
/-- the reference's row holds header and queues -/
def WM (row : Nat → Int32) (h : Nat → Int32) (qs : Nat → List Int32) : Prop := (∀ j, j < 77 → row j = h j) ∧ ∀ q, q < 18 → row (77 + 41 * q) = nI (qs q).length ∧ (qs q).length ≤ 40 ∧ ∀ i, i < (qs q).length → row (78 + 41 * q + i) = (qs q).getD i 0
/-- the drop of a link for a goal -/
def aDr (h : Nat → Int32) (qs : Nat → List Int32) (l g : Nat) : Int32 := (nI (qs (3 * hfi h l + g)).length + h 64 * hops h (3 * hfi h l + g)) - (nI (qs (3 * hse h l + g)).length + h 64 * hops h (3 * hse h l + g))
theorem i32_ss (x y z : Int32) : x - y - z = x - (y + z) := by grind
theorem sX2_biasAt {k : Nat} {S : jS} {h : Nat → Int32} (N : NC k S h) (Hc : HC k S h) {q : Nat} (hq : q < 18) : fX2_biasAt k S (nI q) = some (h 64 * hops h q, S) := by
  unfold fX2_biasAt
  rw [if_pos (jIn_lit (by omega) hq), nI_clamp (by omega), N.1.2.2.2.2, Hc q hq]
theorem sX6_dropOf {k : Nat} {S : jS} {h : Nat → Int32} {qs : Nat → List Int32} (H : HV h) (N : NC k S h) (Hc : HC k S h) (hs : ∀ q, q < 18 → S.2 (33, k) q = nI (qs q).length) {l g : Nat} (hl : l < hn h) (hg : g < 3) : fX6_dropOf k S (nI l) (nI g) = some (aDr h qs l g, S) := by
  obtain ⟨n1, n2, n3, n4⟩ := N.2.2.1 l hl
  obtain ⟨⟨l1, -⟩, ⟨l2, -⟩, -⟩ := H.2.2.2.2.2.2.2.1 l hl
  obtain ⟨b1, b2⟩ := H.lk hl
  have hl10 := H.2.2.1.2
  unfold fX6_dropOf fX7_spot
  rw [if_pos (jIn_lit (by omega) (by omega)), Option.bind_some]
  dsimp only
  rw [if_pos (jIn_lit (by omega) (by omega)), Option.bind_some]
  dsimp only
  rw [nI_clamp (n := l) (by omega), n1, n2, l1, l2, li_m3, li_m3, nI_add, nI_add, if_pos (jIn_lit (by omega) (by omega)), sX2_biasAt N Hc (by omega), Option.bind_some]
  dsimp only
  rw [if_pos (jIn_lit (by omega) (by omega)), sX2_biasAt N Hc (by omega), Option.bind_some]
  dsimp only
  rw [nI_clamp (by omega), nI_clamp (by omega), hs _ (by omega), hs _ (by omega), i32_ss]
  rfl
theorem sX8_manyIn {S : jS} {h : Nat → Int32} {qs : Nat → List Int32} (M : WM (S.2 (50, 0)) h qs) {i g : Nat} (hi : i < 6) (hg : g < 3) : fX8_manyIn S (nI i) (nI g) = some (nI (qs (3 * i + g)).length, S) := by
  unfold fX8_manyIn fX8_queuePlace
  rw [li_3m, nI_add, li_41m, li_77, Option.bind_some]
  dsimp only
  rw [if_pos (jIn_lit (by omega) (by omega)), nI_clamp (by omega), (M.2 (3 * i + g) (by omega)).1]
theorem cl64 : (64 : Int32).toNatClampNeg = 64 := by decide
theorem sX8_heightOf {S : jS} {h : Nat → Int32} {qs : Nat → List Int32} (M : WM (S.2 (50, 0)) h qs) (hh : ∀ q, q < 18 → S.2 (56, 0) q = hops h q) {i g : Nat} (hi : i < 6) (hg : g < 3) : fX8_heightOf S (nI i) (nI g) = some (nI (qs (3 * i + g)).length + h 64 * hops h (3 * i + g), S) := by
  unfold fX8_heightOf
  rw [sX8_manyIn M hi hg, Option.bind_some]
  dsimp only
  rw [if_pos (by decide), cl64, M.1 64 (by omega), li_3m, nI_add, if_pos (jIn_lit (by omega) (by omega)), nI_clamp (by omega), hh _ (by omega)]
theorem sX8_dropOf {S : jS} {h : Nat → Int32} {qs : Nat → List Int32} (H : HV h) (M : WM (S.2 (50, 0)) h qs) (hh : ∀ q, q < 18 → S.2 (56, 0) q = hops h q) {l g : Nat} (hl : l < hn h) (hg : g < 3) : fX8_dropOf S (nI l) (nI g) = some (aDr h qs l g, S) := by
  obtain ⟨⟨l1, -⟩, ⟨l2, -⟩, -⟩ := H.2.2.2.2.2.2.2.1 l hl
  obtain ⟨b1, b2⟩ := H.lk hl
  have hl10 := H.2.2.1.2
  unfold fX8_dropOf
  rw [sX8_firstOf S (by omega), M.1 _ (by omega), l1, Option.bind_some]
  dsimp only
  rw [sX8_heightOf M hh b1 hg, Option.bind_some]
  dsimp only
  rw [sX8_secondOf S (by omega), M.1 _ (by omega), l2, Option.bind_some]
  dsimp only
  rw [sX8_heightOf M hh b2 hg, Option.bind_some]
  rfl
/-- choice and greatest drop among the goals below G -/
def aCh (dr : Nat → Int32) (ne : Nat → Bool) : Nat → Int32 × Int32
  | 0 => (-4, 0)
  | g + 1 => if ne g = true ∧ (aCh dr ne g).2 < dr g then (nI g, dr g) else aCh dr ne g
theorem aCh_spec (dr : Nat → Int32) (ne : Nat → Bool) : ∀ G, (aCh dr ne G).1 = -4 ∧ (aCh dr ne G).2 = 0 ∨ ∃ g, g < G ∧ (aCh dr ne G).1 = nI g ∧ (aCh dr ne G).2 = dr g ∧ 0 < dr g ∧ ne g = true
  | 0 => Or.inl ⟨rfl, rfl⟩
  | G + 1 => by
    have ih := aCh_spec dr ne G
    unfold aCh
    split
    · next h =>
      right
      refine ⟨G, by omega, rfl, rfl, ?_, h.1⟩
      rcases ih with ⟨-, e⟩ | ⟨g, -, -, e, e2, -⟩
      · rw [e] at h; exact h.2
      · rw [e] at h
        have a1 := Int32.lt_iff_toInt_lt.mp h.2
        have a2 := Int32.lt_iff_toInt_lt.mp e2
        exact Int32.lt_iff_toInt_lt.mpr (by omega)
    · rcases ih with ih | ⟨g, e0, e⟩
      · exact Or.inl ih
      · exact Or.inr ⟨g, by omega, e⟩
/-- does a link's first node have a packet for the goal -/
def aNe (h : Nat → Int32) (qs : Nat → List Int32) (l g : Nat) : Bool := decide (0 < (qs (3 * hfi h l + g)).length)
def aCho (h : Nat → Int32) (qs : Nat → List Int32) (l : Nat) : Int32 × Int32 := aCh (aDr h qs l) (aNe h qs l) (hG h)
theorem sX3_choiceOf_8 {k : Nat} {S : jS} {h : Nat → Int32} {qs : Nat → List Int32} (H : HV h) (N : NC k S h) (Hc : HC k S h) (hs : ∀ q, q < 18 → S.2 (33, k) q = nI (qs q).length) (h40 : ∀ q, q < 18 → (qs q).length ≤ 40) {l : Nat} (hl : l < hn h) : ∀ (d fu g : Nat), g + d = hG h → d < fu → fX3_choiceOf_8 k fu S (nI l) (aCh (aDr h qs l) (aNe h qs l) g).1 (aCh (aDr h qs l) (aNe h qs l) g).2 (nI g) = some ((aCho h qs l).1, S) := by
  obtain ⟨n1, n2, n3, n4⟩ := N.2.2.1 l hl
  obtain ⟨⟨l1, -⟩, ⟨l2, -⟩, -⟩ := H.2.2.2.2.2.2.2.1 l hl
  obtain ⟨b1, b2⟩ := H.lk hl
  have hl10 := H.2.2.1.2
  have hG3 := H.2.1.2.2
  have eG : S.1 (2, k) = nI (hG h) := N.1.2.1.trans H.2.1.1
  intro d
  induction d with
  | zero =>
    intro fu g hd hfu
    obtain ⟨fu, rfl⟩ : ∃ m, fu = m + 1 := ⟨fu - 1, by omega⟩
    obtain rfl : g = hG h := by omega
    show bX3_choiceOf_8 k (fX3_choiceOf_8 k fu) S (nI l) _ _ _ = _
    unfold bX3_choiceOf_8
    rw [eG, if_pos ((nI_leI (by omega) (by omega)).mpr (Nat.le_refl _))]
    rfl
  | succ d ih =>
    intro fu g hd hfu
    obtain ⟨fu, rfl⟩ : ∃ m, fu = m + 1 := ⟨fu - 1, by omega⟩
    have hgo := ih fu (g + 1) (by omega) (by omega)
    show bX3_choiceOf_8 k (fX3_choiceOf_8 k fu) S (nI l) _ _ _ = _
    unfold bX3_choiceOf_8 fX7_spot
    have hd1 := sX6_dropOf H N Hc hs hl (show g < 3 by omega)
    rw [eG, if_neg (fun h9 => by have := (nI_leI (a := hG h) (b := g) (by omega) (by omega)).mp h9; omega), if_pos (jIn_lit (by omega) (by omega)), nI_clamp (by omega), n1, l1]
    simp only [Option.bind_some]
    rw [li_m3, nI_add, if_pos (jIn_lit (by omega) (by omega)), nI_clamp (by omega), hs _ (by omega), hd1, Option.bind_some]
    dsimp only
    rw [hd1, Option.bind_some]
    unfold bX3_choiceOf_67 jlet
    dsimp only
    rw [nI_1]
    have h40' := h40 (3 * hfi h l + g) (by omega)
    have hz : nI (qs (3 * hfi h l + g)).length ≤ (0 : Int32) ↔ (qs (3 * hfi h l + g)).length ≤ 0 := nI_leI (b := 0) (by omega) (by omega)
    by_cases c1 : (qs (3 * hfi h l + g)).length ≤ 0
    · rw [if_pos (hz.mpr c1)]
      have e : aCh (aDr h qs l) (aNe h qs l) (g + 1) = aCh (aDr h qs l) (aNe h qs l) g := by
        show (if _ then _ else _) = _
        rw [if_neg (fun q => by have := of_decide_eq_true q.1; omega)]
      rw [e] at hgo
      exact hgo
    · rw [if_neg (fun q => c1 (hz.mp q))]
      by_cases c2 : aDr h qs l g ≤ (aCh (aDr h qs l) (aNe h qs l) g).2
      · rw [if_pos c2]
        have e : aCh (aDr h qs l) (aNe h qs l) (g + 1) = aCh (aDr h qs l) (aNe h qs l) g := by
          show (if _ then _ else _) = _
          rw [if_neg (fun q => Int32.not_lt.mpr c2 q.2)]
        rw [e] at hgo
        exact hgo
      · rw [if_neg c2]
        have e : aCh (aDr h qs l) (aNe h qs l) (g + 1) = (nI g, aDr h qs l g) := by
          show (if _ then _ else _) = _
          rw [if_pos ⟨decide_eq_true (by omega), Int32.not_le.mp c2⟩]
        rw [e] at hgo
        exact hgo
theorem sX3_choiceOf {k : Nat} {S : jS} {h : Nat → Int32} {qs : Nat → List Int32} (H : HV h) (N : NC k S h) (Hc : HC k S h) (hs : ∀ q, q < 18 → S.2 (33, k) q = nI (qs q).length) (h40 : ∀ q, q < 18 → (qs q).length ≤ 40) {l : Nat} (hl : l < hn h) : fX3_choiceOf k S (nI l) = some ((aCho h qs l).1, S) :=
  sX3_choiceOf_8 H N Hc hs h40 hl (hG h) 5000 0 (by omega) (by have := H.2.1.2.2; omega)
