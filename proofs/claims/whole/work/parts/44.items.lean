/-! ===== headers in groups, items ===== -/
def Va (h : Nat → Int32) : Prop := h 0 = nI (hm h) ∧ hm h ≤ 6 ∧ hm h ≠ 1
def Vg (h : Nat → Int32) : Prop := (h 1 = nI (hG h) ∧ hG h ≤ 3) ∧ (∀ g, g < hG h → h (2 + g) = nI (hgo h g) ∧ hgo h g < hm h) ∧ ∀ g g', g < hG h → g' < hG h → hgo h g = hgo h g' → g = g'
def Vl (h : Nat → Int32) : Prop := (h 5 = nI (hn h) ∧ hn h ≤ 10) ∧ ∀ l, l < hn h → (h (6 + 3 * l) = nI (hfi h l) ∧ hfi h l < hm h) ∧ (h (7 + 3 * l) = nI (hse h l) ∧ hse h l < hm h) ∧ hfi h l ≠ hse h l ∧ (h (8 + 3 * l) = nI (hro h l) ∧ 1 ≤ hro h l ∧ hro h l ≤ 9)
def Vc (h : Nat → Int32) : Prop := (∀ l, l < hn h → h (36 + l) = nI (hcl h l)) ∧ (∀ a b, (hcl h a).testBit b = (hcl h b).testBit a) ∧ (∀ a, (hcl h a).testBit a = false) ∧ ∀ a, hcl h a < 2 ^ hn h
def Vf (h : Nat → Int32) : Prop := ∀ i g, i < 6 → g < 3 → (h (46 + (3 * i + g)) = nI (hfe h (3 * i + g)) ∧ hfe h (3 * i + g) ≤ 9) ∧ (¬ hq h i g → h (46 + (3 * i + g)) = 0)
def Vb (h : Nat → Int32) : Prop := (h 64 = nI (hb h) ∧ hb h ≤ 9) ∧ (h 65 = 0 ∨ h 65 = 1)
theorem HV_of {h : Nat → Int32} (a : Va h) (g : Vg h) (l : Vl h) (c : Vc h) (f : Vf h) (b : Vb h) (h2 : 2 ≤ hm h) (h1 : 1 ≤ hG h) : HV h :=
  ⟨⟨a.1, h2, a.2.1⟩, ⟨g.1.1, h1, g.1.2⟩, l.1, b.1, b.2, g.2.1, g.2.2, fun k hk => ⟨(l.2 k hk).1, (l.2 k hk).2.1, (l.2 k hk).2.2.1, (l.2 k hk).2.2.2, c.1 k hk⟩, c.2, f⟩
theorem HV.a {h : Nat → Int32} (H : HV h) : Va h := ⟨H.1.1, H.1.2.2, by have := H.1.2.1; omega⟩
theorem HV.g {h : Nat → Int32} (H : HV h) : Vg h := ⟨⟨H.2.1.1, H.2.1.2.2⟩, H.2.2.2.2.2.1, H.2.2.2.2.2.2.1⟩
theorem HV.l {h : Nat → Int32} (H : HV h) : Vl h := ⟨H.2.2.1, fun k hk => by obtain ⟨a, b, c, d, -⟩ := H.2.2.2.2.2.2.2.1 k hk; exact ⟨a, b, c, d⟩⟩
theorem HV.c {h : Nat → Int32} (H : HV h) : Vc h := ⟨fun k hk => (H.2.2.2.2.2.2.2.1 k hk).2.2.2.2, H.2.2.2.2.2.2.2.2.1⟩
theorem HV.f {h : Nat → Int32} (H : HV h) : Vf h := H.2.2.2.2.2.2.2.2.2
theorem HV.b {h : Nat → Int32} (H : HV h) : Vb h := ⟨H.2.2.2.1, H.2.2.2.2.1⟩
/-- headers that agree where a group looks -/
theorem Va.cg {h h' : Nat → Int32} (e : h' 0 = h 0) (H : Va h) : Va h' := by
  have e0 : hm h' = hm h := congrArg jN e
  unfold Va
  rw [e0, e]
  exact H
theorem Vg.cg {h h' : Nat → Int32} (e : ∀ j, j < 5 → h' j = h j) (H : Vg h) : Vg h' := by
  have e0 : hm h' = hm h := congrArg jN (e 0 (by omega))
  have e1 : hG h' = hG h := congrArg jN (e 1 (by omega))
  have eg : ∀ g, g < 3 → hgo h' g = hgo h g := fun g hg => congrArg jN (e (2 + g) (by omega))
  have h3 := H.1.2
  unfold Vg
  rw [e0, e1, e 1 (by omega)]
  refine ⟨H.1, fun g hg => ?_, fun g g' hg hg' q => ?_⟩
  · rw [e _ (by omega), eg g (by omega)]
    exact H.2.1 g hg
  · rw [eg g (by omega), eg g' (by omega)] at q
    exact H.2.2 g g' hg hg' q
theorem Vl.cg {h h' : Nat → Int32} (e0 : h' 0 = h 0) (e : ∀ j, 5 ≤ j → j < 36 → h' j = h j) (H : Vl h) : Vl h' := by
  have e0 : hm h' = hm h := congrArg jN e0
  have e1 : hn h' = hn h := congrArg jN (e 5 (by omega) (by omega))
  have h3 := H.1.2
  unfold Vl
  rw [e0, e1, e 5 (by omega) (by omega)]
  refine ⟨H.1, fun l hl => ?_⟩
  have a1 : hfi h' l = hfi h l := congrArg jN (e _ (by omega) (by omega))
  have a2 : hse h' l = hse h l := congrArg jN (e _ (by omega) (by omega))
  have a3 : hro h' l = hro h l := congrArg jN (e _ (by omega) (by omega))
  rw [a1, a2, a3, e _ (by omega) (by omega), e _ (by omega) (by omega), e _ (by omega) (by omega)]
  exact H.2 l hl
theorem hcl_cg {h h' : Nat → Int32} (h3 : hn h ≤ 10) (e5 : h' 5 = h 5) (e : ∀ j, 36 ≤ j → j < 46 → h' j = h j) : hcl h' = hcl h := by
  funext a
  have e1 : hn h' = hn h := congrArg jN e5
  unfold hcl
  rw [e1]
  by_cases c : a < hn h
  · rw [if_pos c, if_pos c, e _ (by omega) (by omega)]
  · rw [if_neg c, if_neg c]
theorem Vc.cg {h h' : Nat → Int32} (h3 : hn h ≤ 10) (e5 : h' 5 = h 5) (e : ∀ j, 36 ≤ j → j < 46 → h' j = h j) (H : Vc h) : Vc h' := by
  have e1 : hn h' = hn h := congrArg jN e5
  unfold Vc
  rw [hcl_cg h3 e5 e, e1]
  exact ⟨fun l hl => by rw [e _ (by omega) (by omega)]; exact H.1 l hl, H.2⟩
theorem Vf.cg {h h' : Nat → Int32} (h3 : hG h ≤ 3) (e0 : ∀ j, j < 5 → h' j = h j) (e : ∀ j, 46 ≤ j → j < 64 → h' j = h j) (H : Vf h) : Vf h' := by
  have a0 : hm h' = hm h := congrArg jN (e0 0 (by omega))
  have a1 : hG h' = hG h := congrArg jN (e0 1 (by omega))
  intro i g hi hg
  have eg : hgo h' g = hgo h g := congrArg jN (e0 (2 + g) (by omega))
  have ef : hfe h' (3 * i + g) = hfe h (3 * i + g) := congrArg jN (e _ (by omega) (by omega))
  have hq' : hq h' i g ↔ hq h i g := by unfold hq; rw [a0, a1, eg]
  rw [e _ (by omega) (by omega), ef]
  exact ⟨(H i g hi hg).1, fun q => (H i g hi hg).2 (fun q' => q (hq'.mpr q'))⟩
theorem Vb.cg {h h' : Nat → Int32} (e4 : h' 64 = h 64) (e5 : h' 65 = h 65) (H : Vb h) : Vb h' := by
  have a1 : hb h' = hb h := congrArg jN e4
  unfold Vb
  rw [a1, e4, e5]
  exact H
/-- what the text has told so far -/
def TV (h : Nat → Int32) : Prop := Va h ∧ Vg h ∧ Vl h ∧ Vc h ∧ Vf h ∧ Vb h ∧ (∀ l, hn h ≤ l → l < 10 → h (36 + l) = 0) ∧ ∀ j, 66 ≤ j → j < 815 → h j = 0
theorem TV.hv {h : Nat → Int32} (H : TV h) (h1 : 1 ≤ hG h) : HV h := by
  obtain ⟨a, g, l, c, f, b, -⟩ := H
  have := (g.2.1 0 h1).2
  have := a.2.2
  exact HV_of a g l c f b (by omega) h1
/-- two rows of clashes -/
def tC (h : Nat → Int32) (u v x y : Nat) : Nat → Int32 := upd (upd h (36 + u) (nI x)) (36 + v) (nI y)
theorem Vc.clash {h : Nat → Int32} (h3 : hn h ≤ 10) (H : Vc h) {u v x y : Nat} {β : Bool} (hu : u < hn h) (hv : v < hn h) (huv : u ≠ v) (hx : ∀ b, x.testBit b = if b = v then β else (hcl h u).testBit b) (hy : ∀ b, y.testBit b = if b = u then β else (hcl h v).testBit b) : Vc (tC h u v x y) ∧ hcl (tC h u v x y) u = x ∧ hcl (tC h u v x y) v = y ∧ ∀ a, a ≠ u → a ≠ v → hcl (tC h u v x y) a = hcl h a := by
  have lt : ∀ z w q : Nat, w < hn h → (∀ b, z.testBit b = if b = w then β else (hcl h q).testBit b) → z < 2 ^ hn h := by
    intro z w q hw hz
    apply Nat.lt_pow_two_of_testBit
    intro i hi
    rw [hz, if_neg (by omega)]
    exact Nat.testBit_lt_two_pow (Nat.lt_of_lt_of_le (H.2.2.2 q) (Nat.pow_le_pow_right (by omega) hi))
  have hx' := lt x v u hv hx
  have hy' := lt y u v hu hy
  have p10 : 2 ^ hn h ≤ 2 ^ 10 := Nat.pow_le_pow_right (by omega) h3
  have en : hn (tC h u v x y) = hn h := by
    refine congrArg jN ?_
    unfold tC
    rw [pk_un (by omega), pk_un (by omega)]
  have eu : hcl (tC h u v x y) u = x := by
    unfold hcl
    rw [en, if_pos hu]
    unfold tC
    rw [pk_un (by omega), pk_us, jN_nI (by omega)]
  have ev : hcl (tC h u v x y) v = y := by
    unfold hcl
    rw [en, if_pos hv]
    unfold tC
    rw [pk_us, jN_nI (by omega)]
  have eo : ∀ a, a ≠ u → a ≠ v → hcl (tC h u v x y) a = hcl h a := by
    intro a h1 h2
    unfold hcl
    rw [en]
    unfold tC
    rw [pk_un (by omega), pk_un (by omega)]
  refine ⟨⟨fun l hl => ?_, fun a b => ?_, fun a => ?_, fun a => ?_⟩, eu, ev, eo⟩
  · rw [en] at hl
    by_cases c1 : l = v
    · subst c1
      rw [ev]
      exact pk_us
    · by_cases c2 : l = u
      · subst c2
        rw [eu]
        unfold tC
        rw [pk_un (by omega), pk_us]
      · rw [eo l c2 c1]
        unfold tC
        rw [pk_un (by omega), pk_un (by omega)]
        exact H.1 l hl
  · have key : ∀ a b, (hcl (tC h u v x y) a).testBit b = if (a = u ∧ b = v) ∨ (a = v ∧ b = u) then β else (hcl h a).testBit b := by
      intro a b
      by_cases c1 : a = u
      · subst c1
        rw [eu, hx]
        by_cases c2 : b = v
        · rw [if_pos c2, if_pos (Or.inl ⟨rfl, c2⟩)]
        · rw [if_neg c2, if_neg (by omega)]
      · by_cases c2 : a = v
        · subst c2
          rw [ev, hy]
          by_cases c3 : b = u
          · rw [if_pos c3, if_pos (Or.inr ⟨rfl, c3⟩)]
          · rw [if_neg c3, if_neg (by omega)]
        · rw [eo a c1 c2, if_neg (by omega)]
    rw [key, key]
    by_cases c : (a = u ∧ b = v) ∨ (a = v ∧ b = u)
    · rw [if_pos c, if_pos (by omega)]
    · rw [if_neg c, if_neg (by omega)]
      exact H.2.1 a b
  · by_cases c1 : a = u
    · subst c1
      rw [eu, hx, if_neg huv]
      exact H.2.2.1 a
    · by_cases c2 : a = v
      · subst c2
        rw [ev, hy, if_neg c1]
        exact H.2.2.1 a
      · rw [eo a c1 c2]
        exact H.2.2.1 a
  · rw [en]
    by_cases c1 : a = u
    · subst c1; rw [eu]; exact hx'
    · by_cases c2 : a = v
      · subst c2; rw [ev]; exact hy'
      · rw [eo a c1 c2]; exact H.2.2.2 a
/-- how many numbers an item has -/
def tW (c : Int32) : Nat := if c = 98 then 1 else if c = 102 then 3 else if c = 103 then 1 else if c = 108 then 3 else if c = 110 then 1 else if c = 111 then 1 else if c = 120 then 2 else 0
/-- a goal, a link more -/
def tG (h : Nat → Int32) (u : Nat) : Nat → Int32 := upd (upd h (2 + hG h) (nI u)) 1 (nI (hG h + 1))
def tL (h : Nat → Int32) (u v w : Nat) : Nat → Int32 := upd (upd (upd (upd h (6 + 3 * hn h) (nI u)) (6 + 3 * hn h + 1) (nI v)) (6 + 3 * hn h + 2) (nI w)) 5 (nI (hn h + 1))
/-- an item is told: the header behind it -/
def tI (h : Nat → Int32) (c : Int32) (u v w : Nat) : Option (Nat → Int32) :=
  if c = 110 then (if hm h = 0 ∧ 2 ≤ u ∧ u ≤ 6 then some (upd h 0 (nI u)) else none)
  else if hm h = 0 then none
  else if c = 98 then (if u ≤ 9 then some (upd h 64 (nI u)) else none)
  else if c = 102 then (if u < hm h ∧ v < hG h ∧ hgo h v ≠ u ∧ w ≤ 9 then some (upd h (46 + (3 * u + v)) (nI w)) else none)
  else if c = 103 then (if u < hm h ∧ hG h < 3 ∧ ∀ g, g < hG h → hgo h g ≠ u then some (tG h u) else none)
  else if c = 108 then (if u < hm h ∧ v < hm h ∧ u ≠ v ∧ (1 ≤ w ∧ w ≤ 9) ∧ hn h < 10 then some (tL h u v w) else none)
  else if c = 111 then (if u ≤ 1 then some (upd h 65 (nI u)) else none)
  else if c = 120 then (if u < hn h ∧ v < hn h ∧ u ≠ v then some (tC h u v (hcl h u ||| 2 ^ v) (hcl h v ||| 2 ^ u)) else none)
  else none
