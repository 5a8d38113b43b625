/-! ===== the same FAULT ===== -/
theorem sX8_begins_2 : ∀ (d fu i : Nat) (S : jS), i + d = 815 → d < fu → fX8_begins_2 fu S (nI i) = some (jput S (54, 0) (fun j => if i ≤ j ∧ j < 815 then 0 else S.2 (54, 0) j)) := by
  intro d
  induction d with
  | zero =>
    intro fu i S hi hfu
    obtain ⟨fu, rfl⟩ : ∃ m, fu = m + 1 := ⟨fu - 1, by omega⟩
    show bX8_begins_2 (fX8_begins_2 fu) S (nI i) = _
    unfold bX8_begins_2
    rw [if_pos ((le815 (by omega)).mpr (by omega))]
    have : (fun j => if i ≤ j ∧ j < 815 then 0 else S.2 (54, 0) j) = S.2 (54, 0) := by
      funext j
      rw [if_neg (by omega)]
    rw [this, jput_self]
  | succ d ih =>
    intro fu i S hi hfu
    obtain ⟨fu, rfl⟩ : ∃ m, fu = m + 1 := ⟨fu - 1, by omega⟩
    show bX8_begins_2 (fX8_begins_2 fu) S (nI i) = _
    unfold bX8_begins_2
    rw [if_neg (fun h => by have := (le815 (by omega)).mp h; omega)]
    have i1 : jIn (nI i) 815 := jIn_lit (by omega) (by omega)
    simp only [if_pos i1, nI_clamp (show i < 2 ^ 31 by omega)]
    unfold jlet
    dsimp only
    rw [nI_1, ih fu (i + 1) _ (by omega) (by omega), jput_put, jput_at]
    refine congrArg (fun G => some (jput S (54, 0) G)) ?_
    funext j
    unfold upd
    by_cases e : j = i
    · subst e
      rw [if_neg (by omega), if_pos rfl, if_pos (by omega)]
    · rw [if_neg e]
      by_cases c : i + 1 ≤ j ∧ j < 815
      · rw [if_pos c, if_pos (by omega)]
      · rw [if_neg c, if_neg (by omega)]
theorem sX8_begins (S : jS) : fX8_begins S = some (jput S (54, 0) (fun j => if j < 815 then 0 else S.2 (54, 0) j)) := by
  unfold fX8_begins
  rw [show (0 : Int32) = nI 0 from rfl, sX8_begins_2 815 5000 0 S (by omega) (by omega)]
  refine congrArg (fun G => some (jput S (54, 0) G)) ?_
  funext j
  by_cases c : j < 815
  · rw [if_pos c, if_pos ⟨by omega, c⟩]
    rfl
  · rw [if_neg c, if_neg (by omega)]
theorem sX8_takes_2 : ∀ (d fu i : Nat) (S : jS), i + d = 815 → d < fu → fX8_takes_2 fu S (nI i) = some (jset (jput S (50, 0) (fun j => if i ≤ j ∧ j < 815 then S.2 (54, 0) j else S.2 (50, 0) j)) (12, 0) 0) := by
  intro d
  induction d with
  | zero =>
    intro fu i S hi hfu
    obtain ⟨fu, rfl⟩ : ∃ m, fu = m + 1 := ⟨fu - 1, by omega⟩
    show bX8_takes_2 (fX8_takes_2 fu) S (nI i) = _
    unfold bX8_takes_2 jlet
    rw [if_pos ((le815 (by omega)).mpr (by omega))]
    have : (fun j => if i ≤ j ∧ j < 815 then S.2 (54, 0) j else S.2 (50, 0) j) = S.2 (50, 0) := by
      funext j
      rw [if_neg (by omega)]
    rw [this, jput_self]
  | succ d ih =>
    intro fu i S hi hfu
    obtain ⟨fu, rfl⟩ : ∃ m, fu = m + 1 := ⟨fu - 1, by omega⟩
    show bX8_takes_2 (fX8_takes_2 fu) S (nI i) = _
    unfold bX8_takes_2
    rw [if_neg (fun h => by have := (le815 (by omega)).mp h; omega)]
    have i1 : jIn (nI i) 815 := jIn_lit (by omega) (by omega)
    simp only [if_pos i1, nI_clamp (show i < 2 ^ 31 by omega)]
    unfold jlet
    dsimp only
    rw [nI_1, ih fu (i + 1) _ (by omega) (by omega), jput_put, jput_at, jput_o (b := (54, 0)) (by simp)]
    refine congrArg (fun G => some (jset (jput S (50, 0) G) (12, 0) 0)) ?_
    funext j
    unfold upd
    by_cases e : j = i
    · subst e
      rw [if_neg (by omega), if_pos rfl, if_pos (by omega)]
    · rw [if_neg e]
      by_cases c : i + 1 ≤ j ∧ j < 815
      · rw [if_pos c, if_pos (by omega)]
      · rw [if_neg c, if_neg (by omega)]
theorem sX8_takes (S : jS) : fX8_takes S = some (jset (jput S (50, 0) (fun j => if j < 815 then S.2 (54, 0) j else S.2 (50, 0) j)) (12, 0) 0) := by
  unfold fX8_takes
  rw [show (0 : Int32) = nI 0 from rfl, sX8_takes_2 815 5000 0 S (by omega) (by omega)]
  refine congrArg (fun G => some (jset (jput S (50, 0) G) (12, 0) 0)) ?_
  funext j
  by_cases c : j < 815
  · rw [if_pos c, if_pos ⟨by omega, c⟩]
  · rw [if_neg c, if_neg (by omega)]
/-- texts that agree -/
theorem tDig_cg {T T' : Nat → Int32} {n : Nat} (e : ∀ j, j < n → T j = T' j) {k : Nat} : tDig T n k ↔ tDig T' n k := by
  constructor
  · rintro ⟨a, b, c⟩; exact ⟨a, by rw [← e k a]; exact b, by rw [← e k a]; exact c⟩
  · rintro ⟨a, b, c⟩; exact ⟨a, by rw [e k a]; exact b, by rw [e k a]; exact c⟩
theorem tNum_cg {T T' : Nat → Int32} {n : Nat} (e : ∀ j, j < n → T j = T' j) {k v k' : Nat} (h : tNum T n k v k') : tNum T' n k v k' := by
  obtain ⟨a, h⟩ := h
  have ek := e k a.1
  refine ⟨(tDig_cg e).mp a, ?_⟩
  rcases h with ⟨b, c, d⟩ | ⟨b, c, d⟩
  · rw [ek, e (k + 1) b.1] at d
    exact Or.inl ⟨(tDig_cg e).mp b, c, d⟩
  · rw [ek] at d
    exact Or.inr ⟨fun q => b ((tDig_cg e).mpr q), c, d⟩
theorem tNs_cg {T T' : Nat → Int32} {n : Nat} (e : ∀ j, j < n → T j = T' j) : ∀ {w k : Nat} {L : List Nat} {x : Nat}, tNs T n w k L x → tNs T' n w k L x
  | 0, _, _, _, h => h
  | w + 1, k, L, x, ⟨v, k', h1, h2, h3⟩ => by
    refine ⟨v, k', tNum_cg e h1, h2, ?_⟩
    rw [← e k' h2]
    rcases h3 with h3 | ⟨a, b, L', c, d⟩
    · exact Or.inl h3
    · exact Or.inr ⟨a, b, L', c, tNs_cg e d⟩
theorem tIt_cg {T T' : Nat → Int32} {n k : Nat} {h h' : Nat → Int32} {x : Nat} (e : ∀ j, j < n → T j = T' j) (hk : k < n) (a : tIt T n k h h' x) : tIt T' n k h h' x := by
  obtain ⟨L, a1, a2⟩ := a
  rw [e k hk] at a1 a2
  exact ⟨L, tNs_cg e a1, a2⟩
theorem tRd_cg {T T' : Nat → Int32} {n : Nat} (e : ∀ j, j < n → T j = T' j) : ∀ (f k : Nat) (h h' : Nat → Int32) (r : Int32), tRd T n f k h r h' → tRd T' n f k h r h'
  | 0, _, _, _, _, a => a
  | f + 1, k, h, h', r, a => by
    rcases a with a | ⟨a1, a2, a3⟩ | ⟨a1, h1, e1, a2, a3⟩
    · exact Or.inl a
    · exact Or.inr (Or.inl ⟨a1, fun h1 e1 q => a2 h1 e1 (tIt_cg (fun j hj => (e j hj).symm) a1 q), a3⟩)
    · exact Or.inr (Or.inr ⟨a1, h1, e1, tIt_cg e a1 a2, tRd_cg e f e1 h1 h' r a3⟩)
/-- a row, cut off -/
def cut (h : Nat → Int32) : Nat → Int32 := fun j => if j < 815 then h j else 0
theorem cut_at {h : Nat → Int32} {j : Nat} (hj : j < 815) : cut h j = h j := if_pos hj
theorem cut_upd {h : Nat → Int32} {k : Nat} {x : Int32} (hk : k < 815) : cut (upd h k x) = upd (cut h) k x := by
  funext j
  unfold cut upd
  by_cases c : j = k
  · rw [if_pos c, if_pos (by omega), if_pos c]
  · rw [if_neg c, if_neg c]
theorem tI_cut {h : Nat → Int32} (H : TV h) {c : Int32} {u v w : Nat} : tI (cut h) c u v w = (tI h c u v w).map cut := by
  have e0 : hm (cut h) = hm h := rfl
  have e1 : hG (cut h) = hG h := rfl
  have e5 : hn (cut h) = hn h := rfl
  have h3 := H.2.1.1.2
  have h6 := H.1.2.1
  have h10 := H.2.2.1.1.2
  have eg : ∀ g, g < 4 → hgo (cut h) g = hgo h g := fun g hg => congrArg jN (cut_at (by omega))
  have ec : ∀ a, a < hn h → hcl (cut h) a = hcl h a := fun a ha => by
    unfold hcl
    rw [e5, cut_at (by omega)]
  unfold tI
  rw [e0, e1, e5]
  by_cases c1 : c = 110
  · rw [if_pos c1, if_pos c1]
    by_cases q : hm h = 0 ∧ 2 ≤ u ∧ u ≤ 6
    · rw [if_pos q, if_pos q, Option.map_some, cut_upd (by omega)]
    · rw [if_neg q, if_neg q]; rfl
  rw [if_neg c1, if_neg c1]
  by_cases c2 : hm h = 0
  · rw [if_pos c2, if_pos c2]; rfl
  rw [if_neg c2, if_neg c2]
  by_cases c3 : c = 98
  · rw [if_pos c3, if_pos c3]
    by_cases q : u ≤ 9
    · rw [if_pos q, if_pos q, Option.map_some, cut_upd (by omega)]
    · rw [if_neg q, if_neg q]; rfl
  rw [if_neg c3, if_neg c3]
  by_cases c4 : c = 102
  · rw [if_pos c4, if_pos c4]
    by_cases q : u < hm h ∧ v < hG h ∧ hgo h v ≠ u ∧ w ≤ 9
    · rw [if_pos q, if_pos (by rw [eg v (by omega)]; exact q), Option.map_some, cut_upd (by omega)]
    · rw [if_neg q, if_neg (fun q' => q ⟨q'.1, q'.2.1, by rw [← eg v (by omega)]; exact q'.2.2.1, q'.2.2.2⟩)]; rfl
  rw [if_neg c4, if_neg c4]
  by_cases c5 : c = 103
  · rw [if_pos c5, if_pos c5]
    by_cases q : u < hm h ∧ hG h < 3 ∧ ∀ g, g < hG h → hgo h g ≠ u
    · rw [if_pos q, if_pos ⟨q.1, q.2.1, fun g hg => by rw [eg g (by omega)]; exact q.2.2 g hg⟩, Option.map_some]
      unfold tG
      rw [cut_upd (by omega), cut_upd (by omega), e1]
    · rw [if_neg q, if_neg (fun q' => q ⟨q'.1, q'.2.1, fun g hg => by rw [← eg g (by omega)]; exact q'.2.2 g hg⟩)]; rfl
  rw [if_neg c5, if_neg c5]
  by_cases c6 : c = 108
  · rw [if_pos c6, if_pos c6]
    by_cases q : u < hm h ∧ v < hm h ∧ u ≠ v ∧ (1 ≤ w ∧ w ≤ 9) ∧ hn h < 10
    · rw [if_pos q, if_pos q, Option.map_some]
      unfold tL
      rw [cut_upd (by omega), cut_upd (by omega), cut_upd (by omega), cut_upd (by omega), e5]
    · rw [if_neg q, if_neg q]; rfl
  rw [if_neg c6, if_neg c6]
  by_cases c7 : c = 111
  · rw [if_pos c7, if_pos c7]
    by_cases q : u ≤ 1
    · rw [if_pos q, if_pos q, Option.map_some, cut_upd (by omega)]
    · rw [if_neg q, if_neg q]; rfl
  rw [if_neg c7, if_neg c7]
  by_cases c8 : c = 120
  · rw [if_pos c8, if_pos c8]
    by_cases q : u < hn h ∧ v < hn h ∧ u ≠ v
    · rw [if_pos q, if_pos q, Option.map_some, ec u q.1, ec v q.2.1]
      unfold tC
      rw [cut_upd (by omega), cut_upd (by omega)]
    · rw [if_neg q, if_neg q]; rfl
  rw [if_neg c8, if_neg c8]
  rfl
theorem tRd_cut {T : Nat → Int32} {n : Nat} : ∀ (f k : Nat) (h h' : Nat → Int32) (r : Int32), TV h → tRd T n f k h r h' → tRd T n f k (cut h) r (cut h')
  | 0, _, _, _, _, _, a => a
  | f + 1, k, h, h', r, H, a => by
    rcases a with ⟨a1, a2, rfl⟩ | ⟨a1, a2, a3⟩ | ⟨a1, h1, e1, ⟨L, a2, a3⟩, a4⟩
    · exact Or.inl ⟨a1, a2, rfl⟩
    · refine Or.inr (Or.inl ⟨a1, fun h1 e1 q => ?_, a3⟩)
      obtain ⟨L, q1', q2'⟩ := q
      rw [tI_cut H] at q2'
      cases q3 : tI h (T k) (L.getD 0 0) (L.getD 1 0) (L.getD 2 0) with
      | none => rw [q3] at q2'; cases q2'
      | some h2 => exact a2 h2 e1 ⟨L, q1', q3⟩
    · refine Or.inr (Or.inr ⟨a1, cut h1, e1, ⟨L, a2, ?_⟩, tRd_cut f e1 h1 h' r (tI_TV H a3) a4⟩)
      rw [tI_cut H, a3]
      rfl
theorem TV_begin {g : Nat → Int32} : TV (fun j => if j < 815 then 0 else g j) := by
  obtain ⟨a, b, c, d, e, f, x, y⟩ := TV_zero
  have E : ∀ j, j < 815 → (fun j => if j < 815 then (0 : Int32) else g j) j = (fun _ : Nat => (0 : Int32)) j := fun j hj => if_pos hj
  exact ⟨a.cg (E 0 (by omega)), b.cg (fun j _ => E j (by omega)), c.cg (E 0 (by omega)) (fun j _ _ => E j (by omega)), d.cg c.1.2 (E 5 (by omega)) (fun j _ _ => E j (by omega)), e.cg b.1.2 (fun j _ => E j (by omega)) (fun j _ _ => E j (by omega)), f.cg (E 64 (by omega)) (E 65 (by omega)), cz_cg (E 5 (by omega)) (fun j _ _ => E j (by omega)) x, fun j h1 h2 => if_pos h2⟩
theorem sX8_reads {T : Nat → Int32} {n : Nat} {S : jS} (h200 : n ≤ 200) (hT : S.2 (53, 0) = T) (hn : S.1 (13, 0) = nI n) : ∃ r S' h', fX8_reads S = some (r, S') ∧ jFr g14 g545 S S' ∧ tRd T n 201 0 (fun _ => 0) r h' ∧ (r = -4 → cut (S'.2 (54, 0)) = h') := by
  unfold fX8_reads jlet
  rw [sX8_begins, Option.bind_some]
  obtain ⟨r, S2, h2, b1, b2, b3, b4⟩ := sX8_reads_9 h200 201 5000 0 (fun j => if j < 815 then 0 else S.2 (54, 0) j) (jset (jput S (54, 0) (fun j => if j < 815 then 0 else S.2 (54, 0) j)) (14, 0) 0) (by omega) (by omega) (by omega) TV_begin jsp_at ⟨hT, hn, rfl⟩
  refine ⟨r, S2, cut h2, b1, ((jFr.put rfl).tr (jFr.set rfl)).tr b2, ?_, fun q => by rw [b4 q]⟩
  have := tRd_cut 201 0 _ h2 r TV_begin b3
  have e : cut (fun j => if j < 815 then 0 else S.2 (54, 0) j) = fun _ => 0 := by
    funext j
    unfold cut
    by_cases c : j < 815
    · rw [if_pos c]
      exact if_pos c
    · rw [if_neg c]
  rw [e] at this
  exact this
