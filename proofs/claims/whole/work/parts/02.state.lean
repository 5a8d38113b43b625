/-! ===== names of cells, states, pictures ===== -/
abbrev jR : Type := Nat × Nat
abbrev jS : Type := (jR → Int32) × (jR → Nat → Int32)
def jup {α : Type} (f : jR → α) (a : jR) (v : α) : jR → α := fun b => if b = a then v else f b
theorem jup_self {α : Type} (f : jR → α) (a : jR) (v : α) : jup f a v a = v := by simp [jup]
theorem jup_ne {α : Type} (f : jR → α) {a b : jR} (v : α) (h : b ≠ a) : jup f a v b = f b := by simp [jup, h]
/-- addresses; the classes of int[], char[], boolean[], World[]; the classes' numbers and slots; the cells that are there; the script -/
abbrev jE : Type := (jR → Nat) × (ClassId × ClassId × ClassId × ClassId) × va_G × List jR × (Nat × Nat × (Nat → Int32))
abbrev jCI (E : jE) : ClassId := E.2.1.1
abbrev jCC (E : jE) : ClassId := E.2.1.2.1
abbrev jCZ (E : jE) : ClassId := E.2.1.2.2.1
abbrev jCO (E : jE) : ClassId := E.2.1.2.2.2
abbrev jG (E : jE) : va_G := E.2.2.1
abbrev jL (E : jE) : List jR := E.2.2.2.1
abbrev jX (E : jE) : Nat × Nat × (Nat → Int32) := E.2.2.2.2
def jlen (k : Nat) : Nat := match k with

  | 10 => 200
  | 11 => 3
  | 20 => 3
  | 21 => 10
  | 22 => 10
  | 23 => 10
  | 24 => 10
  | 25 => 18
  | 26 => 18
  | 30 => 3
  | 31 => 3
  | 32 => 3
  | 33 => 18
  | 34 => 720
  | 35 => 18
  | 40 => 10
  | 41 => 10
  | 42 => 18
  | 43 => 10
  | 44 => 90
  | 50 => 815
  | 51 => 815
  | 52 => 3260
  | 53 => 200
  | 54 => 815
  | 55 => 3
  | 56 => 18
  | 57 => 10
  | 58 => 10
  | 59 => 1024
  | 60 => 1024
  | 61 => 90
  | 62 => 90
  | 63 => 90
  | 64 => 18
  | _ => 0
def jcy (E : jE) (k : Nat) : ClassId := if k = 10 then jCC E else if k = 60 then jCZ E else jCI E
def jty (k : Nat) : FieldType := if k = 10 then .char else if k = 60 then .boolean else .int
def jenc (E : jE) (S : jS) (r : jR) : va_E := match r.1 with
  | 0 => .inr (7, [.ref (E.1 (1, 0)), .ref (E.1 (2, 0)), .ref (E.1 (2, 1)), .ref (E.1 (5, 0)), .ref (E.1 (7, 0)), .ref (E.1 (8, 0))])
  | 1 => .inr (5, [.int (S.1 (0, r.2)), .ref (E.1 (10, 0)), .ref (E.1 (11, 0))])
  | 2 => .inr (6, [.ref (E.1 (3, r.2)), .ref (E.1 (4, r.2))])
  | 3 => .inr (2, [.int (S.1 (1, r.2)), .int (S.1 (2, r.2)), .int (S.1 (3, r.2)), .int (S.1 (4, r.2)), .int (S.1 (5, r.2)), .ref (E.1 (20, r.2)), .ref (E.1 (21, r.2)), .ref (E.1 (22, r.2)), .ref (E.1 (23, r.2)), .ref (E.1 (24, r.2)), .ref (E.1 (25, r.2)), .ref (E.1 (26, r.2))])
  | 4 => .inr (4, [.int (S.1 (6, r.2)), .int (S.1 (7, r.2)), .ref (E.1 (30, r.2)), .ref (E.1 (31, r.2)), .ref (E.1 (32, r.2)), .ref (E.1 (33, r.2)), .ref (E.1 (34, r.2)), .ref (E.1 (35, r.2))])
  | 5 => .inr (0, [.int (S.1 (8, r.2)), .int (S.1 (9, r.2)), .ref (E.1 (6, 0))])
  | 6 => .inl (jCO E, 4, .inr (.inr (.inr (.inr (fun i => some (E.1 (2, i + 2)))))))
  | 7 => .inr (3, [.int (S.1 (10, r.2)), .int (S.1 (11, r.2)), .ref (E.1 (40, r.2)), .ref (E.1 (41, r.2))])
  | 8 => .inr (1, [.ref (E.1 (42, 0)), .ref (E.1 (7, 1)), .ref (E.1 (43, 0)), .ref (E.1 (44, 0))])
  | 9 => .inr (8, [.ref (E.1 (50, 0)), .ref (E.1 (51, 0)), .ref (E.1 (52, 0)), .int (S.1 (12, r.2)), .ref (E.1 (53, 0)), .int (S.1 (13, r.2)), .ref (E.1 (54, 0)), .int (S.1 (14, r.2)), .ref (E.1 (55, 0)), .ref (E.1 (56, 0)), .ref (E.1 (57, 0)), .ref (E.1 (58, 0)), .ref (E.1 (59, 0)), .ref (E.1 (60, 0)), .int (S.1 (15, r.2)), .int (S.1 (16, r.2)), .ref (E.1 (61, 0)), .ref (E.1 (62, 0)), .ref (E.1 (63, 0)), .ref (E.1 (64, 0))])
  | k => .inl (jcy E k, jlen k, .inl (S.2 r))
theorem jenc_arr (E : jE) (S : jS) (r : jR) (h : 10 ≤ r.1) : jenc E S r = .inl (jcy E r.1, jlen r.1, .inl (S.2 r)) := by
  obtain ⟨k, i⟩ := r
  obtain ⟨j, rfl⟩ : ∃ j, k = j + 10 := ⟨k - 10, by simp at h; omega⟩
  rfl
def jtys (E : jE) : List (ClassId × FieldType) := [(jCI E, .int), (jCC E, .char), (jCZ E, .boolean), (jCO E, .object "DropQueues$World")]
def jws (E : jE) (S : jS) : va_W := (jL E).map (fun r => (E.1 r, jenc E S r))
theorem jws_get {E : jE} {S : jS} {r : jR} (h : r ∈ jL E) : ∃ q : Nat, (jws E S)[q]? = some (E.1 r, jenc E S r) :=
  List.getElem?_of_mem (List.mem_map.mpr ⟨r, h, rfl⟩)
theorem jws_at {E : jE} {S : jS} {q : Nat} {x : Nat × va_E} (h : (jws E S)[q]? = some x) : ∃ r : jR, (jL E)[q]? = some r ∧ x = (E.1 r, jenc E S r) := by
  simp only [jws, List.getElem?_map, Option.map_eq_some_iff] at h
  obtain ⟨r, h1, h2⟩ := h
  exact ⟨r, h1, h2.symm⟩
theorem jD_any {E : jE} {S S1 : jS} {A : Nat → Prop} (h : va_D A (jws E S)) : va_D A (jws E S1) := by
  have tr : ∀ (q : Nat) (x : Nat × va_E), (jws E S1)[q]? = some x → ∃ y : Nat × va_E, (jws E S)[q]? = some y ∧ y.1 = x.1 := by
    intro q x hx
    obtain ⟨r, h1, rfl⟩ := jws_at hx
    exact ⟨(E.1 r, jenc E S r), by simp [jws, h1], rfl⟩
  refine ⟨fun i j p q hp hq he => ?_, fun k q hq => ?_⟩
  · obtain ⟨p', hp', e1⟩ := tr i p hp
    obtain ⟨q', hq', e2⟩ := tr j q hq
    exact h.1 i j p' q' hp' hq' (by rw [e1, e2]; exact he)
  · obtain ⟨q', hq', e2⟩ := tr k q hq
    rw [← e2]
    exact h.2 k q' hq'
theorem jws_set {E : jE} {S S1 : jS} {A : Nat → Prop} {r : jR} {e : va_E} {q : Nat} (hD : va_D A (jws E S)) (hq : (jws E S)[q]? = some (E.1 r, jenc E S r)) (hr : (jL E)[q]? = some r) (he : ∀ b, jenc E S1 b = if b = r then e else jenc E S b) : (jws E S).set q (E.1 r, e) = jws E S1 := by
  have hl := (List.getElem?_eq_some_iff.mp hq).1
  apply List.ext_getElem?
  intro j
  by_cases hj : j = q
  · subst hj
    rw [List.getElem?_set_self hl]
    simp [jws, hr, he]
  · rw [List.getElem?_set_ne (Ne.symm hj)]
    cases hb : (jL E)[j]? with
    | none => simp [jws, hb]
    | some b =>
      have hbr : b ≠ r := by
        intro hbr
        subst hbr
        exact hj (hD.1 j q (E.1 b, jenc E S b) _ (by simp [jws, hb]) hq rfl)
      simp [jws, hb, he, hbr]
theorem jws_get2 {E : jE} {S : jS} {r : jR} (h : r ∈ jL E) : ∃ q : Nat, (jws E S)[q]? = some (E.1 r, jenc E S r) ∧ (jL E)[q]? = some r := by
  obtain ⟨q, hq⟩ := List.getElem?_of_mem h
  exact ⟨q, by simp [jws, hq], hq⟩
/-- an array's contents change -/
abbrev jput (S : jS) (a : jR) (f : Nat → Int32) : jS := (S.1, jup S.2 a f)
theorem jput_enc {E : jE} {S : jS} {a : jR} {f : Nat → Int32} (h : 10 ≤ a.1) (b : jR) : jenc E (jput S a f) b = if b = a then .inl (jcy E a.1, jlen a.1, .inl f) else jenc E S b := by
  by_cases hb : b = a
  · subst hb
    rw [if_pos rfl, jenc_arr _ _ _ h]
    simp [jup]
  · rw [if_neg hb]
    obtain ⟨k, i⟩ := b
    by_cases hk : 10 ≤ k
    · rw [jenc_arr _ _ _ hk, jenc_arr _ _ _ hk]
      simp [jup, hb]
    · match k, hk with
      | 0, _ => rfl
      | 1, _ => rfl
      | 2, _ => rfl
      | 3, _ => rfl
      | 4, _ => rfl
      | 5, _ => rfl
      | 6, _ => rfl
      | 7, _ => rfl
      | 8, _ => rfl
      | 9, _ => rfl
      | n + 10, h => exact absurd (Nat.le_add_left 10 n) h
abbrev jset (S : jS) (a : jR) (v : Int32) : jS := (jup S.1 a v, S.2)

/-- a field's value in a list, set -/
def jfs (e : va_E) (k : Nat) (v : Value) : va_E := match e with
  | .inr (c, fs) => .inr (c, fs.set k v)
  | x => x
/-- the scalar with code a lives in the object r at slot k -/
def jhome (a : jR) : jR × Nat := match a.1 with
  | 0 => ((1, a.2), 0)
  | 1 => ((3, a.2), 0)
  | 2 => ((3, a.2), 1)
  | 3 => ((3, a.2), 2)
  | 4 => ((3, a.2), 3)
  | 5 => ((3, a.2), 4)
  | 6 => ((4, a.2), 0)
  | 7 => ((4, a.2), 1)
  | 8 => ((5, a.2), 0)
  | 9 => ((5, a.2), 1)
  | 10 => ((7, a.2), 0)
  | 11 => ((7, a.2), 1)
  | 12 => ((9, a.2), 3)
  | 13 => ((9, a.2), 5)
  | 14 => ((9, a.2), 7)
  | 15 => ((9, a.2), 14)
  | 16 => ((9, a.2), 15)
  | _ => ((99, 0), 0)
theorem jset_enc {E : jE} {S : jS} {a : jR} {v : Int32} (h : a.1 < 17) (b : jR) : jenc E (jset S a v) b = if b = (jhome a).1 then jfs (jenc E S b) (jhome a).2 (.int v) else jenc E S b := by
  obtain ⟨c, i⟩ := a
  obtain ⟨k, j⟩ := b
  have h : c < 17 := h
  rcases (show c = 0 ∨ c = 1 ∨ c = 2 ∨ c = 3 ∨ c = 4 ∨ c = 5 ∨ c = 6 ∨ c = 7 ∨ c = 8 ∨ c = 9 ∨ c = 10 ∨ c = 11 ∨ c = 12 ∨ c = 13 ∨ c = 14 ∨ c = 15 ∨ c = 16 by omega) with rfl | rfl | rfl | rfl | rfl | rfl | rfl | rfl | rfl | rfl | rfl | rfl | rfl | rfl | rfl | rfl | rfl
  all_goals
    by_cases hk : 10 ≤ k
    · split
      · next h9 => simp [jhome] at h9; omega
      · rw [jenc_arr _ _ _ hk, jenc_arr _ _ _ hk]
    · rcases (show k = 0 ∨ k = 1 ∨ k = 2 ∨ k = 3 ∨ k = 4 ∨ k = 5 ∨ k = 6 ∨ k = 7 ∨ k = 8 ∨ k = 9 by omega) with rfl | rfl | rfl | rfl | rfl | rfl | rfl | rfl | rfl | rfl
      all_goals
        first
        | (simp [jenc, jset, jup, jhome, jfs]; done)
        | (by_cases hj : j = i
           · subst hj; simp [jenc, jset, jup, jhome, jfs]
           · simp [jenc, jset, jup, jhome, jfs, hj])
