/-! ===== a slot, abstractly ===== -/
abbrev aW : Type := (Nat → Int32) × (Nat → List Int32)
def lTk (law : Int32) (L : List Int32) : Int32 × List Int32 := if law = 1 then (L.getLastD 0, L.dropLast) else (L.headD 0, L.tail)
def aTk (law : Int32) : Nat → List Int32 → List Int32 × List Int32
  | 0, L => ([], L)
  | n + 1, L => if L.length = 0 then ([], L) else ((lTk law L).1 :: (aTk law n (lTk law L).2).1, (aTk law n (lTk law L).2).2)
def aAdd (A : aW) (q : Nat) (x : Int32) : aW := if (A.2 q).length < 40 then (A.1, va_up A.2 q (A.2 q ++ [x])) else (upd A.1 76 (A.1 76 + 1), A.2)
def aThr (A : aW) (g : Nat) (x : Int32) : aW := (upd (upd (upd A.1 (73 + g) (if A.1 (73 + g) < A.1 66 - x then A.1 66 - x else A.1 (73 + g))) (67 + g) (A.1 (67 + g) + 1)) (70 + g) (A.1 (70 + g) + (A.1 66 - x)), A.2)
def aBrx (h : Nat → Int32) (cg : Nat → Nat) (l : Nat) (A : aW) (x : Int32) : aW := if h (2 + cg l) = h (7 + 3 * l) then aThr A (cg l) x else aAdd A (3 * hse h l + cg l) x
def aBr (h : Nat → Int32) (cg : Nat → Nat) (outs : Nat → List Int32) (A : aW) : Nat → aW
  | 0 => A
  | l + 1 => (outs l).foldl (aBrx h cg l) (aBr h cg outs A l)
def aAdN (A : aW) (q : Nat) (x : Int32) : Nat → aW
  | 0 => A
  | n + 1 => aAdd (aAdN A q x n) q x
def aFdG (f : Nat → Nat) (x : Int32) (A : aW) (i : Nat) : Nat → aW
  | 0 => A
  | g + 1 => aAdN (aFdG f x A i g) (3 * i + g) x (f (3 * i + g))
def aFd (f : Nat → Nat) (x : Int32) (G : Nat) (A : aW) : Nat → aW
  | 0 => A
  | i + 1 => aFdG f x (aFd f x G A i) i G
/-- queues behind the taking, and what was taken by each link -/
def aCar (h : Nat → Int32) (cg : Nat → Nat) (b : Nat) (qs : Nat → List Int32) : Nat → (Nat → List Int32) × (Nat → List Int32)
  | 0 => (qs, fun _ => [])
  | l + 1 => if b.testBit l then (va_up (aCar h cg b qs l).1 (3 * hfi h l + cg l) (aTk (h 65) (hro h l) ((aCar h cg b qs l).1 (3 * hfi h l + cg l))).2, va_up (aCar h cg b qs l).2 l (aTk (h 65) (hro h l) ((aCar h cg b qs l).1 (3 * hfi h l + cg l))).1) else aCar h cg b qs l
def aCg (h : Nat → Int32) (qs : Nat → List Int32) (l : Nat) : Nat := jN (aCho h qs l).1
def aSlot (h : Nat → Int32) (qs : Nat → List Int32) (b : Nat) (f : Nat → Nat) : aW :=
  aFd f (h 66 + 1) (hG h) (aBr h (aCg h qs) (aCar h (aCg h qs) b qs (hn h)).2 (upd h 66 (h 66 + 1), (aCar h (aCg h qs) b qs (hn h)).1) (hn h)) (hm h)
/-! what holds of headers and queues -/
/-- header as h0 below 66; s slots; at most c there for a goal -/
def PV (h0 : Nat → Int32) (s c : Nat) (A : aW) : Prop :=
  (∀ j, j < 66 → A.1 j = h0 j) ∧ A.1 66 = nI s ∧ (∀ q, q < 18 → (A.2 q).length ≤ 40 ∧ ∀ x ∈ A.2 q, ∃ b, b ≤ s ∧ x = nI b) ∧ (∀ i g, i < 6 → g < 3 → ¬ hq h0 i g → A.2 (3 * i + g) = []) ∧ ∀ g, g < 3 → ∃ th lg, A.1 (67 + g) = nI th ∧ th ≤ c ∧ A.1 (73 + g) = nI lg ∧ lg ≤ s ∧ (th = 0 → lg = 0)
/-- a world after at most T slots -/
def AV (T : Nat) (A : aW) : Prop := HV A.1 ∧ ∃ s, s ≤ T ∧ PV A.1 s (90 * s) A
theorem HV_fun {h h' : Nat → Int32} (e : ∀ j, j < 66 → h' j = h j) : hm h' = hm h ∧ hG h' = hG h ∧ hn h' = hn h ∧ hb h' = hb h ∧ (∀ g, g < 10 → hgo h' g = hgo h g) ∧ (∀ l, l < 10 → hfi h' l = hfi h l ∧ hse h' l = hse h l ∧ hro h' l = hro h l) ∧ (hn h ≤ 10 → ∀ a, hcl h' a = hcl h a) ∧ ∀ q, q < 18 → hfe h' q = hfe h q := by
  refine ⟨?_, ?_, ?_, ?_, fun g hg => ?_, fun l hl => ⟨?_, ?_, ?_⟩, fun h10 a => ?_, fun q hq => ?_⟩
  · unfold hm; rw [e 0 (by omega)]
  · unfold hG; rw [e 1 (by omega)]
  · unfold hn; rw [e 5 (by omega)]
  · unfold hb; rw [e 64 (by omega)]
  · unfold hgo; rw [e _ (by omega)]
  · unfold hfi; rw [e _ (by omega)]
  · unfold hse; rw [e _ (by omega)]
  · unfold hro; rw [e _ (by omega)]
  · unfold hcl
    have : hn h' = hn h := by unfold hn; rw [e 5 (by omega)]
    rw [this]
    split
    · rw [e _ (by omega)]
    · rfl
  · unfold hfe; rw [e _ (by omega)]
theorem HV_congr {h h' : Nat → Int32} (e : ∀ j, j < 66 → h' j = h j) (H : HV h) : HV h' := by
  obtain ⟨f1, f2, f3, f4, f5, f6, f7, f8⟩ := HV_fun e
  obtain ⟨a1, a2, a3, a4, a5, a6, a7, a8, a9, a10⟩ := H
  have f7 := f7 a3.2
  refine ⟨?_, ?_, ?_, ?_, ?_, ?_, ?_, ?_, ?_, ?_⟩
  · rw [f1, e 0 (by omega)]; exact a1
  · rw [f2, e 1 (by omega)]; exact a2
  · rw [f3, e 5 (by omega)]; exact a3
  · rw [f4, e 64 (by omega)]; exact a4
  · rw [e 65 (by omega)]; exact a5
  · rw [f2, f1]
    intro g hg
    rw [e _ (by omega), f5 g (by omega)]
    exact a6 g hg
  · rw [f2]
    intro g g' hg hg'
    rw [f5 g (by omega), f5 g' (by omega)]
    exact a7 g g' hg hg'
  · rw [f3, f1]
    intro l hl
    obtain ⟨x1, x2, x3⟩ := f6 l (by omega)
    rw [e _ (by omega), e _ (by omega), e _ (by omega), e _ (by omega), x1, x2, x3, f7]
    exact a8 l hl
  · rw [f3]
    refine ⟨fun a b => ?_, fun a => ?_, fun a => ?_⟩
    · rw [f7, f7]; exact a9.1 a b
    · rw [f7]; exact a9.2.1 a
    · rw [f7]; exact a9.2.2 a
  · intro i g hi hg
    rw [e _ (by omega), f8 _ (by omega)]
    refine ⟨(a10 i g hi hg).1, fun q => (a10 i g hi hg).2 (fun q2 => q ?_)⟩
    unfold hq at q2 ⊢
    rw [f1, f2, f5 g (by omega)]
    exact q2
theorem hq_congr {h h' : Nat → Int32} (e : ∀ j, j < 66 → h' j = h j) {i g : Nat} (hg : g < 3) : hq h' i g ↔ hq h i g := by
  obtain ⟨f1, f2, f3, f4, f5, f6, f7, f8⟩ := HV_fun e
  unfold hq
  rw [f1, f2, f5 g (by omega)]
theorem hRnd_fun {fi fi' se se' : Nat → Nat} {g : Nat} {hp : Nat → Int32} : ∀ n, (∀ l, l < n → fi' l = fi l ∧ se' l = se l) → hRnd fi' se' g hp n = hRnd fi se g hp n
  | 0, _ => rfl
  | n + 1, h => by
    have ih := hRnd_fun (g := g) (hp := hp) n (fun l q => h l (by omega))
    obtain ⟨a, b⟩ := h n (by omega)
    unfold hRnd hRel
    rw [ih, a, b]
theorem hIt_fun {fi fi' se se' : Nat → Nat} {n g : Nat} {hp : Nat → Int32} (h : ∀ l, l < n → fi' l = fi l ∧ se' l = se l) : ∀ r, hIt fi' se' n g hp r = hIt fi se n g hp r
  | 0 => rfl
  | r + 1 => by
    unfold hIt
    rw [hIt_fun h r]
    exact hRnd_fun n h
theorem hAll_fun {fi fi' se se' go go' : Nat → Nat} {n r : Nat} {hp : Nat → Int32} (h : ∀ l, l < n → fi' l = fi l ∧ se' l = se l) : ∀ G, (∀ g, g < G → go' g = go g) → hAll fi' se' go' n r hp G = hAll fi se go n r hp G
  | 0, _ => rfl
  | G + 1, hg => by
    unfold hAll
    rw [hAll_fun h G (fun g q => hg g (by omega)), hg G (by omega)]
    exact hIt_fun h r
theorem hops_congr {h h' : Nat → Int32} (e : ∀ j, j < 66 → h' j = h j) (H : HV h) : hops h' = hops h := by
  obtain ⟨f1, f2, f3, f4, f5, f6, f7, f8⟩ := HV_fun e
  have := H.2.2.1.2
  have := H.2.1.2.2
  unfold hops
  rw [f2, f3]
  exact hAll_fun (fun l hl => ⟨(f6 l (by omega)).1, (f6 l (by omega)).2.1⟩) _ (fun g hg => f5 g (by omega))
/-! steps keep it -/
theorem aAdd_hd {A : aW} {q : Nat} {x : Int32} {j : Nat} (hj : j ≠ 76) : (aAdd A q x).1 j = A.1 j := by
  unfold aAdd
  split
  · rfl
  · exact pk_un hj
theorem PV.add {h0 : Nat → Int32} {s c : Nat} {A : aW} (P : PV h0 s c A) {i g b : Nat} (hi : i < 6) (hg : g < 3) (hq' : hq h0 i g) (hb : b ≤ s) : PV h0 s c (aAdd A (3 * i + g) (nI b)) := by
  obtain ⟨p1, p2, p3, p4, p5⟩ := P
  refine ⟨fun j hj => ?_, ?_, fun q hq => ?_, fun i' g' hi' hg' hn' => ?_, fun g' hg' => ?_⟩
  · rw [aAdd_hd (by omega)]; exact p1 j hj
  · rw [aAdd_hd (by omega)]; exact p2
  · unfold aAdd
    split
    · next hl =>
      by_cases e : q = 3 * i + g
      · subst e
        show (va_up A.2 _ _ _).length ≤ 40 ∧ ∀ x ∈ va_up A.2 _ _ _, _
        rw [va_up_self]
        refine ⟨by simp; omega, fun x hx => ?_⟩
        rcases List.mem_append.mp hx with hx | hx
        · exact (p3 _ hq).2 x hx
        · exact ⟨b, hb, List.mem_singleton.mp hx⟩
      · show (va_up A.2 _ _ _).length ≤ 40 ∧ ∀ x ∈ va_up A.2 _ _ _, _
        rw [va_up_ne _ _ e]
        exact p3 q hq
    · exact p3 q hq
  · unfold aAdd
    split
    · show va_up A.2 _ _ _ = _
      rw [va_up_ne _ _ (fun e => by
        have e1 : i' = i := by omega
        have e2 : g' = g := by omega
        subst e1; subst e2
        exact hn' hq')]
      exact p4 i' g' hi' hg' hn'
    · exact p4 i' g' hi' hg' hn'
  · rw [aAdd_hd (by omega), aAdd_hd (by omega)]
    exact p5 g' hg'
theorem aThr_hd {A : aW} {g : Nat} {x : Int32} {j : Nat} (h1 : j ≠ 73 + g) (h2 : j ≠ 67 + g) (h3 : j ≠ 70 + g) : (aThr A g x).1 j = A.1 j := by
  unfold aThr
  show upd _ _ _ j = _
  rw [pk_un h3, pk_un h2, pk_un h1]
theorem PV.thr {h0 : Nat → Int32} {s c : Nat} {A : aW} (P : PV h0 s c A) {g b : Nat} (hg : g < 3) (hb : b ≤ s) (hs : s < 2 ^ 31) : PV h0 s (c + 1) (aThr A g (nI b)) := by
  obtain ⟨p1, p2, p3, p4, p5⟩ := P
  refine ⟨fun j hj => ?_, ?_, p3, p4, fun g' hg' => ?_⟩
  · rw [aThr_hd (by omega) (by omega) (by omega)]; exact p1 j hj
  · rw [aThr_hd (by omega) (by omega) (by omega)]; exact p2
  · obtain ⟨th, lg, q1, q2, q3, q4, q5⟩ := p5 g' hg'
    by_cases e : g' = g
    · subst e
      unfold aThr
      have ed : A.1 66 - nI b = nI (s - b) := by rw [p2]; exact pk_sub hb
      refine ⟨th + 1, if lg < s - b then s - b else lg, ?_, by omega, ?_, by split <;> omega, by omega⟩
      · show upd _ _ _ (67 + g') = _
        rw [pk_un (by omega), pk_us, q1, nI_1]
      · show upd _ _ _ (73 + g') = _
        rw [pk_un (by omega), pk_un (by omega), pk_us, ed, q3]
        have hc := nI_ltI (a := lg) (b := s - b) (by omega) (by omega)
        by_cases c1 : lg < s - b
        · rw [if_pos (hc.mpr c1), if_pos c1]
        · rw [if_neg (fun q => c1 (hc.mp q)), if_neg c1]
    · refine ⟨th, lg, ?_, by omega, ?_, q4, q5⟩
      · rw [aThr_hd (by omega) (by omega) (by omega)]; exact q1
      · rw [aThr_hd (by omega) (by omega) (by omega)]; exact q3
