/-! ===== copies of worlds; keep and undo of the class ===== -/
def CPs (ds da : List Nat) (k k2 : Nat) (S0 S : jS) : Prop := (∀ r : jR, S.1 r = if r.2 = k ∧ r.1 ∈ ds then S0.1 (r.1, k2) else S0.1 r) ∧ ∀ r : jR, if r.2 = k ∧ r.1 ∈ da then ∀ i, i < jlen r.1 → S.2 r i = S0.2 (r.1, k2) i else S.2 r = S0.2 r
theorem CPs.z {k k2 : Nat} {S : jS} : CPs [] [] k k2 S S := ⟨fun r => by simp, fun r => by simp⟩
theorem CPs.s {ds da : List Nat} {k k2 c : Nat} {S0 S : jS} (hk : k2 ≠ k) (h : CPs ds da k k2 S0 S) : CPs (c :: ds) da k k2 S0 (jset S (c, k) (S.1 (c, k2))) := by
  refine ⟨fun r => ?_, h.2⟩
  have h0 : S.1 (c, k2) = S0.1 (c, k2) := by rw [h.1]; simp [hk]
  obtain ⟨a, b⟩ := r
  by_cases e : (a, b) = (c, k)
  · cases e
    rw [jset_at, h0]
    simp
  · show jup S.1 (c, k) _ (a, b) = _
    rw [jup_ne _ _ e, h.1]
    by_cases e2 : b = k
    · subst e2
      have : a ≠ c := fun q => e (by rw [q])
      simp [this]
    · simp [e2]
theorem CPs.a {ds da : List Nat} {k k2 c : Nat} {S0 S : jS} {n : Nat} (hk : k2 ≠ k) (hn : n = jlen c) (h : CPs ds da k k2 S0 S) : CPs ds (c :: da) k k2 S0 (jput S (c, k) (va_cpy (S.2 (c, k2)) (S.2 (c, k)) 0 0 n)) := by
  refine ⟨h.1, fun r => ?_⟩
  have h0 : S.2 (c, k2) = S0.2 (c, k2) := by
    have := h.2 (c, k2)
    simp only [hk, false_and, if_false] at this
    exact this
  obtain ⟨a, b⟩ := r
  by_cases e : (a, b) = (c, k)
  · cases e
    simp only [List.mem_cons, true_or, and_self, if_true]
    intro i hi
    rw [jup_self, pk_cpy_in (by omega) (by omega), h0, show 0 + (i - 0) = i by omega]
  · have hr := h.2 (a, b)
    rw [jput_o e]
    by_cases e2 : b = k
    · subst e2
      have : a ≠ c := fun q => e (by rw [q])
      simp only [true_and, List.mem_cons, this, false_or] at hr ⊢
      exact hr
    · simp only [e2, false_and, if_false] at hr ⊢
      exact hr
theorem sX6_copyFrom {k k2 : Nat} {S : jS} (hk : k2 ≠ k) : ∃ S', fX6_copyFrom k k2 S = some S' ∧ CPs [7, 6, 5, 4, 3, 2, 1] [35, 34, 33, 32, 31, 30, 26, 25, 24, 23, 22, 21, 20] k k2 S S' := by
  have z3 : (3 : Int32).toNatClampNeg = 3 := by decide
  have z10 : (10 : Int32).toNatClampNeg = 10 := by decide
  have z18 : (18 : Int32).toNatClampNeg = 18 := by decide
  have z720 : (720 : Int32).toNatClampNeg = 720 := by decide
  have h2 : ∃ S1, fX2_copyFrom k k2 S = some S1 ∧ CPs [5, 4, 3, 2, 1] [26, 25, 24, 23, 22, 21, 20] k k2 S S1 := by
    unfold fX2_copyFrom
    rw [cl0, z3, z10, z18]
    unfold jlet
    exact ⟨_, rfl, CPs.a hk rfl (CPs.a hk rfl (CPs.a hk rfl (CPs.a hk rfl (CPs.a hk rfl (CPs.a hk rfl (CPs.a hk rfl (CPs.s hk (CPs.s hk (CPs.s hk (CPs.s hk (CPs.s hk CPs.z)))))))))))⟩
  obtain ⟨S1, a1, a2⟩ := h2
  have h4 : ∃ S2, fX4_copyFrom k k2 S1 = some S2 ∧ CPs [7, 6, 5, 4, 3, 2, 1] [35, 34, 33, 32, 31, 30, 26, 25, 24, 23, 22, 21, 20] k k2 S S2 := by
    unfold fX4_copyFrom
    rw [cl0, z3, z18, z720]
    unfold jlet
    exact ⟨_, rfl, CPs.a hk rfl (CPs.a hk rfl (CPs.a hk rfl (CPs.a hk rfl (CPs.a hk rfl (CPs.a hk rfl (CPs.s hk (CPs.s hk a2)))))))⟩
  obtain ⟨S2, b1, b2⟩ := h4
  refine ⟨S2, ?_, b2⟩
  unfold fX6_copyFrom
  rw [a1, Option.bind_some, b1, Option.bind_some]
theorem sX2_copyFrom {k k2 : Nat} {S : jS} (hk : k2 ≠ k) : ∃ S', fX2_copyFrom k k2 S = some S' ∧ CPs [5, 4, 3, 2, 1] [26, 25, 24, 23, 22, 21, 20] k k2 S S' := by
  have z3 : (3 : Int32).toNatClampNeg = 3 := by decide
  have z10 : (10 : Int32).toNatClampNeg = 10 := by decide
  have z18 : (18 : Int32).toNatClampNeg = 18 := by decide
  unfold fX2_copyFrom
  rw [cl0, z3, z10, z18]
  unfold jlet
  exact ⟨_, rfl, CPs.a hk rfl (CPs.a hk rfl (CPs.a hk rfl (CPs.a hk rfl (CPs.a hk rfl (CPs.a hk rfl (CPs.a hk rfl (CPs.s hk (CPs.s hk (CPs.s hk (CPs.s hk (CPs.s hk CPs.z)))))))))))⟩
/-- cells of world k -/
def gpK (k : Nat) (r : jR) : Bool := r.2 == k && decide (1 ≤ r.1 ∧ r.1 ≤ 7)
def gqK (k : Nat) (r : jR) : Bool := r.2 == k && decide (20 ≤ r.1 ∧ r.1 ≤ 35)
theorem CPs.fr {ds da : List Nat} {k k2 : Nat} {S0 S : jS} (h : CPs ds da k k2 S0 S) (h1 : ∀ c ∈ ds, 1 ≤ c ∧ c ≤ 7) (h2 : ∀ c ∈ da, 20 ≤ c ∧ c ≤ 35) : jFr (gpK k) (gqK k) S0 S := by
  refine ⟨fun r hr => ?_, fun r hr => ?_⟩
  · rw [h.1, if_neg (fun q => ?_)]
    have := h1 _ q.2
    simp [gpK, q.1] at hr
    omega
  · have := h.2 r
    rw [if_neg (fun q => ?_)] at this
    · exact this
    · have := h2 _ q.2
      simp [gqK, q.1] at hr
      omega
theorem WC_copy {k k2 : Nat} {S0 S : jS} {h : Nat → Int32} {qs : Nat → List Int32} (H : HV h) (C : CPs [7, 6, 5, 4, 3, 2, 1] [35, 34, 33, 32, 31, 30, 26, 25, 24, 23, 22, 21, 20] k k2 S0 S) (w : WC k2 S0 h qs) : WC k S h qs := by
  have s1 : ∀ c, c ∈ [7, 6, 5, 4, 3, 2, 1] → S.1 (c, k) = S0.1 (c, k2) := fun c hc => by rw [C.1, if_pos ⟨rfl, hc⟩]
  have s2 : ∀ c, c ∈ [35, 34, 33, 32, 31, 30, 26, 25, 24, 23, 22, 21, 20] → ∀ i, i < jlen c → S.2 (c, k) i = S0.2 (c, k2) i := fun c hc => by
    have := C.2 (c, k)
    rw [if_pos ⟨rfl, hc⟩] at this
    exact this
  have hn10 := H.2.2.1.2
  have hG3 := H.2.1.2.2
  obtain ⟨⟨⟨a1, a2, a3, a4, a5⟩, b, c, d⟩, hc, ⟨q1, q2, q3⟩, q4⟩ := w
  refine ⟨⟨⟨?_, ?_, ?_, ?_, ?_⟩, ?_, ?_, ?_⟩, ?_, ⟨?_, ?_, ?_⟩, ?_⟩
  · rw [s1 1 (by decide)]; exact a1
  · rw [s1 2 (by decide)]; exact a2
  · rw [s1 3 (by decide)]; exact a3
  · rw [s1 4 (by decide)]; exact a4
  · rw [s1 5 (by decide)]; exact a5
  · intro g hg; rw [s2 20 (by decide) g (by show g < 3; omega)]; exact b g hg
  · intro l hl
    rw [s2 21 (by decide) l (by show l < 10; omega), s2 22 (by decide) l (by show l < 10; omega), s2 23 (by decide) l (by show l < 10; omega), s2 24 (by decide) l (by show l < 10; omega)]
    exact c l hl
  · intro q hq; rw [s2 25 (by decide) q hq]; exact d q hq
  · intro q hq; rw [s2 26 (by decide) q hq]; exact hc q hq
  · rw [s1 6 (by decide)]; exact q1
  · rw [s1 7 (by decide)]; exact q2
  · intro g hg
    rw [s2 30 (by decide) g hg, s2 31 (by decide) g hg, s2 32 (by decide) g hg]
    exact q3 g hg
  · intro q hq
    obtain ⟨n1, n2, hd, n3, n4, n5⟩ := q4 q hq
    refine ⟨by rw [s2 33 (by decide) q hq]; exact n1, n2, hd, n3, by rw [s2 35 (by decide) q hq]; exact n4, fun i hi => ?_⟩
    have := Nat.mod_lt (hd + i) (show 0 < 40 by omega)
    rw [s2 34 (by decide) _ (by show _ < 720; omega)]
    exact n5 i hi
/-- the class's now and its history: kept worlds, the newest first -/
def RC (S : jS) (kept : Nat) (W : Nat → aW) (A : aW) : Prop := WC 0 S A.1 A.2 ∧ S.1 (8, 0) = nI kept ∧ kept ≤ 4 ∧ ∃ next, next < 4 ∧ S.1 (9, 0) = nI next ∧ ∀ i, i < kept → HV (W i).1 ∧ WC (2 + (next + 3 - i) % 4) S (W i).1 (W i).2
def aPush (A : aW) (W : Nat → aW) : Nat → aW := fun i => if i = 0 then A else W (i - 1)
/-- what keep and undo change -/
def gpH (r : jR) : Bool := r == (8, 0) || r == (9, 0) || decide (1 ≤ r.1 ∧ r.1 ≤ 7)
def gqH (r : jR) : Bool := decide (20 ≤ r.1 ∧ r.1 ≤ 35)
theorem gpK_H {k : Nat} : ∀ r, gpK k r = true → gpH r = true := fun r h => by
  simp only [gpK, Bool.and_eq_true] at h
  simp only [gpH, h.2, Bool.or_true]
theorem gqK_H {k : Nat} : ∀ r, gqK k r = true → gqH r = true := fun r h => by
  simp only [gqK, Bool.and_eq_true] at h
  exact h.2
theorem WSame_K {k j : Nat} {S S' : jS} (h : jFr (gpK k) (gqK k) S S') (hj : j ≠ k) : WSame j S S' := WSame.fr h (fun c _ => by simp [gpK, hj]) (fun c _ _ => by simp [gqK, hj])
theorem sX0_keep {S : jS} {kept : Nat} {W : Nat → aW} {A : aW} (H : HV A.1) (R : RC S kept W A) : ∃ S', fX0_keep 0 S = some S' ∧ RC S' (min (kept + 1) 4) (aPush A W) A ∧ jFr gpH gqH S S' ∧ WSame 0 S S' ∧ WSame 1 S S' := by
  obtain ⟨w0, e8, hk4, next, hnx, e9, hW⟩ := R
  obtain ⟨S1, a1, a2⟩ := sX6_copyFrom (k := next + 2) (k2 := 0) (S := S) (by omega)
  have f1 := a2.fr (by decide) (by decide)
  have e9' : S1.1 (9, 0) = nI next := (f1.1 (9, 0) (by simp [gpK])).trans e9
  have e8' : S1.1 (8, 0) = nI kept := (f1.1 (8, 0) (by simp [gpK])).trans e8
  have hr : nI (next + 1) - nI (next + 1) / (4 : Int32) * (4 : Int32) = nI ((next + 1) % 4) := pk_rem (a := next + 1) (d := 4) (by omega) (by omega) (by omega)
  have hmin : (if (4 : Int32) < nI kept + 1 then (4 : Int32) else nI kept + 1) = nI (min (kept + 1) 4) := by
    rw [nI_1]
    have hc : (4 : Int32) < nI (kept + 1) ↔ 4 < kept + 1 := nI_ltI (a := 4) (by omega) (by omega)
    by_cases c : 4 < kept + 1
    · rw [if_pos (hc.mpr c), Nat.min_eq_right (by omega)]; rfl
    · rw [if_neg (fun q => c (hc.mp q)), Nat.min_eq_left (by omega)]
  have fs : ∀ j, WSame j S1 (jset (jset S1 (9, 0) (nI ((next + 1) % 4))) (8, 0) (nI (min (kept + 1) 4))) := fun j => (WSame.set (by simp)).tr (WSame.set (by simp))
  refine ⟨jset (jset S1 (9, 0) (nI ((next + 1) % 4))) (8, 0) (nI (min (kept + 1) 4)), ?_, ⟨?_, ?_, by omega, (next + 1) % 4, by omega, ?_, fun i hi => ?_⟩, ?_, (WSame_K f1 (by omega)).tr (fs 0), (WSame_K f1 (by omega)).tr (fs 1)⟩
  · unfold fX0_keep
    rw [e9, if_pos (jIn_lit (by omega) hnx), nI_clamp (by omega), a1, Option.bind_some]
    unfold jlet
    dsimp only
    rw [e9', nI_1, hr]
    have e8j : jup S1.1 (9, 0) (nI ((next + 1) % 4)) (8, 0) = nI kept := (jup_ne _ _ (by simp)).trans e8'
    simp only [e8j, hmin]
  · exact w0.same ((WSame_K f1 (by omega)).tr (fs 0))
  · rw [jset_at]
  · rw [jset_o (by simp), jset_at]
  · unfold aPush
    by_cases e : i = 0
    · subst e
      rw [if_pos rfl]
      refine ⟨H, ?_⟩
      have hw := WC_copy H a2 w0
      have := hw.same (fs (next + 2))
      rw [show 2 + ((next + 1) % 4 + 3 - 0) % 4 = next + 2 by omega]
      exact this
    · rw [if_neg e]
      obtain ⟨h1, h2⟩ := hW (i - 1) (by omega)
      refine ⟨h1, ?_⟩
      have hne : 2 + (next + 3 - (i - 1)) % 4 ≠ next + 2 := by omega
      have := h2.same ((WSame_K f1 hne).tr (fs _))
      rw [show 2 + ((next + 1) % 4 + 3 - i) % 4 = 2 + (next + 3 - (i - 1)) % 4 by omega]
      exact this
  · exact ((f1.mono gpK_H gqK_H).tr (jFr.set (by rfl))).tr (jFr.set (by rfl))
theorem sX7_undo {S : jS} {kept : Nat} {W : Nat → aW} {A : aW} (R : RC S kept W A) : ∃ S', fX7_undo S = some (if kept = 0 then -2 else nI (kept - 1), S') ∧ (if kept = 0 then S' = S else RC S' (kept - 1) (fun i => W (i + 1)) (W 0)) ∧ jFr gpH gqH S S' := by
  obtain ⟨w0, e8, hk4, next, hnx, e9, hW⟩ := R
  have hz : nI kept = (0 : Int32) ↔ kept = 0 := nI_eq (b := 0) (by omega) (by omega)
  unfold fX7_undo
  rw [e8]
  by_cases c : kept = 0
  · rw [if_pos (hz.mpr c), if_pos c]
    exact ⟨S, rfl, by rw [if_pos c], jFr.rf⟩
  · rw [if_neg (fun q => c (hz.mp q))]
    simp only [if_neg c]
    have hp : nI kept - 1 = nI (kept - 1) := by
      obtain ⟨m, hm⟩ : ∃ m, kept = m + 1 := ⟨kept - 1, by omega⟩
      rw [hm, nI_pred]; rfl
    have hle : nI kept ≤ (0 : Int32) ↔ kept ≤ 0 := nI_leI (b := 0) (by omega) (by omega)
    have e43 : nI next + (4 : Int32) - 1 = nI (next + 3) := by
      rw [show nI next + (4 : Int32) = nI (next + 3 + 1) from nI_add next 4, nI_pred]
    have hr : nI (next + 3) - nI (next + 3) / (4 : Int32) * (4 : Int32) = nI ((next + 3) % 4) := pk_rem (a := next + 3) (d := 4) (by omega) (by omega) (by omega)
    have fs : ∀ j, WSame j S (jset (jset S (8, 0) (nI (kept - 1))) (9, 0) (nI ((next + 3) % 4))) := fun j => (WSame.set (by simp)).tr (WSame.set (by simp))
    obtain ⟨S1, a1, a2⟩ := sX6_copyFrom (k := 0) (k2 := (next + 3) % 4 + 2) (S := jset (jset S (8, 0) (nI (kept - 1))) (9, 0) (nI ((next + 3) % 4))) (by omega)
    have f1 := a2.fr (by decide) (by decide)
    have e8' : S1.1 (8, 0) = nI (kept - 1) := by
      rw [f1.1 (8, 0) (by simp [gpK]), jset_o (by simp), jset_at]
    refine ⟨S1, ?_, ⟨?_, e8', by omega, (next + 3) % 4, by omega, ?_, fun i hi => ?_⟩, ?_⟩
    · unfold fX0_giveBack
      rw [e8, if_neg (fun q => by have := hle.mp q; omega), hp]
      unfold jlet
      dsimp only
      have e9j : jup S.1 (8, 0) (nI (kept - 1)) (9, 0) = nI next := (jup_ne _ _ (by simp)).trans e9
      simp only [e9j, e43, hr]
      have e9k : jup (jup S.1 (8, 0) (nI (kept - 1))) (9, 0) (nI ((next + 3) % 4)) (9, 0) = nI ((next + 3) % 4) := jup_self _ _ _
      simp only [e9k]
      rw [if_pos (jIn_lit (by omega) (by omega)), nI_clamp (by omega)]
      show (((fX6_copyFrom 0 ((next + 3) % 4 + 2) (jset (jset S (8, 0) (nI (kept - 1))) (9, 0) (nI ((next + 3) % 4)))).bind fun y5 => some y5).bind fun y2 => some (y2.1 (8, 0), y2)) = _
      rw [a1, Option.bind_some, Option.bind_some, e8']
    · obtain ⟨h1, h2⟩ := hW 0 (by omega)
      have h2' : WC ((next + 3) % 4 + 2) S (W 0).1 (W 0).2 := by
        rw [show (next + 3) % 4 + 2 = 2 + (next + 3 - 0) % 4 by omega]; exact h2
      exact WC_copy h1 a2 (h2'.same (fs _))
    · rw [f1.1 (9, 0) (by simp [gpK]), jset_at]
    · obtain ⟨h1, h2⟩ := hW (i + 1) (by omega)
      refine ⟨h1, ?_⟩
      rw [show 2 + ((next + 3) % 4 + 3 - i) % 4 = 2 + (next + 3 - (i + 1)) % 4 by omega]
      exact h2.same ((fs _).tr (WSame_K f1 (by omega)))
    · exact ((jFr.set (by rfl)).tr (jFr.set (by rfl))).tr (f1.mono gpK_H gqK_H)
