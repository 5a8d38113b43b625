/-! ===== class and reference side by side ===== -/
def gpC (r : jR) : Bool := decide (r.1 < 12)
def gqC (r : jR) : Bool := decide (r.1 < 50)
def gpD (r : jR) : Bool := decide (12 ≤ r.1)
def gqD (r : jR) : Bool := decide (50 ≤ r.1)
def CS (S : jS) (kept : Nat) (W : Nat → aW) (A : aW) (n : Nat) (T : Nat → Int32) : Prop := RC S kept W A ∧ S.1 (0, 0) = nI n ∧ n ≤ 200 ∧ ∀ j, j < n → S.2 (10, 0) j = T j
def MS (S : jS) (kept : Nat) (W : Nat → aW) (A : aW) (n : Nat) (T : Nat → Int32) : Prop := RM S kept W A ∧ S.1 (13, 0) = nI n ∧ n ≤ 200 ∧ ∀ j, j < n → S.2 (53, 0) j = T j
def VS (N kept : Nat) (W : Nat → aW) (A : aW) : Prop := AV (60 * N) A ∧ ∀ i, i < kept → AV (60 * N) (W i)
def SM (N : Nat) (S : jS) : Prop := ∃ kept W A n T, CS S kept W A n T ∧ MS S kept W A n T ∧ VS N kept W A
theorem AV.mono {T T' : Nat} {A : aW} (h : AV T A) (hT : T ≤ T') : AV T' A := by
  obtain ⟨H, s, hs, P⟩ := h
  exact ⟨H, s, by omega, P⟩
theorem VS.mono {N N' kept : Nat} {W : Nat → aW} {A : aW} (h : VS N kept W A) (hN : N ≤ N') : VS N' kept W A := ⟨h.1.mono (by omega), fun i hi => (h.2 i hi).mono (by omega)⟩
theorem VS.push {N kept : Nat} {W : Nat → aW} {A A' : aW} (h : VS N kept W A) (h' : AV (60 * (N + 1)) A') : VS (N + 1) (min (kept + 1) 4) (aPush A W) A' := by
  refine ⟨h', fun i hi => ?_⟩
  unfold aPush
  by_cases c : i = 0
  · rw [if_pos c]
    exact h.1.mono (by omega)
  · rw [if_neg c]
    exact (h.2 (i - 1) (by omega)).mono (by omega)
theorem WSame_D {k : Nat} {S S' : jS} (F : jFr gpD gqD S S') : WSame k S S' := WSame.fr F (fun c hc => decide_eq_false (fun (q : 12 ≤ c) => by omega)) (fun c _ hc => decide_eq_false (fun (q : 50 ≤ c) => by omega))
theorem CS.fr {S S' : jS} {kept : Nat} {W : Nat → aW} {A : aW} {n : Nat} {T : Nat → Int32} (F : jFr gpD gqD S S') (h : CS S kept W A n T) : CS S' kept W A n T := by
  obtain ⟨⟨w, e8, hk, next, hnx, e9, hW⟩, e0, hn, eT⟩ := h
  refine ⟨⟨w.same (WSame_D F), (F.1 _ rfl).trans e8, hk, next, hnx, (F.1 _ rfl).trans e9, fun i hi => ⟨(hW i hi).1, (hW i hi).2.same (WSame_D F)⟩⟩, (F.1 _ rfl).trans e0, hn, fun j hj => ?_⟩
  rw [F.2 (10, 0) rfl]
  exact eT j hj
theorem MS.fr {S S' : jS} {kept : Nat} {W : Nat → aW} {A : aW} {n : Nat} {T : Nat → Int32} (F : jFr gpC gqC S S') (h : MS S kept W A n T) : MS S' kept W A n T := by
  obtain ⟨⟨w, e12, hk, hW⟩, e0, hn, eT⟩ := h
  refine ⟨⟨?_, (F.1 _ rfl).trans e12, hk, fun i hi => ?_⟩, (F.1 _ rfl).trans e0, hn, fun j hj => ?_⟩
  · rw [F.2 (50, 0) rfl]; exact w
  · have := hW i hi
    rw [F.2 (52, 0) rfl]
    exact this
  · rw [F.2 (53, 0) rfl]
    exact eT j hj
/-- the world now is another one, histories stay -/
theorem RC.now {S S' : jS} {kept : Nat} {W : Nat → aW} {A A' : aW} (R : RC S kept W A) (e8 : S'.1 (8, 0) = S.1 (8, 0)) (e9 : S'.1 (9, 0) = S.1 (9, 0)) (hs : ∀ k, 2 ≤ k → WSame k S S') (w : WC 0 S' A'.1 A'.2) : RC S' kept W A' := by
  obtain ⟨-, a8, hk, next, hnx, a9, hW⟩ := R
  exact ⟨w, e8.trans a8, hk, next, hnx, e9.trans a9, fun i hi => ⟨(hW i hi).1, (hW i hi).2.same (hs _ (by omega))⟩⟩
theorem RM.now {S S' : jS} {kept : Nat} {W : Nat → aW} {A A' : aW} (R : RM S kept W A) (e12 : S'.1 (12, 0) = S.1 (12, 0)) (e52 : S'.2 (52, 0) = S.2 (52, 0)) (w : WM (S'.2 (50, 0)) A'.1 A'.2) : RM S' kept W A' := by
  obtain ⟨-, a12, hk, hW⟩ := R
  refine ⟨w, e12.trans a12, hk, fun i hi => ?_⟩
  rw [e52]
  exact hW i hi
/-- class calls that only use scratch -/
def gpS (r : jR) : Bool := r == (10, 0) || r == (11, 0) || r == (10, 1) || r == (11, 1) || gpK 1 r
def gqS (r : jR) : Bool := decide (40 ≤ r.1 ∧ r.1 ≤ 44) || gqK 1 r || r == (11, 0)
theorem gpS_C : ∀ r, gpS r = true → gpC r = true := fun r h => by
  unfold gpC
  refine decide_eq_true ?_
  simp only [gpS, gpK, Bool.or_eq_true, Bool.and_eq_true, beq_iff_eq, decide_eq_true_eq] at h
  rcases h with (((rfl | rfl) | rfl) | rfl) | h
  · decide
  · decide
  · decide
  · decide
  · omega
theorem gqS_C : ∀ r, gqS r = true → gqC r = true := fun r h => by
  unfold gqC
  refine decide_eq_true ?_
  simp only [gqS, gqK, Bool.or_eq_true, Bool.and_eq_true, beq_iff_eq, decide_eq_true_eq] at h
  rcases h with (h | h) | rfl
  · omega
  · omega
  · decide
theorem gpS_ne {c k : Nat} (hc : c < 10) (hk : k ≠ 1) : gpS (c, k) = false := by
  simp only [gpS, gpK]
  have h1 : ((c, k) == ((10, 0) : jR)) = false := beq_eq_false_iff_ne.mpr (fun q => by have := congrArg Prod.fst q; simp at this; omega)
  have h2 : ((c, k) == ((11, 0) : jR)) = false := beq_eq_false_iff_ne.mpr (fun q => by have := congrArg Prod.fst q; simp at this; omega)
  have h3 : ((c, k) == ((10, 1) : jR)) = false := beq_eq_false_iff_ne.mpr (fun q => by have := congrArg Prod.fst q; simp at this; omega)
  have h4 : ((c, k) == ((11, 1) : jR)) = false := beq_eq_false_iff_ne.mpr (fun q => by have := congrArg Prod.fst q; simp at this; omega)
  have h5 : (k == 1) = false := beq_eq_false_iff_ne.mpr hk
  rw [h1, h2, h3, h4, h5]
  rfl
theorem gqS_ne {c k : Nat} (h1 : 20 ≤ c) (h2 : c < 36) (hk : k ≠ 1) : gqS (c, k) = false := by
  simp only [gqS, gqK]
  have h3 : decide (40 ≤ c ∧ c ≤ 44) = false := decide_eq_false (by omega)
  have h5 : (k == 1) = false := beq_eq_false_iff_ne.mpr hk
  have h6 : ((c, k) == ((11, 0) : jR)) = false := beq_eq_false_iff_ne.mpr (fun q => by have := congrArg Prod.fst q; simp at this; omega)
  rw [h3, h5, h6]
  rfl
theorem WSame_S {k : Nat} {S S' : jS} (hk : k ≠ 1) (F : jFr gpS gqS S S') : WSame k S S' := WSame.fr F (fun c hc => gpS_ne (by omega) hk) (fun c h1 h2 => gqS_ne h1 h2 hk)
theorem CS.scr {S S' : jS} {kept : Nat} {W : Nat → aW} {A : aW} {n : Nat} {T : Nat → Int32} (F : jFr gpS gqS S S') (h : CS S kept W A n T) : CS S' kept W A n T := by
  obtain ⟨R, e0, hn, eT⟩ := h
  refine ⟨R.now (F.1 _ (by decide)) (F.1 _ (by decide)) (fun k hk => WSame_S (by omega) F) (R.1.same (WSame_S (by omega) F)), (F.1 _ (by decide)).trans e0, hn, fun j hj => ?_⟩
  rw [F.2 (10, 0) (by decide)]
  exact eT j hj
theorem jFr.C {S S' : jS} (F : jFr gpS gqS S S') : jFr gpC gqC S S' := F.mono gpS_C gqS_C
/-- reference calls that only use scratch -/
def gpE (r : jR) : Bool := r == (14, 0) || r == (15, 0) || r == (16, 0)
def gqE (r : jR) : Bool := r == (51, 0) || decide (54 ≤ r.1)
theorem MS.scr {S S' : jS} {kept : Nat} {W : Nat → aW} {A : aW} {n : Nat} {T : Nat → Int32} (F : jFr gpE gqE S S') (h : MS S kept W A n T) : MS S' kept W A n T := by
  obtain ⟨R, e0, hn, eT⟩ := h
  refine ⟨R.now (F.1 _ (by decide)) (F.2 _ (by decide)) (by rw [F.2 (50, 0) (by decide)]; exact R.1), (F.1 _ (by decide)).trans e0, hn, fun j hj => ?_⟩
  rw [F.2 (53, 0) (by decide)]
  exact eT j hj
theorem jFr.D {S S' : jS} (F : jFr gpE gqE S S') : jFr gpD gqD S S' := F.mono (fun r h => by
  refine decide_eq_true ?_
  simp only [gpE, Bool.or_eq_true, beq_iff_eq] at h
  rcases h with (rfl | rfl) | rfl <;> decide) (fun r h => by
  refine decide_eq_true ?_
  simp only [gqE, Bool.or_eq_true, beq_iff_eq, decide_eq_true_eq] at h
  rcases h with rfl | h
  · decide
  · omega)
/-- the two calls give the same answer -/
def ZZ (N : Nat) (S : jS) (f g : jS → Option (Int32 × jS)) : Prop := ∃ r S1 S2, f S = some (r, S1) ∧ g S1 = some (r, S2) ∧ SM (N + 1) S2
theorem ZZ_of {N kept kept' n n' : Nat} {W W' : Nat → aW} {A A' : aW} {T T' : Nat → Int32} {S : jS} {f g : jS → Option (Int32 × jS)} {r : Int32} (hM : MS S kept W A n T) (hV : VS (N + 1) kept' W' A') (hf : ∃ S1, f S = some (r, S1) ∧ CS S1 kept' W' A' n' T' ∧ jFr gpC gqC S S1) (hg : ∀ S1, MS S1 kept W A n T → ∃ S2, g S1 = some (r, S2) ∧ MS S2 kept' W' A' n' T' ∧ jFr gpD gqD S1 S2) : ZZ N S f g := by
  obtain ⟨S1, f1, f2, f3⟩ := hf
  obtain ⟨S2, g1, g2, g3⟩ := hg S1 (hM.fr f3)
  exact ⟨r, S1, S2, f1, g1, kept', W', A', n', T', f2.fr g3, g2, hV⟩
/-! arguments in range, or not -/
theorem wi_yes (S : jS) {j : Nat} (a b : Nat) {x y : Int32} (h1 : a ≤ j) (h2 : j ≤ b) (hb : b < 2 ^ 31) (hx : x = nI a) (hy : y = nI b) : fX7_within S (nI j) x y = some (1, S) := by
  rw [sX7_within S a b (by omega) (by omega) hb hx hy, if_pos ⟨h1, h2⟩]
theorem wi_no (S : jS) {z : Int32} (a b : Nat) {x y : Int32} (ha : a < 2 ^ 31) (hb : b < 2 ^ 31) (h : ¬ ∃ j, (a ≤ j ∧ j ≤ b) ∧ z = nI j) (hx : x = nI a) (hy : y = nI b) : fX7_within S z x y = some (0, S) := by
  by_cases c : z < 0
  · unfold fX7_within
    subst hx
    rw [if_pos]
    have h1 := i32_lt.mp c
    rw [i32_lt, nI_toInt ha]
    have h0 : (0 : Int32).toInt = 0 := by decide
    omega
  · obtain ⟨j, hj, rfl⟩ := nI_of c
    rw [sX7_within S a b hj ha hb hx hy, if_neg (fun q => h ⟨j, q, rfl⟩)]
theorem in_yes (S : jS) {j : Nat} {a b : Nat} {x y : Int64} (h1 : a ≤ j) (h2 : j ≤ b) (hb : b < 2 ^ 31) (hx : x.toInt = a) (hy : y.toInt = b) : fX8_in S (nI j).toInt64 x y = some (1, S) := by
  rw [sX8_in, nI_toInt (by omega), hx, hy, if_pos ⟨by omega, by omega⟩]
theorem in_no (S : jS) {z : Int32} {a b : Nat} {x y : Int64} (h : ¬ ∃ j, (a ≤ j ∧ j ≤ b) ∧ z = nI j) (hx : x.toInt = a) (hy : y.toInt = b) : fX8_in S z.toInt64 x y = some (0, S) := by
  rw [sX8_in, hx, hy, if_neg]
  intro q
  exact h ⟨z.toInt.toNat, ⟨by omega, by omega⟩, i32_nI (by omega)⟩
theorem lk7_no {k : Nat} {S : jS} {z : Int32} {m : Nat} (hm : m < 2 ^ 31) (e : S.1 (3, k) = nI m) (h : ¬ ∃ l, l < m ∧ z = nI l) : fX2_hasLink k S z = some (0, S) := by
  by_cases c : z < 0
  · unfold fX2_hasLink
    rw [if_pos c]
  · obtain ⟨j, hj, rfl⟩ := nI_of c
    rw [sX2_hasLink hj hm e, if_neg (fun q => h ⟨j, q, rfl⟩)]
theorem lk7_yes {k : Nat} {S : jS} {l m : Nat} (hm : m < 2 ^ 31) (e : S.1 (3, k) = nI m) (h : l < m) : fX2_hasLink k S (nI l) = some (1, S) := by
  rw [sX2_hasLink (by omega) hm e, if_pos h]
theorem go7_no {k : Nat} {S : jS} {z : Int32} {m : Nat} (hm : m < 2 ^ 31) (e : S.1 (2, k) = nI m) (h : ¬ ∃ l, l < m ∧ z = nI l) : fX2_hasGoal k S z = some (0, S) := by
  by_cases c : z < 0
  · unfold fX2_hasGoal
    rw [if_pos c]
  · obtain ⟨j, hj, rfl⟩ := nI_of c
    rw [sX2_hasGoal hj hm e, if_neg (fun q => h ⟨j, q, rfl⟩)]
theorem go7_yes {k : Nat} {S : jS} {l m : Nat} (hm : m < 2 ^ 31) (e : S.1 (2, k) = nI m) (h : l < m) : fX2_hasGoal k S (nI l) = some (1, S) := by
  rw [sX2_hasGoal (by omega) hm e, if_pos h]
theorem no7_no {k : Nat} {S : jS} {z : Int32} {m : Nat} (hm : m < 2 ^ 31) (e : S.1 (1, k) = nI m) (h : ¬ ∃ l, l < m ∧ z = nI l) : fX2_hasNode k S z = some (0, S) := by
  by_cases c : z < 0
  · unfold fX2_hasNode
    rw [if_pos c]
  · obtain ⟨j, hj, rfl⟩ := nI_of c
    rw [sX2_hasNode hj hm e, if_neg (fun q => h ⟨j, q, rfl⟩)]
theorem no7_yes {k : Nat} {S : jS} {l m : Nat} (hm : m < 2 ^ 31) (e : S.1 (1, k) = nI m) (h : l < m) : fX2_hasNode k S (nI l) = some (1, S) := by
  rw [sX2_hasNode (by omega) hm e, if_pos h]
theorem in8_no {S : jS} {z w : Int32} {m : Nat} (hm : m < 2 ^ 30) (e : w = nI m) (h : ¬ ∃ l, l < m ∧ z = nI l) : ((fX8_in S z.toInt64 (0 : Int64) ((w - (1 : Int32)).toInt64)).bind fun y2 => if y2.1 = 0 ∨ y2.1 = 1 then some (y2.1, y2.2) else none) = some (0, S) := by
  subst e
  rw [sX8_in, Int32.toInt_toInt64, show (nI m - (1 : Int32)).toInt = (m : Int) - 1 from pk_sub_toInt (b := 1) hm (by omega), show (0 : Int64).toInt = 0 by decide, if_neg (fun q => h ⟨z.toInt.toNat, by omega, i32_nI (by omega)⟩)]
  rfl
theorem in8_yes {S : jS} {w : Int32} {l m : Nat} (hm : m < 2 ^ 30) (e : w = nI m) (h : l < m) : ((fX8_in S (nI l).toInt64 (0 : Int64) ((w - (1 : Int32)).toInt64)).bind fun y2 => if y2.1 = 0 ∨ y2.1 = 1 then some (y2.1, y2.2) else none) = some (1, S) := by
  subst e
  rw [sX8_in, Int32.toInt_toInt64, show (nI m - (1 : Int32)).toInt = (m : Int) - 1 from pk_sub_toInt (b := 1) hm (by omega), show (0 : Int64).toInt = 0 by decide, nI_toInt (by omega), if_pos (by omega)]
  rfl
theorem lk8_no {S : jS} {h : Nat → Int32} {qs : Nat → List Int32} (H : HV h) (M : WM (S.2 (50, 0)) h qs) {z : Int32} (hz : ¬ ∃ l, l < hn h ∧ z = nI l) : fX8_isLink S z = some (0, S) := by
  have h10 := H.2.2.1.2
  unfold fX8_isLink
  rw [if_pos j58]
  exact in8_no (by omega) (by rw [q5, M.1 5 (by omega)]; exact H.2.2.1.1) hz
theorem lk8_yes {S : jS} {h : Nat → Int32} {qs : Nat → List Int32} (H : HV h) (M : WM (S.2 (50, 0)) h qs) {l : Nat} (hl : l < hn h) : fX8_isLink S (nI l) = some (1, S) := by
  have h10 := H.2.2.1.2
  unfold fX8_isLink
  rw [if_pos j58]
  exact in8_yes (by omega) (by rw [q5, M.1 5 (by omega)]; exact H.2.2.1.1) hl
theorem go8_no {S : jS} {h : Nat → Int32} {qs : Nat → List Int32} (H : HV h) (M : WM (S.2 (50, 0)) h qs) {z : Int32} (hz : ¬ ∃ l, l < hG h ∧ z = nI l) : fX8_isGoal S z = some (0, S) := by
  have h10 := H.2.1.2.2
  unfold fX8_isGoal
  rw [if_pos j18]
  exact in8_no (by omega) (by rw [q1, M.1 1 (by omega)]; exact H.2.1.1) hz
theorem go8_yes {S : jS} {h : Nat → Int32} {qs : Nat → List Int32} (H : HV h) (M : WM (S.2 (50, 0)) h qs) {l : Nat} (hl : l < hG h) : fX8_isGoal S (nI l) = some (1, S) := by
  have h10 := H.2.1.2.2
  unfold fX8_isGoal
  rw [if_pos j18]
  exact in8_yes (by omega) (by rw [q1, M.1 1 (by omega)]; exact H.2.1.1) hl
theorem no8_no {S : jS} {h : Nat → Int32} {qs : Nat → List Int32} (H : HV h) (M : WM (S.2 (50, 0)) h qs) {z : Int32} (hz : ¬ ∃ l, l < hm h ∧ z = nI l) : fX8_isNode S z = some (0, S) := by
  have h10 := H.1.2.2
  unfold fX8_isNode
  rw [if_pos j08]
  exact in8_no (by omega) (by rw [q0, M.1 0 (by omega)]; exact H.1.1) hz
theorem no8_yes {S : jS} {h : Nat → Int32} {qs : Nat → List Int32} (H : HV h) (M : WM (S.2 (50, 0)) h qs) {l : Nat} (hl : l < hm h) : fX8_isNode S (nI l) = some (1, S) := by
  have h10 := H.1.2.2
  unfold fX8_isNode
  rw [if_pos j08]
  exact in8_yes (by omega) (by rw [q0, M.1 0 (by omega)]; exact H.1.1) hl
theorem NC.n {k : Nat} {S : jS} {h : Nat → Int32} (H : HV h) (N : NC k S h) : S.1 (1, k) = nI (hm h) ∧ S.1 (2, k) = nI (hG h) ∧ S.1 (3, k) = nI (hn h) := ⟨N.1.1.trans H.1.1, N.1.2.1.trans H.2.1.1, N.1.2.2.1.trans H.2.2.1.1⟩
theorem qu7_yes {k : Nat} {S : jS} {h : Nat → Int32} (H : HV h) (N : NC k S h) {i g : Nat} (hq' : hq h i g) : fX2_hasQueue k S (nI i) (nI g) = some (1, S) := by
  obtain ⟨h1, h2, h3⟩ := hq'
  obtain ⟨n1, n2, -⟩ := N.n H
  have m6 := H.1.2.2
  have g3 := H.2.1.2.2
  have hg := H.2.2.2.2.2.1 g h2
  unfold fX2_hasQueue
  rw [no7_yes (by omega) n1 h1, Option.bind_some]
  dsimp only
  rw [if_neg (by decide), go7_yes (by omega) n2 h2, Option.bind_some]
  dsimp only
  rw [if_neg (by decide), if_pos (jIn_lit (by omega) (by omega)), nI_clamp (by omega), N.2.1 g h2, hg.1, if_neg (fun q => h3 ((nI_eq (by omega) (by omega)).mp q))]
theorem qu7_no {k : Nat} {S : jS} {h : Nat → Int32} (H : HV h) (N : NC k S h) {x y : Int32} (hno : ¬ ∃ i g, (x = nI i ∧ y = nI g) ∧ hq h i g) : fX2_hasQueue k S x y = some (0, S) := by
  obtain ⟨n1, n2, -⟩ := N.n H
  have m6 := H.1.2.2
  have g3 := H.2.1.2.2
  unfold fX2_hasQueue
  by_cases c1 : ∃ i, i < hm h ∧ x = nI i
  · obtain ⟨i, hi, rfl⟩ := c1
    rw [no7_yes (by omega) n1 hi, Option.bind_some]
    dsimp only
    rw [if_neg (by decide)]
    by_cases c2 : ∃ g, g < hG h ∧ y = nI g
    · obtain ⟨g, hg, rfl⟩ := c2
      have hgg := H.2.2.2.2.2.1 g hg
      rw [go7_yes (by omega) n2 hg, Option.bind_some]
      dsimp only
      rw [if_neg (by decide), if_pos (jIn_lit (by omega) (by omega)), nI_clamp (by omega), N.2.1 g hg, hgg.1, if_pos]
      by_cases c3 : hgo h g = i
      · rw [c3]
      · exact absurd ⟨i, g, ⟨rfl, rfl⟩, hi, hg, c3⟩ hno
    · rw [go7_no (by omega) n2 c2, Option.bind_some]
      dsimp only
      rw [if_pos rfl]
  · rw [no7_no (by omega) n1 c1, Option.bind_some]
    dsimp only
    rw [if_pos rfl]
theorem qu8_yes {S : jS} {h : Nat → Int32} {qs : Nat → List Int32} (H : HV h) (M : WM (S.2 (50, 0)) h qs) {i g : Nat} (hq' : hq h i g) : fX8_isQueue S (nI i) (nI g) = some (1, S) := by
  obtain ⟨h1, h2, h3⟩ := hq'
  have m6 := H.1.2.2
  have g3 := H.2.1.2.2
  have hg := H.2.2.2.2.2.1 g h2
  unfold fX8_isQueue
  rw [no8_yes H M h1, Option.bind_some]
  dsimp only
  rw [if_neg (by decide), go8_yes H M h2, Option.bind_some]
  dsimp only
  rw [li_2, if_neg (by decide), if_pos (jIn_lit (by omega) (by omega)), nI_clamp (by omega), M.1 _ (by omega), hg.1, if_neg (fun q => h3 ((nI_eq (by omega) (by omega)).mp q))]
theorem qu8_no {S : jS} {h : Nat → Int32} {qs : Nat → List Int32} (H : HV h) (M : WM (S.2 (50, 0)) h qs) {x y : Int32} (hno : ¬ ∃ i g, (x = nI i ∧ y = nI g) ∧ hq h i g) : fX8_isQueue S x y = some (0, S) := by
  have m6 := H.1.2.2
  have g3 := H.2.1.2.2
  unfold fX8_isQueue
  by_cases c1 : ∃ i, i < hm h ∧ x = nI i
  · obtain ⟨i, hi, rfl⟩ := c1
    rw [no8_yes H M hi, Option.bind_some]
    dsimp only
    rw [if_neg (by decide)]
    by_cases c2 : ∃ g, g < hG h ∧ y = nI g
    · obtain ⟨g, hg, rfl⟩ := c2
      have hgg := H.2.2.2.2.2.1 g hg
      rw [go8_yes H M hg, Option.bind_some]
      dsimp only
      rw [li_2, if_neg (by decide), if_pos (jIn_lit (by omega) (by omega)), nI_clamp (by omega), M.1 _ (by omega), hgg.1, if_pos]
      by_cases c3 : hgo h g = i
      · rw [c3]
      · exact absurd ⟨i, g, ⟨rfl, rfl⟩, hi, hg, c3⟩ hno
    · rw [go8_no H M c2, Option.bind_some]
      dsimp only
      rw [if_pos rfl]
  · rw [no8_no H M c1, Option.bind_some]
    dsimp only
    rw [if_pos rfl]
