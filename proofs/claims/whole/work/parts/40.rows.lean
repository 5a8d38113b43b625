/-! ===== rows of the reference: kept, laid aside, undone ===== -/
theorem WM_congr {row row' h : Nat → Int32} {qs : Nat → List Int32} (e : ∀ j, j < 815 → row' j = row j) (M : WM row h qs) : WM row' h qs := by
  refine ⟨fun j hj => (e j (by omega)).trans (M.1 j hj), fun q hq => ?_⟩
  obtain ⟨m1, m2, m3⟩ := M.2 q hq
  exact ⟨(e _ (by omega)).trans m1, m2, fun i hi => (e _ (by omega)).trans (m3 i hi)⟩
theorem le815 {i : Nat} (h : i < 2 ^ 31) : (815 : Int32) ≤ nI i ↔ 815 ≤ i := nI_leI (a := 815) (by omega) h
theorem le18 {i : Nat} (h : i < 2 ^ 31) : (18 : Int32) ≤ nI i ↔ 18 ≤ i := nI_leI (a := 18) (by omega) h
theorem le2445 {i : Nat} (h : i < 2 ^ 31) : (2445 : Int32) ≤ nI i ↔ 2445 ≤ i := nI_leI (a := 2445) (by omega) h
theorem li_815m (a : Nat) : (815 : Int32) * nI a = nI (815 * a) := pk_mul 815 a
theorem li_p815 (a : Nat) : nI a + (815 : Int32) = nI (a + 815) := nI_add a 815
theorem jput_self {S : jS} {a : jR} : jput S a (S.2 a) = S := by
  show (S.1, jup S.2 a (S.2 a)) = S
  rw [jup_same]
theorem sX8_laysAside_2 : ∀ (d fu i : Nat) (S : jS), i + d = 815 → d < fu → fX8_laysAside_2 fu S (nI i) = some (jput S (51, 0) (fun j => if i ≤ j ∧ j < 815 then S.2 (50, 0) (j) else S.2 (51, 0) j)) := by
  intro d
  induction d with
  | zero =>
    intro fu i S hi hfu
    obtain ⟨fu, rfl⟩ : ∃ m, fu = m + 1 := ⟨fu - 1, by omega⟩
    show bX8_laysAside_2 (fX8_laysAside_2 fu) S (nI i) = _
    unfold bX8_laysAside_2
    rw [if_pos ((le815 (by omega)).mpr (by omega))]
    have : (fun j => if i ≤ j ∧ j < 815 then S.2 (50, 0) (j) else S.2 (51, 0) j) = S.2 (51, 0) := by
      funext j
      rw [if_neg (by omega)]
    rw [this, jput_self]
  | succ d ih =>
    intro fu i S hi hfu
    obtain ⟨fu, rfl⟩ : ∃ m, fu = m + 1 := ⟨fu - 1, by omega⟩
    show bX8_laysAside_2 (fX8_laysAside_2 fu) S (nI i) = _
    unfold bX8_laysAside_2
    rw [if_neg (fun h => by have := (le815 (by omega)).mp h; omega)]
    have i1 : jIn (nI i) 815 := jIn_lit (by omega) (by omega)
    simp only [if_pos i1, nI_clamp (show i < 2 ^ 31 by omega)]
    unfold jlet
    dsimp only
    rw [nI_1, ih fu (i + 1) _ (by omega) (by omega), jput_put, jput_at, jput_o (b := (50, 0)) (by simp)]
    refine congrArg (fun G => some (jput S (51, 0) G)) ?_
    funext j
    unfold upd
    by_cases e : j = i
    · subst e
      rw [if_neg (by omega), if_pos rfl, if_pos (by omega)]
    · rw [if_neg e]
      by_cases c : i + 1 ≤ j ∧ j < 815
      · rw [if_pos c, if_pos (by omega)]
      · rw [if_neg c, if_neg (by omega)]
theorem sX8_comesBack_2 : ∀ (d fu i : Nat) (S : jS), i + d = 815 → d < fu → fX8_comesBack_2 fu S (nI i) = some (jput S (50, 0) (fun j => if i ≤ j ∧ j < 815 then S.2 (51, 0) (j) else S.2 (50, 0) j)) := by
  intro d
  induction d with
  | zero =>
    intro fu i S hi hfu
    obtain ⟨fu, rfl⟩ : ∃ m, fu = m + 1 := ⟨fu - 1, by omega⟩
    show bX8_comesBack_2 (fX8_comesBack_2 fu) S (nI i) = _
    unfold bX8_comesBack_2
    rw [if_pos ((le815 (by omega)).mpr (by omega))]
    have : (fun j => if i ≤ j ∧ j < 815 then S.2 (51, 0) (j) else S.2 (50, 0) j) = S.2 (50, 0) := by
      funext j
      rw [if_neg (by omega)]
    rw [this, jput_self]
  | succ d ih =>
    intro fu i S hi hfu
    obtain ⟨fu, rfl⟩ : ∃ m, fu = m + 1 := ⟨fu - 1, by omega⟩
    show bX8_comesBack_2 (fX8_comesBack_2 fu) S (nI i) = _
    unfold bX8_comesBack_2
    rw [if_neg (fun h => by have := (le815 (by omega)).mp h; omega)]
    have i1 : jIn (nI i) 815 := jIn_lit (by omega) (by omega)
    simp only [if_pos i1, nI_clamp (show i < 2 ^ 31 by omega)]
    unfold jlet
    dsimp only
    rw [nI_1, ih fu (i + 1) _ (by omega) (by omega), jput_put, jput_at, jput_o (b := (51, 0)) (by simp)]
    refine congrArg (fun G => some (jput S (50, 0) G)) ?_
    funext j
    unfold upd
    by_cases e : j = i
    · subst e
      rw [if_neg (by omega), if_pos rfl, if_pos (by omega)]
    · rw [if_neg e]
      by_cases c : i + 1 ≤ j ∧ j < 815
      · rw [if_pos c, if_pos (by omega)]
      · rw [if_neg c, if_neg (by omega)]
theorem sX8_laysFeeds_2 : ∀ (d fu i : Nat) (S : jS), i + d = 18 → d < fu → fX8_laysFeeds_2 fu S (nI i) = some (jput S (64, 0) (fun j => if i ≤ j ∧ j < 18 then S.2 (50, 0) (46 + j) else S.2 (64, 0) j)) := by
  intro d
  induction d with
  | zero =>
    intro fu i S hi hfu
    obtain ⟨fu, rfl⟩ : ∃ m, fu = m + 1 := ⟨fu - 1, by omega⟩
    show bX8_laysFeeds_2 (fX8_laysFeeds_2 fu) S (nI i) = _
    unfold bX8_laysFeeds_2
    rw [if_pos ((le18 (by omega)).mpr (by omega))]
    have : (fun j => if i ≤ j ∧ j < 18 then S.2 (50, 0) (46 + j) else S.2 (64, 0) j) = S.2 (64, 0) := by
      funext j
      rw [if_neg (by omega)]
    rw [this, jput_self]
  | succ d ih =>
    intro fu i S hi hfu
    obtain ⟨fu, rfl⟩ : ∃ m, fu = m + 1 := ⟨fu - 1, by omega⟩
    show bX8_laysFeeds_2 (fX8_laysFeeds_2 fu) S (nI i) = _
    unfold bX8_laysFeeds_2
    rw [if_neg (fun h => by have := (le18 (by omega)).mp h; omega)]
    have i1 : jIn (nI i) 18 := jIn_lit (by omega) (by omega)
    have i2 : jIn (nI (46 + i)) 815 := jIn_lit (by omega) (by omega)
    simp only [li_46, if_pos i1, if_pos i2, nI_clamp (show i < 2 ^ 31 by omega), nI_clamp (show 46 + i < 2 ^ 31 by omega)]
    unfold jlet
    dsimp only
    rw [nI_1, ih fu (i + 1) _ (by omega) (by omega), jput_put, jput_at, jput_o (b := (50, 0)) (by simp)]
    refine congrArg (fun G => some (jput S (64, 0) G)) ?_
    funext j
    unfold upd
    by_cases e : j = i
    · subst e
      rw [if_neg (by omega), if_pos rfl, if_pos (by omega)]
    · rw [if_neg e]
      by_cases c : i + 1 ≤ j ∧ j < 18
      · rw [if_pos c, if_pos (by omega)]
      · rw [if_neg c, if_neg (by omega)]
theorem sX8_laysAside (S : jS) : fX8_laysAside S = some (jput S (51, 0) (fun j => if j < 815 then S.2 (50, 0) j else S.2 (51, 0) j)) := by
  unfold fX8_laysAside
  rw [show (0 : Int32) = nI 0 from rfl, sX8_laysAside_2 815 5000 0 S (by omega) (by omega)]
  refine congrArg (fun G => some (jput S (51, 0) G)) ?_
  funext j
  by_cases c : j < 815
  · rw [if_pos c, if_pos ⟨Nat.zero_le j, c⟩]
  · rw [if_neg c, if_neg (fun q => c q.2)]
theorem sX8_comesBack (S : jS) : fX8_comesBack S = some (jput S (50, 0) (fun j => if j < 815 then S.2 (51, 0) j else S.2 (50, 0) j)) := by
  unfold fX8_comesBack
  rw [show (0 : Int32) = nI 0 from rfl, sX8_comesBack_2 815 5000 0 S (by omega) (by omega)]
  refine congrArg (fun G => some (jput S (50, 0) G)) ?_
  funext j
  by_cases c : j < 815
  · rw [if_pos c, if_pos ⟨Nat.zero_le j, c⟩]
  · rw [if_neg c, if_neg (fun q => c q.2)]
theorem sX8_laysFeeds (S : jS) : fX8_laysFeeds S = some (jput S (64, 0) (fun j => if j < 18 then S.2 (50, 0) (46 + j) else S.2 (64, 0) j)) := by
  unfold fX8_laysFeeds
  rw [show (0 : Int32) = nI 0 from rfl, sX8_laysFeeds_2 18 5000 0 S (by omega) (by omega)]
  refine congrArg (fun G => some (jput S (64, 0) G)) ?_
  funext j
  by_cases c : j < 18
  · rw [if_pos c, if_pos ⟨Nat.zero_le j, c⟩]
  · rw [if_neg c, if_neg (fun q => c q.2)]
theorem sX8_keeps_51 {c : Nat} (hc : c < 4) : ∀ (d fu i : Nat) (S : jS), S.1 (12, 0) = nI c → i + d = 815 → d < fu → fX8_keeps_51 fu S (nI i) = some (jset (jput S (52, 0) (fun j => if 815 * c + i ≤ j ∧ j < 815 * c + 815 then S.2 (50, 0) (j - 815 * c) else S.2 (52, 0) j)) (12, 0) (nI (c + 1))) := by
  intro d
  induction d with
  | zero =>
    intro fu i S e12 hi hfu
    obtain ⟨fu, rfl⟩ : ∃ m, fu = m + 1 := ⟨fu - 1, by omega⟩
    show bX8_keeps_51 (fX8_keeps_51 fu) S (nI i) = _
    unfold bX8_keeps_51
    rw [if_pos ((le815 (by omega)).mpr (by omega))]
    have : (fun j => if 815 * c + i ≤ j ∧ j < 815 * c + 815 then S.2 (50, 0) (j - 815 * c) else S.2 (52, 0) j) = S.2 (52, 0) := by
      funext j
      rw [if_neg (by omega)]
    rw [this, jput_self]
    unfold jlet
    dsimp only
    rw [e12, nI_1]
  | succ d ih =>
    intro fu i S e12 hi hfu
    obtain ⟨fu, rfl⟩ : ∃ m, fu = m + 1 := ⟨fu - 1, by omega⟩
    show bX8_keeps_51 (fX8_keeps_51 fu) S (nI i) = _
    unfold bX8_keeps_51
    have i1 : jIn (nI i) 815 := jIn_lit (by omega) (by omega)
    have i2 : jIn (nI (815 * c + i)) 3260 := jIn_lit (by omega) (by omega)
    rw [if_neg (fun h => by have := (le815 (by omega)).mp h; omega)]
    simp only [e12, li_815m, nI_add, if_pos i1, if_pos i2, nI_clamp (show i < 2 ^ 31 by omega), nI_clamp (show 815 * c + i < 2 ^ 31 by omega)]
    unfold jlet
    dsimp only
    rw [nI_1, ih fu (i + 1) (jput S (52, 0) (upd (S.2 (52, 0)) (815 * c + i) (S.2 (50, 0) i))) e12 (by omega) (by omega), jput_put, jput_at, jput_o (b := (50, 0)) (by simp)]
    refine congrArg (fun G => some (jset (jput S (52, 0) G) (12, 0) (nI (c + 1)))) ?_
    funext j
    unfold upd
    by_cases e : j = 815 * c + i
    · subst e
      rw [if_neg (by omega), if_pos rfl, if_pos (by omega), show 815 * c + i - 815 * c = i by omega]
    · rw [if_neg e]
      by_cases c' : 815 * c + (i + 1) ≤ j ∧ j < 815 * c + 815
      · rw [if_pos c', if_pos (by omega)]
      · rw [if_neg c', if_neg (by omega)]
theorem sX8_keeps_10 : ∀ (d fu i : Nat) (S : jS), i + d = 2445 → d < fu → S.1 (12, 0) = nI 4 → fX8_keeps_10 fu S (nI i) = bX8_keeps_49 (jset (jput S (52, 0) (fun j => if i ≤ j ∧ j < 2445 then S.2 (52, 0) (j + 815) else S.2 (52, 0) j)) (12, 0) (nI 3)) := by
  intro d
  induction d with
  | zero =>
    intro fu i S hi hfu e12
    obtain ⟨fu, rfl⟩ : ∃ m, fu = m + 1 := ⟨fu - 1, by omega⟩
    show bX8_keeps_10 (fX8_keeps_10 fu) S (nI i) = _
    unfold bX8_keeps_10
    rw [if_pos ((le2445 (by omega)).mpr (by omega))]
    have : (fun j => if i ≤ j ∧ j < 2445 then S.2 (52, 0) (j + 815) else S.2 (52, 0) j) = S.2 (52, 0) := by
      funext j
      rw [if_neg (by omega)]
    rw [this, jput_self]
    unfold jlet
    dsimp only
    rw [e12, show nI 4 - (1 : Int32) = nI 3 from by decide]
  | succ d ih =>
    intro fu i S hi hfu e12
    obtain ⟨fu, rfl⟩ : ∃ m, fu = m + 1 := ⟨fu - 1, by omega⟩
    show bX8_keeps_10 (fX8_keeps_10 fu) S (nI i) = _
    unfold bX8_keeps_10
    have i1 : jIn (nI i) 3260 := jIn_lit (by omega) (by omega)
    have i2 : jIn (nI (i + 815)) 3260 := jIn_lit (by omega) (by omega)
    rw [if_neg (fun h => by have := (le2445 (by omega)).mp h; omega)]
    simp only [li_p815, if_pos i1, if_pos i2, nI_clamp (show i < 2 ^ 31 by omega), nI_clamp (show i + 815 < 2 ^ 31 by omega)]
    unfold jlet
    dsimp only
    rw [nI_1, ih fu (i + 1) (jput S (52, 0) (upd (S.2 (52, 0)) i (S.2 (52, 0) (i + 815)))) (by omega) (by omega) e12, jput_put, jput_at]
    refine congrArg (fun G => bX8_keeps_49 (jset (jput S (52, 0) G) (12, 0) (nI 3))) ?_
    funext j
    unfold upd
    by_cases e : j = i
    · subst e
      rw [if_neg (by omega), if_pos rfl, if_pos (by omega)]
    · rw [if_neg e]
      by_cases c' : i + 1 ≤ j ∧ j < 2445
      · rw [if_pos c', if_neg (show ¬ j + 815 = i by omega), if_pos (show i ≤ j ∧ j < 2445 by omega)]
      · rw [if_neg c', if_neg (by omega)]
/-- the reference's now and its past -/
def RM (S : jS) (kept : Nat) (W : Nat → aW) (A : aW) : Prop := WM (S.2 (50, 0)) A.1 A.2 ∧ S.1 (12, 0) = nI kept ∧ kept ≤ 4 ∧ ∀ i, i < kept → WM (fun j => S.2 (52, 0) (815 * (kept - 1 - i) + j)) (W i).1 (W i).2
def gp12 (r : jR) : Bool := r == (12, 0)
def gq52 (r : jR) : Bool := r == (52, 0)
theorem sX8_keeps {S : jS} {kept : Nat} {W : Nat → aW} {A : aW} (R : RM S kept W A) : ∃ S', fX8_keeps S = some S' ∧ RM S' (min (kept + 1) 4) (aPush A W) A ∧ jFr gp12 gq52 S S' := by
  obtain ⟨M, e12, hk, hW⟩ := R
  have h4 : nI kept = (4 : Int32) ↔ kept = 4 := nI_eq (b := 4) (by omega) (by omega)
  unfold fX8_keeps
  rw [e12]
  by_cases c : kept = 4
  · rw [if_pos (h4.mpr c)]
    subst c
    rw [show (0 : Int32) = nI 0 from rfl, sX8_keeps_10 2445 5000 0 S (by omega) (by omega) e12]
    have h51 := sX8_keeps_51 (c := 3) (by omega) 815 5000 0 (jset (jput S (52, 0) (fun j => if 0 ≤ j ∧ j < 2445 then S.2 (52, 0) (j + 815) else S.2 (52, 0) j)) (12, 0) (nI 3)) (by rw [jset_at]) (by omega) (by omega)
    unfold bX8_keeps_49
    rw [show (0 : Int32) = nI 0 from rfl, h51]
    refine ⟨_, rfl, ⟨?_, by rw [jset_at]; rfl, by omega, fun i hi => ?_⟩, (((jFr.put (by rfl)).tr (jFr.set (by rfl))).tr (jFr.put (by rfl))).tr (jFr.set (by rfl))⟩
    · dsimp only
      rw [jup_ne _ _ (by simp), jup_ne _ _ (by simp)]; exact M
    · refine WM_congr (row := fun j => if i = 0 then S.2 (50, 0) j else S.2 (52, 0) (815 * (4 - 1 - (i - 1)) + j)) (fun j hj => ?_) ?_
      · have em : min (4 + 1) 4 = 4 := by omega
        dsimp only
        rw [em, jup_self]
        by_cases e : i = 0
        · subst e
          rw [if_pos (by omega), if_pos rfl, jup_ne _ _ (by simp), show 815 * (4 - 1 - 0) + j - 815 * 3 = j by omega]
        · rw [if_neg (by omega), if_neg e, jup_self, if_pos (by omega), show 815 * (4 - 1 - i) + j + 815 = 815 * (4 - 1 - (i - 1)) + j by omega]
      · unfold aPush
        by_cases e : i = 0
        · subst e; simp only [if_true]; exact M
        · simp only [if_neg e]; exact hW (i - 1) (by omega)
  · rw [if_neg (fun q => c (h4.mp q))]
    have h51 := sX8_keeps_51 (c := kept) (by omega) 815 5000 0 S e12 (by omega) (by omega)
    unfold bX8_keeps_49
    rw [show (0 : Int32) = nI 0 from rfl, h51]
    have em : min (kept + 1) 4 = kept + 1 := by omega
    refine ⟨_, rfl, ⟨?_, by rw [jset_at, em], by omega, fun i hi => ?_⟩, (jFr.put (by rfl)).tr (jFr.set (by rfl))⟩
    · dsimp only
      rw [jup_ne _ _ (by simp)]; exact M
    · refine WM_congr (row := fun j => if i = 0 then S.2 (50, 0) j else S.2 (52, 0) (815 * (kept - 1 - (i - 1)) + j)) (fun j hj => ?_) ?_
      · dsimp only
        rw [jup_self, em]
        by_cases e : i = 0
        · subst e
          rw [if_pos (by omega), if_pos rfl, show 815 * (kept + 1 - 1 - 0) + j - 815 * kept = j by omega]
        · have hd : kept + 1 - 1 - i = kept - 1 - (i - 1) := by omega
          rw [if_neg (by omega), if_neg e, hd]
      · unfold aPush
        by_cases e : i = 0
        · subst e; simp only [if_true]; exact M
        · simp only [if_neg e]; exact hW (i - 1) (by omega)
theorem sX8_undo_22 {c : Nat} (hc : c < 4) : ∀ (d fu i : Nat) (S : jS), S.1 (12, 0) = nI c → i + d = 815 → d < fu → fX8_undo_22 fu S (nI i) = some (nI c, jput S (50, 0) (fun j => if i ≤ j ∧ j < 815 then S.2 (52, 0) (815 * c + j) else S.2 (50, 0) j)) := by
  intro d
  induction d with
  | zero =>
    intro fu i S e12 hi hfu
    obtain ⟨fu, rfl⟩ : ∃ m, fu = m + 1 := ⟨fu - 1, by omega⟩
    show bX8_undo_22 (fX8_undo_22 fu) S (nI i) = _
    unfold bX8_undo_22
    rw [if_pos ((le815 (by omega)).mpr (by omega)), e12]
    have : (fun j => if i ≤ j ∧ j < 815 then S.2 (52, 0) (815 * c + j) else S.2 (50, 0) j) = S.2 (50, 0) := by
      funext j
      rw [if_neg (by omega)]
    rw [this, jput_self]
  | succ d ih =>
    intro fu i S e12 hi hfu
    obtain ⟨fu, rfl⟩ : ∃ m, fu = m + 1 := ⟨fu - 1, by omega⟩
    show bX8_undo_22 (fX8_undo_22 fu) S (nI i) = _
    unfold bX8_undo_22
    have i1 : jIn (nI i) 815 := jIn_lit (by omega) (by omega)
    have i2 : jIn (nI (815 * c + i)) 3260 := jIn_lit (by omega) (by omega)
    rw [if_neg (fun h => by have := (le815 (by omega)).mp h; omega)]
    simp only [e12, li_815m, nI_add, if_pos i1, if_pos i2, nI_clamp (show i < 2 ^ 31 by omega), nI_clamp (show 815 * c + i < 2 ^ 31 by omega)]
    unfold jlet
    dsimp only
    rw [nI_1, ih fu (i + 1) (jput S (50, 0) (upd (S.2 (50, 0)) i (S.2 (52, 0) (815 * c + i)))) e12 (by omega) (by omega), jput_put, jput_at, jput_o (b := (52, 0)) (by simp)]
    refine congrArg (fun G => some (nI c, jput S (50, 0) G)) ?_
    funext j
    unfold upd
    by_cases e : j = i
    · subst e
      rw [if_neg (by omega), if_pos rfl, if_pos (by omega)]
    · rw [if_neg e]
      by_cases c' : i + 1 ≤ j ∧ j < 815
      · rw [if_pos c', if_pos (by omega)]
      · rw [if_neg c', if_neg (by omega)]
theorem sX8_undo {S : jS} {kept : Nat} {W : Nat → aW} {A : aW} (R : RM S kept W A) : ∃ S', fX8_undo S = some (if kept = 0 then -2 else nI (kept - 1), S') ∧ (if kept = 0 then S' = S else RM S' (kept - 1) (fun i => W (i + 1)) (W 0)) ∧ jFr gp12 gq50 S S' := by
  obtain ⟨M, e12, hk, hW⟩ := R
  have hz : nI kept = (0 : Int32) ↔ kept = 0 := nI_eq (b := 0) (by omega) (by omega)
  unfold fX8_undo
  rw [e12]
  by_cases c : kept = 0
  · rw [if_pos (hz.mpr c), if_pos c]
    exact ⟨S, rfl, by rw [if_pos c], jFr.rf⟩
  · rw [if_neg (fun q => c (hz.mp q))]
    simp only [if_neg c]
    have hp : nI kept - 1 = nI (kept - 1) := by
      obtain ⟨m, hm⟩ : ∃ m, kept = m + 1 := ⟨kept - 1, by omega⟩
      rw [hm, nI_pred]; rfl
    rw [hp]
    unfold jlet
    dsimp only
    rw [show (0 : Int32) = nI 0 from rfl, sX8_undo_22 (c := kept - 1) (by omega) 815 5000 0 (jset S (12, 0) (nI (kept - 1))) (by rw [jset_at]) (by omega) (by omega)]
    refine ⟨_, rfl, ⟨?_, ?_, by omega, fun i hi => ?_⟩, (jFr.set (by rfl)).tr (jFr.put (by rfl))⟩
    · rw [jput_at]
      refine WM_congr (fun j hj => ?_) (hW 0 (by omega))
      show (if 0 ≤ j ∧ j < 815 then S.2 (52, 0) (815 * (kept - 1) + j) else _) = _
      rw [if_pos (by omega), show kept - 1 - 0 = kept - 1 by omega]
    · exact (jup_self S.1 (12, 0) (nI (kept - 1)))
    · have := hW (i + 1) (by omega)
      rw [jput_o (b := (52, 0)) (by simp)]
      rw [show kept - 1 - 1 - i = kept - 1 - (i + 1) by omega]
      exact this
