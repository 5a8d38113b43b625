/-! ===== the reference's queues ===== -/
def gq50 (r : jR) : Bool := r == (50, 0)
theorem cl65 : (65 : Int32).toNatClampNeg = 65 := by decide
theorem cl66 : (66 : Int32).toNatClampNeg = 66 := by decide
theorem cl76 : (76 : Int32).toNatClampNeg = 76 := by decide
theorem cl0 : (0 : Int32).toNatClampNeg = 0 := by decide
theorem WM_header {row h : Nat → Int32} {qs : Nat → List Int32} {j : Nat} {v : Int32} (M : WM row h qs) (hj : j < 77) : WM (upd row j v) (upd h j v) qs := by
  refine ⟨fun i hi => ?_, fun q hq => ?_⟩
  · unfold upd
    split
    · rfl
    · exact M.1 i hi
  · obtain ⟨m1, m2, m3⟩ := M.2 q hq
    refine ⟨by rw [pk_un (by omega)]; exact m1, m2, fun i hi => ?_⟩
    rw [pk_un (by omega)]
    exact m3 i hi
theorem sX8_comes {S : jS} {h : Nat → Int32} {qs : Nat → List Int32} (M : WM (S.2 (50, 0)) h qs) {i g : Nat} (hi : i < 6) (hg : g < 3) (x : Int32) : ∃ S', fX8_comes S (nI i) (nI g) x = some (if (qs (3 * i + g)).length < 40 then 1 else 0, S') ∧ (if (qs (3 * i + g)).length < 40 then WM (S'.2 (50, 0)) h (va_up qs (3 * i + g) (qs (3 * i + g) ++ [x])) else S' = S) ∧ jFr gp0 gq50 S S' := by
  obtain ⟨m1, m2, m3⟩ := M.2 (3 * i + g) (by omega)
  unfold fX8_comes fX8_queuePlace
  rw [li_3m, nI_add, li_41m, li_77, Option.bind_some]
  have i1 : jIn (nI (77 + 41 * (3 * i + g))) 815 := jIn_lit (by omega) (by omega)
  simp only [if_pos i1, nI_clamp (show 77 + 41 * (3 * i + g) < 2 ^ 31 by omega), m1]
  have h40 : nI (qs (3 * i + g)).length = (40 : Int32) ↔ (qs (3 * i + g)).length = 40 := nI_eq (b := 40) (by omega) (by omega)
  by_cases c : (qs (3 * i + g)).length < 40
  · rw [if_neg (fun q => by have := h40.mp q; omega), if_pos c]
    unfold jlet
    dsimp only
    simp only [jup_self, pk_us, nI_1, nI_add]
    rw [if_pos (jIn_lit (a := 77 + 41 * (3 * i + g) + ((qs (3 * i + g)).length + 1)) (by omega) (by omega)), nI_clamp (n := 77 + 41 * (3 * i + g) + ((qs (3 * i + g)).length + 1)) (by omega), jput_put]
    refine ⟨_, rfl, ?_, jFr.put (by rfl)⟩
    rw [if_pos c, jput_at]
    refine ⟨fun j hj => by rw [pk_un (by omega), pk_un (by omega)]; exact M.1 j hj, fun q hq => ?_⟩
    by_cases e : q = 3 * i + g
    · subst e
      rw [va_up_self]
      refine ⟨by rw [pk_un (by omega), pk_us]; simp, by simp; omega, fun t ht => ?_⟩
      have ht' : t < (qs (3 * i + g)).length + 1 := by simpa using ht
      by_cases et : t = (qs (3 * i + g)).length
      · subst et
        rw [show 78 + 41 * (3 * i + g) + (qs (3 * i + g)).length = 77 + 41 * (3 * i + g) + ((qs (3 * i + g)).length + 1) by omega, pk_us]
        simp [List.getD_eq_getElem?_getD]
      · rw [pk_un (by omega), pk_un (by omega), m3 t (by omega)]
        simp [List.getD_eq_getElem?_getD, List.getElem?_append_left (show t < (qs (3 * i + g)).length by omega)]
    · rw [va_up_ne _ _ e]
      obtain ⟨n1, n2, n3⟩ := M.2 q hq
      refine ⟨by rw [pk_un (by omega), pk_un (by omega)]; exact n1, n2, fun t ht => ?_⟩
      rw [pk_un (by omega), pk_un (by omega)]
      exact n3 t ht
  · rw [if_pos (h40.mpr (by omega)), if_neg c]
    exact ⟨S, rfl, by rw [if_neg c], jFr.rf⟩
def gShf (row : Nat → Int32) (at_ k : Nat) : Nat → Int32 := fun j => if at_ + 1 ≤ j ∧ j < at_ + k then row (j + 1) else row j
theorem gShf_step {row : Nat → Int32} {at_ k : Nat} (hk : 1 ≤ k) : upd (gShf row at_ k) (at_ + k) (gShf row at_ k (at_ + k + 1)) = gShf row at_ (k + 1) := by
  funext j
  unfold upd gShf
  by_cases e : j = at_ + k
  · subst e
    rw [if_pos rfl, if_neg (by omega), if_pos (by omega)]
  · rw [if_neg e]
    by_cases c : at_ + 1 ≤ j ∧ j < at_ + k
    · rw [if_pos c, if_pos (by omega)]
    · rw [if_neg c, if_neg (by omega)]
theorem sX8_leaves_38 {at_ n : Nat} {born : Int32} {row : Nat → Int32} (ha : at_ + 41 ≤ 815) (ha2 : 77 ≤ at_) (hn : n ≤ 40) (h65 : row 65 = 0) (h0 : row at_ = nI n) : ∀ (d fu k : Nat) (S : jS), S.2 (50, 0) = gShf row at_ k → 1 ≤ k → k + d = n → d < fu → fX8_leaves_38 fu S (nI at_) born (nI k) = bX8_leaves_85 (jput S (50, 0) (gShf row at_ n)) (nI at_) born := by
  have i0 : jIn (nI at_) 815 := jIn_lit (by omega) (by omega)
  have e0 : ∀ k, gShf row at_ k at_ = nI n := fun k => by unfold gShf; rw [if_neg (by omega)]; exact h0
  have e65 : ∀ k, gShf row at_ k 65 = 0 := fun k => by unfold gShf; rw [if_neg (by omega)]; exact h65
  intro d
  induction d with
  | zero =>
    intro fu k S hS hk hd hfu
    obtain ⟨fu, rfl⟩ : ∃ m, fu = m + 1 := ⟨fu - 1, by omega⟩
    obtain rfl : k = n := by omega
    show bX8_leaves_38 (fX8_leaves_38 fu) S (nI at_) born (nI k) = _
    unfold bX8_leaves_38
    rw [if_pos i0, nI_clamp (by omega), hS, e0, if_pos ((nI_leI (by omega) (by omega)).mpr (Nat.le_refl _)), ← hS]
    have : jput S (50, 0) (S.2 (50, 0)) = S := by
      show (S.1, jup S.2 (50, 0) (S.2 (50, 0))) = S
      rw [jup_same]
    rw [this]
  | succ d ih =>
    intro fu k S hS hk hd hfu
    obtain ⟨fu, rfl⟩ : ∃ m, fu = m + 1 := ⟨fu - 1, by omega⟩
    show bX8_leaves_38 (fX8_leaves_38 fu) S (nI at_) born (nI k) = _
    unfold bX8_leaves_38
    rw [if_pos i0, nI_clamp (n := at_) (by omega), hS, e0, if_neg (fun h9 => by have := (nI_leI (a := n) (b := k) (by omega) (by omega)).mp h9; omega), if_pos (by decide), cl65, e65, if_pos rfl, nI_add, nI_1, if_pos (jIn_lit (by omega) (by omega)), if_pos (jIn_lit (by omega) (by omega)), nI_clamp (n := at_ + k) (by omega), nI_clamp (n := at_ + k + 1) (by omega), gShf_step hk]
    unfold jlet
    dsimp only
    rw [nI_1, ih fu (k + 1) _ jput_at (by omega) (by omega) (by omega), jput_put]
theorem WM_leave {row row' h : Nat → Int32} {qs : Nat → List Int32} {q : Nat} {L : List Int32} (M : WM row h qs) (hq : q < 18) (ho : ∀ j, (j < 77 + 41 * q ∨ 77 + 41 * q + 41 ≤ j) → row' j = row j) (h1 : row' (77 + 41 * q) = nI L.length) (h2 : L.length ≤ 40) (h3 : ∀ i, i < L.length → row' (78 + 41 * q + i) = L.getD i 0) : WM row' h (va_up qs q L) := by
  refine ⟨fun j hj => by rw [ho j (by omega)]; exact M.1 j hj, fun q' hq' => ?_⟩
  by_cases e : q' = q
  · subst e
    rw [va_up_self]
    exact ⟨h1, h2, h3⟩
  · rw [va_up_ne _ _ e]
    obtain ⟨n1, n2, n3⟩ := M.2 q' hq'
    refine ⟨by rw [ho _ (by omega)]; exact n1, n2, fun t ht => ?_⟩
    rw [ho _ (by omega)]
    exact n3 t ht
theorem sX8_leaves {S : jS} {h : Nat → Int32} {qs : Nat → List Int32} (M : WM (S.2 (50, 0)) h qs) {i g : Nat} (hi : i < 6) (hg : g < 3) (hlaw : h 65 = 0 ∨ h 65 = 1) (hne : (qs (3 * i + g)).length ≠ 0) : ∃ S', fX8_leaves S (nI i) (nI g) = some ((lTk (h 65) (qs (3 * i + g))).1, S') ∧ WM (S'.2 (50, 0)) h (va_up qs (3 * i + g) (lTk (h 65) (qs (3 * i + g))).2) ∧ jFr gp0 gq50 S S' := by
  obtain ⟨m1, m2, m3⟩ := M.2 (3 * i + g) (by omega)
  obtain ⟨t1, t2, t3⟩ := lTk_spec (law := h 65) hne
  have e65 : S.2 (50, 0) 65 = h 65 := M.1 65 (by omega)
  have ia : jIn (nI (77 + 41 * (3 * i + g))) 815 := jIn_lit (by omega) (by omega)
  have hp : nI (qs (3 * i + g)).length - 1 = nI ((qs (3 * i + g)).length - 1) := by
    obtain ⟨m, hm⟩ : ∃ m, (qs (3 * i + g)).length = m + 1 := ⟨(qs (3 * i + g)).length - 1, by omega⟩
    rw [hm, nI_pred]; rfl
  -- the end of a leaving
  have fin : ∀ (R : Nat → Int32) (born : Int32), R (77 + 41 * (3 * i + g)) = nI (qs (3 * i + g)).length → bX8_leaves_85 (jput S (50, 0) R) (nI (77 + 41 * (3 * i + g))) born = some (born, jput S (50, 0) (upd (upd R (77 + 41 * (3 * i + g) + (qs (3 * i + g)).length) 0) (77 + 41 * (3 * i + g)) (nI ((qs (3 * i + g)).length - 1)))) := by
    intro R born hR
    unfold bX8_leaves_85
    rw [jput_at]
    simp only [if_pos ia, nI_clamp (show 77 + 41 * (3 * i + g) < 2 ^ 31 by omega), hR, nI_add]
    rw [if_pos (jIn_lit (by omega) (by omega)), nI_clamp (n := 77 + 41 * (3 * i + g) + (qs (3 * i + g)).length) (by omega)]
    unfold jlet
    dsimp only
    rw [jup_self, pk_un (by omega), hR, hp, jput_put, jput_put]
  have same : jput S (50, 0) (S.2 (50, 0)) = S := by
    show (S.1, jup S.2 (50, 0) (S.2 (50, 0))) = S
    rw [jup_same]
  unfold fX8_leaves fX8_queuePlace
  rw [li_3m, nI_add, li_41m, li_77, Option.bind_some]
  dsimp only
  rw [if_pos (by decide), cl65, e65]
  rcases hlaw with hlaw | hlaw
  · rw [if_pos hlaw]
    unfold bX8_leaves_31
    rw [nI_1, if_pos (jIn_lit (by omega) (by omega)), nI_clamp (by omega)]
    unfold jlet
    dsimp only
    have hsh1 : gShf (S.2 (50, 0)) (77 + 41 * (3 * i + g)) 1 = S.2 (50, 0) := by
      funext j
      unfold gShf
      rw [if_neg (by omega)]
    have hl := sX8_leaves_38 (at_ := 77 + 41 * (3 * i + g)) (n := (qs (3 * i + g)).length) (born := S.2 (50, 0) (77 + 41 * (3 * i + g) + 1)) (row := S.2 (50, 0)) (by omega) (by omega) m2 (e65.trans hlaw) m1 ((qs (3 * i + g)).length - 1) 5000 1 S hsh1.symm (by omega) (by omega) (by omega)
    have hl' : fX8_leaves_38 5000 S (nI (77 + 41 * (3 * i + g))) (S.2 (50, 0) (77 + 41 * (3 * i + g) + 1)) 1 = _ := hl
    have hR : gShf (S.2 (50, 0)) (77 + 41 * (3 * i + g)) (qs (3 * i + g)).length (77 + 41 * (3 * i + g)) = nI (qs (3 * i + g)).length := by
      unfold gShf; rw [if_neg (by omega)]; exact m1
    rw [hl', fin _ _ hR]
    have eb : S.2 (50, 0) (77 + 41 * (3 * i + g) + 1) = (lTk (h 65) (qs (3 * i + g))).1 := by
      have := m3 0 (by omega)
      rw [show 77 + 41 * (3 * i + g) + 1 = 78 + 41 * (3 * i + g) + 0 by omega, this]
      unfold lTk
      rw [if_neg (by rw [hlaw]; decide)]
      cases hL : qs (3 * i + g) with
      | nil => rw [hL] at hne; exact absurd rfl hne
      | cons a l => rfl
    rw [eb]
    refine ⟨_, rfl, ?_, jFr.put (by rfl)⟩
    rw [jput_at]
    refine WM_leave M (by omega) (fun j hj => ?_) ?_ (by omega) (fun t ht => ?_)
    · rw [pk_un (by omega), pk_un (by omega)]
      unfold gShf; rw [if_neg (by omega)]
    · rw [pk_us, show (qs (3 * i + g)).length - 1 = (lTk (h 65) (qs (3 * i + g))).2.length by omega]
    · rw [pk_un (by omega), pk_un (by omega)]
      unfold gShf
      rw [if_pos (by omega), show 78 + 41 * (3 * i + g) + t + 1 = 78 + 41 * (3 * i + g) + (t + 1) by omega, m3 (t + 1) (by omega)]
      unfold lTk
      rw [if_neg (by rw [hlaw]; decide)]
      simp [List.getD_eq_getElem?_getD]
  · rw [if_neg (by rw [hlaw]; decide), if_pos ia, nI_clamp (n := 77 + 41 * (3 * i + g)) (by omega), m1]
    unfold bX8_leaves_31
    rw [nI_add, if_pos (jIn_lit (by omega) (by omega)), nI_clamp (n := 77 + 41 * (3 * i + g) + (qs (3 * i + g)).length) (by omega)]
    unfold jlet
    dsimp only
    have hl : ∀ born, fX8_leaves_38 5000 S (nI (77 + 41 * (3 * i + g))) born 1 = bX8_leaves_85 S (nI (77 + 41 * (3 * i + g))) born := by
      intro born
      show bX8_leaves_38 (fX8_leaves_38 4999) S (nI (77 + 41 * (3 * i + g))) born 1 = _
      unfold bX8_leaves_38
      rw [if_pos ia, nI_clamp (n := 77 + 41 * (3 * i + g)) (by omega), m1]
      split
      · rfl
      · rw [if_pos (by decide), cl65, e65, if_neg (by rw [hlaw]; decide)]
    have hf := fin (S.2 (50, 0)) (S.2 (50, 0) (77 + 41 * (3 * i + g) + (qs (3 * i + g)).length)) m1
    rw [same] at hf
    rw [hl, hf]
    have eb : S.2 (50, 0) (77 + 41 * (3 * i + g) + (qs (3 * i + g)).length) = (lTk (h 65) (qs (3 * i + g))).1 := by
      have := m3 ((qs (3 * i + g)).length - 1) (by omega)
      rw [show 77 + 41 * (3 * i + g) + (qs (3 * i + g)).length = 78 + 41 * (3 * i + g) + ((qs (3 * i + g)).length - 1) by omega, this]
      unfold lTk
      rw [if_pos hlaw, List.getLastD_eq_getLast?, List.getLast?_eq_getElem?, List.getD_eq_getElem?_getD]
    rw [eb]
    refine ⟨_, rfl, ?_, jFr.put (by rfl)⟩
    rw [jput_at]
    refine WM_leave M (by omega) (fun j hj => ?_) ?_ (by omega) (fun t ht => ?_)
    · rw [pk_un (by omega), pk_un (by omega)]
    · rw [pk_us, show (qs (3 * i + g)).length - 1 = (lTk (h 65) (qs (3 * i + g))).2.length by omega]
    · rw [pk_un (by omega), pk_un (by omega), m3 t (by omega)]
      unfold lTk
      rw [if_pos hlaw]
      simp only [List.getD_eq_getElem?_getD]
      rw [List.getElem?_dropLast, if_pos (by omega)]
