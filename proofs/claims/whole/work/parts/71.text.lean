/-! ===== the first text ===== -/
def hL (l : List Int32) : Nat → Int32 := fun j => l.getD j 0
theorem hL_upd {l : List Int32} {k : Nat} {x : Int32} (hk : k < l.length) : upd (hL l) k x = hL (l.set k x) := by
  funext j
  show upd (hL l) k x j = (l.set k x).getD j 0
  by_cases c : j = k
  · subst c
    rw [pk_us, List.getD_eq_getElem?_getD, List.getElem?_set_self hk]
    rfl
  · rw [pk_un c, List.getD_eq_getElem?_getD, List.getElem?_set_ne (fun q => c q.symm)]
    show l.getD j 0 = _
    rw [List.getD_eq_getElem?_getD]
theorem ti_n {l l' : List Int32} {u v w : Nat} (h : hm (hL l) = 0 ∧ 2 ≤ u ∧ u ≤ 6) (hk : 0 < l.length) (e : l.set 0 (nI u) = l') : tI (hL l) 110 u v w = some (hL l') := by
  unfold tI
  rw [if_pos rfl, if_pos h, hL_upd hk, e]
theorem ti_b {l l' : List Int32} {u v w : Nat} (h0 : ¬ hm (hL l) = 0) (h : u ≤ 9) (hk : 64 < l.length) (e : l.set 64 (nI u) = l') : tI (hL l) 98 u v w = some (hL l') := by
  unfold tI
  rw [if_neg (by decide), if_neg h0, if_pos rfl, if_pos h, hL_upd hk, e]
theorem ti_f {l l' : List Int32} {u v w : Nat} (h0 : ¬ hm (hL l) = 0) (h : u < hm (hL l) ∧ v < hG (hL l) ∧ hgo (hL l) v ≠ u ∧ w ≤ 9) (hk : 46 + (3 * u + v) < l.length) (e : l.set (46 + (3 * u + v)) (nI w) = l') : tI (hL l) 102 u v w = some (hL l') := by
  unfold tI
  rw [if_neg (by decide), if_neg h0, if_neg (by decide), if_pos rfl, if_pos h, hL_upd hk, e]
theorem ti_g {l l' : List Int32} {u v w G : Nat} (h0 : ¬ hm (hL l) = 0) (eG : hG (hL l) = G) (h : u < hm (hL l) ∧ hG (hL l) < 3 ∧ ∀ g, g < hG (hL l) → hgo (hL l) g ≠ u) (hk : 2 + G < l.length) (hk1 : 1 < (l.set (2 + G) (nI u)).length) (e : (l.set (2 + G) (nI u)).set 1 (nI (G + 1)) = l') : tI (hL l) 103 u v w = some (hL l') := by
  unfold tI
  rw [if_neg (by decide), if_neg h0, if_neg (by decide), if_neg (by decide), if_pos rfl, if_pos h]
  unfold tG
  rw [eG, hL_upd hk, hL_upd hk1, e]
theorem ti_l {l l' : List Int32} {u v w n : Nat} (h0 : ¬ hm (hL l) = 0) (en : hn (hL l) = n) (h : u < hm (hL l) ∧ v < hm (hL l) ∧ u ≠ v ∧ (1 ≤ w ∧ w ≤ 9) ∧ hn (hL l) < 10) (hk : l.length = 66) (hn9 : n < 10) (e : (((l.set (6 + 3 * n) (nI u)).set (6 + 3 * n + 1) (nI v)).set (6 + 3 * n + 2) (nI w)).set 5 (nI (n + 1)) = l') : tI (hL l) 108 u v w = some (hL l') := by
  unfold tI
  rw [if_neg (by decide), if_neg h0, if_neg (by decide), if_neg (by decide), if_neg (by decide), if_pos rfl, if_pos h]
  unfold tL
  rw [en, hL_upd (by omega), hL_upd (by simp only [List.length_set]; omega), hL_upd (by simp only [List.length_set]; omega), hL_upd (by simp only [List.length_set]; omega), e]
theorem tC_L {l l' : List Int32} {u v x y : Nat} (hk : l.length = 66) (hu : u < 10) (hv : v < 10) (e : (l.set (36 + u) (nI x)).set (36 + v) (nI y) = l') : tC (hL l) u v x y = hL l' := by
  unfold tC
  rw [hL_upd (by omega), hL_upd (by simp only [List.length_set]; omega), e]
theorem ti_x {l l' : List Int32} {u v w x y : Nat} (h0 : ¬ hm (hL l) = 0) (h : u < hn (hL l) ∧ v < hn (hL l) ∧ u ≠ v) (ex : hcl (hL l) u ||| 2 ^ v = x) (ey : hcl (hL l) v ||| 2 ^ u = y) (hk : l.length = 66) (hu : u < 10) (hv : v < 10) (e : (l.set (36 + u) (nI x)).set (36 + v) (nI y) = l') : tI (hL l) 120 u v w = some (hL l') := by
  unfold tI
  rw [if_neg (by decide), if_neg h0, if_neg (by decide), if_neg (by decide), if_neg (by decide), if_neg (by decide), if_neg (by decide), if_pos rfl, if_pos h, ex, ey, tC_L hk hu hv e]
theorem tn_1 {T : Nat → Int32} {n k v : Nat} {c : Int32} (hk : k + 1 < n) (hv : v ≤ 9) (h : T k = nI (48 + v)) (hc : T (k + 1) = c) (h5 : ¬ (48 ≤ c.toInt ∧ c.toInt ≤ 57)) : tNum T n k v (k + 1) := by
  refine ⟨⟨by omega, ?_⟩, Or.inr ⟨fun q => h5 (by rw [← hc]; exact q.2), rfl, ?_⟩⟩
  · rw [h, nI_toInt (by omega)]; omega
  · rw [h, nI_toInt (by omega)]; omega
theorem ts_1 {T : Nat → Int32} {n k v : Nat} (hk : k + 1 < n) (hv : v ≤ 9) (h : T k = nI (48 + v)) (hc : T (k + 1) = 59) : tNs T n 1 k [v] (k + 2) :=
  ⟨v, k + 1, tn_1 hk hv h hc (by decide), hk, Or.inl ⟨rfl, hc, rfl, rfl⟩⟩
theorem ts_c {T : Nat → Int32} {n k v w e : Nat} {L : List Nat} (hk : k + 1 < n) (hv : v ≤ 9) (h : T k = nI (48 + v)) (hc : T (k + 1) = 44) (hw : w ≠ 0) (t : tNs T n w (k + 2) L e) : tNs T n (w + 1) k (v :: L) e :=
  ⟨v, k + 1, tn_1 hk hv h hc (by decide), hk, Or.inr ⟨hw, hc, L, rfl, t⟩⟩
theorem ti_at {T : Nat → Int32} {n k e u v w x : Nat} {h h' : Nat → Int32} {c : Int32} {L : List Nat} (hc : T k = c) (hw : tW c = x) (t : tNs T n x (k + 1) L e) (e0 : L.getD 0 0 = u) (e1 : L.getD 1 0 = v) (e2 : L.getD 2 0 = w) (i : tI h c u v w = some h') : tIt T n k h h' e := by
  subst hc
  subst hw
  subst e0
  subst e1
  subst e2
  exact ⟨L, t, i⟩
theorem tr_next {T : Nat → Int32} {n f k e : Nat} {h h1 h' : Nat → Int32} {r : Int32} (hk : k < n) (i : tIt T n k h h1 e) (t : tRd T n f e h1 r h') : tRd T n (f + 1) k h r h' := Or.inr (Or.inr ⟨hk, h1, e, i, t⟩)
def l_T : List Int32 := [110, 53, 59, 103, 52, 59, 103, 50, 59, 108, 48, 44, 49, 44, 51, 59, 108, 49, 44, 52, 44, 50, 59, 108, 48, 44, 51, 44, 50, 59, 108, 51, 44, 52, 44, 50, 59, 108, 49, 44, 50, 44, 49, 59, 108, 51, 44, 50, 44, 50, 59, 108, 50, 44, 52, 44, 49, 59, 120, 48, 44, 50, 59, 120, 49, 44, 51, 59, 120, 52, 44, 53, 59, 102, 48, 44, 48, 44, 50, 59, 102, 48, 44, 49, 44, 49, 59, 102, 51, 44, 49, 44, 49, 59, 98, 49, 59]
def l_0 : List Int32 := [0, 0, 0, 0, 0, 0, 0, 0, 0, 0, 0, 0, 0, 0, 0, 0, 0, 0, 0, 0, 0, 0, 0, 0, 0, 0, 0, 0, 0, 0, 0, 0, 0, 0, 0, 0, 0, 0, 0, 0, 0, 0, 0, 0, 0, 0, 0, 0, 0, 0, 0, 0, 0, 0, 0, 0, 0, 0, 0, 0, 0, 0, 0, 0, 0, 0]
def l_1 : List Int32 := [5, 0, 0, 0, 0, 0, 0, 0, 0, 0, 0, 0, 0, 0, 0, 0, 0, 0, 0, 0, 0, 0, 0, 0, 0, 0, 0, 0, 0, 0, 0, 0, 0, 0, 0, 0, 0, 0, 0, 0, 0, 0, 0, 0, 0, 0, 0, 0, 0, 0, 0, 0, 0, 0, 0, 0, 0, 0, 0, 0, 0, 0, 0, 0, 0, 0]
def l_2 : List Int32 := [5, 1, 4, 0, 0, 0, 0, 0, 0, 0, 0, 0, 0, 0, 0, 0, 0, 0, 0, 0, 0, 0, 0, 0, 0, 0, 0, 0, 0, 0, 0, 0, 0, 0, 0, 0, 0, 0, 0, 0, 0, 0, 0, 0, 0, 0, 0, 0, 0, 0, 0, 0, 0, 0, 0, 0, 0, 0, 0, 0, 0, 0, 0, 0, 0, 0]
def l_3 : List Int32 := [5, 2, 4, 2, 0, 0, 0, 0, 0, 0, 0, 0, 0, 0, 0, 0, 0, 0, 0, 0, 0, 0, 0, 0, 0, 0, 0, 0, 0, 0, 0, 0, 0, 0, 0, 0, 0, 0, 0, 0, 0, 0, 0, 0, 0, 0, 0, 0, 0, 0, 0, 0, 0, 0, 0, 0, 0, 0, 0, 0, 0, 0, 0, 0, 0, 0]
def l_4 : List Int32 := [5, 2, 4, 2, 0, 1, 0, 1, 3, 0, 0, 0, 0, 0, 0, 0, 0, 0, 0, 0, 0, 0, 0, 0, 0, 0, 0, 0, 0, 0, 0, 0, 0, 0, 0, 0, 0, 0, 0, 0, 0, 0, 0, 0, 0, 0, 0, 0, 0, 0, 0, 0, 0, 0, 0, 0, 0, 0, 0, 0, 0, 0, 0, 0, 0, 0]
def l_5 : List Int32 := [5, 2, 4, 2, 0, 2, 0, 1, 3, 1, 4, 2, 0, 0, 0, 0, 0, 0, 0, 0, 0, 0, 0, 0, 0, 0, 0, 0, 0, 0, 0, 0, 0, 0, 0, 0, 0, 0, 0, 0, 0, 0, 0, 0, 0, 0, 0, 0, 0, 0, 0, 0, 0, 0, 0, 0, 0, 0, 0, 0, 0, 0, 0, 0, 0, 0]
def l_6 : List Int32 := [5, 2, 4, 2, 0, 3, 0, 1, 3, 1, 4, 2, 0, 3, 2, 0, 0, 0, 0, 0, 0, 0, 0, 0, 0, 0, 0, 0, 0, 0, 0, 0, 0, 0, 0, 0, 0, 0, 0, 0, 0, 0, 0, 0, 0, 0, 0, 0, 0, 0, 0, 0, 0, 0, 0, 0, 0, 0, 0, 0, 0, 0, 0, 0, 0, 0]
def l_7 : List Int32 := [5, 2, 4, 2, 0, 4, 0, 1, 3, 1, 4, 2, 0, 3, 2, 3, 4, 2, 0, 0, 0, 0, 0, 0, 0, 0, 0, 0, 0, 0, 0, 0, 0, 0, 0, 0, 0, 0, 0, 0, 0, 0, 0, 0, 0, 0, 0, 0, 0, 0, 0, 0, 0, 0, 0, 0, 0, 0, 0, 0, 0, 0, 0, 0, 0, 0]
def l_8 : List Int32 := [5, 2, 4, 2, 0, 5, 0, 1, 3, 1, 4, 2, 0, 3, 2, 3, 4, 2, 1, 2, 1, 0, 0, 0, 0, 0, 0, 0, 0, 0, 0, 0, 0, 0, 0, 0, 0, 0, 0, 0, 0, 0, 0, 0, 0, 0, 0, 0, 0, 0, 0, 0, 0, 0, 0, 0, 0, 0, 0, 0, 0, 0, 0, 0, 0, 0]
def l_9 : List Int32 := [5, 2, 4, 2, 0, 6, 0, 1, 3, 1, 4, 2, 0, 3, 2, 3, 4, 2, 1, 2, 1, 3, 2, 2, 0, 0, 0, 0, 0, 0, 0, 0, 0, 0, 0, 0, 0, 0, 0, 0, 0, 0, 0, 0, 0, 0, 0, 0, 0, 0, 0, 0, 0, 0, 0, 0, 0, 0, 0, 0, 0, 0, 0, 0, 0, 0]
def l_10 : List Int32 := [5, 2, 4, 2, 0, 7, 0, 1, 3, 1, 4, 2, 0, 3, 2, 3, 4, 2, 1, 2, 1, 3, 2, 2, 2, 4, 1, 0, 0, 0, 0, 0, 0, 0, 0, 0, 0, 0, 0, 0, 0, 0, 0, 0, 0, 0, 0, 0, 0, 0, 0, 0, 0, 0, 0, 0, 0, 0, 0, 0, 0, 0, 0, 0, 0, 0]
def l_11 : List Int32 := [5, 2, 4, 2, 0, 7, 0, 1, 3, 1, 4, 2, 0, 3, 2, 3, 4, 2, 1, 2, 1, 3, 2, 2, 2, 4, 1, 0, 0, 0, 0, 0, 0, 0, 0, 0, 4, 0, 1, 0, 0, 0, 0, 0, 0, 0, 0, 0, 0, 0, 0, 0, 0, 0, 0, 0, 0, 0, 0, 0, 0, 0, 0, 0, 0, 0]
def l_12 : List Int32 := [5, 2, 4, 2, 0, 7, 0, 1, 3, 1, 4, 2, 0, 3, 2, 3, 4, 2, 1, 2, 1, 3, 2, 2, 2, 4, 1, 0, 0, 0, 0, 0, 0, 0, 0, 0, 4, 8, 1, 2, 0, 0, 0, 0, 0, 0, 0, 0, 0, 0, 0, 0, 0, 0, 0, 0, 0, 0, 0, 0, 0, 0, 0, 0, 0, 0]
def l_13 : List Int32 := [5, 2, 4, 2, 0, 7, 0, 1, 3, 1, 4, 2, 0, 3, 2, 3, 4, 2, 1, 2, 1, 3, 2, 2, 2, 4, 1, 0, 0, 0, 0, 0, 0, 0, 0, 0, 4, 8, 1, 2, 32, 16, 0, 0, 0, 0, 0, 0, 0, 0, 0, 0, 0, 0, 0, 0, 0, 0, 0, 0, 0, 0, 0, 0, 0, 0]
def l_14 : List Int32 := [5, 2, 4, 2, 0, 7, 0, 1, 3, 1, 4, 2, 0, 3, 2, 3, 4, 2, 1, 2, 1, 3, 2, 2, 2, 4, 1, 0, 0, 0, 0, 0, 0, 0, 0, 0, 4, 8, 1, 2, 32, 16, 0, 0, 0, 0, 2, 0, 0, 0, 0, 0, 0, 0, 0, 0, 0, 0, 0, 0, 0, 0, 0, 0, 0, 0]
def l_15 : List Int32 := [5, 2, 4, 2, 0, 7, 0, 1, 3, 1, 4, 2, 0, 3, 2, 3, 4, 2, 1, 2, 1, 3, 2, 2, 2, 4, 1, 0, 0, 0, 0, 0, 0, 0, 0, 0, 4, 8, 1, 2, 32, 16, 0, 0, 0, 0, 2, 1, 0, 0, 0, 0, 0, 0, 0, 0, 0, 0, 0, 0, 0, 0, 0, 0, 0, 0]
def l_16 : List Int32 := [5, 2, 4, 2, 0, 7, 0, 1, 3, 1, 4, 2, 0, 3, 2, 3, 4, 2, 1, 2, 1, 3, 2, 2, 2, 4, 1, 0, 0, 0, 0, 0, 0, 0, 0, 0, 4, 8, 1, 2, 32, 16, 0, 0, 0, 0, 2, 1, 0, 0, 0, 0, 0, 0, 0, 0, 1, 0, 0, 0, 0, 0, 0, 0, 0, 0]
def l_17 : List Int32 := [5, 2, 4, 2, 0, 7, 0, 1, 3, 1, 4, 2, 0, 3, 2, 3, 4, 2, 1, 2, 1, 3, 2, 2, 2, 4, 1, 0, 0, 0, 0, 0, 0, 0, 0, 0, 4, 8, 1, 2, 32, 16, 0, 0, 0, 0, 2, 1, 0, 0, 0, 0, 0, 0, 0, 0, 1, 0, 0, 0, 0, 0, 0, 0, 1, 0]
theorem tx_0 : tIt (hL l_T) 97 0 (hL l_0) (hL l_1) 3 := ti_at (c := 110) (x := 1) (u := 5) (v := 0) (w := 0) (by decide +kernel) (by decide +kernel) (ts_1 (T := hL l_T) (n := 97) (k := 1) (v := 5) (by decide) (by decide) (by decide +kernel) (by decide +kernel)) rfl rfl rfl (ti_n (by decide +kernel) (by decide +kernel) (by decide +kernel))
theorem tx_1 : tIt (hL l_T) 97 3 (hL l_1) (hL l_2) 6 := ti_at (c := 103) (x := 1) (u := 4) (v := 0) (w := 0) (by decide +kernel) (by decide +kernel) (ts_1 (T := hL l_T) (n := 97) (k := 4) (v := 4) (by decide) (by decide) (by decide +kernel) (by decide +kernel)) rfl rfl rfl (ti_g (G := 0) (by decide +kernel) (by decide +kernel) (by decide +kernel) (by decide +kernel) (by decide +kernel) (by decide +kernel))
theorem tx_2 : tIt (hL l_T) 97 6 (hL l_2) (hL l_3) 9 := ti_at (c := 103) (x := 1) (u := 2) (v := 0) (w := 0) (by decide +kernel) (by decide +kernel) (ts_1 (T := hL l_T) (n := 97) (k := 7) (v := 2) (by decide) (by decide) (by decide +kernel) (by decide +kernel)) rfl rfl rfl (ti_g (G := 1) (by decide +kernel) (by decide +kernel) (by decide +kernel) (by decide +kernel) (by decide +kernel) (by decide +kernel))
theorem tx_3 : tIt (hL l_T) 97 9 (hL l_3) (hL l_4) 16 := ti_at (c := 108) (x := 3) (u := 0) (v := 1) (w := 3) (by decide +kernel) (by decide +kernel) (ts_c (T := hL l_T) (n := 97) (k := 10) (v := 0) (by decide) (by decide) (by decide +kernel) (by decide +kernel) (by decide) (ts_c (T := hL l_T) (n := 97) (k := 12) (v := 1) (by decide) (by decide) (by decide +kernel) (by decide +kernel) (by decide) (ts_1 (T := hL l_T) (n := 97) (k := 14) (v := 3) (by decide) (by decide) (by decide +kernel) (by decide +kernel)))) rfl rfl rfl (ti_l (n := 0) (by decide +kernel) (by decide +kernel) (by decide +kernel) (by decide +kernel) (by decide +kernel) (by decide +kernel))
theorem tx_4 : tIt (hL l_T) 97 16 (hL l_4) (hL l_5) 23 := ti_at (c := 108) (x := 3) (u := 1) (v := 4) (w := 2) (by decide +kernel) (by decide +kernel) (ts_c (T := hL l_T) (n := 97) (k := 17) (v := 1) (by decide) (by decide) (by decide +kernel) (by decide +kernel) (by decide) (ts_c (T := hL l_T) (n := 97) (k := 19) (v := 4) (by decide) (by decide) (by decide +kernel) (by decide +kernel) (by decide) (ts_1 (T := hL l_T) (n := 97) (k := 21) (v := 2) (by decide) (by decide) (by decide +kernel) (by decide +kernel)))) rfl rfl rfl (ti_l (n := 1) (by decide +kernel) (by decide +kernel) (by decide +kernel) (by decide +kernel) (by decide +kernel) (by decide +kernel))
theorem tx_5 : tIt (hL l_T) 97 23 (hL l_5) (hL l_6) 30 := ti_at (c := 108) (x := 3) (u := 0) (v := 3) (w := 2) (by decide +kernel) (by decide +kernel) (ts_c (T := hL l_T) (n := 97) (k := 24) (v := 0) (by decide) (by decide) (by decide +kernel) (by decide +kernel) (by decide) (ts_c (T := hL l_T) (n := 97) (k := 26) (v := 3) (by decide) (by decide) (by decide +kernel) (by decide +kernel) (by decide) (ts_1 (T := hL l_T) (n := 97) (k := 28) (v := 2) (by decide) (by decide) (by decide +kernel) (by decide +kernel)))) rfl rfl rfl (ti_l (n := 2) (by decide +kernel) (by decide +kernel) (by decide +kernel) (by decide +kernel) (by decide +kernel) (by decide +kernel))
theorem tx_6 : tIt (hL l_T) 97 30 (hL l_6) (hL l_7) 37 := ti_at (c := 108) (x := 3) (u := 3) (v := 4) (w := 2) (by decide +kernel) (by decide +kernel) (ts_c (T := hL l_T) (n := 97) (k := 31) (v := 3) (by decide) (by decide) (by decide +kernel) (by decide +kernel) (by decide) (ts_c (T := hL l_T) (n := 97) (k := 33) (v := 4) (by decide) (by decide) (by decide +kernel) (by decide +kernel) (by decide) (ts_1 (T := hL l_T) (n := 97) (k := 35) (v := 2) (by decide) (by decide) (by decide +kernel) (by decide +kernel)))) rfl rfl rfl (ti_l (n := 3) (by decide +kernel) (by decide +kernel) (by decide +kernel) (by decide +kernel) (by decide +kernel) (by decide +kernel))
theorem tx_7 : tIt (hL l_T) 97 37 (hL l_7) (hL l_8) 44 := ti_at (c := 108) (x := 3) (u := 1) (v := 2) (w := 1) (by decide +kernel) (by decide +kernel) (ts_c (T := hL l_T) (n := 97) (k := 38) (v := 1) (by decide) (by decide) (by decide +kernel) (by decide +kernel) (by decide) (ts_c (T := hL l_T) (n := 97) (k := 40) (v := 2) (by decide) (by decide) (by decide +kernel) (by decide +kernel) (by decide) (ts_1 (T := hL l_T) (n := 97) (k := 42) (v := 1) (by decide) (by decide) (by decide +kernel) (by decide +kernel)))) rfl rfl rfl (ti_l (n := 4) (by decide +kernel) (by decide +kernel) (by decide +kernel) (by decide +kernel) (by decide +kernel) (by decide +kernel))
theorem tx_8 : tIt (hL l_T) 97 44 (hL l_8) (hL l_9) 51 := ti_at (c := 108) (x := 3) (u := 3) (v := 2) (w := 2) (by decide +kernel) (by decide +kernel) (ts_c (T := hL l_T) (n := 97) (k := 45) (v := 3) (by decide) (by decide) (by decide +kernel) (by decide +kernel) (by decide) (ts_c (T := hL l_T) (n := 97) (k := 47) (v := 2) (by decide) (by decide) (by decide +kernel) (by decide +kernel) (by decide) (ts_1 (T := hL l_T) (n := 97) (k := 49) (v := 2) (by decide) (by decide) (by decide +kernel) (by decide +kernel)))) rfl rfl rfl (ti_l (n := 5) (by decide +kernel) (by decide +kernel) (by decide +kernel) (by decide +kernel) (by decide +kernel) (by decide +kernel))
theorem tx_9 : tIt (hL l_T) 97 51 (hL l_9) (hL l_10) 58 := ti_at (c := 108) (x := 3) (u := 2) (v := 4) (w := 1) (by decide +kernel) (by decide +kernel) (ts_c (T := hL l_T) (n := 97) (k := 52) (v := 2) (by decide) (by decide) (by decide +kernel) (by decide +kernel) (by decide) (ts_c (T := hL l_T) (n := 97) (k := 54) (v := 4) (by decide) (by decide) (by decide +kernel) (by decide +kernel) (by decide) (ts_1 (T := hL l_T) (n := 97) (k := 56) (v := 1) (by decide) (by decide) (by decide +kernel) (by decide +kernel)))) rfl rfl rfl (ti_l (n := 6) (by decide +kernel) (by decide +kernel) (by decide +kernel) (by decide +kernel) (by decide +kernel) (by decide +kernel))
theorem tx_10 : tIt (hL l_T) 97 58 (hL l_10) (hL l_11) 63 := ti_at (c := 120) (x := 2) (u := 0) (v := 2) (w := 0) (by decide +kernel) (by decide +kernel) (ts_c (T := hL l_T) (n := 97) (k := 59) (v := 0) (by decide) (by decide) (by decide +kernel) (by decide +kernel) (by decide) (ts_1 (T := hL l_T) (n := 97) (k := 61) (v := 2) (by decide) (by decide) (by decide +kernel) (by decide +kernel))) rfl rfl rfl (ti_x (x := 4) (y := 1) (by decide +kernel) (by decide +kernel) (by decide +kernel) (by decide +kernel) (by decide +kernel) (by decide +kernel) (by decide +kernel) (by decide +kernel))
theorem tx_11 : tIt (hL l_T) 97 63 (hL l_11) (hL l_12) 68 := ti_at (c := 120) (x := 2) (u := 1) (v := 3) (w := 0) (by decide +kernel) (by decide +kernel) (ts_c (T := hL l_T) (n := 97) (k := 64) (v := 1) (by decide) (by decide) (by decide +kernel) (by decide +kernel) (by decide) (ts_1 (T := hL l_T) (n := 97) (k := 66) (v := 3) (by decide) (by decide) (by decide +kernel) (by decide +kernel))) rfl rfl rfl (ti_x (x := 8) (y := 2) (by decide +kernel) (by decide +kernel) (by decide +kernel) (by decide +kernel) (by decide +kernel) (by decide +kernel) (by decide +kernel) (by decide +kernel))
theorem tx_12 : tIt (hL l_T) 97 68 (hL l_12) (hL l_13) 73 := ti_at (c := 120) (x := 2) (u := 4) (v := 5) (w := 0) (by decide +kernel) (by decide +kernel) (ts_c (T := hL l_T) (n := 97) (k := 69) (v := 4) (by decide) (by decide) (by decide +kernel) (by decide +kernel) (by decide) (ts_1 (T := hL l_T) (n := 97) (k := 71) (v := 5) (by decide) (by decide) (by decide +kernel) (by decide +kernel))) rfl rfl rfl (ti_x (x := 32) (y := 16) (by decide +kernel) (by decide +kernel) (by decide +kernel) (by decide +kernel) (by decide +kernel) (by decide +kernel) (by decide +kernel) (by decide +kernel))
theorem tx_13 : tIt (hL l_T) 97 73 (hL l_13) (hL l_14) 80 := ti_at (c := 102) (x := 3) (u := 0) (v := 0) (w := 2) (by decide +kernel) (by decide +kernel) (ts_c (T := hL l_T) (n := 97) (k := 74) (v := 0) (by decide) (by decide) (by decide +kernel) (by decide +kernel) (by decide) (ts_c (T := hL l_T) (n := 97) (k := 76) (v := 0) (by decide) (by decide) (by decide +kernel) (by decide +kernel) (by decide) (ts_1 (T := hL l_T) (n := 97) (k := 78) (v := 2) (by decide) (by decide) (by decide +kernel) (by decide +kernel)))) rfl rfl rfl (ti_f (by decide +kernel) (by decide +kernel) (by decide +kernel) (by decide +kernel))
theorem tx_14 : tIt (hL l_T) 97 80 (hL l_14) (hL l_15) 87 := ti_at (c := 102) (x := 3) (u := 0) (v := 1) (w := 1) (by decide +kernel) (by decide +kernel) (ts_c (T := hL l_T) (n := 97) (k := 81) (v := 0) (by decide) (by decide) (by decide +kernel) (by decide +kernel) (by decide) (ts_c (T := hL l_T) (n := 97) (k := 83) (v := 1) (by decide) (by decide) (by decide +kernel) (by decide +kernel) (by decide) (ts_1 (T := hL l_T) (n := 97) (k := 85) (v := 1) (by decide) (by decide) (by decide +kernel) (by decide +kernel)))) rfl rfl rfl (ti_f (by decide +kernel) (by decide +kernel) (by decide +kernel) (by decide +kernel))
theorem tx_15 : tIt (hL l_T) 97 87 (hL l_15) (hL l_16) 94 := ti_at (c := 102) (x := 3) (u := 3) (v := 1) (w := 1) (by decide +kernel) (by decide +kernel) (ts_c (T := hL l_T) (n := 97) (k := 88) (v := 3) (by decide) (by decide) (by decide +kernel) (by decide +kernel) (by decide) (ts_c (T := hL l_T) (n := 97) (k := 90) (v := 1) (by decide) (by decide) (by decide +kernel) (by decide +kernel) (by decide) (ts_1 (T := hL l_T) (n := 97) (k := 92) (v := 1) (by decide) (by decide) (by decide +kernel) (by decide +kernel)))) rfl rfl rfl (ti_f (by decide +kernel) (by decide +kernel) (by decide +kernel) (by decide +kernel))
theorem tx_16 : tIt (hL l_T) 97 94 (hL l_16) (hL l_17) 97 := ti_at (c := 98) (x := 1) (u := 1) (v := 0) (w := 0) (by decide +kernel) (by decide +kernel) (ts_1 (T := hL l_T) (n := 97) (k := 95) (v := 1) (by decide) (by decide) (by decide +kernel) (by decide +kernel)) rfl rfl rfl (ti_b (by decide +kernel) (by decide +kernel) (by decide +kernel) (by decide +kernel))
theorem tx_all : tRd (hL l_T) 97 18 0 (hL l_0) (-4) (hL l_17) := tr_next (by decide) tx_0 (tr_next (by decide) tx_1 (tr_next (by decide) tx_2 (tr_next (by decide) tx_3 (tr_next (by decide) tx_4 (tr_next (by decide) tx_5 (tr_next (by decide) tx_6 (tr_next (by decide) tx_7 (tr_next (by decide) tx_8 (tr_next (by decide) tx_9 (tr_next (by decide) tx_10 (tr_next (by decide) tx_11 (tr_next (by decide) tx_12 (tr_next (by decide) tx_13 (tr_next (by decide) tx_14 (tr_next (by decide) tx_15 (tr_next (by decide) tx_16 (Or.inl ⟨Nat.le_refl _, rfl, rfl⟩)))))))))))))))))
def h_F : Nat → Int32 := hL l_17
theorem hL_0 : hL l_0 = fun _ => 0 := by
  funext j
  show l_0.getD j 0 = 0
  rcases Nat.lt_or_ge j 66 with h | h
  · have : ∀ j, j < 66 → l_0.getD j 0 = 0 := by decide +kernel
    exact this j h
  · rw [List.getD_eq_getElem?_getD, List.getElem?_eq_none (by show 66 ≤ j; exact h)]
    rfl
theorem tx_rd : tRd (hL l_T) 97 18 0 (fun _ => 0) (-4) h_F := by
  rw [← hL_0]
  exact tx_all
theorem TV_F : TV h_F := tRd_TV (by omega) _ _ _ _ _ TV_zero tx_rd rfl
theorem HV_F : HV h_F := TV_F.hv (by decide +kernel)
theorem h_F_z {j : Nat} (h1 : 66 ≤ j) : h_F j = 0 := by
  show (l_17).getD j 0 = 0
  rw [List.getD_eq_getElem?_getD, List.getElem?_eq_none (by show 66 ≤ j; exact h1)]
  rfl
def A_F : aW := (h_F, fun _ => [])
theorem AV_F : AV 0 A_F := by
  have hz : ∀ j, 66 ≤ j → h_F j = 0 := fun j h1 => h_F_z h1
  exact ⟨HV_F, 0, by omega, fun _ _ => rfl, hz 66 (by omega), fun q hq => ⟨by show 0 ≤ 40; omega, fun x hx => by cases hx⟩, fun _ _ _ _ _ => rfl, fun g hg => ⟨0, 0, hz _ (by omega), by omega, hz _ (by omega), by omega, fun _ => rfl⟩⟩
