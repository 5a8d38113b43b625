/-! ===== numbers in a text ===== -/
/-- a figure at place k of a text of n letters -/
def tDig (T : Nat → Int32) (n k : Nat) : Prop := k < n ∧ 48 ≤ (T k).toInt ∧ (T k).toInt ≤ 57
/-- one or two figures from k on: the number, and where it ends -/
def tNum (T : Nat → Int32) (n k : Nat) (v : Nat) (k' : Nat) : Prop := tDig T n k ∧ ((tDig T n (k + 1) ∧ k' = k + 2 ∧ (v : Int) = ((T k).toInt - 48) * 10 + ((T (k + 1)).toInt - 48)) ∨ (¬ tDig T n (k + 1) ∧ k' = k + 1 ∧ (v : Int) = (T k).toInt - 48))
/-- w numbers with commas between, a stop behind: the numbers, and the place behind the stop -/
def tNs (T : Nat → Int32) (n : Nat) : Nat → Nat → List Nat → Nat → Prop
  | 0, _, _, _ => False
  | w + 1, k, L, e => ∃ v k', tNum T n k v k' ∧ k' < n ∧ ((w = 0 ∧ T k' = 59 ∧ L = [v] ∧ e = k' + 1) ∨ (w ≠ 0 ∧ T k' = 44 ∧ ∃ L', L = v :: L' ∧ tNs T n w (k' + 1) L' e))
theorem tNum_fun {T : Nat → Int32} {n k v k' v2 k2 : Nat} (h : tNum T n k v k') (h2 : tNum T n k v2 k2) : v = v2 ∧ k' = k2 := by
  obtain ⟨-, h | h⟩ := h
  · obtain ⟨-, h2 | h2⟩ := h2
    · exact ⟨by omega, by omega⟩
    · exact absurd h.1 h2.1
  · obtain ⟨-, h2 | h2⟩ := h2
    · exact absurd h2.1 h.1
    · exact ⟨by omega, by omega⟩
theorem tNum_lt {T : Nat → Int32} {n k v k' : Nat} (h : tNum T n k v k') : v < 100 ∧ k < k' ∧ k' ≤ k + 2 := by
  obtain ⟨⟨a, b, c⟩, ⟨⟨-, d, e⟩, g, i⟩ | ⟨-, g, i⟩⟩ := h
  · exact ⟨by omega, by omega, by omega⟩
  · exact ⟨by omega, by omega, by omega⟩
theorem tNs_len {T : Nat → Int32} {n : Nat} : ∀ {w k : Nat} {L : List Nat} {e : Nat}, tNs T n w k L e → L.length = w ∧ (∀ v ∈ L, v < 100) ∧ k < e ∧ e ≤ n ∧ T (e - 1) = 59
  | 0, _, _, _, h => h.elim
  | w + 1, k, L, e, ⟨v, k', h1, h2, h3⟩ => by
    have hv := tNum_lt h1
    rcases h3 with ⟨rfl, a, rfl, rfl⟩ | ⟨hw, a, L', rfl, h4⟩
    · exact ⟨rfl, fun x hx => by rw [List.mem_singleton.mp hx]; exact hv.1, by omega, by omega, by rw [show k' + 1 - 1 = k' by omega]; exact a⟩
    · obtain ⟨i1, i2, i3, i4, i5⟩ := tNs_len h4
      refine ⟨by rw [List.length_cons, i1], fun x hx => ?_, by omega, i4, i5⟩
      rcases List.mem_cons.mp hx with rfl | hx
      · exact hv.1
      · exact i2 x hx
theorem tNs_fun {T : Nat → Int32} {n : Nat} : ∀ {w w2 k : Nat} {L L2 : List Nat} {e e2 : Nat}, tNs T n w k L e → tNs T n w2 k L2 e2 → w = w2 ∧ L = L2 ∧ e = e2
  | 0, _, _, _, _, _, _, h, _ => h.elim
  | w + 1, 0, _, _, _, _, _, _, h => h.elim
  | w + 1, w2 + 1, k, L, L2, e, e2, ⟨v, k', h1, h2, h3⟩, ⟨v2, k2, g1, g2, g3⟩ => by
    obtain ⟨rfl, rfl⟩ := tNum_fun h1 g1
    rcases h3 with ⟨rfl, a, rfl, rfl⟩ | ⟨hw, a, L', rfl, h4⟩
    · rcases g3 with ⟨rfl, b, rfl, rfl⟩ | ⟨hw2, b, L2', rfl, g4⟩
      · exact ⟨rfl, rfl, rfl⟩
      · exact absurd (a.symm.trans b) (by decide)
    · rcases g3 with ⟨rfl, b, rfl, rfl⟩ | ⟨hw2, b, L2', rfl, g4⟩
      · exact absurd (a.symm.trans b) (by decide)
      · obtain ⟨rfl, rfl, rfl⟩ := tNs_fun h4 g4
        exact ⟨rfl, rfl, rfl⟩
/-! the class: readNumbers -/
theorem i32_lt {x y : Int32} : x < y ↔ x.toInt < y.toInt := Int32.lt_iff_toInt_lt
theorem i32_le {x y : Int32} : x ≤ y ↔ x.toInt ≤ y.toInt := Int32.le_iff_toInt_le
theorem ti48 : (48 : Int32).toInt = 48 := by decide
theorem ti57 : (57 : Int32).toInt = 57 := by decide
theorem i32_nI {x : Int32} (h0 : 0 ≤ x.toInt) : x = nI x.toInt.toNat := by
  have hx := Int32.toInt_lt x
  apply Int32.toInt_inj.mp
  rw [nI_toInt (by omega)]
  omega
theorem fig {x : Int32} (h1 : 48 ≤ x.toInt) (h2 : x.toInt ≤ 57) : ∃ d, d ≤ 9 ∧ x = nI (48 + d) ∧ (d : Int) = x.toInt - 48 := by
  refine ⟨(x.toInt - 48).toNat, by omega, ?_, by omega⟩
  rw [show 48 + (x.toInt - 48).toNat = x.toInt.toNat by omega]
  exact i32_nI (by omega)
/-- the text, as the class holds it -/
def gq11 (r : jR) : Bool := r == (11, 0)
/-- one letter of readNumbers -/
theorem rn_end {fu : Nat} {S : jS} {e rd : Nat} {x4 x5 : Int32} (he : e < 200) : fX5_readNumbers_11 (fu + 1) S (nI e) (nI rd) x4 x5 (nI (e + 1)) = some (nI rd, S) := by
  show bX5_readNumbers_11 (fX5_readNumbers_11 fu) S (nI e) (nI rd) x4 x5 (nI (e + 1)) = _
  unfold bX5_readNumbers_11
  rw [if_pos ((nI_ltI (by omega) (by omega)).mpr (by omega))]
theorem rn_fig {fu : Nat} {S : jS} {e k d figs val : Nat} {x3 : Int32} (he : e < 200) (hk : k ≤ e) (hd : d ≤ 9) (hT : S.2 (10, 0) k = nI (48 + d)) (hf : figs < 2) : fX5_readNumbers_11 (fu + 1) S (nI e) x3 (nI figs) (nI val) (nI k) = fX5_readNumbers_11 fu S (nI e) x3 (nI (figs + 1)) (nI (val * 10 + d)) (nI (k + 1)) := by
  show bX5_readNumbers_11 (fX5_readNumbers_11 fu) S (nI e) x3 (nI figs) (nI val) (nI k) = _
  unfold bX5_readNumbers_11
  rw [if_neg (fun h => by have := (nI_ltI (a := e) (b := k) (by omega) (by omega)).mp h; omega), if_pos (jIn_lit (by omega) (by omega)), nI_clamp (by omega), hT]
  unfold jlet bX5_readNumbers_111 jlet
  dsimp only
  rw [if_neg (fun h : nI (48 + d) < (48 : Int32) => by have := (nI_ltI (a := 48 + d) (b := 48) (by omega) (by omega)).mp h; omega), if_neg (fun h : (57 : Int32) < nI (48 + d) => by have := (nI_ltI (a := 57) (b := 48 + d) (by omega) (by omega)).mp h; omega), if_neg (fun h : (2 : Int32) ≤ nI figs => by have := (nI_leI (a := 2) (b := figs) (by omega) (by omega)).mp h; omega), nI_1, nI_1]
  have e1 : nI (48 + d) - (48 : Int32) = nI d := by
    rw [show (48 : Int32) = nI 48 from rfl, pk_sub (by omega)]
    congr 1
    omega
  have e2 : nI val * (10 : Int32) = nI (val * 10) := by rw [show (10 : Int32) = nI 10 from rfl, pk_mul]
  rw [e1, e2, nI_add]
/-- a letter that is no figure that counts -/
theorem rn_other {fu : Nat} {S : jS} {e k rd figs val : Nat} (he : e < 200) (hk : k ≤ e) (hrd : rd ≤ 3) (hT : ¬ (48 ≤ (S.2 (10, 0) k).toInt ∧ (S.2 (10, 0) k).toInt ≤ 57) ∨ 2 ≤ figs) (hf : figs ≤ 2) : fX5_readNumbers_11 (fu + 1) S (nI e) (nI rd) (nI figs) (nI val) (nI k) = if (S.2 (10, 0) k = 44 ∨ S.2 (10, 0) k = 59) ∧ 0 < figs ∧ rd < 3 then fX5_readNumbers_11 fu (jput S (11, 0) (upd (S.2 (11, 0)) rd (nI val))) (nI e) (nI (rd + 1)) (nI 0) (nI 0) (nI (k + 1)) else some (0, S) := by
  show bX5_readNumbers_11 (fX5_readNumbers_11 fu) S (nI e) (nI rd) (nI figs) (nI val) (nI k) = _
  unfold bX5_readNumbers_11
  rw [if_neg (fun h => by have := (nI_ltI (a := e) (b := k) (by omega) (by omega)).mp h; omega), if_pos (jIn_lit (by omega) (by omega)), nI_clamp (by omega)]
  unfold jlet
  dsimp only
  have key : bX5_readNumbers_65 (fX5_readNumbers_11 fu) S (nI e) (nI rd) (nI figs) (nI val) (nI k) (S.2 (10, 0) k) = if (S.2 (10, 0) k = 44 ∨ S.2 (10, 0) k = 59) ∧ 0 < figs ∧ rd < 3 then fX5_readNumbers_11 fu (jput S (11, 0) (upd (S.2 (11, 0)) rd (nI val))) (nI e) (nI (rd + 1)) (nI 0) (nI 0) (nI (k + 1)) else some (0, S) := by
    have h79 : bX5_readNumbers_79 (fX5_readNumbers_11 fu) S (nI e) (nI rd) (nI figs) (nI val) (nI k) = if 0 < figs ∧ rd < 3 then fX5_readNumbers_11 fu (jput S (11, 0) (upd (S.2 (11, 0)) rd (nI val))) (nI e) (nI (rd + 1)) (nI 0) (nI 0) (nI (k + 1)) else some (0, S) := by
      unfold bX5_readNumbers_79
      have h0 : nI figs ≤ (0 : Int32) ↔ figs ≤ 0 := nI_leI (b := 0) (by omega) (by omega)
      have h3 : (3 : Int32) ≤ nI rd ↔ 3 ≤ rd := nI_leI (a := 3) (by omega) (by omega)
      by_cases c0 : figs ≤ 0
      · rw [if_pos (h0.mpr c0), if_neg (by omega)]
      · rw [if_neg (fun q => c0 (h0.mp q))]
        by_cases c3 : 3 ≤ rd
        · rw [if_pos (h3.mpr c3), if_neg (by omega)]
        · rw [if_neg (fun q => c3 (h3.mp q)), if_pos (jIn_lit (by omega) (by omega)), nI_clamp (by omega), if_pos (show 0 < figs ∧ rd < 3 by omega)]
          unfold jlet bX5_readNumbers_111 jlet
          dsimp only
          rw [nI_1, nI_1]
          rfl
    unfold bX5_readNumbers_65
    rw [h79]
    by_cases c1 : S.2 (10, 0) k = 44
    · rw [if_pos c1]
      by_cases c : 0 < figs ∧ rd < 3
      · rw [if_pos c, if_pos ⟨Or.inl c1, c⟩]
      · rw [if_neg c, if_neg (fun q => c q.2)]
    · rw [if_neg c1]
      by_cases c2 : S.2 (10, 0) k = 59
      · rw [if_pos c2]
        by_cases c : 0 < figs ∧ rd < 3
        · rw [if_pos c, if_pos ⟨Or.inr c2, c⟩]
        · rw [if_neg c, if_neg (fun q => c q.2)]
      · rw [if_neg c2, if_neg (fun q => by rcases q.1 with q | q; exact c1 q; exact c2 q)]
  by_cases d1 : S.2 (10, 0) k < (48 : Int32)
  · rw [if_pos d1]; exact key
  · rw [if_neg d1]
    by_cases d2 : (57 : Int32) < S.2 (10, 0) k
    · rw [if_pos d2]; exact key
    · rw [if_neg d2]
      have h2 : (2 : Int32) ≤ nI figs ↔ 2 ≤ figs := nI_leI (a := 2) (by omega) (by omega)
      have a1 := i32_lt (x := S.2 (10, 0) k) (y := 48)
      have a2 := i32_lt (x := 57) (y := S.2 (10, 0) k)
      rw [ti48] at a1
      rw [ti57] at a2
      rw [if_pos (h2.mpr (by
        rcases hT with hT | hT
        · exfalso
          apply hT
          refine ⟨?_, ?_⟩
          · exact Int.not_lt.mp (fun q => d1 (a1.mpr q))
          · exact Int.not_lt.mp (fun q => d2 (a2.mpr q))
        · exact hT))]
      exact key
