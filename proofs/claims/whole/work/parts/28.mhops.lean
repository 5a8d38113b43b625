/-! ===== hops of the reference ===== -/
theorem li_3m (a : Nat) : (3 : Int32) * nI a = nI (3 * a) := pk_mul 3 a
theorem li_m3 (a : Nat) : nI a * (3 : Int32) = nI (3 * a) := by rw [show (3 : Int32) = nI 3 from rfl, pk_mul, Nat.mul_comm]
theorem li_1 (a : Nat) : (1 : Int32) + nI a = nI (1 + a) := nI_add 1 a
theorem li_2 (a : Nat) : (2 : Int32) + nI a = nI (2 + a) := nI_add 2 a
theorem li_6 (a : Nat) : (6 : Int32) + nI a = nI (6 + a) := nI_add 6 a
theorem li_36 (a : Nat) : (36 : Int32) + nI a = nI (36 + a) := nI_add 36 a
theorem li_46 (a : Nat) : (46 : Int32) + nI a = nI (46 + a) := nI_add 46 a
theorem li_67 (a : Nat) : (67 : Int32) + nI a = nI (67 + a) := nI_add 67 a
theorem li_70 (a : Nat) : (70 : Int32) + nI a = nI (70 + a) := nI_add 70 a
theorem li_73 (a : Nat) : (73 : Int32) + nI a = nI (73 + a) := nI_add 73 a
theorem li_77 (a : Nat) : (77 : Int32) + nI a = nI (77 + a) := nI_add 77 a
theorem li_41m (a : Nat) : (41 : Int32) * nI a = nI (41 * a) := pk_mul 41 a
theorem li_p1 (a : Nat) : nI a + (1 : Int32) = nI (a + 1) := nI_1 a
theorem li_p2 (a : Nat) : nI a + (2 : Int32) = nI (a + 2) := nI_add a 2
theorem sX8_firstOf (S : jS) {l : Nat} (hl : l < 10) : fX8_firstOf S (nI l) = some (S.2 (50, 0) (6 + 3 * l), S) := by
  unfold fX8_firstOf
  rw [li_3m, li_6, if_pos (jIn_lit (by omega) (by omega)), nI_clamp (by omega)]
theorem sX8_secondOf (S : jS) {l : Nat} (hl : l < 10) : fX8_secondOf S (nI l) = some (S.2 (50, 0) (7 + 3 * l), S) := by
  unfold fX8_secondOf
  rw [li_3m, li_6, li_p1, if_pos (jIn_lit (by omega) (by omega)), nI_clamp (by omega), show 6 + 3 * l + 1 = 7 + 3 * l by omega]
theorem sX8_roomOf (S : jS) {l : Nat} (hl : l < 10) : fX8_roomOf S (nI l) = some (S.2 (50, 0) (8 + 3 * l), S) := by
  unfold fX8_roomOf
  rw [li_3m, li_6, li_p2, if_pos (jIn_lit (by omega) (by omega)), nI_clamp (by omega), show 6 + 3 * l + 2 = 8 + 3 * l by omega]
def mL (S : jS) (n m G : Nat) (fi se go : Nat → Nat) : Prop := (S.2 (50, 0) 5 = nI n ∧ n ≤ 10 ∧ S.2 (50, 0) 0 = nI m ∧ 1 ≤ m ∧ m ≤ 6 ∧ S.2 (50, 0) 1 = nI G ∧ G ≤ 3) ∧ (∀ l, l < n → S.2 (50, 0) (6 + 3 * l) = nI (fi l) ∧ fi l < m ∧ S.2 (50, 0) (7 + 3 * l) = nI (se l) ∧ se l < m) ∧ ∀ g, g < G → S.2 (50, 0) (2 + g) = nI (go g) ∧ go g < m
theorem mL.put {S : jS} {n m G : Nat} {fi se go : Nat → Nat} {f : Nat → Int32} {a : jR} (h : mL S n m G fi se go) (h1 : a ≠ (50, 0)) : mL (jput S a f) n m G fi se go := by
  unfold mL
  rw [jput_o (Ne.symm h1)]
  exact h
theorem cl5 : (5 : Int32).toNatClampNeg = 5 := by decide
theorem cl1 : (1 : Int32).toNatClampNeg = 1 := by decide
theorem sX8_findsHops_62 {q24 : jS → Int32 → Option jS} {q54 : jS → Int32 → Int32 → Option jS} {n m G g rd : Nat} {fi se go : Nat → Nat} (hg : g < 3) : ∀ (d fu l : Nat) (S : jS) (hp : Nat → Int32), mL S n m G fi se go → S.2 (56, 0) = hRnd fi se g hp l → l + d = n → d < fu → fX8_findsHops_62 q24 q54 fu S (nI g) (nI rd) (nI l) = q54 (jput S (56, 0) (hRnd fi se g hp n)) (nI g) (nI (rd + 1)) := by
  intro d
  induction d with
  | zero =>
    intro fu l S hp N hh hl hfu
    obtain ⟨fu, rfl⟩ : ∃ m, fu = m + 1 := ⟨fu - 1, by omega⟩
    obtain ⟨⟨e3, hn, e1, hm1, hm6, e2, hG⟩, hlk, hgo⟩ := id N
    obtain rfl : l = n := by omega
    show bX8_findsHops_62 q24 q54 (fX8_findsHops_62 q24 q54 fu) S (nI g) (nI rd) (nI l) = _
    unfold bX8_findsHops_62
    rw [if_pos (by decide), cl5, e3, if_pos ((nI_leI (by omega) (by omega)).mpr (Nat.le_refl _)), ← hh]
    unfold jlet
    dsimp only
    rw [nI_1]
    have : jput S (56, 0) (S.2 (56, 0)) = S := by
      show (S.1, jup S.2 (56, 0) (S.2 (56, 0))) = S
      rw [jup_same]
    rw [this]
  | succ d ih =>
    intro fu l S hp N hh hl hfu
    obtain ⟨fu, rfl⟩ : ∃ m, fu = m + 1 := ⟨fu - 1, by omega⟩
    obtain ⟨⟨e3, hn, e1, hm1, hm6, e2, hG⟩, hlk, hgo⟩ := id N
    obtain ⟨l1, l2, l3, l4⟩ := hlk l (by omega)
    show bX8_findsHops_62 q24 q54 (fX8_findsHops_62 q24 q54 fu) S (nI g) (nI rd) (nI l) = _
    unfold bX8_findsHops_62
    rw [if_pos (by decide), cl5, e3, if_neg (fun h => by have := (nI_leI (a := n) (b := l) (by omega) (by omega)).mp h; omega), sX8_firstOf S (by omega), Option.bind_some]
    dsimp only
    rw [sX8_secondOf S (by omega)]
    unfold jlet
    dsimp only
    rw [Option.bind_some]
    dsimp only
    have i2 : jIn (nI (3 * fi l + g)) 18 := jIn_lit (by omega) (by omega)
    have i3 : jIn (nI (3 * se l + g)) 18 := jIn_lit (by omega) (by omega)
    rw [l1, l3, li_3m, li_3m, nI_add, nI_add, if_pos i3, if_pos i2, if_pos i2, nI_clamp (n := 3 * fi l + g) (by omega), nI_clamp (n := 3 * se l + g) (by omega)]
    unfold bX8_findsHops_131 jlet
    dsimp only
    rw [if_pos i2, if_pos i2, nI_clamp (n := 3 * fi l + g) (by omega), nI_1]
    have go1 : ∀ v : Int32, v = (if S.2 (56, 0) (3 * se l + g) + 1 < S.2 (56, 0) (3 * fi l + g) then S.2 (56, 0) (3 * se l + g) + 1 else S.2 (56, 0) (3 * fi l + g)) → fX8_findsHops_62 q24 q54 fu (jput S (56, 0) (upd (S.2 (56, 0)) (3 * fi l + g) v)) (nI g) (nI rd) (nI (l + 1)) = q54 (jput S (56, 0) (hRnd fi se g hp n)) (nI g) (nI (rd + 1)) := by
      intro v hv
      have hstep : upd (S.2 (56, 0)) (3 * fi l + g) v = hRnd fi se g hp (l + 1) := by
        rw [hv, hh]; rfl
      rw [hstep, ih fu (l + 1) _ hp (N.put (by simp)) jput_at (by omega) (by omega), jput_put]
    by_cases c : S.2 (56, 0) (3 * fi l + g) ≤ S.2 (56, 0) (3 * se l + g) + 1
    · rw [if_pos c]
      exact go1 _ (by rw [if_neg (Int32.not_lt.mpr c)])
    · rw [if_neg c]
      exact go1 _ (by rw [if_pos (Int32.not_le.mp c)])
theorem sX8_findsHops_54 {q24 : jS → Int32 → Option jS} {n m G g : Nat} {fi se go : Nat → Nat} (hg : g < 3) : ∀ (d fu rd : Nat) (S : jS), mL S n m G fi se go → rd + d = 6 → d < fu → fX8_findsHops_54 q24 fu S (nI g) (nI rd) = q24 (jput S (56, 0) (hIt fi se n g (S.2 (56, 0)) d)) (nI (g + 1)) := by
  intro d
  induction d with
  | zero =>
    intro fu rd S N hd hfu
    obtain ⟨fu, rfl⟩ : ∃ m, fu = m + 1 := ⟨fu - 1, by omega⟩
    show bX8_findsHops_54 q24 (fX8_findsHops_54 q24 fu) S (nI g) (nI rd) = _
    unfold bX8_findsHops_54
    rw [if_pos (show (6 : Int32) ≤ nI rd from (nI_leI (a := 6) (by omega) (by omega)).mpr (by omega))]
    unfold jlet
    dsimp only
    rw [nI_1]
    have : jput S (56, 0) (hIt fi se n g (S.2 (56, 0)) 0) = S := by
      show (S.1, jup S.2 (56, 0) (S.2 (56, 0))) = S
      rw [jup_same]
    rw [this]
  | succ d ih =>
    intro fu rd S N hd hfu
    obtain ⟨fu, rfl⟩ : ∃ m, fu = m + 1 := ⟨fu - 1, by omega⟩
    show bX8_findsHops_54 q24 (fX8_findsHops_54 q24 fu) S (nI g) (nI rd) = _
    unfold bX8_findsHops_54
    rw [if_neg (show ¬ (6 : Int32) ≤ nI rd from fun h => by have := (nI_leI (a := 6) (b := rd) (by omega) (by omega)).mp h; omega)]
    have h62 := sX8_findsHops_62 (q24 := q24) (q54 := fX8_findsHops_54 q24 fu) (rd := rd) hg n 5000 0 S (S.2 (56, 0)) N rfl (by omega) (by have := N.1.2.1; omega)
    have h62' : fX8_findsHops_62 q24 (fX8_findsHops_54 q24 fu) 5000 S (nI g) (nI rd) 0 = _ := h62
    rw [h62', ih fu (rd + 1) _ (N.put (by simp)) (by omega) (by omega), jput_put, jput_at, hIt_first]
theorem sX8_findsHops_24 {n m G : Nat} {fi se go : Nat → Nat} {hp : Nat → Int32} : ∀ (d fu g : Nat) (S : jS), mL S n m G fi se go → S.2 (56, 0) = hAll fi se go n 6 hp g → g + d = G → d < fu → fX8_findsHops_24 fu S (nI g) = some (jput S (56, 0) (hAll fi se go n 6 hp G)) := by
  intro d
  induction d with
  | zero =>
    intro fu g S N hh hd hfu
    obtain ⟨fu, rfl⟩ : ∃ m, fu = m + 1 := ⟨fu - 1, by omega⟩
    obtain ⟨⟨e3, hn, e1, hm1, hm6, e2, hG⟩, hlk, hgo⟩ := id N
    obtain rfl : g = G := by omega
    show bX8_findsHops_24 (fX8_findsHops_24 fu) S (nI g) = _
    unfold bX8_findsHops_24
    rw [if_pos (by decide), cl1, e2, if_pos ((nI_leI (by omega) (by omega)).mpr (Nat.le_refl _)), ← hh]
    show some S = some (S.1, jup S.2 (56, 0) (S.2 (56, 0)))
    rw [jup_same]
  | succ d ih =>
    intro fu g S N hh hd hfu
    obtain ⟨fu, rfl⟩ : ∃ m, fu = m + 1 := ⟨fu - 1, by omega⟩
    obtain ⟨⟨e3, hn, e1, hm1, hm6, e2, hG⟩, hlk, hgo⟩ := id N
    obtain ⟨g1, g2⟩ := hgo g (by omega)
    show bX8_findsHops_24 (fX8_findsHops_24 fu) S (nI g) = _
    unfold bX8_findsHops_24
    have i2 : jIn (nI (3 * go g + g)) 18 := jIn_lit (by omega) (by omega)
    rw [if_pos (by decide), cl1, e2, if_neg (fun h => by have := (nI_leI (a := G) (b := g) (by omega) (by omega)).mp h; omega), li_2, if_pos (jIn_lit (by omega) (by omega)), nI_clamp (n := 2 + g) (by omega), g1, li_3m, nI_add, if_pos i2, nI_clamp (n := 3 * go g + g) (by omega)]
    unfold jlet
    dsimp only
    have N1 := N.put (f := upd (S.2 (56, 0)) (3 * go g + g) 0) (a := (56, 0)) (by simp)
    have h54 := sX8_findsHops_54 (q24 := fX8_findsHops_24 fu) (show g < 3 by omega) 6 5000 0 _ N1 (by omega) (by omega)
    have h54' : fX8_findsHops_54 (fX8_findsHops_24 fu) 5000 (jput S (56, 0) (upd (S.2 (56, 0)) (3 * go g + g) 0)) (nI g) 0 = _ := h54
    rw [h54', jput_put, jput_at, ih fu (g + 1) _ (N.put (by simp)) (by rw [jput_at, hh]; rfl) (by omega) (by omega), jput_put]
theorem sX8_findsHops_2 {n m G : Nat} {fi se go : Nat → Nat} : ∀ (d fu i : Nat) (S : jS), mL S n m G fi se go → i + d = 18 → d < fu → fX8_findsHops_2 fu S (nI i) = some (jput S (56, 0) (hAll fi se go n 6 (fun j => if i ≤ j ∧ j < 18 then 9 else S.2 (56, 0) j) G)) := by
  intro d
  induction d with
  | zero =>
    intro fu i S N hi hfu
    obtain ⟨fu, rfl⟩ : ∃ m, fu = m + 1 := ⟨fu - 1, by omega⟩
    show bX8_findsHops_2 (fX8_findsHops_2 fu) S (nI i) = _
    unfold bX8_findsHops_2
    rw [if_pos (show (18 : Int32) ≤ nI i from (nI_leI (a := 18) (by omega) (by omega)).mpr (by omega))]
    have : (fun j => if i ≤ j ∧ j < 18 then 9 else S.2 (56, 0) j) = S.2 (56, 0) := by
      funext j
      rw [if_neg (by omega)]
    rw [this]
    exact sX8_findsHops_24 (hp := S.2 (56, 0)) G 5000 0 S N rfl (by omega) (by have := N.1.2.2.2.2.2.2; omega)
  | succ d ih =>
    intro fu i S N hi hfu
    obtain ⟨fu, rfl⟩ : ∃ m, fu = m + 1 := ⟨fu - 1, by omega⟩
    show bX8_findsHops_2 (fX8_findsHops_2 fu) S (nI i) = _
    unfold bX8_findsHops_2
    rw [if_neg (show ¬ (18 : Int32) ≤ nI i from fun h => by have := (nI_leI (a := 18) (b := i) (by omega) (by omega)).mp h; omega), if_pos (jIn_lit (by omega) (by omega)), nI_clamp (by omega)]
    unfold jlet
    dsimp only
    rw [nI_1, ih fu (i + 1) _ (N.put (by simp)) (by omega) (by omega), jput_put, jput_at]
    congr 3
    funext j
    unfold upd
    by_cases e : j = i
    · subst e
      rw [if_neg (by omega), if_pos rfl, if_pos (by omega)]
    · rw [if_neg e]
      by_cases c : i + 1 ≤ j ∧ j < 18
      · rw [if_pos c, if_pos (by omega)]
      · rw [if_neg c, if_neg (by omega)]
theorem sX8_findsHops {n m G : Nat} {fi se go : Nat → Nat} {S : jS} (N : mL S n m G fi se go) : fX8_findsHops S = some (jput S (56, 0) (hAll fi se go n 6 (fun j => if j < 18 then 9 else S.2 (56, 0) j) G)) := by
  have h := sX8_findsHops_2 18 5000 0 S N (by omega) (by omega)
  have h2 : fX8_findsHops S = fX8_findsHops_2 5000 S (nI 0) := rfl
  rw [h2, h]
  congr 3
  funext j
  simp
