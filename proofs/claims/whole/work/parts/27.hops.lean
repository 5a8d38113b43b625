/-! ===== hops of both sides ===== -/
def hD (g : Nat) (hp : Nat → Int32) (d : Nat → Nat) : Prop := ∀ i, i < 6 → hp (3 * i + g) = nI (d i) ∧ d i ≤ 9
theorem hRel_D {fi se : Nat → Nat} {g l : Nat} {hp : Nat → Int32} {d : Nat → Nat} (h : hD g hp d) (h1 : fi l < 6) (h2 : se l < 6) : hD g (hRel fi se g hp l) (dRel fi se d l) := by
  intro i hi
  unfold hRel dRel
  obtain ⟨a1, a2⟩ := h (fi l) h1
  obtain ⟨b1, b2⟩ := h (se l) h2
  by_cases e : i = fi l
  · subst e
    rw [pk_us, if_pos rfl, a1, b1, nI_1]
    have hc := nI_ltI (a := d (se l) + 1) (b := d (fi l)) (by omega) (by omega)
    by_cases c : d (se l) + 1 < d (fi l)
    · rw [if_pos (hc.mpr c), Nat.min_eq_right (by omega)]
      exact ⟨rfl, by omega⟩
    · rw [if_neg (fun q => c (hc.mp q)), Nat.min_eq_left (by omega)]
      exact ⟨rfl, a2⟩
  · rw [pk_un (by omega), if_neg e]
    exact h i hi
theorem hRnd_D {fi se : Nat → Nat} {g : Nat} {hp : Nat → Int32} {d : Nat → Nat} (h : hD g hp d) : ∀ n, (∀ l, l < n → fi l < 6 ∧ se l < 6) → hD g (hRnd fi se g hp n) (dRnd fi se d n)
  | 0, _ => h
  | n + 1, hl => hRel_D (hRnd_D h n (fun l q => hl l (by omega))) (hl n (by omega)).1 (hl n (by omega)).2
theorem hIt_D {fi se : Nat → Nat} {n g : Nat} {hp : Nat → Int32} {d : Nat → Nat} (h : hD g hp d) (hl : ∀ l, l < n → fi l < 6 ∧ se l < 6) : ∀ r, hD g (hIt fi se n g hp r) (dIt fi se n d r)
  | 0 => h
  | r + 1 => hRnd_D (hIt_D h hl r) n hl
theorem hRnd_o {fi se : Nat → Nat} {g j : Nat} {hp : Nat → Int32} : ∀ n, (∀ l, l < n → fi l < 6) → (∀ i, i < 6 → j ≠ 3 * i + g) → hRnd fi se g hp n j = hp j
  | 0, _, _ => rfl
  | n + 1, h1, h2 => by
    show upd _ _ _ j = _
    rw [pk_un (h2 (fi n) (h1 n (by omega)))]
    exact hRnd_o n (fun l q => h1 l (by omega)) h2
theorem hIt_o {fi se : Nat → Nat} {n g j : Nat} {hp : Nat → Int32} (h1 : ∀ l, l < n → fi l < 6) (h2 : ∀ i, i < 6 → j ≠ 3 * i + g) : ∀ r, hIt fi se n g hp r j = hp j
  | 0 => rfl
  | r + 1 => (hRnd_o n h1 h2).trans (hIt_o h1 h2 r)
theorem hIt_first {fi se : Nat → Nat} {n g : Nat} {hp : Nat → Int32} : ∀ r, hIt fi se n g (hRnd fi se g hp n) r = hIt fi se n g hp (r + 1)
  | 0 => rfl
  | r + 1 => by
    show hRnd fi se g (hIt fi se n g (hRnd fi se g hp n) r) n = hRnd fi se g (hIt fi se n g hp (r + 1)) n
    rw [hIt_first r]
theorem hAll_o {fi se go : Nat → Nat} {n r : Nat} {hp : Nat → Int32} (h1 : ∀ l, l < n → fi l < 6) {j : Nat} : ∀ G, (∀ g, g < G → go g < 6) → (∀ g, g < G → ∀ i, i < 6 → j ≠ 3 * i + g) → hAll fi se go n r hp G j = hp j
  | 0, _, _ => rfl
  | G + 1, h2, h3 => by
    show hIt fi se n G _ r j = _
    rw [hIt_o h1 (h3 G (by omega)), pk_un (h3 G (by omega) _ (h2 G (by omega)))]
    exact hAll_o h1 G (fun g q => h2 g (by omega)) (fun g q => h3 g (by omega))
/-- rounds beyond nodes - 1 change nothing -/
theorem hAll_still {fi se go : Nat → Nat} {n m r r' : Nat} {hp : Nat → Int32} (hm : m ≤ 6) (hl : ∀ l, l < n → fi l < m ∧ se l < m) (hr : m - 1 ≤ r) (hr' : m - 1 ≤ r') (h9 : ∀ i, i < 18 → hp i = 9) : ∀ G, G ≤ 3 → (∀ g, g < G → go g < m) → hAll fi se go n r hp G = hAll fi se go n r' hp G
  | 0, _, _ => rfl
  | G + 1, hG, hgo => by
    have ih := hAll_still (go := go) hm hl hr hr' h9 G (by omega) (fun g q => hgo g (by omega))
    show hIt fi se n G (upd (hAll fi se go n r hp G) (3 * go G + G) 0) r = hIt fi se n G (upd (hAll fi se go n r' hp G) (3 * go G + G) 0) r'
    rw [ih]
    have hl6 : ∀ l, l < n → fi l < 6 ∧ se l < 6 := fun l q => ⟨Nat.lt_of_lt_of_le (hl l q).1 hm, Nat.lt_of_lt_of_le (hl l q).2 hm⟩
    have hgo6 : ∀ g, g < G + 1 → go g < 6 := fun g q => Nat.lt_of_lt_of_le (hgo g q) hm
    have hD0 : hD G (upd (hAll fi se go n r' hp G) (3 * go G + G) 0) (fun i => if i = go G then 0 else 9) := by
      intro i hi
      by_cases e : i = go G
      · subst e
        rw [pk_us]
        simp [nI_0]
      · rw [pk_un (by omega), hAll_o (fun l q => (hl6 l q).1) G (fun g q => hgo6 g (by omega)) (fun g q i' hi' => by omega), h9 _ (by omega)]
        simp [e]
        rfl
    have hst := fun r'' (hr'' : m - 1 ≤ r'') i => dIt_still (fi := fi) (se := se) (n := n) (go := go G) (d := fun i => if i = go G then 0 else 9) hm (hgo G (by omega)) (fun l q => (hl l q).1) (by simp) (fun i hi => by simp [hi]) hr'' i
    funext j
    by_cases hj : ∃ i, i < 6 ∧ j = 3 * i + G
    · obtain ⟨i, hi, rfl⟩ := hj
      rw [(hIt_D hD0 hl6 r i hi).1, (hIt_D hD0 hl6 r' i hi).1, hst r hr i, hst r' hr' i]
    · have hj' : ∀ i, i < 6 → j ≠ 3 * i + G := fun i hi e => hj ⟨i, hi, e⟩
      rw [hIt_o (fun l q => (hl6 l q).1) hj', hIt_o (fun l q => (hl6 l q).1) hj']
theorem hRnd_congr {fi se : Nat → Nat} {g : Nat} {hp hp' : Nat → Int32} (hg : g < 3) (h : ∀ i, i < 18 → hp i = hp' i) : ∀ n, (∀ l, l < n → fi l < 6 ∧ se l < 6) → ∀ i, i < 18 → hRnd fi se g hp n i = hRnd fi se g hp' n i
  | 0, _, i, hi => h i hi
  | n + 1, hl, i, hi => by
    have ih := hRnd_congr hg h n (fun l q => hl l (by omega))
    obtain ⟨a, b⟩ := hl n (by omega)
    show upd _ _ _ i = upd _ _ _ i
    rw [ih (3 * se n + g) (by omega), ih (3 * fi n + g) (by omega)]
    unfold upd
    split
    · rfl
    · exact ih i hi
theorem hIt_congr {fi se : Nat → Nat} {n g : Nat} {hp hp' : Nat → Int32} (hg : g < 3) (h : ∀ i, i < 18 → hp i = hp' i) (hl : ∀ l, l < n → fi l < 6 ∧ se l < 6) : ∀ r i, i < 18 → hIt fi se n g hp r i = hIt fi se n g hp' r i
  | 0, i, hi => h i hi
  | r + 1, i, hi => hRnd_congr hg (hIt_congr hg h hl r) n hl i hi
theorem hAll_congr {fi se go : Nat → Nat} {n r : Nat} {hp hp' : Nat → Int32} (h : ∀ i, i < 18 → hp i = hp' i) (hl : ∀ l, l < n → fi l < 6 ∧ se l < 6) : ∀ G, G ≤ 3 → ∀ i, i < 18 → hAll fi se go n r hp G i = hAll fi se go n r hp' G i
  | 0, _, i, hi => h i hi
  | G + 1, hG, i, hi => by
    refine hIt_congr (by omega) (fun j hj => ?_) hl r i hi
    have ih := hAll_congr (go := go) (r := r) h hl G (by omega) j hj
    unfold upd
    split
    · rfl
    · exact ih
/-! fill -/
theorem jput_put {S : jS} {a : jR} {f f' : Nat → Int32} : jput (jput S a f) a f' = jput S a f' := by
  show (S.1, jup (jup S.2 a f) a f') = (S.1, jup S.2 a f')
  rw [jup_jup]
theorem jput_at {S : jS} {a : jR} {f : Nat → Int32} : (jput S a f).2 a = f := jup_self _ _ _
theorem jput_o {S : jS} {a b : jR} {f : Nat → Int32} (h : b ≠ a) : (jput S a f).2 b = S.2 b := jup_ne _ _ h
theorem sJ7_5 {a : jR} {v : Int32} {N : Nat} (hN : jlen a.1 = N) (hN2 : N < 4000) : ∀ (d fu i : Nat) (S : jS), i + d = N → d < fu → fJ7_fill_53178_5 a fu S v (nI i) (nI N) = some (jput S a (fun j => if i ≤ j ∧ j < N then v else S.2 a j)) := by
  intro d
  induction d with
  | zero =>
    intro fu i S hi hfu
    obtain ⟨fu, rfl⟩ : ∃ m, fu = m + 1 := ⟨fu - 1, by omega⟩
    show bJ7_fill_53178_5 a (fJ7_fill_53178_5 a fu) S v (nI i) (nI N) = _
    unfold bJ7_fill_53178_5
    rw [if_pos ((nI_leI (by omega) (by omega)).mpr (by omega))]
    congr 1
    have : (fun j => if i ≤ j ∧ j < N then v else S.2 a j) = S.2 a := by
      funext j
      rw [if_neg (by omega)]
    rw [this]
    show S = (S.1, jup S.2 a (S.2 a))
    rw [jup_same]
  | succ d ih =>
    intro fu i S hi hfu
    obtain ⟨fu, rfl⟩ : ∃ m, fu = m + 1 := ⟨fu - 1, by omega⟩
    show bJ7_fill_53178_5 a (fJ7_fill_53178_5 a fu) S v (nI i) (nI N) = _
    unfold bJ7_fill_53178_5
    rw [if_neg (fun h => by have := (nI_leI (a := N) (b := i) (by omega) (by omega)).mp h; omega), hN, if_pos (jIn_lit (by omega) (by omega)), nI_clamp (by omega)]
    unfold jlet
    dsimp only
    rw [nI_1, ih fu (i + 1) _ (by omega) (by omega), jput_put, jput_at]
    congr 2
    funext j
    unfold upd
    by_cases e : j = i
    · subst e
      rw [if_neg (by omega), if_pos rfl, if_pos (by omega)]
    · rw [if_neg e]
      by_cases c : i + 1 ≤ j ∧ j < N
      · rw [if_pos c, if_pos (by omega)]
      · rw [if_neg c, if_neg (by omega)]
theorem sJ7 {a : jR} {v : Int32} {S : jS} {N : Nat} (hN : jlen a.1 = N) (hN2 : N < 4000) : fJ7_fill_53178 a S v = some (jput S a (fun j => if j < N then v else S.2 a j)) := by
  have h := sJ7_5 (a := a) (v := v) hN hN2 N 5000 0 S (by omega) (by omega)
  have h2 : fJ7_fill_53178 a S v = fJ7_fill_53178_5 a 5000 S v (nI 0) (nI (jlen a.1)) := rfl
  rw [h2, hN, h]
  congr 2
  funext j
  simp
/-! the class -/
def nL (k : Nat) (S : jS) (n m G : Nat) (fi se go : Nat → Nat) : Prop := (S.1 (3, k) = nI n ∧ n ≤ 10 ∧ S.1 (1, k) = nI m ∧ 1 ≤ m ∧ m ≤ 6 ∧ S.1 (2, k) = nI G ∧ G ≤ 3) ∧ (∀ l, l < n → S.2 (21, k) l = nI (fi l) ∧ fi l < m ∧ S.2 (22, k) l = nI (se l) ∧ se l < m) ∧ ∀ g, g < G → S.2 (20, k) g = nI (go g) ∧ go g < m
theorem nL.put {k : Nat} {S : jS} {n m G : Nat} {fi se go : Nat → Nat} {f : Nat → Int32} {a : jR} (h : nL k S n m G fi se go) (h1 : a ≠ (20, k)) (h2 : a ≠ (21, k)) (h3 : a ≠ (22, k)) : nL k (jput S a f) n m G fi se go := by
  obtain ⟨x, y, z⟩ := h
  refine ⟨x, ?_, ?_⟩
  · rw [jput_o (Ne.symm h2), jput_o (Ne.symm h3)]; exact y
  · rw [jput_o (Ne.symm h1)]; exact z
theorem sX2_shortenWays_2 {k n m G g : Nat} {fi se go : Nat → Nat} (hg : g < 3) : ∀ (d fu l : Nat) (S : jS) (hp : Nat → Int32), nL k S n m G fi se go → S.2 (26, k) = hRnd fi se g hp l → l + d = n → d < fu → fX2_shortenWays_2 k fu S (nI g) (nI l) = some (jput S (26, k) (hRnd fi se g hp n)) := by
  intro d
  induction d with
  | zero =>
    intro fu l S hp N hh hl hfu
    obtain ⟨fu, rfl⟩ : ∃ m, fu = m + 1 := ⟨fu - 1, by omega⟩
    obtain ⟨⟨e3, hn, e1, hm1, hm6, e2, hG⟩, hlk, hgo⟩ := id N
    obtain rfl : l = n := by omega
    show bX2_shortenWays_2 k (fX2_shortenWays_2 k fu) S (nI g) (nI l) = _
    unfold bX2_shortenWays_2
    rw [e3, if_pos ((nI_leI (by omega) (by omega)).mpr (Nat.le_refl _)), ← hh]
    show some S = some (S.1, jup S.2 (26, k) (S.2 (26, k)))
    rw [jup_same]
  | succ d ih =>
    intro fu l S hp N hh hl hfu
    obtain ⟨fu, rfl⟩ : ∃ m, fu = m + 1 := ⟨fu - 1, by omega⟩
    obtain ⟨⟨e3, hn, e1, hm1, hm6, e2, hG⟩, hlk, hgo⟩ := id N
    obtain ⟨l1, l2, l3, l4⟩ := hlk l (by omega)
    show bX2_shortenWays_2 k (fX2_shortenWays_2 k fu) S (nI g) (nI l) = _
    unfold bX2_shortenWays_2 fX7_spot
    rw [e3, if_neg (fun h => by have := (nI_leI (a := n) (b := l) (by omega) (by omega)).mp h; omega)]
    simp only [Option.bind_some]
    have i1 : jIn (nI l) 10 := jIn_lit (by omega) (by omega)
    have ef : nI (fi l) * (3 : Int32) + nI g = nI (3 * fi l + g) := by
      have := pk_mul (fi l) 3
      rw [show (3 : Int32) = nI 3 from rfl, this, nI_add, Nat.mul_comm]
    have es : nI (se l) * (3 : Int32) + nI g = nI (3 * se l + g) := by
      have := pk_mul (se l) 3
      rw [show (3 : Int32) = nI 3 from rfl, this, nI_add, Nat.mul_comm]
    have i2 : jIn (nI (3 * fi l + g)) 18 := jIn_lit (by omega) (by omega)
    have i3 : jIn (nI (3 * se l + g)) 18 := jIn_lit (by omega) (by omega)
    rw [if_pos i1]
    simp only [nI_clamp (show l < 2 ^ 31 by omega), l1, l3, ef, es, if_pos i1, if_pos i2, if_pos i3, nI_clamp (show 3 * fi l + g < 2 ^ 31 by omega), nI_clamp (show 3 * se l + g < 2 ^ 31 by omega)]
    unfold jlet
    dsimp only
    rw [nI_1]
    have hstep : upd (S.2 (26, k)) (3 * fi l + g) (if S.2 (26, k) (3 * se l + g) + 1 < S.2 (26, k) (3 * fi l + g) then S.2 (26, k) (3 * se l + g) + 1 else S.2 (26, k) (3 * fi l + g)) = hRnd fi se g hp (l + 1) := by
      rw [hh]; rfl
    rw [hstep, ih fu (l + 1) _ hp (N.put (by simp) (by simp) (by simp)) jput_at (by omega) (by omega), jput_put]
theorem sX2_shortenWays {k n m G g : Nat} {fi se go : Nat → Nat} {S : jS} (hg : g < 3) (N : nL k S n m G fi se go) : fX2_shortenWays k S (nI g) = some (jput S (26, k) (hRnd fi se g (S.2 (26, k)) n)) :=
  sX2_shortenWays_2 hg n 5000 0 S (S.2 (26, k)) N rfl (by omega) (by have := N.1.2.1; omega)
theorem sX2_findHops_37 {k n m G g : Nat} {fi se go : Nat → Nat} {q : jS → Int32 → Option jS} (hg : g < 3) : ∀ (d fu rd : Nat) (S : jS), nL k S n m G fi se go → rd + d = m → d < fu → fX2_findHops_37 k q fu S (nI g) (nI rd) = q (jput S (26, k) (hIt fi se n g (S.2 (26, k)) d)) (nI (g + 1)) := by
  intro d
  induction d with
  | zero =>
    intro fu rd S N hd hfu
    obtain ⟨fu, rfl⟩ : ∃ m, fu = m + 1 := ⟨fu - 1, by omega⟩
    obtain ⟨⟨e3, hn, e1, hm1, hm6, e2, hG⟩, hlk, hgo⟩ := id N
    show bX2_findHops_37 k q (fX2_findHops_37 k q fu) S (nI g) (nI rd) = _
    unfold bX2_findHops_37
    rw [e1, if_pos ((nI_leI (by omega) (by omega)).mpr (by omega))]
    unfold jlet
    dsimp only
    rw [nI_1]
    have : jput S (26, k) (hIt fi se n g (S.2 (26, k)) 0) = S := by
      show (S.1, jup S.2 (26, k) (S.2 (26, k))) = S
      rw [jup_same]
    rw [this]
  | succ d ih =>
    intro fu rd S N hd hfu
    obtain ⟨fu, rfl⟩ : ∃ m, fu = m + 1 := ⟨fu - 1, by omega⟩
    obtain ⟨⟨e3, hn, e1, hm1, hm6, e2, hG⟩, hlk, hgo⟩ := id N
    show bX2_findHops_37 k q (fX2_findHops_37 k q fu) S (nI g) (nI rd) = _
    unfold bX2_findHops_37
    rw [e1, if_neg (fun h => by have := (nI_leI (a := m) (b := rd) (by omega) (by omega)).mp h; omega), sX2_shortenWays hg N, Option.bind_some]
    unfold jlet
    dsimp only
    rw [nI_1, ih fu (rd + 1) _ (N.put (by simp) (by simp) (by simp)) (by omega) (by omega), jput_put, jput_at, hIt_first]
theorem sX2_findHops_11 {k n m G : Nat} {fi se go : Nat → Nat} {hp : Nat → Int32} : ∀ (d fu g : Nat) (S : jS), nL k S n m G fi se go → S.2 (26, k) = hAll fi se go n (m - 1) hp g → g + d = G → d < fu → fX2_findHops_11 k fu S (nI g) = some (jput S (26, k) (hAll fi se go n (m - 1) hp G)) := by
  intro d
  induction d with
  | zero =>
    intro fu g S N hh hd hfu
    obtain ⟨fu, rfl⟩ : ∃ m, fu = m + 1 := ⟨fu - 1, by omega⟩
    obtain ⟨⟨e3, hn, e1, hm1, hm6, e2, hG⟩, hlk, hgo⟩ := id N
    obtain rfl : g = G := by omega
    show bX2_findHops_11 k (fX2_findHops_11 k fu) S (nI g) = _
    unfold bX2_findHops_11
    rw [e2, if_pos ((nI_leI (by omega) (by omega)).mpr (Nat.le_refl _)), ← hh]
    show some S = some (S.1, jup S.2 (26, k) (S.2 (26, k)))
    rw [jup_same]
  | succ d ih =>
    intro fu g S N hh hd hfu
    obtain ⟨fu, rfl⟩ : ∃ m, fu = m + 1 := ⟨fu - 1, by omega⟩
    obtain ⟨⟨e3, hn, e1, hm1, hm6, e2, hG⟩, hlk, hgo⟩ := id N
    obtain ⟨g1, g2⟩ := hgo g (by omega)
    show bX2_findHops_11 k (fX2_findHops_11 k fu) S (nI g) = _
    unfold bX2_findHops_11 fX7_spot
    have i1 : jIn (nI g) 3 := jIn_lit (by omega) (by omega)
    have eg : nI (go g) * (3 : Int32) + nI g = nI (3 * go g + g) := by
      have := pk_mul (go g) 3
      rw [show (3 : Int32) = nI 3 from rfl, this, nI_add, Nat.mul_comm]
    have i2 : jIn (nI (3 * go g + g)) 18 := jIn_lit (by omega) (by omega)
    rw [e2, if_neg (fun h => by have := (nI_leI (a := G) (b := g) (by omega) (by omega)).mp h; omega), if_pos i1, nI_clamp (by omega), g1]
    simp only [Option.bind_some]
    rw [eg, if_pos i2, nI_clamp (by omega)]
    unfold jlet
    dsimp only
    have N1 := N.put (f := upd (S.2 (26, k)) (3 * go g + g) 0) (a := (26, k)) (by simp) (by simp) (by simp)
    have h37 := sX2_findHops_37 (q := fX2_findHops_11 k fu) (show g < 3 by omega) (m - 1) 5000 1 _ N1 (by omega) (by omega)
    have h37' : fX2_findHops_37 k (fX2_findHops_11 k fu) 5000 (jput S (26, k) (upd (S.2 (26, k)) (3 * go g + g) 0)) (nI g) 1 = _ := h37
    rw [h37', jput_put, jput_at, ih fu (g + 1) _ (N.put (by simp) (by simp) (by simp)) (by rw [jput_at, hh]; rfl) (by omega) (by omega), jput_put]
theorem sX2_findHops {k n m G : Nat} {fi se go : Nat → Nat} {S : jS} (N : nL k S n m G fi se go) : fX2_findHops k S = some (jput S (26, k) (hAll fi se go n (m - 1) (fun j => if j < 18 then 9 else S.2 (26, k) j) G)) := by
  unfold fX2_findHops
  rw [sJ7 (N := 18) rfl (by omega), Option.bind_some]
  have h := sX2_findHops_11 (hp := fun j => if j < 18 then 9 else S.2 (26, k) j) G 5000 0 (jput S (26, k) (fun j => if j < 18 then 9 else S.2 (26, k) j)) (N.put (by simp) (by simp) (by simp)) jput_at (by omega) (by have := N.1.2.2.2.2.2.2; omega)
  rw [jput_put] at h
  exact h
