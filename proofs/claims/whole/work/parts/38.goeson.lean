/-! ===== the reference's slot, whole ===== -/
theorem sX8_isThere {S : jS} {h : Nat → Int32} {A : aW} {s c : Nat} (M : WM (S.2 (50, 0)) A.1 A.2) (P : PV h s c A) (hs : s < 2 ^ 31) (hc : c < 2 ^ 31) {g b : Nat} (hg : g < 3) (hb : b ≤ s) : ∃ S', fX8_isThere S (nI g) (nI b) = some S' ∧ WM (S'.2 (50, 0)) (aThr A g (nI b)).1 (aThr A g (nI b)).2 ∧ jFr gp0 gq50 S S' := by
  obtain ⟨p1, p2, p3, p4, p5⟩ := P
  obtain ⟨th, lg, t1, t2, t3, t4, t5⟩ := p5 g hg
  have r66 : S.2 (50, 0) 66 = A.1 66 := M.1 66 (by omega)
  have r67 : S.2 (50, 0) (67 + g) = A.1 (67 + g) := M.1 _ (by omega)
  have r70 : S.2 (50, 0) (70 + g) = A.1 (70 + g) := M.1 _ (by omega)
  have r73 : S.2 (50, 0) (73 + g) = A.1 (73 + g) := M.1 _ (by omega)
  have i67 : jIn (nI (67 + g)) 815 := jIn_lit (by omega) (by omega)
  have i70 : jIn (nI (70 + g)) 815 := jIn_lit (by omega) (by omega)
  have i73 : jIn (nI (73 + g)) 815 := jIn_lit (by omega) (by omega)
  have ed : A.1 66 - nI b = nI (s - b) := by rw [p2]; exact pk_sub hb
  have fin : ∀ v : Int32, v = (if A.1 (73 + g) < A.1 66 - nI b then A.1 66 - nI b else A.1 (73 + g)) → ∃ S', bX8_isThere_56 S (nI g) (A.1 66 - nI b) (nI (73 + g)) v = some S' ∧ WM (S'.2 (50, 0)) (aThr A g (nI b)).1 (aThr A g (nI b)).2 ∧ jFr gp0 gq50 S S' := by
    intro v hv
    unfold bX8_isThere_56 jlet
    simp only [li_67, li_70, if_pos i67, if_pos i70, if_pos i73, nI_clamp (show 67 + g < 2 ^ 31 by omega), nI_clamp (show 70 + g < 2 ^ 31 by omega), nI_clamp (show 73 + g < 2 ^ 31 by omega), jup_self]
    rw [pk_un (show 67 + g ≠ 73 + g by omega), r67, pk_un (show 70 + g ≠ 67 + g by omega), pk_un (show 70 + g ≠ 73 + g by omega), r70, jput_put, jput_put]
    refine ⟨_, rfl, ?_, jFr.put (by rfl)⟩
    rw [jput_at]
    unfold aThr
    dsimp only
    rw [← hv]
    exact WM_header (WM_header (WM_header M (by omega)) (by omega)) (by omega)
  unfold fX8_isThere
  rw [if_pos (by decide), cl66, r66]
  unfold jlet
  dsimp only
  rw [li_67, if_pos i67, nI_clamp (n := 67 + g) (by omega), r67, li_73, if_pos i73, if_pos i73, nI_clamp (n := 73 + g) (by omega), r73]
  unfold bX8_isThere_43
  have hz : A.1 (67 + g) = (0 : Int32) ↔ th = 0 := by
    rw [t1]
    exact nI_eq (b := 0) (by omega) (by omega)
  by_cases c1 : th = 0
  · rw [if_pos (hz.mpr c1)]
    refine fin _ ?_
    rw [ed, t3, t5 c1]
    have hcm := nI_ltI (a := 0) (b := s - b) (by omega) (by omega)
    by_cases c2 : 0 < s - b
    · rw [if_pos (hcm.mpr c2)]
    · rw [if_neg (fun q => c2 (hcm.mp q)), show s - b = 0 by omega]
  · rw [if_neg (fun q => c1 (hz.mp q))]
    by_cases c2 : A.1 66 - nI b ≤ A.1 (73 + g)
    · rw [if_pos c2]
      exact fin _ (by rw [if_neg (Int32.not_lt.mpr c2)])
    · rw [if_neg c2]
      exact fin _ (by rw [if_pos (Int32.not_le.mp c2)])
theorem sX8_goesOn_27 {h : Nat → Int32} {cg : Nat → Nat} {s N : Nat} {qF : jS} (H : HV h) (hs : s < 2 ^ 31) (hN : N ≤ 90) {W : List (Nat × Int32)} (hWN : W.length = N) : ∀ (L : List (Nat × Int32)) (fu i c : Nat) (S : jS) (A : aW), W.drop i = L → i ≤ N → WM (S.2 (50, 0)) A.1 A.2 → PV h s c A → c + L.length < 2 ^ 31 → WY S h cg W → (∀ p ∈ L, p.1 < hn h ∧ cg p.1 < hG h ∧ ∃ b, b ≤ s ∧ p.2 = nI b) → L.length < fu →
    ∃ S', fX8_goesOn_27 fu S (nI N) (nI i) = fX8_goesOn_113 5000 S' 0 ∧ WM (S'.2 (50, 0)) (L.foldl (fun B p => aBrx h cg p.1 B p.2) A).1 (L.foldl (fun B p => aBrx h cg p.1 B p.2) A).2 ∧ jFr gp0 gq50 S S' := by
  have hG3 := H.2.1.2.2
  intro L
  induction L with
  | nil =>
    intro fu i c S A hL hi M P hc Y hp hfu
    obtain ⟨fu, rfl⟩ : ∃ m, fu = m + 1 := ⟨fu - 1, by omega⟩
    have hi' : N ≤ i := by
      have := congrArg List.length hL
      rw [List.length_drop] at this
      simp at this
      omega
    refine ⟨S, ?_, M, jFr.rf⟩
    show bX8_goesOn_27 (fX8_goesOn_27 fu) S (nI N) (nI i) = _
    unfold bX8_goesOn_27
    rw [if_pos ((nI_leI (by omega) (by omega)).mpr hi')]
  | cons p L ih =>
    intro fu i c S A hL hi M P hc Y hp hfu
    obtain ⟨fu, rfl⟩ : ∃ m, fu = m + 1 := ⟨fu - 1, by omega⟩
    have hlenL : W.length - i = L.length + 1 := by
      have := congrArg List.length hL
      rw [List.length_drop] at this
      exact this
    have hi' : i < N := by omega
    have hget : W.getD i (0, 0) = p := by
      rw [List.getD_eq_getElem?_getD]
      have : (W.drop i)[0]? = some p := by rw [hL]; rfl
      rw [List.getElem?_drop, Nat.add_zero] at this
      rw [this]; rfl
    have hdrop : W.drop (i + 1) = L := by
      rw [← List.tail_drop, hL]; rfl
    obtain ⟨y1, y2, y3⟩ := Y i (by omega)
    rw [hget] at y1 y2 y3
    obtain ⟨hl, hg, b, hb, hpb⟩ := hp p (by simp)
    obtain ⟨f1, f2⟩ := H.lk hl
    obtain ⟨-, ⟨s1, -⟩, -⟩ := H.2.2.2.2.2.2.2.1 p.1 hl
    have i90 : jIn (nI i) 90 := jIn_lit (by omega) (by omega)
    have Pn : PV h s (c + 1) (aBrx h cg p.1 A p.2) := P.brx (b := 0) H hs hl hg ⟨b, hb, hpb⟩
    have n10 := H.2.2.1.2
    have step : ∃ S1, bX8_goesOn_27 (fX8_goesOn_27 fu) S (nI N) (nI i) = fX8_goesOn_27 fu S1 (nI N) (nI (i + 1)) ∧ WM (S1.2 (50, 0)) (aBrx h cg p.1 A p.2).1 (aBrx h cg p.1 A p.2).2 ∧ jFr gp0 gq50 S S1 := by
      unfold bX8_goesOn_27 bX8_goesOn_105
      simp only [if_pos i90, nI_clamp (show i < 2 ^ 31 by omega)]
      rw [if_neg (fun h9 => by have := (nI_leI (a := N) (b := i) (by omega) (by omega)).mp h9; omega), y1, y2, y3, hpb]
      unfold jlet
      dsimp only
      rw [li_2, if_pos (jIn_lit (by omega) (by omega)), nI_clamp (n := 2 + cg p.1) (by omega), M.1 _ (by omega), P.1 _ (by omega)]
      unfold aBrx
      by_cases c1 : h (2 + cg p.1) = h (7 + 3 * p.1)
      · rw [if_pos c1, if_pos c1.symm]
        obtain ⟨S1, a1, a2, a3⟩ := sX8_isThere M P hs (by simp at hc; omega) (show cg p.1 < 3 by omega) hb
        rw [a1, Option.bind_some, nI_1]
        exact ⟨S1, rfl, a2, a3⟩
      · rw [if_neg c1, if_neg (fun q => c1 q.symm), s1]
        obtain ⟨S1, a1, a2, a3⟩ := sX8_comes M f2 (show cg p.1 < 3 by omega) (nI b)
        rw [a1, Option.bind_some]
        dsimp only
        unfold aAdd
        by_cases c2 : (A.2 (3 * hse h p.1 + cg p.1)).length < 40
        · rw [if_pos c2] at a2 ⊢
          rw [if_neg (by decide), if_pos c2, nI_1]
          exact ⟨S1, rfl, a2, a3⟩
        · rw [if_neg c2] at a2 ⊢
          subst a2
          rw [if_pos rfl, if_pos (by decide), if_pos (by decide), cl76, M.1 76 (by omega), if_neg c2, nI_1]
          exact ⟨_, rfl, by rw [jput_at]; exact WM_header M (by omega), jFr.put (by rfl)⟩
    obtain ⟨S1, a1, a2, a3⟩ := step
    have Y1 : WY S1 h cg W := by
      intro t ht
      rw [a3.2 (61, 0) rfl, a3.2 (62, 0) rfl, a3.2 (63, 0) rfl]
      exact Y t ht
    obtain ⟨S', b1, b2, b3⟩ := ih fu (i + 1) (c + 1) S1 _ hdrop (by omega) a2 Pn (by simp at hc; omega) Y1 (fun p' hp' => hp p' (by simp [hp'])) (by simp at hfu; omega)
    refine ⟨S', ?_, b2, a3.tr b3⟩
    show bX8_goesOn_27 (fX8_goesOn_27 fu) S (nI N) (nI i) = _
    rw [a1]
    exact b1
/-! feeds -/
theorem sX8_goesOn_140 {q113 : jS → Int32 → Option jS} {q126 : jS → Int32 → Int32 → Option jS} {i g n : Nat} {x : Int32} (hi : i < 6) (hg : g < 3) (hn : n < 100) : ∀ (d fu k : Nat) (S : jS) (A : aW), WM (S.2 (50, 0)) A.1 A.2 → A.1 66 = x → S.2 (64, 0) (3 * i + g) = nI n → k + d = n → d < fu → ∃ S', fX8_goesOn_140 q113 q126 fu S (nI i) (nI g) (nI k) = q126 S' (nI i) (nI (g + 1)) ∧ WM (S'.2 (50, 0)) (aAdN A (3 * i + g) x d).1 (aAdN A (3 * i + g) x d).2 ∧ jFr gp0 gq50 S S' := by
  have i1 : jIn (nI (3 * i + g)) 18 := jIn_lit (by omega) (by omega)
  intro d
  induction d with
  | zero =>
    intro fu k S A M e66 ef hd hfu
    obtain ⟨fu, rfl⟩ : ∃ m, fu = m + 1 := ⟨fu - 1, by omega⟩
    refine ⟨S, ?_, M, jFr.rf⟩
    show bX8_goesOn_140 q113 q126 (fX8_goesOn_140 q113 q126 fu) S (nI i) (nI g) (nI k) = _
    unfold bX8_goesOn_140
    rw [li_3m, nI_add, if_pos i1, nI_clamp (by omega), ef, if_pos ((nI_leI (by omega) (by omega)).mpr (by omega))]
    unfold jlet
    dsimp only
    rw [nI_1]
  | succ d ih =>
    intro fu k S A M e66 ef hd hfu
    obtain ⟨fu, rfl⟩ : ∃ m, fu = m + 1 := ⟨fu - 1, by omega⟩
    obtain ⟨S1, a1, a2, a3⟩ := sX8_comes M hi hg x
    have hS2 : ∃ S2, bX8_goesOn_140 q113 q126 (fX8_goesOn_140 q113 q126 fu) S (nI i) (nI g) (nI k) = fX8_goesOn_140 q113 q126 fu S2 (nI i) (nI g) (nI (k + 1)) ∧ WM (S2.2 (50, 0)) (aAdd A (3 * i + g) x).1 (aAdd A (3 * i + g) x).2 ∧ jFr gp0 gq50 S S2 := by
      unfold bX8_goesOn_140
      rw [li_3m, nI_add, if_pos i1, nI_clamp (by omega), ef, if_neg (fun h9 => by have := (nI_leI (a := n) (b := k) (by omega) (by omega)).mp h9; omega), if_pos (by decide), if_pos (by decide), cl66, cl76, M.1 66 (by omega), M.1 76 (by omega), e66, a1, Option.bind_some]
      dsimp only
      unfold aAdd
      by_cases c : (A.2 (3 * i + g)).length < 40
      · simp only [if_pos c] at a2 ⊢
        rw [if_neg (by decide)]
        unfold bX8_goesOn_186 jlet
        dsimp only
        rw [if_pos (by decide), cl76, nI_1]
        have e76 : S1.2 (50, 0) 76 = A.1 76 := a2.1 76 (by omega)
        have hz : A.1 76 + (0 : Int32) = A.1 76 := by grind
        rw [hz, upd_same e76]
        have same : jput S1 (50, 0) (S1.2 (50, 0)) = S1 := by
          show (S1.1, jup S1.2 (50, 0) (S1.2 (50, 0))) = S1
          rw [jup_same]
        rw [same]
        exact ⟨S1, rfl, a2, a3⟩
      · simp only [if_neg c] at a2 ⊢
        subst a2
        rw [if_pos trivial]
        unfold bX8_goesOn_186 jlet
        dsimp only
        rw [if_pos (by decide), cl76, nI_1]
        exact ⟨_, rfl, by rw [jput_at]; exact WM_header M (by omega), jFr.put (by rfl)⟩
    obtain ⟨S2, b1, b2, b3⟩ := hS2
    obtain ⟨S', c1, c2, c3⟩ := ih fu (k + 1) S2 _ b2 ((aAdd_hd (by omega)).trans e66) (by rw [b3.2 (64, 0) rfl]; exact ef) (by omega) (by omega)
    have e : ∀ d, aAdN (aAdd A (3 * i + g) x) (3 * i + g) x d = aAdN A (3 * i + g) x (d + 1) := by
      intro d
      induction d with
      | zero => rfl
      | succ d ih => show aAdd _ _ x = aAdd _ _ x; rw [ih]
    rw [e] at c2
    refine ⟨S', ?_, c2, b3.tr c3⟩
    show bX8_goesOn_140 q113 q126 (fX8_goesOn_140 q113 q126 fu) S (nI i) (nI g) (nI k) = _
    rw [b1]
    exact c1
theorem aAdN_66 {A : aW} {q n : Nat} {x : Int32} : (aAdN A q x n).1 66 = A.1 66 := by
  induction n with
  | zero => rfl
  | succ n ih => show (aAdd _ _ _).1 66 = _; rw [aAdd_hd (by omega)]; exact ih
theorem aAdN_hd {A : aW} {q n j : Nat} {x : Int32} (hj : j ≠ 76) : (aAdN A q x n).1 j = A.1 j := by
  induction n with
  | zero => rfl
  | succ n ih => show (aAdd _ _ _).1 j = _; rw [aAdd_hd hj]; exact ih
theorem aFdG_hd {f : Nat → Nat} {x : Int32} {A : aW} {i j : Nat} (hj : j ≠ 76) : ∀ g, (aFdG f x A i g).1 j = A.1 j
  | 0 => rfl
  | g + 1 => (aAdN_hd hj).trans (aFdG_hd hj g)
theorem sX8_goesOn_126 {q113 : jS → Int32 → Option jS} {i m G : Nat} {f : Nat → Nat} {x : Int32} (hi : i < 6) (him : i < m) (hG : G ≤ 3) (hf : ∀ q, q < 18 → f q < 100) : ∀ (d fu g : Nat) (S : jS) (A B : aW), WM (S.2 (50, 0)) A.1 A.2 → A.1 66 = x → A.1 1 = nI G → (∀ i g, i < m → g < G → S.2 (64, 0) (3 * i + g) = nI (f (3 * i + g))) → aFdG f x B i g = A → g + d = G → d < fu → ∃ S', fX8_goesOn_126 q113 fu S (nI i) (nI g) = q113 S' (nI (i + 1)) ∧ WM (S'.2 (50, 0)) (aFdG f x B i G).1 (aFdG f x B i G).2 ∧ jFr gp0 gq50 S S' := by
  intro d
  induction d with
  | zero =>
    intro fu g S A B M e66 eG ef hB hd hfu
    obtain ⟨fu, rfl⟩ : ∃ m, fu = m + 1 := ⟨fu - 1, by omega⟩
    obtain rfl : g = G := by omega
    refine ⟨S, ?_, by rw [hB]; exact M, jFr.rf⟩
    show bX8_goesOn_126 q113 (fX8_goesOn_126 q113 fu) S (nI i) (nI g) = _
    unfold bX8_goesOn_126
    rw [if_pos (by decide), cl1, M.1 1 (by omega), eG, if_pos ((nI_leI (by omega) (by omega)).mpr (Nat.le_refl _))]
    unfold jlet
    dsimp only
    rw [nI_1]
  | succ d ih =>
    intro fu g S A B M e66 eG ef hB hd hfu
    obtain ⟨fu, rfl⟩ : ∃ m, fu = m + 1 := ⟨fu - 1, by omega⟩
    obtain ⟨S1, a1, a2, a3⟩ := sX8_goesOn_140 (q113 := q113) (q126 := fX8_goesOn_126 q113 fu) (g := g) (n := f (3 * i + g)) hi (by omega) (hf _ (by omega)) (f (3 * i + g)) 5000 0 S A M e66 (ef i g him (by omega)) (by omega) (by have := hf (3 * i + g) (by omega); omega)
    have a1' : fX8_goesOn_140 q113 (fX8_goesOn_126 q113 fu) 5000 S (nI i) (nI g) 0 = _ := a1
    obtain ⟨S', b1, b2, b3⟩ := ih fu (g + 1) S1 _ B a2 (aAdN_66.trans e66) ((aAdN_hd (by omega)).trans eG) (by rw [a3.2 (64, 0) rfl]; exact ef) (by show aAdN _ _ _ _ = _; rw [hB]) (by omega) (by omega)
    refine ⟨S', ?_, b2, a3.tr b3⟩
    show bX8_goesOn_126 q113 (fX8_goesOn_126 q113 fu) S (nI i) (nI g) = _
    unfold bX8_goesOn_126
    rw [if_pos (by decide), cl1, M.1 1 (by omega), eG, if_neg (fun h9 => by have := (nI_leI (a := G) (b := g) (by omega) (by omega)).mp h9; omega), a1']
    exact b1
theorem sX8_goesOn_113 {m G : Nat} {f : Nat → Nat} {x : Int32} (hm : m ≤ 6) (hG : G ≤ 3) (hf : ∀ q, q < 18 → f q < 100) : ∀ (d fu i : Nat) (S : jS) (A B : aW), WM (S.2 (50, 0)) A.1 A.2 → A.1 66 = x → A.1 0 = nI m → A.1 1 = nI G → (∀ i g, i < m → g < G → S.2 (64, 0) (3 * i + g) = nI (f (3 * i + g))) → aFd f x G B i = A → i + d = m → d < fu → ∃ S', fX8_goesOn_113 fu S (nI i) = some S' ∧ WM (S'.2 (50, 0)) (aFd f x G B m).1 (aFd f x G B m).2 ∧ jFr gp0 gq50 S S' := by
  intro d
  induction d with
  | zero =>
    intro fu i S A B M e66 em eG ef hB hd hfu
    obtain ⟨fu, rfl⟩ : ∃ m, fu = m + 1 := ⟨fu - 1, by omega⟩
    obtain rfl : i = m := by omega
    refine ⟨S, ?_, by rw [hB]; exact M, jFr.rf⟩
    show bX8_goesOn_113 (fX8_goesOn_113 fu) S (nI i) = _
    unfold bX8_goesOn_113
    rw [if_pos (by decide), cl0, M.1 0 (by omega), em, if_pos ((nI_leI (by omega) (by omega)).mpr (Nat.le_refl _))]
  | succ d ih =>
    intro fu i S A B M e66 em eG ef hB hd hfu
    obtain ⟨fu, rfl⟩ : ∃ m, fu = m + 1 := ⟨fu - 1, by omega⟩
    obtain ⟨S1, a1, a2, a3⟩ := sX8_goesOn_126 (q113 := fX8_goesOn_113 fu) (show i < 6 by omega) (show i < m by omega) hG hf G 5000 0 S A A M e66 eG ef rfl (by omega) (by omega)
    have a1' : fX8_goesOn_126 (fX8_goesOn_113 fu) 5000 S (nI i) 0 = _ := a1
    obtain ⟨S', b1, b2, b3⟩ := ih fu (i + 1) S1 _ B a2 ((aFdG_hd (by omega) G).trans e66) ((aFdG_hd (by omega) G).trans em) ((aFdG_hd (by omega) G).trans eG) (by rw [a3.2 (64, 0) rfl]; exact ef) (by show aFdG _ _ _ _ _ = _; rw [hB]) (by omega) (by omega)
    refine ⟨S', ?_, b2, a3.tr b3⟩
    show bX8_goesOn_113 (fX8_goesOn_113 fu) S (nI i) = _
    unfold bX8_goesOn_113
    rw [if_pos (by decide), cl0, M.1 0 (by omega), em, if_neg (fun h9 => by have := (nI_leI (a := m) (b := i) (by omega) (by omega)).mp h9; omega), a1']
    exact b1
def gpG (r : jR) : Bool := r == (15, 0) || r == (16, 0)
def gqG (r : jR) : Bool := r == (50, 0) || r == (56, 0) || r == (57, 0) || r == (58, 0) || r == (59, 0) || r == (60, 0) || r == (61, 0) || r == (62, 0) || r == (63, 0)
theorem gqG_50 : ∀ r, gq50 r = true → gqG r = true := fun r h => by
  have h : (r == (50, 0)) = true := h
  simp [gqG, h]
theorem gqG_W : ∀ r, gqW r = true → gqG r = true := fun r h => by
  simp only [gqW, Bool.or_eq_true] at h
  simp only [gqG, Bool.or_eq_true]
  rcases h with ((h | h) | h) | h <;> simp [h]
theorem gqG_56 : ∀ r, gq56 r = true → gqG r = true := fun r h => by
  simp only [gq56, Bool.or_eq_true] at h
  simp only [gqG, Bool.or_eq_true]
  rcases h with (h | h) | h <;> simp [h]
theorem gqG_59 : ∀ r, gq59 r = true → gqG r = true := fun r h => by
  simp only [gq59, Bool.or_eq_true] at h
  simp only [gqG, Bool.or_eq_true]
  rcases h with h | h <;> simp [h]
theorem aWy_mem {outs : Nat → List Int32} {p : Nat × Int32} : ∀ l, p ∈ aWy outs l → p.1 < l ∧ p.2 ∈ outs p.1
  | 0, h => by simp [aWy] at h
  | l + 1, h => by
    unfold aWy at h
    rcases List.mem_append.mp h with h | h
    · have := aWy_mem l h
      exact ⟨by omega, this.2⟩
    · obtain ⟨x, h1, rfl⟩ := List.mem_map.mp h
      exact ⟨by simp, h1⟩
/-- the reference's goesOn: one slot, but for a link, by the feeds laid -/
theorem sX8_goesOn {s : Nat} {but : Int32} {h : Nat → Int32} {qs : Nat → List Int32} {f : Nat → Nat} {S : jS} (H : HV h) (hs : s + 1 < 2 ^ 20) (P : PV h s (90 * s) (h, qs)) (M : WM (S.2 (50, 0)) h qs) (hf : ∀ q, q < 18 → f q < 100) (ef : ∀ i g, i < hm h → g < hG h → S.2 (64, 0) (3 * i + g) = nI (f (3 * i + g))) :
    ∃ b S', aGo h qs (hcl h) (fun l => decide (nI l = but)) b ∧ fX8_goesOn S but = some S' ∧ WM (S'.2 (50, 0)) (aSlot h qs b f).1 (aSlot h qs b f).2 ∧ jFr gpG gqG S S' := by
  obtain ⟨p1, p2, p3, p4, p5⟩ := id P
  have h40 : ∀ q, q < 18 → (qs q).length ≤ 40 := fun q hq => (p3 q hq).1
  have hn10 := H.2.2.1.2
  have hG3 := H.2.1.2.2
  obtain ⟨S1, a1, a2, a3, a4⟩ := sX8_findsChoices H M
  have M1 : WM (S1.2 (50, 0)) h qs := by rw [a4.2 (50, 0) rfl]; exact M
  obtain ⟨S2, b, b1, b2, b3, b4, b5⟩ := sX8_goingW (cl := hcl h) (b := but) H h40 (M1.1 5 (by omega)) (fun a ha => (M1.1 _ (by omega)).trans (H.2.2.2.2.2.2.2.1 a ha).2.2.2.2) H.2.2.2.2.2.2.2.2.1.1 H.2.2.2.2.2.2.2.2.1.2.1 H.cl a2
  have M2 : WM (S2.2 (50, 0)) h qs := by rw [b5.2 (50, 0) rfl]; exact M1
  obtain ⟨cg1, cg2⟩ := aGo_cg H b1
  obtain ⟨S3, c1, c2, c3, c4⟩ := sX8_carries_4 (s := s) H cg1 b1.1.1 p3 p4 (hn h) 5000 0 S2 M2 b3 (fun l hl => by rw [b5.2 (57, 0) rfl, (a2 l (cg1 l hl).1).1, (cg2 l hl).1]) (fun t ht => absurd ht (Nat.not_lt_zero t)) (by omega) (by omega)
  have c1' : fX8_carries S2 = _ := c1
  have CVn := aCar_CV (s := s) H cg1 p3 p4 (hn h)
  have hlen := aWy_len (fun l => (CVn.2.2 l).1) (hn h)
  have p2' : h 66 = nI s := p2
  have e66 : h 66 + 1 = nI (s + 1) := by rw [p2', nI_1]
  have P1 : PV h (s + 1) (90 * s) (upd h 66 (h 66 + 1), (aCar h (aCg h qs) b qs (hn h)).1) := by
    refine ⟨fun j hj => pk_un (by omega), by rw [e66]; exact (pk_us : upd h 66 (nI (s + 1)) 66 = _), fun q hq => ⟨(CVn.1 q hq).1, fun x hx => ?_⟩, CVn.2.1, fun g hg => ?_⟩
    · obtain ⟨b', h1, h2⟩ := (CVn.1 q hq).2 x hx
      exact ⟨b', by omega, h2⟩
    · obtain ⟨th, lg, q1, q2, q3, q4, q5⟩ := p5 g hg
      exact ⟨th, lg, (pk_un (by omega)).trans q1, q2, (pk_un (by omega)).trans q3, by omega, q5⟩
  have M3 : WM ((jput S3 (50, 0) (upd (S3.2 (50, 0)) 66 (h 66 + 1))).2 (50, 0)) (upd h 66 (h 66 + 1)) (aCar h (aCg h qs) b qs (hn h)).1 := by
    rw [jput_at]
    exact WM_header c2 (by omega)
  have Y3 : WY (jput S3 (50, 0) (upd (S3.2 (50, 0)) 66 (h 66 + 1))) h (aCg h qs) (aWy (aCar h (aCg h qs) b qs (hn h)).2 (hn h)) := by
    intro t ht
    rw [jput_o (b := (61, 0)) (by simp), jput_o (b := (62, 0)) (by simp), jput_o (b := (63, 0)) (by simp)]
    exact c3 t ht
  obtain ⟨S4, d1, d2, d3⟩ := sX8_goesOn_27 (qF := S) (s := s + 1) H (by omega) (show (aWy (aCar h (aCg h qs) b qs (hn h)).2 (hn h)).length ≤ 90 by omega) rfl (aWy (aCar h (aCg h qs) b qs (hn h)).2 (hn h)) 5000 0 (90 * s) _ (upd h 66 (h 66 + 1), (aCar h (aCg h qs) b qs (hn h)).1) rfl (by omega) M3 P1 (by omega) Y3 (fun p hp => by
    obtain ⟨q1, q2⟩ := aWy_mem _ hp
    have hne : (aCar h (aCg h qs) b qs (hn h)).2 p.1 ≠ [] := fun e => by rw [e] at q2; cases q2
    obtain ⟨b', x1, x2⟩ := (CVn.2.2 p.1).2.1 _ q2
    exact ⟨(cg1 _ ((CVn.2.2 p.1).2.2 hne)).1, (cg1 _ ((CVn.2.2 p.1).2.2 hne)).2, b', by omega, x2⟩) (by omega)
  rw [← aBr_way] at d2
  have P4 := PV.br (qs := qs) H (show s + 1 < 2 ^ 31 by omega) cg1 (fun l => ⟨(CVn.2.2 l).1, fun x hx => by obtain ⟨b', h1, h2⟩ := (CVn.2.2 l).2.1 x hx; exact ⟨b', by omega, h2⟩, (CVn.2.2 l).2.2⟩) P1 (hn h)
  obtain ⟨S5, f1, f2, f3⟩ := sX8_goesOn_113 (m := hm h) (G := hG h) (f := f) (x := h 66 + 1) H.1.2.2 hG3 hf (hm h) 5000 0 S4 _ _ d2 (by rw [P4.2.1, e66]) ((P4.1 0 (by omega)).trans H.1.1) ((P4.1 1 (by omega)).trans H.2.1.1) (by rw [d3.2 (64, 0) rfl, jput_o (b := (64, 0)) (by simp), c4.2 (64, 0) rfl, b5.2 (64, 0) rfl, a4.2 (64, 0) rfl]; exact ef) rfl (by omega) (by have := H.1.2.2; omega)
  refine ⟨b, S5, b1, ?_, f2, ?_⟩
  · unfold fX8_goesOn
    rw [a1, Option.bind_some, b2, Option.bind_some, c1', Option.bind_some]
    dsimp only
    rw [if_pos (by decide), if_pos (by decide), cl66, c2.1 66 (by omega)]
    unfold jlet
    dsimp only
    have d1' : fX8_goesOn_27 5000 (jput S3 (50, 0) (upd (S3.2 (50, 0)) 66 (h 66 + 1))) (nI (aWy (aCar h (aCg h qs) b qs (hn h)).2 (hn h)).length) 0 = _ := d1
    rw [d1']
    exact f1
  · exact (((((a4.mono (fun _ q => (by cases q)) gqG_56).tr (b5.mono (fun r q => q) gqG_59)).tr (c4.mono (fun _ q => (by cases q)) gqG_W)).tr (jFr.put (by rfl))).tr (d3.mono (fun _ q => (by cases q)) gqG_50)).tr (f3.mono (fun _ q => (by cases q)) gqG_50)
