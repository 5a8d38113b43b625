/-! ===== the reference's slot ===== -/
def aWy (outs : Nat → List Int32) : Nat → List (Nat × Int32)
  | 0 => []
  | l + 1 => aWy outs l ++ (outs l).map (fun x => (l, x))
theorem aWy_congr {o o' : Nat → List Int32} : ∀ l, (∀ a, a < l → o a = o' a) → aWy o l = aWy o' l
  | 0, _ => rfl
  | l + 1, h => by unfold aWy; rw [aWy_congr l (fun a q => h a (by omega)), h l (by omega)]
theorem aBr_way {h : Nat → Int32} {cg : Nat → Nat} {outs : Nat → List Int32} {A : aW} : ∀ l, aBr h cg outs A l = (aWy outs l).foldl (fun B p => aBrx h cg p.1 B p.2) A
  | 0 => rfl
  | l + 1 => by
    unfold aBr aWy
    rw [aBr_way l, List.foldl_append, List.foldl_map]
/-- the ways hold the list -/
def WY (S : jS) (h : Nat → Int32) (cg : Nat → Nat) (L : List (Nat × Int32)) : Prop := ∀ i, i < L.length → S.2 (61, 0) i = h (7 + 3 * (L.getD i (0, 0)).1) ∧ S.2 (62, 0) i = nI (cg (L.getD i (0, 0)).1) ∧ S.2 (63, 0) i = (L.getD i (0, 0)).2
def gqW (r : jR) : Bool := r == (50, 0) || r == (61, 0) || r == (62, 0) || r == (63, 0)
theorem gqW_50 : ∀ r, gq50 r = true → gqW r = true := fun r h => by
  have h : (r == (50, 0)) = true := h
  simp [gqW, h]
set_option maxHeartbeats 1000000 in
theorem sX8_carries_34 {q4 : jS → Int32 → Int32 → Option (Int32 × jS)} {h : Nat → Int32} {cg : Nat → Nat} {l : Nat} (H : HV h) (hl : l < hn h) (hg : cg l < hG h) : ∀ (d fu i n : Nat) (S : jS) (qs : Nat → List Int32) (L : List (Nat × Int32)), WM (S.2 (50, 0)) h qs → S.2 (57, 0) l = nI (cg l) → WY S h cg L → L.length = n → n ≤ 9 * l + i → i + d = hro h l → d < fu →
    ∃ S', fX8_carries_34 q4 fu S (nI n) (nI l) (nI (hro h l)) (nI i) = q4 S' (nI (n + (aTk (h 65) d (qs (3 * hfi h l + cg l))).1.length)) (nI (l + 1)) ∧ WM (S'.2 (50, 0)) h (va_up qs (3 * hfi h l + cg l) (aTk (h 65) d (qs (3 * hfi h l + cg l))).2) ∧ WY S' h cg (L ++ (aTk (h 65) d (qs (3 * hfi h l + cg l))).1.map (fun x => (l, x))) ∧ jFr gp0 gqW S S' := by
  have hn10 := H.2.2.1.2
  have hG3 := H.2.1.2.2
  obtain ⟨f1, f2⟩ := H.lk hl
  obtain ⟨⟨l1, -⟩, ⟨s1, -⟩, -, ⟨r1, r2, r3⟩, -⟩ := H.2.2.2.2.2.2.2.1 l hl
  have i1 : jIn (nI l) 10 := jIn_lit (by omega) (by omega)
  intro d
  induction d with
  | zero =>
    intro fu i n S qs L M ec Y hLn hn9 hd hfu
    obtain ⟨fu, rfl⟩ : ∃ m, fu = m + 1 := ⟨fu - 1, by omega⟩
    refine ⟨S, ?_, ?_, ?_, jFr.rf⟩
    · show bX8_carries_34 q4 (fX8_carries_34 q4 fu) S (nI n) (nI l) (nI (hro h l)) (nI i) = _
      unfold bX8_carries_34
      rw [if_pos ((nI_leI (by omega) (by omega)).mpr (by omega))]
      unfold bX8_carries_111 jlet
      dsimp only
      rw [nI_1]
      rfl
    · show WM _ h (va_up qs _ (qs _))
      rw [va_us]; exact M
    · show WY S h cg (L ++ [])
      rw [List.append_nil]; exact Y
  | succ d ih =>
    intro fu i n S qs L M ec Y hLn hn9 hd hfu
    obtain ⟨fu, rfl⟩ : ∃ m, fu = m + 1 := ⟨fu - 1, by omega⟩
    have hmany := sX8_manyIn M f1 (show cg l < 3 by omega)
    have m2 := (M.2 (3 * hfi h l + cg l) (by omega)).2.1
    show ∃ S', bX8_carries_34 q4 (fX8_carries_34 q4 fu) S (nI n) (nI l) (nI (hro h l)) (nI i) = _ ∧ _
    unfold bX8_carries_34
    rw [if_neg (fun h9 => by have := (nI_leI (a := hro h l) (b := i) (by omega) (by omega)).mp h9; omega), sX8_firstOf S (by omega), M.1 _ (by omega), l1, Option.bind_some]
    dsimp only
    have i9 : jIn (nI n) 90 := jIn_lit (by omega) (by omega)
    simp only [if_pos i1, if_pos i9, nI_clamp (show l < 2 ^ 31 by omega), nI_clamp (show n < 2 ^ 31 by omega)]
    rw [ec, hmany, Option.bind_some]
    dsimp only
    have hz : nI (qs (3 * hfi h l + cg l)).length ≤ (0 : Int32) ↔ (qs (3 * hfi h l + cg l)).length ≤ 0 := nI_leI (b := 0) (by omega) (by omega)
    by_cases c : (qs (3 * hfi h l + cg l)).length ≤ 0
    · rw [if_pos (hz.mpr c)]
      have hnil : qs (3 * hfi h l + cg l) = [] := List.length_eq_zero_iff.mp (by omega)
      rw [hnil, aTk_nil]
      refine ⟨S, ?_, ?_, ?_, jFr.rf⟩
      · unfold bX8_carries_111 jlet
        dsimp only
        rw [nI_1]
        rfl
      · dsimp only
        rw [← hnil, va_us]; exact M
      · show WY S h cg (L ++ [])
        rw [List.append_nil]; exact Y
    · rw [if_neg (fun q => c (hz.mp q)), sX8_secondOf S (by omega), M.1 _ (by omega), Option.bind_some]
      have hne : (qs (3 * hfi h l + cg l)).length ≠ 0 := by omega
      unfold jlet
      dsimp only
      rw [jup_ne (a := (61, 0)) (b := (57, 0)) _ _ (by simp), jup_ne (a := (61, 0)) (b := (62, 0)) _ _ (by simp), ec]
      obtain ⟨SA, hSA⟩ : ∃ SA, SA = jput (jput S (61, 0) (upd (S.2 (61, 0)) n (h (7 + 3 * l)))) (62, 0) (upd (S.2 (62, 0)) n (nI (cg l))) := ⟨_, rfl⟩
      rw [← hSA]
      have eA : SA.2 (50, 0) = S.2 (50, 0) := by rw [hSA, jput_o (by simp), jput_o (by simp)]
      have eA57 : SA.2 (57, 0) = S.2 (57, 0) := by rw [hSA, jput_o (by simp), jput_o (by simp)]
      have MA : WM (SA.2 (50, 0)) h qs := by rw [eA]; exact M
      obtain ⟨SB, b1, b2, b3⟩ := sX8_leaves MA f1 (show cg l < 3 by omega) H.2.2.2.2.1 hne
      rw [sX8_firstOf SA (by omega), eA, M.1 _ (by omega), l1, Option.bind_some]
      dsimp only
      rw [eA57, ec, b1, Option.bind_some]
      dsimp only
      rw [nI_1, nI_1]
      have fA : jFr gp0 gqW S SA := by rw [hSA]; exact (jFr.put (by rfl)).tr (jFr.put (by rfl))
      have e61 : SB.2 (61, 0) = upd (S.2 (61, 0)) n (h (7 + 3 * l)) := by rw [b3.2 (61, 0) rfl, hSA, jput_o (by simp), jput_at]
      have e62 : SB.2 (62, 0) = upd (S.2 (62, 0)) n (nI (cg l)) := by rw [b3.2 (62, 0) rfl, hSA, jput_at]
      have e63 : SB.2 (63, 0) = S.2 (63, 0) := by rw [b3.2 (63, 0) rfl, hSA, jput_o (by simp), jput_o (by simp)]
      have YC : WY (jput SB (63, 0) (upd (SB.2 (63, 0)) n (lTk (h 65) (qs (3 * hfi h l + cg l))).1)) h cg (L ++ [(l, (lTk (h 65) (qs (3 * hfi h l + cg l))).1)]) := by
        intro t ht
        have ht' : t < L.length + 1 := by simpa using ht
        rw [jput_o (b := (61, 0)) (by simp), jput_o (b := (62, 0)) (by simp), jput_at, e61, e62, e63]
        by_cases et : t = n
        · subst et
          rw [pk_us, pk_us, pk_us, ← hLn]
          simp [List.getD_eq_getElem?_getD]
        · rw [pk_un et, pk_un et, pk_un et]
          have htl : t < L.length := by omega
          have := Y t htl
          simp only [List.getD_eq_getElem?_getD, List.getElem?_append_left htl] at this ⊢
          exact this
      obtain ⟨S', c1, c2, c3, c4⟩ := ih fu (i + 1) (n + 1) (jput SB (63, 0) (upd (SB.2 (63, 0)) n (lTk (h 65) (qs (3 * hfi h l + cg l))).1)) _ _ (by rw [jput_o (by simp)]; exact b2) (by rw [jput_o (by simp), b3.2 (57, 0) rfl, eA57]; exact ec) YC (by simp [hLn]) (by omega) (by omega) (by omega)
      rw [va_up_self] at c1 c2 c3
      rw [va_uu] at c2
      have hex : aTk (h 65) (d + 1) (qs (3 * hfi h l + cg l)) = ((lTk (h 65) (qs (3 * hfi h l + cg l))).1 :: (aTk (h 65) d (lTk (h 65) (qs (3 * hfi h l + cg l))).2).1, (aTk (h 65) d (lTk (h 65) (qs (3 * hfi h l + cg l))).2).2) := by
        show (if _ then _ else _) = _
        rw [if_neg hne]
      rw [hex]
      refine ⟨S', ?_, c2, ?_, ((fA.tr (b3.mono (fun _ q => q) gqW_50)).tr (jFr.put (by rfl))).tr c4⟩
      · rw [c1]
        congr 2
        rw [List.length_cons]; omega
      · have : L ++ ((lTk (h 65) (qs (3 * hfi h l + cg l))).1 :: (aTk (h 65) d (lTk (h 65) (qs (3 * hfi h l + cg l))).2).1).map (fun x => (l, x)) = L ++ [(l, (lTk (h 65) (qs (3 * hfi h l + cg l))).1)] ++ ((aTk (h 65) d (lTk (h 65) (qs (3 * hfi h l + cg l))).2).1).map (fun x => (l, x)) := by simp
        rw [this]
        exact c3
theorem aWy_len {outs : Nat → List Int32} (h9 : ∀ l, (outs l).length ≤ 9) : ∀ l, (aWy outs l).length ≤ 9 * l
  | 0 => Nat.le_refl _
  | l + 1 => by
    have := aWy_len h9 l
    have := h9 l
    unfold aWy
    rw [List.length_append, List.length_map]
    omega
theorem sX8_carries_4 {b s : Nat} {h : Nat → Int32} {cg : Nat → Nat} {qs : Nat → List Int32} (H : HV h) (hc : cgOK h qs b cg) (hb : b < 1024) (h1 : ∀ q, q < 18 → (qs q).length ≤ 40 ∧ ∀ x ∈ qs q, ∃ b, b ≤ s ∧ x = nI b) (h2 : ∀ i g, i < 6 → g < 3 → ¬ hq h i g → qs (3 * i + g) = []) : ∀ (d fu l : Nat) (S : jS), WM (S.2 (50, 0)) h (aCar h cg b qs l).1 → S.1 (15, 0) = nI b → (∀ l, b.testBit l = true → S.2 (57, 0) l = nI (cg l)) → WY S h cg (aWy (aCar h cg b qs l).2 l) → l + d = hn h → d < fu →
    ∃ S', fX8_carries_4 fu S (nI (aWy (aCar h cg b qs l).2 l).length) (nI l) = some (nI (aWy (aCar h cg b qs (hn h)).2 (hn h)).length, S') ∧ WM (S'.2 (50, 0)) h (aCar h cg b qs (hn h)).1 ∧ WY S' h cg (aWy (aCar h cg b qs (hn h)).2 (hn h)) ∧ jFr gp0 gqW S S' := by
  have hn10 := H.2.2.1.2
  intro d
  induction d with
  | zero =>
    intro fu l S M eb ech Y hd hfu
    obtain ⟨fu, rfl⟩ : ∃ m, fu = m + 1 := ⟨fu - 1, by omega⟩
    obtain rfl : l = hn h := by omega
    refine ⟨S, ?_, M, Y, jFr.rf⟩
    show bX8_carries_4 (fX8_carries_4 fu) S _ (nI (hn h)) = _
    unfold bX8_carries_4
    rw [if_pos (by decide), cl5, M.1 5 (by omega), H.2.2.1.1, if_pos ((nI_leI (by omega) (by omega)).mpr (Nat.le_refl _))]
  | succ d ih =>
    intro fu l S M eb ech Y hd hfu
    obtain ⟨fu, rfl⟩ : ∃ m, fu = m + 1 := ⟨fu - 1, by omega⟩
    have hl : l < hn h := by omega
    have CVl := aCar_CV (s := s) H hc h1 h2 l
    have hwl := aWy_len (fun a => (CVl.2.2 a).1) l
    show ∃ S', bX8_carries_4 (fX8_carries_4 fu) S _ (nI l) = _ ∧ _
    unfold bX8_carries_4
    rw [if_pos (by decide), cl5, M.1 5 (by omega), H.2.2.1.1, if_neg (fun h9 => by have := (nI_leI (a := hn h) (b := l) (by omega) (by omega)).mp h9; omega), eb, sX8_has S (by omega) (by omega), Option.bind_some]
    dsimp only
    cases hbl : b.testBit l with
    | false =>
      rw [if_pos (by decide)]
      have e : aCar h cg b qs (l + 1) = aCar h cg b qs l := by
        show (if _ then _ else _) = _
        rw [hbl]; rfl
      have ew : aWy (aCar h cg b qs (l + 1)).2 (l + 1) = aWy (aCar h cg b qs l).2 l := by
        rw [e]
        show aWy (aCar h cg b qs l).2 l ++ List.map (fun x => (l, x)) ((aCar h cg b qs l).2 l) = _
        rw [aCar_out l (Nat.le_refl _)]
        simp
      unfold bX8_carries_111 jlet
      dsimp only
      rw [nI_1]
      have hgo := ih fu (l + 1) S (by rw [e]; exact M) eb ech (by rw [ew]; exact Y) (by omega) (by omega)
      rw [ew] at hgo
      exact hgo
    | true =>
      rw [if_neg (by decide), sX8_roomOf S (by omega), M.1 _ (by omega)]
      obtain ⟨-, -, -, ⟨r1, r2, r3⟩, -⟩ := H.2.2.2.2.2.2.2.1 l hl
      rw [r1, Option.bind_some]
      dsimp only
      obtain ⟨S1, a1, a2, a3, a4⟩ := sX8_carries_34 (q4 := fX8_carries_4 fu) H hl (hc l hbl).2 (hro h l) 5000 0 _ S _ _ M (ech l hbl) Y rfl (by omega) (by omega) (by omega)
      have a1' : fX8_carries_34 (fX8_carries_4 fu) 5000 S (nI (aWy (aCar h cg b qs l).2 l).length) (nI l) (nI (hro h l)) 0 = _ := a1
      rw [a1']
      have e : aCar h cg b qs (l + 1) = (va_up (aCar h cg b qs l).1 (3 * hfi h l + cg l) (aTk (h 65) (hro h l) ((aCar h cg b qs l).1 (3 * hfi h l + cg l))).2, va_up (aCar h cg b qs l).2 l (aTk (h 65) (hro h l) ((aCar h cg b qs l).1 (3 * hfi h l + cg l))).1) := by
        show (if _ then _ else _) = _
        rw [hbl]; rfl
      have ew : aWy (aCar h cg b qs (l + 1)).2 (l + 1) = aWy (aCar h cg b qs l).2 l ++ (aTk (h 65) (hro h l) ((aCar h cg b qs l).1 (3 * hfi h l + cg l))).1.map (fun x => (l, x)) := by
        rw [e]
        show aWy (va_up _ l _) l ++ List.map (fun x => (l, x)) (va_up _ l _ l) = _
        rw [va_up_self, aWy_congr (o' := (aCar h cg b qs l).2) l (fun a ha => va_up_ne _ _ (by omega))]
      have hgo := ih fu (l + 1) S1 (by rw [e]; exact a2) ((a4.1 _ rfl).trans eb) (by rw [a4.2 (57, 0) rfl]; exact ech) (by rw [ew]; exact a3) (by omega) (by omega)
      rw [ew, List.length_append, List.length_map] at hgo
      obtain ⟨S', c1, c2, c3, c4⟩ := hgo
      exact ⟨S', c1, c2, c3, a4.tr c4⟩
