/-! ===== the class's move is a slot ===== -/
theorem aTk_min {law : Int32} : ∀ (n : Nat) (L : List Int32), aTk law n L = aTk law (min n L.length) L
  | 0, L => by simp
  | n + 1, L => by
    by_cases h : L.length = 0
    · have : L = [] := List.length_eq_zero_iff.mp h
      subst this
      simp [aTk_nil]
    · obtain ⟨l1, l2, l3⟩ := lTk_spec (law := law) h
      have e : min (n + 1) L.length = min n (lTk law L).2.length + 1 := by omega
      rw [e]
      unfold aTk
      rw [if_neg h, if_neg h, aTk_min n]
theorem aTk_len {law : Int32} : ∀ (n : Nat) (L : List Int32), n ≤ L.length → (aTk law n L).1.length = n
  | 0, L, _ => rfl
  | n + 1, L, hn => by
    have h : L.length ≠ 0 := by omega
    obtain ⟨l1, l2, l3⟩ := lTk_spec (law := law) h
    unfold aTk
    rw [if_neg h]
    show ((lTk law L).1 :: (aTk law n (lTk law L).2).1).length = n + 1
    rw [List.length_cons, aTk_len n _ (by omega)]
theorem va_uu {α : Type} (f : Nat → α) (k : Nat) (u v : α) : va_up (va_up f k u) k v = va_up f k v := by
  funext j
  unfold va_up
  split <;> rfl
theorem va_us {α : Type} (f : Nat → α) (k : Nat) : va_up f k (f k) = f := by
  funext j
  unfold va_up
  split
  · next h => rw [h]
  · rfl
def gqT (k : Nat) (r : jR) : Bool := gq3x k r || r == (43, 0) || r == (44, 0)
theorem gqT_3x {k : Nat} : ∀ r, gq3x k r = true → gqT k r = true := fun r h => by simp [gqT, h]
theorem li_m9 (a : Nat) : nI a * (9 : Int32) = nI (9 * a) := by rw [show (9 : Int32) = nI 9 from rfl, pk_mul, Nat.mul_comm]
theorem sX1_takeOver_74 {k l q t : Nat} {h : Nat → Int32} {law : Int32} (hl : l < 10) (hq : q < 18) (ht : t ≤ 9) (hlaw : law = 0 ∨ law = 1) : ∀ (d fu i : Nat) (S : jS) (qs : Nat → List Int32), QC k S h qs → S.1 (4, k) = law → S.2 (43, 0) l = nI t → i + d = t → d ≤ (qs q).length → d < fu → ∃ S', fX1_takeOver_74 k fu S (nI l) (nI q) (nI i) = some S' ∧ QC k S' h (va_up qs q (aTk law d (qs q)).2) ∧ (∀ j, j < d → S'.2 (44, 0) (9 * l + i + j) = (aTk law d (qs q)).1.getD j 0) ∧ (∀ j, j < 9 * l + i ∨ 9 * l + i + d ≤ j → S'.2 (44, 0) j = S.2 (44, 0) j) ∧ S'.2 (43, 0) = S.2 (43, 0) ∧ jFr gp0 (gqT k) S S' := by
  intro d
  induction d with
  | zero =>
    intro fu i S qs Q el et hi hd hfu
    obtain ⟨fu, rfl⟩ : ∃ m, fu = m + 1 := ⟨fu - 1, by omega⟩
    refine ⟨S, ?_, ?_, fun j hj => absurd hj (Nat.not_lt_zero j), fun _ _ => rfl, rfl, jFr.rf⟩
    · show bX1_takeOver_74 k (fX1_takeOver_74 k fu) S (nI l) (nI q) (nI i) = _
      unfold bX1_takeOver_74
      rw [if_pos (jIn_lit (by omega) hl), nI_clamp (by omega), et, if_pos ((nI_leI (by omega) (by omega)).mpr (by omega))]
    · show QC k S h (va_up qs q (qs q))
      rw [va_us]; exact Q
  | succ d ih =>
    intro fu i S qs Q el et hi hd hfu
    obtain ⟨fu, rfl⟩ : ∃ m, fu = m + 1 := ⟨fu - 1, by omega⟩
    have hne : (qs q).length ≠ 0 := by omega
    obtain ⟨t1, t2, t3⟩ := lTk_spec (law := law) hne
    obtain ⟨S1, a1, a2, a3⟩ := sX4_takeOne (law := law) Q hq hlaw hne
    have e43 : S1.2 (43, 0) = S.2 (43, 0) := a3.2 _ (by simp [gq3x])
    have e44 : S1.2 (44, 0) = S.2 (44, 0) := a3.2 _ (by simp [gq3x])
    have Q2 : QC k (jput S1 (44, 0) (upd (S1.2 (44, 0)) (9 * l + i) (lTk law (qs q)).1)) h (va_up qs q (lTk law (qs q)).2) := a2.same (WSame.put (by simp))
    obtain ⟨S', b1, b2, b3, b4, b5, b6⟩ := ih fu (i + 1) _ _ Q2 ((a3.1 (4, k) rfl).trans el) (by rw [jput_o (by simp), e43]; exact et) (by omega) (by rw [va_up_self]; omega) (by omega)
    rw [va_up_self] at b2 b3
    rw [va_uu] at b2
    have hex : aTk law (d + 1) (qs q) = ((lTk law (qs q)).1 :: (aTk law d (lTk law (qs q)).2).1, (aTk law d (lTk law (qs q)).2).2) := by
      show (if _ then _ else _) = _
      rw [if_neg hne]
    refine ⟨S', ?_, ?_, fun j hj => ?_, fun j hj => ?_, ?_, ?_⟩
    · show bX1_takeOver_74 k (fX1_takeOver_74 k fu) S (nI l) (nI q) (nI i) = _
      unfold bX1_takeOver_74
      rw [if_pos (jIn_lit (by omega) hl), nI_clamp (by omega), et, if_neg (fun h9 => by have := (nI_leI (a := t) (b := i) (by omega) (by omega)).mp h9; omega), el, a1, Option.bind_some]
      unfold jlet
      dsimp only
      rw [li_m9, nI_add, if_pos (jIn_lit (by omega) (by omega)), nI_clamp (by omega), nI_1]
      exact b1
    · rw [hex]; exact b2
    · rw [hex]
      cases j with
      | zero =>
        rw [b4 _ (Or.inl (by omega)), jput_at, Nat.add_zero, pk_us]
        rfl
      | succ j =>
        rw [show 9 * l + i + (j + 1) = 9 * l + (i + 1) + j by omega, b3 j (by omega)]
        rfl
    · rw [b4 j (by omega), jput_at, pk_un (by omega), e44]
    · rw [b5, jput_o (by simp), e43]
    · exact ((a3.mono (fun _ h => h) gqT_3x).tr (jFr.put (by simp [gqT]))).tr b6
/-- what the links under way hold -/
def UW (S : jS) (outs : Nat → List Int32) (l : Nat) : Prop := S.2 (43, 0) l = nI (outs l).length ∧ ∀ j, j < (outs l).length → S.2 (44, 0) (9 * l + j) = (outs l).getD j 0
theorem aCar_out {h : Nat → Int32} {cg : Nat → Nat} {b : Nat} {qs : Nat → List Int32} {l' : Nat} : ∀ l, l ≤ l' → (aCar h cg b qs l).2 l' = []
  | 0, _ => rfl
  | l + 1, hl => by
    have ih := aCar_out (h := h) (cg := cg) (b := b) (qs := qs) (l' := l') l (by omega)
    unfold aCar
    split
    · show va_up _ l _ l' = []
      rw [va_up_ne _ _ (by omega)]; exact ih
    · exact ih
theorem sX1_takeOver {k l b s : Nat} {h : Nat → Int32} {qs : Nat → List Int32} {cg : Nat → Nat} {S : jS} (H : HV h) (hc : cgOK h qs b cg) (hb : b < 1024) (h1 : ∀ q, q < 18 → (qs q).length ≤ 40 ∧ ∀ x ∈ qs q, ∃ b, b ≤ s ∧ x = nI b) (h2 : ∀ i g, i < 6 → g < 3 → ¬ hq h i g → qs (3 * i + g) = []) (hl : l < hn h) (N : NC k S h) {hh : Nat → Int32} (Q : QC k S hh (aCar h cg b qs l).1) (eb : S.1 (10, 1) = nI b) (ech : ∀ l, b.testBit l = true → S.2 (40, 1) l = nI (cg l)) (U : ∀ l', l' < l → UW S (aCar h cg b qs l).2 l') :
    ∃ S', fX1_takeOver k S (nI l) = some S' ∧ QC k S' hh (aCar h cg b qs (l + 1)).1 ∧ (∀ l', l' < l + 1 → UW S' (aCar h cg b qs (l + 1)).2 l') ∧ jFr gp0 (gqT k) S S' := by
  have hn10 := H.2.2.1.2
  have hG3 := H.2.1.2.2
  have i1 : jIn (nI l) 10 := jIn_lit (by omega) (by omega)
  have hbit := nb_bit1 (s := b) (l := l) (by omega) (by omega)
  have hbit0 : ((nI b >>> (nI l &&& 31)) &&& (1 : Int32) = 0) ↔ b.testBit l = false := by
    rw [nb_bit (by omega) (by omega)]
    cases b.testBit l <;> decide
  unfold fX1_takeOver jlet
  simp only [if_pos i1, nI_clamp (show l < 2 ^ 31 by omega), eb]
  have hS2 : jFr gp0 (gqT k) S (jput S (43, 0) (upd (S.2 (43, 0)) l 0)) := jFr.put (by simp [gqT])
  cases hbl : b.testBit l with
  | false =>
    rw [if_pos (hbit0.mpr hbl)]
    have e : aCar h cg b qs (l + 1) = aCar h cg b qs l := by
      show (if _ then _ else _) = _
      rw [hbl]; rfl
    refine ⟨_, rfl, by rw [e]; exact Q.same (WSame.put (by simp)), fun l' hl' => ?_, hS2⟩
    rw [e]
    unfold UW
    rw [jput_at, jput_o (b := (44, 0)) (by simp)]
    by_cases el : l' = l
    · subst el
      rw [pk_us, aCar_out l' (Nat.le_refl _)]
      exact ⟨rfl, fun j hj => absurd hj (Nat.not_lt_zero j)⟩
    · rw [pk_un el]
      exact U l' (by omega)
  | true =>
    rw [if_neg (fun q => by rw [hbit0.mp q] at hbl; cases hbl)]
    obtain ⟨-, hg⟩ := hc l hbl
    obtain ⟨f1, f2⟩ := H.lk hl
    obtain ⟨⟨l1, -⟩, -, -, ⟨r1, r2, r3⟩, -⟩ := H.2.2.2.2.2.2.2.1 l hl
    obtain ⟨n1, n2, n3, n4⟩ := N.2.2.1 l hl
    have qlt : 3 * hfi h l + cg l < 18 := by omega
    have CVl := aCar_CV (s := s) H hc h1 h2 l
    have hlen := (CVl.1 _ qlt).1
    have i2 : jIn (nI (3 * hfi h l + cg l)) 18 := jIn_lit (by omega) qlt
    unfold fX7_spot
    rw [jup_ne (a := (43, 0)) (b := (21, k)) _ _ (by simp), jup_ne (a := (43, 0)) (b := (40, 1)) _ _ (by simp), n1, l1, ech l hbl, li_m3, nI_add, Option.bind_some]
    dsimp only
    have x33 : jup S.2 (43, 0) (upd (S.2 (43, 0)) l 0) (33, k) = S.2 (33, k) := jup_ne _ _ (by simp)
    have x23 : jup S.2 (43, 0) (upd (S.2 (43, 0)) l 0) (23, k) = S.2 (23, k) := jup_ne _ _ (by simp)
    rw [if_pos i2]
    simp only [nI_clamp (show 3 * hfi h l + cg l < 2 ^ 31 by omega), x33, x23, (Q.2 _ qlt).1, n3, r1]
    rw [jput_put, jup_self, upd_upd]
    have hmin : (if nI ((aCar h cg b qs l).1 (3 * hfi h l + cg l)).length < nI (hro h l) then nI ((aCar h cg b qs l).1 (3 * hfi h l + cg l)).length else nI (hro h l)) = nI (min (hro h l) ((aCar h cg b qs l).1 (3 * hfi h l + cg l)).length) := by
      have hcm := nI_ltI (a := ((aCar h cg b qs l).1 (3 * hfi h l + cg l)).length) (b := hro h l) (by omega) (by omega)
      by_cases c : ((aCar h cg b qs l).1 (3 * hfi h l + cg l)).length < hro h l
      · rw [if_pos (hcm.mpr c), Nat.min_eq_right (by omega)]
      · rw [if_neg (fun q => c (hcm.mp q)), Nat.min_eq_left (by omega)]
    rw [hmin]
    have hmt := aTk_min (law := h 65) (hro h l) ((aCar h cg b qs l).1 (3 * hfi h l + cg l))
    have hml := aTk_len (law := h 65) (min (hro h l) ((aCar h cg b qs l).1 (3 * hfi h l + cg l)).length) ((aCar h cg b qs l).1 (3 * hfi h l + cg l)) (Nat.min_le_right _ _)
    generalize hmv : min (hro h l) ((aCar h cg b qs l).1 (3 * hfi h l + cg l)).length = t at hmt hml ⊢
    have ht9 : t ≤ 9 := by omega
    have htl : t ≤ ((aCar h cg b qs l).1 (3 * hfi h l + cg l)).length := by omega
    obtain ⟨S', b1, b2, b3, b4, b5, b6⟩ := sX1_takeOver_74 (k := k) (l := l) (q := 3 * hfi h l + cg l) (h := hh) (law := h 65) (by omega) qlt ht9 H.2.2.2.2.1 t 5000 0 (jput S (43, 0) (upd (S.2 (43, 0)) l (nI t))) _ (Q.same (WSame.put (by simp))) N.1.2.2.2.1 (by rw [jput_at]; exact pk_us) (by omega) htl (by omega)
    have e : aCar h cg b qs (l + 1) = (va_up (aCar h cg b qs l).1 (3 * hfi h l + cg l) (aTk (h 65) t ((aCar h cg b qs l).1 (3 * hfi h l + cg l))).2, va_up (aCar h cg b qs l).2 l (aTk (h 65) t ((aCar h cg b qs l).1 (3 * hfi h l + cg l))).1) := by
      show (if _ then _ else _) = _
      rw [hbl, ← hmt]; rfl
    refine ⟨S', b1, by rw [e]; exact b2, fun l' hl' => ?_, (jFr.put (by simp [gqT])).tr b6⟩
    rw [e]
    unfold UW
    dsimp only
    rw [b5, jput_at]
    by_cases el : l' = l
    · subst el
      rw [pk_us, va_up_self, hml]
      refine ⟨rfl, fun j hj => ?_⟩
      have := b3 j hj
      rw [Nat.add_zero] at this
      exact this
    · rw [pk_un el, va_up_ne _ _ el]
      obtain ⟨u1, u2⟩ := U l' (by omega)
      have h9 := (CVl.2.2 l').1
      refine ⟨u1, fun j hj => ?_⟩
      rw [b4 _ (by omega), jput_o (by simp)]
      exact u2 j hj
/-! bringing -/
theorem sX1_bring_55 {k l g t : Nat} {h : Nat → Int32} {cg : Nat → Nat} {outs : Nat → List Int32} {x5 : Int32} (hl : l < 10) (hg : g < 3) (hcg : cg l = g) (hse6 : hse h l < 6) (ht : t ≤ 9) (h5 : (x5 = 1 ∧ h (2 + g) = h (7 + 3 * l)) ∨ (x5 = 0 ∧ ¬ h (2 + g) = h (7 + 3 * l))) : ∀ (L : List Int32) (fu i : Nat) (S : jS) (A : aW), QC k S A.1 A.2 → S.2 (43, 0) l = nI t → (∀ j, j < L.length → S.2 (44, 0) (9 * l + i + j) = L.getD j 0) → i + L.length = t → L.length < fu → ∃ S', fX1_bring_55 k fu S (nI l) (nI g) (nI (hse h l)) x5 (nI i) = some S' ∧ QC k S' (L.foldl (aBrx h cg l) A).1 (L.foldl (aBrx h cg l) A).2 ∧ jFr (gp67 k) (gq3x k) S S' := by
  intro L
  induction L with
  | nil =>
    intro fu i S A Q et _ hi hfu
    obtain ⟨fu, rfl⟩ : ∃ m, fu = m + 1 := ⟨fu - 1, by omega⟩
    have hi : i + 0 = t := hi
    refine ⟨S, ?_, Q, jFr.rf⟩
    show bX1_bring_55 k (fX1_bring_55 k fu) S (nI l) (nI g) (nI (hse h l)) x5 (nI i) = _
    unfold bX1_bring_55
    rw [if_pos (jIn_lit (by omega) hl), nI_clamp (by omega), et, if_pos ((nI_leI (by omega) (by omega)).mpr (by omega))]
  | cons x L ih =>
    intro fu i S A Q et hx hi hfu
    obtain ⟨fu, rfl⟩ : ∃ m, fu = m + 1 := ⟨fu - 1, by omega⟩
    have hlen : (x :: L).length = L.length + 1 := rfl
    have ex : S.2 (44, 0) (9 * l + i) = x := hx 0 (by simp)
    have step : ∃ S1, ((x5 = 1 ∧ fX4_arrive k S (nI g) x = some S1) ∨ (x5 = 0 ∧ fX4_addOne k S (nI (3 * hse h l + g)) x = some S1)) ∧ QC k S1 (aBrx h cg l A x).1 (aBrx h cg l A x).2 ∧ jFr (gp67 k) (gq3x k) S S1 := by
      unfold aBrx
      rw [hcg]
      rcases h5 with ⟨e1, e2⟩ | ⟨e1, e2⟩
      · rw [if_pos e2]
        obtain ⟨S1, a1, a2, a3⟩ := sX4_arrive Q hg x
        exact ⟨S1, Or.inl ⟨e1, a1⟩, a2, a3.mono (fun _ q => (by cases q)) (fun _ q => q)⟩
      · rw [if_neg e2]
        obtain ⟨S1, a1, a2, a3⟩ := sX4_addOne Q (show 3 * hse h l + g < 18 by omega) x
        exact ⟨S1, Or.inr ⟨e1, a1⟩, a2, a3⟩
    obtain ⟨S1, a1, a2, a3⟩ := step
    have e43 : S1.2 (43, 0) = S.2 (43, 0) := a3.2 _ (by simp [gq3x])
    have e44 : S1.2 (44, 0) = S.2 (44, 0) := a3.2 _ (by simp [gq3x])
    obtain ⟨S', b1, b2, b3⟩ := ih fu (i + 1) S1 _ a2 (by rw [e43]; exact et) (fun j hj => by
      rw [e44, show 9 * l + (i + 1) + j = 9 * l + i + (j + 1) by omega, hx (j + 1) (by rw [hlen]; omega)]
      rfl) (by omega) (by omega)
    refine ⟨S', ?_, b2, a3.tr b3⟩
    show bX1_bring_55 k (fX1_bring_55 k fu) S (nI l) (nI g) (nI (hse h l)) x5 (nI i) = _
    unfold bX1_bring_55
    rw [if_pos (jIn_lit (by omega) hl), nI_clamp (by omega), et, if_neg (fun h9 => by have := (nI_leI (a := t) (b := i) (by omega) (by omega)).mp h9; omega), li_m9, nI_add, if_pos (jIn_lit (by omega) (by omega)), nI_clamp (by omega), ex]
    unfold jlet fX7_spot bX1_bring_113 jlet
    dsimp only
    rw [Option.bind_some]
    dsimp only
    rw [li_m3, nI_add, nI_1]
    rcases a1 with ⟨e1, a1⟩ | ⟨e1, a1⟩
    · subst e1
      rw [if_neg (by decide), a1, Option.bind_some]
      exact b1
    · subst e1
      rw [if_pos rfl, a1, Option.bind_some]
      exact b1
theorem sX1_bring {k l b : Nat} {h : Nat → Int32} {cg : Nat → Nat} {qs outs : Nat → List Int32} {S : jS} {A : aW} (H : HV h) (hc : cgOK h qs b cg) (hl : l < hn h) (N : NC k S h) (Q : QC k S A.1 A.2) (ech : ∀ l, b.testBit l = true → S.2 (40, 1) l = nI (cg l)) (U : UW S outs l) (o9 : (outs l).length ≤ 9) (ob : outs l ≠ [] → b.testBit l = true) :
    ∃ S', fX1_bring k S (nI l) = some S' ∧ QC k S' ((outs l).foldl (aBrx h cg l) A).1 ((outs l).foldl (aBrx h cg l) A).2 ∧ jFr (gp67 k) (gq3x k) S S' := by
  have hn10 := H.2.2.1.2
  have hG3 := H.2.1.2.2
  have i1 : jIn (nI l) 10 := jIn_lit (by omega) (by omega)
  obtain ⟨u1, u2⟩ := U
  unfold fX1_bring
  simp only [if_pos i1, nI_clamp (show l < 2 ^ 31 by omega), u1]
  have hz : nI (outs l).length = (0 : Int32) ↔ (outs l).length = 0 := nI_eq (b := 0) (by omega) (by omega)
  by_cases c : (outs l).length = 0
  · rw [if_pos (hz.mpr c), List.length_eq_zero_iff.mp c]
    exact ⟨S, rfl, Q, jFr.rf⟩
  · rw [if_neg (fun q => c (hz.mp q))]
    have hb := ob (fun e => c (by rw [e]; rfl))
    obtain ⟨-, hg⟩ := hc l hb
    obtain ⟨f1, f2⟩ := H.lk hl
    obtain ⟨-, ⟨s1, -⟩, -⟩ := H.2.2.2.2.2.2.2.1 l hl
    obtain ⟨n1, n2, n3, n4⟩ := N.2.2.1 l hl
    unfold jlet
    dsimp only
    rw [ech l hb, if_pos (jIn_lit (by omega) (by omega)), nI_clamp (n := cg l) (by omega), N.2.1 _ hg, n2]
    have key : ∀ x5 : Int32, ((x5 = 1 ∧ h (2 + cg l) = h (7 + 3 * l)) ∨ (x5 = 0 ∧ ¬ h (2 + cg l) = h (7 + 3 * l))) → ∃ S', bX1_bring_50 k S (nI l) (nI (cg l)) (h (7 + 3 * l)) x5 = some S' ∧ QC k S' ((outs l).foldl (aBrx h cg l) A).1 ((outs l).foldl (aBrx h cg l) A).2 ∧ jFr (gp67 k) (gq3x k) S S' := by
      intro x5 h5
      unfold bX1_bring_50
      rw [s1]
      exact sX1_bring_55 (outs := outs) (t := (outs l).length) (by omega) (by omega) rfl f2 o9 h5 (outs l) 5000 0 S A Q u1 (fun j hj => by rw [Nat.add_zero]; exact u2 j hj) (by omega) (by omega)
    by_cases c2 : h (2 + cg l) = h (7 + 3 * l)
    · rw [if_pos c2]; exact key 1 (Or.inl ⟨rfl, c2⟩)
    · rw [if_neg c2]; exact key 0 (Or.inr ⟨rfl, c2⟩)
