/-! ===== the class's move, whole ===== -/
theorem jset_o {S : jS} {a b : jR} {v : Int32} (h : b ≠ a) : (jset S a v).1 b = S.1 b := jup_ne _ _ h
theorem jset_at {S : jS} {a : jR} {v : Int32} : (jset S a v).1 a = v := jup_self _ _ _
theorem sX1_bringFeeds_15 {k i m G : Nat} {a : jR} {f : Nat → Nat} {x : Int32} {q2 : jS → Int32 → Option jS} (hi : i < 6) (him : i < m) (hG : G ≤ 3) (ha : jlen a.1 = 18) (ha2 : gq3x k a = false) (hf : ∀ q, q < 18 → f q < 100) : ∀ (d fu g : Nat) (S : jS) (A : aW), QC k S A.1 A.2 → A.1 66 = x → S.1 (2, k) = nI G → (∀ i g, i < m → g < G → S.2 a (3 * i + g) = nI (f (3 * i + g))) → g + d = G → d < fu → ∃ S', fX1_bringFeeds_15 k a q2 fu S (nI i) (nI g) = q2 S' (nI (i + 1)) ∧ (∀ B, aFdG f x B i g = A → QC k S' (aFdG f x B i G).1 (aFdG f x B i G).2) ∧ jFr (gp67 k) (gq3x k) S S' := by
  intro d
  induction d with
  | zero =>
    intro fu g S A Q e66 eG ef hd hfu
    obtain ⟨fu, rfl⟩ : ∃ m, fu = m + 1 := ⟨fu - 1, by omega⟩
    obtain rfl : g = G := by omega
    refine ⟨S, ?_, fun B hB => by rw [hB]; exact Q, jFr.rf⟩
    show bX1_bringFeeds_15 k a q2 (fX1_bringFeeds_15 k a q2 fu) S (nI i) (nI g) = _
    unfold bX1_bringFeeds_15
    rw [eG, if_pos ((nI_leI (by omega) (by omega)).mpr (Nat.le_refl _))]
    unfold jlet
    dsimp only
    rw [nI_1]
  | succ d ih =>
    intro fu g S A Q e66 eG ef hd hfu
    obtain ⟨fu, rfl⟩ : ∃ m, fu = m + 1 := ⟨fu - 1, by omega⟩
    obtain ⟨S1, a1, a2, a3⟩ := sX4_addMany (q := 3 * i + g) (n := f (3 * i + g)) (x := x) (by omega) (hf _ (by omega)) Q
    have e66' : (aAdN A (3 * i + g) x (f (3 * i + g))).1 66 = x := by
      have : ∀ n, (aAdN A (3 * i + g) x n).1 66 = x := by
        intro n
        induction n with
        | zero => exact e66
        | succ n ihn => show (aAdd _ _ _).1 66 = x; rw [aAdd_hd (by omega)]; exact ihn
      exact this _
    obtain ⟨S', b1, b2, b3⟩ := ih fu (g + 1) S1 _ a2 e66' ((a3.1 (2, k) (by simp [gp67])).trans eG) (by rw [a3.2 a ha2]; exact ef) (by omega) (by omega)
    refine ⟨S', ?_, fun B hB => b2 B (by show aAdN _ _ _ _ = _; rw [hB]), a3.tr b3⟩
    show bX1_bringFeeds_15 k a q2 (fX1_bringFeeds_15 k a q2 fu) S (nI i) (nI g) = _
    unfold bX1_bringFeeds_15 fX7_spot
    rw [eG, if_neg (fun h9 => by have := (nI_leI (a := G) (b := g) (by omega) (by omega)).mp h9; omega), Option.bind_some]
    dsimp only
    rw [li_m3, nI_add, ha, if_pos (jIn_lit (by omega) (by omega)), nI_clamp (by omega), ef i g him (by omega), Q.1.1, e66, a1, Option.bind_some]
    unfold jlet
    dsimp only
    rw [nI_1]
    exact b1
theorem sX1_bringFeeds_2 {k m G : Nat} {a : jR} {f : Nat → Nat} {x : Int32} (hm : m ≤ 6) (hG : G ≤ 3) (ha : jlen a.1 = 18) (ha2 : gq3x k a = false) (hf : ∀ q, q < 18 → f q < 100) : ∀ (d fu i : Nat) (S : jS) (A B : aW), QC k S A.1 A.2 → A.1 66 = x → S.1 (1, k) = nI m → S.1 (2, k) = nI G → (∀ i g, i < m → g < G → S.2 a (3 * i + g) = nI (f (3 * i + g))) → aFd f x G B i = A → i + d = m → d < fu → ∃ S', fX1_bringFeeds_2 k a fu S (nI i) = some S' ∧ QC k S' (aFd f x G B m).1 (aFd f x G B m).2 ∧ jFr (gp67 k) (gq3x k) S S' := by
  intro d
  induction d with
  | zero =>
    intro fu i S A B Q e66 em eG ef hB hd hfu
    obtain ⟨fu, rfl⟩ : ∃ m, fu = m + 1 := ⟨fu - 1, by omega⟩
    obtain rfl : i = m := by omega
    refine ⟨S, ?_, by rw [hB]; exact Q, jFr.rf⟩
    show bX1_bringFeeds_2 k a (fX1_bringFeeds_2 k a fu) S (nI i) = _
    unfold bX1_bringFeeds_2
    rw [em, if_pos ((nI_leI (by omega) (by omega)).mpr (Nat.le_refl _))]
  | succ d ih =>
    intro fu i S A B Q e66 em eG ef hB hd hfu
    obtain ⟨fu, rfl⟩ : ∃ m, fu = m + 1 := ⟨fu - 1, by omega⟩
    obtain ⟨S1, a1, a2, a3⟩ := sX1_bringFeeds_15 (q2 := fX1_bringFeeds_2 k a fu) (show i < 6 by omega) (show i < m by omega) hG ha ha2 hf G 5000 0 S A Q e66 eG ef (by omega) (by omega)
    have Q1 := a2 A rfl
    have e66' : (aFdG f x A i G).1 66 = x := by
      have hN : ∀ (A : aW) q n, A.1 66 = x → (aAdN A q x n).1 66 = x := by
        intro A q n h0
        induction n with
        | zero => exact h0
        | succ n ihn => show (aAdd _ _ _).1 66 = x; rw [aAdd_hd (by omega)]; exact ihn
      have : ∀ g, (aFdG f x A i g).1 66 = x := by
        intro g
        induction g with
        | zero => exact e66
        | succ g ihg => exact hN _ _ _ ihg
      exact this G
    obtain ⟨S', b1, b2, b3⟩ := ih fu (i + 1) S1 (aFdG f x A i G) B Q1 e66' ((a3.1 (1, k) (by simp [gp67])).trans em) ((a3.1 (2, k) (by simp [gp67])).trans eG) (by rw [a3.2 a ha2]; exact ef) (by show aFdG f x (aFd f x G B i) i G = _; rw [hB]) (by omega) (by omega)
    refine ⟨S', ?_, b2, a3.tr b3⟩
    show bX1_bringFeeds_2 k a (fX1_bringFeeds_2 k a fu) S (nI i) = _
    unfold bX1_bringFeeds_2
    rw [em, if_neg (fun h9 => by have := (nI_leI (a := m) (b := i) (by omega) (by omega)).mp h9; omega)]
    have a1' : fX1_bringFeeds_15 k a (fX1_bringFeeds_2 k a fu) 5000 S (nI i) 0 = _ := a1
    rw [a1']
    exact b1
theorem sX1_bringFeeds {k m G : Nat} {a : jR} {f : Nat → Nat} {x : Int32} {S : jS} {A : aW} (hm : m ≤ 6) (hG : G ≤ 3) (ha : jlen a.1 = 18) (ha2 : gq3x k a = false) (hf : ∀ q, q < 18 → f q < 100) (Q : QC k S A.1 A.2) (e66 : A.1 66 = x) (em : S.1 (1, k) = nI m) (eG : S.1 (2, k) = nI G) (ef : ∀ i g, i < m → g < G → S.2 a (3 * i + g) = nI (f (3 * i + g))) : ∃ S', fX1_bringFeeds k a S = some S' ∧ QC k S' (aFd f x G A m).1 (aFd f x G A m).2 ∧ jFr (gp67 k) (gq3x k) S S' :=
  sX1_bringFeeds_2 hm hG ha ha2 hf m 5000 0 S A A Q e66 em eG ef rfl (by omega) (by omega)
theorem aBr_66 {h : Nat → Int32} {cg : Nat → Nat} {outs : Nat → List Int32} {A : aW} : ∀ l, (∀ l', l' < l → outs l' ≠ [] → cg l' < 3) → (aBr h cg outs A l).1 66 = A.1 66
  | 0, _ => rfl
  | l + 1, hc => by
    have ih := aBr_66 (h := h) (A := A) l (fun l' q => hc l' (by omega))
    unfold aBr
    have : ∀ (L : List Int32) (B : aW), (L ≠ [] → cg l < 3) → (L.foldl (aBrx h cg l) B).1 66 = B.1 66 := by
      intro L
      induction L with
      | nil => intro B _; rfl
      | cons x L ihL =>
        intro B h3
        have h3 := h3 (by simp)
        rw [List.foldl_cons, ihL _ (fun _ => h3)]
        unfold aBrx
        split
        · exact aThr_hd (by omega) (by omega) (by omega)
        · exact aAdd_hd (by omega)
    rw [this _ _ (hc l (by omega))]
    exact ih
/-- frames of a move of world k -/
def gpM (k : Nat) (r : jR) : Bool := r == (6, k) || r == (7, k) || r == (10, 1) || r == (11, 1)
def gqM (k : Nat) (r : jR) : Bool := gqT k r || gq40 1 r
theorem sX1_move_64 {k b m : Nat} {a : jR} {h : Nat → Int32} {cg : Nat → Nat} {qs outs : Nat → List Int32} {f : Nat → Nat} {x : Int32} {A : aW} (H : HV h) (hc : cgOK h qs b cg) (ha : jlen a.1 = 18) (ha2 : gq3x k a = false) (hf : ∀ q, q < 18 → f q < 100) (ho : ∀ l, (outs l).length ≤ 9 ∧ (outs l ≠ [] → b.testBit l = true)) (hx : A.1 66 = x) : ∀ (d fu l : Nat) (S : jS), NC k S h → QC k S (aBr h cg outs A l).1 (aBr h cg outs A l).2 → (∀ l, b.testBit l = true → S.2 (40, 1) l = nI (cg l)) → (∀ l', l' < hn h → UW S outs l') → (∀ i g, i < hm h → g < hG h → S.2 a (3 * i + g) = nI (f (3 * i + g))) → l + d = hn h → d < fu → ∃ S', fX1_move_64 k a fu S (nI l) = some S' ∧ QC k S' (aFd f x (hG h) (aBr h cg outs A (hn h)) (hm h)).1 (aFd f x (hG h) (aBr h cg outs A (hn h)) (hm h)).2 ∧ jFr (gp67 k) (gq3x k) S S' := by
  have hn10 := H.2.2.1.2
  have hG3 := H.2.1.2.2
  intro d
  induction d with
  | zero =>
    intro fu l S N Q ech U ef hd hfu
    obtain ⟨fu, rfl⟩ : ∃ m, fu = m + 1 := ⟨fu - 1, by omega⟩
    obtain rfl : l = hn h := by omega
    obtain ⟨S', a1, a2, a3⟩ := sX1_bringFeeds (k := k) (a := a) (x := x) H.1.2.2 hG3 ha ha2 hf Q ((aBr_66 (hn h) (fun l' q q2 => by have := (hc l' ((ho l').2 q2)).2; omega)).trans hx) (N.1.1.trans H.1.1) (N.1.2.1.trans H.2.1.1) ef
    refine ⟨S', ?_, a2, a3⟩
    show bX1_move_64 k a (fX1_move_64 k a fu) S (nI (hn h)) = _
    unfold bX1_move_64
    rw [N.1.2.2.1, H.2.2.1.1, if_pos ((nI_leI (by omega) (by omega)).mpr (Nat.le_refl _)), a1, Option.bind_some]
  | succ d ih =>
    intro fu l S N Q ech U ef hd hfu
    obtain ⟨fu, rfl⟩ : ∃ m, fu = m + 1 := ⟨fu - 1, by omega⟩
    obtain ⟨S1, a1, a2, a3⟩ := sX1_bring (outs := outs) H hc (show l < hn h by omega) N Q ech (U l (by omega)) (ho l).1 (ho l).2
    have e40 : S1.2 (40, 1) = S.2 (40, 1) := a3.2 _ (by simp [gq3x])
    have e43 : S1.2 (43, 0) = S.2 (43, 0) := a3.2 _ (by simp [gq3x])
    have e44 : S1.2 (44, 0) = S.2 (44, 0) := a3.2 _ (by simp [gq3x])
    have N1 : NC k S1 h := by
      obtain ⟨⟨z1, z2, z3, z4, z5⟩, z6, z7, z8⟩ := N
      refine ⟨⟨(a3.1 _ (by simp [gp67])).trans z1, (a3.1 _ (by simp [gp67])).trans z2, (a3.1 _ (by simp [gp67])).trans z3, (a3.1 _ (by simp [gp67])).trans z4, (a3.1 _ (by simp [gp67])).trans z5⟩, ?_, ?_, ?_⟩
      · rw [a3.2 (20, k) (by simp [gq3x])]; exact z6
      · rw [a3.2 (21, k) (by simp [gq3x]), a3.2 (22, k) (by simp [gq3x]), a3.2 (23, k) (by simp [gq3x]), a3.2 (24, k) (by simp [gq3x])]; exact z7
      · rw [a3.2 (25, k) (by simp [gq3x])]; exact z8
    obtain ⟨S', b1, b2, b3⟩ := ih fu (l + 1) S1 N1 a2 (by rw [e40]; exact ech) (fun l' hl' => by unfold UW; rw [e43, e44]; exact U l' hl') (by rw [a3.2 a ha2]; exact ef) (by omega) (by omega)
    refine ⟨S', ?_, b2, a3.tr b3⟩
    show bX1_move_64 k a (fX1_move_64 k a fu) S (nI l) = _
    unfold bX1_move_64
    rw [N.1.2.2.1, H.2.2.1.1, if_neg (fun h9 => by have := (nI_leI (a := hn h) (b := l) (by omega) (by omega)).mp h9; omega), a1, Option.bind_some]
    unfold jlet
    dsimp only
    rw [nI_1]
    exact b1
theorem NC.fr {k : Nat} {S S1 : jS} {h : Nat → Int32} {p q : jR → Bool} (a3 : jFr p q S S1) (hp : ∀ c, 1 ≤ c → c < 6 → p (c, k) = false) (hq : ∀ c, 20 ≤ c → c < 26 → q (c, k) = false) (N : NC k S h) : NC k S1 h := by
  obtain ⟨⟨z1, z2, z3, z4, z5⟩, z6, z7, z8⟩ := N
  refine ⟨⟨(a3.1 _ (hp 1 (by omega) (by omega))).trans z1, (a3.1 _ (hp 2 (by omega) (by omega))).trans z2, (a3.1 _ (hp 3 (by omega) (by omega))).trans z3, (a3.1 _ (hp 4 (by omega) (by omega))).trans z4, (a3.1 _ (hp 5 (by omega) (by omega))).trans z5⟩, ?_, ?_, ?_⟩
  · rw [a3.2 (20, k) (hq 20 (by omega) (by omega))]; exact z6
  · rw [a3.2 (21, k) (hq 21 (by omega) (by omega)), a3.2 (22, k) (hq 22 (by omega) (by omega)), a3.2 (23, k) (hq 23 (by omega) (by omega)), a3.2 (24, k) (hq 24 (by omega) (by omega))]; exact z7
  · rw [a3.2 (25, k) (hq 25 (by omega) (by omega))]; exact z8
theorem gqT_false {k c : Nat} (h1 : 20 ≤ c) (h2 : c < 30) (j : Nat) : gqT k (c, j) = false := by
  simp [gqT, gq3x]; omega
theorem sX1_move_36 {k b s m : Nat} {a : jR} {h hh : Nat → Int32} {cg : Nat → Nat} {qs : Nat → List Int32} {f : Nat → Nat} {x : Int32} (H : HV h) (hc : cgOK h qs b cg) (hb : b < 1024) (h1 : ∀ q, q < 18 → (qs q).length ≤ 40 ∧ ∀ x ∈ qs q, ∃ b, b ≤ s ∧ x = nI b) (h2 : ∀ i g, i < 6 → g < 3 → ¬ hq h i g → qs (3 * i + g) = []) (ha : jlen a.1 = 18) (ha2 : gqT k a = false) (hf : ∀ q, q < 18 → f q < 100) (hx : hh 66 = x) : ∀ (d fu l : Nat) (S : jS), NC k S h → QC k S hh (aCar h cg b qs l).1 → S.1 (10, 1) = nI b → (∀ l, b.testBit l = true → S.2 (40, 1) l = nI (cg l)) → (∀ l', l' < l → UW S (aCar h cg b qs l).2 l') → (∀ i g, i < hm h → g < hG h → S.2 a (3 * i + g) = nI (f (3 * i + g))) → l + d = hn h → d < fu → ∃ S', fX1_move_36 k a fu S (nI l) = some S' ∧ QC k S' (aFd f x (hG h) (aBr h cg (aCar h cg b qs (hn h)).2 (hh, (aCar h cg b qs (hn h)).1) (hn h)) (hm h)).1 (aFd f x (hG h) (aBr h cg (aCar h cg b qs (hn h)).2 (hh, (aCar h cg b qs (hn h)).1) (hn h)) (hm h)).2 ∧ jFr (gp67 k) (gqT k) S S' := by
  have hn10 := H.2.2.1.2
  intro d
  induction d with
  | zero =>
    intro fu l S N Q eb ech U ef hd hfu
    obtain ⟨fu, rfl⟩ : ∃ m, fu = m + 1 := ⟨fu - 1, by omega⟩
    obtain rfl : l = hn h := by omega
    have CVn := aCar_CV (s := s) H hc h1 h2 (hn h)
    have ha3 : gq3x k a = false := by
      cases e : gq3x k a with
      | false => rfl
      | true => rw [gqT_3x a e] at ha2; cases ha2
    obtain ⟨S', a1, a2, a3⟩ := sX1_move_64 (m := m) (x := x) (A := (hh, (aCar h cg b qs (hn h)).1)) H hc ha ha3 hf (fun l => ⟨(CVn.2.2 l).1, (CVn.2.2 l).2.2⟩) hx (hn h) 5000 0 S N Q ech U ef (by omega) (by omega)
    refine ⟨S', ?_, a2, a3.mono (fun _ q => q) gqT_3x⟩
    show bX1_move_36 k a (fX1_move_36 k a fu) S (nI (hn h)) = _
    unfold bX1_move_36
    rw [N.1.2.2.1, H.2.2.1.1, if_pos ((nI_leI (by omega) (by omega)).mpr (Nat.le_refl _))]
    exact a1
  | succ d ih =>
    intro fu l S N Q eb ech U ef hd hfu
    obtain ⟨fu, rfl⟩ : ∃ m, fu = m + 1 := ⟨fu - 1, by omega⟩
    obtain ⟨S1, a1, a2, a3, a4⟩ := sX1_takeOver H hc hb h1 h2 (show l < hn h by omega) N Q eb ech U
    obtain ⟨S', b1, b2, b3⟩ := ih fu (l + 1) S1 (N.fr a4 (fun _ _ _ => rfl) (fun c h1 h2 => gqT_false h1 (by omega) k)) a2 ((a4.1 (10, 1) rfl).trans eb) (by rw [a4.2 (40, 1) (by simp [gqT, gq3x])]; exact ech) a3 (by rw [a4.2 a ha2]; exact ef) (by omega) (by omega)
    refine ⟨S', ?_, b2, (a4.mono (fun _ q => (by cases q)) (fun _ q => q)).tr b3⟩
    show bX1_move_36 k a (fX1_move_36 k a fu) S (nI l) = _
    unfold bX1_move_36
    rw [N.1.2.2.1, H.2.2.1.1, if_neg (fun h9 => by have := (nI_leI (a := hn h) (b := l) (by omega) (by omega)).mp h9; omega), a1, Option.bind_some]
    unfold jlet
    dsimp only
    rw [nI_1]
    exact b1
/-- the class's move: one slot, but for the barred links, by the feeds in the row a -/
theorem sX1_move {k bar s : Nat} {a : jR} {h : Nat → Int32} {qs : Nat → List Int32} {f : Nat → Nat} {S : jS} (H : HV h) (P : PV h s (90 * s) (h, qs)) (hW : WC k S h qs) (ha : jlen a.1 = 18) (ha2 : gqM k a = false) (hf : ∀ q, q < 18 → f q < 100) (ef : ∀ i g, i < hm h → g < hG h → S.2 a (3 * i + g) = nI (f (3 * i + g))) :
    ∃ b S', aGo h qs (hcl h) (fun l => bar.testBit l) b ∧ fX1_move k a S (nI bar) = some S' ∧ QC k S' (aSlot h qs b f).1 (aSlot h qs b f).2 ∧ jFr (gpM k) (gqM k) S S' := by
  obtain ⟨p1, p2, p3, p4, p5⟩ := P
  have h40 : ∀ q, q < 18 → (qs q).length ≤ 40 := fun q hq => (p3 q hq).1
  obtain ⟨S1, a1, a2, a3⟩ := sX3_weigh (j := 1) H hW
  have w1 : WSame k S S1 := WSame.fr a3 (fun _ _ => rfl) (fun c h1 h2 => by simp [gq40]; omega)
  have hW1 := hW.same w1
  obtain ⟨b, b1, b2⟩ := sX3_pickW (j := 1) (k := k) (bar := bar) (cl := hcl h) (S := S1) H h40 hW1.1.1.2.2.1 (fun a ha => (hW1.1.2.2.1 a ha).2.2.2.trans (H.2.2.2.2.2.2.2.1 a ha).2.2.2.2) H.2.2.2.2.2.2.2.2.1.1 H.2.2.2.2.2.2.2.2.1.2.1 H.cl a2
  obtain ⟨cg1, cg2⟩ := aGo_cg H b1
  have hb1024 : b < 1024 := b1.1.1
  have hgp : (gPut S1 1 (aWn h qs) b).2 = S1.2 := rfl
  have fgp : jFr (gpM k) (gqM k) S1 (gPut S1 1 (aWn h qs) b) := (jFr.set (by simp [gpM])).tr (jFr.set (by simp [gpM]))
  have fset : jFr (gpM k) (gqM k) (gPut S1 1 (aWn h qs) b) (jset (gPut S1 1 (aWn h qs) b) (6, k) (h 66 + 1)) := jFr.set (by simp [gpM])
  have e6 : (gPut S1 1 (aWn h qs) b).1 (6, k) = h 66 := by rw [gPut_1 (by simp) (by simp)]; exact hW1.2.2.1.1
  have N3 : NC k (jset (gPut S1 1 (aWn h qs) b) (6, k) (h 66 + 1)) h := hW1.1.fr (fgp.tr fset) (fun c h1 h2 => by simp [gpM]; omega) (fun c h1 h2 => by simp [gqM, gqT, gq3x, gq40]; omega)
  have Q3 : QC k (jset (gPut S1 1 (aWn h qs) b) (6, k) (h 66 + 1)) (upd h 66 (h 66 + 1)) (aCar h (aCg h qs) b qs 0).1 := by
    obtain ⟨⟨q1, q2, q3⟩, q4⟩ := hW1.2.2
    refine ⟨⟨?_, ?_, fun g hg => ?_⟩, q4⟩
    · rw [jset_at, pk_us]
    · rw [jset_o (by simp), gPut_1 (r := (7, k)) (by simp) (by simp), pk_un (by omega)]
      exact q2
    · rw [pk_un (by omega), pk_un (by omega), pk_un (by omega)]
      exact q3 g hg
  have e10 : (jset (gPut S1 1 (aWn h qs) b) (6, k) (h 66 + 1)).1 (10, 1) = nI b := by
    rw [jset_o (by simp)]
    exact gPut_b
  have hTa : gqT k a = false := by
    cases e : gqT k a with
    | false => rfl
    | true => simp [gqM, e] at ha2
  have ef1 : S1.2 a = S.2 a := a3.2 a (by cases e : gq40 1 a; rfl; simp [gqM, e] at ha2)
  obtain ⟨S', c1, c2, c3⟩ := sX1_move_36 (m := 0) (x := h 66 + 1) (hh := upd h 66 (h 66 + 1)) H cg1 hb1024 p3 p4 ha hTa hf pk_us (hn h) 5000 0 (jset (gPut S1 1 (aWn h qs) b) (6, k) (h 66 + 1)) N3 Q3 e10 (fun l hl => by show S1.2 (40, 1) l = _; rw [(a2 l (cg1 l hl).1).1, (cg2 l hl).1]) (fun l' hl' => absurd hl' (Nat.not_lt_zero l')) (by show ∀ i g, i < hm h → g < hG h → S1.2 a (3 * i + g) = _; rw [ef1]; exact ef) (by omega) (by have := H.2.2.1.2; omega)
  refine ⟨b, S', b1, ?_, c2, ?_⟩
  · unfold fX1_move
    rw [a1, Option.bind_some, b2, Option.bind_some, e6]
    exact c1
  · refine (((a3.mono (fun _ q => (by cases q)) (fun r q => by simp [gqM, q])).tr fgp).tr fset).tr (c3.mono (fun r q => ?_) (fun r q => by simp [gqM, q]))
    simp only [gp67, Bool.or_eq_true] at q
    simp only [gpM, Bool.or_eq_true]
    rcases q with q | q <;> simp [q]
