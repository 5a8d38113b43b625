/-! ===== feed, room, tell ===== -/
def gpX (r : jR) : Bool := r == (4, 0) || r == (5, 0)
def gqX (r : jR) : Bool := r == (23, 0) || r == (24, 0) || r == (25, 0)
theorem hops_cg {h h' : Nat → Int32} (en : h' 5 = h 5) (eG : h' 1 = h 1) (eg : ∀ g, g < hG h → h' (2 + g) = h (2 + g)) (el : ∀ l, l < hn h → h' (6 + 3 * l) = h (6 + 3 * l) ∧ h' (7 + 3 * l) = h (7 + 3 * l)) : hops h' = hops h := by
  unfold hops
  rw [show hn h' = hn h from congrArg jN en, show hG h' = hG h from congrArg jN eG]
  exact hAll_fun (fun l hl => ⟨congrArg jN (el l hl).1, congrArg jN (el l hl).2⟩) (hG h) (fun g hg => congrArg jN (eg g hg))
theorem AV_hdr {T : Nat} {h h' : Nat → Int32} {qs : Nat → List Int32} (V : AV T (h, qs)) (H' : HV h') (e5 : ∀ j, j < 5 → h' j = h j) (e66 : ∀ j, 66 ≤ j → j < 77 → h' j = h j) : AV T (h', qs) := by
  obtain ⟨H, s, hs, P⟩ := V
  obtain ⟨p1, p2, p3, p4, p5⟩ := P
  have h3 := H.2.1.2.2
  refine ⟨H', s, hs, fun _ _ => rfl, (e66 66 (by omega) (by omega)).trans p2, p3, fun i g hi hg q => p4 i g hi hg (fun q' => q ?_), fun g hg => ?_⟩
  · obtain ⟨a, b, c⟩ := q'
    refine ⟨?_, ?_, ?_⟩
    · rw [show hm h' = hm h from congrArg jN (e5 0 (by omega))]; exact a
    · rw [show hG h' = hG h from congrArg jN (e5 1 (by omega))]; exact b
    · rw [show hgo h' g = hgo h g from congrArg jN (e5 (2 + g) (by omega))]; exact c
  · obtain ⟨th, lg, a1, a2, a3, a4, a5⟩ := p5 g hg
    exact ⟨th, lg, (e66 _ (by omega) (by omega)).trans a1, a2, (e66 _ (by omega) (by omega)).trans a3, a4, a5⟩
theorem obs {o : Option (Int32 × jS)} : (o.bind fun y => some (y.1, y.2)) = o := by cases o <;> rfl
/-- the class: a change of the net behind keep -/
theorem c_change {S S1 S2 : jS} {kept n : Nat} {W W1 : Nat → aW} {A : aW} {h' : Nat → Int32} {T : Nat → Int32} (C : CS S kept W A n T) (F1 : jFr gpH gqH S S1) {kept1 : Nat} (R1 : RC S1 kept1 W1 A) (F2 : jFr gpX gqX S1 S2) (N2 : NC 0 S2 h') (eh : hops h' = hops A.1) (e66 : ∀ j, 66 ≤ j → j < 77 → h' j = A.1 j) : CS S2 kept1 W1 (h', A.2) n T ∧ jFr gpC gqC S S2 := by
  obtain ⟨R, e0, hn, eT⟩ := C
  have F1' : jFr gpC gqC S S1 := F1.mono (fun r h => by
    simp only [gpH, Bool.or_eq_true, beq_iff_eq, decide_eq_true_eq] at h
    refine decide_eq_true ?_
    rcases h with (rfl | rfl) | h
    · decide
    · decide
    · omega) (fun r h => by
    simp only [gqH, decide_eq_true_eq] at h
    exact decide_eq_true (by omega))
  have F2' : jFr gpC gqC S1 S2 := F2.mono (fun r h => by
    simp only [gpX, Bool.or_eq_true, beq_iff_eq] at h
    rcases h with rfl | rfl <;> decide) (fun r h => by
    simp only [gqX, Bool.or_eq_true, beq_iff_eq] at h
    rcases h with (rfl | rfl) | rfl <;> decide)
  refine ⟨⟨R1.now (F2.1 _ (by decide)) (F2.1 _ (by decide)) (fun k hk => WSame.fr F2 (fun c hc => ?_) (fun c h1 h2 => ?_)) ⟨N2, ?_, ?_⟩, ?_, hn, fun j hj => ?_⟩, F1'.tr F2'⟩
  · simp only [gpX]
    have a : ((c, k) == ((4, 0) : jR)) = false := beq_eq_false_iff_ne.mpr (fun q => by have := congrArg Prod.snd q; simp at this; omega)
    have b : ((c, k) == ((5, 0) : jR)) = false := beq_eq_false_iff_ne.mpr (fun q => by have := congrArg Prod.snd q; simp at this; omega)
    rw [a, b]; rfl
  · simp only [gqX]
    have a : ((c, k) == ((23, 0) : jR)) = false := beq_eq_false_iff_ne.mpr (fun q => by have := congrArg Prod.snd q; simp at this; omega)
    have b : ((c, k) == ((24, 0) : jR)) = false := beq_eq_false_iff_ne.mpr (fun q => by have := congrArg Prod.snd q; simp at this; omega)
    have d : ((c, k) == ((25, 0) : jR)) = false := beq_eq_false_iff_ne.mpr (fun q => by have := congrArg Prod.snd q; simp at this; omega)
    rw [a, b, d]; rfl
  · intro q hq
    show S2.2 (26, 0) q = hops h' q
    rw [F2.2 (26, 0) (by decide), eh]
    exact R1.1.2.1 q hq
  · obtain ⟨⟨a1, a2, a3⟩, a4⟩ := R1.1.2.2
    refine ⟨⟨?_, ?_, fun g hg => ?_⟩, fun q hq => ?_⟩
    · show S2.1 (6, 0) = h' 66
      rw [F2.1 (6, 0) (by decide), e66 66 (by omega) (by omega)]; exact a1
    · show S2.1 (7, 0) = h' 76
      rw [F2.1 (7, 0) (by decide), e66 76 (by omega) (by omega)]; exact a2
    · show S2.2 (30, 0) g = h' (67 + g) ∧ S2.2 (31, 0) g = h' (70 + g) ∧ S2.2 (32, 0) g = h' (73 + g)
      rw [F2.2 (30, 0) (by decide), F2.2 (31, 0) (by decide), F2.2 (32, 0) (by decide), e66 (67 + g) (by omega) (by omega), e66 (70 + g) (by omega) (by omega), e66 (73 + g) (by omega) (by omega)]
      exact a3 g hg
    · obtain ⟨b1, b2, hd, b3, b4, b5⟩ := a4 q hq
      refine ⟨?_, b2, hd, b3, ?_, fun i hi => ?_⟩
      · rw [F2.2 (33, 0) (by decide)]; exact b1
      · rw [F2.2 (35, 0) (by decide)]; exact b4
      · rw [F2.2 (34, 0) (by decide)]; exact b5 i hi
  · exact (F2.1 _ (by decide)).trans ((F1.1 _ (by decide)).trans e0)
  · rw [F2.2 (10, 0) (by decide), F1.2 (10, 0) (by decide)]
    exact eT j hj
/-- the reference: a number of the row becomes another -/
theorem m_becomes {S : jS} {kept n : Nat} {W : Nat → aW} {A : aW} {T : Nat → Int32} (M : MS S kept W A n T) {p : Nat} {v : Int32} (hp : p < 77) : ∃ S', fX8_becomes S (nI p) v = some (if A.1 p = v then -2 else A.1 p, S') ∧ (A.1 p = v → S' = S) ∧ (A.1 p ≠ v → MS S' (min (kept + 1) 4) (aPush A W) (upd A.1 p v, A.2) n T) ∧ jFr gpD gqD S S' := by
  obtain ⟨R, e0, hn, eT⟩ := M
  unfold fX8_becomes
  simp only [if_pos (jIn_lit (show p < 2 ^ 31 by omega) (show p < 815 by omega)), nI_clamp (show p < 2 ^ 31 by omega), R.1.1 p hp, jlet_eq]
  by_cases c : A.1 p = v
  · rw [if_pos c, if_pos c]
    exact ⟨S, rfl, fun _ => rfl, fun q => absurd c q, jFr.rf⟩
  · rw [if_neg c, if_neg c]
    obtain ⟨S1, a1, a2, a3⟩ := sX8_keeps R
    rw [a1, Option.bind_some]
    have F : jFr gpD gqD S (jput S1 (50, 0) (upd (S1.2 (50, 0)) p v)) := (a3.mono (fun r h => by
      simp only [gp12, beq_iff_eq] at h
      subst h
      decide) (fun r h => by
      simp only [gq52, beq_iff_eq] at h
      subst h
      decide)).tr (jFr.put rfl)
    refine ⟨_, rfl, fun q => absurd q c, fun _ => ⟨a2.now rfl rfl ?_, ?_, hn, fun j hj => ?_⟩, F⟩
    · rw [jput_at]
      exact WM_header a2.1 hp
    · exact (a3.1 (13, 0) (by decide)).trans e0
    · show S1.2 (53, 0) j = T j
      rw [a3.2 (53, 0) (by decide)]
      exact eT j hj
/-- class and reference: one number changes -/
theorem ZZ_becomes {N kept n p : Nat} {W : Nat → aW} {A : aW} {T : Nat → Int32} {S : jS} {v : Int32} {f g : jS → Option (Int32 × jS)} (C : CS S kept W A n T) (M : MS S kept W A n T) (V : VS N kept W A) (hp : p < 66) (hp5 : 5 ≤ p)
    (H' : HV (upd A.1 p v)) (eh : hops (upd A.1 p v) = hops A.1)
    (hf0 : A.1 p = v → f S = some (-2, S))
    (hf1 : A.1 p ≠ v → ∀ S1, fX0_keep 0 S = some S1 → NC 0 S1 A.1 → ∃ S2, f S = some (A.1 p, S2) ∧ jFr gpX gqX S1 S2 ∧ NC 0 S2 (upd A.1 p v))
    (hg : ∀ S1, MS S1 kept W A n T → g S1 = fX8_becomes S1 (nI p) v) : ZZ N S f g := by
  by_cases c : A.1 p = v
  · refine ZZ_of (r := -2) M (V.mono (by omega)) ⟨S, hf0 c, C, jFr.rf⟩ (fun S1 M1 => ?_)
    obtain ⟨S2, b1, b2, b3, b4⟩ := m_becomes M1 (p := p) (v := v) (by omega)
    rw [if_pos c, b2 c] at b1
    exact ⟨S1, (hg S1 M1).trans b1, M1, jFr.rf⟩
  · obtain ⟨S1, a1, a2, a3, a4, a5⟩ := sX0_keep V.1.1 C.1
    obtain ⟨S2, b1, b2, b3⟩ := hf1 c S1 a1 a2.1.1
    obtain ⟨d1, d2⟩ := c_change C a3 a2 b2 b3 eh (fun j h1 h2 => pk_un (by omega))
    refine ZZ_of (r := A.1 p) M (V.push (AV_hdr (V.1.mono (by omega)) H' (fun j hj => pk_un (by omega)) (fun j h1 h2 => pk_un (by omega)))) ⟨S2, b1, d1, d2⟩ (fun Sm Mm => ?_)
    obtain ⟨S3, b1, b2, b3, b4⟩ := m_becomes Mm (p := p) (v := v) (by omega)
    rw [if_neg c] at b1
    exact ⟨S3, (hg Sm Mm).trans b1, b3 c, b4⟩
theorem ZZ_bad {N kept n : Nat} {W : Nat → aW} {A : aW} {T : Nat → Int32} {S : jS} {f g : jS → Option (Int32 × jS)} {r : Int32} (C : CS S kept W A n T) (M : MS S kept W A n T) (V : VS N kept W A) (hf : f S = some (r, S)) (hg : ∀ S1, MS S1 kept W A n T → g S1 = some (r, S1)) : ZZ N S f g :=
  ZZ_of (r := r) M (V.mono (by omega)) ⟨S, hf, C, jFr.rf⟩ (fun S1 M1 => ⟨S1, hg S1 M1, M1, jFr.rf⟩)
theorem z_feed {N : Nat} {S : jS} (h : SM N S) (x y z : Int32) : ZZ N S (fun S => fX7_feed S x y z) (fun S => fX8_feed S x y z) := by
  obtain ⟨kept, W, A, n, T, C, M, V⟩ := h
  have H := V.1.1
  have h6 := H.1.2.2
  have h3 := H.2.1.2.2
  by_cases c1 : ∃ i g, (x = nI i ∧ y = nI g) ∧ hq A.1 i g
  · obtain ⟨i, g, ⟨rfl, rfl⟩, hq'⟩ := c1
    obtain ⟨hi, hg, hgo'⟩ := id hq'
    by_cases c2 : ∃ j, (0 ≤ j ∧ j ≤ 9) ∧ z = nI j
    · obtain ⟨j, hj, rfl⟩ := c2
      have E : ∀ k, k < 46 ∨ 64 ≤ k → upd A.1 (46 + (3 * i + g)) (nI j) k = A.1 k := fun k hk => pk_un (by omega)
      have H' : HV (upd A.1 (46 + (3 * i + g)) (nI j)) := HV_of (H.a.cg (E 0 (by omega))) (H.g.cg (fun k _ => E k (by omega))) (H.l.cg (E 0 (by omega)) (fun k _ _ => E k (by omega))) (H.c.cg H.2.2.1.2 (E 5 (by omega)) (fun k _ _ => E k (by omega))) (H.f.feed h6 h3 hi hg hgo' hj.2) (H.b.cg (E 64 (by omega)) (E 65 (by omega))) (by rw [show hm (upd A.1 (46 + (3 * i + g)) (nI j)) = hm A.1 from congrArg jN (E 0 (by omega))]; exact H.1.2.1) (by rw [show hG (upd A.1 (46 + (3 * i + g)) (nI j)) = hG A.1 from congrArg jN (E 1 (by omega))]; exact H.2.1.2.1)
      have n10 := H.2.2.1.2
      refine ZZ_becomes (p := 46 + (3 * i + g)) (v := nI j) C M V (by omega) (by omega) H' (hops_cg (E 5 (by omega)) (E 1 (by omega)) (fun k hk => E _ (by omega)) (fun l hl => ⟨E _ (by omega), E _ (by omega)⟩)) ?_ ?_ ?_
      · intro e
        have N0 := C.1.1.1
        show fX7_feed S (nI i) (nI g) (nI j) = _
        unfold fX7_feed fX7_spot
        rw [qu7_yes H N0 hq', Option.bind_some]
        dsimp only
        rw [if_neg (by decide), wi_yes S 0 9 (x := 0) (y := 9) (by omega) hj.2 (by omega) rfl rfl, Option.bind_some]
        dsimp only
        rw [if_neg (by decide), Option.bind_some]
        dsimp only
        rw [li_m3, nI_add, if_pos (jIn_lit (by omega) (by omega)), nI_clamp (by omega), N0.2.2.2 _ (by omega)]
        unfold jlet
        dsimp only
        rw [if_pos e]
      · intro e S1 k1 N1
        have N0 := C.1.1.1
        refine ⟨jput S1 (25, 0) (upd (S1.2 (25, 0)) (3 * i + g) (nI j)), ?_, jFr.put rfl, ?_⟩
        · show fX7_feed S (nI i) (nI g) (nI j) = _
          unfold fX7_feed fX7_spot
          rw [qu7_yes H N0 hq', Option.bind_some]
          dsimp only
          rw [if_neg (by decide), wi_yes S 0 9 (x := 0) (y := 9) (by omega) hj.2 (by omega) rfl rfl, Option.bind_some]
          dsimp only
          rw [if_neg (by decide), Option.bind_some]
          dsimp only
          rw [li_m3, nI_add, if_pos (jIn_lit (by omega) (by omega)), nI_clamp (by omega), N0.2.2.2 _ (by omega)]
          unfold jlet
          dsimp only
          rw [if_neg e, k1, Option.bind_some, Option.bind_some]
          dsimp only
          rw [if_pos (jIn_lit (by omega) (by omega)), nI_clamp (by omega)]
        · obtain ⟨m1, m2, m3, m4⟩ := N1
          have eG : hG (upd A.1 (46 + (3 * i + g)) (nI j)) = hG A.1 := congrArg jN (E 1 (by omega))
          have en : hn (upd A.1 (46 + (3 * i + g)) (nI j)) = hn A.1 := congrArg jN (E 5 (by omega))
          refine ⟨?_, fun g' hg' => ?_, fun l hl => ?_, fun q hq => ?_⟩
          · rw [E 0 (by omega), E 1 (by omega), E 5 (by omega), E 64 (by omega), E 65 (by omega)]
            exact m1
          · rw [eG] at hg'
            rw [E _ (by omega)]
            exact m2 g' hg'
          · rw [en] at hl
            rw [E _ (by omega), E _ (by omega), E _ (by omega), E _ (by omega)]
            exact m3 l hl
          · rw [jput_at]
            by_cases c : q = 3 * i + g
            · rw [c, pk_us, pk_us]
            · rw [pk_un c, pk_un (by omega)]
              exact m4 q hq
      · intro S1 M1
        show fX8_feed S1 (nI i) (nI g) (nI j) = _
        unfold fX8_feed
        rw [qu8_yes H M1.1.1 hq', Option.bind_some]
        dsimp only
        rw [if_neg (by decide), in_yes S1 (a := 0) (b := 9) (x := 0) (y := 9) (by omega) hj.2 (by omega) (by decide) (by decide), Option.bind_some]
        dsimp only
        rw [if_neg (by decide), li_3m, li_46, nI_add, Nat.add_assoc]
        exact obs
    · refine ZZ_bad (r := -1) C M V ?_ (fun S1 M1 => ?_)
      · show fX7_feed S (nI i) (nI g) z = _
        unfold fX7_feed
        rw [qu7_yes H C.1.1.1 hq', Option.bind_some]
        dsimp only
        rw [if_neg (by decide), wi_no S 0 9 (x := 0) (y := 9) (by omega) (by omega) c2 rfl rfl, Option.bind_some]
        rfl
      · show fX8_feed S1 (nI i) (nI g) z = _
        unfold fX8_feed
        rw [qu8_yes H M1.1.1 hq', Option.bind_some]
        dsimp only
        rw [if_neg (by decide), in_no S1 (a := 0) (b := 9) (x := 0) (y := 9) c2 (by decide) (by decide), Option.bind_some]
        rfl
  · refine ZZ_bad (r := -1) C M V ?_ (fun S1 M1 => ?_)
    · show fX7_feed S x y z = _
      unfold fX7_feed
      rw [qu7_no H C.1.1.1 c1, Option.bind_some]
      rfl
    · show fX8_feed S1 x y z = _
      unfold fX8_feed
      rw [qu8_no H M1.1.1 c1, Option.bind_some]
      rfl

theorem z_room {N : Nat} {S : jS} (h : SM N S) (x z : Int32) : ZZ N S (fun S => fX7_room S x z) (fun S => fX8_room S x z) := by
  obtain ⟨kept, W, A, n, T, C, M, V⟩ := h
  have H := V.1.1
  have n10 := H.2.2.1.2
  have h3 := H.2.1.2.2
  obtain ⟨N1', N2', N3'⟩ := C.1.1.1.n H
  by_cases c1 : ∃ l, l < hn A.1 ∧ x = nI l
  · obtain ⟨l, hl, rfl⟩ := c1
    by_cases c2 : ∃ j, (1 ≤ j ∧ j ≤ 9) ∧ z = nI j
    · obtain ⟨j, hj, rfl⟩ := c2
      have E : ∀ k, k ≠ 8 + 3 * l → upd A.1 (8 + 3 * l) (nI j) k = A.1 k := fun k hk => pk_un hk
      have em : hm (upd A.1 (8 + 3 * l) (nI j)) = hm A.1 := congrArg jN (E 0 (by omega))
      have eG : hG (upd A.1 (8 + 3 * l) (nI j)) = hG A.1 := congrArg jN (E 1 (by omega))
      have en : hn (upd A.1 (8 + 3 * l) (nI j)) = hn A.1 := congrArg jN (E 5 (by omega))
      have Vl' : Vl (upd A.1 (8 + 3 * l) (nI j)) := by
        refine ⟨?_, fun k hk => ?_⟩
        · rw [en, E 5 (by omega)]; exact H.2.2.1
        · rw [en] at hk
          have a1 : hfi (upd A.1 (8 + 3 * l) (nI j)) k = hfi A.1 k := congrArg jN (E _ (by omega))
          have a2 : hse (upd A.1 (8 + 3 * l) (nI j)) k = hse A.1 k := congrArg jN (E _ (by omega))
          obtain ⟨l1, l2, l3, l4⟩ := H.l.2 k hk
          rw [a1, a2, em, E _ (by omega), E _ (by omega)]
          refine ⟨l1, l2, l3, ?_⟩
          by_cases q : k = l
          · subst q
            have a3 : hro (upd A.1 (8 + 3 * k) (nI j)) k = j := by unfold hro; rw [pk_us, jN_nI (by omega)]
            rw [a3, pk_us]
            exact ⟨rfl, hj⟩
          · have a3 : hro (upd A.1 (8 + 3 * l) (nI j)) k = hro A.1 k := congrArg jN (E _ (by omega))
            rw [a3, E _ (by omega)]
            exact l4
      have H' : HV (upd A.1 (8 + 3 * l) (nI j)) := HV_of (H.a.cg (E 0 (by omega))) (H.g.cg (fun k _ => E k (by omega))) Vl' (H.c.cg n10 (E 5 (by omega)) (fun k _ _ => E k (by omega))) (H.f.cg h3 (fun k _ => E k (by omega)) (fun k _ _ => E k (by omega))) (H.b.cg (E 64 (by omega)) (E 65 (by omega))) (by rw [em]; exact H.1.2.1) (by rw [eG]; exact H.2.1.2.1)
      refine ZZ_becomes (p := 8 + 3 * l) (v := nI j) C M V (by omega) (by omega) H' (hops_cg (E 5 (by omega)) (E 1 (by omega)) (fun k hk => E _ (by omega)) (fun l hl => ⟨E _ (by omega), E _ (by omega)⟩)) ?_ ?_ ?_
      · intro e
        show fX7_room S (nI l) (nI j) = _
        unfold fX7_room
        rw [lk7_yes (by omega) N3' hl, Option.bind_some]
        dsimp only
        rw [if_neg (by decide), wi_yes S 1 9 (x := 1) (y := 9) hj.1 hj.2 (by omega) rfl rfl, Option.bind_some]
        dsimp only
        rw [if_neg (by decide)]
        simp only [if_pos (jIn_lit (show l < 2 ^ 31 by omega) (show l < 10 by omega)), nI_clamp (show l < 2 ^ 31 by omega), (C.1.1.1.2.2.1 l hl).2.2.1, jlet_eq]
        rw [if_pos e]
      · intro e S1 k1 N1
        refine ⟨jput S1 (23, 0) (upd (S1.2 (23, 0)) l (nI j)), ?_, jFr.put rfl, ?_⟩
        · show fX7_room S (nI l) (nI j) = _
          unfold fX7_room
          rw [lk7_yes (by omega) N3' hl, Option.bind_some]
          dsimp only
          rw [if_neg (by decide), wi_yes S 1 9 (x := 1) (y := 9) hj.1 hj.2 (by omega) rfl rfl, Option.bind_some]
          dsimp only
          rw [if_neg (by decide)]
          simp only [if_pos (jIn_lit (show l < 2 ^ 31 by omega) (show l < 10 by omega)), nI_clamp (show l < 2 ^ 31 by omega), (C.1.1.1.2.2.1 l hl).2.2.1, jlet_eq]
          rw [if_neg e, k1, Option.bind_some]
        · obtain ⟨m1, m2, m3, m4⟩ := N1
          refine ⟨?_, fun g' hg' => ?_, fun l' hl' => ?_, fun q hq => ?_⟩
          · rw [E 0 (by omega), E 1 (by omega), E 5 (by omega), E 64 (by omega), E 65 (by omega)]
            exact m1
          · rw [eG] at hg'
            rw [E _ (by omega)]
            exact m2 g' hg'
          · rw [en] at hl'
            obtain ⟨p1, p2, p3, p4⟩ := m3 l' hl'
            rw [E (6 + 3 * l') (by omega), E (7 + 3 * l') (by omega), E (36 + l') (by omega), jput_at]
            refine ⟨p1, p2, ?_, p4⟩
            by_cases q : l' = l
            · rw [q, pk_us, pk_us]
            · rw [pk_un q, pk_un (by omega)]
              exact p3
          · rw [E _ (by omega)]
            exact m4 q hq
      · intro S1 M1
        show fX8_room S1 (nI l) (nI j) = _
        unfold fX8_room
        rw [lk8_yes H M1.1.1 hl, Option.bind_some]
        dsimp only
        rw [if_neg (by decide), in_yes S1 (a := 1) (b := 9) (x := 1) (y := 9) hj.1 hj.2 (by omega) (by decide) (by decide), Option.bind_some]
        dsimp only
        rw [if_neg (by decide), li_3m, li_6, li_p2, show 6 + 3 * l + 2 = 8 + 3 * l by omega]
        exact obs
    · refine ZZ_bad (r := -1) C M V ?_ (fun S1 M1 => ?_)
      · show fX7_room S (nI l) z = _
        unfold fX7_room
        rw [lk7_yes (by omega) N3' hl, Option.bind_some]
        dsimp only
        rw [if_neg (by decide), wi_no S 1 9 (x := 1) (y := 9) (by omega) (by omega) c2 rfl rfl, Option.bind_some]
        rfl
      · show fX8_room S1 (nI l) z = _
        unfold fX8_room
        rw [lk8_yes H M1.1.1 hl, Option.bind_some]
        dsimp only
        rw [if_neg (by decide), in_no S1 (a := 1) (b := 9) (x := 1) (y := 9) c2 (by decide) (by decide), Option.bind_some]
        rfl
  · refine ZZ_bad (r := -1) C M V ?_ (fun S1 M1 => ?_)
    · show fX7_room S x z = _
      unfold fX7_room
      rw [lk7_no (by omega) N3' c1, Option.bind_some]
      rfl
    · show fX8_room S1 x z = _
      unfold fX8_room
      rw [lk8_no H M1.1.1 c1, Option.bind_some]
      rfl
/-- a number of the header alone -/
theorem NC_scal {S : jS} {h : Nat → Int32} (H : HV h) (N : NC 0 S h) {a : Nat} {j : Nat} {v : Int32} (hj : (a = 4 ∧ j = 65) ∨ (a = 5 ∧ j = 64)) : NC 0 (jset S (a, 0) v) (upd h j v) := by
  obtain ⟨⟨n1, n2, n3, n4, n5⟩, n6, n7, n8⟩ := N
  have h3 := H.2.1.2.2
  have h10 := H.2.2.1.2
  have E : ∀ i, i ≠ 64 → i ≠ 65 → upd h j v i = h i := fun i a2 a3 => pk_un (by omega)
  have eG : hG (upd h j v) = hG h := congrArg jN (E 1 (by omega) (by omega))
  have en : hn (upd h j v) = hn h := congrArg jN (E 5 (by omega) (by omega))
  refine ⟨?_, fun g hg => ?_, fun l hl => ?_, fun q hq => ?_⟩
  · rcases hj with ⟨rfl, rfl⟩ | ⟨rfl, rfl⟩
    · exact ⟨n1, n2, n3, pk_us.symm, n5⟩
    · exact ⟨n1, n2, n3, n4, pk_us.symm⟩
  · rw [eG] at hg
    rw [E _ (by omega) (by omega)]
    exact n6 g hg
  · rw [en] at hl
    rw [E _ (by omega) (by omega), E _ (by omega) (by omega), E _ (by omega) (by omega), E _ (by omega) (by omega)]
    exact n7 l hl
  · rw [E _ (by omega) (by omega)]
    exact n8 q hq
theorem HV_b {h : Nat → Int32} (H : HV h) {j : Nat} (hj : j ≤ 9) : HV (upd h 64 (nI j)) := by
  have E : ∀ k, k ≠ 64 → upd h 64 (nI j) k = h k := fun k hk => pk_un hk
  have em : hb (upd h 64 (nI j)) = j := by
    show jN (upd h 64 (nI j) 64) = j
    rw [pk_us, jN_nI (by omega)]
  refine HV_of (H.a.cg (E 0 (by omega))) (H.g.cg (fun k _ => E k (by omega))) (H.l.cg (E 0 (by omega)) (fun k _ _ => E k (by omega))) (H.c.cg H.2.2.1.2 (E 5 (by omega)) (fun k _ _ => E k (by omega))) (H.f.cg H.2.1.2.2 (fun k _ => E k (by omega)) (fun k _ _ => E k (by omega))) ⟨⟨?_, by omega⟩, ?_⟩ (by rw [show hm (upd h 64 (nI j)) = hm h from congrArg jN (E 0 (by omega))]; exact H.1.2.1) (by rw [show hG (upd h 64 (nI j)) = hG h from congrArg jN (E 1 (by omega))]; exact H.2.1.2.1)
  · rw [em]; exact pk_us
  · rw [E 65 (by omega)]; exact H.b.2
theorem HV_o {h : Nat → Int32} (H : HV h) {j : Nat} (hj : j ≤ 1) : HV (upd h 65 (nI j)) := by
  have E : ∀ k, k ≠ 65 → upd h 65 (nI j) k = h k := fun k hk => pk_un hk
  have em : hb (upd h 65 (nI j)) = hb h := congrArg jN (E 64 (by omega))
  refine HV_of (H.a.cg (E 0 (by omega))) (H.g.cg (fun k _ => E k (by omega))) (H.l.cg (E 0 (by omega)) (fun k _ _ => E k (by omega))) (H.c.cg H.2.2.1.2 (E 5 (by omega)) (fun k _ _ => E k (by omega))) (H.f.cg H.2.1.2.2 (fun k _ => E k (by omega)) (fun k _ _ => E k (by omega))) ⟨?_, ?_⟩ (by rw [show hm (upd h 65 (nI j)) = hm h from congrArg jN (E 0 (by omega))]; exact H.1.2.1) (by rw [show hG (upd h 65 (nI j)) = hG h from congrArg jN (E 1 (by omega))]; exact H.2.1.2.1)
  · rw [em, E 64 (by omega)]; exact H.b.1
  · rw [pk_us]
    rcases Nat.le_one_iff_eq_zero_or_eq_one.mp hj with rfl | rfl
    · exact Or.inl rfl
    · exact Or.inr rfl
theorem z_tell {N : Nat} {S : jS} (h : SM N S) (x z : Int32) : ZZ N S (fun S => fX7_tell S x z) (fun S => fX8_tell S x z) := by
  obtain ⟨kept, W, A, n, T, C, M, V⟩ := h
  have H := V.1.1
  have h3 := H.2.1.2.2
  have n10 := H.2.2.1.2
  by_cases c0 : x = 0
  · subst c0
    have m0 : ∀ S1, fX8_tell S1 0 z = (fX8_in S1 z.toInt64 (0 : Int64) (1 : Int64)).bind fun y4 => if y4.1 = 0 then some (-1, y4.2) else (fX8_becomes y4.2 65 z).bind fun y7 => some (y7.1, y7.2) := fun S1 => by
      unfold fX8_tell
      rw [show (0 : Int32) = nI 0 from rfl, in_yes S1 (j := 0) (a := 0) (b := 1) (x := 0) (y := 1) (by omega) (by omega) (by omega) (by decide) (by decide), Option.bind_some]
      rfl
    by_cases c2 : ∃ j, (0 ≤ j ∧ j ≤ 1) ∧ z = nI j
    · obtain ⟨j, hj, rfl⟩ := c2
      have E : ∀ k, k ≠ 65 → upd A.1 65 (nI j) k = A.1 k := fun k hk => pk_un hk
      refine ZZ_becomes (p := 65) (v := nI j) C M V (by omega) (by omega) (HV_o H hj.2) (hops_cg (E 5 (by omega)) (E 1 (by omega)) (fun k hk => E _ (by omega)) (fun l hl => ⟨E _ (by omega), E _ (by omega)⟩)) ?_ ?_ ?_
      · intro e
        show fX7_tell S 0 (nI j) = _
        unfold fX7_tell fX7_tellLaw jlet
        rw [if_pos rfl, wi_yes S 0 1 (x := 0) (y := 1) (by omega) hj.2 (by omega) rfl rfl, Option.bind_some]
        dsimp only
        rw [if_neg (by decide), C.1.1.1.1.2.2.2.1, if_pos e]
        rfl
      · intro e S1 k1 N1
        refine ⟨jset S1 (4, 0) (nI j), ?_, jFr.set rfl, NC_scal H N1 (Or.inl ⟨rfl, rfl⟩)⟩
        show fX7_tell S 0 (nI j) = _
        unfold fX7_tell fX7_tellLaw jlet
        rw [if_pos rfl, wi_yes S 0 1 (x := 0) (y := 1) (by omega) hj.2 (by omega) rfl rfl, Option.bind_some]
        dsimp only
        rw [if_neg (by decide), C.1.1.1.1.2.2.2.1, if_neg e, k1]
        rfl
      · intro S1 M1
        show fX8_tell S1 0 (nI j) = _
        rw [m0, in_yes S1 (a := 0) (b := 1) (x := 0) (y := 1) (by omega) hj.2 (by omega) (by decide) (by decide), Option.bind_some]
        dsimp only
        rw [if_neg (by decide)]
        exact obs
    · refine ZZ_bad (r := -1) C M V ?_ (fun S1 M1 => ?_)
      · show fX7_tell S 0 z = _
        unfold fX7_tell fX7_tellLaw
        rw [if_pos rfl, wi_no S 0 1 (x := 0) (y := 1) (by omega) (by omega) c2 rfl rfl]
        rfl
      · show fX8_tell S1 0 z = _
        rw [m0, in_no S1 (a := 0) (b := 1) (x := 0) (y := 1) c2 (by decide) (by decide)]
        rfl
  by_cases c1 : x = 1
  · subst c1
    have m0 : ∀ S1, fX8_tell S1 1 z = (fX8_in S1 z.toInt64 (0 : Int64) (9 : Int64)).bind fun y4 => if y4.1 = 0 then some (-1, y4.2) else (fX8_becomes y4.2 64 z).bind fun y7 => some (y7.1, y7.2) := fun S1 => by
      unfold fX8_tell
      rw [show (1 : Int32) = nI 1 from rfl, in_yes S1 (j := 1) (a := 0) (b := 1) (x := 0) (y := 1) (by omega) (by omega) (by omega) (by decide) (by decide), Option.bind_some]
      rfl
    by_cases c2 : ∃ j, (0 ≤ j ∧ j ≤ 9) ∧ z = nI j
    · obtain ⟨j, hj, rfl⟩ := c2
      have E : ∀ k, k ≠ 64 → upd A.1 64 (nI j) k = A.1 k := fun k hk => pk_un hk
      refine ZZ_becomes (p := 64) (v := nI j) C M V (by omega) (by omega) (HV_b H hj.2) (hops_cg (E 5 (by omega)) (E 1 (by omega)) (fun k hk => E _ (by omega)) (fun l hl => ⟨E _ (by omega), E _ (by omega)⟩)) ?_ ?_ ?_
      · intro e
        show fX7_tell S 1 (nI j) = _
        unfold fX7_tell fX7_tellB jlet
        rw [if_neg (by decide), if_pos rfl, wi_yes S 0 9 (x := 0) (y := 9) (by omega) hj.2 (by omega) rfl rfl, Option.bind_some]
        dsimp only
        rw [if_neg (by decide), C.1.1.1.1.2.2.2.2, if_pos e]
        rfl
      · intro e S1 k1 N1
        refine ⟨jset S1 (5, 0) (nI j), ?_, jFr.set rfl, NC_scal H N1 (Or.inr ⟨rfl, rfl⟩)⟩
        show fX7_tell S 1 (nI j) = _
        unfold fX7_tell fX7_tellB jlet
        rw [if_neg (by decide), if_pos rfl, wi_yes S 0 9 (x := 0) (y := 9) (by omega) hj.2 (by omega) rfl rfl, Option.bind_some]
        dsimp only
        rw [if_neg (by decide), C.1.1.1.1.2.2.2.2, if_neg e, k1]
        rfl
      · intro S1 M1
        show fX8_tell S1 1 (nI j) = _
        rw [m0, in_yes S1 (a := 0) (b := 9) (x := 0) (y := 9) (by omega) hj.2 (by omega) (by decide) (by decide), Option.bind_some]
        dsimp only
        rw [if_neg (by decide)]
        exact obs
    · refine ZZ_bad (r := -1) C M V ?_ (fun S1 M1 => ?_)
      · show fX7_tell S 1 z = _
        unfold fX7_tell fX7_tellB
        rw [if_neg (by decide), if_pos rfl, wi_no S 0 9 (x := 0) (y := 9) (by omega) (by omega) c2 rfl rfl]
        rfl
      · show fX8_tell S1 1 z = _
        rw [m0, in_no S1 (a := 0) (b := 9) (x := 0) (y := 9) c2 (by decide) (by decide)]
        rfl
  · refine ZZ_bad (r := -1) C M V ?_ (fun S1 M1 => ?_)
    · show fX7_tell S x z = _
      unfold fX7_tell
      rw [if_neg c0, if_neg c1]
    · show fX8_tell S1 x z = _
      unfold fX8_tell
      rw [in_no S1 (a := 0) (b := 1) (x := 0) (y := 1) (fun ⟨j, hj, e⟩ => by
        rcases Nat.le_one_iff_eq_zero_or_eq_one.mp hj.2 with rfl | rfl
        · exact c0 e
        · exact c1 e) (by decide) (by decide)]
      rfl
