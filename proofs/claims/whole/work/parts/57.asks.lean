/-! ===== count, goal, queue, drop, goes, link ===== -/
theorem ZZ_scr {N kept n : Nat} {W : Nat → aW} {A : aW} {T : Nat → Int32} {S : jS} {f g : jS → Option (Int32 × jS)} {r : Int32} (C : CS S kept W A n T) (M : MS S kept W A n T) (V : VS N kept W A) (hf : ∃ S1, f S = some (r, S1) ∧ jFr gpS gqS S S1) (hg : ∀ S1, MS S1 kept W A n T → ∃ S2, g S1 = some (r, S2) ∧ jFr gpE gqE S1 S2) : ZZ N S f g := by
  obtain ⟨S1, f1, f2⟩ := hf
  refine ZZ_of (r := r) M (V.mono (by omega)) ⟨S1, f1, C.scr f2, f2.C⟩ (fun Sm Mm => ?_)
  obtain ⟨S2, g1, g2⟩ := hg Sm Mm
  exact ⟨S2, g1, Mm.scr g2, g2.D⟩
theorem z_count {N : Nat} {S : jS} (h : SM N S) (x : Int32) : ZZ N S (fun S => fX7_count S x) (fun S => fX8_count S x) := by
  obtain ⟨kept, W, A, n, T, C, M, V⟩ := h
  have H := V.1.1
  by_cases c0 : x = 0
  · subst c0
    refine ZZ_bad (r := A.1 0) C M V ?_ (fun S1 M1 => ?_)
    · show fX7_count S 0 = _
      unfold fX7_count
      rw [if_pos rfl, C.1.1.1.1.1]
    · show fX8_count S1 0 = _
      unfold fX8_count
      rw [if_pos rfl, if_pos (by decide), show (0 : Int32).toNatClampNeg = 0 by decide, M1.1.1.1 0 (by omega)]
  by_cases c1 : x = 1
  · subst c1
    refine ZZ_bad (r := A.1 1) C M V ?_ (fun S1 M1 => ?_)
    · show fX7_count S 1 = _
      unfold fX7_count
      rw [if_neg (by decide), if_pos rfl, C.1.1.1.1.2.1]
    · show fX8_count S1 1 = _
      unfold fX8_count
      rw [if_neg (by decide), if_pos rfl, if_pos (by decide), show (1 : Int32).toNatClampNeg = 1 by decide, M1.1.1.1 1 (by omega)]
  by_cases c2 : x = 2
  · subst c2
    refine ZZ_bad (r := A.1 5) C M V ?_ (fun S1 M1 => ?_)
    · show fX7_count S 2 = _
      unfold fX7_count
      rw [if_neg (by decide), if_neg (by decide), if_pos rfl, C.1.1.1.1.2.2.1]
    · show fX8_count S1 2 = _
      unfold fX8_count
      rw [if_neg (by decide), if_neg (by decide), if_pos rfl, if_pos (by decide), show (5 : Int32).toNatClampNeg = 5 by decide, M1.1.1.1 5 (by omega)]
  by_cases c3 : x = 3
  · subst c3
    refine ZZ_bad (r := nI (aPr A.1 (hn A.1)) / 2) C M V ?_ (fun S1 M1 => ?_)
    · show fX7_count S 3 = _
      unfold fX7_count
      rw [if_neg (by decide), if_neg (by decide), if_neg (by decide), if_pos rfl, sX2_pairs H C.1.1.1, Option.bind_some]
    · show fX8_count S1 3 = _
      unfold fX8_count
      rw [if_neg (by decide), if_neg (by decide), if_neg (by decide), if_pos rfl, sX8_pairs H M1.1.1, Option.bind_some]
  by_cases c4 : x = 4
  · subst c4
    refine ZZ_bad (r := A.1 65) C M V ?_ (fun S1 M1 => ?_)
    · show fX7_count S 4 = _
      unfold fX7_count
      rw [if_neg (by decide), if_neg (by decide), if_neg (by decide), if_neg (by decide), if_pos rfl, C.1.1.1.1.2.2.2.1]
    · show fX8_count S1 4 = _
      unfold fX8_count
      rw [if_neg (by decide), if_neg (by decide), if_neg (by decide), if_neg (by decide), if_pos rfl, if_pos (by decide), show (65 : Int32).toNatClampNeg = 65 by decide, M1.1.1.1 65 (by omega)]
  by_cases c5 : x = 5
  · subst c5
    refine ZZ_bad (r := A.1 64) C M V ?_ (fun S1 M1 => ?_)
    · show fX7_count S 5 = _
      unfold fX7_count
      rw [if_neg (by decide), if_neg (by decide), if_neg (by decide), if_neg (by decide), if_neg (by decide), if_pos rfl, C.1.1.1.1.2.2.2.2]
    · show fX8_count S1 5 = _
      unfold fX8_count
      rw [if_neg (by decide), if_neg (by decide), if_neg (by decide), if_neg (by decide), if_neg (by decide), if_pos rfl, if_pos (by decide), show (64 : Int32).toNatClampNeg = 64 by decide, M1.1.1.1 64 (by omega)]
  by_cases c6 : x = 6
  · subst c6
    refine ZZ_bad (r := A.1 66) C M V ?_ (fun S1 M1 => ?_)
    · show fX7_count S 6 = _
      unfold fX7_count fX7_countPackets
      rw [if_neg (by decide), if_neg (by decide), if_neg (by decide), if_neg (by decide), if_neg (by decide), if_neg (by decide), if_neg (by decide), if_neg (by decide), if_pos rfl, Option.bind_some, C.1.1.2.2.1.1]
    · show fX8_count S1 6 = _
      unfold fX8_count
      rw [if_neg (by decide), if_neg (by decide), if_neg (by decide), if_neg (by decide), if_neg (by decide), if_neg (by decide), if_pos rfl, if_pos (by decide), show (66 : Int32).toNatClampNeg = 66 by decide, M1.1.1.1 66 (by omega)]
  by_cases c7 : x = 7
  · subst c7
    refine ZZ_bad (r := aPk A.2 18) C M V ?_ (fun S1 M1 => ?_)
    · show fX7_count S 7 = _
      unfold fX7_count fX7_countPackets
      rw [if_neg (by decide), if_neg (by decide), if_neg (by decide), if_neg (by decide), if_neg (by decide), if_neg (by decide), if_neg (by decide), if_neg (by decide), if_neg (by decide), if_pos rfl, sX4_packets C.1.1.2.2, Option.bind_some, Option.bind_some]
    · show fX8_count S1 7 = _
      unfold fX8_count
      rw [if_neg (by decide), if_neg (by decide), if_neg (by decide), if_neg (by decide), if_neg (by decide), if_neg (by decide), if_neg (by decide), if_pos rfl, sX8_packets M1.1.1, Option.bind_some]
  by_cases c8 : x = 8
  · subst c8
    refine ZZ_bad (r := aTh A.1) C M V ?_ (fun S1 M1 => ?_)
    · show fX7_count S 8 = _
      unfold fX7_count fX7_countPackets
      rw [if_neg (by decide), if_neg (by decide), if_neg (by decide), if_neg (by decide), if_neg (by decide), if_neg (by decide), if_neg (by decide), if_neg (by decide), if_neg (by decide), if_neg (by decide), if_pos rfl, sX4_thereInAll C.1.1.2.2, Option.bind_some, Option.bind_some]
    · show fX8_count S1 8 = _
      unfold fX8_count
      rw [if_neg (by decide), if_neg (by decide), if_neg (by decide), if_neg (by decide), if_neg (by decide), if_neg (by decide), if_neg (by decide), if_neg (by decide), if_pos rfl, sX8_thereAll M1.1.1, Option.bind_some]
  by_cases c9 : x = 9
  · subst c9
    refine ZZ_bad (r := A.1 76) C M V ?_ (fun S1 M1 => ?_)
    · show fX7_count S 9 = _
      unfold fX7_count fX7_countPackets
      rw [if_neg (by decide), if_neg (by decide), if_neg (by decide), if_neg (by decide), if_neg (by decide), if_neg (by decide), if_neg (by decide), if_neg (by decide), if_neg (by decide), if_neg (by decide), if_neg (by decide), if_pos rfl, Option.bind_some, C.1.1.2.2.1.2.1]
    · show fX8_count S1 9 = _
      unfold fX8_count
      rw [if_neg (by decide), if_neg (by decide), if_neg (by decide), if_neg (by decide), if_neg (by decide), if_neg (by decide), if_neg (by decide), if_neg (by decide), if_neg (by decide), if_pos rfl, if_pos (by decide), show (76 : Int32).toNatClampNeg = 76 by decide, M1.1.1.1 76 (by omega)]
  by_cases c10 : x = 10
  · subst c10
    refine ZZ_bad (r := aSq A.2 18) C M V ?_ (fun S1 M1 => ?_)
    · show fX7_count S 10 = _
      unfold fX7_count fX7_countPackets
      rw [if_neg (by decide), if_neg (by decide), if_neg (by decide), if_neg (by decide), if_neg (by decide), if_neg (by decide), if_neg (by decide), if_neg (by decide), if_neg (by decide), if_neg (by decide), if_neg (by decide), if_neg (by decide), if_pos rfl, sX4_squares C.1.1.2.2, Option.bind_some, Option.bind_some]
    · show fX8_count S1 10 = _
      unfold fX8_count
      rw [if_neg (by decide), if_neg (by decide), if_neg (by decide), if_neg (by decide), if_neg (by decide), if_neg (by decide), if_neg (by decide), if_neg (by decide), if_neg (by decide), if_neg (by decide), if_pos rfl, sX8_squares M1.1.1, Option.bind_some]
  by_cases c11 : x = 11
  · subst c11
    refine ZZ_bad (r := nI kept) C M V ?_ (fun S1 M1 => ?_)
    · show fX7_count S 11 = _
      unfold fX7_count
      rw [if_neg (by decide), if_neg (by decide), if_neg (by decide), if_neg (by decide), if_neg (by decide), if_neg (by decide), if_pos rfl, C.1.2.1]
    · show fX8_count S1 11 = _
      unfold fX8_count
      rw [if_neg (by decide), if_neg (by decide), if_neg (by decide), if_neg (by decide), if_neg (by decide), if_neg (by decide), if_neg (by decide), if_neg (by decide), if_neg (by decide), if_neg (by decide), if_neg (by decide), if_pos rfl, M1.1.2.1]
  by_cases c12 : x = 12
  · subst c12
    refine ZZ_bad (r := nI n) C M V ?_ (fun S1 M1 => ?_)
    · show fX7_count S 12 = _
      unfold fX7_count
      rw [if_neg (by decide), if_neg (by decide), if_neg (by decide), if_neg (by decide), if_neg (by decide), if_neg (by decide), if_neg (by decide), if_pos rfl, C.2.1]
    · show fX8_count S1 12 = _
      unfold fX8_count
      rw [if_neg (by decide), if_neg (by decide), if_neg (by decide), if_neg (by decide), if_neg (by decide), if_neg (by decide), if_neg (by decide), if_neg (by decide), if_neg (by decide), if_neg (by decide), if_neg (by decide), if_neg (by decide), if_pos rfl, M1.2.1]
  refine ZZ_bad (r := -1) C M V ?_ (fun S1 M1 => ?_)
  · show fX7_count S x = _
    unfold fX7_count fX7_countPackets
    rw [if_neg c0, if_neg c1, if_neg c2, if_neg c3, if_neg c4, if_neg c5, if_neg c11, if_neg c12, if_neg c6, if_neg c7, if_neg c8, if_neg c9, if_neg c10, Option.bind_some]
  · show fX8_count S1 x = _
    unfold fX8_count
    rw [if_neg c0, if_neg c1, if_neg c2, if_neg c3, if_neg c4, if_neg c5, if_neg c6, if_neg c7, if_neg c8, if_neg c9, if_neg c10, if_neg c11, if_neg c12]
theorem z_goal {N : Nat} {S : jS} (h : SM N S) (x y : Int32) : ZZ N S (fun S => fX7_goal S x y) (fun S => fX8_goal S x y) := by
  obtain ⟨kept, W, A, n, T, C, M, V⟩ := h
  have H := V.1.1
  have h3 := H.2.1.2.2
  obtain ⟨-, N2', -⟩ := C.1.1.1.n H
  by_cases d1 : ∃ l, l < hG A.1 ∧ x = nI l
  case neg =>
    refine ZZ_bad (r := -1) C M V ?_ (fun S1 M1 => ?_)
    · show fX7_goal S x y = _
      unfold fX7_goal
      rw [go7_no (by omega) N2' d1, Option.bind_some]
      rfl
    · show fX8_goal S1 x y = _
      unfold fX8_goal
      rw [go8_no H M1.1.1 d1, Option.bind_some]
      rfl
  obtain ⟨g, hg, rfl⟩ := d1
  by_cases d2 : ∃ j, (0 ≤ j ∧ j ≤ 4) ∧ y = nI j
  case neg =>
    refine ZZ_bad (r := -1) C M V ?_ (fun S1 M1 => ?_)
    · show fX7_goal S (nI g) y = _
      unfold fX7_goal
      rw [go7_yes (by omega) N2' hg, Option.bind_some]
      dsimp only
      rw [if_neg (by decide), wi_no S 0 4 (x := 0) (y := 4) (by omega) (by omega) d2 rfl rfl, Option.bind_some]
      rfl
    · show fX8_goal S1 (nI g) y = _
      unfold fX8_goal
      rw [go8_yes H M1.1.1 hg, Option.bind_some]
      dsimp only
      rw [if_neg (by decide), in_no S1 (a := 0) (b := 4) (x := 0) (y := 4) d2 (by decide) (by decide), Option.bind_some]
      rfl
  obtain ⟨j, hj, rfl⟩ := d2
  have i1 : jIn (nI g) 3 := jIn_lit (by omega) (by omega)
  have eg := nI_clamp (show g < 2 ^ 31 by omega)
  have Q := C.1.1.2.2
  have s0 := C.1.1.1.2.1 g hg
  obtain ⟨s1, s2, s3⟩ := Q.1.2.2 g (by omega)
  rcases (show j = 0 ∨ j = 1 ∨ j = 2 ∨ j = 3 ∨ j = 4 by omega) with rfl | rfl | rfl | rfl | rfl
  · refine ZZ_bad (r := A.1 (2 + g)) C M V ?_ (fun S1 M1 => ?_)
    · show fX7_goal S (nI g) 0 = _
      unfold fX7_goal
      rw [go7_yes (by omega) N2' hg, Option.bind_some]
      dsimp only
      rw [if_neg (by decide), show fX7_within S (0 : Int32) 0 4 = some (1, S) from wi_yes S (j := 0) 0 4 (by omega) (by omega) (by omega) rfl rfl, Option.bind_some]
      dsimp only
      rw [if_neg (by decide), if_pos rfl, if_pos i1, eg, s0]
    · show fX8_goal S1 (nI g) 0 = _
      unfold fX8_goal
      rw [go8_yes H M1.1.1 hg, Option.bind_some]
      dsimp only
      rw [if_neg (by decide), show fX8_in S1 (0 : Int32).toInt64 0 4 = some (1, S1) from in_yes S1 (j := 0) (a := 0) (b := 4) (by omega) (by omega) (by omega) (by decide) (by decide), Option.bind_some]
      dsimp only
      rw [if_neg (by decide), if_pos rfl, li_2, if_pos (jIn_lit (by omega) (by omega)), nI_clamp (by omega), M1.1.1.1 _ (by omega)]
  · refine ZZ_bad (r := A.1 (67 + g)) C M V ?_ (fun S1 M1 => ?_)
    · show fX7_goal S (nI g) 1 = _
      unfold fX7_goal
      rw [go7_yes (by omega) N2' hg, Option.bind_some]
      dsimp only
      rw [if_neg (by decide), show fX7_within S (1 : Int32) 0 4 = some (1, S) from wi_yes S (j := 1) 0 4 (by omega) (by omega) (by omega) rfl rfl, Option.bind_some]
      dsimp only
      rw [if_neg (by decide), if_neg (by decide), if_pos rfl, if_pos i1, eg, s1]
    · show fX8_goal S1 (nI g) 1 = _
      unfold fX8_goal
      rw [go8_yes H M1.1.1 hg, Option.bind_some]
      dsimp only
      rw [if_neg (by decide), show fX8_in S1 (1 : Int32).toInt64 0 4 = some (1, S1) from in_yes S1 (j := 1) (a := 0) (b := 4) (by omega) (by omega) (by omega) (by decide) (by decide), Option.bind_some]
      dsimp only
      rw [if_neg (by decide), if_neg (by decide), if_pos rfl, li_67, if_pos (jIn_lit (by omega) (by omega)), nI_clamp (by omega), M1.1.1.1 _ (by omega)]
  · refine ZZ_bad (r := A.1 (70 + g)) C M V ?_ (fun S1 M1 => ?_)
    · show fX7_goal S (nI g) 2 = _
      unfold fX7_goal
      rw [go7_yes (by omega) N2' hg, Option.bind_some]
      dsimp only
      rw [if_neg (by decide), show fX7_within S (2 : Int32) 0 4 = some (1, S) from wi_yes S (j := 2) 0 4 (by omega) (by omega) (by omega) rfl rfl, Option.bind_some]
      dsimp only
      rw [if_neg (by decide), if_neg (by decide), if_neg (by decide), if_pos rfl, if_pos i1, eg, s2]
    · show fX8_goal S1 (nI g) 2 = _
      unfold fX8_goal
      rw [go8_yes H M1.1.1 hg, Option.bind_some]
      dsimp only
      rw [if_neg (by decide), show fX8_in S1 (2 : Int32).toInt64 0 4 = some (1, S1) from in_yes S1 (j := 2) (a := 0) (b := 4) (by omega) (by omega) (by omega) (by decide) (by decide), Option.bind_some]
      dsimp only
      rw [if_neg (by decide), if_neg (by decide), if_neg (by decide), if_pos rfl, li_70, if_pos (jIn_lit (by omega) (by omega)), nI_clamp (by omega), M1.1.1.1 _ (by omega)]
  · refine ZZ_bad (r := if A.1 (67 + g) = 0 then -4 else A.1 (73 + g)) C M V ?_ (fun S1 M1 => ?_)
    · show fX7_goal S (nI g) 3 = _
      unfold fX7_goal
      rw [go7_yes (by omega) N2' hg, Option.bind_some]
      dsimp only
      rw [if_neg (by decide), show fX7_within S (3 : Int32) 0 4 = some (1, S) from wi_yes S (j := 3) 0 4 (by omega) (by omega) (by omega) rfl rfl, Option.bind_some]
      dsimp only
      rw [if_neg (by decide), if_neg (by decide), if_neg (by decide), if_neg (by decide), if_pos rfl, if_pos i1]
      simp only [eg, s1, s3, if_pos i1]
      by_cases q : A.1 (67 + g) = 0
      · rw [if_pos q, if_pos q]
      · rw [if_neg q, if_neg q]
    · show fX8_goal S1 (nI g) 3 = _
      unfold fX8_goal
      rw [go8_yes H M1.1.1 hg, Option.bind_some]
      dsimp only
      rw [if_neg (by decide), show fX8_in S1 (3 : Int32).toInt64 0 4 = some (1, S1) from in_yes S1 (j := 3) (a := 0) (b := 4) (by omega) (by omega) (by omega) (by decide) (by decide), Option.bind_some]
      dsimp only
      rw [if_neg (by decide), if_neg (by decide), if_neg (by decide), if_neg (by decide), if_pos rfl, li_67, li_73, if_pos (jIn_lit (by omega) (by omega))]
      simp only [nI_clamp (show 67 + g < 2 ^ 31 by omega), nI_clamp (show 73 + g < 2 ^ 31 by omega), M1.1.1.1 (67 + g) (by omega), M1.1.1.1 (73 + g) (by omega), if_pos (jIn_lit (show 73 + g < 2 ^ 31 by omega) (show 73 + g < 815 by omega))]
      by_cases q : A.1 (67 + g) = 0
      · rw [if_pos q, if_pos q]
      · rw [if_neg q, if_neg q]
  · refine ZZ_bad (r := aPf A.2 g 6) C M V ?_ (fun S1 M1 => ?_)
    · show fX7_goal S (nI g) 4 = _
      unfold fX7_goal
      rw [go7_yes (by omega) N2' hg, Option.bind_some]
      dsimp only
      rw [if_neg (by decide), show fX7_within S (4 : Int32) 0 4 = some (1, S) from wi_yes S (j := 4) 0 4 (by omega) (by omega) (by omega) rfl rfl, Option.bind_some]
      dsimp only
      rw [if_neg (by decide), if_neg (by decide), if_neg (by decide), if_neg (by decide), if_neg (by decide), sX4_packetsFor Q (by omega), Option.bind_some]
    · show fX8_goal S1 (nI g) 4 = _
      unfold fX8_goal
      rw [go8_yes H M1.1.1 hg, Option.bind_some]
      dsimp only
      rw [if_neg (by decide), show fX8_in S1 (4 : Int32).toInt64 0 4 = some (1, S1) from in_yes S1 (j := 4) (a := 0) (b := 4) (by omega) (by omega) (by omega) (by decide) (by decide), Option.bind_some]
      dsimp only
      have h6 := H.1.2.2
      obtain ⟨-, s, hs, P⟩ := V.1
      have e := aPf_more (qs := A.2) (g := g) (m := hm A.1) (fun i h1 h2 => P.2.2.2.1 i g h2 (by omega) (fun q => by have := q.1; omega)) (6 - hm A.1) (by omega)
      rw [show hm A.1 + (6 - hm A.1) = 6 by omega] at e
      rw [if_neg (by decide), if_neg (by decide), if_neg (by decide), if_neg (by decide), if_neg (by decide), sX8_packetsFor H M1.1.1 (by omega), Option.bind_some, e]
theorem sX8_bornNext {S : jS} {h : Nat → Int32} {qs : Nat → List Int32} (H : HV h) (M : WM (S.2 (50, 0)) h qs) {i g : Nat} (hi : i < 6) (hg : g < 3) : fX8_bornNext S (nI i) (nI g) = some (if (qs (3 * i + g)).length = 0 then -4 else (lTk (h 65) (qs (3 * i + g))).1, S) := by
  obtain ⟨m1, m2, m3⟩ := M.2 (3 * i + g) (by omega)
  have i1 : jIn (nI (77 + 41 * (3 * i + g))) 815 := jIn_lit (by omega) (by omega)
  have e1 := nI_clamp (show 77 + 41 * (3 * i + g) < 2 ^ 31 by omega)
  unfold fX8_bornNext fX8_queuePlace bX8_bornNext_45
  rw [li_3m, nI_add, li_41m, li_77, Option.bind_some]
  dsimp only
  rw [if_pos i1]
  simp only [e1, m1, if_pos i1, if_pos (show jIn (65 : Int32) 815 by decide), cl65, M.1 65 (by omega)]
  generalize qs (3 * i + g) = L at m1 m2 m3
  have hz : nI L.length = (0 : Int32) ↔ L.length = 0 := nI_eq (b := 0) (by omega) (by omega)
  by_cases c : L.length = 0
  · rw [if_pos (hz.mpr c), if_pos c]
  · rw [if_neg (fun h => c (hz.mp h)), if_neg c, nI_add, nI_1]
    unfold lTk
    rcases H.2.2.2.2.1 with e | e
    · rw [e, if_pos rfl, if_pos (jIn_lit (by omega) (by omega)), nI_clamp (by omega), if_neg (by decide)]
      have := m3 0 (by omega)
      rw [show 78 + 41 * (3 * i + g) + 0 = 77 + 41 * (3 * i + g) + 1 by omega] at this
      rw [this]
      cases L with
      | nil => exact absurd rfl c
      | cons a l => rfl
    · rw [e, if_neg (by decide), if_pos rfl, if_pos (jIn_lit (by omega) (by omega)), nI_clamp (by omega)]
      have := m3 (L.length - 1) (by omega)
      rw [show 78 + 41 * (3 * i + g) + (L.length - 1) = 77 + 41 * (3 * i + g) + L.length by omega] at this
      rw [this, List.getLastD_eq_getLast?, List.getLast?_eq_getElem?, List.getD_eq_getElem?_getD]
theorem gE_hops : ∀ r : jR, (r == (56, 0)) = true → gqE r = true := fun r h => by
  simp only [beq_iff_eq] at h
  subst h
  decide
theorem gp0_E : ∀ r, gp0 r = true → gpE r = true := fun r h => by cases h
theorem gp0_S : ∀ r, gp0 r = true → gpS r = true := fun r h => by cases h
theorem sX8_biasOf {S : jS} {h : Nat → Int32} {qs : Nat → List Int32} (H : HV h) (M : WM (S.2 (50, 0)) h qs) {i g : Nat} (hi : i < 6) (hg : g < 3) : ∃ S', fX8_biasOf S (nI i) (nI g) = some (h 64 * hops h (3 * i + g), S') ∧ jFr gpE gqE S S' := by
  obtain ⟨S1, a1, a2, a3⟩ := sX8_findsHopsW H M
  refine ⟨S1, ?_, a3.mono gp0_E gE_hops⟩
  unfold fX8_biasOf
  rw [a1, Option.bind_some, if_pos (by decide), li_3m, nI_add, if_pos (jIn_lit (by omega) (by omega)), cl64, nI_clamp (by omega), a2 _ (by omega), a3.2 (50, 0) (by decide), M.1 64 (by omega)]
theorem z_queue {N : Nat} {S : jS} (h : SM N S) (x y z : Int32) : ZZ N S (fun S => fX7_queue S x y z) (fun S => fX8_queue S x y z) := by
  obtain ⟨kept, W, A, n, T, C, M, V⟩ := h
  have H := V.1.1
  have h6 := H.1.2.2
  have h3 := H.2.1.2.2
  by_cases d1 : ∃ i g, (x = nI i ∧ y = nI g) ∧ hq A.1 i g
  case neg =>
    refine ZZ_bad (r := -1) C M V ?_ (fun S1 M1 => ?_)
    · show fX7_queue S x y z = _
      unfold fX7_queue
      rw [qu7_no H C.1.1.1 d1, Option.bind_some]
      rfl
    · show fX8_queue S1 x y z = _
      unfold fX8_queue
      rw [qu8_no H M1.1.1 d1, Option.bind_some]
      rfl
  obtain ⟨i, g, ⟨rfl, rfl⟩, hq'⟩ := d1
  obtain ⟨hi, hg, hgo'⟩ := id hq'
  by_cases d2 : ∃ j, (0 ≤ j ∧ j ≤ 3) ∧ z = nI j
  case neg =>
    refine ZZ_bad (r := -1) C M V ?_ (fun S1 M1 => ?_)
    · show fX7_queue S (nI i) (nI g) z = _
      unfold fX7_queue
      rw [qu7_yes H C.1.1.1 hq', Option.bind_some]
      dsimp only
      rw [if_neg (by decide), wi_no S 0 3 (x := 0) (y := 3) (by omega) (by omega) d2 rfl rfl, Option.bind_some]
      rfl
    · show fX8_queue S1 (nI i) (nI g) z = _
      unfold fX8_queue
      rw [qu8_yes H M1.1.1 hq', Option.bind_some]
      dsimp only
      rw [if_neg (by decide), in_no S1 (a := 0) (b := 3) (x := 0) (y := 3) d2 (by decide) (by decide), Option.bind_some]
      rfl
  obtain ⟨j, hj, rfl⟩ := d2
  have i1 : jIn (nI (3 * i + g)) 18 := jIn_lit (by omega) (by omega)
  have e1 := nI_clamp (show 3 * i + g < 2 ^ 31 by omega)
  have Q := C.1.1.2.2
  rcases (show j = 0 ∨ j = 1 ∨ j = 2 ∨ j = 3 by omega) with rfl | rfl | rfl | rfl
  · refine ZZ_bad (r := nI (A.2 (3 * i + g)).length) C M V ?_ (fun S1 M1 => ?_)
    · show fX7_queue S (nI i) (nI g) 0 = _
      unfold fX7_queue fX7_spot
      rw [qu7_yes H C.1.1.1 hq', Option.bind_some]
      dsimp only
      rw [if_neg (by decide), show fX7_within S (0 : Int32) 0 3 = some (1, S) from wi_yes S (j := 0) 0 3 (by omega) (by omega) (by omega) rfl rfl, Option.bind_some]
      dsimp only
      rw [if_neg (by decide), Option.bind_some]
      dsimp only
      rw [if_pos rfl, li_m3, nI_add, if_pos i1, e1, (Q.2 _ (by omega)).1]
    · show fX8_queue S1 (nI i) (nI g) 0 = _
      unfold fX8_queue
      rw [qu8_yes H M1.1.1 hq', Option.bind_some]
      dsimp only
      rw [if_neg (by decide), show fX8_in S1 (0 : Int32).toInt64 0 3 = some (1, S1) from in_yes S1 (j := 0) (a := 0) (b := 3) (by omega) (by omega) (by omega) (by decide) (by decide), Option.bind_some]
      dsimp only
      rw [if_neg (by decide), if_pos rfl, sX8_manyIn M1.1.1 (by omega) (by omega), Option.bind_some]
  · refine ZZ_bad (r := if (A.2 (3 * i + g)).length = 0 then -4 else (lTk (A.1 65) (A.2 (3 * i + g))).1) C M V ?_ (fun S1 M1 => ?_)
    · show fX7_queue S (nI i) (nI g) 1 = _
      unfold fX7_queue fX7_spot
      rw [qu7_yes H C.1.1.1 hq', Option.bind_some]
      dsimp only
      rw [if_neg (by decide), show fX7_within S (1 : Int32) 0 3 = some (1, S) from wi_yes S (j := 1) 0 3 (by omega) (by omega) (by omega) rfl rfl, Option.bind_some]
      dsimp only
      rw [if_neg (by decide), Option.bind_some]
      dsimp only
      rw [if_neg (by decide), if_pos rfl, li_m3, nI_add, C.1.1.1.1.2.2.2.1, sX4_nextBorn (Q.2 _ (by omega)) (by omega) H.2.2.2.2.1, Option.bind_some]
    · show fX8_queue S1 (nI i) (nI g) 1 = _
      unfold fX8_queue
      rw [qu8_yes H M1.1.1 hq', Option.bind_some]
      dsimp only
      rw [if_neg (by decide), show fX8_in S1 (1 : Int32).toInt64 0 3 = some (1, S1) from in_yes S1 (j := 1) (a := 0) (b := 3) (by omega) (by omega) (by omega) (by decide) (by decide), Option.bind_some]
      dsimp only
      rw [if_neg (by decide), if_neg (by decide), if_pos rfl, sX8_bornNext H M1.1.1 (by omega) (by omega), Option.bind_some]
  · refine ZZ_bad (r := A.1 (46 + (3 * i + g))) C M V ?_ (fun S1 M1 => ?_)
    · show fX7_queue S (nI i) (nI g) 2 = _
      unfold fX7_queue fX7_spot
      rw [qu7_yes H C.1.1.1 hq', Option.bind_some]
      dsimp only
      rw [if_neg (by decide), show fX7_within S (2 : Int32) 0 3 = some (1, S) from wi_yes S (j := 2) 0 3 (by omega) (by omega) (by omega) rfl rfl, Option.bind_some]
      dsimp only
      rw [if_neg (by decide), Option.bind_some]
      dsimp only
      rw [if_neg (by decide), if_neg (by decide), if_pos rfl, li_m3, nI_add, if_pos i1, e1, C.1.1.1.2.2.2 _ (by omega)]
    · show fX8_queue S1 (nI i) (nI g) 2 = _
      unfold fX8_queue
      rw [qu8_yes H M1.1.1 hq', Option.bind_some]
      dsimp only
      rw [if_neg (by decide), show fX8_in S1 (2 : Int32).toInt64 0 3 = some (1, S1) from in_yes S1 (j := 2) (a := 0) (b := 3) (by omega) (by omega) (by omega) (by decide) (by decide), Option.bind_some]
      dsimp only
      rw [if_neg (by decide), if_neg (by decide), if_neg (by decide), if_pos rfl, li_3m, li_46, nI_add, Nat.add_assoc, if_pos (jIn_lit (by omega) (by omega)), nI_clamp (by omega), M1.1.1.1 _ (by omega)]
  · refine ZZ_scr (r := A.1 64 * hops A.1 (3 * i + g)) C M V ⟨S, ?_, jFr.rf⟩ (fun S1 M1 => ?_)
    · show fX7_queue S (nI i) (nI g) 3 = _
      unfold fX7_queue fX7_spot
      rw [qu7_yes H C.1.1.1 hq', Option.bind_some]
      dsimp only
      rw [if_neg (by decide), show fX7_within S (3 : Int32) 0 3 = some (1, S) from wi_yes S (j := 3) 0 3 (by omega) (by omega) (by omega) rfl rfl, Option.bind_some]
      dsimp only
      rw [if_neg (by decide), Option.bind_some]
      dsimp only
      rw [if_neg (by decide), if_neg (by decide), if_neg (by decide), li_m3, nI_add, sX2_biasAt C.1.1.1 C.1.1.2.1 (by omega), Option.bind_some]
    · obtain ⟨S2, a1, a2⟩ := sX8_biasOf H M1.1.1 (i := i) (g := g) (by omega) (by omega)
      refine ⟨S2, ?_, a2⟩
      show fX8_queue S1 (nI i) (nI g) 3 = _
      unfold fX8_queue
      rw [qu8_yes H M1.1.1 hq', Option.bind_some]
      dsimp only
      rw [if_neg (by decide), show fX8_in S1 (3 : Int32).toInt64 0 3 = some (1, S1) from in_yes S1 (j := 3) (a := 0) (b := 3) (by omega) (by omega) (by omega) (by decide) (by decide), Option.bind_some]
      dsimp only
      rw [if_neg (by decide), if_neg (by decide), if_neg (by decide), if_neg (by decide), a1, Option.bind_some]
theorem z_drop {N : Nat} {S : jS} (h : SM N S) (x y : Int32) : ZZ N S (fun S => fX7_drop S x y) (fun S => fX8_drop S x y) := by
  obtain ⟨kept, W, A, n, T, C, M, V⟩ := h
  have H := V.1.1
  have h3 := H.2.1.2.2
  have n10 := H.2.2.1.2
  obtain ⟨-, N2', N3'⟩ := C.1.1.1.n H
  by_cases d1 : ∃ l, l < hn A.1 ∧ x = nI l
  case neg =>
    refine ZZ_bad (r := -1) C M V ?_ (fun S1 M1 => ?_)
    · show fX7_drop S x y = _
      unfold fX7_drop
      rw [lk7_no (by omega) N3' d1, Option.bind_some]
      rfl
    · show fX8_drop S1 x y = _
      unfold fX8_drop
      rw [lk8_no H M1.1.1 d1, Option.bind_some]
      rfl
  obtain ⟨l, hl, rfl⟩ := d1
  by_cases d2 : ∃ g, g < hG A.1 ∧ y = nI g
  case neg =>
    refine ZZ_bad (r := -1) C M V ?_ (fun S1 M1 => ?_)
    · show fX7_drop S (nI l) y = _
      unfold fX7_drop
      rw [lk7_yes (by omega) N3' hl, Option.bind_some]
      dsimp only
      rw [if_neg (by decide), go7_no (by omega) N2' d2, Option.bind_some]
      rfl
    · show fX8_drop S1 (nI l) y = _
      unfold fX8_drop
      rw [lk8_yes H M1.1.1 hl, Option.bind_some]
      dsimp only
      rw [if_neg (by decide), go8_no H M1.1.1 d2, Option.bind_some]
      rfl
  obtain ⟨g, hg, rfl⟩ := d2
  refine ZZ_scr (r := aDr A.1 A.2 l g + 1000) C M V ⟨S, ?_, jFr.rf⟩ (fun S1 M1 => ?_)
  · show fX7_drop S (nI l) (nI g) = _
    unfold fX7_drop
    rw [lk7_yes (by omega) N3' hl, Option.bind_some]
    dsimp only
    rw [if_neg (by decide), go7_yes (by omega) N2' hg, Option.bind_some]
    dsimp only
    rw [if_neg (by decide), sX6_dropOf H C.1.1.1 C.1.1.2.1 (fun q hq => (C.1.1.2.2.2 q hq).1) hl (by omega), Option.bind_some]
  · obtain ⟨S2, a1, a2, a3⟩ := sX8_findsHopsW H M1.1.1
    refine ⟨S2, ?_, a3.mono gp0_E gE_hops⟩
    show fX8_drop S1 (nI l) (nI g) = _
    unfold fX8_drop
    rw [lk8_yes H M1.1.1 hl, Option.bind_some]
    dsimp only
    rw [if_neg (by decide), go8_yes H M1.1.1 hg, Option.bind_some]
    dsimp only
    rw [if_neg (by decide), a1, Option.bind_some, sX8_dropOf H (by rw [a3.2 (50, 0) (by decide)]; exact M1.1.1) a2 hl (by omega), Option.bind_some]
