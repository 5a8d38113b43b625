/-! ===== clash, put, undo ===== -/
theorem gpH_C : ∀ r, gpH r = true → gpC r = true := fun r h => by
  simp only [gpH, Bool.or_eq_true, beq_iff_eq, decide_eq_true_eq] at h
  refine decide_eq_true ?_
  rcases h with (rfl | rfl) | h
  · decide
  · decide
  · omega
theorem gqH_C : ∀ r, gqH r = true → gqC r = true := fun r h => by
  simp only [gqH, decide_eq_true_eq] at h
  exact decide_eq_true (by omega)
theorem gp12_D : ∀ r, gp12 r = true → gpD r = true := fun r h => by
  simp only [gp12, beq_iff_eq] at h
  subst h
  decide
theorem gq52_D : ∀ r, gq52 r = true → gqD r = true := fun r h => by
  simp only [gq52, beq_iff_eq] at h
  subst h
  decide
theorem gq50_D : ∀ r, gq50 r = true → gqD r = true := fun r h => by
  simp only [gq50, beq_iff_eq] at h
  subst h
  decide
theorem z_undo {N : Nat} {S : jS} (h : SM N S) : ZZ N S (fun S => fX7_undo S) (fun S => fX8_undo S) := by
  obtain ⟨kept, W, A, n, T, C, M, V⟩ := h
  obtain ⟨S1, a1, a2, a3⟩ := sX7_undo C.1
  by_cases c : kept = 0
  · rw [if_pos c] at a1 a2
    refine ZZ_bad (r := -2) C M V (by rw [a2] at a1; exact a1) (fun Sm Mm => ?_)
    obtain ⟨S2, b1, b2, b3⟩ := sX8_undo Mm.1
    rw [if_pos c] at b1 b2
    rw [b2] at b1
    exact b1
  · rw [if_neg c] at a1 a2
    refine ZZ_of (r := nI (kept - 1)) (kept' := kept - 1) (W' := fun i => W (i + 1)) (A' := W 0) (n' := n) (T' := T) M ⟨(V.2 0 (by omega)).mono (by omega), fun i hi => (V.2 (i + 1) (by omega)).mono (by omega)⟩ ⟨S1, a1, ⟨a2, (a3.1 _ (by decide)).trans C.2.1, C.2.2.1, fun j hj => ?_⟩, a3.mono gpH_C gqH_C⟩ (fun Sm Mm => ?_)
    · rw [a3.2 (10, 0) (by decide)]
      exact C.2.2.2 j hj
    · obtain ⟨S2, b1, b2, b3⟩ := sX8_undo Mm.1
      rw [if_neg c] at b1 b2
      refine ⟨S2, b1, ⟨b2, (b3.1 _ (by decide)).trans Mm.2.1, Mm.2.2.1, fun j hj => ?_⟩, b3.mono gp12_D gq50_D⟩
      rw [b3.2 (53, 0) (by decide)]
      exact Mm.2.2.2 j hj
/-- how many links clash, counted from both ends -/
def aPr (h : Nat → Int32) : Nat → Nat
  | 0 => 0
  | l + 1 => aPr h l + gC (hcl h l)
theorem sX2_pairs_4 {S : jS} {h : Nat → Int32} (H : HV h) (N : NC 0 S h) : ∀ (d fu l : Nat), l + d = hn h → d < fu → fX2_pairs_4 0 fu S (nI (aPr h l)) (nI l) = some (nI (aPr h (hn h)) / 2, S) := by
  have n10 := H.2.2.1.2
  have n3 := (N.n H).2.2
  intro d
  induction d with
  | zero =>
    intro fu l hd hf
    obtain ⟨fu, rfl⟩ : ∃ m, fu = m + 1 := ⟨fu - 1, by omega⟩
    obtain rfl : l = hn h := by omega
    show bX2_pairs_4 0 (fX2_pairs_4 0 fu) S _ _ = _
    unfold bX2_pairs_4
    rw [n3, if_pos ((nI_leI (by omega) (by omega)).mpr (Nat.le_refl _))]
  | succ d ih =>
    intro fu l hd hf
    obtain ⟨fu, rfl⟩ : ∃ m, fu = m + 1 := ⟨fu - 1, by omega⟩
    have hl : l < hn h := by omega
    show bX2_pairs_4 0 (fX2_pairs_4 0 fu) S _ _ = _
    unfold bX2_pairs_4
    rw [n3, if_neg (fun q => by have := (nI_leI (a := hn h) (b := l) (by omega) (by omega)).mp q; omega), if_pos (jIn_lit (by omega) (by omega)), nI_clamp (by omega), (N.2.2.1 l hl).2.2.2, H.c.1 l hl, sJ6 S (H.cl l), Option.bind_some, jlet_eq, jlet_eq, nI_add, nI_1]
    exact ih fu (l + 1) (by omega) (by omega)
theorem sX2_pairs {S : jS} {h : Nat → Int32} (H : HV h) (N : NC 0 S h) : fX2_pairs 0 S = some (nI (aPr h (hn h)) / 2, S) :=
  sX2_pairs_4 H N (hn h) 5000 0 (by omega) (by have := H.2.2.1.2; omega)
theorem sX8_pairs_4 {S : jS} {h : Nat → Int32} {qs : Nat → List Int32} (H : HV h) (M : WM (S.2 (50, 0)) h qs) : ∀ (d fu l : Nat), l + d = hn h → d < fu → fX8_pairs_4 fu S (nI (aPr h l)) (nI l) = some (nI (aPr h (hn h)) / 2, S) := by
  have n10 := H.2.2.1.2
  have n5 : S.2 (50, 0) (5 : Int32).toNatClampNeg = nI (hn h) := by rw [q5, M.1 5 (by omega)]; exact H.2.2.1.1
  intro d
  induction d with
  | zero =>
    intro fu l hd hf
    obtain ⟨fu, rfl⟩ : ∃ m, fu = m + 1 := ⟨fu - 1, by omega⟩
    obtain rfl : l = hn h := by omega
    show bX8_pairs_4 (fX8_pairs_4 fu) S _ _ = _
    unfold bX8_pairs_4
    rw [if_pos j58, n5, if_pos ((nI_leI (by omega) (by omega)).mpr (Nat.le_refl _))]
  | succ d ih =>
    intro fu l hd hf
    obtain ⟨fu, rfl⟩ : ∃ m, fu = m + 1 := ⟨fu - 1, by omega⟩
    have hl : l < hn h := by omega
    show bX8_pairs_4 (fX8_pairs_4 fu) S _ _ = _
    unfold bX8_pairs_4
    rw [if_pos j58, n5, if_neg (fun q => by have := (nI_leI (a := hn h) (b := l) (by omega) (by omega)).mp q; omega), li_36, if_pos (jIn_lit (by omega) (by omega)), nI_clamp (by omega), M.1 _ (by omega), H.c.1 l hl, sX8_ones S (H.cl l), Option.bind_some, jlet_eq, jlet_eq, nI_add, nI_1]
    exact ih fu (l + 1) (by omega) (by omega)
theorem sX8_pairs {S : jS} {h : Nat → Int32} {qs : Nat → List Int32} (H : HV h) (M : WM (S.2 (50, 0)) h qs) : fX8_pairs S = some (nI (aPr h (hn h)) / 2, S) :=
  sX8_pairs_4 H M (hn h) 5000 0 (by omega) (by have := H.2.2.1.2; omega)
theorem xor_bits (a v b : Nat) : (a ^^^ 2 ^ v).testBit b = if b = v then !a.testBit v else a.testBit b := by
  rw [Nat.testBit_xor, Nat.testBit_two_pow]
  by_cases c : b = v
  · subst c; simp
  · rw [if_neg c]
    have : ¬ v = b := fun q => c q.symm
    simp [this]
theorem xor_gD {a v : Nat} (h : a.testBit v = true) : a ^^^ 2 ^ v = gD a (2 ^ v) := by
  apply Nat.eq_of_testBit_eq
  intro i
  rw [xor_bits, gD_bit, Nat.testBit_two_pow]
  by_cases c : i = v
  · subst c; simp [h]
  · rw [if_neg c]
    have : ¬ v = i := fun q => c q.symm
    simp [this]
theorem tC_E {h : Nat → Int32} {u v x y j : Nat} (h1 : j ≠ 36 + u) (h2 : j ≠ 36 + v) : tC h u v x y j = h j := by
  unfold tC
  rw [pk_un h2, pk_un h1]
theorem HV_clash {h : Nat → Int32} (H : HV h) {u v : Nat} (hu : u < hn h) (hv : v < hn h) (huv : u ≠ v) : HV (tC h u v (hcl h u ^^^ 2 ^ v) (hcl h v ^^^ 2 ^ u)) := by
  have n10 := H.2.2.1.2
  have E : ∀ j, j < 36 ∨ 46 ≤ j → tC h u v (hcl h u ^^^ 2 ^ v) (hcl h v ^^^ 2 ^ u) j = h j := fun j hj => tC_E (by omega) (by omega)
  have c := H.c.clash n10 hu hv huv (β := !(hcl h u).testBit v) (xor_bits (hcl h u) v) (fun b => by rw [xor_bits, H.c.2.1 v u])
  exact HV_of (H.a.cg (E 0 (by omega))) (H.g.cg (fun k _ => E k (by omega))) (H.l.cg (E 0 (by omega)) (fun k _ _ => E k (by omega))) c.1 (H.f.cg H.2.1.2.2 (fun k _ => E k (by omega)) (fun k _ _ => E k (by omega))) (H.b.cg (E 64 (by omega)) (E 65 (by omega))) (by rw [show hm (tC h u v (hcl h u ^^^ 2 ^ v) (hcl h v ^^^ 2 ^ u)) = hm h from congrArg jN (E 0 (by omega))]; exact H.1.2.1) (by rw [show hG (tC h u v (hcl h u ^^^ 2 ^ v) (hcl h v ^^^ 2 ^ u)) = hG h from congrArg jN (E 1 (by omega))]; exact H.2.1.2.1)
theorem NC_clash {k : Nat} {S : jS} {h : Nat → Int32} (H : HV h) (N : NC k S h) {u v x y : Nat} (hu : u < hn h) (hv : v < hn h) : NC k (jput S (24, k) (upd (upd (S.2 (24, k)) u (nI x)) v (nI y))) (tC h u v x y) := by
  have n10 := H.2.2.1.2
  have h3 := H.2.1.2.2
  have E : ∀ j, j < 36 ∨ 46 ≤ j → tC h u v x y j = h j := fun j hj => tC_E (by omega) (by omega)
  have eG : hG (tC h u v x y) = hG h := congrArg jN (E 1 (by omega))
  have en : hn (tC h u v x y) = hn h := congrArg jN (E 5 (by omega))
  obtain ⟨m1, m2, m3, m4⟩ := N
  refine ⟨?_, fun g' hg' => ?_, fun l' hl' => ?_, fun q hq => ?_⟩
  · rw [E 0 (by omega), E 1 (by omega), E 5 (by omega), E 64 (by omega), E 65 (by omega)]
    exact m1
  · rw [eG] at hg'
    rw [E _ (by omega), jput_o (by simp)]
    exact m2 g' hg'
  · rw [en] at hl'
    obtain ⟨p1, p2, p3, p4⟩ := m3 l' hl'
    rw [E (6 + 3 * l') (by omega), E (7 + 3 * l') (by omega), E (8 + 3 * l') (by omega), jput_o (b := (21, k)) (by simp), jput_o (b := (22, k)) (by simp), jput_o (b := (23, k)) (by simp), jput_at]
    refine ⟨p1, p2, p3, ?_⟩
    unfold tC
    by_cases c1 : l' = v
    · rw [c1, pk_us, pk_us]
    · rw [pk_un c1, pk_un (show 36 + l' ≠ 36 + v by omega)]
      by_cases c2 : l' = u
      · rw [c2, pk_us, pk_us]
      · rw [pk_un c2, pk_un (show 36 + l' ≠ 36 + u by omega)]
        exact p4
  · rw [E _ (by omega), jput_o (by simp)]
    exact m4 q hq
theorem z_clash {N : Nat} {S : jS} (h : SM N S) (x y z : Int32) : ZZ N S (fun S => fX7_clash S x y z) (fun S => fX8_clash S x y z) := by
  obtain ⟨kept, W, A, n, T, C, M, V⟩ := h
  have H := V.1.1
  have n10 := H.2.2.1.2
  obtain ⟨-, -, N3'⟩ := C.1.1.1.n H
  by_cases c1 : ∃ l, l < hn A.1 ∧ x = nI l
  case neg =>
    refine ZZ_bad (r := -1) C M V ?_ (fun S1 M1 => ?_)
    · show fX7_clash S x y z = _
      unfold fX7_clash
      rw [lk7_no (by omega) N3' c1, Option.bind_some]
      rfl
    · show fX8_clash S1 x y z = _
      unfold fX8_clash
      rw [lk8_no H M1.1.1 c1, Option.bind_some]
      rfl
  obtain ⟨u, hu, rfl⟩ := c1
  by_cases c2 : ∃ l, l < hn A.1 ∧ y = nI l
  case neg =>
    refine ZZ_bad (r := -1) C M V ?_ (fun S1 M1 => ?_)
    · show fX7_clash S (nI u) y z = _
      unfold fX7_clash
      rw [lk7_yes (by omega) N3' hu, Option.bind_some]
      dsimp only
      rw [if_neg (by decide), lk7_no (by omega) N3' c2, Option.bind_some]
      rfl
    · show fX8_clash S1 (nI u) y z = _
      unfold fX8_clash
      rw [lk8_yes H M1.1.1 hu, Option.bind_some]
      dsimp only
      rw [if_neg (by decide), lk8_no H M1.1.1 c2, Option.bind_some]
      rfl
  obtain ⟨v, hv, rfl⟩ := c2
  by_cases c3 : u = v
  · subst c3
    refine ZZ_bad (r := -1) C M V ?_ (fun S1 M1 => ?_)
    · show fX7_clash S (nI u) (nI u) z = _
      unfold fX7_clash
      rw [lk7_yes (by omega) N3' hu, Option.bind_some]
      dsimp only
      rw [if_neg (by decide), lk7_yes (by omega) N3' hu, Option.bind_some]
      dsimp only
      rw [if_neg (by decide), if_pos rfl]
    · show fX8_clash S1 (nI u) (nI u) z = _
      unfold fX8_clash
      rw [lk8_yes H M1.1.1 hu, Option.bind_some]
      dsimp only
      rw [if_neg (by decide), lk8_yes H M1.1.1 hu, Option.bind_some]
      dsimp only
      rw [if_neg (by decide), if_pos rfl]
  have nuv : ¬ nI u = nI v := fun q => c3 ((nI_eq (by omega) (by omega)).mp q)
  by_cases c4 : ∃ j, (0 ≤ j ∧ j ≤ 1) ∧ z = nI j
  case neg =>
    refine ZZ_bad (r := -1) C M V ?_ (fun S1 M1 => ?_)
    · show fX7_clash S (nI u) (nI v) z = _
      unfold fX7_clash
      rw [lk7_yes (by omega) N3' hu, Option.bind_some]
      dsimp only
      rw [if_neg (by decide), lk7_yes (by omega) N3' hv, Option.bind_some]
      dsimp only
      rw [if_neg (by decide), if_neg nuv, wi_no S 0 1 (x := 0) (y := 1) (by omega) (by omega) c4 rfl rfl, Option.bind_some]
      rfl
    · show fX8_clash S1 (nI u) (nI v) z = _
      unfold fX8_clash
      rw [lk8_yes H M1.1.1 hu, Option.bind_some]
      dsimp only
      rw [if_neg (by decide), lk8_yes H M1.1.1 hv, Option.bind_some]
      dsimp only
      rw [if_neg (by decide), if_neg nuv, in_no S1 (a := 0) (b := 1) (x := 0) (y := 1) c4 (by decide) (by decide), Option.bind_some]
      rfl
  obtain ⟨is, his, rfl⟩ := c4
  have clb := fun a => H.cl a
  have f7 : fX7_clash S (nI u) (nI v) (nI is) = bX7_clash_66 S (nI u) (nI v) (if (hcl A.1 u).testBit v then 1 else 0) (nI is) := by
    unfold fX7_clash
    rw [lk7_yes (by omega) N3' hu, Option.bind_some]
    dsimp only
    rw [if_neg (by decide), lk7_yes (by omega) N3' hv, Option.bind_some]
    dsimp only
    rw [if_neg (by decide), if_neg nuv, wi_yes S 0 1 (x := 0) (y := 1) (by omega) his.2 (by omega) rfl rfl, Option.bind_some]
    dsimp only
    rw [if_neg (by decide), sX2_doClash (a := hcl A.1 u) (by omega) (by omega) (Nat.lt_of_lt_of_le (clb u) (by omega)) ((C.1.1.1.2.2.1 u hu).2.2.2.trans (H.c.1 u hu)), Option.bind_some]
    dsimp only
    rcases Nat.le_one_iff_eq_zero_or_eq_one.mp his.2 with rfl | rfl
    · rw [if_neg (by decide)]
      rfl
    · rw [if_pos (show nI 1 = (1 : Int32) from rfl)]
      rfl
  have f8 : ∀ S1, MS S1 kept W A n T → fX8_clash S1 (nI u) (nI v) (nI is) = bX8_clash_56 S1 (nI u) (nI v) (nI is) (if (hcl A.1 u).testBit v then 1 else 0) (nI is) := by
    intro S1 M1
    unfold fX8_clash
    rw [lk8_yes H M1.1.1 hu, Option.bind_some]
    dsimp only
    rw [if_neg (by decide), lk8_yes H M1.1.1 hv, Option.bind_some]
    dsimp only
    rw [if_neg (by decide), if_neg nuv, in_yes S1 (a := 0) (b := 1) (x := 0) (y := 1) (by omega) his.2 (by omega) (by decide) (by decide), Option.bind_some]
    dsimp only
    rw [if_neg (by decide), li_36, if_pos (jIn_lit (by omega) (by omega)), nI_clamp (by omega), M1.1.1.1 _ (by omega), H.c.1 u hu, sX8_has S1 (Nat.lt_of_lt_of_le (clb u) (by omega)) (by omega), Option.bind_some]
    dsimp only
    rcases Nat.le_one_iff_eq_zero_or_eq_one.mp his.2 with rfl | rfl
    · rw [if_neg (by decide)]
      rfl
    · rw [if_pos (show nI 1 = (1 : Int32) from rfl)]
      rfl
  by_cases c5 : (if (hcl A.1 u).testBit v then (1 : Int32) else 0) = nI is
  · refine ZZ_bad (r := -2) C M V ?_ (fun S1 M1 => ?_)
    · show fX7_clash S (nI u) (nI v) (nI is) = _
      rw [f7]
      unfold bX7_clash_66
      rw [if_pos c5]
    · show fX8_clash S1 (nI u) (nI v) (nI is) = _
      rw [f8 S1 M1]
      unfold bX8_clash_56
      rw [if_pos c5]
  have H' := HV_clash H hu hv c3
  have E : ∀ j, j < 36 ∨ 46 ≤ j → tC A.1 u v (hcl A.1 u ^^^ 2 ^ v) (hcl A.1 v ^^^ 2 ^ u) j = A.1 j := fun j hj => tC_E (by omega) (by omega)
  have en : hn (tC A.1 u v (hcl A.1 u ^^^ 2 ^ v) (hcl A.1 v ^^^ 2 ^ u)) = hn A.1 := congrArg jN (E 5 (by omega))
  have h3 := H.2.1.2.2
  obtain ⟨S1, a1, a2, a3, a4, a5⟩ := sX0_keep H C.1
  have eu : S1.2 (24, 0) u = nI (hcl A.1 u) := (a2.1.1.2.2.1 u hu).2.2.2.trans (H.c.1 u hu)
  have ev : S1.2 (24, 0) v = nI (hcl A.1 v) := (a2.1.1.2.2.1 v hv).2.2.2.trans (H.c.1 v hv)
  have N2 := NC_clash H a2.1.1 (x := hcl A.1 u ^^^ 2 ^ v) (y := hcl A.1 v ^^^ 2 ^ u) hu hv
  obtain ⟨d1, d2⟩ := c_change C a3 a2 (jFr.put rfl) N2 (hops_cg (E 5 (by omega)) (E 1 (by omega)) (fun k hk => E _ (by omega)) (fun l hl => ⟨E _ (by omega), E _ (by omega)⟩)) (fun j h1 h2 => E j (by omega))
  refine ZZ_of (r := nI (aPr (tC A.1 u v (hcl A.1 u ^^^ 2 ^ v) (hcl A.1 v ^^^ 2 ^ u)) (hn (tC A.1 u v (hcl A.1 u ^^^ 2 ^ v) (hcl A.1 v ^^^ 2 ^ u)))) / 2) M (V.push (AV_hdr (V.1.mono (by omega)) H' (fun j hj => E j (by omega)) (fun j h1 h2 => E j (by omega)))) ⟨_, ?_, d1, d2⟩ (fun Sm Mm => ?_)
  · show fX7_clash S (nI u) (nI v) (nI is) = _
    rw [f7]
    unfold bX7_clash_66
    rw [if_neg c5, a1, Option.bind_some, sX2_turnClash (by omega) (by omega) c3 eu ev, Option.bind_some, sX2_pairs H' N2, Option.bind_some]
  · obtain ⟨R, e0, hn', eT⟩ := Mm
    obtain ⟨S2, b1, b2, b3⟩ := sX8_keeps R
    have mu : S2.2 (50, 0) (36 + u) = nI (hcl A.1 u) := (b2.1.1 _ (by omega)).trans (H.c.1 u hu)
    have mv : S2.2 (50, 0) (36 + v) = nI (hcl A.1 v) := (b2.1.1 _ (by omega)).trans (H.c.1 v hv)
    have ex : (if is = 1 then hcl A.1 u ||| 2 ^ v else gD (hcl A.1 u) (2 ^ v)) = hcl A.1 u ^^^ 2 ^ v ∧ (if is = 1 then hcl A.1 v ||| 2 ^ u else gD (hcl A.1 v) (2 ^ u)) = hcl A.1 v ^^^ 2 ^ u := by
      have sy := H.c.2.1 u v
      cases hb : (hcl A.1 u).testBit v with
      | true =>
        rw [hb] at c5 sy
        have : is = 0 := by
          rcases Nat.le_one_iff_eq_zero_or_eq_one.mp his.2 with q | q
          · exact q
          · rw [q] at c5; exact absurd rfl c5
        subst this
        rw [if_neg (by omega), if_neg (by omega), xor_gD hb, xor_gD sy.symm]
        exact ⟨rfl, rfl⟩
      | false =>
        rw [hb] at c5 sy
        have : is = 1 := by
          rcases Nat.le_one_iff_eq_zero_or_eq_one.mp his.2 with q | q
          · rw [q] at c5; exact absurd rfl c5
          · exact q
        subst this
        rw [if_pos rfl, if_pos rfl, xor_or hb, xor_or sy.symm]
        exact ⟨rfl, rfl⟩
    have b4 := sX8_clashes (a := (50, 0)) (S := S2) rfl (show u < 10 by omega) (show v < 10 by omega) c3 his.2 mu mv
    rw [ex.1, ex.2] at b4
    have WM' : WM (tC (S2.2 (50, 0)) u v (hcl A.1 u ^^^ 2 ^ v) (hcl A.1 v ^^^ 2 ^ u)) (tC A.1 u v (hcl A.1 u ^^^ 2 ^ v) (hcl A.1 v ^^^ 2 ^ u)) A.2 := WM_header (WM_header b2.1 (by omega)) (by omega)
    refine ⟨jput S2 (50, 0) (tC (S2.2 (50, 0)) u v (hcl A.1 u ^^^ 2 ^ v) (hcl A.1 v ^^^ 2 ^ u)), ?_, ⟨b2.now rfl rfl (by rw [jput_at]; exact WM'), (b3.1 (13, 0) (by decide)).trans e0, hn', fun j hj => ?_⟩, (b3.mono gp12_D gq52_D).tr (jFr.put rfl)⟩
    · show fX8_clash Sm (nI u) (nI v) (nI is) = _
      rw [f8 Sm ⟨R, e0, hn', eT⟩]
      unfold bX8_clash_56
      rw [if_neg c5, b1, Option.bind_some, b4, Option.bind_some, sX8_pairs H' (by rw [jput_at]; exact WM'), Option.bind_some]
    · show S2.2 (53, 0) j = T j
      rw [b3.2 (53, 0) (by decide)]
      exact eT j hj
