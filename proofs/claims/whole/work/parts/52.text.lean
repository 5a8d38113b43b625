/-! ===== write, wipe, fault, lay ===== -/
theorem WC_set0 {S : jS} {h : Nat → Int32} {qs : Nat → List Int32} {v : Int32} (w : WC 0 S h qs) : WC 0 (jset S (0, 0) v) h qs := w
theorem WC_put10 {S : jS} {h : Nat → Int32} {qs : Nat → List Int32} {f : Nat → Int32} (w : WC 0 S h qs) : WC 0 (jput S (10, 0) f) h qs := w
theorem z_write {N : Nat} {S : jS} (h : SM N S) (x : Int32) : ZZ N S (fun S => fX7_write S x) (fun S => fX8_write S x) := by
  obtain ⟨kept, W, A, n, T, C, M, V⟩ := h
  by_cases c : ∃ j, (32 ≤ j ∧ j ≤ 126) ∧ x = nI j
  · obtain ⟨j, hj, rfl⟩ := c
    by_cases c2 : n < 200
    · refine ZZ_of (r := nI (n + 1)) (kept' := kept) (W' := W) (A' := A) (n' := n + 1) (T' := upd T n (nI j)) M (V.mono (by omega)) ?_ ?_
      · obtain ⟨R, e0, hn, eT⟩ := C
        refine ⟨jset (jput S (10, 0) (upd (S.2 (10, 0)) n (nI j))) (0, 0) (nI (n + 1)), ?_, ⟨R.now rfl rfl (fun k hk => (WSame.put (Or.inl (by decide))).tr (WSame.set (Or.inr (fun q : 0 = k => by omega)))) (WC_set0 (WC_put10 R.1)), rfl, by omega, fun i hi => ?_⟩, (jFr.put rfl).tr (jFr.set rfl)⟩
        · show fX7_write S (nI j) = _
          unfold fX7_write fX5_append
          rw [wi_yes S 32 126 (x := 32) (y := 126) hj.1 hj.2 (by omega) rfl rfl, Option.bind_some]
          dsimp only
          have ex : ((nI j).toUInt32 % 65536).toInt32 = nI j := by
            rw [pk_char, pk_tn (by omega), Nat.mod_eq_of_lt (by omega)]
          rw [if_neg (by decide), e0, if_pos (show nI n < (200 : Int32) from (nI_ltI (b := 200) (by omega) (by omega)).mpr c2), if_neg (fun q : (200 : Int32) ≤ nI n => by have := (nI_leI (a := 200) (b := n) (by omega) (by omega)).mp q; omega), if_pos (jIn_lit (by omega) c2), if_pos (pk_vc _), ex, nI_clamp (by omega)]
          unfold jlet
          rw [Option.bind_some]
          dsimp only
          have e1 : (jput S (10, 0) (upd (S.2 (10, 0)) n (nI j))).1 (0, 0) = nI n := e0
          rw [e1, nI_1]
          rfl
        · have e1 : (jset (jput S (10, 0) (upd (S.2 (10, 0)) n (nI j))) (0, 0) (nI (n + 1))).2 (10, 0) = upd (S.2 (10, 0)) n (nI j) := jsp_at
          rw [e1]
          by_cases q : i = n
          · rw [q, pk_us, pk_us]
          · rw [pk_un q, pk_un q]
            exact eT i (by omega)
      · intro S1 M1
        obtain ⟨R, e0, hn, eT⟩ := M1
        refine ⟨jset (jput S1 (53, 0) (upd (S1.2 (53, 0)) n (nI j))) (13, 0) (nI (n + 1)), ?_, ⟨R.now rfl rfl R.1, rfl, by omega, fun i hi => ?_⟩, (jFr.put rfl).tr (jFr.set rfl)⟩
        · show fX8_write S1 (nI j) = _
          unfold fX8_write
          rw [in_yes S1 (x := 32) (y := 126) hj.1 hj.2 (by omega) (by decide) (by decide), Option.bind_some]
          dsimp only
          rw [if_neg (by decide), e0, if_neg (fun q : nI n = (200 : Int32) => by have := (nI_eq (a := n) (b := 200) (by omega) (by omega)).mp q; omega), if_pos (jIn_lit (by omega) c2), nI_clamp (by omega)]
          unfold jlet
          dsimp only
          have e1 : (jput S1 (53, 0) (upd (S1.2 (53, 0)) n (nI j))).1 (13, 0) = nI n := e0
          rw [e1, nI_1]
          rfl
        · have e1 : (jset (jput S1 (53, 0) (upd (S1.2 (53, 0)) n (nI j))) (13, 0) (nI (n + 1))).2 (53, 0) = upd (S1.2 (53, 0)) n (nI j) := jsp_at
          rw [e1]
          by_cases q : i = n
          · rw [q, pk_us, pk_us]
          · rw [pk_un q, pk_un q]
            exact eT i (by omega)
    · refine ZZ_of (r := -3) M (V.mono (by omega)) ⟨S, ?_, C, jFr.rf⟩ (fun S1 M1 => ⟨S1, ?_, M1, jFr.rf⟩)
      · obtain ⟨R, e0, hn, eT⟩ := C
        show fX7_write S (nI j) = _
        unfold fX7_write
        rw [wi_yes S 32 126 (x := 32) (y := 126) hj.1 hj.2 (by omega) rfl rfl, Option.bind_some]
        dsimp only
        rw [if_neg (by decide), e0, if_neg (fun q : nI n < (200 : Int32) => c2 ((nI_ltI (b := 200) (by omega) (by omega)).mp q))]
      · obtain ⟨R, e0, hn, eT⟩ := M1
        show fX8_write S1 (nI j) = _
        unfold fX8_write
        rw [in_yes S1 (x := 32) (y := 126) hj.1 hj.2 (by omega) (by decide) (by decide), Option.bind_some]
        dsimp only
        rw [if_neg (by decide), e0, if_pos (show nI n = (200 : Int32) by rw [show n = 200 by omega]; rfl)]
  · refine ZZ_of (r := -1) M (V.mono (by omega)) ⟨S, ?_, C, jFr.rf⟩ (fun S1 M1 => ⟨S1, ?_, M1, jFr.rf⟩)
    · show fX7_write S x = _
      unfold fX7_write
      rw [wi_no S 32 126 (x := 32) (y := 126) (by omega) (by omega) c rfl rfl, Option.bind_some]
      rfl
    · show fX8_write S1 x = _
      unfold fX8_write
      rw [in_no S1 (x := 32) (y := 126) c (by decide) (by decide), Option.bind_some]
      rfl
theorem z_wipe {N : Nat} {S : jS} (h : SM N S) : ZZ N S (fun S => fX7_wipe S) (fun S => fX8_wipe S) := by
  obtain ⟨kept, W, A, n, T, C, M, V⟩ := h
  refine ZZ_of (r := nI n) (n' := 0) (T' := T) M (V.mono (by omega)) ?_ ?_
  · obtain ⟨R, e0, hn, eT⟩ := C
    refine ⟨jset S (0, 0) 0, ?_, ⟨R.now rfl rfl (fun k hk => WSame.set (Or.inr (fun q : 0 = k => by omega))) (WC_set0 R.1), rfl, by omega, fun i hi => by omega⟩, jFr.set rfl⟩
    show fX7_wipe S = _
    unfold fX7_wipe jlet
    rw [e0]
  · intro S1 M1
    obtain ⟨R, e0, hn, eT⟩ := M1
    refine ⟨jset S1 (13, 0) 0, ?_, ⟨R.now rfl rfl R.1, rfl, by omega, fun i hi => by omega⟩, jFr.set rfl⟩
    show fX8_wipe S1 = _
    unfold fX8_wipe jlet
    rw [e0]
theorem gpR_S : ∀ r, gpR r = true → gpS r = true := fun r h => by
  simp only [gpR, Bool.and_eq_true, beq_iff_eq, decide_eq_true_eq] at h
  simp only [gpS, gpK, Bool.or_eq_true, Bool.and_eq_true, beq_iff_eq, decide_eq_true_eq]
  exact Or.inr ⟨h.1, by omega, by omega⟩
theorem gqR_S : ∀ r, gqRn r = true → gqS r = true := fun r h => by
  simp only [gqRn, gqR, Bool.or_eq_true, Bool.and_eq_true, beq_iff_eq, decide_eq_true_eq] at h
  simp only [gqS, gqK, Bool.or_eq_true, Bool.and_eq_true, beq_iff_eq, decide_eq_true_eq]
  rcases h with h | h
  · exact Or.inl (Or.inr ⟨h.1, by omega, by omega⟩)
  · exact Or.inr h
theorem g14_E : ∀ r, g14 r = true → gpE r = true := fun r h => by
  unfold g14 at h
  unfold gpE
  rw [h]
  rfl
theorem g545_E : ∀ r, g545 r = true → gqE r = true := fun r h => by
  simp only [g545, Bool.or_eq_true, beq_iff_eq] at h
  rcases h with rfl | rfl <;> decide
/-- both read the same -/
theorem reads_both {kept n : Nat} {W : Nat → aW} {A : aW} {T : Nat → Int32} {S : jS} (C : CS S kept W A n T) : ∃ r S1 h', fX5_readInto 1 S = some (r, S1) ∧ CS S1 kept W A n T ∧ jFr gpR gqRn S S1 ∧ (r = -4 → NT S1 h' ∧ TV h') ∧ ∀ Sm, MS Sm kept W A n T → ∃ S2, fX8_reads Sm = some (r, S2) ∧ MS S2 kept W A n T ∧ jFr g14 g545 Sm S2 ∧ (r = -4 → cut (S2.2 (54, 0)) = h') := by
  obtain ⟨r, S1, h', F, a1, a2, a3, a4⟩ := sX5_readInto C.2.2.1 rfl C.2.1
  have a3' := tRd_cg (T' := T) (fun j hj => C.2.2.2 j hj) _ _ _ _ _ a3
  refine ⟨r, S1, h', a1, C.scr (a2.mono gpR_S gqR_S), a2, fun q => ⟨a4 q, tRd_TV C.2.2.1 _ _ _ _ _ TV_zero a3' q⟩, fun Sm M => ?_⟩
  obtain ⟨r2, S2, h2, b1, b2, b3, b4⟩ := sX8_reads M.2.2.1 rfl M.2.1
  have b3' := tRd_cg (T' := T) (fun j hj => M.2.2.2 j hj) _ _ _ _ _ b3
  obtain ⟨rfl, c2⟩ := tRd_fun C.2.2.1 _ _ _ _ _ _ _ _ a3' b3'
  exact ⟨S2, b1, M.scr (b2.mono g14_E g545_E), b2, fun q => by rw [b4 q, c2 q]⟩
theorem z_fault {N : Nat} {S : jS} (h : SM N S) : ZZ N S (fun S => fX7_fault S) (fun S => fX8_fault S) := by
  obtain ⟨kept, W, A, n, T, C, M, V⟩ := h
  obtain ⟨r, S1, h', a1, a2, a3, a4, a5⟩ := reads_both C
  refine ZZ_of (r := r) M (V.mono (by omega)) ⟨S1, ?_, a2, (a3.mono gpR_S gqR_S).C⟩ (fun Sm Mm => ?_)
  · show fX7_fault S = _
    unfold fX7_fault
    rw [a1]
    rfl
  · obtain ⟨S2, b1, b2, b3, b4⟩ := a5 Sm Mm
    refine ⟨S2, ?_, b2, (b3.mono g14_E g545_E).D⟩
    show fX8_fault Sm = _
    unfold fX8_fault
    rw [b1]
    rfl
theorem NC_copy {k k2 : Nat} {S0 S : jS} {h : Nat → Int32} (H : HV h) (C : CPs [5, 4, 3, 2, 1] [26, 25, 24, 23, 22, 21, 20] k k2 S0 S) (w : NC k2 S0 h) : NC k S h := by
  have s1 : ∀ c, c ∈ [5, 4, 3, 2, 1] → S.1 (c, k) = S0.1 (c, k2) := fun c hc => by rw [C.1, if_pos ⟨rfl, hc⟩]
  have s2 : ∀ c, c ∈ [26, 25, 24, 23, 22, 21, 20] → ∀ i, i < jlen c → S.2 (c, k) i = S0.2 (c, k2) i := fun c hc => by
    have := C.2 (c, k)
    rw [if_pos ⟨rfl, hc⟩] at this
    exact this
  have hn10 := H.2.2.1.2
  have hG3 := H.2.1.2.2
  obtain ⟨⟨a1, a2, a3, a4, a5⟩, b, c, d⟩ := w
  refine ⟨⟨?_, ?_, ?_, ?_, ?_⟩, ?_, ?_, ?_⟩
  · rw [s1 1 (by decide)]; exact a1
  · rw [s1 2 (by decide)]; exact a2
  · rw [s1 3 (by decide)]; exact a3
  · rw [s1 4 (by decide)]; exact a4
  · rw [s1 5 (by decide)]; exact a5
  · intro g hg; rw [s2 20 (by decide) g (by show g < 3; omega)]; exact b g hg
  · intro l hl
    rw [s2 21 (by decide) l (by show l < 10; omega), s2 22 (by decide) l (by show l < 10; omega), s2 23 (by decide) l (by show l < 10; omega), s2 24 (by decide) l (by show l < 10; omega)]
    exact c l hl
  · intro q hq; rw [s2 25 (by decide) q hq]; exact d q hq
theorem nL_of {k : Nat} {S : jS} {h : Nat → Int32} (H : HV h) (N : NC k S h) : nL k S (hn h) (hm h) (hG h) (hfi h) (hse h) (hgo h) := by
  obtain ⟨n1, n2, n3⟩ := N.n H
  refine ⟨⟨n3, H.2.2.1.2, n1, by have := H.1.2.1; omega, H.1.2.2, n2, H.2.1.2.2⟩, fun l hl => ?_, fun g hg => ?_⟩
  · obtain ⟨m1, m2, -⟩ := N.2.2.1 l hl
    obtain ⟨l1, l2, -⟩ := H.2.2.2.2.2.2.2.1 l hl
    exact ⟨m1.trans l1.1, l1.2, m2.trans l2.1, l2.2⟩
  · obtain ⟨l1, l2⟩ := H.2.2.2.2.2.1 g hg
    exact ⟨(N.2.1 g hg).trans l1, l2⟩
theorem hops_of {S : jS} {k : Nat} {h : Nat → Int32} (H : HV h) : ∀ q, q < 18 → hAll (hfi h) (hse h) (hgo h) (hn h) (hm h - 1) (fun j => if j < 18 then 9 else S.2 (26, k) j) (hG h) q = hops h q := by
  intro q hq
  have hm6 := H.1.2.2
  have hl : ∀ l, l < hn h → hfi h l < hm h ∧ hse h l < hm h := fun l hl => ⟨(H.2.2.2.2.2.2.2.1 l hl).1.2, (H.2.2.2.2.2.2.2.1 l hl).2.1.2⟩
  rw [hAll_still (r' := 6) H.1.2.2 hl (Nat.le_refl _) (by omega) (fun i hi => if_pos hi) (hG h) H.2.1.2.2 (fun g hg => (H.2.2.2.2.2.1 g hg).2)]
  exact hAll_congr (fun i hi => if_pos hi) (fun l hl => H.lk hl) (hG h) H.2.1.2.2 q hq
/-- the queues are empty -/
theorem jlet_eq {α β : Type} (a : α) (f : α → β) : jlet a f = f a := rfl
theorem obind {α β : Type} {o : Option α} {f : α → Option β} {a : α} {b : β} (h : o = some a) (h2 : f a = some b) : o.bind f = some b := by
  subst h
  exact h2
theorem sJ7x {a : jR} {v : Int32} {S : jS} {N : Nat} (hN : jlen a.1 = N) (hN2 : N < 4000) : ∃ S', fJ7_fill_53178 a S v = some S' ∧ S'.1 = S.1 ∧ (∀ r, r ≠ a → S'.2 r = S.2 r) ∧ ∀ j, j < N → S'.2 a j = v := by
  refine ⟨_, sJ7 hN hN2, rfl, fun r hr => jput_o hr, fun j hj => ?_⟩
  rw [jput_at]
  exact if_pos hj
theorem sX4_clear {S : jS} {h : Nat → Int32} (hz : ∀ j, 66 ≤ j → j < 77 → h j = 0) : ∃ S', fX4_clear 0 S = some S' ∧ QC 0 S' h (fun _ => []) ∧ jFr (gp67 0) (gq3x 0) S S' := by
  have z66 : (0 : Int32) = h 66 := (hz 66 (by omega) (by omega)).symm
  have z76 : (0 : Int32) = h 76 := (hz 76 (by omega) (by omega)).symm
  obtain ⟨S0, e0, f0, g0⟩ : ∃ S0 : jS, S0 = jset (jset S (6, 0) 0) (7, 0) 0 ∧ (S0.1 (6, 0) = 0 ∧ S0.1 (7, 0) = 0) ∧ jFr (gp67 0) (gq3x 0) S S0 := ⟨_, rfl, ⟨rfl, rfl⟩, (jFr.set rfl).tr (jFr.set rfl)⟩
  obtain ⟨S1, a1, a2, a3, a4⟩ := sJ7x (a := (30, 0)) (v := 0) (S := S0) (N := 3) rfl (by omega)
  obtain ⟨S2, b1, b2, b3, b4⟩ := sJ7x (a := (31, 0)) (v := 0) (S := S1) (N := 3) rfl (by omega)
  obtain ⟨S3, c1, c2, c3, c4⟩ := sJ7x (a := (32, 0)) (v := 0) (S := S2) (N := 3) rfl (by omega)
  obtain ⟨S4, d1, d2, d3, d4⟩ := sJ7x (a := (33, 0)) (v := 0) (S := S3) (N := 18) rfl (by omega)
  obtain ⟨S5, x1, x2, x3, x4⟩ := sJ7x (a := (35, 0)) (v := 0) (S := S4) (N := 18) rfl (by omega)
  have key : fX4_clear 0 S = some S5 := by
    unfold fX4_clear
    rw [jlet_eq, jlet_eq, ← e0, a1, Option.bind_some, b1, Option.bind_some, c1, Option.bind_some, d1, Option.bind_some, x1, Option.bind_some]
  have es : S5.1 = S0.1 := by rw [x2, d2, c2, b2, a2]
  refine ⟨S5, key, ⟨⟨?_, ?_, fun g hg => ?_⟩, fun q hq => ?_⟩, g0.tr ⟨fun r _ => by rw [es], fun r hr => ?_⟩⟩
  · rw [es, f0.1]; exact z66
  · rw [es, f0.2]; exact z76
  · rw [hz (67 + g) (by omega) (by omega), hz (70 + g) (by omega) (by omega), hz (73 + g) (by omega) (by omega)]
    refine ⟨?_, ?_, ?_⟩
    · rw [x3 _ (by decide), d3 _ (by decide), c3 _ (by decide), b3 _ (by decide)]
      exact a4 g hg
    · rw [x3 _ (by decide), d3 _ (by decide), c3 _ (by decide)]
      exact b4 g hg
    · rw [x3 _ (by decide), d3 _ (by decide)]
      exact c4 g hg
  · refine ⟨?_, by show 0 ≤ 40; omega, 0, by omega, ?_, fun i hi => absurd hi (by show ¬ i < 0; omega)⟩
    · rw [x3 _ (by decide)]
      exact d4 q hq
    · exact x4 q hq
  · have ne : ∀ a : jR, gq3x 0 a = true → r ≠ a := fun a ha q => by rw [q, ha] at hr; cases hr
    rw [x3 r (ne _ rfl), d3 r (ne _ rfl), c3 r (ne _ rfl), b3 r (ne _ rfl), a3 r (ne _ rfl)]
theorem z_lay {N : Nat} {S : jS} (h : SM N S) : ZZ N S (fun S => fX7_lay S) (fun S => fX8_lay S) := by
  obtain ⟨kept, W, A, n, T, C, M, V⟩ := h
  obtain ⟨r, S1, h', a1, a2, a3, a4, a5⟩ := reads_both C
  by_cases c : r = -4 ∧ hG h' ≠ 0
  · obtain ⟨rfl, cG⟩ := c
    obtain ⟨NTh, TVh⟩ := a4 rfl
    have H := TVh.hv (by omega)
    have hz : ∀ j, 66 ≤ j → j < 77 → h' j = 0 := fun j h1 h2 => TVh.2.2.2.2.2.2.2 j h1 (by omega)
    have hV : AV (60 * (N + 1)) (h', fun _ => []) := by
      refine ⟨H, 0, by omega, fun _ _ => rfl, hz 66 (by omega) (by omega), fun q hq => ⟨by show 0 ≤ 40; omega, fun x hx => by cases hx⟩, fun _ _ _ _ _ => rfl, fun g hg => ⟨0, 0, hz _ (by omega) (by omega), by omega, hz _ (by omega) (by omega), by omega, fun _ => rfl⟩⟩
    refine ZZ_of (r := h' 0) (kept' := 0) (W' := W) (A' := (h', fun _ => [])) (n' := n) (T' := T) M ⟨hV, fun i hi => by omega⟩ ?_ ?_
    · obtain ⟨S2, b1, b2⟩ := sX2_copyFrom (k := 0) (k2 := 1) (S := S1) (by omega)
      have F2 := b2.fr (by decide) (by decide)
      have N2 : NC 0 S2 h' := NC_copy H b2 NTh.1
      have b3 := sX2_findHops (nL_of H N2)
      obtain ⟨S4, b4, b5, b6⟩ := sX4_clear (S := jput S2 (26, 0) (hAll (hfi h') (hse h') (hgo h') (hn h') (hm h' - 1) (fun j => if j < 18 then 9 else S2.2 (26, 0) j) (hG h'))) hz
      have N4 : NC 0 (jset S4 (8, 0) 0) h' := by
        have N3 : NC 0 S4 h' := NC.fr (S := jput S2 (26, 0) (hAll (hfi h') (hse h') (hgo h') (hn h') (hm h' - 1) (fun j => if j < 18 then 9 else S2.2 (26, 0) j) (hG h'))) b6 (fun c h1 h2 => by
          have : c = 1 ∨ c = 2 ∨ c = 3 ∨ c = 4 ∨ c = 5 := by omega
          rcases this with rfl | rfl | rfl | rfl | rfl <;> decide) (fun c h1 h2 => by
          have : c = 20 ∨ c = 21 ∨ c = 22 ∨ c = 23 ∨ c = 24 ∨ c = 25 := by omega
          rcases this with rfl | rfl | rfl | rfl | rfl | rfl <;> decide) N2
        exact N3
      have H4 : HC 0 (jset S4 (8, 0) 0) h' := by
        intro q hq
        show S4.2 (26, 0) q = _
        rw [b6.2 (26, 0) (by decide), jput_at]
        exact hops_of H q hq
      have Q4 : QC 0 (jset S4 (8, 0) 0) h' (fun _ => []) := b5
      obtain ⟨R1, e0, hn200, eT⟩ := a2
      obtain ⟨-, e8, hk4, next, hnx, e9, hW⟩ := R1
      have F4 : jFr (fun r => gpK 0 r || r == (8, 0)) (gqK 0) S1 (jset S4 (8, 0) 0) := by
        refine ((F2.mono (fun r h => by rw [h]; rfl) (fun _ h => h)).tr ((jFr.put rfl).tr (b6.mono (fun r h => ?_) (fun r h => ?_)))).tr (jFr.set rfl)
        · simp only [gp67, Bool.or_eq_true, beq_iff_eq] at h
          rcases h with rfl | rfl <;> decide
        · simp only [gq3x, Bool.or_eq_true, beq_iff_eq] at h
          rcases h with ((((rfl | rfl) | rfl) | rfl) | rfl) | rfl <;> decide
      refine ⟨jset S4 (8, 0) 0, ?_, ⟨⟨⟨N4, H4, Q4⟩, rfl, by omega, next, hnx, (F4.1 (9, 0) (by decide)).trans e9, fun i hi => by omega⟩, (F4.1 (0, 0) (by decide)).trans e0, hn200, fun j hj => ?_⟩, ((a3.mono gpR_S gqR_S).C).tr (F4.mono (fun r h => ?_) (fun r h => ?_))⟩
      · show fX7_lay S = _
        unfold fX7_lay fX7_layText fX0_clear jlet
        rw [a1, Option.bind_some]
        dsimp only
        have e2 : S1.1 (2, 1) = nI (hG h') := NTh.1.1.2.1.trans TVh.2.1.1.1
        rw [if_pos rfl, e2, if_neg (fun q : nI (hG h') = 0 => cG ((nI_eq (b := 0) (by have := TVh.2.1.1.2; omega) (by omega)).mp q)), b1, Option.bind_some, b3, Option.bind_some, b4, Option.bind_some, Option.bind_some, Option.bind_some]
        dsimp only
        rw [if_neg (by decide)]
        exact congrArg (fun v => some (v, jset S4 (8, 0) 0)) N4.1.1
      · rw [F4.2 (10, 0) (by decide)]
        exact eT j hj
      · simp only [gpK, Bool.or_eq_true, Bool.and_eq_true, beq_iff_eq, decide_eq_true_eq] at h
        refine decide_eq_true ?_
        rcases h with h | rfl
        · omega
        · decide
      · simp only [gqK, Bool.and_eq_true, beq_iff_eq, decide_eq_true_eq] at h
        exact decide_eq_true (by omega)
    · intro Sm Mm
      obtain ⟨S2, b1, b2, b3, b4⟩ := a5 Sm Mm
      have ec : ∀ j, j < 815 → S2.2 (54, 0) j = h' j := fun j hj => by rw [← b4 rfl]; exact (cut_at hj).symm
      refine ⟨jset (jput S2 (50, 0) (fun j => if j < 815 then S2.2 (54, 0) j else S2.2 (50, 0) j)) (12, 0) 0, ?_, ⟨⟨⟨fun j hj => ?_, fun q hq => ⟨?_, by show 0 ≤ 40; omega, fun i hi => absurd hi (by show ¬ i < 0; omega)⟩⟩, rfl, by omega, fun i hi => by omega⟩, b2.2.1, b2.2.2.1, b2.2.2.2⟩, ((b3.mono g14_E g545_E).D).tr ((jFr.put rfl).tr (jFr.set rfl))⟩
      · show fX8_lay Sm = _
        unfold fX8_lay
        rw [b1, Option.bind_some]
        dsimp only
        rw [if_pos rfl, if_pos j18, q1, ec 1 (by omega), TVh.2.1.1.1, if_neg (fun q : nI (hG h') = 0 => cG ((nI_eq (b := 0) (by have := TVh.2.1.1.2; omega) (by omega)).mp q)), sX8_takes, Option.bind_some, if_pos j08, q0, jsp_at, if_pos (by omega), ec 0 (by omega)]
      · rw [jsp_at, if_pos (by omega)]
        exact ec j (by omega)
      · rw [jsp_at, if_pos (by omega), ec _ (by omega)]
        exact TVh.2.2.2.2.2.2.2 _ (by omega) (by omega)
  · refine ZZ_of (r := -2) M (V.mono (by omega)) ⟨S1, ?_, a2, (a3.mono gpR_S gqR_S).C⟩ (fun Sm Mm => ?_)
    · show fX7_lay S = _
      unfold fX7_lay fX7_layText
      rw [a1, Option.bind_some]
      dsimp only
      by_cases c1 : r = -4
      · obtain ⟨NTh, TVh⟩ := a4 c1
        have e2 : S1.1 (2, 1) = nI (hG h') := NTh.1.1.2.1.trans TVh.2.1.1.1
        rw [if_pos c1, e2, if_pos (by
          have : hG h' = 0 := by
            by_cases q : hG h' = 0
            · exact q
            · exact absurd ⟨c1, q⟩ c
          rw [this]; rfl), Option.bind_some]
        rfl
      · rw [if_neg c1, Option.bind_some]
        rfl
    · obtain ⟨S2, b1, b2, b3, b4⟩ := a5 Sm Mm
      refine ⟨S2, ?_, b2, (b3.mono g14_E g545_E).D⟩
      show fX8_lay Sm = _
      unfold fX8_lay
      rw [b1, Option.bind_some]
      dsimp only
      by_cases c1 : r = -4
      · obtain ⟨NTh, TVh⟩ := a4 c1
        rw [if_pos c1, if_pos j18, q1, show S2.2 (54, 0) 1 = h' 1 by rw [← b4 c1]; rfl, TVh.2.1.1.1, if_pos (by
          have : hG h' = 0 := by
            by_cases q : hG h' = 0
            · exact q
            · exact absurd ⟨c1, q⟩ c
          rw [this]; rfl)]
      · rw [if_neg c1]
