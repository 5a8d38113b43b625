/-! ===== what the constructors leave ===== -/
def aI (k : Nat) (S : jS) : Prop := S.1 (0, 0) = nI k ∧ (∀ j, j < k → S.2 (10, 0) j = hL l_T j) ∧ S.1 (9, 0) = 0
theorem lT_ch : ∀ k, k < 97 → vp_nar .char (hL l_T k) = hL l_T k := by decide +kernel
theorem c_append {k : Nat} {S : jS} (hk : k < 97) (I : aI k S) : ∃ S', fX5_append S (hL l_T k) = some S' ∧ aI (k + 1) S' := by
  obtain ⟨I1, I2, I3⟩ := I
  refine ⟨jset (jput S (10, 0) (upd (S.2 (10, 0)) k (hL l_T k))) (0, 0) (nI (k + 1)), ?_, rfl, fun j hj => ?_, I3⟩
  · unfold fX5_append
    rw [I1, if_neg (fun q => by have := (nI_leI (a := 200) (b := k) (by omega) (by omega)).mp q; omega), if_pos (jIn_lit (by omega) (by omega)), if_pos (lT_ch k hk), jlet_eq, jlet_eq, nI_clamp (by omega)]
    show some (jset _ (0, 0) (S.1 (0, 0) + 1)) = _
    rw [I1, nI_1]
  · show (jput S (10, 0) (upd (S.2 (10, 0)) k (hL l_T k))).2 (10, 0) j = _
    rw [jput_at]
    by_cases c : j = k
    · subst c; rw [pk_us]
    · rw [pk_un c]; exact I2 j (by omega)
theorem c_init {S : jS} {W : Nat → aW} {T : Nat → Int32} (I : aI 97 S) : ∃ S', fX7_layText S = some (1, S') ∧ CS (jset S' (0, 0) 0) 0 W A_F 0 T := by
  obtain ⟨I1, I2, I3⟩ := I
  obtain ⟨r, S1, h', F, a1, a2, a3, a4⟩ := sX5_readInto (n := 97) (S := S) (by omega) rfl I1
  have a3' := tRd_cg (T' := hL l_T) (fun j hj => I2 j hj) _ _ _ _ _ a3
  obtain ⟨rfl, e1⟩ := tRd_fun (by omega) _ _ _ _ _ _ _ _ a3' tx_rd
  have e2 : h' = h_F := e1 rfl
  subst e2
  have NTh := a4 rfl
  have TVh := TV_F
  have H := HV_F
  have hz : ∀ j, 66 ≤ j → j < 77 → h_F j = 0 := fun j h1 h2 => h_F_z h1
  have cG : hG h_F ≠ 0 := by decide +kernel
  obtain ⟨S2, b1, b2⟩ := sX2_copyFrom (k := 0) (k2 := 1) (S := S1) (by omega)
  have F2 := b2.fr (by decide) (by decide)
  have N2 : NC 0 S2 h_F := NC_copy H b2 NTh.1
  have b3 := sX2_findHops (nL_of H N2)
  obtain ⟨S4, b4, b5, b6⟩ := sX4_clear (S := jput S2 (26, 0) (hAll (hfi h_F) (hse h_F) (hgo h_F) (hn h_F) (hm h_F - 1) (fun j => if j < 18 then 9 else S2.2 (26, 0) j) (hG h_F))) hz
  have N4 : NC 0 (jset S4 (8, 0) 0) h_F := by
    have N3 : NC 0 S4 h_F := NC.fr (S := jput S2 (26, 0) (hAll (hfi h_F) (hse h_F) (hgo h_F) (hn h_F) (hm h_F - 1) (fun j => if j < 18 then 9 else S2.2 (26, 0) j) (hG h_F))) b6 (fun c h1 h2 => by
      have : c = 1 ∨ c = 2 ∨ c = 3 ∨ c = 4 ∨ c = 5 := by omega
      rcases this with rfl | rfl | rfl | rfl | rfl <;> decide) (fun c h1 h2 => by
      have : c = 20 ∨ c = 21 ∨ c = 22 ∨ c = 23 ∨ c = 24 ∨ c = 25 := by omega
      rcases this with rfl | rfl | rfl | rfl | rfl | rfl <;> decide) N2
    exact N3
  have H4 : HC 0 (jset S4 (8, 0) 0) h_F := by
    intro q hq
    show S4.2 (26, 0) q = _
    rw [b6.2 (26, 0) (by decide), jput_at]
    exact hops_of H q hq
  have Q4 : QC 0 (jset S4 (8, 0) 0) h_F (fun _ => []) := b5
  have F4 : jFr (fun r => gpK 0 r || r == (8, 0)) (gqK 0) S1 (jset S4 (8, 0) 0) := by
    refine ((F2.mono (fun r h => by rw [h]; rfl) (fun _ h => h)).tr ((jFr.put rfl).tr (b6.mono (fun r h => ?_) (fun r h => ?_)))).tr (jFr.set rfl)
    · simp only [gp67, Bool.or_eq_true, beq_iff_eq] at h
      rcases h with rfl | rfl <;> decide
    · simp only [gq3x, Bool.or_eq_true, beq_iff_eq] at h
      rcases h with ((((rfl | rfl) | rfl) | rfl) | rfl) | rfl <;> decide
  have e9 : S1.1 (9, 0) = nI 0 := (a2.1 (9, 0) (by decide)).trans I3
  refine ⟨jset S4 (8, 0) 0, ?_, ⟨⟨⟨N4, H4, Q4⟩, rfl, by omega, 0, by omega, (F4.1 (9, 0) (by decide)).trans e9, fun i hi => by omega⟩, rfl, by omega, fun j hj => by omega⟩⟩
  unfold fX7_layText fX0_clear jlet
  rw [a1, Option.bind_some]
  dsimp only
  have e2 : S1.1 (2, 1) = nI (hG h_F) := NTh.1.1.2.1.trans TVh.2.1.1.1
  rw [if_pos rfl, e2, if_neg (fun q : nI (hG h_F) = 0 => cG ((nI_eq (b := 0) (by have := TVh.2.1.1.2; omega) (by omega)).mp q)), b1, Option.bind_some, b3, Option.bind_some, b4, Option.bind_some, Option.bind_some]
