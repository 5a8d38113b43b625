/-! ===== length() and charAt() of the text constant ===== -/
abbrev mJ0_coder : jM := (yJ0_coder_7d493, cJ0_coder_7d493, 1, some .byte)
theorem okJ0_coder : jOK mJ0_coder 0 := ⟨by decide +kernel, tw_318, tw_77, by decide +kernel, by decide, by decide⟩
abbrev mJ0_isLatin1 : jM := (yJ0_isLatin1_aae02, cJ0_isLatin1_aae02, 1, some .boolean)
theorem okJ0_isLatin1 : jOK mJ0_isLatin1 0 := ⟨by decide +kernel, tw_328, tw_77, by decide +kernel, by decide, by decide⟩
abbrev mJ0_length : jM := (yJ0_length_8abf5, cJ0_length_8abf5, 1, some .int)
theorem okJ0_length : jOK mJ0_length 0 := ⟨by decide +kernel, tw_314, tw_77, by decide +kernel, by decide, by decide⟩
abbrev mJ0_charAt : jM := (yJ0_charAt_5068e, cJ0_charAt_5068e, 2, some .char)
theorem okJ0_charAt : jOK mJ0_charAt 1 := ⟨by decide +kernel, tw_324, tw_77, by decide +kernel, by decide, by decide⟩
abbrev mJ0_checkIndex : jM := (yJ0_checkIndex_df160, cJ0_checkIndex_df160, 2, none)
theorem okJ0_checkIndex : jOK mJ0_checkIndex 2 := ⟨by decide +kernel, tw_334, tw_77, by decide +kernel, by decide, by decide⟩
abbrev mJ1_charAt : jM := (yJ1_charAt_3b067, cJ1_charAt_3b067, 2, some .char)
theorem okJ1_charAt : jOK mJ1_charAt 2 := ⟨by decide +kernel, tw_331, tw_78, by decide +kernel, by decide, by decide⟩
abbrev mJ3_checkIndex : jM := (yJ3_checkIndex_8e157, cJ3_checkIndex_8e157, 3, some .int)
theorem okJ3_checkIndex : jOK mJ3_checkIndex 3 := ⟨by decide +kernel, tw_339, tw_79, by decide +kernel, by decide, by decide⟩
section Letters
variable {ak av : Nat}
theorem kJ0_coder : sMR ak av 1 mJ0_coder [.ref ak] [.int 0] := by
  refine ⟨Nat.le_of_ble_eq_true rfl, ?_⟩
  show JS ak av 1 mJ0_coder 0 [(0, .ref ak)] [] [.int 0]
  refine s_compact (pc := 0) dJ0_coder_7d493_0 rfl ?_
  refine s_if_eq (pc := 3) (tgt := 13) dJ0_coder_7d493_3 (by decide) (by decide) ?_
  refine s_aload (pc := 6) 0 dJ0_coder_7d493_6 rfl rfl ?_
  refine s_coder (pc := 7) dJ0_coder_7d493_7 rfl ?_
  refine s_goto (pc := 10) (tgt := 14) dJ0_coder_7d493_10 (by decide) ?_
  exact s_iret (pc := 14) dJ0_coder_7d493_14 rfl rfl
theorem kJ0_isLatin1 : sMR ak av 1 mJ0_isLatin1 [.ref ak] [.int 1] := by
  refine ⟨Nat.le_of_ble_eq_true rfl, ?_⟩
  show JS ak av 1 mJ0_isLatin1 0 [(0, .ref ak)] [] [.int 1]
  refine s_compact (pc := 0) dJ0_isLatin1_aae02_0 rfl ?_
  refine s_if_eq (pc := 3) (tgt := 17) dJ0_isLatin1_aae02_3 (by decide) (by decide) ?_
  refine s_aload (pc := 6) 0 dJ0_isLatin1_aae02_6 rfl rfl ?_
  refine s_coder (pc := 7) dJ0_isLatin1_aae02_7 rfl ?_
  refine s_if_ne (pc := 10) (tgt := 17) dJ0_isLatin1_aae02_10 (by decide) rfl ?_
  refine s_iconst (pc := 13) dJ0_isLatin1_aae02_13 jci_1 ?_
  refine s_goto (pc := 14) (tgt := 18) dJ0_isLatin1_aae02_14 (by decide) ?_
  exact s_iret (pc := 18) dJ0_isLatin1_aae02_18 rfl rfl
theorem kJ0_length : sMR ak av 2 mJ0_length [.ref ak] [.int 97] := by
  refine ⟨Nat.le_of_ble_eq_true rfl, ?_⟩
  show JS ak av 2 mJ0_length 0 [(0, .ref ak)] [] [.int 97]
  refine s_aload (pc := 0) 0 dJ0_length_8abf5_0 rfl rfl ?_
  refine s_value (pc := 1) dJ0_length_8abf5_1 rfl ?_
  refine s_alen (pc := 4) dJ0_length_8abf5_4 ?_
  refine s_aload (pc := 5) 0 dJ0_length_8abf5_5 rfl rfl ?_
  refine s_callV (pc := 6) (N := mJ0_coder) (As := []) (rest := [.int 97]) (v := [.int 0]) dJ0_length_8abf5_6 kJ0_coder (by simp) (by decide) okJ0_coder rfl tw_316 tw_317 tw_315 rfl rfl (by simp [Value.category]) ?_
  refine s_ishr (pc := 9) dJ0_length_8abf5_9 ?_
  exact s_iret (pc := 10) (v := 97) dJ0_length_8abf5_10 rfl rfl
theorem kJ3_checkIndex {i : Nat} {f : Value} (hi : i < 97) (hf : (lg_sl [.int (nI i), .int 97, f]).length ≤ 3) (ha : ∃ ff, lv_args 0 [.int (nI i), .int 97, f] = (0, .int (nI i)) :: (1, .int 97) :: ff) : sMR ak av 1 mJ3_checkIndex [.int (nI i), .int 97, f] [.int (nI i)] := by
  refine ⟨hf, ?_⟩
  obtain ⟨ff, ha⟩ := ha
  rw [ha]
  refine s_iload (pc := 0) 0 dJ3_checkIndex_8e157_0 rfl rfl ?_
  refine s_if_lt (pc := 1) (tgt := 9) dJ3_checkIndex_8e157_1 (by decide) (nI_pos (by omega)) ?_
  refine s_iload (pc := 4) 0 dJ3_checkIndex_8e157_4 rfl rfl ?_
  refine s_iload (pc := 5) 1 dJ3_checkIndex_8e157_5 rfl rfl ?_
  refine s_icmp_lt (pc := 6) (tgt := 16) dJ3_checkIndex_8e157_6 (by decide) (nI_lt (a := i) (b := 97) hi (by omega)) ?_
  refine s_iload (pc := 16) 0 dJ3_checkIndex_8e157_16 rfl rfl ?_
  exact s_iret (pc := 17) dJ3_checkIndex_8e157_17 rfl rfl
theorem kJ0_checkIndex {i : Nat} (hi : i < 97) : sMR ak av 2 mJ0_checkIndex [.int (nI i), .int 97] [] := by
  refine ⟨Nat.le_of_ble_eq_true rfl, ?_⟩
  show JS ak av 2 mJ0_checkIndex 0 [(0, .int (nI i)), (1, .int 97)] [] []
  refine s_iload (pc := 0) 0 dJ0_checkIndex_df160_0 rfl rfl ?_
  refine s_iload (pc := 1) 1 dJ0_checkIndex_df160_1 rfl rfl ?_
  refine s_fmt (pc := 2) dJ0_checkIndex_df160_2 rfl ?_ (fun t => ?_)
  · refine s_callS (pc := 5) (N := mJ3_checkIndex) (As := [.int (nI i), .int 97, .null]) (rest := []) (v := [.int (nI i)]) dJ0_checkIndex_df160_5 (kJ3_checkIndex hi (Nat.le_of_ble_eq_true rfl) ⟨_, rfl⟩) (by simp) (by decide) okJ3_checkIndex tw_338 tw_337 rfl rfl (by simp) ?_
    refine s_pop (pc := 8) dJ0_checkIndex_df160_8 rfl ?_
    exact s_vret (pc := 9) dJ0_checkIndex_df160_9 rfl
  · refine s_callS (pc := 5) (N := mJ3_checkIndex) (As := [.int (nI i), .int 97, .ref t]) (rest := []) (v := [.int (nI i)]) dJ0_checkIndex_df160_5 (kJ3_checkIndex hi (Nat.le_of_ble_eq_true rfl) ⟨_, rfl⟩) (by simp) (by decide) okJ3_checkIndex tw_338 tw_337 rfl rfl (by simp) ?_
    refine s_pop (pc := 8) dJ0_checkIndex_df160_8 rfl ?_
    exact s_vret (pc := 9) dJ0_checkIndex_df160_9 rfl
theorem lT_b : ∀ i, i < 97 → ((hL l_T i &&& (255 : Int32)).toUInt32 % 65536).toInt32 = hL l_T i ∧ narrow .char (.int (hL l_T i)) = .int (hL l_T i) := by
  intro i hi
  have h : ∀ i, i < 97 → ((hL l_T i &&& (255 : Int32)).toUInt32 % 65536).toInt32 = hL l_T i := by decide +kernel
  refine ⟨h i hi, ?_⟩
  have e := pk_nc (hL l_T i &&& (255 : Int32))
  rw [h i hi] at e
  exact e
theorem kJ1_charAt {i : Nat} (hi : i < 97) : sMR ak av 3 mJ1_charAt [.ref av, .int (nI i)] [.int (hL l_T i)] := by
  refine ⟨Nat.le_of_ble_eq_true rfl, ?_⟩
  show JS ak av 3 mJ1_charAt 0 [(0, .ref av), (1, .int (nI i))] [] [.int (hL l_T i)]
  refine s_iload (pc := 0) 1 dJ1_charAt_3b067_0 rfl rfl ?_
  refine s_aload (pc := 1) 0 dJ1_charAt_3b067_1 rfl rfl ?_
  refine s_alen (pc := 2) dJ1_charAt_3b067_2 ?_
  refine s_callS (pc := 3) (N := mJ0_checkIndex) (As := [.int (nI i), .int 97]) (rest := []) (v := []) dJ1_charAt_3b067_3 (kJ0_checkIndex hi) (by simp) (by decide) okJ0_checkIndex tw_333 tw_332 rfl rfl (by simp) ?_
  refine s_aload (pc := 6) 0 dJ1_charAt_3b067_6 rfl rfl ?_
  refine s_iload (pc := 7) 1 dJ1_charAt_3b067_7 rfl rfl ?_
  refine s_bald (pc := 8) hi dJ1_charAt_3b067_8 ?_
  refine s_sipush (pc := 9) dJ1_charAt_3b067_9 jcs_255 ?_
  refine s_iand (pc := 12) dJ1_charAt_3b067_12 ?_
  refine s_i2c (pc := 13) dJ1_charAt_3b067_13 (lT_b i hi).1 ?_
  exact s_iret (pc := 14) dJ1_charAt_3b067_14 rfl (lT_b i hi).2
theorem kJ0_charAt {i : Nat} (hi : i < 97) : sMR ak av 4 mJ0_charAt [.ref ak, .int (nI i)] [.int (hL l_T i)] := by
  refine ⟨Nat.le_of_ble_eq_true rfl, ?_⟩
  show JS ak av 4 mJ0_charAt 0 [(0, .ref ak), (1, .int (nI i))] [] [.int (hL l_T i)]
  refine s_aload (pc := 0) 0 dJ0_charAt_5068e_0 rfl rfl ?_
  refine s_callV (pc := 1) (N := mJ0_isLatin1) (As := []) (rest := []) (v := [.int 1]) dJ0_charAt_5068e_1 kJ0_isLatin1 (by simp) (by decide) okJ0_isLatin1 rfl tw_326 tw_327 tw_325 rfl rfl (by simp) ?_
  refine s_if_eq (pc := 4) (tgt := 16) dJ0_charAt_5068e_4 (by decide) (by decide) ?_
  refine s_aload (pc := 7) 0 dJ0_charAt_5068e_7 rfl rfl ?_
  refine s_value (pc := 8) dJ0_charAt_5068e_8 rfl ?_
  refine s_iload (pc := 11) 1 dJ0_charAt_5068e_11 rfl rfl ?_
  refine s_callS (pc := 12) (N := mJ1_charAt) (As := [.ref av, .int (nI i)]) (rest := []) (v := [.int (hL l_T i)]) dJ0_charAt_5068e_12 (kJ1_charAt hi) (by simp) (by decide) okJ1_charAt tw_330 tw_329 rfl rfl (by simp) ?_
  exact s_iret (pc := 15) dJ0_charAt_5068e_15 rfl (lT_b i hi).2
end Letters
