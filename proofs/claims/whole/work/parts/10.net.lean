abbrev mX2_copyFrom : jM := (yX2_copyFrom, cX2_copyFrom, 2, none)
theorem okX2_copyFrom : jOK mX2_copyFrom 1 := ⟨by decide +kernel, tw_454, tw_72, by decide +kernel, by decide, by decide⟩
def fX2_copyFrom (k : Nat) (k2 : Nat) (S : jS) : Option jS :=
  jlet (jset S (1, k) (S.1 (1, k2))) fun S1 => jlet (jset S1 (2, k) (S1.1 (2, k2))) fun S2 => jlet (jset S2 (3, k) (S2.1 (3, k2))) fun S3 => jlet (jset S3 (4, k) (S3.1 (4, k2))) fun S4 => jlet (jset S4 (5, k) (S4.1 (5, k2))) fun S5 => jlet (jput S5 (20, k) (va_cpy (S5.2 (20, k2)) (S5.2 (20, k)) ((0 : Int32)).toNatClampNeg ((0 : Int32)).toNatClampNeg ((3 : Int32)).toNatClampNeg)) fun S6 => jlet (jput S6 (21, k) (va_cpy (S6.2 (21, k2)) (S6.2 (21, k)) ((0 : Int32)).toNatClampNeg ((0 : Int32)).toNatClampNeg ((10 : Int32)).toNatClampNeg)) fun S7 => jlet (jput S7 (22, k) (va_cpy (S7.2 (22, k2)) (S7.2 (22, k)) ((0 : Int32)).toNatClampNeg ((0 : Int32)).toNatClampNeg ((10 : Int32)).toNatClampNeg)) fun S8 => jlet (jput S8 (23, k) (va_cpy (S8.2 (23, k2)) (S8.2 (23, k)) ((0 : Int32)).toNatClampNeg ((0 : Int32)).toNatClampNeg ((10 : Int32)).toNatClampNeg)) fun S9 => jlet (jput S9 (24, k) (va_cpy (S9.2 (24, k2)) (S9.2 (24, k)) ((0 : Int32)).toNatClampNeg ((0 : Int32)).toNatClampNeg ((10 : Int32)).toNatClampNeg)) fun S10 => jlet (jput S10 (25, k) (va_cpy (S10.2 (25, k2)) (S10.2 (25, k)) ((0 : Int32)).toNatClampNeg ((0 : Int32)).toNatClampNeg ((18 : Int32)).toNatClampNeg)) fun S11 => jlet (jput S11 (26, k) (va_cpy (S11.2 (26, k2)) (S11.2 (26, k)) ((0 : Int32)).toNatClampNeg ((0 : Int32)).toNatClampNeg ((18 : Int32)).toNatClampNeg)) fun S12 => some S12
set_option maxRecDepth 10000 in
set_option maxHeartbeats 4000000 in
theorem kX2_copyFrom {E : jE} (hC : jHC E) {k : Nat} (hk : k < 6) {k2 : Nat} (hk2 : k2 < 6) {S : jS} {r : jS} (h : fX2_copyFrom k k2 S = some r) : jMR E 1 mX2_copyFrom [.ref (E.1 (3, k)), .ref (E.1 (3, k2))] S [] r := by
  refine ⟨Nat.le_of_ble_eq_true rfl, ?_⟩
  show JR E 1 mX2_copyFrom 0 [(0, .ref (E.1 (3, k))), (1, .ref (E.1 (3, k2)))] [] S [] r
  unfold fX2_copyFrom at h
  refine j_aload_n (pc := 0) 0 dX2_copyFrom_0 rfl rfl ?_
  refine j_aload_n (pc := 1) 1 dX2_copyFrom_1 rfl rfl ?_
  refine jg_3_0 (pc := 2) dX2_copyFrom_2 (hC (3, k2) (decide_eq_true hk2)) tw_125 ?_
  obtain ⟨S1, eS1, h⟩ := jlk h
  refine jp_1 (pc := 5) dX2_copyFrom_5 (hC (3, k) (decide_eq_true hk)) tw_125 eS1 ?_
  refine j_aload_n (pc := 8) 0 dX2_copyFrom_8 rfl rfl ?_
  refine j_aload_n (pc := 9) 1 dX2_copyFrom_9 rfl rfl ?_
  refine jg_3_1 (pc := 10) dX2_copyFrom_10 (hC (3, k2) (decide_eq_true hk2)) tw_128 ?_
  obtain ⟨S2, eS2, h⟩ := jlk h
  refine jp_2 (pc := 13) dX2_copyFrom_13 (hC (3, k) (decide_eq_true hk)) tw_128 eS2 ?_
  refine j_aload_n (pc := 16) 0 dX2_copyFrom_16 rfl rfl ?_
  refine j_aload_n (pc := 17) 1 dX2_copyFrom_17 rfl rfl ?_
  refine jg_3_2 (pc := 18) dX2_copyFrom_18 (hC (3, k2) (decide_eq_true hk2)) tw_133 ?_
  obtain ⟨S3, eS3, h⟩ := jlk h
  refine jp_3 (pc := 21) dX2_copyFrom_21 (hC (3, k) (decide_eq_true hk)) tw_133 eS3 ?_
  refine j_aload_n (pc := 24) 0 dX2_copyFrom_24 rfl rfl ?_
  refine j_aload_n (pc := 25) 1 dX2_copyFrom_25 rfl rfl ?_
  refine jg_3_3 (pc := 26) dX2_copyFrom_26 (hC (3, k2) (decide_eq_true hk2)) tw_136 ?_
  obtain ⟨S4, eS4, h⟩ := jlk h
  refine jp_4 (pc := 29) dX2_copyFrom_29 (hC (3, k) (decide_eq_true hk)) tw_136 eS4 ?_
  refine j_aload_n (pc := 32) 0 dX2_copyFrom_32 rfl rfl ?_
  refine j_aload_n (pc := 33) 1 dX2_copyFrom_33 rfl rfl ?_
  refine jg_3_4 (pc := 34) dX2_copyFrom_34 (hC (3, k2) (decide_eq_true hk2)) tw_139 ?_
  obtain ⟨S5, eS5, h⟩ := jlk h
  refine jp_5 (pc := 37) dX2_copyFrom_37 (hC (3, k) (decide_eq_true hk)) tw_139 eS5 ?_
  refine j_aload_n (pc := 40) 1 dX2_copyFrom_40 rfl rfl ?_
  refine jg_3_5 (pc := 41) dX2_copyFrom_41 (hC (3, k2) (decide_eq_true hk2)) tw_141 ?_
  refine j_iconst (pc := 44) dX2_copyFrom_44 jci_0 ?_
  refine j_aload_n (pc := 45) 0 dX2_copyFrom_45 rfl rfl ?_
  refine jg_3_5 (pc := 46) dX2_copyFrom_46 (hC (3, k) (decide_eq_true hk)) tw_141 ?_
  refine j_iconst (pc := 49) dX2_copyFrom_49 jci_0 ?_
  refine j_iconst (pc := 50) dX2_copyFrom_50 jci_3 ?_
  obtain ⟨S6, eS6, h⟩ := jlk h
  refine j_cp (pc := 51) dX2_copyFrom_51 tw_455 (by simp) rfl (hC (20, k2) (decide_eq_true hk2)) rfl (hC (20, k) (decide_eq_true hk)) (by decide) (by decide) (by decide) (by decide +kernel) (by decide +kernel) (by simp [Value.category]) eS6 ?_
  refine j_aload_n (pc := 54) 1 dX2_copyFrom_54 rfl rfl ?_
  refine jg_3_6 (pc := 55) dX2_copyFrom_55 (hC (3, k2) (decide_eq_true hk2)) tw_144 ?_
  refine j_iconst (pc := 58) dX2_copyFrom_58 jci_0 ?_
  refine j_aload_n (pc := 59) 0 dX2_copyFrom_59 rfl rfl ?_
  refine jg_3_6 (pc := 60) dX2_copyFrom_60 (hC (3, k) (decide_eq_true hk)) tw_144 ?_
  refine j_iconst (pc := 63) dX2_copyFrom_63 jci_0 ?_
  refine j_bipush (pc := 64) dX2_copyFrom_64 jcb_10 ?_
  obtain ⟨S7, eS7, h⟩ := jlk h
  refine j_cp (pc := 66) dX2_copyFrom_66 tw_455 (by simp) rfl (hC (21, k2) (decide_eq_true hk2)) rfl (hC (21, k) (decide_eq_true hk)) (by decide) (by decide) (by decide) (by decide +kernel) (by decide +kernel) (by simp [Value.category]) eS7 ?_
  refine j_aload_n (pc := 69) 1 dX2_copyFrom_69 rfl rfl ?_
  refine jg_3_7 (pc := 70) dX2_copyFrom_70 (hC (3, k2) (decide_eq_true hk2)) tw_149 ?_
  refine j_iconst (pc := 73) dX2_copyFrom_73 jci_0 ?_
  refine j_aload_n (pc := 74) 0 dX2_copyFrom_74 rfl rfl ?_
  refine jg_3_7 (pc := 75) dX2_copyFrom_75 (hC (3, k) (decide_eq_true hk)) tw_149 ?_
  refine j_iconst (pc := 78) dX2_copyFrom_78 jci_0 ?_
  refine j_bipush (pc := 79) dX2_copyFrom_79 jcb_10 ?_
  obtain ⟨S8, eS8, h⟩ := jlk h
  refine j_cp (pc := 81) dX2_copyFrom_81 tw_455 (by simp) rfl (hC (22, k2) (decide_eq_true hk2)) rfl (hC (22, k) (decide_eq_true hk)) (by decide) (by decide) (by decide) (by decide +kernel) (by decide +kernel) (by simp [Value.category]) eS8 ?_
  refine j_aload_n (pc := 84) 1 dX2_copyFrom_84 rfl rfl ?_
  refine jg_3_8 (pc := 85) dX2_copyFrom_85 (hC (3, k2) (decide_eq_true hk2)) tw_153 ?_
  refine j_iconst (pc := 88) dX2_copyFrom_88 jci_0 ?_
  refine j_aload_n (pc := 89) 0 dX2_copyFrom_89 rfl rfl ?_
  refine jg_3_8 (pc := 90) dX2_copyFrom_90 (hC (3, k) (decide_eq_true hk)) tw_153 ?_
  refine j_iconst (pc := 93) dX2_copyFrom_93 jci_0 ?_
  refine j_bipush (pc := 94) dX2_copyFrom_94 jcb_10 ?_
  obtain ⟨S9, eS9, h⟩ := jlk h
  refine j_cp (pc := 96) dX2_copyFrom_96 tw_455 (by simp) rfl (hC (23, k2) (decide_eq_true hk2)) rfl (hC (23, k) (decide_eq_true hk)) (by decide) (by decide) (by decide) (by decide +kernel) (by decide +kernel) (by simp [Value.category]) eS9 ?_
  refine j_aload_n (pc := 99) 1 dX2_copyFrom_99 rfl rfl ?_
  refine jg_3_9 (pc := 100) dX2_copyFrom_100 (hC (3, k2) (decide_eq_true hk2)) tw_157 ?_
  refine j_iconst (pc := 103) dX2_copyFrom_103 jci_0 ?_
  refine j_aload_n (pc := 104) 0 dX2_copyFrom_104 rfl rfl ?_
  refine jg_3_9 (pc := 105) dX2_copyFrom_105 (hC (3, k) (decide_eq_true hk)) tw_157 ?_
  refine j_iconst (pc := 108) dX2_copyFrom_108 jci_0 ?_
  refine j_bipush (pc := 109) dX2_copyFrom_109 jcb_10 ?_
  obtain ⟨S10, eS10, h⟩ := jlk h
  refine j_cp (pc := 111) dX2_copyFrom_111 tw_455 (by simp) rfl (hC (24, k2) (decide_eq_true hk2)) rfl (hC (24, k) (decide_eq_true hk)) (by decide) (by decide) (by decide) (by decide +kernel) (by decide +kernel) (by simp [Value.category]) eS10 ?_
  refine j_aload_n (pc := 114) 1 dX2_copyFrom_114 rfl rfl ?_
  refine jg_3_10 (pc := 115) dX2_copyFrom_115 (hC (3, k2) (decide_eq_true hk2)) tw_160 ?_
  refine j_iconst (pc := 118) dX2_copyFrom_118 jci_0 ?_
  refine j_aload_n (pc := 119) 0 dX2_copyFrom_119 rfl rfl ?_
  refine jg_3_10 (pc := 120) dX2_copyFrom_120 (hC (3, k) (decide_eq_true hk)) tw_160 ?_
  refine j_iconst (pc := 123) dX2_copyFrom_123 jci_0 ?_
  refine j_bipush (pc := 124) dX2_copyFrom_124 jcb_18 ?_
  obtain ⟨S11, eS11, h⟩ := jlk h
  refine j_cp (pc := 126) dX2_copyFrom_126 tw_455 (by simp) rfl (hC (25, k2) (decide_eq_true hk2)) rfl (hC (25, k) (decide_eq_true hk)) (by decide) (by decide) (by decide) (by decide +kernel) (by decide +kernel) (by simp [Value.category]) eS11 ?_
  refine j_aload_n (pc := 129) 1 dX2_copyFrom_129 rfl rfl ?_
  refine jg_3_11 (pc := 130) dX2_copyFrom_130 (hC (3, k2) (decide_eq_true hk2)) tw_163 ?_
  refine j_iconst (pc := 133) dX2_copyFrom_133 jci_0 ?_
  refine j_aload_n (pc := 134) 0 dX2_copyFrom_134 rfl rfl ?_
  refine jg_3_11 (pc := 135) dX2_copyFrom_135 (hC (3, k) (decide_eq_true hk)) tw_163 ?_
  refine j_iconst (pc := 138) dX2_copyFrom_138 jci_0 ?_
  refine j_bipush (pc := 139) dX2_copyFrom_139 jcb_18 ?_
  obtain ⟨S12, eS12, h⟩ := jlk h
  refine j_cp (pc := 141) dX2_copyFrom_141 tw_455 (by simp) rfl (hC (26, k2) (decide_eq_true hk2)) rfl (hC (26, k) (decide_eq_true hk)) (by decide) (by decide) (by decide) (by decide +kernel) (by decide +kernel) (by simp [Value.category]) eS12 ?_
  cases h
  exact j_vret (pc := 144) dX2_copyFrom_144 rfl
abbrev mX7_spot : jM := (yX7_spot, cX7_spot, 2, (some .int))
theorem okX7_spot : jOK mX7_spot 2 := ⟨by decide +kernel, tw_442, tw_69, by decide +kernel, by decide, by decide⟩
def fX7_spot  (S : jS) (x0 : Int32) (x1 : Int32) : Option (Int32 × jS) :=
  some ((x0 * (3 : Int32)) + x1, S)
set_option maxRecDepth 10000 in
set_option maxHeartbeats 4000000 in
theorem kX7_spot {E : jE} (hC : jHC E) {S : jS} {x0 : Int32} {x1 : Int32} {r : (Int32 × jS)} (h : fX7_spot  S x0 x1 = some r) : jMR E 1 mX7_spot [.int x0, .int x1] S [.int r.1] r.2 := by
  refine ⟨Nat.le_of_ble_eq_true rfl, ?_⟩
  show JR E 1 mX7_spot 0 [(0, .int x0), (1, .int x1)] [] S [.int r.1] r.2
  unfold fX7_spot at h
  refine j_iload_n (pc := 0) 0 dX7_spot_0 rfl rfl ?_
  refine j_iconst (pc := 1) dX7_spot_1 jci_3 ?_
  refine j_imul (pc := 2) dX7_spot_2 ?_
  refine j_iload_n (pc := 3) 1 dX7_spot_3 rfl rfl ?_
  refine j_iadd (pc := 4) dX7_spot_4 ?_
  cases h
  exact j_iret (pc := 5) dX7_spot_5 rfl rfl
abbrev mJ6_bitCount_0f7a4 : jM := (yJ6_bitCount_0f7a4, cJ6_bitCount_0f7a4, 1, (some .int))
theorem okJ6_bitCount_0f7a4 : jOK mJ6_bitCount_0f7a4 1 := ⟨by decide +kernel, tw_565, tw_85, by decide +kernel, by decide, by decide⟩
def fJ6_bitCount_0f7a4  (S : jS) (x0 : Int32) : Option (Int32 × jS) :=
  jlet (x0 - (((x0.toUInt32 >>> ((1 : Int32).toUInt32 &&& Int32.toUInt32 31)).toInt32) &&& (1431655765 : Int32))) fun v1 => jlet ((v1 &&& (858993459 : Int32)) + (((v1.toUInt32 >>> ((2 : Int32).toUInt32 &&& Int32.toUInt32 31)).toInt32) &&& (858993459 : Int32))) fun v2 => jlet ((v2 + ((v2.toUInt32 >>> ((4 : Int32).toUInt32 &&& Int32.toUInt32 31)).toInt32)) &&& (252645135 : Int32)) fun v3 => jlet (v3 + ((v3.toUInt32 >>> ((8 : Int32).toUInt32 &&& Int32.toUInt32 31)).toInt32)) fun v4 => jlet (v4 + ((v4.toUInt32 >>> ((16 : Int32).toUInt32 &&& Int32.toUInt32 31)).toInt32)) fun v5 => some (v5 &&& (63 : Int32), S)
set_option maxRecDepth 10000 in
set_option maxHeartbeats 4000000 in
theorem kJ6_bitCount_0f7a4 {E : jE}  {S : jS} {x0 : Int32} {r : (Int32 × jS)} (h : fJ6_bitCount_0f7a4  S x0 = some r) : jMR E 1 mJ6_bitCount_0f7a4 [.int x0] S [.int r.1] r.2 := by
  refine ⟨Nat.le_of_ble_eq_true rfl, ?_⟩
  show JR E 1 mJ6_bitCount_0f7a4 0 [(0, .int x0)] [] S [.int r.1] r.2
  unfold fJ6_bitCount_0f7a4 at h
  refine j_iload_n (pc := 0) 0 dJ6_bitCount_0f7a4_0 rfl rfl ?_
  refine j_iload_n (pc := 1) 0 dJ6_bitCount_0f7a4_1 rfl rfl ?_
  refine j_iconst (pc := 2) dJ6_bitCount_0f7a4_2 jci_1 ?_
  refine j_iushr (pc := 3) dJ6_bitCount_0f7a4_3 ?_
  refine j_ldcw (pc := 4) dJ6_bitCount_0f7a4_4 tw_566 ?_
  refine j_iand (pc := 7) dJ6_bitCount_0f7a4_7 ?_
  refine j_isub (pc := 8) dJ6_bitCount_0f7a4_8 ?_
  obtain ⟨v1, ev1, h⟩ := jlk h
  refine j_topi ev1 ?_
  refine j_istore_n (pc := 9) (lv' := [(0, .int v1)]) dJ6_bitCount_0f7a4_9 rfl (by decide) rfl ?_
  refine j_iload_n (pc := 10) 0 dJ6_bitCount_0f7a4_10 rfl rfl ?_
  refine j_ldcw (pc := 11) dJ6_bitCount_0f7a4_11 tw_567 ?_
  refine j_iand (pc := 14) dJ6_bitCount_0f7a4_14 ?_
  refine j_iload_n (pc := 15) 0 dJ6_bitCount_0f7a4_15 rfl rfl ?_
  refine j_iconst (pc := 16) dJ6_bitCount_0f7a4_16 jci_2 ?_
  refine j_iushr (pc := 17) dJ6_bitCount_0f7a4_17 ?_
  refine j_ldcw (pc := 18) dJ6_bitCount_0f7a4_18 tw_567 ?_
  refine j_iand (pc := 21) dJ6_bitCount_0f7a4_21 ?_
  refine j_iadd (pc := 22) dJ6_bitCount_0f7a4_22 ?_
  obtain ⟨v2, ev2, h⟩ := jlk h
  refine j_topi ev2 ?_
  refine j_istore_n (pc := 23) (lv' := [(0, .int v2)]) dJ6_bitCount_0f7a4_23 rfl (by decide) rfl ?_
  refine j_iload_n (pc := 24) 0 dJ6_bitCount_0f7a4_24 rfl rfl ?_
  refine j_iload_n (pc := 25) 0 dJ6_bitCount_0f7a4_25 rfl rfl ?_
  refine j_iconst (pc := 26) dJ6_bitCount_0f7a4_26 jci_4 ?_
  refine j_iushr (pc := 27) dJ6_bitCount_0f7a4_27 ?_
  refine j_iadd (pc := 28) dJ6_bitCount_0f7a4_28 ?_
  refine j_ldcw (pc := 29) dJ6_bitCount_0f7a4_29 tw_568 ?_
  refine j_iand (pc := 32) dJ6_bitCount_0f7a4_32 ?_
  obtain ⟨v3, ev3, h⟩ := jlk h
  refine j_topi ev3 ?_
  refine j_istore_n (pc := 33) (lv' := [(0, .int v3)]) dJ6_bitCount_0f7a4_33 rfl (by decide) rfl ?_
  refine j_iload_n (pc := 34) 0 dJ6_bitCount_0f7a4_34 rfl rfl ?_
  refine j_iload_n (pc := 35) 0 dJ6_bitCount_0f7a4_35 rfl rfl ?_
  refine j_bipush (pc := 36) dJ6_bitCount_0f7a4_36 jcb_8 ?_
  refine j_iushr (pc := 38) dJ6_bitCount_0f7a4_38 ?_
  refine j_iadd (pc := 39) dJ6_bitCount_0f7a4_39 ?_
  obtain ⟨v4, ev4, h⟩ := jlk h
  refine j_topi ev4 ?_
  refine j_istore_n (pc := 40) (lv' := [(0, .int v4)]) dJ6_bitCount_0f7a4_40 rfl (by decide) rfl ?_
  refine j_iload_n (pc := 41) 0 dJ6_bitCount_0f7a4_41 rfl rfl ?_
  refine j_iload_n (pc := 42) 0 dJ6_bitCount_0f7a4_42 rfl rfl ?_
  refine j_bipush (pc := 43) dJ6_bitCount_0f7a4_43 jcb_16 ?_
  refine j_iushr (pc := 45) dJ6_bitCount_0f7a4_45 ?_
  refine j_iadd (pc := 46) dJ6_bitCount_0f7a4_46 ?_
  obtain ⟨v5, ev5, h⟩ := jlk h
  refine j_topi ev5 ?_
  refine j_istore_n (pc := 47) (lv' := [(0, .int v5)]) dJ6_bitCount_0f7a4_47 rfl (by decide) rfl ?_
  refine j_iload_n (pc := 48) 0 dJ6_bitCount_0f7a4_48 rfl rfl ?_
  refine j_bipush (pc := 49) dJ6_bitCount_0f7a4_49 jcb_63 ?_
  refine j_iand (pc := 51) dJ6_bitCount_0f7a4_51 ?_
  cases h
  exact j_iret (pc := 52) dJ6_bitCount_0f7a4_52 rfl rfl
abbrev mX2_biasAt : jM := (yX2_biasAt, cX2_biasAt, 2, (some .int))
theorem okX2_biasAt : jOK mX2_biasAt 1 := ⟨by decide +kernel, tw_613, tw_72, by decide +kernel, by decide, by decide⟩
def fX2_biasAt (k : Nat) (S : jS) (x1 : Int32) : Option (Int32 × jS) :=
  if jIn x1 18 then some ((S.1 (5, k)) * (S.2 (26, k) x1.toNatClampNeg), S) else none
set_option maxRecDepth 10000 in
set_option maxHeartbeats 4000000 in
theorem kX2_biasAt {E : jE} (hC : jHC E) {k : Nat} (hk : k < 6) {S : jS} {x1 : Int32} {r : (Int32 × jS)} (h : fX2_biasAt k S x1 = some r) : jMR E 1 mX2_biasAt [.ref (E.1 (3, k)), .int x1] S [.int r.1] r.2 := by
  refine ⟨Nat.le_of_ble_eq_true rfl, ?_⟩
  show JR E 1 mX2_biasAt 0 [(0, .ref (E.1 (3, k))), (1, .int x1)] [] S [.int r.1] r.2
  unfold fX2_biasAt at h
  refine j_aload_n (pc := 0) 0 dX2_biasAt_0 rfl rfl ?_
  refine jg_3_4 (pc := 1) dX2_biasAt_1 (hC (3, k) (decide_eq_true hk)) tw_139 ?_
  refine j_aload_n (pc := 4) 0 dX2_biasAt_4 rfl rfl ?_
  refine jg_3_11 (pc := 5) dX2_biasAt_5 (hC (3, k) (decide_eq_true hk)) tw_163 ?_
  refine j_iload_n (pc := 8) 1 dX2_biasAt_8 rfl rfl ?_
  obtain ⟨c1, h⟩ := jchk h
  refine j_ia (pc := 9) dX2_biasAt_9 rfl (hC (26, k) (decide_eq_true hk)) c1 ?_
  refine j_imul (pc := 10) dX2_biasAt_10 ?_
  cases h
  exact j_iret (pc := 11) dX2_biasAt_11 rfl rfl
abbrev mJ7_fill_53178 : jM := (yJ7_fill_53178, cJ7_fill_53178, 4, none)
theorem okJ7_fill_53178 : jOK mJ7_fill_53178 2 := ⟨by decide +kernel, tw_377, tw_81, by decide +kernel, by decide, by decide⟩
def bJ7_fill_53178_5 (a : jR) (q5 : jS → Int32 → Int32 → Int32 → Option jS) (S : jS) (x1 : Int32) (x2 : Int32) (x3 : Int32) : Option jS :=
  (if x3 ≤ x2 then some S else if jIn x2 (jlen a.1) then jlet (jput S a (upd (S.2 a) x2.toNatClampNeg x1)) fun S4 => jlet (x2 + (1 : Int32)) fun v5 => q5 S4 x1 v5 x3 else none)
set_option maxRecDepth 10000 in
set_option maxHeartbeats 4000000 in
theorem lJ7_fill_53178_5 {E : jE} {a : jR} (ha : jIA E a) {q5 : jS → Int32 → Int32 → Int32 → Option jS} (H5 : ∀ {S : jS} {x1 : Int32} {x2 : Int32} {x3 : Int32} {r : jS}, q5 S x1 x2 x3 = some r → JR E 1 mJ7_fill_53178 5 [(0, .ref (E.1 a)), (1, .int x1), (2, .int x2), (3, .int x3)] [] S [] r) {S : jS} {x1 : Int32} {x2 : Int32} {x3 : Int32} {r : jS} (h : bJ7_fill_53178_5 a q5 S x1 x2 x3 = some r) : JR E 1 mJ7_fill_53178 5 [(0, .ref (E.1 a)), (1, .int x1), (2, .int x2), (3, .int x3)] [] S [] r := by
  unfold bJ7_fill_53178_5 at h
  refine j_iload_n (pc := 5) 2 dJ7_fill_53178_5 rfl rfl ?_
  refine j_iload_n (pc := 6) 3 dJ7_fill_53178_6 rfl rfl ?_
  refine j_icmp_ge (pc := 7) (tgt := 20) dJ7_fill_53178_7 (by decide) (fun c2 => ?_) (fun c2 => ?_)
  · replace h := jite_t h c2
    cases h
    exact j_vret (pc := 20) dJ7_fill_53178_20 rfl
  · replace h := jite_f h c2
    refine j_aload_n (pc := 10) 0 dJ7_fill_53178_10 rfl rfl ?_
    refine j_iload_n (pc := 11) 2 dJ7_fill_53178_11 rfl rfl ?_
    refine j_iload_n (pc := 12) 1 dJ7_fill_53178_12 rfl rfl ?_
    obtain ⟨c3, h⟩ := jchk h
    obtain ⟨S4, eS4, h⟩ := jlk h
    refine j_isA (pc := 13) dJ7_fill_53178_13 ha c3 eS4 ?_
    obtain ⟨v5, ev5, h⟩ := jlk h
    refine j_iinc (pc := 14) (v := v5) (lv' := [(2, .int v5), (0, .ref (E.1 a)), (1, .int x1), (3, .int x3)]) 2 dJ7_fill_53178_14 rfl (by rw [ev5]; rfl) (by decide) rfl ?_
    refine j_goto (pc := 17) (tgt := 5) dJ7_fill_53178_17 (by decide) ?_
    exact j_sub [1, 2, 0, 3] rfl (H5 h)
def fJ7_fill_53178_5 (a : jR) : Nat → jS → Int32 → Int32 → Int32 → Option jS
  | 0 => fun _ _ _ _ => none
  | n + 1 => bJ7_fill_53178_5 a (fJ7_fill_53178_5 a n)
theorem kJ7_fill_53178_5 {E : jE} {a : jR} (ha : jIA E a) (fu : Nat) : ∀ {S : jS} {x1 : Int32} {x2 : Int32} {x3 : Int32} {r : jS}, fJ7_fill_53178_5 a fu S x1 x2 x3 = some r → JR E 1 mJ7_fill_53178 5 [(0, .ref (E.1 a)), (1, .int x1), (2, .int x2), (3, .int x3)] [] S [] r := by
  induction fu with
  | zero => intro S x1 x2 x3 r h; cases h
  | succ n_ ih => intro S x1 x2 x3 r h; exact lJ7_fill_53178_5 ha ih h
def fJ7_fill_53178 (a : jR) (S : jS) (x1 : Int32) : Option jS :=
  jlet (Int32.ofNat (jlen a.1)) fun v1 => fJ7_fill_53178_5 a 5000 S x1 (0 : Int32) v1
set_option maxRecDepth 10000 in
set_option maxHeartbeats 4000000 in
theorem kJ7_fill_53178 {E : jE} {a : jR} (ha : jIA E a) {S : jS} {x1 : Int32} {r : jS} (h : fJ7_fill_53178 a S x1 = some r) : jMR E 1 mJ7_fill_53178 [.ref (E.1 a), .int x1] S [] r := by
  refine ⟨Nat.le_of_ble_eq_true rfl, ?_⟩
  show JR E 1 mJ7_fill_53178 0 [(0, .ref (E.1 a)), (1, .int x1)] [] S [] r
  unfold fJ7_fill_53178 at h
  refine j_iconst (pc := 0) dJ7_fill_53178_0 jci_0 ?_
  refine j_istore_n (pc := 1) (lv' := [(2, .int (0 : Int32)), (0, .ref (E.1 a)), (1, .int x1)]) dJ7_fill_53178_1 rfl (by decide) rfl ?_
  refine j_aload_n (pc := 2) 1 dJ7_fill_53178_2 rfl rfl ?_
  refine j_alA (pc := 3) dJ7_fill_53178_3 ha ?_
  obtain ⟨v1, ev1, h⟩ := jlk h
  refine j_topi ev1 ?_
  refine j_istore_n (pc := 4) (lv' := [(3, .int v1), (2, .int (0 : Int32)), (0, .ref (E.1 a)), (1, .int x1)]) dJ7_fill_53178_4 rfl (by decide) rfl ?_
  exact j_sub [2, 3, 1, 0] rfl (kJ7_fill_53178_5 ha 5000 h)
abbrev mX2_clear : jM := (yX2_clear, cX2_clear, 1, none)
theorem okX2_clear : jOK mX2_clear 0 := ⟨by decide +kernel, tw_374, tw_72, by decide +kernel, by decide, by decide⟩
def fX2_clear (k : Nat) (S : jS) : Option jS :=
  jlet (jset S (1, k) (0 : Int32)) fun S1 => jlet (jset S1 (2, k) (0 : Int32)) fun S2 => jlet (jset S2 (3, k) (0 : Int32)) fun S3 => jlet (jset S3 (4, k) (0 : Int32)) fun S4 => jlet (jset S4 (5, k) (0 : Int32)) fun S5 => (fJ7_fill_53178 (24, k) S5 (0 : Int32)).bind fun y6 => (fJ7_fill_53178 (25, k) y6 (0 : Int32)).bind fun y7 => some y7
set_option maxRecDepth 10000 in
set_option maxHeartbeats 4000000 in
theorem kX2_clear {E : jE} (hC : jHC E) {k : Nat} (hk : k < 6) {S : jS} {r : jS} (h : fX2_clear k S = some r) : jMR E 2 mX2_clear [.ref (E.1 (3, k))] S [] r := by
  refine ⟨Nat.le_of_ble_eq_true rfl, ?_⟩
  show JR E 2 mX2_clear 0 [(0, .ref (E.1 (3, k)))] [] S [] r
  unfold fX2_clear at h
  refine j_aload_n (pc := 0) 0 dX2_clear_0 rfl rfl ?_
  refine j_iconst (pc := 1) dX2_clear_1 jci_0 ?_
  obtain ⟨S1, eS1, h⟩ := jlk h
  refine jp_1 (pc := 2) dX2_clear_2 (hC (3, k) (decide_eq_true hk)) tw_125 eS1 ?_
  refine j_aload_n (pc := 5) 0 dX2_clear_5 rfl rfl ?_
  refine j_iconst (pc := 6) dX2_clear_6 jci_0 ?_
  obtain ⟨S2, eS2, h⟩ := jlk h
  refine jp_2 (pc := 7) dX2_clear_7 (hC (3, k) (decide_eq_true hk)) tw_128 eS2 ?_
  refine j_aload_n (pc := 10) 0 dX2_clear_10 rfl rfl ?_
  refine j_iconst (pc := 11) dX2_clear_11 jci_0 ?_
  obtain ⟨S3, eS3, h⟩ := jlk h
  refine jp_3 (pc := 12) dX2_clear_12 (hC (3, k) (decide_eq_true hk)) tw_133 eS3 ?_
  refine j_aload_n (pc := 15) 0 dX2_clear_15 rfl rfl ?_
  refine j_iconst (pc := 16) dX2_clear_16 jci_0 ?_
  obtain ⟨S4, eS4, h⟩ := jlk h
  refine jp_4 (pc := 17) dX2_clear_17 (hC (3, k) (decide_eq_true hk)) tw_136 eS4 ?_
  refine j_aload_n (pc := 20) 0 dX2_clear_20 rfl rfl ?_
  refine j_iconst (pc := 21) dX2_clear_21 jci_0 ?_
  obtain ⟨S5, eS5, h⟩ := jlk h
  refine jp_5 (pc := 22) dX2_clear_22 (hC (3, k) (decide_eq_true hk)) tw_139 eS5 ?_
  refine j_aload_n (pc := 25) 0 dX2_clear_25 rfl rfl ?_
  refine jg_3_9 (pc := 26) dX2_clear_26 (hC (3, k) (decide_eq_true hk)) tw_157 ?_
  refine j_iconst (pc := 29) dX2_clear_29 jci_0 ?_
  obtain ⟨y6, hy6, h⟩ := jbnd h
  refine j_callS (pc := 30) (N := mJ7_fill_53178) (As := [.ref (E.1 (24, k)), .int (0 : Int32)]) (rest := []) (v := []) (S1 := y6) dX2_clear_30 (kJ7_fill_53178 ⟨rfl, (hC (24, k) (decide_eq_true hk))⟩ hy6) (by simp) (by decide) okJ7_fill_53178 tw_376 tw_375 rfl rfl (by simp [Value.category]) ?_
  refine j_aload_n (pc := 33) 0 dX2_clear_33 rfl rfl ?_
  refine jg_3_10 (pc := 34) dX2_clear_34 (hC (3, k) (decide_eq_true hk)) tw_160 ?_
  refine j_iconst (pc := 37) dX2_clear_37 jci_0 ?_
  obtain ⟨y7, hy7, h⟩ := jbnd h
  refine j_callS (pc := 38) (N := mJ7_fill_53178) (As := [.ref (E.1 (25, k)), .int (0 : Int32)]) (rest := []) (v := []) (S1 := y7) dX2_clear_38 (kJ7_fill_53178 ⟨rfl, (hC (25, k) (decide_eq_true hk))⟩ hy7) (by simp) (by decide) okJ7_fill_53178 tw_376 tw_375 rfl rfl (by simp [Value.category]) ?_
  cases h
  exact j_vret (pc := 41) dX2_clear_41 rfl
abbrev mX2_hasNode : jM := (yX2_hasNode, cX2_hasNode, 2, (some .boolean))
theorem okX2_hasNode : jOK mX2_hasNode 1 := ⟨by decide +kernel, tw_407, tw_72, by decide +kernel, by decide, by decide⟩
def fX2_hasNode (k : Nat) (S : jS) (x1 : Int32) : Option (Int32 × jS) :=
  (if x1 < 0 then some ((0 : Int32), S) else (if (S.1 (1, k)) ≤ x1 then some ((0 : Int32), S) else some ((1 : Int32), S)))
set_option maxRecDepth 10000 in
set_option maxHeartbeats 4000000 in
theorem kX2_hasNode {E : jE} (hC : jHC E) {k : Nat} (hk : k < 6) {S : jS} {x1 : Int32} {r : (Int32 × jS)} (h : fX2_hasNode k S x1 = some r) : jMR E 1 mX2_hasNode [.ref (E.1 (3, k)), .int x1] S [.int r.1] r.2 := by
  refine ⟨Nat.le_of_ble_eq_true rfl, ?_⟩
  show JR E 1 mX2_hasNode 0 [(0, .ref (E.1 (3, k))), (1, .int x1)] [] S [.int r.1] r.2
  unfold fX2_hasNode at h
  refine j_iload_n (pc := 0) 1 dX2_hasNode_0 rfl rfl ?_
  refine j_if_lt (pc := 1) (tgt := 16) dX2_hasNode_1 (by decide) (fun c1 => ?_) (fun c1 => ?_)
  · replace h := jite_t h c1
    refine j_iconst (pc := 16) dX2_hasNode_16 jci_0 ?_
    cases h
    exact j_iret (pc := 17) dX2_hasNode_17 rfl rfl
  · replace h := jite_f h c1
    refine j_iload_n (pc := 4) 1 dX2_hasNode_4 rfl rfl ?_
    refine j_aload_n (pc := 5) 0 dX2_hasNode_5 rfl rfl ?_
    refine jg_3_0 (pc := 6) dX2_hasNode_6 (hC (3, k) (decide_eq_true hk)) tw_125 ?_
    refine j_icmp_ge (pc := 9) (tgt := 16) dX2_hasNode_9 (by decide) (fun c2 => ?_) (fun c2 => ?_)
    · replace h := jite_t h c2
      refine j_iconst (pc := 16) dX2_hasNode_16 jci_0 ?_
      cases h
      exact j_iret (pc := 17) dX2_hasNode_17 rfl rfl
    · replace h := jite_f h c2
      refine j_iconst (pc := 12) dX2_hasNode_12 jci_1 ?_
      refine j_goto (pc := 13) (tgt := 17) dX2_hasNode_13 (by decide) ?_
      cases h
      exact j_iret (pc := 17) dX2_hasNode_17 rfl rfl
abbrev mX2_hasGoal : jM := (yX2_hasGoal, cX2_hasGoal, 2, (some .boolean))
theorem okX2_hasGoal : jOK mX2_hasGoal 1 := ⟨by decide +kernel, tw_439, tw_72, by decide +kernel, by decide, by decide⟩
def fX2_hasGoal (k : Nat) (S : jS) (x1 : Int32) : Option (Int32 × jS) :=
  (if x1 < 0 then some ((0 : Int32), S) else (if (S.1 (2, k)) ≤ x1 then some ((0 : Int32), S) else some ((1 : Int32), S)))
set_option maxRecDepth 10000 in
set_option maxHeartbeats 4000000 in
theorem kX2_hasGoal {E : jE} (hC : jHC E) {k : Nat} (hk : k < 6) {S : jS} {x1 : Int32} {r : (Int32 × jS)} (h : fX2_hasGoal k S x1 = some r) : jMR E 1 mX2_hasGoal [.ref (E.1 (3, k)), .int x1] S [.int r.1] r.2 := by
  refine ⟨Nat.le_of_ble_eq_true rfl, ?_⟩
  show JR E 1 mX2_hasGoal 0 [(0, .ref (E.1 (3, k))), (1, .int x1)] [] S [.int r.1] r.2
  unfold fX2_hasGoal at h
  refine j_iload_n (pc := 0) 1 dX2_hasGoal_0 rfl rfl ?_
  refine j_if_lt (pc := 1) (tgt := 16) dX2_hasGoal_1 (by decide) (fun c1 => ?_) (fun c1 => ?_)
  · replace h := jite_t h c1
    refine j_iconst (pc := 16) dX2_hasGoal_16 jci_0 ?_
    cases h
    exact j_iret (pc := 17) dX2_hasGoal_17 rfl rfl
  · replace h := jite_f h c1
    refine j_iload_n (pc := 4) 1 dX2_hasGoal_4 rfl rfl ?_
    refine j_aload_n (pc := 5) 0 dX2_hasGoal_5 rfl rfl ?_
    refine jg_3_1 (pc := 6) dX2_hasGoal_6 (hC (3, k) (decide_eq_true hk)) tw_128 ?_
    refine j_icmp_ge (pc := 9) (tgt := 16) dX2_hasGoal_9 (by decide) (fun c2 => ?_) (fun c2 => ?_)
    · replace h := jite_t h c2
      refine j_iconst (pc := 16) dX2_hasGoal_16 jci_0 ?_
      cases h
      exact j_iret (pc := 17) dX2_hasGoal_17 rfl rfl
    · replace h := jite_f h c2
      refine j_iconst (pc := 12) dX2_hasGoal_12 jci_1 ?_
      refine j_goto (pc := 13) (tgt := 17) dX2_hasGoal_13 (by decide) ?_
      cases h
      exact j_iret (pc := 17) dX2_hasGoal_17 rfl rfl
abbrev mX2_hasLink : jM := (yX2_hasLink, cX2_hasLink, 2, (some .boolean))
theorem okX2_hasLink : jOK mX2_hasLink 1 := ⟨by decide +kernel, tw_419, tw_72, by decide +kernel, by decide, by decide⟩
def fX2_hasLink (k : Nat) (S : jS) (x1 : Int32) : Option (Int32 × jS) :=
  (if x1 < 0 then some ((0 : Int32), S) else (if (S.1 (3, k)) ≤ x1 then some ((0 : Int32), S) else some ((1 : Int32), S)))
set_option maxRecDepth 10000 in
set_option maxHeartbeats 4000000 in
theorem kX2_hasLink {E : jE} (hC : jHC E) {k : Nat} (hk : k < 6) {S : jS} {x1 : Int32} {r : (Int32 × jS)} (h : fX2_hasLink k S x1 = some r) : jMR E 1 mX2_hasLink [.ref (E.1 (3, k)), .int x1] S [.int r.1] r.2 := by
  refine ⟨Nat.le_of_ble_eq_true rfl, ?_⟩
  show JR E 1 mX2_hasLink 0 [(0, .ref (E.1 (3, k))), (1, .int x1)] [] S [.int r.1] r.2
  unfold fX2_hasLink at h
  refine j_iload_n (pc := 0) 1 dX2_hasLink_0 rfl rfl ?_
  refine j_if_lt (pc := 1) (tgt := 16) dX2_hasLink_1 (by decide) (fun c1 => ?_) (fun c1 => ?_)
  · replace h := jite_t h c1
    refine j_iconst (pc := 16) dX2_hasLink_16 jci_0 ?_
    cases h
    exact j_iret (pc := 17) dX2_hasLink_17 rfl rfl
  · replace h := jite_f h c1
    refine j_iload_n (pc := 4) 1 dX2_hasLink_4 rfl rfl ?_
    refine j_aload_n (pc := 5) 0 dX2_hasLink_5 rfl rfl ?_
    refine jg_3_2 (pc := 6) dX2_hasLink_6 (hC (3, k) (decide_eq_true hk)) tw_133 ?_
    refine j_icmp_ge (pc := 9) (tgt := 16) dX2_hasLink_9 (by decide) (fun c2 => ?_) (fun c2 => ?_)
    · replace h := jite_t h c2
      refine j_iconst (pc := 16) dX2_hasLink_16 jci_0 ?_
      cases h
      exact j_iret (pc := 17) dX2_hasLink_17 rfl rfl
    · replace h := jite_f h c2
      refine j_iconst (pc := 12) dX2_hasLink_12 jci_1 ?_
      refine j_goto (pc := 13) (tgt := 17) dX2_hasLink_13 (by decide) ?_
      cases h
      exact j_iret (pc := 17) dX2_hasLink_17 rfl rfl
abbrev mX2_hasQueue : jM := (yX2_hasQueue, cX2_hasQueue, 3, (some .boolean))
theorem okX2_hasQueue : jOK mX2_hasQueue 2 := ⟨by decide +kernel, tw_435, tw_72, by decide +kernel, by decide, by decide⟩
def fX2_hasQueue (k : Nat) (S : jS) (x1 : Int32) (x2 : Int32) : Option (Int32 × jS) :=
  (fX2_hasNode k S x1).bind fun y1 => (if y1.1 = 0 then some ((0 : Int32), y1.2) else (fX2_hasGoal k y1.2 x2).bind fun y3 => (if y3.1 = 0 then some ((0 : Int32), y3.2) else if jIn x2 3 then (if (y3.2.2 (20, k) x2.toNatClampNeg) = x1 then some ((0 : Int32), y3.2) else some ((1 : Int32), y3.2)) else none))
set_option maxRecDepth 10000 in
set_option maxHeartbeats 4000000 in
theorem kX2_hasQueue {E : jE} (hC : jHC E) {k : Nat} (hk : k < 6) {S : jS} {x1 : Int32} {x2 : Int32} {r : (Int32 × jS)} (h : fX2_hasQueue k S x1 x2 = some r) : jMR E 2 mX2_hasQueue [.ref (E.1 (3, k)), .int x1, .int x2] S [.int r.1] r.2 := by
  refine ⟨Nat.le_of_ble_eq_true rfl, ?_⟩
  show JR E 2 mX2_hasQueue 0 [(0, .ref (E.1 (3, k))), (1, .int x1), (2, .int x2)] [] S [.int r.1] r.2
  unfold fX2_hasQueue at h
  refine j_aload_n (pc := 0) 0 dX2_hasQueue_0 rfl rfl ?_
  refine j_iload_n (pc := 1) 1 dX2_hasQueue_1 rfl rfl ?_
  obtain ⟨y1, hy1, h⟩ := jbnd h
  refine j_callV (pc := 2) (N := mX2_hasNode) (rr := (3, k)) (As := [.int x1]) (rest := []) (v := [.int y1.1]) (S1 := y1.2) dX2_hasQueue_2 (kX2_hasNode hC hk hy1) (by simp) (by decide) okX2_hasNode tw_405 tw_406 tw_404 (hC (3, k) (decide_eq_true hk)) rfl rfl rfl rfl (by simp [Value.category]) ?_
  refine j_if_eq (pc := 5) (tgt := 30) dX2_hasQueue_5 (by decide) (fun c2 => ?_) (fun c2 => ?_)
  · replace h := jite_t h c2
    refine j_iconst (pc := 30) dX2_hasQueue_30 jci_0 ?_
    cases h
    exact j_iret (pc := 31) dX2_hasQueue_31 rfl rfl
  · replace h := jite_f h c2
    refine j_aload_n (pc := 8) 0 dX2_hasQueue_8 rfl rfl ?_
    refine j_iload_n (pc := 9) 2 dX2_hasQueue_9 rfl rfl ?_
    obtain ⟨y3, hy3, h⟩ := jbnd h
    refine j_callV (pc := 10) (N := mX2_hasGoal) (rr := (3, k)) (As := [.int x2]) (rest := []) (v := [.int y3.1]) (S1 := y3.2) dX2_hasQueue_10 (kX2_hasGoal hC hk hy3) (by simp) (by decide) okX2_hasGoal tw_437 tw_438 tw_436 (hC (3, k) (decide_eq_true hk)) rfl rfl rfl rfl (by simp [Value.category]) ?_
    refine j_if_eq (pc := 13) (tgt := 30) dX2_hasQueue_13 (by decide) (fun c4 => ?_) (fun c4 => ?_)
    · replace h := jite_t h c4
      refine j_iconst (pc := 30) dX2_hasQueue_30 jci_0 ?_
      cases h
      exact j_iret (pc := 31) dX2_hasQueue_31 rfl rfl
    · replace h := jite_f h c4
      refine j_aload_n (pc := 16) 0 dX2_hasQueue_16 rfl rfl ?_
      refine jg_3_5 (pc := 17) dX2_hasQueue_17 (hC (3, k) (decide_eq_true hk)) tw_141 ?_
      refine j_iload_n (pc := 20) 2 dX2_hasQueue_20 rfl rfl ?_
      obtain ⟨c5, h⟩ := jchk h
      refine j_ia (pc := 21) dX2_hasQueue_21 rfl (hC (20, k) (decide_eq_true hk)) c5 ?_
      refine j_iload_n (pc := 22) 1 dX2_hasQueue_22 rfl rfl ?_
      refine j_icmp_eq (pc := 23) (tgt := 30) dX2_hasQueue_23 (by decide) (fun c6 => ?_) (fun c6 => ?_)
      · replace h := jite_t h c6
        refine j_iconst (pc := 30) dX2_hasQueue_30 jci_0 ?_
        cases h
        exact j_iret (pc := 31) dX2_hasQueue_31 rfl rfl
      · replace h := jite_f h c6
        refine j_iconst (pc := 26) dX2_hasQueue_26 jci_1 ?_
        refine j_goto (pc := 27) (tgt := 31) dX2_hasQueue_27 (by decide) ?_
        cases h
        exact j_iret (pc := 31) dX2_hasQueue_31 rfl rfl
abbrev mX2_doClash : jM := (yX2_doClash, cX2_doClash, 3, (some .boolean))
theorem okX2_doClash : jOK mX2_doClash 2 := ⟨by decide +kernel, tw_423, tw_72, by decide +kernel, by decide, by decide⟩
def fX2_doClash (k : Nat) (S : jS) (x1 : Int32) (x2 : Int32) : Option (Int32 × jS) :=
  if jIn x1 10 then (if (((S.2 (24, k) x1.toNatClampNeg) >>> (x2 &&& 31)) &&& (1 : Int32)) = (1 : Int32) then some ((1 : Int32), S) else some ((0 : Int32), S)) else none
set_option maxRecDepth 10000 in
set_option maxHeartbeats 4000000 in
theorem kX2_doClash {E : jE} (hC : jHC E) {k : Nat} (hk : k < 6) {S : jS} {x1 : Int32} {x2 : Int32} {r : (Int32 × jS)} (h : fX2_doClash k S x1 x2 = some r) : jMR E 1 mX2_doClash [.ref (E.1 (3, k)), .int x1, .int x2] S [.int r.1] r.2 := by
  refine ⟨Nat.le_of_ble_eq_true rfl, ?_⟩
  show JR E 1 mX2_doClash 0 [(0, .ref (E.1 (3, k))), (1, .int x1), (2, .int x2)] [] S [.int r.1] r.2
  unfold fX2_doClash at h
  refine j_aload_n (pc := 0) 0 dX2_doClash_0 rfl rfl ?_
  refine jg_3_9 (pc := 1) dX2_doClash_1 (hC (3, k) (decide_eq_true hk)) tw_157 ?_
  refine j_iload_n (pc := 4) 1 dX2_doClash_4 rfl rfl ?_
  obtain ⟨c1, h⟩ := jchk h
  refine j_ia (pc := 5) dX2_doClash_5 rfl (hC (24, k) (decide_eq_true hk)) c1 ?_
  refine j_iload_n (pc := 6) 2 dX2_doClash_6 rfl rfl ?_
  refine j_ishr (pc := 7) dX2_doClash_7 ?_
  refine j_iconst (pc := 8) dX2_doClash_8 jci_1 ?_
  refine j_iand (pc := 9) dX2_doClash_9 ?_
  refine j_iconst (pc := 10) dX2_doClash_10 jci_1 ?_
  refine j_icmp_ne (pc := 11) (tgt := 18) dX2_doClash_11 (by decide) (fun c2 => ?_) (fun c2 => ?_)
  · replace h := jite_f h c2
    refine j_iconst (pc := 18) dX2_doClash_18 jci_0 ?_
    cases h
    exact j_iret (pc := 19) dX2_doClash_19 rfl rfl
  · replace h := jite_t h c2
    refine j_iconst (pc := 14) dX2_doClash_14 jci_1 ?_
    refine j_goto (pc := 15) (tgt := 19) dX2_doClash_15 (by decide) ?_
    cases h
    exact j_iret (pc := 19) dX2_doClash_19 rfl rfl
abbrev mX2_turnClash : jM := (yX2_turnClash, cX2_turnClash, 3, none)
theorem okX2_turnClash : jOK mX2_turnClash 2 := ⟨by decide +kernel, tw_427, tw_72, by decide +kernel, by decide, by decide⟩
def fX2_turnClash (k : Nat) (S : jS) (x1 : Int32) (x2 : Int32) : Option jS :=
  if jIn x1 10 then if jIn x1 10 then jlet (jput S (24, k) (upd (S.2 (24, k)) x1.toNatClampNeg ((S.2 (24, k) x1.toNatClampNeg) ^^^ ((1 : Int32) <<< (x2 &&& 31))))) fun S3 => if jIn x2 10 then if jIn x2 10 then jlet (jput S3 (24, k) (upd (S3.2 (24, k)) x2.toNatClampNeg ((S3.2 (24, k) x2.toNatClampNeg) ^^^ ((1 : Int32) <<< (x1 &&& 31))))) fun S6 => some S6 else none else none else none else none
set_option maxRecDepth 10000 in
set_option maxHeartbeats 4000000 in
theorem kX2_turnClash {E : jE} (hC : jHC E) {k : Nat} (hk : k < 6) {S : jS} {x1 : Int32} {x2 : Int32} {r : jS} (h : fX2_turnClash k S x1 x2 = some r) : jMR E 1 mX2_turnClash [.ref (E.1 (3, k)), .int x1, .int x2] S [] r := by
  refine ⟨Nat.le_of_ble_eq_true rfl, ?_⟩
  show JR E 1 mX2_turnClash 0 [(0, .ref (E.1 (3, k))), (1, .int x1), (2, .int x2)] [] S [] r
  unfold fX2_turnClash at h
  refine j_aload_n (pc := 0) 0 dX2_turnClash_0 rfl rfl ?_
  refine jg_3_9 (pc := 1) dX2_turnClash_1 (hC (3, k) (decide_eq_true hk)) tw_157 ?_
  refine j_iload_n (pc := 4) 1 dX2_turnClash_4 rfl rfl ?_
  refine j_dup2 (pc := 5) dX2_turnClash_5 rfl rfl ?_
  obtain ⟨c1, h⟩ := jchk h
  refine j_ia (pc := 6) dX2_turnClash_6 rfl (hC (24, k) (decide_eq_true hk)) c1 ?_
  refine j_iconst (pc := 7) dX2_turnClash_7 jci_1 ?_
  refine j_iload_n (pc := 8) 2 dX2_turnClash_8 rfl rfl ?_
  refine j_ishl (pc := 9) dX2_turnClash_9 ?_
  refine j_ixor (pc := 10) dX2_turnClash_10 ?_
  obtain ⟨c2, h⟩ := jchk h
  obtain ⟨S3, eS3, h⟩ := jlk h
  refine j_is (pc := 11) dX2_turnClash_11 rfl (hC (24, k) (decide_eq_true hk)) c2 eS3 ?_
  refine j_aload_n (pc := 12) 0 dX2_turnClash_12 rfl rfl ?_
  refine jg_3_9 (pc := 13) dX2_turnClash_13 (hC (3, k) (decide_eq_true hk)) tw_157 ?_
  refine j_iload_n (pc := 16) 2 dX2_turnClash_16 rfl rfl ?_
  refine j_dup2 (pc := 17) dX2_turnClash_17 rfl rfl ?_
  obtain ⟨c4, h⟩ := jchk h
  refine j_ia (pc := 18) dX2_turnClash_18 rfl (hC (24, k) (decide_eq_true hk)) c4 ?_
  refine j_iconst (pc := 19) dX2_turnClash_19 jci_1 ?_
  refine j_iload_n (pc := 20) 1 dX2_turnClash_20 rfl rfl ?_
  refine j_ishl (pc := 21) dX2_turnClash_21 ?_
  refine j_ixor (pc := 22) dX2_turnClash_22 ?_
  obtain ⟨c5, h⟩ := jchk h
  obtain ⟨S6, eS6, h⟩ := jlk h
  refine j_is (pc := 23) dX2_turnClash_23 rfl (hC (24, k) (decide_eq_true hk)) c5 eS6 ?_
  cases h
  exact j_vret (pc := 24) dX2_turnClash_24 rfl
abbrev mX2_pairs : jM := (yX2_pairs, cX2_pairs, 3, (some .int))
theorem okX2_pairs : jOK mX2_pairs 0 := ⟨by decide +kernel, tw_562, tw_72, by decide +kernel, by decide, by decide⟩
def bX2_pairs_4 (k : Nat) (q4 : jS → Int32 → Int32 → Option (Int32 × jS)) (S : jS) (x1 : Int32) (x2 : Int32) : Option (Int32 × jS) :=
  (if (S.1 (3, k)) ≤ x2 then some (x1 / (2 : Int32), S) else if jIn x2 10 then (fJ6_bitCount_0f7a4 S (S.2 (24, k) x2.toNatClampNeg)).bind fun y3 => jlet (x1 + y3.1) fun v4 => jlet (x2 + (1 : Int32)) fun v5 => q4 (y3.2) v4 v5 else none)
set_option maxRecDepth 10000 in
set_option maxHeartbeats 4000000 in
theorem lX2_pairs_4 {E : jE} (hC : jHC E) {k : Nat} (hk : k < 6) {q4 : jS → Int32 → Int32 → Option (Int32 × jS)} (H4 : ∀ {S : jS} {x1 : Int32} {x2 : Int32} {r : (Int32 × jS)}, q4 S x1 x2 = some r → JR E 2 mX2_pairs 4 [(0, .ref (E.1 (3, k))), (1, .int x1), (2, .int x2)] [] S [.int r.1] r.2) {S : jS} {x1 : Int32} {x2 : Int32} {r : (Int32 × jS)} (h : bX2_pairs_4 k q4 S x1 x2 = some r) : JR E 2 mX2_pairs 4 [(0, .ref (E.1 (3, k))), (1, .int x1), (2, .int x2)] [] S [.int r.1] r.2 := by
  unfold bX2_pairs_4 at h
  refine j_iload_n (pc := 4) 2 dX2_pairs_4 rfl rfl ?_
  refine j_aload_n (pc := 5) 0 dX2_pairs_5 rfl rfl ?_
  refine jg_3_2 (pc := 6) dX2_pairs_6 (hC (3, k) (decide_eq_true hk)) tw_133 ?_
  refine j_icmp_ge (pc := 9) (tgt := 30) dX2_pairs_9 (by decide) (fun c1 => ?_) (fun c1 => ?_)
  · replace h := jite_t h c1
    refine j_iload_n (pc := 30) 1 dX2_pairs_30 rfl rfl ?_
    refine j_iconst (pc := 31) dX2_pairs_31 jci_2 ?_
    refine j_idiv (pc := 32) dX2_pairs_32 (by decide) ?_
    cases h
    exact j_iret (pc := 33) dX2_pairs_33 rfl rfl
  · replace h := jite_f h c1
    refine j_iload_n (pc := 12) 1 dX2_pairs_12 rfl rfl ?_
    refine j_aload_n (pc := 13) 0 dX2_pairs_13 rfl rfl ?_
    refine jg_3_9 (pc := 14) dX2_pairs_14 (hC (3, k) (decide_eq_true hk)) tw_157 ?_
    refine j_iload_n (pc := 17) 2 dX2_pairs_17 rfl rfl ?_
    obtain ⟨c2, h⟩ := jchk h
    refine j_ia (pc := 18) dX2_pairs_18 rfl (hC (24, k) (decide_eq_true hk)) c2 ?_
    obtain ⟨y3, hy3, h⟩ := jbnd h
    refine j_callS (pc := 19) (N := mJ6_bitCount_0f7a4) (As := [.int (S.2 (24, k) x2.toNatClampNeg)]) (rest := [.int x1]) (v := [.int y3.1]) (S1 := y3.2) dX2_pairs_19 (kJ6_bitCount_0f7a4  hy3) (by simp) (by decide) okJ6_bitCount_0f7a4 tw_564 tw_563 rfl rfl (by simp [Value.category]) ?_
    refine j_iadd (pc := 22) dX2_pairs_22 ?_
    obtain ⟨v4, ev4, h⟩ := jlk h
    refine j_topi ev4 ?_
    refine j_istore_n (pc := 23) (lv' := [(1, .int v4), (0, .ref (E.1 (3, k))), (2, .int x2)]) dX2_pairs_23 rfl (by decide) rfl ?_
    obtain ⟨v5, ev5, h⟩ := jlk h
    refine j_iinc (pc := 24) (v := v5) (lv' := [(2, .int v5), (1, .int v4), (0, .ref (E.1 (3, k)))]) 2 dX2_pairs_24 rfl (by rw [ev5]; rfl) (by decide) rfl ?_
    refine j_goto (pc := 27) (tgt := 4) dX2_pairs_27 (by decide) ?_
    exact j_sub [2, 1, 0] rfl (H4 h)
def fX2_pairs_4 (k : Nat) : Nat → jS → Int32 → Int32 → Option (Int32 × jS)
  | 0 => fun _ _ _ => none
  | n + 1 => bX2_pairs_4 k (fX2_pairs_4 k n)
theorem kX2_pairs_4 {E : jE} (hC : jHC E) {k : Nat} (hk : k < 6) (fu : Nat) : ∀ {S : jS} {x1 : Int32} {x2 : Int32} {r : (Int32 × jS)}, fX2_pairs_4 k fu S x1 x2 = some r → JR E 2 mX2_pairs 4 [(0, .ref (E.1 (3, k))), (1, .int x1), (2, .int x2)] [] S [.int r.1] r.2 := by
  induction fu with
  | zero => intro S x1 x2 r h; cases h
  | succ n_ ih => intro S x1 x2 r h; exact lX2_pairs_4 hC hk ih h
def fX2_pairs (k : Nat) (S : jS) : Option (Int32 × jS) :=
  fX2_pairs_4 k 5000 S (0 : Int32) (0 : Int32)
set_option maxRecDepth 10000 in
set_option maxHeartbeats 4000000 in
theorem kX2_pairs {E : jE} (hC : jHC E) {k : Nat} (hk : k < 6) {S : jS} {r : (Int32 × jS)} (h : fX2_pairs k S = some r) : jMR E 2 mX2_pairs [.ref (E.1 (3, k))] S [.int r.1] r.2 := by
  refine ⟨Nat.le_of_ble_eq_true rfl, ?_⟩
  show JR E 2 mX2_pairs 0 [(0, .ref (E.1 (3, k)))] [] S [.int r.1] r.2
  unfold fX2_pairs at h
  refine j_iconst (pc := 0) dX2_pairs_0 jci_0 ?_
  refine j_istore_n (pc := 1) (lv' := [(1, .int (0 : Int32)), (0, .ref (E.1 (3, k)))]) dX2_pairs_1 rfl (by decide) rfl ?_
  refine j_iconst (pc := 2) dX2_pairs_2 jci_0 ?_
  refine j_istore_n (pc := 3) (lv' := [(2, .int (0 : Int32)), (1, .int (0 : Int32)), (0, .ref (E.1 (3, k)))]) dX2_pairs_3 rfl (by decide) rfl ?_
  exact j_sub [2, 1, 0] rfl (kX2_pairs_4 hC hk 5000 h)
abbrev mX7_within : jM := (yX7_within, cX7_within, 3, (some .boolean))
theorem okX7_within : jOK mX7_within 3 := ⟨by decide +kernel, tw_399, tw_69, by decide +kernel, by decide, by decide⟩
def fX7_within  (S : jS) (x0 : Int32) (x1 : Int32) (x2 : Int32) : Option (Int32 × jS) :=
  (if x0 < x1 then some ((0 : Int32), S) else (if x2 < x0 then some ((0 : Int32), S) else some ((1 : Int32), S)))
set_option maxRecDepth 10000 in
set_option maxHeartbeats 4000000 in
theorem kX7_within {E : jE} (hC : jHC E) {S : jS} {x0 : Int32} {x1 : Int32} {x2 : Int32} {r : (Int32 × jS)} (h : fX7_within  S x0 x1 x2 = some r) : jMR E 1 mX7_within [.int x0, .int x1, .int x2] S [.int r.1] r.2 := by
  refine ⟨Nat.le_of_ble_eq_true rfl, ?_⟩
  show JR E 1 mX7_within 0 [(0, .int x0), (1, .int x1), (2, .int x2)] [] S [.int r.1] r.2
  unfold fX7_within at h
  refine j_iload_n (pc := 0) 0 dX7_within_0 rfl rfl ?_
  refine j_iload_n (pc := 1) 1 dX7_within_1 rfl rfl ?_
  refine j_icmp_lt (pc := 2) (tgt := 14) dX7_within_2 (by decide) (fun c1 => ?_) (fun c1 => ?_)
  · replace h := jite_t h c1
    refine j_iconst (pc := 14) dX7_within_14 jci_0 ?_
    cases h
    exact j_iret (pc := 15) dX7_within_15 rfl rfl
  · replace h := jite_f h c1
    refine j_iload_n (pc := 5) 0 dX7_within_5 rfl rfl ?_
    refine j_iload_n (pc := 6) 2 dX7_within_6 rfl rfl ?_
    refine j_icmp_gt (pc := 7) (tgt := 14) dX7_within_7 (by decide) (fun c2 => ?_) (fun c2 => ?_)
    · replace h := jite_t h c2
      refine j_iconst (pc := 14) dX7_within_14 jci_0 ?_
      cases h
      exact j_iret (pc := 15) dX7_within_15 rfl rfl
    · replace h := jite_f h c2
      refine j_iconst (pc := 10) dX7_within_10 jci_1 ?_
      refine j_goto (pc := 11) (tgt := 15) dX7_within_11 (by decide) ?_
      cases h
      exact j_iret (pc := 15) dX7_within_15 rfl rfl
abbrev mX2_takeB : jM := (yX2_takeB, cX2_takeB, 2, (some .boolean))
theorem okX2_takeB : jOK mX2_takeB 1 := ⟨by decide +kernel, tw_446, tw_72, by decide +kernel, by decide, by decide⟩
def fX2_takeB (k : Nat) (S : jS) (x1 : Int32) : Option (Int32 × jS) :=
  (fX7_within S x1 (0 : Int32) (9 : Int32)).bind fun y1 => (if y1.1 = 0 then some ((0 : Int32), y1.2) else jlet (jset y1.2 (5, k) x1) fun S3 => some ((1 : Int32), S3))
set_option maxRecDepth 10000 in
set_option maxHeartbeats 4000000 in
theorem kX2_takeB {E : jE} (hC : jHC E) {k : Nat} (hk : k < 6) {S : jS} {x1 : Int32} {r : (Int32 × jS)} (h : fX2_takeB k S x1 = some r) : jMR E 2 mX2_takeB [.ref (E.1 (3, k)), .int x1] S [.int r.1] r.2 := by
  refine ⟨Nat.le_of_ble_eq_true rfl, ?_⟩
  show JR E 2 mX2_takeB 0 [(0, .ref (E.1 (3, k))), (1, .int x1)] [] S [.int r.1] r.2
  unfold fX2_takeB at h
  refine j_iload_n (pc := 0) 1 dX2_takeB_0 rfl rfl ?_
  refine j_iconst (pc := 1) dX2_takeB_1 jci_0 ?_
  refine j_bipush (pc := 2) dX2_takeB_2 jcb_9 ?_
  obtain ⟨y1, hy1, h⟩ := jbnd h
  refine j_callN (pc := 4) (N := mX7_within) (host := "DropQueues") (As := [.int x1, .int (0 : Int32), .int (9 : Int32)]) (rest := []) (v := [.int y1.1]) (S1 := y1.2) dX2_takeB_4 (kX7_within hC hy1) (by simp) (by decide) okX7_within tw_398 (by decide) rfl rfl (by simp [Value.category]) ?_
  refine j_if_ne (pc := 7) (tgt := 12) dX2_takeB_7 (by decide) (fun c2 => ?_) (fun c2 => ?_)
  · replace h := jite_f h c2
    refine j_aload_n (pc := 12) 0 dX2_takeB_12 rfl rfl ?_
    refine j_iload_n (pc := 13) 1 dX2_takeB_13 rfl rfl ?_
    obtain ⟨S3, eS3, h⟩ := jlk h
    refine jp_5 (pc := 14) dX2_takeB_14 (hC (3, k) (decide_eq_true hk)) tw_139 eS3 ?_
    refine j_iconst (pc := 17) dX2_takeB_17 jci_1 ?_
    cases h
    exact j_iret (pc := 18) dX2_takeB_18 rfl rfl
  · replace h := jite_t h c2
    refine j_iconst (pc := 10) dX2_takeB_10 jci_0 ?_
    cases h
    exact j_iret (pc := 11) dX2_takeB_11 rfl rfl
abbrev mX2_takeClash : jM := (yX2_takeClash, cX2_takeClash, 3, (some .boolean))
theorem okX2_takeClash : jOK mX2_takeClash 2 := ⟨by decide +kernel, tw_415, tw_72, by decide +kernel, by decide, by decide⟩
def fX2_takeClash (k : Nat) (S : jS) (x1 : Int32) (x2 : Int32) : Option (Int32 × jS) :=
  (fX2_hasLink k S x1).bind fun y1 => (if y1.1 = 0 then some ((0 : Int32), y1.2) else (fX2_hasLink k y1.2 x2).bind fun y3 => (if y3.1 = 0 then some ((0 : Int32), y3.2) else (if x1 = x2 then some ((0 : Int32), y3.2) else (fX2_doClash k y3.2 x1 x2).bind fun y6 => (if y6.1 = 0 then (fX2_turnClash k y6.2 x1 x2).bind fun y8 => some ((1 : Int32), y8) else some ((1 : Int32), y6.2)))))
set_option maxRecDepth 10000 in
set_option maxHeartbeats 4000000 in
theorem kX2_takeClash {E : jE} (hC : jHC E) {k : Nat} (hk : k < 6) {S : jS} {x1 : Int32} {x2 : Int32} {r : (Int32 × jS)} (h : fX2_takeClash k S x1 x2 = some r) : jMR E 2 mX2_takeClash [.ref (E.1 (3, k)), .int x1, .int x2] S [.int r.1] r.2 := by
  refine ⟨Nat.le_of_ble_eq_true rfl, ?_⟩
  show JR E 2 mX2_takeClash 0 [(0, .ref (E.1 (3, k))), (1, .int x1), (2, .int x2)] [] S [.int r.1] r.2
  unfold fX2_takeClash at h
  refine j_aload_n (pc := 0) 0 dX2_takeClash_0 rfl rfl ?_
  refine j_iload_n (pc := 1) 1 dX2_takeClash_1 rfl rfl ?_
  obtain ⟨y1, hy1, h⟩ := jbnd h
  refine j_callV (pc := 2) (N := mX2_hasLink) (rr := (3, k)) (As := [.int x1]) (rest := []) (v := [.int y1.1]) (S1 := y1.2) dX2_takeClash_2 (kX2_hasLink hC hk hy1) (by simp) (by decide) okX2_hasLink tw_417 tw_418 tw_416 (hC (3, k) (decide_eq_true hk)) rfl rfl rfl rfl (by simp [Value.category]) ?_
  refine j_if_eq (pc := 5) (tgt := 21) dX2_takeClash_5 (by decide) (fun c2 => ?_) (fun c2 => ?_)
  · replace h := jite_t h c2
    refine j_iconst (pc := 21) dX2_takeClash_21 jci_0 ?_
    cases h
    exact j_iret (pc := 22) dX2_takeClash_22 rfl rfl
  · replace h := jite_f h c2
    refine j_aload_n (pc := 8) 0 dX2_takeClash_8 rfl rfl ?_
    refine j_iload_n (pc := 9) 2 dX2_takeClash_9 rfl rfl ?_
    obtain ⟨y3, hy3, h⟩ := jbnd h
    refine j_callV (pc := 10) (N := mX2_hasLink) (rr := (3, k)) (As := [.int x2]) (rest := []) (v := [.int y3.1]) (S1 := y3.2) dX2_takeClash_10 (kX2_hasLink hC hk hy3) (by simp) (by decide) okX2_hasLink tw_417 tw_418 tw_416 (hC (3, k) (decide_eq_true hk)) rfl rfl rfl rfl (by simp [Value.category]) ?_
    refine j_if_eq (pc := 13) (tgt := 21) dX2_takeClash_13 (by decide) (fun c4 => ?_) (fun c4 => ?_)
    · replace h := jite_t h c4
      refine j_iconst (pc := 21) dX2_takeClash_21 jci_0 ?_
      cases h
      exact j_iret (pc := 22) dX2_takeClash_22 rfl rfl
    · replace h := jite_f h c4
      refine j_iload_n (pc := 16) 1 dX2_takeClash_16 rfl rfl ?_
      refine j_iload_n (pc := 17) 2 dX2_takeClash_17 rfl rfl ?_
      refine j_icmp_ne (pc := 18) (tgt := 23) dX2_takeClash_18 (by decide) (fun c5 => ?_) (fun c5 => ?_)
      · replace h := jite_f h c5
        refine j_aload_n (pc := 23) 0 dX2_takeClash_23 rfl rfl ?_
        refine j_iload_n (pc := 24) 1 dX2_takeClash_24 rfl rfl ?_
        refine j_iload_n (pc := 25) 2 dX2_takeClash_25 rfl rfl ?_
        obtain ⟨y6, hy6, h⟩ := jbnd h
        refine j_callV (pc := 26) (N := mX2_doClash) (rr := (3, k)) (As := [.int x1, .int x2]) (rest := []) (v := [.int y6.1]) (S1 := y6.2) dX2_takeClash_26 (kX2_doClash hC hk hy6) (by simp) (by decide) okX2_doClash tw_421 tw_422 tw_420 (hC (3, k) (decide_eq_true hk)) rfl rfl rfl rfl (by simp [Value.category]) ?_
        refine j_if_ne (pc := 29) (tgt := 38) dX2_takeClash_29 (by decide) (fun c7 => ?_) (fun c7 => ?_)
        · replace h := jite_f h c7
          refine j_iconst (pc := 38) dX2_takeClash_38 jci_1 ?_
          cases h
          exact j_iret (pc := 39) dX2_takeClash_39 rfl rfl
        · replace h := jite_t h c7
          refine j_aload_n (pc := 32) 0 dX2_takeClash_32 rfl rfl ?_
          refine j_iload_n (pc := 33) 1 dX2_takeClash_33 rfl rfl ?_
          refine j_iload_n (pc := 34) 2 dX2_takeClash_34 rfl rfl ?_
          obtain ⟨y8, hy8, h⟩ := jbnd h
          refine j_callV (pc := 35) (N := mX2_turnClash) (rr := (3, k)) (As := [.int x1, .int x2]) (rest := []) (v := []) (S1 := y8) dX2_takeClash_35 (kX2_turnClash hC hk hy8) (by simp) (by decide) okX2_turnClash tw_425 tw_426 tw_424 (hC (3, k) (decide_eq_true hk)) rfl rfl rfl rfl (by simp [Value.category]) ?_
          refine j_iconst (pc := 38) dX2_takeClash_38 jci_1 ?_
          cases h
          exact j_iret (pc := 39) dX2_takeClash_39 rfl rfl
      · replace h := jite_t h c5
        refine j_iconst (pc := 21) dX2_takeClash_21 jci_0 ?_
        cases h
        exact j_iret (pc := 22) dX2_takeClash_22 rfl rfl
abbrev mX2_takeFeed : jM := (yX2_takeFeed, cX2_takeFeed, 4, (some .boolean))
theorem okX2_takeFeed : jOK mX2_takeFeed 3 := ⟨by decide +kernel, tw_431, tw_72, by decide +kernel, by decide, by decide⟩
def fX2_takeFeed (k : Nat) (S : jS) (x1 : Int32) (x2 : Int32) (x3 : Int32) : Option (Int32 × jS) :=
  (fX2_hasQueue k S x1 x2).bind fun y1 => (if y1.1 = 0 then some ((0 : Int32), y1.2) else (fX7_within y1.2 x3 (0 : Int32) (9 : Int32)).bind fun y3 => (if y3.1 = 0 then some ((0 : Int32), y3.2) else (fX7_spot y3.2 x1 x2).bind fun y5 => if jIn y5.1 18 then jlet (jput y5.2 (25, k) (upd (y5.2.2 (25, k)) y5.1.toNatClampNeg x3)) fun S7 => some ((1 : Int32), S7) else none))
set_option maxRecDepth 10000 in
set_option maxHeartbeats 4000000 in
theorem kX2_takeFeed {E : jE} (hC : jHC E) {k : Nat} (hk : k < 6) {S : jS} {x1 : Int32} {x2 : Int32} {x3 : Int32} {r : (Int32 × jS)} (h : fX2_takeFeed k S x1 x2 x3 = some r) : jMR E 3 mX2_takeFeed [.ref (E.1 (3, k)), .int x1, .int x2, .int x3] S [.int r.1] r.2 := by
  refine ⟨Nat.le_of_ble_eq_true rfl, ?_⟩
  show JR E 3 mX2_takeFeed 0 [(0, .ref (E.1 (3, k))), (1, .int x1), (2, .int x2), (3, .int x3)] [] S [.int r.1] r.2
  unfold fX2_takeFeed at h
  refine j_aload_n (pc := 0) 0 dX2_takeFeed_0 rfl rfl ?_
  refine j_iload_n (pc := 1) 1 dX2_takeFeed_1 rfl rfl ?_
  refine j_iload_n (pc := 2) 2 dX2_takeFeed_2 rfl rfl ?_
  obtain ⟨y1, hy1, h⟩ := jbnd h
  refine j_callV (pc := 3) (N := mX2_hasQueue) (rr := (3, k)) (As := [.int x1, .int x2]) (rest := []) (v := [.int y1.1]) (S1 := y1.2) dX2_takeFeed_3 (kX2_hasQueue hC hk hy1) (by simp) (by decide) okX2_hasQueue tw_433 tw_434 tw_432 (hC (3, k) (decide_eq_true hk)) rfl rfl rfl rfl (by simp [Value.category]) ?_
  refine j_if_eq (pc := 6) (tgt := 19) dX2_takeFeed_6 (by decide) (fun c2 => ?_) (fun c2 => ?_)
  · replace h := jite_t h c2
    refine j_iconst (pc := 19) dX2_takeFeed_19 jci_0 ?_
    cases h
    exact j_iret (pc := 20) dX2_takeFeed_20 rfl rfl
  · replace h := jite_f h c2
    refine j_iload_n (pc := 9) 3 dX2_takeFeed_9 rfl rfl ?_
    refine j_iconst (pc := 10) dX2_takeFeed_10 jci_0 ?_
    refine j_bipush (pc := 11) dX2_takeFeed_11 jcb_9 ?_
    obtain ⟨y3, hy3, h⟩ := jbnd h
    refine j_callN (pc := 13) (N := mX7_within) (host := "DropQueues") (As := [.int x3, .int (0 : Int32), .int (9 : Int32)]) (rest := []) (v := [.int y3.1]) (S1 := y3.2) dX2_takeFeed_13 (kX7_within hC hy3) (by simp) (by decide) okX7_within tw_398 (by decide) rfl rfl (by simp [Value.category]) ?_
    refine j_if_ne (pc := 16) (tgt := 21) dX2_takeFeed_16 (by decide) (fun c4 => ?_) (fun c4 => ?_)
    · replace h := jite_f h c4
      refine j_aload_n (pc := 21) 0 dX2_takeFeed_21 rfl rfl ?_
      refine jg_3_10 (pc := 22) dX2_takeFeed_22 (hC (3, k) (decide_eq_true hk)) tw_160 ?_
      refine j_iload_n (pc := 25) 1 dX2_takeFeed_25 rfl rfl ?_
      refine j_iload_n (pc := 26) 2 dX2_takeFeed_26 rfl rfl ?_
      obtain ⟨y5, hy5, h⟩ := jbnd h
      refine j_callN (pc := 27) (N := mX7_spot) (host := "DropQueues") (As := [.int x1, .int x2]) (rest := [.ref (E.1 (25, k))]) (v := [.int y5.1]) (S1 := y5.2) dX2_takeFeed_27 (kX7_spot hC hy5) (by simp) (by decide) okX7_spot tw_441 (by decide) rfl rfl (by simp [Value.category]) ?_
      refine j_iload_n (pc := 30) 3 dX2_takeFeed_30 rfl rfl ?_
      obtain ⟨c6, h⟩ := jchk h
      obtain ⟨S7, eS7, h⟩ := jlk h
      refine j_is (pc := 31) dX2_takeFeed_31 rfl (hC (25, k) (decide_eq_true hk)) c6 eS7 ?_
      refine j_iconst (pc := 32) dX2_takeFeed_32 jci_1 ?_
      cases h
      exact j_iret (pc := 33) dX2_takeFeed_33 rfl rfl
    · replace h := jite_t h c4
      refine j_iconst (pc := 19) dX2_takeFeed_19 jci_0 ?_
      cases h
      exact j_iret (pc := 20) dX2_takeFeed_20 rfl rfl
abbrev mX2_takeGoal : jM := (yX2_takeGoal, cX2_takeGoal, 3, (some .boolean))
theorem okX2_takeGoal : jOK mX2_takeGoal 1 := ⟨by decide +kernel, tw_403, tw_72, by decide +kernel, by decide, by decide⟩
def bX2_takeGoal_20 (k : Nat) (q20 : jS → Int32 → Int32 → Option (Int32 × jS)) (S : jS) (x1 : Int32) (x2 : Int32) : Option (Int32 × jS) :=
  (if (S.1 (2, k)) ≤ x2 then if jIn (S.1 (2, k)) 3 then jlet (jput S (20, k) (upd (S.2 (20, k)) (S.1 (2, k)).toNatClampNeg x1)) fun S6 => jlet (jset S6 (2, k) ((S6.1 (2, k)) + (1 : Int32))) fun S7 => some ((1 : Int32), S7) else none else if jIn x2 3 then (if (S.2 (20, k) x2.toNatClampNeg) = x1 then some ((0 : Int32), S) else jlet (x2 + (1 : Int32)) fun v10 => q20 S x1 v10) else none)
set_option maxRecDepth 10000 in
set_option maxHeartbeats 4000000 in
theorem lX2_takeGoal_20 {E : jE} (hC : jHC E) {k : Nat} (hk : k < 6) {q20 : jS → Int32 → Int32 → Option (Int32 × jS)} (H20 : ∀ {S : jS} {x1 : Int32} {x2 : Int32} {r : (Int32 × jS)}, q20 S x1 x2 = some r → JR E 2 mX2_takeGoal 20 [(0, .ref (E.1 (3, k))), (1, .int x1), (2, .int x2)] [] S [.int r.1] r.2) {S : jS} {x1 : Int32} {x2 : Int32} {r : (Int32 × jS)} (h : bX2_takeGoal_20 k q20 S x1 x2 = some r) : JR E 2 mX2_takeGoal 20 [(0, .ref (E.1 (3, k))), (1, .int x1), (2, .int x2)] [] S [.int r.1] r.2 := by
  unfold bX2_takeGoal_20 at h
  refine j_iload_n (pc := 20) 2 dX2_takeGoal_20 rfl rfl ?_
  refine j_aload_n (pc := 21) 0 dX2_takeGoal_21 rfl rfl ?_
  refine jg_3_1 (pc := 22) dX2_takeGoal_22 (hC (3, k) (decide_eq_true hk)) tw_128 ?_
  refine j_icmp_ge (pc := 25) (tgt := 46) dX2_takeGoal_25 (by decide) (fun c4 => ?_) (fun c4 => ?_)
  · replace h := jite_t h c4
    refine j_aload_n (pc := 46) 0 dX2_takeGoal_46 rfl rfl ?_
    refine jg_3_5 (pc := 47) dX2_takeGoal_47 (hC (3, k) (decide_eq_true hk)) tw_141 ?_
    refine j_aload_n (pc := 50) 0 dX2_takeGoal_50 rfl rfl ?_
    refine jg_3_1 (pc := 51) dX2_takeGoal_51 (hC (3, k) (decide_eq_true hk)) tw_128 ?_
    refine j_iload_n (pc := 54) 1 dX2_takeGoal_54 rfl rfl ?_
    obtain ⟨c5, h⟩ := jchk h
    obtain ⟨S6, eS6, h⟩ := jlk h
    refine j_is (pc := 55) dX2_takeGoal_55 rfl (hC (20, k) (decide_eq_true hk)) c5 eS6 ?_
    refine j_aload_n (pc := 56) 0 dX2_takeGoal_56 rfl rfl ?_
    refine j_dup (pc := 57) dX2_takeGoal_57 rfl ?_
    refine jg_3_1 (pc := 58) dX2_takeGoal_58 (hC (3, k) (decide_eq_true hk)) tw_128 ?_
    refine j_iconst (pc := 61) dX2_takeGoal_61 jci_1 ?_
    refine j_iadd (pc := 62) dX2_takeGoal_62 ?_
    obtain ⟨S7, eS7, h⟩ := jlk h
    refine jp_2 (pc := 63) dX2_takeGoal_63 (hC (3, k) (decide_eq_true hk)) tw_128 eS7 ?_
    refine j_iconst (pc := 66) dX2_takeGoal_66 jci_1 ?_
    cases h
    exact j_iret (pc := 67) dX2_takeGoal_67 rfl rfl
  · replace h := jite_f h c4
    refine j_aload_n (pc := 28) 0 dX2_takeGoal_28 rfl rfl ?_
    refine jg_3_5 (pc := 29) dX2_takeGoal_29 (hC (3, k) (decide_eq_true hk)) tw_141 ?_
    refine j_iload_n (pc := 32) 2 dX2_takeGoal_32 rfl rfl ?_
    obtain ⟨c8, h⟩ := jchk h
    refine j_ia (pc := 33) dX2_takeGoal_33 rfl (hC (20, k) (decide_eq_true hk)) c8 ?_
    refine j_iload_n (pc := 34) 1 dX2_takeGoal_34 rfl rfl ?_
    refine j_icmp_ne (pc := 35) (tgt := 40) dX2_takeGoal_35 (by decide) (fun c9 => ?_) (fun c9 => ?_)
    · replace h := jite_f h c9
      obtain ⟨v10, ev10, h⟩ := jlk h
      refine j_iinc (pc := 40) (v := v10) (lv' := [(2, .int v10), (0, .ref (E.1 (3, k))), (1, .int x1)]) 2 dX2_takeGoal_40 rfl (by rw [ev10]; rfl) (by decide) rfl ?_
      refine j_goto (pc := 43) (tgt := 20) dX2_takeGoal_43 (by decide) ?_
      exact j_sub [1, 2, 0] rfl (H20 h)
    · replace h := jite_t h c9
      refine j_iconst (pc := 38) dX2_takeGoal_38 jci_0 ?_
      cases h
      exact j_iret (pc := 39) dX2_takeGoal_39 rfl rfl
def fX2_takeGoal_20 (k : Nat) : Nat → jS → Int32 → Int32 → Option (Int32 × jS)
  | 0 => fun _ _ _ => none
  | n + 1 => bX2_takeGoal_20 k (fX2_takeGoal_20 k n)
theorem kX2_takeGoal_20 {E : jE} (hC : jHC E) {k : Nat} (hk : k < 6) (fu : Nat) : ∀ {S : jS} {x1 : Int32} {x2 : Int32} {r : (Int32 × jS)}, fX2_takeGoal_20 k fu S x1 x2 = some r → JR E 2 mX2_takeGoal 20 [(0, .ref (E.1 (3, k))), (1, .int x1), (2, .int x2)] [] S [.int r.1] r.2 := by
  induction fu with
  | zero => intro S x1 x2 r h; cases h
  | succ n_ ih => intro S x1 x2 r h; exact lX2_takeGoal_20 hC hk ih h
def fX2_takeGoal (k : Nat) (S : jS) (x1 : Int32) : Option (Int32 × jS) :=
  (fX2_hasNode k S x1).bind fun y1 => (if y1.1 = 0 then some ((0 : Int32), y1.2) else (if (y1.2.1 (2, k)) < (3 : Int32) then fX2_takeGoal_20 k 5000 (y1.2) x1 (0 : Int32) else some ((0 : Int32), y1.2)))
set_option maxRecDepth 10000 in
set_option maxHeartbeats 4000000 in
theorem kX2_takeGoal {E : jE} (hC : jHC E) {k : Nat} (hk : k < 6) {S : jS} {x1 : Int32} {r : (Int32 × jS)} (h : fX2_takeGoal k S x1 = some r) : jMR E 2 mX2_takeGoal [.ref (E.1 (3, k)), .int x1] S [.int r.1] r.2 := by
  refine ⟨Nat.le_of_ble_eq_true rfl, ?_⟩
  show JR E 2 mX2_takeGoal 0 [(0, .ref (E.1 (3, k))), (1, .int x1)] [] S [.int r.1] r.2
  unfold fX2_takeGoal at h
  refine j_aload_n (pc := 0) 0 dX2_takeGoal_0 rfl rfl ?_
  refine j_iload_n (pc := 1) 1 dX2_takeGoal_1 rfl rfl ?_
  obtain ⟨y1, hy1, h⟩ := jbnd h
  refine j_callV (pc := 2) (N := mX2_hasNode) (rr := (3, k)) (As := [.int x1]) (rest := []) (v := [.int y1.1]) (S1 := y1.2) dX2_takeGoal_2 (kX2_hasNode hC hk hy1) (by simp) (by decide) okX2_hasNode tw_405 tw_406 tw_404 (hC (3, k) (decide_eq_true hk)) rfl rfl rfl rfl (by simp [Value.category]) ?_
  refine j_if_eq (pc := 5) (tgt := 16) dX2_takeGoal_5 (by decide) (fun c2 => ?_) (fun c2 => ?_)
  · replace h := jite_t h c2
    refine j_iconst (pc := 16) dX2_takeGoal_16 jci_0 ?_
    cases h
    exact j_iret (pc := 17) dX2_takeGoal_17 rfl rfl
  · replace h := jite_f h c2
    refine j_aload_n (pc := 8) 0 dX2_takeGoal_8 rfl rfl ?_
    refine jg_3_1 (pc := 9) dX2_takeGoal_9 (hC (3, k) (decide_eq_true hk)) tw_128 ?_
    refine j_iconst (pc := 12) dX2_takeGoal_12 jci_3 ?_
    refine j_icmp_lt (pc := 13) (tgt := 18) dX2_takeGoal_13 (by decide) (fun c3 => ?_) (fun c3 => ?_)
    · replace h := jite_t h c3
      refine j_iconst (pc := 18) dX2_takeGoal_18 jci_0 ?_
      refine j_istore_n (pc := 19) (lv' := [(2, .int (0 : Int32)), (0, .ref (E.1 (3, k))), (1, .int x1)]) dX2_takeGoal_19 rfl (by decide) rfl ?_
      exact j_sub [1, 2, 0] rfl (kX2_takeGoal_20 hC hk 5000 h)
    · replace h := jite_f h c3
      refine j_iconst (pc := 16) dX2_takeGoal_16 jci_0 ?_
      cases h
      exact j_iret (pc := 17) dX2_takeGoal_17 rfl rfl
abbrev mX2_takeLaw : jM := (yX2_takeLaw, cX2_takeLaw, 2, (some .boolean))
theorem okX2_takeLaw : jOK mX2_takeLaw 1 := ⟨by decide +kernel, tw_450, tw_72, by decide +kernel, by decide, by decide⟩
def fX2_takeLaw (k : Nat) (S : jS) (x1 : Int32) : Option (Int32 × jS) :=
  (fX7_within S x1 (0 : Int32) (1 : Int32)).bind fun y1 => (if y1.1 = 0 then some ((0 : Int32), y1.2) else jlet (jset y1.2 (4, k) x1) fun S3 => some ((1 : Int32), S3))
set_option maxRecDepth 10000 in
set_option maxHeartbeats 4000000 in
theorem kX2_takeLaw {E : jE} (hC : jHC E) {k : Nat} (hk : k < 6) {S : jS} {x1 : Int32} {r : (Int32 × jS)} (h : fX2_takeLaw k S x1 = some r) : jMR E 2 mX2_takeLaw [.ref (E.1 (3, k)), .int x1] S [.int r.1] r.2 := by
  refine ⟨Nat.le_of_ble_eq_true rfl, ?_⟩
  show JR E 2 mX2_takeLaw 0 [(0, .ref (E.1 (3, k))), (1, .int x1)] [] S [.int r.1] r.2
  unfold fX2_takeLaw at h
  refine j_iload_n (pc := 0) 1 dX2_takeLaw_0 rfl rfl ?_
  refine j_iconst (pc := 1) dX2_takeLaw_1 jci_0 ?_
  refine j_iconst (pc := 2) dX2_takeLaw_2 jci_1 ?_
  obtain ⟨y1, hy1, h⟩ := jbnd h
  refine j_callN (pc := 3) (N := mX7_within) (host := "DropQueues") (As := [.int x1, .int (0 : Int32), .int (1 : Int32)]) (rest := []) (v := [.int y1.1]) (S1 := y1.2) dX2_takeLaw_3 (kX7_within hC hy1) (by simp) (by decide) okX7_within tw_398 (by decide) rfl rfl (by simp [Value.category]) ?_
  refine j_if_ne (pc := 6) (tgt := 11) dX2_takeLaw_6 (by decide) (fun c2 => ?_) (fun c2 => ?_)
  · replace h := jite_f h c2
    refine j_aload_n (pc := 11) 0 dX2_takeLaw_11 rfl rfl ?_
    refine j_iload_n (pc := 12) 1 dX2_takeLaw_12 rfl rfl ?_
    obtain ⟨S3, eS3, h⟩ := jlk h
    refine jp_4 (pc := 13) dX2_takeLaw_13 (hC (3, k) (decide_eq_true hk)) tw_136 eS3 ?_
    refine j_iconst (pc := 16) dX2_takeLaw_16 jci_1 ?_
    cases h
    exact j_iret (pc := 17) dX2_takeLaw_17 rfl rfl
  · replace h := jite_t h c2
    refine j_iconst (pc := 9) dX2_takeLaw_9 jci_0 ?_
    cases h
    exact j_iret (pc := 10) dX2_takeLaw_10 rfl rfl
abbrev mX2_takeLink : jM := (yX2_takeLink, cX2_takeLink, 4, (some .boolean))
theorem okX2_takeLink : jOK mX2_takeLink 3 := ⟨by decide +kernel, tw_411, tw_72, by decide +kernel, by decide, by decide⟩
def fX2_takeLink (k : Nat) (S : jS) (x1 : Int32) (x2 : Int32) (x3 : Int32) : Option (Int32 × jS) :=
  (fX2_hasNode k S x1).bind fun y1 => (if y1.1 = 0 then some ((0 : Int32), y1.2) else (fX2_hasNode k y1.2 x2).bind fun y3 => (if y3.1 = 0 then some ((0 : Int32), y3.2) else (if x1 = x2 then some ((0 : Int32), y3.2) else (fX7_within y3.2 x3 (1 : Int32) (9 : Int32)).bind fun y6 => (if y6.1 = 0 then some ((0 : Int32), y6.2) else (if (y6.2.1 (3, k)) < (10 : Int32) then if jIn (y6.2.1 (3, k)) 10 then jlet (jput y6.2 (21, k) (upd (y6.2.2 (21, k)) (y6.2.1 (3, k)).toNatClampNeg x1)) fun S10 => if jIn (S10.1 (3, k)) 10 then jlet (jput S10 (22, k) (upd (S10.2 (22, k)) (S10.1 (3, k)).toNatClampNeg x2)) fun S12 => if jIn (S12.1 (3, k)) 10 then jlet (jput S12 (23, k) (upd (S12.2 (23, k)) (S12.1 (3, k)).toNatClampNeg x3)) fun S14 => jlet (jset S14 (3, k) ((S14.1 (3, k)) + (1 : Int32))) fun S15 => some ((1 : Int32), S15) else none else none else none else some ((0 : Int32), y6.2))))))
set_option maxRecDepth 10000 in
set_option maxHeartbeats 4000000 in
theorem kX2_takeLink {E : jE} (hC : jHC E) {k : Nat} (hk : k < 6) {S : jS} {x1 : Int32} {x2 : Int32} {x3 : Int32} {r : (Int32 × jS)} (h : fX2_takeLink k S x1 x2 x3 = some r) : jMR E 2 mX2_takeLink [.ref (E.1 (3, k)), .int x1, .int x2, .int x3] S [.int r.1] r.2 := by
  refine ⟨Nat.le_of_ble_eq_true rfl, ?_⟩
  show JR E 2 mX2_takeLink 0 [(0, .ref (E.1 (3, k))), (1, .int x1), (2, .int x2), (3, .int x3)] [] S [.int r.1] r.2
  unfold fX2_takeLink at h
  refine j_aload_n (pc := 0) 0 dX2_takeLink_0 rfl rfl ?_
  refine j_iload_n (pc := 1) 1 dX2_takeLink_1 rfl rfl ?_
  obtain ⟨y1, hy1, h⟩ := jbnd h
  refine j_callV (pc := 2) (N := mX2_hasNode) (rr := (3, k)) (As := [.int x1]) (rest := []) (v := [.int y1.1]) (S1 := y1.2) dX2_takeLink_2 (kX2_hasNode hC hk hy1) (by simp) (by decide) okX2_hasNode tw_405 tw_406 tw_404 (hC (3, k) (decide_eq_true hk)) rfl rfl rfl rfl (by simp [Value.category]) ?_
  refine j_if_eq (pc := 5) (tgt := 40) dX2_takeLink_5 (by decide) (fun c2 => ?_) (fun c2 => ?_)
  · replace h := jite_t h c2
    refine j_iconst (pc := 40) dX2_takeLink_40 jci_0 ?_
    cases h
    exact j_iret (pc := 41) dX2_takeLink_41 rfl rfl
  · replace h := jite_f h c2
    refine j_aload_n (pc := 8) 0 dX2_takeLink_8 rfl rfl ?_
    refine j_iload_n (pc := 9) 2 dX2_takeLink_9 rfl rfl ?_
    obtain ⟨y3, hy3, h⟩ := jbnd h
    refine j_callV (pc := 10) (N := mX2_hasNode) (rr := (3, k)) (As := [.int x2]) (rest := []) (v := [.int y3.1]) (S1 := y3.2) dX2_takeLink_10 (kX2_hasNode hC hk hy3) (by simp) (by decide) okX2_hasNode tw_405 tw_406 tw_404 (hC (3, k) (decide_eq_true hk)) rfl rfl rfl rfl (by simp [Value.category]) ?_
    refine j_if_eq (pc := 13) (tgt := 40) dX2_takeLink_13 (by decide) (fun c4 => ?_) (fun c4 => ?_)
    · replace h := jite_t h c4
      refine j_iconst (pc := 40) dX2_takeLink_40 jci_0 ?_
      cases h
      exact j_iret (pc := 41) dX2_takeLink_41 rfl rfl
    · replace h := jite_f h c4
      refine j_iload_n (pc := 16) 1 dX2_takeLink_16 rfl rfl ?_
      refine j_iload_n (pc := 17) 2 dX2_takeLink_17 rfl rfl ?_
      refine j_icmp_eq (pc := 18) (tgt := 40) dX2_takeLink_18 (by decide) (fun c5 => ?_) (fun c5 => ?_)
      · replace h := jite_t h c5
        refine j_iconst (pc := 40) dX2_takeLink_40 jci_0 ?_
        cases h
        exact j_iret (pc := 41) dX2_takeLink_41 rfl rfl
      · replace h := jite_f h c5
        refine j_iload_n (pc := 21) 3 dX2_takeLink_21 rfl rfl ?_
        refine j_iconst (pc := 22) dX2_takeLink_22 jci_1 ?_
        refine j_bipush (pc := 23) dX2_takeLink_23 jcb_9 ?_
        obtain ⟨y6, hy6, h⟩ := jbnd h
        refine j_callN (pc := 25) (N := mX7_within) (host := "DropQueues") (As := [.int x3, .int (1 : Int32), .int (9 : Int32)]) (rest := []) (v := [.int y6.1]) (S1 := y6.2) dX2_takeLink_25 (kX7_within hC hy6) (by simp) (by decide) okX7_within tw_398 (by decide) rfl rfl (by simp [Value.category]) ?_
        refine j_if_eq (pc := 28) (tgt := 40) dX2_takeLink_28 (by decide) (fun c7 => ?_) (fun c7 => ?_)
        · replace h := jite_t h c7
          refine j_iconst (pc := 40) dX2_takeLink_40 jci_0 ?_
          cases h
          exact j_iret (pc := 41) dX2_takeLink_41 rfl rfl
        · replace h := jite_f h c7
          refine j_aload_n (pc := 31) 0 dX2_takeLink_31 rfl rfl ?_
          refine jg_3_2 (pc := 32) dX2_takeLink_32 (hC (3, k) (decide_eq_true hk)) tw_133 ?_
          refine j_bipush (pc := 35) dX2_takeLink_35 jcb_10 ?_
          refine j_icmp_lt (pc := 37) (tgt := 42) dX2_takeLink_37 (by decide) (fun c8 => ?_) (fun c8 => ?_)
          · replace h := jite_t h c8
            refine j_aload_n (pc := 42) 0 dX2_takeLink_42 rfl rfl ?_
            refine jg_3_6 (pc := 43) dX2_takeLink_43 (hC (3, k) (decide_eq_true hk)) tw_144 ?_
            refine j_aload_n (pc := 46) 0 dX2_takeLink_46 rfl rfl ?_
            refine jg_3_2 (pc := 47) dX2_takeLink_47 (hC (3, k) (decide_eq_true hk)) tw_133 ?_
            refine j_iload_n (pc := 50) 1 dX2_takeLink_50 rfl rfl ?_
            obtain ⟨c9, h⟩ := jchk h
            obtain ⟨S10, eS10, h⟩ := jlk h
            refine j_is (pc := 51) dX2_takeLink_51 rfl (hC (21, k) (decide_eq_true hk)) c9 eS10 ?_
            refine j_aload_n (pc := 52) 0 dX2_takeLink_52 rfl rfl ?_
            refine jg_3_7 (pc := 53) dX2_takeLink_53 (hC (3, k) (decide_eq_true hk)) tw_149 ?_
            refine j_aload_n (pc := 56) 0 dX2_takeLink_56 rfl rfl ?_
            refine jg_3_2 (pc := 57) dX2_takeLink_57 (hC (3, k) (decide_eq_true hk)) tw_133 ?_
            refine j_iload_n (pc := 60) 2 dX2_takeLink_60 rfl rfl ?_
            obtain ⟨c11, h⟩ := jchk h
            obtain ⟨S12, eS12, h⟩ := jlk h
            refine j_is (pc := 61) dX2_takeLink_61 rfl (hC (22, k) (decide_eq_true hk)) c11 eS12 ?_
            refine j_aload_n (pc := 62) 0 dX2_takeLink_62 rfl rfl ?_
            refine jg_3_8 (pc := 63) dX2_takeLink_63 (hC (3, k) (decide_eq_true hk)) tw_153 ?_
            refine j_aload_n (pc := 66) 0 dX2_takeLink_66 rfl rfl ?_
            refine jg_3_2 (pc := 67) dX2_takeLink_67 (hC (3, k) (decide_eq_true hk)) tw_133 ?_
            refine j_iload_n (pc := 70) 3 dX2_takeLink_70 rfl rfl ?_
            obtain ⟨c13, h⟩ := jchk h
            obtain ⟨S14, eS14, h⟩ := jlk h
            refine j_is (pc := 71) dX2_takeLink_71 rfl (hC (23, k) (decide_eq_true hk)) c13 eS14 ?_
            refine j_aload_n (pc := 72) 0 dX2_takeLink_72 rfl rfl ?_
            refine j_dup (pc := 73) dX2_takeLink_73 rfl ?_
            refine jg_3_2 (pc := 74) dX2_takeLink_74 (hC (3, k) (decide_eq_true hk)) tw_133 ?_
            refine j_iconst (pc := 77) dX2_takeLink_77 jci_1 ?_
            refine j_iadd (pc := 78) dX2_takeLink_78 ?_
            obtain ⟨S15, eS15, h⟩ := jlk h
            refine jp_3 (pc := 79) dX2_takeLink_79 (hC (3, k) (decide_eq_true hk)) tw_133 eS15 ?_
            refine j_iconst (pc := 82) dX2_takeLink_82 jci_1 ?_
            cases h
            exact j_iret (pc := 83) dX2_takeLink_83 rfl rfl
          · replace h := jite_f h c8
            refine j_iconst (pc := 40) dX2_takeLink_40 jci_0 ?_
            cases h
            exact j_iret (pc := 41) dX2_takeLink_41 rfl rfl
abbrev mX2_takeNodes : jM := (yX2_takeNodes, cX2_takeNodes, 2, (some .boolean))
theorem okX2_takeNodes : jOK mX2_takeNodes 1 := ⟨by decide +kernel, tw_396, tw_72, by decide +kernel, by decide, by decide⟩
def fX2_takeNodes (k : Nat) (S : jS) (x1 : Int32) : Option (Int32 × jS) :=
  (fX7_within S x1 (2 : Int32) (6 : Int32)).bind fun y1 => (if y1.1 = 0 then some ((0 : Int32), y1.2) else jlet (jset y1.2 (1, k) x1) fun S3 => some ((1 : Int32), S3))
set_option maxRecDepth 10000 in
set_option maxHeartbeats 4000000 in
theorem kX2_takeNodes {E : jE} (hC : jHC E) {k : Nat} (hk : k < 6) {S : jS} {x1 : Int32} {r : (Int32 × jS)} (h : fX2_takeNodes k S x1 = some r) : jMR E 2 mX2_takeNodes [.ref (E.1 (3, k)), .int x1] S [.int r.1] r.2 := by
  refine ⟨Nat.le_of_ble_eq_true rfl, ?_⟩
  show JR E 2 mX2_takeNodes 0 [(0, .ref (E.1 (3, k))), (1, .int x1)] [] S [.int r.1] r.2
  unfold fX2_takeNodes at h
  refine j_iload_n (pc := 0) 1 dX2_takeNodes_0 rfl rfl ?_
  refine j_iconst (pc := 1) dX2_takeNodes_1 jci_2 ?_
  refine j_bipush (pc := 2) dX2_takeNodes_2 jcb_6 ?_
  obtain ⟨y1, hy1, h⟩ := jbnd h
  refine j_callN (pc := 4) (N := mX7_within) (host := "DropQueues") (As := [.int x1, .int (2 : Int32), .int (6 : Int32)]) (rest := []) (v := [.int y1.1]) (S1 := y1.2) dX2_takeNodes_4 (kX7_within hC hy1) (by simp) (by decide) okX7_within tw_398 (by decide) rfl rfl (by simp [Value.category]) ?_
  refine j_if_ne (pc := 7) (tgt := 12) dX2_takeNodes_7 (by decide) (fun c2 => ?_) (fun c2 => ?_)
  · replace h := jite_f h c2
    refine j_aload_n (pc := 12) 0 dX2_takeNodes_12 rfl rfl ?_
    refine j_iload_n (pc := 13) 1 dX2_takeNodes_13 rfl rfl ?_
    obtain ⟨S3, eS3, h⟩ := jlk h
    refine jp_1 (pc := 14) dX2_takeNodes_14 (hC (3, k) (decide_eq_true hk)) tw_125 eS3 ?_
    refine j_iconst (pc := 17) dX2_takeNodes_17 jci_1 ?_
    cases h
    exact j_iret (pc := 18) dX2_takeNodes_18 rfl rfl
  · replace h := jite_t h c2
    refine j_iconst (pc := 10) dX2_takeNodes_10 jci_0 ?_
    cases h
    exact j_iret (pc := 11) dX2_takeNodes_11 rfl rfl
abbrev mX2_takeItem : jM := (yX2_takeItem, cX2_takeItem, 5, (some .boolean))
theorem okX2_takeItem : jOK mX2_takeItem 4 := ⟨by decide +kernel, tw_392, tw_72, by decide +kernel, by decide, by decide⟩
def bX2_takeItem_23 (k : Nat) (S : jS) (x1 : Int32) (x2 : Int32) (x3 : Int32) (x4 : Int32) (t0 : Int32) (t1 : Int32) : Option (Int32 × jS) :=
  (if t0 = t1 then (if x1 = (98 : Int32) then (fX2_takeB k S x2).bind fun y5 => if y5.1 = 0 ∨ y5.1 = 1 then some (y5.1, y5.2) else none else (if x1 = (102 : Int32) then (fX2_takeFeed k S x2 x3 x4).bind fun y8 => if y8.1 = 0 ∨ y8.1 = 1 then some (y8.1, y8.2) else none else (if x1 = (103 : Int32) then (fX2_takeGoal k S x2).bind fun y11 => if y11.1 = 0 ∨ y11.1 = 1 then some (y11.1, y11.2) else none else (if x1 = (108 : Int32) then (fX2_takeLink k S x2 x3 x4).bind fun y14 => if y14.1 = 0 ∨ y14.1 = 1 then some (y14.1, y14.2) else none else (if x1 = (110 : Int32) then (fX2_takeNodes k S x2).bind fun y17 => if y17.1 = 0 ∨ y17.1 = 1 then some (y17.1, y17.2) else none else (if x1 = (120 : Int32) then (fX2_takeClash k S x2 x3).bind fun y20 => if y20.1 = 0 ∨ y20.1 = 1 then some (y20.1, y20.2) else none else (fX2_takeLaw k S x2).bind fun y22 => if y22.1 = 0 ∨ y22.1 = 1 then some (y22.1, y22.2) else none)))))) else some ((0 : Int32), S))
set_option maxRecDepth 10000 in
set_option maxHeartbeats 4000000 in
theorem lX2_takeItem_23 {E : jE} (hC : jHC E) {k : Nat} (hk : k < 6) {S : jS} {x1 : Int32} {x2 : Int32} {x3 : Int32} {x4 : Int32} {t0 : Int32} {t1 : Int32} {r : (Int32 × jS)} (h : bX2_takeItem_23 k S x1 x2 x3 x4 t0 t1 = some r) : JR E 4 mX2_takeItem 23 [(0, .ref (E.1 (3, k))), (1, .int x1), (2, .int x2), (3, .int x3), (4, .int x4)] [.int t1, .int t0] S [.int r.1] r.2 := by
  unfold bX2_takeItem_23 at h
  refine j_icmp_eq (pc := 23) (tgt := 28) dX2_takeItem_23 (by decide) (fun c3 => ?_) (fun c3 => ?_)
  · replace h := jite_t h c3
    refine j_iload_n (pc := 28) 1 dX2_takeItem_28 rfl rfl ?_
    by_cases c4 : x1 = (98 : Int32)
    · replace h := jite_t h c4
      refine j_lookup (pc := 29) (tgt := 125) (off := 96) dX2_takeItem_29 (by decide) (by rw [c4]; decide) (by decide) ?_
      refine j_aload_n (pc := 125) 0 dX2_takeItem_125 rfl rfl ?_
      refine j_iload_n (pc := 126) 2 dX2_takeItem_126 rfl rfl ?_
      obtain ⟨y5, hy5, h⟩ := jbnd h
      refine j_callV (pc := 127) (N := mX2_takeB) (rr := (3, k)) (As := [.int x2]) (rest := []) (v := [.int y5.1]) (S1 := y5.2) dX2_takeItem_127 (kX2_takeB hC hk hy5) (by simp) (by decide) okX2_takeB tw_445 tw_8 tw_443 (hC (3, k) (decide_eq_true hk)) rfl rfl rfl rfl (by simp [Value.category]) ?_
      obtain ⟨c6, h⟩ := jchk h
      cases h
      exact j_iret (pc := 130) dX2_takeItem_130 rfl (jnar01 c6)
    replace h := jite_f h c4
    by_cases c7 : x1 = (102 : Int32)
    · replace h := jite_t h c7
      refine j_lookup (pc := 29) (tgt := 116) (off := 87) dX2_takeItem_29 (by decide) (by rw [c7]; decide) (by decide) ?_
      refine j_aload_n (pc := 116) 0 dX2_takeItem_116 rfl rfl ?_
      refine j_iload_n (pc := 117) 2 dX2_takeItem_117 rfl rfl ?_
      refine j_iload_n (pc := 118) 3 dX2_takeItem_118 rfl rfl ?_
      refine j_iload (pc := 119) 4 dX2_takeItem_119 rfl ?_
      obtain ⟨y8, hy8, h⟩ := jbnd h
      refine j_callV (pc := 121) (N := mX2_takeFeed) (rr := (3, k)) (As := [.int x2, .int x3, .int x4]) (rest := []) (v := [.int y8.1]) (S1 := y8.2) dX2_takeItem_121 (kX2_takeFeed hC hk hy8) (by simp) (by decide) okX2_takeFeed tw_430 tw_7 tw_428 (hC (3, k) (decide_eq_true hk)) rfl rfl rfl rfl (by simp [Value.category]) ?_
      obtain ⟨c9, h⟩ := jchk h
      cases h
      exact j_iret (pc := 124) dX2_takeItem_124 rfl (jnar01 c9)
    replace h := jite_f h c7
    by_cases c10 : x1 = (103 : Int32)
    · replace h := jite_t h c10
      refine j_lookup (pc := 29) (tgt := 94) (off := 65) dX2_takeItem_29 (by decide) (by rw [c10]; decide) (by decide) ?_
      refine j_aload_n (pc := 94) 0 dX2_takeItem_94 rfl rfl ?_
      refine j_iload_n (pc := 95) 2 dX2_takeItem_95 rfl rfl ?_
      obtain ⟨y11, hy11, h⟩ := jbnd h
      refine j_callV (pc := 96) (N := mX2_takeGoal) (rr := (3, k)) (As := [.int x2]) (rest := []) (v := [.int y11.1]) (S1 := y11.2) dX2_takeItem_96 (kX2_takeGoal hC hk hy11) (by simp) (by decide) okX2_takeGoal tw_402 tw_4 tw_400 (hC (3, k) (decide_eq_true hk)) rfl rfl rfl rfl (by simp [Value.category]) ?_
      obtain ⟨c12, h⟩ := jchk h
      cases h
      exact j_iret (pc := 99) dX2_takeItem_99 rfl (jnar01 c12)
    replace h := jite_f h c10
    by_cases c13 : x1 = (108 : Int32)
    · replace h := jite_t h c13
      refine j_lookup (pc := 29) (tgt := 100) (off := 71) dX2_takeItem_29 (by decide) (by rw [c13]; decide) (by decide) ?_
      refine j_aload_n (pc := 100) 0 dX2_takeItem_100 rfl rfl ?_
      refine j_iload_n (pc := 101) 2 dX2_takeItem_101 rfl rfl ?_
      refine j_iload_n (pc := 102) 3 dX2_takeItem_102 rfl rfl ?_
      refine j_iload (pc := 103) 4 dX2_takeItem_103 rfl ?_
      obtain ⟨y14, hy14, h⟩ := jbnd h
      refine j_callV (pc := 105) (N := mX2_takeLink) (rr := (3, k)) (As := [.int x2, .int x3, .int x4]) (rest := []) (v := [.int y14.1]) (S1 := y14.2) dX2_takeItem_105 (kX2_takeLink hC hk hy14) (by simp) (by decide) okX2_takeLink tw_410 tw_5 tw_408 (hC (3, k) (decide_eq_true hk)) rfl rfl rfl rfl (by simp [Value.category]) ?_
      obtain ⟨c15, h⟩ := jchk h
      cases h
      exact j_iret (pc := 108) dX2_takeItem_108 rfl (jnar01 c15)
    replace h := jite_f h c13
    by_cases c16 : x1 = (110 : Int32)
    · replace h := jite_t h c16
      refine j_lookup (pc := 29) (tgt := 88) (off := 59) dX2_takeItem_29 (by decide) (by rw [c16]; decide) (by decide) ?_
      refine j_aload_n (pc := 88) 0 dX2_takeItem_88 rfl rfl ?_
      refine j_iload_n (pc := 89) 2 dX2_takeItem_89 rfl rfl ?_
      obtain ⟨y17, hy17, h⟩ := jbnd h
      refine j_callV (pc := 90) (N := mX2_takeNodes) (rr := (3, k)) (As := [.int x2]) (rest := []) (v := [.int y17.1]) (S1 := y17.2) dX2_takeItem_90 (kX2_takeNodes hC hk hy17) (by simp) (by decide) okX2_takeNodes tw_395 tw_3 tw_393 (hC (3, k) (decide_eq_true hk)) rfl rfl rfl rfl (by simp [Value.category]) ?_
      obtain ⟨c18, h⟩ := jchk h
      cases h
      exact j_iret (pc := 93) dX2_takeItem_93 rfl (jnar01 c18)
    replace h := jite_f h c16
    by_cases c19 : x1 = (120 : Int32)
    · replace h := jite_t h c19
      refine j_lookup (pc := 29) (tgt := 109) (off := 80) dX2_takeItem_29 (by decide) (by rw [c19]; decide) (by decide) ?_
      refine j_aload_n (pc := 109) 0 dX2_takeItem_109 rfl rfl ?_
      refine j_iload_n (pc := 110) 2 dX2_takeItem_110 rfl rfl ?_
      refine j_iload_n (pc := 111) 3 dX2_takeItem_111 rfl rfl ?_
      obtain ⟨y20, hy20, h⟩ := jbnd h
      refine j_callV (pc := 112) (N := mX2_takeClash) (rr := (3, k)) (As := [.int x2, .int x3]) (rest := []) (v := [.int y20.1]) (S1 := y20.2) dX2_takeItem_112 (kX2_takeClash hC hk hy20) (by simp) (by decide) okX2_takeClash tw_414 tw_6 tw_412 (hC (3, k) (decide_eq_true hk)) rfl rfl rfl rfl (by simp [Value.category]) ?_
      obtain ⟨c21, h⟩ := jchk h
      cases h
      exact j_iret (pc := 115) dX2_takeItem_115 rfl (jnar01 c21)
    replace h := jite_f h c19
    have nc4 := jti c4 (z := 98) (by decide)
    have nc7 := jti c7 (z := 102) (by decide)
    have nc10 := jti c10 (z := 103) (by decide)
    have nc13 := jti c13 (z := 108) (by decide)
    have nc16 := jti c16 (z := 110) (by decide)
    have nc19 := jti c19 (z := 120) (by decide)
    refine j_lookup (pc := 29) (tgt := 131) (off := 102) dX2_takeItem_29 (by decide) (by simp only [lookupswitch.offset_cons, lookupswitch.offset_nil]; rw [if_neg (Ne.symm nc4)]; rw [if_neg (Ne.symm nc7)]; rw [if_neg (Ne.symm nc10)]; rw [if_neg (Ne.symm nc13)]; rw [if_neg (Ne.symm nc16)]; rw [if_neg (Ne.symm nc19)]) (by decide) ?_
    refine j_aload_n (pc := 131) 0 dX2_takeItem_131 rfl rfl ?_
    refine j_iload_n (pc := 132) 2 dX2_takeItem_132 rfl rfl ?_
    obtain ⟨y22, hy22, h⟩ := jbnd h
    refine j_callV (pc := 133) (N := mX2_takeLaw) (rr := (3, k)) (As := [.int x2]) (rest := []) (v := [.int y22.1]) (S1 := y22.2) dX2_takeItem_133 (kX2_takeLaw hC hk hy22) (by simp) (by decide) okX2_takeLaw tw_449 tw_9 tw_447 (hC (3, k) (decide_eq_true hk)) rfl rfl rfl rfl (by simp [Value.category]) ?_
    obtain ⟨c23, h⟩ := jchk h
    cases h
    exact j_iret (pc := 136) dX2_takeItem_136 rfl (jnar01 c23)
  · replace h := jite_f h c3
    refine j_iconst (pc := 26) dX2_takeItem_26 jci_0 ?_
    cases h
    exact j_iret (pc := 27) dX2_takeItem_27 rfl rfl
def bX2_takeItem_11 (k : Nat) (S : jS) (x1 : Int32) (x2 : Int32) (x3 : Int32) (x4 : Int32) (t0 : Int32) : Option (Int32 × jS) :=
  (if (S.1 (1, k)) = 0 then bX2_takeItem_23 k S x1 x2 x3 x4 t0 (1 : Int32) else bX2_takeItem_23 k S x1 x2 x3 x4 t0 (0 : Int32))
set_option maxRecDepth 10000 in
set_option maxHeartbeats 4000000 in
theorem lX2_takeItem_11 {E : jE} (hC : jHC E) {k : Nat} (hk : k < 6) {S : jS} {x1 : Int32} {x2 : Int32} {x3 : Int32} {x4 : Int32} {t0 : Int32} {r : (Int32 × jS)} (h : bX2_takeItem_11 k S x1 x2 x3 x4 t0 = some r) : JR E 4 mX2_takeItem 11 [(0, .ref (E.1 (3, k))), (1, .int x1), (2, .int x2), (3, .int x3), (4, .int x4)] [.int t0] S [.int r.1] r.2 := by
  unfold bX2_takeItem_11 at h
  refine j_aload_n (pc := 11) 0 dX2_takeItem_11 rfl rfl ?_
  refine jg_3_0 (pc := 12) dX2_takeItem_12 (hC (3, k) (decide_eq_true hk)) tw_125 ?_
  refine j_if_ne (pc := 15) (tgt := 22) dX2_takeItem_15 (by decide) (fun c2 => ?_) (fun c2 => ?_)
  · replace h := jite_f h c2
    refine j_iconst (pc := 22) dX2_takeItem_22 jci_0 ?_
    exact j_sub [0, 1, 2, 3, 4] rfl (lX2_takeItem_23 hC hk h)
  · replace h := jite_t h c2
    refine j_iconst (pc := 18) dX2_takeItem_18 jci_1 ?_
    refine j_goto (pc := 19) (tgt := 23) dX2_takeItem_19 (by decide) ?_
    exact j_sub [0, 1, 2, 3, 4] rfl (lX2_takeItem_23 hC hk h)
def fX2_takeItem (k : Nat) (S : jS) (x1 : Int32) (x2 : Int32) (x3 : Int32) (x4 : Int32) : Option (Int32 × jS) :=
  (if x1 = (110 : Int32) then bX2_takeItem_11 k S x1 x2 x3 x4 (1 : Int32) else bX2_takeItem_11 k S x1 x2 x3 x4 (0 : Int32))
set_option maxRecDepth 10000 in
set_option maxHeartbeats 4000000 in
theorem kX2_takeItem {E : jE} (hC : jHC E) {k : Nat} (hk : k < 6) {S : jS} {x1 : Int32} {x2 : Int32} {x3 : Int32} {x4 : Int32} {r : (Int32 × jS)} (h : fX2_takeItem k S x1 x2 x3 x4 = some r) : jMR E 4 mX2_takeItem [.ref (E.1 (3, k)), .int x1, .int x2, .int x3, .int x4] S [.int r.1] r.2 := by
  refine ⟨Nat.le_of_ble_eq_true rfl, ?_⟩
  show JR E 4 mX2_takeItem 0 [(0, .ref (E.1 (3, k))), (1, .int x1), (2, .int x2), (3, .int x3), (4, .int x4)] [] S [.int r.1] r.2
  unfold fX2_takeItem at h
  refine j_iload_n (pc := 0) 1 dX2_takeItem_0 rfl rfl ?_
  refine j_bipush (pc := 1) dX2_takeItem_1 jcb_110 ?_
  refine j_icmp_ne (pc := 3) (tgt := 10) dX2_takeItem_3 (by decide) (fun c1 => ?_) (fun c1 => ?_)
  · replace h := jite_f h c1
    refine j_iconst (pc := 10) dX2_takeItem_10 jci_0 ?_
    exact j_sub [0, 1, 2, 3, 4] rfl (lX2_takeItem_11 hC hk h)
  · replace h := jite_t h c1
    refine j_iconst (pc := 6) dX2_takeItem_6 jci_1 ?_
    refine j_goto (pc := 7) (tgt := 11) dX2_takeItem_7 (by decide) ?_
    exact j_sub [0, 1, 2, 3, 4] rfl (lX2_takeItem_11 hC hk h)
abbrev mX2_shortenWays : jM := (yX2_shortenWays, cX2_shortenWays, 4, none)
theorem okX2_shortenWays : jOK mX2_shortenWays 1 := ⟨by decide +kernel, tw_465, tw_72, by decide +kernel, by decide, by decide⟩
def bX2_shortenWays_2 (k : Nat) (q2 : jS → Int32 → Int32 → Option jS) (S : jS) (x1 : Int32) (x2 : Int32) : Option jS :=
  (if (S.1 (3, k)) ≤ x2 then some S else if jIn x2 10 then (fX7_spot S (S.2 (21, k) x2.toNatClampNeg) x1).bind fun y3 => if jIn y3.1 18 then if jIn x2 10 then (fX7_spot y3.2 (y3.2.2 (22, k) x2.toNatClampNeg) x1).bind fun y6 => if jIn y6.1 18 then if jIn y3.1 18 then jlet (jput y6.2 (26, k) (upd (y6.2.2 (26, k)) y3.1.toNatClampNeg ((if ((y6.2.2 (26, k) y6.1.toNatClampNeg) + (1 : Int32)) < (y3.2.2 (26, k) y3.1.toNatClampNeg) then ((y6.2.2 (26, k) y6.1.toNatClampNeg) + (1 : Int32)) else (y3.2.2 (26, k) y3.1.toNatClampNeg))))) fun S9 => jlet (x2 + (1 : Int32)) fun v10 => q2 S9 x1 v10 else none else none else none else none else none)
set_option maxRecDepth 10000 in
set_option maxHeartbeats 4000000 in
theorem lX2_shortenWays_2 {E : jE} (hC : jHC E) {k : Nat} (hk : k < 6) {q2 : jS → Int32 → Int32 → Option jS} (H2 : ∀ {S : jS} {x1 : Int32} {x2 : Int32} {r : jS}, q2 S x1 x2 = some r → JR E 2 mX2_shortenWays 2 [(0, .ref (E.1 (3, k))), (1, .int x1), (2, .int x2)] [] S [] r) {S : jS} {x1 : Int32} {x2 : Int32} {r : jS} (h : bX2_shortenWays_2 k q2 S x1 x2 = some r) : JR E 2 mX2_shortenWays 2 [(0, .ref (E.1 (3, k))), (1, .int x1), (2, .int x2)] [] S [] r := by
  unfold bX2_shortenWays_2 at h
  refine j_iload_n (pc := 2) 2 dX2_shortenWays_2 rfl rfl ?_
  refine j_aload_n (pc := 3) 0 dX2_shortenWays_3 rfl rfl ?_
  refine jg_3_2 (pc := 4) dX2_shortenWays_4 (hC (3, k) (decide_eq_true hk)) tw_133 ?_
  refine j_icmp_ge (pc := 7) (tgt := 59) dX2_shortenWays_7 (by decide) (fun c1 => ?_) (fun c1 => ?_)
  · replace h := jite_t h c1
    cases h
    exact j_vret (pc := 59) dX2_shortenWays_59 rfl
  · replace h := jite_f h c1
    refine j_aload_n (pc := 10) 0 dX2_shortenWays_10 rfl rfl ?_
    refine jg_3_6 (pc := 11) dX2_shortenWays_11 (hC (3, k) (decide_eq_true hk)) tw_144 ?_
    refine j_iload_n (pc := 14) 2 dX2_shortenWays_14 rfl rfl ?_
    obtain ⟨c2, h⟩ := jchk h
    refine j_ia (pc := 15) dX2_shortenWays_15 rfl (hC (21, k) (decide_eq_true hk)) c2 ?_
    refine j_iload_n (pc := 16) 1 dX2_shortenWays_16 rfl rfl ?_
    obtain ⟨y3, hy3, h⟩ := jbnd h
    refine j_callN (pc := 17) (N := mX7_spot) (host := "DropQueues") (As := [.int (S.2 (21, k) x2.toNatClampNeg), .int x1]) (rest := []) (v := [.int y3.1]) (S1 := y3.2) dX2_shortenWays_17 (kX7_spot hC hy3) (by simp) (by decide) okX7_spot tw_441 (by decide) rfl rfl (by simp [Value.category]) ?_
    refine j_istore_n (pc := 20) (lv' := [(3, .int y3.1), (0, .ref (E.1 (3, k))), (1, .int x1), (2, .int x2)]) dX2_shortenWays_20 rfl (by decide) rfl ?_
    refine j_aload_n (pc := 21) 1 dX2_shortenWays_21 rfl rfl ?_
    refine jg_3_11 (pc := 22) dX2_shortenWays_22 (hC (3, k) (decide_eq_true hk)) tw_163 ?_
    refine j_iload_n (pc := 25) 0 dX2_shortenWays_25 rfl rfl ?_
    refine j_aload_n (pc := 26) 1 dX2_shortenWays_26 rfl rfl ?_
    refine jg_3_11 (pc := 27) dX2_shortenWays_27 (hC (3, k) (decide_eq_true hk)) tw_163 ?_
    refine j_iload_n (pc := 30) 0 dX2_shortenWays_30 rfl rfl ?_
    obtain ⟨c4, h⟩ := jchk h
    refine j_ia (pc := 31) dX2_shortenWays_31 rfl (hC (26, k) (decide_eq_true hk)) c4 ?_
    refine j_aload_n (pc := 32) 1 dX2_shortenWays_32 rfl rfl ?_
    refine jg_3_11 (pc := 33) dX2_shortenWays_33 (hC (3, k) (decide_eq_true hk)) tw_163 ?_
    refine j_aload_n (pc := 36) 1 dX2_shortenWays_36 rfl rfl ?_
    refine jg_3_7 (pc := 37) dX2_shortenWays_37 (hC (3, k) (decide_eq_true hk)) tw_149 ?_
    refine j_iload_n (pc := 40) 3 dX2_shortenWays_40 rfl rfl ?_
    obtain ⟨c5, h⟩ := jchk h
    refine j_ia (pc := 41) dX2_shortenWays_41 rfl (hC (22, k) (decide_eq_true hk)) c5 ?_
    refine j_iload_n (pc := 42) 2 dX2_shortenWays_42 rfl rfl ?_
    obtain ⟨y6, hy6, h⟩ := jbnd h
    refine j_callN (pc := 43) (N := mX7_spot) (host := "DropQueues") (As := [.int (y3.2.2 (22, k) x2.toNatClampNeg), .int x1]) (rest := [.ref (E.1 (26, k)), .int (y3.2.2 (26, k) y3.1.toNatClampNeg), .int y3.1, .ref (E.1 (26, k))]) (v := [.int y6.1]) (S1 := y6.2) dX2_shortenWays_43 (kX7_spot hC hy6) (by simp) (by decide) okX7_spot tw_441 (by decide) rfl rfl (by simp [Value.category]) ?_
    obtain ⟨c7, h⟩ := jchk h
    refine j_ia (pc := 46) dX2_shortenWays_46 rfl (hC (26, k) (decide_eq_true hk)) c7 ?_
    refine j_iconst (pc := 47) dX2_shortenWays_47 jci_1 ?_
    refine j_iadd (pc := 48) dX2_shortenWays_48 ?_
    refine j_mmin (pc := 49) dX2_shortenWays_49 tw_466 tw_467 tw_83 tw_468 (by simp) (by simp [Value.category]) ?_
    obtain ⟨c8, h⟩ := jchk h
    obtain ⟨S9, eS9, h⟩ := jlk h
    refine j_is (pc := 52) dX2_shortenWays_52 rfl (hC (26, k) (decide_eq_true hk)) c8 eS9 ?_
    obtain ⟨v10, ev10, h⟩ := jlk h
    refine j_iinc (pc := 53) (v := v10) (lv' := [(2, .int v10), (3, .int y3.1), (0, .ref (E.1 (3, k))), (1, .int x1)]) 3 dX2_shortenWays_53 rfl (by rw [ev10]; rfl) (by decide) rfl ?_
    refine j_goto (pc := 56) (tgt := 2) dX2_shortenWays_56 (by decide) ?_
    exact j_sub [2, 3, 0] rfl (H2 h)
def fX2_shortenWays_2 (k : Nat) : Nat → jS → Int32 → Int32 → Option jS
  | 0 => fun _ _ _ => none
  | n + 1 => bX2_shortenWays_2 k (fX2_shortenWays_2 k n)
theorem kX2_shortenWays_2 {E : jE} (hC : jHC E) {k : Nat} (hk : k < 6) (fu : Nat) : ∀ {S : jS} {x1 : Int32} {x2 : Int32} {r : jS}, fX2_shortenWays_2 k fu S x1 x2 = some r → JR E 2 mX2_shortenWays 2 [(0, .ref (E.1 (3, k))), (1, .int x1), (2, .int x2)] [] S [] r := by
  induction fu with
  | zero => intro S x1 x2 r h; cases h
  | succ n_ ih => intro S x1 x2 r h; exact lX2_shortenWays_2 hC hk ih h
def fX2_shortenWays (k : Nat) (S : jS) (x1 : Int32) : Option jS :=
  fX2_shortenWays_2 k 5000 S x1 (0 : Int32)
set_option maxRecDepth 10000 in
set_option maxHeartbeats 4000000 in
theorem kX2_shortenWays {E : jE} (hC : jHC E) {k : Nat} (hk : k < 6) {S : jS} {x1 : Int32} {r : jS} (h : fX2_shortenWays k S x1 = some r) : jMR E 2 mX2_shortenWays [.ref (E.1 (3, k)), .int x1] S [] r := by
  refine ⟨Nat.le_of_ble_eq_true rfl, ?_⟩
  show JR E 2 mX2_shortenWays 0 [(0, .ref (E.1 (3, k))), (1, .int x1)] [] S [] r
  unfold fX2_shortenWays at h
  refine j_iconst (pc := 0) dX2_shortenWays_0 jci_0 ?_
  refine j_istore_n (pc := 1) (lv' := [(2, .int (0 : Int32)), (0, .ref (E.1 (3, k))), (1, .int x1)]) dX2_shortenWays_1 rfl (by decide) rfl ?_
  exact j_sub [1, 2, 0] rfl (kX2_shortenWays_2 hC hk 5000 h)
abbrev mX2_findHops : jM := (yX2_findHops, cX2_findHops, 3, none)
theorem okX2_findHops : jOK mX2_findHops 0 := ⟨by decide +kernel, tw_461, tw_72, by decide +kernel, by decide, by decide⟩
def bX2_findHops_37 (k : Nat) (q11 : jS → Int32 → Option jS) (q37 : jS → Int32 → Int32 → Option jS) (S : jS) (x1 : Int32) (x2 : Int32) : Option jS :=
  (if (S.1 (1, k)) ≤ x2 then jlet (x1 + (1 : Int32)) fun v8 => q11 S v8 else (fX2_shortenWays k S x1).bind fun y9 => jlet (x2 + (1 : Int32)) fun v10 => q37 y9 x1 v10)
set_option maxRecDepth 10000 in
set_option maxHeartbeats 4000000 in
theorem lX2_findHops_37 {E : jE} (hC : jHC E) {k : Nat} (hk : k < 6) {q11 : jS → Int32 → Option jS} (H11 : ∀ {S : jS} {x1 : Int32} {r : jS}, q11 S x1 = some r → JR E 3 mX2_findHops 11 [(0, .ref (E.1 (3, k))), (1, .int x1)] [] S [] r) {q37 : jS → Int32 → Int32 → Option jS} (H37 : ∀ {S : jS} {x1 : Int32} {x2 : Int32} {r : jS}, q37 S x1 x2 = some r → JR E 3 mX2_findHops 37 [(0, .ref (E.1 (3, k))), (1, .int x1), (2, .int x2)] [] S [] r) {S : jS} {x1 : Int32} {x2 : Int32} {r : jS} (h : bX2_findHops_37 k q11 q37 S x1 x2 = some r) : JR E 3 mX2_findHops 37 [(0, .ref (E.1 (3, k))), (1, .int x1), (2, .int x2)] [] S [] r := by
  unfold bX2_findHops_37 at h
  refine j_iload_n (pc := 37) 2 dX2_findHops_37 rfl rfl ?_
  refine j_aload_n (pc := 38) 0 dX2_findHops_38 rfl rfl ?_
  refine jg_3_0 (pc := 39) dX2_findHops_39 (hC (3, k) (decide_eq_true hk)) tw_125 ?_
  refine j_icmp_ge (pc := 42) (tgt := 56) dX2_findHops_42 (by decide) (fun c7 => ?_) (fun c7 => ?_)
  · replace h := jite_t h c7
    obtain ⟨v8, ev8, h⟩ := jlk h
    refine j_iinc (pc := 56) (v := v8) (lv' := [(1, .int v8), (0, .ref (E.1 (3, k))), (2, .int x2)]) 1 dX2_findHops_56 rfl (by rw [ev8]; rfl) (by decide) rfl ?_
    refine j_goto (pc := 59) (tgt := 11) dX2_findHops_59 (by decide) ?_
    exact j_sub [1, 0] rfl (H11 h)
  · replace h := jite_f h c7
    refine j_aload_n (pc := 45) 0 dX2_findHops_45 rfl rfl ?_
    refine j_iload_n (pc := 46) 1 dX2_findHops_46 rfl rfl ?_
    obtain ⟨y9, hy9, h⟩ := jbnd h
    refine j_callV (pc := 47) (N := mX2_shortenWays) (rr := (3, k)) (As := [.int x1]) (rest := []) (v := []) (S1 := y9) dX2_findHops_47 (kX2_shortenWays hC hk hy9) (by simp) (by decide) okX2_shortenWays tw_464 tw_10 tw_462 (hC (3, k) (decide_eq_true hk)) rfl rfl rfl rfl (by simp [Value.category]) ?_
    obtain ⟨v10, ev10, h⟩ := jlk h
    refine j_iinc (pc := 50) (v := v10) (lv' := [(2, .int v10), (0, .ref (E.1 (3, k))), (1, .int x1)]) 2 dX2_findHops_50 rfl (by rw [ev10]; rfl) (by decide) rfl ?_
    refine j_goto (pc := 53) (tgt := 37) dX2_findHops_53 (by decide) ?_
    exact j_sub [1, 2, 0] rfl (H37 h)
def fX2_findHops_37 (k : Nat) (q11 : jS → Int32 → Option jS) : Nat → jS → Int32 → Int32 → Option jS
  | 0 => fun _ _ _ => none
  | n + 1 => bX2_findHops_37 k q11 (fX2_findHops_37 k q11 n)
theorem kX2_findHops_37 {E : jE} (hC : jHC E) {k : Nat} (hk : k < 6) {q11 : jS → Int32 → Option jS} (H11 : ∀ {S : jS} {x1 : Int32} {r : jS}, q11 S x1 = some r → JR E 3 mX2_findHops 11 [(0, .ref (E.1 (3, k))), (1, .int x1)] [] S [] r) (fu : Nat) : ∀ {S : jS} {x1 : Int32} {x2 : Int32} {r : jS}, fX2_findHops_37 k q11 fu S x1 x2 = some r → JR E 3 mX2_findHops 37 [(0, .ref (E.1 (3, k))), (1, .int x1), (2, .int x2)] [] S [] r := by
  induction fu with
  | zero => intro S x1 x2 r h; cases h
  | succ n_ ih => intro S x1 x2 r h; exact lX2_findHops_37 hC hk H11 ih h
def bX2_findHops_11 (k : Nat) (q11 : jS → Int32 → Option jS) (S : jS) (x1 : Int32) : Option jS :=
  (if (S.1 (2, k)) ≤ x1 then some S else if jIn x1 3 then (fX7_spot S (S.2 (20, k) x1.toNatClampNeg) x1).bind fun y4 => if jIn y4.1 18 then jlet (jput y4.2 (26, k) (upd (y4.2.2 (26, k)) y4.1.toNatClampNeg (0 : Int32))) fun S6 => fX2_findHops_37 k q11 5000 S6 x1 (1 : Int32) else none else none)
set_option maxRecDepth 10000 in
set_option maxHeartbeats 4000000 in
theorem lX2_findHops_11 {E : jE} (hC : jHC E) {k : Nat} (hk : k < 6) {q11 : jS → Int32 → Option jS} (H11 : ∀ {S : jS} {x1 : Int32} {r : jS}, q11 S x1 = some r → JR E 3 mX2_findHops 11 [(0, .ref (E.1 (3, k))), (1, .int x1)] [] S [] r) {S : jS} {x1 : Int32} {r : jS} (h : bX2_findHops_11 k q11 S x1 = some r) : JR E 3 mX2_findHops 11 [(0, .ref (E.1 (3, k))), (1, .int x1)] [] S [] r := by
  unfold bX2_findHops_11 at h
  refine j_iload_n (pc := 11) 1 dX2_findHops_11 rfl rfl ?_
  refine j_aload_n (pc := 12) 0 dX2_findHops_12 rfl rfl ?_
  refine jg_3_1 (pc := 13) dX2_findHops_13 (hC (3, k) (decide_eq_true hk)) tw_128 ?_
  refine j_icmp_ge (pc := 16) (tgt := 62) dX2_findHops_16 (by decide) (fun c2 => ?_) (fun c2 => ?_)
  · replace h := jite_t h c2
    cases h
    exact j_vret (pc := 62) dX2_findHops_62 rfl
  · replace h := jite_f h c2
    refine j_aload_n (pc := 19) 0 dX2_findHops_19 rfl rfl ?_
    refine jg_3_11 (pc := 20) dX2_findHops_20 (hC (3, k) (decide_eq_true hk)) tw_163 ?_
    refine j_aload_n (pc := 23) 0 dX2_findHops_23 rfl rfl ?_
    refine jg_3_5 (pc := 24) dX2_findHops_24 (hC (3, k) (decide_eq_true hk)) tw_141 ?_
    refine j_iload_n (pc := 27) 1 dX2_findHops_27 rfl rfl ?_
    obtain ⟨c3, h⟩ := jchk h
    refine j_ia (pc := 28) dX2_findHops_28 rfl (hC (20, k) (decide_eq_true hk)) c3 ?_
    refine j_iload_n (pc := 29) 1 dX2_findHops_29 rfl rfl ?_
    obtain ⟨y4, hy4, h⟩ := jbnd h
    refine j_callN (pc := 30) (N := mX7_spot) (host := "DropQueues") (As := [.int (S.2 (20, k) x1.toNatClampNeg), .int x1]) (rest := [.ref (E.1 (26, k))]) (v := [.int y4.1]) (S1 := y4.2) dX2_findHops_30 (kX7_spot hC hy4) (by simp) (by decide) okX7_spot tw_441 (by decide) rfl rfl (by simp [Value.category]) ?_
    refine j_iconst (pc := 33) dX2_findHops_33 jci_0 ?_
    obtain ⟨c5, h⟩ := jchk h
    obtain ⟨S6, eS6, h⟩ := jlk h
    refine j_is (pc := 34) dX2_findHops_34 rfl (hC (26, k) (decide_eq_true hk)) c5 eS6 ?_
    refine j_iconst (pc := 35) dX2_findHops_35 jci_1 ?_
    refine j_istore_n (pc := 36) (lv' := [(2, .int (1 : Int32)), (0, .ref (E.1 (3, k))), (1, .int x1)]) dX2_findHops_36 rfl (by decide) rfl ?_
    exact j_sub [1, 2, 0] rfl (kX2_findHops_37 hC hk H11 5000 h)
def fX2_findHops_11 (k : Nat) : Nat → jS → Int32 → Option jS
  | 0 => fun _ _ => none
  | n + 1 => bX2_findHops_11 k (fX2_findHops_11 k n)
theorem kX2_findHops_11 {E : jE} (hC : jHC E) {k : Nat} (hk : k < 6) (fu : Nat) : ∀ {S : jS} {x1 : Int32} {r : jS}, fX2_findHops_11 k fu S x1 = some r → JR E 3 mX2_findHops 11 [(0, .ref (E.1 (3, k))), (1, .int x1)] [] S [] r := by
  induction fu with
  | zero => intro S x1 r h; cases h
  | succ n_ ih => intro S x1 r h; exact lX2_findHops_11 hC hk ih h
def fX2_findHops (k : Nat) (S : jS) : Option jS :=
  (fJ7_fill_53178 (26, k) S (9 : Int32)).bind fun y1 => fX2_findHops_11 k 5000 y1 (0 : Int32)
set_option maxRecDepth 10000 in
set_option maxHeartbeats 4000000 in
theorem kX2_findHops {E : jE} (hC : jHC E) {k : Nat} (hk : k < 6) {S : jS} {r : jS} (h : fX2_findHops k S = some r) : jMR E 3 mX2_findHops [.ref (E.1 (3, k))] S [] r := by
  refine ⟨Nat.le_of_ble_eq_true rfl, ?_⟩
  show JR E 3 mX2_findHops 0 [(0, .ref (E.1 (3, k)))] [] S [] r
  unfold fX2_findHops at h
  refine j_aload_n (pc := 0) 0 dX2_findHops_0 rfl rfl ?_
  refine jg_3_11 (pc := 1) dX2_findHops_1 (hC (3, k) (decide_eq_true hk)) tw_163 ?_
  refine j_bipush (pc := 4) dX2_findHops_4 jcb_9 ?_
  obtain ⟨y1, hy1, h⟩ := jbnd h
  refine j_callS (pc := 6) (N := mJ7_fill_53178) (As := [.ref (E.1 (26, k)), .int (9 : Int32)]) (rest := []) (v := []) (S1 := y1) dX2_findHops_6 (kJ7_fill_53178 ⟨rfl, (hC (26, k) (decide_eq_true hk))⟩ hy1) (by simp) (by decide) okJ7_fill_53178 tw_376 tw_375 rfl rfl (by simp [Value.category]) ?_
  refine j_iconst (pc := 9) dX2_findHops_9 jci_0 ?_
  refine j_istore_n (pc := 10) (lv' := [(1, .int (0 : Int32)), (0, .ref (E.1 (3, k)))]) dX2_findHops_10 rfl (by decide) rfl ?_
  exact j_sub [1, 0] rfl (kX2_findHops_11 hC hk 5000 h)
