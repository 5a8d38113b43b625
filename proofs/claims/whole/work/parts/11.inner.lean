abbrev mX0_clear : jM := (yX0_clear, cX0_clear, 1, none)
theorem okX0_clear : jOK mX0_clear 0 := ⟨by decide +kernel, tw_477, tw_74, by decide +kernel, by decide, by decide⟩
def fX0_clear  (S : jS) : Option jS :=
  jlet (jset S (8, 0) (0 : Int32)) fun S1 => some S1
set_option maxRecDepth 10000 in
set_option maxHeartbeats 4000000 in
theorem kX0_clear {E : jE} (hC : jHC E) {S : jS} {r : jS} (h : fX0_clear  S = some r) : jMR E 1 mX0_clear [.ref (E.1 (5, 0))] S [] r := by
  refine ⟨Nat.le_of_ble_eq_true rfl, ?_⟩
  show JR E 1 mX0_clear 0 [(0, .ref (E.1 (5, 0)))] [] S [] r
  unfold fX0_clear at h
  refine j_aload_n (pc := 0) 0 dX0_clear_0 rfl rfl ?_
  refine j_iconst (pc := 1) dX0_clear_1 jci_0 ?_
  obtain ⟨S1, eS1, h⟩ := jlk h
  refine jp_8 (pc := 2) dX0_clear_2 (hC (5, 0) rfl) tw_252 eS1 ?_
  cases h
  exact j_vret (pc := 5) dX0_clear_5 rfl
abbrev mX4_copyFrom : jM := (yX4_copyFrom, cX4_copyFrom, 2, none)
theorem okX4_copyFrom : jOK mX4_copyFrom 1 := ⟨by decide +kernel, tw_533, tw_73, by decide +kernel, by decide, by decide⟩
def fX4_copyFrom (k : Nat) (k2 : Nat) (S : jS) : Option jS :=
  jlet (jset S (6, k) (S.1 (6, k2))) fun S1 => jlet (jset S1 (7, k) (S1.1 (7, k2))) fun S2 => jlet (jput S2 (30, k) (va_cpy (S2.2 (30, k2)) (S2.2 (30, k)) ((0 : Int32)).toNatClampNeg ((0 : Int32)).toNatClampNeg ((3 : Int32)).toNatClampNeg)) fun S3 => jlet (jput S3 (31, k) (va_cpy (S3.2 (31, k2)) (S3.2 (31, k)) ((0 : Int32)).toNatClampNeg ((0 : Int32)).toNatClampNeg ((3 : Int32)).toNatClampNeg)) fun S4 => jlet (jput S4 (32, k) (va_cpy (S4.2 (32, k2)) (S4.2 (32, k)) ((0 : Int32)).toNatClampNeg ((0 : Int32)).toNatClampNeg ((3 : Int32)).toNatClampNeg)) fun S5 => jlet (jput S5 (33, k) (va_cpy (S5.2 (33, k2)) (S5.2 (33, k)) ((0 : Int32)).toNatClampNeg ((0 : Int32)).toNatClampNeg ((18 : Int32)).toNatClampNeg)) fun S6 => jlet (jput S6 (34, k) (va_cpy (S6.2 (34, k2)) (S6.2 (34, k)) ((0 : Int32)).toNatClampNeg ((0 : Int32)).toNatClampNeg ((720 : Int32)).toNatClampNeg)) fun S7 => jlet (jput S7 (35, k) (va_cpy (S7.2 (35, k2)) (S7.2 (35, k)) ((0 : Int32)).toNatClampNeg ((0 : Int32)).toNatClampNeg ((18 : Int32)).toNatClampNeg)) fun S8 => some S8
set_option maxRecDepth 10000 in
set_option maxHeartbeats 4000000 in
theorem kX4_copyFrom {E : jE} (hC : jHC E) {k : Nat} (hk : k < 6) {k2 : Nat} (hk2 : k2 < 6) {S : jS} {r : jS} (h : fX4_copyFrom k k2 S = some r) : jMR E 1 mX4_copyFrom [.ref (E.1 (4, k)), .ref (E.1 (4, k2))] S [] r := by
  refine ⟨Nat.le_of_ble_eq_true rfl, ?_⟩
  show JR E 1 mX4_copyFrom 0 [(0, .ref (E.1 (4, k))), (1, .ref (E.1 (4, k2)))] [] S [] r
  unfold fX4_copyFrom at h
  refine j_aload_n (pc := 0) 0 dX4_copyFrom_0 rfl rfl ?_
  refine j_aload_n (pc := 1) 1 dX4_copyFrom_1 rfl rfl ?_
  refine jg_4_0 (pc := 2) dX4_copyFrom_2 (hC (4, k2) (decide_eq_true hk2)) tw_195 ?_
  obtain ⟨S1, eS1, h⟩ := jlk h
  refine jp_6 (pc := 5) dX4_copyFrom_5 (hC (4, k) (decide_eq_true hk)) tw_195 eS1 ?_
  refine j_aload_n (pc := 8) 0 dX4_copyFrom_8 rfl rfl ?_
  refine j_aload_n (pc := 9) 1 dX4_copyFrom_9 rfl rfl ?_
  refine jg_4_1 (pc := 10) dX4_copyFrom_10 (hC (4, k2) (decide_eq_true hk2)) tw_198 ?_
  obtain ⟨S2, eS2, h⟩ := jlk h
  refine jp_7 (pc := 13) dX4_copyFrom_13 (hC (4, k) (decide_eq_true hk)) tw_198 eS2 ?_
  refine j_aload_n (pc := 16) 1 dX4_copyFrom_16 rfl rfl ?_
  refine jg_4_2 (pc := 17) dX4_copyFrom_17 (hC (4, k2) (decide_eq_true hk2)) tw_200 ?_
  refine j_iconst (pc := 20) dX4_copyFrom_20 jci_0 ?_
  refine j_aload_n (pc := 21) 0 dX4_copyFrom_21 rfl rfl ?_
  refine jg_4_2 (pc := 22) dX4_copyFrom_22 (hC (4, k) (decide_eq_true hk)) tw_200 ?_
  refine j_iconst (pc := 25) dX4_copyFrom_25 jci_0 ?_
  refine j_iconst (pc := 26) dX4_copyFrom_26 jci_3 ?_
  obtain ⟨S3, eS3, h⟩ := jlk h
  refine j_cp (pc := 27) dX4_copyFrom_27 tw_534 (by simp) rfl (hC (30, k2) (decide_eq_true hk2)) rfl (hC (30, k) (decide_eq_true hk)) (by decide) (by decide) (by decide) (by decide +kernel) (by decide +kernel) (by simp [Value.category]) eS3 ?_
  refine j_aload_n (pc := 30) 1 dX4_copyFrom_30 rfl rfl ?_
  refine jg_4_3 (pc := 31) dX4_copyFrom_31 (hC (4, k2) (decide_eq_true hk2)) tw_202 ?_
  refine j_iconst (pc := 34) dX4_copyFrom_34 jci_0 ?_
  refine j_aload_n (pc := 35) 0 dX4_copyFrom_35 rfl rfl ?_
  refine jg_4_3 (pc := 36) dX4_copyFrom_36 (hC (4, k) (decide_eq_true hk)) tw_202 ?_
  refine j_iconst (pc := 39) dX4_copyFrom_39 jci_0 ?_
  refine j_iconst (pc := 40) dX4_copyFrom_40 jci_3 ?_
  obtain ⟨S4, eS4, h⟩ := jlk h
  refine j_cp (pc := 41) dX4_copyFrom_41 tw_534 (by simp) rfl (hC (31, k2) (decide_eq_true hk2)) rfl (hC (31, k) (decide_eq_true hk)) (by decide) (by decide) (by decide) (by decide +kernel) (by decide +kernel) (by simp [Value.category]) eS4 ?_
  refine j_aload_n (pc := 44) 1 dX4_copyFrom_44 rfl rfl ?_
  refine jg_4_4 (pc := 45) dX4_copyFrom_45 (hC (4, k2) (decide_eq_true hk2)) tw_204 ?_
  refine j_iconst (pc := 48) dX4_copyFrom_48 jci_0 ?_
  refine j_aload_n (pc := 49) 0 dX4_copyFrom_49 rfl rfl ?_
  refine jg_4_4 (pc := 50) dX4_copyFrom_50 (hC (4, k) (decide_eq_true hk)) tw_204 ?_
  refine j_iconst (pc := 53) dX4_copyFrom_53 jci_0 ?_
  refine j_iconst (pc := 54) dX4_copyFrom_54 jci_3 ?_
  obtain ⟨S5, eS5, h⟩ := jlk h
  refine j_cp (pc := 55) dX4_copyFrom_55 tw_534 (by simp) rfl (hC (32, k2) (decide_eq_true hk2)) rfl (hC (32, k) (decide_eq_true hk)) (by decide) (by decide) (by decide) (by decide +kernel) (by decide +kernel) (by simp [Value.category]) eS5 ?_
  refine j_aload_n (pc := 58) 1 dX4_copyFrom_58 rfl rfl ?_
  refine jg_4_5 (pc := 59) dX4_copyFrom_59 (hC (4, k2) (decide_eq_true hk2)) tw_206 ?_
  refine j_iconst (pc := 62) dX4_copyFrom_62 jci_0 ?_
  refine j_aload_n (pc := 63) 0 dX4_copyFrom_63 rfl rfl ?_
  refine jg_4_5 (pc := 64) dX4_copyFrom_64 (hC (4, k) (decide_eq_true hk)) tw_206 ?_
  refine j_iconst (pc := 67) dX4_copyFrom_67 jci_0 ?_
  refine j_bipush (pc := 68) dX4_copyFrom_68 jcb_18 ?_
  obtain ⟨S6, eS6, h⟩ := jlk h
  refine j_cp (pc := 70) dX4_copyFrom_70 tw_534 (by simp) rfl (hC (33, k2) (decide_eq_true hk2)) rfl (hC (33, k) (decide_eq_true hk)) (by decide) (by decide) (by decide) (by decide +kernel) (by decide +kernel) (by simp [Value.category]) eS6 ?_
  refine j_aload_n (pc := 73) 1 dX4_copyFrom_73 rfl rfl ?_
  refine jg_4_6 (pc := 74) dX4_copyFrom_74 (hC (4, k2) (decide_eq_true hk2)) tw_211 ?_
  refine j_iconst (pc := 77) dX4_copyFrom_77 jci_0 ?_
  refine j_aload_n (pc := 78) 0 dX4_copyFrom_78 rfl rfl ?_
  refine jg_4_6 (pc := 79) dX4_copyFrom_79 (hC (4, k) (decide_eq_true hk)) tw_211 ?_
  refine j_iconst (pc := 82) dX4_copyFrom_82 jci_0 ?_
  refine j_sipush (pc := 83) dX4_copyFrom_83 jcs_720 ?_
  obtain ⟨S7, eS7, h⟩ := jlk h
  refine j_cp (pc := 86) dX4_copyFrom_86 tw_534 (by simp) rfl (hC (34, k2) (decide_eq_true hk2)) rfl (hC (34, k) (decide_eq_true hk)) (by decide) (by decide) (by decide) (by decide +kernel) (by decide +kernel) (by simp [Value.category]) eS7 ?_
  refine j_aload_n (pc := 89) 1 dX4_copyFrom_89 rfl rfl ?_
  refine jg_4_7 (pc := 90) dX4_copyFrom_90 (hC (4, k2) (decide_eq_true hk2)) tw_212 ?_
  refine j_iconst (pc := 93) dX4_copyFrom_93 jci_0 ?_
  refine j_aload_n (pc := 94) 0 dX4_copyFrom_94 rfl rfl ?_
  refine jg_4_7 (pc := 95) dX4_copyFrom_95 (hC (4, k) (decide_eq_true hk)) tw_212 ?_
  refine j_iconst (pc := 98) dX4_copyFrom_98 jci_0 ?_
  refine j_bipush (pc := 99) dX4_copyFrom_99 jcb_18 ?_
  obtain ⟨S8, eS8, h⟩ := jlk h
  refine j_cp (pc := 101) dX4_copyFrom_101 tw_534 (by simp) rfl (hC (35, k2) (decide_eq_true hk2)) rfl (hC (35, k) (decide_eq_true hk)) (by decide) (by decide) (by decide) (by decide +kernel) (by decide +kernel) (by simp [Value.category]) eS8 ?_
  cases h
  exact j_vret (pc := 104) dX4_copyFrom_104 rfl
abbrev mX6_copyFrom : jM := (yX6_copyFrom, cX6_copyFrom, 2, none)
theorem okX6_copyFrom : jOK mX6_copyFrom 1 := ⟨by decide +kernel, tw_528, tw_71, by decide +kernel, by decide, by decide⟩
def fX6_copyFrom (k : Nat) (k2 : Nat) (S : jS) : Option jS :=
  (fX2_copyFrom k k2 S).bind fun y1 => (fX4_copyFrom k k2 y1).bind fun y2 => some y2
set_option maxRecDepth 10000 in
set_option maxHeartbeats 4000000 in
theorem kX6_copyFrom {E : jE} (hC : jHC E) {k : Nat} (hk : k < 6) {k2 : Nat} (hk2 : k2 < 6) {S : jS} {r : jS} (h : fX6_copyFrom k k2 S = some r) : jMR E 2 mX6_copyFrom [.ref (E.1 (2, k)), .ref (E.1 (2, k2))] S [] r := by
  refine ⟨Nat.le_of_ble_eq_true rfl, ?_⟩
  show JR E 2 mX6_copyFrom 0 [(0, .ref (E.1 (2, k))), (1, .ref (E.1 (2, k2)))] [] S [] r
  unfold fX6_copyFrom at h
  refine j_aload_n (pc := 0) 0 dX6_copyFrom_0 rfl rfl ?_
  refine jg_2_0 (pc := 1) dX6_copyFrom_1 (hC (2, k) (decide_eq_true hk)) tw_230 ?_
  refine j_aload_n (pc := 4) 1 dX6_copyFrom_4 rfl rfl ?_
  refine jg_2_0 (pc := 5) dX6_copyFrom_5 (hC (2, k2) (decide_eq_true hk2)) tw_230 ?_
  obtain ⟨y1, hy1, h⟩ := jbnd h
  refine j_callV (pc := 8) (N := mX2_copyFrom) (rr := (3, k)) (As := [.ref (E.1 (3, k2))]) (rest := []) (v := []) (S1 := y1) dX6_copyFrom_8 (kX2_copyFrom hC hk hk2 hy1) (by simp) (by decide) okX2_copyFrom tw_452 tw_453 tw_529 (hC (3, k) (decide_eq_true hk)) rfl rfl rfl rfl (by simp [Value.category]) ?_
  refine j_aload_n (pc := 11) 0 dX6_copyFrom_11 rfl rfl ?_
  refine jg_2_1 (pc := 12) dX6_copyFrom_12 (hC (2, k) (decide_eq_true hk)) tw_234 ?_
  refine j_aload_n (pc := 15) 1 dX6_copyFrom_15 rfl rfl ?_
  refine jg_2_1 (pc := 16) dX6_copyFrom_16 (hC (2, k2) (decide_eq_true hk2)) tw_234 ?_
  obtain ⟨y2, hy2, h⟩ := jbnd h
  refine j_callV (pc := 19) (N := mX4_copyFrom) (rr := (4, k)) (As := [.ref (E.1 (4, k2))]) (rest := []) (v := []) (S1 := y2) dX6_copyFrom_19 (kX4_copyFrom hC hk hk2 hy2) (by simp) (by decide) okX4_copyFrom tw_531 tw_532 tw_530 (hC (4, k) (decide_eq_true hk)) rfl rfl rfl rfl (by simp [Value.category]) ?_
  cases h
  exact j_vret (pc := 22) dX6_copyFrom_22 rfl
abbrev mX0_keep : jM := (yX0_keep, cX0_keep, 2, none)
theorem okX0_keep : jOK mX0_keep 1 := ⟨by decide +kernel, tw_524, tw_74, by decide +kernel, by decide, by decide⟩
def fX0_keep (k : Nat) (S : jS) : Option jS :=
  if jIn (S.1 (9, 0)) 4 then (fX6_copyFrom ((S.1 (9, 0)).toNatClampNeg + 2) k S).bind fun y2 => jlet (jset y2 (9, 0) (((y2.1 (9, 0)) + (1 : Int32)) - ((y2.1 (9, 0)) + (1 : Int32)) / (4 : Int32) * (4 : Int32))) fun S3 => jlet (jset S3 (8, 0) ((if (4 : Int32) < ((S3.1 (8, 0)) + (1 : Int32)) then (4 : Int32) else ((S3.1 (8, 0)) + (1 : Int32))))) fun S4 => some S4 else none
set_option maxRecDepth 10000 in
set_option maxHeartbeats 4000000 in
theorem kX0_keep {E : jE} (hC : jHC E) {k : Nat} (hk : k < 6) {S : jS} {r : jS} (h : fX0_keep k S = some r) : jMR E 3 mX0_keep [.ref (E.1 (5, 0)), .ref (E.1 (2, k))] S [] r := by
  refine ⟨Nat.le_of_ble_eq_true rfl, ?_⟩
  show JR E 3 mX0_keep 0 [(0, .ref (E.1 (5, 0))), (1, .ref (E.1 (2, k)))] [] S [] r
  unfold fX0_keep at h
  refine j_aload_n (pc := 0) 0 dX0_keep_0 rfl rfl ?_
  refine jg_5_2 (pc := 1) dX0_keep_1 (hC (5, 0) rfl) tw_255 ?_
  refine j_aload_n (pc := 4) 0 dX0_keep_4 rfl rfl ?_
  refine jg_5_1 (pc := 5) dX0_keep_5 (hC (5, 0) rfl) tw_254 ?_
  obtain ⟨c1, h⟩ := jchk h
  refine j_aald (pc := 8) dX0_keep_8 (hC (6, 0) rfl) c1 ?_
  refine j_aload_n (pc := 9) 1 dX0_keep_9 rfl rfl ?_
  obtain ⟨y2, hy2, h⟩ := jbnd h
  refine j_callV (pc := 10) (N := mX6_copyFrom) (rr := (2, (S.1 (9, 0)).toNatClampNeg + 2)) (As := [.ref (E.1 (2, k))]) (rest := []) (v := []) (S1 := y2) dX0_keep_10 (kX6_copyFrom hC (by omega) hk hy2) (by simp) (by decide) okX6_copyFrom tw_526 tw_527 tw_525 (hC (2, (S.1 (9, 0)).toNatClampNeg + 2) (decide_eq_true (by omega))) rfl rfl rfl rfl (by simp [Value.category]) ?_
  refine j_aload_n (pc := 13) 0 dX0_keep_13 rfl rfl ?_
  refine j_aload_n (pc := 14) 0 dX0_keep_14 rfl rfl ?_
  refine jg_5_1 (pc := 15) dX0_keep_15 (hC (5, 0) rfl) tw_254 ?_
  refine j_iconst (pc := 18) dX0_keep_18 jci_1 ?_
  refine j_iadd (pc := 19) dX0_keep_19 ?_
  refine j_iconst (pc := 20) dX0_keep_20 jci_4 ?_
  refine j_irem (pc := 21) dX0_keep_21 (by decide) ?_
  obtain ⟨S3, eS3, h⟩ := jlk h
  refine jp_9 (pc := 22) dX0_keep_22 (hC (5, 0) rfl) tw_254 eS3 ?_
  refine j_aload_n (pc := 25) 0 dX0_keep_25 rfl rfl ?_
  refine j_aload_n (pc := 26) 0 dX0_keep_26 rfl rfl ?_
  refine jg_5_0 (pc := 27) dX0_keep_27 (hC (5, 0) rfl) tw_252 ?_
  refine j_iconst (pc := 30) dX0_keep_30 jci_1 ?_
  refine j_iadd (pc := 31) dX0_keep_31 ?_
  refine j_iconst (pc := 32) dX0_keep_32 jci_4 ?_
  refine j_mmin (pc := 33) dX0_keep_33 tw_535 tw_467 tw_83 tw_468 (by simp) (by simp [Value.category]) ?_
  obtain ⟨S4, eS4, h⟩ := jlk h
  refine jp_8 (pc := 36) dX0_keep_36 (hC (5, 0) rfl) tw_252 eS4 ?_
  cases h
  exact j_vret (pc := 39) dX0_keep_39 rfl
abbrev mX0_giveBack : jM := (yX0_giveBack, cX0_giveBack, 2, none)
theorem okX0_giveBack : jOK mX0_giveBack 1 := ⟨by decide +kernel, tw_670, tw_74, by decide +kernel, by decide, by decide⟩
def fX0_giveBack (k : Nat) (S : jS) : Option jS :=
  (if (S.1 (8, 0)) ≤ 0 then some S else jlet (jset S (8, 0) ((S.1 (8, 0)) - (1 : Int32))) fun S2 => jlet (jset S2 (9, 0) ((((S2.1 (9, 0)) + (4 : Int32)) - (1 : Int32)) - (((S2.1 (9, 0)) + (4 : Int32)) - (1 : Int32)) / (4 : Int32) * (4 : Int32))) fun S3 => if jIn (S3.1 (9, 0)) 4 then (fX6_copyFrom k ((S3.1 (9, 0)).toNatClampNeg + 2) S3).bind fun y5 => some y5 else none)
set_option maxRecDepth 10000 in
set_option maxHeartbeats 4000000 in
theorem kX0_giveBack {E : jE} (hC : jHC E) {k : Nat} (hk : k < 6) {S : jS} {r : jS} (h : fX0_giveBack k S = some r) : jMR E 3 mX0_giveBack [.ref (E.1 (5, 0)), .ref (E.1 (2, k))] S [] r := by
  refine ⟨Nat.le_of_ble_eq_true rfl, ?_⟩
  show JR E 3 mX0_giveBack 0 [(0, .ref (E.1 (5, 0))), (1, .ref (E.1 (2, k)))] [] S [] r
  unfold fX0_giveBack at h
  refine j_aload_n (pc := 0) 0 dX0_giveBack_0 rfl rfl ?_
  refine jg_5_0 (pc := 1) dX0_giveBack_1 (hC (5, 0) rfl) tw_252 ?_
  refine j_if_le (pc := 4) (tgt := 44) dX0_giveBack_4 (by decide) (fun c1 => ?_) (fun c1 => ?_)
  · replace h := jite_t h c1
    cases h
    exact j_vret (pc := 44) dX0_giveBack_44 rfl
  · replace h := jite_f h c1
    refine j_aload_n (pc := 7) 0 dX0_giveBack_7 rfl rfl ?_
    refine j_dup (pc := 8) dX0_giveBack_8 rfl ?_
    refine jg_5_0 (pc := 9) dX0_giveBack_9 (hC (5, 0) rfl) tw_252 ?_
    refine j_iconst (pc := 12) dX0_giveBack_12 jci_1 ?_
    refine j_isub (pc := 13) dX0_giveBack_13 ?_
    obtain ⟨S2, eS2, h⟩ := jlk h
    refine jp_8 (pc := 14) dX0_giveBack_14 (hC (5, 0) rfl) tw_252 eS2 ?_
    refine j_aload_n (pc := 17) 0 dX0_giveBack_17 rfl rfl ?_
    refine j_aload_n (pc := 18) 0 dX0_giveBack_18 rfl rfl ?_
    refine jg_5_1 (pc := 19) dX0_giveBack_19 (hC (5, 0) rfl) tw_254 ?_
    refine j_iconst (pc := 22) dX0_giveBack_22 jci_4 ?_
    refine j_iadd (pc := 23) dX0_giveBack_23 ?_
    refine j_iconst (pc := 24) dX0_giveBack_24 jci_1 ?_
    refine j_isub (pc := 25) dX0_giveBack_25 ?_
    refine j_iconst (pc := 26) dX0_giveBack_26 jci_4 ?_
    refine j_irem (pc := 27) dX0_giveBack_27 (by decide) ?_
    obtain ⟨S3, eS3, h⟩ := jlk h
    refine jp_9 (pc := 28) dX0_giveBack_28 (hC (5, 0) rfl) tw_254 eS3 ?_
    refine j_aload_n (pc := 31) 1 dX0_giveBack_31 rfl rfl ?_
    refine j_aload_n (pc := 32) 0 dX0_giveBack_32 rfl rfl ?_
    refine jg_5_2 (pc := 33) dX0_giveBack_33 (hC (5, 0) rfl) tw_255 ?_
    refine j_aload_n (pc := 36) 0 dX0_giveBack_36 rfl rfl ?_
    refine jg_5_1 (pc := 37) dX0_giveBack_37 (hC (5, 0) rfl) tw_254 ?_
    obtain ⟨c4, h⟩ := jchk h
    refine j_aald (pc := 40) dX0_giveBack_40 (hC (6, 0) rfl) c4 ?_
    obtain ⟨y5, hy5, h⟩ := jbnd h
    refine j_callV (pc := 41) (N := mX6_copyFrom) (rr := (2, k)) (As := [.ref (E.1 (2, (S3.1 (9, 0)).toNatClampNeg + 2))]) (rest := []) (v := []) (S1 := y5) dX0_giveBack_41 (kX6_copyFrom hC hk (by omega) hy5) (by simp) (by decide) okX6_copyFrom tw_526 tw_527 tw_525 (hC (2, k) (decide_eq_true hk)) rfl rfl rfl rfl (by simp [Value.category]) ?_
    cases h
    exact j_vret (pc := 44) dX0_giveBack_44 rfl
abbrev mX4_placeOf : jM := (yX4_placeOf, cX4_placeOf, 3, (some .int))
theorem okX4_placeOf : jOK mX4_placeOf 2 := ⟨by decide +kernel, tw_584, tw_73, by decide +kernel, by decide, by decide⟩
def fX4_placeOf (k : Nat) (S : jS) (x1 : Int32) (x2 : Int32) : Option (Int32 × jS) :=
  if jIn x1 18 then some ((x1 * (40 : Int32)) + (((S.2 (35, k) x1.toNatClampNeg) + x2) - ((S.2 (35, k) x1.toNatClampNeg) + x2) / (40 : Int32) * (40 : Int32)), S) else none
set_option maxRecDepth 10000 in
set_option maxHeartbeats 4000000 in
theorem kX4_placeOf {E : jE} (hC : jHC E) {k : Nat} (hk : k < 6) {S : jS} {x1 : Int32} {x2 : Int32} {r : (Int32 × jS)} (h : fX4_placeOf k S x1 x2 = some r) : jMR E 1 mX4_placeOf [.ref (E.1 (4, k)), .int x1, .int x2] S [.int r.1] r.2 := by
  refine ⟨Nat.le_of_ble_eq_true rfl, ?_⟩
  show JR E 1 mX4_placeOf 0 [(0, .ref (E.1 (4, k))), (1, .int x1), (2, .int x2)] [] S [.int r.1] r.2
  unfold fX4_placeOf at h
  refine j_iload_n (pc := 0) 1 dX4_placeOf_0 rfl rfl ?_
  refine j_bipush (pc := 1) dX4_placeOf_1 jcb_40 ?_
  refine j_imul (pc := 3) dX4_placeOf_3 ?_
  refine j_aload_n (pc := 4) 0 dX4_placeOf_4 rfl rfl ?_
  refine jg_4_7 (pc := 5) dX4_placeOf_5 (hC (4, k) (decide_eq_true hk)) tw_212 ?_
  refine j_iload_n (pc := 8) 1 dX4_placeOf_8 rfl rfl ?_
  obtain ⟨c1, h⟩ := jchk h
  refine j_ia (pc := 9) dX4_placeOf_9 rfl (hC (35, k) (decide_eq_true hk)) c1 ?_
  refine j_iload_n (pc := 10) 2 dX4_placeOf_10 rfl rfl ?_
  refine j_iadd (pc := 11) dX4_placeOf_11 ?_
  refine j_bipush (pc := 12) dX4_placeOf_12 jcb_40 ?_
  refine j_irem (pc := 14) dX4_placeOf_14 (by decide) ?_
  refine j_iadd (pc := 15) dX4_placeOf_15 ?_
  cases h
  exact j_iret (pc := 16) dX4_placeOf_16 rfl rfl
abbrev mX4_addOne : jM := (yX4_addOne, cX4_addOne, 3, none)
theorem okX4_addOne : jOK mX4_addOne 2 := ⟨by decide +kernel, tw_580, tw_73, by decide +kernel, by decide, by decide⟩
def fX4_addOne (k : Nat) (S : jS) (x1 : Int32) (x2 : Int32) : Option jS :=
  if jIn x1 18 then (if (S.2 (33, k) x1.toNatClampNeg) < (40 : Int32) then if jIn x1 18 then (fX4_placeOf k S x1 (S.2 (33, k) x1.toNatClampNeg)).bind fun y4 => if jIn y4.1 720 then jlet (jput y4.2 (34, k) (upd (y4.2.2 (34, k)) y4.1.toNatClampNeg x2)) fun S6 => if jIn x1 18 then if jIn x1 18 then jlet (jput S6 (33, k) (upd (S6.2 (33, k)) x1.toNatClampNeg ((S6.2 (33, k) x1.toNatClampNeg) + (1 : Int32)))) fun S9 => some S9 else none else none else none else none else jlet (jset S (7, k) ((S.1 (7, k)) + (1 : Int32))) fun S10 => some S10) else none
set_option maxRecDepth 10000 in
set_option maxHeartbeats 4000000 in
theorem kX4_addOne {E : jE} (hC : jHC E) {k : Nat} (hk : k < 6) {S : jS} {x1 : Int32} {x2 : Int32} {r : jS} (h : fX4_addOne k S x1 x2 = some r) : jMR E 2 mX4_addOne [.ref (E.1 (4, k)), .int x1, .int x2] S [] r := by
  refine ⟨Nat.le_of_ble_eq_true rfl, ?_⟩
  show JR E 2 mX4_addOne 0 [(0, .ref (E.1 (4, k))), (1, .int x1), (2, .int x2)] [] S [] r
  unfold fX4_addOne at h
  refine j_aload_n (pc := 0) 0 dX4_addOne_0 rfl rfl ?_
  refine jg_4_5 (pc := 1) dX4_addOne_1 (hC (4, k) (decide_eq_true hk)) tw_206 ?_
  refine j_iload_n (pc := 4) 1 dX4_addOne_4 rfl rfl ?_
  obtain ⟨c1, h⟩ := jchk h
  refine j_ia (pc := 5) dX4_addOne_5 rfl (hC (33, k) (decide_eq_true hk)) c1 ?_
  refine j_bipush (pc := 6) dX4_addOne_6 jcb_40 ?_
  refine j_icmp_lt (pc := 8) (tgt := 22) dX4_addOne_8 (by decide) (fun c2 => ?_) (fun c2 => ?_)
  · replace h := jite_t h c2
    refine j_aload_n (pc := 22) 0 dX4_addOne_22 rfl rfl ?_
    refine jg_4_6 (pc := 23) dX4_addOne_23 (hC (4, k) (decide_eq_true hk)) tw_211 ?_
    refine j_aload_n (pc := 26) 0 dX4_addOne_26 rfl rfl ?_
    refine j_iload_n (pc := 27) 1 dX4_addOne_27 rfl rfl ?_
    refine j_aload_n (pc := 28) 0 dX4_addOne_28 rfl rfl ?_
    refine jg_4_5 (pc := 29) dX4_addOne_29 (hC (4, k) (decide_eq_true hk)) tw_206 ?_
    refine j_iload_n (pc := 32) 1 dX4_addOne_32 rfl rfl ?_
    obtain ⟨c3, h⟩ := jchk h
    refine j_ia (pc := 33) dX4_addOne_33 rfl (hC (33, k) (decide_eq_true hk)) c3 ?_
    obtain ⟨y4, hy4, h⟩ := jbnd h
    refine j_callV (pc := 34) (N := mX4_placeOf) (rr := (4, k)) (As := [.int x1, .int (S.2 (33, k) x1.toNatClampNeg)]) (rest := [.ref (E.1 (34, k))]) (v := [.int y4.1]) (S1 := y4.2) dX4_addOne_34 (kX4_placeOf hC hk hy4) (by simp) (by decide) okX4_placeOf tw_583 tw_13 tw_581 (hC (4, k) (decide_eq_true hk)) rfl rfl rfl rfl (by simp [Value.category]) ?_
    refine j_iload_n (pc := 37) 2 dX4_addOne_37 rfl rfl ?_
    obtain ⟨c5, h⟩ := jchk h
    obtain ⟨S6, eS6, h⟩ := jlk h
    refine j_is (pc := 38) dX4_addOne_38 rfl (hC (34, k) (decide_eq_true hk)) c5 eS6 ?_
    refine j_aload_n (pc := 39) 0 dX4_addOne_39 rfl rfl ?_
    refine jg_4_5 (pc := 40) dX4_addOne_40 (hC (4, k) (decide_eq_true hk)) tw_206 ?_
    refine j_iload_n (pc := 43) 1 dX4_addOne_43 rfl rfl ?_
    refine j_dup2 (pc := 44) dX4_addOne_44 rfl rfl ?_
    obtain ⟨c7, h⟩ := jchk h
    refine j_ia (pc := 45) dX4_addOne_45 rfl (hC (33, k) (decide_eq_true hk)) c7 ?_
    refine j_iconst (pc := 46) dX4_addOne_46 jci_1 ?_
    refine j_iadd (pc := 47) dX4_addOne_47 ?_
    obtain ⟨c8, h⟩ := jchk h
    obtain ⟨S9, eS9, h⟩ := jlk h
    refine j_is (pc := 48) dX4_addOne_48 rfl (hC (33, k) (decide_eq_true hk)) c8 eS9 ?_
    cases h
    exact j_vret (pc := 49) dX4_addOne_49 rfl
  · replace h := jite_f h c2
    refine j_aload_n (pc := 11) 0 dX4_addOne_11 rfl rfl ?_
    refine j_dup (pc := 12) dX4_addOne_12 rfl ?_
    refine jg_4_1 (pc := 13) dX4_addOne_13 (hC (4, k) (decide_eq_true hk)) tw_198 ?_
    refine j_iconst (pc := 16) dX4_addOne_16 jci_1 ?_
    refine j_iadd (pc := 17) dX4_addOne_17 ?_
    obtain ⟨S10, eS10, h⟩ := jlk h
    refine jp_7 (pc := 18) dX4_addOne_18 (hC (4, k) (decide_eq_true hk)) tw_198 eS10 ?_
    cases h
    exact j_vret (pc := 21) dX4_addOne_21 rfl
abbrev mX4_arrive : jM := (yX4_arrive, cX4_arrive, 4, none)
theorem okX4_arrive : jOK mX4_arrive 2 := ⟨by decide +kernel, tw_654, tw_73, by decide +kernel, by decide, by decide⟩
def fX4_arrive (k : Nat) (S : jS) (x1 : Int32) (x2 : Int32) : Option jS :=
  jlet ((S.1 (6, k)) - x2) fun v1 => if jIn x1 3 then if jIn x1 3 then jlet (jput S (30, k) (upd (S.2 (30, k)) x1.toNatClampNeg ((S.2 (30, k) x1.toNatClampNeg) + (1 : Int32)))) fun S4 => if jIn x1 3 then if jIn x1 3 then jlet (jput S4 (31, k) (upd (S4.2 (31, k)) x1.toNatClampNeg ((S4.2 (31, k) x1.toNatClampNeg) + v1))) fun S7 => if jIn x1 3 then if jIn x1 3 then jlet (jput S7 (32, k) (upd (S7.2 (32, k)) x1.toNatClampNeg ((if (S7.2 (32, k) x1.toNatClampNeg) < v1 then v1 else (S7.2 (32, k) x1.toNatClampNeg))))) fun S10 => some S10 else none else none else none else none else none else none
set_option maxRecDepth 10000 in
set_option maxHeartbeats 4000000 in
theorem kX4_arrive {E : jE} (hC : jHC E) {k : Nat} (hk : k < 6) {S : jS} {x1 : Int32} {x2 : Int32} {r : jS} (h : fX4_arrive k S x1 x2 = some r) : jMR E 1 mX4_arrive [.ref (E.1 (4, k)), .int x1, .int x2] S [] r := by
  refine ⟨Nat.le_of_ble_eq_true rfl, ?_⟩
  show JR E 1 mX4_arrive 0 [(0, .ref (E.1 (4, k))), (1, .int x1), (2, .int x2)] [] S [] r
  unfold fX4_arrive at h
  refine j_aload_n (pc := 0) 0 dX4_arrive_0 rfl rfl ?_
  refine jg_4_0 (pc := 1) dX4_arrive_1 (hC (4, k) (decide_eq_true hk)) tw_195 ?_
  refine j_iload_n (pc := 4) 2 dX4_arrive_4 rfl rfl ?_
  refine j_isub (pc := 5) dX4_arrive_5 ?_
  obtain ⟨v1, ev1, h⟩ := jlk h
  refine j_topi ev1 ?_
  refine j_istore_n (pc := 6) (lv' := [(3, .int v1), (0, .ref (E.1 (4, k))), (1, .int x1), (2, .int x2)]) dX4_arrive_6 rfl (by decide) rfl ?_
  refine j_aload_n (pc := 7) 1 dX4_arrive_7 rfl rfl ?_
  refine jg_4_2 (pc := 8) dX4_arrive_8 (hC (4, k) (decide_eq_true hk)) tw_200 ?_
  refine j_iload_n (pc := 11) 2 dX4_arrive_11 rfl rfl ?_
  refine j_dup2 (pc := 12) dX4_arrive_12 rfl rfl ?_
  obtain ⟨c2, h⟩ := jchk h
  refine j_ia (pc := 13) dX4_arrive_13 rfl (hC (30, k) (decide_eq_true hk)) c2 ?_
  refine j_iconst (pc := 14) dX4_arrive_14 jci_1 ?_
  refine j_iadd (pc := 15) dX4_arrive_15 ?_
  obtain ⟨c3, h⟩ := jchk h
  obtain ⟨S4, eS4, h⟩ := jlk h
  refine j_is (pc := 16) dX4_arrive_16 rfl (hC (30, k) (decide_eq_true hk)) c3 eS4 ?_
  refine j_aload_n (pc := 17) 1 dX4_arrive_17 rfl rfl ?_
  refine jg_4_3 (pc := 18) dX4_arrive_18 (hC (4, k) (decide_eq_true hk)) tw_202 ?_
  refine j_iload_n (pc := 21) 2 dX4_arrive_21 rfl rfl ?_
  refine j_dup2 (pc := 22) dX4_arrive_22 rfl rfl ?_
  obtain ⟨c5, h⟩ := jchk h
  refine j_ia (pc := 23) dX4_arrive_23 rfl (hC (31, k) (decide_eq_true hk)) c5 ?_
  refine j_iload_n (pc := 24) 0 dX4_arrive_24 rfl rfl ?_
  refine j_iadd (pc := 25) dX4_arrive_25 ?_
  obtain ⟨c6, h⟩ := jchk h
  obtain ⟨S7, eS7, h⟩ := jlk h
  refine j_is (pc := 26) dX4_arrive_26 rfl (hC (31, k) (decide_eq_true hk)) c6 eS7 ?_
  refine j_aload_n (pc := 27) 1 dX4_arrive_27 rfl rfl ?_
  refine jg_4_4 (pc := 28) dX4_arrive_28 (hC (4, k) (decide_eq_true hk)) tw_204 ?_
  refine j_iload_n (pc := 31) 2 dX4_arrive_31 rfl rfl ?_
  refine j_aload_n (pc := 32) 1 dX4_arrive_32 rfl rfl ?_
  refine jg_4_4 (pc := 33) dX4_arrive_33 (hC (4, k) (decide_eq_true hk)) tw_204 ?_
  refine j_iload_n (pc := 36) 2 dX4_arrive_36 rfl rfl ?_
  obtain ⟨c8, h⟩ := jchk h
  refine j_ia (pc := 37) dX4_arrive_37 rfl (hC (32, k) (decide_eq_true hk)) c8 ?_
  refine j_iload_n (pc := 38) 0 dX4_arrive_38 rfl rfl ?_
  refine j_mmax (pc := 39) dX4_arrive_39 tw_655 tw_656 tw_83 tw_657 (by simp) (by simp [Value.category]) ?_
  obtain ⟨c9, h⟩ := jchk h
  obtain ⟨S10, eS10, h⟩ := jlk h
  refine j_is (pc := 42) dX4_arrive_42 rfl (hC (32, k) (decide_eq_true hk)) c9 eS10 ?_
  cases h
  exact j_vret (pc := 43) dX4_arrive_43 rfl
abbrev mX1_bring : jM := (yX1_bring, cX1_bring, 8, none)
theorem okX1_bring : jOK mX1_bring 2 := ⟨by decide +kernel, tw_650, tw_76, by decide +kernel, by decide, by decide⟩
def bX1_bring_113 (k : Nat) (q55 : jS → Int32 → Int32 → Int32 → Int32 → Int32 → Option jS) (S : jS) (x2 : Int32) (x3 : Int32) (x4 : Int32) (x5 : Int32) (x6 : Int32) : Option jS :=
  jlet (x6 + (1 : Int32)) fun v17 => q55 S x2 x3 x4 x5 v17
set_option maxRecDepth 10000 in
set_option maxHeartbeats 4000000 in
theorem lX1_bring_113 {E : jE} (hC : jHC E) {k : Nat} (hk : k < 6) {q55 : jS → Int32 → Int32 → Int32 → Int32 → Int32 → Option jS} (H55 : ∀ {S : jS} {x2 : Int32} {x3 : Int32} {x4 : Int32} {x5 : Int32} {x6 : Int32} {r : jS}, q55 S x2 x3 x4 x5 x6 = some r → JR E 3 mX1_bring 55 [(0, .ref (E.1 (8, 0))), (1, .ref (E.1 (2, k))), (2, .int x2), (3, .int x3), (4, .int x4), (5, .int x5), (6, .int x6)] [] S [] r) {S : jS} {x2 : Int32} {x3 : Int32} {x4 : Int32} {x5 : Int32} {x6 : Int32} {r : jS} (h : bX1_bring_113 k q55 S x2 x3 x4 x5 x6 = some r) : JR E 3 mX1_bring 113 [(0, .ref (E.1 (8, 0))), (1, .ref (E.1 (2, k))), (2, .int x2), (3, .int x3), (4, .int x4), (5, .int x5), (6, .int x6)] [] S [] r := by
  unfold bX1_bring_113 at h
  obtain ⟨v17, ev17, h⟩ := jlk h
  refine j_iinc (pc := 113) (v := v17) (lv' := [(6, .int v17), (0, .ref (E.1 (8, 0))), (1, .ref (E.1 (2, k))), (2, .int x2), (3, .int x3), (4, .int x4), (5, .int x5)]) 6 dX1_bring_113 rfl (by rw [ev17]; rfl) (by decide) rfl ?_
  refine j_goto (pc := 116) (tgt := 55) dX1_bring_116 (by decide) ?_
  exact j_sub [1, 2, 3, 4, 5, 6, 0] rfl (H55 h)
def bX1_bring_55 (k : Nat) (q55 : jS → Int32 → Int32 → Int32 → Int32 → Int32 → Option jS) (S : jS) (x2 : Int32) (x3 : Int32) (x4 : Int32) (x5 : Int32) (x6 : Int32) : Option jS :=
  if jIn x2 10 then (if (S.2 (43, 0) x2.toNatClampNeg) ≤ x6 then some S else if jIn ((x2 * (9 : Int32)) + x6) 90 then jlet (S.2 (44, 0) ((x2 * (9 : Int32)) + x6).toNatClampNeg) fun v12 => (if x5 = 0 then (fX7_spot S x4 x3).bind fun y14 => (fX4_addOne k y14.2 y14.1 v12).bind fun y15 => bX1_bring_113 k q55 y15 x2 x3 x4 x5 x6 else (fX4_arrive k S x3 v12).bind fun y16 => bX1_bring_113 k q55 y16 x2 x3 x4 x5 x6) else none) else none
set_option maxRecDepth 10000 in
set_option maxHeartbeats 4000000 in
theorem lX1_bring_55 {E : jE} (hC : jHC E) {k : Nat} (hk : k < 6) {q55 : jS → Int32 → Int32 → Int32 → Int32 → Int32 → Option jS} (H55 : ∀ {S : jS} {x2 : Int32} {x3 : Int32} {x4 : Int32} {x5 : Int32} {x6 : Int32} {r : jS}, q55 S x2 x3 x4 x5 x6 = some r → JR E 3 mX1_bring 55 [(0, .ref (E.1 (8, 0))), (1, .ref (E.1 (2, k))), (2, .int x2), (3, .int x3), (4, .int x4), (5, .int x5), (6, .int x6)] [] S [] r) {S : jS} {x2 : Int32} {x3 : Int32} {x4 : Int32} {x5 : Int32} {x6 : Int32} {r : jS} (h : bX1_bring_55 k q55 S x2 x3 x4 x5 x6 = some r) : JR E 3 mX1_bring 55 [(0, .ref (E.1 (8, 0))), (1, .ref (E.1 (2, k))), (2, .int x2), (3, .int x3), (4, .int x4), (5, .int x5), (6, .int x6)] [] S [] r := by
  unfold bX1_bring_55 at h
  refine j_iload (pc := 55) 6 dX1_bring_55 rfl ?_
  refine j_aload_n (pc := 57) 0 dX1_bring_57 rfl rfl ?_
  refine jg_8_2 (pc := 58) dX1_bring_58 (hC (8, 0) rfl) tw_299 ?_
  refine j_iload_n (pc := 61) 2 dX1_bring_61 rfl rfl ?_
  obtain ⟨c9, h⟩ := jchk h
  refine j_ia (pc := 62) dX1_bring_62 rfl (hC (43, 0) rfl) c9 ?_
  refine j_icmp_ge (pc := 63) (tgt := 119) dX1_bring_63 (by decide) (fun c10 => ?_) (fun c10 => ?_)
  · replace h := jite_t h c10
    cases h
    exact j_vret (pc := 119) dX1_bring_119 rfl
  · replace h := jite_f h c10
    refine j_aload_n (pc := 66) 0 dX1_bring_66 rfl rfl ?_
    refine jg_8_3 (pc := 67) dX1_bring_67 (hC (8, 0) rfl) tw_300 ?_
    refine j_iload_n (pc := 70) 2 dX1_bring_70 rfl rfl ?_
    refine j_bipush (pc := 71) dX1_bring_71 jcb_9 ?_
    refine j_imul (pc := 73) dX1_bring_73 ?_
    refine j_iload (pc := 74) 6 dX1_bring_74 rfl ?_
    refine j_iadd (pc := 76) dX1_bring_76 ?_
    obtain ⟨c11, h⟩ := jchk h
    refine j_ia (pc := 77) dX1_bring_77 rfl (hC (44, 0) rfl) c11 ?_
    obtain ⟨v12, ev12, h⟩ := jlk h
    refine j_topi ev12 ?_
    refine j_istore (pc := 78) (lv' := [(7, .int v12), (0, .ref (E.1 (8, 0))), (1, .ref (E.1 (2, k))), (2, .int x2), (3, .int x3), (4, .int x4), (5, .int x5), (6, .int x6)]) dX1_bring_78 (by decide) rfl ?_
    refine j_iload (pc := 80) 6 dX1_bring_80 rfl ?_
    refine j_if_eq (pc := 82) (tgt := 98) dX1_bring_82 (by decide) (fun c13 => ?_) (fun c13 => ?_)
    · replace h := jite_t h c13
      refine j_aload_n (pc := 98) 2 dX1_bring_98 rfl rfl ?_
      refine jg_2_1 (pc := 99) dX1_bring_99 (hC (2, k) (decide_eq_true hk)) tw_235 ?_
      refine j_iload (pc := 102) 5 dX1_bring_102 rfl ?_
      refine j_iload_n (pc := 104) 4 dX1_bring_104 rfl rfl ?_
      obtain ⟨y14, hy14, h⟩ := jbnd h
      refine j_callN (pc := 105) (N := mX7_spot) (host := "DropQueues") (As := [.int x4, .int x3]) (rest := [.ref (E.1 (4, k))]) (v := [.int y14.1]) (S1 := y14.2) dX1_bring_105 (kX7_spot hC hy14) (by simp) (by decide) okX7_spot tw_441 (by decide) rfl rfl (by simp [Value.category]) ?_
      refine j_iload (pc := 108) 0 dX1_bring_108 rfl ?_
      obtain ⟨y15, hy15, h⟩ := jbnd h
      refine j_callV (pc := 110) (N := mX4_addOne) (rr := (4, k)) (As := [.int y14.1, .int v12]) (rest := []) (v := []) (S1 := y15) dX1_bring_110 (kX4_addOne hC hk hy15) (by simp) (by decide) okX4_addOne tw_578 tw_579 tw_658 (hC (4, k) (decide_eq_true hk)) rfl rfl rfl rfl (by simp [Value.category]) ?_
      exact j_sub [1, 2, 3, 4, 5, 6, 7] rfl (lX1_bring_113 hC hk H55 h)
    · replace h := jite_f h c13
      refine j_aload_n (pc := 85) 2 dX1_bring_85 rfl rfl ?_
      refine jg_2_1 (pc := 86) dX1_bring_86 (hC (2, k) (decide_eq_true hk)) tw_235 ?_
      refine j_iload_n (pc := 89) 4 dX1_bring_89 rfl rfl ?_
      refine j_iload (pc := 90) 0 dX1_bring_90 rfl ?_
      obtain ⟨y16, hy16, h⟩ := jbnd h
      refine j_callV (pc := 92) (N := mX4_arrive) (rr := (4, k)) (As := [.int x3, .int v12]) (rest := []) (v := []) (S1 := y16) dX1_bring_92 (kX4_arrive hC hk hy16) (by simp) (by decide) okX4_arrive tw_652 tw_653 tw_651 (hC (4, k) (decide_eq_true hk)) rfl rfl rfl rfl (by simp [Value.category]) ?_
      refine j_goto (pc := 95) (tgt := 113) dX1_bring_95 (by decide) ?_
      exact j_sub [1, 2, 3, 4, 5, 6, 7] rfl (lX1_bring_113 hC hk H55 h)
def fX1_bring_55 (k : Nat) : Nat → jS → Int32 → Int32 → Int32 → Int32 → Int32 → Option jS
  | 0 => fun _ _ _ _ _ _ => none
  | n + 1 => bX1_bring_55 k (fX1_bring_55 k n)
theorem kX1_bring_55 {E : jE} (hC : jHC E) {k : Nat} (hk : k < 6) (fu : Nat) : ∀ {S : jS} {x2 : Int32} {x3 : Int32} {x4 : Int32} {x5 : Int32} {x6 : Int32} {r : jS}, fX1_bring_55 k fu S x2 x3 x4 x5 x6 = some r → JR E 3 mX1_bring 55 [(0, .ref (E.1 (8, 0))), (1, .ref (E.1 (2, k))), (2, .int x2), (3, .int x3), (4, .int x4), (5, .int x5), (6, .int x6)] [] S [] r := by
  induction fu with
  | zero => intro S x2 x3 x4 x5 x6 r h; cases h
  | succ n_ ih => intro S x2 x3 x4 x5 x6 r h; exact lX1_bring_55 hC hk ih h
def bX1_bring_50 (k : Nat) (S : jS) (x2 : Int32) (x3 : Int32) (x4 : Int32) (t0 : Int32) : Option jS :=
  fX1_bring_55 k 5000 S x2 x3 x4 t0 (0 : Int32)
set_option maxRecDepth 10000 in
set_option maxHeartbeats 4000000 in
theorem lX1_bring_50 {E : jE} (hC : jHC E) {k : Nat} (hk : k < 6) {S : jS} {x2 : Int32} {x3 : Int32} {x4 : Int32} {t0 : Int32} {r : jS} (h : bX1_bring_50 k S x2 x3 x4 t0 = some r) : JR E 3 mX1_bring 50 [(0, .ref (E.1 (8, 0))), (1, .ref (E.1 (2, k))), (2, .int x2), (3, .int x3), (4, .int x4)] [.int t0] S [] r := by
  unfold bX1_bring_50 at h
  refine j_istore (pc := 50) (lv' := [(5, .int t0), (0, .ref (E.1 (8, 0))), (1, .ref (E.1 (2, k))), (2, .int x2), (3, .int x3), (4, .int x4)]) dX1_bring_50 (by decide) rfl ?_
  refine j_iconst (pc := 52) dX1_bring_52 jci_0 ?_
  refine j_istore (pc := 53) (lv' := [(6, .int (0 : Int32)), (5, .int t0), (0, .ref (E.1 (8, 0))), (1, .ref (E.1 (2, k))), (2, .int x2), (3, .int x3), (4, .int x4)]) dX1_bring_53 (by decide) rfl ?_
  exact j_sub [2, 3, 4, 5, 6, 1, 0] rfl (kX1_bring_55 hC hk 5000 h)
def fX1_bring (k : Nat) (S : jS) (x2 : Int32) : Option jS :=
  if jIn x2 10 then (if (S.2 (43, 0) x2.toNatClampNeg) = 0 then some S else if jIn x2 10 then jlet (S.2 (40, 1) x2.toNatClampNeg) fun v4 => if jIn x2 10 then jlet (S.2 (22, k) x2.toNatClampNeg) fun v6 => if jIn v4 3 then (if (S.2 (20, k) v4.toNatClampNeg) = v6 then bX1_bring_50 k S x2 v4 v6 (1 : Int32) else bX1_bring_50 k S x2 v4 v6 (0 : Int32)) else none else none else none) else none
set_option maxRecDepth 10000 in
set_option maxHeartbeats 4000000 in
theorem kX1_bring {E : jE} (hC : jHC E) {k : Nat} (hk : k < 6) {S : jS} {x2 : Int32} {r : jS} (h : fX1_bring k S x2 = some r) : jMR E 3 mX1_bring [.ref (E.1 (8, 0)), .ref (E.1 (2, k)), .int x2] S [] r := by
  refine ⟨Nat.le_of_ble_eq_true rfl, ?_⟩
  show JR E 3 mX1_bring 0 [(0, .ref (E.1 (8, 0))), (1, .ref (E.1 (2, k))), (2, .int x2)] [] S [] r
  unfold fX1_bring at h
  refine j_aload_n (pc := 0) 0 dX1_bring_0 rfl rfl ?_
  refine jg_8_2 (pc := 1) dX1_bring_1 (hC (8, 0) rfl) tw_299 ?_
  refine j_iload_n (pc := 4) 2 dX1_bring_4 rfl rfl ?_
  obtain ⟨c1, h⟩ := jchk h
  refine j_ia (pc := 5) dX1_bring_5 rfl (hC (43, 0) rfl) c1 ?_
  refine j_if_ne (pc := 6) (tgt := 10) dX1_bring_6 (by decide) (fun c2 => ?_) (fun c2 => ?_)
  · replace h := jite_f h c2
    refine j_aload_n (pc := 10) 0 dX1_bring_10 rfl rfl ?_
    refine jg_8_1 (pc := 11) dX1_bring_11 (hC (8, 0) rfl) tw_298 ?_
    refine jg_7_2 (pc := 14) dX1_bring_14 (hC (7, 1) rfl) tw_275 ?_
    refine j_iload_n (pc := 17) 2 dX1_bring_17 rfl rfl ?_
    obtain ⟨c3, h⟩ := jchk h
    refine j_ia (pc := 18) dX1_bring_18 rfl (hC (40, 1) rfl) c3 ?_
    obtain ⟨v4, ev4, h⟩ := jlk h
    refine j_topi ev4 ?_
    refine j_istore_n (pc := 19) (lv' := [(3, .int v4), (0, .ref (E.1 (8, 0))), (1, .ref (E.1 (2, k))), (2, .int x2)]) dX1_bring_19 rfl (by decide) rfl ?_
    refine j_aload_n (pc := 20) 2 dX1_bring_20 rfl rfl ?_
    refine jg_2_0 (pc := 21) dX1_bring_21 (hC (2, k) (decide_eq_true hk)) tw_232 ?_
    refine jg_3_7 (pc := 24) dX1_bring_24 (hC (3, k) (decide_eq_true hk)) tw_151 ?_
    refine j_iload_n (pc := 27) 3 dX1_bring_27 rfl rfl ?_
    obtain ⟨c5, h⟩ := jchk h
    refine j_ia (pc := 28) dX1_bring_28 rfl (hC (22, k) (decide_eq_true hk)) c5 ?_
    obtain ⟨v6, ev6, h⟩ := jlk h
    refine j_topi ev6 ?_
    refine j_istore (pc := 29) (lv' := [(4, .int v6), (3, .int v4), (0, .ref (E.1 (8, 0))), (1, .ref (E.1 (2, k))), (2, .int x2)]) dX1_bring_29 (by decide) rfl ?_
    refine j_aload_n (pc := 31) 3 dX1_bring_31 rfl rfl ?_
    refine jg_2_0 (pc := 32) dX1_bring_32 (hC (2, k) (decide_eq_true hk)) tw_232 ?_
    refine jg_3_5 (pc := 35) dX1_bring_35 (hC (3, k) (decide_eq_true hk)) tw_142 ?_
    refine j_iload_n (pc := 38) 1 dX1_bring_38 rfl rfl ?_
    obtain ⟨c7, h⟩ := jchk h
    refine j_ia (pc := 39) dX1_bring_39 rfl (hC (20, k) (decide_eq_true hk)) c7 ?_
    refine j_iload (pc := 40) 0 dX1_bring_40 rfl ?_
    refine j_icmp_ne (pc := 42) (tgt := 49) dX1_bring_42 (by decide) (fun c8 => ?_) (fun c8 => ?_)
    · replace h := jite_f h c8
      refine j_iconst (pc := 49) dX1_bring_49 jci_0 ?_
      exact j_sub [2, 3, 4, 1, 0] rfl (lX1_bring_50 hC hk h)
    · replace h := jite_t h c8
      refine j_iconst (pc := 45) dX1_bring_45 jci_1 ?_
      refine j_goto (pc := 46) (tgt := 50) dX1_bring_46 (by decide) ?_
      exact j_sub [2, 3, 4, 1, 0] rfl (lX1_bring_50 hC hk h)
  · replace h := jite_t h c2
    cases h
    exact j_vret (pc := 9) dX1_bring_9 rfl
abbrev mX4_addMany : jM := (yX4_addMany, cX4_addMany, 5, none)
theorem okX4_addMany : jOK mX4_addMany 3 := ⟨by decide +kernel, tw_576, tw_73, by decide +kernel, by decide, by decide⟩
def bX4_addMany_3 (k : Nat) (q3 : jS → Int32 → Int32 → Int32 → Int32 → Option jS) (S : jS) (x1 : Int32) (x2 : Int32) (x3 : Int32) (x4 : Int32) : Option jS :=
  (if x2 ≤ x4 then some S else (fX4_addOne k S x1 x3).bind fun y2 => jlet (x4 + (1 : Int32)) fun v3 => q3 y2 x1 x2 x3 v3)
set_option maxRecDepth 10000 in
set_option maxHeartbeats 4000000 in
theorem lX4_addMany_3 {E : jE} (hC : jHC E) {k : Nat} (hk : k < 6) {q3 : jS → Int32 → Int32 → Int32 → Int32 → Option jS} (H3 : ∀ {S : jS} {x1 : Int32} {x2 : Int32} {x3 : Int32} {x4 : Int32} {r : jS}, q3 S x1 x2 x3 x4 = some r → JR E 3 mX4_addMany 3 [(0, .ref (E.1 (4, k))), (1, .int x1), (2, .int x2), (3, .int x3), (4, .int x4)] [] S [] r) {S : jS} {x1 : Int32} {x2 : Int32} {x3 : Int32} {x4 : Int32} {r : jS} (h : bX4_addMany_3 k q3 S x1 x2 x3 x4 = some r) : JR E 3 mX4_addMany 3 [(0, .ref (E.1 (4, k))), (1, .int x1), (2, .int x2), (3, .int x3), (4, .int x4)] [] S [] r := by
  unfold bX4_addMany_3 at h
  refine j_iload (pc := 3) 4 dX4_addMany_3 rfl ?_
  refine j_iload_n (pc := 5) 2 dX4_addMany_5 rfl rfl ?_
  refine j_icmp_ge (pc := 6) (tgt := 21) dX4_addMany_6 (by decide) (fun c1 => ?_) (fun c1 => ?_)
  · replace h := jite_t h c1
    cases h
    exact j_vret (pc := 21) dX4_addMany_21 rfl
  · replace h := jite_f h c1
    refine j_aload_n (pc := 9) 0 dX4_addMany_9 rfl rfl ?_
    refine j_iload_n (pc := 10) 1 dX4_addMany_10 rfl rfl ?_
    refine j_iload_n (pc := 11) 3 dX4_addMany_11 rfl rfl ?_
    obtain ⟨y2, hy2, h⟩ := jbnd h
    refine j_callV (pc := 12) (N := mX4_addOne) (rr := (4, k)) (As := [.int x1, .int x3]) (rest := []) (v := []) (S1 := y2) dX4_addMany_12 (kX4_addOne hC hk hy2) (by simp) (by decide) okX4_addOne tw_578 tw_579 tw_577 (hC (4, k) (decide_eq_true hk)) rfl rfl rfl rfl (by simp [Value.category]) ?_
    obtain ⟨v3, ev3, h⟩ := jlk h
    refine j_iinc (pc := 15) (v := v3) (lv' := [(4, .int v3), (0, .ref (E.1 (4, k))), (1, .int x1), (2, .int x2), (3, .int x3)]) 4 dX4_addMany_15 rfl (by rw [ev3]; rfl) (by decide) rfl ?_
    refine j_goto (pc := 18) (tgt := 3) dX4_addMany_18 (by decide) ?_
    exact j_sub [1, 2, 3, 4, 0] rfl (H3 h)
def fX4_addMany_3 (k : Nat) : Nat → jS → Int32 → Int32 → Int32 → Int32 → Option jS
  | 0 => fun _ _ _ _ _ => none
  | n + 1 => bX4_addMany_3 k (fX4_addMany_3 k n)
theorem kX4_addMany_3 {E : jE} (hC : jHC E) {k : Nat} (hk : k < 6) (fu : Nat) : ∀ {S : jS} {x1 : Int32} {x2 : Int32} {x3 : Int32} {x4 : Int32} {r : jS}, fX4_addMany_3 k fu S x1 x2 x3 x4 = some r → JR E 3 mX4_addMany 3 [(0, .ref (E.1 (4, k))), (1, .int x1), (2, .int x2), (3, .int x3), (4, .int x4)] [] S [] r := by
  induction fu with
  | zero => intro S x1 x2 x3 x4 r h; cases h
  | succ n_ ih => intro S x1 x2 x3 x4 r h; exact lX4_addMany_3 hC hk ih h
def fX4_addMany (k : Nat) (S : jS) (x1 : Int32) (x2 : Int32) (x3 : Int32) : Option jS :=
  fX4_addMany_3 k 5000 S x1 x2 x3 (0 : Int32)
set_option maxRecDepth 10000 in
set_option maxHeartbeats 4000000 in
theorem kX4_addMany {E : jE} (hC : jHC E) {k : Nat} (hk : k < 6) {S : jS} {x1 : Int32} {x2 : Int32} {x3 : Int32} {r : jS} (h : fX4_addMany k S x1 x2 x3 = some r) : jMR E 3 mX4_addMany [.ref (E.1 (4, k)), .int x1, .int x2, .int x3] S [] r := by
  refine ⟨Nat.le_of_ble_eq_true rfl, ?_⟩
  show JR E 3 mX4_addMany 0 [(0, .ref (E.1 (4, k))), (1, .int x1), (2, .int x2), (3, .int x3)] [] S [] r
  unfold fX4_addMany at h
  refine j_iconst (pc := 0) dX4_addMany_0 jci_0 ?_
  refine j_istore (pc := 1) (lv' := [(4, .int (0 : Int32)), (0, .ref (E.1 (4, k))), (1, .int x1), (2, .int x2), (3, .int x3)]) dX4_addMany_1 (by decide) rfl ?_
  exact j_sub [1, 2, 3, 4, 0] rfl (kX4_addMany_3 hC hk 5000 h)
abbrev mX1_bringFeeds : jM := (yX1_bringFeeds, cX1_bringFeeds, 5, none)
theorem okX1_bringFeeds : jOK mX1_bringFeeds 2 := ⟨by decide +kernel, tw_661, tw_76, by decide +kernel, by decide, by decide⟩
def bX1_bringFeeds_15 (k : Nat) (a : jR) (q2 : jS → Int32 → Option jS) (q15 : jS → Int32 → Int32 → Option jS) (S : jS) (x2 : Int32) (x3 : Int32) : Option jS :=
  (if (S.1 (2, k)) ≤ x3 then jlet (x2 + (1 : Int32)) fun v3 => q2 S v3 else (fX7_spot S x2 x3).bind fun y4 => if jIn y4.1 (jlen a.1) then (fX4_addMany k y4.2 y4.1 (y4.2.2 a y4.1.toNatClampNeg) (y4.2.1 (6, k))).bind fun y6 => jlet (x3 + (1 : Int32)) fun v7 => q15 y6 x2 v7 else none)
set_option maxRecDepth 10000 in
set_option maxHeartbeats 4000000 in
theorem lX1_bringFeeds_15 {E : jE} (hC : jHC E) {k : Nat} (hk : k < 6) {a : jR} (ha : jIA E a) {q2 : jS → Int32 → Option jS} (H2 : ∀ {S : jS} {x2 : Int32} {r : jS}, q2 S x2 = some r → JR E 4 mX1_bringFeeds 2 [(0, .ref (E.1 (2, k))), (1, .ref (E.1 a)), (2, .int x2)] [] S [] r) {q15 : jS → Int32 → Int32 → Option jS} (H15 : ∀ {S : jS} {x2 : Int32} {x3 : Int32} {r : jS}, q15 S x2 x3 = some r → JR E 4 mX1_bringFeeds 15 [(0, .ref (E.1 (2, k))), (1, .ref (E.1 a)), (2, .int x2), (3, .int x3)] [] S [] r) {S : jS} {x2 : Int32} {x3 : Int32} {r : jS} (h : bX1_bringFeeds_15 k a q2 q15 S x2 x3 = some r) : JR E 4 mX1_bringFeeds 15 [(0, .ref (E.1 (2, k))), (1, .ref (E.1 a)), (2, .int x2), (3, .int x3)] [] S [] r := by
  unfold bX1_bringFeeds_15 at h
  refine j_iload_n (pc := 15) 3 dX1_bringFeeds_15 rfl rfl ?_
  refine j_aload_n (pc := 16) 0 dX1_bringFeeds_16 rfl rfl ?_
  refine jg_2_0 (pc := 17) dX1_bringFeeds_17 (hC (2, k) (decide_eq_true hk)) tw_232 ?_
  refine jg_3_1 (pc := 20) dX1_bringFeeds_20 (hC (3, k) (decide_eq_true hk)) tw_129 ?_
  refine j_icmp_ge (pc := 23) (tgt := 59) dX1_bringFeeds_23 (by decide) (fun c2 => ?_) (fun c2 => ?_)
  · replace h := jite_t h c2
    obtain ⟨v3, ev3, h⟩ := jlk h
    refine j_iinc (pc := 59) (v := v3) (lv' := [(2, .int v3), (0, .ref (E.1 (2, k))), (1, .ref (E.1 a)), (3, .int x3)]) 2 dX1_bringFeeds_59 rfl (by rw [ev3]; rfl) (by decide) rfl ?_
    refine j_goto (pc := 62) (tgt := 2) dX1_bringFeeds_62 (by decide) ?_
    exact j_sub [1, 2, 0] rfl (H2 h)
  · replace h := jite_f h c2
    refine j_iload_n (pc := 26) 2 dX1_bringFeeds_26 rfl rfl ?_
    refine j_iload_n (pc := 27) 3 dX1_bringFeeds_27 rfl rfl ?_
    obtain ⟨y4, hy4, h⟩ := jbnd h
    refine j_callN (pc := 28) (N := mX7_spot) (host := "DropQueues") (As := [.int x2, .int x3]) (rest := []) (v := [.int y4.1]) (S1 := y4.2) dX1_bringFeeds_28 (kX7_spot hC hy4) (by simp) (by decide) okX7_spot tw_441 (by decide) rfl rfl (by simp [Value.category]) ?_
    refine j_istore (pc := 31) (lv' := [(4, .int y4.1), (0, .ref (E.1 (2, k))), (1, .ref (E.1 a)), (2, .int x2), (3, .int x3)]) dX1_bringFeeds_31 (by decide) rfl ?_
    refine j_aload_n (pc := 33) 1 dX1_bringFeeds_33 rfl rfl ?_
    refine jg_2_1 (pc := 34) dX1_bringFeeds_34 (hC (2, k) (decide_eq_true hk)) tw_235 ?_
    refine j_iload (pc := 37) 0 dX1_bringFeeds_37 rfl ?_
    refine j_aload_n (pc := 39) 2 dX1_bringFeeds_39 rfl rfl ?_
    refine j_iload (pc := 40) 0 dX1_bringFeeds_40 rfl ?_
    obtain ⟨c5, h⟩ := jchk h
    refine j_iaA (pc := 42) dX1_bringFeeds_42 ha c5 ?_
    refine j_aload_n (pc := 43) 1 dX1_bringFeeds_43 rfl rfl ?_
    refine jg_2_1 (pc := 44) dX1_bringFeeds_44 (hC (2, k) (decide_eq_true hk)) tw_235 ?_
    refine jg_4_0 (pc := 47) dX1_bringFeeds_47 (hC (4, k) (decide_eq_true hk)) tw_196 ?_
    obtain ⟨y6, hy6, h⟩ := jbnd h
    refine j_callV (pc := 50) (N := mX4_addMany) (rr := (4, k)) (As := [.int y4.1, .int (y4.2.2 a y4.1.toNatClampNeg), .int (y4.2.1 (6, k))]) (rest := []) (v := []) (S1 := y6) dX1_bringFeeds_50 (kX4_addMany hC hk hy6) (by simp) (by decide) okX4_addMany tw_574 tw_575 tw_662 (hC (4, k) (decide_eq_true hk)) rfl rfl rfl rfl (by simp [Value.category]) ?_
    obtain ⟨v7, ev7, h⟩ := jlk h
    refine j_iinc (pc := 53) (v := v7) (lv' := [(3, .int v7), (4, .int y4.1), (0, .ref (E.1 (2, k))), (1, .ref (E.1 a)), (2, .int x2)]) 4 dX1_bringFeeds_53 rfl (by rw [ev7]; rfl) (by decide) rfl ?_
    refine j_goto (pc := 56) (tgt := 15) dX1_bringFeeds_56 (by decide) ?_
    exact j_sub [2, 3, 4, 0] rfl (H15 h)
def fX1_bringFeeds_15 (k : Nat) (a : jR) (q2 : jS → Int32 → Option jS) : Nat → jS → Int32 → Int32 → Option jS
  | 0 => fun _ _ _ => none
  | n + 1 => bX1_bringFeeds_15 k a q2 (fX1_bringFeeds_15 k a q2 n)
theorem kX1_bringFeeds_15 {E : jE} (hC : jHC E) {k : Nat} (hk : k < 6) {a : jR} (ha : jIA E a) {q2 : jS → Int32 → Option jS} (H2 : ∀ {S : jS} {x2 : Int32} {r : jS}, q2 S x2 = some r → JR E 4 mX1_bringFeeds 2 [(0, .ref (E.1 (2, k))), (1, .ref (E.1 a)), (2, .int x2)] [] S [] r) (fu : Nat) : ∀ {S : jS} {x2 : Int32} {x3 : Int32} {r : jS}, fX1_bringFeeds_15 k a q2 fu S x2 x3 = some r → JR E 4 mX1_bringFeeds 15 [(0, .ref (E.1 (2, k))), (1, .ref (E.1 a)), (2, .int x2), (3, .int x3)] [] S [] r := by
  induction fu with
  | zero => intro S x2 x3 r h; cases h
  | succ n_ ih => intro S x2 x3 r h; exact lX1_bringFeeds_15 hC hk ha H2 ih h
def bX1_bringFeeds_2 (k : Nat) (a : jR) (q2 : jS → Int32 → Option jS) (S : jS) (x2 : Int32) : Option jS :=
  (if (S.1 (1, k)) ≤ x2 then some S else fX1_bringFeeds_15 k a q2 5000 S x2 (0 : Int32))
set_option maxRecDepth 10000 in
set_option maxHeartbeats 4000000 in
theorem lX1_bringFeeds_2 {E : jE} (hC : jHC E) {k : Nat} (hk : k < 6) {a : jR} (ha : jIA E a) {q2 : jS → Int32 → Option jS} (H2 : ∀ {S : jS} {x2 : Int32} {r : jS}, q2 S x2 = some r → JR E 4 mX1_bringFeeds 2 [(0, .ref (E.1 (2, k))), (1, .ref (E.1 a)), (2, .int x2)] [] S [] r) {S : jS} {x2 : Int32} {r : jS} (h : bX1_bringFeeds_2 k a q2 S x2 = some r) : JR E 4 mX1_bringFeeds 2 [(0, .ref (E.1 (2, k))), (1, .ref (E.1 a)), (2, .int x2)] [] S [] r := by
  unfold bX1_bringFeeds_2 at h
  refine j_iload_n (pc := 2) 2 dX1_bringFeeds_2 rfl rfl ?_
  refine j_aload_n (pc := 3) 0 dX1_bringFeeds_3 rfl rfl ?_
  refine jg_2_0 (pc := 4) dX1_bringFeeds_4 (hC (2, k) (decide_eq_true hk)) tw_232 ?_
  refine jg_3_0 (pc := 7) dX1_bringFeeds_7 (hC (3, k) (decide_eq_true hk)) tw_126 ?_
  refine j_icmp_ge (pc := 10) (tgt := 65) dX1_bringFeeds_10 (by decide) (fun c1 => ?_) (fun c1 => ?_)
  · replace h := jite_t h c1
    cases h
    exact j_vret (pc := 65) dX1_bringFeeds_65 rfl
  · replace h := jite_f h c1
    refine j_iconst (pc := 13) dX1_bringFeeds_13 jci_0 ?_
    refine j_istore_n (pc := 14) (lv' := [(3, .int (0 : Int32)), (0, .ref (E.1 (2, k))), (1, .ref (E.1 a)), (2, .int x2)]) dX1_bringFeeds_14 rfl (by decide) rfl ?_
    exact j_sub [1, 2, 3, 0] rfl (kX1_bringFeeds_15 hC hk ha H2 5000 h)
def fX1_bringFeeds_2 (k : Nat) (a : jR) : Nat → jS → Int32 → Option jS
  | 0 => fun _ _ => none
  | n + 1 => bX1_bringFeeds_2 k a (fX1_bringFeeds_2 k a n)
theorem kX1_bringFeeds_2 {E : jE} (hC : jHC E) {k : Nat} (hk : k < 6) {a : jR} (ha : jIA E a) (fu : Nat) : ∀ {S : jS} {x2 : Int32} {r : jS}, fX1_bringFeeds_2 k a fu S x2 = some r → JR E 4 mX1_bringFeeds 2 [(0, .ref (E.1 (2, k))), (1, .ref (E.1 a)), (2, .int x2)] [] S [] r := by
  induction fu with
  | zero => intro S x2 r h; cases h
  | succ n_ ih => intro S x2 r h; exact lX1_bringFeeds_2 hC hk ha ih h
def fX1_bringFeeds (k : Nat) (a : jR) (S : jS) : Option jS :=
  fX1_bringFeeds_2 k a 5000 S (0 : Int32)
set_option maxRecDepth 10000 in
set_option maxHeartbeats 4000000 in
theorem kX1_bringFeeds {E : jE} (hC : jHC E) {k : Nat} (hk : k < 6) {a : jR} (ha : jIA E a) {S : jS} {r : jS} (h : fX1_bringFeeds k a S = some r) : jMR E 4 mX1_bringFeeds [.ref (E.1 (2, k)), .ref (E.1 a)] S [] r := by
  refine ⟨Nat.le_of_ble_eq_true rfl, ?_⟩
  show JR E 4 mX1_bringFeeds 0 [(0, .ref (E.1 (2, k))), (1, .ref (E.1 a))] [] S [] r
  unfold fX1_bringFeeds at h
  refine j_iconst (pc := 0) dX1_bringFeeds_0 jci_0 ?_
  refine j_istore_n (pc := 1) (lv' := [(2, .int (0 : Int32)), (0, .ref (E.1 (2, k))), (1, .ref (E.1 a))]) dX1_bringFeeds_1 rfl (by decide) rfl ?_
  exact j_sub [1, 2, 0] rfl (kX1_bringFeeds_2 hC hk ha 5000 h)
abbrev mX4_nextBorn : jM := (yX4_nextBorn, cX4_nextBorn, 3, (some .int))
theorem okX4_nextBorn : jOK mX4_nextBorn 2 := ⟨by decide +kernel, tw_646, tw_73, by decide +kernel, by decide, by decide⟩
def bX4_nextBorn_35 (k : Nat) (S : jS) (t2 : Int32) (t3 : Int32) : Option (Int32 × jS) :=
  (fX4_placeOf k S t2 t3).bind fun y5 => if jIn y5.1 720 then some (y5.2.2 (34, k) y5.1.toNatClampNeg, y5.2) else none
set_option maxRecDepth 10000 in
set_option maxHeartbeats 4000000 in
theorem lX4_nextBorn_35 {E : jE} (hC : jHC E) {k : Nat} (hk : k < 6) {S : jS} {t2 : Int32} {t3 : Int32} {r : (Int32 × jS)} (h : bX4_nextBorn_35 k S t2 t3 = some r) : JR E 2 mX4_nextBorn 35 [] [.int t3, .int t2, .ref (E.1 (4, k)), .ref (E.1 (34, k))] S [.int r.1] r.2 := by
  unfold bX4_nextBorn_35 at h
  obtain ⟨y5, hy5, h⟩ := jbnd h
  refine j_callV (pc := 35) (N := mX4_placeOf) (rr := (4, k)) (As := [.int t2, .int t3]) (rest := [.ref (E.1 (34, k))]) (v := [.int y5.1]) (S1 := y5.2) dX4_nextBorn_35 (kX4_placeOf hC hk hy5) (by simp) (by decide) okX4_placeOf tw_583 tw_13 tw_581 (hC (4, k) (decide_eq_true hk)) rfl rfl rfl rfl (by simp [Value.category]) ?_
  obtain ⟨c6, h⟩ := jchk h
  refine j_ia (pc := 38) dX4_nextBorn_38 rfl (hC (34, k) (decide_eq_true hk)) c6 ?_
  cases h
  exact j_iret (pc := 39) dX4_nextBorn_39 rfl rfl
def fX4_nextBorn (k : Nat) (S : jS) (x1 : Int32) (x2 : Int32) : Option (Int32 × jS) :=
  if jIn x1 18 then (if (S.2 (33, k) x1.toNatClampNeg) = 0 then some ((-4 : Int32), S) else (if x2 = (1 : Int32) then if jIn x1 18 then bX4_nextBorn_35 k S x1 ((S.2 (33, k) x1.toNatClampNeg) - (1 : Int32)) else none else bX4_nextBorn_35 k S x1 (0 : Int32))) else none
set_option maxRecDepth 10000 in
set_option maxHeartbeats 4000000 in
theorem kX4_nextBorn {E : jE} (hC : jHC E) {k : Nat} (hk : k < 6) {S : jS} {x1 : Int32} {x2 : Int32} {r : (Int32 × jS)} (h : fX4_nextBorn k S x1 x2 = some r) : jMR E 2 mX4_nextBorn [.ref (E.1 (4, k)), .int x1, .int x2] S [.int r.1] r.2 := by
  refine ⟨Nat.le_of_ble_eq_true rfl, ?_⟩
  show JR E 2 mX4_nextBorn 0 [(0, .ref (E.1 (4, k))), (1, .int x1), (2, .int x2)] [] S [.int r.1] r.2
  unfold fX4_nextBorn at h
  refine j_aload_n (pc := 0) 0 dX4_nextBorn_0 rfl rfl ?_
  refine jg_4_5 (pc := 1) dX4_nextBorn_1 (hC (4, k) (decide_eq_true hk)) tw_206 ?_
  refine j_iload_n (pc := 4) 1 dX4_nextBorn_4 rfl rfl ?_
  obtain ⟨c1, h⟩ := jchk h
  refine j_ia (pc := 5) dX4_nextBorn_5 rfl (hC (33, k) (decide_eq_true hk)) c1 ?_
  refine j_if_ne (pc := 6) (tgt := 12) dX4_nextBorn_6 (by decide) (fun c2 => ?_) (fun c2 => ?_)
  · replace h := jite_f h c2
    refine j_aload_n (pc := 12) 0 dX4_nextBorn_12 rfl rfl ?_
    refine jg_4_6 (pc := 13) dX4_nextBorn_13 (hC (4, k) (decide_eq_true hk)) tw_211 ?_
    refine j_aload_n (pc := 16) 0 dX4_nextBorn_16 rfl rfl ?_
    refine j_iload_n (pc := 17) 1 dX4_nextBorn_17 rfl rfl ?_
    refine j_iload_n (pc := 18) 2 dX4_nextBorn_18 rfl rfl ?_
    refine j_iconst (pc := 19) dX4_nextBorn_19 jci_1 ?_
    refine j_icmp_ne (pc := 20) (tgt := 34) dX4_nextBorn_20 (by decide) (fun c3 => ?_) (fun c3 => ?_)
    · replace h := jite_f h c3
      refine j_iconst (pc := 34) dX4_nextBorn_34 jci_0 ?_
      exact j_sub [] rfl (lX4_nextBorn_35 hC hk h)
    · replace h := jite_t h c3
      refine j_aload_n (pc := 23) 0 dX4_nextBorn_23 rfl rfl ?_
      refine jg_4_5 (pc := 24) dX4_nextBorn_24 (hC (4, k) (decide_eq_true hk)) tw_206 ?_
      refine j_iload_n (pc := 27) 1 dX4_nextBorn_27 rfl rfl ?_
      obtain ⟨c4, h⟩ := jchk h
      refine j_ia (pc := 28) dX4_nextBorn_28 rfl (hC (33, k) (decide_eq_true hk)) c4 ?_
      refine j_iconst (pc := 29) dX4_nextBorn_29 jci_1 ?_
      refine j_isub (pc := 30) dX4_nextBorn_30 ?_
      refine j_goto (pc := 31) (tgt := 35) dX4_nextBorn_31 (by decide) ?_
      exact j_sub [] rfl (lX4_nextBorn_35 hC hk h)
  · replace h := jite_t h c2
    refine j_bipush (pc := 9) dX4_nextBorn_9 jcb_m4 ?_
    cases h
    exact j_iret (pc := 11) dX4_nextBorn_11 rfl rfl
abbrev mX4_takeOne : jM := (yX4_takeOne, cX4_takeOne, 4, (some .int))
theorem okX4_takeOne : jOK mX4_takeOne 2 := ⟨by decide +kernel, tw_642, tw_73, by decide +kernel, by decide, by decide⟩
def bX4_takeOne_56 (k : Nat) (S : jS) (x3 : Int32) (t1 : Int32) (t2 : Int32) : Option (Int32 × jS) :=
  if jIn t1 18 then jlet (jput S (35, k) (upd (S.2 (35, k)) t1.toNatClampNeg t2)) fun S11 => some (x3, S11) else none
set_option maxRecDepth 10000 in
set_option maxHeartbeats 4000000 in
theorem lX4_takeOne_56 {E : jE} (hC : jHC E) {k : Nat} (hk : k < 6) {S : jS} {x3 : Int32} {t1 : Int32} {t2 : Int32} {r : (Int32 × jS)} (h : bX4_takeOne_56 k S x3 t1 t2 = some r) : JR E 3 mX4_takeOne 56 [(3, .int x3)] [.int t2, .int t1, .ref (E.1 (35, k))] S [.int r.1] r.2 := by
  unfold bX4_takeOne_56 at h
  obtain ⟨c10, h⟩ := jchk h
  obtain ⟨S11, eS11, h⟩ := jlk h
  refine j_is (pc := 56) dX4_takeOne_56 rfl (hC (35, k) (decide_eq_true hk)) c10 eS11 ?_
  refine j_iload_n (pc := 57) 0 dX4_takeOne_57 rfl rfl ?_
  cases h
  exact j_iret (pc := 58) dX4_takeOne_58 rfl rfl
def fX4_takeOne (k : Nat) (S : jS) (x1 : Int32) (x2 : Int32) : Option (Int32 × jS) :=
  (fX4_nextBorn k S x1 x2).bind fun y1 => if jIn x1 18 then (if (y1.2.2 (33, k) x1.toNatClampNeg) ≤ 0 then some (y1.1, y1.2) else if jIn x1 18 then if jIn x1 18 then jlet (jput y1.2 (33, k) (upd (y1.2.2 (33, k)) x1.toNatClampNeg ((y1.2.2 (33, k) x1.toNatClampNeg) - (1 : Int32)))) fun S6 => (if x2 = (1 : Int32) then if jIn x1 18 then bX4_takeOne_56 k S6 y1.1 x1 (S6.2 (35, k) x1.toNatClampNeg) else none else if jIn x1 18 then bX4_takeOne_56 k S6 y1.1 x1 (((S6.2 (35, k) x1.toNatClampNeg) + (1 : Int32)) - ((S6.2 (35, k) x1.toNatClampNeg) + (1 : Int32)) / (40 : Int32) * (40 : Int32)) else none) else none else none) else none
set_option maxRecDepth 10000 in
set_option maxHeartbeats 4000000 in
theorem kX4_takeOne {E : jE} (hC : jHC E) {k : Nat} (hk : k < 6) {S : jS} {x1 : Int32} {x2 : Int32} {r : (Int32 × jS)} (h : fX4_takeOne k S x1 x2 = some r) : jMR E 3 mX4_takeOne [.ref (E.1 (4, k)), .int x1, .int x2] S [.int r.1] r.2 := by
  refine ⟨Nat.le_of_ble_eq_true rfl, ?_⟩
  show JR E 3 mX4_takeOne 0 [(0, .ref (E.1 (4, k))), (1, .int x1), (2, .int x2)] [] S [.int r.1] r.2
  unfold fX4_takeOne at h
  refine j_aload_n (pc := 0) 0 dX4_takeOne_0 rfl rfl ?_
  refine j_iload_n (pc := 1) 1 dX4_takeOne_1 rfl rfl ?_
  refine j_iload_n (pc := 2) 2 dX4_takeOne_2 rfl rfl ?_
  obtain ⟨y1, hy1, h⟩ := jbnd h
  refine j_callV (pc := 3) (N := mX4_nextBorn) (rr := (4, k)) (As := [.int x1, .int x2]) (rest := []) (v := [.int y1.1]) (S1 := y1.2) dX4_takeOne_3 (kX4_nextBorn hC hk hy1) (by simp) (by decide) okX4_nextBorn tw_644 tw_645 tw_643 (hC (4, k) (decide_eq_true hk)) rfl rfl rfl rfl (by simp [Value.category]) ?_
  refine j_istore_n (pc := 6) (lv' := [(3, .int y1.1), (0, .ref (E.1 (4, k))), (1, .int x1), (2, .int x2)]) dX4_takeOne_6 rfl (by decide) rfl ?_
  refine j_aload_n (pc := 7) 1 dX4_takeOne_7 rfl rfl ?_
  refine jg_4_5 (pc := 8) dX4_takeOne_8 (hC (4, k) (decide_eq_true hk)) tw_206 ?_
  refine j_iload_n (pc := 11) 2 dX4_takeOne_11 rfl rfl ?_
  obtain ⟨c2, h⟩ := jchk h
  refine j_ia (pc := 12) dX4_takeOne_12 rfl (hC (33, k) (decide_eq_true hk)) c2 ?_
  refine j_if_le (pc := 13) (tgt := 57) dX4_takeOne_13 (by decide) (fun c3 => ?_) (fun c3 => ?_)
  · replace h := jite_t h c3
    refine j_iload_n (pc := 57) 0 dX4_takeOne_57 rfl rfl ?_
    cases h
    exact j_iret (pc := 58) dX4_takeOne_58 rfl rfl
  · replace h := jite_f h c3
    refine j_aload_n (pc := 16) 1 dX4_takeOne_16 rfl rfl ?_
    refine jg_4_5 (pc := 17) dX4_takeOne_17 (hC (4, k) (decide_eq_true hk)) tw_206 ?_
    refine j_iload_n (pc := 20) 2 dX4_takeOne_20 rfl rfl ?_
    refine j_dup2 (pc := 21) dX4_takeOne_21 rfl rfl ?_
    obtain ⟨c4, h⟩ := jchk h
    refine j_ia (pc := 22) dX4_takeOne_22 rfl (hC (33, k) (decide_eq_true hk)) c4 ?_
    refine j_iconst (pc := 23) dX4_takeOne_23 jci_1 ?_
    refine j_isub (pc := 24) dX4_takeOne_24 ?_
    obtain ⟨c5, h⟩ := jchk h
    obtain ⟨S6, eS6, h⟩ := jlk h
    refine j_is (pc := 25) dX4_takeOne_25 rfl (hC (33, k) (decide_eq_true hk)) c5 eS6 ?_
    refine j_aload_n (pc := 26) 1 dX4_takeOne_26 rfl rfl ?_
    refine jg_4_7 (pc := 27) dX4_takeOne_27 (hC (4, k) (decide_eq_true hk)) tw_212 ?_
    refine j_iload_n (pc := 30) 2 dX4_takeOne_30 rfl rfl ?_
    refine j_iload_n (pc := 31) 3 dX4_takeOne_31 rfl rfl ?_
    refine j_iconst (pc := 32) dX4_takeOne_32 jci_1 ?_
    refine j_icmp_ne (pc := 33) (tgt := 45) dX4_takeOne_33 (by decide) (fun c7 => ?_) (fun c7 => ?_)
    · replace h := jite_f h c7
      refine j_aload_n (pc := 45) 1 dX4_takeOne_45 rfl rfl ?_
      refine jg_4_7 (pc := 46) dX4_takeOne_46 (hC (4, k) (decide_eq_true hk)) tw_212 ?_
      refine j_iload_n (pc := 49) 2 dX4_takeOne_49 rfl rfl ?_
      obtain ⟨c8, h⟩ := jchk h
      refine j_ia (pc := 50) dX4_takeOne_50 rfl (hC (35, k) (decide_eq_true hk)) c8 ?_
      refine j_iconst (pc := 51) dX4_takeOne_51 jci_1 ?_
      refine j_iadd (pc := 52) dX4_takeOne_52 ?_
      refine j_bipush (pc := 53) dX4_takeOne_53 jcb_40 ?_
      refine j_irem (pc := 55) dX4_takeOne_55 (by decide) ?_
      exact j_sub [0] rfl (lX4_takeOne_56 hC hk h)
    · replace h := jite_t h c7
      refine j_aload_n (pc := 36) 1 dX4_takeOne_36 rfl rfl ?_
      refine jg_4_7 (pc := 37) dX4_takeOne_37 (hC (4, k) (decide_eq_true hk)) tw_212 ?_
      refine j_iload_n (pc := 40) 2 dX4_takeOne_40 rfl rfl ?_
      obtain ⟨c9, h⟩ := jchk h
      refine j_ia (pc := 41) dX4_takeOne_41 rfl (hC (35, k) (decide_eq_true hk)) c9 ?_
      refine j_goto (pc := 42) (tgt := 56) dX4_takeOne_42 (by decide) ?_
      exact j_sub [0] rfl (lX4_takeOne_56 hC hk h)
abbrev mX1_takeOver : jM := (yX1_takeOver, cX1_takeOver, 5, none)
theorem okX1_takeOver : jOK mX1_takeOver 2 := ⟨by decide +kernel, tw_636, tw_76, by decide +kernel, by decide, by decide⟩
def bX1_takeOver_74 (k : Nat) (q74 : jS → Int32 → Int32 → Int32 → Option jS) (S : jS) (x2 : Int32) (x3 : Int32) (x4 : Int32) : Option jS :=
  if jIn x2 10 then (if (S.2 (43, 0) x2.toNatClampNeg) ≤ x4 then some S else (fX4_takeOne k S x3 (S.1 (4, k))).bind fun y13 => if jIn ((x2 * (9 : Int32)) + x4) 90 then jlet (jput y13.2 (44, 0) (upd (y13.2.2 (44, 0)) ((x2 * (9 : Int32)) + x4).toNatClampNeg y13.1)) fun S15 => jlet (x4 + (1 : Int32)) fun v16 => q74 S15 x2 x3 v16 else none) else none
set_option maxRecDepth 10000 in
set_option maxHeartbeats 4000000 in
theorem lX1_takeOver_74 {E : jE} (hC : jHC E) {k : Nat} (hk : k < 6) {q74 : jS → Int32 → Int32 → Int32 → Option jS} (H74 : ∀ {S : jS} {x2 : Int32} {x3 : Int32} {x4 : Int32} {r : jS}, q74 S x2 x3 x4 = some r → JR E 4 mX1_takeOver 74 [(0, .ref (E.1 (8, 0))), (1, .ref (E.1 (2, k))), (2, .int x2), (3, .int x3), (4, .int x4)] [] S [] r) {S : jS} {x2 : Int32} {x3 : Int32} {x4 : Int32} {r : jS} (h : bX1_takeOver_74 k q74 S x2 x3 x4 = some r) : JR E 4 mX1_takeOver 74 [(0, .ref (E.1 (8, 0))), (1, .ref (E.1 (2, k))), (2, .int x2), (3, .int x3), (4, .int x4)] [] S [] r := by
  unfold bX1_takeOver_74 at h
  refine j_iload (pc := 74) 4 dX1_takeOver_74 rfl ?_
  refine j_aload_n (pc := 76) 0 dX1_takeOver_76 rfl rfl ?_
  refine jg_8_2 (pc := 77) dX1_takeOver_77 (hC (8, 0) rfl) tw_299 ?_
  refine j_iload_n (pc := 80) 2 dX1_takeOver_80 rfl rfl ?_
  obtain ⟨c11, h⟩ := jchk h
  refine j_ia (pc := 81) dX1_takeOver_81 rfl (hC (43, 0) rfl) c11 ?_
  refine j_icmp_ge (pc := 82) (tgt := 118) dX1_takeOver_82 (by decide) (fun c12 => ?_) (fun c12 => ?_)
  · replace h := jite_t h c12
    cases h
    exact j_vret (pc := 118) dX1_takeOver_118 rfl
  · replace h := jite_f h c12
    refine j_aload_n (pc := 85) 0 dX1_takeOver_85 rfl rfl ?_
    refine jg_8_3 (pc := 86) dX1_takeOver_86 (hC (8, 0) rfl) tw_300 ?_
    refine j_iload_n (pc := 89) 2 dX1_takeOver_89 rfl rfl ?_
    refine j_bipush (pc := 90) dX1_takeOver_90 jcb_9 ?_
    refine j_imul (pc := 92) dX1_takeOver_92 ?_
    refine j_iload (pc := 93) 4 dX1_takeOver_93 rfl ?_
    refine j_iadd (pc := 95) dX1_takeOver_95 ?_
    refine j_aload_n (pc := 96) 1 dX1_takeOver_96 rfl rfl ?_
    refine jg_2_1 (pc := 97) dX1_takeOver_97 (hC (2, k) (decide_eq_true hk)) tw_235 ?_
    refine j_iload_n (pc := 100) 3 dX1_takeOver_100 rfl rfl ?_
    refine j_aload_n (pc := 101) 1 dX1_takeOver_101 rfl rfl ?_
    refine jg_2_0 (pc := 102) dX1_takeOver_102 (hC (2, k) (decide_eq_true hk)) tw_232 ?_
    refine jg_3_3 (pc := 105) dX1_takeOver_105 (hC (3, k) (decide_eq_true hk)) tw_137 ?_
    obtain ⟨y13, hy13, h⟩ := jbnd h
    refine j_callV (pc := 108) (N := mX4_takeOne) (rr := (4, k)) (As := [.int x3, .int (S.1 (4, k))]) (rest := [.int ((x2 * (9 : Int32)) + x4), .ref (E.1 (44, 0))]) (v := [.int y13.1]) (S1 := y13.2) dX1_takeOver_108 (kX4_takeOne hC hk hy13) (by simp) (by decide) okX4_takeOne tw_640 tw_641 tw_639 (hC (4, k) (decide_eq_true hk)) rfl rfl rfl rfl (by simp [Value.category]) ?_
    obtain ⟨c14, h⟩ := jchk h
    obtain ⟨S15, eS15, h⟩ := jlk h
    refine j_is (pc := 111) dX1_takeOver_111 rfl (hC (44, 0) rfl) c14 eS15 ?_
    obtain ⟨v16, ev16, h⟩ := jlk h
    refine j_iinc (pc := 112) (v := v16) (lv' := [(4, .int v16), (0, .ref (E.1 (8, 0))), (1, .ref (E.1 (2, k))), (2, .int x2), (3, .int x3)]) 4 dX1_takeOver_112 rfl (by rw [ev16]; rfl) (by decide) rfl ?_
    refine j_goto (pc := 115) (tgt := 74) dX1_takeOver_115 (by decide) ?_
    exact j_sub [1, 2, 3, 4, 0] rfl (H74 h)
def fX1_takeOver_74 (k : Nat) : Nat → jS → Int32 → Int32 → Int32 → Option jS
  | 0 => fun _ _ _ _ => none
  | n + 1 => bX1_takeOver_74 k (fX1_takeOver_74 k n)
theorem kX1_takeOver_74 {E : jE} (hC : jHC E) {k : Nat} (hk : k < 6) (fu : Nat) : ∀ {S : jS} {x2 : Int32} {x3 : Int32} {x4 : Int32} {r : jS}, fX1_takeOver_74 k fu S x2 x3 x4 = some r → JR E 4 mX1_takeOver 74 [(0, .ref (E.1 (8, 0))), (1, .ref (E.1 (2, k))), (2, .int x2), (3, .int x3), (4, .int x4)] [] S [] r := by
  induction fu with
  | zero => intro S x2 x3 x4 r h; cases h
  | succ n_ ih => intro S x2 x3 x4 r h; exact lX1_takeOver_74 hC hk ih h
def fX1_takeOver (k : Nat) (S : jS) (x2 : Int32) : Option jS :=
  if jIn x2 10 then jlet (jput S (43, 0) (upd (S.2 (43, 0)) x2.toNatClampNeg (0 : Int32))) fun S2 => (if (((S2.1 (10, 1)) >>> (x2 &&& 31)) &&& (1 : Int32)) = 0 then some S2 else if jIn x2 10 then if jIn x2 10 then (fX7_spot S2 (S2.2 (21, k) x2.toNatClampNeg) (S2.2 (40, 1) x2.toNatClampNeg)).bind fun y6 => if jIn x2 10 then if jIn y6.1 18 then if jIn x2 10 then jlet (jput y6.2 (43, 0) (upd (y6.2.2 (43, 0)) x2.toNatClampNeg ((if (y6.2.2 (33, k) y6.1.toNatClampNeg) < (y6.2.2 (23, k) x2.toNatClampNeg) then (y6.2.2 (33, k) y6.1.toNatClampNeg) else (y6.2.2 (23, k) x2.toNatClampNeg))))) fun S10 => fX1_takeOver_74 k 5000 S10 x2 y6.1 (0 : Int32) else none else none else none else none else none) else none
set_option maxRecDepth 10000 in
set_option maxHeartbeats 4000000 in
theorem kX1_takeOver {E : jE} (hC : jHC E) {k : Nat} (hk : k < 6) {S : jS} {x2 : Int32} {r : jS} (h : fX1_takeOver k S x2 = some r) : jMR E 4 mX1_takeOver [.ref (E.1 (8, 0)), .ref (E.1 (2, k)), .int x2] S [] r := by
  refine ⟨Nat.le_of_ble_eq_true rfl, ?_⟩
  show JR E 4 mX1_takeOver 0 [(0, .ref (E.1 (8, 0))), (1, .ref (E.1 (2, k))), (2, .int x2)] [] S [] r
  unfold fX1_takeOver at h
  refine j_aload_n (pc := 0) 0 dX1_takeOver_0 rfl rfl ?_
  refine jg_8_2 (pc := 1) dX1_takeOver_1 (hC (8, 0) rfl) tw_299 ?_
  refine j_iload_n (pc := 4) 2 dX1_takeOver_4 rfl rfl ?_
  refine j_iconst (pc := 5) dX1_takeOver_5 jci_0 ?_
  obtain ⟨c1, h⟩ := jchk h
  obtain ⟨S2, eS2, h⟩ := jlk h
  refine j_is (pc := 6) dX1_takeOver_6 rfl (hC (43, 0) rfl) c1 eS2 ?_
  refine j_aload_n (pc := 7) 0 dX1_takeOver_7 rfl rfl ?_
  refine jg_8_1 (pc := 8) dX1_takeOver_8 (hC (8, 0) rfl) tw_298 ?_
  refine jg_7_0 (pc := 11) dX1_takeOver_11 (hC (7, 1) rfl) tw_270 ?_
  refine j_iload_n (pc := 14) 2 dX1_takeOver_14 rfl rfl ?_
  refine j_ishr (pc := 15) dX1_takeOver_15 ?_
  refine j_iconst (pc := 16) dX1_takeOver_16 jci_1 ?_
  refine j_iand (pc := 17) dX1_takeOver_17 ?_
  refine j_if_ne (pc := 18) (tgt := 22) dX1_takeOver_18 (by decide) (fun c3 => ?_) (fun c3 => ?_)
  · replace h := jite_f h c3
    refine j_aload_n (pc := 22) 1 dX1_takeOver_22 rfl rfl ?_
    refine jg_2_0 (pc := 23) dX1_takeOver_23 (hC (2, k) (decide_eq_true hk)) tw_232 ?_
    refine jg_3_6 (pc := 26) dX1_takeOver_26 (hC (3, k) (decide_eq_true hk)) tw_146 ?_
    refine j_iload_n (pc := 29) 2 dX1_takeOver_29 rfl rfl ?_
    obtain ⟨c4, h⟩ := jchk h
    refine j_ia (pc := 30) dX1_takeOver_30 rfl (hC (21, k) (decide_eq_true hk)) c4 ?_
    refine j_aload_n (pc := 31) 0 dX1_takeOver_31 rfl rfl ?_
    refine jg_8_1 (pc := 32) dX1_takeOver_32 (hC (8, 0) rfl) tw_298 ?_
    refine jg_7_2 (pc := 35) dX1_takeOver_35 (hC (7, 1) rfl) tw_275 ?_
    refine j_iload_n (pc := 38) 2 dX1_takeOver_38 rfl rfl ?_
    obtain ⟨c5, h⟩ := jchk h
    refine j_ia (pc := 39) dX1_takeOver_39 rfl (hC (40, 1) rfl) c5 ?_
    obtain ⟨y6, hy6, h⟩ := jbnd h
    refine j_callN (pc := 40) (N := mX7_spot) (host := "DropQueues") (As := [.int (S2.2 (21, k) x2.toNatClampNeg), .int (S2.2 (40, 1) x2.toNatClampNeg)]) (rest := []) (v := [.int y6.1]) (S1 := y6.2) dX1_takeOver_40 (kX7_spot hC hy6) (by simp) (by decide) okX7_spot tw_441 (by decide) rfl rfl (by simp [Value.category]) ?_
    refine j_istore_n (pc := 43) (lv' := [(3, .int y6.1), (0, .ref (E.1 (8, 0))), (1, .ref (E.1 (2, k))), (2, .int x2)]) dX1_takeOver_43 rfl (by decide) rfl ?_
    refine j_aload_n (pc := 44) 1 dX1_takeOver_44 rfl rfl ?_
    refine jg_8_2 (pc := 45) dX1_takeOver_45 (hC (8, 0) rfl) tw_299 ?_
    refine j_iload_n (pc := 48) 3 dX1_takeOver_48 rfl rfl ?_
    refine j_aload_n (pc := 49) 2 dX1_takeOver_49 rfl rfl ?_
    refine jg_2_0 (pc := 50) dX1_takeOver_50 (hC (2, k) (decide_eq_true hk)) tw_232 ?_
    refine jg_3_8 (pc := 53) dX1_takeOver_53 (hC (3, k) (decide_eq_true hk)) tw_155 ?_
    refine j_iload_n (pc := 56) 3 dX1_takeOver_56 rfl rfl ?_
    obtain ⟨c7, h⟩ := jchk h
    refine j_ia (pc := 57) dX1_takeOver_57 rfl (hC (23, k) (decide_eq_true hk)) c7 ?_
    refine j_aload_n (pc := 58) 2 dX1_takeOver_58 rfl rfl ?_
    refine jg_2_1 (pc := 59) dX1_takeOver_59 (hC (2, k) (decide_eq_true hk)) tw_235 ?_
    refine jg_4_5 (pc := 62) dX1_takeOver_62 (hC (4, k) (decide_eq_true hk)) tw_209 ?_
    refine j_iload_n (pc := 65) 0 dX1_takeOver_65 rfl rfl ?_
    obtain ⟨c8, h⟩ := jchk h
    refine j_ia (pc := 66) dX1_takeOver_66 rfl (hC (33, k) (decide_eq_true hk)) c8 ?_
    refine j_mmin (pc := 67) dX1_takeOver_67 tw_638 tw_467 tw_83 tw_468 (by simp) (by simp [Value.category]) ?_
    obtain ⟨c9, h⟩ := jchk h
    obtain ⟨S10, eS10, h⟩ := jlk h
    refine j_is (pc := 70) dX1_takeOver_70 rfl (hC (43, 0) rfl) c9 eS10 ?_
    refine j_iconst (pc := 71) dX1_takeOver_71 jci_0 ?_
    refine j_istore (pc := 72) (lv' := [(4, .int (0 : Int32)), (3, .int y6.1), (0, .ref (E.1 (8, 0))), (1, .ref (E.1 (2, k))), (2, .int x2)]) dX1_takeOver_72 (by decide) rfl ?_
    exact j_sub [2, 3, 4, 1, 0] rfl (kX1_takeOver_74 hC hk 5000 h)
  · replace h := jite_t h c3
    cases h
    exact j_vret (pc := 21) dX1_takeOver_21 rfl
abbrev mX3_comesAhead : jM := (yX3_comesAhead, cX3_comesAhead, 3, (some .boolean))
theorem okX3_comesAhead : jOK mX3_comesAhead 2 := ⟨by decide +kernel, tw_631, tw_75, by decide +kernel, by decide, by decide⟩
def fX3_comesAhead  (S : jS) (x0 : Int32) (x1 : Int32) : Option (Int32 × jS) :=
  (fJ6_bitCount_0f7a4 S x0).bind fun y1 => (fJ6_bitCount_0f7a4 y1.2 x1).bind fun y2 => jlet (y1.1 - y2.1) fun v3 => (if v3 < 0 then some ((1 : Int32), y2.2) else (if v3 = 0 then (if x1 ≤ x0 then some ((0 : Int32), y2.2) else some ((1 : Int32), y2.2)) else some ((0 : Int32), y2.2)))
set_option maxRecDepth 10000 in
set_option maxHeartbeats 4000000 in
theorem kX3_comesAhead {E : jE} (hC : jHC E) {S : jS} {x0 : Int32} {x1 : Int32} {r : (Int32 × jS)} (h : fX3_comesAhead  S x0 x1 = some r) : jMR E 2 mX3_comesAhead [.int x0, .int x1] S [.int r.1] r.2 := by
  refine ⟨Nat.le_of_ble_eq_true rfl, ?_⟩
  show JR E 2 mX3_comesAhead 0 [(0, .int x0), (1, .int x1)] [] S [.int r.1] r.2
  unfold fX3_comesAhead at h
  refine j_iload_n (pc := 0) 0 dX3_comesAhead_0 rfl rfl ?_
  obtain ⟨y1, hy1, h⟩ := jbnd h
  refine j_callS (pc := 1) (N := mJ6_bitCount_0f7a4) (As := [.int x0]) (rest := []) (v := [.int y1.1]) (S1 := y1.2) dX3_comesAhead_1 (kJ6_bitCount_0f7a4  hy1) (by simp) (by decide) okJ6_bitCount_0f7a4 tw_564 tw_632 rfl rfl (by simp [Value.category]) ?_
  refine j_iload_n (pc := 4) 1 dX3_comesAhead_4 rfl rfl ?_
  obtain ⟨y2, hy2, h⟩ := jbnd h
  refine j_callS (pc := 5) (N := mJ6_bitCount_0f7a4) (As := [.int x1]) (rest := [.int y1.1]) (v := [.int y2.1]) (S1 := y2.2) dX3_comesAhead_5 (kJ6_bitCount_0f7a4  hy2) (by simp) (by decide) okJ6_bitCount_0f7a4 tw_564 tw_632 rfl rfl (by simp [Value.category]) ?_
  refine j_isub (pc := 8) dX3_comesAhead_8 ?_
  obtain ⟨v3, ev3, h⟩ := jlk h
  refine j_topi ev3 ?_
  refine j_istore_n (pc := 9) (lv' := [(2, .int v3), (0, .int x0), (1, .int x1)]) dX3_comesAhead_9 rfl (by decide) rfl ?_
  refine j_iload_n (pc := 10) 0 dX3_comesAhead_10 rfl rfl ?_
  refine j_if_lt (pc := 11) (tgt := 23) dX3_comesAhead_11 (by decide) (fun c4 => ?_) (fun c4 => ?_)
  · replace h := jite_t h c4
    refine j_iconst (pc := 23) dX3_comesAhead_23 jci_1 ?_
    refine j_goto (pc := 24) (tgt := 28) dX3_comesAhead_24 (by decide) ?_
    cases h
    exact j_iret (pc := 28) dX3_comesAhead_28 rfl rfl
  · replace h := jite_f h c4
    refine j_iload_n (pc := 14) 0 dX3_comesAhead_14 rfl rfl ?_
    refine j_if_ne (pc := 15) (tgt := 27) dX3_comesAhead_15 (by decide) (fun c5 => ?_) (fun c5 => ?_)
    · replace h := jite_f h c5
      refine j_iconst (pc := 27) dX3_comesAhead_27 jci_0 ?_
      cases h
      exact j_iret (pc := 28) dX3_comesAhead_28 rfl rfl
    · replace h := jite_t h c5
      refine j_iload_n (pc := 18) 1 dX3_comesAhead_18 rfl rfl ?_
      refine j_iload_n (pc := 19) 2 dX3_comesAhead_19 rfl rfl ?_
      refine j_icmp_ge (pc := 20) (tgt := 27) dX3_comesAhead_20 (by decide) (fun c6 => ?_) (fun c6 => ?_)
      · replace h := jite_t h c6
        refine j_iconst (pc := 27) dX3_comesAhead_27 jci_0 ?_
        cases h
        exact j_iret (pc := 28) dX3_comesAhead_28 rfl rfl
      · replace h := jite_f h c6
        refine j_iconst (pc := 23) dX3_comesAhead_23 jci_1 ?_
        refine j_goto (pc := 24) (tgt := 28) dX3_comesAhead_24 (by decide) ?_
        cases h
        exact j_iret (pc := 28) dX3_comesAhead_28 rfl rfl
abbrev mX3_offer : jM := (yX3_offer, cX3_offer, 3, none)
theorem okX3_offer : jOK mX3_offer 2 := ⟨by decide +kernel, tw_628, tw_75, by decide +kernel, by decide, by decide⟩
def bX3_offer_27 (k : Nat) (S : jS) (x1 : Int32) (x2 : Int32) : Option jS :=
  jlet (jset S (10, k) x1) fun S5 => jlet (jset S5 (11, k) x2) fun S6 => some S6
set_option maxRecDepth 10000 in
set_option maxHeartbeats 4000000 in
theorem lX3_offer_27 {E : jE} (hC : jHC E) {k : Nat} (hk : k < 2) {S : jS} {x1 : Int32} {x2 : Int32} {r : jS} (h : bX3_offer_27 k S x1 x2 = some r) : JR E 3 mX3_offer 27 [(0, .ref (E.1 (7, k))), (1, .int x1), (2, .int x2)] [] S [] r := by
  unfold bX3_offer_27 at h
  refine j_aload_n (pc := 27) 0 dX3_offer_27 rfl rfl ?_
  refine j_iload_n (pc := 28) 1 dX3_offer_28 rfl rfl ?_
  obtain ⟨S5, eS5, h⟩ := jlk h
  refine jp_10 (pc := 29) dX3_offer_29 (hC (7, k) (decide_eq_true hk)) tw_269 eS5 ?_
  refine j_aload_n (pc := 32) 0 dX3_offer_32 rfl rfl ?_
  refine j_iload_n (pc := 33) 2 dX3_offer_33 rfl rfl ?_
  obtain ⟨S6, eS6, h⟩ := jlk h
  refine jp_11 (pc := 34) dX3_offer_34 (hC (7, k) (decide_eq_true hk)) tw_272 eS6 ?_
  cases h
  exact j_vret (pc := 37) dX3_offer_37 rfl
def fX3_offer (k : Nat) (S : jS) (x1 : Int32) (x2 : Int32) : Option jS :=
  (if (S.1 (11, k)) < x2 then bX3_offer_27 k S x1 x2 else (if x2 = (S.1 (11, k)) then (fX3_comesAhead S x1 (S.1 (10, k))).bind fun y3 => (if y3.1 = 0 then some y3.2 else bX3_offer_27 k (y3.2) x1 x2) else some S))
set_option maxRecDepth 10000 in
set_option maxHeartbeats 4000000 in
theorem kX3_offer {E : jE} (hC : jHC E) {k : Nat} (hk : k < 2) {S : jS} {x1 : Int32} {x2 : Int32} {r : jS} (h : fX3_offer k S x1 x2 = some r) : jMR E 3 mX3_offer [.ref (E.1 (7, k)), .int x1, .int x2] S [] r := by
  refine ⟨Nat.le_of_ble_eq_true rfl, ?_⟩
  show JR E 3 mX3_offer 0 [(0, .ref (E.1 (7, k))), (1, .int x1), (2, .int x2)] [] S [] r
  unfold fX3_offer at h
  refine j_iload_n (pc := 0) 2 dX3_offer_0 rfl rfl ?_
  refine j_aload_n (pc := 1) 0 dX3_offer_1 rfl rfl ?_
  refine jg_7_1 (pc := 2) dX3_offer_2 (hC (7, k) (decide_eq_true hk)) tw_272 ?_
  refine j_icmp_gt (pc := 5) (tgt := 27) dX3_offer_5 (by decide) (fun c1 => ?_) (fun c1 => ?_)
  · replace h := jite_t h c1
    exact j_sub [0, 1, 2] rfl (lX3_offer_27 hC hk h)
  · replace h := jite_f h c1
    refine j_iload_n (pc := 8) 2 dX3_offer_8 rfl rfl ?_
    refine j_aload_n (pc := 9) 0 dX3_offer_9 rfl rfl ?_
    refine jg_7_1 (pc := 10) dX3_offer_10 (hC (7, k) (decide_eq_true hk)) tw_272 ?_
    refine j_icmp_ne (pc := 13) (tgt := 37) dX3_offer_13 (by decide) (fun c2 => ?_) (fun c2 => ?_)
    · replace h := jite_f h c2
      cases h
      exact j_vret (pc := 37) dX3_offer_37 rfl
    · replace h := jite_t h c2
      refine j_iload_n (pc := 16) 1 dX3_offer_16 rfl rfl ?_
      refine j_aload_n (pc := 17) 0 dX3_offer_17 rfl rfl ?_
      refine jg_7_0 (pc := 18) dX3_offer_18 (hC (7, k) (decide_eq_true hk)) tw_269 ?_
      obtain ⟨y3, hy3, h⟩ := jbnd h
      refine j_callS (pc := 21) (N := mX3_comesAhead) (As := [.int x1, .int (S.1 (10, k))]) (rest := []) (v := [.int y3.1]) (S1 := y3.2) dX3_offer_21 (kX3_comesAhead hC hy3) (by simp) (by decide) okX3_comesAhead tw_630 tw_629 rfl rfl (by simp [Value.category]) ?_
      refine j_if_eq (pc := 24) (tgt := 37) dX3_offer_24 (by decide) (fun c4 => ?_) (fun c4 => ?_)
      · replace h := jite_t h c4
        cases h
        exact j_vret (pc := 37) dX3_offer_37 rfl
      · replace h := jite_f h c4
        exact j_sub [0, 1, 2] rfl (lX3_offer_27 hC hk h)
abbrev mX3_weightOf : jM := (yX3_weightOf, cX3_weightOf, 4, (some .int))
theorem okX3_weightOf : jOK mX3_weightOf 1 := ⟨by decide +kernel, tw_624, tw_75, by decide +kernel, by decide, by decide⟩
def bX3_weightOf_28 (k : Nat) (q4 : jS → Int32 → Int32 → Int32 → Option (Int32 × jS)) (S : jS) (x1 : Int32) (x2 : Int32) (x3 : Int32) : Option (Int32 × jS) :=
  jlet (x3 + (1 : Int32)) fun v5 => q4 S x1 x2 v5
set_option maxRecDepth 10000 in
set_option maxHeartbeats 4000000 in
theorem lX3_weightOf_28 {E : jE} (hC : jHC E) {k : Nat} (hk : k < 2) {q4 : jS → Int32 → Int32 → Int32 → Option (Int32 × jS)} (H4 : ∀ {S : jS} {x1 : Int32} {x2 : Int32} {x3 : Int32} {r : (Int32 × jS)}, q4 S x1 x2 x3 = some r → JR E 1 mX3_weightOf 4 [(0, .ref (E.1 (7, k))), (1, .int x1), (2, .int x2), (3, .int x3)] [] S [.int r.1] r.2) {S : jS} {x1 : Int32} {x2 : Int32} {x3 : Int32} {r : (Int32 × jS)} (h : bX3_weightOf_28 k q4 S x1 x2 x3 = some r) : JR E 1 mX3_weightOf 28 [(0, .ref (E.1 (7, k))), (1, .int x1), (2, .int x2), (3, .int x3)] [] S [.int r.1] r.2 := by
  unfold bX3_weightOf_28 at h
  obtain ⟨v5, ev5, h⟩ := jlk h
  refine j_iinc (pc := 28) (v := v5) (lv' := [(3, .int v5), (0, .ref (E.1 (7, k))), (1, .int x1), (2, .int x2)]) 3 dX3_weightOf_28 rfl (by rw [ev5]; rfl) (by decide) rfl ?_
  refine j_goto (pc := 31) (tgt := 4) dX3_weightOf_31 (by decide) ?_
  exact j_sub [1, 2, 3, 0] rfl (H4 h)
def bX3_weightOf_4 (k : Nat) (q4 : jS → Int32 → Int32 → Int32 → Option (Int32 × jS)) (S : jS) (x1 : Int32) (x2 : Int32) (x3 : Int32) : Option (Int32 × jS) :=
  (if (10 : Int32) ≤ x3 then some (x2, S) else (if ((x1 >>> (x3 &&& 31)) &&& (1 : Int32)) = (1 : Int32) then if jIn x3 10 then jlet (x2 + (S.2 (41, k) x3.toNatClampNeg)) fun v4 => bX3_weightOf_28 k q4 S x1 v4 x3 else none else bX3_weightOf_28 k q4 S x1 x2 x3))
set_option maxRecDepth 10000 in
set_option maxHeartbeats 4000000 in
theorem lX3_weightOf_4 {E : jE} (hC : jHC E) {k : Nat} (hk : k < 2) {q4 : jS → Int32 → Int32 → Int32 → Option (Int32 × jS)} (H4 : ∀ {S : jS} {x1 : Int32} {x2 : Int32} {x3 : Int32} {r : (Int32 × jS)}, q4 S x1 x2 x3 = some r → JR E 1 mX3_weightOf 4 [(0, .ref (E.1 (7, k))), (1, .int x1), (2, .int x2), (3, .int x3)] [] S [.int r.1] r.2) {S : jS} {x1 : Int32} {x2 : Int32} {x3 : Int32} {r : (Int32 × jS)} (h : bX3_weightOf_4 k q4 S x1 x2 x3 = some r) : JR E 1 mX3_weightOf 4 [(0, .ref (E.1 (7, k))), (1, .int x1), (2, .int x2), (3, .int x3)] [] S [.int r.1] r.2 := by
  unfold bX3_weightOf_4 at h
  refine j_iload_n (pc := 4) 3 dX3_weightOf_4 rfl rfl ?_
  refine j_bipush (pc := 5) dX3_weightOf_5 jcb_10 ?_
  refine j_icmp_ge (pc := 7) (tgt := 34) dX3_weightOf_7 (by decide) (fun c1 => ?_) (fun c1 => ?_)
  · replace h := jite_t h c1
    refine j_iload_n (pc := 34) 2 dX3_weightOf_34 rfl rfl ?_
    cases h
    exact j_iret (pc := 35) dX3_weightOf_35 rfl rfl
  · replace h := jite_f h c1
    refine j_iload_n (pc := 10) 1 dX3_weightOf_10 rfl rfl ?_
    refine j_iload_n (pc := 11) 3 dX3_weightOf_11 rfl rfl ?_
    refine j_ishr (pc := 12) dX3_weightOf_12 ?_
    refine j_iconst (pc := 13) dX3_weightOf_13 jci_1 ?_
    refine j_iand (pc := 14) dX3_weightOf_14 ?_
    refine j_iconst (pc := 15) dX3_weightOf_15 jci_1 ?_
    refine j_icmp_ne (pc := 16) (tgt := 28) dX3_weightOf_16 (by decide) (fun c2 => ?_) (fun c2 => ?_)
    · replace h := jite_f h c2
      exact j_sub [0, 1, 2, 3] rfl (lX3_weightOf_28 hC hk H4 h)
    · replace h := jite_t h c2
      refine j_iload_n (pc := 19) 2 dX3_weightOf_19 rfl rfl ?_
      refine j_aload_n (pc := 20) 0 dX3_weightOf_20 rfl rfl ?_
      refine jg_7_3 (pc := 21) dX3_weightOf_21 (hC (7, k) (decide_eq_true hk)) tw_277 ?_
      refine j_iload_n (pc := 24) 3 dX3_weightOf_24 rfl rfl ?_
      obtain ⟨c3, h⟩ := jchk h
      refine j_ia (pc := 25) dX3_weightOf_25 rfl (hC (41, k) (decide_eq_true hk)) c3 ?_
      refine j_iadd (pc := 26) dX3_weightOf_26 ?_
      obtain ⟨v4, ev4, h⟩ := jlk h
      refine j_topi ev4 ?_
      refine j_istore_n (pc := 27) (lv' := [(2, .int v4), (0, .ref (E.1 (7, k))), (1, .int x1), (3, .int x3)]) dX3_weightOf_27 rfl (by decide) rfl ?_
      exact j_sub [1, 2, 0, 3] rfl (lX3_weightOf_28 hC hk H4 h)
def fX3_weightOf_4 (k : Nat) : Nat → jS → Int32 → Int32 → Int32 → Option (Int32 × jS)
  | 0 => fun _ _ _ _ => none
  | n + 1 => bX3_weightOf_4 k (fX3_weightOf_4 k n)
theorem kX3_weightOf_4 {E : jE} (hC : jHC E) {k : Nat} (hk : k < 2) (fu : Nat) : ∀ {S : jS} {x1 : Int32} {x2 : Int32} {x3 : Int32} {r : (Int32 × jS)}, fX3_weightOf_4 k fu S x1 x2 x3 = some r → JR E 1 mX3_weightOf 4 [(0, .ref (E.1 (7, k))), (1, .int x1), (2, .int x2), (3, .int x3)] [] S [.int r.1] r.2 := by
  induction fu with
  | zero => intro S x1 x2 x3 r h; cases h
  | succ n_ ih => intro S x1 x2 x3 r h; exact lX3_weightOf_4 hC hk ih h
def fX3_weightOf (k : Nat) (S : jS) (x1 : Int32) : Option (Int32 × jS) :=
  fX3_weightOf_4 k 5000 S x1 (0 : Int32) (0 : Int32)
set_option maxRecDepth 10000 in
set_option maxHeartbeats 4000000 in
theorem kX3_weightOf {E : jE} (hC : jHC E) {k : Nat} (hk : k < 2) {S : jS} {x1 : Int32} {r : (Int32 × jS)} (h : fX3_weightOf k S x1 = some r) : jMR E 1 mX3_weightOf [.ref (E.1 (7, k)), .int x1] S [.int r.1] r.2 := by
  refine ⟨Nat.le_of_ble_eq_true rfl, ?_⟩
  show JR E 1 mX3_weightOf 0 [(0, .ref (E.1 (7, k))), (1, .int x1)] [] S [.int r.1] r.2
  unfold fX3_weightOf at h
  refine j_iconst (pc := 0) dX3_weightOf_0 jci_0 ?_
  refine j_istore_n (pc := 1) (lv' := [(2, .int (0 : Int32)), (0, .ref (E.1 (7, k))), (1, .int x1)]) dX3_weightOf_1 rfl (by decide) rfl ?_
  refine j_iconst (pc := 2) dX3_weightOf_2 jci_0 ?_
  refine j_istore_n (pc := 3) (lv' := [(3, .int (0 : Int32)), (2, .int (0 : Int32)), (0, .ref (E.1 (7, k))), (1, .int x1)]) dX3_weightOf_3 rfl (by decide) rfl ?_
  exact j_sub [2, 3, 1, 0] rfl (kX3_weightOf_4 hC hk 5000 h)
abbrev mX3_search : jM := (yX3_search, cX3_search, 9, none)
theorem okX3_search : jOK mX3_search 6 := ⟨by decide +kernel, tw_620, tw_75, by decide +kernel, by decide, by decide⟩
def bX3_search_30 (k : Nat) (k2 : Nat) (self : Nat → Nat → jS → Int32 → Int32 → Int32 → Int32 → Option jS) (S : jS) (x4 : Int32) (x5 : Int32) : Option jS :=
  (fX3_offer k S x4 x5).bind fun y8 => some y8
set_option maxRecDepth 10000 in
set_option maxHeartbeats 4000000 in
theorem lX3_search_30 {E : jE} {n : Nat} (hC : jHC E) {k : Nat} (hk : k < 2) {k2 : Nat} (hk2 : k2 < 6) {self : Nat → Nat → jS → Int32 → Int32 → Int32 → Int32 → Option jS} (hself : ∀ {k : Nat} (_ : k < 2) {k2 : Nat} (_ : k2 < 6) {S : jS} {x2 : Int32} {x3 : Int32} {x4 : Int32} {x5 : Int32} {r : jS},  self k k2 S x2 x3 x4 x5 = some r → jMR E (n + 3) mX3_search [.ref (E.1 (7, k)), .ref (E.1 (3, k2)), .int x2, .int x3, .int x4, .int x5] S [] r) {S : jS} {x4 : Int32} {x5 : Int32} {r : jS} (h : bX3_search_30 k k2 self S x4 x5 = some r) : JR E (n + 4) mX3_search 30 [(0, .ref (E.1 (7, k))), (4, .int x4), (5, .int x5)] [] S [] r := by
  unfold bX3_search_30 at h
  refine j_aload_n (pc := 30) 0 dX3_search_30 rfl rfl ?_
  refine j_iload (pc := 31) 1 dX3_search_31 rfl ?_
  refine j_iload (pc := 33) 2 dX3_search_33 rfl ?_
  obtain ⟨y8, hy8, h⟩ := jbnd h
  refine j_callV (pc := 35) (N := mX3_offer) (rr := (7, k)) (As := [.int x4, .int x5]) (rest := []) (v := []) (S1 := y8) dX3_search_35 (kX3_offer hC hk hy8) (by simp) (by omega) okX3_offer tw_627 tw_15 tw_625 (hC (7, k) (decide_eq_true hk)) rfl rfl rfl rfl (by simp [Value.category]) ?_
  cases h
  exact j_vret (pc := 38) dX3_search_38 rfl
def bX3_search_120 (k : Nat) (k2 : Nat) (self : Nat → Nat → jS → Int32 → Int32 → Int32 → Int32 → Option jS) (S : jS) (x2 : Int32) (x4 : Int32) (x5 : Int32) (x7 : Int32) : Option jS :=
  (self k k2 S (x2 + (1 : Int32)) x7 x4 x5).bind fun y16 => some y16
set_option maxRecDepth 10000 in
set_option maxHeartbeats 4000000 in
theorem lX3_search_120 {E : jE} {n : Nat} (hC : jHC E) {k : Nat} (hk : k < 2) {k2 : Nat} (hk2 : k2 < 6) {self : Nat → Nat → jS → Int32 → Int32 → Int32 → Int32 → Option jS} (hself : ∀ {k : Nat} (_ : k < 2) {k2 : Nat} (_ : k2 < 6) {S : jS} {x2 : Int32} {x3 : Int32} {x4 : Int32} {x5 : Int32} {r : jS},  self k k2 S x2 x3 x4 x5 = some r → jMR E (n + 3) mX3_search [.ref (E.1 (7, k)), .ref (E.1 (3, k2)), .int x2, .int x3, .int x4, .int x5] S [] r) {S : jS} {x2 : Int32} {x4 : Int32} {x5 : Int32} {x7 : Int32} {r : jS} (h : bX3_search_120 k k2 self S x2 x4 x5 x7 = some r) : JR E (n + 4) mX3_search 120 [(0, .ref (E.1 (7, k))), (1, .ref (E.1 (3, k2))), (2, .int x2), (4, .int x4), (5, .int x5), (7, .int x7)] [] S [] r := by
  unfold bX3_search_120 at h
  refine j_aload_n (pc := 120) 0 dX3_search_120 rfl rfl ?_
  refine j_aload_n (pc := 121) 1 dX3_search_121 rfl rfl ?_
  refine j_iload_n (pc := 122) 2 dX3_search_122 rfl rfl ?_
  refine j_iconst (pc := 123) dX3_search_123 jci_1 ?_
  refine j_iadd (pc := 124) dX3_search_124 ?_
  refine j_iload (pc := 125) 5 dX3_search_125 rfl ?_
  refine j_iload (pc := 127) 3 dX3_search_127 rfl ?_
  refine j_iload (pc := 129) 4 dX3_search_129 rfl ?_
  obtain ⟨y16, hy16, h⟩ := jbnd h
  refine j_callS (pc := 131) (N := mX3_search) (As := [.ref (E.1 (7, k)), .ref (E.1 (3, k2)), .int (x2 + (1 : Int32)), .int x7, .int x4, .int x5]) (rest := []) (v := []) (S1 := y16) dX3_search_131 (hself hk hk2 hy16) (by simp) (by omega) okX3_search tw_619 tw_618 rfl rfl (by simp [Value.category]) ?_
  cases h
  exact j_vret (pc := 134) dX3_search_134 rfl
def bX3_search_103 (k : Nat) (k2 : Nat) (self : Nat → Nat → jS → Int32 → Int32 → Int32 → Int32 → Option jS) (S : jS) (x2 : Int32) (x4 : Int32) (x5 : Int32) (x7 : Int32) (x8 : Int32) : Option jS :=
  (if x8 = 0 then bX3_search_120 k k2 self S x2 x4 x5 x7 else if jIn x2 10 then (if (x7 &&& (S.2 (24, k2) x2.toNatClampNeg)) = 0 then some S else bX3_search_120 k k2 self S x2 x4 x5 x7) else none)
set_option maxRecDepth 10000 in
set_option maxHeartbeats 4000000 in
theorem lX3_search_103 {E : jE} {n : Nat} (hC : jHC E) {k : Nat} (hk : k < 2) {k2 : Nat} (hk2 : k2 < 6) {self : Nat → Nat → jS → Int32 → Int32 → Int32 → Int32 → Option jS} (hself : ∀ {k : Nat} (_ : k < 2) {k2 : Nat} (_ : k2 < 6) {S : jS} {x2 : Int32} {x3 : Int32} {x4 : Int32} {x5 : Int32} {r : jS},  self k k2 S x2 x3 x4 x5 = some r → jMR E (n + 3) mX3_search [.ref (E.1 (7, k)), .ref (E.1 (3, k2)), .int x2, .int x3, .int x4, .int x5] S [] r) {S : jS} {x2 : Int32} {x4 : Int32} {x5 : Int32} {x7 : Int32} {x8 : Int32} {r : jS} (h : bX3_search_103 k k2 self S x2 x4 x5 x7 x8 = some r) : JR E (n + 4) mX3_search 103 [(0, .ref (E.1 (7, k))), (1, .ref (E.1 (3, k2))), (2, .int x2), (4, .int x4), (5, .int x5), (7, .int x7), (8, .int x8)] [] S [] r := by
  unfold bX3_search_103 at h
  refine j_iload (pc := 103) 6 dX3_search_103 rfl ?_
  refine j_if_eq (pc := 105) (tgt := 120) dX3_search_105 (by decide) (fun c13 => ?_) (fun c13 => ?_)
  · replace h := jite_t h c13
    exact j_sub [0, 1, 2, 3, 4, 5] rfl (lX3_search_120 hC hk hk2 hself h)
  · replace h := jite_f h c13
    refine j_iload (pc := 108) 5 dX3_search_108 rfl ?_
    refine j_aload_n (pc := 110) 1 dX3_search_110 rfl rfl ?_
    refine jg_3_9 (pc := 111) dX3_search_111 (hC (3, k2) (decide_eq_true hk2)) tw_158 ?_
    refine j_iload_n (pc := 114) 2 dX3_search_114 rfl rfl ?_
    obtain ⟨c14, h⟩ := jchk h
    refine j_ia (pc := 115) dX3_search_115 rfl (hC (24, k2) (decide_eq_true hk2)) c14 ?_
    refine j_iand (pc := 116) dX3_search_116 ?_
    refine j_if_eq (pc := 117) (tgt := 134) dX3_search_117 (by decide) (fun c15 => ?_) (fun c15 => ?_)
    · replace h := jite_t h c15
      cases h
      exact j_vret (pc := 134) dX3_search_134 rfl
    · replace h := jite_f h c15
      exact j_sub [0, 1, 2, 3, 4, 5] rfl (lX3_search_120 hC hk hk2 hself h)
def bX3_search_63 (k : Nat) (k2 : Nat) (self : Nat → Nat → jS → Int32 → Int32 → Int32 → Int32 → Option jS) (S : jS) (x2 : Int32) (x4 : Int32) (x5 : Int32) (x6 : Int32) (x7 : Int32) (t0 : Int32) : Option jS :=
  (if t0 = 0 then bX3_search_103 k k2 self S x2 x4 x5 x7 t0 else if jIn x2 10 then if jIn x2 10 then (self k k2 S (x2 + (1 : Int32)) (x7 &&& ((S.2 (24, k2) x2.toNatClampNeg) ^^^ (-1 : Int32))) (x4 ||| x6) (x5 + (S.2 (41, k) x2.toNatClampNeg))).bind fun y12 => bX3_search_103 k k2 self y12 x2 x4 x5 x7 t0 else none else none)
set_option maxRecDepth 10000 in
set_option maxHeartbeats 4000000 in
theorem lX3_search_63 {E : jE} {n : Nat} (hC : jHC E) {k : Nat} (hk : k < 2) {k2 : Nat} (hk2 : k2 < 6) {self : Nat → Nat → jS → Int32 → Int32 → Int32 → Int32 → Option jS} (hself : ∀ {k : Nat} (_ : k < 2) {k2 : Nat} (_ : k2 < 6) {S : jS} {x2 : Int32} {x3 : Int32} {x4 : Int32} {x5 : Int32} {r : jS},  self k k2 S x2 x3 x4 x5 = some r → jMR E (n + 3) mX3_search [.ref (E.1 (7, k)), .ref (E.1 (3, k2)), .int x2, .int x3, .int x4, .int x5] S [] r) {S : jS} {x2 : Int32} {x4 : Int32} {x5 : Int32} {x6 : Int32} {x7 : Int32} {t0 : Int32} {r : jS} (h : bX3_search_63 k k2 self S x2 x4 x5 x6 x7 t0 = some r) : JR E (n + 4) mX3_search 63 [(0, .ref (E.1 (7, k))), (1, .ref (E.1 (3, k2))), (2, .int x2), (4, .int x4), (5, .int x5), (6, .int x6), (7, .int x7)] [.int t0] S [] r := by
  unfold bX3_search_63 at h
  refine j_istore (pc := 63) (lv' := [(8, .int t0), (0, .ref (E.1 (7, k))), (1, .ref (E.1 (3, k2))), (2, .int x2), (4, .int x4), (5, .int x5), (6, .int x6), (7, .int x7)]) dX3_search_63 (by decide) rfl ?_
  refine j_iload (pc := 65) 0 dX3_search_65 rfl ?_
  refine j_if_eq (pc := 67) (tgt := 103) dX3_search_67 (by decide) (fun c9 => ?_) (fun c9 => ?_)
  · replace h := jite_t h c9
    exact j_sub [1, 2, 3, 4, 5, 7, 0] rfl (lX3_search_103 hC hk hk2 hself h)
  · replace h := jite_f h c9
    refine j_aload_n (pc := 70) 1 dX3_search_70 rfl rfl ?_
    refine j_aload_n (pc := 71) 2 dX3_search_71 rfl rfl ?_
    refine j_iload_n (pc := 72) 3 dX3_search_72 rfl rfl ?_
    refine j_iconst (pc := 73) dX3_search_73 jci_1 ?_
    refine j_iadd (pc := 74) dX3_search_74 ?_
    refine j_iload (pc := 75) 7 dX3_search_75 rfl ?_
    refine j_aload_n (pc := 77) 2 dX3_search_77 rfl rfl ?_
    refine jg_3_9 (pc := 78) dX3_search_78 (hC (3, k2) (decide_eq_true hk2)) tw_158 ?_
    refine j_iload_n (pc := 81) 3 dX3_search_81 rfl rfl ?_
    obtain ⟨c10, h⟩ := jchk h
    refine j_ia (pc := 82) dX3_search_82 rfl (hC (24, k2) (decide_eq_true hk2)) c10 ?_
    refine j_iconst (pc := 83) dX3_search_83 jci_m1 ?_
    refine j_ixor (pc := 84) dX3_search_84 ?_
    refine j_iand (pc := 85) dX3_search_85 ?_
    refine j_iload (pc := 86) 4 dX3_search_86 rfl ?_
    refine j_iload (pc := 88) 6 dX3_search_88 rfl ?_
    refine j_ior (pc := 90) dX3_search_90 ?_
    refine j_iload (pc := 91) 5 dX3_search_91 rfl ?_
    refine j_aload_n (pc := 93) 1 dX3_search_93 rfl rfl ?_
    refine jg_7_3 (pc := 94) dX3_search_94 (hC (7, k) (decide_eq_true hk)) tw_277 ?_
    refine j_iload_n (pc := 97) 3 dX3_search_97 rfl rfl ?_
    obtain ⟨c11, h⟩ := jchk h
    refine j_ia (pc := 98) dX3_search_98 rfl (hC (41, k) (decide_eq_true hk)) c11 ?_
    refine j_iadd (pc := 99) dX3_search_99 ?_
    obtain ⟨y12, hy12, h⟩ := jbnd h
    refine j_callS (pc := 100) (N := mX3_search) (As := [.ref (E.1 (7, k)), .ref (E.1 (3, k2)), .int (x2 + (1 : Int32)), .int (x7 &&& ((S.2 (24, k2) x2.toNatClampNeg) ^^^ (-1 : Int32))), .int (x4 ||| x6), .int (x5 + (S.2 (41, k) x2.toNatClampNeg))]) (rest := []) (v := []) (S1 := y12) dX3_search_100 (hself hk hk2 hy12) (by simp) (by omega) okX3_search tw_619 tw_618 rfl rfl (by simp [Value.category]) ?_
    exact j_sub [1, 2, 3, 4, 5, 7, 0] rfl (lX3_search_103 hC hk hk2 hself h)
def bX3_search (k : Nat) (k2 : Nat) (self : Nat → Nat → jS → Int32 → Int32 → Int32 → Int32 → Option jS) (S : jS) (x2 : Int32) (x3 : Int32) (x4 : Int32) (x5 : Int32) : Option jS :=
  (fX3_weightOf k S x3).bind fun y1 => (if (y1.2.1 (11, k)) ≤ (x5 + y1.1) then (if (y1.2.1 (3, k2)) ≤ x2 then bX3_search_30 k k2 self (y1.2) x4 x5 else (if x2 < (10 : Int32) then jlet ((1 : Int32) <<< (x2 &&& 31)) fun v5 => jlet (x3 &&& (v5 ^^^ (-1 : Int32))) fun v6 => (if v6 = x3 then bX3_search_63 k k2 self (y1.2) x2 x4 x5 v5 v6 (0 : Int32) else bX3_search_63 k k2 self (y1.2) x2 x4 x5 v5 v6 (1 : Int32)) else bX3_search_30 k k2 self (y1.2) x4 x5)) else some y1.2)
def fX3_search : Nat → Nat → Nat → jS → Int32 → Int32 → Int32 → Int32 → Option jS
  | 0 => fun _ _ _ _ _ _ _ => none
  | n + 1 => fun k k2 S x2 x3 x4 x5 => bX3_search k k2 (fX3_search n) S x2 x3 x4 x5
set_option maxRecDepth 10000 in
set_option maxHeartbeats 4000000 in
theorem kX3_search {E : jE} (hC : jHC E) (fu : Nat) : ∀ {k : Nat} (_ : k < 2) {k2 : Nat} (_ : k2 < 6) {S : jS} {x2 : Int32} {x3 : Int32} {x4 : Int32} {x5 : Int32} {r : jS}, fX3_search fu k k2 S x2 x3 x4 x5 = some r → jMR E (fu + 3) mX3_search [.ref (E.1 (7, k)), .ref (E.1 (3, k2)), .int x2, .int x3, .int x4, .int x5] S [] r := by
  induction fu with
  | zero => intro k hk k2 hk2 S x2 x3 x4 x5 r h; cases h
  | succ n hself =>
    intro k hk k2 hk2 S x2 x3 x4 x5 r h
    refine ⟨Nat.le_of_ble_eq_true rfl, ?_⟩
    show JR E (n + 1 + 3) mX3_search 0 [(0, .ref (E.1 (7, k))), (1, .ref (E.1 (3, k2))), (2, .int x2), (3, .int x3), (4, .int x4), (5, .int x5)] [] S [] r
    have h : bX3_search k k2 (fX3_search n) S x2 x3 x4 x5 = some r := h
    unfold bX3_search at h
    refine j_iload (pc := 0) 5 dX3_search_0 rfl ?_
    refine j_aload_n (pc := 2) 0 dX3_search_2 rfl rfl ?_
    refine j_iload_n (pc := 3) 3 dX3_search_3 rfl rfl ?_
    obtain ⟨y1, hy1, h⟩ := jbnd h
    refine j_callV (pc := 4) (N := mX3_weightOf) (rr := (7, k)) (As := [.int x3]) (rest := [.int x5]) (v := [.int y1.1]) (S1 := y1.2) dX3_search_4 (kX3_weightOf hC hk hy1) (by simp) (by omega) okX3_weightOf tw_623 tw_14 tw_621 (hC (7, k) (decide_eq_true hk)) rfl rfl rfl rfl (by simp [Value.category]) ?_
    refine j_iadd (pc := 7) dX3_search_7 ?_
    refine j_aload_n (pc := 8) 0 dX3_search_8 rfl rfl ?_
    refine jg_7_1 (pc := 9) dX3_search_9 (hC (7, k) (decide_eq_true hk)) tw_272 ?_
    refine j_icmp_ge (pc := 12) (tgt := 16) dX3_search_12 (by decide) (fun c2 => ?_) (fun c2 => ?_)
    · replace h := jite_t h c2
      refine j_iload_n (pc := 16) 2 dX3_search_16 rfl rfl ?_
      refine j_aload_n (pc := 17) 1 dX3_search_17 rfl rfl ?_
      refine jg_3_2 (pc := 18) dX3_search_18 (hC (3, k2) (decide_eq_true hk2)) tw_132 ?_
      refine j_icmp_ge (pc := 21) (tgt := 30) dX3_search_21 (by decide) (fun c3 => ?_) (fun c3 => ?_)
      · replace h := jite_t h c3
        exact j_sub [0, 4, 5] rfl (lX3_search_30 hC hk hk2 hself h)
      · replace h := jite_f h c3
        refine j_iload_n (pc := 24) 2 dX3_search_24 rfl rfl ?_
        refine j_bipush (pc := 25) dX3_search_25 jcb_10 ?_
        refine j_icmp_lt (pc := 27) (tgt := 39) dX3_search_27 (by decide) (fun c4 => ?_) (fun c4 => ?_)
        · replace h := jite_t h c4
          refine j_iconst (pc := 39) dX3_search_39 jci_1 ?_
          refine j_iload_n (pc := 40) 2 dX3_search_40 rfl rfl ?_
          refine j_ishl (pc := 41) dX3_search_41 ?_
          obtain ⟨v5, ev5, h⟩ := jlk h
          refine j_topi ev5 ?_
          refine j_istore (pc := 42) (lv' := [(6, .int v5), (0, .ref (E.1 (7, k))), (1, .ref (E.1 (3, k2))), (2, .int x2), (3, .int x3), (4, .int x4), (5, .int x5)]) dX3_search_42 (by decide) rfl ?_
          refine j_iload_n (pc := 44) 4 dX3_search_44 rfl rfl ?_
          refine j_iload (pc := 45) 0 dX3_search_45 rfl ?_
          refine j_iconst (pc := 47) dX3_search_47 jci_m1 ?_
          refine j_ixor (pc := 48) dX3_search_48 ?_
          refine j_iand (pc := 49) dX3_search_49 ?_
          obtain ⟨v6, ev6, h⟩ := jlk h
          refine j_topi ev6 ?_
          refine j_istore (pc := 50) (lv' := [(7, .int v6), (6, .int v5), (0, .ref (E.1 (7, k))), (1, .ref (E.1 (3, k2))), (2, .int x2), (3, .int x3), (4, .int x4), (5, .int x5)]) dX3_search_50 (by decide) rfl ?_
          refine j_iload (pc := 52) 0 dX3_search_52 rfl ?_
          refine j_iload_n (pc := 54) 5 dX3_search_54 rfl rfl ?_
          refine j_icmp_eq (pc := 55) (tgt := 62) dX3_search_55 (by decide) (fun c7 => ?_) (fun c7 => ?_)
          · replace h := jite_t h c7
            refine j_iconst (pc := 62) dX3_search_62 jci_0 ?_
            exact j_sub [2, 3, 4, 6, 7, 1, 0] rfl (lX3_search_63 hC hk hk2 hself h)
          · replace h := jite_f h c7
            refine j_iconst (pc := 58) dX3_search_58 jci_1 ?_
            refine j_goto (pc := 59) (tgt := 63) dX3_search_59 (by decide) ?_
            exact j_sub [2, 3, 4, 6, 7, 1, 0] rfl (lX3_search_63 hC hk hk2 hself h)
        · replace h := jite_f h c4
          exact j_sub [0, 4, 5] rfl (lX3_search_30 hC hk hk2 hself h)
    · replace h := jite_f h c2
      cases h
      exact j_vret (pc := 15) dX3_search_15 rfl
abbrev mX3_pick : jM := (yX3_pick, cX3_pick, 5, none)
theorem okX3_pick : jOK mX3_pick 2 := ⟨by decide +kernel, tw_617, tw_75, by decide +kernel, by decide, by decide⟩
def bX3_pick_33 (k : Nat) (k2 : Nat) (q5 : jS → Int32 → Int32 → Int32 → Option jS) (S : jS) (x2 : Int32) (x3 : Int32) (x4 : Int32) : Option jS :=
  jlet (x4 + (1 : Int32)) fun v8 => q5 S x2 x3 v8
set_option maxRecDepth 10000 in
set_option maxHeartbeats 4000000 in
theorem lX3_pick_33 {E : jE} (hC : jHC E) {k : Nat} (hk : k < 2) {k2 : Nat} (hk2 : k2 < 6) {q5 : jS → Int32 → Int32 → Int32 → Option jS} (H5 : ∀ {S : jS} {x2 : Int32} {x3 : Int32} {x4 : Int32} {r : jS}, q5 S x2 x3 x4 = some r → JR E 16 mX3_pick 5 [(0, .ref (E.1 (7, k))), (1, .ref (E.1 (3, k2))), (2, .int x2), (3, .int x3), (4, .int x4)] [] S [] r) {S : jS} {x2 : Int32} {x3 : Int32} {x4 : Int32} {r : jS} (h : bX3_pick_33 k k2 q5 S x2 x3 x4 = some r) : JR E 16 mX3_pick 33 [(0, .ref (E.1 (7, k))), (1, .ref (E.1 (3, k2))), (2, .int x2), (3, .int x3), (4, .int x4)] [] S [] r := by
  unfold bX3_pick_33 at h
  obtain ⟨v8, ev8, h⟩ := jlk h
  refine j_iinc (pc := 33) (v := v8) (lv' := [(4, .int v8), (0, .ref (E.1 (7, k))), (1, .ref (E.1 (3, k2))), (2, .int x2), (3, .int x3)]) 4 dX3_pick_33 rfl (by rw [ev8]; rfl) (by decide) rfl ?_
  refine j_goto (pc := 36) (tgt := 5) dX3_pick_36 (by decide) ?_
  exact j_sub [1, 2, 3, 4, 0] rfl (H5 h)
def bX3_pick_5 (k : Nat) (k2 : Nat) (q5 : jS → Int32 → Int32 → Int32 → Option jS) (S : jS) (x2 : Int32) (x3 : Int32) (x4 : Int32) : Option jS :=
  (if (S.1 (3, k2)) ≤ x4 then jlet (jset S (10, k) (0 : Int32)) fun S2 => jlet (jset S2 (11, k) (0 : Int32)) fun S3 => (fX3_search 11 k k2 S3 (0 : Int32) (x3 &&& (x2 ^^^ (-1 : Int32))) (0 : Int32) (0 : Int32)).bind fun y4 => some y4 else if jIn x4 10 then (if (S.2 (40, k) x4.toNatClampNeg) = (-4 : Int32) then bX3_pick_33 k k2 q5 S x2 x3 x4 else jlet (x3 ||| ((1 : Int32) <<< (x4 &&& 31))) fun v7 => bX3_pick_33 k k2 q5 S x2 v7 x4) else none)
set_option maxRecDepth 10000 in
set_option maxHeartbeats 4000000 in
theorem lX3_pick_5 {E : jE} (hC : jHC E) {k : Nat} (hk : k < 2) {k2 : Nat} (hk2 : k2 < 6) {q5 : jS → Int32 → Int32 → Int32 → Option jS} (H5 : ∀ {S : jS} {x2 : Int32} {x3 : Int32} {x4 : Int32} {r : jS}, q5 S x2 x3 x4 = some r → JR E 16 mX3_pick 5 [(0, .ref (E.1 (7, k))), (1, .ref (E.1 (3, k2))), (2, .int x2), (3, .int x3), (4, .int x4)] [] S [] r) {S : jS} {x2 : Int32} {x3 : Int32} {x4 : Int32} {r : jS} (h : bX3_pick_5 k k2 q5 S x2 x3 x4 = some r) : JR E 16 mX3_pick 5 [(0, .ref (E.1 (7, k))), (1, .ref (E.1 (3, k2))), (2, .int x2), (3, .int x3), (4, .int x4)] [] S [] r := by
  unfold bX3_pick_5 at h
  refine j_iload (pc := 5) 4 dX3_pick_5 rfl ?_
  refine j_aload_n (pc := 7) 1 dX3_pick_7 rfl rfl ?_
  refine jg_3_2 (pc := 8) dX3_pick_8 (hC (3, k2) (decide_eq_true hk2)) tw_132 ?_
  refine j_icmp_ge (pc := 11) (tgt := 39) dX3_pick_11 (by decide) (fun c1 => ?_) (fun c1 => ?_)
  · replace h := jite_t h c1
    refine j_aload_n (pc := 39) 0 dX3_pick_39 rfl rfl ?_
    refine j_iconst (pc := 40) dX3_pick_40 jci_0 ?_
    obtain ⟨S2, eS2, h⟩ := jlk h
    refine jp_10 (pc := 41) dX3_pick_41 (hC (7, k) (decide_eq_true hk)) tw_269 eS2 ?_
    refine j_aload_n (pc := 44) 0 dX3_pick_44 rfl rfl ?_
    refine j_iconst (pc := 45) dX3_pick_45 jci_0 ?_
    obtain ⟨S3, eS3, h⟩ := jlk h
    refine jp_11 (pc := 46) dX3_pick_46 (hC (7, k) (decide_eq_true hk)) tw_272 eS3 ?_
    refine j_aload_n (pc := 49) 0 dX3_pick_49 rfl rfl ?_
    refine j_aload_n (pc := 50) 1 dX3_pick_50 rfl rfl ?_
    refine j_iconst (pc := 51) dX3_pick_51 jci_0 ?_
    refine j_iload_n (pc := 52) 3 dX3_pick_52 rfl rfl ?_
    refine j_iload_n (pc := 53) 2 dX3_pick_53 rfl rfl ?_
    refine j_iconst (pc := 54) dX3_pick_54 jci_m1 ?_
    refine j_ixor (pc := 55) dX3_pick_55 ?_
    refine j_iand (pc := 56) dX3_pick_56 ?_
    refine j_iconst (pc := 57) dX3_pick_57 jci_0 ?_
    refine j_iconst (pc := 58) dX3_pick_58 jci_0 ?_
    obtain ⟨y4, hy4, h⟩ := jbnd h
    refine j_callS (pc := 59) (N := mX3_search) (As := [.ref (E.1 (7, k)), .ref (E.1 (3, k2)), .int (0 : Int32), .int (x3 &&& (x2 ^^^ (-1 : Int32))), .int (0 : Int32), .int (0 : Int32)]) (rest := []) (v := []) (S1 := y4) dX3_pick_59 (kX3_search hC 11 hk hk2 hy4) (by simp) (by decide) okX3_search tw_619 tw_618 rfl rfl (by simp [Value.category]) ?_
    cases h
    exact j_vret (pc := 62) dX3_pick_62 rfl
  · replace h := jite_f h c1
    refine j_aload_n (pc := 14) 0 dX3_pick_14 rfl rfl ?_
    refine jg_7_2 (pc := 15) dX3_pick_15 (hC (7, k) (decide_eq_true hk)) tw_274 ?_
    refine j_iload (pc := 18) 4 dX3_pick_18 rfl ?_
    obtain ⟨c5, h⟩ := jchk h
    refine j_ia (pc := 20) dX3_pick_20 rfl (hC (40, k) (decide_eq_true hk)) c5 ?_
    refine j_bipush (pc := 21) dX3_pick_21 jcb_m4 ?_
    refine j_icmp_eq (pc := 23) (tgt := 33) dX3_pick_23 (by decide) (fun c6 => ?_) (fun c6 => ?_)
    · replace h := jite_t h c6
      exact j_sub [0, 1, 2, 3, 4] rfl (lX3_pick_33 hC hk hk2 H5 h)
    · replace h := jite_f h c6
      refine j_iload_n (pc := 26) 3 dX3_pick_26 rfl rfl ?_
      refine j_iconst (pc := 27) dX3_pick_27 jci_1 ?_
      refine j_iload (pc := 28) 4 dX3_pick_28 rfl ?_
      refine j_ishl (pc := 30) dX3_pick_30 ?_
      refine j_ior (pc := 31) dX3_pick_31 ?_
      obtain ⟨v7, ev7, h⟩ := jlk h
      refine j_topi ev7 ?_
      refine j_istore_n (pc := 32) (lv' := [(3, .int v7), (0, .ref (E.1 (7, k))), (1, .ref (E.1 (3, k2))), (2, .int x2), (4, .int x4)]) dX3_pick_32 rfl (by decide) rfl ?_
      exact j_sub [1, 2, 3, 0, 4] rfl (lX3_pick_33 hC hk hk2 H5 h)
def fX3_pick_5 (k : Nat) (k2 : Nat) : Nat → jS → Int32 → Int32 → Int32 → Option jS
  | 0 => fun _ _ _ _ => none
  | n + 1 => bX3_pick_5 k k2 (fX3_pick_5 k k2 n)
theorem kX3_pick_5 {E : jE} (hC : jHC E) {k : Nat} (hk : k < 2) {k2 : Nat} (hk2 : k2 < 6) (fu : Nat) : ∀ {S : jS} {x2 : Int32} {x3 : Int32} {x4 : Int32} {r : jS}, fX3_pick_5 k k2 fu S x2 x3 x4 = some r → JR E 16 mX3_pick 5 [(0, .ref (E.1 (7, k))), (1, .ref (E.1 (3, k2))), (2, .int x2), (3, .int x3), (4, .int x4)] [] S [] r := by
  induction fu with
  | zero => intro S x2 x3 x4 r h; cases h
  | succ n_ ih => intro S x2 x3 x4 r h; exact lX3_pick_5 hC hk hk2 ih h
def fX3_pick (k : Nat) (k2 : Nat) (S : jS) (x2 : Int32) : Option jS :=
  fX3_pick_5 k k2 5000 S x2 (0 : Int32) (0 : Int32)
set_option maxRecDepth 10000 in
set_option maxHeartbeats 4000000 in
theorem kX3_pick {E : jE} (hC : jHC E) {k : Nat} (hk : k < 2) {k2 : Nat} (hk2 : k2 < 6) {S : jS} {x2 : Int32} {r : jS} (h : fX3_pick k k2 S x2 = some r) : jMR E 16 mX3_pick [.ref (E.1 (7, k)), .ref (E.1 (3, k2)), .int x2] S [] r := by
  refine ⟨Nat.le_of_ble_eq_true rfl, ?_⟩
  show JR E 16 mX3_pick 0 [(0, .ref (E.1 (7, k))), (1, .ref (E.1 (3, k2))), (2, .int x2)] [] S [] r
  unfold fX3_pick at h
  refine j_iconst (pc := 0) dX3_pick_0 jci_0 ?_
  refine j_istore_n (pc := 1) (lv' := [(3, .int (0 : Int32)), (0, .ref (E.1 (7, k))), (1, .ref (E.1 (3, k2))), (2, .int x2)]) dX3_pick_1 rfl (by decide) rfl ?_
  refine j_iconst (pc := 2) dX3_pick_2 jci_0 ?_
  refine j_istore (pc := 3) (lv' := [(4, .int (0 : Int32)), (3, .int (0 : Int32)), (0, .ref (E.1 (7, k))), (1, .ref (E.1 (3, k2))), (2, .int x2)]) dX3_pick_3 (by decide) rfl ?_
  exact j_sub [2, 3, 4, 1, 0] rfl (kX3_pick_5 hC hk hk2 5000 h)
abbrev mX6_dropOf : jM := (yX6_dropOf, cX6_dropOf, 5, (some .int))
theorem okX6_dropOf : jOK mX6_dropOf 2 := ⟨by decide +kernel, tw_608, tw_71, by decide +kernel, by decide, by decide⟩
def fX6_dropOf (k : Nat) (S : jS) (x1 : Int32) (x2 : Int32) : Option (Int32 × jS) :=
  if jIn x1 10 then (fX7_spot S (S.2 (21, k) x1.toNatClampNeg) x2).bind fun y2 => if jIn x1 10 then (fX7_spot y2.2 (y2.2.2 (22, k) x1.toNatClampNeg) x2).bind fun y4 => if jIn y2.1 18 then (fX2_biasAt k y4.2 y2.1).bind fun y6 => if jIn y4.1 18 then (fX2_biasAt k y6.2 y4.1).bind fun y8 => some ((((y4.2.2 (33, k) y2.1.toNatClampNeg) + y6.1) - (y6.2.2 (33, k) y4.1.toNatClampNeg)) - y8.1, y8.2) else none else none else none else none
set_option maxRecDepth 10000 in
set_option maxHeartbeats 4000000 in
theorem kX6_dropOf {E : jE} (hC : jHC E) {k : Nat} (hk : k < 6) {S : jS} {x1 : Int32} {x2 : Int32} {r : (Int32 × jS)} (h : fX6_dropOf k S x1 x2 = some r) : jMR E 2 mX6_dropOf [.ref (E.1 (2, k)), .int x1, .int x2] S [.int r.1] r.2 := by
  refine ⟨Nat.le_of_ble_eq_true rfl, ?_⟩
  show JR E 2 mX6_dropOf 0 [(0, .ref (E.1 (2, k))), (1, .int x1), (2, .int x2)] [] S [.int r.1] r.2
  unfold fX6_dropOf at h
  refine j_aload_n (pc := 0) 0 dX6_dropOf_0 rfl rfl ?_
  refine jg_2_0 (pc := 1) dX6_dropOf_1 (hC (2, k) (decide_eq_true hk)) tw_230 ?_
  refine jg_3_6 (pc := 4) dX6_dropOf_4 (hC (3, k) (decide_eq_true hk)) tw_145 ?_
  refine j_iload_n (pc := 7) 1 dX6_dropOf_7 rfl rfl ?_
  obtain ⟨c1, h⟩ := jchk h
  refine j_ia (pc := 8) dX6_dropOf_8 rfl (hC (21, k) (decide_eq_true hk)) c1 ?_
  refine j_iload_n (pc := 9) 2 dX6_dropOf_9 rfl rfl ?_
  obtain ⟨y2, hy2, h⟩ := jbnd h
  refine j_callN (pc := 10) (N := mX7_spot) (host := "DropQueues") (As := [.int (S.2 (21, k) x1.toNatClampNeg), .int x2]) (rest := []) (v := [.int y2.1]) (S1 := y2.2) dX6_dropOf_10 (kX7_spot hC hy2) (by simp) (by decide) okX7_spot tw_441 (by decide) rfl rfl (by simp [Value.category]) ?_
  refine j_istore_n (pc := 13) (lv' := [(3, .int y2.1), (0, .ref (E.1 (2, k))), (1, .int x1), (2, .int x2)]) dX6_dropOf_13 rfl (by decide) rfl ?_
  refine j_aload_n (pc := 14) 1 dX6_dropOf_14 rfl rfl ?_
  refine jg_2_0 (pc := 15) dX6_dropOf_15 (hC (2, k) (decide_eq_true hk)) tw_230 ?_
  refine jg_3_7 (pc := 18) dX6_dropOf_18 (hC (3, k) (decide_eq_true hk)) tw_150 ?_
  refine j_iload_n (pc := 21) 2 dX6_dropOf_21 rfl rfl ?_
  obtain ⟨c3, h⟩ := jchk h
  refine j_ia (pc := 22) dX6_dropOf_22 rfl (hC (22, k) (decide_eq_true hk)) c3 ?_
  refine j_iload_n (pc := 23) 3 dX6_dropOf_23 rfl rfl ?_
  obtain ⟨y4, hy4, h⟩ := jbnd h
  refine j_callN (pc := 24) (N := mX7_spot) (host := "DropQueues") (As := [.int (y2.2.2 (22, k) x1.toNatClampNeg), .int x2]) (rest := []) (v := [.int y4.1]) (S1 := y4.2) dX6_dropOf_24 (kX7_spot hC hy4) (by simp) (by decide) okX7_spot tw_441 (by decide) rfl rfl (by simp [Value.category]) ?_
  refine j_istore (pc := 27) (lv' := [(4, .int y4.1), (3, .int y2.1), (0, .ref (E.1 (2, k))), (1, .int x1), (2, .int x2)]) dX6_dropOf_27 (by decide) rfl ?_
  refine j_aload_n (pc := 29) 2 dX6_dropOf_29 rfl rfl ?_
  refine jg_2_1 (pc := 30) dX6_dropOf_30 (hC (2, k) (decide_eq_true hk)) tw_234 ?_
  refine jg_4_5 (pc := 33) dX6_dropOf_33 (hC (4, k) (decide_eq_true hk)) tw_207 ?_
  refine j_iload_n (pc := 36) 1 dX6_dropOf_36 rfl rfl ?_
  obtain ⟨c5, h⟩ := jchk h
  refine j_ia (pc := 37) dX6_dropOf_37 rfl (hC (33, k) (decide_eq_true hk)) c5 ?_
  refine j_aload_n (pc := 38) 2 dX6_dropOf_38 rfl rfl ?_
  refine jg_2_0 (pc := 39) dX6_dropOf_39 (hC (2, k) (decide_eq_true hk)) tw_230 ?_
  refine j_iload_n (pc := 42) 1 dX6_dropOf_42 rfl rfl ?_
  obtain ⟨y6, hy6, h⟩ := jbnd h
  refine j_callV (pc := 43) (N := mX2_biasAt) (rr := (3, k)) (As := [.int y2.1]) (rest := [.int (y4.2.2 (33, k) y2.1.toNatClampNeg)]) (v := [.int y6.1]) (S1 := y6.2) dX6_dropOf_43 (kX2_biasAt hC hk hy6) (by simp) (by decide) okX2_biasAt tw_611 tw_612 tw_610 (hC (3, k) (decide_eq_true hk)) rfl rfl rfl rfl (by simp [Value.category]) ?_
  refine j_iadd (pc := 46) dX6_dropOf_46 ?_
  refine j_aload_n (pc := 47) 2 dX6_dropOf_47 rfl rfl ?_
  refine jg_2_1 (pc := 48) dX6_dropOf_48 (hC (2, k) (decide_eq_true hk)) tw_234 ?_
  refine jg_4_5 (pc := 51) dX6_dropOf_51 (hC (4, k) (decide_eq_true hk)) tw_207 ?_
  refine j_iload (pc := 54) 0 dX6_dropOf_54 rfl ?_
  obtain ⟨c7, h⟩ := jchk h
  refine j_ia (pc := 56) dX6_dropOf_56 rfl (hC (33, k) (decide_eq_true hk)) c7 ?_
  refine j_isub (pc := 57) dX6_dropOf_57 ?_
  refine j_aload_n (pc := 58) 2 dX6_dropOf_58 rfl rfl ?_
  refine jg_2_0 (pc := 59) dX6_dropOf_59 (hC (2, k) (decide_eq_true hk)) tw_230 ?_
  refine j_iload (pc := 62) 0 dX6_dropOf_62 rfl ?_
  obtain ⟨y8, hy8, h⟩ := jbnd h
  refine j_callV (pc := 64) (N := mX2_biasAt) (rr := (3, k)) (As := [.int y4.1]) (rest := [.int (((y4.2.2 (33, k) y2.1.toNatClampNeg) + y6.1) - (y6.2.2 (33, k) y4.1.toNatClampNeg))]) (v := [.int y8.1]) (S1 := y8.2) dX6_dropOf_64 (kX2_biasAt hC hk hy8) (by simp) (by decide) okX2_biasAt tw_611 tw_612 tw_610 (hC (3, k) (decide_eq_true hk)) rfl rfl rfl rfl (by simp [Value.category]) ?_
  refine j_isub (pc := 67) dX6_dropOf_67 ?_
  cases h
  exact j_iret (pc := 68) dX6_dropOf_68 rfl rfl
abbrev mX3_choiceOf : jM := (yX3_choiceOf, cX3_choiceOf, 5, (some .int))
theorem okX3_choiceOf : jOK mX3_choiceOf 2 := ⟨by decide +kernel, tw_603, tw_75, by decide +kernel, by decide, by decide⟩
def bX3_choiceOf_67 (k : Nat) (q8 : jS → Int32 → Int32 → Int32 → Int32 → Option (Int32 × jS)) (S : jS) (x1 : Int32) (x2 : Int32) (x3 : Int32) (x4 : Int32) : Option (Int32 × jS) :=
  jlet (x4 + (1 : Int32)) fun v9 => q8 S x1 x2 x3 v9
set_option maxRecDepth 10000 in
set_option maxHeartbeats 4000000 in
theorem lX3_choiceOf_67 {E : jE} (hC : jHC E) {k : Nat} (hk : k < 6) {q8 : jS → Int32 → Int32 → Int32 → Int32 → Option (Int32 × jS)} (H8 : ∀ {S : jS} {x1 : Int32} {x2 : Int32} {x3 : Int32} {x4 : Int32} {r : (Int32 × jS)}, q8 S x1 x2 x3 x4 = some r → JR E 3 mX3_choiceOf 8 [(0, .ref (E.1 (2, k))), (1, .int x1), (2, .int x2), (3, .int x3), (4, .int x4)] [] S [.int r.1] r.2) {S : jS} {x1 : Int32} {x2 : Int32} {x3 : Int32} {x4 : Int32} {r : (Int32 × jS)} (h : bX3_choiceOf_67 k q8 S x1 x2 x3 x4 = some r) : JR E 3 mX3_choiceOf 67 [(0, .ref (E.1 (2, k))), (1, .int x1), (2, .int x2), (3, .int x3), (4, .int x4)] [] S [.int r.1] r.2 := by
  unfold bX3_choiceOf_67 at h
  obtain ⟨v9, ev9, h⟩ := jlk h
  refine j_iinc (pc := 67) (v := v9) (lv' := [(4, .int v9), (0, .ref (E.1 (2, k))), (1, .int x1), (2, .int x2), (3, .int x3)]) 4 dX3_choiceOf_67 rfl (by rw [ev9]; rfl) (by decide) rfl ?_
  refine j_goto (pc := 70) (tgt := 8) dX3_choiceOf_70 (by decide) ?_
  exact j_sub [1, 2, 3, 4, 0] rfl (H8 h)
def bX3_choiceOf_8 (k : Nat) (q8 : jS → Int32 → Int32 → Int32 → Int32 → Option (Int32 × jS)) (S : jS) (x1 : Int32) (x2 : Int32) (x3 : Int32) (x4 : Int32) : Option (Int32 × jS) :=
  (if (S.1 (2, k)) ≤ x4 then some (x2, S) else if jIn x1 10 then (fX7_spot S (S.2 (21, k) x1.toNatClampNeg) x4).bind fun y3 => if jIn y3.1 18 then (if (y3.2.2 (33, k) y3.1.toNatClampNeg) ≤ 0 then bX3_choiceOf_67 k q8 (y3.2) x1 x2 x3 x4 else (fX6_dropOf k y3.2 x1 x4).bind fun y6 => (if y6.1 ≤ x3 then bX3_choiceOf_67 k q8 (y6.2) x1 x2 x3 x4 else (fX6_dropOf k y6.2 x1 x4).bind fun y8 => bX3_choiceOf_67 k q8 (y8.2) x1 x4 y8.1 x4)) else none else none)
set_option maxRecDepth 10000 in
set_option maxHeartbeats 4000000 in
theorem lX3_choiceOf_8 {E : jE} (hC : jHC E) {k : Nat} (hk : k < 6) {q8 : jS → Int32 → Int32 → Int32 → Int32 → Option (Int32 × jS)} (H8 : ∀ {S : jS} {x1 : Int32} {x2 : Int32} {x3 : Int32} {x4 : Int32} {r : (Int32 × jS)}, q8 S x1 x2 x3 x4 = some r → JR E 3 mX3_choiceOf 8 [(0, .ref (E.1 (2, k))), (1, .int x1), (2, .int x2), (3, .int x3), (4, .int x4)] [] S [.int r.1] r.2) {S : jS} {x1 : Int32} {x2 : Int32} {x3 : Int32} {x4 : Int32} {r : (Int32 × jS)} (h : bX3_choiceOf_8 k q8 S x1 x2 x3 x4 = some r) : JR E 3 mX3_choiceOf 8 [(0, .ref (E.1 (2, k))), (1, .int x1), (2, .int x2), (3, .int x3), (4, .int x4)] [] S [.int r.1] r.2 := by
  unfold bX3_choiceOf_8 at h
  refine j_iload (pc := 8) 4 dX3_choiceOf_8 rfl ?_
  refine j_aload_n (pc := 10) 0 dX3_choiceOf_10 rfl rfl ?_
  refine jg_2_0 (pc := 11) dX3_choiceOf_11 (hC (2, k) (decide_eq_true hk)) tw_231 ?_
  refine jg_3_1 (pc := 14) dX3_choiceOf_14 (hC (3, k) (decide_eq_true hk)) tw_130 ?_
  refine j_icmp_ge (pc := 17) (tgt := 73) dX3_choiceOf_17 (by decide) (fun c1 => ?_) (fun c1 => ?_)
  · replace h := jite_t h c1
    refine j_iload_n (pc := 73) 2 dX3_choiceOf_73 rfl rfl ?_
    cases h
    exact j_iret (pc := 74) dX3_choiceOf_74 rfl rfl
  · replace h := jite_f h c1
    refine j_aload_n (pc := 20) 0 dX3_choiceOf_20 rfl rfl ?_
    refine jg_2_1 (pc := 21) dX3_choiceOf_21 (hC (2, k) (decide_eq_true hk)) tw_236 ?_
    refine jg_4_5 (pc := 24) dX3_choiceOf_24 (hC (4, k) (decide_eq_true hk)) tw_208 ?_
    refine j_aload_n (pc := 27) 0 dX3_choiceOf_27 rfl rfl ?_
    refine jg_2_0 (pc := 28) dX3_choiceOf_28 (hC (2, k) (decide_eq_true hk)) tw_231 ?_
    refine jg_3_6 (pc := 31) dX3_choiceOf_31 (hC (3, k) (decide_eq_true hk)) tw_147 ?_
    refine j_iload_n (pc := 34) 1 dX3_choiceOf_34 rfl rfl ?_
    obtain ⟨c2, h⟩ := jchk h
    refine j_ia (pc := 35) dX3_choiceOf_35 rfl (hC (21, k) (decide_eq_true hk)) c2 ?_
    refine j_iload (pc := 36) 4 dX3_choiceOf_36 rfl ?_
    obtain ⟨y3, hy3, h⟩ := jbnd h
    refine j_callN (pc := 38) (N := mX7_spot) (host := "DropQueues") (As := [.int (S.2 (21, k) x1.toNatClampNeg), .int x4]) (rest := [.ref (E.1 (33, k))]) (v := [.int y3.1]) (S1 := y3.2) dX3_choiceOf_38 (kX7_spot hC hy3) (by simp) (by decide) okX7_spot tw_441 (by decide) rfl rfl (by simp [Value.category]) ?_
    obtain ⟨c4, h⟩ := jchk h
    refine j_ia (pc := 41) dX3_choiceOf_41 rfl (hC (33, k) (decide_eq_true hk)) c4 ?_
    refine j_if_le (pc := 42) (tgt := 67) dX3_choiceOf_42 (by decide) (fun c5 => ?_) (fun c5 => ?_)
    · replace h := jite_t h c5
      exact j_sub [0, 1, 2, 3, 4] rfl (lX3_choiceOf_67 hC hk H8 h)
    · replace h := jite_f h c5
      refine j_aload_n (pc := 45) 0 dX3_choiceOf_45 rfl rfl ?_
      refine j_iload_n (pc := 46) 1 dX3_choiceOf_46 rfl rfl ?_
      refine j_iload (pc := 47) 4 dX3_choiceOf_47 rfl ?_
      obtain ⟨y6, hy6, h⟩ := jbnd h
      refine j_callV (pc := 49) (N := mX6_dropOf) (rr := (2, k)) (As := [.int x1, .int x4]) (rest := []) (v := [.int y6.1]) (S1 := y6.2) dX3_choiceOf_49 (kX6_dropOf hC hk hy6) (by simp) (by decide) okX6_dropOf tw_606 tw_607 tw_605 (hC (2, k) (decide_eq_true hk)) rfl rfl rfl rfl (by simp [Value.category]) ?_
      refine j_iload_n (pc := 52) 3 dX3_choiceOf_52 rfl rfl ?_
      refine j_icmp_le (pc := 53) (tgt := 67) dX3_choiceOf_53 (by decide) (fun c7 => ?_) (fun c7 => ?_)
      · replace h := jite_t h c7
        exact j_sub [0, 1, 2, 3, 4] rfl (lX3_choiceOf_67 hC hk H8 h)
      · replace h := jite_f h c7
        refine j_iload (pc := 56) 4 dX3_choiceOf_56 rfl ?_
        refine j_istore_n (pc := 58) (lv' := [(2, .int x4), (0, .ref (E.1 (2, k))), (1, .int x1), (3, .int x3), (4, .int x4)]) dX3_choiceOf_58 rfl (by decide) rfl ?_
        refine j_aload_n (pc := 59) 1 dX3_choiceOf_59 rfl rfl ?_
        refine j_iload_n (pc := 60) 2 dX3_choiceOf_60 rfl rfl ?_
        refine j_iload (pc := 61) 4 dX3_choiceOf_61 rfl ?_
        obtain ⟨y8, hy8, h⟩ := jbnd h
        refine j_callV (pc := 63) (N := mX6_dropOf) (rr := (2, k)) (As := [.int x1, .int x4]) (rest := []) (v := [.int y8.1]) (S1 := y8.2) dX3_choiceOf_63 (kX6_dropOf hC hk hy8) (by simp) (by decide) okX6_dropOf tw_606 tw_607 tw_605 (hC (2, k) (decide_eq_true hk)) rfl rfl rfl rfl (by simp [Value.category]) ?_
        refine j_istore_n (pc := 66) (lv' := [(3, .int y8.1), (2, .int x4), (0, .ref (E.1 (2, k))), (1, .int x1), (4, .int x4)]) dX3_choiceOf_66 rfl (by decide) rfl ?_
        exact j_sub [2, 3, 1, 0, 4] rfl (lX3_choiceOf_67 hC hk H8 h)
def fX3_choiceOf_8 (k : Nat) : Nat → jS → Int32 → Int32 → Int32 → Int32 → Option (Int32 × jS)
  | 0 => fun _ _ _ _ _ => none
  | n + 1 => bX3_choiceOf_8 k (fX3_choiceOf_8 k n)
theorem kX3_choiceOf_8 {E : jE} (hC : jHC E) {k : Nat} (hk : k < 6) (fu : Nat) : ∀ {S : jS} {x1 : Int32} {x2 : Int32} {x3 : Int32} {x4 : Int32} {r : (Int32 × jS)}, fX3_choiceOf_8 k fu S x1 x2 x3 x4 = some r → JR E 3 mX3_choiceOf 8 [(0, .ref (E.1 (2, k))), (1, .int x1), (2, .int x2), (3, .int x3), (4, .int x4)] [] S [.int r.1] r.2 := by
  induction fu with
  | zero => intro S x1 x2 x3 x4 r h; cases h
  | succ n_ ih => intro S x1 x2 x3 x4 r h; exact lX3_choiceOf_8 hC hk ih h
def fX3_choiceOf (k : Nat) (S : jS) (x1 : Int32) : Option (Int32 × jS) :=
  fX3_choiceOf_8 k 5000 S x1 (-4 : Int32) (0 : Int32) (0 : Int32)
set_option maxRecDepth 10000 in
set_option maxHeartbeats 4000000 in
theorem kX3_choiceOf {E : jE} (hC : jHC E) {k : Nat} (hk : k < 6) {S : jS} {x1 : Int32} {r : (Int32 × jS)} (h : fX3_choiceOf k S x1 = some r) : jMR E 3 mX3_choiceOf [.ref (E.1 (2, k)), .int x1] S [.int r.1] r.2 := by
  refine ⟨Nat.le_of_ble_eq_true rfl, ?_⟩
  show JR E 3 mX3_choiceOf 0 [(0, .ref (E.1 (2, k))), (1, .int x1)] [] S [.int r.1] r.2
  unfold fX3_choiceOf at h
  refine j_bipush (pc := 0) dX3_choiceOf_0 jcb_m4 ?_
  refine j_istore_n (pc := 2) (lv' := [(2, .int (-4 : Int32)), (0, .ref (E.1 (2, k))), (1, .int x1)]) dX3_choiceOf_2 rfl (by decide) rfl ?_
  refine j_iconst (pc := 3) dX3_choiceOf_3 jci_0 ?_
  refine j_istore_n (pc := 4) (lv' := [(3, .int (0 : Int32)), (2, .int (-4 : Int32)), (0, .ref (E.1 (2, k))), (1, .int x1)]) dX3_choiceOf_4 rfl (by decide) rfl ?_
  refine j_iconst (pc := 5) dX3_choiceOf_5 jci_0 ?_
  refine j_istore (pc := 6) (lv' := [(4, .int (0 : Int32)), (3, .int (0 : Int32)), (2, .int (-4 : Int32)), (0, .ref (E.1 (2, k))), (1, .int x1)]) dX3_choiceOf_6 (by decide) rfl ?_
  exact j_sub [3, 4, 2, 1, 0] rfl (kX3_choiceOf_8 hC hk 5000 h)
abbrev mX3_weigh : jM := (yX3_weigh, cX3_weigh, 4, none)
theorem okX3_weigh : jOK mX3_weigh 1 := ⟨by decide +kernel, tw_600, tw_75, by decide +kernel, by decide, by decide⟩
def bX3_weigh_57 (k : Nat) (k2 : Nat) (q2 : jS → Int32 → Option jS) (S : jS) (x2 : Int32) (t1 : Int32) (t2 : Int32) : Option jS :=
  if jIn t1 10 then jlet (jput S (41, k) (upd (S.2 (41, k)) t1.toNatClampNeg t2)) fun S9 => jlet (x2 + (1 : Int32)) fun v10 => q2 S9 v10 else none
set_option maxRecDepth 10000 in
set_option maxHeartbeats 4000000 in
theorem lX3_weigh_57 {E : jE} (hC : jHC E) {k : Nat} (hk : k < 2) {k2 : Nat} (hk2 : k2 < 6) {q2 : jS → Int32 → Option jS} (H2 : ∀ {S : jS} {x2 : Int32} {r : jS}, q2 S x2 = some r → JR E 4 mX3_weigh 2 [(0, .ref (E.1 (7, k))), (1, .ref (E.1 (2, k2))), (2, .int x2)] [] S [] r) {S : jS} {x2 : Int32} {t1 : Int32} {t2 : Int32} {r : jS} (h : bX3_weigh_57 k k2 q2 S x2 t1 t2 = some r) : JR E 4 mX3_weigh 57 [(0, .ref (E.1 (7, k))), (1, .ref (E.1 (2, k2))), (2, .int x2)] [.int t2, .int t1, .ref (E.1 (41, k))] S [] r := by
  unfold bX3_weigh_57 at h
  obtain ⟨c8, h⟩ := jchk h
  obtain ⟨S9, eS9, h⟩ := jlk h
  refine j_is (pc := 57) dX3_weigh_57 rfl (hC (41, k) (decide_eq_true hk)) c8 eS9 ?_
  obtain ⟨v10, ev10, h⟩ := jlk h
  refine j_iinc (pc := 58) (v := v10) (lv' := [(2, .int v10), (0, .ref (E.1 (7, k))), (1, .ref (E.1 (2, k2)))]) 2 dX3_weigh_58 rfl (by rw [ev10]; rfl) (by decide) rfl ?_
  refine j_goto (pc := 61) (tgt := 2) dX3_weigh_61 (by decide) ?_
  exact j_sub [1, 2, 0] rfl (H2 h)
def bX3_weigh_2 (k : Nat) (k2 : Nat) (q2 : jS → Int32 → Option jS) (S : jS) (x2 : Int32) : Option jS :=
  (if (S.1 (3, k2)) ≤ x2 then some S else (fX3_choiceOf k2 S x2).bind fun y2 => if jIn x2 10 then jlet (jput y2.2 (40, k) (upd (y2.2.2 (40, k)) x2.toNatClampNeg y2.1)) fun S4 => (if y2.1 = (-4 : Int32) then bX3_weigh_57 k k2 q2 S4 x2 x2 (0 : Int32) else if jIn x2 10 then (fX6_dropOf k2 S4 x2 y2.1).bind fun y7 => bX3_weigh_57 k k2 q2 (y7.2) x2 x2 ((S4.2 (23, k2) x2.toNatClampNeg) * y7.1) else none) else none)
set_option maxRecDepth 10000 in
set_option maxHeartbeats 4000000 in
theorem lX3_weigh_2 {E : jE} (hC : jHC E) {k : Nat} (hk : k < 2) {k2 : Nat} (hk2 : k2 < 6) {q2 : jS → Int32 → Option jS} (H2 : ∀ {S : jS} {x2 : Int32} {r : jS}, q2 S x2 = some r → JR E 4 mX3_weigh 2 [(0, .ref (E.1 (7, k))), (1, .ref (E.1 (2, k2))), (2, .int x2)] [] S [] r) {S : jS} {x2 : Int32} {r : jS} (h : bX3_weigh_2 k k2 q2 S x2 = some r) : JR E 4 mX3_weigh 2 [(0, .ref (E.1 (7, k))), (1, .ref (E.1 (2, k2))), (2, .int x2)] [] S [] r := by
  unfold bX3_weigh_2 at h
  refine j_iload_n (pc := 2) 2 dX3_weigh_2 rfl rfl ?_
  refine j_aload_n (pc := 3) 1 dX3_weigh_3 rfl rfl ?_
  refine jg_2_0 (pc := 4) dX3_weigh_4 (hC (2, k2) (decide_eq_true hk2)) tw_231 ?_
  refine jg_3_2 (pc := 7) dX3_weigh_7 (hC (3, k2) (decide_eq_true hk2)) tw_132 ?_
  refine j_icmp_ge (pc := 10) (tgt := 64) dX3_weigh_10 (by decide) (fun c1 => ?_) (fun c1 => ?_)
  · replace h := jite_t h c1
    cases h
    exact j_vret (pc := 64) dX3_weigh_64 rfl
  · replace h := jite_f h c1
    refine j_aload_n (pc := 13) 1 dX3_weigh_13 rfl rfl ?_
    refine j_iload_n (pc := 14) 2 dX3_weigh_14 rfl rfl ?_
    obtain ⟨y2, hy2, h⟩ := jbnd h
    refine j_callS (pc := 15) (N := mX3_choiceOf) (As := [.ref (E.1 (2, k2)), .int x2]) (rest := []) (v := [.int y2.1]) (S1 := y2.2) dX3_weigh_15 (kX3_choiceOf hC hk2 hy2) (by simp) (by decide) okX3_choiceOf tw_602 tw_601 rfl rfl (by simp [Value.category]) ?_
    refine j_istore_n (pc := 18) (lv' := [(3, .int y2.1), (0, .ref (E.1 (7, k))), (1, .ref (E.1 (2, k2))), (2, .int x2)]) dX3_weigh_18 rfl (by decide) rfl ?_
    refine j_aload_n (pc := 19) 1 dX3_weigh_19 rfl rfl ?_
    refine jg_7_2 (pc := 20) dX3_weigh_20 (hC (7, k) (decide_eq_true hk)) tw_274 ?_
    refine j_iload_n (pc := 23) 3 dX3_weigh_23 rfl rfl ?_
    refine j_iload_n (pc := 24) 0 dX3_weigh_24 rfl rfl ?_
    obtain ⟨c3, h⟩ := jchk h
    obtain ⟨S4, eS4, h⟩ := jlk h
    refine j_is (pc := 25) dX3_weigh_25 rfl (hC (40, k) (decide_eq_true hk)) c3 eS4 ?_
    refine j_aload_n (pc := 26) 1 dX3_weigh_26 rfl rfl ?_
    refine jg_7_3 (pc := 27) dX3_weigh_27 (hC (7, k) (decide_eq_true hk)) tw_277 ?_
    refine j_iload_n (pc := 30) 3 dX3_weigh_30 rfl rfl ?_
    refine j_iload_n (pc := 31) 0 dX3_weigh_31 rfl rfl ?_
    refine j_bipush (pc := 32) dX3_weigh_32 jcb_m4 ?_
    refine j_icmp_ne (pc := 34) (tgt := 41) dX3_weigh_34 (by decide) (fun c5 => ?_) (fun c5 => ?_)
    · replace h := jite_f h c5
      refine j_aload_n (pc := 41) 2 dX3_weigh_41 rfl rfl ?_
      refine jg_2_0 (pc := 42) dX3_weigh_42 (hC (2, k2) (decide_eq_true hk2)) tw_231 ?_
      refine jg_3_8 (pc := 45) dX3_weigh_45 (hC (3, k2) (decide_eq_true hk2)) tw_154 ?_
      refine j_iload_n (pc := 48) 3 dX3_weigh_48 rfl rfl ?_
      obtain ⟨c6, h⟩ := jchk h
      refine j_ia (pc := 49) dX3_weigh_49 rfl (hC (23, k2) (decide_eq_true hk2)) c6 ?_
      refine j_aload_n (pc := 50) 2 dX3_weigh_50 rfl rfl ?_
      refine j_iload_n (pc := 51) 3 dX3_weigh_51 rfl rfl ?_
      refine j_iload_n (pc := 52) 0 dX3_weigh_52 rfl rfl ?_
      obtain ⟨y7, hy7, h⟩ := jbnd h
      refine j_callV (pc := 53) (N := mX6_dropOf) (rr := (2, k2)) (As := [.int x2, .int y2.1]) (rest := [.int (S4.2 (23, k2) x2.toNatClampNeg), .int x2, .ref (E.1 (41, k))]) (v := [.int y7.1]) (S1 := y7.2) dX3_weigh_53 (kX6_dropOf hC hk2 hy7) (by simp) (by decide) okX6_dropOf tw_606 tw_607 tw_605 (hC (2, k2) (decide_eq_true hk2)) rfl rfl rfl rfl (by simp [Value.category]) ?_
      refine j_imul (pc := 56) dX3_weigh_56 ?_
      exact j_sub [1, 2, 3] rfl (lX3_weigh_57 hC hk hk2 H2 h)
    · replace h := jite_t h c5
      refine j_iconst (pc := 37) dX3_weigh_37 jci_0 ?_
      refine j_goto (pc := 38) (tgt := 57) dX3_weigh_38 (by decide) ?_
      exact j_sub [1, 2, 3] rfl (lX3_weigh_57 hC hk hk2 H2 h)
def fX3_weigh_2 (k : Nat) (k2 : Nat) : Nat → jS → Int32 → Option jS
  | 0 => fun _ _ => none
  | n + 1 => bX3_weigh_2 k k2 (fX3_weigh_2 k k2 n)
theorem kX3_weigh_2 {E : jE} (hC : jHC E) {k : Nat} (hk : k < 2) {k2 : Nat} (hk2 : k2 < 6) (fu : Nat) : ∀ {S : jS} {x2 : Int32} {r : jS}, fX3_weigh_2 k k2 fu S x2 = some r → JR E 4 mX3_weigh 2 [(0, .ref (E.1 (7, k))), (1, .ref (E.1 (2, k2))), (2, .int x2)] [] S [] r := by
  induction fu with
  | zero => intro S x2 r h; cases h
  | succ n_ ih => intro S x2 r h; exact lX3_weigh_2 hC hk hk2 ih h
def fX3_weigh (k : Nat) (k2 : Nat) (S : jS) : Option jS :=
  fX3_weigh_2 k k2 5000 S (0 : Int32)
set_option maxRecDepth 10000 in
set_option maxHeartbeats 4000000 in
theorem kX3_weigh {E : jE} (hC : jHC E) {k : Nat} (hk : k < 2) {k2 : Nat} (hk2 : k2 < 6) {S : jS} {r : jS} (h : fX3_weigh k k2 S = some r) : jMR E 4 mX3_weigh [.ref (E.1 (7, k)), .ref (E.1 (2, k2))] S [] r := by
  refine ⟨Nat.le_of_ble_eq_true rfl, ?_⟩
  show JR E 4 mX3_weigh 0 [(0, .ref (E.1 (7, k))), (1, .ref (E.1 (2, k2)))] [] S [] r
  unfold fX3_weigh at h
  refine j_iconst (pc := 0) dX3_weigh_0 jci_0 ?_
  refine j_istore_n (pc := 1) (lv' := [(2, .int (0 : Int32)), (0, .ref (E.1 (7, k))), (1, .ref (E.1 (2, k2)))]) dX3_weigh_1 rfl (by decide) rfl ?_
  exact j_sub [1, 2, 0] rfl (kX3_weigh_2 hC hk hk2 5000 h)
abbrev mX1_move : jM := (yX1_move, cX1_move, 5, none)
theorem okX1_move : jOK mX1_move 3 := ⟨by decide +kernel, tw_596, tw_76, by decide +kernel, by decide, by decide⟩
def bX1_move_64 (k : Nat) (a : jR) (q64 : jS → Int32 → Option jS) (S : jS) (x4 : Int32) : Option jS :=
  (if (S.1 (3, k)) ≤ x4 then (fX1_bringFeeds k a S).bind fun y8 => some y8 else (fX1_bring k S x4).bind fun y9 => jlet (x4 + (1 : Int32)) fun v10 => q64 y9 v10)
set_option maxRecDepth 10000 in
set_option maxHeartbeats 4000000 in
theorem lX1_move_64 {E : jE} (hC : jHC E) {k : Nat} (hk : k < 6) {a : jR} (ha : jIA E a) {q64 : jS → Int32 → Option jS} (H64 : ∀ {S : jS} {x4 : Int32} {r : jS}, q64 S x4 = some r → JR E 17 mX1_move 64 [(0, .ref (E.1 (8, 0))), (1, .ref (E.1 (2, k))), (3, .ref (E.1 a)), (4, .int x4)] [] S [] r) {S : jS} {x4 : Int32} {r : jS} (h : bX1_move_64 k a q64 S x4 = some r) : JR E 17 mX1_move 64 [(0, .ref (E.1 (8, 0))), (1, .ref (E.1 (2, k))), (3, .ref (E.1 a)), (4, .int x4)] [] S [] r := by
  unfold bX1_move_64 at h
  refine j_iload (pc := 64) 3 dX1_move_64 rfl ?_
  refine j_aload_n (pc := 66) 1 dX1_move_66 rfl rfl ?_
  refine jg_2_0 (pc := 67) dX1_move_67 (hC (2, k) (decide_eq_true hk)) tw_232 ?_
  refine jg_3_2 (pc := 70) dX1_move_70 (hC (3, k) (decide_eq_true hk)) tw_134 ?_
  refine j_icmp_ge (pc := 73) (tgt := 89) dX1_move_73 (by decide) (fun c7 => ?_) (fun c7 => ?_)
  · replace h := jite_t h c7
    refine j_aload_n (pc := 89) 1 dX1_move_89 rfl rfl ?_
    refine j_aload_n (pc := 90) 2 dX1_move_90 rfl rfl ?_
    obtain ⟨y8, hy8, h⟩ := jbnd h
    refine j_callS (pc := 91) (N := mX1_bringFeeds) (As := [.ref (E.1 (2, k)), .ref (E.1 a)]) (rest := []) (v := []) (S1 := y8) dX1_move_91 (kX1_bringFeeds hC hk ha hy8) (by simp) (by decide) okX1_bringFeeds tw_660 tw_659 rfl rfl (by simp [Value.category]) ?_
    cases h
    exact j_vret (pc := 94) dX1_move_94 rfl
  · replace h := jite_f h c7
    refine j_aload_n (pc := 76) 0 dX1_move_76 rfl rfl ?_
    refine j_aload_n (pc := 77) 1 dX1_move_77 rfl rfl ?_
    refine j_iload (pc := 78) 3 dX1_move_78 rfl ?_
    obtain ⟨y9, hy9, h⟩ := jbnd h
    refine j_callV (pc := 80) (N := mX1_bring) (rr := (8, 0)) (As := [.ref (E.1 (2, k)), .int x4]) (rest := []) (v := []) (S1 := y9) dX1_move_80 (kX1_bring hC hk hy9) (by simp) (by decide) okX1_bring tw_649 tw_17 tw_647 (hC (8, 0) rfl) rfl rfl rfl rfl (by simp [Value.category]) ?_
    obtain ⟨v10, ev10, h⟩ := jlk h
    refine j_iinc (pc := 83) (v := v10) (lv' := [(4, .int v10), (0, .ref (E.1 (8, 0))), (1, .ref (E.1 (2, k))), (3, .ref (E.1 a))]) 3 dX1_move_83 rfl (by rw [ev10]; rfl) (by decide) rfl ?_
    refine j_goto (pc := 86) (tgt := 64) dX1_move_86 (by decide) ?_
    exact j_sub [1, 2, 3, 0] rfl (H64 h)
def fX1_move_64 (k : Nat) (a : jR) : Nat → jS → Int32 → Option jS
  | 0 => fun _ _ => none
  | n + 1 => bX1_move_64 k a (fX1_move_64 k a n)
theorem kX1_move_64 {E : jE} (hC : jHC E) {k : Nat} (hk : k < 6) {a : jR} (ha : jIA E a) (fu : Nat) : ∀ {S : jS} {x4 : Int32} {r : jS}, fX1_move_64 k a fu S x4 = some r → JR E 17 mX1_move 64 [(0, .ref (E.1 (8, 0))), (1, .ref (E.1 (2, k))), (3, .ref (E.1 a)), (4, .int x4)] [] S [] r := by
  induction fu with
  | zero => intro S x4 r h; cases h
  | succ n_ ih => intro S x4 r h; exact lX1_move_64 hC hk ha ih h
def bX1_move_36 (k : Nat) (a : jR) (q36 : jS → Int32 → Option jS) (S : jS) (x4 : Int32) : Option jS :=
  (if (S.1 (3, k)) ≤ x4 then fX1_move_64 k a 5000 S (0 : Int32) else (fX1_takeOver k S x4).bind fun y5 => jlet (x4 + (1 : Int32)) fun v6 => q36 y5 v6)
set_option maxRecDepth 10000 in
set_option maxHeartbeats 4000000 in
theorem lX1_move_36 {E : jE} (hC : jHC E) {k : Nat} (hk : k < 6) {a : jR} (ha : jIA E a) {q36 : jS → Int32 → Option jS} (H36 : ∀ {S : jS} {x4 : Int32} {r : jS}, q36 S x4 = some r → JR E 17 mX1_move 36 [(0, .ref (E.1 (8, 0))), (1, .ref (E.1 (2, k))), (3, .ref (E.1 a)), (4, .int x4)] [] S [] r) {S : jS} {x4 : Int32} {r : jS} (h : bX1_move_36 k a q36 S x4 = some r) : JR E 17 mX1_move 36 [(0, .ref (E.1 (8, 0))), (1, .ref (E.1 (2, k))), (3, .ref (E.1 a)), (4, .int x4)] [] S [] r := by
  unfold bX1_move_36 at h
  refine j_iload (pc := 36) 3 dX1_move_36 rfl ?_
  refine j_aload_n (pc := 38) 1 dX1_move_38 rfl rfl ?_
  refine jg_2_0 (pc := 39) dX1_move_39 (hC (2, k) (decide_eq_true hk)) tw_232 ?_
  refine jg_3_2 (pc := 42) dX1_move_42 (hC (3, k) (decide_eq_true hk)) tw_134 ?_
  refine j_icmp_ge (pc := 45) (tgt := 61) dX1_move_45 (by decide) (fun c4 => ?_) (fun c4 => ?_)
  · replace h := jite_t h c4
    refine j_iconst (pc := 61) dX1_move_61 jci_0 ?_
    refine j_istore (pc := 62) (lv' := [(4, .int (0 : Int32)), (0, .ref (E.1 (8, 0))), (1, .ref (E.1 (2, k))), (3, .ref (E.1 a))]) dX1_move_62 (by decide) rfl ?_
    exact j_sub [1, 2, 3, 0] rfl (kX1_move_64 hC hk ha 5000 h)
  · replace h := jite_f h c4
    refine j_aload_n (pc := 48) 0 dX1_move_48 rfl rfl ?_
    refine j_aload_n (pc := 49) 1 dX1_move_49 rfl rfl ?_
    refine j_iload (pc := 50) 3 dX1_move_50 rfl ?_
    obtain ⟨y5, hy5, h⟩ := jbnd h
    refine j_callV (pc := 52) (N := mX1_takeOver) (rr := (8, 0)) (As := [.ref (E.1 (2, k)), .int x4]) (rest := []) (v := []) (S1 := y5) dX1_move_52 (kX1_takeOver hC hk hy5) (by simp) (by decide) okX1_takeOver tw_635 tw_16 tw_633 (hC (8, 0) rfl) rfl rfl rfl rfl (by simp [Value.category]) ?_
    obtain ⟨v6, ev6, h⟩ := jlk h
    refine j_iinc (pc := 55) (v := v6) (lv' := [(4, .int v6), (0, .ref (E.1 (8, 0))), (1, .ref (E.1 (2, k))), (3, .ref (E.1 a))]) 3 dX1_move_55 rfl (by rw [ev6]; rfl) (by decide) rfl ?_
    refine j_goto (pc := 58) (tgt := 36) dX1_move_58 (by decide) ?_
    exact j_sub [1, 2, 3, 0] rfl (H36 h)
def fX1_move_36 (k : Nat) (a : jR) : Nat → jS → Int32 → Option jS
  | 0 => fun _ _ => none
  | n + 1 => bX1_move_36 k a (fX1_move_36 k a n)
theorem kX1_move_36 {E : jE} (hC : jHC E) {k : Nat} (hk : k < 6) {a : jR} (ha : jIA E a) (fu : Nat) : ∀ {S : jS} {x4 : Int32} {r : jS}, fX1_move_36 k a fu S x4 = some r → JR E 17 mX1_move 36 [(0, .ref (E.1 (8, 0))), (1, .ref (E.1 (2, k))), (3, .ref (E.1 a)), (4, .int x4)] [] S [] r := by
  induction fu with
  | zero => intro S x4 r h; cases h
  | succ n_ ih => intro S x4 r h; exact lX1_move_36 hC hk ha ih h
def fX1_move (k : Nat) (a : jR) (S : jS) (x2 : Int32) : Option jS :=
  (fX3_weigh 1 k S).bind fun y1 => (fX3_pick 1 k y1 x2).bind fun y2 => jlet (jset y2 (6, k) ((y2.1 (6, k)) + (1 : Int32))) fun S3 => fX1_move_36 k a 5000 S3 (0 : Int32)
set_option maxRecDepth 10000 in
set_option maxHeartbeats 4000000 in
theorem kX1_move {E : jE} (hC : jHC E) {k : Nat} (hk : k < 6) {a : jR} (ha : jIA E a) {S : jS} {x2 : Int32} {r : jS} (h : fX1_move k a S x2 = some r) : jMR E 17 mX1_move [.ref (E.1 (8, 0)), .ref (E.1 (2, k)), .int x2, .ref (E.1 a)] S [] r := by
  refine ⟨Nat.le_of_ble_eq_true rfl, ?_⟩
  show JR E 17 mX1_move 0 [(0, .ref (E.1 (8, 0))), (1, .ref (E.1 (2, k))), (2, .int x2), (3, .ref (E.1 a))] [] S [] r
  unfold fX1_move at h
  refine j_aload_n (pc := 0) 0 dX1_move_0 rfl rfl ?_
  refine jg_8_1 (pc := 1) dX1_move_1 (hC (8, 0) rfl) tw_298 ?_
  refine j_aload_n (pc := 4) 1 dX1_move_4 rfl rfl ?_
  obtain ⟨y1, hy1, h⟩ := jbnd h
  refine j_callV (pc := 5) (N := mX3_weigh) (rr := (7, 1)) (As := [.ref (E.1 (2, k))]) (rest := []) (v := []) (S1 := y1) dX1_move_5 (kX3_weigh hC (by decide) hk hy1) (by simp) (by decide) okX3_weigh tw_598 tw_599 tw_597 (hC (7, 1) rfl) rfl rfl rfl rfl (by simp [Value.category]) ?_
  refine j_aload_n (pc := 8) 0 dX1_move_8 rfl rfl ?_
  refine jg_8_1 (pc := 9) dX1_move_9 (hC (8, 0) rfl) tw_298 ?_
  refine j_aload_n (pc := 12) 1 dX1_move_12 rfl rfl ?_
  refine jg_2_0 (pc := 13) dX1_move_13 (hC (2, k) (decide_eq_true hk)) tw_232 ?_
  refine j_iload_n (pc := 16) 2 dX1_move_16 rfl rfl ?_
  obtain ⟨y2, hy2, h⟩ := jbnd h
  refine j_callV (pc := 17) (N := mX3_pick) (rr := (7, 1)) (As := [.ref (E.1 (3, k)), .int x2]) (rest := []) (v := []) (S1 := y2) dX1_move_17 (kX3_pick hC (by decide) hk hy2) (by simp) (by decide) okX3_pick tw_615 tw_616 tw_614 (hC (7, 1) rfl) rfl rfl rfl rfl (by simp [Value.category]) ?_
  refine j_aload_n (pc := 20) 1 dX1_move_20 rfl rfl ?_
  refine jg_2_1 (pc := 21) dX1_move_21 (hC (2, k) (decide_eq_true hk)) tw_235 ?_
  refine j_dup (pc := 24) dX1_move_24 rfl ?_
  refine jg_4_0 (pc := 25) dX1_move_25 (hC (4, k) (decide_eq_true hk)) tw_196 ?_
  refine j_iconst (pc := 28) dX1_move_28 jci_1 ?_
  refine j_iadd (pc := 29) dX1_move_29 ?_
  obtain ⟨S3, eS3, h⟩ := jlk h
  refine jp_6 (pc := 30) dX1_move_30 (hC (4, k) (decide_eq_true hk)) tw_196 eS3 ?_
  refine j_iconst (pc := 33) dX1_move_33 jci_0 ?_
  refine j_istore (pc := 34) (lv' := [(4, .int (0 : Int32)), (0, .ref (E.1 (8, 0))), (1, .ref (E.1 (2, k))), (2, .int x2), (3, .ref (E.1 a))]) dX1_move_34 (by decide) rfl ?_
  exact j_sub [1, 2, 4, 0] rfl (kX1_move_36 hC hk ha 5000 h)
abbrev mX1_drawFeeds : jM := (yX1_drawFeeds, cX1_drawFeeds, 10, none)
theorem okX1_drawFeeds : jOK mX1_drawFeeds 3 := ⟨by decide +kernel, tw_743, tw_76, by decide +kernel, by decide, by decide⟩
def bX1_drawFeeds_52 (k : Nat) (q3 : jS → Int32 → Int32 → Int32 → Option jS) (q52 : jS → Int32 → Int32 → Int32 → Int32 → Int32 → Option jS) (S : jS) (x2 : Int32) (x3 : Int32) (x4 : Int32) (x7 : Int32) (x8 : Int32) : Option jS :=
  (if (S.1 (2, k)) ≤ x8 then jlet (x4 + (1 : Int32)) fun v5 => q3 S x2 x3 v5 else (fX7_spot S x4 x8).bind fun y6 => if jIn y6.1 18 then if ¬ ((((2 : Int32) * (y6.2.2 (25, k) y6.1.toNatClampNeg)) + (1 : Int32)) = 0) then if jIn y6.1 18 then jlet (jput y6.2 (42, 0) (upd (y6.2.2 (42, 0)) y6.1.toNatClampNeg ((x7 >>> (((3 : Int32) * x8) &&& 31)) - (x7 >>> (((3 : Int32) * x8) &&& 31)) / (((2 : Int32) * (y6.2.2 (25, k) y6.1.toNatClampNeg)) + (1 : Int32)) * (((2 : Int32) * (y6.2.2 (25, k) y6.1.toNatClampNeg)) + (1 : Int32))))) fun S10 => jlet (x8 + (1 : Int32)) fun v11 => q52 S10 x2 x3 x4 x7 v11 else none else none else none)
set_option maxRecDepth 10000 in
set_option maxHeartbeats 4000000 in
theorem lX1_drawFeeds_52 {E : jE} (hC : jHC E) {k : Nat} (hk : k < 6) {q3 : jS → Int32 → Int32 → Int32 → Option jS} (H3 : ∀ {S : jS} {x2 : Int32} {x3 : Int32} {x4 : Int32} {r : jS}, q3 S x2 x3 x4 = some r → JR E 2 mX1_drawFeeds 3 [(0, .ref (E.1 (8, 0))), (1, .ref (E.1 (3, k))), (2, .int x2), (3, .int x3), (4, .int x4)] [] S [] r) {q52 : jS → Int32 → Int32 → Int32 → Int32 → Int32 → Option jS} (H52 : ∀ {S : jS} {x2 : Int32} {x3 : Int32} {x4 : Int32} {x7 : Int32} {x8 : Int32} {r : jS}, q52 S x2 x3 x4 x7 x8 = some r → JR E 2 mX1_drawFeeds 52 [(0, .ref (E.1 (8, 0))), (1, .ref (E.1 (3, k))), (2, .int x2), (3, .int x3), (4, .int x4), (7, .int x7), (8, .int x8)] [] S [] r) {S : jS} {x2 : Int32} {x3 : Int32} {x4 : Int32} {x7 : Int32} {x8 : Int32} {r : jS} (h : bX1_drawFeeds_52 k q3 q52 S x2 x3 x4 x7 x8 = some r) : JR E 2 mX1_drawFeeds 52 [(0, .ref (E.1 (8, 0))), (1, .ref (E.1 (3, k))), (2, .int x2), (3, .int x3), (4, .int x4), (7, .int x7), (8, .int x8)] [] S [] r := by
  unfold bX1_drawFeeds_52 at h
  refine j_iload (pc := 52) 6 dX1_drawFeeds_52 rfl ?_
  refine j_aload_n (pc := 54) 1 dX1_drawFeeds_54 rfl rfl ?_
  refine jg_3_1 (pc := 55) dX1_drawFeeds_55 (hC (3, k) (decide_eq_true hk)) tw_129 ?_
  refine j_icmp_ge (pc := 58) (tgt := 102) dX1_drawFeeds_58 (by decide) (fun c4 => ?_) (fun c4 => ?_)
  · replace h := jite_t h c4
    obtain ⟨v5, ev5, h⟩ := jlk h
    refine j_iinc (pc := 102) (v := v5) (lv' := [(4, .int v5), (0, .ref (E.1 (8, 0))), (1, .ref (E.1 (3, k))), (2, .int x2), (3, .int x3), (7, .int x7), (8, .int x8)]) 4 dX1_drawFeeds_102 rfl (by rw [ev5]; rfl) (by decide) rfl ?_
    refine j_goto (pc := 105) (tgt := 3) dX1_drawFeeds_105 (by decide) ?_
    exact j_sub [1, 2, 3, 4, 0] rfl (H3 h)
  · replace h := jite_f h c4
    refine j_iload (pc := 61) 4 dX1_drawFeeds_61 rfl ?_
    refine j_iload (pc := 63) 6 dX1_drawFeeds_63 rfl ?_
    obtain ⟨y6, hy6, h⟩ := jbnd h
    refine j_callN (pc := 65) (N := mX7_spot) (host := "DropQueues") (As := [.int x4, .int x8]) (rest := []) (v := [.int y6.1]) (S1 := y6.2) dX1_drawFeeds_65 (kX7_spot hC hy6) (by simp) (by decide) okX7_spot tw_441 (by decide) rfl rfl (by simp [Value.category]) ?_
    refine j_istore (pc := 68) (lv' := [(9, .int y6.1), (0, .ref (E.1 (8, 0))), (1, .ref (E.1 (3, k))), (2, .int x2), (3, .int x3), (4, .int x4), (7, .int x7), (8, .int x8)]) dX1_drawFeeds_68 (by decide) rfl ?_
    refine j_aload_n (pc := 70) 1 dX1_drawFeeds_70 rfl rfl ?_
    refine jg_8_0 (pc := 71) dX1_drawFeeds_71 (hC (8, 0) rfl) tw_296 ?_
    refine j_iload (pc := 74) 0 dX1_drawFeeds_74 rfl ?_
    refine j_iload (pc := 76) 6 dX1_drawFeeds_76 rfl ?_
    refine j_iconst (pc := 78) dX1_drawFeeds_78 jci_3 ?_
    refine j_iload (pc := 79) 7 dX1_drawFeeds_79 rfl ?_
    refine j_imul (pc := 81) dX1_drawFeeds_81 ?_
    refine j_ishr (pc := 82) dX1_drawFeeds_82 ?_
    refine j_iconst (pc := 83) dX1_drawFeeds_83 jci_2 ?_
    refine j_aload_n (pc := 84) 2 dX1_drawFeeds_84 rfl rfl ?_
    refine jg_3_10 (pc := 85) dX1_drawFeeds_85 (hC (3, k) (decide_eq_true hk)) tw_161 ?_
    refine j_iload (pc := 88) 0 dX1_drawFeeds_88 rfl ?_
    obtain ⟨c7, h⟩ := jchk h
    refine j_ia (pc := 90) dX1_drawFeeds_90 rfl (hC (25, k) (decide_eq_true hk)) c7 ?_
    refine j_imul (pc := 91) dX1_drawFeeds_91 ?_
    refine j_iconst (pc := 92) dX1_drawFeeds_92 jci_1 ?_
    refine j_iadd (pc := 93) dX1_drawFeeds_93 ?_
    obtain ⟨c8, h⟩ := jchk h
    refine j_irem (pc := 94) dX1_drawFeeds_94 c8 ?_
    obtain ⟨c9, h⟩ := jchk h
    obtain ⟨S10, eS10, h⟩ := jlk h
    refine j_is (pc := 95) dX1_drawFeeds_95 rfl (hC (42, 0) rfl) c9 eS10 ?_
    obtain ⟨v11, ev11, h⟩ := jlk h
    refine j_iinc (pc := 96) (v := v11) (lv' := [(8, .int v11), (9, .int y6.1), (0, .ref (E.1 (8, 0))), (1, .ref (E.1 (3, k))), (2, .int x2), (3, .int x3), (4, .int x4), (7, .int x7)]) 7 dX1_drawFeeds_96 rfl (by rw [ev11]; rfl) (by decide) rfl ?_
    refine j_goto (pc := 99) (tgt := 52) dX1_drawFeeds_99 (by decide) ?_
    exact j_sub [2, 3, 4, 5, 6, 7, 0] rfl (H52 h)
def fX1_drawFeeds_52 (k : Nat) (q3 : jS → Int32 → Int32 → Int32 → Option jS) : Nat → jS → Int32 → Int32 → Int32 → Int32 → Int32 → Option jS
  | 0 => fun _ _ _ _ _ _ => none
  | n + 1 => bX1_drawFeeds_52 k q3 (fX1_drawFeeds_52 k q3 n)
theorem kX1_drawFeeds_52 {E : jE} (hC : jHC E) {k : Nat} (hk : k < 6) {q3 : jS → Int32 → Int32 → Int32 → Option jS} (H3 : ∀ {S : jS} {x2 : Int32} {x3 : Int32} {x4 : Int32} {r : jS}, q3 S x2 x3 x4 = some r → JR E 2 mX1_drawFeeds 3 [(0, .ref (E.1 (8, 0))), (1, .ref (E.1 (3, k))), (2, .int x2), (3, .int x3), (4, .int x4)] [] S [] r) (fu : Nat) : ∀ {S : jS} {x2 : Int32} {x3 : Int32} {x4 : Int32} {x7 : Int32} {x8 : Int32} {r : jS}, fX1_drawFeeds_52 k q3 fu S x2 x3 x4 x7 x8 = some r → JR E 2 mX1_drawFeeds 52 [(0, .ref (E.1 (8, 0))), (1, .ref (E.1 (3, k))), (2, .int x2), (3, .int x3), (4, .int x4), (7, .int x7), (8, .int x8)] [] S [] r := by
  induction fu with
  | zero => intro S x2 x3 x4 x7 x8 r h; cases h
  | succ n_ ih => intro S x2 x3 x4 x7 x8 r h; exact lX1_drawFeeds_52 hC hk H3 ih h
def bX1_drawFeeds_3 (k : Nat) (q3 : jS → Int32 → Int32 → Int32 → Option jS) (S : jS) (x2 : Int32) (x3 : Int32) (x4 : Int32) : Option jS :=
  (if (S.1 (1, k)) ≤ x4 then some S else jlet (((((7919 : Int64) * (x2.toInt64)) + ((6151 : Int64) * (x3.toInt64))) + ((97 : Int64) * (x4.toInt64))) + (1 : Int64)) fun v2 => jlet (((v2 * v2) - (v2 * v2) / (65521 : Int64) * (65521 : Int64)).toInt32) fun v3 => fX1_drawFeeds_52 k q3 5000 S x2 x3 x4 v3 (0 : Int32))
set_option maxRecDepth 10000 in
set_option maxHeartbeats 4000000 in
theorem lX1_drawFeeds_3 {E : jE} (hC : jHC E) {k : Nat} (hk : k < 6) {q3 : jS → Int32 → Int32 → Int32 → Option jS} (H3 : ∀ {S : jS} {x2 : Int32} {x3 : Int32} {x4 : Int32} {r : jS}, q3 S x2 x3 x4 = some r → JR E 2 mX1_drawFeeds 3 [(0, .ref (E.1 (8, 0))), (1, .ref (E.1 (3, k))), (2, .int x2), (3, .int x3), (4, .int x4)] [] S [] r) {S : jS} {x2 : Int32} {x3 : Int32} {x4 : Int32} {r : jS} (h : bX1_drawFeeds_3 k q3 S x2 x3 x4 = some r) : JR E 2 mX1_drawFeeds 3 [(0, .ref (E.1 (8, 0))), (1, .ref (E.1 (3, k))), (2, .int x2), (3, .int x3), (4, .int x4)] [] S [] r := by
  unfold bX1_drawFeeds_3 at h
  refine j_iload (pc := 3) 4 dX1_drawFeeds_3 rfl ?_
  refine j_aload_n (pc := 5) 1 dX1_drawFeeds_5 rfl rfl ?_
  refine jg_3_0 (pc := 6) dX1_drawFeeds_6 (hC (3, k) (decide_eq_true hk)) tw_126 ?_
  refine j_icmp_ge (pc := 9) (tgt := 108) dX1_drawFeeds_9 (by decide) (fun c1 => ?_) (fun c1 => ?_)
  · replace h := jite_t h c1
    cases h
    exact j_vret (pc := 108) dX1_drawFeeds_108 rfl
  · replace h := jite_f h c1
    refine j_ldc2 (pc := 12) (v := (7919 : Int64)) dX1_drawFeeds_12 tw_744 ?_
    refine j_iload_n (pc := 15) 2 dX1_drawFeeds_15 rfl rfl ?_
    refine j_i2l (pc := 16) dX1_drawFeeds_16 ?_
    refine j_lmul (pc := 17) dX1_drawFeeds_17 ?_
    refine j_ldc2 (pc := 18) (v := (6151 : Int64)) dX1_drawFeeds_18 tw_745 ?_
    refine j_iload_n (pc := 21) 3 dX1_drawFeeds_21 rfl rfl ?_
    refine j_i2l (pc := 22) dX1_drawFeeds_22 ?_
    refine j_lmul (pc := 23) dX1_drawFeeds_23 ?_
    refine j_ladd (pc := 24) dX1_drawFeeds_24 ?_
    refine j_ldc2 (pc := 25) (v := (97 : Int64)) dX1_drawFeeds_25 tw_746 ?_
    refine j_iload (pc := 28) 4 dX1_drawFeeds_28 rfl ?_
    refine j_i2l (pc := 30) dX1_drawFeeds_30 ?_
    refine j_lmul (pc := 31) dX1_drawFeeds_31 ?_
    refine j_ladd (pc := 32) dX1_drawFeeds_32 ?_
    refine j_lconst (pc := 33) (v := (1 : Int64)) dX1_drawFeeds_33 rfl ?_
    refine j_ladd (pc := 34) dX1_drawFeeds_34 ?_
    obtain ⟨v2, ev2, h⟩ := jlk h
    refine j_topl ev2 ?_
    refine j_lstore (pc := 35) (lv' := [(5, .long v2), (0, .ref (E.1 (8, 0))), (1, .ref (E.1 (3, k))), (2, .int x2), (3, .int x3), (4, .int x4)]) dX1_drawFeeds_35 (by decide) rfl ?_
    refine j_lload (pc := 37) 0 dX1_drawFeeds_37 rfl ?_
    refine j_lload (pc := 39) 0 dX1_drawFeeds_39 rfl ?_
    refine j_lmul (pc := 41) dX1_drawFeeds_41 ?_
    refine j_ldc2 (pc := 42) (v := (65521 : Int64)) dX1_drawFeeds_42 tw_747 ?_
    refine j_lrem (pc := 45) dX1_drawFeeds_45 (by decide) ?_
    refine j_l2i (pc := 46) dX1_drawFeeds_46 ?_
    obtain ⟨v3, ev3, h⟩ := jlk h
    refine j_topi ev3 ?_
    refine j_istore (pc := 47) (lv' := [(7, .int v3), (5, .long v2), (0, .ref (E.1 (8, 0))), (1, .ref (E.1 (3, k))), (2, .int x2), (3, .int x3), (4, .int x4)]) dX1_drawFeeds_47 (by decide) rfl ?_
    refine j_iconst (pc := 49) dX1_drawFeeds_49 jci_0 ?_
    refine j_istore (pc := 50) (lv' := [(8, .int (0 : Int32)), (7, .int v3), (5, .long v2), (0, .ref (E.1 (8, 0))), (1, .ref (E.1 (3, k))), (2, .int x2), (3, .int x3), (4, .int x4)]) dX1_drawFeeds_50 (by decide) rfl ?_
    exact j_sub [3, 4, 5, 6, 7, 1, 0] rfl (kX1_drawFeeds_52 hC hk H3 5000 h)
def fX1_drawFeeds_3 (k : Nat) : Nat → jS → Int32 → Int32 → Int32 → Option jS
  | 0 => fun _ _ _ _ => none
  | n + 1 => bX1_drawFeeds_3 k (fX1_drawFeeds_3 k n)
theorem kX1_drawFeeds_3 {E : jE} (hC : jHC E) {k : Nat} (hk : k < 6) (fu : Nat) : ∀ {S : jS} {x2 : Int32} {x3 : Int32} {x4 : Int32} {r : jS}, fX1_drawFeeds_3 k fu S x2 x3 x4 = some r → JR E 2 mX1_drawFeeds 3 [(0, .ref (E.1 (8, 0))), (1, .ref (E.1 (3, k))), (2, .int x2), (3, .int x3), (4, .int x4)] [] S [] r := by
  induction fu with
  | zero => intro S x2 x3 x4 r h; cases h
  | succ n_ ih => intro S x2 x3 x4 r h; exact lX1_drawFeeds_3 hC hk ih h
def fX1_drawFeeds (k : Nat) (S : jS) (x2 : Int32) (x3 : Int32) : Option jS :=
  fX1_drawFeeds_3 k 5000 S x2 x3 (0 : Int32)
set_option maxRecDepth 10000 in
set_option maxHeartbeats 4000000 in
theorem kX1_drawFeeds {E : jE} (hC : jHC E) {k : Nat} (hk : k < 6) {S : jS} {x2 : Int32} {x3 : Int32} {r : jS} (h : fX1_drawFeeds k S x2 x3 = some r) : jMR E 2 mX1_drawFeeds [.ref (E.1 (8, 0)), .ref (E.1 (3, k)), .int x2, .int x3] S [] r := by
  refine ⟨Nat.le_of_ble_eq_true rfl, ?_⟩
  show JR E 2 mX1_drawFeeds 0 [(0, .ref (E.1 (8, 0))), (1, .ref (E.1 (3, k))), (2, .int x2), (3, .int x3)] [] S [] r
  unfold fX1_drawFeeds at h
  refine j_iconst (pc := 0) dX1_drawFeeds_0 jci_0 ?_
  refine j_istore (pc := 1) (lv' := [(4, .int (0 : Int32)), (0, .ref (E.1 (8, 0))), (1, .ref (E.1 (3, k))), (2, .int x2), (3, .int x3)]) dX1_drawFeeds_1 (by decide) rfl ?_
  exact j_sub [1, 2, 3, 4, 0] rfl (kX1_drawFeeds_3 hC hk 5000 h)
abbrev mX4_clear : jM := (yX4_clear, cX4_clear, 1, none)
theorem okX4_clear : jOK mX4_clear 0 := ⟨by decide +kernel, tw_472, tw_73, by decide +kernel, by decide, by decide⟩
def fX4_clear (k : Nat) (S : jS) : Option jS :=
  jlet (jset S (6, k) (0 : Int32)) fun S1 => jlet (jset S1 (7, k) (0 : Int32)) fun S2 => (fJ7_fill_53178 (30, k) S2 (0 : Int32)).bind fun y3 => (fJ7_fill_53178 (31, k) y3 (0 : Int32)).bind fun y4 => (fJ7_fill_53178 (32, k) y4 (0 : Int32)).bind fun y5 => (fJ7_fill_53178 (33, k) y5 (0 : Int32)).bind fun y6 => (fJ7_fill_53178 (35, k) y6 (0 : Int32)).bind fun y7 => some y7
set_option maxRecDepth 10000 in
set_option maxHeartbeats 4000000 in
theorem kX4_clear {E : jE} (hC : jHC E) {k : Nat} (hk : k < 6) {S : jS} {r : jS} (h : fX4_clear k S = some r) : jMR E 2 mX4_clear [.ref (E.1 (4, k))] S [] r := by
  refine ⟨Nat.le_of_ble_eq_true rfl, ?_⟩
  show JR E 2 mX4_clear 0 [(0, .ref (E.1 (4, k)))] [] S [] r
  unfold fX4_clear at h
  refine j_aload_n (pc := 0) 0 dX4_clear_0 rfl rfl ?_
  refine j_iconst (pc := 1) dX4_clear_1 jci_0 ?_
  obtain ⟨S1, eS1, h⟩ := jlk h
  refine jp_6 (pc := 2) dX4_clear_2 (hC (4, k) (decide_eq_true hk)) tw_195 eS1 ?_
  refine j_aload_n (pc := 5) 0 dX4_clear_5 rfl rfl ?_
  refine j_iconst (pc := 6) dX4_clear_6 jci_0 ?_
  obtain ⟨S2, eS2, h⟩ := jlk h
  refine jp_7 (pc := 7) dX4_clear_7 (hC (4, k) (decide_eq_true hk)) tw_198 eS2 ?_
  refine j_aload_n (pc := 10) 0 dX4_clear_10 rfl rfl ?_
  refine jg_4_2 (pc := 11) dX4_clear_11 (hC (4, k) (decide_eq_true hk)) tw_200 ?_
  refine j_iconst (pc := 14) dX4_clear_14 jci_0 ?_
  obtain ⟨y3, hy3, h⟩ := jbnd h
  refine j_callS (pc := 15) (N := mJ7_fill_53178) (As := [.ref (E.1 (30, k)), .int (0 : Int32)]) (rest := []) (v := []) (S1 := y3) dX4_clear_15 (kJ7_fill_53178 ⟨rfl, (hC (30, k) (decide_eq_true hk))⟩ hy3) (by simp) (by decide) okJ7_fill_53178 tw_376 tw_473 rfl rfl (by simp [Value.category]) ?_
  refine j_aload_n (pc := 18) 0 dX4_clear_18 rfl rfl ?_
  refine jg_4_3 (pc := 19) dX4_clear_19 (hC (4, k) (decide_eq_true hk)) tw_202 ?_
  refine j_iconst (pc := 22) dX4_clear_22 jci_0 ?_
  obtain ⟨y4, hy4, h⟩ := jbnd h
  refine j_callS (pc := 23) (N := mJ7_fill_53178) (As := [.ref (E.1 (31, k)), .int (0 : Int32)]) (rest := []) (v := []) (S1 := y4) dX4_clear_23 (kJ7_fill_53178 ⟨rfl, (hC (31, k) (decide_eq_true hk))⟩ hy4) (by simp) (by decide) okJ7_fill_53178 tw_376 tw_473 rfl rfl (by simp [Value.category]) ?_
  refine j_aload_n (pc := 26) 0 dX4_clear_26 rfl rfl ?_
  refine jg_4_4 (pc := 27) dX4_clear_27 (hC (4, k) (decide_eq_true hk)) tw_204 ?_
  refine j_iconst (pc := 30) dX4_clear_30 jci_0 ?_
  obtain ⟨y5, hy5, h⟩ := jbnd h
  refine j_callS (pc := 31) (N := mJ7_fill_53178) (As := [.ref (E.1 (32, k)), .int (0 : Int32)]) (rest := []) (v := []) (S1 := y5) dX4_clear_31 (kJ7_fill_53178 ⟨rfl, (hC (32, k) (decide_eq_true hk))⟩ hy5) (by simp) (by decide) okJ7_fill_53178 tw_376 tw_473 rfl rfl (by simp [Value.category]) ?_
  refine j_aload_n (pc := 34) 0 dX4_clear_34 rfl rfl ?_
  refine jg_4_5 (pc := 35) dX4_clear_35 (hC (4, k) (decide_eq_true hk)) tw_206 ?_
  refine j_iconst (pc := 38) dX4_clear_38 jci_0 ?_
  obtain ⟨y6, hy6, h⟩ := jbnd h
  refine j_callS (pc := 39) (N := mJ7_fill_53178) (As := [.ref (E.1 (33, k)), .int (0 : Int32)]) (rest := []) (v := []) (S1 := y6) dX4_clear_39 (kJ7_fill_53178 ⟨rfl, (hC (33, k) (decide_eq_true hk))⟩ hy6) (by simp) (by decide) okJ7_fill_53178 tw_376 tw_473 rfl rfl (by simp [Value.category]) ?_
  refine j_aload_n (pc := 42) 0 dX4_clear_42 rfl rfl ?_
  refine jg_4_7 (pc := 43) dX4_clear_43 (hC (4, k) (decide_eq_true hk)) tw_212 ?_
  refine j_iconst (pc := 46) dX4_clear_46 jci_0 ?_
  obtain ⟨y7, hy7, h⟩ := jbnd h
  refine j_callS (pc := 47) (N := mJ7_fill_53178) (As := [.ref (E.1 (35, k)), .int (0 : Int32)]) (rest := []) (v := []) (S1 := y7) dX4_clear_47 (kJ7_fill_53178 ⟨rfl, (hC (35, k) (decide_eq_true hk))⟩ hy7) (by simp) (by decide) okJ7_fill_53178 tw_376 tw_473 rfl rfl (by simp [Value.category]) ?_
  cases h
  exact j_vret (pc := 50) dX4_clear_50 rfl
abbrev mX4_thereInAll : jM := (yX4_thereInAll, cX4_thereInAll, 3, (some .int))
theorem okX4_thereInAll : jOK mX4_thereInAll 0 := ⟨by decide +kernel, tw_592, tw_73, by decide +kernel, by decide, by decide⟩
def bX4_thereInAll_4 (k : Nat) (q4 : jS → Int32 → Int32 → Option (Int32 × jS)) (S : jS) (x1 : Int32) (x2 : Int32) : Option (Int32 × jS) :=
  (if (3 : Int32) ≤ x2 then some (x1, S) else if jIn x2 3 then jlet (x1 + (S.2 (30, k) x2.toNatClampNeg)) fun v3 => jlet (x2 + (1 : Int32)) fun v4 => q4 S v3 v4 else none)
set_option maxRecDepth 10000 in
set_option maxHeartbeats 4000000 in
theorem lX4_thereInAll_4 {E : jE} (hC : jHC E) {k : Nat} (hk : k < 6) {q4 : jS → Int32 → Int32 → Option (Int32 × jS)} (H4 : ∀ {S : jS} {x1 : Int32} {x2 : Int32} {r : (Int32 × jS)}, q4 S x1 x2 = some r → JR E 1 mX4_thereInAll 4 [(0, .ref (E.1 (4, k))), (1, .int x1), (2, .int x2)] [] S [.int r.1] r.2) {S : jS} {x1 : Int32} {x2 : Int32} {r : (Int32 × jS)} (h : bX4_thereInAll_4 k q4 S x1 x2 = some r) : JR E 1 mX4_thereInAll 4 [(0, .ref (E.1 (4, k))), (1, .int x1), (2, .int x2)] [] S [.int r.1] r.2 := by
  unfold bX4_thereInAll_4 at h
  refine j_iload_n (pc := 4) 2 dX4_thereInAll_4 rfl rfl ?_
  refine j_iconst (pc := 5) dX4_thereInAll_5 jci_3 ?_
  refine j_icmp_ge (pc := 6) (tgt := 24) dX4_thereInAll_6 (by decide) (fun c1 => ?_) (fun c1 => ?_)
  · replace h := jite_t h c1
    refine j_iload_n (pc := 24) 1 dX4_thereInAll_24 rfl rfl ?_
    cases h
    exact j_iret (pc := 25) dX4_thereInAll_25 rfl rfl
  · replace h := jite_f h c1
    refine j_iload_n (pc := 9) 1 dX4_thereInAll_9 rfl rfl ?_
    refine j_aload_n (pc := 10) 0 dX4_thereInAll_10 rfl rfl ?_
    refine jg_4_2 (pc := 11) dX4_thereInAll_11 (hC (4, k) (decide_eq_true hk)) tw_200 ?_
    refine j_iload_n (pc := 14) 2 dX4_thereInAll_14 rfl rfl ?_
    obtain ⟨c2, h⟩ := jchk h
    refine j_ia (pc := 15) dX4_thereInAll_15 rfl (hC (30, k) (decide_eq_true hk)) c2 ?_
    refine j_iadd (pc := 16) dX4_thereInAll_16 ?_
    obtain ⟨v3, ev3, h⟩ := jlk h
    refine j_topi ev3 ?_
    refine j_istore_n (pc := 17) (lv' := [(1, .int v3), (0, .ref (E.1 (4, k))), (2, .int x2)]) dX4_thereInAll_17 rfl (by decide) rfl ?_
    obtain ⟨v4, ev4, h⟩ := jlk h
    refine j_iinc (pc := 18) (v := v4) (lv' := [(2, .int v4), (1, .int v3), (0, .ref (E.1 (4, k)))]) 2 dX4_thereInAll_18 rfl (by rw [ev4]; rfl) (by decide) rfl ?_
    refine j_goto (pc := 21) (tgt := 4) dX4_thereInAll_21 (by decide) ?_
    exact j_sub [2, 1, 0] rfl (H4 h)
def fX4_thereInAll_4 (k : Nat) : Nat → jS → Int32 → Int32 → Option (Int32 × jS)
  | 0 => fun _ _ _ => none
  | n + 1 => bX4_thereInAll_4 k (fX4_thereInAll_4 k n)
theorem kX4_thereInAll_4 {E : jE} (hC : jHC E) {k : Nat} (hk : k < 6) (fu : Nat) : ∀ {S : jS} {x1 : Int32} {x2 : Int32} {r : (Int32 × jS)}, fX4_thereInAll_4 k fu S x1 x2 = some r → JR E 1 mX4_thereInAll 4 [(0, .ref (E.1 (4, k))), (1, .int x1), (2, .int x2)] [] S [.int r.1] r.2 := by
  induction fu with
  | zero => intro S x1 x2 r h; cases h
  | succ n_ ih => intro S x1 x2 r h; exact lX4_thereInAll_4 hC hk ih h
def fX4_thereInAll (k : Nat) (S : jS) : Option (Int32 × jS) :=
  fX4_thereInAll_4 k 5000 S (0 : Int32) (0 : Int32)
set_option maxRecDepth 10000 in
set_option maxHeartbeats 4000000 in
theorem kX4_thereInAll {E : jE} (hC : jHC E) {k : Nat} (hk : k < 6) {S : jS} {r : (Int32 × jS)} (h : fX4_thereInAll k S = some r) : jMR E 1 mX4_thereInAll [.ref (E.1 (4, k))] S [.int r.1] r.2 := by
  refine ⟨Nat.le_of_ble_eq_true rfl, ?_⟩
  show JR E 1 mX4_thereInAll 0 [(0, .ref (E.1 (4, k)))] [] S [.int r.1] r.2
  unfold fX4_thereInAll at h
  refine j_iconst (pc := 0) dX4_thereInAll_0 jci_0 ?_
  refine j_istore_n (pc := 1) (lv' := [(1, .int (0 : Int32)), (0, .ref (E.1 (4, k)))]) dX4_thereInAll_1 rfl (by decide) rfl ?_
  refine j_iconst (pc := 2) dX4_thereInAll_2 jci_0 ?_
  refine j_istore_n (pc := 3) (lv' := [(2, .int (0 : Int32)), (1, .int (0 : Int32)), (0, .ref (E.1 (4, k)))]) dX4_thereInAll_3 rfl (by decide) rfl ?_
  exact j_sub [2, 1, 0] rfl (kX4_thereInAll_4 hC hk 5000 h)
abbrev mX4_packetsFor : jM := (yX4_packetsFor, cX4_packetsFor, 4, (some .int))
theorem okX4_packetsFor : jOK mX4_packetsFor 1 := ⟨by decide +kernel, tw_704, tw_73, by decide +kernel, by decide, by decide⟩
def bX4_packetsFor_4 (k : Nat) (q4 : jS → Int32 → Int32 → Int32 → Option (Int32 × jS)) (S : jS) (x1 : Int32) (x2 : Int32) (x3 : Int32) : Option (Int32 × jS) :=
  (if (6 : Int32) ≤ x3 then some (x2, S) else (fX7_spot S x3 x1).bind fun y2 => if jIn y2.1 18 then jlet (x2 + (y2.2.2 (33, k) y2.1.toNatClampNeg)) fun v4 => jlet (x3 + (1 : Int32)) fun v5 => q4 (y2.2) x1 v4 v5 else none)
set_option maxRecDepth 10000 in
set_option maxHeartbeats 4000000 in
theorem lX4_packetsFor_4 {E : jE} (hC : jHC E) {k : Nat} (hk : k < 6) {q4 : jS → Int32 → Int32 → Int32 → Option (Int32 × jS)} (H4 : ∀ {S : jS} {x1 : Int32} {x2 : Int32} {x3 : Int32} {r : (Int32 × jS)}, q4 S x1 x2 x3 = some r → JR E 2 mX4_packetsFor 4 [(0, .ref (E.1 (4, k))), (1, .int x1), (2, .int x2), (3, .int x3)] [] S [.int r.1] r.2) {S : jS} {x1 : Int32} {x2 : Int32} {x3 : Int32} {r : (Int32 × jS)} (h : bX4_packetsFor_4 k q4 S x1 x2 x3 = some r) : JR E 2 mX4_packetsFor 4 [(0, .ref (E.1 (4, k))), (1, .int x1), (2, .int x2), (3, .int x3)] [] S [.int r.1] r.2 := by
  unfold bX4_packetsFor_4 at h
  refine j_iload_n (pc := 4) 3 dX4_packetsFor_4 rfl rfl ?_
  refine j_bipush (pc := 5) dX4_packetsFor_5 jcb_6 ?_
  refine j_icmp_ge (pc := 7) (tgt := 29) dX4_packetsFor_7 (by decide) (fun c1 => ?_) (fun c1 => ?_)
  · replace h := jite_t h c1
    refine j_iload_n (pc := 29) 2 dX4_packetsFor_29 rfl rfl ?_
    cases h
    exact j_iret (pc := 30) dX4_packetsFor_30 rfl rfl
  · replace h := jite_f h c1
    refine j_iload_n (pc := 10) 2 dX4_packetsFor_10 rfl rfl ?_
    refine j_aload_n (pc := 11) 0 dX4_packetsFor_11 rfl rfl ?_
    refine jg_4_5 (pc := 12) dX4_packetsFor_12 (hC (4, k) (decide_eq_true hk)) tw_206 ?_
    refine j_iload_n (pc := 15) 3 dX4_packetsFor_15 rfl rfl ?_
    refine j_iload_n (pc := 16) 1 dX4_packetsFor_16 rfl rfl ?_
    obtain ⟨y2, hy2, h⟩ := jbnd h
    refine j_callN (pc := 17) (N := mX7_spot) (host := "DropQueues") (As := [.int x3, .int x1]) (rest := [.ref (E.1 (33, k)), .int x2]) (v := [.int y2.1]) (S1 := y2.2) dX4_packetsFor_17 (kX7_spot hC hy2) (by simp) (by decide) okX7_spot tw_441 (by decide) rfl rfl (by simp [Value.category]) ?_
    obtain ⟨c3, h⟩ := jchk h
    refine j_ia (pc := 20) dX4_packetsFor_20 rfl (hC (33, k) (decide_eq_true hk)) c3 ?_
    refine j_iadd (pc := 21) dX4_packetsFor_21 ?_
    obtain ⟨v4, ev4, h⟩ := jlk h
    refine j_topi ev4 ?_
    refine j_istore_n (pc := 22) (lv' := [(2, .int v4), (0, .ref (E.1 (4, k))), (1, .int x1), (3, .int x3)]) dX4_packetsFor_22 rfl (by decide) rfl ?_
    obtain ⟨v5, ev5, h⟩ := jlk h
    refine j_iinc (pc := 23) (v := v5) (lv' := [(3, .int v5), (2, .int v4), (0, .ref (E.1 (4, k))), (1, .int x1)]) 3 dX4_packetsFor_23 rfl (by rw [ev5]; rfl) (by decide) rfl ?_
    refine j_goto (pc := 26) (tgt := 4) dX4_packetsFor_26 (by decide) ?_
    exact j_sub [2, 3, 1, 0] rfl (H4 h)
def fX4_packetsFor_4 (k : Nat) : Nat → jS → Int32 → Int32 → Int32 → Option (Int32 × jS)
  | 0 => fun _ _ _ _ => none
  | n + 1 => bX4_packetsFor_4 k (fX4_packetsFor_4 k n)
theorem kX4_packetsFor_4 {E : jE} (hC : jHC E) {k : Nat} (hk : k < 6) (fu : Nat) : ∀ {S : jS} {x1 : Int32} {x2 : Int32} {x3 : Int32} {r : (Int32 × jS)}, fX4_packetsFor_4 k fu S x1 x2 x3 = some r → JR E 2 mX4_packetsFor 4 [(0, .ref (E.1 (4, k))), (1, .int x1), (2, .int x2), (3, .int x3)] [] S [.int r.1] r.2 := by
  induction fu with
  | zero => intro S x1 x2 x3 r h; cases h
  | succ n_ ih => intro S x1 x2 x3 r h; exact lX4_packetsFor_4 hC hk ih h
def fX4_packetsFor (k : Nat) (S : jS) (x1 : Int32) : Option (Int32 × jS) :=
  fX4_packetsFor_4 k 5000 S x1 (0 : Int32) (0 : Int32)
set_option maxRecDepth 10000 in
set_option maxHeartbeats 4000000 in
theorem kX4_packetsFor {E : jE} (hC : jHC E) {k : Nat} (hk : k < 6) {S : jS} {x1 : Int32} {r : (Int32 × jS)} (h : fX4_packetsFor k S x1 = some r) : jMR E 2 mX4_packetsFor [.ref (E.1 (4, k)), .int x1] S [.int r.1] r.2 := by
  refine ⟨Nat.le_of_ble_eq_true rfl, ?_⟩
  show JR E 2 mX4_packetsFor 0 [(0, .ref (E.1 (4, k))), (1, .int x1)] [] S [.int r.1] r.2
  unfold fX4_packetsFor at h
  refine j_iconst (pc := 0) dX4_packetsFor_0 jci_0 ?_
  refine j_istore_n (pc := 1) (lv' := [(2, .int (0 : Int32)), (0, .ref (E.1 (4, k))), (1, .int x1)]) dX4_packetsFor_1 rfl (by decide) rfl ?_
  refine j_iconst (pc := 2) dX4_packetsFor_2 jci_0 ?_
  refine j_istore_n (pc := 3) (lv' := [(3, .int (0 : Int32)), (2, .int (0 : Int32)), (0, .ref (E.1 (4, k))), (1, .int x1)]) dX4_packetsFor_3 rfl (by decide) rfl ?_
  exact j_sub [2, 3, 1, 0] rfl (kX4_packetsFor_4 hC hk 5000 h)
abbrev mX4_packets : jM := (yX4_packets, cX4_packets, 3, (some .int))
theorem okX4_packets : jOK mX4_packets 0 := ⟨by decide +kernel, tw_723, tw_73, by decide +kernel, by decide, by decide⟩
def bX4_packets_4 (k : Nat) (q4 : jS → Int32 → Int32 → Option (Int32 × jS)) (S : jS) (x1 : Int32) (x2 : Int32) : Option (Int32 × jS) :=
  (if (18 : Int32) ≤ x2 then some (x1, S) else if jIn x2 18 then jlet (x1 + (S.2 (33, k) x2.toNatClampNeg)) fun v3 => jlet (x2 + (1 : Int32)) fun v4 => q4 S v3 v4 else none)
set_option maxRecDepth 10000 in
set_option maxHeartbeats 4000000 in
theorem lX4_packets_4 {E : jE} (hC : jHC E) {k : Nat} (hk : k < 6) {q4 : jS → Int32 → Int32 → Option (Int32 × jS)} (H4 : ∀ {S : jS} {x1 : Int32} {x2 : Int32} {r : (Int32 × jS)}, q4 S x1 x2 = some r → JR E 1 mX4_packets 4 [(0, .ref (E.1 (4, k))), (1, .int x1), (2, .int x2)] [] S [.int r.1] r.2) {S : jS} {x1 : Int32} {x2 : Int32} {r : (Int32 × jS)} (h : bX4_packets_4 k q4 S x1 x2 = some r) : JR E 1 mX4_packets 4 [(0, .ref (E.1 (4, k))), (1, .int x1), (2, .int x2)] [] S [.int r.1] r.2 := by
  unfold bX4_packets_4 at h
  refine j_iload_n (pc := 4) 2 dX4_packets_4 rfl rfl ?_
  refine j_bipush (pc := 5) dX4_packets_5 jcb_18 ?_
  refine j_icmp_ge (pc := 7) (tgt := 25) dX4_packets_7 (by decide) (fun c1 => ?_) (fun c1 => ?_)
  · replace h := jite_t h c1
    refine j_iload_n (pc := 25) 1 dX4_packets_25 rfl rfl ?_
    cases h
    exact j_iret (pc := 26) dX4_packets_26 rfl rfl
  · replace h := jite_f h c1
    refine j_iload_n (pc := 10) 1 dX4_packets_10 rfl rfl ?_
    refine j_aload_n (pc := 11) 0 dX4_packets_11 rfl rfl ?_
    refine jg_4_5 (pc := 12) dX4_packets_12 (hC (4, k) (decide_eq_true hk)) tw_206 ?_
    refine j_iload_n (pc := 15) 2 dX4_packets_15 rfl rfl ?_
    obtain ⟨c2, h⟩ := jchk h
    refine j_ia (pc := 16) dX4_packets_16 rfl (hC (33, k) (decide_eq_true hk)) c2 ?_
    refine j_iadd (pc := 17) dX4_packets_17 ?_
    obtain ⟨v3, ev3, h⟩ := jlk h
    refine j_topi ev3 ?_
    refine j_istore_n (pc := 18) (lv' := [(1, .int v3), (0, .ref (E.1 (4, k))), (2, .int x2)]) dX4_packets_18 rfl (by decide) rfl ?_
    obtain ⟨v4, ev4, h⟩ := jlk h
    refine j_iinc (pc := 19) (v := v4) (lv' := [(2, .int v4), (1, .int v3), (0, .ref (E.1 (4, k)))]) 2 dX4_packets_19 rfl (by rw [ev4]; rfl) (by decide) rfl ?_
    refine j_goto (pc := 22) (tgt := 4) dX4_packets_22 (by decide) ?_
    exact j_sub [2, 1, 0] rfl (H4 h)
def fX4_packets_4 (k : Nat) : Nat → jS → Int32 → Int32 → Option (Int32 × jS)
  | 0 => fun _ _ _ => none
  | n + 1 => bX4_packets_4 k (fX4_packets_4 k n)
theorem kX4_packets_4 {E : jE} (hC : jHC E) {k : Nat} (hk : k < 6) (fu : Nat) : ∀ {S : jS} {x1 : Int32} {x2 : Int32} {r : (Int32 × jS)}, fX4_packets_4 k fu S x1 x2 = some r → JR E 1 mX4_packets 4 [(0, .ref (E.1 (4, k))), (1, .int x1), (2, .int x2)] [] S [.int r.1] r.2 := by
  induction fu with
  | zero => intro S x1 x2 r h; cases h
  | succ n_ ih => intro S x1 x2 r h; exact lX4_packets_4 hC hk ih h
def fX4_packets (k : Nat) (S : jS) : Option (Int32 × jS) :=
  fX4_packets_4 k 5000 S (0 : Int32) (0 : Int32)
set_option maxRecDepth 10000 in
set_option maxHeartbeats 4000000 in
theorem kX4_packets {E : jE} (hC : jHC E) {k : Nat} (hk : k < 6) {S : jS} {r : (Int32 × jS)} (h : fX4_packets k S = some r) : jMR E 1 mX4_packets [.ref (E.1 (4, k))] S [.int r.1] r.2 := by
  refine ⟨Nat.le_of_ble_eq_true rfl, ?_⟩
  show JR E 1 mX4_packets 0 [(0, .ref (E.1 (4, k)))] [] S [.int r.1] r.2
  unfold fX4_packets at h
  refine j_iconst (pc := 0) dX4_packets_0 jci_0 ?_
  refine j_istore_n (pc := 1) (lv' := [(1, .int (0 : Int32)), (0, .ref (E.1 (4, k)))]) dX4_packets_1 rfl (by decide) rfl ?_
  refine j_iconst (pc := 2) dX4_packets_2 jci_0 ?_
  refine j_istore_n (pc := 3) (lv' := [(2, .int (0 : Int32)), (1, .int (0 : Int32)), (0, .ref (E.1 (4, k)))]) dX4_packets_3 rfl (by decide) rfl ?_
  exact j_sub [2, 1, 0] rfl (kX4_packets_4 hC hk 5000 h)
abbrev mX4_squares : jM := (yX4_squares, cX4_squares, 3, (some .int))
theorem okX4_squares : jOK mX4_squares 0 := ⟨by decide +kernel, tw_714, tw_73, by decide +kernel, by decide, by decide⟩
def bX4_squares_4 (k : Nat) (q4 : jS → Int32 → Int32 → Option (Int32 × jS)) (S : jS) (x1 : Int32) (x2 : Int32) : Option (Int32 × jS) :=
  (if (18 : Int32) ≤ x2 then some (x1, S) else if jIn x2 18 then if jIn x2 18 then jlet (x1 + ((S.2 (33, k) x2.toNatClampNeg) * (S.2 (33, k) x2.toNatClampNeg))) fun v4 => jlet (x2 + (1 : Int32)) fun v5 => q4 S v4 v5 else none else none)
set_option maxRecDepth 10000 in
set_option maxHeartbeats 4000000 in
theorem lX4_squares_4 {E : jE} (hC : jHC E) {k : Nat} (hk : k < 6) {q4 : jS → Int32 → Int32 → Option (Int32 × jS)} (H4 : ∀ {S : jS} {x1 : Int32} {x2 : Int32} {r : (Int32 × jS)}, q4 S x1 x2 = some r → JR E 1 mX4_squares 4 [(0, .ref (E.1 (4, k))), (1, .int x1), (2, .int x2)] [] S [.int r.1] r.2) {S : jS} {x1 : Int32} {x2 : Int32} {r : (Int32 × jS)} (h : bX4_squares_4 k q4 S x1 x2 = some r) : JR E 1 mX4_squares 4 [(0, .ref (E.1 (4, k))), (1, .int x1), (2, .int x2)] [] S [.int r.1] r.2 := by
  unfold bX4_squares_4 at h
  refine j_iload_n (pc := 4) 2 dX4_squares_4 rfl rfl ?_
  refine j_bipush (pc := 5) dX4_squares_5 jcb_18 ?_
  refine j_icmp_ge (pc := 7) (tgt := 32) dX4_squares_7 (by decide) (fun c1 => ?_) (fun c1 => ?_)
  · replace h := jite_t h c1
    refine j_iload_n (pc := 32) 1 dX4_squares_32 rfl rfl ?_
    cases h
    exact j_iret (pc := 33) dX4_squares_33 rfl rfl
  · replace h := jite_f h c1
    refine j_iload_n (pc := 10) 1 dX4_squares_10 rfl rfl ?_
    refine j_aload_n (pc := 11) 0 dX4_squares_11 rfl rfl ?_
    refine jg_4_5 (pc := 12) dX4_squares_12 (hC (4, k) (decide_eq_true hk)) tw_206 ?_
    refine j_iload_n (pc := 15) 2 dX4_squares_15 rfl rfl ?_
    obtain ⟨c2, h⟩ := jchk h
    refine j_ia (pc := 16) dX4_squares_16 rfl (hC (33, k) (decide_eq_true hk)) c2 ?_
    refine j_aload_n (pc := 17) 0 dX4_squares_17 rfl rfl ?_
    refine jg_4_5 (pc := 18) dX4_squares_18 (hC (4, k) (decide_eq_true hk)) tw_206 ?_
    refine j_iload_n (pc := 21) 2 dX4_squares_21 rfl rfl ?_
    obtain ⟨c3, h⟩ := jchk h
    refine j_ia (pc := 22) dX4_squares_22 rfl (hC (33, k) (decide_eq_true hk)) c3 ?_
    refine j_imul (pc := 23) dX4_squares_23 ?_
    refine j_iadd (pc := 24) dX4_squares_24 ?_
    obtain ⟨v4, ev4, h⟩ := jlk h
    refine j_topi ev4 ?_
    refine j_istore_n (pc := 25) (lv' := [(1, .int v4), (0, .ref (E.1 (4, k))), (2, .int x2)]) dX4_squares_25 rfl (by decide) rfl ?_
    obtain ⟨v5, ev5, h⟩ := jlk h
    refine j_iinc (pc := 26) (v := v5) (lv' := [(2, .int v5), (1, .int v4), (0, .ref (E.1 (4, k)))]) 2 dX4_squares_26 rfl (by rw [ev5]; rfl) (by decide) rfl ?_
    refine j_goto (pc := 29) (tgt := 4) dX4_squares_29 (by decide) ?_
    exact j_sub [2, 1, 0] rfl (H4 h)
def fX4_squares_4 (k : Nat) : Nat → jS → Int32 → Int32 → Option (Int32 × jS)
  | 0 => fun _ _ _ => none
  | n + 1 => bX4_squares_4 k (fX4_squares_4 k n)
theorem kX4_squares_4 {E : jE} (hC : jHC E) {k : Nat} (hk : k < 6) (fu : Nat) : ∀ {S : jS} {x1 : Int32} {x2 : Int32} {r : (Int32 × jS)}, fX4_squares_4 k fu S x1 x2 = some r → JR E 1 mX4_squares 4 [(0, .ref (E.1 (4, k))), (1, .int x1), (2, .int x2)] [] S [.int r.1] r.2 := by
  induction fu with
  | zero => intro S x1 x2 r h; cases h
  | succ n_ ih => intro S x1 x2 r h; exact lX4_squares_4 hC hk ih h
def fX4_squares (k : Nat) (S : jS) : Option (Int32 × jS) :=
  fX4_squares_4 k 5000 S (0 : Int32) (0 : Int32)
set_option maxRecDepth 10000 in
set_option maxHeartbeats 4000000 in
theorem kX4_squares {E : jE} (hC : jHC E) {k : Nat} (hk : k < 6) {S : jS} {r : (Int32 × jS)} (h : fX4_squares k S = some r) : jMR E 1 mX4_squares [.ref (E.1 (4, k))] S [.int r.1] r.2 := by
  refine ⟨Nat.le_of_ble_eq_true rfl, ?_⟩
  show JR E 1 mX4_squares 0 [(0, .ref (E.1 (4, k)))] [] S [.int r.1] r.2
  unfold fX4_squares at h
  refine j_iconst (pc := 0) dX4_squares_0 jci_0 ?_
  refine j_istore_n (pc := 1) (lv' := [(1, .int (0 : Int32)), (0, .ref (E.1 (4, k)))]) dX4_squares_1 rfl (by decide) rfl ?_
  refine j_iconst (pc := 2) dX4_squares_2 jci_0 ?_
  refine j_istore_n (pc := 3) (lv' := [(2, .int (0 : Int32)), (1, .int (0 : Int32)), (0, .ref (E.1 (4, k)))]) dX4_squares_3 rfl (by decide) rfl ?_
  exact j_sub [2, 1, 0] rfl (kX4_squares_4 hC hk 5000 h)
abbrev mX5_append : jM := (yX5_append, cX5_append, 2, none)
theorem okX5_append : jOK mX5_append 1 := ⟨by decide +kernel, tw_362, tw_70, by decide +kernel, by decide, by decide⟩
def fX5_append  (S : jS) (x1 : Int32) : Option jS :=
  (if (200 : Int32) ≤ (S.1 (0, 0)) then some S else if jIn (S.1 (0, 0)) 200 then if vp_nar .char x1 = x1 then jlet (jput S (10, 0) (upd (S.2 (10, 0)) (S.1 (0, 0)).toNatClampNeg x1)) fun S3 => jlet (jset S3 (0, 0) ((S3.1 (0, 0)) + (1 : Int32))) fun S5 => some S5 else none else none)
set_option maxRecDepth 10000 in
set_option maxHeartbeats 4000000 in
theorem kX5_append {E : jE} (hC : jHC E) {S : jS} {x1 : Int32} {r : jS} (h : fX5_append  S x1 = some r) : jMR E 1 mX5_append [.ref (E.1 (1, 0)), .int x1] S [] r := by
  refine ⟨Nat.le_of_ble_eq_true rfl, ?_⟩
  show JR E 1 mX5_append 0 [(0, .ref (E.1 (1, 0))), (1, .int x1)] [] S [] r
  unfold fX5_append at h
  refine j_aload_n (pc := 0) 0 dX5_append_0 rfl rfl ?_
  refine jg_1_0 (pc := 1) dX5_append_1 (hC (1, 0) rfl) tw_101 ?_
  refine j_sipush (pc := 4) dX5_append_4 jcs_200 ?_
  refine j_icmp_ge (pc := 7) (tgt := 30) dX5_append_7 (by decide) (fun c1 => ?_) (fun c1 => ?_)
  · replace h := jite_t h c1
    cases h
    exact j_vret (pc := 30) dX5_append_30 rfl
  · replace h := jite_f h c1
    refine j_aload_n (pc := 10) 0 dX5_append_10 rfl rfl ?_
    refine jg_1_1 (pc := 11) dX5_append_11 (hC (1, 0) rfl) tw_102 ?_
    refine j_aload_n (pc := 14) 0 dX5_append_14 rfl rfl ?_
    refine jg_1_0 (pc := 15) dX5_append_15 (hC (1, 0) rfl) tw_101 ?_
    refine j_iload_n (pc := 18) 1 dX5_append_18 rfl rfl ?_
    obtain ⟨c2, h⟩ := jchk h
    obtain ⟨c4, h⟩ := jchk h
    obtain ⟨S3, eS3, h⟩ := jlk h
    refine j_cs (pc := 19) dX5_append_19 (hC (10, 0) rfl) c2 c4 eS3 ?_
    refine j_aload_n (pc := 20) 0 dX5_append_20 rfl rfl ?_
    refine j_dup (pc := 21) dX5_append_21 rfl ?_
    refine jg_1_0 (pc := 22) dX5_append_22 (hC (1, 0) rfl) tw_101 ?_
    refine j_iconst (pc := 25) dX5_append_25 jci_1 ?_
    refine j_iadd (pc := 26) dX5_append_26 ?_
    obtain ⟨S5, eS5, h⟩ := jlk h
    refine jp_0 (pc := 27) dX5_append_27 (hC (1, 0) rfl) tw_101 eS5 ?_
    cases h
    exact j_vret (pc := 30) dX5_append_30 rfl
abbrev mX5_numbersOf : jM := (yX5_numbersOf, cX5_numbersOf, 1, (some .int))
theorem okX5_numbersOf : jOK mX5_numbersOf 1 := ⟨by decide +kernel, tw_384, tw_70, by decide +kernel, by decide, by decide⟩
def fX5_numbersOf  (S : jS) (x0 : Int32) : Option (Int32 × jS) :=
  (if x0 = (98 : Int32) then some ((1 : Int32), S) else (if x0 = (102 : Int32) then some ((3 : Int32), S) else (if x0 = (103 : Int32) then some ((1 : Int32), S) else (if x0 = (108 : Int32) then some ((3 : Int32), S) else (if x0 = (110 : Int32) then some ((1 : Int32), S) else (if x0 = (111 : Int32) then some ((1 : Int32), S) else (if x0 = (120 : Int32) then some ((2 : Int32), S) else some ((0 : Int32), S))))))))
set_option maxRecDepth 10000 in
set_option maxHeartbeats 4000000 in
theorem kX5_numbersOf {E : jE} (hC : jHC E) {S : jS} {x0 : Int32} {r : (Int32 × jS)} (h : fX5_numbersOf  S x0 = some r) : jMR E 1 mX5_numbersOf [.int x0] S [.int r.1] r.2 := by
  refine ⟨Nat.le_of_ble_eq_true rfl, ?_⟩
  show JR E 1 mX5_numbersOf 0 [(0, .int x0)] [] S [.int r.1] r.2
  unfold fX5_numbersOf at h
  refine j_iload_n (pc := 0) 0 dX5_numbersOf_0 rfl rfl ?_
  by_cases c1 : x0 = (98 : Int32)
  · replace h := jite_t h c1
    refine j_tabIn (pc := 1) (tgt := 108) (off := 107) dX5_numbersOf_1 (by rw [c1]; decide) (by rw [c1]; decide) (by rw [c1]; rfl) (by decide) ?_
    refine j_iconst (pc := 108) dX5_numbersOf_108 jci_1 ?_
    cases h
    exact j_iret (pc := 109) dX5_numbersOf_109 rfl rfl
  replace h := jite_f h c1
  by_cases c2 : x0 = (102 : Int32)
  · replace h := jite_t h c2
    refine j_tabIn (pc := 1) (tgt := 112) (off := 111) dX5_numbersOf_1 (by rw [c2]; decide) (by rw [c2]; decide) (by rw [c2]; rfl) (by decide) ?_
    refine j_iconst (pc := 112) dX5_numbersOf_112 jci_3 ?_
    cases h
    exact j_iret (pc := 113) dX5_numbersOf_113 rfl rfl
  replace h := jite_f h c2
  by_cases c3 : x0 = (103 : Int32)
  · replace h := jite_t h c3
    refine j_tabIn (pc := 1) (tgt := 108) (off := 107) dX5_numbersOf_1 (by rw [c3]; decide) (by rw [c3]; decide) (by rw [c3]; rfl) (by decide) ?_
    refine j_iconst (pc := 108) dX5_numbersOf_108 jci_1 ?_
    cases h
    exact j_iret (pc := 109) dX5_numbersOf_109 rfl rfl
  replace h := jite_f h c3
  by_cases c4 : x0 = (108 : Int32)
  · replace h := jite_t h c4
    refine j_tabIn (pc := 1) (tgt := 112) (off := 111) dX5_numbersOf_1 (by rw [c4]; decide) (by rw [c4]; decide) (by rw [c4]; rfl) (by decide) ?_
    refine j_iconst (pc := 112) dX5_numbersOf_112 jci_3 ?_
    cases h
    exact j_iret (pc := 113) dX5_numbersOf_113 rfl rfl
  replace h := jite_f h c4
  by_cases c5 : x0 = (110 : Int32)
  · replace h := jite_t h c5
    refine j_tabIn (pc := 1) (tgt := 108) (off := 107) dX5_numbersOf_1 (by rw [c5]; decide) (by rw [c5]; decide) (by rw [c5]; rfl) (by decide) ?_
    refine j_iconst (pc := 108) dX5_numbersOf_108 jci_1 ?_
    cases h
    exact j_iret (pc := 109) dX5_numbersOf_109 rfl rfl
  replace h := jite_f h c5
  by_cases c6 : x0 = (111 : Int32)
  · replace h := jite_t h c6
    refine j_tabIn (pc := 1) (tgt := 108) (off := 107) dX5_numbersOf_1 (by rw [c6]; decide) (by rw [c6]; decide) (by rw [c6]; rfl) (by decide) ?_
    refine j_iconst (pc := 108) dX5_numbersOf_108 jci_1 ?_
    cases h
    exact j_iret (pc := 109) dX5_numbersOf_109 rfl rfl
  replace h := jite_f h c6
  by_cases c7 : x0 = (120 : Int32)
  · replace h := jite_t h c7
    refine j_tabIn (pc := 1) (tgt := 110) (off := 109) dX5_numbersOf_1 (by rw [c7]; decide) (by rw [c7]; decide) (by rw [c7]; rfl) (by decide) ?_
    refine j_iconst (pc := 110) dX5_numbersOf_110 jci_2 ?_
    cases h
    exact j_iret (pc := 111) dX5_numbersOf_111 rfl rfl
  replace h := jite_f h c7
  refine j_tabD (pc := 1) (tgt := 114) dX5_numbersOf_1 (by decide) (fun i hi => match i, hi with | 0, _ => Or.inr (jti c1 rfl) | 1, _ => Or.inl rfl | 2, _ => Or.inl rfl | 3, _ => Or.inl rfl | 4, _ => Or.inr (jti c2 rfl) | 5, _ => Or.inr (jti c3 rfl) | 6, _ => Or.inl rfl | 7, _ => Or.inl rfl | 8, _ => Or.inl rfl | 9, _ => Or.inl rfl | 10, _ => Or.inr (jti c4 rfl) | 11, _ => Or.inl rfl | 12, _ => Or.inr (jti c5 rfl) | 13, _ => Or.inr (jti c6 rfl) | 14, _ => Or.inl rfl | 15, _ => Or.inl rfl | 16, _ => Or.inl rfl | 17, _ => Or.inl rfl | 18, _ => Or.inl rfl | 19, _ => Or.inl rfl | 20, _ => Or.inl rfl | 21, _ => Or.inl rfl | 22, _ => Or.inr (jti c7 rfl) | n + 23, h9 => absurd h9 (by simp)) (by decide) ?_
  refine j_iconst (pc := 114) dX5_numbersOf_114 jci_0 ?_
  cases h
  exact j_iret (pc := 115) dX5_numbersOf_115 rfl rfl
abbrev mX5_readNumbers : jM := (yX5_readNumbers, cX5_readNumbers, 8, (some .int))
theorem okX5_readNumbers : jOK mX5_readNumbers 2 := ⟨by decide +kernel, tw_388, tw_70, by decide +kernel, by decide, by decide⟩
def bX5_readNumbers_111  (q11 : jS → Int32 → Int32 → Int32 → Int32 → Int32 → Option (Int32 × jS)) (S : jS) (x2 : Int32) (x3 : Int32) (x4 : Int32) (x5 : Int32) (x6 : Int32) : Option (Int32 × jS) :=
  jlet (x6 + (1 : Int32)) fun v9 => q11 S x2 x3 x4 x5 v9
set_option maxRecDepth 10000 in
set_option maxHeartbeats 4000000 in
theorem lX5_readNumbers_111 {E : jE} (hC : jHC E) {q11 : jS → Int32 → Int32 → Int32 → Int32 → Int32 → Option (Int32 × jS)} (H11 : ∀ {S : jS} {x2 : Int32} {x3 : Int32} {x4 : Int32} {x5 : Int32} {x6 : Int32} {r : (Int32 × jS)}, q11 S x2 x3 x4 x5 x6 = some r → JR E 1 mX5_readNumbers 11 [(0, .ref (E.1 (1, 0))), (2, .int x2), (3, .int x3), (4, .int x4), (5, .int x5), (6, .int x6)] [] S [.int r.1] r.2) {S : jS} {x2 : Int32} {x3 : Int32} {x4 : Int32} {x5 : Int32} {x6 : Int32} {r : (Int32 × jS)} (h : bX5_readNumbers_111  q11 S x2 x3 x4 x5 x6 = some r) : JR E 1 mX5_readNumbers 111 [(0, .ref (E.1 (1, 0))), (2, .int x2), (3, .int x3), (4, .int x4), (5, .int x5), (6, .int x6)] [] S [.int r.1] r.2 := by
  unfold bX5_readNumbers_111 at h
  obtain ⟨v9, ev9, h⟩ := jlk h
  refine j_iinc (pc := 111) (v := v9) (lv' := [(6, .int v9), (0, .ref (E.1 (1, 0))), (2, .int x2), (3, .int x3), (4, .int x4), (5, .int x5)]) 5 dX5_readNumbers_111 rfl (by rw [ev9]; rfl) (by decide) rfl ?_
  refine j_goto (pc := 114) (tgt := 11) dX5_readNumbers_114 (by decide) ?_
  exact j_sub [1, 2, 3, 4, 5, 0] rfl (H11 h)
def bX5_readNumbers_79  (q11 : jS → Int32 → Int32 → Int32 → Int32 → Int32 → Option (Int32 × jS)) (S : jS) (x2 : Int32) (x3 : Int32) (x4 : Int32) (x5 : Int32) (x6 : Int32) : Option (Int32 × jS) :=
  (if x4 ≤ 0 then some ((0 : Int32), S) else (if (3 : Int32) ≤ x3 then some ((0 : Int32), S) else if jIn x3 3 then jlet (jput S (11, 0) (upd (S.2 (11, 0)) x3.toNatClampNeg x5)) fun S15 => jlet (x3 + (1 : Int32)) fun v16 => bX5_readNumbers_111 q11 S15 x2 v16 (0 : Int32) (0 : Int32) x6 else none))
set_option maxRecDepth 10000 in
set_option maxHeartbeats 4000000 in
theorem lX5_readNumbers_79 {E : jE} (hC : jHC E) {q11 : jS → Int32 → Int32 → Int32 → Int32 → Int32 → Option (Int32 × jS)} (H11 : ∀ {S : jS} {x2 : Int32} {x3 : Int32} {x4 : Int32} {x5 : Int32} {x6 : Int32} {r : (Int32 × jS)}, q11 S x2 x3 x4 x5 x6 = some r → JR E 1 mX5_readNumbers 11 [(0, .ref (E.1 (1, 0))), (2, .int x2), (3, .int x3), (4, .int x4), (5, .int x5), (6, .int x6)] [] S [.int r.1] r.2) {S : jS} {x2 : Int32} {x3 : Int32} {x4 : Int32} {x5 : Int32} {x6 : Int32} {r : (Int32 × jS)} (h : bX5_readNumbers_79  q11 S x2 x3 x4 x5 x6 = some r) : JR E 1 mX5_readNumbers 79 [(0, .ref (E.1 (1, 0))), (2, .int x2), (3, .int x3), (4, .int x4), (5, .int x5), (6, .int x6)] [] S [.int r.1] r.2 := by
  unfold bX5_readNumbers_79 at h
  refine j_iload (pc := 79) 3 dX5_readNumbers_79 rfl ?_
  refine j_if_le (pc := 81) (tgt := 109) dX5_readNumbers_81 (by decide) (fun c12 => ?_) (fun c12 => ?_)
  · replace h := jite_t h c12
    refine j_iconst (pc := 109) dX5_readNumbers_109 jci_0 ?_
    cases h
    exact j_iret (pc := 110) dX5_readNumbers_110 rfl rfl
  · replace h := jite_f h c12
    refine j_iload_n (pc := 84) 2 dX5_readNumbers_84 rfl rfl ?_
    refine j_iconst (pc := 85) dX5_readNumbers_85 jci_3 ?_
    refine j_icmp_ge (pc := 86) (tgt := 109) dX5_readNumbers_86 (by decide) (fun c13 => ?_) (fun c13 => ?_)
    · replace h := jite_t h c13
      refine j_iconst (pc := 109) dX5_readNumbers_109 jci_0 ?_
      cases h
      exact j_iret (pc := 110) dX5_readNumbers_110 rfl rfl
    · replace h := jite_f h c13
      refine j_aload_n (pc := 89) 0 dX5_readNumbers_89 rfl rfl ?_
      refine jg_1_2 (pc := 90) dX5_readNumbers_90 (hC (1, 0) rfl) tw_103 ?_
      refine j_iload_n (pc := 93) 2 dX5_readNumbers_93 rfl rfl ?_
      refine j_iload (pc := 94) 4 dX5_readNumbers_94 rfl ?_
      obtain ⟨c14, h⟩ := jchk h
      obtain ⟨S15, eS15, h⟩ := jlk h
      refine j_is (pc := 96) dX5_readNumbers_96 rfl (hC (11, 0) rfl) c14 eS15 ?_
      obtain ⟨v16, ev16, h⟩ := jlk h
      refine j_iinc (pc := 97) (v := v16) (lv' := [(3, .int v16), (0, .ref (E.1 (1, 0))), (2, .int x2), (4, .int x4), (5, .int x5), (6, .int x6)]) 2 dX5_readNumbers_97 rfl (by rw [ev16]; rfl) (by decide) rfl ?_
      refine j_iconst (pc := 100) dX5_readNumbers_100 jci_0 ?_
      refine j_istore (pc := 101) (lv' := [(5, .int (0 : Int32)), (3, .int v16), (0, .ref (E.1 (1, 0))), (2, .int x2), (4, .int x4), (6, .int x6)]) dX5_readNumbers_101 (by decide) rfl ?_
      refine j_iconst (pc := 103) dX5_readNumbers_103 jci_0 ?_
      refine j_istore (pc := 104) (lv' := [(4, .int (0 : Int32)), (5, .int (0 : Int32)), (3, .int v16), (0, .ref (E.1 (1, 0))), (2, .int x2), (6, .int x6)]) dX5_readNumbers_104 (by decide) rfl ?_
      refine j_goto (pc := 106) (tgt := 111) dX5_readNumbers_106 (by decide) ?_
      exact j_sub [3, 4, 2, 0, 1, 5] rfl (lX5_readNumbers_111 hC H11 h)
def bX5_readNumbers_65  (q11 : jS → Int32 → Int32 → Int32 → Int32 → Int32 → Option (Int32 × jS)) (S : jS) (x2 : Int32) (x3 : Int32) (x4 : Int32) (x5 : Int32) (x6 : Int32) (x7 : Int32) : Option (Int32 × jS) :=
  (if x7 = (44 : Int32) then bX5_readNumbers_79 q11 S x2 x3 x4 x5 x6 else (if x7 = (59 : Int32) then bX5_readNumbers_79 q11 S x2 x3 x4 x5 x6 else some ((0 : Int32), S)))
set_option maxRecDepth 10000 in
set_option maxHeartbeats 4000000 in
theorem lX5_readNumbers_65 {E : jE} (hC : jHC E) {q11 : jS → Int32 → Int32 → Int32 → Int32 → Int32 → Option (Int32 × jS)} (H11 : ∀ {S : jS} {x2 : Int32} {x3 : Int32} {x4 : Int32} {x5 : Int32} {x6 : Int32} {r : (Int32 × jS)}, q11 S x2 x3 x4 x5 x6 = some r → JR E 1 mX5_readNumbers 11 [(0, .ref (E.1 (1, 0))), (2, .int x2), (3, .int x3), (4, .int x4), (5, .int x5), (6, .int x6)] [] S [.int r.1] r.2) {S : jS} {x2 : Int32} {x3 : Int32} {x4 : Int32} {x5 : Int32} {x6 : Int32} {x7 : Int32} {r : (Int32 × jS)} (h : bX5_readNumbers_65  q11 S x2 x3 x4 x5 x6 x7 = some r) : JR E 1 mX5_readNumbers 65 [(0, .ref (E.1 (1, 0))), (2, .int x2), (3, .int x3), (4, .int x4), (5, .int x5), (6, .int x6), (7, .int x7)] [] S [.int r.1] r.2 := by
  unfold bX5_readNumbers_65 at h
  refine j_iload (pc := 65) 6 dX5_readNumbers_65 rfl ?_
  refine j_bipush (pc := 67) dX5_readNumbers_67 jcb_44 ?_
  refine j_icmp_eq (pc := 69) (tgt := 79) dX5_readNumbers_69 (by decide) (fun c10 => ?_) (fun c10 => ?_)
  · replace h := jite_t h c10
    exact j_sub [0, 1, 2, 3, 4, 5] rfl (lX5_readNumbers_79 hC H11 h)
  · replace h := jite_f h c10
    refine j_iload (pc := 72) 6 dX5_readNumbers_72 rfl ?_
    refine j_bipush (pc := 74) dX5_readNumbers_74 jcb_59 ?_
    refine j_icmp_ne (pc := 76) (tgt := 109) dX5_readNumbers_76 (by decide) (fun c11 => ?_) (fun c11 => ?_)
    · replace h := jite_f h c11
      refine j_iconst (pc := 109) dX5_readNumbers_109 jci_0 ?_
      cases h
      exact j_iret (pc := 110) dX5_readNumbers_110 rfl rfl
    · replace h := jite_t h c11
      exact j_sub [0, 1, 2, 3, 4, 5] rfl (lX5_readNumbers_79 hC H11 h)
def bX5_readNumbers_11  (q11 : jS → Int32 → Int32 → Int32 → Int32 → Int32 → Option (Int32 × jS)) (S : jS) (x2 : Int32) (x3 : Int32) (x4 : Int32) (x5 : Int32) (x6 : Int32) : Option (Int32 × jS) :=
  (if x2 < x6 then some (x3, S) else if jIn x6 200 then jlet (S.2 (10, 0) x6.toNatClampNeg) fun v3 => (if v3 < (48 : Int32) then bX5_readNumbers_65 q11 S x2 x3 x4 x5 x6 v3 else (if (57 : Int32) < v3 then bX5_readNumbers_65 q11 S x2 x3 x4 x5 x6 v3 else (if (2 : Int32) ≤ x4 then bX5_readNumbers_65 q11 S x2 x3 x4 x5 x6 v3 else jlet ((x5 * (10 : Int32)) + (v3 - (48 : Int32))) fun v7 => jlet (x4 + (1 : Int32)) fun v8 => bX5_readNumbers_111 q11 S x2 x3 v8 v7 x6))) else none)
set_option maxRecDepth 10000 in
set_option maxHeartbeats 4000000 in
theorem lX5_readNumbers_11 {E : jE} (hC : jHC E) {q11 : jS → Int32 → Int32 → Int32 → Int32 → Int32 → Option (Int32 × jS)} (H11 : ∀ {S : jS} {x2 : Int32} {x3 : Int32} {x4 : Int32} {x5 : Int32} {x6 : Int32} {r : (Int32 × jS)}, q11 S x2 x3 x4 x5 x6 = some r → JR E 1 mX5_readNumbers 11 [(0, .ref (E.1 (1, 0))), (2, .int x2), (3, .int x3), (4, .int x4), (5, .int x5), (6, .int x6)] [] S [.int r.1] r.2) {S : jS} {x2 : Int32} {x3 : Int32} {x4 : Int32} {x5 : Int32} {x6 : Int32} {r : (Int32 × jS)} (h : bX5_readNumbers_11  q11 S x2 x3 x4 x5 x6 = some r) : JR E 1 mX5_readNumbers 11 [(0, .ref (E.1 (1, 0))), (2, .int x2), (3, .int x3), (4, .int x4), (5, .int x5), (6, .int x6)] [] S [.int r.1] r.2 := by
  unfold bX5_readNumbers_11 at h
  refine j_iload (pc := 11) 5 dX5_readNumbers_11 rfl ?_
  refine j_iload_n (pc := 13) 1 dX5_readNumbers_13 rfl rfl ?_
  refine j_icmp_gt (pc := 14) (tgt := 117) dX5_readNumbers_14 (by decide) (fun c1 => ?_) (fun c1 => ?_)
  · replace h := jite_t h c1
    refine j_iload_n (pc := 117) 2 dX5_readNumbers_117 rfl rfl ?_
    cases h
    exact j_iret (pc := 118) dX5_readNumbers_118 rfl rfl
  · replace h := jite_f h c1
    refine j_aload_n (pc := 17) 0 dX5_readNumbers_17 rfl rfl ?_
    refine jg_1_1 (pc := 18) dX5_readNumbers_18 (hC (1, 0) rfl) tw_102 ?_
    refine j_iload (pc := 21) 5 dX5_readNumbers_21 rfl ?_
    obtain ⟨c2, h⟩ := jchk h
    refine j_ca (pc := 23) dX5_readNumbers_23 (hC (10, 0) rfl) c2 ?_
    obtain ⟨v3, ev3, h⟩ := jlk h
    refine j_topi ev3 ?_
    refine j_istore (pc := 24) (lv' := [(7, .int v3), (0, .ref (E.1 (1, 0))), (2, .int x2), (3, .int x3), (4, .int x4), (5, .int x5), (6, .int x6)]) dX5_readNumbers_24 (by decide) rfl ?_
    refine j_iload (pc := 26) 0 dX5_readNumbers_26 rfl ?_
    refine j_bipush (pc := 28) dX5_readNumbers_28 jcb_48 ?_
    refine j_icmp_lt (pc := 30) (tgt := 65) dX5_readNumbers_30 (by decide) (fun c4 => ?_) (fun c4 => ?_)
    · replace h := jite_t h c4
      exact j_sub [1, 2, 3, 4, 5, 6, 0] rfl (lX5_readNumbers_65 hC H11 h)
    · replace h := jite_f h c4
      refine j_iload (pc := 33) 0 dX5_readNumbers_33 rfl ?_
      refine j_bipush (pc := 35) dX5_readNumbers_35 jcb_57 ?_
      refine j_icmp_gt (pc := 37) (tgt := 65) dX5_readNumbers_37 (by decide) (fun c5 => ?_) (fun c5 => ?_)
      · replace h := jite_t h c5
        exact j_sub [1, 2, 3, 4, 5, 6, 0] rfl (lX5_readNumbers_65 hC H11 h)
      · replace h := jite_f h c5
        refine j_iload (pc := 40) 4 dX5_readNumbers_40 rfl ?_
        refine j_iconst (pc := 42) dX5_readNumbers_42 jci_2 ?_
        refine j_icmp_ge (pc := 43) (tgt := 65) dX5_readNumbers_43 (by decide) (fun c6 => ?_) (fun c6 => ?_)
        · replace h := jite_t h c6
          exact j_sub [1, 2, 3, 4, 5, 6, 0] rfl (lX5_readNumbers_65 hC H11 h)
        · replace h := jite_f h c6
          refine j_iload (pc := 46) 5 dX5_readNumbers_46 rfl ?_
          refine j_bipush (pc := 48) dX5_readNumbers_48 jcb_10 ?_
          refine j_imul (pc := 50) dX5_readNumbers_50 ?_
          refine j_iload (pc := 51) 0 dX5_readNumbers_51 rfl ?_
          refine j_bipush (pc := 53) dX5_readNumbers_53 jcb_48 ?_
          refine j_isub (pc := 55) dX5_readNumbers_55 ?_
          refine j_iadd (pc := 56) dX5_readNumbers_56 ?_
          obtain ⟨v7, ev7, h⟩ := jlk h
          refine j_topi ev7 ?_
          refine j_istore (pc := 57) (lv' := [(5, .int v7), (7, .int v3), (0, .ref (E.1 (1, 0))), (2, .int x2), (3, .int x3), (4, .int x4), (6, .int x6)]) dX5_readNumbers_57 (by decide) rfl ?_
          obtain ⟨v8, ev8, h⟩ := jlk h
          refine j_iinc (pc := 59) (v := v8) (lv' := [(4, .int v8), (5, .int v7), (7, .int v3), (0, .ref (E.1 (1, 0))), (2, .int x2), (3, .int x3), (6, .int x6)]) 5 dX5_readNumbers_59 rfl (by rw [ev8]; rfl) (by decide) rfl ?_
          refine j_goto (pc := 62) (tgt := 111) dX5_readNumbers_62 (by decide) ?_
          exact j_sub [3, 4, 5, 0, 1, 6] rfl (lX5_readNumbers_111 hC H11 h)
def fX5_readNumbers_11  : Nat → jS → Int32 → Int32 → Int32 → Int32 → Int32 → Option (Int32 × jS)
  | 0 => fun _ _ _ _ _ _ => none
  | n + 1 => bX5_readNumbers_11  (fX5_readNumbers_11  n)
theorem kX5_readNumbers_11 {E : jE} (hC : jHC E) (fu : Nat) : ∀ {S : jS} {x2 : Int32} {x3 : Int32} {x4 : Int32} {x5 : Int32} {x6 : Int32} {r : (Int32 × jS)}, fX5_readNumbers_11  fu S x2 x3 x4 x5 x6 = some r → JR E 1 mX5_readNumbers 11 [(0, .ref (E.1 (1, 0))), (2, .int x2), (3, .int x3), (4, .int x4), (5, .int x5), (6, .int x6)] [] S [.int r.1] r.2 := by
  induction fu with
  | zero => intro S x2 x3 x4 x5 x6 r h; cases h
  | succ n_ ih => intro S x2 x3 x4 x5 x6 r h; exact lX5_readNumbers_11 hC ih h
def fX5_readNumbers  (S : jS) (x1 : Int32) (x2 : Int32) : Option (Int32 × jS) :=
  fX5_readNumbers_11 5000 S x2 (0 : Int32) (0 : Int32) (0 : Int32) x1
set_option maxRecDepth 10000 in
set_option maxHeartbeats 4000000 in
theorem kX5_readNumbers {E : jE} (hC : jHC E) {S : jS} {x1 : Int32} {x2 : Int32} {r : (Int32 × jS)} (h : fX5_readNumbers  S x1 x2 = some r) : jMR E 1 mX5_readNumbers [.ref (E.1 (1, 0)), .int x1, .int x2] S [.int r.1] r.2 := by
  refine ⟨Nat.le_of_ble_eq_true rfl, ?_⟩
  show JR E 1 mX5_readNumbers 0 [(0, .ref (E.1 (1, 0))), (1, .int x1), (2, .int x2)] [] S [.int r.1] r.2
  unfold fX5_readNumbers at h
  refine j_iconst (pc := 0) dX5_readNumbers_0 jci_0 ?_
  refine j_istore_n (pc := 1) (lv' := [(3, .int (0 : Int32)), (0, .ref (E.1 (1, 0))), (1, .int x1), (2, .int x2)]) dX5_readNumbers_1 rfl (by decide) rfl ?_
  refine j_iconst (pc := 2) dX5_readNumbers_2 jci_0 ?_
  refine j_istore (pc := 3) (lv' := [(4, .int (0 : Int32)), (3, .int (0 : Int32)), (0, .ref (E.1 (1, 0))), (1, .int x1), (2, .int x2)]) dX5_readNumbers_3 (by decide) rfl ?_
  refine j_iconst (pc := 5) dX5_readNumbers_5 jci_0 ?_
  refine j_istore (pc := 6) (lv' := [(5, .int (0 : Int32)), (4, .int (0 : Int32)), (3, .int (0 : Int32)), (0, .ref (E.1 (1, 0))), (1, .int x1), (2, .int x2)]) dX5_readNumbers_6 (by decide) rfl ?_
  refine j_iload_n (pc := 8) 4 dX5_readNumbers_8 rfl rfl ?_
  refine j_istore (pc := 9) (lv' := [(6, .int x1), (5, .int (0 : Int32)), (4, .int (0 : Int32)), (3, .int (0 : Int32)), (0, .ref (E.1 (1, 0))), (1, .int x1), (2, .int x2)]) dX5_readNumbers_9 (by decide) rfl ?_
  exact j_sub [4, 6, 3, 2, 1, 0] rfl (kX5_readNumbers_11 hC 5000 h)
abbrev mX5_readItem : jM := (yX5_readItem, cX5_readItem, 5, (some .boolean))
theorem okX5_readItem : jOK mX5_readItem 3 := ⟨by decide +kernel, tw_381, tw_70, by decide +kernel, by decide, by decide⟩
def fX5_readItem (k : Nat) (S : jS) (x2 : Int32) (x3 : Int32) : Option (Int32 × jS) :=
  if jIn x2 200 then (fX5_numbersOf S (S.2 (10, 0) x2.toNatClampNeg)).bind fun y2 => (if y2.1 = 0 then some ((0 : Int32), y2.2) else (fX5_readNumbers y2.2 (x2 + (1 : Int32)) x3).bind fun y4 => (if y4.1 = y2.1 then if jIn x2 200 then if jIn (0 : Int32) 3 then if jIn (1 : Int32) 3 then if jIn (2 : Int32) 3 then (fX2_takeItem k y4.2 (y4.2.2 (10, 0) x2.toNatClampNeg) (y4.2.2 (11, 0) (0 : Int32).toNatClampNeg) (y4.2.2 (11, 0) (1 : Int32).toNatClampNeg) (y4.2.2 (11, 0) (2 : Int32).toNatClampNeg)).bind fun y10 => if y10.1 = 0 ∨ y10.1 = 1 then some (y10.1, y10.2) else none else none else none else none else none else some ((0 : Int32), y4.2))) else none
set_option maxRecDepth 10000 in
set_option maxHeartbeats 4000000 in
theorem kX5_readItem {E : jE} (hC : jHC E) {k : Nat} (hk : k < 6) {S : jS} {x2 : Int32} {x3 : Int32} {r : (Int32 × jS)} (h : fX5_readItem k S x2 x3 = some r) : jMR E 5 mX5_readItem [.ref (E.1 (1, 0)), .ref (E.1 (3, k)), .int x2, .int x3] S [.int r.1] r.2 := by
  refine ⟨Nat.le_of_ble_eq_true rfl, ?_⟩
  show JR E 5 mX5_readItem 0 [(0, .ref (E.1 (1, 0))), (1, .ref (E.1 (3, k))), (2, .int x2), (3, .int x3)] [] S [.int r.1] r.2
  unfold fX5_readItem at h
  refine j_aload_n (pc := 0) 0 dX5_readItem_0 rfl rfl ?_
  refine jg_1_1 (pc := 1) dX5_readItem_1 (hC (1, 0) rfl) tw_102 ?_
  refine j_iload_n (pc := 4) 2 dX5_readItem_4 rfl rfl ?_
  obtain ⟨c1, h⟩ := jchk h
  refine j_ca (pc := 5) dX5_readItem_5 (hC (10, 0) rfl) c1 ?_
  obtain ⟨y2, hy2, h⟩ := jbnd h
  refine j_callS (pc := 6) (N := mX5_numbersOf) (As := [.int (S.2 (10, 0) x2.toNatClampNeg)]) (rest := []) (v := [.int y2.1]) (S1 := y2.2) dX5_readItem_6 (kX5_numbersOf hC hy2) (by simp) (by decide) okX5_numbersOf tw_383 tw_382 rfl rfl (by simp [Value.category]) ?_
  refine j_istore (pc := 9) (lv' := [(4, .int y2.1), (0, .ref (E.1 (1, 0))), (1, .ref (E.1 (3, k))), (2, .int x2), (3, .int x3)]) dX5_readItem_9 (by decide) rfl ?_
  refine j_iload (pc := 11) 0 dX5_readItem_11 rfl ?_
  refine j_if_eq (pc := 13) (tgt := 29) dX5_readItem_13 (by decide) (fun c3 => ?_) (fun c3 => ?_)
  · replace h := jite_t h c3
    refine j_iconst (pc := 29) dX5_readItem_29 jci_0 ?_
    cases h
    exact j_iret (pc := 30) dX5_readItem_30 rfl rfl
  · replace h := jite_f h c3
    refine j_aload_n (pc := 16) 1 dX5_readItem_16 rfl rfl ?_
    refine j_iload_n (pc := 17) 3 dX5_readItem_17 rfl rfl ?_
    refine j_iconst (pc := 18) dX5_readItem_18 jci_1 ?_
    refine j_iadd (pc := 19) dX5_readItem_19 ?_
    refine j_iload_n (pc := 20) 4 dX5_readItem_20 rfl rfl ?_
    obtain ⟨y4, hy4, h⟩ := jbnd h
    refine j_callV (pc := 21) (N := mX5_readNumbers) (rr := (1, 0)) (As := [.int (x2 + (1 : Int32)), .int x3]) (rest := []) (v := [.int y4.1]) (S1 := y4.2) dX5_readItem_21 (kX5_readNumbers hC hy4) (by simp) (by decide) okX5_readNumbers tw_387 tw_2 tw_385 (hC (1, 0) rfl) rfl rfl rfl rfl (by simp [Value.category]) ?_
    refine j_iload (pc := 24) 0 dX5_readItem_24 rfl ?_
    refine j_icmp_eq (pc := 26) (tgt := 31) dX5_readItem_26 (by decide) (fun c5 => ?_) (fun c5 => ?_)
    · replace h := jite_t h c5
      refine j_aload_n (pc := 31) 2 dX5_readItem_31 rfl rfl ?_
      refine j_aload_n (pc := 32) 1 dX5_readItem_32 rfl rfl ?_
      refine jg_1_1 (pc := 33) dX5_readItem_33 (hC (1, 0) rfl) tw_102 ?_
      refine j_iload_n (pc := 36) 3 dX5_readItem_36 rfl rfl ?_
      obtain ⟨c6, h⟩ := jchk h
      refine j_ca (pc := 37) dX5_readItem_37 (hC (10, 0) rfl) c6 ?_
      refine j_aload_n (pc := 38) 1 dX5_readItem_38 rfl rfl ?_
      refine jg_1_2 (pc := 39) dX5_readItem_39 (hC (1, 0) rfl) tw_103 ?_
      refine j_iconst (pc := 42) dX5_readItem_42 jci_0 ?_
      obtain ⟨c7, h⟩ := jchk h
      refine j_ia (pc := 43) dX5_readItem_43 rfl (hC (11, 0) rfl) c7 ?_
      refine j_aload_n (pc := 44) 1 dX5_readItem_44 rfl rfl ?_
      refine jg_1_2 (pc := 45) dX5_readItem_45 (hC (1, 0) rfl) tw_103 ?_
      refine j_iconst (pc := 48) dX5_readItem_48 jci_1 ?_
      obtain ⟨c8, h⟩ := jchk h
      refine j_ia (pc := 49) dX5_readItem_49 rfl (hC (11, 0) rfl) c8 ?_
      refine j_aload_n (pc := 50) 1 dX5_readItem_50 rfl rfl ?_
      refine jg_1_2 (pc := 51) dX5_readItem_51 (hC (1, 0) rfl) tw_103 ?_
      refine j_iconst (pc := 54) dX5_readItem_54 jci_2 ?_
      obtain ⟨c9, h⟩ := jchk h
      refine j_ia (pc := 55) dX5_readItem_55 rfl (hC (11, 0) rfl) c9 ?_
      obtain ⟨y10, hy10, h⟩ := jbnd h
      refine j_callV (pc := 56) (N := mX2_takeItem) (rr := (3, k)) (As := [.int (y4.2.2 (10, 0) x2.toNatClampNeg), .int (y4.2.2 (11, 0) (0 : Int32).toNatClampNeg), .int (y4.2.2 (11, 0) (1 : Int32).toNatClampNeg), .int (y4.2.2 (11, 0) (2 : Int32).toNatClampNeg)]) (rest := []) (v := [.int y10.1]) (S1 := y10.2) dX5_readItem_56 (kX2_takeItem hC hk hy10) (by simp) (by decide) okX2_takeItem tw_390 tw_391 tw_389 (hC (3, k) (decide_eq_true hk)) rfl rfl rfl rfl (by simp [Value.category]) ?_
      obtain ⟨c11, h⟩ := jchk h
      cases h
      exact j_iret (pc := 59) dX5_readItem_59 rfl (jnar01 c11)
    · replace h := jite_f h c5
      refine j_iconst (pc := 29) dX5_readItem_29 jci_0 ?_
      cases h
      exact j_iret (pc := 30) dX5_readItem_30 rfl rfl
abbrev mX5_readInto : jM := (yX5_readInto, cX5_readInto, 4, (some .int))
theorem okX5_readInto : jOK mX5_readInto 1 := ⟨by decide +kernel, tw_370, tw_70, by decide +kernel, by decide, by decide⟩
def bX5_readInto_43 (k : Nat) (q8 : jS → Int32 → Int32 → Option (Int32 × jS)) (S : jS) (x2 : Int32) (x3 : Int32) : Option (Int32 × jS) :=
  jlet (x3 + (1 : Int32)) fun v9 => q8 S x2 v9
set_option maxRecDepth 10000 in
set_option maxHeartbeats 4000000 in
theorem lX5_readInto_43 {E : jE} (hC : jHC E) {k : Nat} (hk : k < 6) {q8 : jS → Int32 → Int32 → Option (Int32 × jS)} (H8 : ∀ {S : jS} {x2 : Int32} {x3 : Int32} {r : (Int32 × jS)}, q8 S x2 x3 = some r → JR E 6 mX5_readInto 8 [(0, .ref (E.1 (1, 0))), (1, .ref (E.1 (3, k))), (2, .int x2), (3, .int x3)] [] S [.int r.1] r.2) {S : jS} {x2 : Int32} {x3 : Int32} {r : (Int32 × jS)} (h : bX5_readInto_43 k q8 S x2 x3 = some r) : JR E 6 mX5_readInto 43 [(0, .ref (E.1 (1, 0))), (1, .ref (E.1 (3, k))), (2, .int x2), (3, .int x3)] [] S [.int r.1] r.2 := by
  unfold bX5_readInto_43 at h
  obtain ⟨v9, ev9, h⟩ := jlk h
  refine j_iinc (pc := 43) (v := v9) (lv' := [(3, .int v9), (0, .ref (E.1 (1, 0))), (1, .ref (E.1 (3, k))), (2, .int x2)]) 3 dX5_readInto_43 rfl (by rw [ev9]; rfl) (by decide) rfl ?_
  refine j_goto (pc := 46) (tgt := 8) dX5_readInto_46 (by decide) ?_
  exact j_sub [1, 2, 3, 0] rfl (H8 h)
def bX5_readInto_8 (k : Nat) (q8 : jS → Int32 → Int32 → Option (Int32 × jS)) (S : jS) (x2 : Int32) (x3 : Int32) : Option (Int32 × jS) :=
  (if (S.1 (0, 0)) ≤ x3 then (if (S.1 (0, 0)) ≤ x2 then some ((-4 : Int32), S) else some (x2, S)) else if jIn x3 200 then (if (S.2 (10, 0) x3.toNatClampNeg) = (59 : Int32) then (fX5_readItem k S x2 x3).bind fun y6 => (if y6.1 = 0 then some (x2, y6.2) else jlet (x3 + (1 : Int32)) fun v8 => bX5_readInto_43 k q8 (y6.2) v8 x3) else bX5_readInto_43 k q8 S x2 x3) else none)
set_option maxRecDepth 10000 in
set_option maxHeartbeats 4000000 in
theorem lX5_readInto_8 {E : jE} (hC : jHC E) {k : Nat} (hk : k < 6) {q8 : jS → Int32 → Int32 → Option (Int32 × jS)} (H8 : ∀ {S : jS} {x2 : Int32} {x3 : Int32} {r : (Int32 × jS)}, q8 S x2 x3 = some r → JR E 6 mX5_readInto 8 [(0, .ref (E.1 (1, 0))), (1, .ref (E.1 (3, k))), (2, .int x2), (3, .int x3)] [] S [.int r.1] r.2) {S : jS} {x2 : Int32} {x3 : Int32} {r : (Int32 × jS)} (h : bX5_readInto_8 k q8 S x2 x3 = some r) : JR E 6 mX5_readInto 8 [(0, .ref (E.1 (1, 0))), (1, .ref (E.1 (3, k))), (2, .int x2), (3, .int x3)] [] S [.int r.1] r.2 := by
  unfold bX5_readInto_8 at h
  refine j_iload_n (pc := 8) 3 dX5_readInto_8 rfl rfl ?_
  refine j_aload_n (pc := 9) 0 dX5_readInto_9 rfl rfl ?_
  refine jg_1_0 (pc := 10) dX5_readInto_10 (hC (1, 0) rfl) tw_101 ?_
  refine j_icmp_ge (pc := 13) (tgt := 49) dX5_readInto_13 (by decide) (fun c2 => ?_) (fun c2 => ?_)
  · replace h := jite_t h c2
    refine j_iload_n (pc := 49) 2 dX5_readInto_49 rfl rfl ?_
    refine j_aload_n (pc := 50) 0 dX5_readInto_50 rfl rfl ?_
    refine jg_1_0 (pc := 51) dX5_readInto_51 (hC (1, 0) rfl) tw_101 ?_
    refine j_icmp_ge (pc := 54) (tgt := 61) dX5_readInto_54 (by decide) (fun c3 => ?_) (fun c3 => ?_)
    · replace h := jite_t h c3
      refine j_bipush (pc := 61) dX5_readInto_61 jcb_m4 ?_
      cases h
      exact j_iret (pc := 63) dX5_readInto_63 rfl rfl
    · replace h := jite_f h c3
      refine j_iload_n (pc := 57) 2 dX5_readInto_57 rfl rfl ?_
      refine j_goto (pc := 58) (tgt := 63) dX5_readInto_58 (by decide) ?_
      cases h
      exact j_iret (pc := 63) dX5_readInto_63 rfl rfl
  · replace h := jite_f h c2
    refine j_aload_n (pc := 16) 0 dX5_readInto_16 rfl rfl ?_
    refine jg_1_1 (pc := 17) dX5_readInto_17 (hC (1, 0) rfl) tw_102 ?_
    refine j_iload_n (pc := 20) 3 dX5_readInto_20 rfl rfl ?_
    obtain ⟨c4, h⟩ := jchk h
    refine j_ca (pc := 21) dX5_readInto_21 (hC (10, 0) rfl) c4 ?_
    refine j_bipush (pc := 22) dX5_readInto_22 jcb_59 ?_
    refine j_icmp_ne (pc := 24) (tgt := 43) dX5_readInto_24 (by decide) (fun c5 => ?_) (fun c5 => ?_)
    · replace h := jite_f h c5
      exact j_sub [0, 1, 2, 3] rfl (lX5_readInto_43 hC hk H8 h)
    · replace h := jite_t h c5
      refine j_aload_n (pc := 27) 0 dX5_readInto_27 rfl rfl ?_
      refine j_aload_n (pc := 28) 1 dX5_readInto_28 rfl rfl ?_
      refine j_iload_n (pc := 29) 2 dX5_readInto_29 rfl rfl ?_
      refine j_iload_n (pc := 30) 3 dX5_readInto_30 rfl rfl ?_
      obtain ⟨y6, hy6, h⟩ := jbnd h
      refine j_callV (pc := 31) (N := mX5_readItem) (rr := (1, 0)) (As := [.ref (E.1 (3, k)), .int x2, .int x3]) (rest := []) (v := [.int y6.1]) (S1 := y6.2) dX5_readInto_31 (kX5_readItem hC hk hy6) (by simp) (by decide) okX5_readItem tw_380 tw_1 tw_378 (hC (1, 0) rfl) rfl rfl rfl rfl (by simp [Value.category]) ?_
      refine j_if_ne (pc := 34) (tgt := 39) dX5_readInto_34 (by decide) (fun c7 => ?_) (fun c7 => ?_)
      · replace h := jite_f h c7
        refine j_iload_n (pc := 39) 3 dX5_readInto_39 rfl rfl ?_
        refine j_iconst (pc := 40) dX5_readInto_40 jci_1 ?_
        refine j_iadd (pc := 41) dX5_readInto_41 ?_
        obtain ⟨v8, ev8, h⟩ := jlk h
        refine j_topi ev8 ?_
        refine j_istore_n (pc := 42) (lv' := [(2, .int v8), (0, .ref (E.1 (1, 0))), (1, .ref (E.1 (3, k))), (3, .int x3)]) dX5_readInto_42 rfl (by decide) rfl ?_
        exact j_sub [1, 2, 0, 3] rfl (lX5_readInto_43 hC hk H8 h)
      · replace h := jite_t h c7
        refine j_iload_n (pc := 37) 2 dX5_readInto_37 rfl rfl ?_
        cases h
        exact j_iret (pc := 38) dX5_readInto_38 rfl rfl
def fX5_readInto_8 (k : Nat) : Nat → jS → Int32 → Int32 → Option (Int32 × jS)
  | 0 => fun _ _ _ => none
  | n + 1 => bX5_readInto_8 k (fX5_readInto_8 k n)
theorem kX5_readInto_8 {E : jE} (hC : jHC E) {k : Nat} (hk : k < 6) (fu : Nat) : ∀ {S : jS} {x2 : Int32} {x3 : Int32} {r : (Int32 × jS)}, fX5_readInto_8 k fu S x2 x3 = some r → JR E 6 mX5_readInto 8 [(0, .ref (E.1 (1, 0))), (1, .ref (E.1 (3, k))), (2, .int x2), (3, .int x3)] [] S [.int r.1] r.2 := by
  induction fu with
  | zero => intro S x2 x3 r h; cases h
  | succ n_ ih => intro S x2 x3 r h; exact lX5_readInto_8 hC hk ih h
def fX5_readInto (k : Nat) (S : jS) : Option (Int32 × jS) :=
  (fX2_clear k S).bind fun y1 => fX5_readInto_8 k 5000 y1 (0 : Int32) (0 : Int32)
set_option maxRecDepth 10000 in
set_option maxHeartbeats 4000000 in
theorem kX5_readInto {E : jE} (hC : jHC E) {k : Nat} (hk : k < 6) {S : jS} {r : (Int32 × jS)} (h : fX5_readInto k S = some r) : jMR E 6 mX5_readInto [.ref (E.1 (1, 0)), .ref (E.1 (3, k))] S [.int r.1] r.2 := by
  refine ⟨Nat.le_of_ble_eq_true rfl, ?_⟩
  show JR E 6 mX5_readInto 0 [(0, .ref (E.1 (1, 0))), (1, .ref (E.1 (3, k)))] [] S [.int r.1] r.2
  unfold fX5_readInto at h
  refine j_aload_n (pc := 0) 1 dX5_readInto_0 rfl rfl ?_
  obtain ⟨y1, hy1, h⟩ := jbnd h
  refine j_callV (pc := 1) (N := mX2_clear) (rr := (3, k)) (As := []) (rest := []) (v := []) (S1 := y1) dX5_readInto_1 (kX2_clear hC hk hy1) (by simp) (by decide) okX2_clear tw_372 tw_373 tw_371 (hC (3, k) (decide_eq_true hk)) rfl rfl rfl rfl (by simp [Value.category]) ?_
  refine j_iconst (pc := 4) dX5_readInto_4 jci_0 ?_
  refine j_istore_n (pc := 5) (lv' := [(2, .int (0 : Int32)), (0, .ref (E.1 (1, 0))), (1, .ref (E.1 (3, k)))]) dX5_readInto_5 rfl (by decide) rfl ?_
  refine j_iconst (pc := 6) dX5_readInto_6 jci_0 ?_
  refine j_istore_n (pc := 7) (lv' := [(3, .int (0 : Int32)), (2, .int (0 : Int32)), (0, .ref (E.1 (1, 0))), (1, .ref (E.1 (3, k)))]) dX5_readInto_7 rfl (by decide) rfl ?_
  exact j_sub [2, 3, 1, 0] rfl (kX5_readInto_8 hC hk 5000 h)
