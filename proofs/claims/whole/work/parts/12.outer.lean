abbrev mX7_write : jM := (yX7_write, cX7_write, 2, (some .int))
theorem okX7_write : jOK mX7_write 1 := ⟨by decide +kernel, tw_501, tw_69, by decide +kernel, by decide, by decide⟩
def fX7_write  (S : jS) (x1 : Int32) : Option (Int32 × jS) :=
  (fX7_within S x1 (32 : Int32) (126 : Int32)).bind fun y1 => (if y1.1 = 0 then some ((-1 : Int32), y1.2) else (if (y1.2.1 (0, 0)) < (200 : Int32) then (fX5_append y1.2 ((x1.toUInt32 % 65536).toInt32)).bind fun y4 => some (y4.1 (0, 0), y4) else some ((-3 : Int32), y1.2)))
set_option maxRecDepth 10000 in
set_option maxHeartbeats 4000000 in
theorem kX7_write {E : jE} (hC : jHC E) {S : jS} {x1 : Int32} {r : (Int32 × jS)} (h : fX7_write  S x1 = some r) : jMR E 2 mX7_write [.ref (E.1 (0, 0)), .int x1] S [.int r.1] r.2 := by
  refine ⟨Nat.le_of_ble_eq_true rfl, ?_⟩
  show JR E 2 mX7_write 0 [(0, .ref (E.1 (0, 0))), (1, .int x1)] [] S [.int r.1] r.2
  unfold fX7_write at h
  refine j_iload_n (pc := 0) 1 dX7_write_0 rfl rfl ?_
  refine j_bipush (pc := 1) dX7_write_1 jcb_32 ?_
  refine j_bipush (pc := 3) dX7_write_3 jcb_126 ?_
  obtain ⟨y1, hy1, h⟩ := jbnd h
  refine j_callS (pc := 5) (N := mX7_within) (As := [.int x1, .int (32 : Int32), .int (126 : Int32)]) (rest := []) (v := [.int y1.1]) (S1 := y1.2) dX7_write_5 (kX7_within hC hy1) (by simp) (by decide) okX7_within tw_398 tw_502 rfl rfl (by simp [Value.category]) ?_
  refine j_if_ne (pc := 8) (tgt := 13) dX7_write_8 (by decide) (fun c2 => ?_) (fun c2 => ?_)
  · replace h := jite_f h c2
    refine j_aload_n (pc := 13) 0 dX7_write_13 rfl rfl ?_
    refine jg_0_0 (pc := 14) dX7_write_14 (hC (0, 0) rfl) tw_478 ?_
    refine jg_1_0 (pc := 17) dX7_write_17 (hC (1, 0) rfl) tw_100 ?_
    refine j_sipush (pc := 20) dX7_write_20 jcs_200 ?_
    refine j_icmp_lt (pc := 23) (tgt := 29) dX7_write_23 (by decide) (fun c3 => ?_) (fun c3 => ?_)
    · replace h := jite_t h c3
      refine j_aload_n (pc := 29) 0 dX7_write_29 rfl rfl ?_
      refine jg_0_0 (pc := 30) dX7_write_30 (hC (0, 0) rfl) tw_478 ?_
      refine j_iload_n (pc := 33) 1 dX7_write_33 rfl rfl ?_
      refine j_i2c (pc := 34) dX7_write_34 ?_
      obtain ⟨y4, hy4, h⟩ := jbnd h
      refine j_callV (pc := 35) (N := mX5_append) (rr := (1, 0)) (As := [.int ((x1.toUInt32 % 65536).toInt32)]) (rest := []) (v := []) (S1 := y4) dX7_write_35 (kX5_append hC hy4) (by simp) (by decide) okX5_append tw_360 tw_361 tw_359 (hC (1, 0) rfl) rfl rfl rfl rfl (by simp [Value.category]) ?_
      refine j_aload_n (pc := 38) 0 dX7_write_38 rfl rfl ?_
      refine jg_0_0 (pc := 39) dX7_write_39 (hC (0, 0) rfl) tw_478 ?_
      refine jg_1_0 (pc := 42) dX7_write_42 (hC (1, 0) rfl) tw_100 ?_
      cases h
      exact j_iret (pc := 45) dX7_write_45 rfl rfl
    · replace h := jite_f h c3
      refine j_bipush (pc := 26) dX7_write_26 jcb_m3 ?_
      cases h
      exact j_iret (pc := 28) dX7_write_28 rfl rfl
  · replace h := jite_t h c2
    refine j_iconst (pc := 11) dX7_write_11 jci_m1 ?_
    cases h
    exact j_iret (pc := 12) dX7_write_12 rfl rfl
abbrev mX7_wipe : jM := (yX7_wipe, cX7_wipe, 2, (some .int))
theorem okX7_wipe : jOK mX7_wipe 0 := ⟨by decide +kernel, tw_506, tw_69, by decide +kernel, by decide, by decide⟩
def fX7_wipe  (S : jS) : Option (Int32 × jS) :=
  jlet (S.1 (0, 0)) fun v1 => jlet (jset S (0, 0) (0 : Int32)) fun S2 => some (v1, S2)
set_option maxRecDepth 10000 in
set_option maxHeartbeats 4000000 in
theorem kX7_wipe {E : jE} (hC : jHC E) {S : jS} {r : (Int32 × jS)} (h : fX7_wipe  S = some r) : jMR E 1 mX7_wipe [.ref (E.1 (0, 0))] S [.int r.1] r.2 := by
  refine ⟨Nat.le_of_ble_eq_true rfl, ?_⟩
  show JR E 1 mX7_wipe 0 [(0, .ref (E.1 (0, 0)))] [] S [.int r.1] r.2
  unfold fX7_wipe at h
  refine j_aload_n (pc := 0) 0 dX7_wipe_0 rfl rfl ?_
  refine jg_0_0 (pc := 1) dX7_wipe_1 (hC (0, 0) rfl) tw_478 ?_
  refine jg_1_0 (pc := 4) dX7_wipe_4 (hC (1, 0) rfl) tw_100 ?_
  obtain ⟨v1, ev1, h⟩ := jlk h
  refine j_topi ev1 ?_
  refine j_istore_n (pc := 7) (lv' := [(1, .int v1), (0, .ref (E.1 (0, 0)))]) dX7_wipe_7 rfl (by decide) rfl ?_
  refine j_aload_n (pc := 8) 1 dX7_wipe_8 rfl rfl ?_
  refine jg_0_0 (pc := 9) dX7_wipe_9 (hC (0, 0) rfl) tw_478 ?_
  refine j_iconst (pc := 12) dX7_wipe_12 jci_0 ?_
  obtain ⟨S2, eS2, h⟩ := jlk h
  refine jp_0 (pc := 13) dX7_wipe_13 (hC (1, 0) rfl) tw_100 eS2 ?_
  refine j_iload_n (pc := 16) 0 dX7_wipe_16 rfl rfl ?_
  cases h
  exact j_iret (pc := 17) dX7_wipe_17 rfl rfl
abbrev mX7_fault : jM := (yX7_fault, cX7_fault, 1, (some .int))
theorem okX7_fault : jOK mX7_fault 0 := ⟨by decide +kernel, tw_510, tw_69, by decide +kernel, by decide, by decide⟩
def fX7_fault  (S : jS) : Option (Int32 × jS) :=
  (fX5_readInto 1 S).bind fun y1 => some (y1.1, y1.2)
set_option maxRecDepth 10000 in
set_option maxHeartbeats 4000000 in
theorem kX7_fault {E : jE} (hC : jHC E) {S : jS} {r : (Int32 × jS)} (h : fX7_fault  S = some r) : jMR E 7 mX7_fault [.ref (E.1 (0, 0))] S [.int r.1] r.2 := by
  refine ⟨Nat.le_of_ble_eq_true rfl, ?_⟩
  show JR E 7 mX7_fault 0 [(0, .ref (E.1 (0, 0)))] [] S [.int r.1] r.2
  unfold fX7_fault at h
  refine j_aload_n (pc := 0) 0 dX7_fault_0 rfl rfl ?_
  refine jg_0_0 (pc := 1) dX7_fault_1 (hC (0, 0) rfl) tw_478 ?_
  refine j_aload_n (pc := 4) 0 dX7_fault_4 rfl rfl ?_
  refine jg_0_2 (pc := 5) dX7_fault_5 (hC (0, 0) rfl) tw_480 ?_
  refine jg_2_0 (pc := 8) dX7_fault_8 (hC (2, 1) rfl) tw_233 ?_
  obtain ⟨y1, hy1, h⟩ := jbnd h
  refine j_callV (pc := 11) (N := mX5_readInto) (rr := (1, 0)) (As := [.ref (E.1 (3, 1))]) (rest := []) (v := [.int y1.1]) (S1 := y1.2) dX7_fault_11 (kX5_readInto hC (by decide) hy1) (by simp) (by decide) okX5_readInto tw_368 tw_369 tw_367 (hC (1, 0) rfl) rfl rfl rfl rfl (by simp [Value.category]) ?_
  cases h
  exact j_iret (pc := 14) dX7_fault_14 rfl rfl
abbrev mX7_layText : jM := (yX7_layText, cX7_layText, 1, (some .boolean))
theorem okX7_layText : jOK mX7_layText 0 := ⟨by decide +kernel, tw_366, tw_69, by decide +kernel, by decide, by decide⟩
def fX7_layText  (S : jS) : Option (Int32 × jS) :=
  (fX5_readInto 1 S).bind fun y1 => (if y1.1 = (-4 : Int32) then (if (y1.2.1 (2, 1)) = 0 then some ((0 : Int32), y1.2) else (fX2_copyFrom 0 1 y1.2).bind fun y4 => (fX2_findHops 0 y4).bind fun y5 => (fX4_clear 0 y5).bind fun y6 => (fX0_clear y6).bind fun y7 => some ((1 : Int32), y7)) else some ((0 : Int32), y1.2))
set_option maxRecDepth 10000 in
set_option maxHeartbeats 4000000 in
theorem kX7_layText {E : jE} (hC : jHC E) {S : jS} {r : (Int32 × jS)} (h : fX7_layText  S = some r) : jMR E 7 mX7_layText [.ref (E.1 (0, 0))] S [.int r.1] r.2 := by
  refine ⟨Nat.le_of_ble_eq_true rfl, ?_⟩
  show JR E 7 mX7_layText 0 [(0, .ref (E.1 (0, 0)))] [] S [.int r.1] r.2
  unfold fX7_layText at h
  refine j_aload_n (pc := 0) 0 dX7_layText_0 rfl rfl ?_
  refine jg_0_0 (pc := 1) dX7_layText_1 (hC (0, 0) rfl) tw_478 ?_
  refine j_aload_n (pc := 4) 0 dX7_layText_4 rfl rfl ?_
  refine jg_0_2 (pc := 5) dX7_layText_5 (hC (0, 0) rfl) tw_480 ?_
  refine jg_2_0 (pc := 8) dX7_layText_8 (hC (2, 1) rfl) tw_233 ?_
  obtain ⟨y1, hy1, h⟩ := jbnd h
  refine j_callV (pc := 11) (N := mX5_readInto) (rr := (1, 0)) (As := [.ref (E.1 (3, 1))]) (rest := []) (v := [.int y1.1]) (S1 := y1.2) dX7_layText_11 (kX5_readInto hC (by decide) hy1) (by simp) (by decide) okX5_readInto tw_368 tw_369 tw_367 (hC (1, 0) rfl) rfl rfl rfl rfl (by simp [Value.category]) ?_
  refine j_bipush (pc := 14) dX7_layText_14 jcb_m4 ?_
  refine j_icmp_ne (pc := 16) (tgt := 32) dX7_layText_16 (by decide) (fun c2 => ?_) (fun c2 => ?_)
  · replace h := jite_f h c2
    refine j_iconst (pc := 32) dX7_layText_32 jci_0 ?_
    cases h
    exact j_iret (pc := 33) dX7_layText_33 rfl rfl
  · replace h := jite_t h c2
    refine j_aload_n (pc := 19) 0 dX7_layText_19 rfl rfl ?_
    refine jg_0_2 (pc := 20) dX7_layText_20 (hC (0, 0) rfl) tw_480 ?_
    refine jg_2_0 (pc := 23) dX7_layText_23 (hC (2, 1) rfl) tw_233 ?_
    refine jg_3_1 (pc := 26) dX7_layText_26 (hC (3, 1) rfl) tw_131 ?_
    refine j_if_ne (pc := 29) (tgt := 34) dX7_layText_29 (by decide) (fun c3 => ?_) (fun c3 => ?_)
    · replace h := jite_f h c3
      refine j_aload_n (pc := 34) 0 dX7_layText_34 rfl rfl ?_
      refine jg_0_1 (pc := 35) dX7_layText_35 (hC (0, 0) rfl) tw_479 ?_
      refine jg_2_0 (pc := 38) dX7_layText_38 (hC (2, 0) rfl) tw_233 ?_
      refine j_aload_n (pc := 41) 0 dX7_layText_41 rfl rfl ?_
      refine jg_0_2 (pc := 42) dX7_layText_42 (hC (0, 0) rfl) tw_480 ?_
      refine jg_2_0 (pc := 45) dX7_layText_45 (hC (2, 1) rfl) tw_233 ?_
      obtain ⟨y4, hy4, h⟩ := jbnd h
      refine j_callV (pc := 48) (N := mX2_copyFrom) (rr := (3, 0)) (As := [.ref (E.1 (3, 1))]) (rest := []) (v := []) (S1 := y4) dX7_layText_48 (kX2_copyFrom hC (by decide) (by decide) hy4) (by simp) (by decide) okX2_copyFrom tw_452 tw_453 tw_451 (hC (3, 0) rfl) rfl rfl rfl rfl (by simp [Value.category]) ?_
      refine j_aload_n (pc := 51) 0 dX7_layText_51 rfl rfl ?_
      refine jg_0_1 (pc := 52) dX7_layText_52 (hC (0, 0) rfl) tw_479 ?_
      refine jg_2_0 (pc := 55) dX7_layText_55 (hC (2, 0) rfl) tw_233 ?_
      obtain ⟨y5, hy5, h⟩ := jbnd h
      refine j_callV (pc := 58) (N := mX2_findHops) (rr := (3, 0)) (As := []) (rest := []) (v := []) (S1 := y5) dX7_layText_58 (kX2_findHops hC (by decide) hy5) (by simp) (by decide) okX2_findHops tw_459 tw_460 tw_458 (hC (3, 0) rfl) rfl rfl rfl rfl (by simp [Value.category]) ?_
      refine j_aload_n (pc := 61) 0 dX7_layText_61 rfl rfl ?_
      refine jg_0_1 (pc := 62) dX7_layText_62 (hC (0, 0) rfl) tw_479 ?_
      refine jg_2_1 (pc := 65) dX7_layText_65 (hC (2, 0) rfl) tw_237 ?_
      obtain ⟨y6, hy6, h⟩ := jbnd h
      refine j_callV (pc := 68) (N := mX4_clear) (rr := (4, 0)) (As := []) (rest := []) (v := []) (S1 := y6) dX7_layText_68 (kX4_clear hC (by decide) hy6) (by simp) (by decide) okX4_clear tw_470 tw_471 tw_469 (hC (4, 0) rfl) rfl rfl rfl rfl (by simp [Value.category]) ?_
      refine j_aload_n (pc := 71) 0 dX7_layText_71 rfl rfl ?_
      refine jg_0_3 (pc := 72) dX7_layText_72 (hC (0, 0) rfl) tw_481 ?_
      obtain ⟨y7, hy7, h⟩ := jbnd h
      refine j_callV (pc := 75) (N := mX0_clear) (rr := (5, 0)) (As := []) (rest := []) (v := []) (S1 := y7) dX7_layText_75 (kX0_clear hC hy7) (by simp) (by decide) okX0_clear tw_475 tw_476 tw_474 (hC (5, 0) rfl) rfl rfl rfl rfl (by simp [Value.category]) ?_
      refine j_iconst (pc := 78) dX7_layText_78 jci_1 ?_
      cases h
      exact j_iret (pc := 79) dX7_layText_79 rfl rfl
    · replace h := jite_t h c3
      refine j_iconst (pc := 32) dX7_layText_32 jci_0 ?_
      cases h
      exact j_iret (pc := 33) dX7_layText_33 rfl rfl
abbrev mX7_lay : jM := (yX7_lay, cX7_lay, 1, (some .int))
theorem okX7_lay : jOK mX7_lay 0 := ⟨by decide +kernel, tw_514, tw_69, by decide +kernel, by decide, by decide⟩
def fX7_lay  (S : jS) : Option (Int32 × jS) :=
  (fX7_layText S).bind fun y1 => (if y1.1 = 0 then some ((-2 : Int32), y1.2) else some (y1.2.1 (1, 0), y1.2))
set_option maxRecDepth 10000 in
set_option maxHeartbeats 4000000 in
theorem kX7_lay {E : jE} (hC : jHC E) {S : jS} {r : (Int32 × jS)} (h : fX7_lay  S = some r) : jMR E 8 mX7_lay [.ref (E.1 (0, 0))] S [.int r.1] r.2 := by
  refine ⟨Nat.le_of_ble_eq_true rfl, ?_⟩
  show JR E 8 mX7_lay 0 [(0, .ref (E.1 (0, 0)))] [] S [.int r.1] r.2
  unfold fX7_lay at h
  refine j_aload_n (pc := 0) 0 dX7_lay_0 rfl rfl ?_
  obtain ⟨y1, hy1, h⟩ := jbnd h
  refine j_callV (pc := 1) (N := mX7_layText) (rr := (0, 0)) (As := []) (rest := []) (v := [.int y1.1]) (S1 := y1.2) dX7_lay_1 (kX7_layText hC hy1) (by simp) (by decide) okX7_layText tw_365 tw_0 tw_363 (hC (0, 0) rfl) rfl rfl rfl rfl (by simp [Value.category]) ?_
  refine j_if_eq (pc := 4) (tgt := 20) dX7_lay_4 (by decide) (fun c2 => ?_) (fun c2 => ?_)
  · replace h := jite_t h c2
    refine j_bipush (pc := 20) dX7_lay_20 jcb_m2 ?_
    cases h
    exact j_iret (pc := 22) dX7_lay_22 rfl rfl
  · replace h := jite_f h c2
    refine j_aload_n (pc := 7) 0 dX7_lay_7 rfl rfl ?_
    refine jg_0_1 (pc := 8) dX7_lay_8 (hC (0, 0) rfl) tw_479 ?_
    refine jg_2_0 (pc := 11) dX7_lay_11 (hC (2, 0) rfl) tw_233 ?_
    refine jg_3_0 (pc := 14) dX7_lay_14 (hC (3, 0) rfl) tw_127 ?_
    refine j_goto (pc := 17) (tgt := 22) dX7_lay_17 (by decide) ?_
    cases h
    exact j_iret (pc := 22) dX7_lay_22 rfl rfl
abbrev mX7_feed : jM := (yX7_feed, cX7_feed, 5, (some .int))
theorem okX7_feed : jOK mX7_feed 3 := ⟨by decide +kernel, tw_518, tw_69, by decide +kernel, by decide, by decide⟩
def fX7_feed  (S : jS) (x1 : Int32) (x2 : Int32) (x3 : Int32) : Option (Int32 × jS) :=
  (fX2_hasQueue 0 S x1 x2).bind fun y1 => (if y1.1 = 0 then some ((-1 : Int32), y1.2) else (fX7_within y1.2 x3 (0 : Int32) (9 : Int32)).bind fun y3 => (if y3.1 = 0 then some ((-1 : Int32), y3.2) else (fX7_spot y3.2 x1 x2).bind fun y5 => if jIn y5.1 18 then jlet (y5.2.2 (25, 0) y5.1.toNatClampNeg) fun v7 => (if v7 = x3 then some ((-2 : Int32), y5.2) else (fX0_keep 0 y5.2).bind fun y9 => (fX7_spot y9 x1 x2).bind fun y10 => if jIn y10.1 18 then jlet (jput y10.2 (25, 0) (upd (y10.2.2 (25, 0)) y10.1.toNatClampNeg x3)) fun S12 => some (v7, S12) else none) else none))
set_option maxRecDepth 10000 in
set_option maxHeartbeats 4000000 in
theorem kX7_feed {E : jE} (hC : jHC E) {S : jS} {x1 : Int32} {x2 : Int32} {x3 : Int32} {r : (Int32 × jS)} (h : fX7_feed  S x1 x2 x3 = some r) : jMR E 4 mX7_feed [.ref (E.1 (0, 0)), .int x1, .int x2, .int x3] S [.int r.1] r.2 := by
  refine ⟨Nat.le_of_ble_eq_true rfl, ?_⟩
  show JR E 4 mX7_feed 0 [(0, .ref (E.1 (0, 0))), (1, .int x1), (2, .int x2), (3, .int x3)] [] S [.int r.1] r.2
  unfold fX7_feed at h
  refine j_aload_n (pc := 0) 0 dX7_feed_0 rfl rfl ?_
  refine jg_0_1 (pc := 1) dX7_feed_1 (hC (0, 0) rfl) tw_479 ?_
  refine jg_2_0 (pc := 4) dX7_feed_4 (hC (2, 0) rfl) tw_233 ?_
  refine j_iload_n (pc := 7) 1 dX7_feed_7 rfl rfl ?_
  refine j_iload_n (pc := 8) 2 dX7_feed_8 rfl rfl ?_
  obtain ⟨y1, hy1, h⟩ := jbnd h
  refine j_callV (pc := 9) (N := mX2_hasQueue) (rr := (3, 0)) (As := [.int x1, .int x2]) (rest := []) (v := [.int y1.1]) (S1 := y1.2) dX7_feed_9 (kX2_hasQueue hC (by decide) hy1) (by simp) (by decide) okX2_hasQueue tw_433 tw_434 tw_519 (hC (3, 0) rfl) rfl rfl rfl rfl (by simp [Value.category]) ?_
  refine j_if_eq (pc := 12) (tgt := 25) dX7_feed_12 (by decide) (fun c2 => ?_) (fun c2 => ?_)
  · replace h := jite_t h c2
    refine j_iconst (pc := 25) dX7_feed_25 jci_m1 ?_
    cases h
    exact j_iret (pc := 26) dX7_feed_26 rfl rfl
  · replace h := jite_f h c2
    refine j_iload_n (pc := 15) 3 dX7_feed_15 rfl rfl ?_
    refine j_iconst (pc := 16) dX7_feed_16 jci_0 ?_
    refine j_bipush (pc := 17) dX7_feed_17 jcb_9 ?_
    obtain ⟨y3, hy3, h⟩ := jbnd h
    refine j_callS (pc := 19) (N := mX7_within) (As := [.int x3, .int (0 : Int32), .int (9 : Int32)]) (rest := []) (v := [.int y3.1]) (S1 := y3.2) dX7_feed_19 (kX7_within hC hy3) (by simp) (by decide) okX7_within tw_398 tw_502 rfl rfl (by simp [Value.category]) ?_
    refine j_if_ne (pc := 22) (tgt := 27) dX7_feed_22 (by decide) (fun c4 => ?_) (fun c4 => ?_)
    · replace h := jite_f h c4
      refine j_aload_n (pc := 27) 0 dX7_feed_27 rfl rfl ?_
      refine jg_0_1 (pc := 28) dX7_feed_28 (hC (0, 0) rfl) tw_479 ?_
      refine jg_2_0 (pc := 31) dX7_feed_31 (hC (2, 0) rfl) tw_233 ?_
      refine jg_3_10 (pc := 34) dX7_feed_34 (hC (3, 0) rfl) tw_162 ?_
      refine j_iload_n (pc := 37) 1 dX7_feed_37 rfl rfl ?_
      refine j_iload_n (pc := 38) 2 dX7_feed_38 rfl rfl ?_
      obtain ⟨y5, hy5, h⟩ := jbnd h
      refine j_callS (pc := 39) (N := mX7_spot) (As := [.int x1, .int x2]) (rest := [.ref (E.1 (25, 0))]) (v := [.int y5.1]) (S1 := y5.2) dX7_feed_39 (kX7_spot hC hy5) (by simp) (by decide) okX7_spot tw_441 tw_520 rfl rfl (by simp [Value.category]) ?_
      obtain ⟨c6, h⟩ := jchk h
      refine j_ia (pc := 42) dX7_feed_42 rfl (hC (25, 0) rfl) c6 ?_
      obtain ⟨v7, ev7, h⟩ := jlk h
      refine j_topi ev7 ?_
      refine j_istore (pc := 43) (lv' := [(4, .int v7), (0, .ref (E.1 (0, 0))), (1, .int x1), (2, .int x2), (3, .int x3)]) dX7_feed_43 (by decide) rfl ?_
      refine j_iload (pc := 45) 0 dX7_feed_45 rfl ?_
      refine j_iload_n (pc := 47) 4 dX7_feed_47 rfl rfl ?_
      refine j_icmp_ne (pc := 48) (tgt := 54) dX7_feed_48 (by decide) (fun c8 => ?_) (fun c8 => ?_)
      · replace h := jite_f h c8
        refine j_aload_n (pc := 54) 1 dX7_feed_54 rfl rfl ?_
        refine jg_0_3 (pc := 55) dX7_feed_55 (hC (0, 0) rfl) tw_481 ?_
        refine j_aload_n (pc := 58) 1 dX7_feed_58 rfl rfl ?_
        refine jg_0_1 (pc := 59) dX7_feed_59 (hC (0, 0) rfl) tw_479 ?_
        obtain ⟨y9, hy9, h⟩ := jbnd h
        refine j_callV (pc := 62) (N := mX0_keep) (rr := (5, 0)) (As := [.ref (E.1 (2, 0))]) (rest := []) (v := []) (S1 := y9) dX7_feed_62 (kX0_keep hC (by decide) hy9) (by simp) (by decide) okX0_keep tw_522 tw_523 tw_521 (hC (5, 0) rfl) rfl rfl rfl rfl (by simp [Value.category]) ?_
        refine j_aload_n (pc := 65) 1 dX7_feed_65 rfl rfl ?_
        refine jg_0_1 (pc := 66) dX7_feed_66 (hC (0, 0) rfl) tw_479 ?_
        refine jg_2_0 (pc := 69) dX7_feed_69 (hC (2, 0) rfl) tw_233 ?_
        refine jg_3_10 (pc := 72) dX7_feed_72 (hC (3, 0) rfl) tw_162 ?_
        refine j_iload_n (pc := 75) 2 dX7_feed_75 rfl rfl ?_
        refine j_iload_n (pc := 76) 3 dX7_feed_76 rfl rfl ?_
        obtain ⟨y10, hy10, h⟩ := jbnd h
        refine j_callS (pc := 77) (N := mX7_spot) (As := [.int x1, .int x2]) (rest := [.ref (E.1 (25, 0))]) (v := [.int y10.1]) (S1 := y10.2) dX7_feed_77 (kX7_spot hC hy10) (by simp) (by decide) okX7_spot tw_441 tw_520 rfl rfl (by simp [Value.category]) ?_
        refine j_iload_n (pc := 80) 4 dX7_feed_80 rfl rfl ?_
        obtain ⟨c11, h⟩ := jchk h
        obtain ⟨S12, eS12, h⟩ := jlk h
        refine j_is (pc := 81) dX7_feed_81 rfl (hC (25, 0) rfl) c11 eS12 ?_
        refine j_iload (pc := 82) 0 dX7_feed_82 rfl ?_
        cases h
        exact j_iret (pc := 84) dX7_feed_84 rfl rfl
      · replace h := jite_t h c8
        refine j_bipush (pc := 51) dX7_feed_51 jcb_m2 ?_
        cases h
        exact j_iret (pc := 53) dX7_feed_53 rfl rfl
    · replace h := jite_t h c4
      refine j_iconst (pc := 25) dX7_feed_25 jci_m1 ?_
      cases h
      exact j_iret (pc := 26) dX7_feed_26 rfl rfl
abbrev mX7_room : jM := (yX7_room, cX7_room, 4, (some .int))
theorem okX7_room : jOK mX7_room 2 := ⟨by decide +kernel, tw_539, tw_69, by decide +kernel, by decide, by decide⟩
def fX7_room  (S : jS) (x1 : Int32) (x2 : Int32) : Option (Int32 × jS) :=
  (fX2_hasLink 0 S x1).bind fun y1 => (if y1.1 = 0 then some ((-1 : Int32), y1.2) else (fX7_within y1.2 x2 (1 : Int32) (9 : Int32)).bind fun y3 => (if y3.1 = 0 then some ((-1 : Int32), y3.2) else if jIn x1 10 then jlet (y3.2.2 (23, 0) x1.toNatClampNeg) fun v6 => (if v6 = x2 then some ((-2 : Int32), y3.2) else (fX0_keep 0 y3.2).bind fun y8 => if jIn x1 10 then jlet (jput y8 (23, 0) (upd (y8.2 (23, 0)) x1.toNatClampNeg x2)) fun S10 => some (v6, S10) else none) else none))
set_option maxRecDepth 10000 in
set_option maxHeartbeats 4000000 in
theorem kX7_room {E : jE} (hC : jHC E) {S : jS} {x1 : Int32} {x2 : Int32} {r : (Int32 × jS)} (h : fX7_room  S x1 x2 = some r) : jMR E 4 mX7_room [.ref (E.1 (0, 0)), .int x1, .int x2] S [.int r.1] r.2 := by
  refine ⟨Nat.le_of_ble_eq_true rfl, ?_⟩
  show JR E 4 mX7_room 0 [(0, .ref (E.1 (0, 0))), (1, .int x1), (2, .int x2)] [] S [.int r.1] r.2
  unfold fX7_room at h
  refine j_aload_n (pc := 0) 0 dX7_room_0 rfl rfl ?_
  refine jg_0_1 (pc := 1) dX7_room_1 (hC (0, 0) rfl) tw_479 ?_
  refine jg_2_0 (pc := 4) dX7_room_4 (hC (2, 0) rfl) tw_233 ?_
  refine j_iload_n (pc := 7) 1 dX7_room_7 rfl rfl ?_
  obtain ⟨y1, hy1, h⟩ := jbnd h
  refine j_callV (pc := 8) (N := mX2_hasLink) (rr := (3, 0)) (As := [.int x1]) (rest := []) (v := [.int y1.1]) (S1 := y1.2) dX7_room_8 (kX2_hasLink hC (by decide) hy1) (by simp) (by decide) okX2_hasLink tw_417 tw_418 tw_540 (hC (3, 0) rfl) rfl rfl rfl rfl (by simp [Value.category]) ?_
  refine j_if_eq (pc := 11) (tgt := 24) dX7_room_11 (by decide) (fun c2 => ?_) (fun c2 => ?_)
  · replace h := jite_t h c2
    refine j_iconst (pc := 24) dX7_room_24 jci_m1 ?_
    cases h
    exact j_iret (pc := 25) dX7_room_25 rfl rfl
  · replace h := jite_f h c2
    refine j_iload_n (pc := 14) 2 dX7_room_14 rfl rfl ?_
    refine j_iconst (pc := 15) dX7_room_15 jci_1 ?_
    refine j_bipush (pc := 16) dX7_room_16 jcb_9 ?_
    obtain ⟨y3, hy3, h⟩ := jbnd h
    refine j_callS (pc := 18) (N := mX7_within) (As := [.int x2, .int (1 : Int32), .int (9 : Int32)]) (rest := []) (v := [.int y3.1]) (S1 := y3.2) dX7_room_18 (kX7_within hC hy3) (by simp) (by decide) okX7_within tw_398 tw_502 rfl rfl (by simp [Value.category]) ?_
    refine j_if_ne (pc := 21) (tgt := 26) dX7_room_21 (by decide) (fun c4 => ?_) (fun c4 => ?_)
    · replace h := jite_f h c4
      refine j_aload_n (pc := 26) 0 dX7_room_26 rfl rfl ?_
      refine jg_0_1 (pc := 27) dX7_room_27 (hC (0, 0) rfl) tw_479 ?_
      refine jg_2_0 (pc := 30) dX7_room_30 (hC (2, 0) rfl) tw_233 ?_
      refine jg_3_8 (pc := 33) dX7_room_33 (hC (3, 0) rfl) tw_156 ?_
      refine j_iload_n (pc := 36) 1 dX7_room_36 rfl rfl ?_
      obtain ⟨c5, h⟩ := jchk h
      refine j_ia (pc := 37) dX7_room_37 rfl (hC (23, 0) rfl) c5 ?_
      obtain ⟨v6, ev6, h⟩ := jlk h
      refine j_topi ev6 ?_
      refine j_istore_n (pc := 38) (lv' := [(3, .int v6), (0, .ref (E.1 (0, 0))), (1, .int x1), (2, .int x2)]) dX7_room_38 rfl (by decide) rfl ?_
      refine j_iload_n (pc := 39) 0 dX7_room_39 rfl rfl ?_
      refine j_iload_n (pc := 40) 3 dX7_room_40 rfl rfl ?_
      refine j_icmp_ne (pc := 41) (tgt := 47) dX7_room_41 (by decide) (fun c7 => ?_) (fun c7 => ?_)
      · replace h := jite_f h c7
        refine j_aload_n (pc := 47) 1 dX7_room_47 rfl rfl ?_
        refine jg_0_3 (pc := 48) dX7_room_48 (hC (0, 0) rfl) tw_481 ?_
        refine j_aload_n (pc := 51) 1 dX7_room_51 rfl rfl ?_
        refine jg_0_1 (pc := 52) dX7_room_52 (hC (0, 0) rfl) tw_479 ?_
        obtain ⟨y8, hy8, h⟩ := jbnd h
        refine j_callV (pc := 55) (N := mX0_keep) (rr := (5, 0)) (As := [.ref (E.1 (2, 0))]) (rest := []) (v := []) (S1 := y8) dX7_room_55 (kX0_keep hC (by decide) hy8) (by simp) (by decide) okX0_keep tw_522 tw_523 tw_521 (hC (5, 0) rfl) rfl rfl rfl rfl (by simp [Value.category]) ?_
        refine j_aload_n (pc := 58) 1 dX7_room_58 rfl rfl ?_
        refine jg_0_1 (pc := 59) dX7_room_59 (hC (0, 0) rfl) tw_479 ?_
        refine jg_2_0 (pc := 62) dX7_room_62 (hC (2, 0) rfl) tw_233 ?_
        refine jg_3_8 (pc := 65) dX7_room_65 (hC (3, 0) rfl) tw_156 ?_
        refine j_iload_n (pc := 68) 2 dX7_room_68 rfl rfl ?_
        refine j_iload_n (pc := 69) 3 dX7_room_69 rfl rfl ?_
        obtain ⟨c9, h⟩ := jchk h
        obtain ⟨S10, eS10, h⟩ := jlk h
        refine j_is (pc := 70) dX7_room_70 rfl (hC (23, 0) rfl) c9 eS10 ?_
        refine j_iload_n (pc := 71) 0 dX7_room_71 rfl rfl ?_
        cases h
        exact j_iret (pc := 72) dX7_room_72 rfl rfl
      · replace h := jite_t h c7
        refine j_bipush (pc := 44) dX7_room_44 jcb_m2 ?_
        cases h
        exact j_iret (pc := 46) dX7_room_46 rfl rfl
    · replace h := jite_t h c4
      refine j_iconst (pc := 24) dX7_room_24 jci_m1 ?_
      cases h
      exact j_iret (pc := 25) dX7_room_25 rfl rfl
abbrev mX7_tellB : jM := (yX7_tellB, cX7_tellB, 3, (some .int))
theorem okX7_tellB : jOK mX7_tellB 1 := ⟨by decide +kernel, tw_552, tw_69, by decide +kernel, by decide, by decide⟩
def fX7_tellB  (S : jS) (x1 : Int32) : Option (Int32 × jS) :=
  (fX7_within S x1 (0 : Int32) (9 : Int32)).bind fun y1 => (if y1.1 = 0 then some ((-1 : Int32), y1.2) else jlet (y1.2.1 (5, 0)) fun v3 => (if v3 = x1 then some ((-2 : Int32), y1.2) else (fX0_keep 0 y1.2).bind fun y5 => jlet (jset y5 (5, 0) x1) fun S6 => some (v3, S6)))
set_option maxRecDepth 10000 in
set_option maxHeartbeats 4000000 in
theorem kX7_tellB {E : jE} (hC : jHC E) {S : jS} {x1 : Int32} {r : (Int32 × jS)} (h : fX7_tellB  S x1 = some r) : jMR E 4 mX7_tellB [.ref (E.1 (0, 0)), .int x1] S [.int r.1] r.2 := by
  refine ⟨Nat.le_of_ble_eq_true rfl, ?_⟩
  show JR E 4 mX7_tellB 0 [(0, .ref (E.1 (0, 0))), (1, .int x1)] [] S [.int r.1] r.2
  unfold fX7_tellB at h
  refine j_iload_n (pc := 0) 1 dX7_tellB_0 rfl rfl ?_
  refine j_iconst (pc := 1) dX7_tellB_1 jci_0 ?_
  refine j_bipush (pc := 2) dX7_tellB_2 jcb_9 ?_
  obtain ⟨y1, hy1, h⟩ := jbnd h
  refine j_callS (pc := 4) (N := mX7_within) (As := [.int x1, .int (0 : Int32), .int (9 : Int32)]) (rest := []) (v := [.int y1.1]) (S1 := y1.2) dX7_tellB_4 (kX7_within hC hy1) (by simp) (by decide) okX7_within tw_398 tw_502 rfl rfl (by simp [Value.category]) ?_
  refine j_if_ne (pc := 7) (tgt := 12) dX7_tellB_7 (by decide) (fun c2 => ?_) (fun c2 => ?_)
  · replace h := jite_f h c2
    refine j_aload_n (pc := 12) 0 dX7_tellB_12 rfl rfl ?_
    refine jg_0_1 (pc := 13) dX7_tellB_13 (hC (0, 0) rfl) tw_479 ?_
    refine jg_2_0 (pc := 16) dX7_tellB_16 (hC (2, 0) rfl) tw_233 ?_
    refine jg_3_4 (pc := 19) dX7_tellB_19 (hC (3, 0) rfl) tw_140 ?_
    obtain ⟨v3, ev3, h⟩ := jlk h
    refine j_topi ev3 ?_
    refine j_istore_n (pc := 22) (lv' := [(2, .int v3), (0, .ref (E.1 (0, 0))), (1, .int x1)]) dX7_tellB_22 rfl (by decide) rfl ?_
    refine j_iload_n (pc := 23) 0 dX7_tellB_23 rfl rfl ?_
    refine j_iload_n (pc := 24) 2 dX7_tellB_24 rfl rfl ?_
    refine j_icmp_ne (pc := 25) (tgt := 31) dX7_tellB_25 (by decide) (fun c4 => ?_) (fun c4 => ?_)
    · replace h := jite_f h c4
      refine j_aload_n (pc := 31) 1 dX7_tellB_31 rfl rfl ?_
      refine jg_0_3 (pc := 32) dX7_tellB_32 (hC (0, 0) rfl) tw_481 ?_
      refine j_aload_n (pc := 35) 1 dX7_tellB_35 rfl rfl ?_
      refine jg_0_1 (pc := 36) dX7_tellB_36 (hC (0, 0) rfl) tw_479 ?_
      obtain ⟨y5, hy5, h⟩ := jbnd h
      refine j_callV (pc := 39) (N := mX0_keep) (rr := (5, 0)) (As := [.ref (E.1 (2, 0))]) (rest := []) (v := []) (S1 := y5) dX7_tellB_39 (kX0_keep hC (by decide) hy5) (by simp) (by decide) okX0_keep tw_522 tw_523 tw_521 (hC (5, 0) rfl) rfl rfl rfl rfl (by simp [Value.category]) ?_
      refine j_aload_n (pc := 42) 1 dX7_tellB_42 rfl rfl ?_
      refine jg_0_1 (pc := 43) dX7_tellB_43 (hC (0, 0) rfl) tw_479 ?_
      refine jg_2_0 (pc := 46) dX7_tellB_46 (hC (2, 0) rfl) tw_233 ?_
      refine j_iload_n (pc := 49) 2 dX7_tellB_49 rfl rfl ?_
      obtain ⟨S6, eS6, h⟩ := jlk h
      refine jp_5 (pc := 50) dX7_tellB_50 (hC (3, 0) rfl) tw_140 eS6 ?_
      refine j_iload_n (pc := 53) 0 dX7_tellB_53 rfl rfl ?_
      cases h
      exact j_iret (pc := 54) dX7_tellB_54 rfl rfl
    · replace h := jite_t h c4
      refine j_bipush (pc := 28) dX7_tellB_28 jcb_m2 ?_
      cases h
      exact j_iret (pc := 30) dX7_tellB_30 rfl rfl
  · replace h := jite_t h c2
    refine j_iconst (pc := 10) dX7_tellB_10 jci_m1 ?_
    cases h
    exact j_iret (pc := 11) dX7_tellB_11 rfl rfl
abbrev mX7_tellLaw : jM := (yX7_tellLaw, cX7_tellLaw, 3, (some .int))
theorem okX7_tellLaw : jOK mX7_tellLaw 1 := ⟨by decide +kernel, tw_548, tw_69, by decide +kernel, by decide, by decide⟩
def fX7_tellLaw  (S : jS) (x1 : Int32) : Option (Int32 × jS) :=
  (fX7_within S x1 (0 : Int32) (1 : Int32)).bind fun y1 => (if y1.1 = 0 then some ((-1 : Int32), y1.2) else jlet (y1.2.1 (4, 0)) fun v3 => (if v3 = x1 then some ((-2 : Int32), y1.2) else (fX0_keep 0 y1.2).bind fun y5 => jlet (jset y5 (4, 0) x1) fun S6 => some (v3, S6)))
set_option maxRecDepth 10000 in
set_option maxHeartbeats 4000000 in
theorem kX7_tellLaw {E : jE} (hC : jHC E) {S : jS} {x1 : Int32} {r : (Int32 × jS)} (h : fX7_tellLaw  S x1 = some r) : jMR E 4 mX7_tellLaw [.ref (E.1 (0, 0)), .int x1] S [.int r.1] r.2 := by
  refine ⟨Nat.le_of_ble_eq_true rfl, ?_⟩
  show JR E 4 mX7_tellLaw 0 [(0, .ref (E.1 (0, 0))), (1, .int x1)] [] S [.int r.1] r.2
  unfold fX7_tellLaw at h
  refine j_iload_n (pc := 0) 1 dX7_tellLaw_0 rfl rfl ?_
  refine j_iconst (pc := 1) dX7_tellLaw_1 jci_0 ?_
  refine j_iconst (pc := 2) dX7_tellLaw_2 jci_1 ?_
  obtain ⟨y1, hy1, h⟩ := jbnd h
  refine j_callS (pc := 3) (N := mX7_within) (As := [.int x1, .int (0 : Int32), .int (1 : Int32)]) (rest := []) (v := [.int y1.1]) (S1 := y1.2) dX7_tellLaw_3 (kX7_within hC hy1) (by simp) (by decide) okX7_within tw_398 tw_502 rfl rfl (by simp [Value.category]) ?_
  refine j_if_ne (pc := 6) (tgt := 11) dX7_tellLaw_6 (by decide) (fun c2 => ?_) (fun c2 => ?_)
  · replace h := jite_f h c2
    refine j_aload_n (pc := 11) 0 dX7_tellLaw_11 rfl rfl ?_
    refine jg_0_1 (pc := 12) dX7_tellLaw_12 (hC (0, 0) rfl) tw_479 ?_
    refine jg_2_0 (pc := 15) dX7_tellLaw_15 (hC (2, 0) rfl) tw_233 ?_
    refine jg_3_3 (pc := 18) dX7_tellLaw_18 (hC (3, 0) rfl) tw_138 ?_
    obtain ⟨v3, ev3, h⟩ := jlk h
    refine j_topi ev3 ?_
    refine j_istore_n (pc := 21) (lv' := [(2, .int v3), (0, .ref (E.1 (0, 0))), (1, .int x1)]) dX7_tellLaw_21 rfl (by decide) rfl ?_
    refine j_iload_n (pc := 22) 0 dX7_tellLaw_22 rfl rfl ?_
    refine j_iload_n (pc := 23) 2 dX7_tellLaw_23 rfl rfl ?_
    refine j_icmp_ne (pc := 24) (tgt := 30) dX7_tellLaw_24 (by decide) (fun c4 => ?_) (fun c4 => ?_)
    · replace h := jite_f h c4
      refine j_aload_n (pc := 30) 1 dX7_tellLaw_30 rfl rfl ?_
      refine jg_0_3 (pc := 31) dX7_tellLaw_31 (hC (0, 0) rfl) tw_481 ?_
      refine j_aload_n (pc := 34) 1 dX7_tellLaw_34 rfl rfl ?_
      refine jg_0_1 (pc := 35) dX7_tellLaw_35 (hC (0, 0) rfl) tw_479 ?_
      obtain ⟨y5, hy5, h⟩ := jbnd h
      refine j_callV (pc := 38) (N := mX0_keep) (rr := (5, 0)) (As := [.ref (E.1 (2, 0))]) (rest := []) (v := []) (S1 := y5) dX7_tellLaw_38 (kX0_keep hC (by decide) hy5) (by simp) (by decide) okX0_keep tw_522 tw_523 tw_521 (hC (5, 0) rfl) rfl rfl rfl rfl (by simp [Value.category]) ?_
      refine j_aload_n (pc := 41) 1 dX7_tellLaw_41 rfl rfl ?_
      refine jg_0_1 (pc := 42) dX7_tellLaw_42 (hC (0, 0) rfl) tw_479 ?_
      refine jg_2_0 (pc := 45) dX7_tellLaw_45 (hC (2, 0) rfl) tw_233 ?_
      refine j_iload_n (pc := 48) 2 dX7_tellLaw_48 rfl rfl ?_
      obtain ⟨S6, eS6, h⟩ := jlk h
      refine jp_4 (pc := 49) dX7_tellLaw_49 (hC (3, 0) rfl) tw_138 eS6 ?_
      refine j_iload_n (pc := 52) 0 dX7_tellLaw_52 rfl rfl ?_
      cases h
      exact j_iret (pc := 53) dX7_tellLaw_53 rfl rfl
    · replace h := jite_t h c4
      refine j_bipush (pc := 27) dX7_tellLaw_27 jcb_m2 ?_
      cases h
      exact j_iret (pc := 29) dX7_tellLaw_29 rfl rfl
  · replace h := jite_t h c2
    refine j_iconst (pc := 9) dX7_tellLaw_9 jci_m1 ?_
    cases h
    exact j_iret (pc := 10) dX7_tellLaw_10 rfl rfl
abbrev mX7_tell : jM := (yX7_tell, cX7_tell, 3, (some .int))
theorem okX7_tell : jOK mX7_tell 2 := ⟨by decide +kernel, tw_544, tw_69, by decide +kernel, by decide, by decide⟩
def fX7_tell  (S : jS) (x1 : Int32) (x2 : Int32) : Option (Int32 × jS) :=
  (if x1 = 0 then (fX7_tellLaw S x2).bind fun y4 => some (y4.1, y4.2) else (if x1 = (1 : Int32) then (fX7_tellB S x2).bind fun y3 => some (y3.1, y3.2) else some ((-1 : Int32), S)))
set_option maxRecDepth 10000 in
set_option maxHeartbeats 4000000 in
theorem kX7_tell {E : jE} (hC : jHC E) {S : jS} {x1 : Int32} {x2 : Int32} {r : (Int32 × jS)} (h : fX7_tell  S x1 x2 = some r) : jMR E 5 mX7_tell [.ref (E.1 (0, 0)), .int x1, .int x2] S [.int r.1] r.2 := by
  refine ⟨Nat.le_of_ble_eq_true rfl, ?_⟩
  show JR E 5 mX7_tell 0 [(0, .ref (E.1 (0, 0))), (1, .int x1), (2, .int x2)] [] S [.int r.1] r.2
  unfold fX7_tell at h
  refine j_iload_n (pc := 0) 1 dX7_tell_0 rfl rfl ?_
  refine j_if_ne (pc := 1) (tgt := 10) dX7_tell_1 (by decide) (fun c1 => ?_) (fun c1 => ?_)
  · replace h := jite_f h c1
    refine j_iload_n (pc := 10) 1 dX7_tell_10 rfl rfl ?_
    refine j_iconst (pc := 11) dX7_tell_11 jci_1 ?_
    refine j_icmp_ne (pc := 12) (tgt := 21) dX7_tell_12 (by decide) (fun c2 => ?_) (fun c2 => ?_)
    · replace h := jite_f h c2
      refine j_iconst (pc := 21) dX7_tell_21 jci_m1 ?_
      cases h
      exact j_iret (pc := 22) dX7_tell_22 rfl rfl
    · replace h := jite_t h c2
      refine j_aload_n (pc := 15) 0 dX7_tell_15 rfl rfl ?_
      refine j_iload_n (pc := 16) 2 dX7_tell_16 rfl rfl ?_
      obtain ⟨y3, hy3, h⟩ := jbnd h
      refine j_callV (pc := 17) (N := mX7_tellB) (rr := (0, 0)) (As := [.int x2]) (rest := []) (v := [.int y3.1]) (S1 := y3.2) dX7_tell_17 (kX7_tellB hC hy3) (by simp) (by decide) okX7_tellB tw_551 tw_12 tw_549 (hC (0, 0) rfl) rfl rfl rfl rfl (by simp [Value.category]) ?_
      cases h
      exact j_iret (pc := 20) dX7_tell_20 rfl rfl
  · replace h := jite_t h c1
    refine j_aload_n (pc := 4) 0 dX7_tell_4 rfl rfl ?_
    refine j_iload_n (pc := 5) 2 dX7_tell_5 rfl rfl ?_
    obtain ⟨y4, hy4, h⟩ := jbnd h
    refine j_callV (pc := 6) (N := mX7_tellLaw) (rr := (0, 0)) (As := [.int x2]) (rest := []) (v := [.int y4.1]) (S1 := y4.2) dX7_tell_6 (kX7_tellLaw hC hy4) (by simp) (by decide) okX7_tellLaw tw_547 tw_11 tw_545 (hC (0, 0) rfl) rfl rfl rfl rfl (by simp [Value.category]) ?_
    cases h
    exact j_iret (pc := 9) dX7_tell_9 rfl rfl
abbrev mX7_clash : jM := (yX7_clash, cX7_clash, 4, (some .int))
theorem okX7_clash : jOK mX7_clash 3 := ⟨by decide +kernel, tw_556, tw_69, by decide +kernel, by decide, by decide⟩
def bX7_clash_66  (S : jS) (x1 : Int32) (x2 : Int32) (t0 : Int32) (t1 : Int32) : Option (Int32 × jS) :=
  (if t0 = t1 then some ((-2 : Int32), S) else (fX0_keep 0 S).bind fun y11 => (fX2_turnClash 0 y11 x1 x2).bind fun y12 => (fX2_pairs 0 y12).bind fun y13 => some (y13.1, y13.2))
set_option maxRecDepth 10000 in
set_option maxHeartbeats 4000000 in
theorem lX7_clash_66 {E : jE} (hC : jHC E) {S : jS} {x1 : Int32} {x2 : Int32} {t0 : Int32} {t1 : Int32} {r : (Int32 × jS)} (h : bX7_clash_66  S x1 x2 t0 t1 = some r) : JR E 4 mX7_clash 66 [(0, .ref (E.1 (0, 0))), (1, .int x1), (2, .int x2)] [.int t1, .int t0] S [.int r.1] r.2 := by
  unfold bX7_clash_66 at h
  refine j_icmp_ne (pc := 66) (tgt := 72) dX7_clash_66 (by decide) (fun c10 => ?_) (fun c10 => ?_)
  · replace h := jite_f h c10
    refine j_aload_n (pc := 72) 0 dX7_clash_72 rfl rfl ?_
    refine jg_0_3 (pc := 73) dX7_clash_73 (hC (0, 0) rfl) tw_481 ?_
    refine j_aload_n (pc := 76) 0 dX7_clash_76 rfl rfl ?_
    refine jg_0_1 (pc := 77) dX7_clash_77 (hC (0, 0) rfl) tw_479 ?_
    obtain ⟨y11, hy11, h⟩ := jbnd h
    refine j_callV (pc := 80) (N := mX0_keep) (rr := (5, 0)) (As := [.ref (E.1 (2, 0))]) (rest := []) (v := []) (S1 := y11) dX7_clash_80 (kX0_keep hC (by decide) hy11) (by simp) (by decide) okX0_keep tw_522 tw_523 tw_521 (hC (5, 0) rfl) rfl rfl rfl rfl (by simp [Value.category]) ?_
    refine j_aload_n (pc := 83) 0 dX7_clash_83 rfl rfl ?_
    refine jg_0_1 (pc := 84) dX7_clash_84 (hC (0, 0) rfl) tw_479 ?_
    refine jg_2_0 (pc := 87) dX7_clash_87 (hC (2, 0) rfl) tw_233 ?_
    refine j_iload_n (pc := 90) 1 dX7_clash_90 rfl rfl ?_
    refine j_iload_n (pc := 91) 2 dX7_clash_91 rfl rfl ?_
    obtain ⟨y12, hy12, h⟩ := jbnd h
    refine j_callV (pc := 92) (N := mX2_turnClash) (rr := (3, 0)) (As := [.int x1, .int x2]) (rest := []) (v := []) (S1 := y12) dX7_clash_92 (kX2_turnClash hC (by decide) hy12) (by simp) (by decide) okX2_turnClash tw_425 tw_426 tw_558 (hC (3, 0) rfl) rfl rfl rfl rfl (by simp [Value.category]) ?_
    refine j_aload_n (pc := 95) 0 dX7_clash_95 rfl rfl ?_
    refine jg_0_1 (pc := 96) dX7_clash_96 (hC (0, 0) rfl) tw_479 ?_
    refine jg_2_0 (pc := 99) dX7_clash_99 (hC (2, 0) rfl) tw_233 ?_
    obtain ⟨y13, hy13, h⟩ := jbnd h
    refine j_callV (pc := 102) (N := mX2_pairs) (rr := (3, 0)) (As := []) (rest := []) (v := [.int y13.1]) (S1 := y13.2) dX7_clash_102 (kX2_pairs hC (by decide) hy13) (by simp) (by decide) okX2_pairs tw_560 tw_561 tw_559 (hC (3, 0) rfl) rfl rfl rfl rfl (by simp [Value.category]) ?_
    cases h
    exact j_iret (pc := 105) dX7_clash_105 rfl rfl
  · replace h := jite_t h c10
    refine j_bipush (pc := 69) dX7_clash_69 jcb_m2 ?_
    cases h
    exact j_iret (pc := 71) dX7_clash_71 rfl rfl
def fX7_clash  (S : jS) (x1 : Int32) (x2 : Int32) (x3 : Int32) : Option (Int32 × jS) :=
  (fX2_hasLink 0 S x1).bind fun y1 => (if y1.1 = 0 then some ((-1 : Int32), y1.2) else (fX2_hasLink 0 y1.2 x2).bind fun y3 => (if y3.1 = 0 then some ((-1 : Int32), y3.2) else (if x1 = x2 then some ((-1 : Int32), y3.2) else (fX7_within y3.2 x3 (0 : Int32) (1 : Int32)).bind fun y6 => (if y6.1 = 0 then some ((-1 : Int32), y6.2) else (fX2_doClash 0 y6.2 x1 x2).bind fun y8 => (if x3 = (1 : Int32) then bX7_clash_66 (y8.2) x1 x2 y8.1 (1 : Int32) else bX7_clash_66 (y8.2) x1 x2 y8.1 (0 : Int32))))))
set_option maxRecDepth 10000 in
set_option maxHeartbeats 4000000 in
theorem kX7_clash {E : jE} (hC : jHC E) {S : jS} {x1 : Int32} {x2 : Int32} {x3 : Int32} {r : (Int32 × jS)} (h : fX7_clash  S x1 x2 x3 = some r) : jMR E 4 mX7_clash [.ref (E.1 (0, 0)), .int x1, .int x2, .int x3] S [.int r.1] r.2 := by
  refine ⟨Nat.le_of_ble_eq_true rfl, ?_⟩
  show JR E 4 mX7_clash 0 [(0, .ref (E.1 (0, 0))), (1, .int x1), (2, .int x2), (3, .int x3)] [] S [.int r.1] r.2
  unfold fX7_clash at h
  refine j_aload_n (pc := 0) 0 dX7_clash_0 rfl rfl ?_
  refine jg_0_1 (pc := 1) dX7_clash_1 (hC (0, 0) rfl) tw_479 ?_
  refine jg_2_0 (pc := 4) dX7_clash_4 (hC (2, 0) rfl) tw_233 ?_
  refine j_iload_n (pc := 7) 1 dX7_clash_7 rfl rfl ?_
  obtain ⟨y1, hy1, h⟩ := jbnd h
  refine j_callV (pc := 8) (N := mX2_hasLink) (rr := (3, 0)) (As := [.int x1]) (rest := []) (v := [.int y1.1]) (S1 := y1.2) dX7_clash_8 (kX2_hasLink hC (by decide) hy1) (by simp) (by decide) okX2_hasLink tw_417 tw_418 tw_540 (hC (3, 0) rfl) rfl rfl rfl rfl (by simp [Value.category]) ?_
  refine j_if_eq (pc := 11) (tgt := 42) dX7_clash_11 (by decide) (fun c2 => ?_) (fun c2 => ?_)
  · replace h := jite_t h c2
    refine j_iconst (pc := 42) dX7_clash_42 jci_m1 ?_
    cases h
    exact j_iret (pc := 43) dX7_clash_43 rfl rfl
  · replace h := jite_f h c2
    refine j_aload_n (pc := 14) 0 dX7_clash_14 rfl rfl ?_
    refine jg_0_1 (pc := 15) dX7_clash_15 (hC (0, 0) rfl) tw_479 ?_
    refine jg_2_0 (pc := 18) dX7_clash_18 (hC (2, 0) rfl) tw_233 ?_
    refine j_iload_n (pc := 21) 2 dX7_clash_21 rfl rfl ?_
    obtain ⟨y3, hy3, h⟩ := jbnd h
    refine j_callV (pc := 22) (N := mX2_hasLink) (rr := (3, 0)) (As := [.int x2]) (rest := []) (v := [.int y3.1]) (S1 := y3.2) dX7_clash_22 (kX2_hasLink hC (by decide) hy3) (by simp) (by decide) okX2_hasLink tw_417 tw_418 tw_540 (hC (3, 0) rfl) rfl rfl rfl rfl (by simp [Value.category]) ?_
    refine j_if_eq (pc := 25) (tgt := 42) dX7_clash_25 (by decide) (fun c4 => ?_) (fun c4 => ?_)
    · replace h := jite_t h c4
      refine j_iconst (pc := 42) dX7_clash_42 jci_m1 ?_
      cases h
      exact j_iret (pc := 43) dX7_clash_43 rfl rfl
    · replace h := jite_f h c4
      refine j_iload_n (pc := 28) 1 dX7_clash_28 rfl rfl ?_
      refine j_iload_n (pc := 29) 2 dX7_clash_29 rfl rfl ?_
      refine j_icmp_eq (pc := 30) (tgt := 42) dX7_clash_30 (by decide) (fun c5 => ?_) (fun c5 => ?_)
      · replace h := jite_t h c5
        refine j_iconst (pc := 42) dX7_clash_42 jci_m1 ?_
        cases h
        exact j_iret (pc := 43) dX7_clash_43 rfl rfl
      · replace h := jite_f h c5
        refine j_iload_n (pc := 33) 3 dX7_clash_33 rfl rfl ?_
        refine j_iconst (pc := 34) dX7_clash_34 jci_0 ?_
        refine j_iconst (pc := 35) dX7_clash_35 jci_1 ?_
        obtain ⟨y6, hy6, h⟩ := jbnd h
        refine j_callS (pc := 36) (N := mX7_within) (As := [.int x3, .int (0 : Int32), .int (1 : Int32)]) (rest := []) (v := [.int y6.1]) (S1 := y6.2) dX7_clash_36 (kX7_within hC hy6) (by simp) (by decide) okX7_within tw_398 tw_502 rfl rfl (by simp [Value.category]) ?_
        refine j_if_ne (pc := 39) (tgt := 44) dX7_clash_39 (by decide) (fun c7 => ?_) (fun c7 => ?_)
        · replace h := jite_f h c7
          refine j_aload_n (pc := 44) 0 dX7_clash_44 rfl rfl ?_
          refine jg_0_1 (pc := 45) dX7_clash_45 (hC (0, 0) rfl) tw_479 ?_
          refine jg_2_0 (pc := 48) dX7_clash_48 (hC (2, 0) rfl) tw_233 ?_
          refine j_iload_n (pc := 51) 1 dX7_clash_51 rfl rfl ?_
          refine j_iload_n (pc := 52) 2 dX7_clash_52 rfl rfl ?_
          obtain ⟨y8, hy8, h⟩ := jbnd h
          refine j_callV (pc := 53) (N := mX2_doClash) (rr := (3, 0)) (As := [.int x1, .int x2]) (rest := []) (v := [.int y8.1]) (S1 := y8.2) dX7_clash_53 (kX2_doClash hC (by decide) hy8) (by simp) (by decide) okX2_doClash tw_421 tw_422 tw_557 (hC (3, 0) rfl) rfl rfl rfl rfl (by simp [Value.category]) ?_
          refine j_iload_n (pc := 56) 3 dX7_clash_56 rfl rfl ?_
          refine j_iconst (pc := 57) dX7_clash_57 jci_1 ?_
          refine j_icmp_ne (pc := 58) (tgt := 65) dX7_clash_58 (by decide) (fun c9 => ?_) (fun c9 => ?_)
          · replace h := jite_f h c9
            refine j_iconst (pc := 65) dX7_clash_65 jci_0 ?_
            exact j_sub [0, 1, 2] rfl (lX7_clash_66 hC h)
          · replace h := jite_t h c9
            refine j_iconst (pc := 61) dX7_clash_61 jci_1 ?_
            refine j_goto (pc := 62) (tgt := 66) dX7_clash_62 (by decide) ?_
            exact j_sub [0, 1, 2] rfl (lX7_clash_66 hC h)
        · replace h := jite_t h c7
          refine j_iconst (pc := 42) dX7_clash_42 jci_m1 ?_
          cases h
          exact j_iret (pc := 43) dX7_clash_43 rfl rfl
abbrev mX7_put : jM := (yX7_put, cX7_put, 5, (some .int))
theorem okX7_put : jOK mX7_put 3 := ⟨by decide +kernel, tw_572, tw_69, by decide +kernel, by decide, by decide⟩
def fX7_put  (S : jS) (x1 : Int32) (x2 : Int32) (x3 : Int32) : Option (Int32 × jS) :=
  (fX2_hasQueue 0 S x1 x2).bind fun y1 => (if y1.1 = 0 then some ((-1 : Int32), y1.2) else (fX7_within y1.2 x3 (1 : Int32) (40 : Int32)).bind fun y3 => (if y3.1 = 0 then some ((-1 : Int32), y3.2) else (fX7_spot y3.2 x1 x2).bind fun y5 => if jIn y5.1 18 then (if ((y5.2.2 (33, 0) y5.1.toNatClampNeg) + x3) ≤ (40 : Int32) then (fX0_keep 0 y5.2).bind fun y8 => (fX4_addMany 0 y8 y5.1 x3 (y8.1 (6, 0))).bind fun y9 => if jIn y5.1 18 then some (y9.2 (33, 0) y5.1.toNatClampNeg, y9) else none else some ((-3 : Int32), y5.2)) else none))
set_option maxRecDepth 10000 in
set_option maxHeartbeats 4000000 in
theorem kX7_put {E : jE} (hC : jHC E) {S : jS} {x1 : Int32} {x2 : Int32} {x3 : Int32} {r : (Int32 × jS)} (h : fX7_put  S x1 x2 x3 = some r) : jMR E 4 mX7_put [.ref (E.1 (0, 0)), .int x1, .int x2, .int x3] S [.int r.1] r.2 := by
  refine ⟨Nat.le_of_ble_eq_true rfl, ?_⟩
  show JR E 4 mX7_put 0 [(0, .ref (E.1 (0, 0))), (1, .int x1), (2, .int x2), (3, .int x3)] [] S [.int r.1] r.2
  unfold fX7_put at h
  refine j_aload_n (pc := 0) 0 dX7_put_0 rfl rfl ?_
  refine jg_0_1 (pc := 1) dX7_put_1 (hC (0, 0) rfl) tw_479 ?_
  refine jg_2_0 (pc := 4) dX7_put_4 (hC (2, 0) rfl) tw_233 ?_
  refine j_iload_n (pc := 7) 1 dX7_put_7 rfl rfl ?_
  refine j_iload_n (pc := 8) 2 dX7_put_8 rfl rfl ?_
  obtain ⟨y1, hy1, h⟩ := jbnd h
  refine j_callV (pc := 9) (N := mX2_hasQueue) (rr := (3, 0)) (As := [.int x1, .int x2]) (rest := []) (v := [.int y1.1]) (S1 := y1.2) dX7_put_9 (kX2_hasQueue hC (by decide) hy1) (by simp) (by decide) okX2_hasQueue tw_433 tw_434 tw_519 (hC (3, 0) rfl) rfl rfl rfl rfl (by simp [Value.category]) ?_
  refine j_if_eq (pc := 12) (tgt := 25) dX7_put_12 (by decide) (fun c2 => ?_) (fun c2 => ?_)
  · replace h := jite_t h c2
    refine j_iconst (pc := 25) dX7_put_25 jci_m1 ?_
    cases h
    exact j_iret (pc := 26) dX7_put_26 rfl rfl
  · replace h := jite_f h c2
    refine j_iload_n (pc := 15) 3 dX7_put_15 rfl rfl ?_
    refine j_iconst (pc := 16) dX7_put_16 jci_1 ?_
    refine j_bipush (pc := 17) dX7_put_17 jcb_40 ?_
    obtain ⟨y3, hy3, h⟩ := jbnd h
    refine j_callS (pc := 19) (N := mX7_within) (As := [.int x3, .int (1 : Int32), .int (40 : Int32)]) (rest := []) (v := [.int y3.1]) (S1 := y3.2) dX7_put_19 (kX7_within hC hy3) (by simp) (by decide) okX7_within tw_398 tw_502 rfl rfl (by simp [Value.category]) ?_
    refine j_if_ne (pc := 22) (tgt := 27) dX7_put_22 (by decide) (fun c4 => ?_) (fun c4 => ?_)
    · replace h := jite_f h c4
      refine j_iload_n (pc := 27) 1 dX7_put_27 rfl rfl ?_
      refine j_iload_n (pc := 28) 2 dX7_put_28 rfl rfl ?_
      obtain ⟨y5, hy5, h⟩ := jbnd h
      refine j_callS (pc := 29) (N := mX7_spot) (As := [.int x1, .int x2]) (rest := []) (v := [.int y5.1]) (S1 := y5.2) dX7_put_29 (kX7_spot hC hy5) (by simp) (by decide) okX7_spot tw_441 tw_520 rfl rfl (by simp [Value.category]) ?_
      refine j_istore (pc := 32) (lv' := [(4, .int y5.1), (0, .ref (E.1 (0, 0))), (1, .int x1), (2, .int x2), (3, .int x3)]) dX7_put_32 (by decide) rfl ?_
      refine j_aload_n (pc := 34) 1 dX7_put_34 rfl rfl ?_
      refine jg_0_1 (pc := 35) dX7_put_35 (hC (0, 0) rfl) tw_479 ?_
      refine jg_2_1 (pc := 38) dX7_put_38 (hC (2, 0) rfl) tw_237 ?_
      refine jg_4_5 (pc := 41) dX7_put_41 (hC (4, 0) rfl) tw_210 ?_
      refine j_iload (pc := 44) 0 dX7_put_44 rfl ?_
      obtain ⟨c6, h⟩ := jchk h
      refine j_ia (pc := 46) dX7_put_46 rfl (hC (33, 0) rfl) c6 ?_
      refine j_iload_n (pc := 47) 4 dX7_put_47 rfl rfl ?_
      refine j_iadd (pc := 48) dX7_put_48 ?_
      refine j_bipush (pc := 49) dX7_put_49 jcb_40 ?_
      refine j_icmp_le (pc := 51) (tgt := 57) dX7_put_51 (by decide) (fun c7 => ?_) (fun c7 => ?_)
      · replace h := jite_t h c7
        refine j_aload_n (pc := 57) 1 dX7_put_57 rfl rfl ?_
        refine jg_0_3 (pc := 58) dX7_put_58 (hC (0, 0) rfl) tw_481 ?_
        refine j_aload_n (pc := 61) 1 dX7_put_61 rfl rfl ?_
        refine jg_0_1 (pc := 62) dX7_put_62 (hC (0, 0) rfl) tw_479 ?_
        obtain ⟨y8, hy8, h⟩ := jbnd h
        refine j_callV (pc := 65) (N := mX0_keep) (rr := (5, 0)) (As := [.ref (E.1 (2, 0))]) (rest := []) (v := []) (S1 := y8) dX7_put_65 (kX0_keep hC (by decide) hy8) (by simp) (by decide) okX0_keep tw_522 tw_523 tw_521 (hC (5, 0) rfl) rfl rfl rfl rfl (by simp [Value.category]) ?_
        refine j_aload_n (pc := 68) 1 dX7_put_68 rfl rfl ?_
        refine jg_0_1 (pc := 69) dX7_put_69 (hC (0, 0) rfl) tw_479 ?_
        refine jg_2_1 (pc := 72) dX7_put_72 (hC (2, 0) rfl) tw_237 ?_
        refine j_iload (pc := 75) 0 dX7_put_75 rfl ?_
        refine j_iload_n (pc := 77) 4 dX7_put_77 rfl rfl ?_
        refine j_aload_n (pc := 78) 1 dX7_put_78 rfl rfl ?_
        refine jg_0_1 (pc := 79) dX7_put_79 (hC (0, 0) rfl) tw_479 ?_
        refine jg_2_1 (pc := 82) dX7_put_82 (hC (2, 0) rfl) tw_237 ?_
        refine jg_4_0 (pc := 85) dX7_put_85 (hC (4, 0) rfl) tw_197 ?_
        obtain ⟨y9, hy9, h⟩ := jbnd h
        refine j_callV (pc := 88) (N := mX4_addMany) (rr := (4, 0)) (As := [.int y5.1, .int x3, .int (y8.1 (6, 0))]) (rest := []) (v := []) (S1 := y9) dX7_put_88 (kX4_addMany hC (by decide) hy9) (by simp) (by decide) okX4_addMany tw_574 tw_575 tw_573 (hC (4, 0) rfl) rfl rfl rfl rfl (by simp [Value.category]) ?_
        refine j_aload_n (pc := 91) 1 dX7_put_91 rfl rfl ?_
        refine jg_0_1 (pc := 92) dX7_put_92 (hC (0, 0) rfl) tw_479 ?_
        refine jg_2_1 (pc := 95) dX7_put_95 (hC (2, 0) rfl) tw_237 ?_
        refine jg_4_5 (pc := 98) dX7_put_98 (hC (4, 0) rfl) tw_210 ?_
        refine j_iload (pc := 101) 0 dX7_put_101 rfl ?_
        obtain ⟨c10, h⟩ := jchk h
        refine j_ia (pc := 103) dX7_put_103 rfl (hC (33, 0) rfl) c10 ?_
        cases h
        exact j_iret (pc := 104) dX7_put_104 rfl rfl
      · replace h := jite_f h c7
        refine j_bipush (pc := 54) dX7_put_54 jcb_m3 ?_
        cases h
        exact j_iret (pc := 56) dX7_put_56 rfl rfl
    · replace h := jite_t h c4
      refine j_iconst (pc := 25) dX7_put_25 jci_m1 ?_
      cases h
      exact j_iret (pc := 26) dX7_put_26 rfl rfl
abbrev mX7_slot : jM := (yX7_slot, cX7_slot, 4, (some .int))
theorem okX7_slot : jOK mX7_slot 1 := ⟨by decide +kernel, tw_588, tw_69, by decide +kernel, by decide, by decide⟩
def bX7_slot_36  (q36 : jS → Int32 → Int32 → Int32 → Option (Int32 × jS)) (S : jS) (x1 : Int32) (x2 : Int32) (x3 : Int32) : Option (Int32 × jS) :=
  (if x1 ≤ x3 then (fX4_thereInAll 0 S).bind fun y6 => some (y6.1 - x2, y6.2) else (fX1_move 0 (25, 0) S (0 : Int32)).bind fun y7 => jlet (x3 + (1 : Int32)) fun v8 => q36 y7 x1 x2 v8)
set_option maxRecDepth 10000 in
set_option maxHeartbeats 4000000 in
theorem lX7_slot_36 {E : jE} (hC : jHC E) {q36 : jS → Int32 → Int32 → Int32 → Option (Int32 × jS)} (H36 : ∀ {S : jS} {x1 : Int32} {x2 : Int32} {x3 : Int32} {r : (Int32 × jS)}, q36 S x1 x2 x3 = some r → JR E 18 mX7_slot 36 [(0, .ref (E.1 (0, 0))), (1, .int x1), (2, .int x2), (3, .int x3)] [] S [.int r.1] r.2) {S : jS} {x1 : Int32} {x2 : Int32} {x3 : Int32} {r : (Int32 × jS)} (h : bX7_slot_36  q36 S x1 x2 x3 = some r) : JR E 18 mX7_slot 36 [(0, .ref (E.1 (0, 0))), (1, .int x1), (2, .int x2), (3, .int x3)] [] S [.int r.1] r.2 := by
  unfold bX7_slot_36 at h
  refine j_iload_n (pc := 36) 3 dX7_slot_36 rfl rfl ?_
  refine j_iload_n (pc := 37) 1 dX7_slot_37 rfl rfl ?_
  refine j_icmp_ge (pc := 38) (tgt := 69) dX7_slot_38 (by decide) (fun c5 => ?_) (fun c5 => ?_)
  · replace h := jite_t h c5
    refine j_aload_n (pc := 69) 0 dX7_slot_69 rfl rfl ?_
    refine jg_0_1 (pc := 70) dX7_slot_70 (hC (0, 0) rfl) tw_479 ?_
    refine jg_2_1 (pc := 73) dX7_slot_73 (hC (2, 0) rfl) tw_237 ?_
    obtain ⟨y6, hy6, h⟩ := jbnd h
    refine j_callV (pc := 76) (N := mX4_thereInAll) (rr := (4, 0)) (As := []) (rest := []) (v := [.int y6.1]) (S1 := y6.2) dX7_slot_76 (kX4_thereInAll hC (by decide) hy6) (by simp) (by decide) okX4_thereInAll tw_590 tw_591 tw_589 (hC (4, 0) rfl) rfl rfl rfl rfl (by simp [Value.category]) ?_
    refine j_iload_n (pc := 79) 2 dX7_slot_79 rfl rfl ?_
    refine j_isub (pc := 80) dX7_slot_80 ?_
    cases h
    exact j_iret (pc := 81) dX7_slot_81 rfl rfl
  · replace h := jite_f h c5
    refine j_aload_n (pc := 41) 0 dX7_slot_41 rfl rfl ?_
    refine jg_0_5 (pc := 42) dX7_slot_42 (hC (0, 0) rfl) tw_483 ?_
    refine j_aload_n (pc := 45) 0 dX7_slot_45 rfl rfl ?_
    refine jg_0_1 (pc := 46) dX7_slot_46 (hC (0, 0) rfl) tw_479 ?_
    refine j_iconst (pc := 49) dX7_slot_49 jci_0 ?_
    refine j_aload_n (pc := 50) 0 dX7_slot_50 rfl rfl ?_
    refine jg_0_1 (pc := 51) dX7_slot_51 (hC (0, 0) rfl) tw_479 ?_
    refine jg_2_0 (pc := 54) dX7_slot_54 (hC (2, 0) rfl) tw_233 ?_
    refine jg_3_10 (pc := 57) dX7_slot_57 (hC (3, 0) rfl) tw_162 ?_
    obtain ⟨y7, hy7, h⟩ := jbnd h
    refine j_callV (pc := 60) (N := mX1_move) (rr := (8, 0)) (As := [.ref (E.1 (2, 0)), .int (0 : Int32), .ref (E.1 (25, 0))]) (rest := []) (v := []) (S1 := y7) dX7_slot_60 (kX1_move hC (by decide) ⟨rfl, (hC (25, 0) rfl)⟩ hy7) (by simp) (by decide) okX1_move tw_594 tw_595 tw_593 (hC (8, 0) rfl) rfl rfl rfl rfl (by simp [Value.category]) ?_
    obtain ⟨v8, ev8, h⟩ := jlk h
    refine j_iinc (pc := 63) (v := v8) (lv' := [(3, .int v8), (0, .ref (E.1 (0, 0))), (1, .int x1), (2, .int x2)]) 3 dX7_slot_63 rfl (by rw [ev8]; rfl) (by decide) rfl ?_
    refine j_goto (pc := 66) (tgt := 36) dX7_slot_66 (by decide) ?_
    exact j_sub [1, 2, 3, 0] rfl (H36 h)
def fX7_slot_36  : Nat → jS → Int32 → Int32 → Int32 → Option (Int32 × jS)
  | 0 => fun _ _ _ _ => none
  | n + 1 => bX7_slot_36  (fX7_slot_36  n)
theorem kX7_slot_36 {E : jE} (hC : jHC E) (fu : Nat) : ∀ {S : jS} {x1 : Int32} {x2 : Int32} {x3 : Int32} {r : (Int32 × jS)}, fX7_slot_36  fu S x1 x2 x3 = some r → JR E 18 mX7_slot 36 [(0, .ref (E.1 (0, 0))), (1, .int x1), (2, .int x2), (3, .int x3)] [] S [.int r.1] r.2 := by
  induction fu with
  | zero => intro S x1 x2 x3 r h; cases h
  | succ n_ ih => intro S x1 x2 x3 r h; exact lX7_slot_36 hC ih h
def fX7_slot  (S : jS) (x1 : Int32) : Option (Int32 × jS) :=
  (fX7_within S x1 (1 : Int32) (60 : Int32)).bind fun y1 => (if y1.1 = 0 then some ((-1 : Int32), y1.2) else (fX0_keep 0 y1.2).bind fun y3 => (fX4_thereInAll 0 y3).bind fun y4 => fX7_slot_36 5000 (y4.2) x1 y4.1 (0 : Int32))
set_option maxRecDepth 10000 in
set_option maxHeartbeats 4000000 in
theorem kX7_slot {E : jE} (hC : jHC E) {S : jS} {x1 : Int32} {r : (Int32 × jS)} (h : fX7_slot  S x1 = some r) : jMR E 18 mX7_slot [.ref (E.1 (0, 0)), .int x1] S [.int r.1] r.2 := by
  refine ⟨Nat.le_of_ble_eq_true rfl, ?_⟩
  show JR E 18 mX7_slot 0 [(0, .ref (E.1 (0, 0))), (1, .int x1)] [] S [.int r.1] r.2
  unfold fX7_slot at h
  refine j_iload_n (pc := 0) 1 dX7_slot_0 rfl rfl ?_
  refine j_iconst (pc := 1) dX7_slot_1 jci_1 ?_
  refine j_bipush (pc := 2) dX7_slot_2 jcb_60 ?_
  obtain ⟨y1, hy1, h⟩ := jbnd h
  refine j_callS (pc := 4) (N := mX7_within) (As := [.int x1, .int (1 : Int32), .int (60 : Int32)]) (rest := []) (v := [.int y1.1]) (S1 := y1.2) dX7_slot_4 (kX7_within hC hy1) (by simp) (by decide) okX7_within tw_398 tw_502 rfl rfl (by simp [Value.category]) ?_
  refine j_if_ne (pc := 7) (tgt := 12) dX7_slot_7 (by decide) (fun c2 => ?_) (fun c2 => ?_)
  · replace h := jite_f h c2
    refine j_aload_n (pc := 12) 0 dX7_slot_12 rfl rfl ?_
    refine jg_0_3 (pc := 13) dX7_slot_13 (hC (0, 0) rfl) tw_481 ?_
    refine j_aload_n (pc := 16) 0 dX7_slot_16 rfl rfl ?_
    refine jg_0_1 (pc := 17) dX7_slot_17 (hC (0, 0) rfl) tw_479 ?_
    obtain ⟨y3, hy3, h⟩ := jbnd h
    refine j_callV (pc := 20) (N := mX0_keep) (rr := (5, 0)) (As := [.ref (E.1 (2, 0))]) (rest := []) (v := []) (S1 := y3) dX7_slot_20 (kX0_keep hC (by decide) hy3) (by simp) (by decide) okX0_keep tw_522 tw_523 tw_521 (hC (5, 0) rfl) rfl rfl rfl rfl (by simp [Value.category]) ?_
    refine j_aload_n (pc := 23) 0 dX7_slot_23 rfl rfl ?_
    refine jg_0_1 (pc := 24) dX7_slot_24 (hC (0, 0) rfl) tw_479 ?_
    refine jg_2_1 (pc := 27) dX7_slot_27 (hC (2, 0) rfl) tw_237 ?_
    obtain ⟨y4, hy4, h⟩ := jbnd h
    refine j_callV (pc := 30) (N := mX4_thereInAll) (rr := (4, 0)) (As := []) (rest := []) (v := [.int y4.1]) (S1 := y4.2) dX7_slot_30 (kX4_thereInAll hC (by decide) hy4) (by simp) (by decide) okX4_thereInAll tw_590 tw_591 tw_589 (hC (4, 0) rfl) rfl rfl rfl rfl (by simp [Value.category]) ?_
    refine j_istore_n (pc := 33) (lv' := [(2, .int y4.1), (0, .ref (E.1 (0, 0))), (1, .int x1)]) dX7_slot_33 rfl (by decide) rfl ?_
    refine j_iconst (pc := 34) dX7_slot_34 jci_0 ?_
    refine j_istore_n (pc := 35) (lv' := [(3, .int (0 : Int32)), (2, .int y4.1), (0, .ref (E.1 (0, 0))), (1, .int x1)]) dX7_slot_35 rfl (by decide) rfl ?_
    exact j_sub [2, 3, 1, 0] rfl (kX7_slot_36 hC 5000 h)
  · replace h := jite_t h c2
    refine j_iconst (pc := 10) dX7_slot_10 jci_m1 ?_
    cases h
    exact j_iret (pc := 11) dX7_slot_11 rfl rfl
abbrev mX7_undo : jM := (yX7_undo, cX7_undo, 1, (some .int))
theorem okX7_undo : jOK mX7_undo 0 := ⟨by decide +kernel, tw_666, tw_69, by decide +kernel, by decide, by decide⟩
def fX7_undo  (S : jS) : Option (Int32 × jS) :=
  (if (S.1 (8, 0)) = 0 then some ((-2 : Int32), S) else (fX0_giveBack 0 S).bind fun y2 => some (y2.1 (8, 0), y2))
set_option maxRecDepth 10000 in
set_option maxHeartbeats 4000000 in
theorem kX7_undo {E : jE} (hC : jHC E) {S : jS} {r : (Int32 × jS)} (h : fX7_undo  S = some r) : jMR E 4 mX7_undo [.ref (E.1 (0, 0))] S [.int r.1] r.2 := by
  refine ⟨Nat.le_of_ble_eq_true rfl, ?_⟩
  show JR E 4 mX7_undo 0 [(0, .ref (E.1 (0, 0)))] [] S [.int r.1] r.2
  unfold fX7_undo at h
  refine j_aload_n (pc := 0) 0 dX7_undo_0 rfl rfl ?_
  refine jg_0_3 (pc := 1) dX7_undo_1 (hC (0, 0) rfl) tw_481 ?_
  refine jg_5_0 (pc := 4) dX7_undo_4 (hC (5, 0) rfl) tw_253 ?_
  refine j_if_ne (pc := 7) (tgt := 13) dX7_undo_7 (by decide) (fun c1 => ?_) (fun c1 => ?_)
  · replace h := jite_f h c1
    refine j_aload_n (pc := 13) 0 dX7_undo_13 rfl rfl ?_
    refine jg_0_3 (pc := 14) dX7_undo_14 (hC (0, 0) rfl) tw_481 ?_
    refine j_aload_n (pc := 17) 0 dX7_undo_17 rfl rfl ?_
    refine jg_0_1 (pc := 18) dX7_undo_18 (hC (0, 0) rfl) tw_479 ?_
    obtain ⟨y2, hy2, h⟩ := jbnd h
    refine j_callV (pc := 21) (N := mX0_giveBack) (rr := (5, 0)) (As := [.ref (E.1 (2, 0))]) (rest := []) (v := []) (S1 := y2) dX7_undo_21 (kX0_giveBack hC (by decide) hy2) (by simp) (by decide) okX0_giveBack tw_668 tw_669 tw_667 (hC (5, 0) rfl) rfl rfl rfl rfl (by simp [Value.category]) ?_
    refine j_aload_n (pc := 24) 0 dX7_undo_24 rfl rfl ?_
    refine jg_0_3 (pc := 25) dX7_undo_25 (hC (0, 0) rfl) tw_481 ?_
    refine jg_5_0 (pc := 28) dX7_undo_28 (hC (5, 0) rfl) tw_253 ?_
    cases h
    exact j_iret (pc := 31) dX7_undo_31 rfl rfl
  · replace h := jite_t h c1
    refine j_bipush (pc := 10) dX7_undo_10 jcb_m2 ?_
    cases h
    exact j_iret (pc := 12) dX7_undo_12 rfl rfl
abbrev mX7_queue : jM := (yX7_queue, cX7_queue, 5, (some .int))
theorem okX7_queue : jOK mX7_queue 3 := ⟨by decide +kernel, tw_674, tw_69, by decide +kernel, by decide, by decide⟩
def fX7_queue  (S : jS) (x1 : Int32) (x2 : Int32) (x3 : Int32) : Option (Int32 × jS) :=
  (fX2_hasQueue 0 S x1 x2).bind fun y1 => (if y1.1 = 0 then some ((-1 : Int32), y1.2) else (fX7_within y1.2 x3 (0 : Int32) (3 : Int32)).bind fun y3 => (if y3.1 = 0 then some ((-1 : Int32), y3.2) else (fX7_spot y3.2 x1 x2).bind fun y5 => (if x3 = (0 : Int32) then if jIn y5.1 18 then some (y5.2.2 (33, 0) y5.1.toNatClampNeg, y5.2) else none else (if x3 = (1 : Int32) then (fX4_nextBorn 0 y5.2 y5.1 (y5.2.1 (4, 0))).bind fun y9 => some (y9.1, y9.2) else (if x3 = (2 : Int32) then if jIn y5.1 18 then some (y5.2.2 (25, 0) y5.1.toNatClampNeg, y5.2) else none else (fX2_biasAt 0 y5.2 y5.1).bind fun y12 => some (y12.1, y12.2))))))
set_option maxRecDepth 10000 in
set_option maxHeartbeats 4000000 in
theorem kX7_queue {E : jE} (hC : jHC E) {S : jS} {x1 : Int32} {x2 : Int32} {x3 : Int32} {r : (Int32 × jS)} (h : fX7_queue  S x1 x2 x3 = some r) : jMR E 3 mX7_queue [.ref (E.1 (0, 0)), .int x1, .int x2, .int x3] S [.int r.1] r.2 := by
  refine ⟨Nat.le_of_ble_eq_true rfl, ?_⟩
  show JR E 3 mX7_queue 0 [(0, .ref (E.1 (0, 0))), (1, .int x1), (2, .int x2), (3, .int x3)] [] S [.int r.1] r.2
  unfold fX7_queue at h
  refine j_aload_n (pc := 0) 0 dX7_queue_0 rfl rfl ?_
  refine jg_0_1 (pc := 1) dX7_queue_1 (hC (0, 0) rfl) tw_479 ?_
  refine jg_2_0 (pc := 4) dX7_queue_4 (hC (2, 0) rfl) tw_233 ?_
  refine j_iload_n (pc := 7) 1 dX7_queue_7 rfl rfl ?_
  refine j_iload_n (pc := 8) 2 dX7_queue_8 rfl rfl ?_
  obtain ⟨y1, hy1, h⟩ := jbnd h
  refine j_callV (pc := 9) (N := mX2_hasQueue) (rr := (3, 0)) (As := [.int x1, .int x2]) (rest := []) (v := [.int y1.1]) (S1 := y1.2) dX7_queue_9 (kX2_hasQueue hC (by decide) hy1) (by simp) (by decide) okX2_hasQueue tw_433 tw_434 tw_519 (hC (3, 0) rfl) rfl rfl rfl rfl (by simp [Value.category]) ?_
  refine j_if_eq (pc := 12) (tgt := 24) dX7_queue_12 (by decide) (fun c2 => ?_) (fun c2 => ?_)
  · replace h := jite_t h c2
    refine j_iconst (pc := 24) dX7_queue_24 jci_m1 ?_
    cases h
    exact j_iret (pc := 25) dX7_queue_25 rfl rfl
  · replace h := jite_f h c2
    refine j_iload_n (pc := 15) 3 dX7_queue_15 rfl rfl ?_
    refine j_iconst (pc := 16) dX7_queue_16 jci_0 ?_
    refine j_iconst (pc := 17) dX7_queue_17 jci_3 ?_
    obtain ⟨y3, hy3, h⟩ := jbnd h
    refine j_callS (pc := 18) (N := mX7_within) (As := [.int x3, .int (0 : Int32), .int (3 : Int32)]) (rest := []) (v := [.int y3.1]) (S1 := y3.2) dX7_queue_18 (kX7_within hC hy3) (by simp) (by decide) okX7_within tw_398 tw_502 rfl rfl (by simp [Value.category]) ?_
    refine j_if_ne (pc := 21) (tgt := 26) dX7_queue_21 (by decide) (fun c4 => ?_) (fun c4 => ?_)
    · replace h := jite_f h c4
      refine j_iload_n (pc := 26) 1 dX7_queue_26 rfl rfl ?_
      refine j_iload_n (pc := 27) 2 dX7_queue_27 rfl rfl ?_
      obtain ⟨y5, hy5, h⟩ := jbnd h
      refine j_callS (pc := 28) (N := mX7_spot) (As := [.int x1, .int x2]) (rest := []) (v := [.int y5.1]) (S1 := y5.2) dX7_queue_28 (kX7_spot hC hy5) (by simp) (by decide) okX7_spot tw_441 tw_520 rfl rfl (by simp [Value.category]) ?_
      refine j_istore (pc := 31) (lv' := [(4, .int y5.1), (0, .ref (E.1 (0, 0))), (1, .int x1), (2, .int x2), (3, .int x3)]) dX7_queue_31 (by decide) rfl ?_
      refine j_iload_n (pc := 33) 4 dX7_queue_33 rfl rfl ?_
      by_cases c6 : x3 = (0 : Int32)
      · replace h := jite_t h c6
        refine j_tabIn (pc := 34) (tgt := 60) (off := 26) dX7_queue_34 (by rw [c6]; decide) (by rw [c6]; decide) (by rw [c6]; rfl) (by decide) ?_
        refine j_aload_n (pc := 60) 1 dX7_queue_60 rfl rfl ?_
        refine jg_0_1 (pc := 61) dX7_queue_61 (hC (0, 0) rfl) tw_479 ?_
        refine jg_2_1 (pc := 64) dX7_queue_64 (hC (2, 0) rfl) tw_237 ?_
        refine jg_4_5 (pc := 67) dX7_queue_67 (hC (4, 0) rfl) tw_210 ?_
        refine j_iload (pc := 70) 0 dX7_queue_70 rfl ?_
        obtain ⟨c7, h⟩ := jchk h
        refine j_ia (pc := 72) dX7_queue_72 rfl (hC (33, 0) rfl) c7 ?_
        cases h
        exact j_iret (pc := 73) dX7_queue_73 rfl rfl
      replace h := jite_f h c6
      by_cases c8 : x3 = (1 : Int32)
      · replace h := jite_t h c8
        refine j_tabIn (pc := 34) (tgt := 74) (off := 40) dX7_queue_34 (by rw [c8]; decide) (by rw [c8]; decide) (by rw [c8]; rfl) (by decide) ?_
        refine j_aload_n (pc := 74) 1 dX7_queue_74 rfl rfl ?_
        refine jg_0_1 (pc := 75) dX7_queue_75 (hC (0, 0) rfl) tw_479 ?_
        refine jg_2_1 (pc := 78) dX7_queue_78 (hC (2, 0) rfl) tw_237 ?_
        refine j_iload (pc := 81) 0 dX7_queue_81 rfl ?_
        refine j_aload_n (pc := 83) 1 dX7_queue_83 rfl rfl ?_
        refine jg_0_1 (pc := 84) dX7_queue_84 (hC (0, 0) rfl) tw_479 ?_
        refine jg_2_0 (pc := 87) dX7_queue_87 (hC (2, 0) rfl) tw_233 ?_
        refine jg_3_3 (pc := 90) dX7_queue_90 (hC (3, 0) rfl) tw_138 ?_
        obtain ⟨y9, hy9, h⟩ := jbnd h
        refine j_callV (pc := 93) (N := mX4_nextBorn) (rr := (4, 0)) (As := [.int y5.1, .int (y5.2.1 (4, 0))]) (rest := []) (v := [.int y9.1]) (S1 := y9.2) dX7_queue_93 (kX4_nextBorn hC (by decide) hy9) (by simp) (by decide) okX4_nextBorn tw_644 tw_645 tw_675 (hC (4, 0) rfl) rfl rfl rfl rfl (by simp [Value.category]) ?_
        cases h
        exact j_iret (pc := 96) dX7_queue_96 rfl rfl
      replace h := jite_f h c8
      by_cases c10 : x3 = (2 : Int32)
      · replace h := jite_t h c10
        refine j_tabIn (pc := 34) (tgt := 97) (off := 63) dX7_queue_34 (by rw [c10]; decide) (by rw [c10]; decide) (by rw [c10]; rfl) (by decide) ?_
        refine j_aload_n (pc := 97) 1 dX7_queue_97 rfl rfl ?_
        refine jg_0_1 (pc := 98) dX7_queue_98 (hC (0, 0) rfl) tw_479 ?_
        refine jg_2_0 (pc := 101) dX7_queue_101 (hC (2, 0) rfl) tw_233 ?_
        refine jg_3_10 (pc := 104) dX7_queue_104 (hC (3, 0) rfl) tw_162 ?_
        refine j_iload (pc := 107) 0 dX7_queue_107 rfl ?_
        obtain ⟨c11, h⟩ := jchk h
        refine j_ia (pc := 109) dX7_queue_109 rfl (hC (25, 0) rfl) c11 ?_
        cases h
        exact j_iret (pc := 110) dX7_queue_110 rfl rfl
      replace h := jite_f h c10
      refine j_tabD (pc := 34) (tgt := 111) dX7_queue_34 (by decide) (fun i hi => match i, hi with | 0, _ => Or.inr (jti c6 rfl) | 1, _ => Or.inr (jti c8 rfl) | 2, _ => Or.inr (jti c10 rfl) | n + 3, h9 => absurd h9 (by simp)) (by decide) ?_
      refine j_aload_n (pc := 111) 1 dX7_queue_111 rfl rfl ?_
      refine jg_0_1 (pc := 112) dX7_queue_112 (hC (0, 0) rfl) tw_479 ?_
      refine jg_2_0 (pc := 115) dX7_queue_115 (hC (2, 0) rfl) tw_233 ?_
      refine j_iload (pc := 118) 0 dX7_queue_118 rfl ?_
      obtain ⟨y12, hy12, h⟩ := jbnd h
      refine j_callV (pc := 120) (N := mX2_biasAt) (rr := (3, 0)) (As := [.int y5.1]) (rest := []) (v := [.int y12.1]) (S1 := y12.2) dX7_queue_120 (kX2_biasAt hC (by decide) hy12) (by simp) (by decide) okX2_biasAt tw_611 tw_612 tw_676 (hC (3, 0) rfl) rfl rfl rfl rfl (by simp [Value.category]) ?_
      cases h
      exact j_iret (pc := 123) dX7_queue_123 rfl rfl
    · replace h := jite_t h c4
      refine j_iconst (pc := 24) dX7_queue_24 jci_m1 ?_
      cases h
      exact j_iret (pc := 25) dX7_queue_25 rfl rfl
abbrev mX7_linkAsQueuesAre : jM := (yX7_linkAsQueuesAre, cX7_linkAsQueuesAre, 3, (some .int))
theorem okX7_linkAsQueuesAre : jOK mX7_linkAsQueuesAre 2 := ⟨by decide +kernel, tw_684, tw_69, by decide +kernel, by decide, by decide⟩
def fX7_linkAsQueuesAre  (S : jS) (x1 : Int32) (x2 : Int32) : Option (Int32 × jS) :=
  (fX3_weigh 0 0 S).bind fun y1 => (if x2 = (3 : Int32) then if jIn x1 10 then some (y1.2 (40, 0) x1.toNatClampNeg, y1) else none else (if x2 = (4 : Int32) then if jIn x1 10 then some (y1.2 (41, 0) x1.toNatClampNeg, y1) else none else (fX3_pick 0 0 y1 (0 : Int32)).bind fun y4 => some (((y4.1 (10, 0)) >>> (x1 &&& 31)) &&& (1 : Int32), y4)))
set_option maxRecDepth 10000 in
set_option maxHeartbeats 4000000 in
theorem kX7_linkAsQueuesAre {E : jE} (hC : jHC E) {S : jS} {x1 : Int32} {x2 : Int32} {r : (Int32 × jS)} (h : fX7_linkAsQueuesAre  S x1 x2 = some r) : jMR E 17 mX7_linkAsQueuesAre [.ref (E.1 (0, 0)), .int x1, .int x2] S [.int r.1] r.2 := by
  refine ⟨Nat.le_of_ble_eq_true rfl, ?_⟩
  show JR E 17 mX7_linkAsQueuesAre 0 [(0, .ref (E.1 (0, 0))), (1, .int x1), (2, .int x2)] [] S [.int r.1] r.2
  unfold fX7_linkAsQueuesAre at h
  refine j_aload_n (pc := 0) 0 dX7_linkAsQueuesAre_0 rfl rfl ?_
  refine jg_0_4 (pc := 1) dX7_linkAsQueuesAre_1 (hC (0, 0) rfl) tw_482 ?_
  refine j_aload_n (pc := 4) 0 dX7_linkAsQueuesAre_4 rfl rfl ?_
  refine jg_0_1 (pc := 5) dX7_linkAsQueuesAre_5 (hC (0, 0) rfl) tw_479 ?_
  obtain ⟨y1, hy1, h⟩ := jbnd h
  refine j_callV (pc := 8) (N := mX3_weigh) (rr := (7, 0)) (As := [.ref (E.1 (2, 0))]) (rest := []) (v := []) (S1 := y1) dX7_linkAsQueuesAre_8 (kX3_weigh hC (by decide) (by decide) hy1) (by simp) (by decide) okX3_weigh tw_598 tw_599 tw_685 (hC (7, 0) rfl) rfl rfl rfl rfl (by simp [Value.category]) ?_
  refine j_iload_n (pc := 11) 2 dX7_linkAsQueuesAre_11 rfl rfl ?_
  refine j_iconst (pc := 12) dX7_linkAsQueuesAre_12 jci_3 ?_
  refine j_icmp_ne (pc := 13) (tgt := 26) dX7_linkAsQueuesAre_13 (by decide) (fun c2 => ?_) (fun c2 => ?_)
  · replace h := jite_f h c2
    refine j_iload_n (pc := 26) 2 dX7_linkAsQueuesAre_26 rfl rfl ?_
    refine j_iconst (pc := 27) dX7_linkAsQueuesAre_27 jci_4 ?_
    refine j_icmp_ne (pc := 28) (tgt := 41) dX7_linkAsQueuesAre_28 (by decide) (fun c3 => ?_) (fun c3 => ?_)
    · replace h := jite_f h c3
      refine j_aload_n (pc := 41) 0 dX7_linkAsQueuesAre_41 rfl rfl ?_
      refine jg_0_4 (pc := 42) dX7_linkAsQueuesAre_42 (hC (0, 0) rfl) tw_482 ?_
      refine j_aload_n (pc := 45) 0 dX7_linkAsQueuesAre_45 rfl rfl ?_
      refine jg_0_1 (pc := 46) dX7_linkAsQueuesAre_46 (hC (0, 0) rfl) tw_479 ?_
      refine jg_2_0 (pc := 49) dX7_linkAsQueuesAre_49 (hC (2, 0) rfl) tw_233 ?_
      refine j_iconst (pc := 52) dX7_linkAsQueuesAre_52 jci_0 ?_
      obtain ⟨y4, hy4, h⟩ := jbnd h
      refine j_callV (pc := 53) (N := mX3_pick) (rr := (7, 0)) (As := [.ref (E.1 (3, 0)), .int (0 : Int32)]) (rest := []) (v := []) (S1 := y4) dX7_linkAsQueuesAre_53 (kX3_pick hC (by decide) (by decide) hy4) (by simp) (by decide) okX3_pick tw_615 tw_616 tw_686 (hC (7, 0) rfl) rfl rfl rfl rfl (by simp [Value.category]) ?_
      refine j_aload_n (pc := 56) 0 dX7_linkAsQueuesAre_56 rfl rfl ?_
      refine jg_0_4 (pc := 57) dX7_linkAsQueuesAre_57 (hC (0, 0) rfl) tw_482 ?_
      refine jg_7_0 (pc := 60) dX7_linkAsQueuesAre_60 (hC (7, 0) rfl) tw_271 ?_
      refine j_iload_n (pc := 63) 1 dX7_linkAsQueuesAre_63 rfl rfl ?_
      refine j_ishr (pc := 64) dX7_linkAsQueuesAre_64 ?_
      refine j_iconst (pc := 65) dX7_linkAsQueuesAre_65 jci_1 ?_
      refine j_iand (pc := 66) dX7_linkAsQueuesAre_66 ?_
      cases h
      exact j_iret (pc := 67) dX7_linkAsQueuesAre_67 rfl rfl
    · replace h := jite_t h c3
      refine j_aload_n (pc := 31) 0 dX7_linkAsQueuesAre_31 rfl rfl ?_
      refine jg_0_4 (pc := 32) dX7_linkAsQueuesAre_32 (hC (0, 0) rfl) tw_482 ?_
      refine jg_7_3 (pc := 35) dX7_linkAsQueuesAre_35 (hC (7, 0) rfl) tw_278 ?_
      refine j_iload_n (pc := 38) 1 dX7_linkAsQueuesAre_38 rfl rfl ?_
      obtain ⟨c5, h⟩ := jchk h
      refine j_ia (pc := 39) dX7_linkAsQueuesAre_39 rfl (hC (41, 0) rfl) c5 ?_
      cases h
      exact j_iret (pc := 40) dX7_linkAsQueuesAre_40 rfl rfl
  · replace h := jite_t h c2
    refine j_aload_n (pc := 16) 0 dX7_linkAsQueuesAre_16 rfl rfl ?_
    refine jg_0_4 (pc := 17) dX7_linkAsQueuesAre_17 (hC (0, 0) rfl) tw_482 ?_
    refine jg_7_2 (pc := 20) dX7_linkAsQueuesAre_20 (hC (7, 0) rfl) tw_276 ?_
    refine j_iload_n (pc := 23) 1 dX7_linkAsQueuesAre_23 rfl rfl ?_
    obtain ⟨c6, h⟩ := jchk h
    refine j_ia (pc := 24) dX7_linkAsQueuesAre_24 rfl (hC (40, 0) rfl) c6 ?_
    cases h
    exact j_iret (pc := 25) dX7_linkAsQueuesAre_25 rfl rfl
abbrev mX7_link : jM := (yX7_link, cX7_link, 3, (some .int))
theorem okX7_link : jOK mX7_link 2 := ⟨by decide +kernel, tw_680, tw_69, by decide +kernel, by decide, by decide⟩
def fX7_link  (S : jS) (x1 : Int32) (x2 : Int32) : Option (Int32 × jS) :=
  (fX2_hasLink 0 S x1).bind fun y1 => (if y1.1 = 0 then some ((-1 : Int32), y1.2) else (fX7_within y1.2 x2 (0 : Int32) (6 : Int32)).bind fun y3 => (if y3.1 = 0 then some ((-1 : Int32), y3.2) else (if x2 = (0 : Int32) then if jIn x1 10 then some (y3.2.2 (21, 0) x1.toNatClampNeg, y3.2) else none else (if x2 = (1 : Int32) then if jIn x1 10 then some (y3.2.2 (22, 0) x1.toNatClampNeg, y3.2) else none else (if x2 = (2 : Int32) then if jIn x1 10 then some (y3.2.2 (23, 0) x1.toNatClampNeg, y3.2) else none else (if x2 = (6 : Int32) then if jIn x1 10 then some (y3.2.2 (24, 0) x1.toNatClampNeg, y3.2) else none else (fX7_linkAsQueuesAre y3.2 x1 x2).bind fun y13 => some (y13.1, y13.2)))))))
set_option maxRecDepth 10000 in
set_option maxHeartbeats 4000000 in
theorem kX7_link {E : jE} (hC : jHC E) {S : jS} {x1 : Int32} {x2 : Int32} {r : (Int32 × jS)} (h : fX7_link  S x1 x2 = some r) : jMR E 18 mX7_link [.ref (E.1 (0, 0)), .int x1, .int x2] S [.int r.1] r.2 := by
  refine ⟨Nat.le_of_ble_eq_true rfl, ?_⟩
  show JR E 18 mX7_link 0 [(0, .ref (E.1 (0, 0))), (1, .int x1), (2, .int x2)] [] S [.int r.1] r.2
  unfold fX7_link at h
  refine j_aload_n (pc := 0) 0 dX7_link_0 rfl rfl ?_
  refine jg_0_1 (pc := 1) dX7_link_1 (hC (0, 0) rfl) tw_479 ?_
  refine jg_2_0 (pc := 4) dX7_link_4 (hC (2, 0) rfl) tw_233 ?_
  refine j_iload_n (pc := 7) 1 dX7_link_7 rfl rfl ?_
  obtain ⟨y1, hy1, h⟩ := jbnd h
  refine j_callV (pc := 8) (N := mX2_hasLink) (rr := (3, 0)) (As := [.int x1]) (rest := []) (v := [.int y1.1]) (S1 := y1.2) dX7_link_8 (kX2_hasLink hC (by decide) hy1) (by simp) (by decide) okX2_hasLink tw_417 tw_418 tw_540 (hC (3, 0) rfl) rfl rfl rfl rfl (by simp [Value.category]) ?_
  refine j_if_eq (pc := 11) (tgt := 24) dX7_link_11 (by decide) (fun c2 => ?_) (fun c2 => ?_)
  · replace h := jite_t h c2
    refine j_iconst (pc := 24) dX7_link_24 jci_m1 ?_
    cases h
    exact j_iret (pc := 25) dX7_link_25 rfl rfl
  · replace h := jite_f h c2
    refine j_iload_n (pc := 14) 2 dX7_link_14 rfl rfl ?_
    refine j_iconst (pc := 15) dX7_link_15 jci_0 ?_
    refine j_bipush (pc := 16) dX7_link_16 jcb_6 ?_
    obtain ⟨y3, hy3, h⟩ := jbnd h
    refine j_callS (pc := 18) (N := mX7_within) (As := [.int x2, .int (0 : Int32), .int (6 : Int32)]) (rest := []) (v := [.int y3.1]) (S1 := y3.2) dX7_link_18 (kX7_within hC hy3) (by simp) (by decide) okX7_within tw_398 tw_502 rfl rfl (by simp [Value.category]) ?_
    refine j_if_ne (pc := 21) (tgt := 26) dX7_link_21 (by decide) (fun c4 => ?_) (fun c4 => ?_)
    · replace h := jite_f h c4
      refine j_iload_n (pc := 26) 2 dX7_link_26 rfl rfl ?_
      by_cases c5 : x2 = (0 : Int32)
      · replace h := jite_t h c5
        refine j_tabIn (pc := 27) (tgt := 68) (off := 41) dX7_link_27 (by rw [c5]; decide) (by rw [c5]; decide) (by rw [c5]; rfl) (by decide) ?_
        refine j_aload_n (pc := 68) 0 dX7_link_68 rfl rfl ?_
        refine jg_0_1 (pc := 69) dX7_link_69 (hC (0, 0) rfl) tw_479 ?_
        refine jg_2_0 (pc := 72) dX7_link_72 (hC (2, 0) rfl) tw_233 ?_
        refine jg_3_6 (pc := 75) dX7_link_75 (hC (3, 0) rfl) tw_148 ?_
        refine j_iload_n (pc := 78) 1 dX7_link_78 rfl rfl ?_
        obtain ⟨c6, h⟩ := jchk h
        refine j_ia (pc := 79) dX7_link_79 rfl (hC (21, 0) rfl) c6 ?_
        cases h
        exact j_iret (pc := 80) dX7_link_80 rfl rfl
      replace h := jite_f h c5
      by_cases c7 : x2 = (1 : Int32)
      · replace h := jite_t h c7
        refine j_tabIn (pc := 27) (tgt := 81) (off := 54) dX7_link_27 (by rw [c7]; decide) (by rw [c7]; decide) (by rw [c7]; rfl) (by decide) ?_
        refine j_aload_n (pc := 81) 0 dX7_link_81 rfl rfl ?_
        refine jg_0_1 (pc := 82) dX7_link_82 (hC (0, 0) rfl) tw_479 ?_
        refine jg_2_0 (pc := 85) dX7_link_85 (hC (2, 0) rfl) tw_233 ?_
        refine jg_3_7 (pc := 88) dX7_link_88 (hC (3, 0) rfl) tw_152 ?_
        refine j_iload_n (pc := 91) 1 dX7_link_91 rfl rfl ?_
        obtain ⟨c8, h⟩ := jchk h
        refine j_ia (pc := 92) dX7_link_92 rfl (hC (22, 0) rfl) c8 ?_
        cases h
        exact j_iret (pc := 93) dX7_link_93 rfl rfl
      replace h := jite_f h c7
      by_cases c9 : x2 = (2 : Int32)
      · replace h := jite_t h c9
        refine j_tabIn (pc := 27) (tgt := 94) (off := 67) dX7_link_27 (by rw [c9]; decide) (by rw [c9]; decide) (by rw [c9]; rfl) (by decide) ?_
        refine j_aload_n (pc := 94) 0 dX7_link_94 rfl rfl ?_
        refine jg_0_1 (pc := 95) dX7_link_95 (hC (0, 0) rfl) tw_479 ?_
        refine jg_2_0 (pc := 98) dX7_link_98 (hC (2, 0) rfl) tw_233 ?_
        refine jg_3_8 (pc := 101) dX7_link_101 (hC (3, 0) rfl) tw_156 ?_
        refine j_iload_n (pc := 104) 1 dX7_link_104 rfl rfl ?_
        obtain ⟨c10, h⟩ := jchk h
        refine j_ia (pc := 105) dX7_link_105 rfl (hC (23, 0) rfl) c10 ?_
        cases h
        exact j_iret (pc := 106) dX7_link_106 rfl rfl
      replace h := jite_f h c9
      by_cases c11 : x2 = (6 : Int32)
      · replace h := jite_t h c11
        refine j_tabIn (pc := 27) (tgt := 107) (off := 80) dX7_link_27 (by rw [c11]; decide) (by rw [c11]; decide) (by rw [c11]; rfl) (by decide) ?_
        refine j_aload_n (pc := 107) 0 dX7_link_107 rfl rfl ?_
        refine jg_0_1 (pc := 108) dX7_link_108 (hC (0, 0) rfl) tw_479 ?_
        refine jg_2_0 (pc := 111) dX7_link_111 (hC (2, 0) rfl) tw_233 ?_
        refine jg_3_9 (pc := 114) dX7_link_114 (hC (3, 0) rfl) tw_159 ?_
        refine j_iload_n (pc := 117) 1 dX7_link_117 rfl rfl ?_
        obtain ⟨c12, h⟩ := jchk h
        refine j_ia (pc := 118) dX7_link_118 rfl (hC (24, 0) rfl) c12 ?_
        cases h
        exact j_iret (pc := 119) dX7_link_119 rfl rfl
      replace h := jite_f h c11
      refine j_tabD (pc := 27) (tgt := 120) dX7_link_27 (by decide) (fun i hi => match i, hi with | 0, _ => Or.inr (jti c5 rfl) | 1, _ => Or.inr (jti c7 rfl) | 2, _ => Or.inr (jti c9 rfl) | 3, _ => Or.inl rfl | 4, _ => Or.inl rfl | 5, _ => Or.inl rfl | 6, _ => Or.inr (jti c11 rfl) | n + 7, h9 => absurd h9 (by simp)) (by decide) ?_
      refine j_aload_n (pc := 120) 0 dX7_link_120 rfl rfl ?_
      refine j_iload_n (pc := 121) 1 dX7_link_121 rfl rfl ?_
      refine j_iload_n (pc := 122) 2 dX7_link_122 rfl rfl ?_
      obtain ⟨y13, hy13, h⟩ := jbnd h
      refine j_callV (pc := 123) (N := mX7_linkAsQueuesAre) (rr := (0, 0)) (As := [.int x1, .int x2]) (rest := []) (v := [.int y13.1]) (S1 := y13.2) dX7_link_123 (kX7_linkAsQueuesAre hC hy13) (by simp) (by decide) okX7_linkAsQueuesAre tw_683 tw_18 tw_681 (hC (0, 0) rfl) rfl rfl rfl rfl (by simp [Value.category]) ?_
      cases h
      exact j_iret (pc := 126) dX7_link_126 rfl rfl
    · replace h := jite_t h c4
      refine j_iconst (pc := 24) dX7_link_24 jci_m1 ?_
      cases h
      exact j_iret (pc := 25) dX7_link_25 rfl rfl
abbrev mX7_drop : jM := (yX7_drop, cX7_drop, 3, (some .int))
theorem okX7_drop : jOK mX7_drop 2 := ⟨by decide +kernel, tw_690, tw_69, by decide +kernel, by decide, by decide⟩
def fX7_drop  (S : jS) (x1 : Int32) (x2 : Int32) : Option (Int32 × jS) :=
  (fX2_hasLink 0 S x1).bind fun y1 => (if y1.1 = 0 then some ((-1 : Int32), y1.2) else (fX2_hasGoal 0 y1.2 x2).bind fun y3 => (if y3.1 = 0 then some ((-1 : Int32), y3.2) else (fX6_dropOf 0 y3.2 x1 x2).bind fun y5 => some (y5.1 + (1000 : Int32), y5.2)))
set_option maxRecDepth 10000 in
set_option maxHeartbeats 4000000 in
theorem kX7_drop {E : jE} (hC : jHC E) {S : jS} {x1 : Int32} {x2 : Int32} {r : (Int32 × jS)} (h : fX7_drop  S x1 x2 = some r) : jMR E 3 mX7_drop [.ref (E.1 (0, 0)), .int x1, .int x2] S [.int r.1] r.2 := by
  refine ⟨Nat.le_of_ble_eq_true rfl, ?_⟩
  show JR E 3 mX7_drop 0 [(0, .ref (E.1 (0, 0))), (1, .int x1), (2, .int x2)] [] S [.int r.1] r.2
  unfold fX7_drop at h
  refine j_aload_n (pc := 0) 0 dX7_drop_0 rfl rfl ?_
  refine jg_0_1 (pc := 1) dX7_drop_1 (hC (0, 0) rfl) tw_479 ?_
  refine jg_2_0 (pc := 4) dX7_drop_4 (hC (2, 0) rfl) tw_233 ?_
  refine j_iload_n (pc := 7) 1 dX7_drop_7 rfl rfl ?_
  obtain ⟨y1, hy1, h⟩ := jbnd h
  refine j_callV (pc := 8) (N := mX2_hasLink) (rr := (3, 0)) (As := [.int x1]) (rest := []) (v := [.int y1.1]) (S1 := y1.2) dX7_drop_8 (kX2_hasLink hC (by decide) hy1) (by simp) (by decide) okX2_hasLink tw_417 tw_418 tw_540 (hC (3, 0) rfl) rfl rfl rfl rfl (by simp [Value.category]) ?_
  refine j_if_eq (pc := 11) (tgt := 28) dX7_drop_11 (by decide) (fun c2 => ?_) (fun c2 => ?_)
  · replace h := jite_t h c2
    refine j_iconst (pc := 28) dX7_drop_28 jci_m1 ?_
    cases h
    exact j_iret (pc := 29) dX7_drop_29 rfl rfl
  · replace h := jite_f h c2
    refine j_aload_n (pc := 14) 0 dX7_drop_14 rfl rfl ?_
    refine jg_0_1 (pc := 15) dX7_drop_15 (hC (0, 0) rfl) tw_479 ?_
    refine jg_2_0 (pc := 18) dX7_drop_18 (hC (2, 0) rfl) tw_233 ?_
    refine j_iload_n (pc := 21) 2 dX7_drop_21 rfl rfl ?_
    obtain ⟨y3, hy3, h⟩ := jbnd h
    refine j_callV (pc := 22) (N := mX2_hasGoal) (rr := (3, 0)) (As := [.int x2]) (rest := []) (v := [.int y3.1]) (S1 := y3.2) dX7_drop_22 (kX2_hasGoal hC (by decide) hy3) (by simp) (by decide) okX2_hasGoal tw_437 tw_438 tw_691 (hC (3, 0) rfl) rfl rfl rfl rfl (by simp [Value.category]) ?_
    refine j_if_ne (pc := 25) (tgt := 30) dX7_drop_25 (by decide) (fun c4 => ?_) (fun c4 => ?_)
    · replace h := jite_f h c4
      refine j_aload_n (pc := 30) 0 dX7_drop_30 rfl rfl ?_
      refine jg_0_1 (pc := 31) dX7_drop_31 (hC (0, 0) rfl) tw_479 ?_
      refine j_iload_n (pc := 34) 1 dX7_drop_34 rfl rfl ?_
      refine j_iload_n (pc := 35) 2 dX7_drop_35 rfl rfl ?_
      obtain ⟨y5, hy5, h⟩ := jbnd h
      refine j_callV (pc := 36) (N := mX6_dropOf) (rr := (2, 0)) (As := [.int x1, .int x2]) (rest := []) (v := [.int y5.1]) (S1 := y5.2) dX7_drop_36 (kX6_dropOf hC (by decide) hy5) (by simp) (by decide) okX6_dropOf tw_606 tw_607 tw_692 (hC (2, 0) rfl) rfl rfl rfl rfl (by simp [Value.category]) ?_
      refine j_sipush (pc := 39) dX7_drop_39 jcs_1000 ?_
      refine j_iadd (pc := 42) dX7_drop_42 ?_
      cases h
      exact j_iret (pc := 43) dX7_drop_43 rfl rfl
    · replace h := jite_t h c4
      refine j_iconst (pc := 28) dX7_drop_28 jci_m1 ?_
      cases h
      exact j_iret (pc := 29) dX7_drop_29 rfl rfl
abbrev mX7_goes : jM := (yX7_goes, cX7_goes, 2, (some .int))
theorem okX7_goes : jOK mX7_goes 1 := ⟨by decide +kernel, tw_696, tw_69, by decide +kernel, by decide, by decide⟩
def fX7_goes  (S : jS) (x1 : Int32) : Option (Int32 × jS) :=
  (fX7_within S x1 (0 : Int32) (1 : Int32)).bind fun y1 => (if y1.1 = 0 then some ((-1 : Int32), y1.2) else (fX3_weigh 0 0 y1.2).bind fun y3 => (fX3_pick 0 0 y3 (0 : Int32)).bind fun y4 => (if x1 = 0 then some (y4.1 (10, 0), y4) else some (y4.1 (11, 0), y4)))
set_option maxRecDepth 10000 in
set_option maxHeartbeats 4000000 in
theorem kX7_goes {E : jE} (hC : jHC E) {S : jS} {x1 : Int32} {r : (Int32 × jS)} (h : fX7_goes  S x1 = some r) : jMR E 17 mX7_goes [.ref (E.1 (0, 0)), .int x1] S [.int r.1] r.2 := by
  refine ⟨Nat.le_of_ble_eq_true rfl, ?_⟩
  show JR E 17 mX7_goes 0 [(0, .ref (E.1 (0, 0))), (1, .int x1)] [] S [.int r.1] r.2
  unfold fX7_goes at h
  refine j_iload_n (pc := 0) 1 dX7_goes_0 rfl rfl ?_
  refine j_iconst (pc := 1) dX7_goes_1 jci_0 ?_
  refine j_iconst (pc := 2) dX7_goes_2 jci_1 ?_
  obtain ⟨y1, hy1, h⟩ := jbnd h
  refine j_callS (pc := 3) (N := mX7_within) (As := [.int x1, .int (0 : Int32), .int (1 : Int32)]) (rest := []) (v := [.int y1.1]) (S1 := y1.2) dX7_goes_3 (kX7_within hC hy1) (by simp) (by decide) okX7_within tw_398 tw_502 rfl rfl (by simp [Value.category]) ?_
  refine j_if_ne (pc := 6) (tgt := 11) dX7_goes_6 (by decide) (fun c2 => ?_) (fun c2 => ?_)
  · replace h := jite_f h c2
    refine j_aload_n (pc := 11) 0 dX7_goes_11 rfl rfl ?_
    refine jg_0_4 (pc := 12) dX7_goes_12 (hC (0, 0) rfl) tw_482 ?_
    refine j_aload_n (pc := 15) 0 dX7_goes_15 rfl rfl ?_
    refine jg_0_1 (pc := 16) dX7_goes_16 (hC (0, 0) rfl) tw_479 ?_
    obtain ⟨y3, hy3, h⟩ := jbnd h
    refine j_callV (pc := 19) (N := mX3_weigh) (rr := (7, 0)) (As := [.ref (E.1 (2, 0))]) (rest := []) (v := []) (S1 := y3) dX7_goes_19 (kX3_weigh hC (by decide) (by decide) hy3) (by simp) (by decide) okX3_weigh tw_598 tw_599 tw_685 (hC (7, 0) rfl) rfl rfl rfl rfl (by simp [Value.category]) ?_
    refine j_aload_n (pc := 22) 0 dX7_goes_22 rfl rfl ?_
    refine jg_0_4 (pc := 23) dX7_goes_23 (hC (0, 0) rfl) tw_482 ?_
    refine j_aload_n (pc := 26) 0 dX7_goes_26 rfl rfl ?_
    refine jg_0_1 (pc := 27) dX7_goes_27 (hC (0, 0) rfl) tw_479 ?_
    refine jg_2_0 (pc := 30) dX7_goes_30 (hC (2, 0) rfl) tw_233 ?_
    refine j_iconst (pc := 33) dX7_goes_33 jci_0 ?_
    obtain ⟨y4, hy4, h⟩ := jbnd h
    refine j_callV (pc := 34) (N := mX3_pick) (rr := (7, 0)) (As := [.ref (E.1 (3, 0)), .int (0 : Int32)]) (rest := []) (v := []) (S1 := y4) dX7_goes_34 (kX3_pick hC (by decide) (by decide) hy4) (by simp) (by decide) okX3_pick tw_615 tw_616 tw_686 (hC (7, 0) rfl) rfl rfl rfl rfl (by simp [Value.category]) ?_
    refine j_iload_n (pc := 37) 1 dX7_goes_37 rfl rfl ?_
    refine j_if_ne (pc := 38) (tgt := 51) dX7_goes_38 (by decide) (fun c5 => ?_) (fun c5 => ?_)
    · replace h := jite_f h c5
      refine j_aload_n (pc := 51) 0 dX7_goes_51 rfl rfl ?_
      refine jg_0_4 (pc := 52) dX7_goes_52 (hC (0, 0) rfl) tw_482 ?_
      refine jg_7_1 (pc := 55) dX7_goes_55 (hC (7, 0) rfl) tw_273 ?_
      cases h
      exact j_iret (pc := 58) dX7_goes_58 rfl rfl
    · replace h := jite_t h c5
      refine j_aload_n (pc := 41) 0 dX7_goes_41 rfl rfl ?_
      refine jg_0_4 (pc := 42) dX7_goes_42 (hC (0, 0) rfl) tw_482 ?_
      refine jg_7_0 (pc := 45) dX7_goes_45 (hC (7, 0) rfl) tw_271 ?_
      refine j_goto (pc := 48) (tgt := 58) dX7_goes_48 (by decide) ?_
      cases h
      exact j_iret (pc := 58) dX7_goes_58 rfl rfl
  · replace h := jite_t h c2
    refine j_iconst (pc := 9) dX7_goes_9 jci_m1 ?_
    cases h
    exact j_iret (pc := 10) dX7_goes_10 rfl rfl
abbrev mX7_goal : jM := (yX7_goal, cX7_goal, 3, (some .int))
theorem okX7_goal : jOK mX7_goal 2 := ⟨by decide +kernel, tw_700, tw_69, by decide +kernel, by decide, by decide⟩
def fX7_goal  (S : jS) (x1 : Int32) (x2 : Int32) : Option (Int32 × jS) :=
  (fX2_hasGoal 0 S x1).bind fun y1 => (if y1.1 = 0 then some ((-1 : Int32), y1.2) else (fX7_within y1.2 x2 (0 : Int32) (4 : Int32)).bind fun y3 => (if y3.1 = 0 then some ((-1 : Int32), y3.2) else (if x2 = (0 : Int32) then if jIn x1 3 then some (y3.2.2 (20, 0) x1.toNatClampNeg, y3.2) else none else (if x2 = (1 : Int32) then if jIn x1 3 then some (y3.2.2 (30, 0) x1.toNatClampNeg, y3.2) else none else (if x2 = (2 : Int32) then if jIn x1 3 then some (y3.2.2 (31, 0) x1.toNatClampNeg, y3.2) else none else (if x2 = (3 : Int32) then if jIn x1 3 then (if (y3.2.2 (30, 0) x1.toNatClampNeg) = 0 then some ((-4 : Int32), y3.2) else if jIn x1 3 then some (y3.2.2 (32, 0) x1.toNatClampNeg, y3.2) else none) else none else (fX4_packetsFor 0 y3.2 x1).bind fun y15 => some (y15.1, y15.2)))))))
set_option maxRecDepth 10000 in
set_option maxHeartbeats 4000000 in
theorem kX7_goal {E : jE} (hC : jHC E) {S : jS} {x1 : Int32} {x2 : Int32} {r : (Int32 × jS)} (h : fX7_goal  S x1 x2 = some r) : jMR E 3 mX7_goal [.ref (E.1 (0, 0)), .int x1, .int x2] S [.int r.1] r.2 := by
  refine ⟨Nat.le_of_ble_eq_true rfl, ?_⟩
  show JR E 3 mX7_goal 0 [(0, .ref (E.1 (0, 0))), (1, .int x1), (2, .int x2)] [] S [.int r.1] r.2
  unfold fX7_goal at h
  refine j_aload_n (pc := 0) 0 dX7_goal_0 rfl rfl ?_
  refine jg_0_1 (pc := 1) dX7_goal_1 (hC (0, 0) rfl) tw_479 ?_
  refine jg_2_0 (pc := 4) dX7_goal_4 (hC (2, 0) rfl) tw_233 ?_
  refine j_iload_n (pc := 7) 1 dX7_goal_7 rfl rfl ?_
  obtain ⟨y1, hy1, h⟩ := jbnd h
  refine j_callV (pc := 8) (N := mX2_hasGoal) (rr := (3, 0)) (As := [.int x1]) (rest := []) (v := [.int y1.1]) (S1 := y1.2) dX7_goal_8 (kX2_hasGoal hC (by decide) hy1) (by simp) (by decide) okX2_hasGoal tw_437 tw_438 tw_691 (hC (3, 0) rfl) rfl rfl rfl rfl (by simp [Value.category]) ?_
  refine j_if_eq (pc := 11) (tgt := 23) dX7_goal_11 (by decide) (fun c2 => ?_) (fun c2 => ?_)
  · replace h := jite_t h c2
    refine j_iconst (pc := 23) dX7_goal_23 jci_m1 ?_
    cases h
    exact j_iret (pc := 24) dX7_goal_24 rfl rfl
  · replace h := jite_f h c2
    refine j_iload_n (pc := 14) 2 dX7_goal_14 rfl rfl ?_
    refine j_iconst (pc := 15) dX7_goal_15 jci_0 ?_
    refine j_iconst (pc := 16) dX7_goal_16 jci_4 ?_
    obtain ⟨y3, hy3, h⟩ := jbnd h
    refine j_callS (pc := 17) (N := mX7_within) (As := [.int x2, .int (0 : Int32), .int (4 : Int32)]) (rest := []) (v := [.int y3.1]) (S1 := y3.2) dX7_goal_17 (kX7_within hC hy3) (by simp) (by decide) okX7_within tw_398 tw_502 rfl rfl (by simp [Value.category]) ?_
    refine j_if_ne (pc := 20) (tgt := 25) dX7_goal_20 (by decide) (fun c4 => ?_) (fun c4 => ?_)
    · replace h := jite_f h c4
      refine j_iload_n (pc := 25) 2 dX7_goal_25 rfl rfl ?_
      by_cases c5 : x2 = (0 : Int32)
      · replace h := jite_t h c5
        refine j_tabIn (pc := 26) (tgt := 56) (off := 30) dX7_goal_26 (by rw [c5]; decide) (by rw [c5]; decide) (by rw [c5]; rfl) (by decide) ?_
        refine j_aload_n (pc := 56) 0 dX7_goal_56 rfl rfl ?_
        refine jg_0_1 (pc := 57) dX7_goal_57 (hC (0, 0) rfl) tw_479 ?_
        refine jg_2_0 (pc := 60) dX7_goal_60 (hC (2, 0) rfl) tw_233 ?_
        refine jg_3_5 (pc := 63) dX7_goal_63 (hC (3, 0) rfl) tw_143 ?_
        refine j_iload_n (pc := 66) 1 dX7_goal_66 rfl rfl ?_
        obtain ⟨c6, h⟩ := jchk h
        refine j_ia (pc := 67) dX7_goal_67 rfl (hC (20, 0) rfl) c6 ?_
        cases h
        exact j_iret (pc := 68) dX7_goal_68 rfl rfl
      replace h := jite_f h c5
      by_cases c7 : x2 = (1 : Int32)
      · replace h := jite_t h c7
        refine j_tabIn (pc := 26) (tgt := 69) (off := 43) dX7_goal_26 (by rw [c7]; decide) (by rw [c7]; decide) (by rw [c7]; rfl) (by decide) ?_
        refine j_aload_n (pc := 69) 0 dX7_goal_69 rfl rfl ?_
        refine jg_0_1 (pc := 70) dX7_goal_70 (hC (0, 0) rfl) tw_479 ?_
        refine jg_2_1 (pc := 73) dX7_goal_73 (hC (2, 0) rfl) tw_237 ?_
        refine jg_4_2 (pc := 76) dX7_goal_76 (hC (4, 0) rfl) tw_201 ?_
        refine j_iload_n (pc := 79) 1 dX7_goal_79 rfl rfl ?_
        obtain ⟨c8, h⟩ := jchk h
        refine j_ia (pc := 80) dX7_goal_80 rfl (hC (30, 0) rfl) c8 ?_
        cases h
        exact j_iret (pc := 81) dX7_goal_81 rfl rfl
      replace h := jite_f h c7
      by_cases c9 : x2 = (2 : Int32)
      · replace h := jite_t h c9
        refine j_tabIn (pc := 26) (tgt := 82) (off := 56) dX7_goal_26 (by rw [c9]; decide) (by rw [c9]; decide) (by rw [c9]; rfl) (by decide) ?_
        refine j_aload_n (pc := 82) 0 dX7_goal_82 rfl rfl ?_
        refine jg_0_1 (pc := 83) dX7_goal_83 (hC (0, 0) rfl) tw_479 ?_
        refine jg_2_1 (pc := 86) dX7_goal_86 (hC (2, 0) rfl) tw_237 ?_
        refine jg_4_3 (pc := 89) dX7_goal_89 (hC (4, 0) rfl) tw_203 ?_
        refine j_iload_n (pc := 92) 1 dX7_goal_92 rfl rfl ?_
        obtain ⟨c10, h⟩ := jchk h
        refine j_ia (pc := 93) dX7_goal_93 rfl (hC (31, 0) rfl) c10 ?_
        cases h
        exact j_iret (pc := 94) dX7_goal_94 rfl rfl
      replace h := jite_f h c9
      by_cases c11 : x2 = (3 : Int32)
      · replace h := jite_t h c11
        refine j_tabIn (pc := 26) (tgt := 95) (off := 69) dX7_goal_26 (by rw [c11]; decide) (by rw [c11]; decide) (by rw [c11]; rfl) (by decide) ?_
        refine j_aload_n (pc := 95) 0 dX7_goal_95 rfl rfl ?_
        refine jg_0_1 (pc := 96) dX7_goal_96 (hC (0, 0) rfl) tw_479 ?_
        refine jg_2_1 (pc := 99) dX7_goal_99 (hC (2, 0) rfl) tw_237 ?_
        refine jg_4_2 (pc := 102) dX7_goal_102 (hC (4, 0) rfl) tw_201 ?_
        refine j_iload_n (pc := 105) 1 dX7_goal_105 rfl rfl ?_
        obtain ⟨c12, h⟩ := jchk h
        refine j_ia (pc := 106) dX7_goal_106 rfl (hC (30, 0) rfl) c12 ?_
        refine j_if_ne (pc := 107) (tgt := 115) dX7_goal_107 (by decide) (fun c13 => ?_) (fun c13 => ?_)
        · replace h := jite_f h c13
          refine j_aload_n (pc := 115) 0 dX7_goal_115 rfl rfl ?_
          refine jg_0_1 (pc := 116) dX7_goal_116 (hC (0, 0) rfl) tw_479 ?_
          refine jg_2_1 (pc := 119) dX7_goal_119 (hC (2, 0) rfl) tw_237 ?_
          refine jg_4_4 (pc := 122) dX7_goal_122 (hC (4, 0) rfl) tw_205 ?_
          refine j_iload_n (pc := 125) 1 dX7_goal_125 rfl rfl ?_
          obtain ⟨c14, h⟩ := jchk h
          refine j_ia (pc := 126) dX7_goal_126 rfl (hC (32, 0) rfl) c14 ?_
          cases h
          exact j_iret (pc := 127) dX7_goal_127 rfl rfl
        · replace h := jite_t h c13
          refine j_bipush (pc := 110) dX7_goal_110 jcb_m4 ?_
          refine j_goto (pc := 112) (tgt := 127) dX7_goal_112 (by decide) ?_
          cases h
          exact j_iret (pc := 127) dX7_goal_127 rfl rfl
      replace h := jite_f h c11
      refine j_tabD (pc := 26) (tgt := 128) dX7_goal_26 (by decide) (fun i hi => match i, hi with | 0, _ => Or.inr (jti c5 rfl) | 1, _ => Or.inr (jti c7 rfl) | 2, _ => Or.inr (jti c9 rfl) | 3, _ => Or.inr (jti c11 rfl) | n + 4, h9 => absurd h9 (by simp)) (by decide) ?_
      refine j_aload_n (pc := 128) 0 dX7_goal_128 rfl rfl ?_
      refine jg_0_1 (pc := 129) dX7_goal_129 (hC (0, 0) rfl) tw_479 ?_
      refine jg_2_1 (pc := 132) dX7_goal_132 (hC (2, 0) rfl) tw_237 ?_
      refine j_iload_n (pc := 135) 1 dX7_goal_135 rfl rfl ?_
      obtain ⟨y15, hy15, h⟩ := jbnd h
      refine j_callV (pc := 136) (N := mX4_packetsFor) (rr := (4, 0)) (As := [.int x1]) (rest := []) (v := [.int y15.1]) (S1 := y15.2) dX7_goal_136 (kX4_packetsFor hC (by decide) hy15) (by simp) (by decide) okX4_packetsFor tw_702 tw_703 tw_701 (hC (4, 0) rfl) rfl rfl rfl rfl (by simp [Value.category]) ?_
      cases h
      exact j_iret (pc := 139) dX7_goal_139 rfl rfl
    · replace h := jite_t h c4
      refine j_iconst (pc := 23) dX7_goal_23 jci_m1 ?_
      cases h
      exact j_iret (pc := 24) dX7_goal_24 rfl rfl
abbrev mX7_trialSince : jM := (yX7_trialSince, cX7_trialSince, 2, (some .int))
theorem okX7_trialSince : jOK mX7_trialSince 1 := ⟨by decide +kernel, tw_719, tw_69, by decide +kernel, by decide, by decide⟩
def fX7_trialSince  (S : jS) (x1 : Int32) : Option (Int32 × jS) :=
  (if x1 = 0 then (fX4_packets 1 S).bind fun y5 => some (y5.1, y5.2) else (if x1 = (1 : Int32) then (fX4_thereInAll 1 S).bind fun y3 => (fX4_thereInAll 0 y3.2).bind fun y4 => some (y3.1 - y4.1, y4.2) else some ((S.1 (7, 1)) - (S.1 (7, 0)), S)))
set_option maxRecDepth 10000 in
set_option maxHeartbeats 4000000 in
theorem kX7_trialSince {E : jE} (hC : jHC E) {S : jS} {x1 : Int32} {r : (Int32 × jS)} (h : fX7_trialSince  S x1 = some r) : jMR E 2 mX7_trialSince [.ref (E.1 (0, 0)), .int x1] S [.int r.1] r.2 := by
  refine ⟨Nat.le_of_ble_eq_true rfl, ?_⟩
  show JR E 2 mX7_trialSince 0 [(0, .ref (E.1 (0, 0))), (1, .int x1)] [] S [.int r.1] r.2
  unfold fX7_trialSince at h
  refine j_iload_n (pc := 0) 1 dX7_trialSince_0 rfl rfl ?_
  refine j_if_ne (pc := 1) (tgt := 15) dX7_trialSince_1 (by decide) (fun c1 => ?_) (fun c1 => ?_)
  · replace h := jite_f h c1
    refine j_iload_n (pc := 15) 1 dX7_trialSince_15 rfl rfl ?_
    refine j_iconst (pc := 16) dX7_trialSince_16 jci_1 ?_
    refine j_icmp_ne (pc := 17) (tgt := 42) dX7_trialSince_17 (by decide) (fun c2 => ?_) (fun c2 => ?_)
    · replace h := jite_f h c2
      refine j_aload_n (pc := 42) 0 dX7_trialSince_42 rfl rfl ?_
      refine jg_0_2 (pc := 43) dX7_trialSince_43 (hC (0, 0) rfl) tw_480 ?_
      refine jg_2_1 (pc := 46) dX7_trialSince_46 (hC (2, 1) rfl) tw_237 ?_
      refine jg_4_1 (pc := 49) dX7_trialSince_49 (hC (4, 1) rfl) tw_199 ?_
      refine j_aload_n (pc := 52) 0 dX7_trialSince_52 rfl rfl ?_
      refine jg_0_1 (pc := 53) dX7_trialSince_53 (hC (0, 0) rfl) tw_479 ?_
      refine jg_2_1 (pc := 56) dX7_trialSince_56 (hC (2, 0) rfl) tw_237 ?_
      refine jg_4_1 (pc := 59) dX7_trialSince_59 (hC (4, 0) rfl) tw_199 ?_
      refine j_isub (pc := 62) dX7_trialSince_62 ?_
      cases h
      exact j_iret (pc := 63) dX7_trialSince_63 rfl rfl
    · replace h := jite_t h c2
      refine j_aload_n (pc := 20) 0 dX7_trialSince_20 rfl rfl ?_
      refine jg_0_2 (pc := 21) dX7_trialSince_21 (hC (0, 0) rfl) tw_480 ?_
      refine jg_2_1 (pc := 24) dX7_trialSince_24 (hC (2, 1) rfl) tw_237 ?_
      obtain ⟨y3, hy3, h⟩ := jbnd h
      refine j_callV (pc := 27) (N := mX4_thereInAll) (rr := (4, 1)) (As := []) (rest := []) (v := [.int y3.1]) (S1 := y3.2) dX7_trialSince_27 (kX4_thereInAll hC (by decide) hy3) (by simp) (by decide) okX4_thereInAll tw_590 tw_591 tw_589 (hC (4, 1) rfl) rfl rfl rfl rfl (by simp [Value.category]) ?_
      refine j_aload_n (pc := 30) 0 dX7_trialSince_30 rfl rfl ?_
      refine jg_0_1 (pc := 31) dX7_trialSince_31 (hC (0, 0) rfl) tw_479 ?_
      refine jg_2_1 (pc := 34) dX7_trialSince_34 (hC (2, 0) rfl) tw_237 ?_
      obtain ⟨y4, hy4, h⟩ := jbnd h
      refine j_callV (pc := 37) (N := mX4_thereInAll) (rr := (4, 0)) (As := []) (rest := [.int y3.1]) (v := [.int y4.1]) (S1 := y4.2) dX7_trialSince_37 (kX4_thereInAll hC (by decide) hy4) (by simp) (by decide) okX4_thereInAll tw_590 tw_591 tw_589 (hC (4, 0) rfl) rfl rfl rfl rfl (by simp [Value.category]) ?_
      refine j_isub (pc := 40) dX7_trialSince_40 ?_
      cases h
      exact j_iret (pc := 41) dX7_trialSince_41 rfl rfl
  · replace h := jite_t h c1
    refine j_aload_n (pc := 4) 0 dX7_trialSince_4 rfl rfl ?_
    refine jg_0_2 (pc := 5) dX7_trialSince_5 (hC (0, 0) rfl) tw_480 ?_
    refine jg_2_1 (pc := 8) dX7_trialSince_8 (hC (2, 1) rfl) tw_237 ?_
    obtain ⟨y5, hy5, h⟩ := jbnd h
    refine j_callV (pc := 11) (N := mX4_packets) (rr := (4, 1)) (As := []) (rest := []) (v := [.int y5.1]) (S1 := y5.2) dX7_trialSince_11 (kX4_packets hC (by decide) hy5) (by simp) (by decide) okX4_packets tw_721 tw_722 tw_720 (hC (4, 1) rfl) rfl rfl rfl rfl (by simp [Value.category]) ?_
    cases h
    exact j_iret (pc := 14) dX7_trialSince_14 rfl rfl
abbrev mX7_ahead : jM := (yX7_ahead, cX7_ahead, 5, (some .int))
theorem okX7_ahead : jOK mX7_ahead 2 := ⟨by decide +kernel, tw_709, tw_69, by decide +kernel, by decide, by decide⟩
def bX7_ahead_37  (q37 : jS → Int32 → Int32 → Int32 → Int32 → Option (Int32 × jS)) (S : jS) (x1 : Int32) (x2 : Int32) (x3 : Int32) (x4 : Int32) : Option (Int32 × jS) :=
  (if x1 ≤ x4 then (if x2 = (3 : Int32) then some (x3, S) else (fX7_trialSince S x2).bind fun y8 => some (y8.1, y8.2)) else (fX1_move 1 (25, 1) S (0 : Int32)).bind fun y9 => (fX4_squares 1 y9).bind fun y10 => jlet ((if x3 < y10.1 then y10.1 else x3)) fun v11 => jlet (x4 + (1 : Int32)) fun v12 => q37 (y10.2) x1 x2 v11 v12)
set_option maxRecDepth 10000 in
set_option maxHeartbeats 4000000 in
theorem lX7_ahead_37 {E : jE} (hC : jHC E) {q37 : jS → Int32 → Int32 → Int32 → Int32 → Option (Int32 × jS)} (H37 : ∀ {S : jS} {x1 : Int32} {x2 : Int32} {x3 : Int32} {x4 : Int32} {r : (Int32 × jS)}, q37 S x1 x2 x3 x4 = some r → JR E 18 mX7_ahead 37 [(0, .ref (E.1 (0, 0))), (1, .int x1), (2, .int x2), (3, .int x3), (4, .int x4)] [] S [.int r.1] r.2) {S : jS} {x1 : Int32} {x2 : Int32} {x3 : Int32} {x4 : Int32} {r : (Int32 × jS)} (h : bX7_ahead_37  q37 S x1 x2 x3 x4 = some r) : JR E 18 mX7_ahead 37 [(0, .ref (E.1 (0, 0))), (1, .int x1), (2, .int x2), (3, .int x3), (4, .int x4)] [] S [.int r.1] r.2 := by
  unfold bX7_ahead_37 at h
  refine j_iload (pc := 37) 4 dX7_ahead_37 rfl ?_
  refine j_iload_n (pc := 39) 1 dX7_ahead_39 rfl rfl ?_
  refine j_icmp_ge (pc := 40) (tgt := 86) dX7_ahead_40 (by decide) (fun c6 => ?_) (fun c6 => ?_)
  · replace h := jite_t h c6
    refine j_iload_n (pc := 86) 2 dX7_ahead_86 rfl rfl ?_
    refine j_iconst (pc := 87) dX7_ahead_87 jci_3 ?_
    refine j_icmp_ne (pc := 88) (tgt := 95) dX7_ahead_88 (by decide) (fun c7 => ?_) (fun c7 => ?_)
    · replace h := jite_f h c7
      refine j_aload_n (pc := 95) 0 dX7_ahead_95 rfl rfl ?_
      refine j_iload_n (pc := 96) 2 dX7_ahead_96 rfl rfl ?_
      obtain ⟨y8, hy8, h⟩ := jbnd h
      refine j_callV (pc := 97) (N := mX7_trialSince) (rr := (0, 0)) (As := [.int x2]) (rest := []) (v := [.int y8.1]) (S1 := y8.2) dX7_ahead_97 (kX7_trialSince hC hy8) (by simp) (by decide) okX7_trialSince tw_718 tw_19 tw_716 (hC (0, 0) rfl) rfl rfl rfl rfl (by simp [Value.category]) ?_
      cases h
      exact j_iret (pc := 100) dX7_ahead_100 rfl rfl
    · replace h := jite_t h c7
      refine j_iload_n (pc := 91) 3 dX7_ahead_91 rfl rfl ?_
      refine j_goto (pc := 92) (tgt := 100) dX7_ahead_92 (by decide) ?_
      cases h
      exact j_iret (pc := 100) dX7_ahead_100 rfl rfl
  · replace h := jite_f h c6
    refine j_aload_n (pc := 43) 0 dX7_ahead_43 rfl rfl ?_
    refine jg_0_5 (pc := 44) dX7_ahead_44 (hC (0, 0) rfl) tw_483 ?_
    refine j_aload_n (pc := 47) 0 dX7_ahead_47 rfl rfl ?_
    refine jg_0_2 (pc := 48) dX7_ahead_48 (hC (0, 0) rfl) tw_480 ?_
    refine j_iconst (pc := 51) dX7_ahead_51 jci_0 ?_
    refine j_aload_n (pc := 52) 0 dX7_ahead_52 rfl rfl ?_
    refine jg_0_2 (pc := 53) dX7_ahead_53 (hC (0, 0) rfl) tw_480 ?_
    refine jg_2_0 (pc := 56) dX7_ahead_56 (hC (2, 1) rfl) tw_233 ?_
    refine jg_3_10 (pc := 59) dX7_ahead_59 (hC (3, 1) rfl) tw_162 ?_
    obtain ⟨y9, hy9, h⟩ := jbnd h
    refine j_callV (pc := 62) (N := mX1_move) (rr := (8, 0)) (As := [.ref (E.1 (2, 1)), .int (0 : Int32), .ref (E.1 (25, 1))]) (rest := []) (v := []) (S1 := y9) dX7_ahead_62 (kX1_move hC (by decide) ⟨rfl, (hC (25, 1) rfl)⟩ hy9) (by simp) (by decide) okX1_move tw_594 tw_595 tw_593 (hC (8, 0) rfl) rfl rfl rfl rfl (by simp [Value.category]) ?_
    refine j_iload_n (pc := 65) 3 dX7_ahead_65 rfl rfl ?_
    refine j_aload_n (pc := 66) 0 dX7_ahead_66 rfl rfl ?_
    refine jg_0_2 (pc := 67) dX7_ahead_67 (hC (0, 0) rfl) tw_480 ?_
    refine jg_2_1 (pc := 70) dX7_ahead_70 (hC (2, 1) rfl) tw_237 ?_
    obtain ⟨y10, hy10, h⟩ := jbnd h
    refine j_callV (pc := 73) (N := mX4_squares) (rr := (4, 1)) (As := []) (rest := [.int x3]) (v := [.int y10.1]) (S1 := y10.2) dX7_ahead_73 (kX4_squares hC (by decide) hy10) (by simp) (by decide) okX4_squares tw_712 tw_713 tw_711 (hC (4, 1) rfl) rfl rfl rfl rfl (by simp [Value.category]) ?_
    refine j_mmax (pc := 76) dX7_ahead_76 tw_715 tw_656 tw_83 tw_657 (by simp) (by simp [Value.category]) ?_
    obtain ⟨v11, ev11, h⟩ := jlk h
    refine j_topi ev11 ?_
    refine j_istore_n (pc := 79) (lv' := [(3, .int v11), (0, .ref (E.1 (0, 0))), (1, .int x1), (2, .int x2), (4, .int x4)]) dX7_ahead_79 rfl (by decide) rfl ?_
    obtain ⟨v12, ev12, h⟩ := jlk h
    refine j_iinc (pc := 80) (v := v12) (lv' := [(4, .int v12), (3, .int v11), (0, .ref (E.1 (0, 0))), (1, .int x1), (2, .int x2)]) 4 dX7_ahead_80 rfl (by rw [ev12]; rfl) (by decide) rfl ?_
    refine j_goto (pc := 83) (tgt := 37) dX7_ahead_83 (by decide) ?_
    exact j_sub [2, 3, 4, 1, 0] rfl (H37 h)
def fX7_ahead_37  : Nat → jS → Int32 → Int32 → Int32 → Int32 → Option (Int32 × jS)
  | 0 => fun _ _ _ _ _ => none
  | n + 1 => bX7_ahead_37  (fX7_ahead_37  n)
theorem kX7_ahead_37 {E : jE} (hC : jHC E) (fu : Nat) : ∀ {S : jS} {x1 : Int32} {x2 : Int32} {x3 : Int32} {x4 : Int32} {r : (Int32 × jS)}, fX7_ahead_37  fu S x1 x2 x3 x4 = some r → JR E 18 mX7_ahead 37 [(0, .ref (E.1 (0, 0))), (1, .int x1), (2, .int x2), (3, .int x3), (4, .int x4)] [] S [.int r.1] r.2 := by
  induction fu with
  | zero => intro S x1 x2 x3 x4 r h; cases h
  | succ n_ ih => intro S x1 x2 x3 x4 r h; exact lX7_ahead_37 hC ih h
def fX7_ahead  (S : jS) (x1 : Int32) (x2 : Int32) : Option (Int32 × jS) :=
  (fX7_within S x1 (1 : Int32) (60 : Int32)).bind fun y1 => (if y1.1 = 0 then some ((-1 : Int32), y1.2) else (fX7_within y1.2 x2 (0 : Int32) (3 : Int32)).bind fun y3 => (if y3.1 = 0 then some ((-1 : Int32), y3.2) else (fX6_copyFrom 1 0 y3.2).bind fun y5 => fX7_ahead_37 5000 y5 x1 x2 (0 : Int32) (0 : Int32)))
set_option maxRecDepth 10000 in
set_option maxHeartbeats 4000000 in
theorem kX7_ahead {E : jE} (hC : jHC E) {S : jS} {x1 : Int32} {x2 : Int32} {r : (Int32 × jS)} (h : fX7_ahead  S x1 x2 = some r) : jMR E 18 mX7_ahead [.ref (E.1 (0, 0)), .int x1, .int x2] S [.int r.1] r.2 := by
  refine ⟨Nat.le_of_ble_eq_true rfl, ?_⟩
  show JR E 18 mX7_ahead 0 [(0, .ref (E.1 (0, 0))), (1, .int x1), (2, .int x2)] [] S [.int r.1] r.2
  unfold fX7_ahead at h
  refine j_iload_n (pc := 0) 1 dX7_ahead_0 rfl rfl ?_
  refine j_iconst (pc := 1) dX7_ahead_1 jci_1 ?_
  refine j_bipush (pc := 2) dX7_ahead_2 jcb_60 ?_
  obtain ⟨y1, hy1, h⟩ := jbnd h
  refine j_callS (pc := 4) (N := mX7_within) (As := [.int x1, .int (1 : Int32), .int (60 : Int32)]) (rest := []) (v := [.int y1.1]) (S1 := y1.2) dX7_ahead_4 (kX7_within hC hy1) (by simp) (by decide) okX7_within tw_398 tw_502 rfl rfl (by simp [Value.category]) ?_
  refine j_if_eq (pc := 7) (tgt := 19) dX7_ahead_7 (by decide) (fun c2 => ?_) (fun c2 => ?_)
  · replace h := jite_t h c2
    refine j_iconst (pc := 19) dX7_ahead_19 jci_m1 ?_
    cases h
    exact j_iret (pc := 20) dX7_ahead_20 rfl rfl
  · replace h := jite_f h c2
    refine j_iload_n (pc := 10) 2 dX7_ahead_10 rfl rfl ?_
    refine j_iconst (pc := 11) dX7_ahead_11 jci_0 ?_
    refine j_iconst (pc := 12) dX7_ahead_12 jci_3 ?_
    obtain ⟨y3, hy3, h⟩ := jbnd h
    refine j_callS (pc := 13) (N := mX7_within) (As := [.int x2, .int (0 : Int32), .int (3 : Int32)]) (rest := []) (v := [.int y3.1]) (S1 := y3.2) dX7_ahead_13 (kX7_within hC hy3) (by simp) (by decide) okX7_within tw_398 tw_502 rfl rfl (by simp [Value.category]) ?_
    refine j_if_ne (pc := 16) (tgt := 21) dX7_ahead_16 (by decide) (fun c4 => ?_) (fun c4 => ?_)
    · replace h := jite_f h c4
      refine j_aload_n (pc := 21) 0 dX7_ahead_21 rfl rfl ?_
      refine jg_0_2 (pc := 22) dX7_ahead_22 (hC (0, 0) rfl) tw_480 ?_
      refine j_aload_n (pc := 25) 0 dX7_ahead_25 rfl rfl ?_
      refine jg_0_1 (pc := 26) dX7_ahead_26 (hC (0, 0) rfl) tw_479 ?_
      obtain ⟨y5, hy5, h⟩ := jbnd h
      refine j_callV (pc := 29) (N := mX6_copyFrom) (rr := (2, 1)) (As := [.ref (E.1 (2, 0))]) (rest := []) (v := []) (S1 := y5) dX7_ahead_29 (kX6_copyFrom hC (by decide) (by decide) hy5) (by simp) (by decide) okX6_copyFrom tw_526 tw_527 tw_710 (hC (2, 1) rfl) rfl rfl rfl rfl (by simp [Value.category]) ?_
      refine j_iconst (pc := 32) dX7_ahead_32 jci_0 ?_
      refine j_istore_n (pc := 33) (lv' := [(3, .int (0 : Int32)), (0, .ref (E.1 (0, 0))), (1, .int x1), (2, .int x2)]) dX7_ahead_33 rfl (by decide) rfl ?_
      refine j_iconst (pc := 34) dX7_ahead_34 jci_0 ?_
      refine j_istore (pc := 35) (lv' := [(4, .int (0 : Int32)), (3, .int (0 : Int32)), (0, .ref (E.1 (0, 0))), (1, .int x1), (2, .int x2)]) dX7_ahead_35 (by decide) rfl ?_
      exact j_sub [2, 3, 4, 1, 0] rfl (kX7_ahead_37 hC 5000 h)
    · replace h := jite_t h c4
      refine j_iconst (pc := 19) dX7_ahead_19 jci_m1 ?_
      cases h
      exact j_iret (pc := 20) dX7_ahead_20 rfl rfl
abbrev mX7_without : jM := (yX7_without, cX7_without, 3, (some .int))
theorem okX7_without : jOK mX7_without 1 := ⟨by decide +kernel, tw_727, tw_69, by decide +kernel, by decide, by decide⟩
def bX7_without_29  (q29 : jS → Int32 → Int32 → Option (Int32 × jS)) (S : jS) (x1 : Int32) (x2 : Int32) : Option (Int32 × jS) :=
  (if (20 : Int32) ≤ x2 then (fX4_packets 1 S).bind fun y5 => some (y5.1, y5.2) else (fX1_move 1 (25, 1) S ((1 : Int32) <<< (x1 &&& 31))).bind fun y6 => jlet (x2 + (1 : Int32)) fun v7 => q29 y6 x1 v7)
set_option maxRecDepth 10000 in
set_option maxHeartbeats 4000000 in
theorem lX7_without_29 {E : jE} (hC : jHC E) {q29 : jS → Int32 → Int32 → Option (Int32 × jS)} (H29 : ∀ {S : jS} {x1 : Int32} {x2 : Int32} {r : (Int32 × jS)}, q29 S x1 x2 = some r → JR E 18 mX7_without 29 [(0, .ref (E.1 (0, 0))), (1, .int x1), (2, .int x2)] [] S [.int r.1] r.2) {S : jS} {x1 : Int32} {x2 : Int32} {r : (Int32 × jS)} (h : bX7_without_29  q29 S x1 x2 = some r) : JR E 18 mX7_without 29 [(0, .ref (E.1 (0, 0))), (1, .int x1), (2, .int x2)] [] S [.int r.1] r.2 := by
  unfold bX7_without_29 at h
  refine j_iload_n (pc := 29) 2 dX7_without_29 rfl rfl ?_
  refine j_bipush (pc := 30) dX7_without_30 jcb_20 ?_
  refine j_icmp_ge (pc := 32) (tgt := 65) dX7_without_32 (by decide) (fun c4 => ?_) (fun c4 => ?_)
  · replace h := jite_t h c4
    refine j_aload_n (pc := 65) 0 dX7_without_65 rfl rfl ?_
    refine jg_0_2 (pc := 66) dX7_without_66 (hC (0, 0) rfl) tw_480 ?_
    refine jg_2_1 (pc := 69) dX7_without_69 (hC (2, 1) rfl) tw_237 ?_
    obtain ⟨y5, hy5, h⟩ := jbnd h
    refine j_callV (pc := 72) (N := mX4_packets) (rr := (4, 1)) (As := []) (rest := []) (v := [.int y5.1]) (S1 := y5.2) dX7_without_72 (kX4_packets hC (by decide) hy5) (by simp) (by decide) okX4_packets tw_721 tw_722 tw_720 (hC (4, 1) rfl) rfl rfl rfl rfl (by simp [Value.category]) ?_
    cases h
    exact j_iret (pc := 75) dX7_without_75 rfl rfl
  · replace h := jite_f h c4
    refine j_aload_n (pc := 35) 0 dX7_without_35 rfl rfl ?_
    refine jg_0_5 (pc := 36) dX7_without_36 (hC (0, 0) rfl) tw_483 ?_
    refine j_aload_n (pc := 39) 0 dX7_without_39 rfl rfl ?_
    refine jg_0_2 (pc := 40) dX7_without_40 (hC (0, 0) rfl) tw_480 ?_
    refine j_iconst (pc := 43) dX7_without_43 jci_1 ?_
    refine j_iload_n (pc := 44) 1 dX7_without_44 rfl rfl ?_
    refine j_ishl (pc := 45) dX7_without_45 ?_
    refine j_aload_n (pc := 46) 0 dX7_without_46 rfl rfl ?_
    refine jg_0_2 (pc := 47) dX7_without_47 (hC (0, 0) rfl) tw_480 ?_
    refine jg_2_0 (pc := 50) dX7_without_50 (hC (2, 1) rfl) tw_233 ?_
    refine jg_3_10 (pc := 53) dX7_without_53 (hC (3, 1) rfl) tw_162 ?_
    obtain ⟨y6, hy6, h⟩ := jbnd h
    refine j_callV (pc := 56) (N := mX1_move) (rr := (8, 0)) (As := [.ref (E.1 (2, 1)), .int ((1 : Int32) <<< (x1 &&& 31)), .ref (E.1 (25, 1))]) (rest := []) (v := []) (S1 := y6) dX7_without_56 (kX1_move hC (by decide) ⟨rfl, (hC (25, 1) rfl)⟩ hy6) (by simp) (by decide) okX1_move tw_594 tw_595 tw_593 (hC (8, 0) rfl) rfl rfl rfl rfl (by simp [Value.category]) ?_
    obtain ⟨v7, ev7, h⟩ := jlk h
    refine j_iinc (pc := 59) (v := v7) (lv' := [(2, .int v7), (0, .ref (E.1 (0, 0))), (1, .int x1)]) 2 dX7_without_59 rfl (by rw [ev7]; rfl) (by decide) rfl ?_
    refine j_goto (pc := 62) (tgt := 29) dX7_without_62 (by decide) ?_
    exact j_sub [1, 2, 0] rfl (H29 h)
def fX7_without_29  : Nat → jS → Int32 → Int32 → Option (Int32 × jS)
  | 0 => fun _ _ _ => none
  | n + 1 => bX7_without_29  (fX7_without_29  n)
theorem kX7_without_29 {E : jE} (hC : jHC E) (fu : Nat) : ∀ {S : jS} {x1 : Int32} {x2 : Int32} {r : (Int32 × jS)}, fX7_without_29  fu S x1 x2 = some r → JR E 18 mX7_without 29 [(0, .ref (E.1 (0, 0))), (1, .int x1), (2, .int x2)] [] S [.int r.1] r.2 := by
  induction fu with
  | zero => intro S x1 x2 r h; cases h
  | succ n_ ih => intro S x1 x2 r h; exact lX7_without_29 hC ih h
def fX7_without  (S : jS) (x1 : Int32) : Option (Int32 × jS) :=
  (fX2_hasLink 0 S x1).bind fun y1 => (if y1.1 = 0 then some ((-1 : Int32), y1.2) else (fX6_copyFrom 1 0 y1.2).bind fun y3 => fX7_without_29 5000 y3 x1 (0 : Int32))
set_option maxRecDepth 10000 in
set_option maxHeartbeats 4000000 in
theorem kX7_without {E : jE} (hC : jHC E) {S : jS} {x1 : Int32} {r : (Int32 × jS)} (h : fX7_without  S x1 = some r) : jMR E 18 mX7_without [.ref (E.1 (0, 0)), .int x1] S [.int r.1] r.2 := by
  refine ⟨Nat.le_of_ble_eq_true rfl, ?_⟩
  show JR E 18 mX7_without 0 [(0, .ref (E.1 (0, 0))), (1, .int x1)] [] S [.int r.1] r.2
  unfold fX7_without at h
  refine j_aload_n (pc := 0) 0 dX7_without_0 rfl rfl ?_
  refine jg_0_1 (pc := 1) dX7_without_1 (hC (0, 0) rfl) tw_479 ?_
  refine jg_2_0 (pc := 4) dX7_without_4 (hC (2, 0) rfl) tw_233 ?_
  refine j_iload_n (pc := 7) 1 dX7_without_7 rfl rfl ?_
  obtain ⟨y1, hy1, h⟩ := jbnd h
  refine j_callV (pc := 8) (N := mX2_hasLink) (rr := (3, 0)) (As := [.int x1]) (rest := []) (v := [.int y1.1]) (S1 := y1.2) dX7_without_8 (kX2_hasLink hC (by decide) hy1) (by simp) (by decide) okX2_hasLink tw_417 tw_418 tw_540 (hC (3, 0) rfl) rfl rfl rfl rfl (by simp [Value.category]) ?_
  refine j_if_ne (pc := 11) (tgt := 16) dX7_without_11 (by decide) (fun c2 => ?_) (fun c2 => ?_)
  · replace h := jite_f h c2
    refine j_aload_n (pc := 16) 0 dX7_without_16 rfl rfl ?_
    refine jg_0_2 (pc := 17) dX7_without_17 (hC (0, 0) rfl) tw_480 ?_
    refine j_aload_n (pc := 20) 0 dX7_without_20 rfl rfl ?_
    refine jg_0_1 (pc := 21) dX7_without_21 (hC (0, 0) rfl) tw_479 ?_
    obtain ⟨y3, hy3, h⟩ := jbnd h
    refine j_callV (pc := 24) (N := mX6_copyFrom) (rr := (2, 1)) (As := [.ref (E.1 (2, 0))]) (rest := []) (v := []) (S1 := y3) dX7_without_24 (kX6_copyFrom hC (by decide) (by decide) hy3) (by simp) (by decide) okX6_copyFrom tw_526 tw_527 tw_710 (hC (2, 1) rfl) rfl rfl rfl rfl (by simp [Value.category]) ?_
    refine j_iconst (pc := 27) dX7_without_27 jci_0 ?_
    refine j_istore_n (pc := 28) (lv' := [(2, .int (0 : Int32)), (0, .ref (E.1 (0, 0))), (1, .int x1)]) dX7_without_28 rfl (by decide) rfl ?_
    exact j_sub [1, 2, 0] rfl (kX7_without_29 hC 5000 h)
  · replace h := jite_t h c2
    refine j_iconst (pc := 14) dX7_without_14 jci_m1 ?_
    cases h
    exact j_iret (pc := 15) dX7_without_15 rfl rfl
abbrev mX7_weightWithout : jM := (yX7_weightWithout, cX7_weightWithout, 3, (some .int))
theorem okX7_weightWithout : jOK mX7_weightWithout 2 := ⟨by decide +kernel, tw_735, tw_69, by decide +kernel, by decide, by decide⟩
def fX7_weightWithout  (S : jS) (x1 : Int32) (x2 : Int32) : Option (Int32 × jS) :=
  (fX2_turnClash 1 S x1 x2).bind fun y1 => (fX3_pick 0 1 y1 (0 : Int32)).bind fun y2 => (fX2_turnClash 1 y2 x1 x2).bind fun y3 => some (y3.1 (11, 0), y3)
set_option maxRecDepth 10000 in
set_option maxHeartbeats 4000000 in
theorem kX7_weightWithout {E : jE} (hC : jHC E) {S : jS} {x1 : Int32} {x2 : Int32} {r : (Int32 × jS)} (h : fX7_weightWithout  S x1 x2 = some r) : jMR E 17 mX7_weightWithout [.ref (E.1 (0, 0)), .int x1, .int x2] S [.int r.1] r.2 := by
  refine ⟨Nat.le_of_ble_eq_true rfl, ?_⟩
  show JR E 17 mX7_weightWithout 0 [(0, .ref (E.1 (0, 0))), (1, .int x1), (2, .int x2)] [] S [.int r.1] r.2
  unfold fX7_weightWithout at h
  refine j_aload_n (pc := 0) 0 dX7_weightWithout_0 rfl rfl ?_
  refine jg_0_2 (pc := 1) dX7_weightWithout_1 (hC (0, 0) rfl) tw_480 ?_
  refine jg_2_0 (pc := 4) dX7_weightWithout_4 (hC (2, 1) rfl) tw_233 ?_
  refine j_iload_n (pc := 7) 1 dX7_weightWithout_7 rfl rfl ?_
  refine j_iload_n (pc := 8) 2 dX7_weightWithout_8 rfl rfl ?_
  obtain ⟨y1, hy1, h⟩ := jbnd h
  refine j_callV (pc := 9) (N := mX2_turnClash) (rr := (3, 1)) (As := [.int x1, .int x2]) (rest := []) (v := []) (S1 := y1) dX7_weightWithout_9 (kX2_turnClash hC (by decide) hy1) (by simp) (by decide) okX2_turnClash tw_425 tw_426 tw_558 (hC (3, 1) rfl) rfl rfl rfl rfl (by simp [Value.category]) ?_
  refine j_aload_n (pc := 12) 0 dX7_weightWithout_12 rfl rfl ?_
  refine jg_0_4 (pc := 13) dX7_weightWithout_13 (hC (0, 0) rfl) tw_482 ?_
  refine j_aload_n (pc := 16) 0 dX7_weightWithout_16 rfl rfl ?_
  refine jg_0_2 (pc := 17) dX7_weightWithout_17 (hC (0, 0) rfl) tw_480 ?_
  refine jg_2_0 (pc := 20) dX7_weightWithout_20 (hC (2, 1) rfl) tw_233 ?_
  refine j_iconst (pc := 23) dX7_weightWithout_23 jci_0 ?_
  obtain ⟨y2, hy2, h⟩ := jbnd h
  refine j_callV (pc := 24) (N := mX3_pick) (rr := (7, 0)) (As := [.ref (E.1 (3, 1)), .int (0 : Int32)]) (rest := []) (v := []) (S1 := y2) dX7_weightWithout_24 (kX3_pick hC (by decide) (by decide) hy2) (by simp) (by decide) okX3_pick tw_615 tw_616 tw_686 (hC (7, 0) rfl) rfl rfl rfl rfl (by simp [Value.category]) ?_
  refine j_aload_n (pc := 27) 0 dX7_weightWithout_27 rfl rfl ?_
  refine jg_0_2 (pc := 28) dX7_weightWithout_28 (hC (0, 0) rfl) tw_480 ?_
  refine jg_2_0 (pc := 31) dX7_weightWithout_31 (hC (2, 1) rfl) tw_233 ?_
  refine j_iload_n (pc := 34) 1 dX7_weightWithout_34 rfl rfl ?_
  refine j_iload_n (pc := 35) 2 dX7_weightWithout_35 rfl rfl ?_
  obtain ⟨y3, hy3, h⟩ := jbnd h
  refine j_callV (pc := 36) (N := mX2_turnClash) (rr := (3, 1)) (As := [.int x1, .int x2]) (rest := []) (v := []) (S1 := y3) dX7_weightWithout_36 (kX2_turnClash hC (by decide) hy3) (by simp) (by decide) okX2_turnClash tw_425 tw_426 tw_558 (hC (3, 1) rfl) rfl rfl rfl rfl (by simp [Value.category]) ?_
  refine j_aload_n (pc := 39) 0 dX7_weightWithout_39 rfl rfl ?_
  refine jg_0_4 (pc := 40) dX7_weightWithout_40 (hC (0, 0) rfl) tw_482 ?_
  refine jg_7_1 (pc := 43) dX7_weightWithout_43 (hC (7, 0) rfl) tw_273 ?_
  cases h
  exact j_iret (pc := 46) dX7_weightWithout_46 rfl rfl
abbrev mX7_worst : jM := (yX7_worst, cX7_worst, 7, (some .int))
theorem okX7_worst : jOK mX7_worst 1 := ⟨by decide +kernel, tw_731, tw_69, by decide +kernel, by decide, by decide⟩
def bX7_worst_152  (q72 : jS → Int32 → Int32 → Int32 → Int32 → Int32 → Option (Int32 × jS)) (q93 : jS → Int32 → Int32 → Int32 → Int32 → Int32 → Int32 → Option (Int32 × jS)) (S : jS) (x1 : Int32) (x2 : Int32) (x3 : Int32) (x4 : Int32) (x5 : Int32) (x6 : Int32) : Option (Int32 × jS) :=
  jlet (x6 + (1 : Int32)) fun v19 => q93 S x1 x2 x3 x4 x5 v19
set_option maxRecDepth 10000 in
set_option maxHeartbeats 4000000 in
theorem lX7_worst_152 {E : jE} (hC : jHC E) {q72 : jS → Int32 → Int32 → Int32 → Int32 → Int32 → Option (Int32 × jS)} (H72 : ∀ {S : jS} {x1 : Int32} {x2 : Int32} {x3 : Int32} {x4 : Int32} {x5 : Int32} {r : (Int32 × jS)}, q72 S x1 x2 x3 x4 x5 = some r → JR E 18 mX7_worst 72 [(0, .ref (E.1 (0, 0))), (1, .int x1), (2, .int x2), (3, .int x3), (4, .int x4), (5, .int x5)] [] S [.int r.1] r.2) {q93 : jS → Int32 → Int32 → Int32 → Int32 → Int32 → Int32 → Option (Int32 × jS)} (H93 : ∀ {S : jS} {x1 : Int32} {x2 : Int32} {x3 : Int32} {x4 : Int32} {x5 : Int32} {x6 : Int32} {r : (Int32 × jS)}, q93 S x1 x2 x3 x4 x5 x6 = some r → JR E 18 mX7_worst 93 [(0, .ref (E.1 (0, 0))), (1, .int x1), (2, .int x2), (3, .int x3), (4, .int x4), (5, .int x5), (6, .int x6)] [] S [.int r.1] r.2) {S : jS} {x1 : Int32} {x2 : Int32} {x3 : Int32} {x4 : Int32} {x5 : Int32} {x6 : Int32} {r : (Int32 × jS)} (h : bX7_worst_152  q72 q93 S x1 x2 x3 x4 x5 x6 = some r) : JR E 18 mX7_worst 152 [(0, .ref (E.1 (0, 0))), (1, .int x1), (2, .int x2), (3, .int x3), (4, .int x4), (5, .int x5), (6, .int x6)] [] S [.int r.1] r.2 := by
  unfold bX7_worst_152 at h
  obtain ⟨v19, ev19, h⟩ := jlk h
  refine j_iinc (pc := 152) (v := v19) (lv' := [(6, .int v19), (0, .ref (E.1 (0, 0))), (1, .int x1), (2, .int x2), (3, .int x3), (4, .int x4), (5, .int x5)]) 6 dX7_worst_152 rfl (by rw [ev19]; rfl) (by decide) rfl ?_
  refine j_goto (pc := 155) (tgt := 93) dX7_worst_155 (by decide) ?_
  exact j_sub [1, 2, 3, 4, 5, 6, 0] rfl (H93 h)
def bX7_worst_93  (q72 : jS → Int32 → Int32 → Int32 → Int32 → Int32 → Option (Int32 × jS)) (q93 : jS → Int32 → Int32 → Int32 → Int32 → Int32 → Int32 → Option (Int32 × jS)) (S : jS) (x1 : Int32) (x2 : Int32) (x3 : Int32) (x4 : Int32) (x5 : Int32) (x6 : Int32) : Option (Int32 × jS) :=
  (if (S.1 (3, 0)) ≤ x6 then jlet (x5 + (1 : Int32)) fun v13 => q72 S x1 x2 x3 x4 v13 else (fX2_doClash 0 S x5 x6).bind fun y14 => (if y14.1 = 0 then bX7_worst_152 q72 q93 (y14.2) x1 x2 x3 x4 x5 x6 else (fX7_weightWithout y14.2 x5 x6).bind fun y16 => (if y16.1 ≤ x2 then bX7_worst_152 q72 q93 (y16.2) x1 x2 x3 x4 x5 x6 else jlet (y16.2.1 (11, 0)) fun v18 => bX7_worst_152 q72 q93 (y16.2) x1 v18 x5 x6 x5 x6)))
set_option maxRecDepth 10000 in
set_option maxHeartbeats 4000000 in
theorem lX7_worst_93 {E : jE} (hC : jHC E) {q72 : jS → Int32 → Int32 → Int32 → Int32 → Int32 → Option (Int32 × jS)} (H72 : ∀ {S : jS} {x1 : Int32} {x2 : Int32} {x3 : Int32} {x4 : Int32} {x5 : Int32} {r : (Int32 × jS)}, q72 S x1 x2 x3 x4 x5 = some r → JR E 18 mX7_worst 72 [(0, .ref (E.1 (0, 0))), (1, .int x1), (2, .int x2), (3, .int x3), (4, .int x4), (5, .int x5)] [] S [.int r.1] r.2) {q93 : jS → Int32 → Int32 → Int32 → Int32 → Int32 → Int32 → Option (Int32 × jS)} (H93 : ∀ {S : jS} {x1 : Int32} {x2 : Int32} {x3 : Int32} {x4 : Int32} {x5 : Int32} {x6 : Int32} {r : (Int32 × jS)}, q93 S x1 x2 x3 x4 x5 x6 = some r → JR E 18 mX7_worst 93 [(0, .ref (E.1 (0, 0))), (1, .int x1), (2, .int x2), (3, .int x3), (4, .int x4), (5, .int x5), (6, .int x6)] [] S [.int r.1] r.2) {S : jS} {x1 : Int32} {x2 : Int32} {x3 : Int32} {x4 : Int32} {x5 : Int32} {x6 : Int32} {r : (Int32 × jS)} (h : bX7_worst_93  q72 q93 S x1 x2 x3 x4 x5 x6 = some r) : JR E 18 mX7_worst 93 [(0, .ref (E.1 (0, 0))), (1, .int x1), (2, .int x2), (3, .int x3), (4, .int x4), (5, .int x5), (6, .int x6)] [] S [.int r.1] r.2 := by
  unfold bX7_worst_93 at h
  refine j_iload (pc := 93) 6 dX7_worst_93 rfl ?_
  refine j_aload_n (pc := 95) 0 dX7_worst_95 rfl rfl ?_
  refine jg_0_1 (pc := 96) dX7_worst_96 (hC (0, 0) rfl) tw_479 ?_
  refine jg_2_0 (pc := 99) dX7_worst_99 (hC (2, 0) rfl) tw_233 ?_
  refine jg_3_2 (pc := 102) dX7_worst_102 (hC (3, 0) rfl) tw_135 ?_
  refine j_icmp_ge (pc := 105) (tgt := 158) dX7_worst_105 (by decide) (fun c12 => ?_) (fun c12 => ?_)
  · replace h := jite_t h c12
    obtain ⟨v13, ev13, h⟩ := jlk h
    refine j_iinc (pc := 158) (v := v13) (lv' := [(5, .int v13), (0, .ref (E.1 (0, 0))), (1, .int x1), (2, .int x2), (3, .int x3), (4, .int x4), (6, .int x6)]) 5 dX7_worst_158 rfl (by rw [ev13]; rfl) (by decide) rfl ?_
    refine j_goto (pc := 161) (tgt := 72) dX7_worst_161 (by decide) ?_
    exact j_sub [1, 2, 3, 4, 5, 0] rfl (H72 h)
  · replace h := jite_f h c12
    refine j_aload_n (pc := 108) 0 dX7_worst_108 rfl rfl ?_
    refine jg_0_1 (pc := 109) dX7_worst_109 (hC (0, 0) rfl) tw_479 ?_
    refine jg_2_0 (pc := 112) dX7_worst_112 (hC (2, 0) rfl) tw_233 ?_
    refine j_iload (pc := 115) 5 dX7_worst_115 rfl ?_
    refine j_iload (pc := 117) 6 dX7_worst_117 rfl ?_
    obtain ⟨y14, hy14, h⟩ := jbnd h
    refine j_callV (pc := 119) (N := mX2_doClash) (rr := (3, 0)) (As := [.int x5, .int x6]) (rest := []) (v := [.int y14.1]) (S1 := y14.2) dX7_worst_119 (kX2_doClash hC (by decide) hy14) (by simp) (by decide) okX2_doClash tw_421 tw_422 tw_557 (hC (3, 0) rfl) rfl rfl rfl rfl (by simp [Value.category]) ?_
    refine j_if_eq (pc := 122) (tgt := 152) dX7_worst_122 (by decide) (fun c15 => ?_) (fun c15 => ?_)
    · replace h := jite_t h c15
      exact j_sub [0, 1, 2, 3, 4, 5, 6] rfl (lX7_worst_152 hC H72 H93 h)
    · replace h := jite_f h c15
      refine j_aload_n (pc := 125) 0 dX7_worst_125 rfl rfl ?_
      refine j_iload (pc := 126) 5 dX7_worst_126 rfl ?_
      refine j_iload (pc := 128) 6 dX7_worst_128 rfl ?_
      obtain ⟨y16, hy16, h⟩ := jbnd h
      refine j_callV (pc := 130) (N := mX7_weightWithout) (rr := (0, 0)) (As := [.int x5, .int x6]) (rest := []) (v := [.int y16.1]) (S1 := y16.2) dX7_worst_130 (kX7_weightWithout hC hy16) (by simp) (by decide) okX7_weightWithout tw_734 tw_20 tw_732 (hC (0, 0) rfl) rfl rfl rfl rfl (by simp [Value.category]) ?_
      refine j_iload_n (pc := 133) 2 dX7_worst_133 rfl rfl ?_
      refine j_icmp_le (pc := 134) (tgt := 152) dX7_worst_134 (by decide) (fun c17 => ?_) (fun c17 => ?_)
      · replace h := jite_t h c17
        exact j_sub [0, 1, 2, 3, 4, 5, 6] rfl (lX7_worst_152 hC H72 H93 h)
      · replace h := jite_f h c17
        refine j_aload_n (pc := 137) 0 dX7_worst_137 rfl rfl ?_
        refine jg_0_4 (pc := 138) dX7_worst_138 (hC (0, 0) rfl) tw_482 ?_
        refine jg_7_1 (pc := 141) dX7_worst_141 (hC (7, 0) rfl) tw_273 ?_
        obtain ⟨v18, ev18, h⟩ := jlk h
        refine j_topi ev18 ?_
        refine j_istore_n (pc := 144) (lv' := [(2, .int v18), (0, .ref (E.1 (0, 0))), (1, .int x1), (3, .int x3), (4, .int x4), (5, .int x5), (6, .int x6)]) dX7_worst_144 rfl (by decide) rfl ?_
        refine j_iload (pc := 145) 5 dX7_worst_145 rfl ?_
        refine j_istore_n (pc := 147) (lv' := [(3, .int x5), (2, .int v18), (0, .ref (E.1 (0, 0))), (1, .int x1), (4, .int x4), (5, .int x5), (6, .int x6)]) dX7_worst_147 rfl (by decide) rfl ?_
        refine j_iload (pc := 148) 6 dX7_worst_148 rfl ?_
        refine j_istore (pc := 150) (lv' := [(4, .int x6), (3, .int x5), (2, .int v18), (0, .ref (E.1 (0, 0))), (1, .int x1), (5, .int x5), (6, .int x6)]) dX7_worst_150 (by decide) rfl ?_
        exact j_sub [3, 4, 2, 1, 0, 5, 6] rfl (lX7_worst_152 hC H72 H93 h)
def fX7_worst_93  (q72 : jS → Int32 → Int32 → Int32 → Int32 → Int32 → Option (Int32 × jS)) : Nat → jS → Int32 → Int32 → Int32 → Int32 → Int32 → Int32 → Option (Int32 × jS)
  | 0 => fun _ _ _ _ _ _ _ => none
  | n + 1 => bX7_worst_93  q72 (fX7_worst_93  q72 n)
theorem kX7_worst_93 {E : jE} (hC : jHC E) {q72 : jS → Int32 → Int32 → Int32 → Int32 → Int32 → Option (Int32 × jS)} (H72 : ∀ {S : jS} {x1 : Int32} {x2 : Int32} {x3 : Int32} {x4 : Int32} {x5 : Int32} {r : (Int32 × jS)}, q72 S x1 x2 x3 x4 x5 = some r → JR E 18 mX7_worst 72 [(0, .ref (E.1 (0, 0))), (1, .int x1), (2, .int x2), (3, .int x3), (4, .int x4), (5, .int x5)] [] S [.int r.1] r.2) (fu : Nat) : ∀ {S : jS} {x1 : Int32} {x2 : Int32} {x3 : Int32} {x4 : Int32} {x5 : Int32} {x6 : Int32} {r : (Int32 × jS)}, fX7_worst_93  q72 fu S x1 x2 x3 x4 x5 x6 = some r → JR E 18 mX7_worst 93 [(0, .ref (E.1 (0, 0))), (1, .int x1), (2, .int x2), (3, .int x3), (4, .int x4), (5, .int x5), (6, .int x6)] [] S [.int r.1] r.2 := by
  induction fu with
  | zero => intro S x1 x2 x3 x4 x5 x6 r h; cases h
  | succ n_ ih => intro S x1 x2 x3 x4 x5 x6 r h; exact lX7_worst_93 hC H72 ih h
def bX7_worst_72  (q72 : jS → Int32 → Int32 → Int32 → Int32 → Int32 → Option (Int32 × jS)) (S : jS) (x1 : Int32) (x2 : Int32) (x3 : Int32) (x4 : Int32) (x5 : Int32) : Option (Int32 × jS) :=
  (if (S.1 (3, 0)) ≤ x5 then (if x3 = (-4 : Int32) then some ((-4 : Int32), S) else (if x1 = 0 then some (x3, S) else (if x1 = (1 : Int32) then some (x4, S) else some (x2, S)))) else jlet (x5 + (1 : Int32)) fun v11 => fX7_worst_93 q72 5000 S x1 x2 x3 x4 x5 v11)
set_option maxRecDepth 10000 in
set_option maxHeartbeats 4000000 in
theorem lX7_worst_72 {E : jE} (hC : jHC E) {q72 : jS → Int32 → Int32 → Int32 → Int32 → Int32 → Option (Int32 × jS)} (H72 : ∀ {S : jS} {x1 : Int32} {x2 : Int32} {x3 : Int32} {x4 : Int32} {x5 : Int32} {r : (Int32 × jS)}, q72 S x1 x2 x3 x4 x5 = some r → JR E 18 mX7_worst 72 [(0, .ref (E.1 (0, 0))), (1, .int x1), (2, .int x2), (3, .int x3), (4, .int x4), (5, .int x5)] [] S [.int r.1] r.2) {S : jS} {x1 : Int32} {x2 : Int32} {x3 : Int32} {x4 : Int32} {x5 : Int32} {r : (Int32 × jS)} (h : bX7_worst_72  q72 S x1 x2 x3 x4 x5 = some r) : JR E 18 mX7_worst 72 [(0, .ref (E.1 (0, 0))), (1, .int x1), (2, .int x2), (3, .int x3), (4, .int x4), (5, .int x5)] [] S [.int r.1] r.2 := by
  unfold bX7_worst_72 at h
  refine j_iload (pc := 72) 5 dX7_worst_72 rfl ?_
  refine j_aload_n (pc := 74) 0 dX7_worst_74 rfl rfl ?_
  refine jg_0_1 (pc := 75) dX7_worst_75 (hC (0, 0) rfl) tw_479 ?_
  refine jg_2_0 (pc := 78) dX7_worst_78 (hC (2, 0) rfl) tw_233 ?_
  refine jg_3_2 (pc := 81) dX7_worst_81 (hC (3, 0) rfl) tw_135 ?_
  refine j_icmp_ge (pc := 84) (tgt := 164) dX7_worst_84 (by decide) (fun c7 => ?_) (fun c7 => ?_)
  · replace h := jite_t h c7
    refine j_iload_n (pc := 164) 3 dX7_worst_164 rfl rfl ?_
    refine j_bipush (pc := 165) dX7_worst_165 jcb_m4 ?_
    refine j_icmp_ne (pc := 167) (tgt := 173) dX7_worst_167 (by decide) (fun c8 => ?_) (fun c8 => ?_)
    · replace h := jite_f h c8
      refine j_iload_n (pc := 173) 1 dX7_worst_173 rfl rfl ?_
      refine j_if_ne (pc := 174) (tgt := 181) dX7_worst_174 (by decide) (fun c9 => ?_) (fun c9 => ?_)
      · replace h := jite_f h c9
        refine j_iload_n (pc := 181) 1 dX7_worst_181 rfl rfl ?_
        refine j_iconst (pc := 182) dX7_worst_182 jci_1 ?_
        refine j_icmp_ne (pc := 183) (tgt := 191) dX7_worst_183 (by decide) (fun c10 => ?_) (fun c10 => ?_)
        · replace h := jite_f h c10
          refine j_iload_n (pc := 191) 2 dX7_worst_191 rfl rfl ?_
          cases h
          exact j_iret (pc := 192) dX7_worst_192 rfl rfl
        · replace h := jite_t h c10
          refine j_iload (pc := 186) 4 dX7_worst_186 rfl ?_
          refine j_goto (pc := 188) (tgt := 192) dX7_worst_188 (by decide) ?_
          cases h
          exact j_iret (pc := 192) dX7_worst_192 rfl rfl
      · replace h := jite_t h c9
        refine j_iload_n (pc := 177) 3 dX7_worst_177 rfl rfl ?_
        refine j_goto (pc := 178) (tgt := 192) dX7_worst_178 (by decide) ?_
        cases h
        exact j_iret (pc := 192) dX7_worst_192 rfl rfl
    · replace h := jite_t h c8
      refine j_bipush (pc := 170) dX7_worst_170 jcb_m4 ?_
      cases h
      exact j_iret (pc := 172) dX7_worst_172 rfl rfl
  · replace h := jite_f h c7
    refine j_iload (pc := 87) 5 dX7_worst_87 rfl ?_
    refine j_iconst (pc := 89) dX7_worst_89 jci_1 ?_
    refine j_iadd (pc := 90) dX7_worst_90 ?_
    obtain ⟨v11, ev11, h⟩ := jlk h
    refine j_topi ev11 ?_
    refine j_istore (pc := 91) (lv' := [(6, .int v11), (0, .ref (E.1 (0, 0))), (1, .int x1), (2, .int x2), (3, .int x3), (4, .int x4), (5, .int x5)]) dX7_worst_91 (by decide) rfl ?_
    exact j_sub [1, 2, 3, 4, 5, 6, 0] rfl (kX7_worst_93 hC H72 5000 h)
def fX7_worst_72  : Nat → jS → Int32 → Int32 → Int32 → Int32 → Int32 → Option (Int32 × jS)
  | 0 => fun _ _ _ _ _ _ => none
  | n + 1 => bX7_worst_72  (fX7_worst_72  n)
theorem kX7_worst_72 {E : jE} (hC : jHC E) (fu : Nat) : ∀ {S : jS} {x1 : Int32} {x2 : Int32} {x3 : Int32} {x4 : Int32} {x5 : Int32} {r : (Int32 × jS)}, fX7_worst_72  fu S x1 x2 x3 x4 x5 = some r → JR E 18 mX7_worst 72 [(0, .ref (E.1 (0, 0))), (1, .int x1), (2, .int x2), (3, .int x3), (4, .int x4), (5, .int x5)] [] S [.int r.1] r.2 := by
  induction fu with
  | zero => intro S x1 x2 x3 x4 x5 r h; cases h
  | succ n_ ih => intro S x1 x2 x3 x4 x5 r h; exact lX7_worst_72 hC ih h
def fX7_worst  (S : jS) (x1 : Int32) : Option (Int32 × jS) :=
  (fX7_within S x1 (0 : Int32) (2 : Int32)).bind fun y1 => (if y1.1 = 0 then some ((-1 : Int32), y1.2) else (fX3_weigh 0 0 y1.2).bind fun y3 => (fX3_pick 0 0 y3 (0 : Int32)).bind fun y4 => jlet (y4.1 (11, 0)) fun v5 => (fX2_copyFrom 1 0 y4).bind fun y6 => fX7_worst_72 5000 y6 x1 v5 (-4 : Int32) (-4 : Int32) (0 : Int32))
set_option maxRecDepth 10000 in
set_option maxHeartbeats 4000000 in
theorem kX7_worst {E : jE} (hC : jHC E) {S : jS} {x1 : Int32} {r : (Int32 × jS)} (h : fX7_worst  S x1 = some r) : jMR E 18 mX7_worst [.ref (E.1 (0, 0)), .int x1] S [.int r.1] r.2 := by
  refine ⟨Nat.le_of_ble_eq_true rfl, ?_⟩
  show JR E 18 mX7_worst 0 [(0, .ref (E.1 (0, 0))), (1, .int x1)] [] S [.int r.1] r.2
  unfold fX7_worst at h
  refine j_iload_n (pc := 0) 1 dX7_worst_0 rfl rfl ?_
  refine j_iconst (pc := 1) dX7_worst_1 jci_0 ?_
  refine j_iconst (pc := 2) dX7_worst_2 jci_2 ?_
  obtain ⟨y1, hy1, h⟩ := jbnd h
  refine j_callS (pc := 3) (N := mX7_within) (As := [.int x1, .int (0 : Int32), .int (2 : Int32)]) (rest := []) (v := [.int y1.1]) (S1 := y1.2) dX7_worst_3 (kX7_within hC hy1) (by simp) (by decide) okX7_within tw_398 tw_502 rfl rfl (by simp [Value.category]) ?_
  refine j_if_ne (pc := 6) (tgt := 11) dX7_worst_6 (by decide) (fun c2 => ?_) (fun c2 => ?_)
  · replace h := jite_f h c2
    refine j_aload_n (pc := 11) 0 dX7_worst_11 rfl rfl ?_
    refine jg_0_4 (pc := 12) dX7_worst_12 (hC (0, 0) rfl) tw_482 ?_
    refine j_aload_n (pc := 15) 0 dX7_worst_15 rfl rfl ?_
    refine jg_0_1 (pc := 16) dX7_worst_16 (hC (0, 0) rfl) tw_479 ?_
    obtain ⟨y3, hy3, h⟩ := jbnd h
    refine j_callV (pc := 19) (N := mX3_weigh) (rr := (7, 0)) (As := [.ref (E.1 (2, 0))]) (rest := []) (v := []) (S1 := y3) dX7_worst_19 (kX3_weigh hC (by decide) (by decide) hy3) (by simp) (by decide) okX3_weigh tw_598 tw_599 tw_685 (hC (7, 0) rfl) rfl rfl rfl rfl (by simp [Value.category]) ?_
    refine j_aload_n (pc := 22) 0 dX7_worst_22 rfl rfl ?_
    refine jg_0_4 (pc := 23) dX7_worst_23 (hC (0, 0) rfl) tw_482 ?_
    refine j_aload_n (pc := 26) 0 dX7_worst_26 rfl rfl ?_
    refine jg_0_1 (pc := 27) dX7_worst_27 (hC (0, 0) rfl) tw_479 ?_
    refine jg_2_0 (pc := 30) dX7_worst_30 (hC (2, 0) rfl) tw_233 ?_
    refine j_iconst (pc := 33) dX7_worst_33 jci_0 ?_
    obtain ⟨y4, hy4, h⟩ := jbnd h
    refine j_callV (pc := 34) (N := mX3_pick) (rr := (7, 0)) (As := [.ref (E.1 (3, 0)), .int (0 : Int32)]) (rest := []) (v := []) (S1 := y4) dX7_worst_34 (kX3_pick hC (by decide) (by decide) hy4) (by simp) (by decide) okX3_pick tw_615 tw_616 tw_686 (hC (7, 0) rfl) rfl rfl rfl rfl (by simp [Value.category]) ?_
    refine j_aload_n (pc := 37) 0 dX7_worst_37 rfl rfl ?_
    refine jg_0_4 (pc := 38) dX7_worst_38 (hC (0, 0) rfl) tw_482 ?_
    refine jg_7_1 (pc := 41) dX7_worst_41 (hC (7, 0) rfl) tw_273 ?_
    obtain ⟨v5, ev5, h⟩ := jlk h
    refine j_topi ev5 ?_
    refine j_istore_n (pc := 44) (lv' := [(2, .int v5), (0, .ref (E.1 (0, 0))), (1, .int x1)]) dX7_worst_44 rfl (by decide) rfl ?_
    refine j_bipush (pc := 45) dX7_worst_45 jcb_m4 ?_
    refine j_istore_n (pc := 47) (lv' := [(3, .int (-4 : Int32)), (2, .int v5), (0, .ref (E.1 (0, 0))), (1, .int x1)]) dX7_worst_47 rfl (by decide) rfl ?_
    refine j_bipush (pc := 48) dX7_worst_48 jcb_m4 ?_
    refine j_istore (pc := 50) (lv' := [(4, .int (-4 : Int32)), (3, .int (-4 : Int32)), (2, .int v5), (0, .ref (E.1 (0, 0))), (1, .int x1)]) dX7_worst_50 (by decide) rfl ?_
    refine j_aload_n (pc := 52) 3 dX7_worst_52 rfl rfl ?_
    refine jg_0_2 (pc := 53) dX7_worst_53 (hC (0, 0) rfl) tw_480 ?_
    refine jg_2_0 (pc := 56) dX7_worst_56 (hC (2, 1) rfl) tw_233 ?_
    refine j_aload_n (pc := 59) 3 dX7_worst_59 rfl rfl ?_
    refine jg_0_1 (pc := 60) dX7_worst_60 (hC (0, 0) rfl) tw_479 ?_
    refine jg_2_0 (pc := 63) dX7_worst_63 (hC (2, 0) rfl) tw_233 ?_
    obtain ⟨y6, hy6, h⟩ := jbnd h
    refine j_callV (pc := 66) (N := mX2_copyFrom) (rr := (3, 1)) (As := [.ref (E.1 (3, 0))]) (rest := []) (v := []) (S1 := y6) dX7_worst_66 (kX2_copyFrom hC (by decide) (by decide) hy6) (by simp) (by decide) okX2_copyFrom tw_452 tw_453 tw_451 (hC (3, 1) rfl) rfl rfl rfl rfl (by simp [Value.category]) ?_
    refine j_iconst (pc := 69) dX7_worst_69 jci_0 ?_
    refine j_istore (pc := 70) (lv' := [(5, .int (0 : Int32)), (4, .int (-4 : Int32)), (3, .int (-4 : Int32)), (2, .int v5), (0, .ref (E.1 (0, 0))), (1, .int x1)]) dX7_worst_70 (by decide) rfl ?_
    exact j_sub [4, 5, 3, 2, 1, 0] rfl (kX7_worst_72 hC 5000 h)
  · replace h := jite_t h c2
    refine j_iconst (pc := 9) dX7_worst_9 jci_m1 ?_
    cases h
    exact j_iret (pc := 10) dX7_worst_10 rfl rfl
abbrev mX7_drawn : jM := (yX7_drawn, cX7_drawn, 5, (some .int))
theorem okX7_drawn : jOK mX7_drawn 3 := ⟨by decide +kernel, tw_739, tw_69, by decide +kernel, by decide, by decide⟩
def bX7_drawn_46  (q46 : jS → Int32 → Int32 → Int32 → Int32 → Option (Int32 × jS)) (S : jS) (x1 : Int32) (x2 : Int32) (x3 : Int32) (x4 : Int32) : Option (Int32 × jS) :=
  (if x2 ≤ x4 then (fX7_trialSince S x3).bind fun y9 => some (y9.1, y9.2) else (fX1_drawFeeds 1 S x1 x4).bind fun y10 => (fX1_move 1 (42, 0) y10 (0 : Int32)).bind fun y11 => jlet (x4 + (1 : Int32)) fun v12 => q46 y11 x1 x2 x3 v12)
set_option maxRecDepth 10000 in
set_option maxHeartbeats 4000000 in
theorem lX7_drawn_46 {E : jE} (hC : jHC E) {q46 : jS → Int32 → Int32 → Int32 → Int32 → Option (Int32 × jS)} (H46 : ∀ {S : jS} {x1 : Int32} {x2 : Int32} {x3 : Int32} {x4 : Int32} {r : (Int32 × jS)}, q46 S x1 x2 x3 x4 = some r → JR E 18 mX7_drawn 46 [(0, .ref (E.1 (0, 0))), (1, .int x1), (2, .int x2), (3, .int x3), (4, .int x4)] [] S [.int r.1] r.2) {S : jS} {x1 : Int32} {x2 : Int32} {x3 : Int32} {x4 : Int32} {r : (Int32 × jS)} (h : bX7_drawn_46  q46 S x1 x2 x3 x4 = some r) : JR E 18 mX7_drawn 46 [(0, .ref (E.1 (0, 0))), (1, .int x1), (2, .int x2), (3, .int x3), (4, .int x4)] [] S [.int r.1] r.2 := by
  unfold bX7_drawn_46 at h
  refine j_iload (pc := 46) 4 dX7_drawn_46 rfl ?_
  refine j_iload_n (pc := 48) 2 dX7_drawn_48 rfl rfl ?_
  refine j_icmp_ge (pc := 49) (tgt := 94) dX7_drawn_49 (by decide) (fun c8 => ?_) (fun c8 => ?_)
  · replace h := jite_t h c8
    refine j_aload_n (pc := 94) 0 dX7_drawn_94 rfl rfl ?_
    refine j_iload_n (pc := 95) 3 dX7_drawn_95 rfl rfl ?_
    obtain ⟨y9, hy9, h⟩ := jbnd h
    refine j_callV (pc := 96) (N := mX7_trialSince) (rr := (0, 0)) (As := [.int x3]) (rest := []) (v := [.int y9.1]) (S1 := y9.2) dX7_drawn_96 (kX7_trialSince hC hy9) (by simp) (by decide) okX7_trialSince tw_718 tw_19 tw_716 (hC (0, 0) rfl) rfl rfl rfl rfl (by simp [Value.category]) ?_
    cases h
    exact j_iret (pc := 99) dX7_drawn_99 rfl rfl
  · replace h := jite_f h c8
    refine j_aload_n (pc := 52) 0 dX7_drawn_52 rfl rfl ?_
    refine jg_0_5 (pc := 53) dX7_drawn_53 (hC (0, 0) rfl) tw_483 ?_
    refine j_aload_n (pc := 56) 0 dX7_drawn_56 rfl rfl ?_
    refine jg_0_2 (pc := 57) dX7_drawn_57 (hC (0, 0) rfl) tw_480 ?_
    refine jg_2_0 (pc := 60) dX7_drawn_60 (hC (2, 1) rfl) tw_233 ?_
    refine j_iload_n (pc := 63) 1 dX7_drawn_63 rfl rfl ?_
    refine j_iload (pc := 64) 4 dX7_drawn_64 rfl ?_
    obtain ⟨y10, hy10, h⟩ := jbnd h
    refine j_callV (pc := 66) (N := mX1_drawFeeds) (rr := (8, 0)) (As := [.ref (E.1 (3, 1)), .int x1, .int x4]) (rest := []) (v := []) (S1 := y10) dX7_drawn_66 (kX1_drawFeeds hC (by decide) hy10) (by simp) (by decide) okX1_drawFeeds tw_741 tw_742 tw_740 (hC (8, 0) rfl) rfl rfl rfl rfl (by simp [Value.category]) ?_
    refine j_aload_n (pc := 69) 0 dX7_drawn_69 rfl rfl ?_
    refine jg_0_5 (pc := 70) dX7_drawn_70 (hC (0, 0) rfl) tw_483 ?_
    refine j_aload_n (pc := 73) 0 dX7_drawn_73 rfl rfl ?_
    refine jg_0_2 (pc := 74) dX7_drawn_74 (hC (0, 0) rfl) tw_480 ?_
    refine j_iconst (pc := 77) dX7_drawn_77 jci_0 ?_
    refine j_aload_n (pc := 78) 0 dX7_drawn_78 rfl rfl ?_
    refine jg_0_5 (pc := 79) dX7_drawn_79 (hC (0, 0) rfl) tw_483 ?_
    refine jg_8_0 (pc := 82) dX7_drawn_82 (hC (8, 0) rfl) tw_297 ?_
    obtain ⟨y11, hy11, h⟩ := jbnd h
    refine j_callV (pc := 85) (N := mX1_move) (rr := (8, 0)) (As := [.ref (E.1 (2, 1)), .int (0 : Int32), .ref (E.1 (42, 0))]) (rest := []) (v := []) (S1 := y11) dX7_drawn_85 (kX1_move hC (by decide) ⟨rfl, (hC (42, 0) rfl)⟩ hy11) (by simp) (by decide) okX1_move tw_594 tw_595 tw_593 (hC (8, 0) rfl) rfl rfl rfl rfl (by simp [Value.category]) ?_
    obtain ⟨v12, ev12, h⟩ := jlk h
    refine j_iinc (pc := 88) (v := v12) (lv' := [(4, .int v12), (0, .ref (E.1 (0, 0))), (1, .int x1), (2, .int x2), (3, .int x3)]) 4 dX7_drawn_88 rfl (by rw [ev12]; rfl) (by decide) rfl ?_
    refine j_goto (pc := 91) (tgt := 46) dX7_drawn_91 (by decide) ?_
    exact j_sub [1, 2, 3, 4, 0] rfl (H46 h)
def fX7_drawn_46  : Nat → jS → Int32 → Int32 → Int32 → Int32 → Option (Int32 × jS)
  | 0 => fun _ _ _ _ _ => none
  | n + 1 => bX7_drawn_46  (fX7_drawn_46  n)
theorem kX7_drawn_46 {E : jE} (hC : jHC E) (fu : Nat) : ∀ {S : jS} {x1 : Int32} {x2 : Int32} {x3 : Int32} {x4 : Int32} {r : (Int32 × jS)}, fX7_drawn_46  fu S x1 x2 x3 x4 = some r → JR E 18 mX7_drawn 46 [(0, .ref (E.1 (0, 0))), (1, .int x1), (2, .int x2), (3, .int x3), (4, .int x4)] [] S [.int r.1] r.2 := by
  induction fu with
  | zero => intro S x1 x2 x3 x4 r h; cases h
  | succ n_ ih => intro S x1 x2 x3 x4 r h; exact lX7_drawn_46 hC ih h
def fX7_drawn  (S : jS) (x1 : Int32) (x2 : Int32) (x3 : Int32) : Option (Int32 × jS) :=
  (fX7_within S x1 (0 : Int32) (9999 : Int32)).bind fun y1 => (if y1.1 = 0 then some ((-1 : Int32), y1.2) else (fX7_within y1.2 x2 (1 : Int32) (60 : Int32)).bind fun y3 => (if y3.1 = 0 then some ((-1 : Int32), y3.2) else (fX7_within y3.2 x3 (0 : Int32) (2 : Int32)).bind fun y5 => (if y5.1 = 0 then some ((-1 : Int32), y5.2) else (fX6_copyFrom 1 0 y5.2).bind fun y7 => fX7_drawn_46 5000 y7 x1 x2 x3 (0 : Int32))))
set_option maxRecDepth 10000 in
set_option maxHeartbeats 4000000 in
theorem kX7_drawn {E : jE} (hC : jHC E) {S : jS} {x1 : Int32} {x2 : Int32} {x3 : Int32} {r : (Int32 × jS)} (h : fX7_drawn  S x1 x2 x3 = some r) : jMR E 18 mX7_drawn [.ref (E.1 (0, 0)), .int x1, .int x2, .int x3] S [.int r.1] r.2 := by
  refine ⟨Nat.le_of_ble_eq_true rfl, ?_⟩
  show JR E 18 mX7_drawn 0 [(0, .ref (E.1 (0, 0))), (1, .int x1), (2, .int x2), (3, .int x3)] [] S [.int r.1] r.2
  unfold fX7_drawn at h
  refine j_iload_n (pc := 0) 1 dX7_drawn_0 rfl rfl ?_
  refine j_iconst (pc := 1) dX7_drawn_1 jci_0 ?_
  refine j_sipush (pc := 2) dX7_drawn_2 jcs_9999 ?_
  obtain ⟨y1, hy1, h⟩ := jbnd h
  refine j_callS (pc := 5) (N := mX7_within) (As := [.int x1, .int (0 : Int32), .int (9999 : Int32)]) (rest := []) (v := [.int y1.1]) (S1 := y1.2) dX7_drawn_5 (kX7_within hC hy1) (by simp) (by decide) okX7_within tw_398 tw_502 rfl rfl (by simp [Value.category]) ?_
  refine j_if_eq (pc := 8) (tgt := 30) dX7_drawn_8 (by decide) (fun c2 => ?_) (fun c2 => ?_)
  · replace h := jite_t h c2
    refine j_iconst (pc := 30) dX7_drawn_30 jci_m1 ?_
    cases h
    exact j_iret (pc := 31) dX7_drawn_31 rfl rfl
  · replace h := jite_f h c2
    refine j_iload_n (pc := 11) 2 dX7_drawn_11 rfl rfl ?_
    refine j_iconst (pc := 12) dX7_drawn_12 jci_1 ?_
    refine j_bipush (pc := 13) dX7_drawn_13 jcb_60 ?_
    obtain ⟨y3, hy3, h⟩ := jbnd h
    refine j_callS (pc := 15) (N := mX7_within) (As := [.int x2, .int (1 : Int32), .int (60 : Int32)]) (rest := []) (v := [.int y3.1]) (S1 := y3.2) dX7_drawn_15 (kX7_within hC hy3) (by simp) (by decide) okX7_within tw_398 tw_502 rfl rfl (by simp [Value.category]) ?_
    refine j_if_eq (pc := 18) (tgt := 30) dX7_drawn_18 (by decide) (fun c4 => ?_) (fun c4 => ?_)
    · replace h := jite_t h c4
      refine j_iconst (pc := 30) dX7_drawn_30 jci_m1 ?_
      cases h
      exact j_iret (pc := 31) dX7_drawn_31 rfl rfl
    · replace h := jite_f h c4
      refine j_iload_n (pc := 21) 3 dX7_drawn_21 rfl rfl ?_
      refine j_iconst (pc := 22) dX7_drawn_22 jci_0 ?_
      refine j_iconst (pc := 23) dX7_drawn_23 jci_2 ?_
      obtain ⟨y5, hy5, h⟩ := jbnd h
      refine j_callS (pc := 24) (N := mX7_within) (As := [.int x3, .int (0 : Int32), .int (2 : Int32)]) (rest := []) (v := [.int y5.1]) (S1 := y5.2) dX7_drawn_24 (kX7_within hC hy5) (by simp) (by decide) okX7_within tw_398 tw_502 rfl rfl (by simp [Value.category]) ?_
      refine j_if_ne (pc := 27) (tgt := 32) dX7_drawn_27 (by decide) (fun c6 => ?_) (fun c6 => ?_)
      · replace h := jite_f h c6
        refine j_aload_n (pc := 32) 0 dX7_drawn_32 rfl rfl ?_
        refine jg_0_2 (pc := 33) dX7_drawn_33 (hC (0, 0) rfl) tw_480 ?_
        refine j_aload_n (pc := 36) 0 dX7_drawn_36 rfl rfl ?_
        refine jg_0_1 (pc := 37) dX7_drawn_37 (hC (0, 0) rfl) tw_479 ?_
        obtain ⟨y7, hy7, h⟩ := jbnd h
        refine j_callV (pc := 40) (N := mX6_copyFrom) (rr := (2, 1)) (As := [.ref (E.1 (2, 0))]) (rest := []) (v := []) (S1 := y7) dX7_drawn_40 (kX6_copyFrom hC (by decide) (by decide) hy7) (by simp) (by decide) okX6_copyFrom tw_526 tw_527 tw_710 (hC (2, 1) rfl) rfl rfl rfl rfl (by simp [Value.category]) ?_
        refine j_iconst (pc := 43) dX7_drawn_43 jci_0 ?_
        refine j_istore (pc := 44) (lv' := [(4, .int (0 : Int32)), (0, .ref (E.1 (0, 0))), (1, .int x1), (2, .int x2), (3, .int x3)]) dX7_drawn_44 (by decide) rfl ?_
        exact j_sub [1, 2, 3, 4, 0] rfl (kX7_drawn_46 hC 5000 h)
      · replace h := jite_t h c6
        refine j_iconst (pc := 30) dX7_drawn_30 jci_m1 ?_
        cases h
        exact j_iret (pc := 31) dX7_drawn_31 rfl rfl
abbrev mX7_countPackets : jM := (yX7_countPackets, cX7_countPackets, 2, (some .int))
theorem okX7_countPackets : jOK mX7_countPackets 1 := ⟨by decide +kernel, tw_755, tw_69, by decide +kernel, by decide, by decide⟩
def fX7_countPackets  (S : jS) (x1 : Int32) : Option (Int32 × jS) :=
  (if x1 = (6 : Int32) then some (S.1 (6, 0), S) else (if x1 = (7 : Int32) then (fX4_packets 0 S).bind fun y3 => some (y3.1, y3.2) else (if x1 = (8 : Int32) then (fX4_thereInAll 0 S).bind fun y5 => some (y5.1, y5.2) else (if x1 = (9 : Int32) then some (S.1 (7, 0), S) else (if x1 = (10 : Int32) then (fX4_squares 0 S).bind fun y8 => some (y8.1, y8.2) else some ((-1 : Int32), S))))))
set_option maxRecDepth 10000 in
set_option maxHeartbeats 4000000 in
theorem kX7_countPackets {E : jE} (hC : jHC E) {S : jS} {x1 : Int32} {r : (Int32 × jS)} (h : fX7_countPackets  S x1 = some r) : jMR E 2 mX7_countPackets [.ref (E.1 (0, 0)), .int x1] S [.int r.1] r.2 := by
  refine ⟨Nat.le_of_ble_eq_true rfl, ?_⟩
  show JR E 2 mX7_countPackets 0 [(0, .ref (E.1 (0, 0))), (1, .int x1)] [] S [.int r.1] r.2
  unfold fX7_countPackets at h
  refine j_iload_n (pc := 0) 1 dX7_countPackets_0 rfl rfl ?_
  by_cases c1 : x1 = (6 : Int32)
  · replace h := jite_t h c1
    refine j_tabIn (pc := 1) (tgt := 36) (off := 35) dX7_countPackets_1 (by rw [c1]; decide) (by rw [c1]; decide) (by rw [c1]; rfl) (by decide) ?_
    refine j_aload_n (pc := 36) 0 dX7_countPackets_36 rfl rfl ?_
    refine jg_0_1 (pc := 37) dX7_countPackets_37 (hC (0, 0) rfl) tw_479 ?_
    refine jg_2_1 (pc := 40) dX7_countPackets_40 (hC (2, 0) rfl) tw_237 ?_
    refine jg_4_0 (pc := 43) dX7_countPackets_43 (hC (4, 0) rfl) tw_197 ?_
    cases h
    exact j_iret (pc := 46) dX7_countPackets_46 rfl rfl
  replace h := jite_f h c1
  by_cases c2 : x1 = (7 : Int32)
  · replace h := jite_t h c2
    refine j_tabIn (pc := 1) (tgt := 47) (off := 46) dX7_countPackets_1 (by rw [c2]; decide) (by rw [c2]; decide) (by rw [c2]; rfl) (by decide) ?_
    refine j_aload_n (pc := 47) 0 dX7_countPackets_47 rfl rfl ?_
    refine jg_0_1 (pc := 48) dX7_countPackets_48 (hC (0, 0) rfl) tw_479 ?_
    refine jg_2_1 (pc := 51) dX7_countPackets_51 (hC (2, 0) rfl) tw_237 ?_
    obtain ⟨y3, hy3, h⟩ := jbnd h
    refine j_callV (pc := 54) (N := mX4_packets) (rr := (4, 0)) (As := []) (rest := []) (v := [.int y3.1]) (S1 := y3.2) dX7_countPackets_54 (kX4_packets hC (by decide) hy3) (by simp) (by decide) okX4_packets tw_721 tw_722 tw_720 (hC (4, 0) rfl) rfl rfl rfl rfl (by simp [Value.category]) ?_
    cases h
    exact j_iret (pc := 57) dX7_countPackets_57 rfl rfl
  replace h := jite_f h c2
  by_cases c4 : x1 = (8 : Int32)
  · replace h := jite_t h c4
    refine j_tabIn (pc := 1) (tgt := 58) (off := 57) dX7_countPackets_1 (by rw [c4]; decide) (by rw [c4]; decide) (by rw [c4]; rfl) (by decide) ?_
    refine j_aload_n (pc := 58) 0 dX7_countPackets_58 rfl rfl ?_
    refine jg_0_1 (pc := 59) dX7_countPackets_59 (hC (0, 0) rfl) tw_479 ?_
    refine jg_2_1 (pc := 62) dX7_countPackets_62 (hC (2, 0) rfl) tw_237 ?_
    obtain ⟨y5, hy5, h⟩ := jbnd h
    refine j_callV (pc := 65) (N := mX4_thereInAll) (rr := (4, 0)) (As := []) (rest := []) (v := [.int y5.1]) (S1 := y5.2) dX7_countPackets_65 (kX4_thereInAll hC (by decide) hy5) (by simp) (by decide) okX4_thereInAll tw_590 tw_591 tw_589 (hC (4, 0) rfl) rfl rfl rfl rfl (by simp [Value.category]) ?_
    cases h
    exact j_iret (pc := 68) dX7_countPackets_68 rfl rfl
  replace h := jite_f h c4
  by_cases c6 : x1 = (9 : Int32)
  · replace h := jite_t h c6
    refine j_tabIn (pc := 1) (tgt := 69) (off := 68) dX7_countPackets_1 (by rw [c6]; decide) (by rw [c6]; decide) (by rw [c6]; rfl) (by decide) ?_
    refine j_aload_n (pc := 69) 0 dX7_countPackets_69 rfl rfl ?_
    refine jg_0_1 (pc := 70) dX7_countPackets_70 (hC (0, 0) rfl) tw_479 ?_
    refine jg_2_1 (pc := 73) dX7_countPackets_73 (hC (2, 0) rfl) tw_237 ?_
    refine jg_4_1 (pc := 76) dX7_countPackets_76 (hC (4, 0) rfl) tw_199 ?_
    cases h
    exact j_iret (pc := 79) dX7_countPackets_79 rfl rfl
  replace h := jite_f h c6
  by_cases c7 : x1 = (10 : Int32)
  · replace h := jite_t h c7
    refine j_tabIn (pc := 1) (tgt := 80) (off := 79) dX7_countPackets_1 (by rw [c7]; decide) (by rw [c7]; decide) (by rw [c7]; rfl) (by decide) ?_
    refine j_aload_n (pc := 80) 0 dX7_countPackets_80 rfl rfl ?_
    refine jg_0_1 (pc := 81) dX7_countPackets_81 (hC (0, 0) rfl) tw_479 ?_
    refine jg_2_1 (pc := 84) dX7_countPackets_84 (hC (2, 0) rfl) tw_237 ?_
    obtain ⟨y8, hy8, h⟩ := jbnd h
    refine j_callV (pc := 87) (N := mX4_squares) (rr := (4, 0)) (As := []) (rest := []) (v := [.int y8.1]) (S1 := y8.2) dX7_countPackets_87 (kX4_squares hC (by decide) hy8) (by simp) (by decide) okX4_squares tw_712 tw_713 tw_711 (hC (4, 0) rfl) rfl rfl rfl rfl (by simp [Value.category]) ?_
    cases h
    exact j_iret (pc := 90) dX7_countPackets_90 rfl rfl
  replace h := jite_f h c7
  refine j_tabD (pc := 1) (tgt := 91) dX7_countPackets_1 (by decide) (fun i hi => match i, hi with | 0, _ => Or.inr (jti c1 rfl) | 1, _ => Or.inr (jti c2 rfl) | 2, _ => Or.inr (jti c4 rfl) | 3, _ => Or.inr (jti c6 rfl) | 4, _ => Or.inr (jti c7 rfl) | n + 5, h9 => absurd h9 (by simp)) (by decide) ?_
  refine j_iconst (pc := 91) dX7_countPackets_91 jci_m1 ?_
  cases h
  exact j_iret (pc := 92) dX7_countPackets_92 rfl rfl
abbrev mX7_count : jM := (yX7_count, cX7_count, 2, (some .int))
theorem okX7_count : jOK mX7_count 1 := ⟨by decide +kernel, tw_751, tw_69, by decide +kernel, by decide, by decide⟩
def fX7_count  (S : jS) (x1 : Int32) : Option (Int32 × jS) :=
  (if x1 = (0 : Int32) then some (S.1 (1, 0), S) else (if x1 = (1 : Int32) then some (S.1 (2, 0), S) else (if x1 = (2 : Int32) then some (S.1 (3, 0), S) else (if x1 = (3 : Int32) then (fX2_pairs 0 S).bind fun y5 => some (y5.1, y5.2) else (if x1 = (4 : Int32) then some (S.1 (4, 0), S) else (if x1 = (5 : Int32) then some (S.1 (5, 0), S) else (if x1 = (11 : Int32) then some (S.1 (8, 0), S) else (if x1 = (12 : Int32) then some (S.1 (0, 0), S) else (fX7_countPackets S x1).bind fun y10 => some (y10.1, y10.2)))))))))
set_option maxRecDepth 10000 in
set_option maxHeartbeats 4000000 in
theorem kX7_count {E : jE} (hC : jHC E) {S : jS} {x1 : Int32} {r : (Int32 × jS)} (h : fX7_count  S x1 = some r) : jMR E 3 mX7_count [.ref (E.1 (0, 0)), .int x1] S [.int r.1] r.2 := by
  refine ⟨Nat.le_of_ble_eq_true rfl, ?_⟩
  show JR E 3 mX7_count 0 [(0, .ref (E.1 (0, 0))), (1, .int x1)] [] S [.int r.1] r.2
  unfold fX7_count at h
  refine j_iload_n (pc := 0) 1 dX7_count_0 rfl rfl ?_
  by_cases c1 : x1 = (0 : Int32)
  · replace h := jite_t h c1
    refine j_tabIn (pc := 1) (tgt := 68) (off := 67) dX7_count_1 (by rw [c1]; decide) (by rw [c1]; decide) (by rw [c1]; rfl) (by decide) ?_
    refine j_aload_n (pc := 68) 0 dX7_count_68 rfl rfl ?_
    refine jg_0_1 (pc := 69) dX7_count_69 (hC (0, 0) rfl) tw_479 ?_
    refine jg_2_0 (pc := 72) dX7_count_72 (hC (2, 0) rfl) tw_233 ?_
    refine jg_3_0 (pc := 75) dX7_count_75 (hC (3, 0) rfl) tw_127 ?_
    cases h
    exact j_iret (pc := 78) dX7_count_78 rfl rfl
  replace h := jite_f h c1
  by_cases c2 : x1 = (1 : Int32)
  · replace h := jite_t h c2
    refine j_tabIn (pc := 1) (tgt := 79) (off := 78) dX7_count_1 (by rw [c2]; decide) (by rw [c2]; decide) (by rw [c2]; rfl) (by decide) ?_
    refine j_aload_n (pc := 79) 0 dX7_count_79 rfl rfl ?_
    refine jg_0_1 (pc := 80) dX7_count_80 (hC (0, 0) rfl) tw_479 ?_
    refine jg_2_0 (pc := 83) dX7_count_83 (hC (2, 0) rfl) tw_233 ?_
    refine jg_3_1 (pc := 86) dX7_count_86 (hC (3, 0) rfl) tw_131 ?_
    cases h
    exact j_iret (pc := 89) dX7_count_89 rfl rfl
  replace h := jite_f h c2
  by_cases c3 : x1 = (2 : Int32)
  · replace h := jite_t h c3
    refine j_tabIn (pc := 1) (tgt := 90) (off := 89) dX7_count_1 (by rw [c3]; decide) (by rw [c3]; decide) (by rw [c3]; rfl) (by decide) ?_
    refine j_aload_n (pc := 90) 0 dX7_count_90 rfl rfl ?_
    refine jg_0_1 (pc := 91) dX7_count_91 (hC (0, 0) rfl) tw_479 ?_
    refine jg_2_0 (pc := 94) dX7_count_94 (hC (2, 0) rfl) tw_233 ?_
    refine jg_3_2 (pc := 97) dX7_count_97 (hC (3, 0) rfl) tw_135 ?_
    cases h
    exact j_iret (pc := 100) dX7_count_100 rfl rfl
  replace h := jite_f h c3
  by_cases c4 : x1 = (3 : Int32)
  · replace h := jite_t h c4
    refine j_tabIn (pc := 1) (tgt := 101) (off := 100) dX7_count_1 (by rw [c4]; decide) (by rw [c4]; decide) (by rw [c4]; rfl) (by decide) ?_
    refine j_aload_n (pc := 101) 0 dX7_count_101 rfl rfl ?_
    refine jg_0_1 (pc := 102) dX7_count_102 (hC (0, 0) rfl) tw_479 ?_
    refine jg_2_0 (pc := 105) dX7_count_105 (hC (2, 0) rfl) tw_233 ?_
    obtain ⟨y5, hy5, h⟩ := jbnd h
    refine j_callV (pc := 108) (N := mX2_pairs) (rr := (3, 0)) (As := []) (rest := []) (v := [.int y5.1]) (S1 := y5.2) dX7_count_108 (kX2_pairs hC (by decide) hy5) (by simp) (by decide) okX2_pairs tw_560 tw_561 tw_559 (hC (3, 0) rfl) rfl rfl rfl rfl (by simp [Value.category]) ?_
    cases h
    exact j_iret (pc := 111) dX7_count_111 rfl rfl
  replace h := jite_f h c4
  by_cases c6 : x1 = (4 : Int32)
  · replace h := jite_t h c6
    refine j_tabIn (pc := 1) (tgt := 112) (off := 111) dX7_count_1 (by rw [c6]; decide) (by rw [c6]; decide) (by rw [c6]; rfl) (by decide) ?_
    refine j_aload_n (pc := 112) 0 dX7_count_112 rfl rfl ?_
    refine jg_0_1 (pc := 113) dX7_count_113 (hC (0, 0) rfl) tw_479 ?_
    refine jg_2_0 (pc := 116) dX7_count_116 (hC (2, 0) rfl) tw_233 ?_
    refine jg_3_3 (pc := 119) dX7_count_119 (hC (3, 0) rfl) tw_138 ?_
    cases h
    exact j_iret (pc := 122) dX7_count_122 rfl rfl
  replace h := jite_f h c6
  by_cases c7 : x1 = (5 : Int32)
  · replace h := jite_t h c7
    refine j_tabIn (pc := 1) (tgt := 123) (off := 122) dX7_count_1 (by rw [c7]; decide) (by rw [c7]; decide) (by rw [c7]; rfl) (by decide) ?_
    refine j_aload_n (pc := 123) 0 dX7_count_123 rfl rfl ?_
    refine jg_0_1 (pc := 124) dX7_count_124 (hC (0, 0) rfl) tw_479 ?_
    refine jg_2_0 (pc := 127) dX7_count_127 (hC (2, 0) rfl) tw_233 ?_
    refine jg_3_4 (pc := 130) dX7_count_130 (hC (3, 0) rfl) tw_140 ?_
    cases h
    exact j_iret (pc := 133) dX7_count_133 rfl rfl
  replace h := jite_f h c7
  by_cases c8 : x1 = (11 : Int32)
  · replace h := jite_t h c8
    refine j_tabIn (pc := 1) (tgt := 134) (off := 133) dX7_count_1 (by rw [c8]; decide) (by rw [c8]; decide) (by rw [c8]; rfl) (by decide) ?_
    refine j_aload_n (pc := 134) 0 dX7_count_134 rfl rfl ?_
    refine jg_0_3 (pc := 135) dX7_count_135 (hC (0, 0) rfl) tw_481 ?_
    refine jg_5_0 (pc := 138) dX7_count_138 (hC (5, 0) rfl) tw_253 ?_
    cases h
    exact j_iret (pc := 141) dX7_count_141 rfl rfl
  replace h := jite_f h c8
  by_cases c9 : x1 = (12 : Int32)
  · replace h := jite_t h c9
    refine j_tabIn (pc := 1) (tgt := 142) (off := 141) dX7_count_1 (by rw [c9]; decide) (by rw [c9]; decide) (by rw [c9]; rfl) (by decide) ?_
    refine j_aload_n (pc := 142) 0 dX7_count_142 rfl rfl ?_
    refine jg_0_0 (pc := 143) dX7_count_143 (hC (0, 0) rfl) tw_478 ?_
    refine jg_1_0 (pc := 146) dX7_count_146 (hC (1, 0) rfl) tw_100 ?_
    cases h
    exact j_iret (pc := 149) dX7_count_149 rfl rfl
  replace h := jite_f h c9
  refine j_tabD (pc := 1) (tgt := 150) dX7_count_1 (by decide) (fun i hi => match i, hi with | 0, _ => Or.inr (jti c1 rfl) | 1, _ => Or.inr (jti c2 rfl) | 2, _ => Or.inr (jti c3 rfl) | 3, _ => Or.inr (jti c4 rfl) | 4, _ => Or.inr (jti c6 rfl) | 5, _ => Or.inr (jti c7 rfl) | 6, _ => Or.inl rfl | 7, _ => Or.inl rfl | 8, _ => Or.inl rfl | 9, _ => Or.inl rfl | 10, _ => Or.inl rfl | 11, _ => Or.inr (jti c8 rfl) | 12, _ => Or.inr (jti c9 rfl) | n + 13, h9 => absurd h9 (by simp)) (by decide) ?_
  refine j_aload_n (pc := 150) 0 dX7_count_150 rfl rfl ?_
  refine j_iload_n (pc := 151) 1 dX7_count_151 rfl rfl ?_
  obtain ⟨y10, hy10, h⟩ := jbnd h
  refine j_callV (pc := 152) (N := mX7_countPackets) (rr := (0, 0)) (As := [.int x1]) (rest := []) (v := [.int y10.1]) (S1 := y10.2) dX7_count_152 (kX7_countPackets hC hy10) (by simp) (by decide) okX7_countPackets tw_754 tw_21 tw_752 (hC (0, 0) rfl) rfl rfl rfl rfl (by simp [Value.category]) ?_
  cases h
  exact j_iret (pc := 155) dX7_count_155 rfl rfl
