abbrev mX8_in : jM := (yX8_in, cX8_in, 6, (some .boolean))
theorem okX8_in : jOK mX8_in 3 := ⟨by decide +kernel, tw_847, tw_84, by decide +kernel, by decide, by decide⟩
def fX8_in  (S : jS) (x0 : Int64) (x2 : Int64) (x4 : Int64) : Option (Int32 × jS) :=
  (if (lg_cmp x0 x2) < 0 then some ((0 : Int32), S) else (if 0 < (lg_cmp x0 x4) then some ((0 : Int32), S) else some ((1 : Int32), S)))
set_option maxRecDepth 10000 in
set_option maxHeartbeats 4000000 in
theorem kX8_in {E : jE} (hM : jHM E) {S : jS} {x0 : Int64} {x2 : Int64} {x4 : Int64} {r : (Int32 × jS)} (h : fX8_in  S x0 x2 x4 = some r) : jMR E 1 mX8_in [.long x0, .long x2, .long x4] S [.int r.1] r.2 := by
  refine ⟨Nat.le_of_ble_eq_true rfl, ?_⟩
  show JR E 1 mX8_in 0 [(0, .long x0), (2, .long x2), (4, .long x4)] [] S [.int r.1] r.2
  unfold fX8_in at h
  refine j_lload_n (pc := 0) 0 dX8_in_0 rfl rfl ?_
  refine j_lload_n (pc := 1) 1 dX8_in_1 rfl rfl ?_
  refine j_lcmp (pc := 2) dX8_in_2 ?_
  refine j_if_lt (pc := 3) (tgt := 17) dX8_in_3 (by decide) (fun c1 => ?_) (fun c1 => ?_)
  · replace h := jite_t h c1
    refine j_iconst (pc := 17) dX8_in_17 jci_0 ?_
    cases h
    exact j_iret (pc := 18) dX8_in_18 rfl rfl
  · replace h := jite_f h c1
    refine j_lload_n (pc := 6) 0 dX8_in_6 rfl rfl ?_
    refine j_lload (pc := 7) 2 dX8_in_7 rfl ?_
    refine j_lcmp (pc := 9) dX8_in_9 ?_
    refine j_if_gt (pc := 10) (tgt := 17) dX8_in_10 (by decide) (fun c2 => ?_) (fun c2 => ?_)
    · replace h := jite_t h c2
      refine j_iconst (pc := 17) dX8_in_17 jci_0 ?_
      cases h
      exact j_iret (pc := 18) dX8_in_18 rfl rfl
    · replace h := jite_f h c2
      refine j_iconst (pc := 13) dX8_in_13 jci_1 ?_
      refine j_goto (pc := 14) (tgt := 18) dX8_in_14 (by decide) ?_
      cases h
      exact j_iret (pc := 18) dX8_in_18 rfl rfl
abbrev mX8_has : jM := (yX8_has, cX8_has, 2, (some .boolean))
theorem okX8_has : jOK mX8_has 2 := ⟨by decide +kernel, tw_951, tw_84, by decide +kernel, by decide, by decide⟩
def fX8_has  (S : jS) (x0 : Int32) (x1 : Int32) : Option (Int32 × jS) :=
  (if ((x0 >>> (x1 &&& 31)) &&& (1 : Int32)) = (1 : Int32) then some ((1 : Int32), S) else some ((0 : Int32), S))
set_option maxRecDepth 10000 in
set_option maxHeartbeats 4000000 in
theorem kX8_has {E : jE} (hM : jHM E) {S : jS} {x0 : Int32} {x1 : Int32} {r : (Int32 × jS)} (h : fX8_has  S x0 x1 = some r) : jMR E 1 mX8_has [.int x0, .int x1] S [.int r.1] r.2 := by
  refine ⟨Nat.le_of_ble_eq_true rfl, ?_⟩
  show JR E 1 mX8_has 0 [(0, .int x0), (1, .int x1)] [] S [.int r.1] r.2
  unfold fX8_has at h
  refine j_iload_n (pc := 0) 0 dX8_has_0 rfl rfl ?_
  refine j_iload_n (pc := 1) 1 dX8_has_1 rfl rfl ?_
  refine j_ishr (pc := 2) dX8_has_2 ?_
  refine j_iconst (pc := 3) dX8_has_3 jci_1 ?_
  refine j_iand (pc := 4) dX8_has_4 ?_
  refine j_iconst (pc := 5) dX8_has_5 jci_1 ?_
  refine j_icmp_ne (pc := 6) (tgt := 13) dX8_has_6 (by decide) (fun c1 => ?_) (fun c1 => ?_)
  · replace h := jite_f h c1
    refine j_iconst (pc := 13) dX8_has_13 jci_0 ?_
    cases h
    exact j_iret (pc := 14) dX8_has_14 rfl rfl
  · replace h := jite_t h c1
    refine j_iconst (pc := 9) dX8_has_9 jci_1 ?_
    refine j_goto (pc := 10) (tgt := 14) dX8_has_10 (by decide) ?_
    cases h
    exact j_iret (pc := 14) dX8_has_14 rfl rfl
abbrev mX8_ones : jM := (yX8_ones, cX8_ones, 3, (some .int))
theorem okX8_ones : jOK mX8_ones 1 := ⟨by decide +kernel, tw_958, tw_84, by decide +kernel, by decide, by decide⟩
def bX8_ones_4  (q4 : jS → Int32 → Int32 → Int32 → Option (Int32 × jS)) (S : jS) (x0 : Int32) (x1 : Int32) (x2 : Int32) : Option (Int32 × jS) :=
  (if (10 : Int32) ≤ x2 then some (x1, S) else jlet (x1 + ((x0 >>> (x2 &&& 31)) &&& (1 : Int32))) fun v2 => jlet (x2 + (1 : Int32)) fun v3 => q4 S x0 v2 v3)
set_option maxRecDepth 10000 in
set_option maxHeartbeats 4000000 in
theorem lX8_ones_4 {E : jE} (hM : jHM E) {q4 : jS → Int32 → Int32 → Int32 → Option (Int32 × jS)} (H4 : ∀ {S : jS} {x0 : Int32} {x1 : Int32} {x2 : Int32} {r : (Int32 × jS)}, q4 S x0 x1 x2 = some r → JR E 1 mX8_ones 4 [(0, .int x0), (1, .int x1), (2, .int x2)] [] S [.int r.1] r.2) {S : jS} {x0 : Int32} {x1 : Int32} {x2 : Int32} {r : (Int32 × jS)} (h : bX8_ones_4  q4 S x0 x1 x2 = some r) : JR E 1 mX8_ones 4 [(0, .int x0), (1, .int x1), (2, .int x2)] [] S [.int r.1] r.2 := by
  unfold bX8_ones_4 at h
  refine j_iload_n (pc := 4) 2 dX8_ones_4 rfl rfl ?_
  refine j_bipush (pc := 5) dX8_ones_5 jcb_10 ?_
  refine j_icmp_ge (pc := 7) (tgt := 24) dX8_ones_7 (by decide) (fun c1 => ?_) (fun c1 => ?_)
  · replace h := jite_t h c1
    refine j_iload_n (pc := 24) 1 dX8_ones_24 rfl rfl ?_
    cases h
    exact j_iret (pc := 25) dX8_ones_25 rfl rfl
  · replace h := jite_f h c1
    refine j_iload_n (pc := 10) 1 dX8_ones_10 rfl rfl ?_
    refine j_iload_n (pc := 11) 0 dX8_ones_11 rfl rfl ?_
    refine j_iload_n (pc := 12) 2 dX8_ones_12 rfl rfl ?_
    refine j_ishr (pc := 13) dX8_ones_13 ?_
    refine j_iconst (pc := 14) dX8_ones_14 jci_1 ?_
    refine j_iand (pc := 15) dX8_ones_15 ?_
    refine j_iadd (pc := 16) dX8_ones_16 ?_
    obtain ⟨v2, ev2, h⟩ := jlk h
    refine j_topi ev2 ?_
    refine j_istore_n (pc := 17) (lv' := [(1, .int v2), (0, .int x0), (2, .int x2)]) dX8_ones_17 rfl (by decide) rfl ?_
    obtain ⟨v3, ev3, h⟩ := jlk h
    refine j_iinc (pc := 18) (v := v3) (lv' := [(2, .int v3), (1, .int v2), (0, .int x0)]) 2 dX8_ones_18 rfl (by rw [ev3]; rfl) (by decide) rfl ?_
    refine j_goto (pc := 21) (tgt := 4) dX8_ones_21 (by decide) ?_
    exact j_sub [2, 1, 0] rfl (H4 h)
def fX8_ones_4  : Nat → jS → Int32 → Int32 → Int32 → Option (Int32 × jS)
  | 0 => fun _ _ _ _ => none
  | n + 1 => bX8_ones_4  (fX8_ones_4  n)
theorem kX8_ones_4 {E : jE} (hM : jHM E) (fu : Nat) : ∀ {S : jS} {x0 : Int32} {x1 : Int32} {x2 : Int32} {r : (Int32 × jS)}, fX8_ones_4  fu S x0 x1 x2 = some r → JR E 1 mX8_ones 4 [(0, .int x0), (1, .int x1), (2, .int x2)] [] S [.int r.1] r.2 := by
  induction fu with
  | zero => intro S x0 x1 x2 r h; cases h
  | succ n_ ih => intro S x0 x1 x2 r h; exact lX8_ones_4 hM ih h
def fX8_ones  (S : jS) (x0 : Int32) : Option (Int32 × jS) :=
  fX8_ones_4 5000 S x0 (0 : Int32) (0 : Int32)
set_option maxRecDepth 10000 in
set_option maxHeartbeats 4000000 in
theorem kX8_ones {E : jE} (hM : jHM E) {S : jS} {x0 : Int32} {r : (Int32 × jS)} (h : fX8_ones  S x0 = some r) : jMR E 1 mX8_ones [.int x0] S [.int r.1] r.2 := by
  refine ⟨Nat.le_of_ble_eq_true rfl, ?_⟩
  show JR E 1 mX8_ones 0 [(0, .int x0)] [] S [.int r.1] r.2
  unfold fX8_ones at h
  refine j_iconst (pc := 0) dX8_ones_0 jci_0 ?_
  refine j_istore_n (pc := 1) (lv' := [(1, .int (0 : Int32)), (0, .int x0)]) dX8_ones_1 rfl (by decide) rfl ?_
  refine j_iconst (pc := 2) dX8_ones_2 jci_0 ?_
  refine j_istore_n (pc := 3) (lv' := [(2, .int (0 : Int32)), (1, .int (0 : Int32)), (0, .int x0)]) dX8_ones_3 rfl (by decide) rfl ?_
  exact j_sub [2, 1, 0] rfl (kX8_ones_4 hM 5000 h)
abbrev mX8_clashes : jM := (yX8_clashes, cX8_clashes, 4, none)
theorem okX8_clashes : jOK mX8_clashes 4 := ⟨by decide +kernel, tw_772, tw_84, by decide +kernel, by decide, by decide⟩
def fX8_clashes (a : jR) (S : jS) (x1 : Int32) (x2 : Int32) (x3 : Int32) : Option jS :=
  if jIn ((36 : Int32) + x1) (jlen a.1) then if jIn ((36 : Int32) + x1) (jlen a.1) then jlet (jput S a (upd (S.2 a) ((36 : Int32) + x1).toNatClampNeg (((S.2 a ((36 : Int32) + x1).toNatClampNeg) &&& (((1 : Int32) <<< (x2 &&& 31)) ^^^ (-1 : Int32))) ||| (x3 <<< (x2 &&& 31))))) fun S3 => if jIn ((36 : Int32) + x2) (jlen a.1) then if jIn ((36 : Int32) + x2) (jlen a.1) then jlet (jput S3 a (upd (S3.2 a) ((36 : Int32) + x2).toNatClampNeg (((S3.2 a ((36 : Int32) + x2).toNatClampNeg) &&& (((1 : Int32) <<< (x1 &&& 31)) ^^^ (-1 : Int32))) ||| (x3 <<< (x1 &&& 31))))) fun S6 => some S6 else none else none else none else none
set_option maxRecDepth 10000 in
set_option maxHeartbeats 4000000 in
theorem kX8_clashes {E : jE} (hM : jHM E) {a : jR} (ha : jIA E a) {S : jS} {x1 : Int32} {x2 : Int32} {x3 : Int32} {r : jS} (h : fX8_clashes a S x1 x2 x3 = some r) : jMR E 1 mX8_clashes [.ref (E.1 a), .int x1, .int x2, .int x3] S [] r := by
  refine ⟨Nat.le_of_ble_eq_true rfl, ?_⟩
  show JR E 1 mX8_clashes 0 [(0, .ref (E.1 a)), (1, .int x1), (2, .int x2), (3, .int x3)] [] S [] r
  unfold fX8_clashes at h
  refine j_aload_n (pc := 0) 0 dX8_clashes_0 rfl rfl ?_
  refine j_bipush (pc := 1) dX8_clashes_1 jcb_36 ?_
  refine j_iload_n (pc := 3) 1 dX8_clashes_3 rfl rfl ?_
  refine j_iadd (pc := 4) dX8_clashes_4 ?_
  refine j_aload_n (pc := 5) 0 dX8_clashes_5 rfl rfl ?_
  refine j_bipush (pc := 6) dX8_clashes_6 jcb_36 ?_
  refine j_iload_n (pc := 8) 1 dX8_clashes_8 rfl rfl ?_
  refine j_iadd (pc := 9) dX8_clashes_9 ?_
  obtain ⟨c1, h⟩ := jchk h
  refine j_iaA (pc := 10) dX8_clashes_10 ha c1 ?_
  refine j_iconst (pc := 11) dX8_clashes_11 jci_1 ?_
  refine j_iload_n (pc := 12) 2 dX8_clashes_12 rfl rfl ?_
  refine j_ishl (pc := 13) dX8_clashes_13 ?_
  refine j_iconst (pc := 14) dX8_clashes_14 jci_m1 ?_
  refine j_ixor (pc := 15) dX8_clashes_15 ?_
  refine j_iand (pc := 16) dX8_clashes_16 ?_
  refine j_iload_n (pc := 17) 3 dX8_clashes_17 rfl rfl ?_
  refine j_iload_n (pc := 18) 2 dX8_clashes_18 rfl rfl ?_
  refine j_ishl (pc := 19) dX8_clashes_19 ?_
  refine j_ior (pc := 20) dX8_clashes_20 ?_
  obtain ⟨c2, h⟩ := jchk h
  obtain ⟨S3, eS3, h⟩ := jlk h
  refine j_isA (pc := 21) dX8_clashes_21 ha c2 eS3 ?_
  refine j_aload_n (pc := 22) 0 dX8_clashes_22 rfl rfl ?_
  refine j_bipush (pc := 23) dX8_clashes_23 jcb_36 ?_
  refine j_iload_n (pc := 25) 2 dX8_clashes_25 rfl rfl ?_
  refine j_iadd (pc := 26) dX8_clashes_26 ?_
  refine j_aload_n (pc := 27) 0 dX8_clashes_27 rfl rfl ?_
  refine j_bipush (pc := 28) dX8_clashes_28 jcb_36 ?_
  refine j_iload_n (pc := 30) 2 dX8_clashes_30 rfl rfl ?_
  refine j_iadd (pc := 31) dX8_clashes_31 ?_
  obtain ⟨c4, h⟩ := jchk h
  refine j_iaA (pc := 32) dX8_clashes_32 ha c4 ?_
  refine j_iconst (pc := 33) dX8_clashes_33 jci_1 ?_
  refine j_iload_n (pc := 34) 1 dX8_clashes_34 rfl rfl ?_
  refine j_ishl (pc := 35) dX8_clashes_35 ?_
  refine j_iconst (pc := 36) dX8_clashes_36 jci_m1 ?_
  refine j_ixor (pc := 37) dX8_clashes_37 ?_
  refine j_iand (pc := 38) dX8_clashes_38 ?_
  refine j_iload_n (pc := 39) 3 dX8_clashes_39 rfl rfl ?_
  refine j_iload_n (pc := 40) 1 dX8_clashes_40 rfl rfl ?_
  refine j_ishl (pc := 41) dX8_clashes_41 ?_
  refine j_ior (pc := 42) dX8_clashes_42 ?_
  obtain ⟨c5, h⟩ := jchk h
  obtain ⟨S6, eS6, h⟩ := jlk h
  refine j_isA (pc := 43) dX8_clashes_43 ha c5 eS6 ?_
  cases h
  exact j_vret (pc := 44) dX8_clashes_44 rfl
abbrev mX8_begins : jM := (yX8_begins, cX8_begins, 2, none)
theorem okX8_begins : jOK mX8_begins 0 := ⟨by decide +kernel, tw_765, tw_84, by decide +kernel, by decide, by decide⟩
def bX8_begins_2  (q2 : jS → Int32 → Option jS) (S : jS) (x1 : Int32) : Option jS :=
  (if (815 : Int32) ≤ x1 then some S else if jIn x1 815 then jlet (jput S (54, 0) (upd (S.2 (54, 0)) x1.toNatClampNeg (0 : Int32))) fun S3 => jlet (x1 + (1 : Int32)) fun v4 => q2 S3 v4 else none)
set_option maxRecDepth 10000 in
set_option maxHeartbeats 4000000 in
theorem lX8_begins_2 {E : jE} (hM : jHM E) {q2 : jS → Int32 → Option jS} (H2 : ∀ {S : jS} {x1 : Int32} {r : jS}, q2 S x1 = some r → JR E 1 mX8_begins 2 [(0, .ref (E.1 (9, 0))), (1, .int x1)] [] S [] r) {S : jS} {x1 : Int32} {r : jS} (h : bX8_begins_2  q2 S x1 = some r) : JR E 1 mX8_begins 2 [(0, .ref (E.1 (9, 0))), (1, .int x1)] [] S [] r := by
  unfold bX8_begins_2 at h
  refine j_iload_n (pc := 2) 1 dX8_begins_2 rfl rfl ?_
  refine j_sipush (pc := 3) dX8_begins_3 jcs_815 ?_
  refine j_icmp_ge (pc := 6) (tgt := 22) dX8_begins_6 (by decide) (fun c1 => ?_) (fun c1 => ?_)
  · replace h := jite_t h c1
    cases h
    exact j_vret (pc := 22) dX8_begins_22 rfl
  · replace h := jite_f h c1
    refine j_aload_n (pc := 9) 0 dX8_begins_9 rfl rfl ?_
    refine jg_9_6 (pc := 10) dX8_begins_10 (hM (9, 0) rfl) tw_783 ?_
    refine j_iload_n (pc := 13) 1 dX8_begins_13 rfl rfl ?_
    refine j_iconst (pc := 14) dX8_begins_14 jci_0 ?_
    obtain ⟨c2, h⟩ := jchk h
    obtain ⟨S3, eS3, h⟩ := jlk h
    refine j_is (pc := 15) dX8_begins_15 rfl (hM (54, 0) rfl) c2 eS3 ?_
    obtain ⟨v4, ev4, h⟩ := jlk h
    refine j_iinc (pc := 16) (v := v4) (lv' := [(1, .int v4), (0, .ref (E.1 (9, 0)))]) 1 dX8_begins_16 rfl (by rw [ev4]; rfl) (by decide) rfl ?_
    refine j_goto (pc := 19) (tgt := 2) dX8_begins_19 (by decide) ?_
    exact j_sub [1, 0] rfl (H2 h)
def fX8_begins_2  : Nat → jS → Int32 → Option jS
  | 0 => fun _ _ => none
  | n + 1 => bX8_begins_2  (fX8_begins_2  n)
theorem kX8_begins_2 {E : jE} (hM : jHM E) (fu : Nat) : ∀ {S : jS} {x1 : Int32} {r : jS}, fX8_begins_2  fu S x1 = some r → JR E 1 mX8_begins 2 [(0, .ref (E.1 (9, 0))), (1, .int x1)] [] S [] r := by
  induction fu with
  | zero => intro S x1 r h; cases h
  | succ n_ ih => intro S x1 r h; exact lX8_begins_2 hM ih h
def fX8_begins  (S : jS) : Option jS :=
  fX8_begins_2 5000 S (0 : Int32)
set_option maxRecDepth 10000 in
set_option maxHeartbeats 4000000 in
theorem kX8_begins {E : jE} (hM : jHM E) {S : jS} {r : jS} (h : fX8_begins  S = some r) : jMR E 1 mX8_begins [.ref (E.1 (9, 0))] S [] r := by
  refine ⟨Nat.le_of_ble_eq_true rfl, ?_⟩
  show JR E 1 mX8_begins 0 [(0, .ref (E.1 (9, 0)))] [] S [] r
  unfold fX8_begins at h
  refine j_iconst (pc := 0) dX8_begins_0 jci_0 ?_
  refine j_istore_n (pc := 1) (lv' := [(1, .int (0 : Int32)), (0, .ref (E.1 (9, 0)))]) dX8_begins_1 rfl (by decide) rfl ?_
  exact j_sub [1, 0] rfl (kX8_begins_2 hM 5000 h)
abbrev mX8_links : jM := (yX8_links, cX8_links, 5, none)
theorem okX8_links : jOK mX8_links 3 := ⟨by decide +kernel, tw_769, tw_84, by decide +kernel, by decide, by decide⟩
def fX8_links  (S : jS) (x1 : Int32) (x2 : Int32) (x3 : Int32) : Option jS :=
  if jIn (5 : Int32) 815 then jlet ((6 : Int32) + ((3 : Int32) * (S.2 (54, 0) (5 : Int32).toNatClampNeg))) fun v2 => if jIn v2 815 then jlet (jput S (54, 0) (upd (S.2 (54, 0)) v2.toNatClampNeg x1)) fun S4 => if jIn (v2 + (1 : Int32)) 815 then jlet (jput S4 (54, 0) (upd (S4.2 (54, 0)) (v2 + (1 : Int32)).toNatClampNeg x2)) fun S6 => if jIn (v2 + (2 : Int32)) 815 then jlet (jput S6 (54, 0) (upd (S6.2 (54, 0)) (v2 + (2 : Int32)).toNatClampNeg x3)) fun S8 => if jIn (5 : Int32) 815 then if jIn (5 : Int32) 815 then jlet (jput S8 (54, 0) (upd (S8.2 (54, 0)) (5 : Int32).toNatClampNeg ((S8.2 (54, 0) (5 : Int32).toNatClampNeg) + (1 : Int32)))) fun S11 => some S11 else none else none else none else none else none else none
set_option maxRecDepth 10000 in
set_option maxHeartbeats 4000000 in
theorem kX8_links {E : jE} (hM : jHM E) {S : jS} {x1 : Int32} {x2 : Int32} {x3 : Int32} {r : jS} (h : fX8_links  S x1 x2 x3 = some r) : jMR E 1 mX8_links [.ref (E.1 (9, 0)), .int x1, .int x2, .int x3] S [] r := by
  refine ⟨Nat.le_of_ble_eq_true rfl, ?_⟩
  show JR E 1 mX8_links 0 [(0, .ref (E.1 (9, 0))), (1, .int x1), (2, .int x2), (3, .int x3)] [] S [] r
  unfold fX8_links at h
  refine j_bipush (pc := 0) dX8_links_0 jcb_6 ?_
  refine j_iconst (pc := 2) dX8_links_2 jci_3 ?_
  refine j_aload_n (pc := 3) 0 dX8_links_3 rfl rfl ?_
  refine jg_9_6 (pc := 4) dX8_links_4 (hM (9, 0) rfl) tw_783 ?_
  refine j_iconst (pc := 7) dX8_links_7 jci_5 ?_
  obtain ⟨c1, h⟩ := jchk h
  refine j_ia (pc := 8) dX8_links_8 rfl (hM (54, 0) rfl) c1 ?_
  refine j_imul (pc := 9) dX8_links_9 ?_
  refine j_iadd (pc := 10) dX8_links_10 ?_
  obtain ⟨v2, ev2, h⟩ := jlk h
  refine j_topi ev2 ?_
  refine j_istore (pc := 11) (lv' := [(4, .int v2), (0, .ref (E.1 (9, 0))), (1, .int x1), (2, .int x2), (3, .int x3)]) dX8_links_11 (by decide) rfl ?_
  refine j_aload_n (pc := 13) 1 dX8_links_13 rfl rfl ?_
  refine jg_9_6 (pc := 14) dX8_links_14 (hM (9, 0) rfl) tw_783 ?_
  refine j_iload (pc := 17) 0 dX8_links_17 rfl ?_
  refine j_iload_n (pc := 19) 2 dX8_links_19 rfl rfl ?_
  obtain ⟨c3, h⟩ := jchk h
  obtain ⟨S4, eS4, h⟩ := jlk h
  refine j_is (pc := 20) dX8_links_20 rfl (hM (54, 0) rfl) c3 eS4 ?_
  refine j_aload_n (pc := 21) 1 dX8_links_21 rfl rfl ?_
  refine jg_9_6 (pc := 22) dX8_links_22 (hM (9, 0) rfl) tw_783 ?_
  refine j_iload (pc := 25) 0 dX8_links_25 rfl ?_
  refine j_iconst (pc := 27) dX8_links_27 jci_1 ?_
  refine j_iadd (pc := 28) dX8_links_28 ?_
  refine j_iload_n (pc := 29) 3 dX8_links_29 rfl rfl ?_
  obtain ⟨c5, h⟩ := jchk h
  obtain ⟨S6, eS6, h⟩ := jlk h
  refine j_is (pc := 30) dX8_links_30 rfl (hM (54, 0) rfl) c5 eS6 ?_
  refine j_aload_n (pc := 31) 1 dX8_links_31 rfl rfl ?_
  refine jg_9_6 (pc := 32) dX8_links_32 (hM (9, 0) rfl) tw_783 ?_
  refine j_iload (pc := 35) 0 dX8_links_35 rfl ?_
  refine j_iconst (pc := 37) dX8_links_37 jci_2 ?_
  refine j_iadd (pc := 38) dX8_links_38 ?_
  refine j_iload_n (pc := 39) 4 dX8_links_39 rfl rfl ?_
  obtain ⟨c7, h⟩ := jchk h
  obtain ⟨S8, eS8, h⟩ := jlk h
  refine j_is (pc := 40) dX8_links_40 rfl (hM (54, 0) rfl) c7 eS8 ?_
  refine j_aload_n (pc := 41) 1 dX8_links_41 rfl rfl ?_
  refine jg_9_6 (pc := 42) dX8_links_42 (hM (9, 0) rfl) tw_783 ?_
  refine j_iconst (pc := 45) dX8_links_45 jci_5 ?_
  refine j_dup2 (pc := 46) dX8_links_46 rfl rfl ?_
  obtain ⟨c9, h⟩ := jchk h
  refine j_ia (pc := 47) dX8_links_47 rfl (hM (54, 0) rfl) c9 ?_
  refine j_iconst (pc := 48) dX8_links_48 jci_1 ?_
  refine j_iadd (pc := 49) dX8_links_49 ?_
  obtain ⟨c10, h⟩ := jchk h
  obtain ⟨S11, eS11, h⟩ := jlk h
  refine j_is (pc := 50) dX8_links_50 rfl (hM (54, 0) rfl) c10 eS11 ?_
  cases h
  exact j_vret (pc := 51) dX8_links_51 rfl
abbrev mX8_takes : jM := (yX8_takes, cX8_takes, 2, none)
theorem okX8_takes : jOK mX8_takes 0 := ⟨by decide +kernel, tw_776, tw_84, by decide +kernel, by decide, by decide⟩
def bX8_takes_2  (q2 : jS → Int32 → Option jS) (S : jS) (x1 : Int32) : Option jS :=
  (if (815 : Int32) ≤ x1 then jlet (jset S (12, 0) (0 : Int32)) fun S2 => some S2 else if jIn x1 815 then if jIn x1 815 then jlet (jput S (50, 0) (upd (S.2 (50, 0)) x1.toNatClampNeg (S.2 (54, 0) x1.toNatClampNeg))) fun S5 => jlet (x1 + (1 : Int32)) fun v6 => q2 S5 v6 else none else none)
set_option maxRecDepth 10000 in
set_option maxHeartbeats 4000000 in
theorem lX8_takes_2 {E : jE} (hM : jHM E) {q2 : jS → Int32 → Option jS} (H2 : ∀ {S : jS} {x1 : Int32} {r : jS}, q2 S x1 = some r → JR E 1 mX8_takes 2 [(0, .ref (E.1 (9, 0))), (1, .int x1)] [] S [] r) {S : jS} {x1 : Int32} {r : jS} (h : bX8_takes_2  q2 S x1 = some r) : JR E 1 mX8_takes 2 [(0, .ref (E.1 (9, 0))), (1, .int x1)] [] S [] r := by
  unfold bX8_takes_2 at h
  refine j_iload_n (pc := 2) 1 dX8_takes_2 rfl rfl ?_
  refine j_sipush (pc := 3) dX8_takes_3 jcs_815 ?_
  refine j_icmp_ge (pc := 6) (tgt := 27) dX8_takes_6 (by decide) (fun c1 => ?_) (fun c1 => ?_)
  · replace h := jite_t h c1
    refine j_aload_n (pc := 27) 0 dX8_takes_27 rfl rfl ?_
    refine j_iconst (pc := 28) dX8_takes_28 jci_0 ?_
    obtain ⟨S2, eS2, h⟩ := jlk h
    refine jp_12 (pc := 29) dX8_takes_29 (hM (9, 0) rfl) tw_780 eS2 ?_
    cases h
    exact j_vret (pc := 32) dX8_takes_32 rfl
  · replace h := jite_f h c1
    refine j_aload_n (pc := 9) 0 dX8_takes_9 rfl rfl ?_
    refine jg_9_0 (pc := 10) dX8_takes_10 (hM (9, 0) rfl) tw_777 ?_
    refine j_iload_n (pc := 13) 1 dX8_takes_13 rfl rfl ?_
    refine j_aload_n (pc := 14) 0 dX8_takes_14 rfl rfl ?_
    refine jg_9_6 (pc := 15) dX8_takes_15 (hM (9, 0) rfl) tw_783 ?_
    refine j_iload_n (pc := 18) 1 dX8_takes_18 rfl rfl ?_
    obtain ⟨c3, h⟩ := jchk h
    refine j_ia (pc := 19) dX8_takes_19 rfl (hM (54, 0) rfl) c3 ?_
    obtain ⟨c4, h⟩ := jchk h
    obtain ⟨S5, eS5, h⟩ := jlk h
    refine j_is (pc := 20) dX8_takes_20 rfl (hM (50, 0) rfl) c4 eS5 ?_
    obtain ⟨v6, ev6, h⟩ := jlk h
    refine j_iinc (pc := 21) (v := v6) (lv' := [(1, .int v6), (0, .ref (E.1 (9, 0)))]) 1 dX8_takes_21 rfl (by rw [ev6]; rfl) (by decide) rfl ?_
    refine j_goto (pc := 24) (tgt := 2) dX8_takes_24 (by decide) ?_
    exact j_sub [1, 0] rfl (H2 h)
def fX8_takes_2  : Nat → jS → Int32 → Option jS
  | 0 => fun _ _ => none
  | n + 1 => bX8_takes_2  (fX8_takes_2  n)
theorem kX8_takes_2 {E : jE} (hM : jHM E) (fu : Nat) : ∀ {S : jS} {x1 : Int32} {r : jS}, fX8_takes_2  fu S x1 = some r → JR E 1 mX8_takes 2 [(0, .ref (E.1 (9, 0))), (1, .int x1)] [] S [] r := by
  induction fu with
  | zero => intro S x1 r h; cases h
  | succ n_ ih => intro S x1 r h; exact lX8_takes_2 hM ih h
def fX8_takes  (S : jS) : Option jS :=
  fX8_takes_2 5000 S (0 : Int32)
set_option maxRecDepth 10000 in
set_option maxHeartbeats 4000000 in
theorem kX8_takes {E : jE} (hM : jHM E) {S : jS} {r : jS} (h : fX8_takes  S = some r) : jMR E 1 mX8_takes [.ref (E.1 (9, 0))] S [] r := by
  refine ⟨Nat.le_of_ble_eq_true rfl, ?_⟩
  show JR E 1 mX8_takes 0 [(0, .ref (E.1 (9, 0)))] [] S [] r
  unfold fX8_takes at h
  refine j_iconst (pc := 0) dX8_takes_0 jci_0 ?_
  refine j_istore_n (pc := 1) (lv' := [(1, .int (0 : Int32)), (0, .ref (E.1 (9, 0)))]) dX8_takes_1 rfl (by decide) rfl ?_
  exact j_sub [1, 0] rfl (kX8_takes_2 hM 5000 h)
abbrev mX8_isAt : jM := (yX8_isAt, cX8_isAt, 3, (some .boolean))
theorem okX8_isAt : jOK mX8_isAt 2 := ⟨by decide +kernel, tw_879, tw_84, by decide +kernel, by decide, by decide⟩
def fX8_isAt  (S : jS) (x1 : Int32) (x2 : Int32) : Option (Int32 × jS) :=
  (if (S.1 (13, 0)) ≤ (S.1 (14, 0)) then some ((0 : Int32), S) else if jIn (S.1 (14, 0)) 200 then (fX8_in S ((S.2 (53, 0) (S.1 (14, 0)).toNatClampNeg).toInt64) (x1.toInt64) (x2.toInt64)).bind fun y3 => (if y3.1 = 0 then some ((0 : Int32), y3.2) else some ((1 : Int32), y3.2)) else none)
set_option maxRecDepth 10000 in
set_option maxHeartbeats 4000000 in
theorem kX8_isAt {E : jE} (hM : jHM E) {S : jS} {x1 : Int32} {x2 : Int32} {r : (Int32 × jS)} (h : fX8_isAt  S x1 x2 = some r) : jMR E 2 mX8_isAt [.ref (E.1 (9, 0)), .int x1, .int x2] S [.int r.1] r.2 := by
  refine ⟨Nat.le_of_ble_eq_true rfl, ?_⟩
  show JR E 2 mX8_isAt 0 [(0, .ref (E.1 (9, 0))), (1, .int x1), (2, .int x2)] [] S [.int r.1] r.2
  unfold fX8_isAt at h
  refine j_aload_n (pc := 0) 0 dX8_isAt_0 rfl rfl ?_
  refine jg_9_7 (pc := 1) dX8_isAt_1 (hM (9, 0) rfl) tw_784 ?_
  refine j_aload_n (pc := 4) 0 dX8_isAt_4 rfl rfl ?_
  refine jg_9_5 (pc := 5) dX8_isAt_5 (hM (9, 0) rfl) tw_782 ?_
  refine j_icmp_ge (pc := 8) (tgt := 35) dX8_isAt_8 (by decide) (fun c1 => ?_) (fun c1 => ?_)
  · replace h := jite_t h c1
    refine j_iconst (pc := 35) dX8_isAt_35 jci_0 ?_
    cases h
    exact j_iret (pc := 36) dX8_isAt_36 rfl rfl
  · replace h := jite_f h c1
    refine j_aload_n (pc := 11) 0 dX8_isAt_11 rfl rfl ?_
    refine jg_9_4 (pc := 12) dX8_isAt_12 (hM (9, 0) rfl) tw_781 ?_
    refine j_aload_n (pc := 15) 0 dX8_isAt_15 rfl rfl ?_
    refine jg_9_7 (pc := 16) dX8_isAt_16 (hM (9, 0) rfl) tw_784 ?_
    obtain ⟨c2, h⟩ := jchk h
    refine j_ia (pc := 19) dX8_isAt_19 rfl (hM (53, 0) rfl) c2 ?_
    refine j_i2l (pc := 20) dX8_isAt_20 ?_
    refine j_iload_n (pc := 21) 1 dX8_isAt_21 rfl rfl ?_
    refine j_i2l (pc := 22) dX8_isAt_22 ?_
    refine j_iload_n (pc := 23) 2 dX8_isAt_23 rfl rfl ?_
    refine j_i2l (pc := 24) dX8_isAt_24 ?_
    obtain ⟨y3, hy3, h⟩ := jbnd h
    refine j_callS (pc := 25) (N := mX8_in) (As := [.long ((S.2 (53, 0) (S.1 (14, 0)).toNatClampNeg).toInt64), .long (x1.toInt64), .long (x2.toInt64)]) (rest := []) (v := [.int y3.1]) (S1 := y3.2) dX8_isAt_25 (kX8_in hM hy3) (by simp) (by decide) okX8_in tw_846 tw_845 rfl rfl (by simp [Value.category]) ?_
    refine j_if_eq (pc := 28) (tgt := 35) dX8_isAt_28 (by decide) (fun c4 => ?_) (fun c4 => ?_)
    · replace h := jite_t h c4
      refine j_iconst (pc := 35) dX8_isAt_35 jci_0 ?_
      cases h
      exact j_iret (pc := 36) dX8_isAt_36 rfl rfl
    · replace h := jite_f h c4
      refine j_iconst (pc := 31) dX8_isAt_31 jci_1 ?_
      refine j_goto (pc := 32) (tgt := 36) dX8_isAt_32 (by decide) ?_
      cases h
      exact j_iret (pc := 36) dX8_isAt_36 rfl rfl
abbrev mX8_takesNumber : jM := (yX8_takesNumber, cX8_takesNumber, 3, (some .boolean))
theorem okX8_takesNumber : jOK mX8_takesNumber 1 := ⟨by decide +kernel, tw_875, tw_84, by decide +kernel, by decide, by decide⟩
def bX8_takesNumber_74  (S : jS) (x2 : Int32) : Option (Int32 × jS) :=
  (if (S.1 (14, 0)) ≤ x2 then some ((0 : Int32), S) else some ((1 : Int32), S))
set_option maxRecDepth 10000 in
set_option maxHeartbeats 4000000 in
theorem lX8_takesNumber_74 {E : jE} (hM : jHM E) {S : jS} {x2 : Int32} {r : (Int32 × jS)} (h : bX8_takesNumber_74  S x2 = some r) : JR E 3 mX8_takesNumber 74 [(0, .ref (E.1 (9, 0))), (2, .int x2)] [] S [.int r.1] r.2 := by
  unfold bX8_takesNumber_74 at h
  refine j_aload_n (pc := 74) 0 dX8_takesNumber_74 rfl rfl ?_
  refine jg_9_7 (pc := 75) dX8_takesNumber_75 (hM (9, 0) rfl) tw_784 ?_
  refine j_iload_n (pc := 78) 1 dX8_takesNumber_78 rfl rfl ?_
  refine j_icmp_le (pc := 79) (tgt := 86) dX8_takesNumber_79 (by decide) (fun c12 => ?_) (fun c12 => ?_)
  · replace h := jite_t h c12
    refine j_iconst (pc := 86) dX8_takesNumber_86 jci_0 ?_
    cases h
    exact j_iret (pc := 87) dX8_takesNumber_87 rfl rfl
  · replace h := jite_f h c12
    refine j_iconst (pc := 82) dX8_takesNumber_82 jci_1 ?_
    refine j_goto (pc := 83) (tgt := 87) dX8_takesNumber_83 (by decide) ?_
    cases h
    exact j_iret (pc := 87) dX8_takesNumber_87 rfl rfl
def bX8_takesNumber_12  (q12 : jS → Int32 → Int32 → Option (Int32 × jS)) (S : jS) (x1 : Int32) (x2 : Int32) : Option (Int32 × jS) :=
  (if (x2 + (2 : Int32)) ≤ (S.1 (14, 0)) then bX8_takesNumber_74 S x2 else (fX8_isAt S (48 : Int32) (57 : Int32)).bind fun y5 => (if y5.1 = 0 then bX8_takesNumber_74 (y5.2) x2 else if jIn x1 3 then if jIn (y5.2.1 (14, 0)) 200 then if jIn x1 3 then jlet (jput y5.2 (55, 0) (upd (y5.2.2 (55, 0)) x1.toNatClampNeg ((((10 : Int32) * (y5.2.2 (55, 0) x1.toNatClampNeg)) + (y5.2.2 (53, 0) (y5.2.1 (14, 0)).toNatClampNeg)) - (48 : Int32)))) fun S10 => jlet (jset S10 (14, 0) ((S10.1 (14, 0)) + (1 : Int32))) fun S11 => q12 S11 x1 x2 else none else none else none))
set_option maxRecDepth 10000 in
set_option maxHeartbeats 4000000 in
theorem lX8_takesNumber_12 {E : jE} (hM : jHM E) {q12 : jS → Int32 → Int32 → Option (Int32 × jS)} (H12 : ∀ {S : jS} {x1 : Int32} {x2 : Int32} {r : (Int32 × jS)}, q12 S x1 x2 = some r → JR E 3 mX8_takesNumber 12 [(0, .ref (E.1 (9, 0))), (1, .int x1), (2, .int x2)] [] S [.int r.1] r.2) {S : jS} {x1 : Int32} {x2 : Int32} {r : (Int32 × jS)} (h : bX8_takesNumber_12  q12 S x1 x2 = some r) : JR E 3 mX8_takesNumber 12 [(0, .ref (E.1 (9, 0))), (1, .int x1), (2, .int x2)] [] S [.int r.1] r.2 := by
  unfold bX8_takesNumber_12 at h
  refine j_aload_n (pc := 12) 0 dX8_takesNumber_12 rfl rfl ?_
  refine jg_9_7 (pc := 13) dX8_takesNumber_13 (hM (9, 0) rfl) tw_784 ?_
  refine j_iload_n (pc := 16) 2 dX8_takesNumber_16 rfl rfl ?_
  refine j_iconst (pc := 17) dX8_takesNumber_17 jci_2 ?_
  refine j_iadd (pc := 18) dX8_takesNumber_18 ?_
  refine j_icmp_ge (pc := 19) (tgt := 74) dX8_takesNumber_19 (by decide) (fun c4 => ?_) (fun c4 => ?_)
  · replace h := jite_t h c4
    exact j_sub [0, 2] rfl (lX8_takesNumber_74 hM h)
  · replace h := jite_f h c4
    refine j_aload_n (pc := 22) 0 dX8_takesNumber_22 rfl rfl ?_
    refine j_bipush (pc := 23) dX8_takesNumber_23 jcb_48 ?_
    refine j_bipush (pc := 25) dX8_takesNumber_25 jcb_57 ?_
    obtain ⟨y5, hy5, h⟩ := jbnd h
    refine j_callV (pc := 27) (N := mX8_isAt) (rr := (9, 0)) (As := [.int (48 : Int32), .int (57 : Int32)]) (rest := []) (v := [.int y5.1]) (S1 := y5.2) dX8_takesNumber_27 (kX8_isAt hM hy5) (by simp) (by decide) okX8_isAt tw_878 tw_30 tw_876 (hM (9, 0) rfl) rfl rfl rfl rfl (by simp [Value.category]) ?_
    refine j_if_eq (pc := 30) (tgt := 74) dX8_takesNumber_30 (by decide) (fun c6 => ?_) (fun c6 => ?_)
    · replace h := jite_t h c6
      exact j_sub [0, 2] rfl (lX8_takesNumber_74 hM h)
    · replace h := jite_f h c6
      refine j_aload_n (pc := 33) 0 dX8_takesNumber_33 rfl rfl ?_
      refine jg_9_8 (pc := 34) dX8_takesNumber_34 (hM (9, 0) rfl) tw_785 ?_
      refine j_iload_n (pc := 37) 1 dX8_takesNumber_37 rfl rfl ?_
      refine j_bipush (pc := 38) dX8_takesNumber_38 jcb_10 ?_
      refine j_aload_n (pc := 40) 0 dX8_takesNumber_40 rfl rfl ?_
      refine jg_9_8 (pc := 41) dX8_takesNumber_41 (hM (9, 0) rfl) tw_785 ?_
      refine j_iload_n (pc := 44) 1 dX8_takesNumber_44 rfl rfl ?_
      obtain ⟨c7, h⟩ := jchk h
      refine j_ia (pc := 45) dX8_takesNumber_45 rfl (hM (55, 0) rfl) c7 ?_
      refine j_imul (pc := 46) dX8_takesNumber_46 ?_
      refine j_aload_n (pc := 47) 0 dX8_takesNumber_47 rfl rfl ?_
      refine jg_9_4 (pc := 48) dX8_takesNumber_48 (hM (9, 0) rfl) tw_781 ?_
      refine j_aload_n (pc := 51) 0 dX8_takesNumber_51 rfl rfl ?_
      refine jg_9_7 (pc := 52) dX8_takesNumber_52 (hM (9, 0) rfl) tw_784 ?_
      obtain ⟨c8, h⟩ := jchk h
      refine j_ia (pc := 55) dX8_takesNumber_55 rfl (hM (53, 0) rfl) c8 ?_
      refine j_iadd (pc := 56) dX8_takesNumber_56 ?_
      refine j_bipush (pc := 57) dX8_takesNumber_57 jcb_48 ?_
      refine j_isub (pc := 59) dX8_takesNumber_59 ?_
      obtain ⟨c9, h⟩ := jchk h
      obtain ⟨S10, eS10, h⟩ := jlk h
      refine j_is (pc := 60) dX8_takesNumber_60 rfl (hM (55, 0) rfl) c9 eS10 ?_
      refine j_aload_n (pc := 61) 0 dX8_takesNumber_61 rfl rfl ?_
      refine j_dup (pc := 62) dX8_takesNumber_62 rfl ?_
      refine jg_9_7 (pc := 63) dX8_takesNumber_63 (hM (9, 0) rfl) tw_784 ?_
      refine j_iconst (pc := 66) dX8_takesNumber_66 jci_1 ?_
      refine j_iadd (pc := 67) dX8_takesNumber_67 ?_
      obtain ⟨S11, eS11, h⟩ := jlk h
      refine jp_14 (pc := 68) dX8_takesNumber_68 (hM (9, 0) rfl) tw_784 eS11 ?_
      refine j_goto (pc := 71) (tgt := 12) dX8_takesNumber_71 (by decide) ?_
      exact j_sub [0, 1, 2] rfl (H12 h)
def fX8_takesNumber_12  : Nat → jS → Int32 → Int32 → Option (Int32 × jS)
  | 0 => fun _ _ _ => none
  | n + 1 => bX8_takesNumber_12  (fX8_takesNumber_12  n)
theorem kX8_takesNumber_12 {E : jE} (hM : jHM E) (fu : Nat) : ∀ {S : jS} {x1 : Int32} {x2 : Int32} {r : (Int32 × jS)}, fX8_takesNumber_12  fu S x1 x2 = some r → JR E 3 mX8_takesNumber 12 [(0, .ref (E.1 (9, 0))), (1, .int x1), (2, .int x2)] [] S [.int r.1] r.2 := by
  induction fu with
  | zero => intro S x1 x2 r h; cases h
  | succ n_ ih => intro S x1 x2 r h; exact lX8_takesNumber_12 hM ih h
def fX8_takesNumber  (S : jS) (x1 : Int32) : Option (Int32 × jS) :=
  jlet (S.1 (14, 0)) fun v1 => if jIn x1 3 then jlet (jput S (55, 0) (upd (S.2 (55, 0)) x1.toNatClampNeg (0 : Int32))) fun S3 => fX8_takesNumber_12 5000 S3 x1 v1 else none
set_option maxRecDepth 10000 in
set_option maxHeartbeats 4000000 in
theorem kX8_takesNumber {E : jE} (hM : jHM E) {S : jS} {x1 : Int32} {r : (Int32 × jS)} (h : fX8_takesNumber  S x1 = some r) : jMR E 3 mX8_takesNumber [.ref (E.1 (9, 0)), .int x1] S [.int r.1] r.2 := by
  refine ⟨Nat.le_of_ble_eq_true rfl, ?_⟩
  show JR E 3 mX8_takesNumber 0 [(0, .ref (E.1 (9, 0))), (1, .int x1)] [] S [.int r.1] r.2
  unfold fX8_takesNumber at h
  refine j_aload_n (pc := 0) 0 dX8_takesNumber_0 rfl rfl ?_
  refine jg_9_7 (pc := 1) dX8_takesNumber_1 (hM (9, 0) rfl) tw_784 ?_
  obtain ⟨v1, ev1, h⟩ := jlk h
  refine j_topi ev1 ?_
  refine j_istore_n (pc := 4) (lv' := [(2, .int v1), (0, .ref (E.1 (9, 0))), (1, .int x1)]) dX8_takesNumber_4 rfl (by decide) rfl ?_
  refine j_aload_n (pc := 5) 1 dX8_takesNumber_5 rfl rfl ?_
  refine jg_9_8 (pc := 6) dX8_takesNumber_6 (hM (9, 0) rfl) tw_785 ?_
  refine j_iload_n (pc := 9) 2 dX8_takesNumber_9 rfl rfl ?_
  refine j_iconst (pc := 10) dX8_takesNumber_10 jci_0 ?_
  obtain ⟨c2, h⟩ := jchk h
  obtain ⟨S3, eS3, h⟩ := jlk h
  refine j_is (pc := 11) dX8_takesNumber_11 rfl (hM (55, 0) rfl) c2 eS3 ?_
  exact j_sub [1, 2, 0] rfl (kX8_takesNumber_12 hM 5000 h)
abbrev mX8_takesNumbers : jM := (yX8_takesNumbers, cX8_takesNumbers, 4, (some .boolean))
theorem okX8_takesNumbers : jOK mX8_takesNumbers 1 := ⟨by decide +kernel, tw_871, tw_84, by decide +kernel, by decide, by decide⟩
def bX8_takesNumbers_31  (q2 : jS → Int32 → Int32 → Option (Int32 × jS)) (S : jS) (x1 : Int32) (x2 : Int32) (t0 : Int32) : Option (Int32 × jS) :=
  (fX8_isAt S t0 t0).bind fun y5 => (if y5.1 = 0 then some ((0 : Int32), y5.2) else jlet (jset y5.2 (14, 0) ((y5.2.1 (14, 0)) + (1 : Int32))) fun S7 => jlet (x2 + (1 : Int32)) fun v8 => q2 S7 x1 v8)
set_option maxRecDepth 10000 in
set_option maxHeartbeats 4000000 in
theorem lX8_takesNumbers_31 {E : jE} (hM : jHM E) {q2 : jS → Int32 → Int32 → Option (Int32 × jS)} (H2 : ∀ {S : jS} {x1 : Int32} {x2 : Int32} {r : (Int32 × jS)}, q2 S x1 x2 = some r → JR E 4 mX8_takesNumbers 2 [(0, .ref (E.1 (9, 0))), (1, .int x1), (2, .int x2)] [] S [.int r.1] r.2) {S : jS} {x1 : Int32} {x2 : Int32} {t0 : Int32} {r : (Int32 × jS)} (h : bX8_takesNumbers_31  q2 S x1 x2 t0 = some r) : JR E 4 mX8_takesNumbers 31 [(0, .ref (E.1 (9, 0))), (1, .int x1), (2, .int x2)] [.int t0] S [.int r.1] r.2 := by
  unfold bX8_takesNumbers_31 at h
  refine j_istore_n (pc := 31) (lv' := [(3, .int t0), (0, .ref (E.1 (9, 0))), (1, .int x1), (2, .int x2)]) dX8_takesNumbers_31 rfl (by decide) rfl ?_
  refine j_aload_n (pc := 32) 1 dX8_takesNumbers_32 rfl rfl ?_
  refine j_iload_n (pc := 33) 0 dX8_takesNumbers_33 rfl rfl ?_
  refine j_iload_n (pc := 34) 0 dX8_takesNumbers_34 rfl rfl ?_
  obtain ⟨y5, hy5, h⟩ := jbnd h
  refine j_callV (pc := 35) (N := mX8_isAt) (rr := (9, 0)) (As := [.int t0, .int t0]) (rest := []) (v := [.int y5.1]) (S1 := y5.2) dX8_takesNumbers_35 (kX8_isAt hM hy5) (by simp) (by decide) okX8_isAt tw_878 tw_30 tw_876 (hM (9, 0) rfl) rfl rfl rfl rfl (by simp [Value.category]) ?_
  refine j_if_ne (pc := 38) (tgt := 43) dX8_takesNumbers_38 (by decide) (fun c6 => ?_) (fun c6 => ?_)
  · replace h := jite_f h c6
    refine j_aload_n (pc := 43) 1 dX8_takesNumbers_43 rfl rfl ?_
    refine j_dup (pc := 44) dX8_takesNumbers_44 rfl ?_
    refine jg_9_7 (pc := 45) dX8_takesNumbers_45 (hM (9, 0) rfl) tw_784 ?_
    refine j_iconst (pc := 48) dX8_takesNumbers_48 jci_1 ?_
    refine j_iadd (pc := 49) dX8_takesNumbers_49 ?_
    obtain ⟨S7, eS7, h⟩ := jlk h
    refine jp_14 (pc := 50) dX8_takesNumbers_50 (hM (9, 0) rfl) tw_784 eS7 ?_
    obtain ⟨v8, ev8, h⟩ := jlk h
    refine j_iinc (pc := 53) (v := v8) (lv' := [(2, .int v8), (3, .int t0), (0, .ref (E.1 (9, 0))), (1, .int x1)]) 3 dX8_takesNumbers_53 rfl (by rw [ev8]; rfl) (by decide) rfl ?_
    refine j_goto (pc := 56) (tgt := 2) dX8_takesNumbers_56 (by decide) ?_
    exact j_sub [2, 3, 0] rfl (H2 h)
  · replace h := jite_t h c6
    refine j_iconst (pc := 41) dX8_takesNumbers_41 jci_0 ?_
    cases h
    exact j_iret (pc := 42) dX8_takesNumbers_42 rfl rfl
def bX8_takesNumbers_2  (q2 : jS → Int32 → Int32 → Option (Int32 × jS)) (S : jS) (x1 : Int32) (x2 : Int32) : Option (Int32 × jS) :=
  (if x1 ≤ x2 then some ((1 : Int32), S) else (fX8_takesNumber S x2).bind fun y2 => (if y2.1 = 0 then some ((0 : Int32), y2.2) else (if x2 = (x1 - (1 : Int32)) then bX8_takesNumbers_31 q2 (y2.2) x1 x2 (59 : Int32) else bX8_takesNumbers_31 q2 (y2.2) x1 x2 (44 : Int32))))
set_option maxRecDepth 10000 in
set_option maxHeartbeats 4000000 in
theorem lX8_takesNumbers_2 {E : jE} (hM : jHM E) {q2 : jS → Int32 → Int32 → Option (Int32 × jS)} (H2 : ∀ {S : jS} {x1 : Int32} {x2 : Int32} {r : (Int32 × jS)}, q2 S x1 x2 = some r → JR E 4 mX8_takesNumbers 2 [(0, .ref (E.1 (9, 0))), (1, .int x1), (2, .int x2)] [] S [.int r.1] r.2) {S : jS} {x1 : Int32} {x2 : Int32} {r : (Int32 × jS)} (h : bX8_takesNumbers_2  q2 S x1 x2 = some r) : JR E 4 mX8_takesNumbers 2 [(0, .ref (E.1 (9, 0))), (1, .int x1), (2, .int x2)] [] S [.int r.1] r.2 := by
  unfold bX8_takesNumbers_2 at h
  refine j_iload_n (pc := 2) 2 dX8_takesNumbers_2 rfl rfl ?_
  refine j_iload_n (pc := 3) 1 dX8_takesNumbers_3 rfl rfl ?_
  refine j_icmp_ge (pc := 4) (tgt := 59) dX8_takesNumbers_4 (by decide) (fun c1 => ?_) (fun c1 => ?_)
  · replace h := jite_t h c1
    refine j_iconst (pc := 59) dX8_takesNumbers_59 jci_1 ?_
    cases h
    exact j_iret (pc := 60) dX8_takesNumbers_60 rfl rfl
  · replace h := jite_f h c1
    refine j_aload_n (pc := 7) 0 dX8_takesNumbers_7 rfl rfl ?_
    refine j_iload_n (pc := 8) 2 dX8_takesNumbers_8 rfl rfl ?_
    obtain ⟨y2, hy2, h⟩ := jbnd h
    refine j_callV (pc := 9) (N := mX8_takesNumber) (rr := (9, 0)) (As := [.int x2]) (rest := []) (v := [.int y2.1]) (S1 := y2.2) dX8_takesNumbers_9 (kX8_takesNumber hM hy2) (by simp) (by decide) okX8_takesNumber tw_874 tw_29 tw_872 (hM (9, 0) rfl) rfl rfl rfl rfl (by simp [Value.category]) ?_
    refine j_if_ne (pc := 12) (tgt := 17) dX8_takesNumbers_12 (by decide) (fun c3 => ?_) (fun c3 => ?_)
    · replace h := jite_f h c3
      refine j_iload_n (pc := 17) 2 dX8_takesNumbers_17 rfl rfl ?_
      refine j_iload_n (pc := 18) 1 dX8_takesNumbers_18 rfl rfl ?_
      refine j_iconst (pc := 19) dX8_takesNumbers_19 jci_1 ?_
      refine j_isub (pc := 20) dX8_takesNumbers_20 ?_
      refine j_icmp_ne (pc := 21) (tgt := 29) dX8_takesNumbers_21 (by decide) (fun c4 => ?_) (fun c4 => ?_)
      · replace h := jite_f h c4
        refine j_bipush (pc := 29) dX8_takesNumbers_29 jcb_44 ?_
        exact j_sub [0, 1, 2] rfl (lX8_takesNumbers_31 hM H2 h)
      · replace h := jite_t h c4
        refine j_bipush (pc := 24) dX8_takesNumbers_24 jcb_59 ?_
        refine j_goto (pc := 26) (tgt := 31) dX8_takesNumbers_26 (by decide) ?_
        exact j_sub [0, 1, 2] rfl (lX8_takesNumbers_31 hM H2 h)
    · replace h := jite_t h c3
      refine j_iconst (pc := 15) dX8_takesNumbers_15 jci_0 ?_
      cases h
      exact j_iret (pc := 16) dX8_takesNumbers_16 rfl rfl
def fX8_takesNumbers_2  : Nat → jS → Int32 → Int32 → Option (Int32 × jS)
  | 0 => fun _ _ _ => none
  | n + 1 => bX8_takesNumbers_2  (fX8_takesNumbers_2  n)
theorem kX8_takesNumbers_2 {E : jE} (hM : jHM E) (fu : Nat) : ∀ {S : jS} {x1 : Int32} {x2 : Int32} {r : (Int32 × jS)}, fX8_takesNumbers_2  fu S x1 x2 = some r → JR E 4 mX8_takesNumbers 2 [(0, .ref (E.1 (9, 0))), (1, .int x1), (2, .int x2)] [] S [.int r.1] r.2 := by
  induction fu with
  | zero => intro S x1 x2 r h; cases h
  | succ n_ ih => intro S x1 x2 r h; exact lX8_takesNumbers_2 hM ih h
def fX8_takesNumbers  (S : jS) (x1 : Int32) : Option (Int32 × jS) :=
  fX8_takesNumbers_2 5000 S x1 (0 : Int32)
set_option maxRecDepth 10000 in
set_option maxHeartbeats 4000000 in
theorem kX8_takesNumbers {E : jE} (hM : jHM E) {S : jS} {x1 : Int32} {r : (Int32 × jS)} (h : fX8_takesNumbers  S x1 = some r) : jMR E 4 mX8_takesNumbers [.ref (E.1 (9, 0)), .int x1] S [.int r.1] r.2 := by
  refine ⟨Nat.le_of_ble_eq_true rfl, ?_⟩
  show JR E 4 mX8_takesNumbers 0 [(0, .ref (E.1 (9, 0))), (1, .int x1)] [] S [.int r.1] r.2
  unfold fX8_takesNumbers at h
  refine j_iconst (pc := 0) dX8_takesNumbers_0 jci_0 ?_
  refine j_istore_n (pc := 1) (lv' := [(2, .int (0 : Int32)), (0, .ref (E.1 (9, 0))), (1, .int x1)]) dX8_takesNumbers_1 rfl (by decide) rfl ?_
  exact j_sub [1, 2, 0] rfl (kX8_takesNumbers_2 hM 5000 h)
abbrev mX8_isReadNode : jM := (yX8_isReadNode, cX8_isReadNode, 2, (some .boolean))
theorem okX8_isReadNode : jOK mX8_isReadNode 1 := ⟨by decide +kernel, tw_887, tw_84, by decide +kernel, by decide, by decide⟩
def fX8_isReadNode  (S : jS) (x1 : Int32) : Option (Int32 × jS) :=
  if jIn (0 : Int32) 815 then (if (S.2 (54, 0) (0 : Int32).toNatClampNeg) ≤ x1 then some ((0 : Int32), S) else some ((1 : Int32), S)) else none
set_option maxRecDepth 10000 in
set_option maxHeartbeats 4000000 in
theorem kX8_isReadNode {E : jE} (hM : jHM E) {S : jS} {x1 : Int32} {r : (Int32 × jS)} (h : fX8_isReadNode  S x1 = some r) : jMR E 1 mX8_isReadNode [.ref (E.1 (9, 0)), .int x1] S [.int r.1] r.2 := by
  refine ⟨Nat.le_of_ble_eq_true rfl, ?_⟩
  show JR E 1 mX8_isReadNode 0 [(0, .ref (E.1 (9, 0))), (1, .int x1)] [] S [.int r.1] r.2
  unfold fX8_isReadNode at h
  refine j_iload_n (pc := 0) 1 dX8_isReadNode_0 rfl rfl ?_
  refine j_aload_n (pc := 1) 0 dX8_isReadNode_1 rfl rfl ?_
  refine jg_9_6 (pc := 2) dX8_isReadNode_2 (hM (9, 0) rfl) tw_783 ?_
  refine j_iconst (pc := 5) dX8_isReadNode_5 jci_0 ?_
  obtain ⟨c1, h⟩ := jchk h
  refine j_ia (pc := 6) dX8_isReadNode_6 rfl (hM (54, 0) rfl) c1 ?_
  refine j_icmp_ge (pc := 7) (tgt := 14) dX8_isReadNode_7 (by decide) (fun c2 => ?_) (fun c2 => ?_)
  · replace h := jite_t h c2
    refine j_iconst (pc := 14) dX8_isReadNode_14 jci_0 ?_
    cases h
    exact j_iret (pc := 15) dX8_isReadNode_15 rfl rfl
  · replace h := jite_f h c2
    refine j_iconst (pc := 10) dX8_isReadNode_10 jci_1 ?_
    refine j_goto (pc := 11) (tgt := 15) dX8_isReadNode_11 (by decide) ?_
    cases h
    exact j_iret (pc := 15) dX8_isReadNode_15 rfl rfl
abbrev mX8_takesGoal : jM := (yX8_takesGoal, cX8_takesGoal, 3, (some .boolean))
theorem okX8_takesGoal : jOK mX8_takesGoal 0 := ⟨by decide +kernel, tw_883, tw_84, by decide +kernel, by decide, by decide⟩
def bX8_takesGoal_75  (q39 : jS → Int32 → Int32 → Option (Int32 × jS)) (S : jS) (x2 : Int32) (t0 : Int32) : Option (Int32 × jS) :=
  jlet (x2 + (1 : Int32)) fun v24 => q39 S t0 v24
set_option maxRecDepth 10000 in
set_option maxHeartbeats 4000000 in
theorem lX8_takesGoal_75 {E : jE} (hM : jHM E) {q39 : jS → Int32 → Int32 → Option (Int32 × jS)} (H39 : ∀ {S : jS} {x1 : Int32} {x2 : Int32} {r : (Int32 × jS)}, q39 S x1 x2 = some r → JR E 5 mX8_takesGoal 39 [(0, .ref (E.1 (9, 0))), (1, .int x1), (2, .int x2)] [] S [.int r.1] r.2) {S : jS} {x2 : Int32} {t0 : Int32} {r : (Int32 × jS)} (h : bX8_takesGoal_75  q39 S x2 t0 = some r) : JR E 5 mX8_takesGoal 75 [(0, .ref (E.1 (9, 0))), (2, .int x2)] [.int t0] S [.int r.1] r.2 := by
  unfold bX8_takesGoal_75 at h
  refine j_istore_n (pc := 75) (lv' := [(1, .int t0), (0, .ref (E.1 (9, 0))), (2, .int x2)]) dX8_takesGoal_75 rfl (by decide) rfl ?_
  obtain ⟨v24, ev24, h⟩ := jlk h
  refine j_iinc (pc := 76) (v := v24) (lv' := [(2, .int v24), (1, .int t0), (0, .ref (E.1 (9, 0)))]) 2 dX8_takesGoal_76 rfl (by rw [ev24]; rfl) (by decide) rfl ?_
  refine j_goto (pc := 79) (tgt := 39) dX8_takesGoal_79 (by decide) ?_
  exact j_sub [2, 1, 0] rfl (H39 h)
def bX8_takesGoal_74  (q39 : jS → Int32 → Int32 → Option (Int32 × jS)) (S : jS) (x2 : Int32) : Option (Int32 × jS) :=
  bX8_takesGoal_75 q39 S x2 (0 : Int32)
set_option maxRecDepth 10000 in
set_option maxHeartbeats 4000000 in
theorem lX8_takesGoal_74 {E : jE} (hM : jHM E) {q39 : jS → Int32 → Int32 → Option (Int32 × jS)} (H39 : ∀ {S : jS} {x1 : Int32} {x2 : Int32} {r : (Int32 × jS)}, q39 S x1 x2 = some r → JR E 5 mX8_takesGoal 39 [(0, .ref (E.1 (9, 0))), (1, .int x1), (2, .int x2)] [] S [.int r.1] r.2) {S : jS} {x2 : Int32} {r : (Int32 × jS)} (h : bX8_takesGoal_74  q39 S x2 = some r) : JR E 5 mX8_takesGoal 74 [(0, .ref (E.1 (9, 0))), (2, .int x2)] [] S [.int r.1] r.2 := by
  unfold bX8_takesGoal_74 at h
  refine j_iconst (pc := 74) dX8_takesGoal_74 jci_0 ?_
  exact j_sub [0, 1] rfl (lX8_takesGoal_75 hM H39 h)
def bX8_takesGoal_39  (q39 : jS → Int32 → Int32 → Option (Int32 × jS)) (S : jS) (x1 : Int32) (x2 : Int32) : Option (Int32 × jS) :=
  if jIn (1 : Int32) 815 then (if (S.2 (54, 0) (1 : Int32).toNatClampNeg) ≤ x2 then (if x1 = 0 then if x1 = 0 ∨ x1 = 1 then some (x1, S) else none else if jIn (1 : Int32) 815 then if jIn (0 : Int32) 3 then if jIn ((2 : Int32) + (S.2 (54, 0) (1 : Int32).toNatClampNeg)) 815 then jlet (jput S (54, 0) (upd (S.2 (54, 0)) ((2 : Int32) + (S.2 (54, 0) (1 : Int32).toNatClampNeg)).toNatClampNeg (S.2 (55, 0) (0 : Int32).toNatClampNeg))) fun S15 => if jIn (1 : Int32) 815 then if jIn (1 : Int32) 815 then jlet (jput S15 (54, 0) (upd (S15.2 (54, 0)) (1 : Int32).toNatClampNeg ((S15.2 (54, 0) (1 : Int32).toNatClampNeg) + (1 : Int32)))) fun S18 => if x1 = 0 ∨ x1 = 1 then some (x1, S18) else none else none else none else none else none else none) else (if x1 = 0 then bX8_takesGoal_74 q39 S x2 else if jIn ((2 : Int32) + x2) 815 then if jIn (0 : Int32) 3 then (if (S.2 (54, 0) ((2 : Int32) + x2).toNatClampNeg) = (S.2 (55, 0) (0 : Int32).toNatClampNeg) then bX8_takesGoal_74 q39 S x2 else bX8_takesGoal_75 q39 S x2 (1 : Int32)) else none else none)) else none
set_option maxRecDepth 10000 in
set_option maxHeartbeats 4000000 in
theorem lX8_takesGoal_39 {E : jE} (hM : jHM E) {q39 : jS → Int32 → Int32 → Option (Int32 × jS)} (H39 : ∀ {S : jS} {x1 : Int32} {x2 : Int32} {r : (Int32 × jS)}, q39 S x1 x2 = some r → JR E 5 mX8_takesGoal 39 [(0, .ref (E.1 (9, 0))), (1, .int x1), (2, .int x2)] [] S [.int r.1] r.2) {S : jS} {x1 : Int32} {x2 : Int32} {r : (Int32 × jS)} (h : bX8_takesGoal_39  q39 S x1 x2 = some r) : JR E 5 mX8_takesGoal 39 [(0, .ref (E.1 (9, 0))), (1, .int x1), (2, .int x2)] [] S [.int r.1] r.2 := by
  unfold bX8_takesGoal_39 at h
  refine j_iload_n (pc := 39) 2 dX8_takesGoal_39 rfl rfl ?_
  refine j_aload_n (pc := 40) 0 dX8_takesGoal_40 rfl rfl ?_
  refine jg_9_6 (pc := 41) dX8_takesGoal_41 (hM (9, 0) rfl) tw_783 ?_
  refine j_iconst (pc := 44) dX8_takesGoal_44 jci_1 ?_
  obtain ⟨c8, h⟩ := jchk h
  refine j_ia (pc := 45) dX8_takesGoal_45 rfl (hM (54, 0) rfl) c8 ?_
  refine j_icmp_ge (pc := 46) (tgt := 82) dX8_takesGoal_46 (by decide) (fun c9 => ?_) (fun c9 => ?_)
  · replace h := jite_t h c9
    refine j_iload_n (pc := 82) 1 dX8_takesGoal_82 rfl rfl ?_
    refine j_if_eq (pc := 83) (tgt := 115) dX8_takesGoal_83 (by decide) (fun c10 => ?_) (fun c10 => ?_)
    · replace h := jite_t h c10
      refine j_iload_n (pc := 115) 1 dX8_takesGoal_115 rfl rfl ?_
      obtain ⟨c11, h⟩ := jchk h
      cases h
      exact j_iret (pc := 116) dX8_takesGoal_116 rfl (jnar01 c11)
    · replace h := jite_f h c10
      refine j_aload_n (pc := 86) 0 dX8_takesGoal_86 rfl rfl ?_
      refine jg_9_6 (pc := 87) dX8_takesGoal_87 (hM (9, 0) rfl) tw_783 ?_
      refine j_iconst (pc := 90) dX8_takesGoal_90 jci_2 ?_
      refine j_aload_n (pc := 91) 0 dX8_takesGoal_91 rfl rfl ?_
      refine jg_9_6 (pc := 92) dX8_takesGoal_92 (hM (9, 0) rfl) tw_783 ?_
      refine j_iconst (pc := 95) dX8_takesGoal_95 jci_1 ?_
      obtain ⟨c12, h⟩ := jchk h
      refine j_ia (pc := 96) dX8_takesGoal_96 rfl (hM (54, 0) rfl) c12 ?_
      refine j_iadd (pc := 97) dX8_takesGoal_97 ?_
      refine j_aload_n (pc := 98) 0 dX8_takesGoal_98 rfl rfl ?_
      refine jg_9_8 (pc := 99) dX8_takesGoal_99 (hM (9, 0) rfl) tw_785 ?_
      refine j_iconst (pc := 102) dX8_takesGoal_102 jci_0 ?_
      obtain ⟨c13, h⟩ := jchk h
      refine j_ia (pc := 103) dX8_takesGoal_103 rfl (hM (55, 0) rfl) c13 ?_
      obtain ⟨c14, h⟩ := jchk h
      obtain ⟨S15, eS15, h⟩ := jlk h
      refine j_is (pc := 104) dX8_takesGoal_104 rfl (hM (54, 0) rfl) c14 eS15 ?_
      refine j_aload_n (pc := 105) 0 dX8_takesGoal_105 rfl rfl ?_
      refine jg_9_6 (pc := 106) dX8_takesGoal_106 (hM (9, 0) rfl) tw_783 ?_
      refine j_iconst (pc := 109) dX8_takesGoal_109 jci_1 ?_
      refine j_dup2 (pc := 110) dX8_takesGoal_110 rfl rfl ?_
      obtain ⟨c16, h⟩ := jchk h
      refine j_ia (pc := 111) dX8_takesGoal_111 rfl (hM (54, 0) rfl) c16 ?_
      refine j_iconst (pc := 112) dX8_takesGoal_112 jci_1 ?_
      refine j_iadd (pc := 113) dX8_takesGoal_113 ?_
      obtain ⟨c17, h⟩ := jchk h
      obtain ⟨S18, eS18, h⟩ := jlk h
      refine j_is (pc := 114) dX8_takesGoal_114 rfl (hM (54, 0) rfl) c17 eS18 ?_
      refine j_iload_n (pc := 115) 1 dX8_takesGoal_115 rfl rfl ?_
      obtain ⟨c19, h⟩ := jchk h
      cases h
      exact j_iret (pc := 116) dX8_takesGoal_116 rfl (jnar01 c19)
  · replace h := jite_f h c9
    refine j_iload_n (pc := 49) 1 dX8_takesGoal_49 rfl rfl ?_
    refine j_if_eq (pc := 50) (tgt := 74) dX8_takesGoal_50 (by decide) (fun c20 => ?_) (fun c20 => ?_)
    · replace h := jite_t h c20
      exact j_sub [0, 2] rfl (lX8_takesGoal_74 hM H39 h)
    · replace h := jite_f h c20
      refine j_aload_n (pc := 53) 0 dX8_takesGoal_53 rfl rfl ?_
      refine jg_9_6 (pc := 54) dX8_takesGoal_54 (hM (9, 0) rfl) tw_783 ?_
      refine j_iconst (pc := 57) dX8_takesGoal_57 jci_2 ?_
      refine j_iload_n (pc := 58) 2 dX8_takesGoal_58 rfl rfl ?_
      refine j_iadd (pc := 59) dX8_takesGoal_59 ?_
      obtain ⟨c21, h⟩ := jchk h
      refine j_ia (pc := 60) dX8_takesGoal_60 rfl (hM (54, 0) rfl) c21 ?_
      refine j_aload_n (pc := 61) 0 dX8_takesGoal_61 rfl rfl ?_
      refine jg_9_8 (pc := 62) dX8_takesGoal_62 (hM (9, 0) rfl) tw_785 ?_
      refine j_iconst (pc := 65) dX8_takesGoal_65 jci_0 ?_
      obtain ⟨c22, h⟩ := jchk h
      refine j_ia (pc := 66) dX8_takesGoal_66 rfl (hM (55, 0) rfl) c22 ?_
      refine j_icmp_eq (pc := 67) (tgt := 74) dX8_takesGoal_67 (by decide) (fun c23 => ?_) (fun c23 => ?_)
      · replace h := jite_t h c23
        exact j_sub [0, 2] rfl (lX8_takesGoal_74 hM H39 h)
      · replace h := jite_f h c23
        refine j_iconst (pc := 70) dX8_takesGoal_70 jci_1 ?_
        refine j_goto (pc := 71) (tgt := 75) dX8_takesGoal_71 (by decide) ?_
        exact j_sub [0, 2] rfl (lX8_takesGoal_75 hM H39 h)
def fX8_takesGoal_39  : Nat → jS → Int32 → Int32 → Option (Int32 × jS)
  | 0 => fun _ _ _ => none
  | n + 1 => bX8_takesGoal_39  (fX8_takesGoal_39  n)
theorem kX8_takesGoal_39 {E : jE} (hM : jHM E) (fu : Nat) : ∀ {S : jS} {x1 : Int32} {x2 : Int32} {r : (Int32 × jS)}, fX8_takesGoal_39  fu S x1 x2 = some r → JR E 5 mX8_takesGoal 39 [(0, .ref (E.1 (9, 0))), (1, .int x1), (2, .int x2)] [] S [.int r.1] r.2 := by
  induction fu with
  | zero => intro S x1 x2 r h; cases h
  | succ n_ ih => intro S x1 x2 r h; exact lX8_takesGoal_39 hM ih h
def bX8_takesGoal_36  (S : jS) (t0 : Int32) : Option (Int32 × jS) :=
  fX8_takesGoal_39 5000 S t0 (0 : Int32)
set_option maxRecDepth 10000 in
set_option maxHeartbeats 4000000 in
theorem lX8_takesGoal_36 {E : jE} (hM : jHM E) {S : jS} {t0 : Int32} {r : (Int32 × jS)} (h : bX8_takesGoal_36  S t0 = some r) : JR E 5 mX8_takesGoal 36 [(0, .ref (E.1 (9, 0)))] [.int t0] S [.int r.1] r.2 := by
  unfold bX8_takesGoal_36 at h
  refine j_istore_n (pc := 36) (lv' := [(1, .int t0), (0, .ref (E.1 (9, 0)))]) dX8_takesGoal_36 rfl (by decide) rfl ?_
  refine j_iconst (pc := 37) dX8_takesGoal_37 jci_0 ?_
  refine j_istore_n (pc := 38) (lv' := [(2, .int (0 : Int32)), (1, .int t0), (0, .ref (E.1 (9, 0)))]) dX8_takesGoal_38 rfl (by decide) rfl ?_
  exact j_sub [2, 1, 0] rfl (kX8_takesGoal_39 hM 5000 h)
def bX8_takesGoal_35  (S : jS) : Option (Int32 × jS) :=
  bX8_takesGoal_36 S (0 : Int32)
set_option maxRecDepth 10000 in
set_option maxHeartbeats 4000000 in
theorem lX8_takesGoal_35 {E : jE} (hM : jHM E) {S : jS} {r : (Int32 × jS)} (h : bX8_takesGoal_35  S = some r) : JR E 5 mX8_takesGoal 35 [(0, .ref (E.1 (9, 0)))] [] S [.int r.1] r.2 := by
  unfold bX8_takesGoal_35 at h
  refine j_iconst (pc := 35) dX8_takesGoal_35 jci_0 ?_
  exact j_sub [0] rfl (lX8_takesGoal_36 hM h)
def fX8_takesGoal  (S : jS) : Option (Int32 × jS) :=
  (fX8_takesNumbers S (1 : Int32)).bind fun y1 => (if y1.1 = 0 then bX8_takesGoal_35 (y1.2) else if jIn (0 : Int32) 3 then (fX8_isReadNode y1.2 (y1.2.2 (55, 0) (0 : Int32).toNatClampNeg)).bind fun y4 => (if y4.1 = 0 then bX8_takesGoal_35 (y4.2) else if jIn (1 : Int32) 815 then (if (3 : Int32) ≤ (y4.2.2 (54, 0) (1 : Int32).toNatClampNeg) then bX8_takesGoal_35 (y4.2) else bX8_takesGoal_36 (y4.2) (1 : Int32)) else none) else none)
set_option maxRecDepth 10000 in
set_option maxHeartbeats 4000000 in
theorem kX8_takesGoal {E : jE} (hM : jHM E) {S : jS} {r : (Int32 × jS)} (h : fX8_takesGoal  S = some r) : jMR E 5 mX8_takesGoal [.ref (E.1 (9, 0))] S [.int r.1] r.2 := by
  refine ⟨Nat.le_of_ble_eq_true rfl, ?_⟩
  show JR E 5 mX8_takesGoal 0 [(0, .ref (E.1 (9, 0)))] [] S [.int r.1] r.2
  unfold fX8_takesGoal at h
  refine j_aload_n (pc := 0) 0 dX8_takesGoal_0 rfl rfl ?_
  refine j_iconst (pc := 1) dX8_takesGoal_1 jci_1 ?_
  obtain ⟨y1, hy1, h⟩ := jbnd h
  refine j_callV (pc := 2) (N := mX8_takesNumbers) (rr := (9, 0)) (As := [.int (1 : Int32)]) (rest := []) (v := [.int y1.1]) (S1 := y1.2) dX8_takesGoal_2 (kX8_takesNumbers hM hy1) (by simp) (by decide) okX8_takesNumbers tw_870 tw_28 tw_868 (hM (9, 0) rfl) rfl rfl rfl rfl (by simp [Value.category]) ?_
  refine j_if_eq (pc := 5) (tgt := 35) dX8_takesGoal_5 (by decide) (fun c2 => ?_) (fun c2 => ?_)
  · replace h := jite_t h c2
    exact j_sub [0] rfl (lX8_takesGoal_35 hM h)
  · replace h := jite_f h c2
    refine j_aload_n (pc := 8) 0 dX8_takesGoal_8 rfl rfl ?_
    refine j_aload_n (pc := 9) 0 dX8_takesGoal_9 rfl rfl ?_
    refine jg_9_8 (pc := 10) dX8_takesGoal_10 (hM (9, 0) rfl) tw_785 ?_
    refine j_iconst (pc := 13) dX8_takesGoal_13 jci_0 ?_
    obtain ⟨c3, h⟩ := jchk h
    refine j_ia (pc := 14) dX8_takesGoal_14 rfl (hM (55, 0) rfl) c3 ?_
    obtain ⟨y4, hy4, h⟩ := jbnd h
    refine j_callV (pc := 15) (N := mX8_isReadNode) (rr := (9, 0)) (As := [.int (y1.2.2 (55, 0) (0 : Int32).toNatClampNeg)]) (rest := []) (v := [.int y4.1]) (S1 := y4.2) dX8_takesGoal_15 (kX8_isReadNode hM hy4) (by simp) (by decide) okX8_isReadNode tw_886 tw_32 tw_884 (hM (9, 0) rfl) rfl rfl rfl rfl (by simp [Value.category]) ?_
    refine j_if_eq (pc := 18) (tgt := 35) dX8_takesGoal_18 (by decide) (fun c5 => ?_) (fun c5 => ?_)
    · replace h := jite_t h c5
      exact j_sub [0] rfl (lX8_takesGoal_35 hM h)
    · replace h := jite_f h c5
      refine j_aload_n (pc := 21) 0 dX8_takesGoal_21 rfl rfl ?_
      refine jg_9_6 (pc := 22) dX8_takesGoal_22 (hM (9, 0) rfl) tw_783 ?_
      refine j_iconst (pc := 25) dX8_takesGoal_25 jci_1 ?_
      obtain ⟨c6, h⟩ := jchk h
      refine j_ia (pc := 26) dX8_takesGoal_26 rfl (hM (54, 0) rfl) c6 ?_
      refine j_iconst (pc := 27) dX8_takesGoal_27 jci_3 ?_
      refine j_icmp_ge (pc := 28) (tgt := 35) dX8_takesGoal_28 (by decide) (fun c7 => ?_) (fun c7 => ?_)
      · replace h := jite_t h c7
        exact j_sub [0] rfl (lX8_takesGoal_35 hM h)
      · replace h := jite_f h c7
        refine j_iconst (pc := 31) dX8_takesGoal_31 jci_1 ?_
        refine j_goto (pc := 32) (tgt := 36) dX8_takesGoal_32 (by decide) ?_
        exact j_sub [0] rfl (lX8_takesGoal_36 hM h)
abbrev mX8_takesLink : jM := (yX8_takesLink, cX8_takesLink, 2, (some .boolean))
theorem okX8_takesLink : jOK mX8_takesLink 0 := ⟨by decide +kernel, tw_891, tw_84, by decide +kernel, by decide, by decide⟩
def bX8_takesLink_82  (S : jS) (t0 : Int32) : Option (Int32 × jS) :=
  (if t0 = 0 then if t0 = 0 ∨ t0 = 1 then some (t0, S) else none else if jIn (0 : Int32) 3 then if jIn (1 : Int32) 3 then if jIn (2 : Int32) 3 then (fX8_links S (S.2 (55, 0) (0 : Int32).toNatClampNeg) (S.2 (55, 0) (1 : Int32).toNatClampNeg) (S.2 (55, 0) (2 : Int32).toNatClampNeg)).bind fun y22 => if t0 = 0 ∨ t0 = 1 then some (t0, y22) else none else none else none else none)
set_option maxRecDepth 10000 in
set_option maxHeartbeats 4000000 in
theorem lX8_takesLink_82 {E : jE} (hM : jHM E) {S : jS} {t0 : Int32} {r : (Int32 × jS)} (h : bX8_takesLink_82  S t0 = some r) : JR E 5 mX8_takesLink 82 [(0, .ref (E.1 (9, 0)))] [.int t0] S [.int r.1] r.2 := by
  unfold bX8_takesLink_82 at h
  refine j_istore_n (pc := 82) (lv' := [(1, .int t0), (0, .ref (E.1 (9, 0)))]) dX8_takesLink_82 rfl (by decide) rfl ?_
  refine j_iload_n (pc := 83) 0 dX8_takesLink_83 rfl rfl ?_
  refine j_if_eq (pc := 84) (tgt := 109) dX8_takesLink_84 (by decide) (fun c17 => ?_) (fun c17 => ?_)
  · replace h := jite_t h c17
    refine j_iload_n (pc := 109) 0 dX8_takesLink_109 rfl rfl ?_
    obtain ⟨c18, h⟩ := jchk h
    cases h
    exact j_iret (pc := 110) dX8_takesLink_110 rfl (jnar01 c18)
  · replace h := jite_f h c17
    refine j_aload_n (pc := 87) 1 dX8_takesLink_87 rfl rfl ?_
    refine j_aload_n (pc := 88) 1 dX8_takesLink_88 rfl rfl ?_
    refine jg_9_8 (pc := 89) dX8_takesLink_89 (hM (9, 0) rfl) tw_785 ?_
    refine j_iconst (pc := 92) dX8_takesLink_92 jci_0 ?_
    obtain ⟨c19, h⟩ := jchk h
    refine j_ia (pc := 93) dX8_takesLink_93 rfl (hM (55, 0) rfl) c19 ?_
    refine j_aload_n (pc := 94) 1 dX8_takesLink_94 rfl rfl ?_
    refine jg_9_8 (pc := 95) dX8_takesLink_95 (hM (9, 0) rfl) tw_785 ?_
    refine j_iconst (pc := 98) dX8_takesLink_98 jci_1 ?_
    obtain ⟨c20, h⟩ := jchk h
    refine j_ia (pc := 99) dX8_takesLink_99 rfl (hM (55, 0) rfl) c20 ?_
    refine j_aload_n (pc := 100) 1 dX8_takesLink_100 rfl rfl ?_
    refine jg_9_8 (pc := 101) dX8_takesLink_101 (hM (9, 0) rfl) tw_785 ?_
    refine j_iconst (pc := 104) dX8_takesLink_104 jci_2 ?_
    obtain ⟨c21, h⟩ := jchk h
    refine j_ia (pc := 105) dX8_takesLink_105 rfl (hM (55, 0) rfl) c21 ?_
    obtain ⟨y22, hy22, h⟩ := jbnd h
    refine j_callV (pc := 106) (N := mX8_links) (rr := (9, 0)) (As := [.int (S.2 (55, 0) (0 : Int32).toNatClampNeg), .int (S.2 (55, 0) (1 : Int32).toNatClampNeg), .int (S.2 (55, 0) (2 : Int32).toNatClampNeg)]) (rest := []) (v := []) (S1 := y22) dX8_takesLink_106 (kX8_links hM hy22) (by simp) (by decide) okX8_links tw_768 tw_23 tw_766 (hM (9, 0) rfl) rfl rfl rfl rfl (by simp [Value.category]) ?_
    refine j_iload_n (pc := 109) 0 dX8_takesLink_109 rfl rfl ?_
    obtain ⟨c23, h⟩ := jchk h
    cases h
    exact j_iret (pc := 110) dX8_takesLink_110 rfl (jnar01 c23)
def bX8_takesLink_81  (S : jS) : Option (Int32 × jS) :=
  bX8_takesLink_82 S (0 : Int32)
set_option maxRecDepth 10000 in
set_option maxHeartbeats 4000000 in
theorem lX8_takesLink_81 {E : jE} (hM : jHM E) {S : jS} {r : (Int32 × jS)} (h : bX8_takesLink_81  S = some r) : JR E 5 mX8_takesLink 81 [(0, .ref (E.1 (9, 0)))] [] S [.int r.1] r.2 := by
  unfold bX8_takesLink_81 at h
  refine j_iconst (pc := 81) dX8_takesLink_81 jci_0 ?_
  exact j_sub [0] rfl (lX8_takesLink_82 hM h)
def fX8_takesLink  (S : jS) : Option (Int32 × jS) :=
  (fX8_takesNumbers S (3 : Int32)).bind fun y1 => (if y1.1 = 0 then bX8_takesLink_81 (y1.2) else if jIn (0 : Int32) 3 then (fX8_isReadNode y1.2 (y1.2.2 (55, 0) (0 : Int32).toNatClampNeg)).bind fun y4 => (if y4.1 = 0 then bX8_takesLink_81 (y4.2) else if jIn (1 : Int32) 3 then (fX8_isReadNode y4.2 (y4.2.2 (55, 0) (1 : Int32).toNatClampNeg)).bind fun y7 => (if y7.1 = 0 then bX8_takesLink_81 (y7.2) else if jIn (0 : Int32) 3 then if jIn (1 : Int32) 3 then (if (y7.2.2 (55, 0) (0 : Int32).toNatClampNeg) = (y7.2.2 (55, 0) (1 : Int32).toNatClampNeg) then bX8_takesLink_81 (y7.2) else if jIn (2 : Int32) 3 then (fX8_in y7.2 ((y7.2.2 (55, 0) (2 : Int32).toNatClampNeg).toInt64) (1 : Int64) (9 : Int64)).bind fun y13 => (if y13.1 = 0 then bX8_takesLink_81 (y13.2) else if jIn (5 : Int32) 815 then (if (10 : Int32) ≤ (y13.2.2 (54, 0) (5 : Int32).toNatClampNeg) then bX8_takesLink_81 (y13.2) else bX8_takesLink_82 (y13.2) (1 : Int32)) else none) else none) else none else none) else none) else none)
set_option maxRecDepth 10000 in
set_option maxHeartbeats 4000000 in
theorem kX8_takesLink {E : jE} (hM : jHM E) {S : jS} {r : (Int32 × jS)} (h : fX8_takesLink  S = some r) : jMR E 5 mX8_takesLink [.ref (E.1 (9, 0))] S [.int r.1] r.2 := by
  refine ⟨Nat.le_of_ble_eq_true rfl, ?_⟩
  show JR E 5 mX8_takesLink 0 [(0, .ref (E.1 (9, 0)))] [] S [.int r.1] r.2
  unfold fX8_takesLink at h
  refine j_aload_n (pc := 0) 0 dX8_takesLink_0 rfl rfl ?_
  refine j_iconst (pc := 1) dX8_takesLink_1 jci_3 ?_
  obtain ⟨y1, hy1, h⟩ := jbnd h
  refine j_callV (pc := 2) (N := mX8_takesNumbers) (rr := (9, 0)) (As := [.int (3 : Int32)]) (rest := []) (v := [.int y1.1]) (S1 := y1.2) dX8_takesLink_2 (kX8_takesNumbers hM hy1) (by simp) (by decide) okX8_takesNumbers tw_870 tw_28 tw_868 (hM (9, 0) rfl) rfl rfl rfl rfl (by simp [Value.category]) ?_
  refine j_if_eq (pc := 5) (tgt := 81) dX8_takesLink_5 (by decide) (fun c2 => ?_) (fun c2 => ?_)
  · replace h := jite_t h c2
    exact j_sub [0] rfl (lX8_takesLink_81 hM h)
  · replace h := jite_f h c2
    refine j_aload_n (pc := 8) 0 dX8_takesLink_8 rfl rfl ?_
    refine j_aload_n (pc := 9) 0 dX8_takesLink_9 rfl rfl ?_
    refine jg_9_8 (pc := 10) dX8_takesLink_10 (hM (9, 0) rfl) tw_785 ?_
    refine j_iconst (pc := 13) dX8_takesLink_13 jci_0 ?_
    obtain ⟨c3, h⟩ := jchk h
    refine j_ia (pc := 14) dX8_takesLink_14 rfl (hM (55, 0) rfl) c3 ?_
    obtain ⟨y4, hy4, h⟩ := jbnd h
    refine j_callV (pc := 15) (N := mX8_isReadNode) (rr := (9, 0)) (As := [.int (y1.2.2 (55, 0) (0 : Int32).toNatClampNeg)]) (rest := []) (v := [.int y4.1]) (S1 := y4.2) dX8_takesLink_15 (kX8_isReadNode hM hy4) (by simp) (by decide) okX8_isReadNode tw_886 tw_32 tw_884 (hM (9, 0) rfl) rfl rfl rfl rfl (by simp [Value.category]) ?_
    refine j_if_eq (pc := 18) (tgt := 81) dX8_takesLink_18 (by decide) (fun c5 => ?_) (fun c5 => ?_)
    · replace h := jite_t h c5
      exact j_sub [0] rfl (lX8_takesLink_81 hM h)
    · replace h := jite_f h c5
      refine j_aload_n (pc := 21) 0 dX8_takesLink_21 rfl rfl ?_
      refine j_aload_n (pc := 22) 0 dX8_takesLink_22 rfl rfl ?_
      refine jg_9_8 (pc := 23) dX8_takesLink_23 (hM (9, 0) rfl) tw_785 ?_
      refine j_iconst (pc := 26) dX8_takesLink_26 jci_1 ?_
      obtain ⟨c6, h⟩ := jchk h
      refine j_ia (pc := 27) dX8_takesLink_27 rfl (hM (55, 0) rfl) c6 ?_
      obtain ⟨y7, hy7, h⟩ := jbnd h
      refine j_callV (pc := 28) (N := mX8_isReadNode) (rr := (9, 0)) (As := [.int (y4.2.2 (55, 0) (1 : Int32).toNatClampNeg)]) (rest := []) (v := [.int y7.1]) (S1 := y7.2) dX8_takesLink_28 (kX8_isReadNode hM hy7) (by simp) (by decide) okX8_isReadNode tw_886 tw_32 tw_884 (hM (9, 0) rfl) rfl rfl rfl rfl (by simp [Value.category]) ?_
      refine j_if_eq (pc := 31) (tgt := 81) dX8_takesLink_31 (by decide) (fun c8 => ?_) (fun c8 => ?_)
      · replace h := jite_t h c8
        exact j_sub [0] rfl (lX8_takesLink_81 hM h)
      · replace h := jite_f h c8
        refine j_aload_n (pc := 34) 0 dX8_takesLink_34 rfl rfl ?_
        refine jg_9_8 (pc := 35) dX8_takesLink_35 (hM (9, 0) rfl) tw_785 ?_
        refine j_iconst (pc := 38) dX8_takesLink_38 jci_0 ?_
        obtain ⟨c9, h⟩ := jchk h
        refine j_ia (pc := 39) dX8_takesLink_39 rfl (hM (55, 0) rfl) c9 ?_
        refine j_aload_n (pc := 40) 0 dX8_takesLink_40 rfl rfl ?_
        refine jg_9_8 (pc := 41) dX8_takesLink_41 (hM (9, 0) rfl) tw_785 ?_
        refine j_iconst (pc := 44) dX8_takesLink_44 jci_1 ?_
        obtain ⟨c10, h⟩ := jchk h
        refine j_ia (pc := 45) dX8_takesLink_45 rfl (hM (55, 0) rfl) c10 ?_
        refine j_icmp_eq (pc := 46) (tgt := 81) dX8_takesLink_46 (by decide) (fun c11 => ?_) (fun c11 => ?_)
        · replace h := jite_t h c11
          exact j_sub [0] rfl (lX8_takesLink_81 hM h)
        · replace h := jite_f h c11
          refine j_aload_n (pc := 49) 0 dX8_takesLink_49 rfl rfl ?_
          refine jg_9_8 (pc := 50) dX8_takesLink_50 (hM (9, 0) rfl) tw_785 ?_
          refine j_iconst (pc := 53) dX8_takesLink_53 jci_2 ?_
          obtain ⟨c12, h⟩ := jchk h
          refine j_ia (pc := 54) dX8_takesLink_54 rfl (hM (55, 0) rfl) c12 ?_
          refine j_i2l (pc := 55) dX8_takesLink_55 ?_
          refine j_lconst (pc := 56) (v := (1 : Int64)) dX8_takesLink_56 rfl ?_
          refine j_ldc2 (pc := 57) (v := (9 : Int64)) dX8_takesLink_57 tw_892 ?_
          obtain ⟨y13, hy13, h⟩ := jbnd h
          refine j_callS (pc := 60) (N := mX8_in) (As := [.long ((y7.2.2 (55, 0) (2 : Int32).toNatClampNeg).toInt64), .long (1 : Int64), .long (9 : Int64)]) (rest := []) (v := [.int y13.1]) (S1 := y13.2) dX8_takesLink_60 (kX8_in hM hy13) (by simp) (by decide) okX8_in tw_846 tw_845 rfl rfl (by simp [Value.category]) ?_
          refine j_if_eq (pc := 63) (tgt := 81) dX8_takesLink_63 (by decide) (fun c14 => ?_) (fun c14 => ?_)
          · replace h := jite_t h c14
            exact j_sub [0] rfl (lX8_takesLink_81 hM h)
          · replace h := jite_f h c14
            refine j_aload_n (pc := 66) 0 dX8_takesLink_66 rfl rfl ?_
            refine jg_9_6 (pc := 67) dX8_takesLink_67 (hM (9, 0) rfl) tw_783 ?_
            refine j_iconst (pc := 70) dX8_takesLink_70 jci_5 ?_
            obtain ⟨c15, h⟩ := jchk h
            refine j_ia (pc := 71) dX8_takesLink_71 rfl (hM (54, 0) rfl) c15 ?_
            refine j_bipush (pc := 72) dX8_takesLink_72 jcb_10 ?_
            refine j_icmp_ge (pc := 74) (tgt := 81) dX8_takesLink_74 (by decide) (fun c16 => ?_) (fun c16 => ?_)
            · replace h := jite_t h c16
              exact j_sub [0] rfl (lX8_takesLink_81 hM h)
            · replace h := jite_f h c16
              refine j_iconst (pc := 77) dX8_takesLink_77 jci_1 ?_
              refine j_goto (pc := 78) (tgt := 82) dX8_takesLink_78 (by decide) ?_
              exact j_sub [0] rfl (lX8_takesLink_82 hM h)
abbrev mX8_takesClash : jM := (yX8_takesClash, cX8_takesClash, 2, (some .boolean))
theorem okX8_takesClash : jOK mX8_takesClash 0 := ⟨by decide +kernel, tw_896, tw_84, by decide +kernel, by decide, by decide⟩
def bX8_takesClash_58  (S : jS) (t0 : Int32) : Option (Int32 × jS) :=
  (if t0 = 0 then if t0 = 0 ∨ t0 = 1 then some (t0, S) else none else if jIn (0 : Int32) 3 then if jIn (1 : Int32) 3 then (fX8_clashes (54, 0) S (S.2 (55, 0) (0 : Int32).toNatClampNeg) (S.2 (55, 0) (1 : Int32).toNatClampNeg) (1 : Int32)).bind fun y16 => if t0 = 0 ∨ t0 = 1 then some (t0, y16) else none else none else none)
set_option maxRecDepth 10000 in
set_option maxHeartbeats 4000000 in
theorem lX8_takesClash_58 {E : jE} (hM : jHM E) {S : jS} {t0 : Int32} {r : (Int32 × jS)} (h : bX8_takesClash_58  S t0 = some r) : JR E 5 mX8_takesClash 58 [(0, .ref (E.1 (9, 0)))] [.int t0] S [.int r.1] r.2 := by
  unfold bX8_takesClash_58 at h
  refine j_istore_n (pc := 58) (lv' := [(1, .int t0), (0, .ref (E.1 (9, 0)))]) dX8_takesClash_58 rfl (by decide) rfl ?_
  refine j_iload_n (pc := 59) 0 dX8_takesClash_59 rfl rfl ?_
  refine j_if_eq (pc := 60) (tgt := 83) dX8_takesClash_60 (by decide) (fun c12 => ?_) (fun c12 => ?_)
  · replace h := jite_t h c12
    refine j_iload_n (pc := 83) 0 dX8_takesClash_83 rfl rfl ?_
    obtain ⟨c13, h⟩ := jchk h
    cases h
    exact j_iret (pc := 84) dX8_takesClash_84 rfl (jnar01 c13)
  · replace h := jite_f h c12
    refine j_aload_n (pc := 63) 1 dX8_takesClash_63 rfl rfl ?_
    refine jg_9_6 (pc := 64) dX8_takesClash_64 (hM (9, 0) rfl) tw_783 ?_
    refine j_aload_n (pc := 67) 1 dX8_takesClash_67 rfl rfl ?_
    refine jg_9_8 (pc := 68) dX8_takesClash_68 (hM (9, 0) rfl) tw_785 ?_
    refine j_iconst (pc := 71) dX8_takesClash_71 jci_0 ?_
    obtain ⟨c14, h⟩ := jchk h
    refine j_ia (pc := 72) dX8_takesClash_72 rfl (hM (55, 0) rfl) c14 ?_
    refine j_aload_n (pc := 73) 1 dX8_takesClash_73 rfl rfl ?_
    refine jg_9_8 (pc := 74) dX8_takesClash_74 (hM (9, 0) rfl) tw_785 ?_
    refine j_iconst (pc := 77) dX8_takesClash_77 jci_1 ?_
    obtain ⟨c15, h⟩ := jchk h
    refine j_ia (pc := 78) dX8_takesClash_78 rfl (hM (55, 0) rfl) c15 ?_
    refine j_iconst (pc := 79) dX8_takesClash_79 jci_1 ?_
    obtain ⟨y16, hy16, h⟩ := jbnd h
    refine j_callS (pc := 80) (N := mX8_clashes) (As := [.ref (E.1 (54, 0)), .int (S.2 (55, 0) (0 : Int32).toNatClampNeg), .int (S.2 (55, 0) (1 : Int32).toNatClampNeg), .int (1 : Int32)]) (rest := []) (v := []) (S1 := y16) dX8_takesClash_80 (kX8_clashes hM ⟨rfl, (hM (54, 0) rfl)⟩ hy16) (by simp) (by decide) okX8_clashes tw_771 tw_770 rfl rfl (by simp [Value.category]) ?_
    refine j_iload_n (pc := 83) 0 dX8_takesClash_83 rfl rfl ?_
    obtain ⟨c17, h⟩ := jchk h
    cases h
    exact j_iret (pc := 84) dX8_takesClash_84 rfl (jnar01 c17)
def bX8_takesClash_57  (S : jS) : Option (Int32 × jS) :=
  bX8_takesClash_58 S (0 : Int32)
set_option maxRecDepth 10000 in
set_option maxHeartbeats 4000000 in
theorem lX8_takesClash_57 {E : jE} (hM : jHM E) {S : jS} {r : (Int32 × jS)} (h : bX8_takesClash_57  S = some r) : JR E 5 mX8_takesClash 57 [(0, .ref (E.1 (9, 0)))] [] S [.int r.1] r.2 := by
  unfold bX8_takesClash_57 at h
  refine j_iconst (pc := 57) dX8_takesClash_57 jci_0 ?_
  exact j_sub [0] rfl (lX8_takesClash_58 hM h)
def fX8_takesClash  (S : jS) : Option (Int32 × jS) :=
  (fX8_takesNumbers S (2 : Int32)).bind fun y1 => (if y1.1 = 0 then bX8_takesClash_57 (y1.2) else if jIn (0 : Int32) 3 then if jIn (5 : Int32) 815 then (if (y1.2.2 (54, 0) (5 : Int32).toNatClampNeg) ≤ (y1.2.2 (55, 0) (0 : Int32).toNatClampNeg) then bX8_takesClash_57 (y1.2) else if jIn (1 : Int32) 3 then if jIn (5 : Int32) 815 then (if (y1.2.2 (54, 0) (5 : Int32).toNatClampNeg) ≤ (y1.2.2 (55, 0) (1 : Int32).toNatClampNeg) then bX8_takesClash_57 (y1.2) else if jIn (0 : Int32) 3 then if jIn (1 : Int32) 3 then (if (y1.2.2 (55, 0) (0 : Int32).toNatClampNeg) = (y1.2.2 (55, 0) (1 : Int32).toNatClampNeg) then bX8_takesClash_57 (y1.2) else bX8_takesClash_58 (y1.2) (1 : Int32)) else none else none) else none else none) else none else none)
set_option maxRecDepth 10000 in
set_option maxHeartbeats 4000000 in
theorem kX8_takesClash {E : jE} (hM : jHM E) {S : jS} {r : (Int32 × jS)} (h : fX8_takesClash  S = some r) : jMR E 5 mX8_takesClash [.ref (E.1 (9, 0))] S [.int r.1] r.2 := by
  refine ⟨Nat.le_of_ble_eq_true rfl, ?_⟩
  show JR E 5 mX8_takesClash 0 [(0, .ref (E.1 (9, 0)))] [] S [.int r.1] r.2
  unfold fX8_takesClash at h
  refine j_aload_n (pc := 0) 0 dX8_takesClash_0 rfl rfl ?_
  refine j_iconst (pc := 1) dX8_takesClash_1 jci_2 ?_
  obtain ⟨y1, hy1, h⟩ := jbnd h
  refine j_callV (pc := 2) (N := mX8_takesNumbers) (rr := (9, 0)) (As := [.int (2 : Int32)]) (rest := []) (v := [.int y1.1]) (S1 := y1.2) dX8_takesClash_2 (kX8_takesNumbers hM hy1) (by simp) (by decide) okX8_takesNumbers tw_870 tw_28 tw_868 (hM (9, 0) rfl) rfl rfl rfl rfl (by simp [Value.category]) ?_
  refine j_if_eq (pc := 5) (tgt := 57) dX8_takesClash_5 (by decide) (fun c2 => ?_) (fun c2 => ?_)
  · replace h := jite_t h c2
    exact j_sub [0] rfl (lX8_takesClash_57 hM h)
  · replace h := jite_f h c2
    refine j_aload_n (pc := 8) 0 dX8_takesClash_8 rfl rfl ?_
    refine jg_9_8 (pc := 9) dX8_takesClash_9 (hM (9, 0) rfl) tw_785 ?_
    refine j_iconst (pc := 12) dX8_takesClash_12 jci_0 ?_
    obtain ⟨c3, h⟩ := jchk h
    refine j_ia (pc := 13) dX8_takesClash_13 rfl (hM (55, 0) rfl) c3 ?_
    refine j_aload_n (pc := 14) 0 dX8_takesClash_14 rfl rfl ?_
    refine jg_9_6 (pc := 15) dX8_takesClash_15 (hM (9, 0) rfl) tw_783 ?_
    refine j_iconst (pc := 18) dX8_takesClash_18 jci_5 ?_
    obtain ⟨c4, h⟩ := jchk h
    refine j_ia (pc := 19) dX8_takesClash_19 rfl (hM (54, 0) rfl) c4 ?_
    refine j_icmp_ge (pc := 20) (tgt := 57) dX8_takesClash_20 (by decide) (fun c5 => ?_) (fun c5 => ?_)
    · replace h := jite_t h c5
      exact j_sub [0] rfl (lX8_takesClash_57 hM h)
    · replace h := jite_f h c5
      refine j_aload_n (pc := 23) 0 dX8_takesClash_23 rfl rfl ?_
      refine jg_9_8 (pc := 24) dX8_takesClash_24 (hM (9, 0) rfl) tw_785 ?_
      refine j_iconst (pc := 27) dX8_takesClash_27 jci_1 ?_
      obtain ⟨c6, h⟩ := jchk h
      refine j_ia (pc := 28) dX8_takesClash_28 rfl (hM (55, 0) rfl) c6 ?_
      refine j_aload_n (pc := 29) 0 dX8_takesClash_29 rfl rfl ?_
      refine jg_9_6 (pc := 30) dX8_takesClash_30 (hM (9, 0) rfl) tw_783 ?_
      refine j_iconst (pc := 33) dX8_takesClash_33 jci_5 ?_
      obtain ⟨c7, h⟩ := jchk h
      refine j_ia (pc := 34) dX8_takesClash_34 rfl (hM (54, 0) rfl) c7 ?_
      refine j_icmp_ge (pc := 35) (tgt := 57) dX8_takesClash_35 (by decide) (fun c8 => ?_) (fun c8 => ?_)
      · replace h := jite_t h c8
        exact j_sub [0] rfl (lX8_takesClash_57 hM h)
      · replace h := jite_f h c8
        refine j_aload_n (pc := 38) 0 dX8_takesClash_38 rfl rfl ?_
        refine jg_9_8 (pc := 39) dX8_takesClash_39 (hM (9, 0) rfl) tw_785 ?_
        refine j_iconst (pc := 42) dX8_takesClash_42 jci_0 ?_
        obtain ⟨c9, h⟩ := jchk h
        refine j_ia (pc := 43) dX8_takesClash_43 rfl (hM (55, 0) rfl) c9 ?_
        refine j_aload_n (pc := 44) 0 dX8_takesClash_44 rfl rfl ?_
        refine jg_9_8 (pc := 45) dX8_takesClash_45 (hM (9, 0) rfl) tw_785 ?_
        refine j_iconst (pc := 48) dX8_takesClash_48 jci_1 ?_
        obtain ⟨c10, h⟩ := jchk h
        refine j_ia (pc := 49) dX8_takesClash_49 rfl (hM (55, 0) rfl) c10 ?_
        refine j_icmp_eq (pc := 50) (tgt := 57) dX8_takesClash_50 (by decide) (fun c11 => ?_) (fun c11 => ?_)
        · replace h := jite_t h c11
          exact j_sub [0] rfl (lX8_takesClash_57 hM h)
        · replace h := jite_f h c11
          refine j_iconst (pc := 53) dX8_takesClash_53 jci_1 ?_
          refine j_goto (pc := 54) (tgt := 58) dX8_takesClash_54 (by decide) ?_
          exact j_sub [0] rfl (lX8_takesClash_58 hM h)
abbrev mX8_takesFeed : jM := (yX8_takesFeed, cX8_takesFeed, 2, (some .boolean))
theorem okX8_takesFeed : jOK mX8_takesFeed 0 := ⟨by decide +kernel, tw_900, tw_84, by decide +kernel, by decide, by decide⟩
def bX8_takesFeed_52  (S : jS) (t0 : Int32) : Option (Int32 × jS) :=
  (if t0 = 0 then some ((0 : Int32), S) else if jIn (1 : Int32) 3 then if jIn ((2 : Int32) + (S.2 (55, 0) (1 : Int32).toNatClampNeg)) 815 then if jIn (0 : Int32) 3 then (if (S.2 (54, 0) ((2 : Int32) + (S.2 (55, 0) (1 : Int32).toNatClampNeg)).toNatClampNeg) = (S.2 (55, 0) (0 : Int32).toNatClampNeg) then some ((0 : Int32), S) else if jIn (0 : Int32) 3 then if jIn (1 : Int32) 3 then if jIn (2 : Int32) 3 then if jIn (((46 : Int32) + ((3 : Int32) * (S.2 (55, 0) (0 : Int32).toNatClampNeg))) + (S.2 (55, 0) (1 : Int32).toNatClampNeg)) 815 then jlet (jput S (54, 0) (upd (S.2 (54, 0)) (((46 : Int32) + ((3 : Int32) * (S.2 (55, 0) (0 : Int32).toNatClampNeg))) + (S.2 (55, 0) (1 : Int32).toNatClampNeg)).toNatClampNeg (S.2 (55, 0) (2 : Int32).toNatClampNeg))) fun S20 => some ((1 : Int32), S20) else none else none else none else none) else none else none else none)
set_option maxRecDepth 10000 in
set_option maxHeartbeats 4000000 in
theorem lX8_takesFeed_52 {E : jE} (hM : jHM E) {S : jS} {t0 : Int32} {r : (Int32 × jS)} (h : bX8_takesFeed_52  S t0 = some r) : JR E 5 mX8_takesFeed 52 [(0, .ref (E.1 (9, 0)))] [.int t0] S [.int r.1] r.2 := by
  unfold bX8_takesFeed_52 at h
  refine j_istore_n (pc := 52) (lv' := [(1, .int t0), (0, .ref (E.1 (9, 0)))]) dX8_takesFeed_52 rfl (by decide) rfl ?_
  refine j_iload_n (pc := 53) 0 dX8_takesFeed_53 rfl rfl ?_
  refine j_if_eq (pc := 54) (tgt := 79) dX8_takesFeed_54 (by decide) (fun c11 => ?_) (fun c11 => ?_)
  · replace h := jite_t h c11
    refine j_iconst (pc := 79) dX8_takesFeed_79 jci_0 ?_
    cases h
    exact j_iret (pc := 80) dX8_takesFeed_80 rfl rfl
  · replace h := jite_f h c11
    refine j_aload_n (pc := 57) 1 dX8_takesFeed_57 rfl rfl ?_
    refine jg_9_6 (pc := 58) dX8_takesFeed_58 (hM (9, 0) rfl) tw_783 ?_
    refine j_iconst (pc := 61) dX8_takesFeed_61 jci_2 ?_
    refine j_aload_n (pc := 62) 1 dX8_takesFeed_62 rfl rfl ?_
    refine jg_9_8 (pc := 63) dX8_takesFeed_63 (hM (9, 0) rfl) tw_785 ?_
    refine j_iconst (pc := 66) dX8_takesFeed_66 jci_1 ?_
    obtain ⟨c12, h⟩ := jchk h
    refine j_ia (pc := 67) dX8_takesFeed_67 rfl (hM (55, 0) rfl) c12 ?_
    refine j_iadd (pc := 68) dX8_takesFeed_68 ?_
    obtain ⟨c13, h⟩ := jchk h
    refine j_ia (pc := 69) dX8_takesFeed_69 rfl (hM (54, 0) rfl) c13 ?_
    refine j_aload_n (pc := 70) 1 dX8_takesFeed_70 rfl rfl ?_
    refine jg_9_8 (pc := 71) dX8_takesFeed_71 (hM (9, 0) rfl) tw_785 ?_
    refine j_iconst (pc := 74) dX8_takesFeed_74 jci_0 ?_
    obtain ⟨c14, h⟩ := jchk h
    refine j_ia (pc := 75) dX8_takesFeed_75 rfl (hM (55, 0) rfl) c14 ?_
    refine j_icmp_ne (pc := 76) (tgt := 81) dX8_takesFeed_76 (by decide) (fun c15 => ?_) (fun c15 => ?_)
    · replace h := jite_f h c15
      refine j_aload_n (pc := 81) 1 dX8_takesFeed_81 rfl rfl ?_
      refine jg_9_6 (pc := 82) dX8_takesFeed_82 (hM (9, 0) rfl) tw_783 ?_
      refine j_bipush (pc := 85) dX8_takesFeed_85 jcb_46 ?_
      refine j_iconst (pc := 87) dX8_takesFeed_87 jci_3 ?_
      refine j_aload_n (pc := 88) 1 dX8_takesFeed_88 rfl rfl ?_
      refine jg_9_8 (pc := 89) dX8_takesFeed_89 (hM (9, 0) rfl) tw_785 ?_
      refine j_iconst (pc := 92) dX8_takesFeed_92 jci_0 ?_
      obtain ⟨c16, h⟩ := jchk h
      refine j_ia (pc := 93) dX8_takesFeed_93 rfl (hM (55, 0) rfl) c16 ?_
      refine j_imul (pc := 94) dX8_takesFeed_94 ?_
      refine j_iadd (pc := 95) dX8_takesFeed_95 ?_
      refine j_aload_n (pc := 96) 1 dX8_takesFeed_96 rfl rfl ?_
      refine jg_9_8 (pc := 97) dX8_takesFeed_97 (hM (9, 0) rfl) tw_785 ?_
      refine j_iconst (pc := 100) dX8_takesFeed_100 jci_1 ?_
      obtain ⟨c17, h⟩ := jchk h
      refine j_ia (pc := 101) dX8_takesFeed_101 rfl (hM (55, 0) rfl) c17 ?_
      refine j_iadd (pc := 102) dX8_takesFeed_102 ?_
      refine j_aload_n (pc := 103) 1 dX8_takesFeed_103 rfl rfl ?_
      refine jg_9_8 (pc := 104) dX8_takesFeed_104 (hM (9, 0) rfl) tw_785 ?_
      refine j_iconst (pc := 107) dX8_takesFeed_107 jci_2 ?_
      obtain ⟨c18, h⟩ := jchk h
      refine j_ia (pc := 108) dX8_takesFeed_108 rfl (hM (55, 0) rfl) c18 ?_
      obtain ⟨c19, h⟩ := jchk h
      obtain ⟨S20, eS20, h⟩ := jlk h
      refine j_is (pc := 109) dX8_takesFeed_109 rfl (hM (54, 0) rfl) c19 eS20 ?_
      refine j_iconst (pc := 110) dX8_takesFeed_110 jci_1 ?_
      cases h
      exact j_iret (pc := 111) dX8_takesFeed_111 rfl rfl
    · replace h := jite_t h c15
      refine j_iconst (pc := 79) dX8_takesFeed_79 jci_0 ?_
      cases h
      exact j_iret (pc := 80) dX8_takesFeed_80 rfl rfl
def bX8_takesFeed_51  (S : jS) : Option (Int32 × jS) :=
  bX8_takesFeed_52 S (0 : Int32)
set_option maxRecDepth 10000 in
set_option maxHeartbeats 4000000 in
theorem lX8_takesFeed_51 {E : jE} (hM : jHM E) {S : jS} {r : (Int32 × jS)} (h : bX8_takesFeed_51  S = some r) : JR E 5 mX8_takesFeed 51 [(0, .ref (E.1 (9, 0)))] [] S [.int r.1] r.2 := by
  unfold bX8_takesFeed_51 at h
  refine j_iconst (pc := 51) dX8_takesFeed_51 jci_0 ?_
  exact j_sub [0] rfl (lX8_takesFeed_52 hM h)
def fX8_takesFeed  (S : jS) : Option (Int32 × jS) :=
  (fX8_takesNumbers S (3 : Int32)).bind fun y1 => (if y1.1 = 0 then bX8_takesFeed_51 (y1.2) else if jIn (0 : Int32) 3 then (fX8_isReadNode y1.2 (y1.2.2 (55, 0) (0 : Int32).toNatClampNeg)).bind fun y4 => (if y4.1 = 0 then bX8_takesFeed_51 (y4.2) else if jIn (1 : Int32) 3 then if jIn (1 : Int32) 815 then (if (y4.2.2 (54, 0) (1 : Int32).toNatClampNeg) ≤ (y4.2.2 (55, 0) (1 : Int32).toNatClampNeg) then bX8_takesFeed_51 (y4.2) else if jIn (2 : Int32) 3 then (if (10 : Int32) ≤ (y4.2.2 (55, 0) (2 : Int32).toNatClampNeg) then bX8_takesFeed_51 (y4.2) else bX8_takesFeed_52 (y4.2) (1 : Int32)) else none) else none else none) else none)
set_option maxRecDepth 10000 in
set_option maxHeartbeats 4000000 in
theorem kX8_takesFeed {E : jE} (hM : jHM E) {S : jS} {r : (Int32 × jS)} (h : fX8_takesFeed  S = some r) : jMR E 5 mX8_takesFeed [.ref (E.1 (9, 0))] S [.int r.1] r.2 := by
  refine ⟨Nat.le_of_ble_eq_true rfl, ?_⟩
  show JR E 5 mX8_takesFeed 0 [(0, .ref (E.1 (9, 0)))] [] S [.int r.1] r.2
  unfold fX8_takesFeed at h
  refine j_aload_n (pc := 0) 0 dX8_takesFeed_0 rfl rfl ?_
  refine j_iconst (pc := 1) dX8_takesFeed_1 jci_3 ?_
  obtain ⟨y1, hy1, h⟩ := jbnd h
  refine j_callV (pc := 2) (N := mX8_takesNumbers) (rr := (9, 0)) (As := [.int (3 : Int32)]) (rest := []) (v := [.int y1.1]) (S1 := y1.2) dX8_takesFeed_2 (kX8_takesNumbers hM hy1) (by simp) (by decide) okX8_takesNumbers tw_870 tw_28 tw_868 (hM (9, 0) rfl) rfl rfl rfl rfl (by simp [Value.category]) ?_
  refine j_if_eq (pc := 5) (tgt := 51) dX8_takesFeed_5 (by decide) (fun c2 => ?_) (fun c2 => ?_)
  · replace h := jite_t h c2
    exact j_sub [0] rfl (lX8_takesFeed_51 hM h)
  · replace h := jite_f h c2
    refine j_aload_n (pc := 8) 0 dX8_takesFeed_8 rfl rfl ?_
    refine j_aload_n (pc := 9) 0 dX8_takesFeed_9 rfl rfl ?_
    refine jg_9_8 (pc := 10) dX8_takesFeed_10 (hM (9, 0) rfl) tw_785 ?_
    refine j_iconst (pc := 13) dX8_takesFeed_13 jci_0 ?_
    obtain ⟨c3, h⟩ := jchk h
    refine j_ia (pc := 14) dX8_takesFeed_14 rfl (hM (55, 0) rfl) c3 ?_
    obtain ⟨y4, hy4, h⟩ := jbnd h
    refine j_callV (pc := 15) (N := mX8_isReadNode) (rr := (9, 0)) (As := [.int (y1.2.2 (55, 0) (0 : Int32).toNatClampNeg)]) (rest := []) (v := [.int y4.1]) (S1 := y4.2) dX8_takesFeed_15 (kX8_isReadNode hM hy4) (by simp) (by decide) okX8_isReadNode tw_886 tw_32 tw_884 (hM (9, 0) rfl) rfl rfl rfl rfl (by simp [Value.category]) ?_
    refine j_if_eq (pc := 18) (tgt := 51) dX8_takesFeed_18 (by decide) (fun c5 => ?_) (fun c5 => ?_)
    · replace h := jite_t h c5
      exact j_sub [0] rfl (lX8_takesFeed_51 hM h)
    · replace h := jite_f h c5
      refine j_aload_n (pc := 21) 0 dX8_takesFeed_21 rfl rfl ?_
      refine jg_9_8 (pc := 22) dX8_takesFeed_22 (hM (9, 0) rfl) tw_785 ?_
      refine j_iconst (pc := 25) dX8_takesFeed_25 jci_1 ?_
      obtain ⟨c6, h⟩ := jchk h
      refine j_ia (pc := 26) dX8_takesFeed_26 rfl (hM (55, 0) rfl) c6 ?_
      refine j_aload_n (pc := 27) 0 dX8_takesFeed_27 rfl rfl ?_
      refine jg_9_6 (pc := 28) dX8_takesFeed_28 (hM (9, 0) rfl) tw_783 ?_
      refine j_iconst (pc := 31) dX8_takesFeed_31 jci_1 ?_
      obtain ⟨c7, h⟩ := jchk h
      refine j_ia (pc := 32) dX8_takesFeed_32 rfl (hM (54, 0) rfl) c7 ?_
      refine j_icmp_ge (pc := 33) (tgt := 51) dX8_takesFeed_33 (by decide) (fun c8 => ?_) (fun c8 => ?_)
      · replace h := jite_t h c8
        exact j_sub [0] rfl (lX8_takesFeed_51 hM h)
      · replace h := jite_f h c8
        refine j_aload_n (pc := 36) 0 dX8_takesFeed_36 rfl rfl ?_
        refine jg_9_8 (pc := 37) dX8_takesFeed_37 (hM (9, 0) rfl) tw_785 ?_
        refine j_iconst (pc := 40) dX8_takesFeed_40 jci_2 ?_
        obtain ⟨c9, h⟩ := jchk h
        refine j_ia (pc := 41) dX8_takesFeed_41 rfl (hM (55, 0) rfl) c9 ?_
        refine j_bipush (pc := 42) dX8_takesFeed_42 jcb_10 ?_
        refine j_icmp_ge (pc := 44) (tgt := 51) dX8_takesFeed_44 (by decide) (fun c10 => ?_) (fun c10 => ?_)
        · replace h := jite_t h c10
          exact j_sub [0] rfl (lX8_takesFeed_51 hM h)
        · replace h := jite_f h c10
          refine j_iconst (pc := 47) dX8_takesFeed_47 jci_1 ?_
          refine j_goto (pc := 48) (tgt := 52) dX8_takesFeed_48 (by decide) ?_
          exact j_sub [0] rfl (lX8_takesFeed_52 hM h)
abbrev mX8_takesOne : jM := (yX8_takesOne, cX8_takesOne, 4, (some .boolean))
theorem okX8_takesOne : jOK mX8_takesOne 2 := ⟨by decide +kernel, tw_867, tw_84, by decide +kernel, by decide, by decide⟩
def bX8_takesOne_48  (S : jS) (x3 : Int32) (t1 : Int32) (t2 : Int32) : Option (Int32 × jS) :=
  if jIn t1 815 then jlet (jput S (54, 0) (upd (S.2 (54, 0)) t1.toNatClampNeg t2)) fun S9 => if x3 = 0 ∨ x3 = 1 then some (x3, S9) else none else none
set_option maxRecDepth 10000 in
set_option maxHeartbeats 4000000 in
theorem lX8_takesOne_48 {E : jE} (hM : jHM E) {S : jS} {x3 : Int32} {t1 : Int32} {t2 : Int32} {r : (Int32 × jS)} (h : bX8_takesOne_48  S x3 t1 t2 = some r) : JR E 5 mX8_takesOne 48 [(3, .int x3)] [.int t2, .int t1, .ref (E.1 (54, 0))] S [.int r.1] r.2 := by
  unfold bX8_takesOne_48 at h
  obtain ⟨c8, h⟩ := jchk h
  obtain ⟨S9, eS9, h⟩ := jlk h
  refine j_is (pc := 48) dX8_takesOne_48 rfl (hM (54, 0) rfl) c8 eS9 ?_
  refine j_iload_n (pc := 49) 0 dX8_takesOne_49 rfl rfl ?_
  obtain ⟨c10, h⟩ := jchk h
  cases h
  exact j_iret (pc := 50) dX8_takesOne_50 rfl (jnar01 c10)
def bX8_takesOne_23  (S : jS) (x1 : Int32) (t0 : Int32) : Option (Int32 × jS) :=
  (if t0 = 0 then if jIn x1 815 then bX8_takesOne_48 S t0 x1 (S.2 (54, 0) x1.toNatClampNeg) else none else if jIn (0 : Int32) 3 then bX8_takesOne_48 S t0 x1 (S.2 (55, 0) (0 : Int32).toNatClampNeg) else none)
set_option maxRecDepth 10000 in
set_option maxHeartbeats 4000000 in
theorem lX8_takesOne_23 {E : jE} (hM : jHM E) {S : jS} {x1 : Int32} {t0 : Int32} {r : (Int32 × jS)} (h : bX8_takesOne_23  S x1 t0 = some r) : JR E 5 mX8_takesOne 23 [(0, .ref (E.1 (9, 0))), (1, .int x1)] [.int t0] S [.int r.1] r.2 := by
  unfold bX8_takesOne_23 at h
  refine j_istore_n (pc := 23) (lv' := [(3, .int t0), (0, .ref (E.1 (9, 0))), (1, .int x1)]) dX8_takesOne_23 rfl (by decide) rfl ?_
  refine j_aload_n (pc := 24) 1 dX8_takesOne_24 rfl rfl ?_
  refine jg_9_6 (pc := 25) dX8_takesOne_25 (hM (9, 0) rfl) tw_783 ?_
  refine j_iload_n (pc := 28) 2 dX8_takesOne_28 rfl rfl ?_
  refine j_iload_n (pc := 29) 0 dX8_takesOne_29 rfl rfl ?_
  refine j_if_eq (pc := 30) (tgt := 42) dX8_takesOne_30 (by decide) (fun c5 => ?_) (fun c5 => ?_)
  · replace h := jite_t h c5
    refine j_aload_n (pc := 42) 1 dX8_takesOne_42 rfl rfl ?_
    refine jg_9_6 (pc := 43) dX8_takesOne_43 (hM (9, 0) rfl) tw_783 ?_
    refine j_iload_n (pc := 46) 2 dX8_takesOne_46 rfl rfl ?_
    obtain ⟨c6, h⟩ := jchk h
    refine j_ia (pc := 47) dX8_takesOne_47 rfl (hM (54, 0) rfl) c6 ?_
    exact j_sub [0] rfl (lX8_takesOne_48 hM h)
  · replace h := jite_f h c5
    refine j_aload_n (pc := 33) 1 dX8_takesOne_33 rfl rfl ?_
    refine jg_9_8 (pc := 34) dX8_takesOne_34 (hM (9, 0) rfl) tw_785 ?_
    refine j_iconst (pc := 37) dX8_takesOne_37 jci_0 ?_
    obtain ⟨c7, h⟩ := jchk h
    refine j_ia (pc := 38) dX8_takesOne_38 rfl (hM (55, 0) rfl) c7 ?_
    refine j_goto (pc := 39) (tgt := 48) dX8_takesOne_39 (by decide) ?_
    exact j_sub [0] rfl (lX8_takesOne_48 hM h)
def bX8_takesOne_22  (S : jS) (x1 : Int32) : Option (Int32 × jS) :=
  bX8_takesOne_23 S x1 (0 : Int32)
set_option maxRecDepth 10000 in
set_option maxHeartbeats 4000000 in
theorem lX8_takesOne_22 {E : jE} (hM : jHM E) {S : jS} {x1 : Int32} {r : (Int32 × jS)} (h : bX8_takesOne_22  S x1 = some r) : JR E 5 mX8_takesOne 22 [(0, .ref (E.1 (9, 0))), (1, .int x1)] [] S [.int r.1] r.2 := by
  unfold bX8_takesOne_22 at h
  refine j_iconst (pc := 22) dX8_takesOne_22 jci_0 ?_
  exact j_sub [0, 1] rfl (lX8_takesOne_23 hM h)
def fX8_takesOne  (S : jS) (x1 : Int32) (x2 : Int32) : Option (Int32 × jS) :=
  (fX8_takesNumbers S (1 : Int32)).bind fun y1 => (if y1.1 = 0 then bX8_takesOne_22 (y1.2) x1 else if jIn (0 : Int32) 3 then (if x2 < (y1.2.2 (55, 0) (0 : Int32).toNatClampNeg) then bX8_takesOne_22 (y1.2) x1 else bX8_takesOne_23 (y1.2) x1 (1 : Int32)) else none)
set_option maxRecDepth 10000 in
set_option maxHeartbeats 4000000 in
theorem kX8_takesOne {E : jE} (hM : jHM E) {S : jS} {x1 : Int32} {x2 : Int32} {r : (Int32 × jS)} (h : fX8_takesOne  S x1 x2 = some r) : jMR E 5 mX8_takesOne [.ref (E.1 (9, 0)), .int x1, .int x2] S [.int r.1] r.2 := by
  refine ⟨Nat.le_of_ble_eq_true rfl, ?_⟩
  show JR E 5 mX8_takesOne 0 [(0, .ref (E.1 (9, 0))), (1, .int x1), (2, .int x2)] [] S [.int r.1] r.2
  unfold fX8_takesOne at h
  refine j_aload_n (pc := 0) 0 dX8_takesOne_0 rfl rfl ?_
  refine j_iconst (pc := 1) dX8_takesOne_1 jci_1 ?_
  obtain ⟨y1, hy1, h⟩ := jbnd h
  refine j_callV (pc := 2) (N := mX8_takesNumbers) (rr := (9, 0)) (As := [.int (1 : Int32)]) (rest := []) (v := [.int y1.1]) (S1 := y1.2) dX8_takesOne_2 (kX8_takesNumbers hM hy1) (by simp) (by decide) okX8_takesNumbers tw_870 tw_28 tw_868 (hM (9, 0) rfl) rfl rfl rfl rfl (by simp [Value.category]) ?_
  refine j_if_eq (pc := 5) (tgt := 22) dX8_takesOne_5 (by decide) (fun c2 => ?_) (fun c2 => ?_)
  · replace h := jite_t h c2
    exact j_sub [0, 1] rfl (lX8_takesOne_22 hM h)
  · replace h := jite_f h c2
    refine j_aload_n (pc := 8) 0 dX8_takesOne_8 rfl rfl ?_
    refine jg_9_8 (pc := 9) dX8_takesOne_9 (hM (9, 0) rfl) tw_785 ?_
    refine j_iconst (pc := 12) dX8_takesOne_12 jci_0 ?_
    obtain ⟨c3, h⟩ := jchk h
    refine j_ia (pc := 13) dX8_takesOne_13 rfl (hM (55, 0) rfl) c3 ?_
    refine j_iload_n (pc := 14) 2 dX8_takesOne_14 rfl rfl ?_
    refine j_icmp_gt (pc := 15) (tgt := 22) dX8_takesOne_15 (by decide) (fun c4 => ?_) (fun c4 => ?_)
    · replace h := jite_t h c4
      exact j_sub [0, 1] rfl (lX8_takesOne_22 hM h)
    · replace h := jite_f h c4
      refine j_iconst (pc := 18) dX8_takesOne_18 jci_1 ?_
      refine j_goto (pc := 19) (tgt := 23) dX8_takesOne_19 (by decide) ?_
      exact j_sub [0, 1] rfl (lX8_takesOne_23 hM h)
abbrev mX8_takesItem : jM := (yX8_takesItem, cX8_takesItem, 2, (some .boolean))
theorem okX8_takesItem : jOK mX8_takesItem 0 := ⟨by decide +kernel, tw_863, tw_84, by decide +kernel, by decide, by decide⟩
def fX8_takesItem  (S : jS) : Option (Int32 × jS) :=
  if jIn (S.1 (14, 0)) 200 then jlet (S.2 (53, 0) (S.1 (14, 0)).toNatClampNeg) fun v2 => jlet (jset S (14, 0) ((S.1 (14, 0)) + (1 : Int32))) fun S3 => (if v2 = (110 : Int32) then if jIn (0 : Int32) 815 then (if (S3.2 (54, 0) (0 : Int32).toNatClampNeg) = 0 then (fX8_takesOne S3 (0 : Int32) (6 : Int32)).bind fun y27 => (if y27.1 = 0 then some ((0 : Int32), y27.2) else if jIn (0 : Int32) 815 then (if (y27.2.2 (54, 0) (0 : Int32).toNatClampNeg) ≤ (1 : Int32) then some ((0 : Int32), y27.2) else some ((1 : Int32), y27.2)) else none) else some ((0 : Int32), S3)) else none else if jIn (0 : Int32) 815 then (if (S3.2 (54, 0) (0 : Int32).toNatClampNeg) = 0 then some ((0 : Int32), S3) else (if v2 = (98 : Int32) then (fX8_takesOne S3 (64 : Int32) (9 : Int32)).bind fun y8 => if y8.1 = 0 ∨ y8.1 = 1 then some (y8.1, y8.2) else none else (if v2 = (102 : Int32) then (fX8_takesFeed S3).bind fun y11 => if y11.1 = 0 ∨ y11.1 = 1 then some (y11.1, y11.2) else none else (if v2 = (103 : Int32) then (fX8_takesGoal S3).bind fun y14 => if y14.1 = 0 ∨ y14.1 = 1 then some (y14.1, y14.2) else none else (if v2 = (108 : Int32) then (fX8_takesLink S3).bind fun y17 => if y17.1 = 0 ∨ y17.1 = 1 then some (y17.1, y17.2) else none else (if v2 = (111 : Int32) then (fX8_takesOne S3 (65 : Int32) (1 : Int32)).bind fun y20 => if y20.1 = 0 ∨ y20.1 = 1 then some (y20.1, y20.2) else none else (if v2 = (120 : Int32) then (fX8_takesClash S3).bind fun y23 => if y23.1 = 0 ∨ y23.1 = 1 then some (y23.1, y23.2) else none else some ((0 : Int32), S3)))))))) else none) else none
set_option maxRecDepth 10000 in
set_option maxHeartbeats 4000000 in
theorem kX8_takesItem {E : jE} (hM : jHM E) {S : jS} {r : (Int32 × jS)} (h : fX8_takesItem  S = some r) : jMR E 6 mX8_takesItem [.ref (E.1 (9, 0))] S [.int r.1] r.2 := by
  refine ⟨Nat.le_of_ble_eq_true rfl, ?_⟩
  show JR E 6 mX8_takesItem 0 [(0, .ref (E.1 (9, 0)))] [] S [.int r.1] r.2
  unfold fX8_takesItem at h
  refine j_aload_n (pc := 0) 0 dX8_takesItem_0 rfl rfl ?_
  refine jg_9_4 (pc := 1) dX8_takesItem_1 (hM (9, 0) rfl) tw_781 ?_
  refine j_aload_n (pc := 4) 0 dX8_takesItem_4 rfl rfl ?_
  refine jg_9_7 (pc := 5) dX8_takesItem_5 (hM (9, 0) rfl) tw_784 ?_
  obtain ⟨c1, h⟩ := jchk h
  refine j_ia (pc := 8) dX8_takesItem_8 rfl (hM (53, 0) rfl) c1 ?_
  obtain ⟨v2, ev2, h⟩ := jlk h
  refine j_topi ev2 ?_
  refine j_istore_n (pc := 9) (lv' := [(1, .int v2), (0, .ref (E.1 (9, 0)))]) dX8_takesItem_9 rfl (by decide) rfl ?_
  refine j_aload_n (pc := 10) 1 dX8_takesItem_10 rfl rfl ?_
  refine j_dup (pc := 11) dX8_takesItem_11 rfl ?_
  refine jg_9_7 (pc := 12) dX8_takesItem_12 (hM (9, 0) rfl) tw_784 ?_
  refine j_iconst (pc := 15) dX8_takesItem_15 jci_1 ?_
  refine j_iadd (pc := 16) dX8_takesItem_16 ?_
  obtain ⟨S3, eS3, h⟩ := jlk h
  refine jp_14 (pc := 17) dX8_takesItem_17 (hM (9, 0) rfl) tw_784 eS3 ?_
  refine j_iload_n (pc := 20) 0 dX8_takesItem_20 rfl rfl ?_
  refine j_bipush (pc := 21) dX8_takesItem_21 jcb_110 ?_
  refine j_icmp_ne (pc := 23) (tgt := 61) dX8_takesItem_23 (by decide) (fun c4 => ?_) (fun c4 => ?_)
  · replace h := jite_f h c4
    refine j_aload_n (pc := 61) 1 dX8_takesItem_61 rfl rfl ?_
    refine jg_9_6 (pc := 62) dX8_takesItem_62 (hM (9, 0) rfl) tw_783 ?_
    refine j_iconst (pc := 65) dX8_takesItem_65 jci_0 ?_
    obtain ⟨c5, h⟩ := jchk h
    refine j_ia (pc := 66) dX8_takesItem_66 rfl (hM (54, 0) rfl) c5 ?_
    refine j_if_ne (pc := 67) (tgt := 72) dX8_takesItem_67 (by decide) (fun c6 => ?_) (fun c6 => ?_)
    · replace h := jite_f h c6
      refine j_iload_n (pc := 72) 0 dX8_takesItem_72 rfl rfl ?_
      by_cases c7 : v2 = (98 : Int32)
      · replace h := jite_t h c7
        refine j_lookup (pc := 73) (tgt := 152) (off := 79) dX8_takesItem_73 (by decide) (by rw [c7]; decide) (by decide) ?_
        refine j_aload_n (pc := 152) 1 dX8_takesItem_152 rfl rfl ?_
        refine j_bipush (pc := 153) dX8_takesItem_153 jcb_64 ?_
        refine j_bipush (pc := 155) dX8_takesItem_155 jcb_9 ?_
        obtain ⟨y8, hy8, h⟩ := jbnd h
        refine j_callV (pc := 157) (N := mX8_takesOne) (rr := (9, 0)) (As := [.int (64 : Int32), .int (9 : Int32)]) (rest := []) (v := [.int y8.1]) (S1 := y8.2) dX8_takesItem_157 (kX8_takesOne hM hy8) (by simp) (by decide) okX8_takesOne tw_866 tw_27 tw_864 (hM (9, 0) rfl) rfl rfl rfl rfl (by simp [Value.category]) ?_
        obtain ⟨c9, h⟩ := jchk h
        cases h
        exact j_iret (pc := 160) dX8_takesItem_160 rfl (jnar01 c9)
      replace h := jite_f h c7
      by_cases c10 : v2 = (102 : Int32)
      · replace h := jite_t h c10
        refine j_lookup (pc := 73) (tgt := 147) (off := 74) dX8_takesItem_73 (by decide) (by rw [c10]; decide) (by decide) ?_
        refine j_aload_n (pc := 147) 1 dX8_takesItem_147 rfl rfl ?_
        obtain ⟨y11, hy11, h⟩ := jbnd h
        refine j_callV (pc := 148) (N := mX8_takesFeed) (rr := (9, 0)) (As := []) (rest := []) (v := [.int y11.1]) (S1 := y11.2) dX8_takesItem_148 (kX8_takesFeed hM hy11) (by simp) (by decide) okX8_takesFeed tw_899 tw_35 tw_897 (hM (9, 0) rfl) rfl rfl rfl rfl (by simp [Value.category]) ?_
        obtain ⟨c12, h⟩ := jchk h
        cases h
        exact j_iret (pc := 151) dX8_takesItem_151 rfl (jnar01 c12)
      replace h := jite_f h c10
      by_cases c13 : v2 = (103 : Int32)
      · replace h := jite_t h c13
        refine j_lookup (pc := 73) (tgt := 132) (off := 59) dX8_takesItem_73 (by decide) (by rw [c13]; decide) (by decide) ?_
        refine j_aload_n (pc := 132) 1 dX8_takesItem_132 rfl rfl ?_
        obtain ⟨y14, hy14, h⟩ := jbnd h
        refine j_callV (pc := 133) (N := mX8_takesGoal) (rr := (9, 0)) (As := []) (rest := []) (v := [.int y14.1]) (S1 := y14.2) dX8_takesItem_133 (kX8_takesGoal hM hy14) (by simp) (by decide) okX8_takesGoal tw_882 tw_31 tw_880 (hM (9, 0) rfl) rfl rfl rfl rfl (by simp [Value.category]) ?_
        obtain ⟨c15, h⟩ := jchk h
        cases h
        exact j_iret (pc := 136) dX8_takesItem_136 rfl (jnar01 c15)
      replace h := jite_f h c13
      by_cases c16 : v2 = (108 : Int32)
      · replace h := jite_t h c16
        refine j_lookup (pc := 73) (tgt := 137) (off := 64) dX8_takesItem_73 (by decide) (by rw [c16]; decide) (by decide) ?_
        refine j_aload_n (pc := 137) 1 dX8_takesItem_137 rfl rfl ?_
        obtain ⟨y17, hy17, h⟩ := jbnd h
        refine j_callV (pc := 138) (N := mX8_takesLink) (rr := (9, 0)) (As := []) (rest := []) (v := [.int y17.1]) (S1 := y17.2) dX8_takesItem_138 (kX8_takesLink hM hy17) (by simp) (by decide) okX8_takesLink tw_890 tw_33 tw_888 (hM (9, 0) rfl) rfl rfl rfl rfl (by simp [Value.category]) ?_
        obtain ⟨c18, h⟩ := jchk h
        cases h
        exact j_iret (pc := 141) dX8_takesItem_141 rfl (jnar01 c18)
      replace h := jite_f h c16
      by_cases c19 : v2 = (111 : Int32)
      · replace h := jite_t h c19
        refine j_lookup (pc := 73) (tgt := 161) (off := 88) dX8_takesItem_73 (by decide) (by rw [c19]; decide) (by decide) ?_
        refine j_aload_n (pc := 161) 1 dX8_takesItem_161 rfl rfl ?_
        refine j_bipush (pc := 162) dX8_takesItem_162 jcb_65 ?_
        refine j_iconst (pc := 164) dX8_takesItem_164 jci_1 ?_
        obtain ⟨y20, hy20, h⟩ := jbnd h
        refine j_callV (pc := 165) (N := mX8_takesOne) (rr := (9, 0)) (As := [.int (65 : Int32), .int (1 : Int32)]) (rest := []) (v := [.int y20.1]) (S1 := y20.2) dX8_takesItem_165 (kX8_takesOne hM hy20) (by simp) (by decide) okX8_takesOne tw_866 tw_27 tw_864 (hM (9, 0) rfl) rfl rfl rfl rfl (by simp [Value.category]) ?_
        obtain ⟨c21, h⟩ := jchk h
        cases h
        exact j_iret (pc := 168) dX8_takesItem_168 rfl (jnar01 c21)
      replace h := jite_f h c19
      by_cases c22 : v2 = (120 : Int32)
      · replace h := jite_t h c22
        refine j_lookup (pc := 73) (tgt := 142) (off := 69) dX8_takesItem_73 (by decide) (by rw [c22]; decide) (by decide) ?_
        refine j_aload_n (pc := 142) 1 dX8_takesItem_142 rfl rfl ?_
        obtain ⟨y23, hy23, h⟩ := jbnd h
        refine j_callV (pc := 143) (N := mX8_takesClash) (rr := (9, 0)) (As := []) (rest := []) (v := [.int y23.1]) (S1 := y23.2) dX8_takesItem_143 (kX8_takesClash hM hy23) (by simp) (by decide) okX8_takesClash tw_895 tw_34 tw_893 (hM (9, 0) rfl) rfl rfl rfl rfl (by simp [Value.category]) ?_
        obtain ⟨c24, h⟩ := jchk h
        cases h
        exact j_iret (pc := 146) dX8_takesItem_146 rfl (jnar01 c24)
      replace h := jite_f h c22
      have nc7 := jti c7 (z := 98) (by decide)
      have nc10 := jti c10 (z := 102) (by decide)
      have nc13 := jti c13 (z := 103) (by decide)
      have nc16 := jti c16 (z := 108) (by decide)
      have nc19 := jti c19 (z := 111) (by decide)
      have nc22 := jti c22 (z := 120) (by decide)
      refine j_lookup (pc := 73) (tgt := 169) (off := 96) dX8_takesItem_73 (by decide) (by simp only [lookupswitch.offset_cons, lookupswitch.offset_nil]; rw [if_neg (Ne.symm nc7)]; rw [if_neg (Ne.symm nc10)]; rw [if_neg (Ne.symm nc13)]; rw [if_neg (Ne.symm nc16)]; rw [if_neg (Ne.symm nc19)]; rw [if_neg (Ne.symm nc22)]) (by decide) ?_
      refine j_iconst (pc := 169) dX8_takesItem_169 jci_0 ?_
      cases h
      exact j_iret (pc := 170) dX8_takesItem_170 rfl rfl
    · replace h := jite_t h c6
      refine j_iconst (pc := 70) dX8_takesItem_70 jci_0 ?_
      cases h
      exact j_iret (pc := 71) dX8_takesItem_71 rfl rfl
  · replace h := jite_t h c4
    refine j_aload_n (pc := 26) 1 dX8_takesItem_26 rfl rfl ?_
    refine jg_9_6 (pc := 27) dX8_takesItem_27 (hM (9, 0) rfl) tw_783 ?_
    refine j_iconst (pc := 30) dX8_takesItem_30 jci_0 ?_
    obtain ⟨c25, h⟩ := jchk h
    refine j_ia (pc := 31) dX8_takesItem_31 rfl (hM (54, 0) rfl) c25 ?_
    refine j_if_ne (pc := 32) (tgt := 59) dX8_takesItem_32 (by decide) (fun c26 => ?_) (fun c26 => ?_)
    · replace h := jite_f h c26
      refine j_iconst (pc := 59) dX8_takesItem_59 jci_0 ?_
      cases h
      exact j_iret (pc := 60) dX8_takesItem_60 rfl rfl
    · replace h := jite_t h c26
      refine j_aload_n (pc := 35) 1 dX8_takesItem_35 rfl rfl ?_
      refine j_iconst (pc := 36) dX8_takesItem_36 jci_0 ?_
      refine j_bipush (pc := 37) dX8_takesItem_37 jcb_6 ?_
      obtain ⟨y27, hy27, h⟩ := jbnd h
      refine j_callV (pc := 39) (N := mX8_takesOne) (rr := (9, 0)) (As := [.int (0 : Int32), .int (6 : Int32)]) (rest := []) (v := [.int y27.1]) (S1 := y27.2) dX8_takesItem_39 (kX8_takesOne hM hy27) (by simp) (by decide) okX8_takesOne tw_866 tw_27 tw_864 (hM (9, 0) rfl) rfl rfl rfl rfl (by simp [Value.category]) ?_
      refine j_if_eq (pc := 42) (tgt := 59) dX8_takesItem_42 (by decide) (fun c28 => ?_) (fun c28 => ?_)
      · replace h := jite_t h c28
        refine j_iconst (pc := 59) dX8_takesItem_59 jci_0 ?_
        cases h
        exact j_iret (pc := 60) dX8_takesItem_60 rfl rfl
      · replace h := jite_f h c28
        refine j_aload_n (pc := 45) 1 dX8_takesItem_45 rfl rfl ?_
        refine jg_9_6 (pc := 46) dX8_takesItem_46 (hM (9, 0) rfl) tw_783 ?_
        refine j_iconst (pc := 49) dX8_takesItem_49 jci_0 ?_
        obtain ⟨c29, h⟩ := jchk h
        refine j_ia (pc := 50) dX8_takesItem_50 rfl (hM (54, 0) rfl) c29 ?_
        refine j_iconst (pc := 51) dX8_takesItem_51 jci_1 ?_
        refine j_icmp_le (pc := 52) (tgt := 59) dX8_takesItem_52 (by decide) (fun c30 => ?_) (fun c30 => ?_)
        · replace h := jite_t h c30
          refine j_iconst (pc := 59) dX8_takesItem_59 jci_0 ?_
          cases h
          exact j_iret (pc := 60) dX8_takesItem_60 rfl rfl
        · replace h := jite_f h c30
          refine j_iconst (pc := 55) dX8_takesItem_55 jci_1 ?_
          refine j_goto (pc := 56) (tgt := 60) dX8_takesItem_56 (by decide) ?_
          cases h
          exact j_iret (pc := 60) dX8_takesItem_60 rfl rfl
abbrev mX8_reads : jM := (yX8_reads, cX8_reads, 2, (some .int))
theorem okX8_reads : jOK mX8_reads 0 := ⟨by decide +kernel, tw_859, tw_84, by decide +kernel, by decide, by decide⟩
def bX8_reads_9  (q9 : jS → Option (Int32 × jS)) (S : jS) : Option (Int32 × jS) :=
  (if (S.1 (13, 0)) ≤ (S.1 (14, 0)) then some ((-4 : Int32), S) else jlet (S.1 (14, 0)) fun v4 => (fX8_takesItem S).bind fun y5 => (if y5.1 = 0 then some (v4, y5.2) else q9 (y5.2)))
set_option maxRecDepth 10000 in
set_option maxHeartbeats 4000000 in
theorem lX8_reads_9 {E : jE} (hM : jHM E) {q9 : jS → Option (Int32 × jS)} (H9 : ∀ {S : jS} {r : (Int32 × jS)}, q9 S = some r → JR E 7 mX8_reads 9 [(0, .ref (E.1 (9, 0)))] [] S [.int r.1] r.2) {S : jS} {r : (Int32 × jS)} (h : bX8_reads_9  q9 S = some r) : JR E 7 mX8_reads 9 [(0, .ref (E.1 (9, 0)))] [] S [.int r.1] r.2 := by
  unfold bX8_reads_9 at h
  refine j_aload_n (pc := 9) 0 dX8_reads_9 rfl rfl ?_
  refine jg_9_7 (pc := 10) dX8_reads_10 (hM (9, 0) rfl) tw_784 ?_
  refine j_aload_n (pc := 13) 0 dX8_reads_13 rfl rfl ?_
  refine jg_9_5 (pc := 14) dX8_reads_14 (hM (9, 0) rfl) tw_782 ?_
  refine j_icmp_ge (pc := 17) (tgt := 37) dX8_reads_17 (by decide) (fun c3 => ?_) (fun c3 => ?_)
  · replace h := jite_t h c3
    refine j_bipush (pc := 37) dX8_reads_37 jcb_m4 ?_
    cases h
    exact j_iret (pc := 39) dX8_reads_39 rfl rfl
  · replace h := jite_f h c3
    refine j_aload_n (pc := 20) 0 dX8_reads_20 rfl rfl ?_
    refine jg_9_7 (pc := 21) dX8_reads_21 (hM (9, 0) rfl) tw_784 ?_
    obtain ⟨v4, ev4, h⟩ := jlk h
    refine j_topi ev4 ?_
    refine j_istore_n (pc := 24) (lv' := [(1, .int v4), (0, .ref (E.1 (9, 0)))]) dX8_reads_24 rfl (by decide) rfl ?_
    refine j_aload_n (pc := 25) 1 dX8_reads_25 rfl rfl ?_
    obtain ⟨y5, hy5, h⟩ := jbnd h
    refine j_callV (pc := 26) (N := mX8_takesItem) (rr := (9, 0)) (As := []) (rest := []) (v := [.int y5.1]) (S1 := y5.2) dX8_reads_26 (kX8_takesItem hM hy5) (by simp) (by decide) okX8_takesItem tw_862 tw_26 tw_860 (hM (9, 0) rfl) rfl rfl rfl rfl (by simp [Value.category]) ?_
    refine j_if_ne (pc := 29) (tgt := 34) dX8_reads_29 (by decide) (fun c6 => ?_) (fun c6 => ?_)
    · replace h := jite_f h c6
      refine j_goto (pc := 34) (tgt := 9) dX8_reads_34 (by decide) ?_
      exact j_sub [1] rfl (H9 h)
    · replace h := jite_t h c6
      refine j_iload_n (pc := 32) 0 dX8_reads_32 rfl rfl ?_
      cases h
      exact j_iret (pc := 33) dX8_reads_33 rfl rfl
def fX8_reads_9  : Nat → jS → Option (Int32 × jS)
  | 0 => fun _ => none
  | n + 1 => bX8_reads_9  (fX8_reads_9  n)
theorem kX8_reads_9 {E : jE} (hM : jHM E) (fu : Nat) : ∀ {S : jS} {r : (Int32 × jS)}, fX8_reads_9  fu S = some r → JR E 7 mX8_reads 9 [(0, .ref (E.1 (9, 0)))] [] S [.int r.1] r.2 := by
  induction fu with
  | zero => intro S r h; cases h
  | succ n_ ih => intro S r h; exact lX8_reads_9 hM ih h
def fX8_reads  (S : jS) : Option (Int32 × jS) :=
  (fX8_begins S).bind fun y1 => jlet (jset y1 (14, 0) (0 : Int32)) fun S2 => fX8_reads_9 5000 S2
set_option maxRecDepth 10000 in
set_option maxHeartbeats 4000000 in
theorem kX8_reads {E : jE} (hM : jHM E) {S : jS} {r : (Int32 × jS)} (h : fX8_reads  S = some r) : jMR E 7 mX8_reads [.ref (E.1 (9, 0))] S [.int r.1] r.2 := by
  refine ⟨Nat.le_of_ble_eq_true rfl, ?_⟩
  show JR E 7 mX8_reads 0 [(0, .ref (E.1 (9, 0)))] [] S [.int r.1] r.2
  unfold fX8_reads at h
  refine j_aload_n (pc := 0) 0 dX8_reads_0 rfl rfl ?_
  obtain ⟨y1, hy1, h⟩ := jbnd h
  refine j_callV (pc := 1) (N := mX8_begins) (rr := (9, 0)) (As := []) (rest := []) (v := []) (S1 := y1) dX8_reads_1 (kX8_begins hM hy1) (by simp) (by decide) okX8_begins tw_764 tw_22 tw_762 (hM (9, 0) rfl) rfl rfl rfl rfl (by simp [Value.category]) ?_
  refine j_aload_n (pc := 4) 0 dX8_reads_4 rfl rfl ?_
  refine j_iconst (pc := 5) dX8_reads_5 jci_0 ?_
  obtain ⟨S2, eS2, h⟩ := jlk h
  refine jp_14 (pc := 6) dX8_reads_6 (hM (9, 0) rfl) tw_784 eS2 ?_
  exact j_sub [0] rfl (kX8_reads_9 hM 5000 h)
abbrev mX8_write : jM := (yX8_write, cX8_write, 2, (some .int))
theorem okX8_write : jOK mX8_write 1 := ⟨by decide +kernel, tw_842, tw_84, by decide +kernel, by decide, by decide⟩
def fX8_write  (S : jS) (x1 : Int32) : Option (Int32 × jS) :=
  (fX8_in S (x1.toInt64) (32 : Int64) (126 : Int64)).bind fun y1 => (if y1.1 = 0 then some ((-1 : Int32), y1.2) else (if (y1.2.1 (13, 0)) = (200 : Int32) then some ((-3 : Int32), y1.2) else if jIn (y1.2.1 (13, 0)) 200 then jlet (jput y1.2 (53, 0) (upd (y1.2.2 (53, 0)) (y1.2.1 (13, 0)).toNatClampNeg x1)) fun S5 => jlet (jset S5 (13, 0) ((S5.1 (13, 0)) + (1 : Int32))) fun S6 => some (S6.1 (13, 0), S6) else none))
set_option maxRecDepth 10000 in
set_option maxHeartbeats 4000000 in
theorem kX8_write {E : jE} (hM : jHM E) {S : jS} {x1 : Int32} {r : (Int32 × jS)} (h : fX8_write  S x1 = some r) : jMR E 2 mX8_write [.ref (E.1 (9, 0)), .int x1] S [.int r.1] r.2 := by
  refine ⟨Nat.le_of_ble_eq_true rfl, ?_⟩
  show JR E 2 mX8_write 0 [(0, .ref (E.1 (9, 0))), (1, .int x1)] [] S [.int r.1] r.2
  unfold fX8_write at h
  refine j_iload_n (pc := 0) 1 dX8_write_0 rfl rfl ?_
  refine j_i2l (pc := 1) dX8_write_1 ?_
  refine j_ldc2 (pc := 2) (v := (32 : Int64)) dX8_write_2 tw_843 ?_
  refine j_ldc2 (pc := 5) (v := (126 : Int64)) dX8_write_5 tw_844 ?_
  obtain ⟨y1, hy1, h⟩ := jbnd h
  refine j_callS (pc := 8) (N := mX8_in) (As := [.long (x1.toInt64), .long (32 : Int64), .long (126 : Int64)]) (rest := []) (v := [.int y1.1]) (S1 := y1.2) dX8_write_8 (kX8_in hM hy1) (by simp) (by decide) okX8_in tw_846 tw_845 rfl rfl (by simp [Value.category]) ?_
  refine j_if_ne (pc := 11) (tgt := 16) dX8_write_11 (by decide) (fun c2 => ?_) (fun c2 => ?_)
  · replace h := jite_f h c2
    refine j_aload_n (pc := 16) 0 dX8_write_16 rfl rfl ?_
    refine jg_9_5 (pc := 17) dX8_write_17 (hM (9, 0) rfl) tw_782 ?_
    refine j_sipush (pc := 20) dX8_write_20 jcs_200 ?_
    refine j_icmp_ne (pc := 23) (tgt := 29) dX8_write_23 (by decide) (fun c3 => ?_) (fun c3 => ?_)
    · replace h := jite_f h c3
      refine j_aload_n (pc := 29) 0 dX8_write_29 rfl rfl ?_
      refine jg_9_4 (pc := 30) dX8_write_30 (hM (9, 0) rfl) tw_781 ?_
      refine j_aload_n (pc := 33) 0 dX8_write_33 rfl rfl ?_
      refine jg_9_5 (pc := 34) dX8_write_34 (hM (9, 0) rfl) tw_782 ?_
      refine j_iload_n (pc := 37) 1 dX8_write_37 rfl rfl ?_
      obtain ⟨c4, h⟩ := jchk h
      obtain ⟨S5, eS5, h⟩ := jlk h
      refine j_is (pc := 38) dX8_write_38 rfl (hM (53, 0) rfl) c4 eS5 ?_
      refine j_aload_n (pc := 39) 0 dX8_write_39 rfl rfl ?_
      refine j_dup (pc := 40) dX8_write_40 rfl ?_
      refine jg_9_5 (pc := 41) dX8_write_41 (hM (9, 0) rfl) tw_782 ?_
      refine j_iconst (pc := 44) dX8_write_44 jci_1 ?_
      refine j_iadd (pc := 45) dX8_write_45 ?_
      obtain ⟨S6, eS6, h⟩ := jlk h
      refine jp_13 (pc := 46) dX8_write_46 (hM (9, 0) rfl) tw_782 eS6 ?_
      refine j_aload_n (pc := 49) 0 dX8_write_49 rfl rfl ?_
      refine jg_9_5 (pc := 50) dX8_write_50 (hM (9, 0) rfl) tw_782 ?_
      cases h
      exact j_iret (pc := 53) dX8_write_53 rfl rfl
    · replace h := jite_t h c3
      refine j_bipush (pc := 26) dX8_write_26 jcb_m3 ?_
      cases h
      exact j_iret (pc := 28) dX8_write_28 rfl rfl
  · replace h := jite_t h c2
    refine j_iconst (pc := 14) dX8_write_14 jci_m1 ?_
    cases h
    exact j_iret (pc := 15) dX8_write_15 rfl rfl
abbrev mX8_wipe : jM := (yX8_wipe, cX8_wipe, 2, (some .int))
theorem okX8_wipe : jOK mX8_wipe 0 := ⟨by decide +kernel, tw_851, tw_84, by decide +kernel, by decide, by decide⟩
def fX8_wipe  (S : jS) : Option (Int32 × jS) :=
  jlet (S.1 (13, 0)) fun v1 => jlet (jset S (13, 0) (0 : Int32)) fun S2 => some (v1, S2)
set_option maxRecDepth 10000 in
set_option maxHeartbeats 4000000 in
theorem kX8_wipe {E : jE} (hM : jHM E) {S : jS} {r : (Int32 × jS)} (h : fX8_wipe  S = some r) : jMR E 1 mX8_wipe [.ref (E.1 (9, 0))] S [.int r.1] r.2 := by
  refine ⟨Nat.le_of_ble_eq_true rfl, ?_⟩
  show JR E 1 mX8_wipe 0 [(0, .ref (E.1 (9, 0)))] [] S [.int r.1] r.2
  unfold fX8_wipe at h
  refine j_aload_n (pc := 0) 0 dX8_wipe_0 rfl rfl ?_
  refine jg_9_5 (pc := 1) dX8_wipe_1 (hM (9, 0) rfl) tw_782 ?_
  obtain ⟨v1, ev1, h⟩ := jlk h
  refine j_topi ev1 ?_
  refine j_istore_n (pc := 4) (lv' := [(1, .int v1), (0, .ref (E.1 (9, 0)))]) dX8_wipe_4 rfl (by decide) rfl ?_
  refine j_aload_n (pc := 5) 1 dX8_wipe_5 rfl rfl ?_
  refine j_iconst (pc := 6) dX8_wipe_6 jci_0 ?_
  obtain ⟨S2, eS2, h⟩ := jlk h
  refine jp_13 (pc := 7) dX8_wipe_7 (hM (9, 0) rfl) tw_782 eS2 ?_
  refine j_iload_n (pc := 10) 0 dX8_wipe_10 rfl rfl ?_
  cases h
  exact j_iret (pc := 11) dX8_wipe_11 rfl rfl
abbrev mX8_fault : jM := (yX8_fault, cX8_fault, 1, (some .int))
theorem okX8_fault : jOK mX8_fault 0 := ⟨by decide +kernel, tw_855, tw_84, by decide +kernel, by decide, by decide⟩
def fX8_fault  (S : jS) : Option (Int32 × jS) :=
  (fX8_reads S).bind fun y1 => some (y1.1, y1.2)
set_option maxRecDepth 10000 in
set_option maxHeartbeats 4000000 in
theorem kX8_fault {E : jE} (hM : jHM E) {S : jS} {r : (Int32 × jS)} (h : fX8_fault  S = some r) : jMR E 8 mX8_fault [.ref (E.1 (9, 0))] S [.int r.1] r.2 := by
  refine ⟨Nat.le_of_ble_eq_true rfl, ?_⟩
  show JR E 8 mX8_fault 0 [(0, .ref (E.1 (9, 0)))] [] S [.int r.1] r.2
  unfold fX8_fault at h
  refine j_aload_n (pc := 0) 0 dX8_fault_0 rfl rfl ?_
  obtain ⟨y1, hy1, h⟩ := jbnd h
  refine j_callV (pc := 1) (N := mX8_reads) (rr := (9, 0)) (As := []) (rest := []) (v := [.int y1.1]) (S1 := y1.2) dX8_fault_1 (kX8_reads hM hy1) (by simp) (by decide) okX8_reads tw_858 tw_25 tw_856 (hM (9, 0) rfl) rfl rfl rfl rfl (by simp [Value.category]) ?_
  cases h
  exact j_iret (pc := 4) dX8_fault_4 rfl rfl
abbrev mX8_lay : jM := (yX8_lay, cX8_lay, 1, (some .int))
theorem okX8_lay : jOK mX8_lay 0 := ⟨by decide +kernel, tw_904, tw_84, by decide +kernel, by decide, by decide⟩
def fX8_lay  (S : jS) : Option (Int32 × jS) :=
  (fX8_reads S).bind fun y1 => (if y1.1 = (-4 : Int32) then if jIn (1 : Int32) 815 then (if (y1.2.2 (54, 0) (1 : Int32).toNatClampNeg) = 0 then some ((-2 : Int32), y1.2) else (fX8_takes y1.2).bind fun y5 => if jIn (0 : Int32) 815 then some (y5.2 (50, 0) (0 : Int32).toNatClampNeg, y5) else none) else none else some ((-2 : Int32), y1.2))
set_option maxRecDepth 10000 in
set_option maxHeartbeats 4000000 in
theorem kX8_lay {E : jE} (hM : jHM E) {S : jS} {r : (Int32 × jS)} (h : fX8_lay  S = some r) : jMR E 8 mX8_lay [.ref (E.1 (9, 0))] S [.int r.1] r.2 := by
  refine ⟨Nat.le_of_ble_eq_true rfl, ?_⟩
  show JR E 8 mX8_lay 0 [(0, .ref (E.1 (9, 0)))] [] S [.int r.1] r.2
  unfold fX8_lay at h
  refine j_aload_n (pc := 0) 0 dX8_lay_0 rfl rfl ?_
  obtain ⟨y1, hy1, h⟩ := jbnd h
  refine j_callV (pc := 1) (N := mX8_reads) (rr := (9, 0)) (As := []) (rest := []) (v := [.int y1.1]) (S1 := y1.2) dX8_lay_1 (kX8_reads hM hy1) (by simp) (by decide) okX8_reads tw_858 tw_25 tw_856 (hM (9, 0) rfl) rfl rfl rfl rfl (by simp [Value.category]) ?_
  refine j_bipush (pc := 4) dX8_lay_4 jcb_m4 ?_
  refine j_icmp_ne (pc := 6) (tgt := 18) dX8_lay_6 (by decide) (fun c2 => ?_) (fun c2 => ?_)
  · replace h := jite_f h c2
    refine j_bipush (pc := 18) dX8_lay_18 jcb_m2 ?_
    cases h
    exact j_iret (pc := 20) dX8_lay_20 rfl rfl
  · replace h := jite_t h c2
    refine j_aload_n (pc := 9) 0 dX8_lay_9 rfl rfl ?_
    refine jg_9_6 (pc := 10) dX8_lay_10 (hM (9, 0) rfl) tw_783 ?_
    refine j_iconst (pc := 13) dX8_lay_13 jci_1 ?_
    obtain ⟨c3, h⟩ := jchk h
    refine j_ia (pc := 14) dX8_lay_14 rfl (hM (54, 0) rfl) c3 ?_
    refine j_if_ne (pc := 15) (tgt := 21) dX8_lay_15 (by decide) (fun c4 => ?_) (fun c4 => ?_)
    · replace h := jite_f h c4
      refine j_aload_n (pc := 21) 0 dX8_lay_21 rfl rfl ?_
      obtain ⟨y5, hy5, h⟩ := jbnd h
      refine j_callV (pc := 22) (N := mX8_takes) (rr := (9, 0)) (As := []) (rest := []) (v := []) (S1 := y5) dX8_lay_22 (kX8_takes hM hy5) (by simp) (by decide) okX8_takes tw_775 tw_24 tw_773 (hM (9, 0) rfl) rfl rfl rfl rfl (by simp [Value.category]) ?_
      refine j_aload_n (pc := 25) 0 dX8_lay_25 rfl rfl ?_
      refine jg_9_0 (pc := 26) dX8_lay_26 (hM (9, 0) rfl) tw_777 ?_
      refine j_iconst (pc := 29) dX8_lay_29 jci_0 ?_
      obtain ⟨c6, h⟩ := jchk h
      refine j_ia (pc := 30) dX8_lay_30 rfl (hM (50, 0) rfl) c6 ?_
      cases h
      exact j_iret (pc := 31) dX8_lay_31 rfl rfl
    · replace h := jite_t h c4
      refine j_bipush (pc := 18) dX8_lay_18 jcb_m2 ?_
      cases h
      exact j_iret (pc := 20) dX8_lay_20 rfl rfl
abbrev mX8_keeps : jM := (yX8_keeps, cX8_keeps, 2, none)
theorem okX8_keeps : jOK mX8_keeps 0 := ⟨by decide +kernel, tw_932, tw_84, by decide +kernel, by decide, by decide⟩
def bX8_keeps_51  (q51 : jS → Int32 → Option jS) (S : jS) (x1 : Int32) : Option jS :=
  (if (815 : Int32) ≤ x1 then jlet (jset S (12, 0) ((S.1 (12, 0)) + (1 : Int32))) fun S9 => some S9 else if jIn x1 815 then if jIn (((815 : Int32) * (S.1 (12, 0))) + x1) 3260 then jlet (jput S (52, 0) (upd (S.2 (52, 0)) (((815 : Int32) * (S.1 (12, 0))) + x1).toNatClampNeg (S.2 (50, 0) x1.toNatClampNeg))) fun S12 => jlet (x1 + (1 : Int32)) fun v13 => q51 S12 v13 else none else none)
set_option maxRecDepth 10000 in
set_option maxHeartbeats 4000000 in
theorem lX8_keeps_51 {E : jE} (hM : jHM E) {q51 : jS → Int32 → Option jS} (H51 : ∀ {S : jS} {x1 : Int32} {r : jS}, q51 S x1 = some r → JR E 1 mX8_keeps 51 [(0, .ref (E.1 (9, 0))), (1, .int x1)] [] S [] r) {S : jS} {x1 : Int32} {r : jS} (h : bX8_keeps_51  q51 S x1 = some r) : JR E 1 mX8_keeps 51 [(0, .ref (E.1 (9, 0))), (1, .int x1)] [] S [] r := by
  unfold bX8_keeps_51 at h
  refine j_iload_n (pc := 51) 1 dX8_keeps_51 rfl rfl ?_
  refine j_sipush (pc := 52) dX8_keeps_52 jcs_815 ?_
  refine j_icmp_ge (pc := 55) (tgt := 85) dX8_keeps_55 (by decide) (fun c8 => ?_) (fun c8 => ?_)
  · replace h := jite_t h c8
    refine j_aload_n (pc := 85) 0 dX8_keeps_85 rfl rfl ?_
    refine j_dup (pc := 86) dX8_keeps_86 rfl ?_
    refine jg_9_3 (pc := 87) dX8_keeps_87 (hM (9, 0) rfl) tw_780 ?_
    refine j_iconst (pc := 90) dX8_keeps_90 jci_1 ?_
    refine j_iadd (pc := 91) dX8_keeps_91 ?_
    obtain ⟨S9, eS9, h⟩ := jlk h
    refine jp_12 (pc := 92) dX8_keeps_92 (hM (9, 0) rfl) tw_780 eS9 ?_
    cases h
    exact j_vret (pc := 95) dX8_keeps_95 rfl
  · replace h := jite_f h c8
    refine j_aload_n (pc := 58) 0 dX8_keeps_58 rfl rfl ?_
    refine jg_9_2 (pc := 59) dX8_keeps_59 (hM (9, 0) rfl) tw_779 ?_
    refine j_sipush (pc := 62) dX8_keeps_62 jcs_815 ?_
    refine j_aload_n (pc := 65) 0 dX8_keeps_65 rfl rfl ?_
    refine jg_9_3 (pc := 66) dX8_keeps_66 (hM (9, 0) rfl) tw_780 ?_
    refine j_imul (pc := 69) dX8_keeps_69 ?_
    refine j_iload_n (pc := 70) 1 dX8_keeps_70 rfl rfl ?_
    refine j_iadd (pc := 71) dX8_keeps_71 ?_
    refine j_aload_n (pc := 72) 0 dX8_keeps_72 rfl rfl ?_
    refine jg_9_0 (pc := 73) dX8_keeps_73 (hM (9, 0) rfl) tw_777 ?_
    refine j_iload_n (pc := 76) 1 dX8_keeps_76 rfl rfl ?_
    obtain ⟨c10, h⟩ := jchk h
    refine j_ia (pc := 77) dX8_keeps_77 rfl (hM (50, 0) rfl) c10 ?_
    obtain ⟨c11, h⟩ := jchk h
    obtain ⟨S12, eS12, h⟩ := jlk h
    refine j_is (pc := 78) dX8_keeps_78 rfl (hM (52, 0) rfl) c11 eS12 ?_
    obtain ⟨v13, ev13, h⟩ := jlk h
    refine j_iinc (pc := 79) (v := v13) (lv' := [(1, .int v13), (0, .ref (E.1 (9, 0)))]) 1 dX8_keeps_79 rfl (by rw [ev13]; rfl) (by decide) rfl ?_
    refine j_goto (pc := 82) (tgt := 51) dX8_keeps_82 (by decide) ?_
    exact j_sub [1, 0] rfl (H51 h)
def fX8_keeps_51  : Nat → jS → Int32 → Option jS
  | 0 => fun _ _ => none
  | n + 1 => bX8_keeps_51  (fX8_keeps_51  n)
theorem kX8_keeps_51 {E : jE} (hM : jHM E) (fu : Nat) : ∀ {S : jS} {x1 : Int32} {r : jS}, fX8_keeps_51  fu S x1 = some r → JR E 1 mX8_keeps 51 [(0, .ref (E.1 (9, 0))), (1, .int x1)] [] S [] r := by
  induction fu with
  | zero => intro S x1 r h; cases h
  | succ n_ ih => intro S x1 r h; exact lX8_keeps_51 hM ih h
def bX8_keeps_49  (S : jS) : Option jS :=
  fX8_keeps_51 5000 S (0 : Int32)
set_option maxRecDepth 10000 in
set_option maxHeartbeats 4000000 in
theorem lX8_keeps_49 {E : jE} (hM : jHM E) {S : jS} {r : jS} (h : bX8_keeps_49  S = some r) : JR E 1 mX8_keeps 49 [(0, .ref (E.1 (9, 0)))] [] S [] r := by
  unfold bX8_keeps_49 at h
  refine j_iconst (pc := 49) dX8_keeps_49 jci_0 ?_
  refine j_istore_n (pc := 50) (lv' := [(1, .int (0 : Int32)), (0, .ref (E.1 (9, 0)))]) dX8_keeps_50 rfl (by decide) rfl ?_
  exact j_sub [1, 0] rfl (kX8_keeps_51 hM 5000 h)
def bX8_keeps_10  (q10 : jS → Int32 → Option jS) (S : jS) (x1 : Int32) : Option jS :=
  (if (2445 : Int32) ≤ x1 then jlet (jset S (12, 0) ((S.1 (12, 0)) - (1 : Int32))) fun S3 => bX8_keeps_49 S3 else if jIn (x1 + (815 : Int32)) 3260 then if jIn x1 3260 then jlet (jput S (52, 0) (upd (S.2 (52, 0)) x1.toNatClampNeg (S.2 (52, 0) (x1 + (815 : Int32)).toNatClampNeg))) fun S6 => jlet (x1 + (1 : Int32)) fun v7 => q10 S6 v7 else none else none)
set_option maxRecDepth 10000 in
set_option maxHeartbeats 4000000 in
theorem lX8_keeps_10 {E : jE} (hM : jHM E) {q10 : jS → Int32 → Option jS} (H10 : ∀ {S : jS} {x1 : Int32} {r : jS}, q10 S x1 = some r → JR E 1 mX8_keeps 10 [(0, .ref (E.1 (9, 0))), (1, .int x1)] [] S [] r) {S : jS} {x1 : Int32} {r : jS} (h : bX8_keeps_10  q10 S x1 = some r) : JR E 1 mX8_keeps 10 [(0, .ref (E.1 (9, 0))), (1, .int x1)] [] S [] r := by
  unfold bX8_keeps_10 at h
  refine j_iload_n (pc := 10) 1 dX8_keeps_10 rfl rfl ?_
  refine j_sipush (pc := 11) dX8_keeps_11 jcs_2445 ?_
  refine j_icmp_ge (pc := 14) (tgt := 39) dX8_keeps_14 (by decide) (fun c2 => ?_) (fun c2 => ?_)
  · replace h := jite_t h c2
    refine j_aload_n (pc := 39) 0 dX8_keeps_39 rfl rfl ?_
    refine j_dup (pc := 40) dX8_keeps_40 rfl ?_
    refine jg_9_3 (pc := 41) dX8_keeps_41 (hM (9, 0) rfl) tw_780 ?_
    refine j_iconst (pc := 44) dX8_keeps_44 jci_1 ?_
    refine j_isub (pc := 45) dX8_keeps_45 ?_
    obtain ⟨S3, eS3, h⟩ := jlk h
    refine jp_12 (pc := 46) dX8_keeps_46 (hM (9, 0) rfl) tw_780 eS3 ?_
    exact j_sub [0] rfl (lX8_keeps_49 hM h)
  · replace h := jite_f h c2
    refine j_aload_n (pc := 17) 0 dX8_keeps_17 rfl rfl ?_
    refine jg_9_2 (pc := 18) dX8_keeps_18 (hM (9, 0) rfl) tw_779 ?_
    refine j_iload_n (pc := 21) 1 dX8_keeps_21 rfl rfl ?_
    refine j_aload_n (pc := 22) 0 dX8_keeps_22 rfl rfl ?_
    refine jg_9_2 (pc := 23) dX8_keeps_23 (hM (9, 0) rfl) tw_779 ?_
    refine j_iload_n (pc := 26) 1 dX8_keeps_26 rfl rfl ?_
    refine j_sipush (pc := 27) dX8_keeps_27 jcs_815 ?_
    refine j_iadd (pc := 30) dX8_keeps_30 ?_
    obtain ⟨c4, h⟩ := jchk h
    refine j_ia (pc := 31) dX8_keeps_31 rfl (hM (52, 0) rfl) c4 ?_
    obtain ⟨c5, h⟩ := jchk h
    obtain ⟨S6, eS6, h⟩ := jlk h
    refine j_is (pc := 32) dX8_keeps_32 rfl (hM (52, 0) rfl) c5 eS6 ?_
    obtain ⟨v7, ev7, h⟩ := jlk h
    refine j_iinc (pc := 33) (v := v7) (lv' := [(1, .int v7), (0, .ref (E.1 (9, 0)))]) 1 dX8_keeps_33 rfl (by rw [ev7]; rfl) (by decide) rfl ?_
    refine j_goto (pc := 36) (tgt := 10) dX8_keeps_36 (by decide) ?_
    exact j_sub [1, 0] rfl (H10 h)
def fX8_keeps_10  : Nat → jS → Int32 → Option jS
  | 0 => fun _ _ => none
  | n + 1 => bX8_keeps_10  (fX8_keeps_10  n)
theorem kX8_keeps_10 {E : jE} (hM : jHM E) (fu : Nat) : ∀ {S : jS} {x1 : Int32} {r : jS}, fX8_keeps_10  fu S x1 = some r → JR E 1 mX8_keeps 10 [(0, .ref (E.1 (9, 0))), (1, .int x1)] [] S [] r := by
  induction fu with
  | zero => intro S x1 r h; cases h
  | succ n_ ih => intro S x1 r h; exact lX8_keeps_10 hM ih h
def fX8_keeps  (S : jS) : Option jS :=
  (if (S.1 (12, 0)) = (4 : Int32) then fX8_keeps_10 5000 S (0 : Int32) else bX8_keeps_49 S)
set_option maxRecDepth 10000 in
set_option maxHeartbeats 4000000 in
theorem kX8_keeps {E : jE} (hM : jHM E) {S : jS} {r : jS} (h : fX8_keeps  S = some r) : jMR E 1 mX8_keeps [.ref (E.1 (9, 0))] S [] r := by
  refine ⟨Nat.le_of_ble_eq_true rfl, ?_⟩
  show JR E 1 mX8_keeps 0 [(0, .ref (E.1 (9, 0)))] [] S [] r
  unfold fX8_keeps at h
  refine j_aload_n (pc := 0) 0 dX8_keeps_0 rfl rfl ?_
  refine jg_9_3 (pc := 1) dX8_keeps_1 (hM (9, 0) rfl) tw_780 ?_
  refine j_iconst (pc := 4) dX8_keeps_4 jci_4 ?_
  refine j_icmp_ne (pc := 5) (tgt := 49) dX8_keeps_5 (by decide) (fun c1 => ?_) (fun c1 => ?_)
  · replace h := jite_f h c1
    exact j_sub [0] rfl (lX8_keeps_49 hM h)
  · replace h := jite_t h c1
    refine j_iconst (pc := 8) dX8_keeps_8 jci_0 ?_
    refine j_istore_n (pc := 9) (lv' := [(1, .int (0 : Int32)), (0, .ref (E.1 (9, 0)))]) dX8_keeps_9 rfl (by decide) rfl ?_
    exact j_sub [1, 0] rfl (kX8_keeps_10 hM 5000 h)
abbrev mX8_undo : jM := (yX8_undo, cX8_undo, 2, (some .int))
theorem okX8_undo : jOK mX8_undo 0 := ⟨by decide +kernel, tw_908, tw_84, by decide +kernel, by decide, by decide⟩
def bX8_undo_22  (q22 : jS → Int32 → Option (Int32 × jS)) (S : jS) (x1 : Int32) : Option (Int32 × jS) :=
  (if (815 : Int32) ≤ x1 then some (S.1 (12, 0), S) else if jIn (((815 : Int32) * (S.1 (12, 0))) + x1) 3260 then if jIn x1 815 then jlet (jput S (50, 0) (upd (S.2 (50, 0)) x1.toNatClampNeg (S.2 (52, 0) (((815 : Int32) * (S.1 (12, 0))) + x1).toNatClampNeg))) fun S6 => jlet (x1 + (1 : Int32)) fun v7 => q22 S6 v7 else none else none)
set_option maxRecDepth 10000 in
set_option maxHeartbeats 4000000 in
theorem lX8_undo_22 {E : jE} (hM : jHM E) {q22 : jS → Int32 → Option (Int32 × jS)} (H22 : ∀ {S : jS} {x1 : Int32} {r : (Int32 × jS)}, q22 S x1 = some r → JR E 1 mX8_undo 22 [(0, .ref (E.1 (9, 0))), (1, .int x1)] [] S [.int r.1] r.2) {S : jS} {x1 : Int32} {r : (Int32 × jS)} (h : bX8_undo_22  q22 S x1 = some r) : JR E 1 mX8_undo 22 [(0, .ref (E.1 (9, 0))), (1, .int x1)] [] S [.int r.1] r.2 := by
  unfold bX8_undo_22 at h
  refine j_iload_n (pc := 22) 1 dX8_undo_22 rfl rfl ?_
  refine j_sipush (pc := 23) dX8_undo_23 jcs_815 ?_
  refine j_icmp_ge (pc := 26) (tgt := 56) dX8_undo_26 (by decide) (fun c3 => ?_) (fun c3 => ?_)
  · replace h := jite_t h c3
    refine j_aload_n (pc := 56) 0 dX8_undo_56 rfl rfl ?_
    refine jg_9_3 (pc := 57) dX8_undo_57 (hM (9, 0) rfl) tw_780 ?_
    cases h
    exact j_iret (pc := 60) dX8_undo_60 rfl rfl
  · replace h := jite_f h c3
    refine j_aload_n (pc := 29) 0 dX8_undo_29 rfl rfl ?_
    refine jg_9_0 (pc := 30) dX8_undo_30 (hM (9, 0) rfl) tw_777 ?_
    refine j_iload_n (pc := 33) 1 dX8_undo_33 rfl rfl ?_
    refine j_aload_n (pc := 34) 0 dX8_undo_34 rfl rfl ?_
    refine jg_9_2 (pc := 35) dX8_undo_35 (hM (9, 0) rfl) tw_779 ?_
    refine j_sipush (pc := 38) dX8_undo_38 jcs_815 ?_
    refine j_aload_n (pc := 41) 0 dX8_undo_41 rfl rfl ?_
    refine jg_9_3 (pc := 42) dX8_undo_42 (hM (9, 0) rfl) tw_780 ?_
    refine j_imul (pc := 45) dX8_undo_45 ?_
    refine j_iload_n (pc := 46) 1 dX8_undo_46 rfl rfl ?_
    refine j_iadd (pc := 47) dX8_undo_47 ?_
    obtain ⟨c4, h⟩ := jchk h
    refine j_ia (pc := 48) dX8_undo_48 rfl (hM (52, 0) rfl) c4 ?_
    obtain ⟨c5, h⟩ := jchk h
    obtain ⟨S6, eS6, h⟩ := jlk h
    refine j_is (pc := 49) dX8_undo_49 rfl (hM (50, 0) rfl) c5 eS6 ?_
    obtain ⟨v7, ev7, h⟩ := jlk h
    refine j_iinc (pc := 50) (v := v7) (lv' := [(1, .int v7), (0, .ref (E.1 (9, 0)))]) 1 dX8_undo_50 rfl (by rw [ev7]; rfl) (by decide) rfl ?_
    refine j_goto (pc := 53) (tgt := 22) dX8_undo_53 (by decide) ?_
    exact j_sub [1, 0] rfl (H22 h)
def fX8_undo_22  : Nat → jS → Int32 → Option (Int32 × jS)
  | 0 => fun _ _ => none
  | n + 1 => bX8_undo_22  (fX8_undo_22  n)
theorem kX8_undo_22 {E : jE} (hM : jHM E) (fu : Nat) : ∀ {S : jS} {x1 : Int32} {r : (Int32 × jS)}, fX8_undo_22  fu S x1 = some r → JR E 1 mX8_undo 22 [(0, .ref (E.1 (9, 0))), (1, .int x1)] [] S [.int r.1] r.2 := by
  induction fu with
  | zero => intro S x1 r h; cases h
  | succ n_ ih => intro S x1 r h; exact lX8_undo_22 hM ih h
def fX8_undo  (S : jS) : Option (Int32 × jS) :=
  (if (S.1 (12, 0)) = 0 then some ((-2 : Int32), S) else jlet (jset S (12, 0) ((S.1 (12, 0)) - (1 : Int32))) fun S2 => fX8_undo_22 5000 S2 (0 : Int32))
set_option maxRecDepth 10000 in
set_option maxHeartbeats 4000000 in
theorem kX8_undo {E : jE} (hM : jHM E) {S : jS} {r : (Int32 × jS)} (h : fX8_undo  S = some r) : jMR E 1 mX8_undo [.ref (E.1 (9, 0))] S [.int r.1] r.2 := by
  refine ⟨Nat.le_of_ble_eq_true rfl, ?_⟩
  show JR E 1 mX8_undo 0 [(0, .ref (E.1 (9, 0)))] [] S [.int r.1] r.2
  unfold fX8_undo at h
  refine j_aload_n (pc := 0) 0 dX8_undo_0 rfl rfl ?_
  refine jg_9_3 (pc := 1) dX8_undo_1 (hM (9, 0) rfl) tw_780 ?_
  refine j_if_ne (pc := 4) (tgt := 10) dX8_undo_4 (by decide) (fun c1 => ?_) (fun c1 => ?_)
  · replace h := jite_f h c1
    refine j_aload_n (pc := 10) 0 dX8_undo_10 rfl rfl ?_
    refine j_dup (pc := 11) dX8_undo_11 rfl ?_
    refine jg_9_3 (pc := 12) dX8_undo_12 (hM (9, 0) rfl) tw_780 ?_
    refine j_iconst (pc := 15) dX8_undo_15 jci_1 ?_
    refine j_isub (pc := 16) dX8_undo_16 ?_
    obtain ⟨S2, eS2, h⟩ := jlk h
    refine jp_12 (pc := 17) dX8_undo_17 (hM (9, 0) rfl) tw_780 eS2 ?_
    refine j_iconst (pc := 20) dX8_undo_20 jci_0 ?_
    refine j_istore_n (pc := 21) (lv' := [(1, .int (0 : Int32)), (0, .ref (E.1 (9, 0)))]) dX8_undo_21 rfl (by decide) rfl ?_
    exact j_sub [1, 0] rfl (kX8_undo_22 hM 5000 h)
  · replace h := jite_t h c1
    refine j_bipush (pc := 7) dX8_undo_7 jcb_m2 ?_
    cases h
    exact j_iret (pc := 9) dX8_undo_9 rfl rfl
abbrev mX8_isNode : jM := (yX8_isNode, cX8_isNode, 2, (some .boolean))
theorem okX8_isNode : jOK mX8_isNode 1 := ⟨by decide +kernel, tw_920, tw_84, by decide +kernel, by decide, by decide⟩
def fX8_isNode  (S : jS) (x1 : Int32) : Option (Int32 × jS) :=
  if jIn (0 : Int32) 815 then (fX8_in S (x1.toInt64) (0 : Int64) (((S.2 (50, 0) (0 : Int32).toNatClampNeg) - (1 : Int32)).toInt64)).bind fun y2 => if y2.1 = 0 ∨ y2.1 = 1 then some (y2.1, y2.2) else none else none
set_option maxRecDepth 10000 in
set_option maxHeartbeats 4000000 in
theorem kX8_isNode {E : jE} (hM : jHM E) {S : jS} {x1 : Int32} {r : (Int32 × jS)} (h : fX8_isNode  S x1 = some r) : jMR E 2 mX8_isNode [.ref (E.1 (9, 0)), .int x1] S [.int r.1] r.2 := by
  refine ⟨Nat.le_of_ble_eq_true rfl, ?_⟩
  show JR E 2 mX8_isNode 0 [(0, .ref (E.1 (9, 0))), (1, .int x1)] [] S [.int r.1] r.2
  unfold fX8_isNode at h
  refine j_iload_n (pc := 0) 1 dX8_isNode_0 rfl rfl ?_
  refine j_i2l (pc := 1) dX8_isNode_1 ?_
  refine j_lconst (pc := 2) (v := (0 : Int64)) dX8_isNode_2 rfl ?_
  refine j_aload_n (pc := 3) 0 dX8_isNode_3 rfl rfl ?_
  refine jg_9_0 (pc := 4) dX8_isNode_4 (hM (9, 0) rfl) tw_777 ?_
  refine j_iconst (pc := 7) dX8_isNode_7 jci_0 ?_
  obtain ⟨c1, h⟩ := jchk h
  refine j_ia (pc := 8) dX8_isNode_8 rfl (hM (50, 0) rfl) c1 ?_
  refine j_iconst (pc := 9) dX8_isNode_9 jci_1 ?_
  refine j_isub (pc := 10) dX8_isNode_10 ?_
  refine j_i2l (pc := 11) dX8_isNode_11 ?_
  obtain ⟨y2, hy2, h⟩ := jbnd h
  refine j_callS (pc := 12) (N := mX8_in) (As := [.long (x1.toInt64), .long (0 : Int64), .long (((S.2 (50, 0) (0 : Int32).toNatClampNeg) - (1 : Int32)).toInt64)]) (rest := []) (v := [.int y2.1]) (S1 := y2.2) dX8_isNode_12 (kX8_in hM hy2) (by simp) (by decide) okX8_in tw_846 tw_845 rfl rfl (by simp [Value.category]) ?_
  obtain ⟨c3, h⟩ := jchk h
  cases h
  exact j_iret (pc := 15) dX8_isNode_15 rfl (jnar01 c3)
abbrev mX8_isGoal : jM := (yX8_isGoal, cX8_isGoal, 2, (some .boolean))
theorem okX8_isGoal : jOK mX8_isGoal 1 := ⟨by decide +kernel, tw_924, tw_84, by decide +kernel, by decide, by decide⟩
def fX8_isGoal  (S : jS) (x1 : Int32) : Option (Int32 × jS) :=
  if jIn (1 : Int32) 815 then (fX8_in S (x1.toInt64) (0 : Int64) (((S.2 (50, 0) (1 : Int32).toNatClampNeg) - (1 : Int32)).toInt64)).bind fun y2 => if y2.1 = 0 ∨ y2.1 = 1 then some (y2.1, y2.2) else none else none
set_option maxRecDepth 10000 in
set_option maxHeartbeats 4000000 in
theorem kX8_isGoal {E : jE} (hM : jHM E) {S : jS} {x1 : Int32} {r : (Int32 × jS)} (h : fX8_isGoal  S x1 = some r) : jMR E 2 mX8_isGoal [.ref (E.1 (9, 0)), .int x1] S [.int r.1] r.2 := by
  refine ⟨Nat.le_of_ble_eq_true rfl, ?_⟩
  show JR E 2 mX8_isGoal 0 [(0, .ref (E.1 (9, 0))), (1, .int x1)] [] S [.int r.1] r.2
  unfold fX8_isGoal at h
  refine j_iload_n (pc := 0) 1 dX8_isGoal_0 rfl rfl ?_
  refine j_i2l (pc := 1) dX8_isGoal_1 ?_
  refine j_lconst (pc := 2) (v := (0 : Int64)) dX8_isGoal_2 rfl ?_
  refine j_aload_n (pc := 3) 0 dX8_isGoal_3 rfl rfl ?_
  refine jg_9_0 (pc := 4) dX8_isGoal_4 (hM (9, 0) rfl) tw_777 ?_
  refine j_iconst (pc := 7) dX8_isGoal_7 jci_1 ?_
  obtain ⟨c1, h⟩ := jchk h
  refine j_ia (pc := 8) dX8_isGoal_8 rfl (hM (50, 0) rfl) c1 ?_
  refine j_iconst (pc := 9) dX8_isGoal_9 jci_1 ?_
  refine j_isub (pc := 10) dX8_isGoal_10 ?_
  refine j_i2l (pc := 11) dX8_isGoal_11 ?_
  obtain ⟨y2, hy2, h⟩ := jbnd h
  refine j_callS (pc := 12) (N := mX8_in) (As := [.long (x1.toInt64), .long (0 : Int64), .long (((S.2 (50, 0) (1 : Int32).toNatClampNeg) - (1 : Int32)).toInt64)]) (rest := []) (v := [.int y2.1]) (S1 := y2.2) dX8_isGoal_12 (kX8_in hM hy2) (by simp) (by decide) okX8_in tw_846 tw_845 rfl rfl (by simp [Value.category]) ?_
  obtain ⟨c3, h⟩ := jchk h
  cases h
  exact j_iret (pc := 15) dX8_isGoal_15 rfl (jnar01 c3)
abbrev mX8_isLink : jM := (yX8_isLink, cX8_isLink, 2, (some .boolean))
theorem okX8_isLink : jOK mX8_isLink 1 := ⟨by decide +kernel, tw_940, tw_84, by decide +kernel, by decide, by decide⟩
def fX8_isLink  (S : jS) (x1 : Int32) : Option (Int32 × jS) :=
  if jIn (5 : Int32) 815 then (fX8_in S (x1.toInt64) (0 : Int64) (((S.2 (50, 0) (5 : Int32).toNatClampNeg) - (1 : Int32)).toInt64)).bind fun y2 => if y2.1 = 0 ∨ y2.1 = 1 then some (y2.1, y2.2) else none else none
set_option maxRecDepth 10000 in
set_option maxHeartbeats 4000000 in
theorem kX8_isLink {E : jE} (hM : jHM E) {S : jS} {x1 : Int32} {r : (Int32 × jS)} (h : fX8_isLink  S x1 = some r) : jMR E 2 mX8_isLink [.ref (E.1 (9, 0)), .int x1] S [.int r.1] r.2 := by
  refine ⟨Nat.le_of_ble_eq_true rfl, ?_⟩
  show JR E 2 mX8_isLink 0 [(0, .ref (E.1 (9, 0))), (1, .int x1)] [] S [.int r.1] r.2
  unfold fX8_isLink at h
  refine j_iload_n (pc := 0) 1 dX8_isLink_0 rfl rfl ?_
  refine j_i2l (pc := 1) dX8_isLink_1 ?_
  refine j_lconst (pc := 2) (v := (0 : Int64)) dX8_isLink_2 rfl ?_
  refine j_aload_n (pc := 3) 0 dX8_isLink_3 rfl rfl ?_
  refine jg_9_0 (pc := 4) dX8_isLink_4 (hM (9, 0) rfl) tw_777 ?_
  refine j_iconst (pc := 7) dX8_isLink_7 jci_5 ?_
  obtain ⟨c1, h⟩ := jchk h
  refine j_ia (pc := 8) dX8_isLink_8 rfl (hM (50, 0) rfl) c1 ?_
  refine j_iconst (pc := 9) dX8_isLink_9 jci_1 ?_
  refine j_isub (pc := 10) dX8_isLink_10 ?_
  refine j_i2l (pc := 11) dX8_isLink_11 ?_
  obtain ⟨y2, hy2, h⟩ := jbnd h
  refine j_callS (pc := 12) (N := mX8_in) (As := [.long (x1.toInt64), .long (0 : Int64), .long (((S.2 (50, 0) (5 : Int32).toNatClampNeg) - (1 : Int32)).toInt64)]) (rest := []) (v := [.int y2.1]) (S1 := y2.2) dX8_isLink_12 (kX8_in hM hy2) (by simp) (by decide) okX8_in tw_846 tw_845 rfl rfl (by simp [Value.category]) ?_
  obtain ⟨c3, h⟩ := jchk h
  cases h
  exact j_iret (pc := 15) dX8_isLink_15 rfl (jnar01 c3)
abbrev mX8_isQueue : jM := (yX8_isQueue, cX8_isQueue, 3, (some .boolean))
theorem okX8_isQueue : jOK mX8_isQueue 2 := ⟨by decide +kernel, tw_916, tw_84, by decide +kernel, by decide, by decide⟩
def fX8_isQueue  (S : jS) (x1 : Int32) (x2 : Int32) : Option (Int32 × jS) :=
  (fX8_isNode S x1).bind fun y1 => (if y1.1 = 0 then some ((0 : Int32), y1.2) else (fX8_isGoal y1.2 x2).bind fun y3 => (if y3.1 = 0 then some ((0 : Int32), y3.2) else if jIn ((2 : Int32) + x2) 815 then (if (y3.2.2 (50, 0) ((2 : Int32) + x2).toNatClampNeg) = x1 then some ((0 : Int32), y3.2) else some ((1 : Int32), y3.2)) else none))
set_option maxRecDepth 10000 in
set_option maxHeartbeats 4000000 in
theorem kX8_isQueue {E : jE} (hM : jHM E) {S : jS} {x1 : Int32} {x2 : Int32} {r : (Int32 × jS)} (h : fX8_isQueue  S x1 x2 = some r) : jMR E 3 mX8_isQueue [.ref (E.1 (9, 0)), .int x1, .int x2] S [.int r.1] r.2 := by
  refine ⟨Nat.le_of_ble_eq_true rfl, ?_⟩
  show JR E 3 mX8_isQueue 0 [(0, .ref (E.1 (9, 0))), (1, .int x1), (2, .int x2)] [] S [.int r.1] r.2
  unfold fX8_isQueue at h
  refine j_aload_n (pc := 0) 0 dX8_isQueue_0 rfl rfl ?_
  refine j_iload_n (pc := 1) 1 dX8_isQueue_1 rfl rfl ?_
  obtain ⟨y1, hy1, h⟩ := jbnd h
  refine j_callV (pc := 2) (N := mX8_isNode) (rr := (9, 0)) (As := [.int x1]) (rest := []) (v := [.int y1.1]) (S1 := y1.2) dX8_isQueue_2 (kX8_isNode hM hy1) (by simp) (by decide) okX8_isNode tw_919 tw_37 tw_917 (hM (9, 0) rfl) rfl rfl rfl rfl (by simp [Value.category]) ?_
  refine j_if_eq (pc := 5) (tgt := 32) dX8_isQueue_5 (by decide) (fun c2 => ?_) (fun c2 => ?_)
  · replace h := jite_t h c2
    refine j_iconst (pc := 32) dX8_isQueue_32 jci_0 ?_
    cases h
    exact j_iret (pc := 33) dX8_isQueue_33 rfl rfl
  · replace h := jite_f h c2
    refine j_aload_n (pc := 8) 0 dX8_isQueue_8 rfl rfl ?_
    refine j_iload_n (pc := 9) 2 dX8_isQueue_9 rfl rfl ?_
    obtain ⟨y3, hy3, h⟩ := jbnd h
    refine j_callV (pc := 10) (N := mX8_isGoal) (rr := (9, 0)) (As := [.int x2]) (rest := []) (v := [.int y3.1]) (S1 := y3.2) dX8_isQueue_10 (kX8_isGoal hM hy3) (by simp) (by decide) okX8_isGoal tw_923 tw_38 tw_921 (hM (9, 0) rfl) rfl rfl rfl rfl (by simp [Value.category]) ?_
    refine j_if_eq (pc := 13) (tgt := 32) dX8_isQueue_13 (by decide) (fun c4 => ?_) (fun c4 => ?_)
    · replace h := jite_t h c4
      refine j_iconst (pc := 32) dX8_isQueue_32 jci_0 ?_
      cases h
      exact j_iret (pc := 33) dX8_isQueue_33 rfl rfl
    · replace h := jite_f h c4
      refine j_aload_n (pc := 16) 0 dX8_isQueue_16 rfl rfl ?_
      refine jg_9_0 (pc := 17) dX8_isQueue_17 (hM (9, 0) rfl) tw_777 ?_
      refine j_iconst (pc := 20) dX8_isQueue_20 jci_2 ?_
      refine j_iload_n (pc := 21) 2 dX8_isQueue_21 rfl rfl ?_
      refine j_iadd (pc := 22) dX8_isQueue_22 ?_
      obtain ⟨c5, h⟩ := jchk h
      refine j_ia (pc := 23) dX8_isQueue_23 rfl (hM (50, 0) rfl) c5 ?_
      refine j_iload_n (pc := 24) 1 dX8_isQueue_24 rfl rfl ?_
      refine j_icmp_eq (pc := 25) (tgt := 32) dX8_isQueue_25 (by decide) (fun c6 => ?_) (fun c6 => ?_)
      · replace h := jite_t h c6
        refine j_iconst (pc := 32) dX8_isQueue_32 jci_0 ?_
        cases h
        exact j_iret (pc := 33) dX8_isQueue_33 rfl rfl
      · replace h := jite_f h c6
        refine j_iconst (pc := 28) dX8_isQueue_28 jci_1 ?_
        refine j_goto (pc := 29) (tgt := 33) dX8_isQueue_29 (by decide) ?_
        cases h
        exact j_iret (pc := 33) dX8_isQueue_33 rfl rfl
abbrev mX8_becomes : jM := (yX8_becomes, cX8_becomes, 4, (some .int))
theorem okX8_becomes : jOK mX8_becomes 2 := ⟨by decide +kernel, tw_928, tw_84, by decide +kernel, by decide, by decide⟩
def fX8_becomes  (S : jS) (x1 : Int32) (x2 : Int32) : Option (Int32 × jS) :=
  if jIn x1 815 then jlet (S.2 (50, 0) x1.toNatClampNeg) fun v2 => (if v2 = x2 then some ((-2 : Int32), S) else (fX8_keeps S).bind fun y4 => if jIn x1 815 then jlet (jput y4 (50, 0) (upd (y4.2 (50, 0)) x1.toNatClampNeg x2)) fun S6 => some (v2, S6) else none) else none
set_option maxRecDepth 10000 in
set_option maxHeartbeats 4000000 in
theorem kX8_becomes {E : jE} (hM : jHM E) {S : jS} {x1 : Int32} {x2 : Int32} {r : (Int32 × jS)} (h : fX8_becomes  S x1 x2 = some r) : jMR E 2 mX8_becomes [.ref (E.1 (9, 0)), .int x1, .int x2] S [.int r.1] r.2 := by
  refine ⟨Nat.le_of_ble_eq_true rfl, ?_⟩
  show JR E 2 mX8_becomes 0 [(0, .ref (E.1 (9, 0))), (1, .int x1), (2, .int x2)] [] S [.int r.1] r.2
  unfold fX8_becomes at h
  refine j_aload_n (pc := 0) 0 dX8_becomes_0 rfl rfl ?_
  refine jg_9_0 (pc := 1) dX8_becomes_1 (hM (9, 0) rfl) tw_777 ?_
  refine j_iload_n (pc := 4) 1 dX8_becomes_4 rfl rfl ?_
  obtain ⟨c1, h⟩ := jchk h
  refine j_ia (pc := 5) dX8_becomes_5 rfl (hM (50, 0) rfl) c1 ?_
  obtain ⟨v2, ev2, h⟩ := jlk h
  refine j_topi ev2 ?_
  refine j_istore_n (pc := 6) (lv' := [(3, .int v2), (0, .ref (E.1 (9, 0))), (1, .int x1), (2, .int x2)]) dX8_becomes_6 rfl (by decide) rfl ?_
  refine j_iload_n (pc := 7) 0 dX8_becomes_7 rfl rfl ?_
  refine j_iload_n (pc := 8) 3 dX8_becomes_8 rfl rfl ?_
  refine j_icmp_ne (pc := 9) (tgt := 15) dX8_becomes_9 (by decide) (fun c3 => ?_) (fun c3 => ?_)
  · replace h := jite_f h c3
    refine j_aload_n (pc := 15) 1 dX8_becomes_15 rfl rfl ?_
    obtain ⟨y4, hy4, h⟩ := jbnd h
    refine j_callV (pc := 16) (N := mX8_keeps) (rr := (9, 0)) (As := []) (rest := []) (v := []) (S1 := y4) dX8_becomes_16 (kX8_keeps hM hy4) (by simp) (by decide) okX8_keeps tw_931 tw_40 tw_929 (hM (9, 0) rfl) rfl rfl rfl rfl (by simp [Value.category]) ?_
    refine j_aload_n (pc := 19) 1 dX8_becomes_19 rfl rfl ?_
    refine jg_9_0 (pc := 20) dX8_becomes_20 (hM (9, 0) rfl) tw_777 ?_
    refine j_iload_n (pc := 23) 2 dX8_becomes_23 rfl rfl ?_
    refine j_iload_n (pc := 24) 3 dX8_becomes_24 rfl rfl ?_
    obtain ⟨c5, h⟩ := jchk h
    obtain ⟨S6, eS6, h⟩ := jlk h
    refine j_is (pc := 25) dX8_becomes_25 rfl (hM (50, 0) rfl) c5 eS6 ?_
    refine j_iload_n (pc := 26) 0 dX8_becomes_26 rfl rfl ?_
    cases h
    exact j_iret (pc := 27) dX8_becomes_27 rfl rfl
  · replace h := jite_t h c3
    refine j_bipush (pc := 12) dX8_becomes_12 jcb_m2 ?_
    cases h
    exact j_iret (pc := 14) dX8_becomes_14 rfl rfl
abbrev mX8_feed : jM := (yX8_feed, cX8_feed, 4, (some .int))
theorem okX8_feed : jOK mX8_feed 3 := ⟨by decide +kernel, tw_912, tw_84, by decide +kernel, by decide, by decide⟩
def fX8_feed  (S : jS) (x1 : Int32) (x2 : Int32) (x3 : Int32) : Option (Int32 × jS) :=
  (fX8_isQueue S x1 x2).bind fun y1 => (if y1.1 = 0 then some ((-1 : Int32), y1.2) else (fX8_in y1.2 (x3.toInt64) (0 : Int64) (9 : Int64)).bind fun y3 => (if y3.1 = 0 then some ((-1 : Int32), y3.2) else (fX8_becomes y3.2 (((46 : Int32) + ((3 : Int32) * x1)) + x2) x3).bind fun y5 => some (y5.1, y5.2)))
set_option maxRecDepth 10000 in
set_option maxHeartbeats 4000000 in
theorem kX8_feed {E : jE} (hM : jHM E) {S : jS} {x1 : Int32} {x2 : Int32} {x3 : Int32} {r : (Int32 × jS)} (h : fX8_feed  S x1 x2 x3 = some r) : jMR E 4 mX8_feed [.ref (E.1 (9, 0)), .int x1, .int x2, .int x3] S [.int r.1] r.2 := by
  refine ⟨Nat.le_of_ble_eq_true rfl, ?_⟩
  show JR E 4 mX8_feed 0 [(0, .ref (E.1 (9, 0))), (1, .int x1), (2, .int x2), (3, .int x3)] [] S [.int r.1] r.2
  unfold fX8_feed at h
  refine j_aload_n (pc := 0) 0 dX8_feed_0 rfl rfl ?_
  refine j_iload_n (pc := 1) 1 dX8_feed_1 rfl rfl ?_
  refine j_iload_n (pc := 2) 2 dX8_feed_2 rfl rfl ?_
  obtain ⟨y1, hy1, h⟩ := jbnd h
  refine j_callV (pc := 3) (N := mX8_isQueue) (rr := (9, 0)) (As := [.int x1, .int x2]) (rest := []) (v := [.int y1.1]) (S1 := y1.2) dX8_feed_3 (kX8_isQueue hM hy1) (by simp) (by decide) okX8_isQueue tw_915 tw_36 tw_913 (hM (9, 0) rfl) rfl rfl rfl rfl (by simp [Value.category]) ?_
  refine j_if_eq (pc := 6) (tgt := 37) dX8_feed_6 (by decide) (fun c2 => ?_) (fun c2 => ?_)
  · replace h := jite_t h c2
    refine j_iconst (pc := 37) dX8_feed_37 jci_m1 ?_
    cases h
    exact j_iret (pc := 38) dX8_feed_38 rfl rfl
  · replace h := jite_f h c2
    refine j_iload_n (pc := 9) 3 dX8_feed_9 rfl rfl ?_
    refine j_i2l (pc := 10) dX8_feed_10 ?_
    refine j_lconst (pc := 11) (v := (0 : Int64)) dX8_feed_11 rfl ?_
    refine j_ldc2 (pc := 12) (v := (9 : Int64)) dX8_feed_12 tw_892 ?_
    obtain ⟨y3, hy3, h⟩ := jbnd h
    refine j_callS (pc := 15) (N := mX8_in) (As := [.long (x3.toInt64), .long (0 : Int64), .long (9 : Int64)]) (rest := []) (v := [.int y3.1]) (S1 := y3.2) dX8_feed_15 (kX8_in hM hy3) (by simp) (by decide) okX8_in tw_846 tw_845 rfl rfl (by simp [Value.category]) ?_
    refine j_if_eq (pc := 18) (tgt := 37) dX8_feed_18 (by decide) (fun c4 => ?_) (fun c4 => ?_)
    · replace h := jite_t h c4
      refine j_iconst (pc := 37) dX8_feed_37 jci_m1 ?_
      cases h
      exact j_iret (pc := 38) dX8_feed_38 rfl rfl
    · replace h := jite_f h c4
      refine j_aload_n (pc := 21) 0 dX8_feed_21 rfl rfl ?_
      refine j_bipush (pc := 22) dX8_feed_22 jcb_46 ?_
      refine j_iconst (pc := 24) dX8_feed_24 jci_3 ?_
      refine j_iload_n (pc := 25) 1 dX8_feed_25 rfl rfl ?_
      refine j_imul (pc := 26) dX8_feed_26 ?_
      refine j_iadd (pc := 27) dX8_feed_27 ?_
      refine j_iload_n (pc := 28) 2 dX8_feed_28 rfl rfl ?_
      refine j_iadd (pc := 29) dX8_feed_29 ?_
      refine j_iload_n (pc := 30) 3 dX8_feed_30 rfl rfl ?_
      obtain ⟨y5, hy5, h⟩ := jbnd h
      refine j_callV (pc := 31) (N := mX8_becomes) (rr := (9, 0)) (As := [.int (((46 : Int32) + ((3 : Int32) * x1)) + x2), .int x3]) (rest := []) (v := [.int y5.1]) (S1 := y5.2) dX8_feed_31 (kX8_becomes hM hy5) (by simp) (by decide) okX8_becomes tw_927 tw_39 tw_925 (hM (9, 0) rfl) rfl rfl rfl rfl (by simp [Value.category]) ?_
      refine j_goto (pc := 34) (tgt := 38) dX8_feed_34 (by decide) ?_
      cases h
      exact j_iret (pc := 38) dX8_feed_38 rfl rfl
abbrev mX8_room : jM := (yX8_room, cX8_room, 3, (some .int))
theorem okX8_room : jOK mX8_room 2 := ⟨by decide +kernel, tw_936, tw_84, by decide +kernel, by decide, by decide⟩
def fX8_room  (S : jS) (x1 : Int32) (x2 : Int32) : Option (Int32 × jS) :=
  (fX8_isLink S x1).bind fun y1 => (if y1.1 = 0 then some ((-1 : Int32), y1.2) else (fX8_in y1.2 (x2.toInt64) (1 : Int64) (9 : Int64)).bind fun y3 => (if y3.1 = 0 then some ((-1 : Int32), y3.2) else (fX8_becomes y3.2 (((6 : Int32) + ((3 : Int32) * x1)) + (2 : Int32)) x2).bind fun y5 => some (y5.1, y5.2)))
set_option maxRecDepth 10000 in
set_option maxHeartbeats 4000000 in
theorem kX8_room {E : jE} (hM : jHM E) {S : jS} {x1 : Int32} {x2 : Int32} {r : (Int32 × jS)} (h : fX8_room  S x1 x2 = some r) : jMR E 3 mX8_room [.ref (E.1 (9, 0)), .int x1, .int x2] S [.int r.1] r.2 := by
  refine ⟨Nat.le_of_ble_eq_true rfl, ?_⟩
  show JR E 3 mX8_room 0 [(0, .ref (E.1 (9, 0))), (1, .int x1), (2, .int x2)] [] S [.int r.1] r.2
  unfold fX8_room at h
  refine j_aload_n (pc := 0) 0 dX8_room_0 rfl rfl ?_
  refine j_iload_n (pc := 1) 1 dX8_room_1 rfl rfl ?_
  obtain ⟨y1, hy1, h⟩ := jbnd h
  refine j_callV (pc := 2) (N := mX8_isLink) (rr := (9, 0)) (As := [.int x1]) (rest := []) (v := [.int y1.1]) (S1 := y1.2) dX8_room_2 (kX8_isLink hM hy1) (by simp) (by decide) okX8_isLink tw_939 tw_41 tw_937 (hM (9, 0) rfl) rfl rfl rfl rfl (by simp [Value.category]) ?_
  refine j_if_eq (pc := 5) (tgt := 36) dX8_room_5 (by decide) (fun c2 => ?_) (fun c2 => ?_)
  · replace h := jite_t h c2
    refine j_iconst (pc := 36) dX8_room_36 jci_m1 ?_
    cases h
    exact j_iret (pc := 37) dX8_room_37 rfl rfl
  · replace h := jite_f h c2
    refine j_iload_n (pc := 8) 2 dX8_room_8 rfl rfl ?_
    refine j_i2l (pc := 9) dX8_room_9 ?_
    refine j_lconst (pc := 10) (v := (1 : Int64)) dX8_room_10 rfl ?_
    refine j_ldc2 (pc := 11) (v := (9 : Int64)) dX8_room_11 tw_892 ?_
    obtain ⟨y3, hy3, h⟩ := jbnd h
    refine j_callS (pc := 14) (N := mX8_in) (As := [.long (x2.toInt64), .long (1 : Int64), .long (9 : Int64)]) (rest := []) (v := [.int y3.1]) (S1 := y3.2) dX8_room_14 (kX8_in hM hy3) (by simp) (by decide) okX8_in tw_846 tw_845 rfl rfl (by simp [Value.category]) ?_
    refine j_if_eq (pc := 17) (tgt := 36) dX8_room_17 (by decide) (fun c4 => ?_) (fun c4 => ?_)
    · replace h := jite_t h c4
      refine j_iconst (pc := 36) dX8_room_36 jci_m1 ?_
      cases h
      exact j_iret (pc := 37) dX8_room_37 rfl rfl
    · replace h := jite_f h c4
      refine j_aload_n (pc := 20) 0 dX8_room_20 rfl rfl ?_
      refine j_bipush (pc := 21) dX8_room_21 jcb_6 ?_
      refine j_iconst (pc := 23) dX8_room_23 jci_3 ?_
      refine j_iload_n (pc := 24) 1 dX8_room_24 rfl rfl ?_
      refine j_imul (pc := 25) dX8_room_25 ?_
      refine j_iadd (pc := 26) dX8_room_26 ?_
      refine j_iconst (pc := 27) dX8_room_27 jci_2 ?_
      refine j_iadd (pc := 28) dX8_room_28 ?_
      refine j_iload_n (pc := 29) 2 dX8_room_29 rfl rfl ?_
      obtain ⟨y5, hy5, h⟩ := jbnd h
      refine j_callV (pc := 30) (N := mX8_becomes) (rr := (9, 0)) (As := [.int (((6 : Int32) + ((3 : Int32) * x1)) + (2 : Int32)), .int x2]) (rest := []) (v := [.int y5.1]) (S1 := y5.2) dX8_room_30 (kX8_becomes hM hy5) (by simp) (by decide) okX8_becomes tw_927 tw_39 tw_925 (hM (9, 0) rfl) rfl rfl rfl rfl (by simp [Value.category]) ?_
      refine j_goto (pc := 33) (tgt := 37) dX8_room_33 (by decide) ?_
      cases h
      exact j_iret (pc := 37) dX8_room_37 rfl rfl
abbrev mX8_tell : jM := (yX8_tell, cX8_tell, 3, (some .int))
theorem okX8_tell : jOK mX8_tell 2 := ⟨by decide +kernel, tw_944, tw_84, by decide +kernel, by decide, by decide⟩
def bX8_tell_42  (S : jS) (x2 : Int32) (t1 : Int32) : Option (Int32 × jS) :=
  (fX8_becomes S t1 x2).bind fun y7 => some (y7.1, y7.2)
set_option maxRecDepth 10000 in
set_option maxHeartbeats 4000000 in
theorem lX8_tell_42 {E : jE} (hM : jHM E) {S : jS} {x2 : Int32} {t1 : Int32} {r : (Int32 × jS)} (h : bX8_tell_42  S x2 t1 = some r) : JR E 3 mX8_tell 42 [(2, .int x2)] [.int t1, .ref (E.1 (9, 0))] S [.int r.1] r.2 := by
  unfold bX8_tell_42 at h
  refine j_iload_n (pc := 42) 0 dX8_tell_42 rfl rfl ?_
  obtain ⟨y7, hy7, h⟩ := jbnd h
  refine j_callV (pc := 43) (N := mX8_becomes) (rr := (9, 0)) (As := [.int t1, .int x2]) (rest := []) (v := [.int y7.1]) (S1 := y7.2) dX8_tell_43 (kX8_becomes hM hy7) (by simp) (by decide) okX8_becomes tw_927 tw_39 tw_925 (hM (9, 0) rfl) rfl rfl rfl rfl (by simp [Value.category]) ?_
  refine j_goto (pc := 46) (tgt := 50) dX8_tell_46 (by decide) ?_
  cases h
  exact j_iret (pc := 50) dX8_tell_50 rfl rfl
def bX8_tell_24  (S : jS) (x1 : Int32) (x2 : Int32) (t0 : Int64) (t1 : Int64) (t2 : Int64) : Option (Int32 × jS) :=
  (fX8_in S t0 t1 t2).bind fun y4 => (if y4.1 = 0 then some ((-1 : Int32), y4.2) else (if x1 = 0 then bX8_tell_42 (y4.2) x2 (65 : Int32) else bX8_tell_42 (y4.2) x2 (64 : Int32)))
set_option maxRecDepth 10000 in
set_option maxHeartbeats 4000000 in
theorem lX8_tell_24 {E : jE} (hM : jHM E) {S : jS} {x1 : Int32} {x2 : Int32} {t0 : Int64} {t1 : Int64} {t2 : Int64} {r : (Int32 × jS)} (h : bX8_tell_24  S x1 x2 t0 t1 t2 = some r) : JR E 3 mX8_tell 24 [(0, .ref (E.1 (9, 0))), (1, .int x1), (2, .int x2)] [.long t2, .long t1, .long t0] S [.int r.1] r.2 := by
  unfold bX8_tell_24 at h
  obtain ⟨y4, hy4, h⟩ := jbnd h
  refine j_callS (pc := 24) (N := mX8_in) (As := [.long t0, .long t1, .long t2]) (rest := []) (v := [.int y4.1]) (S1 := y4.2) dX8_tell_24 (kX8_in hM hy4) (by simp) (by decide) okX8_in tw_846 tw_845 rfl rfl (by simp [Value.category]) ?_
  refine j_if_eq (pc := 27) (tgt := 49) dX8_tell_27 (by decide) (fun c5 => ?_) (fun c5 => ?_)
  · replace h := jite_t h c5
    refine j_iconst (pc := 49) dX8_tell_49 jci_m1 ?_
    cases h
    exact j_iret (pc := 50) dX8_tell_50 rfl rfl
  · replace h := jite_f h c5
    refine j_aload_n (pc := 30) 0 dX8_tell_30 rfl rfl ?_
    refine j_iload_n (pc := 31) 1 dX8_tell_31 rfl rfl ?_
    refine j_if_ne (pc := 32) (tgt := 40) dX8_tell_32 (by decide) (fun c6 => ?_) (fun c6 => ?_)
    · replace h := jite_f h c6
      refine j_bipush (pc := 40) dX8_tell_40 jcb_64 ?_
      exact j_sub [2] rfl (lX8_tell_42 hM h)
    · replace h := jite_t h c6
      refine j_bipush (pc := 35) dX8_tell_35 jcb_65 ?_
      refine j_goto (pc := 37) (tgt := 42) dX8_tell_37 (by decide) ?_
      exact j_sub [2] rfl (lX8_tell_42 hM h)
def fX8_tell  (S : jS) (x1 : Int32) (x2 : Int32) : Option (Int32 × jS) :=
  (fX8_in S (x1.toInt64) (0 : Int64) (1 : Int64)).bind fun y1 => (if y1.1 = 0 then some ((-1 : Int32), y1.2) else (if x1 = 0 then bX8_tell_24 (y1.2) x1 x2 (x2.toInt64) (0 : Int64) (1 : Int64) else bX8_tell_24 (y1.2) x1 x2 (x2.toInt64) (0 : Int64) (9 : Int64)))
set_option maxRecDepth 10000 in
set_option maxHeartbeats 4000000 in
theorem kX8_tell {E : jE} (hM : jHM E) {S : jS} {x1 : Int32} {x2 : Int32} {r : (Int32 × jS)} (h : fX8_tell  S x1 x2 = some r) : jMR E 3 mX8_tell [.ref (E.1 (9, 0)), .int x1, .int x2] S [.int r.1] r.2 := by
  refine ⟨Nat.le_of_ble_eq_true rfl, ?_⟩
  show JR E 3 mX8_tell 0 [(0, .ref (E.1 (9, 0))), (1, .int x1), (2, .int x2)] [] S [.int r.1] r.2
  unfold fX8_tell at h
  refine j_iload_n (pc := 0) 1 dX8_tell_0 rfl rfl ?_
  refine j_i2l (pc := 1) dX8_tell_1 ?_
  refine j_lconst (pc := 2) (v := (0 : Int64)) dX8_tell_2 rfl ?_
  refine j_lconst (pc := 3) (v := (1 : Int64)) dX8_tell_3 rfl ?_
  obtain ⟨y1, hy1, h⟩ := jbnd h
  refine j_callS (pc := 4) (N := mX8_in) (As := [.long (x1.toInt64), .long (0 : Int64), .long (1 : Int64)]) (rest := []) (v := [.int y1.1]) (S1 := y1.2) dX8_tell_4 (kX8_in hM hy1) (by simp) (by decide) okX8_in tw_846 tw_845 rfl rfl (by simp [Value.category]) ?_
  refine j_if_eq (pc := 7) (tgt := 49) dX8_tell_7 (by decide) (fun c2 => ?_) (fun c2 => ?_)
  · replace h := jite_t h c2
    refine j_iconst (pc := 49) dX8_tell_49 jci_m1 ?_
    cases h
    exact j_iret (pc := 50) dX8_tell_50 rfl rfl
  · replace h := jite_f h c2
    refine j_iload_n (pc := 10) 2 dX8_tell_10 rfl rfl ?_
    refine j_i2l (pc := 11) dX8_tell_11 ?_
    refine j_lconst (pc := 12) (v := (0 : Int64)) dX8_tell_12 rfl ?_
    refine j_iload_n (pc := 13) 1 dX8_tell_13 rfl rfl ?_
    refine j_if_ne (pc := 14) (tgt := 21) dX8_tell_14 (by decide) (fun c3 => ?_) (fun c3 => ?_)
    · replace h := jite_f h c3
      refine j_ldc2 (pc := 21) (v := (9 : Int64)) dX8_tell_21 tw_892 ?_
      exact j_sub [0, 1, 2] rfl (lX8_tell_24 hM h)
    · replace h := jite_t h c3
      refine j_lconst (pc := 17) (v := (1 : Int64)) dX8_tell_17 rfl ?_
      refine j_goto (pc := 18) (tgt := 24) dX8_tell_18 (by decide) ?_
      exact j_sub [0, 1, 2] rfl (lX8_tell_24 hM h)
abbrev mX8_pairs : jM := (yX8_pairs, cX8_pairs, 3, (some .int))
theorem okX8_pairs : jOK mX8_pairs 0 := ⟨by decide +kernel, tw_955, tw_84, by decide +kernel, by decide, by decide⟩
def bX8_pairs_4  (q4 : jS → Int32 → Int32 → Option (Int32 × jS)) (S : jS) (x1 : Int32) (x2 : Int32) : Option (Int32 × jS) :=
  if jIn (5 : Int32) 815 then (if (S.2 (50, 0) (5 : Int32).toNatClampNeg) ≤ x2 then some (x1 / (2 : Int32), S) else if jIn ((36 : Int32) + x2) 815 then (fX8_ones S (S.2 (50, 0) ((36 : Int32) + x2).toNatClampNeg)).bind fun y4 => jlet (x1 + y4.1) fun v5 => jlet (x2 + (1 : Int32)) fun v6 => q4 (y4.2) v5 v6 else none) else none
set_option maxRecDepth 10000 in
set_option maxHeartbeats 4000000 in
theorem lX8_pairs_4 {E : jE} (hM : jHM E) {q4 : jS → Int32 → Int32 → Option (Int32 × jS)} (H4 : ∀ {S : jS} {x1 : Int32} {x2 : Int32} {r : (Int32 × jS)}, q4 S x1 x2 = some r → JR E 2 mX8_pairs 4 [(0, .ref (E.1 (9, 0))), (1, .int x1), (2, .int x2)] [] S [.int r.1] r.2) {S : jS} {x1 : Int32} {x2 : Int32} {r : (Int32 × jS)} (h : bX8_pairs_4  q4 S x1 x2 = some r) : JR E 2 mX8_pairs 4 [(0, .ref (E.1 (9, 0))), (1, .int x1), (2, .int x2)] [] S [.int r.1] r.2 := by
  unfold bX8_pairs_4 at h
  refine j_iload_n (pc := 4) 2 dX8_pairs_4 rfl rfl ?_
  refine j_aload_n (pc := 5) 0 dX8_pairs_5 rfl rfl ?_
  refine jg_9_0 (pc := 6) dX8_pairs_6 (hM (9, 0) rfl) tw_777 ?_
  refine j_iconst (pc := 9) dX8_pairs_9 jci_5 ?_
  obtain ⟨c1, h⟩ := jchk h
  refine j_ia (pc := 10) dX8_pairs_10 rfl (hM (50, 0) rfl) c1 ?_
  refine j_icmp_ge (pc := 11) (tgt := 35) dX8_pairs_11 (by decide) (fun c2 => ?_) (fun c2 => ?_)
  · replace h := jite_t h c2
    refine j_iload_n (pc := 35) 1 dX8_pairs_35 rfl rfl ?_
    refine j_iconst (pc := 36) dX8_pairs_36 jci_2 ?_
    refine j_idiv (pc := 37) dX8_pairs_37 (by decide) ?_
    cases h
    exact j_iret (pc := 38) dX8_pairs_38 rfl rfl
  · replace h := jite_f h c2
    refine j_iload_n (pc := 14) 1 dX8_pairs_14 rfl rfl ?_
    refine j_aload_n (pc := 15) 0 dX8_pairs_15 rfl rfl ?_
    refine jg_9_0 (pc := 16) dX8_pairs_16 (hM (9, 0) rfl) tw_777 ?_
    refine j_bipush (pc := 19) dX8_pairs_19 jcb_36 ?_
    refine j_iload_n (pc := 21) 2 dX8_pairs_21 rfl rfl ?_
    refine j_iadd (pc := 22) dX8_pairs_22 ?_
    obtain ⟨c3, h⟩ := jchk h
    refine j_ia (pc := 23) dX8_pairs_23 rfl (hM (50, 0) rfl) c3 ?_
    obtain ⟨y4, hy4, h⟩ := jbnd h
    refine j_callS (pc := 24) (N := mX8_ones) (As := [.int (S.2 (50, 0) ((36 : Int32) + x2).toNatClampNeg)]) (rest := [.int x1]) (v := [.int y4.1]) (S1 := y4.2) dX8_pairs_24 (kX8_ones hM hy4) (by simp) (by decide) okX8_ones tw_957 tw_956 rfl rfl (by simp [Value.category]) ?_
    refine j_iadd (pc := 27) dX8_pairs_27 ?_
    obtain ⟨v5, ev5, h⟩ := jlk h
    refine j_topi ev5 ?_
    refine j_istore_n (pc := 28) (lv' := [(1, .int v5), (0, .ref (E.1 (9, 0))), (2, .int x2)]) dX8_pairs_28 rfl (by decide) rfl ?_
    obtain ⟨v6, ev6, h⟩ := jlk h
    refine j_iinc (pc := 29) (v := v6) (lv' := [(2, .int v6), (1, .int v5), (0, .ref (E.1 (9, 0)))]) 2 dX8_pairs_29 rfl (by rw [ev6]; rfl) (by decide) rfl ?_
    refine j_goto (pc := 32) (tgt := 4) dX8_pairs_32 (by decide) ?_
    exact j_sub [2, 1, 0] rfl (H4 h)
def fX8_pairs_4  : Nat → jS → Int32 → Int32 → Option (Int32 × jS)
  | 0 => fun _ _ _ => none
  | n + 1 => bX8_pairs_4  (fX8_pairs_4  n)
theorem kX8_pairs_4 {E : jE} (hM : jHM E) (fu : Nat) : ∀ {S : jS} {x1 : Int32} {x2 : Int32} {r : (Int32 × jS)}, fX8_pairs_4  fu S x1 x2 = some r → JR E 2 mX8_pairs 4 [(0, .ref (E.1 (9, 0))), (1, .int x1), (2, .int x2)] [] S [.int r.1] r.2 := by
  induction fu with
  | zero => intro S x1 x2 r h; cases h
  | succ n_ ih => intro S x1 x2 r h; exact lX8_pairs_4 hM ih h
def fX8_pairs  (S : jS) : Option (Int32 × jS) :=
  fX8_pairs_4 5000 S (0 : Int32) (0 : Int32)
set_option maxRecDepth 10000 in
set_option maxHeartbeats 4000000 in
theorem kX8_pairs {E : jE} (hM : jHM E) {S : jS} {r : (Int32 × jS)} (h : fX8_pairs  S = some r) : jMR E 2 mX8_pairs [.ref (E.1 (9, 0))] S [.int r.1] r.2 := by
  refine ⟨Nat.le_of_ble_eq_true rfl, ?_⟩
  show JR E 2 mX8_pairs 0 [(0, .ref (E.1 (9, 0)))] [] S [.int r.1] r.2
  unfold fX8_pairs at h
  refine j_iconst (pc := 0) dX8_pairs_0 jci_0 ?_
  refine j_istore_n (pc := 1) (lv' := [(1, .int (0 : Int32)), (0, .ref (E.1 (9, 0)))]) dX8_pairs_1 rfl (by decide) rfl ?_
  refine j_iconst (pc := 2) dX8_pairs_2 jci_0 ?_
  refine j_istore_n (pc := 3) (lv' := [(2, .int (0 : Int32)), (1, .int (0 : Int32)), (0, .ref (E.1 (9, 0)))]) dX8_pairs_3 rfl (by decide) rfl ?_
  exact j_sub [2, 1, 0] rfl (kX8_pairs_4 hM 5000 h)
abbrev mX8_clash : jM := (yX8_clash, cX8_clash, 4, (some .int))
theorem okX8_clash : jOK mX8_clash 3 := ⟨by decide +kernel, tw_948, tw_84, by decide +kernel, by decide, by decide⟩
def bX8_clash_56  (S : jS) (x1 : Int32) (x2 : Int32) (x3 : Int32) (t0 : Int32) (t1 : Int32) : Option (Int32 × jS) :=
  (if t0 = t1 then some ((-2 : Int32), S) else (fX8_keeps S).bind fun y12 => (fX8_clashes (50, 0) y12 x1 x2 x3).bind fun y13 => (fX8_pairs y13).bind fun y14 => some (y14.1, y14.2))
set_option maxRecDepth 10000 in
set_option maxHeartbeats 4000000 in
theorem lX8_clash_56 {E : jE} (hM : jHM E) {S : jS} {x1 : Int32} {x2 : Int32} {x3 : Int32} {t0 : Int32} {t1 : Int32} {r : (Int32 × jS)} (h : bX8_clash_56  S x1 x2 x3 t0 t1 = some r) : JR E 3 mX8_clash 56 [(0, .ref (E.1 (9, 0))), (1, .int x1), (2, .int x2), (3, .int x3)] [.int t1, .int t0] S [.int r.1] r.2 := by
  unfold bX8_clash_56 at h
  refine j_icmp_ne (pc := 56) (tgt := 62) dX8_clash_56 (by decide) (fun c11 => ?_) (fun c11 => ?_)
  · replace h := jite_f h c11
    refine j_aload_n (pc := 62) 0 dX8_clash_62 rfl rfl ?_
    obtain ⟨y12, hy12, h⟩ := jbnd h
    refine j_callV (pc := 63) (N := mX8_keeps) (rr := (9, 0)) (As := []) (rest := []) (v := []) (S1 := y12) dX8_clash_63 (kX8_keeps hM hy12) (by simp) (by decide) okX8_keeps tw_931 tw_40 tw_929 (hM (9, 0) rfl) rfl rfl rfl rfl (by simp [Value.category]) ?_
    refine j_aload_n (pc := 66) 0 dX8_clash_66 rfl rfl ?_
    refine jg_9_0 (pc := 67) dX8_clash_67 (hM (9, 0) rfl) tw_777 ?_
    refine j_iload_n (pc := 70) 1 dX8_clash_70 rfl rfl ?_
    refine j_iload_n (pc := 71) 2 dX8_clash_71 rfl rfl ?_
    refine j_iload_n (pc := 72) 3 dX8_clash_72 rfl rfl ?_
    obtain ⟨y13, hy13, h⟩ := jbnd h
    refine j_callS (pc := 73) (N := mX8_clashes) (As := [.ref (E.1 (50, 0)), .int x1, .int x2, .int x3]) (rest := []) (v := []) (S1 := y13) dX8_clash_73 (kX8_clashes hM ⟨rfl, (hM (50, 0) rfl)⟩ hy13) (by simp) (by decide) okX8_clashes tw_771 tw_770 rfl rfl (by simp [Value.category]) ?_
    refine j_aload_n (pc := 76) 0 dX8_clash_76 rfl rfl ?_
    obtain ⟨y14, hy14, h⟩ := jbnd h
    refine j_callV (pc := 77) (N := mX8_pairs) (rr := (9, 0)) (As := []) (rest := []) (v := [.int y14.1]) (S1 := y14.2) dX8_clash_77 (kX8_pairs hM hy14) (by simp) (by decide) okX8_pairs tw_954 tw_42 tw_952 (hM (9, 0) rfl) rfl rfl rfl rfl (by simp [Value.category]) ?_
    cases h
    exact j_iret (pc := 80) dX8_clash_80 rfl rfl
  · replace h := jite_t h c11
    refine j_bipush (pc := 59) dX8_clash_59 jcb_m2 ?_
    cases h
    exact j_iret (pc := 61) dX8_clash_61 rfl rfl
def fX8_clash  (S : jS) (x1 : Int32) (x2 : Int32) (x3 : Int32) : Option (Int32 × jS) :=
  (fX8_isLink S x1).bind fun y1 => (if y1.1 = 0 then some ((-1 : Int32), y1.2) else (fX8_isLink y1.2 x2).bind fun y3 => (if y3.1 = 0 then some ((-1 : Int32), y3.2) else (if x1 = x2 then some ((-1 : Int32), y3.2) else (fX8_in y3.2 (x3.toInt64) (0 : Int64) (1 : Int64)).bind fun y6 => (if y6.1 = 0 then some ((-1 : Int32), y6.2) else if jIn ((36 : Int32) + x1) 815 then (fX8_has y6.2 (y6.2.2 (50, 0) ((36 : Int32) + x1).toNatClampNeg) x2).bind fun y9 => (if x3 = (1 : Int32) then bX8_clash_56 (y9.2) x1 x2 x3 y9.1 (1 : Int32) else bX8_clash_56 (y9.2) x1 x2 x3 y9.1 (0 : Int32)) else none))))
set_option maxRecDepth 10000 in
set_option maxHeartbeats 4000000 in
theorem kX8_clash {E : jE} (hM : jHM E) {S : jS} {x1 : Int32} {x2 : Int32} {x3 : Int32} {r : (Int32 × jS)} (h : fX8_clash  S x1 x2 x3 = some r) : jMR E 3 mX8_clash [.ref (E.1 (9, 0)), .int x1, .int x2, .int x3] S [.int r.1] r.2 := by
  refine ⟨Nat.le_of_ble_eq_true rfl, ?_⟩
  show JR E 3 mX8_clash 0 [(0, .ref (E.1 (9, 0))), (1, .int x1), (2, .int x2), (3, .int x3)] [] S [.int r.1] r.2
  unfold fX8_clash at h
  refine j_aload_n (pc := 0) 0 dX8_clash_0 rfl rfl ?_
  refine j_iload_n (pc := 1) 1 dX8_clash_1 rfl rfl ?_
  obtain ⟨y1, hy1, h⟩ := jbnd h
  refine j_callV (pc := 2) (N := mX8_isLink) (rr := (9, 0)) (As := [.int x1]) (rest := []) (v := [.int y1.1]) (S1 := y1.2) dX8_clash_2 (kX8_isLink hM hy1) (by simp) (by decide) okX8_isLink tw_939 tw_41 tw_937 (hM (9, 0) rfl) rfl rfl rfl rfl (by simp [Value.category]) ?_
  refine j_if_eq (pc := 5) (tgt := 31) dX8_clash_5 (by decide) (fun c2 => ?_) (fun c2 => ?_)
  · replace h := jite_t h c2
    refine j_iconst (pc := 31) dX8_clash_31 jci_m1 ?_
    cases h
    exact j_iret (pc := 32) dX8_clash_32 rfl rfl
  · replace h := jite_f h c2
    refine j_aload_n (pc := 8) 0 dX8_clash_8 rfl rfl ?_
    refine j_iload_n (pc := 9) 2 dX8_clash_9 rfl rfl ?_
    obtain ⟨y3, hy3, h⟩ := jbnd h
    refine j_callV (pc := 10) (N := mX8_isLink) (rr := (9, 0)) (As := [.int x2]) (rest := []) (v := [.int y3.1]) (S1 := y3.2) dX8_clash_10 (kX8_isLink hM hy3) (by simp) (by decide) okX8_isLink tw_939 tw_41 tw_937 (hM (9, 0) rfl) rfl rfl rfl rfl (by simp [Value.category]) ?_
    refine j_if_eq (pc := 13) (tgt := 31) dX8_clash_13 (by decide) (fun c4 => ?_) (fun c4 => ?_)
    · replace h := jite_t h c4
      refine j_iconst (pc := 31) dX8_clash_31 jci_m1 ?_
      cases h
      exact j_iret (pc := 32) dX8_clash_32 rfl rfl
    · replace h := jite_f h c4
      refine j_iload_n (pc := 16) 1 dX8_clash_16 rfl rfl ?_
      refine j_iload_n (pc := 17) 2 dX8_clash_17 rfl rfl ?_
      refine j_icmp_eq (pc := 18) (tgt := 31) dX8_clash_18 (by decide) (fun c5 => ?_) (fun c5 => ?_)
      · replace h := jite_t h c5
        refine j_iconst (pc := 31) dX8_clash_31 jci_m1 ?_
        cases h
        exact j_iret (pc := 32) dX8_clash_32 rfl rfl
      · replace h := jite_f h c5
        refine j_iload_n (pc := 21) 3 dX8_clash_21 rfl rfl ?_
        refine j_i2l (pc := 22) dX8_clash_22 ?_
        refine j_lconst (pc := 23) (v := (0 : Int64)) dX8_clash_23 rfl ?_
        refine j_lconst (pc := 24) (v := (1 : Int64)) dX8_clash_24 rfl ?_
        obtain ⟨y6, hy6, h⟩ := jbnd h
        refine j_callS (pc := 25) (N := mX8_in) (As := [.long (x3.toInt64), .long (0 : Int64), .long (1 : Int64)]) (rest := []) (v := [.int y6.1]) (S1 := y6.2) dX8_clash_25 (kX8_in hM hy6) (by simp) (by decide) okX8_in tw_846 tw_845 rfl rfl (by simp [Value.category]) ?_
        refine j_if_ne (pc := 28) (tgt := 33) dX8_clash_28 (by decide) (fun c7 => ?_) (fun c7 => ?_)
        · replace h := jite_f h c7
          refine j_aload_n (pc := 33) 0 dX8_clash_33 rfl rfl ?_
          refine jg_9_0 (pc := 34) dX8_clash_34 (hM (9, 0) rfl) tw_777 ?_
          refine j_bipush (pc := 37) dX8_clash_37 jcb_36 ?_
          refine j_iload_n (pc := 39) 1 dX8_clash_39 rfl rfl ?_
          refine j_iadd (pc := 40) dX8_clash_40 ?_
          obtain ⟨c8, h⟩ := jchk h
          refine j_ia (pc := 41) dX8_clash_41 rfl (hM (50, 0) rfl) c8 ?_
          refine j_iload_n (pc := 42) 2 dX8_clash_42 rfl rfl ?_
          obtain ⟨y9, hy9, h⟩ := jbnd h
          refine j_callS (pc := 43) (N := mX8_has) (As := [.int (y6.2.2 (50, 0) ((36 : Int32) + x1).toNatClampNeg), .int x2]) (rest := []) (v := [.int y9.1]) (S1 := y9.2) dX8_clash_43 (kX8_has hM hy9) (by simp) (by decide) okX8_has tw_950 tw_949 rfl rfl (by simp [Value.category]) ?_
          refine j_iload_n (pc := 46) 3 dX8_clash_46 rfl rfl ?_
          refine j_iconst (pc := 47) dX8_clash_47 jci_1 ?_
          refine j_icmp_ne (pc := 48) (tgt := 55) dX8_clash_48 (by decide) (fun c10 => ?_) (fun c10 => ?_)
          · replace h := jite_f h c10
            refine j_iconst (pc := 55) dX8_clash_55 jci_0 ?_
            exact j_sub [0, 1, 2, 3] rfl (lX8_clash_56 hM h)
          · replace h := jite_t h c10
            refine j_iconst (pc := 51) dX8_clash_51 jci_1 ?_
            refine j_goto (pc := 52) (tgt := 56) dX8_clash_52 (by decide) ?_
            exact j_sub [0, 1, 2, 3] rfl (lX8_clash_56 hM h)
        · replace h := jite_t h c7
          refine j_iconst (pc := 31) dX8_clash_31 jci_m1 ?_
          cases h
          exact j_iret (pc := 32) dX8_clash_32 rfl rfl
abbrev mX8_queuePlace : jM := (yX8_queuePlace, cX8_queuePlace, 2, (some .int))
theorem okX8_queuePlace : jOK mX8_queuePlace 2 := ⟨by decide +kernel, tw_970, tw_84, by decide +kernel, by decide, by decide⟩
def fX8_queuePlace  (S : jS) (x0 : Int32) (x1 : Int32) : Option (Int32 × jS) :=
  some ((77 : Int32) + ((41 : Int32) * (((3 : Int32) * x0) + x1)), S)
set_option maxRecDepth 10000 in
set_option maxHeartbeats 4000000 in
theorem kX8_queuePlace {E : jE} (hM : jHM E) {S : jS} {x0 : Int32} {x1 : Int32} {r : (Int32 × jS)} (h : fX8_queuePlace  S x0 x1 = some r) : jMR E 1 mX8_queuePlace [.int x0, .int x1] S [.int r.1] r.2 := by
  refine ⟨Nat.le_of_ble_eq_true rfl, ?_⟩
  show JR E 1 mX8_queuePlace 0 [(0, .int x0), (1, .int x1)] [] S [.int r.1] r.2
  unfold fX8_queuePlace at h
  refine j_bipush (pc := 0) dX8_queuePlace_0 jcb_77 ?_
  refine j_bipush (pc := 2) dX8_queuePlace_2 jcb_41 ?_
  refine j_iconst (pc := 4) dX8_queuePlace_4 jci_3 ?_
  refine j_iload_n (pc := 5) 0 dX8_queuePlace_5 rfl rfl ?_
  refine j_imul (pc := 6) dX8_queuePlace_6 ?_
  refine j_iload_n (pc := 7) 1 dX8_queuePlace_7 rfl rfl ?_
  refine j_iadd (pc := 8) dX8_queuePlace_8 ?_
  refine j_imul (pc := 9) dX8_queuePlace_9 ?_
  refine j_iadd (pc := 10) dX8_queuePlace_10 ?_
  cases h
  exact j_iret (pc := 11) dX8_queuePlace_11 rfl rfl
abbrev mX8_manyIn : jM := (yX8_manyIn, cX8_manyIn, 3, (some .int))
theorem okX8_manyIn : jOK mX8_manyIn 2 := ⟨by decide +kernel, tw_967, tw_84, by decide +kernel, by decide, by decide⟩
def fX8_manyIn  (S : jS) (x1 : Int32) (x2 : Int32) : Option (Int32 × jS) :=
  (fX8_queuePlace S x1 x2).bind fun y1 => if jIn y1.1 815 then some (y1.2.2 (50, 0) y1.1.toNatClampNeg, y1.2) else none
set_option maxRecDepth 10000 in
set_option maxHeartbeats 4000000 in
theorem kX8_manyIn {E : jE} (hM : jHM E) {S : jS} {x1 : Int32} {x2 : Int32} {r : (Int32 × jS)} (h : fX8_manyIn  S x1 x2 = some r) : jMR E 2 mX8_manyIn [.ref (E.1 (9, 0)), .int x1, .int x2] S [.int r.1] r.2 := by
  refine ⟨Nat.le_of_ble_eq_true rfl, ?_⟩
  show JR E 2 mX8_manyIn 0 [(0, .ref (E.1 (9, 0))), (1, .int x1), (2, .int x2)] [] S [.int r.1] r.2
  unfold fX8_manyIn at h
  refine j_aload_n (pc := 0) 0 dX8_manyIn_0 rfl rfl ?_
  refine jg_9_0 (pc := 1) dX8_manyIn_1 (hM (9, 0) rfl) tw_777 ?_
  refine j_iload_n (pc := 4) 1 dX8_manyIn_4 rfl rfl ?_
  refine j_iload_n (pc := 5) 2 dX8_manyIn_5 rfl rfl ?_
  obtain ⟨y1, hy1, h⟩ := jbnd h
  refine j_callS (pc := 6) (N := mX8_queuePlace) (As := [.int x1, .int x2]) (rest := [.ref (E.1 (50, 0))]) (v := [.int y1.1]) (S1 := y1.2) dX8_manyIn_6 (kX8_queuePlace hM hy1) (by simp) (by decide) okX8_queuePlace tw_969 tw_968 rfl rfl (by simp [Value.category]) ?_
  obtain ⟨c2, h⟩ := jchk h
  refine j_ia (pc := 9) dX8_manyIn_9 rfl (hM (50, 0) rfl) c2 ?_
  cases h
  exact j_iret (pc := 10) dX8_manyIn_10 rfl rfl
abbrev mX8_comes : jM := (yX8_comes, cX8_comes, 5, (some .boolean))
theorem okX8_comes : jOK mX8_comes 3 := ⟨by decide +kernel, tw_974, tw_84, by decide +kernel, by decide, by decide⟩
def fX8_comes  (S : jS) (x1 : Int32) (x2 : Int32) (x3 : Int32) : Option (Int32 × jS) :=
  (fX8_queuePlace S x1 x2).bind fun y1 => if jIn y1.1 815 then (if (y1.2.2 (50, 0) y1.1.toNatClampNeg) = (40 : Int32) then some ((0 : Int32), y1.2) else if jIn y1.1 815 then if jIn y1.1 815 then jlet (jput y1.2 (50, 0) (upd (y1.2.2 (50, 0)) y1.1.toNatClampNeg ((y1.2.2 (50, 0) y1.1.toNatClampNeg) + (1 : Int32)))) fun S6 => if jIn y1.1 815 then if jIn (y1.1 + (S6.2 (50, 0) y1.1.toNatClampNeg)) 815 then jlet (jput S6 (50, 0) (upd (S6.2 (50, 0)) (y1.1 + (S6.2 (50, 0) y1.1.toNatClampNeg)).toNatClampNeg x3)) fun S9 => some ((1 : Int32), S9) else none else none else none else none) else none
set_option maxRecDepth 10000 in
set_option maxHeartbeats 4000000 in
theorem kX8_comes {E : jE} (hM : jHM E) {S : jS} {x1 : Int32} {x2 : Int32} {x3 : Int32} {r : (Int32 × jS)} (h : fX8_comes  S x1 x2 x3 = some r) : jMR E 2 mX8_comes [.ref (E.1 (9, 0)), .int x1, .int x2, .int x3] S [.int r.1] r.2 := by
  refine ⟨Nat.le_of_ble_eq_true rfl, ?_⟩
  show JR E 2 mX8_comes 0 [(0, .ref (E.1 (9, 0))), (1, .int x1), (2, .int x2), (3, .int x3)] [] S [.int r.1] r.2
  unfold fX8_comes at h
  refine j_iload_n (pc := 0) 1 dX8_comes_0 rfl rfl ?_
  refine j_iload_n (pc := 1) 2 dX8_comes_1 rfl rfl ?_
  obtain ⟨y1, hy1, h⟩ := jbnd h
  refine j_callS (pc := 2) (N := mX8_queuePlace) (As := [.int x1, .int x2]) (rest := []) (v := [.int y1.1]) (S1 := y1.2) dX8_comes_2 (kX8_queuePlace hM hy1) (by simp) (by decide) okX8_queuePlace tw_969 tw_968 rfl rfl (by simp [Value.category]) ?_
  refine j_istore (pc := 5) (lv' := [(4, .int y1.1), (0, .ref (E.1 (9, 0))), (1, .int x1), (2, .int x2), (3, .int x3)]) dX8_comes_5 (by decide) rfl ?_
  refine j_aload_n (pc := 7) 1 dX8_comes_7 rfl rfl ?_
  refine jg_9_0 (pc := 8) dX8_comes_8 (hM (9, 0) rfl) tw_777 ?_
  refine j_iload (pc := 11) 0 dX8_comes_11 rfl ?_
  obtain ⟨c2, h⟩ := jchk h
  refine j_ia (pc := 13) dX8_comes_13 rfl (hM (50, 0) rfl) c2 ?_
  refine j_bipush (pc := 14) dX8_comes_14 jcb_40 ?_
  refine j_icmp_ne (pc := 16) (tgt := 21) dX8_comes_16 (by decide) (fun c3 => ?_) (fun c3 => ?_)
  · replace h := jite_f h c3
    refine j_aload_n (pc := 21) 1 dX8_comes_21 rfl rfl ?_
    refine jg_9_0 (pc := 22) dX8_comes_22 (hM (9, 0) rfl) tw_777 ?_
    refine j_iload (pc := 25) 0 dX8_comes_25 rfl ?_
    refine j_dup2 (pc := 27) dX8_comes_27 rfl rfl ?_
    obtain ⟨c4, h⟩ := jchk h
    refine j_ia (pc := 28) dX8_comes_28 rfl (hM (50, 0) rfl) c4 ?_
    refine j_iconst (pc := 29) dX8_comes_29 jci_1 ?_
    refine j_iadd (pc := 30) dX8_comes_30 ?_
    obtain ⟨c5, h⟩ := jchk h
    obtain ⟨S6, eS6, h⟩ := jlk h
    refine j_is (pc := 31) dX8_comes_31 rfl (hM (50, 0) rfl) c5 eS6 ?_
    refine j_aload_n (pc := 32) 1 dX8_comes_32 rfl rfl ?_
    refine jg_9_0 (pc := 33) dX8_comes_33 (hM (9, 0) rfl) tw_777 ?_
    refine j_iload (pc := 36) 0 dX8_comes_36 rfl ?_
    refine j_aload_n (pc := 38) 1 dX8_comes_38 rfl rfl ?_
    refine jg_9_0 (pc := 39) dX8_comes_39 (hM (9, 0) rfl) tw_777 ?_
    refine j_iload (pc := 42) 0 dX8_comes_42 rfl ?_
    obtain ⟨c7, h⟩ := jchk h
    refine j_ia (pc := 44) dX8_comes_44 rfl (hM (50, 0) rfl) c7 ?_
    refine j_iadd (pc := 45) dX8_comes_45 ?_
    refine j_iload_n (pc := 46) 4 dX8_comes_46 rfl rfl ?_
    obtain ⟨c8, h⟩ := jchk h
    obtain ⟨S9, eS9, h⟩ := jlk h
    refine j_is (pc := 47) dX8_comes_47 rfl (hM (50, 0) rfl) c8 eS9 ?_
    refine j_iconst (pc := 48) dX8_comes_48 jci_1 ?_
    cases h
    exact j_iret (pc := 49) dX8_comes_49 rfl rfl
  · replace h := jite_t h c3
    refine j_iconst (pc := 19) dX8_comes_19 jci_0 ?_
    cases h
    exact j_iret (pc := 20) dX8_comes_20 rfl rfl
abbrev mX8_leaves : jM := (yX8_leaves, cX8_leaves, 6, (some .int))
theorem okX8_leaves : jOK mX8_leaves 2 := ⟨by decide +kernel, tw_1034, tw_84, by decide +kernel, by decide, by decide⟩
def bX8_leaves_85  (S : jS) (x3 : Int32) (x4 : Int32) : Option (Int32 × jS) :=
  if jIn x3 815 then if jIn (x3 + (S.2 (50, 0) x3.toNatClampNeg)) 815 then jlet (jput S (50, 0) (upd (S.2 (50, 0)) (x3 + (S.2 (50, 0) x3.toNatClampNeg)).toNatClampNeg (0 : Int32))) fun S17 => if jIn x3 815 then if jIn x3 815 then jlet (jput S17 (50, 0) (upd (S17.2 (50, 0)) x3.toNatClampNeg ((S17.2 (50, 0) x3.toNatClampNeg) - (1 : Int32)))) fun S20 => some (x4, S20) else none else none else none else none
set_option maxRecDepth 10000 in
set_option maxHeartbeats 4000000 in
theorem lX8_leaves_85 {E : jE} (hM : jHM E) {S : jS} {x3 : Int32} {x4 : Int32} {r : (Int32 × jS)} (h : bX8_leaves_85  S x3 x4 = some r) : JR E 2 mX8_leaves 85 [(0, .ref (E.1 (9, 0))), (3, .int x3), (4, .int x4)] [] S [.int r.1] r.2 := by
  unfold bX8_leaves_85 at h
  refine j_aload_n (pc := 85) 0 dX8_leaves_85 rfl rfl ?_
  refine jg_9_0 (pc := 86) dX8_leaves_86 (hM (9, 0) rfl) tw_777 ?_
  refine j_iload_n (pc := 89) 1 dX8_leaves_89 rfl rfl ?_
  refine j_aload_n (pc := 90) 0 dX8_leaves_90 rfl rfl ?_
  refine jg_9_0 (pc := 91) dX8_leaves_91 (hM (9, 0) rfl) tw_777 ?_
  refine j_iload_n (pc := 94) 1 dX8_leaves_94 rfl rfl ?_
  obtain ⟨c15, h⟩ := jchk h
  refine j_ia (pc := 95) dX8_leaves_95 rfl (hM (50, 0) rfl) c15 ?_
  refine j_iadd (pc := 96) dX8_leaves_96 ?_
  refine j_iconst (pc := 97) dX8_leaves_97 jci_0 ?_
  obtain ⟨c16, h⟩ := jchk h
  obtain ⟨S17, eS17, h⟩ := jlk h
  refine j_is (pc := 98) dX8_leaves_98 rfl (hM (50, 0) rfl) c16 eS17 ?_
  refine j_aload_n (pc := 99) 0 dX8_leaves_99 rfl rfl ?_
  refine jg_9_0 (pc := 100) dX8_leaves_100 (hM (9, 0) rfl) tw_777 ?_
  refine j_iload_n (pc := 103) 1 dX8_leaves_103 rfl rfl ?_
  refine j_dup2 (pc := 104) dX8_leaves_104 rfl rfl ?_
  obtain ⟨c18, h⟩ := jchk h
  refine j_ia (pc := 105) dX8_leaves_105 rfl (hM (50, 0) rfl) c18 ?_
  refine j_iconst (pc := 106) dX8_leaves_106 jci_1 ?_
  refine j_isub (pc := 107) dX8_leaves_107 ?_
  obtain ⟨c19, h⟩ := jchk h
  obtain ⟨S20, eS20, h⟩ := jlk h
  refine j_is (pc := 108) dX8_leaves_108 rfl (hM (50, 0) rfl) c19 eS20 ?_
  refine j_iload (pc := 109) 2 dX8_leaves_109 rfl ?_
  cases h
  exact j_iret (pc := 111) dX8_leaves_111 rfl rfl
def bX8_leaves_38  (q38 : jS → Int32 → Int32 → Int32 → Option (Int32 × jS)) (S : jS) (x3 : Int32) (x4 : Int32) (x5 : Int32) : Option (Int32 × jS) :=
  if jIn x3 815 then (if (S.2 (50, 0) x3.toNatClampNeg) ≤ x5 then bX8_leaves_85 S x3 x4 else if jIn (65 : Int32) 815 then (if (S.2 (50, 0) (65 : Int32).toNatClampNeg) = 0 then if jIn ((x3 + x5) + (1 : Int32)) 815 then if jIn (x3 + x5) 815 then jlet (jput S (50, 0) (upd (S.2 (50, 0)) (x3 + x5).toNatClampNeg (S.2 (50, 0) ((x3 + x5) + (1 : Int32)).toNatClampNeg))) fun S13 => jlet (x5 + (1 : Int32)) fun v14 => q38 S13 x3 x4 v14 else none else none else bX8_leaves_85 S x3 x4) else none) else none
set_option maxRecDepth 10000 in
set_option maxHeartbeats 4000000 in
theorem lX8_leaves_38 {E : jE} (hM : jHM E) {q38 : jS → Int32 → Int32 → Int32 → Option (Int32 × jS)} (H38 : ∀ {S : jS} {x3 : Int32} {x4 : Int32} {x5 : Int32} {r : (Int32 × jS)}, q38 S x3 x4 x5 = some r → JR E 2 mX8_leaves 38 [(0, .ref (E.1 (9, 0))), (3, .int x3), (4, .int x4), (5, .int x5)] [] S [.int r.1] r.2) {S : jS} {x3 : Int32} {x4 : Int32} {x5 : Int32} {r : (Int32 × jS)} (h : bX8_leaves_38  q38 S x3 x4 x5 = some r) : JR E 2 mX8_leaves 38 [(0, .ref (E.1 (9, 0))), (3, .int x3), (4, .int x4), (5, .int x5)] [] S [.int r.1] r.2 := by
  unfold bX8_leaves_38 at h
  refine j_iload (pc := 38) 3 dX8_leaves_38 rfl ?_
  refine j_aload_n (pc := 40) 0 dX8_leaves_40 rfl rfl ?_
  refine jg_9_0 (pc := 41) dX8_leaves_41 (hM (9, 0) rfl) tw_777 ?_
  refine j_iload_n (pc := 44) 1 dX8_leaves_44 rfl rfl ?_
  obtain ⟨c7, h⟩ := jchk h
  refine j_ia (pc := 45) dX8_leaves_45 rfl (hM (50, 0) rfl) c7 ?_
  refine j_icmp_ge (pc := 46) (tgt := 85) dX8_leaves_46 (by decide) (fun c8 => ?_) (fun c8 => ?_)
  · replace h := jite_t h c8
    exact j_sub [0, 1, 2] rfl (lX8_leaves_85 hM h)
  · replace h := jite_f h c8
    refine j_aload_n (pc := 49) 0 dX8_leaves_49 rfl rfl ?_
    refine jg_9_0 (pc := 50) dX8_leaves_50 (hM (9, 0) rfl) tw_777 ?_
    refine j_bipush (pc := 53) dX8_leaves_53 jcb_65 ?_
    obtain ⟨c9, h⟩ := jchk h
    refine j_ia (pc := 55) dX8_leaves_55 rfl (hM (50, 0) rfl) c9 ?_
    refine j_if_ne (pc := 56) (tgt := 85) dX8_leaves_56 (by decide) (fun c10 => ?_) (fun c10 => ?_)
    · replace h := jite_f h c10
      exact j_sub [0, 1, 2] rfl (lX8_leaves_85 hM h)
    · replace h := jite_t h c10
      refine j_aload_n (pc := 59) 0 dX8_leaves_59 rfl rfl ?_
      refine jg_9_0 (pc := 60) dX8_leaves_60 (hM (9, 0) rfl) tw_777 ?_
      refine j_iload_n (pc := 63) 1 dX8_leaves_63 rfl rfl ?_
      refine j_iload (pc := 64) 3 dX8_leaves_64 rfl ?_
      refine j_iadd (pc := 66) dX8_leaves_66 ?_
      refine j_aload_n (pc := 67) 0 dX8_leaves_67 rfl rfl ?_
      refine jg_9_0 (pc := 68) dX8_leaves_68 (hM (9, 0) rfl) tw_777 ?_
      refine j_iload_n (pc := 71) 1 dX8_leaves_71 rfl rfl ?_
      refine j_iload (pc := 72) 3 dX8_leaves_72 rfl ?_
      refine j_iadd (pc := 74) dX8_leaves_74 ?_
      refine j_iconst (pc := 75) dX8_leaves_75 jci_1 ?_
      refine j_iadd (pc := 76) dX8_leaves_76 ?_
      obtain ⟨c11, h⟩ := jchk h
      refine j_ia (pc := 77) dX8_leaves_77 rfl (hM (50, 0) rfl) c11 ?_
      obtain ⟨c12, h⟩ := jchk h
      obtain ⟨S13, eS13, h⟩ := jlk h
      refine j_is (pc := 78) dX8_leaves_78 rfl (hM (50, 0) rfl) c12 eS13 ?_
      obtain ⟨v14, ev14, h⟩ := jlk h
      refine j_iinc (pc := 79) (v := v14) (lv' := [(5, .int v14), (0, .ref (E.1 (9, 0))), (3, .int x3), (4, .int x4)]) 3 dX8_leaves_79 rfl (by rw [ev14]; rfl) (by decide) rfl ?_
      refine j_goto (pc := 82) (tgt := 38) dX8_leaves_82 (by decide) ?_
      exact j_sub [1, 2, 3, 0] rfl (H38 h)
def fX8_leaves_38  : Nat → jS → Int32 → Int32 → Int32 → Option (Int32 × jS)
  | 0 => fun _ _ _ _ => none
  | n + 1 => bX8_leaves_38  (fX8_leaves_38  n)
theorem kX8_leaves_38 {E : jE} (hM : jHM E) (fu : Nat) : ∀ {S : jS} {x3 : Int32} {x4 : Int32} {x5 : Int32} {r : (Int32 × jS)}, fX8_leaves_38  fu S x3 x4 x5 = some r → JR E 2 mX8_leaves 38 [(0, .ref (E.1 (9, 0))), (3, .int x3), (4, .int x4), (5, .int x5)] [] S [.int r.1] r.2 := by
  induction fu with
  | zero => intro S x3 x4 x5 r h; cases h
  | succ n_ ih => intro S x3 x4 x5 r h; exact lX8_leaves_38 hM ih h
def bX8_leaves_31  (S : jS) (x3 : Int32) (t1 : Int32) (t2 : Int32) : Option (Int32 × jS) :=
  if jIn (t1 + t2) 815 then jlet (S.2 (50, 0) (t1 + t2).toNatClampNeg) fun v6 => fX8_leaves_38 5000 S x3 v6 (1 : Int32) else none
set_option maxRecDepth 10000 in
set_option maxHeartbeats 4000000 in
theorem lX8_leaves_31 {E : jE} (hM : jHM E) {S : jS} {x3 : Int32} {t1 : Int32} {t2 : Int32} {r : (Int32 × jS)} (h : bX8_leaves_31  S x3 t1 t2 = some r) : JR E 2 mX8_leaves 31 [(0, .ref (E.1 (9, 0))), (3, .int x3)] [.int t2, .int t1, .ref (E.1 (50, 0))] S [.int r.1] r.2 := by
  unfold bX8_leaves_31 at h
  refine j_iadd (pc := 31) dX8_leaves_31 ?_
  obtain ⟨c5, h⟩ := jchk h
  refine j_ia (pc := 32) dX8_leaves_32 rfl (hM (50, 0) rfl) c5 ?_
  obtain ⟨v6, ev6, h⟩ := jlk h
  refine j_topi ev6 ?_
  refine j_istore (pc := 33) (lv' := [(4, .int v6), (0, .ref (E.1 (9, 0))), (3, .int x3)]) dX8_leaves_33 (by decide) rfl ?_
  refine j_iconst (pc := 35) dX8_leaves_35 jci_1 ?_
  refine j_istore (pc := 36) (lv' := [(5, .int (1 : Int32)), (4, .int v6), (0, .ref (E.1 (9, 0))), (3, .int x3)]) dX8_leaves_36 (by decide) rfl ?_
  exact j_sub [2, 3, 1, 0] rfl (kX8_leaves_38 hM 5000 h)
def fX8_leaves  (S : jS) (x1 : Int32) (x2 : Int32) : Option (Int32 × jS) :=
  (fX8_queuePlace S x1 x2).bind fun y1 => if jIn (65 : Int32) 815 then (if (y1.2.2 (50, 0) (65 : Int32).toNatClampNeg) = 0 then bX8_leaves_31 (y1.2) y1.1 y1.1 (1 : Int32) else if jIn y1.1 815 then bX8_leaves_31 (y1.2) y1.1 y1.1 (y1.2.2 (50, 0) y1.1.toNatClampNeg) else none) else none
set_option maxRecDepth 10000 in
set_option maxHeartbeats 4000000 in
theorem kX8_leaves {E : jE} (hM : jHM E) {S : jS} {x1 : Int32} {x2 : Int32} {r : (Int32 × jS)} (h : fX8_leaves  S x1 x2 = some r) : jMR E 2 mX8_leaves [.ref (E.1 (9, 0)), .int x1, .int x2] S [.int r.1] r.2 := by
  refine ⟨Nat.le_of_ble_eq_true rfl, ?_⟩
  show JR E 2 mX8_leaves 0 [(0, .ref (E.1 (9, 0))), (1, .int x1), (2, .int x2)] [] S [.int r.1] r.2
  unfold fX8_leaves at h
  refine j_iload_n (pc := 0) 1 dX8_leaves_0 rfl rfl ?_
  refine j_iload_n (pc := 1) 2 dX8_leaves_1 rfl rfl ?_
  obtain ⟨y1, hy1, h⟩ := jbnd h
  refine j_callS (pc := 2) (N := mX8_queuePlace) (As := [.int x1, .int x2]) (rest := []) (v := [.int y1.1]) (S1 := y1.2) dX8_leaves_2 (kX8_queuePlace hM hy1) (by simp) (by decide) okX8_queuePlace tw_969 tw_968 rfl rfl (by simp [Value.category]) ?_
  refine j_istore_n (pc := 5) (lv' := [(3, .int y1.1), (0, .ref (E.1 (9, 0))), (1, .int x1), (2, .int x2)]) dX8_leaves_5 rfl (by decide) rfl ?_
  refine j_aload_n (pc := 6) 1 dX8_leaves_6 rfl rfl ?_
  refine jg_9_0 (pc := 7) dX8_leaves_7 (hM (9, 0) rfl) tw_777 ?_
  refine j_iload_n (pc := 10) 0 dX8_leaves_10 rfl rfl ?_
  refine j_aload_n (pc := 11) 1 dX8_leaves_11 rfl rfl ?_
  refine jg_9_0 (pc := 12) dX8_leaves_12 (hM (9, 0) rfl) tw_777 ?_
  refine j_bipush (pc := 15) dX8_leaves_15 jcb_65 ?_
  obtain ⟨c2, h⟩ := jchk h
  refine j_ia (pc := 17) dX8_leaves_17 rfl (hM (50, 0) rfl) c2 ?_
  refine j_if_ne (pc := 18) (tgt := 25) dX8_leaves_18 (by decide) (fun c3 => ?_) (fun c3 => ?_)
  · replace h := jite_f h c3
    refine j_aload_n (pc := 25) 1 dX8_leaves_25 rfl rfl ?_
    refine jg_9_0 (pc := 26) dX8_leaves_26 (hM (9, 0) rfl) tw_777 ?_
    refine j_iload_n (pc := 29) 0 dX8_leaves_29 rfl rfl ?_
    obtain ⟨c4, h⟩ := jchk h
    refine j_ia (pc := 30) dX8_leaves_30 rfl (hM (50, 0) rfl) c4 ?_
    exact j_sub [1, 0] rfl (lX8_leaves_31 hM h)
  · replace h := jite_t h c3
    refine j_iconst (pc := 21) dX8_leaves_21 jci_1 ?_
    refine j_goto (pc := 22) (tgt := 31) dX8_leaves_22 (by decide) ?_
    exact j_sub [1, 0] rfl (lX8_leaves_31 hM h)
abbrev mX8_put : jM := (yX8_put, cX8_put, 6, (some .int))
theorem okX8_put : jOK mX8_put 3 := ⟨by decide +kernel, tw_962, tw_84, by decide +kernel, by decide, by decide⟩
def bX8_put_81  (q49 : jS → Int32 → Int32 → Int32 → Int32 → Int32 → Option (Int32 × jS)) (S : jS) (x1 : Int32) (x2 : Int32) (x3 : Int32) (x5 : Int32) (t0 : Int32) : Option (Int32 × jS) :=
  jlet (x5 + (1 : Int32)) fun v15 => q49 S x1 x2 x3 t0 v15
set_option maxRecDepth 10000 in
set_option maxHeartbeats 4000000 in
theorem lX8_put_81 {E : jE} (hM : jHM E) {q49 : jS → Int32 → Int32 → Int32 → Int32 → Int32 → Option (Int32 × jS)} (H49 : ∀ {S : jS} {x1 : Int32} {x2 : Int32} {x3 : Int32} {x4 : Int32} {x5 : Int32} {r : (Int32 × jS)}, q49 S x1 x2 x3 x4 x5 = some r → JR E 4 mX8_put 49 [(0, .ref (E.1 (9, 0))), (1, .int x1), (2, .int x2), (3, .int x3), (4, .int x4), (5, .int x5)] [] S [.int r.1] r.2) {S : jS} {x1 : Int32} {x2 : Int32} {x3 : Int32} {x5 : Int32} {t0 : Int32} {r : (Int32 × jS)} (h : bX8_put_81  q49 S x1 x2 x3 x5 t0 = some r) : JR E 4 mX8_put 81 [(0, .ref (E.1 (9, 0))), (1, .int x1), (2, .int x2), (3, .int x3), (5, .int x5)] [.int t0] S [.int r.1] r.2 := by
  unfold bX8_put_81 at h
  refine j_istore (pc := 81) (lv' := [(4, .int t0), (0, .ref (E.1 (9, 0))), (1, .int x1), (2, .int x2), (3, .int x3), (5, .int x5)]) dX8_put_81 (by decide) rfl ?_
  obtain ⟨v15, ev15, h⟩ := jlk h
  refine j_iinc (pc := 83) (v := v15) (lv' := [(5, .int v15), (4, .int t0), (0, .ref (E.1 (9, 0))), (1, .int x1), (2, .int x2), (3, .int x3)]) 5 dX8_put_83 rfl (by rw [ev15]; rfl) (by decide) rfl ?_
  refine j_goto (pc := 86) (tgt := 49) dX8_put_86 (by decide) ?_
  exact j_sub [2, 3, 4, 5, 1, 0] rfl (H49 h)
def bX8_put_80  (q49 : jS → Int32 → Int32 → Int32 → Int32 → Int32 → Option (Int32 × jS)) (S : jS) (x1 : Int32) (x2 : Int32) (x3 : Int32) (x5 : Int32) : Option (Int32 × jS) :=
  bX8_put_81 q49 S x1 x2 x3 x5 (0 : Int32)
set_option maxRecDepth 10000 in
set_option maxHeartbeats 4000000 in
theorem lX8_put_80 {E : jE} (hM : jHM E) {q49 : jS → Int32 → Int32 → Int32 → Int32 → Int32 → Option (Int32 × jS)} (H49 : ∀ {S : jS} {x1 : Int32} {x2 : Int32} {x3 : Int32} {x4 : Int32} {x5 : Int32} {r : (Int32 × jS)}, q49 S x1 x2 x3 x4 x5 = some r → JR E 4 mX8_put 49 [(0, .ref (E.1 (9, 0))), (1, .int x1), (2, .int x2), (3, .int x3), (4, .int x4), (5, .int x5)] [] S [.int r.1] r.2) {S : jS} {x1 : Int32} {x2 : Int32} {x3 : Int32} {x5 : Int32} {r : (Int32 × jS)} (h : bX8_put_80  q49 S x1 x2 x3 x5 = some r) : JR E 4 mX8_put 80 [(0, .ref (E.1 (9, 0))), (1, .int x1), (2, .int x2), (3, .int x3), (5, .int x5)] [] S [.int r.1] r.2 := by
  unfold bX8_put_80 at h
  refine j_iconst (pc := 80) dX8_put_80 jci_0 ?_
  exact j_sub [0, 1, 2, 3, 4] rfl (lX8_put_81 hM H49 h)
def bX8_put_49  (q49 : jS → Int32 → Int32 → Int32 → Int32 → Int32 → Option (Int32 × jS)) (S : jS) (x1 : Int32) (x2 : Int32) (x3 : Int32) (x4 : Int32) (x5 : Int32) : Option (Int32 × jS) :=
  (if x3 ≤ x5 then (if x4 = 0 then some ((-3 : Int32), S) else (fX8_manyIn S x1 x2).bind fun y10 => some (y10.1, y10.2)) else if jIn (66 : Int32) 815 then (fX8_comes S x1 x2 (S.2 (50, 0) (66 : Int32).toNatClampNeg)).bind fun y12 => (if y12.1 = 0 then bX8_put_80 q49 (y12.2) x1 x2 x3 x5 else (if x4 = 0 then bX8_put_80 q49 (y12.2) x1 x2 x3 x5 else bX8_put_81 q49 (y12.2) x1 x2 x3 x5 (1 : Int32))) else none)
set_option maxRecDepth 10000 in
set_option maxHeartbeats 4000000 in
theorem lX8_put_49 {E : jE} (hM : jHM E) {q49 : jS → Int32 → Int32 → Int32 → Int32 → Int32 → Option (Int32 × jS)} (H49 : ∀ {S : jS} {x1 : Int32} {x2 : Int32} {x3 : Int32} {x4 : Int32} {x5 : Int32} {r : (Int32 × jS)}, q49 S x1 x2 x3 x4 x5 = some r → JR E 4 mX8_put 49 [(0, .ref (E.1 (9, 0))), (1, .int x1), (2, .int x2), (3, .int x3), (4, .int x4), (5, .int x5)] [] S [.int r.1] r.2) {S : jS} {x1 : Int32} {x2 : Int32} {x3 : Int32} {x4 : Int32} {x5 : Int32} {r : (Int32 × jS)} (h : bX8_put_49  q49 S x1 x2 x3 x4 x5 = some r) : JR E 4 mX8_put 49 [(0, .ref (E.1 (9, 0))), (1, .int x1), (2, .int x2), (3, .int x3), (4, .int x4), (5, .int x5)] [] S [.int r.1] r.2 := by
  unfold bX8_put_49 at h
  refine j_iload (pc := 49) 5 dX8_put_49 rfl ?_
  refine j_iload_n (pc := 51) 3 dX8_put_51 rfl rfl ?_
  refine j_icmp_ge (pc := 52) (tgt := 89) dX8_put_52 (by decide) (fun c8 => ?_) (fun c8 => ?_)
  · replace h := jite_t h c8
    refine j_iload (pc := 89) 4 dX8_put_89 rfl ?_
    refine j_if_eq (pc := 91) (tgt := 103) dX8_put_91 (by decide) (fun c9 => ?_) (fun c9 => ?_)
    · replace h := jite_t h c9
      refine j_bipush (pc := 103) dX8_put_103 jcb_m3 ?_
      cases h
      exact j_iret (pc := 105) dX8_put_105 rfl rfl
    · replace h := jite_f h c9
      refine j_aload_n (pc := 94) 0 dX8_put_94 rfl rfl ?_
      refine j_iload_n (pc := 95) 1 dX8_put_95 rfl rfl ?_
      refine j_iload_n (pc := 96) 2 dX8_put_96 rfl rfl ?_
      obtain ⟨y10, hy10, h⟩ := jbnd h
      refine j_callV (pc := 97) (N := mX8_manyIn) (rr := (9, 0)) (As := [.int x1, .int x2]) (rest := []) (v := [.int y10.1]) (S1 := y10.2) dX8_put_97 (kX8_manyIn hM hy10) (by simp) (by decide) okX8_manyIn tw_966 tw_43 tw_964 (hM (9, 0) rfl) rfl rfl rfl rfl (by simp [Value.category]) ?_
      refine j_goto (pc := 100) (tgt := 105) dX8_put_100 (by decide) ?_
      cases h
      exact j_iret (pc := 105) dX8_put_105 rfl rfl
  · replace h := jite_f h c8
    refine j_aload_n (pc := 55) 0 dX8_put_55 rfl rfl ?_
    refine j_iload_n (pc := 56) 1 dX8_put_56 rfl rfl ?_
    refine j_iload_n (pc := 57) 2 dX8_put_57 rfl rfl ?_
    refine j_aload_n (pc := 58) 0 dX8_put_58 rfl rfl ?_
    refine jg_9_0 (pc := 59) dX8_put_59 (hM (9, 0) rfl) tw_777 ?_
    refine j_bipush (pc := 62) dX8_put_62 jcb_66 ?_
    obtain ⟨c11, h⟩ := jchk h
    refine j_ia (pc := 64) dX8_put_64 rfl (hM (50, 0) rfl) c11 ?_
    obtain ⟨y12, hy12, h⟩ := jbnd h
    refine j_callV (pc := 65) (N := mX8_comes) (rr := (9, 0)) (As := [.int x1, .int x2, .int (S.2 (50, 0) (66 : Int32).toNatClampNeg)]) (rest := []) (v := [.int y12.1]) (S1 := y12.2) dX8_put_65 (kX8_comes hM hy12) (by simp) (by decide) okX8_comes tw_973 tw_44 tw_971 (hM (9, 0) rfl) rfl rfl rfl rfl (by simp [Value.category]) ?_
    refine j_if_eq (pc := 68) (tgt := 80) dX8_put_68 (by decide) (fun c13 => ?_) (fun c13 => ?_)
    · replace h := jite_t h c13
      exact j_sub [0, 1, 2, 3, 5] rfl (lX8_put_80 hM H49 h)
    · replace h := jite_f h c13
      refine j_iload (pc := 71) 4 dX8_put_71 rfl ?_
      refine j_if_eq (pc := 73) (tgt := 80) dX8_put_73 (by decide) (fun c14 => ?_) (fun c14 => ?_)
      · replace h := jite_t h c14
        exact j_sub [0, 1, 2, 3, 5] rfl (lX8_put_80 hM H49 h)
      · replace h := jite_f h c14
        refine j_iconst (pc := 76) dX8_put_76 jci_1 ?_
        refine j_goto (pc := 77) (tgt := 81) dX8_put_77 (by decide) ?_
        exact j_sub [0, 1, 2, 3, 5] rfl (lX8_put_81 hM H49 h)
def fX8_put_49  : Nat → jS → Int32 → Int32 → Int32 → Int32 → Int32 → Option (Int32 × jS)
  | 0 => fun _ _ _ _ _ _ => none
  | n + 1 => bX8_put_49  (fX8_put_49  n)
theorem kX8_put_49 {E : jE} (hM : jHM E) (fu : Nat) : ∀ {S : jS} {x1 : Int32} {x2 : Int32} {x3 : Int32} {x4 : Int32} {x5 : Int32} {r : (Int32 × jS)}, fX8_put_49  fu S x1 x2 x3 x4 x5 = some r → JR E 4 mX8_put 49 [(0, .ref (E.1 (9, 0))), (1, .int x1), (2, .int x2), (3, .int x3), (4, .int x4), (5, .int x5)] [] S [.int r.1] r.2 := by
  induction fu with
  | zero => intro S x1 x2 x3 x4 x5 r h; cases h
  | succ n_ ih => intro S x1 x2 x3 x4 x5 r h; exact lX8_put_49 hM ih h
def fX8_put  (S : jS) (x1 : Int32) (x2 : Int32) (x3 : Int32) : Option (Int32 × jS) :=
  (fX8_isQueue S x1 x2).bind fun y1 => (if y1.1 = 0 then some ((-1 : Int32), y1.2) else (fX8_in y1.2 (x3.toInt64) (1 : Int64) (40 : Int64)).bind fun y3 => (if y3.1 = 0 then some ((-1 : Int32), y3.2) else (fX8_manyIn y3.2 x1 x2).bind fun y5 => (if (y5.1 + x3) ≤ (40 : Int32) then (fX8_keeps y5.2).bind fun y7 => fX8_put_49 5000 y7 x1 x2 x3 (1 : Int32) (0 : Int32) else some ((-3 : Int32), y5.2))))
set_option maxRecDepth 10000 in
set_option maxHeartbeats 4000000 in
theorem kX8_put {E : jE} (hM : jHM E) {S : jS} {x1 : Int32} {x2 : Int32} {x3 : Int32} {r : (Int32 × jS)} (h : fX8_put  S x1 x2 x3 = some r) : jMR E 4 mX8_put [.ref (E.1 (9, 0)), .int x1, .int x2, .int x3] S [.int r.1] r.2 := by
  refine ⟨Nat.le_of_ble_eq_true rfl, ?_⟩
  show JR E 4 mX8_put 0 [(0, .ref (E.1 (9, 0))), (1, .int x1), (2, .int x2), (3, .int x3)] [] S [.int r.1] r.2
  unfold fX8_put at h
  refine j_aload_n (pc := 0) 0 dX8_put_0 rfl rfl ?_
  refine j_iload_n (pc := 1) 1 dX8_put_1 rfl rfl ?_
  refine j_iload_n (pc := 2) 2 dX8_put_2 rfl rfl ?_
  obtain ⟨y1, hy1, h⟩ := jbnd h
  refine j_callV (pc := 3) (N := mX8_isQueue) (rr := (9, 0)) (As := [.int x1, .int x2]) (rest := []) (v := [.int y1.1]) (S1 := y1.2) dX8_put_3 (kX8_isQueue hM hy1) (by simp) (by decide) okX8_isQueue tw_915 tw_36 tw_913 (hM (9, 0) rfl) rfl rfl rfl rfl (by simp [Value.category]) ?_
  refine j_if_eq (pc := 6) (tgt := 21) dX8_put_6 (by decide) (fun c2 => ?_) (fun c2 => ?_)
  · replace h := jite_t h c2
    refine j_iconst (pc := 21) dX8_put_21 jci_m1 ?_
    cases h
    exact j_iret (pc := 22) dX8_put_22 rfl rfl
  · replace h := jite_f h c2
    refine j_iload_n (pc := 9) 3 dX8_put_9 rfl rfl ?_
    refine j_i2l (pc := 10) dX8_put_10 ?_
    refine j_lconst (pc := 11) (v := (1 : Int64)) dX8_put_11 rfl ?_
    refine j_ldc2 (pc := 12) (v := (40 : Int64)) dX8_put_12 tw_963 ?_
    obtain ⟨y3, hy3, h⟩ := jbnd h
    refine j_callS (pc := 15) (N := mX8_in) (As := [.long (x3.toInt64), .long (1 : Int64), .long (40 : Int64)]) (rest := []) (v := [.int y3.1]) (S1 := y3.2) dX8_put_15 (kX8_in hM hy3) (by simp) (by decide) okX8_in tw_846 tw_845 rfl rfl (by simp [Value.category]) ?_
    refine j_if_ne (pc := 18) (tgt := 23) dX8_put_18 (by decide) (fun c4 => ?_) (fun c4 => ?_)
    · replace h := jite_f h c4
      refine j_aload_n (pc := 23) 0 dX8_put_23 rfl rfl ?_
      refine j_iload_n (pc := 24) 1 dX8_put_24 rfl rfl ?_
      refine j_iload_n (pc := 25) 2 dX8_put_25 rfl rfl ?_
      obtain ⟨y5, hy5, h⟩ := jbnd h
      refine j_callV (pc := 26) (N := mX8_manyIn) (rr := (9, 0)) (As := [.int x1, .int x2]) (rest := []) (v := [.int y5.1]) (S1 := y5.2) dX8_put_26 (kX8_manyIn hM hy5) (by simp) (by decide) okX8_manyIn tw_966 tw_43 tw_964 (hM (9, 0) rfl) rfl rfl rfl rfl (by simp [Value.category]) ?_
      refine j_iload_n (pc := 29) 3 dX8_put_29 rfl rfl ?_
      refine j_iadd (pc := 30) dX8_put_30 ?_
      refine j_bipush (pc := 31) dX8_put_31 jcb_40 ?_
      refine j_icmp_le (pc := 33) (tgt := 39) dX8_put_33 (by decide) (fun c6 => ?_) (fun c6 => ?_)
      · replace h := jite_t h c6
        refine j_aload_n (pc := 39) 0 dX8_put_39 rfl rfl ?_
        obtain ⟨y7, hy7, h⟩ := jbnd h
        refine j_callV (pc := 40) (N := mX8_keeps) (rr := (9, 0)) (As := []) (rest := []) (v := []) (S1 := y7) dX8_put_40 (kX8_keeps hM hy7) (by simp) (by decide) okX8_keeps tw_931 tw_40 tw_929 (hM (9, 0) rfl) rfl rfl rfl rfl (by simp [Value.category]) ?_
        refine j_iconst (pc := 43) dX8_put_43 jci_1 ?_
        refine j_istore (pc := 44) (lv' := [(4, .int (1 : Int32)), (0, .ref (E.1 (9, 0))), (1, .int x1), (2, .int x2), (3, .int x3)]) dX8_put_44 (by decide) rfl ?_
        refine j_iconst (pc := 46) dX8_put_46 jci_0 ?_
        refine j_istore (pc := 47) (lv' := [(5, .int (0 : Int32)), (4, .int (1 : Int32)), (0, .ref (E.1 (9, 0))), (1, .int x1), (2, .int x2), (3, .int x3)]) dX8_put_47 (by decide) rfl ?_
        exact j_sub [2, 3, 4, 5, 1, 0] rfl (kX8_put_49 hM 5000 h)
      · replace h := jite_f h c6
        refine j_bipush (pc := 36) dX8_put_36 jcb_m3 ?_
        cases h
        exact j_iret (pc := 38) dX8_put_38 rfl rfl
    · replace h := jite_t h c4
      refine j_iconst (pc := 21) dX8_put_21 jci_m1 ?_
      cases h
      exact j_iret (pc := 22) dX8_put_22 rfl rfl
abbrev mX8_firstOf : jM := (yX8_firstOf, cX8_firstOf, 2, (some .int))
theorem okX8_firstOf : jOK mX8_firstOf 1 := ⟨by decide +kernel, tw_1003, tw_84, by decide +kernel, by decide, by decide⟩
def fX8_firstOf  (S : jS) (x1 : Int32) : Option (Int32 × jS) :=
  if jIn ((6 : Int32) + ((3 : Int32) * x1)) 815 then some (S.2 (50, 0) ((6 : Int32) + ((3 : Int32) * x1)).toNatClampNeg, S) else none
set_option maxRecDepth 10000 in
set_option maxHeartbeats 4000000 in
theorem kX8_firstOf {E : jE} (hM : jHM E) {S : jS} {x1 : Int32} {r : (Int32 × jS)} (h : fX8_firstOf  S x1 = some r) : jMR E 1 mX8_firstOf [.ref (E.1 (9, 0)), .int x1] S [.int r.1] r.2 := by
  refine ⟨Nat.le_of_ble_eq_true rfl, ?_⟩
  show JR E 1 mX8_firstOf 0 [(0, .ref (E.1 (9, 0))), (1, .int x1)] [] S [.int r.1] r.2
  unfold fX8_firstOf at h
  refine j_aload_n (pc := 0) 0 dX8_firstOf_0 rfl rfl ?_
  refine jg_9_0 (pc := 1) dX8_firstOf_1 (hM (9, 0) rfl) tw_777 ?_
  refine j_bipush (pc := 4) dX8_firstOf_4 jcb_6 ?_
  refine j_iconst (pc := 6) dX8_firstOf_6 jci_3 ?_
  refine j_iload_n (pc := 7) 1 dX8_firstOf_7 rfl rfl ?_
  refine j_imul (pc := 8) dX8_firstOf_8 ?_
  refine j_iadd (pc := 9) dX8_firstOf_9 ?_
  obtain ⟨c1, h⟩ := jchk h
  refine j_ia (pc := 10) dX8_firstOf_10 rfl (hM (50, 0) rfl) c1 ?_
  cases h
  exact j_iret (pc := 11) dX8_firstOf_11 rfl rfl
abbrev mX8_secondOf : jM := (yX8_secondOf, cX8_secondOf, 2, (some .int))
theorem okX8_secondOf : jOK mX8_secondOf 1 := ⟨by decide +kernel, tw_1007, tw_84, by decide +kernel, by decide, by decide⟩
def fX8_secondOf  (S : jS) (x1 : Int32) : Option (Int32 × jS) :=
  if jIn (((6 : Int32) + ((3 : Int32) * x1)) + (1 : Int32)) 815 then some (S.2 (50, 0) (((6 : Int32) + ((3 : Int32) * x1)) + (1 : Int32)).toNatClampNeg, S) else none
set_option maxRecDepth 10000 in
set_option maxHeartbeats 4000000 in
theorem kX8_secondOf {E : jE} (hM : jHM E) {S : jS} {x1 : Int32} {r : (Int32 × jS)} (h : fX8_secondOf  S x1 = some r) : jMR E 1 mX8_secondOf [.ref (E.1 (9, 0)), .int x1] S [.int r.1] r.2 := by
  refine ⟨Nat.le_of_ble_eq_true rfl, ?_⟩
  show JR E 1 mX8_secondOf 0 [(0, .ref (E.1 (9, 0))), (1, .int x1)] [] S [.int r.1] r.2
  unfold fX8_secondOf at h
  refine j_aload_n (pc := 0) 0 dX8_secondOf_0 rfl rfl ?_
  refine jg_9_0 (pc := 1) dX8_secondOf_1 (hM (9, 0) rfl) tw_777 ?_
  refine j_bipush (pc := 4) dX8_secondOf_4 jcb_6 ?_
  refine j_iconst (pc := 6) dX8_secondOf_6 jci_3 ?_
  refine j_iload_n (pc := 7) 1 dX8_secondOf_7 rfl rfl ?_
  refine j_imul (pc := 8) dX8_secondOf_8 ?_
  refine j_iadd (pc := 9) dX8_secondOf_9 ?_
  refine j_iconst (pc := 10) dX8_secondOf_10 jci_1 ?_
  refine j_iadd (pc := 11) dX8_secondOf_11 ?_
  obtain ⟨c1, h⟩ := jchk h
  refine j_ia (pc := 12) dX8_secondOf_12 rfl (hM (50, 0) rfl) c1 ?_
  cases h
  exact j_iret (pc := 13) dX8_secondOf_13 rfl rfl
abbrev mX8_findsHops : jM := (yX8_findsHops, cX8_findsHops, 6, none)
theorem okX8_findsHops : jOK mX8_findsHops 0 := ⟨by decide +kernel, tw_999, tw_84, by decide +kernel, by decide, by decide⟩
def bX8_findsHops_131  (q24 : jS → Int32 → Option jS) (q54 : jS → Int32 → Int32 → Option jS) (q62 : jS → Int32 → Int32 → Int32 → Option jS) (S : jS) (x1 : Int32) (x2 : Int32) (x3 : Int32) (t1 : Int32) (t2 : Int32) : Option jS :=
  if jIn t1 18 then jlet (jput S (56, 0) (upd (S.2 (56, 0)) t1.toNatClampNeg t2)) fun S24 => jlet (x3 + (1 : Int32)) fun v25 => q62 S24 x1 x2 v25 else none
set_option maxRecDepth 10000 in
set_option maxHeartbeats 4000000 in
theorem lX8_findsHops_131 {E : jE} (hM : jHM E) {q24 : jS → Int32 → Option jS} (H24 : ∀ {S : jS} {x1 : Int32} {r : jS}, q24 S x1 = some r → JR E 2 mX8_findsHops 24 [(0, .ref (E.1 (9, 0))), (1, .int x1)] [] S [] r) {q54 : jS → Int32 → Int32 → Option jS} (H54 : ∀ {S : jS} {x1 : Int32} {x2 : Int32} {r : jS}, q54 S x1 x2 = some r → JR E 2 mX8_findsHops 54 [(0, .ref (E.1 (9, 0))), (1, .int x1), (2, .int x2)] [] S [] r) {q62 : jS → Int32 → Int32 → Int32 → Option jS} (H62 : ∀ {S : jS} {x1 : Int32} {x2 : Int32} {x3 : Int32} {r : jS}, q62 S x1 x2 x3 = some r → JR E 2 mX8_findsHops 62 [(0, .ref (E.1 (9, 0))), (1, .int x1), (2, .int x2), (3, .int x3)] [] S [] r) {S : jS} {x1 : Int32} {x2 : Int32} {x3 : Int32} {t1 : Int32} {t2 : Int32} {r : jS} (h : bX8_findsHops_131  q24 q54 q62 S x1 x2 x3 t1 t2 = some r) : JR E 2 mX8_findsHops 131 [(0, .ref (E.1 (9, 0))), (1, .int x1), (2, .int x2), (3, .int x3)] [.int t2, .int t1, .ref (E.1 (56, 0))] S [] r := by
  unfold bX8_findsHops_131 at h
  obtain ⟨c23, h⟩ := jchk h
  obtain ⟨S24, eS24, h⟩ := jlk h
  refine j_is (pc := 131) dX8_findsHops_131 rfl (hM (56, 0) rfl) c23 eS24 ?_
  obtain ⟨v25, ev25, h⟩ := jlk h
  refine j_iinc (pc := 132) (v := v25) (lv' := [(3, .int v25), (0, .ref (E.1 (9, 0))), (1, .int x1), (2, .int x2)]) 3 dX8_findsHops_132 rfl (by rw [ev25]; rfl) (by decide) rfl ?_
  refine j_goto (pc := 135) (tgt := 62) dX8_findsHops_135 (by decide) ?_
  exact j_sub [1, 2, 3, 0] rfl (H62 h)
def bX8_findsHops_62  (q24 : jS → Int32 → Option jS) (q54 : jS → Int32 → Int32 → Option jS) (q62 : jS → Int32 → Int32 → Int32 → Option jS) (S : jS) (x1 : Int32) (x2 : Int32) (x3 : Int32) : Option jS :=
  if jIn (5 : Int32) 815 then (if (S.2 (50, 0) (5 : Int32).toNatClampNeg) ≤ x3 then jlet (x2 + (1 : Int32)) fun v14 => q54 S x1 v14 else (fX8_firstOf S x3).bind fun y15 => jlet (((3 : Int32) * y15.1) + x1) fun v16 => (fX8_secondOf y15.2 x3).bind fun y17 => if jIn (((3 : Int32) * y17.1) + x1) 18 then jlet ((y17.2.2 (56, 0) (((3 : Int32) * y17.1) + x1).toNatClampNeg) + (1 : Int32)) fun v19 => if jIn v16 18 then (if (y17.2.2 (56, 0) v16.toNatClampNeg) ≤ v19 then if jIn v16 18 then bX8_findsHops_131 q24 q54 q62 (y17.2) x1 x2 x3 v16 (y17.2.2 (56, 0) v16.toNatClampNeg) else none else bX8_findsHops_131 q24 q54 q62 (y17.2) x1 x2 x3 v16 v19) else none else none) else none
set_option maxRecDepth 10000 in
set_option maxHeartbeats 4000000 in
theorem lX8_findsHops_62 {E : jE} (hM : jHM E) {q24 : jS → Int32 → Option jS} (H24 : ∀ {S : jS} {x1 : Int32} {r : jS}, q24 S x1 = some r → JR E 2 mX8_findsHops 24 [(0, .ref (E.1 (9, 0))), (1, .int x1)] [] S [] r) {q54 : jS → Int32 → Int32 → Option jS} (H54 : ∀ {S : jS} {x1 : Int32} {x2 : Int32} {r : jS}, q54 S x1 x2 = some r → JR E 2 mX8_findsHops 54 [(0, .ref (E.1 (9, 0))), (1, .int x1), (2, .int x2)] [] S [] r) {q62 : jS → Int32 → Int32 → Int32 → Option jS} (H62 : ∀ {S : jS} {x1 : Int32} {x2 : Int32} {x3 : Int32} {r : jS}, q62 S x1 x2 x3 = some r → JR E 2 mX8_findsHops 62 [(0, .ref (E.1 (9, 0))), (1, .int x1), (2, .int x2), (3, .int x3)] [] S [] r) {S : jS} {x1 : Int32} {x2 : Int32} {x3 : Int32} {r : jS} (h : bX8_findsHops_62  q24 q54 q62 S x1 x2 x3 = some r) : JR E 2 mX8_findsHops 62 [(0, .ref (E.1 (9, 0))), (1, .int x1), (2, .int x2), (3, .int x3)] [] S [] r := by
  unfold bX8_findsHops_62 at h
  refine j_iload_n (pc := 62) 3 dX8_findsHops_62 rfl rfl ?_
  refine j_aload_n (pc := 63) 0 dX8_findsHops_63 rfl rfl ?_
  refine jg_9_0 (pc := 64) dX8_findsHops_64 (hM (9, 0) rfl) tw_777 ?_
  refine j_iconst (pc := 67) dX8_findsHops_67 jci_5 ?_
  obtain ⟨c12, h⟩ := jchk h
  refine j_ia (pc := 68) dX8_findsHops_68 rfl (hM (50, 0) rfl) c12 ?_
  refine j_icmp_ge (pc := 69) (tgt := 138) dX8_findsHops_69 (by decide) (fun c13 => ?_) (fun c13 => ?_)
  · replace h := jite_t h c13
    obtain ⟨v14, ev14, h⟩ := jlk h
    refine j_iinc (pc := 138) (v := v14) (lv' := [(2, .int v14), (0, .ref (E.1 (9, 0))), (1, .int x1), (3, .int x3)]) 2 dX8_findsHops_138 rfl (by rw [ev14]; rfl) (by decide) rfl ?_
    refine j_goto (pc := 141) (tgt := 54) dX8_findsHops_141 (by decide) ?_
    exact j_sub [1, 2, 0] rfl (H54 h)
  · replace h := jite_f h c13
    refine j_iconst (pc := 72) dX8_findsHops_72 jci_3 ?_
    refine j_aload_n (pc := 73) 0 dX8_findsHops_73 rfl rfl ?_
    refine j_iload_n (pc := 74) 3 dX8_findsHops_74 rfl rfl ?_
    obtain ⟨y15, hy15, h⟩ := jbnd h
    refine j_callV (pc := 75) (N := mX8_firstOf) (rr := (9, 0)) (As := [.int x3]) (rest := [.int (3 : Int32)]) (v := [.int y15.1]) (S1 := y15.2) dX8_findsHops_75 (kX8_firstOf hM hy15) (by simp) (by decide) okX8_firstOf tw_1002 tw_50 tw_1000 (hM (9, 0) rfl) rfl rfl rfl rfl (by simp [Value.category]) ?_
    refine j_imul (pc := 78) dX8_findsHops_78 ?_
    refine j_iload_n (pc := 79) 1 dX8_findsHops_79 rfl rfl ?_
    refine j_iadd (pc := 80) dX8_findsHops_80 ?_
    obtain ⟨v16, ev16, h⟩ := jlk h
    refine j_topi ev16 ?_
    refine j_istore (pc := 81) (lv' := [(4, .int v16), (0, .ref (E.1 (9, 0))), (1, .int x1), (2, .int x2), (3, .int x3)]) dX8_findsHops_81 (by decide) rfl ?_
    refine j_aload_n (pc := 83) 1 dX8_findsHops_83 rfl rfl ?_
    refine jg_9_9 (pc := 84) dX8_findsHops_84 (hM (9, 0) rfl) tw_786 ?_
    refine j_iconst (pc := 87) dX8_findsHops_87 jci_3 ?_
    refine j_aload_n (pc := 88) 1 dX8_findsHops_88 rfl rfl ?_
    refine j_iload_n (pc := 89) 4 dX8_findsHops_89 rfl rfl ?_
    obtain ⟨y17, hy17, h⟩ := jbnd h
    refine j_callV (pc := 90) (N := mX8_secondOf) (rr := (9, 0)) (As := [.int x3]) (rest := [.int (3 : Int32), .ref (E.1 (56, 0))]) (v := [.int y17.1]) (S1 := y17.2) dX8_findsHops_90 (kX8_secondOf hM hy17) (by simp) (by decide) okX8_secondOf tw_1006 tw_51 tw_1004 (hM (9, 0) rfl) rfl rfl rfl rfl (by simp [Value.category]) ?_
    refine j_imul (pc := 93) dX8_findsHops_93 ?_
    refine j_iload_n (pc := 94) 2 dX8_findsHops_94 rfl rfl ?_
    refine j_iadd (pc := 95) dX8_findsHops_95 ?_
    obtain ⟨c18, h⟩ := jchk h
    refine j_ia (pc := 96) dX8_findsHops_96 rfl (hM (56, 0) rfl) c18 ?_
    refine j_iconst (pc := 97) dX8_findsHops_97 jci_1 ?_
    refine j_iadd (pc := 98) dX8_findsHops_98 ?_
    obtain ⟨v19, ev19, h⟩ := jlk h
    refine j_topi ev19 ?_
    refine j_istore (pc := 99) (lv' := [(5, .int v19), (4, .int v16), (0, .ref (E.1 (9, 0))), (1, .int x1), (2, .int x2), (3, .int x3)]) dX8_findsHops_99 (by decide) rfl ?_
    refine j_aload_n (pc := 101) 2 dX8_findsHops_101 rfl rfl ?_
    refine jg_9_9 (pc := 102) dX8_findsHops_102 (hM (9, 0) rfl) tw_786 ?_
    refine j_iload (pc := 105) 1 dX8_findsHops_105 rfl ?_
    refine j_iload (pc := 107) 0 dX8_findsHops_107 rfl ?_
    refine j_aload_n (pc := 109) 2 dX8_findsHops_109 rfl rfl ?_
    refine jg_9_9 (pc := 110) dX8_findsHops_110 (hM (9, 0) rfl) tw_786 ?_
    refine j_iload (pc := 113) 1 dX8_findsHops_113 rfl ?_
    obtain ⟨c20, h⟩ := jchk h
    refine j_ia (pc := 115) dX8_findsHops_115 rfl (hM (56, 0) rfl) c20 ?_
    refine j_icmp_ge (pc := 116) (tgt := 124) dX8_findsHops_116 (by decide) (fun c21 => ?_) (fun c21 => ?_)
    · replace h := jite_t h c21
      refine j_aload_n (pc := 124) 2 dX8_findsHops_124 rfl rfl ?_
      refine jg_9_9 (pc := 125) dX8_findsHops_125 (hM (9, 0) rfl) tw_786 ?_
      refine j_iload (pc := 128) 1 dX8_findsHops_128 rfl ?_
      obtain ⟨c22, h⟩ := jchk h
      refine j_ia (pc := 130) dX8_findsHops_130 rfl (hM (56, 0) rfl) c22 ?_
      exact j_sub [2, 3, 4, 5] rfl (lX8_findsHops_131 hM H24 H54 H62 h)
    · replace h := jite_f h c21
      refine j_iload (pc := 119) 0 dX8_findsHops_119 rfl ?_
      refine j_goto (pc := 121) (tgt := 131) dX8_findsHops_121 (by decide) ?_
      exact j_sub [2, 3, 4, 5] rfl (lX8_findsHops_131 hM H24 H54 H62 h)
def fX8_findsHops_62  (q24 : jS → Int32 → Option jS) (q54 : jS → Int32 → Int32 → Option jS) : Nat → jS → Int32 → Int32 → Int32 → Option jS
  | 0 => fun _ _ _ _ => none
  | n + 1 => bX8_findsHops_62  q24 q54 (fX8_findsHops_62  q24 q54 n)
theorem kX8_findsHops_62 {E : jE} (hM : jHM E) {q24 : jS → Int32 → Option jS} (H24 : ∀ {S : jS} {x1 : Int32} {r : jS}, q24 S x1 = some r → JR E 2 mX8_findsHops 24 [(0, .ref (E.1 (9, 0))), (1, .int x1)] [] S [] r) {q54 : jS → Int32 → Int32 → Option jS} (H54 : ∀ {S : jS} {x1 : Int32} {x2 : Int32} {r : jS}, q54 S x1 x2 = some r → JR E 2 mX8_findsHops 54 [(0, .ref (E.1 (9, 0))), (1, .int x1), (2, .int x2)] [] S [] r) (fu : Nat) : ∀ {S : jS} {x1 : Int32} {x2 : Int32} {x3 : Int32} {r : jS}, fX8_findsHops_62  q24 q54 fu S x1 x2 x3 = some r → JR E 2 mX8_findsHops 62 [(0, .ref (E.1 (9, 0))), (1, .int x1), (2, .int x2), (3, .int x3)] [] S [] r := by
  induction fu with
  | zero => intro S x1 x2 x3 r h; cases h
  | succ n_ ih => intro S x1 x2 x3 r h; exact lX8_findsHops_62 hM H24 H54 ih h
def bX8_findsHops_54  (q24 : jS → Int32 → Option jS) (q54 : jS → Int32 → Int32 → Option jS) (S : jS) (x1 : Int32) (x2 : Int32) : Option jS :=
  (if (6 : Int32) ≤ x2 then jlet (x1 + (1 : Int32)) fun v11 => q24 S v11 else fX8_findsHops_62 q24 q54 5000 S x1 x2 (0 : Int32))
set_option maxRecDepth 10000 in
set_option maxHeartbeats 4000000 in
theorem lX8_findsHops_54 {E : jE} (hM : jHM E) {q24 : jS → Int32 → Option jS} (H24 : ∀ {S : jS} {x1 : Int32} {r : jS}, q24 S x1 = some r → JR E 2 mX8_findsHops 24 [(0, .ref (E.1 (9, 0))), (1, .int x1)] [] S [] r) {q54 : jS → Int32 → Int32 → Option jS} (H54 : ∀ {S : jS} {x1 : Int32} {x2 : Int32} {r : jS}, q54 S x1 x2 = some r → JR E 2 mX8_findsHops 54 [(0, .ref (E.1 (9, 0))), (1, .int x1), (2, .int x2)] [] S [] r) {S : jS} {x1 : Int32} {x2 : Int32} {r : jS} (h : bX8_findsHops_54  q24 q54 S x1 x2 = some r) : JR E 2 mX8_findsHops 54 [(0, .ref (E.1 (9, 0))), (1, .int x1), (2, .int x2)] [] S [] r := by
  unfold bX8_findsHops_54 at h
  refine j_iload_n (pc := 54) 2 dX8_findsHops_54 rfl rfl ?_
  refine j_bipush (pc := 55) dX8_findsHops_55 jcb_6 ?_
  refine j_icmp_ge (pc := 57) (tgt := 144) dX8_findsHops_57 (by decide) (fun c10 => ?_) (fun c10 => ?_)
  · replace h := jite_t h c10
    obtain ⟨v11, ev11, h⟩ := jlk h
    refine j_iinc (pc := 144) (v := v11) (lv' := [(1, .int v11), (0, .ref (E.1 (9, 0))), (2, .int x2)]) 1 dX8_findsHops_144 rfl (by rw [ev11]; rfl) (by decide) rfl ?_
    refine j_goto (pc := 147) (tgt := 24) dX8_findsHops_147 (by decide) ?_
    exact j_sub [1, 0] rfl (H24 h)
  · replace h := jite_f h c10
    refine j_iconst (pc := 60) dX8_findsHops_60 jci_0 ?_
    refine j_istore_n (pc := 61) (lv' := [(3, .int (0 : Int32)), (0, .ref (E.1 (9, 0))), (1, .int x1), (2, .int x2)]) dX8_findsHops_61 rfl (by decide) rfl ?_
    exact j_sub [1, 2, 3, 0] rfl (kX8_findsHops_62 hM H24 H54 5000 h)
def fX8_findsHops_54  (q24 : jS → Int32 → Option jS) : Nat → jS → Int32 → Int32 → Option jS
  | 0 => fun _ _ _ => none
  | n + 1 => bX8_findsHops_54  q24 (fX8_findsHops_54  q24 n)
theorem kX8_findsHops_54 {E : jE} (hM : jHM E) {q24 : jS → Int32 → Option jS} (H24 : ∀ {S : jS} {x1 : Int32} {r : jS}, q24 S x1 = some r → JR E 2 mX8_findsHops 24 [(0, .ref (E.1 (9, 0))), (1, .int x1)] [] S [] r) (fu : Nat) : ∀ {S : jS} {x1 : Int32} {x2 : Int32} {r : jS}, fX8_findsHops_54  q24 fu S x1 x2 = some r → JR E 2 mX8_findsHops 54 [(0, .ref (E.1 (9, 0))), (1, .int x1), (2, .int x2)] [] S [] r := by
  induction fu with
  | zero => intro S x1 x2 r h; cases h
  | succ n_ ih => intro S x1 x2 r h; exact lX8_findsHops_54 hM H24 ih h
def bX8_findsHops_24  (q24 : jS → Int32 → Option jS) (S : jS) (x1 : Int32) : Option jS :=
  if jIn (1 : Int32) 815 then (if (S.2 (50, 0) (1 : Int32).toNatClampNeg) ≤ x1 then some S else if jIn ((2 : Int32) + x1) 815 then if jIn (((3 : Int32) * (S.2 (50, 0) ((2 : Int32) + x1).toNatClampNeg)) + x1) 18 then jlet (jput S (56, 0) (upd (S.2 (56, 0)) (((3 : Int32) * (S.2 (50, 0) ((2 : Int32) + x1).toNatClampNeg)) + x1).toNatClampNeg (0 : Int32))) fun S9 => fX8_findsHops_54 q24 5000 S9 x1 (0 : Int32) else none else none) else none
set_option maxRecDepth 10000 in
set_option maxHeartbeats 4000000 in
theorem lX8_findsHops_24 {E : jE} (hM : jHM E) {q24 : jS → Int32 → Option jS} (H24 : ∀ {S : jS} {x1 : Int32} {r : jS}, q24 S x1 = some r → JR E 2 mX8_findsHops 24 [(0, .ref (E.1 (9, 0))), (1, .int x1)] [] S [] r) {S : jS} {x1 : Int32} {r : jS} (h : bX8_findsHops_24  q24 S x1 = some r) : JR E 2 mX8_findsHops 24 [(0, .ref (E.1 (9, 0))), (1, .int x1)] [] S [] r := by
  unfold bX8_findsHops_24 at h
  refine j_iload_n (pc := 24) 1 dX8_findsHops_24 rfl rfl ?_
  refine j_aload_n (pc := 25) 0 dX8_findsHops_25 rfl rfl ?_
  refine jg_9_0 (pc := 26) dX8_findsHops_26 (hM (9, 0) rfl) tw_777 ?_
  refine j_iconst (pc := 29) dX8_findsHops_29 jci_1 ?_
  obtain ⟨c5, h⟩ := jchk h
  refine j_ia (pc := 30) dX8_findsHops_30 rfl (hM (50, 0) rfl) c5 ?_
  refine j_icmp_ge (pc := 31) (tgt := 150) dX8_findsHops_31 (by decide) (fun c6 => ?_) (fun c6 => ?_)
  · replace h := jite_t h c6
    cases h
    exact j_vret (pc := 150) dX8_findsHops_150 rfl
  · replace h := jite_f h c6
    refine j_aload_n (pc := 34) 0 dX8_findsHops_34 rfl rfl ?_
    refine jg_9_9 (pc := 35) dX8_findsHops_35 (hM (9, 0) rfl) tw_786 ?_
    refine j_iconst (pc := 38) dX8_findsHops_38 jci_3 ?_
    refine j_aload_n (pc := 39) 0 dX8_findsHops_39 rfl rfl ?_
    refine jg_9_0 (pc := 40) dX8_findsHops_40 (hM (9, 0) rfl) tw_777 ?_
    refine j_iconst (pc := 43) dX8_findsHops_43 jci_2 ?_
    refine j_iload_n (pc := 44) 1 dX8_findsHops_44 rfl rfl ?_
    refine j_iadd (pc := 45) dX8_findsHops_45 ?_
    obtain ⟨c7, h⟩ := jchk h
    refine j_ia (pc := 46) dX8_findsHops_46 rfl (hM (50, 0) rfl) c7 ?_
    refine j_imul (pc := 47) dX8_findsHops_47 ?_
    refine j_iload_n (pc := 48) 1 dX8_findsHops_48 rfl rfl ?_
    refine j_iadd (pc := 49) dX8_findsHops_49 ?_
    refine j_iconst (pc := 50) dX8_findsHops_50 jci_0 ?_
    obtain ⟨c8, h⟩ := jchk h
    obtain ⟨S9, eS9, h⟩ := jlk h
    refine j_is (pc := 51) dX8_findsHops_51 rfl (hM (56, 0) rfl) c8 eS9 ?_
    refine j_iconst (pc := 52) dX8_findsHops_52 jci_0 ?_
    refine j_istore_n (pc := 53) (lv' := [(2, .int (0 : Int32)), (0, .ref (E.1 (9, 0))), (1, .int x1)]) dX8_findsHops_53 rfl (by decide) rfl ?_
    exact j_sub [1, 2, 0] rfl (kX8_findsHops_54 hM H24 5000 h)
def fX8_findsHops_24  : Nat → jS → Int32 → Option jS
  | 0 => fun _ _ => none
  | n + 1 => bX8_findsHops_24  (fX8_findsHops_24  n)
theorem kX8_findsHops_24 {E : jE} (hM : jHM E) (fu : Nat) : ∀ {S : jS} {x1 : Int32} {r : jS}, fX8_findsHops_24  fu S x1 = some r → JR E 2 mX8_findsHops 24 [(0, .ref (E.1 (9, 0))), (1, .int x1)] [] S [] r := by
  induction fu with
  | zero => intro S x1 r h; cases h
  | succ n_ ih => intro S x1 r h; exact lX8_findsHops_24 hM ih h
def bX8_findsHops_2  (q2 : jS → Int32 → Option jS) (S : jS) (x1 : Int32) : Option jS :=
  (if (18 : Int32) ≤ x1 then fX8_findsHops_24 5000 S (0 : Int32) else if jIn x1 18 then jlet (jput S (56, 0) (upd (S.2 (56, 0)) x1.toNatClampNeg (9 : Int32))) fun S3 => jlet (x1 + (1 : Int32)) fun v4 => q2 S3 v4 else none)
set_option maxRecDepth 10000 in
set_option maxHeartbeats 4000000 in
theorem lX8_findsHops_2 {E : jE} (hM : jHM E) {q2 : jS → Int32 → Option jS} (H2 : ∀ {S : jS} {x1 : Int32} {r : jS}, q2 S x1 = some r → JR E 2 mX8_findsHops 2 [(0, .ref (E.1 (9, 0))), (1, .int x1)] [] S [] r) {S : jS} {x1 : Int32} {r : jS} (h : bX8_findsHops_2  q2 S x1 = some r) : JR E 2 mX8_findsHops 2 [(0, .ref (E.1 (9, 0))), (1, .int x1)] [] S [] r := by
  unfold bX8_findsHops_2 at h
  refine j_iload_n (pc := 2) 1 dX8_findsHops_2 rfl rfl ?_
  refine j_bipush (pc := 3) dX8_findsHops_3 jcb_18 ?_
  refine j_icmp_ge (pc := 5) (tgt := 22) dX8_findsHops_5 (by decide) (fun c1 => ?_) (fun c1 => ?_)
  · replace h := jite_t h c1
    refine j_iconst (pc := 22) dX8_findsHops_22 jci_0 ?_
    refine j_istore_n (pc := 23) (lv' := [(1, .int (0 : Int32)), (0, .ref (E.1 (9, 0)))]) dX8_findsHops_23 rfl (by decide) rfl ?_
    exact j_sub [1, 0] rfl (kX8_findsHops_24 hM 5000 h)
  · replace h := jite_f h c1
    refine j_aload_n (pc := 8) 0 dX8_findsHops_8 rfl rfl ?_
    refine jg_9_9 (pc := 9) dX8_findsHops_9 (hM (9, 0) rfl) tw_786 ?_
    refine j_iload_n (pc := 12) 1 dX8_findsHops_12 rfl rfl ?_
    refine j_bipush (pc := 13) dX8_findsHops_13 jcb_9 ?_
    obtain ⟨c2, h⟩ := jchk h
    obtain ⟨S3, eS3, h⟩ := jlk h
    refine j_is (pc := 15) dX8_findsHops_15 rfl (hM (56, 0) rfl) c2 eS3 ?_
    obtain ⟨v4, ev4, h⟩ := jlk h
    refine j_iinc (pc := 16) (v := v4) (lv' := [(1, .int v4), (0, .ref (E.1 (9, 0)))]) 1 dX8_findsHops_16 rfl (by rw [ev4]; rfl) (by decide) rfl ?_
    refine j_goto (pc := 19) (tgt := 2) dX8_findsHops_19 (by decide) ?_
    exact j_sub [1, 0] rfl (H2 h)
def fX8_findsHops_2  : Nat → jS → Int32 → Option jS
  | 0 => fun _ _ => none
  | n + 1 => bX8_findsHops_2  (fX8_findsHops_2  n)
theorem kX8_findsHops_2 {E : jE} (hM : jHM E) (fu : Nat) : ∀ {S : jS} {x1 : Int32} {r : jS}, fX8_findsHops_2  fu S x1 = some r → JR E 2 mX8_findsHops 2 [(0, .ref (E.1 (9, 0))), (1, .int x1)] [] S [] r := by
  induction fu with
  | zero => intro S x1 r h; cases h
  | succ n_ ih => intro S x1 r h; exact lX8_findsHops_2 hM ih h
def fX8_findsHops  (S : jS) : Option jS :=
  fX8_findsHops_2 5000 S (0 : Int32)
set_option maxRecDepth 10000 in
set_option maxHeartbeats 4000000 in
theorem kX8_findsHops {E : jE} (hM : jHM E) {S : jS} {r : jS} (h : fX8_findsHops  S = some r) : jMR E 2 mX8_findsHops [.ref (E.1 (9, 0))] S [] r := by
  refine ⟨Nat.le_of_ble_eq_true rfl, ?_⟩
  show JR E 2 mX8_findsHops 0 [(0, .ref (E.1 (9, 0)))] [] S [] r
  unfold fX8_findsHops at h
  refine j_iconst (pc := 0) dX8_findsHops_0 jci_0 ?_
  refine j_istore_n (pc := 1) (lv' := [(1, .int (0 : Int32)), (0, .ref (E.1 (9, 0)))]) dX8_findsHops_1 rfl (by decide) rfl ?_
  exact j_sub [1, 0] rfl (kX8_findsHops_2 hM 5000 h)
abbrev mX8_roomOf : jM := (yX8_roomOf, cX8_roomOf, 2, (some .int))
theorem okX8_roomOf : jOK mX8_roomOf 1 := ⟨by decide +kernel, tw_1019, tw_84, by decide +kernel, by decide, by decide⟩
def fX8_roomOf  (S : jS) (x1 : Int32) : Option (Int32 × jS) :=
  if jIn (((6 : Int32) + ((3 : Int32) * x1)) + (2 : Int32)) 815 then some (S.2 (50, 0) (((6 : Int32) + ((3 : Int32) * x1)) + (2 : Int32)).toNatClampNeg, S) else none
set_option maxRecDepth 10000 in
set_option maxHeartbeats 4000000 in
theorem kX8_roomOf {E : jE} (hM : jHM E) {S : jS} {x1 : Int32} {r : (Int32 × jS)} (h : fX8_roomOf  S x1 = some r) : jMR E 1 mX8_roomOf [.ref (E.1 (9, 0)), .int x1] S [.int r.1] r.2 := by
  refine ⟨Nat.le_of_ble_eq_true rfl, ?_⟩
  show JR E 1 mX8_roomOf 0 [(0, .ref (E.1 (9, 0))), (1, .int x1)] [] S [.int r.1] r.2
  unfold fX8_roomOf at h
  refine j_aload_n (pc := 0) 0 dX8_roomOf_0 rfl rfl ?_
  refine jg_9_0 (pc := 1) dX8_roomOf_1 (hM (9, 0) rfl) tw_777 ?_
  refine j_bipush (pc := 4) dX8_roomOf_4 jcb_6 ?_
  refine j_iconst (pc := 6) dX8_roomOf_6 jci_3 ?_
  refine j_iload_n (pc := 7) 1 dX8_roomOf_7 rfl rfl ?_
  refine j_imul (pc := 8) dX8_roomOf_8 ?_
  refine j_iadd (pc := 9) dX8_roomOf_9 ?_
  refine j_iconst (pc := 10) dX8_roomOf_10 jci_2 ?_
  refine j_iadd (pc := 11) dX8_roomOf_11 ?_
  obtain ⟨c1, h⟩ := jchk h
  refine j_ia (pc := 12) dX8_roomOf_12 rfl (hM (50, 0) rfl) c1 ?_
  cases h
  exact j_iret (pc := 13) dX8_roomOf_13 rfl rfl
abbrev mX8_heightOf : jM := (yX8_heightOf, cX8_heightOf, 3, (some .int))
theorem okX8_heightOf : jOK mX8_heightOf 2 := ⟨by decide +kernel, tw_1015, tw_84, by decide +kernel, by decide, by decide⟩
def fX8_heightOf  (S : jS) (x1 : Int32) (x2 : Int32) : Option (Int32 × jS) :=
  (fX8_manyIn S x1 x2).bind fun y1 => if jIn (64 : Int32) 815 then if jIn (((3 : Int32) * x1) + x2) 18 then some (y1.1 + ((y1.2.2 (50, 0) (64 : Int32).toNatClampNeg) * (y1.2.2 (56, 0) (((3 : Int32) * x1) + x2).toNatClampNeg)), y1.2) else none else none
set_option maxRecDepth 10000 in
set_option maxHeartbeats 4000000 in
theorem kX8_heightOf {E : jE} (hM : jHM E) {S : jS} {x1 : Int32} {x2 : Int32} {r : (Int32 × jS)} (h : fX8_heightOf  S x1 x2 = some r) : jMR E 3 mX8_heightOf [.ref (E.1 (9, 0)), .int x1, .int x2] S [.int r.1] r.2 := by
  refine ⟨Nat.le_of_ble_eq_true rfl, ?_⟩
  show JR E 3 mX8_heightOf 0 [(0, .ref (E.1 (9, 0))), (1, .int x1), (2, .int x2)] [] S [.int r.1] r.2
  unfold fX8_heightOf at h
  refine j_aload_n (pc := 0) 0 dX8_heightOf_0 rfl rfl ?_
  refine j_iload_n (pc := 1) 1 dX8_heightOf_1 rfl rfl ?_
  refine j_iload_n (pc := 2) 2 dX8_heightOf_2 rfl rfl ?_
  obtain ⟨y1, hy1, h⟩ := jbnd h
  refine j_callV (pc := 3) (N := mX8_manyIn) (rr := (9, 0)) (As := [.int x1, .int x2]) (rest := []) (v := [.int y1.1]) (S1 := y1.2) dX8_heightOf_3 (kX8_manyIn hM hy1) (by simp) (by decide) okX8_manyIn tw_966 tw_43 tw_964 (hM (9, 0) rfl) rfl rfl rfl rfl (by simp [Value.category]) ?_
  refine j_aload_n (pc := 6) 0 dX8_heightOf_6 rfl rfl ?_
  refine jg_9_0 (pc := 7) dX8_heightOf_7 (hM (9, 0) rfl) tw_777 ?_
  refine j_bipush (pc := 10) dX8_heightOf_10 jcb_64 ?_
  obtain ⟨c2, h⟩ := jchk h
  refine j_ia (pc := 12) dX8_heightOf_12 rfl (hM (50, 0) rfl) c2 ?_
  refine j_aload_n (pc := 13) 0 dX8_heightOf_13 rfl rfl ?_
  refine jg_9_9 (pc := 14) dX8_heightOf_14 (hM (9, 0) rfl) tw_786 ?_
  refine j_iconst (pc := 17) dX8_heightOf_17 jci_3 ?_
  refine j_iload_n (pc := 18) 1 dX8_heightOf_18 rfl rfl ?_
  refine j_imul (pc := 19) dX8_heightOf_19 ?_
  refine j_iload_n (pc := 20) 2 dX8_heightOf_20 rfl rfl ?_
  refine j_iadd (pc := 21) dX8_heightOf_21 ?_
  obtain ⟨c3, h⟩ := jchk h
  refine j_ia (pc := 22) dX8_heightOf_22 rfl (hM (56, 0) rfl) c3 ?_
  refine j_imul (pc := 23) dX8_heightOf_23 ?_
  refine j_iadd (pc := 24) dX8_heightOf_24 ?_
  cases h
  exact j_iret (pc := 25) dX8_heightOf_25 rfl rfl
abbrev mX8_dropOf : jM := (yX8_dropOf, cX8_dropOf, 3, (some .int))
theorem okX8_dropOf : jOK mX8_dropOf 2 := ⟨by decide +kernel, tw_1011, tw_84, by decide +kernel, by decide, by decide⟩
def fX8_dropOf  (S : jS) (x1 : Int32) (x2 : Int32) : Option (Int32 × jS) :=
  (fX8_firstOf S x1).bind fun y1 => (fX8_heightOf y1.2 y1.1 x2).bind fun y2 => (fX8_secondOf y2.2 x1).bind fun y3 => (fX8_heightOf y3.2 y3.1 x2).bind fun y4 => some (y2.1 - y4.1, y4.2)
set_option maxRecDepth 10000 in
set_option maxHeartbeats 4000000 in
theorem kX8_dropOf {E : jE} (hM : jHM E) {S : jS} {x1 : Int32} {x2 : Int32} {r : (Int32 × jS)} (h : fX8_dropOf  S x1 x2 = some r) : jMR E 4 mX8_dropOf [.ref (E.1 (9, 0)), .int x1, .int x2] S [.int r.1] r.2 := by
  refine ⟨Nat.le_of_ble_eq_true rfl, ?_⟩
  show JR E 4 mX8_dropOf 0 [(0, .ref (E.1 (9, 0))), (1, .int x1), (2, .int x2)] [] S [.int r.1] r.2
  unfold fX8_dropOf at h
  refine j_aload_n (pc := 0) 0 dX8_dropOf_0 rfl rfl ?_
  refine j_aload_n (pc := 1) 0 dX8_dropOf_1 rfl rfl ?_
  refine j_iload_n (pc := 2) 1 dX8_dropOf_2 rfl rfl ?_
  obtain ⟨y1, hy1, h⟩ := jbnd h
  refine j_callV (pc := 3) (N := mX8_firstOf) (rr := (9, 0)) (As := [.int x1]) (rest := [.ref (E.1 (9, 0))]) (v := [.int y1.1]) (S1 := y1.2) dX8_dropOf_3 (kX8_firstOf hM hy1) (by simp) (by decide) okX8_firstOf tw_1002 tw_50 tw_1000 (hM (9, 0) rfl) rfl rfl rfl rfl (by simp [Value.category]) ?_
  refine j_iload_n (pc := 6) 2 dX8_dropOf_6 rfl rfl ?_
  obtain ⟨y2, hy2, h⟩ := jbnd h
  refine j_callV (pc := 7) (N := mX8_heightOf) (rr := (9, 0)) (As := [.int y1.1, .int x2]) (rest := []) (v := [.int y2.1]) (S1 := y2.2) dX8_dropOf_7 (kX8_heightOf hM hy2) (by simp) (by decide) okX8_heightOf tw_1014 tw_53 tw_1012 (hM (9, 0) rfl) rfl rfl rfl rfl (by simp [Value.category]) ?_
  refine j_aload_n (pc := 10) 0 dX8_dropOf_10 rfl rfl ?_
  refine j_aload_n (pc := 11) 0 dX8_dropOf_11 rfl rfl ?_
  refine j_iload_n (pc := 12) 1 dX8_dropOf_12 rfl rfl ?_
  obtain ⟨y3, hy3, h⟩ := jbnd h
  refine j_callV (pc := 13) (N := mX8_secondOf) (rr := (9, 0)) (As := [.int x1]) (rest := [.ref (E.1 (9, 0)), .int y2.1]) (v := [.int y3.1]) (S1 := y3.2) dX8_dropOf_13 (kX8_secondOf hM hy3) (by simp) (by decide) okX8_secondOf tw_1006 tw_51 tw_1004 (hM (9, 0) rfl) rfl rfl rfl rfl (by simp [Value.category]) ?_
  refine j_iload_n (pc := 16) 2 dX8_dropOf_16 rfl rfl ?_
  obtain ⟨y4, hy4, h⟩ := jbnd h
  refine j_callV (pc := 17) (N := mX8_heightOf) (rr := (9, 0)) (As := [.int y3.1, .int x2]) (rest := [.int y2.1]) (v := [.int y4.1]) (S1 := y4.2) dX8_dropOf_17 (kX8_heightOf hM hy4) (by simp) (by decide) okX8_heightOf tw_1014 tw_53 tw_1012 (hM (9, 0) rfl) rfl rfl rfl rfl (by simp [Value.category]) ?_
  refine j_isub (pc := 20) dX8_dropOf_20 ?_
  cases h
  exact j_iret (pc := 21) dX8_dropOf_21 rfl rfl
abbrev mX8_findsChoices : jM := (yX8_findsChoices, cX8_findsChoices, 5, none)
theorem okX8_findsChoices : jOK mX8_findsChoices 0 := ⟨by decide +kernel, tw_995, tw_84, by decide +kernel, by decide, by decide⟩
def bX8_findsChoices_75  (q6 : jS → Int32 → Option jS) (q28 : jS → Int32 → Int32 → Int32 → Option jS) (S : jS) (x1 : Int32) (x2 : Int32) (x3 : Int32) : Option jS :=
  jlet (x3 + (1 : Int32)) fun v19 => q28 S x1 x2 v19
set_option maxRecDepth 10000 in
set_option maxHeartbeats 4000000 in
theorem lX8_findsChoices_75 {E : jE} (hM : jHM E) {q6 : jS → Int32 → Option jS} (H6 : ∀ {S : jS} {x1 : Int32} {r : jS}, q6 S x1 = some r → JR E 5 mX8_findsChoices 6 [(0, .ref (E.1 (9, 0))), (1, .int x1)] [] S [] r) {q28 : jS → Int32 → Int32 → Int32 → Option jS} (H28 : ∀ {S : jS} {x1 : Int32} {x2 : Int32} {x3 : Int32} {r : jS}, q28 S x1 x2 x3 = some r → JR E 5 mX8_findsChoices 28 [(0, .ref (E.1 (9, 0))), (1, .int x1), (2, .int x2), (3, .int x3)] [] S [] r) {S : jS} {x1 : Int32} {x2 : Int32} {x3 : Int32} {r : jS} (h : bX8_findsChoices_75  q6 q28 S x1 x2 x3 = some r) : JR E 5 mX8_findsChoices 75 [(0, .ref (E.1 (9, 0))), (1, .int x1), (2, .int x2), (3, .int x3)] [] S [] r := by
  unfold bX8_findsChoices_75 at h
  obtain ⟨v19, ev19, h⟩ := jlk h
  refine j_iinc (pc := 75) (v := v19) (lv' := [(3, .int v19), (0, .ref (E.1 (9, 0))), (1, .int x1), (2, .int x2)]) 3 dX8_findsChoices_75 rfl (by rw [ev19]; rfl) (by decide) rfl ?_
  refine j_goto (pc := 78) (tgt := 28) dX8_findsChoices_78 (by decide) ?_
  exact j_sub [1, 2, 3, 0] rfl (H28 h)
def bX8_findsChoices_28  (q6 : jS → Int32 → Option jS) (q28 : jS → Int32 → Int32 → Int32 → Option jS) (S : jS) (x1 : Int32) (x2 : Int32) (x3 : Int32) : Option jS :=
  if jIn (1 : Int32) 815 then (if (S.2 (50, 0) (1 : Int32).toNatClampNeg) ≤ x3 then (fX8_roomOf S x1).bind fun y8 => if jIn x1 10 then jlet (jput y8.2 (58, 0) (upd (y8.2.2 (58, 0)) x1.toNatClampNeg (y8.1 * x2))) fun S10 => jlet (x1 + (1 : Int32)) fun v11 => q6 S10 v11 else none else (fX8_dropOf S x1 x3).bind fun y12 => (fX8_firstOf y12.2 x1).bind fun y13 => (fX8_manyIn y13.2 y13.1 x3).bind fun y14 => (if y14.1 ≤ 0 then bX8_findsChoices_75 q6 q28 (y14.2) x1 x2 x3 else (if y12.1 ≤ x2 then bX8_findsChoices_75 q6 q28 (y14.2) x1 x2 x3 else if jIn x1 10 then jlet (jput y14.2 (57, 0) (upd (y14.2.2 (57, 0)) x1.toNatClampNeg x3)) fun S18 => bX8_findsChoices_75 q6 q28 S18 x1 y12.1 x3 else none))) else none
set_option maxRecDepth 10000 in
set_option maxHeartbeats 4000000 in
theorem lX8_findsChoices_28 {E : jE} (hM : jHM E) {q6 : jS → Int32 → Option jS} (H6 : ∀ {S : jS} {x1 : Int32} {r : jS}, q6 S x1 = some r → JR E 5 mX8_findsChoices 6 [(0, .ref (E.1 (9, 0))), (1, .int x1)] [] S [] r) {q28 : jS → Int32 → Int32 → Int32 → Option jS} (H28 : ∀ {S : jS} {x1 : Int32} {x2 : Int32} {x3 : Int32} {r : jS}, q28 S x1 x2 x3 = some r → JR E 5 mX8_findsChoices 28 [(0, .ref (E.1 (9, 0))), (1, .int x1), (2, .int x2), (3, .int x3)] [] S [] r) {S : jS} {x1 : Int32} {x2 : Int32} {x3 : Int32} {r : jS} (h : bX8_findsChoices_28  q6 q28 S x1 x2 x3 = some r) : JR E 5 mX8_findsChoices 28 [(0, .ref (E.1 (9, 0))), (1, .int x1), (2, .int x2), (3, .int x3)] [] S [] r := by
  unfold bX8_findsChoices_28 at h
  refine j_iload_n (pc := 28) 3 dX8_findsChoices_28 rfl rfl ?_
  refine j_aload_n (pc := 29) 0 dX8_findsChoices_29 rfl rfl ?_
  refine jg_9_0 (pc := 30) dX8_findsChoices_30 (hM (9, 0) rfl) tw_777 ?_
  refine j_iconst (pc := 33) dX8_findsChoices_33 jci_1 ?_
  obtain ⟨c6, h⟩ := jchk h
  refine j_ia (pc := 34) dX8_findsChoices_34 rfl (hM (50, 0) rfl) c6 ?_
  refine j_icmp_ge (pc := 35) (tgt := 81) dX8_findsChoices_35 (by decide) (fun c7 => ?_) (fun c7 => ?_)
  · replace h := jite_t h c7
    refine j_aload_n (pc := 81) 0 dX8_findsChoices_81 rfl rfl ?_
    refine jg_9_11 (pc := 82) dX8_findsChoices_82 (hM (9, 0) rfl) tw_788 ?_
    refine j_iload_n (pc := 85) 1 dX8_findsChoices_85 rfl rfl ?_
    refine j_aload_n (pc := 86) 0 dX8_findsChoices_86 rfl rfl ?_
    refine j_iload_n (pc := 87) 1 dX8_findsChoices_87 rfl rfl ?_
    obtain ⟨y8, hy8, h⟩ := jbnd h
    refine j_callV (pc := 88) (N := mX8_roomOf) (rr := (9, 0)) (As := [.int x1]) (rest := [.int x1, .ref (E.1 (58, 0))]) (v := [.int y8.1]) (S1 := y8.2) dX8_findsChoices_88 (kX8_roomOf hM hy8) (by simp) (by decide) okX8_roomOf tw_1018 tw_54 tw_1016 (hM (9, 0) rfl) rfl rfl rfl rfl (by simp [Value.category]) ?_
    refine j_iload_n (pc := 91) 2 dX8_findsChoices_91 rfl rfl ?_
    refine j_imul (pc := 92) dX8_findsChoices_92 ?_
    obtain ⟨c9, h⟩ := jchk h
    obtain ⟨S10, eS10, h⟩ := jlk h
    refine j_is (pc := 93) dX8_findsChoices_93 rfl (hM (58, 0) rfl) c9 eS10 ?_
    obtain ⟨v11, ev11, h⟩ := jlk h
    refine j_iinc (pc := 94) (v := v11) (lv' := [(1, .int v11), (0, .ref (E.1 (9, 0))), (2, .int x2), (3, .int x3)]) 1 dX8_findsChoices_94 rfl (by rw [ev11]; rfl) (by decide) rfl ?_
    refine j_goto (pc := 97) (tgt := 6) dX8_findsChoices_97 (by decide) ?_
    exact j_sub [1, 0] rfl (H6 h)
  · replace h := jite_f h c7
    refine j_aload_n (pc := 38) 0 dX8_findsChoices_38 rfl rfl ?_
    refine j_iload_n (pc := 39) 1 dX8_findsChoices_39 rfl rfl ?_
    refine j_iload_n (pc := 40) 3 dX8_findsChoices_40 rfl rfl ?_
    obtain ⟨y12, hy12, h⟩ := jbnd h
    refine j_callV (pc := 41) (N := mX8_dropOf) (rr := (9, 0)) (As := [.int x1, .int x3]) (rest := []) (v := [.int y12.1]) (S1 := y12.2) dX8_findsChoices_41 (kX8_dropOf hM hy12) (by simp) (by decide) okX8_dropOf tw_1010 tw_52 tw_1008 (hM (9, 0) rfl) rfl rfl rfl rfl (by simp [Value.category]) ?_
    refine j_istore (pc := 44) (lv' := [(4, .int y12.1), (0, .ref (E.1 (9, 0))), (1, .int x1), (2, .int x2), (3, .int x3)]) dX8_findsChoices_44 (by decide) rfl ?_
    refine j_aload_n (pc := 46) 1 dX8_findsChoices_46 rfl rfl ?_
    refine j_aload_n (pc := 47) 1 dX8_findsChoices_47 rfl rfl ?_
    refine j_iload_n (pc := 48) 2 dX8_findsChoices_48 rfl rfl ?_
    obtain ⟨y13, hy13, h⟩ := jbnd h
    refine j_callV (pc := 49) (N := mX8_firstOf) (rr := (9, 0)) (As := [.int x1]) (rest := [.ref (E.1 (9, 0))]) (v := [.int y13.1]) (S1 := y13.2) dX8_findsChoices_49 (kX8_firstOf hM hy13) (by simp) (by decide) okX8_firstOf tw_1002 tw_50 tw_1000 (hM (9, 0) rfl) rfl rfl rfl rfl (by simp [Value.category]) ?_
    refine j_iload_n (pc := 52) 4 dX8_findsChoices_52 rfl rfl ?_
    obtain ⟨y14, hy14, h⟩ := jbnd h
    refine j_callV (pc := 53) (N := mX8_manyIn) (rr := (9, 0)) (As := [.int y13.1, .int x3]) (rest := []) (v := [.int y14.1]) (S1 := y14.2) dX8_findsChoices_53 (kX8_manyIn hM hy14) (by simp) (by decide) okX8_manyIn tw_966 tw_43 tw_964 (hM (9, 0) rfl) rfl rfl rfl rfl (by simp [Value.category]) ?_
    refine j_if_le (pc := 56) (tgt := 75) dX8_findsChoices_56 (by decide) (fun c15 => ?_) (fun c15 => ?_)
    · replace h := jite_t h c15
      exact j_sub [1, 2, 3, 4] rfl (lX8_findsChoices_75 hM H6 H28 h)
    · replace h := jite_f h c15
      refine j_iload (pc := 59) 0 dX8_findsChoices_59 rfl ?_
      refine j_iload_n (pc := 61) 3 dX8_findsChoices_61 rfl rfl ?_
      refine j_icmp_le (pc := 62) (tgt := 75) dX8_findsChoices_62 (by decide) (fun c16 => ?_) (fun c16 => ?_)
      · replace h := jite_t h c16
        exact j_sub [1, 2, 3, 4] rfl (lX8_findsChoices_75 hM H6 H28 h)
      · replace h := jite_f h c16
        refine j_iload (pc := 65) 0 dX8_findsChoices_65 rfl ?_
        refine j_istore_n (pc := 67) (lv' := [(2, .int y12.1), (4, .int y12.1), (0, .ref (E.1 (9, 0))), (1, .int x1), (3, .int x3)]) dX8_findsChoices_67 rfl (by decide) rfl ?_
        refine j_aload_n (pc := 68) 2 dX8_findsChoices_68 rfl rfl ?_
        refine jg_9_10 (pc := 69) dX8_findsChoices_69 (hM (9, 0) rfl) tw_787 ?_
        refine j_iload_n (pc := 72) 3 dX8_findsChoices_72 rfl rfl ?_
        refine j_iload_n (pc := 73) 4 dX8_findsChoices_73 rfl rfl ?_
        obtain ⟨c17, h⟩ := jchk h
        obtain ⟨S18, eS18, h⟩ := jlk h
        refine j_is (pc := 74) dX8_findsChoices_74 rfl (hM (57, 0) rfl) c17 eS18 ?_
        exact j_sub [2, 3, 0, 4] rfl (lX8_findsChoices_75 hM H6 H28 h)
def fX8_findsChoices_28  (q6 : jS → Int32 → Option jS) : Nat → jS → Int32 → Int32 → Int32 → Option jS
  | 0 => fun _ _ _ _ => none
  | n + 1 => bX8_findsChoices_28  q6 (fX8_findsChoices_28  q6 n)
theorem kX8_findsChoices_28 {E : jE} (hM : jHM E) {q6 : jS → Int32 → Option jS} (H6 : ∀ {S : jS} {x1 : Int32} {r : jS}, q6 S x1 = some r → JR E 5 mX8_findsChoices 6 [(0, .ref (E.1 (9, 0))), (1, .int x1)] [] S [] r) (fu : Nat) : ∀ {S : jS} {x1 : Int32} {x2 : Int32} {x3 : Int32} {r : jS}, fX8_findsChoices_28  q6 fu S x1 x2 x3 = some r → JR E 5 mX8_findsChoices 28 [(0, .ref (E.1 (9, 0))), (1, .int x1), (2, .int x2), (3, .int x3)] [] S [] r := by
  induction fu with
  | zero => intro S x1 x2 x3 r h; cases h
  | succ n_ ih => intro S x1 x2 x3 r h; exact lX8_findsChoices_28 hM H6 ih h
def bX8_findsChoices_6  (q6 : jS → Int32 → Option jS) (S : jS) (x1 : Int32) : Option jS :=
  if jIn (5 : Int32) 815 then (if (S.2 (50, 0) (5 : Int32).toNatClampNeg) ≤ x1 then some S else if jIn x1 10 then jlet (jput S (57, 0) (upd (S.2 (57, 0)) x1.toNatClampNeg (-4 : Int32))) fun S5 => fX8_findsChoices_28 q6 5000 S5 x1 (0 : Int32) (0 : Int32) else none) else none
set_option maxRecDepth 10000 in
set_option maxHeartbeats 4000000 in
theorem lX8_findsChoices_6 {E : jE} (hM : jHM E) {q6 : jS → Int32 → Option jS} (H6 : ∀ {S : jS} {x1 : Int32} {r : jS}, q6 S x1 = some r → JR E 5 mX8_findsChoices 6 [(0, .ref (E.1 (9, 0))), (1, .int x1)] [] S [] r) {S : jS} {x1 : Int32} {r : jS} (h : bX8_findsChoices_6  q6 S x1 = some r) : JR E 5 mX8_findsChoices 6 [(0, .ref (E.1 (9, 0))), (1, .int x1)] [] S [] r := by
  unfold bX8_findsChoices_6 at h
  refine j_iload_n (pc := 6) 1 dX8_findsChoices_6 rfl rfl ?_
  refine j_aload_n (pc := 7) 0 dX8_findsChoices_7 rfl rfl ?_
  refine jg_9_0 (pc := 8) dX8_findsChoices_8 (hM (9, 0) rfl) tw_777 ?_
  refine j_iconst (pc := 11) dX8_findsChoices_11 jci_5 ?_
  obtain ⟨c2, h⟩ := jchk h
  refine j_ia (pc := 12) dX8_findsChoices_12 rfl (hM (50, 0) rfl) c2 ?_
  refine j_icmp_ge (pc := 13) (tgt := 100) dX8_findsChoices_13 (by decide) (fun c3 => ?_) (fun c3 => ?_)
  · replace h := jite_t h c3
    cases h
    exact j_vret (pc := 100) dX8_findsChoices_100 rfl
  · replace h := jite_f h c3
    refine j_aload_n (pc := 16) 0 dX8_findsChoices_16 rfl rfl ?_
    refine jg_9_10 (pc := 17) dX8_findsChoices_17 (hM (9, 0) rfl) tw_787 ?_
    refine j_iload_n (pc := 20) 1 dX8_findsChoices_20 rfl rfl ?_
    refine j_bipush (pc := 21) dX8_findsChoices_21 jcb_m4 ?_
    obtain ⟨c4, h⟩ := jchk h
    obtain ⟨S5, eS5, h⟩ := jlk h
    refine j_is (pc := 23) dX8_findsChoices_23 rfl (hM (57, 0) rfl) c4 eS5 ?_
    refine j_iconst (pc := 24) dX8_findsChoices_24 jci_0 ?_
    refine j_istore_n (pc := 25) (lv' := [(2, .int (0 : Int32)), (0, .ref (E.1 (9, 0))), (1, .int x1)]) dX8_findsChoices_25 rfl (by decide) rfl ?_
    refine j_iconst (pc := 26) dX8_findsChoices_26 jci_0 ?_
    refine j_istore_n (pc := 27) (lv' := [(3, .int (0 : Int32)), (2, .int (0 : Int32)), (0, .ref (E.1 (9, 0))), (1, .int x1)]) dX8_findsChoices_27 rfl (by decide) rfl ?_
    exact j_sub [2, 3, 1, 0] rfl (kX8_findsChoices_28 hM H6 5000 h)
def fX8_findsChoices_6  : Nat → jS → Int32 → Option jS
  | 0 => fun _ _ => none
  | n + 1 => bX8_findsChoices_6  (fX8_findsChoices_6  n)
theorem kX8_findsChoices_6 {E : jE} (hM : jHM E) (fu : Nat) : ∀ {S : jS} {x1 : Int32} {r : jS}, fX8_findsChoices_6  fu S x1 = some r → JR E 5 mX8_findsChoices 6 [(0, .ref (E.1 (9, 0))), (1, .int x1)] [] S [] r := by
  induction fu with
  | zero => intro S x1 r h; cases h
  | succ n_ ih => intro S x1 r h; exact lX8_findsChoices_6 hM ih h
def fX8_findsChoices  (S : jS) : Option jS :=
  (fX8_findsHops S).bind fun y1 => fX8_findsChoices_6 5000 y1 (0 : Int32)
set_option maxRecDepth 10000 in
set_option maxHeartbeats 4000000 in
theorem kX8_findsChoices {E : jE} (hM : jHM E) {S : jS} {r : jS} (h : fX8_findsChoices  S = some r) : jMR E 5 mX8_findsChoices [.ref (E.1 (9, 0))] S [] r := by
  refine ⟨Nat.le_of_ble_eq_true rfl, ?_⟩
  show JR E 5 mX8_findsChoices 0 [(0, .ref (E.1 (9, 0)))] [] S [] r
  unfold fX8_findsChoices at h
  refine j_aload_n (pc := 0) 0 dX8_findsChoices_0 rfl rfl ?_
  obtain ⟨y1, hy1, h⟩ := jbnd h
  refine j_callV (pc := 1) (N := mX8_findsHops) (rr := (9, 0)) (As := []) (rest := []) (v := []) (S1 := y1) dX8_findsChoices_1 (kX8_findsHops hM hy1) (by simp) (by decide) okX8_findsHops tw_998 tw_49 tw_996 (hM (9, 0) rfl) rfl rfl rfl rfl (by simp [Value.category]) ?_
  refine j_iconst (pc := 4) dX8_findsChoices_4 jci_0 ?_
  refine j_istore_n (pc := 5) (lv' := [(1, .int (0 : Int32)), (0, .ref (E.1 (9, 0)))]) dX8_findsChoices_5 rfl (by decide) rfl ?_
  exact j_sub [1, 0] rfl (kX8_findsChoices_6 hM 5000 h)
abbrev mX8_lowestOf : jM := (yX8_lowestOf, cX8_lowestOf, 2, (some .int))
theorem okX8_lowestOf : jOK mX8_lowestOf 1 := ⟨by decide +kernel, tw_1026, tw_84, by decide +kernel, by decide, by decide⟩
def bX8_lowestOf_2  (q2 : jS → Int32 → Int32 → Option (Int32 × jS)) (S : jS) (x0 : Int32) (x1 : Int32) : Option (Int32 × jS) :=
  (fX8_has S x0 x1).bind fun y1 => (if y1.1 = 0 then jlet (x1 + (1 : Int32)) fun v3 => q2 (y1.2) x0 v3 else some (x1, y1.2))
set_option maxRecDepth 10000 in
set_option maxHeartbeats 4000000 in
theorem lX8_lowestOf_2 {E : jE} (hM : jHM E) {q2 : jS → Int32 → Int32 → Option (Int32 × jS)} (H2 : ∀ {S : jS} {x0 : Int32} {x1 : Int32} {r : (Int32 × jS)}, q2 S x0 x1 = some r → JR E 2 mX8_lowestOf 2 [(0, .int x0), (1, .int x1)] [] S [.int r.1] r.2) {S : jS} {x0 : Int32} {x1 : Int32} {r : (Int32 × jS)} (h : bX8_lowestOf_2  q2 S x0 x1 = some r) : JR E 2 mX8_lowestOf 2 [(0, .int x0), (1, .int x1)] [] S [.int r.1] r.2 := by
  unfold bX8_lowestOf_2 at h
  refine j_iload_n (pc := 2) 0 dX8_lowestOf_2 rfl rfl ?_
  refine j_iload_n (pc := 3) 1 dX8_lowestOf_3 rfl rfl ?_
  obtain ⟨y1, hy1, h⟩ := jbnd h
  refine j_callS (pc := 4) (N := mX8_has) (As := [.int x0, .int x1]) (rest := []) (v := [.int y1.1]) (S1 := y1.2) dX8_lowestOf_4 (kX8_has hM hy1) (by simp) (by decide) okX8_has tw_950 tw_949 rfl rfl (by simp [Value.category]) ?_
  refine j_if_ne (pc := 7) (tgt := 16) dX8_lowestOf_7 (by decide) (fun c2 => ?_) (fun c2 => ?_)
  · replace h := jite_f h c2
    refine j_iload_n (pc := 16) 1 dX8_lowestOf_16 rfl rfl ?_
    cases h
    exact j_iret (pc := 17) dX8_lowestOf_17 rfl rfl
  · replace h := jite_t h c2
    obtain ⟨v3, ev3, h⟩ := jlk h
    refine j_iinc (pc := 10) (v := v3) (lv' := [(1, .int v3), (0, .int x0)]) 1 dX8_lowestOf_10 rfl (by rw [ev3]; rfl) (by decide) rfl ?_
    refine j_goto (pc := 13) (tgt := 2) dX8_lowestOf_13 (by decide) ?_
    exact j_sub [1, 0] rfl (H2 h)
def fX8_lowestOf_2  : Nat → jS → Int32 → Int32 → Option (Int32 × jS)
  | 0 => fun _ _ _ => none
  | n + 1 => bX8_lowestOf_2  (fX8_lowestOf_2  n)
theorem kX8_lowestOf_2 {E : jE} (hM : jHM E) (fu : Nat) : ∀ {S : jS} {x0 : Int32} {x1 : Int32} {r : (Int32 × jS)}, fX8_lowestOf_2  fu S x0 x1 = some r → JR E 2 mX8_lowestOf 2 [(0, .int x0), (1, .int x1)] [] S [.int r.1] r.2 := by
  induction fu with
  | zero => intro S x0 x1 r h; cases h
  | succ n_ ih => intro S x0 x1 r h; exact lX8_lowestOf_2 hM ih h
def fX8_lowestOf  (S : jS) (x0 : Int32) : Option (Int32 × jS) :=
  fX8_lowestOf_2 5000 S x0 (0 : Int32)
set_option maxRecDepth 10000 in
set_option maxHeartbeats 4000000 in
theorem kX8_lowestOf {E : jE} (hM : jHM E) {S : jS} {x0 : Int32} {r : (Int32 × jS)} (h : fX8_lowestOf  S x0 = some r) : jMR E 2 mX8_lowestOf [.int x0] S [.int r.1] r.2 := by
  refine ⟨Nat.le_of_ble_eq_true rfl, ?_⟩
  show JR E 2 mX8_lowestOf 0 [(0, .int x0)] [] S [.int r.1] r.2
  unfold fX8_lowestOf at h
  refine j_iconst (pc := 0) dX8_lowestOf_0 jci_0 ?_
  refine j_istore_n (pc := 1) (lv' := [(1, .int (0 : Int32)), (0, .int x0)]) dX8_lowestOf_1 rfl (by decide) rfl ?_
  exact j_sub [1, 0] rfl (kX8_lowestOf_2 hM 5000 h)
abbrev mX8_findsGoing : jM := (yX8_findsGoing, cX8_findsGoing, 7, none)
theorem okX8_findsGoing : jOK mX8_findsGoing 1 := ⟨by decide +kernel, tw_1023, tw_84, by decide +kernel, by decide, by decide⟩
def bX8_findsGoing_240  (q72 : jS → Int32 → Int32 → Option jS) (S : jS) (x2 : Int32) (x3 : Int32) : Option jS :=
  jlet (x3 + (1 : Int32)) fun v44 => q72 S x2 v44
set_option maxRecDepth 10000 in
set_option maxHeartbeats 4000000 in
theorem lX8_findsGoing_240 {E : jE} (hM : jHM E) {q72 : jS → Int32 → Int32 → Option jS} (H72 : ∀ {S : jS} {x2 : Int32} {x3 : Int32} {r : jS}, q72 S x2 x3 = some r → JR E 3 mX8_findsGoing 72 [(0, .ref (E.1 (9, 0))), (2, .int x2), (3, .int x3)] [] S [] r) {S : jS} {x2 : Int32} {x3 : Int32} {r : jS} (h : bX8_findsGoing_240  q72 S x2 x3 = some r) : JR E 3 mX8_findsGoing 240 [(0, .ref (E.1 (9, 0))), (2, .int x2), (3, .int x3)] [] S [] r := by
  unfold bX8_findsGoing_240 at h
  obtain ⟨v44, ev44, h⟩ := jlk h
  refine j_iinc (pc := 240) (v := v44) (lv' := [(3, .int v44), (0, .ref (E.1 (9, 0))), (2, .int x2)]) 2 dX8_findsGoing_240 rfl (by rw [ev44]; rfl) (by decide) rfl ?_
  refine j_goto (pc := 243) (tgt := 72) dX8_findsGoing_243 (by decide) ?_
  exact j_sub [1, 2, 0] rfl (H72 h)
def bX8_findsGoing_209  (q72 : jS → Int32 → Int32 → Option jS) (S : jS) (x2 : Int32) (x3 : Int32) (t0 : Int32) : Option jS :=
  if jIn x3 1024 then (if (S.2 (60, 0) x3.toNatClampNeg) = 0 then bX8_findsGoing_240 q72 S x2 x3 else (if t0 = 0 then bX8_findsGoing_240 q72 S x2 x3 else jlet (jset S (15, 0) x3) fun S41 => if jIn x3 1024 then jlet (jset S41 (16, 0) (S41.2 (59, 0) x3.toNatClampNeg)) fun S43 => bX8_findsGoing_240 q72 S43 x2 x3 else none)) else none
set_option maxRecDepth 10000 in
set_option maxHeartbeats 4000000 in
theorem lX8_findsGoing_209 {E : jE} (hM : jHM E) {q72 : jS → Int32 → Int32 → Option jS} (H72 : ∀ {S : jS} {x2 : Int32} {x3 : Int32} {r : jS}, q72 S x2 x3 = some r → JR E 3 mX8_findsGoing 72 [(0, .ref (E.1 (9, 0))), (2, .int x2), (3, .int x3)] [] S [] r) {S : jS} {x2 : Int32} {x3 : Int32} {t0 : Int32} {r : jS} (h : bX8_findsGoing_209  q72 S x2 x3 t0 = some r) : JR E 3 mX8_findsGoing 209 [(0, .ref (E.1 (9, 0))), (2, .int x2), (3, .int x3)] [.int t0] S [] r := by
  unfold bX8_findsGoing_209 at h
  refine j_istore (pc := 209) (lv' := [(6, .int t0), (0, .ref (E.1 (9, 0))), (2, .int x2), (3, .int x3)]) dX8_findsGoing_209 (by decide) rfl ?_
  refine j_aload_n (pc := 211) 1 dX8_findsGoing_211 rfl rfl ?_
  refine jg_9_13 (pc := 212) dX8_findsGoing_212 (hM (9, 0) rfl) tw_790 ?_
  refine j_iload_n (pc := 215) 3 dX8_findsGoing_215 rfl rfl ?_
  obtain ⟨c38, h⟩ := jchk h
  refine j_za (pc := 216) dX8_findsGoing_216 (hM (60, 0) rfl) c38 ?_
  refine j_if_eq (pc := 217) (tgt := 240) dX8_findsGoing_217 (by decide) (fun c39 => ?_) (fun c39 => ?_)
  · replace h := jite_t h c39
    exact j_sub [1, 2, 3] rfl (lX8_findsGoing_240 hM H72 h)
  · replace h := jite_f h c39
    refine j_iload (pc := 220) 0 dX8_findsGoing_220 rfl ?_
    refine j_if_eq (pc := 222) (tgt := 240) dX8_findsGoing_222 (by decide) (fun c40 => ?_) (fun c40 => ?_)
    · replace h := jite_t h c40
      exact j_sub [1, 2, 3] rfl (lX8_findsGoing_240 hM H72 h)
    · replace h := jite_f h c40
      refine j_aload_n (pc := 225) 1 dX8_findsGoing_225 rfl rfl ?_
      refine j_iload_n (pc := 226) 3 dX8_findsGoing_226 rfl rfl ?_
      obtain ⟨S41, eS41, h⟩ := jlk h
      refine jp_15 (pc := 227) dX8_findsGoing_227 (hM (9, 0) rfl) tw_791 eS41 ?_
      refine j_aload_n (pc := 230) 1 dX8_findsGoing_230 rfl rfl ?_
      refine j_aload_n (pc := 231) 1 dX8_findsGoing_231 rfl rfl ?_
      refine jg_9_12 (pc := 232) dX8_findsGoing_232 (hM (9, 0) rfl) tw_789 ?_
      refine j_iload_n (pc := 235) 3 dX8_findsGoing_235 rfl rfl ?_
      obtain ⟨c42, h⟩ := jchk h
      refine j_ia (pc := 236) dX8_findsGoing_236 rfl (hM (59, 0) rfl) c42 ?_
      obtain ⟨S43, eS43, h⟩ := jlk h
      refine jp_16 (pc := 237) dX8_findsGoing_237 (hM (9, 0) rfl) tw_792 eS43 ?_
      exact j_sub [1, 2, 3] rfl (lX8_findsGoing_240 hM H72 h)
def bX8_findsGoing_204  (q72 : jS → Int32 → Int32 → Option jS) (S : jS) (x2 : Int32) (x3 : Int32) : Option jS :=
  bX8_findsGoing_209 q72 S x2 x3 (1 : Int32)
set_option maxRecDepth 10000 in
set_option maxHeartbeats 4000000 in
theorem lX8_findsGoing_204 {E : jE} (hM : jHM E) {q72 : jS → Int32 → Int32 → Option jS} (H72 : ∀ {S : jS} {x2 : Int32} {x3 : Int32} {r : jS}, q72 S x2 x3 = some r → JR E 3 mX8_findsGoing 72 [(0, .ref (E.1 (9, 0))), (2, .int x2), (3, .int x3)] [] S [] r) {S : jS} {x2 : Int32} {x3 : Int32} {r : jS} (h : bX8_findsGoing_204  q72 S x2 x3 = some r) : JR E 3 mX8_findsGoing 204 [(0, .ref (E.1 (9, 0))), (2, .int x2), (3, .int x3)] [] S [] r := by
  unfold bX8_findsGoing_204 at h
  refine j_iconst (pc := 204) dX8_findsGoing_204 jci_1 ?_
  refine j_goto (pc := 205) (tgt := 209) dX8_findsGoing_205 (by decide) ?_
  exact j_sub [0, 1, 2] rfl (lX8_findsGoing_209 hM H72 h)
def bX8_findsGoing_208  (q72 : jS → Int32 → Int32 → Option jS) (S : jS) (x2 : Int32) (x3 : Int32) : Option jS :=
  bX8_findsGoing_209 q72 S x2 x3 (0 : Int32)
set_option maxRecDepth 10000 in
set_option maxHeartbeats 4000000 in
theorem lX8_findsGoing_208 {E : jE} (hM : jHM E) {q72 : jS → Int32 → Int32 → Option jS} (H72 : ∀ {S : jS} {x2 : Int32} {x3 : Int32} {r : jS}, q72 S x2 x3 = some r → JR E 3 mX8_findsGoing 72 [(0, .ref (E.1 (9, 0))), (2, .int x2), (3, .int x3)] [] S [] r) {S : jS} {x2 : Int32} {x3 : Int32} {r : jS} (h : bX8_findsGoing_208  q72 S x2 x3 = some r) : JR E 3 mX8_findsGoing 208 [(0, .ref (E.1 (9, 0))), (2, .int x2), (3, .int x3)] [] S [] r := by
  unfold bX8_findsGoing_208 at h
  refine j_iconst (pc := 208) dX8_findsGoing_208 jci_0 ?_
  exact j_sub [0, 1, 2] rfl (lX8_findsGoing_209 hM H72 h)
def bX8_findsGoing_142  (q72 : jS → Int32 → Int32 → Option jS) (S : jS) (x2 : Int32) (x3 : Int32) (x4 : Int32) (x5 : Int32) (t1 : Int32) (t2 : Int32) : Option jS :=
  if jIn t1 1024 then if vp_nar .boolean t2 = t2 then jlet (jput S (60, 0) (upd (S.2 (60, 0)) t1.toNatClampNeg t2)) fun S25 => if jIn x5 1024 then if jIn x4 10 then if jIn x3 1024 then jlet (jput S25 (59, 0) (upd (S25.2 (59, 0)) x3.toNatClampNeg ((S25.2 (59, 0) x5.toNatClampNeg) + (S25.2 (58, 0) x4.toNatClampNeg)))) fun S30 => if jIn x3 1024 then (if (S30.1 (16, 0)) < (S30.2 (59, 0) x3.toNatClampNeg) then bX8_findsGoing_204 q72 S30 x2 x3 else if jIn x3 1024 then (if (S30.2 (59, 0) x3.toNatClampNeg) = (S30.1 (16, 0)) then (fX8_ones S30 x3).bind fun y35 => (fX8_ones y35.2 (y35.2.1 (15, 0))).bind fun y36 => (if y36.1 ≤ y35.1 then bX8_findsGoing_208 q72 (y36.2) x2 x3 else bX8_findsGoing_204 q72 (y36.2) x2 x3) else bX8_findsGoing_208 q72 S30 x2 x3) else none) else none else none else none else none else none else none
set_option maxRecDepth 10000 in
set_option maxHeartbeats 4000000 in
theorem lX8_findsGoing_142 {E : jE} (hM : jHM E) {q72 : jS → Int32 → Int32 → Option jS} (H72 : ∀ {S : jS} {x2 : Int32} {x3 : Int32} {r : jS}, q72 S x2 x3 = some r → JR E 3 mX8_findsGoing 72 [(0, .ref (E.1 (9, 0))), (2, .int x2), (3, .int x3)] [] S [] r) {S : jS} {x2 : Int32} {x3 : Int32} {x4 : Int32} {x5 : Int32} {t1 : Int32} {t2 : Int32} {r : jS} (h : bX8_findsGoing_142  q72 S x2 x3 x4 x5 t1 t2 = some r) : JR E 3 mX8_findsGoing 142 [(0, .ref (E.1 (9, 0))), (2, .int x2), (3, .int x3), (4, .int x4), (5, .int x5)] [.int t2, .int t1, .ref (E.1 (60, 0))] S [] r := by
  unfold bX8_findsGoing_142 at h
  obtain ⟨c24, h⟩ := jchk h
  obtain ⟨c26, h⟩ := jchk h
  obtain ⟨S25, eS25, h⟩ := jlk h
  refine j_zs (pc := 142) dX8_findsGoing_142 (hM (60, 0) rfl) c24 c26 eS25 ?_
  refine j_aload_n (pc := 143) 0 dX8_findsGoing_143 rfl rfl ?_
  refine jg_9_12 (pc := 144) dX8_findsGoing_144 (hM (9, 0) rfl) tw_789 ?_
  refine j_iload_n (pc := 147) 2 dX8_findsGoing_147 rfl rfl ?_
  refine j_aload_n (pc := 148) 0 dX8_findsGoing_148 rfl rfl ?_
  refine jg_9_12 (pc := 149) dX8_findsGoing_149 (hM (9, 0) rfl) tw_789 ?_
  refine j_iload (pc := 152) 4 dX8_findsGoing_152 rfl ?_
  obtain ⟨c27, h⟩ := jchk h
  refine j_ia (pc := 154) dX8_findsGoing_154 rfl (hM (59, 0) rfl) c27 ?_
  refine j_aload_n (pc := 155) 0 dX8_findsGoing_155 rfl rfl ?_
  refine jg_9_11 (pc := 156) dX8_findsGoing_156 (hM (9, 0) rfl) tw_788 ?_
  refine j_iload (pc := 159) 3 dX8_findsGoing_159 rfl ?_
  obtain ⟨c28, h⟩ := jchk h
  refine j_ia (pc := 161) dX8_findsGoing_161 rfl (hM (58, 0) rfl) c28 ?_
  refine j_iadd (pc := 162) dX8_findsGoing_162 ?_
  obtain ⟨c29, h⟩ := jchk h
  obtain ⟨S30, eS30, h⟩ := jlk h
  refine j_is (pc := 163) dX8_findsGoing_163 rfl (hM (59, 0) rfl) c29 eS30 ?_
  refine j_aload_n (pc := 164) 0 dX8_findsGoing_164 rfl rfl ?_
  refine jg_9_12 (pc := 165) dX8_findsGoing_165 (hM (9, 0) rfl) tw_789 ?_
  refine j_iload_n (pc := 168) 2 dX8_findsGoing_168 rfl rfl ?_
  obtain ⟨c31, h⟩ := jchk h
  refine j_ia (pc := 169) dX8_findsGoing_169 rfl (hM (59, 0) rfl) c31 ?_
  refine j_aload_n (pc := 170) 0 dX8_findsGoing_170 rfl rfl ?_
  refine jg_9_15 (pc := 171) dX8_findsGoing_171 (hM (9, 0) rfl) tw_792 ?_
  refine j_icmp_gt (pc := 174) (tgt := 204) dX8_findsGoing_174 (by decide) (fun c32 => ?_) (fun c32 => ?_)
  · replace h := jite_t h c32
    exact j_sub [0, 1, 2] rfl (lX8_findsGoing_204 hM H72 h)
  · replace h := jite_f h c32
    refine j_aload_n (pc := 177) 0 dX8_findsGoing_177 rfl rfl ?_
    refine jg_9_12 (pc := 178) dX8_findsGoing_178 (hM (9, 0) rfl) tw_789 ?_
    refine j_iload_n (pc := 181) 2 dX8_findsGoing_181 rfl rfl ?_
    obtain ⟨c33, h⟩ := jchk h
    refine j_ia (pc := 182) dX8_findsGoing_182 rfl (hM (59, 0) rfl) c33 ?_
    refine j_aload_n (pc := 183) 0 dX8_findsGoing_183 rfl rfl ?_
    refine jg_9_15 (pc := 184) dX8_findsGoing_184 (hM (9, 0) rfl) tw_792 ?_
    refine j_icmp_ne (pc := 187) (tgt := 208) dX8_findsGoing_187 (by decide) (fun c34 => ?_) (fun c34 => ?_)
    · replace h := jite_f h c34
      exact j_sub [0, 1, 2] rfl (lX8_findsGoing_208 hM H72 h)
    · replace h := jite_t h c34
      refine j_iload_n (pc := 190) 2 dX8_findsGoing_190 rfl rfl ?_
      obtain ⟨y35, hy35, h⟩ := jbnd h
      refine j_callS (pc := 191) (N := mX8_ones) (As := [.int x3]) (rest := []) (v := [.int y35.1]) (S1 := y35.2) dX8_findsGoing_191 (kX8_ones hM hy35) (by simp) (by decide) okX8_ones tw_957 tw_956 rfl rfl (by simp [Value.category]) ?_
      refine j_aload_n (pc := 194) 0 dX8_findsGoing_194 rfl rfl ?_
      refine jg_9_14 (pc := 195) dX8_findsGoing_195 (hM (9, 0) rfl) tw_791 ?_
      obtain ⟨y36, hy36, h⟩ := jbnd h
      refine j_callS (pc := 198) (N := mX8_ones) (As := [.int (y35.2.1 (15, 0))]) (rest := [.int y35.1]) (v := [.int y36.1]) (S1 := y36.2) dX8_findsGoing_198 (kX8_ones hM hy36) (by simp) (by decide) okX8_ones tw_957 tw_956 rfl rfl (by simp [Value.category]) ?_
      refine j_icmp_ge (pc := 201) (tgt := 208) dX8_findsGoing_201 (by decide) (fun c37 => ?_) (fun c37 => ?_)
      · replace h := jite_t h c37
        exact j_sub [0, 1, 2] rfl (lX8_findsGoing_208 hM H72 h)
      · replace h := jite_f h c37
        exact j_sub [0, 1, 2] rfl (lX8_findsGoing_204 hM H72 h)
def bX8_findsGoing_141  (q72 : jS → Int32 → Int32 → Option jS) (S : jS) (x2 : Int32) (x3 : Int32) (x4 : Int32) (x5 : Int32) (t1 : Int32) : Option jS :=
  bX8_findsGoing_142 q72 S x2 x3 x4 x5 t1 (0 : Int32)
set_option maxRecDepth 10000 in
set_option maxHeartbeats 4000000 in
theorem lX8_findsGoing_141 {E : jE} (hM : jHM E) {q72 : jS → Int32 → Int32 → Option jS} (H72 : ∀ {S : jS} {x2 : Int32} {x3 : Int32} {r : jS}, q72 S x2 x3 = some r → JR E 3 mX8_findsGoing 72 [(0, .ref (E.1 (9, 0))), (2, .int x2), (3, .int x3)] [] S [] r) {S : jS} {x2 : Int32} {x3 : Int32} {x4 : Int32} {x5 : Int32} {t1 : Int32} {r : jS} (h : bX8_findsGoing_141  q72 S x2 x3 x4 x5 t1 = some r) : JR E 3 mX8_findsGoing 141 [(0, .ref (E.1 (9, 0))), (2, .int x2), (3, .int x3), (4, .int x4), (5, .int x5)] [.int t1, .ref (E.1 (60, 0))] S [] r := by
  unfold bX8_findsGoing_141 at h
  refine j_iconst (pc := 141) dX8_findsGoing_141 jci_0 ?_
  exact j_sub [0, 1, 2, 3, 4] rfl (lX8_findsGoing_142 hM H72 h)
def bX8_findsGoing_72  (q72 : jS → Int32 → Int32 → Option jS) (S : jS) (x2 : Int32) (x3 : Int32) : Option jS :=
  if jIn (5 : Int32) 815 then (if ((1 : Int32) <<< ((S.2 (50, 0) (5 : Int32).toNatClampNeg) &&& 31)) ≤ x3 then some S else (fX8_lowestOf S x3).bind fun y16 => jlet (x3 &&& (x3 - (1 : Int32))) fun v17 => if jIn v17 1024 then (if (y16.2.2 (60, 0) v17.toNatClampNeg) = 0 then bX8_findsGoing_141 q72 (y16.2) x2 x3 y16.1 v17 x3 else (fX8_has y16.2 x2 y16.1).bind fun y20 => (if y20.1 = 0 then bX8_findsGoing_141 q72 (y20.2) x2 x3 y16.1 v17 x3 else if jIn ((36 : Int32) + y16.1) 815 then (if ((y20.2.2 (50, 0) ((36 : Int32) + y16.1).toNatClampNeg) &&& v17) = 0 then bX8_findsGoing_142 q72 (y20.2) x2 x3 y16.1 v17 x3 (1 : Int32) else bX8_findsGoing_141 q72 (y20.2) x2 x3 y16.1 v17 x3) else none)) else none) else none
set_option maxRecDepth 10000 in
set_option maxHeartbeats 4000000 in
theorem lX8_findsGoing_72 {E : jE} (hM : jHM E) {q72 : jS → Int32 → Int32 → Option jS} (H72 : ∀ {S : jS} {x2 : Int32} {x3 : Int32} {r : jS}, q72 S x2 x3 = some r → JR E 3 mX8_findsGoing 72 [(0, .ref (E.1 (9, 0))), (2, .int x2), (3, .int x3)] [] S [] r) {S : jS} {x2 : Int32} {x3 : Int32} {r : jS} (h : bX8_findsGoing_72  q72 S x2 x3 = some r) : JR E 3 mX8_findsGoing 72 [(0, .ref (E.1 (9, 0))), (2, .int x2), (3, .int x3)] [] S [] r := by
  unfold bX8_findsGoing_72 at h
  refine j_iload_n (pc := 72) 2 dX8_findsGoing_72 rfl rfl ?_
  refine j_iconst (pc := 73) dX8_findsGoing_73 jci_1 ?_
  refine j_aload_n (pc := 74) 0 dX8_findsGoing_74 rfl rfl ?_
  refine jg_9_0 (pc := 75) dX8_findsGoing_75 (hM (9, 0) rfl) tw_777 ?_
  refine j_iconst (pc := 78) dX8_findsGoing_78 jci_5 ?_
  obtain ⟨c14, h⟩ := jchk h
  refine j_ia (pc := 79) dX8_findsGoing_79 rfl (hM (50, 0) rfl) c14 ?_
  refine j_ishl (pc := 80) dX8_findsGoing_80 ?_
  refine j_icmp_ge (pc := 81) (tgt := 246) dX8_findsGoing_81 (by decide) (fun c15 => ?_) (fun c15 => ?_)
  · replace h := jite_t h c15
    cases h
    exact j_vret (pc := 246) dX8_findsGoing_246 rfl
  · replace h := jite_f h c15
    refine j_iload_n (pc := 84) 2 dX8_findsGoing_84 rfl rfl ?_
    obtain ⟨y16, hy16, h⟩ := jbnd h
    refine j_callS (pc := 85) (N := mX8_lowestOf) (As := [.int x3]) (rest := []) (v := [.int y16.1]) (S1 := y16.2) dX8_findsGoing_85 (kX8_lowestOf hM hy16) (by simp) (by decide) okX8_lowestOf tw_1025 tw_1024 rfl rfl (by simp [Value.category]) ?_
    refine j_istore (pc := 88) (lv' := [(4, .int y16.1), (0, .ref (E.1 (9, 0))), (2, .int x2), (3, .int x3)]) dX8_findsGoing_88 (by decide) rfl ?_
    refine j_iload_n (pc := 90) 3 dX8_findsGoing_90 rfl rfl ?_
    refine j_iload_n (pc := 91) 3 dX8_findsGoing_91 rfl rfl ?_
    refine j_iconst (pc := 92) dX8_findsGoing_92 jci_1 ?_
    refine j_isub (pc := 93) dX8_findsGoing_93 ?_
    refine j_iand (pc := 94) dX8_findsGoing_94 ?_
    obtain ⟨v17, ev17, h⟩ := jlk h
    refine j_topi ev17 ?_
    refine j_istore (pc := 95) (lv' := [(5, .int v17), (4, .int y16.1), (0, .ref (E.1 (9, 0))), (2, .int x2), (3, .int x3)]) dX8_findsGoing_95 (by decide) rfl ?_
    refine j_aload_n (pc := 97) 2 dX8_findsGoing_97 rfl rfl ?_
    refine jg_9_13 (pc := 98) dX8_findsGoing_98 (hM (9, 0) rfl) tw_790 ?_
    refine j_iload_n (pc := 101) 4 dX8_findsGoing_101 rfl rfl ?_
    refine j_aload_n (pc := 102) 2 dX8_findsGoing_102 rfl rfl ?_
    refine jg_9_13 (pc := 103) dX8_findsGoing_103 (hM (9, 0) rfl) tw_790 ?_
    refine j_iload (pc := 106) 0 dX8_findsGoing_106 rfl ?_
    obtain ⟨c18, h⟩ := jchk h
    refine j_za (pc := 108) dX8_findsGoing_108 (hM (60, 0) rfl) c18 ?_
    refine j_if_eq (pc := 109) (tgt := 141) dX8_findsGoing_109 (by decide) (fun c19 => ?_) (fun c19 => ?_)
    · replace h := jite_t h c19
      exact j_sub [2, 3, 4, 1, 0] rfl (lX8_findsGoing_141 hM H72 h)
    · replace h := jite_f h c19
      refine j_iload_n (pc := 112) 3 dX8_findsGoing_112 rfl rfl ?_
      refine j_iload (pc := 113) 1 dX8_findsGoing_113 rfl ?_
      obtain ⟨y20, hy20, h⟩ := jbnd h
      refine j_callS (pc := 115) (N := mX8_has) (As := [.int x2, .int y16.1]) (rest := [.int x3, .ref (E.1 (60, 0))]) (v := [.int y20.1]) (S1 := y20.2) dX8_findsGoing_115 (kX8_has hM hy20) (by simp) (by decide) okX8_has tw_950 tw_949 rfl rfl (by simp [Value.category]) ?_
      refine j_if_eq (pc := 118) (tgt := 141) dX8_findsGoing_118 (by decide) (fun c21 => ?_) (fun c21 => ?_)
      · replace h := jite_t h c21
        exact j_sub [2, 3, 4, 1, 0] rfl (lX8_findsGoing_141 hM H72 h)
      · replace h := jite_f h c21
        refine j_aload_n (pc := 121) 2 dX8_findsGoing_121 rfl rfl ?_
        refine jg_9_0 (pc := 122) dX8_findsGoing_122 (hM (9, 0) rfl) tw_777 ?_
        refine j_bipush (pc := 125) dX8_findsGoing_125 jcb_36 ?_
        refine j_iload (pc := 127) 1 dX8_findsGoing_127 rfl ?_
        refine j_iadd (pc := 129) dX8_findsGoing_129 ?_
        obtain ⟨c22, h⟩ := jchk h
        refine j_ia (pc := 130) dX8_findsGoing_130 rfl (hM (50, 0) rfl) c22 ?_
        refine j_iload (pc := 131) 0 dX8_findsGoing_131 rfl ?_
        refine j_iand (pc := 133) dX8_findsGoing_133 ?_
        refine j_if_ne (pc := 134) (tgt := 141) dX8_findsGoing_134 (by decide) (fun c23 => ?_) (fun c23 => ?_)
        · replace h := jite_f h c23
          exact j_sub [2, 3, 4, 1, 0] rfl (lX8_findsGoing_141 hM H72 h)
        · replace h := jite_t h c23
          refine j_iconst (pc := 137) dX8_findsGoing_137 jci_1 ?_
          refine j_goto (pc := 138) (tgt := 142) dX8_findsGoing_138 (by decide) ?_
          exact j_sub [2, 3, 4, 1, 0] rfl (lX8_findsGoing_142 hM H72 h)
def fX8_findsGoing_72  : Nat → jS → Int32 → Int32 → Option jS
  | 0 => fun _ _ _ => none
  | n + 1 => bX8_findsGoing_72  (fX8_findsGoing_72  n)
theorem kX8_findsGoing_72 {E : jE} (hM : jHM E) (fu : Nat) : ∀ {S : jS} {x2 : Int32} {x3 : Int32} {r : jS}, fX8_findsGoing_72  fu S x2 x3 = some r → JR E 3 mX8_findsGoing 72 [(0, .ref (E.1 (9, 0))), (2, .int x2), (3, .int x3)] [] S [] r := by
  induction fu with
  | zero => intro S x2 x3 r h; cases h
  | succ n_ ih => intro S x2 x3 r h; exact lX8_findsGoing_72 hM ih h
def bX8_findsGoing_38  (q4 : jS → Int32 → Int32 → Int32 → Option jS) (S : jS) (x1 : Int32) (x3 : Int32) (t0 : Int32) (t1 : Int32) : Option jS :=
  jlet (t0 ||| t1) fun v12 => jlet (x3 + (1 : Int32)) fun v13 => q4 S x1 v12 v13
set_option maxRecDepth 10000 in
set_option maxHeartbeats 4000000 in
theorem lX8_findsGoing_38 {E : jE} (hM : jHM E) {q4 : jS → Int32 → Int32 → Int32 → Option jS} (H4 : ∀ {S : jS} {x1 : Int32} {x2 : Int32} {x3 : Int32} {r : jS}, q4 S x1 x2 x3 = some r → JR E 3 mX8_findsGoing 4 [(0, .ref (E.1 (9, 0))), (1, .int x1), (2, .int x2), (3, .int x3)] [] S [] r) {S : jS} {x1 : Int32} {x3 : Int32} {t0 : Int32} {t1 : Int32} {r : jS} (h : bX8_findsGoing_38  q4 S x1 x3 t0 t1 = some r) : JR E 3 mX8_findsGoing 38 [(0, .ref (E.1 (9, 0))), (1, .int x1), (3, .int x3)] [.int t1, .int t0] S [] r := by
  unfold bX8_findsGoing_38 at h
  refine j_ior (pc := 38) dX8_findsGoing_38 ?_
  obtain ⟨v12, ev12, h⟩ := jlk h
  refine j_topi ev12 ?_
  refine j_istore_n (pc := 39) (lv' := [(2, .int v12), (0, .ref (E.1 (9, 0))), (1, .int x1), (3, .int x3)]) dX8_findsGoing_39 rfl (by decide) rfl ?_
  obtain ⟨v13, ev13, h⟩ := jlk h
  refine j_iinc (pc := 40) (v := v13) (lv' := [(3, .int v13), (2, .int v12), (0, .ref (E.1 (9, 0))), (1, .int x1)]) 3 dX8_findsGoing_40 rfl (by rw [ev13]; rfl) (by decide) rfl ?_
  refine j_goto (pc := 43) (tgt := 4) dX8_findsGoing_43 (by decide) ?_
  exact j_sub [2, 3, 1, 0] rfl (H4 h)
def bX8_findsGoing_37  (q4 : jS → Int32 → Int32 → Int32 → Option jS) (S : jS) (x1 : Int32) (x3 : Int32) (t0 : Int32) : Option jS :=
  bX8_findsGoing_38 q4 S x1 x3 t0 (0 : Int32)
set_option maxRecDepth 10000 in
set_option maxHeartbeats 4000000 in
theorem lX8_findsGoing_37 {E : jE} (hM : jHM E) {q4 : jS → Int32 → Int32 → Int32 → Option jS} (H4 : ∀ {S : jS} {x1 : Int32} {x2 : Int32} {x3 : Int32} {r : jS}, q4 S x1 x2 x3 = some r → JR E 3 mX8_findsGoing 4 [(0, .ref (E.1 (9, 0))), (1, .int x1), (2, .int x2), (3, .int x3)] [] S [] r) {S : jS} {x1 : Int32} {x3 : Int32} {t0 : Int32} {r : jS} (h : bX8_findsGoing_37  q4 S x1 x3 t0 = some r) : JR E 3 mX8_findsGoing 37 [(0, .ref (E.1 (9, 0))), (1, .int x1), (3, .int x3)] [.int t0] S [] r := by
  unfold bX8_findsGoing_37 at h
  refine j_iconst (pc := 37) dX8_findsGoing_37 jci_0 ?_
  exact j_sub [0, 1, 2] rfl (lX8_findsGoing_38 hM H4 h)
def bX8_findsGoing_4  (q4 : jS → Int32 → Int32 → Int32 → Option jS) (S : jS) (x1 : Int32) (x2 : Int32) (x3 : Int32) : Option jS :=
  if jIn (5 : Int32) 815 then (if (S.2 (50, 0) (5 : Int32).toNatClampNeg) ≤ x3 then jlet (jset S (15, 0) (0 : Int32)) fun S3 => jlet (jset S3 (16, 0) (0 : Int32)) fun S4 => if jIn (0 : Int32) 1024 then jlet (jput S4 (59, 0) (upd (S4.2 (59, 0)) (0 : Int32).toNatClampNeg (0 : Int32))) fun S6 => if jIn (0 : Int32) 1024 then jlet (jput S6 (60, 0) (upd (S6.2 (60, 0)) (0 : Int32).toNatClampNeg (1 : Int32))) fun S8 => fX8_findsGoing_72 5000 S8 x2 (1 : Int32) else none else none else if jIn x3 10 then (if (S.2 (57, 0) x3.toNatClampNeg) = (-4 : Int32) then bX8_findsGoing_37 q4 S x1 x3 x2 else (if x3 = x1 then bX8_findsGoing_37 q4 S x1 x3 x2 else bX8_findsGoing_38 q4 S x1 x3 x2 ((1 : Int32) <<< (x3 &&& 31)))) else none) else none
set_option maxRecDepth 10000 in
set_option maxHeartbeats 4000000 in
theorem lX8_findsGoing_4 {E : jE} (hM : jHM E) {q4 : jS → Int32 → Int32 → Int32 → Option jS} (H4 : ∀ {S : jS} {x1 : Int32} {x2 : Int32} {x3 : Int32} {r : jS}, q4 S x1 x2 x3 = some r → JR E 3 mX8_findsGoing 4 [(0, .ref (E.1 (9, 0))), (1, .int x1), (2, .int x2), (3, .int x3)] [] S [] r) {S : jS} {x1 : Int32} {x2 : Int32} {x3 : Int32} {r : jS} (h : bX8_findsGoing_4  q4 S x1 x2 x3 = some r) : JR E 3 mX8_findsGoing 4 [(0, .ref (E.1 (9, 0))), (1, .int x1), (2, .int x2), (3, .int x3)] [] S [] r := by
  unfold bX8_findsGoing_4 at h
  refine j_iload_n (pc := 4) 3 dX8_findsGoing_4 rfl rfl ?_
  refine j_aload_n (pc := 5) 0 dX8_findsGoing_5 rfl rfl ?_
  refine jg_9_0 (pc := 6) dX8_findsGoing_6 (hM (9, 0) rfl) tw_777 ?_
  refine j_iconst (pc := 9) dX8_findsGoing_9 jci_5 ?_
  obtain ⟨c1, h⟩ := jchk h
  refine j_ia (pc := 10) dX8_findsGoing_10 rfl (hM (50, 0) rfl) c1 ?_
  refine j_icmp_ge (pc := 11) (tgt := 46) dX8_findsGoing_11 (by decide) (fun c2 => ?_) (fun c2 => ?_)
  · replace h := jite_t h c2
    refine j_aload_n (pc := 46) 0 dX8_findsGoing_46 rfl rfl ?_
    refine j_iconst (pc := 47) dX8_findsGoing_47 jci_0 ?_
    obtain ⟨S3, eS3, h⟩ := jlk h
    refine jp_15 (pc := 48) dX8_findsGoing_48 (hM (9, 0) rfl) tw_791 eS3 ?_
    refine j_aload_n (pc := 51) 0 dX8_findsGoing_51 rfl rfl ?_
    refine j_iconst (pc := 52) dX8_findsGoing_52 jci_0 ?_
    obtain ⟨S4, eS4, h⟩ := jlk h
    refine jp_16 (pc := 53) dX8_findsGoing_53 (hM (9, 0) rfl) tw_792 eS4 ?_
    refine j_aload_n (pc := 56) 0 dX8_findsGoing_56 rfl rfl ?_
    refine jg_9_12 (pc := 57) dX8_findsGoing_57 (hM (9, 0) rfl) tw_789 ?_
    refine j_iconst (pc := 60) dX8_findsGoing_60 jci_0 ?_
    refine j_iconst (pc := 61) dX8_findsGoing_61 jci_0 ?_
    obtain ⟨c5, h⟩ := jchk h
    obtain ⟨S6, eS6, h⟩ := jlk h
    refine j_is (pc := 62) dX8_findsGoing_62 rfl (hM (59, 0) rfl) c5 eS6 ?_
    refine j_aload_n (pc := 63) 0 dX8_findsGoing_63 rfl rfl ?_
    refine jg_9_13 (pc := 64) dX8_findsGoing_64 (hM (9, 0) rfl) tw_790 ?_
    refine j_iconst (pc := 67) dX8_findsGoing_67 jci_0 ?_
    refine j_iconst (pc := 68) dX8_findsGoing_68 jci_1 ?_
    obtain ⟨c7, h⟩ := jchk h
    obtain ⟨S8, eS8, h⟩ := jlk h
    refine j_zs (pc := 69) dX8_findsGoing_69 (hM (60, 0) rfl) c7 (by decide) eS8 ?_
    refine j_iconst (pc := 70) dX8_findsGoing_70 jci_1 ?_
    refine j_istore_n (pc := 71) (lv' := [(3, .int (1 : Int32)), (0, .ref (E.1 (9, 0))), (1, .int x1), (2, .int x2)]) dX8_findsGoing_71 rfl (by decide) rfl ?_
    exact j_sub [1, 3, 0] rfl (kX8_findsGoing_72 hM 5000 h)
  · replace h := jite_f h c2
    refine j_iload_n (pc := 14) 2 dX8_findsGoing_14 rfl rfl ?_
    refine j_aload_n (pc := 15) 0 dX8_findsGoing_15 rfl rfl ?_
    refine jg_9_10 (pc := 16) dX8_findsGoing_16 (hM (9, 0) rfl) tw_787 ?_
    refine j_iload_n (pc := 19) 3 dX8_findsGoing_19 rfl rfl ?_
    obtain ⟨c9, h⟩ := jchk h
    refine j_ia (pc := 20) dX8_findsGoing_20 rfl (hM (57, 0) rfl) c9 ?_
    refine j_bipush (pc := 21) dX8_findsGoing_21 jcb_m4 ?_
    refine j_icmp_eq (pc := 23) (tgt := 37) dX8_findsGoing_23 (by decide) (fun c10 => ?_) (fun c10 => ?_)
    · replace h := jite_t h c10
      exact j_sub [0, 1, 3] rfl (lX8_findsGoing_37 hM H4 h)
    · replace h := jite_f h c10
      refine j_iload_n (pc := 26) 3 dX8_findsGoing_26 rfl rfl ?_
      refine j_iload_n (pc := 27) 1 dX8_findsGoing_27 rfl rfl ?_
      refine j_icmp_eq (pc := 28) (tgt := 37) dX8_findsGoing_28 (by decide) (fun c11 => ?_) (fun c11 => ?_)
      · replace h := jite_t h c11
        exact j_sub [0, 1, 3] rfl (lX8_findsGoing_37 hM H4 h)
      · replace h := jite_f h c11
        refine j_iconst (pc := 31) dX8_findsGoing_31 jci_1 ?_
        refine j_iload_n (pc := 32) 3 dX8_findsGoing_32 rfl rfl ?_
        refine j_ishl (pc := 33) dX8_findsGoing_33 ?_
        refine j_goto (pc := 34) (tgt := 38) dX8_findsGoing_34 (by decide) ?_
        exact j_sub [0, 1, 3] rfl (lX8_findsGoing_38 hM H4 h)
def fX8_findsGoing_4  : Nat → jS → Int32 → Int32 → Int32 → Option jS
  | 0 => fun _ _ _ _ => none
  | n + 1 => bX8_findsGoing_4  (fX8_findsGoing_4  n)
theorem kX8_findsGoing_4 {E : jE} (hM : jHM E) (fu : Nat) : ∀ {S : jS} {x1 : Int32} {x2 : Int32} {x3 : Int32} {r : jS}, fX8_findsGoing_4  fu S x1 x2 x3 = some r → JR E 3 mX8_findsGoing 4 [(0, .ref (E.1 (9, 0))), (1, .int x1), (2, .int x2), (3, .int x3)] [] S [] r := by
  induction fu with
  | zero => intro S x1 x2 x3 r h; cases h
  | succ n_ ih => intro S x1 x2 x3 r h; exact lX8_findsGoing_4 hM ih h
def fX8_findsGoing  (S : jS) (x1 : Int32) : Option jS :=
  fX8_findsGoing_4 5000 S x1 (0 : Int32) (0 : Int32)
set_option maxRecDepth 10000 in
set_option maxHeartbeats 4000000 in
theorem kX8_findsGoing {E : jE} (hM : jHM E) {S : jS} {x1 : Int32} {r : jS} (h : fX8_findsGoing  S x1 = some r) : jMR E 3 mX8_findsGoing [.ref (E.1 (9, 0)), .int x1] S [] r := by
  refine ⟨Nat.le_of_ble_eq_true rfl, ?_⟩
  show JR E 3 mX8_findsGoing 0 [(0, .ref (E.1 (9, 0))), (1, .int x1)] [] S [] r
  unfold fX8_findsGoing at h
  refine j_iconst (pc := 0) dX8_findsGoing_0 jci_0 ?_
  refine j_istore_n (pc := 1) (lv' := [(2, .int (0 : Int32)), (0, .ref (E.1 (9, 0))), (1, .int x1)]) dX8_findsGoing_1 rfl (by decide) rfl ?_
  refine j_iconst (pc := 2) dX8_findsGoing_2 jci_0 ?_
  refine j_istore_n (pc := 3) (lv' := [(3, .int (0 : Int32)), (2, .int (0 : Int32)), (0, .ref (E.1 (9, 0))), (1, .int x1)]) dX8_findsGoing_3 rfl (by decide) rfl ?_
  exact j_sub [2, 3, 1, 0] rfl (kX8_findsGoing_4 hM 5000 h)
abbrev mX8_findsAll : jM := (yX8_findsAll, cX8_findsAll, 1, none)
theorem okX8_findsAll : jOK mX8_findsAll 0 := ⟨by decide +kernel, tw_1060, tw_84, by decide +kernel, by decide, by decide⟩
def fX8_findsAll  (S : jS) : Option jS :=
  (fX8_findsChoices S).bind fun y1 => (fX8_findsGoing y1 (-4 : Int32)).bind fun y2 => some y2
set_option maxRecDepth 10000 in
set_option maxHeartbeats 4000000 in
theorem kX8_findsAll {E : jE} (hM : jHM E) {S : jS} {r : jS} (h : fX8_findsAll  S = some r) : jMR E 6 mX8_findsAll [.ref (E.1 (9, 0))] S [] r := by
  refine ⟨Nat.le_of_ble_eq_true rfl, ?_⟩
  show JR E 6 mX8_findsAll 0 [(0, .ref (E.1 (9, 0)))] [] S [] r
  unfold fX8_findsAll at h
  refine j_aload_n (pc := 0) 0 dX8_findsAll_0 rfl rfl ?_
  obtain ⟨y1, hy1, h⟩ := jbnd h
  refine j_callV (pc := 1) (N := mX8_findsChoices) (rr := (9, 0)) (As := []) (rest := []) (v := []) (S1 := y1) dX8_findsAll_1 (kX8_findsChoices hM hy1) (by simp) (by decide) okX8_findsChoices tw_994 tw_48 tw_992 (hM (9, 0) rfl) rfl rfl rfl rfl (by simp [Value.category]) ?_
  refine j_aload_n (pc := 4) 0 dX8_findsAll_4 rfl rfl ?_
  refine j_bipush (pc := 5) dX8_findsAll_5 jcb_m4 ?_
  obtain ⟨y2, hy2, h⟩ := jbnd h
  refine j_callV (pc := 7) (N := mX8_findsGoing) (rr := (9, 0)) (As := [.int (-4 : Int32)]) (rest := []) (v := []) (S1 := y2) dX8_findsAll_7 (kX8_findsGoing hM hy2) (by simp) (by decide) okX8_findsGoing tw_1022 tw_55 tw_1020 (hM (9, 0) rfl) rfl rfl rfl rfl (by simp [Value.category]) ?_
  cases h
  exact j_vret (pc := 10) dX8_findsAll_10 rfl
abbrev mX8_carries : jM := (yX8_carries, cX8_carries, 5, (some .int))
theorem okX8_carries : jOK mX8_carries 0 := ⟨by decide +kernel, tw_1030, tw_84, by decide +kernel, by decide, by decide⟩
def bX8_carries_111  (q4 : jS → Int32 → Int32 → Option (Int32 × jS)) (S : jS) (x1 : Int32) (x2 : Int32) : Option (Int32 × jS) :=
  jlet (x2 + (1 : Int32)) fun v24 => q4 S x1 v24
set_option maxRecDepth 10000 in
set_option maxHeartbeats 4000000 in
theorem lX8_carries_111 {E : jE} (hM : jHM E) {q4 : jS → Int32 → Int32 → Option (Int32 × jS)} (H4 : ∀ {S : jS} {x1 : Int32} {x2 : Int32} {r : (Int32 × jS)}, q4 S x1 x2 = some r → JR E 3 mX8_carries 4 [(0, .ref (E.1 (9, 0))), (1, .int x1), (2, .int x2)] [] S [.int r.1] r.2) {S : jS} {x1 : Int32} {x2 : Int32} {r : (Int32 × jS)} (h : bX8_carries_111  q4 S x1 x2 = some r) : JR E 3 mX8_carries 111 [(0, .ref (E.1 (9, 0))), (1, .int x1), (2, .int x2)] [] S [.int r.1] r.2 := by
  unfold bX8_carries_111 at h
  obtain ⟨v24, ev24, h⟩ := jlk h
  refine j_iinc (pc := 111) (v := v24) (lv' := [(2, .int v24), (0, .ref (E.1 (9, 0))), (1, .int x1)]) 2 dX8_carries_111 rfl (by rw [ev24]; rfl) (by decide) rfl ?_
  refine j_goto (pc := 114) (tgt := 4) dX8_carries_114 (by decide) ?_
  exact j_sub [1, 2, 0] rfl (H4 h)
def bX8_carries_34  (q4 : jS → Int32 → Int32 → Option (Int32 × jS)) (q34 : jS → Int32 → Int32 → Int32 → Int32 → Option (Int32 × jS)) (S : jS) (x1 : Int32) (x2 : Int32) (x3 : Int32) (x4 : Int32) : Option (Int32 × jS) :=
  (if x3 ≤ x4 then bX8_carries_111 q4 S x1 x2 else (fX8_firstOf S x2).bind fun y7 => if jIn x2 10 then (fX8_manyIn y7.2 y7.1 (y7.2.2 (57, 0) x2.toNatClampNeg)).bind fun y9 => (if y9.1 ≤ 0 then bX8_carries_111 q4 (y9.2) x1 x2 else (fX8_secondOf y9.2 x2).bind fun y11 => if jIn x1 90 then jlet (jput y11.2 (61, 0) (upd (y11.2.2 (61, 0)) x1.toNatClampNeg y11.1)) fun S13 => if jIn x2 10 then if jIn x1 90 then jlet (jput S13 (62, 0) (upd (S13.2 (62, 0)) x1.toNatClampNeg (S13.2 (57, 0) x2.toNatClampNeg))) fun S16 => (fX8_firstOf S16 x2).bind fun y17 => if jIn x2 10 then (fX8_leaves y17.2 y17.1 (y17.2.2 (57, 0) x2.toNatClampNeg)).bind fun y19 => if jIn x1 90 then jlet (jput y19.2 (63, 0) (upd (y19.2.2 (63, 0)) x1.toNatClampNeg y19.1)) fun S21 => jlet (x1 + (1 : Int32)) fun v22 => jlet (x4 + (1 : Int32)) fun v23 => q34 S21 v22 x2 x3 v23 else none else none else none else none else none) else none)
set_option maxRecDepth 10000 in
set_option maxHeartbeats 4000000 in
theorem lX8_carries_34 {E : jE} (hM : jHM E) {q4 : jS → Int32 → Int32 → Option (Int32 × jS)} (H4 : ∀ {S : jS} {x1 : Int32} {x2 : Int32} {r : (Int32 × jS)}, q4 S x1 x2 = some r → JR E 3 mX8_carries 4 [(0, .ref (E.1 (9, 0))), (1, .int x1), (2, .int x2)] [] S [.int r.1] r.2) {q34 : jS → Int32 → Int32 → Int32 → Int32 → Option (Int32 × jS)} (H34 : ∀ {S : jS} {x1 : Int32} {x2 : Int32} {x3 : Int32} {x4 : Int32} {r : (Int32 × jS)}, q34 S x1 x2 x3 x4 = some r → JR E 3 mX8_carries 34 [(0, .ref (E.1 (9, 0))), (1, .int x1), (2, .int x2), (3, .int x3), (4, .int x4)] [] S [.int r.1] r.2) {S : jS} {x1 : Int32} {x2 : Int32} {x3 : Int32} {x4 : Int32} {r : (Int32 × jS)} (h : bX8_carries_34  q4 q34 S x1 x2 x3 x4 = some r) : JR E 3 mX8_carries 34 [(0, .ref (E.1 (9, 0))), (1, .int x1), (2, .int x2), (3, .int x3), (4, .int x4)] [] S [.int r.1] r.2 := by
  unfold bX8_carries_34 at h
  refine j_iload (pc := 34) 4 dX8_carries_34 rfl ?_
  refine j_iload_n (pc := 36) 3 dX8_carries_36 rfl rfl ?_
  refine j_icmp_ge (pc := 37) (tgt := 111) dX8_carries_37 (by decide) (fun c6 => ?_) (fun c6 => ?_)
  · replace h := jite_t h c6
    exact j_sub [0, 1, 2] rfl (lX8_carries_111 hM H4 h)
  · replace h := jite_f h c6
    refine j_aload_n (pc := 40) 0 dX8_carries_40 rfl rfl ?_
    refine j_aload_n (pc := 41) 0 dX8_carries_41 rfl rfl ?_
    refine j_iload_n (pc := 42) 2 dX8_carries_42 rfl rfl ?_
    obtain ⟨y7, hy7, h⟩ := jbnd h
    refine j_callV (pc := 43) (N := mX8_firstOf) (rr := (9, 0)) (As := [.int x2]) (rest := [.ref (E.1 (9, 0))]) (v := [.int y7.1]) (S1 := y7.2) dX8_carries_43 (kX8_firstOf hM hy7) (by simp) (by decide) okX8_firstOf tw_1002 tw_50 tw_1000 (hM (9, 0) rfl) rfl rfl rfl rfl (by simp [Value.category]) ?_
    refine j_aload_n (pc := 46) 0 dX8_carries_46 rfl rfl ?_
    refine jg_9_10 (pc := 47) dX8_carries_47 (hM (9, 0) rfl) tw_787 ?_
    refine j_iload_n (pc := 50) 2 dX8_carries_50 rfl rfl ?_
    obtain ⟨c8, h⟩ := jchk h
    refine j_ia (pc := 51) dX8_carries_51 rfl (hM (57, 0) rfl) c8 ?_
    obtain ⟨y9, hy9, h⟩ := jbnd h
    refine j_callV (pc := 52) (N := mX8_manyIn) (rr := (9, 0)) (As := [.int y7.1, .int (y7.2.2 (57, 0) x2.toNatClampNeg)]) (rest := []) (v := [.int y9.1]) (S1 := y9.2) dX8_carries_52 (kX8_manyIn hM hy9) (by simp) (by decide) okX8_manyIn tw_966 tw_43 tw_964 (hM (9, 0) rfl) rfl rfl rfl rfl (by simp [Value.category]) ?_
    refine j_if_le (pc := 55) (tgt := 111) dX8_carries_55 (by decide) (fun c10 => ?_) (fun c10 => ?_)
    · replace h := jite_t h c10
      exact j_sub [0, 1, 2] rfl (lX8_carries_111 hM H4 h)
    · replace h := jite_f h c10
      refine j_aload_n (pc := 58) 0 dX8_carries_58 rfl rfl ?_
      refine jg_9_16 (pc := 59) dX8_carries_59 (hM (9, 0) rfl) tw_793 ?_
      refine j_iload_n (pc := 62) 1 dX8_carries_62 rfl rfl ?_
      refine j_aload_n (pc := 63) 0 dX8_carries_63 rfl rfl ?_
      refine j_iload_n (pc := 64) 2 dX8_carries_64 rfl rfl ?_
      obtain ⟨y11, hy11, h⟩ := jbnd h
      refine j_callV (pc := 65) (N := mX8_secondOf) (rr := (9, 0)) (As := [.int x2]) (rest := [.int x1, .ref (E.1 (61, 0))]) (v := [.int y11.1]) (S1 := y11.2) dX8_carries_65 (kX8_secondOf hM hy11) (by simp) (by decide) okX8_secondOf tw_1006 tw_51 tw_1004 (hM (9, 0) rfl) rfl rfl rfl rfl (by simp [Value.category]) ?_
      obtain ⟨c12, h⟩ := jchk h
      obtain ⟨S13, eS13, h⟩ := jlk h
      refine j_is (pc := 68) dX8_carries_68 rfl (hM (61, 0) rfl) c12 eS13 ?_
      refine j_aload_n (pc := 69) 0 dX8_carries_69 rfl rfl ?_
      refine jg_9_17 (pc := 70) dX8_carries_70 (hM (9, 0) rfl) tw_794 ?_
      refine j_iload_n (pc := 73) 1 dX8_carries_73 rfl rfl ?_
      refine j_aload_n (pc := 74) 0 dX8_carries_74 rfl rfl ?_
      refine jg_9_10 (pc := 75) dX8_carries_75 (hM (9, 0) rfl) tw_787 ?_
      refine j_iload_n (pc := 78) 2 dX8_carries_78 rfl rfl ?_
      obtain ⟨c14, h⟩ := jchk h
      refine j_ia (pc := 79) dX8_carries_79 rfl (hM (57, 0) rfl) c14 ?_
      obtain ⟨c15, h⟩ := jchk h
      obtain ⟨S16, eS16, h⟩ := jlk h
      refine j_is (pc := 80) dX8_carries_80 rfl (hM (62, 0) rfl) c15 eS16 ?_
      refine j_aload_n (pc := 81) 0 dX8_carries_81 rfl rfl ?_
      refine jg_9_18 (pc := 82) dX8_carries_82 (hM (9, 0) rfl) tw_795 ?_
      refine j_iload_n (pc := 85) 1 dX8_carries_85 rfl rfl ?_
      refine j_aload_n (pc := 86) 0 dX8_carries_86 rfl rfl ?_
      refine j_aload_n (pc := 87) 0 dX8_carries_87 rfl rfl ?_
      refine j_iload_n (pc := 88) 2 dX8_carries_88 rfl rfl ?_
      obtain ⟨y17, hy17, h⟩ := jbnd h
      refine j_callV (pc := 89) (N := mX8_firstOf) (rr := (9, 0)) (As := [.int x2]) (rest := [.ref (E.1 (9, 0)), .int x1, .ref (E.1 (63, 0))]) (v := [.int y17.1]) (S1 := y17.2) dX8_carries_89 (kX8_firstOf hM hy17) (by simp) (by decide) okX8_firstOf tw_1002 tw_50 tw_1000 (hM (9, 0) rfl) rfl rfl rfl rfl (by simp [Value.category]) ?_
      refine j_aload_n (pc := 92) 0 dX8_carries_92 rfl rfl ?_
      refine jg_9_10 (pc := 93) dX8_carries_93 (hM (9, 0) rfl) tw_787 ?_
      refine j_iload_n (pc := 96) 2 dX8_carries_96 rfl rfl ?_
      obtain ⟨c18, h⟩ := jchk h
      refine j_ia (pc := 97) dX8_carries_97 rfl (hM (57, 0) rfl) c18 ?_
      obtain ⟨y19, hy19, h⟩ := jbnd h
      refine j_callV (pc := 98) (N := mX8_leaves) (rr := (9, 0)) (As := [.int y17.1, .int (y17.2.2 (57, 0) x2.toNatClampNeg)]) (rest := [.int x1, .ref (E.1 (63, 0))]) (v := [.int y19.1]) (S1 := y19.2) dX8_carries_98 (kX8_leaves hM hy19) (by simp) (by decide) okX8_leaves tw_1033 tw_57 tw_1031 (hM (9, 0) rfl) rfl rfl rfl rfl (by simp [Value.category]) ?_
      obtain ⟨c20, h⟩ := jchk h
      obtain ⟨S21, eS21, h⟩ := jlk h
      refine j_is (pc := 101) dX8_carries_101 rfl (hM (63, 0) rfl) c20 eS21 ?_
      obtain ⟨v22, ev22, h⟩ := jlk h
      refine j_iinc (pc := 102) (v := v22) (lv' := [(1, .int v22), (0, .ref (E.1 (9, 0))), (2, .int x2), (3, .int x3), (4, .int x4)]) 1 dX8_carries_102 rfl (by rw [ev22]; rfl) (by decide) rfl ?_
      obtain ⟨v23, ev23, h⟩ := jlk h
      refine j_iinc (pc := 105) (v := v23) (lv' := [(4, .int v23), (1, .int v22), (0, .ref (E.1 (9, 0))), (2, .int x2), (3, .int x3)]) 4 dX8_carries_105 rfl (by rw [ev23]; rfl) (by decide) rfl ?_
      refine j_goto (pc := 108) (tgt := 34) dX8_carries_108 (by decide) ?_
      exact j_sub [2, 1, 3, 4, 0] rfl (H34 h)
def fX8_carries_34  (q4 : jS → Int32 → Int32 → Option (Int32 × jS)) : Nat → jS → Int32 → Int32 → Int32 → Int32 → Option (Int32 × jS)
  | 0 => fun _ _ _ _ _ => none
  | n + 1 => bX8_carries_34  q4 (fX8_carries_34  q4 n)
theorem kX8_carries_34 {E : jE} (hM : jHM E) {q4 : jS → Int32 → Int32 → Option (Int32 × jS)} (H4 : ∀ {S : jS} {x1 : Int32} {x2 : Int32} {r : (Int32 × jS)}, q4 S x1 x2 = some r → JR E 3 mX8_carries 4 [(0, .ref (E.1 (9, 0))), (1, .int x1), (2, .int x2)] [] S [.int r.1] r.2) (fu : Nat) : ∀ {S : jS} {x1 : Int32} {x2 : Int32} {x3 : Int32} {x4 : Int32} {r : (Int32 × jS)}, fX8_carries_34  q4 fu S x1 x2 x3 x4 = some r → JR E 3 mX8_carries 34 [(0, .ref (E.1 (9, 0))), (1, .int x1), (2, .int x2), (3, .int x3), (4, .int x4)] [] S [.int r.1] r.2 := by
  induction fu with
  | zero => intro S x1 x2 x3 x4 r h; cases h
  | succ n_ ih => intro S x1 x2 x3 x4 r h; exact lX8_carries_34 hM H4 ih h
def bX8_carries_4  (q4 : jS → Int32 → Int32 → Option (Int32 × jS)) (S : jS) (x1 : Int32) (x2 : Int32) : Option (Int32 × jS) :=
  if jIn (5 : Int32) 815 then (if (S.2 (50, 0) (5 : Int32).toNatClampNeg) ≤ x2 then some (x1, S) else (fX8_has S (S.1 (15, 0)) x2).bind fun y3 => (if y3.1 = 0 then bX8_carries_111 q4 (y3.2) x1 x2 else (fX8_roomOf y3.2 x2).bind fun y5 => fX8_carries_34 q4 5000 (y5.2) x1 x2 y5.1 (0 : Int32))) else none
set_option maxRecDepth 10000 in
set_option maxHeartbeats 4000000 in
theorem lX8_carries_4 {E : jE} (hM : jHM E) {q4 : jS → Int32 → Int32 → Option (Int32 × jS)} (H4 : ∀ {S : jS} {x1 : Int32} {x2 : Int32} {r : (Int32 × jS)}, q4 S x1 x2 = some r → JR E 3 mX8_carries 4 [(0, .ref (E.1 (9, 0))), (1, .int x1), (2, .int x2)] [] S [.int r.1] r.2) {S : jS} {x1 : Int32} {x2 : Int32} {r : (Int32 × jS)} (h : bX8_carries_4  q4 S x1 x2 = some r) : JR E 3 mX8_carries 4 [(0, .ref (E.1 (9, 0))), (1, .int x1), (2, .int x2)] [] S [.int r.1] r.2 := by
  unfold bX8_carries_4 at h
  refine j_iload_n (pc := 4) 2 dX8_carries_4 rfl rfl ?_
  refine j_aload_n (pc := 5) 0 dX8_carries_5 rfl rfl ?_
  refine jg_9_0 (pc := 6) dX8_carries_6 (hM (9, 0) rfl) tw_777 ?_
  refine j_iconst (pc := 9) dX8_carries_9 jci_5 ?_
  obtain ⟨c1, h⟩ := jchk h
  refine j_ia (pc := 10) dX8_carries_10 rfl (hM (50, 0) rfl) c1 ?_
  refine j_icmp_ge (pc := 11) (tgt := 117) dX8_carries_11 (by decide) (fun c2 => ?_) (fun c2 => ?_)
  · replace h := jite_t h c2
    refine j_iload_n (pc := 117) 1 dX8_carries_117 rfl rfl ?_
    cases h
    exact j_iret (pc := 118) dX8_carries_118 rfl rfl
  · replace h := jite_f h c2
    refine j_aload_n (pc := 14) 0 dX8_carries_14 rfl rfl ?_
    refine jg_9_14 (pc := 15) dX8_carries_15 (hM (9, 0) rfl) tw_791 ?_
    refine j_iload_n (pc := 18) 2 dX8_carries_18 rfl rfl ?_
    obtain ⟨y3, hy3, h⟩ := jbnd h
    refine j_callS (pc := 19) (N := mX8_has) (As := [.int (S.1 (15, 0)), .int x2]) (rest := []) (v := [.int y3.1]) (S1 := y3.2) dX8_carries_19 (kX8_has hM hy3) (by simp) (by decide) okX8_has tw_950 tw_949 rfl rfl (by simp [Value.category]) ?_
    refine j_if_eq (pc := 22) (tgt := 111) dX8_carries_22 (by decide) (fun c4 => ?_) (fun c4 => ?_)
    · replace h := jite_t h c4
      exact j_sub [0, 1, 2] rfl (lX8_carries_111 hM H4 h)
    · replace h := jite_f h c4
      refine j_aload_n (pc := 25) 0 dX8_carries_25 rfl rfl ?_
      refine j_iload_n (pc := 26) 2 dX8_carries_26 rfl rfl ?_
      obtain ⟨y5, hy5, h⟩ := jbnd h
      refine j_callV (pc := 27) (N := mX8_roomOf) (rr := (9, 0)) (As := [.int x2]) (rest := []) (v := [.int y5.1]) (S1 := y5.2) dX8_carries_27 (kX8_roomOf hM hy5) (by simp) (by decide) okX8_roomOf tw_1018 tw_54 tw_1016 (hM (9, 0) rfl) rfl rfl rfl rfl (by simp [Value.category]) ?_
      refine j_istore_n (pc := 30) (lv' := [(3, .int y5.1), (0, .ref (E.1 (9, 0))), (1, .int x1), (2, .int x2)]) dX8_carries_30 rfl (by decide) rfl ?_
      refine j_iconst (pc := 31) dX8_carries_31 jci_0 ?_
      refine j_istore (pc := 32) (lv' := [(4, .int (0 : Int32)), (3, .int y5.1), (0, .ref (E.1 (9, 0))), (1, .int x1), (2, .int x2)]) dX8_carries_32 (by decide) rfl ?_
      exact j_sub [2, 3, 4, 1, 0] rfl (kX8_carries_34 hM H4 5000 h)
def fX8_carries_4  : Nat → jS → Int32 → Int32 → Option (Int32 × jS)
  | 0 => fun _ _ _ => none
  | n + 1 => bX8_carries_4  (fX8_carries_4  n)
theorem kX8_carries_4 {E : jE} (hM : jHM E) (fu : Nat) : ∀ {S : jS} {x1 : Int32} {x2 : Int32} {r : (Int32 × jS)}, fX8_carries_4  fu S x1 x2 = some r → JR E 3 mX8_carries 4 [(0, .ref (E.1 (9, 0))), (1, .int x1), (2, .int x2)] [] S [.int r.1] r.2 := by
  induction fu with
  | zero => intro S x1 x2 r h; cases h
  | succ n_ ih => intro S x1 x2 r h; exact lX8_carries_4 hM ih h
def fX8_carries  (S : jS) : Option (Int32 × jS) :=
  fX8_carries_4 5000 S (0 : Int32) (0 : Int32)
set_option maxRecDepth 10000 in
set_option maxHeartbeats 4000000 in
theorem kX8_carries {E : jE} (hM : jHM E) {S : jS} {r : (Int32 × jS)} (h : fX8_carries  S = some r) : jMR E 3 mX8_carries [.ref (E.1 (9, 0))] S [.int r.1] r.2 := by
  refine ⟨Nat.le_of_ble_eq_true rfl, ?_⟩
  show JR E 3 mX8_carries 0 [(0, .ref (E.1 (9, 0)))] [] S [.int r.1] r.2
  unfold fX8_carries at h
  refine j_iconst (pc := 0) dX8_carries_0 jci_0 ?_
  refine j_istore_n (pc := 1) (lv' := [(1, .int (0 : Int32)), (0, .ref (E.1 (9, 0)))]) dX8_carries_1 rfl (by decide) rfl ?_
  refine j_iconst (pc := 2) dX8_carries_2 jci_0 ?_
  refine j_istore_n (pc := 3) (lv' := [(2, .int (0 : Int32)), (1, .int (0 : Int32)), (0, .ref (E.1 (9, 0)))]) dX8_carries_3 rfl (by decide) rfl ?_
  exact j_sub [2, 1, 0] rfl (kX8_carries_4 hM 5000 h)
abbrev mX8_isThere : jM := (yX8_isThere, cX8_isThere, 4, none)
theorem okX8_isThere : jOK mX8_isThere 2 := ⟨by decide +kernel, tw_1038, tw_84, by decide +kernel, by decide, by decide⟩
def bX8_isThere_56  (S : jS) (x1 : Int32) (x3 : Int32) (t1 : Int32) (t2 : Int32) : Option jS :=
  if jIn t1 815 then jlet (jput S (50, 0) (upd (S.2 (50, 0)) t1.toNatClampNeg t2)) fun S9 => if jIn ((67 : Int32) + x1) 815 then if jIn ((67 : Int32) + x1) 815 then jlet (jput S9 (50, 0) (upd (S9.2 (50, 0)) ((67 : Int32) + x1).toNatClampNeg ((S9.2 (50, 0) ((67 : Int32) + x1).toNatClampNeg) + (1 : Int32)))) fun S12 => if jIn ((70 : Int32) + x1) 815 then if jIn ((70 : Int32) + x1) 815 then jlet (jput S12 (50, 0) (upd (S12.2 (50, 0)) ((70 : Int32) + x1).toNatClampNeg ((S12.2 (50, 0) ((70 : Int32) + x1).toNatClampNeg) + x3))) fun S15 => some S15 else none else none else none else none else none
set_option maxRecDepth 10000 in
set_option maxHeartbeats 4000000 in
theorem lX8_isThere_56 {E : jE} (hM : jHM E) {S : jS} {x1 : Int32} {x3 : Int32} {t1 : Int32} {t2 : Int32} {r : jS} (h : bX8_isThere_56  S x1 x3 t1 t2 = some r) : JR E 1 mX8_isThere 56 [(0, .ref (E.1 (9, 0))), (1, .int x1), (3, .int x3)] [.int t2, .int t1, .ref (E.1 (50, 0))] S [] r := by
  unfold bX8_isThere_56 at h
  obtain ⟨c8, h⟩ := jchk h
  obtain ⟨S9, eS9, h⟩ := jlk h
  refine j_is (pc := 56) dX8_isThere_56 rfl (hM (50, 0) rfl) c8 eS9 ?_
  refine j_aload_n (pc := 57) 0 dX8_isThere_57 rfl rfl ?_
  refine jg_9_0 (pc := 58) dX8_isThere_58 (hM (9, 0) rfl) tw_777 ?_
  refine j_bipush (pc := 61) dX8_isThere_61 jcb_67 ?_
  refine j_iload_n (pc := 63) 1 dX8_isThere_63 rfl rfl ?_
  refine j_iadd (pc := 64) dX8_isThere_64 ?_
  refine j_dup2 (pc := 65) dX8_isThere_65 rfl rfl ?_
  obtain ⟨c10, h⟩ := jchk h
  refine j_ia (pc := 66) dX8_isThere_66 rfl (hM (50, 0) rfl) c10 ?_
  refine j_iconst (pc := 67) dX8_isThere_67 jci_1 ?_
  refine j_iadd (pc := 68) dX8_isThere_68 ?_
  obtain ⟨c11, h⟩ := jchk h
  obtain ⟨S12, eS12, h⟩ := jlk h
  refine j_is (pc := 69) dX8_isThere_69 rfl (hM (50, 0) rfl) c11 eS12 ?_
  refine j_aload_n (pc := 70) 0 dX8_isThere_70 rfl rfl ?_
  refine jg_9_0 (pc := 71) dX8_isThere_71 (hM (9, 0) rfl) tw_777 ?_
  refine j_bipush (pc := 74) dX8_isThere_74 jcb_70 ?_
  refine j_iload_n (pc := 76) 1 dX8_isThere_76 rfl rfl ?_
  refine j_iadd (pc := 77) dX8_isThere_77 ?_
  refine j_dup2 (pc := 78) dX8_isThere_78 rfl rfl ?_
  obtain ⟨c13, h⟩ := jchk h
  refine j_ia (pc := 79) dX8_isThere_79 rfl (hM (50, 0) rfl) c13 ?_
  refine j_iload_n (pc := 80) 2 dX8_isThere_80 rfl rfl ?_
  refine j_iadd (pc := 81) dX8_isThere_81 ?_
  obtain ⟨c14, h⟩ := jchk h
  obtain ⟨S15, eS15, h⟩ := jlk h
  refine j_is (pc := 82) dX8_isThere_82 rfl (hM (50, 0) rfl) c14 eS15 ?_
  cases h
  exact j_vret (pc := 83) dX8_isThere_83 rfl
def bX8_isThere_43  (S : jS) (x1 : Int32) (x3 : Int32) (t1 : Int32) : Option jS :=
  bX8_isThere_56 S x1 x3 t1 x3
set_option maxRecDepth 10000 in
set_option maxHeartbeats 4000000 in
theorem lX8_isThere_43 {E : jE} (hM : jHM E) {S : jS} {x1 : Int32} {x3 : Int32} {t1 : Int32} {r : jS} (h : bX8_isThere_43  S x1 x3 t1 = some r) : JR E 1 mX8_isThere 43 [(0, .ref (E.1 (9, 0))), (1, .int x1), (3, .int x3)] [.int t1, .ref (E.1 (50, 0))] S [] r := by
  unfold bX8_isThere_43 at h
  refine j_iload_n (pc := 43) 2 dX8_isThere_43 rfl rfl ?_
  refine j_goto (pc := 44) (tgt := 56) dX8_isThere_44 (by decide) ?_
  exact j_sub [0, 1, 2] rfl (lX8_isThere_56 hM h)
def fX8_isThere  (S : jS) (x1 : Int32) (x2 : Int32) : Option jS :=
  if jIn (66 : Int32) 815 then jlet ((S.2 (50, 0) (66 : Int32).toNatClampNeg) - x2) fun v2 => if jIn ((67 : Int32) + x1) 815 then (if (S.2 (50, 0) ((67 : Int32) + x1).toNatClampNeg) = 0 then bX8_isThere_43 S x1 v2 ((73 : Int32) + x1) else if jIn ((73 : Int32) + x1) 815 then (if v2 ≤ (S.2 (50, 0) ((73 : Int32) + x1).toNatClampNeg) then if jIn ((73 : Int32) + x1) 815 then bX8_isThere_56 S x1 v2 ((73 : Int32) + x1) (S.2 (50, 0) ((73 : Int32) + x1).toNatClampNeg) else none else bX8_isThere_43 S x1 v2 ((73 : Int32) + x1)) else none) else none else none
set_option maxRecDepth 10000 in
set_option maxHeartbeats 4000000 in
theorem kX8_isThere {E : jE} (hM : jHM E) {S : jS} {x1 : Int32} {x2 : Int32} {r : jS} (h : fX8_isThere  S x1 x2 = some r) : jMR E 1 mX8_isThere [.ref (E.1 (9, 0)), .int x1, .int x2] S [] r := by
  refine ⟨Nat.le_of_ble_eq_true rfl, ?_⟩
  show JR E 1 mX8_isThere 0 [(0, .ref (E.1 (9, 0))), (1, .int x1), (2, .int x2)] [] S [] r
  unfold fX8_isThere at h
  refine j_aload_n (pc := 0) 0 dX8_isThere_0 rfl rfl ?_
  refine jg_9_0 (pc := 1) dX8_isThere_1 (hM (9, 0) rfl) tw_777 ?_
  refine j_bipush (pc := 4) dX8_isThere_4 jcb_66 ?_
  obtain ⟨c1, h⟩ := jchk h
  refine j_ia (pc := 6) dX8_isThere_6 rfl (hM (50, 0) rfl) c1 ?_
  refine j_iload_n (pc := 7) 2 dX8_isThere_7 rfl rfl ?_
  refine j_isub (pc := 8) dX8_isThere_8 ?_
  obtain ⟨v2, ev2, h⟩ := jlk h
  refine j_topi ev2 ?_
  refine j_istore_n (pc := 9) (lv' := [(3, .int v2), (0, .ref (E.1 (9, 0))), (1, .int x1), (2, .int x2)]) dX8_isThere_9 rfl (by decide) rfl ?_
  refine j_aload_n (pc := 10) 1 dX8_isThere_10 rfl rfl ?_
  refine jg_9_0 (pc := 11) dX8_isThere_11 (hM (9, 0) rfl) tw_777 ?_
  refine j_bipush (pc := 14) dX8_isThere_14 jcb_73 ?_
  refine j_iload_n (pc := 16) 2 dX8_isThere_16 rfl rfl ?_
  refine j_iadd (pc := 17) dX8_isThere_17 ?_
  refine j_aload_n (pc := 18) 1 dX8_isThere_18 rfl rfl ?_
  refine jg_9_0 (pc := 19) dX8_isThere_19 (hM (9, 0) rfl) tw_777 ?_
  refine j_bipush (pc := 22) dX8_isThere_22 jcb_67 ?_
  refine j_iload_n (pc := 24) 2 dX8_isThere_24 rfl rfl ?_
  refine j_iadd (pc := 25) dX8_isThere_25 ?_
  obtain ⟨c3, h⟩ := jchk h
  refine j_ia (pc := 26) dX8_isThere_26 rfl (hM (50, 0) rfl) c3 ?_
  refine j_if_eq (pc := 27) (tgt := 43) dX8_isThere_27 (by decide) (fun c4 => ?_) (fun c4 => ?_)
  · replace h := jite_t h c4
    exact j_sub [1, 2, 0] rfl (lX8_isThere_43 hM h)
  · replace h := jite_f h c4
    refine j_iload_n (pc := 30) 0 dX8_isThere_30 rfl rfl ?_
    refine j_aload_n (pc := 31) 1 dX8_isThere_31 rfl rfl ?_
    refine jg_9_0 (pc := 32) dX8_isThere_32 (hM (9, 0) rfl) tw_777 ?_
    refine j_bipush (pc := 35) dX8_isThere_35 jcb_73 ?_
    refine j_iload_n (pc := 37) 2 dX8_isThere_37 rfl rfl ?_
    refine j_iadd (pc := 38) dX8_isThere_38 ?_
    obtain ⟨c5, h⟩ := jchk h
    refine j_ia (pc := 39) dX8_isThere_39 rfl (hM (50, 0) rfl) c5 ?_
    refine j_icmp_le (pc := 40) (tgt := 47) dX8_isThere_40 (by decide) (fun c6 => ?_) (fun c6 => ?_)
    · replace h := jite_t h c6
      refine j_aload_n (pc := 47) 1 dX8_isThere_47 rfl rfl ?_
      refine jg_9_0 (pc := 48) dX8_isThere_48 (hM (9, 0) rfl) tw_777 ?_
      refine j_bipush (pc := 51) dX8_isThere_51 jcb_73 ?_
      refine j_iload_n (pc := 53) 2 dX8_isThere_53 rfl rfl ?_
      refine j_iadd (pc := 54) dX8_isThere_54 ?_
      obtain ⟨c7, h⟩ := jchk h
      refine j_ia (pc := 55) dX8_isThere_55 rfl (hM (50, 0) rfl) c7 ?_
      exact j_sub [1, 2, 0] rfl (lX8_isThere_56 hM h)
    · replace h := jite_f h c6
      exact j_sub [1, 2, 0] rfl (lX8_isThere_43 hM h)
abbrev mX8_goesOn : jM := (yX8_goesOn, cX8_goesOn, 6, none)
theorem okX8_goesOn : jOK mX8_goesOn 1 := ⟨by decide +kernel, tw_991, tw_84, by decide +kernel, by decide, by decide⟩
def bX8_goesOn_186  (q113 : jS → Int32 → Option jS) (q126 : jS → Int32 → Int32 → Option jS) (q140 : jS → Int32 → Int32 → Int32 → Option jS) (S : jS) (x3 : Int32) (x4 : Int32) (x5 : Int32) (t1 : Int32) (t2 : Int32) (t3 : Int32) : Option jS :=
  if jIn t1 815 then jlet (jput S (50, 0) (upd (S.2 (50, 0)) t1.toNatClampNeg (t2 + t3))) fun S36 => jlet (x5 + (1 : Int32)) fun v37 => q140 S36 x3 x4 v37 else none
set_option maxRecDepth 10000 in
set_option maxHeartbeats 4000000 in
theorem lX8_goesOn_186 {E : jE} (hM : jHM E) {q113 : jS → Int32 → Option jS} (H113 : ∀ {S : jS} {x3 : Int32} {r : jS}, q113 S x3 = some r → JR E 6 mX8_goesOn 113 [(0, .ref (E.1 (9, 0))), (3, .int x3)] [] S [] r) {q126 : jS → Int32 → Int32 → Option jS} (H126 : ∀ {S : jS} {x3 : Int32} {x4 : Int32} {r : jS}, q126 S x3 x4 = some r → JR E 6 mX8_goesOn 126 [(0, .ref (E.1 (9, 0))), (3, .int x3), (4, .int x4)] [] S [] r) {q140 : jS → Int32 → Int32 → Int32 → Option jS} (H140 : ∀ {S : jS} {x3 : Int32} {x4 : Int32} {x5 : Int32} {r : jS}, q140 S x3 x4 x5 = some r → JR E 6 mX8_goesOn 140 [(0, .ref (E.1 (9, 0))), (3, .int x3), (4, .int x4), (5, .int x5)] [] S [] r) {S : jS} {x3 : Int32} {x4 : Int32} {x5 : Int32} {t1 : Int32} {t2 : Int32} {t3 : Int32} {r : jS} (h : bX8_goesOn_186  q113 q126 q140 S x3 x4 x5 t1 t2 t3 = some r) : JR E 6 mX8_goesOn 186 [(0, .ref (E.1 (9, 0))), (3, .int x3), (4, .int x4), (5, .int x5)] [.int t3, .int t2, .int t1, .ref (E.1 (50, 0))] S [] r := by
  unfold bX8_goesOn_186 at h
  refine j_iadd (pc := 186) dX8_goesOn_186 ?_
  obtain ⟨c35, h⟩ := jchk h
  obtain ⟨S36, eS36, h⟩ := jlk h
  refine j_is (pc := 187) dX8_goesOn_187 rfl (hM (50, 0) rfl) c35 eS36 ?_
  obtain ⟨v37, ev37, h⟩ := jlk h
  refine j_iinc (pc := 188) (v := v37) (lv' := [(5, .int v37), (0, .ref (E.1 (9, 0))), (3, .int x3), (4, .int x4)]) 3 dX8_goesOn_188 rfl (by rw [ev37]; rfl) (by decide) rfl ?_
  refine j_goto (pc := 191) (tgt := 140) dX8_goesOn_191 (by decide) ?_
  exact j_sub [1, 2, 3, 0] rfl (H140 h)
def bX8_goesOn_140  (q113 : jS → Int32 → Option jS) (q126 : jS → Int32 → Int32 → Option jS) (q140 : jS → Int32 → Int32 → Int32 → Option jS) (S : jS) (x3 : Int32) (x4 : Int32) (x5 : Int32) : Option jS :=
  if jIn (((3 : Int32) * x3) + x4) 18 then (if (S.2 (64, 0) (((3 : Int32) * x3) + x4).toNatClampNeg) ≤ x5 then jlet (x4 + (1 : Int32)) fun v30 => q126 S x3 v30 else if jIn (76 : Int32) 815 then if jIn (66 : Int32) 815 then (fX8_comes S x3 x4 (S.2 (50, 0) (66 : Int32).toNatClampNeg)).bind fun y33 => (if y33.1 = 0 then bX8_goesOn_186 q113 q126 q140 (y33.2) x3 x4 x5 (76 : Int32) (S.2 (50, 0) (76 : Int32).toNatClampNeg) (1 : Int32) else bX8_goesOn_186 q113 q126 q140 (y33.2) x3 x4 x5 (76 : Int32) (S.2 (50, 0) (76 : Int32).toNatClampNeg) (0 : Int32)) else none else none) else none
set_option maxRecDepth 10000 in
set_option maxHeartbeats 4000000 in
theorem lX8_goesOn_140 {E : jE} (hM : jHM E) {q113 : jS → Int32 → Option jS} (H113 : ∀ {S : jS} {x3 : Int32} {r : jS}, q113 S x3 = some r → JR E 6 mX8_goesOn 113 [(0, .ref (E.1 (9, 0))), (3, .int x3)] [] S [] r) {q126 : jS → Int32 → Int32 → Option jS} (H126 : ∀ {S : jS} {x3 : Int32} {x4 : Int32} {r : jS}, q126 S x3 x4 = some r → JR E 6 mX8_goesOn 126 [(0, .ref (E.1 (9, 0))), (3, .int x3), (4, .int x4)] [] S [] r) {q140 : jS → Int32 → Int32 → Int32 → Option jS} (H140 : ∀ {S : jS} {x3 : Int32} {x4 : Int32} {x5 : Int32} {r : jS}, q140 S x3 x4 x5 = some r → JR E 6 mX8_goesOn 140 [(0, .ref (E.1 (9, 0))), (3, .int x3), (4, .int x4), (5, .int x5)] [] S [] r) {S : jS} {x3 : Int32} {x4 : Int32} {x5 : Int32} {r : jS} (h : bX8_goesOn_140  q113 q126 q140 S x3 x4 x5 = some r) : JR E 6 mX8_goesOn 140 [(0, .ref (E.1 (9, 0))), (3, .int x3), (4, .int x4), (5, .int x5)] [] S [] r := by
  unfold bX8_goesOn_140 at h
  refine j_iload (pc := 140) 3 dX8_goesOn_140 rfl ?_
  refine j_aload_n (pc := 142) 0 dX8_goesOn_142 rfl rfl ?_
  refine jg_9_19 (pc := 143) dX8_goesOn_143 (hM (9, 0) rfl) tw_796 ?_
  refine j_iconst (pc := 146) dX8_goesOn_146 jci_3 ?_
  refine j_iload_n (pc := 147) 1 dX8_goesOn_147 rfl rfl ?_
  refine j_imul (pc := 148) dX8_goesOn_148 ?_
  refine j_iload (pc := 149) 2 dX8_goesOn_149 rfl ?_
  refine j_iadd (pc := 151) dX8_goesOn_151 ?_
  obtain ⟨c28, h⟩ := jchk h
  refine j_ia (pc := 152) dX8_goesOn_152 rfl (hM (64, 0) rfl) c28 ?_
  refine j_icmp_ge (pc := 153) (tgt := 194) dX8_goesOn_153 (by decide) (fun c29 => ?_) (fun c29 => ?_)
  · replace h := jite_t h c29
    obtain ⟨v30, ev30, h⟩ := jlk h
    refine j_iinc (pc := 194) (v := v30) (lv' := [(4, .int v30), (0, .ref (E.1 (9, 0))), (3, .int x3), (5, .int x5)]) 2 dX8_goesOn_194 rfl (by rw [ev30]; rfl) (by decide) rfl ?_
    refine j_goto (pc := 197) (tgt := 126) dX8_goesOn_197 (by decide) ?_
    exact j_sub [1, 2, 0] rfl (H126 h)
  · replace h := jite_f h c29
    refine j_aload_n (pc := 156) 0 dX8_goesOn_156 rfl rfl ?_
    refine jg_9_0 (pc := 157) dX8_goesOn_157 (hM (9, 0) rfl) tw_777 ?_
    refine j_bipush (pc := 160) dX8_goesOn_160 jcb_76 ?_
    refine j_dup2 (pc := 162) dX8_goesOn_162 rfl rfl ?_
    obtain ⟨c31, h⟩ := jchk h
    refine j_ia (pc := 163) dX8_goesOn_163 rfl (hM (50, 0) rfl) c31 ?_
    refine j_aload_n (pc := 164) 0 dX8_goesOn_164 rfl rfl ?_
    refine j_iload_n (pc := 165) 1 dX8_goesOn_165 rfl rfl ?_
    refine j_iload (pc := 166) 2 dX8_goesOn_166 rfl ?_
    refine j_aload_n (pc := 168) 0 dX8_goesOn_168 rfl rfl ?_
    refine jg_9_0 (pc := 169) dX8_goesOn_169 (hM (9, 0) rfl) tw_777 ?_
    refine j_bipush (pc := 172) dX8_goesOn_172 jcb_66 ?_
    obtain ⟨c32, h⟩ := jchk h
    refine j_ia (pc := 174) dX8_goesOn_174 rfl (hM (50, 0) rfl) c32 ?_
    obtain ⟨y33, hy33, h⟩ := jbnd h
    refine j_callV (pc := 175) (N := mX8_comes) (rr := (9, 0)) (As := [.int x3, .int x4, .int (S.2 (50, 0) (66 : Int32).toNatClampNeg)]) (rest := [.int (S.2 (50, 0) (76 : Int32).toNatClampNeg), .int (76 : Int32), .ref (E.1 (50, 0))]) (v := [.int y33.1]) (S1 := y33.2) dX8_goesOn_175 (kX8_comes hM hy33) (by simp) (by decide) okX8_comes tw_973 tw_44 tw_971 (hM (9, 0) rfl) rfl rfl rfl rfl (by simp [Value.category]) ?_
    refine j_if_eq (pc := 178) (tgt := 185) dX8_goesOn_178 (by decide) (fun c34 => ?_) (fun c34 => ?_)
    · replace h := jite_t h c34
      refine j_iconst (pc := 185) dX8_goesOn_185 jci_1 ?_
      exact j_sub [0, 1, 2, 3] rfl (lX8_goesOn_186 hM H113 H126 H140 h)
    · replace h := jite_f h c34
      refine j_iconst (pc := 181) dX8_goesOn_181 jci_0 ?_
      refine j_goto (pc := 182) (tgt := 186) dX8_goesOn_182 (by decide) ?_
      exact j_sub [0, 1, 2, 3] rfl (lX8_goesOn_186 hM H113 H126 H140 h)
def fX8_goesOn_140  (q113 : jS → Int32 → Option jS) (q126 : jS → Int32 → Int32 → Option jS) : Nat → jS → Int32 → Int32 → Int32 → Option jS
  | 0 => fun _ _ _ _ => none
  | n + 1 => bX8_goesOn_140  q113 q126 (fX8_goesOn_140  q113 q126 n)
theorem kX8_goesOn_140 {E : jE} (hM : jHM E) {q113 : jS → Int32 → Option jS} (H113 : ∀ {S : jS} {x3 : Int32} {r : jS}, q113 S x3 = some r → JR E 6 mX8_goesOn 113 [(0, .ref (E.1 (9, 0))), (3, .int x3)] [] S [] r) {q126 : jS → Int32 → Int32 → Option jS} (H126 : ∀ {S : jS} {x3 : Int32} {x4 : Int32} {r : jS}, q126 S x3 x4 = some r → JR E 6 mX8_goesOn 126 [(0, .ref (E.1 (9, 0))), (3, .int x3), (4, .int x4)] [] S [] r) (fu : Nat) : ∀ {S : jS} {x3 : Int32} {x4 : Int32} {x5 : Int32} {r : jS}, fX8_goesOn_140  q113 q126 fu S x3 x4 x5 = some r → JR E 6 mX8_goesOn 140 [(0, .ref (E.1 (9, 0))), (3, .int x3), (4, .int x4), (5, .int x5)] [] S [] r := by
  induction fu with
  | zero => intro S x3 x4 x5 r h; cases h
  | succ n_ ih => intro S x3 x4 x5 r h; exact lX8_goesOn_140 hM H113 H126 ih h
def bX8_goesOn_126  (q113 : jS → Int32 → Option jS) (q126 : jS → Int32 → Int32 → Option jS) (S : jS) (x3 : Int32) (x4 : Int32) : Option jS :=
  if jIn (1 : Int32) 815 then (if (S.2 (50, 0) (1 : Int32).toNatClampNeg) ≤ x4 then jlet (x3 + (1 : Int32)) fun v27 => q113 S v27 else fX8_goesOn_140 q113 q126 5000 S x3 x4 (0 : Int32)) else none
set_option maxRecDepth 10000 in
set_option maxHeartbeats 4000000 in
theorem lX8_goesOn_126 {E : jE} (hM : jHM E) {q113 : jS → Int32 → Option jS} (H113 : ∀ {S : jS} {x3 : Int32} {r : jS}, q113 S x3 = some r → JR E 6 mX8_goesOn 113 [(0, .ref (E.1 (9, 0))), (3, .int x3)] [] S [] r) {q126 : jS → Int32 → Int32 → Option jS} (H126 : ∀ {S : jS} {x3 : Int32} {x4 : Int32} {r : jS}, q126 S x3 x4 = some r → JR E 6 mX8_goesOn 126 [(0, .ref (E.1 (9, 0))), (3, .int x3), (4, .int x4)] [] S [] r) {S : jS} {x3 : Int32} {x4 : Int32} {r : jS} (h : bX8_goesOn_126  q113 q126 S x3 x4 = some r) : JR E 6 mX8_goesOn 126 [(0, .ref (E.1 (9, 0))), (3, .int x3), (4, .int x4)] [] S [] r := by
  unfold bX8_goesOn_126 at h
  refine j_iload (pc := 126) 2 dX8_goesOn_126 rfl ?_
  refine j_aload_n (pc := 128) 0 dX8_goesOn_128 rfl rfl ?_
  refine jg_9_0 (pc := 129) dX8_goesOn_129 (hM (9, 0) rfl) tw_777 ?_
  refine j_iconst (pc := 132) dX8_goesOn_132 jci_1 ?_
  obtain ⟨c25, h⟩ := jchk h
  refine j_ia (pc := 133) dX8_goesOn_133 rfl (hM (50, 0) rfl) c25 ?_
  refine j_icmp_ge (pc := 134) (tgt := 200) dX8_goesOn_134 (by decide) (fun c26 => ?_) (fun c26 => ?_)
  · replace h := jite_t h c26
    obtain ⟨v27, ev27, h⟩ := jlk h
    refine j_iinc (pc := 200) (v := v27) (lv' := [(3, .int v27), (0, .ref (E.1 (9, 0))), (4, .int x4)]) 1 dX8_goesOn_200 rfl (by rw [ev27]; rfl) (by decide) rfl ?_
    refine j_goto (pc := 203) (tgt := 113) dX8_goesOn_203 (by decide) ?_
    exact j_sub [1, 0] rfl (H113 h)
  · replace h := jite_f h c26
    refine j_iconst (pc := 137) dX8_goesOn_137 jci_0 ?_
    refine j_istore (pc := 138) (lv' := [(5, .int (0 : Int32)), (0, .ref (E.1 (9, 0))), (3, .int x3), (4, .int x4)]) dX8_goesOn_138 (by decide) rfl ?_
    exact j_sub [1, 2, 3, 0] rfl (kX8_goesOn_140 hM H113 H126 5000 h)
def fX8_goesOn_126  (q113 : jS → Int32 → Option jS) : Nat → jS → Int32 → Int32 → Option jS
  | 0 => fun _ _ _ => none
  | n + 1 => bX8_goesOn_126  q113 (fX8_goesOn_126  q113 n)
theorem kX8_goesOn_126 {E : jE} (hM : jHM E) {q113 : jS → Int32 → Option jS} (H113 : ∀ {S : jS} {x3 : Int32} {r : jS}, q113 S x3 = some r → JR E 6 mX8_goesOn 113 [(0, .ref (E.1 (9, 0))), (3, .int x3)] [] S [] r) (fu : Nat) : ∀ {S : jS} {x3 : Int32} {x4 : Int32} {r : jS}, fX8_goesOn_126  q113 fu S x3 x4 = some r → JR E 6 mX8_goesOn 126 [(0, .ref (E.1 (9, 0))), (3, .int x3), (4, .int x4)] [] S [] r := by
  induction fu with
  | zero => intro S x3 x4 r h; cases h
  | succ n_ ih => intro S x3 x4 r h; exact lX8_goesOn_126 hM H113 ih h
def bX8_goesOn_113  (q113 : jS → Int32 → Option jS) (S : jS) (x3 : Int32) : Option jS :=
  if jIn (0 : Int32) 815 then (if (S.2 (50, 0) (0 : Int32).toNatClampNeg) ≤ x3 then some S else fX8_goesOn_126 q113 5000 S x3 (0 : Int32)) else none
set_option maxRecDepth 10000 in
set_option maxHeartbeats 4000000 in
theorem lX8_goesOn_113 {E : jE} (hM : jHM E) {q113 : jS → Int32 → Option jS} (H113 : ∀ {S : jS} {x3 : Int32} {r : jS}, q113 S x3 = some r → JR E 6 mX8_goesOn 113 [(0, .ref (E.1 (9, 0))), (3, .int x3)] [] S [] r) {S : jS} {x3 : Int32} {r : jS} (h : bX8_goesOn_113  q113 S x3 = some r) : JR E 6 mX8_goesOn 113 [(0, .ref (E.1 (9, 0))), (3, .int x3)] [] S [] r := by
  unfold bX8_goesOn_113 at h
  refine j_iload_n (pc := 113) 1 dX8_goesOn_113 rfl rfl ?_
  refine j_aload_n (pc := 114) 0 dX8_goesOn_114 rfl rfl ?_
  refine jg_9_0 (pc := 115) dX8_goesOn_115 (hM (9, 0) rfl) tw_777 ?_
  refine j_iconst (pc := 118) dX8_goesOn_118 jci_0 ?_
  obtain ⟨c23, h⟩ := jchk h
  refine j_ia (pc := 119) dX8_goesOn_119 rfl (hM (50, 0) rfl) c23 ?_
  refine j_icmp_ge (pc := 120) (tgt := 206) dX8_goesOn_120 (by decide) (fun c24 => ?_) (fun c24 => ?_)
  · replace h := jite_t h c24
    cases h
    exact j_vret (pc := 206) dX8_goesOn_206 rfl
  · replace h := jite_f h c24
    refine j_iconst (pc := 123) dX8_goesOn_123 jci_0 ?_
    refine j_istore (pc := 124) (lv' := [(4, .int (0 : Int32)), (0, .ref (E.1 (9, 0))), (3, .int x3)]) dX8_goesOn_124 (by decide) rfl ?_
    exact j_sub [1, 2, 0] rfl (kX8_goesOn_126 hM H113 5000 h)
def fX8_goesOn_113  : Nat → jS → Int32 → Option jS
  | 0 => fun _ _ => none
  | n + 1 => bX8_goesOn_113  (fX8_goesOn_113  n)
theorem kX8_goesOn_113 {E : jE} (hM : jHM E) (fu : Nat) : ∀ {S : jS} {x3 : Int32} {r : jS}, fX8_goesOn_113  fu S x3 = some r → JR E 6 mX8_goesOn 113 [(0, .ref (E.1 (9, 0))), (3, .int x3)] [] S [] r := by
  induction fu with
  | zero => intro S x3 r h; cases h
  | succ n_ ih => intro S x3 r h; exact lX8_goesOn_113 hM ih h
def bX8_goesOn_105  (q27 : jS → Int32 → Int32 → Option jS) (S : jS) (x2 : Int32) (x3 : Int32) : Option jS :=
  jlet (x3 + (1 : Int32)) fun v22 => q27 S x2 v22
set_option maxRecDepth 10000 in
set_option maxHeartbeats 4000000 in
theorem lX8_goesOn_105 {E : jE} (hM : jHM E) {q27 : jS → Int32 → Int32 → Option jS} (H27 : ∀ {S : jS} {x2 : Int32} {x3 : Int32} {r : jS}, q27 S x2 x3 = some r → JR E 6 mX8_goesOn 27 [(0, .ref (E.1 (9, 0))), (2, .int x2), (3, .int x3)] [] S [] r) {S : jS} {x2 : Int32} {x3 : Int32} {r : jS} (h : bX8_goesOn_105  q27 S x2 x3 = some r) : JR E 6 mX8_goesOn 105 [(0, .ref (E.1 (9, 0))), (2, .int x2), (3, .int x3)] [] S [] r := by
  unfold bX8_goesOn_105 at h
  obtain ⟨v22, ev22, h⟩ := jlk h
  refine j_iinc (pc := 105) (v := v22) (lv' := [(3, .int v22), (0, .ref (E.1 (9, 0))), (2, .int x2)]) 2 dX8_goesOn_105 rfl (by rw [ev22]; rfl) (by decide) rfl ?_
  refine j_goto (pc := 108) (tgt := 27) dX8_goesOn_108 (by decide) ?_
  exact j_sub [1, 2, 0] rfl (H27 h)
def bX8_goesOn_27  (q27 : jS → Int32 → Int32 → Option jS) (S : jS) (x2 : Int32) (x3 : Int32) : Option jS :=
  (if x2 ≤ x3 then fX8_goesOn_113 5000 S (0 : Int32) else if jIn x3 90 then jlet (S.2 (62, 0) x3.toNatClampNeg) fun v9 => if jIn x3 90 then if jIn ((2 : Int32) + v9) 815 then (if (S.2 (61, 0) x3.toNatClampNeg) = (S.2 (50, 0) ((2 : Int32) + v9).toNatClampNeg) then if jIn x3 90 then (fX8_isThere S v9 (S.2 (63, 0) x3.toNatClampNeg)).bind fun y21 => bX8_goesOn_105 q27 y21 x2 x3 else none else if jIn x3 90 then if jIn x3 90 then (fX8_comes S (S.2 (61, 0) x3.toNatClampNeg) v9 (S.2 (63, 0) x3.toNatClampNeg)).bind fun y15 => (if y15.1 = 0 then if jIn (76 : Int32) 815 then if jIn (76 : Int32) 815 then jlet (jput y15.2 (50, 0) (upd (y15.2.2 (50, 0)) (76 : Int32).toNatClampNeg ((y15.2.2 (50, 0) (76 : Int32).toNatClampNeg) + (1 : Int32)))) fun S19 => bX8_goesOn_105 q27 S19 x2 x3 else none else none else bX8_goesOn_105 q27 (y15.2) x2 x3) else none else none) else none else none else none)
set_option maxRecDepth 10000 in
set_option maxHeartbeats 4000000 in
theorem lX8_goesOn_27 {E : jE} (hM : jHM E) {q27 : jS → Int32 → Int32 → Option jS} (H27 : ∀ {S : jS} {x2 : Int32} {x3 : Int32} {r : jS}, q27 S x2 x3 = some r → JR E 6 mX8_goesOn 27 [(0, .ref (E.1 (9, 0))), (2, .int x2), (3, .int x3)] [] S [] r) {S : jS} {x2 : Int32} {x3 : Int32} {r : jS} (h : bX8_goesOn_27  q27 S x2 x3 = some r) : JR E 6 mX8_goesOn 27 [(0, .ref (E.1 (9, 0))), (2, .int x2), (3, .int x3)] [] S [] r := by
  unfold bX8_goesOn_27 at h
  refine j_iload_n (pc := 27) 2 dX8_goesOn_27 rfl rfl ?_
  refine j_iload_n (pc := 28) 1 dX8_goesOn_28 rfl rfl ?_
  refine j_icmp_ge (pc := 29) (tgt := 111) dX8_goesOn_29 (by decide) (fun c7 => ?_) (fun c7 => ?_)
  · replace h := jite_t h c7
    refine j_iconst (pc := 111) dX8_goesOn_111 jci_0 ?_
    refine j_istore_n (pc := 112) (lv' := [(3, .int (0 : Int32)), (0, .ref (E.1 (9, 0))), (2, .int x2)]) dX8_goesOn_112 rfl (by decide) rfl ?_
    exact j_sub [1, 0] rfl (kX8_goesOn_113 hM 5000 h)
  · replace h := jite_f h c7
    refine j_aload_n (pc := 32) 0 dX8_goesOn_32 rfl rfl ?_
    refine jg_9_17 (pc := 33) dX8_goesOn_33 (hM (9, 0) rfl) tw_794 ?_
    refine j_iload_n (pc := 36) 2 dX8_goesOn_36 rfl rfl ?_
    obtain ⟨c8, h⟩ := jchk h
    refine j_ia (pc := 37) dX8_goesOn_37 rfl (hM (62, 0) rfl) c8 ?_
    obtain ⟨v9, ev9, h⟩ := jlk h
    refine j_topi ev9 ?_
    refine j_istore (pc := 38) (lv' := [(4, .int v9), (0, .ref (E.1 (9, 0))), (2, .int x2), (3, .int x3)]) dX8_goesOn_38 (by decide) rfl ?_
    refine j_aload_n (pc := 40) 1 dX8_goesOn_40 rfl rfl ?_
    refine jg_9_16 (pc := 41) dX8_goesOn_41 (hM (9, 0) rfl) tw_793 ?_
    refine j_iload_n (pc := 44) 3 dX8_goesOn_44 rfl rfl ?_
    obtain ⟨c10, h⟩ := jchk h
    refine j_ia (pc := 45) dX8_goesOn_45 rfl (hM (61, 0) rfl) c10 ?_
    refine j_aload_n (pc := 46) 1 dX8_goesOn_46 rfl rfl ?_
    refine jg_9_0 (pc := 47) dX8_goesOn_47 (hM (9, 0) rfl) tw_777 ?_
    refine j_iconst (pc := 50) dX8_goesOn_50 jci_2 ?_
    refine j_iload (pc := 51) 0 dX8_goesOn_51 rfl ?_
    refine j_iadd (pc := 53) dX8_goesOn_53 ?_
    obtain ⟨c11, h⟩ := jchk h
    refine j_ia (pc := 54) dX8_goesOn_54 rfl (hM (50, 0) rfl) c11 ?_
    refine j_icmp_ne (pc := 55) (tgt := 73) dX8_goesOn_55 (by decide) (fun c12 => ?_) (fun c12 => ?_)
    · replace h := jite_f h c12
      refine j_aload_n (pc := 73) 1 dX8_goesOn_73 rfl rfl ?_
      refine j_aload_n (pc := 74) 1 dX8_goesOn_74 rfl rfl ?_
      refine jg_9_16 (pc := 75) dX8_goesOn_75 (hM (9, 0) rfl) tw_793 ?_
      refine j_iload_n (pc := 78) 3 dX8_goesOn_78 rfl rfl ?_
      obtain ⟨c13, h⟩ := jchk h
      refine j_ia (pc := 79) dX8_goesOn_79 rfl (hM (61, 0) rfl) c13 ?_
      refine j_iload (pc := 80) 0 dX8_goesOn_80 rfl ?_
      refine j_aload_n (pc := 82) 1 dX8_goesOn_82 rfl rfl ?_
      refine jg_9_18 (pc := 83) dX8_goesOn_83 (hM (9, 0) rfl) tw_795 ?_
      refine j_iload_n (pc := 86) 3 dX8_goesOn_86 rfl rfl ?_
      obtain ⟨c14, h⟩ := jchk h
      refine j_ia (pc := 87) dX8_goesOn_87 rfl (hM (63, 0) rfl) c14 ?_
      obtain ⟨y15, hy15, h⟩ := jbnd h
      refine j_callV (pc := 88) (N := mX8_comes) (rr := (9, 0)) (As := [.int (S.2 (61, 0) x3.toNatClampNeg), .int v9, .int (S.2 (63, 0) x3.toNatClampNeg)]) (rest := []) (v := [.int y15.1]) (S1 := y15.2) dX8_goesOn_88 (kX8_comes hM hy15) (by simp) (by decide) okX8_comes tw_973 tw_44 tw_971 (hM (9, 0) rfl) rfl rfl rfl rfl (by simp [Value.category]) ?_
      refine j_if_ne (pc := 91) (tgt := 105) dX8_goesOn_91 (by decide) (fun c16 => ?_) (fun c16 => ?_)
      · replace h := jite_f h c16
        exact j_sub [1, 2, 3] rfl (lX8_goesOn_105 hM H27 h)
      · replace h := jite_t h c16
        refine j_aload_n (pc := 94) 1 dX8_goesOn_94 rfl rfl ?_
        refine jg_9_0 (pc := 95) dX8_goesOn_95 (hM (9, 0) rfl) tw_777 ?_
        refine j_bipush (pc := 98) dX8_goesOn_98 jcb_76 ?_
        refine j_dup2 (pc := 100) dX8_goesOn_100 rfl rfl ?_
        obtain ⟨c17, h⟩ := jchk h
        refine j_ia (pc := 101) dX8_goesOn_101 rfl (hM (50, 0) rfl) c17 ?_
        refine j_iconst (pc := 102) dX8_goesOn_102 jci_1 ?_
        refine j_iadd (pc := 103) dX8_goesOn_103 ?_
        obtain ⟨c18, h⟩ := jchk h
        obtain ⟨S19, eS19, h⟩ := jlk h
        refine j_is (pc := 104) dX8_goesOn_104 rfl (hM (50, 0) rfl) c18 eS19 ?_
        exact j_sub [1, 2, 3] rfl (lX8_goesOn_105 hM H27 h)
    · replace h := jite_t h c12
      refine j_aload_n (pc := 58) 1 dX8_goesOn_58 rfl rfl ?_
      refine j_iload (pc := 59) 0 dX8_goesOn_59 rfl ?_
      refine j_aload_n (pc := 61) 1 dX8_goesOn_61 rfl rfl ?_
      refine jg_9_18 (pc := 62) dX8_goesOn_62 (hM (9, 0) rfl) tw_795 ?_
      refine j_iload_n (pc := 65) 3 dX8_goesOn_65 rfl rfl ?_
      obtain ⟨c20, h⟩ := jchk h
      refine j_ia (pc := 66) dX8_goesOn_66 rfl (hM (63, 0) rfl) c20 ?_
      obtain ⟨y21, hy21, h⟩ := jbnd h
      refine j_callV (pc := 67) (N := mX8_isThere) (rr := (9, 0)) (As := [.int v9, .int (S.2 (63, 0) x3.toNatClampNeg)]) (rest := []) (v := []) (S1 := y21) dX8_goesOn_67 (kX8_isThere hM hy21) (by simp) (by decide) okX8_isThere tw_1037 tw_58 tw_1035 (hM (9, 0) rfl) rfl rfl rfl rfl (by simp [Value.category]) ?_
      refine j_goto (pc := 70) (tgt := 105) dX8_goesOn_70 (by decide) ?_
      exact j_sub [1, 2, 3] rfl (lX8_goesOn_105 hM H27 h)
def fX8_goesOn_27  : Nat → jS → Int32 → Int32 → Option jS
  | 0 => fun _ _ _ => none
  | n + 1 => bX8_goesOn_27  (fX8_goesOn_27  n)
theorem kX8_goesOn_27 {E : jE} (hM : jHM E) (fu : Nat) : ∀ {S : jS} {x2 : Int32} {x3 : Int32} {r : jS}, fX8_goesOn_27  fu S x2 x3 = some r → JR E 6 mX8_goesOn 27 [(0, .ref (E.1 (9, 0))), (2, .int x2), (3, .int x3)] [] S [] r := by
  induction fu with
  | zero => intro S x2 x3 r h; cases h
  | succ n_ ih => intro S x2 x3 r h; exact lX8_goesOn_27 hM ih h
def fX8_goesOn  (S : jS) (x1 : Int32) : Option jS :=
  (fX8_findsChoices S).bind fun y1 => (fX8_findsGoing y1 x1).bind fun y2 => (fX8_carries y2).bind fun y3 => if jIn (66 : Int32) 815 then if jIn (66 : Int32) 815 then jlet (jput y3.2 (50, 0) (upd (y3.2.2 (50, 0)) (66 : Int32).toNatClampNeg ((y3.2.2 (50, 0) (66 : Int32).toNatClampNeg) + (1 : Int32)))) fun S6 => fX8_goesOn_27 5000 S6 y3.1 (0 : Int32) else none else none
set_option maxRecDepth 10000 in
set_option maxHeartbeats 4000000 in
theorem kX8_goesOn {E : jE} (hM : jHM E) {S : jS} {x1 : Int32} {r : jS} (h : fX8_goesOn  S x1 = some r) : jMR E 6 mX8_goesOn [.ref (E.1 (9, 0)), .int x1] S [] r := by
  refine ⟨Nat.le_of_ble_eq_true rfl, ?_⟩
  show JR E 6 mX8_goesOn 0 [(0, .ref (E.1 (9, 0))), (1, .int x1)] [] S [] r
  unfold fX8_goesOn at h
  refine j_aload_n (pc := 0) 0 dX8_goesOn_0 rfl rfl ?_
  obtain ⟨y1, hy1, h⟩ := jbnd h
  refine j_callV (pc := 1) (N := mX8_findsChoices) (rr := (9, 0)) (As := []) (rest := []) (v := []) (S1 := y1) dX8_goesOn_1 (kX8_findsChoices hM hy1) (by simp) (by decide) okX8_findsChoices tw_994 tw_48 tw_992 (hM (9, 0) rfl) rfl rfl rfl rfl (by simp [Value.category]) ?_
  refine j_aload_n (pc := 4) 0 dX8_goesOn_4 rfl rfl ?_
  refine j_iload_n (pc := 5) 1 dX8_goesOn_5 rfl rfl ?_
  obtain ⟨y2, hy2, h⟩ := jbnd h
  refine j_callV (pc := 6) (N := mX8_findsGoing) (rr := (9, 0)) (As := [.int x1]) (rest := []) (v := []) (S1 := y2) dX8_goesOn_6 (kX8_findsGoing hM hy2) (by simp) (by decide) okX8_findsGoing tw_1022 tw_55 tw_1020 (hM (9, 0) rfl) rfl rfl rfl rfl (by simp [Value.category]) ?_
  refine j_aload_n (pc := 9) 0 dX8_goesOn_9 rfl rfl ?_
  obtain ⟨y3, hy3, h⟩ := jbnd h
  refine j_callV (pc := 10) (N := mX8_carries) (rr := (9, 0)) (As := []) (rest := []) (v := [.int y3.1]) (S1 := y3.2) dX8_goesOn_10 (kX8_carries hM hy3) (by simp) (by decide) okX8_carries tw_1029 tw_56 tw_1027 (hM (9, 0) rfl) rfl rfl rfl rfl (by simp [Value.category]) ?_
  refine j_istore_n (pc := 13) (lv' := [(2, .int y3.1), (0, .ref (E.1 (9, 0))), (1, .int x1)]) dX8_goesOn_13 rfl (by decide) rfl ?_
  refine j_aload_n (pc := 14) 1 dX8_goesOn_14 rfl rfl ?_
  refine jg_9_0 (pc := 15) dX8_goesOn_15 (hM (9, 0) rfl) tw_777 ?_
  refine j_bipush (pc := 18) dX8_goesOn_18 jcb_66 ?_
  refine j_dup2 (pc := 20) dX8_goesOn_20 rfl rfl ?_
  obtain ⟨c4, h⟩ := jchk h
  refine j_ia (pc := 21) dX8_goesOn_21 rfl (hM (50, 0) rfl) c4 ?_
  refine j_iconst (pc := 22) dX8_goesOn_22 jci_1 ?_
  refine j_iadd (pc := 23) dX8_goesOn_23 ?_
  obtain ⟨c5, h⟩ := jchk h
  obtain ⟨S6, eS6, h⟩ := jlk h
  refine j_is (pc := 24) dX8_goesOn_24 rfl (hM (50, 0) rfl) c5 eS6 ?_
  refine j_iconst (pc := 25) dX8_goesOn_25 jci_0 ?_
  refine j_istore_n (pc := 26) (lv' := [(3, .int (0 : Int32)), (2, .int y3.1), (0, .ref (E.1 (9, 0))), (1, .int x1)]) dX8_goesOn_26 rfl (by decide) rfl ?_
  exact j_sub [2, 1, 0] rfl (kX8_goesOn_27 hM 5000 h)
abbrev mX8_laysFeeds : jM := (yX8_laysFeeds, cX8_laysFeeds, 2, none)
theorem okX8_laysFeeds : jOK mX8_laysFeeds 0 := ⟨by decide +kernel, tw_983, tw_84, by decide +kernel, by decide, by decide⟩
def bX8_laysFeeds_2  (q2 : jS → Int32 → Option jS) (S : jS) (x1 : Int32) : Option jS :=
  (if (18 : Int32) ≤ x1 then some S else if jIn ((46 : Int32) + x1) 815 then if jIn x1 18 then jlet (jput S (64, 0) (upd (S.2 (64, 0)) x1.toNatClampNeg (S.2 (50, 0) ((46 : Int32) + x1).toNatClampNeg))) fun S4 => jlet (x1 + (1 : Int32)) fun v5 => q2 S4 v5 else none else none)
set_option maxRecDepth 10000 in
set_option maxHeartbeats 4000000 in
theorem lX8_laysFeeds_2 {E : jE} (hM : jHM E) {q2 : jS → Int32 → Option jS} (H2 : ∀ {S : jS} {x1 : Int32} {r : jS}, q2 S x1 = some r → JR E 1 mX8_laysFeeds 2 [(0, .ref (E.1 (9, 0))), (1, .int x1)] [] S [] r) {S : jS} {x1 : Int32} {r : jS} (h : bX8_laysFeeds_2  q2 S x1 = some r) : JR E 1 mX8_laysFeeds 2 [(0, .ref (E.1 (9, 0))), (1, .int x1)] [] S [] r := by
  unfold bX8_laysFeeds_2 at h
  refine j_iload_n (pc := 2) 1 dX8_laysFeeds_2 rfl rfl ?_
  refine j_bipush (pc := 3) dX8_laysFeeds_3 jcb_18 ?_
  refine j_icmp_ge (pc := 5) (tgt := 29) dX8_laysFeeds_5 (by decide) (fun c1 => ?_) (fun c1 => ?_)
  · replace h := jite_t h c1
    cases h
    exact j_vret (pc := 29) dX8_laysFeeds_29 rfl
  · replace h := jite_f h c1
    refine j_aload_n (pc := 8) 0 dX8_laysFeeds_8 rfl rfl ?_
    refine jg_9_19 (pc := 9) dX8_laysFeeds_9 (hM (9, 0) rfl) tw_796 ?_
    refine j_iload_n (pc := 12) 1 dX8_laysFeeds_12 rfl rfl ?_
    refine j_aload_n (pc := 13) 0 dX8_laysFeeds_13 rfl rfl ?_
    refine jg_9_0 (pc := 14) dX8_laysFeeds_14 (hM (9, 0) rfl) tw_777 ?_
    refine j_bipush (pc := 17) dX8_laysFeeds_17 jcb_46 ?_
    refine j_iload_n (pc := 19) 1 dX8_laysFeeds_19 rfl rfl ?_
    refine j_iadd (pc := 20) dX8_laysFeeds_20 ?_
    obtain ⟨c2, h⟩ := jchk h
    refine j_ia (pc := 21) dX8_laysFeeds_21 rfl (hM (50, 0) rfl) c2 ?_
    obtain ⟨c3, h⟩ := jchk h
    obtain ⟨S4, eS4, h⟩ := jlk h
    refine j_is (pc := 22) dX8_laysFeeds_22 rfl (hM (64, 0) rfl) c3 eS4 ?_
    obtain ⟨v5, ev5, h⟩ := jlk h
    refine j_iinc (pc := 23) (v := v5) (lv' := [(1, .int v5), (0, .ref (E.1 (9, 0)))]) 1 dX8_laysFeeds_23 rfl (by rw [ev5]; rfl) (by decide) rfl ?_
    refine j_goto (pc := 26) (tgt := 2) dX8_laysFeeds_26 (by decide) ?_
    exact j_sub [1, 0] rfl (H2 h)
def fX8_laysFeeds_2  : Nat → jS → Int32 → Option jS
  | 0 => fun _ _ => none
  | n + 1 => bX8_laysFeeds_2  (fX8_laysFeeds_2  n)
theorem kX8_laysFeeds_2 {E : jE} (hM : jHM E) (fu : Nat) : ∀ {S : jS} {x1 : Int32} {r : jS}, fX8_laysFeeds_2  fu S x1 = some r → JR E 1 mX8_laysFeeds 2 [(0, .ref (E.1 (9, 0))), (1, .int x1)] [] S [] r := by
  induction fu with
  | zero => intro S x1 r h; cases h
  | succ n_ ih => intro S x1 r h; exact lX8_laysFeeds_2 hM ih h
def fX8_laysFeeds  (S : jS) : Option jS :=
  fX8_laysFeeds_2 5000 S (0 : Int32)
set_option maxRecDepth 10000 in
set_option maxHeartbeats 4000000 in
theorem kX8_laysFeeds {E : jE} (hM : jHM E) {S : jS} {r : jS} (h : fX8_laysFeeds  S = some r) : jMR E 1 mX8_laysFeeds [.ref (E.1 (9, 0))] S [] r := by
  refine ⟨Nat.le_of_ble_eq_true rfl, ?_⟩
  show JR E 1 mX8_laysFeeds 0 [(0, .ref (E.1 (9, 0)))] [] S [] r
  unfold fX8_laysFeeds at h
  refine j_iconst (pc := 0) dX8_laysFeeds_0 jci_0 ?_
  refine j_istore_n (pc := 1) (lv' := [(1, .int (0 : Int32)), (0, .ref (E.1 (9, 0)))]) dX8_laysFeeds_1 rfl (by decide) rfl ?_
  exact j_sub [1, 0] rfl (kX8_laysFeeds_2 hM 5000 h)
abbrev mX8_drawsFeeds : jM := (yX8_drawsFeeds, cX8_drawsFeeds, 9, none)
theorem okX8_drawsFeeds : jOK mX8_drawsFeeds 2 := ⟨by decide +kernel, tw_1115, tw_84, by decide +kernel, by decide, by decide⟩
def bX8_drawsFeeds_50  (q2 : jS → Int32 → Int32 → Int32 → Option jS) (q50 : jS → Int32 → Int32 → Int32 → Int64 → Int32 → Option jS) (S : jS) (x1 : Int32) (x2 : Int32) (x3 : Int32) (x6 : Int64) (x8 : Int32) : Option jS :=
  if jIn (1 : Int32) 815 then (if (S.2 (50, 0) (1 : Int32).toNatClampNeg) ≤ x8 then jlet (x3 + (1 : Int32)) fun v7 => q2 S x1 x2 v7 else if jIn (((46 : Int32) + ((3 : Int32) * x3)) + x8) 815 then if ¬ ((((2 : Int64) * ((S.2 (50, 0) (((46 : Int32) + ((3 : Int32) * x3)) + x8).toNatClampNeg).toInt64)) + (1 : Int64)) = 0) then if jIn (((3 : Int32) * x3) + x8) 18 then jlet (jput S (64, 0) (upd (S.2 (64, 0)) (((3 : Int32) * x3) + x8).toNatClampNeg ((x6 - x6 / (((2 : Int64) * ((S.2 (50, 0) (((46 : Int32) + ((3 : Int32) * x3)) + x8).toNatClampNeg).toInt64)) + (1 : Int64)) * (((2 : Int64) * ((S.2 (50, 0) (((46 : Int32) + ((3 : Int32) * x3)) + x8).toNatClampNeg).toInt64)) + (1 : Int64))).toInt32))) fun S11 => jlet (x6 / (8 : Int64)) fun v12 => jlet (x8 + (1 : Int32)) fun v13 => q50 S11 x1 x2 x3 v12 v13 else none else none else none) else none
set_option maxRecDepth 10000 in
set_option maxHeartbeats 4000000 in
theorem lX8_drawsFeeds_50 {E : jE} (hM : jHM E) {q2 : jS → Int32 → Int32 → Int32 → Option jS} (H2 : ∀ {S : jS} {x1 : Int32} {x2 : Int32} {x3 : Int32} {r : jS}, q2 S x1 x2 x3 = some r → JR E 1 mX8_drawsFeeds 2 [(0, .ref (E.1 (9, 0))), (1, .int x1), (2, .int x2), (3, .int x3)] [] S [] r) {q50 : jS → Int32 → Int32 → Int32 → Int64 → Int32 → Option jS} (H50 : ∀ {S : jS} {x1 : Int32} {x2 : Int32} {x3 : Int32} {x6 : Int64} {x8 : Int32} {r : jS}, q50 S x1 x2 x3 x6 x8 = some r → JR E 1 mX8_drawsFeeds 50 [(0, .ref (E.1 (9, 0))), (1, .int x1), (2, .int x2), (3, .int x3), (6, .long x6), (8, .int x8)] [] S [] r) {S : jS} {x1 : Int32} {x2 : Int32} {x3 : Int32} {x6 : Int64} {x8 : Int32} {r : jS} (h : bX8_drawsFeeds_50  q2 q50 S x1 x2 x3 x6 x8 = some r) : JR E 1 mX8_drawsFeeds 50 [(0, .ref (E.1 (9, 0))), (1, .int x1), (2, .int x2), (3, .int x3), (6, .long x6), (8, .int x8)] [] S [] r := by
  unfold bX8_drawsFeeds_50 at h
  refine j_iload (pc := 50) 5 dX8_drawsFeeds_50 rfl ?_
  refine j_aload_n (pc := 52) 0 dX8_drawsFeeds_52 rfl rfl ?_
  refine jg_9_0 (pc := 53) dX8_drawsFeeds_53 (hM (9, 0) rfl) tw_777 ?_
  refine j_iconst (pc := 56) dX8_drawsFeeds_56 jci_1 ?_
  obtain ⟨c5, h⟩ := jchk h
  refine j_ia (pc := 57) dX8_drawsFeeds_57 rfl (hM (50, 0) rfl) c5 ?_
  refine j_icmp_ge (pc := 58) (tgt := 111) dX8_drawsFeeds_58 (by decide) (fun c6 => ?_) (fun c6 => ?_)
  · replace h := jite_t h c6
    obtain ⟨v7, ev7, h⟩ := jlk h
    refine j_iinc (pc := 111) (v := v7) (lv' := [(3, .int v7), (0, .ref (E.1 (9, 0))), (1, .int x1), (2, .int x2), (6, .long x6), (8, .int x8)]) 3 dX8_drawsFeeds_111 rfl (by rw [ev7]; rfl) (by decide) rfl ?_
    refine j_goto (pc := 114) (tgt := 2) dX8_drawsFeeds_114 (by decide) ?_
    exact j_sub [1, 2, 3, 0] rfl (H2 h)
  · replace h := jite_f h c6
    refine j_aload_n (pc := 61) 0 dX8_drawsFeeds_61 rfl rfl ?_
    refine jg_9_19 (pc := 62) dX8_drawsFeeds_62 (hM (9, 0) rfl) tw_796 ?_
    refine j_iconst (pc := 65) dX8_drawsFeeds_65 jci_3 ?_
    refine j_iload_n (pc := 66) 3 dX8_drawsFeeds_66 rfl rfl ?_
    refine j_imul (pc := 67) dX8_drawsFeeds_67 ?_
    refine j_iload (pc := 68) 5 dX8_drawsFeeds_68 rfl ?_
    refine j_iadd (pc := 70) dX8_drawsFeeds_70 ?_
    refine j_lload (pc := 71) 4 dX8_drawsFeeds_71 rfl ?_
    refine j_ldc2 (pc := 73) (v := (2 : Int64)) dX8_drawsFeeds_73 tw_1106 ?_
    refine j_aload_n (pc := 76) 0 dX8_drawsFeeds_76 rfl rfl ?_
    refine jg_9_0 (pc := 77) dX8_drawsFeeds_77 (hM (9, 0) rfl) tw_777 ?_
    refine j_bipush (pc := 80) dX8_drawsFeeds_80 jcb_46 ?_
    refine j_iconst (pc := 82) dX8_drawsFeeds_82 jci_3 ?_
    refine j_iload_n (pc := 83) 3 dX8_drawsFeeds_83 rfl rfl ?_
    refine j_imul (pc := 84) dX8_drawsFeeds_84 ?_
    refine j_iadd (pc := 85) dX8_drawsFeeds_85 ?_
    refine j_iload (pc := 86) 5 dX8_drawsFeeds_86 rfl ?_
    refine j_iadd (pc := 88) dX8_drawsFeeds_88 ?_
    obtain ⟨c8, h⟩ := jchk h
    refine j_ia (pc := 89) dX8_drawsFeeds_89 rfl (hM (50, 0) rfl) c8 ?_
    refine j_i2l (pc := 90) dX8_drawsFeeds_90 ?_
    refine j_lmul (pc := 91) dX8_drawsFeeds_91 ?_
    refine j_lconst (pc := 92) (v := (1 : Int64)) dX8_drawsFeeds_92 rfl ?_
    refine j_ladd (pc := 93) dX8_drawsFeeds_93 ?_
    obtain ⟨c9, h⟩ := jchk h
    refine j_lrem (pc := 94) dX8_drawsFeeds_94 c9 ?_
    refine j_l2i (pc := 95) dX8_drawsFeeds_95 ?_
    obtain ⟨c10, h⟩ := jchk h
    obtain ⟨S11, eS11, h⟩ := jlk h
    refine j_is (pc := 96) dX8_drawsFeeds_96 rfl (hM (64, 0) rfl) c10 eS11 ?_
    refine j_lload (pc := 97) 4 dX8_drawsFeeds_97 rfl ?_
    refine j_ldc2 (pc := 99) (v := (8 : Int64)) dX8_drawsFeeds_99 tw_1120 ?_
    refine j_ldiv (pc := 102) dX8_drawsFeeds_102 (by decide) ?_
    obtain ⟨v12, ev12, h⟩ := jlk h
    refine j_topl ev12 ?_
    refine j_lstore (pc := 103) (lv' := [(6, .long v12), (0, .ref (E.1 (9, 0))), (1, .int x1), (2, .int x2), (3, .int x3), (8, .int x8)]) dX8_drawsFeeds_103 (by decide) rfl ?_
    obtain ⟨v13, ev13, h⟩ := jlk h
    refine j_iinc (pc := 105) (v := v13) (lv' := [(8, .int v13), (6, .long v12), (0, .ref (E.1 (9, 0))), (1, .int x1), (2, .int x2), (3, .int x3)]) 5 dX8_drawsFeeds_105 rfl (by rw [ev13]; rfl) (by decide) rfl ?_
    refine j_goto (pc := 108) (tgt := 50) dX8_drawsFeeds_108 (by decide) ?_
    exact j_sub [2, 3, 4, 5, 1, 0] rfl (H50 h)
def fX8_drawsFeeds_50  (q2 : jS → Int32 → Int32 → Int32 → Option jS) : Nat → jS → Int32 → Int32 → Int32 → Int64 → Int32 → Option jS
  | 0 => fun _ _ _ _ _ _ => none
  | n + 1 => bX8_drawsFeeds_50  q2 (fX8_drawsFeeds_50  q2 n)
theorem kX8_drawsFeeds_50 {E : jE} (hM : jHM E) {q2 : jS → Int32 → Int32 → Int32 → Option jS} (H2 : ∀ {S : jS} {x1 : Int32} {x2 : Int32} {x3 : Int32} {r : jS}, q2 S x1 x2 x3 = some r → JR E 1 mX8_drawsFeeds 2 [(0, .ref (E.1 (9, 0))), (1, .int x1), (2, .int x2), (3, .int x3)] [] S [] r) (fu : Nat) : ∀ {S : jS} {x1 : Int32} {x2 : Int32} {x3 : Int32} {x6 : Int64} {x8 : Int32} {r : jS}, fX8_drawsFeeds_50  q2 fu S x1 x2 x3 x6 x8 = some r → JR E 1 mX8_drawsFeeds 50 [(0, .ref (E.1 (9, 0))), (1, .int x1), (2, .int x2), (3, .int x3), (6, .long x6), (8, .int x8)] [] S [] r := by
  induction fu with
  | zero => intro S x1 x2 x3 x6 x8 r h; cases h
  | succ n_ ih => intro S x1 x2 x3 x6 x8 r h; exact lX8_drawsFeeds_50 hM H2 ih h
def bX8_drawsFeeds_2  (q2 : jS → Int32 → Int32 → Int32 → Option jS) (S : jS) (x1 : Int32) (x2 : Int32) (x3 : Int32) : Option jS :=
  if jIn (0 : Int32) 815 then (if (S.2 (50, 0) (0 : Int32).toNatClampNeg) ≤ x3 then some S else jlet (((((7919 : Int64) * (x1.toInt64)) + ((6151 : Int64) * (x2.toInt64))) + ((97 : Int64) * (x3.toInt64))) + (1 : Int64)) fun v3 => jlet ((v3 * v3) - (v3 * v3) / (65521 : Int64) * (65521 : Int64)) fun v4 => fX8_drawsFeeds_50 q2 5000 S x1 x2 x3 v4 (0 : Int32)) else none
set_option maxRecDepth 10000 in
set_option maxHeartbeats 4000000 in
theorem lX8_drawsFeeds_2 {E : jE} (hM : jHM E) {q2 : jS → Int32 → Int32 → Int32 → Option jS} (H2 : ∀ {S : jS} {x1 : Int32} {x2 : Int32} {x3 : Int32} {r : jS}, q2 S x1 x2 x3 = some r → JR E 1 mX8_drawsFeeds 2 [(0, .ref (E.1 (9, 0))), (1, .int x1), (2, .int x2), (3, .int x3)] [] S [] r) {S : jS} {x1 : Int32} {x2 : Int32} {x3 : Int32} {r : jS} (h : bX8_drawsFeeds_2  q2 S x1 x2 x3 = some r) : JR E 1 mX8_drawsFeeds 2 [(0, .ref (E.1 (9, 0))), (1, .int x1), (2, .int x2), (3, .int x3)] [] S [] r := by
  unfold bX8_drawsFeeds_2 at h
  refine j_iload_n (pc := 2) 3 dX8_drawsFeeds_2 rfl rfl ?_
  refine j_aload_n (pc := 3) 0 dX8_drawsFeeds_3 rfl rfl ?_
  refine jg_9_0 (pc := 4) dX8_drawsFeeds_4 (hM (9, 0) rfl) tw_777 ?_
  refine j_iconst (pc := 7) dX8_drawsFeeds_7 jci_0 ?_
  obtain ⟨c1, h⟩ := jchk h
  refine j_ia (pc := 8) dX8_drawsFeeds_8 rfl (hM (50, 0) rfl) c1 ?_
  refine j_icmp_ge (pc := 9) (tgt := 117) dX8_drawsFeeds_9 (by decide) (fun c2 => ?_) (fun c2 => ?_)
  · replace h := jite_t h c2
    cases h
    exact j_vret (pc := 117) dX8_drawsFeeds_117 rfl
  · replace h := jite_f h c2
    refine j_ldc2 (pc := 12) (v := (7919 : Int64)) dX8_drawsFeeds_12 tw_1116 ?_
    refine j_iload_n (pc := 15) 1 dX8_drawsFeeds_15 rfl rfl ?_
    refine j_i2l (pc := 16) dX8_drawsFeeds_16 ?_
    refine j_lmul (pc := 17) dX8_drawsFeeds_17 ?_
    refine j_ldc2 (pc := 18) (v := (6151 : Int64)) dX8_drawsFeeds_18 tw_1117 ?_
    refine j_iload_n (pc := 21) 2 dX8_drawsFeeds_21 rfl rfl ?_
    refine j_i2l (pc := 22) dX8_drawsFeeds_22 ?_
    refine j_lmul (pc := 23) dX8_drawsFeeds_23 ?_
    refine j_ladd (pc := 24) dX8_drawsFeeds_24 ?_
    refine j_ldc2 (pc := 25) (v := (97 : Int64)) dX8_drawsFeeds_25 tw_1118 ?_
    refine j_iload_n (pc := 28) 3 dX8_drawsFeeds_28 rfl rfl ?_
    refine j_i2l (pc := 29) dX8_drawsFeeds_29 ?_
    refine j_lmul (pc := 30) dX8_drawsFeeds_30 ?_
    refine j_ladd (pc := 31) dX8_drawsFeeds_31 ?_
    refine j_lconst (pc := 32) (v := (1 : Int64)) dX8_drawsFeeds_32 rfl ?_
    refine j_ladd (pc := 33) dX8_drawsFeeds_33 ?_
    obtain ⟨v3, ev3, h⟩ := jlk h
    refine j_topl ev3 ?_
    refine j_lstore (pc := 34) (lv' := [(4, .long v3), (0, .ref (E.1 (9, 0))), (1, .int x1), (2, .int x2), (3, .int x3)]) dX8_drawsFeeds_34 (by decide) rfl ?_
    refine j_lload (pc := 36) 0 dX8_drawsFeeds_36 rfl ?_
    refine j_lload (pc := 38) 0 dX8_drawsFeeds_38 rfl ?_
    refine j_lmul (pc := 40) dX8_drawsFeeds_40 ?_
    refine j_ldc2 (pc := 41) (v := (65521 : Int64)) dX8_drawsFeeds_41 tw_1119 ?_
    refine j_lrem (pc := 44) dX8_drawsFeeds_44 (by decide) ?_
    obtain ⟨v4, ev4, h⟩ := jlk h
    refine j_topl ev4 ?_
    refine j_lstore (pc := 45) (lv' := [(6, .long v4), (4, .long v3), (0, .ref (E.1 (9, 0))), (1, .int x1), (2, .int x2), (3, .int x3)]) dX8_drawsFeeds_45 (by decide) rfl ?_
    refine j_iconst (pc := 47) dX8_drawsFeeds_47 jci_0 ?_
    refine j_istore (pc := 48) (lv' := [(8, .int (0 : Int32)), (6, .long v4), (4, .long v3), (0, .ref (E.1 (9, 0))), (1, .int x1), (2, .int x2), (3, .int x3)]) dX8_drawsFeeds_48 (by decide) rfl ?_
    exact j_sub [3, 4, 5, 6, 1, 0] rfl (kX8_drawsFeeds_50 hM H2 5000 h)
def fX8_drawsFeeds_2  : Nat → jS → Int32 → Int32 → Int32 → Option jS
  | 0 => fun _ _ _ _ => none
  | n + 1 => bX8_drawsFeeds_2  (fX8_drawsFeeds_2  n)
theorem kX8_drawsFeeds_2 {E : jE} (hM : jHM E) (fu : Nat) : ∀ {S : jS} {x1 : Int32} {x2 : Int32} {x3 : Int32} {r : jS}, fX8_drawsFeeds_2  fu S x1 x2 x3 = some r → JR E 1 mX8_drawsFeeds 2 [(0, .ref (E.1 (9, 0))), (1, .int x1), (2, .int x2), (3, .int x3)] [] S [] r := by
  induction fu with
  | zero => intro S x1 x2 x3 r h; cases h
  | succ n_ ih => intro S x1 x2 x3 r h; exact lX8_drawsFeeds_2 hM ih h
def fX8_drawsFeeds  (S : jS) (x1 : Int32) (x2 : Int32) : Option jS :=
  fX8_drawsFeeds_2 5000 S x1 x2 (0 : Int32)
set_option maxRecDepth 10000 in
set_option maxHeartbeats 4000000 in
theorem kX8_drawsFeeds {E : jE} (hM : jHM E) {S : jS} {x1 : Int32} {x2 : Int32} {r : jS} (h : fX8_drawsFeeds  S x1 x2 = some r) : jMR E 1 mX8_drawsFeeds [.ref (E.1 (9, 0)), .int x1, .int x2] S [] r := by
  refine ⟨Nat.le_of_ble_eq_true rfl, ?_⟩
  show JR E 1 mX8_drawsFeeds 0 [(0, .ref (E.1 (9, 0))), (1, .int x1), (2, .int x2)] [] S [] r
  unfold fX8_drawsFeeds at h
  refine j_iconst (pc := 0) dX8_drawsFeeds_0 jci_0 ?_
  refine j_istore_n (pc := 1) (lv' := [(3, .int (0 : Int32)), (0, .ref (E.1 (9, 0))), (1, .int x1), (2, .int x2)]) dX8_drawsFeeds_1 rfl (by decide) rfl ?_
  exact j_sub [1, 2, 3, 0] rfl (kX8_drawsFeeds_2 hM 5000 h)
abbrev mX8_thereAll : jM := (yX8_thereAll, cX8_thereAll, 1, (some .int))
theorem okX8_thereAll : jOK mX8_thereAll 0 := ⟨by decide +kernel, tw_987, tw_84, by decide +kernel, by decide, by decide⟩
def fX8_thereAll  (S : jS) : Option (Int32 × jS) :=
  if jIn (67 : Int32) 815 then if jIn (68 : Int32) 815 then if jIn (69 : Int32) 815 then some (((S.2 (50, 0) (67 : Int32).toNatClampNeg) + (S.2 (50, 0) (68 : Int32).toNatClampNeg)) + (S.2 (50, 0) (69 : Int32).toNatClampNeg), S) else none else none else none
set_option maxRecDepth 10000 in
set_option maxHeartbeats 4000000 in
theorem kX8_thereAll {E : jE} (hM : jHM E) {S : jS} {r : (Int32 × jS)} (h : fX8_thereAll  S = some r) : jMR E 1 mX8_thereAll [.ref (E.1 (9, 0))] S [.int r.1] r.2 := by
  refine ⟨Nat.le_of_ble_eq_true rfl, ?_⟩
  show JR E 1 mX8_thereAll 0 [(0, .ref (E.1 (9, 0)))] [] S [.int r.1] r.2
  unfold fX8_thereAll at h
  refine j_aload_n (pc := 0) 0 dX8_thereAll_0 rfl rfl ?_
  refine jg_9_0 (pc := 1) dX8_thereAll_1 (hM (9, 0) rfl) tw_777 ?_
  refine j_bipush (pc := 4) dX8_thereAll_4 jcb_67 ?_
  obtain ⟨c1, h⟩ := jchk h
  refine j_ia (pc := 6) dX8_thereAll_6 rfl (hM (50, 0) rfl) c1 ?_
  refine j_aload_n (pc := 7) 0 dX8_thereAll_7 rfl rfl ?_
  refine jg_9_0 (pc := 8) dX8_thereAll_8 (hM (9, 0) rfl) tw_777 ?_
  refine j_bipush (pc := 11) dX8_thereAll_11 jcb_68 ?_
  obtain ⟨c2, h⟩ := jchk h
  refine j_ia (pc := 13) dX8_thereAll_13 rfl (hM (50, 0) rfl) c2 ?_
  refine j_iadd (pc := 14) dX8_thereAll_14 ?_
  refine j_aload_n (pc := 15) 0 dX8_thereAll_15 rfl rfl ?_
  refine jg_9_0 (pc := 16) dX8_thereAll_16 (hM (9, 0) rfl) tw_777 ?_
  refine j_bipush (pc := 19) dX8_thereAll_19 jcb_69 ?_
  obtain ⟨c3, h⟩ := jchk h
  refine j_ia (pc := 21) dX8_thereAll_21 rfl (hM (50, 0) rfl) c3 ?_
  refine j_iadd (pc := 22) dX8_thereAll_22 ?_
  cases h
  exact j_iret (pc := 23) dX8_thereAll_23 rfl rfl
abbrev mX8_packets : jM := (yX8_packets, cX8_packets, 3, (some .int))
theorem okX8_packets : jOK mX8_packets 0 := ⟨by decide +kernel, tw_1093, tw_84, by decide +kernel, by decide, by decide⟩
def bX8_packets_4  (q4 : jS → Int32 → Int32 → Option (Int32 × jS)) (S : jS) (x1 : Int32) (x2 : Int32) : Option (Int32 × jS) :=
  (if (18 : Int32) ≤ x2 then some (x1, S) else if jIn ((77 : Int32) + ((41 : Int32) * x2)) 815 then jlet (x1 + (S.2 (50, 0) ((77 : Int32) + ((41 : Int32) * x2)).toNatClampNeg)) fun v3 => jlet (x2 + (1 : Int32)) fun v4 => q4 S v3 v4 else none)
set_option maxRecDepth 10000 in
set_option maxHeartbeats 4000000 in
theorem lX8_packets_4 {E : jE} (hM : jHM E) {q4 : jS → Int32 → Int32 → Option (Int32 × jS)} (H4 : ∀ {S : jS} {x1 : Int32} {x2 : Int32} {r : (Int32 × jS)}, q4 S x1 x2 = some r → JR E 1 mX8_packets 4 [(0, .ref (E.1 (9, 0))), (1, .int x1), (2, .int x2)] [] S [.int r.1] r.2) {S : jS} {x1 : Int32} {x2 : Int32} {r : (Int32 × jS)} (h : bX8_packets_4  q4 S x1 x2 = some r) : JR E 1 mX8_packets 4 [(0, .ref (E.1 (9, 0))), (1, .int x1), (2, .int x2)] [] S [.int r.1] r.2 := by
  unfold bX8_packets_4 at h
  refine j_iload_n (pc := 4) 2 dX8_packets_4 rfl rfl ?_
  refine j_bipush (pc := 5) dX8_packets_5 jcb_18 ?_
  refine j_icmp_ge (pc := 7) (tgt := 31) dX8_packets_7 (by decide) (fun c1 => ?_) (fun c1 => ?_)
  · replace h := jite_t h c1
    refine j_iload_n (pc := 31) 1 dX8_packets_31 rfl rfl ?_
    cases h
    exact j_iret (pc := 32) dX8_packets_32 rfl rfl
  · replace h := jite_f h c1
    refine j_iload_n (pc := 10) 1 dX8_packets_10 rfl rfl ?_
    refine j_aload_n (pc := 11) 0 dX8_packets_11 rfl rfl ?_
    refine jg_9_0 (pc := 12) dX8_packets_12 (hM (9, 0) rfl) tw_777 ?_
    refine j_bipush (pc := 15) dX8_packets_15 jcb_77 ?_
    refine j_bipush (pc := 17) dX8_packets_17 jcb_41 ?_
    refine j_iload_n (pc := 19) 2 dX8_packets_19 rfl rfl ?_
    refine j_imul (pc := 20) dX8_packets_20 ?_
    refine j_iadd (pc := 21) dX8_packets_21 ?_
    obtain ⟨c2, h⟩ := jchk h
    refine j_ia (pc := 22) dX8_packets_22 rfl (hM (50, 0) rfl) c2 ?_
    refine j_iadd (pc := 23) dX8_packets_23 ?_
    obtain ⟨v3, ev3, h⟩ := jlk h
    refine j_topi ev3 ?_
    refine j_istore_n (pc := 24) (lv' := [(1, .int v3), (0, .ref (E.1 (9, 0))), (2, .int x2)]) dX8_packets_24 rfl (by decide) rfl ?_
    obtain ⟨v4, ev4, h⟩ := jlk h
    refine j_iinc (pc := 25) (v := v4) (lv' := [(2, .int v4), (1, .int v3), (0, .ref (E.1 (9, 0)))]) 2 dX8_packets_25 rfl (by rw [ev4]; rfl) (by decide) rfl ?_
    refine j_goto (pc := 28) (tgt := 4) dX8_packets_28 (by decide) ?_
    exact j_sub [2, 1, 0] rfl (H4 h)
def fX8_packets_4  : Nat → jS → Int32 → Int32 → Option (Int32 × jS)
  | 0 => fun _ _ _ => none
  | n + 1 => bX8_packets_4  (fX8_packets_4  n)
theorem kX8_packets_4 {E : jE} (hM : jHM E) (fu : Nat) : ∀ {S : jS} {x1 : Int32} {x2 : Int32} {r : (Int32 × jS)}, fX8_packets_4  fu S x1 x2 = some r → JR E 1 mX8_packets 4 [(0, .ref (E.1 (9, 0))), (1, .int x1), (2, .int x2)] [] S [.int r.1] r.2 := by
  induction fu with
  | zero => intro S x1 x2 r h; cases h
  | succ n_ ih => intro S x1 x2 r h; exact lX8_packets_4 hM ih h
def fX8_packets  (S : jS) : Option (Int32 × jS) :=
  fX8_packets_4 5000 S (0 : Int32) (0 : Int32)
set_option maxRecDepth 10000 in
set_option maxHeartbeats 4000000 in
theorem kX8_packets {E : jE} (hM : jHM E) {S : jS} {r : (Int32 × jS)} (h : fX8_packets  S = some r) : jMR E 1 mX8_packets [.ref (E.1 (9, 0))] S [.int r.1] r.2 := by
  refine ⟨Nat.le_of_ble_eq_true rfl, ?_⟩
  show JR E 1 mX8_packets 0 [(0, .ref (E.1 (9, 0)))] [] S [.int r.1] r.2
  unfold fX8_packets at h
  refine j_iconst (pc := 0) dX8_packets_0 jci_0 ?_
  refine j_istore_n (pc := 1) (lv' := [(1, .int (0 : Int32)), (0, .ref (E.1 (9, 0)))]) dX8_packets_1 rfl (by decide) rfl ?_
  refine j_iconst (pc := 2) dX8_packets_2 jci_0 ?_
  refine j_istore_n (pc := 3) (lv' := [(2, .int (0 : Int32)), (1, .int (0 : Int32)), (0, .ref (E.1 (9, 0)))]) dX8_packets_3 rfl (by decide) rfl ?_
  exact j_sub [2, 1, 0] rfl (kX8_packets_4 hM 5000 h)
abbrev mX8_squares : jM := (yX8_squares, cX8_squares, 3, (some .int))
theorem okX8_squares : jOK mX8_squares 0 := ⟨by decide +kernel, tw_1089, tw_84, by decide +kernel, by decide, by decide⟩
def bX8_squares_4  (q4 : jS → Int32 → Int32 → Option (Int32 × jS)) (S : jS) (x1 : Int32) (x2 : Int32) : Option (Int32 × jS) :=
  (if (18 : Int32) ≤ x2 then some (x1, S) else if jIn ((77 : Int32) + ((41 : Int32) * x2)) 815 then if jIn ((77 : Int32) + ((41 : Int32) * x2)) 815 then jlet (x1 + ((S.2 (50, 0) ((77 : Int32) + ((41 : Int32) * x2)).toNatClampNeg) * (S.2 (50, 0) ((77 : Int32) + ((41 : Int32) * x2)).toNatClampNeg))) fun v4 => jlet (x2 + (1 : Int32)) fun v5 => q4 S v4 v5 else none else none)
set_option maxRecDepth 10000 in
set_option maxHeartbeats 4000000 in
theorem lX8_squares_4 {E : jE} (hM : jHM E) {q4 : jS → Int32 → Int32 → Option (Int32 × jS)} (H4 : ∀ {S : jS} {x1 : Int32} {x2 : Int32} {r : (Int32 × jS)}, q4 S x1 x2 = some r → JR E 1 mX8_squares 4 [(0, .ref (E.1 (9, 0))), (1, .int x1), (2, .int x2)] [] S [.int r.1] r.2) {S : jS} {x1 : Int32} {x2 : Int32} {r : (Int32 × jS)} (h : bX8_squares_4  q4 S x1 x2 = some r) : JR E 1 mX8_squares 4 [(0, .ref (E.1 (9, 0))), (1, .int x1), (2, .int x2)] [] S [.int r.1] r.2 := by
  unfold bX8_squares_4 at h
  refine j_iload_n (pc := 4) 2 dX8_squares_4 rfl rfl ?_
  refine j_bipush (pc := 5) dX8_squares_5 jcb_18 ?_
  refine j_icmp_ge (pc := 7) (tgt := 44) dX8_squares_7 (by decide) (fun c1 => ?_) (fun c1 => ?_)
  · replace h := jite_t h c1
    refine j_iload_n (pc := 44) 1 dX8_squares_44 rfl rfl ?_
    cases h
    exact j_iret (pc := 45) dX8_squares_45 rfl rfl
  · replace h := jite_f h c1
    refine j_iload_n (pc := 10) 1 dX8_squares_10 rfl rfl ?_
    refine j_aload_n (pc := 11) 0 dX8_squares_11 rfl rfl ?_
    refine jg_9_0 (pc := 12) dX8_squares_12 (hM (9, 0) rfl) tw_777 ?_
    refine j_bipush (pc := 15) dX8_squares_15 jcb_77 ?_
    refine j_bipush (pc := 17) dX8_squares_17 jcb_41 ?_
    refine j_iload_n (pc := 19) 2 dX8_squares_19 rfl rfl ?_
    refine j_imul (pc := 20) dX8_squares_20 ?_
    refine j_iadd (pc := 21) dX8_squares_21 ?_
    obtain ⟨c2, h⟩ := jchk h
    refine j_ia (pc := 22) dX8_squares_22 rfl (hM (50, 0) rfl) c2 ?_
    refine j_aload_n (pc := 23) 0 dX8_squares_23 rfl rfl ?_
    refine jg_9_0 (pc := 24) dX8_squares_24 (hM (9, 0) rfl) tw_777 ?_
    refine j_bipush (pc := 27) dX8_squares_27 jcb_77 ?_
    refine j_bipush (pc := 29) dX8_squares_29 jcb_41 ?_
    refine j_iload_n (pc := 31) 2 dX8_squares_31 rfl rfl ?_
    refine j_imul (pc := 32) dX8_squares_32 ?_
    refine j_iadd (pc := 33) dX8_squares_33 ?_
    obtain ⟨c3, h⟩ := jchk h
    refine j_ia (pc := 34) dX8_squares_34 rfl (hM (50, 0) rfl) c3 ?_
    refine j_imul (pc := 35) dX8_squares_35 ?_
    refine j_iadd (pc := 36) dX8_squares_36 ?_
    obtain ⟨v4, ev4, h⟩ := jlk h
    refine j_topi ev4 ?_
    refine j_istore_n (pc := 37) (lv' := [(1, .int v4), (0, .ref (E.1 (9, 0))), (2, .int x2)]) dX8_squares_37 rfl (by decide) rfl ?_
    obtain ⟨v5, ev5, h⟩ := jlk h
    refine j_iinc (pc := 38) (v := v5) (lv' := [(2, .int v5), (1, .int v4), (0, .ref (E.1 (9, 0)))]) 2 dX8_squares_38 rfl (by rw [ev5]; rfl) (by decide) rfl ?_
    refine j_goto (pc := 41) (tgt := 4) dX8_squares_41 (by decide) ?_
    exact j_sub [2, 1, 0] rfl (H4 h)
def fX8_squares_4  : Nat → jS → Int32 → Int32 → Option (Int32 × jS)
  | 0 => fun _ _ _ => none
  | n + 1 => bX8_squares_4  (fX8_squares_4  n)
theorem kX8_squares_4 {E : jE} (hM : jHM E) (fu : Nat) : ∀ {S : jS} {x1 : Int32} {x2 : Int32} {r : (Int32 × jS)}, fX8_squares_4  fu S x1 x2 = some r → JR E 1 mX8_squares 4 [(0, .ref (E.1 (9, 0))), (1, .int x1), (2, .int x2)] [] S [.int r.1] r.2 := by
  induction fu with
  | zero => intro S x1 x2 r h; cases h
  | succ n_ ih => intro S x1 x2 r h; exact lX8_squares_4 hM ih h
def fX8_squares  (S : jS) : Option (Int32 × jS) :=
  fX8_squares_4 5000 S (0 : Int32) (0 : Int32)
set_option maxRecDepth 10000 in
set_option maxHeartbeats 4000000 in
theorem kX8_squares {E : jE} (hM : jHM E) {S : jS} {r : (Int32 × jS)} (h : fX8_squares  S = some r) : jMR E 1 mX8_squares [.ref (E.1 (9, 0))] S [.int r.1] r.2 := by
  refine ⟨Nat.le_of_ble_eq_true rfl, ?_⟩
  show JR E 1 mX8_squares 0 [(0, .ref (E.1 (9, 0)))] [] S [.int r.1] r.2
  unfold fX8_squares at h
  refine j_iconst (pc := 0) dX8_squares_0 jci_0 ?_
  refine j_istore_n (pc := 1) (lv' := [(1, .int (0 : Int32)), (0, .ref (E.1 (9, 0)))]) dX8_squares_1 rfl (by decide) rfl ?_
  refine j_iconst (pc := 2) dX8_squares_2 jci_0 ?_
  refine j_istore_n (pc := 3) (lv' := [(2, .int (0 : Int32)), (1, .int (0 : Int32)), (0, .ref (E.1 (9, 0)))]) dX8_squares_3 rfl (by decide) rfl ?_
  exact j_sub [2, 1, 0] rfl (kX8_squares_4 hM 5000 h)
abbrev mX8_slot : jM := (yX8_slot, cX8_slot, 4, (some .int))
theorem okX8_slot : jOK mX8_slot 1 := ⟨by decide +kernel, tw_978, tw_84, by decide +kernel, by decide, by decide⟩
def bX8_slot_29  (q29 : jS → Int32 → Int32 → Int32 → Option (Int32 × jS)) (S : jS) (x1 : Int32) (x2 : Int32) (x3 : Int32) : Option (Int32 × jS) :=
  (if x1 ≤ x3 then (fX8_thereAll S).bind fun y7 => some (y7.1 - x2, y7.2) else (fX8_goesOn S (-4 : Int32)).bind fun y8 => jlet (x3 + (1 : Int32)) fun v9 => q29 y8 x1 x2 v9)
set_option maxRecDepth 10000 in
set_option maxHeartbeats 4000000 in
theorem lX8_slot_29 {E : jE} (hM : jHM E) {q29 : jS → Int32 → Int32 → Int32 → Option (Int32 × jS)} (H29 : ∀ {S : jS} {x1 : Int32} {x2 : Int32} {x3 : Int32} {r : (Int32 × jS)}, q29 S x1 x2 x3 = some r → JR E 7 mX8_slot 29 [(0, .ref (E.1 (9, 0))), (1, .int x1), (2, .int x2), (3, .int x3)] [] S [.int r.1] r.2) {S : jS} {x1 : Int32} {x2 : Int32} {x3 : Int32} {r : (Int32 × jS)} (h : bX8_slot_29  q29 S x1 x2 x3 = some r) : JR E 7 mX8_slot 29 [(0, .ref (E.1 (9, 0))), (1, .int x1), (2, .int x2), (3, .int x3)] [] S [.int r.1] r.2 := by
  unfold bX8_slot_29 at h
  refine j_iload_n (pc := 29) 3 dX8_slot_29 rfl rfl ?_
  refine j_iload_n (pc := 30) 1 dX8_slot_30 rfl rfl ?_
  refine j_icmp_ge (pc := 31) (tgt := 46) dX8_slot_31 (by decide) (fun c6 => ?_) (fun c6 => ?_)
  · replace h := jite_t h c6
    refine j_aload_n (pc := 46) 0 dX8_slot_46 rfl rfl ?_
    obtain ⟨y7, hy7, h⟩ := jbnd h
    refine j_callV (pc := 47) (N := mX8_thereAll) (rr := (9, 0)) (As := []) (rest := []) (v := [.int y7.1]) (S1 := y7.2) dX8_slot_47 (kX8_thereAll hM hy7) (by simp) (by decide) okX8_thereAll tw_986 tw_46 tw_984 (hM (9, 0) rfl) rfl rfl rfl rfl (by simp [Value.category]) ?_
    refine j_iload_n (pc := 50) 2 dX8_slot_50 rfl rfl ?_
    refine j_isub (pc := 51) dX8_slot_51 ?_
    cases h
    exact j_iret (pc := 52) dX8_slot_52 rfl rfl
  · replace h := jite_f h c6
    refine j_aload_n (pc := 34) 0 dX8_slot_34 rfl rfl ?_
    refine j_bipush (pc := 35) dX8_slot_35 jcb_m4 ?_
    obtain ⟨y8, hy8, h⟩ := jbnd h
    refine j_callV (pc := 37) (N := mX8_goesOn) (rr := (9, 0)) (As := [.int (-4 : Int32)]) (rest := []) (v := []) (S1 := y8) dX8_slot_37 (kX8_goesOn hM hy8) (by simp) (by decide) okX8_goesOn tw_990 tw_47 tw_988 (hM (9, 0) rfl) rfl rfl rfl rfl (by simp [Value.category]) ?_
    obtain ⟨v9, ev9, h⟩ := jlk h
    refine j_iinc (pc := 40) (v := v9) (lv' := [(3, .int v9), (0, .ref (E.1 (9, 0))), (1, .int x1), (2, .int x2)]) 3 dX8_slot_40 rfl (by rw [ev9]; rfl) (by decide) rfl ?_
    refine j_goto (pc := 43) (tgt := 29) dX8_slot_43 (by decide) ?_
    exact j_sub [1, 2, 3, 0] rfl (H29 h)
def fX8_slot_29  : Nat → jS → Int32 → Int32 → Int32 → Option (Int32 × jS)
  | 0 => fun _ _ _ _ => none
  | n + 1 => bX8_slot_29  (fX8_slot_29  n)
theorem kX8_slot_29 {E : jE} (hM : jHM E) (fu : Nat) : ∀ {S : jS} {x1 : Int32} {x2 : Int32} {x3 : Int32} {r : (Int32 × jS)}, fX8_slot_29  fu S x1 x2 x3 = some r → JR E 7 mX8_slot 29 [(0, .ref (E.1 (9, 0))), (1, .int x1), (2, .int x2), (3, .int x3)] [] S [.int r.1] r.2 := by
  induction fu with
  | zero => intro S x1 x2 x3 r h; cases h
  | succ n_ ih => intro S x1 x2 x3 r h; exact lX8_slot_29 hM ih h
def fX8_slot  (S : jS) (x1 : Int32) : Option (Int32 × jS) :=
  (fX8_in S (x1.toInt64) (1 : Int64) (60 : Int64)).bind fun y1 => (if y1.1 = 0 then some ((-1 : Int32), y1.2) else (fX8_keeps y1.2).bind fun y3 => (fX8_laysFeeds y3).bind fun y4 => (fX8_thereAll y4).bind fun y5 => fX8_slot_29 5000 (y5.2) x1 y5.1 (0 : Int32))
set_option maxRecDepth 10000 in
set_option maxHeartbeats 4000000 in
theorem kX8_slot {E : jE} (hM : jHM E) {S : jS} {x1 : Int32} {r : (Int32 × jS)} (h : fX8_slot  S x1 = some r) : jMR E 7 mX8_slot [.ref (E.1 (9, 0)), .int x1] S [.int r.1] r.2 := by
  refine ⟨Nat.le_of_ble_eq_true rfl, ?_⟩
  show JR E 7 mX8_slot 0 [(0, .ref (E.1 (9, 0))), (1, .int x1)] [] S [.int r.1] r.2
  unfold fX8_slot at h
  refine j_iload_n (pc := 0) 1 dX8_slot_0 rfl rfl ?_
  refine j_i2l (pc := 1) dX8_slot_1 ?_
  refine j_lconst (pc := 2) (v := (1 : Int64)) dX8_slot_2 rfl ?_
  refine j_ldc2 (pc := 3) (v := (60 : Int64)) dX8_slot_3 tw_979 ?_
  obtain ⟨y1, hy1, h⟩ := jbnd h
  refine j_callS (pc := 6) (N := mX8_in) (As := [.long (x1.toInt64), .long (1 : Int64), .long (60 : Int64)]) (rest := []) (v := [.int y1.1]) (S1 := y1.2) dX8_slot_6 (kX8_in hM hy1) (by simp) (by decide) okX8_in tw_846 tw_845 rfl rfl (by simp [Value.category]) ?_
  refine j_if_ne (pc := 9) (tgt := 14) dX8_slot_9 (by decide) (fun c2 => ?_) (fun c2 => ?_)
  · replace h := jite_f h c2
    refine j_aload_n (pc := 14) 0 dX8_slot_14 rfl rfl ?_
    obtain ⟨y3, hy3, h⟩ := jbnd h
    refine j_callV (pc := 15) (N := mX8_keeps) (rr := (9, 0)) (As := []) (rest := []) (v := []) (S1 := y3) dX8_slot_15 (kX8_keeps hM hy3) (by simp) (by decide) okX8_keeps tw_931 tw_40 tw_929 (hM (9, 0) rfl) rfl rfl rfl rfl (by simp [Value.category]) ?_
    refine j_aload_n (pc := 18) 0 dX8_slot_18 rfl rfl ?_
    obtain ⟨y4, hy4, h⟩ := jbnd h
    refine j_callV (pc := 19) (N := mX8_laysFeeds) (rr := (9, 0)) (As := []) (rest := []) (v := []) (S1 := y4) dX8_slot_19 (kX8_laysFeeds hM hy4) (by simp) (by decide) okX8_laysFeeds tw_982 tw_45 tw_980 (hM (9, 0) rfl) rfl rfl rfl rfl (by simp [Value.category]) ?_
    refine j_aload_n (pc := 22) 0 dX8_slot_22 rfl rfl ?_
    obtain ⟨y5, hy5, h⟩ := jbnd h
    refine j_callV (pc := 23) (N := mX8_thereAll) (rr := (9, 0)) (As := []) (rest := []) (v := [.int y5.1]) (S1 := y5.2) dX8_slot_23 (kX8_thereAll hM hy5) (by simp) (by decide) okX8_thereAll tw_986 tw_46 tw_984 (hM (9, 0) rfl) rfl rfl rfl rfl (by simp [Value.category]) ?_
    refine j_istore_n (pc := 26) (lv' := [(2, .int y5.1), (0, .ref (E.1 (9, 0))), (1, .int x1)]) dX8_slot_26 rfl (by decide) rfl ?_
    refine j_iconst (pc := 27) dX8_slot_27 jci_0 ?_
    refine j_istore_n (pc := 28) (lv' := [(3, .int (0 : Int32)), (2, .int y5.1), (0, .ref (E.1 (9, 0))), (1, .int x1)]) dX8_slot_28 rfl (by decide) rfl ?_
    exact j_sub [2, 3, 1, 0] rfl (kX8_slot_29 hM 5000 h)
  · replace h := jite_t h c2
    refine j_iconst (pc := 12) dX8_slot_12 jci_m1 ?_
    cases h
    exact j_iret (pc := 13) dX8_slot_13 rfl rfl
abbrev mX8_laysAside : jM := (yX8_laysAside, cX8_laysAside, 2, none)
theorem okX8_laysAside : jOK mX8_laysAside 0 := ⟨by decide +kernel, tw_1085, tw_84, by decide +kernel, by decide, by decide⟩
def bX8_laysAside_2  (q2 : jS → Int32 → Option jS) (S : jS) (x1 : Int32) : Option jS :=
  (if (815 : Int32) ≤ x1 then some S else if jIn x1 815 then if jIn x1 815 then jlet (jput S (51, 0) (upd (S.2 (51, 0)) x1.toNatClampNeg (S.2 (50, 0) x1.toNatClampNeg))) fun S4 => jlet (x1 + (1 : Int32)) fun v5 => q2 S4 v5 else none else none)
set_option maxRecDepth 10000 in
set_option maxHeartbeats 4000000 in
theorem lX8_laysAside_2 {E : jE} (hM : jHM E) {q2 : jS → Int32 → Option jS} (H2 : ∀ {S : jS} {x1 : Int32} {r : jS}, q2 S x1 = some r → JR E 1 mX8_laysAside 2 [(0, .ref (E.1 (9, 0))), (1, .int x1)] [] S [] r) {S : jS} {x1 : Int32} {r : jS} (h : bX8_laysAside_2  q2 S x1 = some r) : JR E 1 mX8_laysAside 2 [(0, .ref (E.1 (9, 0))), (1, .int x1)] [] S [] r := by
  unfold bX8_laysAside_2 at h
  refine j_iload_n (pc := 2) 1 dX8_laysAside_2 rfl rfl ?_
  refine j_sipush (pc := 3) dX8_laysAside_3 jcs_815 ?_
  refine j_icmp_ge (pc := 6) (tgt := 27) dX8_laysAside_6 (by decide) (fun c1 => ?_) (fun c1 => ?_)
  · replace h := jite_t h c1
    cases h
    exact j_vret (pc := 27) dX8_laysAside_27 rfl
  · replace h := jite_f h c1
    refine j_aload_n (pc := 9) 0 dX8_laysAside_9 rfl rfl ?_
    refine jg_9_1 (pc := 10) dX8_laysAside_10 (hM (9, 0) rfl) tw_778 ?_
    refine j_iload_n (pc := 13) 1 dX8_laysAside_13 rfl rfl ?_
    refine j_aload_n (pc := 14) 0 dX8_laysAside_14 rfl rfl ?_
    refine jg_9_0 (pc := 15) dX8_laysAside_15 (hM (9, 0) rfl) tw_777 ?_
    refine j_iload_n (pc := 18) 1 dX8_laysAside_18 rfl rfl ?_
    obtain ⟨c2, h⟩ := jchk h
    refine j_ia (pc := 19) dX8_laysAside_19 rfl (hM (50, 0) rfl) c2 ?_
    obtain ⟨c3, h⟩ := jchk h
    obtain ⟨S4, eS4, h⟩ := jlk h
    refine j_is (pc := 20) dX8_laysAside_20 rfl (hM (51, 0) rfl) c3 eS4 ?_
    obtain ⟨v5, ev5, h⟩ := jlk h
    refine j_iinc (pc := 21) (v := v5) (lv' := [(1, .int v5), (0, .ref (E.1 (9, 0)))]) 1 dX8_laysAside_21 rfl (by rw [ev5]; rfl) (by decide) rfl ?_
    refine j_goto (pc := 24) (tgt := 2) dX8_laysAside_24 (by decide) ?_
    exact j_sub [1, 0] rfl (H2 h)
def fX8_laysAside_2  : Nat → jS → Int32 → Option jS
  | 0 => fun _ _ => none
  | n + 1 => bX8_laysAside_2  (fX8_laysAside_2  n)
theorem kX8_laysAside_2 {E : jE} (hM : jHM E) (fu : Nat) : ∀ {S : jS} {x1 : Int32} {r : jS}, fX8_laysAside_2  fu S x1 = some r → JR E 1 mX8_laysAside 2 [(0, .ref (E.1 (9, 0))), (1, .int x1)] [] S [] r := by
  induction fu with
  | zero => intro S x1 r h; cases h
  | succ n_ ih => intro S x1 r h; exact lX8_laysAside_2 hM ih h
def fX8_laysAside  (S : jS) : Option jS :=
  fX8_laysAside_2 5000 S (0 : Int32)
set_option maxRecDepth 10000 in
set_option maxHeartbeats 4000000 in
theorem kX8_laysAside {E : jE} (hM : jHM E) {S : jS} {r : jS} (h : fX8_laysAside  S = some r) : jMR E 1 mX8_laysAside [.ref (E.1 (9, 0))] S [] r := by
  refine ⟨Nat.le_of_ble_eq_true rfl, ?_⟩
  show JR E 1 mX8_laysAside 0 [(0, .ref (E.1 (9, 0)))] [] S [] r
  unfold fX8_laysAside at h
  refine j_iconst (pc := 0) dX8_laysAside_0 jci_0 ?_
  refine j_istore_n (pc := 1) (lv' := [(1, .int (0 : Int32)), (0, .ref (E.1 (9, 0)))]) dX8_laysAside_1 rfl (by decide) rfl ?_
  exact j_sub [1, 0] rfl (kX8_laysAside_2 hM 5000 h)
abbrev mX8_comesBack : jM := (yX8_comesBack, cX8_comesBack, 2, none)
theorem okX8_comesBack : jOK mX8_comesBack 0 := ⟨by decide +kernel, tw_1097, tw_84, by decide +kernel, by decide, by decide⟩
def bX8_comesBack_2  (q2 : jS → Int32 → Option jS) (S : jS) (x1 : Int32) : Option jS :=
  (if (815 : Int32) ≤ x1 then some S else if jIn x1 815 then if jIn x1 815 then jlet (jput S (50, 0) (upd (S.2 (50, 0)) x1.toNatClampNeg (S.2 (51, 0) x1.toNatClampNeg))) fun S4 => jlet (x1 + (1 : Int32)) fun v5 => q2 S4 v5 else none else none)
set_option maxRecDepth 10000 in
set_option maxHeartbeats 4000000 in
theorem lX8_comesBack_2 {E : jE} (hM : jHM E) {q2 : jS → Int32 → Option jS} (H2 : ∀ {S : jS} {x1 : Int32} {r : jS}, q2 S x1 = some r → JR E 1 mX8_comesBack 2 [(0, .ref (E.1 (9, 0))), (1, .int x1)] [] S [] r) {S : jS} {x1 : Int32} {r : jS} (h : bX8_comesBack_2  q2 S x1 = some r) : JR E 1 mX8_comesBack 2 [(0, .ref (E.1 (9, 0))), (1, .int x1)] [] S [] r := by
  unfold bX8_comesBack_2 at h
  refine j_iload_n (pc := 2) 1 dX8_comesBack_2 rfl rfl ?_
  refine j_sipush (pc := 3) dX8_comesBack_3 jcs_815 ?_
  refine j_icmp_ge (pc := 6) (tgt := 27) dX8_comesBack_6 (by decide) (fun c1 => ?_) (fun c1 => ?_)
  · replace h := jite_t h c1
    cases h
    exact j_vret (pc := 27) dX8_comesBack_27 rfl
  · replace h := jite_f h c1
    refine j_aload_n (pc := 9) 0 dX8_comesBack_9 rfl rfl ?_
    refine jg_9_0 (pc := 10) dX8_comesBack_10 (hM (9, 0) rfl) tw_777 ?_
    refine j_iload_n (pc := 13) 1 dX8_comesBack_13 rfl rfl ?_
    refine j_aload_n (pc := 14) 0 dX8_comesBack_14 rfl rfl ?_
    refine jg_9_1 (pc := 15) dX8_comesBack_15 (hM (9, 0) rfl) tw_778 ?_
    refine j_iload_n (pc := 18) 1 dX8_comesBack_18 rfl rfl ?_
    obtain ⟨c2, h⟩ := jchk h
    refine j_ia (pc := 19) dX8_comesBack_19 rfl (hM (51, 0) rfl) c2 ?_
    obtain ⟨c3, h⟩ := jchk h
    obtain ⟨S4, eS4, h⟩ := jlk h
    refine j_is (pc := 20) dX8_comesBack_20 rfl (hM (50, 0) rfl) c3 eS4 ?_
    obtain ⟨v5, ev5, h⟩ := jlk h
    refine j_iinc (pc := 21) (v := v5) (lv' := [(1, .int v5), (0, .ref (E.1 (9, 0)))]) 1 dX8_comesBack_21 rfl (by rw [ev5]; rfl) (by decide) rfl ?_
    refine j_goto (pc := 24) (tgt := 2) dX8_comesBack_24 (by decide) ?_
    exact j_sub [1, 0] rfl (H2 h)
def fX8_comesBack_2  : Nat → jS → Int32 → Option jS
  | 0 => fun _ _ => none
  | n + 1 => bX8_comesBack_2  (fX8_comesBack_2  n)
theorem kX8_comesBack_2 {E : jE} (hM : jHM E) (fu : Nat) : ∀ {S : jS} {x1 : Int32} {r : jS}, fX8_comesBack_2  fu S x1 = some r → JR E 1 mX8_comesBack 2 [(0, .ref (E.1 (9, 0))), (1, .int x1)] [] S [] r := by
  induction fu with
  | zero => intro S x1 r h; cases h
  | succ n_ ih => intro S x1 r h; exact lX8_comesBack_2 hM ih h
def fX8_comesBack  (S : jS) : Option jS :=
  fX8_comesBack_2 5000 S (0 : Int32)
set_option maxRecDepth 10000 in
set_option maxHeartbeats 4000000 in
theorem kX8_comesBack {E : jE} (hM : jHM E) {S : jS} {r : jS} (h : fX8_comesBack  S = some r) : jMR E 1 mX8_comesBack [.ref (E.1 (9, 0))] S [] r := by
  refine ⟨Nat.le_of_ble_eq_true rfl, ?_⟩
  show JR E 1 mX8_comesBack 0 [(0, .ref (E.1 (9, 0)))] [] S [] r
  unfold fX8_comesBack at h
  refine j_iconst (pc := 0) dX8_comesBack_0 jci_0 ?_
  refine j_istore_n (pc := 1) (lv' := [(1, .int (0 : Int32)), (0, .ref (E.1 (9, 0)))]) dX8_comesBack_1 rfl (by decide) rfl ?_
  exact j_sub [1, 0] rfl (kX8_comesBack_2 hM 5000 h)
abbrev mX8_bornNext : jM := (yX8_bornNext, cX8_bornNext, 4, (some .int))
theorem okX8_bornNext : jOK mX8_bornNext 2 := ⟨by decide +kernel, tw_1047, tw_84, by decide +kernel, by decide, by decide⟩
def bX8_bornNext_45  (S : jS) (t1 : Int32) (t2 : Int32) : Option (Int32 × jS) :=
  if jIn (t1 + t2) 815 then some (S.2 (50, 0) (t1 + t2).toNatClampNeg, S) else none
set_option maxRecDepth 10000 in
set_option maxHeartbeats 4000000 in
theorem lX8_bornNext_45 {E : jE} (hM : jHM E) {S : jS} {t1 : Int32} {t2 : Int32} {r : (Int32 × jS)} (h : bX8_bornNext_45  S t1 t2 = some r) : JR E 2 mX8_bornNext 45 [] [.int t2, .int t1, .ref (E.1 (50, 0))] S [.int r.1] r.2 := by
  unfold bX8_bornNext_45 at h
  refine j_iadd (pc := 45) dX8_bornNext_45 ?_
  obtain ⟨c7, h⟩ := jchk h
  refine j_ia (pc := 46) dX8_bornNext_46 rfl (hM (50, 0) rfl) c7 ?_
  cases h
  exact j_iret (pc := 47) dX8_bornNext_47 rfl rfl
def fX8_bornNext  (S : jS) (x1 : Int32) (x2 : Int32) : Option (Int32 × jS) :=
  (fX8_queuePlace S x1 x2).bind fun y1 => if jIn y1.1 815 then (if (y1.2.2 (50, 0) y1.1.toNatClampNeg) = 0 then some ((-4 : Int32), y1.2) else if jIn (65 : Int32) 815 then (if (y1.2.2 (50, 0) (65 : Int32).toNatClampNeg) = 0 then bX8_bornNext_45 (y1.2) y1.1 (1 : Int32) else if jIn y1.1 815 then bX8_bornNext_45 (y1.2) y1.1 (y1.2.2 (50, 0) y1.1.toNatClampNeg) else none) else none) else none
set_option maxRecDepth 10000 in
set_option maxHeartbeats 4000000 in
theorem kX8_bornNext {E : jE} (hM : jHM E) {S : jS} {x1 : Int32} {x2 : Int32} {r : (Int32 × jS)} (h : fX8_bornNext  S x1 x2 = some r) : jMR E 2 mX8_bornNext [.ref (E.1 (9, 0)), .int x1, .int x2] S [.int r.1] r.2 := by
  refine ⟨Nat.le_of_ble_eq_true rfl, ?_⟩
  show JR E 2 mX8_bornNext 0 [(0, .ref (E.1 (9, 0))), (1, .int x1), (2, .int x2)] [] S [.int r.1] r.2
  unfold fX8_bornNext at h
  refine j_iload_n (pc := 0) 1 dX8_bornNext_0 rfl rfl ?_
  refine j_iload_n (pc := 1) 2 dX8_bornNext_1 rfl rfl ?_
  obtain ⟨y1, hy1, h⟩ := jbnd h
  refine j_callS (pc := 2) (N := mX8_queuePlace) (As := [.int x1, .int x2]) (rest := []) (v := [.int y1.1]) (S1 := y1.2) dX8_bornNext_2 (kX8_queuePlace hM hy1) (by simp) (by decide) okX8_queuePlace tw_969 tw_968 rfl rfl (by simp [Value.category]) ?_
  refine j_istore_n (pc := 5) (lv' := [(3, .int y1.1), (0, .ref (E.1 (9, 0))), (1, .int x1), (2, .int x2)]) dX8_bornNext_5 rfl (by decide) rfl ?_
  refine j_aload_n (pc := 6) 1 dX8_bornNext_6 rfl rfl ?_
  refine jg_9_0 (pc := 7) dX8_bornNext_7 (hM (9, 0) rfl) tw_777 ?_
  refine j_iload_n (pc := 10) 0 dX8_bornNext_10 rfl rfl ?_
  obtain ⟨c2, h⟩ := jchk h
  refine j_ia (pc := 11) dX8_bornNext_11 rfl (hM (50, 0) rfl) c2 ?_
  refine j_if_ne (pc := 12) (tgt := 20) dX8_bornNext_12 (by decide) (fun c3 => ?_) (fun c3 => ?_)
  · replace h := jite_f h c3
    refine j_aload_n (pc := 20) 1 dX8_bornNext_20 rfl rfl ?_
    refine jg_9_0 (pc := 21) dX8_bornNext_21 (hM (9, 0) rfl) tw_777 ?_
    refine j_iload_n (pc := 24) 0 dX8_bornNext_24 rfl rfl ?_
    refine j_aload_n (pc := 25) 1 dX8_bornNext_25 rfl rfl ?_
    refine jg_9_0 (pc := 26) dX8_bornNext_26 (hM (9, 0) rfl) tw_777 ?_
    refine j_bipush (pc := 29) dX8_bornNext_29 jcb_65 ?_
    obtain ⟨c4, h⟩ := jchk h
    refine j_ia (pc := 31) dX8_bornNext_31 rfl (hM (50, 0) rfl) c4 ?_
    refine j_if_ne (pc := 32) (tgt := 39) dX8_bornNext_32 (by decide) (fun c5 => ?_) (fun c5 => ?_)
    · replace h := jite_f h c5
      refine j_aload_n (pc := 39) 1 dX8_bornNext_39 rfl rfl ?_
      refine jg_9_0 (pc := 40) dX8_bornNext_40 (hM (9, 0) rfl) tw_777 ?_
      refine j_iload_n (pc := 43) 0 dX8_bornNext_43 rfl rfl ?_
      obtain ⟨c6, h⟩ := jchk h
      refine j_ia (pc := 44) dX8_bornNext_44 rfl (hM (50, 0) rfl) c6 ?_
      exact j_sub [] rfl (lX8_bornNext_45 hM h)
    · replace h := jite_t h c5
      refine j_iconst (pc := 35) dX8_bornNext_35 jci_1 ?_
      refine j_goto (pc := 36) (tgt := 45) dX8_bornNext_36 (by decide) ?_
      exact j_sub [] rfl (lX8_bornNext_45 hM h)
  · replace h := jite_t h c3
    refine j_bipush (pc := 15) dX8_bornNext_15 jcb_m4 ?_
    refine j_goto (pc := 17) (tgt := 47) dX8_bornNext_17 (by decide) ?_
    cases h
    exact j_iret (pc := 47) dX8_bornNext_47 rfl rfl
abbrev mX8_biasOf : jM := (yX8_biasOf, cX8_biasOf, 3, (some .int))
theorem okX8_biasOf : jOK mX8_biasOf 2 := ⟨by decide +kernel, tw_1051, tw_84, by decide +kernel, by decide, by decide⟩
def fX8_biasOf  (S : jS) (x1 : Int32) (x2 : Int32) : Option (Int32 × jS) :=
  (fX8_findsHops S).bind fun y1 => if jIn (64 : Int32) 815 then if jIn (((3 : Int32) * x1) + x2) 18 then some ((y1.2 (50, 0) (64 : Int32).toNatClampNeg) * (y1.2 (56, 0) (((3 : Int32) * x1) + x2).toNatClampNeg), y1) else none else none
set_option maxRecDepth 10000 in
set_option maxHeartbeats 4000000 in
theorem kX8_biasOf {E : jE} (hM : jHM E) {S : jS} {x1 : Int32} {x2 : Int32} {r : (Int32 × jS)} (h : fX8_biasOf  S x1 x2 = some r) : jMR E 3 mX8_biasOf [.ref (E.1 (9, 0)), .int x1, .int x2] S [.int r.1] r.2 := by
  refine ⟨Nat.le_of_ble_eq_true rfl, ?_⟩
  show JR E 3 mX8_biasOf 0 [(0, .ref (E.1 (9, 0))), (1, .int x1), (2, .int x2)] [] S [.int r.1] r.2
  unfold fX8_biasOf at h
  refine j_aload_n (pc := 0) 0 dX8_biasOf_0 rfl rfl ?_
  obtain ⟨y1, hy1, h⟩ := jbnd h
  refine j_callV (pc := 1) (N := mX8_findsHops) (rr := (9, 0)) (As := []) (rest := []) (v := []) (S1 := y1) dX8_biasOf_1 (kX8_findsHops hM hy1) (by simp) (by decide) okX8_findsHops tw_998 tw_49 tw_996 (hM (9, 0) rfl) rfl rfl rfl rfl (by simp [Value.category]) ?_
  refine j_aload_n (pc := 4) 0 dX8_biasOf_4 rfl rfl ?_
  refine jg_9_0 (pc := 5) dX8_biasOf_5 (hM (9, 0) rfl) tw_777 ?_
  refine j_bipush (pc := 8) dX8_biasOf_8 jcb_64 ?_
  obtain ⟨c2, h⟩ := jchk h
  refine j_ia (pc := 10) dX8_biasOf_10 rfl (hM (50, 0) rfl) c2 ?_
  refine j_aload_n (pc := 11) 0 dX8_biasOf_11 rfl rfl ?_
  refine jg_9_9 (pc := 12) dX8_biasOf_12 (hM (9, 0) rfl) tw_786 ?_
  refine j_iconst (pc := 15) dX8_biasOf_15 jci_3 ?_
  refine j_iload_n (pc := 16) 1 dX8_biasOf_16 rfl rfl ?_
  refine j_imul (pc := 17) dX8_biasOf_17 ?_
  refine j_iload_n (pc := 18) 2 dX8_biasOf_18 rfl rfl ?_
  refine j_iadd (pc := 19) dX8_biasOf_19 ?_
  obtain ⟨c3, h⟩ := jchk h
  refine j_ia (pc := 20) dX8_biasOf_20 rfl (hM (56, 0) rfl) c3 ?_
  refine j_imul (pc := 21) dX8_biasOf_21 ?_
  cases h
  exact j_iret (pc := 22) dX8_biasOf_22 rfl rfl
abbrev mX8_queue : jM := (yX8_queue, cX8_queue, 4, (some .int))
theorem okX8_queue : jOK mX8_queue 3 := ⟨by decide +kernel, tw_1042, tw_84, by decide +kernel, by decide, by decide⟩
def fX8_queue  (S : jS) (x1 : Int32) (x2 : Int32) (x3 : Int32) : Option (Int32 × jS) :=
  (fX8_isQueue S x1 x2).bind fun y1 => (if y1.1 = 0 then some ((-1 : Int32), y1.2) else (fX8_in y1.2 (x3.toInt64) (0 : Int64) (3 : Int64)).bind fun y3 => (if y3.1 = 0 then some ((-1 : Int32), y3.2) else (if x3 = (0 : Int32) then (fX8_manyIn y3.2 x1 x2).bind fun y6 => some (y6.1, y6.2) else (if x3 = (1 : Int32) then (fX8_bornNext y3.2 x1 x2).bind fun y8 => some (y8.1, y8.2) else (if x3 = (2 : Int32) then if jIn (((46 : Int32) + ((3 : Int32) * x1)) + x2) 815 then some (y3.2.2 (50, 0) (((46 : Int32) + ((3 : Int32) * x1)) + x2).toNatClampNeg, y3.2) else none else (fX8_biasOf y3.2 x1 x2).bind fun y11 => some (y11.1, y11.2))))))
set_option maxRecDepth 10000 in
set_option maxHeartbeats 4000000 in
theorem kX8_queue {E : jE} (hM : jHM E) {S : jS} {x1 : Int32} {x2 : Int32} {x3 : Int32} {r : (Int32 × jS)} (h : fX8_queue  S x1 x2 x3 = some r) : jMR E 4 mX8_queue [.ref (E.1 (9, 0)), .int x1, .int x2, .int x3] S [.int r.1] r.2 := by
  refine ⟨Nat.le_of_ble_eq_true rfl, ?_⟩
  show JR E 4 mX8_queue 0 [(0, .ref (E.1 (9, 0))), (1, .int x1), (2, .int x2), (3, .int x3)] [] S [.int r.1] r.2
  unfold fX8_queue at h
  refine j_aload_n (pc := 0) 0 dX8_queue_0 rfl rfl ?_
  refine j_iload_n (pc := 1) 1 dX8_queue_1 rfl rfl ?_
  refine j_iload_n (pc := 2) 2 dX8_queue_2 rfl rfl ?_
  obtain ⟨y1, hy1, h⟩ := jbnd h
  refine j_callV (pc := 3) (N := mX8_isQueue) (rr := (9, 0)) (As := [.int x1, .int x2]) (rest := []) (v := [.int y1.1]) (S1 := y1.2) dX8_queue_3 (kX8_isQueue hM hy1) (by simp) (by decide) okX8_isQueue tw_915 tw_36 tw_913 (hM (9, 0) rfl) rfl rfl rfl rfl (by simp [Value.category]) ?_
  refine j_if_eq (pc := 6) (tgt := 21) dX8_queue_6 (by decide) (fun c2 => ?_) (fun c2 => ?_)
  · replace h := jite_t h c2
    refine j_iconst (pc := 21) dX8_queue_21 jci_m1 ?_
    cases h
    exact j_iret (pc := 22) dX8_queue_22 rfl rfl
  · replace h := jite_f h c2
    refine j_iload_n (pc := 9) 3 dX8_queue_9 rfl rfl ?_
    refine j_i2l (pc := 10) dX8_queue_10 ?_
    refine j_lconst (pc := 11) (v := (0 : Int64)) dX8_queue_11 rfl ?_
    refine j_ldc2 (pc := 12) (v := (3 : Int64)) dX8_queue_12 tw_1043 ?_
    obtain ⟨y3, hy3, h⟩ := jbnd h
    refine j_callS (pc := 15) (N := mX8_in) (As := [.long (x3.toInt64), .long (0 : Int64), .long (3 : Int64)]) (rest := []) (v := [.int y3.1]) (S1 := y3.2) dX8_queue_15 (kX8_in hM hy3) (by simp) (by decide) okX8_in tw_846 tw_845 rfl rfl (by simp [Value.category]) ?_
    refine j_if_ne (pc := 18) (tgt := 23) dX8_queue_18 (by decide) (fun c4 => ?_) (fun c4 => ?_)
    · replace h := jite_f h c4
      refine j_iload_n (pc := 23) 3 dX8_queue_23 rfl rfl ?_
      by_cases c5 : x3 = (0 : Int32)
      · replace h := jite_t h c5
        refine j_tabIn (pc := 24) (tgt := 52) (off := 28) dX8_queue_24 (by rw [c5]; decide) (by rw [c5]; decide) (by rw [c5]; rfl) (by decide) ?_
        refine j_aload_n (pc := 52) 0 dX8_queue_52 rfl rfl ?_
        refine j_iload_n (pc := 53) 1 dX8_queue_53 rfl rfl ?_
        refine j_iload_n (pc := 54) 2 dX8_queue_54 rfl rfl ?_
        obtain ⟨y6, hy6, h⟩ := jbnd h
        refine j_callV (pc := 55) (N := mX8_manyIn) (rr := (9, 0)) (As := [.int x1, .int x2]) (rest := []) (v := [.int y6.1]) (S1 := y6.2) dX8_queue_55 (kX8_manyIn hM hy6) (by simp) (by decide) okX8_manyIn tw_966 tw_43 tw_964 (hM (9, 0) rfl) rfl rfl rfl rfl (by simp [Value.category]) ?_
        cases h
        exact j_iret (pc := 58) dX8_queue_58 rfl rfl
      replace h := jite_f h c5
      by_cases c7 : x3 = (1 : Int32)
      · replace h := jite_t h c7
        refine j_tabIn (pc := 24) (tgt := 59) (off := 35) dX8_queue_24 (by rw [c7]; decide) (by rw [c7]; decide) (by rw [c7]; rfl) (by decide) ?_
        refine j_aload_n (pc := 59) 0 dX8_queue_59 rfl rfl ?_
        refine j_iload_n (pc := 60) 1 dX8_queue_60 rfl rfl ?_
        refine j_iload_n (pc := 61) 2 dX8_queue_61 rfl rfl ?_
        obtain ⟨y8, hy8, h⟩ := jbnd h
        refine j_callV (pc := 62) (N := mX8_bornNext) (rr := (9, 0)) (As := [.int x1, .int x2]) (rest := []) (v := [.int y8.1]) (S1 := y8.2) dX8_queue_62 (kX8_bornNext hM hy8) (by simp) (by decide) okX8_bornNext tw_1046 tw_59 tw_1044 (hM (9, 0) rfl) rfl rfl rfl rfl (by simp [Value.category]) ?_
        cases h
        exact j_iret (pc := 65) dX8_queue_65 rfl rfl
      replace h := jite_f h c7
      by_cases c9 : x3 = (2 : Int32)
      · replace h := jite_t h c9
        refine j_tabIn (pc := 24) (tgt := 66) (off := 42) dX8_queue_24 (by rw [c9]; decide) (by rw [c9]; decide) (by rw [c9]; rfl) (by decide) ?_
        refine j_aload_n (pc := 66) 0 dX8_queue_66 rfl rfl ?_
        refine jg_9_0 (pc := 67) dX8_queue_67 (hM (9, 0) rfl) tw_777 ?_
        refine j_bipush (pc := 70) dX8_queue_70 jcb_46 ?_
        refine j_iconst (pc := 72) dX8_queue_72 jci_3 ?_
        refine j_iload_n (pc := 73) 1 dX8_queue_73 rfl rfl ?_
        refine j_imul (pc := 74) dX8_queue_74 ?_
        refine j_iadd (pc := 75) dX8_queue_75 ?_
        refine j_iload_n (pc := 76) 2 dX8_queue_76 rfl rfl ?_
        refine j_iadd (pc := 77) dX8_queue_77 ?_
        obtain ⟨c10, h⟩ := jchk h
        refine j_ia (pc := 78) dX8_queue_78 rfl (hM (50, 0) rfl) c10 ?_
        cases h
        exact j_iret (pc := 79) dX8_queue_79 rfl rfl
      replace h := jite_f h c9
      refine j_tabD (pc := 24) (tgt := 80) dX8_queue_24 (by decide) (fun i hi => match i, hi with | 0, _ => Or.inr (jti c5 rfl) | 1, _ => Or.inr (jti c7 rfl) | 2, _ => Or.inr (jti c9 rfl) | n + 3, h9 => absurd h9 (by simp)) (by decide) ?_
      refine j_aload_n (pc := 80) 0 dX8_queue_80 rfl rfl ?_
      refine j_iload_n (pc := 81) 1 dX8_queue_81 rfl rfl ?_
      refine j_iload_n (pc := 82) 2 dX8_queue_82 rfl rfl ?_
      obtain ⟨y11, hy11, h⟩ := jbnd h
      refine j_callV (pc := 83) (N := mX8_biasOf) (rr := (9, 0)) (As := [.int x1, .int x2]) (rest := []) (v := [.int y11.1]) (S1 := y11.2) dX8_queue_83 (kX8_biasOf hM hy11) (by simp) (by decide) okX8_biasOf tw_1050 tw_60 tw_1048 (hM (9, 0) rfl) rfl rfl rfl rfl (by simp [Value.category]) ?_
      cases h
      exact j_iret (pc := 86) dX8_queue_86 rfl rfl
    · replace h := jite_t h c4
      refine j_iconst (pc := 21) dX8_queue_21 jci_m1 ?_
      cases h
      exact j_iret (pc := 22) dX8_queue_22 rfl rfl
abbrev mX8_link : jM := (yX8_link, cX8_link, 3, (some .int))
theorem okX8_link : jOK mX8_link 2 := ⟨by decide +kernel, tw_1055, tw_84, by decide +kernel, by decide, by decide⟩
def fX8_link  (S : jS) (x1 : Int32) (x2 : Int32) : Option (Int32 × jS) :=
  (fX8_isLink S x1).bind fun y1 => (if y1.1 = 0 then some ((-1 : Int32), y1.2) else (fX8_in y1.2 (x2.toInt64) (0 : Int64) (6 : Int64)).bind fun y3 => (if y3.1 = 0 then some ((-1 : Int32), y3.2) else (if (3 : Int32) ≤ x2 then (fX8_findsAll y3.2).bind fun y6 => (if x2 = (3 : Int32) then if jIn x1 10 then some (y6.2 (57, 0) x1.toNatClampNeg, y6) else none else (if x2 = (4 : Int32) then if jIn x1 10 then some (y6.2 (58, 0) x1.toNatClampNeg, y6) else none else (if x2 = (5 : Int32) then some (((y6.1 (15, 0)) >>> (x1 &&& 31)) &&& (1 : Int32), y6) else if jIn ((36 : Int32) + x1) 815 then some (y6.2 (50, 0) ((36 : Int32) + x1).toNatClampNeg, y6) else none))) else if jIn (((6 : Int32) + ((3 : Int32) * x1)) + x2) 815 then some (y3.2.2 (50, 0) (((6 : Int32) + ((3 : Int32) * x1)) + x2).toNatClampNeg, y3.2) else none)))
set_option maxRecDepth 10000 in
set_option maxHeartbeats 4000000 in
theorem kX8_link {E : jE} (hM : jHM E) {S : jS} {x1 : Int32} {x2 : Int32} {r : (Int32 × jS)} (h : fX8_link  S x1 x2 = some r) : jMR E 7 mX8_link [.ref (E.1 (9, 0)), .int x1, .int x2] S [.int r.1] r.2 := by
  refine ⟨Nat.le_of_ble_eq_true rfl, ?_⟩
  show JR E 7 mX8_link 0 [(0, .ref (E.1 (9, 0))), (1, .int x1), (2, .int x2)] [] S [.int r.1] r.2
  unfold fX8_link at h
  refine j_aload_n (pc := 0) 0 dX8_link_0 rfl rfl ?_
  refine j_iload_n (pc := 1) 1 dX8_link_1 rfl rfl ?_
  obtain ⟨y1, hy1, h⟩ := jbnd h
  refine j_callV (pc := 2) (N := mX8_isLink) (rr := (9, 0)) (As := [.int x1]) (rest := []) (v := [.int y1.1]) (S1 := y1.2) dX8_link_2 (kX8_isLink hM hy1) (by simp) (by decide) okX8_isLink tw_939 tw_41 tw_937 (hM (9, 0) rfl) rfl rfl rfl rfl (by simp [Value.category]) ?_
  refine j_if_eq (pc := 5) (tgt := 20) dX8_link_5 (by decide) (fun c2 => ?_) (fun c2 => ?_)
  · replace h := jite_t h c2
    refine j_iconst (pc := 20) dX8_link_20 jci_m1 ?_
    cases h
    exact j_iret (pc := 21) dX8_link_21 rfl rfl
  · replace h := jite_f h c2
    refine j_iload_n (pc := 8) 2 dX8_link_8 rfl rfl ?_
    refine j_i2l (pc := 9) dX8_link_9 ?_
    refine j_lconst (pc := 10) (v := (0 : Int64)) dX8_link_10 rfl ?_
    refine j_ldc2 (pc := 11) (v := (6 : Int64)) dX8_link_11 tw_1056 ?_
    obtain ⟨y3, hy3, h⟩ := jbnd h
    refine j_callS (pc := 14) (N := mX8_in) (As := [.long (x2.toInt64), .long (0 : Int64), .long (6 : Int64)]) (rest := []) (v := [.int y3.1]) (S1 := y3.2) dX8_link_14 (kX8_in hM hy3) (by simp) (by decide) okX8_in tw_846 tw_845 rfl rfl (by simp [Value.category]) ?_
    refine j_if_ne (pc := 17) (tgt := 22) dX8_link_17 (by decide) (fun c4 => ?_) (fun c4 => ?_)
    · replace h := jite_f h c4
      refine j_iload_n (pc := 22) 2 dX8_link_22 rfl rfl ?_
      refine j_iconst (pc := 23) dX8_link_23 jci_3 ?_
      refine j_icmp_ge (pc := 24) (tgt := 41) dX8_link_24 (by decide) (fun c5 => ?_) (fun c5 => ?_)
      · replace h := jite_t h c5
        refine j_aload_n (pc := 41) 0 dX8_link_41 rfl rfl ?_
        obtain ⟨y6, hy6, h⟩ := jbnd h
        refine j_callV (pc := 42) (N := mX8_findsAll) (rr := (9, 0)) (As := []) (rest := []) (v := []) (S1 := y6) dX8_link_42 (kX8_findsAll hM hy6) (by simp) (by decide) okX8_findsAll tw_1059 tw_61 tw_1057 (hM (9, 0) rfl) rfl rfl rfl rfl (by simp [Value.category]) ?_
        refine j_iload_n (pc := 45) 2 dX8_link_45 rfl rfl ?_
        by_cases c7 : x2 = (3 : Int32)
        · replace h := jite_t h c7
          refine j_tabIn (pc := 46) (tgt := 72) (off := 26) dX8_link_46 (by rw [c7]; decide) (by rw [c7]; decide) (by rw [c7]; rfl) (by decide) ?_
          refine j_aload_n (pc := 72) 0 dX8_link_72 rfl rfl ?_
          refine jg_9_10 (pc := 73) dX8_link_73 (hM (9, 0) rfl) tw_787 ?_
          refine j_iload_n (pc := 76) 1 dX8_link_76 rfl rfl ?_
          obtain ⟨c8, h⟩ := jchk h
          refine j_ia (pc := 77) dX8_link_77 rfl (hM (57, 0) rfl) c8 ?_
          cases h
          exact j_iret (pc := 78) dX8_link_78 rfl rfl
        replace h := jite_f h c7
        by_cases c9 : x2 = (4 : Int32)
        · replace h := jite_t h c9
          refine j_tabIn (pc := 46) (tgt := 79) (off := 33) dX8_link_46 (by rw [c9]; decide) (by rw [c9]; decide) (by rw [c9]; rfl) (by decide) ?_
          refine j_aload_n (pc := 79) 0 dX8_link_79 rfl rfl ?_
          refine jg_9_11 (pc := 80) dX8_link_80 (hM (9, 0) rfl) tw_788 ?_
          refine j_iload_n (pc := 83) 1 dX8_link_83 rfl rfl ?_
          obtain ⟨c10, h⟩ := jchk h
          refine j_ia (pc := 84) dX8_link_84 rfl (hM (58, 0) rfl) c10 ?_
          cases h
          exact j_iret (pc := 85) dX8_link_85 rfl rfl
        replace h := jite_f h c9
        by_cases c11 : x2 = (5 : Int32)
        · replace h := jite_t h c11
          refine j_tabIn (pc := 46) (tgt := 86) (off := 40) dX8_link_46 (by rw [c11]; decide) (by rw [c11]; decide) (by rw [c11]; rfl) (by decide) ?_
          refine j_aload_n (pc := 86) 0 dX8_link_86 rfl rfl ?_
          refine jg_9_14 (pc := 87) dX8_link_87 (hM (9, 0) rfl) tw_791 ?_
          refine j_iload_n (pc := 90) 1 dX8_link_90 rfl rfl ?_
          refine j_ishr (pc := 91) dX8_link_91 ?_
          refine j_iconst (pc := 92) dX8_link_92 jci_1 ?_
          refine j_iand (pc := 93) dX8_link_93 ?_
          cases h
          exact j_iret (pc := 94) dX8_link_94 rfl rfl
        replace h := jite_f h c11
        refine j_tabD (pc := 46) (tgt := 95) dX8_link_46 (by decide) (fun i hi => match i, hi with | 0, _ => Or.inr (jti c7 rfl) | 1, _ => Or.inr (jti c9 rfl) | 2, _ => Or.inr (jti c11 rfl) | n + 3, h9 => absurd h9 (by simp)) (by decide) ?_
        refine j_aload_n (pc := 95) 0 dX8_link_95 rfl rfl ?_
        refine jg_9_0 (pc := 96) dX8_link_96 (hM (9, 0) rfl) tw_777 ?_
        refine j_bipush (pc := 99) dX8_link_99 jcb_36 ?_
        refine j_iload_n (pc := 101) 1 dX8_link_101 rfl rfl ?_
        refine j_iadd (pc := 102) dX8_link_102 ?_
        obtain ⟨c12, h⟩ := jchk h
        refine j_ia (pc := 103) dX8_link_103 rfl (hM (50, 0) rfl) c12 ?_
        cases h
        exact j_iret (pc := 104) dX8_link_104 rfl rfl
      · replace h := jite_f h c5
        refine j_aload_n (pc := 27) 0 dX8_link_27 rfl rfl ?_
        refine jg_9_0 (pc := 28) dX8_link_28 (hM (9, 0) rfl) tw_777 ?_
        refine j_bipush (pc := 31) dX8_link_31 jcb_6 ?_
        refine j_iconst (pc := 33) dX8_link_33 jci_3 ?_
        refine j_iload_n (pc := 34) 1 dX8_link_34 rfl rfl ?_
        refine j_imul (pc := 35) dX8_link_35 ?_
        refine j_iadd (pc := 36) dX8_link_36 ?_
        refine j_iload_n (pc := 37) 2 dX8_link_37 rfl rfl ?_
        refine j_iadd (pc := 38) dX8_link_38 ?_
        obtain ⟨c13, h⟩ := jchk h
        refine j_ia (pc := 39) dX8_link_39 rfl (hM (50, 0) rfl) c13 ?_
        cases h
        exact j_iret (pc := 40) dX8_link_40 rfl rfl
    · replace h := jite_t h c4
      refine j_iconst (pc := 20) dX8_link_20 jci_m1 ?_
      cases h
      exact j_iret (pc := 21) dX8_link_21 rfl rfl
abbrev mX8_drop : jM := (yX8_drop, cX8_drop, 3, (some .int))
theorem okX8_drop : jOK mX8_drop 2 := ⟨by decide +kernel, tw_1064, tw_84, by decide +kernel, by decide, by decide⟩
def fX8_drop  (S : jS) (x1 : Int32) (x2 : Int32) : Option (Int32 × jS) :=
  (fX8_isLink S x1).bind fun y1 => (if y1.1 = 0 then some ((-1 : Int32), y1.2) else (fX8_isGoal y1.2 x2).bind fun y3 => (if y3.1 = 0 then some ((-1 : Int32), y3.2) else (fX8_findsHops y3.2).bind fun y5 => (fX8_dropOf y5 x1 x2).bind fun y6 => some (y6.1 + (1000 : Int32), y6.2)))
set_option maxRecDepth 10000 in
set_option maxHeartbeats 4000000 in
theorem kX8_drop {E : jE} (hM : jHM E) {S : jS} {x1 : Int32} {x2 : Int32} {r : (Int32 × jS)} (h : fX8_drop  S x1 x2 = some r) : jMR E 5 mX8_drop [.ref (E.1 (9, 0)), .int x1, .int x2] S [.int r.1] r.2 := by
  refine ⟨Nat.le_of_ble_eq_true rfl, ?_⟩
  show JR E 5 mX8_drop 0 [(0, .ref (E.1 (9, 0))), (1, .int x1), (2, .int x2)] [] S [.int r.1] r.2
  unfold fX8_drop at h
  refine j_aload_n (pc := 0) 0 dX8_drop_0 rfl rfl ?_
  refine j_iload_n (pc := 1) 1 dX8_drop_1 rfl rfl ?_
  obtain ⟨y1, hy1, h⟩ := jbnd h
  refine j_callV (pc := 2) (N := mX8_isLink) (rr := (9, 0)) (As := [.int x1]) (rest := []) (v := [.int y1.1]) (S1 := y1.2) dX8_drop_2 (kX8_isLink hM hy1) (by simp) (by decide) okX8_isLink tw_939 tw_41 tw_937 (hM (9, 0) rfl) rfl rfl rfl rfl (by simp [Value.category]) ?_
  refine j_if_eq (pc := 5) (tgt := 16) dX8_drop_5 (by decide) (fun c2 => ?_) (fun c2 => ?_)
  · replace h := jite_t h c2
    refine j_iconst (pc := 16) dX8_drop_16 jci_m1 ?_
    cases h
    exact j_iret (pc := 17) dX8_drop_17 rfl rfl
  · replace h := jite_f h c2
    refine j_aload_n (pc := 8) 0 dX8_drop_8 rfl rfl ?_
    refine j_iload_n (pc := 9) 2 dX8_drop_9 rfl rfl ?_
    obtain ⟨y3, hy3, h⟩ := jbnd h
    refine j_callV (pc := 10) (N := mX8_isGoal) (rr := (9, 0)) (As := [.int x2]) (rest := []) (v := [.int y3.1]) (S1 := y3.2) dX8_drop_10 (kX8_isGoal hM hy3) (by simp) (by decide) okX8_isGoal tw_923 tw_38 tw_921 (hM (9, 0) rfl) rfl rfl rfl rfl (by simp [Value.category]) ?_
    refine j_if_ne (pc := 13) (tgt := 18) dX8_drop_13 (by decide) (fun c4 => ?_) (fun c4 => ?_)
    · replace h := jite_f h c4
      refine j_aload_n (pc := 18) 0 dX8_drop_18 rfl rfl ?_
      obtain ⟨y5, hy5, h⟩ := jbnd h
      refine j_callV (pc := 19) (N := mX8_findsHops) (rr := (9, 0)) (As := []) (rest := []) (v := []) (S1 := y5) dX8_drop_19 (kX8_findsHops hM hy5) (by simp) (by decide) okX8_findsHops tw_998 tw_49 tw_996 (hM (9, 0) rfl) rfl rfl rfl rfl (by simp [Value.category]) ?_
      refine j_aload_n (pc := 22) 0 dX8_drop_22 rfl rfl ?_
      refine j_iload_n (pc := 23) 1 dX8_drop_23 rfl rfl ?_
      refine j_iload_n (pc := 24) 2 dX8_drop_24 rfl rfl ?_
      obtain ⟨y6, hy6, h⟩ := jbnd h
      refine j_callV (pc := 25) (N := mX8_dropOf) (rr := (9, 0)) (As := [.int x1, .int x2]) (rest := []) (v := [.int y6.1]) (S1 := y6.2) dX8_drop_25 (kX8_dropOf hM hy6) (by simp) (by decide) okX8_dropOf tw_1010 tw_52 tw_1008 (hM (9, 0) rfl) rfl rfl rfl rfl (by simp [Value.category]) ?_
      refine j_sipush (pc := 28) dX8_drop_28 jcs_1000 ?_
      refine j_iadd (pc := 31) dX8_drop_31 ?_
      cases h
      exact j_iret (pc := 32) dX8_drop_32 rfl rfl
    · replace h := jite_t h c4
      refine j_iconst (pc := 16) dX8_drop_16 jci_m1 ?_
      cases h
      exact j_iret (pc := 17) dX8_drop_17 rfl rfl
abbrev mX8_goes : jM := (yX8_goes, cX8_goes, 2, (some .int))
theorem okX8_goes : jOK mX8_goes 1 := ⟨by decide +kernel, tw_1068, tw_84, by decide +kernel, by decide, by decide⟩
def fX8_goes  (S : jS) (x1 : Int32) : Option (Int32 × jS) :=
  (fX8_in S (x1.toInt64) (0 : Int64) (1 : Int64)).bind fun y1 => (if y1.1 = 0 then some ((-1 : Int32), y1.2) else (fX8_findsAll y1.2).bind fun y3 => (if x1 = 0 then some (y3.1 (15, 0), y3) else some (y3.1 (16, 0), y3)))
set_option maxRecDepth 10000 in
set_option maxHeartbeats 4000000 in
theorem kX8_goes {E : jE} (hM : jHM E) {S : jS} {x1 : Int32} {r : (Int32 × jS)} (h : fX8_goes  S x1 = some r) : jMR E 7 mX8_goes [.ref (E.1 (9, 0)), .int x1] S [.int r.1] r.2 := by
  refine ⟨Nat.le_of_ble_eq_true rfl, ?_⟩
  show JR E 7 mX8_goes 0 [(0, .ref (E.1 (9, 0))), (1, .int x1)] [] S [.int r.1] r.2
  unfold fX8_goes at h
  refine j_iload_n (pc := 0) 1 dX8_goes_0 rfl rfl ?_
  refine j_i2l (pc := 1) dX8_goes_1 ?_
  refine j_lconst (pc := 2) (v := (0 : Int64)) dX8_goes_2 rfl ?_
  refine j_lconst (pc := 3) (v := (1 : Int64)) dX8_goes_3 rfl ?_
  obtain ⟨y1, hy1, h⟩ := jbnd h
  refine j_callS (pc := 4) (N := mX8_in) (As := [.long (x1.toInt64), .long (0 : Int64), .long (1 : Int64)]) (rest := []) (v := [.int y1.1]) (S1 := y1.2) dX8_goes_4 (kX8_in hM hy1) (by simp) (by decide) okX8_in tw_846 tw_845 rfl rfl (by simp [Value.category]) ?_
  refine j_if_ne (pc := 7) (tgt := 12) dX8_goes_7 (by decide) (fun c2 => ?_) (fun c2 => ?_)
  · replace h := jite_f h c2
    refine j_aload_n (pc := 12) 0 dX8_goes_12 rfl rfl ?_
    obtain ⟨y3, hy3, h⟩ := jbnd h
    refine j_callV (pc := 13) (N := mX8_findsAll) (rr := (9, 0)) (As := []) (rest := []) (v := []) (S1 := y3) dX8_goes_13 (kX8_findsAll hM hy3) (by simp) (by decide) okX8_findsAll tw_1059 tw_61 tw_1057 (hM (9, 0) rfl) rfl rfl rfl rfl (by simp [Value.category]) ?_
    refine j_iload_n (pc := 16) 1 dX8_goes_16 rfl rfl ?_
    refine j_if_ne (pc := 17) (tgt := 27) dX8_goes_17 (by decide) (fun c4 => ?_) (fun c4 => ?_)
    · replace h := jite_f h c4
      refine j_aload_n (pc := 27) 0 dX8_goes_27 rfl rfl ?_
      refine jg_9_15 (pc := 28) dX8_goes_28 (hM (9, 0) rfl) tw_792 ?_
      cases h
      exact j_iret (pc := 31) dX8_goes_31 rfl rfl
    · replace h := jite_t h c4
      refine j_aload_n (pc := 20) 0 dX8_goes_20 rfl rfl ?_
      refine jg_9_14 (pc := 21) dX8_goes_21 (hM (9, 0) rfl) tw_791 ?_
      refine j_goto (pc := 24) (tgt := 31) dX8_goes_24 (by decide) ?_
      cases h
      exact j_iret (pc := 31) dX8_goes_31 rfl rfl
  · replace h := jite_t h c2
    refine j_iconst (pc := 10) dX8_goes_10 jci_m1 ?_
    cases h
    exact j_iret (pc := 11) dX8_goes_11 rfl rfl
abbrev mX8_packetsFor : jM := (yX8_packetsFor, cX8_packetsFor, 4, (some .int))
theorem okX8_packetsFor : jOK mX8_packetsFor 1 := ⟨by decide +kernel, tw_1077, tw_84, by decide +kernel, by decide, by decide⟩
def bX8_packetsFor_4  (q4 : jS → Int32 → Int32 → Int32 → Option (Int32 × jS)) (S : jS) (x1 : Int32) (x2 : Int32) (x3 : Int32) : Option (Int32 × jS) :=
  if jIn (0 : Int32) 815 then (if (S.2 (50, 0) (0 : Int32).toNatClampNeg) ≤ x3 then some (x2, S) else (fX8_manyIn S x3 x1).bind fun y3 => jlet (x2 + y3.1) fun v4 => jlet (x3 + (1 : Int32)) fun v5 => q4 (y3.2) x1 v4 v5) else none
set_option maxRecDepth 10000 in
set_option maxHeartbeats 4000000 in
theorem lX8_packetsFor_4 {E : jE} (hM : jHM E) {q4 : jS → Int32 → Int32 → Int32 → Option (Int32 × jS)} (H4 : ∀ {S : jS} {x1 : Int32} {x2 : Int32} {x3 : Int32} {r : (Int32 × jS)}, q4 S x1 x2 x3 = some r → JR E 3 mX8_packetsFor 4 [(0, .ref (E.1 (9, 0))), (1, .int x1), (2, .int x2), (3, .int x3)] [] S [.int r.1] r.2) {S : jS} {x1 : Int32} {x2 : Int32} {x3 : Int32} {r : (Int32 × jS)} (h : bX8_packetsFor_4  q4 S x1 x2 x3 = some r) : JR E 3 mX8_packetsFor 4 [(0, .ref (E.1 (9, 0))), (1, .int x1), (2, .int x2), (3, .int x3)] [] S [.int r.1] r.2 := by
  unfold bX8_packetsFor_4 at h
  refine j_iload_n (pc := 4) 3 dX8_packetsFor_4 rfl rfl ?_
  refine j_aload_n (pc := 5) 0 dX8_packetsFor_5 rfl rfl ?_
  refine jg_9_0 (pc := 6) dX8_packetsFor_6 (hM (9, 0) rfl) tw_777 ?_
  refine j_iconst (pc := 9) dX8_packetsFor_9 jci_0 ?_
  obtain ⟨c1, h⟩ := jchk h
  refine j_ia (pc := 10) dX8_packetsFor_10 rfl (hM (50, 0) rfl) c1 ?_
  refine j_icmp_ge (pc := 11) (tgt := 29) dX8_packetsFor_11 (by decide) (fun c2 => ?_) (fun c2 => ?_)
  · replace h := jite_t h c2
    refine j_iload_n (pc := 29) 2 dX8_packetsFor_29 rfl rfl ?_
    cases h
    exact j_iret (pc := 30) dX8_packetsFor_30 rfl rfl
  · replace h := jite_f h c2
    refine j_iload_n (pc := 14) 2 dX8_packetsFor_14 rfl rfl ?_
    refine j_aload_n (pc := 15) 0 dX8_packetsFor_15 rfl rfl ?_
    refine j_iload_n (pc := 16) 3 dX8_packetsFor_16 rfl rfl ?_
    refine j_iload_n (pc := 17) 1 dX8_packetsFor_17 rfl rfl ?_
    obtain ⟨y3, hy3, h⟩ := jbnd h
    refine j_callV (pc := 18) (N := mX8_manyIn) (rr := (9, 0)) (As := [.int x3, .int x1]) (rest := [.int x2]) (v := [.int y3.1]) (S1 := y3.2) dX8_packetsFor_18 (kX8_manyIn hM hy3) (by simp) (by decide) okX8_manyIn tw_966 tw_43 tw_964 (hM (9, 0) rfl) rfl rfl rfl rfl (by simp [Value.category]) ?_
    refine j_iadd (pc := 21) dX8_packetsFor_21 ?_
    obtain ⟨v4, ev4, h⟩ := jlk h
    refine j_topi ev4 ?_
    refine j_istore_n (pc := 22) (lv' := [(2, .int v4), (0, .ref (E.1 (9, 0))), (1, .int x1), (3, .int x3)]) dX8_packetsFor_22 rfl (by decide) rfl ?_
    obtain ⟨v5, ev5, h⟩ := jlk h
    refine j_iinc (pc := 23) (v := v5) (lv' := [(3, .int v5), (2, .int v4), (0, .ref (E.1 (9, 0))), (1, .int x1)]) 3 dX8_packetsFor_23 rfl (by rw [ev5]; rfl) (by decide) rfl ?_
    refine j_goto (pc := 26) (tgt := 4) dX8_packetsFor_26 (by decide) ?_
    exact j_sub [2, 3, 1, 0] rfl (H4 h)
def fX8_packetsFor_4  : Nat → jS → Int32 → Int32 → Int32 → Option (Int32 × jS)
  | 0 => fun _ _ _ _ => none
  | n + 1 => bX8_packetsFor_4  (fX8_packetsFor_4  n)
theorem kX8_packetsFor_4 {E : jE} (hM : jHM E) (fu : Nat) : ∀ {S : jS} {x1 : Int32} {x2 : Int32} {x3 : Int32} {r : (Int32 × jS)}, fX8_packetsFor_4  fu S x1 x2 x3 = some r → JR E 3 mX8_packetsFor 4 [(0, .ref (E.1 (9, 0))), (1, .int x1), (2, .int x2), (3, .int x3)] [] S [.int r.1] r.2 := by
  induction fu with
  | zero => intro S x1 x2 x3 r h; cases h
  | succ n_ ih => intro S x1 x2 x3 r h; exact lX8_packetsFor_4 hM ih h
def fX8_packetsFor  (S : jS) (x1 : Int32) : Option (Int32 × jS) :=
  fX8_packetsFor_4 5000 S x1 (0 : Int32) (0 : Int32)
set_option maxRecDepth 10000 in
set_option maxHeartbeats 4000000 in
theorem kX8_packetsFor {E : jE} (hM : jHM E) {S : jS} {x1 : Int32} {r : (Int32 × jS)} (h : fX8_packetsFor  S x1 = some r) : jMR E 3 mX8_packetsFor [.ref (E.1 (9, 0)), .int x1] S [.int r.1] r.2 := by
  refine ⟨Nat.le_of_ble_eq_true rfl, ?_⟩
  show JR E 3 mX8_packetsFor 0 [(0, .ref (E.1 (9, 0))), (1, .int x1)] [] S [.int r.1] r.2
  unfold fX8_packetsFor at h
  refine j_iconst (pc := 0) dX8_packetsFor_0 jci_0 ?_
  refine j_istore_n (pc := 1) (lv' := [(2, .int (0 : Int32)), (0, .ref (E.1 (9, 0))), (1, .int x1)]) dX8_packetsFor_1 rfl (by decide) rfl ?_
  refine j_iconst (pc := 2) dX8_packetsFor_2 jci_0 ?_
  refine j_istore_n (pc := 3) (lv' := [(3, .int (0 : Int32)), (2, .int (0 : Int32)), (0, .ref (E.1 (9, 0))), (1, .int x1)]) dX8_packetsFor_3 rfl (by decide) rfl ?_
  exact j_sub [2, 3, 1, 0] rfl (kX8_packetsFor_4 hM 5000 h)
abbrev mX8_goal : jM := (yX8_goal, cX8_goal, 3, (some .int))
theorem okX8_goal : jOK mX8_goal 2 := ⟨by decide +kernel, tw_1072, tw_84, by decide +kernel, by decide, by decide⟩
def fX8_goal  (S : jS) (x1 : Int32) (x2 : Int32) : Option (Int32 × jS) :=
  (fX8_isGoal S x1).bind fun y1 => (if y1.1 = 0 then some ((-1 : Int32), y1.2) else (fX8_in y1.2 (x2.toInt64) (0 : Int64) (4 : Int64)).bind fun y3 => (if y3.1 = 0 then some ((-1 : Int32), y3.2) else (if x2 = (0 : Int32) then if jIn ((2 : Int32) + x1) 815 then some (y3.2.2 (50, 0) ((2 : Int32) + x1).toNatClampNeg, y3.2) else none else (if x2 = (1 : Int32) then if jIn ((67 : Int32) + x1) 815 then some (y3.2.2 (50, 0) ((67 : Int32) + x1).toNatClampNeg, y3.2) else none else (if x2 = (2 : Int32) then if jIn ((70 : Int32) + x1) 815 then some (y3.2.2 (50, 0) ((70 : Int32) + x1).toNatClampNeg, y3.2) else none else (if x2 = (3 : Int32) then if jIn ((67 : Int32) + x1) 815 then (if (y3.2.2 (50, 0) ((67 : Int32) + x1).toNatClampNeg) = 0 then some ((-4 : Int32), y3.2) else if jIn ((73 : Int32) + x1) 815 then some (y3.2.2 (50, 0) ((73 : Int32) + x1).toNatClampNeg, y3.2) else none) else none else (fX8_packetsFor y3.2 x1).bind fun y15 => some (y15.1, y15.2)))))))
set_option maxRecDepth 10000 in
set_option maxHeartbeats 4000000 in
theorem kX8_goal {E : jE} (hM : jHM E) {S : jS} {x1 : Int32} {x2 : Int32} {r : (Int32 × jS)} (h : fX8_goal  S x1 x2 = some r) : jMR E 4 mX8_goal [.ref (E.1 (9, 0)), .int x1, .int x2] S [.int r.1] r.2 := by
  refine ⟨Nat.le_of_ble_eq_true rfl, ?_⟩
  show JR E 4 mX8_goal 0 [(0, .ref (E.1 (9, 0))), (1, .int x1), (2, .int x2)] [] S [.int r.1] r.2
  unfold fX8_goal at h
  refine j_aload_n (pc := 0) 0 dX8_goal_0 rfl rfl ?_
  refine j_iload_n (pc := 1) 1 dX8_goal_1 rfl rfl ?_
  obtain ⟨y1, hy1, h⟩ := jbnd h
  refine j_callV (pc := 2) (N := mX8_isGoal) (rr := (9, 0)) (As := [.int x1]) (rest := []) (v := [.int y1.1]) (S1 := y1.2) dX8_goal_2 (kX8_isGoal hM hy1) (by simp) (by decide) okX8_isGoal tw_923 tw_38 tw_921 (hM (9, 0) rfl) rfl rfl rfl rfl (by simp [Value.category]) ?_
  refine j_if_eq (pc := 5) (tgt := 20) dX8_goal_5 (by decide) (fun c2 => ?_) (fun c2 => ?_)
  · replace h := jite_t h c2
    refine j_iconst (pc := 20) dX8_goal_20 jci_m1 ?_
    cases h
    exact j_iret (pc := 21) dX8_goal_21 rfl rfl
  · replace h := jite_f h c2
    refine j_iload_n (pc := 8) 2 dX8_goal_8 rfl rfl ?_
    refine j_i2l (pc := 9) dX8_goal_9 ?_
    refine j_lconst (pc := 10) (v := (0 : Int64)) dX8_goal_10 rfl ?_
    refine j_ldc2 (pc := 11) (v := (4 : Int64)) dX8_goal_11 tw_1073 ?_
    obtain ⟨y3, hy3, h⟩ := jbnd h
    refine j_callS (pc := 14) (N := mX8_in) (As := [.long (x2.toInt64), .long (0 : Int64), .long (4 : Int64)]) (rest := []) (v := [.int y3.1]) (S1 := y3.2) dX8_goal_14 (kX8_in hM hy3) (by simp) (by decide) okX8_in tw_846 tw_845 rfl rfl (by simp [Value.category]) ?_
    refine j_if_ne (pc := 17) (tgt := 22) dX8_goal_17 (by decide) (fun c4 => ?_) (fun c4 => ?_)
    · replace h := jite_f h c4
      refine j_iload_n (pc := 22) 2 dX8_goal_22 rfl rfl ?_
      by_cases c5 : x2 = (0 : Int32)
      · replace h := jite_t h c5
        refine j_tabIn (pc := 23) (tgt := 52) (off := 29) dX8_goal_23 (by rw [c5]; decide) (by rw [c5]; decide) (by rw [c5]; rfl) (by decide) ?_
        refine j_aload_n (pc := 52) 0 dX8_goal_52 rfl rfl ?_
        refine jg_9_0 (pc := 53) dX8_goal_53 (hM (9, 0) rfl) tw_777 ?_
        refine j_iconst (pc := 56) dX8_goal_56 jci_2 ?_
        refine j_iload_n (pc := 57) 1 dX8_goal_57 rfl rfl ?_
        refine j_iadd (pc := 58) dX8_goal_58 ?_
        obtain ⟨c6, h⟩ := jchk h
        refine j_ia (pc := 59) dX8_goal_59 rfl (hM (50, 0) rfl) c6 ?_
        cases h
        exact j_iret (pc := 60) dX8_goal_60 rfl rfl
      replace h := jite_f h c5
      by_cases c7 : x2 = (1 : Int32)
      · replace h := jite_t h c7
        refine j_tabIn (pc := 23) (tgt := 61) (off := 38) dX8_goal_23 (by rw [c7]; decide) (by rw [c7]; decide) (by rw [c7]; rfl) (by decide) ?_
        refine j_aload_n (pc := 61) 0 dX8_goal_61 rfl rfl ?_
        refine jg_9_0 (pc := 62) dX8_goal_62 (hM (9, 0) rfl) tw_777 ?_
        refine j_bipush (pc := 65) dX8_goal_65 jcb_67 ?_
        refine j_iload_n (pc := 67) 1 dX8_goal_67 rfl rfl ?_
        refine j_iadd (pc := 68) dX8_goal_68 ?_
        obtain ⟨c8, h⟩ := jchk h
        refine j_ia (pc := 69) dX8_goal_69 rfl (hM (50, 0) rfl) c8 ?_
        cases h
        exact j_iret (pc := 70) dX8_goal_70 rfl rfl
      replace h := jite_f h c7
      by_cases c9 : x2 = (2 : Int32)
      · replace h := jite_t h c9
        refine j_tabIn (pc := 23) (tgt := 71) (off := 48) dX8_goal_23 (by rw [c9]; decide) (by rw [c9]; decide) (by rw [c9]; rfl) (by decide) ?_
        refine j_aload_n (pc := 71) 0 dX8_goal_71 rfl rfl ?_
        refine jg_9_0 (pc := 72) dX8_goal_72 (hM (9, 0) rfl) tw_777 ?_
        refine j_bipush (pc := 75) dX8_goal_75 jcb_70 ?_
        refine j_iload_n (pc := 77) 1 dX8_goal_77 rfl rfl ?_
        refine j_iadd (pc := 78) dX8_goal_78 ?_
        obtain ⟨c10, h⟩ := jchk h
        refine j_ia (pc := 79) dX8_goal_79 rfl (hM (50, 0) rfl) c10 ?_
        cases h
        exact j_iret (pc := 80) dX8_goal_80 rfl rfl
      replace h := jite_f h c9
      by_cases c11 : x2 = (3 : Int32)
      · replace h := jite_t h c11
        refine j_tabIn (pc := 23) (tgt := 81) (off := 58) dX8_goal_23 (by rw [c11]; decide) (by rw [c11]; decide) (by rw [c11]; rfl) (by decide) ?_
        refine j_aload_n (pc := 81) 0 dX8_goal_81 rfl rfl ?_
        refine jg_9_0 (pc := 82) dX8_goal_82 (hM (9, 0) rfl) tw_777 ?_
        refine j_bipush (pc := 85) dX8_goal_85 jcb_67 ?_
        refine j_iload_n (pc := 87) 1 dX8_goal_87 rfl rfl ?_
        refine j_iadd (pc := 88) dX8_goal_88 ?_
        obtain ⟨c12, h⟩ := jchk h
        refine j_ia (pc := 89) dX8_goal_89 rfl (hM (50, 0) rfl) c12 ?_
        refine j_if_ne (pc := 90) (tgt := 98) dX8_goal_90 (by decide) (fun c13 => ?_) (fun c13 => ?_)
        · replace h := jite_f h c13
          refine j_aload_n (pc := 98) 0 dX8_goal_98 rfl rfl ?_
          refine jg_9_0 (pc := 99) dX8_goal_99 (hM (9, 0) rfl) tw_777 ?_
          refine j_bipush (pc := 102) dX8_goal_102 jcb_73 ?_
          refine j_iload_n (pc := 104) 1 dX8_goal_104 rfl rfl ?_
          refine j_iadd (pc := 105) dX8_goal_105 ?_
          obtain ⟨c14, h⟩ := jchk h
          refine j_ia (pc := 106) dX8_goal_106 rfl (hM (50, 0) rfl) c14 ?_
          cases h
          exact j_iret (pc := 107) dX8_goal_107 rfl rfl
        · replace h := jite_t h c13
          refine j_bipush (pc := 93) dX8_goal_93 jcb_m4 ?_
          refine j_goto (pc := 95) (tgt := 107) dX8_goal_95 (by decide) ?_
          cases h
          exact j_iret (pc := 107) dX8_goal_107 rfl rfl
      replace h := jite_f h c11
      refine j_tabD (pc := 23) (tgt := 108) dX8_goal_23 (by decide) (fun i hi => match i, hi with | 0, _ => Or.inr (jti c5 rfl) | 1, _ => Or.inr (jti c7 rfl) | 2, _ => Or.inr (jti c9 rfl) | 3, _ => Or.inr (jti c11 rfl) | n + 4, h9 => absurd h9 (by simp)) (by decide) ?_
      refine j_aload_n (pc := 108) 0 dX8_goal_108 rfl rfl ?_
      refine j_iload_n (pc := 109) 1 dX8_goal_109 rfl rfl ?_
      obtain ⟨y15, hy15, h⟩ := jbnd h
      refine j_callV (pc := 110) (N := mX8_packetsFor) (rr := (9, 0)) (As := [.int x1]) (rest := []) (v := [.int y15.1]) (S1 := y15.2) dX8_goal_110 (kX8_packetsFor hM hy15) (by simp) (by decide) okX8_packetsFor tw_1076 tw_62 tw_1074 (hM (9, 0) rfl) rfl rfl rfl rfl (by simp [Value.category]) ?_
      cases h
      exact j_iret (pc := 113) dX8_goal_113 rfl rfl
    · replace h := jite_t h c4
      refine j_iconst (pc := 20) dX8_goal_20 jci_m1 ?_
      cases h
      exact j_iret (pc := 21) dX8_goal_21 rfl rfl
abbrev mX8_ahead : jM := (yX8_ahead, cX8_ahead, 7, (some .int))
theorem okX8_ahead : jOK mX8_ahead 2 := ⟨by decide +kernel, tw_1081, tw_84, by decide +kernel, by decide, by decide⟩
def bX8_ahead_137  (S : jS) (t0 : Int32) : Option (Int32 × jS) :=
  (fX8_comesBack S).bind fun y22 => some (t0, y22)
set_option maxRecDepth 10000 in
set_option maxHeartbeats 4000000 in
theorem lX8_ahead_137 {E : jE} (hM : jHM E) {S : jS} {t0 : Int32} {r : (Int32 × jS)} (h : bX8_ahead_137  S t0 = some r) : JR E 7 mX8_ahead 137 [(0, .ref (E.1 (9, 0)))] [.int t0] S [.int r.1] r.2 := by
  unfold bX8_ahead_137 at h
  refine j_istore (pc := 137) (lv' := [(6, .int t0), (0, .ref (E.1 (9, 0)))]) dX8_ahead_137 (by decide) rfl ?_
  refine j_aload_n (pc := 139) 1 dX8_ahead_139 rfl rfl ?_
  obtain ⟨y22, hy22, h⟩ := jbnd h
  refine j_callV (pc := 140) (N := mX8_comesBack) (rr := (9, 0)) (As := []) (rest := []) (v := []) (S1 := y22) dX8_ahead_140 (kX8_comesBack hM hy22) (by simp) (by decide) okX8_comesBack tw_1096 tw_66 tw_1094 (hM (9, 0) rfl) rfl rfl rfl rfl (by simp [Value.category]) ?_
  refine j_iload (pc := 143) 0 dX8_ahead_143 rfl ?_
  cases h
  exact j_iret (pc := 145) dX8_ahead_145 rfl rfl
def bX8_ahead_84  (q54 : jS → Int32 → Int32 → Int32 → Int32 → Int32 → Int32 → Option (Int32 × jS)) (S : jS) (x1 : Int32) (x2 : Int32) (x3 : Int32) (x4 : Int32) (x6 : Int32) (t0 : Int32) : Option (Int32 × jS) :=
  jlet (x6 + (1 : Int32)) fun v21 => q54 S x1 x2 x3 x4 t0 v21
set_option maxRecDepth 10000 in
set_option maxHeartbeats 4000000 in
theorem lX8_ahead_84 {E : jE} (hM : jHM E) {q54 : jS → Int32 → Int32 → Int32 → Int32 → Int32 → Int32 → Option (Int32 × jS)} (H54 : ∀ {S : jS} {x1 : Int32} {x2 : Int32} {x3 : Int32} {x4 : Int32} {x5 : Int32} {x6 : Int32} {r : (Int32 × jS)}, q54 S x1 x2 x3 x4 x5 x6 = some r → JR E 7 mX8_ahead 54 [(0, .ref (E.1 (9, 0))), (1, .int x1), (2, .int x2), (3, .int x3), (4, .int x4), (5, .int x5), (6, .int x6)] [] S [.int r.1] r.2) {S : jS} {x1 : Int32} {x2 : Int32} {x3 : Int32} {x4 : Int32} {x6 : Int32} {t0 : Int32} {r : (Int32 × jS)} (h : bX8_ahead_84  q54 S x1 x2 x3 x4 x6 t0 = some r) : JR E 7 mX8_ahead 84 [(0, .ref (E.1 (9, 0))), (1, .int x1), (2, .int x2), (3, .int x3), (4, .int x4), (6, .int x6)] [.int t0] S [.int r.1] r.2 := by
  unfold bX8_ahead_84 at h
  refine j_istore (pc := 84) (lv' := [(5, .int t0), (0, .ref (E.1 (9, 0))), (1, .int x1), (2, .int x2), (3, .int x3), (4, .int x4), (6, .int x6)]) dX8_ahead_84 (by decide) rfl ?_
  obtain ⟨v21, ev21, h⟩ := jlk h
  refine j_iinc (pc := 86) (v := v21) (lv' := [(6, .int v21), (5, .int t0), (0, .ref (E.1 (9, 0))), (1, .int x1), (2, .int x2), (3, .int x3), (4, .int x4)]) 6 dX8_ahead_86 rfl (by rw [ev21]; rfl) (by decide) rfl ?_
  refine j_goto (pc := 89) (tgt := 54) dX8_ahead_89 (by decide) ?_
  exact j_sub [2, 3, 4, 5, 6, 1, 0] rfl (H54 h)
def bX8_ahead_54  (q54 : jS → Int32 → Int32 → Int32 → Int32 → Int32 → Int32 → Option (Int32 × jS)) (S : jS) (x1 : Int32) (x2 : Int32) (x3 : Int32) (x4 : Int32) (x5 : Int32) (x6 : Int32) : Option (Int32 × jS) :=
  (if x1 ≤ x6 then (if x2 = 0 then (fX8_packets S).bind fun y16 => bX8_ahead_137 (y16.2) y16.1 else (if x2 = (1 : Int32) then (fX8_thereAll S).bind fun y15 => bX8_ahead_137 (y15.2) (y15.1 - x3) else (if x2 = (2 : Int32) then if jIn (76 : Int32) 815 then bX8_ahead_137 S ((S.2 (50, 0) (76 : Int32).toNatClampNeg) - x4) else none else bX8_ahead_137 S x5))) else (fX8_goesOn S (-4 : Int32)).bind fun y17 => (fX8_squares y17).bind fun y18 => (if y18.1 ≤ x5 then bX8_ahead_84 q54 (y18.2) x1 x2 x3 x4 x6 x5 else (fX8_squares y18.2).bind fun y20 => bX8_ahead_84 q54 (y20.2) x1 x2 x3 x4 x6 y20.1))
set_option maxRecDepth 10000 in
set_option maxHeartbeats 4000000 in
theorem lX8_ahead_54 {E : jE} (hM : jHM E) {q54 : jS → Int32 → Int32 → Int32 → Int32 → Int32 → Int32 → Option (Int32 × jS)} (H54 : ∀ {S : jS} {x1 : Int32} {x2 : Int32} {x3 : Int32} {x4 : Int32} {x5 : Int32} {x6 : Int32} {r : (Int32 × jS)}, q54 S x1 x2 x3 x4 x5 x6 = some r → JR E 7 mX8_ahead 54 [(0, .ref (E.1 (9, 0))), (1, .int x1), (2, .int x2), (3, .int x3), (4, .int x4), (5, .int x5), (6, .int x6)] [] S [.int r.1] r.2) {S : jS} {x1 : Int32} {x2 : Int32} {x3 : Int32} {x4 : Int32} {x5 : Int32} {x6 : Int32} {r : (Int32 × jS)} (h : bX8_ahead_54  q54 S x1 x2 x3 x4 x5 x6 = some r) : JR E 7 mX8_ahead 54 [(0, .ref (E.1 (9, 0))), (1, .int x1), (2, .int x2), (3, .int x3), (4, .int x4), (5, .int x5), (6, .int x6)] [] S [.int r.1] r.2 := by
  unfold bX8_ahead_54 at h
  refine j_iload (pc := 54) 6 dX8_ahead_54 rfl ?_
  refine j_iload_n (pc := 56) 1 dX8_ahead_56 rfl rfl ?_
  refine j_icmp_ge (pc := 57) (tgt := 92) dX8_ahead_57 (by decide) (fun c10 => ?_) (fun c10 => ?_)
  · replace h := jite_t h c10
    refine j_iload_n (pc := 92) 2 dX8_ahead_92 rfl rfl ?_
    refine j_if_ne (pc := 93) (tgt := 103) dX8_ahead_93 (by decide) (fun c11 => ?_) (fun c11 => ?_)
    · replace h := jite_f h c11
      refine j_iload_n (pc := 103) 2 dX8_ahead_103 rfl rfl ?_
      refine j_iconst (pc := 104) dX8_ahead_104 jci_1 ?_
      refine j_icmp_ne (pc := 105) (tgt := 117) dX8_ahead_105 (by decide) (fun c12 => ?_) (fun c12 => ?_)
      · replace h := jite_f h c12
        refine j_iload_n (pc := 117) 2 dX8_ahead_117 rfl rfl ?_
        refine j_iconst (pc := 118) dX8_ahead_118 jci_2 ?_
        refine j_icmp_ne (pc := 119) (tgt := 135) dX8_ahead_119 (by decide) (fun c13 => ?_) (fun c13 => ?_)
        · replace h := jite_f h c13
          refine j_iload (pc := 135) 5 dX8_ahead_135 rfl ?_
          exact j_sub [0] rfl (lX8_ahead_137 hM h)
        · replace h := jite_t h c13
          refine j_aload_n (pc := 122) 0 dX8_ahead_122 rfl rfl ?_
          refine jg_9_0 (pc := 123) dX8_ahead_123 (hM (9, 0) rfl) tw_777 ?_
          refine j_bipush (pc := 126) dX8_ahead_126 jcb_76 ?_
          obtain ⟨c14, h⟩ := jchk h
          refine j_ia (pc := 128) dX8_ahead_128 rfl (hM (50, 0) rfl) c14 ?_
          refine j_iload (pc := 129) 4 dX8_ahead_129 rfl ?_
          refine j_isub (pc := 131) dX8_ahead_131 ?_
          refine j_goto (pc := 132) (tgt := 137) dX8_ahead_132 (by decide) ?_
          exact j_sub [0] rfl (lX8_ahead_137 hM h)
      · replace h := jite_t h c12
        refine j_aload_n (pc := 108) 0 dX8_ahead_108 rfl rfl ?_
        obtain ⟨y15, hy15, h⟩ := jbnd h
        refine j_callV (pc := 109) (N := mX8_thereAll) (rr := (9, 0)) (As := []) (rest := []) (v := [.int y15.1]) (S1 := y15.2) dX8_ahead_109 (kX8_thereAll hM hy15) (by simp) (by decide) okX8_thereAll tw_986 tw_46 tw_984 (hM (9, 0) rfl) rfl rfl rfl rfl (by simp [Value.category]) ?_
        refine j_iload_n (pc := 112) 3 dX8_ahead_112 rfl rfl ?_
        refine j_isub (pc := 113) dX8_ahead_113 ?_
        refine j_goto (pc := 114) (tgt := 137) dX8_ahead_114 (by decide) ?_
        exact j_sub [0] rfl (lX8_ahead_137 hM h)
    · replace h := jite_t h c11
      refine j_aload_n (pc := 96) 0 dX8_ahead_96 rfl rfl ?_
      obtain ⟨y16, hy16, h⟩ := jbnd h
      refine j_callV (pc := 97) (N := mX8_packets) (rr := (9, 0)) (As := []) (rest := []) (v := [.int y16.1]) (S1 := y16.2) dX8_ahead_97 (kX8_packets hM hy16) (by simp) (by decide) okX8_packets tw_1092 tw_65 tw_1090 (hM (9, 0) rfl) rfl rfl rfl rfl (by simp [Value.category]) ?_
      refine j_goto (pc := 100) (tgt := 137) dX8_ahead_100 (by decide) ?_
      exact j_sub [0] rfl (lX8_ahead_137 hM h)
  · replace h := jite_f h c10
    refine j_aload_n (pc := 60) 0 dX8_ahead_60 rfl rfl ?_
    refine j_bipush (pc := 61) dX8_ahead_61 jcb_m4 ?_
    obtain ⟨y17, hy17, h⟩ := jbnd h
    refine j_callV (pc := 63) (N := mX8_goesOn) (rr := (9, 0)) (As := [.int (-4 : Int32)]) (rest := []) (v := []) (S1 := y17) dX8_ahead_63 (kX8_goesOn hM hy17) (by simp) (by decide) okX8_goesOn tw_990 tw_47 tw_988 (hM (9, 0) rfl) rfl rfl rfl rfl (by simp [Value.category]) ?_
    refine j_aload_n (pc := 66) 0 dX8_ahead_66 rfl rfl ?_
    obtain ⟨y18, hy18, h⟩ := jbnd h
    refine j_callV (pc := 67) (N := mX8_squares) (rr := (9, 0)) (As := []) (rest := []) (v := [.int y18.1]) (S1 := y18.2) dX8_ahead_67 (kX8_squares hM hy18) (by simp) (by decide) okX8_squares tw_1088 tw_64 tw_1086 (hM (9, 0) rfl) rfl rfl rfl rfl (by simp [Value.category]) ?_
    refine j_iload (pc := 70) 5 dX8_ahead_70 rfl ?_
    refine j_icmp_le (pc := 72) (tgt := 82) dX8_ahead_72 (by decide) (fun c19 => ?_) (fun c19 => ?_)
    · replace h := jite_t h c19
      refine j_iload (pc := 82) 5 dX8_ahead_82 rfl ?_
      exact j_sub [0, 1, 2, 3, 4, 6] rfl (lX8_ahead_84 hM H54 h)
    · replace h := jite_f h c19
      refine j_aload_n (pc := 75) 0 dX8_ahead_75 rfl rfl ?_
      obtain ⟨y20, hy20, h⟩ := jbnd h
      refine j_callV (pc := 76) (N := mX8_squares) (rr := (9, 0)) (As := []) (rest := []) (v := [.int y20.1]) (S1 := y20.2) dX8_ahead_76 (kX8_squares hM hy20) (by simp) (by decide) okX8_squares tw_1088 tw_64 tw_1086 (hM (9, 0) rfl) rfl rfl rfl rfl (by simp [Value.category]) ?_
      refine j_goto (pc := 79) (tgt := 84) dX8_ahead_79 (by decide) ?_
      exact j_sub [0, 1, 2, 3, 4, 6] rfl (lX8_ahead_84 hM H54 h)
def fX8_ahead_54  : Nat → jS → Int32 → Int32 → Int32 → Int32 → Int32 → Int32 → Option (Int32 × jS)
  | 0 => fun _ _ _ _ _ _ _ => none
  | n + 1 => bX8_ahead_54  (fX8_ahead_54  n)
theorem kX8_ahead_54 {E : jE} (hM : jHM E) (fu : Nat) : ∀ {S : jS} {x1 : Int32} {x2 : Int32} {x3 : Int32} {x4 : Int32} {x5 : Int32} {x6 : Int32} {r : (Int32 × jS)}, fX8_ahead_54  fu S x1 x2 x3 x4 x5 x6 = some r → JR E 7 mX8_ahead 54 [(0, .ref (E.1 (9, 0))), (1, .int x1), (2, .int x2), (3, .int x3), (4, .int x4), (5, .int x5), (6, .int x6)] [] S [.int r.1] r.2 := by
  induction fu with
  | zero => intro S x1 x2 x3 x4 x5 x6 r h; cases h
  | succ n_ ih => intro S x1 x2 x3 x4 x5 x6 r h; exact lX8_ahead_54 hM ih h
def fX8_ahead  (S : jS) (x1 : Int32) (x2 : Int32) : Option (Int32 × jS) :=
  (fX8_in S (x1.toInt64) (1 : Int64) (60 : Int64)).bind fun y1 => (if y1.1 = 0 then some ((-1 : Int32), y1.2) else (fX8_in y1.2 (x2.toInt64) (0 : Int64) (3 : Int64)).bind fun y3 => (if y3.1 = 0 then some ((-1 : Int32), y3.2) else (fX8_laysAside y3.2).bind fun y5 => (fX8_laysFeeds y5).bind fun y6 => (fX8_thereAll y6).bind fun y7 => if jIn (76 : Int32) 815 then jlet (y7.2.2 (50, 0) (76 : Int32).toNatClampNeg) fun v9 => fX8_ahead_54 5000 (y7.2) x1 x2 y7.1 v9 (0 : Int32) (0 : Int32) else none))
set_option maxRecDepth 10000 in
set_option maxHeartbeats 4000000 in
theorem kX8_ahead {E : jE} (hM : jHM E) {S : jS} {x1 : Int32} {x2 : Int32} {r : (Int32 × jS)} (h : fX8_ahead  S x1 x2 = some r) : jMR E 7 mX8_ahead [.ref (E.1 (9, 0)), .int x1, .int x2] S [.int r.1] r.2 := by
  refine ⟨Nat.le_of_ble_eq_true rfl, ?_⟩
  show JR E 7 mX8_ahead 0 [(0, .ref (E.1 (9, 0))), (1, .int x1), (2, .int x2)] [] S [.int r.1] r.2
  unfold fX8_ahead at h
  refine j_iload_n (pc := 0) 1 dX8_ahead_0 rfl rfl ?_
  refine j_i2l (pc := 1) dX8_ahead_1 ?_
  refine j_lconst (pc := 2) (v := (1 : Int64)) dX8_ahead_2 rfl ?_
  refine j_ldc2 (pc := 3) (v := (60 : Int64)) dX8_ahead_3 tw_979 ?_
  obtain ⟨y1, hy1, h⟩ := jbnd h
  refine j_callS (pc := 6) (N := mX8_in) (As := [.long (x1.toInt64), .long (1 : Int64), .long (60 : Int64)]) (rest := []) (v := [.int y1.1]) (S1 := y1.2) dX8_ahead_6 (kX8_in hM hy1) (by simp) (by decide) okX8_in tw_846 tw_845 rfl rfl (by simp [Value.category]) ?_
  refine j_if_eq (pc := 9) (tgt := 24) dX8_ahead_9 (by decide) (fun c2 => ?_) (fun c2 => ?_)
  · replace h := jite_t h c2
    refine j_iconst (pc := 24) dX8_ahead_24 jci_m1 ?_
    cases h
    exact j_iret (pc := 25) dX8_ahead_25 rfl rfl
  · replace h := jite_f h c2
    refine j_iload_n (pc := 12) 2 dX8_ahead_12 rfl rfl ?_
    refine j_i2l (pc := 13) dX8_ahead_13 ?_
    refine j_lconst (pc := 14) (v := (0 : Int64)) dX8_ahead_14 rfl ?_
    refine j_ldc2 (pc := 15) (v := (3 : Int64)) dX8_ahead_15 tw_1043 ?_
    obtain ⟨y3, hy3, h⟩ := jbnd h
    refine j_callS (pc := 18) (N := mX8_in) (As := [.long (x2.toInt64), .long (0 : Int64), .long (3 : Int64)]) (rest := []) (v := [.int y3.1]) (S1 := y3.2) dX8_ahead_18 (kX8_in hM hy3) (by simp) (by decide) okX8_in tw_846 tw_845 rfl rfl (by simp [Value.category]) ?_
    refine j_if_ne (pc := 21) (tgt := 26) dX8_ahead_21 (by decide) (fun c4 => ?_) (fun c4 => ?_)
    · replace h := jite_f h c4
      refine j_aload_n (pc := 26) 0 dX8_ahead_26 rfl rfl ?_
      obtain ⟨y5, hy5, h⟩ := jbnd h
      refine j_callV (pc := 27) (N := mX8_laysAside) (rr := (9, 0)) (As := []) (rest := []) (v := []) (S1 := y5) dX8_ahead_27 (kX8_laysAside hM hy5) (by simp) (by decide) okX8_laysAside tw_1084 tw_63 tw_1082 (hM (9, 0) rfl) rfl rfl rfl rfl (by simp [Value.category]) ?_
      refine j_aload_n (pc := 30) 0 dX8_ahead_30 rfl rfl ?_
      obtain ⟨y6, hy6, h⟩ := jbnd h
      refine j_callV (pc := 31) (N := mX8_laysFeeds) (rr := (9, 0)) (As := []) (rest := []) (v := []) (S1 := y6) dX8_ahead_31 (kX8_laysFeeds hM hy6) (by simp) (by decide) okX8_laysFeeds tw_982 tw_45 tw_980 (hM (9, 0) rfl) rfl rfl rfl rfl (by simp [Value.category]) ?_
      refine j_aload_n (pc := 34) 0 dX8_ahead_34 rfl rfl ?_
      obtain ⟨y7, hy7, h⟩ := jbnd h
      refine j_callV (pc := 35) (N := mX8_thereAll) (rr := (9, 0)) (As := []) (rest := []) (v := [.int y7.1]) (S1 := y7.2) dX8_ahead_35 (kX8_thereAll hM hy7) (by simp) (by decide) okX8_thereAll tw_986 tw_46 tw_984 (hM (9, 0) rfl) rfl rfl rfl rfl (by simp [Value.category]) ?_
      refine j_istore_n (pc := 38) (lv' := [(3, .int y7.1), (0, .ref (E.1 (9, 0))), (1, .int x1), (2, .int x2)]) dX8_ahead_38 rfl (by decide) rfl ?_
      refine j_aload_n (pc := 39) 1 dX8_ahead_39 rfl rfl ?_
      refine jg_9_0 (pc := 40) dX8_ahead_40 (hM (9, 0) rfl) tw_777 ?_
      refine j_bipush (pc := 43) dX8_ahead_43 jcb_76 ?_
      obtain ⟨c8, h⟩ := jchk h
      refine j_ia (pc := 45) dX8_ahead_45 rfl (hM (50, 0) rfl) c8 ?_
      obtain ⟨v9, ev9, h⟩ := jlk h
      refine j_topi ev9 ?_
      refine j_istore (pc := 46) (lv' := [(4, .int v9), (3, .int y7.1), (0, .ref (E.1 (9, 0))), (1, .int x1), (2, .int x2)]) dX8_ahead_46 (by decide) rfl ?_
      refine j_iconst (pc := 48) dX8_ahead_48 jci_0 ?_
      refine j_istore (pc := 49) (lv' := [(5, .int (0 : Int32)), (4, .int v9), (3, .int y7.1), (0, .ref (E.1 (9, 0))), (1, .int x1), (2, .int x2)]) dX8_ahead_49 (by decide) rfl ?_
      refine j_iconst (pc := 51) dX8_ahead_51 jci_0 ?_
      refine j_istore (pc := 52) (lv' := [(6, .int (0 : Int32)), (5, .int (0 : Int32)), (4, .int v9), (3, .int y7.1), (0, .ref (E.1 (9, 0))), (1, .int x1), (2, .int x2)]) dX8_ahead_52 (by decide) rfl ?_
      exact j_sub [4, 5, 6, 3, 2, 1, 0] rfl (kX8_ahead_54 hM 5000 h)
    · replace h := jite_t h c4
      refine j_iconst (pc := 24) dX8_ahead_24 jci_m1 ?_
      cases h
      exact j_iret (pc := 25) dX8_ahead_25 rfl rfl
abbrev mX8_without : jM := (yX8_without, cX8_without, 3, (some .int))
theorem okX8_without : jOK mX8_without 1 := ⟨by decide +kernel, tw_1101, tw_84, by decide +kernel, by decide, by decide⟩
def bX8_without_20  (q20 : jS → Int32 → Int32 → Option (Int32 × jS)) (S : jS) (x1 : Int32) (x2 : Int32) : Option (Int32 × jS) :=
  (if (20 : Int32) ≤ x2 then (fX8_packets S).bind fun y6 => (fX8_comesBack y6.2).bind fun y7 => some (y6.1, y7) else (fX8_goesOn S x1).bind fun y8 => jlet (x2 + (1 : Int32)) fun v9 => q20 y8 x1 v9)
set_option maxRecDepth 10000 in
set_option maxHeartbeats 4000000 in
theorem lX8_without_20 {E : jE} (hM : jHM E) {q20 : jS → Int32 → Int32 → Option (Int32 × jS)} (H20 : ∀ {S : jS} {x1 : Int32} {x2 : Int32} {r : (Int32 × jS)}, q20 S x1 x2 = some r → JR E 7 mX8_without 20 [(0, .ref (E.1 (9, 0))), (1, .int x1), (2, .int x2)] [] S [.int r.1] r.2) {S : jS} {x1 : Int32} {x2 : Int32} {r : (Int32 × jS)} (h : bX8_without_20  q20 S x1 x2 = some r) : JR E 7 mX8_without 20 [(0, .ref (E.1 (9, 0))), (1, .int x1), (2, .int x2)] [] S [.int r.1] r.2 := by
  unfold bX8_without_20 at h
  refine j_iload_n (pc := 20) 2 dX8_without_20 rfl rfl ?_
  refine j_bipush (pc := 21) dX8_without_21 jcb_20 ?_
  refine j_icmp_ge (pc := 23) (tgt := 37) dX8_without_23 (by decide) (fun c5 => ?_) (fun c5 => ?_)
  · replace h := jite_t h c5
    refine j_aload_n (pc := 37) 0 dX8_without_37 rfl rfl ?_
    obtain ⟨y6, hy6, h⟩ := jbnd h
    refine j_callV (pc := 38) (N := mX8_packets) (rr := (9, 0)) (As := []) (rest := []) (v := [.int y6.1]) (S1 := y6.2) dX8_without_38 (kX8_packets hM hy6) (by simp) (by decide) okX8_packets tw_1092 tw_65 tw_1090 (hM (9, 0) rfl) rfl rfl rfl rfl (by simp [Value.category]) ?_
    refine j_istore_n (pc := 41) (lv' := [(2, .int y6.1), (0, .ref (E.1 (9, 0))), (1, .int x1)]) dX8_without_41 rfl (by decide) rfl ?_
    refine j_aload_n (pc := 42) 1 dX8_without_42 rfl rfl ?_
    obtain ⟨y7, hy7, h⟩ := jbnd h
    refine j_callV (pc := 43) (N := mX8_comesBack) (rr := (9, 0)) (As := []) (rest := []) (v := []) (S1 := y7) dX8_without_43 (kX8_comesBack hM hy7) (by simp) (by decide) okX8_comesBack tw_1096 tw_66 tw_1094 (hM (9, 0) rfl) rfl rfl rfl rfl (by simp [Value.category]) ?_
    refine j_iload_n (pc := 46) 0 dX8_without_46 rfl rfl ?_
    cases h
    exact j_iret (pc := 47) dX8_without_47 rfl rfl
  · replace h := jite_f h c5
    refine j_aload_n (pc := 26) 0 dX8_without_26 rfl rfl ?_
    refine j_iload_n (pc := 27) 1 dX8_without_27 rfl rfl ?_
    obtain ⟨y8, hy8, h⟩ := jbnd h
    refine j_callV (pc := 28) (N := mX8_goesOn) (rr := (9, 0)) (As := [.int x1]) (rest := []) (v := []) (S1 := y8) dX8_without_28 (kX8_goesOn hM hy8) (by simp) (by decide) okX8_goesOn tw_990 tw_47 tw_988 (hM (9, 0) rfl) rfl rfl rfl rfl (by simp [Value.category]) ?_
    obtain ⟨v9, ev9, h⟩ := jlk h
    refine j_iinc (pc := 31) (v := v9) (lv' := [(2, .int v9), (0, .ref (E.1 (9, 0))), (1, .int x1)]) 2 dX8_without_31 rfl (by rw [ev9]; rfl) (by decide) rfl ?_
    refine j_goto (pc := 34) (tgt := 20) dX8_without_34 (by decide) ?_
    exact j_sub [1, 2, 0] rfl (H20 h)
def fX8_without_20  : Nat → jS → Int32 → Int32 → Option (Int32 × jS)
  | 0 => fun _ _ _ => none
  | n + 1 => bX8_without_20  (fX8_without_20  n)
theorem kX8_without_20 {E : jE} (hM : jHM E) (fu : Nat) : ∀ {S : jS} {x1 : Int32} {x2 : Int32} {r : (Int32 × jS)}, fX8_without_20  fu S x1 x2 = some r → JR E 7 mX8_without 20 [(0, .ref (E.1 (9, 0))), (1, .int x1), (2, .int x2)] [] S [.int r.1] r.2 := by
  induction fu with
  | zero => intro S x1 x2 r h; cases h
  | succ n_ ih => intro S x1 x2 r h; exact lX8_without_20 hM ih h
def fX8_without  (S : jS) (x1 : Int32) : Option (Int32 × jS) :=
  (fX8_isLink S x1).bind fun y1 => (if y1.1 = 0 then some ((-1 : Int32), y1.2) else (fX8_laysAside y1.2).bind fun y3 => (fX8_laysFeeds y3).bind fun y4 => fX8_without_20 5000 y4 x1 (0 : Int32))
set_option maxRecDepth 10000 in
set_option maxHeartbeats 4000000 in
theorem kX8_without {E : jE} (hM : jHM E) {S : jS} {x1 : Int32} {r : (Int32 × jS)} (h : fX8_without  S x1 = some r) : jMR E 7 mX8_without [.ref (E.1 (9, 0)), .int x1] S [.int r.1] r.2 := by
  refine ⟨Nat.le_of_ble_eq_true rfl, ?_⟩
  show JR E 7 mX8_without 0 [(0, .ref (E.1 (9, 0))), (1, .int x1)] [] S [.int r.1] r.2
  unfold fX8_without at h
  refine j_aload_n (pc := 0) 0 dX8_without_0 rfl rfl ?_
  refine j_iload_n (pc := 1) 1 dX8_without_1 rfl rfl ?_
  obtain ⟨y1, hy1, h⟩ := jbnd h
  refine j_callV (pc := 2) (N := mX8_isLink) (rr := (9, 0)) (As := [.int x1]) (rest := []) (v := [.int y1.1]) (S1 := y1.2) dX8_without_2 (kX8_isLink hM hy1) (by simp) (by decide) okX8_isLink tw_939 tw_41 tw_937 (hM (9, 0) rfl) rfl rfl rfl rfl (by simp [Value.category]) ?_
  refine j_if_ne (pc := 5) (tgt := 10) dX8_without_5 (by decide) (fun c2 => ?_) (fun c2 => ?_)
  · replace h := jite_f h c2
    refine j_aload_n (pc := 10) 0 dX8_without_10 rfl rfl ?_
    obtain ⟨y3, hy3, h⟩ := jbnd h
    refine j_callV (pc := 11) (N := mX8_laysAside) (rr := (9, 0)) (As := []) (rest := []) (v := []) (S1 := y3) dX8_without_11 (kX8_laysAside hM hy3) (by simp) (by decide) okX8_laysAside tw_1084 tw_63 tw_1082 (hM (9, 0) rfl) rfl rfl rfl rfl (by simp [Value.category]) ?_
    refine j_aload_n (pc := 14) 0 dX8_without_14 rfl rfl ?_
    obtain ⟨y4, hy4, h⟩ := jbnd h
    refine j_callV (pc := 15) (N := mX8_laysFeeds) (rr := (9, 0)) (As := []) (rest := []) (v := []) (S1 := y4) dX8_without_15 (kX8_laysFeeds hM hy4) (by simp) (by decide) okX8_laysFeeds tw_982 tw_45 tw_980 (hM (9, 0) rfl) rfl rfl rfl rfl (by simp [Value.category]) ?_
    refine j_iconst (pc := 18) dX8_without_18 jci_0 ?_
    refine j_istore_n (pc := 19) (lv' := [(2, .int (0 : Int32)), (0, .ref (E.1 (9, 0))), (1, .int x1)]) dX8_without_19 rfl (by decide) rfl ?_
    exact j_sub [1, 2, 0] rfl (kX8_without_20 hM 5000 h)
  · replace h := jite_t h c2
    refine j_iconst (pc := 8) dX8_without_8 jci_m1 ?_
    cases h
    exact j_iret (pc := 9) dX8_without_9 rfl rfl
abbrev mX8_worst : jM := (yX8_worst, cX8_worst, 6, (some .int))
theorem okX8_worst : jOK mX8_worst 1 := ⟨by decide +kernel, tw_1105, tw_84, by decide +kernel, by decide, by decide⟩
def bX8_worst_143  (q29 : jS → Int32 → Int32 → Int32 → Int32 → Option (Int32 × jS)) (q46 : jS → Int32 → Int32 → Int32 → Int32 → Int32 → Option (Int32 × jS)) (S : jS) (x1 : Int32) (x2 : Int32) (x3 : Int32) (x4 : Int32) (x5 : Int32) : Option (Int32 × jS) :=
  jlet (x5 + (1 : Int32)) fun v22 => q46 S x1 x2 x3 x4 v22
set_option maxRecDepth 10000 in
set_option maxHeartbeats 4000000 in
theorem lX8_worst_143 {E : jE} (hM : jHM E) {q29 : jS → Int32 → Int32 → Int32 → Int32 → Option (Int32 × jS)} (H29 : ∀ {S : jS} {x1 : Int32} {x2 : Int32} {x3 : Int32} {x4 : Int32} {r : (Int32 × jS)}, q29 S x1 x2 x3 x4 = some r → JR E 7 mX8_worst 29 [(0, .ref (E.1 (9, 0))), (1, .int x1), (2, .int x2), (3, .int x3), (4, .int x4)] [] S [.int r.1] r.2) {q46 : jS → Int32 → Int32 → Int32 → Int32 → Int32 → Option (Int32 × jS)} (H46 : ∀ {S : jS} {x1 : Int32} {x2 : Int32} {x3 : Int32} {x4 : Int32} {x5 : Int32} {r : (Int32 × jS)}, q46 S x1 x2 x3 x4 x5 = some r → JR E 7 mX8_worst 46 [(0, .ref (E.1 (9, 0))), (1, .int x1), (2, .int x2), (3, .int x3), (4, .int x4), (5, .int x5)] [] S [.int r.1] r.2) {S : jS} {x1 : Int32} {x2 : Int32} {x3 : Int32} {x4 : Int32} {x5 : Int32} {r : (Int32 × jS)} (h : bX8_worst_143  q29 q46 S x1 x2 x3 x4 x5 = some r) : JR E 7 mX8_worst 143 [(0, .ref (E.1 (9, 0))), (1, .int x1), (2, .int x2), (3, .int x3), (4, .int x4), (5, .int x5)] [] S [.int r.1] r.2 := by
  unfold bX8_worst_143 at h
  obtain ⟨v22, ev22, h⟩ := jlk h
  refine j_iinc (pc := 143) (v := v22) (lv' := [(5, .int v22), (0, .ref (E.1 (9, 0))), (1, .int x1), (2, .int x2), (3, .int x3), (4, .int x4)]) 5 dX8_worst_143 rfl (by rw [ev22]; rfl) (by decide) rfl ?_
  refine j_goto (pc := 146) (tgt := 46) dX8_worst_146 (by decide) ?_
  exact j_sub [1, 2, 3, 4, 5, 0] rfl (H46 h)
def bX8_worst_142  (q29 : jS → Int32 → Int32 → Int32 → Int32 → Option (Int32 × jS)) (q46 : jS → Int32 → Int32 → Int32 → Int32 → Int32 → Option (Int32 × jS)) (S : jS) (x1 : Int32) (x3 : Int32) (x4 : Int32) (x5 : Int32) (t0 : Int32) : Option (Int32 × jS) :=
  bX8_worst_143 q29 q46 S x1 t0 x3 x4 x5
set_option maxRecDepth 10000 in
set_option maxHeartbeats 4000000 in
theorem lX8_worst_142 {E : jE} (hM : jHM E) {q29 : jS → Int32 → Int32 → Int32 → Int32 → Option (Int32 × jS)} (H29 : ∀ {S : jS} {x1 : Int32} {x2 : Int32} {x3 : Int32} {x4 : Int32} {r : (Int32 × jS)}, q29 S x1 x2 x3 x4 = some r → JR E 7 mX8_worst 29 [(0, .ref (E.1 (9, 0))), (1, .int x1), (2, .int x2), (3, .int x3), (4, .int x4)] [] S [.int r.1] r.2) {q46 : jS → Int32 → Int32 → Int32 → Int32 → Int32 → Option (Int32 × jS)} (H46 : ∀ {S : jS} {x1 : Int32} {x2 : Int32} {x3 : Int32} {x4 : Int32} {x5 : Int32} {r : (Int32 × jS)}, q46 S x1 x2 x3 x4 x5 = some r → JR E 7 mX8_worst 46 [(0, .ref (E.1 (9, 0))), (1, .int x1), (2, .int x2), (3, .int x3), (4, .int x4), (5, .int x5)] [] S [.int r.1] r.2) {S : jS} {x1 : Int32} {x3 : Int32} {x4 : Int32} {x5 : Int32} {t0 : Int32} {r : (Int32 × jS)} (h : bX8_worst_142  q29 q46 S x1 x3 x4 x5 t0 = some r) : JR E 7 mX8_worst 142 [(0, .ref (E.1 (9, 0))), (1, .int x1), (3, .int x3), (4, .int x4), (5, .int x5)] [.int t0] S [.int r.1] r.2 := by
  unfold bX8_worst_142 at h
  refine j_istore_n (pc := 142) (lv' := [(2, .int t0), (0, .ref (E.1 (9, 0))), (1, .int x1), (3, .int x3), (4, .int x4), (5, .int x5)]) dX8_worst_142 rfl (by decide) rfl ?_
  exact j_sub [1, 2, 0, 3, 4, 5] rfl (lX8_worst_143 hM H29 H46 h)
def bX8_worst_125  (q29 : jS → Int32 → Int32 → Int32 → Int32 → Option (Int32 × jS)) (q46 : jS → Int32 → Int32 → Int32 → Int32 → Int32 → Option (Int32 × jS)) (S : jS) (x1 : Int32) (x2 : Int32) (x4 : Int32) (x5 : Int32) (t0 : Int32) : Option (Int32 × jS) :=
  (if (S.1 (16, 0)) ≤ x2 then bX8_worst_142 q29 q46 S x1 t0 x4 x5 x2 else bX8_worst_142 q29 q46 S x1 t0 x4 x5 (S.1 (16, 0)))
set_option maxRecDepth 10000 in
set_option maxHeartbeats 4000000 in
theorem lX8_worst_125 {E : jE} (hM : jHM E) {q29 : jS → Int32 → Int32 → Int32 → Int32 → Option (Int32 × jS)} (H29 : ∀ {S : jS} {x1 : Int32} {x2 : Int32} {x3 : Int32} {x4 : Int32} {r : (Int32 × jS)}, q29 S x1 x2 x3 x4 = some r → JR E 7 mX8_worst 29 [(0, .ref (E.1 (9, 0))), (1, .int x1), (2, .int x2), (3, .int x3), (4, .int x4)] [] S [.int r.1] r.2) {q46 : jS → Int32 → Int32 → Int32 → Int32 → Int32 → Option (Int32 × jS)} (H46 : ∀ {S : jS} {x1 : Int32} {x2 : Int32} {x3 : Int32} {x4 : Int32} {x5 : Int32} {r : (Int32 × jS)}, q46 S x1 x2 x3 x4 x5 = some r → JR E 7 mX8_worst 46 [(0, .ref (E.1 (9, 0))), (1, .int x1), (2, .int x2), (3, .int x3), (4, .int x4), (5, .int x5)] [] S [.int r.1] r.2) {S : jS} {x1 : Int32} {x2 : Int32} {x4 : Int32} {x5 : Int32} {t0 : Int32} {r : (Int32 × jS)} (h : bX8_worst_125  q29 q46 S x1 x2 x4 x5 t0 = some r) : JR E 7 mX8_worst 125 [(0, .ref (E.1 (9, 0))), (1, .int x1), (2, .int x2), (4, .int x4), (5, .int x5)] [.int t0] S [.int r.1] r.2 := by
  unfold bX8_worst_125 at h
  refine j_istore_n (pc := 125) (lv' := [(3, .int t0), (0, .ref (E.1 (9, 0))), (1, .int x1), (2, .int x2), (4, .int x4), (5, .int x5)]) dX8_worst_125 rfl (by decide) rfl ?_
  refine j_aload_n (pc := 126) 1 dX8_worst_126 rfl rfl ?_
  refine jg_9_15 (pc := 127) dX8_worst_127 (hM (9, 0) rfl) tw_792 ?_
  refine j_iload_n (pc := 130) 3 dX8_worst_130 rfl rfl ?_
  refine j_icmp_le (pc := 131) (tgt := 141) dX8_worst_131 (by decide) (fun c21 => ?_) (fun c21 => ?_)
  · replace h := jite_t h c21
    refine j_iload_n (pc := 141) 3 dX8_worst_141 rfl rfl ?_
    exact j_sub [1, 2, 0, 4, 5] rfl (lX8_worst_142 hM H29 H46 h)
  · replace h := jite_f h c21
    refine j_aload_n (pc := 134) 1 dX8_worst_134 rfl rfl ?_
    refine jg_9_15 (pc := 135) dX8_worst_135 (hM (9, 0) rfl) tw_792 ?_
    refine j_goto (pc := 138) (tgt := 142) dX8_worst_138 (by decide) ?_
    exact j_sub [1, 2, 0, 4, 5] rfl (lX8_worst_142 hM H29 H46 h)
def bX8_worst_46  (q29 : jS → Int32 → Int32 → Int32 → Int32 → Option (Int32 × jS)) (q46 : jS → Int32 → Int32 → Int32 → Int32 → Int32 → Option (Int32 × jS)) (S : jS) (x1 : Int32) (x2 : Int32) (x3 : Int32) (x4 : Int32) (x5 : Int32) : Option (Int32 × jS) :=
  if jIn (5 : Int32) 815 then (if (S.2 (50, 0) (5 : Int32).toNatClampNeg) ≤ x5 then jlet (x4 + (1 : Int32)) fun v13 => q29 S x1 x2 x3 v13 else if jIn ((36 : Int32) + x4) 815 then (fX8_has S (S.2 (50, 0) ((36 : Int32) + x4).toNatClampNeg) x5).bind fun y15 => (if y15.1 = 0 then bX8_worst_143 q29 q46 (y15.2) x1 x2 x3 x4 x5 else (fX8_clashes (50, 0) y15.2 x4 x5 (0 : Int32)).bind fun y17 => (fX8_findsGoing y17 (-4 : Int32)).bind fun y18 => (fX8_clashes (50, 0) y18 x4 x5 (1 : Int32)).bind fun y19 => (if (y19.1 (16, 0)) ≤ x2 then bX8_worst_125 q29 q46 y19 x1 x2 x4 x5 x3 else bX8_worst_125 q29 q46 y19 x1 x2 x4 x5 (((16 : Int32) * x4) + x5))) else none) else none
set_option maxRecDepth 10000 in
set_option maxHeartbeats 4000000 in
theorem lX8_worst_46 {E : jE} (hM : jHM E) {q29 : jS → Int32 → Int32 → Int32 → Int32 → Option (Int32 × jS)} (H29 : ∀ {S : jS} {x1 : Int32} {x2 : Int32} {x3 : Int32} {x4 : Int32} {r : (Int32 × jS)}, q29 S x1 x2 x3 x4 = some r → JR E 7 mX8_worst 29 [(0, .ref (E.1 (9, 0))), (1, .int x1), (2, .int x2), (3, .int x3), (4, .int x4)] [] S [.int r.1] r.2) {q46 : jS → Int32 → Int32 → Int32 → Int32 → Int32 → Option (Int32 × jS)} (H46 : ∀ {S : jS} {x1 : Int32} {x2 : Int32} {x3 : Int32} {x4 : Int32} {x5 : Int32} {r : (Int32 × jS)}, q46 S x1 x2 x3 x4 x5 = some r → JR E 7 mX8_worst 46 [(0, .ref (E.1 (9, 0))), (1, .int x1), (2, .int x2), (3, .int x3), (4, .int x4), (5, .int x5)] [] S [.int r.1] r.2) {S : jS} {x1 : Int32} {x2 : Int32} {x3 : Int32} {x4 : Int32} {x5 : Int32} {r : (Int32 × jS)} (h : bX8_worst_46  q29 q46 S x1 x2 x3 x4 x5 = some r) : JR E 7 mX8_worst 46 [(0, .ref (E.1 (9, 0))), (1, .int x1), (2, .int x2), (3, .int x3), (4, .int x4), (5, .int x5)] [] S [.int r.1] r.2 := by
  unfold bX8_worst_46 at h
  refine j_iload (pc := 46) 5 dX8_worst_46 rfl ?_
  refine j_aload_n (pc := 48) 0 dX8_worst_48 rfl rfl ?_
  refine jg_9_0 (pc := 49) dX8_worst_49 (hM (9, 0) rfl) tw_777 ?_
  refine j_iconst (pc := 52) dX8_worst_52 jci_5 ?_
  obtain ⟨c11, h⟩ := jchk h
  refine j_ia (pc := 53) dX8_worst_53 rfl (hM (50, 0) rfl) c11 ?_
  refine j_icmp_ge (pc := 54) (tgt := 149) dX8_worst_54 (by decide) (fun c12 => ?_) (fun c12 => ?_)
  · replace h := jite_t h c12
    obtain ⟨v13, ev13, h⟩ := jlk h
    refine j_iinc (pc := 149) (v := v13) (lv' := [(4, .int v13), (0, .ref (E.1 (9, 0))), (1, .int x1), (2, .int x2), (3, .int x3), (5, .int x5)]) 4 dX8_worst_149 rfl (by rw [ev13]; rfl) (by decide) rfl ?_
    refine j_goto (pc := 152) (tgt := 29) dX8_worst_152 (by decide) ?_
    exact j_sub [1, 2, 3, 4, 0] rfl (H29 h)
  · replace h := jite_f h c12
    refine j_aload_n (pc := 57) 0 dX8_worst_57 rfl rfl ?_
    refine jg_9_0 (pc := 58) dX8_worst_58 (hM (9, 0) rfl) tw_777 ?_
    refine j_bipush (pc := 61) dX8_worst_61 jcb_36 ?_
    refine j_iload (pc := 63) 4 dX8_worst_63 rfl ?_
    refine j_iadd (pc := 65) dX8_worst_65 ?_
    obtain ⟨c14, h⟩ := jchk h
    refine j_ia (pc := 66) dX8_worst_66 rfl (hM (50, 0) rfl) c14 ?_
    refine j_iload (pc := 67) 5 dX8_worst_67 rfl ?_
    obtain ⟨y15, hy15, h⟩ := jbnd h
    refine j_callS (pc := 69) (N := mX8_has) (As := [.int (S.2 (50, 0) ((36 : Int32) + x4).toNatClampNeg), .int x5]) (rest := []) (v := [.int y15.1]) (S1 := y15.2) dX8_worst_69 (kX8_has hM hy15) (by simp) (by decide) okX8_has tw_950 tw_949 rfl rfl (by simp [Value.category]) ?_
    refine j_if_eq (pc := 72) (tgt := 143) dX8_worst_72 (by decide) (fun c16 => ?_) (fun c16 => ?_)
    · replace h := jite_t h c16
      exact j_sub [0, 1, 2, 3, 4, 5] rfl (lX8_worst_143 hM H29 H46 h)
    · replace h := jite_f h c16
      refine j_aload_n (pc := 75) 0 dX8_worst_75 rfl rfl ?_
      refine jg_9_0 (pc := 76) dX8_worst_76 (hM (9, 0) rfl) tw_777 ?_
      refine j_iload (pc := 79) 4 dX8_worst_79 rfl ?_
      refine j_iload (pc := 81) 5 dX8_worst_81 rfl ?_
      refine j_iconst (pc := 83) dX8_worst_83 jci_0 ?_
      obtain ⟨y17, hy17, h⟩ := jbnd h
      refine j_callS (pc := 84) (N := mX8_clashes) (As := [.ref (E.1 (50, 0)), .int x4, .int x5, .int (0 : Int32)]) (rest := []) (v := []) (S1 := y17) dX8_worst_84 (kX8_clashes hM ⟨rfl, (hM (50, 0) rfl)⟩ hy17) (by simp) (by decide) okX8_clashes tw_771 tw_770 rfl rfl (by simp [Value.category]) ?_
      refine j_aload_n (pc := 87) 0 dX8_worst_87 rfl rfl ?_
      refine j_bipush (pc := 88) dX8_worst_88 jcb_m4 ?_
      obtain ⟨y18, hy18, h⟩ := jbnd h
      refine j_callV (pc := 90) (N := mX8_findsGoing) (rr := (9, 0)) (As := [.int (-4 : Int32)]) (rest := []) (v := []) (S1 := y18) dX8_worst_90 (kX8_findsGoing hM hy18) (by simp) (by decide) okX8_findsGoing tw_1022 tw_55 tw_1020 (hM (9, 0) rfl) rfl rfl rfl rfl (by simp [Value.category]) ?_
      refine j_aload_n (pc := 93) 0 dX8_worst_93 rfl rfl ?_
      refine jg_9_0 (pc := 94) dX8_worst_94 (hM (9, 0) rfl) tw_777 ?_
      refine j_iload (pc := 97) 4 dX8_worst_97 rfl ?_
      refine j_iload (pc := 99) 5 dX8_worst_99 rfl ?_
      refine j_iconst (pc := 101) dX8_worst_101 jci_1 ?_
      obtain ⟨y19, hy19, h⟩ := jbnd h
      refine j_callS (pc := 102) (N := mX8_clashes) (As := [.ref (E.1 (50, 0)), .int x4, .int x5, .int (1 : Int32)]) (rest := []) (v := []) (S1 := y19) dX8_worst_102 (kX8_clashes hM ⟨rfl, (hM (50, 0) rfl)⟩ hy19) (by simp) (by decide) okX8_clashes tw_771 tw_770 rfl rfl (by simp [Value.category]) ?_
      refine j_aload_n (pc := 105) 0 dX8_worst_105 rfl rfl ?_
      refine jg_9_15 (pc := 106) dX8_worst_106 (hM (9, 0) rfl) tw_792 ?_
      refine j_iload_n (pc := 109) 2 dX8_worst_109 rfl rfl ?_
      refine j_icmp_le (pc := 110) (tgt := 124) dX8_worst_110 (by decide) (fun c20 => ?_) (fun c20 => ?_)
      · replace h := jite_t h c20
        refine j_iload_n (pc := 124) 3 dX8_worst_124 rfl rfl ?_
        exact j_sub [0, 1, 2, 4, 5] rfl (lX8_worst_125 hM H29 H46 h)
      · replace h := jite_f h c20
        refine j_bipush (pc := 113) dX8_worst_113 jcb_16 ?_
        refine j_iload (pc := 115) 4 dX8_worst_115 rfl ?_
        refine j_imul (pc := 117) dX8_worst_117 ?_
        refine j_iload (pc := 118) 5 dX8_worst_118 rfl ?_
        refine j_iadd (pc := 120) dX8_worst_120 ?_
        refine j_goto (pc := 121) (tgt := 125) dX8_worst_121 (by decide) ?_
        exact j_sub [0, 1, 2, 4, 5] rfl (lX8_worst_125 hM H29 H46 h)
def fX8_worst_46  (q29 : jS → Int32 → Int32 → Int32 → Int32 → Option (Int32 × jS)) : Nat → jS → Int32 → Int32 → Int32 → Int32 → Int32 → Option (Int32 × jS)
  | 0 => fun _ _ _ _ _ _ => none
  | n + 1 => bX8_worst_46  q29 (fX8_worst_46  q29 n)
theorem kX8_worst_46 {E : jE} (hM : jHM E) {q29 : jS → Int32 → Int32 → Int32 → Int32 → Option (Int32 × jS)} (H29 : ∀ {S : jS} {x1 : Int32} {x2 : Int32} {x3 : Int32} {x4 : Int32} {r : (Int32 × jS)}, q29 S x1 x2 x3 x4 = some r → JR E 7 mX8_worst 29 [(0, .ref (E.1 (9, 0))), (1, .int x1), (2, .int x2), (3, .int x3), (4, .int x4)] [] S [.int r.1] r.2) (fu : Nat) : ∀ {S : jS} {x1 : Int32} {x2 : Int32} {x3 : Int32} {x4 : Int32} {x5 : Int32} {r : (Int32 × jS)}, fX8_worst_46  q29 fu S x1 x2 x3 x4 x5 = some r → JR E 7 mX8_worst 46 [(0, .ref (E.1 (9, 0))), (1, .int x1), (2, .int x2), (3, .int x3), (4, .int x4), (5, .int x5)] [] S [.int r.1] r.2 := by
  induction fu with
  | zero => intro S x1 x2 x3 x4 x5 r h; cases h
  | succ n_ ih => intro S x1 x2 x3 x4 x5 r h; exact lX8_worst_46 hM H29 ih h
def bX8_worst_29  (q29 : jS → Int32 → Int32 → Int32 → Int32 → Option (Int32 × jS)) (S : jS) (x1 : Int32) (x2 : Int32) (x3 : Int32) (x4 : Int32) : Option (Int32 × jS) :=
  if jIn (5 : Int32) 815 then (if (S.2 (50, 0) (5 : Int32).toNatClampNeg) ≤ x4 then (if x3 = (-4 : Int32) then some ((-4 : Int32), S) else (if x1 = 0 then some (x3 / (16 : Int32), S) else (if x1 = (1 : Int32) then some (x3 - x3 / (16 : Int32) * (16 : Int32), S) else some (x2, S)))) else jlet (x4 + (1 : Int32)) fun v10 => fX8_worst_46 q29 5000 S x1 x2 x3 x4 v10) else none
set_option maxRecDepth 10000 in
set_option maxHeartbeats 4000000 in
theorem lX8_worst_29 {E : jE} (hM : jHM E) {q29 : jS → Int32 → Int32 → Int32 → Int32 → Option (Int32 × jS)} (H29 : ∀ {S : jS} {x1 : Int32} {x2 : Int32} {x3 : Int32} {x4 : Int32} {r : (Int32 × jS)}, q29 S x1 x2 x3 x4 = some r → JR E 7 mX8_worst 29 [(0, .ref (E.1 (9, 0))), (1, .int x1), (2, .int x2), (3, .int x3), (4, .int x4)] [] S [.int r.1] r.2) {S : jS} {x1 : Int32} {x2 : Int32} {x3 : Int32} {x4 : Int32} {r : (Int32 × jS)} (h : bX8_worst_29  q29 S x1 x2 x3 x4 = some r) : JR E 7 mX8_worst 29 [(0, .ref (E.1 (9, 0))), (1, .int x1), (2, .int x2), (3, .int x3), (4, .int x4)] [] S [.int r.1] r.2 := by
  unfold bX8_worst_29 at h
  refine j_iload (pc := 29) 4 dX8_worst_29 rfl ?_
  refine j_aload_n (pc := 31) 0 dX8_worst_31 rfl rfl ?_
  refine jg_9_0 (pc := 32) dX8_worst_32 (hM (9, 0) rfl) tw_777 ?_
  refine j_iconst (pc := 35) dX8_worst_35 jci_5 ?_
  obtain ⟨c5, h⟩ := jchk h
  refine j_ia (pc := 36) dX8_worst_36 rfl (hM (50, 0) rfl) c5 ?_
  refine j_icmp_ge (pc := 37) (tgt := 155) dX8_worst_37 (by decide) (fun c6 => ?_) (fun c6 => ?_)
  · replace h := jite_t h c6
    refine j_iload_n (pc := 155) 3 dX8_worst_155 rfl rfl ?_
    refine j_bipush (pc := 156) dX8_worst_156 jcb_m4 ?_
    refine j_icmp_ne (pc := 158) (tgt := 164) dX8_worst_158 (by decide) (fun c7 => ?_) (fun c7 => ?_)
    · replace h := jite_f h c7
      refine j_iload_n (pc := 164) 1 dX8_worst_164 rfl rfl ?_
      refine j_if_ne (pc := 165) (tgt := 175) dX8_worst_165 (by decide) (fun c8 => ?_) (fun c8 => ?_)
      · replace h := jite_f h c8
        refine j_iload_n (pc := 175) 1 dX8_worst_175 rfl rfl ?_
        refine j_iconst (pc := 176) dX8_worst_176 jci_1 ?_
        refine j_icmp_ne (pc := 177) (tgt := 187) dX8_worst_177 (by decide) (fun c9 => ?_) (fun c9 => ?_)
        · replace h := jite_f h c9
          refine j_iload_n (pc := 187) 2 dX8_worst_187 rfl rfl ?_
          cases h
          exact j_iret (pc := 188) dX8_worst_188 rfl rfl
        · replace h := jite_t h c9
          refine j_iload_n (pc := 180) 3 dX8_worst_180 rfl rfl ?_
          refine j_bipush (pc := 181) dX8_worst_181 jcb_16 ?_
          refine j_irem (pc := 183) dX8_worst_183 (by decide) ?_
          refine j_goto (pc := 184) (tgt := 188) dX8_worst_184 (by decide) ?_
          cases h
          exact j_iret (pc := 188) dX8_worst_188 rfl rfl
      · replace h := jite_t h c8
        refine j_iload_n (pc := 168) 3 dX8_worst_168 rfl rfl ?_
        refine j_bipush (pc := 169) dX8_worst_169 jcb_16 ?_
        refine j_idiv (pc := 171) dX8_worst_171 (by decide) ?_
        refine j_goto (pc := 172) (tgt := 188) dX8_worst_172 (by decide) ?_
        cases h
        exact j_iret (pc := 188) dX8_worst_188 rfl rfl
    · replace h := jite_t h c7
      refine j_bipush (pc := 161) dX8_worst_161 jcb_m4 ?_
      cases h
      exact j_iret (pc := 163) dX8_worst_163 rfl rfl
  · replace h := jite_f h c6
    refine j_iload (pc := 40) 4 dX8_worst_40 rfl ?_
    refine j_iconst (pc := 42) dX8_worst_42 jci_1 ?_
    refine j_iadd (pc := 43) dX8_worst_43 ?_
    obtain ⟨v10, ev10, h⟩ := jlk h
    refine j_topi ev10 ?_
    refine j_istore (pc := 44) (lv' := [(5, .int v10), (0, .ref (E.1 (9, 0))), (1, .int x1), (2, .int x2), (3, .int x3), (4, .int x4)]) dX8_worst_44 (by decide) rfl ?_
    exact j_sub [1, 2, 3, 4, 5, 0] rfl (kX8_worst_46 hM H29 5000 h)
def fX8_worst_29  : Nat → jS → Int32 → Int32 → Int32 → Int32 → Option (Int32 × jS)
  | 0 => fun _ _ _ _ _ => none
  | n + 1 => bX8_worst_29  (fX8_worst_29  n)
theorem kX8_worst_29 {E : jE} (hM : jHM E) (fu : Nat) : ∀ {S : jS} {x1 : Int32} {x2 : Int32} {x3 : Int32} {x4 : Int32} {r : (Int32 × jS)}, fX8_worst_29  fu S x1 x2 x3 x4 = some r → JR E 7 mX8_worst 29 [(0, .ref (E.1 (9, 0))), (1, .int x1), (2, .int x2), (3, .int x3), (4, .int x4)] [] S [.int r.1] r.2 := by
  induction fu with
  | zero => intro S x1 x2 x3 x4 r h; cases h
  | succ n_ ih => intro S x1 x2 x3 x4 r h; exact lX8_worst_29 hM ih h
def fX8_worst  (S : jS) (x1 : Int32) : Option (Int32 × jS) :=
  (fX8_in S (x1.toInt64) (0 : Int64) (2 : Int64)).bind fun y1 => (if y1.1 = 0 then some ((-1 : Int32), y1.2) else (fX8_findsAll y1.2).bind fun y3 => jlet (y3.1 (16, 0)) fun v4 => fX8_worst_29 5000 y3 x1 v4 (-4 : Int32) (0 : Int32))
set_option maxRecDepth 10000 in
set_option maxHeartbeats 4000000 in
theorem kX8_worst {E : jE} (hM : jHM E) {S : jS} {x1 : Int32} {r : (Int32 × jS)} (h : fX8_worst  S x1 = some r) : jMR E 7 mX8_worst [.ref (E.1 (9, 0)), .int x1] S [.int r.1] r.2 := by
  refine ⟨Nat.le_of_ble_eq_true rfl, ?_⟩
  show JR E 7 mX8_worst 0 [(0, .ref (E.1 (9, 0))), (1, .int x1)] [] S [.int r.1] r.2
  unfold fX8_worst at h
  refine j_iload_n (pc := 0) 1 dX8_worst_0 rfl rfl ?_
  refine j_i2l (pc := 1) dX8_worst_1 ?_
  refine j_lconst (pc := 2) (v := (0 : Int64)) dX8_worst_2 rfl ?_
  refine j_ldc2 (pc := 3) (v := (2 : Int64)) dX8_worst_3 tw_1106 ?_
  obtain ⟨y1, hy1, h⟩ := jbnd h
  refine j_callS (pc := 6) (N := mX8_in) (As := [.long (x1.toInt64), .long (0 : Int64), .long (2 : Int64)]) (rest := []) (v := [.int y1.1]) (S1 := y1.2) dX8_worst_6 (kX8_in hM hy1) (by simp) (by decide) okX8_in tw_846 tw_845 rfl rfl (by simp [Value.category]) ?_
  refine j_if_ne (pc := 9) (tgt := 14) dX8_worst_9 (by decide) (fun c2 => ?_) (fun c2 => ?_)
  · replace h := jite_f h c2
    refine j_aload_n (pc := 14) 0 dX8_worst_14 rfl rfl ?_
    obtain ⟨y3, hy3, h⟩ := jbnd h
    refine j_callV (pc := 15) (N := mX8_findsAll) (rr := (9, 0)) (As := []) (rest := []) (v := []) (S1 := y3) dX8_worst_15 (kX8_findsAll hM hy3) (by simp) (by decide) okX8_findsAll tw_1059 tw_61 tw_1057 (hM (9, 0) rfl) rfl rfl rfl rfl (by simp [Value.category]) ?_
    refine j_aload_n (pc := 18) 0 dX8_worst_18 rfl rfl ?_
    refine jg_9_15 (pc := 19) dX8_worst_19 (hM (9, 0) rfl) tw_792 ?_
    obtain ⟨v4, ev4, h⟩ := jlk h
    refine j_topi ev4 ?_
    refine j_istore_n (pc := 22) (lv' := [(2, .int v4), (0, .ref (E.1 (9, 0))), (1, .int x1)]) dX8_worst_22 rfl (by decide) rfl ?_
    refine j_bipush (pc := 23) dX8_worst_23 jcb_m4 ?_
    refine j_istore_n (pc := 25) (lv' := [(3, .int (-4 : Int32)), (2, .int v4), (0, .ref (E.1 (9, 0))), (1, .int x1)]) dX8_worst_25 rfl (by decide) rfl ?_
    refine j_iconst (pc := 26) dX8_worst_26 jci_0 ?_
    refine j_istore (pc := 27) (lv' := [(4, .int (0 : Int32)), (3, .int (-4 : Int32)), (2, .int v4), (0, .ref (E.1 (9, 0))), (1, .int x1)]) dX8_worst_27 (by decide) rfl ?_
    exact j_sub [3, 4, 2, 1, 0] rfl (kX8_worst_29 hM 5000 h)
  · replace h := jite_t h c2
    refine j_iconst (pc := 12) dX8_worst_12 jci_m1 ?_
    cases h
    exact j_iret (pc := 13) dX8_worst_13 rfl rfl
abbrev mX8_drawn : jM := (yX8_drawn, cX8_drawn, 7, (some .int))
theorem okX8_drawn : jOK mX8_drawn 3 := ⟨by decide +kernel, tw_1110, tw_84, by decide +kernel, by decide, by decide⟩
def bX8_drawn_121  (S : jS) (t0 : Int32) : Option (Int32 × jS) :=
  (fX8_comesBack S).bind fun y20 => some (t0, y20)
set_option maxRecDepth 10000 in
set_option maxHeartbeats 4000000 in
theorem lX8_drawn_121 {E : jE} (hM : jHM E) {S : jS} {t0 : Int32} {r : (Int32 × jS)} (h : bX8_drawn_121  S t0 = some r) : JR E 7 mX8_drawn 121 [(0, .ref (E.1 (9, 0)))] [.int t0] S [.int r.1] r.2 := by
  unfold bX8_drawn_121 at h
  refine j_istore (pc := 121) (lv' := [(6, .int t0), (0, .ref (E.1 (9, 0)))]) dX8_drawn_121 (by decide) rfl ?_
  refine j_aload_n (pc := 123) 1 dX8_drawn_123 rfl rfl ?_
  obtain ⟨y20, hy20, h⟩ := jbnd h
  refine j_callV (pc := 124) (N := mX8_comesBack) (rr := (9, 0)) (As := []) (rest := []) (v := []) (S1 := y20) dX8_drawn_124 (kX8_comesBack hM hy20) (by simp) (by decide) okX8_comesBack tw_1096 tw_66 tw_1094 (hM (9, 0) rfl) rfl rfl rfl rfl (by simp [Value.category]) ?_
  refine j_iload (pc := 127) 0 dX8_drawn_127 rfl ?_
  cases h
  exact j_iret (pc := 129) dX8_drawn_129 rfl rfl
def bX8_drawn_60  (q60 : jS → Int32 → Int32 → Int32 → Int32 → Int32 → Int32 → Option (Int32 × jS)) (S : jS) (x1 : Int32) (x2 : Int32) (x3 : Int32) (x4 : Int32) (x5 : Int32) (x6 : Int32) : Option (Int32 × jS) :=
  (if x2 ≤ x6 then (if x3 = 0 then (fX8_packets S).bind fun y16 => bX8_drawn_121 (y16.2) y16.1 else (if x3 = (1 : Int32) then (fX8_thereAll S).bind fun y15 => bX8_drawn_121 (y15.2) (y15.1 - x4) else if jIn (76 : Int32) 815 then bX8_drawn_121 S ((S.2 (50, 0) (76 : Int32).toNatClampNeg) - x5) else none)) else (fX8_drawsFeeds S x1 x6).bind fun y17 => (fX8_goesOn y17 (-4 : Int32)).bind fun y18 => jlet (x6 + (1 : Int32)) fun v19 => q60 y18 x1 x2 x3 x4 x5 v19)
set_option maxRecDepth 10000 in
set_option maxHeartbeats 4000000 in
theorem lX8_drawn_60 {E : jE} (hM : jHM E) {q60 : jS → Int32 → Int32 → Int32 → Int32 → Int32 → Int32 → Option (Int32 × jS)} (H60 : ∀ {S : jS} {x1 : Int32} {x2 : Int32} {x3 : Int32} {x4 : Int32} {x5 : Int32} {x6 : Int32} {r : (Int32 × jS)}, q60 S x1 x2 x3 x4 x5 x6 = some r → JR E 7 mX8_drawn 60 [(0, .ref (E.1 (9, 0))), (1, .int x1), (2, .int x2), (3, .int x3), (4, .int x4), (5, .int x5), (6, .int x6)] [] S [.int r.1] r.2) {S : jS} {x1 : Int32} {x2 : Int32} {x3 : Int32} {x4 : Int32} {x5 : Int32} {x6 : Int32} {r : (Int32 × jS)} (h : bX8_drawn_60  q60 S x1 x2 x3 x4 x5 x6 = some r) : JR E 7 mX8_drawn 60 [(0, .ref (E.1 (9, 0))), (1, .int x1), (2, .int x2), (3, .int x3), (4, .int x4), (5, .int x5), (6, .int x6)] [] S [.int r.1] r.2 := by
  unfold bX8_drawn_60 at h
  refine j_iload (pc := 60) 6 dX8_drawn_60 rfl ?_
  refine j_iload_n (pc := 62) 2 dX8_drawn_62 rfl rfl ?_
  refine j_icmp_ge (pc := 63) (tgt := 85) dX8_drawn_63 (by decide) (fun c11 => ?_) (fun c11 => ?_)
  · replace h := jite_t h c11
    refine j_iload_n (pc := 85) 3 dX8_drawn_85 rfl rfl ?_
    refine j_if_ne (pc := 86) (tgt := 96) dX8_drawn_86 (by decide) (fun c12 => ?_) (fun c12 => ?_)
    · replace h := jite_f h c12
      refine j_iload_n (pc := 96) 3 dX8_drawn_96 rfl rfl ?_
      refine j_iconst (pc := 97) dX8_drawn_97 jci_1 ?_
      refine j_icmp_ne (pc := 98) (tgt := 111) dX8_drawn_98 (by decide) (fun c13 => ?_) (fun c13 => ?_)
      · replace h := jite_f h c13
        refine j_aload_n (pc := 111) 0 dX8_drawn_111 rfl rfl ?_
        refine jg_9_0 (pc := 112) dX8_drawn_112 (hM (9, 0) rfl) tw_777 ?_
        refine j_bipush (pc := 115) dX8_drawn_115 jcb_76 ?_
        obtain ⟨c14, h⟩ := jchk h
        refine j_ia (pc := 117) dX8_drawn_117 rfl (hM (50, 0) rfl) c14 ?_
        refine j_iload (pc := 118) 5 dX8_drawn_118 rfl ?_
        refine j_isub (pc := 120) dX8_drawn_120 ?_
        exact j_sub [0] rfl (lX8_drawn_121 hM h)
      · replace h := jite_t h c13
        refine j_aload_n (pc := 101) 0 dX8_drawn_101 rfl rfl ?_
        obtain ⟨y15, hy15, h⟩ := jbnd h
        refine j_callV (pc := 102) (N := mX8_thereAll) (rr := (9, 0)) (As := []) (rest := []) (v := [.int y15.1]) (S1 := y15.2) dX8_drawn_102 (kX8_thereAll hM hy15) (by simp) (by decide) okX8_thereAll tw_986 tw_46 tw_984 (hM (9, 0) rfl) rfl rfl rfl rfl (by simp [Value.category]) ?_
        refine j_iload (pc := 105) 4 dX8_drawn_105 rfl ?_
        refine j_isub (pc := 107) dX8_drawn_107 ?_
        refine j_goto (pc := 108) (tgt := 121) dX8_drawn_108 (by decide) ?_
        exact j_sub [0] rfl (lX8_drawn_121 hM h)
    · replace h := jite_t h c12
      refine j_aload_n (pc := 89) 0 dX8_drawn_89 rfl rfl ?_
      obtain ⟨y16, hy16, h⟩ := jbnd h
      refine j_callV (pc := 90) (N := mX8_packets) (rr := (9, 0)) (As := []) (rest := []) (v := [.int y16.1]) (S1 := y16.2) dX8_drawn_90 (kX8_packets hM hy16) (by simp) (by decide) okX8_packets tw_1092 tw_65 tw_1090 (hM (9, 0) rfl) rfl rfl rfl rfl (by simp [Value.category]) ?_
      refine j_goto (pc := 93) (tgt := 121) dX8_drawn_93 (by decide) ?_
      exact j_sub [0] rfl (lX8_drawn_121 hM h)
  · replace h := jite_f h c11
    refine j_aload_n (pc := 66) 0 dX8_drawn_66 rfl rfl ?_
    refine j_iload_n (pc := 67) 1 dX8_drawn_67 rfl rfl ?_
    refine j_iload (pc := 68) 6 dX8_drawn_68 rfl ?_
    obtain ⟨y17, hy17, h⟩ := jbnd h
    refine j_callV (pc := 70) (N := mX8_drawsFeeds) (rr := (9, 0)) (As := [.int x1, .int x6]) (rest := []) (v := []) (S1 := y17) dX8_drawn_70 (kX8_drawsFeeds hM hy17) (by simp) (by decide) okX8_drawsFeeds tw_1114 tw_67 tw_1112 (hM (9, 0) rfl) rfl rfl rfl rfl (by simp [Value.category]) ?_
    refine j_aload_n (pc := 73) 0 dX8_drawn_73 rfl rfl ?_
    refine j_bipush (pc := 74) dX8_drawn_74 jcb_m4 ?_
    obtain ⟨y18, hy18, h⟩ := jbnd h
    refine j_callV (pc := 76) (N := mX8_goesOn) (rr := (9, 0)) (As := [.int (-4 : Int32)]) (rest := []) (v := []) (S1 := y18) dX8_drawn_76 (kX8_goesOn hM hy18) (by simp) (by decide) okX8_goesOn tw_990 tw_47 tw_988 (hM (9, 0) rfl) rfl rfl rfl rfl (by simp [Value.category]) ?_
    obtain ⟨v19, ev19, h⟩ := jlk h
    refine j_iinc (pc := 79) (v := v19) (lv' := [(6, .int v19), (0, .ref (E.1 (9, 0))), (1, .int x1), (2, .int x2), (3, .int x3), (4, .int x4), (5, .int x5)]) 6 dX8_drawn_79 rfl (by rw [ev19]; rfl) (by decide) rfl ?_
    refine j_goto (pc := 82) (tgt := 60) dX8_drawn_82 (by decide) ?_
    exact j_sub [1, 2, 3, 4, 5, 6, 0] rfl (H60 h)
def fX8_drawn_60  : Nat → jS → Int32 → Int32 → Int32 → Int32 → Int32 → Int32 → Option (Int32 × jS)
  | 0 => fun _ _ _ _ _ _ _ => none
  | n + 1 => bX8_drawn_60  (fX8_drawn_60  n)
theorem kX8_drawn_60 {E : jE} (hM : jHM E) (fu : Nat) : ∀ {S : jS} {x1 : Int32} {x2 : Int32} {x3 : Int32} {x4 : Int32} {x5 : Int32} {x6 : Int32} {r : (Int32 × jS)}, fX8_drawn_60  fu S x1 x2 x3 x4 x5 x6 = some r → JR E 7 mX8_drawn 60 [(0, .ref (E.1 (9, 0))), (1, .int x1), (2, .int x2), (3, .int x3), (4, .int x4), (5, .int x5), (6, .int x6)] [] S [.int r.1] r.2 := by
  induction fu with
  | zero => intro S x1 x2 x3 x4 x5 x6 r h; cases h
  | succ n_ ih => intro S x1 x2 x3 x4 x5 x6 r h; exact lX8_drawn_60 hM ih h
def fX8_drawn  (S : jS) (x1 : Int32) (x2 : Int32) (x3 : Int32) : Option (Int32 × jS) :=
  (fX8_in S (x1.toInt64) (0 : Int64) (9999 : Int64)).bind fun y1 => (if y1.1 = 0 then some ((-1 : Int32), y1.2) else (fX8_in y1.2 (x2.toInt64) (1 : Int64) (60 : Int64)).bind fun y3 => (if y3.1 = 0 then some ((-1 : Int32), y3.2) else (fX8_in y3.2 (x3.toInt64) (0 : Int64) (2 : Int64)).bind fun y5 => (if y5.1 = 0 then some ((-1 : Int32), y5.2) else (fX8_laysAside y5.2).bind fun y7 => (fX8_thereAll y7).bind fun y8 => if jIn (76 : Int32) 815 then jlet (y8.2.2 (50, 0) (76 : Int32).toNatClampNeg) fun v10 => fX8_drawn_60 5000 (y8.2) x1 x2 x3 y8.1 v10 (0 : Int32) else none)))
set_option maxRecDepth 10000 in
set_option maxHeartbeats 4000000 in
theorem kX8_drawn {E : jE} (hM : jHM E) {S : jS} {x1 : Int32} {x2 : Int32} {x3 : Int32} {r : (Int32 × jS)} (h : fX8_drawn  S x1 x2 x3 = some r) : jMR E 7 mX8_drawn [.ref (E.1 (9, 0)), .int x1, .int x2, .int x3] S [.int r.1] r.2 := by
  refine ⟨Nat.le_of_ble_eq_true rfl, ?_⟩
  show JR E 7 mX8_drawn 0 [(0, .ref (E.1 (9, 0))), (1, .int x1), (2, .int x2), (3, .int x3)] [] S [.int r.1] r.2
  unfold fX8_drawn at h
  refine j_iload_n (pc := 0) 1 dX8_drawn_0 rfl rfl ?_
  refine j_i2l (pc := 1) dX8_drawn_1 ?_
  refine j_lconst (pc := 2) (v := (0 : Int64)) dX8_drawn_2 rfl ?_
  refine j_ldc2 (pc := 3) (v := (9999 : Int64)) dX8_drawn_3 tw_1111 ?_
  obtain ⟨y1, hy1, h⟩ := jbnd h
  refine j_callS (pc := 6) (N := mX8_in) (As := [.long (x1.toInt64), .long (0 : Int64), .long (9999 : Int64)]) (rest := []) (v := [.int y1.1]) (S1 := y1.2) dX8_drawn_6 (kX8_in hM hy1) (by simp) (by decide) okX8_in tw_846 tw_845 rfl rfl (by simp [Value.category]) ?_
  refine j_if_eq (pc := 9) (tgt := 36) dX8_drawn_9 (by decide) (fun c2 => ?_) (fun c2 => ?_)
  · replace h := jite_t h c2
    refine j_iconst (pc := 36) dX8_drawn_36 jci_m1 ?_
    cases h
    exact j_iret (pc := 37) dX8_drawn_37 rfl rfl
  · replace h := jite_f h c2
    refine j_iload_n (pc := 12) 2 dX8_drawn_12 rfl rfl ?_
    refine j_i2l (pc := 13) dX8_drawn_13 ?_
    refine j_lconst (pc := 14) (v := (1 : Int64)) dX8_drawn_14 rfl ?_
    refine j_ldc2 (pc := 15) (v := (60 : Int64)) dX8_drawn_15 tw_979 ?_
    obtain ⟨y3, hy3, h⟩ := jbnd h
    refine j_callS (pc := 18) (N := mX8_in) (As := [.long (x2.toInt64), .long (1 : Int64), .long (60 : Int64)]) (rest := []) (v := [.int y3.1]) (S1 := y3.2) dX8_drawn_18 (kX8_in hM hy3) (by simp) (by decide) okX8_in tw_846 tw_845 rfl rfl (by simp [Value.category]) ?_
    refine j_if_eq (pc := 21) (tgt := 36) dX8_drawn_21 (by decide) (fun c4 => ?_) (fun c4 => ?_)
    · replace h := jite_t h c4
      refine j_iconst (pc := 36) dX8_drawn_36 jci_m1 ?_
      cases h
      exact j_iret (pc := 37) dX8_drawn_37 rfl rfl
    · replace h := jite_f h c4
      refine j_iload_n (pc := 24) 3 dX8_drawn_24 rfl rfl ?_
      refine j_i2l (pc := 25) dX8_drawn_25 ?_
      refine j_lconst (pc := 26) (v := (0 : Int64)) dX8_drawn_26 rfl ?_
      refine j_ldc2 (pc := 27) (v := (2 : Int64)) dX8_drawn_27 tw_1106 ?_
      obtain ⟨y5, hy5, h⟩ := jbnd h
      refine j_callS (pc := 30) (N := mX8_in) (As := [.long (x3.toInt64), .long (0 : Int64), .long (2 : Int64)]) (rest := []) (v := [.int y5.1]) (S1 := y5.2) dX8_drawn_30 (kX8_in hM hy5) (by simp) (by decide) okX8_in tw_846 tw_845 rfl rfl (by simp [Value.category]) ?_
      refine j_if_ne (pc := 33) (tgt := 38) dX8_drawn_33 (by decide) (fun c6 => ?_) (fun c6 => ?_)
      · replace h := jite_f h c6
        refine j_aload_n (pc := 38) 0 dX8_drawn_38 rfl rfl ?_
        obtain ⟨y7, hy7, h⟩ := jbnd h
        refine j_callV (pc := 39) (N := mX8_laysAside) (rr := (9, 0)) (As := []) (rest := []) (v := []) (S1 := y7) dX8_drawn_39 (kX8_laysAside hM hy7) (by simp) (by decide) okX8_laysAside tw_1084 tw_63 tw_1082 (hM (9, 0) rfl) rfl rfl rfl rfl (by simp [Value.category]) ?_
        refine j_aload_n (pc := 42) 0 dX8_drawn_42 rfl rfl ?_
        obtain ⟨y8, hy8, h⟩ := jbnd h
        refine j_callV (pc := 43) (N := mX8_thereAll) (rr := (9, 0)) (As := []) (rest := []) (v := [.int y8.1]) (S1 := y8.2) dX8_drawn_43 (kX8_thereAll hM hy8) (by simp) (by decide) okX8_thereAll tw_986 tw_46 tw_984 (hM (9, 0) rfl) rfl rfl rfl rfl (by simp [Value.category]) ?_
        refine j_istore (pc := 46) (lv' := [(4, .int y8.1), (0, .ref (E.1 (9, 0))), (1, .int x1), (2, .int x2), (3, .int x3)]) dX8_drawn_46 (by decide) rfl ?_
        refine j_aload_n (pc := 48) 1 dX8_drawn_48 rfl rfl ?_
        refine jg_9_0 (pc := 49) dX8_drawn_49 (hM (9, 0) rfl) tw_777 ?_
        refine j_bipush (pc := 52) dX8_drawn_52 jcb_76 ?_
        obtain ⟨c9, h⟩ := jchk h
        refine j_ia (pc := 54) dX8_drawn_54 rfl (hM (50, 0) rfl) c9 ?_
        obtain ⟨v10, ev10, h⟩ := jlk h
        refine j_topi ev10 ?_
        refine j_istore (pc := 55) (lv' := [(5, .int v10), (4, .int y8.1), (0, .ref (E.1 (9, 0))), (1, .int x1), (2, .int x2), (3, .int x3)]) dX8_drawn_55 (by decide) rfl ?_
        refine j_iconst (pc := 57) dX8_drawn_57 jci_0 ?_
        refine j_istore (pc := 58) (lv' := [(6, .int (0 : Int32)), (5, .int v10), (4, .int y8.1), (0, .ref (E.1 (9, 0))), (1, .int x1), (2, .int x2), (3, .int x3)]) dX8_drawn_58 (by decide) rfl ?_
        exact j_sub [3, 4, 5, 6, 2, 1, 0] rfl (kX8_drawn_60 hM 5000 h)
      · replace h := jite_t h c6
        refine j_iconst (pc := 36) dX8_drawn_36 jci_m1 ?_
        cases h
        exact j_iret (pc := 37) dX8_drawn_37 rfl rfl
abbrev mX8_count : jM := (yX8_count, cX8_count, 2, (some .int))
theorem okX8_count : jOK mX8_count 1 := ⟨by decide +kernel, tw_1124, tw_84, by decide +kernel, by decide, by decide⟩
def fX8_count  (S : jS) (x1 : Int32) : Option (Int32 × jS) :=
  (if x1 = (0 : Int32) then if jIn (0 : Int32) 815 then some (S.2 (50, 0) (0 : Int32).toNatClampNeg, S) else none else (if x1 = (1 : Int32) then if jIn (1 : Int32) 815 then some (S.2 (50, 0) (1 : Int32).toNatClampNeg, S) else none else (if x1 = (2 : Int32) then if jIn (5 : Int32) 815 then some (S.2 (50, 0) (5 : Int32).toNatClampNeg, S) else none else (if x1 = (3 : Int32) then (fX8_pairs S).bind fun y8 => some (y8.1, y8.2) else (if x1 = (4 : Int32) then if jIn (65 : Int32) 815 then some (S.2 (50, 0) (65 : Int32).toNatClampNeg, S) else none else (if x1 = (5 : Int32) then if jIn (64 : Int32) 815 then some (S.2 (50, 0) (64 : Int32).toNatClampNeg, S) else none else (if x1 = (6 : Int32) then if jIn (66 : Int32) 815 then some (S.2 (50, 0) (66 : Int32).toNatClampNeg, S) else none else (if x1 = (7 : Int32) then (fX8_packets S).bind fun y16 => some (y16.1, y16.2) else (if x1 = (8 : Int32) then (fX8_thereAll S).bind fun y18 => some (y18.1, y18.2) else (if x1 = (9 : Int32) then if jIn (76 : Int32) 815 then some (S.2 (50, 0) (76 : Int32).toNatClampNeg, S) else none else (if x1 = (10 : Int32) then (fX8_squares S).bind fun y22 => some (y22.1, y22.2) else (if x1 = (11 : Int32) then some (S.1 (12, 0), S) else (if x1 = (12 : Int32) then some (S.1 (13, 0), S) else some ((-1 : Int32), S))))))))))))))
set_option maxRecDepth 10000 in
set_option maxHeartbeats 4000000 in
theorem kX8_count {E : jE} (hM : jHM E) {S : jS} {x1 : Int32} {r : (Int32 × jS)} (h : fX8_count  S x1 = some r) : jMR E 3 mX8_count [.ref (E.1 (9, 0)), .int x1] S [.int r.1] r.2 := by
  refine ⟨Nat.le_of_ble_eq_true rfl, ?_⟩
  show JR E 3 mX8_count 0 [(0, .ref (E.1 (9, 0))), (1, .int x1)] [] S [.int r.1] r.2
  unfold fX8_count at h
  refine j_iload_n (pc := 0) 1 dX8_count_0 rfl rfl ?_
  by_cases c1 : x1 = (0 : Int32)
  · replace h := jite_t h c1
    refine j_tabIn (pc := 1) (tgt := 68) (off := 67) dX8_count_1 (by rw [c1]; decide) (by rw [c1]; decide) (by rw [c1]; rfl) (by decide) ?_
    refine j_aload_n (pc := 68) 0 dX8_count_68 rfl rfl ?_
    refine jg_9_0 (pc := 69) dX8_count_69 (hM (9, 0) rfl) tw_777 ?_
    refine j_iconst (pc := 72) dX8_count_72 jci_0 ?_
    obtain ⟨c2, h⟩ := jchk h
    refine j_ia (pc := 73) dX8_count_73 rfl (hM (50, 0) rfl) c2 ?_
    cases h
    exact j_iret (pc := 74) dX8_count_74 rfl rfl
  replace h := jite_f h c1
  by_cases c3 : x1 = (1 : Int32)
  · replace h := jite_t h c3
    refine j_tabIn (pc := 1) (tgt := 75) (off := 74) dX8_count_1 (by rw [c3]; decide) (by rw [c3]; decide) (by rw [c3]; rfl) (by decide) ?_
    refine j_aload_n (pc := 75) 0 dX8_count_75 rfl rfl ?_
    refine jg_9_0 (pc := 76) dX8_count_76 (hM (9, 0) rfl) tw_777 ?_
    refine j_iconst (pc := 79) dX8_count_79 jci_1 ?_
    obtain ⟨c4, h⟩ := jchk h
    refine j_ia (pc := 80) dX8_count_80 rfl (hM (50, 0) rfl) c4 ?_
    cases h
    exact j_iret (pc := 81) dX8_count_81 rfl rfl
  replace h := jite_f h c3
  by_cases c5 : x1 = (2 : Int32)
  · replace h := jite_t h c5
    refine j_tabIn (pc := 1) (tgt := 82) (off := 81) dX8_count_1 (by rw [c5]; decide) (by rw [c5]; decide) (by rw [c5]; rfl) (by decide) ?_
    refine j_aload_n (pc := 82) 0 dX8_count_82 rfl rfl ?_
    refine jg_9_0 (pc := 83) dX8_count_83 (hM (9, 0) rfl) tw_777 ?_
    refine j_iconst (pc := 86) dX8_count_86 jci_5 ?_
    obtain ⟨c6, h⟩ := jchk h
    refine j_ia (pc := 87) dX8_count_87 rfl (hM (50, 0) rfl) c6 ?_
    cases h
    exact j_iret (pc := 88) dX8_count_88 rfl rfl
  replace h := jite_f h c5
  by_cases c7 : x1 = (3 : Int32)
  · replace h := jite_t h c7
    refine j_tabIn (pc := 1) (tgt := 89) (off := 88) dX8_count_1 (by rw [c7]; decide) (by rw [c7]; decide) (by rw [c7]; rfl) (by decide) ?_
    refine j_aload_n (pc := 89) 0 dX8_count_89 rfl rfl ?_
    obtain ⟨y8, hy8, h⟩ := jbnd h
    refine j_callV (pc := 90) (N := mX8_pairs) (rr := (9, 0)) (As := []) (rest := []) (v := [.int y8.1]) (S1 := y8.2) dX8_count_90 (kX8_pairs hM hy8) (by simp) (by decide) okX8_pairs tw_954 tw_42 tw_952 (hM (9, 0) rfl) rfl rfl rfl rfl (by simp [Value.category]) ?_
    cases h
    exact j_iret (pc := 93) dX8_count_93 rfl rfl
  replace h := jite_f h c7
  by_cases c9 : x1 = (4 : Int32)
  · replace h := jite_t h c9
    refine j_tabIn (pc := 1) (tgt := 94) (off := 93) dX8_count_1 (by rw [c9]; decide) (by rw [c9]; decide) (by rw [c9]; rfl) (by decide) ?_
    refine j_aload_n (pc := 94) 0 dX8_count_94 rfl rfl ?_
    refine jg_9_0 (pc := 95) dX8_count_95 (hM (9, 0) rfl) tw_777 ?_
    refine j_bipush (pc := 98) dX8_count_98 jcb_65 ?_
    obtain ⟨c10, h⟩ := jchk h
    refine j_ia (pc := 100) dX8_count_100 rfl (hM (50, 0) rfl) c10 ?_
    cases h
    exact j_iret (pc := 101) dX8_count_101 rfl rfl
  replace h := jite_f h c9
  by_cases c11 : x1 = (5 : Int32)
  · replace h := jite_t h c11
    refine j_tabIn (pc := 1) (tgt := 102) (off := 101) dX8_count_1 (by rw [c11]; decide) (by rw [c11]; decide) (by rw [c11]; rfl) (by decide) ?_
    refine j_aload_n (pc := 102) 0 dX8_count_102 rfl rfl ?_
    refine jg_9_0 (pc := 103) dX8_count_103 (hM (9, 0) rfl) tw_777 ?_
    refine j_bipush (pc := 106) dX8_count_106 jcb_64 ?_
    obtain ⟨c12, h⟩ := jchk h
    refine j_ia (pc := 108) dX8_count_108 rfl (hM (50, 0) rfl) c12 ?_
    cases h
    exact j_iret (pc := 109) dX8_count_109 rfl rfl
  replace h := jite_f h c11
  by_cases c13 : x1 = (6 : Int32)
  · replace h := jite_t h c13
    refine j_tabIn (pc := 1) (tgt := 110) (off := 109) dX8_count_1 (by rw [c13]; decide) (by rw [c13]; decide) (by rw [c13]; rfl) (by decide) ?_
    refine j_aload_n (pc := 110) 0 dX8_count_110 rfl rfl ?_
    refine jg_9_0 (pc := 111) dX8_count_111 (hM (9, 0) rfl) tw_777 ?_
    refine j_bipush (pc := 114) dX8_count_114 jcb_66 ?_
    obtain ⟨c14, h⟩ := jchk h
    refine j_ia (pc := 116) dX8_count_116 rfl (hM (50, 0) rfl) c14 ?_
    cases h
    exact j_iret (pc := 117) dX8_count_117 rfl rfl
  replace h := jite_f h c13
  by_cases c15 : x1 = (7 : Int32)
  · replace h := jite_t h c15
    refine j_tabIn (pc := 1) (tgt := 118) (off := 117) dX8_count_1 (by rw [c15]; decide) (by rw [c15]; decide) (by rw [c15]; rfl) (by decide) ?_
    refine j_aload_n (pc := 118) 0 dX8_count_118 rfl rfl ?_
    obtain ⟨y16, hy16, h⟩ := jbnd h
    refine j_callV (pc := 119) (N := mX8_packets) (rr := (9, 0)) (As := []) (rest := []) (v := [.int y16.1]) (S1 := y16.2) dX8_count_119 (kX8_packets hM hy16) (by simp) (by decide) okX8_packets tw_1092 tw_65 tw_1090 (hM (9, 0) rfl) rfl rfl rfl rfl (by simp [Value.category]) ?_
    cases h
    exact j_iret (pc := 122) dX8_count_122 rfl rfl
  replace h := jite_f h c15
  by_cases c17 : x1 = (8 : Int32)
  · replace h := jite_t h c17
    refine j_tabIn (pc := 1) (tgt := 123) (off := 122) dX8_count_1 (by rw [c17]; decide) (by rw [c17]; decide) (by rw [c17]; rfl) (by decide) ?_
    refine j_aload_n (pc := 123) 0 dX8_count_123 rfl rfl ?_
    obtain ⟨y18, hy18, h⟩ := jbnd h
    refine j_callV (pc := 124) (N := mX8_thereAll) (rr := (9, 0)) (As := []) (rest := []) (v := [.int y18.1]) (S1 := y18.2) dX8_count_124 (kX8_thereAll hM hy18) (by simp) (by decide) okX8_thereAll tw_986 tw_46 tw_984 (hM (9, 0) rfl) rfl rfl rfl rfl (by simp [Value.category]) ?_
    cases h
    exact j_iret (pc := 127) dX8_count_127 rfl rfl
  replace h := jite_f h c17
  by_cases c19 : x1 = (9 : Int32)
  · replace h := jite_t h c19
    refine j_tabIn (pc := 1) (tgt := 128) (off := 127) dX8_count_1 (by rw [c19]; decide) (by rw [c19]; decide) (by rw [c19]; rfl) (by decide) ?_
    refine j_aload_n (pc := 128) 0 dX8_count_128 rfl rfl ?_
    refine jg_9_0 (pc := 129) dX8_count_129 (hM (9, 0) rfl) tw_777 ?_
    refine j_bipush (pc := 132) dX8_count_132 jcb_76 ?_
    obtain ⟨c20, h⟩ := jchk h
    refine j_ia (pc := 134) dX8_count_134 rfl (hM (50, 0) rfl) c20 ?_
    cases h
    exact j_iret (pc := 135) dX8_count_135 rfl rfl
  replace h := jite_f h c19
  by_cases c21 : x1 = (10 : Int32)
  · replace h := jite_t h c21
    refine j_tabIn (pc := 1) (tgt := 136) (off := 135) dX8_count_1 (by rw [c21]; decide) (by rw [c21]; decide) (by rw [c21]; rfl) (by decide) ?_
    refine j_aload_n (pc := 136) 0 dX8_count_136 rfl rfl ?_
    obtain ⟨y22, hy22, h⟩ := jbnd h
    refine j_callV (pc := 137) (N := mX8_squares) (rr := (9, 0)) (As := []) (rest := []) (v := [.int y22.1]) (S1 := y22.2) dX8_count_137 (kX8_squares hM hy22) (by simp) (by decide) okX8_squares tw_1088 tw_64 tw_1086 (hM (9, 0) rfl) rfl rfl rfl rfl (by simp [Value.category]) ?_
    cases h
    exact j_iret (pc := 140) dX8_count_140 rfl rfl
  replace h := jite_f h c21
  by_cases c23 : x1 = (11 : Int32)
  · replace h := jite_t h c23
    refine j_tabIn (pc := 1) (tgt := 141) (off := 140) dX8_count_1 (by rw [c23]; decide) (by rw [c23]; decide) (by rw [c23]; rfl) (by decide) ?_
    refine j_aload_n (pc := 141) 0 dX8_count_141 rfl rfl ?_
    refine jg_9_3 (pc := 142) dX8_count_142 (hM (9, 0) rfl) tw_780 ?_
    cases h
    exact j_iret (pc := 145) dX8_count_145 rfl rfl
  replace h := jite_f h c23
  by_cases c24 : x1 = (12 : Int32)
  · replace h := jite_t h c24
    refine j_tabIn (pc := 1) (tgt := 146) (off := 145) dX8_count_1 (by rw [c24]; decide) (by rw [c24]; decide) (by rw [c24]; rfl) (by decide) ?_
    refine j_aload_n (pc := 146) 0 dX8_count_146 rfl rfl ?_
    refine jg_9_5 (pc := 147) dX8_count_147 (hM (9, 0) rfl) tw_782 ?_
    cases h
    exact j_iret (pc := 150) dX8_count_150 rfl rfl
  replace h := jite_f h c24
  refine j_tabD (pc := 1) (tgt := 151) dX8_count_1 (by decide) (fun i hi => match i, hi with | 0, _ => Or.inr (jti c1 rfl) | 1, _ => Or.inr (jti c3 rfl) | 2, _ => Or.inr (jti c5 rfl) | 3, _ => Or.inr (jti c7 rfl) | 4, _ => Or.inr (jti c9 rfl) | 5, _ => Or.inr (jti c11 rfl) | 6, _ => Or.inr (jti c13 rfl) | 7, _ => Or.inr (jti c15 rfl) | 8, _ => Or.inr (jti c17 rfl) | 9, _ => Or.inr (jti c19 rfl) | 10, _ => Or.inr (jti c21 rfl) | 11, _ => Or.inr (jti c23 rfl) | 12, _ => Or.inr (jti c24 rfl) | n + 13, h9 => absurd h9 (by simp)) (by decide) ?_
  refine j_iconst (pc := 151) dX8_count_151 jci_m1 ?_
  cases h
  exact j_iret (pc := 152) dX8_count_152 rfl rfl
