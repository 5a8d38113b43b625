/-! ===== constructors ===== -/
def jZ : jS := (fun _ => 0, fun _ _ => 0)
def wl (E : jE) (f : jR → Nat) (L : List jR) : va_W := L.map (fun r => (f r, jenc (f, E.2) jZ r))
def nLN (k : Nat) : List jR := [(3, k), (20, k), (21, k), (22, k), (23, k), (24, k), (25, k), (26, k)]
def nLQ (k : Nat) : List jR := [(4, k), (30, k), (31, k), (32, k), (33, k), (34, k), (35, k)]
def nLT : List jR := [(1, 0), (10, 0), (11, 0)]
def nLP (k : Nat) : List jR := [(7, k), (40, k), (41, k)]
def nLW (k : Nat) : List jR := (2, k) :: (nLN k ++ nLQ k)
def nLM : List jR := [(8, 0), (42, 0)] ++ nLP 1 ++ [(43, 0), (44, 0)]
def nLH : List jR := [(5, 0), (6, 0)] ++ nLW 2 ++ nLW 3 ++ nLW 4 ++ nLW 5
def nLC : List jR := [(0, 0)] ++ nLT ++ nLW 0 ++ nLW 1 ++ nLH ++ nLP 0 ++ nLM
def nLR : List jR := [(9, 0), (50, 0), (51, 0), (52, 0), (53, 0), (54, 0), (55, 0), (56, 0), (57, 0), (58, 0), (59, 0), (60, 0), (61, 0), (62, 0), (63, 0), (64, 0)]
abbrev mX0_init : jM := (yX0_init, cX0_init, 2, none)
theorem okX0_init : jOK mX0_init 0 := ⟨by decide +kernel, tw_247, tw_74, by decide +kernel, by decide, by decide⟩
abbrev mX1_init : jM := (yX1_init, cX1_init, 1, none)
theorem okX1_init : jOK mX1_init 0 := ⟨by decide +kernel, tw_292, tw_76, by decide +kernel, by decide, by decide⟩
abbrev mX2_init : jM := (yX2_init, cX2_init, 1, none)
theorem okX2_init : jOK mX2_init 0 := ⟨by decide +kernel, tw_123, tw_72, by decide +kernel, by decide, by decide⟩
abbrev mX3_init : jM := (yX3_init, cX3_init, 1, none)
theorem okX3_init : jOK mX3_init 0 := ⟨by decide +kernel, tw_267, tw_75, by decide +kernel, by decide, by decide⟩
abbrev mX4_init : jM := (yX4_init, cX4_init, 1, none)
theorem okX4_init : jOK mX4_init 0 := ⟨by decide +kernel, tw_193, tw_73, by decide +kernel, by decide, by decide⟩
abbrev mX5_init : jM := (yX5_init, cX5_init, 1, none)
theorem okX5_init : jOK mX5_init 0 := ⟨by decide +kernel, tw_98, tw_70, by decide +kernel, by decide, by decide⟩
abbrev mX6_init : jM := (yX6_init, cX6_init, 1, none)
theorem okX6_init : jOK mX6_init 0 := ⟨by decide +kernel, tw_117, tw_71, by decide +kernel, by decide, by decide⟩
abbrev mX7_init : jM := (yX7_init, cX7_init, 2, none)
theorem okX7_init : jOK mX7_init 0 := ⟨by decide +kernel, tw_90, tw_69, by decide +kernel, by decide, by decide⟩
abbrev mX8_init : jM := (yX8_init, cX8_init, 1, none)
theorem okX8_init : jOK mX8_init 0 := ⟨by decide +kernel, tw_760, tw_84, by decide +kernel, by decide, by decide⟩
set_option maxRecDepth 10000 in
set_option maxHeartbeats 4000000 in
theorem nX2 {E : jE} {a : Nat} {k : Nat} : nMR E 1 mX2_init a (.inr (2, [.int 0, .int 0, .int 0, .int 0, .int 0, .null, .null, .null, .null, .null, .null, .null])) 7 79 (fun w => ∃ f : jR → Nat, f (3, k) = a ∧ w = wl E f (nLN k)) := by
  show JN E 1 mX2_init (nRet mX2_init) _ 0 [(0, .ref a)] [] [(a, .inr (2, [.int 0, .int 0, .int 0, .int 0, .int 0, .null, .null, .null, .null, .null, .null, .null]))] 7 79
  refine n_aload (pc := 0) 0 dX2_init_0 rfl rfl ?_
  refine n_obj (pc := 1) dX2_init_1 tw_124 (by decide) ?_
  refine n_aload (pc := 4) 0 dX2_init_4 rfl rfl ?_
  refine n_iconst (pc := 5) dX2_init_5 jci_3 ?_
  refine n_newI (pc := 6) (N := 3) dX2_init_6 rfl (by omega) (fun q1 => ?_)
  refine n_putF (pc := 8) (ci := 2) (kf := 5) (C := RX2) (T := TX2) (N := 12) (fs' := [.int 0, .int 0, .int 0, .int 0, .int 0, .ref q1, .null, .null, .null, .null, .null, .null]) (ws' := [(a, .inr (2, [.int 0, .int 0, .int 0, .int 0, .int 0, .ref q1, .null, .null, .null, .null, .null, .null]))] ++ [(q1, .inl (jCI E, 3, .inl (fun _ => 0)))]) 0 tyX2 dX2_init_8 inX2 tyX2_ok nmX2 rfl rfl (by decide) tw_141 rfl rfl (tyX2_ok 5 (by decide)) rfl rfl (Nat.le_of_ble_eq_true rfl) rfl rfl ?_
  refine n_aload (pc := 11) 0 dX2_init_11 rfl rfl ?_
  refine n_bipush (pc := 12) dX2_init_12 jcb_10 ?_
  refine n_newI (pc := 14) (N := 10) dX2_init_14 rfl (by omega) (fun q2 => ?_)
  refine n_putF (pc := 16) (ci := 2) (kf := 6) (C := RX2) (T := TX2) (N := 12) (fs' := [.int 0, .int 0, .int 0, .int 0, .int 0, .ref q1, .ref q2, .null, .null, .null, .null, .null]) (ws' := ([(a, .inr (2, [.int 0, .int 0, .int 0, .int 0, .int 0, .ref q1, .ref q2, .null, .null, .null, .null, .null]))] ++ [(q1, .inl (jCI E, 3, .inl (fun _ => 0)))]) ++ [(q2, .inl (jCI E, 10, .inl (fun _ => 0)))]) 0 tyX2 dX2_init_16 inX2 tyX2_ok nmX2 rfl rfl (by decide) tw_144 rfl rfl (tyX2_ok 6 (by decide)) rfl rfl (Nat.le_of_ble_eq_true rfl) rfl rfl ?_
  refine n_aload (pc := 19) 0 dX2_init_19 rfl rfl ?_
  refine n_bipush (pc := 20) dX2_init_20 jcb_10 ?_
  refine n_newI (pc := 22) (N := 10) dX2_init_22 rfl (by omega) (fun q3 => ?_)
  refine n_putF (pc := 24) (ci := 2) (kf := 7) (C := RX2) (T := TX2) (N := 12) (fs' := [.int 0, .int 0, .int 0, .int 0, .int 0, .ref q1, .ref q2, .ref q3, .null, .null, .null, .null]) (ws' := (([(a, .inr (2, [.int 0, .int 0, .int 0, .int 0, .int 0, .ref q1, .ref q2, .ref q3, .null, .null, .null, .null]))] ++ [(q1, .inl (jCI E, 3, .inl (fun _ => 0)))]) ++ [(q2, .inl (jCI E, 10, .inl (fun _ => 0)))]) ++ [(q3, .inl (jCI E, 10, .inl (fun _ => 0)))]) 0 tyX2 dX2_init_24 inX2 tyX2_ok nmX2 rfl rfl (by decide) tw_149 rfl rfl (tyX2_ok 7 (by decide)) rfl rfl (Nat.le_of_ble_eq_true rfl) rfl rfl ?_
  refine n_aload (pc := 27) 0 dX2_init_27 rfl rfl ?_
  refine n_bipush (pc := 28) dX2_init_28 jcb_10 ?_
  refine n_newI (pc := 30) (N := 10) dX2_init_30 rfl (by omega) (fun q4 => ?_)
  refine n_putF (pc := 32) (ci := 2) (kf := 8) (C := RX2) (T := TX2) (N := 12) (fs' := [.int 0, .int 0, .int 0, .int 0, .int 0, .ref q1, .ref q2, .ref q3, .ref q4, .null, .null, .null]) (ws' := ((([(a, .inr (2, [.int 0, .int 0, .int 0, .int 0, .int 0, .ref q1, .ref q2, .ref q3, .ref q4, .null, .null, .null]))] ++ [(q1, .inl (jCI E, 3, .inl (fun _ => 0)))]) ++ [(q2, .inl (jCI E, 10, .inl (fun _ => 0)))]) ++ [(q3, .inl (jCI E, 10, .inl (fun _ => 0)))]) ++ [(q4, .inl (jCI E, 10, .inl (fun _ => 0)))]) 0 tyX2 dX2_init_32 inX2 tyX2_ok nmX2 rfl rfl (by decide) tw_153 rfl rfl (tyX2_ok 8 (by decide)) rfl rfl (Nat.le_of_ble_eq_true rfl) rfl rfl ?_
  refine n_aload (pc := 35) 0 dX2_init_35 rfl rfl ?_
  refine n_bipush (pc := 36) dX2_init_36 jcb_10 ?_
  refine n_newI (pc := 38) (N := 10) dX2_init_38 rfl (by omega) (fun q5 => ?_)
  refine n_putF (pc := 40) (ci := 2) (kf := 9) (C := RX2) (T := TX2) (N := 12) (fs' := [.int 0, .int 0, .int 0, .int 0, .int 0, .ref q1, .ref q2, .ref q3, .ref q4, .ref q5, .null, .null]) (ws' := (((([(a, .inr (2, [.int 0, .int 0, .int 0, .int 0, .int 0, .ref q1, .ref q2, .ref q3, .ref q4, .ref q5, .null, .null]))] ++ [(q1, .inl (jCI E, 3, .inl (fun _ => 0)))]) ++ [(q2, .inl (jCI E, 10, .inl (fun _ => 0)))]) ++ [(q3, .inl (jCI E, 10, .inl (fun _ => 0)))]) ++ [(q4, .inl (jCI E, 10, .inl (fun _ => 0)))]) ++ [(q5, .inl (jCI E, 10, .inl (fun _ => 0)))]) 0 tyX2 dX2_init_40 inX2 tyX2_ok nmX2 rfl rfl (by decide) tw_157 rfl rfl (tyX2_ok 9 (by decide)) rfl rfl (Nat.le_of_ble_eq_true rfl) rfl rfl ?_
  refine n_aload (pc := 43) 0 dX2_init_43 rfl rfl ?_
  refine n_bipush (pc := 44) dX2_init_44 jcb_18 ?_
  refine n_newI (pc := 46) (N := 18) dX2_init_46 rfl (by omega) (fun q6 => ?_)
  refine n_putF (pc := 48) (ci := 2) (kf := 10) (C := RX2) (T := TX2) (N := 12) (fs' := [.int 0, .int 0, .int 0, .int 0, .int 0, .ref q1, .ref q2, .ref q3, .ref q4, .ref q5, .ref q6, .null]) (ws' := ((((([(a, .inr (2, [.int 0, .int 0, .int 0, .int 0, .int 0, .ref q1, .ref q2, .ref q3, .ref q4, .ref q5, .ref q6, .null]))] ++ [(q1, .inl (jCI E, 3, .inl (fun _ => 0)))]) ++ [(q2, .inl (jCI E, 10, .inl (fun _ => 0)))]) ++ [(q3, .inl (jCI E, 10, .inl (fun _ => 0)))]) ++ [(q4, .inl (jCI E, 10, .inl (fun _ => 0)))]) ++ [(q5, .inl (jCI E, 10, .inl (fun _ => 0)))]) ++ [(q6, .inl (jCI E, 18, .inl (fun _ => 0)))]) 0 tyX2 dX2_init_48 inX2 tyX2_ok nmX2 rfl rfl (by decide) tw_160 rfl rfl (tyX2_ok 10 (by decide)) rfl rfl (Nat.le_of_ble_eq_true rfl) rfl rfl ?_
  refine n_aload (pc := 51) 0 dX2_init_51 rfl rfl ?_
  refine n_bipush (pc := 52) dX2_init_52 jcb_18 ?_
  refine n_newI (pc := 54) (N := 18) dX2_init_54 rfl (by omega) (fun q7 => ?_)
  refine n_putF (pc := 56) (ci := 2) (kf := 11) (C := RX2) (T := TX2) (N := 12) (fs' := [.int 0, .int 0, .int 0, .int 0, .int 0, .ref q1, .ref q2, .ref q3, .ref q4, .ref q5, .ref q6, .ref q7]) (ws' := (((((([(a, .inr (2, [.int 0, .int 0, .int 0, .int 0, .int 0, .ref q1, .ref q2, .ref q3, .ref q4, .ref q5, .ref q6, .ref q7]))] ++ [(q1, .inl (jCI E, 3, .inl (fun _ => 0)))]) ++ [(q2, .inl (jCI E, 10, .inl (fun _ => 0)))]) ++ [(q3, .inl (jCI E, 10, .inl (fun _ => 0)))]) ++ [(q4, .inl (jCI E, 10, .inl (fun _ => 0)))]) ++ [(q5, .inl (jCI E, 10, .inl (fun _ => 0)))]) ++ [(q6, .inl (jCI E, 18, .inl (fun _ => 0)))]) ++ [(q7, .inl (jCI E, 18, .inl (fun _ => 0)))]) 0 tyX2 dX2_init_56 inX2 tyX2_ok nmX2 rfl rfl (by decide) tw_163 rfl rfl (tyX2_ok 11 (by decide)) rfl rfl (Nat.le_of_ble_eq_true rfl) rfl rfl ?_
  exact n_fin dX2_init_59 ⟨(fun r => match r.1 with | 3 => a | 20 => q1 | 21 => q2 | 22 => q3 | 23 => q4 | 24 => q5 | 25 => q6 | 26 => q7 | _ => 0), rfl, rfl⟩
set_option maxRecDepth 10000 in
set_option maxHeartbeats 4000000 in
theorem nX4 {E : jE} {a : Nat} {k : Nat} : nMR E 1 mX4_init a (.inr (4, [.int 0, .int 0, .null, .null, .null, .null, .null, .null])) 6 765 (fun w => ∃ f : jR → Nat, f (4, k) = a ∧ w = wl E f (nLQ k)) := by
  show JN E 1 mX4_init (nRet mX4_init) _ 0 [(0, .ref a)] [] [(a, .inr (4, [.int 0, .int 0, .null, .null, .null, .null, .null, .null]))] 6 765
  refine n_aload (pc := 0) 0 dX4_init_0 rfl rfl ?_
  refine n_obj (pc := 1) dX4_init_1 tw_194 (by decide) ?_
  refine n_aload (pc := 4) 0 dX4_init_4 rfl rfl ?_
  refine n_iconst (pc := 5) dX4_init_5 jci_3 ?_
  refine n_newI (pc := 6) (N := 3) dX4_init_6 rfl (by omega) (fun q1 => ?_)
  refine n_putF (pc := 8) (ci := 4) (kf := 2) (C := RX4) (T := TX4) (N := 8) (fs' := [.int 0, .int 0, .ref q1, .null, .null, .null, .null, .null]) (ws' := [(a, .inr (4, [.int 0, .int 0, .ref q1, .null, .null, .null, .null, .null]))] ++ [(q1, .inl (jCI E, 3, .inl (fun _ => 0)))]) 0 tyX4 dX4_init_8 inX4 tyX4_ok nmX4 rfl rfl (by decide) tw_200 rfl rfl (tyX4_ok 2 (by decide)) rfl rfl (Nat.le_of_ble_eq_true rfl) rfl rfl ?_
  refine n_aload (pc := 11) 0 dX4_init_11 rfl rfl ?_
  refine n_iconst (pc := 12) dX4_init_12 jci_3 ?_
  refine n_newI (pc := 13) (N := 3) dX4_init_13 rfl (by omega) (fun q2 => ?_)
  refine n_putF (pc := 15) (ci := 4) (kf := 3) (C := RX4) (T := TX4) (N := 8) (fs' := [.int 0, .int 0, .ref q1, .ref q2, .null, .null, .null, .null]) (ws' := ([(a, .inr (4, [.int 0, .int 0, .ref q1, .ref q2, .null, .null, .null, .null]))] ++ [(q1, .inl (jCI E, 3, .inl (fun _ => 0)))]) ++ [(q2, .inl (jCI E, 3, .inl (fun _ => 0)))]) 0 tyX4 dX4_init_15 inX4 tyX4_ok nmX4 rfl rfl (by decide) tw_202 rfl rfl (tyX4_ok 3 (by decide)) rfl rfl (Nat.le_of_ble_eq_true rfl) rfl rfl ?_
  refine n_aload (pc := 18) 0 dX4_init_18 rfl rfl ?_
  refine n_iconst (pc := 19) dX4_init_19 jci_3 ?_
  refine n_newI (pc := 20) (N := 3) dX4_init_20 rfl (by omega) (fun q3 => ?_)
  refine n_putF (pc := 22) (ci := 4) (kf := 4) (C := RX4) (T := TX4) (N := 8) (fs' := [.int 0, .int 0, .ref q1, .ref q2, .ref q3, .null, .null, .null]) (ws' := (([(a, .inr (4, [.int 0, .int 0, .ref q1, .ref q2, .ref q3, .null, .null, .null]))] ++ [(q1, .inl (jCI E, 3, .inl (fun _ => 0)))]) ++ [(q2, .inl (jCI E, 3, .inl (fun _ => 0)))]) ++ [(q3, .inl (jCI E, 3, .inl (fun _ => 0)))]) 0 tyX4 dX4_init_22 inX4 tyX4_ok nmX4 rfl rfl (by decide) tw_204 rfl rfl (tyX4_ok 4 (by decide)) rfl rfl (Nat.le_of_ble_eq_true rfl) rfl rfl ?_
  refine n_aload (pc := 25) 0 dX4_init_25 rfl rfl ?_
  refine n_bipush (pc := 26) dX4_init_26 jcb_18 ?_
  refine n_newI (pc := 28) (N := 18) dX4_init_28 rfl (by omega) (fun q4 => ?_)
  refine n_putF (pc := 30) (ci := 4) (kf := 5) (C := RX4) (T := TX4) (N := 8) (fs' := [.int 0, .int 0, .ref q1, .ref q2, .ref q3, .ref q4, .null, .null]) (ws' := ((([(a, .inr (4, [.int 0, .int 0, .ref q1, .ref q2, .ref q3, .ref q4, .null, .null]))] ++ [(q1, .inl (jCI E, 3, .inl (fun _ => 0)))]) ++ [(q2, .inl (jCI E, 3, .inl (fun _ => 0)))]) ++ [(q3, .inl (jCI E, 3, .inl (fun _ => 0)))]) ++ [(q4, .inl (jCI E, 18, .inl (fun _ => 0)))]) 0 tyX4 dX4_init_30 inX4 tyX4_ok nmX4 rfl rfl (by decide) tw_206 rfl rfl (tyX4_ok 5 (by decide)) rfl rfl (Nat.le_of_ble_eq_true rfl) rfl rfl ?_
  refine n_aload (pc := 33) 0 dX4_init_33 rfl rfl ?_
  refine n_sipush (pc := 34) dX4_init_34 jcs_720 ?_
  refine n_newI (pc := 37) (N := 720) dX4_init_37 rfl (by omega) (fun q5 => ?_)
  refine n_putF (pc := 39) (ci := 4) (kf := 6) (C := RX4) (T := TX4) (N := 8) (fs' := [.int 0, .int 0, .ref q1, .ref q2, .ref q3, .ref q4, .ref q5, .null]) (ws' := (((([(a, .inr (4, [.int 0, .int 0, .ref q1, .ref q2, .ref q3, .ref q4, .ref q5, .null]))] ++ [(q1, .inl (jCI E, 3, .inl (fun _ => 0)))]) ++ [(q2, .inl (jCI E, 3, .inl (fun _ => 0)))]) ++ [(q3, .inl (jCI E, 3, .inl (fun _ => 0)))]) ++ [(q4, .inl (jCI E, 18, .inl (fun _ => 0)))]) ++ [(q5, .inl (jCI E, 720, .inl (fun _ => 0)))]) 0 tyX4 dX4_init_39 inX4 tyX4_ok nmX4 rfl rfl (by decide) tw_211 rfl rfl (tyX4_ok 6 (by decide)) rfl rfl (Nat.le_of_ble_eq_true rfl) rfl rfl ?_
  refine n_aload (pc := 42) 0 dX4_init_42 rfl rfl ?_
  refine n_bipush (pc := 43) dX4_init_43 jcb_18 ?_
  refine n_newI (pc := 45) (N := 18) dX4_init_45 rfl (by omega) (fun q6 => ?_)
  refine n_putF (pc := 47) (ci := 4) (kf := 7) (C := RX4) (T := TX4) (N := 8) (fs' := [.int 0, .int 0, .ref q1, .ref q2, .ref q3, .ref q4, .ref q5, .ref q6]) (ws' := ((((([(a, .inr (4, [.int 0, .int 0, .ref q1, .ref q2, .ref q3, .ref q4, .ref q5, .ref q6]))] ++ [(q1, .inl (jCI E, 3, .inl (fun _ => 0)))]) ++ [(q2, .inl (jCI E, 3, .inl (fun _ => 0)))]) ++ [(q3, .inl (jCI E, 3, .inl (fun _ => 0)))]) ++ [(q4, .inl (jCI E, 18, .inl (fun _ => 0)))]) ++ [(q5, .inl (jCI E, 720, .inl (fun _ => 0)))]) ++ [(q6, .inl (jCI E, 18, .inl (fun _ => 0)))]) 0 tyX4 dX4_init_47 inX4 tyX4_ok nmX4 rfl rfl (by decide) tw_212 rfl rfl (tyX4_ok 7 (by decide)) rfl rfl (Nat.le_of_ble_eq_true rfl) rfl rfl ?_
  exact n_fin dX4_init_50 ⟨(fun r => match r.1 with | 4 => a | 30 => q1 | 31 => q2 | 32 => q3 | 33 => q4 | 34 => q5 | 35 => q6 | _ => 0), rfl, rfl⟩
set_option maxRecDepth 10000 in
set_option maxHeartbeats 4000000 in
theorem nX5 {E : jE} {a : Nat} : nMR E 1 mX5_init a (.inr (5, [.int 0, .null, .null])) 2 203 (fun w => ∃ f : jR → Nat, f (1, 0) = a ∧ w = wl E f nLT) := by
  show JN E 1 mX5_init (nRet mX5_init) _ 0 [(0, .ref a)] [] [(a, .inr (5, [.int 0, .null, .null]))] 2 203
  refine n_aload (pc := 0) 0 dX5_init_0 rfl rfl ?_
  refine n_obj (pc := 1) dX5_init_1 tw_99 (by decide) ?_
  refine n_aload (pc := 4) 0 dX5_init_4 rfl rfl ?_
  refine n_sipush (pc := 5) dX5_init_5 jcs_200 ?_
  refine n_newC (pc := 8) (N := 200) dX5_init_8 rfl (by omega) (fun q1 => ?_)
  refine n_putF (pc := 10) (ci := 5) (kf := 1) (C := RX5) (T := TX5) (N := 3) (fs' := [.int 0, .ref q1, .null]) (ws' := [(a, .inr (5, [.int 0, .ref q1, .null]))] ++ [(q1, .inl (jCC E, 200, .inl (fun _ => 0)))]) 0 tyX5 dX5_init_10 inX5 tyX5_ok nmX5 rfl rfl (by decide) tw_102 rfl rfl (tyX5_ok 1 (by decide)) rfl rfl (Nat.le_of_ble_eq_true rfl) rfl rfl ?_
  refine n_aload (pc := 13) 0 dX5_init_13 rfl rfl ?_
  refine n_iconst (pc := 14) dX5_init_14 jci_3 ?_
  refine n_newI (pc := 15) (N := 3) dX5_init_15 rfl (by omega) (fun q2 => ?_)
  refine n_putF (pc := 17) (ci := 5) (kf := 2) (C := RX5) (T := TX5) (N := 3) (fs' := [.int 0, .ref q1, .ref q2]) (ws' := ([(a, .inr (5, [.int 0, .ref q1, .ref q2]))] ++ [(q1, .inl (jCC E, 200, .inl (fun _ => 0)))]) ++ [(q2, .inl (jCI E, 3, .inl (fun _ => 0)))]) 0 tyX5 dX5_init_17 inX5 tyX5_ok nmX5 rfl rfl (by decide) tw_103 rfl rfl (tyX5_ok 2 (by decide)) rfl rfl (Nat.le_of_ble_eq_true rfl) rfl rfl ?_
  exact n_fin dX5_init_20 ⟨(fun r => match r.1 with | 1 => a | 10 => q1 | 11 => q2 | _ => 0), rfl, rfl⟩
set_option maxRecDepth 10000 in
set_option maxHeartbeats 4000000 in
theorem nX3 {E : jE} {a : Nat} {k : Nat} : nMR E 1 mX3_init a (.inr (3, [.int 0, .int 0, .null, .null])) 2 20 (fun w => ∃ f : jR → Nat, f (7, k) = a ∧ w = wl E f (nLP k)) := by
  show JN E 1 mX3_init (nRet mX3_init) _ 0 [(0, .ref a)] [] [(a, .inr (3, [.int 0, .int 0, .null, .null]))] 2 20
  refine n_aload (pc := 0) 0 dX3_init_0 rfl rfl ?_
  refine n_obj (pc := 1) dX3_init_1 tw_268 (by decide) ?_
  refine n_aload (pc := 4) 0 dX3_init_4 rfl rfl ?_
  refine n_bipush (pc := 5) dX3_init_5 jcb_10 ?_
  refine n_newI (pc := 7) (N := 10) dX3_init_7 rfl (by omega) (fun q1 => ?_)
  refine n_putF (pc := 9) (ci := 3) (kf := 2) (C := RX3) (T := TX3) (N := 4) (fs' := [.int 0, .int 0, .ref q1, .null]) (ws' := [(a, .inr (3, [.int 0, .int 0, .ref q1, .null]))] ++ [(q1, .inl (jCI E, 10, .inl (fun _ => 0)))]) 0 tyX3 dX3_init_9 inX3 tyX3_ok nmX3 rfl rfl (by decide) tw_274 rfl rfl (tyX3_ok 2 (by decide)) rfl rfl (Nat.le_of_ble_eq_true rfl) rfl rfl ?_
  refine n_aload (pc := 12) 0 dX3_init_12 rfl rfl ?_
  refine n_bipush (pc := 13) dX3_init_13 jcb_10 ?_
  refine n_newI (pc := 15) (N := 10) dX3_init_15 rfl (by omega) (fun q2 => ?_)
  refine n_putF (pc := 17) (ci := 3) (kf := 3) (C := RX3) (T := TX3) (N := 4) (fs' := [.int 0, .int 0, .ref q1, .ref q2]) (ws' := ([(a, .inr (3, [.int 0, .int 0, .ref q1, .ref q2]))] ++ [(q1, .inl (jCI E, 10, .inl (fun _ => 0)))]) ++ [(q2, .inl (jCI E, 10, .inl (fun _ => 0)))]) 0 tyX3 dX3_init_17 inX3 tyX3_ok nmX3 rfl rfl (by decide) tw_277 rfl rfl (tyX3_ok 3 (by decide)) rfl rfl (Nat.le_of_ble_eq_true rfl) rfl rfl ?_
  exact n_fin dX3_init_20 ⟨(fun r => match r.1 with | 7 => a | 40 => q1 | 41 => q2 | _ => 0), rfl, rfl⟩
set_option maxRecDepth 10000 in
set_option maxHeartbeats 4000000 in
theorem nX6 {E : jE} {a : Nat} {k : Nat} : nMR E 2 mX6_init a (.inr (6, [.null, .null])) 15 864 (fun w => ∃ f : jR → Nat, f (2, k) = a ∧ w = wl E f (nLW k)) := by
  show JN E 2 mX6_init (nRet mX6_init) _ 0 [(0, .ref a)] [] [(a, .inr (6, [.null, .null]))] 15 864
  refine n_aload (pc := 0) 0 dX6_init_0 rfl rfl ?_
  refine n_obj (pc := 1) dX6_init_1 tw_118 (by decide) ?_
  refine n_aload (pc := 4) 0 dX6_init_4 rfl rfl ?_
  refine n_new (pc := 5) (ci := 2) (C := RX2) (T := TX2) (N := 12) (fs := [.int 0, .int 0, .int 0, .int 0, .int 0, .null, .null, .null, .null, .null, .null, .null]) tyX2 dX6_init_5 inX2 tyX2_ok tw_119 tw_120 tw_72 rfl (fun j hj => match j, hj with | 0, _ => rfl | 1, _ => rfl | 2, _ => rfl | 3, _ => rfl | 4, _ => rfl | 5, _ => rfl | 6, _ => rfl | 7, _ => rfl | 8, _ => rfl | 9, _ => rfl | 10, _ => rfl | 11, _ => rfl | n + 12, h => absurd h (by omega)) (fun q1 => ?_)
  refine n_dup (pc := 8) dX6_init_8 ?_
  have h9 := n_callN (pc := 9) (host := "DropQueues") (E := E) (D := 2) (M := mX6_init) (Fi := (nRet mX6_init)) (Post := (fun w => ∃ f : jR → Nat, f (2, k) = a ∧ w = wl E f (nLW k))) (lv := [(0, .ref a)]) (rest := [.ref q1, .ref a]) (N := mX2_init) (mc := 7) (ms := 773) (mc' := 7) (ms' := 79) (wr := [(a, .inr (6, [.null, .null]))]) dX6_init_9 (nX2 (a := q1) (k := k)) (by decide) okX2_init rfl rfl (by decide) tw_122 (by decide) (by simp [Value.category])
  refine h9 (fun w1 hw1 => ?_)
  clear h9
  obtain ⟨f1, ef1, rfl⟩ := hw1
  subst ef1
  refine n_putF (pc := 12) (ci := 6) (kf := 0) (C := RX6) (T := TX6) (N := 2) (fs' := [.ref (f1 (3, k)), .null]) (ws' := [(a, .inr (6, [.ref (f1 (3, k)), .null]))] ++ wl E f1 (nLN k)) 0 tyX6 dX6_init_12 inX6 tyX6_ok nmX6 rfl rfl (by decide) tw_230 rfl rfl (tyX6_ok 0 (by decide)) rfl rfl (Nat.le_of_ble_eq_true rfl) rfl rfl ?_
  refine n_aload (pc := 15) 0 dX6_init_15 rfl rfl ?_
  refine n_new (pc := 16) (ci := 4) (C := RX4) (T := TX4) (N := 8) (fs := [.int 0, .int 0, .null, .null, .null, .null, .null, .null]) tyX4 dX6_init_16 inX4 tyX4_ok tw_189 tw_190 tw_73 rfl (fun j hj => match j, hj with | 0, _ => rfl | 1, _ => rfl | 2, _ => rfl | 3, _ => rfl | 4, _ => rfl | 5, _ => rfl | 6, _ => rfl | 7, _ => rfl | n + 8, h => absurd h (by omega)) (fun q2 => ?_)
  refine n_dup (pc := 19) dX6_init_19 ?_
  have h9 := n_callN (pc := 20) (host := "DropQueues") (E := E) (D := 2) (M := mX6_init) (Fi := (nRet mX6_init)) (Post := (fun w => ∃ f : jR → Nat, f (2, k) = a ∧ w = wl E f (nLW k))) (lv := [(0, .ref a)]) (rest := [.ref q2, .ref a]) (N := mX4_init) (mc := 0) (ms := 0) (mc' := 6) (ms' := 765) (wr := [(a, .inr (6, [.ref (f1 (3, k)), .null]))] ++ wl E f1 (nLN k)) dX6_init_20 (nX4 (a := q2) (k := k)) (by decide) okX4_init rfl rfl (by decide) tw_192 (by decide) (by simp [Value.category])
  refine h9 (fun w2 hw2 => ?_)
  clear h9
  obtain ⟨f2, ef2, rfl⟩ := hw2
  subst ef2
  refine n_putF (pc := 23) (ci := 6) (kf := 1) (C := RX6) (T := TX6) (N := 2) (fs' := [.ref (f1 (3, k)), .ref (f2 (4, k))]) (ws' := ([(a, .inr (6, [.ref (f1 (3, k)), .ref (f2 (4, k))]))] ++ wl E f1 (nLN k)) ++ wl E f2 (nLQ k)) 0 tyX6 dX6_init_23 inX6 tyX6_ok nmX6 rfl rfl (by decide) tw_234 rfl rfl (tyX6_ok 1 (by decide)) rfl rfl (Nat.le_of_ble_eq_true rfl) rfl rfl ?_
  exact n_fin dX6_init_26 ⟨(fun r => match r.1 with | 2 => a | 3 => f1 r | 20 => f1 r | 21 => f1 r | 22 => f1 r | 23 => f1 r | 24 => f1 r | 25 => f1 r | 26 => f1 r | _ => f2 r), rfl, rfl⟩
set_option maxRecDepth 10000 in
set_option maxHeartbeats 4000000 in
theorem nX1 {E : jE} {a : Nat} : nMR E 2 mX1_init a (.inr (1, [.null, .null, .null, .null])) 6 142 (fun w => ∃ f : jR → Nat, f (8, 0) = a ∧ w = wl E f nLM) := by
  show JN E 2 mX1_init (nRet mX1_init) _ 0 [(0, .ref a)] [] [(a, .inr (1, [.null, .null, .null, .null]))] 6 142
  refine n_aload (pc := 0) 0 dX1_init_0 rfl rfl ?_
  refine n_obj (pc := 1) dX1_init_1 tw_293 (by decide) ?_
  refine n_aload (pc := 4) 0 dX1_init_4 rfl rfl ?_
  refine n_bipush (pc := 5) dX1_init_5 jcb_18 ?_
  refine n_newI (pc := 7) (N := 18) dX1_init_7 rfl (by omega) (fun q1 => ?_)
  refine n_putF (pc := 9) (ci := 1) (kf := 0) (C := RX1) (T := TX1) (N := 4) (fs' := [.ref q1, .null, .null, .null]) (ws' := [(a, .inr (1, [.ref q1, .null, .null, .null]))] ++ [(q1, .inl (jCI E, 18, .inl (fun _ => 0)))]) 0 tyX1 dX1_init_9 inX1 tyX1_ok nmX1 rfl rfl (by decide) tw_296 rfl rfl (tyX1_ok 0 (by decide)) rfl rfl (Nat.le_of_ble_eq_true rfl) rfl rfl ?_
  refine n_aload (pc := 12) 0 dX1_init_12 rfl rfl ?_
  refine n_new (pc := 13) (ci := 3) (C := RX3) (T := TX3) (N := 4) (fs := [.int 0, .int 0, .null, .null]) tyX3 dX1_init_13 inX3 tyX3_ok tw_294 tw_264 tw_75 rfl (fun j hj => match j, hj with | 0, _ => rfl | 1, _ => rfl | 2, _ => rfl | 3, _ => rfl | n + 4, h => absurd h (by omega)) (fun q2 => ?_)
  refine n_dup (pc := 16) dX1_init_16 ?_
  have h9 := n_callN (pc := 17) (host := "DropQueues") (E := E) (D := 2) (M := mX1_init) (Fi := (nRet mX1_init)) (Post := (fun w => ∃ f : jR → Nat, f (8, 0) = a ∧ w = wl E f nLM)) (lv := [(0, .ref a)]) (rest := [.ref q2, .ref a]) (N := mX3_init) (mc := 2) (ms := 100) (mc' := 2) (ms' := 20) (wr := [(a, .inr (1, [.ref q1, .null, .null, .null]))] ++ [(q1, .inl (jCI E, 18, .inl (fun _ => 0)))]) dX1_init_17 (nX3 (a := q2) (k := 1)) (by decide) okX3_init rfl rfl (by decide) tw_266 (by decide) (by simp [Value.category])
  refine h9 (fun w1 hw1 => ?_)
  clear h9
  obtain ⟨f1, ef1, rfl⟩ := hw1
  subst ef1
  refine n_putF (pc := 20) (ci := 1) (kf := 1) (C := RX1) (T := TX1) (N := 4) (fs' := [.ref q1, .ref (f1 (7, 1)), .null, .null]) (ws' := ([(a, .inr (1, [.ref q1, .ref (f1 (7, 1)), .null, .null]))] ++ [(q1, .inl (jCI E, 18, .inl (fun _ => 0)))]) ++ wl E f1 (nLP 1)) 0 tyX1 dX1_init_20 inX1 tyX1_ok nmX1 rfl rfl (by decide) tw_298 rfl rfl (tyX1_ok 1 (by decide)) rfl rfl (Nat.le_of_ble_eq_true rfl) rfl rfl ?_
  refine n_aload (pc := 23) 0 dX1_init_23 rfl rfl ?_
  refine n_bipush (pc := 24) dX1_init_24 jcb_10 ?_
  refine n_newI (pc := 26) (N := 10) dX1_init_26 rfl (by omega) (fun q3 => ?_)
  refine n_putF (pc := 28) (ci := 1) (kf := 2) (C := RX1) (T := TX1) (N := 4) (fs' := [.ref q1, .ref (f1 (7, 1)), .ref q3, .null]) (ws' := (([(a, .inr (1, [.ref q1, .ref (f1 (7, 1)), .ref q3, .null]))] ++ [(q1, .inl (jCI E, 18, .inl (fun _ => 0)))]) ++ wl E f1 (nLP 1)) ++ [(q3, .inl (jCI E, 10, .inl (fun _ => 0)))]) 0 tyX1 dX1_init_28 inX1 tyX1_ok nmX1 rfl rfl (by decide) tw_299 rfl rfl (tyX1_ok 2 (by decide)) rfl rfl (Nat.le_of_ble_eq_true rfl) rfl rfl ?_
  refine n_aload (pc := 31) 0 dX1_init_31 rfl rfl ?_
  refine n_bipush (pc := 32) dX1_init_32 jcb_90 ?_
  refine n_newI (pc := 34) (N := 90) dX1_init_34 rfl (by omega) (fun q4 => ?_)
  refine n_putF (pc := 36) (ci := 1) (kf := 3) (C := RX1) (T := TX1) (N := 4) (fs' := [.ref q1, .ref (f1 (7, 1)), .ref q3, .ref q4]) (ws' := ((([(a, .inr (1, [.ref q1, .ref (f1 (7, 1)), .ref q3, .ref q4]))] ++ [(q1, .inl (jCI E, 18, .inl (fun _ => 0)))]) ++ wl E f1 (nLP 1)) ++ [(q3, .inl (jCI E, 10, .inl (fun _ => 0)))]) ++ [(q4, .inl (jCI E, 90, .inl (fun _ => 0)))]) 0 tyX1 dX1_init_36 inX1 tyX1_ok nmX1 rfl rfl (by decide) tw_300 rfl rfl (tyX1_ok 3 (by decide)) rfl rfl (Nat.le_of_ble_eq_true rfl) rfl rfl ?_
  exact n_fin dX1_init_39 ⟨(fun r => match r.1 with | 8 => a | 42 => q1 | 43 => q3 | 44 => q4 | _ => f1 r), rfl, rfl⟩
