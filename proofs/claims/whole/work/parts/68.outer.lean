set_option maxRecDepth 10000 in
set_option maxHeartbeats 4000000 in
theorem nX7 {E : jE} {a : Nat} : JN E 4 mX7_init (fun pc lv => pc = 70 ∧ lv = [(0, .ref a)]) (fun w => ∃ f : jR → Nat, f (0, 0) = a ∧ w = wl E f nLC) 0 [(0, .ref a)] [] [(a, .inr (7, [.null, .null, .null, .null, .null, .null]))] 111 5579 := by
  refine n_aload (pc := 0) 0 dX7_init_0 rfl rfl ?_
  refine n_obj (pc := 1) dX7_init_1 tw_91 (by decide) ?_
  refine n_aload (pc := 4) 0 dX7_init_4 rfl rfl ?_
  refine n_new (pc := 5) (ci := 5) (C := RX5) (T := TX5) (N := 3) (fs := [.int 0, .null, .null]) tyX5 dX7_init_5 inX5 tyX5_ok tw_94 tw_95 tw_70 rfl (fun j hj => match j, hj with | 0, _ => rfl | 1, _ => rfl | 2, _ => rfl | n + 3, h => absurd h (by omega)) (fun q1 => ?_)
  refine n_dup (pc := 8) dX7_init_8 ?_
  have h9 := n_callN (pc := 9) (host := "DropQueues") (E := E) (D := 4) (M := mX7_init) (Fi := (fun pc lv => pc = 70 ∧ lv = [(0, .ref a)])) (Post := (fun w => ∃ f : jR → Nat, f (0, 0) = a ∧ w = wl E f nLC)) (lv := [(0, .ref a)]) (rest := [.ref q1, .ref a]) (N := mX5_init) (mc := 108) (ms := 5373) (mc' := 2) (ms' := 203) (wr := [(a, .inr (7, [.null, .null, .null, .null, .null, .null]))]) dX7_init_9 (nX5 (a := q1)) (by decide) okX5_init rfl rfl (by decide) tw_97 (by decide) (by simp [Value.category])
  refine h9 (fun w1 hw1 => ?_)
  clear h9
  obtain ⟨f1, ef1, rfl⟩ := hw1
  subst ef1
  refine n_putF (pc := 12) (ci := 7) (kf := 0) (C := RX7) (T := TX7) (N := 6) (fs' := [.ref (f1 (1, 0)), .null, .null, .null, .null, .null]) (ws' := [(a, .inr (7, [.ref (f1 (1, 0)), .null, .null, .null, .null, .null]))] ++ wl E f1 nLT) 0 tyX7 dX7_init_12 inX7 tyX7_ok nmX7 rfl rfl (by decide) tw_478 rfl rfl (tyX7_ok 0 (by decide)) rfl rfl (Nat.le_of_ble_eq_true rfl) rfl rfl ?_
  refine n_aload (pc := 15) 0 dX7_init_15 rfl rfl ?_
  refine n_new (pc := 16) (ci := 6) (C := RX6) (T := TX6) (N := 2) (fs := [.null, .null]) tyX6 dX7_init_16 inX6 tyX6_ok tw_113 tw_114 tw_71 rfl (fun j hj => match j, hj with | 0, _ => rfl | 1, _ => rfl | n + 2, h => absurd h (by omega)) (fun q2 => ?_)
  refine n_dup (pc := 19) dX7_init_19 ?_
  have h9 := n_callN (pc := 20) (host := "DropQueues") (E := E) (D := 4) (M := mX7_init) (Fi := (fun pc lv => pc = 70 ∧ lv = [(0, .ref a)])) (Post := (fun w => ∃ f : jR → Nat, f (0, 0) = a ∧ w = wl E f nLC)) (lv := [(0, .ref a)]) (rest := [.ref q2, .ref a]) (N := mX6_init) (mc := 92) (ms := 4507) (mc' := 15) (ms' := 864) (wr := [(a, .inr (7, [.ref (f1 (1, 0)), .null, .null, .null, .null, .null]))] ++ wl E f1 nLT) dX7_init_20 (nX6 (a := q2) (k := 0)) (by decide) okX6_init rfl rfl (by decide) tw_116 (by decide) (by simp [Value.category])
  refine h9 (fun w2 hw2 => ?_)
  clear h9
  obtain ⟨f2, ef2, rfl⟩ := hw2
  subst ef2
  refine n_putF (pc := 23) (ci := 7) (kf := 1) (C := RX7) (T := TX7) (N := 6) (fs' := [.ref (f1 (1, 0)), .ref (f2 (2, 0)), .null, .null, .null, .null]) (ws' := ([(a, .inr (7, [.ref (f1 (1, 0)), .ref (f2 (2, 0)), .null, .null, .null, .null]))] ++ wl E f1 nLT) ++ wl E f2 (nLW 0)) 0 tyX7 dX7_init_23 inX7 tyX7_ok nmX7 rfl rfl (by decide) tw_479 rfl rfl (tyX7_ok 1 (by decide)) rfl rfl (Nat.le_of_ble_eq_true rfl) rfl rfl ?_
  refine n_aload (pc := 26) 0 dX7_init_26 rfl rfl ?_
  refine n_new (pc := 27) (ci := 6) (C := RX6) (T := TX6) (N := 2) (fs := [.null, .null]) tyX6 dX7_init_27 inX6 tyX6_ok tw_113 tw_114 tw_71 rfl (fun j hj => match j, hj with | 0, _ => rfl | 1, _ => rfl | n + 2, h => absurd h (by omega)) (fun q3 => ?_)
  refine n_dup (pc := 30) dX7_init_30 ?_
  have h9 := n_callN (pc := 31) (host := "DropQueues") (E := E) (D := 4) (M := mX7_init) (Fi := (fun pc lv => pc = 70 ∧ lv = [(0, .ref a)])) (Post := (fun w => ∃ f : jR → Nat, f (0, 0) = a ∧ w = wl E f nLC)) (lv := [(0, .ref a)]) (rest := [.ref q3, .ref a]) (N := mX6_init) (mc := 76) (ms := 3641) (mc' := 15) (ms' := 864) (wr := ([(a, .inr (7, [.ref (f1 (1, 0)), .ref (f2 (2, 0)), .null, .null, .null, .null]))] ++ wl E f1 nLT) ++ wl E f2 (nLW 0)) dX7_init_31 (nX6 (a := q3) (k := 1)) (by decide) okX6_init rfl rfl (by decide) tw_116 (by decide) (by simp [Value.category])
  refine h9 (fun w3 hw3 => ?_)
  clear h9
  obtain ⟨f3, ef3, rfl⟩ := hw3
  subst ef3
  refine n_putF (pc := 34) (ci := 7) (kf := 2) (C := RX7) (T := TX7) (N := 6) (fs' := [.ref (f1 (1, 0)), .ref (f2 (2, 0)), .ref (f3 (2, 1)), .null, .null, .null]) (ws' := (([(a, .inr (7, [.ref (f1 (1, 0)), .ref (f2 (2, 0)), .ref (f3 (2, 1)), .null, .null, .null]))] ++ wl E f1 nLT) ++ wl E f2 (nLW 0)) ++ wl E f3 (nLW 1)) 0 tyX7 dX7_init_34 inX7 tyX7_ok nmX7 rfl rfl (by decide) tw_480 rfl rfl (tyX7_ok 2 (by decide)) rfl rfl (Nat.le_of_ble_eq_true rfl) rfl rfl ?_
  refine n_aload (pc := 37) 0 dX7_init_37 rfl rfl ?_
  refine n_new (pc := 38) (ci := 0) (C := RX0) (T := TX0) (N := 3) (fs := [.int 0, .int 0, .null]) tyX0 dX7_init_38 inX0 tyX0_ok tw_243 tw_244 tw_74 rfl (fun j hj => match j, hj with | 0, _ => rfl | 1, _ => rfl | 2, _ => rfl | n + 3, h => absurd h (by omega)) (fun q4 => ?_)
  refine n_dup (pc := 41) dX7_init_41 ?_
  have h9 := n_callI (pc := 42) (E := E) (D := 4) (M := mX7_init) (Fi := (fun pc lv => pc = 70 ∧ lv = [(0, .ref a)])) (Post := (fun w => ∃ f : jR → Nat, f (0, 0) = a ∧ w = wl E f nLC)) (lv := [(0, .ref a)]) (rest := [.ref q4, .ref a]) (N := mX0_init) (mc := 10) (ms := 170) (mc' := 65) (ms' := 3468) (wr := (([(a, .inr (7, [.ref (f1 (1, 0)), .ref (f2 (2, 0)), .ref (f3 (2, 1)), .null, .null, .null]))] ++ wl E f1 nLT) ++ wl E f2 (nLW 0)) ++ wl E f3 (nLW 1)) dX7_init_42 (nX0 (a := q4)) (by decide) okX0_init rfl rfl (by decide) tw_246 tw_245 (by simp [Value.category])
  refine h9 (fun w4 hw4 => ?_)
  clear h9
  obtain ⟨f4, ef4, rfl⟩ := hw4
  subst ef4
  refine n_putF (pc := 45) (ci := 7) (kf := 3) (C := RX7) (T := TX7) (N := 6) (fs' := [.ref (f1 (1, 0)), .ref (f2 (2, 0)), .ref (f3 (2, 1)), .ref (f4 (5, 0)), .null, .null]) (ws' := ((([(a, .inr (7, [.ref (f1 (1, 0)), .ref (f2 (2, 0)), .ref (f3 (2, 1)), .ref (f4 (5, 0)), .null, .null]))] ++ wl E f1 nLT) ++ wl E f2 (nLW 0)) ++ wl E f3 (nLW 1)) ++ wl E f4 nLH) 0 tyX7 dX7_init_45 inX7 tyX7_ok nmX7 rfl rfl (by decide) tw_481 rfl rfl (tyX7_ok 3 (by decide)) rfl rfl (Nat.le_of_ble_eq_true rfl) rfl rfl ?_
  refine n_aload (pc := 48) 0 dX7_init_48 rfl rfl ?_
  refine n_new (pc := 49) (ci := 3) (C := RX3) (T := TX3) (N := 4) (fs := [.int 0, .int 0, .null, .null]) tyX3 dX7_init_49 inX3 tyX3_ok tw_263 tw_264 tw_75 rfl (fun j hj => match j, hj with | 0, _ => rfl | 1, _ => rfl | 2, _ => rfl | 3, _ => rfl | n + 4, h => absurd h (by omega)) (fun q5 => ?_)
  refine n_dup (pc := 52) dX7_init_52 ?_
  have h9 := n_callN (pc := 53) (host := "DropQueues") (E := E) (D := 4) (M := mX7_init) (Fi := (fun pc lv => pc = 70 ∧ lv = [(0, .ref a)])) (Post := (fun w => ∃ f : jR → Nat, f (0, 0) = a ∧ w = wl E f nLC)) (lv := [(0, .ref a)]) (rest := [.ref q5, .ref a]) (N := mX3_init) (mc := 7) (ms := 146) (mc' := 2) (ms' := 20) (wr := ((([(a, .inr (7, [.ref (f1 (1, 0)), .ref (f2 (2, 0)), .ref (f3 (2, 1)), .ref (f4 (5, 0)), .null, .null]))] ++ wl E f1 nLT) ++ wl E f2 (nLW 0)) ++ wl E f3 (nLW 1)) ++ wl E f4 nLH) dX7_init_53 (nX3 (a := q5) (k := 0)) (by decide) okX3_init rfl rfl (by decide) tw_266 (by decide) (by simp [Value.category])
  refine h9 (fun w5 hw5 => ?_)
  clear h9
  obtain ⟨f5, ef5, rfl⟩ := hw5
  subst ef5
  refine n_putF (pc := 56) (ci := 7) (kf := 4) (C := RX7) (T := TX7) (N := 6) (fs' := [.ref (f1 (1, 0)), .ref (f2 (2, 0)), .ref (f3 (2, 1)), .ref (f4 (5, 0)), .ref (f5 (7, 0)), .null]) (ws' := (((([(a, .inr (7, [.ref (f1 (1, 0)), .ref (f2 (2, 0)), .ref (f3 (2, 1)), .ref (f4 (5, 0)), .ref (f5 (7, 0)), .null]))] ++ wl E f1 nLT) ++ wl E f2 (nLW 0)) ++ wl E f3 (nLW 1)) ++ wl E f4 nLH) ++ wl E f5 (nLP 0)) 0 tyX7 dX7_init_56 inX7 tyX7_ok nmX7 rfl rfl (by decide) tw_482 rfl rfl (tyX7_ok 4 (by decide)) rfl rfl (Nat.le_of_ble_eq_true rfl) rfl rfl ?_
  refine n_aload (pc := 59) 0 dX7_init_59 rfl rfl ?_
  refine n_new (pc := 60) (ci := 1) (C := RX1) (T := TX1) (N := 4) (fs := [.null, .null, .null, .null]) tyX1 dX7_init_60 inX1 tyX1_ok tw_288 tw_289 tw_76 rfl (fun j hj => match j, hj with | 0, _ => rfl | 1, _ => rfl | 2, _ => rfl | 3, _ => rfl | n + 4, h => absurd h (by omega)) (fun q6 => ?_)
  refine n_dup (pc := 63) dX7_init_63 ?_
  have h9 := n_callN (pc := 64) (host := "DropQueues") (E := E) (D := 4) (M := mX7_init) (Fi := (fun pc lv => pc = 70 ∧ lv = [(0, .ref a)])) (Post := (fun w => ∃ f : jR → Nat, f (0, 0) = a ∧ w = wl E f nLC)) (lv := [(0, .ref a)]) (rest := [.ref q6, .ref a]) (N := mX1_init) (mc := 0) (ms := 0) (mc' := 6) (ms' := 142) (wr := (((([(a, .inr (7, [.ref (f1 (1, 0)), .ref (f2 (2, 0)), .ref (f3 (2, 1)), .ref (f4 (5, 0)), .ref (f5 (7, 0)), .null]))] ++ wl E f1 nLT) ++ wl E f2 (nLW 0)) ++ wl E f3 (nLW 1)) ++ wl E f4 nLH) ++ wl E f5 (nLP 0)) dX7_init_64 (nX1 (a := q6)) (by decide) okX1_init rfl rfl (by decide) tw_291 (by decide) (by simp [Value.category])
  refine h9 (fun w6 hw6 => ?_)
  clear h9
  obtain ⟨f6, ef6, rfl⟩ := hw6
  subst ef6
  refine n_putF (pc := 67) (ci := 7) (kf := 5) (C := RX7) (T := TX7) (N := 6) (fs' := [.ref (f1 (1, 0)), .ref (f2 (2, 0)), .ref (f3 (2, 1)), .ref (f4 (5, 0)), .ref (f5 (7, 0)), .ref (f6 (8, 0))]) (ws' := ((((([(a, .inr (7, [.ref (f1 (1, 0)), .ref (f2 (2, 0)), .ref (f3 (2, 1)), .ref (f4 (5, 0)), .ref (f5 (7, 0)), .ref (f6 (8, 0))]))] ++ wl E f1 nLT) ++ wl E f2 (nLW 0)) ++ wl E f3 (nLW 1)) ++ wl E f4 nLH) ++ wl E f5 (nLP 0)) ++ wl E f6 nLM) 0 tyX7 dX7_init_67 inX7 tyX7_ok nmX7 rfl rfl (by decide) tw_483 rfl rfl (tyX7_ok 5 (by decide)) rfl rfl (Nat.le_of_ble_eq_true rfl) rfl rfl ?_
  exact n_fin ⟨rfl, rfl⟩ ⟨(fun r => match r.1 with | 0 => a | 1 => f1 r | 10 => f1 r | 11 => f1 r | 5 => f4 r | 6 => f4 r | 8 => f6 r | 42 => f6 r | 43 => f6 r | 44 => f6 r | 7 => (match r.2 with | 0 => f5 r | _ => f6 r) | 40 => (match r.2 with | 0 => f5 r | _ => f6 r) | 41 => (match r.2 with | 0 => f5 r | _ => f6 r) | _ => match r.2 with | 0 => f2 r | 1 => f3 r | _ => f4 r), rfl, rfl⟩
