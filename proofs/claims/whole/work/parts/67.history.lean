theorem n_up4 {G : va_G} {cl : List vw_C} {H : Heap} {x : Nat × va_E} {q : Nat} {cA : ClassId} {f g : Nat → Option Nat} {ws : va_W} (h : ∀ i, i < 4 → f i = g i) (hP : va_P G cl (x :: (q, .inl (cA, 4, .inr (.inr (.inr (.inr f))))) :: ws) H) : va_P G cl (x :: (q, .inl (cA, 4, .inr (.inr (.inr (.inr g))))) :: ws) H := by
  intro k y hy
  match k, hy with
  | 0, hy => exact hP 0 y hy
  | 1, hy =>
    have e9 : y = (q, .inl (cA, 4, .inr (.inr (.inr (.inr g))))) := (Option.some.inj hy).symm
    subst e9
    have h9 : H[q]? = some (vp_cell cA (4, .inr (.inr (.inr (.inr f))))) := hP 1 (q, .inl (cA, 4, .inr (.inr (.inr (.inr f))))) rfl
    have e8 : vp_cell cA (4, .inr (.inr (.inr (.inr g)))) = vp_cell cA (4, .inr (.inr (.inr (.inr f)))) := by
      rw [vp_cell_q, vp_cell_q]
      unfold arrV
      congr 1
      congr 1
      funext j
      show va_rf (g j.val) = va_rf (f j.val)
      rw [h j.val j.isLt]
    show H[q]? = some (vp_cell cA (4, .inr (.inr (.inr (.inr g)))))
    rw [e8]
    exact h9
  | k + 2, hy => exact hP (k + 2) y hy
theorem n_adr {A : Nat → Prop} {ws ws' : va_W} (h : ws.map Prod.fst = ws'.map Prod.fst) (hD : va_D A ws) : va_D A ws' := by
  have tr : ∀ (k : Nat) (x : Nat × va_E), ws'[k]? = some x → ∃ y : Nat × va_E, ws[k]? = some y ∧ y.1 = x.1 := by
    intro k x hx
    have h1 : (ws.map Prod.fst)[k]? = some x.1 := by rw [h, List.getElem?_map, hx]; rfl
    rw [List.getElem?_map] at h1
    cases h2 : ws[k]? with
    | none => rw [h2] at h1; cases h1
    | some y => rw [h2] at h1; exact ⟨y, rfl, Option.some.inj h1⟩
  refine ⟨fun i j p q hp hq he => ?_, fun k q hq => ?_⟩
  · obtain ⟨p', hp', e1⟩ := tr i p hp
    obtain ⟨q', hq', e2⟩ := tr j q hq
    exact hD.1 i j p' q' hp' hq' (by rw [e1, e2]; exact he)
  · obtain ⟨q', hq', e2⟩ := tr k q hq
    rw [← e2]
    exact hD.2 k q' hq'
set_option maxRecDepth 10000 in
set_option maxHeartbeats 4000000 in
theorem nX0 {E : jE} {a : Nat} : nMR E 3 mX0_init a (.inr (0, [.int 0, .int 0, .null])) 65 3468 (fun w => ∃ f : jR → Nat, f (5, 0) = a ∧ w = wl E f nLH) := by
  show JN E 3 mX0_init (nRet mX0_init) _ 0 [(0, .ref a)] [] [(a, .inr (0, [.int 0, .int 0, .null]))] 65 3468
  refine n_aload (pc := 0) 0 dX0_init_0 rfl rfl ?_
  refine n_obj (pc := 1) dX0_init_1 tw_248 (by decide) ?_
  refine n_aload (pc := 4) 0 dX0_init_4 rfl rfl ?_
  refine n_iconst (pc := 5) dX0_init_5 jci_4 ?_
  refine n_newO (pc := 6) dX0_init_6 tw_249 (fun q1 => ?_)
  refine n_putF (pc := 9) (ci := 0) (kf := 2) (C := RX0) (T := TX0) (N := 3) (fs' := [.int 0, .int 0, .ref q1]) (ws' := [(a, .inr (0, [.int 0, .int 0, .ref q1]))] ++ [(q1, .inl (jCO E, 4, .inr (.inr (.inr (.inr (fun _ => none))))))]) 0 tyX0 dX0_init_9 inX0 tyX0_ok nmX0 rfl rfl (by decide) tw_255 rfl rfl (tyX0_ok 2 (by decide)) rfl rfl (Nat.le_of_ble_eq_true rfl) rfl rfl ?_
  refine n_iconst (pc := 12) dX0_init_12 jci_0 ?_
  refine n_istore (pc := 13) (lv' := [(1, .int 0), (0, .ref a)]) dX0_init_13 rfl (by decide) rfl ?_
  refine n_iload (pc := 14) 0 dX0_init_14 rfl rfl ?_
  refine n_iconst (pc := 15) dX0_init_15 jci_4 ?_
  refine n_icmp_ge (pc := 16) (tgt := 38) dX0_init_16 (by decide) (fun h => absurd h (by decide)) (fun _ => ?_)
  refine n_aload (pc := 19) 1 dX0_init_19 rfl rfl ?_
  refine n_get (pc := 20) (ci := 0) (kf := 2) (C := RX0) (T := TX0) (N := 3) 0 dX0_init_20 inX0 rfl rfl (by decide) tw_255 rfl ?_
  refine n_iload (pc := 23) 0 dX0_init_23 rfl rfl ?_
  refine n_new (pc := 24) (ci := 6) (C := RX6) (T := TX6) (N := 2) (fs := [.null, .null]) tyX6 dX0_init_24 inX6 tyX6_ok tw_249 tw_114 tw_71 rfl (fun j hj => match j, hj with | 0, _ => rfl | 1, _ => rfl | n + 2, h => absurd h (by omega)) (fun q2 => ?_)
  refine n_dup (pc := 27) dX0_init_27 ?_
  have h9 := n_callN (pc := 28) (host := "DropQueues") (E := E) (D := 3) (M := mX0_init) (Fi := (nRet mX0_init)) (Post := (fun w => ∃ f : jR → Nat, f (5, 0) = a ∧ w = wl E f nLH)) (lv := [(1, .int 0), (0, .ref a)]) (rest := [.ref q2, .int 0, .ref q1]) (N := mX6_init) (mc := 48) (ms := 2598) (mc' := 15) (ms' := 864) (wr := [(a, .inr (0, [.int 0, .int 0, .ref q1]))] ++ [(q1, .inl (jCO E, 4, .inr (.inr (.inr (.inr (fun _ => none))))))]) dX0_init_28 (nX6 (a := q2) (k := 2)) (by decide) okX6_init rfl rfl (by decide) tw_116 (by decide) (by simp [Value.category])
  refine h9 (fun w1 hw1 => ?_)
  clear h9
  obtain ⟨f1, ef1, rfl⟩ := hw1
  subst ef1
  refine n_aast (pc := 31) (ws' := ([(a, .inr (0, [.int 0, .int 0, .ref q1]))] ++ [(q1, .inl (jCO E, 4, .inr (.inr (.inr (.inr (va_up (fun _ => none) 0 (some (f1 (2, 2)))))))))]) ++ wl E f1 (nLW 2)) 1 2 dX0_init_31 rfl rfl (show jIn (0 : Int32) 4 by decide) rfl ?_
  refine n_iinc (pc := 32) (v := 1) (lv' := [(1, .int 1), (0, .ref a)]) 0 dX0_init_32 rfl (by decide) (by decide) rfl ?_
  refine n_goto (pc := 35) (tgt := 14) dX0_init_35 (by decide) ?_
  refine n_iload (pc := 14) 0 dX0_init_14 rfl rfl ?_
  refine n_iconst (pc := 15) dX0_init_15 jci_4 ?_
  refine n_icmp_ge (pc := 16) (tgt := 38) dX0_init_16 (by decide) (fun h => absurd h (by decide)) (fun _ => ?_)
  refine n_aload (pc := 19) 1 dX0_init_19 rfl rfl ?_
  refine n_get (pc := 20) (ci := 0) (kf := 2) (C := RX0) (T := TX0) (N := 3) 0 dX0_init_20 inX0 rfl rfl (by decide) tw_255 rfl ?_
  refine n_iload (pc := 23) 0 dX0_init_23 rfl rfl ?_
  refine n_new (pc := 24) (ci := 6) (C := RX6) (T := TX6) (N := 2) (fs := [.null, .null]) tyX6 dX0_init_24 inX6 tyX6_ok tw_249 tw_114 tw_71 rfl (fun j hj => match j, hj with | 0, _ => rfl | 1, _ => rfl | n + 2, h => absurd h (by omega)) (fun q3 => ?_)
  refine n_dup (pc := 27) dX0_init_27 ?_
  have h9 := n_callN (pc := 28) (host := "DropQueues") (E := E) (D := 3) (M := mX0_init) (Fi := (nRet mX0_init)) (Post := (fun w => ∃ f : jR → Nat, f (5, 0) = a ∧ w = wl E f nLH)) (lv := [(1, .int 1), (0, .ref a)]) (rest := [.ref q3, .int 1, .ref q1]) (N := mX6_init) (mc := 32) (ms := 1732) (mc' := 15) (ms' := 864) (wr := ([(a, .inr (0, [.int 0, .int 0, .ref q1]))] ++ [(q1, .inl (jCO E, 4, .inr (.inr (.inr (.inr (va_up (fun _ => none) 0 (some (f1 (2, 2)))))))))]) ++ wl E f1 (nLW 2)) dX0_init_28 (nX6 (a := q3) (k := 3)) (by decide) okX6_init rfl rfl (by decide) tw_116 (by decide) (by simp [Value.category])
  refine h9 (fun w2 hw2 => ?_)
  clear h9
  obtain ⟨f2, ef2, rfl⟩ := hw2
  subst ef2
  refine n_aast (pc := 31) (ws' := (([(a, .inr (0, [.int 0, .int 0, .ref q1]))] ++ [(q1, .inl (jCO E, 4, .inr (.inr (.inr (.inr (va_up (va_up (fun _ => none) 0 (some (f1 (2, 2)))) 1 (some (f2 (2, 3)))))))))]) ++ wl E f1 (nLW 2)) ++ wl E f2 (nLW 3)) 1 18 dX0_init_31 rfl rfl (show jIn (1 : Int32) 4 by decide) rfl ?_
  refine n_iinc (pc := 32) (v := 2) (lv' := [(1, .int 2), (0, .ref a)]) 0 dX0_init_32 rfl (by decide) (by decide) rfl ?_
  refine n_goto (pc := 35) (tgt := 14) dX0_init_35 (by decide) ?_
  refine n_iload (pc := 14) 0 dX0_init_14 rfl rfl ?_
  refine n_iconst (pc := 15) dX0_init_15 jci_4 ?_
  refine n_icmp_ge (pc := 16) (tgt := 38) dX0_init_16 (by decide) (fun h => absurd h (by decide)) (fun _ => ?_)
  refine n_aload (pc := 19) 1 dX0_init_19 rfl rfl ?_
  refine n_get (pc := 20) (ci := 0) (kf := 2) (C := RX0) (T := TX0) (N := 3) 0 dX0_init_20 inX0 rfl rfl (by decide) tw_255 rfl ?_
  refine n_iload (pc := 23) 0 dX0_init_23 rfl rfl ?_
  refine n_new (pc := 24) (ci := 6) (C := RX6) (T := TX6) (N := 2) (fs := [.null, .null]) tyX6 dX0_init_24 inX6 tyX6_ok tw_249 tw_114 tw_71 rfl (fun j hj => match j, hj with | 0, _ => rfl | 1, _ => rfl | n + 2, h => absurd h (by omega)) (fun q4 => ?_)
  refine n_dup (pc := 27) dX0_init_27 ?_
  have h9 := n_callN (pc := 28) (host := "DropQueues") (E := E) (D := 3) (M := mX0_init) (Fi := (nRet mX0_init)) (Post := (fun w => ∃ f : jR → Nat, f (5, 0) = a ∧ w = wl E f nLH)) (lv := [(1, .int 2), (0, .ref a)]) (rest := [.ref q4, .int 2, .ref q1]) (N := mX6_init) (mc := 16) (ms := 866) (mc' := 15) (ms' := 864) (wr := (([(a, .inr (0, [.int 0, .int 0, .ref q1]))] ++ [(q1, .inl (jCO E, 4, .inr (.inr (.inr (.inr (va_up (va_up (fun _ => none) 0 (some (f1 (2, 2)))) 1 (some (f2 (2, 3)))))))))]) ++ wl E f1 (nLW 2)) ++ wl E f2 (nLW 3)) dX0_init_28 (nX6 (a := q4) (k := 4)) (by decide) okX6_init rfl rfl (by decide) tw_116 (by decide) (by simp [Value.category])
  refine h9 (fun w3 hw3 => ?_)
  clear h9
  obtain ⟨f3, ef3, rfl⟩ := hw3
  subst ef3
  refine n_aast (pc := 31) (ws' := ((([(a, .inr (0, [.int 0, .int 0, .ref q1]))] ++ [(q1, .inl (jCO E, 4, .inr (.inr (.inr (.inr (va_up (va_up (va_up (fun _ => none) 0 (some (f1 (2, 2)))) 1 (some (f2 (2, 3)))) 2 (some (f3 (2, 4)))))))))]) ++ wl E f1 (nLW 2)) ++ wl E f2 (nLW 3)) ++ wl E f3 (nLW 4)) 1 34 dX0_init_31 rfl rfl (show jIn (2 : Int32) 4 by decide) rfl ?_
  refine n_iinc (pc := 32) (v := 3) (lv' := [(1, .int 3), (0, .ref a)]) 0 dX0_init_32 rfl (by decide) (by decide) rfl ?_
  refine n_goto (pc := 35) (tgt := 14) dX0_init_35 (by decide) ?_
  refine n_iload (pc := 14) 0 dX0_init_14 rfl rfl ?_
  refine n_iconst (pc := 15) dX0_init_15 jci_4 ?_
  refine n_icmp_ge (pc := 16) (tgt := 38) dX0_init_16 (by decide) (fun h => absurd h (by decide)) (fun _ => ?_)
  refine n_aload (pc := 19) 1 dX0_init_19 rfl rfl ?_
  refine n_get (pc := 20) (ci := 0) (kf := 2) (C := RX0) (T := TX0) (N := 3) 0 dX0_init_20 inX0 rfl rfl (by decide) tw_255 rfl ?_
  refine n_iload (pc := 23) 0 dX0_init_23 rfl rfl ?_
  refine n_new (pc := 24) (ci := 6) (C := RX6) (T := TX6) (N := 2) (fs := [.null, .null]) tyX6 dX0_init_24 inX6 tyX6_ok tw_249 tw_114 tw_71 rfl (fun j hj => match j, hj with | 0, _ => rfl | 1, _ => rfl | n + 2, h => absurd h (by omega)) (fun q5 => ?_)
  refine n_dup (pc := 27) dX0_init_27 ?_
  have h9 := n_callN (pc := 28) (host := "DropQueues") (E := E) (D := 3) (M := mX0_init) (Fi := (nRet mX0_init)) (Post := (fun w => ∃ f : jR → Nat, f (5, 0) = a ∧ w = wl E f nLH)) (lv := [(1, .int 3), (0, .ref a)]) (rest := [.ref q5, .int 3, .ref q1]) (N := mX6_init) (mc := 0) (ms := 0) (mc' := 15) (ms' := 864) (wr := ((([(a, .inr (0, [.int 0, .int 0, .ref q1]))] ++ [(q1, .inl (jCO E, 4, .inr (.inr (.inr (.inr (va_up (va_up (va_up (fun _ => none) 0 (some (f1 (2, 2)))) 1 (some (f2 (2, 3)))) 2 (some (f3 (2, 4)))))))))]) ++ wl E f1 (nLW 2)) ++ wl E f2 (nLW 3)) ++ wl E f3 (nLW 4)) dX0_init_28 (nX6 (a := q5) (k := 5)) (by decide) okX6_init rfl rfl (by decide) tw_116 (by decide) (by simp [Value.category])
  refine h9 (fun w4 hw4 => ?_)
  clear h9
  obtain ⟨f4, ef4, rfl⟩ := hw4
  subst ef4
  refine n_aast (pc := 31) (ws' := (((([(a, .inr (0, [.int 0, .int 0, .ref q1]))] ++ [(q1, .inl (jCO E, 4, .inr (.inr (.inr (.inr (va_up (va_up (va_up (va_up (fun _ => none) 0 (some (f1 (2, 2)))) 1 (some (f2 (2, 3)))) 2 (some (f3 (2, 4)))) 3 (some (f4 (2, 5)))))))))]) ++ wl E f1 (nLW 2)) ++ wl E f2 (nLW 3)) ++ wl E f3 (nLW 4)) ++ wl E f4 (nLW 5)) 1 50 dX0_init_31 rfl rfl (show jIn (3 : Int32) 4 by decide) rfl ?_
  refine n_iinc (pc := 32) (v := 4) (lv' := [(1, .int 4), (0, .ref a)]) 0 dX0_init_32 rfl (by decide) (by decide) rfl ?_
  refine n_goto (pc := 35) (tgt := 14) dX0_init_35 (by decide) ?_
  refine n_iload (pc := 14) 0 dX0_init_14 rfl rfl ?_
  refine n_iconst (pc := 15) dX0_init_15 jci_4 ?_
  refine n_icmp_ge (pc := 16) (tgt := 38) dX0_init_16 (by decide) (fun _ => ?_) (fun h => absurd (by decide) h)
  obtain ⟨f, hf⟩ : ∃ f : jR → Nat, f = (fun r => match r.1 with | 5 => a | 6 => q1 | _ => match r.2 with | 2 => f1 r | 3 => f2 r | 4 => f3 r | _ => f4 r) := ⟨_, rfl⟩
  refine n_conv (ws' := wl E f nLH) (fun H hP => ?_) (fun A hD => n_adr (by subst hf; rfl) hD) (n_fin dX0_init_38 ⟨f, by subst hf; rfl, rfl⟩)
  subst hf
  refine n_up4 (f := va_up (va_up (va_up (va_up (fun _ => none) 0 (some (f1 (2, 2)))) 1 (some (f2 (2, 3)))) 2 (some (f3 (2, 4)))) 3 (some (f4 (2, 5)))) (fun i hi => ?_) hP
  match i, hi with
  | 0, _ => rfl
  | 1, _ => rfl
  | 2, _ => rfl
  | 3, _ => rfl
  | n + 4, h => exact absurd h (by omega)
