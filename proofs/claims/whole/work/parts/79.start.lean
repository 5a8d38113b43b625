/-! ===== the law, from its entry ===== -/
theorem d_law_0 : decode code 0 = .ok (.new 7, 3) := by decide +kernel
theorem d_law_3 : decode code 3 = .ok (.dup, 1) := by decide +kernel
theorem d_law_4 : decode code 4 = .ok (.invokespecial 9, 3) := by decide +kernel
theorem d_law_7 : decode code 7 = .ok (.astore_n 1, 1) := by decide +kernel
theorem d_law_8 : decode code 8 = .ok (.new 10, 3) := by decide +kernel
theorem d_law_11 : decode code 11 = .ok (.dup, 1) := by decide +kernel
theorem d_law_12 : decode code 12 = .ok (.invokespecial 12, 3) := by decide +kernel
theorem d_law_15 : decode code 15 = .ok (.astore_n 2, 1) := by decide +kernel
set_option maxHeartbeats 4000000 in
set_option maxRecDepth 100000 in
theorem whole_start {p : Program} {e : Env} {s : State} {m : MethodId} {below : List Frame} {meth : Method} {c : Code} (l : Launch) (hflags : l.flags = flags0) {b L : Nat} {xs : Nat → Int32} (hL : L ≤ 2048) (C0 : lw_At p s m meth c b L xs) : W p l e room_1 s m #[Value.ref b] below meth c s.heap [] 0 0 (lw_Z below #[Value.ref b] s) (entryFrame m ([Value.ref b] : List Value).toArray 4) := by
  obtain ⟨hx, hb, hr, hml, hown, htb, hX, hbl, hlocks, hgv⟩ := id C0
  have hts : ∀ w ∈ jAll, w.before #[Value.ref b] s = true := fun w hw => htb w (List.mem_filter.mp hw).1
  have hA : ∀ q : Nat, s.heap.size ≤ q → (fun q : Nat => s.heap.size ≤ q) q := fun _ h => h
  have hbA : ¬ (fun q : Nat => s.heap.size ≤ q) b := Nat.not_le.mpr hbl
  have hown' : s.vm.findClass yL_law.cls = some m.cls := hown
  obtain ⟨ak, av, hZ⟩ := e_str htb hgv
  obtain ⟨G, hG⟩ := e_cls hts
  obtain ⟨cI, hI1, hI2⟩ := e_arr (hts _ tw_112) (Or.inl rfl)
  obtain ⟨cC, hC1, hC2⟩ := e_arr (hts _ tw_111) (Or.inr (Or.inl rfl))
  obtain ⟨cZ, hZ1, hZ2⟩ := e_arr (hts _ tw_838) (Or.inr (Or.inr rfl))
  have hAOw := htb (Cond.arrayOver (.object "DropQueues$World")) (e_in 250 (by decide +kernel))
  obtain ⟨cO, hO1, hO2⟩ := e_arO hAOw
  have hAO : va_AO "DropQueues$World" s := va_AO.of hAOw
  have hNW : jNW s := fun q hq => va_Nw.of rfl (htb _ (jNest_in q hq))
  obtain ⟨E, hE⟩ : ∃ E : jE, E = (fun _ => 0, (cI, cC, cZ, cO), G, [], (b, L, xs)) := ⟨_, rfl⟩
  have hK : va_K (jG E) vwCl (jtys E) s := by
    subst hE
    refine ⟨hG, fun k q hk => ?_⟩
    match k, hk with
    | 0, hk => cases hk; exact ⟨hI1, hI2⟩
    | 1, hk => cases hk; exact ⟨hC1, hC2⟩
    | 2, hk => cases hk; exact ⟨hZ1, hZ2⟩
    | 3, hk => cases hk; exact ⟨hO1, hO2⟩
    | k + 4, hk => simp [jtys] at hk
  have hXE : jX E = (b, L, xs) := by subst hE; rfl
  have hS : va_S (fun q : Nat => s.heap.size ≤ q) s.heap s.heap [] := va_S.rf
  have hP : va_P (jG E) vwCl [] s.heap := fun k q h => by simp at h
  have hD : va_D (fun q : Nat => s.heap.size ≤ q) [] := ⟨fun i j p q h => by simp at h, fun k q h => by simp at h⟩
  have hl := lv_entry ([.ref b]) (n := 4) (Nat.le_of_ble_eq_true rfl)
  rw [lg_entry_eq]
  generalize (lg_sl ([.ref b]) ++ List.replicate (4 - (lg_sl ([.ref b])).length) Slot.unset).toArray = ls at hl ⊢
  have hl : lv_has ls 4 [(0, .ref b)] := hl
  -- the object
  refine va_new (D := jG E) (tys := jtys E) (ci := 7) (fs := [.null, .null, .null, .null, .null, .null]) (C := RX7) (T := TX7) (N := 6) hx hb hts inX7 tyX7 tyX7_ok hown' (hts _ tw_86) (hts _ tw_87) (hts _ tw_69) hK hP hD hS hA rfl (fun j hj => match j, hj with | 0, _ => rfl | 1, _ => rfl | 2, _ => rfl | 3, _ => rfl | 4, _ => rfl | 5, _ => rfl | n + 6, h => absurd h (by omega)) (Nat.le_of_ble_eq_true rfl) (Nat.le_of_ble_eq_true rfl) d_law_0 (fun q1 H hP hD hS => ?_)
  refine W.widen (k := 1) (n := 6) (by omega) (by omega) ?_
  refine lv_dup hx hb d_law_3 rfl ?_
  have hP : va_P (jG E) vwCl ([] ++ [(q1, bl7)]) H := hP
  have hD : va_D (fun q : Nat => s.heap.size ≤ q) ([] ++ [(q1, bl7)]) := hD
  have hF := n_freeL hD hS hA
  obtain ⟨hPx, hDx, -⟩ := n_last hP hD
  refine va_callv (A0 := fun q : Nat => s.heap.size ≤ q) (va_runI (n := 0) (bytes := cX7_init) (maxL := 2) (Ts := jAll) (own := R_law) (As := []) (rest := [.ref q1]) ⟨hx, hb, hml, hown, hts⟩ (dMet (E := E) (ak := ak) (av := av) (a := q1) (Wh := fun _ => A_F) (T := fun _ => 0) l H.size) (cwI 0 hts (jGood okX7_init) rfl rfl rfl (hts _ okX7_init.2.2.1) (hts _ tw_88) (hts _ tw_89) rfl okX7_init.2.2.2.1 ⟨Nat.le_of_ble_eq_true rfl, Nat.le_of_ble_eq_true rfl⟩) ⟨?_, fun U hU hW => ⟨rfl, by rw [hU], ⟨by rw [hU]; exact hPx, va_K.moved hW.alike hK, hDx.weaken (fun _ _ _ _ => trivial), jNW.warm hW hNW, hAO.moved hW.alike⟩, by rw [hU]; exact ((hZ.kept hS.2.1).warm hW).narrow hF⟩⟩ rfl rfl hl.1 rfl (lv_room (Nat.le_of_ble_eq_true rfl)) d_law_4 ⟨Nat.le_of_ble_eq_true rfl, Nat.le_of_ble_eq_true rfl⟩) hS (fun q _ h => hF q h) hF (fun w1 t H1 locs1 ht hvm hw hB hz1 hk1 hS1 => ?_)
  · intro a U g mk q
    obtain ⟨q0, q9, ⟨qP, qK, qD, qN, qA⟩, qS⟩ := q
    exact ⟨q0, q9, ⟨qP, va_K.moved (u := U) (U := U.calling g mk a) (Vm.Alike.refl U.vm) qK, qD, fun w hw => va_Nw.same (u := U) (U := U.calling g mk a) rfl rfl (qN w hw), va_AO.moved (u := U) (U := U.calling g mk a) (Vm.Alike.refl U.vm) qA⟩, nS.same (u := U) (U := U.calling g mk a) rfl qS⟩
  obtain ⟨hP1, hD1⟩ := hB
  rw [ht] at hP1
  obtain ⟨hP2, hD2⟩ := n_join hP hD hk1 hF hP1 hD1
  obtain ⟨f1, S1, e1, hCS, rfl⟩ := hw
  subst e1
  refine W.widen (k := 112) (n := 5585) (by omega) (by omega) ?_
  refine lv_astore_n (lv' := [(1, .ref (f1 (0, 0))), (0, .ref b)]) hx hb d_law_7 rfl hl (by decide) rfl (fun ls hl => ?_)
  have hP : va_P (jG E) vwCl (jws (eE E f1 nLC) S1) H1 := hP2
  have hD : va_D (fun q : Nat => s.heap.size ≤ q) (jws (eE E f1 nLC) S1) := hD2
  -- the reference
  refine va_new (D := jG E) (tys := jtys E) (ci := 8) (fs := [.null, .null, .null, .int 0, .null, .int 0, .null, .int 0, .null, .null, .null, .null, .null, .null, .int 0, .int 0, .null, .null, .null, .null]) (C := RX8) (T := TX8) (N := 20) hx hb hts inX8 tyX8 tyX8_ok hown' (hts _ tw_756) (hts _ tw_757) (hts _ tw_84) hK hP hD hS1 hA rfl (fun j hj => match j, hj with | 0, _ => rfl | 1, _ => rfl | 2, _ => rfl | 3, _ => rfl | 4, _ => rfl | 5, _ => rfl | 6, _ => rfl | 7, _ => rfl | 8, _ => rfl | 9, _ => rfl | 10, _ => rfl | 11, _ => rfl | 12, _ => rfl | 13, _ => rfl | 14, _ => rfl | 15, _ => rfl | 16, _ => rfl | 17, _ => rfl | 18, _ => rfl | 19, _ => rfl | n + 20, h => absurd h (by omega)) (Nat.le_of_ble_eq_true rfl) (Nat.le_of_ble_eq_true rfl) d_law_8 (fun q2 H2 hP hD hS2 => ?_)
  refine W.widen (k := 113) (n := 5605) (by omega) (by omega) ?_
  refine lv_dup hx hb d_law_11 rfl ?_
  have hP : va_P (jG E) vwCl (jws (eE E f1 nLC) S1 ++ [(q2, bl8)]) H2 := hP
  have hD : va_D (fun q : Nat => s.heap.size ≤ q) (jws (eE E f1 nLC) S1 ++ [(q2, bl8)]) := hD
  have hF := n_freeL hD hS2 hA
  obtain ⟨hPx, hDx, -⟩ := n_last hP hD
  refine va_callv (A0 := fun q : Nat => s.heap.size ≤ q) (va_runI (n := 0) (bytes := cX8_init) (maxL := 1) (Ts := jAll) (own := R_law) (As := []) (rest := [.ref q2]) ⟨hx, hb, hml, hown, hts⟩ (mMet (E := E) (a := q2) (Wh := fun _ => A_F) (T := fun _ => 0) l H2.size) (cwI 0 hts (jGood okX8_init) rfl rfl rfl (hts _ okX8_init.2.2.1) (hts _ tw_758) (hts _ tw_759) rfl okX8_init.2.2.2.1 ⟨Nat.le_of_ble_eq_true rfl, Nat.le_of_ble_eq_true rfl⟩) ⟨nBlind, fun U hU hW => ⟨rfl, by rw [hU], by rw [hU]; exact hPx, va_K.moved hW.alike hK, hDx.weaken (fun _ _ _ _ => trivial), jNW.warm hW hNW, hAO.moved hW.alike⟩⟩ rfl rfl hl.1 rfl (lv_room (Nat.le_of_ble_eq_true rfl)) d_law_12 ⟨Nat.le_of_ble_eq_true rfl, Nat.le_of_ble_eq_true rfl⟩) hS2 (fun q _ h => hF q h) hF (fun w2 t2 H3 locs3 ht2 hvm2 hw2 hB2 hz2 hk2 hS3 => ?_)
  obtain ⟨hP1, hD1⟩ := hB2
  rw [ht2] at hP1
  obtain ⟨hP2, hD2⟩ := n_join hP hD hk2 hF hP1 hD1
  obtain ⟨f2, S2, e2, hMS, rfl⟩ := hw2
  subst e2
  rw [← cws] at hP2 hD2
  refine W.widen (k := 128) (n := 13887) (by omega) (by omega) ?_
  refine lv_astore_n (lv' := [(2, .ref (f2 (9, 0))), (1, .ref (f1 (0, 0))), (0, .ref b)]) hx hb d_law_15 rfl hl (by decide) rfl (fun ls hl => ?_)
  refine lv_iconst (v := 0) hx hb dL_law_16 (by decide) ?_
  refine lv_istore_n (lv' := [(3, .int 0), (2, .ref (f2 (9, 0))), (1, .ref (f1 (0, 0))), (0, .ref b)]) hx hb dL_law_17 rfl hl (by decide) rfl (fun ls hl => ?_)
  have hX2 : jX (cE E f1 f2) = (b, L, xs) := hXE
  obtain ⟨S', hJ⟩ := law_loop (E := cE E f1 f2) (jHC_E (fun r hr => List.mem_append_left _ hr)) (jHM_E (fun r hr => List.mem_append_right _ hr)) (by rw [hX2]; exact hL) 512 0 (cS S1 S2) (c_SM hCS hMS) (by rw [hX2]; show L ≤ 4 * 0 + 4 * 512; omega) (by rw [hX2]; show 4 * 0 ≤ L; omega)
  rw [hX2] at hJ
  refine hJ p l e room_1 s m #[Value.ref b] below meth c 128 13887 (lw_Z below #[Value.ref b] s) (fun q : Nat => s.heap.size ≤ q) ⟨⟨hx, hb, hml, hown, hts⟩, hK, hNW, hA, Nat.le_of_ble_eq_true rfl, Nat.le_of_ble_eq_true rfl, Nat.le_of_ble_eq_true rfl, Nat.le_of_ble_eq_true rfl, fun _ => by rw [hX2]; exact ⟨hX, hbl, hbA⟩⟩ ?_ ls H3 locs3 (lv_sub hl [3, 2, 1, 0] rfl) hP2 hD2 hS3
  intro pc' ls' H' locs' hret hP' hD' hS'
  rcases hret with ⟨hd, v, h9, -⟩ | ⟨hd, h9, -⟩
  · refine va_forget (fun q hq => hS'.2.2 q hq) ?_
    refine W.widen (k := 600000) (n := 7302250) (Nat.le_of_ble_eq_true rfl) (Nat.le_of_ble_eq_true rfl) ?_
    exact lw_ret hx hb hr hlocks hd
  · cases h9
