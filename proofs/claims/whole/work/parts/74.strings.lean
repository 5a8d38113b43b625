/-! ===== the text constant: its length, its letters ===== -/
theorem dJ0_length_8abf5_0 : decode cJ0_length_8abf5 0 = .ok (.aload_n 0, 1) := by decide +kernel
theorem dJ0_length_8abf5_1 : decode cJ0_length_8abf5 1 = .ok (.getfield 9, 3) := by decide +kernel
theorem dJ0_length_8abf5_4 : decode cJ0_length_8abf5 4 = .ok (.arraylength, 1) := by decide +kernel
theorem dJ0_length_8abf5_5 : decode cJ0_length_8abf5 5 = .ok (.aload_n 0, 1) := by decide +kernel
theorem dJ0_length_8abf5_6 : decode cJ0_length_8abf5 6 = .ok (.invokevirtual 335, 3) := by decide +kernel
theorem dJ0_length_8abf5_9 : decode cJ0_length_8abf5 9 = .ok (.ishr, 1) := by decide +kernel
theorem dJ0_length_8abf5_10 : decode cJ0_length_8abf5 10 = .ok (.ireturn, 1) := by decide +kernel
theorem dJ0_charAt_5068e_0 : decode cJ0_charAt_5068e 0 = .ok (.aload_n 0, 1) := by decide +kernel
theorem dJ0_charAt_5068e_1 : decode cJ0_charAt_5068e 1 = .ok (.invokevirtual 492, 3) := by decide +kernel
theorem dJ0_charAt_5068e_4 : decode cJ0_charAt_5068e 4 = .ok (.ifCond .eq 12, 3) := by decide +kernel
theorem dJ0_charAt_5068e_7 : decode cJ0_charAt_5068e 7 = .ok (.aload_n 0, 1) := by decide +kernel
theorem dJ0_charAt_5068e_8 : decode cJ0_charAt_5068e 8 = .ok (.getfield 9, 3) := by decide +kernel
theorem dJ0_charAt_5068e_11 : decode cJ0_charAt_5068e 11 = .ok (.iload_n 1, 1) := by decide +kernel
theorem dJ0_charAt_5068e_12 : decode cJ0_charAt_5068e 12 = .ok (.invokestatic 495, 3) := by decide +kernel
theorem dJ0_charAt_5068e_15 : decode cJ0_charAt_5068e 15 = .ok (.ireturn, 1) := by decide +kernel
theorem dJ0_charAt_5068e_16 : decode cJ0_charAt_5068e 16 = .ok (.aload_n 0, 1) := by decide +kernel
theorem dJ0_charAt_5068e_17 : decode cJ0_charAt_5068e 17 = .ok (.getfield 9, 3) := by decide +kernel
theorem dJ0_charAt_5068e_20 : decode cJ0_charAt_5068e 20 = .ok (.iload_n 1, 1) := by decide +kernel
theorem dJ0_charAt_5068e_21 : decode cJ0_charAt_5068e 21 = .ok (.invokestatic 498, 3) := by decide +kernel
theorem dJ0_charAt_5068e_24 : decode cJ0_charAt_5068e 24 = .ok (.ireturn, 1) := by decide +kernel
theorem dJ0_coder_7d493_0 : decode cJ0_coder_7d493 0 = .ok (.getstatic 38, 3) := by decide +kernel
theorem dJ0_coder_7d493_3 : decode cJ0_coder_7d493 3 = .ok (.ifCond .eq 10, 3) := by decide +kernel
theorem dJ0_coder_7d493_6 : decode cJ0_coder_7d493 6 = .ok (.aload_n 0, 1) := by decide +kernel
theorem dJ0_coder_7d493_7 : decode cJ0_coder_7d493 7 = .ok (.getfield 15, 3) := by decide +kernel
theorem dJ0_coder_7d493_10 : decode cJ0_coder_7d493 10 = .ok (.goto 4, 3) := by decide +kernel
theorem dJ0_coder_7d493_13 : decode cJ0_coder_7d493 13 = .ok (.iconst 1, 1) := by decide +kernel
theorem dJ0_coder_7d493_14 : decode cJ0_coder_7d493 14 = .ok (.ireturn, 1) := by decide +kernel
theorem dJ0_isLatin1_aae02_0 : decode cJ0_isLatin1_aae02 0 = .ok (.getstatic 38, 3) := by decide +kernel
theorem dJ0_isLatin1_aae02_3 : decode cJ0_isLatin1_aae02 3 = .ok (.ifCond .eq 14, 3) := by decide +kernel
theorem dJ0_isLatin1_aae02_6 : decode cJ0_isLatin1_aae02 6 = .ok (.aload_n 0, 1) := by decide +kernel
theorem dJ0_isLatin1_aae02_7 : decode cJ0_isLatin1_aae02 7 = .ok (.getfield 15, 3) := by decide +kernel
theorem dJ0_isLatin1_aae02_10 : decode cJ0_isLatin1_aae02 10 = .ok (.ifCond .ne 7, 3) := by decide +kernel
theorem dJ0_isLatin1_aae02_13 : decode cJ0_isLatin1_aae02 13 = .ok (.iconst 1, 1) := by decide +kernel
theorem dJ0_isLatin1_aae02_14 : decode cJ0_isLatin1_aae02 14 = .ok (.goto 4, 3) := by decide +kernel
theorem dJ0_isLatin1_aae02_17 : decode cJ0_isLatin1_aae02 17 = .ok (.iconst 0, 1) := by decide +kernel
theorem dJ0_isLatin1_aae02_18 : decode cJ0_isLatin1_aae02 18 = .ok (.ireturn, 1) := by decide +kernel
theorem dJ0_checkIndex_df160_0 : decode cJ0_checkIndex_df160 0 = .ok (.iload_n 0, 1) := by decide +kernel
theorem dJ0_checkIndex_df160_1 : decode cJ0_checkIndex_df160 1 = .ok (.iload_n 1, 1) := by decide +kernel
theorem dJ0_checkIndex_df160_2 : decode cJ0_checkIndex_df160 2 = .ok (.getstatic 1053, 3) := by decide +kernel
theorem dJ0_checkIndex_df160_5 : decode cJ0_checkIndex_df160 5 = .ok (.invokestatic 1059, 3) := by decide +kernel
theorem dJ0_checkIndex_df160_8 : decode cJ0_checkIndex_df160 8 = .ok (.pop, 1) := by decide +kernel
theorem dJ0_checkIndex_df160_9 : decode cJ0_checkIndex_df160 9 = .ok (.return_, 1) := by decide +kernel
theorem dJ1_charAt_3b067_0 : decode cJ1_charAt_3b067 0 = .ok (.iload_n 1, 1) := by decide +kernel
theorem dJ1_charAt_3b067_1 : decode cJ1_charAt_3b067 1 = .ok (.aload_n 0, 1) := by decide +kernel
theorem dJ1_charAt_3b067_2 : decode cJ1_charAt_3b067 2 = .ok (.arraylength, 1) := by decide +kernel
theorem dJ1_charAt_3b067_3 : decode cJ1_charAt_3b067 3 = .ok (.invokestatic 9, 3) := by decide +kernel
theorem dJ1_charAt_3b067_6 : decode cJ1_charAt_3b067 6 = .ok (.aload_n 0, 1) := by decide +kernel
theorem dJ1_charAt_3b067_7 : decode cJ1_charAt_3b067 7 = .ok (.iload_n 1, 1) := by decide +kernel
theorem dJ1_charAt_3b067_8 : decode cJ1_charAt_3b067 8 = .ok (.baload, 1) := by decide +kernel
theorem dJ1_charAt_3b067_9 : decode cJ1_charAt_3b067 9 = .ok (.sipush 255, 3) := by decide +kernel
theorem dJ1_charAt_3b067_12 : decode cJ1_charAt_3b067 12 = .ok (.iand, 1) := by decide +kernel
theorem dJ1_charAt_3b067_13 : decode cJ1_charAt_3b067 13 = .ok (.i2c, 1) := by decide +kernel
theorem dJ1_charAt_3b067_14 : decode cJ1_charAt_3b067 14 = .ok (.ireturn, 1) := by decide +kernel
theorem dJ3_checkIndex_8e157_0 : decode cJ3_checkIndex_8e157 0 = .ok (.iload_n 0, 1) := by decide +kernel
theorem dJ3_checkIndex_8e157_1 : decode cJ3_checkIndex_8e157 1 = .ok (.ifCond .lt 8, 3) := by decide +kernel
theorem dJ3_checkIndex_8e157_4 : decode cJ3_checkIndex_8e157 4 = .ok (.iload_n 0, 1) := by decide +kernel
theorem dJ3_checkIndex_8e157_5 : decode cJ3_checkIndex_8e157 5 = .ok (.iload_n 1, 1) := by decide +kernel
theorem dJ3_checkIndex_8e157_6 : decode cJ3_checkIndex_8e157 6 = .ok (.if_icmp .lt 10, 3) := by decide +kernel
theorem dJ3_checkIndex_8e157_9 : decode cJ3_checkIndex_8e157 9 = .ok (.aload_n 2, 1) := by decide +kernel
theorem dJ3_checkIndex_8e157_10 : decode cJ3_checkIndex_8e157 10 = .ok (.iload_n 0, 1) := by decide +kernel
theorem dJ3_checkIndex_8e157_11 : decode cJ3_checkIndex_8e157 11 = .ok (.iload_n 1, 1) := by decide +kernel
theorem dJ3_checkIndex_8e157_12 : decode cJ3_checkIndex_8e157 12 = .ok (.invokestatic 95, 3) := by decide +kernel
theorem dJ3_checkIndex_8e157_15 : decode cJ3_checkIndex_8e157 15 = .ok (.athrow, 1) := by decide +kernel
theorem dJ3_checkIndex_8e157_16 : decode cJ3_checkIndex_8e157 16 = .ok (.iload_n 0, 1) := by decide +kernel
theorem dJ3_checkIndex_8e157_17 : decode cJ3_checkIndex_8e157 17 = .ok (.ireturn, 1) := by decide +kernel
abbrev nFm : String := "Ljava/util/function/BiFunction;"
def nS (ak av : Nat) (A : Nat → Prop) (U : State) (H : Heap) : Prop := vk_R "DropQueues" 47 nTx ak U ∧ vk_S 1 [97] [l_T] (fun _ => ak) (fun _ => av) A U H ∧ va_Z "java/lang/String" "COMPACT_STRINGS" "Z" (.int 1) A U H ∧ va_Zq "jdk/internal/util/Preconditions" "SIOOBE_FORMATTER" nFm A U H
theorem nS.warm {ak av : Nat} {A : Nat → Prop} {s U : State} {H : Heap} (hW : s.WarmedH U.vm) (h : nS ak av A s H) : nS ak av A U H := ⟨h.1.warm hW, h.2.1.moved hW.alike, h.2.2.1.moved hW.alike, h.2.2.2.moved hW.alike⟩
theorem nS.same {ak av : Nat} {A : Nat → Prop} {u U : State} {H : Heap} (hv : U.vm = u.vm) (h : nS ak av A u H) : nS ak av A U H := by
  have ha : u.vm.Alike U.vm := by rw [hv]; exact Vm.Alike.refl u.vm
  exact ⟨h.1.same hv, h.2.1.moved ha, h.2.2.1.moved ha, h.2.2.2.moved ha⟩
theorem nS.kept {ak av : Nat} {A : Nat → Prop} {U : State} {H H1 : Heap} (hq : ∀ a : Nat, a < H.size → ¬ A a → H1[a]? = H[a]?) (h : nS ak av A U H) : nS ak av A U H1 := ⟨h.1, h.2.1.kept hq, h.2.2.1.kept hq, h.2.2.2.kept hq⟩
theorem nS.narrow {ak av : Nat} {A B : Nat → Prop} {U : State} {H : Heap} (hAB : ∀ q, B q → A q) (h : nS ak av A U H) : nS ak av B U H := ⟨h.1, h.2.1.narrow hAB, h.2.2.1.narrow hAB, h.2.2.2.narrow hAB⟩
/-- the cells of the text lie in any part of the heap that the method does not make -/
theorem nS.old {ak av sz : Nat} {A : Nat → Prop} {U : State} (h : nS ak av A U U.heap) (hsz : U.heap.size = sz) : nS ak av (fun q => sz ≤ q) U U.heap := by
  have lt : ∀ {a : Nat} {c : Cell}, U.heap[a]? = some c → ¬ sz ≤ a := fun h => by
    have := (Array.getElem?_eq_some_iff.mp h).1
    omega
  obtain ⟨h1, ⟨h2, h3⟩, h4, h5⟩ := h
  refine ⟨h1, ⟨fun i hi => ?_, h3⟩, ?_, ?_⟩
  · obtain ⟨⟨c0, a1, a2, a3, -⟩, ⟨cf, k, fi, f, cell, b1, b2, b3, b4, b5, -⟩, ⟨cf', k', fi', f', cell', c1, c2, c3, c4, c5, -⟩, ⟨cc, d1, d2, d3, d4, d5, d6, -⟩⟩ := h2 i hi
    exact ⟨⟨c0, a1, a2, a3, lt a1⟩, ⟨cf, k, fi, f, cell, b1, b2, b3, b4, b5, lt b3⟩, ⟨cf', k', fi', f', cell', c1, c2, c3, c4, c5, lt c3⟩, ⟨cc, d1, d2, d3, d4, d5, d6, lt d1⟩⟩
  · obtain ⟨cf, kf, fi, f, a, cell, g1, g2, g3, g4, g5, g6, g7, -⟩ := h4
    exact ⟨cf, kf, fi, f, a, cell, g1, g2, g3, g4, g5, g6, g7, lt g5⟩
  · rcases h5 with h5 | ⟨t, h5⟩
    · obtain ⟨cf, kf, fi, f, a, cell, g1, g2, g3, g4, g5, g6, g7, -⟩ := h5
      exact Or.inl ⟨cf, kf, fi, f, a, cell, g1, g2, g3, g4, g5, g6, g7, lt g5⟩
    · obtain ⟨cf, kf, fi, f, a, cell, g1, g2, g3, g4, g5, g6, g7, -⟩ := h5
      exact Or.inr ⟨t, cf, kf, fi, f, a, cell, g1, g2, g3, g4, g5, g6, g7, lt g5⟩
def sC (ak av D : Nat) (M : jM) (p : Program) (R : Room) (s : State) (m : MethodId) (args : Array Value) (c : Code) (cells slots : Nat) (A : Nat → Prop) : Prop :=
  (p.tables.exec = Jvm.exec ∧ c.code = M.2.1 ∧ c.maxLocals = M.2.2.1 ∧ s.vm.findClass M.1.cls = some m.cls ∧ (∀ w ∈ jAll, w.before args s = true)) ∧ nS ak av A s s.heap ∧ (∀ q : Nat, s.heap.size ≤ q → A q) ∧ D ≤ R.frames ∧ 64 * D ≤ R.locals ∧ cells ≤ R.cells ∧ slots ≤ R.slots
def JS (ak av D : Nat) (M : jM) (pc : Nat) (lv : List (Nat × Value)) (st : List Value) (r : List Value) : Prop :=
  ∀ (p : Program) (l : Launch) (e : Env) (R : Room) (s : State) (m : MethodId) (args : Array Value) (below : List Frame) (meth : Method) (c : Code) (cells slots : Nat) (Q : State → Prop) (A : Nat → Prop),
    sC ak av D M p R s m args c cells slots A →
    (∀ (pc' : Nat) (ls' : Array Slot) (H' : Heap) (locs' : List Loc), jRet M r pc' → va_S A s.heap H' locs' → W p l e R s m args below meth c H' locs' cells slots Q (F0 m pc' ls' r)) →
    ∀ (ls : Array Slot) (H : Heap) (locs : List Loc), lv_has ls M.2.2.1 lv → va_S A s.heap H locs → W p l e R s m args below meth c H locs cells slots Q (F0 m pc ls st)
section SRules
variable {ak av D : Nat} {M : jM} {pc : Nat} {lv : List (Nat × Value)} {st : List Value} {r : List Value}
theorem s_iload {n : Fin 4} {i : Nat} {x : Int32} (q : Nat) (hd : decode M.2.1 pc = .ok (.iload_n n, 1)) (hi : (n : Nat) = i) (hq : lv[q]? = some (i, .int x)) (k : JS ak av D M (pc + 1) lv (.int x :: st) r) : JS ak av D M pc lv st r := by
  intro p l e R s m args below meth c cells slots Q A C K ls H locs hl hS
  exact lv_iload_n C.1.1 C.1.2.1 hd hi (lv_at hl q hq) (k p l e R s m args below meth c cells slots Q A C K ls H locs hl hS)
theorem s_aload {n : Fin 4} {i x : Nat} (q : Nat) (hd : decode M.2.1 pc = .ok (.aload_n n, 1)) (hi : (n : Nat) = i) (hq : lv[q]? = some (i, .ref x)) (k : JS ak av D M (pc + 1) lv (.ref x :: st) r) : JS ak av D M pc lv st r := by
  intro p l e R s m args below meth c cells slots Q A C K ls H locs hl hS
  exact lv_aload_n C.1.1 C.1.2.1 hd hi (lv_at hl q hq) (k p l e R s m args below meth c cells slots Q A C K ls H locs hl hS)
theorem s_iconst {n : Int} {v : Int32} (hd : decode M.2.1 pc = .ok (.iconst n, 1)) (hv : Int32.ofInt n = v) (k : JS ak av D M (pc + 1) lv (.int v :: st) r) : JS ak av D M pc lv st r := by
  intro p l e R s m args below meth c cells slots Q A C K ls H locs hl hS
  exact lv_iconst C.1.1 C.1.2.1 hd hv (k p l e R s m args below meth c cells slots Q A C K ls H locs hl hS)
theorem s_sipush {n : Int} {v : Int32} (hd : decode M.2.1 pc = .ok (.sipush n, 3)) (hv : (Int16.ofInt n).toInt32 = v) (k : JS ak av D M (pc + 3) lv (.int v :: st) r) : JS ak av D M pc lv st r := by
  intro p l e R s m args below meth c cells slots Q A C K ls H locs hl hS
  exact lv_sipush C.1.1 C.1.2.1 hd hv (k p l e R s m args below meth c cells slots Q A C K ls H locs hl hS)
theorem s_ishr {x y : Int32} (hd : decode M.2.1 pc = .ok (.ishr, 1)) (k : JS ak av D M (pc + 1) lv (.int (x >>> (y &&& 31)) :: st) r) : JS ak av D M pc lv (.int y :: .int x :: st) r := by
  intro p l e R s m args below meth c cells slots Q A C K ls H locs hl hS
  exact lv_ishr C.1.1 C.1.2.1 hd (k p l e R s m args below meth c cells slots Q A C K ls H locs hl hS)
theorem s_iand {x y : Int32} (hd : decode M.2.1 pc = .ok (.iand, 1)) (k : JS ak av D M (pc + 1) lv (.int (x &&& y) :: st) r) : JS ak av D M pc lv (.int y :: .int x :: st) r := by
  intro p l e R s m args below meth c cells slots Q A C K ls H locs hl hS
  exact lv_iand C.1.1 C.1.2.1 hd (k p l e R s m args below meth c cells slots Q A C K ls H locs hl hS)
theorem s_i2c {x v : Int32} (hd : decode M.2.1 pc = .ok (.i2c, 1)) (hv : (x.toUInt32 % 65536).toInt32 = v) (k : JS ak av D M (pc + 1) lv (.int v :: st) r) : JS ak av D M pc lv (.int x :: st) r := by
  intro p l e R s m args below meth c cells slots Q A C K ls H locs hl hS
  exact lv_i2c C.1.1 C.1.2.1 hd hv (k p l e R s m args below meth c cells slots Q A C K ls H locs hl hS)
theorem s_pop {v : Value} (hd : decode M.2.1 pc = .ok (.pop, 1)) (hv : v.category = 1) (k : JS ak av D M (pc + 1) lv st r) : JS ak av D M pc lv (v :: st) r := by
  intro p l e R s m args below meth c cells slots Q A C K ls H locs hl hS
  exact lv_pop C.1.1 C.1.2.1 hd hv (k p l e R s m args below meth c cells slots Q A C K ls H locs hl hS)
theorem s_goto {off : Int} {tgt : Nat} (hd : decode M.2.1 pc = .ok (.goto off, 3)) (ht : (pc : Int) + off = (tgt : Int)) (k : JS ak av D M tgt lv st r) : JS ak av D M pc lv st r := by
  intro p l e R s m args below meth c cells slots Q A C K ls H locs hl hS
  exact lv_goto C.1.1 C.1.2.1 hd ht (k p l e R s m args below meth c cells slots Q A C K ls H locs hl hS)
theorem s_if_eq {x : Int32} {off : Int} {tgt : Nat} (hd : decode M.2.1 pc = .ok (.ifCond .eq off, 3)) (ht : (pc : Int) + off = (tgt : Int)) (hx : ¬ x = 0) (k : JS ak av D M (pc + 3) lv st r) : JS ak av D M pc lv (.int x :: st) r := by
  intro p l e R s m args below meth c cells slots Q A C K ls H locs hl hS
  exact lv_if_eq C.1.1 C.1.2.1 hd ht (fun h => absurd h hx) (fun _ => k p l e R s m args below meth c cells slots Q A C K ls H locs hl hS)
theorem s_if_ne {x : Int32} {off : Int} {tgt : Nat} (hd : decode M.2.1 pc = .ok (.ifCond .ne off, 3)) (ht : (pc : Int) + off = (tgt : Int)) (hx : x = 0) (k : JS ak av D M (pc + 3) lv st r) : JS ak av D M pc lv (.int x :: st) r := by
  intro p l e R s m args below meth c cells slots Q A C K ls H locs hl hS
  exact lv_if_ne C.1.1 C.1.2.1 hd ht (fun h => absurd hx h) (fun _ => k p l e R s m args below meth c cells slots Q A C K ls H locs hl hS)
theorem s_if_lt {x : Int32} {off : Int} {tgt : Nat} (hd : decode M.2.1 pc = .ok (.ifCond .lt off, 3)) (ht : (pc : Int) + off = (tgt : Int)) (hx : ¬ x < 0) (k : JS ak av D M (pc + 3) lv st r) : JS ak av D M pc lv (.int x :: st) r := by
  intro p l e R s m args below meth c cells slots Q A C K ls H locs hl hS
  exact lv_if_lt C.1.1 C.1.2.1 hd ht (fun h => absurd h hx) (fun _ => k p l e R s m args below meth c cells slots Q A C K ls H locs hl hS)
theorem s_icmp_lt {x y : Int32} {off : Int} {tgt : Nat} (hd : decode M.2.1 pc = .ok (.if_icmp .lt off, 3)) (ht : (pc : Int) + off = (tgt : Int)) (hx : x < y) (k : JS ak av D M tgt lv st r) : JS ak av D M pc lv (.int y :: .int x :: st) r := by
  intro p l e R s m args below meth c cells slots Q A C K ls H locs hl hS
  exact lv_icmp_lt C.1.1 C.1.2.1 hd ht (fun _ => k p l e R s m args below meth c cells slots Q A C K ls H locs hl hS) (fun h => absurd hx h)
theorem s_iret {v : Int32} {ty : FieldType} (hd : decode M.2.1 pc = .ok (.ireturn, 1)) (hty : M.2.2.2 = some ty) (hn : narrow ty (.int v) = .int v) : JS ak av D M pc lv [.int v] [.int v] := by
  intro p l e R s m args below meth c cells slots Q A C K ls H locs hl hS
  exact K pc ls H locs (Or.inl ⟨hd, v, rfl, ty, hty, hn⟩) hS
theorem s_vret (hd : decode M.2.1 pc = .ok (.return_, 1)) (hty : M.2.2.2 = none) : JS ak av D M pc lv [] [] := by
  intro p l e R s m args below meth c cells slots Q A C K ls H locs hl hS
  exact K pc ls H locs (Or.inr ⟨hd, rfl, hty⟩) hS
theorem s_value (hd : decode M.2.1 pc = .ok (.getfield 9, 3)) (hM : M.1.cls = "java/lang/String") (k : JS ak av D M (pc + 3) lv (.ref av :: st) r) : JS ak av D M pc lv (.ref ak :: st) r := by
  intro p l e R s m args below meth c cells slots Q A C K ls H locs hl hS
  exact vk_getf C.1.1 C.1.2.1 (C.2.1.2.1.1 0 (by omega)).2.2.1 hS C.1.2.2.2.1 (by rw [hM]; exact C.1.2.2.2.2 _ tw_1125) (fun _ h9 => h9) hd (k p l e R s m args below meth c cells slots Q A C K ls H locs hl hS)
theorem s_coder (hd : decode M.2.1 pc = .ok (.getfield 15, 3)) (hM : M.1.cls = "java/lang/String") (k : JS ak av D M (pc + 3) lv (.int 0 :: st) r) : JS ak av D M pc lv (.ref ak :: st) r := by
  intro p l e R s m args below meth c cells slots Q A C K ls H locs hl hS
  exact vk_getf C.1.1 C.1.2.1 (C.2.1.2.1.1 0 (by omega)).2.1 hS C.1.2.2.2.1 (by rw [hM]; exact C.1.2.2.2.2 _ tw_1126) (fun _ h9 => h9) hd (k p l e R s m args below meth c cells slots Q A C K ls H locs hl hS)
theorem s_alen (hd : decode M.2.1 pc = .ok (.arraylength, 1)) (k : JS ak av D M (pc + 1) lv (.int 97 :: st) r) : JS ak av D M pc lv (.ref av :: st) r := by
  intro p l e R s m args below meth c cells slots Q A C K ls H locs hl hS
  exact va_tlen C.1.1 C.1.2.1 (C.2.1.2.1.1 0 (by omega)).2.2.2 hS rfl hd (k p l e R s m args below meth c cells slots Q A C K ls H locs hl hS)
theorem s_bald {i : Nat} (hi : i < 97) (hd : decode M.2.1 pc = .ok (.baload, 1)) (k : JS ak av D M (pc + 1) lv (.int (hL l_T i) :: st) r) : JS ak av D M pc lv (.int (nI i) :: .ref av :: st) r := by
  intro p l e R s m args below meth c cells slots Q A C K ls H locs hl hS
  refine va_tb C.1.1 C.1.2.1 (C.2.1.2.1.1 0 (by omega)).2.2.2 hS (show jIn (nI i) 97 from jIn_lit (by omega) hi) (v := .int (hL l_T i)) ?_ hd (k p l e R s m args below meth c cells slots Q A C K ls H locs hl hS)
  show Value.int (l_T.getD (nI i).toNatClampNeg 0) = _
  rw [nI_clamp (by omega)]
  rfl
theorem s_compact (hd : decode M.2.1 pc = .ok (.getstatic 38, 3)) (hM : M.1.cls = "java/lang/String") (k : JS ak av D M (pc + 3) lv (.int 1 :: st) r) : JS ak av D M pc lv st r := by
  intro p l e R s m args below meth c cells slots Q A C K ls H locs hl hS
  exact va_gets C.1.1 C.1.2.1 C.2.1.2.2.1 hS C.1.2.2.2.1 (by rw [hM]; exact C.1.2.2.2.2 _ tw_319) (fun _ h9 => h9) hd (k p l e R s m args below meth c cells slots Q A C K ls H locs hl hS)
theorem s_fmt (hd : decode M.2.1 pc = .ok (.getstatic 1053, 3)) (hM : M.1.cls = "java/lang/String") (k0 : JS ak av D M (pc + 3) lv (.null :: st) r) (k1 : ∀ t : Nat, JS ak av D M (pc + 3) lv (.ref t :: st) r) : JS ak av D M pc lv st r := by
  intro p l e R s m args below meth c cells slots Q A C K ls H locs hl hS
  rcases C.2.1.2.2.2 with hZ | ⟨t, hZ⟩
  · exact va_gets C.1.1 C.1.2.1 hZ hS C.1.2.2.2.1 (by rw [hM]; exact C.1.2.2.2.2 _ tw_335) (fun _ h9 => h9) hd (k0 p l e R s m args below meth c cells slots Q A C K ls H locs hl hS)
  · exact va_gets C.1.1 C.1.2.1 hZ hS C.1.2.2.2.1 (by rw [hM]; exact C.1.2.2.2.2 _ tw_335) (fun _ h9 => h9) hd (k1 t p l e R s m args below meth c cells slots Q A C K ls H locs hl hS)
end SRules
def sMR (ak av D : Nat) (M : jM) (as : List Value) (r : List Value) : Prop := (lg_sl as).length ≤ M.2.2.1 ∧ JS ak av D M 0 (lv_args 0 as) [] r
def sQ (v : List Value) (A : Nat → Prop) : Array Value → State → Outcome → State → Prop := fun _ st oc t => oc = .returned v.head? ∧ va_F A st t
def sB (ak av sz : Nat) (U : State) : Prop := U.heap.size = sz ∧ nS ak av (fun q => sz ≤ q) U U.heap
set_option maxHeartbeats 1000000 in
theorem sMet {ak av D n : Nat} {N : jM} {as : List Value} {r : List Value} (hN : jOK N n) (h : sMR ak av D N as r) (l : Launch) (sz : Nat) : Met l N.1 (jTs N) (jrm D) (va_Pc as (sB ak av sz)) (sQ r (fun q => sz ≤ q)) 0 0 (fun q => sz ≤ q) := by
  refine Met.ofW (cc := N.2.1) (maxL := N.2.2.1) (ret := N.2.2.2) (ws' := jAll) hN.1 rfl ?_
  intro p e s m args below meth c s₁ B hml hv
  obtain ⟨rfl, hsz, hST⟩ := hv
  have hx := B.exec
  have hb := B.bytes
  have hr := B.returns
  have hts := atoms_spec (ws := jTs N) B.pre
  have hown : s.vm.findClass N.1.cls = some m.cls := findClass_of_methodNamed B.named
  have hlocks := B.notSynchronized
  subst hsz
  have hl := lv_entry as (n := N.2.2.1) h.1
  rw [lg_entry_eq]
  refine h.2 p l e _ s m as.toArray below meth c 0 0 _ (fun q => s.heap.size ≤ q) ⟨⟨hx, hb, hml, hown, fun w hw => hts w (List.mem_cons_of_mem _ hw)⟩, hST, fun q h => h, Nat.le_refl _, Nat.le_refl _, Nat.le_refl _, Nat.le_refl _⟩ ?_ _ _ _ hl va_S.rf
  intro pc' ls' H' locs' hret hS'
  rcases hret with ⟨hd, v, rfl, ty, hty, hn⟩ | ⟨hd, rfl, hty⟩
  · exact W.zret hx hb (hr.trans hty) hn (fun t ht hW => ⟨rfl, hS'.F ht⟩) hS'.2.2 hd
  · exact W.vret hx hb (hr.trans hty) (fun t ht hW => ⟨rfl, hS'.F ht⟩) hS'.2.2 hd
theorem sBlind {ak av sz : Nat} {as : List Value} : FrameBlind (va_Pc as (sB ak av sz)) := by
  intro a U g mk q
  obtain ⟨q0, q1, q2⟩ := q
  exact ⟨q0, q1, nS.same (u := U) (U := U.calling g mk a) rfl q2⟩
/-- behind a reading call: no cell has changed -/
theorem sBehind {p : Program} {l : Launch} {e : Env} {R : Room} {s : State} {m : MethodId} {args : Array Value} {below : List Frame} {meth : Method} {c : Code} {H : Heap} {locs : List Loc} {cells slots : Nat} {Q : State → Prop} {v : List Value} {A : Nat → Prop} {pc : Nat} {ls : Array Slot} {st0 rest : List Value} {a : Array Value} (hv : v.length ≤ 1)
    (hr : va_Run p l e R s m args below meth c H locs cells slots 0 0 (F0 m pc ls st0) rest (sQ v (fun q => H.size ≤ q) a) (fun q => H.size ≤ q)) (hS : va_S A s.heap H locs) (hA : ∀ q : Nat, s.heap.size ≤ q → A q)
    (kk : ∀ (H1 : Heap) (locs1 : List Loc), (∀ q : Nat, q < H.size → H1[q]? = H[q]?) → va_S A s.heap H1 locs1 → W p l e R s m args below meth c H1 locs1 cells slots Q (F0 m (pc + 3) ls (v ++ rest))) : W p l e R s m args below meth c H locs cells slots Q (F0 m pc ls st0) := by
  intro T hT X
  obtain ⟨v', st₀, t, T', L, h0, X', hL, e1, e2, ⟨hv', hz, hk⟩, stp⟩ := hr T hT X
  cases hv'
  rw [h0] at hz hk
  have hk' : ∀ q : Nat, q < H.size → T'.heap[q]? = H[q]? := fun q hq => by rw [e1]; exact hk q hq (by omega)
  obtain ⟨t2, a1, b1⟩ := kk T'.heap (locs ++ L) hk'
    ⟨Nat.le_trans hS.1 (by rw [e1]; exact hz), fun q h1 h2 => by rw [hk' q (Nat.lt_of_lt_of_le h1 hS.1)]; exact hS.2.1 q h1 h2, fun q hq => by
      rcases List.mem_append.mp hq with h | h
      · exact hS.2.2 q h
      · exact hA _ (Nat.le_trans hS.1 (hL q h))⟩ T' rfl X'
  have ev : v.head?.toList ++ rest = v ++ rest := by
    match v, hv with
    | [], _ => rfl
    | [x], _ => rfl
    | x :: y :: z, h => simp at h
  rw [← ev] at a1
  exact ⟨t2, stp t2 a1, b1⟩
section SCalls
variable {ak av D D' : Nat} {M N : jM} {pc idx n : Nat} {lv : List (Nat × Value)} {st rest As : List Value} {r v : List Value}
/-- the text stands for a callee -/
theorem nS.call {A : Nat → Prop} {s U : State} {H : Heap} {locs : List Loc} (h : nS ak av A s s.heap) (hS : va_S A s.heap H locs) (hU : U.heap = H) (hW : s.WarmedH U.vm) : sB ak av H.size U := by
  subst hU
  exact ⟨rfl, nS.old ((h.kept hS.2.1).warm hW) rfl⟩
set_option maxHeartbeats 1000000 in
theorem s_callS (hd : decode M.2.1 pc = .ok (.invokestatic idx, 3)) (hM : sMR ak av D' N As v) (hv : v.length ≤ 1) (hDD : D' + 1 ≤ D) (hN : jOK N n) (hI : Cond.static N.1 ∈ jAll) (hL : Cond.methodLink M.1.cls idx N.1 ∈ jAll) (hn : As.length = n) (hst : st = As.reverse ++ rest) (hcat : (rest.map fun v => v.category).sum ≤ 8)
    (k : JS ak av D M (pc + 3) lv (v ++ rest) r) : JS ak av D M pc lv st r := by
  intro p l e R s m args below meth c cells slots Q A C K ls H locs hl hS
  subst hst
  have hlo := C.2.2.2.2.1
  have hfr := C.2.2.2.1
  have hmx := hN.2.2.2.2.1
  have hts := C.1.2.2.2.2
  refine sBehind (v := v) (a := As.toArray) (rest := rest) hv ?_ hS C.2.2.1 (fun H1 locs1 _ hS1 => k p l e R s m args below meth c cells slots Q A C K ls H1 locs1 hl hS1)
  refine va_runS (n := n) (bytes := N.2.1) (maxL := N.2.2.1) (ret := N.2.2.2) (Ts := jAll) (own := M.1.cls) (As := As) (rest := rest) ⟨C.1.1, C.1.2.1, C.1.2.2.1, C.1.2.2.2.1, hts⟩ (sMet hN hM l H.size) (va_cwS n hts ?_ rfl rfl rfl hN.2.2.2.1 ⟨by simp only [jrm]; omega, by simp only [jrm]; omega⟩) ⟨sBlind, fun U hU hW => ⟨rfl, nS.call C.2.1 hS hU hW⟩⟩ rfl hn hl.1 rfl (lv_room hcat) hd ⟨C.2.2.2.2.2.1, C.2.2.2.2.2.2⟩
  intro w hw
  rcases List.mem_append.mp hw with hw | hw
  · have hm : w ∈ jAll := by
      simp only [List.mem_cons, List.not_mem_nil, or_false] at hw
      rcases hw with rfl | rfl | rfl
      · exact hL
      · exact hI
      · exact hN.2.2.1
    exact ⟨hm, good_of_word (jAll_good _ hm)⟩
  · exact jGood hN w hw
set_option maxHeartbeats 1000000 in
theorem s_callV (hd : decode M.2.1 pc = .ok (.invokevirtual idx, 3)) (hM : sMR ak av D' N (.ref ak :: As) v) (hv : v.length ≤ 1) (hDD : D' + 1 ≤ D) (hN : jOK N n) (hcls : N.1.cls = "java/lang/String") (hI : Cond.instanceMethod N.1 ∈ jAll) (hsel : Cond.selects N.1.cls N.1 N.1 ∈ jAll) (hL : Cond.methodLink M.1.cls idx N.1 ∈ jAll) (hn : As.length = n) (hst : st = As.reverse ++ .ref ak :: rest) (hcat : (rest.map fun v => v.category).sum ≤ 8)
    (k : JS ak av D M (pc + 3) lv (v ++ rest) r) : JS ak av D M pc lv st r := by
  intro p l e R s m args below meth c cells slots Q A C K ls H locs hl hS
  subst hst
  have hlo := C.2.2.2.2.1
  have hfr := C.2.2.2.1
  have hmx := hN.2.2.2.2.1
  have hts := C.1.2.2.2.2
  have hrecv := vk_recv C.2.1.2.1 (i := 0) (by omega) hS
  rw [← hcls] at hrecv
  refine sBehind (v := v) (a := (Value.ref ak :: As).toArray) (rest := rest) hv ?_ hS C.2.2.1 (fun H1 locs1 _ hS1 => k p l e R s m args below meth c cells slots Q A C K ls H1 locs1 hl hS1)
  refine va_runV (C := N.1.cls) (n := n) (bytes := N.2.1) (maxL := N.2.2.1) (ret := N.2.2.2) (Ts := jAll) (own := M.1.cls) (As := As) (rest := rest) ⟨C.1.1, C.1.2.1, C.1.2.2.1, C.1.2.2.2.1, hts⟩ (sMet hN hM l H.size) (cwV n hts ?_ rfl rfl rfl ⟨rfl, hN.2.2.2.1⟩ ⟨by simp only [jrm]; omega, by simp only [jrm]; omega⟩) ⟨sBlind, hrecv, fun U hU hW => ⟨rfl, nS.call C.2.1 hS hU hW⟩⟩ rfl hn hl.1 rfl (lv_room hcat) hd ⟨C.2.2.2.2.2.1, C.2.2.2.2.2.2⟩
  intro w hw
  rcases List.mem_append.mp hw with hw | hw
  · have hm : w ∈ jAll := by
      simp only [List.mem_cons, List.not_mem_nil, or_false] at hw
      rcases hw with rfl | rfl | rfl | rfl
      · exact hL
      · exact hI
      · exact hsel
      · exact hN.2.2.1
    exact ⟨hm, good_of_word (jAll_good _ hm)⟩
  · exact jGood hN w hw
end SCalls
