/-! ===== constructors: the judgement of methods that make cells ===== -/
abbrev nTx : String := "n5;g4;g2;l0,1,3;l1,4,2;l0,3,2;l3,4,2;l1,2,1;l3,2,2;l2,4,1;x0,2;x1,3;x4,5;f0,0,2;f0,1,1;f3,1,1;b1;"
def nC (E : jE) (D : Nat) (M : jM) (p : Program) (R : Room) (s : State) (m : MethodId) (args : Array Value) (meth : Method) (c : Code) (A : Nat → Prop) : Prop :=
  (p.tables.exec = Jvm.exec ∧ c.code = M.2.1 ∧ c.maxLocals = M.2.2.1 ∧ s.vm.findClass M.1.cls = some m.cls ∧ (∀ w ∈ jAll, w.before args s = true)) ∧ va_K (jG E) vwCl (jtys E) s ∧ jNW s ∧ va_AO "DropQueues$World" s ∧ (∀ q : Nat, s.heap.size ≤ q → A q) ∧ D ≤ R.frames ∧ 64 * D ≤ R.locals ∧ meth.name = "<init>"
def JN (E : jE) (D : Nat) (M : jM) (Fi : Nat → List (Nat × Value) → Prop) (Post : va_W → Prop) (pc : Nat) (lv : List (Nat × Value)) (st : List Value) (ws : va_W) (mc ms : Nat) : Prop :=
  ∀ (p : Program) (l : Launch) (e : Env) (R : Room) (s : State) (m : MethodId) (args : Array Value) (below : List Frame) (meth : Method) (c : Code) (cells slots cf sf : Nat) (Q : State → Prop) (A : Nat → Prop),
    nC E D M p R s m args meth c A → cells + mc ≤ cf → slots + ms ≤ sf → cf ≤ R.cells → sf ≤ R.slots →
    (∀ (pc' : Nat) (lv' : List (Nat × Value)) (ls' : Array Slot) (H' : Heap) (locs' : List Loc) (ws' : va_W), Fi pc' lv' → lv_has ls' M.2.2.1 lv' → Post ws' → va_P (jG E) vwCl ws' H' → va_D A ws' → va_S A s.heap H' locs' → W p l e R s m args below meth c H' locs' cf sf Q (F0 m pc' ls' [])) →
    ∀ (ls : Array Slot) (H : Heap) (locs : List Loc), lv_has ls M.2.2.1 lv → va_P (jG E) vwCl ws H → va_D A ws → va_S A s.heap H locs → W p l e R s m args below meth c H locs cells slots Q (F0 m pc ls st)
section NRules
variable {E : jE} {D : Nat} {M : jM} {Fi : Nat → List (Nat × Value) → Prop} {Post : va_W → Prop} {pc : Nat} {lv : List (Nat × Value)} {st : List Value} {ws : va_W} {mc ms : Nat}
theorem n_fin (hF : Fi pc lv) (hp : Post ws) : JN E D M Fi Post pc lv [] ws mc ms := by
  intro p l e R s m args below meth c cells slots cf sf Q A C h1 h2 h3 h4 K ls H locs hl hP hD hS
  exact W.widen (k := cf) (n := sf) (by omega) (by omega) (K pc lv ls H locs ws hF hl hp hP hD hS)
theorem n_aload {n : Fin 4} {i x : Nat} (q : Nat) (hd : decode M.2.1 pc = .ok (.aload_n n, 1)) (hi : (n : Nat) = i) (hq : lv[q]? = some (i, .ref x)) (k : JN E D M Fi Post (pc + 1) lv (.ref x :: st) ws mc ms) : JN E D M Fi Post pc lv st ws mc ms := by
  intro p l e R s m args below meth c cells slots cf sf Q A C h1 h2 h3 h4 K ls H locs hl hP hD hS
  exact lv_aload_n C.1.1 C.1.2.1 hd hi (lv_at hl q hq) (k p l e R s m args below meth c cells slots cf sf Q A C h1 h2 h3 h4 K ls H locs hl hP hD hS)
theorem n_iload {n : Fin 4} {i : Nat} {x : Int32} (q : Nat) (hd : decode M.2.1 pc = .ok (.iload_n n, 1)) (hi : (n : Nat) = i) (hq : lv[q]? = some (i, .int x)) (k : JN E D M Fi Post (pc + 1) lv (.int x :: st) ws mc ms) : JN E D M Fi Post pc lv st ws mc ms := by
  intro p l e R s m args below meth c cells slots cf sf Q A C h1 h2 h3 h4 K ls H locs hl hP hD hS
  exact lv_iload_n C.1.1 C.1.2.1 hd hi (lv_at hl q hq) (k p l e R s m args below meth c cells slots cf sf Q A C h1 h2 h3 h4 K ls H locs hl hP hD hS)
theorem n_istore {n : Fin 4} {i : Nat} {x : Int32} (hd : decode M.2.1 pc = .ok (.istore_n n, 1)) (hi : (n : Nat) = i) {lv' : List (Nat × Value)} (hn : i < M.2.2.1) (hl' : (i, Value.int x) :: lv.filter (fun q => !(q.1 == i) && !(q.1 + 1 == i && q.2.category == 2)) = lv') (k : JN E D M Fi Post (pc + 1) lv' st ws mc ms) : JN E D M Fi Post pc lv (.int x :: st) ws mc ms := by
  intro p l e R s m args below meth c cells slots cf sf Q A C h1 h2 h3 h4 K ls H locs hl hP hD hS
  exact lv_istore_n C.1.1 C.1.2.1 hd hi hl hn hl' (fun ls hl => k p l e R s m args below meth c cells slots cf sf Q A C h1 h2 h3 h4 K ls H locs hl hP hD hS)
theorem n_iinc {i : Nat} {n : Int} {x v : Int32} {lv' : List (Nat × Value)} (q : Nat) (hd : decode M.2.1 pc = .ok (.iinc i n, 3)) (hq : lv[q]? = some (i, .int x)) (hv : x + Int32.ofInt n = v) (hn : i < M.2.2.1) (hl' : (i, Value.int v) :: lv.filter (fun q => !(q.1 == i) && !(q.1 + 1 == i && q.2.category == 2)) = lv') (k : JN E D M Fi Post (pc + 3) lv' st ws mc ms) : JN E D M Fi Post pc lv st ws mc ms := by
  intro p l e R s m args below meth c cells slots cf sf Q A C h1 h2 h3 h4 K ls H locs hl hP hD hS
  exact lv_iinc C.1.1 C.1.2.1 hd hl hq hv hn hl' (fun ls hl => k p l e R s m args below meth c cells slots cf sf Q A C h1 h2 h3 h4 K ls H locs hl hP hD hS)
theorem n_goto {off : Int} {tgt : Nat} (hd : decode M.2.1 pc = .ok (.goto off, 3)) (ht : (pc : Int) + off = (tgt : Int)) (k : JN E D M Fi Post tgt lv st ws mc ms) : JN E D M Fi Post pc lv st ws mc ms := by
  intro p l e R s m args below meth c cells slots cf sf Q A C h1 h2 h3 h4 K ls H locs hl hP hD hS
  exact lv_goto C.1.1 C.1.2.1 hd ht (k p l e R s m args below meth c cells slots cf sf Q A C h1 h2 h3 h4 K ls H locs hl hP hD hS)
theorem n_icmp_ge {x y : Int32} {off : Int} {tgt : Nat} (hd : decode M.2.1 pc = .ok (.if_icmp .ge off, 3)) (ht : (pc : Int) + off = (tgt : Int)) (kt : y ≤ x → JN E D M Fi Post tgt lv st ws mc ms) (kf : ¬ (y ≤ x) → JN E D M Fi Post (pc + 3) lv st ws mc ms) : JN E D M Fi Post pc lv (.int y :: .int x :: st) ws mc ms := by
  intro p l e R s m args below meth c cells slots cf sf Q A C h1 h2 h3 h4 K ls H locs hl hP hD hS
  exact lv_icmp_ge C.1.1 C.1.2.1 hd ht (fun h => kt h p l e R s m args below meth c cells slots cf sf Q A C h1 h2 h3 h4 K ls H locs hl hP hD hS) (fun h => kf h p l e R s m args below meth c cells slots cf sf Q A C h1 h2 h3 h4 K ls H locs hl hP hD hS)
theorem n_iconst {n : Int} {v : Int32} (hd : decode M.2.1 pc = .ok (.iconst n, 1)) (hv : Int32.ofInt n = v) (k : JN E D M Fi Post (pc + 1) lv (.int v :: st) ws mc ms) : JN E D M Fi Post pc lv st ws mc ms := by
  intro p l e R s m args below meth c cells slots cf sf Q A C h1 h2 h3 h4 K ls H locs hl hP hD hS
  exact lv_iconst C.1.1 C.1.2.1 hd hv (k p l e R s m args below meth c cells slots cf sf Q A C h1 h2 h3 h4 K ls H locs hl hP hD hS)
theorem n_bipush {n : Int} {v : Int32} (hd : decode M.2.1 pc = .ok (.bipush n, 2)) (hv : (Int8.ofInt n).toInt32 = v) (k : JN E D M Fi Post (pc + 2) lv (.int v :: st) ws mc ms) : JN E D M Fi Post pc lv st ws mc ms := by
  intro p l e R s m args below meth c cells slots cf sf Q A C h1 h2 h3 h4 K ls H locs hl hP hD hS
  exact lv_bipush C.1.1 C.1.2.1 hd hv (k p l e R s m args below meth c cells slots cf sf Q A C h1 h2 h3 h4 K ls H locs hl hP hD hS)
theorem n_sipush {n : Int} {v : Int32} (hd : decode M.2.1 pc = .ok (.sipush n, 3)) (hv : (Int16.ofInt n).toInt32 = v) (k : JN E D M Fi Post (pc + 3) lv (.int v :: st) ws mc ms) : JN E D M Fi Post pc lv st ws mc ms := by
  intro p l e R s m args below meth c cells slots cf sf Q A C h1 h2 h3 h4 K ls H locs hl hP hD hS
  exact lv_sipush C.1.1 C.1.2.1 hd hv (k p l e R s m args below meth c cells slots cf sf Q A C h1 h2 h3 h4 K ls H locs hl hP hD hS)
theorem n_dup {x : Nat} (hd : decode M.2.1 pc = .ok (.dup, 1)) (k : JN E D M Fi Post (pc + 1) lv (.ref x :: .ref x :: st) ws mc ms) : JN E D M Fi Post pc lv (.ref x :: st) ws mc ms := by
  intro p l e R s m args below meth c cells slots cf sf Q A C h1 h2 h3 h4 K ls H locs hl hP hD hS
  exact lv_dup C.1.1 C.1.2.1 hd rfl (k p l e R s m args below meth c cells slots cf sf Q A C h1 h2 h3 h4 K ls H locs hl hP hD hS)
theorem n_obj {x idx : Nat} (hd : decode M.2.1 pc = .ok (.invokespecial idx, 3)) (hL : Cond.methodLink M.1.cls idx Lib.objectInit ∈ jAll) (hD1 : 1 ≤ D) (k : JN E D M Fi Post (pc + 3) lv [] ws mc ms) : JN E D M Fi Post pc lv [.ref x] ws mc ms := by
  intro p l e R s m args below meth c cells slots cf sf Q A C h1 h2 h3 h4 K ls H locs hl hP hD hS
  have hfr := C.2.2.2.2.2.1
  have hlo := C.2.2.2.2.2.2.1
  refine W.objInit (rest := []) C.1.1 C.1.2.1 C.1.2.2.2.1 (C.1.2.2.2.2 _ hL) (C.1.2.2.2.2 _ tw_92) (C.1.2.2.2.2 _ tw_93) rfl (hl.1.trans C.1.2.2.1.symm) rfl hd (by omega) (by
    show 2 * 0 + 0 + 12 ≤ R.locals
    omega) ?_
  exact W.eq (g2 := F0 m (pc + 3) ls []) rfl (k p l e R s m args below meth c cells slots cf sf Q A C h1 h2 h3 h4 K ls H locs hl hP hD hS)
/-- an array of the tables: its number is known -/
theorem n_cls {s : State} {tys : List (ClassId × FieldType)} {G : va_G} {cA cB : ClassId} {ty : FieldType} (i j : Nat) (hK : va_K G vwCl tys s) (hi : tys[i]? = some (cA, ty)) (hj : tys[j]? = some (cB, ty)) (hty : ty = .int ∨ ty = .char ∨ ty = .boolean ∨ ∃ C, ty = .object C) : cA = cB := by
  have h1 := (hK.2 i _ hi).2
  have h2 := (hK.2 j _ hj).2
  rcases hty with rfl | rfl | rfl | ⟨C, rfl⟩
  · exact Option.some.inj (Eq.trans (Eq.symm h1) h2)
  · exact Option.some.inj (Eq.trans (Eq.symm h1) h2)
  · exact Option.some.inj (Eq.trans (Eq.symm h1) h2)
  · obtain ⟨_, _, -, -, -, g1⟩ := h1
    obtain ⟨_, _, -, -, -, g2⟩ := h2
    exact Option.some.inj (g1.symm.trans g2)
theorem n_newI {n : Int32} {N : Nat} (hd : decode M.2.1 pc = .ok (.newarray .int, 2)) (hn : n = nI N) (hN : N ≤ 4000) (k : ∀ q : Nat, JN E D M Fi Post (pc + 2) lv (.ref q :: st) (ws ++ [(q, .inl (jCI E, N, .inl (fun _ => 0)))]) mc ms) : JN E D M Fi Post pc lv (.int n :: st) ws (mc + 1) (ms + N) := by
  intro p l e R s m args below meth c cells slots cf sf Q A C h1 h2 h3 h4 K ls H locs hl hP hD hS
  subst hn
  refine va_newa (atype := .int) (ty := .int) (a0 := (N, .inl (fun _ => 0))) (D := jG E) (tys := jtys E) C.1.1 C.1.2.1 (C.1.2.2.2.2 _ tw_112) rfl C.2.1 hP hD hS C.2.2.2.2.1 (fun cA => rfl) (nI_pos (by omega)) (nI_clamp (by omega)) (by show N * 4 ≤ _; omega) (by omega) (by omega) hd (fun q cA H1 hK hP hD hS => ?_)
  obtain rfl : cA = jCI E := n_cls 4 0 hK rfl rfl (Or.inl rfl)
  exact k q p l e R s m args below meth c (cells + 1) (slots + N) cf sf Q A C (by omega) (by omega) h3 h4 K ls H1 locs hl hP hD hS
theorem n_newC {n : Int32} {N : Nat} (hd : decode M.2.1 pc = .ok (.newarray .char, 2)) (hn : n = nI N) (hN : N ≤ 4000) (k : ∀ q : Nat, JN E D M Fi Post (pc + 2) lv (.ref q :: st) (ws ++ [(q, .inl (jCC E, N, .inl (fun _ => 0)))]) mc ms) : JN E D M Fi Post pc lv (.int n :: st) ws (mc + 1) (ms + N) := by
  intro p l e R s m args below meth c cells slots cf sf Q A C h1 h2 h3 h4 K ls H locs hl hP hD hS
  subst hn
  refine va_newa (atype := .char) (ty := .char) (a0 := (N, .inl (fun _ => 0))) (D := jG E) (tys := jtys E) C.1.1 C.1.2.1 (C.1.2.2.2.2 _ tw_111) rfl C.2.1 hP hD hS C.2.2.2.2.1 (fun cA => rfl) (nI_pos (by omega)) (nI_clamp (by omega)) (by show N * 2 ≤ _; omega) (by omega) (by omega) hd (fun q cA H1 hK hP hD hS => ?_)
  obtain rfl : cA = jCC E := n_cls 4 1 hK rfl rfl (Or.inr (Or.inl rfl))
  exact k q p l e R s m args below meth c (cells + 1) (slots + N) cf sf Q A C (by omega) (by omega) h3 h4 K ls H1 locs hl hP hD hS
theorem n_newZ {n : Int32} {N : Nat} (hd : decode M.2.1 pc = .ok (.newarray .boolean, 2)) (hn : n = nI N) (hN : N ≤ 4000) (k : ∀ q : Nat, JN E D M Fi Post (pc + 2) lv (.ref q :: st) (ws ++ [(q, .inl (jCZ E, N, .inl (fun _ => 0)))]) mc ms) : JN E D M Fi Post pc lv (.int n :: st) ws (mc + 1) (ms + N) := by
  intro p l e R s m args below meth c cells slots cf sf Q A C h1 h2 h3 h4 K ls H locs hl hP hD hS
  subst hn
  refine va_newa (atype := .boolean) (ty := .boolean) (a0 := (N, .inl (fun _ => 0))) (D := jG E) (tys := jtys E) C.1.1 C.1.2.1 (C.1.2.2.2.2 _ tw_838) rfl C.2.1 hP hD hS C.2.2.2.2.1 (fun cA => rfl) (nI_pos (by omega)) (nI_clamp (by omega)) (by show N * 1 ≤ _; omega) (by omega) (by omega) hd (fun q cA H1 hK hP hD hS => ?_)
  obtain rfl : cA = jCZ E := n_cls 4 2 hK rfl rfl (Or.inr (Or.inr (Or.inl rfl)))
  exact k q p l e R s m args below meth c (cells + 1) (slots + N) cf sf Q A C (by omega) (by omega) h3 h4 K ls H1 locs hl hP hD hS
theorem n_newO {idx : Nat} (hd : decode M.2.1 pc = .ok (.anewarray idx, 3)) (hL : Cond.classLink M.1.cls idx "DropQueues$World" ∈ jAll) (k : ∀ q : Nat, JN E D M Fi Post (pc + 3) lv (.ref q :: st) (ws ++ [(q, .inl (jCO E, 4, .inr (.inr (.inr (.inr (fun _ => none))))))]) mc ms) : JN E D M Fi Post pc lv (.int 4 :: st) ws (mc + 1) (ms + 4) := by
  intro p l e R s m args below meth c cells slots cf sf Q A C h1 h2 h3 h4 K ls H locs hl hP hD hS
  refine va_newq (D := jG E) (tys := jtys E) C.1.1 C.1.2.1 C.1.2.2.2.1 (C.1.2.2.2.2 _ hL) C.2.2.2.1 C.2.1 hP hD hS C.2.2.2.2.1 (N' := 4) (by decide) (by decide) (by decide) (by omega) (by omega) hd (fun q cA H1 hK hP hD hS => ?_)
  obtain rfl : cA = jCO E := n_cls 4 3 hK rfl rfl (Or.inr (Or.inr (Or.inr ⟨_, rfl⟩)))
  exact k q p l e R s m args below meth c (cells + 1) (slots + 4) cf sf Q A C (by omega) (by omega) h3 h4 K ls H1 locs hl hP hD hS
theorem n_new {C : String} {T : u_T} {N ci idx : Nat} {fs : List Value} (ty : Nat → FieldType) (hd : decode M.2.1 pc = .ok (.new idx, 3)) (hin : ∀ w ∈ u_ws C T N, w ∈ jAll) (hty : ∀ k, k < N → parseFieldDescriptor (T k).2.2.1 = some (ty k)) (hL : Cond.classLink M.1.cls idx C ∈ jAll) (hI : Cond.instantiable C N ∈ jAll) (hini : Cond.initialized C ∈ jAll) (hc : vwCl[ci]? = some (C, T, N)) (hfs : ∀ j, j < N → defaultValue (ty j) = vp_V fs j) (k : ∀ q : Nat, JN E D M Fi Post (pc + 3) lv (.ref q :: st) (ws ++ [(q, .inr (ci, fs))]) mc ms) : JN E D M Fi Post pc lv st ws (mc + 1) (ms + N) := by
  intro p l e R s m args below meth c cells slots cf sf Q A C' h1 h2 h3 h4 K ls H locs hl hP hD hS
  exact va_new (D := jG E) (tys := jtys E) C'.1.1 C'.1.2.1 C'.1.2.2.2.2 hin ty hty C'.1.2.2.2.1 (C'.1.2.2.2.2 _ hL) (C'.1.2.2.2.2 _ hI) (C'.1.2.2.2.2 _ hini) C'.2.1 hP hD hS C'.2.2.2.2.1 hc hfs (by omega) (by omega) hd (fun q H1 hP hD hS => k q p l e R s m args below meth c (cells + 1) (slots + N) cf sf Q A C' (by omega) (by omega) h3 h4 K ls H1 locs hl hP hD hS)
theorem n_putF {C : String} {T : u_T} {N ci idx kf a x : Nat} {fs fs' : List Value} {ws' : va_W} (q0 : Nat) (ty0 : Nat → FieldType) (hd : decode M.2.1 pc = .ok (.putfield idx, 3)) (hin : ∀ w ∈ u_ws C T N, w ∈ jAll) (hty : ∀ k, k < N → parseFieldDescriptor (T k).2.2.1 = some (ty0 k)) (hnm : ∀ a, a < N → ∀ b, b < N → a ≠ b → (T a).2.1 ≠ (T b).2.1) (he : ws[q0]? = some (a, .inr (ci, fs))) (hc : vwCl[ci]? = some (C, T, N)) (hk : kf < N) (hlink : Cond.fieldLink M.1.cls idx (T kf).1 (T kf).2.1 (T kf).2.2.1 ∈ jAll) (hfin : (T kf).2.2.2 = true) (hdecl : (T kf).1 = M.1.cls) {ty : FieldType} (hpd : parseFieldDescriptor (T kf).2.2.1 = some ty) (hn : narrow ty (.ref x) = .ref x) (hfit : fits ty (.ref x) = true) (hl : kf < fs.length) (hfs : fs.set kf (.ref x) = fs') (hws : ws.set q0 (a, .inr (ci, fs')) = ws') (k : JN E D M Fi Post (pc + 3) lv st ws' mc ms) : JN E D M Fi Post pc lv (.ref x :: .ref a :: st) ws mc ms := by
  intro p l e R s m args below meth c cells slots cf sf Q A C' h1 h2 h3 h4 K ls H locs hl' hP hD hS
  subst hfs
  subst hws
  exact va_putF (D := jG E) (tys := jtys E) C'.1.1 C'.1.2.1 C'.1.2.2.2.2 hin ty0 hty hnm C'.1.2.2.2.1 C'.2.1 hP hD hS q0 he hc kf hk (C'.1.2.2.2.2 _ hlink) (fun _ h9 => h9) hfin C'.2.2.2.2.2.2.2 hdecl hpd hn hfit hl hd (fun H1 locs1 hP hD hS => k p l e R s m args below meth c cells slots cf sf Q A C' h1 h2 h3 h4 K ls H1 locs1 hl' hP hD hS)
theorem n_get {C : String} {T : u_T} {N ci idx kf a : Nat} {fs : List Value} {v : Value} (q0 : Nat) (hd : decode M.2.1 pc = .ok (.getfield idx, 3)) (hin : ∀ w ∈ u_ws C T N, w ∈ jAll) (he : ws[q0]? = some (a, .inr (ci, fs))) (hc : vwCl[ci]? = some (C, T, N)) (hk : kf < N) (hlink : Cond.fieldLink M.1.cls idx (T kf).1 (T kf).2.1 (T kf).2.2.1 ∈ jAll) (hv : fs[kf]? = some v) (k : JN E D M Fi Post (pc + 3) lv (v :: st) ws mc ms) : JN E D M Fi Post pc lv (.ref a :: st) ws mc ms := by
  intro p l e R s m args below meth c cells slots cf sf Q A C' h1 h2 h3 h4 K ls H locs hl hP hD hS
  exact va_get (D := jG E) C'.1.1 C'.1.2.1 C'.1.2.2.2.2 hin C'.1.2.2.2.1 C'.2.1 hP q0 he hc kf hk (C'.1.2.2.2.2 _ hlink) (fun _ h9 => h9) hv hd (k p l e R s m args below meth c cells slots cf sf Q A C' h1 h2 h3 h4 K ls H locs hl hP hD hS)
theorem n_aast {a v : Nat} {vs : List Value} {f : Nat → Option Nat} {i : Int32} {ws' : va_W} (q0 qk : Nat) (hd : decode M.2.1 pc = .ok (.aastore, 1)) (ha : ws[q0]? = some (a, .inl (jCO E, 4, .inr (.inr (.inr (.inr f)))))) (hv : ws[qk]? = some (v, .inr (6, vs))) (hin : vp_in i 4) (hws : ws.set q0 (a, .inl (jCO E, 4, .inr (.inr (.inr (.inr (va_up f i.toNatClampNeg (some v))))))) = ws') (k : JN E D M Fi Post (pc + 1) lv st ws' mc ms) : JN E D M Fi Post pc lv (.ref v :: .int i :: .ref a :: st) ws mc ms := by
  intro p l e R s m args below meth c cells slots cf sf Q A C' h1 h2 h3 h4 K ls H locs hl hP hD hS
  subst hws
  exact va_astq (D := jG E) (tys := jtys E) C'.1.1 C'.1.2.1 C'.2.1 hP hD hS q0 3 qk 6 ha rfl hv rfl hin hd (fun H1 locs1 hP hD hS => k p l e R s m args below meth c cells slots cf sf Q A C' h1 h2 h3 h4 K ls H1 locs1 hl hP hD hS)
/-- the same cells, said otherwise -/
theorem n_conv {ws' : va_W} (hP' : ∀ H : Heap, va_P (jG E) vwCl ws H → va_P (jG E) vwCl ws' H) (hD' : ∀ A : Nat → Prop, va_D A ws → va_D A ws') (k : JN E D M Fi Post pc lv st ws' mc ms) : JN E D M Fi Post pc lv st ws mc ms := by
  intro p l e R s m args below meth c cells slots cf sf Q A C' h1 h2 h3 h4 K ls H locs hl hP hD hS
  exact k p l e R s m args below meth c cells slots cf sf Q A C' h1 h2 h3 h4 K ls H locs hl (hP' H hP) (hD' A hD) hS
theorem n_less {mc' ms' : Nat} (h5 : mc' ≤ mc) (h6 : ms' ≤ ms) (k : JN E D M Fi Post pc lv st ws mc' ms') : JN E D M Fi Post pc lv st ws mc ms := by
  intro p l e R s m args below meth c cells slots cf sf Q A C' h1 h2 h3 h4 K ls H locs hl hP hD hS
  exact k p l e R s m args below meth c cells slots cf sf Q A C' (by omega) (by omega) h3 h4 K ls H locs hl hP hD hS
end NRules
/-! ===== a constructor, called ===== -/
def nrm (D mc ms : Nat) : Room := { frames := D, cells := mc, slots := ms, locals := 64 * D }
def nB (E : jE) (ws : va_W) (U : State) : Prop := va_P (jG E) vwCl ws U.heap ∧ va_K (jG E) vwCl (jtys E) U ∧ va_D (fun _ => True) ws ∧ jNW U ∧ va_AO "DropQueues$World" U
def nRet (M : jM) : Nat → List (Nat × Value) → Prop := fun pc _ => decode M.2.1 pc = .ok (.return_, 1)
def nQ (E : jE) (Post : va_W → Prop) (A : Nat → Prop) : Array Value → State → Outcome → State → Prop := va_Qv Post (fun ws' t => va_P (jG E) vwCl ws' t.heap ∧ va_D A ws') A
def nMR (E : jE) (D : Nat) (M : jM) (a : Nat) (e : va_E) (mc ms : Nat) (Post : va_W → Prop) : Prop := JN E D M (nRet M) Post 0 [(0, .ref a)] [] [(a, e)] mc ms
set_option maxHeartbeats 1000000 in
theorem nMet {E : jE} {D n a mc ms : Nat} {N : jM} {ee : va_E} {Post : va_W → Prop} (hN : jOK N n) (hi : N.1.name = "<init>") (hr0 : N.2.2.2 = none) (h1 : 1 ≤ N.2.2.1) (h : nMR E D N a ee mc ms Post) (l : Launch) (sz : Nat) : Met l N.1 (jTs N) (nrm D mc ms) (va_Pc [.ref a] (fun U => U.heap.size = sz ∧ nB E [(a, ee)] U)) (nQ E Post (va_A [(a, ee)] sz)) mc ms (va_A [(a, ee)] sz) := by
  refine Met.ofW (cc := N.2.1) (maxL := N.2.2.1) (ret := N.2.2.2) (ws' := jAll) hN.1 rfl ?_
  intro p e s m args below meth c s₁ B hml hv
  obtain ⟨rfl, hsz, hP, hK, hD0, hNW, hAO⟩ := hv
  have hx := B.exec
  have hb := B.bytes
  have hr := B.returns
  have hts := atoms_spec (ws := jTs N) B.pre
  have hown : s.vm.findClass N.1.cls = some m.cls := findClass_of_methodNamed B.named
  have hlocks := B.notSynchronized
  have hin : meth.name = "<init>" := (name_of_methodNamed B.named B.method).1.trans hi
  subst hsz
  have hD := hD0.self (sz := s.heap.size)
  have hA : ∀ q : Nat, s.heap.size ≤ q → va_A [(a, ee)] s.heap.size q := fun q h => Or.inr h
  have hl := lv_entry [.ref a] (n := N.2.2.1) h1
  rw [lg_entry_eq]
  refine h p l e _ s m _ below meth c 0 0 mc ms _ (va_A [(a, ee)] s.heap.size) ⟨⟨hx, hb, hml, hown, fun w hw => hts w (List.mem_cons_of_mem _ hw)⟩, hK, hNW, hAO, hA, Nat.le_refl _, Nat.le_refl _, hin⟩ (by omega) (by omega) (Nat.le_refl _) (Nat.le_refl _) ?_ _ _ _ hl hP hD va_S.rf
  intro pc' lv' ls' H' locs' ws' hret _ hp hP' hD' hS'
  exact W.vret hx hb (hr.trans hr0) (fun t ht hW => ⟨⟨ws', rfl, hp, by rw [ht]; exact hP', hD'⟩, hS'.F ht⟩) hS'.2.2 hret
theorem nBlind {E : jE} {ws : va_W} {av : List Value} {sz : Nat} : FrameBlind (va_Pc av (fun U => U.heap.size = sz ∧ nB E ws U)) := by
  intro a U g mk q
  obtain ⟨q0, q1, qP, qK, qD, qN, qA⟩ := q
  exact ⟨q0, q1, qP, va_K.moved (u := U) (U := U.calling g mk a) (Vm.Alike.refl U.vm) qK, qD, fun w hw => va_Nw.same (u := U) (U := U.calling g mk a) rfl rfl (qN w hw), va_AO.moved (u := U) (U := U.calling g mk a) (Vm.Alike.refl U.vm) qA⟩
theorem n_last {A0 : Nat → Prop} {G : va_G} {cl : List vw_C} {wr : va_W} {x : Nat × va_E} {H : Heap} (hP : va_P G cl (wr ++ [x]) H) (hD : va_D A0 (wr ++ [x])) : va_P G cl [x] H ∧ va_D A0 [x] ∧ va_P G cl wr H ∧ va_D A0 wr ∧ ∀ (i : Nat) (y : Nat × va_E), wr[i]? = some y → y.1 ≠ x.1 := by
  have e1 : ∀ (i : Nat) (y : Nat × va_E), wr[i]? = some y → (wr ++ [x])[i]? = some y := fun i y h => by
    rw [List.getElem?_append_left (List.getElem?_eq_some_iff.mp h).1]; exact h
  have e2 : (wr ++ [x])[wr.length]? = some x := by rw [List.getElem?_append_right (Nat.le_refl _), Nat.sub_self]; rfl
  have e3 : ∀ (k : Nat) (y : Nat × va_E), [x][k]? = some y → k = 0 ∧ y = x := fun k y h => by
    have hz : k < 1 := (List.getElem?_eq_some_iff.mp h).1
    obtain rfl : k = 0 := by omega
    exact ⟨rfl, (Option.some.inj h).symm⟩
  refine ⟨fun k y h => ?_, ⟨fun i j p q hp hq _ => ?_, fun k y h => ?_⟩, fun k y h => hP k y (e1 k y h), ⟨fun i j p q hp hq he => hD.1 i j p q (e1 i p hp) (e1 j q hq) he, fun k y h => hD.2 k y (e1 k y h)⟩, fun i y h he => ?_⟩
  · obtain ⟨rfl, rfl⟩ := e3 k y h
    exact hP wr.length y e2
  · rw [(e3 i p hp).1, (e3 j q hq).1]
  · obtain ⟨rfl, rfl⟩ := e3 k y h
    exact hD.2 wr.length y e2
  · have := hD.1 i wr.length y x (e1 i y h) e2 he
    have := (List.getElem?_eq_some_iff.mp h).1
    omega
theorem n_join {A0 : Nat → Prop} {G : va_G} {cl : List vw_C} {wr w1 : va_W} {x : Nat × va_E} {H H1 : Heap} (hP : va_P G cl (wr ++ [x]) H) (hD : va_D A0 (wr ++ [x])) (hk : ∀ q : Nat, q < H.size → ¬ va_A [x] H.size q → H1[q]? = H[q]?) (hF : ∀ q, va_A [x] H.size q → A0 q) (hP1 : va_P G cl w1 H1) (hD1 : va_D (va_A [x] H.size) w1) : va_P G cl (wr ++ w1) H1 ∧ va_D A0 (wr ++ w1) := by
  obtain ⟨-, -, hPr, hDr, hne⟩ := n_last hP hD
  have apart : ∀ (k : Nat) (q : Nat × va_E), wr[k]? = some q → q.1 < H.size ∧ ¬ va_A [x] H.size q.1 := by
    intro k q hq
    have hl := (hPr k q hq).lt
    refine ⟨hl, fun h => ?_⟩
    rcases h with ⟨k2, e, h⟩ | h
    · have hz : k2 < 1 := (List.getElem?_eq_some_iff.mp h).1
      obtain rfl : k2 = 0 := by omega
      have e9 : x = (q.1, e) := Option.some.inj h
      exact hne k q hq (by rw [e9])
    · omega
  refine ⟨va_P.app (fun k q hq => ?_) hP1, va_D.app hDr (hD1.weaken (fun k q _ h => hF q.1 h)) (fun i j y z hy hz hyz => ?_)⟩
  · obtain ⟨g1, g2⟩ := apart k q hq
    exact (hPr k q hq).kept (hk q.1 g1 g2)
  · exact (apart i y hy).2 (by rw [hyz]; exact hD1.2 j z hz)
theorem n_freeL {A : Nat → Prop} {wr : va_W} {x : Nat × va_E} {H0 H : Heap} {locs : List Loc} (hD : va_D A (wr ++ [x])) (hS : va_S A H0 H locs) (hA : ∀ q : Nat, H0.size ≤ q → A q) : ∀ q, va_A [x] H.size q → A q := by
  intro q hq
  rcases hq with ⟨k, e, hk⟩ | hq
  · have hz : k < 1 := (List.getElem?_eq_some_iff.mp hk).1
    obtain rfl : k = 0 := by omega
    have e9 : x = (q, e) := Option.some.inj hk
    have := hD.2 wr.length x (by rw [List.getElem?_append_right (Nat.le_refl _), Nat.sub_self]; rfl)
    rw [e9] at this
    exact this
  · exact hA q (Nat.le_trans hS.1 hq)
section NCalls
variable {E : jE} {D D' : Nat} {M N : jM} {Fi : Nat → List (Nat × Value) → Prop} {Post Post' : va_W → Prop} {pc idx a : Nat} {lv : List (Nat × Value)} {rest : List Value} {wr : va_W} {ee : va_E} {mc ms mc' ms' : Nat}
set_option maxHeartbeats 1000000 in
theorem n_callN {host : String} (hd : decode M.2.1 pc = .ok (.invokespecial idx, 3)) (hM : nMR E D' N a ee mc' ms' Post') (hDD : D' + 1 ≤ D) (hN : jOK N 0) (hi : N.1.name = "<init>") (hr0 : N.2.2.2 = none) (h1 : 1 ≤ N.2.2.1) (hI : Cond.instanceMethod N.1 ∈ jAll) (hL : (M.1.cls, idx, N.1, host) ∈ jNest) (hcat : (rest.map fun v => v.category).sum ≤ 8)
    (k : ∀ w1 : va_W, Post' w1 → JN E D M Fi Post (pc + 3) lv rest (wr ++ w1) mc ms) : JN E D M Fi Post pc lv (.ref a :: rest) (wr ++ [(a, ee)]) (mc + mc') (ms + ms') := by
  intro p l e R s m args below meth c cells slots cf sf Q A C h2 h3 h4 h5 K ls H locs hl hP hD hS
  have hlo := C.2.2.2.2.2.2.1
  have hfr := C.2.2.2.2.2.1
  have hmx := hN.2.2.2.2.1
  have hts := C.1.2.2.2.2
  have hF := n_freeL hD hS C.2.2.2.2.1
  obtain ⟨hPx, hDx, -⟩ := n_last hP hD
  refine va_callv (A0 := A) (va_runIN (n := 0) (bytes := N.2.1) (maxL := N.2.2.1) (Ts := jAll) (own := M.1.cls) (host := host) (As := []) (rest := rest) ⟨C.1.1, C.1.2.1, C.1.2.2.1, C.1.2.2.2.1, hts⟩ (nMet hN hi hr0 h1 hM l H.size) ⟨va_cnB 0 hts (jGood hN) (by rw [← hr0]; rfl) rfl rfl (C.2.2.1 _ hL) (hts _ hN.2.2.1) hN.2.2.2.1 ⟨by simp only [nrm]; omega, by simp only [nrm]; omega⟩, hi, hts _ hI⟩ ⟨nBlind, fun U hU hW => ⟨rfl, by rw [hU], by rw [hU]; exact hPx, va_K.moved hW.alike C.2.1, hDx.weaken (fun _ _ _ _ => trivial), jNW.warm hW C.2.2.1, C.2.2.2.1.moved hW.alike⟩⟩ rfl rfl hl.1 rfl (lv_room hcat) hd ⟨by omega, by omega⟩) hS (fun q _ h => hF q h) hF (fun w1 t H1 locs1 ht hvm hw hB hz1 hk1 hS1 => ?_)
  obtain ⟨hP1, hD1⟩ := hB
  rw [ht] at hP1
  obtain ⟨hP2, hD2⟩ := n_join hP hD hk1 hF hP1 hD1
  exact k w1 hw p l e R s m args below meth c (cells + mc') (slots + ms') cf sf Q A C (by omega) (by omega) h4 h5 K ls H1 locs1 hl hP2 hD2 hS1
set_option maxHeartbeats 1000000 in
theorem n_callI (hd : decode M.2.1 pc = .ok (.invokespecial idx, 3)) (hM : nMR E D' N a ee mc' ms' Post') (hDD : D' + 1 ≤ D) (hN : jOK N 0) (hi : N.1.name = "<init>") (hr0 : N.2.2.2 = none) (h1 : 1 ≤ N.2.2.1) (hI : Cond.instanceMethod N.1 ∈ jAll) (hL : Cond.methodLink M.1.cls idx N.1 ∈ jAll) (hcat : (rest.map fun v => v.category).sum ≤ 8)
    (k : ∀ w1 : va_W, Post' w1 → JN E D M Fi Post (pc + 3) lv rest (wr ++ w1) mc ms) : JN E D M Fi Post pc lv (.ref a :: rest) (wr ++ [(a, ee)]) (mc + mc') (ms + ms') := by
  intro p l e R s m args below meth c cells slots cf sf Q A C h2 h3 h4 h5 K ls H locs hl hP hD hS
  have hlo := C.2.2.2.2.2.2.1
  have hfr := C.2.2.2.2.2.1
  have hmx := hN.2.2.2.2.1
  have hts := C.1.2.2.2.2
  have hF := n_freeL hD hS C.2.2.2.2.1
  obtain ⟨hPx, hDx, -⟩ := n_last hP hD
  refine va_callv (A0 := A) (va_runI (n := 0) (bytes := N.2.1) (maxL := N.2.2.1) (Ts := jAll) (own := M.1.cls) (As := []) (rest := rest) ⟨C.1.1, C.1.2.1, C.1.2.2.1, C.1.2.2.2.1, hts⟩ (nMet hN hi hr0 h1 hM l H.size) (cwI 0 hts (jGood hN) (by rw [← hr0]; rfl) rfl rfl (hts _ hN.2.2.1) (hts _ hL) (hts _ hI) hi hN.2.2.2.1 ⟨by simp only [nrm]; omega, by simp only [nrm]; omega⟩) ⟨nBlind, fun U hU hW => ⟨rfl, by rw [hU], by rw [hU]; exact hPx, va_K.moved hW.alike C.2.1, hDx.weaken (fun _ _ _ _ => trivial), jNW.warm hW C.2.2.1, C.2.2.2.1.moved hW.alike⟩⟩ rfl rfl hl.1 rfl (lv_room hcat) hd ⟨by omega, by omega⟩) hS (fun q _ h => hF q h) hF (fun w1 t H1 locs1 ht hvm hw hB hz1 hk1 hS1 => ?_)
  obtain ⟨hP1, hD1⟩ := hB
  rw [ht] at hP1
  obtain ⟨hP2, hD2⟩ := n_join hP hD hk1 hF hP1 hD1
  exact k w1 hw p l e R s m args below meth c (cells + mc') (slots + ms') cf sf Q A C (by omega) (by omega) h4 h5 K ls H1 locs1 hl hP2 hD2 hS1
end NCalls
