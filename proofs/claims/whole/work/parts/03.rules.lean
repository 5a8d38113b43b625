/-! ===== the judgement: from here the method comes to its return, with r and the state S' ===== -/
/-- a method: its name, code, locals, return type -/
abbrev jM : Type := MethodName × ByteArray × Nat × Option FieldType
def jTs (M : jM) : List Cond := Cond.code M.1 M.2.1 M.2.2.1 M.2.2.2 :: jAll
def jNW (U : State) : Prop := ∀ q ∈ jNest, va_Nw (.methodLinkNest q.1 q.2.1 q.2.2.1 q.2.2.2) U
def jC (E : jE) (D : Nat) (M : jM) (p : Program) (R : Room) (s : State) (m : MethodId) (args : Array Value) (c : Code) (cells slots : Nat) (A : Nat → Prop) : Prop :=
  (p.tables.exec = Jvm.exec ∧ c.code = M.2.1 ∧ c.maxLocals = M.2.2.1 ∧ s.vm.findClass M.1.cls = some m.cls ∧ (∀ w ∈ jAll, w.before args s = true)) ∧ va_K (jG E) vwCl (jtys E) s ∧ jNW s ∧ (∀ q : Nat, s.heap.size ≤ q → A q) ∧ D ≤ R.frames ∧ 64 * D ≤ R.locals ∧ cells ≤ R.cells ∧ slots ≤ R.slots ∧ (M.1 = yL_law → va_X (jX E).1 (jX E).2.1 (jX E).2.2 s s.heap ∧ (jX E).1 < s.heap.size ∧ ¬ A (jX E).1)
def jRet (M : jM) (r : List Value) (pc : Nat) : Prop := (decode M.2.1 pc = .ok (.ireturn, 1) ∧ ∃ v : Int32, r = [.int v] ∧ ∃ ty, M.2.2.2 = some ty ∧ narrow ty (.int v) = .int v) ∨ (decode M.2.1 pc = .ok (.return_, 1) ∧ r = [] ∧ M.2.2.2 = none)
def JR (E : jE) (D : Nat) (M : jM) (pc : Nat) (lv : List (Nat × Value)) (st : List Value) (S : jS) (r : List Value) (S' : jS) : Prop :=
  ∀ (p : Program) (l : Launch) (e : Env) (R : Room) (s : State) (m : MethodId) (args : Array Value) (below : List Frame) (meth : Method) (c : Code) (cells slots : Nat) (Q : State → Prop) (A : Nat → Prop),
    jC E D M p R s m args c cells slots A →
    (∀ (pc' : Nat) (ls' : Array Slot) (H' : Heap) (locs' : List Loc), jRet M r pc' → va_P (jG E) vwCl (jws E S') H' → va_D A (jws E S') → va_S A s.heap H' locs' → W p l e R s m args below meth c H' locs' cells slots Q (F0 m pc' ls' r)) →
    ∀ (ls : Array Slot) (H : Heap) (locs : List Loc), lv_has ls M.2.2.1 lv → va_P (jG E) vwCl (jws E S) H → va_D A (jws E S) → va_S A s.heap H locs → W p l e R s m args below meth c H locs cells slots Q (F0 m pc ls st)
section JRules
variable {E : jE} {D : Nat} {M : jM} {pc : Nat} {lv : List (Nat × Value)} {st : List Value} {S S' : jS} {r : List Value}
theorem j_iconst {n : Int} {v : Int32} (hd : decode M.2.1 pc = .ok (.iconst n, 1)) (hv : Int32.ofInt n = v) (k : JR E D M (pc + 1) lv (.int v :: st) S r S') : JR E D M pc lv st S r S' := by
  intro p l e R s m args below meth c cells slots Q A C K ls H locs hl hP hD hS
  exact lv_iconst C.1.1 C.1.2.1 hd hv (k p l e R s m args below meth c cells slots Q A C K ls H locs hl hP hD hS)
theorem j_bipush {n : Int} {v : Int32} (hd : decode M.2.1 pc = .ok (.bipush n, 2)) (hv : (Int8.ofInt n).toInt32 = v) (k : JR E D M (pc + 2) lv (.int v :: st) S r S') : JR E D M pc lv st S r S' := by
  intro p l e R s m args below meth c cells slots Q A C K ls H locs hl hP hD hS
  exact lv_bipush C.1.1 C.1.2.1 hd hv (k p l e R s m args below meth c cells slots Q A C K ls H locs hl hP hD hS)
theorem j_sipush {n : Int} {v : Int32} (hd : decode M.2.1 pc = .ok (.sipush n, 3)) (hv : (Int16.ofInt n).toInt32 = v) (k : JR E D M (pc + 3) lv (.int v :: st) S r S') : JR E D M pc lv st S r S' := by
  intro p l e R s m args below meth c cells slots Q A C K ls H locs hl hP hD hS
  exact lv_sipush C.1.1 C.1.2.1 hd hv (k p l e R s m args below meth c cells slots Q A C K ls H locs hl hP hD hS)
theorem j_lconst {n : Fin 2} {v : Int64} (hd : decode M.2.1 pc = .ok (.lconst n, 1)) (hv : Int64.ofNat n = v) (k : JR E D M (pc + 1) lv (.long v :: st) S r S') : JR E D M pc lv st S r S' := by
  intro p l e R s m args below meth c cells slots Q A C K ls H locs hl hP hD hS
  exact lv_lconst C.1.1 C.1.2.1 hd hv (k p l e R s m args below meth c cells slots Q A C K ls H locs hl hP hD hS)
theorem j_ldcw {i : Nat} {v : Int32} (hd : decode M.2.1 pc = .ok (.ldc_w i, 3)) (hw : Cond.constant M.1.cls i v ∈ jAll) (k : JR E D M (pc + 3) lv (.int v :: st) S r S') : JR E D M pc lv st S r S' := by
  intro p l e R s m args below meth c cells slots Q A C K ls H locs hl hP hD hS
  exact lv_ldcw C.1.1 C.1.2.1 C.1.2.2.2.1 (C.1.2.2.2.2 _ hw) hd (k p l e R s m args below meth c cells slots Q A C K ls H locs hl hP hD hS)
theorem j_ldc2 {i : Nat} {v : Int64} (hd : decode M.2.1 pc = .ok (.ldc2_w i, 3)) (hw : Cond.constantLong M.1.cls i v ∈ jAll) (k : JR E D M (pc + 3) lv (.long v :: st) S r S') : JR E D M pc lv st S r S' := by
  intro p l e R s m args below meth c cells slots Q A C K ls H locs hl hP hD hS
  exact lv_ldc2 C.1.1 C.1.2.1 C.1.2.2.2.1 (C.1.2.2.2.2 _ hw) hd (k p l e R s m args below meth c cells slots Q A C K ls H locs hl hP hD hS)
theorem j_iload_n {n : Fin 4} {i : Nat} {x : Int32} (q : Nat) (hd : decode M.2.1 pc = .ok (.iload_n n, 1)) (hi : (n : Nat) = i) (hq : lv[q]? = some (i, .int x)) (k : JR E D M (pc + 1) lv (.int x :: st) S r S') : JR E D M pc lv st S r S' := by
  intro p l e R s m args below meth c cells slots Q A C K ls H locs hl hP hD hS
  exact lv_iload_n C.1.1 C.1.2.1 hd hi (lv_at hl q hq) (k p l e R s m args below meth c cells slots Q A C K ls H locs hl hP hD hS)
theorem j_iload {i : Nat} {x : Int32} (q : Nat) (hd : decode M.2.1 pc = .ok (.iload i, 2)) (hq : lv[q]? = some (i, .int x)) (k : JR E D M (pc + 2) lv (.int x :: st) S r S') : JR E D M pc lv st S r S' := by
  intro p l e R s m args below meth c cells slots Q A C K ls H locs hl hP hD hS
  exact lv_iload C.1.1 C.1.2.1 hd (lv_at hl q hq) (k p l e R s m args below meth c cells slots Q A C K ls H locs hl hP hD hS)
theorem j_lload_n {n : Fin 4} {i : Nat} {x : Int64} (q : Nat) (hd : decode M.2.1 pc = .ok (.lload_n n, 1)) (hi : (n : Nat) = i) (hq : lv[q]? = some (i, .long x)) (k : JR E D M (pc + 1) lv (.long x :: st) S r S') : JR E D M pc lv st S r S' := by
  intro p l e R s m args below meth c cells slots Q A C K ls H locs hl hP hD hS
  exact lv_lload_n C.1.1 C.1.2.1 hd hi (lv_at hl q hq) (k p l e R s m args below meth c cells slots Q A C K ls H locs hl hP hD hS)
theorem j_lload {i : Nat} {x : Int64} (q : Nat) (hd : decode M.2.1 pc = .ok (.lload i, 2)) (hq : lv[q]? = some (i, .long x)) (k : JR E D M (pc + 2) lv (.long x :: st) S r S') : JR E D M pc lv st S r S' := by
  intro p l e R s m args below meth c cells slots Q A C K ls H locs hl hP hD hS
  exact lv_lload C.1.1 C.1.2.1 hd (lv_at hl q hq) (k p l e R s m args below meth c cells slots Q A C K ls H locs hl hP hD hS)
theorem j_aload_n {n : Fin 4} {i : Nat} {x : Nat} (q : Nat) (hd : decode M.2.1 pc = .ok (.aload_n n, 1)) (hi : (n : Nat) = i) (hq : lv[q]? = some (i, .ref x)) (k : JR E D M (pc + 1) lv (.ref x :: st) S r S') : JR E D M pc lv st S r S' := by
  intro p l e R s m args below meth c cells slots Q A C K ls H locs hl hP hD hS
  exact lv_aload_n C.1.1 C.1.2.1 hd hi (lv_at hl q hq) (k p l e R s m args below meth c cells slots Q A C K ls H locs hl hP hD hS)
theorem j_istore_n {n : Fin 4} {i : Nat} {x : Int32} (hd : decode M.2.1 pc = .ok (.istore_n n, 1)) (hi : (n : Nat) = i) {lv' : List (Nat × Value)} (hn : i < M.2.2.1) (hl' : (i, Value.int x) :: lv.filter (fun q => !(q.1 == i) && !(q.1 + 1 == i && q.2.category == 2)) = lv') (k : JR E D M (pc + 1) lv' st S r S') : JR E D M pc lv (.int x :: st) S r S' := by
  intro p l e R s m args below meth c cells slots Q A C K ls H locs hl hP hD hS
  exact lv_istore_n C.1.1 C.1.2.1 hd hi hl hn hl' (fun ls hl => k p l e R s m args below meth c cells slots Q A C K ls H locs hl hP hD hS)
theorem j_istore {i : Nat} {x : Int32} (hd : decode M.2.1 pc = .ok (.istore i, 2)) {lv' : List (Nat × Value)} (hn : i < M.2.2.1) (hl' : (i, Value.int x) :: lv.filter (fun q => !(q.1 == i) && !(q.1 + 1 == i && q.2.category == 2)) = lv') (k : JR E D M (pc + 2) lv' st S r S') : JR E D M pc lv (.int x :: st) S r S' := by
  intro p l e R s m args below meth c cells slots Q A C K ls H locs hl hP hD hS
  exact lv_istore C.1.1 C.1.2.1 hd hl hn hl' (fun ls hl => k p l e R s m args below meth c cells slots Q A C K ls H locs hl hP hD hS)
theorem j_lstore_n {n : Fin 4} {i : Nat} {x : Int64} (hd : decode M.2.1 pc = .ok (.lstore_n n, 1)) (hi : (n : Nat) = i) {lv' : List (Nat × Value)} (hn : i + 1 < M.2.2.1) (hl' : (i, Value.long x) :: lv.filter (fun q => !(q.1 == i) && (!(q.1 == i + 1) && !(q.1 + 1 == i && q.2.category == 2))) = lv') (k : JR E D M (pc + 1) lv' st S r S') : JR E D M pc lv (.long x :: st) S r S' := by
  intro p l e R s m args below meth c cells slots Q A C K ls H locs hl hP hD hS
  exact lv_lstore_n C.1.1 C.1.2.1 hd hi hl hn hl' (fun ls hl => k p l e R s m args below meth c cells slots Q A C K ls H locs hl hP hD hS)
theorem j_lstore {i : Nat} {x : Int64} (hd : decode M.2.1 pc = .ok (.lstore i, 2)) {lv' : List (Nat × Value)} (hn : i + 1 < M.2.2.1) (hl' : (i, Value.long x) :: lv.filter (fun q => !(q.1 == i) && (!(q.1 == i + 1) && !(q.1 + 1 == i && q.2.category == 2))) = lv') (k : JR E D M (pc + 2) lv' st S r S') : JR E D M pc lv (.long x :: st) S r S' := by
  intro p l e R s m args below meth c cells slots Q A C K ls H locs hl hP hD hS
  exact lv_lstore C.1.1 C.1.2.1 hd hl hn hl' (fun ls hl => k p l e R s m args below meth c cells slots Q A C K ls H locs hl hP hD hS)
theorem j_iinc {i : Nat} {n : Int} {x v : Int32} {lv' : List (Nat × Value)} (q : Nat) (hd : decode M.2.1 pc = .ok (.iinc i n, 3)) (hq : lv[q]? = some (i, .int x)) (hv : x + Int32.ofInt n = v) (hn : i < M.2.2.1) (hl' : (i, Value.int v) :: lv.filter (fun q => !(q.1 == i) && !(q.1 + 1 == i && q.2.category == 2)) = lv') (k : JR E D M (pc + 3) lv' st S r S') : JR E D M pc lv st S r S' := by
  intro p l e R s m args below meth c cells slots Q A C K ls H locs hl hP hD hS
  exact lv_iinc C.1.1 C.1.2.1 hd hl hq hv hn hl' (fun ls hl => k p l e R s m args below meth c cells slots Q A C K ls H locs hl hP hD hS)
theorem j_iadd {x y : Int32} (hd : decode M.2.1 pc = .ok (.iadd, 1)) (k : JR E D M (pc + 1) lv (.int (x + y) :: st) S r S') : JR E D M pc lv (.int y :: .int x :: st) S r S' := by
  intro p l e R s m args below meth c cells slots Q A C K ls H locs hl hP hD hS
  exact lv_iadd C.1.1 C.1.2.1 hd (k p l e R s m args below meth c cells slots Q A C K ls H locs hl hP hD hS)
theorem j_isub {x y : Int32} (hd : decode M.2.1 pc = .ok (.isub, 1)) (k : JR E D M (pc + 1) lv (.int (x - y) :: st) S r S') : JR E D M pc lv (.int y :: .int x :: st) S r S' := by
  intro p l e R s m args below meth c cells slots Q A C K ls H locs hl hP hD hS
  exact lv_isub C.1.1 C.1.2.1 hd (k p l e R s m args below meth c cells slots Q A C K ls H locs hl hP hD hS)
theorem j_imul {x y : Int32} (hd : decode M.2.1 pc = .ok (.imul, 1)) (k : JR E D M (pc + 1) lv (.int (x * y) :: st) S r S') : JR E D M pc lv (.int y :: .int x :: st) S r S' := by
  intro p l e R s m args below meth c cells slots Q A C K ls H locs hl hP hD hS
  exact lv_imul C.1.1 C.1.2.1 hd (k p l e R s m args below meth c cells slots Q A C K ls H locs hl hP hD hS)
theorem j_iand {x y : Int32} (hd : decode M.2.1 pc = .ok (.iand, 1)) (k : JR E D M (pc + 1) lv (.int (x &&& y) :: st) S r S') : JR E D M pc lv (.int y :: .int x :: st) S r S' := by
  intro p l e R s m args below meth c cells slots Q A C K ls H locs hl hP hD hS
  exact lv_iand C.1.1 C.1.2.1 hd (k p l e R s m args below meth c cells slots Q A C K ls H locs hl hP hD hS)
theorem j_ior {x y : Int32} (hd : decode M.2.1 pc = .ok (.ior, 1)) (k : JR E D M (pc + 1) lv (.int (x ||| y) :: st) S r S') : JR E D M pc lv (.int y :: .int x :: st) S r S' := by
  intro p l e R s m args below meth c cells slots Q A C K ls H locs hl hP hD hS
  exact lv_ior C.1.1 C.1.2.1 hd (k p l e R s m args below meth c cells slots Q A C K ls H locs hl hP hD hS)
theorem j_ixor {x y : Int32} (hd : decode M.2.1 pc = .ok (.ixor, 1)) (k : JR E D M (pc + 1) lv (.int (x ^^^ y) :: st) S r S') : JR E D M pc lv (.int y :: .int x :: st) S r S' := by
  intro p l e R s m args below meth c cells slots Q A C K ls H locs hl hP hD hS
  exact lv_ixor C.1.1 C.1.2.1 hd (k p l e R s m args below meth c cells slots Q A C K ls H locs hl hP hD hS)
theorem j_ishl {x y : Int32} (hd : decode M.2.1 pc = .ok (.ishl, 1)) (k : JR E D M (pc + 1) lv (.int (x <<< (y &&& 31)) :: st) S r S') : JR E D M pc lv (.int y :: .int x :: st) S r S' := by
  intro p l e R s m args below meth c cells slots Q A C K ls H locs hl hP hD hS
  exact lv_ishl C.1.1 C.1.2.1 hd (k p l e R s m args below meth c cells slots Q A C K ls H locs hl hP hD hS)
theorem j_ishr {x y : Int32} (hd : decode M.2.1 pc = .ok (.ishr, 1)) (k : JR E D M (pc + 1) lv (.int (x >>> (y &&& 31)) :: st) S r S') : JR E D M pc lv (.int y :: .int x :: st) S r S' := by
  intro p l e R s m args below meth c cells slots Q A C K ls H locs hl hP hD hS
  exact lv_ishr C.1.1 C.1.2.1 hd (k p l e R s m args below meth c cells slots Q A C K ls H locs hl hP hD hS)
theorem j_idiv {x y : Int32} (hd : decode M.2.1 pc = .ok (.idiv, 1)) (hne : ¬ y = 0) (k : JR E D M (pc + 1) lv (.int (x / y) :: st) S r S') : JR E D M pc lv (.int y :: .int x :: st) S r S' := by
  intro p l e R s m args below meth c cells slots Q A C K ls H locs hl hP hD hS
  exact lv_idiv C.1.1 C.1.2.1 hd hne (k p l e R s m args below meth c cells slots Q A C K ls H locs hl hP hD hS)
theorem j_irem {x y : Int32} (hd : decode M.2.1 pc = .ok (.irem, 1)) (hne : ¬ y = 0) (k : JR E D M (pc + 1) lv (.int (x - x / y * y) :: st) S r S') : JR E D M pc lv (.int y :: .int x :: st) S r S' := by
  intro p l e R s m args below meth c cells slots Q A C K ls H locs hl hP hD hS
  exact lv_irem C.1.1 C.1.2.1 hd hne (k p l e R s m args below meth c cells slots Q A C K ls H locs hl hP hD hS)
theorem j_ladd {x y : Int64} (hd : decode M.2.1 pc = .ok (.ladd, 1)) (k : JR E D M (pc + 1) lv (.long (x + y) :: st) S r S') : JR E D M pc lv (.long y :: .long x :: st) S r S' := by
  intro p l e R s m args below meth c cells slots Q A C K ls H locs hl hP hD hS
  exact lv_ladd C.1.1 C.1.2.1 hd (k p l e R s m args below meth c cells slots Q A C K ls H locs hl hP hD hS)
theorem j_lsub {x y : Int64} (hd : decode M.2.1 pc = .ok (.lsub, 1)) (k : JR E D M (pc + 1) lv (.long (x - y) :: st) S r S') : JR E D M pc lv (.long y :: .long x :: st) S r S' := by
  intro p l e R s m args below meth c cells slots Q A C K ls H locs hl hP hD hS
  exact lv_lsub C.1.1 C.1.2.1 hd (k p l e R s m args below meth c cells slots Q A C K ls H locs hl hP hD hS)
theorem j_lmul {x y : Int64} (hd : decode M.2.1 pc = .ok (.lmul, 1)) (k : JR E D M (pc + 1) lv (.long (x * y) :: st) S r S') : JR E D M pc lv (.long y :: .long x :: st) S r S' := by
  intro p l e R s m args below meth c cells slots Q A C K ls H locs hl hP hD hS
  exact lv_lmul C.1.1 C.1.2.1 hd (k p l e R s m args below meth c cells slots Q A C K ls H locs hl hP hD hS)
theorem j_ldiv {x y : Int64} (hd : decode M.2.1 pc = .ok (.ldiv, 1)) (hne : ¬ y = 0) (k : JR E D M (pc + 1) lv (.long (x / y) :: st) S r S') : JR E D M pc lv (.long y :: .long x :: st) S r S' := by
  intro p l e R s m args below meth c cells slots Q A C K ls H locs hl hP hD hS
  exact lv_ldiv C.1.1 C.1.2.1 hd hne (k p l e R s m args below meth c cells slots Q A C K ls H locs hl hP hD hS)
theorem j_lrem {x y : Int64} (hd : decode M.2.1 pc = .ok (.lrem, 1)) (hne : ¬ y = 0) (k : JR E D M (pc + 1) lv (.long (x - x / y * y) :: st) S r S') : JR E D M pc lv (.long y :: .long x :: st) S r S' := by
  intro p l e R s m args below meth c cells slots Q A C K ls H locs hl hP hD hS
  exact lv_lrem C.1.1 C.1.2.1 hd hne (k p l e R s m args below meth c cells slots Q A C K ls H locs hl hP hD hS)
theorem j_iushr {x y : Int32} (hd : decode M.2.1 pc = .ok (.iushr, 1)) (k : JR E D M (pc + 1) lv (.int ((x.toUInt32 >>> (y.toUInt32 &&& Int32.toUInt32 31)).toInt32) :: st) S r S') : JR E D M pc lv (.int y :: .int x :: st) S r S' := by
  intro p l e R s m args below meth c cells slots Q A C K ls H locs hl hP hD hS
  exact lv_iushr C.1.1 C.1.2.1 hd rfl (k p l e R s m args below meth c cells slots Q A C K ls H locs hl hP hD hS)
theorem j_i2l {x : Int32} (hd : decode M.2.1 pc = .ok (.i2l, 1)) (k : JR E D M (pc + 1) lv (.long x.toInt64 :: st) S r S') : JR E D M pc lv (.int x :: st) S r S' := by
  intro p l e R s m args below meth c cells slots Q A C K ls H locs hl hP hD hS
  exact lv_i2l C.1.1 C.1.2.1 hd rfl (k p l e R s m args below meth c cells slots Q A C K ls H locs hl hP hD hS)
theorem j_l2i {x : Int64} (hd : decode M.2.1 pc = .ok (.l2i, 1)) (k : JR E D M (pc + 1) lv (.int x.toInt32 :: st) S r S') : JR E D M pc lv (.long x :: st) S r S' := by
  intro p l e R s m args below meth c cells slots Q A C K ls H locs hl hP hD hS
  exact lv_l2i C.1.1 C.1.2.1 hd rfl (k p l e R s m args below meth c cells slots Q A C K ls H locs hl hP hD hS)
theorem j_i2c {x : Int32} (hd : decode M.2.1 pc = .ok (.i2c, 1)) (k : JR E D M (pc + 1) lv (.int ((x.toUInt32 % 65536).toInt32) :: st) S r S') : JR E D M pc lv (.int x :: st) S r S' := by
  intro p l e R s m args below meth c cells slots Q A C K ls H locs hl hP hD hS
  exact lv_i2c C.1.1 C.1.2.1 hd rfl (k p l e R s m args below meth c cells slots Q A C K ls H locs hl hP hD hS)
theorem j_dup {v : Value} (hd : decode M.2.1 pc = .ok (.dup, 1)) (hc : v.category = 1) (k : JR E D M (pc + 1) lv (v :: v :: st) S r S') : JR E D M pc lv (v :: st) S r S' := by
  intro p l e R s m args below meth c cells slots Q A C K ls H locs hl hP hD hS
  exact lv_dup C.1.1 C.1.2.1 hd hc (k p l e R s m args below meth c cells slots Q A C K ls H locs hl hP hD hS)
theorem j_pop {v : Value} (hd : decode M.2.1 pc = .ok (.pop, 1)) (hc : v.category = 1) (k : JR E D M (pc + 1) lv st S r S') : JR E D M pc lv (v :: st) S r S' := by
  intro p l e R s m args below meth c cells slots Q A C K ls H locs hl hP hD hS
  exact lv_pop C.1.1 C.1.2.1 hd hc (k p l e R s m args below meth c cells slots Q A C K ls H locs hl hP hD hS)
theorem j_dup2 {v u : Value} (hd : decode M.2.1 pc = .ok (.dup2, 1)) (hc : v.category = 1) (hc2 : u.category = 1) (k : JR E D M (pc + 1) lv (v :: u :: v :: u :: st) S r S') : JR E D M pc lv (v :: u :: st) S r S' := by
  intro p l e R s m args below meth c cells slots Q A C K ls H locs hl hP hD hS
  exact lv_dup2_11 C.1.1 C.1.2.1 hd hc hc2 (k p l e R s m args below meth c cells slots Q A C K ls H locs hl hP hD hS)
theorem j_if_eq {x : Int32} {off : Int} {tgt : Nat} (hd : decode M.2.1 pc = .ok (.ifCond .eq off, 3)) (ht : (pc : Int) + off = (tgt : Int)) (kt : x = 0 → JR E D M tgt lv st S r S') (kf : ¬ (x = 0) → JR E D M (pc + 3) lv st S r S') : JR E D M pc lv (.int x :: st) S r S' := by
  intro p l e R s m args below meth c cells slots Q A C K ls H locs hl hP hD hS
  exact lv_if_eq C.1.1 C.1.2.1 hd ht (fun h => kt h p l e R s m args below meth c cells slots Q A C K ls H locs hl hP hD hS) (fun h => kf h p l e R s m args below meth c cells slots Q A C K ls H locs hl hP hD hS)
theorem j_icmp_eq {x y : Int32} {off : Int} {tgt : Nat} (hd : decode M.2.1 pc = .ok (.if_icmp .eq off, 3)) (ht : (pc : Int) + off = (tgt : Int)) (kt : x = y → JR E D M tgt lv st S r S') (kf : ¬ (x = y) → JR E D M (pc + 3) lv st S r S') : JR E D M pc lv (.int y :: .int x :: st) S r S' := by
  intro p l e R s m args below meth c cells slots Q A C K ls H locs hl hP hD hS
  exact lv_icmp_eq C.1.1 C.1.2.1 hd ht (fun h => kt h p l e R s m args below meth c cells slots Q A C K ls H locs hl hP hD hS) (fun h => kf h p l e R s m args below meth c cells slots Q A C K ls H locs hl hP hD hS)
theorem j_if_ne {x : Int32} {off : Int} {tgt : Nat} (hd : decode M.2.1 pc = .ok (.ifCond .ne off, 3)) (ht : (pc : Int) + off = (tgt : Int)) (kt : ¬ (x = 0) → JR E D M tgt lv st S r S') (kf : x = 0 → JR E D M (pc + 3) lv st S r S') : JR E D M pc lv (.int x :: st) S r S' := by
  intro p l e R s m args below meth c cells slots Q A C K ls H locs hl hP hD hS
  exact lv_if_ne C.1.1 C.1.2.1 hd ht (fun h => kt h p l e R s m args below meth c cells slots Q A C K ls H locs hl hP hD hS) (fun h => kf h p l e R s m args below meth c cells slots Q A C K ls H locs hl hP hD hS)
theorem j_icmp_ne {x y : Int32} {off : Int} {tgt : Nat} (hd : decode M.2.1 pc = .ok (.if_icmp .ne off, 3)) (ht : (pc : Int) + off = (tgt : Int)) (kt : ¬ (x = y) → JR E D M tgt lv st S r S') (kf : x = y → JR E D M (pc + 3) lv st S r S') : JR E D M pc lv (.int y :: .int x :: st) S r S' := by
  intro p l e R s m args below meth c cells slots Q A C K ls H locs hl hP hD hS
  exact lv_icmp_ne C.1.1 C.1.2.1 hd ht (fun h => kt h p l e R s m args below meth c cells slots Q A C K ls H locs hl hP hD hS) (fun h => kf h p l e R s m args below meth c cells slots Q A C K ls H locs hl hP hD hS)
theorem j_if_lt {x : Int32} {off : Int} {tgt : Nat} (hd : decode M.2.1 pc = .ok (.ifCond .lt off, 3)) (ht : (pc : Int) + off = (tgt : Int)) (kt : x < 0 → JR E D M tgt lv st S r S') (kf : ¬ (x < 0) → JR E D M (pc + 3) lv st S r S') : JR E D M pc lv (.int x :: st) S r S' := by
  intro p l e R s m args below meth c cells slots Q A C K ls H locs hl hP hD hS
  exact lv_if_lt C.1.1 C.1.2.1 hd ht (fun h => kt h p l e R s m args below meth c cells slots Q A C K ls H locs hl hP hD hS) (fun h => kf h p l e R s m args below meth c cells slots Q A C K ls H locs hl hP hD hS)
theorem j_icmp_lt {x y : Int32} {off : Int} {tgt : Nat} (hd : decode M.2.1 pc = .ok (.if_icmp .lt off, 3)) (ht : (pc : Int) + off = (tgt : Int)) (kt : x < y → JR E D M tgt lv st S r S') (kf : ¬ (x < y) → JR E D M (pc + 3) lv st S r S') : JR E D M pc lv (.int y :: .int x :: st) S r S' := by
  intro p l e R s m args below meth c cells slots Q A C K ls H locs hl hP hD hS
  exact lv_icmp_lt C.1.1 C.1.2.1 hd ht (fun h => kt h p l e R s m args below meth c cells slots Q A C K ls H locs hl hP hD hS) (fun h => kf h p l e R s m args below meth c cells slots Q A C K ls H locs hl hP hD hS)
theorem j_if_ge {x : Int32} {off : Int} {tgt : Nat} (hd : decode M.2.1 pc = .ok (.ifCond .ge off, 3)) (ht : (pc : Int) + off = (tgt : Int)) (kt : 0 ≤ x → JR E D M tgt lv st S r S') (kf : ¬ (0 ≤ x) → JR E D M (pc + 3) lv st S r S') : JR E D M pc lv (.int x :: st) S r S' := by
  intro p l e R s m args below meth c cells slots Q A C K ls H locs hl hP hD hS
  exact lv_if_ge C.1.1 C.1.2.1 hd ht (fun h => kt h p l e R s m args below meth c cells slots Q A C K ls H locs hl hP hD hS) (fun h => kf h p l e R s m args below meth c cells slots Q A C K ls H locs hl hP hD hS)
theorem j_icmp_ge {x y : Int32} {off : Int} {tgt : Nat} (hd : decode M.2.1 pc = .ok (.if_icmp .ge off, 3)) (ht : (pc : Int) + off = (tgt : Int)) (kt : y ≤ x → JR E D M tgt lv st S r S') (kf : ¬ (y ≤ x) → JR E D M (pc + 3) lv st S r S') : JR E D M pc lv (.int y :: .int x :: st) S r S' := by
  intro p l e R s m args below meth c cells slots Q A C K ls H locs hl hP hD hS
  exact lv_icmp_ge C.1.1 C.1.2.1 hd ht (fun h => kt h p l e R s m args below meth c cells slots Q A C K ls H locs hl hP hD hS) (fun h => kf h p l e R s m args below meth c cells slots Q A C K ls H locs hl hP hD hS)
theorem j_if_gt {x : Int32} {off : Int} {tgt : Nat} (hd : decode M.2.1 pc = .ok (.ifCond .gt off, 3)) (ht : (pc : Int) + off = (tgt : Int)) (kt : 0 < x → JR E D M tgt lv st S r S') (kf : ¬ (0 < x) → JR E D M (pc + 3) lv st S r S') : JR E D M pc lv (.int x :: st) S r S' := by
  intro p l e R s m args below meth c cells slots Q A C K ls H locs hl hP hD hS
  exact lv_if_gt C.1.1 C.1.2.1 hd ht (fun h => kt h p l e R s m args below meth c cells slots Q A C K ls H locs hl hP hD hS) (fun h => kf h p l e R s m args below meth c cells slots Q A C K ls H locs hl hP hD hS)
theorem j_icmp_gt {x y : Int32} {off : Int} {tgt : Nat} (hd : decode M.2.1 pc = .ok (.if_icmp .gt off, 3)) (ht : (pc : Int) + off = (tgt : Int)) (kt : y < x → JR E D M tgt lv st S r S') (kf : ¬ (y < x) → JR E D M (pc + 3) lv st S r S') : JR E D M pc lv (.int y :: .int x :: st) S r S' := by
  intro p l e R s m args below meth c cells slots Q A C K ls H locs hl hP hD hS
  exact lv_icmp_gt C.1.1 C.1.2.1 hd ht (fun h => kt h p l e R s m args below meth c cells slots Q A C K ls H locs hl hP hD hS) (fun h => kf h p l e R s m args below meth c cells slots Q A C K ls H locs hl hP hD hS)
theorem j_if_le {x : Int32} {off : Int} {tgt : Nat} (hd : decode M.2.1 pc = .ok (.ifCond .le off, 3)) (ht : (pc : Int) + off = (tgt : Int)) (kt : x ≤ 0 → JR E D M tgt lv st S r S') (kf : ¬ (x ≤ 0) → JR E D M (pc + 3) lv st S r S') : JR E D M pc lv (.int x :: st) S r S' := by
  intro p l e R s m args below meth c cells slots Q A C K ls H locs hl hP hD hS
  exact lv_if_le C.1.1 C.1.2.1 hd ht (fun h => kt h p l e R s m args below meth c cells slots Q A C K ls H locs hl hP hD hS) (fun h => kf h p l e R s m args below meth c cells slots Q A C K ls H locs hl hP hD hS)
theorem j_icmp_le {x y : Int32} {off : Int} {tgt : Nat} (hd : decode M.2.1 pc = .ok (.if_icmp .le off, 3)) (ht : (pc : Int) + off = (tgt : Int)) (kt : x ≤ y → JR E D M tgt lv st S r S') (kf : ¬ (x ≤ y) → JR E D M (pc + 3) lv st S r S') : JR E D M pc lv (.int y :: .int x :: st) S r S' := by
  intro p l e R s m args below meth c cells slots Q A C K ls H locs hl hP hD hS
  exact lv_icmp_le C.1.1 C.1.2.1 hd ht (fun h => kt h p l e R s m args below meth c cells slots Q A C K ls H locs hl hP hD hS) (fun h => kf h p l e R s m args below meth c cells slots Q A C K ls H locs hl hP hD hS)
theorem j_goto {off : Int} {tgt : Nat} (hd : decode M.2.1 pc = .ok (.goto off, 3)) (ht : (pc : Int) + off = (tgt : Int)) (k : JR E D M tgt lv st S r S') : JR E D M pc lv st S r S' := by
  intro p l e R s m args below meth c cells slots Q A C K ls H locs hl hP hD hS
  exact lv_goto C.1.1 C.1.2.1 hd ht (k p l e R s m args below meth c cells slots Q A C K ls H locs hl hP hD hS)
theorem j_tabIn {dflt lo hi : Int} {offs : Array Int} {len : Nat} {x : Int32} {off : Int} {tgt : Nat} (hd : decode M.2.1 pc = .ok (.tableswitch dflt lo hi offs, len)) (h1 : ¬ x.toInt < lo) (h2 : ¬ hi < x.toInt) (ho : offs[(x.toInt - lo).toNat]? = some off) (ht : (pc : Int) + off = (tgt : Int)) (k : JR E D M tgt lv st S r S') : JR E D M pc lv (.int x :: st) S r S' := by
  intro p l e R s m args below meth c cells slots Q A C K ls H locs hl hP hD hS
  exact lv_tableIn C.1.1 C.1.2.1 hd h1 h2 ho ht (k p l e R s m args below meth c cells slots Q A C K ls H locs hl hP hD hS)
theorem j_tabOut {dflt lo hi : Int} {offs : Array Int} {len : Nat} {x : Int32} {tgt : Nat} (hd : decode M.2.1 pc = .ok (.tableswitch dflt lo hi offs, len)) (h : x.toInt < lo ∨ hi < x.toInt) (ht : (pc : Int) + dflt = (tgt : Int)) (k : JR E D M tgt lv st S r S') : JR E D M pc lv (.int x :: st) S r S' := by
  intro p l e R s m args below meth c cells slots Q A C K ls H locs hl hP hD hS
  exact lv_tableOut C.1.1 C.1.2.1 hd h ht (k p l e R s m args below meth c cells slots Q A C K ls H locs hl hP hD hS)
theorem j_lookup {dflt : Int} {ps : Array (Int × Int)} {len : Nat} {x : Int32} {off : Int} {tgt : Nat} (hd : decode M.2.1 pc = .ok (.lookupswitch dflt ps, len)) (hp : (ps.toList.zip (ps.toList.drop 1)).all (fun (a, next) => a.1 < next.1) = true) (ho : Op.lookupswitch.offset ps.toList dflt x.toInt = off) (ht : (pc : Int) + off = (tgt : Int)) (k : JR E D M tgt lv st S r S') : JR E D M pc lv (.int x :: st) S r S' := by
  intro p l e R s m args below meth c cells slots Q A C K ls H locs hl hP hD hS
  exact lv_lookup C.1.1 C.1.2.1 hd hp ho ht (k p l e R s m args below meth c cells slots Q A C K ls H locs hl hP hD hS)
theorem j_iret {v : Int32} {ty : FieldType} (hd : decode M.2.1 pc = .ok (.ireturn, 1)) (hty : M.2.2.2 = some ty) (hn : narrow ty (.int v) = .int v) : JR E D M pc lv [.int v] S [.int v] S := by
  intro p l e R s m args below meth c cells slots Q A C K ls H locs hl hP hD hS
  exact K pc ls H locs (Or.inl ⟨hd, v, rfl, ty, hty, hn⟩) hP hD hS
theorem j_vret (hd : decode M.2.1 pc = .ok (.return_, 1)) (hty : M.2.2.2 = none) : JR E D M pc lv [] S [] S := by
  intro p l e R s m args below meth c cells slots Q A C K ls H locs hl hP hD hS
  exact K pc ls H locs (Or.inr ⟨hd, rfl, hty⟩) hP hD hS
/-- fewer locals -/
theorem j_sub {lv' : List (Nat × Value)} (ks : List Nat) (h : lv_pick lv ks = lv') (k : JR E D M pc lv' st S r S') : JR E D M pc lv st S r S' := by
  intro p l e R s m args below meth c cells slots Q A C K ls H locs hl hP hD hS
  exact k p l e R s m args below meth c cells slots Q A C K ls H locs (lv_sub hl ks h) hP hD hS
theorem j_get {rr : jR} {ci kf N idx : Nat} {fs : List Value} {Cn : String} {T : u_T} {v : Value} (hd : decode M.2.1 pc = .ok (.getfield idx, 3)) (hr : rr ∈ jL E) (he : jenc E S rr = .inr (ci, fs)) (hc : vwCl[ci]? = some (Cn, T, N)) (hk : kf < N) (hin : ∀ w ∈ u_ws Cn T N, w ∈ jAll) (hlink : Cond.fieldLink M.1.cls idx (T kf).1 (T kf).2.1 (T kf).2.2.1 ∈ jAll) (hv : fs[kf]? = some v) (k : JR E D M (pc + 3) lv (v :: st) S r S') : JR E D M pc lv (.ref (E.1 rr) :: st) S r S' := by
  intro p l e R s m args below meth c cells slots Q A C K ls H locs hl hP hD hS
  obtain ⟨q, hq⟩ := jws_get (S := S) hr
  rw [he] at hq
  exact va_get (D := jG E) C.1.1 C.1.2.1 C.1.2.2.2.2 hin C.1.2.2.2.1 C.2.1 hP q hq hc kf hk (C.1.2.2.2.2 _ hlink) (fun _ h9 => h9) hv hd (k p l e R s m args below meth c cells slots Q A C K ls H locs hl hP hD hS)
theorem j_put {rr : jR} {ci kf N idx : Nat} {fs : List Value} {Cn : String} {T : u_T} {S1 : jS} {x : Int32} (tyT : Nat → FieldType) (hd : decode M.2.1 pc = .ok (.putfield idx, 3)) (hr : rr ∈ jL E) (he : jenc E S rr = .inr (ci, fs)) (hc : vwCl[ci]? = some (Cn, T, N)) (hk : kf < N) (hin : ∀ w ∈ u_ws Cn T N, w ∈ jAll) (hty : ∀ k, k < N → parseFieldDescriptor (T k).2.2.1 = some (tyT k)) (hnm : ∀ a, a < N → ∀ b, b < N → a ≠ b → (T a).2.1 ≠ (T b).2.1) (hlink : Cond.fieldLink M.1.cls idx (T kf).1 (T kf).2.1 (T kf).2.2.1 ∈ jAll) (hfin : (T kf).2.2.2 = false) (hdI : parseFieldDescriptor (T kf).2.2.1 = some .int) (hl' : kf < fs.length) (hS1 : ∀ b, jenc E S1 b = if b = rr then .inr (ci, fs.set kf (.int x)) else jenc E S b) (k : JR E D M (pc + 3) lv st S1 r S') : JR E D M pc lv (.int x :: .ref (E.1 rr) :: st) S r S' := by
  intro p l e R s m args below meth c cells slots Q A C K ls H locs hl hP hD hS
  obtain ⟨q, hq, hq2⟩ := jws_get2 (S := S) hr
  have hq' := hq
  rw [he] at hq'
  refine va_put (D := jG E) C.1.1 C.1.2.1 C.1.2.2.2.2 hin tyT hty hnm C.1.2.2.2.1 C.2.1 hP hD hS q hq' hc kf hk (C.1.2.2.2.2 _ hlink) (fun _ h9 => h9) hfin hdI rfl rfl hl' hd (fun H1 locs1 hP1 hD1 hS2 => ?_)
  have e9 := jws_set (S1 := S1) hD hq hq2 hS1
  rw [e9] at hP1
  exact k p l e R s m args below meth c cells slots Q A C K ls H1 locs1 hl hP1 (jD_any hD) hS2
/-- a scalar of a known object -/
theorem j_putS {a : jR} {ci idx N : Nat} {fs : List Value} {Cn : String} {T : u_T} {x : Int32} (tyT : Nat → FieldType) (hd : decode M.2.1 pc = .ok (.putfield idx, 3)) (ha : a.1 < 17) (hr : (jhome a).1 ∈ jL E) (he : jenc E S (jhome a).1 = .inr (ci, fs)) (hc : vwCl[ci]? = some (Cn, T, N)) (hk : (jhome a).2 < N) (hin : ∀ w ∈ u_ws Cn T N, w ∈ jAll) (hty : ∀ k, k < N → parseFieldDescriptor (T k).2.2.1 = some (tyT k)) (hnm : ∀ a, a < N → ∀ b, b < N → a ≠ b → (T a).2.1 ≠ (T b).2.1) (hlink : Cond.fieldLink M.1.cls idx (T (jhome a).2).1 (T (jhome a).2).2.1 (T (jhome a).2).2.2.1 ∈ jAll) (hfin : (T (jhome a).2).2.2.2 = false) (hdI : parseFieldDescriptor (T (jhome a).2).2.2.1 = some .int) (hl' : (jhome a).2 < fs.length) (k : JR E D M (pc + 3) lv st (jset S a x) r S') : JR E D M pc lv (.int x :: .ref (E.1 (jhome a).1) :: st) S r S' := by
  refine j_put tyT hd hr he hc hk hin hty hnm hlink hfin hdI hl' (fun b => ?_) k
  rw [jset_enc ha b]
  by_cases hb : b = (jhome a).1
  · subst hb
    simp [he, jfs]
  · simp [hb]
theorem j_iald {a : jR} {i : Int32} (hd : decode M.2.1 pc = .ok (.iaload, 1)) (ha : 10 ≤ a.1) (hk : a.1 ≠ 10 ∧ a.1 ≠ 60) (hr : a ∈ jL E) (hin : ¬ (i < 0 ∨ jlen a.1 ≤ i.toNatClampNeg)) (k : JR E D M (pc + 1) lv (.int (S.2 a i.toNatClampNeg) :: st) S r S') : JR E D M pc lv (.int i :: .ref (E.1 a) :: st) S r S' := by
  intro p l e R s m args below meth c cells slots Q A C K ls H locs hl hP hD hS
  obtain ⟨q, hq⟩ := jws_get (S := S) hr
  rw [jenc_arr _ _ _ ha] at hq
  have hcy : jcy E a.1 = jCI E := by simp [jcy, hk]
  rw [hcy] at hq
  exact va_iald (D := jG E) C.1.1 C.1.2.1 C.2.1 hP q 0 hq rfl hin hd (k p l e R s m args below meth c cells slots Q A C K ls H locs hl hP hD hS)
theorem j_cald {a : jR} {i : Int32} (hd : decode M.2.1 pc = .ok (.caload, 1)) (ha : 10 ≤ a.1) (hk : a.1 = 10) (hr : a ∈ jL E) (hin : ¬ (i < 0 ∨ jlen a.1 ≤ i.toNatClampNeg)) (k : JR E D M (pc + 1) lv (.int (S.2 a i.toNatClampNeg) :: st) S r S') : JR E D M pc lv (.int i :: .ref (E.1 a) :: st) S r S' := by
  intro p l e R s m args below meth c cells slots Q A C K ls H locs hl hP hD hS
  obtain ⟨q, hq⟩ := jws_get (S := S) hr
  rw [jenc_arr _ _ _ ha] at hq
  have hcy : jcy E a.1 = jCC E := by simp [jcy, hk]
  rw [hcy] at hq
  exact va_cald (D := jG E) C.1.1 C.1.2.1 C.2.1 hP q 1 hq rfl hin hd (k p l e R s m args below meth c cells slots Q A C K ls H locs hl hP hD hS)
theorem j_zald {a : jR} {i : Int32} (hd : decode M.2.1 pc = .ok (.baload, 1)) (ha : 10 ≤ a.1) (hk : a.1 = 60) (hr : a ∈ jL E) (hin : ¬ (i < 0 ∨ jlen a.1 ≤ i.toNatClampNeg)) (k : JR E D M (pc + 1) lv (.int (S.2 a i.toNatClampNeg) :: st) S r S') : JR E D M pc lv (.int i :: .ref (E.1 a) :: st) S r S' := by
  intro p l e R s m args below meth c cells slots Q A C K ls H locs hl hP hD hS
  obtain ⟨q, hq⟩ := jws_get (S := S) hr
  rw [jenc_arr _ _ _ ha] at hq
  have hcy : jcy E a.1 = jCZ E := by simp [jcy, hk]
  rw [hcy] at hq
  exact va_zald (D := jG E) C.1.1 C.1.2.1 C.2.1 hP q 2 hq rfl hin hd (k p l e R s m args below meth c cells slots Q A C K ls H locs hl hP hD hS)
theorem j_iast {a : jR} {i x : Int32} (hd : decode M.2.1 pc = .ok (.iastore, 1)) (ha : 10 ≤ a.1) (hk : a.1 ≠ 10 ∧ a.1 ≠ 60) (hr : a ∈ jL E) (hin : ¬ (i < 0 ∨ jlen a.1 ≤ i.toNatClampNeg)) (k : JR E D M (pc + 1) lv st (jput S a (upd (S.2 a) i.toNatClampNeg x)) r S') : JR E D M pc lv (.int x :: .int i :: .ref (E.1 a) :: st) S r S' := by
  intro p l e R s m args below meth c cells slots Q A C K ls H locs hl hP hD hS
  obtain ⟨q, hq, hq2⟩ := jws_get2 (S := S) hr
  have hq' := hq
  rw [jenc_arr _ _ _ ha] at hq'
  have hcy : jcy E a.1 = jCI E := by simp [jcy, hk]
  rw [hcy] at hq'
  refine va_iast (D := jG E) C.1.1 C.1.2.1 C.2.1 hP hD hS q 0 hq' rfl hin hd (fun H1 locs1 hP1 hD1 hS2 => ?_)
  have e9 := jws_set (S1 := jput S a (upd (S.2 a) i.toNatClampNeg x)) hD hq hq2 (jput_enc ha)
  rw [hcy] at e9
  rw [e9] at hP1
  exact k p l e R s m args below meth c cells slots Q A C K ls H1 locs1 hl hP1 (jD_any hD) hS2
theorem j_cast {a : jR} {i x : Int32} (hd : decode M.2.1 pc = .ok (.castore, 1)) (ha : 10 ≤ a.1) (hk : a.1 = 10) (hr : a ∈ jL E) (hin : ¬ (i < 0 ∨ jlen a.1 ≤ i.toNatClampNeg)) (hx : vp_nar .char x = x) (k : JR E D M (pc + 1) lv st (jput S a (upd (S.2 a) i.toNatClampNeg x)) r S') : JR E D M pc lv (.int x :: .int i :: .ref (E.1 a) :: st) S r S' := by
  intro p l e R s m args below meth c cells slots Q A C K ls H locs hl hP hD hS
  obtain ⟨q, hq, hq2⟩ := jws_get2 (S := S) hr
  have hq' := hq
  rw [jenc_arr _ _ _ ha] at hq'
  have hcy : jcy E a.1 = jCC E := by simp [jcy, hk]
  rw [hcy] at hq'
  refine va_cast (D := jG E) C.1.1 C.1.2.1 C.2.1 hP hD hS q 1 hq' rfl hin hd (fun H1 locs1 hP1 hD1 hS2 => ?_)
  have e9 := jws_set (S1 := jput S a (upd (S.2 a) i.toNatClampNeg x)) hD hq hq2 (jput_enc ha)
  rw [hcy] at e9
  rw [hx] at hP1
  rw [e9] at hP1
  exact k p l e R s m args below meth c cells slots Q A C K ls H1 locs1 hl hP1 (jD_any hD) hS2
theorem j_zast {a : jR} {i x : Int32} (hd : decode M.2.1 pc = .ok (.bastore, 1)) (ha : 10 ≤ a.1) (hk : a.1 = 60) (hr : a ∈ jL E) (hin : ¬ (i < 0 ∨ jlen a.1 ≤ i.toNatClampNeg)) (hx : vp_nar .boolean x = x) (k : JR E D M (pc + 1) lv st (jput S a (upd (S.2 a) i.toNatClampNeg x)) r S') : JR E D M pc lv (.int x :: .int i :: .ref (E.1 a) :: st) S r S' := by
  intro p l e R s m args below meth c cells slots Q A C K ls H locs hl hP hD hS
  obtain ⟨q, hq, hq2⟩ := jws_get2 (S := S) hr
  have hq' := hq
  rw [jenc_arr _ _ _ ha] at hq'
  have hcy : jcy E a.1 = jCZ E := by simp [jcy, hk]
  rw [hcy] at hq'
  refine va_zast (D := jG E) C.1.1 C.1.2.1 C.2.1 hP hD hS q 2 hq' rfl hin hd (fun H1 locs1 hP1 hD1 hS2 => ?_)
  have e9 := jws_set (S1 := jput S a (upd (S.2 a) i.toNatClampNeg x)) hD hq hq2 (jput_enc ha)
  rw [hcy] at e9
  rw [hx] at hP1
  rw [e9] at hP1
  exact k p l e R s m args below meth c cells slots Q A C K ls H1 locs1 hl hP1 (jD_any hD) hS2
theorem j_alen {a : jR} (hd : decode M.2.1 pc = .ok (.arraylength, 1)) (ha : 10 ≤ a.1) (hk : a.1 ≠ 10 ∧ a.1 ≠ 60) (hr : a ∈ jL E) (k : JR E D M (pc + 1) lv (.int (Int32.ofNat (jlen a.1)) :: st) S r S') : JR E D M pc lv (.ref (E.1 a) :: st) S r S' := by
  intro p l e R s m args below meth c cells slots Q A C K ls H locs hl hP hD hS
  obtain ⟨q, hq⟩ := jws_get (S := S) hr
  rw [jenc_arr _ _ _ ha] at hq
  have hcy : jcy E a.1 = jCI E := by simp [jcy, hk]
  rw [hcy] at hq
  exact va_alen (D := jG E) C.1.1 C.1.2.1 C.2.1 hP q 0 hq rfl rfl hd (k p l e R s m args below meth c cells slots Q A C K ls H locs hl hP hD hS)
theorem j_aald {i : Int32} (hd : decode M.2.1 pc = .ok (.aaload, 1)) (hr : ((6, 0) : jR) ∈ jL E) (hin : ¬ (i < 0 ∨ 4 ≤ i.toNatClampNeg)) (k : JR E D M (pc + 1) lv (.ref (E.1 (2, i.toNatClampNeg + 2)) :: st) S r S') : JR E D M pc lv (.int i :: .ref (E.1 (6, 0)) :: st) S r S' := by
  intro p l e R s m args below meth c cells slots Q A C K ls H locs hl hP hD hS
  obtain ⟨q, hq⟩ := jws_get (S := S) hr
  exact va_aldq (D := jG E) (f := fun i => some (E.1 (2, i + 2))) C.1.1 C.1.2.1 C.2.1 hP q 3 hq rfl hin hd (k p l e R s m args below meth c cells slots Q A C K ls H locs hl hP hD hS)
theorem j_copy {a b : jR} {sp dp n : Int32} {idx : Nat} (hd : decode M.2.1 pc = .ok (.invokestatic idx, 3)) (hlink : Cond.methodLink M.1.cls idx arraycopyName ∈ jAll) (hnat : Cond.native arraycopyName ∈ jAll) (hstat : Cond.static arraycopyName ∈ jAll) (hini : Cond.initialized "java/lang/System" ∈ jAll) (hD1 : 1 ≤ D)
    (ha : 10 ≤ a.1) (hka : a.1 ≠ 10 ∧ a.1 ≠ 60) (hra : a ∈ jL E) (hb : 10 ≤ b.1) (hkb : b.1 ≠ 10 ∧ b.1 ≠ 60) (hrb : b ∈ jL E) (h1 : ¬ sp < 0) (h2 : ¬ dp < 0) (h3 : ¬ n < 0) (h4 : sp.toNatClampNeg + n.toNatClampNeg ≤ jlen a.1) (h5 : dp.toNatClampNeg + n.toNatClampNeg ≤ jlen b.1) (hcat : (st.map fun v => v.category).sum ≤ 8)
    (k : JR E D M (pc + 3) lv st (jput S b (va_cpy (S.2 a) (S.2 b) sp.toNatClampNeg dp.toNatClampNeg n.toNatClampNeg)) r S') : JR E D M pc lv (.int n :: .int dp :: .ref (E.1 b) :: .int sp :: .ref (E.1 a) :: st) S r S' := by
  intro p l e R s m args below meth c cells slots Q A C K ls H locs hl hP hD hS
  obtain ⟨q0, hq0⟩ := jws_get (S := S) hra
  obtain ⟨q1, hq1, hq2⟩ := jws_get2 (S := S) hrb
  have hq1' := hq1
  rw [jenc_arr _ _ _ ha] at hq0
  rw [jenc_arr _ _ _ hb] at hq1'
  have hcy : jcy E a.1 = jCI E := by simp [jcy, hka]
  have hcyb : jcy E b.1 = jCI E := by simp [jcy, hkb]
  rw [hcy] at hq0
  rw [hcyb] at hq1'
  have hlo := C.2.2.2.2.2.1
  refine va_copyi (D := jG E) C.1.1 C.1.2.1 (C.1.2.2.1.trans hl.1.symm) C.1.2.2.2.1 (C.1.2.2.2.2 _ hlink) (C.1.2.2.2.2 _ hnat) (C.1.2.2.2.2 _ hstat) (C.1.2.2.2.2 _ hini) C.2.1 hP hD hS q0 q1 0 0 hq0 hq1' rfl rfl rfl h1 h2 h3 h4 h5 (fun _ _ => rfl) (Nat.le_trans hD1 C.2.2.2.2.1) (Nat.le_trans (Nat.le_trans (Nat.add_le_add_right hcat _) (show 8 + (nativeFrameWords "java/lang/System" "arraycopy" 5 + 11) ≤ 64 by decide +kernel)) (by omega)) hd (fun H1 locs1 hP1 hD1 hS2 => ?_)
  have e9 := jws_set (S1 := jput S b (va_cpy (S.2 a) (S.2 b) sp.toNatClampNeg dp.toNatClampNeg n.toNatClampNeg)) hD hq1 hq2 (jput_enc hb)
  rw [hcyb] at e9
  rw [e9] at hP1
  exact k p l e R s m args below meth c cells slots Q A C K ls H1 locs1 hl hP1 (jD_any hD) hS2
theorem j_mmax {idx : Nat} {x y : Int32} (hd : decode M.2.1 pc = .ok (.invokestatic idx, 3)) (hlink : Cond.methodLink M.1.cls idx Lib.Math.max.name ∈ jAll) (hstat : Cond.static Lib.Math.max.name ∈ jAll) (hini : Cond.initialized "java/lang/Math" ∈ jAll) (hcode : Cond.code Lib.Math.max.name Lib.Math.max.code 2 (some .int) ∈ jAll) (hD1 : 1 ≤ D) (hcat : (st.map fun v => v.category).sum ≤ 8) (k : JR E D M (pc + 3) lv (.int (if x < y then y else x) :: st) S r S') : JR E D M pc lv (.int y :: .int x :: st) S r S' := by
  intro p l e R s m args below meth c cells slots Q A C K ls H locs hl hP hD hS
  have hlo := C.2.2.2.2.2.1
  exact va_mmax C.1.1 C.1.2.1 (C.1.2.2.1.trans hl.1.symm) C.1.2.2.2.1 (C.1.2.2.2.2 _ hlink) (C.1.2.2.2.2 _ hstat) (C.1.2.2.2.2 _ hini) (C.1.2.2.2.2 _ hcode) (Nat.le_trans hD1 C.2.2.2.2.1) (by omega) C.2.2.2.2.2.2.1 C.2.2.2.2.2.2.2.1 hd (k p l e R s m args below meth c cells slots Q A C K ls H locs hl hP hD hS)
theorem j_mmin {idx : Nat} {x y : Int32} (hd : decode M.2.1 pc = .ok (.invokestatic idx, 3)) (hlink : Cond.methodLink M.1.cls idx Lib.Math.min.name ∈ jAll) (hstat : Cond.static Lib.Math.min.name ∈ jAll) (hini : Cond.initialized "java/lang/Math" ∈ jAll) (hcode : Cond.code Lib.Math.min.name Lib.Math.min.code 2 (some .int) ∈ jAll) (hD1 : 1 ≤ D) (hcat : (st.map fun v => v.category).sum ≤ 8) (k : JR E D M (pc + 3) lv (.int (if y < x then y else x) :: st) S r S') : JR E D M pc lv (.int y :: .int x :: st) S r S' := by
  intro p l e R s m args below meth c cells slots Q A C K ls H locs hl hP hD hS
  have hlo := C.2.2.2.2.2.1
  exact va_mmin C.1.1 C.1.2.1 (C.1.2.2.1.trans hl.1.symm) C.1.2.2.2.1 (C.1.2.2.2.2 _ hlink) (C.1.2.2.2.2 _ hstat) (C.1.2.2.2.2 _ hini) (C.1.2.2.2.2 _ hcode) (Nat.le_trans hD1 C.2.2.2.2.1) (by omega) C.2.2.2.2.2.2.1 C.2.2.2.2.2.2.2.1 hd (k p l e R s m args below meth c cells slots Q A C K ls H locs hl hP hD hS)
theorem j_sld {i : Int32} (hd : decode M.2.1 pc = .ok (.iaload, 1)) (hM : M.1 = yL_law) (hin : ¬ (i < 0 ∨ (jX E).2.1 ≤ i.toNatClampNeg)) (k : JR E D M (pc + 1) lv (.int ((jX E).2.2 i.toNatClampNeg) :: st) S r S') : JR E D M pc lv (.int i :: .ref (jX E).1 :: st) S r S' := by
  intro p l e R s m args below meth c cells slots Q A C K ls H locs hl hP hD hS
  have hX := C.2.2.2.2.2.2.2.2 hM
  exact va_sld C.1.1 C.1.2.1 hX.1 hX.2.1 hX.2.2 hS hin hd (k p l e R s m args below meth c cells slots Q A C K ls H locs hl hP hD hS)
theorem j_slen (hd : decode M.2.1 pc = .ok (.arraylength, 1)) (hM : M.1 = yL_law) (k : JR E D M (pc + 1) lv (.int (Int32.ofNat (jX E).2.1) :: st) S r S') : JR E D M pc lv (.ref (jX E).1 :: st) S r S' := by
  intro p l e R s m args below meth c cells slots Q A C K ls H locs hl hP hD hS
  have hX := C.2.2.2.2.2.2.2.2 hM
  exact va_slen C.1.1 C.1.2.1 hX.1 hX.2.1 hX.2.2 hS hd (k p l e R s m args below meth c cells slots Q A C K ls H locs hl hP hD hS)
end JRules
