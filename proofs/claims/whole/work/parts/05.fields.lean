/-! ===== small things for the turned methods ===== -/
def jlet {α β : Type} (x : α) (f : α → β) : β := f x
theorem jlk {α β : Type} {x : α} {f : α → Option β} {r : β} (h : jlet x f = some r) : ∃ y, y = x ∧ f y = some r := ⟨x, rfl, h⟩
theorem jite_t {α : Type} {c : Prop} [Decidable c] {a b r : α} (h : (if c then a else b) = r) (hc : c) : a = r := by rwa [if_pos hc] at h
theorem jite_f {α : Type} {c : Prop} [Decidable c] {a b r : α} (h : (if c then a else b) = r) (hc : ¬ c) : b = r := by rwa [if_neg hc] at h
theorem jchk {α : Type} {c : Prop} [Decidable c] {a : Option α} {r : α} (h : (if c then a else none) = some r) : c ∧ a = some r := by
  by_cases hc : c
  · exact ⟨hc, by rwa [if_pos hc] at h⟩
  · rw [if_neg hc] at h; cases h
theorem jbnd {α β : Type} {x : Option α} {f : α → Option β} {r : β} (h : x.bind f = some r) : ∃ y, x = some y ∧ f y = some r := Option.bind_eq_some_iff.mp h
abbrev jIn (i : Int32) (n : Nat) : Prop := ¬ (i < 0 ∨ n ≤ i.toNatClampNeg)
theorem jti {x v : Int32} {z : Int} (h : ¬ x = v) (hz : v.toInt = z) : x.toInt ≠ z := fun e => h (Int32.toInt_inj.mp (e.trans hz.symm))
theorem jnar01 {v : Int32} (h : v = 0 ∨ v = 1) : narrow .boolean (.int v) = .int v := by rcases h with rfl | rfl <;> rfl
def jkI (k : Nat) : Bool := Nat.ble 10 k && !(k == 10) && !(k == 60)
theorem jkI_spec {k : Nat} (h : jkI k = true) : 10 ≤ k ∧ k ≠ 10 ∧ k ≠ 60 := by
  simp only [jkI, Bool.and_eq_true, Bool.not_eq_true', beq_eq_false_iff_ne] at h
  exact ⟨Nat.le_of_ble_eq_true h.1.1, h.1.2, h.2⟩
/-- an int array that is there -/
def jIA (E : jE) (a : jR) : Prop := jkI a.1 = true ∧ a ∈ jL E
def jdomC (r : jR) : Bool := match r.1 with
  | 0 => Nat.beq r.2 0
  | 1 => Nat.beq r.2 0
  | 5 => Nat.beq r.2 0
  | 6 => Nat.beq r.2 0
  | 8 => Nat.beq r.2 0
  | 10 => Nat.beq r.2 0
  | 11 => Nat.beq r.2 0
  | 42 => Nat.beq r.2 0
  | 43 => Nat.beq r.2 0
  | 44 => Nat.beq r.2 0
  | 2 => decide (r.2 < 6)
  | 3 => decide (r.2 < 6)
  | 4 => decide (r.2 < 6)
  | 20 => decide (r.2 < 6)
  | 21 => decide (r.2 < 6)
  | 22 => decide (r.2 < 6)
  | 23 => decide (r.2 < 6)
  | 24 => decide (r.2 < 6)
  | 25 => decide (r.2 < 6)
  | 26 => decide (r.2 < 6)
  | 30 => decide (r.2 < 6)
  | 31 => decide (r.2 < 6)
  | 32 => decide (r.2 < 6)
  | 33 => decide (r.2 < 6)
  | 34 => decide (r.2 < 6)
  | 35 => decide (r.2 < 6)
  | 7 => decide (r.2 < 2)
  | 40 => decide (r.2 < 2)
  | 41 => decide (r.2 < 2)
  | _ => false
def jdomM (r : jR) : Bool := Nat.beq r.2 0 && (Nat.beq r.1 9 || (Nat.ble 50 r.1 && Nat.ble r.1 64))
def jHC (E : jE) : Prop := ∀ r, jdomC r = true → r ∈ jL E
def jHM (E : jE) : Prop := ∀ r, jdomM r = true → r ∈ jL E
section JR2
variable {E : jE} {D : Nat} {M : jM} {pc : Nat} {lv : List (Nat × Value)} {st : List Value} {S S1 S' : jS} {r : List Value}
theorem j_topi {x y : Int32} (e : x = y) (k : JR E D M pc lv (.int x :: st) S r S') : JR E D M pc lv (.int y :: st) S r S' := e ▸ k
theorem j_topl {x y : Int64} (e : x = y) (k : JR E D M pc lv (.long x :: st) S r S') : JR E D M pc lv (.long y :: st) S r S' := e ▸ k
theorem j_ia {kd ki : Nat} {i : Int32} (hd : decode M.2.1 pc = .ok (.iaload, 1)) (hk : jkI kd = true) (hr : ((kd, ki) : jR) ∈ jL E) (hin : jIn i (jlen kd)) (k : JR E D M (pc + 1) lv (.int (S.2 (kd, ki) i.toNatClampNeg) :: st) S r S') : JR E D M pc lv (.int i :: .ref (E.1 (kd, ki)) :: st) S r S' :=
  j_iald (a := (kd, ki)) hd (jkI_spec hk).1 (jkI_spec hk).2 hr hin k
theorem j_iaA {a : jR} {i : Int32} (hd : decode M.2.1 pc = .ok (.iaload, 1)) (ha : jIA E a) (hin : jIn i (jlen a.1)) (k : JR E D M (pc + 1) lv (.int (S.2 a i.toNatClampNeg) :: st) S r S') : JR E D M pc lv (.int i :: .ref (E.1 a) :: st) S r S' :=
  j_iald hd (jkI_spec ha.1).1 (jkI_spec ha.1).2 ha.2 hin k
theorem j_is {kd ki : Nat} {i x : Int32} (hd : decode M.2.1 pc = .ok (.iastore, 1)) (hk : jkI kd = true) (hr : ((kd, ki) : jR) ∈ jL E) (hin : jIn i (jlen kd)) (hS1 : S1 = jput S (kd, ki) (upd (S.2 (kd, ki)) i.toNatClampNeg x)) (k : JR E D M (pc + 1) lv st S1 r S') : JR E D M pc lv (.int x :: .int i :: .ref (E.1 (kd, ki)) :: st) S r S' := by
  subst hS1
  exact j_iast (a := (kd, ki)) hd (jkI_spec hk).1 (jkI_spec hk).2 hr hin k
theorem j_isA {a : jR} {i x : Int32} (hd : decode M.2.1 pc = .ok (.iastore, 1)) (ha : jIA E a) (hin : jIn i (jlen a.1)) (hS1 : S1 = jput S a (upd (S.2 a) i.toNatClampNeg x)) (k : JR E D M (pc + 1) lv st S1 r S') : JR E D M pc lv (.int x :: .int i :: .ref (E.1 a) :: st) S r S' := by
  subst hS1
  exact j_iast hd (jkI_spec ha.1).1 (jkI_spec ha.1).2 ha.2 hin k
theorem j_alA {a : jR} (hd : decode M.2.1 pc = .ok (.arraylength, 1)) (ha : jIA E a) (k : JR E D M (pc + 1) lv (.int (Int32.ofNat (jlen a.1)) :: st) S r S') : JR E D M pc lv (.ref (E.1 a) :: st) S r S' :=
  j_alen hd (jkI_spec ha.1).1 (jkI_spec ha.1).2 ha.2 k
theorem j_ca {i : Int32} (hd : decode M.2.1 pc = .ok (.caload, 1)) (hr : ((10, 0) : jR) ∈ jL E) (hin : jIn i 200) (k : JR E D M (pc + 1) lv (.int (S.2 (10, 0) i.toNatClampNeg) :: st) S r S') : JR E D M pc lv (.int i :: .ref (E.1 (10, 0)) :: st) S r S' :=
  j_cald (a := (10, 0)) hd (Nat.le_refl _) rfl hr hin k
theorem j_cs {i x : Int32} (hd : decode M.2.1 pc = .ok (.castore, 1)) (hr : ((10, 0) : jR) ∈ jL E) (hin : jIn i 200) (hx : vp_nar .char x = x) (hS1 : S1 = jput S (10, 0) (upd (S.2 (10, 0)) i.toNatClampNeg x)) (k : JR E D M (pc + 1) lv st S1 r S') : JR E D M pc lv (.int x :: .int i :: .ref (E.1 (10, 0)) :: st) S r S' := by
  subst hS1
  exact j_cast (a := (10, 0)) hd (Nat.le_refl _) rfl hr hin hx k
theorem j_za {i : Int32} (hd : decode M.2.1 pc = .ok (.baload, 1)) (hr : ((60, 0) : jR) ∈ jL E) (hin : jIn i 1024) (k : JR E D M (pc + 1) lv (.int (S.2 (60, 0) i.toNatClampNeg) :: st) S r S') : JR E D M pc lv (.int i :: .ref (E.1 (60, 0)) :: st) S r S' :=
  j_zald (a := (60, 0)) hd (by decide) rfl hr hin k
theorem j_zs {i x : Int32} (hd : decode M.2.1 pc = .ok (.bastore, 1)) (hr : ((60, 0) : jR) ∈ jL E) (hin : jIn i 1024) (hx : vp_nar .boolean x = x) (hS1 : S1 = jput S (60, 0) (upd (S.2 (60, 0)) i.toNatClampNeg x)) (k : JR E D M (pc + 1) lv st S1 r S') : JR E D M pc lv (.int x :: .int i :: .ref (E.1 (60, 0)) :: st) S r S' := by
  subst hS1
  exact j_zast (a := (60, 0)) hd (by decide) rfl hr hin hx k
theorem j_cp {ka ia kb ib : Nat} {sp dp n : Int32} {idx : Nat} (hd : decode M.2.1 pc = .ok (.invokestatic idx, 3)) (hlink : Cond.methodLink M.1.cls idx arraycopyName ∈ jAll) (hD1 : 1 ≤ D) (hka : jkI ka = true) (hra : ((ka, ia) : jR) ∈ jL E) (hkb : jkI kb = true) (hrb : ((kb, ib) : jR) ∈ jL E) (h1 : ¬ sp < 0) (h2 : ¬ dp < 0) (h3 : ¬ n < 0) (h4 : sp.toNatClampNeg + n.toNatClampNeg ≤ jlen ka) (h5 : dp.toNatClampNeg + n.toNatClampNeg ≤ jlen kb) (hcat : (st.map fun v => v.category).sum ≤ 8) (hS1 : S1 = jput S (kb, ib) (va_cpy (S.2 (ka, ia)) (S.2 (kb, ib)) sp.toNatClampNeg dp.toNatClampNeg n.toNatClampNeg))
    (k : JR E D M (pc + 3) lv st S1 r S') : JR E D M pc lv (.int n :: .int dp :: .ref (E.1 (kb, ib)) :: .int sp :: .ref (E.1 (ka, ia)) :: st) S r S' := by
  subst hS1
  exact j_copy (a := (ka, ia)) (b := (kb, ib)) hd hlink tw_457 tw_456 tw_82 hD1 (jkI_spec hka).1 (jkI_spec hka).2 hra (jkI_spec hkb).1 (jkI_spec hkb).2 hrb h1 h2 h3 h4 h5 hcat k
theorem jg_0_0 {ki idx : Nat} (hd : decode M.2.1 pc = .ok (.getfield idx, 3)) (hr : ((0, ki) : jR) ∈ jL E) (hlink : Cond.fieldLink M.1.cls idx "DropQueues" "text" "LDropQueues$Text;" ∈ jAll) (k : JR E D M (pc + 3) lv (.ref (E.1 (1, 0)) :: st) S r S') : JR E D M pc lv (.ref (E.1 (0, ki)) :: st) S r S' :=
  j_get (rr := (0, ki)) (ci := 7) (kf := 0) (N := 6) (Cn := RX7) (T := TX7) hd hr rfl rfl (by decide) inX7 hlink rfl k
theorem jg_0_1 {ki idx : Nat} (hd : decode M.2.1 pc = .ok (.getfield idx, 3)) (hr : ((0, ki) : jR) ∈ jL E) (hlink : Cond.fieldLink M.1.cls idx "DropQueues" "now" "LDropQueues$World;" ∈ jAll) (k : JR E D M (pc + 3) lv (.ref (E.1 (2, 0)) :: st) S r S') : JR E D M pc lv (.ref (E.1 (0, ki)) :: st) S r S' :=
  j_get (rr := (0, ki)) (ci := 7) (kf := 1) (N := 6) (Cn := RX7) (T := TX7) hd hr rfl rfl (by decide) inX7 hlink rfl k
theorem jg_0_2 {ki idx : Nat} (hd : decode M.2.1 pc = .ok (.getfield idx, 3)) (hr : ((0, ki) : jR) ∈ jL E) (hlink : Cond.fieldLink M.1.cls idx "DropQueues" "trial" "LDropQueues$World;" ∈ jAll) (k : JR E D M (pc + 3) lv (.ref (E.1 (2, 1)) :: st) S r S') : JR E D M pc lv (.ref (E.1 (0, ki)) :: st) S r S' :=
  j_get (rr := (0, ki)) (ci := 7) (kf := 2) (N := 6) (Cn := RX7) (T := TX7) hd hr rfl rfl (by decide) inX7 hlink rfl k
theorem jg_0_3 {ki idx : Nat} (hd : decode M.2.1 pc = .ok (.getfield idx, 3)) (hr : ((0, ki) : jR) ∈ jL E) (hlink : Cond.fieldLink M.1.cls idx "DropQueues" "history" "LDropQueues$History;" ∈ jAll) (k : JR E D M (pc + 3) lv (.ref (E.1 (5, 0)) :: st) S r S') : JR E D M pc lv (.ref (E.1 (0, ki)) :: st) S r S' :=
  j_get (rr := (0, ki)) (ci := 7) (kf := 3) (N := 6) (Cn := RX7) (T := TX7) hd hr rfl rfl (by decide) inX7 hlink rfl k
theorem jg_0_4 {ki idx : Nat} (hd : decode M.2.1 pc = .ok (.getfield idx, 3)) (hr : ((0, ki) : jR) ∈ jL E) (hlink : Cond.fieldLink M.1.cls idx "DropQueues" "picker" "LDropQueues$Picker;" ∈ jAll) (k : JR E D M (pc + 3) lv (.ref (E.1 (7, 0)) :: st) S r S') : JR E D M pc lv (.ref (E.1 (0, ki)) :: st) S r S' :=
  j_get (rr := (0, ki)) (ci := 7) (kf := 4) (N := 6) (Cn := RX7) (T := TX7) hd hr rfl rfl (by decide) inX7 hlink rfl k
theorem jg_0_5 {ki idx : Nat} (hd : decode M.2.1 pc = .ok (.getfield idx, 3)) (hr : ((0, ki) : jR) ∈ jL E) (hlink : Cond.fieldLink M.1.cls idx "DropQueues" "mover" "LDropQueues$Mover;" ∈ jAll) (k : JR E D M (pc + 3) lv (.ref (E.1 (8, 0)) :: st) S r S') : JR E D M pc lv (.ref (E.1 (0, ki)) :: st) S r S' :=
  j_get (rr := (0, ki)) (ci := 7) (kf := 5) (N := 6) (Cn := RX7) (T := TX7) hd hr rfl rfl (by decide) inX7 hlink rfl k
theorem jg_1_0 {ki idx : Nat} (hd : decode M.2.1 pc = .ok (.getfield idx, 3)) (hr : ((1, ki) : jR) ∈ jL E) (hlink : Cond.fieldLink M.1.cls idx "DropQueues$Text" "length" "I" ∈ jAll) (k : JR E D M (pc + 3) lv (.int (S.1 (0, ki)) :: st) S r S') : JR E D M pc lv (.ref (E.1 (1, ki)) :: st) S r S' :=
  j_get (rr := (1, ki)) (ci := 5) (kf := 0) (N := 3) (Cn := RX5) (T := TX5) hd hr rfl rfl (by decide) inX5 hlink rfl k
theorem jp_0 {ki idx : Nat} {x : Int32} (hd : decode M.2.1 pc = .ok (.putfield idx, 3)) (hr : ((1, ki) : jR) ∈ jL E) (hlink : Cond.fieldLink M.1.cls idx "DropQueues$Text" "length" "I" ∈ jAll) (hS1 : S1 = jset S (0, ki) x) (k : JR E D M (pc + 3) lv st S1 r S') : JR E D M pc lv (.int x :: .ref (E.1 (1, ki)) :: st) S r S' := by
  subst hS1
  exact j_putS (a := (0, ki)) (ci := 5) (N := 3) (Cn := RX5) (T := TX5) tyX5 hd (Nat.le_of_ble_eq_true rfl) hr rfl rfl (Nat.le_of_ble_eq_true rfl) inX5 tyX5_ok nmX5 hlink rfl (tyX5_ok 0 (by decide)) (Nat.le_of_ble_eq_true rfl) k
theorem jg_1_1 {ki idx : Nat} (hd : decode M.2.1 pc = .ok (.getfield idx, 3)) (hr : ((1, ki) : jR) ∈ jL E) (hlink : Cond.fieldLink M.1.cls idx "DropQueues$Text" "letters" "[C" ∈ jAll) (k : JR E D M (pc + 3) lv (.ref (E.1 (10, 0)) :: st) S r S') : JR E D M pc lv (.ref (E.1 (1, ki)) :: st) S r S' :=
  j_get (rr := (1, ki)) (ci := 5) (kf := 1) (N := 3) (Cn := RX5) (T := TX5) hd hr rfl rfl (by decide) inX5 hlink rfl k
theorem jg_1_2 {ki idx : Nat} (hd : decode M.2.1 pc = .ok (.getfield idx, 3)) (hr : ((1, ki) : jR) ∈ jL E) (hlink : Cond.fieldLink M.1.cls idx "DropQueues$Text" "numbers" "[I" ∈ jAll) (k : JR E D M (pc + 3) lv (.ref (E.1 (11, 0)) :: st) S r S') : JR E D M pc lv (.ref (E.1 (1, ki)) :: st) S r S' :=
  j_get (rr := (1, ki)) (ci := 5) (kf := 2) (N := 3) (Cn := RX5) (T := TX5) hd hr rfl rfl (by decide) inX5 hlink rfl k
theorem jg_2_0 {ki idx : Nat} (hd : decode M.2.1 pc = .ok (.getfield idx, 3)) (hr : ((2, ki) : jR) ∈ jL E) (hlink : Cond.fieldLink M.1.cls idx "DropQueues$World" "net" "LDropQueues$Net;" ∈ jAll) (k : JR E D M (pc + 3) lv (.ref (E.1 (3, ki)) :: st) S r S') : JR E D M pc lv (.ref (E.1 (2, ki)) :: st) S r S' :=
  j_get (rr := (2, ki)) (ci := 6) (kf := 0) (N := 2) (Cn := RX6) (T := TX6) hd hr rfl rfl (by decide) inX6 hlink rfl k
theorem jg_2_1 {ki idx : Nat} (hd : decode M.2.1 pc = .ok (.getfield idx, 3)) (hr : ((2, ki) : jR) ∈ jL E) (hlink : Cond.fieldLink M.1.cls idx "DropQueues$World" "queues" "LDropQueues$Queues;" ∈ jAll) (k : JR E D M (pc + 3) lv (.ref (E.1 (4, ki)) :: st) S r S') : JR E D M pc lv (.ref (E.1 (2, ki)) :: st) S r S' :=
  j_get (rr := (2, ki)) (ci := 6) (kf := 1) (N := 2) (Cn := RX6) (T := TX6) hd hr rfl rfl (by decide) inX6 hlink rfl k
theorem jg_3_0 {ki idx : Nat} (hd : decode M.2.1 pc = .ok (.getfield idx, 3)) (hr : ((3, ki) : jR) ∈ jL E) (hlink : Cond.fieldLink M.1.cls idx "DropQueues$Net" "nodes" "I" ∈ jAll) (k : JR E D M (pc + 3) lv (.int (S.1 (1, ki)) :: st) S r S') : JR E D M pc lv (.ref (E.1 (3, ki)) :: st) S r S' :=
  j_get (rr := (3, ki)) (ci := 2) (kf := 0) (N := 12) (Cn := RX2) (T := TX2) hd hr rfl rfl (by decide) inX2 hlink rfl k
theorem jp_1 {ki idx : Nat} {x : Int32} (hd : decode M.2.1 pc = .ok (.putfield idx, 3)) (hr : ((3, ki) : jR) ∈ jL E) (hlink : Cond.fieldLink M.1.cls idx "DropQueues$Net" "nodes" "I" ∈ jAll) (hS1 : S1 = jset S (1, ki) x) (k : JR E D M (pc + 3) lv st S1 r S') : JR E D M pc lv (.int x :: .ref (E.1 (3, ki)) :: st) S r S' := by
  subst hS1
  exact j_putS (a := (1, ki)) (ci := 2) (N := 12) (Cn := RX2) (T := TX2) tyX2 hd (Nat.le_of_ble_eq_true rfl) hr rfl rfl (Nat.le_of_ble_eq_true rfl) inX2 tyX2_ok nmX2 hlink rfl (tyX2_ok 0 (by decide)) (Nat.le_of_ble_eq_true rfl) k
theorem jg_3_1 {ki idx : Nat} (hd : decode M.2.1 pc = .ok (.getfield idx, 3)) (hr : ((3, ki) : jR) ∈ jL E) (hlink : Cond.fieldLink M.1.cls idx "DropQueues$Net" "goals" "I" ∈ jAll) (k : JR E D M (pc + 3) lv (.int (S.1 (2, ki)) :: st) S r S') : JR E D M pc lv (.ref (E.1 (3, ki)) :: st) S r S' :=
  j_get (rr := (3, ki)) (ci := 2) (kf := 1) (N := 12) (Cn := RX2) (T := TX2) hd hr rfl rfl (by decide) inX2 hlink rfl k
theorem jp_2 {ki idx : Nat} {x : Int32} (hd : decode M.2.1 pc = .ok (.putfield idx, 3)) (hr : ((3, ki) : jR) ∈ jL E) (hlink : Cond.fieldLink M.1.cls idx "DropQueues$Net" "goals" "I" ∈ jAll) (hS1 : S1 = jset S (2, ki) x) (k : JR E D M (pc + 3) lv st S1 r S') : JR E D M pc lv (.int x :: .ref (E.1 (3, ki)) :: st) S r S' := by
  subst hS1
  exact j_putS (a := (2, ki)) (ci := 2) (N := 12) (Cn := RX2) (T := TX2) tyX2 hd (Nat.le_of_ble_eq_true rfl) hr rfl rfl (Nat.le_of_ble_eq_true rfl) inX2 tyX2_ok nmX2 hlink rfl (tyX2_ok 1 (by decide)) (Nat.le_of_ble_eq_true rfl) k
theorem jg_3_2 {ki idx : Nat} (hd : decode M.2.1 pc = .ok (.getfield idx, 3)) (hr : ((3, ki) : jR) ∈ jL E) (hlink : Cond.fieldLink M.1.cls idx "DropQueues$Net" "links" "I" ∈ jAll) (k : JR E D M (pc + 3) lv (.int (S.1 (3, ki)) :: st) S r S') : JR E D M pc lv (.ref (E.1 (3, ki)) :: st) S r S' :=
  j_get (rr := (3, ki)) (ci := 2) (kf := 2) (N := 12) (Cn := RX2) (T := TX2) hd hr rfl rfl (by decide) inX2 hlink rfl k
theorem jp_3 {ki idx : Nat} {x : Int32} (hd : decode M.2.1 pc = .ok (.putfield idx, 3)) (hr : ((3, ki) : jR) ∈ jL E) (hlink : Cond.fieldLink M.1.cls idx "DropQueues$Net" "links" "I" ∈ jAll) (hS1 : S1 = jset S (3, ki) x) (k : JR E D M (pc + 3) lv st S1 r S') : JR E D M pc lv (.int x :: .ref (E.1 (3, ki)) :: st) S r S' := by
  subst hS1
  exact j_putS (a := (3, ki)) (ci := 2) (N := 12) (Cn := RX2) (T := TX2) tyX2 hd (Nat.le_of_ble_eq_true rfl) hr rfl rfl (Nat.le_of_ble_eq_true rfl) inX2 tyX2_ok nmX2 hlink rfl (tyX2_ok 2 (by decide)) (Nat.le_of_ble_eq_true rfl) k
theorem jg_3_3 {ki idx : Nat} (hd : decode M.2.1 pc = .ok (.getfield idx, 3)) (hr : ((3, ki) : jR) ∈ jL E) (hlink : Cond.fieldLink M.1.cls idx "DropQueues$Net" "law" "I" ∈ jAll) (k : JR E D M (pc + 3) lv (.int (S.1 (4, ki)) :: st) S r S') : JR E D M pc lv (.ref (E.1 (3, ki)) :: st) S r S' :=
  j_get (rr := (3, ki)) (ci := 2) (kf := 3) (N := 12) (Cn := RX2) (T := TX2) hd hr rfl rfl (by decide) inX2 hlink rfl k
theorem jp_4 {ki idx : Nat} {x : Int32} (hd : decode M.2.1 pc = .ok (.putfield idx, 3)) (hr : ((3, ki) : jR) ∈ jL E) (hlink : Cond.fieldLink M.1.cls idx "DropQueues$Net" "law" "I" ∈ jAll) (hS1 : S1 = jset S (4, ki) x) (k : JR E D M (pc + 3) lv st S1 r S') : JR E D M pc lv (.int x :: .ref (E.1 (3, ki)) :: st) S r S' := by
  subst hS1
  exact j_putS (a := (4, ki)) (ci := 2) (N := 12) (Cn := RX2) (T := TX2) tyX2 hd (Nat.le_of_ble_eq_true rfl) hr rfl rfl (Nat.le_of_ble_eq_true rfl) inX2 tyX2_ok nmX2 hlink rfl (tyX2_ok 3 (by decide)) (Nat.le_of_ble_eq_true rfl) k
theorem jg_3_4 {ki idx : Nat} (hd : decode M.2.1 pc = .ok (.getfield idx, 3)) (hr : ((3, ki) : jR) ∈ jL E) (hlink : Cond.fieldLink M.1.cls idx "DropQueues$Net" "b" "I" ∈ jAll) (k : JR E D M (pc + 3) lv (.int (S.1 (5, ki)) :: st) S r S') : JR E D M pc lv (.ref (E.1 (3, ki)) :: st) S r S' :=
  j_get (rr := (3, ki)) (ci := 2) (kf := 4) (N := 12) (Cn := RX2) (T := TX2) hd hr rfl rfl (by decide) inX2 hlink rfl k
theorem jp_5 {ki idx : Nat} {x : Int32} (hd : decode M.2.1 pc = .ok (.putfield idx, 3)) (hr : ((3, ki) : jR) ∈ jL E) (hlink : Cond.fieldLink M.1.cls idx "DropQueues$Net" "b" "I" ∈ jAll) (hS1 : S1 = jset S (5, ki) x) (k : JR E D M (pc + 3) lv st S1 r S') : JR E D M pc lv (.int x :: .ref (E.1 (3, ki)) :: st) S r S' := by
  subst hS1
  exact j_putS (a := (5, ki)) (ci := 2) (N := 12) (Cn := RX2) (T := TX2) tyX2 hd (Nat.le_of_ble_eq_true rfl) hr rfl rfl (Nat.le_of_ble_eq_true rfl) inX2 tyX2_ok nmX2 hlink rfl (tyX2_ok 4 (by decide)) (Nat.le_of_ble_eq_true rfl) k
theorem jg_3_5 {ki idx : Nat} (hd : decode M.2.1 pc = .ok (.getfield idx, 3)) (hr : ((3, ki) : jR) ∈ jL E) (hlink : Cond.fieldLink M.1.cls idx "DropQueues$Net" "goalNodes" "[I" ∈ jAll) (k : JR E D M (pc + 3) lv (.ref (E.1 (20, ki)) :: st) S r S') : JR E D M pc lv (.ref (E.1 (3, ki)) :: st) S r S' :=
  j_get (rr := (3, ki)) (ci := 2) (kf := 5) (N := 12) (Cn := RX2) (T := TX2) hd hr rfl rfl (by decide) inX2 hlink rfl k
theorem jg_3_6 {ki idx : Nat} (hd : decode M.2.1 pc = .ok (.getfield idx, 3)) (hr : ((3, ki) : jR) ∈ jL E) (hlink : Cond.fieldLink M.1.cls idx "DropQueues$Net" "firsts" "[I" ∈ jAll) (k : JR E D M (pc + 3) lv (.ref (E.1 (21, ki)) :: st) S r S') : JR E D M pc lv (.ref (E.1 (3, ki)) :: st) S r S' :=
  j_get (rr := (3, ki)) (ci := 2) (kf := 6) (N := 12) (Cn := RX2) (T := TX2) hd hr rfl rfl (by decide) inX2 hlink rfl k
theorem jg_3_7 {ki idx : Nat} (hd : decode M.2.1 pc = .ok (.getfield idx, 3)) (hr : ((3, ki) : jR) ∈ jL E) (hlink : Cond.fieldLink M.1.cls idx "DropQueues$Net" "seconds" "[I" ∈ jAll) (k : JR E D M (pc + 3) lv (.ref (E.1 (22, ki)) :: st) S r S') : JR E D M pc lv (.ref (E.1 (3, ki)) :: st) S r S' :=
  j_get (rr := (3, ki)) (ci := 2) (kf := 7) (N := 12) (Cn := RX2) (T := TX2) hd hr rfl rfl (by decide) inX2 hlink rfl k
theorem jg_3_8 {ki idx : Nat} (hd : decode M.2.1 pc = .ok (.getfield idx, 3)) (hr : ((3, ki) : jR) ∈ jL E) (hlink : Cond.fieldLink M.1.cls idx "DropQueues$Net" "rooms" "[I" ∈ jAll) (k : JR E D M (pc + 3) lv (.ref (E.1 (23, ki)) :: st) S r S') : JR E D M pc lv (.ref (E.1 (3, ki)) :: st) S r S' :=
  j_get (rr := (3, ki)) (ci := 2) (kf := 8) (N := 12) (Cn := RX2) (T := TX2) hd hr rfl rfl (by decide) inX2 hlink rfl k
theorem jg_3_9 {ki idx : Nat} (hd : decode M.2.1 pc = .ok (.getfield idx, 3)) (hr : ((3, ki) : jR) ∈ jL E) (hlink : Cond.fieldLink M.1.cls idx "DropQueues$Net" "clashes" "[I" ∈ jAll) (k : JR E D M (pc + 3) lv (.ref (E.1 (24, ki)) :: st) S r S') : JR E D M pc lv (.ref (E.1 (3, ki)) :: st) S r S' :=
  j_get (rr := (3, ki)) (ci := 2) (kf := 9) (N := 12) (Cn := RX2) (T := TX2) hd hr rfl rfl (by decide) inX2 hlink rfl k
theorem jg_3_10 {ki idx : Nat} (hd : decode M.2.1 pc = .ok (.getfield idx, 3)) (hr : ((3, ki) : jR) ∈ jL E) (hlink : Cond.fieldLink M.1.cls idx "DropQueues$Net" "feeds" "[I" ∈ jAll) (k : JR E D M (pc + 3) lv (.ref (E.1 (25, ki)) :: st) S r S') : JR E D M pc lv (.ref (E.1 (3, ki)) :: st) S r S' :=
  j_get (rr := (3, ki)) (ci := 2) (kf := 10) (N := 12) (Cn := RX2) (T := TX2) hd hr rfl rfl (by decide) inX2 hlink rfl k
theorem jg_3_11 {ki idx : Nat} (hd : decode M.2.1 pc = .ok (.getfield idx, 3)) (hr : ((3, ki) : jR) ∈ jL E) (hlink : Cond.fieldLink M.1.cls idx "DropQueues$Net" "hops" "[I" ∈ jAll) (k : JR E D M (pc + 3) lv (.ref (E.1 (26, ki)) :: st) S r S') : JR E D M pc lv (.ref (E.1 (3, ki)) :: st) S r S' :=
  j_get (rr := (3, ki)) (ci := 2) (kf := 11) (N := 12) (Cn := RX2) (T := TX2) hd hr rfl rfl (by decide) inX2 hlink rfl k
theorem jg_4_0 {ki idx : Nat} (hd : decode M.2.1 pc = .ok (.getfield idx, 3)) (hr : ((4, ki) : jR) ∈ jL E) (hlink : Cond.fieldLink M.1.cls idx "DropQueues$Queues" "slots" "I" ∈ jAll) (k : JR E D M (pc + 3) lv (.int (S.1 (6, ki)) :: st) S r S') : JR E D M pc lv (.ref (E.1 (4, ki)) :: st) S r S' :=
  j_get (rr := (4, ki)) (ci := 4) (kf := 0) (N := 8) (Cn := RX4) (T := TX4) hd hr rfl rfl (by decide) inX4 hlink rfl k
theorem jp_6 {ki idx : Nat} {x : Int32} (hd : decode M.2.1 pc = .ok (.putfield idx, 3)) (hr : ((4, ki) : jR) ∈ jL E) (hlink : Cond.fieldLink M.1.cls idx "DropQueues$Queues" "slots" "I" ∈ jAll) (hS1 : S1 = jset S (6, ki) x) (k : JR E D M (pc + 3) lv st S1 r S') : JR E D M pc lv (.int x :: .ref (E.1 (4, ki)) :: st) S r S' := by
  subst hS1
  exact j_putS (a := (6, ki)) (ci := 4) (N := 8) (Cn := RX4) (T := TX4) tyX4 hd (Nat.le_of_ble_eq_true rfl) hr rfl rfl (Nat.le_of_ble_eq_true rfl) inX4 tyX4_ok nmX4 hlink rfl (tyX4_ok 0 (by decide)) (Nat.le_of_ble_eq_true rfl) k
theorem jg_4_1 {ki idx : Nat} (hd : decode M.2.1 pc = .ok (.getfield idx, 3)) (hr : ((4, ki) : jR) ∈ jL E) (hlink : Cond.fieldLink M.1.cls idx "DropQueues$Queues" "lost" "I" ∈ jAll) (k : JR E D M (pc + 3) lv (.int (S.1 (7, ki)) :: st) S r S') : JR E D M pc lv (.ref (E.1 (4, ki)) :: st) S r S' :=
  j_get (rr := (4, ki)) (ci := 4) (kf := 1) (N := 8) (Cn := RX4) (T := TX4) hd hr rfl rfl (by decide) inX4 hlink rfl k
theorem jp_7 {ki idx : Nat} {x : Int32} (hd : decode M.2.1 pc = .ok (.putfield idx, 3)) (hr : ((4, ki) : jR) ∈ jL E) (hlink : Cond.fieldLink M.1.cls idx "DropQueues$Queues" "lost" "I" ∈ jAll) (hS1 : S1 = jset S (7, ki) x) (k : JR E D M (pc + 3) lv st S1 r S') : JR E D M pc lv (.int x :: .ref (E.1 (4, ki)) :: st) S r S' := by
  subst hS1
  exact j_putS (a := (7, ki)) (ci := 4) (N := 8) (Cn := RX4) (T := TX4) tyX4 hd (Nat.le_of_ble_eq_true rfl) hr rfl rfl (Nat.le_of_ble_eq_true rfl) inX4 tyX4_ok nmX4 hlink rfl (tyX4_ok 1 (by decide)) (Nat.le_of_ble_eq_true rfl) k
theorem jg_4_2 {ki idx : Nat} (hd : decode M.2.1 pc = .ok (.getfield idx, 3)) (hr : ((4, ki) : jR) ∈ jL E) (hlink : Cond.fieldLink M.1.cls idx "DropQueues$Queues" "there" "[I" ∈ jAll) (k : JR E D M (pc + 3) lv (.ref (E.1 (30, ki)) :: st) S r S') : JR E D M pc lv (.ref (E.1 (4, ki)) :: st) S r S' :=
  j_get (rr := (4, ki)) (ci := 4) (kf := 2) (N := 8) (Cn := RX4) (T := TX4) hd hr rfl rfl (by decide) inX4 hlink rfl k
theorem jg_4_3 {ki idx : Nat} (hd : decode M.2.1 pc = .ok (.getfield idx, 3)) (hr : ((4, ki) : jR) ∈ jL E) (hlink : Cond.fieldLink M.1.cls idx "DropQueues$Queues" "delays" "[I" ∈ jAll) (k : JR E D M (pc + 3) lv (.ref (E.1 (31, ki)) :: st) S r S') : JR E D M pc lv (.ref (E.1 (4, ki)) :: st) S r S' :=
  j_get (rr := (4, ki)) (ci := 4) (kf := 3) (N := 8) (Cn := RX4) (T := TX4) hd hr rfl rfl (by decide) inX4 hlink rfl k
theorem jg_4_4 {ki idx : Nat} (hd : decode M.2.1 pc = .ok (.getfield idx, 3)) (hr : ((4, ki) : jR) ∈ jL E) (hlink : Cond.fieldLink M.1.cls idx "DropQueues$Queues" "longest" "[I" ∈ jAll) (k : JR E D M (pc + 3) lv (.ref (E.1 (32, ki)) :: st) S r S') : JR E D M pc lv (.ref (E.1 (4, ki)) :: st) S r S' :=
  j_get (rr := (4, ki)) (ci := 4) (kf := 4) (N := 8) (Cn := RX4) (T := TX4) hd hr rfl rfl (by decide) inX4 hlink rfl k
theorem jg_4_5 {ki idx : Nat} (hd : decode M.2.1 pc = .ok (.getfield idx, 3)) (hr : ((4, ki) : jR) ∈ jL E) (hlink : Cond.fieldLink M.1.cls idx "DropQueues$Queues" "sizes" "[I" ∈ jAll) (k : JR E D M (pc + 3) lv (.ref (E.1 (33, ki)) :: st) S r S') : JR E D M pc lv (.ref (E.1 (4, ki)) :: st) S r S' :=
  j_get (rr := (4, ki)) (ci := 4) (kf := 5) (N := 8) (Cn := RX4) (T := TX4) hd hr rfl rfl (by decide) inX4 hlink rfl k
theorem jg_4_6 {ki idx : Nat} (hd : decode M.2.1 pc = .ok (.getfield idx, 3)) (hr : ((4, ki) : jR) ∈ jL E) (hlink : Cond.fieldLink M.1.cls idx "DropQueues$Queues" "born" "[I" ∈ jAll) (k : JR E D M (pc + 3) lv (.ref (E.1 (34, ki)) :: st) S r S') : JR E D M pc lv (.ref (E.1 (4, ki)) :: st) S r S' :=
  j_get (rr := (4, ki)) (ci := 4) (kf := 6) (N := 8) (Cn := RX4) (T := TX4) hd hr rfl rfl (by decide) inX4 hlink rfl k
theorem jg_4_7 {ki idx : Nat} (hd : decode M.2.1 pc = .ok (.getfield idx, 3)) (hr : ((4, ki) : jR) ∈ jL E) (hlink : Cond.fieldLink M.1.cls idx "DropQueues$Queues" "heads" "[I" ∈ jAll) (k : JR E D M (pc + 3) lv (.ref (E.1 (35, ki)) :: st) S r S') : JR E D M pc lv (.ref (E.1 (4, ki)) :: st) S r S' :=
  j_get (rr := (4, ki)) (ci := 4) (kf := 7) (N := 8) (Cn := RX4) (T := TX4) hd hr rfl rfl (by decide) inX4 hlink rfl k
theorem jg_5_0 {ki idx : Nat} (hd : decode M.2.1 pc = .ok (.getfield idx, 3)) (hr : ((5, ki) : jR) ∈ jL E) (hlink : Cond.fieldLink M.1.cls idx "DropQueues$History" "kept" "I" ∈ jAll) (k : JR E D M (pc + 3) lv (.int (S.1 (8, ki)) :: st) S r S') : JR E D M pc lv (.ref (E.1 (5, ki)) :: st) S r S' :=
  j_get (rr := (5, ki)) (ci := 0) (kf := 0) (N := 3) (Cn := RX0) (T := TX0) hd hr rfl rfl (by decide) inX0 hlink rfl k
theorem jp_8 {ki idx : Nat} {x : Int32} (hd : decode M.2.1 pc = .ok (.putfield idx, 3)) (hr : ((5, ki) : jR) ∈ jL E) (hlink : Cond.fieldLink M.1.cls idx "DropQueues$History" "kept" "I" ∈ jAll) (hS1 : S1 = jset S (8, ki) x) (k : JR E D M (pc + 3) lv st S1 r S') : JR E D M pc lv (.int x :: .ref (E.1 (5, ki)) :: st) S r S' := by
  subst hS1
  exact j_putS (a := (8, ki)) (ci := 0) (N := 3) (Cn := RX0) (T := TX0) tyX0 hd (Nat.le_of_ble_eq_true rfl) hr rfl rfl (Nat.le_of_ble_eq_true rfl) inX0 tyX0_ok nmX0 hlink rfl (tyX0_ok 0 (by decide)) (Nat.le_of_ble_eq_true rfl) k
theorem jg_5_1 {ki idx : Nat} (hd : decode M.2.1 pc = .ok (.getfield idx, 3)) (hr : ((5, ki) : jR) ∈ jL E) (hlink : Cond.fieldLink M.1.cls idx "DropQueues$History" "next" "I" ∈ jAll) (k : JR E D M (pc + 3) lv (.int (S.1 (9, ki)) :: st) S r S') : JR E D M pc lv (.ref (E.1 (5, ki)) :: st) S r S' :=
  j_get (rr := (5, ki)) (ci := 0) (kf := 1) (N := 3) (Cn := RX0) (T := TX0) hd hr rfl rfl (by decide) inX0 hlink rfl k
theorem jp_9 {ki idx : Nat} {x : Int32} (hd : decode M.2.1 pc = .ok (.putfield idx, 3)) (hr : ((5, ki) : jR) ∈ jL E) (hlink : Cond.fieldLink M.1.cls idx "DropQueues$History" "next" "I" ∈ jAll) (hS1 : S1 = jset S (9, ki) x) (k : JR E D M (pc + 3) lv st S1 r S') : JR E D M pc lv (.int x :: .ref (E.1 (5, ki)) :: st) S r S' := by
  subst hS1
  exact j_putS (a := (9, ki)) (ci := 0) (N := 3) (Cn := RX0) (T := TX0) tyX0 hd (Nat.le_of_ble_eq_true rfl) hr rfl rfl (Nat.le_of_ble_eq_true rfl) inX0 tyX0_ok nmX0 hlink rfl (tyX0_ok 1 (by decide)) (Nat.le_of_ble_eq_true rfl) k
theorem jg_5_2 {ki idx : Nat} (hd : decode M.2.1 pc = .ok (.getfield idx, 3)) (hr : ((5, ki) : jR) ∈ jL E) (hlink : Cond.fieldLink M.1.cls idx "DropQueues$History" "worlds" "[LDropQueues$World;" ∈ jAll) (k : JR E D M (pc + 3) lv (.ref (E.1 (6, 0)) :: st) S r S') : JR E D M pc lv (.ref (E.1 (5, ki)) :: st) S r S' :=
  j_get (rr := (5, ki)) (ci := 0) (kf := 2) (N := 3) (Cn := RX0) (T := TX0) hd hr rfl rfl (by decide) inX0 hlink rfl k
theorem jg_7_0 {ki idx : Nat} (hd : decode M.2.1 pc = .ok (.getfield idx, 3)) (hr : ((7, ki) : jR) ∈ jL E) (hlink : Cond.fieldLink M.1.cls idx "DropQueues$Picker" "bestSet" "I" ∈ jAll) (k : JR E D M (pc + 3) lv (.int (S.1 (10, ki)) :: st) S r S') : JR E D M pc lv (.ref (E.1 (7, ki)) :: st) S r S' :=
  j_get (rr := (7, ki)) (ci := 3) (kf := 0) (N := 4) (Cn := RX3) (T := TX3) hd hr rfl rfl (by decide) inX3 hlink rfl k
theorem jp_10 {ki idx : Nat} {x : Int32} (hd : decode M.2.1 pc = .ok (.putfield idx, 3)) (hr : ((7, ki) : jR) ∈ jL E) (hlink : Cond.fieldLink M.1.cls idx "DropQueues$Picker" "bestSet" "I" ∈ jAll) (hS1 : S1 = jset S (10, ki) x) (k : JR E D M (pc + 3) lv st S1 r S') : JR E D M pc lv (.int x :: .ref (E.1 (7, ki)) :: st) S r S' := by
  subst hS1
  exact j_putS (a := (10, ki)) (ci := 3) (N := 4) (Cn := RX3) (T := TX3) tyX3 hd (Nat.le_of_ble_eq_true rfl) hr rfl rfl (Nat.le_of_ble_eq_true rfl) inX3 tyX3_ok nmX3 hlink rfl (tyX3_ok 0 (by decide)) (Nat.le_of_ble_eq_true rfl) k
theorem jg_7_1 {ki idx : Nat} (hd : decode M.2.1 pc = .ok (.getfield idx, 3)) (hr : ((7, ki) : jR) ∈ jL E) (hlink : Cond.fieldLink M.1.cls idx "DropQueues$Picker" "bestWeight" "I" ∈ jAll) (k : JR E D M (pc + 3) lv (.int (S.1 (11, ki)) :: st) S r S') : JR E D M pc lv (.ref (E.1 (7, ki)) :: st) S r S' :=
  j_get (rr := (7, ki)) (ci := 3) (kf := 1) (N := 4) (Cn := RX3) (T := TX3) hd hr rfl rfl (by decide) inX3 hlink rfl k
theorem jp_11 {ki idx : Nat} {x : Int32} (hd : decode M.2.1 pc = .ok (.putfield idx, 3)) (hr : ((7, ki) : jR) ∈ jL E) (hlink : Cond.fieldLink M.1.cls idx "DropQueues$Picker" "bestWeight" "I" ∈ jAll) (hS1 : S1 = jset S (11, ki) x) (k : JR E D M (pc + 3) lv st S1 r S') : JR E D M pc lv (.int x :: .ref (E.1 (7, ki)) :: st) S r S' := by
  subst hS1
  exact j_putS (a := (11, ki)) (ci := 3) (N := 4) (Cn := RX3) (T := TX3) tyX3 hd (Nat.le_of_ble_eq_true rfl) hr rfl rfl (Nat.le_of_ble_eq_true rfl) inX3 tyX3_ok nmX3 hlink rfl (tyX3_ok 1 (by decide)) (Nat.le_of_ble_eq_true rfl) k
theorem jg_7_2 {ki idx : Nat} (hd : decode M.2.1 pc = .ok (.getfield idx, 3)) (hr : ((7, ki) : jR) ∈ jL E) (hlink : Cond.fieldLink M.1.cls idx "DropQueues$Picker" "choices" "[I" ∈ jAll) (k : JR E D M (pc + 3) lv (.ref (E.1 (40, ki)) :: st) S r S') : JR E D M pc lv (.ref (E.1 (7, ki)) :: st) S r S' :=
  j_get (rr := (7, ki)) (ci := 3) (kf := 2) (N := 4) (Cn := RX3) (T := TX3) hd hr rfl rfl (by decide) inX3 hlink rfl k
theorem jg_7_3 {ki idx : Nat} (hd : decode M.2.1 pc = .ok (.getfield idx, 3)) (hr : ((7, ki) : jR) ∈ jL E) (hlink : Cond.fieldLink M.1.cls idx "DropQueues$Picker" "weights" "[I" ∈ jAll) (k : JR E D M (pc + 3) lv (.ref (E.1 (41, ki)) :: st) S r S') : JR E D M pc lv (.ref (E.1 (7, ki)) :: st) S r S' :=
  j_get (rr := (7, ki)) (ci := 3) (kf := 3) (N := 4) (Cn := RX3) (T := TX3) hd hr rfl rfl (by decide) inX3 hlink rfl k
theorem jg_8_0 {ki idx : Nat} (hd : decode M.2.1 pc = .ok (.getfield idx, 3)) (hr : ((8, ki) : jR) ∈ jL E) (hlink : Cond.fieldLink M.1.cls idx "DropQueues$Mover" "drawnFeeds" "[I" ∈ jAll) (k : JR E D M (pc + 3) lv (.ref (E.1 (42, 0)) :: st) S r S') : JR E D M pc lv (.ref (E.1 (8, ki)) :: st) S r S' :=
  j_get (rr := (8, ki)) (ci := 1) (kf := 0) (N := 4) (Cn := RX1) (T := TX1) hd hr rfl rfl (by decide) inX1 hlink rfl k
theorem jg_8_1 {ki idx : Nat} (hd : decode M.2.1 pc = .ok (.getfield idx, 3)) (hr : ((8, ki) : jR) ∈ jL E) (hlink : Cond.fieldLink M.1.cls idx "DropQueues$Mover" "picker" "LDropQueues$Picker;" ∈ jAll) (k : JR E D M (pc + 3) lv (.ref (E.1 (7, 1)) :: st) S r S') : JR E D M pc lv (.ref (E.1 (8, ki)) :: st) S r S' :=
  j_get (rr := (8, ki)) (ci := 1) (kf := 1) (N := 4) (Cn := RX1) (T := TX1) hd hr rfl rfl (by decide) inX1 hlink rfl k
theorem jg_8_2 {ki idx : Nat} (hd : decode M.2.1 pc = .ok (.getfield idx, 3)) (hr : ((8, ki) : jR) ∈ jL E) (hlink : Cond.fieldLink M.1.cls idx "DropQueues$Mover" "taken" "[I" ∈ jAll) (k : JR E D M (pc + 3) lv (.ref (E.1 (43, 0)) :: st) S r S') : JR E D M pc lv (.ref (E.1 (8, ki)) :: st) S r S' :=
  j_get (rr := (8, ki)) (ci := 1) (kf := 2) (N := 4) (Cn := RX1) (T := TX1) hd hr rfl rfl (by decide) inX1 hlink rfl k
theorem jg_8_3 {ki idx : Nat} (hd : decode M.2.1 pc = .ok (.getfield idx, 3)) (hr : ((8, ki) : jR) ∈ jL E) (hlink : Cond.fieldLink M.1.cls idx "DropQueues$Mover" "underWay" "[I" ∈ jAll) (k : JR E D M (pc + 3) lv (.ref (E.1 (44, 0)) :: st) S r S') : JR E D M pc lv (.ref (E.1 (8, ki)) :: st) S r S' :=
  j_get (rr := (8, ki)) (ci := 1) (kf := 3) (N := 4) (Cn := RX1) (T := TX1) hd hr rfl rfl (by decide) inX1 hlink rfl k
theorem jg_9_0 {ki idx : Nat} (hd : decode M.2.1 pc = .ok (.getfield idx, 3)) (hr : ((9, ki) : jR) ∈ jL E) (hlink : Cond.fieldLink M.1.cls idx "DropQueuesModel" "now" "[I" ∈ jAll) (k : JR E D M (pc + 3) lv (.ref (E.1 (50, 0)) :: st) S r S') : JR E D M pc lv (.ref (E.1 (9, ki)) :: st) S r S' :=
  j_get (rr := (9, ki)) (ci := 8) (kf := 0) (N := 20) (Cn := RX8) (T := TX8) hd hr rfl rfl (by decide) inX8 hlink rfl k
theorem jg_9_1 {ki idx : Nat} (hd : decode M.2.1 pc = .ok (.getfield idx, 3)) (hr : ((9, ki) : jR) ∈ jL E) (hlink : Cond.fieldLink M.1.cls idx "DropQueuesModel" "aside" "[I" ∈ jAll) (k : JR E D M (pc + 3) lv (.ref (E.1 (51, 0)) :: st) S r S') : JR E D M pc lv (.ref (E.1 (9, ki)) :: st) S r S' :=
  j_get (rr := (9, ki)) (ci := 8) (kf := 1) (N := 20) (Cn := RX8) (T := TX8) hd hr rfl rfl (by decide) inX8 hlink rfl k
theorem jg_9_2 {ki idx : Nat} (hd : decode M.2.1 pc = .ok (.getfield idx, 3)) (hr : ((9, ki) : jR) ∈ jL E) (hlink : Cond.fieldLink M.1.cls idx "DropQueuesModel" "past" "[I" ∈ jAll) (k : JR E D M (pc + 3) lv (.ref (E.1 (52, 0)) :: st) S r S') : JR E D M pc lv (.ref (E.1 (9, ki)) :: st) S r S' :=
  j_get (rr := (9, ki)) (ci := 8) (kf := 2) (N := 20) (Cn := RX8) (T := TX8) hd hr rfl rfl (by decide) inX8 hlink rfl k
theorem jg_9_3 {ki idx : Nat} (hd : decode M.2.1 pc = .ok (.getfield idx, 3)) (hr : ((9, ki) : jR) ∈ jL E) (hlink : Cond.fieldLink M.1.cls idx "DropQueuesModel" "changes" "I" ∈ jAll) (k : JR E D M (pc + 3) lv (.int (S.1 (12, ki)) :: st) S r S') : JR E D M pc lv (.ref (E.1 (9, ki)) :: st) S r S' :=
  j_get (rr := (9, ki)) (ci := 8) (kf := 3) (N := 20) (Cn := RX8) (T := TX8) hd hr rfl rfl (by decide) inX8 hlink rfl k
theorem jp_12 {ki idx : Nat} {x : Int32} (hd : decode M.2.1 pc = .ok (.putfield idx, 3)) (hr : ((9, ki) : jR) ∈ jL E) (hlink : Cond.fieldLink M.1.cls idx "DropQueuesModel" "changes" "I" ∈ jAll) (hS1 : S1 = jset S (12, ki) x) (k : JR E D M (pc + 3) lv st S1 r S') : JR E D M pc lv (.int x :: .ref (E.1 (9, ki)) :: st) S r S' := by
  subst hS1
  exact j_putS (a := (12, ki)) (ci := 8) (N := 20) (Cn := RX8) (T := TX8) tyX8 hd (Nat.le_of_ble_eq_true rfl) hr rfl rfl (Nat.le_of_ble_eq_true rfl) inX8 tyX8_ok nmX8 hlink rfl (tyX8_ok 3 (by decide)) (Nat.le_of_ble_eq_true rfl) k
theorem jg_9_4 {ki idx : Nat} (hd : decode M.2.1 pc = .ok (.getfield idx, 3)) (hr : ((9, ki) : jR) ∈ jL E) (hlink : Cond.fieldLink M.1.cls idx "DropQueuesModel" "text" "[I" ∈ jAll) (k : JR E D M (pc + 3) lv (.ref (E.1 (53, 0)) :: st) S r S') : JR E D M pc lv (.ref (E.1 (9, ki)) :: st) S r S' :=
  j_get (rr := (9, ki)) (ci := 8) (kf := 4) (N := 20) (Cn := RX8) (T := TX8) hd hr rfl rfl (by decide) inX8 hlink rfl k
theorem jg_9_5 {ki idx : Nat} (hd : decode M.2.1 pc = .ok (.getfield idx, 3)) (hr : ((9, ki) : jR) ∈ jL E) (hlink : Cond.fieldLink M.1.cls idx "DropQueuesModel" "letters" "I" ∈ jAll) (k : JR E D M (pc + 3) lv (.int (S.1 (13, ki)) :: st) S r S') : JR E D M pc lv (.ref (E.1 (9, ki)) :: st) S r S' :=
  j_get (rr := (9, ki)) (ci := 8) (kf := 5) (N := 20) (Cn := RX8) (T := TX8) hd hr rfl rfl (by decide) inX8 hlink rfl k
theorem jp_13 {ki idx : Nat} {x : Int32} (hd : decode M.2.1 pc = .ok (.putfield idx, 3)) (hr : ((9, ki) : jR) ∈ jL E) (hlink : Cond.fieldLink M.1.cls idx "DropQueuesModel" "letters" "I" ∈ jAll) (hS1 : S1 = jset S (13, ki) x) (k : JR E D M (pc + 3) lv st S1 r S') : JR E D M pc lv (.int x :: .ref (E.1 (9, ki)) :: st) S r S' := by
  subst hS1
  exact j_putS (a := (13, ki)) (ci := 8) (N := 20) (Cn := RX8) (T := TX8) tyX8 hd (Nat.le_of_ble_eq_true rfl) hr rfl rfl (Nat.le_of_ble_eq_true rfl) inX8 tyX8_ok nmX8 hlink rfl (tyX8_ok 5 (by decide)) (Nat.le_of_ble_eq_true rfl) k
theorem jg_9_6 {ki idx : Nat} (hd : decode M.2.1 pc = .ok (.getfield idx, 3)) (hr : ((9, ki) : jR) ∈ jL E) (hlink : Cond.fieldLink M.1.cls idx "DropQueuesModel" "read" "[I" ∈ jAll) (k : JR E D M (pc + 3) lv (.ref (E.1 (54, 0)) :: st) S r S') : JR E D M pc lv (.ref (E.1 (9, ki)) :: st) S r S' :=
  j_get (rr := (9, ki)) (ci := 8) (kf := 6) (N := 20) (Cn := RX8) (T := TX8) hd hr rfl rfl (by decide) inX8 hlink rfl k
theorem jg_9_7 {ki idx : Nat} (hd : decode M.2.1 pc = .ok (.getfield idx, 3)) (hr : ((9, ki) : jR) ∈ jL E) (hlink : Cond.fieldLink M.1.cls idx "DropQueuesModel" "spot" "I" ∈ jAll) (k : JR E D M (pc + 3) lv (.int (S.1 (14, ki)) :: st) S r S') : JR E D M pc lv (.ref (E.1 (9, ki)) :: st) S r S' :=
  j_get (rr := (9, ki)) (ci := 8) (kf := 7) (N := 20) (Cn := RX8) (T := TX8) hd hr rfl rfl (by decide) inX8 hlink rfl k
theorem jp_14 {ki idx : Nat} {x : Int32} (hd : decode M.2.1 pc = .ok (.putfield idx, 3)) (hr : ((9, ki) : jR) ∈ jL E) (hlink : Cond.fieldLink M.1.cls idx "DropQueuesModel" "spot" "I" ∈ jAll) (hS1 : S1 = jset S (14, ki) x) (k : JR E D M (pc + 3) lv st S1 r S') : JR E D M pc lv (.int x :: .ref (E.1 (9, ki)) :: st) S r S' := by
  subst hS1
  exact j_putS (a := (14, ki)) (ci := 8) (N := 20) (Cn := RX8) (T := TX8) tyX8 hd (Nat.le_of_ble_eq_true rfl) hr rfl rfl (Nat.le_of_ble_eq_true rfl) inX8 tyX8_ok nmX8 hlink rfl (tyX8_ok 7 (by decide)) (Nat.le_of_ble_eq_true rfl) k
theorem jg_9_8 {ki idx : Nat} (hd : decode M.2.1 pc = .ok (.getfield idx, 3)) (hr : ((9, ki) : jR) ∈ jL E) (hlink : Cond.fieldLink M.1.cls idx "DropQueuesModel" "told" "[I" ∈ jAll) (k : JR E D M (pc + 3) lv (.ref (E.1 (55, 0)) :: st) S r S') : JR E D M pc lv (.ref (E.1 (9, ki)) :: st) S r S' :=
  j_get (rr := (9, ki)) (ci := 8) (kf := 8) (N := 20) (Cn := RX8) (T := TX8) hd hr rfl rfl (by decide) inX8 hlink rfl k
theorem jg_9_9 {ki idx : Nat} (hd : decode M.2.1 pc = .ok (.getfield idx, 3)) (hr : ((9, ki) : jR) ∈ jL E) (hlink : Cond.fieldLink M.1.cls idx "DropQueuesModel" "hops" "[I" ∈ jAll) (k : JR E D M (pc + 3) lv (.ref (E.1 (56, 0)) :: st) S r S') : JR E D M pc lv (.ref (E.1 (9, ki)) :: st) S r S' :=
  j_get (rr := (9, ki)) (ci := 8) (kf := 9) (N := 20) (Cn := RX8) (T := TX8) hd hr rfl rfl (by decide) inX8 hlink rfl k
theorem jg_9_10 {ki idx : Nat} (hd : decode M.2.1 pc = .ok (.getfield idx, 3)) (hr : ((9, ki) : jR) ∈ jL E) (hlink : Cond.fieldLink M.1.cls idx "DropQueuesModel" "choice" "[I" ∈ jAll) (k : JR E D M (pc + 3) lv (.ref (E.1 (57, 0)) :: st) S r S') : JR E D M pc lv (.ref (E.1 (9, ki)) :: st) S r S' :=
  j_get (rr := (9, ki)) (ci := 8) (kf := 10) (N := 20) (Cn := RX8) (T := TX8) hd hr rfl rfl (by decide) inX8 hlink rfl k
theorem jg_9_11 {ki idx : Nat} (hd : decode M.2.1 pc = .ok (.getfield idx, 3)) (hr : ((9, ki) : jR) ∈ jL E) (hlink : Cond.fieldLink M.1.cls idx "DropQueuesModel" "weight" "[I" ∈ jAll) (k : JR E D M (pc + 3) lv (.ref (E.1 (58, 0)) :: st) S r S') : JR E D M pc lv (.ref (E.1 (9, ki)) :: st) S r S' :=
  j_get (rr := (9, ki)) (ci := 8) (kf := 11) (N := 20) (Cn := RX8) (T := TX8) hd hr rfl rfl (by decide) inX8 hlink rfl k
theorem jg_9_12 {ki idx : Nat} (hd : decode M.2.1 pc = .ok (.getfield idx, 3)) (hr : ((9, ki) : jR) ∈ jL E) (hlink : Cond.fieldLink M.1.cls idx "DropQueuesModel" "together" "[I" ∈ jAll) (k : JR E D M (pc + 3) lv (.ref (E.1 (59, 0)) :: st) S r S') : JR E D M pc lv (.ref (E.1 (9, ki)) :: st) S r S' :=
  j_get (rr := (9, ki)) (ci := 8) (kf := 12) (N := 20) (Cn := RX8) (T := TX8) hd hr rfl rfl (by decide) inX8 hlink rfl k
theorem jg_9_13 {ki idx : Nat} (hd : decode M.2.1 pc = .ok (.getfield idx, 3)) (hr : ((9, ki) : jR) ∈ jL E) (hlink : Cond.fieldLink M.1.cls idx "DropQueuesModel" "isFree" "[Z" ∈ jAll) (k : JR E D M (pc + 3) lv (.ref (E.1 (60, 0)) :: st) S r S') : JR E D M pc lv (.ref (E.1 (9, ki)) :: st) S r S' :=
  j_get (rr := (9, ki)) (ci := 8) (kf := 13) (N := 20) (Cn := RX8) (T := TX8) hd hr rfl rfl (by decide) inX8 hlink rfl k
theorem jg_9_14 {ki idx : Nat} (hd : decode M.2.1 pc = .ok (.getfield idx, 3)) (hr : ((9, ki) : jR) ∈ jL E) (hlink : Cond.fieldLink M.1.cls idx "DropQueuesModel" "going" "I" ∈ jAll) (k : JR E D M (pc + 3) lv (.int (S.1 (15, ki)) :: st) S r S') : JR E D M pc lv (.ref (E.1 (9, ki)) :: st) S r S' :=
  j_get (rr := (9, ki)) (ci := 8) (kf := 14) (N := 20) (Cn := RX8) (T := TX8) hd hr rfl rfl (by decide) inX8 hlink rfl k
theorem jp_15 {ki idx : Nat} {x : Int32} (hd : decode M.2.1 pc = .ok (.putfield idx, 3)) (hr : ((9, ki) : jR) ∈ jL E) (hlink : Cond.fieldLink M.1.cls idx "DropQueuesModel" "going" "I" ∈ jAll) (hS1 : S1 = jset S (15, ki) x) (k : JR E D M (pc + 3) lv st S1 r S') : JR E D M pc lv (.int x :: .ref (E.1 (9, ki)) :: st) S r S' := by
  subst hS1
  exact j_putS (a := (15, ki)) (ci := 8) (N := 20) (Cn := RX8) (T := TX8) tyX8 hd (Nat.le_of_ble_eq_true rfl) hr rfl rfl (Nat.le_of_ble_eq_true rfl) inX8 tyX8_ok nmX8 hlink rfl (tyX8_ok 14 (by decide)) (Nat.le_of_ble_eq_true rfl) k
theorem jg_9_15 {ki idx : Nat} (hd : decode M.2.1 pc = .ok (.getfield idx, 3)) (hr : ((9, ki) : jR) ∈ jL E) (hlink : Cond.fieldLink M.1.cls idx "DropQueuesModel" "goingWeight" "I" ∈ jAll) (k : JR E D M (pc + 3) lv (.int (S.1 (16, ki)) :: st) S r S') : JR E D M pc lv (.ref (E.1 (9, ki)) :: st) S r S' :=
  j_get (rr := (9, ki)) (ci := 8) (kf := 15) (N := 20) (Cn := RX8) (T := TX8) hd hr rfl rfl (by decide) inX8 hlink rfl k
theorem jp_16 {ki idx : Nat} {x : Int32} (hd : decode M.2.1 pc = .ok (.putfield idx, 3)) (hr : ((9, ki) : jR) ∈ jL E) (hlink : Cond.fieldLink M.1.cls idx "DropQueuesModel" "goingWeight" "I" ∈ jAll) (hS1 : S1 = jset S (16, ki) x) (k : JR E D M (pc + 3) lv st S1 r S') : JR E D M pc lv (.int x :: .ref (E.1 (9, ki)) :: st) S r S' := by
  subst hS1
  exact j_putS (a := (16, ki)) (ci := 8) (N := 20) (Cn := RX8) (T := TX8) tyX8 hd (Nat.le_of_ble_eq_true rfl) hr rfl rfl (Nat.le_of_ble_eq_true rfl) inX8 tyX8_ok nmX8 hlink rfl (tyX8_ok 15 (by decide)) (Nat.le_of_ble_eq_true rfl) k
theorem jg_9_16 {ki idx : Nat} (hd : decode M.2.1 pc = .ok (.getfield idx, 3)) (hr : ((9, ki) : jR) ∈ jL E) (hlink : Cond.fieldLink M.1.cls idx "DropQueuesModel" "wayTo" "[I" ∈ jAll) (k : JR E D M (pc + 3) lv (.ref (E.1 (61, 0)) :: st) S r S') : JR E D M pc lv (.ref (E.1 (9, ki)) :: st) S r S' :=
  j_get (rr := (9, ki)) (ci := 8) (kf := 16) (N := 20) (Cn := RX8) (T := TX8) hd hr rfl rfl (by decide) inX8 hlink rfl k
theorem jg_9_17 {ki idx : Nat} (hd : decode M.2.1 pc = .ok (.getfield idx, 3)) (hr : ((9, ki) : jR) ∈ jL E) (hlink : Cond.fieldLink M.1.cls idx "DropQueuesModel" "wayGoal" "[I" ∈ jAll) (k : JR E D M (pc + 3) lv (.ref (E.1 (62, 0)) :: st) S r S') : JR E D M pc lv (.ref (E.1 (9, ki)) :: st) S r S' :=
  j_get (rr := (9, ki)) (ci := 8) (kf := 17) (N := 20) (Cn := RX8) (T := TX8) hd hr rfl rfl (by decide) inX8 hlink rfl k
theorem jg_9_18 {ki idx : Nat} (hd : decode M.2.1 pc = .ok (.getfield idx, 3)) (hr : ((9, ki) : jR) ∈ jL E) (hlink : Cond.fieldLink M.1.cls idx "DropQueuesModel" "wayBorn" "[I" ∈ jAll) (k : JR E D M (pc + 3) lv (.ref (E.1 (63, 0)) :: st) S r S') : JR E D M pc lv (.ref (E.1 (9, ki)) :: st) S r S' :=
  j_get (rr := (9, ki)) (ci := 8) (kf := 18) (N := 20) (Cn := RX8) (T := TX8) hd hr rfl rfl (by decide) inX8 hlink rfl k
theorem jg_9_19 {ki idx : Nat} (hd : decode M.2.1 pc = .ok (.getfield idx, 3)) (hr : ((9, ki) : jR) ∈ jL E) (hlink : Cond.fieldLink M.1.cls idx "DropQueuesModel" "feeds" "[I" ∈ jAll) (k : JR E D M (pc + 3) lv (.ref (E.1 (64, 0)) :: st) S r S') : JR E D M pc lv (.ref (E.1 (9, ki)) :: st) S r S' :=
  j_get (rr := (9, ki)) (ci := 8) (kf := 19) (N := 20) (Cn := RX8) (T := TX8) hd hr rfl rfl (by decide) inX8 hlink rfl k
end JR2
theorem jci_m1 : Int32.ofInt (-1) = (-1 : Int32) := by decide
theorem jci_0 : Int32.ofInt (0) = (0 : Int32) := by decide
theorem jci_1 : Int32.ofInt (1) = (1 : Int32) := by decide
theorem jci_2 : Int32.ofInt (2) = (2 : Int32) := by decide
theorem jci_3 : Int32.ofInt (3) = (3 : Int32) := by decide
theorem jci_4 : Int32.ofInt (4) = (4 : Int32) := by decide
theorem jci_5 : Int32.ofInt (5) = (5 : Int32) := by decide
theorem jcb_m4 : (Int8.ofInt (-4)).toInt32 = (-4 : Int32) := by decide
theorem jcb_m3 : (Int8.ofInt (-3)).toInt32 = (-3 : Int32) := by decide
theorem jcb_m2 : (Int8.ofInt (-2)).toInt32 = (-2 : Int32) := by decide
theorem jcb_6 : (Int8.ofInt (6)).toInt32 = (6 : Int32) := by decide
theorem jcb_8 : (Int8.ofInt (8)).toInt32 = (8 : Int32) := by decide
theorem jcb_9 : (Int8.ofInt (9)).toInt32 = (9 : Int32) := by decide
theorem jcb_10 : (Int8.ofInt (10)).toInt32 = (10 : Int32) := by decide
theorem jcb_16 : (Int8.ofInt (16)).toInt32 = (16 : Int32) := by decide
theorem jcb_18 : (Int8.ofInt (18)).toInt32 = (18 : Int32) := by decide
theorem jcb_20 : (Int8.ofInt (20)).toInt32 = (20 : Int32) := by decide
theorem jcb_31 : (Int8.ofInt (31)).toInt32 = (31 : Int32) := by decide
theorem jcb_32 : (Int8.ofInt (32)).toInt32 = (32 : Int32) := by decide
theorem jcb_36 : (Int8.ofInt (36)).toInt32 = (36 : Int32) := by decide
theorem jcb_40 : (Int8.ofInt (40)).toInt32 = (40 : Int32) := by decide
theorem jcb_41 : (Int8.ofInt (41)).toInt32 = (41 : Int32) := by decide
theorem jcb_44 : (Int8.ofInt (44)).toInt32 = (44 : Int32) := by decide
theorem jcb_46 : (Int8.ofInt (46)).toInt32 = (46 : Int32) := by decide
theorem jcb_47 : (Int8.ofInt (47)).toInt32 = (47 : Int32) := by decide
theorem jcb_48 : (Int8.ofInt (48)).toInt32 = (48 : Int32) := by decide
theorem jcb_56 : (Int8.ofInt (56)).toInt32 = (56 : Int32) := by decide
theorem jcb_57 : (Int8.ofInt (57)).toInt32 = (57 : Int32) := by decide
theorem jcb_59 : (Int8.ofInt (59)).toInt32 = (59 : Int32) := by decide
theorem jcb_60 : (Int8.ofInt (60)).toInt32 = (60 : Int32) := by decide
theorem jcb_63 : (Int8.ofInt (63)).toInt32 = (63 : Int32) := by decide
theorem jcb_64 : (Int8.ofInt (64)).toInt32 = (64 : Int32) := by decide
theorem jcb_65 : (Int8.ofInt (65)).toInt32 = (65 : Int32) := by decide
theorem jcb_66 : (Int8.ofInt (66)).toInt32 = (66 : Int32) := by decide
theorem jcb_67 : (Int8.ofInt (67)).toInt32 = (67 : Int32) := by decide
theorem jcb_68 : (Int8.ofInt (68)).toInt32 = (68 : Int32) := by decide
theorem jcb_69 : (Int8.ofInt (69)).toInt32 = (69 : Int32) := by decide
theorem jcb_70 : (Int8.ofInt (70)).toInt32 = (70 : Int32) := by decide
theorem jcb_73 : (Int8.ofInt (73)).toInt32 = (73 : Int32) := by decide
theorem jcb_76 : (Int8.ofInt (76)).toInt32 = (76 : Int32) := by decide
theorem jcb_77 : (Int8.ofInt (77)).toInt32 = (77 : Int32) := by decide
theorem jcb_90 : (Int8.ofInt (90)).toInt32 = (90 : Int32) := by decide
theorem jcb_110 : (Int8.ofInt (110)).toInt32 = (110 : Int32) := by decide
theorem jcb_126 : (Int8.ofInt (126)).toInt32 = (126 : Int32) := by decide
theorem jcs_200 : (Int16.ofInt (200)).toInt32 = (200 : Int32) := by decide
theorem jcs_255 : (Int16.ofInt (255)).toInt32 = (255 : Int32) := by decide
theorem jcs_720 : (Int16.ofInt (720)).toInt32 = (720 : Int32) := by decide
theorem jcs_815 : (Int16.ofInt (815)).toInt32 = (815 : Int32) := by decide
theorem jcs_1000 : (Int16.ofInt (1000)).toInt32 = (1000 : Int32) := by decide
theorem jcs_1024 : (Int16.ofInt (1024)).toInt32 = (1024 : Int32) := by decide
theorem jcs_2445 : (Int16.ofInt (2445)).toInt32 = (2445 : Int32) := by decide
theorem jcs_3260 : (Int16.ofInt (3260)).toInt32 = (3260 : Int32) := by decide
theorem jcs_9999 : (Int16.ofInt (9999)).toInt32 = (9999 : Int32) := by decide
