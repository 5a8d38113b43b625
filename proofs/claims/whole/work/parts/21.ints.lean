/-! ===== ints as small numbers, bits ===== -/
theorem nb_and (a b : Nat) : nI a &&& nI b = nI (a &&& b) := by
  apply Int32.toBitVec_inj.1
  show BitVec.ofNat 32 a &&& BitVec.ofNat 32 b = BitVec.ofNat 32 (a &&& b)
  apply BitVec.eq_of_getLsbD_eq
  intro i hi
  simp [hi]
theorem nb_or (a b : Nat) : nI a ||| nI b = nI (a ||| b) := by
  apply Int32.toBitVec_inj.1
  show BitVec.ofNat 32 a ||| BitVec.ofNat 32 b = BitVec.ofNat 32 (a ||| b)
  apply BitVec.eq_of_getLsbD_eq
  intro i hi
  simp [hi]
theorem nb_xor (a b : Nat) : nI a ^^^ nI b = nI (a ^^^ b) := by
  apply Int32.toBitVec_inj.1
  show BitVec.ofNat 32 a ^^^ BitVec.ofNat 32 b = BitVec.ofNat 32 (a ^^^ b)
  apply BitVec.eq_of_getLsbD_eq
  intro i hi
  simp [hi]
def nbt (x : Int32) (i : Nat) : Bool := x.toBitVec.getLsbD i
theorem nb_m1 : ∀ i, i < 32 → nbt (-1) i = true := by decide +kernel
/-- a without b -/
def gD (a b : Nat) : Nat := (a ||| b) ^^^ b
theorem gD_bit (a b i : Nat) : (gD a b).testBit i = (a.testBit i && !b.testBit i) := by
  unfold gD
  rw [Nat.testBit_xor, Nat.testBit_or]
  cases a.testBit i <;> cases b.testBit i <;> rfl
theorem nb_not (a b : Nat) : nI a &&& (nI b ^^^ (-1 : Int32)) = nI (gD a b) := by
  unfold gD
  rw [← nb_xor, ← nb_or]
  apply Int32.toBitVec_inj.1
  apply BitVec.eq_of_getLsbD_eq
  intro i hi
  have hm : (-1 : Int32).toBitVec.getLsbD i = true := nb_m1 i hi
  rw [Int32.toBitVec_and, Int32.toBitVec_xor, Int32.toBitVec_xor, Int32.toBitVec_or, BitVec.getLsbD_and, BitVec.getLsbD_xor, BitVec.getLsbD_xor, BitVec.getLsbD_or, hm]
  cases (nI a).toBitVec.getLsbD i <;> cases (nI b).toBitVec.getLsbD i <;> rfl
theorem gD_lt {a b : Nat} (h : a < 1024) : gD a b < 1024 := by
  apply Nat.lt_pow_two_of_testBit (n := 10)
  intro i hi
  rw [gD_bit, Nat.testBit_lt_two_pow (Nat.lt_of_lt_of_le h (show 2 ^ 10 ≤ 2 ^ i from Nat.pow_le_pow_right (by omega) hi))]
  rfl
theorem nb_pow : ∀ l, l < 31 → (1 : Int32) <<< (nI l &&& 31) = nI (2 ^ l) := by decide +kernel
theorem nb_sl : ∀ n, n < 32 → ((nI n &&& 31).toBitVec.smod 32).toNat = n := by decide +kernel
theorem nb_bit {s l : Nat} (hs : s < 2 ^ 31) (hl : l < 32) : (nI s >>> (nI l &&& 31)) &&& (1 : Int32) = nI (if s.testBit l then 1 else 0) := by
  rw [pk_shrN hs _ l (nb_sl l hl), pk_andN (n := s / 2 ^ l) (Nat.lt_of_le_of_lt (Nat.div_le_self _ _) (by omega)) 1 (by decide)]
  congr 1
  rw [Nat.testBit_eq_decide_div_mod_eq]
  rcases Nat.mod_two_eq_zero_or_one (s / 2 ^ l) with h | h <;> simp [h]
theorem nb_bit1 {s l : Nat} (hs : s < 2 ^ 31) (hl : l < 32) : ((nI s >>> (nI l &&& 31)) &&& (1 : Int32) = 1) ↔ s.testBit l = true := by
  rw [nb_bit hs hl]
  cases s.testBit l <;> decide
theorem nb_sub0 {a b : Nat} (ha : a < 2 ^ 30) (hb : b < 2 ^ 30) : (nI a - nI b < 0) ↔ a < b := by
  rw [Int32.lt_iff_toInt_lt, pk_sub_toInt ha hb]
  have h0 : (0 : Int32).toInt = 0 := by decide
  omega
theorem nb_sube {a b : Nat} (ha : a < 2 ^ 30) (hb : b < 2 ^ 30) : (nI a - nI b = 0) ↔ a = b := by
  rw [← Int32.toInt_inj, pk_sub_toInt ha hb]
  have h0 : (0 : Int32).toInt = 0 := by decide
  omega
theorem jIn_nI {a n : Nat} (ha : a < 2 ^ 31) : jIn (nI a) n ↔ a < n := by
  show ¬ (nI a < 0 ∨ n ≤ (nI a).toNatClampNeg) ↔ a < n
  rw [nI_clamp ha]
  constructor
  · intro h
    exact Nat.lt_of_not_le (fun q => h (Or.inr q))
  · rintro h (q | q)
    · exact nI_pos ha q
    · omega
theorem jIn_lit {a n : Nat} (ha : a < 2 ^ 31) (h : a < n) : jIn (nI a) n := (jIn_nI ha).mpr h
theorem jup_same {α : Type} (f : jR → α) (a : jR) : jup f a (f a) = f := by
  funext b
  by_cases h : b = a
  · subst h; simp [jup]
  · simp [jup, h]
theorem jup_jup {α : Type} (f : jR → α) (a : jR) (u v : α) : jup (jup f a u) a v = jup f a v := by
  funext b
  by_cases h : b = a <;> simp [jup, h]
theorem jup_comm {α : Type} (f : jR → α) {a b : jR} (h : a ≠ b) (u v : α) : jup (jup f a u) b v = jup (jup f b v) a u := by
  funext c
  by_cases h1 : c = a
  · subst h1; simp [jup, h]
  · by_cases h2 : c = b
    · subst h2; simp [jup, h1]
    · simp [jup, h1, h2]
theorem jset_same {S : jS} {a : jR} {v : Int32} (h : S.1 a = v) : jset S a v = S := by
  subst h
  show (jup S.1 a (S.1 a), S.2) = S
  rw [jup_same]
theorem upd_same {f : Nat → Int32} {k : Nat} {v : Int32} (h : f k = v) : upd f k v = f := by
  funext j
  unfold upd
  split
  · next e => rw [e]; exact h.symm
  · rfl
/-! ===== bitCount ===== -/
def jdum : jS := (fun _ => 0, fun _ _ => 0)
def gbc (x : Int32) : Int32 := ((fJ6_bitCount_0f7a4 jdum x).getD (0, jdum)).1
theorem gbc_eq (S : jS) (x : Int32) : fJ6_bitCount_0f7a4 S x = some (gbc x, S) := rfl
theorem gbc_10 : ∀ s, s < 1024 → gbc (nI s) = nI (gC s) := by decide +kernel
theorem sJ6 (S : jS) {s : Nat} (hs : s < 1024) : fJ6_bitCount_0f7a4 S (nI s) = some (nI (gC s), S) := by rw [gbc_eq, gbc_10 s hs]
