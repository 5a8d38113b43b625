/-! ===== sums; one slot and many ===== -/
theorem li_p0 (x : Int32) : (0 : Int32) + x = x := Int32.zero_add x
def aTh (h : Nat → Int32) : Int32 := h 67 + h 68 + h 69
def aPk (qs : Nat → List Int32) : Nat → Int32
  | 0 => 0
  | q + 1 => aPk qs q + nI (qs q).length
def aSq (qs : Nat → List Int32) : Nat → Int32
  | 0 => 0
  | q + 1 => aSq qs q + nI (qs q).length * nI (qs q).length
def aPf (qs : Nat → List Int32) (g : Nat) : Nat → Int32
  | 0 => 0
  | i + 1 => aPf qs g i + nI (qs (3 * i + g)).length
theorem sX4_thereInAll {k : Nat} {S : jS} {h : Nat → Int32} {qs : Nat → List Int32} (Q : QC k S h qs) : fX4_thereInAll k S = some (aTh h, S) := by
  have e0 := (Q.1.2.2 0 (by omega)).1
  have e1 := (Q.1.2.2 1 (by omega)).1
  have e2 := (Q.1.2.2 2 (by omega)).1
  have c2 : (2 : Int32).toNatClampNeg = 2 := by decide
  show bX4_thereInAll_4 k (bX4_thereInAll_4 k (bX4_thereInAll_4 k (bX4_thereInAll_4 k (fX4_thereInAll_4 k 4996)))) S 0 0 = _
  unfold bX4_thereInAll_4
  rw [if_neg (by decide), if_pos (by decide), jlet_eq, jlet_eq, if_neg (by decide), if_pos (by decide), jlet_eq, jlet_eq, if_neg (by decide), if_pos (by decide), jlet_eq, jlet_eq, if_pos (by decide), cl0, e0, li_p0, li_p0, cl1, e1, show (1 : Int32) + 1 = 2 from rfl, c2, e2]
  rfl
theorem sX8_thereAll {S : jS} {h : Nat → Int32} {qs : Nat → List Int32} (M : WM (S.2 (50, 0)) h qs) : fX8_thereAll S = some (aTh h, S) := by
  unfold fX8_thereAll
  rw [if_pos (by decide), if_pos (by decide), if_pos (by decide), show (67 : Int32).toNatClampNeg = 67 by decide, show (68 : Int32).toNatClampNeg = 68 by decide, show (69 : Int32).toNatClampNeg = 69 by decide, M.1 67 (by omega), M.1 68 (by omega), M.1 69 (by omega)]
  rfl
theorem sX4_packets_4 {k : Nat} {S : jS} {h : Nat → Int32} {qs : Nat → List Int32} (Q : QC k S h qs) : ∀ (d fu q : Nat), q + d = 18 → d < fu → fX4_packets_4 k fu S (aPk qs q) (nI q) = some (aPk qs 18, S) := by
  intro d
  induction d with
  | zero =>
    intro fu q hd hf
    obtain ⟨fu, rfl⟩ : ∃ m, fu = m + 1 := ⟨fu - 1, by omega⟩
    obtain rfl : q = 18 := by omega
    show bX4_packets_4 k (fX4_packets_4 k fu) S _ _ = _
    unfold bX4_packets_4
    rw [if_pos ((le18 (by omega)).mpr (by omega))]
  | succ d ih =>
    intro fu q hd hf
    obtain ⟨fu, rfl⟩ : ∃ m, fu = m + 1 := ⟨fu - 1, by omega⟩
    show bX4_packets_4 k (fX4_packets_4 k fu) S _ _ = _
    unfold bX4_packets_4
    rw [if_neg (fun z => by have := (le18 (by omega)).mp z; omega), if_pos (jIn_lit (by omega) (by omega)), jlet_eq, jlet_eq, nI_clamp (by omega), (Q.2 q (by omega)).1, nI_1]
    exact ih fu (q + 1) (by omega) (by omega)
theorem sX4_packets {k : Nat} {S : jS} {h : Nat → Int32} {qs : Nat → List Int32} (Q : QC k S h qs) : fX4_packets k S = some (aPk qs 18, S) := sX4_packets_4 Q 18 5000 0 (by omega) (by omega)
theorem sX8_packets_4 {S : jS} {h : Nat → Int32} {qs : Nat → List Int32} (M : WM (S.2 (50, 0)) h qs) : ∀ (d fu q : Nat), q + d = 18 → d < fu → fX8_packets_4 fu S (aPk qs q) (nI q) = some (aPk qs 18, S) := by
  intro d
  induction d with
  | zero =>
    intro fu q hd hf
    obtain ⟨fu, rfl⟩ : ∃ m, fu = m + 1 := ⟨fu - 1, by omega⟩
    obtain rfl : q = 18 := by omega
    show bX8_packets_4 (fX8_packets_4 fu) S _ _ = _
    unfold bX8_packets_4
    rw [if_pos ((le18 (by omega)).mpr (by omega))]
  | succ d ih =>
    intro fu q hd hf
    obtain ⟨fu, rfl⟩ : ∃ m, fu = m + 1 := ⟨fu - 1, by omega⟩
    show bX8_packets_4 (fX8_packets_4 fu) S _ _ = _
    unfold bX8_packets_4
    rw [if_neg (fun z => by have := (le18 (by omega)).mp z; omega), li_41m, li_77, if_pos (jIn_lit (by omega) (by omega)), jlet_eq, jlet_eq, nI_clamp (by omega), (M.2 q (by omega)).1, nI_1]
    exact ih fu (q + 1) (by omega) (by omega)
theorem sX8_packets {S : jS} {h : Nat → Int32} {qs : Nat → List Int32} (M : WM (S.2 (50, 0)) h qs) : fX8_packets S = some (aPk qs 18, S) := sX8_packets_4 M 18 5000 0 (by omega) (by omega)
theorem sX4_squares_4 {k : Nat} {S : jS} {h : Nat → Int32} {qs : Nat → List Int32} (Q : QC k S h qs) : ∀ (d fu q : Nat), q + d = 18 → d < fu → fX4_squares_4 k fu S (aSq qs q) (nI q) = some (aSq qs 18, S) := by
  intro d
  induction d with
  | zero =>
    intro fu q hd hf
    obtain ⟨fu, rfl⟩ : ∃ m, fu = m + 1 := ⟨fu - 1, by omega⟩
    obtain rfl : q = 18 := by omega
    show bX4_squares_4 k (fX4_squares_4 k fu) S _ _ = _
    unfold bX4_squares_4
    rw [if_pos ((le18 (by omega)).mpr (by omega))]
  | succ d ih =>
    intro fu q hd hf
    obtain ⟨fu, rfl⟩ : ∃ m, fu = m + 1 := ⟨fu - 1, by omega⟩
    show bX4_squares_4 k (fX4_squares_4 k fu) S _ _ = _
    unfold bX4_squares_4
    rw [if_neg (fun z => by have := (le18 (by omega)).mp z; omega), if_pos (jIn_lit (by omega) (by omega)), if_pos (jIn_lit (by omega) (by omega)), jlet_eq, jlet_eq, nI_clamp (by omega), (Q.2 q (by omega)).1, nI_1]
    exact ih fu (q + 1) (by omega) (by omega)
theorem sX4_squares {k : Nat} {S : jS} {h : Nat → Int32} {qs : Nat → List Int32} (Q : QC k S h qs) : fX4_squares k S = some (aSq qs 18, S) := sX4_squares_4 Q 18 5000 0 (by omega) (by omega)
theorem sX8_squares_4 {S : jS} {h : Nat → Int32} {qs : Nat → List Int32} (M : WM (S.2 (50, 0)) h qs) : ∀ (d fu q : Nat), q + d = 18 → d < fu → fX8_squares_4 fu S (aSq qs q) (nI q) = some (aSq qs 18, S) := by
  intro d
  induction d with
  | zero =>
    intro fu q hd hf
    obtain ⟨fu, rfl⟩ : ∃ m, fu = m + 1 := ⟨fu - 1, by omega⟩
    obtain rfl : q = 18 := by omega
    show bX8_squares_4 (fX8_squares_4 fu) S _ _ = _
    unfold bX8_squares_4
    rw [if_pos ((le18 (by omega)).mpr (by omega))]
  | succ d ih =>
    intro fu q hd hf
    obtain ⟨fu, rfl⟩ : ∃ m, fu = m + 1 := ⟨fu - 1, by omega⟩
    show bX8_squares_4 (fX8_squares_4 fu) S _ _ = _
    unfold bX8_squares_4
    rw [if_neg (fun z => by have := (le18 (by omega)).mp z; omega), li_41m, li_77, if_pos (jIn_lit (by omega) (by omega)), if_pos (jIn_lit (by omega) (by omega)), jlet_eq, jlet_eq, nI_clamp (by omega), (M.2 q (by omega)).1, nI_1]
    exact ih fu (q + 1) (by omega) (by omega)
theorem sX8_squares {S : jS} {h : Nat → Int32} {qs : Nat → List Int32} (M : WM (S.2 (50, 0)) h qs) : fX8_squares S = some (aSq qs 18, S) := sX8_squares_4 M 18 5000 0 (by omega) (by omega)
theorem le6 {i : Nat} (h : i < 2 ^ 31) : (6 : Int32) ≤ nI i ↔ 6 ≤ i := nI_leI (a := 6) (by omega) h
theorem sX4_packetsFor_4 {k : Nat} {S : jS} {h : Nat → Int32} {qs : Nat → List Int32} (Q : QC k S h qs) {g : Nat} (hg : g < 3) : ∀ (d fu i : Nat), i + d = 6 → d < fu → fX4_packetsFor_4 k fu S (nI g) (aPf qs g i) (nI i) = some (aPf qs g 6, S) := by
  intro d
  induction d with
  | zero =>
    intro fu i hd hf
    obtain ⟨fu, rfl⟩ : ∃ m, fu = m + 1 := ⟨fu - 1, by omega⟩
    obtain rfl : i = 6 := by omega
    show bX4_packetsFor_4 k (fX4_packetsFor_4 k fu) S _ _ _ = _
    unfold bX4_packetsFor_4
    rw [if_pos ((le6 (by omega)).mpr (by omega))]
  | succ d ih =>
    intro fu i hd hf
    obtain ⟨fu, rfl⟩ : ∃ m, fu = m + 1 := ⟨fu - 1, by omega⟩
    show bX4_packetsFor_4 k (fX4_packetsFor_4 k fu) S _ _ _ = _
    unfold bX4_packetsFor_4 fX7_spot
    rw [if_neg (fun z => by have := (le6 (by omega)).mp z; omega), Option.bind_some]
    dsimp only
    rw [li_m3, nI_add, if_pos (jIn_lit (by omega) (by omega)), jlet_eq, jlet_eq, nI_clamp (by omega), (Q.2 (3 * i + g) (by omega)).1, nI_1]
    exact ih fu (i + 1) (by omega) (by omega)
theorem sX4_packetsFor {k : Nat} {S : jS} {h : Nat → Int32} {qs : Nat → List Int32} (Q : QC k S h qs) {g : Nat} (hg : g < 3) : fX4_packetsFor k S (nI g) = some (aPf qs g 6, S) := sX4_packetsFor_4 Q hg 6 5000 0 (by omega) (by omega)
theorem sX8_packetsFor_4 {S : jS} {h : Nat → Int32} {qs : Nat → List Int32} (H : HV h) (M : WM (S.2 (50, 0)) h qs) {g : Nat} (hg : g < 3) : ∀ (d fu i : Nat), i + d = hm h → d < fu → fX8_packetsFor_4 fu S (nI g) (aPf qs g i) (nI i) = some (aPf qs g (hm h), S) := by
  have h6 := H.1.2.2
  have n0 : S.2 (50, 0) (0 : Int32).toNatClampNeg = nI (hm h) := by rw [q0, M.1 0 (by omega)]; exact H.1.1
  intro d
  induction d with
  | zero =>
    intro fu i hd hf
    obtain ⟨fu, rfl⟩ : ∃ m, fu = m + 1 := ⟨fu - 1, by omega⟩
    obtain rfl : i = hm h := by omega
    show bX8_packetsFor_4 (fX8_packetsFor_4 fu) S _ _ _ = _
    unfold bX8_packetsFor_4
    rw [if_pos j08, n0, if_pos ((nI_leI (by omega) (by omega)).mpr (Nat.le_refl _))]
  | succ d ih =>
    intro fu i hd hf
    obtain ⟨fu, rfl⟩ : ∃ m, fu = m + 1 := ⟨fu - 1, by omega⟩
    show bX8_packetsFor_4 (fX8_packetsFor_4 fu) S _ _ _ = _
    unfold bX8_packetsFor_4
    rw [if_pos j08, n0, if_neg (fun q => by have := (nI_leI (a := hm h) (b := i) (by omega) (by omega)).mp q; omega), sX8_manyIn M (by omega) hg, Option.bind_some, jlet_eq, jlet_eq, nI_1]
    exact ih fu (i + 1) (by omega) (by omega)
theorem sX8_packetsFor {S : jS} {h : Nat → Int32} {qs : Nat → List Int32} (H : HV h) (M : WM (S.2 (50, 0)) h qs) {g : Nat} (hg : g < 3) : fX8_packetsFor S (nI g) = some (aPf qs g (hm h), S) := sX8_packetsFor_4 H M hg (hm h) 5000 0 (by omega) (by have := H.1.2.2; omega)
theorem aPf_more {qs : Nat → List Int32} {g m : Nat} (h : ∀ i, m ≤ i → i < 6 → qs (3 * i + g) = []) : ∀ d, m + d ≤ 6 → aPf qs g (m + d) = aPf qs g m
  | 0, _ => rfl
  | d + 1, hd => by
    show aPf qs g (m + d) + nI (qs (3 * (m + d) + g)).length = _
    rw [h (m + d) (by omega) (by omega), aPf_more h d (by omega)]
    exact Int32.add_zero _
/-- the world behind a slot -/
noncomputable def aNx (bar : Nat → Bool) (f : Nat → Nat) (A : aW) : aW := Classical.epsilon (fun B : aW => ∃ b, aGo A.1 A.2 (hcl A.1) bar b ∧ B = aSlot A.1 A.2 b f)
theorem aNx_eq {bar : Nat → Bool} {f : Nat → Nat} {A : aW} {b : Nat} (h : aGo A.1 A.2 (hcl A.1) bar b) : aNx bar f A = aSlot A.1 A.2 b f := by
  obtain ⟨b', h1, h2⟩ := Classical.epsilon_spec (p := fun B : aW => ∃ b, aGo A.1 A.2 (hcl A.1) bar b ∧ B = aSlot A.1 A.2 b f) ⟨_, b, h, rfl⟩
  have : b' = b := gB_unique h1 h
  subst this
  exact h2
noncomputable def aIt (bar : Nat → Bool) (fs : Nat → Nat → Nat) (A : aW) : Nat → aW
  | 0 => A
  | n + 1 => aNx bar (fs n) (aIt bar fs A n)
theorem aGo_bar {h : Nat → Int32} {qs : Nat → List Int32} {cl : Nat → Nat} {bar bar' : Nat → Bool} {b : Nat} (e : ∀ l, l < hn h → bar l = bar' l) (g : aGo h qs cl bar b) : aGo h qs cl bar' b := by
  unfold aGo at g ⊢
  rw [← gM_congr (f := fun l => (aCho h qs l).1) (f' := fun l => (aCho h qs l).1) (fun l hl => ⟨rfl, e l hl⟩)]
  exact g
theorem NC_cg {k : Nat} {S : jS} {h h' : Nat → Int32} (H : HV h) (e : ∀ j, j < 66 → h' j = h j) (N : NC k S h) : NC k S h' := by
  have h3 := H.2.1.2.2
  have n10 := H.2.2.1.2
  have eG : hG h' = hG h := congrArg jN (e 1 (by omega))
  have en : hn h' = hn h := congrArg jN (e 5 (by omega))
  obtain ⟨m1, m2, m3, m4⟩ := N
  refine ⟨?_, fun g hg => ?_, fun l hl => ?_, fun q hq => ?_⟩
  · rw [e 0 (by omega), e 1 (by omega), e 5 (by omega), e 64 (by omega), e 65 (by omega)]
    exact m1
  · rw [eG] at hg
    rw [e _ (by omega)]
    exact m2 g hg
  · rw [en] at hl
    rw [e _ (by omega), e _ (by omega), e _ (by omega), e _ (by omega)]
    exact m3 l hl
  · rw [e _ (by omega)]
    exact m4 q hq
theorem gpM_f {k c : Nat} (h : c < 6) (j : Nat) : gpM k (c, j) = false := by
  have a : ∀ x y : Nat, c ≠ x → ((c, j) == ((x, y) : jR)) = false := fun x y hx => beq_eq_false_iff_ne.mpr (fun q => hx (congrArg Prod.fst q))
  simp only [gpM, a 6 k (by omega), a 7 k (by omega), a 10 1 (by omega), a 11 1 (by omega)]
  rfl
theorem gqM_f {k c : Nat} (h1 : 20 ≤ c) (h : c < 30) (j : Nat) : gqM k (c, j) = false := by
  have a : ∀ x y : Nat, c ≠ x → ((c, j) == ((x, y) : jR)) = false := fun x y hx => beq_eq_false_iff_ne.mpr (fun q => hx (congrArg Prod.fst q))
  simp only [gqM, gq40, gqT_false h1 h, a 40 1 (by omega), a 41 1 (by omega)]
  rfl
/-- what a slot keeps -/
theorem aNx_AV {T : Nat} {bar : Nat → Bool} {f : Nat → Nat} {A : aW} {b : Nat} (hT : T + 1 < 2 ^ 31) (V : AV T A) (hb : aGo A.1 A.2 (hcl A.1) bar b) (hf : ∀ i g, i < 6 → g < 3 → ¬ hq A.1 i g → f (3 * i + g) = 0) : AV (T + 1) (aNx bar f A) ∧ ∀ j, j < 66 → (aNx bar f A).1 j = A.1 j := by
  rw [aNx_eq hb]
  exact aSlot_AV hT V (aGo_cg V.1 hb).1 hf
/-- the class does a slot -/
theorem c_step {k bar T : Nat} {a : jR} {f : Nat → Nat} {A : aW} {S : jS} (hT : T + 1 < 2 ^ 31) (V : AV T A) (hW : WC k S A.1 A.2) (ha : jlen a.1 = 18) (ha2 : gqM k a = false) (hf : ∀ q, q < 18 → f q < 100) (hz : ∀ i g, i < 6 → g < 3 → ¬ hq A.1 i g → f (3 * i + g) = 0) (ef : ∀ i g, i < hm A.1 → g < hG A.1 → S.2 a (3 * i + g) = nI (f (3 * i + g))) : ∃ S', fX1_move k a S (nI bar) = some S' ∧ WC k S' (aNx (fun l => bar.testBit l) f A).1 (aNx (fun l => bar.testBit l) f A).2 ∧ jFr (gpM k) (gqM k) S S' ∧ AV (T + 1) (aNx (fun l => bar.testBit l) f A) ∧ ∀ j, j < 66 → (aNx (fun l => bar.testBit l) f A).1 j = A.1 j := by
  obtain ⟨H, s, hs, P⟩ := id V
  obtain ⟨b, S', b1, b2, b3, b4⟩ := sX1_move (bar := bar) H P hW ha ha2 hf ef
  obtain ⟨c1, c2⟩ := aNx_AV hT V b1 hz
  refine ⟨S', b2, ⟨NC_cg H c2 (NC.fr b4 (fun c _ h2 => gpM_f h2 k) (fun c h1 h2 => gqM_f h1 (by omega) k) hW.1), ?_, ?_⟩, b4, c1, c2⟩
  · intro q hq
    rw [b4.2 (26, k) (gqM_f (by omega) (by omega) k), hops_congr c2 H]
    exact hW.2.1 q hq
  · rw [aNx_eq b1]
    exact b3
/-- the reference does a slot -/
theorem m_step {but : Int32} {bar : Nat → Bool} {T : Nat} {f : Nat → Nat} {A : aW} {S : jS} (hT : T + 1 < 2 ^ 20) (V : AV T A) (M : WM (S.2 (50, 0)) A.1 A.2) (hbar : ∀ l, l < 10 → bar l = decide (nI l = but)) (hf : ∀ q, q < 18 → f q < 100) (ef : ∀ i g, i < hm A.1 → g < hG A.1 → S.2 (64, 0) (3 * i + g) = nI (f (3 * i + g))) : ∃ S', fX8_goesOn S but = some S' ∧ WM (S'.2 (50, 0)) (aNx bar f A).1 (aNx bar f A).2 ∧ jFr gpG gqG S S' := by
  obtain ⟨H, s, hs, P⟩ := id V
  obtain ⟨b, S', b1, b2, b3, b4⟩ := sX8_goesOn (but := but) H (by omega) P M hf ef
  have n10 := H.2.2.1.2
  refine ⟨S', b2, ?_, b4⟩
  rw [aNx_eq (bar := bar) (aGo_bar (fun l hl => (hbar l (by omega)).symm) b1)]
  exact b3
def cI (k : Nat) (S : jS) (bar : Nat → Bool) (fs : Nat → Nat → Nat) (A : aW) (T i : Nat) : Prop := WC k S (aIt bar fs A i).1 (aIt bar fs A i).2 ∧ AV (T + i) (aIt bar fs A i) ∧ ∀ j, j < 66 → (aIt bar fs A i).1 j = A.1 j
def mI (S : jS) (bar : Nat → Bool) (fs : Nat → Nat → Nat) (A : aW) (T i : Nat) : Prop := WM (S.2 (50, 0)) (aIt bar fs A i).1 (aIt bar fs A i).2 ∧ AV (T + i) (aIt bar fs A i) ∧ ∀ j, j < 66 → (aIt bar fs A i).1 j = A.1 j
theorem cI_step {k bar T i : Nat} {a : jR} {fs : Nat → Nat → Nat} {A : aW} {S : jS} (hT : T + i + 1 < 2 ^ 31) (I : cI k S (fun l => bar.testBit l) fs A T i) (ha : jlen a.1 = 18) (ha2 : gqM k a = false) (hf : ∀ q, q < 18 → fs i q < 100) (hz : ∀ i' g, i' < 6 → g < 3 → ¬ hq A.1 i' g → fs i (3 * i' + g) = 0) (ef : ∀ i' g, i' < hm A.1 → g < hG A.1 → S.2 a (3 * i' + g) = nI (fs i (3 * i' + g))) : ∃ S', fX1_move k a S (nI bar) = some S' ∧ cI k S' (fun l => bar.testBit l) fs A T (i + 1) ∧ jFr (gpM k) (gqM k) S S' := by
  obtain ⟨i1, i2, i3⟩ := I
  obtain ⟨S', b1, b2, b3, b4, b5⟩ := c_step (bar := bar) hT i2 i1 ha ha2 hf (fun i' g h1 h2 h3 => hz i' g h1 h2 (fun q => h3 ((hq_congr i3 h2).mpr q))) (by rw [show hm (aIt (fun l => bar.testBit l) fs A i).1 = hm A.1 from congrArg jN (i3 0 (by omega)), show hG (aIt (fun l => bar.testBit l) fs A i).1 = hG A.1 from congrArg jN (i3 1 (by omega))]; exact ef)
  exact ⟨S', b1, ⟨b2, b4, fun j hj => (b5 j hj).trans (i3 j hj)⟩, b3⟩
theorem mI_step {but : Int32} {bar : Nat → Bool} {T i : Nat} {fs : Nat → Nat → Nat} {A : aW} {S : jS} (hT : T + i + 1 < 2 ^ 20) (I : mI S bar fs A T i) (hbar : ∀ l, l < 10 → bar l = decide (nI l = but)) (hf : ∀ q, q < 18 → fs i q < 100) (hz : ∀ i' g, i' < 6 → g < 3 → ¬ hq A.1 i' g → fs i (3 * i' + g) = 0) (ef : ∀ i' g, i' < hm A.1 → g < hG A.1 → S.2 (64, 0) (3 * i' + g) = nI (fs i (3 * i' + g))) : ∃ S', fX8_goesOn S but = some S' ∧ mI S' bar fs A T (i + 1) ∧ jFr gpG gqG S S' := by
  obtain ⟨i1, i2, i3⟩ := I
  obtain ⟨H, s, hs, P⟩ := id i2
  have n10 := H.2.2.1.2
  obtain ⟨b, S', b1, b2, b3, b4⟩ := sX8_goesOn (but := but) H (by omega) P i1 hf (by rw [show hm (aIt bar fs A i).1 = hm A.1 from congrArg jN (i3 0 (by omega)), show hG (aIt bar fs A i).1 = hG A.1 from congrArg jN (i3 1 (by omega))]; exact ef)
  have b1' : aGo (aIt bar fs A i).1 (aIt bar fs A i).2 (hcl (aIt bar fs A i).1) bar b := aGo_bar (fun l hl => (hbar l (by omega)).symm) b1
  obtain ⟨c1, c2⟩ := aNx_AV (f := fs i) (by omega) i2 b1' (fun i' g h1 h2 h3 => hz i' g h1 h2 (fun q => h3 ((hq_congr i3 h2).mpr q)))
  refine ⟨S', b2, ⟨?_, c1, fun j hj => (c2 j hj).trans (i3 j hj)⟩, b4⟩
  show WM _ (aNx bar (fs i) (aIt bar fs A i)).1 (aNx bar (fs i) (aIt bar fs A i)).2
  rw [aNx_eq b1']
  exact b3
theorem HV.fe {h : Nat → Int32} (H : HV h) {q : Nat} (hq : q < 18) : h (46 + q) = nI (hfe h q) ∧ hfe h q ≤ 9 := by
  have := (H.2.2.2.2.2.2.2.2.2 (q / 3) (q % 3) (by omega) (by omega)).1
  rw [show 3 * (q / 3) + q % 3 = q by omega] at this
  exact this
theorem HV.fz {h : Nat → Int32} (H : HV h) {i g : Nat} (hi : i < 6) (hg : g < 3) (hn : ¬ hq h i g) : hfe h (3 * i + g) = 0 := by
  unfold hfe
  rw [(H.2.2.2.2.2.2.2.2.2 i g hi hg).2 hn]
  rfl
theorem cI_feeds {k T i : Nat} {bar : Nat → Bool} {fs : Nat → Nat → Nat} {A : aW} {S : jS} (H : HV A.1) (I : cI k S bar fs A T i) : ∀ q, q < 18 → S.2 (25, k) q = nI (hfe A.1 q) := fun q hq => by
  rw [I.1.1.2.2.2 q hq, I.2.2 _ (by omega)]
  exact (H.fe hq).1
theorem bq_f {c k x y : Nat} (h : c ≠ x ∨ k ≠ y) : ((c, k) == ((x, y) : jR)) = false := beq_eq_false_iff_ne.mpr (fun q => by
  rcases h with h | h
  · exact h (congrArg Prod.fst q)
  · exact h (congrArg Prod.snd q))
theorem gpM_k {c k : Nat} (hc : c < 8) (hk : k ≠ 0) : gpM 0 (c, k) = false := by
  simp only [gpM, bq_f (x := 6) (Or.inr hk), bq_f (x := 7) (Or.inr hk), bq_f (c := c) (k := k) (x := 10) (y := 1) (Or.inl (by omega)), bq_f (c := c) (k := k) (x := 11) (y := 1) (Or.inl (by omega))]
  rfl
theorem gqM_k {c k : Nat} (h1 : 20 ≤ c) (h2 : c < 36) (hk : k ≠ 0) : gqM 0 (c, k) = false := by
  simp only [gqM, gqT, gq3x, gq40, bq_f (x := 30) (Or.inr hk), bq_f (x := 31) (Or.inr hk), bq_f (x := 32) (Or.inr hk), bq_f (x := 33) (Or.inr hk), bq_f (x := 34) (Or.inr hk), bq_f (x := 35) (Or.inr hk), bq_f (x := 43) (Or.inr hk), bq_f (x := 44) (Or.inr hk), bq_f (c := c) (k := k) (x := 40) (y := 1) (Or.inl (by omega)), bq_f (c := c) (k := k) (x := 41) (y := 1) (Or.inl (by omega))]
  rfl
theorem gpM_C : ∀ r, gpM 0 r = true → gpC r = true := fun r h => by
  simp only [gpM, Bool.or_eq_true, beq_iff_eq] at h
  rcases h with ((rfl | rfl) | rfl) | rfl <;> decide
theorem gqM_C : ∀ r, gqM 0 r = true → gqC r = true := fun r h => by
  simp only [gqM, gqT, gq3x, gq40, Bool.or_eq_true, beq_iff_eq] at h
  rcases h with (((((((rfl | rfl) | rfl) | rfl) | rfl) | rfl) | rfl) | rfl) | (rfl | rfl) <;> decide
/-- the class: another world now, behind keep -/
theorem c_world {S S1 S2 : jS} {kept kept1 n : Nat} {W W1 : Nat → aW} {A A' : aW} {T : Nat → Int32} (C : CS S kept W A n T) (F1 : jFr gpH gqH S S1) (R1 : RC S1 kept1 W1 A) (F2 : jFr (gpM 0) (gqM 0) S1 S2) (w : WC 0 S2 A'.1 A'.2) : CS S2 kept1 W1 A' n T ∧ jFr gpC gqC S S2 := by
  obtain ⟨R, e0, hn, eT⟩ := C
  refine ⟨⟨R1.now (F2.1 _ (by decide)) (F2.1 _ (by decide)) (fun k hk => WSame.fr F2 (fun c hc => gpM_k hc (by omega)) (fun c h1 h2 => gqM_k h1 h2 (by omega))) w, ?_, hn, fun j hj => ?_⟩, (F1.mono gpH_C gqH_C).tr (F2.mono gpM_C gqM_C)⟩
  · exact (F2.1 _ (by decide)).trans ((F1.1 _ (by decide)).trans e0)
  · rw [F2.2 (10, 0) (by decide), F1.2 (10, 0) (by decide)]
    exact eT j hj
theorem gp67_M : ∀ r, gp67 0 r = true → gpM 0 r = true := fun r h => by
  simp only [gp67, Bool.or_eq_true, beq_iff_eq] at h
  rcases h with rfl | rfl <;> decide
theorem gq3x_M : ∀ r, gq3x 0 r = true → gqM 0 r = true := fun r h => by
  simp only [gqM, gqT, h, Bool.true_or]
/-- the reference: another row now, behind keeps -/
def gqN (r : jR) : Bool := r == (50, 0) || decide (54 ≤ r.1)
theorem gqG_N : ∀ r, gqG r = true → gqN r = true := fun r h => by
  simp only [gqG, Bool.or_eq_true, beq_iff_eq] at h
  rcases h with (((((((rfl | rfl) | rfl) | rfl) | rfl) | rfl) | rfl) | rfl) | rfl <;> decide
theorem gqN_D : ∀ r, gqN r = true → gqD r = true := fun r h => by
  simp only [gqN, Bool.or_eq_true, beq_iff_eq, decide_eq_true_eq] at h
  refine decide_eq_true ?_
  rcases h with rfl | h
  · decide
  · omega
theorem gpG_D : ∀ r, gpG r = true → gpD r = true := fun r h => by
  simp only [gpG, Bool.or_eq_true, beq_iff_eq] at h
  rcases h with rfl | rfl <;> decide
theorem m_world {S S1 S2 : jS} {kept kept1 n : Nat} {W W1 : Nat → aW} {A A' : aW} {T : Nat → Int32} (M : MS S kept W A n T) (F1 : jFr gp12 gq52 S S1) (R1 : RM S1 kept1 W1 A) (F2 : jFr gpG gqN S1 S2) (w : WM (S2.2 (50, 0)) A'.1 A'.2) : MS S2 kept1 W1 A' n T ∧ jFr gpD gqD S S2 := by
  obtain ⟨R, e0, hn, eT⟩ := M
  refine ⟨⟨R1.now (F2.1 _ (by decide)) (F2.2 _ (by decide)) w, ?_, hn, fun j hj => ?_⟩, (F1.mono gp12_D gq52_D).tr (F2.mono gpG_D gqN_D)⟩
  · exact (F2.1 _ (by decide)).trans ((F1.1 _ (by decide)).trans e0)
  · rw [F2.2 (53, 0) (by decide), F1.2 (53, 0) (by decide)]
    exact eT j hj
