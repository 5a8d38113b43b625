/-! ===== worst ===== -/
/-- the header without the clash of u and v -/
def cU (h : Nat → Int32) (u v : Nat) : Nat → Int32 := tC h u v (hcl h u ^^^ 2 ^ v) (hcl h v ^^^ 2 ^ u)
theorem cU_hn {h : Nat → Int32} {u v : Nat} : hn (cU h u v) = hn h := congrArg jN (tC_E (by omega) (by omega))
/-- the weight of those that go without it -/
noncomputable def aWo (A : aW) (u v : Nat) : Nat := Classical.epsilon (fun w : Nat => ∃ b, aGo A.1 A.2 (hcl (cU A.1 u v)) (fun l => (0 : Nat).testBit l) b ∧ w = gW (aWn A.1 A.2) b)
theorem aWo_eq {A : aW} {u v b : Nat} (h : aGo A.1 A.2 (hcl (cU A.1 u v)) (fun l => (0 : Nat).testBit l) b) : aWo A u v = gW (aWn A.1 A.2) b := by
  obtain ⟨b', h1, h2⟩ := Classical.epsilon_spec (p := fun w : Nat => ∃ b, aGo A.1 A.2 (hcl (cU A.1 u v)) (fun l => (0 : Nat).testBit l) b ∧ w = gW (aWn A.1 A.2) b) ⟨_, b, h, rfl⟩
  have e : aWo A u v = gW (aWn A.1 A.2) b' := h2
  rw [e, gB_unique h1 h]
/-- what the two loops carry: the weight, and the pair -/
abbrev wT : Type := Nat × Option (Nat × Nat)
noncomputable def wSt (A : aW) (u v : Nat) (s : wT) : wT := if (hcl A.1 u).testBit v = true ∧ s.1 < aWo A u v then (aWo A u v, some (u, v)) else s
noncomputable def wIn (A : aW) (u : Nat) : Nat → Nat → wT → wT
  | 0, _, s => s
  | d + 1, v, s => wIn A u d (v + 1) (wSt A u v s)
noncomputable def wOut (A : aW) : Nat → Nat → wT → wT
  | 0, _, s => s
  | d + 1, u, s => wOut A d (u + 1) (wIn A u d (u + 1) s)
def wOK (s : wT) : Prop := s.1 ≤ 20000 ∧ ∀ p, s.2 = some p → p.1 < 10 ∧ p.2 < 10
theorem wSt_ok {A : aW} {u v : Nat} {s : wT} (hu : u < 10) (hv : v < 10) (hw : aWo A u v ≤ 20000) (h : wOK s) : wOK (wSt A u v s) := by
  unfold wSt
  split
  · exact ⟨hw, fun p hp => by cases hp; exact ⟨hu, hv⟩⟩
  · exact h
def wLo (s : wT) : Int32 := match s.2 with
  | none => -4
  | some p => nI p.1
def wOt (s : wT) : Int32 := match s.2 with
  | none => -4
  | some p => nI p.2
def wFo (s : wT) : Int32 := match s.2 with
  | none => -4
  | some p => nI (16 * p.1 + p.2)
def wAn (j : Nat) (s : wT) : Int32 := match s.2 with
  | none => -4
  | some p => if j = 0 then nI p.1 else if j = 1 then nI p.2 else nI s.1
theorem upd4 {f : Nat → Int32} {u v : Nat} {a b c d : Int32} (hc : c = f u) (hd : d = f v) : upd (upd (upd (upd f u a) v b) u c) v d = f := by
  subst hc
  subst hd
  funext j
  by_cases h1 : j = v
  · subst h1; rw [pk_us]
  · rw [pk_un h1]
    by_cases h2 : j = u
    · subst h2; rw [pk_us]
    · rw [pk_un h2, pk_un h1, pk_un h2]
theorem xor2 (a b : Nat) : a ^^^ b ^^^ b = a := by rw [Nat.xor_assoc, Nat.xor_self, Nat.xor_zero]
/-- in the class -/
def wI (A : aW) (S : jS) : Prop := NC 0 S A.1 ∧ NC 1 S A.1 ∧ ∀ a, a < hn A.1 → S.2 (40, 0) a = (aCho A.1 A.2 a).1 ∧ S.2 (41, 0) a = aWt A.1 A.2 a
theorem wI_put {A : aW} {S : jS} {w : Nat → Nat} {b : Nat} (I : wI A S) : wI A (gPut S 0 w b) := by
  have e : ∀ k, WSame k S (gPut S 0 w b) := fun k => (WSame.set (Or.inl (by decide))).tr (WSame.set (Or.inl (by decide)))
  exact ⟨I.1.same (e 0), I.2.1.same (e 1), I.2.2⟩
theorem c_wo {A : aW} {S : jS} {u v : Nat} (H : HV A.1) (h40 : ∀ q, q < 18 → (A.2 q).length ≤ 40) (I : wI A S) (hu : u < hn A.1) (hv : v < hn A.1) (huv : u ≠ v) : ∃ b, fX7_weightWithout S (nI u) (nI v) = some (nI (aWo A u v), gPut S 0 (aWn A.1 A.2) b) ∧ aWo A u v = gW (aWn A.1 A.2) b := by
  have n10 := H.2.2.1.2
  obtain ⟨I0, I1, I2⟩ := I
  have H' : HV (cU A.1 u v) := HV_clash H hu hv huv
  have eu : S.2 (24, 1) u = nI (hcl A.1 u) := (I1.2.2.1 u hu).2.2.2.trans (H.c.1 u hu)
  have ev : S.2 (24, 1) v = nI (hcl A.1 v) := (I1.2.2.1 v hv).2.2.2.trans (H.c.1 v hv)
  have a1 := sX2_turnClash (k := 1) (S := S) (show u < 10 by omega) (show v < 10 by omega) huv eu ev
  have N1 : NC 1 (jput S (24, 1) (upd (upd (S.2 (24, 1)) u (nI (hcl A.1 u ^^^ 2 ^ v))) v (nI (hcl A.1 v ^^^ 2 ^ u)))) (cU A.1 u v) := NC_clash H I1 hu hv
  generalize hS1 : jput S (24, 1) (upd (upd (S.2 (24, 1)) u (nI (hcl A.1 u ^^^ 2 ^ v))) v (nI (hcl A.1 v ^^^ 2 ^ u))) = S1 at a1 N1
  have r40 : S1.2 (40, 0) = S.2 (40, 0) := by rw [← hS1]; exact jput_o (by decide)
  have r41 : S1.2 (41, 0) = S.2 (41, 0) := by rw [← hS1]; exact jput_o (by decide)
  obtain ⟨b, b1, b2⟩ := sX3_pickW (j := 0) (k := 1) (bar := 0) (cl := hcl (cU A.1 u v)) (S := S1) H h40 (N1.1.2.2.1.trans (tC_E (by omega) (by omega))) (fun a ha => ((N1.2.2.1 a (by rw [cU_hn]; exact ha)).2.2.2).trans (H'.c.1 a (by rw [cU_hn]; exact ha))) H'.c.2.1 H'.c.2.2.1 H'.cl (fun a ha => by rw [r40, r41]; exact I2 a ha)
  have ew := aWo_eq b1
  refine ⟨b, ?_, ew⟩
  have e24 : (gPut S1 0 (aWn A.1 A.2) b).2 (24, 1) = upd (upd (S.2 (24, 1)) u (nI (hcl A.1 u ^^^ 2 ^ v))) v (nI (hcl A.1 v ^^^ 2 ^ u)) := by
    show S1.2 (24, 1) = _
    rw [← hS1]; exact jput_at
  have a3 := sX2_turnClash (k := 1) (S := gPut S1 0 (aWn A.1 A.2) b) (a := hcl A.1 u ^^^ 2 ^ v) (b := hcl A.1 v ^^^ 2 ^ u) (show u < 10 by omega) (show v < 10 by omega) huv (by rw [e24, pk_un huv, pk_us]) (by rw [e24, pk_us])
  rw [e24, xor2, xor2, upd4 eu.symm ev.symm] at a3
  have e9 : jput (gPut S1 0 (aWn A.1 A.2) b) (24, 1) (S.2 (24, 1)) = gPut S 0 (aWn A.1 A.2) b := by
    rw [← hS1]
    show ((gPut S 0 (aWn A.1 A.2) b).1, jup (jup S.2 (24, 1) _) (24, 1) (S.2 (24, 1))) = _
    rw [jup_jup, jup_same]
    rfl
  rw [e9] at a3
  unfold fX7_weightWithout
  rw [a1, Option.bind_some, show (0 : Int32) = nI 0 from rfl, b2, Option.bind_some, a3, Option.bind_some, gPut_w, ew]
theorem sX7_worst_93 {q72 : jS → Int32 → Int32 → Int32 → Int32 → Int32 → Option (Int32 × jS)} {A : aW} {x : Int32} {u : Nat} (H : HV A.1) (h40 : ∀ q, q < 18 → (A.2 q).length ≤ 40) (hu : u < hn A.1) : ∀ (d fu v : Nat) (S : jS) (s : wT), u < v → wOK s → wI A S → v + d = hn A.1 → d < fu → ∃ S', fX7_worst_93 q72 fu S x (nI s.1) (wLo s) (wOt s) (nI u) (nI v) = q72 S' x (nI (wIn A u d v s).1) (wLo (wIn A u d v s)) (wOt (wIn A u d v s)) (nI (u + 1)) ∧ wOK (wIn A u d v s) ∧ wI A S' ∧ jFr gpS gqS S S' := by
  have n10 := H.2.2.1.2
  intro d
  induction d with
  | zero =>
    intro fu v S s huv ho I hd hf
    obtain ⟨fu, rfl⟩ : ∃ m, fu = m + 1 := ⟨fu - 1, by omega⟩
    obtain rfl : v = hn A.1 := by omega
    refine ⟨S, ?_, ho, I, jFr.rf⟩
    show bX7_worst_93 q72 (fX7_worst_93 q72 fu) S _ _ _ _ _ _ = _
    unfold bX7_worst_93
    rw [(I.1.n H).2.2, if_pos ((nI_leI (by omega) (by omega)).mpr (Nat.le_refl _)), jlet_eq, nI_1]
    rfl
  | succ d ih =>
    intro fu v S s huv ho I hd hf
    obtain ⟨fu, rfl⟩ : ∃ m, fu = m + 1 := ⟨fu - 1, by omega⟩
    have hv : v < hn A.1 := by omega
    have eu : S.2 (24, 0) u = nI (hcl A.1 u) := (I.1.2.2.1 u hu).2.2.2.trans (H.c.1 u hu)
    have f1 : fX7_worst_93 q72 (fu + 1) S x (nI s.1) (wLo s) (wOt s) (nI u) (nI v) = (if (if (hcl A.1 u).testBit v then (1 : Int32) else 0) = 0 then bX7_worst_152 q72 (fX7_worst_93 q72 fu) S x (nI s.1) (wLo s) (wOt s) (nI u) (nI v) else (fX7_weightWithout S (nI u) (nI v)).bind fun y16 => (if y16.1 ≤ nI s.1 then bX7_worst_152 q72 (fX7_worst_93 q72 fu) (y16.2) x (nI s.1) (wLo s) (wOt s) (nI u) (nI v) else jlet (y16.2.1 (11, 0)) fun v18 => bX7_worst_152 q72 (fX7_worst_93 q72 fu) (y16.2) x v18 (nI u) (nI v) (nI u) (nI v))) := by
      show bX7_worst_93 q72 (fX7_worst_93 q72 fu) S _ _ _ _ _ _ = _
      unfold bX7_worst_93
      rw [(I.1.n H).2.2, if_neg (fun q => by have := (nI_leI (a := hn A.1) (b := v) (by omega) (by omega)).mp q; omega), sX2_doClash (by omega) (by omega) (Nat.lt_of_lt_of_le (H.cl u) (by omega)) eu, Option.bind_some]
    have g152 : ∀ (S2 : jS) (a b c : Int32), bX7_worst_152 q72 (fX7_worst_93 q72 fu) S2 x a b c (nI u) (nI v) = fX7_worst_93 q72 fu S2 x a b c (nI u) (nI (v + 1)) := by
      intro S2 a b c
      unfold bX7_worst_152
      rw [jlet_eq, nI_1]
    cases hb : (hcl A.1 u).testBit v with
    | false =>
      have es : wSt A u v s = s := by
        unfold wSt
        rw [if_neg (fun q => by rw [hb] at q; exact absurd q.1 (by decide))]
      obtain ⟨S', b1, b2, b3, b4⟩ := ih fu (v + 1) S s (by omega) ho I (by omega) (by omega)
      have ei : wIn A u (d + 1) v s = wIn A u d (v + 1) s := by
        show wIn A u d (v + 1) (wSt A u v s) = _
        rw [es]
      rw [ei]
      refine ⟨S', ?_, b2, b3, b4⟩
      rw [f1, hb, if_pos (by decide), g152]
      exact b1
    | true =>
      obtain ⟨b, c1, c2⟩ := c_wo H h40 I hu hv (by omega)
      have I' := wI_put (w := aWn A.1 A.2) (b := b) I
      have hw : aWo A u v ≤ 20000 := by rw [c2]; exact gW_le (fun l _ => aWn_le H h40 l) b
      have ho' := wSt_ok (show u < 10 by omega) (show v < 10 by omega) hw ho
      obtain ⟨S', b1, b2, b3, b4⟩ := ih fu (v + 1) (gPut S 0 (aWn A.1 A.2) b) (wSt A u v s) (by omega) ho' I' (by omega) (by omega)
      refine ⟨S', ?_, b2, b3, gPut_S.tr b4⟩
      rw [f1, hb, if_neg (by decide), c1, Option.bind_some]
      dsimp only
      rw [gPut_w, ← c2, jlet_eq, g152, g152]
      refine Eq.trans ?_ b1
      have h1 := ho.1
      by_cases c : s.1 < aWo A u v
      · have es : wSt A u v s = (aWo A u v, some (u, v)) := by
          unfold wSt
          rw [if_pos ⟨hb, c⟩]
        rw [if_neg (fun q => by have := (nI_leI (a := aWo A u v) (b := s.1) (by omega) (by omega)).mp q; omega), es]
        rfl
      · have es : wSt A u v s = s := by
          unfold wSt
          rw [if_neg (fun q => c q.2)]
        rw [if_pos ((nI_leI (a := aWo A u v) (b := s.1) (by omega) (by omega)).mpr (by omega)), es]
theorem wEnd7 {j : Nat} {s : wT} (hj : j ≤ 2) (ho : wOK s) {S : jS} : (if wLo s = (-4 : Int32) then some ((-4 : Int32), S) else (if nI j = 0 then some (wLo s, S) else (if nI j = (1 : Int32) then some (wOt s, S) else some (nI s.1, S)))) = some (wAn j s, S) := by
  obtain ⟨w, o⟩ := s
  cases o with
  | none => rfl
  | some p =>
    have hp := ho.2 p rfl
    show (if nI p.1 = (-4 : Int32) then _ else if nI j = 0 then some (nI p.1, S) else if nI j = 1 then some (nI p.2, S) else some (nI w, S)) = some (if j = 0 then nI p.1 else if j = 1 then nI p.2 else nI w, S)
    rw [if_neg (n4_ne (by omega))]
    rcases (show j = 0 ∨ j = 1 ∨ j = 2 by omega) with rfl | rfl | rfl <;> rfl
theorem sX7_worst_72 {A : aW} {j : Nat} (H : HV A.1) (h40 : ∀ q, q < 18 → (A.2 q).length ≤ 40) (hj : j ≤ 2) : ∀ (d fu u : Nat) (S : jS) (s : wT), wOK s → wI A S → u + d = hn A.1 → d < fu → ∃ S', fX7_worst_72 fu S (nI j) (nI s.1) (wLo s) (wOt s) (nI u) = some (wAn j (wOut A d u s), S') ∧ jFr gpS gqS S S' := by
  have n10 := H.2.2.1.2
  intro d
  induction d with
  | zero =>
    intro fu u S s ho I hd hf
    obtain ⟨fu, rfl⟩ : ∃ m, fu = m + 1 := ⟨fu - 1, by omega⟩
    obtain rfl : u = hn A.1 := by omega
    refine ⟨S, ?_, jFr.rf⟩
    show bX7_worst_72 (fX7_worst_72 fu) S _ _ _ _ _ = _
    unfold bX7_worst_72
    rw [(I.1.n H).2.2, if_pos ((nI_leI (by omega) (by omega)).mpr (Nat.le_refl _))]
    exact wEnd7 hj ho
  | succ d ih =>
    intro fu u S s ho I hd hf
    obtain ⟨fu, rfl⟩ : ∃ m, fu = m + 1 := ⟨fu - 1, by omega⟩
    obtain ⟨S1, a1, a2, a3, a4⟩ := sX7_worst_93 (q72 := fX7_worst_72 fu) (x := nI j) (u := u) H h40 (by omega) d 5000 (u + 1) S s (by omega) ho I (by omega) (by omega)
    obtain ⟨S', b1, b2⟩ := ih fu (u + 1) S1 (wIn A u d (u + 1) s) a2 a3 (by omega) (by omega)
    refine ⟨S', ?_, a4.tr b2⟩
    show bX7_worst_72 (fX7_worst_72 fu) S _ _ _ _ _ = _
    unfold bX7_worst_72
    rw [(I.1.n H).2.2, if_neg (fun q => by have := (nI_leI (a := hn A.1) (b := u) (by omega) (by omega)).mp q; omega), jlet_eq, nI_1, a1]
    exact b1
/-- in the reference -/
def wJ (A : aW) (S : jS) : Prop := WM (S.2 (50, 0)) A.1 A.2 ∧ ∀ a, a < hn A.1 → S.2 (57, 0) a = (aCho A.1 A.2 a).1 ∧ S.2 (58, 0) a = aWt A.1 A.2 a
theorem m_wo {A : aW} {S : jS} {u v : Nat} (H : HV A.1) (J : wJ A S) (hu : u < hn A.1) (hv : v < hn A.1) (huv : u ≠ v) (hb : (hcl A.1 u).testBit v = true) : ∃ S1 S2 S3, fX8_clashes (50, 0) S (nI u) (nI v) 0 = some S1 ∧ fX8_findsGoing S1 (-4) = some S2 ∧ fX8_clashes (50, 0) S2 (nI u) (nI v) 1 = some S3 ∧ S3.1 (16, 0) = nI (aWo A u v) ∧ aWo A u v ≤ 20000 ∧ wJ A S3 ∧ jFr gpE gqE S S3 := by
  have n10 := H.2.2.1.2
  obtain ⟨M, J2⟩ := J
  have h40 : ∀ q, q < 18 → (A.2 q).length ≤ 40 := fun q hq => (M.2 q hq).2.1
  have H' : HV (cU A.1 u v) := HV_clash H hu hv huv
  have hb' : (hcl A.1 v).testBit u = true := (H.c.2.1 v u).trans hb
  have mu : S.2 (50, 0) (36 + u) = nI (hcl A.1 u) := (M.1 _ (by omega)).trans (H.c.1 u hu)
  have mv : S.2 (50, 0) (36 + v) = nI (hcl A.1 v) := (M.1 _ (by omega)).trans (H.c.1 v hv)
  have a1 := sX8_clashes (a := (50, 0)) (S := S) (is := 0) rfl (show u < 10 by omega) (show v < 10 by omega) huv (by omega) mu mv
  rw [if_neg (by omega), if_neg (by omega), ← xor_gD hb, ← xor_gD hb'] at a1
  generalize hS1 : jput S (50, 0) (tC (S.2 (50, 0)) u v (hcl A.1 u ^^^ 2 ^ v) (hcl A.1 v ^^^ 2 ^ u)) = S1 at a1
  have e50 : S1.2 (50, 0) = tC (S.2 (50, 0)) u v (hcl A.1 u ^^^ 2 ^ v) (hcl A.1 v ^^^ 2 ^ u) := by rw [← hS1]; exact jput_at
  have M1 : WM (S1.2 (50, 0)) (cU A.1 u v) A.2 := by rw [e50]; exact WM_header (WM_header M (by omega)) (by omega)
  have r57 : S1.2 (57, 0) = S.2 (57, 0) := by rw [← hS1]; exact jput_o (by decide)
  have r58 : S1.2 (58, 0) = S.2 (58, 0) := by rw [← hS1]; exact jput_o (by decide)
  obtain ⟨S2, g, b1, b2, b3, b4, b5⟩ := sX8_goingW (cl := hcl (cU A.1 u v)) (S := S1) (b := -4) H h40 ((M1.1 5 (by omega)).trans (tC_E (by omega) (by omega))) (fun a ha => (M1.1 _ (by omega)).trans (H'.c.1 a (by rw [cU_hn]; exact ha))) H'.c.2.1 H'.c.2.2.1 H'.cl (fun a ha => by rw [r57, r58]; exact J2 a ha)
  have b1' := aGo_bar (bar' := fun l => (0 : Nat).testBit l) (fun l hl => (nb0 l (by omega)).symm) b1
  have ew := aWo_eq b1'
  have e52 : S2.2 (50, 0) = tC (S.2 (50, 0)) u v (hcl A.1 u ^^^ 2 ^ v) (hcl A.1 v ^^^ 2 ^ u) := (b5.2 _ (by decide)).trans e50
  have k1 : (hcl A.1 u ^^^ 2 ^ v).testBit v = false := by rw [xor_bits, if_pos rfl, hb]; rfl
  have k2 : (hcl A.1 v ^^^ 2 ^ u).testBit u = false := by rw [xor_bits, if_pos rfl, hb']; rfl
  have a3 := sX8_clashes (a := (50, 0)) (S := S2) (is := 1) (cu := hcl A.1 u ^^^ 2 ^ v) (cv := hcl A.1 v ^^^ 2 ^ u) rfl (show u < 10 by omega) (show v < 10 by omega) huv (by omega) (by rw [e52]; unfold tC; rw [pk_un (by omega), pk_us]) (by rw [e52]; unfold tC; rw [pk_us])
  rw [if_pos rfl, if_pos rfl, ← xor_or k1, ← xor_or k2, xor2, xor2, e52] at a3
  have e9 : tC (tC (S.2 (50, 0)) u v (hcl A.1 u ^^^ 2 ^ v) (hcl A.1 v ^^^ 2 ^ u)) u v (hcl A.1 u) (hcl A.1 v) = S.2 (50, 0) := upd4 mu.symm mv.symm
  rw [e9] at a3
  have F : ∀ r, gqE r = false → (jput S2 (50, 0) (S.2 (50, 0))).2 r = S.2 r := by
    intro r hr
    by_cases c : r = (50, 0)
    · subst c; exact jput_at
    · rw [jput_o c]
      have : gq59 r = false := by
        cases h9 : gq59 r with
        | false => rfl
        | true => rw [gq59_E r h9] at hr; cases hr
      rw [b5.2 r this, ← hS1, jput_o c]
  refine ⟨S1, S2, _, a1, b2, a3, ?_, by rw [ew]; exact gW_le (fun l _ => aWn_le H h40 l) g, ⟨?_, ?_⟩, ?_, F⟩
  · rw [ew]; exact b4
  · rw [jput_at]; exact M
  · intro a ha
    rw [jput_o (b := (57, 0)) (by decide), jput_o (b := (58, 0)) (by decide), b5.2 (57, 0) (by decide), b5.2 (58, 0) (by decide), r57, r58]
    exact J2 a ha
  · intro r hr
    have : gp15 r = false := by
      cases h9 : gp15 r with
      | false => rfl
      | true => rw [gp15_E r h9] at hr; cases hr
    show S2.1 r = S.1 r
    rw [b5.1 r this, ← hS1]
theorem sX8_worst_46 {q29 : jS → Int32 → Int32 → Int32 → Int32 → Option (Int32 × jS)} {A : aW} {x : Int32} {u : Nat} (H : HV A.1) (hu : u < hn A.1) : ∀ (d fu v : Nat) (S : jS) (s : wT), u < v → wOK s → wJ A S → v + d = hn A.1 → d < fu → ∃ S', fX8_worst_46 q29 fu S x (nI s.1) (wFo s) (nI u) (nI v) = q29 S' x (nI (wIn A u d v s).1) (wFo (wIn A u d v s)) (nI (u + 1)) ∧ wOK (wIn A u d v s) ∧ wJ A S' ∧ jFr gpE gqE S S' := by
  have n10 := H.2.2.1.2
  intro d
  induction d with
  | zero =>
    intro fu v S s huv ho I hd hf
    obtain ⟨fu, rfl⟩ : ∃ m, fu = m + 1 := ⟨fu - 1, by omega⟩
    obtain rfl : v = hn A.1 := by omega
    have n5 : S.2 (50, 0) (5 : Int32).toNatClampNeg = nI (hn A.1) := by rw [q5, I.1.1 5 (by omega)]; exact H.2.2.1.1
    refine ⟨S, ?_, ho, I, jFr.rf⟩
    show bX8_worst_46 q29 (fX8_worst_46 q29 fu) S _ _ _ _ _ = _
    unfold bX8_worst_46
    rw [if_pos j58, n5, if_pos ((nI_leI (by omega) (by omega)).mpr (Nat.le_refl _)), jlet_eq, nI_1]
    rfl
  | succ d ih =>
    intro fu v S s huv ho I hd hf
    obtain ⟨fu, rfl⟩ : ∃ m, fu = m + 1 := ⟨fu - 1, by omega⟩
    have hv : v < hn A.1 := by omega
    have n5 : S.2 (50, 0) (5 : Int32).toNatClampNeg = nI (hn A.1) := by rw [q5, I.1.1 5 (by omega)]; exact H.2.2.1.1
    have g143 : ∀ (S2 : jS) (a b : Int32), bX8_worst_143 q29 (fX8_worst_46 q29 fu) S2 x a b (nI u) (nI v) = fX8_worst_46 q29 fu S2 x a b (nI u) (nI (v + 1)) := by
      intro S2 a b
      unfold bX8_worst_143
      rw [jlet_eq, nI_1]
    cases hb : (hcl A.1 u).testBit v with
    | false =>
      have es : wSt A u v s = s := by
        unfold wSt
        rw [if_neg (fun q => by rw [hb] at q; exact absurd q.1 (by decide))]
      obtain ⟨S', b1, b2, b3, b4⟩ := ih fu (v + 1) S s (by omega) ho I (by omega) (by omega)
      have ei : wIn A u (d + 1) v s = wIn A u d (v + 1) s := by
        show wIn A u d (v + 1) (wSt A u v s) = _
        rw [es]
      rw [ei]
      refine ⟨S', ?_, b2, b3, b4⟩
      show bX8_worst_46 q29 (fX8_worst_46 q29 fu) S _ _ _ _ _ = _
      unfold bX8_worst_46
      rw [if_pos j58, n5, if_neg (fun q => by have := (nI_leI (a := hn A.1) (b := v) (by omega) (by omega)).mp q; omega), li_36, if_pos (jIn_lit (by omega) (by omega)), nI_clamp (by omega), I.1.1 _ (by omega), H.c.1 u hu, sX8_has S (Nat.lt_of_lt_of_le (H.cl u) (by omega)) (by omega), Option.bind_some]
      dsimp only
      rw [hb, if_pos (by decide), g143]
      exact b1
    | true =>
      obtain ⟨S1, S2, S3, c1, c2, c3, c4, c5, c6, c7⟩ := m_wo H I hu hv (by omega) hb
      have ho' := wSt_ok (show u < 10 by omega) (show v < 10 by omega) c5 ho
      obtain ⟨S', b1, b2, b3, b4⟩ := ih fu (v + 1) S3 (wSt A u v s) (by omega) ho' c6 (by omega) (by omega)
      refine ⟨S', ?_, b2, b3, c7.tr b4⟩
      show bX8_worst_46 q29 (fX8_worst_46 q29 fu) S _ _ _ _ _ = _
      unfold bX8_worst_46
      rw [if_pos j58, n5, if_neg (fun q => by have := (nI_leI (a := hn A.1) (b := v) (by omega) (by omega)).mp q; omega), li_36, if_pos (jIn_lit (by omega) (by omega)), nI_clamp (by omega), I.1.1 _ (by omega), H.c.1 u hu, sX8_has S (Nat.lt_of_lt_of_le (H.cl u) (by omega)) (by omega), Option.bind_some]
      dsimp only
      rw [hb, if_neg (by decide), c1, Option.bind_some, c2, Option.bind_some, c3, Option.bind_some, c4]
      refine Eq.trans ?_ b1
      have h1 := ho.1
      unfold bX8_worst_125 bX8_worst_142
      rw [c4, g143, g143, g143, g143]
      by_cases c : s.1 < aWo A u v
      · have es : wSt A u v s = (aWo A u v, some (u, v)) := by
          unfold wSt
          rw [if_pos ⟨hb, c⟩]
        have cn : ¬ nI (aWo A u v) ≤ nI s.1 := fun q => by have := (nI_leI (a := aWo A u v) (b := s.1) (by omega) (by omega)).mp q; omega
        rw [if_neg cn, if_neg cn, es, show (16 : Int32) * nI u = nI (16 * u) from pk_mul 16 u, nI_add]
        rfl
      · have es : wSt A u v s = s := by
          unfold wSt
          rw [if_neg (fun q => c q.2)]
        have cp : nI (aWo A u v) ≤ nI s.1 := (nI_leI (a := aWo A u v) (b := s.1) (by omega) (by omega)).mpr (by omega)
        rw [if_pos cp, if_pos cp, es]
theorem w16 : ∀ a, a < 10 → ∀ b, b < 10 → nI (16 * a + b) / (16 : Int32) = nI a ∧ nI (16 * a + b) - nI (16 * a + b) / (16 : Int32) * (16 : Int32) = nI b := by decide +kernel
theorem wEnd8 {j : Nat} {s : wT} (hj : j ≤ 2) (ho : wOK s) {S : jS} : (if wFo s = (-4 : Int32) then some ((-4 : Int32), S) else (if nI j = 0 then some (wFo s / (16 : Int32), S) else (if nI j = (1 : Int32) then some (wFo s - wFo s / (16 : Int32) * (16 : Int32), S) else some (nI s.1, S)))) = some (wAn j s, S) := by
  obtain ⟨w, o⟩ := s
  cases o with
  | none => rfl
  | some p =>
    have hp := ho.2 p rfl
    have hq := w16 p.1 hp.1 p.2 hp.2
    show (if nI (16 * p.1 + p.2) = (-4 : Int32) then _ else if nI j = 0 then some (nI (16 * p.1 + p.2) / 16, S) else if nI j = 1 then some (nI (16 * p.1 + p.2) - nI (16 * p.1 + p.2) / 16 * 16, S) else some (nI w, S)) = some (if j = 0 then nI p.1 else if j = 1 then nI p.2 else nI w, S)
    rw [if_neg (n4_ne (by omega)), hq.2, hq.1]
    rcases (show j = 0 ∨ j = 1 ∨ j = 2 by omega) with rfl | rfl | rfl <;> rfl
theorem sX8_worst_29 {A : aW} {j : Nat} (H : HV A.1) (hj : j ≤ 2) : ∀ (d fu u : Nat) (S : jS) (s : wT), wOK s → wJ A S → u + d = hn A.1 → d < fu → ∃ S', fX8_worst_29 fu S (nI j) (nI s.1) (wFo s) (nI u) = some (wAn j (wOut A d u s), S') ∧ jFr gpE gqE S S' := by
  have n10 := H.2.2.1.2
  intro d
  induction d with
  | zero =>
    intro fu u S s ho I hd hf
    obtain ⟨fu, rfl⟩ : ∃ m, fu = m + 1 := ⟨fu - 1, by omega⟩
    obtain rfl : u = hn A.1 := by omega
    have n5 : S.2 (50, 0) (5 : Int32).toNatClampNeg = nI (hn A.1) := by rw [q5, I.1.1 5 (by omega)]; exact H.2.2.1.1
    refine ⟨S, ?_, jFr.rf⟩
    show bX8_worst_29 (fX8_worst_29 fu) S _ _ _ _ = _
    unfold bX8_worst_29
    rw [if_pos j58, n5, if_pos ((nI_leI (by omega) (by omega)).mpr (Nat.le_refl _))]
    exact wEnd8 hj ho
  | succ d ih =>
    intro fu u S s ho I hd hf
    obtain ⟨fu, rfl⟩ : ∃ m, fu = m + 1 := ⟨fu - 1, by omega⟩
    have n5 : S.2 (50, 0) (5 : Int32).toNatClampNeg = nI (hn A.1) := by rw [q5, I.1.1 5 (by omega)]; exact H.2.2.1.1
    obtain ⟨S1, a1, a2, a3, a4⟩ := sX8_worst_46 (q29 := fX8_worst_29 fu) (x := nI j) (u := u) H (by omega) d 5000 (u + 1) S s (by omega) ho I (by omega) (by omega)
    obtain ⟨S', b1, b2⟩ := ih fu (u + 1) S1 (wIn A u d (u + 1) s) a2 a3 (by omega) (by omega)
    refine ⟨S', ?_, a4.tr b2⟩
    show bX8_worst_29 (fX8_worst_29 fu) S _ _ _ _ = _
    unfold bX8_worst_29
    rw [if_pos j58, n5, if_neg (fun q => by have := (nI_leI (a := hn A.1) (b := u) (by omega) (by omega)).mp q; omega), jlet_eq, nI_1, a1]
    exact b1
theorem z_worst {N : Nat} {S : jS} (h : SM N S) (x : Int32) : ZZ N S (fun S => fX7_worst S x) (fun S => fX8_worst S x) := by
  obtain ⟨kept, W, A, n, T, C, M, V⟩ := h
  have H := V.1.1
  have n10 := H.2.2.1.2
  by_cases d1 : ∃ j, (0 ≤ j ∧ j ≤ 2) ∧ x = nI j
  case neg =>
    refine ZZ_bad (r := -1) C M V ?_ (fun S1 M1 => ?_)
    · show fX7_worst S x = _
      unfold fX7_worst
      rw [wi_no S 0 2 (x := 0) (y := 2) (by omega) (by omega) d1 rfl rfl, Option.bind_some]
      rfl
    · show fX8_worst S1 x = _
      unfold fX8_worst
      rw [in_no S1 (a := 0) (b := 2) (x := 0) (y := 2) d1 (by decide) (by decide), Option.bind_some]
      rfl
  obtain ⟨j, hj, rfl⟩ := d1
  have h40 : ∀ q, q < 18 → (A.2 q).length ≤ 40 := fun q hq => (C.1.1.2.2.2 q hq).2.1
  obtain ⟨b, S1, b1, b2, b3, b4, b5⟩ := c_goes H C.1.1
  have w1 : WSame 0 S (gPut S1 0 (aWn A.1 A.2) b) := WSame_S (by decide) ((b5.mono gp0_S gq40_S).tr gPut_S)
  have N1 : NC 0 (gPut S1 0 (aWn A.1 A.2) b) A.1 := C.1.1.1.same w1
  obtain ⟨S2, c1, c2⟩ := sX2_copyFrom (k := 1) (k2 := 0) (S := gPut S1 0 (aWn A.1 A.2) b) (by decide)
  have F2 : jFr gpS gqS (gPut S1 0 (aWn A.1 A.2) b) S2 := (c2.fr (by decide) (by decide)).mono gpK1_S gqK1_S
  have K2 := c2.fr (by decide) (by decide)
  have I : wI A S2 := ⟨N1.same (WSame_S (by decide) F2), NC_copy H c2 N1, fun a ha => by
    rw [K2.2 (40, 0) (by decide), K2.2 (41, 0) (by decide)]
    exact b3 a ha⟩
  have ho : wOK (gW (aWn A.1 A.2) b, none) := ⟨gW_le (fun l _ => aWn_le H h40 l) b, fun p hp => by cases hp⟩
  obtain ⟨S3, e1, e2⟩ := sX7_worst_72 H h40 hj.2 (hn A.1) 5000 0 S2 (gW (aWn A.1 A.2) b, none) ho I (by omega) (by omega)
  refine ZZ_scr (r := wAn j (wOut A (hn A.1) 0 (gW (aWn A.1 A.2) b, none))) C M V ⟨S3, ?_, ((((b5.mono gp0_S gq40_S).tr gPut_S).tr F2).tr e2)⟩ (fun Sm Mm => ?_)
  · show fX7_worst S (nI j) = _
    unfold fX7_worst
    rw [wi_yes S 0 2 (x := 0) (y := 2) hj.1 hj.2 (by omega) rfl rfl, Option.bind_some]
    dsimp only
    rw [if_neg (by decide), b2, Option.bind_some, b4, Option.bind_some, gPut_w, jlet_eq, c1, Option.bind_some]
    exact e1
  · obtain ⟨S4, a1, a2, a3, a4, a5, a6⟩ := m_goes H Mm.1.1 b1
    obtain ⟨S5, k1, k2⟩ := sX8_worst_29 H hj.2 (hn A.1) 5000 0 S4 (gW (aWn A.1 A.2) b, none) ho ⟨by rw [a5]; exact Mm.1.1, a2⟩ (by omega) (by omega)
    refine ⟨S5, ?_, a6.tr k2⟩
    show fX8_worst Sm (nI j) = _
    unfold fX8_worst
    rw [in_yes Sm (a := 0) (b := 2) (x := 0) (y := 2) hj.1 hj.2 (by omega) (by decide) (by decide), Option.bind_some]
    dsimp only
    rw [if_neg (by decide), a1, Option.bind_some, a4, jlet_eq]
    exact k1
