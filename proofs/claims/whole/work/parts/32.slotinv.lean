/-! ===== a slot keeps a world valid ===== -/
theorem lTk_spec {law : Int32} {L : List Int32} (h : L.length ≠ 0) : (lTk law L).1 ∈ L ∧ (∀ x ∈ (lTk law L).2, x ∈ L) ∧ (lTk law L).2.length + 1 = L.length := by
  cases L with
  | nil => exact absurd rfl h
  | cons a l =>
    unfold lTk
    split
    · refine ⟨?_, fun x hx => (List.dropLast_sublist _).subset hx, ?_⟩
      · show (a :: l).getLastD 0 ∈ a :: l
        rw [List.getLastD_cons]
        cases l with
        | nil => simp
        | cons b l =>
          rw [List.getLastD_cons]
          cases hl : l with
          | nil => simp
          | cons c m =>
            have : (b :: c :: m).getLastD 0 ∈ b :: c :: m := by
              rw [List.getLastD_eq_getLast?]
              rw [List.getLast?_eq_some_getLast (by simp)]
              simp only [Option.getD_some]
              exact List.getLast_mem _
            rw [List.getLastD_cons] at this
            exact List.mem_cons_of_mem _ this
      · simp
    · exact ⟨by simp, fun x hx => List.mem_cons_of_mem _ hx, by simp⟩
theorem aTk_spec {law : Int32} : ∀ (n : Nat) (L : List Int32), (∀ x ∈ (aTk law n L).1, x ∈ L) ∧ (∀ x ∈ (aTk law n L).2, x ∈ L) ∧ (aTk law n L).2.length ≤ L.length ∧ (aTk law n L).1.length ≤ n
  | 0, L => ⟨fun x hx => (by cases hx), fun x hx => hx, Nat.le_refl _, Nat.le_refl _⟩
  | n + 1, L => by
    unfold aTk
    split
    · exact ⟨fun x hx => (by cases hx), fun x hx => hx, Nat.le_refl _, by simp⟩
    · next h =>
      obtain ⟨l1, l2, l3⟩ := lTk_spec (law := law) h
      obtain ⟨i1, i2, i3, i4⟩ := aTk_spec (law := law) n (lTk law L).2
      refine ⟨fun x hx => ?_, fun x hx => l2 x (i2 x hx), by show (aTk law n (lTk law L).2).2.length ≤ _; omega, ?_⟩
      · rcases List.mem_cons.mp hx with rfl | hx
        · exact l1
        · exact l2 x (i1 x hx)
      · show ((lTk law L).1 :: (aTk law n (lTk law L).2).1).length ≤ n + 1
        simp; omega
theorem aTk_nil {law : Int32} : ∀ n, aTk law n [] = ([], [])
  | 0 => rfl
  | n + 1 => rfl
/-- the links of the set have a choice -/
def cgOK (h : Nat → Int32) (qs : Nat → List Int32) (b : Nat) (cg : Nat → Nat) : Prop := ∀ l, b.testBit l = true → l < hn h ∧ cg l < hG h
theorem aGo_cg {h : Nat → Int32} {qs : Nat → List Int32} {cl : Nat → Nat} {bar : Nat → Bool} {b : Nat} (H : HV h) (hg : aGo h qs cl bar b) : cgOK h qs b (aCg h qs) ∧ ∀ l, b.testBit l = true → (aCho h qs l).1 = nI (aCg h qs l) ∧ bar l = false := by
  have key : ∀ l, b.testBit l = true → l < hn h ∧ (aCho h qs l).1 ≠ -4 ∧ bar l = false := by
    intro l hl
    have := hg.1.2.1 l hl
    rw [gM_bit] at this
    exact of_decide_eq_true this
  have hG3 := H.2.1.2.2
  refine ⟨fun l hl => ?_, fun l hl => ?_⟩
  · obtain ⟨k1, k2, k3⟩ := key l hl
    rcases aCh_spec (aDr h qs l) (aNe h qs l) (hG h) with ⟨e1, -⟩ | ⟨g, eg, e1, -⟩
    · exact absurd e1 k2
    · have e1' : (aCho h qs l).1 = nI g := e1
      refine ⟨k1, ?_⟩
      unfold aCg
      rw [e1', jN_nI (by omega)]
      exact eg
  · obtain ⟨k1, k2, k3⟩ := key l hl
    refine ⟨?_, k3⟩
    rcases aCh_spec (aDr h qs l) (aNe h qs l) (hG h) with ⟨e1, -⟩ | ⟨g, eg, e1, -⟩
    · exact absurd e1 k2
    · have e1' : (aCho h qs l).1 = nI g := e1
      unfold aCg
      rw [e1', jN_nI (by omega)]
/-- queues and takings while links take -/
def CV (h : Nat → Int32) (s b : Nat) (qs outs : Nat → List Int32) : Prop := (∀ q, q < 18 → (qs q).length ≤ 40 ∧ ∀ x ∈ qs q, ∃ b, b ≤ s ∧ x = nI b) ∧ (∀ i g, i < 6 → g < 3 → ¬ hq h i g → qs (3 * i + g) = []) ∧ (∀ l, (outs l).length ≤ 9 ∧ (∀ x ∈ outs l, ∃ b, b ≤ s ∧ x = nI b) ∧ (outs l ≠ [] → b.testBit l = true))
theorem aCar_CV {h : Nat → Int32} {s b : Nat} {qs : Nat → List Int32} {cg : Nat → Nat} (H : HV h) (hc : cgOK h qs b cg) (h1 : ∀ q, q < 18 → (qs q).length ≤ 40 ∧ ∀ x ∈ qs q, ∃ b, b ≤ s ∧ x = nI b) (h2 : ∀ i g, i < 6 → g < 3 → ¬ hq h i g → qs (3 * i + g) = []) : ∀ l, CV h s b (aCar h cg b qs l).1 (aCar h cg b qs l).2
  | 0 => ⟨h1, h2, fun l => ⟨by simp [aCar], fun x hx => (by simp [aCar] at hx), fun q => absurd rfl q⟩⟩
  | l + 1 => by
    obtain ⟨c1, c2, c3⟩ := aCar_CV H hc h1 h2 l
    unfold aCar
    split
    · next hb =>
      obtain ⟨hl, hg⟩ := hc l hb
      obtain ⟨f1, f2⟩ := H.lk hl
      have hG3 := H.2.1.2.2
      have hr9 := (H.2.2.2.2.2.2.2.1 l hl).2.2.2.1.2.2
      obtain ⟨t1, t2, t3, t4⟩ := aTk_spec (law := h 65) (hro h l) ((aCar h cg b qs l).1 (3 * hfi h l + cg l))
      have cq := c1 (3 * hfi h l + cg l) (by omega)
      dsimp only
      refine ⟨fun q hq => ?_, fun i g hi hg' hn' => ?_, fun l' => ?_⟩
      · by_cases e : q = 3 * hfi h l + cg l
        · subst e
          rw [va_up_self]
          exact ⟨by omega, fun x hx => cq.2 x (t2 x hx)⟩
        · rw [va_up_ne _ _ e]
          exact c1 q hq
      · by_cases e : 3 * i + g = 3 * hfi h l + cg l
        · rw [← e, va_up_self, c2 i g hi hg' hn', aTk_nil]
        · rw [va_up_ne _ _ e]
          exact c2 i g hi hg' hn'
      · by_cases e : l' = l
        · subst e
          rw [va_up_self]
          exact ⟨by omega, fun x hx => cq.2 x (t1 x hx), fun _ => hb⟩
        · rw [va_up_ne _ _ e]
          exact c3 l'
    · exact ⟨c1, c2, c3⟩
theorem PV.brx {h : Nat → Int32} {s c b l : Nat} {cg : Nat → Nat} {A : aW} (H : HV h) (P : PV h s c A) (hs : s < 2 ^ 31) (hl : l < hn h) (hg : cg l < hG h) {x : Int32} (hx : ∃ b, b ≤ s ∧ x = nI b) : PV h s (c + 1) (aBrx h cg l A x) := by
  obtain ⟨b', hb', rfl⟩ := hx
  have hG3 := H.2.1.2.2
  unfold aBrx
  split
  · exact P.thr (by omega) hb' hs
  · next hne =>
    obtain ⟨-, ⟨s1, s2⟩, -⟩ := H.2.2.2.2.2.2.2.1 l hl
    obtain ⟨g1, g2⟩ := H.2.2.2.2.2.1 (cg l) hg
    have hq' : hq h (hse h l) (cg l) := ⟨s2, hg, fun e => hne (by rw [g1, s1, e])⟩
    obtain ⟨p1, p2, p3, p4, p5⟩ := P.add (H.lk hl).2 (by omega) hq' hb'
    refine ⟨p1, p2, p3, p4, fun g' hg' => ?_⟩
    obtain ⟨th, lg, q1, q2, q3⟩ := p5 g' hg'
    exact ⟨th, lg, q1, by omega, q3⟩
theorem PV.brl {h : Nat → Int32} {s l : Nat} {cg : Nat → Nat} (H : HV h) (hs : s < 2 ^ 31) (hl : l < hn h) (hg : cg l < hG h) : ∀ (L : List Int32) (c : Nat) (A : aW), PV h s c A → (∀ x ∈ L, ∃ b, b ≤ s ∧ x = nI b) → PV h s (c + L.length) (L.foldl (aBrx h cg l) A)
  | [], c, A, P, _ => P
  | x :: L, c, A, P, hx => by
    have h1 := PV.brl H hs hl hg L (c + 1) (aBrx h cg l A x) (P.brx (b := 0) H hs hl hg (hx x (by simp))) (fun y hy => hx y (by simp [hy]))
    rw [show c + (x :: L).length = c + 1 + L.length by simp; omega]
    exact h1
theorem PV.mono {h : Nat → Int32} {s c c' : Nat} {A : aW} (P : PV h s c A) (hc : c ≤ c') : PV h s c' A := by
  obtain ⟨p1, p2, p3, p4, p5⟩ := P
  refine ⟨p1, p2, p3, p4, fun g' hg' => ?_⟩
  obtain ⟨th, lg, q1, q2, q3⟩ := p5 g' hg'
  exact ⟨th, lg, q1, by omega, q3⟩
theorem PV.br {h : Nat → Int32} {s b c : Nat} {cg : Nat → Nat} {qs outs : Nat → List Int32} {A : aW} (H : HV h) (hs : s < 2 ^ 31) (hc : cgOK h qs b cg) (ho : ∀ l, (outs l).length ≤ 9 ∧ (∀ x ∈ outs l, ∃ b, b ≤ s ∧ x = nI b) ∧ (outs l ≠ [] → b.testBit l = true)) (P : PV h s c A) : ∀ l, PV h s (c + 9 * l) (aBr h cg outs A l)
  | 0 => P
  | l + 1 => by
    have ih := PV.br H hs hc ho P l
    obtain ⟨o1, o2, o3⟩ := ho l
    unfold aBr
    by_cases e : outs l = []
    · rw [e]
      exact ih.mono (by omega)
    · obtain ⟨hl, hg⟩ := hc l (o3 e)
      exact (PV.brl H hs hl hg (outs l) _ _ ih o2).mono (by omega)
theorem PV.adN {h : Nat → Int32} {s c i g b : Nat} {A : aW} (P : PV h s c A) (hi : i < 6) (hg : g < 3) (hb : b ≤ s) : ∀ n, (n ≠ 0 → hq h i g) → PV h s c (aAdN A (3 * i + g) (nI b) n)
  | 0, _ => P
  | n + 1, hq' => (PV.adN P hi hg hb n (fun _ => hq' (by omega))).add hi hg (hq' (by omega)) hb
theorem PV.fdG {h : Nat → Int32} {s c i b : Nat} {A : aW} {f : Nat → Nat} (P : PV h s c A) (hi : i < 6) (hb : b ≤ s) (hf : ∀ i g, i < 6 → g < 3 → ¬ hq h i g → f (3 * i + g) = 0) : ∀ G, G ≤ 3 → PV h s c (aFdG f (nI b) A i G)
  | 0, _ => P
  | G + 1, hG => (PV.fdG P hi hb hf G (by omega)).adN hi (by omega) hb _ (fun h0 => Classical.byContradiction (fun h1 => h0 (hf i G hi (by omega) h1)))
theorem PV.fd {h : Nat → Int32} {s c b G : Nat} {A : aW} {f : Nat → Nat} (P : PV h s c A) (hb : b ≤ s) (hG : G ≤ 3) (hf : ∀ i g, i < 6 → g < 3 → ¬ hq h i g → f (3 * i + g) = 0) : ∀ m, m ≤ 6 → PV h s c (aFd f (nI b) G A m)
  | 0, _ => P
  | m + 1, hm => (PV.fd P hb hG hf m (by omega)).fdG (by omega) hb hf G hG
theorem aSlot_PV {h : Nat → Int32} {s b : Nat} {qs : Nat → List Int32} {f : Nat → Nat} (H : HV h) (hs : s + 1 < 2 ^ 31) (P : PV h s (90 * s) (h, qs)) (hc : cgOK h qs b (aCg h qs)) (hf : ∀ i g, i < 6 → g < 3 → ¬ hq h i g → f (3 * i + g) = 0) : PV h (s + 1) (90 * (s + 1)) (aSlot h qs b f) := by
  obtain ⟨p1, p2, p3, p4, p5⟩ := P
  obtain ⟨c1, c2, c3⟩ := aCar_CV (s := s) H hc p3 p4 (hn h)
  have p2' : h 66 = nI s := p2
  have e66 : h 66 + 1 = nI (s + 1) := by rw [p2', nI_1]
  have hn10 := H.2.2.1.2
  have P1 : PV h (s + 1) (90 * s) (upd h 66 (h 66 + 1), (aCar h (aCg h qs) b qs (hn h)).1) := by
    refine ⟨fun j hj => pk_un (by omega), by rw [e66]; exact (pk_us : upd h 66 (nI (s + 1)) 66 = _), fun q hq => ⟨(c1 q hq).1, fun x hx => ?_⟩, c2, fun g hg => ?_⟩
    · obtain ⟨b', h1, h2⟩ := (c1 q hq).2 x hx
      exact ⟨b', by omega, h2⟩
    · obtain ⟨th, lg, q1, q2, q3, q4, q5⟩ := p5 g hg
      exact ⟨th, lg, (pk_un (by omega)).trans q1, q2, (pk_un (by omega)).trans q3, by omega, q5⟩
  have P2 := PV.br (qs := qs) H hs hc (fun l => ⟨(c3 l).1, fun x hx => by obtain ⟨b', h1, h2⟩ := (c3 l).2.1 x hx; exact ⟨b', by omega, h2⟩, (c3 l).2.2⟩) P1 (hn h)
  unfold aSlot
  rw [e66] at P2 ⊢
  exact (P2.mono (c' := 90 * (s + 1)) (by omega)).fd (Nat.le_refl _) H.2.1.2.2 hf (hm h) H.1.2.2
theorem PV_own {h : Nat → Int32} {s c : Nat} {A : aW} (P : PV h s c A) : PV A.1 s c A := by
  obtain ⟨p1, p2, p3, p4, p5⟩ := P
  exact ⟨fun _ _ => rfl, p2, p3, fun i g hi hg hn' => p4 i g hi hg (fun q => hn' ((hq_congr p1 hg).mpr q)), p5⟩
theorem aSlot_AV {h : Nat → Int32} {T b : Nat} {qs : Nat → List Int32} {f : Nat → Nat} (hT : T + 1 < 2 ^ 31) (V : AV T (h, qs)) (hc : cgOK h qs b (aCg h qs)) (hf : ∀ i g, i < 6 → g < 3 → ¬ hq h i g → f (3 * i + g) = 0) : AV (T + 1) (aSlot h qs b f) ∧ ∀ j, j < 66 → (aSlot h qs b f).1 j = h j := by
  obtain ⟨H, s, hs, P⟩ := V
  have P' := aSlot_PV (b := b) H (by omega) P hc hf
  exact ⟨⟨HV_congr P'.1 H, s + 1, by omega, PV_own P'⟩, P'.1⟩
