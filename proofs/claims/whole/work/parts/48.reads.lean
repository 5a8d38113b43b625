/-! ===== reading a text ===== -/
/-- an item stands at k: the header and the place behind it -/
def tIt (T : Nat → Int32) (n k : Nat) (h h' : Nat → Int32) (e : Nat) : Prop := ∃ L, tNs T n (tW (T k)) (k + 1) L e ∧ tI h (T k) (L.getD 0 0) (L.getD 1 0) (L.getD 2 0) = some h'
theorem tIt_fun {T : Nat → Int32} {n k : Nat} {h h1 h2 : Nat → Int32} {e1 e2 : Nat} (a : tIt T n k h h1 e1) (b : tIt T n k h h2 e2) : h1 = h2 ∧ e1 = e2 := by
  obtain ⟨L, a1, a2⟩ := a
  obtain ⟨L', b1, b2⟩ := b
  obtain ⟨-, rfl, rfl⟩ := tNs_fun a1 b1
  exact ⟨Option.some.inj (a2.symm.trans b2), rfl⟩
/-- the text from k on: FAULT or -4, and the header -/
def tRd (T : Nat → Int32) (n : Nat) : Nat → Nat → (Nat → Int32) → Int32 → (Nat → Int32) → Prop
  | 0, _, _, _, _ => False
  | f + 1, k, h, r, h' => (n ≤ k ∧ r = -4 ∧ h' = h) ∨ (k < n ∧ (∀ h1 e, ¬ tIt T n k h h1 e) ∧ r = nI k) ∨ (k < n ∧ ∃ h1 e, tIt T n k h h1 e ∧ tRd T n f e h1 r h')
theorem m4_ne {k : Nat} (h : k < 2 ^ 31) : nI k ≠ -4 := fun q => by
  have a := congrArg Int32.toInt q
  rw [nI_toInt h] at a
  have : (-4 : Int32).toInt = -4 := by decide
  omega
theorem tRd_fun {T : Nat → Int32} {n : Nat} (hn : n ≤ 200) : ∀ (f f2 k : Nat) (h h' h2 : Nat → Int32) (r r2 : Int32), tRd T n f k h r h' → tRd T n f2 k h r2 h2 → r = r2 ∧ (r = -4 → h' = h2)
  | 0, _, _, _, _, _, _, _, a, _ => a.elim
  | f + 1, 0, _, _, _, _, _, _, _, b => b.elim
  | f + 1, f2 + 1, k, h, h', h2, r, r2, a, b => by
    rcases a with ⟨a1, rfl, rfl⟩ | ⟨a1, a2, rfl⟩ | ⟨a1, h1, e1, a2, a3⟩
    · rcases b with ⟨b1, rfl, rfl⟩ | ⟨b1, -⟩ | ⟨b1, -⟩
      · exact ⟨rfl, fun _ => rfl⟩
      · omega
      · omega
    · rcases b with ⟨b1, -⟩ | ⟨b1, b2, rfl⟩ | ⟨b1, h1, e1, b2, -⟩
      · omega
      · exact ⟨rfl, fun q => absurd q (m4_ne (by omega))⟩
      · exact absurd b2 (a2 _ _)
    · rcases b with ⟨b1, -⟩ | ⟨b1, b2, rfl⟩ | ⟨b1, h3, e3, b2, b3⟩
      · omega
      · exact absurd a2 (b2 _ _)
      · obtain ⟨rfl, rfl⟩ := tIt_fun a2 b2
        exact tRd_fun hn f f2 e1 h1 h' h2 r r2 a3 b3
theorem tRd_TV {T : Nat → Int32} {n : Nat} (hn : n ≤ 200) : ∀ (f k : Nat) (h h' : Nat → Int32) (r : Int32), TV h → tRd T n f k h r h' → r = -4 → TV h'
  | 0, _, _, _, _, _, a, _ => a.elim
  | f + 1, k, h, h', r, H, a, hr => by
    rcases a with ⟨a1, rfl, rfl⟩ | ⟨a1, a2, rfl⟩ | ⟨a1, h1, e1, ⟨L, -, a2⟩, a3⟩
    · exact H
    · exact absurd hr (m4_ne (by omega))
    · exact tRd_TV hn f e1 h1 h' r (tI_TV H a2) a3 hr
/-- what an item gives -/
def MX (T : Nat → Int32) (n k : Nat) (h : Nat → Int32) (S : jS) (o : Option (Int32 × jS)) : Prop := ∃ r S', o = some (r, S') ∧ jFr g14 g545 S S' ∧ ((r = 1 ∧ ∃ h' e, tIt T n k h h' e ∧ S'.1 (14, 0) = nI e ∧ S'.2 (54, 0) = h') ∨ (r = 0 ∧ ∀ h' e, ¬ tIt T n k h h' e))
theorem MX_of {T : Nat → Int32} {n k w : Nat} {h : Nat → Int32} {S S0 : jS} {o : Option (Int32 × jS)} {t : Nat → Nat → Nat → Option (Nat → Int32)} (hw : tW (T k) = w) (ht : ∀ u v x, tI h (T k) u v x = t u v x) (F : jFr g14 g545 S0 S) (m : MI T n (k + 1) w S o t) : MX T n k h S0 (o.bind fun y => if y.1 = 0 ∨ y.1 = 1 then some (y.1, y.2) else none) := by
  subst hw
  obtain ⟨r, S', rfl, F', m⟩ := m
  rw [Option.bind_some]
  dsimp only
  rcases m with ⟨rfl, L, e, h', m1, m2, m3, m4⟩ | ⟨rfl, m1⟩
  · rw [if_pos (Or.inr rfl)]
    exact ⟨1, S', rfl, F.tr F', Or.inl ⟨rfl, h', e, ⟨L, m1, by rw [ht]; exact m2⟩, m3, m4⟩⟩
  · rw [if_pos (Or.inl rfl)]
    refine ⟨0, S', rfl, F.tr F', Or.inr ⟨rfl, fun h' e q => ?_⟩⟩
    obtain ⟨L, q1, q2⟩ := q
    rw [ht, m1 L e q1] at q2
    cases q2
theorem MX_no {T : Nat → Int32} {n k : Nat} {h : Nat → Int32} {S S0 : jS} (F : jFr g14 g545 S0 S) (hno : ∀ h' e, ¬ tIt T n k h h' e) : MX T n k h S0 (some (0, S)) := ⟨0, S, rfl, F, Or.inr ⟨rfl, hno⟩⟩
theorem sX8_takesItem {T : Nat → Int32} {n k : Nat} {h : Nat → Int32} {S : jS} (H : TV h) (e54 : S.2 (54, 0) = h) (h200 : n ≤ 200) (hk : k < n) (hM : MT T n k S) : MX T n k h S (fX8_takesItem S) := by
  unfold fX8_takesItem
  rw [hM.2.2, if_pos (jIn_lit (by omega) (by omega)), hM.1, nI_clamp (by omega), nI_1]
  have F : jFr g14 g545 S (jset S (14, 0) (nI (k + 1))) := jFr.set rfl
  have hM' : MT T n (k + 1) (jset S (14, 0) (nI (k + 1))) := ⟨hM.1, hM.2.1, rfl⟩
  have e54' : (jset S (14, 0) (nI (k + 1))).2 (54, 0) = h := e54
  generalize jset S (14, 0) (nI (k + 1)) = S3 at F hM' e54' ⊢
  unfold jlet
  dsimp only
  have h6 := H.1.2.1
  have z0 : S3.2 (54, 0) (0 : Int32).toNatClampNeg = 0 ↔ hm h = 0 := by
    rw [q0, e54', H.1.1]
    exact nI_eq (b := 0) (by omega) (by omega)
  by_cases c1 : T k = 110
  · have t1 : ∀ u v w, tI h (T k) u v w = if hm h = 0 ∧ 2 ≤ u ∧ u ≤ 6 then some (upd h 0 (nI u)) else none := fun u v w => by unfold tI; rw [if_pos c1]
    have w1 : tW (T k) = 1 := by rw [c1]; rfl
    rw [if_pos c1, if_pos j08]
    by_cases c0 : hm h = 0
    · rw [if_pos (z0.mpr c0)]
      obtain ⟨r, S', e1, F', m⟩ := MI_one (pl := 0) (hi := 6) h200 (by omega) hM' (by omega) (by omega)
      rw [show fX8_takesOne S3 0 6 = some (r, S') from e1, Option.bind_some]
      dsimp only
      rcases m with ⟨rfl, L, e, h', m1, m2, m3, m4⟩ | ⟨rfl, m1⟩
      · have hL := getD_lt (b := 100) (by omega) (tNs_len m1).2.1 0
        dsimp only at m2
        by_cases c6 : L.getD 0 0 ≤ 6
        · rw [if_pos c6] at m2
          cases m2
          rw [if_neg (by decide), if_pos j08, q0, m4, pk_us]
          by_cases c2 : L.getD 0 0 ≤ 1
          · rw [if_pos (show nI (L.getD 0 0) ≤ (1 : Int32) from (nI_leI (b := 1) (by omega) (by omega)).mpr c2)]
            refine MX_no (F.tr F') (fun h' e' q => ?_)
            obtain ⟨L', q1', q2'⟩ := q
            rw [w1] at q1'
            obtain ⟨-, rfl, rfl⟩ := tNs_fun m1 q1'
            rw [t1, if_neg (by omega)] at q2'
            cases q2'
          · rw [if_neg (fun q : nI (L.getD 0 0) ≤ (1 : Int32) => c2 ((nI_leI (b := 1) (by omega) (by omega)).mp q))]
            refine ⟨1, S', rfl, F.tr F', Or.inl ⟨rfl, _, e, ⟨L, by rw [w1]; exact m1, ?_⟩, m3, m4⟩⟩
            rw [t1, if_pos (by omega), e54']
        · rw [if_neg c6] at m2
          cases m2
      · rw [if_pos (show (0 : Int32) = 0 from rfl)]
        refine MX_no (F.tr F') (fun h' e' q => ?_)
        obtain ⟨L', q1', q2'⟩ := q
        rw [w1] at q1'
        have := m1 L' e' q1'
        dsimp only at this
        by_cases c6 : L'.getD 0 0 ≤ 6
        · rw [if_pos c6] at this
          cases this
        · rw [t1, if_neg (by omega)] at q2'
          cases q2'
    · rw [if_neg (fun q => c0 (z0.mp q))]
      refine MX_no F (fun h' e' q => ?_)
      obtain ⟨L', q1', q2'⟩ := q
      rw [t1, if_neg (fun q => c0 q.1)] at q2'
      cases q2'
  rw [if_neg c1, if_pos j08]
  by_cases c0 : hm h = 0
  · rw [if_pos (z0.mpr c0)]
    refine MX_no F (fun h' e' q => ?_)
    obtain ⟨L', q1', q2'⟩ := q
    unfold tI at q2'
    rw [if_neg c1, if_pos c0] at q2'
    cases q2'
  rw [if_neg (fun q => c0 (z0.mp q))]
  by_cases c3 : T k = 98
  · rw [if_pos c3]
    have m := MI_one (pl := 64) (hi := 9) h200 (by omega) hM' (by omega) (by omega)
    rw [e54'] at m
    exact MX_of (by rw [c3]; rfl) (fun u v w => by unfold tI; rw [if_neg c1, if_neg c0, if_pos c3]) F m
  rw [if_neg c3]
  by_cases c4 : T k = 102
  · rw [if_pos c4]
    exact MX_of (by rw [c4]; rfl) (fun u v w => by unfold tI; rw [if_neg c1, if_neg c0, if_neg c3, if_pos c4]) F (MI_f H e54' h200 (by omega) hM')
  rw [if_neg c4]
  by_cases c5 : T k = 103
  · rw [if_pos c5]
    exact MX_of (by rw [c5]; rfl) (fun u v w => by unfold tI; rw [if_neg c1, if_neg c0, if_neg c3, if_neg c4, if_pos c5]) F (MI_g H e54' h200 (by omega) hM')
  rw [if_neg c5]
  by_cases c6 : T k = 108
  · rw [if_pos c6]
    exact MX_of (by rw [c6]; rfl) (fun u v w => by unfold tI; rw [if_neg c1, if_neg c0, if_neg c3, if_neg c4, if_neg c5, if_pos c6]) F (MI_l H e54' h200 (by omega) hM')
  rw [if_neg c6]
  by_cases c7 : T k = 111
  · rw [if_pos c7]
    have m := MI_one (pl := 65) (hi := 1) h200 (by omega) hM' (by omega) (by omega)
    rw [e54'] at m
    exact MX_of (by rw [c7]; rfl) (fun u v w => by unfold tI; rw [if_neg c1, if_neg c0, if_neg c3, if_neg c4, if_neg c5, if_neg c6, if_pos c7]) F m
  rw [if_neg c7]
  by_cases c8 : T k = 120
  · rw [if_pos c8]
    exact MX_of (by rw [c8]; rfl) (fun u v w => by unfold tI; rw [if_neg c1, if_neg c0, if_neg c3, if_neg c4, if_neg c5, if_neg c6, if_neg c7, if_pos c8]) F (MI_x H e54' h200 (by omega) hM')
  rw [if_neg c8]
  refine MX_no F (fun h' e' q => ?_)
  obtain ⟨L', q1', q2'⟩ := q
  have w0 : tW (T k) = 0 := by
    unfold tW
    rw [if_neg c3, if_neg c4, if_neg c5, if_neg c6, if_neg c1, if_neg c7, if_neg c8]
  rw [w0] at q1'
  exact q1'
theorem MT.fr2 {T : Nat → Int32} {n k : Nat} {S S' : jS} (h : MT T n k S) (F : jFr g14 g545 S S') {k' : Nat} (hk : S'.1 (14, 0) = nI k') : MT T n k' S' := ⟨(F.2 _ (by decide)).trans h.1, (F.1 _ (by decide)).trans h.2.1, hk⟩
theorem tIt_lt {T : Nat → Int32} {n k : Nat} {h h' : Nat → Int32} {e : Nat} (a : tIt T n k h h' e) : k + 1 < e ∧ e ≤ n ∧ T (e - 1) = 59 := by
  obtain ⟨L, a1, -⟩ := a
  obtain ⟨-, -, b1, b2, b3⟩ := tNs_len a1
  exact ⟨b1, b2, b3⟩
theorem sX8_reads_9 {T : Nat → Int32} {n : Nat} (h200 : n ≤ 200) : ∀ (d fu k : Nat) (h : Nat → Int32) (S : jS), n < k + d → d ≤ fu → k ≤ n → TV h → S.2 (54, 0) = h → MT T n k S → ∃ r S' h', fX8_reads_9 fu S = some (r, S') ∧ jFr g14 g545 S S' ∧ tRd T n d k h r h' ∧ (r = -4 → S'.2 (54, 0) = h')
  | 0, fu, k, h, S, hd, hf, hk, H, e, hM => by omega
  | d + 1, fu, k, h, S, hd, hf, hk, H, e, hM => by
    obtain ⟨fu, rfl⟩ : ∃ m, fu = m + 1 := ⟨fu - 1, by omega⟩
    show ∃ r S' h', bX8_reads_9 (fX8_reads_9 fu) S = some (r, S') ∧ _
    unfold bX8_reads_9 jlet
    rw [hM.2.1, hM.2.2]
    by_cases c : n ≤ k
    · rw [if_pos ((nI_leI (by omega) (by omega)).mpr c)]
      exact ⟨-4, S, h, rfl, jFr.rf, Or.inl ⟨c, rfl, rfl⟩, fun _ => e⟩
    · rw [if_neg (fun q => c ((nI_leI (by omega) (by omega)).mp q))]
      obtain ⟨r, S1, e1, F1, m⟩ := sX8_takesItem H e h200 (by omega) hM
      dsimp only
      rw [e1, Option.bind_some]
      dsimp only
      rcases m with ⟨rfl, h', e', m1, m2, m3⟩ | ⟨rfl, m1⟩
      · rw [if_neg (by decide)]
        have hb := tIt_lt m1
        have H' : TV h' := by obtain ⟨L, -, m4⟩ := m1; exact tI_TV H m4
        obtain ⟨r, S2, h2, b1, b2, b3, b4⟩ := sX8_reads_9 h200 d fu e' h' S1 (by omega) (by omega) (by omega) H' m3 (hM.fr2 F1 m2)
        exact ⟨r, S2, h2, b1, F1.tr b2, Or.inr (Or.inr ⟨by omega, h', e', m1, b3⟩), b4⟩
      · rw [if_pos rfl]
        exact ⟨nI k, S1, h, rfl, F1, Or.inr (Or.inl ⟨by omega, m1, rfl⟩), fun q => absurd q (m4_ne (by omega))⟩
