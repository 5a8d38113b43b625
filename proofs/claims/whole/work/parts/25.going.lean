/-! ===== the reference's going, all of it ===== -/
theorem g_split {s l : Nat} (hs : s < 1024) (h1 : s.testBit l = true) : (gD s (2 ^ l)) ||| 2 ^ l = s ∧ (gD s (2 ^ l)).testBit l = false := by
  constructor
  · apply g_eq_of_bits
    intro i
    rw [Nat.testBit_or, gD_bit, Nat.testBit_two_pow]
    by_cases hi : l = i
    · subst hi; simp [h1]
    · simp [hi]
  · rw [gD_bit, Nat.testBit_two_pow_self]
    simp
theorem gF_step {may : Nat} {cl : Nat → Nat} {s l : Nat} (hs : s < 1024) (h1 : s.testBit l = true) (hsym : ∀ a b, (cl a).testBit b = (cl b).testBit a) (hirr : ∀ a, (cl a).testBit a = false) : gF may cl s ↔ (gF may cl (gD s (2 ^ l)) ∧ may.testBit l = true ∧ cl l &&& gD s (2 ^ l) = 0) := by
  have hb : ∀ a, (gD s (2 ^ l)).testBit a = true ↔ (s.testBit a = true ∧ a ≠ l) := by
    intro a
    rw [gD_bit, Nat.testBit_two_pow]
    simp only [Bool.and_eq_true, Bool.not_eq_true', decide_eq_false_iff_not]
    exact ⟨fun h => ⟨h.1, fun e => h.2 e.symm⟩, fun h => ⟨h.1, fun e => h.2 e.symm⟩⟩
  constructor
  · intro h
    refine ⟨⟨gD_lt hs, fun a ha => h.2.1 a ((hb a).mp ha).1, fun a b ha hb' => h.2.2 a b ((hb a).mp ha).1 ((hb b).mp hb').1⟩, h.2.1 l h1, ?_⟩
    apply g_eq_of_bits
    intro i
    rw [Nat.testBit_and, Nat.zero_testBit]
    cases e : (gD s (2 ^ l)).testBit i with
    | false => simp
    | true => rw [h.2.2 l i h1 ((hb i).mp e).1]; rfl
  · rintro ⟨h2, h3, h4⟩
    have hz : ∀ i, (gD s (2 ^ l)).testBit i = true → (cl l).testBit i = false := by
      intro i hi
      have := congrArg (fun x => x.testBit i) h4
      simp only [Nat.testBit_and, Nat.zero_testBit, hi, Bool.and_true] at this
      exact this
    refine ⟨hs, fun a ha => ?_, fun a b ha hb' => ?_⟩
    · by_cases e : a = l
      · subst e; exact h3
      · exact h2.2.1 a ((hb a).mpr ⟨ha, e⟩)
    · by_cases ea : a = l
      · subst ea
        by_cases eb : b = a
        · subst eb; exact hirr _
        · exact hz b ((hb b).mpr ⟨hb', eb⟩)
      · by_cases eb : b = l
        · subst eb
          rw [hsym]
          exact hz a ((hb a).mpr ⟨ha, ea⟩)
        · exact h2.2.2 a b ((hb a).mpr ⟨ha, ea⟩) ((hb b).mpr ⟨hb', eb⟩)
theorem gI_next {S : jS} {may : Nat} {cl w : Nat → Nat} {n set g : Nat} {t2 : Int32} (hset : set < 1024) (I : gI S may cl w n set g) (h2 : (gF may cl set → t2 = 1) ∧ (¬ gF may cl set → t2 = 0)) :
    (t2 = 0 → gI (gS30 S w set t2) may cl w n (set + 1) g) ∧ (t2 = 1 → gF may cl set → (gW w g < gW w set ∨ (gW w set = gW w g ∧ gC set < gC g)) → gI (jset (jset (gS30 S w set t2) (15, 0) (nI set)) (16, 0) (nI (gW w set))) may cl w n (set + 1) set) ∧ (t2 = 1 → ¬ (gW w g < gW w set ∨ (gW w set = gW w g ∧ gC set < gC g)) → gI (gS30 S w set t2) may cl w n (set + 1) g) := by
  obtain ⟨⟨i1, i2, i3⟩, i4, i5, i6, i7, i8, i9, i10⟩ := I
  have j1 : (gS30 S w set t2).2 (50, 0) 5 = nI n ∧ (∀ a, a < n → (gS30 S w set t2).2 (58, 0) a = nI (w a)) ∧ ∀ a, a < n → (gS30 S w set t2).2 (50, 0) (36 + a) = nI (cl a) := by
    rw [gS30_o (r := (50, 0)) (by simp) (by simp), gS30_o (r := (58, 0)) (by simp) (by simp)]
    exact ⟨i1, i2, i3⟩
  have j4 : ∀ t, t < set + 1 → (gS30 S w set t2).2 (59, 0) t = nI (gW w t) := by
    intro t ht
    rw [gS30_59]
    by_cases e : t = set
    · subst e; exact pk_us
    · rw [pk_un e]; exact i4 t (by omega)
  have j5 : ∀ t, t < set + 1 → (gF may cl t → (gS30 S w set t2).2 (60, 0) t = 1) ∧ (¬ gF may cl t → (gS30 S w set t2).2 (60, 0) t = 0) := by
    intro t ht
    rw [gS30_60]
    by_cases e : t = set
    · subst e; rw [pk_us]; exact h2
    · rw [pk_un e]; exact i5 t (by omega)
  have cs := gC_le set
  have cg := gC_le g
  have keyle : ¬ (gW w g < gW w set ∨ (gW w set = gW w g ∧ gC set < gC g)) → gK w set ≤ gK w g := by
    intro h
    rcases Nat.lt_trichotomy (gW w set) (gW w g) with q | q | q
    · exact gK_lt q
    · have : ¬ gC set < gC g := fun x => h (Or.inr ⟨q, x⟩)
      unfold gK
      rw [q]
      omega
    · exact absurd (Or.inl q) h
  have keyge : (gW w g < gW w set ∨ (gW w set = gW w g ∧ gC set < gC g)) → gK w g ≤ gK w set := by
    rintro (q | ⟨q, q2⟩)
    · exact gK_lt q
    · unfold gK
      rw [q]
      omega
  refine ⟨fun h0 => ?_, fun h1 hf hb => ?_, fun h1 hb => ?_⟩
  · refine ⟨j1, j4, j5, i6, i7, i8, by omega, fun t ht hft => ?_⟩
    by_cases e : t = set
    · subst e
      rw [h2.1 hft] at h0
      exact absurd h0 (by decide)
    · exact i10 t (by omega) hft
  · refine ⟨j1, j4, j5, by simp [jup], by simp [jup], hf, by omega, fun t ht hft => ?_⟩
    by_cases e : t = set
    · subst e; exact Nat.le_refl _
    · exact Nat.le_trans (i10 t (by omega) hft) (keyge hb)
  · refine ⟨j1, j4, j5, i6, i7, i8, by omega, fun t ht hft => ?_⟩
    by_cases e : t = set
    · subst e; exact keyle hb
    · exact i10 t (by omega) hft
theorem gS30_fr {S : jS} {w : Nat → Nat} {set : Nat} {t2 : Int32} : jFr gp15 gq59 S (gS30 S w set t2) := (jFr.put (by rfl)).tr (jFr.put (by rfl))
theorem gset_fr {S : jS} {a b : Int32} : jFr gp15 gq59 S (jset (jset S (15, 0) a) (16, 0) b) := (jFr.set (by rfl)).tr (jFr.set (by rfl))
set_option maxHeartbeats 4000000 in
theorem sX8_findsGoing_72 {may n : Nat} {cl w : Nat → Nat} (hn : n ≤ 10) (hmay : ∀ a, may.testBit a = true → a < n) (hm : may < 1024) (hw : ∀ l, l < 10 → w l ≤ 2000) (hsym : ∀ a b, (cl a).testBit b = (cl b).testBit a) (hirr : ∀ a, (cl a).testBit a = false) (hcl : ∀ a, cl a < 1024) : ∀ (d fu set g : Nat) (S : jS), set + d = 2 ^ n → d < fu → 1 ≤ set → gI S may cl w n set g → ∃ S' g', fX8_findsGoing_72 fu S (nI may) (nI set) = some S' ∧ gI S' may cl w n (2 ^ n) g' ∧ jFr gp15 gq59 S S' := by
  have hp : 2 ^ n ≤ 1024 := Nat.pow_le_pow_right (n := 2) (by omega) hn
  intro d
  induction d with
  | zero =>
    intro fu set g S hd hfu h1 I
    obtain ⟨fu, rfl⟩ : ∃ m, fu = m + 1 := ⟨fu - 1, by omega⟩
    refine ⟨S, g, ?_, by rw [← hd]; exact I, jFr.rf⟩
    show bX8_findsGoing_72 (fX8_findsGoing_72 fu) S (nI may) (nI set) = some S
    unfold bX8_findsGoing_72
    rw [if_pos (by decide), show (5 : Int32).toNatClampNeg = 5 from by decide, I.1.1, nb_pow n (by omega), if_pos ((nI_leI (by omega) (by omega)).mpr (by omega))]
  | succ d ih =>
    intro fu set g S hd hfu h1 I
    obtain ⟨fu, rfl⟩ : ∃ m, fu = m + 1 := ⟨fu - 1, by omega⟩
    have hset : set < 1024 := by omega
    obtain ⟨l, hl1, hl2⟩ := g_low h1
    have hl10 := gtb_lt hset hl1
    have hln : l < n := by
      rcases Nat.lt_or_ge l n with h | h
      · exact h
      · have : set < 2 ^ l := Nat.lt_of_lt_of_le (show set < 2 ^ n by omega) (Nat.pow_le_pow_right (by omega) h)
        rw [Nat.testBit_lt_two_pow this] at hl1
        cases hl1
    have hr := g_rest' hset hl1 hl2
    obtain ⟨hs1, hs2⟩ := g_split hset hl1
    have hrlt : gD set (2 ^ l) < set := by
      rw [← hr]
      have := Nat.and_le_right (n := set) (m := set - 1)
      omega
    have hW : gW w set = gW w (gD set (2 ^ l)) + w l := by
      have := gW_or (w := w) hl10 hs2
      rw [hs1] at this
      exact this
    have hstep := gF_step (may := may) hset hl1 hsym hirr
    show ∃ S' g', bX8_findsGoing_72 (fX8_findsGoing_72 fu) S (nI may) (nI set) = some S' ∧ _
    have key : ∀ t2 : Int32, (t2 = 0 ∨ t2 = 1) → ((gF may cl set → t2 = 1) ∧ (¬ gF may cl set → t2 = 0)) → ∃ S' g', bX8_findsGoing_142 (fX8_findsGoing_72 fu) S (nI may) (nI set) (nI l) (nI (gD set (2 ^ l))) (nI set) t2 = some S' ∧ gI S' may cl w n (2 ^ n) g' ∧ jFr gp15 gq59 S S' := by
      intro t2 ht2 hfr
      rw [s_142 ht2 hw hset hln hn hrlt I.2.2.2.2.2.2.1 I hW]
      obtain ⟨n1, n2, n3⟩ := gI_next hset I hfr
      by_cases c0 : t2 = 0
      · rw [if_pos c0]
        obtain ⟨S', g', a1, a2, a3⟩ := ih fu (set + 1) g _ (by omega) (by omega) (by omega) (n1 c0)
        exact ⟨S', g', a1, a2, gS30_fr.tr a3⟩
      · have c1 : t2 = 1 := ht2.resolve_left c0
        have hf : gF may cl set := Classical.byContradiction (fun h => c0 (hfr.2 h))
        rw [if_neg c0]
        by_cases cb : gW w g < gW w set ∨ (gW w set = gW w g ∧ gC set < gC g)
        · rw [if_pos cb]
          obtain ⟨S', g', a1, a2, a3⟩ := ih fu (set + 1) set _ (by omega) (by omega) (by omega) (n2 c1 hf cb)
          exact ⟨S', g', a1, a2, (gS30_fr.tr gset_fr).tr a3⟩
        · rw [if_neg cb]
          obtain ⟨S', g', a1, a2, a3⟩ := ih fu (set + 1) g _ (by omega) (by omega) (by omega) (n3 c1 cb)
          exact ⟨S', g', a1, a2, gS30_fr.tr a3⟩
    unfold bX8_findsGoing_72
    have hlow := sX8_lowestOf_2 S hset l 5000 0 (by rw [Nat.zero_add]; exact hl1) (by rw [Nat.zero_add]; exact hl2) (by omega)
    rw [Nat.zero_add] at hlow
    have hlow' : fX8_lowestOf S (nI set) = some (nI l, S) := hlow
    have hpred : nI set - 1 = nI (set - 1) := by
      obtain ⟨m, rfl⟩ : ∃ m, set = m + 1 := ⟨set - 1, by omega⟩
      rw [nI_pred]; rfl
    rw [if_pos (by decide), show (5 : Int32).toNatClampNeg = 5 from by decide, I.1.1, nb_pow n (by omega), if_neg (fun h => by have := (nI_leI (a := 2 ^ n) (b := set) (by omega) (by omega)).mp h; omega), hlow', Option.bind_some]
    dsimp only
    rw [hpred, nb_and, hr]
    unfold jlet
    dsimp only
    have e36 : (36 : Int32) + nI l = nI (36 + l) := nI_add 36 l
    rw [if_pos (jIn_lit (by omega) (by omega)), nI_clamp (by omega), sX8_has S (by omega) (by omega), Option.bind_some]
    dsimp only
    rw [e36, if_pos (jIn_lit (a := 36 + l) (by omega) (by omega)), nI_clamp (n := 36 + l) (by omega), I.1.2.2 l hln, nb_and]
    have hz : nI (cl l &&& gD set (2 ^ l)) = (0 : Int32) ↔ cl l &&& gD set (2 ^ l) = 0 := nI_eq (a := cl l &&& gD set (2 ^ l)) (b := 0) (by have := Nat.and_le_left (n := cl l) (m := gD set (2 ^ l)); have := hcl l; omega) (by omega)
    have hfr := I.2.2.1 (gD set (2 ^ l)) hrlt
    unfold bX8_findsGoing_141
    by_cases c1 : gF may cl (gD set (2 ^ l))
    · rw [hfr.1 c1, if_neg (by decide)]
      cases c2 : may.testBit l with
      | true =>
        rw [if_neg (by decide)]
        by_cases c3 : cl l &&& gD set (2 ^ l) = 0
        · rw [if_pos (hz.mpr c3)]
          exact key 1 (Or.inr rfl) ⟨fun _ => rfl, fun h => absurd (hstep.mpr ⟨c1, c2, c3⟩) h⟩
        · rw [if_neg (fun h => c3 (hz.mp h))]
          exact key 0 (Or.inl rfl) ⟨fun h => absurd (hstep.mp h).2.2 c3, fun _ => rfl⟩
      | false =>
        rw [if_pos (by decide)]
        exact key 0 (Or.inl rfl) ⟨fun h => absurd ((hstep.mp h).2.1.symm.trans c2) (by decide), fun _ => rfl⟩
    · rw [hfr.2 c1, if_pos rfl]
      exact key 0 (Or.inl rfl) ⟨fun h => absurd (hstep.mp h).1 c1, fun _ => rfl⟩
theorem sX8_findsGoing_4 {n : Nat} {S : jS} {b : Int32} (hn : n ≤ 10) (e5 : S.2 (50, 0) 5 = nI n) : ∀ (d fu l : Nat), l + d = n → d < fu → fX8_findsGoing_4 fu S b (nI (gM (S.2 (57, 0)) (fun a => decide (nI a = b)) l)) (nI l) = fX8_findsGoing_72 5000 (jput (jput (jset (jset S (15, 0) 0) (16, 0) 0) (59, 0) (upd (S.2 (59, 0)) 0 0)) (60, 0) (upd (S.2 (60, 0)) 0 1)) (nI (gM (S.2 (57, 0)) (fun a => decide (nI a = b)) n)) 1 := by
  intro d
  induction d with
  | zero =>
    intro fu l hl hfu
    obtain ⟨fu, rfl⟩ : ∃ m, fu = m + 1 := ⟨fu - 1, by omega⟩
    obtain rfl : l = n := by omega
    show bX8_findsGoing_4 (fX8_findsGoing_4 fu) S b _ _ = _
    unfold bX8_findsGoing_4
    rw [if_pos (by decide), show (5 : Int32).toNatClampNeg = 5 from by decide, e5, if_pos ((nI_leI (by omega) (by omega)).mpr (Nat.le_refl _))]
    unfold jlet
    dsimp only
    rw [if_pos (by decide), if_pos (by decide), jup_ne (a := (59, 0)) (b := (60, 0)) _ _ (by simp)]
    rfl
  | succ d ih =>
    intro fu l hl hfu
    obtain ⟨fu, rfl⟩ : ∃ m, fu = m + 1 := ⟨fu - 1, by omega⟩
    show bX8_findsGoing_4 (fX8_findsGoing_4 fu) S b _ _ = _
    unfold bX8_findsGoing_4
    have hgo := ih fu (l + 1) (by omega) (by omega)
    rw [if_pos (by decide), show (5 : Int32).toNatClampNeg = 5 from by decide, e5, if_neg (fun h => by have := (nI_leI (a := n) (b := l) (by omega) (by omega)).mp h; omega), if_pos (jIn_lit (by omega) (by omega)), nI_clamp (by omega)]
    unfold bX8_findsGoing_37 bX8_findsGoing_38 jlet
    dsimp only
    rw [nI_1, nb_pow l (by omega), nb_or, show ∀ x : Nat, nI x ||| (0 : Int32) = nI x from fun x => (nb_or x 0).trans (by rw [Nat.or_zero])]
    by_cases c : S.2 (57, 0) l = -4
    · rw [if_pos c]
      have e : gM (S.2 (57, 0)) (fun a => decide (nI a = b)) (l + 1) = gM (S.2 (57, 0)) (fun a => decide (nI a = b)) l := by
        show (if _ then _ else _) = _
        rw [if_pos (Or.inl c)]
      rw [← e]
      exact hgo
    · rw [if_neg c]
      by_cases c2 : nI l = b
      · rw [if_pos c2]
        have e : gM (S.2 (57, 0)) (fun a => decide (nI a = b)) (l + 1) = gM (S.2 (57, 0)) (fun a => decide (nI a = b)) l := by
          show (if _ then _ else _) = _
          rw [if_pos (Or.inr (decide_eq_true c2))]
        rw [← e]
        exact hgo
      · rw [if_neg c2]
        have e : gM (S.2 (57, 0)) (fun a => decide (nI a = b)) (l + 1) = gM (S.2 (57, 0)) (fun a => decide (nI a = b)) l ||| 2 ^ l := by
          show (if _ then _ else _) = _
          rw [if_neg (by simp [c, c2])]
        rw [← e]
        exact hgo
/-- the reference's findsGoing: the best of the sets of links that have a choice, but for one -/
theorem sX8_findsGoing {n : Nat} {cl w : Nat → Nat} {S : jS} {b : Int32} (e5 : S.2 (50, 0) 5 = nI n) (hn : n ≤ 10) (ew : ∀ a, a < n → S.2 (58, 0) a = nI (w a)) (ec : ∀ a, a < n → S.2 (50, 0) (36 + a) = nI (cl a)) (hw : ∀ l, l < 10 → w l ≤ 2000) (hsym : ∀ a b, (cl a).testBit b = (cl b).testBit a) (hirr : ∀ a, (cl a).testBit a = false) (hcl : ∀ a, cl a < 1024) :
    ∃ S' g, gB w (gM (S.2 (57, 0)) (fun a => decide (nI a = b)) n) cl g ∧ fX8_findsGoing S b = some S' ∧ S'.1 (15, 0) = nI g ∧ S'.1 (16, 0) = nI (gW w g) ∧ jFr gp15 gq59 S S' := by
  have h0 := sX8_findsGoing_4 (S := S) (b := b) hn e5 n 5000 0 (by omega) (by omega)
  have hm := fun a => gM_bit (S.2 (57, 0)) (fun a => decide (nI a = b)) n a
  have hml := gM_lt (f := S.2 (57, 0)) (bar := fun a => decide (nI a = b)) hn
  have h0' : fX8_findsGoing S b = _ := h0
  rw [h0']
  generalize gM (S.2 (57, 0)) (fun a => decide (nI a = b)) n = may at hm hml ⊢
  have hmay : ∀ a, may.testBit a = true → a < n := fun a ha => by rw [hm a] at ha; exact (of_decide_eq_true ha).1
  have hp1 : 1 ≤ 2 ^ n := Nat.one_le_two_pow
  have hpm : 2 ^ n ≤ 1024 := Nat.pow_le_pow_right (n := 2) (by omega) hn
  have I0 : gI (jput (jput (jset (jset S (15, 0) 0) (16, 0) 0) (59, 0) (upd (S.2 (59, 0)) 0 0)) (60, 0) (upd (S.2 (60, 0)) 0 1)) may cl w n 1 0 := by
    refine ⟨⟨?_, ?_, ?_⟩, ?_, ?_, ?_, ?_, gF_zero _ _, by omega, ?_⟩
    · simp [jup, e5]
    · intro a ha
      simp [jup, ew a ha]
    · intro a ha
      simp [jup, ec a ha]
    · intro t ht
      obtain rfl : t = 0 := by omega
      simp [jup, upd, gW_zero, nI_0]
    · intro t ht
      obtain rfl : t = 0 := by omega
      exact ⟨fun _ => by simp [jup, upd], fun h => absurd (gF_zero _ _) h⟩
    · simp [jup, nI_0]
    · simp [jup, gW_zero, nI_0]
    · intro t ht _
      obtain rfl : t = 0 := by omega
      exact Nat.le_refl _
  obtain ⟨S', g, a1, a2, a3⟩ := sX8_findsGoing_72 hn hmay hml hw hsym hirr hcl (2 ^ n - 1) 5000 1 0 _ (by omega) (by omega) (by omega) I0
  refine ⟨S', g, ⟨a2.2.2.2.2.2.1, fun t ht => a2.2.2.2.2.2.2.2 t ?_ ht⟩, a1, a2.2.2.2.1, a2.2.2.2.2.1, ?_⟩
  · apply Nat.lt_pow_two_of_testBit
    intro i hi
    cases e : t.testBit i with
    | false => rfl
    | true => exact absurd (hmay i (ht.2.1 i e)) (by omega)
  · exact ((((jFr.set (by rfl)).tr (jFr.set (by rfl))).tr (jFr.put (by rfl))).tr (jFr.put (by rfl))).tr a3
