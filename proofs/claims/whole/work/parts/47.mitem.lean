/-! ===== the reference takes an item ===== -/
def g545 (r : jR) : Bool := (r == (54, 0)) || (r == (55, 0))
theorem q0 : (0 : Int32).toNatClampNeg = 0 := by decide
theorem q1 : (1 : Int32).toNatClampNeg = 1 := by decide
theorem q2 : (2 : Int32).toNatClampNeg = 2 := by decide
theorem q5 : (5 : Int32).toNatClampNeg = 5 := by decide
theorem j03 : jIn (0 : Int32) 3 := jIn_lit (a := 0) (by omega) (by omega)
theorem j13 : jIn (1 : Int32) 3 := jIn_lit (a := 1) (by omega) (by omega)
theorem j23 : jIn (2 : Int32) 3 := jIn_lit (a := 2) (by omega) (by omega)
theorem j08 : jIn (0 : Int32) 815 := jIn_lit (a := 0) (by omega) (by omega)
theorem j18 : jIn (1 : Int32) 815 := jIn_lit (a := 1) (by omega) (by omega)
theorem j58 : jIn (5 : Int32) 815 := jIn_lit (a := 5) (by omega) (by omega)
/-- what an item must give: numbers from k on -/
def MI (T : Nat → Int32) (n k w : Nat) (S : jS) (o : Option (Int32 × jS)) (t : Nat → Nat → Nat → Option (Nat → Int32)) : Prop :=
  ∃ r S', o = some (r, S') ∧ jFr g14 g545 S S' ∧ ((r = 1 ∧ ∃ L e h', tNs T n w k L e ∧ t (L.getD 0 0) (L.getD 1 0) (L.getD 2 0) = some h' ∧ S'.1 (14, 0) = nI e ∧ S'.2 (54, 0) = h') ∨ (r = 0 ∧ ∀ L e, tNs T n w k L e → t (L.getD 0 0) (L.getD 1 0) (L.getD 2 0) = none))
theorem MI_start {T : Nat → Int32} {n k w : Nat} {S : jS} (h200 : n ≤ 200) (hk : k ≤ 200) (hw : w ≤ 3) (hw0 : 0 < w) (hM : MT T n k S) {t : Nat → Nat → Nat → Option (Nat → Int32)} {f : Int32 × jS → Option (Int32 × jS)}
    (hf : ∀ S', jFr g14 g545 S S' → ∃ S'', f (0, S') = some (0, S'') ∧ jFr g14 g545 S' S'')
    (hs : ∀ S' L e, jFr g14 g545 S S' → S'.2 (54, 0) = S.2 (54, 0) → tNs T n w k L e → (∀ v ∈ L, v < 100) → S'.1 (14, 0) = nI e → (∀ i, i < w → S'.2 (55, 0) i = nI (L.getD i 0)) → ∃ r S'', f (1, S') = some (r, S'') ∧ jFr (fun _ => false) g545 S' S'' ∧ ((r = 1 ∧ ∃ h', t (L.getD 0 0) (L.getD 1 0) (L.getD 2 0) = some h' ∧ S''.2 (54, 0) = h') ∨ (r = 0 ∧ t (L.getD 0 0) (L.getD 1 0) (L.getD 2 0) = none))) :
    MI T n k w S ((fX8_takesNumbers S (nI w)).bind f) t := by
  obtain ⟨r, S1, e1, F1, q⟩ := sX8_takesNumbers h200 hw hw0 hM hk
  have F : jFr g14 g545 S S1 := F1.mono (fun _ h => h) (fun r h => by unfold g545; unfold g55 at h; rw [h]; exact Bool.or_true _)
  rw [e1, Option.bind_some]
  rcases q with ⟨rfl, L, e, a1, a2, a3⟩ | ⟨rfl, a1⟩
  · obtain ⟨r, S2, b1, b2, b3⟩ := hs S1 L e F (F1.2 _ (by decide)) a1 (tNs_len a1).2.1 a2 a3
    refine ⟨r, S2, b1, F.tr (b2.mono (fun _ h => by cases h) (fun _ h => h)), ?_⟩
    rcases b3 with ⟨rfl, h', c1, c2⟩ | ⟨rfl, c1⟩
    · exact Or.inl ⟨rfl, L, e, h', a1, c1, (b2.1 _ rfl).trans a2, c2⟩
    · refine Or.inr ⟨rfl, fun L' e' g => ?_⟩
      obtain ⟨-, rfl, rfl⟩ := tNs_fun a1 g
      exact c1
  · obtain ⟨S2, b1, b2⟩ := hf S1 F
    exact ⟨0, S2, b1, F.tr b2, Or.inr ⟨rfl, fun L' e' g => absurd g (a1 L' e')⟩⟩
theorem getD_lt {L : List Nat} {b : Nat} (hb : 0 < b) (h : ∀ v ∈ L, v < b) (i : Nat) : L.getD i 0 < b := by
  rw [List.getD_eq_getElem?_getD]
  cases q : L[i]? with
  | none => exact hb
  | some v => exact h v (List.mem_of_getElem? q)
theorem MI_one {T : Nat → Int32} {n k : Nat} {S : jS} (h200 : n ≤ 200) (hk : k ≤ 200) (hM : MT T n k S) {pl hi : Nat} (hp : pl < 815) (hh : hi < 100) : MI T n k 1 S (fX8_takesOne S (nI pl) (nI hi)) (fun u _ _ => if u ≤ hi then some (upd (S.2 (54, 0)) pl (nI u)) else none) := by
  unfold fX8_takesOne
  refine MI_start (w := 1) h200 hk (by omega) (by omega) hM (fun S' F => ?_) (fun S' L e F e54 hN hL e14 e55 => ?_)
  · dsimp only
    rw [if_pos rfl]
    unfold bX8_takesOne_22 bX8_takesOne_23 bX8_takesOne_48 jlet
    rw [if_pos rfl, if_pos (jIn_lit (by omega) hp), if_pos (jIn_lit (by omega) hp)]
    dsimp only
    rw [if_pos (Or.inl rfl)]
    exact ⟨_, rfl, jFr.put rfl⟩
  · have hu := getD_lt (by omega) hL 0
    dsimp only
    rw [if_neg (by decide), if_pos j03, q0, e55 0 (by omega)]
    unfold bX8_takesOne_22 bX8_takesOne_23 bX8_takesOne_48 jlet
    by_cases c : L.getD 0 0 ≤ hi
    · rw [if_neg (fun q => by have := (nI_ltI (a := hi) (b := L.getD 0 0) (by omega) (by omega)).mp q; omega), if_neg (by decide), if_pos j03, if_pos (jIn_lit (by omega) hp), q0, e55 0 (by omega), nI_clamp (by omega)]
      dsimp only
      rw [if_pos (Or.inr rfl), if_pos c, e54]
      exact ⟨1, _, rfl, jFr.put rfl, Or.inl ⟨rfl, _, rfl, jput_at⟩⟩
    · rw [if_pos ((nI_ltI (by omega) (by omega)).mpr (by omega)), if_pos rfl, if_pos (jIn_lit (by omega) hp), if_pos (jIn_lit (by omega) hp)]
      dsimp only
      rw [if_pos (Or.inl rfl), if_neg c]
      exact ⟨0, _, rfl, jFr.put rfl, Or.inr ⟨rfl, rfl⟩⟩
theorem sX8_isReadNode {S : jS} {h : Nat → Int32} (H : TV h) (e54 : S.2 (54, 0) = h) {u : Nat} (hu : u < 100) : fX8_isReadNode S (nI u) = some (if u < hm h then 1 else 0, S) := by
  have h6 := H.1.2.1
  unfold fX8_isReadNode
  rw [if_pos j08, q0, e54, H.1.1]
  by_cases c : hm h ≤ u
  · rw [if_pos ((nI_leI (by omega) (by omega)).mpr c), if_neg (by omega)]
  · rw [if_neg (fun q => c ((nI_leI (by omega) (by omega)).mp q)), if_pos (by omega)]
theorem MI_f {T : Nat → Int32} {n k : Nat} {S : jS} {h : Nat → Int32} (H : TV h) (e : S.2 (54, 0) = h) (h200 : n ≤ 200) (hk : k ≤ 200) (hM : MT T n k S) : MI T n k 3 S (fX8_takesFeed S) (fun u v w => if u < hm h ∧ v < hG h ∧ hgo h v ≠ u ∧ w ≤ 9 then some (upd h (46 + (3 * u + v)) (nI w)) else none) := by
  have h3 := H.2.1.1.2
  have h6 := H.1.2.1
  unfold fX8_takesFeed
  refine MI_start (w := 3) h200 hk (by omega) (by omega) hM (fun S' F => ?_) (fun S' L e' F e54 hN hL e14 e55 => ?_)
  · dsimp only
    rw [if_pos rfl]
    unfold bX8_takesFeed_51 bX8_takesFeed_52
    rw [if_pos rfl]
    exact ⟨_, rfl, jFr.rf⟩
  · rw [e] at e54
    have hu := getD_lt (by omega) hL 0
    have hv := getD_lt (by omega) hL 1
    have hw := getD_lt (by omega) hL 2
    have no : ∀ t : Option (Nat → Int32), t = none → ∃ r S'', bX8_takesFeed_51 S' = some (r, S'') ∧ jFr (fun _ => false) g545 S' S'' ∧ ((r = 1 ∧ ∃ h', t = some h' ∧ S''.2 (54, 0) = h') ∨ (r = 0 ∧ t = none)) := by
      intro t ht
      unfold bX8_takesFeed_51 bX8_takesFeed_52
      rw [if_pos rfl]
      exact ⟨_, _, rfl, jFr.rf, Or.inr ⟨rfl, ht⟩⟩
    dsimp only
    rw [if_neg (by decide), if_pos j03, q0, e55 0 (by omega), sX8_isReadNode H e54 hu, jbind]
    dsimp only
    by_cases c1 : L.getD 0 0 < hm h
    · rw [if_pos c1, if_neg (by decide), if_pos j13, if_pos j18, q1, e55 1 (by omega), e54, H.2.1.1.1]
      by_cases c2 : L.getD 1 0 < hG h
      · rw [if_neg (fun q => by have := (nI_leI (a := hG h) (b := L.getD 1 0) (by omega) (by omega)).mp q; omega), if_pos j23, q2, e55 2 (by omega)]
        by_cases c3 : L.getD 2 0 ≤ 9
        · rw [if_neg (fun q : (10 : Int32) ≤ nI (L.getD 2 0) => by have := (nI_leI (a := 10) (b := L.getD 2 0) (by omega) (by omega)).mp q; omega)]
          unfold bX8_takesFeed_52
          have hg6 := H.2.1.2.1 _ c2
          rw [if_neg (by decide), if_pos j13]
          simp only [q0, q1, q2, e55 0 (by omega), e55 1 (by omega), e55 2 (by omega), e54, li_2, li_3m, li_46, nI_add, Nat.add_assoc]
          rw [if_pos (jIn_lit (by omega) (by omega)), if_pos j03, nI_clamp (by omega), hg6.1]
          by_cases c4 : hgo h (L.getD 1 0) = L.getD 0 0
          · rw [if_pos (by rw [c4]), if_neg (fun q => q.2.2.1 c4)]
            exact ⟨_, _, rfl, jFr.rf, Or.inr ⟨rfl, rfl⟩⟩
          · rw [if_neg (fun q => c4 ((nI_eq (by omega) (by omega)).mp q)), if_pos j03, if_pos j13, if_pos j23, if_pos (jIn_lit (by omega) (by omega)), nI_clamp (by omega), if_pos ⟨c1, c2, c4, c3⟩]
            unfold jlet
            exact ⟨_, _, rfl, jFr.put rfl, Or.inl ⟨rfl, _, rfl, jput_at⟩⟩
        · rw [if_pos (show (10 : Int32) ≤ nI (L.getD 2 0) from (nI_leI (a := 10) (by omega) (by omega)).mpr (by omega))]
          exact no _ (if_neg (fun q => c3 q.2.2.2))
      · rw [if_pos ((nI_leI (by omega) (by omega)).mpr (by omega))]
        exact no _ (if_neg (fun q => c2 q.2.1))
    · rw [if_neg c1, if_pos rfl]
      exact no _ (if_neg (fun q => c1 q.1))
theorem gD_or (a b : Nat) : gD a b ||| b = a ||| b := by
  apply Nat.eq_of_testBit_eq
  intro i
  rw [Nat.testBit_or, Nat.testBit_or, gD_bit]
  cases a.testBit i <;> cases b.testBit i <;> rfl
theorem sX8_clashes {a : jR} (ha : jlen a.1 = 815) {S : jS} {u v cu cv is : Nat} (hu : u < 10) (hv : v < 10) (huv : u ≠ v) (his : is ≤ 1) (e1 : S.2 a (36 + u) = nI cu) (e2 : S.2 a (36 + v) = nI cv) : fX8_clashes a S (nI u) (nI v) (nI is) = some (jput S a (tC (S.2 a) u v (if is = 1 then cu ||| 2 ^ v else gD cu (2 ^ v)) (if is = 1 then cv ||| 2 ^ u else gD cv (2 ^ u)))) := by
  have sh : ∀ w, w < 10 → nI is <<< (nI w &&& 31) = nI (if is = 1 then 2 ^ w else 0) := by
    intro w hw
    rcases Nat.le_one_iff_eq_zero_or_eq_one.mp his with rfl | rfl
    · rw [if_neg (by omega), pk_shlN (n := 0) _ w (nb_sl w (by omega)) (by omega), Nat.zero_mul]
    · rw [if_pos rfl]
      exact nb_pow w (by omega)
  have val : ∀ c w, w < 10 → (nI c &&& (((1 : Int32) <<< (nI w &&& 31)) ^^^ (-1 : Int32))) ||| (nI is <<< (nI w &&& 31)) = nI (if is = 1 then c ||| 2 ^ w else gD c (2 ^ w)) := by
    intro c w hw
    rw [nb_pow w (by omega), nb_not, sh w hw, nb_or]
    congr 1
    by_cases q : is = 1
    · rw [if_pos q, if_pos q, gD_or]
    · rw [if_neg q, if_neg q, Nat.or_zero]
  unfold fX8_clashes jlet
  rw [ha, li_36, li_36, if_pos (jIn_lit (by omega) (by omega)), if_pos (jIn_lit (by omega) (by omega))]
  dsimp only
  rw [if_pos (jIn_lit (by omega) (by omega)), if_pos (jIn_lit (by omega) (by omega)), nI_clamp (by omega), nI_clamp (by omega), e1, val cu v hv, jup_self, pk_un (by omega), e2, val cv u hu, jput_put]
  rfl
theorem MI_x {T : Nat → Int32} {n k : Nat} {S : jS} {h : Nat → Int32} (H : TV h) (e : S.2 (54, 0) = h) (h200 : n ≤ 200) (hk : k ≤ 200) (hM : MT T n k S) : MI T n k 2 S (fX8_takesClash S) (fun u v _ => if u < hn h ∧ v < hn h ∧ u ≠ v then some (tC h u v (hcl h u ||| 2 ^ v) (hcl h v ||| 2 ^ u)) else none) := by
  have h10 := H.2.2.1.1.2
  unfold fX8_takesClash
  refine MI_start (w := 2) h200 hk (by omega) (by omega) hM (fun S' F => ?_) (fun S' L e' F e54 hN hL e14 e55 => ?_)
  · dsimp only
    rw [if_pos rfl]
    unfold bX8_takesClash_57 bX8_takesClash_58
    rw [if_pos rfl, if_pos (Or.inl rfl)]
    exact ⟨_, rfl, jFr.rf⟩
  · rw [e] at e54
    have hu := getD_lt (by omega) hL 0
    have hv := getD_lt (by omega) hL 1
    have no : ∀ t : Option (Nat → Int32), t = none → ∃ r S'', bX8_takesClash_57 S' = some (r, S'') ∧ jFr (fun _ => false) g545 S' S'' ∧ ((r = 1 ∧ ∃ h', t = some h' ∧ S''.2 (54, 0) = h') ∨ (r = 0 ∧ t = none)) := by
      intro t ht
      unfold bX8_takesClash_57 bX8_takesClash_58
      rw [if_pos rfl, if_pos (Or.inl rfl)]
      exact ⟨_, _, rfl, jFr.rf, Or.inr ⟨rfl, ht⟩⟩
    dsimp only
    rw [if_neg (by decide), if_pos j03, if_pos j58]
    simp only [q0, q1, q5, e55 0 (by omega), e55 1 (by omega), e54, H.2.2.1.1.1]
    by_cases c1 : L.getD 0 0 < hn h
    · rw [if_neg (fun q => by have := (nI_leI (a := hn h) (b := L.getD 0 0) (by omega) (by omega)).mp q; omega), if_pos j13, if_pos j58]
      by_cases c2 : L.getD 1 0 < hn h
      · rw [if_neg (fun q => by have := (nI_leI (a := hn h) (b := L.getD 1 0) (by omega) (by omega)).mp q; omega), if_pos j03, if_pos j13]
        by_cases c3 : L.getD 0 0 = L.getD 1 0
        · rw [if_pos (by rw [c3])]
          exact no _ (if_neg (fun q => q.2.2 c3))
        · rw [if_neg (fun q => c3 ((nI_eq (by omega) (by omega)).mp q)), if_pos (show L.getD 0 0 < hn h ∧ L.getD 1 0 < hn h ∧ L.getD 0 0 ≠ L.getD 1 0 from ⟨c1, c2, c3⟩)]
          unfold bX8_takesClash_58
          rw [if_neg (by decide), if_pos j03, if_pos j13, q0, q1, e55 0 (by omega), e55 1 (by omega), show (1 : Int32) = nI 1 from rfl, sX8_clashes (a := (54, 0)) rfl (by omega) (by omega) c3 (by omega) ((congrFun e54 _).trans (H.2.2.2.1.1 _ c1)) ((congrFun e54 _).trans (H.2.2.2.1.1 _ c2)), Option.bind_some, if_pos (Or.inr rfl), if_pos rfl, if_pos rfl, e54]
          exact ⟨_, _, rfl, jFr.put rfl, Or.inl ⟨rfl, _, rfl, jput_at⟩⟩
      · rw [if_pos ((nI_leI (by omega) (by omega)).mpr (by omega))]
        exact no _ (if_neg (fun q => c2 q.2.1))
    · rw [if_pos ((nI_leI (by omega) (by omega)).mpr (by omega))]
      exact no _ (if_neg (fun q => c1 q.1))
theorem sX8_links {S : jS} {h : Nat → Int32} (h10 : hn h < 10) (e5 : h 5 = nI (hn h)) (e : S.2 (54, 0) = h) (u v w : Nat) : ∃ S', fX8_links S (nI u) (nI v) (nI w) = some S' ∧ jFr (fun _ => false) g545 S S' ∧ S'.2 (54, 0) = tL h u v w := by
  unfold fX8_links jlet
  simp only [if_pos j58, q5, e, e5, li_3m, li_6, li_p1, li_p2, jput_at]
  rw [if_pos (jIn_lit (by omega) (by omega)), if_pos (jIn_lit (by omega) (by omega)), if_pos (jIn_lit (by omega) (by omega)), nI_clamp (by omega), nI_clamp (by omega), nI_clamp (by omega)]
  refine ⟨_, rfl, (((jFr.put rfl).tr (jFr.put rfl)).tr (jFr.put rfl)).tr (jFr.put rfl), ?_⟩
  rw [jput_at]
  simp only [jup_self]
  rw [pk_un (by omega), pk_un (by omega), pk_un (by omega), e5, nI_1]
  rfl
theorem MI_l {T : Nat → Int32} {n k : Nat} {S : jS} {h : Nat → Int32} (H : TV h) (e : S.2 (54, 0) = h) (h200 : n ≤ 200) (hk : k ≤ 200) (hM : MT T n k S) : MI T n k 3 S (fX8_takesLink S) (fun u v w => if u < hm h ∧ v < hm h ∧ u ≠ v ∧ (1 ≤ w ∧ w ≤ 9) ∧ hn h < 10 then some (tL h u v w) else none) := by
  have h10 := H.2.2.1.1.2
  have h6 := H.1.2.1
  unfold fX8_takesLink
  refine MI_start (w := 3) h200 hk (by omega) (by omega) hM (fun S' F => ?_) (fun S' L e' F e54 hN hL e14 e55 => ?_)
  · dsimp only
    rw [if_pos rfl]
    unfold bX8_takesLink_81 bX8_takesLink_82
    rw [if_pos rfl, if_pos (Or.inl rfl)]
    exact ⟨_, rfl, jFr.rf⟩
  · rw [e] at e54
    have hu := getD_lt (by omega) hL 0
    have hv := getD_lt (by omega) hL 1
    have hw := getD_lt (by omega) hL 2
    have no : ∀ t : Option (Nat → Int32), t = none → ∃ r S'', bX8_takesLink_81 S' = some (r, S'') ∧ jFr (fun _ => false) g545 S' S'' ∧ ((r = 1 ∧ ∃ h', t = some h' ∧ S''.2 (54, 0) = h') ∨ (r = 0 ∧ t = none)) := by
      intro t ht
      unfold bX8_takesLink_81 bX8_takesLink_82
      rw [if_pos rfl, if_pos (Or.inl rfl)]
      exact ⟨_, _, rfl, jFr.rf, Or.inr ⟨rfl, ht⟩⟩
    dsimp only
    simp only [q0, q1, q2, q5]
    rw [if_neg (by decide), if_pos j03, e55 0 (by omega), sX8_isReadNode H e54 hu, jbind]
    dsimp only
    by_cases c1 : L.getD 0 0 < hm h
    · rw [if_pos c1, if_neg (by decide), if_pos j13, e55 1 (by omega), sX8_isReadNode H e54 hv, jbind]
      dsimp only
      by_cases c2 : L.getD 1 0 < hm h
      · rw [if_pos c2, if_neg (by decide), if_pos j03, if_pos j13, e55 0 (by omega), e55 1 (by omega)]
        by_cases c3 : L.getD 0 0 = L.getD 1 0
        · rw [if_pos (by rw [c3])]
          exact no _ (if_neg (fun q => q.2.2.1 c3))
        · rw [if_neg (fun q => c3 ((nI_eq (by omega) (by omega)).mp q)), if_pos j23, e55 2 (by omega), sX8_in, jbind, nI_toInt (by omega)]
          dsimp only
          by_cases c4 : 1 ≤ L.getD 2 0 ∧ L.getD 2 0 ≤ 9
          · rw [if_pos (show (1 : Int64).toInt ≤ (L.getD 2 0 : Int) ∧ (L.getD 2 0 : Int) ≤ (9 : Int64).toInt by
              rw [show (1 : Int64).toInt = 1 by decide, show (9 : Int64).toInt = 9 by decide]
              omega), if_neg (by decide), if_pos j58, e54, H.2.2.1.1.1]
            by_cases c5 : hn h < 10
            · rw [if_neg (fun q : (10 : Int32) ≤ nI (hn h) => by have := (nI_leI (a := 10) (b := hn h) (by omega) (by omega)).mp q; omega), if_pos (show L.getD 0 0 < hm h ∧ L.getD 1 0 < hm h ∧ L.getD 0 0 ≠ L.getD 1 0 ∧ (1 ≤ L.getD 2 0 ∧ L.getD 2 0 ≤ 9) ∧ hn h < 10 from ⟨c1, c2, c3, c4, c5⟩)]
              unfold bX8_takesLink_82
              obtain ⟨S2, b1, b2, b3⟩ := sX8_links c5 H.2.2.1.1.1 e54 (L.getD 0 0) (L.getD 1 0) (L.getD 2 0)
              rw [if_neg (by decide), if_pos j03, if_pos j13, if_pos j23, q0, q1, q2, e55 0 (by omega), e55 1 (by omega), e55 2 (by omega), b1, Option.bind_some, if_pos (Or.inr rfl)]
              exact ⟨_, _, rfl, b2, Or.inl ⟨rfl, _, rfl, b3⟩⟩
            · rw [if_pos (show (10 : Int32) ≤ nI (hn h) from (nI_leI (a := 10) (by omega) (by omega)).mpr (by omega))]
              exact no _ (if_neg (fun q => c5 q.2.2.2.2))
          · rw [if_neg (show ¬ ((1 : Int64).toInt ≤ (L.getD 2 0 : Int) ∧ (L.getD 2 0 : Int) ≤ (9 : Int64).toInt) by
              rw [show (1 : Int64).toInt = 1 by decide, show (9 : Int64).toInt = 9 by decide]
              omega), if_pos rfl]
            exact no _ (if_neg (fun q => c4 q.2.2.2.1))
      · rw [if_neg c2, if_pos rfl]
        exact no _ (if_neg (fun q => c2 q.2.1))
    · rw [if_neg c1, if_pos rfl]
      exact no _ (if_neg (fun q => c1 q.1))
/-- the loop over the goals, once it is not well -/
theorem mg_no {S : jS} {G : Nat} (hG : G ≤ 3) (e : S.2 (54, 0) 1 = nI G) : ∀ (d fu g : Nat), g + d = G → d < fu → fX8_takesGoal_39 fu S 0 (nI g) = some (0, S)
  | 0, fu, g, hd, hf => by
    obtain ⟨fu, rfl⟩ : ∃ m, fu = m + 1 := ⟨fu - 1, by omega⟩
    obtain rfl : g = G := by omega
    show bX8_takesGoal_39 (fX8_takesGoal_39 fu) S 0 (nI g) = _
    unfold bX8_takesGoal_39
    simp only [q1, e]
    rw [if_pos j18, if_pos ((nI_leI (by omega) (by omega)).mpr (Nat.le_refl _)), if_pos trivial, if_pos (Or.inl trivial)]
  | d + 1, fu, g, hd, hf => by
    obtain ⟨fu, rfl⟩ : ∃ m, fu = m + 1 := ⟨fu - 1, by omega⟩
    show bX8_takesGoal_39 (fX8_takesGoal_39 fu) S 0 (nI g) = _
    unfold bX8_takesGoal_39
    simp only [q1, e]
    rw [if_pos j18, if_neg (fun q => by have := (nI_leI (a := G) (b := g) (by omega) (by omega)).mp q; omega), if_pos trivial]
    unfold bX8_takesGoal_74 bX8_takesGoal_75 jlet
    rw [nI_1]
    exact mg_no hG e d fu (g + 1) (by omega) (by omega)
theorem mg_yes {S : jS} {h : Nat → Int32} (H : TV h) (e54 : S.2 (54, 0) = h) {u : Nat} (hu : u < 100) (eu : S.2 (55, 0) 0 = nI u) (h3 : hG h < 3) : ∀ (d fu g : Nat), g + d = hG h → d < fu → (∀ g', g' < g → hgo h g' ≠ u) → ∃ r S'', fX8_takesGoal_39 fu S 1 (nI g) = some (r, S'') ∧ jFr (fun _ => false) g545 S S'' ∧ ((r = 1 ∧ ∃ h', (if ∀ g, g < hG h → hgo h g ≠ u then some (tG h u) else none) = some h' ∧ S''.2 (54, 0) = h') ∨ (r = 0 ∧ (if ∀ g, g < hG h → hgo h g ≠ u then some (tG h u) else none) = none))
  | 0, fu, g, hd, hf, hno => by
    obtain ⟨fu, rfl⟩ : ∃ m, fu = m + 1 := ⟨fu - 1, by omega⟩
    obtain rfl : g = hG h := by omega
    show ∃ r S'', bX8_takesGoal_39 (fX8_takesGoal_39 fu) S 1 (nI (hG h)) = some (r, S'') ∧ _
    unfold bX8_takesGoal_39 jlet
    simp only [q0, q1, e54, H.2.1.1.1, li_2, eu, jput_at, jup_self, jput_put]
    rw [if_pos j18, if_pos ((nI_leI (by omega) (by omega)).mpr (Nat.le_refl _)), if_neg (by decide), if_pos j18, if_pos j03, if_pos (jIn_lit (by omega) (by omega)), if_pos j18, if_pos j18, if_pos (Or.inr trivial), if_pos hno, nI_clamp (by omega), pk_un (by omega), H.2.1.1.1, nI_1]
    exact ⟨1, _, rfl, jFr.put rfl, Or.inl ⟨rfl, _, rfl, jput_at⟩⟩
  | d + 1, fu, g, hd, hf, hno => by
    obtain ⟨fu, rfl⟩ : ∃ m, fu = m + 1 := ⟨fu - 1, by omega⟩
    have hgg := H.2.1.2.1 g (by omega)
    have h6 := H.1.2.1
    show ∃ r S'', bX8_takesGoal_39 (fX8_takesGoal_39 fu) S 1 (nI g) = some (r, S'') ∧ _
    unfold bX8_takesGoal_39
    simp only [q0, q1, e54, H.2.1.1.1, li_2, eu]
    rw [if_pos j18, if_neg (fun q => by have := (nI_leI (a := hG h) (b := g) (by omega) (by omega)).mp q; omega), if_neg (by decide), if_pos (jIn_lit (by omega) (by omega)), if_pos j03, nI_clamp (by omega), hgg.1]
    unfold bX8_takesGoal_74 bX8_takesGoal_75 jlet
    dsimp only
    rw [nI_1]
    by_cases c : hgo h g = u
    · rw [if_pos (by rw [c]), mg_no (G := hG h) (by omega) ((congrFun e54 1).trans H.2.1.1.1) d fu (g + 1) (by omega) (by omega)]
      exact ⟨0, S, rfl, jFr.rf, Or.inr ⟨rfl, if_neg (fun q => q g (by omega) c)⟩⟩
    · rw [if_neg (fun q => c ((nI_eq (by omega) (by omega)).mp q))]
      refine mg_yes H e54 hu eu h3 d fu (g + 1) (by omega) (by omega) (fun g' hg' => ?_)
      by_cases q : g' = g
      · rw [q]; exact c
      · exact hno g' (by omega)
theorem MI_g {T : Nat → Int32} {n k : Nat} {S : jS} {h : Nat → Int32} (H : TV h) (e : S.2 (54, 0) = h) (h200 : n ≤ 200) (hk : k ≤ 200) (hM : MT T n k S) : MI T n k 1 S (fX8_takesGoal S) (fun u _ _ => if u < hm h ∧ hG h < 3 ∧ ∀ g, g < hG h → hgo h g ≠ u then some (tG h u) else none) := by
  have h3 := H.2.1.1.2
  unfold fX8_takesGoal
  have no0 : ∀ S' : jS, S'.2 (54, 0) = h → bX8_takesGoal_35 S' = some (0, S') := fun S' q => by
    unfold bX8_takesGoal_35 bX8_takesGoal_36
    exact mg_no (S := S') (G := hG h) h3 ((congrFun q 1).trans H.2.1.1.1) (hG h) 5000 0 (by omega) (by omega)
  obtain ⟨r, S1, e1, F1, q⟩ := sX8_takesNumbers h200 (show 1 ≤ 3 by omega) (by omega) hM hk
  have F : jFr g14 g545 S S1 := F1.mono (fun _ h => h) (fun r h => by unfold g545; unfold g55 at h; rw [h]; exact Bool.or_true _)
  have e54 : S1.2 (54, 0) = h := (F1.2 _ (by decide)).trans e
  rw [show (1 : Int32) = nI 1 from rfl, e1, Option.bind_some]
  dsimp only
  rcases q with ⟨rfl, L, e', a1, a2, a3⟩ | ⟨rfl, a1⟩
  · have hu := getD_lt (b := 100) (by omega) (tNs_len a1).2.1 0
    have no : ∀ t : Nat → Nat → Nat → Option (Nat → Int32), t (L.getD 0 0) (L.getD 1 0) (L.getD 2 0) = none → MI T n k 1 S (some (0, S1)) t := by
      intro t ht
      refine ⟨0, S1, rfl, F, Or.inr ⟨rfl, fun L' e'' g => ?_⟩⟩
      obtain ⟨-, rfl, rfl⟩ := tNs_fun a1 g
      exact ht
    rw [if_neg (by decide), if_pos j03, q0, a3 0 (by omega), sX8_isReadNode H e54 hu, jbind]
    dsimp only
    rw [no0 S1 e54]
    by_cases c1 : L.getD 0 0 < hm h
    · rw [if_pos c1, if_neg (by decide), if_pos (show jIn (nI 1) 815 from j18), show (nI 1).toNatClampNeg = 1 from q1, e54, H.2.1.1.1]
      by_cases c2 : hG h < 3
      · rw [if_neg (fun q : (3 : Int32) ≤ nI (hG h) => by have := (nI_leI (a := 3) (b := hG h) (by omega) (by omega)).mp q; omega)]
        unfold bX8_takesGoal_36
        obtain ⟨r, S2, b1, b2, b3⟩ := mg_yes H e54 hu (a3 0 (by omega)) c2 (hG h) 5000 0 (by omega) (by omega) (fun g' q => absurd q (by omega))
        refine ⟨r, S2, b1, F.tr (b2.mono (fun _ h => by cases h) (fun _ h => h)), ?_⟩
        rcases b3 with ⟨rfl, h', d1, d2⟩ | ⟨rfl, d1⟩
        · refine Or.inl ⟨rfl, L, e', h', a1, ?_, (b2.1 _ rfl).trans a2, d2⟩
          rw [← d1]
          show (if L.getD 0 0 < hm h ∧ hG h < 3 ∧ ∀ g, g < hG h → hgo h g ≠ L.getD 0 0 then some (tG h (L.getD 0 0)) else none) = _
          by_cases c3 : ∀ g, g < hG h → hgo h g ≠ L.getD 0 0
          · rw [if_pos (show L.getD 0 0 < hm h ∧ hG h < 3 ∧ ∀ g, g < hG h → hgo h g ≠ L.getD 0 0 from ⟨c1, c2, c3⟩), if_pos c3]
          · rw [if_neg (fun q : L.getD 0 0 < hm h ∧ hG h < 3 ∧ ∀ g, g < hG h → hgo h g ≠ L.getD 0 0 => c3 q.2.2), if_neg c3]
        · refine Or.inr ⟨rfl, fun L' e'' g => ?_⟩
          obtain ⟨-, rfl, rfl⟩ := tNs_fun a1 g
          by_cases c3 : ∀ g, g < hG h → hgo h g ≠ L.getD 0 0
          · rw [if_pos c3] at d1
            cases d1
          · exact if_neg (fun q => c3 q.2.2)
      · rw [if_pos (show (3 : Int32) ≤ nI (hG h) from (nI_leI (a := 3) (by omega) (by omega)).mpr (by omega))]
        exact no _ (if_neg (fun q => c2 q.2.1))
    · rw [if_neg c1, if_pos rfl]
      exact no _ (if_neg (fun q => c1 q.1))
  · rw [if_pos rfl, no0 S1 e54]
    exact ⟨0, S1, rfl, F, Or.inr ⟨rfl, fun L' e' g => absurd g (a1 L' e')⟩⟩
