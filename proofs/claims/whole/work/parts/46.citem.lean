/-! ===== the class takes an item ===== -/
def NT (S : jS) (h : Nat → Int32) : Prop := NC 1 S h ∧ ∀ l, l < 10 → S.2 (24, 1) l = h (36 + l)
def gpR (r : jR) : Bool := (r.2 == 1) && (decide (1 ≤ r.1) && decide (r.1 ≤ 5))
def gqR (r : jR) : Bool := (r.2 == 1) && (decide (20 ≤ r.1) && decide (r.1 ≤ 25))
theorem sX7_within (S : jS) {u : Nat} (a b : Nat) {x y : Int32} (hu : u < 2 ^ 31) (ha : a < 2 ^ 31) (hb : b < 2 ^ 31) (hx : x = nI a) (hy : y = nI b) : fX7_within S (nI u) x y = some (if a ≤ u ∧ u ≤ b then 1 else 0, S) := by
  subst hx hy
  unfold fX7_within
  by_cases c : u < a
  · rw [if_pos ((nI_ltI hu ha).mpr c), if_neg (by omega)]
  · rw [if_neg (fun q => c ((nI_ltI hu ha).mp q))]
    by_cases c2 : b < u
    · rw [if_pos ((nI_ltI hb hu).mpr c2), if_neg (by omega)]
    · rw [if_neg (fun q => c2 ((nI_ltI hb hu).mp q)), if_pos (by omega)]
theorem sX2_hasNode {k : Nat} {S : jS} {u m : Nat} (hu : u < 2 ^ 31) (hm : m < 2 ^ 31) (e : S.1 (1, k) = nI m) : fX2_hasNode k S (nI u) = some (if u < m then 1 else 0, S) := by
  unfold fX2_hasNode
  rw [if_neg (nI_pos hu), e]
  by_cases c : m ≤ u
  · rw [if_pos ((nI_leI hm hu).mpr c), if_neg (by omega)]
  · rw [if_neg (fun q => c ((nI_leI hm hu).mp q)), if_pos (by omega)]
theorem sX2_hasGoal {k : Nat} {S : jS} {u m : Nat} (hu : u < 2 ^ 31) (hm : m < 2 ^ 31) (e : S.1 (2, k) = nI m) : fX2_hasGoal k S (nI u) = some (if u < m then 1 else 0, S) := by
  unfold fX2_hasGoal
  rw [if_neg (nI_pos hu), e]
  by_cases c : m ≤ u
  · rw [if_pos ((nI_leI hm hu).mpr c), if_neg (by omega)]
  · rw [if_neg (fun q => c ((nI_leI hm hu).mp q)), if_pos (by omega)]
theorem sX2_hasLink {k : Nat} {S : jS} {u m : Nat} (hu : u < 2 ^ 31) (hm : m < 2 ^ 31) (e : S.1 (3, k) = nI m) : fX2_hasLink k S (nI u) = some (if u < m then 1 else 0, S) := by
  unfold fX2_hasLink
  rw [if_neg (nI_pos hu), e]
  by_cases c : m ≤ u
  · rw [if_pos ((nI_leI hm hu).mpr c), if_neg (by omega)]
  · rw [if_neg (fun q => c ((nI_leI hm hu).mp q)), if_pos (by omega)]
theorem jbind {α β : Type} {c : Prop} [Decidable c] {a b : α} {S : jS} {f : α × jS → Option β} : (some (if c then a else b, S)).bind f = if c then f (a, S) else f (b, S) := by
  rw [Option.bind_some]
  by_cases h : c
  · rw [if_pos h, if_pos h]
  · rw [if_neg h, if_neg h]
/-- what an item must give -/
def CI (S : jS) (o : Option (Int32 × jS)) (t : Option (Nat → Int32)) : Prop := ∃ r S', o = some (r, S') ∧ jFr gpR gqR S S' ∧ ((r = 1 ∧ ∃ h', t = some h' ∧ NT S' h') ∨ (r = 0 ∧ t = none))
theorem CI_no {S : jS} {t : Option (Nat → Int32)} (h : t = none) : CI S (some (0, S)) t := ⟨0, S, rfl, jFr.rf, Or.inr ⟨rfl, h⟩⟩
theorem NT_scal {S : jS} {h : Nat → Int32} (H : TV h) (N : NT S h) {a : Nat} {j : Nat} {v : Int32} (hj : (a = 1 ∧ j = 0) ∨ (a = 4 ∧ j = 65) ∨ (a = 5 ∧ j = 64)) : NT (jset S (a, 1) v) (upd h j v) := by
  obtain ⟨⟨⟨n1, n2, n3, n4, n5⟩, n6, n7, n8⟩, n9⟩ := N
  have h3 := H.2.1.1.2
  have h10 := H.2.2.1.1.2
  have E : ∀ i, i ≠ 0 → i ≠ 64 → i ≠ 65 → upd h j v i = h i := fun i a1 a2 a3 => pk_un (by omega)
  have eG : hG (upd h j v) = hG h := congrArg jN (E 1 (by omega) (by omega) (by omega))
  have en : hn (upd h j v) = hn h := congrArg jN (E 5 (by omega) (by omega) (by omega))
  refine ⟨⟨?_, fun g hg => ?_, fun l hl => ?_, fun q hq => ?_⟩, fun l hl => ?_⟩
  · rcases hj with ⟨rfl, rfl⟩ | ⟨rfl, rfl⟩ | ⟨rfl, rfl⟩
    · exact ⟨pk_us.symm, n2, n3, n4, n5⟩
    · exact ⟨n1, n2, n3, pk_us.symm, n5⟩
    · exact ⟨n1, n2, n3, n4, pk_us.symm⟩
  · rw [eG] at hg
    rw [E _ (by omega) (by omega) (by omega)]
    exact n6 g hg
  · rw [en] at hl
    rw [E _ (by omega) (by omega) (by omega), E _ (by omega) (by omega) (by omega), E _ (by omega) (by omega) (by omega), E _ (by omega) (by omega) (by omega)]
    exact n7 l hl
  · rw [E _ (by omega) (by omega) (by omega)]
    exact n8 q hq
  · rw [E _ (by omega) (by omega) (by omega)]
    exact n9 l hl
theorem CI_b {S : jS} {h : Nat → Int32} (H : TV h) (N : NT S h) {u : Nat} (hu : u < 100) : CI S (fX2_takeB 1 S (nI u)) (if u ≤ 9 then some (upd h 64 (nI u)) else none) := by
  unfold fX2_takeB jlet
  rw [sX7_within S 0 9 (x := 0) (y := 9) (by omega) (by omega) (by omega) rfl rfl, jbind]
  dsimp only
  by_cases c : u ≤ 9
  · rw [if_pos ⟨by omega, c⟩, if_neg (by decide), if_pos c]
    exact ⟨1, _, rfl, jFr.set rfl, Or.inl ⟨rfl, _, rfl, NT_scal H N (Or.inr (Or.inr ⟨rfl, rfl⟩))⟩⟩
  · rw [if_neg (by omega), if_pos rfl, if_neg c]
    exact CI_no rfl
theorem CI_o {S : jS} {h : Nat → Int32} (H : TV h) (N : NT S h) {u : Nat} (hu : u < 100) : CI S (fX2_takeLaw 1 S (nI u)) (if u ≤ 1 then some (upd h 65 (nI u)) else none) := by
  unfold fX2_takeLaw jlet
  rw [sX7_within S 0 1 (x := 0) (y := 1) (by omega) (by omega) (by omega) rfl rfl, jbind]
  dsimp only
  by_cases c : u ≤ 1
  · rw [if_pos ⟨by omega, c⟩, if_neg (by decide), if_pos c]
    exact ⟨1, _, rfl, jFr.set rfl, Or.inl ⟨rfl, _, rfl, NT_scal H N (Or.inr (Or.inl ⟨rfl, rfl⟩))⟩⟩
  · rw [if_neg (by omega), if_pos rfl, if_neg c]
    exact CI_no rfl
theorem CI_n {S : jS} {h : Nat → Int32} (H : TV h) (N : NT S h) {u : Nat} (hu : u < 100) (h0 : hm h = 0) : CI S (fX2_takeNodes 1 S (nI u)) (if hm h = 0 ∧ 2 ≤ u ∧ u ≤ 6 then some (upd h 0 (nI u)) else none) := by
  unfold fX2_takeNodes jlet
  rw [sX7_within S 2 6 (x := 2) (y := 6) (by omega) (by omega) (by omega) rfl rfl, jbind]
  dsimp only
  by_cases c : 2 ≤ u ∧ u ≤ 6
  · rw [if_pos c, if_neg (by decide), if_pos ⟨h0, c⟩]
    exact ⟨1, _, rfl, jFr.set rfl, Or.inl ⟨rfl, _, rfl, NT_scal H N (Or.inl ⟨rfl, rfl⟩)⟩⟩
  · rw [if_neg c, if_pos rfl, if_neg (fun q => c q.2)]
    exact CI_no rfl
theorem CI_f {S : jS} {h : Nat → Int32} (H : TV h) (N : NT S h) {u v w : Nat} (hu : u < 100) (hv : v < 100) (hw : w < 100) : CI S (fX2_takeFeed 1 S (nI u) (nI v) (nI w)) (if u < hm h ∧ v < hG h ∧ hgo h v ≠ u ∧ w ≤ 9 then some (upd h (46 + (3 * u + v)) (nI w)) else none) := by
  have h3 := H.2.1.1.2
  have h6 := H.1.2.1
  have h10 := H.2.2.1.1.2
  have e1 : S.1 (1, 1) = nI (hm h) := N.1.1.1.trans H.1.1
  have e2 : S.1 (2, 1) = nI (hG h) := N.1.1.2.1.trans H.2.1.1.1
  unfold fX2_takeFeed fX2_hasQueue fX7_spot jlet
  rw [sX2_hasNode (by omega) (by omega) e1, jbind]
  dsimp only
  by_cases c1 : u < hm h
  · rw [if_pos c1, if_neg (by decide), sX2_hasGoal (by omega) (by omega) e2, jbind]
    dsimp only
    by_cases c2 : v < hG h
    · rw [if_pos c2, if_neg (by decide), if_pos (jIn_lit (by omega) (by omega)), nI_clamp (by omega), N.1.2.1 v c2, (H.2.1.2.1 v c2).1]
      have hg6 := (H.2.1.2.1 v c2).2
      by_cases c3 : hgo h v = u
      · rw [if_pos (by rw [c3]), Option.bind_some]
        dsimp only
        rw [if_pos rfl, if_neg (fun q => q.2.2.1 c3)]
        exact CI_no rfl
      · rw [if_neg (fun q => c3 ((nI_eq (by omega) (by omega)).mp q)), Option.bind_some]
        dsimp only
        rw [if_neg (by decide), sX7_within S 0 9 (x := 0) (y := 9) (by omega) (by omega) (by omega) rfl rfl, jbind]
        dsimp only
        by_cases c4 : w ≤ 9
        · rw [if_pos ⟨by omega, c4⟩, if_neg (by decide), Option.bind_some]
          dsimp only
          rw [li_m3, nI_add, if_pos (jIn_lit (by omega) (by omega)), nI_clamp (by omega), if_pos ⟨c1, c2, c3, c4⟩]
          refine ⟨1, _, rfl, jFr.put rfl, Or.inl ⟨rfl, _, rfl, ?_⟩⟩
          obtain ⟨⟨n0, n6, n7, n8⟩, n9⟩ := N
          have E : ∀ j, j < 46 ∨ 64 ≤ j → upd h (46 + (3 * u + v)) (nI w) j = h j := fun j hj => pk_un (by omega)
          have eG : hG (upd h (46 + (3 * u + v)) (nI w)) = hG h := congrArg jN (E 1 (by omega))
          have en : hn (upd h (46 + (3 * u + v)) (nI w)) = hn h := congrArg jN (E 5 (by omega))
          refine ⟨⟨?_, fun g hg => ?_, fun l hl => ?_, fun q hq => ?_⟩, fun l hl => ?_⟩
          · rw [E 0 (by omega), E 1 (by omega), E 5 (by omega), E 64 (by omega), E 65 (by omega)]
            exact n0
          · rw [eG] at hg
            rw [E _ (by omega)]
            exact n6 g hg
          · rw [en] at hl
            rw [E _ (by omega), E _ (by omega), E _ (by omega), E _ (by omega)]
            exact n7 l hl
          · rw [jput_at]
            by_cases c : q = 3 * u + v
            · rw [c, pk_us, pk_us]
            · rw [pk_un c, pk_un (by omega)]
              exact n8 q hq
          · rw [E _ (by omega)]
            exact n9 l hl
        · rw [if_neg (by omega), if_pos rfl, if_neg (fun q => c4 q.2.2.2)]
          exact CI_no rfl
    · rw [if_neg c2, if_pos rfl, Option.bind_some]
      dsimp only
      rw [if_pos rfl, if_neg (fun q => c2 q.2.1)]
      exact CI_no rfl
  · rw [if_neg c1, if_pos rfl, Option.bind_some]
    dsimp only
    rw [if_pos rfl, if_neg (fun q => c1 q.1)]
    exact CI_no rfl
theorem CI_g_loop {S : jS} {h : Nat → Int32} (H : TV h) (N : NT S h) {u : Nat} (hu : u < 100) (h3 : hG h < 3) : ∀ (d fu g : Nat), g + d = hG h → d < fu → (∀ g', g' < g → hgo h g' ≠ u) → CI S (fX2_takeGoal_20 1 fu S (nI u) (nI g)) (if ∀ g, g < hG h → hgo h g ≠ u then some (tG h u) else none)
  | 0, fu, g, hd, hf, hno => by
    obtain ⟨fu, rfl⟩ : ∃ m, fu = m + 1 := ⟨fu - 1, by omega⟩
    obtain rfl : g = hG h := by omega
    have e2 : S.1 (2, 1) = nI (hG h) := N.1.1.2.1.trans H.2.1.1.1
    show CI S (bX2_takeGoal_20 1 (fX2_takeGoal_20 1 fu) S (nI u) (nI (hG h))) _
    unfold bX2_takeGoal_20 jlet
    dsimp only
    rw [e2, if_pos ((nI_leI (by omega) (by omega)).mpr (Nat.le_refl _)), if_pos (jIn_lit (by omega) h3), if_pos hno, nI_clamp (by omega)]
    refine ⟨1, _, rfl, (jFr.put rfl).tr (jFr.set rfl), Or.inl ⟨rfl, _, rfl, ?_⟩⟩
    obtain ⟨⟨⟨n1, n2, n3, n4, n5⟩, n6, n7, n8⟩, n9⟩ := N
    have h10 := H.2.2.1.1.2
    have E : ∀ j, j = 0 ∨ 5 ≤ j → tG h u j = h j := fun j hj => by
      unfold tG
      rw [pk_un (by omega), pk_un (by omega)]
    have e1 : tG h u 1 = nI (hG h + 1) := pk_us
    have eG : hG (tG h u) = hG h + 1 := by
      show jN (tG h u 1) = _
      rw [e1, jN_nI (by omega)]
    have en : hn (tG h u) = hn h := congrArg jN (E 5 (by omega))
    refine ⟨⟨⟨?_, ?_, ?_, ?_, ?_⟩, fun g hg => ?_, fun l hl => ?_, fun q hq => ?_⟩, fun l hl => ?_⟩
    · rw [E 0 (by omega)]; exact n1
    · rw [e1]
      refine (jset_at).trans ?_
      have : (jput S (20, 1) (upd (S.2 (20, 1)) (hG h) (nI u))).1 (2, 1) = nI (hG h) := e2
      exact nI_1 _
    · rw [E 5 (by omega)]; exact n3
    · rw [E 65 (by omega)]; exact n4
    · rw [E 64 (by omega)]; exact n5
    · rw [eG] at hg
      rw [jsp_at]
      unfold tG
      rw [pk_un (show 2 + g ≠ 1 by omega)]
      by_cases c : g = hG h
      · rw [c, pk_us, pk_us]
      · rw [pk_un c, pk_un (by omega)]
        exact n6 g (by omega)
    · rw [en] at hl
      rw [E _ (by omega), E _ (by omega), E _ (by omega), E _ (by omega)]
      exact n7 l hl
    · rw [E _ (by omega)]
      exact n8 q hq
    · rw [E _ (by omega)]
      exact n9 l hl
  | d + 1, fu, g, hd, hf, hno => by
    obtain ⟨fu, rfl⟩ : ∃ m, fu = m + 1 := ⟨fu - 1, by omega⟩
    have e2 : S.1 (2, 1) = nI (hG h) := N.1.1.2.1.trans H.2.1.1.1
    have hgg := H.2.1.2.1 g (by omega)
    have h6 := H.1.2.1
    have ih := CI_g_loop H N hu h3 d fu (g + 1) (by omega) (by omega)
    show CI S (bX2_takeGoal_20 1 (fX2_takeGoal_20 1 fu) S (nI u) (nI g)) _
    unfold bX2_takeGoal_20 jlet
    dsimp only
    rw [e2, if_neg (fun q => by have := (nI_leI (a := hG h) (b := g) (by omega) (by omega)).mp q; omega), if_pos (jIn_lit (by omega) (by omega)), nI_clamp (n := g) (by omega), N.1.2.1 g (by omega), hgg.1]
    by_cases c : hgo h g = u
    · rw [if_pos (by rw [c]), if_neg (fun q => q g (by omega) c)]
      exact CI_no rfl
    · rw [if_neg (fun q => c ((nI_eq (by omega) (by omega)).mp q)), nI_1]
      refine ih (fun g' hg' => ?_)
      by_cases q : g' = g
      · rw [q]; exact c
      · exact hno g' (by omega)
theorem CI_g {S : jS} {h : Nat → Int32} (H : TV h) (N : NT S h) {u : Nat} (hu : u < 100) : CI S (fX2_takeGoal 1 S (nI u)) (if u < hm h ∧ hG h < 3 ∧ ∀ g, g < hG h → hgo h g ≠ u then some (tG h u) else none) := by
  have h6 := H.1.2.1
  have h3 := H.2.1.1.2
  have e1 : S.1 (1, 1) = nI (hm h) := N.1.1.1.trans H.1.1
  have e2 : S.1 (2, 1) = nI (hG h) := N.1.1.2.1.trans H.2.1.1.1
  unfold fX2_takeGoal
  rw [sX2_hasNode (by omega) (by omega) e1, jbind]
  dsimp only
  by_cases c1 : u < hm h
  · rw [if_pos c1, if_neg (by decide), e2]
    by_cases c2 : hG h < 3
    · rw [if_pos (show nI (hG h) < (3 : Int32) from (nI_ltI (b := 3) (by omega) (by omega)).mpr c2)]
      have := CI_g_loop H N hu c2 (hG h) 5000 0 (by omega) (by omega) (fun g' q => absurd q (by omega))
      by_cases c3 : ∀ g, g < hG h → hgo h g ≠ u
      · rw [if_pos c3] at this
        rw [if_pos ⟨c1, c2, c3⟩]
        exact this
      · rw [if_neg c3] at this
        rw [if_neg (fun q => c3 q.2.2)]
        exact this
    · rw [if_neg (fun q : nI (hG h) < (3 : Int32) => c2 ((nI_ltI (b := 3) (by omega) (by omega)).mp q)), if_neg (fun q => c2 q.2.1)]
      exact CI_no rfl
  · rw [if_neg c1, if_pos rfl, if_neg (fun q => c1 q.1)]
    exact CI_no rfl

theorem CI_l {S : jS} {h : Nat → Int32} (H : TV h) (N : NT S h) {u v w : Nat} (hu : u < 100) (hv : v < 100) (hw : w < 100) : CI S (fX2_takeLink 1 S (nI u) (nI v) (nI w)) (if u < hm h ∧ v < hm h ∧ u ≠ v ∧ (1 ≤ w ∧ w ≤ 9) ∧ hn h < 10 then some (tL h u v w) else none) := by
  have h3 := H.2.1.1.2
  have h6 := H.1.2.1
  have h10 := H.2.2.1.1.2
  have e1 : S.1 (1, 1) = nI (hm h) := N.1.1.1.trans H.1.1
  have e3 : S.1 (3, 1) = nI (hn h) := N.1.1.2.2.1.trans H.2.2.1.1.1
  unfold fX2_takeLink
  rw [sX2_hasNode (by omega) (by omega) e1, jbind]
  dsimp only
  by_cases c1 : u < hm h
  · rw [if_pos c1, if_neg (by decide), sX2_hasNode (by omega) (by omega) e1, jbind]
    dsimp only
    by_cases c2 : v < hm h
    · rw [if_pos c2, if_neg (by decide)]
      by_cases c3 : u = v
      · rw [if_pos (by rw [c3]), if_neg (fun q => q.2.2.1 c3)]
        exact CI_no rfl
      · rw [if_neg (fun q => c3 ((nI_eq (by omega) (by omega)).mp q)), sX7_within S 1 9 (x := 1) (y := 9) (by omega) (by omega) (by omega) rfl rfl, jbind]
        dsimp only
        by_cases c4 : 1 ≤ w ∧ w ≤ 9
        · rw [if_pos c4, if_neg (by decide), e3]
          by_cases c5 : hn h < 10
          · rw [if_pos (show nI (hn h) < (10 : Int32) from (nI_ltI (b := 10) (by omega) (by omega)).mpr c5), if_pos (jIn_lit (by omega) c5), nI_clamp (by omega), if_pos ⟨c1, c2, c3, c4, c5⟩]
            unfold jlet
            dsimp only
            have f1 : ∀ f, (jput S (21, 1) f).1 (3, 1) = nI (hn h) := fun f => e3
            rw [f1, if_pos (jIn_lit (by omega) c5), if_pos (jIn_lit (by omega) c5), nI_clamp (by omega)]
            refine ⟨1, _, rfl, (((jFr.put rfl).tr (jFr.put rfl)).tr (jFr.put rfl)).tr (jFr.set rfl), Or.inl ⟨rfl, _, rfl, ?_⟩⟩
            obtain ⟨⟨⟨n1, n2, n3, n4, n5⟩, n6, n7, n8⟩, n9⟩ := N
            have E : ∀ j, j < 5 ∨ 36 ≤ j → tL h u v w j = h j := fun j hj => by
              unfold tL
              rw [pk_un (by omega), pk_un (by omega), pk_un (by omega), pk_un (by omega)]
            have eG : hG (tL h u v w) = hG h := congrArg jN (E 1 (by omega))
            have e5 : tL h u v w 5 = nI (hn h + 1) := pk_us
            have en : hn (tL h u v w) = hn h + 1 := by
              show jN (tL h u v w 5) = _
              rw [e5, jN_nI (by omega)]
            refine ⟨⟨⟨?_, ?_, ?_, ?_, ?_⟩, fun g hg => ?_, fun l hl => ?_, fun q hq => ?_⟩, fun l hl => ?_⟩
            · rw [E 0 (by omega)]; exact n1
            · rw [E 1 (by omega)]; exact n2
            · rw [e5]
              refine (jset_at).trans ?_
              have : ∀ f f' f'', (jput (jput (jput S (21, 1) f) (22, 1) f') (23, 1) f'').1 (3, 1) = nI (hn h) := fun f f' f'' => e3
              exact nI_1 _
            · rw [E 65 (by omega)]; exact n4
            · rw [E 64 (by omega)]; exact n5
            · rw [eG] at hg
              rw [E _ (by omega)]
              exact n6 g hg
            · rw [en] at hl
              rw [E (36 + l) (by omega)]
              have a1 : ∀ f f' f'' z, (jset (jput (jput (jput S (21, 1) f) (22, 1) f') (23, 1) f'') (3, 1) z).2 (21, 1) = f := fun _ _ _ _ => rfl
              have a2 : ∀ f f' f'' z, (jset (jput (jput (jput S (21, 1) f) (22, 1) f') (23, 1) f'') (3, 1) z).2 (22, 1) = f' := fun _ _ _ _ => rfl
              have a3 : ∀ f f' f'' z, (jset (jput (jput (jput S (21, 1) f) (22, 1) f') (23, 1) f'') (3, 1) z).2 (23, 1) = f'' := fun _ _ _ _ => rfl
              have a4 : ∀ f f' f'' z, (jset (jput (jput (jput S (21, 1) f) (22, 1) f') (23, 1) f'') (3, 1) z).2 (24, 1) = S.2 (24, 1) := fun _ _ _ _ => rfl
              have a5 : ∀ f, jup S.2 (21, 1) f (22, 1) = S.2 (22, 1) := fun _ => rfl
              have a6 : ∀ f f', jup (jup S.2 (21, 1) f) (22, 1) f' (23, 1) = S.2 (23, 1) := fun _ _ => rfl
              rw [a1, a2, a3, a4, a6, a5, n9 l (by omega)]
              unfold tL
              by_cases c : l = hn h
              · subst c
                rw [pk_us, pk_us, pk_us]
                refine ⟨?_, ?_, ?_, rfl⟩
                · rw [pk_un (by omega), pk_un (by omega), pk_un (by omega), pk_us]
                · rw [pk_un (by omega), pk_un (by omega), show 7 + 3 * hn h = 6 + 3 * hn h + 1 by omega, pk_us]
                · rw [pk_un (by omega), show 8 + 3 * hn h = 6 + 3 * hn h + 2 by omega, pk_us]
              · obtain ⟨m1, m2, m3, -⟩ := n7 l (by omega)
                rw [pk_un c, pk_un c, pk_un c, m1, m2, m3]
                refine ⟨?_, ?_, ?_, rfl⟩
                · rw [pk_un (by omega), pk_un (by omega), pk_un (by omega), pk_un (by omega)]
                · rw [pk_un (by omega), pk_un (by omega), pk_un (by omega), pk_un (by omega)]
                · rw [pk_un (by omega), pk_un (by omega), pk_un (by omega), pk_un (by omega)]
            · rw [E _ (by omega)]
              exact n8 q hq
            · rw [E _ (by omega)]
              exact n9 l hl
          · rw [if_neg (fun q : nI (hn h) < (10 : Int32) => c5 ((nI_ltI (b := 10) (by omega) (by omega)).mp q)), if_neg (fun q => c5 q.2.2.2.2)]
            exact CI_no rfl
        · rw [if_neg c4, if_pos rfl, if_neg (fun q => c4 q.2.2.2.1)]
          exact CI_no rfl
    · rw [if_neg c2, if_pos rfl, if_neg (fun q => c2 q.2.1)]
      exact CI_no rfl
  · rw [if_neg c1, if_pos rfl, if_neg (fun q => c1 q.1)]
    exact CI_no rfl
theorem or_same {a v : Nat} (h : a.testBit v = true) : a ||| 2 ^ v = a := by
  apply Nat.eq_of_testBit_eq
  intro i
  rw [or_bits]
  by_cases c : i = v
  · rw [if_pos c, c, h]
  · rw [if_neg c]
theorem xor_or {a v : Nat} (h : a.testBit v = false) : a ^^^ 2 ^ v = a ||| 2 ^ v := by
  apply Nat.eq_of_testBit_eq
  intro i
  rw [or_bits, Nat.testBit_xor, Nat.testBit_two_pow]
  by_cases c : i = v
  · subst c; simp [h]
  · rw [if_neg c]
    have : ¬ v = i := fun q => c q.symm
    simp [this]
theorem sX2_turnClash {k : Nat} {S : jS} {u v a b : Nat} (hu : u < 10) (hv : v < 10) (huv : u ≠ v) (e1 : S.2 (24, k) u = nI a) (e2 : S.2 (24, k) v = nI b) : fX2_turnClash k S (nI u) (nI v) = some (jput S (24, k) (upd (upd (S.2 (24, k)) u (nI (a ^^^ 2 ^ v))) v (nI (b ^^^ 2 ^ u)))) := by
  unfold fX2_turnClash jlet
  rw [if_pos (jIn_lit (by omega) hu), if_pos (jIn_lit (by omega) hu)]
  dsimp only
  rw [if_pos (jIn_lit (by omega) hv), if_pos (jIn_lit (by omega) hv), nI_clamp (by omega), nI_clamp (by omega), e1, nb_pow v (by omega), nb_pow u (by omega), nb_xor, jup_self, pk_un (Ne.symm huv), e2, nb_xor, jput_put]
theorem sX2_doClash {k : Nat} {S : jS} {u v a : Nat} (hu : u < 10) (hv : v < 10) (ha : a < 2 ^ 31) (e1 : S.2 (24, k) u = nI a) : fX2_doClash k S (nI u) (nI v) = some (if a.testBit v then 1 else 0, S) := by
  unfold fX2_doClash
  rw [if_pos (jIn_lit (by omega) hu), nI_clamp (by omega), e1]
  by_cases c : a.testBit v = true
  · rw [if_pos ((nb_bit1 ha (by omega)).mpr c), if_pos c]
  · rw [if_neg (fun q => c ((nb_bit1 ha (by omega)).mp q)), if_neg c]
theorem CI_x {S : jS} {h : Nat → Int32} (H : TV h) (N : NT S h) {u v : Nat} (hu : u < 100) (hv : v < 100) : CI S (fX2_takeClash 1 S (nI u) (nI v)) (if u < hn h ∧ v < hn h ∧ u ≠ v then some (tC h u v (hcl h u ||| 2 ^ v) (hcl h v ||| 2 ^ u)) else none) := by
  have h3 := H.2.1.1.2
  have h10 := H.2.2.1.1.2
  have e3 : S.1 (3, 1) = nI (hn h) := N.1.1.2.2.1.trans H.2.2.1.1.1
  have clb : ∀ a, hcl h a < 2 ^ 31 := fun a => Nat.lt_of_lt_of_le (H.2.2.2.1.2.2.2 a) (Nat.pow_le_pow_right (by omega) (by omega))
  unfold fX2_takeClash
  rw [sX2_hasLink (by omega) (by omega) e3, jbind]
  dsimp only
  by_cases c1 : u < hn h
  · rw [if_pos c1, if_neg (by decide), sX2_hasLink (by omega) (by omega) e3, jbind]
    dsimp only
    by_cases c2 : v < hn h
    · rw [if_pos c2, if_neg (by decide)]
      by_cases c3 : u = v
      · rw [if_pos (by rw [c3]), if_neg (fun q => q.2.2 c3)]
        exact CI_no rfl
      · have eu : S.2 (24, 1) u = nI (hcl h u) := (N.2 u (by omega)).trans (H.2.2.2.1.1 u c1)
        have ev : S.2 (24, 1) v = nI (hcl h v) := (N.2 v (by omega)).trans (H.2.2.2.1.1 v c2)
        rw [if_neg (fun q => c3 ((nI_eq (by omega) (by omega)).mp q)), sX2_doClash (by omega) (by omega) (clb u) eu, jbind]
        dsimp only
        by_cases c4 : (hcl h u).testBit v = true
        · have c5 : (hcl h v).testBit u = true := by rw [H.2.2.2.1.2.1]; exact c4
          rw [if_pos c4, if_neg (by decide), if_pos (show u < hn h ∧ v < hn h ∧ u ≠ v from ⟨c1, c2, c3⟩), or_same c4, or_same c5]
          refine ⟨1, S, rfl, jFr.rf, Or.inl ⟨rfl, h, ?_, N⟩⟩
          unfold tC
          rw [upd_same (f := h) (H.2.2.2.1.1 u c1), upd_same (H.2.2.2.1.1 v c2)]
        · have c4' : (hcl h u).testBit v = false := by cases q : (hcl h u).testBit v; rfl; exact absurd q c4
          have c5 : (hcl h v).testBit u = false := by rw [H.2.2.2.1.2.1]; exact c4'
          rw [if_neg c4, if_pos rfl, if_pos (show u < hn h ∧ v < hn h ∧ u ≠ v from ⟨c1, c2, c3⟩), sX2_turnClash (by omega) (by omega) c3 eu ev, Option.bind_some, xor_or c4', xor_or c5]
          refine ⟨1, _, rfl, jFr.put rfl, Or.inl ⟨rfl, _, rfl, ?_⟩⟩
          obtain ⟨⟨⟨n1, n2, n3, n4, n5⟩, n6, n7, n8⟩, n9⟩ := N
          have E : ∀ j, j < 36 ∨ 46 ≤ j → tC h u v (hcl h u ||| 2 ^ v) (hcl h v ||| 2 ^ u) j = h j := fun j hj => by
            unfold tC
            rw [pk_un (by omega), pk_un (by omega)]
          have eG : hG (tC h u v (hcl h u ||| 2 ^ v) (hcl h v ||| 2 ^ u)) = hG h := congrArg jN (E 1 (by omega))
          have en : hn (tC h u v (hcl h u ||| 2 ^ v) (hcl h v ||| 2 ^ u)) = hn h := congrArg jN (E 5 (by omega))
          have cc : ∀ l, l < 10 → (jput S (24, 1) (upd (upd (S.2 (24, 1)) u (nI (hcl h u ||| 2 ^ v))) v (nI (hcl h v ||| 2 ^ u)))).2 (24, 1) l = tC h u v (hcl h u ||| 2 ^ v) (hcl h v ||| 2 ^ u) (36 + l) := by
            intro l hl
            rw [jput_at]
            unfold tC
            by_cases d1 : l = v
            · rw [d1, pk_us, pk_us]
            · rw [pk_un d1, pk_un (show 36 + l ≠ 36 + v by omega)]
              by_cases d2 : l = u
              · rw [d2, pk_us, pk_us]
              · rw [pk_un d2, pk_un (show 36 + l ≠ 36 + u by omega)]
                exact n9 l hl
          refine ⟨⟨⟨?_, ?_, ?_, ?_, ?_⟩, fun g hg => ?_, fun l hl => ?_, fun q hq => ?_⟩, cc⟩
          · rw [E 0 (by omega)]; exact n1
          · rw [E 1 (by omega)]; exact n2
          · rw [E 5 (by omega)]; exact n3
          · rw [E 65 (by omega)]; exact n4
          · rw [E 64 (by omega)]; exact n5
          · rw [eG] at hg
            rw [E _ (by omega)]
            exact n6 g hg
          · rw [en] at hl
            rw [E _ (by omega), E _ (by omega), E _ (by omega)]
            obtain ⟨m1, m2, m3, -⟩ := n7 l hl
            exact ⟨m1, m2, m3, cc l (by omega)⟩
          · rw [E _ (by omega)]
            exact n8 q hq
    · rw [if_neg c2, if_pos rfl, if_neg (fun q => c2 q.2.1)]
      exact CI_no rfl
  · rw [if_neg c1, if_pos rfl, if_neg (fun q => c1 q.1)]
    exact CI_no rfl
/-- a truth value goes through -/
theorem CI_tr {S : jS} {o : Option (Int32 × jS)} {t : Option (Nat → Int32)} (h : CI S o t) : CI S (o.bind fun y => if y.1 = 0 ∨ y.1 = 1 then some (y.1, y.2) else none) t := by
  obtain ⟨r, S', rfl, F, h⟩ := h
  refine ⟨r, S', ?_, F, h⟩
  rw [Option.bind_some]
  dsimp only
  rw [if_pos]
  rcases h with ⟨rfl, -⟩ | ⟨rfl, -⟩
  · exact Or.inr rfl
  · exact Or.inl rfl
theorem sX2_takeItem {S : jS} {h : Nat → Int32} (H : TV h) (N : NT S h) {c x3 x4 : Int32} {u v w : Nat} (hc : tW c ≠ 0) (hu : u < 100) (hv : v < 100) (hw : w < 100) (h3 : 2 ≤ tW c → x3 = nI v) (h4 : 3 ≤ tW c → x4 = nI w) : CI S (fX2_takeItem 1 S c (nI u) x3 x4) (tI h c u v w) := by
  have e1 : S.1 (1, 1) = nI (hm h) := N.1.1.1.trans H.1.1
  have h6 := H.1.2.1
  have z0 : nI (hm h) = 0 ↔ hm h = 0 := nI_eq (b := 0) (by omega) (by omega)
  unfold fX2_takeItem bX2_takeItem_11 bX2_takeItem_23
  rw [e1]
  by_cases c1 : c = 110
  · subst c1
    have t : tI h 110 u v w = if hm h = 0 ∧ 2 ≤ u ∧ u ≤ 6 then some (upd h 0 (nI u)) else none := if_pos rfl
    rw [t, if_pos (show (110 : Int32) = 110 from rfl)]
    by_cases c0 : hm h = 0
    · rw [if_pos (z0.mpr c0), if_pos (show (1 : Int32) = 1 from rfl), if_neg (show ¬ (110 : Int32) = 98 by decide), if_neg (show ¬ (110 : Int32) = 102 by decide), if_neg (show ¬ (110 : Int32) = 103 by decide), if_neg (show ¬ (110 : Int32) = 108 by decide), if_pos (show (110 : Int32) = 110 from rfl)]
      exact CI_tr (CI_n H N hu c0)
    · rw [if_neg (fun q => c0 (z0.mp q)), if_neg (show ¬ (1 : Int32) = 0 by decide), if_neg (fun q : hm h = 0 ∧ 2 ≤ u ∧ u ≤ 6 => c0 q.1)]
      exact CI_no rfl
  rw [if_neg c1]
  by_cases c0 : hm h = 0
  · have t : tI h c u v w = none := by unfold tI; rw [if_neg c1, if_pos c0]
    rw [t, if_pos (z0.mpr c0), if_neg (show ¬ (0 : Int32) = 1 by decide)]
    exact CI_no rfl
  rw [if_neg (fun q => c0 (z0.mp q)), if_pos (show (0 : Int32) = 0 from rfl)]
  by_cases c3 : c = 98
  · have t : tI h c u v w = if u ≤ 9 then some (upd h 64 (nI u)) else none := by unfold tI; rw [if_neg c1, if_neg c0, if_pos c3]
    rw [t, if_pos c3]
    exact CI_tr (CI_b H N hu)
  rw [if_neg c3]
  by_cases c4 : c = 102
  · have t : tI h c u v w = if u < hm h ∧ v < hG h ∧ hgo h v ≠ u ∧ w ≤ 9 then some (upd h (46 + (3 * u + v)) (nI w)) else none := by unfold tI; rw [if_neg c1, if_neg c0, if_neg c3, if_pos c4]
    rw [t, if_pos c4, h3 (by rw [c4]; decide), h4 (by rw [c4]; decide)]
    exact CI_tr (CI_f H N hu hv hw)
  rw [if_neg c4]
  by_cases c5 : c = 103
  · have t : tI h c u v w = if u < hm h ∧ hG h < 3 ∧ ∀ g, g < hG h → hgo h g ≠ u then some (tG h u) else none := by unfold tI; rw [if_neg c1, if_neg c0, if_neg c3, if_neg c4, if_pos c5]
    rw [t, if_pos c5]
    exact CI_tr (CI_g H N hu)
  rw [if_neg c5]
  by_cases c6 : c = 108
  · have t : tI h c u v w = if u < hm h ∧ v < hm h ∧ u ≠ v ∧ (1 ≤ w ∧ w ≤ 9) ∧ hn h < 10 then some (tL h u v w) else none := by unfold tI; rw [if_neg c1, if_neg c0, if_neg c3, if_neg c4, if_neg c5, if_pos c6]
    rw [t, if_pos c6, h3 (by rw [c6]; decide), h4 (by rw [c6]; decide)]
    exact CI_tr (CI_l H N hu hv hw)
  rw [if_neg c6, if_neg c1]
  by_cases c8 : c = 120
  · have t : tI h c u v w = if u < hn h ∧ v < hn h ∧ u ≠ v then some (tC h u v (hcl h u ||| 2 ^ v) (hcl h v ||| 2 ^ u)) else none := by unfold tI; rw [if_neg c1, if_neg c0, if_neg c3, if_neg c4, if_neg c5, if_neg c6, if_neg (show ¬ c = 111 by rw [c8]; decide), if_pos c8]
    rw [t, if_pos c8, h3 (by rw [c8]; decide)]
    exact CI_tr (CI_x H N hu hv)
  rw [if_neg c8]
  by_cases c7 : c = 111
  · have t : tI h c u v w = if u ≤ 1 then some (upd h 65 (nI u)) else none := by unfold tI; rw [if_neg c1, if_neg c0, if_neg c3, if_neg c4, if_neg c5, if_neg c6, if_pos c7]
    rw [t]
    exact CI_tr (CI_o H N hu)
  · exfalso
    apply hc
    unfold tW
    rw [if_neg c3, if_neg c4, if_neg c5, if_neg c6, if_neg c1, if_neg c7, if_neg c8]
