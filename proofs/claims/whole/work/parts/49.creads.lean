/-! ===== the class reads a text ===== -/
def gqRn (r : jR) : Bool := gqR r || r == (11, 0)
theorem sX2_clear (S : jS) : ∃ S', fX2_clear 1 S = some S' ∧ NT S' (fun _ => 0) ∧ jFr gpR gqRn S S' := by
  unfold fX2_clear jlet
  dsimp only
  rw [sJ7 (N := 10) rfl (by omega), Option.bind_some, sJ7 (N := 18) rfl (by omega), Option.bind_some]
  refine ⟨_, rfl, ⟨⟨⟨rfl, rfl, rfl, rfl, rfl⟩, fun g hg => ?_, fun l hl => ?_, fun q hq => ?_⟩, fun l hl => ?_⟩, ((((((jFr.set rfl).tr (jFr.set rfl)).tr (jFr.set rfl)).tr (jFr.set rfl)).tr (jFr.set rfl)).tr (jFr.put rfl)).tr (jFr.put rfl)⟩
  · exact absurd (show g < jN 0 from hg) (by rw [show jN 0 = 0 by decide]; omega)
  · exact absurd (show l < jN 0 from hl) (by rw [show jN 0 = 0 by decide]; omega)
  · rw [jput_at]
    exact if_pos hq
  · rw [jput_o (by decide), jput_at]
    exact if_pos hl
theorem sX5_numbersOf (S : jS) (c : Int32) : fX5_numbersOf S c = some (nI (tW c), S) := by
  unfold fX5_numbersOf tW
  by_cases c1 : c = 98
  · rw [if_pos c1, if_pos c1]; rfl
  rw [if_neg c1, if_neg c1]
  by_cases c2 : c = 102
  · rw [if_pos c2, if_pos c2]; rfl
  rw [if_neg c2, if_neg c2]
  by_cases c3 : c = 103
  · rw [if_pos c3, if_pos c3]; rfl
  rw [if_neg c3, if_neg c3]
  by_cases c4 : c = 108
  · rw [if_pos c4, if_pos c4]; rfl
  rw [if_neg c4, if_neg c4]
  by_cases c5 : c = 110
  · rw [if_pos c5, if_pos c5]; rfl
  rw [if_neg c5, if_neg c5]
  by_cases c6 : c = 111
  · rw [if_pos c6, if_pos c6]; rfl
  rw [if_neg c6, if_neg c6]
  by_cases c7 : c = 120
  · rw [if_pos c7, if_pos c7]; rfl
  rw [if_neg c7, if_neg c7]
  rfl
theorem tW_le (c : Int32) : tW c ≤ 3 := by
  unfold tW
  repeat' split
  all_goals omega
theorem NT_fr {S S' : jS} {h : Nat → Int32} (N : NT S h) (e1 : ∀ r, gpR r = true → S'.1 r = S.1 r) (e2 : ∀ r, gqR r = true → S'.2 r = S.2 r) : NT S' h := by
  obtain ⟨⟨⟨n1, n2, n3, n4, n5⟩, n6, n7, n8⟩, n9⟩ := N
  refine ⟨⟨⟨(e1 _ rfl).trans n1, (e1 _ rfl).trans n2, (e1 _ rfl).trans n3, (e1 _ rfl).trans n4, (e1 _ rfl).trans n5⟩, fun g hg => ?_, fun l hl => ?_, fun q hq => ?_⟩, fun l hl => ?_⟩
  · rw [e2 _ rfl]; exact n6 g hg
  · rw [e2 (21, 1) rfl, e2 (22, 1) rfl, e2 (23, 1) rfl, e2 (24, 1) rfl]; exact n7 l hl
  · rw [e2 _ rfl]; exact n8 q hq
  · rw [e2 _ rfl]; exact n9 l hl
def CX (T : Nat → Int32) (n k : Nat) (h : Nat → Int32) (e : Nat) (S : jS) (o : Option (Int32 × jS)) : Prop := ∃ r S', o = some (r, S') ∧ jFr gpR gqRn S S' ∧ ((r = 1 ∧ ∃ h', tIt T n k h h' (e + 1) ∧ NT S' h') ∨ (r = 0 ∧ ∀ h' e', ¬ tIt T n k h h' e'))
theorem sX5_readItem {T : Nat → Int32} {n k e : Nat} {h : Nat → Int32} {S : jS} (H : TV h) (N : NT S h) (h200 : n ≤ 200) (he : e < n) (hTe : T e = 59) (hT : S.2 (10, 0) = T) (hk : k ≤ e) (h5 : ∀ j, k ≤ j → j < e → T j ≠ 59) : CX T n k h e S (fX5_readItem 1 S (nI k) (nI e)) := by
  unfold fX5_readItem
  simp only [if_pos (jIn_lit (show k < 2 ^ 31 by omega) (show k < 200 by omega)), if_pos j03, if_pos j13, if_pos j23, q0, q1, q2, nI_clamp (show k < 2 ^ 31 by omega)]
  rw [sX5_numbersOf, hT, Option.bind_some]
  dsimp only
  have w3 := tW_le (T k)
  by_cases c0 : tW (T k) = 0
  · rw [if_pos (by rw [c0]; rfl)]
    refine ⟨0, S, rfl, jFr.rf, Or.inr ⟨rfl, fun h' e' q => ?_⟩⟩
    obtain ⟨L, q1, -⟩ := q
    rw [c0] at q1
    exact q1
  · have hke : k < e := by
      by_cases q : k = e
      · exfalso
        apply c0
        rw [q, hTe]
        rfl
      · omega
    rw [if_neg (fun q : nI (tW (T k)) = 0 => c0 ((nI_eq (b := 0) (by omega) (by omega)).mp q)), nI_1]
    obtain ⟨r, S1, e1, F1, -, m⟩ := sX5_readNumbers (S := S) (k := k + 1) (show e < 200 by omega) he hTe hT (by omega) (fun j a b => h5 j (by omega) b)
    have F : jFr gpR gqRn S S1 := F1.mono (fun _ h => by cases h) (fun r h => by unfold gqRn; unfold gq11 at h; rw [h]; exact Bool.or_true _)
    have N1 : NT S1 h := NT_fr N (fun r _ => F1.1 r rfl) (fun r hr => F1.2 r (by
      unfold gq11
      cases q : r == (11, 0)
      · rfl
      · rw [eq_of_beq q] at hr
        cases hr))
    rw [e1, Option.bind_some]
    dsimp only
    rcases m with ⟨m, L, m1, m2, rfl, m4⟩ | ⟨rfl, m1⟩
    · by_cases c1 : m = tW (T k)
      · have hL := fun i => getD_lt (b := 100) (by omega) (tNs_len m1).2.1 i
        have hT1 : S1.2 (10, 0) = T := (F1.2 _ rfl).trans hT
        rw [if_pos (by rw [Nat.zero_add, c1]), hT1, show S1.2 (11, 0) 0 = nI (L.getD 0 0) from m4 0 (by omega)]
        obtain ⟨r, S2, b1, b2, b3⟩ := CI_tr (sX2_takeItem H N1 c0 (hL 0) (hL 1) (hL 2) (x3 := S1.2 (11, 0) 1) (x4 := S1.2 (11, 0) 2) (fun q => by have := m4 1 (by omega); rwa [Nat.zero_add] at this) (fun q => by have := m4 2 (by omega); rwa [Nat.zero_add] at this))
        refine ⟨r, S2, b1, F.tr (b2.mono (fun _ h => h) (fun r h => by unfold gqRn; rw [h]; rfl)), ?_⟩
        rcases b3 with ⟨rfl, h', b4, b5⟩ | ⟨rfl, b4⟩
        · exact Or.inl ⟨rfl, h', ⟨L, by rw [← c1]; exact m1, b4⟩, b5⟩
        · refine Or.inr ⟨rfl, fun h' e' q => ?_⟩
          obtain ⟨L', q1', q2'⟩ := q
          obtain ⟨-, rfl, rfl⟩ := tNs_fun m1 q1'
          rw [b4] at q2'
          cases q2'
      · rw [if_neg (fun q => c1 (by rw [Nat.zero_add] at q; exact (nI_eq (by omega) (by omega)).mp q))]
        refine ⟨0, S1, rfl, F, Or.inr ⟨rfl, fun h' e' q => ?_⟩⟩
        obtain ⟨L', q1', q2'⟩ := q
        exact c1 (tNs_fun m1 q1').1
    · rw [if_neg (fun q : (0 : Int32) = nI (tW (T k)) => c0 ((nI_eq (b := 0) (by omega) (by omega)).mp q.symm))]
      refine ⟨0, S1, rfl, F, Or.inr ⟨rfl, fun h' e' q => ?_⟩⟩
      obtain ⟨L', q1', q2'⟩ := q
      exact m1 _ _ _ (by omega) q1'
theorem sX5_readInto_8 {T : Nat → Int32} {n : Nat} (h200 : n ≤ 200) : ∀ (d fu k j : Nat) (h : Nat → Int32) (S : jS), j + d = n → d < fu → k ≤ j → TV h → NT S h → S.2 (10, 0) = T → S.1 (0, 0) = nI n → (∀ i, k ≤ i → i < j → T i ≠ 59) → ∃ r S' h' F, fX5_readInto_8 1 fu S (nI k) (nI j) = some (r, S') ∧ jFr gpR gqRn S S' ∧ tRd T n F k h r h' ∧ (r = -4 → NT S' h') := by
  intro d
  induction d with
  | zero =>
    intro fu k j h S hd hf hk H N hT hn h5
    obtain ⟨fu, rfl⟩ : ∃ m, fu = m + 1 := ⟨fu - 1, by omega⟩
    obtain rfl : j = n := by omega
    show ∃ r S' h' F, bX5_readInto_8 1 (fX5_readInto_8 1 fu) S (nI k) (nI j) = some (r, S') ∧ _
    unfold bX5_readInto_8
    rw [hn, if_pos ((nI_leI (by omega) (by omega)).mpr (Nat.le_refl _))]
    by_cases c : j ≤ k
    · rw [if_pos ((nI_leI (by omega) (by omega)).mpr c)]
      exact ⟨-4, S, h, 1, rfl, jFr.rf, Or.inl ⟨c, rfl, rfl⟩, fun _ => N⟩
    · rw [if_neg (fun q => c ((nI_leI (by omega) (by omega)).mp q))]
      refine ⟨nI k, S, h, 1, rfl, jFr.rf, Or.inr (Or.inl ⟨by omega, fun h' e' q => ?_, rfl⟩), fun q => absurd q (m4_ne (by omega))⟩
      have hb := tIt_lt q
      exact h5 (e' - 1) (by omega) (by omega) hb.2.2
  | succ d ih =>
    intro fu k j h S hd hf hk H N hT hn h5
    obtain ⟨fu, rfl⟩ : ∃ m, fu = m + 1 := ⟨fu - 1, by omega⟩
    show ∃ r S' h' F, bX5_readInto_8 1 (fX5_readInto_8 1 fu) S (nI k) (nI j) = some (r, S') ∧ _
    unfold bX5_readInto_8 bX5_readInto_43 jlet
    rw [hn, if_neg (fun q => by have := (nI_leI (a := n) (b := j) (by omega) (by omega)).mp q; omega), if_pos (jIn_lit (by omega) (by omega)), nI_clamp (by omega), hT]
    dsimp only
    rw [nI_1]
    by_cases c : T j = 59
    · rw [if_pos c]
      obtain ⟨r, S1, e1, F1, m⟩ := sX5_readItem H N h200 (show j < n by omega) c hT hk h5
      rw [e1, Option.bind_some]
      dsimp only
      rcases m with ⟨rfl, h', m1, m2⟩ | ⟨rfl, m1⟩
      · rw [if_neg (by decide)]
        have H' : TV h' := by obtain ⟨L, -, m4⟩ := m1; exact tI_TV H m4
        obtain ⟨r, S2, h2, F, b1, b2, b3, b4⟩ := ih fu (j + 1) (j + 1) h' S1 (by omega) (by omega) (Nat.le_refl _) H' m2 ((F1.2 _ (by decide)).trans hT) ((F1.1 _ (by decide)).trans hn) (fun i a b => by omega)
        exact ⟨r, S2, h2, F + 1, b1, F1.tr b2, Or.inr (Or.inr ⟨by omega, h', j + 1, m1, b3⟩), b4⟩
      · rw [if_pos rfl]
        exact ⟨nI k, S1, h, 1, rfl, F1, Or.inr (Or.inl ⟨by omega, m1, rfl⟩), fun q => absurd q (m4_ne (by omega))⟩
    · rw [if_neg c]
      refine ih fu k (j + 1) h S (by omega) (by omega) (by omega) H N hT hn (fun i a b => ?_)
      by_cases q : i = j
      · rw [q]; exact c
      · exact h5 i a (by omega)
theorem sX5_readInto {T : Nat → Int32} {n : Nat} {S : jS} (h200 : n ≤ 200) (hT : S.2 (10, 0) = T) (hn : S.1 (0, 0) = nI n) : ∃ r S' h' F, fX5_readInto 1 S = some (r, S') ∧ jFr gpR gqRn S S' ∧ tRd T n F 0 (fun _ => 0) r h' ∧ (r = -4 → NT S' h') := by
  unfold fX5_readInto
  obtain ⟨S1, e1, N1, F1⟩ := sX2_clear S
  rw [e1, Option.bind_some]
  obtain ⟨r, S2, h2, F, b1, b2, b3, b4⟩ := sX5_readInto_8 h200 n 5000 0 0 (fun _ => 0) S1 (by omega) (by omega) (Nat.le_refl _) TV_zero N1 ((F1.2 _ (by decide)).trans hT) ((F1.1 _ (by decide)).trans hn) (fun i a b => by omega)
  exact ⟨r, S2, h2, F, b1, F1.tr b2, b3, b4⟩
