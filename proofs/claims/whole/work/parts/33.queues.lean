/-! ===== the class's queues: rings ===== -/
theorem sX4_placeOf {k : Nat} {S : jS} {q hd i : Nat} (hq : q < 18) (e : S.2 (35, k) q = nI hd) (hh : hd < 40) (hi : i < 100) : fX4_placeOf k S (nI q) (nI i) = some (nI (40 * q + (hd + i) % 40), S) := by
  unfold fX4_placeOf
  rw [if_pos (jIn_lit (by omega) hq), nI_clamp (by omega), e, nI_add]
  have h1 : nI q * (40 : Int32) = nI (40 * q) := by rw [show (40 : Int32) = nI 40 from rfl, pk_mul, Nat.mul_comm]
  have h2 : nI (hd + i) - nI (hd + i) / (40 : Int32) * (40 : Int32) = nI ((hd + i) % 40) := pk_rem (a := hd + i) (d := 40) (by omega) (by omega) (by omega)
  rw [h1, h2, nI_add]
def gp67 (k : Nat) (r : jR) : Bool := r == (6, k) || r == (7, k)
def gq3x (k : Nat) (r : jR) : Bool := r == (30, k) || r == (31, k) || r == (32, k) || r == (33, k) || r == (34, k) || r == (35, k)
/-- the queue part as an abstract world -/
theorem QC.lt {k : Nat} {S : jS} {h : Nat → Int32} {qs : Nat → List Int32} (Q : QC k S h qs) {q : Nat} (hq : q < 18) : (qs q).length ≤ 40 := (Q.2 q hq).2.1
theorem QL.put_other {k : Nat} {S : jS} {q q' : Nat} {L : List Int32} {f33 f34 f35 : Nat → Int32} (N : QL k S q L) (h33 : f33 q = S.2 (33, k) q) (h34 : ∀ j, 40 * q ≤ j → j < 40 * q + 40 → f34 j = S.2 (34, k) j) (h35 : f35 q = S.2 (35, k) q) {S' : jS} (e33 : S'.2 (33, k) = f33) (e34 : S'.2 (34, k) = f34) (e35 : S'.2 (35, k) = f35) : QL k S' q L := by
  obtain ⟨n1, n2, hd, n3, n4, n5⟩ := N
  refine ⟨by rw [e33, h33]; exact n1, n2, hd, n3, by rw [e35, h35]; exact n4, fun i hi => ?_⟩
  rw [e34, h34 _ (by omega) (by have := Nat.mod_lt (hd + i) (show 0 < 40 by omega); omega)]
  exact n5 i hi
theorem sX4_addOne {k : Nat} {S : jS} {h : Nat → Int32} {qs : Nat → List Int32} (Q : QC k S h qs) {q : Nat} (hq : q < 18) (x : Int32) : ∃ S', fX4_addOne k S (nI q) x = some S' ∧ QC k S' (aAdd (h, qs) q x).1 (aAdd (h, qs) q x).2 ∧ jFr (gp67 k) (gq3x k) S S' := by
  obtain ⟨⟨q1, q2, q3⟩, q4⟩ := id Q
  obtain ⟨n1, n2, hd, n3, n4, n5⟩ := q4 q hq
  have i1 : jIn (nI q) 18 := jIn_lit (by omega) hq
  unfold fX4_addOne
  simp only [if_pos i1, nI_clamp (show q < 2 ^ 31 by omega), n1]
  have hc : nI (qs q).length < (40 : Int32) ↔ (qs q).length < 40 := nI_ltI (b := 40) (by omega) (by omega)
  unfold aAdd
  by_cases c : (qs q).length < 40
  · rw [if_pos (hc.mpr c), sX4_placeOf hq n4 n3 (by omega), Option.bind_some]
    have hm := Nat.mod_lt (hd + (qs q).length) (show 0 < 40 by omega)
    unfold jlet
    dsimp only
    rw [if_pos (jIn_lit (a := 40 * q + (hd + (qs q).length) % 40) (by omega) (by omega)), nI_clamp (n := 40 * q + (hd + (qs q).length) % 40) (by omega), jup_ne (a := (34, k)) (b := (33, k)) _ _ (by simp), n1, nI_1, if_pos c]
    refine ⟨_, rfl, ⟨⟨q1, q2, fun g hg => ?_⟩, fun q' hq' => ?_⟩, (jFr.put (by simp [gq3x])).tr (jFr.put (by simp [gq3x]))⟩
    · rw [jput_o (by simp), jput_o (by simp), jput_o (by simp), jput_o (by simp), jput_o (by simp), jput_o (by simp)]
      exact q3 g hg
    · have e33 : (jput (jput S (34, k) (upd (S.2 (34, k)) (40 * q + (hd + (qs q).length) % 40) x)) (33, k) (upd (S.2 (33, k)) q (nI ((qs q).length + 1)))).2 (33, k) = upd (S.2 (33, k)) q (nI ((qs q).length + 1)) := jput_at
      have e34 : (jput (jput S (34, k) (upd (S.2 (34, k)) (40 * q + (hd + (qs q).length) % 40) x)) (33, k) (upd (S.2 (33, k)) q (nI ((qs q).length + 1)))).2 (34, k) = upd (S.2 (34, k)) (40 * q + (hd + (qs q).length) % 40) x := by rw [jput_o (by simp), jput_at]
      have e35 : (jput (jput S (34, k) (upd (S.2 (34, k)) (40 * q + (hd + (qs q).length) % 40) x)) (33, k) (upd (S.2 (33, k)) q (nI ((qs q).length + 1)))).2 (35, k) = S.2 (35, k) := by rw [jput_o (by simp), jput_o (by simp)]
      by_cases e : q' = q
      · subst e
        show QL k _ q' (va_up qs q' (qs q' ++ [x]) q')
        rw [va_up_self]
        refine ⟨?_, by simp; omega, hd, n3, by rw [e35]; exact n4, fun i hi => ?_⟩
        · rw [e33, pk_us]; simp
        · rw [e34]
          have hi' : i < (qs q').length + 1 := by simpa using hi
          by_cases ei : i = (qs q').length
          · subst ei
            rw [pk_us]
            simp [List.getD_eq_getElem?_getD]
          · have hil : i < (qs q').length := by omega
            rw [pk_un (by
              intro ee
              have e1 : (hd + i) % 40 = (hd + (qs q').length) % 40 := by omega
              omega), n5 i hil]
            simp [List.getD_eq_getElem?_getD, List.getElem?_append_left hil]
      · show QL k _ q' (va_up qs q (qs q ++ [x]) q')
        rw [va_up_ne _ _ e]
        exact (q4 q' hq').put_other (q' := q') (pk_un e) (fun j h1 h2 => pk_un (by omega)) rfl e33 e34 e35
  · rw [if_neg (fun h => c (hc.mp h)), if_neg c]
    unfold jlet
    dsimp only
    refine ⟨_, rfl, ⟨⟨?_, ?_, fun g hg => ?_⟩, fun q' hq' => q4 q' hq'⟩, jFr.set (by simp [gp67])⟩
    · show jup S.1 (7, k) (S.1 (7, k) + 1) (6, k) = upd h 76 (h 76 + 1) 66
      rw [jup_ne _ _ (by simp), pk_un (by omega)]; exact q1
    · show jup S.1 (7, k) (S.1 (7, k) + 1) (7, k) = upd h 76 (h 76 + 1) 76
      rw [jup_self, pk_us, q2]
    · show _ = upd h 76 (h 76 + 1) _ ∧ _ = upd h 76 (h 76 + 1) _ ∧ _ = upd h 76 (h 76 + 1) _
      rw [pk_un (by omega), pk_un (by omega), pk_un (by omega)]
      exact q3 g hg
theorem sX4_addMany_3 {k q : Nat} {x : Int32} {n : Nat} (hq : q < 18) (hn : n < 100) : ∀ (d fu i : Nat) (S : jS) (A : aW), QC k S A.1 A.2 → i + d = n → d < fu → ∃ S', fX4_addMany_3 k fu S (nI q) (nI n) x (nI i) = some S' ∧ QC k S' (aAdN A q x d).1 (aAdN A q x d).2 ∧ jFr (gp67 k) (gq3x k) S S' := by
  intro d
  induction d with
  | zero =>
    intro fu i S A Q hd hfu
    obtain ⟨fu, rfl⟩ : ∃ m, fu = m + 1 := ⟨fu - 1, by omega⟩
    refine ⟨S, ?_, Q, jFr.rf⟩
    show bX4_addMany_3 k (fX4_addMany_3 k fu) S (nI q) (nI n) x (nI i) = _
    unfold bX4_addMany_3
    rw [if_pos ((nI_leI (by omega) (by omega)).mpr (by omega))]
  | succ d ih =>
    intro fu i S A Q hd hfu
    obtain ⟨fu, rfl⟩ : ∃ m, fu = m + 1 := ⟨fu - 1, by omega⟩
    obtain ⟨S1, a1, a2, a3⟩ := sX4_addOne Q hq x
    obtain ⟨S', b1, b2, b3⟩ := ih fu (i + 1) S1 (aAdd A q x) a2 (by omega) (by omega)
    have e : ∀ d, aAdN (aAdd A q x) q x d = aAdN A q x (d + 1) := by
      intro d
      induction d with
      | zero => rfl
      | succ d ih => show aAdd _ q x = aAdd _ q x; rw [ih]
    rw [e] at b2
    refine ⟨S', ?_, b2, a3.tr b3⟩
    show bX4_addMany_3 k (fX4_addMany_3 k fu) S (nI q) (nI n) x (nI i) = _
    unfold bX4_addMany_3
    rw [if_neg (fun h => by have := (nI_leI (a := n) (b := i) (by omega) (by omega)).mp h; omega), a1, Option.bind_some]
    unfold jlet
    dsimp only
    rw [nI_1]
    exact b1
theorem sX4_addMany {k q n : Nat} {x : Int32} {S : jS} {A : aW} (hq : q < 18) (hn : n < 100) (Q : QC k S A.1 A.2) : ∃ S', fX4_addMany k S (nI q) (nI n) x = some S' ∧ QC k S' (aAdN A q x n).1 (aAdN A q x n).2 ∧ jFr (gp67 k) (gq3x k) S S' :=
  sX4_addMany_3 hq hn n 5000 0 S A Q (by omega) (by omega)
/-- the packet that leaves next -/
theorem sX4_nextBorn {k : Nat} {S : jS} {q : Nat} {L : List Int32} {law : Int32} (N : QL k S q L) (hq : q < 18) (hl : law = 0 ∨ law = 1) : fX4_nextBorn k S (nI q) law = some (if L.length = 0 then -4 else (lTk law L).1, S) := by
  obtain ⟨n1, n2, hd, n3, n4, n5⟩ := N
  have i1 : jIn (nI q) 18 := jIn_lit (by omega) hq
  unfold fX4_nextBorn
  simp only [if_pos i1, nI_clamp (show q < 2 ^ 31 by omega), n1]
  have hz : nI L.length = (0 : Int32) ↔ L.length = 0 := nI_eq (b := 0) (by omega) (by omega)
  by_cases c : L.length = 0
  · rw [if_pos (hz.mpr c), if_pos c]
  · rw [if_neg (fun h => c (hz.mp h)), if_neg c]
    have hp : nI L.length - 1 = nI (L.length - 1) := by
      obtain ⟨m, hm⟩ : ∃ m, L.length = m + 1 := ⟨L.length - 1, by omega⟩
      rw [hm, nI_pred]; rfl
    unfold bX4_nextBorn_35
    have h0 : fX4_placeOf k S (nI q) 0 = _ := sX4_placeOf (i := 0) hq n4 n3 (by omega)
    have m0 := Nat.mod_lt (hd + 0) (show 0 < 40 by omega)
    have m1 := Nat.mod_lt (hd + (L.length - 1)) (show 0 < 40 by omega)
    rw [hp, sX4_placeOf hq n4 n3 (by omega), h0, Option.bind_some, Option.bind_some]
    dsimp only
    rw [if_pos (jIn_lit (a := 40 * q + (hd + (L.length - 1)) % 40) (by omega) (by omega)), if_pos (jIn_lit (a := 40 * q + (hd + 0) % 40) (by omega) (by omega)), nI_clamp (n := 40 * q + (hd + (L.length - 1)) % 40) (by omega), nI_clamp (n := 40 * q + (hd + 0) % 40) (by omega), n5 _ (by omega), n5 _ (by omega)]
    unfold lTk
    rcases hl with rfl | rfl
    · rw [if_neg (by decide), if_neg (by decide)]
      cases L with
      | nil => exact absurd rfl c
      | cons a l => rfl
    · rw [if_pos rfl, if_pos rfl]
      congr 2
      rw [List.getLastD_eq_getLast?, List.getLast?_eq_getElem?, List.getD_eq_getElem?_getD]
theorem sX4_takeOne {k : Nat} {S : jS} {h : Nat → Int32} {qs : Nat → List Int32} {q : Nat} {law : Int32} (Q : QC k S h qs) (hq : q < 18) (hl : law = 0 ∨ law = 1) (hne : (qs q).length ≠ 0) : ∃ S', fX4_takeOne k S (nI q) law = some ((lTk law (qs q)).1, S') ∧ QC k S' h (va_up qs q (lTk law (qs q)).2) ∧ jFr gp0 (gq3x k) S S' := by
  obtain ⟨⟨q1, q2, q3⟩, q4⟩ := id Q
  have hnb := sX4_nextBorn (law := law) (q4 q hq) hq hl
  obtain ⟨n1, n2, hd, n3, n4, n5⟩ := q4 q hq
  have i1 : jIn (nI q) 18 := jIn_lit (by omega) hq
  rw [if_neg hne] at hnb
  unfold fX4_takeOne
  rw [hnb, Option.bind_some]
  simp only [if_pos i1, nI_clamp (show q < 2 ^ 31 by omega), n1]
  have hz : nI (qs q).length ≤ (0 : Int32) ↔ (qs q).length ≤ 0 := nI_leI (b := 0) (by omega) (by omega)
  have hp : nI (qs q).length - 1 = nI ((qs q).length - 1) := by
    obtain ⟨m, hm⟩ : ∃ m, (qs q).length = m + 1 := ⟨(qs q).length - 1, by omega⟩
    rw [hm, nI_pred]; rfl
  rw [if_neg (fun h => by have := hz.mp h; omega), hp]
  unfold bX4_takeOne_56 jlet
  dsimp only
  rw [if_pos i1, if_pos i1, nI_clamp (n := q) (by omega), jup_ne (a := (33, k)) (b := (35, k)) _ _ (by simp), n4, nI_1]
  have h2 : nI (hd + 1) - nI (hd + 1) / (40 : Int32) * (40 : Int32) = nI ((hd + 1) % 40) := pk_rem (a := hd + 1) (d := 40) (by omega) (by omega) (by omega)
  rw [h2]
  obtain ⟨t1, t2, t3⟩ := lTk_spec (law := law) hne
  -- the end, for any new head
  have fin : ∀ hd', hd' < 40 → (∀ i, i < (qs q).length - 1 → S.2 (34, k) (40 * q + (hd' + i) % 40) = (lTk law (qs q)).2.getD i 0) → ∃ S', some ((lTk law (qs q)).1, jput (jput S (33, k) (upd (S.2 (33, k)) q (nI ((qs q).length - 1)))) (35, k) (upd (S.2 (35, k)) q (nI hd'))) = some ((lTk law (qs q)).1, S') ∧ QC k S' h (va_up qs q (lTk law (qs q)).2) ∧ jFr gp0 (gq3x k) S S' := by
    intro hd' hh' hr
    refine ⟨_, rfl, ⟨⟨q1, q2, fun g hg => ?_⟩, fun q' hq' => ?_⟩, (jFr.put (by simp [gq3x])).tr (jFr.put (by simp [gq3x]))⟩
    · rw [jput_o (by simp), jput_o (by simp), jput_o (by simp), jput_o (by simp), jput_o (by simp), jput_o (by simp)]
      exact q3 g hg
    · have e33 : (jput (jput S (33, k) (upd (S.2 (33, k)) q (nI ((qs q).length - 1)))) (35, k) (upd (S.2 (35, k)) q (nI hd'))).2 (33, k) = upd (S.2 (33, k)) q (nI ((qs q).length - 1)) := by rw [jput_o (by simp), jput_at]
      have e34 : (jput (jput S (33, k) (upd (S.2 (33, k)) q (nI ((qs q).length - 1)))) (35, k) (upd (S.2 (35, k)) q (nI hd'))).2 (34, k) = S.2 (34, k) := by rw [jput_o (by simp), jput_o (by simp)]
      have e35 : (jput (jput S (33, k) (upd (S.2 (33, k)) q (nI ((qs q).length - 1)))) (35, k) (upd (S.2 (35, k)) q (nI hd'))).2 (35, k) = upd (S.2 (35, k)) q (nI hd') := jput_at
      by_cases e : q' = q
      · subst e
        rw [va_up_self]
        refine ⟨?_, by omega, hd', hh', ?_, fun i hi => ?_⟩
        · rw [e33, pk_us, show (qs q').length - 1 = (lTk law (qs q')).2.length by omega]
        · rw [e35, pk_us]
        · rw [e34]; exact hr i (by omega)
      · rw [va_up_ne _ _ e]
        exact (q4 q' hq').put_other (q' := q') (pk_un e) (fun j h1 h2 => rfl) (pk_un e) e33 e34 e35
  have es : upd (S.2 (35, k)) q (nI hd) = upd (S.2 (35, k)) q (nI hd) := rfl
  rcases hl with rfl | rfl
  · rw [if_neg (by decide)]
    have m1 := Nat.mod_lt (hd + 1) (show 0 < 40 by omega)
    refine fin ((hd + 1) % 40) m1 (fun i hi => ?_)
    have e1 : ((hd + 1) % 40 + i) % 40 = (hd + (i + 1)) % 40 := by omega
    rw [e1, n5 _ (by omega)]
    unfold lTk
    rw [if_neg (by decide)]
    simp [List.getD_eq_getElem?_getD]
  · rw [if_pos rfl]
    refine fin hd n3 (fun i hi => ?_)
    rw [n5 _ (by omega)]
    unfold lTk
    rw [if_pos rfl]
    simp only [List.getD_eq_getElem?_getD]
    rw [List.getElem?_dropLast, if_pos (by omega)]
theorem sX4_arrive {k : Nat} {S : jS} {h : Nat → Int32} {qs : Nat → List Int32} (Q : QC k S h qs) {g : Nat} (hg : g < 3) (x : Int32) : ∃ S', fX4_arrive k S (nI g) x = some S' ∧ QC k S' (aThr (h, qs) g x).1 (aThr (h, qs) g x).2 ∧ jFr gp0 (gq3x k) S S' := by
  obtain ⟨⟨q1, q2, q3⟩, q4⟩ := id Q
  obtain ⟨g1, g2, g3⟩ := q3 g hg
  have i1 : jIn (nI g) 3 := jIn_lit (by omega) hg
  unfold fX4_arrive jlet
  simp only [if_pos i1, nI_clamp (show g < 2 ^ 31 by omega), q1, g1]
  rw [jup_ne (a := (30, k)) (b := (31, k)) _ _ (by simp), g2, jup_ne (a := (31, k)) (b := (32, k)) _ _ (by simp), jup_ne (a := (30, k)) (b := (32, k)) _ _ (by simp), g3]
  refine ⟨_, rfl, ⟨⟨?_, ?_, fun g' hg' => ?_⟩, fun q' hq' => ?_⟩, ((jFr.put (by simp [gq3x])).tr (jFr.put (by simp [gq3x]))).tr (jFr.put (by simp [gq3x]))⟩
  · rw [aThr_hd (by omega) (by omega) (by omega)]; exact q1
  · rw [aThr_hd (by omega) (by omega) (by omega)]; exact q2
  · rw [jput_at, jput_o (b := (31, k)) (a := (32, k)) (by simp), jput_at, jput_o (b := (30, k)) (a := (32, k)) (by simp), jput_o (b := (30, k)) (a := (31, k)) (by simp), jput_at]
    obtain ⟨z1, z2, z3⟩ := q3 g' hg'
    unfold aThr
    dsimp only
    by_cases e : g' = g
    · subst e
      refine ⟨?_, ?_, ?_⟩
      · rw [pk_us, pk_un (by omega), pk_us]
      · rw [pk_us, pk_us]
      · rw [pk_us, pk_un (by omega), pk_un (by omega), pk_us]
    · refine ⟨?_, ?_, ?_⟩
      · rw [pk_un e, pk_un (by omega), pk_un (by omega), pk_un (by omega)]; exact z1
      · rw [pk_un e, pk_un (by omega), pk_un (by omega), pk_un (by omega)]; exact z2
      · rw [pk_un e, pk_un (by omega), pk_un (by omega), pk_un (by omega)]; exact z3
  · obtain ⟨n1, n2⟩ := q4 q' hq'
    unfold QL
    rw [jput_o (by simp), jput_o (by simp), jput_o (by simp), jput_o (by simp), jput_o (by simp), jput_o (by simp), jput_o (by simp), jput_o (by simp), jput_o (by simp)]
    exact ⟨n1, n2⟩
