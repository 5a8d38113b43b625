/-! ===== weights of both sides ===== -/
def WSame (k : Nat) (S S' : jS) : Prop := (∀ c, c < 8 → S'.1 (c, k) = S.1 (c, k)) ∧ ∀ c, 20 ≤ c → c < 36 → S'.2 (c, k) = S.2 (c, k)
theorem WSame.rf {k : Nat} {S : jS} : WSame k S S := ⟨fun _ _ => rfl, fun _ _ _ => rfl⟩
theorem WSame.tr {k : Nat} {S S1 S2 : jS} (h1 : WSame k S S1) (h2 : WSame k S1 S2) : WSame k S S2 := ⟨fun c h => (h2.1 c h).trans (h1.1 c h), fun c h h' => (h2.2 c h h').trans (h1.2 c h h')⟩
theorem WSame.put {k : Nat} {S : jS} {a : jR} {f : Nat → Int32} (h : a.1 < 20 ∨ 36 ≤ a.1 ∨ a.2 ≠ k) : WSame k S (jput S a f) := by
  refine ⟨fun _ _ => rfl, fun c h1 h2 => jup_ne _ _ ?_⟩
  rintro rfl
  rcases h with h | h | h
  · simp only at h; omega
  · simp only at h; omega
  · exact h rfl
theorem WSame.set {k : Nat} {S : jS} {a : jR} {v : Int32} (h : 8 ≤ a.1 ∨ a.2 ≠ k) : WSame k S (jset S a v) := by
  refine ⟨fun c h1 => jup_ne _ _ ?_, fun _ _ _ => rfl⟩
  rintro rfl
  rcases h with h | h
  · simp only at h; omega
  · exact h rfl
theorem WSame.fr {k : Nat} {S S' : jS} {p q : jR → Bool} (h : jFr p q S S') (hp : ∀ c, c < 8 → p (c, k) = false) (hq : ∀ c, 20 ≤ c → c < 36 → q (c, k) = false) : WSame k S S' := ⟨fun c hc => h.1 _ (hp c hc), fun c h1 h2 => h.2 _ (hq c h1 h2)⟩
theorem NC.same {k : Nat} {S S' : jS} {h : Nat → Int32} (w : WSame k S S') (N : NC k S h) : NC k S' h := by
  obtain ⟨⟨a1, a2, a3, a4, a5⟩, b, c, d⟩ := N
  refine ⟨⟨?_, ?_, ?_, ?_, ?_⟩, ?_, ?_, ?_⟩
  · rw [w.1 1 (by omega)]; exact a1
  · rw [w.1 2 (by omega)]; exact a2
  · rw [w.1 3 (by omega)]; exact a3
  · rw [w.1 4 (by omega)]; exact a4
  · rw [w.1 5 (by omega)]; exact a5
  · rw [w.2 20 (by omega) (by omega)]; exact b
  · rw [w.2 21 (by omega) (by omega), w.2 22 (by omega) (by omega), w.2 23 (by omega) (by omega), w.2 24 (by omega) (by omega)]; exact c
  · rw [w.2 25 (by omega) (by omega)]; exact d
theorem HC.same {k : Nat} {S S' : jS} {h : Nat → Int32} (w : WSame k S S') (N : HC k S h) : HC k S' h := by
  unfold HC
  rw [w.2 26 (by omega) (by omega)]; exact N
theorem QL.same {k : Nat} {S S' : jS} {q : Nat} {L : List Int32} (w : WSame k S S') (N : QL k S q L) : QL k S' q L := by
  unfold QL
  rw [w.2 33 (by omega) (by omega), w.2 34 (by omega) (by omega), w.2 35 (by omega) (by omega)]; exact N
theorem QC.same {k : Nat} {S S' : jS} {h : Nat → Int32} {qs : Nat → List Int32} (w : WSame k S S') (N : QC k S h qs) : QC k S' h qs := by
  refine ⟨?_, fun q hq => (N.2 q hq).same w⟩
  rw [w.1 6 (by omega), w.1 7 (by omega), w.2 30 (by omega) (by omega), w.2 31 (by omega) (by omega), w.2 32 (by omega) (by omega)]
  exact N.1
theorem WC.same {k : Nat} {S S' : jS} {h : Nat → Int32} {qs : Nat → List Int32} (w : WSame k S S') (N : WC k S h qs) : WC k S' h qs := ⟨N.1.same w, N.2.1.same w, N.2.2.same w⟩
def gp0 (_ : jR) : Bool := false
def gq40 (j : Nat) (r : jR) : Bool := r == (40, j) || r == (41, j)
/-- a link's weight -/
def aWt (h : Nat → Int32) (qs : Nat → List Int32) (l : Nat) : Int32 := h (8 + 3 * l) * (aCho h qs l).2
theorem upd_upd (f : Nat → Int32) (k : Nat) (u v : Int32) : upd (upd f k u) k v = upd f k v := by
  funext j
  unfold upd
  split <;> rfl
theorem sX3_weigh_2 {j k : Nat} {h : Nat → Int32} {qs : Nat → List Int32} (H : HV h) : ∀ (d fu l : Nat) (S : jS), WC k S h qs → (∀ a, a < l → S.2 (40, j) a = (aCho h qs a).1 ∧ S.2 (41, j) a = aWt h qs a) → l + d = hn h → d < fu → ∃ S', fX3_weigh_2 j k fu S (nI l) = some S' ∧ (∀ a, a < hn h → S'.2 (40, j) a = (aCho h qs a).1 ∧ S'.2 (41, j) a = aWt h qs a) ∧ jFr gp0 (gq40 j) S S' := by
  have hn10 := H.2.2.1.2
  intro d
  induction d with
  | zero =>
    intro fu l S hW hdone hl hfu
    obtain ⟨fu, rfl⟩ : ∃ m, fu = m + 1 := ⟨fu - 1, by omega⟩
    obtain rfl : l = hn h := by omega
    refine ⟨S, ?_, hdone, jFr.rf⟩
    show bX3_weigh_2 j k (fX3_weigh_2 j k fu) S (nI (hn h)) = _
    unfold bX3_weigh_2
    rw [hW.1.1.2.2.1, H.2.2.1.1, if_pos ((nI_leI (by omega) (by omega)).mpr (Nat.le_refl _))]
  | succ d ih =>
    intro fu l S hW hdone hl hfu
    obtain ⟨fu, rfl⟩ : ∃ m, fu = m + 1 := ⟨fu - 1, by omega⟩
    have hlt : l < hn h := by omega
    obtain ⟨N, Hc, Q⟩ := id hW
    have hs : ∀ q, q < 18 → S.2 (33, k) q = nI (qs q).length := fun q hq => (Q.2 q hq).1
    have h40 : ∀ q, q < 18 → (qs q).length ≤ 40 := fun q hq => (Q.2 q hq).2.1
    have hch := sX3_choiceOf H N Hc hs h40 hlt
    have i1 : jIn (nI l) 10 := jIn_lit (by omega) (by omega)
    -- the two writes
    have hgo : ∀ v : Int32, v = aWt h qs l → ∃ S', bX3_weigh_57 j k (fX3_weigh_2 j k fu) (jput S (40, j) (upd (S.2 (40, j)) l (aCho h qs l).1)) (nI l) (nI l) v = some S' ∧ (∀ a, a < hn h → S'.2 (40, j) a = (aCho h qs a).1 ∧ S'.2 (41, j) a = aWt h qs a) ∧ jFr gp0 (gq40 j) S S' := by
      intro v hv
      unfold bX3_weigh_57
      rw [if_pos i1, nI_clamp (by omega)]
      unfold jlet
      dsimp only
      rw [nI_1, jup_ne (a := (40, j)) (b := (41, j)) _ _ (by simp)]
      obtain ⟨S', a1, a2, a3⟩ := ih fu (l + 1) (jput (jput S (40, j) (upd (S.2 (40, j)) l (aCho h qs l).1)) (41, j) (upd (S.2 (41, j)) l v)) (hW.same ((WSame.put (by simp)).tr (WSame.put (by simp)))) (by
        intro a ha
        rw [jput_o (b := (40, j)) (a := (41, j)) (by simp), jput_at, jput_at]
        by_cases e : a = l
        · subst e
          rw [pk_us, pk_us, hv]
          exact ⟨rfl, rfl⟩
        · rw [pk_un e, pk_un e]
          exact hdone a (by omega)) (by omega) (by omega)
      exact ⟨S', a1, a2, ((jFr.put (by simp [gq40])).tr (jFr.put (by simp [gq40]))).tr a3⟩
    show ∃ S', bX3_weigh_2 j k (fX3_weigh_2 j k fu) S (nI l) = some S' ∧ _
    unfold bX3_weigh_2
    rw [N.1.2.2.1, H.2.2.1.1, if_neg (fun h9 => by have := (nI_leI (a := hn h) (b := l) (by omega) (by omega)).mp h9; omega), hch, Option.bind_some]
    unfold jlet
    dsimp only
    rw [if_pos i1, if_pos i1, nI_clamp (by omega)]
    rcases aCh_spec (aDr h qs l) (aNe h qs l) (hG h) with ⟨e1, e2⟩ | ⟨g, eg, e1, e2, e3, e4⟩
    · have e1' : (aCho h qs l).1 = -4 := e1
      rw [if_pos e1']
      refine hgo 0 ?_
      show (0 : Int32) = h (8 + 3 * l) * (aCho h qs l).2
      have e2' : (aCho h qs l).2 = 0 := e2
      rw [e2']
      grind
    · have e1' : (aCho h qs l).1 = nI g := e1
      have hG3 := H.2.1.2.2
      have hne : ¬ (aCho h qs l).1 = -4 := by
        rw [e1']
        intro q
        have := congrArg Int32.toInt q
        rw [nI_toInt (by omega)] at this
        have h4 : (-4 : Int32).toInt = -4 := by decide
        omega
      rw [if_neg hne]
      have hw' := hW.same (WSame.put (S := S) (a := (40, j)) (f := upd (S.2 (40, j)) l (aCho h qs l).1) (by simp))
      have hdr := sX6_dropOf (qs := qs) H hw'.1 hw'.2.1 (fun q hq => (hw'.2.2.2 q hq).1) hlt (show g < 3 by omega)
      rw [← e1'] at hdr
      rw [hdr, Option.bind_some]
      dsimp only
      rw [jup_ne (a := (40, j)) (b := (23, k)) _ _ (by simp)]
      refine hgo _ ?_
      show S.2 (23, k) l * aDr h qs l g = h (8 + 3 * l) * (aCho h qs l).2
      have e2' : (aCho h qs l).2 = aDr h qs l g := e2
      rw [(N.2.2.1 l hlt).2.2.1, e2']
theorem sX3_weigh {j k : Nat} {h : Nat → Int32} {qs : Nat → List Int32} {S : jS} (H : HV h) (hW : WC k S h qs) : ∃ S', fX3_weigh j k S = some S' ∧ (∀ a, a < hn h → S'.2 (40, j) a = (aCho h qs a).1 ∧ S'.2 (41, j) a = aWt h qs a) ∧ jFr gp0 (gq40 j) S S' :=
  sX3_weigh_2 H (hn h) 5000 0 S hW (fun a ha => absurd ha (Nat.not_lt_zero a)) (by omega) (by have := H.2.2.1.2; omega)
/-! the weights are small numbers -/
def aWn (h : Nat → Int32) (qs : Nat → List Int32) (l : Nat) : Nat := if l < hn h then jN (aWt h qs l) else 0
theorem aDr_pos {h : Nat → Int32} {qs : Nat → List Int32} (H : HV h) (h40 : ∀ q, q < 18 → (qs q).length ≤ 40) {l g : Nat} (hl : l < hn h) (hg : g < 3) (hp : 0 < aDr h qs l g) : ∃ d, 0 < d ∧ d ≤ 121 ∧ aDr h qs l g = nI d := by
  obtain ⟨b1, b2⟩ := H.lk hl
  obtain ⟨d1, x1, y1⟩ := hops_small H (i := hfi h l) (g := g) b1 hg
  obtain ⟨d2, x2, y2⟩ := hops_small H (i := hse h l) (g := g) b2 hg
  have hb9 := H.2.2.2.1.2
  have z1 := h40 (3 * hfi h l + g) (by omega)
  have z2 := h40 (3 * hse h l + g) (by omega)
  unfold aDr at hp ⊢
  rw [y1, y2, H.2.2.2.1.1, pk_mul, pk_mul, nI_add, nI_add] at hp ⊢
  have m1 : hb h * d1 ≤ 9 * 9 := Nat.mul_le_mul hb9 x1
  have m2 : hb h * d2 ≤ 9 * 9 := Nat.mul_le_mul hb9 x2
  have ha : (qs (3 * hfi h l + g)).length + hb h * d1 ≤ 121 := by omega
  have hb' : (qs (3 * hse h l + g)).length + hb h * d2 ≤ 121 := by omega
  generalize (qs (3 * hfi h l + g)).length + hb h * d1 = a at hp ha ⊢
  generalize (qs (3 * hse h l + g)).length + hb h * d2 = b at hp hb' ⊢
  have hp' := Int32.lt_iff_toInt_lt.mp hp
  rw [pk_sub_toInt (by omega) (by omega)] at hp'
  have h0 : (0 : Int32).toInt = 0 := by decide
  exact ⟨a - b, by omega, by omega, pk_sub (by omega)⟩
theorem n4_ne {g : Nat} (hg : g < 2 ^ 31) : ¬ nI g = -4 := by
  intro q
  have := congrArg Int32.toInt q
  rw [nI_toInt hg] at this
  have h4 : (-4 : Int32).toInt = -4 := by decide
  omega
theorem aWt_n {h : Nat → Int32} {qs : Nat → List Int32} (H : HV h) (h40 : ∀ q, q < 18 → (qs q).length ≤ 40) {l : Nat} (hl : l < hn h) : aWt h qs l = nI (aWn h qs l) ∧ aWn h qs l ≤ 2000 ∧ ((aCho h qs l).1 ≠ -4 → 0 < aWn h qs l) := by
  obtain ⟨-, -, -, ⟨r1, r2, r3⟩, -⟩ := H.2.2.2.2.2.2.2.1 l hl
  have hG3 := H.2.1.2.2
  unfold aWn
  rw [if_pos hl]
  unfold aWt
  rcases aCh_spec (aDr h qs l) (aNe h qs l) (hG h) with ⟨e1, e2⟩ | ⟨g, eg, e1, e2, e3, e4⟩
  · have e2' : (aCho h qs l).2 = 0 := e2
    have e1' : (aCho h qs l).1 = -4 := e1
    rw [e2', r1, show (0 : Int32) = nI 0 from rfl, pk_mul, Nat.mul_zero, jN_nI (by omega)]
    exact ⟨rfl, by omega, fun q => absurd e1' q⟩
  · have e2' : (aCho h qs l).2 = aDr h qs l g := e2
    obtain ⟨d, d1, d2, d3⟩ := aDr_pos H h40 hl (show g < 3 by omega) e3
    have m1 : hro h l * d ≤ 9 * 121 := Nat.mul_le_mul r3 d2
    have m2 : 1 * 1 ≤ hro h l * d := Nat.mul_le_mul r2 d1
    rw [e2', d3, r1, pk_mul, jN_nI (by omega)]
    exact ⟨rfl, by omega, fun _ => by omega⟩
theorem aWn_le {h : Nat → Int32} {qs : Nat → List Int32} (H : HV h) (h40 : ∀ q, q < 18 → (qs q).length ≤ 40) (l : Nat) : aWn h qs l ≤ 2000 := by
  by_cases hl : l < hn h
  · exact (aWt_n H h40 hl).2.1
  · unfold aWn; rw [if_neg hl]; omega
/-- the links that go, but for those barred -/
def aGo (h : Nat → Int32) (qs : Nat → List Int32) (cl : Nat → Nat) (bar : Nat → Bool) (b : Nat) : Prop := gB (aWn h qs) (gM (fun l => (aCho h qs l).1) bar (hn h)) cl b
theorem gM_congr {f f' : Nat → Int32} {bar bar' : Nat → Bool} : ∀ {n : Nat}, (∀ l, l < n → f l = f' l ∧ bar l = bar' l) → gM f bar n = gM f' bar' n
  | 0, _ => rfl
  | n + 1, h => by
    have ih := gM_congr (n := n) (fun l q => h l (by omega))
    unfold gM
    rw [ih, (h n (by omega)).1, (h n (by omega)).2]
/-- the class's pick, behind its weighing -/
theorem sX3_pickW {j k bar : Nat} {h : Nat → Int32} {qs : Nat → List Int32} {cl : Nat → Nat} {S : jS} (H : HV h) (h40 : ∀ q, q < 18 → (qs q).length ≤ 40) (e3 : S.1 (3, k) = h 5) (ec : ∀ a, a < hn h → S.2 (24, k) a = nI (cl a)) (hsym : ∀ a b, (cl a).testBit b = (cl b).testBit a) (hirr : ∀ a, (cl a).testBit a = false) (hcl : ∀ a, cl a < 1024) (hw : ∀ a, a < hn h → S.2 (40, j) a = (aCho h qs a).1 ∧ S.2 (41, j) a = aWt h qs a) :
    ∃ b, aGo h qs cl (fun a => bar.testBit a) b ∧ fX3_pick j k S (nI bar) = some (gPut S j (aWn h qs) b) := by
  obtain ⟨b, h1, h2⟩ := sX3_pick (j := j) (k := k) (n := hn h) (bar := bar) (cl := cl) (w := aWn h qs) (S := S) (e3.trans H.2.2.1.1) H.2.2.1.2 (fun a ha => (hw a ha).2.trans (aWt_n H h40 ha).1) ec (fun a ha hc => (aWt_n H h40 ha).2.2 (by rw [← (hw a ha).1]; exact hc)) (fun l _ => aWn_le H h40 l) hsym hirr hcl
  refine ⟨b, ?_, h2⟩
  unfold aGo
  rw [gM_congr (f' := S.2 (40, j)) (bar' := fun a => bar.testBit a) (fun l hl => ⟨(hw l hl).1.symm, rfl⟩)]
  exact h1
/-! ===== the reference's choices ===== -/
theorem WM.put {S : jS} {h : Nat → Int32} {qs : Nat → List Int32} {a : jR} {f : Nat → Int32} (M : WM (S.2 (50, 0)) h qs) (ha : a ≠ (50, 0)) : WM ((jput S a f).2 (50, 0)) h qs := by
  rw [jput_o (Ne.symm ha)]; exact M
theorem sX8_findsChoices_28 {q6 : jS → Int32 → Option jS} {h : Nat → Int32} {qs : Nat → List Int32} (H : HV h) {l : Nat} (hl : l < hn h) : ∀ (d fu g : Nat) (S : jS), WM (S.2 (50, 0)) h qs → (∀ q, q < 18 → S.2 (56, 0) q = hops h q) → S.2 (57, 0) l = (aCh (aDr h qs l) (aNe h qs l) g).1 → g + d = hG h → d < fu → fX8_findsChoices_28 q6 fu S (nI l) (aCh (aDr h qs l) (aNe h qs l) g).2 (nI g) = q6 (jput (jput S (57, 0) (upd (S.2 (57, 0)) l (aCho h qs l).1)) (58, 0) (upd (S.2 (58, 0)) l (aWt h qs l))) (nI (l + 1)) := by
  obtain ⟨⟨l1, -⟩, ⟨l2, -⟩, -, ⟨r1, -, -⟩, -⟩ := H.2.2.2.2.2.2.2.1 l hl
  obtain ⟨b1, b2⟩ := H.lk hl
  have hl10 := H.2.2.1.2
  have hG3 := H.2.1.2.2
  have i1 : jIn (nI l) 10 := jIn_lit (by omega) (by omega)
  intro d
  induction d with
  | zero =>
    intro fu g S M hh hc hd hfu
    obtain ⟨fu, rfl⟩ : ∃ m, fu = m + 1 := ⟨fu - 1, by omega⟩
    obtain rfl : g = hG h := by omega
    show bX8_findsChoices_28 q6 (fX8_findsChoices_28 q6 fu) S (nI l) _ _ = _
    unfold bX8_findsChoices_28
    rw [if_pos (by decide), cl1, M.1 1 (by omega), H.2.1.1, if_pos ((nI_leI (by omega) (by omega)).mpr (Nat.le_refl _)), sX8_roomOf S (by omega), M.1 _ (by omega), Option.bind_some]
    unfold jlet
    dsimp only
    rw [if_pos i1, nI_clamp (by omega), nI_1, upd_same (f := S.2 (57, 0)) (k := l) (v := (aCho h qs l).1) hc]
    have : jput S (57, 0) (S.2 (57, 0)) = S := by
      show (S.1, jup S.2 (57, 0) (S.2 (57, 0))) = S
      rw [jup_same]
    rw [this]
    rfl
  | succ d ih =>
    intro fu g S M hh hc hd hfu
    obtain ⟨fu, rfl⟩ : ∃ m, fu = m + 1 := ⟨fu - 1, by omega⟩
    show bX8_findsChoices_28 q6 (fX8_findsChoices_28 q6 fu) S (nI l) _ _ = _
    unfold bX8_findsChoices_28
    rw [if_pos (by decide), cl1, M.1 1 (by omega), H.2.1.1, if_neg (fun h9 => by have := (nI_leI (a := hG h) (b := g) (by omega) (by omega)).mp h9; omega), sX8_dropOf H M hh hl (by omega), Option.bind_some]
    dsimp only
    rw [sX8_firstOf S (by omega), M.1 _ (by omega), l1, Option.bind_some]
    dsimp only
    rw [sX8_manyIn M b1 (by omega), Option.bind_some]
    unfold bX8_findsChoices_75 jlet
    dsimp only
    rw [nI_1, if_pos i1, nI_clamp (n := l) (by omega)]
    have h40' := (M.2 (3 * hfi h l + g) (by omega)).2.1
    have hz : nI (qs (3 * hfi h l + g)).length ≤ (0 : Int32) ↔ (qs (3 * hfi h l + g)).length ≤ 0 := nI_leI (b := 0) (by omega) (by omega)
    by_cases c1 : (qs (3 * hfi h l + g)).length ≤ 0
    · rw [if_pos (hz.mpr c1)]
      have e : aCh (aDr h qs l) (aNe h qs l) (g + 1) = aCh (aDr h qs l) (aNe h qs l) g := by
        show (if _ then _ else _) = _
        rw [if_neg (fun q => by have := of_decide_eq_true q.1; omega)]
      rw [← e] at hc ⊢
      exact ih fu (g + 1) S M hh hc (by omega) (by omega)
    · rw [if_neg (fun q => c1 (hz.mp q))]
      by_cases c2 : aDr h qs l g ≤ (aCh (aDr h qs l) (aNe h qs l) g).2
      · rw [if_pos c2]
        have e : aCh (aDr h qs l) (aNe h qs l) (g + 1) = aCh (aDr h qs l) (aNe h qs l) g := by
          show (if _ then _ else _) = _
          rw [if_neg (fun q => Int32.not_lt.mpr c2 q.2)]
        rw [← e] at hc ⊢
        exact ih fu (g + 1) S M hh hc (by omega) (by omega)
      · rw [if_neg c2]
        have e : aCh (aDr h qs l) (aNe h qs l) (g + 1) = (nI g, aDr h qs l g) := by
          show (if _ then _ else _) = _
          rw [if_pos ⟨decide_eq_true (by omega), Int32.not_le.mp c2⟩]
        have hgo := ih fu (g + 1) (jput S (57, 0) (upd (S.2 (57, 0)) l (nI g))) (M.put (by simp)) (by rw [jput_o (by simp)]; exact hh) (by rw [jput_at, e]; exact pk_us) (by omega) (by omega)
        rw [e] at hgo
        rw [hgo, jput_put, jput_at, upd_upd, jput_o (b := (58, 0)) (by simp)]
def gq57 (r : jR) : Bool := r == (57, 0) || r == (58, 0)
theorem sX8_findsChoices_6 {h : Nat → Int32} {qs : Nat → List Int32} (H : HV h) : ∀ (d fu l : Nat) (S : jS), WM (S.2 (50, 0)) h qs → (∀ q, q < 18 → S.2 (56, 0) q = hops h q) → (∀ a, a < l → S.2 (57, 0) a = (aCho h qs a).1 ∧ S.2 (58, 0) a = aWt h qs a) → l + d = hn h → d < fu → ∃ S', fX8_findsChoices_6 fu S (nI l) = some S' ∧ (∀ a, a < hn h → S'.2 (57, 0) a = (aCho h qs a).1 ∧ S'.2 (58, 0) a = aWt h qs a) ∧ jFr gp0 gq57 S S' := by
  have hn10 := H.2.2.1.2
  intro d
  induction d with
  | zero =>
    intro fu l S M hh hdone hl hfu
    obtain ⟨fu, rfl⟩ : ∃ m, fu = m + 1 := ⟨fu - 1, by omega⟩
    obtain rfl : l = hn h := by omega
    refine ⟨S, ?_, hdone, jFr.rf⟩
    show bX8_findsChoices_6 (fX8_findsChoices_6 fu) S (nI (hn h)) = _
    unfold bX8_findsChoices_6
    rw [if_pos (by decide), cl5, M.1 5 (by omega), H.2.2.1.1, if_pos ((nI_leI (by omega) (by omega)).mpr (Nat.le_refl _))]
  | succ d ih =>
    intro fu l S M hh hdone hl hfu
    obtain ⟨fu, rfl⟩ : ∃ m, fu = m + 1 := ⟨fu - 1, by omega⟩
    have hlt : l < hn h := by omega
    have i1 : jIn (nI l) 10 := jIn_lit (by omega) (by omega)
    show ∃ S', bX8_findsChoices_6 (fX8_findsChoices_6 fu) S (nI l) = some S' ∧ _
    unfold bX8_findsChoices_6
    rw [if_pos (by decide), cl5, M.1 5 (by omega), H.2.2.1.1, if_neg (fun h9 => by have := (nI_leI (a := hn h) (b := l) (by omega) (by omega)).mp h9; omega), if_pos i1, nI_clamp (by omega)]
    unfold jlet
    dsimp only
    have h28 := sX8_findsChoices_28 (q6 := fX8_findsChoices_6 fu) H hlt (hG h) 5000 0 (jput S (57, 0) (upd (S.2 (57, 0)) l (-4))) (M.put (by simp)) (by rw [jput_o (by simp)]; exact hh) (by rw [jput_at]; exact pk_us) (by omega) (by have := H.2.1.2.2; omega)
    have h28' : fX8_findsChoices_28 (fX8_findsChoices_6 fu) 5000 (jput S (57, 0) (upd (S.2 (57, 0)) l (-4))) (nI l) 0 0 = _ := h28
    rw [h28', jput_put, jput_at, upd_upd, jput_o (b := (58, 0)) (by simp)]
    obtain ⟨S', a1, a2, a3⟩ := ih fu (l + 1) (jput (jput S (57, 0) (upd (S.2 (57, 0)) l (aCho h qs l).1)) (58, 0) (upd (S.2 (58, 0)) l (aWt h qs l))) ((M.put (by simp)).put (by simp)) (by rw [jput_o (by simp), jput_o (by simp)]; exact hh) (by
      intro a ha
      rw [jput_o (b := (57, 0)) (a := (58, 0)) (by simp), jput_at, jput_at]
      by_cases e : a = l
      · subst e
        rw [pk_us, pk_us]
        exact ⟨rfl, rfl⟩
      · rw [pk_un e, pk_un e]
        exact hdone a (by omega)) (by omega) (by omega)
    exact ⟨S', a1, a2, ((jFr.put (by rfl)).tr (jFr.put (by rfl))).tr a3⟩
theorem mL_of {S : jS} {h : Nat → Int32} {qs : Nat → List Int32} (H : HV h) (M : WM (S.2 (50, 0)) h qs) : mL S (hn h) (hm h) (hG h) (hfi h) (hse h) (hgo h) := by
  have hn10 := H.2.2.1.2
  have hG3 := H.2.1.2.2
  have hm2 := H.1.2
  refine ⟨⟨(M.1 5 (by omega)).trans H.2.2.1.1, hn10, (M.1 0 (by omega)).trans H.1.1, by omega, by omega, (M.1 1 (by omega)).trans H.2.1.1, hG3⟩, fun l hl => ?_, fun g hg => ?_⟩
  · obtain ⟨⟨l1, l1'⟩, ⟨l2, l2'⟩, -⟩ := H.2.2.2.2.2.2.2.1 l hl
    exact ⟨(M.1 _ (by omega)).trans l1, l1', (M.1 _ (by omega)).trans l2, l2'⟩
  · obtain ⟨g1, g2⟩ := H.2.2.2.2.2.1 g hg
    exact ⟨(M.1 _ (by omega)).trans g1, g2⟩
def gq56 (r : jR) : Bool := r == (56, 0) || r == (57, 0) || r == (58, 0)
theorem sX8_findsHopsW {S : jS} {h : Nat → Int32} {qs : Nat → List Int32} (H : HV h) (M : WM (S.2 (50, 0)) h qs) : ∃ S', fX8_findsHops S = some S' ∧ (∀ q, q < 18 → S'.2 (56, 0) q = hops h q) ∧ jFr gp0 (fun r => r == (56, 0)) S S' := by
  refine ⟨_, sX8_findsHops (mL_of H M), fun q hq => ?_, jFr.put (by rfl)⟩
  rw [jput_at]
  exact hAll_congr (fun i hi => by simp [hi]) (fun l hl => H.lk hl) (hG h) H.2.1.2.2 q hq
theorem sX8_findsChoices {S : jS} {h : Nat → Int32} {qs : Nat → List Int32} (H : HV h) (M : WM (S.2 (50, 0)) h qs) : ∃ S', fX8_findsChoices S = some S' ∧ (∀ a, a < hn h → S'.2 (57, 0) a = (aCho h qs a).1 ∧ S'.2 (58, 0) a = aWt h qs a) ∧ (∀ q, q < 18 → S'.2 (56, 0) q = hops h q) ∧ jFr gp0 gq56 S S' := by
  obtain ⟨S1, a1, a2, a3⟩ := sX8_findsHopsW H M
  have M1 : WM (S1.2 (50, 0)) h qs := by rw [a3.2 (50, 0) rfl]; exact M
  obtain ⟨S', b1, b2, b3⟩ := sX8_findsChoices_6 H (hn h) 5000 0 S1 M1 a2 (fun a ha => absurd ha (Nat.not_lt_zero a)) (by omega) (by have := H.2.2.1.2; omega)
  refine ⟨S', ?_, b2, ?_, ?_⟩
  · unfold fX8_findsChoices
    rw [a1, Option.bind_some]
    exact b1
  · rw [b3.2 (56, 0) rfl]; exact a2
  · refine (a3.mono (fun _ h => h) ?_).tr (b3.mono (fun _ h => h) ?_)
    · intro r hr
      have hr : (r == (56, 0)) = true := hr
      simp [gq56, hr]
    · intro r hr; simp only [gq57, Bool.or_eq_true] at hr; simp only [gq56, Bool.or_eq_true]; rcases hr with hr | hr <;> simp [hr]
/-- the reference's going, behind its choices -/
theorem sX8_goingW {S : jS} {h : Nat → Int32} {qs : Nat → List Int32} {cl : Nat → Nat} {b : Int32} (H : HV h) (h40 : ∀ q, q < 18 → (qs q).length ≤ 40) (e5 : S.2 (50, 0) 5 = h 5) (ec : ∀ a, a < hn h → S.2 (50, 0) (36 + a) = nI (cl a)) (hsym : ∀ a b, (cl a).testBit b = (cl b).testBit a) (hirr : ∀ a, (cl a).testBit a = false) (hcl : ∀ a, cl a < 1024) (hw : ∀ a, a < hn h → S.2 (57, 0) a = (aCho h qs a).1 ∧ S.2 (58, 0) a = aWt h qs a) :
    ∃ S' g, aGo h qs cl (fun a => decide (nI a = b)) g ∧ fX8_findsGoing S b = some S' ∧ S'.1 (15, 0) = nI g ∧ S'.1 (16, 0) = nI (gW (aWn h qs) g) ∧ jFr gp15 gq59 S S' := by
  obtain ⟨S', g, h1, h2, h3, h4, h5⟩ := sX8_findsGoing (n := hn h) (cl := cl) (w := aWn h qs) (S := S) (b := b) (e5.trans H.2.2.1.1) H.2.2.1.2 (fun a ha => (hw a ha).2.trans (aWt_n H h40 ha).1) ec (fun l _ => aWn_le H h40 l) hsym hirr hcl
  refine ⟨S', g, ?_, h2, h3, h4, h5⟩
  unfold aGo
  rw [gM_congr (f' := S.2 (57, 0)) (bar' := fun a => decide (nI a = b)) (fun l hl => ⟨(hw l hl).1.symm, rfl⟩)]
  exact h1
