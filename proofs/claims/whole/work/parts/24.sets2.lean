/-! ===== the reference's going: all sets, one by one ===== -/
def gp15 (r : jR) : Bool := r == (15, 0) || r == (16, 0)
def gq59 (r : jR) : Bool := r == (59, 0) || r == (60, 0)
def gI (S : jS) (may : Nat) (cl w : Nat → Nat) (n set g : Nat) : Prop :=
  (S.2 (50, 0) 5 = nI n ∧ (∀ a, a < n → S.2 (58, 0) a = nI (w a)) ∧ ∀ a, a < n → S.2 (50, 0) (36 + a) = nI (cl a)) ∧ (∀ t, t < set → S.2 (59, 0) t = nI (gW w t)) ∧ (∀ t, t < set → (gF may cl t → S.2 (60, 0) t = 1) ∧ (¬ gF may cl t → S.2 (60, 0) t = 0)) ∧ S.1 (15, 0) = nI g ∧ S.1 (16, 0) = nI (gW w g) ∧ gF may cl g ∧ g < set ∧ ∀ t, t < set → gF may cl t → gK w t ≤ gK w g
/-- the arrays behind a set -/
def gS30 (S : jS) (w : Nat → Nat) (set : Nat) (t2 : Int32) : jS := jput (jput S (60, 0) (upd (S.2 (60, 0)) set t2)) (59, 0) (upd (S.2 (59, 0)) set (nI (gW w set)))
theorem gS30_1 {S : jS} {w : Nat → Nat} {set : Nat} {t2 : Int32} : (gS30 S w set t2).1 = S.1 := rfl
theorem gS30_59 {S : jS} {w : Nat → Nat} {set : Nat} {t2 : Int32} : (gS30 S w set t2).2 (59, 0) = upd (S.2 (59, 0)) set (nI (gW w set)) := by simp [gS30, jup]
theorem gS30_60 {S : jS} {w : Nat → Nat} {set : Nat} {t2 : Int32} : (gS30 S w set t2).2 (60, 0) = upd (S.2 (60, 0)) set t2 := by simp [gS30, jup]
theorem gS30_o {S : jS} {w : Nat → Nat} {set : Nat} {t2 : Int32} {r : jR} (h1 : r ≠ (59, 0)) (h2 : r ≠ (60, 0)) : (gS30 S w set t2).2 r = S.2 r := by simp [gS30, jup, h1, h2]
theorem s_209 {q : jS → Int32 → Int32 → Option jS} {S : jS} {may set : Nat} {t0 t2 : Int32} {v : Int32} (hset : set < 1024) (h60 : S.2 (60, 0) set = t2) (h59 : S.2 (59, 0) set = v) : bX8_findsGoing_209 q S (nI may) (nI set) t0 = if t2 = 0 then q S (nI may) (nI (set + 1)) else if t0 = 0 then q S (nI may) (nI (set + 1)) else q (jset (jset S (15, 0) (nI set)) (16, 0) v) (nI may) (nI (set + 1)) := by
  have hin : jIn (nI set) 1024 := jIn_lit (by omega) hset
  unfold bX8_findsGoing_209 bX8_findsGoing_240 jlet
  dsimp only
  rw [if_pos hin, if_pos hin, nI_clamp (n := set) (by omega), h60, nI_1, h59]
set_option maxHeartbeats 2000000 in
theorem s_142 {q : jS → Int32 → Int32 → Option jS} {S : jS} {may set l rest n g : Nat} {cl w : Nat → Nat} {t2 : Int32} (ht2 : t2 = 0 ∨ t2 = 1) (hw : ∀ l, l < 10 → w l ≤ 2000) (hset : set < 1024) (hl : l < n) (hn : n ≤ 10) (hrest : rest < set) (hg : g < set) (I : gI S may cl w n set g) (hW : gW w set = gW w rest + w l) :
    bX8_findsGoing_142 q S (nI may) (nI set) (nI l) (nI rest) (nI set) t2 = if t2 = 0 then q (gS30 S w set t2) (nI may) (nI (set + 1)) else if gW w g < gW w set ∨ (gW w set = gW w g ∧ gC set < gC g) then q (jset (jset (gS30 S w set t2) (15, 0) (nI set)) (16, 0) (nI (gW w set))) (nI may) (nI (set + 1)) else q (gS30 S w set t2) (nI may) (nI (set + 1)) := by
  obtain ⟨⟨i1, i2, i3⟩, i4, i5, i6, i7, i8, i9, i10⟩ := I
  have hin : jIn (nI set) 1024 := jIn_lit (by omega) hset
  unfold bX8_findsGoing_142
  rw [if_pos hin, if_pos (by rcases ht2 with rfl | rfl <;> decide)]
  unfold jlet
  dsimp only
  rw [if_pos (jIn_lit (a := rest) (by omega) (by omega)), if_pos (jIn_lit (a := l) (by omega) (by omega)), if_pos hin, if_pos hin, if_pos hin, nI_clamp (n := set) (by omega), nI_clamp (n := rest) (by omega), nI_clamp (n := l) (by omega)]
  have e59 : (jup S.2 (60, 0) (upd (S.2 (60, 0)) set t2)) (59, 0) = S.2 (59, 0) := jup_ne _ _ (by simp)
  have e58 : (jup S.2 (60, 0) (upd (S.2 (60, 0)) set t2)) (58, 0) = S.2 (58, 0) := jup_ne _ _ (by simp)
  simp only [e59, e58, i4 rest hrest, i2 l hl, nI_add, ← hW]
  have eS : jput (jput S (60, 0) (upd (S.2 (60, 0)) set t2)) (59, 0) (upd (S.2 (59, 0)) set (nI (gW w set))) = gS30 S w set t2 := rfl
  have eR : jup (jup S.2 (60, 0) (upd (S.2 (60, 0)) set t2)) (59, 0) (upd (S.2 (59, 0)) set (nI (gW w set))) (59, 0) set = nI (gW w set) := by rw [jup_self]; exact pk_us
  simp only [eR, eS, i7, i6]
  have e59' : (gS30 S w set t2).2 (59, 0) set = nI (gW w set) := by rw [gS30_59]; exact pk_us
  have e60' : (gS30 S w set t2).2 (60, 0) set = t2 := by rw [gS30_60]; exact pk_us
  unfold bX8_findsGoing_204 bX8_findsGoing_208
  rw [sX8_ones _ hset, Option.bind_some]
  dsimp only
  rw [gS30_1, i6, sX8_ones _ (by omega), Option.bind_some]
  dsimp only
  have bs := gW_le hw set
  have bg := gW_le hw g
  have cs := gC_le set
  have cg := gC_le g
  rw [s_209 hset e60' e59', s_209 hset e60' e59']
  have a1 := nI_ltI (a := gW w g) (b := gW w set) (by omega) (by omega)
  have a2 := nI_eq (a := gW w set) (b := gW w g) (by omega) (by omega)
  have a3 := nI_leI (a := gC g) (b := gC set) (by omega) (by omega)
  have z1 : ¬ (1 : Int32) = 0 := by decide
  by_cases c0 : t2 = 0
  · simp only [c0, if_true]
    split <;> (try split) <;> (try split) <;> rfl
  · simp only [if_neg c0, if_neg z1, if_true]
    by_cases c1 : gW w g < gW w set
    · rw [if_pos (a1.mpr c1), if_pos (Or.inl c1)]
    · rw [if_neg (fun h => c1 (a1.mp h))]
      by_cases c2 : gW w set = gW w g
      · rw [if_pos (a2.mpr c2)]
        by_cases c3 : gC g ≤ gC set
        · rw [if_pos (a3.mpr c3), if_neg (fun h => by rcases h with h | h; exact c1 h; exact absurd h.2 (by omega))]
        · rw [if_neg (fun h => c3 (a3.mp h)), if_pos (Or.inr ⟨c2, by omega⟩)]
      · rw [if_neg (fun h => c2 (a2.mp h)), if_neg (fun h => by rcases h with h | h; exact c1 h; exact c2 h.1)]
