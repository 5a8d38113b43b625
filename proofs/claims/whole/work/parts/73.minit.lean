/-! ===== what the reference's constructor leaves ===== -/
def mJ (l : List Int32) (S : jS) : Prop := S.2 (54, 0) = hL l ∧ S.1 (13, 0) = 0
theorem m_st {l l' : List Int32} {S : jS} {k : Nat} {x : Int32} (I : mJ l S) (hk : k < l.length) (e : l.set k x = l') : mJ l' (jput S (54, 0) (upd (S.2 (54, 0)) k x)) := by
  refine ⟨?_, I.2⟩
  rw [jput_at, I.1, hL_upd hk, e]
theorem tL_L {l l' : List Int32} {u v w n : Nat} (en : hn (hL l) = n) (hk : l.length = 66) (hn9 : n < 10) (e : (((l.set (6 + 3 * n) (nI u)).set (6 + 3 * n + 1) (nI v)).set (6 + 3 * n + 2) (nI w)).set 5 (nI (n + 1)) = l') : tL (hL l) u v w = hL l' := by
  unfold tL
  rw [en, hL_upd (by omega), hL_upd (by simp only [List.length_set]; omega), hL_upd (by simp only [List.length_set]; omega), hL_upd (by simp only [List.length_set]; omega), e]
theorem m_lk {l l' : List Int32} {S : jS} {n : Nat} (u v w : Nat) (I : mJ l S) (en : hn (hL l) = n) (e5 : hL l 5 = nI n) (hk : l.length = 66) (hn9 : n < 10) (e : (((l.set (6 + 3 * n) (nI u)).set (6 + 3 * n + 1) (nI v)).set (6 + 3 * n + 2) (nI w)).set 5 (nI (n + 1)) = l') : ∃ S', fX8_links S (nI u) (nI v) (nI w) = some S' ∧ mJ l' S' := by
  obtain ⟨S', a1, a2, a3⟩ := sX8_links (S := S) (h := hL l) (by omega) (by rw [en]; exact e5) I.1 u v w
  exact ⟨S', a1, a3.trans (tL_L en hk hn9 e), (a2.1 (13, 0) rfl).trans I.2⟩
theorem m_cl {l l' : List Int32} {S : jS} (u v cu cv x y : Nat) (I : mJ l S) (hu : u < 10) (hv : v < 10) (huv : u ≠ v) (e1 : hL l (36 + u) = nI cu) (e2 : hL l (36 + v) = nI cv) (ex : cu ||| 2 ^ v = x) (ey : cv ||| 2 ^ u = y) (hk : l.length = 66) (e : (l.set (36 + u) (nI x)).set (36 + v) (nI y) = l') : ∃ S', fX8_clashes (54, 0) S (nI u) (nI v) (nI 1) = some S' ∧ mJ l' S' := by
  have a1 := sX8_clashes (a := (54, 0)) (S := S) (is := 1) (cu := cu) (cv := cv) rfl hu hv huv (by omega) (by rw [I.1]; exact e1) (by rw [I.1]; exact e2)
  rw [if_pos rfl, if_pos rfl, ex, ey, I.1, tC_L hk hu hv e] at a1
  exact ⟨_, a1, jput_at, I.2⟩
theorem m_init {W : Nat → aW} {T : Nat → Int32} : ∃ S', fX8_init_130 jZ = some S' ∧ MS S' 0 W A_F 0 T := by
  obtain ⟨y0, e0, I0⟩ : ∃ y, fX8_begins jZ = some y ∧ mJ l_0 y := by
    refine ⟨_, sX8_begins jZ, ?_, rfl⟩
    rw [jput_at, hL_0]
    funext j
    show (if j < 815 then (0 : Int32) else 0) = 0
    split <;> rfl
  obtain ⟨y1, e1, I1⟩ : ∃ S, S = jput y0 (54, 0) (upd (y0.2 (54, 0)) (0 : Int32).toNatClampNeg (5 : Int32)) ∧ mJ [5, 0, 0, 0, 0, 0, 0, 0, 0, 0, 0, 0, 0, 0, 0, 0, 0, 0, 0, 0, 0, 0, 0, 0, 0, 0, 0, 0, 0, 0, 0, 0, 0, 0, 0, 0, 0, 0, 0, 0, 0, 0, 0, 0, 0, 0, 0, 0, 0, 0, 0, 0, 0, 0, 0, 0, 0, 0, 0, 0, 0, 0, 0, 0, 0, 0] S := ⟨_, rfl, m_st I0 (by decide +kernel) (by decide +kernel)⟩
  obtain ⟨y2, e2, I2⟩ : ∃ S, S = jput y1 (54, 0) (upd (y1.2 (54, 0)) (1 : Int32).toNatClampNeg (2 : Int32)) ∧ mJ [5, 2, 0, 0, 0, 0, 0, 0, 0, 0, 0, 0, 0, 0, 0, 0, 0, 0, 0, 0, 0, 0, 0, 0, 0, 0, 0, 0, 0, 0, 0, 0, 0, 0, 0, 0, 0, 0, 0, 0, 0, 0, 0, 0, 0, 0, 0, 0, 0, 0, 0, 0, 0, 0, 0, 0, 0, 0, 0, 0, 0, 0, 0, 0, 0, 0] S := ⟨_, rfl, m_st I1 (by decide +kernel) (by decide +kernel)⟩
  obtain ⟨y3, e3, I3⟩ : ∃ S, S = jput y2 (54, 0) (upd (y2.2 (54, 0)) (2 : Int32).toNatClampNeg (4 : Int32)) ∧ mJ [5, 2, 4, 0, 0, 0, 0, 0, 0, 0, 0, 0, 0, 0, 0, 0, 0, 0, 0, 0, 0, 0, 0, 0, 0, 0, 0, 0, 0, 0, 0, 0, 0, 0, 0, 0, 0, 0, 0, 0, 0, 0, 0, 0, 0, 0, 0, 0, 0, 0, 0, 0, 0, 0, 0, 0, 0, 0, 0, 0, 0, 0, 0, 0, 0, 0] S := ⟨_, rfl, m_st I2 (by decide +kernel) (by decide +kernel)⟩
  obtain ⟨y4, e4, I4⟩ : ∃ S, S = jput y3 (54, 0) (upd (y3.2 (54, 0)) (3 : Int32).toNatClampNeg (2 : Int32)) ∧ mJ [5, 2, 4, 2, 0, 0, 0, 0, 0, 0, 0, 0, 0, 0, 0, 0, 0, 0, 0, 0, 0, 0, 0, 0, 0, 0, 0, 0, 0, 0, 0, 0, 0, 0, 0, 0, 0, 0, 0, 0, 0, 0, 0, 0, 0, 0, 0, 0, 0, 0, 0, 0, 0, 0, 0, 0, 0, 0, 0, 0, 0, 0, 0, 0, 0, 0] S := ⟨_, rfl, m_st I3 (by decide +kernel) (by decide +kernel)⟩
  obtain ⟨y5, e5, I5⟩ := m_lk (l' := [5, 2, 4, 2, 0, 1, 0, 1, 3, 0, 0, 0, 0, 0, 0, 0, 0, 0, 0, 0, 0, 0, 0, 0, 0, 0, 0, 0, 0, 0, 0, 0, 0, 0, 0, 0, 0, 0, 0, 0, 0, 0, 0, 0, 0, 0, 0, 0, 0, 0, 0, 0, 0, 0, 0, 0, 0, 0, 0, 0, 0, 0, 0, 0, 0, 0]) (n := 0) 0 1 3 I4 (by decide +kernel) (by decide +kernel) (by decide +kernel) (by decide +kernel) (by decide +kernel)
  have e5 : fX8_links y4 (0 : Int32) (1 : Int32) (3 : Int32) = some y5 := e5
  obtain ⟨y6, e6, I6⟩ := m_lk (l' := [5, 2, 4, 2, 0, 2, 0, 1, 3, 1, 4, 2, 0, 0, 0, 0, 0, 0, 0, 0, 0, 0, 0, 0, 0, 0, 0, 0, 0, 0, 0, 0, 0, 0, 0, 0, 0, 0, 0, 0, 0, 0, 0, 0, 0, 0, 0, 0, 0, 0, 0, 0, 0, 0, 0, 0, 0, 0, 0, 0, 0, 0, 0, 0, 0, 0]) (n := 1) 1 4 2 I5 (by decide +kernel) (by decide +kernel) (by decide +kernel) (by decide +kernel) (by decide +kernel)
  have e6 : fX8_links y5 (1 : Int32) (4 : Int32) (2 : Int32) = some y6 := e6
  obtain ⟨y7, e7, I7⟩ := m_lk (l' := [5, 2, 4, 2, 0, 3, 0, 1, 3, 1, 4, 2, 0, 3, 2, 0, 0, 0, 0, 0, 0, 0, 0, 0, 0, 0, 0, 0, 0, 0, 0, 0, 0, 0, 0, 0, 0, 0, 0, 0, 0, 0, 0, 0, 0, 0, 0, 0, 0, 0, 0, 0, 0, 0, 0, 0, 0, 0, 0, 0, 0, 0, 0, 0, 0, 0]) (n := 2) 0 3 2 I6 (by decide +kernel) (by decide +kernel) (by decide +kernel) (by decide +kernel) (by decide +kernel)
  have e7 : fX8_links y6 (0 : Int32) (3 : Int32) (2 : Int32) = some y7 := e7
  obtain ⟨y8, e8, I8⟩ := m_lk (l' := [5, 2, 4, 2, 0, 4, 0, 1, 3, 1, 4, 2, 0, 3, 2, 3, 4, 2, 0, 0, 0, 0, 0, 0, 0, 0, 0, 0, 0, 0, 0, 0, 0, 0, 0, 0, 0, 0, 0, 0, 0, 0, 0, 0, 0, 0, 0, 0, 0, 0, 0, 0, 0, 0, 0, 0, 0, 0, 0, 0, 0, 0, 0, 0, 0, 0]) (n := 3) 3 4 2 I7 (by decide +kernel) (by decide +kernel) (by decide +kernel) (by decide +kernel) (by decide +kernel)
  have e8 : fX8_links y7 (3 : Int32) (4 : Int32) (2 : Int32) = some y8 := e8
  obtain ⟨y9, e9, I9⟩ := m_lk (l' := [5, 2, 4, 2, 0, 5, 0, 1, 3, 1, 4, 2, 0, 3, 2, 3, 4, 2, 1, 2, 1, 0, 0, 0, 0, 0, 0, 0, 0, 0, 0, 0, 0, 0, 0, 0, 0, 0, 0, 0, 0, 0, 0, 0, 0, 0, 0, 0, 0, 0, 0, 0, 0, 0, 0, 0, 0, 0, 0, 0, 0, 0, 0, 0, 0, 0]) (n := 4) 1 2 1 I8 (by decide +kernel) (by decide +kernel) (by decide +kernel) (by decide +kernel) (by decide +kernel)
  have e9 : fX8_links y8 (1 : Int32) (2 : Int32) (1 : Int32) = some y9 := e9
  obtain ⟨y10, e10, I10⟩ := m_lk (l' := [5, 2, 4, 2, 0, 6, 0, 1, 3, 1, 4, 2, 0, 3, 2, 3, 4, 2, 1, 2, 1, 3, 2, 2, 0, 0, 0, 0, 0, 0, 0, 0, 0, 0, 0, 0, 0, 0, 0, 0, 0, 0, 0, 0, 0, 0, 0, 0, 0, 0, 0, 0, 0, 0, 0, 0, 0, 0, 0, 0, 0, 0, 0, 0, 0, 0]) (n := 5) 3 2 2 I9 (by decide +kernel) (by decide +kernel) (by decide +kernel) (by decide +kernel) (by decide +kernel)
  have e10 : fX8_links y9 (3 : Int32) (2 : Int32) (2 : Int32) = some y10 := e10
  obtain ⟨y11, e11, I11⟩ := m_lk (l' := [5, 2, 4, 2, 0, 7, 0, 1, 3, 1, 4, 2, 0, 3, 2, 3, 4, 2, 1, 2, 1, 3, 2, 2, 2, 4, 1, 0, 0, 0, 0, 0, 0, 0, 0, 0, 0, 0, 0, 0, 0, 0, 0, 0, 0, 0, 0, 0, 0, 0, 0, 0, 0, 0, 0, 0, 0, 0, 0, 0, 0, 0, 0, 0, 0, 0]) (n := 6) 2 4 1 I10 (by decide +kernel) (by decide +kernel) (by decide +kernel) (by decide +kernel) (by decide +kernel)
  have e11 : fX8_links y10 (2 : Int32) (4 : Int32) (1 : Int32) = some y11 := e11
  obtain ⟨y12, e12, I12⟩ := m_cl (l' := [5, 2, 4, 2, 0, 7, 0, 1, 3, 1, 4, 2, 0, 3, 2, 3, 4, 2, 1, 2, 1, 3, 2, 2, 2, 4, 1, 0, 0, 0, 0, 0, 0, 0, 0, 0, 4, 0, 1, 0, 0, 0, 0, 0, 0, 0, 0, 0, 0, 0, 0, 0, 0, 0, 0, 0, 0, 0, 0, 0, 0, 0, 0, 0, 0, 0]) 0 2 0 0 4 1 I11 (by decide +kernel) (by decide +kernel) (by decide +kernel) (by decide +kernel) (by decide +kernel) (by decide +kernel) (by decide +kernel) (by decide +kernel) (by decide +kernel)
  have e12 : fX8_clashes (54, 0) y11 (0 : Int32) (2 : Int32) (1 : Int32) = some y12 := e12
  obtain ⟨y13, e13, I13⟩ := m_cl (l' := [5, 2, 4, 2, 0, 7, 0, 1, 3, 1, 4, 2, 0, 3, 2, 3, 4, 2, 1, 2, 1, 3, 2, 2, 2, 4, 1, 0, 0, 0, 0, 0, 0, 0, 0, 0, 4, 8, 1, 2, 0, 0, 0, 0, 0, 0, 0, 0, 0, 0, 0, 0, 0, 0, 0, 0, 0, 0, 0, 0, 0, 0, 0, 0, 0, 0]) 1 3 0 0 8 2 I12 (by decide +kernel) (by decide +kernel) (by decide +kernel) (by decide +kernel) (by decide +kernel) (by decide +kernel) (by decide +kernel) (by decide +kernel) (by decide +kernel)
  have e13 : fX8_clashes (54, 0) y12 (1 : Int32) (3 : Int32) (1 : Int32) = some y13 := e13
  obtain ⟨y14, e14, I14⟩ := m_cl (l' := [5, 2, 4, 2, 0, 7, 0, 1, 3, 1, 4, 2, 0, 3, 2, 3, 4, 2, 1, 2, 1, 3, 2, 2, 2, 4, 1, 0, 0, 0, 0, 0, 0, 0, 0, 0, 4, 8, 1, 2, 32, 16, 0, 0, 0, 0, 0, 0, 0, 0, 0, 0, 0, 0, 0, 0, 0, 0, 0, 0, 0, 0, 0, 0, 0, 0]) 4 5 0 0 32 16 I13 (by decide +kernel) (by decide +kernel) (by decide +kernel) (by decide +kernel) (by decide +kernel) (by decide +kernel) (by decide +kernel) (by decide +kernel) (by decide +kernel)
  have e14 : fX8_clashes (54, 0) y13 (4 : Int32) (5 : Int32) (1 : Int32) = some y14 := e14
  obtain ⟨y15, e15, I15⟩ : ∃ S, S = jput y14 (54, 0) (upd (y14.2 (54, 0)) (46 : Int32).toNatClampNeg (2 : Int32)) ∧ mJ [5, 2, 4, 2, 0, 7, 0, 1, 3, 1, 4, 2, 0, 3, 2, 3, 4, 2, 1, 2, 1, 3, 2, 2, 2, 4, 1, 0, 0, 0, 0, 0, 0, 0, 0, 0, 4, 8, 1, 2, 32, 16, 0, 0, 0, 0, 2, 0, 0, 0, 0, 0, 0, 0, 0, 0, 0, 0, 0, 0, 0, 0, 0, 0, 0, 0] S := ⟨_, rfl, m_st I14 (by decide +kernel) (by decide +kernel)⟩
  obtain ⟨y16, e16, I16⟩ : ∃ S, S = jput y15 (54, 0) (upd (y15.2 (54, 0)) (47 : Int32).toNatClampNeg (1 : Int32)) ∧ mJ [5, 2, 4, 2, 0, 7, 0, 1, 3, 1, 4, 2, 0, 3, 2, 3, 4, 2, 1, 2, 1, 3, 2, 2, 2, 4, 1, 0, 0, 0, 0, 0, 0, 0, 0, 0, 4, 8, 1, 2, 32, 16, 0, 0, 0, 0, 2, 1, 0, 0, 0, 0, 0, 0, 0, 0, 0, 0, 0, 0, 0, 0, 0, 0, 0, 0] S := ⟨_, rfl, m_st I15 (by decide +kernel) (by decide +kernel)⟩
  obtain ⟨y17, e17, I17⟩ : ∃ S, S = jput y16 (54, 0) (upd (y16.2 (54, 0)) (56 : Int32).toNatClampNeg (1 : Int32)) ∧ mJ [5, 2, 4, 2, 0, 7, 0, 1, 3, 1, 4, 2, 0, 3, 2, 3, 4, 2, 1, 2, 1, 3, 2, 2, 2, 4, 1, 0, 0, 0, 0, 0, 0, 0, 0, 0, 4, 8, 1, 2, 32, 16, 0, 0, 0, 0, 2, 1, 0, 0, 0, 0, 0, 0, 0, 0, 1, 0, 0, 0, 0, 0, 0, 0, 0, 0] S := ⟨_, rfl, m_st I16 (by decide +kernel) (by decide +kernel)⟩
  obtain ⟨y18, e18, I18⟩ : ∃ S, S = jput y17 (54, 0) (upd (y17.2 (54, 0)) (64 : Int32).toNatClampNeg (1 : Int32)) ∧ mJ [5, 2, 4, 2, 0, 7, 0, 1, 3, 1, 4, 2, 0, 3, 2, 3, 4, 2, 1, 2, 1, 3, 2, 2, 2, 4, 1, 0, 0, 0, 0, 0, 0, 0, 0, 0, 4, 8, 1, 2, 32, 16, 0, 0, 0, 0, 2, 1, 0, 0, 0, 0, 0, 0, 0, 0, 1, 0, 0, 0, 0, 0, 0, 0, 1, 0] S := ⟨_, rfl, m_st I17 (by decide +kernel) (by decide +kernel)⟩
  have eF : y18.2 (54, 0) = h_F := I18.1
  refine ⟨jset (jput y18 (50, 0) (fun j => if j < 815 then y18.2 (54, 0) j else y18.2 (50, 0) j)) (12, 0) 0, ?_, ⟨⟨⟨fun j hj => ?_, fun q hq => ⟨?_, by show 0 ≤ 40; omega, fun k hk => absurd hk (by show ¬ k < 0; omega)⟩⟩, rfl, by omega, fun k hk => by omega⟩, I18.2, by omega, fun j hj => by omega⟩⟩
  · unfold fX8_init_130
    rw [e0, Option.bind_some, if_pos (by decide), jlet_eq, ← e1, if_pos (by decide), jlet_eq, ← e2, if_pos (by decide), jlet_eq, ← e3, if_pos (by decide), jlet_eq, ← e4, e5, Option.bind_some, e6, Option.bind_some, e7, Option.bind_some, e8, Option.bind_some, e9, Option.bind_some, e10, Option.bind_some, e11, Option.bind_some, e12, Option.bind_some, e13, Option.bind_some, e14, Option.bind_some, if_pos (by decide), jlet_eq, ← e15, if_pos (by decide), jlet_eq, ← e16, if_pos (by decide), jlet_eq, ← e17, if_pos (by decide), jlet_eq, ← e18, sX8_takes, Option.bind_some]
  · rw [jsp_at, if_pos (by omega), eF]
    rfl
  · rw [jsp_at, if_pos (by omega), eF]
    exact h_F_z (by omega)
