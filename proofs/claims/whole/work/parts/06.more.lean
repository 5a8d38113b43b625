section JR3
variable {E : jE} {D : Nat} {M : jM} {pc : Nat} {lv : List (Nat × Value)} {st : List Value} {S S1 S' : jS} {r : List Value}
theorem j_lcmp {x y : Int64} (hd : decode M.2.1 pc = .ok (.lcmp, 1)) (k : JR E D M (pc + 1) lv (.int (lg_cmp x y) :: st) S r S') : JR E D M pc lv (.long y :: .long x :: st) S r S' := by
  intro p l e R s m args below meth c cells slots Q A C K ls H locs hl hP hD hS
  exact W.lcmp C.1.1 C.1.2.1 hd (k p l e R s m args below meth c cells slots Q A C K ls H locs hl hP hD hS)
theorem j_tabD {dflt lo hi : Int} {offs : Array Int} {len : Nat} {x : Int32} {tgt : Nat} (hd : decode M.2.1 pc = .ok (.tableswitch dflt lo hi offs, len)) (hsz : hi - lo + 1 = offs.size) (hs : ∀ i : Nat, i < offs.size → offs[i]? = some dflt ∨ x.toInt ≠ lo + i) (ht : (pc : Int) + dflt = (tgt : Int)) (k : JR E D M tgt lv st S r S') : JR E D M pc lv (.int x :: st) S r S' := by
  by_cases h : x.toInt < lo ∨ hi < x.toInt
  · exact j_tabOut hd h ht k
  · have h1 : ¬ x.toInt < lo := fun q => h (Or.inl q)
    have h2 : ¬ hi < x.toInt := fun q => h (Or.inr q)
    rcases hs (x.toInt - lo).toNat (by omega) with h3 | h3
    · exact j_tabIn hd h1 h2 h3 ht k
    · exact absurd (by omega) h3
end JR3
