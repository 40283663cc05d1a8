/-! A PROGRAM P: the reference's row 'now' of 573 ints. 0 kinds, 1 variables, 2 statements, 3+k states, 7+k ends, 11+k methods, 15+6k+m sort,
39+6(6k+m)+s yes, 183+6(6k+m)+s no, 327+v kind of a variable, 333+i sort, 373+i one, 413+i two, 453+i by, 493+i parent, 533+i block -/
def nN (x : Int32) : Nat := x.toInt.toNat
theorem nN_nI {n : Nat} (h : n < 2 ^ 31) : nN (nI n) = n := by unfold nN; rw [n_i h]; omega
abbrev nK (P : Nat → Int32) : Nat := nN (P 0)
abbrev nV (P : Nat → Int32) : Nat := nN (P 1)
abbrev nT (P : Nat → Int32) : Nat := nN (P 2)
abbrev nS (P : Nat → Int32) (k : Nat) : Nat := nN (P (3 + k))
abbrev nM (P : Nat → Int32) (k : Nat) : Nat := nN (P (11 + k))
abbrev pE (P : Nat → Int32) (k : Nat) : Int32 := P (7 + k)
abbrev pSo (P : Nat → Int32) (k m : Nat) : Int32 := P (15 + 6 * k + m)
abbrev pY (P : Nat → Int32) (k m s : Nat) : Int32 := P (39 + 6 * (6 * k + m) + s)
abbrev pN (P : Nat → Int32) (k m s : Nat) : Int32 := P (183 + 6 * (6 * k + m) + s)
abbrev vK (P : Nat → Int32) (v : Nat) : Nat := nN (P (327 + v))
/-- a transition: none, or two states of the kind; the same by yes and no unless it is a TEST; a LOOK stays -/
def WFt (P : Nat → Int32) (k m s : Nat) : Prop := (pY P k m s = -1 ∧ pN P k m s = -1) ∨ ∃ a b, a < nS P k ∧ b < nS P k ∧ pY P k m s = nI a ∧ pN P k m s = nI b ∧ (pSo P k m ≠ 1 → a = b) ∧ (pSo P k m = 2 → a = s)
def WFm (P : Nat → Int32) (k m : Nat) : Prop := (pSo P k m = 0 ∨ pSo P k m = 1 ∨ pSo P k m = 2) ∧ ∀ s, s < nS P k → WFt P k m s
def WFk (P : Nat → Int32) (k : Nat) : Prop := (P (3 + k) = nI (nS P k) ∧ 1 ≤ nS P k ∧ nS P k ≤ 6) ∧ (∀ s, nS P k ≤ s → bt (pE P k) s = false) ∧ (P (11 + k) = nI (nM P k) ∧ nM P k ≤ 6) ∧ ∀ m, m < nM P k → WFm P k m
def WFn (P : Nat → Int32) : Prop := (P 0 = nI (nK P) ∧ nK P ≤ 4) ∧ (P 1 = nI (nV P) ∧ nV P ≤ 6) ∧ (P 2 = nI (nT P) ∧ nT P ≤ 40)
def WFv (P : Nat → Int32) : Prop := ∀ v, v < nV P → P (327 + v) = nI (vK P v) ∧ vK P v < nK P
-- the class's program p holds P
def CRm (p : Nat) (I : Nat → Nat → Int32) (P : Nat → Int32) (k m : Nat) : Prop := I (p + 5) (6 * k + m) = pSo P k m ∧ (∀ s, bt (I (p + 6) (6 * k + m)) s = (decide (s < nS P k) && decide (pY P k m s ≠ -1))) ∧
  ∀ s, s < nS P k → pY P k m s ≠ -1 → I (p + 7) (6 * (6 * k + m) + s) = pY P k m s ∧ I (p + 8) (6 * (6 * k + m) + s) = pN P k m s
def CRk (p : Nat) (I : Nat → Nat → Int32) (P : Nat → Int32) : Prop := I (p + 1) 0 = P 0 ∧ ∀ k, k < nK P → I (p + 2) k = P (3 + k) ∧ I (p + 3) k = pE P k ∧ I (p + 4) k = P (11 + k) ∧ ∀ m, m < nM P k → CRm p I P k m
def CRv (p : Nat) (I : Nat → Nat → Int32) (P : Nat → Int32) : Prop := I p 1 = P 1 ∧ ∀ v, v < nV P → I (p + 13) v = P (327 + v)
def pid (sw : Bool) : Nat := if sw then 5 else 228
theorem pid_P {sw : Bool} : isP (pid sw) := by cases sw; exact Or.inr rfl; exact Or.inl rfl
section Many
variable {sw : Bool} {I J : Nat → Nat → Int32} {L K : Nat → Nat → Int64}
theorem c8_pg : h_fR 8 (mkC sw I L) 0 6 = some (pid sw) := c8_r6
/-- both answer r with status z, and nothing else has changed -/
def SA (x y : Option (Int32 × Hp)) (sw : Bool) (I : Nat → Nat → Int32) (L : Nat → Nat → Int64) (J : Nat → Nat → Int32) (K : Nat → Nat → Int64) : Prop :=
  ∃ r z, x = some (r, mkC sw (ur I 0 (up (I 0) 9 z)) L) ∧ y = some (r, mkM (ur J 0 (up (J 0) 5 z)) K)
theorem sa_many {a : Int32} (hk : CRk (pid sw) I (J 2)) (hv : CRv (pid sw) I (J 2)) (ht : I (pid sw) 3 = J 2 2) : SA (MX8_many 0 a (mkC sw I L)) (MX9_many 0 a (mkM J K)) sw I L J K := by
  simp only [MX8_many, MX9_many, c8_g, m_g, c8_pg, Option.bind_some, c4_r0 pid_P, c2_fI (isP_K pid_P), c4_fI pid_P, c_answer, c_refuse, m_refuse, m_r1]
  rw [isFrom_c (y := 2) (n := 2) rfl (by decide), Option.bind_some]
  by_cases h : inR a 3 = true
  · obtain ⟨j, hj, rfl⟩ := inR_of (by decide) h
    simp only [h, if_true, m_ld2 (show j < 573 by omega), Option.bind_some, m_gives]
    rcases (show j = 0 ∨ j = 1 ∨ j = 2 by omega) with rfl | rfl | rfl
    · exact ⟨J 2 0, 0, by rw [hk.1]; rfl, rfl⟩
    · exact ⟨J 2 1, 0, by rw [hv.1]; rfl, rfl⟩
    · exact ⟨J 2 2, 0, by rw [ht]; rfl, rfl⟩
  · simp only [h, if_false]
    refine ⟨-1, 1, ?_, rfl⟩
    rw [if_neg, if_neg, if_neg]
    · rintro rfl; exact h rfl
    · rintro rfl; exact h rfl
    · rintro rfl; exact h rfl
end Many
