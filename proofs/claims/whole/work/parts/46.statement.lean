section Statement
variable {sw : Bool} {I : Nat → Nat → Int32} {L : Nat → Nat → Int64} {J : Nat → Nat → Int32} {K : Nat → Nat → Int64} {p fu : Nat} {P : Nat → Int32} {D : Nat → Nat} {out out' : Nat → Bool}
def no (_ : Nat) : Bool := false
def CRs (p : Nat) (I : Nat → Nat → Int32) (P : Nat → Int32) (D : Nat → Nat) : Prop := I p 3 = P 2 ∧ ∀ i, i < nT P → I (p + 14) i = P (333 + i) ∧ I (p + 15) i = P (373 + i) ∧ I (p + 16) i = P (413 + i) ∧ I (p + 17) i = P (453 + i) ∧ I (p + 18) i = nI (D i) ∧ I (p + 22) i = beh P no 8 i ∧ I (p + 23) i = lkY P no i ∧ I (p + 24) i = lkN P no i
theorem nxt_congr {a b : Int32} (h : ∀ j, j < nT P → out j = out' j) : ∀ r j, j + r ≤ nT P → nxt P out a b r j = nxt P out' a b r j := by
  intro r
  induction r with
  | zero => intro j _; rfl
  | succ r ih =>
    intro j hj
    unfold nxt
    rw [h j (by omega), ih (j + 1) (by omega)]
theorem beh_congr (hS : WFs P D) (h : ∀ j, j < nT P → out j = out' j) : ∀ f i, i < nT P → nT P ≤ 40 → beh P out f i = beh P out' f i := by
  intro f
  induction f with
  | zero => intro i _ _; rfl
  | succ f ih =>
    intro i hi h40
    unfold beh
    rw [nxt_congr h _ _ (by omega)]
    rcases (hS i hi).2.2 with h | ⟨q, h1, h2, h3, -⟩
    · rw [if_pos h.1, if_pos h.1]
    · rw [h2, nN_nI (by omega), ih q (by omega) h40]
theorem lkY_congr (hS : WFs P D) (h : ∀ j, j < nT P → out j = out' j) {i : Nat} (hi : i < nT P) (h40 : nT P ≤ 40) : lkY P out i = lkY P out' i := by
  unfold lkY
  rw [nxt_congr h _ _ (by omega), beh_congr hS h 8 i hi h40]
theorem lkN_congr (hS : WFs P D) (h : ∀ j, j < nT P → out j = out' j) {i : Nat} (hi : i < nT P) (h40 : nT P ≤ 40) : lkN P out i = lkN P out' i := by
  unfold lkN
  rw [nxt_congr h _ _ (by omega), beh_congr hS h 8 i hi h40]
theorem fst0_congr (h : ∀ j, j < nT P → out j = out' j) : fst0 P out = fst0 P out' := by
  unfold fst0
  rw [nxt_congr h _ _ (by omega)]
theorem c_hasStatement {a : Int32} {n : Nat} (hp : isP p) (h : I p 3 = nI n) (hn : n < 2 ^ 31) : MX4_hasStatement p a (mkC sw I L) = some (if inR a n then 1 else 0) := by
  simp only [MX4_hasStatement, c4_g hp, c4_fI hp, Option.bind_some, jn, h]
  exact rng_c hn
theorem m_isStatementAt {a : Int32} (hW : WFn (J 2)) : MX9_isStatementAt 0 a (mkM J K) = some (if inR a (nT (J 2)) then 1 else 0) := by
  have h40 := hW.2.2.2
  simp only [MX9_isStatementAt, m_g, m_statements, Option.bind_some]
  rw [hW.2.2.1, isFrom_n (by omega), Option.bind_some, h_z_ite, Option.bind_some]
theorem m_depth {i : Nat} {x : Nat} {j22 : Int32 → Option (Int32 × Hp)} (hx : x = 2) (hS : WFs (J 2) D) (h40 : nT (J 2) ≤ 40) (hi : i < nT (J 2)) (hfu : 41 < fu) : wh2 (MX9_statement_B161 j22 (mkM J K) x) fu (0 : Int32) (J 2 (493 + i)) = j22 (nI (D i)) := by
  subst hx
  refine wh2_rule (fun r v w => ∃ j, j < nT (J 2) ∧ w = J 2 (493 + j) ∧ r = D j ∧ ∃ n, v = nI n ∧ n + D j = D i) ?_ fu (D i) _ _ (by have := (hS i hi).2.1; omega) ⟨i, hi, rfl, rfl, 0, rfl, by omega⟩
  rintro r v w self ⟨j, hj, rfl, rfl, n, rfl, e⟩ ih
  simp only [MX9_statement_B161]
  rcases (hS j hj).2.2 with ⟨h, h0, -⟩ | ⟨q, h1, h2, h3, -⟩
  · rw [if_pos h, show n = D i by omega]
  · rw [h2, if_neg (nI_ne_m1 (by omega)), ix_c (show (493 : Int32) = nI 493 from rfl), m_ld2 (by omega), Option.bind_some, nI_1]
    exact ih (D q) _ _ (by omega) ⟨q, by omega, rfl, rfl, n + 1, rfl, by omega⟩
theorem sc_statement {a b : Int32} (hW : WFn (J 2)) (hS : WFs (J 2) D) (hR : CRs (pid sw) I (J 2) D) (hfu : 41 < fu) : SC (MX8_statement 0 a b (mkC sw I L)) (MX9_statement fu 0 a b (mkM J K)) sw I L J := by
  have h40 := hW.2.2.2
  have hp := pid_P (sw := sw)
  simp only [MX8_statement, MX9_statement, c_hasStatement hp (hR.1.trans hW.2.2.1) (show nT (J 2) < 2 ^ 31 by omega), m_isStatementAt hW, c8_g, m_g, c8_pg, Option.bind_some, c_refuse, m_refuse, jn, c_answer]
  rw [isFrom_c (y := 6) (n := 6) rfl (by decide), Option.bind_some, rng_le (y := 6) (n := 6) rfl (by decide)]
  simp only [ite0]
  by_cases hc : inR b 7 = true
  · by_cases h : inR a (nT (J 2)) = true
    · obtain ⟨i, hi, rfl⟩ := inR_of (by omega) h
      obtain ⟨c1, c2, c3, c4, c5, c6, c7, c8⟩ := hR.2 i hi
      simp only [hc, h, if_true, Bool.true_eq_false, if_false]
      obtain ⟨_, x1, f, rfl, x2⟩ := m_allIn (J := J) (K := K) (fu := fu) (by omega)
      have e2 : ur J 9 f 2 = J 2 := ur_ne (by decide)
      have e0 : ur J 9 f 0 = J 0 := ur_ne (by decide)
      have oo : ∀ j, j < nT (J 2) → ot (ur J 9 f) j = no j := by
        intro j hj
        unfold ot no
        rw [ur_at, x2 j (by omega)]
        rfl
      rw [x1, Option.bind_some]
      have fin : ∀ r : Int32, SC (some (r, mkC sw (ur I 0 (up (I 0) 9 0)) L)) (some (r, mkM (ur (ur J 9 f) 0 (up ((ur J 9 f) 0) 5 0)) K)) sw I L J := fun r => ⟨r, 0, I, L, ur J 9 f, K, rfl, rfl, fun _ _ => ⟨rfl, rfl⟩, ⟨ur_ne (by decide), e2⟩, fun k _ => by rw [e0]⟩
      have lY : MX9_byYes fu 0 (nI i) (mkM (ur J 9 f) K) = some (lkY (J 2) no i) := by
        have := m_byYes (J := ur J 9 f) (K := K) (D := D) (i := i) (fu := fu) (by rw [e2]; exact hW) (by rw [e2]; exact hS) hfu (by rw [e2]; exact hi)
        rw [e2] at this
        rw [this, lkY_congr hS oo hi h40]
      have lN' : MX9_byNo fu 0 (nI i) (mkM (ur J 9 f) K) = some (lkN (J 2) no i) := by
        have := m_byNo (J := ur J 9 f) (K := K) (D := D) (i := i) (fu := fu) (by rw [e2]; exact hW) (by rw [e2]; exact hS) hfu (by rw [e2]; exact hi)
        rw [e2] at this
        rw [this, lkN_congr hS oo hi h40]
      rw [c4_r4 hp, c4_r5 hp, c4_r6 hp, c4_r7 hp, c4_r13 hp, c4_r14 hp, c4_r8 hp, m_sortAt (by omega), lY, lN', m_r1]
      simp only [Option.bind_some]
      rw [c4_ld4 hp (by omega), c4_ld5 hp (by omega), c4_ld6 hp (by omega), c4_ld7 hp (by omega), c4_ld13 hp (by omega), c4_ld14 hp (by omega), c4_ld8 hp (by omega), ix_c (show (373 : Int32) = nI 373 from rfl), ix_c (show (413 : Int32) = nI 413 from rfl), ix_c (show (453 : Int32) = nI 453 from rfl), ix_c (show (493 : Int32) = nI 493 from rfl), m_ld2 (by omega), m_ld2 (by omega), m_ld2 (by omega), m_ld2 (by omega)]
      simp only [Option.bind_some, m_gives, e2]
      rw [c1, c2, c3, c4, c5, c7, c8]
      by_cases q0 : b = 0
      · rw [if_pos q0, if_pos q0]; exact fin _
      rw [if_neg q0, if_neg q0]
      by_cases q1 : b = 1
      · rw [if_pos q1, if_pos q1]; exact fin _
      rw [if_neg q1, if_neg q1]
      by_cases q2 : b = 2
      · rw [if_pos q2, if_pos q2]; exact fin _
      rw [if_neg q2, if_neg q2]
      by_cases q3 : b = 3
      · rw [if_pos q3, if_pos q3]; exact fin _
      rw [if_neg q3, if_neg q3]
      by_cases q4 : b = 4
      · rw [if_pos q4, if_pos q4]; exact fin _
      rw [if_neg q4, if_neg q4]
      by_cases q5 : b = 5
      · rw [if_pos q5, if_pos q5]; exact fin _
      rw [if_neg q5, if_neg q5]
      have := m_depth (J := ur J 9 f) (K := K) (D := D) (i := i) (fu := fu) (x := 2) (j22 := fun v21 => some (v21, mkM (ur (ur J 9 f) 0 (up ((ur J 9 f) 0) 5 0)) K)) rfl (by rw [e2]; exact hS) (by rw [e2]; exact h40) (by rw [e2]; exact hi) hfu
      rw [e2] at this
      rw [this]
      exact fin _
    · have h : inR a (nT (J 2)) = false := by simpa using h
      simp only [hc, h, if_true, Bool.true_eq_false, if_false]
      exact ⟨-1, 2, I, L, J, K, rfl, rfl, fun _ _ => ⟨rfl, rfl⟩, ⟨rfl, rfl⟩, fun _ _ => rfl⟩
  · have hc : inR b 7 = false := by simpa using hc
    simp only [hc, if_true, Bool.false_eq_true, if_false]
    exact ⟨-1, 1, I, L, J, K, rfl, rfl, fun _ _ => ⟨rfl, rfl⟩, ⟨rfl, rfl⟩, fun _ _ => rfl⟩
end Statement
