theorem fw_of {P : Nat → Int32} {S : PS} {lo : Nat} : ∀ n, n ≤ 1000 → wcS P S lo n ≠ 0 → ∃ i, i < n ∧ fwS P S lo n = nI i ∧ fyS P S lo n = rS P S lo i := by
  intro n
  induction n with
  | zero => intro _ h; exact absurd rfl h
  | succ n ih =>
    intro hn h
    have fE : fwS P S lo (n + 1) = if fwS P S lo n = -1 then (if rS P S lo n = 0 then -1 else nI n) else fwS P S lo n := rfl
    have yE : fyS P S lo (n + 1) = if wcS P S lo n = 0 then rS P S lo n else fyS P S lo n := rfl
    have fwn := fw_wc (P := P) (S := S) (lo := lo) n (by omega)
    by_cases c : wcS P S lo n = 0
    · have cr : ¬ rS P S lo n = 0 := by
        intro q
        rw [wcS_s, c, if_pos q] at h
        exact h rfl
      rw [fE, yE, if_pos c, if_pos (fwn.mpr c), if_neg cr]
      exact ⟨n, by omega, rfl, rfl⟩
    · obtain ⟨i, i1, i2, i3⟩ := ih (by omega) c
      rw [fE, yE, if_neg c, if_neg (fun q => c (fwn.mp q))]
      exact ⟨i, by omega, i2, i3⟩
section Check
variable {kS : KS} {sw : Bool} {I I' : Nat → Nat → Int32} {L L' : Nat → Nat → Int64} {J J' : Nat → Nat → Int32} {K : Nat → Nat → Int64} {fu : Nat}
theorem ccS_eq {S S' : PS} (h : ∀ i, (S i = none ∧ S' i = none) ∨ ∃ X X', S i = some X ∧ S' i = some X' ∧ e24 X X') (n : Nat) : ccS S n = ccS S' n := by
  refine cnt_eq (fun i _ => ?_)
  rcases h i with ⟨e1, e2⟩ | ⟨X, X', e1, e2, -⟩
  · rw [e1, e2]
  · rw [e1, e2]; rfl
theorem m_coming {j5 : Int32 → Option (Int32 × Hp)} (hn : WFn (J 2)) (hfu : 42 < fu) : wh2 (MX9_check_B104 0 (mkM J K) j5) fu (0 : Int32) (0 : Int32) = j5 (nI (ccS (sM J) (nT (J 2) + 1))) := by
  have h40 := hn.2.2.2
  refine wh2_rule (fun r x v => ∃ n, n + r = nT (J 2) + 1 ∧ v = nI n ∧ x = nI (ccS (sM J) n)) ?_ fu (nT (J 2) + 1) _ _ (by omega) ⟨0, by omega, rfl, rfl⟩
  rintro r x v self ⟨n, hr, rfl, rfl⟩ ih
  simp only [MX9_check_B104, m_statements, m_r22, Option.bind_some, jn]
  rw [hn.2.2.1]
  by_cases h0 : r = 0
  · subst h0
    rw [if_pos (nI_lt (by omega) (by omega)), show n = nT (J 2) + 1 by omega]
  · rw [if_neg (nI_nlt (by omega) (by omega)), m_ld10 (by omega), Option.bind_some]
    by_cases c : J 10 n = 0
    · rw [if_pos c]
      have : ccS (sM J) (n + 1) = ccS (sM J) n := by rw [ccS_s, show sM J n = none by unfold sM; rw [if_neg (fun q => q.2 c)]]; rfl
      refine ih (r - 1) _ _ (by omega) ⟨n + 1, by omega, nI_1 n, ?_⟩
      rw [this]
      exact Int32.add_zero _
    · rw [if_neg c]
      have : ccS (sM J) (n + 1) = ccS (sM J) n + 1 := by rw [ccS_s, show sM J n = some (tX J n) by unfold sM; rw [if_pos ⟨by omega, c⟩]]; rfl
      refine ih (r - 1) _ _ (by omega) ⟨n + 1, by omega, nI_1 n, ?_⟩
      rw [this, nI_1]
theorem op_check {a : Int32} (ok : okS kS) (h : REL kS sw I L J) (hfu : 6000 < fu) : OPR kS (MX8_check fu 0 a (mkC sw I L)) (MX9_check fu 0 a (mkM J K)) := by
  obtain ⟨D, hA, hC⟩ := h.2.2.1
  have h40 := hA.1.1.2.2.2
  simp only [MX8_check, MX9_check, c8_g, m_g, Option.bind_some, c_refuse, m_refuse, jn]
  rw [isFrom_c (y := 4) (n := 4) rfl (by decide), Option.bind_some, rng_le (y := 4) (n := 4) rfl (by decide)]
  simp only [ite0]
  by_cases hc : inR a 5 = true
  · simp only [hc, if_true, Bool.true_eq_false, if_false]
    obtain ⟨I1, e1, R1, F1⟩ := c_solvedFlow (fu := fu) ok h hfu
    obtain ⟨_, e2, J1, out, rfl, f2, R2, o2, z2⟩ := m_checksAll (J := J) (K := K) (fu := fu) hA h.2.2.2.1 hfu
    have R3 : REL kS sw I1 L J1 := REL_chk R1 f2 z2
    have eP : J1 2 = J 2 := f2.1 2 (by decide) (by decide) (by decide)
    obtain ⟨U, V⟩ := FM_eq hA F1 R2 o2
    obtain ⟨w1, w2, w3⟩ := wcS_eq (P := J 2) (S := sC 36 I1) (S' := sM J1) (lo := 99) (lo' := 99) (nT (J 2) + 1) (fun i hi => V i (by omega))
    have w4 := ccS_eq U (nT (J 2) + 1)
    obtain ⟨-, -, g3, g4, g5, g6⟩ := F1
    obtain ⟨-, r2, r3, r4⟩ := R2
    have hwc : wcS (J 2) (sM J1) 99 (nT (J 2) + 1) ≤ 41 := by
      have := cnt_le (nT (J 2) + 1) (fun i => decide (rS (J 2) (sM J1) 99 i ≠ 0))
      unfold wcS
      omega
    have hF : isF 36 := Or.inl rfl
    rw [e1, Option.bind_some, e2, Option.bind_some]
    simp only [c0_fI hF, m_fI, Option.bind_some, c_answer, c_refuse, m_gives, m_refuse]
    rw [g3, g4, g5, r2, r3, r4, w1, w2, w4]
    have fin : ∀ r z : Int32, OPR kS (some (r, mkC sw (ur I1 0 (up (I1 0) 9 z)) L)) (some (r, mkM (ur J1 0 (up (J1 0) 5 z)) K)) := fun r z => OPR_fin ok R3
    have first : wcS (J 2) (sM J1) 99 (nT (J 2) + 1) ≠ 0 → MX0_firstReason 36 (mkC sw I1 L) = some (fyS (J 2) (sM J1) 99 (nT (J 2) + 1)) := by
      intro q
      obtain ⟨i, i1, i2, i3⟩ := fw_of (P := J 2) (S := sM J1) (lo := 99) (nT (J 2) + 1) (by omega) q
      simp only [MX0_firstReason, c0_g hF, c0_fI hF, c0_r2 hF, Option.bind_some, jn]
      rw [g4, w2, i2, if_neg (nI_pos (by omega)), show (41 : Int32) = nI 41 from rfl, if_pos (nI_lt (by omega) (by decide)), c0_ld2 hF (by omega), Option.bind_some, g6 i (by omega), V i (by omega), i3]
    have m5 := m_coming (J := J1) (K := K) (fu := fu) (j5 := fun v4 => some (v4, mkM (ur J1 0 (up (J1 0) 5 0)) K)) (by rw [eP]; exact hA.1.1) (by omega)
    rw [eP] at m5
    by_cases q0 : a = 0
    · rw [if_pos q0]
      by_cases c : wcS (J 2) (sM J1) 99 (nT (J 2) + 1) = 0
      · rw [c, if_pos (show nI 0 = 0 from rfl), if_pos (show nI 0 = 0 from rfl), if_pos q0, if_neg (by decide)]
        exact fin 1 0
      · have nz : ¬ nI (wcS (J 2) (sM J1) 99 (nT (J 2) + 1)) = 0 := fun q => c (nI_inj (b := 0) (by omega) (by omega) q)
        rw [if_neg nz, if_neg nz, if_pos q0, if_pos q0]
        exact fin 0 0
    · rw [if_neg q0]
      simp only [if_neg q0]
      by_cases q3 : (3 : Int32) ≤ a
      · have n1 : ¬ a = 1 := by rintro rfl; exact absurd q3 (by decide)
        have n2 : ¬ a = 2 := by rintro rfl; exact absurd q3 (by decide)
        rw [if_pos q3]
        simp only [if_neg n1, if_neg n2]
        by_cases q4 : a = 3
        · simp only [if_pos q4]
          split <;> exact fin _ _
        · simp only [if_neg q4]
          rw [m5]
          split <;> exact fin _ _
      · rw [if_neg q3]
        by_cases c : wcS (J 2) (sM J1) 99 (nT (J 2) + 1) = 0
        · rw [c, if_pos (show nI 0 = 0 from rfl), if_pos (show nI 0 = 0 from rfl)]
          simp only [if_neg (show ¬ (1 : Int32) = 0 by decide)]
          by_cases q1 : a = 1
          · rw [if_pos q1]; exact fin _ _
          · rw [if_neg q1]
            by_cases q2 : a = 2
            · rw [if_pos q2]; exact fin _ _
            · exfalso
              obtain ⟨k, hk, rfl⟩ := inR_of (by decide) hc
              rcases (show k = 0 ∨ k = 1 ∨ k = 2 ∨ k = 3 ∨ k = 4 by omega) with e | e | e | e | e
              · subst e; exact q0 rfl
              · subst e; exact q1 rfl
              · subst e; exact q2 rfl
              · subst e; exact q3 (by decide)
              · subst e; exact q3 (by decide)
        · have nz : ¬ nI (wcS (J 2) (sM J1) 99 (nT (J 2) + 1)) = 0 := fun q => c (nI_inj (b := 0) (by omega) (by omega) q)
          rw [if_neg nz, if_neg nz]
          rw [first c]
          simp only [Option.bind_some, c_answer]
          by_cases q1 : a = 1
          · rw [if_pos q1, if_pos q1]; exact fin _ _
          · rw [if_neg q1, if_neg q1]
            by_cases q2 : a = 2
            · rw [if_pos q2, if_pos q2]; exact fin _ _
            · exfalso
              obtain ⟨k, hk, rfl⟩ := inR_of (by decide) hc
              rcases (show k = 0 ∨ k = 1 ∨ k = 2 ∨ k = 3 ∨ k = 4 by omega) with e | e | e | e | e
              · subst e; exact q0 rfl
              · subst e; exact q1 rfl
              · subst e; exact q2 rfl
              · subst e; exact q3 (by decide)
              · subst e; exact q3 (by decide)
  · have hc : inR a 5 = false := by simpa using hc
    simp only [hc, if_true, Bool.false_eq_true, if_false]
    exact OPR_fin ok h
end Check
