section At
variable {kS : KS} {sw : Bool} {I I' : Nat → Nat → Int32} {L L' : Nat → Nat → Int64} {J J' : Nat → Nat → Int32} {K : Nat → Nat → Int64} {fu p : Nat}
theorem c_hasPlace {a : Int32} {n : Nat} (hp : isP p) (h : I p 3 = nI n) (hn : n + 1 < 2 ^ 31) : MX4_hasPlace p a (mkC sw I L) = some (if inR a (n + 1) then 1 else 0) := by
  simp only [MX4_hasPlace, c4_g hp, c4_fI hp, Option.bind_some, jn, h]
  have e := rng_le (α := Option Int32) (x := a) (y := nI n) (n := n) (A := some 0) (B := some 1) rfl hn
  have e2 : (if a < 0 then some (0 : Int32) else if nI n < a then some 0 else some 1) = if a < 0 then some 0 else if a ≤ nI n then some 1 else some 0 := by
    by_cases c : a < 0
    · rw [if_pos c, if_pos c]
    · rw [if_neg c, if_neg c]
      by_cases c2 : a ≤ nI n
      · rw [if_pos c2, if_neg (by rw [i_lt]; rw [i_le] at c2; omega)]
      · rw [if_neg c2, if_pos (by rw [i_lt]; rw [i_le] at c2; omega)]
  rw [e2, e]
  split <;> rfl
theorem m_isPlace {a : Int32} (hn : WFn (J 2)) : MX9_isPlace 0 a (mkM J K) = some (if inR a (nT (J 2) + 1) then 1 else 0) := by
  have h40 := hn.2.2.2
  simp only [MX9_isPlace, m_g, m_statements, Option.bind_some]
  rw [isFrom_c (n := nT (J 2)) hn.2.2.1 (by omega), Option.bind_some, h_z_ite, Option.bind_some]
theorem op_at {a b c : Int32} (ok : okS kS) (h : REL kS sw I L J) (hfu : 6000 < fu) : OPR kS (MX8_at fu 0 a b c (mkC sw I L)) (MX9_at_ fu 0 a b c (mkM J K)) := by
  obtain ⟨D, hA, hC⟩ := h.2.2.1
  have h40 := hA.1.1.2.2.2
  have hV := hA.1.1.2.1.2
  have hp := pid_P (sw := sw)
  simp only [MX8_at, MX9_at_, c8_g, m_g, c8_pg, c_hasPlace hp (hC.2.2.1.trans hA.1.1.2.2.1) (show nT (J 2) + 1 < 2 ^ 31 by omega), m_isPlace hA.1.1, c_hasVariable hp (hC.2.1.1.trans hA.1.1.2.1.1) (show nV (J 2) < 2 ^ 31 by omega), m_isVariable hA.1.1, Option.bind_some, c_refuse, m_refuse, jn]
  rw [isFrom_c (y := 4) (n := 4) rfl (by decide), Option.bind_some, rng_le (y := 4) (n := 4) rfl (by decide)]
  simp only [ite0]
  by_cases hc : inR c 5 = true
  · by_cases hpl : inR a (nT (J 2) + 1) = true
    · by_cases hv : inR b (nV (J 2)) = true
      · obtain ⟨pl, hpl2, rfl⟩ := inR_of (by omega) hpl
        obtain ⟨v, hv2, rfl⟩ := inR_of (by omega) hv
        simp only [hc, hpl, hv, if_true, Bool.true_eq_false, if_false]
        obtain ⟨I1, e1, R1, F1⟩ := c_solvedFlow (fu := fu) ok h hfu
        obtain ⟨_, e2, J1, out, rfl, f2, R2, o2, z2⟩ := m_checksAll (J := J) (K := K) (fu := fu) hA h.2.2.2.1 hfu
        have R3 : REL kS sw I1 L J1 := REL_chk R1 f2 z2
        have eP : J1 2 = J 2 := f2.1 2 (by decide) (by decide) (by decide)
        obtain ⟨U, V⟩ := FM_eq hA F1 R2 o2
        have hF : isF 36 := Or.inl rfl
        have fin : ∀ r z : Int32, OPR kS (some (r, mkC sw (ur I1 0 (up (I1 0) 9 z)) L)) (some (r, mkM (ur J1 0 (up (J1 0) 5 z)) K)) := fun r z => OPR_fin ok R3
        rw [e1, Option.bind_some, e2, Option.bind_some]
        simp only [c0_r0 hF, c0_r1 hF, c0_r2 hF, m_r22, m_r23, m_r24, m_r25, m_r26, MX9_at, ix_66, Option.bind_some, c_answer, c_refuse, m_gives, m_refuse]
        rw [show 36 + 2 = 36 + 2 from rfl, c0_ld1 hF (by omega), m_ld10 (by omega), Option.bind_some, Option.bind_some]
        rcases U pl with ⟨u1, u2⟩ | ⟨X, X', u1, u2, u3⟩
        · have c1 : I1 (36 + 2) pl = 0 := by
            apply Classical.byContradiction
            intro q
            unfold sC at u1
            rw [if_pos ⟨by omega, q⟩] at u1
            cases u1
          have c2 : J1 10 pl = 0 := by
            apply Classical.byContradiction
            intro q
            unfold sM at u2
            rw [if_pos ⟨by omega, q⟩] at u2
            cases u2
          rw [if_pos c1, if_pos c2]
          exact fin _ _
        · have c1 : I1 (36 + 2) pl ≠ 0 := by
            intro q
            unfold sC at u1
            rw [if_neg (fun z => z.2 q)] at u1
            cases u1
          have c2 : J1 10 pl ≠ 0 := by
            intro q
            unfold sM at u2
            rw [if_neg (fun z => z.2 q)] at u2
            cases u2
          have eX : X = I1 (36 + 8 + 2 * pl) := by
            unfold sC at u1
            rw [if_pos ⟨by omega, c1⟩] at u1
            exact (Option.some.inj u1).symm
          have eX' : X' = tX J1 pl := by
            unfold sM at u2
            rw [if_pos ⟨by omega, c2⟩] at u2
            exact (Option.some.inj u2).symm
          rw [if_neg c1, if_neg c2]
          have hH := isF_H hF (show pl < 41 by omega)
          have part : ∀ w : Nat, w < 4 → MX1_part (36 + 7 + 2 * pl) (nI w) (nI v) (mkC sw I1 L) = some (tX J1 pl (6 * w + v)) := by
            intro w hw
            simp only [MX1_part, c1_g hH, c1_r0 hH, Option.bind_some]
            rw [ix_row2, c1_ld hH (by omega), Option.bind_some, show 36 + 7 + 2 * pl + 1 = 36 + 8 + 2 * pl by omega, ← eX, u3 _ (by omega), eX']
          rw [c0_hold hF (by omega), Option.bind_some, c0_ld2 hF (by omega), Option.bind_some]
          obtain ⟨w, hw, rfl⟩ := inR_of (by decide) hc
          rcases (show w = 0 ∨ w = 1 ∨ w = 2 ∨ w = 3 ∨ w = 4 by omega) with e | e | e | e | e
          · subst e
            rw [if_neg (by decide), if_pos (by decide), part 0 (by decide), Option.bind_some, m_ld11 (by omega), Option.bind_some]
            rw [show 6 * 0 + v = v by omega, tX_h (by omega)]
            exact fin _ _
          · subst e
            rw [if_neg (by decide), if_neg (by decide), if_pos (by decide), part 1 (by decide), Option.bind_some, m_ld12 (by omega), Option.bind_some]
            rw [show 6 * 1 + v = 6 + v by omega, tX_s (by omega)]
            exact fin _ _
          · subst e
            rw [if_neg (by decide), if_neg (by decide), if_neg (by decide), if_pos (by decide), part 2 (by decide), Option.bind_some, m_ld13 (by omega), Option.bind_some]
            rw [show 6 * 2 + v = 12 + v by omega, tX_m (by omega)]
            exact fin _ _
          · subst e
            rw [if_neg (by decide), if_neg (by decide), if_neg (by decide), if_neg (by decide), if_pos (by decide), part 3 (by decide), Option.bind_some, m_ld14 (by omega), Option.bind_some]
            rw [show 6 * 3 + v = 18 + v by omega, tX_u (by omega)]
            exact fin _ _
          · subst e
            rw [if_pos (by decide), if_neg (by decide), if_neg (by decide), if_neg (by decide), if_neg (by decide)]
            obtain ⟨J2, e3, f3⟩ := m_whyAt (J := J1) (K := K) (fu := fu) (D := D) (pl := pl) (by rw [eP]; exact hA) (by rw [eP]; omega) (R2.1.1.1 pl _ (by rw [u2, eX'])) (by omega)
            rw [e3, Option.bind_some]
            show OPR kS _ ((MX9_gives 0 (rsn (J1 2) pl (tX J1 pl)) (mkM J2 K)).bind fun p26 => some (p26.1, p26.2))
            rw [m_gives, Option.bind_some, F1.2.2.2.2.2 pl (by omega), V pl (by omega)]
            have er : rS (J 2) (sM J1) 99 pl = rsn (J1 2) pl (tX J1 pl) := by
              unfold rS
              rw [u2, eX', eP]
              exact if_neg (by omega)
            rw [er]
            exact OPR_fin ok (REL_frm R3 (frc_frm f3) (by rw [f3 0 (by omega)]; exact z2))
      · have hv : inR b (nV (J 2)) = false := by simpa using hv
        simp only [hc, hpl, hv, if_true, Bool.true_eq_false, if_false]
        exact OPR_fin ok h
    · have hpl : inR a (nT (J 2) + 1) = false := by simpa using hpl
      simp only [hc, hpl, if_true, Bool.true_eq_false, if_false]
      exact OPR_fin ok h
  · have hc : inR c 5 = false := by simpa using hc
    simp only [hc, if_true, Bool.false_eq_true, if_false]
    exact OPR_fin ok h
end At
