section Mend
variable {kS : KS} {sw : Bool} {I I' : Nat → Nat → Int32} {L L' : Nat → Nat → Int64} {J J' : Nat → Nat → Int32} {K : Nat → Nat → Int64} {fu p : Nat} {D : Nat → Nat} {P : Nat → Int32}
theorem WO_fun {i : Nat} {x y : Int32} (hA : WFA P D) (hx : WO P i x) (hy : WO P i y) : x = y := by
  obtain ⟨S, l, rfl⟩ := hx
  obtain ⟨S', l', rfl⟩ := hy
  have U := LF_unique l l'
  have := wcS_eq (P := P) (S := S) (S' := S') (lo := i) (lo' := i) (nT P + 1) (fun j hj => by
    unfold rS
    rcases U j with ⟨e1, e2⟩ | ⟨X, X', e1, e2, e3⟩
    · rw [e1, e2]
    · rw [e1, e2]
      show (if j = i then 0 else rsn P j X) = if j = i then 0 else rsn P j X'
      rw [rsn_e24 hA (by omega) e3])
  rw [this.1]
theorem c_tried {i : Nat} (ok : okS kS) (h : REL kS sw I L J) (hi : i < nT (J 2)) (hfu : 6000 < fu) : ∃ r I', MX8_triedWithout fu 0 (nI i) (mkC sw I L) = some (r, mkC sw I' L) ∧ REL kS sw I' L J ∧ WO (J 2) i r := by
  obtain ⟨D, hA, hC⟩ := h.2.2.1
  have h40 := hA.1.1.2.2.2
  simp only [MX8_triedWithout, c8_g, c8_r5, c8_r2, c8_pg, Option.bind_some, jn]
  rw [c8_ld5 (by omega), Option.bind_some]
  by_cases c : I 227 i = -1
  · rw [if_pos c]
    have hF : isF 125 := Or.inr rfl
    obtain ⟨_, e1, I1, rfl, f1, o1⟩ := c_solve (sw := sw) (I := I) (L := L) (fu := fu) (f := 125) (p := pid sw) (lo := i) (a2 := nI i) hF pid_P hC hA (fun j hj => ⟨fun z => nI_inj (by omega) (by omega) z, fun z => by rw [z]⟩) hfu
    rw [e1, Option.bind_some, c8_r5, Option.bind_some, c8_r2, Option.bind_some, c0_fI hF, Option.bind_some, f1.2.2.1]
    have hwc : wcS (J 2) (sC 125 I1) i (nT (J 2) + 1) ≤ 41 := by
      have := cnt_le (nT (J 2) + 1) (fun j => decide (rS (J 2) (sC 125 I1) i j ≠ 0))
      unfold wcS
      omega
    have fin : ∀ w : Int32, WO (J 2) i w → ∃ r I', ((h_stI (mkC sw I1 L) 227 (nI i) w).bind fun h15 => (h_fR 8 h15 0 5).bind fun x5 => (h_ldI h15 x5 (nI i)).bind fun x6 => some (x6, h15)) = some (r, mkC sw I' L) ∧ REL kS sw I' L J ∧ WO (J 2) i r := by
      intro w hw
      rw [c8_st5 (by omega), Option.bind_some, c8_r5, Option.bind_some, c8_ld5 (by omega), Option.bind_some, ur_at, up_at]
      refine ⟨w, _, rfl, ?_, hw⟩
      obtain ⟨⟨n, t1, t2, t3, t4⟩, ⟨s1, s2, s3⟩, -, z, r, ff, g1, k1⟩ := h
      have hb : ∀ b, b ≠ 227 → b < 125 ∨ 213 < b → ur I1 227 (up (I1 227) i w) b = I b := fun b b0 hb => by rw [ur_ne b0, o1 b (by omega)]
      refine ⟨⟨n, t1, by rw [hb 2 (by decide) (by decide)]; exact t2, t3, fun j hj => by rw [hb 3 (by decide) (by decide)]; exact t4 j hj⟩, ⟨by rw [hb 0 (by decide) (by decide)]; exact s1, by rw [hb 0 (by decide) (by decide)]; exact s2, by rw [hb 0 (by decide) (by decide)]; exact s3⟩, ⟨D, hA, CR_fr2 hC (fun d hd => by rcases (pid_P (sw := sw)) with e | e <;> rw [e] <;> exact hb _ (by omega) (by omega))⟩, z, r, ?_, fun j hj => ?_, ok _ _ _ _ _ (fun b b1 b2 => hb b (by omega) (by omega)) (by rw [hb 0 (by decide) (by decide)]) rfl k1⟩
      · unfold kF
        rw [hb 0 (by decide) (by decide)]
        rcases ff with q | ⟨q, q2⟩
        · exact Or.inl q
        · exact Or.inr ⟨q, FlowOK_fr q2 (fun b b1 b2 => hb b (by omega) (by omega))⟩
      · rw [ur_at]
        by_cases e : j = i
        · rw [e, up_at]; exact Or.inr hw
        · rw [up_ne e, o1 227 (by omega)]; exact g1 j hj
    by_cases cw : wcS (J 2) (sC 125 I1) i (nT (J 2) + 1) = 0
    · rw [cw, if_pos (show nI 0 = 0 from rfl)]
      exact fin 1 ⟨_, f1.1, by rw [if_pos cw]⟩
    · rw [if_neg (show ¬ nI (wcS (J 2) (sC 125 I1) i (nT (J 2) + 1)) = 0 from fun q => cw (nI_inj (b := 0) (by omega) (by omega) q))]
      exact fin 0 ⟨_, f1.1, by rw [if_neg cw]⟩
  · rw [if_neg c, Option.bind_some]
    refine ⟨_, I, rfl, h, ?_⟩
    rcases h.2.2.2.2.2.2.1 i hi with q | q
    · exact absurd q c
    · exact q
theorem m_isMended {i : Nat} (hA : WFA (J 2) D) (hz : J 0 31 = 0 ∨ J 0 31 = 1) (hi : i < nT (J 2)) (hfu : 6000 < fu) : ∃ r J', MX9_isMended fu 0 (nI i) (mkM J K) = some (r, mkM J' K) ∧ ((∀ b, b ≠ 0 → b ≠ 9 → b < 10 ∨ 18 < b → J' b = J b) ∧ ∀ k, k < 31 ∨ 34 < k → J' 0 k = J 0 k) ∧ (J' 0 31 = 0 ∨ J' 0 31 = 1) ∧ ∀ x, WO (J 2) i x → x = r := by
  have h40 := hA.1.1.2.2.2
  have hS := hA.2.2
  simp only [MX9_isMended, m_g, jn]
  obtain ⟨_, e1, g, rfl, h1⟩ := m_allIn (J := J) (K := K) (fu := fu) (by omega)
  rw [e1, Option.bind_some, m_r21, Option.bind_some, m_st9 (by omega) (Or.inr rfl), Option.bind_some, ur_ur, ur_at]
  have main : WP (wh2 (MX9_isMended_B15 0 (fun h4 => (MX9_checks fu 0 h4).bind fun h6 => (h_fI 9 h6 0 32).bind fun x7 => if x7 = 0 then some (1, h6) else some (0, h6))) fu (nI i + 1) (mkM (ur J 9 (up g i 1)) K)) (fun q => ∃ r J', q = (r, mkM J' K) ∧ ((∀ b, b ≠ 0 → b ≠ 9 → b < 10 ∨ 18 < b → J' b = J b) ∧ ∀ k, k < 31 ∨ 34 < k → J' 0 k = J 0 k) ∧ (J' 0 31 = 0 ∨ J' 0 31 = 1) ∧ ∀ x, WO (J 2) i x → x = r) := by
    refine wh2_wp (fun r v h => ∃ n f, n + r = nT (J 2) ∧ v = nI n ∧ h = mkM (ur J 9 f) K ∧ i < n ∧ (∀ j, j < i → f j = 0) ∧ f i = 1 ∧ (∀ j, i < j → j < n → ((f j ≠ 0) ↔ ∃ q, q < j ∧ J 2 (493 + j) = nI q ∧ f q ≠ 0))) ?_ fu (nT (J 2) - (i + 1)) _ _ (by omega) ⟨i + 1, _, by omega, nI_1 i, rfl, by omega, fun j hj => by rw [up_ne (by omega)]; exact h1 j (by omega), up_at, fun j h1 h2 => by omega⟩
    rintro r v h self ⟨n, f, hn, rfl, rfl, hin, f1, f2, f3⟩ ih
    have e2 : ur J 9 f 2 = J 2 := ur_ne (by decide)
    simp only [MX9_isMended_B15, m_statements, m_r21, m_r1, Option.bind_some, jn]
    rw [e2, hA.1.1.2.2.1]
    by_cases hr : r = 0
    · subst hr
      rw [if_pos (nI_le (by omega) (by omega))]
      obtain ⟨_, e3, J', rfl, fr, r1, z1⟩ := m_checks (J := ur J 9 f) (K := K) (fu := fu) (D := D) (by rw [e2]; exact hA) (by rw [ur_ne (by decide)]; exact hz) hfu
      rw [e2] at r1
      have sub : SubT (J 2) i (ot (ur J 9 f)) := by
        intro j hj
        unfold ot
        rw [ur_at]
        refine ⟨fun q => by rw [f1 j q]; rfl, fun q => by rw [q, f2]; rfl, fun q => ?_⟩
        rw [decide_eq_true_eq, f3 j q (by omega)]
        constructor
        · rintro ⟨q, a, b, c⟩; exact ⟨q, a, b, decide_eq_true c⟩
        · rintro ⟨q, a, b, c⟩; exact ⟨q, a, b, of_decide_eq_true c⟩
      have hwc : wcS (J 2) (sM J') 99 (nT (J 2) + 1) ≤ 41 := by
        have := cnt_le (nT (J 2) + 1) (fun j => decide (rS (J 2) (sM J') 99 j ≠ 0))
        unfold wcS
        omega
      have agree : ∀ x, WO (J 2) i x → x = if wcS (J 2) (sM J') 99 (nT (J 2) + 1) = 0 then 1 else 0 := by
        rintro x ⟨S, l, rfl⟩
        have := wcS_eq (P := J 2) (S := S) (S' := sM J') (lo := i) (lo' := 99) (nT (J 2) + 1) (fun j hj => wo_eq hA sub hi l r1.1 j (by omega))
        rw [this.1]
      have frr : (∀ b, b ≠ 0 → b ≠ 9 → b < 10 ∨ 18 < b → J' b = J b) ∧ ∀ k, k < 31 ∨ 34 < k → J' 0 k = J 0 k := ⟨fun b b0 b9 hb => by rw [fr.1 b b0 (by omega), ur_ne b9], fun k hk => by rw [fr.2.2 k hk, ur_ne (by decide)]⟩
      rw [e3, Option.bind_some, m_fI, Option.bind_some, r1.2.1]
      by_cases cw : wcS (J 2) (sM J') 99 (nT (J 2) + 1) = 0
      · rw [cw, if_pos (show nI 0 = 0 from rfl)]
        rw [if_pos cw] at agree
        exact WP_some ⟨1, J', rfl, frr, z1, agree⟩
      · rw [if_neg (show ¬ nI (wcS (J 2) (sM J') 99 (nT (J 2) + 1)) = 0 from fun q => cw (nI_inj (b := 0) (by omega) (by omega) q))]
        rw [if_neg cw] at agree
        exact WP_some ⟨0, J', rfl, frr, z1, agree⟩
    · rw [if_neg (nI_ge (by omega) (by omega)), ix_c (show (493 : Int32) = nI 493 from rfl), m_ld2 (by omega), Option.bind_some, e2]
      have step : ∀ w : Int32, (w = 0 ∨ w = 1) → (w ≠ 0 ↔ ∃ q, q < n ∧ J 2 (493 + n) = nI q ∧ f q ≠ 0) → WP ((h_stZ (mkM (ur J 9 f) K) 9 (nI n) w).bind fun h17 => self (nI n + 1) h17) (fun q => ∃ r J', q = (r, mkM J' K) ∧ ((∀ b, b ≠ 0 → b ≠ 9 → b < 10 ∨ 18 < b → J' b = J b) ∧ ∀ k, k < 31 ∨ 34 < k → J' 0 k = J 0 k) ∧ (J' 0 31 = 0 ∨ J' 0 31 = 1) ∧ ∀ x, WO (J 2) i x → x = r) := by
        intro w w01 hw
        rw [m_st9 (by omega) w01, Option.bind_some, ur_ur, ur_at]
        refine ih (r - 1) _ _ (by omega) ⟨n + 1, _, by omega, nI_1 n, rfl, by omega, fun j hj => by rw [up_ne (by omega)]; exact f1 j hj, by rw [up_ne (by omega)]; exact f2, fun j hj hj2 => ?_⟩
        by_cases e : j = n
        · subst e
          rw [up_at, hw]
          constructor
          · rintro ⟨q, a, b, c⟩; exact ⟨q, a, b, by rw [up_ne (by omega)]; exact c⟩
          · rintro ⟨q, a, b, c⟩; rw [up_ne (by omega)] at c; exact ⟨q, a, b, c⟩
        · rw [up_ne e, f3 j hj (by omega)]
          constructor
          · rintro ⟨q, a, b, c⟩; exact ⟨q, a, b, by rw [up_ne (by omega)]; exact c⟩
          · rintro ⟨q, a, b, c⟩; rw [up_ne (by omega)] at c; exact ⟨q, a, b, c⟩
      rcases (hS n (by omega)).2.2 with ⟨e, -⟩ | ⟨q, q1, q2, -⟩
      · rw [if_pos e]
        refine step 0 (Or.inl rfl) ⟨fun z => absurd rfl z, ?_⟩
        rintro ⟨q, a, b, -⟩
        rw [e] at b
        exact absurd b.symm (nI_ne_m1 (by omega))
      · rw [q2, if_neg (nI_ne_m1 (by omega)), m_ld9 (by omega), Option.bind_some, ur_at]
        have uq : ∀ q', q' < n → J 2 (493 + n) = nI q' → q' = q := fun q' a b => by rw [q2] at b; exact (nI_inj (by omega) (by omega) b).symm
        by_cases c : f q = 0
        · rw [if_pos c]
          refine step 0 (Or.inl rfl) ⟨fun z => absurd rfl z, ?_⟩
          rintro ⟨q', a, b, d⟩
          rw [uq q' a b] at d
          exact absurd c d
        · rw [if_neg c]
          exact step 1 (Or.inr rfl) ⟨fun _ => ⟨q, q1, q2, c⟩, fun _ => by decide⟩
  obtain ⟨_, e, r, J', rfl, q⟩ := main
  exact ⟨r, J', e, q⟩
theorem op_without {a : Int32} (ok : okS kS) (h : REL kS sw I L J) (hfu : 6000 < fu) : OPR kS (MX8_without fu 0 a (mkC sw I L)) (MX9_without fu 0 a (mkM J K)) := by
  obtain ⟨D, hA, hC⟩ := h.2.2.1
  have h40 := hA.1.1.2.2.2
  have hp := pid_P (sw := sw)
  simp only [MX8_without, MX9_without, c8_g, m_g, c8_pg, c_hasStatement hp (hC.2.2.1.trans hA.1.1.2.2.1) (show nT (J 2) < 2 ^ 31 by omega), m_isStatementAt hA.1.1, Option.bind_some, c_refuse, m_refuse, ite0, jn]
  by_cases hi : inR a (nT (J 2)) = true
  · obtain ⟨i, hi2, rfl⟩ := inR_of (by omega) hi
    simp only [hi, Bool.true_eq_false, if_false]
    obtain ⟨r, I1, e1, R1, w1⟩ := c_tried (fu := fu) ok h hi2 hfu
    obtain ⟨r', J1, e2, f2, z2, w2⟩ := m_isMended (J := J) (K := K) (fu := fu) hA h.2.2.2.1 hi2 hfu
    obtain rfl := w2 r w1
    have r01 : r = 0 ∨ r = 1 := by obtain ⟨S, -, q⟩ := w1; rw [q]; split; exact Or.inr rfl; exact Or.inl rfl
    rw [e1, Option.bind_some, e2, Option.bind_some, c_answer, Option.bind_some]
    have fin : OPR kS (some (r, mkC sw (ur I1 0 (up (I1 0) 9 0)) L)) (some (r, mkM (ur J1 0 (up (J1 0) 5 0)) K)) := OPR_fin ok (REL_chk R1 f2 z2)
    rcases r01 with rfl | rfl
    · rw [if_pos rfl, m_gives, Option.bind_some]; exact fin
    · rw [if_neg (show ¬ (1 : Int32) = 0 by decide), m_gives, Option.bind_some]; exact fin
  · have hi : inR a (nT (J 2)) = false := by simpa using hi
    simp only [hi, if_true]
    exact OPR_fin ok h
theorem op_mend (ok : okS kS) (h : REL kS sw I L J) (hfu : 6000 < fu) : OPR kS (MX8_mend fu 0 (mkC sw I L)) (MX9_mend fu 0 (mkM J K)) := by
  obtain ⟨D, hA, hC⟩ := h.2.2.1
  have h40 := hA.1.1.2.2.2
  simp only [MX8_mend, MX9_mend, c8_g, m_g, jn]
  obtain ⟨I1, e1, R1, F1⟩ := c_solvedFlow (fu := fu) ok h hfu
  obtain ⟨_, e2, J1, out, rfl, f2, R2, o2, z2⟩ := m_checksAll (J := J) (K := K) (fu := fu) hA h.2.2.2.1 hfu
  have R3 : REL kS sw I1 L J1 := REL_chk R1 f2 z2
  have eP : J1 2 = J 2 := f2.1 2 (by decide) (by decide) (by decide)
  obtain ⟨U, V⟩ := FM_eq hA F1 R2 o2
  obtain ⟨w1, -, -⟩ := wcS_eq (P := J 2) (S := sC 36 I1) (S' := sM J1) (lo := 99) (lo' := 99) (nT (J 2) + 1) (fun i hi => V i (by omega))
  have hF : isF 36 := Or.inl rfl
  rw [e1, Option.bind_some, e2, Option.bind_some]
  simp only [c0_fI hF, m_fI, Option.bind_some]
  rw [F1.2.2.1, R2.2.1, w1]
  by_cases cw : nI (wcS (J 2) (sM J1) 99 (nT (J 2) + 1)) = 0
  · rw [if_pos cw, if_pos cw, c_refuse, m_refuse, Option.bind_some, Option.bind_some]
    exact OPR_fin ok R3
  · rw [if_neg cw, if_neg cw]
    -- the two loops, side by side
    have H : ∀ (r i : Nat) (fC fM : Nat) (I2 J2 : Nat → Nat → Int32), i + r = nT (J 2) → r < fC → r < fM → J2 2 = J 2 → REL kS sw I2 L J2 →
        OPR kS (wh2 (MX8_mend_B18 fu 0 (fun h3 => (MX8_refuse 0 5 h3).bind fun p5 => some (p5.1, p5.2)) (fun v6 h7 => (MX8_answer 0 v6 h7).bind fun p9 => some (p9.1, p9.2))) fC (nI i) (mkC sw I2 L)) (wh2 (MX9_mend_B19 fu 0 (fun h3 => (MX9_refuse 0 5 h3).bind fun p5 => some (p5.1, p5.2)) (fun v6 h7 => (MX9_gives 0 v6 h7).bind fun p9 => some (p9.1, p9.2))) fM (nI i) (mkM J2 K)) := by
      intro r
      induction r with
      | zero =>
        intro i fC fM I2 J2 hi hC2 hM2 eJ RR
        obtain ⟨gC, rfl⟩ : ∃ g, fC = g + 1 := ⟨fC - 1, by omega⟩
        obtain ⟨gM, rfl⟩ : ∃ g, fM = g + 1 := ⟨fM - 1, by omega⟩
        obtain ⟨D2, hA2, hC3⟩ := RR.2.2.1
        show OPR kS (MX8_mend_B18 fu 0 _ _ _ (nI i) (mkC sw I2 L)) (MX9_mend_B19 fu 0 _ _ _ (nI i) (mkM J2 K))
        simp only [MX8_mend_B18, MX9_mend_B19, c8_pg, c4_fI pid_P, m_statements, Option.bind_some]
        rw [hC3.2.2.1, hA2.1.1.2.2.1, eJ, if_pos (nI_le (by omega) (by omega)), if_pos (nI_le (by omega) (by omega)), c_refuse, m_refuse, Option.bind_some, Option.bind_some]
        exact OPR_fin ok RR
      | succ r ih =>
        intro i fC fM I2 J2 hi hC2 hM2 eJ RR
        obtain ⟨gC, rfl⟩ : ∃ g, fC = g + 1 := ⟨fC - 1, by omega⟩
        obtain ⟨gM, rfl⟩ : ∃ g, fM = g + 1 := ⟨fM - 1, by omega⟩
        obtain ⟨D2, hA2, hC3⟩ := RR.2.2.1
        show OPR kS (MX8_mend_B18 fu 0 _ _ (wh2 _ gC) (nI i) (mkC sw I2 L)) (MX9_mend_B19 fu 0 _ _ (wh2 _ gM) (nI i) (mkM J2 K))
        simp only [MX8_mend_B18, MX9_mend_B19, c8_pg, c4_fI pid_P, m_statements, Option.bind_some]
        rw [hC3.2.2.1, hA2.1.1.2.2.1, eJ, if_neg (nI_ge (by omega) (by omega)), if_neg (nI_ge (by omega) (by omega))]
        obtain ⟨q, I3, x1, RR1, y1⟩ := c_tried (fu := fu) ok RR (show i < nT (J2 2) by rw [eJ]; omega) hfu
        obtain ⟨q', J3, x2, g2, zz2, y2⟩ := m_isMended (J := J2) (K := K) (fu := fu) hA2 RR.2.2.2.1 (show i < nT (J2 2) by rw [eJ]; omega) hfu
        obtain rfl := y2 q y1
        have q01 : q = 0 ∨ q = 1 := by obtain ⟨S, -, z⟩ := y1; rw [z]; split; exact Or.inr rfl; exact Or.inl rfl
        have RR2 : REL kS sw I3 L J3 := REL_chk RR1 g2 zz2
        have eJ3 : J3 2 = J 2 := by rw [g2.1 2 (by decide) (by decide) (by decide), eJ]
        rw [x1, x2, Option.bind_some, Option.bind_some]
        rcases q01 with rfl | rfl
        · rw [if_neg (show ¬ (0 : Int32) = 1 by decide), if_pos rfl, nI_1]
          exact ih (i + 1) gC gM I3 J3 (by omega) (by omega) (by omega) eJ3 RR2
        · rw [if_pos rfl, if_neg (show ¬ (1 : Int32) = 0 by decide), c_answer, m_gives, Option.bind_some, Option.bind_some]
          exact OPR_fin ok RR2
    exact H (nT (J 2)) 0 fu fu I1 J1 (by omega) (by omega) (by omega) eP R3
end Mend
