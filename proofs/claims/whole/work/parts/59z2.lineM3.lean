section LineM3
variable {b : Nat → Nat} {n : Nat} {sw : Bool} {I0 : Nat → Nat → Int32} {L0 : Nat → Nat → Int64} {J0 : Nat → Nat → Int32} {Z : Nat → Int32} {fu : Nat}
/-- the cells of a method are empty -/
def clr (c s : Nat) (R : Nat → Int32) (j : Nat) : Int32 := if (39 + c ≤ j ∧ j < 39 + c + s) ∨ (183 + c ≤ j ∧ j < 183 + c + s) then -1 else R j
theorem clr_s {c s : Nat} {R : Nat → Int32} (hc : c + 6 ≤ 144) (hs : s < 6) : up (up (clr c s R) (39 + c + s) (-1)) (183 + c + s) (-1) = clr c (s + 1) R := by
  funext j
  unfold clr
  by_cases e1 : j = 183 + c + s
  · rw [e1, up_at, if_pos (by omega)]
  · rw [up_ne e1]
    by_cases e2 : j = 39 + c + s
    · rw [e2, up_at, if_pos (by omega)]
    · rw [up_ne e2]
      by_cases e3 : (39 + c ≤ j ∧ j < 39 + c + s) ∨ (183 + c ≤ j ∧ j < 183 + c + s)
      · rw [if_pos e3, if_pos (by omega)]
      · rw [if_neg e3, if_neg (by omega)]
theorem m_clear {k m : Nat} {J : Nat → Nat → Int32} {K : Nat → Nat → Int64} {j52 : Hp → Option (Int32 × Hp)} (hk : k < 4) (hm : m < 6) (hfu : 1000 < fu) : wh2 (MX9_readMethodLine_B144 j52 0 (nI k) (nI m)) fu (0 : Int32) (mkM J K) = j52 (mkM (ur J 3 (clr (6 * (6 * k + m)) 6 (J 3))) K) := by
  refine wh2_rule (fun r v h => ∃ s, s + r = 6 ∧ v = nI s ∧ h = mkM (ur J 3 (clr (6 * (6 * k + m)) s (J 3))) K) ?_ fu 6 _ _ (by omega) ⟨0, rfl, rfl, ?_⟩
  · rintro r v h self ⟨s, hs, rfl, rfl⟩ ih
    simp only [MX9_readMethodLine_B144, m_r2, MX9_cell, MX9_methodAt, Option.bind_some]
    rw [show (6 : Int32) = nI 6 from rfl]
    by_cases hr : r = 0
    · rw [if_pos (nI_le (by omega) (by omega)), show s = 6 by omega]
    · rw [if_neg (nI_ge (by omega) (by omega)), show nI 6 = (6 : Int32) from rfl, show (39 : Int32) = nI 39 from rfl, show (183 : Int32) = nI 183 from rfl, ix_cell, ix_cell, m_st3 (by omega), Option.bind_some, m_r2, Option.bind_some, m_st3 (by omega), Option.bind_some]
      refine ih (r - 1) _ _ (by omega) ⟨s + 1, by omega, nI_1 s, ?_⟩
      rw [ur_ur, ur_ur, ur_at, ur_at, clr_s (by omega) (by omega)]
  · have : clr (6 * (6 * k + m)) 0 (J 3) = J 3 := by
      funext j
      unfold clr
      rw [if_neg (by omega)]
    rw [this, ur_self]
theorem KP_new {d k so : Nat} {P P' : Nat → Int32} {I I' : Nat → Nat → Int32} {L L' K K' : Nat → Nat → Int64} {w w' : Int64} (h : KP d k P I L K) (hk : k < 4) (h6 : nM P k < 6) (hso : so ≤ 2) (hw : WR w w') (eP : P' = up (clr (6 * (6 * k + nM P k)) 6 (up P (15 + 6 * k + nM P k) (nI so))) (11 + k) (nI (nM P k + 1)))
    (i4 : I' (d + 4) = up (I (d + 4)) k (nI (nM P k + 1))) (i5 : I' (d + 5) = up (I (d + 5)) (6 * k + nM P k) (nI so)) (i6 : I' (d + 6) = up (I (d + 6)) (6 * k + nM P k) 0) (iO : I' (d + 2) = I (d + 2) ∧ I' (d + 3) = I (d + 3) ∧ I' (d + 7) = I (d + 7) ∧ I' (d + 8) = I (d + 8)) (l32 : L' 32 = up (L 32) (6 * k + nM P k) w) (lO : L' 30 = L 30 ∧ L' 31 = L 31) (k4 : K' 4 = up (K 4) (28 + 6 * k + nM P k) w') : KP d k P' I' L' K' := by
  obtain ⟨⟨⟨w1, w2, w3⟩, w4, ⟨w5, w6⟩, w7⟩, ⟨c1, c2, c3, c4⟩, n1, n2, n3⟩ := h
  generalize hM : nM P k = M at *
  have e : ∀ j, j ≠ 11 + k → j ≠ 15 + 6 * k + M → (j < 39 + 6 * (6 * k + M) ∨ (39 + 6 * (6 * k + M) + 6 ≤ j ∧ j < 183 + 6 * (6 * k + M)) ∨ 183 + 6 * (6 * k + M) + 6 ≤ j) → P' j = P j := by
    intro j a1 a2 a3
    rw [eP, up_ne a1]
    unfold clr
    rw [if_neg (by omega), up_ne a2]
  have e11 : P' (11 + k) = nI (M + 1) := by rw [eP, up_at]
  have e15 : P' (15 + 6 * k + M) = nI so := by
    rw [eP, up_ne (by omega)]
    unfold clr
    rw [if_neg (by omega), up_at]
  have eY : ∀ s, s < 6 → pY P' k M s = -1 ∧ pN P' k M s = -1 := by
    intro s hs
    constructor
    · show P' (39 + 6 * (6 * k + M) + s) = -1
      rw [eP, up_ne (by omega)]
      unfold clr
      rw [if_pos (by omega)]
    · show P' (183 + 6 * (6 * k + M) + s) = -1
      rw [eP, up_ne (by omega)]
      unfold clr
      rw [if_pos (by omega)]
  have s3 : nS P' k = nS P k := by show nN (P' (3 + k)) = _; rw [e _ (by omega) (by omega) (by omega)]
  have s11 : nM P' k = M + 1 := by show nN (P' (11 + k)) = _; rw [e11, nN_nI (by omega)]
  have e7 : pE P' k = pE P k := e _ (by omega) (by omega) (by omega)
  have cell : ∀ m s, m < M → s < 6 → pY P' k m s = pY P k m s ∧ pN P' k m s = pN P k m s := fun m s hm hs => ⟨e _ (by omega) (by omega) (by omega), e _ (by omega) (by omega) (by omega)⟩
  have soE : ∀ m, m < M → pSo P' k m = pSo P k m := fun m hm => e _ (by omega) (by omega) (by omega)
  unfold KP WFk WFm WFt CRm
  rw [s3, s11, e7, e (3 + k) (by omega) (by omega) (by omega), e11, i4, i5, i6, iO.1, iO.2.1, iO.2.2.1, iO.2.2.2, lO.1, lO.2, l32, k4, up_at]
  refine ⟨⟨⟨w1, w2, w3⟩, w4, ⟨rfl, by omega⟩, fun m hm => ?_⟩, ⟨c1, c2, rfl, fun m hm => ?_⟩, by rw [up_ne (by omega)]; exact n1, fun s hs => by rw [up_ne (by omega)]; exact n2 s hs, fun m hm => ?_⟩
  · by_cases c : m = M
    · subst c
      rw [show pSo P' k m = nI so from e15]
      refine ⟨by rcases (show so = 0 ∨ so = 1 ∨ so = 2 by omega) with q | q | q <;> subst q; exact Or.inl rfl; exact Or.inr (Or.inl rfl); exact Or.inr (Or.inr rfl), fun s hs => Or.inl (eY s (by omega))⟩
    · obtain ⟨a1, a2⟩ := w7 m (by omega)
      rw [soE m (by omega)]
      refine ⟨a1, fun s hs => ?_⟩
      rw [(cell m s (by omega) (by omega)).1, (cell m s (by omega) (by omega)).2]
      exact a2 s hs
  · by_cases c : m = M
    · subst c
      rw [up_at, up_at, show pSo P' k m = nI so from e15]
      refine ⟨rfl, fun s => ?_, fun s hs z => absurd (eY s (by omega)).1 z⟩
      rw [b_0]
      by_cases q : s < nS P k
      · rw [(eY s (by omega)).1]; simp
      · rw [decide_eq_false q, Bool.false_and]
    · obtain ⟨a1, a2, a3⟩ := c4 m (by omega)
      rw [soE m (by omega), up_ne (by omega), up_ne (by omega)]
      refine ⟨a1, fun s => ?_, fun s hs => ?_⟩
      · rw [a2 s]
        by_cases q : s < nS P k
        · rw [(cell m s (by omega) (by omega)).1]
        · rw [decide_eq_false q, Bool.false_and, Bool.false_and]
      · rw [(cell m s (by omega) (by omega)).1, (cell m s (by omega) (by omega)).2]
        exact a3 s hs
  · by_cases c : m = M
    · rw [c, up_at, up_at]; exact hw
    · rw [up_ne (by omega), up_ne (by omega)]; exact n3 m (by omega)
/-- the method's name is read, and the line behind it -/
theorem meth_head {q p k so d : Nat} {P Q0 : Nat → Int32} {I IQ : Nat → Nat → Int32} {L : Nat → Nat → Int64} {J : Nat → Nat → Int32} {K : Nat → Nat → Int64} (hd : dr' sw = d) (tx : TX b n) (h : BC b n sw I0 L0 p I L) (g : BM b n J0 Z p P J K) (cx : CTX d P I L K) (h2 : P 2 = nI 0) (hk : k < nK P) (hso : so ≤ 2) (hfu : 1000 < fu) (hq : q ≤ p) (eQ : P 2 = Q0 2) (eI : I d 3 = IQ d 3) (eI2 : I 1 10 = IQ 1 10) :
    BOT b n sw I0 L0 J0 Z ((MX3_methodToTell fu 1 (nI k) (nI so) (mkC sw I L)).bind fun p10 => if p10.1 = (-1 : Int32) then some ((0 : Int32), p10.2) else cTail fu (nI k) p10.1 (nI so) p10.2) (mHead fu (nI so) (nI k) (mkM J K) (mTail fu (nI so) (nI k))) (QL d q Q0 IQ) := by
  have d5 := dr_lt (sw := sw)
  have P4 : isP d := by rw [← hd]; exact dr_P
  have h4 := cx.1.1.2
  obtain ⟨⟨⟨w1, w2, w3⟩, w4, ⟨w5, w6⟩, w7⟩, ⟨c1, c2, c3, c4⟩, n1, n2, n3⟩ := cx.2.2.1 k hk
  have l := tk_le (b := b) (n := n) (p := p)
  unfold mHead
  simp only [MX3_methodToTell, c3_g, c3_r0, c7_fI, Option.bind_some, jn]
  rw [h.2.1.2.2.1, m_isName g.1 h.1 hfu, Option.bind_some]
  by_cases e : tk b n p = 18
  · rw [if_pos (show nI (tk b n p) = 18 by rw [e]; rfl), if_pos e, if_neg (show ¬ (1 : Int32) = 0 by decide)]
    have wd := both_word h.2.1 g.1 h.1 (by omega)
    rw [c3_r6, Option.bind_some, c3_dr, Option.bind_some, hd, c4_r0 P4, Option.bind_some, c2_r3 (isP_K P4), Option.bind_some, c2_ld3 (isP_K P4) (by omega), Option.bind_some, show d + 1 + 3 = d + 4 by omega, c3, w5, m_r2, Option.bind_some, ix_c (show (11 : Int32) = nI 11 from rfl), m_ld3 (by omega), Option.bind_some, g.2.1.1 _ (by omega), w5]
    obtain ⟨x, hx, f1, f2⟩ := both_find (sw := sw) (I := I) (L := L) (fu := fu) (J := J) (K := K) (r := 32) (a := 6 * k) (a' := 28 + 6 * k) (c := nM P k) (fun i hi => by rw [nI_add]; exact c3_ld6 (by omega)) (by omega) wd (fun i hi => n3 i hi) hfu
    rw [x6k, f1, Option.bind_some, x6k' (x := 28) (c := 28) rfl, f2, Option.bind_some]
    rcases hx with rfl | ⟨m, hm, rfl⟩
    · simp only [Option.bind_some, if_true]
      by_cases cM : nM P k = 6
      · rw [if_neg (show ¬ nI (nM P k) < 6 by rw [cM]; decide), if_pos (show nI (nM P k) = 6 by rw [cM]; rfl), c_fail h.2.1, m_bad g.1]
        simp only [Option.bind_some, h_z_0, if_true]
        exact Or.inl ⟨_, _, _, _, rfl, rfl, FLT_fail h g⟩
      · have M6 : nM P k < 6 := by omega
        rw [if_pos (show nI (nM P k) < 6 from nI_lt (b := 6) M6 (by decide)), if_neg (show ¬ nI (nM P k) = 6 from fun z => cM (nI_inj (b := 6) (by omega) (by decide) z))]
        unfold mNew
        have add : MX2_addMethod (d + 1) (nI k) (nI so) (mkC sw I L) = some (nI (nM P k), mkC sw (ur (ur (ur I (d + 5) (up (I (d + 5)) (6 * k + nM P k) (nI so))) (d + 6) (up (I (d + 6)) (6 * k + nM P k) 0)) (d + 4) (up (I (d + 4)) k (nI (nM P k + 1)))) L) := by
          simp only [MX2_addMethod, c2_g (isP_K P4), c2_r3 (isP_K P4), Option.bind_some]
          rw [c2_ld3 (isP_K P4) (by omega), Option.bind_some, show d + 1 + 3 = d + 4 by omega, c3, w5, c2_r4 (isP_K P4), Option.bind_some, ix_met, c2_st4 (isP_K P4) (by omega), Option.bind_some, c2_r5 (isP_K P4), Option.bind_some, c2_st5 (isP_K P4) (by omega), Option.bind_some, c2_r3 (isP_K P4), Option.bind_some, c2_ld3 (isP_K P4) (by omega), Option.bind_some, c2_st3 (isP_K P4) (by omega), Option.bind_some]
          rw [show d + 1 + 3 = d + 4 by omega, show d + 1 + 4 = d + 5 by omega, show d + 1 + 5 = d + 6 by omega, ur_ne (show d + 4 ≠ d + 6 by omega), ur_ne (show d + 4 ≠ d + 5 by omega), ur_ne (show d + 6 ≠ d + 5 by omega), c3, w5, nI_1]
        rw [add, Option.bind_some]
        generalize hI1 : ur (ur (ur I (d + 5) (up (I (d + 5)) (6 * k + nM P k) (nI so))) (d + 6) (up (I (d + 6)) (6 * k + nM P k) 0)) (d + 4) (up (I (d + 4)) k (nI (nM P k + 1))) = I1
        simp only []
        rw [c3_r6, Option.bind_some, c3_r0, Option.bind_some, c7_fL, Option.bind_some, nI_add, c3_st6 (by omega), Option.bind_some, c3_dr, Option.bind_some, hd, c4_r0 P4, Option.bind_some, c_sortOf P4 (by omega) (by omega), Option.bind_some]
        have i5 : I1 (d + 5) = up (I (d + 5)) (6 * k + nM P k) (nI so) := by rw [← hI1, ur_ne (by omega), ur_ne (by omega), ur_at]
        have i6 : I1 (d + 6) = up (I (d + 6)) (6 * k + nM P k) 0 := by rw [← hI1, ur_ne (by omega), ur_at]
        have i4 : I1 (d + 4) = up (I (d + 4)) k (nI (nM P k + 1)) := by rw [← hI1, ur_at]
        have iO : ∀ x, x ≠ d + 4 → x ≠ d + 5 → x ≠ d + 6 → I1 x = I x := fun x a1 a2 a3 => by rw [← hI1, ur_ne a1, ur_ne a3, ur_ne a2]
        rw [i5, up_at, if_pos rfl, Option.bind_some, m_r3, Option.bind_some, m_fL, Option.bind_some, x6k' (x := 28) (c := 28) rfl, nI_add, m_st4 (by omega), Option.bind_some, m_r2, Option.bind_some]
        simp only [MX9_methodAt, Option.bind_some, ix_met']
        rw [ix_c (show (15 : Int32) = nI 15 from rfl), m_st3 (by omega), Option.bind_some, m_clear (by omega) M6 hfu, m_r2, Option.bind_some, ix_c (show (11 : Int32) = nI 11 from rfl), m_ld3 (by omega), Option.bind_some, m_st3 (by omega), Option.bind_some, if_neg (nI_ne_m1 (by omega))]
        rw [ur_ur, ur_ur, ur_at, ur_at]
        have c11 : clr (6 * (6 * k + nM P k)) 6 (up (J 3) (15 + (6 * k + nM P k)) (nI so)) (11 + k) = nI (nM P k) := by
          unfold clr
          rw [if_neg (by omega), up_ne (by omega), g.2.1.1 _ (by omega), w5]
        rw [c11, nI_1]
        have h1 : BC b n sw I0 L0 p I1 (ur L 32 (up (L 32) (6 * k + nM P k) (L 2 3))) := by
          rw [← hI1]
          exact BC_wL (BC_wI (BC_wI (BC_wI h (by rw [hd]; omega)) (by rw [hd]; omega)) (by rw [hd]; omega)) (by decide)
        have g0 := BM_wK (r := 4) (g := up (K 4) (28 + 6 * k + nM P k) (K 0 15)) g (by decide)
        have g1 : BM b n J0 Z p (up (clr (6 * (6 * k + nM P k)) 6 (up P (15 + 6 * k + nM P k) (nI so))) (11 + k) (nI (nM P k + 1))) (ur J 3 (up (clr (6 * (6 * k + nM P k)) 6 (up (J 3) (15 + (6 * k + nM P k)) (nI so))) (11 + k) (nI (nM P k + 1)))) (ur K 4 (up (K 4) (28 + 6 * k + nM P k) (K 0 15))) := by
          obtain ⟨⟨⟨a1, a2⟩, a3⟩, ⟨h3, h3'⟩, ⟨h4', h5⟩, h6, h7⟩ := g0
          have e : ∀ x, x ≠ 3 → ∀ g, ur J 3 g x = J x := fun x hx g => ur_ne hx
          unfold BM LM tapM
          rw [e 0 (by decide), e 1 (by decide), ur_at]
          refine ⟨⟨⟨a1, a2⟩, a3⟩, ⟨fun j hj => ?_, fun j hj => ?_⟩, ⟨fun y y0 y3 => by rw [e y y3, h4' y y0 y3], fun k hk => by rw [e 0 (by decide), h5 k hk]⟩, h6, h7⟩
          · by_cases q1 : j = 11 + k
            · rw [q1, up_at, up_at]
            · rw [up_ne q1, up_ne q1]
              unfold clr
              split
              · rfl
              · rw [show 15 + (6 * k + nM P k) = 15 + 6 * k + nM P k by omega]
                by_cases q2 : j = 15 + 6 * k + nM P k
                · rw [q2, up_at, up_at]
                · rw [up_ne q2, up_ne q2]; exact h3 j hj
          · rw [up_ne (by omega)]
            unfold clr
            rw [if_neg (by omega), up_ne (by omega)]
            exact h3' j hj
        generalize hP' : up (clr (6 * (6 * k + nM P k)) 6 (up P (15 + 6 * k + nM P k) (nI so))) (11 + k) (nI (nM P k + 1)) = P' at *
        have lo : ∀ j, j ≠ 11 + k → j ≠ 15 + 6 * k + nM P k → (j < 39 + 6 * (6 * k + nM P k) ∨ (39 + 6 * (6 * k + nM P k) + 6 ≤ j ∧ j < 183 + 6 * (6 * k + nM P k)) ∨ 183 + 6 * (6 * k + nM P k) + 6 ≤ j) → P' j = P j := by
          intro j a1 a2 a3
          rw [← hP', up_ne a1]
          unfold clr
          rw [if_neg (by omega), up_ne a2]
        have q0 : nK P' = nK P := congrArg nN (lo 0 (by omega) (by omega) (by omega))
        have q1 : nV P' = nV P := congrArg nN (lo 1 (by omega) (by omega) (by omega))
        have qm : nM P' k = nM P k + 1 := by show nN (P' (11 + k)) = _; rw [← hP', up_at, nN_nI (by omega)]
        have eso : pSo P' k (nM P k) = nI so := by
          show P' (15 + 6 * k + nM P k) = nI so
          rw [← hP', up_ne (by omega)]
          unfold clr
          rw [if_neg (by omega), up_at]
        have cx1 : CTX d P' I1 (ur L 32 (up (L 32) (6 * k + nM P k) (L 2 3))) (ur K 4 (up (K 4) (28 + 6 * k + nM P k) (K 0 15))) := by
          refine ⟨⟨⟨by rw [q0, lo 0 (by omega) (by omega) (by omega)]; exact cx.1.1.1, by rw [q0]; exact h4⟩, by rw [q1, lo 1 (by omega) (by omega) (by omega)]; exact cx.1.2.1, by rw [q1]; exact cx.1.2.2⟩, ⟨by rw [iO (d + 1) (by omega) (by omega) (by omega), lo 0 (by omega) (by omega) (by omega)]; exact cx.2.1.1, by rw [iO d (by omega) (by omega) (by omega), lo 1 (by omega) (by omega) (by omega)]; exact cx.2.1.2⟩, fun k2 hk2 => ?_, fun v hv => ?_⟩
          · rw [q0] at hk2
            by_cases ek : k2 = k
            · subst ek
              exact KP_new (cx.2.2.1 k2 hk2) (by omega) M6 hso wd hP'.symm i4 i5 i6 ⟨iO _ (by omega) (by omega) (by omega), iO _ (by omega) (by omega) (by omega), iO _ (by omega) (by omega) (by omega), iO _ (by omega) (by omega) (by omega)⟩ ur_at ⟨ur_ne (by decide), ur_ne (by decide)⟩ ur_at
            · refine KP_same (cx.2.2.1 k2 hk2) ⟨fun j hj => lo j (by omega) (by omega) (by omega), ⟨by rw [iO (d + 2) (by omega) (by omega) (by omega)], by rw [iO (d + 3) (by omega) (by omega) (by omega)], by rw [i4, up_ne ek]⟩, fun m hm => ⟨by rw [i5, up_ne (by omega)], by rw [i6, up_ne (by omega)], fun s hs => ⟨by rw [iO (d + 7) (by omega) (by omega) (by omega)], by rw [iO (d + 8) (by omega) (by omega) (by omega)]⟩⟩, by rw [ur_ne (by decide)], by rw [ur_at, up_ne (by omega)], fun s hs => ⟨by rw [ur_ne (by decide)], by rw [ur_at, up_ne (by omega)], by rw [ur_at, up_ne (by omega)], by rw [ur_at, up_ne (by omega)]⟩⟩
          · rw [q1] at hv
            have v6 := cx.1.2.2
            have : vK P' v = vK P v := congrArg nN (lo (327 + v) (by omega) (by omega) (by omega))
            rw [this, q0, lo (327 + v) (by omega) (by omega) (by omega), iO (d + 13) (by omega) (by omega) (by omega), ur_ne (by decide), ur_at, up_ne (by omega)]
            exact cx.2.2.2 v hv
        exact meth_tail hd tx h1 g1 cx1 (by rw [lo 2 (by omega) (by omega) (by omega)]; exact h2) (by rw [q0]; exact hk) (by rw [qm]; omega) hso eso hfu hq (by rw [lo 2 (by omega) (by omega) (by omega)]; exact eQ) (by rw [iO d (by omega) (by omega) (by omega)]; exact eI) (by rw [iO 1 (by omega) (by omega) (by omega)]; exact eI2)
    · have nm := nI_ne_m1 (a := m) (by omega)
      simp only [eq_false nm, if_false, MX9_methodAt, Option.bind_some, ix_met', c3_dr, hd, c4_r0 P4]
      rw [c_sortOf P4 (by omega) (by omega), Option.bind_some, ix_c (show (15 : Int32) = nI 15 from rfl), m_ld3 (by omega), Option.bind_some, g.2.1.1 _ (by omega), (c4 m hm).1, show 15 + (6 * k + m) = 15 + 6 * k + m by omega]
      by_cases es : pSo P k m = nI so
      · rw [if_pos es, if_pos es, Option.bind_some]
        simp only []
        rw [if_neg nm]
        exact meth_tail hd tx h g cx h2 hk hm hso es hfu hq eQ eI eI2
      · rw [if_neg es, if_neg es, c_fail h.2.1, m_bad g.1]
        simp only [Option.bind_some, h_z_0, if_true]
        exact Or.inl ⟨_, _, _, _, rfl, rfl, FLT_fail h g⟩
  · rw [if_neg (show ¬ nI (tk b n p) = 18 from fun z => e (nI_inj (b := 18) (by omega) (by decide) z)), if_neg e, if_pos rfl, c_fail h.2.1, m_bad g.1]
    simp only [Option.bind_some, h_z_0, if_true]
    exact Or.inl ⟨_, _, _, _, rfl, rfl, FLT_fail h g⟩
theorem both_meth {p so : Nat} {P : Nat → Int32} {I : Nat → Nat → Int32} {L : Nat → Nat → Int64} {J : Nat → Nat → Int32} {K : Nat → Nat → Int64} (tx : TX b n) (h : BC b n sw I0 L0 p I L) (g : BM b n J0 Z p P J K) (cx : CTX (dr' sw) P I L K) (h2 : P 2 = nI 0) (hp : p < n) (hso : so ≤ 2) (hfu : 1000 < fu) :
    BOT b n sw I0 L0 J0 Z (MX3_readMethod fu 1 (nI so) (mkC sw I L)) (MX9_readMethodLine fu 0 (nI so) (mkM J K)) (QL (dr' sw) p P I) := by
  have d5 := dr_lt (sw := sw)
  have P4 : isP (dr' sw) := dr_P
  have x4 := cx.1.1.2
  rw [mLine_eq]
  simp only [MX3_readMethod, c3_g, c3_r0, m_g, Option.bind_some, jn]
  obtain ⟨I1, L1, e1, h1, f1⟩ := BC_adv tx h hfu
  obtain ⟨J1, K1, e2, g1, f2⟩ := BM_adv tx h.1 g hfu
  have p1 := (nx_le (b := b) h.1).2.2 hp
  have cx1 : CTX (dr' sw) P I1 L1 K1 := CTX_fr cx (fun x x1 x2 => f1.1 x (by omega)) (by rw [f1.1 _ (by omega)]) (fun x x1 x2 => f1.2.1 x (by omega)) (f2.2.1 4 (by decide))
  rw [e1, e2, Option.bind_some, Option.bind_some]
  simp only [c3_r0, c3_r4, c3_dr, c4_r0 P4, c2_fI (isP_K P4), Option.bind_some, MX9_readKind, m_g, m_r2]
  rw [cx1.2.1.1, cx.1.1.1, m_lit (x := 0) (k := 0) rfl (by decide), Option.bind_some, g1.2.1.1 0 (by decide), cx.1.1.1]
  have kn := both_known' (xa := 0) (xa' := 0) (r := 30) (a := 0) (a' := 0) (c := nK P) (fu := fu) rfl rfl tx h1 g1 (fun i hi => by rw [nI_add]; exact c3_ld4 (by omega)) (by omega) (fun i hi => by rw [Nat.zero_add]; exact (cx1.2.2.1 i hi).2.2.1) hfu
  rcases kn with ⟨I3, L3, J3, K3, e5, e6, fl⟩ | ⟨f, J3, K3, hf, pn, t2, e5, e6, g3, j16, j3, k3⟩
  · simp only [e5, e6, Option.bind_some, h_z_0, if_true]
    exact Or.inl ⟨_, _, _, _, rfl, rfl, fl⟩
  · simp only [e5, e6, Option.bind_some, h_z_1, n10, nfm (show f < 2 ^ 31 by omega), if_false, c3_r0, m_fI]
    obtain ⟨I4, L4, e7, h4, f5⟩ := BC_adv tx h1 hfu
    have p2 := (nx_le (b := b) h1.1).2.2 pn
    have cx4 : CTX (dr' sw) P I4 L4 K3 := CTX_fr cx1 (fun x x1 x2 => f5.1 x (by omega)) (by rw [f5.1 _ (by omega)]) (fun x x1 x2 => f5.2.1 x (by omega)) (k3 4 (by decide))
    rw [e7, Option.bind_some, j16]
    exact meth_head rfl tx h4 g3 cx4 h2 hf hso hfu (by omega) rfl (by rw [f5.1 _ (by omega), f1.1 _ (by omega)]) (by rw [f5.1 1 (by decide), f1.1 1 (by decide)])
end LineM3
