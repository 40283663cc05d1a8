section Why
variable {J J0 J' : Nat → Nat → Int32} {K : Nat → Nat → Int64} {fu : Nat} {D : Nat → Nat} {P X Y : Nat → Int32}
theorem nEnd_e24 {v : Nat} (h : e24 X Y) (hv : v < 6) : nEnd P X v = nEnd P Y v := by
  unfold nEnd
  rw [h (6 + v) (by omega)]
theorem anyE_e24 (h : e24 X Y) : ∀ n, n ≤ 6 → anyE P X n = anyE P Y n := by
  intro n
  induction n with
  | zero => intro _; rfl
  | succ n ih =>
    intro hn
    unfold anyE
    rw [ih (by omega), nEnd_e24 h (by omega)]
theorem rsn_e24 {pl : Nat} (hA : WFA P D) (hpl : pl ≤ nT P) (h : e24 X Y) : rsn P pl X = rsn P pl Y := by
  have h6 := hA.1.1.2.1.2
  unfold rsn
  by_cases c : pl = nT P
  · rw [if_pos c, if_pos c, anyE_e24 h _ h6]
  · rw [if_neg c, if_neg c]
    obtain ⟨so, h10, eso, es, o1, o2, o3⟩ := op_of hA.1 hA.2.1 hA.2.2 (show pl < nT P by omega)
    rw [es]
    by_cases c9 : 9 ≤ so
    · rw [rsS_9 c9, rsS_9 c9]
    · have la := (o1 (by omega)).1
      rcases (show so = 0 ∨ so = 1 ∨ so = 2 ∨ so = 3 ∨ so = 4 ∨ so = 5 ∨ (6 ≤ so ∧ so ≤ 8) by omega) with q | q | q | q | q | q | q
      · subst q; rw [rsS_0, rsS_0, h _ (by omega)]
      · subst q; have lb := (o2 (by decide) (by decide)).1; rw [rsS_13 (by omega), rsS_13 (by omega), h _ (show nN (P (373 + pl)) < 24 by omega), h _ (show nN (P (413 + pl)) < 24 by omega)]
      · subst q; have lb := (o2 (by decide) (by decide)).1; rw [rsS_2, rsS_2, h _ (show nN (P (373 + pl)) < 24 by omega), h _ (show nN (P (413 + pl)) < 24 by omega)]
      · subst q; have lb := (o2 (by decide) (by decide)).1; rw [rsS_13 (by omega), rsS_13 (by omega), h _ (show nN (P (373 + pl)) < 24 by omega), h _ (show nN (P (413 + pl)) < 24 by omega)]
      · subst q; have lb := (o2 (by decide) (by decide)).1; rw [rsS_4, rsS_4, h _ (show nN (P (373 + pl)) < 24 by omega), h _ (show nN (P (413 + pl)) < 24 by omega), h _ (show 18 + nN (P (373 + pl)) < 24 by omega)]
      · subst q; rw [rsS_5, rsS_5, h _ (show nN (P (373 + pl)) < 24 by omega), h _ (show 18 + nN (P (373 + pl)) < 24 by omega), nEnd_e24 h (by omega)]
      · rw [rsS_ask q, rsS_ask q, h _ (show nN (P (373 + pl)) < 24 by omega), h _ (show 6 + nN (P (373 + pl)) < 24 by omega)]
theorem m_endsOf {v : Nat} (hA : WFA (J 2) D) (hv : v < nV (J 2)) : MX9_endsOf 0 (nI v) (mkM J K) = some (pE (J 2) (vK (J 2) v)) := by
  have h6 := hA.1.1.2.1.2
  have h4 := hA.1.1.1.2
  obtain ⟨ek, lk⟩ := hA.2.1 v hv
  simp only [MX9_endsOf, m_g, m_r1, Option.bind_some]
  rw [ix_c (show (327 : Int32) = nI 327 from rfl), m_ld2 (by omega), Option.bind_some, ek, ix_c (show (7 : Int32) = nI 7 from rfl), m_ld2 (by omega), Option.bind_some]
theorem has0 {x : Int32} : MX9_has x 0 = some (if bt x 0 then 1 else 0) := b_has (k := 0) (by decide)
theorem has1 {x : Int32} : MX9_has x 1 = some (if bt x 1 then 1 else 0) := b_has (k := 1) (by decide)
theorem m_why {pl : Nat} (hA : WFA (J 2) D) (hpl : pl ≤ nT (J 2)) (hx : HX (cX J)) (hfu : 6 < fu) (ht : MX9_takes fu 0 (nI pl) (mkM J0 K) = some (mkM J K)) : MX9_whyAt fu 0 (nI pl) (mkM J0 K) = some (rsn (J 2) pl (cX J), mkM J K) := by
  have h40 := hA.1.1.2.2.2
  have hV := hA.1.1.2.1.2
  have h4 := hA.1.1.1.2
  simp only [MX9_whyAt, m_g]
  rw [ht, Option.bind_some, m_statements, Option.bind_some, hA.1.1.2.2.1]
  unfold rsn
  by_cases c : pl = nT (J 2)
  · rw [if_pos (by rw [c]), if_pos c]
    refine wh1_rule (fun r n => ∃ v, v + r = nV (J 2) ∧ n = nI v ∧ ∀ u, u < v → nEnd (J 2) (cX J) u = false) ?_ fu (nV (J 2)) _ (by omega) ⟨0, by omega, rfl, fun u h => by omega⟩
    rintro r n self ⟨v, hv, rfl, q⟩ ih
    simp only [MX9_whyAt_B15, m_r1, m_r27, m_r28, Option.bind_some, jn]
    rw [show h_ldI (mkM J K) 2 (1 : Int32) = some (J 2 1) from m_ld2 (k := 1) (by decide), Option.bind_some, hA.1.1.2.1.1]
    by_cases hr : r = 0
    · subst hr
      rw [if_pos (nI_le (by omega) (by omega)), (anyE_f (nV (J 2))).mpr (fun u hu => q u (by omega))]
      rfl
    · have hv2 : v < nV (J 2) := by omega
      have go : nEnd (J 2) (cX J) v = false → self (nI v + 1) = some (if anyE (J 2) (cX J) (nV (J 2)) then 5 else 0, mkM J K) := by
        intro e
        refine ih (r - 1) _ (by omega) ⟨v + 1, by omega, nI_1 v, fun u hu => ?_⟩
        by_cases e2 : u = v
        · rw [e2]; exact e
        · exact q u (by omega)
      rw [if_neg (nI_ge (by omega) (by omega)), m_ld15 (by omega), Option.bind_some, m_ld16 (by omega), Option.bind_some, m_endsOf hA hv2, Option.bind_some]
      by_cases c14 : J 15 v &&& 14 = 0
      · rw [if_pos c14]
        refine go ?_
        have hh := and_14.mp c14
        unfold hold at hh
        simp only [Bool.or_eq_false_iff] at hh
        have := hx v (by omega) (by rw [cX_h (by omega)]; exact hh.1.1) (by rw [cX_h (by omega)]; exact hh.1.2) (by rw [cX_h (by omega)]; exact hh.2)
        unfold nEnd
        rw [this]
        simp
      · rw [if_neg c14]
        by_cases c5 : J 16 v &&& (pE (J 2) (vK (J 2) v) ^^^ -1) = 0
        · rw [if_pos c5]
          refine go ?_
          unfold nEnd
          rw [cX_s (by omega)]
          exact decide_eq_false (fun q => q c5)
        · rw [if_neg c5]
          have : anyE (J 2) (cX J) (nV (J 2)) = true := by
            cases e : anyE (J 2) (cX J) (nV (J 2))
            · have := (anyE_f (nV (J 2))).mp e v hv2
              unfold nEnd at this
              rw [cX_s (by omega), decide_eq_true c5] at this
              cases this
            · rfl
          rw [this]; rfl
  · have hi : pl < nT (J 2) := by omega
    have hne : ¬ nI pl = nI (nT (J 2)) := fun q => c (nI_inj (by omega) (by omega) q)
    obtain ⟨so, h10, eso, es, o1, o2, o3⟩ := op_of hA.1 hA.2.1 hA.2.2 hi
    rw [if_neg hne, if_neg c]
    simp only [m_r1, m_r27, m_r28, m_r30, Option.bind_some, jn]
    rw [ix_c (show (373 : Int32) = nI 373 from rfl), m_ld2 (by omega), Option.bind_some, ix_c (show (413 : Int32) = nI 413 from rfl), m_ld2 (by omega), Option.bind_some, m_sortAt (by omega), Option.bind_some, eso, nN_nI (by omega)]
    by_cases c9 : so < 9
    · obtain ⟨la, ea⟩ := o1 c9
      generalize hda : nN (J 2 (373 + pl)) = a at *
      have two : 1 ≤ so → so ≤ 4 → ∃ b, b < nV (J 2) ∧ b ≠ a ∧ J 2 (413 + pl) = nI b ∧ nN (J 2 (413 + pl)) = b := fun h1 h2 => ⟨_, (o2 h1 h2).1, (o2 h1 h2).2.1, (o2 h1 h2).2.2, rfl⟩
      rw [ea, show (9 : Int32) = nI 9 from rfl, if_pos (nI_lt c9 (by decide)), m_ld15 (by omega), Option.bind_some]
      have h14 : ∀ {α : Type} (x : Int32) (A B : α), (if x &&& 14 = 0 then A else B) = if hold x = true then B else A := by
        intro α x A B
        by_cases q : x &&& 14 = 0
        · rw [if_pos q, and_14.mp q]; rfl
        · rw [if_neg q]
          cases e : hold x
          · exact absurd (and_14.mpr e) q
          · rfl
      rcases (show so = 0 ∨ (1 ≤ so ∧ so ≤ 3) ∨ so = 4 ∨ so = 5 ∨ (6 ≤ so ∧ so ≤ 8) by omega) with q | q | q | q | q
      · subst q
        rw [if_pos (show nI 0 = 0 from rfl), h14, rsS_0, cX_h (by omega)]
        cases hold (J 15 a) <;> rfl
      · obtain ⟨b, lb, ne, eb, eb2⟩ := two (by omega) (by omega)
        have n0 : ¬ nI so = 0 := fun z => by have := nI_inj (b := 0) (by omega) (by omega) z; omega
        have n4 : ¬ (4 : Int32) ≤ nI so := by rw [show (4 : Int32) = nI 4 from rfl]; exact nI_ge (by omega) (by omega)
        rw [if_neg n0, if_neg n4, eb, m_ld15 (by omega), Option.bind_some, Option.bind_some, h14, has0, Option.bind_some, has1, Option.bind_some, nN_nI (by omega)]
        rcases (show so = 2 ∨ so = 1 ∨ so = 3 by omega) with z | z
        · subst z
          rw [if_pos (show nI 2 = 2 from rfl), rsS_2, cX_h (show a < 6 by omega), cX_h (show b < 6 by omega)]
          cases hold (J 15 a) <;> cases bt (J 15 b) 0 <;> cases bt (J 15 b) 1 <;> rfl
        · have n2 : ¬ nI so = 2 := fun z => by have := nI_inj (b := 2) (by omega) (by omega) z; omega
          rw [if_neg n2, rsS_13 z, cX_h (show a < 6 by omega), cX_h (show b < 6 by omega)]
          cases hold (J 15 a) <;> cases bt (J 15 b) 0 <;> rfl
      · subst q
        obtain ⟨b, lb, ne, eb, eb2⟩ := two (by omega) (by omega)
        rw [if_neg (show ¬ nI 4 = 0 by decide), if_pos (show (4 : Int32) ≤ nI 4 by decide), if_pos (show nI 4 = 4 from rfl), Option.bind_some, has0, eb, m_ld15 (by omega), m_ld18 (by omega)]
        simp only [Option.bind_some]
        rw [has0, b_has (by omega)]
        simp only [Option.bind_some]
        rw [nN_nI (by omega), rsS_4, cX_h (show a < 6 by omega), cX_h (show b < 6 by omega), cX_u]
        cases bt (J 15 a) 0 <;> cases bt (J 15 b) 0 <;> cases bt (J 18 a) b <;> rfl
      · subst q
        rw [if_neg (show ¬ nI 5 = 0 by decide), if_pos (show (4 : Int32) ≤ nI 5 by decide), if_neg (show ¬ nI 5 = 4 by decide), Option.bind_some, has0, Option.bind_some, if_pos (show nI 5 = 5 from rfl), m_ld18 (by omega), Option.bind_some, m_ld16 (by omega), Option.bind_some, m_endsOf hA la, Option.bind_some, rsS_5, cX_h (show a < 6 by omega), cX_u]
        have en : nEnd (J 2) (cX J) a = decide (J 16 a &&& (pE (J 2) (vK (J 2) a) ^^^ -1) ≠ 0) := by unfold nEnd; rw [cX_s (by omega)]
        rw [en]
        by_cases q1 : J 18 a = 0
        · by_cases q2 : J 16 a &&& (pE (J 2) (vK (J 2) a) ^^^ -1) = 0
          · rw [if_pos q1, if_pos q2, decide_eq_false (fun q => q q2), if_neg (show ¬ (J 18 a = 0 ∧ false = true) from fun q => by cases q.2)]
            cases bt (J 15 a) 0 <;> rfl
          · rw [if_pos q1, if_neg q2, decide_eq_true q2, if_pos (show J 18 a = 0 ∧ true = true from ⟨q1, rfl⟩)]
            cases bt (J 15 a) 0 <;> rfl
        · have n3 : ¬ (J 18 a = 0 ∧ decide (J 16 a &&& (pE (J 2) (vK (J 2) a) ^^^ -1) ≠ 0) = true) := fun q => q1 q.1
          rw [if_neg q1, if_neg n3]
          cases bt (J 15 a) 0 <;> rfl
      · obtain ⟨k1, k2, k3, -⟩ := o3 q.1 q.2
        have h7 := (hA.1.2 _ k1).2.2.1.2
        have hS6 := (hA.1.2 _ k1).1.2.2
        generalize hdm : nN (J 2 (453 + pl)) = m at *
        obtain ⟨ek, lk⟩ := hA.2.1 a la
        have n0 : ¬ nI so = 0 := fun z => by have := nI_inj (b := 0) (by omega) (by omega) z; omega
        have p4 : (4 : Int32) ≤ nI so := by rw [show (4 : Int32) = nI 4 from rfl]; exact nI_le (by omega) (by omega)
        have n4 : ¬ nI so = 4 := fun z => by have := nI_inj (b := 4) (by omega) (by omega) z; omega
        have n5 : ¬ nI so = 5 := fun z => by have := nI_inj (b := 5) (by omega) (by omega) z; omega
        rw [if_neg n0, if_pos p4, if_neg n4, Option.bind_some, has0, Option.bind_some, if_neg n5, ix_c (show (327 : Int32) = nI 327 from rfl), m_ld2 (by omega), Option.bind_some, ek, ix_c (show (453 : Int32) = nI 453 from rfl), m_ld2 (by omega), Option.bind_some, k3]
        simp only [MX9_methodAt, ix_66, Option.bind_some]
        rw [ix_c (show (15 : Int32) = nI 15 from rfl), m_ld2 (by omega), Option.bind_some, show 15 + (6 * vK (J 2) a + m) = 15 + 6 * vK (J 2) a + m by omega, m_ld16 (by omega), Option.bind_some, m_canSet k1 k2 hA.1 (cn_bt hS6) (by omega), Option.bind_some, has1, Option.bind_some, rsS_ask q, cX_h (show a < 6 by omega), cX_s (show a < 6 by omega)]
        by_cases q1 : pSo (J 2) (vK (J 2) a) m = 2
        · have n3 : ¬ (pSo (J 2) (vK (J 2) a) m ≠ 2 ∧ bt (J 15 a) 1 = true) := fun z => z.1 q1
          rw [if_pos q1, if_neg n3]
          by_cases q4 : J 16 a &&& (cn (J 2) (vK (J 2) a) m ^^^ -1) = 0
          · rw [if_pos q4, if_pos q4]; cases bt (J 15 a) 0 <;> rfl
          · rw [if_neg q4, if_neg q4]; cases bt (J 15 a) 0 <;> rfl
        · rw [if_neg q1]
          cases q2 : bt (J 15 a) 1
          · have n3 : ¬ (pSo (J 2) (vK (J 2) a) m ≠ 2 ∧ false = true) := fun z => by cases z.2
            rw [if_neg n3]
            by_cases q4 : J 16 a &&& (cn (J 2) (vK (J 2) a) m ^^^ -1) = 0
            · rw [if_pos q4, if_pos q4]; cases bt (J 15 a) 0 <;> rfl
            · rw [if_neg q4, if_neg q4]; cases bt (J 15 a) 0 <;> rfl
          · rw [if_pos (show pSo (J 2) (vK (J 2) a) m ≠ 2 ∧ true = true from ⟨q1, rfl⟩)]
            cases bt (J 15 a) 0 <;> rfl
    · rw [show (9 : Int32) = nI 9 from rfl, if_neg (nI_nlt (by omega) (by omega)), rsS_9 (by omega)]
theorem m_whyAt {pl : Nat} (hA : WFA (J 2) D) (hpl : pl ≤ nT (J 2)) (g : GX (tX J pl)) (hfu : 6 < fu) : ∃ J', MX9_whyAt fu 0 (nI pl) (mkM J K) = some (rsn (J 2) pl (tX J pl), mkM J' K) ∧ frc J J' := by
  have h40 := hA.1.1.2.2.2
  obtain ⟨_, et, J1, rfl, f1, x1⟩ := m_takes (J := J) (K := K) (fu := fu) (t := pl) (by omega) hfu
  have e2 : J1 2 = J 2 := f1 2 (by omega)
  refine ⟨J1, ?_, f1⟩
  rw [m_why (by rw [e2]; exact hA) (by rw [e2]; exact hpl) (e24_GX x1 g).2.2.2.2.2 hfu et, e2, rsn_e24 hA hpl x1]
end Why
