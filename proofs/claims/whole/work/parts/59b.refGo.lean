section RefGo
variable {J J' : Nat → Nat → Int32} {K : Nat → Nat → Int64} {fu a b v i : Nat} {D : Nat → Nat}
theorem cX_up15 {x : Int32} (ha : a < 6) : e24 (cX (ur J 15 (up (J 15) a x))) (up (cX J) a x) := by
  refine e24_of (fun u hu => ?_) (fun u hu => ?_) (fun u hu => ?_) (fun u hu => ?_)
  · rw [cX_h hu, ur_at]
    by_cases c : u = a
    · rw [c, up_at, up_at]
    · rw [up_ne c, up_ne c, cX_h hu]
  · rw [cX_s hu, ur_ne (by decide), up_ne (by omega), cX_s hu]
  · rw [cX_m hu, ur_ne (by decide), up_ne (by omega), cX_m hu]
  · rw [cX_u, ur_ne (by decide), up_ne (by omega), cX_u]
theorem cX_up16 {x : Int32} (ha : a < 6) : e24 (cX (ur J 16 (up (J 16) a x))) (up (cX J) (6 + a) x) := by
  refine e24_of (fun u hu => ?_) (fun u hu => ?_) (fun u hu => ?_) (fun u hu => ?_)
  · rw [cX_h hu, ur_ne (by decide), up_ne (by omega), cX_h hu]
  · rw [cX_s hu, ur_at]
    by_cases c : u = a
    · rw [c, up_at, up_at]
    · rw [up_ne c, up_ne (by omega), cX_s hu]
  · rw [cX_m hu, ur_ne (by decide), up_ne (by omega), cX_m hu]
  · rw [cX_u, ur_ne (by decide), up_ne (by omega), cX_u]
theorem frc_ur {c : Nat} {f : Nat → Int32} (h : frc J J') (hc : 15 ≤ c ∧ c ≤ 18) : frc J (ur J' c f) := fun b hb => by rw [ur_ne (by omega)]; exact h b hb
theorem m_goes (hA : WFA (J 2) D) (hi : i < nT (J 2)) (h6 : nN (J 2 (333 + i)) < 6) (hfu : 6 < fu) : WP (MX9_goes fu 0 (nI i) (mkM J K)) (fun h => ∃ J', h = mkM J' K ∧ frc J J' ∧ e24 (cX J') (goS (nN (J 2 (333 + i))) (nN (J 2 (373 + i))) (nN (J 2 (413 + i))) (cX J))) := by
  have h40 := hA.1.1.2.2.2
  have hV := hA.1.1.2.1.2
  obtain ⟨so, h10, eso, es, o1, o2, o3⟩ := op_of hA.1 hA.2.1 hA.2.2 hi
  rw [es] at h6
  obtain ⟨la, ea⟩ := o1 (by omega)
  simp only [MX9_goes, m_g, m_r1, Option.bind_some]
  rw [ix_c (show (373 : Int32) = nI 373 from rfl), m_ld2 (by omega), Option.bind_some, ix_c (show (413 : Int32) = nI 413 from rfl), m_ld2 (by omega), Option.bind_some, m_sortAt (by omega), Option.bind_some, eso, nN_nI (by omega)]
  generalize hda : nN (J 2 (373 + i)) = a at *
  rw [ea]
  have emp1 := fun (J1 : Nat → Nat → Int32) (c : Nat) (hc : c < 6) => m_empties (J := J1) (K := K) (fu := fu) hc hfu
  rcases (show so = 0 ∨ so = 1 ∨ so = 2 ∨ so = 3 ∨ so = 4 ∨ so = 5 by omega) with rfl | rfl | rfl | rfl | rfl | rfl
  · rw [if_pos (show nI 0 = 0 from rfl)]
    obtain ⟨_, e, J1, rfl, f1, h1⟩ := emp1 J a (by omega)
    rw [e, Option.bind_some, m_r27, Option.bind_some, m_st15 (by omega), Option.bind_some, m_r28, Option.bind_some, m_st16 (by omega), Option.bind_some]
    refine WP_some ⟨_, rfl, frc_ur (frc_ur f1 (by decide)) (by decide), ?_⟩
    rw [goS_0]
    exact e24_trans (cX_up16 (by omega)) (up_e24 (e24_trans (cX_up15 (by omega)) (up_e24 h1 rfl)) rfl)
  · obtain ⟨lb, ne, eb⟩ := o2 (by omega) (by omega)
    generalize hdb : nN (J 2 (413 + i)) = b at *
    rw [eb, if_neg (by decide), if_pos (by decide)]
    obtain ⟨_, e, J1, rfl, f1, h1⟩ := m_joins (J := J) (K := K) (fu := fu) (a := a) (b := b) (z := false) (by omega) (by omega) (Ne.symm ne) hfu
    rw [show (if false = true then (1 : Int32) else 0) = 0 from rfl] at e
    rw [e, Option.bind_some, m_r27, Option.bind_some, m_ld15 (by omega), Option.bind_some, m_st15 (by omega), Option.bind_some]
    obtain ⟨_, e2, J2, rfl, f2, h2⟩ := emp1 (ur J1 15 (up (J1 15) a (J1 15 b))) b (by omega)
    rw [e2, Option.bind_some]
    refine WP_some ⟨J2, rfl, frc_trans (frc_ur f1 (by decide)) f2, ?_⟩
    rw [goS_1]
    refine e24_trans h2 (emp_e24 (e24_trans (cX_up15 (by omega)) (up_e24 h1 ?_)))
    have := h1 b (by omega)
    rw [cX_h (by omega), joi_h (by omega)] at this
    exact this
  · obtain ⟨lb, ne, eb⟩ := o2 (by omega) (by omega)
    generalize hdb : nN (J 2 (413 + i)) = b at *
    rw [eb, if_neg (by decide), if_neg (by decide), if_pos (by decide)]
    obtain ⟨_, e, J1, rfl, f1, h1⟩ := m_joins (J := J) (K := K) (fu := fu) (a := a) (b := b) (z := true) (by omega) (by omega) (Ne.symm ne) hfu
    rw [show (if true = true then (1 : Int32) else 0) = 1 from rfl] at e
    have hb : J1 15 b = cX J b := by
      have := h1 b (by omega)
      rw [cX_h (by omega), joi_h (by omega)] at this
      exact this
    rw [e, Option.bind_some, m_r27, Option.bind_some, m_ld15 (by omega), Option.bind_some, m_st15 (by omega), Option.bind_some, m_r27, Option.bind_some, m_ld15 (by omega), Option.bind_some, m_st15 (by omega), Option.bind_some, ur_at, up_at, hb]
    refine WP_some ⟨_, rfl, frc_ur (frc_ur f1 (by decide)) (by decide), ?_⟩
    rw [goS_2]
    have c1 := cX_up15 (J := ur J1 15 (up (J1 15) b (4 ||| (cX J b &&& 1)))) (a := a) (x := 4 ||| (cX J b &&& 1)) (by omega)
    rw [ur_at] at c1
    exact e24_trans c1 (up_e24 (e24_trans (cX_up15 (by omega)) (up_e24 h1 rfl)) rfl)
  · obtain ⟨lb, ne, eb⟩ := o2 (by omega) (by omega)
    generalize hdb : nN (J 2 (413 + i)) = b at *
    rw [eb, if_neg (by decide), if_neg (by decide), if_neg (by decide), if_pos (by decide)]
    obtain ⟨_, e, J1, rfl, f1, h1⟩ := m_joins (J := J) (K := K) (fu := fu) (a := a) (b := b) (z := true) (by omega) (by omega) (Ne.symm ne) hfu
    rw [show (if true = true then (1 : Int32) else 0) = 1 from rfl] at e
    have hb : J1 15 b = cX J b := by
      have := h1 b (by omega)
      rw [cX_h (by omega), joi_h (by omega)] at this
      exact this
    rw [e, Option.bind_some, m_r27, Option.bind_some, m_ld15 (by omega), Option.bind_some, m_st15 (by omega), Option.bind_some, m_r27, Option.bind_some, m_ld15 (by omega), Option.bind_some, ur_at, up_ne ne, hb, show (3 : Int32) = nI 3 from rfl, b_has (by omega), Option.bind_some]
    simp only [jn]
    have fin : ∀ y : Int32, y = (if bt (cX J b) 3 then (cX J b &&& 7) ||| 2 else cX J b) → WP ((h_stI (mkM (ur J1 15 (up (J1 15) a (2 ||| (cX J b &&& 1)))) K) 15 (nI b) y).bind fun h31 => some h31) (fun h => ∃ J', h = mkM J' K ∧ frc J J' ∧ e24 (cX J') (goS 3 a b (cX J))) := by
      intro y hy
      rw [m_st15 (by omega), Option.bind_some]
      refine WP_some ⟨_, rfl, frc_ur (frc_ur f1 (by decide)) (by decide), ?_⟩
      rw [goS_3]
      have c1 := cX_up15 (J := ur J1 15 (up (J1 15) a (2 ||| (cX J b &&& 1)))) (a := b) (x := y) (by omega)
      exact e24_trans c1 (up_e24 (e24_trans (cX_up15 (by omega)) (up_e24 h1 rfl)) hy)
    cases c : bt (cX J b) 3
    · rw [if_pos (by decide)]
      exact fin _ (by rw [c]; rfl)
    · rw [if_neg (by decide)]
      exact fin _ (by rw [c]; rfl)
  · obtain ⟨lb, ne, eb⟩ := o2 (by omega) (by omega)
    generalize hdb : nN (J 2 (413 + i)) = b at *
    rw [eb, if_neg (by decide), if_neg (by decide), if_neg (by decide), if_neg (by decide), if_pos (by decide)]
    obtain ⟨_, e, J1, rfl, f1, h1⟩ := emp1 J b (by omega)
    have h17 : J1 17 a = emp (cX J) b (12 + a) := by
      have := h1 (12 + a) (by omega)
      rw [cX_m (by omega)] at this
      exact this
    have h18 : J1 18 a = emp (cX J) b (18 + a) := by
      have := h1 (18 + a) (by omega)
      rw [cX_u] at this
      exact this
    have h15 : J1 15 a = cX J a := by
      have := h1 a (by omega)
      rw [cX_h (by omega), emp_h (by omega), if_neg (Ne.symm ne)] at this
      exact this
    rw [e, Option.bind_some, m_r27, Option.bind_some, m_r29, Option.bind_some, m_ld17 (by omega), Option.bind_some, m_r30]
    simp only [jn, Option.bind_some]
    rw [m_ld18 (by omega), m_ld15 (by omega)]
    simp only [Option.bind_some]
    rw [h17, h18, h15]
    have fin : ∀ y : Int32, y = (if emp (cX J) b (12 + a) = 0 then 8 else if emp (cX J) b (18 + a) = 0 then cX J a ||| 8 else cX J a) → WP ((h_stI (mkM J1 K) 15 (nI a) y).bind fun h38 => some h38) (fun h => ∃ J', h = mkM J' K ∧ frc J J' ∧ e24 (cX J') (goS 4 a b (cX J))) := by
      intro y hy
      rw [m_st15 (by omega), Option.bind_some]
      refine WP_some ⟨_, rfl, frc_ur f1 (by decide), ?_⟩
      rw [goS_4]
      exact e24_trans (cX_up15 (by omega)) (up_e24 h1 hy)
    by_cases c1 : emp (cX J) b (12 + a) = 0
    · rw [if_pos c1]
      exact fin 8 (by rw [if_pos c1])
    · rw [if_neg c1]
      by_cases c2 : emp (cX J) b (18 + a) = 0
      · rw [if_pos c2]
        exact fin _ (by rw [if_neg c1, if_pos c2])
      · rw [if_neg c2]
        exact fin _ (by rw [if_neg c1, if_neg c2])
  · rw [if_neg (by decide), if_neg (by decide), if_neg (by decide), if_neg (by decide), if_neg (by decide)]
    obtain ⟨_, e, J1, rfl, f1, h1⟩ := emp1 J a (by omega)
    rw [e, Option.bind_some]
    exact WP_some ⟨J1, rfl, f1, by rw [goS_5]; exact h1⟩
theorem m_imageOf {k m : Nat} {S z : Int32} (hW : WFK (J 2)) (hk : k < nK (J 2)) (hm : m < nM (J 2) k) (hfu : 6 < fu) : MX9_imageOf fu 0 (nI k) (nI m) S z (mkM J K) = some (im (J 2) k m z S) := by
  have h4 := hW.1.1.2
  have hw := hW.2 k hk
  have h6 := hw.1.2.2
  have h7 := hw.2.2.1.2
  simp only [MX9_imageOf, m_g]
  refine wh2_rule (fun r x n => ∃ s, s + r = nS (J 2) k ∧ n = nI s ∧ x = img (J 2) k m z S s) ?_ fu (nS (J 2) k) _ _ (by omega) ⟨0, by omega, rfl, rfl⟩
  rintro r x n self ⟨s, hs, rfl, rfl⟩ ih
  simp only [MX9_imageOf_B6, m_r1, Option.bind_some, jn]
  rw [ix_c (show (3 : Int32) = nI 3 from rfl), m_ld2 (by omega), Option.bind_some, hw.1.1]
  by_cases hr : r = 0
  · subst hr
    rw [if_pos (nI_le (by omega) (by omega))]
    unfold im
    rw [show nS (J 2) k = s by omega]
  · have hs2 : s < nS (J 2) k := by omega
    rw [if_neg (nI_ge (by omega) (by omega)), b_has (by omega), Option.bind_some, m_canBe (by omega) (by omega) (by omega), Option.bind_some, m_no (by omega) (by omega) (by omega), m_yes (by omega) (by omega) (by omega), Option.bind_some, Option.bind_some]
    have keep : ¬ (bt S s = true ∧ pY (J 2) k m s ≠ -1) → self (img (J 2) k m z S s) (nI s + 1) = some (im (J 2) k m z S) := by
      intro c
      refine ih (r - 1) _ _ (by omega) ⟨s + 1, by omega, nI_1 s, ?_⟩
      show _ = if _ then _ else _
      rw [if_neg c]
    cases hb : bt S s
    · rw [if_pos (by decide)]
      exact keep (fun q => by rw [hb] at q; cases q.1)
    · rw [if_neg (by decide)]
      by_cases hy : pY (J 2) k m s = -1
      · rw [if_pos (by rw [if_pos hy])]
        exact keep (fun q => q.2 hy)
      · rw [if_neg (by rw [if_neg hy]; decide)]
        obtain ⟨x1, x2, l1, l2, e1, e2, -⟩ := tr_of hW hk hm hs2 hy
        have fin : ∀ y : Int32, y = fol (J 2) k m s z → self (img (J 2) k m z S s ||| ((1 : Int32) <<< (y &&& 31))) (nI s + 1) = some (im (J 2) k m z S) := by
          intro y hy2
          refine ih (r - 1) _ _ (by omega) ⟨s + 1, by omega, nI_1 s, ?_⟩
          show _ = if _ then _ else _
          rw [if_pos ⟨hb, hy⟩, hy2]
          have : nI (nN (fol (J 2) k m s z)) = fol (J 2) k m s z := by
            unfold fol
            by_cases hz : z = 0
            · rw [if_pos hz, e2, nN_nI (by omega)]
            · rw [if_neg hz, e1, nN_nI (by omega)]
          unfold b1
          rw [this]
        by_cases hz : z = 0
        · rw [if_pos hz]
          exact fin _ (by unfold fol; rw [if_pos hz])
        · rw [if_neg hz]
          exact fin _ (by unfold fol; rw [if_neg hz])
theorem m_asks {z : Int32} (hA : WFA (J 2) D) (hi : i < nT (J 2)) (h6 : 6 ≤ nN (J 2 (333 + i))) (h8 : nN (J 2 (333 + i)) ≤ 8) (hfu : 6 < fu) : WP (MX9_asks fu 0 (nI i) z (mkM J K)) (fun r => ∃ J', r.2 = mkM J' K ∧ frc J J' ∧ ((r.1 = 0 ∧ tr (J 2) i z (cX J) = none) ∨ (r.1 = 1 ∧ tq (J 2) i z (cX J) (cX J')))) := by
  have h40 := hA.1.1.2.2.2
  have hV := hA.1.1.2.1.2
  have h4 := hA.1.1.1.2
  obtain ⟨so, h10, eso, es, o1, o2, o3⟩ := op_of hA.1 hA.2.1 hA.2.2 hi
  rw [es] at h6 h8
  obtain ⟨la, ea⟩ := o1 (by omega)
  obtain ⟨k1, k2, k3, -⟩ := o3 h6 h8
  have h7 := (hA.1.2 _ k1).2.2.1.2
  have trA : tr (J 2) i z (cX J) = if im (J 2) (vK (J 2) (nN (J 2 (373 + i)))) (nN (J 2 (453 + i))) z (cX J (6 + nN (J 2 (373 + i)))) = 0 then none else some (asS (J 2) (vK (J 2) (nN (J 2 (373 + i)))) (nN (J 2 (453 + i))) (nN (J 2 (373 + i))) z (cX J)) := by
    unfold tr
    rw [es, if_neg (by omega), if_pos (by omega)]
  simp only [MX9_asks, m_g, m_r1, m_r28, Option.bind_some, jn]
  rw [ix_c (show (373 : Int32) = nI 373 from rfl), m_ld2 (by omega), Option.bind_some, ix_c (show (453 : Int32) = nI 453 from rfl), m_ld2 (by omega)]
  generalize hda : nN (J 2 (373 + i)) = a at *
  generalize hdm : nN (J 2 (453 + i)) = m at *
  have ek : J 2 (327 + a) = nI (vK (J 2) a) := (hA.2.1 a la).1
  rw [ea, k3, ix_c (show (327 : Int32) = nI 327 from rfl), m_ld2 (by omega), Option.bind_some, Option.bind_some, ek, m_ld16 (by omega), Option.bind_some, m_imageOf hA.1 k1 k2 hfu, Option.bind_some]
  rw [cX_s (show a < 6 by omega)] at trA
  by_cases c0 : im (J 2) (vK (J 2) a) m z (J 16 a) = 0
  · rw [if_pos c0]
    exact WP_some ⟨J, rfl, fun _ _ => rfl, Or.inl ⟨rfl, by rw [trA, if_pos c0]⟩⟩
  · rw [if_neg c0]
    refine wh2_wp (fun r n h => ∃ w f, w + r = 6 ∧ n = nI w ∧ h = mkM (ur J 16 f) K ∧ ∀ j, j < 6 → f j = if j < w then (if j = a then J 16 j else asS (J 2) (vK (J 2) a) m a z (cX J) (6 + j)) else J 16 j) ?_ fu 6 _ _ (by omega) ⟨0, J 16, by omega, rfl, by rw [ur_self], fun j hj => by rw [if_neg (by omega)]⟩
    rintro r n h self ⟨w, f, hw, rfl, rfl, q⟩ ih
    have e2 : ∀ f : Nat → Int32, ur J 16 f 2 = J 2 := fun f => ur_ne (by decide)
    have e17 : ∀ f : Nat → Int32, ur J 16 f 17 = J 17 := fun f => ur_ne (by decide)
    have e18 : ∀ f : Nat → Int32, ur J 16 f 18 = J 18 := fun f => ur_ne (by decide)
    simp only [MX9_asks_B62, m_r28, m_r29, m_r30, Option.bind_some, jn]
    rw [show (6 : Int32) = nI 6 from rfl]
    by_cases hr : r = 0
    · subst hr
      rw [if_pos (nI_le (by omega) (by omega)), m_st16 (by omega), Option.bind_some, ur_ur, ur_at]
      refine WP_some ⟨_, rfl, fun b hb => ur_ne (by omega), Or.inr ⟨rfl, _, by rw [trA, if_neg c0], ?_⟩⟩
      have eo : ∀ j, j < 6 ∨ 12 ≤ j → asS (J 2) (vK (J 2) a) m a z (cX J) j = cX J j := fun j hj => by unfold asS; rw [if_neg (by omega), if_neg (by omega)]
      refine e24_of (fun u hu => ?_) (fun u hu => ?_) (fun u hu => ?_) (fun u hu => ?_)
      · rw [cX_h hu, ur_ne (by decide), eo u (by omega), cX_h hu]
      · rw [cX_s hu, ur_at]
        by_cases c : u = a
        · rw [c, up_at]
          unfold asS
          rw [if_pos rfl, cX_s (show a < 6 by omega)]
        · rw [up_ne c, q u hu, if_pos (by omega), if_neg c]
      · rw [cX_m hu, ur_ne (by decide), eo _ (by omega), cX_m hu]
      · rw [cX_u, ur_ne (by decide), eo _ (by omega), cX_u]
    · have qw : f w = J 16 w := by rw [q w (by omega), if_neg (by omega)]
      have step : ∀ f2 : Nat → Int32, (∀ j, j ≠ w → f2 j = f j) → f2 w = (if w = a then J 16 w else asS (J 2) (vK (J 2) a) m a z (cX J) (6 + w)) → WP (self (nI w + 1) (mkM (ur J 16 f2) K)) (fun r => ∃ J', r.2 = mkM J' K ∧ frc J J' ∧ ((r.1 = 0 ∧ tr (J 2) i z (cX J) = none) ∨ (r.1 = 1 ∧ tq (J 2) i z (cX J) (cX J')))) := by
        intro f2 h1 h2
        refine ih (r - 1) _ _ (by omega) ⟨w + 1, f2, by omega, nI_1 w, rfl, fun j hj => ?_⟩
        by_cases c : j = w
        · rw [c, h2, if_pos (show w < w + 1 by omega)]
        · rw [h1 j c, q j hj]
          by_cases c2 : j < w
          · rw [if_pos c2, if_pos (show j < w + 1 by omega)]
          · rw [if_neg c2, if_neg (show ¬ j < w + 1 by omega)]
      rw [if_neg (nI_ge (by omega) (by omega))]
      by_cases cw : w = a
      · rw [if_pos (by rw [cw])]
        exact step f (fun _ _ => rfl) (by rw [if_pos cw]; exact qw)
      · have asw : asS (J 2) (vK (J 2) a) m a z (cX J) (6 + w) = if bt (J 18 a) w then im (J 2) (vK (J 2) a) m z (J 16 a) else if bt (J 17 a) w then J 16 w ||| im (J 2) (vK (J 2) a) m z (J 16 w) else J 16 w := by
          unfold asS
          rw [if_neg (by omega), if_pos (by omega), show 6 + w - 6 = w by omega, cX_u, cX_m (show a < 6 by omega), cX_s (show a < 6 by omega), cX_s (show w < 6 by omega)]
        rw [if_neg (fun q => cw (nI_inj (by omega) (by omega) q)), m_ld18 (by omega), Option.bind_some, e18, b_has (by omega), Option.bind_some, m_ld17 (by omega), Option.bind_some, e17, b_has (by omega), Option.bind_some, m_ld16 (by omega), Option.bind_some, ur_at, qw]
        have im2 := m_imageOf (J := ur J 16 f) (K := K) (fu := fu) (k := vK (J 2) a) (m := m) (S := J 16 w) (z := z) (by rw [e2]; exact hA.1) (by rw [e2]; exact k1) (by rw [e2]; exact k2) hfu
        rw [e2] at im2
        rw [im2, Option.bind_some, m_st16 (by omega), m_st16 (by omega), Option.bind_some, Option.bind_some, ur_ur, ur_ur, ur_at]
        cases b18 : bt (J 18 a) w
        · rw [if_pos (by decide)]
          cases b17 : bt (J 17 a) w
          · rw [if_pos (by decide)]
            exact step f (fun _ _ => rfl) (by rw [if_neg cw, asw, b18, b17]; exact qw)
          · rw [if_neg (by decide)]
            exact step _ (fun j hj => up_ne hj) (by rw [up_at, if_neg cw, asw, b18, b17]; rfl)
        · rw [if_neg (by decide)]
          exact step _ (fun j hj => up_ne hj) (by rw [up_at, if_neg cw, asw, b18]; rfl)
theorem m_takes {t : Nat} (ht : t < 41) (hfu : 6 < fu) : WP (MX9_takes fu 0 (nI t) (mkM J K)) (fun h => ∃ J', h = mkM J' K ∧ frc J J' ∧ e24 (cX J') (tX J t)) := by
  simp only [MX9_takes, m_g]
  refine wh2_wp (fun r n h => ∃ w J', w + r = 6 ∧ n = nI w ∧ h = mkM J' K ∧ frc J J' ∧ ∀ v, v < w → J' 15 v = J 11 (6 * t + v) ∧ J' 16 v = J 12 (6 * t + v) ∧ J' 17 v = J 13 (6 * t + v) ∧ J' 18 v = J 14 (6 * t + v)) ?_ fu 6 _ _ (by omega) ⟨0, J, by omega, rfl, rfl, fun _ _ => rfl, fun v h => by omega⟩
  rintro r n h self ⟨w, J', hw, rfl, rfl, f1, q⟩ ih
  simp only [MX9_takes_B2, MX9_at, m_r23, m_r27, Option.bind_some, ix_66]
  rw [show (6 : Int32) = nI 6 from rfl]
  by_cases hr : r = 0
  · subst hr
    rw [if_pos (nI_le (by omega) (by omega))]
    refine WP_some ⟨J', rfl, f1, e24_of (fun u hu => ?_) (fun u hu => ?_) (fun u hu => ?_) (fun u hu => ?_)⟩
    · rw [cX_h hu, tX_h hu, (q u (by omega)).1]
    · rw [cX_s hu, tX_s hu, (q u (by omega)).2.1]
    · rw [cX_m hu, tX_m hu, (q u (by omega)).2.2.1]
    · rw [cX_u, tX_u hu, (q u (by omega)).2.2.2]
  · rw [if_neg (nI_ge (by omega) (by omega)), m_ld11 (by omega), Option.bind_some, m_st15 (by omega), Option.bind_some, m_r28, Option.bind_some, m_r24, Option.bind_some, m_ld12 (by omega), Option.bind_some, m_st16 (by omega), Option.bind_some, m_r29, Option.bind_some, m_r25, Option.bind_some, m_ld13 (by omega), Option.bind_some, m_st17 (by omega), Option.bind_some, m_r30, Option.bind_some, m_r26, Option.bind_some, m_ld14 (by omega), Option.bind_some, m_st18 (by omega), Option.bind_some]
    refine ih (r - 1) _ _ (by omega) ⟨w + 1, _, by omega, nI_1 w, rfl, frc_ur (frc_ur (frc_ur (frc_ur f1 (by decide)) (by decide)) (by decide)) (by decide), fun v hv => ?_⟩
    rw [ur_ne (show (15 : Nat) ≠ 18 by decide), ur_ne (show (15 : Nat) ≠ 17 by decide), ur_ne (show (15 : Nat) ≠ 16 by decide), ur_at, ur_ne (show (16 : Nat) ≠ 18 by decide), ur_ne (show (16 : Nat) ≠ 17 by decide), ur_at, ur_ne (show (17 : Nat) ≠ 18 by decide), ur_at, ur_at, ur_ne (show (12 : Nat) ≠ 15 by decide), ur_ne (show (16 : Nat) ≠ 15 by decide), ur_ne (show (13 : Nat) ≠ 16 by decide), ur_ne (show (13 : Nat) ≠ 15 by decide), ur_ne (show (17 : Nat) ≠ 16 by decide), ur_ne (show (17 : Nat) ≠ 15 by decide), ur_ne (show (14 : Nat) ≠ 17 by decide), ur_ne (show (14 : Nat) ≠ 16 by decide), ur_ne (show (14 : Nat) ≠ 15 by decide), ur_ne (show (18 : Nat) ≠ 17 by decide), ur_ne (show (18 : Nat) ≠ 16 by decide), ur_ne (show (18 : Nat) ≠ 15 by decide), f1 11 (by omega), f1 12 (by omega), f1 13 (by omega), f1 14 (by omega)]
    by_cases c : v = w
    · rw [c, up_at, up_at, up_at, up_at]; exact ⟨rfl, rfl, rfl, rfl⟩
    · rw [up_ne c, up_ne c, up_ne c, up_ne c]; exact q v (by omega)
end RefGo
