/-! THE REFERENCE'S ROWS: h, st, ma, mu of the place in hand; how, states, may, must of all places -/
def cX (J : Nat → Nat → Int32) (j : Nat) : Int32 := if j < 6 then J 15 j else if j < 12 then J 16 (j - 6) else if j < 18 then J 17 (j - 12) else J 18 (j - 18)
def tX (J : Nat → Nat → Int32) (t j : Nat) : Int32 := if j < 6 then J 11 (6 * t + j) else if j < 12 then J 12 (6 * t + (j - 6)) else if j < 18 then J 13 (6 * t + (j - 12)) else if j < 24 then J 14 (6 * t + (j - 18)) else 0
def frc (J J' : Nat → Nat → Int32) : Prop := ∀ b, b < 15 ∨ 18 < b → J' b = J b
theorem e24_of {X Y : Nat → Int32} (h : ∀ v, v < 6 → X v = Y v) (s : ∀ v, v < 6 → X (6 + v) = Y (6 + v)) (m : ∀ v, v < 6 → X (12 + v) = Y (12 + v)) (u : ∀ v, v < 6 → X (18 + v) = Y (18 + v)) : e24 X Y := by
  intro j hj
  by_cases c : j < 6
  · exact h j c
  · by_cases c2 : j < 12
    · have := s (j - 6) (by omega)
      rw [show 6 + (j - 6) = j by omega] at this
      exact this
    · by_cases c3 : j < 18
      · have := m (j - 12) (by omega)
        rw [show 12 + (j - 12) = j by omega] at this
        exact this
      · have := u (j - 18) (by omega)
        rw [show 18 + (j - 18) = j by omega] at this
        exact this
section RefRow
variable {J J' : Nat → Nat → Int32} {K : Nat → Nat → Int64} {fu a b v : Nat} {D : Nat → Nat}
theorem cX_h (hv : v < 6) : cX J v = J 15 v := if_pos hv
theorem cX_s (hv : v < 6) : cX J (6 + v) = J 16 v := by unfold cX; rw [if_neg (by omega), if_pos (by omega), show 6 + v - 6 = v by omega]
theorem cX_m (hv : v < 6) : cX J (12 + v) = J 17 v := by unfold cX; rw [if_neg (by omega), if_neg (by omega), if_pos (by omega), show 12 + v - 12 = v by omega]
theorem cX_u : cX J (18 + v) = J 18 v := by unfold cX; rw [if_neg (by omega), if_neg (by omega), if_neg (by omega), show 18 + v - 18 = v by omega]
theorem tX_h {t : Nat} (hv : v < 6) : tX J t v = J 11 (6 * t + v) := if_pos hv
theorem tX_s {t : Nat} (hv : v < 6) : tX J t (6 + v) = J 12 (6 * t + v) := by unfold tX; rw [if_neg (by omega), if_pos (by omega), show 6 + v - 6 = v by omega]
theorem tX_m {t : Nat} (hv : v < 6) : tX J t (12 + v) = J 13 (6 * t + v) := by unfold tX; rw [if_neg (by omega), if_neg (by omega), if_pos (by omega), show 12 + v - 12 = v by omega]
theorem tX_u {t : Nat} (hv : v < 6) : tX J t (18 + v) = J 14 (6 * t + v) := by unfold tX; rw [if_neg (by omega), if_neg (by omega), if_neg (by omega), if_pos (by omega), show 18 + v - 18 = v by omega]
theorem frc_trans {J2 : Nat → Nat → Int32} (h : frc J J') (h2 : frc J' J2) : frc J J2 := fun b hb => (h2 b hb).trans (h b hb)
theorem m_frees (hv : v < 6) (hfu : 6 < fu) : WP (MX9_frees fu 0 (nI v) (mkM J K)) (fun h => ∃ f g, h = mkM (ur (ur J 17 f) 18 g) K ∧ ∀ j, j < 6 → f j = fre (cX J) v (12 + j) ∧ g j = fre (cX J) v (18 + j)) := by
  simp only [MX9_frees, m_g, jn]
  refine wh2_wp (fun r n h => ∃ w f g, w + r = 6 ∧ n = nI w ∧ h = mkM (ur (ur J 17 f) 18 g) K ∧ ∀ j, j < 6 → f j = (if j < w then J 17 j &&& (b1 v ^^^ -1) else J 17 j) ∧ g j = (if j < w then J 18 j &&& (b1 v ^^^ -1) else J 18 j)) ?_ fu 6 _ _ (by omega) ⟨0, J 17, J 18, by omega, rfl, by rw [ur_self (a := 17), ur_self], fun j hj => by rw [if_neg (by omega), if_neg (by omega)]; exact ⟨rfl, rfl⟩⟩
  rintro r n h self ⟨w, f, g, hw, rfl, rfl, q⟩ ih
  have e17 : ∀ f g : Nat → Int32, ur (ur J 17 f) 18 g 17 = f := fun f g => by rw [ur_ne (by decide), ur_at]
  have e18 : ∀ f g : Nat → Int32, ur (ur J 17 f) 18 g 18 = g := fun f g => ur_at
  have w17 : ∀ f g f' : Nat → Int32, ur (ur (ur J 17 f) 18 g) 17 f' = ur (ur J 17 f') 18 g := fun f g f' => by
    funext b; unfold ur; by_cases c : b = 17 <;> by_cases c2 : b = 18 <;> simp [c, c2]
  simp only [MX9_frees_B2, m_r29, m_r30, Option.bind_some]
  rw [show (6 : Int32) = nI 6 from rfl]
  by_cases hr : r = 0
  · subst hr
    rw [if_pos (nI_le (by omega) (by omega)), m_st17 (by omega), Option.bind_some, m_r30, Option.bind_some, m_st18 (by omega), Option.bind_some, w17, ur_ur, e17, e18]
    refine WP_some ⟨_, _, rfl, fun j hj => ?_⟩
    obtain ⟨q1, q2⟩ := q j hj
    unfold fre
    by_cases c : j = v
    · rw [c, up_at, up_at, if_pos (Or.inl rfl), if_pos (Or.inr rfl)]
      exact ⟨rfl, rfl⟩
    · rw [if_pos (show j < w by omega)] at q1 q2
      rw [up_ne c, up_ne c, q1, q2, if_neg (by omega), if_pos (by omega), if_neg (by omega), if_pos (by omega), cX_m hj, cX_u]
      exact ⟨rfl, rfl⟩
  · obtain ⟨q1, q2⟩ := q w (by omega)
    rw [if_neg (by omega)] at q1 q2
    rw [if_neg (nI_ge (by omega) (by omega)), m_ld17 (by omega), Option.bind_some, m_st17 (by omega), Option.bind_some, m_r30, Option.bind_some, m_ld18 (by omega), Option.bind_some, m_st18 (by omega), Option.bind_some, w17, ur_ur, e17, e18, q1, q2]
    refine ih (r - 1) _ _ (by omega) ⟨w + 1, _, _, by omega, nI_1 w, rfl, fun j hj => ?_⟩
    by_cases c : j = w
    · rw [c, up_at, up_at, if_pos (by omega), if_pos (by omega)]
      exact ⟨rfl, rfl⟩
    · obtain ⟨q1, q2⟩ := q j hj
      rw [up_ne c, up_ne c, q1, q2]
      by_cases c2 : j < w
      · rw [if_pos c2, if_pos c2, if_pos (by omega), if_pos (by omega)]; exact ⟨rfl, rfl⟩
      · rw [if_neg c2, if_neg c2, if_neg (by omega), if_neg (by omega)]; exact ⟨rfl, rfl⟩
theorem m_empties (hv : v < 6) (hfu : 6 < fu) : WP (MX9_empties fu 0 (nI v) (mkM J K)) (fun h => ∃ J', h = mkM J' K ∧ frc J J' ∧ e24 (cX J') (emp (cX J) v)) := by
  simp only [MX9_empties, m_g]
  obtain ⟨_, e, f, g, rfl, q⟩ := m_frees (J := J) (K := K) (fu := fu) hv hfu
  rw [e, Option.bind_some, m_r27, Option.bind_some, m_st15 (by omega), Option.bind_some, m_r28, Option.bind_some, m_st16 (by omega), Option.bind_some]
  refine WP_some ⟨_, rfl, fun b hb => by rw [ur_ne (by omega), ur_ne (by omega), ur_ne (by omega), ur_ne (by omega)], e24_of (fun u hu => ?_) (fun u hu => ?_) (fun u hu => ?_) (fun u hu => ?_)⟩
  · rw [cX_h hu, emp_h hu, ur_ne (by decide), ur_at]
    by_cases c : u = v
    · rw [if_pos c, c, up_at]
    · rw [if_neg c, up_ne c, ur_ne (by decide), ur_ne (by decide), cX_h hu]
  · rw [cX_s hu, emp_s hu hv, ur_at]
    by_cases c : u = v
    · rw [if_pos c, c, up_at]
    · rw [if_neg c, up_ne c, ur_ne (by decide), ur_ne (by decide), ur_ne (by decide), cX_s hu]
  · rw [cX_m hu, ur_ne (by decide), ur_ne (by decide), ur_ne (by decide), ur_at, (q u hu).1, emp_r (by omega) (by omega)]
  · rw [cX_u, ur_ne (by decide), ur_ne (by decide), ur_at, (q u hu).2, emp_r (by omega) (by omega)]
theorem m_joins {z : Bool} (ha : a < 6) (hb : b < 6) (ne : a ≠ b) (hfu : 6 < fu) : WP (MX9_joins fu 0 (nI a) (nI b) (if z then 1 else 0) (mkM J K)) (fun h => ∃ J', h = mkM J' K ∧ frc J J' ∧ e24 (cX J') (joi (cX J) a b z)) := by
  simp only [MX9_joins, m_g, jn]
  obtain ⟨_, e, f, g, rfl, q⟩ := m_frees (J := J) (K := K) (fu := fu) ha hfu
  rw [e, Option.bind_some, m_r29, Option.bind_some, m_ld17 (by omega), Option.bind_some]
  have e17 : ∀ f g : Nat → Int32, ur (ur J 17 f) 18 g 17 = f := fun f g => by rw [ur_ne (by decide), ur_at]
  have e18 : ∀ f g : Nat → Int32, ur (ur J 17 f) 18 g 18 = g := fun f g => ur_at
  have w17 : ∀ f g f' : Nat → Int32, ur (ur (ur J 17 f) 18 g) 17 f' = ur (ur J 17 f') 18 g := fun f g f' => by
    funext b; unfold ur; by_cases c : b = 17 <;> by_cases c2 : b = 18 <;> simp [c, c2]
  have A12 : fre (cX J) a (12 + b) ||| (if z then b1 b else 0) = jA (cX J) a b 12 z := rfl
  have A18 : fre (cX J) a (18 + b) ||| (if z then b1 b else 0) = jA (cX J) a b 18 z := rfl
  -- from here on, with both sets of a laid
  have rest : ∀ f2 g2 : Nat → Int32, (∀ j, j < 6 → f2 j = if j = a then jA (cX J) a b 12 z else fre (cX J) a (12 + j)) → (∀ j, j < 6 → g2 j = if j = a then jA (cX J) a b 18 z else fre (cX J) a (18 + j)) →
      WP (wh2 (MX9_joins_B56 (fun h12 => (h_fR 9 h12 0 28).bind fun x14 => (h_ldI h12 x14 (nI b)).bind fun x15 => (h_stI h12 x14 (nI a) x15).bind fun h16 => some h16) 0 (nI a)) fu (0 : Int32) (mkM (ur (ur J 17 f2) 18 g2) K)) (fun h => ∃ J', h = mkM J' K ∧ frc J J' ∧ e24 (cX J') (joi (cX J) a b z)) := by
    intro f2 g2 hf2 hg2
    have nA : ∀ c, c = 12 ∨ c = 18 → bt (jA (cX J) a b c z) a = false := by
      rintro c (rfl | rfl)
      · unfold jA; rw [b_or, fre_m ha hb, bz (by omega)]; simp [ne]
      · unfold jA; rw [b_or, fre_u ha hb, bz (by omega)]; simp [ne]
    refine wh2_wp (fun r n h => ∃ w f3 g3, w + r = 6 ∧ n = nI w ∧ h = mkM (ur (ur J 17 f3) 18 g3) K ∧ ∀ j, j < 6 → f3 j = (if j < w ∨ j = a then joi (cX J) a b z (12 + j) else fre (cX J) a (12 + j)) ∧ g3 j = (if j < w ∨ j = a then joi (cX J) a b z (18 + j) else fre (cX J) a (18 + j))) ?_ fu 6 _ _ (by omega) ⟨0, f2, g2, by omega, rfl, rfl, fun j hj => ?_⟩
    · rintro r n h self ⟨w, f3, g3, hw, rfl, rfl, q⟩ ih
      simp only [MX9_joins_B56, m_r29, m_r30, Option.bind_some, jn]
      rw [show (6 : Int32) = nI 6 from rfl]
      by_cases hr : r = 0
      · subst hr
        rw [if_pos (nI_le (by omega) (by omega)), m_r28, Option.bind_some, m_ld16 (by omega), Option.bind_some, m_st16 (by omega), Option.bind_some]
        refine WP_some ⟨_, rfl, fun b hb => by rw [ur_ne (by omega), ur_ne (by omega), ur_ne (by omega)], e24_of (fun u hu => ?_) (fun u hu => ?_) (fun u hu => ?_) (fun u hu => ?_)⟩
        · rw [cX_h hu, joi_h hu, ur_ne (by decide), ur_ne (by decide), ur_ne (by decide), cX_h hu]
        · rw [cX_s hu, joi_s hu, ur_at, ur_ne (by decide), ur_ne (by decide)]
          by_cases c : u = a
          · rw [if_pos c, c, up_at, cX_s hb]
          · rw [if_neg c, up_ne c, cX_s hu]
        · rw [cX_m hu, ur_ne (by decide), e17, (q u hu).1, if_pos (Or.inl (by omega))]
        · rw [cX_u, ur_ne (by decide), e18, (q u hu).2, if_pos (Or.inl (by omega))]
      · obtain ⟨qa1, qa2⟩ := q a ha
        rw [if_pos (Or.inr rfl)] at qa1 qa2
        have ja1 : joi (cX J) a b z (12 + a) = jA (cX J) a b 12 z := by unfold joi; rw [if_neg (by omega), if_pos rfl]
        have ja2 : joi (cX J) a b z (18 + a) = jA (cX J) a b 18 z := by unfold joi; rw [if_neg (by omega), if_neg (by omega), if_pos rfl]
        rw [if_neg (nI_ge (by omega) (by omega)), m_ld17 (by omega), Option.bind_some, e17, qa1, ja1, b_has (by omega), Option.bind_some]
        have next : ∀ f4 : Nat → Int32, (∀ j, j < 6 → f4 j = if j < w + 1 ∨ j = a then joi (cX J) a b z (12 + j) else fre (cX J) a (12 + j)) → WP ((h_fR 9 (mkM (ur (ur J 17 f4) 18 g3) K) 0 30).bind fun x25 => (h_ldI (mkM (ur (ur J 17 f4) 18 g3) K) x25 (nI a)).bind fun x26 => (MX9_has x26 (nI w)).bind fun x27 => if x27 = 0 then self (nI w + 1) (mkM (ur (ur J 17 f4) 18 g3) K) else (h_ldI (mkM (ur (ur J 17 f4) 18 g3) K) x25 (nI w)).bind fun x30 => (h_stI (mkM (ur (ur J 17 f4) 18 g3) K) x25 (nI w) (x30 ||| ((1 : Int32) <<< (nI a &&& 31)))).bind fun h31 => self (nI w + 1) h31) (fun h => ∃ J', h = mkM J' K ∧ frc J J' ∧ e24 (cX J') (joi (cX J) a b z)) := by
          intro f4 hf4
          rw [m_r30, Option.bind_some, m_ld18 (by omega), Option.bind_some, e18, qa2, ja2, b_has (by omega), Option.bind_some]
          have fin : ∀ g4 : Nat → Int32, (∀ j, j < 6 → g4 j = if j < w + 1 ∨ j = a then joi (cX J) a b z (18 + j) else fre (cX J) a (18 + j)) → WP (self (nI w + 1) (mkM (ur (ur J 17 f4) 18 g4) K)) (fun h => ∃ J', h = mkM J' K ∧ frc J J' ∧ e24 (cX J') (joi (cX J) a b z)) := fun g4 hg4 => ih (r - 1) _ _ (by omega) ⟨w + 1, f4, g4, by omega, nI_1 w, rfl, fun j hj => ⟨hf4 j hj, hg4 j hj⟩⟩
          have jw : w ≠ a → joi (cX J) a b z (18 + w) = if bt (jA (cX J) a b 18 z) w then fre (cX J) a (18 + w) ||| b1 a else fre (cX J) a (18 + w) := by
            intro c
            unfold joi
            rw [if_neg (by omega), if_neg (by omega), if_neg (by omega), if_pos (by omega), show 18 + w - 18 = w by omega]
          cases hb2 : bt (jA (cX J) a b 18 z) w
          · rw [if_pos (by decide)]
            refine fin g3 (fun j hj => ?_)
            rw [(q j hj).2]
            by_cases c : j = w
            · subst c
              by_cases c2 : j = a
              · rw [if_pos (Or.inr c2), if_pos (Or.inr c2)]
              · rw [if_neg (by omega), if_pos (Or.inl (by omega)), jw c2, hb2]; rfl
            · by_cases c2 : j < w ∨ j = a
              · rw [if_pos c2, if_pos (by omega)]
              · rw [if_neg c2, if_neg (by omega)]
          · have c0 : w ≠ a := by rintro rfl; rw [nA 18 (Or.inr rfl)] at hb2; cases hb2
            rw [if_neg (by decide), m_ld18 (by omega), Option.bind_some, m_st18 (by omega), Option.bind_some, ur_ur, e18]
            refine fin _ (fun j hj => ?_)
            by_cases c : j = w
            · subst c
              rw [up_at, (q j hj).2, if_neg (by omega), if_pos (Or.inl (by omega)), jw c0, hb2]; rfl
            · rw [up_ne c, (q j hj).2]
              by_cases c2 : j < w ∨ j = a
              · rw [if_pos c2, if_pos (by omega)]
              · rw [if_neg c2, if_neg (by omega)]
        have jw : w ≠ a → joi (cX J) a b z (12 + w) = if bt (jA (cX J) a b 12 z) w then fre (cX J) a (12 + w) ||| b1 a else fre (cX J) a (12 + w) := by
          intro c
          unfold joi
          rw [if_neg (by omega), if_neg (by omega), if_neg (by omega), if_neg (by omega), if_pos (by omega), show 12 + w - 12 = w by omega]
        cases hb2 : bt (jA (cX J) a b 12 z) w
        · rw [if_pos (by decide)]
          refine next f3 (fun j hj => ?_)
          rw [(q j hj).1]
          by_cases c : j = w
          · subst c
            by_cases c2 : j = a
            · rw [if_pos (Or.inr c2), if_pos (Or.inr c2)]
            · rw [if_neg (by omega), if_pos (Or.inl (by omega)), jw c2, hb2]; rfl
          · by_cases c2 : j < w ∨ j = a
            · rw [if_pos c2, if_pos (by omega)]
            · rw [if_neg c2, if_neg (by omega)]
        · have c0 : w ≠ a := by rintro rfl; rw [nA 12 (Or.inl rfl)] at hb2; cases hb2
          rw [if_neg (by decide), m_ld17 (by omega), Option.bind_some, m_st17 (by omega), Option.bind_some, w17, e17]
          refine next _ (fun j hj => ?_)
          by_cases c : j = w
          · subst c
            rw [up_at, (q j hj).1, if_neg (by omega), if_pos (Or.inl (by omega)), jw c0, hb2]; rfl
          · rw [up_ne c, (q j hj).1]
            by_cases c2 : j < w ∨ j = a
            · rw [if_pos c2, if_pos (by omega)]
            · rw [if_neg c2, if_neg (by omega)]
    · rw [hf2 j hj, hg2 j hj]
      by_cases c : j = a
      · rw [if_pos c, if_pos c, if_pos (Or.inr c), if_pos (Or.inr c), c]
        unfold joi
        rw [if_neg (by omega), if_pos rfl, if_neg (by omega), if_neg (by omega), if_pos rfl]
        exact ⟨rfl, rfl⟩
      · rw [if_neg c, if_neg c, if_neg (by omega), if_neg (by omega)]
        exact ⟨rfl, rfl⟩
  rw [e17, (q b hb).1]
  have zz : ∀ (A B : Option Hp), (if (if z = true then (1 : Int32) else 0) = 0 then A else B) = if z = true then B else A := by
    intro A B
    cases z <;> rfl
  rw [zz]
  have both : ∀ w : Int32, w = (if z = true then b1 b else 0) → WP ((h_stI (mkM (ur (ur J 17 f) 18 g) K) 17 (nI a) (fre (cX J) a (12 + b) ||| w)).bind fun h6 => (h_fR 9 h6 0 30).bind fun x7 => (h_ldI h6 x7 (nI b)).bind fun x8 => if (if z = true then (1 : Int32) else 0) = 0 then (h_stI h6 x7 (nI a) (x8 ||| 0)).bind fun h11 => wh2 (MX9_joins_B56 (fun h12 => (h_fR 9 h12 0 28).bind fun x14 => (h_ldI h12 x14 (nI b)).bind fun x15 => (h_stI h12 x14 (nI a) x15).bind fun h16 => some h16) 0 (nI a)) fu 0 h11 else (h_stI h6 x7 (nI a) (x8 ||| ((1 : Int32) <<< (nI b &&& 31)))).bind fun h11 => wh2 (MX9_joins_B56 (fun h12 => (h_fR 9 h12 0 28).bind fun x14 => (h_ldI h12 x14 (nI b)).bind fun x15 => (h_stI h12 x14 (nI a) x15).bind fun h16 => some h16) 0 (nI a)) fu 0 h11) (fun h => ∃ J', h = mkM J' K ∧ frc J J' ∧ e24 (cX J') (joi (cX J) a b z)) := by
    intro w hw
    rw [m_st17 (by omega), Option.bind_some, m_r30, Option.bind_some, m_ld18 (by omega), Option.bind_some, w17, e17, e18, (q b hb).2, zz]
    have last : ∀ w2 : Int32, w2 = (if z = true then b1 b else 0) → WP ((h_stI (mkM (ur (ur J 17 (up f a (fre (cX J) a (12 + b) ||| w))) 18 g) K) 18 (nI a) (fre (cX J) a (18 + b) ||| w2)).bind fun h11 => wh2 (MX9_joins_B56 (fun h12 => (h_fR 9 h12 0 28).bind fun x14 => (h_ldI h12 x14 (nI b)).bind fun x15 => (h_stI h12 x14 (nI a) x15).bind fun h16 => some h16) 0 (nI a)) fu 0 h11) (fun h => ∃ J', h = mkM J' K ∧ frc J J' ∧ e24 (cX J') (joi (cX J) a b z)) := by
      intro w2 hw2
      rw [m_st18 (by omega), Option.bind_some, ur_ur, e18]
      refine rest _ _ (fun j hj => ?_) (fun j hj => ?_)
      · by_cases c : j = a
        · rw [c, up_at, if_pos rfl, hw, A12]
        · rw [up_ne c, if_neg c, (q j hj).1]
      · by_cases c : j = a
        · rw [c, up_at, if_pos rfl, hw2, A18]
        · rw [up_ne c, if_neg c, (q j hj).2]
    cases z
    · exact last 0 rfl
    · exact last (b1 b) rfl
  cases z
  · exact both 0 rfl
  · exact both (b1 b) rfl
end RefRow
