section EndsR2
variable {J : Nat → Nat → Int32} {K : Nat → Nat → Int64} {fu : Nat}
theorem m_isEnd {k s : Nat} (hk : k < 4) (hs : s < 32) : MX9_isEnd 0 (nI k) (nI s) (mkM J K) = some (if bt (pE (J 2) k) s then 1 else 0) := by
  simp only [MX9_isEnd, m_g, m_r1, Option.bind_some]
  rw [ix_c (show (7 : Int32) = nI 7 from rfl), m_ld2 (by omega), Option.bind_some, b_has hs, Option.bind_some, h_z_ite, Option.bind_some]
theorem m_lay3 {k r s : Nat} {Q : Hp → Prop} {j14 : Hp → Option Hp} {f0 : Nat → Int32} (hW : WFK (J 2)) (hk : k < nK (J 2)) (hs : s < nS (J 2) k) (hfu : 6 < fu) (h0 : ∀ t, t < nS (J 2) k → EW (J 2) k r t (f0 t))
    (hj : ∀ f, (∀ t, t ≠ s → f t = f0 t) → EW (J 2) k (r + 1) s (f s) → WP (j14 (mkM (ur J 5 f) K)) Q) :
    WP (wh2 (MX9_laysEnds_B72 0 (nI k) j14 (nI s)) fu (0 : Int32) (mkM (ur J 5 f0) K)) Q := by
  have h4 := hW.1.1.2
  have hw := hW.2 k hk
  have h6 := hw.1.2.2
  have h7 := hw.2.2.1.2
  refine wh2_wp (fun q v h => ∃ m f, m + q = nM (J 2) k ∧ v = nI m ∧ h = mkM (ur J 5 f) K ∧ (∀ t, t ≠ s → f t = f0 t) ∧ EWm (J 2) k r s m (f s)) ?_ fu (nM (J 2) k) _ _ (by omega) ⟨0, f0, by omega, rfl, rfl, fun t _ => rfl, EWm_0 (h0 s hs)⟩
  rintro q v h self ⟨m, f, hq, rfl, rfl, g1, g2⟩ ih
  have e2 : ur J 5 f 2 = J 2 := ur_ne (by decide)
  simp only [MX9_laysEnds_B72, m_r1, m_r17, Option.bind_some]
  rw [ix_c (show (11 : Int32) = nI 11 from rfl), m_ld2 (by omega), Option.bind_some, e2, hw.2.2.1.1]
  by_cases hq0 : q = 0
  · subst hq0
    rw [if_pos (nI_le (by omega) (by omega))]
    refine hj f g1 (EWm_end ?_)
    rw [show nM (J 2) k = m by omega]
    exact g2
  · have hm : m < nM (J 2) k := by omega
    rw [if_neg (nI_ge (by omega) (by omega)), m_ld5 (by omega), Option.bind_some, m_leastOf hW hk hm hs, Option.bind_some, m_st5 (by omega), Option.bind_some, ur_ur, ur_at]
    refine ih (q - 1) _ _ (by omega) ⟨m + 1, _, by omega, nI_1 m, rfl, fun t ht => by rw [up_ne ht]; exact g1 t ht, ?_⟩
    rw [up_at]
    refine EWm_step hW hk hm hs (fun t ht => ?_) g2
    by_cases hts : t = s
    · subst hts; exact EWm_EW g2
    · rw [g1 t hts]; exact h0 t ht
theorem m_lay2 {k r : Nat} {Q : Hp → Prop} {j7 : Hp → Option Hp} {f0 : Nat → Int32} (hW : WFK (J 2)) (hk : k < nK (J 2)) (hfu : 6 < fu) (h0 : ∀ t, t < nS (J 2) k → EW (J 2) k r t (f0 t))
    (hj : ∀ f, (∀ t, t < nS (J 2) k → EW (J 2) k (r + 1) t (f t)) → WP (j7 (mkM (ur J 5 f) K)) Q) :
    WP (wh2 (MX9_laysEnds_B57 fu 0 (nI k) j7) fu (0 : Int32) (mkM (ur J 5 f0) K)) Q := by
  have h4 := hW.1.1.2
  have hw := hW.2 k hk
  have h6 := hw.1.2.2
  refine wh2_wp (fun q v h => ∃ s f, s + q = nS (J 2) k ∧ v = nI s ∧ h = mkM (ur J 5 f) K ∧ (∀ t, t < s → EW (J 2) k (r + 1) t (f t)) ∧ ∀ t, t < nS (J 2) k → EW (J 2) k r t (f t)) ?_ fu (nS (J 2) k) _ _ (by omega) ⟨0, f0, by omega, rfl, rfl, fun t ht => by omega, h0⟩
  rintro q v h self ⟨s, f, hq, rfl, rfl, g1, g2⟩ ih
  have e2 : ur J 5 f 2 = J 2 := ur_ne (by decide)
  simp only [MX9_laysEnds_B57, m_r1, Option.bind_some, jn]
  rw [ix_c (show (3 : Int32) = nI 3 from rfl), m_ld2 (by omega), Option.bind_some, e2, hw.1.1]
  by_cases hq0 : q = 0
  · subst hq0
    rw [if_pos (nI_le (by omega) (by omega))]
    exact hj f (fun t ht => g1 t (by omega))
  · have hs : s < nS (J 2) k := by omega
    rw [if_neg (nI_ge (by omega) (by omega))]
    refine m_lay3 hW hk hs hfu g2 (fun f' k1 k2 => ih (q - 1) _ _ (by omega) ⟨s + 1, f', by omega, nI_1 s, rfl, ?_, ?_⟩)
    · intro t ht
      by_cases hts : t = s
      · subst hts; exact k2
      · rw [k1 t hts]; exact g1 t (by omega)
    · intro t ht
      by_cases hts : t = s
      · subst hts; exact EW_le k2 (by omega)
      · rw [k1 t hts]; exact g2 t ht
theorem m_lays {k : Nat} (hW : WFK (J 2)) (hk : k < nK (J 2)) (hfu : 6 < fu) : WP (MX9_laysEnds fu 0 (nI k) (mkM J K)) (fun h => ∃ f, h = mkM (ur J 5 f) K ∧ ∀ t, t < nS (J 2) k → EW (J 2) k 6 t (f t)) := by
  have h4 := hW.1.1.2
  have hw := hW.2 k hk
  have h6 := hw.1.2.2
  simp only [MX9_laysEnds, m_g, jn]
  refine wh2_wp (fun q v h => ∃ s f, s + q = 6 ∧ v = nI s ∧ h = mkM (ur J 5 f) K ∧ (∀ t, t < s → t < nS (J 2) k → EW (J 2) k 0 t (f t))) ?_ fu 6 _ _ (by omega) ⟨0, J 5, by omega, rfl, by rw [ur_self], fun t ht => by omega⟩
  rintro q v h self ⟨s, f, hq, rfl, rfl, g1⟩ ih
  have e2 : ur J 5 f 2 = J 2 := ur_ne (by decide)
  simp only [MX9_laysEnds_B2, m_r1, m_r17, Option.bind_some, jn]
  rw [show (6 : Int32) = nI 6 from rfl]
  by_cases hq0 : q = 0
  · subst hq0
    rw [if_pos (nI_le (by omega) (by omega))]
    refine wh2_wp (fun q v h => ∃ r f, r + q = 6 ∧ v = nI r ∧ h = mkM (ur J 5 f) K ∧ (∀ t, t < nS (J 2) k → EW (J 2) k r t (f t))) ?_ fu 6 _ _ (by omega) ⟨0, f, by omega, rfl, rfl, fun t ht => g1 t (by omega) ht⟩
    rintro q v h self ⟨r, f, hr, rfl, rfl, g⟩ ih
    simp only [MX9_laysEnds_B49, jn]
    rw [show (6 : Int32) = nI 6 from rfl]
    by_cases hq0 : q = 0
    · subst hq0
      rw [if_pos (nI_le (by omega) (by omega))]
      exact WP_some ⟨f, rfl, by rw [show (6 : Nat) = r by omega]; exact g⟩
    · rw [if_neg (nI_ge (by omega) (by omega))]
      exact m_lay2 hW hk hfu g (fun f' g' => ih (q - 1) _ _ (by omega) ⟨r + 1, f', by omega, nI_1 r, rfl, g'⟩)
  · have nx : ∀ x, (s < nS (J 2) k → EW (J 2) k 0 s x) → WP ((h_stI (mkM (ur J 5 f) K) 5 (nI s) x).bind fun h32 => self (nI s + 1) h32) (fun h => ∃ f, h = mkM (ur J 5 f) K ∧ ∀ t, t < nS (J 2) k → EW (J 2) k 6 t (f t)) := by
      intro x hx
      rw [m_st5 (by omega), Option.bind_some, ur_ur, ur_at]
      refine ih (q - 1) _ _ (by omega) ⟨s + 1, _, by omega, nI_1 s, rfl, fun t ht hS => ?_⟩
      by_cases hts : t = s
      · subst hts
        rw [up_at]
        exact hx hS
      · rw [up_ne hts]
        exact g1 t (by omega) hS
    rw [if_neg (nI_ge (by omega) (by omega)), ix_c (show (3 : Int32) = nI 3 from rfl), m_ld2 (by omega), Option.bind_some, m_isEnd (by omega) (by omega), Option.bind_some, e2, hw.1.1]
    by_cases hS : nS (J 2) k ≤ s
    · rw [if_pos (by rw [i_le, n_i (by omega), n_i (by omega)]; omega)]
      exact nx _ (fun h => by omega)
    · rw [if_neg (nI_ge (by omega) (by omega))]
      cases hb : bt (pE (J 2) k) s
      · rw [if_pos (by decide)]
        refine nx _ (fun _ => ⟨99, by omega, rfl, fun h => by omega, fun n hn q => ?_⟩)
        obtain rfl : n = 0 := by omega
        rw [show rb (J 2) k 0 s = bt (pE (J 2) k) s from rfl, hb] at q
        cases q
      · rw [if_pos rfl, if_neg (by decide)]
        exact nx _ (fun _ => ⟨0, by omega, rfl, fun _ => hb, fun n hn q => by omega⟩)
end EndsR2
