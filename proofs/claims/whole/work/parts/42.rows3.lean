section Rows3
variable {sw : Bool} {I : Nat → Nat → Int32} {L : Nat → Nat → Int64} {J : Nat → Nat → Int32} {K : Nat → Nat → Int64} {p fu : Nat} {P : Nat → Int32}
theorem m_round {k : Nat} {w : Nat → Nat} {Q : Int32 × Hp → Prop} {F : Hp → Option (Int32 × Hp)} (hW : WFK (J 2)) (hk : k < nK (J 2)) (hfu : 6 < fu) (hw : ∀ s, s < 6 → K 7 s = lN (w s)) (hl : ∀ s, w s < MD)
    (hj : ∀ K', (∀ t, t < 6 → K' 7 t = lN (stepW (J 2) k w t)) → WP (F (mkM J K')) Q) :
    WP (wh2 (MX9_rows_B75 (fun h25 => wh2 (MX9_rows_B99 fu 0 (nI k) (fun h27 => wh2 (MX9_rows_B257 F 0) fu (0 : Int32) h27)) fu (0 : Int32) h25) 0) fu (0 : Int32) (mkM J K)) Q := by
  refine wh2_wp (fun r v h => ∃ i g, i + r = 6 ∧ v = nI i ∧ h = mkM J (ur K 8 g) ∧ ∀ t, t < i → g t = 0) ?_ fu 6 _ _ (by omega) ⟨0, K 8, by omega, rfl, by rw [ur_self], fun t ht => by omega⟩
  rintro r v h self ⟨i, g, hi, rfl, rfl, g1⟩ ih
  simp only [MX9_rows_B75, m_r20, Option.bind_some, show (6 : Int32) = nI 6 from rfl]
  by_cases hr : r = 0
  · subst hr
    rw [if_pos (nI_le (by omega) (by omega))]
    clear ih
    refine m_len2 hW hk hfu hw hl (fun t ht => g1 t (by omega)) (fun g g1 => ?_)
    refine wh2_wp (fun r v h => ∃ i f, i + r = 6 ∧ v = nI i ∧ h = mkM J (ur (ur K 8 g) 7 f) ∧ ∀ t, t < i → f t = lN (stepW (J 2) k w t)) ?_ fu 6 _ _ (by omega) ⟨0, K 7, by omega, rfl, ?_, fun t ht => by omega⟩
    · rintro r v h self ⟨i, f, hi, rfl, rfl, g2⟩ ih
      simp only [MX9_rows_B257, m_r19, m_r20, Option.bind_some, show (6 : Int32) = nI 6 from rfl]
      by_cases hr : r = 0
      · subst hr
        rw [if_pos (nI_le (by omega) (by omega))]
        exact hj _ (fun t ht => by rw [ur_at]; exact g2 t (by omega))
      · rw [if_neg (nI_ge (by omega) (by omega)), m_ld8 (by omega), Option.bind_some, m_st7 (by omega), Option.bind_some, ur_ur, ur_at]
        refine ih (r - 1) _ _ (by omega) ⟨i + 1, _, by omega, nI_1 i, rfl, fun t ht => ?_⟩
        unfold up
        by_cases e : t = i
        · rw [if_pos e, e, ur_ne (by decide), ur_at, g1 i (by omega)]
        · rw [if_neg e]; exact g2 t (by omega)
    · rw [show K 7 = ur K 8 g 7 from (ur_ne (by decide)).symm, ur_self]
  · rw [if_neg (nI_ge (by omega) (by omega)), m_st8 (by omega), Option.bind_some, ur_ur, ur_at]
    refine ih (r - 1) _ _ (by omega) ⟨i + 1, _, by omega, nI_1 i, rfl, fun t ht => ?_⟩
    unfold up
    by_cases e : t = i
    · rw [if_pos e]
    · rw [if_neg e]; exact g1 t (by omega)
theorem m_count {k n : Nat} {e : Int32} (hW : WFK (J 2)) (hk : k < nK (J 2)) (hn : n < 13) (hfu : 13 < fu) :
    WP (wh2 (MX9_rows_B33 (fun h3 => wh2 (MX9_rows_B66 fu (nI n) (fun h5 => wh2 (MX9_rows_B296 h5 0 (nI k) (fun v7 => (h_reml v7 (1000000007 : Int64)).bind fun x9 => (MX9_gives 0 x9.toInt32 h5).bind fun p10 => some (p10.1, p10.2)) e) fu (0 : Int64) (0 : Int32)) 0 (nI k)) fu (0 : Int32) h3) 0) fu (0 : Int32) (mkM J K)) (fun r => ∃ K', r = (rowsN (J 2) k n e, mkM (ur J 0 (up (J 0) 5 0)) K')) := by
  have h4 := hW.1.1.2
  have hW2 := hW.2 k hk
  have h6 := hW2.1.2.2
  refine wh2_wp (fun r v h => ∃ i K, i + r = 6 ∧ v = nI i ∧ h = mkM J K ∧ ∀ t, t < i → K 7 t = lN (wn (J 2) k 0 t)) ?_ fu 6 _ _ (by omega) ⟨0, K, by omega, rfl, rfl, fun t ht => by omega⟩
  rintro r v h self ⟨i, K, hi, rfl, rfl, g1⟩ ih
  simp only [MX9_rows_B33, m_r19, Option.bind_some, jn, show (6 : Int32) = nI 6 from rfl]
  by_cases hr : r = 0
  · subst hr
    rw [if_pos (nI_le (by omega) (by omega))]
    clear ih
    refine wh2_wp (fun r v h => ∃ i K, i + r = n ∧ v = nI i ∧ h = mkM J K ∧ ∀ t, t < 6 → K 7 t = lN (wn (J 2) k i t)) ?_ fu n _ _ (by omega) ⟨0, K, by omega, rfl, rfl, fun t ht => g1 t (by omega)⟩
    rintro r v h self ⟨i, K, hi, rfl, rfl, g1⟩ ih
    simp only [MX9_rows_B66, jn]
    by_cases hr : r = 0
    · subst hr
      obtain rfl : i = n := by omega
      rw [if_pos (nI_le (by omega) (by omega))]
      clear ih
      refine wh2_wp (fun r x v => ∃ s, s + r = nS (J 2) k ∧ v = nI s ∧ x = lN (sm s (ew (J 2) k e (wn (J 2) k i)))) ?_ fu (nS (J 2) k) _ _ (by omega) ⟨0, by omega, rfl, rfl⟩
      rintro r x v self ⟨s, hs, rfl, rfl⟩ ih
      simp only [MX9_rows_B296, m_r1, m_r19, Option.bind_some, jn]
      rw [ix_c (show (3 : Int32) = nI 3 from rfl), m_ld2 (by omega), Option.bind_some, hW2.1.1]
      by_cases hr : r = 0
      · subst hr
        rw [if_pos (nI_le (by omega) (by omega)), show s = nS (J 2) k by omega, rem_l (Nat.lt_trans (ew_lt h6) (by decide)), Option.bind_some, lN_i, m_gives, Option.bind_some]
        exact WP_some ⟨K, rfl⟩
      · have e2 : sm (s + 1) (ew (J 2) k e (wn (J 2) k i)) = sm s (ew (J 2) k e (wn (J 2) k i)) + ew (J 2) k e (wn (J 2) k i) s := rfl
        rw [if_neg (nI_ge (by omega) (by omega)), m_ld7 (by omega), Option.bind_some, g1 s (by omega), m_isEnd (by omega) (by omega), Option.bind_some, lN_add]
        have yes : (e = 0 ∨ bt (pE (J 2) k) s = true) → WP (self (lN (sm s (ew (J 2) k e (wn (J 2) k i)) + wn (J 2) k i s)) (nI s + 1)) (fun r => ∃ K', r = (rowsN (J 2) k i e, mkM (ur J 0 (up (J 0) 5 0)) K')) := by
          intro c
          refine ih (r - 1) _ _ (by omega) ⟨s + 1, by omega, nI_1 s, ?_⟩
          rw [e2, show ew (J 2) k e (wn (J 2) k i) s = wn (J 2) k i s from if_pos c]
        by_cases c : e = 0
        · rw [if_pos c]
          exact yes (Or.inl c)
        · rw [if_neg c]
          cases hb : bt (pE (J 2) k) s
          · rw [if_pos (by decide), show (0 : Int64) = lN 0 from rfl, lN_add]
            refine ih (r - 1) _ _ (by omega) ⟨s + 1, by omega, nI_1 s, ?_⟩
            rw [e2, show ew (J 2) k e (wn (J 2) k i) s = 0 from if_neg (by rintro (q | q); exact c q; rw [hb] at q; cases q)]
          · rw [if_neg (by decide)]
            exact yes (Or.inr hb)
    · rw [if_neg (nI_ge (by omega) (by omega))]
      exact m_round hW hk (by omega) g1 (wn_lt (J 2) k i) (fun K' g2 => ih (r - 1) _ _ (by omega) ⟨i + 1, K', by omega, nI_1 i, rfl, g2⟩)
  · rw [if_neg (nI_ge (by omega) (by omega)), m_st7 (by omega), m_st7 (by omega), Option.bind_some, Option.bind_some]
    have key : ∀ x : Int64, x = lN (wn (J 2) k 0 i) → ∀ t, t < i + 1 → ur K 7 (up (K 7) i x) 7 t = lN (wn (J 2) k 0 t) := by
      intro x hx t ht
      rw [ur_at]
      unfold up
      by_cases e : t = i
      · rw [if_pos e, e, hx]
      · rw [if_neg e]; exact g1 t (by omega)
    by_cases c : nI i = 0
    · rw [if_pos c]
      have c' : i = 0 := nI_inj (b := 0) (by omega) (by omega) c
      exact ih (r - 1) _ _ (by omega) ⟨i + 1, _, by omega, nI_1 i, rfl, key 1 (by rw [c']; rfl)⟩
    · rw [if_neg c]
      exact ih (r - 1) _ _ (by omega) ⟨i + 1, _, by omega, nI_1 i, rfl, key 0 (by show _ = lN (if i = 0 then 1 else 0); rw [if_neg (fun q => c (by rw [q]; rfl))]; rfl)⟩
theorem sc_rows {a b e : Int32} (hW : WFK (J 2)) (hR : CRk (pid sw) I (J 2)) (hfu : 13 < fu) : SC (MX8_rows fu 0 a b e (mkC sw I L)) (MX9_rows fu 0 a b e (mkM J K)) sw I L J := by
  have h4 := hW.1.1.2
  have hq := isP_K (pid_P (sw := sw))
  have hk0 : I (pid sw + 1) 0 = nI (nK (J 2)) := hR.1.trans hW.1.1.1
  simp only [MX8_rows, MX9_rows, c_hasKind hq hk0 (show nK (J 2) < 2 ^ 31 by omega), m_isKind (K := K) hW.1.1.1 (show nK (J 2) < 2 ^ 30 by omega), c8_g, m_g, c8_pg, c4_r0 pid_P, Option.bind_some, c_refuse, m_refuse, jn]
  rw [isFrom_c (y := 12) (n := 12) rfl (by decide), Option.bind_some, rng_le (y := 12) (n := 12) rfl (by decide)]
  simp only [ite0]
  by_cases hc : inR b 13 = true
  · by_cases h : inR a (nK (J 2)) = true
    · obtain ⟨k, hk, rfl⟩ := inR_of (by omega) h
      obtain ⟨n, hn, rfl⟩ := inR_of (by omega) hc
      simp only [hc, h, if_true, Bool.true_eq_false, if_false]
      obtain ⟨_, x1, f, g, rfl⟩ := c_count (sw := sw) (I := I) (L := L) (fu := fu) (e := e) pid_P hR hW hk hn hfu
      obtain ⟨_, y1, K', rfl⟩ := m_count (J := J) (K := K) (fu := fu) (e := e) hW hk hn hfu
      rw [x1, y1, Option.bind_some, c_answer, Option.bind_some]
      refine ⟨_, _, _, _, J, _, rfl, rfl, fun b hb => ⟨rfl, ?_⟩, ⟨rfl, rfl⟩, fun _ _ => rfl⟩
      have e1 : b ≠ pid sw + 11 := by rintro rfl; apply hb; unfold scC; rcases (pid_P (sw := sw)) with h | h <;> rw [h] <;> omega
      have e2 : b ≠ pid sw + 12 := by rintro rfl; apply hb; unfold scC; rcases (pid_P (sw := sw)) with h | h <;> rw [h] <;> omega
      rw [ur_ne e1, ur_ne e2]
    · have h : inR a (nK (J 2)) = false := by simpa using h
      simp only [hc, h, if_true, Bool.true_eq_false, if_false]
      exact ⟨-1, 2, I, L, J, K, rfl, rfl, fun _ _ => ⟨rfl, rfl⟩, ⟨rfl, rfl⟩, fun _ _ => rfl⟩
  · have hc : inR b 13 = false := by simpa using hc
    simp only [hc, if_true, Bool.false_eq_true, if_false]
    exact ⟨-1, 1, I, L, J, K, rfl, rfl, fun _ _ => ⟨rfl, rfl⟩, ⟨rfl, rfl⟩, fun _ _ => rfl⟩
end Rows3
