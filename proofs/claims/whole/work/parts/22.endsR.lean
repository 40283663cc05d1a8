section EndsR
variable {J : Nat → Nat → Int32} {K : Nat → Nat → Int64} {fu : Nat}
theorem jmin_nI {a b : Nat} (ha : a < 2 ^ 31) (hb : b < 2 ^ 31) : jmin (nI a) (nI b) = nI (min a b) := by
  unfold jmin
  by_cases h : nI b < nI a
  · rw [if_pos h]
    rw [i_lt, n_i ha, n_i hb] at h
    rw [Nat.min_eq_right (by omega)]
  · rw [if_neg h]
    rw [i_lt, n_i ha, n_i hb] at h
    rw [Nat.min_eq_left (by omega)]
theorem m_leastOf {k m s : Nat} {f : Nat → Int32} (hW : WFK (J 2)) (hk : k < nK (J 2)) (hm : m < nM (J 2) k) (hs : s < nS (J 2) k) : MX9_leastOf 0 (nI k) (nI m) (nI s) (mkM (ur J 5 f) K) = some (if pY (J 2) k m s = -1 then 99 else if pSo (J 2) k m = 2 then 99 else jmin (f (nN (pY (J 2) k m s))) (f (nN (pN (J 2) k m s))) + 1) := by
  have h4 := hW.1.1.2
  have hw := hW.2 k hk
  have h6 := hw.1.2.2
  have h7 := hw.2.2.1.2
  have e2 : ur J 5 f 2 = J 2 := ur_ne (by decide)
  simp only [MX9_leastOf, MX9_methodAt, m_g, m_r1, m_r17, jn, m_canBe (show k < 4 by omega) (show m < 6 by omega) (show s < 6 by omega), m_yes (show k < 4 by omega) (show m < 6 by omega) (show s < 6 by omega), m_no (show k < 4 by omega) (show m < 6 by omega) (show s < 6 by omega), Option.bind_some, e2]
  by_cases hy : pY (J 2) k m s = -1
  · simp only [hy, if_true]
  · obtain ⟨a, b, ha, hb, e3, e4, -⟩ := tr_of hW hk hm hs hy
    rw [if_neg hy, if_neg hy, if_neg (by decide)]
    rw [show (15 : Int32) = nI 15 from rfl, show (6 : Int32) = nI 6 from rfl, pk_mul, nI_add, nI_add, m_ld2 (by omega), Option.bind_some, e2, e3, e4, m_ld5 (show a < 6 by omega), m_ld5 (show b < 6 by omega), Option.bind_some, Option.bind_some, ur_at, nN_nI (by omega), nN_nI (by omega)]
    rw [show 15 + (6 * k + m) = 15 + 6 * k + m by omega]
    by_cases hz : pSo (J 2) k m = 2
    · rw [if_pos hz, if_pos hz]
    · rw [if_neg hz, if_neg hz]
/-- what the reference's row says after r rounds -/
def EW (P : Nat → Int32) (k r s : Nat) (x : Int32) : Prop := ∃ v, v ≤ 99 ∧ x = nI v ∧ (v < 99 → rb P k v s = true) ∧ ∀ n, n ≤ r → rb P k n s = true → v ≤ n
/-- .. and in the midst of a round, with m methods looked at -/
def EWm (P : Nat → Int32) (k r s m : Nat) (x : Int32) : Prop := ∃ v, v ≤ 99 ∧ x = nI v ∧ (v < 99 → rb P k v s = true) ∧ (∀ n, n ≤ r → rb P k n s = true → v ≤ n) ∧
  ∀ m', m' < m → pY P k m' s ≠ -1 → ∀ n, n ≤ r → (rb P k n (nN (pY P k m' s)) = true ∨ rb P k n (nN (pN P k m' s)) = true) → v ≤ n + 1
theorem EW_le {P : Nat → Int32} {k r r' s : Nat} {x : Int32} (h : EW P k r s x) (hr : r' ≤ r) : EW P k r' s x := by
  obtain ⟨v, h1, h2, h3, h4⟩ := h
  exact ⟨v, h1, h2, h3, fun n hn => h4 n (by omega)⟩
theorem EWm_0 {P : Nat → Int32} {k r s : Nat} {x : Int32} (h : EW P k r s x) : EWm P k r s 0 x := by
  obtain ⟨v, h1, h2, h3, h4⟩ := h
  exact ⟨v, h1, h2, h3, h4, fun m' hm => by omega⟩
theorem EWm_EW {P : Nat → Int32} {k r s m : Nat} {x : Int32} (h : EWm P k r s m x) : EW P k r s x := by
  obtain ⟨v, h1, h2, h3, h4, h5⟩ := h
  exact ⟨v, h1, h2, h3, h4⟩
theorem EWm_end {P : Nat → Int32} {k r s : Nat} {x : Int32} (h : EWm P k r s (nM P k) x) : EW P k (r + 1) s x := by
  obtain ⟨v, h1, h2, h3, h4, h5⟩ := h
  refine ⟨v, h1, h2, h3, fun n hn hb => ?_⟩
  cases n with
  | zero => exact h4 0 (by omega) hb
  | succ n =>
    rcases rb_succ.mp hb with q | ⟨m, hm, hy, q⟩
    · exact Nat.le_succ_of_le (h4 n (by omega) q)
    · exact h5 m hm hy n (by omega) q
theorem EWm_step {P : Nat → Int32} {k r s m : Nat} {f : Nat → Int32} (hW : WFK P) (hk : k < nK P) (hm : m < nM P k) (hs : s < nS P k) (hf : ∀ t, t < nS P k → EW P k r t (f t)) (h : EWm P k r s m (f s)) :
    EWm P k r s (m + 1) (jmin (f s) (if pY P k m s = -1 then 99 else if pSo P k m = 2 then 99 else jmin (f (nN (pY P k m s))) (f (nN (pN P k m s))) + 1)) := by
  have h6 := (hW.2 k hk).1.2.2
  obtain ⟨v, h1, h2, h3, h4, h5⟩ := h
  have idle : ∀ x, x = nI 99 → (pY P k m s ≠ -1 → ∀ n, n ≤ r → (rb P k n (nN (pY P k m s)) = true ∨ rb P k n (nN (pN P k m s)) = true) → v ≤ n + 1) → EWm P k r s (m + 1) (jmin (f s) x) := by
    intro x hx hh
    refine ⟨v, h1, ?_, h3, h4, ?_⟩
    · rw [h2, hx, jmin_nI (by omega) (by omega), Nat.min_eq_left h1]
    · intro m' hm' hy
      by_cases e : m' = m
      · subst e; exact hh hy
      · exact h5 m' (by omega) hy
  by_cases hy : pY P k m s = -1
  · rw [if_pos hy]
    exact idle _ rfl (fun h => absurd hy h)
  · obtain ⟨a, b, ha, hb, e1, e2, ea, es⟩ := tr_of hW hk hm hs hy
    rw [if_neg hy]
    by_cases hz : pSo P k m = 2
    · rw [if_pos hz]
      refine idle _ rfl ?_
      intro _ n hn q
      have e3 : a = b := ea (by rw [hz]; decide)
      have e4 := es hz
      rw [e1, e2, ← e3, e4, nN_nI (by omega)] at q
      exact Nat.le_succ_of_le (h4 n hn (q.elim id id))
    · rw [if_neg hz, e1, e2, nN_nI (by omega), nN_nI (by omega)]
      obtain ⟨x, x1, x2, x3, x4⟩ := hf a ha
      obtain ⟨y, y1, y2, y3, y4⟩ := hf b hb
      rw [x2, y2, h2, jmin_nI (by omega) (by omega), nI_1, jmin_nI (by omega) (by omega)]
      refine ⟨_, by omega, rfl, ?_, ?_, ?_⟩
      · intro hlt
        by_cases c : v ≤ min x y + 1
        · rw [Nat.min_eq_left c] at hlt ⊢
          exact h3 hlt
        · rw [Nat.min_eq_right (by omega)] at hlt ⊢
          refine rb_succ.mpr (Or.inr ⟨m, hm, hy, ?_⟩)
          rw [e1, e2, nN_nI (by omega), nN_nI (by omega)]
          by_cases d : x ≤ y
          · rw [Nat.min_eq_left d] at hlt ⊢
            exact Or.inl (x3 (by omega))
          · rw [Nat.min_eq_right (by omega)] at hlt ⊢
            exact Or.inr (y3 (by omega))
      · intro n hn q
        have := h4 n hn q
        omega
      · intro m' hm' hy' n hn q
        by_cases e : m' = m
        · subst e
          rw [e1, e2, nN_nI (by omega), nN_nI (by omega)] at q
          rcases q with q | q
          · have := x4 n hn q
            omega
          · have := y4 n hn q
            omega
        · have := h5 m' (by omega) hy' n hn q
          omega
end EndsR
