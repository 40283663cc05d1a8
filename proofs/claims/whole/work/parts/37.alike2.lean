section Alike2
variable {sw : Bool} {I : Nat → Nat → Int32} {L : Nat → Nat → Int64} {J : Nat → Nat → Int32} {K : Nat → Nat → Int64} {p fu : Nat} {P : Nat → Int32}
theorem ix_66 {a b : Nat} : (6 : Int32) * nI a + nI b = nI (6 * a + b) := ix_met'
theorem m_differ {k a b : Nat} (hW : WFK (J 2)) (hk : k < nK (J 2)) (ha : a < nS (J 2) k) (hb : b < nS (J 2) k) (hfu : 6 < fu) :
    WP (MX9_differ fu 0 (nI k) (nI a) (nI b) (mkM J K)) (fun r => (r = 0 ∧ SE (J 2) k (fun s o => J 6 (6 * s + o) = 0) a b) ∨ (r = 1 ∧ ¬ SE (J 2) k (fun s o => J 6 (6 * s + o) = 0) a b)) := by
  have h4 := hW.1.1.2
  have hw := hW.2 k hk
  have h6 := hw.1.2.2
  have h7 := hw.2.2.1.2
  simp only [MX9_differ, m_g]
  rw [m_isEnd (by omega) (by omega), m_isEnd (by omega) (by omega), Option.bind_some, Option.bind_some]
  by_cases he : bt (pE (J 2) k) a = bt (pE (J 2) k) b
  · rw [if_pos (ite_eq.mpr he)]
    refine wh1_wp (fun r v => ∃ m, m + r = nM (J 2) k ∧ v = nI m ∧ ∀ m', m' < m → (pY (J 2) k m' a = -1 ↔ pY (J 2) k m' b = -1) ∧ (pY (J 2) k m' a ≠ -1 → J 6 (6 * nN (pY (J 2) k m' a) + nN (pY (J 2) k m' b)) = 0 ∧ J 6 (6 * nN (pN (J 2) k m' a) + nN (pN (J 2) k m' b)) = 0)) ?_ fu (nM (J 2) k) _ (by omega) ⟨0, by omega, rfl, fun m h => by omega⟩
    rintro r v self ⟨m, hm, rfl, g⟩ ih
    simp only [MX9_differ_B20, m_r1, m_r18, Option.bind_some, jn]
    rw [ix_c (show (11 : Int32) = nI 11 from rfl), m_ld2 (by omega), Option.bind_some, hw.2.2.1.1]
    by_cases hr : r = 0
    · subst hr
      rw [if_pos (nI_le (by omega) (by omega))]
      exact WP_some (Or.inl ⟨rfl, he, fun m' hm' => g m' (by omega)⟩)
    · have hm2 : m < nM (J 2) k := by omega
      rw [if_neg (nI_ge (by omega) (by omega)), m_canBe (by omega) (by omega) (by omega), m_canBe (by omega) (by omega) (by omega), m_yes (by omega) (by omega) (by omega), m_yes (by omega) (by omega) (by omega), m_no (by omega) (by omega) (by omega), m_no (by omega) (by omega) (by omega)]
      simp only [Option.bind_some]
      by_cases hya : pY (J 2) k m a = -1
      · by_cases hyb : pY (J 2) k m b = -1
        · rw [if_pos (by simp [hya, hyb]), if_pos (by simp [hya])]
          refine ih (r - 1) _ (by omega) ⟨m + 1, by omega, nI_1 m, fun m' hm' => ?_⟩
          by_cases e : m' = m
          · subst e; exact ⟨⟨fun _ => hyb, fun _ => hya⟩, fun q => absurd hya q⟩
          · exact g m' (by omega)
        · rw [if_neg (by simp [hya, hyb])]
          exact WP_some (Or.inr ⟨rfl, fun q => hyb ((q.2 m hm2).1.mp hya)⟩)
      · by_cases hyb : pY (J 2) k m b = -1
        · rw [if_neg (by simp [hya, hyb])]
          exact WP_some (Or.inr ⟨rfl, fun q => hya ((q.2 m hm2).1.mpr hyb)⟩)
        · obtain ⟨a1, a2, l1, l2, e1, e2, -⟩ := tr_of hW hk hm2 ha hya
          obtain ⟨b1, b2, l3, l4, e3, e4, -⟩ := tr_of hW hk hm2 hb hyb
          rw [if_pos (by simp [hya, hyb]), if_neg (by simp [hya]), e1, e2, e3, e4, ix_66, ix_66, m_ld6 (by omega), m_ld6 (by omega), Option.bind_some, Option.bind_some]
          have key : ∀ m', m' = m → (pY (J 2) k m' a ≠ -1 → J 6 (6 * nN (pY (J 2) k m' a) + nN (pY (J 2) k m' b)) = 0 ∧ J 6 (6 * nN (pN (J 2) k m' a) + nN (pN (J 2) k m' b)) = 0) → J 6 (6 * a1 + b1) = 0 ∧ J 6 (6 * a2 + b2) = 0 := by
            rintro _ rfl q
            have := q hya
            rw [e1, e2, e3, e4, nN_nI (by omega), nN_nI (by omega), nN_nI (by omega), nN_nI (by omega)] at this
            exact this
          by_cases x1 : J 6 (6 * a1 + b1) = 0
          · rw [if_pos x1]
            by_cases x2 : J 6 (6 * a2 + b2) = 0
            · rw [if_pos x2]
              refine ih (r - 1) _ (by omega) ⟨m + 1, by omega, nI_1 m, fun m' hm' => ?_⟩
              by_cases e : m' = m
              · subst e
                refine ⟨⟨fun q => absurd q hya, fun q => absurd q hyb⟩, fun _ => ?_⟩
                rw [e1, e2, e3, e4, nN_nI (by omega), nN_nI (by omega), nN_nI (by omega), nN_nI (by omega)]
                exact ⟨x1, x2⟩
              · exact g m' (by omega)
            · rw [if_neg x2]
              exact WP_some (Or.inr ⟨rfl, fun q => x2 (key m rfl (q.2 m hm2).2).2⟩)
          · rw [if_neg x1]
            exact WP_some (Or.inr ⟨rfl, fun q => x1 (key m rfl (q.2 m hm2).2).1⟩)
  · rw [if_neg (fun q => he (ite_eq.mp q))]
    exact WP_some (Or.inr ⟨rfl, fun q => he q.1⟩)
/-- how many pairs are held alike -/
def pc (R : Nat → Nat → Bool) : Nat := cnt 36 (fun i => R (i / 6) (i % 6))
theorem pc_le (R : Nat → Nat → Bool) : pc R ≤ 36 := cnt_le _ _
theorem pc_lt {R R' : Nat → Nat → Bool} {a b : Nat} (ha : a < 6) (hb : b < 6) (h1 : R a b = true) (h2 : R' a b = false) (h : ∀ s o, R' s o = true → R s o = true) : pc R' < pc R := by
  refine cnt_lt (t := 6 * a + b) (fun s _ q => h _ _ q) (by omega) ?_ ?_
  · show R' ((6 * a + b) / 6) ((6 * a + b) % 6) = false
    rw [show (6 * a + b) / 6 = a by omega, show (6 * a + b) % 6 = b by omega]; exact h2
  · show R ((6 * a + b) / 6) ((6 * a + b) % 6) = true
    rw [show (6 * a + b) / 6 = a by omega, show (6 * a + b) % 6 = b by omega]; exact h1
theorem pc_mono {R R' : Nat → Nat → Bool} (h : ∀ s o, R' s o = true → R s o = true) : pc R' ≤ pc R := cnt_mono (fun s _ q => h _ _ q)
/-- the state of a sweep: R0 before, R now, z whether something was parted, the pairs below (i, j) done -/
def SW (P : Nat → Int32) (k : Nat) (R0 R : Nat → Nat → Bool) (z : Int32) (i j : Nat) : Prop :=
  (∀ s o, s < nS P k → o < nS P k → Al P k s o → R s o = true) ∧ (∀ s o, R s o = true → R0 s o = true) ∧ ((z = 0 ∧ R = R0) ∨ (z = 1 ∧ pc R < pc R0)) ∧
  (z = 0 → ∀ s o, s < nS P k → o < nS P k → (s < i ∨ (s = i ∧ o < j)) → R s o = true → SE P k (fun s o => R s o = true) s o)
theorem SW_keep {k i j : Nat} {R0 R : Nat → Nat → Bool} {z : Int32} (h : SW P k R0 R z i j) (hij : R i j = true → SE P k (fun s o => R s o = true) i j) : SW P k R0 R z i (j + 1) := by
  refine ⟨h.1, h.2.1, h.2.2.1, fun hz s o hs ho q r => ?_⟩
  by_cases e : s = i ∧ o = j
  · obtain ⟨rfl, rfl⟩ := e; exact hij r
  · exact h.2.2.2 hz s o hs ho (by omega) r
theorem SW_part {k i j : Nat} {R0 R R' : Nat → Nat → Bool} {z : Int32} (hW : WFK P) (hk : k < nK P) (hi : i < nS P k) (hj : j < nS P k) (h : SW P k R0 R z i j) (h1 : R i j = true) (h2 : ¬ SE P k (fun s o => R s o = true) i j) (e : ∀ s o, s < 32 → o < 32 → R' s o = (R s o && !decide (s = i ∧ o = j))) (e2 : ∀ s o, R' s o = true → R s o = true) : SW P k R0 R' 1 i (j + 1) := by
  have h6 := (hW.2 k hk).1.2.2
  refine ⟨fun s o hs ho q => ?_, fun s o q => h.2.1 s o (e2 s o q), Or.inr ⟨rfl, ?_⟩, fun hz => by cases hz⟩
  · rw [e s o (by omega) (by omega), h.1 s o hs ho q, Bool.true_and]
    by_cases c : s = i ∧ o = j
    · obtain ⟨rfl, rfl⟩ := c
      exact absurd (SE_mono hW hk hi hj (fun a b ha hb q => h.1 a b ha hb q) (Al_SE hW hk hi hj q)) h2
    · simp [c]
  · have : pc R' < pc R := pc_lt (by omega) (by omega) h1 (by rw [e i j (by omega) (by omega)]; simp) e2
    rcases h.2.2.1 with ⟨-, rfl⟩ | ⟨-, q⟩
    · exact this
    · omega
theorem SW_row {k i : Nat} {R0 R : Nat → Nat → Bool} {z : Int32} (h : SW P k R0 R z i (nS P k)) : SW P k R0 R z (i + 1) 0 :=
  ⟨h.1, h.2.1, h.2.2.1, fun hz s o hs ho q r => h.2.2.2 hz s o hs ho (by omega) r⟩
theorem SW_end {k : Nat} {R0 R : Nat → Nat → Bool} (h : SW P k R0 R 0 (nS P k) 0) : ∀ s o, s < nS P k → o < nS P k → (R s o = true ↔ Al P k s o) :=
  fun s o hs ho => ⟨fun r => ⟨fun s o => R s o = true, fun a b ha hb r => h.2.2.2 rfl a b ha hb (by omega) r, r⟩, h.1 s o hs ho⟩
theorem SW_0 {k : Nat} {R0 : Nat → Nat → Bool} (h : ∀ s o, s < nS P k → o < nS P k → Al P k s o → R0 s o = true) : SW P k R0 R0 0 0 0 :=
  ⟨h, fun _ _ q => q, Or.inl ⟨rfl, rfl⟩, fun _ s o _ _ q => by omega⟩
end Alike2
