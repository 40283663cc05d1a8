/-- both answer alike with a status, and change nothing else but scratch: rows of longs too, and fields of the reference behind the eighth -/
def SC (x y : Option (Int32 × Hp)) (sw : Bool) (I : Nat → Nat → Int32) (L : Nat → Nat → Int64) (J : Nat → Nat → Int32) : Prop :=
  ∃ r z I' L' J' K', x = some (r, mkC sw (ur I' 0 (up (I' 0) 9 z)) L') ∧ y = some (r, mkM (ur J' 0 (up (J' 0) 5 z)) K') ∧ (∀ b, ¬ scC b → I' b = I b ∧ L' b = L b) ∧ (J' 1 = J 1 ∧ J' 2 = J 2) ∧ ∀ k, k < 8 ∨ k = 31 → J' 0 k = J 0 k
section Rows2
variable {sw : Bool} {I : Nat → Nat → Int32} {L : Nat → Nat → Int64} {J : Nat → Nat → Int32} {K : Nat → Nat → Int64} {p fu : Nat} {P : Nat → Int32}
theorem sb_sc {x y : Option (Int32 × Hp)} (h : SB x y sw I L J K) : SC x y sw I L J := by
  obtain ⟨r, z, I', J', h1, h2, h3, h4⟩ := h
  exact ⟨r, z, I', L, J', K, h1, h2, fun b hb => ⟨h3 b hb, rfl⟩, ⟨h4 1 (by decide), h4 2 (by decide)⟩, fun k _ => by rw [h4 0 (by decide)]⟩
/-- what is counted at the end -/
def ew (P : Nat → Int32) (k : Nat) (e : Int32) (w : Nat → Nat) (s : Nat) : Nat := if e = 0 ∨ bt (pE P k) s = true then w s else 0
def rowsN (P : Nat → Int32) (k n : Nat) (e : Int32) : Int32 := nI (sm (nS P k) (ew P k e (wn P k n)) % MD)
theorem ew_lt {k n : Nat} {e : Int32} (h6 : nS P k ≤ 6) : sm (nS P k) (ew P k e (wn P k n)) < 2 ^ 62 := by
  have : sm (nS P k) (ew P k e (wn P k n)) ≤ nS P k * MD := by
    refine sm_le (fun s _ => ?_)
    have := wn_lt P k n s
    unfold ew
    split <;> omega
  have h8 : nS P k * MD ≤ 6 * MD := Nat.mul_le_mul h6 (Nat.le_refl _)
  have : 6 * MD < 2 ^ 62 := by decide
  omega
theorem c_count {k n : Nat} {e : Int32} (hp : isP p) (hR : CRk p I P) (hW : WFK P) (hk : k < nK P) (hn : n < 13) (hfu : 13 < fu) :
    WP (MX2_countRows fu (p + 1) (nI k) (nI n) e (mkC sw I L)) (fun r => ∃ f g, r = (rowsN P k n e, mkC sw I (ur (ur L (p + 12) g) (p + 11) f))) := by
  have hq := isP_K hp
  have h4 := hW.1.1.2
  have hW2 := hW.2 k hk
  have h6 := hW2.1.2.2
  simp only [MX2_countRows, c2_g hq, c2_r10 hq, Option.bind_some, jn]
  rw [fillL (N := 6) (by rcases hp with rfl | rfl <;> rfl) (by decide) (by omega), Option.bind_some, rowL_C, c2_r10 hq, Option.bind_some, show (0 : Int32) = nI 0 from rfl, c2_st10 hq (by decide), Option.bind_some, show p + 1 + 10 = p + 11 from rfl, ur_ur, ur_at]
  refine wh2_wp (fun r v h => ∃ i f g, i + r = n ∧ v = nI i ∧ h = mkC sw I (ur (ur L (p + 12) g) (p + 11) f) ∧ ∀ t, t < 6 → f t = lN (wn P k i t)) ?_ fu n _ _ (by omega) ⟨0, up (fun j => if j < 6 then 0 else L (p + 11) j) 0 1, L (p + 12), by omega, rfl, by rw [ur_self (a := p + 12)]; rfl, fun t ht => ?_⟩
  · rintro r v h self ⟨i, f, g, hi, rfl, rfl, g1⟩ ih
    simp only [MX2_countRows_B18]
    by_cases hr : r = 0
    · subst hr
      obtain rfl : i = n := by omega
      rw [if_pos (nI_le (by omega) (by omega))]
      clear ih
      refine wh2_wp (fun r x v => ∃ s, s + r = nS P k ∧ v = nI s ∧ x = lN (sm s (ew P k e (wn P k i)))) ?_ fu (nS P k) _ _ (by omega) ⟨0, by omega, rfl, rfl⟩
      rintro r x v self ⟨s, hs, rfl, rfl⟩ ih
      simp only [MX2_countRows_B41, c2_r1 hq, c2_r2 hq, c2_r10 hq, Option.bind_some, jn]
      rw [c2_ld1 hq (show k < 4 by omega), Option.bind_some, show p + 1 + 1 = p + 2 from rfl, (hR.2 k hk).1, hW2.1.1]
      by_cases hr : r = 0
      · subst hr
        rw [if_pos (nI_le (by omega) (by omega)), show s = nS P k by omega, rem_l (Nat.lt_trans (ew_lt h6) (by decide)), Option.bind_some, lN_i]
        exact WP_some ⟨f, g, rfl⟩
      · have e2 : sm (s + 1) (ew P k e (wn P k i)) = sm s (ew P k e (wn P k i)) + ew P k e (wn P k i) s := rfl
        rw [if_neg (nI_ge (by omega) (by omega)), c2_ld10 hq (by omega), Option.bind_some, show p + 1 + 10 = p + 11 from rfl, ur_at, g1 s (by omega), c2_ld2 hq (by omega), Option.bind_some, show p + 1 + 2 = p + 3 from rfl, (hR.2 k hk).2.1, b_get (by omega), lN_add]
        have yes : (e = 0 ∨ bt (pE P k) s = true) → WP (self (lN (sm s (ew P k e (wn P k i)) + wn P k i s)) (nI s + 1)) (fun r => ∃ f g, r = (rowsN P k i e, mkC sw I (ur (ur L (p + 12) g) (p + 11) f))) := by
          intro c
          refine ih (r - 1) _ _ (by omega) ⟨s + 1, by omega, nI_1 s, ?_⟩
          rw [e2, show ew P k e (wn P k i) s = wn P k i s from if_pos c]
        by_cases c : e = 0
        · rw [if_pos c]
          exact yes (Or.inl c)
        · rw [if_neg c]
          cases hb : bt (pE P k) s
          · rw [if_pos (by decide)]
            refine ih (r - 1) _ _ (by omega) ⟨s + 1, by omega, nI_1 s, ?_⟩
            rw [e2, show ew P k e (wn P k i) s = 0 from if_neg (by rintro (q | q); exact c q; rw [hb] at q; cases q)]
            rfl
          · rw [if_neg (by decide)]
            exact yes (Or.inr hb)
    · rw [if_neg (nI_ge (by omega) (by omega))]
      obtain ⟨_, x1, f', g', rfl, x2⟩ := c_len (sw := sw) (L := ur (ur L (p + 12) g) (p + 11) f) (fu := fu) (w := wn P k i) hp hR hW hk (by omega) (by rw [ur_at]; exact g1) (wn_lt P k i)
      rw [x1, Option.bind_some]
      refine ih (r - 1) _ _ (by omega) ⟨i + 1, f', g', by omega, nI_1 i, ?_, x2⟩
      congr 1
      funext b
      unfold ur
      by_cases c1 : b = p + 11
      · simp [c1]
      · by_cases c2 : b = p + 12
        · simp [c2]
        · simp [c1, c2]
  · unfold up
    by_cases c : t = 0
    · rw [if_pos c, c]; rfl
    · rw [if_neg c]
      show (if t < 6 then 0 else L (p + 11) t) = _
      rw [if_pos ht]
      show 0 = lN (if t = 0 then 1 else 0)
      rw [if_neg c]; rfl
theorem m_len1 {k s : Nat} {w G : Nat → Nat} {g : Nat → Int64} {Q : Int32 × Hp → Prop} {j44 : Hp → Option (Int32 × Hp)} (hW : WFK (J 2)) (hk : k < nK (J 2)) (hs : s < nS (J 2) k) (hfu : 6 < fu) (hw : ∀ s, s < 6 → K 7 s = lN (w s)) (hl : ∀ s, w s < MD) (h0 : ∀ t, t < 6 → g t = lN (G t % MD))
    (hj : ∀ g', (∀ t, t < 6 → g' t = lN ((G t + sm (nM (J 2) k) (fun m => con (J 2) k m s t * w s)) % MD)) → WP (j44 (mkM J (ur K 8 g'))) Q) :
    WP (wh2 (MX9_rows_B115 0 (nI k) j44 (nI s)) fu (0 : Int32) (mkM J (ur K 8 g))) Q := by
  have h4 := hW.1.1.2
  have hW2 := hW.2 k hk
  have h6 := hW2.1.2.2
  have h7 := hW2.2.2.1.2
  refine wh2_wp (fun r v h => ∃ i g, i + r = nM (J 2) k ∧ v = nI i ∧ h = mkM J (ur K 8 g) ∧ ∀ t, t < 6 → g t = lN ((G t + sm i (fun m => con (J 2) k m s t * w s)) % MD)) ?_ fu (nM (J 2) k) _ _ (by omega) ⟨0, g, by omega, rfl, rfl, fun t ht => by rw [h0 t ht]; rfl⟩
  rintro r v h self ⟨m, g, hm, rfl, rfl, g1⟩ ih
  simp only [MX9_rows_B115, m_r1, m_r19, m_r20, MX9_methodAt, Option.bind_some, jn]
  rw [ix_c (show (11 : Int32) = nI 11 from rfl), m_ld2 (by omega), Option.bind_some, hW2.2.2.1.1]
  by_cases hr : r = 0
  · subst hr
    rw [if_pos (nI_le (by omega) (by omega))]
    refine hj g ?_
    rw [show nM (J 2) k = m by omega]
    exact g1
  · have hm2 : m < nM (J 2) k := by omega
    have e7 : ∀ g : Nat → Int64, ur K 8 g 7 = K 7 := fun g => ur_ne (by decide)
    rw [if_neg (nI_ge (by omega) (by omega)), m_canBe (by omega) (by omega) (by omega), Option.bind_some, m_yes (by omega) (by omega) (by omega), Option.bind_some]
    have add : ∀ (x : Nat), h_reml (lN (x % MD) + lN (w s)) (1000000007 : Int64) = some (lN ((x + w s) % MD)) := by
      intro x
      have h1 : x % MD < MD := Nat.mod_lt _ (by decide)
      have h2 := hl s
      rw [lN_add, rem_l (by have : 2 * MD < 2 ^ 63 := by decide
                            omega)]
      congr 2
      rw [Nat.add_mod (x % MD), Nat.mod_mod, ← Nat.add_mod]
    by_cases hy : pY (J 2) k m s = -1
    · rw [if_pos (by simp [hy])]
      refine ih (r - 1) _ _ (by omega) ⟨m + 1, g, by omega, nI_1 m, rfl, fun t ht => ?_⟩
      rw [g1 t ht]
      simp only [sm, con_no hy, Nat.zero_mul, Nat.add_zero]
    · obtain ⟨a, b, l1, l2, e1, e2, -⟩ := tr_of hW hk hm2 hs hy
      have hb6 : b < 6 := by omega
      have ha6 : a < 6 := by omega
      rw [if_neg (by simp [hy]), e1, m_ld8 (by omega), Option.bind_some, m_ld7 (by omega), Option.bind_some, ur_at, e7, hw s (by omega), g1 a ha6, add, Option.bind_some, m_st8 (by omega), Option.bind_some, ur_ur, ur_at]
      simp only [m_r1, m_r19, m_r20, Option.bind_some, ix_66]
      rw [ix_c (show (15 : Int32) = nI 15 from rfl), m_ld2 (by omega), Option.bind_some, show 15 + (6 * k + m) = 15 + 6 * k + m by omega]
      by_cases hso : pSo (J 2) k m = 1
      · rw [if_pos hso, m_no (by omega) (by omega) (by omega), Option.bind_some, e2, m_ld8 (by omega), Option.bind_some, m_ld7 (by omega), Option.bind_some, ur_at, e7, hw s (by omega)]
        have second : ∃ x, up g a (lN ((G a + sm m (fun m => con (J 2) k m s a * w s) + w s) % MD)) b = lN (x % MD) ∧ x = G b + sm m (fun m => con (J 2) k m s b * w s) + (if b = a then w s else 0) := by
          unfold up
          by_cases c : b = a
          · subst c
            exact ⟨_, by rw [if_pos rfl], by rw [if_pos rfl]⟩
          · exact ⟨_, by rw [if_neg c, g1 b hb6], by rw [if_neg c, Nat.add_zero]⟩
        obtain ⟨x, x1, x2⟩ := second
        rw [x1, add, Option.bind_some, m_st8 (by omega), Option.bind_some, ur_ur, ur_at]
        refine ih (r - 1) _ _ (by omega) ⟨m + 1, _, by omega, nI_1 m, rfl, fun t ht => ?_⟩
        simp only [sm, con_two e1 e2 ha6 hb6 ht hso]
        unfold up
        by_cases c1 : t = b
        · subst c1
          rw [if_pos rfl, x2]
          congr 2
          by_cases c2 : t = a
          · simp only [c2, if_true]; omega
          · simp only [c2, if_true, if_false]; omega
        · rw [if_neg c1]
          by_cases c2 : t = a
          · subst c2
            simp only [c1, if_true, if_false]
            congr 2; omega
          · simp only [c1, c2, if_false, g1 t ht]
            congr 2; omega
      · rw [if_neg hso]
        refine ih (r - 1) _ _ (by omega) ⟨m + 1, _, by omega, nI_1 m, rfl, fun t ht => ?_⟩
        simp only [sm, con_one e1 ha6 ht hso]
        unfold up
        by_cases c2 : t = a
        · subst c2
          simp only [if_true]
          congr 2; omega
        · simp only [c2, if_false, g1 t ht]
          congr 2; omega
theorem m_len2 {k : Nat} {w : Nat → Nat} {g : Nat → Int64} {Q : Int32 × Hp → Prop} {j28 : Hp → Option (Int32 × Hp)} (hW : WFK (J 2)) (hk : k < nK (J 2)) (hfu : 6 < fu) (hw : ∀ s, s < 6 → K 7 s = lN (w s)) (hl : ∀ s, w s < MD) (h0 : ∀ t, t < 6 → g t = 0)
    (hj : ∀ g', (∀ t, t < 6 → g' t = lN (stepW (J 2) k w t)) → WP (j28 (mkM J (ur K 8 g'))) Q) :
    WP (wh2 (MX9_rows_B99 fu 0 (nI k) j28) fu (0 : Int32) (mkM J (ur K 8 g))) Q := by
  have h4 := hW.1.1.2
  have hW2 := hW.2 k hk
  have h6 := hW2.1.2.2
  refine wh2_wp (fun r v h => ∃ i g, i + r = nS (J 2) k ∧ v = nI i ∧ h = mkM J (ur K 8 g) ∧ ∀ t, t < 6 → g t = lN ((sm i (fun s => sm (nM (J 2) k) (fun m => con (J 2) k m s t * w s))) % MD)) ?_ fu (nS (J 2) k) _ _ (by omega) ⟨0, g, by omega, rfl, rfl, fun t ht => by rw [h0 t ht]; rfl⟩
  rintro r v h self ⟨i, g, hi, rfl, rfl, g1⟩ ih
  simp only [MX9_rows_B99, m_r1, Option.bind_some, jn]
  rw [ix_c (show (3 : Int32) = nI 3 from rfl), m_ld2 (by omega), Option.bind_some, hW2.1.1]
  by_cases hr : r = 0
  · subst hr
    rw [if_pos (nI_le (by omega) (by omega))]
    refine hj g (fun t ht => ?_)
    rw [g1 t ht]
    unfold stepW
    rw [show i = nS (J 2) k by omega, sm_swap]
  · rw [if_neg (nI_ge (by omega) (by omega))]
    exact m_len1 hW hk (by omega) hfu hw hl g1 (fun g' g2 => ih (r - 1) _ _ (by omega) ⟨i + 1, g', by omega, nI_1 i, rfl, g2⟩)
end Rows2
