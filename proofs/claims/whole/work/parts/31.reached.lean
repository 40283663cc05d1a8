section Reached
variable {J : Nat → Nat → Int32} {K : Nat → Nat → Int64} {fu : Nat}
theorem m_reach3 {k s : Nat} {S X0 : Int32} {Q : Int32 → Prop} {j12 : Int32 → Option Int32} (hW : WFK (J 2)) (hk : k < nK (J 2)) (hs : s < nS (J 2) k) (hfu : 6 < fu) (h0 : ∀ t, bt X0 t = true → Cl (J 2) k S t)
    (hj : ∀ X, (∀ t, bt X t = true → Cl (J 2) k S t) → (∀ t, bt X0 t = true → bt X t = true) → (∀ t, bt X0 s = true → stp (J 2) k s t → bt X t = true) → WP (j12 X) Q) :
    WP (wh2 (MX9_reached_B33 (mkM J K) 2 (nI k) j12 (nI s) 0) fu X0 (0 : Int32)) Q := by
  have h4 := hW.1.1.2
  have hw := hW.2 k hk
  have h6 := hw.1.2.2
  have h7 := hw.2.2.1.2
  refine wh2_wp (fun r X v => ∃ m, m + r = nM (J 2) k ∧ v = nI m ∧ (∀ t, bt X t = true → Cl (J 2) k S t) ∧ (∀ t, bt X0 t = true → bt X t = true) ∧ ∀ m', m' < m → bt X0 s = true → pY (J 2) k m' s ≠ -1 → bt X (nN (pY (J 2) k m' s)) = true ∧ bt X (nN (pN (J 2) k m' s)) = true) ?_ fu (nM (J 2) k) _ _ (by omega) ⟨0, by omega, rfl, h0, fun t h => h, fun m' h => by omega⟩
  rintro r X v self ⟨m, hm, rfl, g1, g2, g3⟩ ih
  simp only [MX9_reached_B33, jn]
  rw [ix_c (show (11 : Int32) = nI 11 from rfl), m_ld2 (by omega), Option.bind_some, hw.2.2.1.1]
  by_cases hr : r = 0
  · subst hr
    rw [if_pos (nI_le (by omega) (by omega))]
    refine hj X g1 g2 ?_
    rintro t hs ⟨m', q1, q2, q3⟩
    have := g3 m' (by omega) hs q2
    rcases q3 with rfl | rfl
    · exact this.1
    · exact this.2
  · have hm2 : m < nM (J 2) k := by omega
    rw [if_neg (nI_ge (by omega) (by omega)), b_has (by omega), Option.bind_some, m_canBe (by omega) (by omega) (by omega), Option.bind_some, m_yes (by omega) (by omega) (by omega), Option.bind_some, m_no (by omega) (by omega) (by omega), Option.bind_some]
    have keep : (bt X0 s = true → pY (J 2) k m s ≠ -1 → False) → WP (self X (nI m + 1)) Q := by
      intro hc
      refine ih (r - 1) _ _ (by omega) ⟨m + 1, by omega, nI_1 m, g1, g2, ?_⟩
      intro m' hm' q1 q2
      by_cases e : m' = m
      · subst e; exact (hc q1 q2).elim
      · exact g3 m' (by omega) q1 q2
    cases hb : bt X s
    · rw [if_pos (by decide)]
      exact keep (fun q _ => by rw [g2 s q] at hb; cases hb)
    · rw [if_neg (by decide)]
      by_cases hy : pY (J 2) k m s = -1
      · rw [if_pos (by rw [if_pos hy])]
        exact keep (fun _ q => q hy)
      · rw [if_neg (by rw [if_neg hy]; decide)]
        obtain ⟨a, b, ha, hb2, e3, e4, -⟩ := tr_of hW hk hm2 hs hy
        rw [e3, e4]
        have bb : ∀ t, t < 32 → bt (X ||| ((1 : Int32) <<< (nI a &&& 31) ||| (1 : Int32) <<< (nI b &&& 31))) t = (bt X t || (decide (t = a) || decide (t = b))) := by
          intro t ht
          rw [b_or, b_or, b_one (by omega) ht, b_one (by omega) ht]
        refine ih (r - 1) _ _ (by omega) ⟨m + 1, by omega, nI_1 m, ?_, ?_, ?_⟩
        · intro t h
          have ht : t < 32 := by
            by_cases c : t < 32
            · exact c
            · rw [b_big (by omega)] at h; cases h
          rw [bb t ht, Bool.or_eq_true, Bool.or_eq_true, decide_eq_true_eq, decide_eq_true_eq] at h
          rcases h with h | rfl | rfl
          · exact g1 t h
          · exact Cl_stp (g1 s hb) ⟨m, hm2, hy, Or.inl (by rw [e3, nN_nI (by omega)])⟩
          · exact Cl_stp (g1 s hb) ⟨m, hm2, hy, Or.inr (by rw [e4, nN_nI (by omega)])⟩
        · intro t h
          rw [b_or, g2 t h, Bool.true_or]
        · intro m' hm' q1 q2
          by_cases e : m' = m
          · subst e
            rw [e3, e4, nN_nI (by omega), nN_nI (by omega), bb a (by omega), bb b (by omega)]
            simp
          · have := g3 m' (by omega) q1 q2
            exact ⟨by rw [b_or, this.1, Bool.true_or], by rw [b_or, this.2, Bool.true_or]⟩
theorem m_reach2 {k : Nat} {S X0 : Int32} {Q : Int32 → Prop} {j5 : Int32 → Option Int32} (hW : WFK (J 2)) (hk : k < nK (J 2)) (hfu : 6 < fu) (h0 : ∀ t, bt X0 t = true → Cl (J 2) k S t)
    (hj : ∀ X, (∀ t, bt X t = true → Cl (J 2) k S t) → (∀ t, bt X0 t = true → bt X t = true) → (∀ s t, s < nS (J 2) k → bt X0 s = true → stp (J 2) k s t → bt X t = true) → WP (j5 X) Q) :
    WP (wh2 (MX9_reached_B17 fu (mkM J K) 0 (nI k) j5) fu X0 (0 : Int32)) Q := by
  have h4 := hW.1.1.2
  have hw := hW.2 k hk
  have h6 := hw.1.2.2
  refine wh2_wp (fun r X v => ∃ i, i + r = nS (J 2) k ∧ v = nI i ∧ (∀ t, bt X t = true → Cl (J 2) k S t) ∧ (∀ t, bt X0 t = true → bt X t = true) ∧ ∀ s t, s < i → bt X0 s = true → stp (J 2) k s t → bt X t = true) ?_ fu (nS (J 2) k) _ _ (by omega) ⟨0, by omega, rfl, h0, fun t h => h, fun s t h => by omega⟩
  rintro r X v self ⟨i, hi, rfl, g1, g2, g3⟩ ih
  simp only [MX9_reached_B17, m_r1, Option.bind_some, jn]
  rw [ix_c (show (3 : Int32) = nI 3 from rfl), m_ld2 (by omega), Option.bind_some, hw.1.1]
  by_cases hr : r = 0
  · subst hr
    rw [if_pos (nI_le (by omega) (by omega))]
    exact hj X g1 g2 (fun s t h => g3 s t (by omega))
  · rw [if_neg (nI_ge (by omega) (by omega))]
    refine m_reach3 hW hk (by omega) hfu g1 (fun Y y1 y2 y3 => ih (r - 1) _ _ (by omega) ⟨i + 1, by omega, nI_1 i, y1, fun t h => y2 t (g2 t h), ?_⟩)
    intro s t hs q1 q2
    by_cases e : s = i
    · subst e; exact y3 t (g2 s q1) q2
    · exact y2 t (g3 s t (by omega) q1 q2)
theorem m_reached {k : Nat} {S : Int32} (hW : WFK (J 2)) (hk : k < nK (J 2)) (hfu : 8 < fu) (hS : ∀ s, bt S s = true → s < nS (J 2) k) : WP (MX9_reached fu 0 (nI k) S (mkM J K)) (fun X => ∀ t, bt X t = true ↔ Cl (J 2) k S t) := by
  have h6 := (hW.2 k hk).1.2.2
  have lt := Cl_lt hW hk hS
  simp only [MX9_reached, m_g]
  refine wh2_wp (fun q X v => (∀ t, bt X t = true → Cl (J 2) k S t) ∧ (∀ t, bt S t = true → bt X t = true) ∧ (v = X → ∀ s t, bt X s = true → stp (J 2) k s t → bt X t = true) ∧ (v ≠ X → nS (J 2) k + 2 ≤ cnt (nS (J 2) k) (bt X) + q)) ?_ fu (nS (J 2) k + 2) _ _ (by omega) ⟨fun t h => Cl_in h, fun t h => h, fun e s t h => ?_, fun _ => by omega⟩
  · rintro q X v self ⟨g1, g2, g3, g4⟩ ih
    simp only [MX9_reached_B5, jn]
    by_cases hv : v = X
    · rw [if_pos hv]
      exact WP_some (fun t => ⟨g1 t, Cl_le (X := fun t => bt X t = true) g2 (g3 hv) t⟩)
    · rw [if_neg hv]
      have hq := g4 hv
      have hc := cnt_le (nS (J 2) k) (bt X)
      refine m_reach2 hW hk (by omega) g1 (fun Y y1 y2 y3 => ih (q - 1) _ _ (by omega) ⟨y1, fun t h => y2 t (g2 t h), ?_, ?_⟩)
      · intro e s t q1 q2
        subst e
        exact y3 s t (lt s (y1 s q1)) q1 q2
      · intro e
        have : ∃ t, t < nS (J 2) k ∧ bt X t = false ∧ bt Y t = true := by
          apply Classical.byContradiction
          intro hn
          apply e
          apply b_ext
          intro i hi
          cases hx : bt X i
          · cases hy : bt Y i
            · rfl
            · exact absurd ⟨i, lt i (y1 i hy), hx, hy⟩ hn
          · rw [y2 i hx]
        obtain ⟨t, c1, c2, c3⟩ := this
        have := cnt_lt (N := nS (J 2) k) (f := bt X) (g := bt Y) (fun s _ h => y2 s h) c1 c2 c3
        omega
  · rw [← e, b_0] at h; cases h
end Reached
