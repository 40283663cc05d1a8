section EndsC3
variable {sw : Bool} {I : Nat → Nat → Int32} {L : Nat → Nat → Int64} {p fu : Nat} {P : Nat → Int32}
theorem c_inner {k n : Nat} {Q : Hp → Prop} {j9 : Hp → Option Hp} {f0 : Nat → Int32} (hp : isP p) (hR : CRk p I P) (hW : WFK P) (hk : k < nK P) (hfu : 6 < fu) (hn : n < 100) (h0 : ∀ t, t < nS P k → EV1 P k n t (f0 t))
    (hj : ∀ f, (∀ t, t < nS P k → EV1 P k (n + 1) t (f t)) → WP (j9 (mkC sw (ur I (p + 9) f) L)) Q) :
    WP (wh2 (MX2_measureSteps_B56 fu (p + 1) (nI k) j9 (nI (n + 1))) fu (0 : Int32) (mkC sw (ur I (p + 9) f0) L)) Q := by
  have hq := isP_K hp
  have h4 := hW.1.1.2
  have hw := hW.2 k hk
  have h6 := hw.1.2.2
  have h7 := hw.2.2.1.2
  refine wh2_wp (fun r v h => ∃ s f, s + r = nS P k ∧ v = nI s ∧ h = mkC sw (ur I (p + 9) f) L ∧ (∀ t, t < s → EV1 P k (n + 1) t (f t)) ∧ (∀ t, s ≤ t → t < nS P k → EV1 P k n t (f t))) ?_ fu (nS P k) _ _ (by omega) ⟨0, f0, by omega, rfl, rfl, fun t ht => by omega, fun t _ ht => h0 t ht⟩
  rintro r v h self ⟨s, f, hr, rfl, rfl, g1, g2⟩ ih
  have hR' : CRk p (ur I (p + 9) f) P := CRk_ur (by omega) hR
  simp only [MX2_measureSteps_B56, c2_r1 hq, c2_r8 hq, Option.bind_some, jn]
  rw [c2_ld1 hq (show k < 4 by omega), Option.bind_some, show p + 1 + 1 = p + 2 from rfl, (hR'.2 k hk).1, hw.1.1]
  by_cases hr0 : r = 0
  · subst hr0
    rw [if_pos (nI_le (by omega) (by omega))]
    exact hj f (fun t ht => g1 t (by omega))
  · have hs : s < nS P k := by omega
    rw [if_neg (nI_ge (by omega) (by omega)), c2_ld8 hq (show s < 6 by omega), Option.bind_some, show p + 1 + 8 = p + 9 from rfl, ur_at]
    have e1 : nI (n + 1) - 1 = nI n := by rw [← nI_1 n]; exact Int32.add_sub_cancel _ _
    have keep : EV1 P k (n + 1) s (f s) → WP (self (nI s + 1) (mkC sw (ur I (p + 9) f) L)) Q := by
      intro he
      refine ih (r - 1) _ _ (by omega) ⟨s + 1, f, by omega, nI_1 s, rfl, ?_, fun t h1 h2 => g2 t (by omega) h2⟩
      intro t ht
      by_cases hts : t = s
      · subst hts; exact he
      · exact g1 t (by omega)
    have gs := g2 s (Nat.le_refl _) hs
    by_cases hx : f s = -1
    · have hb : rb P k n s = false := by
        rcases gs with ⟨-, hb⟩ | ⟨d, hd, hd2, -⟩
        · exact hb
        · rw [hx] at hd2; exact absurd hd2.symm (nI_ne_m1 (by omega))
      have st := ev_step (f := f) hW hk hs (by omega) (fun t ht => by
        by_cases hts : t < s
        · exact Or.inr (g1 t hts)
        · exact Or.inl (g2 t (by omega) ht)) hb
      rw [if_pos hx, e1, c_methodTo hp hR' hW hk hs hfu, Option.bind_some, ur_at]
      by_cases hm : fnd (mcond P k s f (nI n)) (nM P k) 0 = -1
      · rw [if_pos hm]
        exact keep (Or.inl ⟨hx, st.mp hm⟩)
      · rw [if_neg hm, show p + 9 = p + 1 + 8 from rfl, c2_st8 hq (show s < 6 by omega), Option.bind_some, ur_ur, ur_at]
        have ht : rb P k (n + 1) s = true := by
          cases hz : rb P k (n + 1) s
          · exact absurd (st.mpr hz) hm
          · rfl
        refine ih (r - 1) _ _ (by omega) ⟨s + 1, _, by omega, nI_1 s, rfl, ?_, ?_⟩
        · intro t ht2
          by_cases hts : t = s
          · subst hts
            rw [up_at]
            refine Or.inr ⟨n + 1, Nat.le_refl _, rfl, ht, fun e he => ?_⟩
            cases hz : rb P k e t
            · rfl
            · rw [rb_ge hz (by omega)] at hb; cases hb
          · rw [up_ne hts]
            exact g1 t (by omega)
        · intro t h1 h2
          rw [up_ne (by omega)]
          exact g2 t (by omega) h2
    · rw [if_neg hx]
      refine keep ?_
      rcases gs with ⟨h1, -⟩ | ⟨d, hd, h1, h2⟩
      · exact absurd h1 hx
      · exact Or.inr ⟨d, by omega, h1, h2⟩
theorem c_measure {k : Nat} (hp : isP p) (hR : CRk p I P) (hW : WFK P) (hk : k < nK P) (hfu : 6 < fu) : WP (MX2_measureSteps fu (p + 1) (nI k) (mkC sw I L)) (fun h => ∃ f, h = mkC sw (ur I (p + 9) f) L ∧ ∀ t, t < nS P k → EV1 P k (nS P k - 1) t (f t)) := by
  have hq := isP_K hp
  have h4 := hW.1.1.2
  have hw := hW.2 k hk
  have h1 := hw.1.2.1
  have h6 := hw.1.2.2
  simp only [MX2_measureSteps, c2_g hq, jn]
  refine wh2_wp (fun r v h => ∃ s f, s + r = nS P k ∧ v = nI s ∧ h = mkC sw (ur I (p + 9) f) L ∧ (∀ t, t < s → EV1 P k 0 t (f t))) ?_ fu (nS P k) _ _ (by omega) ⟨0, I (p + 9), by omega, rfl, by rw [ur_self], fun t ht => by omega⟩
  rintro r v h self ⟨s, f, hr, rfl, rfl, g1⟩ ih
  have hR' : CRk p (ur I (p + 9) f) P := CRk_ur (by omega) hR
  simp only [MX2_measureSteps_B2, c2_r1 hq, c2_r2 hq, c2_r8 hq, Option.bind_some, jn]
  rw [c2_ld1 hq (show k < 4 by omega), Option.bind_some, show p + 1 + 1 = p + 2 from rfl, (hR'.2 k hk).1, hw.1.1]
  by_cases hr0 : r = 0
  · subst hr0
    rw [if_pos (nI_le (by omega) (by omega))]
    refine wh2_wp (fun r v h => ∃ n f, n + 1 + r = nS P k ∧ v = nI (n + 1) ∧ h = mkC sw (ur I (p + 9) f) L ∧ (∀ t, t < nS P k → EV1 P k n t (f t))) ?_ fu (nS P k - 1) _ _ (by omega) ⟨0, f, by omega, rfl, rfl, fun t ht => g1 t (by omega)⟩
    rintro r v h self ⟨n, f, hr, rfl, rfl, g⟩ ih
    have hR' : CRk p (ur I (p + 9) f) P := CRk_ur (by omega) hR
    simp only [MX2_measureSteps_B44, c2_r1 hq, Option.bind_some, jn]
    rw [c2_ld1 hq (show k < 4 by omega), Option.bind_some, show p + 1 + 1 = p + 2 from rfl, (hR'.2 k hk).1, hw.1.1]
    by_cases hr0 : r = 0
    · subst hr0
      rw [if_pos (nI_le (by omega) (by omega))]
      exact WP_some ⟨f, rfl, by rw [show nS P k - 1 = n by omega]; exact g⟩
    · rw [if_neg (nI_ge (by omega) (by omega))]
      exact c_inner hp hR hW hk hfu (by omega) g (fun f' g' => ih (r - 1) _ _ (by omega) ⟨n + 1, f', by omega, nI_1 (n + 1), rfl, g'⟩)
  · rw [if_neg (nI_ge (by omega) (by omega)), c2_ld2 hq (show k < 4 by omega), Option.bind_some, show p + 1 + 2 = p + 3 from rfl, (hR'.2 k hk).2.1]
    have nx : ∀ x, EV1 P k 0 s x → WP ((h_stI (mkC sw (ur I (p + 9) f) L) (p + 1 + 8) (nI s) x).bind fun h31 => self (nI s + 1) h31) (fun h => ∃ f, h = mkC sw (ur I (p + 9) f) L ∧ ∀ t, t < nS P k → EV1 P k (nS P k - 1) t (f t)) := by
      intro x hx
      rw [c2_st8 hq (show s < 6 by omega), Option.bind_some, show p + 1 + 8 = p + 9 from rfl, ur_ur, ur_at]
      refine ih (r - 1) _ _ (by omega) ⟨s + 1, _, by omega, nI_1 s, rfl, ?_⟩
      intro t ht2
      by_cases hts : t = s
      · subst hts
        rw [up_at]
        exact hx
      · rw [up_ne hts]
        exact g1 t (by omega)
    by_cases hb : bt (pE P k) s = false
    · rw [if_pos ((b_get0 (by omega)).mpr hb)]
      exact nx _ (Or.inl ⟨rfl, hb⟩)
    · rw [if_neg (fun e => hb ((b_get0 (by omega)).mp e))]
      exact nx _ (Or.inr ⟨0, Nat.le_refl _, rfl, (show bt (pE P k) s = true by simpa using hb), fun e he => by omega⟩)
end EndsC3
