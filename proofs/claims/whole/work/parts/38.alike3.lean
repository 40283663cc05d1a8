section Alike3
variable {sw : Bool} {I : Nat → Nat → Int32} {L : Nat → Nat → Int64} {J : Nat → Nat → Int32} {K : Nat → Nat → Int64} {p fu : Nat} {P : Nat → Int32}
abbrev RC (f : Nat → Int32) (s o : Nat) : Bool := bt (f s) o
theorem c_part1 {k i : Nat} {f0 f : Nat → Int32} {z : Int32} {Q : Int32 × Hp → Prop} {j10 : Int32 → Hp → Option (Int32 × Hp)} (hp : isP p) (hR : CRk p I P) (hW : WFK P) (hk : k < nK P) (hi : i < nS P k) (hfu : 6 < fu) (h0 : SW P k (RC f0) (RC f) z i 0)
    (hj : ∀ f' z', SW P k (RC f0) (RC f') z' i (nS P k) → WP (j10 z' (mkC sw (ur I (p + 10) f') L)) Q) :
    WP (wh3 (MX2_partUnlike_B17 fu (p + 1) (nI k) j10 (nI i)) fu z (0 : Int32) (mkC sw (ur I (p + 10) f) L)) Q := by
  have hq := isP_K hp
  have h4 := hW.1.1.2
  have hw := hW.2 k hk
  have h6 := hw.1.2.2
  refine wh3_wp (fun r z v h => ∃ j f', j + r = nS P k ∧ v = nI j ∧ h = mkC sw (ur I (p + 10) f') L ∧ SW P k (RC f0) (RC f') z i j) ?_ fu (nS P k) _ _ _ (by omega) ⟨0, f, by omega, rfl, rfl, h0⟩
  rintro r z v h self ⟨j, f, hj2, rfl, rfl, g⟩ ih
  have hR' : CRk p (ur I (p + 10) f) P := CRk_ur (by omega) hR
  simp only [MX2_partUnlike_B17, c2_r1 hq, c2_r9 hq, Option.bind_some, jn]
  rw [c2_ld1 hq (show k < 4 by omega), Option.bind_some, show p + 1 + 1 = p + 2 from rfl, (hR'.2 k hk).1, hw.1.1]
  by_cases hr : r = 0
  · subst hr
    rw [if_pos (nI_le (by omega) (by omega))]
    have e : j = nS P k := by omega
    rw [e] at g
    exact hj f z g
  · have hj3 : j < nS P k := by omega
    rw [if_neg (nI_ge (by omega) (by omega)), c2_ld9 hq (by omega), Option.bind_some, show p + 1 + 9 = p + 10 from rfl, ur_at, b_get (by omega)]
    cases hb : bt (f i) j
    · rw [if_pos (by decide)]
      exact ih (r - 1) _ _ _ (by omega) ⟨j + 1, f, by omega, nI_1 j, rfl, SW_keep g (fun q => by rw [show RC f i j = bt (f i) j from rfl, hb] at q; cases q)⟩
    · rw [if_neg (by decide)]
      obtain ⟨x, x1, x2⟩ := c_differ (sw := sw) (L := L) (fu := fu) hp hR' hW hk hi hj3 hfu
      rw [x1, Option.bind_some]
      rw [ur_at] at x2
      rcases x2 with ⟨rfl, x2⟩ | ⟨rfl, x2⟩
      · rw [if_pos rfl]
        exact ih (r - 1) _ _ _ (by omega) ⟨j + 1, f, by omega, nI_1 j, rfl, SW_keep g (fun _ => x2)⟩
      · rw [if_neg (by decide), show p + 10 = p + 1 + 9 from rfl, c2_st9 hq (by omega), Option.bind_some, show p + 1 + 9 = p + 10 from rfl, ur_ur, ur_at]
        refine ih (r - 1) _ _ _ (by omega) ⟨j + 1, _, by omega, nI_1 j, rfl, SW_part hW hk hi hj3 g hb x2 ?_ ?_⟩
        · intro s o hs ho
          show bt (up f i _ s) o = _
          unfold up
          by_cases e : s = i
          · subst e
            rw [if_pos rfl, b_and, b_not ho, b_one (by omega) ho]
            simp
          · rw [if_neg e]
            simp [e]
        · intro s o
          show bt (up f i _ s) o = true → _
          unfold up
          by_cases e : s = i
          · subst e
            rw [if_pos rfl, b_and, Bool.and_eq_true]
            exact fun q => q.1
          · rw [if_neg e]
            exact fun q => q
theorem c_part {k : Nat} {f0 : Nat → Int32} (hp : isP p) (hR : CRk p I P) (hW : WFK P) (hk : k < nK P) (hfu : 6 < fu) (h0 : ∀ s o, s < nS P k → o < nS P k → Al P k s o → bt (f0 s) o = true) :
    WP (MX2_partUnlike fu (p + 1) (nI k) (mkC sw (ur I (p + 10) f0) L)) (fun r => ∃ f, r.2 = mkC sw (ur I (p + 10) f) L ∧ SW P k (RC f0) (RC f) r.1 (nS P k) 0) := by
  have hq := isP_K hp
  have h4 := hW.1.1.2
  have hw := hW.2 k hk
  have h6 := hw.1.2.2
  simp only [MX2_partUnlike, c2_g hq]
  refine wh3_wp (fun r z v h => ∃ i f, i + r = nS P k ∧ v = nI i ∧ h = mkC sw (ur I (p + 10) f) L ∧ SW P k (RC f0) (RC f) z i 0) ?_ fu (nS P k) _ _ _ (by omega) ⟨0, f0, by omega, rfl, rfl, SW_0 h0⟩
  rintro r z v h self ⟨i, f, hi, rfl, rfl, g⟩ ih
  have hR' : CRk p (ur I (p + 10) f) P := CRk_ur (by omega) hR
  simp only [MX2_partUnlike_B4, c2_r1 hq, Option.bind_some, jn]
  rw [c2_ld1 hq (show k < 4 by omega), Option.bind_some, show p + 1 + 1 = p + 2 from rfl, (hR'.2 k hk).1, hw.1.1]
  by_cases hr : r = 0
  · subst hr
    have hz : z = 0 ∨ z = 1 := by rcases g.2.2.1 with h | h; exact Or.inl h.1; exact Or.inr h.1
    have e : h_z z = some z := by rcases hz with rfl | rfl <;> rfl
    rw [if_pos (nI_le (by omega) (by omega)), e, Option.bind_some]
    have e : i = nS P k := by omega
    rw [e] at g
    exact WP_some ⟨f, rfl, g⟩
  · rw [if_neg (nI_ge (by omega) (by omega))]
    exact c_part1 hp hR hW hk (by omega) hfu g (fun f' z' g' => ih (r - 1) _ _ _ (by omega) ⟨i + 1, f', by omega, nI_1 i, rfl, SW_row g'⟩)
theorem c_alike {k a b : Nat} (hp : isP p) (hR : CRk p I P) (hW : WFK P) (hk : k < nK P) (ha : a < nS P k) (hb : b < nS P k) (hfu : 38 < fu) :
    WP (MX2_areAlike fu (p + 1) (nI k) (nI a) (nI b) (mkC sw I L)) (fun r => ∃ f, r.2 = mkC sw (ur I (p + 10) f) L ∧ ((r.1 = 1 ∧ Al P k a b) ∨ (r.1 = 0 ∧ ¬ Al P k a b))) := by
  have hq := isP_K hp
  have h4 := hW.1.1.2
  have hw := hW.2 k hk
  have h6 := hw.1.2.2
  simp only [MX2_areAlike, c2_g hq, jn]
  refine wh2_wp (fun r v h => ∃ i f, i + r = nS P k ∧ v = nI i ∧ h = mkC sw (ur I (p + 10) f) L ∧ ∀ s o, s < i → o < nS P k → bt (f s) o = true) ?_ fu (nS P k) _ _ (by omega) ⟨0, I (p + 10), by omega, rfl, by rw [ur_self], fun s o h => by omega⟩
  rintro r v h self ⟨i, f, hi, rfl, rfl, g⟩ ih
  have hR' : CRk p (ur I (p + 10) f) P := CRk_ur (by omega) hR
  simp only [MX2_areAlike_B3, c2_r1 hq, c2_r9 hq, Option.bind_some, jn]
  rw [c2_ld1 hq (show k < 4 by omega), Option.bind_some, show p + 1 + 1 = p + 2 from rfl, (hR'.2 k hk).1, hw.1.1]
  by_cases hr : r = 0
  · subst hr
    rw [if_pos (nI_le (by omega) (by omega))]
    clear ih
    refine wh3_wp (fun r z v h => ∃ j f, j + r = 37 ∧ v = nI j ∧ h = mkC sw (ur I (p + 10) f) L ∧ (∀ s o, s < nS P k → o < nS P k → Al P k s o → bt (f s) o = true) ∧ ((z = 0 ∧ ∀ s o, s < nS P k → o < nS P k → (bt (f s) o = true ↔ Al P k s o)) ∨ (z = 1 ∧ pc (RC f) + j ≤ 36))) ?_ fu 37 _ _ _ (by omega) ⟨0, f, rfl, rfl, rfl, fun s o hs ho _ => g s o (by omega) ho, Or.inr ⟨rfl, by have := pc_le (RC f); omega⟩⟩
    rintro r z v h self ⟨j, f, hj, rfl, rfl, g1, g2⟩ ih
    simp only [MX2_areAlike_B43, jn]
    rcases g2 with ⟨rfl, g2⟩ | ⟨rfl, g2⟩
    · rw [if_pos rfl, c2_r9 hq, Option.bind_some, c2_ld9 hq (by omega), Option.bind_some, show p + 1 + 9 = p + 10 from rfl, ur_at, b_get (by omega)]
      cases hz : bt (f a) b
      · rw [if_pos (by decide)]
        exact WP_some ⟨f, rfl, Or.inr ⟨rfl, fun q => by rw [(g2 a b ha hb).mpr q] at hz; cases hz⟩⟩
      · rw [if_neg (by decide)]
        exact WP_some ⟨f, rfl, Or.inl ⟨rfl, (g2 a b ha hb).mp hz⟩⟩
    · have c36 : ¬ (36 : Int32) < nI j := by
        rw [i_lt, n_i (by omega), show (36 : Int32).toInt = 36 from rfl]
        omega
      rw [if_neg (by decide), if_neg c36]
      obtain ⟨⟨x, _⟩, x1, f', rfl, x3⟩ := c_part (sw := sw) (I := I) (L := L) (fu := fu) hp hR hW hk (by omega) g1
      rw [x1, Option.bind_some]
      rcases x3.2.2.1 with ⟨z0, -⟩ | ⟨z1, q⟩
      · obtain rfl : x = 0 := z0
        exact ih (r - 1) _ _ _ (by omega) ⟨j + 1, f', by omega, nI_1 j, rfl, x3.1, Or.inl ⟨rfl, SW_end x3⟩⟩
      · obtain rfl : x = 1 := z1
        exact ih (r - 1) _ _ _ (by omega) ⟨j + 1, f', by omega, nI_1 j, rfl, x3.1, Or.inr ⟨rfl, by omega⟩⟩
  · rw [if_neg (nI_ge (by omega) (by omega)), c2_st9 hq (by omega), Option.bind_some, show p + 1 + 9 = p + 10 from rfl, ur_ur, ur_at]
    refine ih (r - 1) _ _ (by omega) ⟨i + 1, _, by omega, nI_1 i, rfl, fun s o hs ho => ?_⟩
    unfold up
    by_cases e : s = i
    · rw [if_pos e]
      exact (by decide +kernel : ∀ n, n ≤ 6 → ∀ o, o < n → bt ((1 : Int32) <<< (nI n &&& 31) - 1) o = true) _ h6 o ho
    · rw [if_neg e]
      exact g s o (by omega) ho
end Alike3
