/-! WHAT STATES CAN BE REACHED -/
theorem stp_lt {P : Nat → Int32} {k s t : Nat} (hW : WFK P) (hk : k < nK P) (hs : s < nS P k) (h : stp P k s t) : t < nS P k := by
  have h6 := (hW.2 k hk).1.2.2
  obtain ⟨m, hm, hy, h⟩ := h
  obtain ⟨a, b, ha, hb, e1, e2, -⟩ := tr_of hW hk hm hs hy
  rw [e1, e2, nN_nI (by omega), nN_nI (by omega)] at h
  omega
/-- from the set S one comes to t -/
def Cl (P : Nat → Int32) (k : Nat) (S : Int32) (t : Nat) : Prop := ∃ n s, bt S s = true ∧ pth P k n s t
theorem Cl_in {P : Nat → Int32} {k t : Nat} {S : Int32} (h : bt S t = true) : Cl P k S t := ⟨0, t, h, rfl⟩
theorem Cl_stp {P : Nat → Int32} {k s t : Nat} {S : Int32} (h : Cl P k S s) (hs : stp P k s t) : Cl P k S t := by
  obtain ⟨n, u, h1, h2⟩ := h
  exact ⟨n + 1, u, h1, pth_step h2 hs⟩
theorem Cl_le {P : Nat → Int32} {k : Nat} {S : Int32} {X : Nat → Prop} (h0 : ∀ s, bt S s = true → X s) (hX : ∀ s t, X s → stp P k s t → X t) : ∀ t, Cl P k S t → X t := by
  rintro t ⟨n, s, h1, h2⟩
  exact pth_closed hX (h0 s h1) h2
theorem Cl_lt {P : Nat → Int32} {k : Nat} {S : Int32} (hW : WFK P) (hk : k < nK P) (hS : ∀ s, bt S s = true → s < nS P k) : ∀ t, Cl P k S t → t < nS P k := Cl_le (X := fun t => t < nS P k) hS (fun _ _ h1 h2 => stp_lt hW hk h1 h2)
section Reach
variable {sw : Bool} {I : Nat → Nat → Int32} {L : Nat → Nat → Int64} {p fu : Nat} {P : Nat → Int32}
theorem fol_stp {k m s t : Nat} {z : Int32} (hW : WFK P) (hk : k < nK P) (hm : m < nM P k) (hs : s < nS P k) (hy : pY P k m s ≠ -1) (ht : t < 32) (h : fol P k m s z = nI t) : stp P k s t := by
  refine ⟨m, hm, hy, ?_⟩
  unfold fol at h
  by_cases hz : z = 0
  · rw [if_pos hz] at h; right; rw [h, nN_nI (by omega)]
  · rw [if_neg hz] at h; left; rw [h, nN_nI (by omega)]
theorem c_reach1 {k : Nat} {S X0 : Int32} {Q : Int32 → Prop} {j5 : Int32 → Option Int32} (hp : isP p) (hR : CRk p I P) (hW : WFK P) (hk : k < nK P) (hfu : 6 < fu) (hS : ∀ s, bt S s = true → s < nS P k) (h0 : ∀ t, bt X0 t = true → Cl P k S t)
    (hj : ∀ X, (∀ t, bt X t = true → Cl P k S t) → (∀ t, bt X0 t = true → bt X t = true) → (∀ s t, bt X0 s = true → stp P k s t → bt X t = true) → WP (j5 X) Q) :
    WP (wh2 (MX2_reachable_B13 fu (mkC sw I L) (p + 1) (nI k) j5) fu X0 (0 : Int32)) Q := by
  have hq := isP_K hp
  have h4 := hW.1.1.2
  have hw := hW.2 k hk
  have h6 := hw.1.2.2
  have h7 := hw.2.2.1.2
  have lt := Cl_lt hW hk hS
  refine wh2_wp (fun r X v => ∃ m, m + r = nM P k ∧ v = nI m ∧ (∀ t, bt X t = true → Cl P k S t) ∧ (∀ t, bt X0 t = true → bt X t = true) ∧ ∀ m', m' < m → ∀ s, bt X0 s = true → pY P k m' s ≠ -1 → bt X (nN (pY P k m' s)) = true ∧ bt X (nN (pN P k m' s)) = true) ?_ fu (nM P k) _ _ (by omega) ⟨0, by omega, rfl, h0, fun t h => h, fun m' h => by omega⟩
  rintro r X v self ⟨m, hm, rfl, g1, g2, g3⟩ ih
  simp only [MX2_reachable_B13, c2_r3 hq, Option.bind_some]
  rw [c2_ld3 hq (show k < 4 by omega), Option.bind_some, show p + 1 + 3 = p + 4 from rfl, (hR.2 k hk).2.2.1, hw.2.2.1.1]
  by_cases hr : r = 0
  · subst hr
    rw [if_pos (nI_le (by omega) (by omega))]
    refine hj X g1 g2 ?_
    rintro s t hs ⟨m', q1, q2, q3⟩
    have := g3 m' (by omega) s hs q2
    rcases q3 with rfl | rfl
    · exact this.1
    · exact this.2
  · have hm2 : m < nM P k := by omega
    rw [if_neg (nI_ge (by omega) (by omega))]
    obtain ⟨Y, e1, y1⟩ := c_image (sw := sw) (L := L) (S := X) (z := 1) hp hR hW hk hm2 hfu
    obtain ⟨Z, e2, z1⟩ := c_image (sw := sw) (L := L) (S := X) (z := 0) hp hR hW hk hm2 hfu
    rw [e1, Option.bind_some, e2, Option.bind_some]
    refine ih (r - 1) _ _ (by omega) ⟨m + 1, by omega, nI_1 m, ?_, ?_, ?_⟩
    · intro t h
      have ht : t < 32 := by
        by_cases c : t < 32
        · exact c
        · rw [b_big (by omega)] at h; cases h
      rw [b_or, b_or, Bool.or_eq_true, Bool.or_eq_true, y1 t ht, z1 t ht] at h
      rcases h with h | ⟨s, q1, q2, q3, q4⟩ | ⟨s, q1, q2, q3, q4⟩
      · exact g1 t h
      · exact Cl_stp (g1 s q2) (fol_stp hW hk hm2 q1 q3 ht q4)
      · exact Cl_stp (g1 s q2) (fol_stp hW hk hm2 q1 q3 ht q4)
    · intro t h
      rw [b_or, g2 t h, Bool.true_or]
    · intro m' hm' s hs hy
      by_cases e : m' = m
      · subst e
        have hs2 := lt s (h0 s hs)
        obtain ⟨a, b, ha, hb, e3, e4, -⟩ := tr_of hW hk hm2 hs2 hy
        rw [e3, e4, nN_nI (by omega), nN_nI (by omega)]
        constructor
        · rw [b_or, b_or, (y1 a (by omega)).mpr ⟨s, hs2, g2 s hs, hy, by unfold fol; rw [if_neg (by decide), e3]⟩, Bool.true_or, Bool.or_true]
        · rw [b_or, b_or, (z1 b (by omega)).mpr ⟨s, hs2, g2 s hs, hy, by unfold fol; rw [if_pos rfl, e4]⟩, Bool.or_true, Bool.or_true]
      · have := g3 m' (by omega) s hs hy
        exact ⟨by rw [b_or, this.1, Bool.true_or], by rw [b_or, this.2, Bool.true_or]⟩
end Reach
