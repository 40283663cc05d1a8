section Reach2
variable {sw : Bool} {I : Nat → Nat → Int32} {L : Nat → Nat → Int64} {p fu : Nat} {P : Nat → Int32}
theorem c_reachable {k : Nat} (hp : isP p) (hR : CRk p I P) (hW : WFK P) (hk : k < nK P) (hfu : 6 < fu) : WP (MX2_reachable fu (p + 1) (nI k) (mkC sw I L)) (fun X => ∀ t, bt X t = true ↔ Cl P k 1 t) := by
  have hq := isP_K hp
  have hw := hW.2 k hk
  have h1 := hw.1.2.1
  have h6 := hw.1.2.2
  have hS : ∀ s, bt (1 : Int32) s = true → s < nS P k := by
    intro s h
    by_cases c : s < 32
    · rw [b_1 s c, decide_eq_true_eq] at h; omega
    · rw [b_big (by omega)] at h; cases h
  have lt := Cl_lt hW hk hS
  simp only [MX2_reachable, c2_g hq]
  refine wh2_wp (fun q X v => ∃ r, r + q = 6 ∧ v = nI r ∧ (∀ t, bt X t = true → Cl P k 1 t) ∧ (∀ t, bt (1 : Int32) t = true → bt X t = true) ∧ ((∀ s t, bt X s = true → stp P k s t → bt X t = true) ∨ r + 1 ≤ cnt (nS P k) (bt X))) ?_ fu 6 _ _ (by omega) ⟨0, by omega, rfl, fun t h => Cl_in h, fun t h => h, Or.inr (cnt_pos (t := 0) (by omega) (by decide))⟩
  rintro q X v self ⟨r, hr, rfl, g1, g2, g3⟩ ih
  simp only [MX2_reachable_B4, jn]
  rw [show (6 : Int32) = nI 6 from rfl]
  by_cases hq0 : q = 0
  · subst hq0
    rw [if_pos (nI_le (by omega) (by omega))]
    refine WP_some (fun t => ⟨g1 t, ?_⟩)
    rcases g3 with g3 | g3
    · exact Cl_le (X := fun t => bt X t = true) g2 g3 t
    · have := cnt_le (nS P k) (bt X)
      omega
  · rw [if_neg (nI_ge (by omega) (by omega))]
    refine c_reach1 hp hR hW hk hfu hS g1 (fun Y y1 y2 y3 => ih (q - 1) _ _ (by omega) ⟨r + 1, by omega, nI_1 r, y1, fun t h => y2 t (g2 t h), ?_⟩)
    by_cases c : ∃ t, t < nS P k ∧ bt X t = false ∧ bt Y t = true
    · right
      obtain ⟨t, c1, c2, c3⟩ := c
      rcases g3 with g3 | g3
      · exfalso
        have := Cl_le (X := fun t => bt X t = true) g2 g3 t (y1 t c3)
        rw [show bt X t = true from this] at c2; cases c2
      · have := cnt_lt (N := nS P k) (f := bt X) (g := bt Y) (fun s _ h => y2 s h) c1 c2 c3
        omega
    · left
      intro s t hs hst
      refine y3 s t ?_ hst
      cases hx : bt X s
      · exact absurd ⟨s, lt s (y1 s hs), hx, hs⟩ c
      · rfl
end Reach2
