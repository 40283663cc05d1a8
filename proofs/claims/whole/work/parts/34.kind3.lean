section Kind3
variable {sw : Bool} {I : Nat → Nat → Int32} {L : Nat → Nat → Int64} {J : Nat → Nat → Int32} {K : Nat → Nat → Int64} {p fu : Nat} {P : Nat → Int32}
theorem Cl_one {k s : Nat} (hs : s < 32) (t : Nat) : Cl P k ((1 : Int32) <<< (nI s &&& 31)) t ↔ ∃ n, pth P k n s t := by
  constructor
  · rintro ⟨n, u, h1, h2⟩
    have hu : u < 32 := by
      by_cases c : u < 32
      · exact c
      · rw [b_big (by omega)] at h1; cases h1
    rw [b_one hs hu, decide_eq_true_eq] at h1
    subst h1
    exact ⟨n, h2⟩
  · rintro ⟨n, h⟩
    exact ⟨n, s, by rw [b_one hs hs]; simp, h⟩
theorem m_kind5 {k : Nat} {X0 : Int32} {Q : Int32 × Hp → Prop} {j5 : Int32 → Option (Int32 × Hp)} (hW : WFK (J 2)) (hk : k < nK (J 2)) (hfu : 8 < fu)
    (hj : ∀ X, (∀ t, t < 32 → (bt X t = true ↔ t < nS (J 2) k ∧ bt X0 t = true ∧ rb (J 2) k (nS (J 2) k - 1) t = false)) → WP (j5 X) Q) :
    WP (wh2 (MX9_kind_B164 fu (mkM J K) 0 (nI k) j5 X0) fu (0 : Int32) (0 : Int32)) Q := by
  have h4 := hW.1.1.2
  have hw := hW.2 k hk
  have h6 := hw.1.2.2
  refine wh2_wp (fun r X v => ∃ i, i + r = nS (J 2) k ∧ v = nI i ∧ ∀ t, t < 32 → (bt X t = true ↔ t < i ∧ bt X0 t = true ∧ rb (J 2) k (nS (J 2) k - 1) t = false)) ?_ fu (nS (J 2) k) _ _ (by omega) ⟨0, by omega, rfl, fun t ht => ?_⟩
  · rintro r X v self ⟨i, hi, rfl, q⟩ ih
    simp only [MX9_kind_B164, m_r1, Option.bind_some, jn]
    rw [ix_c (show (3 : Int32) = nI 3 from rfl), m_ld2 (by omega), Option.bind_some, hw.1.1]
    by_cases hr : r = 0
    · subst hr
      rw [if_pos (nI_le (by omega) (by omega))]
      refine hj X ?_
      rw [show nS (J 2) k = i by omega] at q ⊢
      exact q
    · have hs : i < nS (J 2) k := by omega
      rw [if_neg (nI_ge (by omega) (by omega)), b_has (by omega), Option.bind_some]
      have keep : ¬ (bt X0 i = true ∧ rb (J 2) k (nS (J 2) k - 1) i = false) → WP (self (X ||| 0) (nI i + 1)) Q := by
        intro hc
        refine ih (r - 1) _ _ (by omega) ⟨i + 1, by omega, nI_1 i, fun t ht => ?_⟩
        rw [b_or, b_0, Bool.or_false, q t ht]
        constructor
        · rintro ⟨a, b⟩; exact ⟨by omega, b⟩
        · rintro ⟨a, b⟩
          refine ⟨?_, b⟩
          by_cases e : t = i
          · subst e; exact absurd b hc
          · omega
      cases hb : bt X0 i
      · rw [if_pos (by decide)]
        exact keep (fun h => by rw [hb] at h; cases h.1)
      · rw [if_neg (by decide)]
        obtain ⟨Y, e1, y⟩ := m_reached (K := K) (S := (1 : Int32) <<< (nI i &&& 31)) hW hk hfu (by
          intro s h
          have hu : s < 32 := by
            by_cases c : s < 32
            · exact c
            · rw [b_big (by omega)] at h; cases h
          rw [b_one (by omega) hu, decide_eq_true_eq] at h
          omega)
        rw [e1, Option.bind_some, ix_c (show (7 : Int32) = nI 7 from rfl), m_ld2 (by omega), Option.bind_some]
        have ev : Y &&& J 2 (7 + k) = 0 ↔ rb (J 2) k (nS (J 2) k - 1) i = false := by
          rw [rb_hope hW hk hs]
          constructor
          · intro h n t e
            have := congrArg (fun x => bt x t) h
            simp only [b_and, b_0] at this
            rw [(y t).mpr ((Cl_one (by omega) t).mpr ⟨n, e⟩), Bool.true_and] at this
            exact this
          · intro h
            apply b_ext
            intro t ht
            rw [b_and, b_0]
            cases hz : bt Y t
            · rfl
            · obtain ⟨n, e⟩ := (Cl_one (by omega) t).mp ((y t).mp hz)
              rw [Bool.true_and]
              exact h n t e
        by_cases c : Y &&& J 2 (7 + k) = 0
        · rw [if_pos c]
          refine ih (r - 1) _ _ (by omega) ⟨i + 1, by omega, nI_1 i, fun t ht => ?_⟩
          rw [b_or, Bool.or_eq_true, q t ht, b_one (by omega) ht, decide_eq_true_eq]
          constructor
          · rintro (⟨a, b⟩ | rfl)
            · exact ⟨by omega, b⟩
            · exact ⟨by omega, hb, ev.mp c⟩
          · rintro ⟨a, b⟩
            by_cases e : t = i
            · exact Or.inr e
            · exact Or.inl ⟨by omega, b⟩
        · rw [if_neg c]
          exact keep (fun h => c (ev.mpr h.2))
  · rw [b_0]
    constructor
    · intro e; cases e
    · rintro ⟨q, -⟩; omega
end Kind3
