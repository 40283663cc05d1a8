section Kind2
variable {sw : Bool} {I : Nat → Nat → Int32} {L : Nat → Nat → Int64} {J : Nat → Nat → Int32} {K : Nat → Nat → Int64} {p fu : Nat} {P : Nat → Int32}
theorem c_hopeless {k : Nat} (hp : isP p) (hR : CRk p I P) (hW : WFK P) (hk : k < nK P) (hfu : 6 < fu) : WP (MX2_hopeless fu (p + 1) (nI k) (mkC sw I L)) (fun r => ∃ f, r.2 = mkC sw (ur I (p + 9) f) L ∧ ∀ t, t < 32 → (bt r.1 t = true ↔ t < nS P k ∧ rb P k (nS P k - 1) t = false)) := by
  have hq := isP_K hp
  have h4 := hW.1.1.2
  have hw := hW.2 k hk
  have h6 := hw.1.2.2
  obtain ⟨_, e1, f, rfl, g⟩ := c_measure (sw := sw) (I := I) (L := L) (fu := fu) hp hR hW hk hfu
  have hR' : CRk p (ur I (p + 9) f) P := CRk_ur (by omega) hR
  simp only [MX2_hopeless, c2_g hq]
  rw [e1, Option.bind_some]
  refine wh2_wp (fun r X v => ∃ i, i + r = nS P k ∧ v = nI i ∧ ∀ t, t < 32 → (bt X t = true ↔ t < i ∧ rb P k (nS P k - 1) t = false)) ?_ fu (nS P k) _ _ (by omega) ⟨0, by omega, rfl, fun t ht => ?_⟩
  · rintro r X v self ⟨i, hi, rfl, q⟩ ih
    simp only [MX2_hopeless_B9, c2_r1 hq, c2_r8 hq, Option.bind_some, jn]
    rw [c2_ld1 hq (show k < 4 by omega), Option.bind_some, show p + 1 + 1 = p + 2 from rfl, (hR'.2 k hk).1, hw.1.1]
    by_cases hr : r = 0
    · subst hr
      rw [if_pos (nI_le (by omega) (by omega))]
      refine WP_some ⟨f, rfl, ?_⟩
      rw [show nS P k = i by omega] at q ⊢
      exact q
    · have hs : i < nS P k := by omega
      rw [if_neg (nI_ge (by omega) (by omega)), c2_ld8 hq (show i < 6 by omega), Option.bind_some, show p + 1 + 8 = p + 9 from rfl, ur_at]
      have ev : f i = -1 ↔ rb P k (nS P k - 1) i = false := by
        rcases g i hs with ⟨x1, x2⟩ | ⟨d, hd, x1, x2, -⟩
        · exact ⟨fun _ => x2, fun _ => x1⟩
        · rw [x1]
          constructor
          · intro e; exact absurd e (nI_ne_m1 (by omega))
          · intro e; rw [rb_ge x2 hd] at e; cases e
      by_cases c : f i = -1
      · rw [if_pos c]
        refine ih (r - 1) _ _ (by omega) ⟨i + 1, by omega, nI_1 i, fun t ht => ?_⟩
        rw [b_or, Bool.or_eq_true, q t ht, b_one (by omega) ht, decide_eq_true_eq]
        constructor
        · rintro (⟨a, b⟩ | rfl)
          · exact ⟨by omega, b⟩
          · exact ⟨by omega, ev.mp c⟩
        · rintro ⟨a, b⟩
          by_cases e : t = i
          · exact Or.inr e
          · exact Or.inl ⟨by omega, b⟩
      · rw [if_neg c]
        refine ih (r - 1) _ _ (by omega) ⟨i + 1, by omega, nI_1 i, fun t ht => ?_⟩
        rw [q t ht]
        constructor
        · rintro ⟨a, b⟩; exact ⟨by omega, b⟩
        · rintro ⟨a, b⟩
          refine ⟨?_, b⟩
          by_cases e : t = i
          · subst e; exact absurd (ev.mpr b) c
          · omega
  · rw [b_0]
    constructor
    · intro e; cases e
    · rintro ⟨q, -⟩; omega
end Kind2
