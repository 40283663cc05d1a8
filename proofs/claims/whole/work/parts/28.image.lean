section Image
variable {sw : Bool} {I : Nat → Nat → Int32} {L : Nat → Nat → Int64} {p fu : Nat} {P : Nat → Int32}
/-- where a state comes to, by an answer -/
def fol (P : Nat → Int32) (k m s : Nat) (z : Int32) : Int32 := if z = 0 then pN P k m s else pY P k m s
theorem c_image {k m : Nat} {S z : Int32} (hp : isP p) (hR : CRk p I P) (hW : WFK P) (hk : k < nK P) (hm : m < nM P k) (hfu : 6 < fu) : WP (MX2_image fu (p + 1) (nI k) (nI m) S z (mkC sw I L)) (fun X => ∀ t, t < 32 → (bt X t = true ↔ ∃ s, s < nS P k ∧ bt S s = true ∧ pY P k m s ≠ -1 ∧ fol P k m s z = nI t)) := by
  have hq := isP_K hp
  have h4 := hW.1.1.2
  have hw := hW.2 k hk
  have h6 := hw.1.2.2
  have h7 := hw.2.2.1.2
  have hc := (hR.2 k hk).2.2.2 m hm
  simp only [MX2_image, c2_g hq, c2_r5 hq, Option.bind_some, ix_met]
  rw [c2_ld5 hq (by omega), Option.bind_some]
  refine wh2_wp (fun r X v => ∃ i, i + r = nS P k ∧ v = nI i ∧ ∀ t, t < 32 → (bt X t = true ↔ ∃ s, s < i ∧ bt S s = true ∧ pY P k m s ≠ -1 ∧ fol P k m s z = nI t)) ?_ fu (nS P k) _ _ (by omega) ⟨0, by omega, rfl, fun t ht => ?_⟩
  · rintro r X v self ⟨i, hi, rfl, g⟩ ih
    simp only [MX2_image_B25, c2_r1 hq, c2_r6 hq, c2_r7 hq, Option.bind_some, jn, ix_row]
    rw [c2_ld1 hq (show k < 4 by omega), Option.bind_some, show p + 1 + 1 = p + 2 from rfl, (hR.2 k hk).1, hw.1.1]
    by_cases hr : r = 0
    · subst hr
      rw [if_pos (nI_le (by omega) (by omega))]
      refine WP_some ?_
      rw [show nS P k = i by omega]
      exact g
    · have hs : i < nS P k := by omega
      rw [if_neg (nI_ge (by omega) (by omega))]
      have bb : bt (S &&& I (p + 1 + 5) (6 * k + m)) i = (bt S i && decide (pY P k m i ≠ -1)) := by
        rw [b_and, show p + 1 + 5 = p + 6 from rfl, hc.2.1 i]
        simp [hs]
      by_cases hb : bt (S &&& I (p + 1 + 5) (6 * k + m)) i = false
      · rw [if_pos ((b_get0 (by omega)).mpr hb)]
        refine ih (r - 1) _ _ (by omega) ⟨i + 1, by omega, nI_1 i, fun t ht => ?_⟩
        rw [g t ht]
        constructor
        · rintro ⟨s, q1, q2⟩; exact ⟨s, by omega, q2⟩
        · rintro ⟨s, q1, q2, q3, q4⟩
          by_cases e : s = i
          · subst e
            rw [bb, q2] at hb
            simp [q3] at hb
          · exact ⟨s, by omega, q2, q3, q4⟩
      · rw [if_neg (fun e => hb ((b_get0 (by omega)).mp e))]
        have hb1 : bt S i = true ∧ pY P k m i ≠ -1 := by
          rw [bb] at hb
          simpa using hb
        obtain ⟨a, b, ha, hb2, e1, e2, -⟩ := tr_of hW hk hm hs hb1.2
        have nx : ∀ c, c < 6 → fol P k m i z = nI c → WP (self (X ||| ((1 : Int32) <<< (nI c &&& 31))) (nI i + 1)) (fun X => ∀ t, t < 32 → (bt X t = true ↔ ∃ s, s < nS P k ∧ bt S s = true ∧ pY P k m s ≠ -1 ∧ fol P k m s z = nI t)) := by
          intro c hc6 hf
          refine ih (r - 1) _ _ (by omega) ⟨i + 1, by omega, nI_1 i, fun t ht => ?_⟩
          rw [b_or, Bool.or_eq_true, g t ht, b_one (by omega) ht, decide_eq_true_eq]
          constructor
          · rintro (⟨s, q1, q2⟩ | rfl)
            · exact ⟨s, by omega, q2⟩
            · exact ⟨i, by omega, hb1.1, hb1.2, hf⟩
          · rintro ⟨s, q1, q2, q3, q4⟩
            by_cases e : s = i
            · subst e
              right
              rw [hf] at q4
              exact (nI_inj (by omega) (by omega) q4).symm
            · exact Or.inl ⟨s, by omega, q2, q3, q4⟩
        have hv := hc.2.2 i hs hb1.2
        by_cases hz : z = 0
        · rw [if_pos hz, c2_ld7 hq (by omega), Option.bind_some, show p + 1 + 7 = p + 8 from rfl, hv.2, e2]
          exact nx b (by omega) (by unfold fol; rw [if_pos hz, e2])
        · rw [if_neg hz, c2_ld6 hq (by omega), Option.bind_some, show p + 1 + 6 = p + 7 from rfl, hv.1, e1]
          exact nx a (by omega) (by unfold fol; rw [if_neg hz, e1])
  · rw [b_0]
    constructor
    · intro e; cases e
    · rintro ⟨s, q, -⟩; omega
end Image
