/-! measureSteps, methodTo: the class -/
/-- the first i (of n from i on) of which c holds, or -1 -/
def fnd (c : Nat → Bool) : Nat → Nat → Int32
  | 0, _ => -1
  | n + 1, i => if c i then nI i else fnd c n (i + 1)
theorem fnd_none {c : Nat → Bool} : ∀ {n i : Nat}, i + n < 2 ^ 31 → (fnd c n i = -1 ↔ ∀ j, i ≤ j → j < i + n → c j = false) := by
  intro n
  induction n with
  | zero => intro i _; exact ⟨fun _ j h1 h2 => by omega, fun _ => rfl⟩
  | succ n ih =>
    intro i hi
    unfold fnd
    by_cases h : c i = true
    · rw [if_pos h]
      constructor
      · intro e
        have := congrArg Int32.toInt e
        rw [n_i (by omega), show (-1 : Int32).toInt = -1 from rfl] at this
        omega
      · intro e
        rw [e i (Nat.le_refl _) (by omega)] at h
        cases h
    · rw [if_neg h, ih (by omega)]
      constructor
      · intro e j h1 h2
        by_cases hj : j = i
        · subst hj; simpa using h
        · exact e j (by omega) (by omega)
      · intro e j h1 h2
        exact e j (by omega) (by omega)
section EndsC
variable {sw : Bool} {I : Nat → Nat → Int32} {L : Nat → Nat → Int64} {p fu : Nat} {P : Nat → Int32}
theorem CRk_ur {a : Nat} {f : Nat → Int32} (ha : a < p + 1 ∨ p + 8 < a) (h : CRk p I P) : CRk p (ur I a f) P := by
  have e : ∀ d, 1 ≤ d → d ≤ 8 → ur I a f (p + d) = I (p + d) := fun d h1 h2 => ur_ne (by omega)
  unfold CRk CRm at *
  simp only [e 1 (by decide) (by decide), e 2 (by decide) (by decide), e 3 (by decide) (by decide), e 4 (by decide) (by decide), e 5 (by decide) (by decide), e 6 (by decide) (by decide), e 7 (by decide) (by decide), e 8 (by decide) (by decide)]
  exact h
def mcond (P : Nat → Int32) (k s : Nat) (f : Nat → Int32) (y : Int32) (m : Nat) : Bool := decide (pY P k m s ≠ -1) && (decide (f (nN (pY P k m s)) = y) || decide (f (nN (pN P k m s)) = y))
theorem c_methodTo {k s : Nat} {y : Int32} (hp : isP p) (hR : CRk p I P) (hW : WFK P) (hk : k < nK P) (hs : s < nS P k) (hf : 6 < fu) : MX2_methodTo fu (p + 1) (nI k) (nI s) y (mkC sw I L) = some (fnd (mcond P k s (I (p + 9)) y) (nM P k) 0) := by
  have hq := isP_K hp
  have h4 := hW.1.1.2
  have hw := hW.2 k hk
  have h6 := hw.1.2.2
  have h7 := hw.2.2.1.2
  simp only [MX2_methodTo, c2_g hq]
  refine wh1_rule (fun r v => ∃ m, m + r = nM P k ∧ v = nI m ∧ fnd (mcond P k s (I (p + 9)) y) r m = fnd (mcond P k s (I (p + 9)) y) (nM P k) 0) ?_ fu (nM P k) _ (by omega) ⟨0, by omega, rfl, rfl⟩
  rintro r v self ⟨m, hm, rfl, he⟩ ih
  simp only [MX2_methodTo_B3, c2_r3 hq, c2_r8 hq, Option.bind_some, jn]
  rw [c2_ld3 hq (show k < 4 by omega), Option.bind_some, show p + 1 + 3 = p + 4 from rfl, (hR.2 k hk).2.2.1, hw.2.2.1.1]
  by_cases hr : r = 0
  · subst hr
    rw [if_pos (nI_le (by omega) (by omega)), ← he]
    rfl
  · obtain ⟨r, rfl⟩ : ∃ r', r = r' + 1 := ⟨r - 1, by omega⟩
    have hm2 : m < nM P k := by omega
    rw [if_neg (nI_ge (by omega) (by omega)), c_canBe hp (by omega) (by omega) (by omega), Option.bind_some, c_following hp hR hW hk hm2 hs, c_following hp hR hW hk hm2 hs, ((hR.2 k hk).2.2.2 m hm2).2.1 s]
    simp only [Option.bind_some, if_neg (show ¬ (1 : Int32) = 0 by decide), if_true, ite0, hs, decide_true, Bool.true_and]
    have hnx : ∀ z, mcond P k s (I (p + 9)) y m = false → self (nI m + 1) = z ∨ self (nI m + 1) = some (fnd (mcond P k s (I (p + 9)) y) (nM P k) 0) := by
      intro z hc
      right
      refine ih r _ (by omega) ⟨m + 1, by omega, nI_1 m, ?_⟩
      rw [← he]
      show _ = if mcond P k s (I (p + 9)) y m = true then nI m else fnd (mcond P k s (I (p + 9)) y) r (m + 1)
      rw [if_neg (by rw [hc]; decide)]
    have hnext : mcond P k s (I (p + 9)) y m = false → self (nI m + 1) = some (fnd (mcond P k s (I (p + 9)) y) (nM P k) 0) := fun hc => (hnx _ hc).elim id id
    have hhit : mcond P k s (I (p + 9)) y m = true → some (nI m) = some (fnd (mcond P k s (I (p + 9)) y) (nM P k) 0) := by
      intro hc
      rw [← he]
      show _ = some (if mcond P k s (I (p + 9)) y m = true then nI m else fnd (mcond P k s (I (p + 9)) y) r (m + 1))
      rw [if_pos hc]
    by_cases hy : pY P k m s = -1
    · rw [if_pos (by simp [hy])]
      exact hnext (by simp [mcond, hy])
    · obtain ⟨a, b, ha, hb, e1, e2, -⟩ := tr_of hW hk hm2 hs hy
      rw [if_neg (by simp [hy]), e1, e2, c2_ld8 hq (show a < 6 by omega), c2_ld8 hq (show b < 6 by omega), Option.bind_some, Option.bind_some, show p + 1 + 8 = p + 9 from rfl]
      by_cases c1 : I (p + 9) a = y
      · rw [if_pos c1]
        exact hhit (by simp only [mcond, e1, e2, nN_nI (show a < 2 ^ 31 by omega), c1, decide_true, Bool.true_or, Bool.and_true, decide_eq_true_eq]; rw [← e1]; exact hy)
      · rw [if_neg c1]
        by_cases c2 : I (p + 9) b = y
        · rw [if_pos c2]
          exact hhit (by simp only [mcond, e1, e2, nN_nI (show b < 2 ^ 31 by omega), c2, decide_true, Bool.or_true, Bool.and_true, decide_eq_true_eq]; rw [← e1]; exact hy)
        · rw [if_neg c2]
          exact hnext (by simp only [mcond, e1, e2, nN_nI (show a < 2 ^ 31 by omega), nN_nI (show b < 2 ^ 31 by omega), c1, c2, decide_false, Bool.or_self, Bool.and_false])
end EndsC
