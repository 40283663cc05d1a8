/-! HOW FAR IT IS TO AN END -/
/-- from s an end comes within n steps -/
def rb (P : Nat → Int32) (k : Nat) : Nat → Nat → Bool
  | 0, s => bt (pE P k) s
  | n + 1, s => rb P k n s || (List.range (nM P k)).any (fun m => decide (pY P k m s ≠ -1) && (rb P k n (nN (pY P k m s)) || rb P k n (nN (pN P k m s))))
theorem rb_succ {P : Nat → Int32} {k n s : Nat} : rb P k (n + 1) s = true ↔ rb P k n s = true ∨ ∃ m, m < nM P k ∧ pY P k m s ≠ -1 ∧ (rb P k n (nN (pY P k m s)) = true ∨ rb P k n (nN (pN P k m s)) = true) := by
  rw [show rb P k (n + 1) s = (rb P k n s || (List.range (nM P k)).any (fun m => decide (pY P k m s ≠ -1) && (rb P k n (nN (pY P k m s)) || rb P k n (nN (pN P k m s))))) from rfl]
  simp only [Bool.or_eq_true, List.any_eq_true, List.mem_range, Bool.and_eq_true, decide_eq_true_eq]
theorem rb_mono {P : Nat → Int32} {k n s : Nat} (h : rb P k n s = true) : rb P k (n + 1) s = true := rb_succ.mpr (Or.inl h)
theorem rb_le {P : Nat → Int32} {k n s : Nat} (h : rb P k n s = true) : ∀ d, rb P k (n + d) s = true := by
  intro d
  induction d with
  | zero => exact h
  | succ d ih => exact rb_mono ih
/-- a state's followers are states -/
theorem tr_of {P : Nat → Int32} {k m s : Nat} (hW : WFK P) (hk : k < nK P) (hm : m < nM P k) (hs : s < nS P k) (hy : pY P k m s ≠ -1) : ∃ a b, a < nS P k ∧ b < nS P k ∧ pY P k m s = nI a ∧ pN P k m s = nI b ∧ (pSo P k m ≠ 1 → a = b) ∧ (pSo P k m = 2 → a = s) := by
  rcases ((hW.2 k hk).2.2.2 m hm).2 s hs with h | h
  · exact absurd h.1 hy
  · exact h
theorem rb_stab {P : Nat → Int32} {k : Nat} (hW : WFK P) (hk : k < nK P) : ∀ n, nS P k - 1 ≤ n → ∀ s, s < nS P k → rb P k n s = rb P k (nS P k - 1) s := by
  have h1 := (hW.2 k hk).1.2.1
  have h6 := (hW.2 k hk).1.2.2
  have det : ∀ n, (∀ s, s < nS P k → rb P k (n + 1) s = rb P k n s) → ∀ s, s < nS P k → rb P k (n + 2) s = rb P k (n + 1) s := by
    intro n h s hs
    have key : rb P k (n + 2) s = true ↔ rb P k (n + 1) s = true := by
      constructor
      · intro hz
        rcases rb_succ.mp hz with h2 | ⟨m, hm, hy, h2⟩
        · exact h2
        · obtain ⟨a, b, ha, hb, e1, e2, -⟩ := tr_of hW hk hm hs hy
          refine rb_succ.mpr (Or.inr ⟨m, hm, hy, ?_⟩)
          rw [e1, e2, nN_nI (by omega), nN_nI (by omega)] at h2 ⊢
          rw [h a ha, h b hb] at h2
          exact h2
      · exact rb_mono
    cases hx : rb P k (n + 1) s
    · cases hz : rb P k (n + 2) s
      · rfl
      · rw [key.mp hz] at hx; cases hx
    · exact key.mpr hx
  by_cases he : ∃ s, s < nS P k ∧ rb P k 0 s = true
  · obtain ⟨t, ht, hb⟩ := he
    have hc := cnt_pos (f := rb P k 0) ht hb
    exact stab (fun n s _ h => rb_mono h) det (by omega)
  · have hz : ∀ s, s < nS P k → rb P k (0 + 1) s = rb P k 0 s := by
      intro s hs
      cases hx : rb P k (0 + 1) s
      · cases hy : rb P k 0 s
        · rfl
        · exact absurd ⟨s, hs, hy⟩ he
      · exfalso
        rw [rb_succ] at hx
        rcases hx with h2 | ⟨m, hm, hy, h2⟩
        · exact he ⟨s, hs, h2⟩
        · obtain ⟨a, b, ha, hb, e1, e2, -⟩ := tr_of hW hk hm hs hy
          rw [e1, e2, nN_nI (by omega), nN_nI (by omega)] at h2
          rcases h2 with h2 | h2
          · exact he ⟨a, ha, h2⟩
          · exact he ⟨b, hb, h2⟩
    intro n _ s hs
    have e1 := stab_on det hz n s hs
    have e2 := stab_on det hz (nS P k - 1) s hs
    rw [Nat.zero_add] at e1 e2
    rw [e1, e2]
