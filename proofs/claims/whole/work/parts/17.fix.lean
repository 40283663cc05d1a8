/-! GROWING SETS of numbers below N come to a stand within N steps -/
def cnt : Nat → (Nat → Bool) → Nat
  | 0, _ => 0
  | N + 1, f => cnt N f + (if f N then 1 else 0)
theorem cnt_le (N : Nat) (f : Nat → Bool) : cnt N f ≤ N := by
  induction N with
  | zero => exact Nat.le_refl _
  | succ N ih => unfold cnt; split <;> omega
theorem cnt_mono {N : Nat} {f g : Nat → Bool} (h : ∀ s, s < N → f s = true → g s = true) : cnt N f ≤ cnt N g := by
  induction N with
  | zero => exact Nat.le_refl _
  | succ N ih =>
    unfold cnt
    have h1 := ih (fun s hs => h s (by omega))
    have h2 := h N (by omega)
    cases hf : f N
    · simp; omega
    · simp [h2 hf]; omega
theorem cnt_lt {N : Nat} {f g : Nat → Bool} (h : ∀ s, s < N → f s = true → g s = true) {t : Nat} (ht : t < N) (h1 : f t = false) (h2 : g t = true) : cnt N f < cnt N g := by
  induction N with
  | zero => omega
  | succ N ih =>
    unfold cnt
    by_cases htn : t = N
    · subst htn
      have h3 := cnt_mono (N := t) (f := f) (g := g) (fun s hs => h s (by omega))
      simp [h1, h2]; omega
    · have h3 := ih (fun s hs => h s (by omega)) (by omega)
      have h4 := h N (by omega)
      cases hf : f N
      · simp; omega
      · simp [h4 hf]; omega
theorem cnt_pos {N : Nat} {f : Nat → Bool} {t : Nat} (ht : t < N) (h : f t = true) : 1 ≤ cnt N f := by
  have := cnt_lt (N := N) (f := fun _ => false) (g := f) (fun s _ h => by cases h) ht rfl h
  omega
section Stab
variable {N : Nat} {f : Nat → Nat → Bool}
theorem stab_or (mono : ∀ n s, s < N → f n s = true → f (n + 1) s = true) : ∀ K, (∃ n, n ≤ K ∧ ∀ s, s < N → f (n + 1) s = f n s) ∨ cnt N (f 0) + (K + 1) ≤ cnt N (f (K + 1)) := by
  have one : ∀ K, (∀ s, s < N → f (K + 1) s = f K s) ∨ cnt N (f K) < cnt N (f (K + 1)) := by
    intro K
    by_cases h : ∀ s, s < N → f (K + 1) s = f K s
    · exact Or.inl h
    · right
      obtain ⟨s, h⟩ := Classical.not_forall.mp h
      obtain ⟨hs, h⟩ := Classical.not_imp.mp h
      have h1 : f K s = false := by
        cases hk : f K s
        · rfl
        · exact absurd ((mono K s hs hk).trans hk.symm) h
      have h2 : f (K + 1) s = true := by
        cases hk : f (K + 1) s
        · exact absurd (hk.trans h1.symm) h
        · rfl
      exact cnt_lt (mono K) hs h1 h2
  intro K
  induction K with
  | zero =>
    rcases one 0 with h | h
    · exact Or.inl ⟨0, Nat.le_refl _, h⟩
    · exact Or.inr h
  | succ K ih =>
    rcases ih with ⟨n, h1, h2⟩ | h1
    · exact Or.inl ⟨n, by omega, h2⟩
    · rcases one (K + 1) with h | h
      · exact Or.inl ⟨K + 1, Nat.le_refl _, h⟩
      · exact Or.inr (by omega)
theorem stab_on (det : ∀ n, (∀ s, s < N → f (n + 1) s = f n s) → ∀ s, s < N → f (n + 2) s = f (n + 1) s) {n : Nat} (h : ∀ s, s < N → f (n + 1) s = f n s) : ∀ d s, s < N → f (n + d) s = f n s := by
  have h2 : ∀ d s, s < N → f (n + d + 1) s = f (n + d) s := by
    intro d
    induction d with
    | zero => exact h
    | succ d ih => exact det _ ih
  intro d
  induction d with
  | zero => intro s _; rfl
  | succ d ih => intro s hs; exact (h2 d s hs).trans (ih s hs)
theorem stab {K : Nat} (mono : ∀ n s, s < N → f n s = true → f (n + 1) s = true) (det : ∀ n, (∀ s, s < N → f (n + 1) s = f n s) → ∀ s, s < N → f (n + 2) s = f (n + 1) s) (hK : N < cnt N (f 0) + (K + 1)) : ∀ n, K ≤ n → ∀ s, s < N → f n s = f K s := by
  rcases stab_or mono K with ⟨m, h1, h2⟩ | h
  · intro n hn s hs
    have e1 := stab_on det h2 (n - m) s hs
    have e2 := stab_on det h2 (K - m) s hs
    rw [show m + (n - m) = n by omega] at e1
    rw [show m + (K - m) = K by omega] at e2
    rw [e1, e2]
  · have := cnt_le N (f (K + 1))
    omega
end Stab
