/-! FROM STATE TO STATE -/
/-- from s one comes to t within n steps -/
def pth (P : Nat → Int32) (k : Nat) : Nat → Nat → Nat → Prop
  | 0, s, t => s = t
  | n + 1, s, t => pth P k n s t ∨ ∃ m, m < nM P k ∧ pY P k m s ≠ -1 ∧ (pth P k n (nN (pY P k m s)) t ∨ pth P k n (nN (pN P k m s)) t)
/-- one step -/
def stp (P : Nat → Int32) (k s t : Nat) : Prop := ∃ m, m < nM P k ∧ pY P k m s ≠ -1 ∧ (nN (pY P k m s) = t ∨ nN (pN P k m s) = t)
theorem pth_step {P : Nat → Int32} {k : Nat} : ∀ {n s t u : Nat}, pth P k n s t → stp P k t u → pth P k (n + 1) s u := by
  intro n
  induction n with
  | zero =>
    intro s t u h hs
    obtain rfl : s = t := h
    obtain ⟨m, h1, h2, h3⟩ := hs
    exact Or.inr ⟨m, h1, h2, h3⟩
  | succ n ih =>
    intro s t u h hs
    rcases h with h | ⟨m, h1, h2, h3⟩
    · exact Or.inl (ih h hs)
    · exact Or.inr ⟨m, h1, h2, h3.elim (fun q => Or.inl (ih q hs)) (fun q => Or.inr (ih q hs))⟩
theorem pth_closed {P : Nat → Int32} {k : Nat} {X : Nat → Prop} (hX : ∀ s t, X s → stp P k s t → X t) : ∀ {n s t : Nat}, X s → pth P k n s t → X t := by
  intro n
  induction n with
  | zero => intro s t h e; obtain rfl : s = t := e; exact h
  | succ n ih =>
    intro s t h e
    rcases e with e | ⟨m, h1, h2, h3⟩
    · exact ih h e
    · rcases h3 with q | q
      · exact ih (hX _ _ h ⟨m, h1, h2, Or.inl rfl⟩) q
      · exact ih (hX _ _ h ⟨m, h1, h2, Or.inr rfl⟩) q
theorem rb_pth {P : Nat → Int32} {k : Nat} : ∀ {n s : Nat}, rb P k n s = true ↔ ∃ t, pth P k n s t ∧ bt (pE P k) t = true := by
  intro n
  induction n with
  | zero =>
    intro s
    constructor
    · intro h; exact ⟨s, rfl, h⟩
    · rintro ⟨t, e, h⟩
      obtain rfl : s = t := e
      exact h
  | succ n ih =>
    intro s
    rw [rb_succ]
    constructor
    · rintro (h | ⟨m, h1, h2, h3⟩)
      · obtain ⟨t, q1, q2⟩ := ih.mp h
        exact ⟨t, Or.inl q1, q2⟩
      · rcases h3 with h | h
        · obtain ⟨t, q1, q2⟩ := ih.mp h
          exact ⟨t, Or.inr ⟨m, h1, h2, Or.inl q1⟩, q2⟩
        · obtain ⟨t, q1, q2⟩ := ih.mp h
          exact ⟨t, Or.inr ⟨m, h1, h2, Or.inr q1⟩, q2⟩
    · rintro ⟨t, (e | ⟨m, h1, h2, h3⟩), q⟩
      · exact Or.inl (ih.mpr ⟨t, e, q⟩)
      · exact Or.inr ⟨m, h1, h2, h3.elim (fun e => Or.inl (ih.mpr ⟨t, e, q⟩)) (fun e => Or.inr (ih.mpr ⟨t, e, q⟩))⟩
/-- a state is hopeless when no end is to be reached from it -/
theorem rb_hope {P : Nat → Int32} {k s : Nat} (hW : WFK P) (hk : k < nK P) (hs : s < nS P k) : rb P k (nS P k - 1) s = false ↔ ∀ n t, pth P k n s t → bt (pE P k) t = false := by
  constructor
  · intro h n t e
    cases hb : bt (pE P k) t
    · rfl
    · have q := rb_pth.mpr ⟨t, e, hb⟩
      by_cases c : n ≤ nS P k - 1
      · rw [rb_ge q c] at h; cases h
      · rw [rb_stab hW hk n (by omega) s hs, h] at q; cases q
  · intro h
    cases hb : rb P k (nS P k - 1) s
    · rfl
    · obtain ⟨t, e, q⟩ := rb_pth.mp hb
      rw [h _ t e] at q; cases q
