/-! THE CLASS'S MEASURE OF STEPS -/
/-- what a measured step says, after n rounds -/
def EV1 (P : Nat → Int32) (k n s : Nat) (x : Int32) : Prop := (x = -1 ∧ rb P k n s = false) ∨ ∃ d, d ≤ n ∧ x = nI d ∧ rb P k d s = true ∧ ∀ e, e < d → rb P k e s = false
theorem nI_inj {a b : Nat} (ha : a < 2 ^ 31) (hb : b < 2 ^ 31) (h : nI a = nI b) : a = b := by
  have := congrArg nN h
  rwa [nN_nI ha, nN_nI hb] at this
theorem nI_ne_m1 {a : Nat} (ha : a < 2 ^ 31) : nI a ≠ -1 := by
  intro e
  have := congrArg Int32.toInt e
  rw [n_i (by omega), show (-1 : Int32).toInt = -1 from rfl] at this
  omega
theorem rb_ge {P : Nat → Int32} {k n N s : Nat} (h : rb P k n s = true) (hn : n ≤ N) : rb P k N s = true := by
  have := rb_le h (N - n)
  rwa [show n + (N - n) = N by omega] at this
theorem EV1_eq {P : Nat → Int32} {k n N s : Nat} {x : Int32} (h : EV1 P k N s x) (hn : n ≤ N) (hN : N < 2 ^ 31) : x = nI n ↔ (rb P k n s = true ∧ ∀ e, e < n → rb P k e s = false) := by
  rcases h with ⟨rfl, hb⟩ | ⟨d, hd, rfl, h1, h2⟩
  · constructor
    · intro e; exact absurd e.symm (nI_ne_m1 (by omega))
    · rintro ⟨e, -⟩
      rw [rb_ge e hn] at hb; cases hb
  · constructor
    · intro e
      have := nI_inj (by omega) (by omega) e
      subst this
      exact ⟨h1, h2⟩
    · rintro ⟨e1, e2⟩
      have : d = n := by
        rcases Nat.lt_trichotomy d n with h | h | h
        · rw [e2 d h] at h1; cases h1
        · exact h
        · rw [h2 n h] at e1; cases e1
      rw [this]
theorem rb_first {P : Nat → Int32} {k : Nat} : ∀ {n s : Nat}, rb P k n s = true → ∃ d, d ≤ n ∧ rb P k d s = true ∧ ∀ e, e < d → rb P k e s = false := by
  intro n
  induction n with
  | zero => intro s h; exact ⟨0, Nat.le_refl _, h, fun e he => by omega⟩
  | succ n ih =>
    intro s h
    cases hx : rb P k n s
    · refine ⟨n + 1, Nat.le_refl _, h, fun e he => ?_⟩
      cases hy : rb P k e s
      · rfl
      · rw [rb_ge hy (by omega)] at hx; cases hx
    · obtain ⟨d, h1, h2⟩ := ih hx
      exact ⟨d, by omega, h2⟩
theorem ev_step {P : Nat → Int32} {k n s : Nat} {f : Nat → Int32} (hW : WFK P) (hk : k < nK P) (hs : s < nS P k) (hn : n + 1 < 2 ^ 31) (hf : ∀ t, t < nS P k → EV1 P k n t (f t) ∨ EV1 P k (n + 1) t (f t)) (hb : rb P k n s = false) : fnd (mcond P k s f (nI n)) (nM P k) 0 = -1 ↔ rb P k (n + 1) s = false := by
  have h6 := (hW.2 k hk).1.2.2
  have h7 := (hW.2 k hk).2.2.1.2
  have ex : ∀ t, t < nS P k → (f t = nI n ↔ (rb P k n t = true ∧ ∀ e, e < n → rb P k e t = false)) := by
    intro t ht
    rcases hf t ht with h | h
    · exact EV1_eq h (Nat.le_refl _) (by omega)
    · exact EV1_eq h (by omega) (by omega)
  have lo : ∀ m a b, m < nM P k → pY P k m s = nI a → pN P k m s = nI b → a < nS P k → b < nS P k → ∀ e, e < n → rb P k e a = false ∧ rb P k e b = false := by
    intro m a b hm e1 e2 ha hb2 e he
    have q : rb P k (e + 1) s = false := by
      cases hx : rb P k (e + 1) s
      · rfl
      · rw [rb_ge hx (by omega)] at hb; cases hb
    have hy : pY P k m s ≠ -1 := by rw [e1]; exact nI_ne_m1 (by omega)
    constructor
    · cases hx : rb P k e a
      · rfl
      · rw [rb_succ.mpr (Or.inr ⟨m, hm, hy, Or.inl (by rw [e1, nN_nI (by omega)]; exact hx)⟩)] at q; cases q
    · cases hx : rb P k e b
      · rfl
      · rw [rb_succ.mpr (Or.inr ⟨m, hm, hy, Or.inr (by rw [e2, nN_nI (by omega)]; exact hx)⟩)] at q; cases q
  rw [fnd_none (by omega)]
  constructor
  · intro h
    cases hx : rb P k (n + 1) s
    · rfl
    · exfalso
      rcases rb_succ.mp hx with h2 | ⟨m, hm, hy, h2⟩
      · rw [h2] at hb; cases hb
      · obtain ⟨a, b, ha, hb2, e1, e2, -⟩ := tr_of hW hk hm hs hy
        have q := h m (by omega) (by omega)
        rw [e1, e2, nN_nI (by omega), nN_nI (by omega)] at h2
        have l := lo m a b hm e1 e2 ha hb2
        have : mcond P k s f (nI n) m = true := by
          simp only [mcond, Bool.and_eq_true, Bool.or_eq_true, decide_eq_true_eq]
          refine ⟨hy, ?_⟩
          rw [e1, e2, nN_nI (by omega), nN_nI (by omega)]
          rcases h2 with h2 | h2
          · exact Or.inl ((ex a ha).mpr ⟨h2, fun e he => (l e he).1⟩)
          · exact Or.inr ((ex b hb2).mpr ⟨h2, fun e he => (l e he).2⟩)
        rw [this] at q; cases q
  · intro h m _ hm
    cases hx : mcond P k s f (nI n) m
    · rfl
    · exfalso
      simp only [mcond, Bool.and_eq_true, Bool.or_eq_true, decide_eq_true_eq] at hx
      obtain ⟨hy, hx⟩ := hx
      obtain ⟨a, b, ha, hb2, e1, e2, -⟩ := tr_of hW hk (by omega) hs hy
      rw [e1, e2, nN_nI (by omega), nN_nI (by omega)] at hx
      have : rb P k (n + 1) s = true := by
        refine rb_succ.mpr (Or.inr ⟨m, by omega, hy, ?_⟩)
        rw [e1, e2, nN_nI (by omega), nN_nI (by omega)]
        rcases hx with hx | hx
        · exact Or.inl ((ex a ha).mp hx).1
        · exact Or.inr ((ex b hb2).mp hx).1
      rw [this] at h; cases h
