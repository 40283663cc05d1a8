/-! TOWARDS AN END -/
theorem rb_lo {P : Nat → Int32} {k n s m a b : Nat} (hW : WFK P) (hk : k < nK P) (hb : rb P k n s = false) (hm : m < nM P k) (e1 : pY P k m s = nI a) (e2 : pN P k m s = nI b) (ha : a < nS P k) (hb2 : b < nS P k) : ∀ e, e < n → rb P k e a = false ∧ rb P k e b = false := by
  have h6 := (hW.2 k hk).1.2.2
  intro e he
  have q : rb P k (e + 1) s = false := by
    cases hx : rb P k (e + 1) s
    · rfl
    · rw [rb_ge hx (by omega)] at hb; cases hb
  have hy : pY P k m s ≠ -1 := by rw [e1]; exact nI_ne_m1 (by omega)
  constructor
  · cases hx : rb P k e a
    · rfl
    · rw [rb_succ.mpr (Or.inr ⟨m, hm, hy, Or.inl (by rw [e1, nN_nI (by omega)]; exact hx)⟩)] at q; cases q
  · cases hx : rb P k e b
    · rfl
    · rw [rb_succ.mpr (Or.inr ⟨m, hm, hy, Or.inr (by rw [e2, nN_nI (by omega)]; exact hx)⟩)] at q; cases q
theorem mc_ex {P : Nat → Int32} {k n s : Nat} {f : Nat → Int32} (hW : WFK P) (hk : k < nK P) (hs : s < nS P k) (hn : n ≤ nS P k - 1) (hf : ∀ t, t < nS P k → EV1 P k (nS P k - 1) t (f t)) (hb : rb P k n s = false) (hc : rb P k (n + 1) s = true) : fnd (mcond P k s f (nI n)) (nM P k) 0 ≠ -1 := by
  have h6 := (hW.2 k hk).1.2.2
  have h7 := (hW.2 k hk).2.2.1.2
  intro h
  rw [fnd_none (by omega)] at h
  rcases rb_succ.mp hc with h2 | ⟨m, hm, hy, h2⟩
  · rw [h2] at hb; cases hb
  · obtain ⟨a, b, ha, hb2, e1, e2, -⟩ := tr_of hW hk hm hs hy
    have q := h m (by omega) (by omega)
    rw [e1, e2, nN_nI (by omega), nN_nI (by omega)] at h2
    have l := rb_lo hW hk hb hm e1 e2 ha hb2
    have : mcond P k s f (nI n) m = true := by
      simp only [mcond, Bool.and_eq_true, Bool.or_eq_true, decide_eq_true_eq]
      refine ⟨hy, ?_⟩
      rw [e1, e2, nN_nI (by omega), nN_nI (by omega)]
      rcases h2 with h2 | h2
      · exact Or.inl ((EV1_eq (hf a ha) hn (by omega)).mpr ⟨h2, fun e he => (l e he).1⟩)
      · exact Or.inr ((EV1_eq (hf b hb2) hn (by omega)).mpr ⟨h2, fun e he => (l e he).2⟩)
    rw [this] at q; cases q
theorem least_iff {P : Nat → Int32} {k n s m : Nat} {f g : Nat → Int32} (hW : WFK P) (hk : k < nK P) (hs : s < nS P k) (hm : m < nM P k) (hn : n ≤ 5) (hf : ∀ t, t < nS P k → EV1 P k (nS P k - 1) t (f t)) (hg : ∀ t, t < nS P k → EW P k 6 t (g t)) (hb : rb P k n s = false) :
    ((if pY P k m s = -1 then 99 else if pSo P k m = 2 then 99 else jmin (g (nN (pY P k m s))) (g (nN (pN P k m s))) + 1) = nI (n + 1)) ↔ mcond P k s f (nI n) m = true := by
  have h6 := (hW.2 k hk).1.2.2
  have n99 : ∀ c, c ≤ 98 → ¬ (99 : Int32) = nI c := by
    intro c hc e
    have := nI_inj (a := 99) (b := c) (by omega) (by omega) e
    omega
  by_cases hy : pY P k m s = -1
  · rw [if_pos hy]
    constructor
    · intro e; exact absurd e (n99 _ (by omega))
    · intro e; simp [mcond, hy] at e
  · obtain ⟨a, b, ha, hb2, e1, e2, ea, es⟩ := tr_of hW hk hm hs hy
    have l := rb_lo hW hk hb hm e1 e2 ha hb2
    have mc : mcond P k s f (nI n) m = true ↔ (f a = nI n ∨ f b = nI n) := by
      simp only [mcond, Bool.and_eq_true, Bool.or_eq_true, decide_eq_true_eq]
      rw [e1, e2, nN_nI (by omega), nN_nI (by omega)]
      exact ⟨fun h => h.2, fun h => ⟨nI_ne_m1 (by omega), h⟩⟩
    rw [if_neg hy, mc]
    have val : ∀ t, t < nS P k → (∀ e, e < n → rb P k e t = false) → ∃ v, v ≤ 99 ∧ n ≤ v ∧ g t = nI v ∧ (f t = nI n ↔ v = n) := by
      intro t ht hl
      obtain ⟨v, v1, v2, v3, v4⟩ := hg t ht
      refine ⟨v, v1, ?_, v2, ?_⟩
      · by_cases c : v < n
        · have q := v3 (by omega)
          rw [hl v c] at q; cases q
        · omega
      · rcases ev_ew hW hk ht (hf t ht) (hg t ht) with ⟨x1, x2⟩ | ⟨d, hd, x1, x2⟩
        · rw [x1]
          rw [x2] at v2
          have : 99 = v := nI_inj (a := 99) (by omega) (by omega) v2
          constructor
          · intro e; exact absurd e.symm (nI_ne_m1 (by omega))
          · intro e; omega
        · rw [x1]
          rw [x2] at v2
          have : d = v := nI_inj (by omega) (by omega) v2
          subst this
          constructor
          · intro e; exact nI_inj (by omega) (by omega) e
          · intro e; rw [e]
    by_cases hz : pSo P k m = 2
    · rw [if_pos hz]
      constructor
      · intro e; exact absurd e (n99 _ (by omega))
      · intro e
        exfalso
        have e3 : a = b := ea (by rw [hz]; decide)
        have e4 := es hz
        subst e3; subst e4
        have e5 : f a = nI n := e.elim id id
        rcases hf a hs with ⟨x1, -⟩ | ⟨d, hd, x1, x2, -⟩
        · rw [x1] at e5; exact nI_ne_m1 (by omega) e5.symm
        · rw [x1] at e5
          have := nI_inj (by omega) (by omega) e5
          subst this
          rw [x2] at hb; cases hb
    · rw [if_neg hz, e1, e2, nN_nI (by omega), nN_nI (by omega)]
      obtain ⟨x, x1, x2, x3, x4⟩ := val a ha (fun e he => (l e he).1)
      obtain ⟨y, y1, y2, y3, y4⟩ := val b hb2 (fun e he => (l e he).2)
      rw [x3, y3, x4, y4, jmin_nI (by omega) (by omega), nI_1]
      constructor
      · intro e
        have := nI_inj (by omega) (by omega) e
        omega
      · intro e
        rw [show min x y = n by omega]
