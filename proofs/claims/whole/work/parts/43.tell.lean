/-! TELL: a transition is changed -/
section Tell
variable {sw : Bool} {I I' : Nat → Nat → Int32} {L : Nat → Nat → Int64} {J : Nat → Nat → Int32} {K : Nat → Nat → Int64} {p fu k m s : Nat} {P P' : Nat → Int32} {y n : Int32}
/-- P' is P with y and n at a cell -/
def TP (P P' : Nat → Int32) (k m s : Nat) (y n : Int32) : Prop := P' (39 + 6 * (6 * k + m) + s) = y ∧ P' (183 + 6 * (6 * k + m) + s) = n ∧ ∀ j, j ≠ 39 + 6 * (6 * k + m) + s → j ≠ 183 + 6 * (6 * k + m) + s → P' j = P j
def TI (p : Nat) (I I' : Nat → Nat → Int32) (k m s : Nat) (y n : Int32) : Prop :=
  (∀ b, b ≠ p + 6 → b ≠ p + 7 → b ≠ p + 8 → I' b = I b) ∧ (∀ j, j ≠ 6 * k + m → I' (p + 6) j = I (p + 6) j) ∧ (∀ t, bt (I' (p + 6) (6 * k + m)) t = if t = s then decide (y ≠ -1) else bt (I (p + 6) (6 * k + m)) t) ∧
  (∀ j, j ≠ 6 * (6 * k + m) + s → I' (p + 7) j = I (p + 7) j ∧ I' (p + 8) j = I (p + 8) j) ∧ (y ≠ -1 → I' (p + 7) (6 * (6 * k + m) + s) = y ∧ I' (p + 8) (6 * (6 * k + m) + s) = n)
theorem TP_lo (hk : k < 4) (hm : m < 6) (hs : s < 6) (h : TP P P' k m s y n) {j : Nat} (hj : j < 39 ∨ 327 ≤ j) : P' j = P j := h.2.2 j (by omega) (by omega)
theorem TP_Y {k2 m2 s2 : Nat} (hk : k < 4) (hm : m < 6) (hs : s < 6) (hm2 : m2 < 6) (hs2 : s2 < 6) (hk2 : k2 < 4) (h : TP P P' k m s y n) : (pY P' k2 m2 s2 = if k2 = k ∧ m2 = m ∧ s2 = s then y else pY P k2 m2 s2) ∧ (pN P' k2 m2 s2 = if k2 = k ∧ m2 = m ∧ s2 = s then n else pN P k2 m2 s2) := by
  by_cases e : k2 = k ∧ m2 = m ∧ s2 = s
  · obtain ⟨rfl, rfl, rfl⟩ := e
    rw [if_pos ⟨rfl, rfl, rfl⟩, if_pos ⟨rfl, rfl, rfl⟩]
    exact ⟨h.1, h.2.1⟩
  · rw [if_neg e, if_neg e]
    exact ⟨h.2.2 _ (by omega) (by omega), h.2.2 _ (by omega) (by omega)⟩
theorem WFK_tell (hW : WFK P) (hk : k < nK P) (hm : m < nM P k) (hs : s < nS P k) (h : TP P P' k m s y n) (hc : (y = -1 ∧ n = -1) ∨ ∃ a b, a < nS P k ∧ b < nS P k ∧ y = nI a ∧ n = nI b ∧ (pSo P k m ≠ 1 → a = b) ∧ (pSo P k m = 2 → a = s)) : WFK P' := by
  have h4 := hW.1.1.2
  have h6 := (hW.2 k hk).1.2.2
  have h7 := (hW.2 k hk).2.2.1.2
  have lo : ∀ j, j < 39 ∨ 327 ≤ j → P' j = P j := fun j hj => TP_lo (by omega) (by omega) (by omega) h hj
  unfold WFK WFn WFk WFm WFt at *
  have eK : nK P' = nK P := congrArg nN (lo 0 (by omega))
  have eV : nV P' = nV P := congrArg nN (lo 1 (by omega))
  have eT : nT P' = nT P := congrArg nN (lo 2 (by omega))
  simp only [eK, eV, eT, lo 0 (by omega), lo 1 (by omega), lo 2 (by omega)]
  refine ⟨hW.1, fun k2 hk2 => ?_⟩
  have w2 := hW.2 k2 hk2
  have e3 : P' (3 + k2) = P (3 + k2) := lo _ (by omega)
  have e7 : P' (7 + k2) = P (7 + k2) := lo _ (by omega)
  have e11 : P' (11 + k2) = P (11 + k2) := lo _ (by omega)
  have eS : nS P' k2 = nS P k2 := congrArg nN e3
  have eM : nM P' k2 = nM P k2 := congrArg nN e11
  have eE : pE P' k2 = pE P k2 := e7
  simp only [eS, eM, eE, e3, e11]
  refine ⟨w2.1, w2.2.1, w2.2.2.1, fun m2 hm2 => ?_⟩
  have w3 := w2.2.2.2 m2 hm2
  have l2 := w2.2.2.1.2
  have l3 := w2.1.2.2
  have e15 : P' (15 + 6 * k2 + m2) = P (15 + 6 * k2 + m2) := lo _ (by omega)
  have eO : pSo P' k2 m2 = pSo P k2 m2 := e15
  simp only [eO]
  refine ⟨w3.1, fun s2 hs2 => ?_⟩
  have e := TP_Y (k2 := k2) (m2 := m2) (s2 := s2) (by omega) (by omega) (by omega) (by omega) (by omega) (by omega) h
  rw [e.1, e.2]
  by_cases c : k2 = k ∧ m2 = m ∧ s2 = s
  · obtain ⟨rfl, rfl, rfl⟩ := c
    simp only [and_self, if_true]
    exact hc
  · simp only [if_neg c]
    exact w3.2 s2 hs2
theorem CRk_tell (hW : WFK P) (hR : CRk p I P) (hk : k < nK P) (hm : m < nM P k) (hs : s < nS P k) (h : TP P P' k m s y n) (hI : TI p I I' k m s y n) : CRk p I' P' := by
  have h4 := hW.1.1.2
  have h6 := (hW.2 k hk).1.2.2
  have h7 := (hW.2 k hk).2.2.1.2
  have lo : ∀ j, j < 39 ∨ 327 ≤ j → P' j = P j := fun j hj => TP_lo (by omega) (by omega) (by omega) h hj
  obtain ⟨i1, i2, i3, i4, i5⟩ := hI
  unfold CRk CRm at *
  rw [i1 (p + 1) (by omega) (by omega) (by omega), i1 (p + 2) (by omega) (by omega) (by omega), i1 (p + 3) (by omega) (by omega) (by omega), i1 (p + 4) (by omega) (by omega) (by omega), i1 (p + 5) (by omega) (by omega) (by omega)]
  have eK : nK P' = nK P := congrArg nN (lo 0 (by omega))
  simp only [eK, lo 0 (by omega)]
  refine ⟨hR.1, fun k2 hk2 => ?_⟩
  have w2 := hW.2 k2 hk2
  have r2 := hR.2 k2 hk2
  have e3 : P' (3 + k2) = P (3 + k2) := lo _ (by omega)
  have e7 : P' (7 + k2) = P (7 + k2) := lo _ (by omega)
  have e11 : P' (11 + k2) = P (11 + k2) := lo _ (by omega)
  have eS : nS P' k2 = nS P k2 := congrArg nN e3
  have eM : nM P' k2 = nM P k2 := congrArg nN e11
  have eE : pE P' k2 = pE P k2 := e7
  simp only [eS, eM, eE, e3, e11]
  refine ⟨r2.1, r2.2.1, r2.2.2.1, fun m2 hm2 => ?_⟩
  have r3 := r2.2.2.2 m2 hm2
  have l2 := w2.2.2.1.2
  have l3 := w2.1.2.2
  have e15 : P' (15 + 6 * k2 + m2) = P (15 + 6 * k2 + m2) := lo _ (by omega)
  have eO : pSo P' k2 m2 = pSo P k2 m2 := e15
  simp only [eO]
  have ee := fun s2 (hs2 : s2 < 6) => TP_Y (k2 := k2) (m2 := m2) (s2 := s2) (by omega) (by omega) (by omega) (by omega) (by omega) (by omega) h
  refine ⟨r3.1, fun t => ?_, fun s2 hs2 => ?_⟩
  · by_cases ht : t < nS P k2
    · rw [(ee t (by omega)).1]
      by_cases c : k2 = k ∧ m2 = m
      · obtain ⟨rfl, rfl⟩ := c
        rw [i3 t]
        by_cases c2 : t = s
        · simp [c2, hs]
        · simp only [c2, and_false, if_false]
          exact r3.2.1 t
      · rw [i2 _ (by omega), if_neg (fun q => c ⟨q.1, q.2.1⟩)]
        exact r3.2.1 t
    · simp only [ht, decide_false, Bool.false_and]
      have := r3.2.1 t
      simp only [ht, decide_false, Bool.false_and] at this
      by_cases c : k2 = k ∧ m2 = m
      · obtain ⟨rfl, rfl⟩ := c
        rw [i3 t, if_neg (by omega)]
        exact this
      · rw [i2 _ (by omega)]
        exact this
  · rw [(ee s2 (by omega)).1, (ee s2 (by omega)).2]
    by_cases c : k2 = k ∧ m2 = m ∧ s2 = s
    · obtain ⟨rfl, rfl, rfl⟩ := c
      simp only [and_self, if_true]
      exact i5
    · simp only [if_neg c]
      rw [(i4 _ (by omega)).1, (i4 _ (by omega)).2]
      exact r3.2.2 s2 hs2
theorem ix_row2 {a s : Nat} : nI a * (6 : Int32) + nI s = nI (6 * a + s) := by
  rw [show (6 : Int32) = nI 6 from rfl, pk_mul, nI_add, Nat.mul_comm]
theorem c_allow (hp : isP p) (hk : k < 4) (hm : m < 6) (hs : s < 6) (hy : y ≠ -1) : ∃ I', MX2_allow (p + 1) (nI k) (nI m) (nI s) y n (mkC sw I L) = some (mkC sw I' L) ∧ TI p I I' k m s y n := by
  have hq := isP_K hp
  simp only [MX2_allow, c2_g hq, c2_r5 hq, Option.bind_some, ix_met]
  rw [c2_ld5 hq (by omega), Option.bind_some, c2_st5 hq (by omega), Option.bind_some]
  simp only [c2_r6 hq, Option.bind_some, ix_row2]
  rw [c2_st6 hq (by omega), Option.bind_some, c2_r7 hq, Option.bind_some, c2_st7 hq (by omega), Option.bind_some]
  refine ⟨_, rfl, fun b h1 h2 h3 => ?_, fun j hj => ?_, fun t => ?_, fun j hj => ?_, fun _ => ?_⟩
  · rw [ur_ne (by omega), ur_ne (by omega), ur_ne (by omega)]
  · rw [ur_ne (by omega), ur_ne (by omega), show p + 1 + 5 = p + 6 from rfl, ur_at, up_ne hj]
  · rw [ur_ne (by omega), ur_ne (by omega), show p + 1 + 5 = p + 6 from rfl, ur_at, up_at]
    by_cases h32 : t < 32
    · rw [b_or, b_one (by omega) h32]
      by_cases e : t = s
      · simp [e, hy]
      · simp [e]
    · rw [b_big (by omega), if_neg (by omega), b_big (by omega)]
  · constructor
    · rw [ur_ne (by omega), show p + 1 + 6 = p + 7 from rfl, ur_at, up_ne hj, ur_ne (by omega)]
    · rw [show p + 1 + 7 = p + 8 from rfl, ur_at, up_ne hj, ur_ne (by omega), ur_ne (by omega)]
  · constructor
    · rw [ur_ne (by omega), show p + 1 + 6 = p + 7 from rfl, ur_at, up_at]
    · rw [show p + 1 + 7 = p + 8 from rfl, ur_at, up_at]
end Tell
