/-! KINDS: reads of both -/
def stR (P : Nat → Int32) (x y : Int32) : Bool := inR x (nK P) && inR y (nS P (nN x))
def mtR (P : Nat → Int32) (x y : Int32) : Bool := inR x (nK P) && inR y (nM P (nN x))
def WFK (P : Nat → Int32) : Prop := WFn P ∧ ∀ k, k < nK P → WFk P k
theorem ix_cell {b k m s : Nat} : (nI b + (6 : Int32) * ((6 : Int32) * nI k + nI m)) + nI s = nI (b + 6 * (6 * k + m) + s) := by
  rw [show (6 : Int32) = nI 6 from rfl, pk_mul, nI_add, pk_mul, nI_add, nI_add]
theorem ix_row {k m s : Nat} : ((nI k * (6 : Int32) + nI m) * (6 : Int32)) + nI s = nI (6 * (6 * k + m) + s) := by
  rw [show (6 : Int32) = nI 6 from rfl, pk_mul, nI_add, pk_mul, nI_add]
  congr 1
  omega
theorem ix_met {k m : Nat} : nI k * (6 : Int32) + nI m = nI (6 * k + m) := by
  rw [show (6 : Int32) = nI 6 from rfl, pk_mul, nI_add]
  congr 1
  omega
theorem ix_met' {k m : Nat} : (6 : Int32) * nI k + nI m = nI (6 * k + m) := by
  rw [show (6 : Int32) = nI 6 from rfl, pk_mul, nI_add]
theorem ix_c {c k : Nat} {x : Int32} (hx : x = nI c) : x + nI k = nI (c + k) := by rw [hx, nI_add]
section KindRows
variable {sw : Bool} {I J : Nat → Nat → Int32} {L K : Nat → Nat → Int64} {q : Nat}
theorem m_yes {k m s : Nat} (hk : k < 4) (hm : m < 6) (hs : s < 6) : MX9_yes 0 (nI k) (nI m) (nI s) (mkM J K) = some (pY (J 2) k m s) := by
  simp only [MX9_yes, MX9_cell, MX9_methodAt, m_g, m_r1, Option.bind_some]
  rw [show (39 : Int32) = nI 39 from rfl, ix_cell, m_ld2 (by omega), Option.bind_some]
theorem m_no {k m s : Nat} (hk : k < 4) (hm : m < 6) (hs : s < 6) : MX9_no 0 (nI k) (nI m) (nI s) (mkM J K) = some (pN (J 2) k m s) := by
  simp only [MX9_no, MX9_cell, MX9_methodAt, m_g, m_r1, Option.bind_some]
  rw [show (183 : Int32) = nI 183 from rfl, ix_cell, m_ld2 (by omega), Option.bind_some]
theorem m_canBe {k m s : Nat} (hk : k < 4) (hm : m < 6) (hs : s < 6) : MX9_canBe 0 (nI k) (nI m) (nI s) (mkM J K) = some (if pY (J 2) k m s = -1 then 0 else 1) := by
  simp only [MX9_canBe, m_g, m_yes hk hm hs, Option.bind_some]
  split <;> rfl
theorem m_isState {x y : Int32} (hW : WFK (J 2)) : MX9_isState 0 x y (mkM J K) = some (if stR (J 2) x y then 1 else 0) := by
  simp only [MX9_isState, m_g, m_isKind hW.1.1.1 (show nK (J 2) < 2 ^ 30 by have := hW.1.1.2; omega), Option.bind_some, m_r1, jn]
  unfold stR
  by_cases h : inR x (nK (J 2)) = true
  · obtain ⟨k, hk, rfl⟩ := inR_of (by have := hW.1.1.2; omega) h
    have hw := hW.2 k hk
    have h4 := hW.1.1.2
    have h6 := hw.1.2.2
    have h7 := hw.2.2.1.2
    rw [h, if_pos rfl, if_neg (by decide), ix_c (x := 3) (c := 3) rfl, m_ld2 (by omega), Option.bind_some, hw.1.1, isFrom_n (by omega), Option.bind_some, nN_nI (by omega)]
    by_cases h2 : inR y (nS (J 2) k) = true
    · rw [h2]; rfl
    · have h2 : inR y (nS (J 2) k) = false := by simpa using h2
      rw [h2]; rfl
  · have h : inR x (nK (J 2)) = false := by simpa using h
    rw [h]
    rfl
theorem m_isMethod {x y : Int32} (hW : WFK (J 2)) : MX9_isMethod 0 x y (mkM J K) = some (if mtR (J 2) x y then 1 else 0) := by
  simp only [MX9_isMethod, m_g, m_isKind hW.1.1.1 (show nK (J 2) < 2 ^ 30 by have := hW.1.1.2; omega), Option.bind_some, m_r1, jn]
  unfold mtR
  by_cases h : inR x (nK (J 2)) = true
  · obtain ⟨k, hk, rfl⟩ := inR_of (by have := hW.1.1.2; omega) h
    have hw := hW.2 k hk
    have h4 := hW.1.1.2
    have h6 := hw.1.2.2
    have h7 := hw.2.2.1.2
    rw [h, if_pos rfl, if_neg (by decide), ix_c (x := 11) (c := 11) rfl, m_ld2 (by omega), Option.bind_some, hw.2.2.1.1, isFrom_n (by omega), Option.bind_some, nN_nI (by omega)]
    by_cases h2 : inR y (nM (J 2) k) = true
    · rw [h2]; rfl
    · have h2 : inR y (nM (J 2) k) = false := by simpa using h2
      rw [h2]; rfl
  · have h : inR x (nK (J 2)) = false := by simpa using h
    rw [h]
    rfl
-- the class
theorem rng_c {x : Int32} {n : Nat} (hn : n < 2 ^ 31) : (if x < 0 then some (0 : Int32) else if nI n ≤ x then some 0 else some 1) = some (if inR x n then 1 else 0) := by
  by_cases ha : x < 0
  · rw [if_pos ha, if_neg]
    rw [i_lt, z_i] at ha
    simp only [inR, decide_eq_true_eq]
    omega
  · rw [if_neg ha]
    rw [i_lt, z_i] at ha
    by_cases hb : nI n ≤ x
    · rw [if_pos hb, if_neg]
      rw [i_le, n_i hn] at hb
      simp only [inR, decide_eq_true_eq]
      omega
    · rw [if_neg hb, if_pos]
      rw [i_le, n_i hn] at hb
      simp only [inR, decide_eq_true_eq]
      omega
theorem c_hasKind {x : Int32} {n : Nat} (hq : isK q) (h : I q 0 = nI n) (hn : n < 2 ^ 31) : MX2_hasKind q x (mkC sw I L) = some (if inR x n then 1 else 0) := by
  simp only [MX2_hasKind, c2_g hq, c2_fI hq, Option.bind_some, jn, h]
  exact rng_c hn
variable {p : Nat} {P : Nat → Int32}
theorem c_hasState {x y : Int32} (hp : isP p) (hW : WFK P) (hR : CRk p I P) : MX2_hasState (p + 1) x y (mkC sw I L) = some (if stR P x y then 1 else 0) := by
  have hq := isP_K hp
  have h4 := hW.1.1.2
  simp only [MX2_hasState, c2_g hq, c_hasKind hq (hR.1.trans hW.1.1.1) (show nK P < 2 ^ 31 by omega), Option.bind_some, c2_r1 hq, jn]
  unfold stR
  by_cases h : inR x (nK P) = true
  · obtain ⟨k, hk, rfl⟩ := inR_of (by omega) h
    have hw := hW.2 k hk
    have h6 := hw.1.2.2
    have h7 := hw.2.2.1.2
    rw [h, if_pos rfl, if_neg (by decide), c2_ld1 hq (show k < 4 by omega), Option.bind_some, show p + 1 + 1 = p + 2 from rfl, (hR.2 k hk).1, hw.1.1, nN_nI (by omega)]
    rw [rng_c (by omega)]
    rfl
  · have h : inR x (nK P) = false := by simpa using h
    rw [h]
    rfl
theorem c_hasMethod {x y : Int32} (hp : isP p) (hW : WFK P) (hR : CRk p I P) : MX2_hasMethod (p + 1) x y (mkC sw I L) = some (if mtR P x y then 1 else 0) := by
  have hq := isP_K hp
  have h4 := hW.1.1.2
  simp only [MX2_hasMethod, c2_g hq, c_hasKind hq (hR.1.trans hW.1.1.1) (show nK P < 2 ^ 31 by omega), Option.bind_some, c2_r3 hq, jn]
  unfold mtR
  by_cases h : inR x (nK P) = true
  · obtain ⟨k, hk, rfl⟩ := inR_of (by omega) h
    have hw := hW.2 k hk
    have h6 := hw.1.2.2
    have h7 := hw.2.2.1.2
    rw [h, if_pos rfl, if_neg (by decide), c2_ld3 hq (show k < 4 by omega), Option.bind_some, show p + 1 + 3 = p + 4 from rfl, (hR.2 k hk).2.2.1, hw.2.2.1.1, nN_nI (by omega)]
    rw [rng_c (by omega)]
    rfl
  · have h : inR x (nK P) = false := by simpa using h
    rw [h]
    rfl
theorem c_sortOf {k m : Nat} (hp : isP p) (hk : k < 4) (hm : m < 6) : MX2_sortOf (p + 1) (nI k) (nI m) (mkC sw I L) = some (I (p + 5) (6 * k + m)) := by
  have hq := isP_K hp
  simp only [MX2_sortOf, c2_g hq, c2_r4 hq, Option.bind_some, ix_met]
  rw [c2_ld4 hq (by omega), Option.bind_some]
theorem c_statesOf {k m : Nat} (hp : isP p) (hk : k < 4) (hm : m < 6) : MX2_statesOf (p + 1) (nI k) (nI m) (mkC sw I L) = some (I (p + 6) (6 * k + m)) := by
  have hq := isP_K hp
  simp only [MX2_statesOf, c2_g hq, c2_r5 hq, Option.bind_some, ix_met]
  rw [c2_ld5 hq (by omega), Option.bind_some]
theorem c_canBe {k m s : Nat} (hp : isP p) (hk : k < 4) (hm : m < 6) (hs : s < 32) : MX2_canBe (p + 1) (nI k) (nI m) (nI s) (mkC sw I L) = some (if bt (I (p + 6) (6 * k + m)) s then 1 else 0) := by
  have hq := isP_K hp
  simp only [MX2_canBe, c2_g hq, c2_r5 hq, Option.bind_some, ix_met]
  rw [c2_ld5 hq (by omega), Option.bind_some, show p + 1 + 5 = p + 6 from rfl]
  by_cases h : bt (I (p + 6) (6 * k + m)) s = true
  · rw [if_neg (fun z => by rw [(b_get0 hs).mp z] at h; cases h), if_pos h]
  · rw [if_pos ((b_get0 hs).mpr (by simpa using h)), if_neg h]
/-- what comes, as the class tells it -/
theorem c_following {k m s : Nat} {z : Int32} (hp : isP p) (hR : CRk p I P) (hW : WFK P) (hk : k < nK P) (hm : m < nM P k) (hs : s < nS P k) : MX2_following (p + 1) (nI k) (nI m) (nI s) z (mkC sw I L) = some (if z = 0 then pN P k m s else pY P k m s) := by
  have hq := isP_K hp
  have h4 := hW.1.1.2
  have hw := hW.2 k hk
  have hm6 := hw.2.2.1.2
  have hs6 := hw.1.2.2
  obtain ⟨r1, r2, r3⟩ := (hR.2 k hk).2.2.2 m hm
  simp only [MX2_following, c2_g hq, c_canBe hp (show k < 4 by omega) (show m < 6 by omega) (show s < 32 by omega), Option.bind_some, r2 s, ix_row, c2_r6 hq, c2_r7 hq]
  rw [c2_ld6 hq (by omega), c2_ld7 hq (by omega), Option.bind_some, Option.bind_some]
  by_cases hy : pY P k m s = -1
  · have hn : pN P k m s = -1 := by
      rcases (hw.2.2.2 m hm).2 s hs with h | ⟨a, b, h1, h2, h3, -⟩
      · exact h.2
      · exfalso
        rw [h3] at hy
        have := congrArg Int32.toInt hy
        rw [n_i (by omega)] at this
        have h9 : (-1 : Int32).toInt = -1 := rfl
        omega
    simp [hs, hy, hn]
  · obtain ⟨e1, e2⟩ := r3 s hs hy
    rw [show p + 1 + 6 = p + 7 from rfl, show p + 1 + 7 = p + 8 from rfl, e1, e2]
    simp only [hs, hy, ne_eq, not_false_eq_true, decide_true, Bool.and_self, if_true, if_neg (show ¬ (1 : Int32) = 0 by decide)]
    split <;> rfl
end KindRows
