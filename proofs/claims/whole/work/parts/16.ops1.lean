/-! variable, method, comes -/
section Ops1
variable {sw : Bool} {I J : Nat → Nat → Int32} {L K : Nat → Nat → Int64} {fu : Nat}
theorem b_add {x : Int32} {s i : Nat} {c : Bool} (hs : s < 32) (hi : i < 32) : bt (x ||| (if c then (1 : Int32) <<< (nI s &&& 31) else 0)) i = (bt x i || (c && decide (i = s))) := by
  rw [b_or]
  cases c
  · simp [b_0]
  · simp [b_one hs hi]
theorem m_canSet {k m : Nat} {c : Int32} (hk : k < nK (J 2)) (hm : m < nM (J 2) k) (hW : WFK (J 2)) (hc : ∀ s, bt c s = (decide (s < nS (J 2) k) && decide (pY (J 2) k m s ≠ -1))) (hf : 6 < fu) : MX9_canSet fu 0 (nI k) (nI m) (mkM J K) = some c := by
  have h4 := hW.1.1.2
  have hw := hW.2 k hk
  have h6 := hw.1.2.2
  have h7 := hw.2.2.1.2
  simp only [MX9_canSet, m_g]
  refine wh2_rule (fun r v1 v2 => ∃ s, s + r = nS (J 2) k ∧ v2 = nI s ∧ ∀ i, i < 32 → bt v1 i = (decide (i < s) && decide (pY (J 2) k m i ≠ -1))) ?_ fu (nS (J 2) k) _ _ (by omega) ⟨0, by omega, rfl, fun i _ => by simp [b_0]⟩
  rintro r v1 v2 self ⟨s, hs, rfl, hb⟩ ih
  simp only [MX9_canSet_B5, m_r1, Option.bind_some, jn]
  rw [ix_c (x := 3) (c := 3) rfl, m_ld2 (by omega), Option.bind_some, hw.1.1]
  by_cases hr : r = 0
  · rw [if_pos (nI_le (by omega) (by omega))]
    congr 1
    apply b_ext
    intro i hi
    rw [hb i hi, hc i, show s = nS (J 2) k by omega]
  · rw [if_neg (nI_ge (by omega) (by omega)), m_canBe (by omega) (by omega) (by omega), Option.bind_some]
    have key : ∀ w : Int32, (∀ i, i < 32 → bt (v1 ||| w) i = (decide (i < s + 1) && decide (pY (J 2) k m i ≠ -1))) → self (v1 ||| w) (nI s + 1) = some c := by
      intro w hw2
      exact ih (r - 1) _ _ (by omega) ⟨s + 1, by omega, nI_1 s, hw2⟩
    by_cases hy : pY (J 2) k m s = -1
    · rw [if_pos (by rw [if_pos hy])]
      refine key 0 (fun i hi => ?_)
      rw [b_or, b_0, Bool.or_false, hb i hi]
      by_cases his : i = s
      · subst his; simp [hy]
      · have : (i < s + 1) = (i < s) := propext (by omega)
        simp only [this]
    · rw [if_neg (by rw [if_neg hy]; decide)]
      refine key _ (fun i hi => ?_)
      rw [b_or, b_one (by omega) hi, hb i hi]
      by_cases his : i = s
      · subst his; simp [hy]
      · have : (i < s + 1) = (i < s) := propext (by omega)
        simp only [this, his, decide_false, Bool.or_false]
theorem m_isVariable {a : Int32} (hW : WFn (J 2)) : MX9_isVariable 0 a (mkM J K) = some (if inR a (nV (J 2)) then 1 else 0) := by
  have h6 := hW.2.1.2
  unfold MX9_isVariable
  rw [m_g, m_r1, Option.bind_some, show (1 : Int32) = nI 1 from rfl, m_ld2 (by decide), Option.bind_some, hW.2.1.1]
  rw [show (nI 1 : Int32) = 1 from rfl, isFrom_n (by omega), Option.bind_some, h_z_ite]
  rfl
theorem c_hasVariable {a : Int32} {p n : Nat} (hp : isP p) (h : I p 1 = nI n) (hn : n < 2 ^ 31) : MX4_hasVariable p a (mkC sw I L) = some (if inR a n then 1 else 0) := by
  simp only [MX4_hasVariable, c4_g hp, c4_fI hp, Option.bind_some, jn, h]
  exact rng_c hn
theorem sa_variable {a : Int32} (hW : WFn (J 2)) (hv : CRv (pid sw) I (J 2)) : SA (MX8_variable 0 a (mkC sw I L)) (MX9_variable 0 a (mkM J K)) sw I L J K := by
  have h6 := hW.2.1.2
  simp only [MX8_variable, MX9_variable, c_hasVariable pid_P (hv.1.trans hW.2.1.1) (show nV (J 2) < 2 ^ 31 by omega), m_isVariable hW, c8_g, m_g, c8_pg, Option.bind_some, c4_r2 pid_P, c_answer, c_refuse, m_refuse, m_r1, jn]
  by_cases h : inR a (nV (J 2)) = true
  · obtain ⟨v, hv2, rfl⟩ := inR_of (by omega) h
    simp only [h, if_true]
    rw [if_neg (by decide), if_neg (by decide), c4_ld2 pid_P (show v < 6 by omega), ix_c (x := 327) (c := 327) rfl, m_ld2 (by omega)]
    simp only [Option.bind_some, m_gives]
    exact ⟨J 2 (327 + v), 0, by rw [hv.2 v hv2], rfl⟩
  · have h : inR a (nV (J 2)) = false := by simpa using h
    simp only [h]
    exact ⟨-1, 2, rfl, rfl⟩
theorem ite0 {b : Bool} : ((if b = true then (1 : Int32) else 0) = 0) = (b = false) := by cases b <;> simp
theorem rng_le {α : Type} {x y : Int32} {n : Nat} {A B : α} (hy : y = nI n) (hn : n + 1 < 2 ^ 31) : (if x < 0 then A else if x ≤ y then B else A) = if inR x (n + 1) then B else A := by
  subst hy
  by_cases ha : x < 0
  · rw [if_pos ha, if_neg]
    rw [i_lt, z_i] at ha
    simp only [inR, decide_eq_true_eq]
    omega
  · rw [if_neg ha]
    rw [i_lt, z_i] at ha
    by_cases hb : x ≤ nI n
    · rw [if_pos hb, if_pos]
      rw [i_le, n_i (by omega)] at hb
      simp only [inR, decide_eq_true_eq]
      omega
    · rw [if_neg hb, if_neg]
      rw [i_le, n_i (by omega)] at hb
      simp only [inR, decide_eq_true_eq]
      omega
theorem mtR_of {P : Nat → Int32} {a b : Int32} (hW : WFK P) (h : mtR P a b = true) : ∃ k m, k < nK P ∧ m < nM P k ∧ a = nI k ∧ b = nI m := by
  unfold mtR at h
  have h4 := hW.1.1.2
  simp only [Bool.and_eq_true] at h
  obtain ⟨k, hk, rfl⟩ := inR_of (by omega) h.1
  have h7 := (hW.2 k hk).2.2.1.2
  have h2 := h.2
  rw [nN_nI (by omega)] at h2
  obtain ⟨m, hm, rfl⟩ := inR_of (by omega) h2
  exact ⟨k, m, hk, hm, rfl, rfl⟩
theorem stR_of {P : Nat → Int32} {a b : Int32} (hW : WFK P) (h : stR P a b = true) : ∃ k s, k < nK P ∧ s < nS P k ∧ a = nI k ∧ b = nI s := by
  unfold stR at h
  have h4 := hW.1.1.2
  simp only [Bool.and_eq_true] at h
  obtain ⟨k, hk, rfl⟩ := inR_of (by omega) h.1
  have h7 := (hW.2 k hk).1.2.2
  have h2 := h.2
  rw [nN_nI (by omega)] at h2
  obtain ⟨s, hs, rfl⟩ := inR_of (by omega) h2
  exact ⟨k, s, hk, hs, rfl, rfl⟩
theorem sa_method {a b c : Int32} (hW : WFK (J 2)) (hR : CRk (pid sw) I (J 2)) (hf : 6 < fu) : SA (MX8_method 0 a b c (mkC sw I L)) (MX9_method fu 0 a b c (mkM J K)) sw I L J K := by
  have h4 := hW.1.1.2
  simp only [MX8_method, MX9_method, c_hasMethod pid_P hW hR, m_isMethod hW, c8_g, m_g, c8_pg, c4_r0 pid_P, Option.bind_some, c_answer, c_refuse, m_refuse, m_r1, jn]
  rw [isFrom_c (y := 1) (n := 1) rfl (by decide), Option.bind_some, rng_le (y := 1) (n := 1) rfl (by decide)]
  simp only [ite0]
  by_cases hc : inR c 2 = true
  · by_cases h : mtR (J 2) a b = true
    · obtain ⟨k, m, hk, hm, rfl, rfl⟩ := mtR_of hW h
      have h7 := (hW.2 k hk).2.2.1.2
      obtain ⟨r1, r2, -⟩ := (hR.2 k hk).2.2.2 m hm
      simp only [hc, h, if_true, Bool.true_eq_false, if_false, c_sortOf pid_P (show k < 4 by omega) (show m < 6 by omega), c_statesOf pid_P (show k < 4 by omega) (show m < 6 by omega), MX9_methodAt, Option.bind_some, ix_met', m_canSet hk hm hW r2 hf, m_gives]
      rw [ix_c (x := 15) (c := 15) rfl, m_ld2 (by omega)]
      simp only [Option.bind_some, m_gives, r1]
      by_cases h0 : c = 0
      · simp only [h0, if_true]
        exact ⟨pSo (J 2) k m, 0, rfl, by rw [show 15 + (6 * k + m) = 15 + 6 * k + m by omega]⟩
      · simp only [h0, if_false]
        exact ⟨_, 0, rfl, rfl⟩
    · have h : mtR (J 2) a b = false := by simpa using h
      simp only [hc, h, if_true, Bool.true_eq_false, if_false]
      exact ⟨-1, 2, rfl, rfl⟩
  · have hc : inR c 2 = false := by simpa using hc
    simp only [hc, if_true, Bool.false_eq_true, if_false]
    exact ⟨-1, 1, rfl, rfl⟩
theorem sa_comes {a b c z : Int32} (hW : WFK (J 2)) (hR : CRk (pid sw) I (J 2)) : SA (MX8_comes 0 a b c z (mkC sw I L)) (MX9_comes 0 a b c z (mkM J K)) sw I L J K := by
  have h4 := hW.1.1.2
  simp only [MX8_comes, MX9_comes, c_hasMethod pid_P hW hR, c_hasState pid_P hW hR, m_isMethod hW, m_isState hW, c8_g, m_g, c8_pg, c4_r0 pid_P, Option.bind_some, c_answer, c_refuse, m_refuse, m_r1, jn, ite0]
  by_cases h : mtR (J 2) a b = true
  · by_cases h2 : stR (J 2) a c = true
    · obtain ⟨k, m, hk, hm, rfl, rfl⟩ := mtR_of hW h
      obtain ⟨k2, s, hk2, hs, e, rfl⟩ := stR_of hW h2
      obtain rfl : k = k2 := (nI_eq (by omega) (by omega)).mp e
      have h7 := (hW.2 k hk).2.2.1.2
      have h6 := (hW.2 k hk).1.2.2
      simp only [h, h2, Bool.true_eq_false, if_false, c_following pid_P hR hW hk hm hs, m_yes (J := J) (K := K) (show k < 4 by omega) (show m < 6 by omega) (show s < 6 by omega), m_no (J := J) (K := K) (show k < 4 by omega) (show m < 6 by omega) (show s < 6 by omega), Option.bind_some, m_gives]
      by_cases hz : z = 0
      · simp only [hz, if_true]
        by_cases hn : pN (J 2) k m s = -1
        · simp only [hn, if_true]
          exact ⟨-1, 5, rfl, rfl⟩
        · simp only [hn, if_false]
          exact ⟨_, 0, rfl, rfl⟩
      · simp only [hz, if_false]
        by_cases hn : pY (J 2) k m s = -1
        · simp only [hn, if_true]
          exact ⟨-1, 5, rfl, rfl⟩
        · simp only [hn, if_false]
          exact ⟨_, 0, rfl, rfl⟩
    · have h2 : stR (J 2) a c = false := by simpa using h2
      simp only [h, h2, if_true, Bool.true_eq_false, if_false]
      exact ⟨-1, 2, rfl, rfl⟩
  · have h : mtR (J 2) a b = false := by simpa using h
    simp only [h, if_true]
    exact ⟨-1, 2, rfl, rfl⟩
end Ops1
