section Kind4
variable {sw : Bool} {I : Nat → Nat → Int32} {L : Nat → Nat → Int64} {J : Nat → Nat → Int32} {K : Nat → Nat → Int64} {fu : Nat}
theorem bt_lt {x : Int32} {t : Nat} (h : bt x t = true) : t < 32 := by
  by_cases c : t < 32
  · exact c
  · rw [b_big (by omega)] at h; cases h
theorem b_iff {x y : Int32} (h : ∀ t, t < 32 → (bt x t = true ↔ bt y t = true)) : x = y := by
  apply b_ext
  intro i hi
  have := h i hi
  cases hx : bt x i <;> cases hy : bt y i <;> simp_all
theorem sb_kind {a b : Int32} (hW : WFK (J 2)) (hR : CRk (pid sw) I (J 2)) (hv : CRv (pid sw) I (J 2)) (hfu : 8 < fu) : SB (MX8_kind fu 0 a b (mkC sw I L)) (MX9_kind fu 0 a b (mkM J K)) sw I L J K := by
  have h4 := hW.1.1.2
  have hq := isP_K (pid_P (sw := sw))
  have hk0 : I (pid sw + 1) 0 = nI (nK (J 2)) := hR.1.trans hW.1.1.1
  simp only [MX8_kind, MX9_kind, c_hasKind hq hk0 (show nK (J 2) < 2 ^ 31 by omega), m_isKind (K := K) hW.1.1.1 (show nK (J 2) < 2 ^ 30 by omega), c8_g, m_g, c8_pg, c4_r0 pid_P, Option.bind_some, c_answer, c_refuse, m_refuse, m_r1, jn]
  rw [isFrom_c (y := 5) (n := 5) rfl (by decide), Option.bind_some, rng_le (y := 5) (n := 5) rfl (by decide)]
  simp only [ite0]
  by_cases hc : inR b 6 = true
  · by_cases h : inR a (nK (J 2)) = true
    · obtain ⟨k, hk, rfl⟩ := inR_of (by omega) h
      have hw := hW.2 k hk
      have h6 := hw.1.2.2
      have h61 := hw.1.2.1
      have hr := hR.2 k hk
      simp only [hc, h, if_true, Bool.true_eq_false, if_false]
      by_cases e0 : b = 0
      · rw [if_pos e0, if_pos e0, c2_r1 hq, Option.bind_some, c2_ld1 hq (show k < 4 by omega), ix_c (show (3 : Int32) = nI 3 from rfl), m_ld2 (by omega)]
        simp only [Option.bind_some, m_gives]
        exact ⟨_, _, I, J, by rw [show pid sw + 1 + 1 = pid sw + 2 from rfl, hr.1], rfl, fun _ _ => rfl, fun _ _ => rfl⟩
      rw [if_neg e0, if_neg e0]
      by_cases e1 : b = 1
      · rw [if_pos e1, if_pos e1, c2_r3 hq, Option.bind_some, c2_ld3 hq (show k < 4 by omega), ix_c (show (11 : Int32) = nI 11 from rfl), m_ld2 (by omega)]
        simp only [Option.bind_some, m_gives]
        exact ⟨_, _, I, J, by rw [show pid sw + 1 + 3 = pid sw + 4 from rfl, hr.2.2.1], rfl, fun _ _ => rfl, fun _ _ => rfl⟩
      rw [if_neg e1, if_neg e1]
      by_cases e2 : b = 2
      · rw [if_pos e2, if_pos e2, c2_r2 hq, Option.bind_some, c2_ld2 hq (show k < 4 by omega), ix_c (show (7 : Int32) = nI 7 from rfl), m_ld2 (by omega)]
        simp only [Option.bind_some, m_gives]
        exact ⟨_, _, I, J, by rw [show pid sw + 1 + 2 = pid sw + 3 from rfl, hr.2.1], rfl, fun _ _ => rfl, fun _ _ => rfl⟩
      rw [if_neg e2, if_neg e2]
      by_cases e3 : b = 3
      · rw [if_pos e3, if_pos e3, c_variablesOf pid_P hv hW.1.2.1.1 hW.1.2.1.2 (by omega), m_variablesOf hW.1.2.1.1 hW.1.2.1.2 (by omega)]
        simp only [Option.bind_some, m_gives, c_answer]
        exact ⟨_, _, I, J, rfl, rfl, fun _ _ => rfl, fun _ _ => rfl⟩
      rw [if_neg e3, if_neg e3]
      obtain ⟨X, x1, x2⟩ := c_reachable (sw := sw) (L := L) (fu := fu) pid_P hR hW hk (by omega)
      have one : ∀ s, bt 1 s = true → s < nS (J 2) k := by
        intro s h
        have : bt (1 : Int32) s = decide (s = 0) := b_one (k := 0) (by decide) (bt_lt h)
        rw [this, decide_eq_true_eq] at h
        omega
      obtain ⟨Y, y1, y2⟩ := m_reached (K := K) (S := 1) (fu := fu) hW hk hfu one
      have hXY : X = Y := b_iff (fun t _ => (x2 t).trans (y2 t).symm)
      subst hXY
      rw [x1, y1]
      simp only [Option.bind_some]
      by_cases e4 : b = 4
      · rw [if_pos e4, if_pos e4]
        simp only [Option.bind_some, m_gives, c_answer]
        exact ⟨_, _, I, J, rfl, rfl, fun _ _ => rfl, fun _ _ => rfl⟩
      rw [if_neg e4, if_neg e4]
      obtain ⟨⟨Z, _⟩, z1, f, rfl, z2⟩ := c_hopeless (sw := sw) (I := I) (L := L) (fu := fu) pid_P hR hW hk (by omega)
      rw [z1, Option.bind_some]
      simp only [c_answer, Option.bind_some]
      obtain ⟨r, r1, r2⟩ : WP (wh2 (MX9_kind_B164 fu (mkM J K) 0 (nI k) (fun v4 => (MX9_gives 0 v4 (mkM J K)).bind fun p6 => some (p6.1, p6.2)) X) fu (0 : Int32) (0 : Int32)) (fun r => r = (X &&& Z, mkM (ur J 0 (up (J 0) 5 0)) K)) := by
        refine m_kind5 hW hk hfu (fun V v => WP_some ?_)
        have : V = X &&& Z := b_iff (fun t ht => by
          rw [v t ht, b_and, Bool.and_eq_true, z2 t ht]
          constructor
          · rintro ⟨a, b, c⟩; exact ⟨b, a, c⟩
          · rintro ⟨a, b, c⟩; exact ⟨b, a, c⟩)
        rw [this]
        rfl
      rw [r1, r2]
      exact ⟨_, _, _, J, rfl, rfl, scr_C, fun _ _ => rfl⟩
    · have h : inR a (nK (J 2)) = false := by simpa using h
      simp only [hc, h, if_true, Bool.true_eq_false, if_false]
      exact ⟨-1, 2, I, J, rfl, rfl, fun _ _ => rfl, fun _ _ => rfl⟩
  · have hc : inR b 6 = false := by simpa using hc
    simp only [hc, if_true, Bool.false_eq_true, if_false]
    exact ⟨-1, 1, I, J, rfl, rfl, fun _ _ => rfl, fun _ _ => rfl⟩
end Kind4
