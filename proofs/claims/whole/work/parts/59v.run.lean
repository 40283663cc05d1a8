section Run
variable {kS : KS} {sw : Bool} {I I' : Nat → Nat → Int32} {L L' : Nat → Nat → Int64} {J J' : Nat → Nat → Int32} {K : Nat → Nat → Int64} {fu p : Nat} {D : Nat → Nat} {X P : Nat → Int32} {a : Int32}
theorem REL_run (ok : okS kS) (h : REL kS sw I L J) (c : RCo (J 2) I I' a) (m : RMo J J' a) : REL kS sw I' L J' := by
  obtain ⟨m1, m2, -⟩ := m
  have e0 : I' 0 = I 0 := c.1 0 (by decide) (by decide)
  refine REL_keep ok h (fun b _ _ hb => c.1 b (by unfold scD at hb; omega) (by unfold scD at hb; omega)) (fun k _ => by rw [e0]) (by rw [e0, m2 5 (by decide)]; exact h.2.1.1) ⟨rfl, rfl⟩ ⟨m1 1 (by decide) (by decide) (by decide), m1 2 (by decide) (by decide) (by decide)⟩ (fun k hk _ => m2 k (by omega)) (by rw [m2 31 (by decide)]; exact h.2.2.2.1)
theorem both_run (ok : okS kS) (h : REL kS sw I L J) (hfu : 400 < fu) : ∃ I' J', MX5_go fu 224 (pid sw) a (mkC sw I L) = some (mkC sw I' L) ∧ MX9_runsBy fu 0 a (mkM J K) = some (mkM J' K) ∧ RCo (J 2) I I' a ∧ RMo J J' a ∧ REL kS sw I' L J' := by
  obtain ⟨D, hA, hC⟩ := h.2.2.1
  obtain ⟨_, e2, J', rfl, m⟩ := m_runsBy (J := J) (K := K) (fu := fu) (a := a) hA hfu
  obtain ⟨_, e1, I', rfl, c⟩ := c_go (sw := sw) (I := I) (L := L) (fu := fu) (a := a) pid_P hC hA m.2.2.1 hfu
  exact ⟨I', J', e1, e2, c, m, REL_run ok h c m⟩
theorem nI_sub {x y : Nat} (h : y ≤ x) : nI x - nI y = nI (x - y) := by
  rw [show x = (x - y) + y by omega, ← nI_add, Int32.add_sub_cancel, Nat.add_sub_cancel]
theorem nle_lt {x y : Int32} : ¬ x ≤ y ↔ y < x := by rw [i_le, i_lt]; omega
theorem op_run {a b : Int32} (ok : okS kS) (h : REL kS sw I L J) (hfu : 400 < fu) : OPR kS (MX8_run fu 0 a b (mkC sw I L)) (MX9_run fu 0 a b (mkM J K)) := by
  simp only [MX8_run, MX9_run, MX9_isFrom, c8_g, m_g, jn, c_refuse, m_refuse, Option.bind_some, c8_r4, c8_pg]
  have ref : OPR kS (some ((-1 : Int32), mkC sw (ur I 0 (up (I 0) 9 1)) L)) (some ((-1 : Int32), mkM (ur J 0 (up (J 0) 5 1)) K)) := OPR_fin ok h
  by_cases c1 : a < 0
  · simp only [if_pos c1, Option.bind_some, if_true]; exact ref
  by_cases c2 : (65536 : Int32) < a
  · simp only [if_neg c1, if_pos c2, Option.bind_some, if_true]; exact ref
  by_cases c3 : b < 0
  · simp only [if_neg c1, if_neg c2, if_pos c3, Option.bind_some, if_true, show ¬ (1 : Int32) = 0 by decide, if_false]; exact ref
  by_cases c4 : (3 : Int32) < b
  · simp only [if_neg c1, if_neg c2, if_neg c3, if_pos c4, if_neg (nle_lt.mpr c4), Option.bind_some, if_true, show ¬ (1 : Int32) = 0 by decide, if_false]; exact ref
  obtain ⟨I1, J1, e1, e2, c, m, R⟩ := both_run (K := K) (fu := fu) (a := a) ok h hfu
  have c4' : b ≤ 3 := by by_cases z : b ≤ 3; exact z; exact absurd (nle_lt.mp z) c4
  simp only [if_neg c1, if_neg c2, if_neg c3, if_neg c4, if_pos c4', Option.bind_some, show ¬ (1 : Int32) = 0 by decide, if_false, e1, e2, c8_r4, c5_fI, m_fI, c_answer, m_gives]
  rw [c.2.1, c.2.2.1, c.2.2.2.1, c.2.2.2.2, m.2.2.2.1, m.2.2.2.2.1, m.2.2.2.2.2.1, m.2.2.2.2.2.2]
  by_cases d0 : b = 0
  · rw [if_pos d0, if_pos d0]; exact OPR_fin ok R
  · rw [if_neg d0, if_neg d0]
    by_cases d1 : b = 1
    · rw [if_pos d1, if_pos d1]; exact OPR_fin ok R
    · rw [if_neg d1, if_neg d1]
      by_cases d2 : b = 2
      · rw [if_pos d2, if_pos d2]; exact OPR_fin ok R
      · rw [if_neg d2, if_neg d2]; exact OPR_fin ok R
theorem op_runs {a b c : Int32} (ok : okS kS) (h : REL kS sw I L J) (hfu : 400 < fu) : OPR kS (MX8_runs fu 0 a b c (mkC sw I L)) (MX9_runs fu 0 a b c (mkM J K)) := by
  simp only [MX8_runs, MX9_runs, MX9_isFrom, c8_g, m_g, jn, c_refuse, m_refuse, Option.bind_some, c8_r4, c8_pg, c_answer, m_gives]
  have ref : OPR kS (some ((-1 : Int32), mkC sw (ur I 0 (up (I 0) 9 1)) L)) (some ((-1 : Int32), mkM (ur J 0 (up (J 0) 5 1)) K)) := OPR_fin ok h
  have n1 : ¬ (1 : Int32) = 0 := by decide
  by_cases c1 : a < 0
  · simp only [if_pos c1, Option.bind_some, if_true]; exact ref
  by_cases c2 : b < 1
  · by_cases z : (65536 : Int32) < a
    · simp only [if_neg c1, if_pos c2, if_pos z, Option.bind_some, if_true]; exact ref
    · simp only [if_neg c1, if_pos c2, if_neg z, Option.bind_some, if_true, n1, if_false]; exact ref
  by_cases c3 : (50 : Int32) < b
  · by_cases z : (65536 : Int32) < a
    · simp only [if_neg c1, if_neg c2, if_pos c3, if_pos z, Option.bind_some, if_true]; exact ref
    · simp only [if_neg c1, if_neg c2, if_pos c3, if_neg z, Option.bind_some, if_true, n1, if_false]; exact ref
  obtain ⟨n, hn, rfl⟩ : ∃ n, (1 ≤ n ∧ n ≤ 50) ∧ b = nI n := by
    have hb : inR b 51 = true := by
      unfold inR
      rw [i_lt] at c2 c3
      have t1 : (1 : Int32).toInt = 1 := rfl
      have t2 : (50 : Int32).toInt = 50 := rfl
      exact decide_eq_true (by omega)
    obtain ⟨n, hn, rfl⟩ := inR_of (by omega) hb
    refine ⟨n, ⟨?_, by omega⟩, rfl⟩
    rw [i_lt, n_i (by omega)] at c2
    have t1 : (1 : Int32).toInt = 1 := rfl
    omega
  have sub : (65537 : Int32) - nI n = nI (65537 - n) := by rw [show (65537 : Int32) = nI 65537 from rfl]; exact nI_sub (by omega)
  by_cases c4 : (65537 : Int32) - nI n < a
  · by_cases z : (65536 : Int32) < a
    · simp only [if_neg c1, if_neg c2, if_neg c3, if_pos c4, if_pos z, Option.bind_some, if_true]; exact ref
    · obtain ⟨s, hs, rfl⟩ : ∃ s, s ≤ 65536 ∧ a = nI s := by
        have hb : inR a 65537 = true := by
          unfold inR
          rw [i_lt] at c1 z
          have t1 : (0 : Int32).toInt = 0 := rfl
          have t2 : (65536 : Int32).toInt = 65536 := rfl
          exact decide_eq_true (by omega)
        obtain ⟨s, hs, rfl⟩ := inR_of (by omega) hb
        exact ⟨s, by omega, rfl⟩
      have c5 : ¬ ((nI s + nI n) - (1 : Int32)) < (65537 : Int32) := by
        rw [sub, i_lt, n_i (by omega), n_i (by omega)] at c4
        rw [nI_add, show (1 : Int32) = nI 1 from rfl, nI_sub (by omega), show (65537 : Int32) = nI 65537 from rfl, i_lt, n_i (by omega), n_i (by omega)]
        omega
      by_cases c6 : c < 0
      · simp only [if_neg c1, if_neg c2, if_neg c3, if_pos c4, if_neg z, if_pos c6, Option.bind_some, if_true, n1, if_false]; exact ref
      · by_cases c7 : (6 : Int32) < c
        · simp only [if_neg c1, if_neg c2, if_neg c3, if_pos c4, if_neg z, if_neg c6, if_pos c7, Option.bind_some, if_true, n1, if_false]; exact ref
        · simp only [if_neg c1, if_neg c2, if_neg c3, if_pos c4, if_neg z, if_neg c6, if_neg c7, Option.bind_some, if_true, n1, if_false, if_neg c5]; exact ref
  obtain ⟨s, hs, rfl⟩ : ∃ s, s + n ≤ 65537 ∧ a = nI s := by
    rw [sub] at c4
    have hb : inR a 65537 = true := by
      unfold inR
      rw [i_lt] at c1 c4
      rw [n_i (by omega)] at c4
      have t1 : (0 : Int32).toInt = 0 := rfl
      exact decide_eq_true (by omega)
    obtain ⟨s, hs, rfl⟩ := inR_of (by omega) hb
    rw [i_lt, n_i (by omega), n_i (by omega)] at c4
    exact ⟨s, by omega, rfl⟩
  have z : ¬ (65536 : Int32) < nI s := by rw [show (65536 : Int32) = nI 65536 from rfl, i_lt, n_i (by omega), n_i (by omega)]; omega
  have c5 : ((nI s + nI n) - (1 : Int32)) < (65537 : Int32) := by
    rw [nI_add, show (1 : Int32) = nI 1 from rfl, nI_sub (by omega), show (65537 : Int32) = nI 65537 from rfl, i_lt, n_i (by omega), n_i (by omega)]
    omega
  by_cases c6 : c < 0
  · simp only [if_neg c1, if_neg c2, if_neg c3, if_neg c4, if_neg z, if_pos c6, Option.bind_some, if_true, n1, if_false]; exact ref
  by_cases c7 : (6 : Int32) < c
  · simp only [if_neg c1, if_neg c2, if_neg c3, if_neg c4, if_neg z, if_neg c6, if_pos c7, if_neg (nle_lt.mpr c7), Option.bind_some, if_true, n1, if_false]; exact ref
  have c7' : c ≤ 6 := by by_cases z : c ≤ 6; exact z; exact absurd (nle_lt.mp z) c7
  simp only [if_neg c1, if_neg c2, if_neg c3, if_neg c4, if_neg z, if_neg c6, if_neg c7, if_pos c7', if_pos c5, Option.bind_some, n1, if_false]
  have loop : ∀ q v u f g I2 J2, q + v = n → q < f → q < g → REL kS sw I2 L J2 →
      OPR kS (wh3 (MX8_runs_B46 fu (nI n) (fun v3 h4 => (MX8_answer 0 v3 h4).bind fun p6 => some (p6.1, p6.2)) 0 (nI s) c) f u (nI v) (mkC sw I2 L)) (wh3 (MX9_runs_B54 fu (nI n) (fun v6 h7 => (MX9_gives 0 v6 h7).bind fun p9 => some (p9.1, p9.2)) 0 (nI s) c) g u (nI v) (mkM J2 K)) := by
    intro q
    induction q with
    | zero =>
      intro v u f g I2 J2 hv hf hg R
      obtain ⟨f, rfl⟩ : ∃ f', f = f' + 1 := ⟨f - 1, by omega⟩
      obtain ⟨g, rfl⟩ : ∃ f', g = f' + 1 := ⟨g - 1, by omega⟩
      have : v = n := by omega
      subst this
      simp only [wh3, MX8_runs_B46, MX9_runs_B54, jn, if_pos (nI_le (Nat.le_refl v) (show v < 2 ^ 31 by omega)), c_answer, m_gives, Option.bind_some]
      exact OPR_fin ok R
    | succ q ihq =>
      intro v u f g I2 J2 hv hf hg R
      obtain ⟨f, rfl⟩ : ∃ f', f = f' + 1 := ⟨f - 1, by omega⟩
      obtain ⟨g, rfl⟩ : ∃ f', g = f' + 1 := ⟨g - 1, by omega⟩
      obtain ⟨I1, J1, e1, e2, cc, m, R2⟩ := both_run (K := K) (fu := fu) (a := nI s + nI v) ok R hfu
      have step : ∀ u', OPR kS (wh3 (MX8_runs_B46 fu (nI n) (fun v3 h4 => (MX8_answer 0 v3 h4).bind fun p6 => some (p6.1, p6.2)) 0 (nI s) c) f u' (nI v + 1) (mkC sw I1 L)) (wh3 (MX9_runs_B54 fu (nI n) (fun v6 h7 => (MX9_gives 0 v6 h7).bind fun p9 => some (p9.1, p9.2)) 0 (nI s) c) g u' (nI v + 1) (mkM J1 K)) := by
        intro u'
        rw [nI_1]
        exact ihq (v + 1) u' f g I1 J1 (by omega) (by omega) (by omega) R2
      rw [wh3, wh3]
      simp only [MX8_runs_B46, MX9_runs_B54, jn, if_neg (nI_ge (show v < n by omega) (show n < 2 ^ 31 by omega)), c8_r4, c8_pg, e1, e2, c5_fI, m_fI, Option.bind_some]
      rw [cc.2.2.1, m.2.2.2.2.1]
      by_cases ce : (RN (J2 2) 300 0 0 0 (nI s + nI v) X0).2.1 = c
      · rw [if_pos ce, if_pos ce]; exact step _
      · rw [if_neg ce, if_neg ce, Int32.add_zero]; exact step _
  exact loop n 0 0 fu fu I J (by omega) (by omega) (by omega) h
end Run
