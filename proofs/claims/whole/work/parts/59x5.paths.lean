/-! PATHS, PATH -/
section Paths
variable {sw : Bool} {I I' : Nat → Nat → Int32} {L L' : Nat → Nat → Int64} {J J' : Nat → Nat → Int32} {K K' : Nat → Nat → Int64} {fu : Nat} {D : Nat → Nat} {P : Nat → Int32} {s : Sch}
theorem rj_le0 {j : Nat} : rj P s j ≤ 0 ↔ rj P s j = 0 := le0_rsn rsn_05
theorem m_firstWrong (h : SMr s J K) (g : GS P s) (q : SMx P s s.n J) (hfu : 1001 < fu) : MX9_firstWrong fu 0 (mkM J K) = some (fwj P s s.n) := by
  have n1 := g.1
  simp only [MX9_firstWrong, m_g]
  refine wh1_rule (fun r n => ∃ c, c + r = s.n ∧ n = nI c ∧ ∀ j, j < c → rj P s j = 0) ?_ fu s.n _ (by omega) ⟨0, by omega, rfl, fun j hj => by omega⟩
  rintro r n self ⟨c, hc, rfl, hz⟩ ih
  simp only [MX9_firstWrong_B2, m_fI, m_r41, Option.bind_some]
  rw [h.1]
  by_cases hr : r = 0
  · rw [if_pos (nI_le (by omega) (by omega))]
    rcases fwj_of (P := P) (s := s) s.n n1 with ⟨a, -⟩ | ⟨j, j1, -, j3, -⟩
    · rw [a]
    · exact absurd (hz j (by omega)) j3
  · rw [if_neg (nI_ge (by omega) (by omega)), m_ld25 (by omega), Option.bind_some, q.2.2 c (by omega)]
    by_cases cr : rj P s c = 0
    · rw [if_pos (rj_le0.mpr cr)]
      refine ih (r - 1) _ (by omega) ⟨c + 1, by omega, nI_1 c, fun j hj => ?_⟩
      rcases Nat.lt_or_ge j c with z | z
      · exact hz j z
      · rw [show j = c by omega]; exact cr
    · rw [if_neg (fun z => cr (rj_le0.mp z))]
      rcases fwj_of (P := P) (s := s) s.n n1 with ⟨-, -, -, a⟩ | ⟨j, j1, j2, j3, -, -, j6⟩
      · exact absurd (a c (by omega)) cr
      · rcases Nat.lt_trichotomy j c with z | z | z
        · exact absurd (hz j z) j3
        · rw [j2, z]
        · exact absurd (j6 c z) cr
theorem m_stepsTo {e : Int32} (h : SMr s J K) (g : GS P s) (he : e = -1 ∨ ∃ q, q < s.n ∧ e = nI q) (hfu : 1001 < fu) : MX9_stepsTo fu 0 e (mkM J K) = some (nI (lenB s.fr 1001 e)) := by
  have n1 := g.1
  have hf : ∀ j, j < s.n → s.fr j = -1 ∨ ∃ q, q < j ∧ s.fr j = nI q := fun j hj => (g.2.2 j hj).2.2
  simp only [MX9_stepsTo, m_g]
  refine wh2_rule (fun r v1 v2 => ∃ d, v1 = nI d ∧ d + lenB s.fr 1001 v2 = lenB s.fr 1001 e ∧ (v2 = -1 ∨ ∃ q, q < s.n ∧ v2 = nI q) ∧ r = lenB s.fr 1001 v2) ?_ fu (lenB s.fr 1001 e) _ _ (by rcases he with q | ⟨q, hq, q2⟩; rw [q, lenB_1]; omega; rw [q2]; have := lenB_le hf n1 1001 q hq; omega) ⟨0, rfl, by omega, he, rfl⟩
  rintro r v1 v2 self ⟨d, rfl, hd, h2, hr⟩ ih
  simp only [MX9_stepsTo_B4, m_r40, Option.bind_some]
  rcases h2 with e2 | ⟨q, q1, e2⟩
  · rw [if_pos e2]
    rw [e2, lenB_1] at hd
    rw [← hd]
    rfl
  · rw [e2] at hr hd ⊢
    rw [lenB_n hf n1 q1] at hr hd
    rw [if_neg (nI_ne_m1 (by omega)), m_ld24 (by omega), Option.bind_some, (h.2.2 q q1).2]
    refine ih (r - 1) _ _ (by omega) ⟨d + 1, nI_1 d, by omega, ?_, by omega⟩
    rcases hf q q1 with e3 | ⟨q', h1, e3⟩
    · exact Or.inl e3
    · exact Or.inr ⟨q', by omega, e3⟩
theorem m_badFine (eP : J 2 = P) (hA : WFA P D) (h : SMr s J K) (g : GS P s) (q : SMx P s s.n J) {j7 : Int32 → Int32 → Option (Int32 × Hp)} (hfu : 1001 < fu) : wh3 (MX9_paths_B47 (mkM J K) 0 j7) fu (0 : Int32) (0 : Int32) (0 : Int32) = j7 (nI (cnt s.n (bad P s))) (nI (cnt s.n (goE P s))) := by
  have h40 := hA.1.1.2.2.2
  have n1 := g.1
  refine wh3_rule (fun r a b n => ∃ c, c + r = s.n ∧ n = nI c ∧ a = nI (cnt c (bad P s)) ∧ b = nI (cnt c (goE P s))) ?_ fu s.n _ _ _ (by omega) ⟨0, by omega, rfl, rfl, rfl⟩
  rintro r a b n self ⟨c, hc, rfl, rfl, rfl⟩ ih
  have cb : cnt (c + 1) (bad P s) = cnt c (bad P s) + if bad P s c then 1 else 0 := rfl
  have cg : cnt (c + 1) (goE P s) = cnt c (goE P s) + if goE P s c then 1 else 0 := rfl
  simp only [MX9_paths_B47, m_fI, m_r41, m_statements, Option.bind_some, jn]
  rw [h.1]
  by_cases hr : r = 0
  · rw [if_pos (nI_le (by omega) (by omega)), show c = s.n by omega]
  · obtain ⟨gp, -⟩ := g.2.2 c (by omega)
    rw [if_neg (nI_ge (by omega) (by omega)), m_ld25 (by omega), Option.bind_some, q.2.2 c (by omega), m_placeOf hA h g (by omega), Option.bind_some, eP, hA.1.1.2.2.1]
    have go : ∀ x y : Bool, bad P s c = x → goE P s c = y → self (nI (cnt c (bad P s)) + (if x then 1 else 0)) (nI (cnt c (goE P s)) + (if y then 1 else 0)) (nI c + 1) = j7 (nI (cnt s.n (bad P s))) (nI (cnt s.n (goE P s))) := by
      intro x y ex ey
      refine ih (r - 1) _ _ _ (by omega) ⟨c + 1, by omega, nI_1 c, ?_, ?_⟩
      · rw [cb, ex]
        cases x
        · exact Int32.add_zero _
        · exact nI_1 _
      · rw [cg, ey]
        cases y
        · exact Int32.add_zero _
        · exact nI_1 _
    by_cases cr : rj P s c = 0
    · have b0 : bad P s c = false := decide_eq_false (fun z => z cr)
      rw [if_pos (rj_le0.mpr cr), if_pos cr]
      by_cases ce : s.pl c = nT P
      · rw [if_pos (by rw [ce])]
        exact go false true b0 (by unfold goE; rw [decide_eq_true ce, decide_eq_true cr]; rfl)
      · rw [if_neg (fun z => ce (nI_inj (by omega) (by omega) z))]
        exact go false false b0 (by unfold goE; rw [decide_eq_false ce]; rfl)
    · rw [if_neg (fun z => cr (rj_le0.mp z)), if_neg cr]
      exact go true false (decide_eq_true cr) (by unfold goE; rw [decide_eq_false cr, Bool.and_false])
theorem nle0 {n : Nat} (hn : n < 2 ^ 31) : nI n ≤ 0 ↔ n = 0 := by
  rw [i_le, n_i hn, z_i]
  omega
theorem op_paths {a : Int32} (h : REL kSo sw I L J) (hfu : 6000 < fu) : OPR kSo (MX8_paths fu 0 a (mkC sw I L)) (MX9_paths fu 0 a (mkM J K)) := by
  obtain ⟨D, hA, hC⟩ := h.2.2.1
  have h40 := hA.1.1.2.2.2
  simp only [MX8_paths, MX9_paths, c8_g, m_g, Option.bind_some, c_refuse, m_refuse, jn]
  rw [isFrom_c (y := 6) (n := 6) rfl (by decide), Option.bind_some, rng_le (y := 6) (n := 6) rfl (by decide)]
  simp only [ite0]
  by_cases hc : inR a 7 = true
  · simp only [hc, if_true, Bool.true_eq_false, if_false]
    obtain ⟨I1, L1, J1, K1, e1, e2, R, o1, o2, eP⟩ := both_search (K := K) (fu := fu) h (by omega)
    obtain ⟨m1, m2, m3⟩ := o2
    have n1 := m2.1
    rw [e1, Option.bind_some, e2, Option.bind_some]
    simp only [c6_fI, m_fI, Option.bind_some]
    rw [o1.1.2.1, m1.2.1]
    have fin : ∀ r z : Int32, OPR kSo (some (r, mkC sw (ur I1 0 (up (I1 0) 9 z)) L1)) (some (r, mkM (ur J1 0 (up (J1 0) 5 z)) K1)) := fun r z => OPR_fin okS_o R
    cases m : (finS (J 2)).mo
    · obtain ⟨⟨x1, x2, x3, x4, x5, x6, x7⟩, x8⟩ := o1.2 m
      have q := m3 m
      simp only [Bool.false_eq_true, if_false, if_true]
      have cl := cnt_le (finS (J 2)).n (bad (J 2) (finS (J 2)))
      rw [m_firstWrong m1 m2 q (by omega), Option.bind_some, m_badFine eP hA m1 m2 q (by omega), x1, x3, x4, x5, x8, o1.1.1, m1.1, q.1]
      simp only [c_answer, c_refuse, m_gives, m_refuse, Option.bind_some]
      by_cases a0 : a = 0
      · simp only [if_pos a0]
        split <;> exact fin _ _
      simp only [if_neg a0]
      by_cases a1 : a = 1
      · simp only [if_pos a1]
        split <;> exact fin _ _
      simp only [if_neg a1]
      rcases fwj_of (P := J 2) (s := finS (J 2)) (finS (J 2)).n n1 with ⟨f1, f2, f3, f4⟩ | ⟨j, j1, j2, j3, j4, j5, j6⟩
      · -- none is wrong
        rw [f1, f3, if_pos ((nle0 (by decide)).mpr rfl)]
        simp only [if_true]
        by_cases a2 : a = 2
        · simp only [if_pos a2]; exact fin _ _
        simp only [if_neg a2]
        by_cases a3 : a = 3
        · simp only [if_pos a3]; exact fin _ _
        simp only [if_neg a3]
        by_cases a4 : a = 4
        · simp only [if_pos a4]
          obtain ⟨I2, e3, R2, F2⟩ := c_solvedFlow (fu := fu) okS_o R hfu
          obtain ⟨D1, hA1, hC1⟩ := R.2.2.1
          obtain ⟨_, e4, J2, out, rfl, f5, R3, o5, z5⟩ := m_checksAll (J := J1) (K := K1) (fu := fu) hA1 R.2.2.2.1 hfu
          have R4 : REL kSo sw I2 L1 J2 := REL_chk R2 f5 z5
          obtain ⟨U, V⟩ := FM_eq hA1 F2 R3 o5
          obtain ⟨w1, w2, w3⟩ := wcS_eq (P := J1 2) (S := sC 36 I2) (S' := sM J2) (lo := 99) (lo' := 99) (nT (J1 2) + 1) (fun i hi => V i (by omega))
          obtain ⟨-, -, g3, -⟩ := F2
          obtain ⟨-, r2, -⟩ := R3
          rw [e3, Option.bind_some, e4, Option.bind_some]
          simp only [c0_fI (Or.inl rfl), m_fI, Option.bind_some, c_answer, m_gives]
          rw [g3, r2, w1]
          split <;> exact OPR_fin okS_o R4
        simp only [if_neg a4]
        by_cases a5 : a = 5
        · simp only [if_pos a5]; exact fin _ _
        simp only [if_neg a5]; exact fin _ _
      · rw [if_neg (fun z => j5 ((nle0 (by omega)).mp z)), j4, j2]
        have nm : ¬ nI j = -1 := nI_ne_m1 (by omega)
        simp only [if_neg (show ¬ (1 : Int32) = 0 by decide), if_neg nm]
        rw [m_stepsTo m1 m2 (Or.inr ⟨j, j1, rfl⟩) (by omega), m_r41, Option.bind_some, Option.bind_some, m_ld25 (by omega), Option.bind_some, q.2.2 j j1]
        by_cases a2 : a = 2
        · simp only [if_pos a2]; exact fin _ _
        simp only [if_neg a2]
        by_cases a3 : a = 3
        · simp only [if_pos a3]; exact fin _ _
        simp only [if_neg a3]
        by_cases a4 : a = 4
        · simp only [if_pos a4]
          obtain ⟨D1, hA1, hC1⟩ := R.2.2.1
          obtain ⟨_, e4, J2, out, rfl, f5, R3, o5, z5⟩ := m_checksAll (J := J1) (K := K1) (fu := fu) hA1 R.2.2.2.1 hfu
          have R4 : REL kSo sw I1 L1 J2 := REL_chk R f5 z5
          rw [e4, Option.bind_some]
          simp only [m_fI, Option.bind_some, m_gives]
          split <;> exact OPR_fin okS_o R4
        simp only [if_neg a4]
        by_cases a5 : a = 5
        · simp only [if_pos a5]; exact fin _ _
        simp only [if_neg a5]; exact fin _ _
    · simp only [if_true, if_neg (show ¬ (1 : Int32) = 0 by decide), c_refuse, m_refuse, Option.bind_some]
      exact fin _ _
  · have hc : inR a 7 = false := by simpa using hc
    simp only [hc, if_true, Bool.false_eq_true, if_false]
    exact OPR_fin okS_o h
theorem nI_dec (k : Nat) : nI (k + 1) + (-1 : Int32) = nI k := by
  rw [← Int32.sub_eq_add_neg, nI_pred]
theorem op_path {a : Int32} (h : REL kSo sw I L J) (hfu : 2048 < fu) : OPR kSo (MX8_path fu 0 a (mkC sw I L)) (MX9_path fu 0 a (mkM J K)) := by
  obtain ⟨D, hA, hC⟩ := h.2.2.1
  have h40 := hA.1.1.2.2.2
  simp only [MX8_path, MX9_path, c8_g, m_g, Option.bind_some, c_refuse, m_refuse]
  by_cases ha : (0 : Int32) ≤ a
  · obtain ⟨I1, L1, J1, K1, e1, e2, R, o1, o2, eP⟩ := both_search (K := K) (fu := fu) h hfu
    obtain ⟨m1, m2, m3⟩ := o2
    have n1 := m2.1
    simp only [if_pos ha, e1, e2, Option.bind_some, c6_fI, m_fI, c_refuse, m_refuse, c_answer, m_gives, jn]
    rw [o1.1.2.1, m1.2.1]
    have fin : ∀ r z : Int32, OPR kSo (some (r, mkC sw (ur I1 0 (up (I1 0) 9 z)) L1)) (some (r, mkM (ur J1 0 (up (J1 0) 5 z)) K1)) := fun r z => OPR_fin okS_o R
    cases m : (finS (J 2)).mo
    · obtain ⟨⟨x1, x2, x3, x4, x5, x6, x7⟩, x8⟩ := o1.2 m
      have q := m3 m
      have cl := cnt_le (finS (J 2)).n (bad (J 2) (finS (J 2)))
      simp only [Bool.false_eq_true, if_false, if_true]
      rw [m_firstWrong m1 m2 q (by omega), Option.bind_some, x1, x8]
      rcases fwj_of (P := J 2) (s := finS (J 2)) (finS (J 2)).n n1 with ⟨f1, f2, f3, f4⟩ | ⟨j, j1, j2, j3, j4, j5, j6⟩
      · rw [f1, f3, if_pos (show nI 0 = 0 from rfl), if_pos rfl]
        exact fin _ _
      · have nm : ¬ nI j = -1 := nI_ne_m1 (by omega)
        have hf : ∀ j, j < (finS (J 2)).n → (finS (J 2)).fr j = -1 ∨ ∃ q, q < j ∧ (finS (J 2)).fr j = nI q := fun j hj => (m2.2.2 j hj).2.2
        rw [if_neg (show ¬ nI (cnt (finS (J 2)).n (bad (J 2) (finS (J 2)))) = 0 from fun z => j5 (nI_inj (b := 0) (by omega) (by decide) z)), j2, if_neg nm, m_stepsTo m1 m2 (Or.inr ⟨j, j1, rfl⟩) (by omega), Option.bind_some]
        have ll := lenB_le hf n1 1001 j j1
        by_cases ca : a < nI (lenB (finS (J 2)).fr 1001 (nI j))
        · rw [if_pos ca, if_pos ca]
          obtain ⟨i, hi, rfl⟩ : ∃ i, i < lenB (finS (J 2)).fr 1001 (nI j) ∧ a = nI i := by
            refine inR_of (by omega) ?_
            unfold inR
            rw [i_lt, n_i (by omega)] at ca
            rw [i_le, z_i] at ha
            exact decide_eq_true ⟨ha, ca⟩
          have loop : ∀ d q st, q < (finS (J 2)).n → lenB (finS (J 2)).fr 1001 (nI q) = st + 1 → st = i + d → st < 1000 → ∃ q', q' < (finS (J 2)).n ∧ (∀ f, d < f → ∀ j4 : Int32 → Option Int32, wh2 (MX6_placeOnWrongPath_B12 (nI i) j4 (mkC sw I1 L1) 214) f (nI q) (nI st) = j4 (nI q')) ∧ (∀ f, d < f → ∀ j6 : Int32 → Option (Int32 × Hp), wh2 (MX9_path_B66 (nI i) j6 (mkM J1 K1) 0) f (nI q) (nI st) = j6 (nI q')) := by
            intro d
            induction d with
            | zero =>
              intro q st hq hl hs hs2
              refine ⟨q, hq, fun f hf j4 => ?_, fun f hf j6 => ?_⟩
              · obtain ⟨f, rfl⟩ : ∃ f', f = f' + 1 := ⟨f - 1, by omega⟩
                show MX6_placeOnWrongPath_B12 _ _ _ _ _ _ _ = _
                unfold MX6_placeOnWrongPath_B12
                rw [if_pos (nI_le (by omega) (by omega))]
              · obtain ⟨f, rfl⟩ : ∃ f', f = f' + 1 := ⟨f - 1, by omega⟩
                show MX9_path_B66 _ _ _ _ _ _ _ = _
                unfold MX9_path_B66
                rw [if_pos (nI_le (by omega) (by omega))]
            | succ d ih =>
              intro q st hq hl hs hs2
              rw [lenB_n hf n1 hq] at hl
              obtain ⟨st, rfl⟩ : ∃ st', st = st' + 1 := ⟨st - 1, by omega⟩
              obtain ⟨q2, hq2, e2⟩ : ∃ q2, q2 < (finS (J 2)).n ∧ (finS (J 2)).fr q = nI q2 := by
                rcases hf q hq with z | ⟨q2, z1, z2⟩
                · rw [z, lenB_1] at hl; omega
                · exact ⟨q2, by omega, z2⟩
              rw [e2] at hl
              obtain ⟨q', hq', c1, c2⟩ := ih q2 st hq2 (by omega) (by omega) (by omega)
              refine ⟨q', hq', fun f hf j4 => ?_, fun f hf j6 => ?_⟩
              · obtain ⟨f, rfl⟩ : ∃ f', f = f' + 1 := ⟨f - 1, by omega⟩
                show MX6_placeOnWrongPath_B12 _ _ _ _ _ _ _ = _
                unfold MX6_placeOnWrongPath_B12
                rw [if_neg (nI_ge (by omega) (by omega)), if_neg (nI_ne_m1 (by omega)), c6_r11, Option.bind_some, c6_ld11 (by omega), Option.bind_some, (o1.1.2.2.1 q hq).2, e2, nI_dec]
                exact c1 f (by omega) j4
              · obtain ⟨f, rfl⟩ : ∃ f', f = f' + 1 := ⟨f - 1, by omega⟩
                show MX9_path_B66 _ _ _ _ _ _ _ = _
                unfold MX9_path_B66
                rw [if_neg (nI_ge (by omega) (by omega)), m_r40, Option.bind_some, m_ld24 (by omega), Option.bind_some, (m1.2.2 q hq).2, e2, nI_dec]
                exact c2 f (by omega) j6
          obtain ⟨ln, hln⟩ : ∃ ln, lenB (finS (J 2)).fr 1001 (nI j) = ln + 1 := ⟨lenB (finS (J 2)).fr 1001 (nI j) - 1, by omega⟩
          obtain ⟨q', hq', c1, c2⟩ := loop (ln - i) j ln j1 hln (by omega) (by omega)
          obtain ⟨gp, gc, -⟩ := m2.2.2 q' hq'
          simp only [MX6_placeOnWrongPath, c6_g, c6_fI, Option.bind_some, jn, c6_r10]
          rw [x2, j2, x8, j2, hln, nI_pred, c1 fu (by omega), c2 fu (by omega), if_neg (nI_ne_m1 (by omega)), c6_ld10 (by omega), Option.bind_some, (o1.1.2.2.1 q' hq').1, c_placeOf hA gc (by omega), Option.bind_some, Option.bind_some, m_placeOf hA m1 m2 hq', Option.bind_some]
          exact fin _ _
        · rw [if_neg ca, if_neg ca]
          exact fin _ _
    · simp only [if_true, if_neg (show ¬ (1 : Int32) = 0 by decide)]
      exact fin _ _
  · simp only [if_neg ha]
    exact OPR_fin okS_o h
end Paths
