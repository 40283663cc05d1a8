/-! PATHS, PATH, TRULY, LEFT, NEVER -/
section OpsS
variable {sw : Bool} {I I' : Nat → Nat → Int32} {L L' : Nat → Nat → Int64} {J J' : Nat → Nat → Int32} {K K' : Nat → Nat → Int64} {fu : Nat} {D : Nat → Nat} {P : Nat → Int32} {s : Sch}
theorem c_finished (h : REL kSo sw I L J) (hfu : 2048 < fu) : ∃ I' L', MX8_finishedSearch fu 0 (mkC sw I L) = some (214, mkC sw I' L') ∧ REL kSo sw I' L' J ∧ SchOK (J 2) I' L' := by
  obtain ⟨D, hA, hC⟩ := h.2.2.1
  simp only [MX8_finishedSearch, c8_g, c8_fI, c8_r3, c8_pg, Option.bind_some, jn]
  rcases h.2.2.2.2.2.2.2 with q | ⟨q, q2⟩
  · rw [if_pos q]
    obtain ⟨_, e1, I1, L1, rfl, o1, f1⟩ := c_explore (sw := sw) (I := I) (L := L) (fu := fu) pid_P hC hA hfu
    rw [e1, Option.bind_some, c8_pZ (Or.inr rfl), Option.bind_some, c8_r3, Option.bind_some]
    have o2 : SchOK (J 2) (ur I1 0 (up (I1 0) 8 1)) L1 := by
      refine ⟨SCc_fr o1.1 ⟨by rw [ur_ne (by decide)], by rw [ur_ne (by decide)]⟩ (ur_ne (by decide)) (ur_ne (by decide)) rfl, fun m => ?_⟩
      obtain ⟨a, b⟩ := o1.2 m
      unfold SCx
      rw [ur_ne (by decide), ur_ne (by decide), ur_ne (by decide)]
      exact ⟨a, b⟩
    refine ⟨_, L1, rfl, ?_, o2⟩
    obtain ⟨⟨n, t1, t2, t3, t4⟩, ⟨s1, s2, s3⟩, -, z, r, k1, g1, -⟩ := h
    have hb : ∀ b, b ≠ 0 → b < 214 ∨ 223 < b → ur I1 0 (up (I1 0) 8 1) b = I b := fun b b0 hb => by rw [ur_ne b0, f1.1 b hb]
    have h0 : ∀ k, k ≠ 8 → ur I1 0 (up (I1 0) 8 1) 0 k = I 0 k := fun k hk => by rw [ur_at, up_ne hk, f1.1 0 (by decide)]
    refine ⟨⟨n, t1, by rw [hb 2 (by decide) (by decide)]; exact t2, t3, fun j hj => by rw [hb 3 (by decide) (by decide)]; exact t4 j hj⟩, ⟨by rw [h0 9 (by decide)]; exact s1, by rw [h0 10 (by decide)]; exact s2, by rw [h0 11 (by decide)]; exact s3⟩, ⟨D, hA, CR_fr2 hC (fun d hd => by rcases (pid_P (sw := sw)) with e | e <;> rw [e] <;> exact hb _ (by omega) (by omega))⟩, z, fun i hi => by rw [f1.2 4 (by decide)]; exact r i hi, ?_, fun i hi => by rw [hb 227 (by decide) (by decide)]; exact g1 i hi, Or.inr ⟨by rw [ur_at, up_at], o2⟩⟩
    unfold kF
    rw [h0 7 (by decide)]
    rcases k1 with k1 | ⟨k1, k2⟩
    · exact Or.inl k1
    · exact Or.inr ⟨k1, FlowOK_fr k2 (fun b b1 b2 => hb b (by omega) (by omega))⟩
  · rw [if_neg (by rw [q]; decide)]
    exact ⟨I, L, rfl, h, q2⟩
theorem REL_lays (h : REL kSo sw I L J) (f : frL J J') : REL kSo sw I L J' := by
  obtain ⟨⟨n, t1, t2, t3, t4⟩, ⟨s1, s2, s3⟩, w, z, r⟩ := h
  have e2 : J' 2 = J 2 := f.1 2 (by decide) (by decide) (by decide)
  have e1 : J' 1 = J 1 := f.1 1 (by decide) (by decide) (by decide)
  have e0 : ∀ k, k < 42 → J' 0 k = J 0 k := fun k hk => f.2 k (by omega)
  unfold REL
  rw [e2]
  exact ⟨⟨n, t1, t2, by rw [e0 4 (by decide)]; exact t3, fun j hj => by rw [e1]; exact t4 j hj⟩, ⟨by rw [e0 5 (by decide)]; exact s1, by rw [e0 6 (by decide)]; exact s2, by rw [e0 7 (by decide)]; exact s3⟩, w, by rw [e0 31 (by decide)]; exact z, r⟩
theorem both_search (h : REL kSo sw I L J) (hfu : 2048 < fu) : ∃ I' L' J' K', MX8_finishedSearch fu 0 (mkC sw I L) = some (214, mkC sw I' L') ∧ MX9_laysPaths fu 0 (mkM J K) = some (mkM J' K') ∧ REL kSo sw I' L' J' ∧ SchOK (J 2) I' L' ∧ MsOK (J 2) J' K' ∧ J' 2 = J 2 := by
  obtain ⟨D, hA, hC⟩ := h.2.2.1
  obtain ⟨I', L', e1, r1, o1⟩ := c_finished (fu := fu) h hfu
  obtain ⟨_, e2, J', K', rfl, o2, f2⟩ := m_laysPaths (J := J) (K := K) (fu := fu) rfl hA (by omega)
  exact ⟨I', L', J', K', e1, e2, REL_lays r1 f2, o1, o2, f2.1 2 (by decide) (by decide) (by decide)⟩
/-- where it is more, both refuse; else -/
theorem mo_0 {b : Bool} : ((if b = true then (1 : Int32) else 0) = 0) ↔ b = false := by cases b <;> simp
theorem op_left {a : Int32} (h : REL kSo sw I L J) (hfu : 2048 < fu) : OPR kSo (MX8_left fu 0 a (mkC sw I L)) (MX9_left fu 0 a (mkM J K)) := by
  obtain ⟨D, hA, hC⟩ := h.2.2.1
  have h4 := hA.1.1.1.2
  simp only [MX8_left, MX9_left, c8_g, m_g, c8_pg, c4_r0 pid_P, Option.bind_some]
  rw [c_hasKind (isP_K pid_P) (hC.1.1.trans hA.1.1.1.1) (by omega), Option.bind_some, m_isKind hA.1.1.1.1 (by omega), Option.bind_some]
  by_cases hk : inR a (nK (J 2)) = true
  · obtain ⟨k, k1, rfl⟩ := inR_of (by omega) hk
    obtain ⟨I1, L1, J1, K1, e1, e2, R, o1, o2, -⟩ := both_search (K := K) (fu := fu) h hfu
    simp only [hk, if_true, show ¬ (1 : Int32) = 0 by decide, if_false, e1, e2, Option.bind_some, c6_fI, m_fI, c6_r8, m_r38, c_refuse, m_refuse]
    rw [o1.1.2.1, o2.1.2.1]
    cases m : (finS (J 2)).mo
    · simp only [Bool.false_eq_true, if_false, if_true]
      rw [c6_ld8 (by omega), m_ld22 (by omega)]
      simp only [Option.bind_some, c_answer, m_gives]
      rw [(o1.2 m).1.2.2.2.2.2.2 k (by omega), (o2.2.2 m).2.1 k (by omega)]
      exact OPR_fin okS_o R
    · simp only [if_true, show ¬ (1 : Int32) = 0 by decide, if_false]
      exact OPR_fin okS_o R
  · have hk : inR a (nK (J 2)) = false := by simpa using hk
    simp only [hk, Bool.false_eq_true, if_false, if_true, c_refuse, m_refuse, Option.bind_some]
    exact OPR_fin okS_o h
theorem m_placeOf (hA : WFA P D) (h : SMr s J K) (g : GS P s) {c : Nat} (hc : c < s.n) : MX9_placeOf 0 (nI c) (mkM J K) = some (nI (s.pl c)) := by
  have h40 := hA.1.1.2.2.2
  have n1 := g.1
  obtain ⟨gp, gc, -⟩ := g.2.2 c hc
  have lt := fun v hv => cR_lt (v := v) hA gc hv
  simp only [MX9_placeOf, m_g, m_r39, Option.bind_some]
  rw [m_ld23 (by omega), Option.bind_some, (h.2.2 c hc).1]
  unfold kR
  rw [place_of (pen_lt (by omega) lt), pen_pl lt]
/-- the reference asks if some configuration stands at a place -/
theorem m_neverIn (hA : WFA P D) (h : SMr s J K) (g : GS P s) {j15 : Int32 → Option (Int32 × Hp)} {p : Nat} (hp : p ≤ 40) (hfu : 1001 < fu) : wh2 (MX9_never_B47 (mkM J K) 0 j15 (nI p)) fu (0 : Int32) (0 : Int32) = j15 (if cnt s.n (isAt s p) = 0 then 0 else 1) := by
  have h40 := hA.1.1.2.2.2
  have n1 := g.1
  refine wh2_rule (fun r b n => ∃ c, c + r = s.n ∧ n = nI c ∧ b = if cnt c (isAt s p) = 0 then 0 else 1) ?_ fu s.n _ _ (by omega) ⟨0, by omega, rfl, rfl⟩
  rintro r b n self ⟨c, hc, rfl, rfl⟩ ih
  have cs : cnt (c + 1) (isAt s p) = cnt c (isAt s p) + if isAt s p c then 1 else 0 := rfl
  simp only [MX9_never_B47, m_fI, Option.bind_some, jn]
  rw [h.1]
  by_cases hr : r = 0
  · rw [if_pos (nI_le (by omega) (by omega)), show c = s.n by omega]
  · rw [if_neg (nI_ge (by omega) (by omega))]
    obtain ⟨gp, -⟩ := g.2.2 c (by omega)
    by_cases c0 : cnt c (isAt s p) = 0
    · rw [if_pos c0, if_pos rfl, m_placeOf hA h g (by omega), Option.bind_some]
      by_cases ce : s.pl c = p
      · rw [if_pos (by rw [ce])]
        refine ih (r - 1) _ _ (by omega) ⟨c + 1, by omega, nI_1 c, ?_⟩
        rw [cs, show isAt s p c = true from decide_eq_true ce, if_neg (by simp)]
      · rw [if_neg (fun z => ce (nI_inj (by omega) (by omega) z))]
        refine ih (r - 1) _ _ (by omega) ⟨c + 1, by omega, nI_1 c, ?_⟩
        rw [cs, show isAt s p c = false from decide_eq_false ce, c0]
        rfl
    · rw [if_neg c0, if_neg (by decide)]
      refine ih (r - 1) _ _ (by omega) ⟨c + 1, by omega, nI_1 c, ?_⟩
      rw [cs, if_neg (by omega)]
theorem op_never {a : Int32} (h : REL kSo sw I L J) (hfu : 2048 < fu) : OPR kSo (MX8_never fu 0 a (mkC sw I L)) (MX9_never fu 0 a (mkM J K)) := by
  obtain ⟨D, hA, hC⟩ := h.2.2.1
  have h40 := hA.1.1.2.2.2
  simp only [MX8_never, MX9_never, c8_g, m_g, Option.bind_some, c_refuse, m_refuse]
  by_cases ha : (-1 : Int32) ≤ a
  · obtain ⟨I1, L1, J1, K1, e1, e2, R, o1, o2, eP⟩ := both_search (K := K) (fu := fu) h hfu
    simp only [if_pos ha, e1, e2, Option.bind_some, c6_fI, m_fI, c_refuse, m_refuse, c_answer, m_gives, jn]
    rw [o1.1.2.1, o2.1.2.1]
    cases m : (finS (J 2)).mo
    · simp only [Bool.false_eq_true, if_false, if_true]
      obtain ⟨D1, hA1, hC1⟩ := R.2.2.1
      have st : I1 (pid sw) 3 = nI (nT (J 2)) := by rw [hC1.2.2.1, eP]; exact hA.1.1.2.2.1
      have rch := (o1.2 m).1.2.2.2.2.2.1
      -- both go along the places side by side
      have loop : ∀ r f1 f2 p n, p + r = nT (J 2) → r < f1 → r < f2 → ∃ x : Int32 × Int32, wh2 (MX8_never_B35 (214, mkC sw I1 L1) 0 (fun v3 => if a = -1 then some (v3, mkC sw (ur I1 0 (up (I1 0) 9 0)) L1) else some (-1, mkC sw (ur I1 0 (up (I1 0) 9 5)) L1)) a (fun v7 => some (v7, mkC sw (ur I1 0 (up (I1 0) 9 0)) L1))) f1 n (nI p) = some (x.1, mkC sw (ur I1 0 (up (I1 0) 9 x.2)) L1) ∧ wh2 (MX9_never_B33 fu 0 (mkM J1 K1) (fun v3 => if a = -1 then some (v3, mkM (ur J1 0 (up (J1 0) 5 0)) K1) else some (-1, mkM (ur J1 0 (up (J1 0) 5 5)) K1)) a (fun v7 => some (v7, mkM (ur J1 0 (up (J1 0) 5 0)) K1))) f2 n (nI p) = some (x.1, mkM (ur J1 0 (up (J1 0) 5 x.2)) K1) := by
        intro r
        induction r with
        | zero =>
          intro f1 f2 p n hp h1 h2
          obtain ⟨f1, rfl⟩ : ∃ f, f1 = f + 1 := ⟨f1 - 1, by omega⟩
          obtain ⟨f2, rfl⟩ : ∃ f, f2 = f + 1 := ⟨f2 - 1, by omega⟩
          unfold wh2
          simp only [MX8_never_B35, MX9_never_B33, c8_pg, c4_fI pid_P, m_statements, Option.bind_some]
          rw [st, eP, hA.1.1.2.2.1, if_pos (nI_le (by omega) (by omega)), if_pos (nI_le (by omega) (by omega))]
          by_cases a1 : a = -1
          · exact ⟨(n, 0), by rw [if_pos a1], by rw [if_pos a1]⟩
          · exact ⟨(-1, 5), by rw [if_neg a1], by rw [if_neg a1]⟩
        | succ r ih =>
          intro f1 f2 p n hp h1 h2
          obtain ⟨f1, rfl⟩ : ∃ f, f1 = f + 1 := ⟨f1 - 1, by omega⟩
          obtain ⟨f2, rfl⟩ : ∃ f, f2 = f + 1 := ⟨f2 - 1, by omega⟩
          rw [wh2, wh2]
          simp only [MX8_never_B35, MX9_never_B33, c8_pg, c4_fI pid_P, m_statements, c6_r7, Option.bind_some, jn]
          rw [st, eP, hA.1.1.2.2.1, if_neg (nI_ge (by omega) (by omega)), if_neg (nI_ge (by omega) (by omega)), c6_ld7 (by omega), Option.bind_some, rch p (by omega), m_neverIn hA o2.1 o2.2.1 (by omega) (by omega)]
          by_cases c0 : cnt (finS (J 2)).n (isAt (finS (J 2)) p) = 0
          · rw [if_pos c0, if_pos rfl, if_pos rfl]
            by_cases na : n = a
            · rw [if_pos na, if_pos na]
              exact ⟨(nI p, 0), rfl, rfl⟩
            · rw [if_neg na, if_neg na, nI_1]
              exact ih f1 f2 (p + 1) _ (by omega) (by omega) (by omega)
          · rw [if_neg c0, if_neg (by decide), if_neg (by decide), nI_1]
            exact ih f1 f2 (p + 1) _ (by omega) (by omega) (by omega)
      obtain ⟨x, x1, x2⟩ := loop (nT (J 2)) fu fu 0 0 (by omega) (by omega) (by omega)
      rw [show (0 : Int32) = nI 0 from rfl] at x1 x2 ⊢
      rw [x1, x2]
      exact OPR_fin okS_o R
    · simp only [if_true, show ¬ (1 : Int32) = 0 by decide, if_false]
      exact OPR_fin okS_o R
  · simp only [if_neg ha]
    exact OPR_fin okS_o h
end OpsS
