/-- what a round of the reference's search changes -/
def frR (J J' : Nat → Nat → Int32) : Prop := (∀ b, b ≠ 0 → b < 19 ∨ 25 < b → J' b = J b) ∧ ∀ k, k < 42 ∨ 44 < k → J' 0 k = J 0 k
theorem frR_refl {J : Nat → Nat → Int32} : frR J J := ⟨fun _ _ _ => rfl, fun _ _ => rfl⟩
theorem frR_trans {J J1 J2 : Nat → Nat → Int32} (a : frR J J1) (b : frR J1 J2) : frR J J2 := ⟨fun q q0 hq => by rw [b.1 q q0 hq, a.1 q q0 hq], fun k hk => by rw [b.2 k hk, a.2 k hk]⟩
theorem frR_A {J J1 : Nat → Nat → Int32} (a : frA J J1) : frR J J1 := ⟨fun q q0 hq => a.1 q q0 (by omega), fun k hk => a.2 k (by omega) (by omega)⟩
section RefE
variable {J J' : Nat → Nat → Int32} {K K' : Nat → Nat → Int64} {fu v w p t i c x : Nat} {D : Nat → Nat} {X Y P l : Nat → Int32} {s s' : Sch} {y z : Int32}
theorem SMx_le (h : leH s s') (hc : c ≤ s.n) (ht : s'.th = s.th) (hl : s'.lf = s.lf) (q : SMx P s c J) (e : J' 0 43 = J 0 43 ∧ J' 22 = J 22 ∧ J' 25 = J 25) : SMx P s' c J' := by
  obtain ⟨e1, e2, e3⟩ := e
  unfold SMx
  rw [e1, e2, e3, ht, hl]
  exact ⟨q.1, q.2.1, fun j hj => by rw [q.2.2 j hj, rj_le h (by omega)]⟩
theorem fol_is (hA : WFA P D) (hi : i < nT P) (hl : lkZ P i z = nI t) (ht : t ≤ nT P) (e : tr P i z X = some Y) : folS P s i X c z = addS s t Y (nI c) := by
  have h40 := hA.1.1.2.2.2
  unfold folS
  rw [hl, if_neg (nI_ne_m1 (by omega)), e, nN_nI (by omega)]
theorem m_explores (eP : J 2 = P) (hA : WFA P D) (ho : ∀ j, j < nT P → ot J j = no j) (h : SMr s J K) (q : SMx P s c J) (g : GS P s) (hc : c < s.n) (hfu : 1001 < fu) :
    ∃ J' K', MX9_explores fu 0 (nI c) (mkM J K) = some (mkM J' K') ∧ SMr (expS P s c) J' K' ∧ SMx P (expS P s c) (c + 1) J' ∧ frR J J' := by
  have h40 := hA.1.1.2.2.2
  have n1 := g.1
  obtain ⟨gp, gc, -⟩ := g.2.2 c hc
  obtain ⟨q1, q2, q3⟩ := q
  have t6 := thg_le (X := s.xs c)
  have th6 := g.2.1
  -- the things are laid
  obtain ⟨J1, e1, f1, t1⟩ := m_laysC (J := J) (K := K) (fu := fu) hA gc (show s.pl c ≤ 40 by omega) (by omega)
  have cf1 : CF P (J1 19) (J1 20) (J1 21) (s.xs c) := CF_cong gc t1
  let J2 := ur (ur J1 0 (up (J1 0) 43 (nI (max s.th (thg (s.xs c)))))) 25 (up (J1 25) c 0)
  have J2o : ∀ b, b ≠ 0 → b ≠ 25 → J2 b = J1 b := fun b b0 b25 => by show ur (ur J1 0 _) 25 _ b = _; rw [ur_ne b25, ur_ne b0]
  have J20 : ∀ k, k ≠ 43 → J2 0 k = J 0 k := fun k hk => by show ur (ur J1 0 _) 25 _ 0 k = _; rw [ur_ne (by decide), ur_at, up_ne hk, f1 0 (by decide)]
  have J243 : J2 0 43 = nI (max s.th (thg (s.xs c))) := by show ur (ur J1 0 _) 25 _ 0 43 = _; rw [ur_ne (by decide), ur_at, up_at]
  have J225 : ∀ x, up (J2 25) c x = up (J 25) c x := fun x => by
    show up (ur (ur J1 0 _) 25 _ 25) c x = _
    rw [ur_at, f1 25 (by decide)]
    funext j
    by_cases d : j = c
    · rw [d, up_at, up_at]
    · rw [up_ne d, up_ne d, up_ne d]
  have J2P : J2 2 = P := by rw [J2o 2 (by decide) (by decide), f1 2 (by decide), eP]
  have J222 : J2 22 = J 22 := by rw [J2o 22 (by decide) (by decide), f1 22 (by decide)]
  have J224 : J2 24 = J 24 := by rw [J2o 24 (by decide) (by decide), f1 24 (by decide)]
  have cf2 : CF P (J2 19) (J2 20) (J2 21) (s.xs c) := by rw [J2o 19 (by decide) (by decide), J2o 20 (by decide) (by decide), J2o 21 (by decide) (by decide)]; exact cf1
  have fr2 : frR J J2 := ⟨fun b b0 hb => by rw [J2o b b0 (by omega), f1 b (by omega)], fun k hk => J20 k (by omega)⟩
  have ot9 : ∀ J', J' 9 = J 9 → ∀ j, j < nT P → ot J' j = no j := fun J' e j hj => by
    have := ho j hj
    unfold ot at this ⊢
    rw [e]; exact this
  have J29 : J2 9 = J 9 := fr2.1 9 (by decide) (by decide)
  -- what the rows say when leftBy and wrong have been written
  have sm0 : ∀ J' : Nat → Nat → Int32, J' 0 42 = J2 0 42 → J' 0 44 = J2 0 44 → J' 24 = J2 24 → SMr (exp0 P s c) J' K := by
    intro J' a1 a2 a3
    refine ⟨by rw [a1, J20 42 (by decide)]; exact h.1, by rw [a2, J20 44 (by decide)]; exact h.2.1, fun j hj => ?_⟩
    rw [a3, J224]
    exact h.2.2 j hj
  have sx0 : ∀ J' : Nat → Nat → Int32, J' 0 43 = J2 0 43 → (∀ k, k < 4 → J' 22 k = lf1 P (s.pl c) (s.xs c) (J 22) k) → J' 25 = up (J2 25) c (rj P s c) → SMx P (exp0 P s c) (c + 1) J' := by
    intro J' a1 a2 a3
    refine ⟨by rw [a1, J243]; rfl, fun k hk => ?_, fun j hj => ?_⟩
    · rw [a2 k hk]
      exact lf1_congr hA gp q2 k hk
    · rw [a3, J225, rj_le leH_0 (by omega)]
      by_cases d : j = c
      · rw [d, up_at]
      · rw [up_ne d]; exact q3 j (by omega)
  simp only [MX9_explores, m_g, m_r39, Option.bind_some]
  rw [m_ld23 (by omega), Option.bind_some, (h.2.2 c hc).1, e1, Option.bind_some]
  simp only [m_fI, m_pI, m_r41, Option.bind_some]
  rw [m_things cf1 (by omega), Option.bind_some, f1 0 (by decide), q1, jmax_n (by omega) (by omega), m_st25 (by omega), Option.bind_some]
  have eJ2 : (ur (ur J1 0 (up (J 0) 43 (nI (max s.th (thg (s.xs c)))))) 25 (up (ur J1 0 (up (J 0) 43 (nI (max s.th (thg (s.xs c))))) 25) c 0)) = J2 := by
    show _ = ur (ur J1 0 (up (J1 0) 43 _)) 25 (up (J1 25) c 0)
    rw [ur_ne (show (25 : Nat) ≠ 0 by decide), f1 0 (by decide)]
  rw [eJ2, m_statements, Option.bind_some, J2P, hA.1.1.2.2.1]
  by_cases ce : s.pl c = nT P
  · -- the end
    rw [if_pos (by rw [ce])]
    obtain ⟨l, e3, l1⟩ := m_finishes (J := J2) (K := K) (fu := fu) (X := s.xs c) (D := D) (by rw [J2P]; exact hA) (by rw [J2P]; exact cf2) (by omega)
    rw [m_r41, Option.bind_some, e3, Option.bind_some]
    simp only []
    rw [m_st25 (by omega), Option.bind_some, ur_ne (show (25 : Nat) ≠ 22 by decide), J2P]
    have xe : expS P s c = exp0 P s c := by unfold expS; rw [if_pos (Or.inl ce)]
    rw [xe]
    refine ⟨_, K, rfl, sm0 _ (by rw [ur_ne (by decide), ur_ne (by decide)]) (by rw [ur_ne (by decide), ur_ne (by decide)]) (by rw [ur_ne (by decide), ur_ne (by decide)]), sx0 _ (by rw [ur_ne (by decide), ur_ne (by decide)]) (fun k hk => ?_) (by rw [ur_at]; unfold rj; rw [ce]), frR_trans fr2 ⟨fun b b0 hb => by rw [ur_ne (by omega), ur_ne (by omega)], fun k hk => by rw [ur_ne (by decide), ur_ne (by decide)]⟩⟩
    rw [ur_ne (by decide), ur_at, l1 k hk, J2P, J222]
    unfold lf1
    rw [if_pos ce]
  · have hi : s.pl c < nT P := by omega
    rw [if_neg (fun z => ce (nI_inj (by omega) (by omega) z)), m_sortAt (by omega), Option.bind_some, J2P]
    obtain ⟨so, h10, eso, es, o1, o2, o3⟩ := op_of hA.1 hA.2.1 hA.2.2 hi
    obtain ⟨tY, tY1, tY2⟩ := lkY_pl (out := no) hA.1.1 hA.2.2 hi
    have lY : ∀ J', J' 9 = J 9 → lkY P (ot J') (s.pl c) = nI tY := fun J' e => by rw [lkY_congr hA.2.2 (ot9 J' e) hi h40, tY2]
    have lN0 : ∀ J', J' 9 = J 9 → lkN P (ot J') (s.pl c) = lkN P no (s.pl c) := fun J' e => lkN_congr hA.2.2 (ot9 J' e) hi h40
    have z1 : lkZ P (s.pl c) 1 = nI tY := by unfold lkZ; rw [if_neg (by decide), tY2]
    have z0 : lkZ P (s.pl c) 0 = lkN P no (s.pl c) := by unfold lkZ; rw [if_pos rfl]
    rw [eso]
    by_cases h9 : so < 9
    · rw [show (9 : Int32) = nI 9 from rfl, if_pos (nI_lt h9 (by decide))]
      obtain ⟨r, J3, e3, r1, -, fo, f22, cc⟩ := m_does (J := J2) (K := K) (fu := fu) (i := s.pl c) (X := s.xs c) (z := 1) (fr := 7) (D := D) (by rw [J2P]; exact hA) (by rw [J2P]; exact hi) (by rw [J2P, es]; exact h9) (by rw [J2P]; exact cf2) (fun _ => ⟨by decide, fun v hv => by rw [J2o 19 (by decide) (by decide), (t1 v hv).1]; exact cT_7 gc hv⟩) (by omega)
      rw [J2P] at r1 f22 cc
      have rr : r = rj P s c := r1
      rw [m_r41, Option.bind_some, e3, Option.bind_some]
      simp only []
      rw [m_st25 (by omega), Option.bind_some]
      let J4 := ur J3 25 (up (J3 25) c r)
      have J3o : ∀ b, b < 19 ∨ 22 < b → J3 b = J2 b := fo
      have J4o : ∀ b, b < 19 ∨ (22 < b ∧ b ≠ 25) → J4 b = J2 b := fun b hb => by show ur J3 25 _ b = _; rw [ur_ne (by omega), J3o b (by omega)]
      have J4P : J4 2 = P := by rw [J4o 2 (by decide), J2P]
      have sm4 : SMr (exp0 P s c) J4 K := sm0 J4 (by rw [J4o 0 (by decide)]) (by rw [J4o 0 (by decide)]) (J4o 24 (by decide))
      have J425 : J4 25 = up (J2 25) c (rj P s c) := by show ur J3 25 _ 25 = _; rw [ur_at, J3o 25 (by decide), rr]
      have J422 : J4 22 = lft P (s.pl c) (s.xs c) (J 22) := by show ur J3 25 _ 22 = _; rw [ur_ne (by decide), f22, J222]
      have sx4 : SMx P (exp0 P s c) (c + 1) J4 := sx0 J4 (by rw [J4o 0 (by decide)]) (fun k hk => by rw [J422]; unfold lf1; rw [if_neg ce]) J425
      have fr4 : frR J J4 := frR_trans fr2 ⟨fun b b0 hb => J4o b (by omega), fun k hk => by rw [J4o 0 (by decide)]⟩
      have J49 : J4 9 = J 9 := fr4.1 9 (by decide) (by decide)
      rw [m_r41, Option.bind_some, m_ld25 (by omega), Option.bind_some, ur_at, up_at]
      by_cases cr : rj P s c = 0
      · rw [if_pos ((le0_rsn (by rw [rr]; exact rsn_05)).mpr (by rw [rr, cr]))]
        obtain ⟨Y, y1, y2⟩ := cc (by rw [rr, cr])
        have ne : ¬ (s.pl c = nT P ∨ rj P s c ≠ 0) := by rintro (z | z); exact ce z; exact z cr
        have by1 := m_byYes (J := J4) (K := K) (fu := fu) (D := D) (i := s.pl c) (by rw [J4P]; exact hA.1.1) (by rw [J4P]; exact hA.2.2) (by omega) (by rw [J4P]; exact hi)
        rw [J4P, lY J4 J49] at by1
        rw [show MX9_byYes fu 0 (nI (s.pl c)) (mkM (ur J3 25 (up (J3 25) c r)) K) = some (nI tY) from by1, Option.bind_some]
        have cf4 : CF P (J4 19) (J4 20) (J4 21) Y := y2
        obtain ⟨J5, K5, e5, h5, f5⟩ := m_adds (J := J4) (K := K) (fu := fu) (y := nI c) J4P hA sm4 (GS_0 g) tY1 cf4 hfu
        rw [show MX9_adds fu 0 (nI tY) (nI c) (mkM (ur J3 25 (up (J3 25) c r)) K) = some (mkM J5 K5) from e5, Option.bind_some]
        rw [← fol_is (P := P) (z := 1) hA hi z1 tY1 y1] at h5
        have l5 : leH (exp0 P s c) (folS P (exp0 P s c) (s.pl c) (s.xs c) c 1) := leH_fol
        have k5 := fol_keep (P := P) (s := exp0 P s c) (i := s.pl c) (X := s.xs c) (c := c) (z := 1)
        have ns : (exp0 P s c).n = s.n := rfl
        have x5 : SMx P (folS P (exp0 P s c) (s.pl c) (s.xs c) c 1) (c + 1) J5 := SMx_le l5 (by omega) k5.1 k5.2 sx4 ⟨f5.2 43 (by decide) (by decide), f5.1 22 (by decide) (by decide), f5.1 25 (by decide) (by decide)⟩
        have fr5 : frR J J5 := frR_trans fr4 (frR_A f5)
        have ia : MX9_isAsked (nI so) = some (if so = 7 ∨ so = 8 then 1 else 0) := by
          unfold MX9_isAsked
          simp only [jn]
          rcases (show so = 0 ∨ so = 1 ∨ so = 2 ∨ so = 3 ∨ so = 4 ∨ so = 5 ∨ so = 6 ∨ so = 7 ∨ so = 8 by omega) with e | e | e | e | e | e | e | e | e <;> subst e <;> rfl
        rw [ia, Option.bind_some]
        have xe : expS P s c = folS P (folS P (exp0 P s c) (s.pl c) (s.xs c) c 1) (s.pl c) (s.xs c) c 0 := by unfold expS; rw [if_neg ne]
        by_cases c7 : so < 7
        · rw [if_neg (show ¬ (so = 7 ∨ so = 8) by omega), if_pos rfl]
          have : folS P (folS P (exp0 P s c) (s.pl c) (s.xs c) c 1) (s.pl c) (s.xs c) c 0 = folS P (exp0 P s c) (s.pl c) (s.xs c) c 1 := by
            rw [folS, z0, if_pos ((s7 hA hi).2.mpr (by rw [es]; exact c7))]
          rw [xe, this]
          exact ⟨J5, K5, rfl, h5, x5, fr5⟩
        · rw [if_pos (show so = 7 ∨ so = 8 by omega), if_neg (by decide), m_r39, Option.bind_some, m_ld23 (by omega), Option.bind_some]
          have c5 : c < (folS P (exp0 P s c) (s.pl c) (s.xs c) c 1).n := by have := l5.1; omega
          have row := l5.2 c (by omega)
          rw [(h5.2.2 c c5).1, row.1, row.2.1]
          show ∃ J' K', ((MX9_lays fu 0 (kR (s.pl c) (s.xs c)) (mkM J5 K5)).bind _) = _ ∧ _
          obtain ⟨J6, e6, f6, t6⟩ := m_laysC (J := J5) (K := K5) (fu := fu) hA gc (show s.pl c ≤ 40 by omega) (by omega)
          rw [e6, Option.bind_some]
          simp only []
          have J6P : J6 2 = P := by rw [f6 2 (by decide), fr5.1 2 (by decide) (by decide), eP]
          have cf6 : CF P (J6 19) (J6 20) (J6 21) (s.xs c) := CF_cong gc t6
          obtain ⟨r7, J7, e7, r71, -, fo7, f722, cc7⟩ := m_does (J := J6) (K := K5) (fu := fu) (i := s.pl c) (X := s.xs c) (z := 0) (fr := 7) (D := D) (by rw [J6P]; exact hA) (by rw [J6P]; exact hi) (by rw [J6P, es]; exact h9) (by rw [J6P]; exact cf6) (fun _ => ⟨by decide, fun v hv => by rw [(t6 v hv).1]; exact cT_7 gc hv⟩) (by omega)
          rw [J6P] at r71 f722 cc7
          obtain ⟨Y7, y71, y72⟩ := cc7 (by rw [r71]; exact cr)
          rw [e7, Option.bind_some]
          simp only []
          have J7o : ∀ b, b < 19 ∨ 22 < b → J7 b = J5 b := fun b hb => by rw [fo7 b hb, f6 b (by omega)]
          have J7P : J7 2 = P := by rw [fo7 2 (by decide), J6P]
          have J722 : J7 22 = J5 22 := by
            rw [f722]
            unfold lft
            rw [if_neg (by rw [es]; omega), f6 22 (by decide)]
          have by0 := m_byNo (J := J7) (K := K5) (fu := fu) (D := D) (i := s.pl c) (by rw [J7P]; exact hA.1.1) (by rw [J7P]; exact hA.2.2) (by omega) (by rw [J7P]; exact hi)
          rw [J7P, lN0 J7 (by rw [J7o 9 (by decide), fr5.1 9 (by decide) (by decide)])] at by0
          obtain ⟨tN, tN1, tN2⟩ := lkN_pl (out := no) hA.1.1 hA.2.2 hi (fun q => by have := (s7 hA hi).2.mp q; rw [es] at this; omega)
          rw [tN2] at by0
          rw [by0, Option.bind_some]
          have sm7 : SMr (folS P (exp0 P s c) (s.pl c) (s.xs c) c 1) J7 K5 := by
            unfold SMr
            rw [J7o 0 (by decide), J7o 24 (by decide)]
            exact h5
          have g5 : GS P (folS P (exp0 P s c) (s.pl c) (s.xs c) c 1) := GS_fol hA (GS_0 g) hi gc cr hc
          obtain ⟨J8, K8, e8, h8, f8⟩ := m_adds (J := J7) (K := K5) (fu := fu) (y := nI c) J7P hA sm7 g5 tN1 y72 hfu
          rw [e8, Option.bind_some]
          rw [← fol_is (P := P) (z := 0) hA hi (z0.trans tN2) tN1 y71] at h8
          have l8 : leH (folS P (exp0 P s c) (s.pl c) (s.xs c) c 1) (folS P (folS P (exp0 P s c) (s.pl c) (s.xs c) c 1) (s.pl c) (s.xs c) c 0) := leH_fol
          have k8 := fol_keep (P := P) (s := folS P (exp0 P s c) (s.pl c) (s.xs c) c 1) (i := s.pl c) (X := s.xs c) (c := c) (z := 0)
          rw [xe]
          refine ⟨J8, K8, rfl, h8, SMx_le l8 (by omega) k8.1 k8.2 x5 ⟨by rw [f8.2 43 (by decide) (by decide), J7o 0 (by decide)], by rw [f8.1 22 (by decide) (by decide), J722], by rw [f8.1 25 (by decide) (by decide), J7o 25 (by decide)]⟩, frR_trans fr5 (frR_trans ⟨fun b b0 hb => J7o b (by omega), fun k hk => by rw [J7o 0 (by decide)]⟩ (frR_A f8))⟩
      · rw [if_neg (fun z => cr (by rw [← rr]; exact (le0_rsn (by rw [rr]; exact rsn_05)).mp z))]
        have xe : expS P s c = exp0 P s c := by unfold expS; rw [if_pos (Or.inr cr)]
        rw [xe]
        exact ⟨J4, K, rfl, sm4, sx4, fr4⟩
    · rw [show (9 : Int32) = nI 9 from rfl, if_neg (nI_nlt (by omega) (by omega))]
      have cr : rj P s c = 0 := by
        unfold rj rsn
        rw [if_neg ce, es]
        unfold rsS
        rw [if_pos (by omega)]
      have ne : ¬ (s.pl c = nT P ∨ rj P s c ≠ 0) := by rintro (z | z); exact ce z; exact z cr
      have trX : ∀ z, tr P (s.pl c) z (s.xs c) = some (s.xs c) := fun z => by
        unfold tr
        rw [es, if_neg (by omega), if_neg (by omega)]
      have sm2 : SMr (exp0 P s c) J2 K := sm0 J2 rfl rfl rfl
      have sx2 : SMx P (exp0 P s c) (c + 1) J2 := sx0 J2 rfl (fun k hk => by
        rw [J222]
        unfold lf1 lft
        rw [if_neg ce, if_neg (by rw [es]; omega)]) (by rw [cr]; show ur (ur J1 0 _) 25 _ 25 = up (ur (ur J1 0 _) 25 _ 25) c 0; rw [ur_at]; funext j; by_cases d : j = c; rw [d, up_at, up_at]; rw [up_ne d, up_ne d, up_ne d])
      have by1 := m_byYes (J := J2) (K := K) (fu := fu) (D := D) (i := s.pl c) (by rw [J2P]; exact hA.1.1) (by rw [J2P]; exact hA.2.2) (by omega) (by rw [J2P]; exact hi)
      rw [J2P, lY J2 J29] at by1
      rw [by1, Option.bind_some]
      obtain ⟨J5, K5, e5, h5, f5⟩ := m_adds (J := J2) (K := K) (fu := fu) (y := nI c) J2P hA sm2 (GS_0 g) tY1 cf2 hfu
      rw [e5, Option.bind_some]
      rw [← fol_is (P := P) (z := 1) hA hi z1 tY1 (trX 1)] at h5
      have l5 : leH (exp0 P s c) (folS P (exp0 P s c) (s.pl c) (s.xs c) c 1) := leH_fol
      have k5 := fol_keep (P := P) (s := exp0 P s c) (i := s.pl c) (X := s.xs c) (c := c) (z := 1)
      have ns : (exp0 P s c).n = s.n := rfl
      have x5 : SMx P (folS P (exp0 P s c) (s.pl c) (s.xs c) c 1) (c + 1) J5 := SMx_le l5 (by omega) k5.1 k5.2 sx2 ⟨f5.2 43 (by decide) (by decide), f5.1 22 (by decide) (by decide), f5.1 25 (by decide) (by decide)⟩
      have fr5 : frR J J5 := frR_trans fr2 (frR_A f5)
      have J5P : J5 2 = P := by rw [f5.1 2 (by decide) (by decide), J2P]
      have by0 := m_byNo (J := J5) (K := K5) (fu := fu) (D := D) (i := s.pl c) (by rw [J5P]; exact hA.1.1) (by rw [J5P]; exact hA.2.2) (by omega) (by rw [J5P]; exact hi)
      rw [J5P, lN0 J5 (fr5.1 9 (by decide) (by decide))] at by0
      obtain ⟨tN, tN1, tN2⟩ := lkN_pl (out := no) hA.1.1 hA.2.2 hi (fun q => by have := (s7 hA hi).2.mp q; rw [es] at this; omega)
      rw [tN2] at by0
      rw [by0, Option.bind_some]
      have g5 : GS P (folS P (exp0 P s c) (s.pl c) (s.xs c) c 1) := GS_fol hA (GS_0 g) hi gc cr hc
      obtain ⟨J8, K8, e8, h8, f8⟩ := m_adds (J := J5) (K := K5) (fu := fu) (y := nI c) (Y := s.xs c) J5P hA h5 g5 tN1 (by rw [f5.1 19 (by decide) (by decide), f5.1 20 (by decide) (by decide), f5.1 21 (by decide) (by decide)]; exact cf2) hfu
      rw [e8, Option.bind_some]
      rw [← fol_is (P := P) (z := 0) hA hi (z0.trans tN2) tN1 (trX 0)] at h8
      have l8 : leH (folS P (exp0 P s c) (s.pl c) (s.xs c) c 1) (folS P (folS P (exp0 P s c) (s.pl c) (s.xs c) c 1) (s.pl c) (s.xs c) c 0) := leH_fol
      have k8 := fol_keep (P := P) (s := folS P (exp0 P s c) (s.pl c) (s.xs c) c 1) (i := s.pl c) (X := s.xs c) (c := c) (z := 0)
      have xe : expS P s c = folS P (folS P (exp0 P s c) (s.pl c) (s.xs c) c 1) (s.pl c) (s.xs c) c 0 := by unfold expS; rw [if_neg ne]
      rw [xe]
      exact ⟨J8, K8, rfl, h8, SMx_le l8 (by have := l5.1; omega) k8.1 k8.2 x5 ⟨f8.2 43 (by decide) (by decide), f8.1 22 (by decide) (by decide), f8.1 25 (by decide) (by decide)⟩, frR_trans fr5 (frR_A f8)⟩
/-- all of the reference's search -/
def MsOK (P : Nat → Int32) (J : Nat → Nat → Int32) (K : Nat → Nat → Int64) : Prop := SMr (finS P) J K ∧ GS P (finS P) ∧ ((finS P).mo = false → SMx P (finS P) (finS P).n J)
def frL (J J' : Nat → Nat → Int32) : Prop := (∀ b, b ≠ 0 → b ≠ 9 → b < 19 ∨ 25 < b → J' b = J b) ∧ ∀ k, k < 42 ∨ 44 < k → J' 0 k = J 0 k
theorem m_laysPaths (eP : J 2 = P) (hA : WFA P D) (hfu : 1001 < fu) : WP (MX9_laysPaths fu 0 (mkM J K)) (fun h => ∃ J' K', h = mkM J' K' ∧ MsOK P J' K' ∧ frL J J') := by
  have h40 := hA.1.1.2.2.2
  simp only [MX9_laysPaths, m_g]
  obtain ⟨_, e1, g, rfl, h1⟩ := m_allIn (J := J) (K := K) (fu := fu) (by omega)
  rw [e1, Option.bind_some]
  simp only [jn]
  refine wh2_wp (fun r n h => ∃ v l, v + r = 4 ∧ n = nI v ∧ h = mkM (ur (ur J 9 g) 22 l) K ∧ ∀ k, k < v → l k = 0) ?_ fu 4 _ _ (by omega) ⟨0, J 22, rfl, rfl, by rw [show J 22 = ur J 9 g 22 from (ur_ne (by decide)).symm, ur_self], fun k hk => by omega⟩
  rintro r n h self ⟨v, l, hv, rfl, rfl, hl⟩ ih
  simp only [MX9_laysPaths_B6, m_r38, Option.bind_some]
  rw [show (4 : Int32) = nI 4 from rfl]
  by_cases hr : r = 0
  · subst hr
    rw [if_pos (nI_le (by omega) (by omega))]
    simp only [m_pI, m_pZ (Or.inl rfl), Option.bind_some, ur_ur, ur_at]
    generalize hG : ur (ur (ur J 9 g) 22 l) 0 _ = G
    have gO : ∀ b, b ≠ 0 → b ≠ 9 → b ≠ 22 → G b = J b := fun b b0 b9 b22 => by rw [← hG, ur_ne b0, ur_ne b22, ur_ne b9]
    have g0 : ∀ k, k < 42 ∨ 44 < k → G 0 k = J 0 k := fun k hk => by rw [← hG, ur_at, up_ne (by omega), up_ne (by omega), up_ne (by omega), ur_ne (by decide), ur_ne (by decide)]
    have g42 : G 0 42 = 0 := by rw [← hG, ur_at, up_ne (by decide), up_ne (by decide), up_at]
    have g43 : G 0 43 = 0 := by rw [← hG, ur_at, up_ne (by decide), up_at]
    have g44 : G 0 44 = 0 := by rw [← hG, ur_at, up_at]
    have g22 : ∀ k, k < 4 → G 22 k = 0 := fun k hk => by rw [← hG, ur_ne (by decide), ur_at]; exact hl k (by omega)
    have g9 : G 9 = g := by rw [← hG, ur_ne (by decide), ur_ne (by decide), ur_at]
    obtain ⟨_, e2, J1, rfl, f1, t1⟩ := m_empty (J := G) (K := K) (fu := fu) (by omega)
    have J1P : J1 2 = P := by rw [f1 2 (by decide), gO 2 (by decide) (by decide) (by decide), eP]
    have ot1 : ∀ J' : Nat → Nat → Int32, J' 9 = g → ∀ j, j < nT P → ot J' j = no j := fun J' e j hj => by
      unfold ot no
      rw [e, h1 j (by omega)]
      rfl
    have J19 : J1 9 = g := by rw [f1 9 (by decide), g9]
    rw [e2, Option.bind_some, m_first (by rw [J1P]; exact hA.1.1) (by omega), Option.bind_some, J1P, fst0_congr (ot1 J1 J19), fst_no hA.1.1 hA.2.2]
    let s0 : Sch := mkS 0 (fun _ => 0) (fun _ => X0) (fun _ => -1) false (fun _ => 0) 0
    have sm0 : SMr s0 J1 K := ⟨by rw [f1 0 (by decide), g42]; rfl, by rw [f1 0 (by decide), g44]; rfl, fun j hj => absurd hj (Nat.not_lt_zero _)⟩
    have gs0 : GS P s0 := ⟨by decide, by decide, fun j hj => absurd hj (Nat.not_lt_zero _)⟩
    have cf0 : CF P (J1 19) (J1 20) (J1 21) X0 := CF_X0 (fun v hv => (t1 v hv).1) (fun v hv => (t1 v hv).2.1) (fun v hv => (t1 v hv).2.2)
    obtain ⟨J2, K2, e3, h2, f2⟩ := m_adds (J := J1) (K := K) (fu := fu) (t := 0) (y := -1) J1P hA sm0 gs0 (Nat.zero_le _) cf0 hfu
    have ea : addS s0 0 X0 (-1) = sch0 := by
      rw [add_new (hasS_no rfl), if_neg (by decide)]
      have u1 : up (fun _ : Nat => (0 : Nat)) 0 0 = fun _ => 0 := up_self (f := fun _ : Nat => (0 : Nat)) (k := 0)
      have u2 : up (fun _ : Nat => X0) 0 X0 = fun _ => X0 := up_self (f := fun _ : Nat => X0) (k := 0)
      have u3 : up (fun _ : Nat => (-1 : Int32)) 0 (-1) = fun _ => -1 := up_self (f := fun _ : Nat => (-1 : Int32)) (k := 0)
      show mkS _ (up (fun _ : Nat => (0 : Nat)) 0 0) (up (fun _ : Nat => X0) 0 X0) (up (fun _ : Nat => (-1 : Int32)) 0 (-1)) _ _ _ = _
      rw [u1, u2, u3]
      rfl
    rw [ea] at h2
    rw [e3, Option.bind_some]
    have J29 : J2 9 = g := by rw [f2.1 9 (by decide) (by decide), J19]
    have x2 : SMx P sch0 0 J2 := ⟨by rw [f2.2 43 (by decide) (by decide), f1 0 (by decide), g43]; rfl, fun k hk => by rw [f2.1 22 (by decide) (by decide), f1 22 (by decide), g22 k hk]; rfl, fun j hj => absurd hj (Nat.not_lt_zero _)⟩
    have F2 : frL J J2 := ⟨fun b b0 b9 hb => by rw [f2.1 b b0 (by omega), f1 b (by omega), gO b b0 b9 (by omega)], fun k hk => by rw [f2.2 k (by omega) (by omega), f1 0 (by decide), g0 k hk]⟩
    refine wh2_wp (fun r n h => ∃ c s J3 K3, c + r = 1000 ∧ n = nI c ∧ h = mkM J3 K3 ∧ SMr s J3 K3 ∧ SMx P s c J3 ∧ GS P s ∧ c ≤ s.n ∧ runS P r c s = finS P ∧ frR J2 J3) ?_ fu 1000 _ _ (by omega) ⟨0, sch0, J2, K2, rfl, rfl, rfl, h2, x2, GS_sch0, Nat.zero_le _, rfl, frR_refl⟩
    rintro r n h self ⟨c, s, J3, K3, hr, rfl, rfl, h3, x3, g3, c3, e4, f3⟩ ih
    have n3 := g3.1
    simp only [MX9_laysPaths_B54, m_fI, Option.bind_some]
    rw [h3.1, h3.2.1]
    by_cases cc : c < s.n ∧ s.mo = false
    · rw [if_neg (nI_ge (by omega) (by omega)), cc.2, if_pos (by rfl)]
      obtain ⟨r, rfl⟩ : ∃ r', r = r' + 1 := ⟨r - 1, by omega⟩
      rw [runS_1 cc] at e4
      have J3P : J3 2 = P := by rw [f3.1 2 (by decide) (by decide), f2.1 2 (by decide) (by decide), J1P]
      obtain ⟨J4, K4, e5, h4, x4, f4⟩ := m_explores (J := J3) (K := K3) (fu := fu) J3P hA (ot1 J3 (by rw [f3.1 9 (by decide) (by decide), J29])) h3 x3 g3 cc.1 hfu
      rw [e5, Option.bind_some]
      exact ih r _ _ (by omega) ⟨c + 1, _, J4, K4, by omega, nI_1 c, rfl, h4, x4, GS_exp hA g3 cc.1, by have := (leH_exp (P := P) (s := s) (c := c)).1; omega, e4, frR_trans f3 f4⟩
    · rw [runS_0 cc] at e4
      subst e4
      have F : WP (some (mkM J3 K3)) (fun h => ∃ J' K', h = mkM J' K' ∧ MsOK P J' K' ∧ frL J J') := by
        refine WP_some ⟨J3, K3, rfl, ⟨h3, g3, fun m => ?_⟩, fun b b0 b9 hb => by rw [f3.1 b b0 hb, F2.1 b b0 b9 hb], fun k hk => by rw [f3.2 k hk, F2.2 k hk]⟩
        have : c = (finS P).n := by
          rcases Nat.lt_or_ge c (finS P).n with z | z
          · exact absurd ⟨z, m⟩ cc
          · omega
        rw [← this]; exact x3
      by_cases z1 : nI (finS P).n ≤ nI c
      · rw [if_pos z1]; exact F
      · rw [if_neg z1]
        have m : (finS P).mo = true := by
          have : c < (finS P).n := by
            rcases Nat.lt_or_ge c (finS P).n with z | z
            · exact z
            · exact absurd (nI_le z (by omega)) z1
          cases e : (finS P).mo
          · exact absurd ⟨this, e⟩ cc
          · rfl
        rw [m, if_neg (by decide)]
        exact F
  · rw [if_neg (nI_ge (by omega) (by omega)), m_st22 (by omega), Option.bind_some]
    refine ih (r - 1) _ _ (by omega) ⟨v + 1, _, by omega, nI_1 v, by rw [ur_ur], fun k hk => ?_⟩
    rw [ur_at]
    by_cases e : k = v
    · rw [e, up_at]
    · rw [up_ne e]; exact hl k (by omega)
end RefE
