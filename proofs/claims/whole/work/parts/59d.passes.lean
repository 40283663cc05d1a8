section Passes
variable {J J0 J' : Nat → Nat → Int32} {K : Nat → Nat → Int64} {fu t i s0 : Nat} {D : Nat → Nat} {X Y : Nat → Int32}
theorem RE_stepped2 {T : TS} {S S' : PS} {X' : Nat → Int32} (ok : okT T) (h : RE T s0 S) (hi : S i = some X') (gX : GX X) (hl : leX X X') (hT : T i t X Y) (hs : stepped S S' t Y) : RE T s0 S' := by
  have gY : GX Y := ok.1 i t X Y gX hT
  have key : ∀ j W, S' j = some W → (j = t ∧ ((S t = none ∧ e24 W Y) ∨ ∃ Z, S t = some Z ∧ e24 W (mrg Z Y))) ∨ (j ≠ t ∧ S j = some W) := by
    intro j W hj
    by_cases c : j = t
    · subst c
      refine Or.inl ⟨rfl, ?_⟩
      rcases hs.2 with ⟨n, W', e, e2⟩ | ⟨Z, W', e1, e2, e3⟩
      · rw [e] at hj; cases hj; exact Or.inl ⟨n, e2⟩
      · rw [e2] at hj; cases hj; exact Or.inr ⟨Z, e1, e3⟩
    · rw [hs.1 j c] at hj
      exact Or.inr ⟨c, hj⟩
  constructor
  · intro j W hj
    rcases key j W hj with ⟨-, ⟨-, q⟩ | ⟨Z, e, q⟩⟩ | ⟨-, q⟩
    · exact e24_GX q gY
    · exact e24_GX q (mrg_GX (h.1 t Z e) gY)
    · exact h.1 j W q
  · intro S'' hp j W hj
    rcases key j W hj with ⟨rfl, q⟩ | ⟨-, q⟩
    · obtain ⟨Z', e1, l1⟩ := h.2 S'' hp i X' hi
      obtain ⟨Y', t1, l2⟩ := ok.2 i j X Z' Y gX (hp.1 i Z' e1) (leX_trans hl l1) hT
      obtain ⟨V, e2, l3⟩ := hp.2.2 i j Z' Y' e1 t1
      refine ⟨V, e2, ?_⟩
      rcases q with ⟨-, q⟩ | ⟨Z, e, q⟩
      · exact leX_trans (e24_le q) (leX_trans l2 l3)
      · obtain ⟨V2, e3, l4⟩ := h.2 S'' hp j Z e
        rw [e2] at e3; cases e3
        exact leX_trans (e24_le q) (mrg_le l4 (leX_trans l2 l3))
    · exact h.2 S'' hp j W q
/-- the reference's flow as it goes on -/
def RI (J0 J : Nat → Nat → Int32) (s0 : Nat) : Prop := BS J ∧ RE (TR (J0 2) (ot J0)) s0 (sM J) ∧ (∃ Z, sM J s0 = some Z ∧ leX X0 Z) ∧ frm J0 J
theorem RI_frc (h : RI J0 J s0) (f : frc J J') : RI J0 J' s0 := by
  obtain ⟨h1, h2, h3, h4⟩ := h
  have e : sM J' = sM J := sM_eq (fun b h1 h2 => f b (by omega))
  refine ⟨⟨fun i hi => by rw [f 10 (by omega)]; exact h1.1 i hi, by rw [f 0 (by omega)]; exact h1.2⟩, by rw [e]; exact h2, by rw [e]; exact h3, frm_trans h4 (frc_frm f)⟩
theorem frm_2 (h : frm J0 J) : J 2 = J0 2 := h.1 2 (by decide) (by decide)
theorem frm_ot (h : frm J0 J) : ot J = ot J0 := by funext j; unfold ot; rw [h.2.1]
/-- after a merge: what has become of the flow -/
def AF (J0 J J' : Nat → Nat → Int32) (s0 : Nat) : Prop := RI J0 J' s0 ∧ leS (sM J) (sM J') ∧ hS (sM J) ≤ hS (sM J') ∧ ((J' 0 31 = 0 ∧ J 0 31 = 0 ∧ sM J' = sM J) ∨ (J' 0 31 = 1 ∧ (J 0 31 = 1 ∨ hS (sM J) < hS (sM J'))))
theorem AF_frc (h : AF J0 J J' s0) {J2 : Nat → Nat → Int32} (f : frc J' J2) : AF J0 J J2 s0 := by
  obtain ⟨h1, h2, h3, h4⟩ := h
  have e : sM J2 = sM J' := sM_eq (fun b h1 h2 => f b (by omega))
  exact ⟨RI_frc h1 f, by rw [e]; exact h2, by rw [e]; exact h3, by rw [e, f 0 (by omega)]; exact h4⟩
theorem AF_0 (h : RI J0 J s0) : AF J0 J J s0 := ⟨h, fun i X q => ⟨X, q, leX_refl X⟩, Nat.le_refl _, by rcases h.1.2 with q | q; exact Or.inl ⟨q, q, rfl⟩; exact Or.inr ⟨q, Or.inl q⟩⟩
theorem leS_trans {S S1 S2 : PS} (h : leS S S1) (h2 : leS S1 S2) : leS S S2 := by
  intro i X q
  obtain ⟨Z, z1, z2⟩ := h i X q
  obtain ⟨W, w1, w2⟩ := h2 i Z z1
  exact ⟨W, w1, leX_trans z2 w2⟩
theorem AF_trans {J1 J2 : Nat → Nat → Int32} (h : AF J0 J J1 s0) (h2 : AF J0 J1 J2 s0) : AF J0 J J2 s0 := by
  obtain ⟨-, a2, a3, a4⟩ := h
  obtain ⟨b1, b2, b3, b4⟩ := h2
  refine ⟨b1, leS_trans a2 b2, by omega, ?_⟩
  rcases b4 with ⟨p1, p2, p3⟩ | ⟨p1, p2⟩
  · rcases a4 with ⟨q1, q2, q3⟩ | ⟨q1, q2⟩
    · exact Or.inl ⟨p1, q2, by rw [p3, q3]⟩
    · rw [q1] at p2; exact absurd p2 (by decide)
  · refine Or.inr ⟨p1, ?_⟩
    rcases p2 with p2 | p2
    · rcases a4 with ⟨q1, -⟩ | ⟨q1, q2⟩
      · rw [q1] at p2; exact absurd p2 (by decide)
      · rcases q2 with q2 | q2
        · exact Or.inl q2
        · exact Or.inr (by omega)
    · exact Or.inr (by omega)
theorem m_mstep (hA : WFA (J0 2) D) (ht : t < 41) (h : RI J0 J s0) {X' : Nat → Int32} (hi : sM J i = some X') (gX : GX X) (hl : leX X X') (hT : TR (J0 2) (ot J0) i t X (cX J)) (hfu : 6 < fu) :
    WP (MX9_merges fu 0 (nI t) (mkM J K)) (fun h => ∃ J', h = mkM J' K ∧ (∀ b, 15 ≤ b → J' b = J b) ∧ AF J0 J J' s0 ∧ ∃ Z, sM J' t = some Z ∧ leX (cX J) Z) := by
  have ok := okTR (out := ot J0) hA.1 hA.2.1 hA.2.2
  obtain ⟨h1, h2, h3, h4⟩ := h
  obtain ⟨_, e, J', rfl, f1, f2, b1, st, l1, d⟩ := m_merges (J := J) (K := K) (fu := fu) ht h1 (ok.1 i t X _ gX hT) h2.1 hfu
  refine ⟨_, e, J', rfl, f2, ⟨⟨b1, RE_stepped2 ok h2 hi gX hl hT st, ?_, frm_trans h4 f1⟩, stepped_le st, l1, d⟩, stepped_in st⟩
  obtain ⟨Z, z1, z2⟩ := h3
  obtain ⟨W, w1, w2⟩ := stepped_le st s0 Z z1
  exact ⟨W, w1, leX_trans z2 w2⟩
theorem m_passes (hA : WFA (J0 2) D) (hi : i < nT (J0 2)) (h : RI J0 J s0) (hc : J 10 i ≠ 0) (hfu : 41 < fu) :
    WP (MX9_passes fu 0 (nI i) (mkM J K)) (fun h => ∃ J', h = mkM J' K ∧ AF J0 J J' s0 ∧ (J' 0 31 = 0 → ∀ t Y, TR (J0 2) (ot J0) i t (tX J i) Y → ∃ Z, sM J' t = some Z ∧ leX Y Z)) := by
  have h40 := hA.1.1.2.2.2
  have e2 := frm_2 h.2.2.2
  have Si : sM J i = some (tX J i) := by unfold sM; rw [if_pos ⟨by omega, hc⟩]
  have gi : GX (tX J i) := h.2.1.1 i _ Si
  obtain ⟨so, h10, eso, es, o1, o2, o3⟩ := op_of hA.1 hA.2.1 hA.2.2 hi
  have l7 : J0 2 (333 + i) < 7 ↔ so < 7 := by
    rw [eso, i_lt, n_i (by omega), show (7 : Int32).toInt = 7 from rfl]
    omega
  have yes : ∀ J1, frm J0 J1 → MX9_byYes fu 0 (nI i) (mkM J1 K) = some (lkY (J0 2) (ot J0) i) := by
    intro J1 f
    have q := frm_2 f
    have := m_byYes (J := J1) (K := K) (fu := fu) (D := D) (i := i) (by rw [q]; exact hA.1.1) (by rw [q]; exact hA.2.2) hfu (by rw [q]; exact hi)
    rw [this, q, frm_ot f]
  have noo : ∀ J1, frm J0 J1 → MX9_byNo fu 0 (nI i) (mkM J1 K) = some (lkN (J0 2) (ot J0) i) := by
    intro J1 f
    have q := frm_2 f
    have := m_byNo (J := J1) (K := K) (fu := fu) (D := D) (i := i) (by rw [q]; exact hA.1.1) (by rw [q]; exact hA.2.2) hfu (by rw [q]; exact hi)
    rw [this, q, frm_ot f]
  obtain ⟨ty, hty, ey⟩ := lkY_pl (out := ot J0) hA.1.1 hA.2.2 hi
  simp only [MX9_passes, m_g]
  rw [m_sortAt (by omega), Option.bind_some, e2, eso]
  obtain ⟨_, et, J1, rfl, f1, x1⟩ := m_takes (J := J) (K := K) (fu := fu) (t := i) (by omega) (by omega)
  have h1 : RI J0 J1 s0 := RI_frc h f1
  have g1 : GX (cX J1) := e24_GX x1 gi
  have s1 : sM J1 = sM J := sM_eq (fun b h1 h2 => f1 b (by omega))
  have A1 : AF J0 J J1 s0 := AF_frc (AF_0 h) f1
  rw [et, Option.bind_some]
  by_cases c6 : so < 6
  · have lN : lkN (J0 2) (ot J0) i = -1 := by unfold lkN; rw [if_pos (l7.mpr (by omega))]
    rw [show (6 : Int32) = nI 6 from rfl, if_neg (nI_ge (by omega) (by omega))]
    have e21 : J1 2 = J0 2 := frm_2 h1.2.2.2
    obtain ⟨_, eg, J2, rfl, f2, x2⟩ := m_goes (J := J1) (K := K) (fu := fu) (D := D) (i := i) (by rw [e21]; exact hA) (by rw [e21]; exact hi) (by rw [e21, es]; exact c6) (by omega)
    rw [e21, es] at x2
    have h2 : RI J0 J2 s0 := RI_frc h1 f2
    have s2 : sM J2 = sM J := by rw [sM_eq (fun b h1 h2 => f2 b (by omega)), s1]
    have la := (o1 (by omega)).1
    have hV := hA.1.1.2.1.2
    have hq : tq (J0 2) i 1 (tX J i) (cX J2) := by
      refine ⟨_, by unfold tr; rw [es, if_pos c6], e24_trans x2 (goS_e24 x1 (by omega) (fun q1 q2 => ⟨by have := (o2 q1 q2).1; omega, (o2 q1 q2).2.1⟩))⟩
    rw [eg, Option.bind_some, yes J2 h2.2.2.2, Option.bind_some, ey]
    have hT : TR (J0 2) (ot J0) i ty (tX J i) (cX J2) := ⟨hi, Or.inl ⟨by rw [ey, nN_nI (by omega)], hq⟩⟩
    obtain ⟨_, em, J3, rfl, f3, a3, Z, z1, z2⟩ := m_mstep (K := K) (fu := fu) (t := ty) hA (by omega) h2 (by rw [s2]; exact Si) gi (leX_refl _) hT (by omega)
    rw [em, Option.bind_some]
    refine WP_some ⟨J3, rfl, AF_trans (AF_frc A1 f2) a3, fun q t Y w => ?_⟩
    obtain ⟨-, ⟨t1, t2⟩ | ⟨n, -⟩⟩ := w
    · rw [t1, ey, nN_nI (by omega)]
      exact ⟨Z, z1, leX_trans (e24_le (tq_fun t2 hq)) z2⟩
    · exact absurd lN n
  · rw [show (6 : Int32) = nI 6 from rfl, if_pos (nI_le (by omega) (by omega))]
    -- a half: asks by z, and merges where it leads
    have half : ∀ (z : Int32) (J1 J : Nat → Nat → Int32) (t' : Nat) (X' : Nat → Int32), 6 ≤ so → so ≤ 8 → t' ≤ nT (J0 2) → RI J0 J1 s0 → sM J1 i = some X' → GX X' → e24 (cX J1) X' → (∀ Y, tq (J0 2) i z X' Y → TR (J0 2) (ot J0) i t' X' Y) →
        ∃ r J2, MX9_asks fu 0 (nI i) z (mkM J1 K) = some (r, mkM J2 K) ∧ frc J1 J2 ∧ ((r = 0 ∧ ∀ Y, ¬ tq (J0 2) i z X' Y) ∨ (r = 1 ∧ WP (MX9_merges fu 0 (nI t') (mkM J2 K)) (fun h => ∃ J3, h = mkM J3 K ∧ AF J0 J1 J3 s0 ∧ ∀ Y, tq (J0 2) i z X' Y → ∃ Z, sM J3 t' = some Z ∧ leX Y Z))) := by
      intro z J1 J t' X' q6 q8 ht' h1 s1 g1 x1 hTR
      have e21 : J1 2 = J0 2 := frm_2 h1.2.2.2
      obtain ⟨⟨r, _⟩, ea, J2, rfl, f2, d⟩ := m_asks (J := J1) (K := K) (fu := fu) (D := D) (i := i) (z := z) (by rw [e21]; exact hA) (by rw [e21]; exact hi) (by rw [e21, es]; exact q6) (by rw [e21, es]; exact q8) (by omega)
      rw [e21] at d
      refine ⟨r, J2, ea, f2, ?_⟩
      rcases d with ⟨q, n⟩ | ⟨q, hq⟩
      · refine Or.inl ⟨q, fun Y w => ?_⟩
        obtain ⟨Y0, y1, -⟩ := w
        rcases tr_e24 (z := z) hA.1 hA.2.1 hA.2.2 hi x1 with ⟨-, m⟩ | ⟨_, _, m, -⟩
        · rw [m] at y1; cases y1
        · rw [n] at m; cases m
      · have hq2 : tq (J0 2) i z X' (cX J2) := tq_e24 hA.1 hA.2.1 hA.2.2 hi x1 hq
        have h2 : RI J0 J2 s0 := RI_frc h1 f2
        have s2 : sM J2 = sM J1 := sM_eq (fun b h1 h2 => f2 b (by omega))
        refine Or.inr ⟨q, ?_⟩
        obtain ⟨_, em, J3, rfl, f3, a3, Z, z1, z2⟩ := m_mstep (K := K) (fu := fu) (t := t') hA (by omega) h2 (by rw [s2]; exact s1) g1 (leX_refl _) (hTR _ hq2) (by omega)
        exact ⟨_, em, J3, rfl, AF_trans (AF_frc (AF_0 h1) f2) a3, fun Y w => ⟨Z, z1, leX_trans (e24_le (tq_fun w hq2)) z2⟩⟩
    have tY : ∀ X' Y, tq (J0 2) i 1 X' Y → TR (J0 2) (ot J0) i ty X' Y := fun X' Y q => ⟨hi, Or.inl ⟨by rw [ey, nN_nI (by omega)], q⟩⟩
    by_cases c7 : so = 6
    · have lN : lkN (J0 2) (ot J0) i = -1 := by unfold lkN; rw [if_pos (l7.mpr (by omega))]
      rw [if_pos (show nI so = nI 6 by rw [c7])]
      obtain ⟨r, J2, ea, f2, d⟩ := half 1 J1 J ty (tX J i) (by omega) (by omega) hty h1 (by rw [s1]; exact Si) gi x1 (tY _)
      rw [ea, Option.bind_some]
      rcases d with ⟨rfl, n⟩ | ⟨rfl, w⟩
      · rw [if_pos rfl]
        refine WP_some ⟨J2, rfl, AF_frc A1 f2, fun q t Y w => ?_⟩
        obtain ⟨-, ⟨-, t2⟩ | ⟨m, -⟩⟩ := w
        · exact absurd t2 (n Y)
        · exact absurd lN m
      · rw [if_neg (show ¬ (1 : Int32) = 0 by decide), yes J2 (RI_frc h1 f2).2.2.2, Option.bind_some, ey]
        obtain ⟨_, em, J3, rfl, a3, d3⟩ := w
        rw [em, Option.bind_some]
        refine WP_some ⟨J3, rfl, AF_trans A1 a3, fun q t Y w => ?_⟩
        obtain ⟨-, ⟨t1, t2⟩ | ⟨m, -⟩⟩ := w
        · rw [t1, ey, nN_nI (by omega)]; exact d3 Y t2
        · exact absurd lN m
    · have n6 : ¬ nI so = nI 6 := fun q => c7 (nI_inj (by omega) (by omega) q)
      have lN : lkN (J0 2) (ot J0) i ≠ -1 := by
        have bne : ∀ f : Nat, beh (J0 2) (ot J0) 8 i ≠ -1 := by
          intro f
          obtain ⟨t, h1, h2⟩ := beh_pl (out := ot J0) hA.1.1 hA.2.2 8 i hi
          rw [h2]; exact nI_ne_m1 (by omega)
        unfold lkN
        rw [if_neg (fun q => by have := l7.mp q; omega)]
        split
        · exact bne 0
        · split
          · exact bne 0
          · assumption
      obtain ⟨tn, htn, en⟩ := lkN_pl hA.1.1 hA.2.2 hi lN
      have tN : ∀ X' Y, tq (J0 2) i 0 X' Y → TR (J0 2) (ot J0) i tn X' Y := fun X' Y q => ⟨hi, Or.inr ⟨lN, by rw [en, nN_nI (by omega)], q⟩⟩
      rw [if_neg n6]
      have asked : MX9_isAsked (nI so) = some (if so ≤ 8 then 1 else 0) := by
        rcases (show so = 7 ∨ so = 8 ∨ so = 9 ∨ so = 10 by omega) with q | q | q | q <;> subst q <;> rfl
      rw [asked, Option.bind_some]
      by_cases c8 : so ≤ 8
      · rw [if_pos c8, if_neg (by decide)]
        obtain ⟨r, J2, ea, f2, d⟩ := half 1 J1 J ty (tX J i) (by omega) c8 hty h1 (by rw [s1]; exact Si) gi x1 (tY _)
        rw [ea, Option.bind_some]
        simp only [jn]
        have second : ∀ J3, AF J0 J J3 s0 → (J3 0 31 = 0 → ∀ Y, tq (J0 2) i 1 (tX J i) Y → ∃ Z, sM J3 ty = some Z ∧ leX Y Z) → WP ((MX9_takes fu 0 (nI i) (mkM J3 K)).bind fun h11 => (MX9_asks fu 0 (nI i) 0 h11).bind fun p12 => if p12.1 = 0 then some p12.2 else (MX9_byNo fu 0 (nI i) p12.2).bind fun x13 => (MX9_merges fu 0 x13 p12.2).bind fun h14 => some h14) (fun h => ∃ J', h = mkM J' K ∧ AF J0 J J' s0 ∧ (J' 0 31 = 0 → ∀ t Y, TR (J0 2) (ot J0) i t (tX J i) Y → ∃ Z, sM J' t = some Z ∧ leX Y Z)) := by
          intro J3 a3 d3
          obtain ⟨X3, s3, -⟩ := a3.2.1 i _ Si
          have s3' : sM J3 i = some (tX J3 i) := by
            unfold sM at s3 ⊢
            split at s3
            · rename_i c; rw [if_pos c]
            · cases s3
          have g3 : GX (tX J3 i) := a3.1.2.1.1 i _ s3'
          obtain ⟨_, et2, J4, rfl, f4, x4⟩ := m_takes (J := J3) (K := K) (fu := fu) (t := i) (by omega) (by omega)
          have s4 : sM J4 = sM J3 := sM_eq (fun b h1 h2 => f4 b (by omega))
          rw [et2, Option.bind_some]
          obtain ⟨r2, J5, ea2, f5, d5⟩ := half 0 J4 J tn (tX J3 i) (by omega) c8 htn (RI_frc a3.1 f4) (by rw [s4]; exact s3') g3 x4 (tN _)
          rw [ea2, Option.bind_some]
          have same : J3 0 31 = 0 → tX J3 i = tX J i := by
            intro q
            rcases a3.2.2.2 with ⟨-, -, q3⟩ | ⟨q1, -⟩
            · rw [q3, Si] at s3'
              exact (Option.some.inj s3').symm
            · rw [q1] at q; exact absurd q (by decide)
          rcases d5 with ⟨rfl, n⟩ | ⟨rfl, w⟩
          · rw [if_pos rfl]
            have a5 : AF J0 J J5 s0 := AF_frc (AF_frc a3 f4) f5
            have z35 : J5 0 31 = J3 0 31 := by rw [f5 0 (by omega), f4 0 (by omega)]
            have s5 : sM J5 = sM J3 := by rw [sM_eq (fun b h1 h2 => f5 b (by omega)), s4]
            refine WP_some ⟨J5, rfl, a5, fun q t Y w => ?_⟩
            rw [z35] at q
            obtain ⟨-, ⟨t1, t2⟩ | ⟨-, -, t2⟩⟩ := w
            · rw [t1, ey, nN_nI (by omega), s5]; exact d3 q Y t2
            · rw [← same q] at t2; exact absurd t2 (n Y)
          · rw [if_neg (show ¬ (1 : Int32) = 0 by decide), noo J5 (RI_frc (RI_frc a3.1 f4) f5).2.2.2, Option.bind_some, en]
            obtain ⟨_, em, J6, rfl, a6, d6⟩ := w
            rw [em, Option.bind_some]
            refine WP_some ⟨J6, rfl, AF_trans (AF_frc a3 f4) a6, fun q t Y w => ?_⟩
            have z : J4 0 31 = 0 := by
              rcases a6.2.2.2 with ⟨-, q2, -⟩ | ⟨q1, -⟩
              · exact q2
              · rw [q1] at q; exact absurd q (by decide)
            have z3 : J3 0 31 = 0 := by rw [← f4 0 (by omega)]; exact z
            obtain ⟨-, ⟨t1, t2⟩ | ⟨-, t1, t2⟩⟩ := w
            · rw [t1, ey, nN_nI (by omega)]
              obtain ⟨Z, y1, y2⟩ := d3 z3 Y t2
              obtain ⟨W, w1, w2⟩ := a6.2.1 ty Z (by rw [s4]; exact y1)
              exact ⟨W, w1, leX_trans y2 w2⟩
            · rw [t1, en, nN_nI (by omega)]
              rw [← same z3] at t2
              exact d6 Y t2
        rcases d with ⟨rfl, n⟩ | ⟨rfl, w⟩
        · rw [if_pos rfl]
          exact second J2 (AF_frc A1 f2) (fun _ Y w => absurd w (n Y))
        · rw [if_neg (show ¬ (1 : Int32) = 0 by decide), yes J2 (RI_frc h1 f2).2.2.2, Option.bind_some, ey]
          obtain ⟨_, em, J3, rfl, a3, d3⟩ := w
          rw [em, Option.bind_some]
          exact second J3 (AF_trans A1 a3) (fun _ => d3)
      · rw [if_neg c8, if_pos rfl, yes J1 h1.2.2.2, Option.bind_some, ey]
        have hq : ∀ z, tq (J0 2) i z (tX J i) (cX J1) := fun z => ⟨_, by unfold tr; rw [es, if_neg (by omega), if_neg (by omega)], x1⟩
        obtain ⟨_, em, J2, rfl, f2, a2, Z, z1, z2⟩ := m_mstep (K := K) (fu := fu) (t := ty) hA (by omega) h1 (by rw [s1]; exact Si) gi (leX_refl _) (tY _ _ (hq 1)) (by omega)
        rw [em, Option.bind_some, noo J2 a2.1.2.2.2, Option.bind_some, en]
        have c2 : cX J2 = cX J1 := by
          funext j
          unfold cX
          rw [f2 15 (by decide), f2 16 (by decide), f2 17 (by decide), f2 18 (by decide)]
        obtain ⟨X2, s2, l2⟩ := a2.2.1 i _ (by rw [s1]; exact Si)
        obtain ⟨_, em2, J3, rfl, f3, a3, Z3, z3, z4⟩ := m_mstep (K := K) (fu := fu) (t := tn) hA (by omega) a2.1 s2 gi l2 (by rw [c2]; exact tN _ _ (hq 0)) (by omega)
        rw [em2, Option.bind_some]
        rw [c2] at z4
        refine WP_some ⟨J3, rfl, AF_trans A1 (AF_trans a2 a3), fun q t Y w => ?_⟩
        obtain ⟨-, ⟨t1, t2⟩ | ⟨-, t1, t2⟩⟩ := w
        · rw [t1, ey, nN_nI (by omega)]
          obtain ⟨W, w1, w2⟩ := a3.2.1 ty Z z1
          exact ⟨W, w1, leX_trans (leX_trans (e24_le (tq_fun t2 (hq 1))) z2) w2⟩
        · rw [t1, en, nN_nI (by omega)]
          exact ⟨Z3, z3, leX_trans (e24_le (tq_fun t2 (hq 0))) z4⟩
end Passes
