section Stmt2
variable {b : Nat → Nat} {n : Nat} {sw : Bool} {I0 : Nat → Nat → Int32} {L0 : Nat → Nat → Int64} {J0 : Nat → Nat → Int32} {Z : Nat → Int32} {fu p q d N so deep : Nat} {par blk : Int32} {P P' : Nat → Int32} {I I' : Nat → Nat → Int32} {L' : Nat → Nat → Int64} {J' : Nat → Nat → Int32} {K' : Nat → Nat → Int64} {rs : Nat → Int32 → Int32 → Int32 → Hp → Option (Int32 × Hp)}
/-- the variables of a statement -/
def W1 (P' : Nat → Int32) (N so : Nat) : Prop := so < 9 → ∃ v, v < nV P' ∧ P' (373 + N) = nI v ∧ (1 ≤ so → so ≤ 4 → ∃ w, w < nV P' ∧ w ≠ v ∧ P' (413 + N) = nI w ∧ P' (327 + w) = P' (327 + v))
theorem st_asked (hd : dr' sw = d) (tx : TX b n) (h : BC b n sw I0 L0 q I' L') (g : BM b n J0 Z q P' J' K') (hp : p ≤ q) (ad : AD d N so deep par blk P I P' I') (cx : CTX d P' I' L' K') (i10 : I' 1 10 = nI deep) (i34 : I' 34 = I 34) (i35 : I' 35 = I 35) (hN : N < 40) (h5 : deep < 5) (w1 : W1 P' N so) (hso : so ≤ 10) (hfu : 1000 < fu) :
    RS b n sw I0 L0 J0 Z fu rs d N so deep par blk p P I (cS15 fu (nI so) (nI N) (mkC sw I' L')) (mS26 fu rs (nI so) (nI N) (nI deep) (mkM J' K')) := by
  have d5 := dr_lt (sw := sw)
  unfold cS15 mS26
  by_cases c6 : so < 6
  · have e6 : nI so < 6 := nI_lt (b := 6) c6 (by decide)
    rw [if_pos e6, if_pos e6]
    refine st_last hd tx h g hp ad cx i10 i34 i35 hN h5 ⟨so, hso, ad.1.2.1, fun h9 => ?_⟩ hso hfu
    obtain ⟨v, v1, v2, v3⟩ := w1 h9
    exact ⟨v, v1, v2, v3, fun z => by omega⟩
  · have e6 : ¬ nI so < 6 := nI_nlt (b := 6) (by omega) (by omega)
    rw [if_neg e6, if_neg e6]
    by_cases c8 : 8 < so
    · have e8 : (8 : Int32) < nI so := nI_lt (a := 8) c8 (by omega)
      rw [if_pos e8, if_pos e8]
      refine st_last hd tx h g hp ad cx i10 i34 i35 hN h5 ⟨so, hso, ad.1.2.1, fun h9 => by omega⟩ hso hfu
    · have e8 : ¬ (8 : Int32) < nI so := nI_nlt (a := 8) (by omega) (by decide)
      rw [if_neg e8, if_neg e8]
      obtain ⟨v, v1, v2, v3⟩ := w1 (by omega)
      have iv : I' (d + 15) N = nI v := by rw [ad.2.1.2.2.1, v2]
      have asked : ∀ z : Int32, (z = 0 ∨ z = 1) → (z = 1 ↔ 7 ≤ so) → RS b n sw I0 L0 J0 Z fu rs d N so deep par blk p P I ((MX3_readAsked fu 1 (nI N) z (mkC sw I' L')).bind fun p32 => if p32.1 = 0 then some ((0 : Int32), p32.2) else cS17 fu (nI so) (nI N) p32.2) ((MX9_readMethod fu 0 (nI N) z (mkM J' K')).bind fun p39 => if p39.1 = 0 then some ((0 : Int32), p39.2) else mS28 fu rs (nI so) (nI N) (nI deep) p39.2) := by
        intro z z01 z7
        rcases both_asked (z := z) hd tx h g cx hN v1 iv v2 z01 hfu with ⟨I3, L3, J3, K3, e5, e6, fl⟩ | ⟨m, I3, L3, J3, K3, hm, mz, pn, e5, e6, h3, g3, r17, rO, lO, kO⟩
        · simp only [e5, e6, Option.bind_some, if_true]
          exact Or.inl ⟨_, _, _, _, rfl, rfl, fl⟩
        · simp only [e5, e6, Option.bind_some, n10, if_false]
          have a1 := (nx_le (b := b) h.1).1
          have ad3 := AD_w (r := 17) (c := 453) (x := nI m) (Or.inr (Or.inr ⟨rfl, rfl⟩)) hN ad r17 (fun y y1 y2 y3 => rO y (by omega) y3)
          have eP : ∀ j, j ≠ 453 + N → up P' (453 + N) (nI m) j = P' j := fun j hj => up_ne hj
          have cx3 : CTX d (up P' (453 + N) (nI m)) I3 L3 K3 := CTX_P (CTX_fr cx (fun x x1 x2 => rO x (by omega) (by omega)) (by rw [rO d (by omega) (by omega)]) (fun x x1 x2 => lO x (by omega)) (kO 4 (by decide))) (fun j hj _ => eP j (by omega))
          have qV : nV (up P' (453 + N) (nI m)) = nV P' := congrArg nN (eP 1 (by omega))
          have qK : vK (up P' (453 + N) (nI m)) v = vK P' v := congrArg nN (eP (327 + v) (by have := cx.1.2.2; omega))
          have k4 := (cx.2.2.2 v v1).1.2
          have h4 := cx.1.1.2
          have w6 := (cx.2.2.1 _ k4).1.2.2.1.2
          have qM : nM (up P' (453 + N) (nI m)) (vK P' v) = nM P' (vK P' v) := congrArg nN (eP _ (by omega))
          have qS : pSo (up P' (453 + N) (nI m)) (vK P' v) m = pSo P' (vK P' v) m := eP _ (by omega)
          have wo : WFo (up P' (453 + N) (nI m)) N := by
            refine ⟨so, hso, ad3.1.2.1, fun _ => ⟨v, by rw [qV]; exact v1, by rw [eP _ (by omega)]; exact v2, fun z => by omega, fun _ _ => ⟨m, ?_, up_at, ?_⟩⟩⟩
            · rw [qK, qM]; exact hm
            · rw [qK, qS, mz, z7]
          have j10 : I3 1 10 = nI deep := by rw [rO 1 (by decide) (by omega)]; exact i10
          have j34 : I3 34 = I 34 := by rw [rO 34 (by decide) (by clear z7 mz; omega)]; exact i34
          have j35 : I3 35 = I 35 := by rw [rO 35 (by decide) (by clear z7 mz; omega)]; exact i35
          exact st_last hd tx h3 g3 (Nat.le_trans hp a1) ad3 cx3 j10 j34 j35 hN h5 wo hso hfu
      rcases (show so = 6 ∨ so = 7 ∨ so = 8 by omega) with e | e | e
      · subst e
        rw [if_pos (show nI 6 = 6 from rfl), show MX9_isAsked (nI 6) = some 0 from rfl, Option.bind_some]
        exact asked 0 (Or.inl rfl) ⟨fun z => absurd z (by decide), fun z => by omega⟩
      · subst e
        rw [if_neg (show ¬ nI 7 = 6 by decide), show MX9_isAsked (nI 7) = some 1 from rfl, Option.bind_some]
        exact asked 1 (Or.inr rfl) ⟨fun _ => by omega, fun _ => rfl⟩
      · subst e
        rw [if_neg (show ¬ nI 8 = 6 by decide), show MX9_isAsked (nI 8) = some 1 from rfl, Option.bind_some]
        exact asked 1 (Or.inr rfl) ⟨fun _ => by omega, fun _ => rfl⟩
theorem m_isTwo (hso : so ≤ 10) : MX9_isTwo (nI so) = some (if 1 ≤ so ∧ so ≤ 4 then 1 else 0) := by
  rcases (show so = 0 ∨ so = 1 ∨ so = 2 ∨ so = 3 ∨ so = 4 ∨ so = 5 ∨ so = 6 ∨ so = 7 ∨ so = 8 ∨ so = 9 ∨ so = 10 by omega) with e | e | e | e | e | e | e | e | e | e | e <;> subst e <;> rfl
theorem st_second (hd : dr' sw = d) (tx : TX b n) (h : BC b n sw I0 L0 q I' L') (g : BM b n J0 Z q P' J' K') (hp : p ≤ q) (ad : AD d N so deep par blk P I P' I') (cx : CTX d P' I' L' K') (i10 : I' 1 10 = nI deep) (i34 : I' 34 = I 34) (i35 : I' 35 = I 35) (hN : N < 40) (h5 : deep < 5) (w0 : so < 9 → ∃ v, v < nV P' ∧ P' (373 + N) = nI v) (hso : so ≤ 10) (hfu : 1000 < fu) :
    RS b n sw I0 L0 J0 Z fu rs d N so deep par blk p P I (cS13 fu (nI so) (nI N) (mkC sw I' L')) (mS23 fu rs (nI so) (nI N) (nI deep) (mkM J' K')) := by
  have d5 := dr_lt (sw := sw)
  unfold cS13 mS23
  rw [m_isTwo hso, Option.bind_some]
  by_cases c : 1 ≤ so ∧ so ≤ 4
  · rw [if_pos c, if_neg (show ¬ (1 : Int32) = 0 by decide), if_neg (show ¬ nI so < 1 from nI_nlt (b := 1) c.1 (by omega)), if_neg (show ¬ (4 : Int32) < nI so from nI_nlt (a := 4) c.2 (by decide))]
    obtain ⟨v, v1, v2⟩ := w0 (by omega)
    have iv : I' (d + 15) N = nI v := by rw [ad.2.1.2.2.1, v2]
    rcases both_second hd tx h g cx hN v1 iv v2 hfu with ⟨I3, L3, J3, K3, e5, e6, fl⟩ | ⟨w, I3, L3, J3, K3, hw, wv', kv, pn, e5, e6, h3, g3, r16, rO, lO, kO⟩
    · simp only [e5, e6, Option.bind_some, if_true]
      exact Or.inl ⟨_, _, _, _, rfl, rfl, fl⟩
    · simp only [e5, e6, Option.bind_some, n10, if_false]
      have a1 := (nx_le (b := b) h.1).1
      have v6 := cx.1.2.2
      have ad3 := AD_w (r := 16) (c := 413) (x := nI w) (Or.inr (Or.inl ⟨rfl, rfl⟩)) hN ad r16 (fun y y1 y2 y3 => rO y (by omega) y3)
      have eP : ∀ j, j ≠ 413 + N → up P' (413 + N) (nI w) j = P' j := fun j hj => up_ne hj
      have cx3 : CTX d (up P' (413 + N) (nI w)) I3 L3 K3 := CTX_P (CTX_fr cx (fun x x1 x2 => rO x (by omega) (by omega)) (by rw [rO d (by omega) (by omega)]) (fun x x1 x2 => lO x (by omega)) (kO 4 (by decide))) (fun j hj _ => eP j (by omega))
      have qV : nV (up P' (413 + N) (nI w)) = nV P' := congrArg nN (eP 1 (by omega))
      exact st_asked hd tx h3 g3 (by omega) ad3 cx3 (by rw [rO 1 (by decide) (by omega)]; exact i10) (by rw [rO 34 (by decide) (by omega)]; exact i34) (by rw [rO 35 (by decide) (by omega)]; exact i35) hN h5 (fun _ => ⟨v, by rw [qV]; exact v1, by rw [eP _ (by omega)]; exact v2, fun _ _ => ⟨w, by rw [qV]; exact hw, wv', up_at, by rw [eP _ (by omega), eP _ (by omega)]; exact kv⟩⟩) hso hfu
  · rw [if_neg c, if_pos rfl]
    have go := st_asked (rs := rs) (p := p) hd tx h g hp ad cx i10 i34 i35 hN h5 (fun h9 => by obtain ⟨v, v1, v2⟩ := w0 h9; exact ⟨v, v1, v2, fun z1 z2 => absurd ⟨z1, z2⟩ c⟩) hso hfu
    by_cases c1 : so < 1
    · rw [if_pos (show nI so < 1 from nI_lt (b := 1) c1 (by decide))]; exact go
    · rw [if_neg (show ¬ nI so < 1 from nI_nlt (b := 1) (by omega) (by omega)), if_pos (show (4 : Int32) < nI so from nI_lt (a := 4) (by omega) (by omega))]; exact go
theorem st_first (hd : dr' sw = d) (tx : TX b n) (h : BC b n sw I0 L0 q I' L') (g : BM b n J0 Z q P' J' K') (hp : p ≤ q) (ad : AD d N so deep par blk P I P' I') (cx : CTX d P' I' L' K') (i10 : I' 1 10 = nI deep) (i34 : I' 34 = I 34) (i35 : I' 35 = I 35) (hN : N < 40) (h5 : deep < 5) (hso : so ≤ 10) (hfu : 1000 < fu) :
    RS b n sw I0 L0 J0 Z fu rs d N so deep par blk p P I (cS11 fu (nI so) (nI N) (mkC sw I' L')) (mS21 fu rs (nI so) (nI N) (nI deep) (mkM J' K')) := by
  have d5 := dr_lt (sw := sw)
  unfold cS11 mS21
  by_cases c : 9 ≤ so
  · have e9 : (9 : Int32) ≤ nI so := nI_le (a := 9) c (by omega)
    rw [if_pos e9, if_pos e9]
    exact st_second hd tx h g hp ad cx i10 i34 i35 hN h5 (fun z => by omega) hso hfu
  · have e9 : ¬ (9 : Int32) ≤ nI so := nI_ge (b := 9) (by omega) (by decide)
    rw [if_neg e9, if_neg e9]
    rcases both_first hd tx h g cx hN hfu with ⟨I3, L3, J3, K3, e5, e6, fl⟩ | ⟨v, I3, L3, J3, K3, hv, pn, e5, e6, h3, g3, j16, r15, rO, lO, kO⟩
    · simp only [e5, e6, Option.bind_some, if_true]
      exact Or.inl ⟨_, _, _, _, rfl, rfl, fl⟩
    · simp only [e5, e6, Option.bind_some, n10, if_false, m_r2, m_fI]
      rw [j16, ix_c (show (373 : Int32) = nI 373 from rfl), m_st3 (by omega), Option.bind_some]
      have a1 := (nx_le (b := b) h.1).1
      have v6 := cx.1.2.2
      have ad3 := AD_w (r := 15) (c := 373) (x := nI v) (Or.inl ⟨rfl, rfl⟩) hN ad r15 (fun y y1 y2 y3 => rO y (by omega) y3)
      have eP : ∀ j, j ≠ 373 + N → up P' (373 + N) (nI v) j = P' j := fun j hj => up_ne hj
      have cx3 : CTX d (up P' (373 + N) (nI v)) I3 L3 K3 := CTX_P (CTX_fr cx (fun x x1 x2 => rO x (by omega) (by omega)) (by rw [rO d (by omega) (by omega)]) (fun x x1 x2 => lO x (by omega)) (kO 4 (by decide))) (fun j hj _ => eP j (by omega))
      have qV : nV (up P' (373 + N) (nI v)) = nV P' := congrArg nN (eP 1 (by omega))
      exact st_second hd tx h3 (BM_wM g3 (by omega)) (by omega) ad3 cx3 (by rw [rO 1 (by decide) (by omega)]; exact i10) (by rw [rO 34 (by decide) (by omega)]; exact i34) (by rw [rO 35 (by decide) (by omega)]; exact i35) hN h5 (fun _ => ⟨v, by rw [qV]; exact hv, up_at⟩) hso hfu
/-- a statement's word is read -/
theorem both_stmt {L : Nat → Nat → Int64} {J : Nat → Nat → Int32} {K : Nat → Nat → Int64} (hd : dr' sw = d) (tx : TX b n) (h : BC b n sw I0 L0 p I L) (g : BM b n J0 Z p P J K) (cx : CTX d P I L K) (ht : tk b n p = 7 + so) (hso : so ≤ 10) (eN : P 2 = nI N) (N40 : N ≤ 40) (i3 : I d 3 = nI N) (i10 : I 1 10 = nI deep) (h5 : deep ≤ 5) (hpar : (deep = 0 ∧ par = -1) ∨ (0 < deep ∧ I 34 (deep - 1) = par)) (hfu : 1000 < fu) :
    RS b n sw I0 L0 J0 Z fu rs d N so deep par blk p P I (MX3_readStatement fu 1 (nI so) (mkC sw I L)) (MX9_readStatement_R fu rs 0 par blk (nI deep) (mkM J K)) := by
  have d5 := dr_lt (sw := sw)
  have P4 : isP d := by rw [← hd]; exact dr_P
  have pn : p < n := by
    rcases Nat.lt_or_ge p n with z | z
    · exact z
    · have := tk_end (b := b).mpr z; omega
  rw [cS_eq, mS_eq, c3_g, m_g]
  simp only [c3_dr, hd, c4_fI P4, c3_fI, m_r2, Option.bind_some]
  rw [i3, i10, m_isStatement g.1 h.1 hfu, Option.bind_some, if_pos (show 7 ≤ tk b n p ∧ tk b n p ≤ 17 by omega), if_neg (show ¬ (1 : Int32) = 0 by decide), m_lit (x := 2) (k := 2) rfl (by decide), Option.bind_some, g.2.1.1 2 (by decide), eN]
  have fail6 : RS b n sw I0 L0 J0 Z fu rs d N so deep par blk p P I ((MX3_fail 1 (6 : Int32) (mkC sw I L)).bind fun p4 => (h_z p4.1).bind fun z5 => some (z5, p4.2)) ((MX9_bad 0 (6 : Int32) (mkM J K)).bind fun p5 => (h_z p5.1).bind fun z6 => some (z6, p5.2)) := by
    rw [c_fail h.2.1, m_bad g.1]
    simp only [Option.bind_some, h_z_0]
    exact Or.inl ⟨_, _, _, _, rfl, rfl, FLT_fail h g⟩
  by_cases cN : N = 40
  · rw [if_pos (show (40 : Int32) ≤ nI N by rw [cN]; decide), if_pos (show nI N = 40 by rw [cN]; rfl)]
    exact fail6
  · have N4 : N < 40 := by omega
    rw [if_neg (show ¬ (40 : Int32) ≤ nI N from nI_ge (b := 40) N4 (by decide)), if_neg (show ¬ nI N = 40 from fun z => cN (nI_inj (b := 40) (by omega) (by decide) z))]
    by_cases c5 : deep = 5
    · rw [if_neg (show ¬ nI deep < 5 by rw [c5]; decide), if_pos (show nI deep = 5 by rw [c5]; rfl)]
      exact fail6
    · have h5' : deep < 5 := by omega
      rw [if_pos (show nI deep < 5 from nI_lt (b := 5) h5' (by decide)), if_neg (show ¬ nI deep = 5 from fun z => c5 (nI_inj (b := 5) (by omega) (by decide) z)), m_wordHere g.1 h.1 hfu, Option.bind_some, if_pos (show tk b n p < 18 by omega)]
      have mw : nI (mpW (tk b n p)) - 10 = nI so := by
        have : mpW (tk b n p) = so + 10 := by
          unfold mpW
          rw [ht, if_neg (by omega), if_neg (by omega)]
          omega
        rw [this, show (10 : Int32) = nI 10 from rfl, nI_sub (by omega), Nat.add_sub_cancel]
      rw [mw, m_slit (x := 2) (k := 2) rfl (by decide), Option.bind_some, m_r2, Option.bind_some, ix_c (show (333 : Int32) = nI 333 from rfl), m_st3 (by omega), Option.bind_some, m_r2, Option.bind_some, ix_c (show (373 : Int32) = nI 373 from rfl), m_st3 (by omega), Option.bind_some, m_r2, Option.bind_some, ix_c (show (413 : Int32) = nI 413 from rfl), m_st3 (by omega), Option.bind_some, m_r2, Option.bind_some, ix_c (show (453 : Int32) = nI 453 from rfl), m_st3 (by omega), Option.bind_some, m_r2, Option.bind_some, ix_c (show (493 : Int32) = nI 493 from rfl), m_st3 (by omega), Option.bind_some, m_r2, Option.bind_some, ix_c (show (533 : Int32) = nI 533 from rfl), m_st3 (by omega), Option.bind_some, nI_1]
      have g1 := BM_wM (k := 533 + N) (x := blk) (BM_wM (k := 493 + N) (x := par) (BM_wM (k := 453 + N) (x := -1) (BM_wM (k := 413 + N) (x := -1) (BM_wM (k := 373 + N) (x := -1) (BM_wM (k := 333 + N) (x := nI so) (BM_wM (k := 2) (x := nI (N + 1)) g (by decide)) (by omega)) (by omega)) (by omega)) (by omega)) (by omega)) (by omega)
      obtain ⟨J2, K2, e4, g2, f4⟩ := BM_adv tx h.1 g1 hfu
      rw [e4, Option.bind_some]
      have add : MX4_addStatement d (nI so) par (nI deep) (mkC sw I L) = some (nI N, mkC sw (ur (ur (ur (ur (ur (ur (ur (ur (ur I (d + 14) (up (I (d + 14)) N (nI so))) (d + 15) (up (I (d + 15)) N (-1))) (d + 16) (up (I (d + 16)) N (-1))) (d + 17) (up (I (d + 17)) N (-1))) (d + 18) (up (I (d + 18)) N (nI deep))) (d + 19) (up (I (d + 19)) N par)) (d + 20) (up (I (d + 20)) N (nI (N + 1)))) (d + 21) (up (I (d + 21)) N (nI (N + 1)))) d (up (I d) 3 (nI (N + 1)))) L) := by
        simp only [MX4_addStatement, c4_g P4, c4_fI P4, Option.bind_some]
        rw [i3, c4_r4 P4, Option.bind_some, c4_st4 P4 N4, Option.bind_some, c4_r5 P4, Option.bind_some, c4_st5 P4 N4, Option.bind_some, c4_r6 P4, Option.bind_some, c4_st6 P4 N4, Option.bind_some, c4_r7 P4, Option.bind_some, c4_st7 P4 N4, Option.bind_some, c4_r8 P4, Option.bind_some, c4_st8 P4 N4, Option.bind_some, c4_r9 P4, Option.bind_some, c4_st9 P4 N4, Option.bind_some, c4_r10 P4, Option.bind_some, c4_st10 P4 N4, Option.bind_some, c4_r11 P4, Option.bind_some, c4_st11 P4 N4, Option.bind_some, c4_fI P4, Option.bind_some, c4_pI P4, Option.bind_some]
        have e : ∀ (A : Nat → Nat → Int32) (f : Nat → Int32) (r s : Nat), s ≠ r → ur A (d + r) f (d + s) = A (d + s) := fun A f r s hs => ur_ne (by omega)
        have e0 : ∀ (A : Nat → Nat → Int32) (f : Nat → Int32) (r : Nat), 1 ≤ r → ur A (d + r) f d = A d := fun A f r hr => ur_ne (by omega)
        simp only [e0 _ _ _ (show 1 ≤ 14 by decide), e0 _ _ _ (show 1 ≤ 15 by decide), e0 _ _ _ (show 1 ≤ 16 by decide), e0 _ _ _ (show 1 ≤ 17 by decide), e0 _ _ _ (show 1 ≤ 18 by decide), e0 _ _ _ (show 1 ≤ 19 by decide), e0 _ _ _ (show 1 ≤ 20 by decide), e0 _ _ _ (show 1 ≤ 21 by decide), e _ _ 14 15 (by decide), e _ _ 14 16 (by decide), e _ _ 15 16 (by decide), e _ _ 14 17 (by decide), e _ _ 15 17 (by decide), e _ _ 16 17 (by decide), e _ _ 14 18 (by decide), e _ _ 15 18 (by decide), e _ _ 16 18 (by decide), e _ _ 17 18 (by decide), e _ _ 14 19 (by decide), e _ _ 15 19 (by decide), e _ _ 16 19 (by decide), e _ _ 17 19 (by decide), e _ _ 18 19 (by decide), e _ _ 14 20 (by decide), e _ _ 15 20 (by decide), e _ _ 16 20 (by decide), e _ _ 17 20 (by decide), e _ _ 18 20 (by decide), e _ _ 19 20 (by decide), e _ _ 14 21 (by decide), e _ _ 15 21 (by decide), e _ _ 16 21 (by decide), e _ _ 17 21 (by decide), e _ _ 18 21 (by decide), e _ _ 19 21 (by decide), e _ _ 20 21 (by decide), i3, nI_1]
      have h1 := BC_wI (r := d) (g := up (I d) 3 (nI (N + 1))) (BC_wI (r := d + 21) (g := up (I (d + 21)) N (nI (N + 1))) (BC_wI (r := d + 20) (g := up (I (d + 20)) N (nI (N + 1))) (BC_wI (r := d + 19) (g := up (I (d + 19)) N par) (BC_wI (r := d + 18) (g := up (I (d + 18)) N (nI deep)) (BC_wI (r := d + 17) (g := up (I (d + 17)) N (-1)) (BC_wI (r := d + 16) (g := up (I (d + 16)) N (-1)) (BC_wI (r := d + 15) (g := up (I (d + 15)) N (-1)) (BC_wI (r := d + 14) (g := up (I (d + 14)) N (nI so)) h (by rw [hd]; omega)) (by rw [hd]; omega)) (by rw [hd]; omega)) (by rw [hd]; omega)) (by rw [hd]; omega)) (by rw [hd]; omega)) (by rw [hd]; omega)) (by rw [hd]; omega)) (by rw [hd]; omega)
      generalize hI1 : ur (ur (ur (ur (ur (ur (ur (ur (ur I (d + 14) (up (I (d + 14)) N (nI so))) (d + 15) (up (I (d + 15)) N (-1))) (d + 16) (up (I (d + 16)) N (-1))) (d + 17) (up (I (d + 17)) N (-1))) (d + 18) (up (I (d + 18)) N (nI deep))) (d + 19) (up (I (d + 19)) N par)) (d + 20) (up (I (d + 20)) N (nI (N + 1)))) (d + 21) (up (I (d + 21)) N (nI (N + 1)))) d (up (I d) 3 (nI (N + 1))) = I1 at *
      obtain ⟨I2, L2, e3, h2, f3⟩ := BC_adv tx h1 hfu
      have p1 := (nx_le (b := b) h.1).1
      have w8 : cS8 fu (nI so) d (nI deep) (mkC sw I L) par = cS11 fu (nI so) (nI N) (mkC sw I2 L2) := by
        unfold cS8
        rw [add, Option.bind_some]
        simp only []
        rw [c3_r0, Option.bind_some, e3, Option.bind_some]
      have cls : (if nI deep = 0 then cS8 fu (nI so) d (nI deep) (mkC sw I L) (-1) else (h_fR 3 (mkC sw I L) 1 8).bind fun x35 => (h_ldI (mkC sw I L) x35 (nI deep - 1)).bind fun x36 => cS8 fu (nI so) d (nI deep) (mkC sw I L) x36) = cS11 fu (nI so) (nI N) (mkC sw I2 L2) := by
        rcases hpar with ⟨z, z2⟩ | ⟨z, z2⟩
        · rw [if_pos (show nI deep = 0 by rw [z]; rfl), ← z2, w8]
        · rw [if_neg (show ¬ nI deep = 0 from fun y => by have := nI_inj (b := 0) (by omega) (by decide) y; omega), c3_r8, Option.bind_some, show nI deep - 1 = nI (deep - 1) by rw [show (1 : Int32) = nI 1 from rfl, nI_sub (by omega)], c3_ld8 (by omega), Option.bind_some, z2, w8]
      rw [cls]
      have iO : ∀ x, x ≠ d → (x < d + 14 ∨ d + 21 < x) → I1 x = I x := fun x x0 xr => by rw [← hI1, ur_ne x0, ur_ne (by omega), ur_ne (by omega), ur_ne (by omega), ur_ne (by omega), ur_ne (by omega), ur_ne (by omega), ur_ne (by omega), ur_ne (by omega)]
      have r14 : I1 (d + 14) = up (I (d + 14)) N (nI so) := by rw [← hI1, ur_ne (by omega), ur_ne (by omega), ur_ne (by omega), ur_ne (by omega), ur_ne (by omega), ur_ne (by omega), ur_ne (by omega), ur_ne (by omega), ur_at]
      have r15 : I1 (d + 15) = up (I (d + 15)) N (-1) := by rw [← hI1, ur_ne (by omega), ur_ne (by omega), ur_ne (by omega), ur_ne (by omega), ur_ne (by omega), ur_ne (by omega), ur_ne (by omega), ur_at]
      have r16 : I1 (d + 16) = up (I (d + 16)) N (-1) := by rw [← hI1, ur_ne (by omega), ur_ne (by omega), ur_ne (by omega), ur_ne (by omega), ur_ne (by omega), ur_ne (by omega), ur_at]
      have r17 : I1 (d + 17) = up (I (d + 17)) N (-1) := by rw [← hI1, ur_ne (by omega), ur_ne (by omega), ur_ne (by omega), ur_ne (by omega), ur_ne (by omega), ur_at]
      have r18 : I1 (d + 18) = up (I (d + 18)) N (nI deep) := by rw [← hI1, ur_ne (by omega), ur_ne (by omega), ur_ne (by omega), ur_ne (by omega), ur_at]
      have r19 : I1 (d + 19) = up (I (d + 19)) N par := by rw [← hI1, ur_ne (by omega), ur_ne (by omega), ur_ne (by omega), ur_at]
      have r20 : I1 (d + 20) = up (I (d + 20)) N (nI (N + 1)) := by rw [← hI1, ur_ne (by omega), ur_ne (by omega), ur_at]
      have r21 : I1 (d + 21) = up (I (d + 21)) N (nI (N + 1)) := by rw [← hI1, ur_ne (by omega), ur_at]
      have r0 : I1 d = up (I d) 3 (nI (N + 1)) := by rw [← hI1, ur_at]
      generalize hP1 : up (up (up (up (up (up (up P 2 (nI (N + 1))) (333 + N) (nI so)) (373 + N) (-1)) (413 + N) (-1)) (453 + N) (-1)) (493 + N) par) (533 + N) blk = P1 at *
      have eP : ∀ j, j ≠ 2 → j ≠ 333 + N → j ≠ 373 + N → j ≠ 413 + N → j ≠ 453 + N → j ≠ 493 + N → j ≠ 533 + N → P1 j = P j := fun j a1 a2 a3 a4 a5 a6 a7 => by rw [← hP1, up_ne a7, up_ne a6, up_ne a5, up_ne a4, up_ne a3, up_ne a2, up_ne a1]
      have ad : AD d N so deep par blk P I P1 I1 := by
        refine ⟨⟨?_, ?_, ?_, ?_, eP⟩, ⟨by rw [r0, up_at], by rw [r14, up_at], ?_, ?_, ?_, by rw [r18, up_at], by rw [r19, up_at], by rw [r20, up_at], by rw [r21, up_at]⟩, fun r i a1 a2 hi => ?_, by rw [r0, up_ne (by decide)], fun x x1 x2 => iO x (by omega) (by omega)⟩
        · rw [← hP1, up_ne (by omega), up_ne (by omega), up_ne (by omega), up_ne (by omega), up_ne (by omega), up_ne (by omega), up_at]
        · rw [← hP1, up_ne (by omega), up_ne (by omega), up_ne (by omega), up_ne (by omega), up_ne (by omega), up_at]
        · rw [← hP1, up_ne (by omega), up_at]
        · rw [← hP1, up_at]
        · rw [r15, up_at, ← hP1, up_ne (by omega), up_ne (by omega), up_ne (by omega), up_ne (by omega), up_at]
        · rw [r16, up_at, ← hP1, up_ne (by omega), up_ne (by omega), up_ne (by omega), up_at]
        · rw [r17, up_at, ← hP1, up_ne (by omega), up_ne (by omega), up_at]
        · rcases (show r = 14 ∨ r = 15 ∨ r = 16 ∨ r = 17 ∨ r = 18 ∨ r = 19 ∨ r = 20 ∨ r = 21 by omega) with e | e | e | e | e | e | e | e <;> subst e
          · rw [r14, up_ne hi]
          · rw [r15, up_ne hi]
          · rw [r16, up_ne hi]
          · rw [r17, up_ne hi]
          · rw [r18, up_ne hi]
          · rw [r19, up_ne hi]
          · rw [r20, up_ne hi]
          · rw [r21, up_ne hi]
      have cx2 : CTX d P1 I2 L2 K2 := CTX_P (CTX_fr cx (fun x x1 x2 => by rw [f3.1 x (by omega), iO x (by omega) (by omega)]) (by rw [f3.1 d (by omega), r0, up_ne (by decide)]) (fun x x1 x2 => f3.2.1 x (by omega)) (f4.2.1 4 (by decide))) (fun j hj j2 => eP j j2 (by omega) (by omega) (by omega) (by omega) (by omega) (by omega))
      exact st_first hd tx h2 g2 p1 (AD_fr ad (fun x x1 x2 => f3.1 x (by omega))) cx2 (by rw [f3.1 1 (by decide), iO 1 (by omega) (by omega)]; exact i10) (by rw [f3.1 34 (by decide), iO 34 (by omega) (by omega)]) (by rw [f3.1 35 (by decide), iO 35 (by omega) (by omega)]) N4 h5' hso hfu
end Stmt2
