section Stm
variable {b : Nat → Nat} {n : Nat} {sw : Bool} {I0 : Nat → Nat → Int32} {L0 : Nat → Nat → Int64} {J0 : Nat → Nat → Int32} {Z : Nat → Int32} {fu d : Nat}
theorem PO_ex {N N2 N3 : Nat} {P2 P3 : Nat → Int32} {I2 I6 I7 : Nat → Nat → Int32} {D2 D3 sp2 sp3 cl2 cl3 : Nat → Nat} (hN : N < N2) (po : PO d N2 P2 I6 D2 sp2 cl2 N3 P3 I7 D3 sp3 cl3) (e : ∀ r i, 14 ≤ r → r ≤ 21 → (r ≠ 20 ∨ i ≠ N) → I6 (d + r) i = I2 (d + r) i) : PO d N2 P2 I2 D2 sp2 cl2 N3 P3 (ur I7 (d + 20) (up (I7 (d + 20)) N (I2 (d + 20) N))) D3 sp3 cl3 := by
  obtain ⟨⟨a1, a2, a3⟩, a4, a5, a6⟩ := po
  have row : ∀ r i, 14 ≤ r → r ≤ 21 → (r ≠ 20 ∨ i ≠ N) → ur I7 (d + 20) (up (I7 (d + 20)) N (I2 (d + 20) N)) (d + r) i = I7 (d + r) i := by
    intro r i r1 r2 hr
    by_cases z : r = 20
    · rw [z, ur_at, up_ne (by omega)]
    · rw [ur_ne (by omega)]
  refine ⟨⟨a1, a2, by rw [ur_ne (by omega)]; exact a3⟩, a4, fun i hi => ⟨(a5 i hi).1, (a5 i hi).2.1, fun r r1 r2 => ?_⟩, fun i i1 i2 => ?_⟩
  · by_cases z : r = 20 ∧ i = N
    · rw [z.1, z.2, ur_at, up_at]
    · rw [row r i r1 r2 (by omega), (a5 i hi).2.2 r r1 r2, e r i r1 r2 (by omega)]
  · obtain ⟨s, w1, w2⟩ := a6 i i1 i2
    refine ⟨?_, w1, w2⟩
    unfold SRr
    rw [row 14 i (by decide) (by decide) (by omega), row 15 i (by decide) (by decide) (by omega), row 16 i (by decide) (by decide) (by omega), row 17 i (by decide) (by decide) (by omega), row 18 i (by decide) (by decide) (by omega), row 19 i (by decide) (by decide) (by omega), row 20 i (by decide) (by decide) (by omega), row 21 i (by decide) (by decide) (by omega)]
    exact s
theorem stm_of (tx : TX b n) (hd : dr' sw = d) (hfu : 1000 < fu) {deep : Nat} (h5 : deep ≤ 5) (nxt : deep < 5 → STM b n sw I0 L0 J0 Z fu d (deep + 1)) : STM b n sw I0 L0 J0 Z fu d deep := by
  have d5 := dr_lt (sw := sw)
  have n9 := tx.1
  intro p P I L J K D sp cl N par blk h g cx eN N40 i3 sh t21 t5 t22
  have pn := h.1
  have ae : MX3_atTheEnd 1 (mkC sw I L) = some 0 := by rw [at_end h sh.1 h5, if_neg (fun z => by have := t22 z.1; omega)]
  rw [wh5_p (show 0 < 7 - deep by omega), show 7 - deep - 1 = 6 - deep by omega]
  by_cases ts : 7 ≤ tk b n p ∧ tk b n p ≤ 17
  · obtain ⟨so, ht⟩ : ∃ so, tk b n p = 7 + so := ⟨tk b n p - 7, by omega⟩
    have hso : so ≤ 10 := by omega
    have hpar : (deep = 0 ∧ par = -1) ∨ (0 < deep ∧ I 34 (deep - 1) = par) := by
      rcases sh.2 with z | ⟨q, sq, ⟨e1, e2, e3⟩, ⟨f1, -⟩, -⟩
      · exact Or.inl ⟨z.1, z.2.1⟩
      · exact Or.inr ⟨e1, by rw [f1, e3]⟩
    rcases both_stmt (rs := wh5 (MX9_readStatement_R fu) (6 - deep)) (blk := blk) hd tx h g cx ht hso eN N40 i3 sh.1 h5 hpar hfu with ⟨I1, L1, J1, K1, x1, y1, fl⟩ | ⟨p1, P1, I1, L1, J1, K1, x1, h1, g1, pp, ⟨N4, h5'⟩, ad, wo, cx1, hh⟩
    · refine Or.inl ⟨1, I1, L1, J1, K1, by omega, fl_1 ae ?_, y1, fl⟩
      rw [rp_stmt h ht hso, x1, Option.bind_some]
      rfl
    · have S1 : StepsTo fu 1 (mkC sw I L) (mkC sw I1 L1) := by
        refine st_1 ae ?_
        rw [rp_stmt h ht hso, x1, Option.bind_some]
        rfl
      have p1n := h1.1
      rcases hh with ⟨s7, y1, i10, i34, i35⟩ | ⟨s7, y1, i10, i34, i35⟩
      · -- a simple one
        have po0 : PO d (N + 1) P1 I1 (up D N deep) sp cl (N + 1) P1 I1 (up D N deep) sp cl := PO_refl (by omega) ad.1.1 ad.2.1.1
        refine Or.inr ⟨1, p1, P1, I1, L1, J1, K1, up D N deep, up sp N (N + 1), up cl N (N + 1), N + 1, ⟨by omega, pp⟩, S1, y1, h1, g1, cx1, asm ad wo cx1 sh h5' N4 po0 ?_ ?_ (fun x _ _ => rfl), by omega, i10, fun l _ => ⟨by rw [i34], by rw [i35]⟩, 1, asm_WB (f := 0) (g := 0) ad po0 rfl rfl⟩
        · rw [← ad.2.1.2.2.2.2.2.2.2.1, up_self]
        · rw [← ad.2.1.2.2.2.2.2.2.2.2, up_self]
      · -- one with blocks
        have sh1 : SH d (deep + 1) (nI N) 0 (N + 1) P1 I1 (up D N deep) := ⟨i10, Or.inr ⟨N, so, ⟨by omega, by omega, rfl⟩, ⟨by rw [Nat.add_sub_cancel, i34, up_at], by rw [Nat.add_sub_cancel, i35, up_at], Or.inl rfl⟩, by rw [up_at], ⟨ad.1.2.1, s7, hso⟩, ad.2.1.2.1, fun z => absurd z (by decide)⟩⟩
        have BL := blk_of tx hd hfu h5' (nxt h5')
        rw [y1]
        unfold rBlk
        rcases BL (n - p1) p1 P1 I1 L1 J1 K1 (up D N deep) sp cl (N + 1) N 0 fu (Nat.le_refl _) h1 g1 cx1 ad.1.1 (by omega) ad.2.1.1 sh1 (by omega) (by omega) with ⟨m, I2, L2, J2, K2, m1, m2, m3, m4⟩ | ⟨m, p2, P2, I2, L2, J2, K2, D2, sp2, cl2, N2, m1, S2, q21, yB, h2, g2, cx2, po2, j10, j34, f, wb⟩
        · rw [m3, Option.bind_some]
          unfold rAft
          rw [if_pos rfl]
          exact Or.inl ⟨1 + m, I2, L2, J2, K2, by omega, st_fail S1 m2, rfl, m4⟩
        · have p2n := h2.1
          have p2lt : p2 < n := by
            rcases Nat.lt_or_ge p2 n with z | z
            · exact z
            · have := tk_end (b := b).mpr z; omega
          have nxp := (nx_le (b := b) h2.1).2.2 p2lt
          obtain ⟨J3, K3, eg, g3, fy⟩ := BM_adv tx h2.1 g2 hfu
          rw [yB, eg, Option.bind_some, Option.bind_some]
          have k34 : I2 34 deep = nI N := by rw [(j34 deep (by omega)).1, i34, up_at]
          have k35 : I2 35 deep = 0 := by rw [(j34 deep (by omega)).2, i35, up_at]
          have rowN := (po2.2.2.1 N (by omega)).2.2
          have k14 : I2 (d + 14) N = nI so := by rw [rowN 14 (by decide) (by decide)]; exact ad.2.1.2.1
          have N2l := po2.1.1.1
          have N2h := po2.1.1.2
          obtain ⟨I3, L3, h3, ec, e20, iO, lO⟩ := c_close hd tx h2 h5' N4 j10 k34 k35 po2.1.2.2 k14 hso hfu
          rw [if_pos rfl] at e20
          have ae2 : MX3_atTheEnd 1 (mkC sw I2 L2) = some 0 := by rw [at_end h2 j10 (by omega), if_neg (fun z => by omega)]
          have rp2 := rp_close (fu := fu) h2 q21 j10 h5'
          have tl3 := tk_le (b := b) (n := n) (p := nx b n p2)
          by_cases ce : (so = 7 ∨ so = 9) ∧ tk b n (nx b n p2) = 6
          · -- with an else
            rw [if_pos ⟨rfl, ce⟩] at ec
            have ra : rAft fu (wh5 (MX9_readStatement_R fu) (6 - deep)) (nI so) (nI N) (nI deep) (1, mkM J3 K3) = rElse fu (wh5 (MX9_readStatement_R fu) (6 - deep)) (nI N) (nI deep) (mkM J3 K3) := by
              unfold rAft
              simp only [n10, if_false]
              rcases ce.1 with z | z
              · rw [if_pos (show nI so = 7 by rw [z]; rfl)]
              · rw [if_neg (show ¬ nI so = 7 by rw [z]; decide), if_pos (show nI so = 9 by rw [z]; rfl)]
            rw [ra]
            unfold rElse
            rw [m_wordHere g3.1 h3.1 hfu, Option.bind_some, ce.2, if_pos (show (6 : Nat) < 18 by decide), if_pos (show nI (mpW 6) = 21 from rfl)]
            have q3lt : nx b n p2 < n := by
              rcases Nat.lt_or_ge (nx b n p2) n with z | z
              · exact z
              · have := tk_end (b := b).mpr z; omega
            have nxp2 := (nx_le (b := b) h3.1).2.2 q3lt
            obtain ⟨J4, K4, eg4, g4, fy4⟩ := BM_adv tx h3.1 g3 hfu
            have h4 := BC_wI (r := 35) (g := up (I3 35) deep 1) h3 (Or.inr (Or.inl rfl))
            obtain ⟨I5, L5, e5, h5c, f5⟩ := BC_adv tx h4 hfu
            have c24 : cC24 fu (nI (deep + 1)) (mkC sw I3 L3) 35 = (MX3_takeSign fu 1 20 (mkC sw I5 L5)).bind fun p27 => (h_z p27.1).bind fun z28 => some (z28, p27.2) := by
              unfold cC24
              rw [nI_pred, c3_st9 h5' (Or.inr rfl), Option.bind_some, c3_r0, Option.bind_some, e5, Option.bind_some]
            rw [eg4, Option.bind_some, rB_eq, m_g]
            rcases both_sign (c := 123) (t := 20) (fu := fu) tx h5c g4 (Or.inr (Or.inl ⟨rfl, rfl⟩)) hfu with ⟨I6, L6, J6, K6, e8, e9, fl⟩ | ⟨p3, P3', I6, L6, J6, K6, e8, e9, h6, g6, pn3, ep3, eP3, f6, f7⟩
            · rw [show (123 : Int32) = nI 123 from rfl, e9]
              simp only [Option.bind_some, if_true, h_z_0]
              refine Or.inl ⟨1 + m + 1, I6, L6, J6, K6, by omega, st_fail (st_trans S1 S2) (fl_1 ae2 ?_), rfl, fl⟩
              rw [rp2, ec, c24, show (20 : Int32) = nI 20 from rfl, e8]
              rfl
            · subst ep3
              rw [eP3] at g6
              have S3 : StepsTo fu 1 (mkC sw I2 L2) (mkC sw I6 L6) := by
                refine st_1 ae2 ?_
                rw [rp2, ec, c24, show (20 : Int32) = nI 20 from rfl, e8]
                rfl
              rw [show (123 : Int32) = nI 123 from rfl, e9, Option.bind_some]
              simp only [n10, if_false]
              have p3n := h6.1
              have nxp3 := (nx_le (b := b) h5c.1).2.2 pn3
              have iO6 : ∀ x, x ≠ 2 → x ≠ 35 → x ≠ d + 20 → I6 x = I2 x := fun x x2 x35 x20 => by rw [f6.1 x x2, f5.1 x x2, ur_ne x35, iO x x2 x20]
              have i35' : I6 35 = up (I2 35) deep 1 := by rw [f6.1 35 (by decide), f5.1 35 (by decide), ur_at, iO 35 (by decide) (by omega)]
              have i20' : I6 (d + 20) = up (I2 (d + 20)) N (nI N2) := by rw [f6.1 _ (by omega), f5.1 _ (by omega), ur_ne (by omega), e20]
              have lO6 : ∀ x, x ≠ 2 → L6 x = L2 x := fun x x2 => by rw [f6.2.1 x x2, f5.2.1 x x2, lO x x2]
              have k6 : K6 4 = K2 4 := by rw [f7.2.1 4 (by decide), fy4.2.1 4 (by decide), fy.2.1 4 (by decide)]
              have cx6 : CTX d P2 I6 L6 K6 := CTX_fr cx2 (fun x x1 x2 => iO6 x (by omega) (by omega) (by omega)) (by rw [iO6 d (by omega) (by omega) (by omega)]) (fun x x1 x2 => lO6 x (by omega)) k6
              have DN : D2 N = deep := by rw [(po2.2.2.1 N (by omega)).2.1.1, up_at]
              have PN : P2 (333 + N) = nI so := by rw [(po2.2.2.1 N (by omega)).1 333 (by omega)]; exact ad.1.2.1
              have sh6 : SH d (deep + 1) (nI N) 1 N2 P2 I6 D2 := ⟨by rw [iO6 1 (by decide) (by decide) (by omega)]; exact j10, Or.inr ⟨N, so, ⟨by omega, by omega, rfl⟩, ⟨by rw [Nat.add_sub_cancel, iO6 34 (by decide) (by decide) (by omega)]; exact k34, by rw [Nat.add_sub_cancel, i35', up_at], Or.inr rfl⟩, by rw [DN], ⟨PN, s7, hso⟩, by rw [iO6 (d + 14) (by omega) (by omega) (by omega)]; exact k14, fun _ => ce.1⟩⟩
              have i63 : I6 d 3 = nI N2 := by rw [iO6 d (by omega) (by omega) (by omega)]; exact po2.1.2.2
              unfold rBlk
              rcases BL (n - nx b n (nx b n (nx b n p2))) _ P2 I6 L6 J6 K6 D2 sp2 cl2 N2 N 1 fu (Nat.le_refl _) h6 g6 cx6 po2.1.2.1 N2h i63 sh6 (by omega) (by omega) with ⟨m', I7, L7, J7, K7, r1, r2, r3, r4⟩ | ⟨m', p4, P4, I7, L7, J7, K7, D4, sp4, cl4, N3, r1, S4, r21, yB4, h7, g7, cx7, po7, l10, l34, f', wb'⟩
              · rw [r3, Option.bind_some]
                exact Or.inl ⟨1 + m + 1 + m', I7, L7, J7, K7, by omega, st_fail (st_trans (st_trans S1 S2) S3) r2, rfl, r4⟩
              · have p4lt : p4 < n := by
                  rcases Nat.lt_or_ge p4 n with z | z
                  · exact z
                  · have := tk_end (b := b).mpr z; omega
                have nxp4 := (nx_le (b := b) h7.1).2.2 p4lt
                obtain ⟨J8, K8, eg8, g8, fy8⟩ := BM_adv tx h7.1 g7 hfu
                rw [yB4, eg8, Option.bind_some, Option.bind_some]
                have m34 : I7 34 deep = nI N := by rw [(l34 deep (by omega)).1, iO6 34 (by decide) (by decide) (by omega)]; exact k34
                have m35 : I7 35 deep = 1 := by rw [(l34 deep (by omega)).2, i35', up_at]
                have rowN7 := (po7.2.2.1 N (by omega)).2.2
                have m14 : I7 (d + 14) N = nI so := by rw [rowN7 14 (by decide) (by decide), iO6 (d + 14) (by omega) (by omega) (by omega)]; exact k14
                have N3l := po7.1.1.1
                have N3h := po7.1.1.2
                obtain ⟨I9, L9, h9, ec9, e209, iO9, lO9⟩ := c_close hd tx h7 h5' N4 l10 m34 m35 po7.1.2.2 m14 hso hfu
                rw [if_neg (fun z => absurd z.1 (by decide))] at ec9
                rw [if_neg (by decide)] at e209
                have ae4 : MX3_atTheEnd 1 (mkC sw I7 L7) = some 0 := by rw [at_end h7 l10 (by omega), if_neg (fun z => by omega)]
                have S5 : StepsTo fu 1 (mkC sw I7 L7) (mkC sw (ur (ur I9 (d + 21) (up (I9 (d + 21)) N (nI N3))) 1 (up (I9 1) 10 (nI deep))) L9) := by
                  refine st_1 ae4 ?_
                  rw [rp_close h7 r21 l10 h5', ec9]
                  rfl
                have i9 : ∀ x, x ≠ 2 → I9 x = I7 x := fun x x2 => by
                  by_cases z : x = d + 20
                  · rw [z, e209]
                  · exact iO9 x x2 z
                have po8 := PO_ex (I2 := I2) (N := N) (by omega) po7 (fun r i r1 r2 hr => by
                  by_cases z : r = 20
                  · rw [z, i20', up_ne (by omega)]
                  · rw [iO6 (d + r) (by omega) (by omega) (by omega)])
                have pot := PO_trans cx2 po2 po8
                have v20 : I7 (d + 20) N = nI N2 := by rw [rowN7 20 (by decide) (by decide), i20', up_at]
                generalize hI10 : ur (ur I9 (d + 21) (up (I9 (d + 21)) N (nI N3))) 1 (up (I9 1) 10 (nI deep)) = I10 at *
                have o10 : ∀ x, x ≠ 1 → x ≠ 2 → x ≠ d + 21 → I10 x = I7 x := fun x x1 x2 x21 => by rw [← hI10, ur_ne x1, ur_ne x21, i9 x x2]
                have h10 : BC b n sw I0 L0 (nx b n p4) I10 L9 := by
                  rw [← hI10]
                  exact BC_w1 (BC_wI h9 (by rw [hd]; omega)) (by rw [up_ne (by decide), ur_ne (by omega)]) (by rw [up_ne (by decide), ur_ne (by omega)])
                refine Or.inr ⟨1 + m + 1 + m' + 1, nx b n p4, P4, I10, L9, J8, K8, D4, up sp4 N N2, up cl4 N N3, N3, ⟨by omega, by omega⟩, st_trans (st_trans (st_trans (st_trans S1 S2) S3) S4) S5, rfl, h10, g8, CTX_fr cx7 (fun x x1 x2 => o10 x (by omega) (by omega) (by omega)) (by rw [o10 d (by omega) (by omega) (by omega)]) (fun x x1 x2 => lO9 x (by omega)) (fy8.2.1 4 (by decide)), asm ad wo cx1 sh h5' N4 pot ?_ ?_ ?_, by omega, by rw [← hI10, ur_at, up_at], fun l hl => ⟨?_, ?_⟩, f + f' + 1, asm_WB ad pot (PO_WB po8 wb) wb'⟩
                · rw [o10 (d + 20) (by omega) (by omega) (by omega), ur_at]
                  funext j
                  by_cases z : j = N
                  · rw [z, up_at, v20]
                  · rw [up_ne z, up_ne z]
                · rw [← hI10, ur_ne (by omega), ur_at, ur_ne (by omega), i9 (d + 21) (by omega)]
                · intro x x1 x2
                  rw [o10 x (by omega) (by omega) (by omega), ur_ne (by omega)]
                · rw [o10 34 (by decide) (by decide) (by omega), (l34 l (by omega)).1, iO6 34 (by decide) (by decide) (by omega), (j34 l (by omega)).1, i34, up_ne (by omega)]
                · rw [o10 35 (by decide) (by decide) (by omega), (l34 l (by omega)).2, i35', up_ne (by omega), (j34 l (by omega)).2, i35, up_ne (by omega)]
          · -- without
            rw [if_neg (fun z => ce z.2)] at ec
            have ra : rAft fu (wh5 (MX9_readStatement_R fu) (6 - deep)) (nI so) (nI N) (nI deep) (1, mkM J3 K3) = some (1, mkM J3 K3) := by
              unfold rAft
              simp only [n10, if_false]
              have re : (so = 7 ∨ so = 9) → rElse fu (wh5 (MX9_readStatement_R fu) (6 - deep)) (nI N) (nI deep) (mkM J3 K3) = some (1, mkM J3 K3) := by
                intro z
                have t6 : tk b n (nx b n p2) ≠ 6 := fun y => ce ⟨z, y⟩
                unfold rElse
                rw [m_wordHere g3.1 h3.1 hfu, Option.bind_some]
                rw [if_neg]
                by_cases y : tk b n (nx b n p2) < 18
                · rw [if_pos y]
                  intro u
                  exact t6 (mp_inj _ y 6 (by decide) (nI_inj (b := 21) (by have := mp_lt _ y; omega) (by decide) u))
                · rw [if_neg y]; decide
              by_cases z7 : so = 7
              · rw [if_pos (show nI so = 7 by rw [z7]; rfl), re (Or.inl z7)]
              · rw [if_neg (show ¬ nI so = 7 from fun z => z7 (nI_inj (b := 7) (by omega) (by decide) z))]
                by_cases z9 : so = 9
                · rw [if_pos (show nI so = 9 by rw [z9]; rfl), re (Or.inr z9)]
                · rw [if_neg (show ¬ nI so = 9 from fun z => z9 (nI_inj (b := 9) (by omega) (by decide) z))]
            rw [ra]
            have S3 : StepsTo fu 1 (mkC sw I2 L2) (mkC sw (ur (ur I3 (d + 21) (up (I3 (d + 21)) N (nI N2))) 1 (up (I3 1) 10 (nI deep))) L3) := by
              refine st_1 ae2 ?_
              rw [rp2, ec]
              rfl
            generalize hI4 : ur (ur I3 (d + 21) (up (I3 (d + 21)) N (nI N2))) 1 (up (I3 1) 10 (nI deep)) = I4 at *
            have o4 : ∀ x, x ≠ 1 → x ≠ 2 → x ≠ d + 20 → x ≠ d + 21 → I4 x = I2 x := fun x x1 x2 x20 x21 => by rw [← hI4, ur_ne x1, ur_ne x21, iO x x2 x20]
            have h4 : BC b n sw I0 L0 (nx b n p2) I4 L3 := by
              rw [← hI4]
              exact BC_w1 (BC_wI h3 (by rw [hd]; omega)) (by rw [up_ne (by decide), ur_ne (by omega)]) (by rw [up_ne (by decide), ur_ne (by omega)])
            refine Or.inr ⟨1 + m + 1, nx b n p2, P2, I4, L3, J3, K3, D2, up sp2 N N2, up cl2 N N2, N2, ⟨by omega, by omega⟩, st_trans (st_trans S1 S2) S3, rfl, h4, g3, CTX_fr cx2 (fun x x1 x2 => o4 x (by omega) (by omega) (by omega) (by omega)) (by rw [o4 d (by omega) (by omega) (by omega) (by omega)]) (fun x x1 x2 => lO x (by omega)) (fy.2.1 4 (by decide)), asm ad wo cx1 sh h5' N4 po2 ?_ ?_ ?_, by omega, by rw [← hI4, ur_at, up_at], fun l hl => ⟨?_, ?_⟩, f + 0 + 1, asm_WB (g := 0) ad po2 wb rfl⟩
            · rw [← hI4, ur_ne (by omega), ur_ne (by omega), e20]
            · rw [← hI4, ur_ne (by omega), ur_at, iO (d + 21) (by omega) (by omega)]
            · intro x x1 x2
              exact o4 x (by omega) (by omega) (by omega) (by omega)
            · rw [o4 34 (by decide) (by decide) (by omega) (by omega), (j34 l (by omega)).1, i34, up_ne (by omega)]
            · rw [o4 35 (by decide) (by decide) (by omega) (by omega), (j34 l (by omega)).2, i35, up_ne (by omega)]
  · -- no statement begins so
    have rp := rp_fail (fu := fu) hd h (by omega) (fun z => by rw [sh.1, t21 z]) i3 N40 (by
      rcases Nat.lt_or_ge 5 (tk b n p) with z | z
      · exact Or.inl z
      · exact Or.inr (t5 z))
    rw [mS_eq, m_g, m_isStatement g.1 h.1 hfu, Option.bind_some, if_neg ts, if_pos rfl, m_bad g.1]
    exact Or.inl ⟨1, _, _, _, _, by omega, fl_1 ae rp, rfl, FLT_fail h g⟩
theorem stm_all (tx : TX b n) (hd : dr' sw = d) (hfu : 1000 < fu) : ∀ r deep, deep + r = 5 → STM b n sw I0 L0 J0 Z fu d deep := by
  intro r
  induction r with
  | zero => intro deep h; exact stm_of tx hd hfu (by omega) (fun z => by omega)
  | succ r ih => intro deep h; exact stm_of tx hd hfu (by omega) (fun z => ih (deep + 1) (by omega))
end Stm
