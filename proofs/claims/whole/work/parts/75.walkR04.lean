set_option maxRecDepth 100000 in
set_option maxHeartbeats 4000000 in
theorem ok_X9_explores (fu : Nat) (a0 : Nat) (a1 : Int32) (h : Hp) (res : Hp) (e : MX9_explores fu a0 a1 h = some res) : CK yX9_explores cX9_explores 5 none 12 [.ref a0, .int a1] h none res ∧ (h.1 a0).1 = 9 := by
  obtain ⟨hcl, e⟩ := h_g_inv e
  refine ⟨CK_of pn_RX9 cm_X9_explores (Nat.le_of_ble_eq_true rfl) ?_, hcl⟩
  intro l D tc B nn p en s m args below meth c X hr hlk
  replace X : CX p (rmD 12) s m args c cX9_explores 5 RX9 D tc 12 := X
  show V p l en (rmD 12) s m args below meth c 5 D tc B nn (Ar B nn) s.heap 0 0 (MQ below (QC D tc B nn (Ar B nn) none res) args s 0 0 (Ar B nn)) h 0 [(0, .ref a0), (1, .int a1)] []
  refine V_aload_n (q := 1) X (TB.get tb_X9_explores 0 rfl) rfl rfl rfl ?_
  refine V_aload_n (q := 2) X (TB.get tb_X9_explores 1 rfl) rfl rfl rfl ?_
  obtain ⟨x1, ex1, e⟩ := bs e
  refine V_getR (q := 5) X (TB.get tb_X9_explores 2 rfl) rfl lf_RX9_85 ex1 ?_
  refine V_iload_n (q := 6) X (TB.get tb_X9_explores 3 rfl) rfl rfl rfl ?_
  obtain ⟨x2, ex2, e⟩ := bs e
  refine V_laload (q := 7) X (TB.get tb_X9_explores 4 rfl) rfl ex2 ?_
  obtain ⟨p3, ep3, e⟩ := bs e
  refine V_callV (q := 10) (As := [.long x2]) (rest := []) (st' := [.int p3.1]) X (TB.get tb_X9_explores 5 rfl) rfl cv_RX9_415 (ok_X9_lays fu a0 x2 h p3 ep3).1 (ok_X9_lays fu a0 x2 h p3 ep3).2 (Nat.le_of_ble_eq_true rfl) rfl rfl (Nat.le_of_ble_eq_true rfl) rfl ?_
  refine V_istore_n (q := 11) (lv' := [(2, .int p3.1), (0, .ref a0), (1, .int a1)]) X (TB.get tb_X9_explores 6 rfl) rfl rfl (Nat.le_of_ble_eq_true rfl) rfl ?_
  refine V_aload_n (q := 12) X (TB.get tb_X9_explores 7 rfl) rfl rfl rfl ?_
  refine V_aload_n (q := 13) X (TB.get tb_X9_explores 8 rfl) rfl rfl rfl ?_
  obtain ⟨x4, ex4, e⟩ := bs e
  refine V_getI (q := 16) X (TB.get tb_X9_explores 9 rfl) rfl lf_RX9_419 ex4 ?_
  refine V_aload_n (q := 17) X (TB.get tb_X9_explores 10 rfl) rfl rfl rfl ?_
  obtain ⟨x5, ex5, e⟩ := bs e
  refine V_callV (q := 20) (As := []) (rest := [.int x4, .ref a0]) (st' := [.int x5, .int x4, .ref a0]) X (TB.get tb_X9_explores 11 rfl) rfl cv_RX9_422 (ok_X9_things fu a0 p3.2 x5 ex5).1 (ok_X9_things fu a0 p3.2 x5 ex5).2 (Nat.le_of_ble_eq_true rfl) rfl rfl (Nat.le_of_ble_eq_true rfl) rfl ?_
  refine V_mmax (q := 23) X (TB.get tb_X9_explores 12 rfl) rfl mm_RX9_425 mm_max1 mm_i mm_max2 (Nat.le_of_ble_eq_true rfl) (Nat.le_of_ble_eq_true rfl) ?_
  obtain ⟨h6, eh6, e⟩ := bs e
  refine V_putI (q := 26) X (TB.get tb_X9_explores 13 rfl) rfl lq_RX9_419 eh6 ?_
  refine V_aload_n (q := 27) X (TB.get tb_X9_explores 14 rfl) rfl rfl rfl ?_
  obtain ⟨x7, ex7, e⟩ := bs e
  refine V_getR (q := 30) X (TB.get tb_X9_explores 15 rfl) rfl lf_RX9_91 ex7 ?_
  refine V_iload_n (q := 31) X (TB.get tb_X9_explores 16 rfl) rfl rfl rfl ?_
  refine V_iconst (v := 0) (q := 32) X (TB.get tb_X9_explores 17 rfl) c_iconst_0 rfl ?_
  obtain ⟨h8, eh8, e⟩ := bs e
  refine V_iastore (q := 33) X (TB.get tb_X9_explores 18 rfl) rfl eh8 ?_
  refine V_iload_n (q := 34) X (TB.get tb_X9_explores 19 rfl) rfl rfl rfl ?_
  refine V_aload_n (q := 35) X (TB.get tb_X9_explores 20 rfl) rfl rfl rfl ?_
  obtain ⟨x9, ex9, e⟩ := bs e
  refine V_callV (q := 38) (As := []) (rest := [.int p3.1]) (st' := [.int x9, .int p3.1]) X (TB.get tb_X9_explores 21 rfl) rfl cv_RX9_298 (ok_X9_statements a0 h8 x9 ex9).1 (ok_X9_statements a0 h8 x9 ex9).2 (Nat.le_of_ble_eq_true rfl) rfl rfl (Nat.le_of_ble_eq_true rfl) rfl ?_
  refine V_icmp_ne (q := 41) (t := 52) X (TB.get tb_X9_explores 22 rfl) rfl rfl (fun hc => ?_) (fun hc => ?_)
  · have e := (if_neg hc).symm.trans e
    refine V_aload_n (q := 53) X (TB.get tb_X9_explores 30 rfl) rfl rfl rfl ?_
    refine V_iload_n (q := 54) X (TB.get tb_X9_explores 31 rfl) rfl rfl rfl ?_
    obtain ⟨x10, ex10, e⟩ := bs e
    refine V_callV (q := 57) (As := [.int p3.1]) (rest := []) (st' := [.int x10]) X (TB.get tb_X9_explores 32 rfl) rfl cv_RX9_304 (ok_X9_sortAt a0 p3.1 h8 x10 ex10).1 (ok_X9_sortAt a0 p3.1 h8 x10 ex10).2 (Nat.le_of_ble_eq_true rfl) rfl rfl (Nat.le_of_ble_eq_true rfl) rfl ?_
    refine V_istore_n (q := 58) (lv' := [(3, .int x10), (2, .int p3.1), (0, .ref a0), (1, .int a1)]) X (TB.get tb_X9_explores 33 rfl) rfl rfl (Nat.le_of_ble_eq_true rfl) rfl ?_
    refine V_iload_n (q := 59) X (TB.get tb_X9_explores 34 rfl) rfl rfl rfl ?_
    refine V_bipush (v := 9) (q := 61) X (TB.get tb_X9_explores 35 rfl) c_bipush_9 rfl ?_
    refine V_icmp_lt (q := 64) (t := 85) X (TB.get tb_X9_explores 36 rfl) rfl rfl (fun hc => ?_) (fun hc => ?_)
    · have e := (if_pos hc).symm.trans e
      refine V_aload_n (q := 86) X (TB.get tb_X9_explores 50 rfl) rfl rfl rfl ?_
      obtain ⟨x11, ex11, e⟩ := bs e
      refine V_getR (q := 89) X (TB.get tb_X9_explores 51 rfl) rfl lf_RX9_91 ex11 ?_
      refine V_iload_n (q := 90) X (TB.get tb_X9_explores 52 rfl) rfl rfl rfl ?_
      refine V_aload_n (q := 91) X (TB.get tb_X9_explores 53 rfl) rfl rfl rfl ?_
      refine V_iload_n (q := 92) X (TB.get tb_X9_explores 54 rfl) rfl rfl rfl ?_
      refine V_iconst (v := 1) (q := 93) X (TB.get tb_X9_explores 55 rfl) c_iconst_1 rfl ?_
      refine V_bipush (v := 7) (q := 95) X (TB.get tb_X9_explores 56 rfl) c_bipush_7 rfl ?_
      obtain ⟨p12, ep12, e⟩ := bs e
      refine V_callV (q := 98) (As := [.int p3.1, .int (1 : Int32), .int (7 : Int32)]) (rest := [.int a1, .ref x11]) (st' := [.int p12.1, .int a1, .ref x11]) X (TB.get tb_X9_explores 57 rfl) rfl cv_RX9_435 (ok_X9_does fu a0 p3.1 (1 : Int32) (7 : Int32) h8 p12 ep12).1 (ok_X9_does fu a0 p3.1 (1 : Int32) (7 : Int32) h8 p12 ep12).2 (Nat.le_of_ble_eq_true rfl) rfl rfl (Nat.le_of_ble_eq_true rfl) rfl ?_
      obtain ⟨h13, eh13, e⟩ := bs e
      refine V_iastore (q := 99) X (TB.get tb_X9_explores 58 rfl) rfl eh13 ?_
      refine V_aload_n (q := 100) X (TB.get tb_X9_explores 59 rfl) rfl rfl rfl ?_
      obtain ⟨x14, ex14, e⟩ := bs e
      refine V_getR (q := 103) X (TB.get tb_X9_explores 60 rfl) rfl lf_RX9_91 ex14 ?_
      refine V_iload_n (q := 104) X (TB.get tb_X9_explores 61 rfl) rfl rfl rfl ?_
      obtain ⟨x15, ex15, e⟩ := bs e
      refine V_iaload (q := 105) X (TB.get tb_X9_explores 62 rfl) rfl ex15 ?_
      refine V_if_le (q := 108) (t := 109) X (TB.get tb_X9_explores 63 rfl) rfl rfl (fun hc => ?_) (fun hc => ?_)
      · have e := (if_pos hc).symm.trans e
        refine V_aload_n (q := 110) X (TB.get tb_X9_explores 65 rfl) rfl rfl rfl ?_
        refine V_aload_n (q := 111) X (TB.get tb_X9_explores 66 rfl) rfl rfl rfl ?_
        refine V_iload_n (q := 112) X (TB.get tb_X9_explores 67 rfl) rfl rfl rfl ?_
        obtain ⟨x16, ex16, e⟩ := bs e
        refine V_callV (q := 115) (As := [.int p3.1]) (rest := [.ref a0]) (st' := [.int x16, .ref a0]) X (TB.get tb_X9_explores 68 rfl) rfl cv_RX9_319 (ok_X9_byYes fu a0 p3.1 h13 x16 ex16).1 (ok_X9_byYes fu a0 p3.1 h13 x16 ex16).2 (Nat.le_of_ble_eq_true rfl) rfl rfl (Nat.le_of_ble_eq_true rfl) rfl ?_
        refine V_iload_n (q := 116) X (TB.get tb_X9_explores 69 rfl) rfl rfl rfl ?_
        obtain ⟨h17, eh17, e⟩ := bs e
        refine V_callV (q := 119) (As := [.int x16, .int a1]) (rest := []) (st' := []) X (TB.get tb_X9_explores 70 rfl) rfl cv_RX9_431 (ok_X9_adds fu a0 x16 a1 h13 h17 eh17).1 (ok_X9_adds fu a0 x16 a1 h13 h17 eh17).2 (Nat.le_of_ble_eq_true rfl) rfl rfl (Nat.le_of_ble_eq_true rfl) rfl ?_
        refine V_iload_n (q := 120) X (TB.get tb_X9_explores 71 rfl) rfl rfl rfl ?_
        obtain ⟨x18, ex18, e⟩ := bs e
        refine V_callS (q := 123) (As := [.int x10]) (rest := []) (st' := [.int x18]) X (TB.get tb_X9_explores 72 rfl) rfl cs_RX9_219 (ok_X9_isAsked x10 h17 x18 ex18) (Nat.le_of_ble_eq_true rfl) rfl rfl (Nat.le_of_ble_eq_true rfl) rfl ?_
        refine V_if_ne (q := 126) (t := 127) X (TB.get tb_X9_explores 73 rfl) rfl rfl (fun hc => ?_) (fun hc => ?_)
        · have e := (if_neg hc).symm.trans e
          refine V_aload_n (q := 128) X (TB.get tb_X9_explores 75 rfl) rfl rfl rfl ?_
          refine V_aload_n (q := 129) X (TB.get tb_X9_explores 76 rfl) rfl rfl rfl ?_
          obtain ⟨x19, ex19, e⟩ := bs e
          refine V_getR (q := 132) X (TB.get tb_X9_explores 77 rfl) rfl lf_RX9_85 ex19 ?_
          refine V_iload_n (q := 133) X (TB.get tb_X9_explores 78 rfl) rfl rfl rfl ?_
          obtain ⟨x20, ex20, e⟩ := bs e
          refine V_laload (q := 134) X (TB.get tb_X9_explores 79 rfl) rfl ex20 ?_
          obtain ⟨p21, ep21, e⟩ := bs e
          refine V_callV (q := 137) (As := [.long x20]) (rest := []) (st' := [.int p21.1]) X (TB.get tb_X9_explores 80 rfl) rfl cv_RX9_415 (ok_X9_lays fu a0 x20 h17 p21 ep21).1 (ok_X9_lays fu a0 x20 h17 p21 ep21).2 (Nat.le_of_ble_eq_true rfl) rfl rfl (Nat.le_of_ble_eq_true rfl) rfl ?_
          refine V_istore_n (q := 138) (lv' := [(2, .int p21.1), (3, .int x10), (0, .ref a0), (1, .int a1)]) X (TB.get tb_X9_explores 81 rfl) rfl rfl (Nat.le_of_ble_eq_true rfl) rfl ?_
          refine V_aload_n (q := 139) X (TB.get tb_X9_explores 82 rfl) rfl rfl rfl ?_
          refine V_iload_n (q := 140) X (TB.get tb_X9_explores 83 rfl) rfl rfl rfl ?_
          refine V_iconst (v := 0) (q := 141) X (TB.get tb_X9_explores 84 rfl) c_iconst_0 rfl ?_
          refine V_bipush (v := 7) (q := 143) X (TB.get tb_X9_explores 85 rfl) c_bipush_7 rfl ?_
          obtain ⟨p22, ep22, e⟩ := bs e
          refine V_callV (q := 146) (As := [.int p21.1, .int (0 : Int32), .int (7 : Int32)]) (rest := []) (st' := [.int p22.1]) X (TB.get tb_X9_explores 86 rfl) rfl cv_RX9_435 (ok_X9_does fu a0 p21.1 (0 : Int32) (7 : Int32) p21.2 p22 ep22).1 (ok_X9_does fu a0 p21.1 (0 : Int32) (7 : Int32) p21.2 p22 ep22).2 (Nat.le_of_ble_eq_true rfl) rfl rfl (Nat.le_of_ble_eq_true rfl) rfl ?_
          refine V_istore (q := 148) (lv' := [(4, .int p22.1), (2, .int p21.1), (3, .int x10), (0, .ref a0), (1, .int a1)]) X (TB.get tb_X9_explores 87 rfl) rfl (Nat.le_of_ble_eq_true rfl) rfl ?_
          refine V_aload_n (q := 149) X (TB.get tb_X9_explores 88 rfl) rfl rfl rfl ?_
          refine V_aload_n (q := 150) X (TB.get tb_X9_explores 89 rfl) rfl rfl rfl ?_
          refine V_iload_n (q := 151) X (TB.get tb_X9_explores 90 rfl) rfl rfl rfl ?_
          obtain ⟨x23, ex23, e⟩ := bs e
          refine V_callV (q := 154) (As := [.int p21.1]) (rest := [.ref a0]) (st' := [.int x23, .ref a0]) X (TB.get tb_X9_explores 91 rfl) rfl cv_RX9_322 (ok_X9_byNo fu a0 p21.1 p22.2 x23 ex23).1 (ok_X9_byNo fu a0 p21.1 p22.2 x23 ex23).2 (Nat.le_of_ble_eq_true rfl) rfl rfl (Nat.le_of_ble_eq_true rfl) rfl ?_
          refine V_iload_n (q := 155) X (TB.get tb_X9_explores 92 rfl) rfl rfl rfl ?_
          obtain ⟨h24, eh24, e⟩ := bs e
          refine V_callV (q := 158) (As := [.int x23, .int a1]) (rest := []) (st' := []) X (TB.get tb_X9_explores 93 rfl) rfl cv_RX9_431 (ok_X9_adds fu a0 x23 a1 p22.2 h24 eh24).1 (ok_X9_adds fu a0 x23 a1 p22.2 h24 eh24).2 (Nat.le_of_ble_eq_true rfl) rfl rfl (Nat.le_of_ble_eq_true rfl) rfl ?_
          cases e
          exact V_vret X hr hlk (TB.get tb_X9_explores 94 rfl)
        · have e := (if_pos hc).symm.trans e
          cases e
          exact V_vret X hr hlk (TB.get tb_X9_explores 74 rfl)
      · have e := (if_neg hc).symm.trans e
        cases e
        exact V_vret X hr hlk (TB.get tb_X9_explores 64 rfl)
    · have e := (if_neg hc).symm.trans e
      refine V_aload_n (q := 65) X (TB.get tb_X9_explores 37 rfl) rfl rfl rfl ?_
      refine V_aload_n (q := 66) X (TB.get tb_X9_explores 38 rfl) rfl rfl rfl ?_
      refine V_iload_n (q := 67) X (TB.get tb_X9_explores 39 rfl) rfl rfl rfl ?_
      obtain ⟨x25, ex25, e⟩ := bs e
      refine V_callV (q := 70) (As := [.int p3.1]) (rest := [.ref a0]) (st' := [.int x25, .ref a0]) X (TB.get tb_X9_explores 40 rfl) rfl cv_RX9_319 (ok_X9_byYes fu a0 p3.1 h8 x25 ex25).1 (ok_X9_byYes fu a0 p3.1 h8 x25 ex25).2 (Nat.le_of_ble_eq_true rfl) rfl rfl (Nat.le_of_ble_eq_true rfl) rfl ?_
      refine V_iload_n (q := 71) X (TB.get tb_X9_explores 41 rfl) rfl rfl rfl ?_
      obtain ⟨h26, eh26, e⟩ := bs e
      refine V_callV (q := 74) (As := [.int x25, .int a1]) (rest := []) (st' := []) X (TB.get tb_X9_explores 42 rfl) rfl cv_RX9_431 (ok_X9_adds fu a0 x25 a1 h8 h26 eh26).1 (ok_X9_adds fu a0 x25 a1 h8 h26 eh26).2 (Nat.le_of_ble_eq_true rfl) rfl rfl (Nat.le_of_ble_eq_true rfl) rfl ?_
      refine V_aload_n (q := 75) X (TB.get tb_X9_explores 43 rfl) rfl rfl rfl ?_
      refine V_aload_n (q := 76) X (TB.get tb_X9_explores 44 rfl) rfl rfl rfl ?_
      refine V_iload_n (q := 77) X (TB.get tb_X9_explores 45 rfl) rfl rfl rfl ?_
      obtain ⟨x27, ex27, e⟩ := bs e
      refine V_callV (q := 80) (As := [.int p3.1]) (rest := [.ref a0]) (st' := [.int x27, .ref a0]) X (TB.get tb_X9_explores 46 rfl) rfl cv_RX9_322 (ok_X9_byNo fu a0 p3.1 h26 x27 ex27).1 (ok_X9_byNo fu a0 p3.1 h26 x27 ex27).2 (Nat.le_of_ble_eq_true rfl) rfl rfl (Nat.le_of_ble_eq_true rfl) rfl ?_
      refine V_iload_n (q := 81) X (TB.get tb_X9_explores 47 rfl) rfl rfl rfl ?_
      obtain ⟨h28, eh28, e⟩ := bs e
      refine V_callV (q := 84) (As := [.int x27, .int a1]) (rest := []) (st' := []) X (TB.get tb_X9_explores 48 rfl) rfl cv_RX9_431 (ok_X9_adds fu a0 x27 a1 h26 h28 eh28).1 (ok_X9_adds fu a0 x27 a1 h26 h28 eh28).2 (Nat.le_of_ble_eq_true rfl) rfl rfl (Nat.le_of_ble_eq_true rfl) rfl ?_
      cases e
      exact V_vret X hr hlk (TB.get tb_X9_explores 49 rfl)
  · have e := (if_pos hc).symm.trans e
    refine V_aload_n (q := 42) X (TB.get tb_X9_explores 23 rfl) rfl rfl rfl ?_
    obtain ⟨x29, ex29, e⟩ := bs e
    refine V_getR (q := 45) X (TB.get tb_X9_explores 24 rfl) rfl lf_RX9_91 ex29 ?_
    refine V_iload_n (q := 46) X (TB.get tb_X9_explores 25 rfl) rfl rfl rfl ?_
    refine V_aload_n (q := 47) X (TB.get tb_X9_explores 26 rfl) rfl rfl rfl ?_
    obtain ⟨p30, ep30, e⟩ := bs e
    refine V_callV (q := 50) (As := []) (rest := [.int a1, .ref x29]) (st' := [.int p30.1, .int a1, .ref x29]) X (TB.get tb_X9_explores 27 rfl) rfl cv_RX9_428 (ok_X9_finishes fu a0 h8 p30 ep30).1 (ok_X9_finishes fu a0 h8 p30 ep30).2 (Nat.le_of_ble_eq_true rfl) rfl rfl (Nat.le_of_ble_eq_true rfl) rfl ?_
    obtain ⟨h31, eh31, e⟩ := bs e
    refine V_iastore (q := 51) X (TB.get tb_X9_explores 28 rfl) rfl eh31 ?_
    cases e
    exact V_vret X hr hlk (TB.get tb_X9_explores 29 rfl)
set_option maxRecDepth 100000 in
set_option maxHeartbeats 4000000 in
theorem ok_X9_laysPaths (fu : Nat) (a0 : Nat) (h : Hp) (res : Hp) (e : MX9_laysPaths fu a0 h = some res) : CK yX9_laysPaths cX9_laysPaths 2 none 13 [.ref a0] h none res ∧ (h.1 a0).1 = 9 := by
  obtain ⟨hcl, e⟩ := h_g_inv e
  refine ⟨CK_of pn_RX9 cm_X9_laysPaths (Nat.le_of_ble_eq_true rfl) ?_, hcl⟩
  intro l D tc B nn p en s m args below meth c X hr hlk
  replace X : CX p (rmD 13) s m args c cX9_laysPaths 2 RX9 D tc 13 := X
  show V p l en (rmD 13) s m args below meth c 2 D tc B nn (Ar B nn) s.heap 0 0 (MQ below (QC D tc B nn (Ar B nn) none res) args s 0 0 (Ar B nn)) h 0 [(0, .ref a0)] []
  refine V_aload_n (q := 1) X (TB.get tb_X9_laysPaths 0 rfl) rfl rfl rfl ?_
  obtain ⟨h1, eh1, e⟩ := bs e
  refine V_callV (q := 4) (As := []) (rest := []) (st' := []) X (TB.get tb_X9_laysPaths 1 rfl) rfl cv_RX9_316 (ok_X9_allIn fu a0 h h1 eh1).1 (ok_X9_allIn fu a0 h h1 eh1).2 (Nat.le_of_ble_eq_true rfl) rfl rfl (Nat.le_of_ble_eq_true rfl) rfl ?_
  refine V_iconst (v := 0) (q := 5) X (TB.get tb_X9_laysPaths 2 rfl) c_iconst_0 rfl ?_
  refine V_istore_n (q := 6) (lv' := [(1, .int (0 : Int32)), (0, .ref a0)]) X (TB.get tb_X9_laysPaths 3 rfl) rfl rfl (Nat.le_of_ble_eq_true rfl) rfl ?_
  refine jn_elim (P := (fun (k : Hp → Option (Hp)) => ∀ (h2 : Hp), k h2 = some res → V p l en (rmD 13) s m args below meth c 2 D tc B nn (Ar B nn) s.heap 0 0 (MQ below (QC D tc B nn (Ar B nn) none res) args s 0 0 (Ar B nn)) h2 24 [(0, .ref a0)] [])) e ?_ (fun j3 Jj3 e => ?_)
  · intro h2 e
    refine V_aload_n (q := 25) X (TB.get tb_X9_laysPaths 14 rfl) rfl rfl rfl ?_
    refine V_iconst (v := 0) (q := 26) X (TB.get tb_X9_laysPaths 15 rfl) c_iconst_0 rfl ?_
    obtain ⟨h4, eh4, e⟩ := bs e
    refine V_putI (q := 29) X (TB.get tb_X9_laysPaths 16 rfl) rfl lq_RX9_409 eh4 ?_
    refine V_aload_n (q := 30) X (TB.get tb_X9_laysPaths 17 rfl) rfl rfl rfl ?_
    refine V_iconst (v := 0) (q := 31) X (TB.get tb_X9_laysPaths 18 rfl) c_iconst_0 rfl ?_
    obtain ⟨h5, eh5, e⟩ := bs e
    refine V_putI (q := 34) X (TB.get tb_X9_laysPaths 19 rfl) rfl lq_RX9_419 eh5 ?_
    refine V_aload_n (q := 35) X (TB.get tb_X9_laysPaths 20 rfl) rfl rfl rfl ?_
    refine V_iconst (v := 0) (q := 36) X (TB.get tb_X9_laysPaths 21 rfl) c_iconst_0 rfl ?_
    obtain ⟨h6, eh6, e⟩ := bs e
    refine V_putZ (q := 39) X (TB.get tb_X9_laysPaths 22 rfl) rfl lq_RX9_412 eh6 ?_
    refine V_aload_n (q := 40) X (TB.get tb_X9_laysPaths 23 rfl) rfl rfl rfl ?_
    obtain ⟨h7, eh7, e⟩ := bs e
    refine V_callV (q := 43) (As := []) (rest := []) (st' := []) X (TB.get tb_X9_laysPaths 24 rfl) rfl cv_RX9_439 (ok_X9_empty fu a0 h6 h7 eh7).1 (ok_X9_empty fu a0 h6 h7 eh7).2 (Nat.le_of_ble_eq_true rfl) rfl rfl (Nat.le_of_ble_eq_true rfl) rfl ?_
    refine V_aload_n (q := 44) X (TB.get tb_X9_laysPaths 25 rfl) rfl rfl rfl ?_
    refine V_aload_n (q := 45) X (TB.get tb_X9_laysPaths 26 rfl) rfl rfl rfl ?_
    obtain ⟨x8, ex8, e⟩ := bs e
    refine V_callV (q := 48) (As := []) (rest := [.ref a0]) (st' := [.int x8, .ref a0]) X (TB.get tb_X9_laysPaths 27 rfl) rfl cv_RX9_361 (ok_X9_firstPlace fu a0 h7 x8 ex8).1 (ok_X9_firstPlace fu a0 h7 x8 ex8).2 (Nat.le_of_ble_eq_true rfl) rfl rfl (Nat.le_of_ble_eq_true rfl) rfl ?_
    refine V_iconst (v := -1) (q := 49) X (TB.get tb_X9_laysPaths 28 rfl) c_iconst_m1 rfl ?_
    obtain ⟨h9, eh9, e⟩ := bs e
    refine V_callV (q := 52) (As := [.int x8, .int (-1 : Int32)]) (rest := []) (st' := []) X (TB.get tb_X9_laysPaths 29 rfl) rfl cv_RX9_431 (ok_X9_adds fu a0 x8 (-1 : Int32) h7 h9 eh9).1 (ok_X9_adds fu a0 x8 (-1 : Int32) h7 h9 eh9).2 (Nat.le_of_ble_eq_true rfl) rfl rfl (Nat.le_of_ble_eq_true rfl) rfl ?_
    refine V_iconst (v := 0) (q := 53) X (TB.get tb_X9_laysPaths 30 rfl) c_iconst_0 rfl ?_
    refine V_istore_n (q := 54) (lv' := [(1, .int (0 : Int32)), (0, .ref a0)]) X (TB.get tb_X9_laysPaths 31 rfl) rfl rfl (Nat.le_of_ble_eq_true rfl) rfl ?_
    refine V_sub (lv' := [(0, .ref a0), (1, .int (0 : Int32))]) [1, 0] rfl ?_
    refine wh2_elim (P := fun v10 h11 => V p l en (rmD 13) s m args below meth c 2 D tc B nn (Ar B nn) s.heap 0 0 (MQ below (QC D tc B nn (Ar B nn) none res) args s 0 0 (Ar B nn)) h11 54 [(0, .ref a0), (1, .int v10)] []) (f := fu) ?_ e
    intro self12 v10 h11 ihself12 e
    unfold MX9_laysPaths_B54 at e
    refine V_iload_n (q := 55) X (TB.get tb_X9_laysPaths 32 rfl) rfl rfl rfl ?_
    refine V_aload_n (q := 56) X (TB.get tb_X9_laysPaths 33 rfl) rfl rfl rfl ?_
    obtain ⟨x13, ex13, e⟩ := bs e
    refine V_getI (q := 59) X (TB.get tb_X9_laysPaths 34 rfl) rfl lf_RX9_409 ex13 ?_
    refine V_icmp_ge (q := 62) (t := 80) X (TB.get tb_X9_laysPaths 35 rfl) rfl rfl (fun hc => ?_) (fun hc => ?_)
    · have e := (if_pos hc).symm.trans e
      cases e
      exact V_vret X hr hlk (TB.get tb_X9_laysPaths 44 rfl)
    · have e := (if_neg hc).symm.trans e
      refine V_aload_n (q := 63) X (TB.get tb_X9_laysPaths 36 rfl) rfl rfl rfl ?_
      obtain ⟨x14, ex14, e⟩ := bs e
      refine V_getI (q := 66) X (TB.get tb_X9_laysPaths 37 rfl) rfl lf_RX9_412 ex14 ?_
      refine V_if_ne (q := 69) (t := 80) X (TB.get tb_X9_laysPaths 38 rfl) rfl rfl (fun hc => ?_) (fun hc => ?_)
      · have e := (if_neg hc).symm.trans e
        cases e
        exact V_vret X hr hlk (TB.get tb_X9_laysPaths 44 rfl)
      · have e := (if_pos hc).symm.trans e
        refine V_aload_n (q := 70) X (TB.get tb_X9_laysPaths 39 rfl) rfl rfl rfl ?_
        refine V_iload_n (q := 71) X (TB.get tb_X9_laysPaths 40 rfl) rfl rfl rfl ?_
        obtain ⟨h15, eh15, e⟩ := bs e
        refine V_callV (q := 74) (As := [.int v10]) (rest := []) (st' := []) X (TB.get tb_X9_laysPaths 41 rfl) rfl cv_RX9_442 (ok_X9_explores fu a0 v10 h11 h15 eh15).1 (ok_X9_explores fu a0 v10 h11 h15 eh15).2 (Nat.le_of_ble_eq_true rfl) rfl rfl (Nat.le_of_ble_eq_true rfl) rfl ?_
        refine V_iinc (q := 77) (v := v10 + (1 : Int32)) (lv' := [(1, .int (v10 + (1 : Int32))), (0, .ref a0)]) X (TB.get tb_X9_laysPaths 42 rfl) rfl rfl (by rw [c_iconst_1]) (Nat.le_of_ble_eq_true rfl) rfl ?_
        refine V_goto (q := 54) X (TB.get tb_X9_laysPaths 43 rfl) rfl ?_
        refine V_sub (lv' := [(0, .ref a0), (1, .int (v10 + (1 : Int32)))]) [1, 0] rfl ?_
        exact ihself12 _ _ e
  refine V_sub (lv' := [(0, .ref a0), (1, .int (0 : Int32))]) [1, 0] rfl ?_
  refine wh2_elim (P := fun v16 h17 => V p l en (rmD 13) s m args below meth c 2 D tc B nn (Ar B nn) s.heap 0 0 (MQ below (QC D tc B nn (Ar B nn) none res) args s 0 0 (Ar B nn)) h17 6 [(0, .ref a0), (1, .int v16)] []) (f := fu) ?_ e
  intro self18 v16 h17 ihself18 e
  unfold MX9_laysPaths_B6 at e
  refine V_iload_n (q := 7) X (TB.get tb_X9_laysPaths 4 rfl) rfl rfl rfl ?_
  refine V_iconst (v := 4) (q := 8) X (TB.get tb_X9_laysPaths 5 rfl) c_iconst_4 rfl ?_
  refine V_icmp_ge (q := 11) (t := 24) X (TB.get tb_X9_laysPaths 6 rfl) rfl rfl (fun hc => ?_) (fun hc => ?_)
  · have e := (if_pos hc).symm.trans e
    refine V_sub (lv' := [(0, .ref a0)]) [0] rfl ?_
    exact Jj3 _ e
  · have e := (if_neg hc).symm.trans e
    refine V_aload_n (q := 12) X (TB.get tb_X9_laysPaths 7 rfl) rfl rfl rfl ?_
    obtain ⟨x19, ex19, e⟩ := bs e
    refine V_getR (q := 15) X (TB.get tb_X9_laysPaths 8 rfl) rfl lf_RX9_82 ex19 ?_
    refine V_iload_n (q := 16) X (TB.get tb_X9_laysPaths 9 rfl) rfl rfl rfl ?_
    refine V_iconst (v := 0) (q := 17) X (TB.get tb_X9_laysPaths 10 rfl) c_iconst_0 rfl ?_
    obtain ⟨h20, eh20, e⟩ := bs e
    refine V_iastore (q := 18) X (TB.get tb_X9_laysPaths 11 rfl) rfl eh20 ?_
    refine V_iinc (q := 21) (v := v16 + (1 : Int32)) (lv' := [(1, .int (v16 + (1 : Int32))), (0, .ref a0)]) X (TB.get tb_X9_laysPaths 12 rfl) rfl rfl (by rw [c_iconst_1]) (Nat.le_of_ble_eq_true rfl) rfl ?_
    refine V_goto (q := 6) X (TB.get tb_X9_laysPaths 13 rfl) rfl ?_
    refine V_sub (lv' := [(0, .ref a0), (1, .int (v16 + (1 : Int32)))]) [1, 0] rfl ?_
    exact ihself18 _ _ e
set_option maxRecDepth 100000 in
set_option maxHeartbeats 4000000 in
theorem ok_X9_firstWrong (fu : Nat) (a0 : Nat) (h : Hp) (res : Int32) (e : MX9_firstWrong fu a0 h = some res) : CK yX9_firstWrong cX9_firstWrong 2 (some .int) 0 [.ref a0] h (some (.int res)) h ∧ (h.1 a0).1 = 9 := by
  obtain ⟨hcl, e⟩ := h_g_inv e
  refine ⟨CK_of pn_RX9 cm_X9_firstWrong (Nat.le_of_ble_eq_true rfl) ?_, hcl⟩
  intro l D tc B nn p en s m args below meth c X hr hlk
  replace X : CX p (rmD 0) s m args c cX9_firstWrong 2 RX9 D tc 0 := X
  show V p l en (rmD 0) s m args below meth c 2 D tc B nn (Ar B nn) s.heap 0 0 (MQ below (QC D tc B nn (Ar B nn) (some (.int res)) h) args s 0 0 (Ar B nn)) h 0 [(0, .ref a0)] []
  refine V_iconst (v := 0) (q := 1) X (TB.get tb_X9_firstWrong 0 rfl) c_iconst_0 rfl ?_
  refine V_istore_n (q := 2) (lv' := [(1, .int (0 : Int32)), (0, .ref a0)]) X (TB.get tb_X9_firstWrong 1 rfl) rfl rfl (Nat.le_of_ble_eq_true rfl) rfl ?_
  refine V_sub (lv' := [(0, .ref a0), (1, .int (0 : Int32))]) [1, 0] rfl ?_
  refine wh1_elim (P := fun v1 => V p l en (rmD 0) s m args below meth c 2 D tc B nn (Ar B nn) s.heap 0 0 (MQ below (QC D tc B nn (Ar B nn) (some (.int res)) h) args s 0 0 (Ar B nn)) h 2 [(0, .ref a0), (1, .int v1)] []) (f := fu) ?_ e
  intro self2 v1 ihself2 e
  unfold MX9_firstWrong_B2 at e
  refine V_iload_n (q := 3) X (TB.get tb_X9_firstWrong 2 rfl) rfl rfl rfl ?_
  refine V_aload_n (q := 4) X (TB.get tb_X9_firstWrong 3 rfl) rfl rfl rfl ?_
  obtain ⟨x3, ex3, e⟩ := bs e
  refine V_getI (q := 7) X (TB.get tb_X9_firstWrong 4 rfl) rfl lf_RX9_409 ex3 ?_
  refine V_icmp_ge (q := 10) (t := 27) X (TB.get tb_X9_firstWrong 5 rfl) rfl rfl (fun hc => ?_) (fun hc => ?_)
  · have e := (if_pos hc).symm.trans e
    refine V_iconst (v := -1) (q := 28) X (TB.get tb_X9_firstWrong 15 rfl) c_iconst_m1 rfl ?_
    cases e
    exact V_iret X hr hlk (TB.get tb_X9_firstWrong 16 rfl)
  · have e := (if_neg hc).symm.trans e
    refine V_aload_n (q := 11) X (TB.get tb_X9_firstWrong 6 rfl) rfl rfl rfl ?_
    obtain ⟨x4, ex4, e⟩ := bs e
    refine V_getR (q := 14) X (TB.get tb_X9_firstWrong 7 rfl) rfl lf_RX9_91 ex4 ?_
    refine V_iload_n (q := 15) X (TB.get tb_X9_firstWrong 8 rfl) rfl rfl rfl ?_
    obtain ⟨x5, ex5, e⟩ := bs e
    refine V_iaload (q := 16) X (TB.get tb_X9_firstWrong 9 rfl) rfl ex5 ?_
    refine V_if_le (q := 19) (t := 21) X (TB.get tb_X9_firstWrong 10 rfl) rfl rfl (fun hc => ?_) (fun hc => ?_)
    · have e := (if_pos hc).symm.trans e
      refine V_iinc (q := 24) (v := v1 + (1 : Int32)) (lv' := [(1, .int (v1 + (1 : Int32))), (0, .ref a0)]) X (TB.get tb_X9_firstWrong 13 rfl) rfl rfl (by rw [c_iconst_1]) (Nat.le_of_ble_eq_true rfl) rfl ?_
      refine V_goto (q := 2) X (TB.get tb_X9_firstWrong 14 rfl) rfl ?_
      refine V_sub (lv' := [(0, .ref a0), (1, .int (v1 + (1 : Int32)))]) [1, 0] rfl ?_
      exact ihself2 _ e
    · have e := (if_neg hc).symm.trans e
      refine V_iload_n (q := 20) X (TB.get tb_X9_firstWrong 11 rfl) rfl rfl rfl ?_
      cases e
      exact V_iret X hr hlk (TB.get tb_X9_firstWrong 12 rfl)
set_option maxRecDepth 100000 in
set_option maxHeartbeats 4000000 in
theorem ok_X9_stepsTo (fu : Nat) (a0 : Nat) (a1 : Int32) (h : Hp) (res : Int32) (e : MX9_stepsTo fu a0 a1 h = some res) : CK yX9_stepsTo cX9_stepsTo 4 (some .int) 0 [.ref a0, .int a1] h (some (.int res)) h ∧ (h.1 a0).1 = 9 := by
  obtain ⟨hcl, e⟩ := h_g_inv e
  refine ⟨CK_of pn_RX9 cm_X9_stepsTo (Nat.le_of_ble_eq_true rfl) ?_, hcl⟩
  intro l D tc B nn p en s m args below meth c X hr hlk
  replace X : CX p (rmD 0) s m args c cX9_stepsTo 4 RX9 D tc 0 := X
  show V p l en (rmD 0) s m args below meth c 4 D tc B nn (Ar B nn) s.heap 0 0 (MQ below (QC D tc B nn (Ar B nn) (some (.int res)) h) args s 0 0 (Ar B nn)) h 0 [(0, .ref a0), (1, .int a1)] []
  refine V_iconst (v := 0) (q := 1) X (TB.get tb_X9_stepsTo 0 rfl) c_iconst_0 rfl ?_
  refine V_istore_n (q := 2) (lv' := [(2, .int (0 : Int32)), (0, .ref a0), (1, .int a1)]) X (TB.get tb_X9_stepsTo 1 rfl) rfl rfl (Nat.le_of_ble_eq_true rfl) rfl ?_
  refine V_iload_n (q := 3) X (TB.get tb_X9_stepsTo 2 rfl) rfl rfl rfl ?_
  refine V_istore_n (q := 4) (lv' := [(3, .int a1), (2, .int (0 : Int32)), (0, .ref a0), (1, .int a1)]) X (TB.get tb_X9_stepsTo 3 rfl) rfl rfl (Nat.le_of_ble_eq_true rfl) rfl ?_
  refine V_sub (lv' := [(0, .ref a0), (2, .int (0 : Int32)), (3, .int a1)]) [2, 1, 0] rfl ?_
  refine wh2_elim (P := fun v1 v2 => V p l en (rmD 0) s m args below meth c 4 D tc B nn (Ar B nn) s.heap 0 0 (MQ below (QC D tc B nn (Ar B nn) (some (.int res)) h) args s 0 0 (Ar B nn)) h 4 [(0, .ref a0), (2, .int v1), (3, .int v2)] []) (f := fu) ?_ e
  intro self3 v1 v2 ihself3 e
  unfold MX9_stepsTo_B4 at e
  refine V_iload_n (q := 5) X (TB.get tb_X9_stepsTo 4 rfl) rfl rfl rfl ?_
  refine V_iconst (v := -1) (q := 6) X (TB.get tb_X9_stepsTo 5 rfl) c_iconst_m1 rfl ?_
  refine V_icmp_eq (q := 9) (t := 22) X (TB.get tb_X9_stepsTo 6 rfl) rfl rfl (fun hc => ?_) (fun hc => ?_)
  · have e := (if_pos hc).symm.trans e
    refine V_iload_n (q := 23) X (TB.get tb_X9_stepsTo 14 rfl) rfl rfl rfl ?_
    cases e
    exact V_iret X hr hlk (TB.get tb_X9_stepsTo 15 rfl)
  · have e := (if_neg hc).symm.trans e
    refine V_iinc (q := 12) (v := v1 + (1 : Int32)) (lv' := [(2, .int (v1 + (1 : Int32))), (0, .ref a0), (3, .int v2)]) X (TB.get tb_X9_stepsTo 7 rfl) rfl rfl (by rw [c_iconst_1]) (Nat.le_of_ble_eq_true rfl) rfl ?_
    refine V_aload_n (q := 13) X (TB.get tb_X9_stepsTo 8 rfl) rfl rfl rfl ?_
    obtain ⟨x4, ex4, e⟩ := bs e
    refine V_getR (q := 16) X (TB.get tb_X9_stepsTo 9 rfl) rfl lf_RX9_88 ex4 ?_
    refine V_iload_n (q := 17) X (TB.get tb_X9_stepsTo 10 rfl) rfl rfl rfl ?_
    obtain ⟨x5, ex5, e⟩ := bs e
    refine V_iaload (q := 18) X (TB.get tb_X9_stepsTo 11 rfl) rfl ex5 ?_
    refine V_istore_n (q := 19) (lv' := [(3, .int x5), (2, .int (v1 + (1 : Int32))), (0, .ref a0)]) X (TB.get tb_X9_stepsTo 12 rfl) rfl rfl (Nat.le_of_ble_eq_true rfl) rfl ?_
    refine V_goto (q := 4) X (TB.get tb_X9_stepsTo 13 rfl) rfl ?_
    refine V_sub (lv' := [(0, .ref a0), (2, .int (v1 + (1 : Int32))), (3, .int x5)]) [2, 1, 0] rfl ?_
    exact ihself3 _ _ e
set_option maxRecDepth 100000 in
set_option maxHeartbeats 4000000 in
theorem ok_X9_placeOf (a0 : Nat) (a1 : Int32) (h : Hp) (res : Int32) (e : MX9_placeOf a0 a1 h = some res) : CK yX9_placeOf cX9_placeOf 2 (some .int) 0 [.ref a0, .int a1] h (some (.int res)) h ∧ (h.1 a0).1 = 9 := by
  obtain ⟨hcl, e⟩ := h_g_inv e
  refine ⟨CK_of pn_RX9 cm_X9_placeOf (Nat.le_of_ble_eq_true rfl) ?_, hcl⟩
  intro l D tc B nn p en s m args below meth c X hr hlk
  replace X : CX p (rmD 0) s m args c cX9_placeOf 2 RX9 D tc 0 := X
  show V p l en (rmD 0) s m args below meth c 2 D tc B nn (Ar B nn) s.heap 0 0 (MQ below (QC D tc B nn (Ar B nn) (some (.int res)) h) args s 0 0 (Ar B nn)) h 0 [(0, .ref a0), (1, .int a1)] []
  refine V_aload_n (q := 1) X (TB.get tb_X9_placeOf 0 rfl) rfl rfl rfl ?_
  obtain ⟨x1, ex1, e⟩ := bs e
  refine V_getR (q := 4) X (TB.get tb_X9_placeOf 1 rfl) rfl lf_RX9_85 ex1 ?_
  refine V_iload_n (q := 5) X (TB.get tb_X9_placeOf 2 rfl) rfl rfl rfl ?_
  obtain ⟨x2, ex2, e⟩ := bs e
  refine V_laload (q := 6) X (TB.get tb_X9_placeOf 3 rfl) rfl ex2 ?_
  refine V_bipush (v := 48) (q := 8) X (TB.get tb_X9_placeOf 4 rfl) c_bipush_48 rfl ?_
  refine V_lshr (q := 9) X (TB.get tb_X9_placeOf 5 rfl) rfl ?_
  refine V_l2i (q := 10) X (TB.get tb_X9_placeOf 6 rfl) rfl ?_
  cases e
  exact V_iret X hr hlk (TB.get tb_X9_placeOf 7 rfl)
set_option maxRecDepth 100000 in
set_option maxHeartbeats 4000000 in
theorem ok_X9_paths (fu : Nat) (a0 : Nat) (a1 : Int32) (h : Hp) (res : Int32 × Hp) (e : MX9_paths fu a0 a1 h = some res) : CK yX9_paths cX9_paths 6 (some .int) 15 [.ref a0, .int a1] h (some (.int res.1)) res.2 ∧ (h.1 a0).1 = 9 := by
  obtain ⟨hcl, e⟩ := h_g_inv e
  refine ⟨CK_of pn_RX9 cm_X9_paths (Nat.le_of_ble_eq_true rfl) ?_, hcl⟩
  intro l D tc B nn p en s m args below meth c X hr hlk
  replace X : CX p (rmD 15) s m args c cX9_paths 6 RX9 D tc 15 := X
  show V p l en (rmD 15) s m args below meth c 6 D tc B nn (Ar B nn) s.heap 0 0 (MQ below (QC D tc B nn (Ar B nn) (some (.int res.1)) res.2) args s 0 0 (Ar B nn)) h 0 [(0, .ref a0), (1, .int a1)] []
  refine V_iload_n (q := 1) X (TB.get tb_X9_paths 0 rfl) rfl rfl rfl ?_
  refine V_iconst (v := 0) (q := 2) X (TB.get tb_X9_paths 1 rfl) c_iconst_0 rfl ?_
  refine V_bipush (v := 6) (q := 4) X (TB.get tb_X9_paths 2 rfl) c_bipush_6 rfl ?_
  obtain ⟨x1, ex1, e⟩ := bs e
  refine V_callS (q := 7) (As := [.int a1, .int (0 : Int32), .int (6 : Int32)]) (rest := []) (st' := [.int x1]) X (TB.get tb_X9_paths 3 rfl) rfl cs_RX9_239 (ok_X9_isFrom a1 (0 : Int32) (6 : Int32) h x1 ex1) (Nat.le_of_ble_eq_true rfl) rfl rfl (Nat.le_of_ble_eq_true rfl) rfl ?_
  refine V_if_ne (q := 10) (t := 16) X (TB.get tb_X9_paths 4 rfl) rfl rfl (fun hc => ?_) (fun hc => ?_)
  · have e := (if_neg hc).symm.trans e
    refine V_aload_n (q := 17) X (TB.get tb_X9_paths 9 rfl) rfl rfl rfl ?_
    obtain ⟨h2, eh2, e⟩ := bs e
    refine V_callV (q := 20) (As := []) (rest := []) (st' := []) X (TB.get tb_X9_paths 10 rfl) rfl cv_RX9_445 (ok_X9_laysPaths fu a0 h h2 eh2).1 (ok_X9_laysPaths fu a0 h h2 eh2).2 (Nat.le_of_ble_eq_true rfl) rfl rfl (Nat.le_of_ble_eq_true rfl) rfl ?_
    refine V_aload_n (q := 21) X (TB.get tb_X9_paths 11 rfl) rfl rfl rfl ?_
    obtain ⟨x3, ex3, e⟩ := bs e
    refine V_getI (q := 24) X (TB.get tb_X9_paths 12 rfl) rfl lf_RX9_412 ex3 ?_
    refine V_if_eq (q := 27) (t := 34) X (TB.get tb_X9_paths 13 rfl) rfl rfl (fun hc => ?_) (fun hc => ?_)
    · have e := (if_pos hc).symm.trans e
      refine V_aload_n (q := 35) X (TB.get tb_X9_paths 18 rfl) rfl rfl rfl ?_
      obtain ⟨x4, ex4, e⟩ := bs e
      refine V_callV (q := 38) (As := []) (rest := []) (st' := [.int x4]) X (TB.get tb_X9_paths 19 rfl) rfl cv_RX9_448 (ok_X9_firstWrong fu a0 h2 x4 ex4).1 (ok_X9_firstWrong fu a0 h2 x4 ex4).2 (Nat.le_of_ble_eq_true rfl) rfl rfl (Nat.le_of_ble_eq_true rfl) rfl ?_
      refine V_istore_n (q := 39) (lv' := [(2, .int x4), (0, .ref a0), (1, .int a1)]) X (TB.get tb_X9_paths 20 rfl) rfl rfl (Nat.le_of_ble_eq_true rfl) rfl ?_
      refine V_iconst (v := 0) (q := 40) X (TB.get tb_X9_paths 21 rfl) c_iconst_0 rfl ?_
      refine V_istore_n (q := 41) (lv' := [(3, .int (0 : Int32)), (2, .int x4), (0, .ref a0), (1, .int a1)]) X (TB.get tb_X9_paths 22 rfl) rfl rfl (Nat.le_of_ble_eq_true rfl) rfl ?_
      refine V_iconst (v := 0) (q := 42) X (TB.get tb_X9_paths 23 rfl) c_iconst_0 rfl ?_
      refine V_istore (q := 44) (lv' := [(4, .int (0 : Int32)), (3, .int (0 : Int32)), (2, .int x4), (0, .ref a0), (1, .int a1)]) X (TB.get tb_X9_paths 24 rfl) rfl (Nat.le_of_ble_eq_true rfl) rfl ?_
      refine V_iconst (v := 0) (q := 45) X (TB.get tb_X9_paths 25 rfl) c_iconst_0 rfl ?_
      refine V_istore (q := 47) (lv' := [(5, .int (0 : Int32)), (4, .int (0 : Int32)), (3, .int (0 : Int32)), (2, .int x4), (0, .ref a0), (1, .int a1)]) X (TB.get tb_X9_paths 26 rfl) rfl (Nat.le_of_ble_eq_true rfl) rfl ?_
      refine jn_elim (P := (fun (k : Int32 → Int32 → Option (Int32 × Hp)) => ∀ (v5 : Int32) (v6 : Int32), k v5 v6 = some res → V p l en (rmD 15) s m args below meth c 6 D tc B nn (Ar B nn) s.heap 0 0 (MQ below (QC D tc B nn (Ar B nn) (some (.int res.1)) res.2) args s 0 0 (Ar B nn)) h2 113 [(0, .ref a0), (1, .int a1), (2, .int x4), (3, .int v5), (4, .int v6)] [])) e ?_ (fun j7 Jj7 e => ?_)
      · intro v5 v6 e
        refine V_iload_n (q := 114) X (TB.get tb_X9_paths 61 rfl) rfl rfl rfl ?_
        by_cases hc0 : a1 = (0 : Int32)
        · have e := (if_pos hc0).symm.trans e
          rw [hc0]
          refine V_tabIn (q := 152) X (TB.get tb_X9_paths 62 rfl) (by decide) (by decide) rfl rfl ?_
          refine V_aload_n (q := 153) X (TB.get tb_X9_paths 63 rfl) rfl rfl rfl ?_
          refine V_aload_n (q := 154) X (TB.get tb_X9_paths 64 rfl) rfl rfl rfl ?_
          obtain ⟨x8, ex8, e⟩ := bs e
          refine V_getI (q := 157) X (TB.get tb_X9_paths 65 rfl) rfl lf_RX9_409 ex8 ?_
          obtain ⟨p9, ep9, e⟩ := bs e
          refine V_callV (q := 160) (As := [.int x8]) (rest := []) (st' := [.int p9.1]) X (TB.get tb_X9_paths 66 rfl) rfl cv_RX9_248 (ok_X9_gives a0 x8 h2 p9 ep9).1 (ok_X9_gives a0 x8 h2 p9 ep9).2 (Nat.le_of_ble_eq_true rfl) rfl rfl (Nat.le_of_ble_eq_true rfl) rfl ?_
          cases e
          exact V_iret X hr hlk (TB.get tb_X9_paths 67 rfl)
        have e := (if_neg hc0).symm.trans e
        by_cases hc1 : a1 = (1 : Int32)
        · have e := (if_pos hc1).symm.trans e
          rw [hc1]
          refine V_tabIn (q := 161) X (TB.get tb_X9_paths 62 rfl) (by decide) (by decide) rfl rfl ?_
          refine V_aload_n (q := 162) X (TB.get tb_X9_paths 68 rfl) rfl rfl rfl ?_
          refine V_iload_n (q := 163) X (TB.get tb_X9_paths 69 rfl) rfl rfl rfl ?_
          obtain ⟨p10, ep10, e⟩ := bs e
          refine V_callV (q := 166) (As := [.int v5]) (rest := []) (st' := [.int p10.1]) X (TB.get tb_X9_paths 70 rfl) rfl cv_RX9_248 (ok_X9_gives a0 v5 h2 p10 ep10).1 (ok_X9_gives a0 v5 h2 p10 ep10).2 (Nat.le_of_ble_eq_true rfl) rfl rfl (Nat.le_of_ble_eq_true rfl) rfl ?_
          cases e
          exact V_iret X hr hlk (TB.get tb_X9_paths 71 rfl)
        have e := (if_neg hc1).symm.trans e
        by_cases hc2 : a1 = (2 : Int32)
        · have e := (if_pos hc2).symm.trans e
          rw [hc2]
          refine V_tabIn (q := 167) X (TB.get tb_X9_paths 62 rfl) (by decide) (by decide) rfl rfl ?_
          refine V_iload_n (q := 168) X (TB.get tb_X9_paths 72 rfl) rfl rfl rfl ?_
          refine V_iconst (v := -1) (q := 169) X (TB.get tb_X9_paths 73 rfl) c_iconst_m1 rfl ?_
          refine V_icmp_ne (q := 172) (t := 180) X (TB.get tb_X9_paths 74 rfl) rfl rfl (fun hc => ?_) (fun hc => ?_)
          · have e := (if_neg hc).symm.trans e
            refine V_aload_n (q := 181) X (TB.get tb_X9_paths 79 rfl) rfl rfl rfl ?_
            refine V_aload_n (q := 182) X (TB.get tb_X9_paths 80 rfl) rfl rfl rfl ?_
            refine V_iload_n (q := 183) X (TB.get tb_X9_paths 81 rfl) rfl rfl rfl ?_
            obtain ⟨x11, ex11, e⟩ := bs e
            refine V_callV (q := 186) (As := [.int x4]) (rest := [.ref a0]) (st' := [.int x11, .ref a0]) X (TB.get tb_X9_paths 82 rfl) rfl cv_RX9_454 (ok_X9_stepsTo fu a0 x4 h2 x11 ex11).1 (ok_X9_stepsTo fu a0 x4 h2 x11 ex11).2 (Nat.le_of_ble_eq_true rfl) rfl rfl (Nat.le_of_ble_eq_true rfl) rfl ?_
            obtain ⟨p12, ep12, e⟩ := bs e
            refine V_callV (q := 189) (As := [.int x11]) (rest := []) (st' := [.int p12.1]) X (TB.get tb_X9_paths 83 rfl) rfl cv_RX9_248 (ok_X9_gives a0 x11 h2 p12 ep12).1 (ok_X9_gives a0 x11 h2 p12 ep12).2 (Nat.le_of_ble_eq_true rfl) rfl rfl (Nat.le_of_ble_eq_true rfl) rfl ?_
            cases e
            exact V_iret X hr hlk (TB.get tb_X9_paths 84 rfl)
          · have e := (if_pos hc).symm.trans e
            refine V_aload_n (q := 173) X (TB.get tb_X9_paths 75 rfl) rfl rfl rfl ?_
            refine V_iconst (v := 5) (q := 174) X (TB.get tb_X9_paths 76 rfl) c_iconst_5 rfl ?_
            obtain ⟨p13, ep13, e⟩ := bs e
            refine V_callV (q := 177) (As := [.int (5 : Int32)]) (rest := []) (st' := [.int p13.1]) X (TB.get tb_X9_paths 77 rfl) rfl cv_RX9_242 (ok_X9_refuse a0 (5 : Int32) h2 p13 ep13).1 (ok_X9_refuse a0 (5 : Int32) h2 p13 ep13).2 (Nat.le_of_ble_eq_true rfl) rfl rfl (Nat.le_of_ble_eq_true rfl) rfl ?_
            refine V_goto (q := 189) X (TB.get tb_X9_paths 78 rfl) rfl ?_
            cases e
            exact V_iret X hr hlk (TB.get tb_X9_paths 84 rfl)
        have e := (if_neg hc2).symm.trans e
        by_cases hc3 : a1 = (3 : Int32)
        · have e := (if_pos hc3).symm.trans e
          rw [hc3]
          refine V_tabIn (q := 190) X (TB.get tb_X9_paths 62 rfl) (by decide) (by decide) rfl rfl ?_
          refine V_iload_n (q := 191) X (TB.get tb_X9_paths 85 rfl) rfl rfl rfl ?_
          refine V_iconst (v := -1) (q := 192) X (TB.get tb_X9_paths 86 rfl) c_iconst_m1 rfl ?_
          refine V_icmp_ne (q := 195) (t := 203) X (TB.get tb_X9_paths 87 rfl) rfl rfl (fun hc => ?_) (fun hc => ?_)
          · have e := (if_neg hc).symm.trans e
            refine V_aload_n (q := 204) X (TB.get tb_X9_paths 92 rfl) rfl rfl rfl ?_
            refine V_aload_n (q := 205) X (TB.get tb_X9_paths 93 rfl) rfl rfl rfl ?_
            obtain ⟨x14, ex14, e⟩ := bs e
            refine V_getR (q := 208) X (TB.get tb_X9_paths 94 rfl) rfl lf_RX9_91 ex14 ?_
            refine V_iload_n (q := 209) X (TB.get tb_X9_paths 95 rfl) rfl rfl rfl ?_
            obtain ⟨x15, ex15, e⟩ := bs e
            refine V_iaload (q := 210) X (TB.get tb_X9_paths 96 rfl) rfl ex15 ?_
            obtain ⟨p16, ep16, e⟩ := bs e
            refine V_callV (q := 213) (As := [.int x15]) (rest := []) (st' := [.int p16.1]) X (TB.get tb_X9_paths 97 rfl) rfl cv_RX9_248 (ok_X9_gives a0 x15 h2 p16 ep16).1 (ok_X9_gives a0 x15 h2 p16 ep16).2 (Nat.le_of_ble_eq_true rfl) rfl rfl (Nat.le_of_ble_eq_true rfl) rfl ?_
            cases e
            exact V_iret X hr hlk (TB.get tb_X9_paths 98 rfl)
          · have e := (if_pos hc).symm.trans e
            refine V_aload_n (q := 196) X (TB.get tb_X9_paths 88 rfl) rfl rfl rfl ?_
            refine V_iconst (v := 5) (q := 197) X (TB.get tb_X9_paths 89 rfl) c_iconst_5 rfl ?_
            obtain ⟨p17, ep17, e⟩ := bs e
            refine V_callV (q := 200) (As := [.int (5 : Int32)]) (rest := []) (st' := [.int p17.1]) X (TB.get tb_X9_paths 90 rfl) rfl cv_RX9_242 (ok_X9_refuse a0 (5 : Int32) h2 p17 ep17).1 (ok_X9_refuse a0 (5 : Int32) h2 p17 ep17).2 (Nat.le_of_ble_eq_true rfl) rfl rfl (Nat.le_of_ble_eq_true rfl) rfl ?_
            refine V_goto (q := 213) X (TB.get tb_X9_paths 91 rfl) rfl ?_
            cases e
            exact V_iret X hr hlk (TB.get tb_X9_paths 98 rfl)
        have e := (if_neg hc3).symm.trans e
        by_cases hc4 : a1 = (4 : Int32)
        · have e := (if_pos hc4).symm.trans e
          rw [hc4]
          refine V_tabIn (q := 214) X (TB.get tb_X9_paths 62 rfl) (by decide) (by decide) rfl rfl ?_
          refine V_aload_n (q := 215) X (TB.get tb_X9_paths 99 rfl) rfl rfl rfl ?_
          obtain ⟨h18, eh18, e⟩ := bs e
          refine V_callV (q := 218) (As := []) (rest := []) (st' := []) X (TB.get tb_X9_paths 100 rfl) rfl cv_RX9_385 (ok_X9_checksAll fu a0 h2 h18 eh18).1 (ok_X9_checksAll fu a0 h2 h18 eh18).2 (Nat.le_of_ble_eq_true rfl) rfl rfl (Nat.le_of_ble_eq_true rfl) rfl ?_
          refine V_aload_n (q := 219) X (TB.get tb_X9_paths 101 rfl) rfl rfl rfl ?_
          refine V_aload_n (q := 220) X (TB.get tb_X9_paths 102 rfl) rfl rfl rfl ?_
          obtain ⟨x19, ex19, e⟩ := bs e
          refine V_getI (q := 223) X (TB.get tb_X9_paths 103 rfl) rfl lf_RX9_367 ex19 ?_
          refine jn_elim (P := (fun (k : Int32 → Option (Int32 × Hp)) => ∀ (w20 : Int32), k w20 = some res → V p l en (rmD 15) s m args below meth c 6 D tc B nn (Ar B nn) s.heap 0 0 (MQ below (QC D tc B nn (Ar B nn) (some (.int res.1)) res.2) args s 0 0 (Ar B nn)) h18 236 [] [.int w20, .ref a0])) e ?_ (fun j21 Jj21 e => ?_)
          · intro w20 e
            obtain ⟨p22, ep22, e⟩ := bs e
            refine V_callV (q := 239) (As := [.int w20]) (rest := []) (st' := [.int p22.1]) X (TB.get tb_X9_paths 111 rfl) rfl cv_RX9_248 (ok_X9_gives a0 w20 h18 p22 ep22).1 (ok_X9_gives a0 w20 h18 p22 ep22).2 (Nat.le_of_ble_eq_true rfl) rfl rfl (Nat.le_of_ble_eq_true rfl) rfl ?_
            cases e
            exact V_iret X hr hlk (TB.get tb_X9_paths 112 rfl)
          refine jn_elim (P := (fun (k : Option (Int32 × Hp)) => k = some res → V p l en (rmD 15) s m args below meth c 6 D tc B nn (Ar B nn) s.heap 0 0 (MQ below (QC D tc B nn (Ar B nn) (some (.int res.1)) res.2) args s 0 0 (Ar B nn)) h18 235 [] [.ref a0])) e ?_ (fun j23 Jj23 e => ?_)
          · intro e
            refine V_iconst (v := 0) (q := 236) X (TB.get tb_X9_paths 110 rfl) c_iconst_0 rfl ?_
            exact Jj21 _ e
          refine V_if_le (q := 226) (t := 235) X (TB.get tb_X9_paths 104 rfl) rfl rfl (fun hc => ?_) (fun hc => ?_)
          · have e := (if_pos hc).symm.trans e
            refine V_sub (lv' := []) [] rfl ?_
            exact Jj23 e
          · have e := (if_neg hc).symm.trans e
            refine V_iload_n (q := 227) X (TB.get tb_X9_paths 105 rfl) rfl rfl rfl ?_
            refine V_iconst (v := -1) (q := 228) X (TB.get tb_X9_paths 106 rfl) c_iconst_m1 rfl ?_
            refine V_icmp_ne (q := 231) (t := 235) X (TB.get tb_X9_paths 107 rfl) rfl rfl (fun hc => ?_) (fun hc => ?_)
            · have e := (if_neg hc).symm.trans e
              refine V_sub (lv' := []) [] rfl ?_
              exact Jj23 e
            · have e := (if_pos hc).symm.trans e
              refine V_iconst (v := 1) (q := 232) X (TB.get tb_X9_paths 108 rfl) c_iconst_1 rfl ?_
              refine V_goto (q := 236) X (TB.get tb_X9_paths 109 rfl) rfl ?_
              refine V_sub (lv' := []) [] rfl ?_
              exact Jj21 _ e
        have e := (if_neg hc4).symm.trans e
        by_cases hc5 : a1 = (5 : Int32)
        · have e := (if_pos hc5).symm.trans e
          rw [hc5]
          refine V_tabIn (q := 240) X (TB.get tb_X9_paths 62 rfl) (by decide) (by decide) rfl rfl ?_
          refine V_aload_n (q := 241) X (TB.get tb_X9_paths 113 rfl) rfl rfl rfl ?_
          refine V_aload_n (q := 242) X (TB.get tb_X9_paths 114 rfl) rfl rfl rfl ?_
          obtain ⟨x24, ex24, e⟩ := bs e
          refine V_getI (q := 245) X (TB.get tb_X9_paths 115 rfl) rfl lf_RX9_419 ex24 ?_
          obtain ⟨p25, ep25, e⟩ := bs e
          refine V_callV (q := 248) (As := [.int x24]) (rest := []) (st' := [.int p25.1]) X (TB.get tb_X9_paths 116 rfl) rfl cv_RX9_248 (ok_X9_gives a0 x24 h2 p25 ep25).1 (ok_X9_gives a0 x24 h2 p25 ep25).2 (Nat.le_of_ble_eq_true rfl) rfl rfl (Nat.le_of_ble_eq_true rfl) rfl ?_
          cases e
          exact V_iret X hr hlk (TB.get tb_X9_paths 117 rfl)
        have e := (if_neg hc5).symm.trans e
        have hout : a1.toInt < 0 ∨ 5 < a1.toInt := tab_out a1 (0) (5) [0, 1, 2, 3, 4, 5] (by decide +kernel) (fun v hv => by simp only [List.mem_cons, List.not_mem_nil, or_false] at hv; rcases hv with rfl | rfl | rfl | rfl | rfl | rfl <;> assumption)
        refine V_tabOut (q := 249) X (TB.get tb_X9_paths 62 rfl) hout rfl ?_
        refine V_aload_n (q := 250) X (TB.get tb_X9_paths 118 rfl) rfl rfl rfl ?_
        refine V_iload (q := 252) X (TB.get tb_X9_paths 119 rfl) rfl rfl ?_
        obtain ⟨p26, ep26, e⟩ := bs e
        refine V_callV (q := 255) (As := [.int v6]) (rest := []) (st' := [.int p26.1]) X (TB.get tb_X9_paths 120 rfl) rfl cv_RX9_248 (ok_X9_gives a0 v6 h2 p26 ep26).1 (ok_X9_gives a0 v6 h2 p26 ep26).2 (Nat.le_of_ble_eq_true rfl) rfl rfl (Nat.le_of_ble_eq_true rfl) rfl ?_
        cases e
        exact V_iret X hr hlk (TB.get tb_X9_paths 121 rfl)
      refine V_sub (lv' := [(0, .ref a0), (1, .int a1), (2, .int x4), (3, .int (0 : Int32)), (4, .int (0 : Int32)), (5, .int (0 : Int32))]) [4, 5, 3, 2, 1, 0] rfl ?_
      refine wh3_elim (P := fun v27 v28 v29 => V p l en (rmD 15) s m args below meth c 6 D tc B nn (Ar B nn) s.heap 0 0 (MQ below (QC D tc B nn (Ar B nn) (some (.int res.1)) res.2) args s 0 0 (Ar B nn)) h2 47 [(0, .ref a0), (1, .int a1), (2, .int x4), (3, .int v27), (4, .int v28), (5, .int v29)] []) (f := fu) ?_ e
      intro self30 v27 v28 v29 ihself30 e
      unfold MX9_paths_B47 at e
      refine V_iload (q := 49) X (TB.get tb_X9_paths 27 rfl) rfl rfl ?_
      refine V_aload_n (q := 50) X (TB.get tb_X9_paths 28 rfl) rfl rfl rfl ?_
      obtain ⟨x31, ex31, e⟩ := bs e
      refine V_getI (q := 53) X (TB.get tb_X9_paths 29 rfl) rfl lf_RX9_409 ex31 ?_
      refine V_icmp_ge (q := 56) (t := 113) X (TB.get tb_X9_paths 30 rfl) rfl rfl (fun hc => ?_) (fun hc => ?_)
      · have e := (if_pos hc).symm.trans e
        refine V_sub (lv' := [(0, .ref a0), (1, .int a1), (2, .int x4), (3, .int v27), (4, .int v28)]) [0, 1, 2, 3, 4] rfl ?_
        exact Jj7 _ _ e
      · have e := (if_neg hc).symm.trans e
        refine V_iload_n (q := 57) X (TB.get tb_X9_paths 31 rfl) rfl rfl rfl ?_
        refine V_aload_n (q := 58) X (TB.get tb_X9_paths 32 rfl) rfl rfl rfl ?_
        obtain ⟨x32, ex32, e⟩ := bs e
        refine V_getR (q := 61) X (TB.get tb_X9_paths 33 rfl) rfl lf_RX9_91 ex32 ?_
        refine V_iload (q := 63) X (TB.get tb_X9_paths 34 rfl) rfl rfl ?_
        obtain ⟨x33, ex33, e⟩ := bs e
        refine V_iaload (q := 64) X (TB.get tb_X9_paths 35 rfl) rfl ex33 ?_
        refine jn_elim (P := (fun (k : Int32 → Option (Int32 × Hp)) => ∀ (w34 : Int32), k w34 = some res → V p l en (rmD 15) s m args below meth c 6 D tc B nn (Ar B nn) s.heap 0 0 (MQ below (QC D tc B nn (Ar B nn) (some (.int res.1)) res.2) args s 0 0 (Ar B nn)) h2 72 [(0, .ref a0), (1, .int a1), (2, .int x4), (4, .int v28), (5, .int v29)] [.int w34, .int v27])) e ?_ (fun j35 Jj35 e => ?_)
        · intro w34 e
          refine V_iadd (q := 73) X (TB.get tb_X9_paths 40 rfl) rfl ?_
          refine V_istore_n (q := 74) (lv' := [(3, .int (v27 + w34)), (0, .ref a0), (1, .int a1), (2, .int x4), (4, .int v28), (5, .int v29)]) X (TB.get tb_X9_paths 41 rfl) rfl rfl (Nat.le_of_ble_eq_true rfl) rfl ?_
          refine V_iload (q := 76) X (TB.get tb_X9_paths 42 rfl) rfl rfl ?_
          refine V_aload_n (q := 77) X (TB.get tb_X9_paths 43 rfl) rfl rfl rfl ?_
          refine V_getR (q := 80) X (TB.get tb_X9_paths 44 rfl) rfl lf_RX9_91 ex32 ?_
          refine V_iload (q := 82) X (TB.get tb_X9_paths 45 rfl) rfl rfl ?_
          refine V_iaload (q := 83) X (TB.get tb_X9_paths 46 rfl) rfl ex33 ?_
          refine jn_elim (P := (fun (k : Int32 → Option (Int32 × Hp)) => ∀ (w36 : Int32), k w36 = some res → V p l en (rmD 15) s m args below meth c 6 D tc B nn (Ar B nn) s.heap 0 0 (MQ below (QC D tc B nn (Ar B nn) (some (.int res.1)) res.2) args s 0 0 (Ar B nn)) h2 104 [(0, .ref a0), (1, .int a1), (2, .int x4), (3, .int (v27 + w34)), (5, .int v29)] [.int w36, .int v28])) e ?_ (fun j37 Jj37 e => ?_)
          · intro w36 e
            refine V_iadd (q := 105) X (TB.get tb_X9_paths 57 rfl) rfl ?_
            refine V_istore (q := 107) (lv' := [(4, .int (v28 + w36)), (0, .ref a0), (1, .int a1), (2, .int x4), (3, .int (v27 + w34)), (5, .int v29)]) X (TB.get tb_X9_paths 58 rfl) rfl (Nat.le_of_ble_eq_true rfl) rfl ?_
            refine V_iinc (q := 110) (v := v29 + (1 : Int32)) (lv' := [(5, .int (v29 + (1 : Int32))), (4, .int (v28 + w36)), (0, .ref a0), (1, .int a1), (2, .int x4), (3, .int (v27 + w34))]) X (TB.get tb_X9_paths 59 rfl) rfl rfl (by rw [c_iconst_1]) (Nat.le_of_ble_eq_true rfl) rfl ?_
            refine V_goto (q := 47) X (TB.get tb_X9_paths 60 rfl) rfl ?_
            refine V_sub (lv' := [(0, .ref a0), (1, .int a1), (2, .int x4), (3, .int (v27 + w34)), (4, .int (v28 + w36)), (5, .int (v29 + (1 : Int32)))]) [2, 3, 4, 5, 1, 0] rfl ?_
            exact ihself30 _ _ _ e
          refine jn_elim (P := (fun (k : Option (Int32 × Hp)) => k = some res → V p l en (rmD 15) s m args below meth c 6 D tc B nn (Ar B nn) s.heap 0 0 (MQ below (QC D tc B nn (Ar B nn) (some (.int res.1)) res.2) args s 0 0 (Ar B nn)) h2 103 [(0, .ref a0), (1, .int a1), (2, .int x4), (3, .int (v27 + w34)), (5, .int v29)] [.int v28])) e ?_ (fun j38 Jj38 e => ?_)
          · intro e
            refine V_iconst (v := 0) (q := 104) X (TB.get tb_X9_paths 56 rfl) c_iconst_0 rfl ?_
            exact Jj37 _ e
          refine V_if_ne (q := 86) (t := 103) X (TB.get tb_X9_paths 47 rfl) rfl rfl (fun hc => ?_) (fun hc => ?_)
          · have e := (if_neg hc).symm.trans e
            refine V_sub (lv' := [(0, .ref a0), (1, .int a1), (2, .int x4), (3, .int (v27 + w34)), (5, .int v29)]) [1, 2, 3, 0, 5] rfl ?_
            exact Jj38 e
          · have e := (if_pos hc).symm.trans e
            refine V_aload_n (q := 87) X (TB.get tb_X9_paths 48 rfl) rfl rfl rfl ?_
            refine V_iload (q := 89) X (TB.get tb_X9_paths 49 rfl) rfl rfl ?_
            obtain ⟨x39, ex39, e⟩ := bs e
            refine V_callV (q := 92) (As := [.int v29]) (rest := [.int v28]) (st' := [.int x39, .int v28]) X (TB.get tb_X9_paths 50 rfl) rfl cv_RX9_451 (ok_X9_placeOf a0 v29 h2 x39 ex39).1 (ok_X9_placeOf a0 v29 h2 x39 ex39).2 (Nat.le_of_ble_eq_true rfl) rfl rfl (Nat.le_of_ble_eq_true rfl) rfl ?_
            refine V_aload_n (q := 93) X (TB.get tb_X9_paths 51 rfl) rfl rfl rfl ?_
            obtain ⟨x40, ex40, e⟩ := bs e
            refine V_callV (q := 96) (As := []) (rest := [.int x39, .int v28]) (st' := [.int x40, .int x39, .int v28]) X (TB.get tb_X9_paths 52 rfl) rfl cv_RX9_298 (ok_X9_statements a0 h2 x40 ex40).1 (ok_X9_statements a0 h2 x40 ex40).2 (Nat.le_of_ble_eq_true rfl) rfl rfl (Nat.le_of_ble_eq_true rfl) rfl ?_
            refine V_icmp_ne (q := 99) (t := 103) X (TB.get tb_X9_paths 53 rfl) rfl rfl (fun hc => ?_) (fun hc => ?_)
            · have e := (if_neg hc).symm.trans e
              refine V_sub (lv' := [(0, .ref a0), (1, .int a1), (2, .int x4), (3, .int (v27 + w34)), (5, .int v29)]) [1, 2, 3, 0, 5] rfl ?_
              exact Jj38 e
            · have e := (if_pos hc).symm.trans e
              refine V_iconst (v := 1) (q := 100) X (TB.get tb_X9_paths 54 rfl) c_iconst_1 rfl ?_
              refine V_goto (q := 104) X (TB.get tb_X9_paths 55 rfl) rfl ?_
              refine V_sub (lv' := [(0, .ref a0), (1, .int a1), (2, .int x4), (3, .int (v27 + w34)), (5, .int v29)]) [1, 2, 3, 0, 5] rfl ?_
              exact Jj37 _ e
        refine V_if_le (q := 67) (t := 71) X (TB.get tb_X9_paths 36 rfl) rfl rfl (fun hc => ?_) (fun hc => ?_)
        · have e := (if_pos hc).symm.trans e
          refine V_iconst (v := 0) (q := 72) X (TB.get tb_X9_paths 39 rfl) c_iconst_0 rfl ?_
          refine V_sub (lv' := [(0, .ref a0), (1, .int a1), (2, .int x4), (4, .int v28), (5, .int v29)]) [0, 1, 2, 4, 5] rfl ?_
          exact Jj35 _ e
        · have e := (if_neg hc).symm.trans e
          refine V_iconst (v := 1) (q := 68) X (TB.get tb_X9_paths 37 rfl) c_iconst_1 rfl ?_
          refine V_goto (q := 72) X (TB.get tb_X9_paths 38 rfl) rfl ?_
          refine V_sub (lv' := [(0, .ref a0), (1, .int a1), (2, .int x4), (4, .int v28), (5, .int v29)]) [0, 1, 2, 4, 5] rfl ?_
          exact Jj35 _ e
    · have e := (if_neg hc).symm.trans e
      refine V_aload_n (q := 28) X (TB.get tb_X9_paths 14 rfl) rfl rfl rfl ?_
      refine V_bipush (v := 6) (q := 30) X (TB.get tb_X9_paths 15 rfl) c_bipush_6 rfl ?_
      obtain ⟨p41, ep41, e⟩ := bs e
      refine V_callV (q := 33) (As := [.int (6 : Int32)]) (rest := []) (st' := [.int p41.1]) X (TB.get tb_X9_paths 16 rfl) rfl cv_RX9_242 (ok_X9_refuse a0 (6 : Int32) h2 p41 ep41).1 (ok_X9_refuse a0 (6 : Int32) h2 p41 ep41).2 (Nat.le_of_ble_eq_true rfl) rfl rfl (Nat.le_of_ble_eq_true rfl) rfl ?_
      cases e
      exact V_iret X hr hlk (TB.get tb_X9_paths 17 rfl)
  · have e := (if_pos hc).symm.trans e
    refine V_aload_n (q := 11) X (TB.get tb_X9_paths 5 rfl) rfl rfl rfl ?_
    refine V_iconst (v := 1) (q := 12) X (TB.get tb_X9_paths 6 rfl) c_iconst_1 rfl ?_
    obtain ⟨p42, ep42, e⟩ := bs e
    refine V_callV (q := 15) (As := [.int (1 : Int32)]) (rest := []) (st' := [.int p42.1]) X (TB.get tb_X9_paths 7 rfl) rfl cv_RX9_242 (ok_X9_refuse a0 (1 : Int32) h p42 ep42).1 (ok_X9_refuse a0 (1 : Int32) h p42 ep42).2 (Nat.le_of_ble_eq_true rfl) rfl rfl (Nat.le_of_ble_eq_true rfl) rfl ?_
    cases e
    exact V_iret X hr hlk (TB.get tb_X9_paths 8 rfl)
set_option maxRecDepth 100000 in
set_option maxHeartbeats 4000000 in
theorem ok_X9_path (fu : Nat) (a0 : Nat) (a1 : Int32) (h : Hp) (res : Int32 × Hp) (e : MX9_path fu a0 a1 h = some res) : CK yX9_path cX9_path 5 (some .int) 14 [.ref a0, .int a1] h (some (.int res.1)) res.2 ∧ (h.1 a0).1 = 9 := by
  obtain ⟨hcl, e⟩ := h_g_inv e
  refine ⟨CK_of pn_RX9 cm_X9_path (Nat.le_of_ble_eq_true rfl) ?_, hcl⟩
  intro l D tc B nn p en s m args below meth c X hr hlk
  replace X : CX p (rmD 14) s m args c cX9_path 5 RX9 D tc 14 := X
  show V p l en (rmD 14) s m args below meth c 5 D tc B nn (Ar B nn) s.heap 0 0 (MQ below (QC D tc B nn (Ar B nn) (some (.int res.1)) res.2) args s 0 0 (Ar B nn)) h 0 [(0, .ref a0), (1, .int a1)] []
  refine V_iload_n (q := 1) X (TB.get tb_X9_path 0 rfl) rfl rfl rfl ?_
  refine V_if_ge (q := 4) (t := 10) X (TB.get tb_X9_path 1 rfl) rfl rfl (fun hc => ?_) (fun hc => ?_)
  · have e := (if_pos hc).symm.trans e
    refine V_aload_n (q := 11) X (TB.get tb_X9_path 6 rfl) rfl rfl rfl ?_
    obtain ⟨h1, eh1, e⟩ := bs e
    refine V_callV (q := 14) (As := []) (rest := []) (st' := []) X (TB.get tb_X9_path 7 rfl) rfl cv_RX9_445 (ok_X9_laysPaths fu a0 h h1 eh1).1 (ok_X9_laysPaths fu a0 h h1 eh1).2 (Nat.le_of_ble_eq_true rfl) rfl rfl (Nat.le_of_ble_eq_true rfl) rfl ?_
    refine V_aload_n (q := 15) X (TB.get tb_X9_path 8 rfl) rfl rfl rfl ?_
    obtain ⟨x2, ex2, e⟩ := bs e
    refine V_getI (q := 18) X (TB.get tb_X9_path 9 rfl) rfl lf_RX9_412 ex2 ?_
    refine V_if_eq (q := 21) (t := 28) X (TB.get tb_X9_path 10 rfl) rfl rfl (fun hc => ?_) (fun hc => ?_)
    · have e := (if_pos hc).symm.trans e
      refine V_aload_n (q := 29) X (TB.get tb_X9_path 15 rfl) rfl rfl rfl ?_
      obtain ⟨x3, ex3, e⟩ := bs e
      refine V_callV (q := 32) (As := []) (rest := []) (st' := [.int x3]) X (TB.get tb_X9_path 16 rfl) rfl cv_RX9_448 (ok_X9_firstWrong fu a0 h1 x3 ex3).1 (ok_X9_firstWrong fu a0 h1 x3 ex3).2 (Nat.le_of_ble_eq_true rfl) rfl rfl (Nat.le_of_ble_eq_true rfl) rfl ?_
      refine V_istore_n (q := 33) (lv' := [(2, .int x3), (0, .ref a0), (1, .int a1)]) X (TB.get tb_X9_path 17 rfl) rfl rfl (Nat.le_of_ble_eq_true rfl) rfl ?_
      refine V_iload_n (q := 34) X (TB.get tb_X9_path 18 rfl) rfl rfl rfl ?_
      refine V_iconst (v := -1) (q := 35) X (TB.get tb_X9_path 19 rfl) c_iconst_m1 rfl ?_
      refine V_icmp_ne (q := 38) (t := 44) X (TB.get tb_X9_path 20 rfl) rfl rfl (fun hc => ?_) (fun hc => ?_)
      · have e := (if_neg hc).symm.trans e
        refine V_aload_n (q := 45) X (TB.get tb_X9_path 25 rfl) rfl rfl rfl ?_
        refine V_iload_n (q := 46) X (TB.get tb_X9_path 26 rfl) rfl rfl rfl ?_
        obtain ⟨x4, ex4, e⟩ := bs e
        refine V_callV (q := 49) (As := [.int x3]) (rest := []) (st' := [.int x4]) X (TB.get tb_X9_path 27 rfl) rfl cv_RX9_454 (ok_X9_stepsTo fu a0 x3 h1 x4 ex4).1 (ok_X9_stepsTo fu a0 x3 h1 x4 ex4).2 (Nat.le_of_ble_eq_true rfl) rfl rfl (Nat.le_of_ble_eq_true rfl) rfl ?_
        refine V_istore_n (q := 50) (lv' := [(3, .int x4), (2, .int x3), (0, .ref a0), (1, .int a1)]) X (TB.get tb_X9_path 28 rfl) rfl rfl (Nat.le_of_ble_eq_true rfl) rfl ?_
        refine V_iload_n (q := 51) X (TB.get tb_X9_path 29 rfl) rfl rfl rfl ?_
        refine V_iload_n (q := 52) X (TB.get tb_X9_path 30 rfl) rfl rfl rfl ?_
        refine V_icmp_lt (q := 55) (t := 61) X (TB.get tb_X9_path 31 rfl) rfl rfl (fun hc => ?_) (fun hc => ?_)
        · have e := (if_pos hc).symm.trans e
          refine V_iload_n (q := 62) X (TB.get tb_X9_path 36 rfl) rfl rfl rfl ?_
          refine V_iconst (v := 1) (q := 63) X (TB.get tb_X9_path 37 rfl) c_iconst_1 rfl ?_
          refine V_isub (q := 64) X (TB.get tb_X9_path 38 rfl) rfl ?_
          refine V_istore (q := 66) (lv' := [(4, .int (x4 - (1 : Int32))), (3, .int x4), (2, .int x3), (0, .ref a0), (1, .int a1)]) X (TB.get tb_X9_path 39 rfl) rfl (Nat.le_of_ble_eq_true rfl) rfl ?_
          refine jn_elim (P := (fun (k : Int32 → Option (Int32 × Hp)) => ∀ (v5 : Int32), k v5 = some res → V p l en (rmD 14) s m args below meth c 5 D tc B nn (Ar B nn) s.heap 0 0 (MQ below (QC D tc B nn (Ar B nn) (some (.int res.1)) res.2) args s 0 0 (Ar B nn)) h1 85 [(0, .ref a0), (2, .int v5)] [])) e ?_ (fun j6 Jj6 e => ?_)
          · intro v5 e
            refine V_aload_n (q := 86) X (TB.get tb_X9_path 50 rfl) rfl rfl rfl ?_
            refine V_aload_n (q := 87) X (TB.get tb_X9_path 51 rfl) rfl rfl rfl ?_
            refine V_iload_n (q := 88) X (TB.get tb_X9_path 52 rfl) rfl rfl rfl ?_
            obtain ⟨x7, ex7, e⟩ := bs e
            refine V_callV (q := 91) (As := [.int v5]) (rest := [.ref a0]) (st' := [.int x7, .ref a0]) X (TB.get tb_X9_path 53 rfl) rfl cv_RX9_451 (ok_X9_placeOf a0 v5 h1 x7 ex7).1 (ok_X9_placeOf a0 v5 h1 x7 ex7).2 (Nat.le_of_ble_eq_true rfl) rfl rfl (Nat.le_of_ble_eq_true rfl) rfl ?_
            obtain ⟨p8, ep8, e⟩ := bs e
            refine V_callV (q := 94) (As := [.int x7]) (rest := []) (st' := [.int p8.1]) X (TB.get tb_X9_path 54 rfl) rfl cv_RX9_248 (ok_X9_gives a0 x7 h1 p8 ep8).1 (ok_X9_gives a0 x7 h1 p8 ep8).2 (Nat.le_of_ble_eq_true rfl) rfl rfl (Nat.le_of_ble_eq_true rfl) rfl ?_
            cases e
            exact V_iret X hr hlk (TB.get tb_X9_path 55 rfl)
          refine V_sub (lv' := [(0, .ref a0), (1, .int a1), (2, .int x3), (4, .int (x4 - (1 : Int32)))]) [3, 4, 2, 0] rfl ?_
          refine wh2_elim (P := fun v9 v10 => V p l en (rmD 14) s m args below meth c 5 D tc B nn (Ar B nn) s.heap 0 0 (MQ below (QC D tc B nn (Ar B nn) (some (.int res.1)) res.2) args s 0 0 (Ar B nn)) h1 66 [(0, .ref a0), (1, .int a1), (2, .int v9), (4, .int v10)] []) (f := fu) ?_ e
          intro self11 v9 v10 ihself11 e
          unfold MX9_path_B66 at e
          refine V_iload (q := 68) X (TB.get tb_X9_path 40 rfl) rfl rfl ?_
          refine V_iload_n (q := 69) X (TB.get tb_X9_path 41 rfl) rfl rfl rfl ?_
          refine V_icmp_le (q := 72) (t := 85) X (TB.get tb_X9_path 42 rfl) rfl rfl (fun hc => ?_) (fun hc => ?_)
          · have e := (if_pos hc).symm.trans e
            refine V_sub (lv' := [(0, .ref a0), (2, .int v9)]) [0, 2] rfl ?_
            exact Jj6 _ e
          · have e := (if_neg hc).symm.trans e
            refine V_aload_n (q := 73) X (TB.get tb_X9_path 43 rfl) rfl rfl rfl ?_
            obtain ⟨x12, ex12, e⟩ := bs e
            refine V_getR (q := 76) X (TB.get tb_X9_path 44 rfl) rfl lf_RX9_88 ex12 ?_
            refine V_iload_n (q := 77) X (TB.get tb_X9_path 45 rfl) rfl rfl rfl ?_
            obtain ⟨x13, ex13, e⟩ := bs e
            refine V_iaload (q := 78) X (TB.get tb_X9_path 46 rfl) rfl ex13 ?_
            refine V_istore_n (q := 79) (lv' := [(2, .int x13), (0, .ref a0), (1, .int a1), (4, .int v10)]) X (TB.get tb_X9_path 47 rfl) rfl rfl (Nat.le_of_ble_eq_true rfl) rfl ?_
            refine V_iinc (q := 82) (v := v10 + (-1 : Int32)) (lv' := [(4, .int (v10 + (-1 : Int32))), (2, .int x13), (0, .ref a0), (1, .int a1)]) X (TB.get tb_X9_path 48 rfl) rfl rfl (by rw [c_iconst_m1]) (Nat.le_of_ble_eq_true rfl) rfl ?_
            refine V_goto (q := 66) X (TB.get tb_X9_path 49 rfl) rfl ?_
            refine V_sub (lv' := [(0, .ref a0), (1, .int a1), (2, .int x13), (4, .int (v10 + (-1 : Int32)))]) [2, 3, 1, 0] rfl ?_
            exact ihself11 _ _ e
        · have e := (if_neg hc).symm.trans e
          refine V_aload_n (q := 56) X (TB.get tb_X9_path 32 rfl) rfl rfl rfl ?_
          refine V_iconst (v := 5) (q := 57) X (TB.get tb_X9_path 33 rfl) c_iconst_5 rfl ?_
          obtain ⟨p14, ep14, e⟩ := bs e
          refine V_callV (q := 60) (As := [.int (5 : Int32)]) (rest := []) (st' := [.int p14.1]) X (TB.get tb_X9_path 34 rfl) rfl cv_RX9_242 (ok_X9_refuse a0 (5 : Int32) h1 p14 ep14).1 (ok_X9_refuse a0 (5 : Int32) h1 p14 ep14).2 (Nat.le_of_ble_eq_true rfl) rfl rfl (Nat.le_of_ble_eq_true rfl) rfl ?_
          cases e
          exact V_iret X hr hlk (TB.get tb_X9_path 35 rfl)
      · have e := (if_pos hc).symm.trans e
        refine V_aload_n (q := 39) X (TB.get tb_X9_path 21 rfl) rfl rfl rfl ?_
        refine V_iconst (v := 5) (q := 40) X (TB.get tb_X9_path 22 rfl) c_iconst_5 rfl ?_
        obtain ⟨p15, ep15, e⟩ := bs e
        refine V_callV (q := 43) (As := [.int (5 : Int32)]) (rest := []) (st' := [.int p15.1]) X (TB.get tb_X9_path 23 rfl) rfl cv_RX9_242 (ok_X9_refuse a0 (5 : Int32) h1 p15 ep15).1 (ok_X9_refuse a0 (5 : Int32) h1 p15 ep15).2 (Nat.le_of_ble_eq_true rfl) rfl rfl (Nat.le_of_ble_eq_true rfl) rfl ?_
        cases e
        exact V_iret X hr hlk (TB.get tb_X9_path 24 rfl)
    · have e := (if_neg hc).symm.trans e
      refine V_aload_n (q := 22) X (TB.get tb_X9_path 11 rfl) rfl rfl rfl ?_
      refine V_bipush (v := 6) (q := 24) X (TB.get tb_X9_path 12 rfl) c_bipush_6 rfl ?_
      obtain ⟨p16, ep16, e⟩ := bs e
      refine V_callV (q := 27) (As := [.int (6 : Int32)]) (rest := []) (st' := [.int p16.1]) X (TB.get tb_X9_path 13 rfl) rfl cv_RX9_242 (ok_X9_refuse a0 (6 : Int32) h1 p16 ep16).1 (ok_X9_refuse a0 (6 : Int32) h1 p16 ep16).2 (Nat.le_of_ble_eq_true rfl) rfl rfl (Nat.le_of_ble_eq_true rfl) rfl ?_
      cases e
      exact V_iret X hr hlk (TB.get tb_X9_path 14 rfl)
  · have e := (if_neg hc).symm.trans e
    refine V_aload_n (q := 5) X (TB.get tb_X9_path 2 rfl) rfl rfl rfl ?_
    refine V_iconst (v := 1) (q := 6) X (TB.get tb_X9_path 3 rfl) c_iconst_1 rfl ?_
    obtain ⟨p17, ep17, e⟩ := bs e
    refine V_callV (q := 9) (As := [.int (1 : Int32)]) (rest := []) (st' := [.int p17.1]) X (TB.get tb_X9_path 4 rfl) rfl cv_RX9_242 (ok_X9_refuse a0 (1 : Int32) h p17 ep17).1 (ok_X9_refuse a0 (1 : Int32) h p17 ep17).2 (Nat.le_of_ble_eq_true rfl) rfl rfl (Nat.le_of_ble_eq_true rfl) rfl ?_
    cases e
    exact V_iret X hr hlk (TB.get tb_X9_path 5 rfl)
set_option maxRecDepth 100000 in
set_option maxHeartbeats 4000000 in
theorem ok_X9_onesWith (fu : Nat) (a0 : Nat) (a1 : Int32) (h : Hp) (res : Int32) (e : MX9_onesWith fu a0 a1 h = some res) : CK yX9_onesWith cX9_onesWith 4 (some .int) 0 [.ref a0, .int a1] h (some (.int res)) h ∧ (h.1 a0).1 = 9 := by
  obtain ⟨hcl, e⟩ := h_g_inv e
  refine ⟨CK_of pn_RX9 cm_X9_onesWith (Nat.le_of_ble_eq_true rfl) ?_, hcl⟩
  intro l D tc B nn p en s m args below meth c X hr hlk
  replace X : CX p (rmD 0) s m args c cX9_onesWith 4 RX9 D tc 0 := X
  show V p l en (rmD 0) s m args below meth c 4 D tc B nn (Ar B nn) s.heap 0 0 (MQ below (QC D tc B nn (Ar B nn) (some (.int res)) h) args s 0 0 (Ar B nn)) h 0 [(0, .ref a0), (1, .int a1)] []
  refine V_iconst (v := 0) (q := 1) X (TB.get tb_X9_onesWith 0 rfl) c_iconst_0 rfl ?_
  refine V_istore_n (q := 2) (lv' := [(2, .int (0 : Int32)), (0, .ref a0), (1, .int a1)]) X (TB.get tb_X9_onesWith 1 rfl) rfl rfl (Nat.le_of_ble_eq_true rfl) rfl ?_
  refine V_iconst (v := 0) (q := 3) X (TB.get tb_X9_onesWith 2 rfl) c_iconst_0 rfl ?_
  refine V_istore_n (q := 4) (lv' := [(3, .int (0 : Int32)), (2, .int (0 : Int32)), (0, .ref a0), (1, .int a1)]) X (TB.get tb_X9_onesWith 3 rfl) rfl rfl (Nat.le_of_ble_eq_true rfl) rfl ?_
  refine V_sub (lv' := [(0, .ref a0), (1, .int a1), (2, .int (0 : Int32)), (3, .int (0 : Int32))]) [2, 3, 1, 0] rfl ?_
  refine wh2_elim (P := fun v1 v2 => V p l en (rmD 0) s m args below meth c 4 D tc B nn (Ar B nn) s.heap 0 0 (MQ below (QC D tc B nn (Ar B nn) (some (.int res)) h) args s 0 0 (Ar B nn)) h 4 [(0, .ref a0), (1, .int a1), (2, .int v1), (3, .int v2)] []) (f := fu) ?_ e
  intro self3 v1 v2 ihself3 e
  unfold MX9_onesWith_B4 at e
  refine V_iload_n (q := 5) X (TB.get tb_X9_onesWith 4 rfl) rfl rfl rfl ?_
  refine V_bipush (v := 6) (q := 7) X (TB.get tb_X9_onesWith 5 rfl) c_bipush_6 rfl ?_
  refine V_icmp_ge (q := 10) (t := 56) X (TB.get tb_X9_onesWith 6 rfl) rfl rfl (fun hc => ?_) (fun hc => ?_)
  · have e := (if_pos hc).symm.trans e
    refine V_iload_n (q := 57) X (TB.get tb_X9_onesWith 35 rfl) rfl rfl rfl ?_
    cases e
    exact V_iret X hr hlk (TB.get tb_X9_onesWith 36 rfl)
  · have e := (if_neg hc).symm.trans e
    refine V_iload_n (q := 11) X (TB.get tb_X9_onesWith 7 rfl) rfl rfl rfl ?_
    refine V_iload_n (q := 12) X (TB.get tb_X9_onesWith 8 rfl) rfl rfl rfl ?_
    refine V_iload_n (q := 13) X (TB.get tb_X9_onesWith 9 rfl) rfl rfl rfl ?_
    refine jn_elim (P := (fun (k : Int32 → Option (Int32)) => ∀ (w4 : Int32), k w4 = some res → V p l en (rmD 0) s m args below meth c 4 D tc B nn (Ar B nn) s.heap 0 0 (MQ below (QC D tc B nn (Ar B nn) (some (.int res)) h) args s 0 0 (Ar B nn)) h 48 [(0, .ref a0), (1, .int a1), (3, .int v2)] [.int w4, .int v1])) e ?_ (fun j5 Jj5 e => ?_)
    · intro w4 e
      refine V_ior (q := 49) X (TB.get tb_X9_onesWith 31 rfl) rfl ?_
      refine V_istore_n (q := 50) (lv' := [(2, .int (v1 ||| w4)), (0, .ref a0), (1, .int a1), (3, .int v2)]) X (TB.get tb_X9_onesWith 32 rfl) rfl rfl (Nat.le_of_ble_eq_true rfl) rfl ?_
      refine V_iinc (q := 53) (v := v2 + (1 : Int32)) (lv' := [(3, .int (v2 + (1 : Int32))), (2, .int (v1 ||| w4)), (0, .ref a0), (1, .int a1)]) X (TB.get tb_X9_onesWith 33 rfl) rfl rfl (by rw [c_iconst_1]) (Nat.le_of_ble_eq_true rfl) rfl ?_
      refine V_goto (q := 4) X (TB.get tb_X9_onesWith 34 rfl) rfl ?_
      refine V_sub (lv' := [(0, .ref a0), (1, .int a1), (2, .int (v1 ||| w4)), (3, .int (v2 + (1 : Int32)))]) [2, 3, 1, 0] rfl ?_
      exact ihself3 _ _ e
    refine jn_elim (P := (fun (k : Option (Int32)) => k = some res → V p l en (rmD 0) s m args below meth c 4 D tc B nn (Ar B nn) s.heap 0 0 (MQ below (QC D tc B nn (Ar B nn) (some (.int res)) h) args s 0 0 (Ar B nn)) h 47 [(0, .ref a0), (1, .int a1), (3, .int v2)] [.int v1])) e ?_ (fun j6 Jj6 e => ?_)
    · intro e
      refine V_iconst (v := 0) (q := 48) X (TB.get tb_X9_onesWith 30 rfl) c_iconst_0 rfl ?_
      exact Jj5 _ e
    refine V_icmp_eq (q := 16) (t := 47) X (TB.get tb_X9_onesWith 10 rfl) rfl rfl (fun hc => ?_) (fun hc => ?_)
    · have e := (if_pos hc).symm.trans e
      refine V_sub (lv' := [(0, .ref a0), (1, .int a1), (3, .int v2)]) [0, 1, 3] rfl ?_
      exact Jj6 e
    · have e := (if_neg hc).symm.trans e
      refine V_aload_n (q := 17) X (TB.get tb_X9_onesWith 11 rfl) rfl rfl rfl ?_
      obtain ⟨x7, ex7, e⟩ := bs e
      refine V_getR (q := 20) X (TB.get tb_X9_onesWith 12 rfl) rfl lf_RX9_73 ex7 ?_
      refine V_iload_n (q := 21) X (TB.get tb_X9_onesWith 13 rfl) rfl rfl rfl ?_
      obtain ⟨x8, ex8, e⟩ := bs e
      refine V_iaload (q := 22) X (TB.get tb_X9_onesWith 14 rfl) rfl ex8 ?_
      refine V_iconst (v := -1) (q := 23) X (TB.get tb_X9_onesWith 15 rfl) c_iconst_m1 rfl ?_
      refine V_icmp_eq (q := 26) (t := 47) X (TB.get tb_X9_onesWith 16 rfl) rfl rfl (fun hc => ?_) (fun hc => ?_)
      · have e := (if_pos hc).symm.trans e
        refine V_sub (lv' := [(0, .ref a0), (1, .int a1), (3, .int v2)]) [0, 1, 3] rfl ?_
        exact Jj6 e
      · have e := (if_neg hc).symm.trans e
        refine V_aload_n (q := 27) X (TB.get tb_X9_onesWith 17 rfl) rfl rfl rfl ?_
        refine V_getR (q := 30) X (TB.get tb_X9_onesWith 18 rfl) rfl lf_RX9_73 ex7 ?_
        refine V_iload_n (q := 31) X (TB.get tb_X9_onesWith 19 rfl) rfl rfl rfl ?_
        obtain ⟨x9, ex9, e⟩ := bs e
        refine V_iaload (q := 32) X (TB.get tb_X9_onesWith 20 rfl) rfl ex9 ?_
        refine V_aload_n (q := 33) X (TB.get tb_X9_onesWith 21 rfl) rfl rfl rfl ?_
        refine V_getR (q := 36) X (TB.get tb_X9_onesWith 22 rfl) rfl lf_RX9_73 ex7 ?_
        refine V_iload_n (q := 37) X (TB.get tb_X9_onesWith 23 rfl) rfl rfl rfl ?_
        refine V_iaload (q := 38) X (TB.get tb_X9_onesWith 24 rfl) rfl ex8 ?_
        refine V_icmp_ne (q := 41) (t := 47) X (TB.get tb_X9_onesWith 25 rfl) rfl rfl (fun hc => ?_) (fun hc => ?_)
        · have e := (if_neg hc).symm.trans e
          refine V_sub (lv' := [(0, .ref a0), (1, .int a1), (3, .int v2)]) [0, 1, 3] rfl ?_
          exact Jj6 e
        · have e := (if_pos hc).symm.trans e
          refine V_iconst (v := 1) (q := 42) X (TB.get tb_X9_onesWith 26 rfl) c_iconst_1 rfl ?_
          refine V_iload_n (q := 43) X (TB.get tb_X9_onesWith 27 rfl) rfl rfl rfl ?_
          refine V_ishl (q := 44) X (TB.get tb_X9_onesWith 28 rfl) rfl ?_
          refine V_goto (q := 48) X (TB.get tb_X9_onesWith 29 rfl) rfl ?_
          refine V_sub (lv' := [(0, .ref a0), (1, .int a1), (3, .int v2)]) [0, 1, 3] rfl ?_
          exact Jj5 _ e
set_option maxRecDepth 100000 in
set_option maxHeartbeats 4000000 in
theorem ok_X9_truly (fu : Nat) (a0 : Nat) (a1 : Int32) (a2 : Int32) (a3 : Int32) (h : Hp) (res : Int32 × Hp) (e : MX9_truly fu a0 a1 a2 a3 h = some res) : CK yX9_truly cX9_truly 12 (some .int) 14 [.ref a0, .int a1, .int a2, .int a3] h (some (.int res.1)) res.2 ∧ (h.1 a0).1 = 9 := by
  obtain ⟨hcl, e⟩ := h_g_inv e
  refine ⟨CK_of pn_RX9 cm_X9_truly (Nat.le_of_ble_eq_true rfl) ?_, hcl⟩
  intro l D tc B nn p en s m args below meth c X hr hlk
  replace X : CX p (rmD 14) s m args c cX9_truly 12 RX9 D tc 14 := X
  show V p l en (rmD 14) s m args below meth c 12 D tc B nn (Ar B nn) s.heap 0 0 (MQ below (QC D tc B nn (Ar B nn) (some (.int res.1)) res.2) args s 0 0 (Ar B nn)) h 0 [(0, .ref a0), (1, .int a1), (2, .int a2), (3, .int a3)] []
  refine V_iload_n (q := 1) X (TB.get tb_X9_truly 0 rfl) rfl rfl rfl ?_
  refine V_iconst (v := 0) (q := 2) X (TB.get tb_X9_truly 1 rfl) c_iconst_0 rfl ?_
  refine V_iconst (v := 3) (q := 3) X (TB.get tb_X9_truly 2 rfl) c_iconst_3 rfl ?_
  obtain ⟨x1, ex1, e⟩ := bs e
  refine V_callS (q := 6) (As := [.int a3, .int (0 : Int32), .int (3 : Int32)]) (rest := []) (st' := [.int x1]) X (TB.get tb_X9_truly 3 rfl) rfl cs_RX9_239 (ok_X9_isFrom a3 (0 : Int32) (3 : Int32) h x1 ex1) (Nat.le_of_ble_eq_true rfl) rfl rfl (Nat.le_of_ble_eq_true rfl) rfl ?_
  refine V_if_ne (q := 9) (t := 15) X (TB.get tb_X9_truly 4 rfl) rfl rfl (fun hc => ?_) (fun hc => ?_)
  · have e := (if_neg hc).symm.trans e
    refine V_aload_n (q := 16) X (TB.get tb_X9_truly 9 rfl) rfl rfl rfl ?_
    refine V_iload_n (q := 17) X (TB.get tb_X9_truly 10 rfl) rfl rfl rfl ?_
    obtain ⟨x2, ex2, e⟩ := bs e
    refine V_callV (q := 20) (As := [.int a1]) (rest := []) (st' := [.int x2]) X (TB.get tb_X9_truly 11 rfl) rfl cv_RX9_388 (ok_X9_isPlace a0 a1 h x2 ex2).1 (ok_X9_isPlace a0 a1 h x2 ex2).2 (Nat.le_of_ble_eq_true rfl) rfl rfl (Nat.le_of_ble_eq_true rfl) rfl ?_
    refine jn_elim (P := (fun (k : Option (Int32 × Hp)) => k = some res → V p l en (rmD 14) s m args below meth c 12 D tc B nn (Ar B nn) s.heap 0 0 (MQ below (QC D tc B nn (Ar B nn) (some (.int res.1)) res.2) args s 0 0 (Ar B nn)) h 31 [(0, .ref a0)] [])) e ?_ (fun j3 Jj3 e => ?_)
    · intro e
      refine V_aload_n (q := 32) X (TB.get tb_X9_truly 17 rfl) rfl rfl rfl ?_
      refine V_iconst (v := 2) (q := 33) X (TB.get tb_X9_truly 18 rfl) c_iconst_2 rfl ?_
      obtain ⟨p4, ep4, e⟩ := bs e
      refine V_callV (q := 36) (As := [.int (2 : Int32)]) (rest := []) (st' := [.int p4.1]) X (TB.get tb_X9_truly 19 rfl) rfl cv_RX9_242 (ok_X9_refuse a0 (2 : Int32) h p4 ep4).1 (ok_X9_refuse a0 (2 : Int32) h p4 ep4).2 (Nat.le_of_ble_eq_true rfl) rfl rfl (Nat.le_of_ble_eq_true rfl) rfl ?_
      cases e
      exact V_iret X hr hlk (TB.get tb_X9_truly 20 rfl)
    refine V_if_eq (q := 23) (t := 31) X (TB.get tb_X9_truly 12 rfl) rfl rfl (fun hc => ?_) (fun hc => ?_)
    · have e := (if_pos hc).symm.trans e
      refine V_sub (lv' := [(0, .ref a0)]) [0] rfl ?_
      exact Jj3 e
    · have e := (if_neg hc).symm.trans e
      refine V_aload_n (q := 24) X (TB.get tb_X9_truly 13 rfl) rfl rfl rfl ?_
      refine V_iload_n (q := 25) X (TB.get tb_X9_truly 14 rfl) rfl rfl rfl ?_
      obtain ⟨x5, ex5, e⟩ := bs e
      refine V_callV (q := 28) (As := [.int a2]) (rest := []) (st' := [.int x5]) X (TB.get tb_X9_truly 15 rfl) rfl cv_RX9_325 (ok_X9_isVariable a0 a2 h x5 ex5).1 (ok_X9_isVariable a0 a2 h x5 ex5).2 (Nat.le_of_ble_eq_true rfl) rfl rfl (Nat.le_of_ble_eq_true rfl) rfl ?_
      refine V_if_ne (q := 31) (t := 37) X (TB.get tb_X9_truly 16 rfl) rfl rfl (fun hc => ?_) (fun hc => ?_)
      · have e := (if_neg hc).symm.trans e
        refine V_aload_n (q := 38) X (TB.get tb_X9_truly 21 rfl) rfl rfl rfl ?_
        obtain ⟨h6, eh6, e⟩ := bs e
        refine V_callV (q := 41) (As := []) (rest := []) (st' := []) X (TB.get tb_X9_truly 22 rfl) rfl cv_RX9_445 (ok_X9_laysPaths fu a0 h h6 eh6).1 (ok_X9_laysPaths fu a0 h h6 eh6).2 (Nat.le_of_ble_eq_true rfl) rfl rfl (Nat.le_of_ble_eq_true rfl) rfl ?_
        refine V_aload_n (q := 42) X (TB.get tb_X9_truly 23 rfl) rfl rfl rfl ?_
        obtain ⟨x7, ex7, e⟩ := bs e
        refine V_getI (q := 45) X (TB.get tb_X9_truly 24 rfl) rfl lf_RX9_412 ex7 ?_
        refine V_if_eq (q := 48) (t := 55) X (TB.get tb_X9_truly 25 rfl) rfl rfl (fun hc => ?_) (fun hc => ?_)
        · have e := (if_pos hc).symm.trans e
          refine V_iconst (v := 0) (q := 56) X (TB.get tb_X9_truly 30 rfl) c_iconst_0 rfl ?_
          refine V_istore (q := 58) (lv' := [(4, .int (0 : Int32)), (0, .ref a0), (1, .int a1), (2, .int a2), (3, .int a3)]) X (TB.get tb_X9_truly 31 rfl) rfl (Nat.le_of_ble_eq_true rfl) rfl ?_
          refine V_iconst (v := 0) (q := 59) X (TB.get tb_X9_truly 32 rfl) c_iconst_0 rfl ?_
          refine V_istore (q := 61) (lv' := [(5, .int (0 : Int32)), (4, .int (0 : Int32)), (0, .ref a0), (1, .int a1), (2, .int a2), (3, .int a3)]) X (TB.get tb_X9_truly 33 rfl) rfl (Nat.le_of_ble_eq_true rfl) rfl ?_
          refine V_iconst (v := 0) (q := 62) X (TB.get tb_X9_truly 34 rfl) c_iconst_0 rfl ?_
          refine V_istore (q := 64) (lv' := [(6, .int (0 : Int32)), (5, .int (0 : Int32)), (4, .int (0 : Int32)), (0, .ref a0), (1, .int a1), (2, .int a2), (3, .int a3)]) X (TB.get tb_X9_truly 35 rfl) rfl (Nat.le_of_ble_eq_true rfl) rfl ?_
          refine V_iconst (v := 0) (q := 65) X (TB.get tb_X9_truly 36 rfl) c_iconst_0 rfl ?_
          refine V_istore (q := 67) (lv' := [(7, .int (0 : Int32)), (6, .int (0 : Int32)), (5, .int (0 : Int32)), (4, .int (0 : Int32)), (0, .ref a0), (1, .int a1), (2, .int a2), (3, .int a3)]) X (TB.get tb_X9_truly 37 rfl) rfl (Nat.le_of_ble_eq_true rfl) rfl ?_
          refine V_iconst (v := 0) (q := 68) X (TB.get tb_X9_truly 38 rfl) c_iconst_0 rfl ?_
          refine V_istore (q := 70) (lv' := [(8, .int (0 : Int32)), (7, .int (0 : Int32)), (6, .int (0 : Int32)), (5, .int (0 : Int32)), (4, .int (0 : Int32)), (0, .ref a0), (1, .int a1), (2, .int a2), (3, .int a3)]) X (TB.get tb_X9_truly 39 rfl) rfl (Nat.le_of_ble_eq_true rfl) rfl ?_
          refine V_bipush (v := 63) (q := 72) X (TB.get tb_X9_truly 40 rfl) c_bipush_63 rfl ?_
          refine V_istore (q := 74) (lv' := [(9, .int (63 : Int32)), (8, .int (0 : Int32)), (7, .int (0 : Int32)), (6, .int (0 : Int32)), (5, .int (0 : Int32)), (4, .int (0 : Int32)), (0, .ref a0), (1, .int a1), (2, .int a2), (3, .int a3)]) X (TB.get tb_X9_truly 41 rfl) rfl (Nat.le_of_ble_eq_true rfl) rfl ?_
          refine V_iconst (v := 0) (q := 75) X (TB.get tb_X9_truly 42 rfl) c_iconst_0 rfl ?_
          refine V_istore (q := 77) (lv' := [(10, .int (0 : Int32)), (9, .int (63 : Int32)), (8, .int (0 : Int32)), (7, .int (0 : Int32)), (6, .int (0 : Int32)), (5, .int (0 : Int32)), (4, .int (0 : Int32)), (0, .ref a0), (1, .int a1), (2, .int a2), (3, .int a3)]) X (TB.get tb_X9_truly 43 rfl) rfl (Nat.le_of_ble_eq_true rfl) rfl ?_
          refine jn_elim (P := (fun (k : Int32 → Int32 → Int32 → Int32 → Int32 → Int32 → Hp → Option (Int32 × Hp)) => ∀ (v8 : Int32) (v9 : Int32) (v10 : Int32) (v11 : Int32) (v12 : Int32) (v13 : Int32) (h14 : Hp), k v8 v9 v10 v11 v12 v13 h14 = some res → V p l en (rmD 14) s m args below meth c 12 D tc B nn (Ar B nn) s.heap 0 0 (MQ below (QC D tc B nn (Ar B nn) (some (.int res.1)) res.2) args s 0 0 (Ar B nn)) h14 195 [(0, .ref a0), (3, .int a3), (4, .int v8), (5, .int v9), (6, .int v10), (7, .int v11), (8, .int v12), (9, .int v13)] [])) e ?_ (fun j15 Jj15 e => ?_)
          · intro v8 v9 v10 v11 v12 v13 h14 e
            refine V_iload (q := 197) X (TB.get tb_X9_truly 110 rfl) rfl rfl ?_
            refine V_if_ne (q := 200) (t := 206) X (TB.get tb_X9_truly 111 rfl) rfl rfl (fun hc => ?_) (fun hc => ?_)
            · have e := (if_neg hc).symm.trans e
              refine V_aload_n (q := 207) X (TB.get tb_X9_truly 116 rfl) rfl rfl rfl ?_
              refine V_iload_n (q := 208) X (TB.get tb_X9_truly 117 rfl) rfl rfl rfl ?_
              refine jn_elim (P := (fun (k : Int32 → Option (Int32 × Hp)) => ∀ (w16 : Int32), k w16 = some res → V p l en (rmD 14) s m args below meth c 12 D tc B nn (Ar B nn) s.heap 0 0 (MQ below (QC D tc B nn (Ar B nn) (some (.int res.1)) res.2) args s 0 0 (Ar B nn)) h14 247 [] [.int w16, .ref a0])) e ?_ (fun j17 Jj17 e => ?_)
              · intro w16 e
                obtain ⟨p18, ep18, e⟩ := bs e
                refine V_callV (q := 250) (As := [.int w16]) (rest := []) (st' := [.int p18.1]) X (TB.get tb_X9_truly 136 rfl) rfl cv_RX9_248 (ok_X9_gives a0 w16 h14 p18 ep18).1 (ok_X9_gives a0 w16 h14 p18 ep18).2 (Nat.le_of_ble_eq_true rfl) rfl rfl (Nat.le_of_ble_eq_true rfl) rfl ?_
                cases e
                exact V_iret X hr hlk (TB.get tb_X9_truly 137 rfl)
              refine V_if_ne (q := 211) (t := 216) X (TB.get tb_X9_truly 118 rfl) rfl rfl (fun hc => ?_) (fun hc => ?_)
              · have e := (if_neg hc).symm.trans e
                refine V_iload_n (q := 217) X (TB.get tb_X9_truly 121 rfl) rfl rfl rfl ?_
                refine V_iconst (v := 1) (q := 218) X (TB.get tb_X9_truly 122 rfl) c_iconst_1 rfl ?_
                refine V_icmp_ne (q := 221) (t := 226) X (TB.get tb_X9_truly 123 rfl) rfl rfl (fun hc => ?_) (fun hc => ?_)
                · have e := (if_neg hc).symm.trans e
                  refine V_iload_n (q := 227) X (TB.get tb_X9_truly 126 rfl) rfl rfl rfl ?_
                  refine V_iconst (v := 2) (q := 228) X (TB.get tb_X9_truly 127 rfl) c_iconst_2 rfl ?_
                  refine V_icmp_ne (q := 231) (t := 236) X (TB.get tb_X9_truly 128 rfl) rfl rfl (fun hc => ?_) (fun hc => ?_)
                  · have e := (if_neg hc).symm.trans e
                    refine V_iload (q := 238) X (TB.get tb_X9_truly 131 rfl) rfl rfl ?_
                    refine V_if_eq (q := 241) (t := 246) X (TB.get tb_X9_truly 132 rfl) rfl rfl (fun hc => ?_) (fun hc => ?_)
                    · have e := (if_pos hc).symm.trans e
                      refine V_iconst (v := 0) (q := 247) X (TB.get tb_X9_truly 135 rfl) c_iconst_0 rfl ?_
                      refine V_sub (lv' := []) [] rfl ?_
                      exact Jj17 _ e
                    · have e := (if_neg hc).symm.trans e
                      refine V_iload (q := 243) X (TB.get tb_X9_truly 133 rfl) rfl rfl ?_
                      refine V_goto (q := 247) X (TB.get tb_X9_truly 134 rfl) rfl ?_
                      refine V_sub (lv' := []) [] rfl ?_
                      exact Jj17 _ e
                  · have e := (if_pos hc).symm.trans e
                    refine V_iload (q := 233) X (TB.get tb_X9_truly 129 rfl) rfl rfl ?_
                    refine V_goto (q := 247) X (TB.get tb_X9_truly 130 rfl) rfl ?_
                    refine V_sub (lv' := []) [] rfl ?_
                    exact Jj17 _ e
                · have e := (if_pos hc).symm.trans e
                  refine V_iload (q := 223) X (TB.get tb_X9_truly 124 rfl) rfl rfl ?_
                  refine V_goto (q := 247) X (TB.get tb_X9_truly 125 rfl) rfl ?_
                  refine V_sub (lv' := []) [] rfl ?_
                  exact Jj17 _ e
              · have e := (if_pos hc).symm.trans e
                refine V_iload (q := 213) X (TB.get tb_X9_truly 119 rfl) rfl rfl ?_
                refine V_goto (q := 247) X (TB.get tb_X9_truly 120 rfl) rfl ?_
                refine V_sub (lv' := []) [] rfl ?_
                exact Jj17 _ e
            · have e := (if_pos hc).symm.trans e
              refine V_aload_n (q := 201) X (TB.get tb_X9_truly 112 rfl) rfl rfl rfl ?_
              refine V_iconst (v := 5) (q := 202) X (TB.get tb_X9_truly 113 rfl) c_iconst_5 rfl ?_
              obtain ⟨p19, ep19, e⟩ := bs e
              refine V_callV (q := 205) (As := [.int (5 : Int32)]) (rest := []) (st' := [.int p19.1]) X (TB.get tb_X9_truly 114 rfl) rfl cv_RX9_242 (ok_X9_refuse a0 (5 : Int32) h14 p19 ep19).1 (ok_X9_refuse a0 (5 : Int32) h14 p19 ep19).2 (Nat.le_of_ble_eq_true rfl) rfl rfl (Nat.le_of_ble_eq_true rfl) rfl ?_
              cases e
              exact V_iret X hr hlk (TB.get tb_X9_truly 115 rfl)
          refine V_sub (lv' := [(0, .ref a0), (1, .int a1), (2, .int a2), (3, .int a3), (4, .int (0 : Int32)), (5, .int (0 : Int32)), (6, .int (0 : Int32)), (7, .int (0 : Int32)), (8, .int (0 : Int32)), (9, .int (63 : Int32)), (10, .int (0 : Int32))]) [7, 8, 9, 10, 6, 5, 4, 3, 2, 1, 0] rfl ?_
          refine wh8_elim (P := fun v20 v21 v22 v23 v24 v25 v26 h27 => V p l en (rmD 14) s m args below meth c 12 D tc B nn (Ar B nn) s.heap 0 0 (MQ below (QC D tc B nn (Ar B nn) (some (.int res.1)) res.2) args s 0 0 (Ar B nn)) h27 77 [(0, .ref a0), (1, .int a1), (2, .int a2), (3, .int a3), (4, .int v20), (5, .int v21), (6, .int v22), (7, .int v23), (8, .int v24), (9, .int v25), (10, .int v26)] []) (f := fu) ?_ e
          intro self28 v20 v21 v22 v23 v24 v25 v26 h27 ihself28 e
          unfold MX9_truly_B77 at e
          refine V_iload (q := 79) X (TB.get tb_X9_truly 44 rfl) rfl rfl ?_
          refine V_aload_n (q := 80) X (TB.get tb_X9_truly 45 rfl) rfl rfl rfl ?_
          obtain ⟨x29, ex29, e⟩ := bs e
          refine V_getI (q := 83) X (TB.get tb_X9_truly 46 rfl) rfl lf_RX9_409 ex29 ?_
          refine V_icmp_ge (q := 86) (t := 195) X (TB.get tb_X9_truly 47 rfl) rfl rfl (fun hc => ?_) (fun hc => ?_)
          · have e := (if_pos hc).symm.trans e
            refine V_sub (lv' := [(0, .ref a0), (3, .int a3), (4, .int v20), (5, .int v21), (6, .int v22), (7, .int v23), (8, .int v24), (9, .int v25)]) [0, 3, 4, 5, 6, 7, 8, 9] rfl ?_
            exact Jj15 _ _ _ _ _ _ _ e
          · have e := (if_neg hc).symm.trans e
            refine V_aload_n (q := 87) X (TB.get tb_X9_truly 48 rfl) rfl rfl rfl ?_
            refine V_iload (q := 89) X (TB.get tb_X9_truly 49 rfl) rfl rfl ?_
            obtain ⟨x30, ex30, e⟩ := bs e
            refine V_callV (q := 92) (As := [.int v26]) (rest := []) (st' := [.int x30]) X (TB.get tb_X9_truly 50 rfl) rfl cv_RX9_451 (ok_X9_placeOf a0 v26 h27 x30 ex30).1 (ok_X9_placeOf a0 v26 h27 x30 ex30).2 (Nat.le_of_ble_eq_true rfl) rfl rfl (Nat.le_of_ble_eq_true rfl) rfl ?_
            refine V_iload_n (q := 93) X (TB.get tb_X9_truly 51 rfl) rfl rfl rfl ?_
            refine jn_elim (P := (fun (k : Int32 → Int32 → Int32 → Int32 → Int32 → Int32 → Hp → Option (Int32 × Hp)) => ∀ (v31 : Int32) (v32 : Int32) (v33 : Int32) (v34 : Int32) (v35 : Int32) (v36 : Int32) (h37 : Hp), k v31 v32 v33 v34 v35 v36 h37 = some res → V p l en (rmD 14) s m args below meth c 12 D tc B nn (Ar B nn) s.heap 0 0 (MQ below (QC D tc B nn (Ar B nn) (some (.int res.1)) res.2) args s 0 0 (Ar B nn)) h37 189 [(0, .ref a0), (1, .int a1), (2, .int a2), (3, .int a3), (4, .int v31), (5, .int v32), (6, .int v33), (7, .int v34), (8, .int v35), (9, .int v36), (10, .int v26)] [])) e ?_ (fun j38 Jj38 e => ?_)
            · intro v31 v32 v33 v34 v35 v36 h37 e
              refine V_iinc (q := 192) (v := v26 + (1 : Int32)) (lv' := [(10, .int (v26 + (1 : Int32))), (0, .ref a0), (1, .int a1), (2, .int a2), (3, .int a3), (4, .int v31), (5, .int v32), (6, .int v33), (7, .int v34), (8, .int v35), (9, .int v36)]) X (TB.get tb_X9_truly 108 rfl) rfl rfl (by rw [c_iconst_1]) (Nat.le_of_ble_eq_true rfl) rfl ?_
              refine V_goto (q := 77) X (TB.get tb_X9_truly 109 rfl) rfl ?_
              refine V_sub (lv' := [(0, .ref a0), (1, .int a1), (2, .int a2), (3, .int a3), (4, .int v31), (5, .int v32), (6, .int v33), (7, .int v34), (8, .int v35), (9, .int v36), (10, .int (v26 + (1 : Int32)))]) [1, 2, 3, 4, 5, 6, 7, 8, 9, 10, 0] rfl ?_
              exact ihself28 _ _ _ _ _ _ _ _ e
            refine V_icmp_eq (q := 96) (t := 99) X (TB.get tb_X9_truly 52 rfl) rfl rfl (fun hc => ?_) (fun hc => ?_)
            · have e := (if_pos hc).symm.trans e
              refine V_aload_n (q := 100) X (TB.get tb_X9_truly 54 rfl) rfl rfl rfl ?_
              refine V_aload_n (q := 101) X (TB.get tb_X9_truly 55 rfl) rfl rfl rfl ?_
              obtain ⟨x39, ex39, e⟩ := bs e
              refine V_getR (q := 104) X (TB.get tb_X9_truly 56 rfl) rfl lf_RX9_85 ex39 ?_
              refine V_iload (q := 106) X (TB.get tb_X9_truly 57 rfl) rfl rfl ?_
              obtain ⟨x40, ex40, e⟩ := bs e
              refine V_laload (q := 107) X (TB.get tb_X9_truly 58 rfl) rfl ex40 ?_
              obtain ⟨p41, ep41, e⟩ := bs e
              refine V_callV (q := 110) (As := [.long x40]) (rest := []) (st' := [.int p41.1]) X (TB.get tb_X9_truly 59 rfl) rfl cv_RX9_415 (ok_X9_lays fu a0 x40 h27 p41 ep41).1 (ok_X9_lays fu a0 x40 h27 p41 ep41).2 (Nat.le_of_ble_eq_true rfl) rfl rfl (Nat.le_of_ble_eq_true rfl) rfl ?_
              refine V_istore (q := 112) (lv' := [(11, .int p41.1), (0, .ref a0), (1, .int a1), (2, .int a2), (3, .int a3), (4, .int v20), (5, .int v21), (6, .int v22), (7, .int v23), (8, .int v24), (9, .int v25), (10, .int v26)]) X (TB.get tb_X9_truly 60 rfl) rfl (Nat.le_of_ble_eq_true rfl) rfl ?_
              refine V_iconst (v := 1) (q := 113) X (TB.get tb_X9_truly 61 rfl) c_iconst_1 rfl ?_
              refine V_istore (q := 115) (lv' := [(4, .int (1 : Int32)), (11, .int p41.1), (0, .ref a0), (1, .int a1), (2, .int a2), (3, .int a3), (5, .int v21), (6, .int v22), (7, .int v23), (8, .int v24), (9, .int v25), (10, .int v26)]) X (TB.get tb_X9_truly 62 rfl) rfl (Nat.le_of_ble_eq_true rfl) rfl ?_
              refine V_iload (q := 117) X (TB.get tb_X9_truly 63 rfl) rfl rfl ?_
              refine V_aload_n (q := 118) X (TB.get tb_X9_truly 64 rfl) rfl rfl rfl ?_
              obtain ⟨x42, ex42, e⟩ := bs e
              refine V_getR (q := 121) X (TB.get tb_X9_truly 65 rfl) rfl lf_RX9_73 ex42 ?_
              refine V_iload_n (q := 122) X (TB.get tb_X9_truly 66 rfl) rfl rfl rfl ?_
              obtain ⟨x43, ex43, e⟩ := bs e
              refine V_iaload (q := 123) X (TB.get tb_X9_truly 67 rfl) rfl ex43 ?_
              refine V_iconst (v := -1) (q := 124) X (TB.get tb_X9_truly 68 rfl) c_iconst_m1 rfl ?_
              refine jn_elim (P := (fun (k : Int32 → Option (Int32 × Hp)) => ∀ (w44 : Int32), k w44 = some res → V p l en (rmD 14) s m args below meth c 12 D tc B nn (Ar B nn) s.heap 0 0 (MQ below (QC D tc B nn (Ar B nn) (some (.int res.1)) res.2) args s 0 0 (Ar B nn)) p41.2 137 [(0, .ref a0), (1, .int a1), (2, .int a2), (3, .int a3), (4, .int (1 : Int32)), (5, .int v21), (7, .int v23), (8, .int v24), (9, .int v25), (10, .int v26)] [.int w44, .int v22])) e ?_ (fun j45 Jj45 e => ?_)
              · intro w44 e
                refine V_ior (q := 138) X (TB.get tb_X9_truly 76 rfl) rfl ?_
                refine V_istore (q := 140) (lv' := [(6, .int (v22 ||| w44)), (0, .ref a0), (1, .int a1), (2, .int a2), (3, .int a3), (4, .int (1 : Int32)), (5, .int v21), (7, .int v23), (8, .int v24), (9, .int v25), (10, .int v26)]) X (TB.get tb_X9_truly 77 rfl) rfl (Nat.le_of_ble_eq_true rfl) rfl ?_
                refine V_aload_n (q := 141) X (TB.get tb_X9_truly 78 rfl) rfl rfl rfl ?_
                refine V_getR (q := 144) X (TB.get tb_X9_truly 79 rfl) rfl lf_RX9_73 ex42 ?_
                refine V_iload_n (q := 145) X (TB.get tb_X9_truly 80 rfl) rfl rfl rfl ?_
                refine V_iaload (q := 146) X (TB.get tb_X9_truly 81 rfl) rfl ex43 ?_
                refine V_iconst (v := -1) (q := 147) X (TB.get tb_X9_truly 82 rfl) c_iconst_m1 rfl ?_
                refine V_icmp_ne (q := 150) (t := 153) X (TB.get tb_X9_truly 83 rfl) rfl rfl (fun hc => ?_) (fun hc => ?_)
                · have e := (if_neg hc).symm.trans e
                  refine V_iconst (v := 1) (q := 154) X (TB.get tb_X9_truly 85 rfl) c_iconst_1 rfl ?_
                  refine V_istore (q := 156) (lv' := [(5, .int (1 : Int32)), (6, .int (v22 ||| w44)), (0, .ref a0), (1, .int a1), (2, .int a2), (3, .int a3), (4, .int (1 : Int32)), (7, .int v23), (8, .int v24), (9, .int v25), (10, .int v26)]) X (TB.get tb_X9_truly 86 rfl) rfl (Nat.le_of_ble_eq_true rfl) rfl ?_
                  refine V_iload (q := 158) X (TB.get tb_X9_truly 87 rfl) rfl rfl ?_
                  refine V_iconst (v := 1) (q := 159) X (TB.get tb_X9_truly 88 rfl) c_iconst_1 rfl ?_
                  refine V_aload_n (q := 160) X (TB.get tb_X9_truly 89 rfl) rfl rfl rfl ?_
                  obtain ⟨x46, ex46, e⟩ := bs e
                  refine V_getR (q := 163) X (TB.get tb_X9_truly 90 rfl) rfl lf_RX9_79 ex46 ?_
                  refine V_iload_n (q := 164) X (TB.get tb_X9_truly 91 rfl) rfl rfl rfl ?_
                  obtain ⟨x47, ex47, e⟩ := bs e
                  refine V_iaload (q := 165) X (TB.get tb_X9_truly 92 rfl) rfl ex47 ?_
                  refine V_ishl (q := 166) X (TB.get tb_X9_truly 93 rfl) rfl ?_
                  refine V_ior (q := 167) X (TB.get tb_X9_truly 94 rfl) rfl ?_
                  refine V_istore (q := 169) (lv' := [(7, .int (v23 ||| ((1 : Int32) <<< (x47 &&& 31)))), (5, .int (1 : Int32)), (6, .int (v22 ||| w44)), (0, .ref a0), (1, .int a1), (2, .int a2), (3, .int a3), (4, .int (1 : Int32)), (8, .int v24), (9, .int v25), (10, .int v26)]) X (TB.get tb_X9_truly 95 rfl) rfl (Nat.le_of_ble_eq_true rfl) rfl ?_
                  refine V_iload (q := 171) X (TB.get tb_X9_truly 96 rfl) rfl rfl ?_
                  refine V_aload_n (q := 172) X (TB.get tb_X9_truly 97 rfl) rfl rfl rfl ?_
                  refine V_iload_n (q := 173) X (TB.get tb_X9_truly 98 rfl) rfl rfl rfl ?_
                  obtain ⟨x48, ex48, e⟩ := bs e
                  refine V_callV (q := 176) (As := [.int a2]) (rest := [.int v24]) (st' := [.int x48, .int v24]) X (TB.get tb_X9_truly 99 rfl) rfl cv_RX9_457 (ok_X9_onesWith fu a0 a2 p41.2 x48 ex48).1 (ok_X9_onesWith fu a0 a2 p41.2 x48 ex48).2 (Nat.le_of_ble_eq_true rfl) rfl rfl (Nat.le_of_ble_eq_true rfl) rfl ?_
                  refine V_ior (q := 177) X (TB.get tb_X9_truly 100 rfl) rfl ?_
                  refine V_istore (q := 179) (lv' := [(8, .int (v24 ||| x48)), (7, .int (v23 ||| ((1 : Int32) <<< (x47 &&& 31)))), (5, .int (1 : Int32)), (6, .int (v22 ||| w44)), (0, .ref a0), (1, .int a1), (2, .int a2), (3, .int a3), (4, .int (1 : Int32)), (9, .int v25), (10, .int v26)]) X (TB.get tb_X9_truly 101 rfl) rfl (Nat.le_of_ble_eq_true rfl) rfl ?_
                  refine V_iload (q := 181) X (TB.get tb_X9_truly 102 rfl) rfl rfl ?_
                  refine V_aload_n (q := 182) X (TB.get tb_X9_truly 103 rfl) rfl rfl rfl ?_
                  refine V_iload_n (q := 183) X (TB.get tb_X9_truly 104 rfl) rfl rfl rfl ?_
                  refine V_callV (q := 186) (As := [.int a2]) (rest := [.int v25]) (st' := [.int x48, .int v25]) X (TB.get tb_X9_truly 105 rfl) rfl cv_RX9_457 (ok_X9_onesWith fu a0 a2 p41.2 x48 ex48).1 (ok_X9_onesWith fu a0 a2 p41.2 x48 ex48).2 (Nat.le_of_ble_eq_true rfl) rfl rfl (Nat.le_of_ble_eq_true rfl) rfl ?_
                  refine V_iand (q := 187) X (TB.get tb_X9_truly 106 rfl) rfl ?_
                  refine V_istore (q := 189) (lv' := [(9, .int (v25 &&& x48)), (8, .int (v24 ||| x48)), (7, .int (v23 ||| ((1 : Int32) <<< (x47 &&& 31)))), (5, .int (1 : Int32)), (6, .int (v22 ||| w44)), (0, .ref a0), (1, .int a1), (2, .int a2), (3, .int a3), (4, .int (1 : Int32)), (10, .int v26)]) X (TB.get tb_X9_truly 107 rfl) rfl (Nat.le_of_ble_eq_true rfl) rfl ?_
                  refine V_sub (lv' := [(0, .ref a0), (1, .int a1), (2, .int a2), (3, .int a3), (4, .int (1 : Int32)), (5, .int (1 : Int32)), (6, .int (v22 ||| w44)), (7, .int (v23 ||| ((1 : Int32) <<< (x47 &&& 31)))), (8, .int (v24 ||| x48)), (9, .int (v25 &&& x48)), (10, .int v26)]) [5, 6, 7, 8, 9, 3, 4, 2, 1, 0, 10] rfl ?_
                  exact Jj38 _ _ _ _ _ _ _ e
                · have e := (if_pos hc).symm.trans e
                  refine V_goto (q := 189) X (TB.get tb_X9_truly 84 rfl) rfl ?_
                  refine V_sub (lv' := [(0, .ref a0), (1, .int a1), (2, .int a2), (3, .int a3), (4, .int (1 : Int32)), (5, .int v21), (6, .int (v22 ||| w44)), (7, .int v23), (8, .int v24), (9, .int v25), (10, .int v26)]) [1, 2, 3, 4, 5, 6, 0, 7, 8, 9, 10] rfl ?_
                  exact Jj38 _ _ _ _ _ _ _ e
              refine V_icmp_ne (q := 127) (t := 131) X (TB.get tb_X9_truly 69 rfl) rfl rfl (fun hc => ?_) (fun hc => ?_)
              · have e := (if_neg hc).symm.trans e
                refine V_aload_n (q := 132) X (TB.get tb_X9_truly 72 rfl) rfl rfl rfl ?_
                obtain ⟨x49, ex49, e⟩ := bs e
                refine V_getR (q := 135) X (TB.get tb_X9_truly 73 rfl) rfl lf_RX9_76 ex49 ?_
                refine V_iload_n (q := 136) X (TB.get tb_X9_truly 74 rfl) rfl rfl rfl ?_
                obtain ⟨x50, ex50, e⟩ := bs e
                refine V_iaload (q := 137) X (TB.get tb_X9_truly 75 rfl) rfl ex50 ?_
                refine V_sub (lv' := [(0, .ref a0), (1, .int a1), (2, .int a2), (3, .int a3), (4, .int (1 : Int32)), (5, .int v21), (7, .int v23), (8, .int v24), (9, .int v25), (10, .int v26)]) [2, 3, 4, 5, 0, 6, 8, 9, 10, 11] rfl ?_
                exact Jj45 _ e
              · have e := (if_pos hc).symm.trans e
                refine V_iconst (v := 1) (q := 128) X (TB.get tb_X9_truly 70 rfl) c_iconst_1 rfl ?_
                refine V_goto (q := 137) X (TB.get tb_X9_truly 71 rfl) rfl ?_
                refine V_sub (lv' := [(0, .ref a0), (1, .int a1), (2, .int a2), (3, .int a3), (4, .int (1 : Int32)), (5, .int v21), (7, .int v23), (8, .int v24), (9, .int v25), (10, .int v26)]) [2, 3, 4, 5, 0, 6, 8, 9, 10, 11] rfl ?_
                exact Jj45 _ e
            · have e := (if_neg hc).symm.trans e
              refine V_goto (q := 189) X (TB.get tb_X9_truly 53 rfl) rfl ?_
              exact Jj38 _ _ _ _ _ _ _ e
        · have e := (if_neg hc).symm.trans e
          refine V_aload_n (q := 49) X (TB.get tb_X9_truly 26 rfl) rfl rfl rfl ?_
          refine V_bipush (v := 6) (q := 51) X (TB.get tb_X9_truly 27 rfl) c_bipush_6 rfl ?_
          obtain ⟨p51, ep51, e⟩ := bs e
          refine V_callV (q := 54) (As := [.int (6 : Int32)]) (rest := []) (st' := [.int p51.1]) X (TB.get tb_X9_truly 28 rfl) rfl cv_RX9_242 (ok_X9_refuse a0 (6 : Int32) h6 p51 ep51).1 (ok_X9_refuse a0 (6 : Int32) h6 p51 ep51).2 (Nat.le_of_ble_eq_true rfl) rfl rfl (Nat.le_of_ble_eq_true rfl) rfl ?_
          cases e
          exact V_iret X hr hlk (TB.get tb_X9_truly 29 rfl)
      · have e := (if_pos hc).symm.trans e
        refine V_sub (lv' := [(0, .ref a0)]) [0] rfl ?_
        exact Jj3 e
  · have e := (if_pos hc).symm.trans e
    refine V_aload_n (q := 10) X (TB.get tb_X9_truly 5 rfl) rfl rfl rfl ?_
    refine V_iconst (v := 1) (q := 11) X (TB.get tb_X9_truly 6 rfl) c_iconst_1 rfl ?_
    obtain ⟨p52, ep52, e⟩ := bs e
    refine V_callV (q := 14) (As := [.int (1 : Int32)]) (rest := []) (st' := [.int p52.1]) X (TB.get tb_X9_truly 7 rfl) rfl cv_RX9_242 (ok_X9_refuse a0 (1 : Int32) h p52 ep52).1 (ok_X9_refuse a0 (1 : Int32) h p52 ep52).2 (Nat.le_of_ble_eq_true rfl) rfl rfl (Nat.le_of_ble_eq_true rfl) rfl ?_
    cases e
    exact V_iret X hr hlk (TB.get tb_X9_truly 8 rfl)
set_option maxRecDepth 100000 in
set_option maxHeartbeats 4000000 in
theorem ok_X9_left (fu : Nat) (a0 : Nat) (a1 : Int32) (h : Hp) (res : Int32 × Hp) (e : MX9_left fu a0 a1 h = some res) : CK yX9_left cX9_left 2 (some .int) 14 [.ref a0, .int a1] h (some (.int res.1)) res.2 ∧ (h.1 a0).1 = 9 := by
  obtain ⟨hcl, e⟩ := h_g_inv e
  refine ⟨CK_of pn_RX9 cm_X9_left (Nat.le_of_ble_eq_true rfl) ?_, hcl⟩
  intro l D tc B nn p en s m args below meth c X hr hlk
  replace X : CX p (rmD 14) s m args c cX9_left 2 RX9 D tc 14 := X
  show V p l en (rmD 14) s m args below meth c 2 D tc B nn (Ar B nn) s.heap 0 0 (MQ below (QC D tc B nn (Ar B nn) (some (.int res.1)) res.2) args s 0 0 (Ar B nn)) h 0 [(0, .ref a0), (1, .int a1)] []
  refine V_aload_n (q := 1) X (TB.get tb_X9_left 0 rfl) rfl rfl rfl ?_
  refine V_iload_n (q := 2) X (TB.get tb_X9_left 1 rfl) rfl rfl rfl ?_
  obtain ⟨x1, ex1, e⟩ := bs e
  refine V_callV (q := 5) (As := [.int a1]) (rest := []) (st' := [.int x1]) X (TB.get tb_X9_left 2 rfl) rfl cv_RX9_251 (ok_X9_isKind a0 a1 h x1 ex1).1 (ok_X9_isKind a0 a1 h x1 ex1).2 (Nat.le_of_ble_eq_true rfl) rfl rfl (Nat.le_of_ble_eq_true rfl) rfl ?_
  refine V_if_ne (q := 8) (t := 14) X (TB.get tb_X9_left 3 rfl) rfl rfl (fun hc => ?_) (fun hc => ?_)
  · have e := (if_neg hc).symm.trans e
    refine V_aload_n (q := 15) X (TB.get tb_X9_left 8 rfl) rfl rfl rfl ?_
    obtain ⟨h2, eh2, e⟩ := bs e
    refine V_callV (q := 18) (As := []) (rest := []) (st' := []) X (TB.get tb_X9_left 9 rfl) rfl cv_RX9_445 (ok_X9_laysPaths fu a0 h h2 eh2).1 (ok_X9_laysPaths fu a0 h h2 eh2).2 (Nat.le_of_ble_eq_true rfl) rfl rfl (Nat.le_of_ble_eq_true rfl) rfl ?_
    refine V_aload_n (q := 19) X (TB.get tb_X9_left 10 rfl) rfl rfl rfl ?_
    obtain ⟨x3, ex3, e⟩ := bs e
    refine V_getI (q := 22) X (TB.get tb_X9_left 11 rfl) rfl lf_RX9_412 ex3 ?_
    refine V_if_eq (q := 25) (t := 34) X (TB.get tb_X9_left 12 rfl) rfl rfl (fun hc => ?_) (fun hc => ?_)
    · have e := (if_pos hc).symm.trans e
      refine V_aload_n (q := 35) X (TB.get tb_X9_left 17 rfl) rfl rfl rfl ?_
      refine V_aload_n (q := 36) X (TB.get tb_X9_left 18 rfl) rfl rfl rfl ?_
      obtain ⟨x4, ex4, e⟩ := bs e
      refine V_getR (q := 39) X (TB.get tb_X9_left 19 rfl) rfl lf_RX9_82 ex4 ?_
      refine V_iload_n (q := 40) X (TB.get tb_X9_left 20 rfl) rfl rfl rfl ?_
      obtain ⟨x5, ex5, e⟩ := bs e
      refine V_iaload (q := 41) X (TB.get tb_X9_left 21 rfl) rfl ex5 ?_
      obtain ⟨p6, ep6, e⟩ := bs e
      refine V_callV (q := 44) (As := [.int x5]) (rest := []) (st' := [.int p6.1]) X (TB.get tb_X9_left 22 rfl) rfl cv_RX9_248 (ok_X9_gives a0 x5 h2 p6 ep6).1 (ok_X9_gives a0 x5 h2 p6 ep6).2 (Nat.le_of_ble_eq_true rfl) rfl rfl (Nat.le_of_ble_eq_true rfl) rfl ?_
      cases e
      exact V_iret X hr hlk (TB.get tb_X9_left 23 rfl)
    · have e := (if_neg hc).symm.trans e
      refine V_aload_n (q := 26) X (TB.get tb_X9_left 13 rfl) rfl rfl rfl ?_
      refine V_bipush (v := 6) (q := 28) X (TB.get tb_X9_left 14 rfl) c_bipush_6 rfl ?_
      obtain ⟨p7, ep7, e⟩ := bs e
      refine V_callV (q := 31) (As := [.int (6 : Int32)]) (rest := []) (st' := [.int p7.1]) X (TB.get tb_X9_left 15 rfl) rfl cv_RX9_242 (ok_X9_refuse a0 (6 : Int32) h2 p7 ep7).1 (ok_X9_refuse a0 (6 : Int32) h2 p7 ep7).2 (Nat.le_of_ble_eq_true rfl) rfl rfl (Nat.le_of_ble_eq_true rfl) rfl ?_
      refine V_goto (q := 44) X (TB.get tb_X9_left 16 rfl) rfl ?_
      cases e
      exact V_iret X hr hlk (TB.get tb_X9_left 23 rfl)
  · have e := (if_pos hc).symm.trans e
    refine V_aload_n (q := 9) X (TB.get tb_X9_left 4 rfl) rfl rfl rfl ?_
    refine V_iconst (v := 2) (q := 10) X (TB.get tb_X9_left 5 rfl) c_iconst_2 rfl ?_
    obtain ⟨p8, ep8, e⟩ := bs e
    refine V_callV (q := 13) (As := [.int (2 : Int32)]) (rest := []) (st' := [.int p8.1]) X (TB.get tb_X9_left 6 rfl) rfl cv_RX9_242 (ok_X9_refuse a0 (2 : Int32) h p8 ep8).1 (ok_X9_refuse a0 (2 : Int32) h p8 ep8).2 (Nat.le_of_ble_eq_true rfl) rfl rfl (Nat.le_of_ble_eq_true rfl) rfl ?_
    cases e
    exact V_iret X hr hlk (TB.get tb_X9_left 7 rfl)
set_option maxRecDepth 100000 in
set_option maxHeartbeats 4000000 in
theorem ok_X9_never (fu : Nat) (a0 : Nat) (a1 : Int32) (h : Hp) (res : Int32 × Hp) (e : MX9_never fu a0 a1 h = some res) : CK yX9_never cX9_never 6 (some .int) 14 [.ref a0, .int a1] h (some (.int res.1)) res.2 ∧ (h.1 a0).1 = 9 := by
  obtain ⟨hcl, e⟩ := h_g_inv e
  refine ⟨CK_of pn_RX9 cm_X9_never (Nat.le_of_ble_eq_true rfl) ?_, hcl⟩
  intro l D tc B nn p en s m args below meth c X hr hlk
  replace X : CX p (rmD 14) s m args c cX9_never 6 RX9 D tc 14 := X
  show V p l en (rmD 14) s m args below meth c 6 D tc B nn (Ar B nn) s.heap 0 0 (MQ below (QC D tc B nn (Ar B nn) (some (.int res.1)) res.2) args s 0 0 (Ar B nn)) h 0 [(0, .ref a0), (1, .int a1)] []
  refine V_iload_n (q := 1) X (TB.get tb_X9_never 0 rfl) rfl rfl rfl ?_
  refine V_iconst (v := -1) (q := 2) X (TB.get tb_X9_never 1 rfl) c_iconst_m1 rfl ?_
  refine V_icmp_ge (q := 5) (t := 11) X (TB.get tb_X9_never 2 rfl) rfl rfl (fun hc => ?_) (fun hc => ?_)
  · have e := (if_pos hc).symm.trans e
    refine V_aload_n (q := 12) X (TB.get tb_X9_never 7 rfl) rfl rfl rfl ?_
    obtain ⟨h1, eh1, e⟩ := bs e
    refine V_callV (q := 15) (As := []) (rest := []) (st' := []) X (TB.get tb_X9_never 8 rfl) rfl cv_RX9_445 (ok_X9_laysPaths fu a0 h h1 eh1).1 (ok_X9_laysPaths fu a0 h h1 eh1).2 (Nat.le_of_ble_eq_true rfl) rfl rfl (Nat.le_of_ble_eq_true rfl) rfl ?_
    refine V_aload_n (q := 16) X (TB.get tb_X9_never 9 rfl) rfl rfl rfl ?_
    obtain ⟨x2, ex2, e⟩ := bs e
    refine V_getI (q := 19) X (TB.get tb_X9_never 10 rfl) rfl lf_RX9_412 ex2 ?_
    refine V_if_eq (q := 22) (t := 29) X (TB.get tb_X9_never 11 rfl) rfl rfl (fun hc => ?_) (fun hc => ?_)
    · have e := (if_pos hc).symm.trans e
      refine V_iconst (v := 0) (q := 30) X (TB.get tb_X9_never 16 rfl) c_iconst_0 rfl ?_
      refine V_istore_n (q := 31) (lv' := [(2, .int (0 : Int32)), (0, .ref a0), (1, .int a1)]) X (TB.get tb_X9_never 17 rfl) rfl rfl (Nat.le_of_ble_eq_true rfl) rfl ?_
      refine V_iconst (v := 0) (q := 32) X (TB.get tb_X9_never 18 rfl) c_iconst_0 rfl ?_
      refine V_istore_n (q := 33) (lv' := [(3, .int (0 : Int32)), (2, .int (0 : Int32)), (0, .ref a0), (1, .int a1)]) X (TB.get tb_X9_never 19 rfl) rfl rfl (Nat.le_of_ble_eq_true rfl) rfl ?_
      refine jn_elim (P := (fun (k : Int32 → Option (Int32 × Hp)) => ∀ (v3 : Int32), k v3 = some res → V p l en (rmD 14) s m args below meth c 6 D tc B nn (Ar B nn) s.heap 0 0 (MQ below (QC D tc B nn (Ar B nn) (some (.int res.1)) res.2) args s 0 0 (Ar B nn)) h1 112 [(0, .ref a0), (1, .int a1), (2, .int v3)] [])) e ?_ (fun j4 Jj4 e => ?_)
      · intro v3 e
        refine V_iload_n (q := 113) X (TB.get tb_X9_never 58 rfl) rfl rfl rfl ?_
        refine V_iconst (v := -1) (q := 114) X (TB.get tb_X9_never 59 rfl) c_iconst_m1 rfl ?_
        refine V_icmp_ne (q := 117) (t := 125) X (TB.get tb_X9_never 60 rfl) rfl rfl (fun hc => ?_) (fun hc => ?_)
        · have e := (if_neg hc).symm.trans e
          refine V_aload_n (q := 126) X (TB.get tb_X9_never 65 rfl) rfl rfl rfl ?_
          refine V_iconst (v := 5) (q := 127) X (TB.get tb_X9_never 66 rfl) c_iconst_5 rfl ?_
          obtain ⟨p5, ep5, e⟩ := bs e
          refine V_callV (q := 130) (As := [.int (5 : Int32)]) (rest := []) (st' := [.int p5.1]) X (TB.get tb_X9_never 67 rfl) rfl cv_RX9_242 (ok_X9_refuse a0 (5 : Int32) h1 p5 ep5).1 (ok_X9_refuse a0 (5 : Int32) h1 p5 ep5).2 (Nat.le_of_ble_eq_true rfl) rfl rfl (Nat.le_of_ble_eq_true rfl) rfl ?_
          cases e
          exact V_iret X hr hlk (TB.get tb_X9_never 68 rfl)
        · have e := (if_pos hc).symm.trans e
          refine V_aload_n (q := 118) X (TB.get tb_X9_never 61 rfl) rfl rfl rfl ?_
          refine V_iload_n (q := 119) X (TB.get tb_X9_never 62 rfl) rfl rfl rfl ?_
          obtain ⟨p6, ep6, e⟩ := bs e
          refine V_callV (q := 122) (As := [.int v3]) (rest := []) (st' := [.int p6.1]) X (TB.get tb_X9_never 63 rfl) rfl cv_RX9_248 (ok_X9_gives a0 v3 h1 p6 ep6).1 (ok_X9_gives a0 v3 h1 p6 ep6).2 (Nat.le_of_ble_eq_true rfl) rfl rfl (Nat.le_of_ble_eq_true rfl) rfl ?_
          refine V_goto (q := 130) X (TB.get tb_X9_never 64 rfl) rfl ?_
          cases e
          exact V_iret X hr hlk (TB.get tb_X9_never 68 rfl)
      refine jn_elim (P := (fun (k : Int32 → Option (Int32 × Hp)) => ∀ (v7 : Int32), k v7 = some res → V p l en (rmD 14) s m args below meth c 6 D tc B nn (Ar B nn) s.heap 0 0 (MQ below (QC D tc B nn (Ar B nn) (some (.int res.1)) res.2) args s 0 0 (Ar B nn)) h1 97 [(0, .ref a0), (3, .int v7)] [])) e ?_ (fun j8 Jj8 e => ?_)
      · intro v7 e
        refine V_aload_n (q := 98) X (TB.get tb_X9_never 51 rfl) rfl rfl rfl ?_
        refine V_iload_n (q := 99) X (TB.get tb_X9_never 52 rfl) rfl rfl rfl ?_
        obtain ⟨p9, ep9, e⟩ := bs e
        refine V_callV (q := 102) (As := [.int v7]) (rest := []) (st' := [.int p9.1]) X (TB.get tb_X9_never 53 rfl) rfl cv_RX9_248 (ok_X9_gives a0 v7 h1 p9 ep9).1 (ok_X9_gives a0 v7 h1 p9 ep9).2 (Nat.le_of_ble_eq_true rfl) rfl rfl (Nat.le_of_ble_eq_true rfl) rfl ?_
        cases e
        exact V_iret X hr hlk (TB.get tb_X9_never 54 rfl)
      refine V_sub (lv' := [(0, .ref a0), (1, .int a1), (2, .int (0 : Int32)), (3, .int (0 : Int32))]) [2, 3, 1, 0] rfl ?_
      refine wh2_elim (P := fun v10 v11 => V p l en (rmD 14) s m args below meth c 6 D tc B nn (Ar B nn) s.heap 0 0 (MQ below (QC D tc B nn (Ar B nn) (some (.int res.1)) res.2) args s 0 0 (Ar B nn)) h1 33 [(0, .ref a0), (1, .int a1), (2, .int v10), (3, .int v11)] []) (f := fu) ?_ e
      intro self12 v10 v11 ihself12 e
      unfold MX9_never_B33 at e
      refine V_iload_n (q := 34) X (TB.get tb_X9_never 20 rfl) rfl rfl rfl ?_
      refine V_aload_n (q := 35) X (TB.get tb_X9_never 21 rfl) rfl rfl rfl ?_
      obtain ⟨x13, ex13, e⟩ := bs e
      refine V_callV (q := 38) (As := []) (rest := [.int v11]) (st' := [.int x13, .int v11]) X (TB.get tb_X9_never 22 rfl) rfl cv_RX9_298 (ok_X9_statements a0 h1 x13 ex13).1 (ok_X9_statements a0 h1 x13 ex13).2 (Nat.le_of_ble_eq_true rfl) rfl rfl (Nat.le_of_ble_eq_true rfl) rfl ?_
      refine V_icmp_ge (q := 41) (t := 112) X (TB.get tb_X9_never 23 rfl) rfl rfl (fun hc => ?_) (fun hc => ?_)
      · have e := (if_pos hc).symm.trans e
        refine V_sub (lv' := [(0, .ref a0), (1, .int a1), (2, .int v10)]) [0, 1, 2] rfl ?_
        exact Jj4 _ e
      · have e := (if_neg hc).symm.trans e
        refine V_iconst (v := 0) (q := 42) X (TB.get tb_X9_never 24 rfl) c_iconst_0 rfl ?_
        refine V_istore (q := 44) (lv' := [(4, .int (0 : Int32)), (0, .ref a0), (1, .int a1), (2, .int v10), (3, .int v11)]) X (TB.get tb_X9_never 25 rfl) rfl (Nat.le_of_ble_eq_true rfl) rfl ?_
        refine V_iconst (v := 0) (q := 45) X (TB.get tb_X9_never 26 rfl) c_iconst_0 rfl ?_
        refine V_istore (q := 47) (lv' := [(5, .int (0 : Int32)), (4, .int (0 : Int32)), (0, .ref a0), (1, .int a1), (2, .int v10), (3, .int v11)]) X (TB.get tb_X9_never 27 rfl) rfl (Nat.le_of_ble_eq_true rfl) rfl ?_
        refine jn_elim (P := (fun (k : Int32 → Option (Int32 × Hp)) => ∀ (v14 : Int32), k v14 = some res → V p l en (rmD 14) s m args below meth c 6 D tc B nn (Ar B nn) s.heap 0 0 (MQ below (QC D tc B nn (Ar B nn) (some (.int res.1)) res.2) args s 0 0 (Ar B nn)) h1 84 [(0, .ref a0), (1, .int a1), (2, .int v10), (3, .int v11), (4, .int v14)] [])) e ?_ (fun j15 Jj15 e => ?_)
        · intro v14 e
          refine V_iload (q := 86) X (TB.get tb_X9_never 45 rfl) rfl rfl ?_
          refine jn_elim (P := (fun (k : Int32 → Option (Int32 × Hp)) => ∀ (v16 : Int32), k v16 = some res → V p l en (rmD 14) s m args below meth c 6 D tc B nn (Ar B nn) s.heap 0 0 (MQ below (QC D tc B nn (Ar B nn) (some (.int res.1)) res.2) args s 0 0 (Ar B nn)) h1 106 [(0, .ref a0), (1, .int a1), (2, .int v16), (3, .int v11)] [])) e ?_ (fun j17 Jj17 e => ?_)
          · intro v16 e
            refine V_iinc (q := 109) (v := v11 + (1 : Int32)) (lv' := [(3, .int (v11 + (1 : Int32))), (0, .ref a0), (1, .int a1), (2, .int v16)]) X (TB.get tb_X9_never 56 rfl) rfl rfl (by rw [c_iconst_1]) (Nat.le_of_ble_eq_true rfl) rfl ?_
            refine V_goto (q := 33) X (TB.get tb_X9_never 57 rfl) rfl ?_
            refine V_sub (lv' := [(0, .ref a0), (1, .int a1), (2, .int v16), (3, .int (v11 + (1 : Int32)))]) [1, 2, 3, 0] rfl ?_
            exact ihself12 _ _ e
          refine V_if_eq (q := 89) (t := 92) X (TB.get tb_X9_never 46 rfl) rfl rfl (fun hc => ?_) (fun hc => ?_)
          · have e := (if_pos hc).symm.trans e
            refine V_iload_n (q := 93) X (TB.get tb_X9_never 48 rfl) rfl rfl rfl ?_
            refine V_iload_n (q := 94) X (TB.get tb_X9_never 49 rfl) rfl rfl rfl ?_
            refine V_icmp_ne (q := 97) (t := 103) X (TB.get tb_X9_never 50 rfl) rfl rfl (fun hc => ?_) (fun hc => ?_)
            · have e := (if_neg hc).symm.trans e
              refine V_iinc (q := 106) (v := v10 + (1 : Int32)) (lv' := [(2, .int (v10 + (1 : Int32))), (0, .ref a0), (1, .int a1), (3, .int v11), (4, .int v14)]) X (TB.get tb_X9_never 55 rfl) rfl rfl (by rw [c_iconst_1]) (Nat.le_of_ble_eq_true rfl) rfl ?_
              refine V_sub (lv' := [(0, .ref a0), (1, .int a1), (2, .int (v10 + (1 : Int32))), (3, .int v11)]) [1, 2, 0, 3] rfl ?_
              exact Jj17 _ e
            · have e := (if_pos hc).symm.trans e
              refine V_sub (lv' := [(0, .ref a0), (3, .int v11)]) [0, 3] rfl ?_
              exact Jj8 _ e
          · have e := (if_neg hc).symm.trans e
            refine V_goto (q := 106) X (TB.get tb_X9_never 47 rfl) rfl ?_
            refine V_sub (lv' := [(0, .ref a0), (1, .int a1), (2, .int v10), (3, .int v11)]) [0, 1, 2, 3] rfl ?_
            exact Jj17 _ e
        refine V_sub (lv' := [(0, .ref a0), (1, .int a1), (2, .int v10), (3, .int v11), (4, .int (0 : Int32)), (5, .int (0 : Int32))]) [2, 3, 4, 5, 1, 0] rfl ?_
        refine wh2_elim (P := fun v18 v19 => V p l en (rmD 14) s m args below meth c 6 D tc B nn (Ar B nn) s.heap 0 0 (MQ below (QC D tc B nn (Ar B nn) (some (.int res.1)) res.2) args s 0 0 (Ar B nn)) h1 47 [(0, .ref a0), (1, .int a1), (2, .int v10), (3, .int v11), (4, .int v18), (5, .int v19)] []) (f := fu) ?_ e
        intro self20 v18 v19 ihself20 e
        unfold MX9_never_B47 at e
        refine V_iload (q := 49) X (TB.get tb_X9_never 28 rfl) rfl rfl ?_
        refine V_aload_n (q := 50) X (TB.get tb_X9_never 29 rfl) rfl rfl rfl ?_
        obtain ⟨x21, ex21, e⟩ := bs e
        refine V_getI (q := 53) X (TB.get tb_X9_never 30 rfl) rfl lf_RX9_409 ex21 ?_
        refine V_icmp_ge (q := 56) (t := 84) X (TB.get tb_X9_never 31 rfl) rfl rfl (fun hc => ?_) (fun hc => ?_)
        · have e := (if_pos hc).symm.trans e
          refine V_sub (lv' := [(0, .ref a0), (1, .int a1), (2, .int v10), (3, .int v11), (4, .int v18)]) [0, 1, 2, 3, 4] rfl ?_
          exact Jj15 _ e
        · have e := (if_neg hc).symm.trans e
          refine V_iload (q := 58) X (TB.get tb_X9_never 32 rfl) rfl rfl ?_
          refine jn_elim (P := (fun (k : Int32 → Option (Int32 × Hp)) => ∀ (w22 : Int32), k w22 = some res → V p l en (rmD 14) s m args below meth c 6 D tc B nn (Ar B nn) s.heap 0 0 (MQ below (QC D tc B nn (Ar B nn) (some (.int res.1)) res.2) args s 0 0 (Ar B nn)) h1 76 [(0, .ref a0), (1, .int a1), (2, .int v10), (3, .int v11), (5, .int v19)] [.int w22])) e ?_ (fun j23 Jj23 e => ?_)
          · intro w22 e
            refine V_istore (q := 78) (lv' := [(4, .int w22), (0, .ref a0), (1, .int a1), (2, .int v10), (3, .int v11), (5, .int v19)]) X (TB.get tb_X9_never 42 rfl) rfl (Nat.le_of_ble_eq_true rfl) rfl ?_
            refine V_iinc (q := 81) (v := v19 + (1 : Int32)) (lv' := [(5, .int (v19 + (1 : Int32))), (4, .int w22), (0, .ref a0), (1, .int a1), (2, .int v10), (3, .int v11)]) X (TB.get tb_X9_never 43 rfl) rfl rfl (by rw [c_iconst_1]) (Nat.le_of_ble_eq_true rfl) rfl ?_
            refine V_goto (q := 47) X (TB.get tb_X9_never 44 rfl) rfl ?_
            refine V_sub (lv' := [(0, .ref a0), (1, .int a1), (2, .int v10), (3, .int v11), (4, .int w22), (5, .int (v19 + (1 : Int32)))]) [2, 3, 4, 5, 1, 0] rfl ?_
            exact ihself20 _ _ e
          refine jn_elim (P := (fun (k : Option (Int32 × Hp)) => k = some res → V p l en (rmD 14) s m args below meth c 6 D tc B nn (Ar B nn) s.heap 0 0 (MQ below (QC D tc B nn (Ar B nn) (some (.int res.1)) res.2) args s 0 0 (Ar B nn)) h1 71 [(0, .ref a0), (1, .int a1), (2, .int v10), (3, .int v11), (5, .int v19)] [])) e ?_ (fun j24 Jj24 e => ?_)
          · intro e
            refine V_iconst (v := 1) (q := 72) X (TB.get tb_X9_never 39 rfl) c_iconst_1 rfl ?_
            refine V_goto (q := 76) X (TB.get tb_X9_never 40 rfl) rfl ?_
            exact Jj23 _ e
          refine V_if_ne (q := 61) (t := 71) X (TB.get tb_X9_never 33 rfl) rfl rfl (fun hc => ?_) (fun hc => ?_)
          · have e := (if_neg hc).symm.trans e
            refine V_sub (lv' := [(0, .ref a0), (1, .int a1), (2, .int v10), (3, .int v11), (5, .int v19)]) [0, 1, 2, 3, 5] rfl ?_
            exact Jj24 e
          · have e := (if_pos hc).symm.trans e
            refine V_aload_n (q := 62) X (TB.get tb_X9_never 34 rfl) rfl rfl rfl ?_
            refine V_iload (q := 64) X (TB.get tb_X9_never 35 rfl) rfl rfl ?_
            obtain ⟨x25, ex25, e⟩ := bs e
            refine V_callV (q := 67) (As := [.int v19]) (rest := []) (st' := [.int x25]) X (TB.get tb_X9_never 36 rfl) rfl cv_RX9_451 (ok_X9_placeOf a0 v19 h1 x25 ex25).1 (ok_X9_placeOf a0 v19 h1 x25 ex25).2 (Nat.le_of_ble_eq_true rfl) rfl rfl (Nat.le_of_ble_eq_true rfl) rfl ?_
            refine V_iload_n (q := 68) X (TB.get tb_X9_never 37 rfl) rfl rfl rfl ?_
            refine V_icmp_ne (q := 71) (t := 75) X (TB.get tb_X9_never 38 rfl) rfl rfl (fun hc => ?_) (fun hc => ?_)
            · have e := (if_neg hc).symm.trans e
              refine V_iconst (v := 0) (q := 76) X (TB.get tb_X9_never 41 rfl) c_iconst_0 rfl ?_
              refine V_sub (lv' := [(0, .ref a0), (1, .int a1), (2, .int v10), (3, .int v11), (5, .int v19)]) [0, 1, 2, 3, 5] rfl ?_
              exact Jj23 _ e
            · have e := (if_pos hc).symm.trans e
              refine V_sub (lv' := [(0, .ref a0), (1, .int a1), (2, .int v10), (3, .int v11), (5, .int v19)]) [0, 1, 2, 3, 5] rfl ?_
              exact Jj24 e
    · have e := (if_neg hc).symm.trans e
      refine V_aload_n (q := 23) X (TB.get tb_X9_never 12 rfl) rfl rfl rfl ?_
      refine V_bipush (v := 6) (q := 25) X (TB.get tb_X9_never 13 rfl) c_bipush_6 rfl ?_
      obtain ⟨p26, ep26, e⟩ := bs e
      refine V_callV (q := 28) (As := [.int (6 : Int32)]) (rest := []) (st' := [.int p26.1]) X (TB.get tb_X9_never 14 rfl) rfl cv_RX9_242 (ok_X9_refuse a0 (6 : Int32) h1 p26 ep26).1 (ok_X9_refuse a0 (6 : Int32) h1 p26 ep26).2 (Nat.le_of_ble_eq_true rfl) rfl rfl (Nat.le_of_ble_eq_true rfl) rfl ?_
      cases e
      exact V_iret X hr hlk (TB.get tb_X9_never 15 rfl)
  · have e := (if_neg hc).symm.trans e
    refine V_aload_n (q := 6) X (TB.get tb_X9_never 3 rfl) rfl rfl rfl ?_
    refine V_iconst (v := 1) (q := 7) X (TB.get tb_X9_never 4 rfl) c_iconst_1 rfl ?_
    obtain ⟨p27, ep27, e⟩ := bs e
    refine V_callV (q := 10) (As := [.int (1 : Int32)]) (rest := []) (st' := [.int p27.1]) X (TB.get tb_X9_never 5 rfl) rfl cv_RX9_242 (ok_X9_refuse a0 (1 : Int32) h p27 ep27).1 (ok_X9_refuse a0 (1 : Int32) h p27 ep27).2 (Nat.le_of_ble_eq_true rfl) rfl rfl (Nat.le_of_ble_eq_true rfl) rfl ?_
    cases e
    exact V_iret X hr hlk (TB.get tb_X9_never 6 rfl)
set_option maxRecDepth 100000 in
set_option maxHeartbeats 4000000 in
theorem ok_X9_drawsYes (a0 : Nat) (h : Hp) (res : Int32 × Hp) (e : MX9_drawsYes a0 h = some res) : CK yX9_drawsYes cX9_drawsYes 1 (some .boolean) 0 [.ref a0] h (some (.int res.1)) res.2 ∧ (h.1 a0).1 = 9 := by
  obtain ⟨hcl, e⟩ := h_g_inv e
  refine ⟨CK_of pn_RX9 cm_X9_drawsYes (Nat.le_of_ble_eq_true rfl) ?_, hcl⟩
  intro l D tc B nn p en s m args below meth c X hr hlk
  replace X : CX p (rmD 0) s m args c cX9_drawsYes 1 RX9 D tc 0 := X
  show V p l en (rmD 0) s m args below meth c 1 D tc B nn (Ar B nn) s.heap 0 0 (MQ below (QC D tc B nn (Ar B nn) (some (.int res.1)) res.2) args s 0 0 (Ar B nn)) h 0 [(0, .ref a0)] []
  refine V_aload_n (q := 1) X (TB.get tb_X9_drawsYes 0 rfl) rfl rfl rfl ?_
  refine V_bipush (v := 75) (q := 3) X (TB.get tb_X9_drawsYes 1 rfl) c_bipush_75 rfl ?_
  refine V_aload_n (q := 4) X (TB.get tb_X9_drawsYes 2 rfl) rfl rfl rfl ?_
  obtain ⟨x1, ex1, e⟩ := bs e
  refine V_getI (q := 7) X (TB.get tb_X9_drawsYes 3 rfl) rfl lf_RX9_460 ex1 ?_
  refine V_imul (q := 8) X (TB.get tb_X9_drawsYes 4 rfl) rfl ?_
  refine V_bipush (v := 74) (q := 10) X (TB.get tb_X9_drawsYes 5 rfl) c_bipush_74 rfl ?_
  refine V_iadd (q := 11) X (TB.get tb_X9_drawsYes 6 rfl) rfl ?_
  refine V_ldcw (v := 65537) (q := 14) X (TB.get tb_X9_drawsYes 7 rfl) rfl kc_RX9_463 ?_
  obtain ⟨x2, ex2, e⟩ := bs e
  refine V_irem (q := 15) X (TB.get tb_X9_drawsYes 8 rfl) rfl ex2 ?_
  obtain ⟨h3, eh3, e⟩ := bs e
  refine V_putI (q := 18) X (TB.get tb_X9_drawsYes 9 rfl) rfl lq_RX9_460 eh3 ?_
  refine V_aload_n (q := 19) X (TB.get tb_X9_drawsYes 10 rfl) rfl rfl rfl ?_
  obtain ⟨x4, ex4, e⟩ := bs e
  refine V_getI (q := 22) X (TB.get tb_X9_drawsYes 11 rfl) rfl lf_RX9_460 ex4 ?_
  refine V_iconst (v := 2) (q := 23) X (TB.get tb_X9_drawsYes 12 rfl) c_iconst_2 rfl ?_
  obtain ⟨x5, ex5, e⟩ := bs e
  refine V_irem (q := 24) X (TB.get tb_X9_drawsYes 13 rfl) rfl ex5 ?_
  refine V_if_ne (q := 27) (t := 31) X (TB.get tb_X9_drawsYes 14 rfl) rfl rfl (fun hc => ?_) (fun hc => ?_)
  · have e := (if_neg hc).symm.trans e
    refine V_iconst (v := 0) (q := 32) X (TB.get tb_X9_drawsYes 17 rfl) c_iconst_0 rfl ?_
    cases e
    exact V_zret X hr hlk (Or.inl rfl) (TB.get tb_X9_drawsYes 18 rfl)
  · have e := (if_pos hc).symm.trans e
    refine V_iconst (v := 1) (q := 28) X (TB.get tb_X9_drawsYes 15 rfl) c_iconst_1 rfl ?_
    refine V_goto (q := 32) X (TB.get tb_X9_drawsYes 16 rfl) rfl ?_
    cases e
    exact V_zret X hr hlk (Or.inr rfl) (TB.get tb_X9_drawsYes 18 rfl)
set_option maxRecDepth 100000 in
set_option maxHeartbeats 4000000 in
theorem ok_X9_asksWrong (a0 : Nat) (a1 : Int32) (h : Hp) (res : Int32) (e : MX9_asksWrong a0 a1 h = some res) : CK yX9_asksWrong cX9_asksWrong 3 (some .int) 4 [.ref a0, .int a1] h (some (.int res)) h ∧ (h.1 a0).1 = 9 := by
  obtain ⟨hcl, e⟩ := h_g_inv e
  refine ⟨CK_of pn_RX9 cm_X9_asksWrong (Nat.le_of_ble_eq_true rfl) ?_, hcl⟩
  intro l D tc B nn p en s m args below meth c X hr hlk
  replace X : CX p (rmD 4) s m args c cX9_asksWrong 3 RX9 D tc 4 := X
  show V p l en (rmD 4) s m args below meth c 3 D tc B nn (Ar B nn) s.heap 0 0 (MQ below (QC D tc B nn (Ar B nn) (some (.int res)) h) args s 0 0 (Ar B nn)) h 0 [(0, .ref a0), (1, .int a1)] []
  refine V_aload_n (q := 1) X (TB.get tb_X9_asksWrong 0 rfl) rfl rfl rfl ?_
  obtain ⟨x1, ex1, e⟩ := bs e
  refine V_getR (q := 4) X (TB.get tb_X9_asksWrong 1 rfl) rfl lf_RX9_13 ex1 ?_
  refine V_sipush (v := 373) (q := 7) X (TB.get tb_X9_asksWrong 2 rfl) c_sipush_373 rfl ?_
  refine V_iload_n (q := 8) X (TB.get tb_X9_asksWrong 3 rfl) rfl rfl rfl ?_
  refine V_iadd (q := 9) X (TB.get tb_X9_asksWrong 4 rfl) rfl ?_
  obtain ⟨x2, ex2, e⟩ := bs e
  refine V_iaload (q := 10) X (TB.get tb_X9_asksWrong 5 rfl) rfl ex2 ?_
  refine V_istore_n (q := 11) (lv' := [(2, .int x2), (0, .ref a0), (1, .int a1)]) X (TB.get tb_X9_asksWrong 6 rfl) rfl rfl (Nat.le_of_ble_eq_true rfl) rfl ?_
  refine V_aload_n (q := 12) X (TB.get tb_X9_asksWrong 7 rfl) rfl rfl rfl ?_
  obtain ⟨x3, ex3, e⟩ := bs e
  refine V_getR (q := 15) X (TB.get tb_X9_asksWrong 8 rfl) rfl lf_RX9_73 ex3 ?_
  refine V_iload_n (q := 16) X (TB.get tb_X9_asksWrong 9 rfl) rfl rfl rfl ?_
  obtain ⟨x4, ex4, e⟩ := bs e
  refine V_iaload (q := 17) X (TB.get tb_X9_asksWrong 10 rfl) rfl ex4 ?_
  refine V_iconst (v := -1) (q := 18) X (TB.get tb_X9_asksWrong 11 rfl) c_iconst_m1 rfl ?_
  refine V_icmp_ne (q := 21) (t := 23) X (TB.get tb_X9_asksWrong 12 rfl) rfl rfl (fun hc => ?_) (fun hc => ?_)
  · have e := (if_neg hc).symm.trans e
    refine V_aload_n (q := 24) X (TB.get tb_X9_asksWrong 15 rfl) rfl rfl rfl ?_
    obtain ⟨x5, ex5, e⟩ := bs e
    refine V_getR (q := 27) X (TB.get tb_X9_asksWrong 16 rfl) rfl lf_RX9_76 ex5 ?_
    refine V_iload_n (q := 28) X (TB.get tb_X9_asksWrong 17 rfl) rfl rfl rfl ?_
    obtain ⟨x6, ex6, e⟩ := bs e
    refine V_iaload (q := 29) X (TB.get tb_X9_asksWrong 18 rfl) rfl ex6 ?_
    refine V_iconst (v := 2) (q := 30) X (TB.get tb_X9_asksWrong 19 rfl) c_iconst_2 rfl ?_
    refine V_icmp_ne (q := 33) (t := 37) X (TB.get tb_X9_asksWrong 20 rfl) rfl rfl (fun hc => ?_) (fun hc => ?_)
    · have e := (if_neg hc).symm.trans e
      refine V_aload_n (q := 38) X (TB.get tb_X9_asksWrong 23 rfl) rfl rfl rfl ?_
      refine V_aload_n (q := 39) X (TB.get tb_X9_asksWrong 24 rfl) rfl rfl rfl ?_
      refine V_getR (q := 42) X (TB.get tb_X9_asksWrong 25 rfl) rfl lf_RX9_13 ex1 ?_
      refine V_sipush (v := 327) (q := 45) X (TB.get tb_X9_asksWrong 26 rfl) c_sipush_327 rfl ?_
      refine V_iload_n (q := 46) X (TB.get tb_X9_asksWrong 27 rfl) rfl rfl rfl ?_
      refine V_iadd (q := 47) X (TB.get tb_X9_asksWrong 28 rfl) rfl ?_
      obtain ⟨x7, ex7, e⟩ := bs e
      refine V_iaload (q := 48) X (TB.get tb_X9_asksWrong 29 rfl) rfl ex7 ?_
      refine V_aload_n (q := 49) X (TB.get tb_X9_asksWrong 30 rfl) rfl rfl rfl ?_
      refine V_getR (q := 52) X (TB.get tb_X9_asksWrong 31 rfl) rfl lf_RX9_13 ex1 ?_
      refine V_sipush (v := 453) (q := 55) X (TB.get tb_X9_asksWrong 32 rfl) c_sipush_453 rfl ?_
      refine V_iload_n (q := 56) X (TB.get tb_X9_asksWrong 33 rfl) rfl rfl rfl ?_
      refine V_iadd (q := 57) X (TB.get tb_X9_asksWrong 34 rfl) rfl ?_
      obtain ⟨x8, ex8, e⟩ := bs e
      refine V_iaload (q := 58) X (TB.get tb_X9_asksWrong 35 rfl) rfl ex8 ?_
      refine V_aload_n (q := 59) X (TB.get tb_X9_asksWrong 36 rfl) rfl rfl rfl ?_
      obtain ⟨x9, ex9, e⟩ := bs e
      refine V_getR (q := 62) X (TB.get tb_X9_asksWrong 37 rfl) rfl lf_RX9_79 ex9 ?_
      refine V_iload_n (q := 63) X (TB.get tb_X9_asksWrong 38 rfl) rfl rfl rfl ?_
      obtain ⟨x10, ex10, e⟩ := bs e
      refine V_iaload (q := 64) X (TB.get tb_X9_asksWrong 39 rfl) rfl ex10 ?_
      obtain ⟨x11, ex11, e⟩ := bs e
      refine V_callV (q := 67) (As := [.int x7, .int x8, .int x10]) (rest := []) (st' := [.int x11]) X (TB.get tb_X9_asksWrong 40 rfl) rfl cv_RX9_261 (ok_X9_canBe a0 x7 x8 x10 h x11 ex11).1 (ok_X9_canBe a0 x7 x8 x10 h x11 ex11).2 (Nat.le_of_ble_eq_true rfl) rfl rfl (Nat.le_of_ble_eq_true rfl) rfl ?_
      refine V_if_eq (q := 70) (t := 74) X (TB.get tb_X9_asksWrong 41 rfl) rfl rfl (fun hc => ?_) (fun hc => ?_)
      · have e := (if_pos hc).symm.trans e
        refine V_iconst (v := 4) (q := 75) X (TB.get tb_X9_asksWrong 44 rfl) c_iconst_4 rfl ?_
        cases e
        exact V_iret X hr hlk (TB.get tb_X9_asksWrong 45 rfl)
      · have e := (if_neg hc).symm.trans e
        refine V_iconst (v := 0) (q := 71) X (TB.get tb_X9_asksWrong 42 rfl) c_iconst_0 rfl ?_
        refine V_goto (q := 75) X (TB.get tb_X9_asksWrong 43 rfl) rfl ?_
        cases e
        exact V_iret X hr hlk (TB.get tb_X9_asksWrong 45 rfl)
    · have e := (if_pos hc).symm.trans e
      refine V_iconst (v := 3) (q := 34) X (TB.get tb_X9_asksWrong 21 rfl) c_iconst_3 rfl ?_
      refine V_goto (q := 75) X (TB.get tb_X9_asksWrong 22 rfl) rfl ?_
      cases e
      exact V_iret X hr hlk (TB.get tb_X9_asksWrong 45 rfl)
  · have e := (if_pos hc).symm.trans e
    refine V_iconst (v := 1) (q := 22) X (TB.get tb_X9_asksWrong 13 rfl) c_iconst_1 rfl ?_
    cases e
    exact V_iret X hr hlk (TB.get tb_X9_asksWrong 14 rfl)
set_option maxRecDepth 100000 in
set_option maxHeartbeats 4000000 in
theorem ok_X9_stands (fu : Nat) (a0 : Nat) (h : Hp) (res : Int32 × Hp) (e : MX9_stands fu a0 h = some res) : CK yX9_stands cX9_stands 5 (some .int) 12 [.ref a0] h (some (.int res.1)) res.2 ∧ (h.1 a0).1 = 9 := by
  obtain ⟨hcl, e⟩ := h_g_inv e
  refine ⟨CK_of pn_RX9 cm_X9_stands (Nat.le_of_ble_eq_true rfl) ?_, hcl⟩
  intro l D tc B nn p en s m args below meth c X hr hlk
  replace X : CX p (rmD 12) s m args c cX9_stands 5 RX9 D tc 12 := X
  show V p l en (rmD 12) s m args below meth c 5 D tc B nn (Ar B nn) s.heap 0 0 (MQ below (QC D tc B nn (Ar B nn) (some (.int res.1)) res.2) args s 0 0 (Ar B nn)) h 0 [(0, .ref a0)] []
  refine V_aload_n (q := 1) X (TB.get tb_X9_stands 0 rfl) rfl rfl rfl ?_
  obtain ⟨x1, ex1, e⟩ := bs e
  refine V_getI (q := 4) X (TB.get tb_X9_stands 1 rfl) rfl lf_RX9_464 ex1 ?_
  refine V_istore_n (q := 5) (lv' := [(1, .int x1), (0, .ref a0)]) X (TB.get tb_X9_stands 2 rfl) rfl rfl (Nat.le_of_ble_eq_true rfl) rfl ?_
  refine V_aload_n (q := 6) X (TB.get tb_X9_stands 3 rfl) rfl rfl rfl ?_
  refine V_iload_n (q := 7) X (TB.get tb_X9_stands 4 rfl) rfl rfl rfl ?_
  obtain ⟨x2, ex2, e⟩ := bs e
  refine V_callV (q := 10) (As := [.int x1]) (rest := []) (st' := [.int x2]) X (TB.get tb_X9_stands 5 rfl) rfl cv_RX9_304 (ok_X9_sortAt a0 x1 h x2 ex2).1 (ok_X9_sortAt a0 x1 h x2 ex2).2 (Nat.le_of_ble_eq_true rfl) rfl rfl (Nat.le_of_ble_eq_true rfl) rfl ?_
  refine V_istore_n (q := 11) (lv' := [(2, .int x2), (1, .int x1), (0, .ref a0)]) X (TB.get tb_X9_stands 6 rfl) rfl rfl (Nat.le_of_ble_eq_true rfl) rfl ?_
  refine V_aload_n (q := 12) X (TB.get tb_X9_stands 7 rfl) rfl rfl rfl ?_
  refine V_dup (q := 13) X (TB.get tb_X9_stands 8 rfl) rfl rfl ?_
  obtain ⟨x3, ex3, e⟩ := bs e
  refine V_getI (q := 16) X (TB.get tb_X9_stands 9 rfl) rfl lf_RX9_467 ex3 ?_
  refine V_iconst (v := 1) (q := 17) X (TB.get tb_X9_stands 10 rfl) c_iconst_1 rfl ?_
  refine V_iadd (q := 18) X (TB.get tb_X9_stands 11 rfl) rfl ?_
  obtain ⟨h4, eh4, e⟩ := bs e
  refine V_putI (q := 21) X (TB.get tb_X9_stands 12 rfl) rfl lq_RX9_467 eh4 ?_
  refine V_iload_n (q := 22) X (TB.get tb_X9_stands 13 rfl) rfl rfl rfl ?_
  refine V_bipush (v := 9) (q := 24) X (TB.get tb_X9_stands 14 rfl) c_bipush_9 rfl ?_
  refine V_icmp_lt (q := 27) (t := 53) X (TB.get tb_X9_stands 15 rfl) rfl rfl (fun hc => ?_) (fun hc => ?_)
  · have e := (if_pos hc).symm.trans e
    refine V_iload_n (q := 54) X (TB.get tb_X9_stands 30 rfl) rfl rfl rfl ?_
    obtain ⟨x5, ex5, e⟩ := bs e
    refine V_callS (q := 57) (As := [.int x2]) (rest := []) (st' := [.int x5]) X (TB.get tb_X9_stands 31 rfl) rfl cs_RX9_219 (ok_X9_isAsked x2 h4 x5 ex5) (Nat.le_of_ble_eq_true rfl) rfl rfl (Nat.le_of_ble_eq_true rfl) rfl ?_
    refine V_if_ne (q := 60) (t := 115) X (TB.get tb_X9_stands 32 rfl) rfl rfl (fun hc => ?_) (fun hc => ?_)
    · have e := (if_neg hc).symm.trans e
      refine V_aload_n (q := 116) X (TB.get tb_X9_stands 65 rfl) rfl rfl rfl ?_
      refine V_iload_n (q := 117) X (TB.get tb_X9_stands 66 rfl) rfl rfl rfl ?_
      obtain ⟨x6, ex6, e⟩ := bs e
      refine V_callV (q := 120) (As := [.int x1]) (rest := []) (st' := [.int x6]) X (TB.get tb_X9_stands 67 rfl) rfl cv_RX9_476 (ok_X9_asksWrong a0 x1 h4 x6 ex6).1 (ok_X9_asksWrong a0 x1 h4 x6 ex6).2 (Nat.le_of_ble_eq_true rfl) rfl rfl (Nat.le_of_ble_eq_true rfl) rfl ?_
      refine V_istore_n (q := 121) (lv' := [(3, .int x6), (2, .int x2), (1, .int x1), (0, .ref a0)]) X (TB.get tb_X9_stands 68 rfl) rfl rfl (Nat.le_of_ble_eq_true rfl) rfl ?_
      refine V_iload_n (q := 122) X (TB.get tb_X9_stands 69 rfl) rfl rfl rfl ?_
      refine V_if_le (q := 125) (t := 127) X (TB.get tb_X9_stands 70 rfl) rfl rfl (fun hc => ?_) (fun hc => ?_)
      · have e := (if_pos hc).symm.trans e
        refine V_aload_n (q := 128) X (TB.get tb_X9_stands 73 rfl) rfl rfl rfl ?_
        obtain ⟨p7, ep7, e⟩ := bs e
        refine V_callV (q := 131) (As := []) (rest := []) (st' := [.int p7.1]) X (TB.get tb_X9_stands 74 rfl) rfl cv_RX9_470 (ok_X9_drawsYes a0 h4 p7 ep7).1 (ok_X9_drawsYes a0 h4 p7 ep7).2 (Nat.le_of_ble_eq_true rfl) rfl rfl (Nat.le_of_ble_eq_true rfl) rfl ?_
        refine V_istore (q := 133) (lv' := [(4, .int p7.1), (3, .int x6), (2, .int x2), (1, .int x1), (0, .ref a0)]) X (TB.get tb_X9_stands 75 rfl) rfl (Nat.le_of_ble_eq_true rfl) rfl ?_
        refine V_aload_n (q := 134) X (TB.get tb_X9_stands 76 rfl) rfl rfl rfl ?_
        refine V_iload_n (q := 135) X (TB.get tb_X9_stands 77 rfl) rfl rfl rfl ?_
        refine V_iload (q := 137) X (TB.get tb_X9_stands 78 rfl) rfl rfl ?_
        refine V_iconst (v := 0) (q := 138) X (TB.get tb_X9_stands 79 rfl) c_iconst_0 rfl ?_
        obtain ⟨p8, ep8, e⟩ := bs e
        refine V_callV (q := 141) (As := [.int x1, .int p7.1, .int (0 : Int32)]) (rest := []) (st' := [.int p8.1]) X (TB.get tb_X9_stands 80 rfl) rfl cv_RX9_435 (ok_X9_does fu a0 x1 p7.1 (0 : Int32) p7.2 p8 ep8).1 (ok_X9_does fu a0 x1 p7.1 (0 : Int32) p7.2 p8 ep8).2 (Nat.le_of_ble_eq_true rfl) rfl rfl (Nat.le_of_ble_eq_true rfl) rfl ?_
        refine V_istore_n (q := 142) (lv' := [(3, .int p8.1), (4, .int p7.1), (2, .int x2), (1, .int x1), (0, .ref a0)]) X (TB.get tb_X9_stands 81 rfl) rfl rfl (Nat.le_of_ble_eq_true rfl) rfl ?_
        refine V_aload_n (q := 143) X (TB.get tb_X9_stands 82 rfl) rfl rfl rfl ?_
        refine V_iload (q := 145) X (TB.get tb_X9_stands 83 rfl) rfl rfl ?_
        refine jn_elim (P := (fun (k : Int32 → Option (Int32 × Hp)) => ∀ (w9 : Int32), k w9 = some res → V p l en (rmD 12) s m args below meth c 5 D tc B nn (Ar B nn) s.heap 0 0 (MQ below (QC D tc B nn (Ar B nn) (some (.int res.1)) res.2) args s 0 0 (Ar B nn)) p8.2 161 [(3, .int p8.1)] [.int w9, .ref a0])) e ?_ (fun j10 Jj10 e => ?_)
        · intro w9 e
          obtain ⟨h11, eh11, e⟩ := bs e
          refine V_putI (q := 164) X (TB.get tb_X9_stands 92 rfl) rfl lq_RX9_464 eh11 ?_
          refine V_iload_n (q := 165) X (TB.get tb_X9_stands 93 rfl) rfl rfl rfl ?_
          cases e
          exact V_iret X hr hlk (TB.get tb_X9_stands 94 rfl)
        refine V_if_eq (q := 148) (t := 156) X (TB.get tb_X9_stands 84 rfl) rfl rfl (fun hc => ?_) (fun hc => ?_)
        · have e := (if_pos hc).symm.trans e
          refine V_aload_n (q := 157) X (TB.get tb_X9_stands 89 rfl) rfl rfl rfl ?_
          refine V_iload_n (q := 158) X (TB.get tb_X9_stands 90 rfl) rfl rfl rfl ?_
          obtain ⟨x12, ex12, e⟩ := bs e
          refine V_callV (q := 161) (As := [.int x1]) (rest := [.ref a0]) (st' := [.int x12, .ref a0]) X (TB.get tb_X9_stands 91 rfl) rfl cv_RX9_322 (ok_X9_byNo fu a0 x1 p8.2 x12 ex12).1 (ok_X9_byNo fu a0 x1 p8.2 x12 ex12).2 (Nat.le_of_ble_eq_true rfl) rfl rfl (Nat.le_of_ble_eq_true rfl) rfl ?_
          refine V_sub (lv' := [(3, .int p8.1)]) [0] rfl ?_
          exact Jj10 _ e
        · have e := (if_neg hc).symm.trans e
          refine V_aload_n (q := 149) X (TB.get tb_X9_stands 85 rfl) rfl rfl rfl ?_
          refine V_iload_n (q := 150) X (TB.get tb_X9_stands 86 rfl) rfl rfl rfl ?_
          obtain ⟨x13, ex13, e⟩ := bs e
          refine V_callV (q := 153) (As := [.int x1]) (rest := [.ref a0]) (st' := [.int x13, .ref a0]) X (TB.get tb_X9_stands 87 rfl) rfl cv_RX9_319 (ok_X9_byYes fu a0 x1 p8.2 x13 ex13).1 (ok_X9_byYes fu a0 x1 p8.2 x13 ex13).2 (Nat.le_of_ble_eq_true rfl) rfl rfl (Nat.le_of_ble_eq_true rfl) rfl ?_
          refine V_goto (q := 161) X (TB.get tb_X9_stands 88 rfl) rfl ?_
          refine V_sub (lv' := [(3, .int p8.1)]) [0] rfl ?_
          exact Jj10 _ e
      · have e := (if_neg hc).symm.trans e
        refine V_iload_n (q := 126) X (TB.get tb_X9_stands 71 rfl) rfl rfl rfl ?_
        cases e
        exact V_iret X hr hlk (TB.get tb_X9_stands 72 rfl)
    · have e := (if_pos hc).symm.trans e
      refine V_aload_n (q := 61) X (TB.get tb_X9_stands 33 rfl) rfl rfl rfl ?_
      refine V_iload_n (q := 62) X (TB.get tb_X9_stands 34 rfl) rfl rfl rfl ?_
      refine V_iconst (v := 1) (q := 63) X (TB.get tb_X9_stands 35 rfl) c_iconst_1 rfl ?_
      refine V_bipush (v := 7) (q := 65) X (TB.get tb_X9_stands 36 rfl) c_bipush_7 rfl ?_
      refine V_aload_n (q := 66) X (TB.get tb_X9_stands 37 rfl) rfl rfl rfl ?_
      obtain ⟨x14, ex14, e⟩ := bs e
      refine V_getI (q := 69) X (TB.get tb_X9_stands 38 rfl) rfl lf_RX9_473 ex14 ?_
      refine V_iadd (q := 70) X (TB.get tb_X9_stands 39 rfl) rfl ?_
      obtain ⟨p15, ep15, e⟩ := bs e
      refine V_callV (q := 73) (As := [.int x1, .int (1 : Int32), .int ((7 : Int32) + x14)]) (rest := []) (st' := [.int p15.1]) X (TB.get tb_X9_stands 40 rfl) rfl cv_RX9_435 (ok_X9_does fu a0 x1 (1 : Int32) ((7 : Int32) + x14) h4 p15 ep15).1 (ok_X9_does fu a0 x1 (1 : Int32) ((7 : Int32) + x14) h4 p15 ep15).2 (Nat.le_of_ble_eq_true rfl) rfl rfl (Nat.le_of_ble_eq_true rfl) rfl ?_
      refine V_istore_n (q := 74) (lv' := [(3, .int p15.1), (2, .int x2), (1, .int x1), (0, .ref a0)]) X (TB.get tb_X9_stands 41 rfl) rfl rfl (Nat.le_of_ble_eq_true rfl) rfl ?_
      refine V_aload_n (q := 75) X (TB.get tb_X9_stands 42 rfl) rfl rfl rfl ?_
      refine V_dup (q := 76) X (TB.get tb_X9_stands 43 rfl) rfl rfl ?_
      obtain ⟨x16, ex16, e⟩ := bs e
      refine V_getI (q := 79) X (TB.get tb_X9_stands 44 rfl) rfl lf_RX9_473 ex16 ?_
      refine V_iload_n (q := 80) X (TB.get tb_X9_stands 45 rfl) rfl rfl rfl ?_
      refine jn_elim (P := (fun (k : Int32 → Option (Int32 × Hp)) => ∀ (w17 : Int32), k w17 = some res → V p l en (rmD 12) s m args below meth c 5 D tc B nn (Ar B nn) s.heap 0 0 (MQ below (QC D tc B nn (Ar B nn) (some (.int res.1)) res.2) args s 0 0 (Ar B nn)) p15.2 92 [(0, .ref a0), (1, .int x1), (3, .int p15.1)] [.int w17, .int x16, .ref a0])) e ?_ (fun j18 Jj18 e => ?_)
      · intro w17 e
        refine V_iadd (q := 93) X (TB.get tb_X9_stands 52 rfl) rfl ?_
        obtain ⟨h19, eh19, e⟩ := bs e
        refine V_putI (q := 96) X (TB.get tb_X9_stands 53 rfl) rfl lq_RX9_473 eh19 ?_
        refine V_aload_n (q := 97) X (TB.get tb_X9_stands 54 rfl) rfl rfl rfl ?_
        refine V_iload_n (q := 98) X (TB.get tb_X9_stands 55 rfl) rfl rfl rfl ?_
        refine jn_elim (P := (fun (k : Int32 → Option (Int32 × Hp)) => ∀ (w20 : Int32), k w20 = some res → V p l en (rmD 12) s m args below meth c 5 D tc B nn (Ar B nn) s.heap 0 0 (MQ below (QC D tc B nn (Ar B nn) (some (.int res.1)) res.2) args s 0 0 (Ar B nn)) h19 110 [(3, .int p15.1)] [.int w20, .ref a0])) e ?_ (fun j21 Jj21 e => ?_)
        · intro w20 e
          obtain ⟨h22, eh22, e⟩ := bs e
          refine V_putI (q := 113) X (TB.get tb_X9_stands 62 rfl) rfl lq_RX9_464 eh22 ?_
          refine V_iload_n (q := 114) X (TB.get tb_X9_stands 63 rfl) rfl rfl rfl ?_
          cases e
          exact V_iret X hr hlk (TB.get tb_X9_stands 64 rfl)
        refine V_if_ne (q := 101) (t := 109) X (TB.get tb_X9_stands 56 rfl) rfl rfl (fun hc => ?_) (fun hc => ?_)
        · have e := (if_neg hc).symm.trans e
          refine V_iload_n (q := 110) X (TB.get tb_X9_stands 61 rfl) rfl rfl rfl ?_
          refine V_sub (lv' := [(3, .int p15.1)]) [2] rfl ?_
          exact Jj21 _ e
        · have e := (if_pos hc).symm.trans e
          refine V_aload_n (q := 102) X (TB.get tb_X9_stands 57 rfl) rfl rfl rfl ?_
          refine V_iload_n (q := 103) X (TB.get tb_X9_stands 58 rfl) rfl rfl rfl ?_
          obtain ⟨x23, ex23, e⟩ := bs e
          refine V_callV (q := 106) (As := [.int x1]) (rest := [.ref a0]) (st' := [.int x23, .ref a0]) X (TB.get tb_X9_stands 59 rfl) rfl cv_RX9_319 (ok_X9_byYes fu a0 x1 h19 x23 ex23).1 (ok_X9_byYes fu a0 x1 h19 x23 ex23).2 (Nat.le_of_ble_eq_true rfl) rfl rfl (Nat.le_of_ble_eq_true rfl) rfl ?_
          refine V_goto (q := 110) X (TB.get tb_X9_stands 60 rfl) rfl ?_
          refine V_sub (lv' := [(3, .int p15.1)]) [2] rfl ?_
          exact Jj21 _ e
      refine jn_elim (P := (fun (k : Option (Int32 × Hp)) => k = some res → V p l en (rmD 12) s m args below meth c 5 D tc B nn (Ar B nn) s.heap 0 0 (MQ below (QC D tc B nn (Ar B nn) (some (.int res.1)) res.2) args s 0 0 (Ar B nn)) p15.2 91 [(0, .ref a0), (1, .int x1), (3, .int p15.1)] [.int x16, .ref a0])) e ?_ (fun j24 Jj24 e => ?_)
      · intro e
        refine V_iconst (v := 0) (q := 92) X (TB.get tb_X9_stands 51 rfl) c_iconst_0 rfl ?_
        exact Jj18 _ e
      refine V_if_ne (q := 83) (t := 91) X (TB.get tb_X9_stands 46 rfl) rfl rfl (fun hc => ?_) (fun hc => ?_)
      · have e := (if_neg hc).symm.trans e
        refine V_sub (lv' := [(0, .ref a0), (1, .int x1), (3, .int p15.1)]) [3, 2, 0] rfl ?_
        exact Jj24 e
      · have e := (if_pos hc).symm.trans e
        refine V_iload_n (q := 84) X (TB.get tb_X9_stands 47 rfl) rfl rfl rfl ?_
        refine V_if_ne (q := 87) (t := 91) X (TB.get tb_X9_stands 48 rfl) rfl rfl (fun hc => ?_) (fun hc => ?_)
        · have e := (if_neg hc).symm.trans e
          refine V_sub (lv' := [(0, .ref a0), (1, .int x1), (3, .int p15.1)]) [3, 2, 0] rfl ?_
          exact Jj24 e
        · have e := (if_pos hc).symm.trans e
          refine V_iconst (v := 1) (q := 88) X (TB.get tb_X9_stands 49 rfl) c_iconst_1 rfl ?_
          refine V_goto (q := 92) X (TB.get tb_X9_stands 50 rfl) rfl ?_
          refine V_sub (lv' := [(0, .ref a0), (1, .int x1), (3, .int p15.1)]) [3, 2, 0] rfl ?_
          exact Jj18 _ e
  · have e := (if_neg hc).symm.trans e
    refine V_aload_n (q := 28) X (TB.get tb_X9_stands 16 rfl) rfl rfl rfl ?_
    refine V_aload_n (q := 29) X (TB.get tb_X9_stands 17 rfl) rfl rfl rfl ?_
    obtain ⟨p25, ep25, e⟩ := bs e
    refine V_callV (q := 32) (As := []) (rest := [.ref a0]) (st' := [.int p25.1, .ref a0]) X (TB.get tb_X9_stands 18 rfl) rfl cv_RX9_470 (ok_X9_drawsYes a0 h4 p25 ep25).1 (ok_X9_drawsYes a0 h4 p25 ep25).2 (Nat.le_of_ble_eq_true rfl) rfl rfl (Nat.le_of_ble_eq_true rfl) rfl ?_
    refine jn_elim (P := (fun (k : Int32 → Option (Int32 × Hp)) => ∀ (w26 : Int32), k w26 = some res → V p l en (rmD 12) s m args below meth c 5 D tc B nn (Ar B nn) s.heap 0 0 (MQ below (QC D tc B nn (Ar B nn) (some (.int res.1)) res.2) args s 0 0 (Ar B nn)) p25.2 48 [] [.int w26, .ref a0])) e ?_ (fun j27 Jj27 e => ?_)
    · intro w26 e
      obtain ⟨h28, eh28, e⟩ := bs e
      refine V_putI (q := 51) X (TB.get tb_X9_stands 27 rfl) rfl lq_RX9_464 eh28 ?_
      refine V_iconst (v := 0) (q := 52) X (TB.get tb_X9_stands 28 rfl) c_iconst_0 rfl ?_
      cases e
      exact V_iret X hr hlk (TB.get tb_X9_stands 29 rfl)
    refine V_if_eq (q := 35) (t := 43) X (TB.get tb_X9_stands 19 rfl) rfl rfl (fun hc => ?_) (fun hc => ?_)
    · have e := (if_pos hc).symm.trans e
      refine V_aload_n (q := 44) X (TB.get tb_X9_stands 24 rfl) rfl rfl rfl ?_
      refine V_iload_n (q := 45) X (TB.get tb_X9_stands 25 rfl) rfl rfl rfl ?_
      obtain ⟨x29, ex29, e⟩ := bs e
      refine V_callV (q := 48) (As := [.int x1]) (rest := [.ref a0]) (st' := [.int x29, .ref a0]) X (TB.get tb_X9_stands 26 rfl) rfl cv_RX9_322 (ok_X9_byNo fu a0 x1 p25.2 x29 ex29).1 (ok_X9_byNo fu a0 x1 p25.2 x29 ex29).2 (Nat.le_of_ble_eq_true rfl) rfl rfl (Nat.le_of_ble_eq_true rfl) rfl ?_
      refine V_sub (lv' := []) [] rfl ?_
      exact Jj27 _ e
    · have e := (if_neg hc).symm.trans e
      refine V_aload_n (q := 36) X (TB.get tb_X9_stands 20 rfl) rfl rfl rfl ?_
      refine V_iload_n (q := 37) X (TB.get tb_X9_stands 21 rfl) rfl rfl rfl ?_
      obtain ⟨x30, ex30, e⟩ := bs e
      refine V_callV (q := 40) (As := [.int x1]) (rest := [.ref a0]) (st' := [.int x30, .ref a0]) X (TB.get tb_X9_stands 22 rfl) rfl cv_RX9_319 (ok_X9_byYes fu a0 x1 p25.2 x30 ex30).1 (ok_X9_byYes fu a0 x1 p25.2 x30 ex30).2 (Nat.le_of_ble_eq_true rfl) rfl rfl (Nat.le_of_ble_eq_true rfl) rfl ?_
      refine V_goto (q := 48) X (TB.get tb_X9_stands 23 rfl) rfl ?_
      refine V_sub (lv' := []) [] rfl ?_
      exact Jj27 _ e
set_option maxRecDepth 100000 in
set_option maxHeartbeats 4000000 in
theorem ok_X9_runsBy (fu : Nat) (a0 : Nat) (a1 : Int32) (h : Hp) (res : Hp) (e : MX9_runsBy fu a0 a1 h = some res) : CK yX9_runsBy cX9_runsBy 2 none 13 [.ref a0, .int a1] h none res ∧ (h.1 a0).1 = 9 := by
  obtain ⟨hcl, e⟩ := h_g_inv e
  refine ⟨CK_of pn_RX9 cm_X9_runsBy (Nat.le_of_ble_eq_true rfl) ?_, hcl⟩
  intro l D tc B nn p en s m args below meth c X hr hlk
  replace X : CX p (rmD 13) s m args c cX9_runsBy 2 RX9 D tc 13 := X
  show V p l en (rmD 13) s m args below meth c 2 D tc B nn (Ar B nn) s.heap 0 0 (MQ below (QC D tc B nn (Ar B nn) none res) args s 0 0 (Ar B nn)) h 0 [(0, .ref a0), (1, .int a1)] []
  refine V_aload_n (q := 1) X (TB.get tb_X9_runsBy 0 rfl) rfl rfl rfl ?_
  obtain ⟨h1, eh1, e⟩ := bs e
  refine V_callV (q := 4) (As := []) (rest := []) (st' := []) X (TB.get tb_X9_runsBy 1 rfl) rfl cv_RX9_316 (ok_X9_allIn fu a0 h h1 eh1).1 (ok_X9_allIn fu a0 h h1 eh1).2 (Nat.le_of_ble_eq_true rfl) rfl rfl (Nat.le_of_ble_eq_true rfl) rfl ?_
  refine V_aload_n (q := 5) X (TB.get tb_X9_runsBy 2 rfl) rfl rfl rfl ?_
  obtain ⟨h2, eh2, e⟩ := bs e
  refine V_callV (q := 8) (As := []) (rest := []) (st' := []) X (TB.get tb_X9_runsBy 3 rfl) rfl cv_RX9_439 (ok_X9_empty fu a0 h1 h2 eh2).1 (ok_X9_empty fu a0 h1 h2 eh2).2 (Nat.le_of_ble_eq_true rfl) rfl rfl (Nat.le_of_ble_eq_true rfl) rfl ?_
  refine V_aload_n (q := 9) X (TB.get tb_X9_runsBy 4 rfl) rfl rfl rfl ?_
  refine V_iload_n (q := 10) X (TB.get tb_X9_runsBy 5 rfl) rfl rfl rfl ?_
  obtain ⟨h3, eh3, e⟩ := bs e
  refine V_putI (q := 13) X (TB.get tb_X9_runsBy 6 rfl) rfl lq_RX9_460 eh3 ?_
  refine V_aload_n (q := 14) X (TB.get tb_X9_runsBy 7 rfl) rfl rfl rfl ?_
  refine V_iconst (v := 0) (q := 15) X (TB.get tb_X9_runsBy 8 rfl) c_iconst_0 rfl ?_
  obtain ⟨h4, eh4, e⟩ := bs e
  refine V_putI (q := 18) X (TB.get tb_X9_runsBy 9 rfl) rfl lq_RX9_467 eh4 ?_
  refine V_aload_n (q := 19) X (TB.get tb_X9_runsBy 10 rfl) rfl rfl rfl ?_
  refine V_iconst (v := 0) (q := 20) X (TB.get tb_X9_runsBy 11 rfl) c_iconst_0 rfl ?_
  obtain ⟨h5, eh5, e⟩ := bs e
  refine V_putI (q := 23) X (TB.get tb_X9_runsBy 12 rfl) rfl lq_RX9_479 eh5 ?_
  refine V_aload_n (q := 24) X (TB.get tb_X9_runsBy 13 rfl) rfl rfl rfl ?_
  refine V_iconst (v := 0) (q := 25) X (TB.get tb_X9_runsBy 14 rfl) c_iconst_0 rfl ?_
  obtain ⟨h6, eh6, e⟩ := bs e
  refine V_putI (q := 28) X (TB.get tb_X9_runsBy 15 rfl) rfl lq_RX9_473 eh6 ?_
  refine V_aload_n (q := 29) X (TB.get tb_X9_runsBy 16 rfl) rfl rfl rfl ?_
  refine V_aload_n (q := 30) X (TB.get tb_X9_runsBy 17 rfl) rfl rfl rfl ?_
  obtain ⟨x7, ex7, e⟩ := bs e
  refine V_callV (q := 33) (As := []) (rest := [.ref a0]) (st' := [.int x7, .ref a0]) X (TB.get tb_X9_runsBy 18 rfl) rfl cv_RX9_361 (ok_X9_firstPlace fu a0 h6 x7 ex7).1 (ok_X9_firstPlace fu a0 h6 x7 ex7).2 (Nat.le_of_ble_eq_true rfl) rfl rfl (Nat.le_of_ble_eq_true rfl) rfl ?_
  obtain ⟨h8, eh8, e⟩ := bs e
  refine V_putI (q := 36) X (TB.get tb_X9_runsBy 19 rfl) rfl lq_RX9_464 eh8 ?_
  refine jn_elim (P := (fun (k : Hp → Option (Hp)) => ∀ (h9 : Hp), k h9 = some res → V p l en (rmD 13) s m args below meth c 2 D tc B nn (Ar B nn) s.heap 0 0 (MQ below (QC D tc B nn (Ar B nn) none res) args s 0 0 (Ar B nn)) h9 80 [(0, .ref a0)] [])) e ?_ (fun j10 Jj10 e => ?_)
  · intro h9 e
    refine V_aload_n (q := 81) X (TB.get tb_X9_runsBy 39 rfl) rfl rfl rfl ?_
    obtain ⟨x11, ex11, e⟩ := bs e
    refine V_getI (q := 84) X (TB.get tb_X9_runsBy 40 rfl) rfl lf_RX9_479 ex11 ?_
    refine V_if_ne (q := 87) (t := 95) X (TB.get tb_X9_runsBy 41 rfl) rfl rfl (fun hc => ?_) (fun hc => ?_)
    · have e := (if_neg hc).symm.trans e
      cases e
      exact V_vret X hr hlk (TB.get tb_X9_runsBy 46 rfl)
    · have e := (if_pos hc).symm.trans e
      refine V_aload_n (q := 88) X (TB.get tb_X9_runsBy 42 rfl) rfl rfl rfl ?_
      refine V_aload_n (q := 89) X (TB.get tb_X9_runsBy 43 rfl) rfl rfl rfl ?_
      obtain ⟨p12, ep12, e⟩ := bs e
      refine V_callV (q := 92) (As := []) (rest := [.ref a0]) (st' := [.int p12.1, .ref a0]) X (TB.get tb_X9_runsBy 44 rfl) rfl cv_RX9_428 (ok_X9_finishes fu a0 h9 p12 ep12).1 (ok_X9_finishes fu a0 h9 p12 ep12).2 (Nat.le_of_ble_eq_true rfl) rfl rfl (Nat.le_of_ble_eq_true rfl) rfl ?_
      obtain ⟨h13, eh13, e⟩ := bs e
      refine V_putI (q := 95) X (TB.get tb_X9_runsBy 45 rfl) rfl lq_RX9_479 eh13 ?_
      cases e
      exact V_vret X hr hlk (TB.get tb_X9_runsBy 46 rfl)
  refine V_sub (lv' := [(0, .ref a0)]) [0] rfl ?_
  refine wh1_elim (P := fun h14 => V p l en (rmD 13) s m args below meth c 2 D tc B nn (Ar B nn) s.heap 0 0 (MQ below (QC D tc B nn (Ar B nn) none res) args s 0 0 (Ar B nn)) h14 36 [(0, .ref a0)] []) (f := fu) ?_ e
  intro self15 h14 ihself15 e
  unfold MX9_runsBy_B36 at e
  refine V_aload_n (q := 37) X (TB.get tb_X9_runsBy 20 rfl) rfl rfl rfl ?_
  obtain ⟨x16, ex16, e⟩ := bs e
  refine V_getI (q := 40) X (TB.get tb_X9_runsBy 21 rfl) rfl lf_RX9_479 ex16 ?_
  refine V_if_ne (q := 43) (t := 80) X (TB.get tb_X9_runsBy 22 rfl) rfl rfl (fun hc => ?_) (fun hc => ?_)
  · have e := (if_neg hc).symm.trans e
    exact Jj10 _ e
  · have e := (if_pos hc).symm.trans e
    refine V_aload_n (q := 44) X (TB.get tb_X9_runsBy 23 rfl) rfl rfl rfl ?_
    obtain ⟨x17, ex17, e⟩ := bs e
    refine V_getI (q := 47) X (TB.get tb_X9_runsBy 24 rfl) rfl lf_RX9_464 ex17 ?_
    refine V_aload_n (q := 48) X (TB.get tb_X9_runsBy 25 rfl) rfl rfl rfl ?_
    obtain ⟨x18, ex18, e⟩ := bs e
    refine V_callV (q := 51) (As := []) (rest := [.int x17]) (st' := [.int x18, .int x17]) X (TB.get tb_X9_runsBy 26 rfl) rfl cv_RX9_298 (ok_X9_statements a0 h14 x18 ex18).1 (ok_X9_statements a0 h14 x18 ex18).2 (Nat.le_of_ble_eq_true rfl) rfl rfl (Nat.le_of_ble_eq_true rfl) rfl ?_
    refine V_icmp_eq (q := 54) (t := 80) X (TB.get tb_X9_runsBy 27 rfl) rfl rfl (fun hc => ?_) (fun hc => ?_)
    · have e := (if_pos hc).symm.trans e
      exact Jj10 _ e
    · have e := (if_neg hc).symm.trans e
      refine V_aload_n (q := 55) X (TB.get tb_X9_runsBy 28 rfl) rfl rfl rfl ?_
      refine V_aload_n (q := 56) X (TB.get tb_X9_runsBy 29 rfl) rfl rfl rfl ?_
      obtain ⟨x19, ex19, e⟩ := bs e
      refine V_getI (q := 59) X (TB.get tb_X9_runsBy 30 rfl) rfl lf_RX9_467 ex19 ?_
      refine V_sipush (v := 300) (q := 62) X (TB.get tb_X9_runsBy 31 rfl) c_sipush_300 rfl ?_
      refine jn_elim (P := (fun (k : Int32 → Hp → Option (Hp)) => ∀ (w20 : Int32) (h21 : Hp), k w20 h21 = some res → V p l en (rmD 13) s m args below meth c 2 D tc B nn (Ar B nn) s.heap 0 0 (MQ below (QC D tc B nn (Ar B nn) none res) args s 0 0 (Ar B nn)) h21 74 [(0, .ref a0)] [.int w20, .ref a0])) e ?_ (fun j22 Jj22 e => ?_)
      · intro w20 h21 e
        obtain ⟨h23, eh23, e⟩ := bs e
        refine V_putI (q := 77) X (TB.get tb_X9_runsBy 37 rfl) rfl lq_RX9_479 eh23 ?_
        refine V_goto (q := 36) X (TB.get tb_X9_runsBy 38 rfl) rfl ?_
        exact ihself15 _ e
      refine V_icmp_ne (q := 65) (t := 70) X (TB.get tb_X9_runsBy 32 rfl) rfl rfl (fun hc => ?_) (fun hc => ?_)
      · have e := (if_neg hc).symm.trans e
        refine V_aload_n (q := 71) X (TB.get tb_X9_runsBy 35 rfl) rfl rfl rfl ?_
        obtain ⟨p24, ep24, e⟩ := bs e
        refine V_callV (q := 74) (As := []) (rest := [.ref a0]) (st' := [.int p24.1, .ref a0]) X (TB.get tb_X9_runsBy 36 rfl) rfl cv_RX9_482 (ok_X9_stands fu a0 h14 p24 ep24).1 (ok_X9_stands fu a0 h14 p24 ep24).2 (Nat.le_of_ble_eq_true rfl) rfl rfl (Nat.le_of_ble_eq_true rfl) rfl ?_
        exact Jj22 _ _ e
      · have e := (if_pos hc).symm.trans e
        refine V_bipush (v := 6) (q := 67) X (TB.get tb_X9_runsBy 33 rfl) c_bipush_6 rfl ?_
        refine V_goto (q := 74) X (TB.get tb_X9_runsBy 34 rfl) rfl ?_
        exact Jj22 _ _ e
set_option maxRecDepth 100000 in
set_option maxHeartbeats 4000000 in
theorem ok_X9_run (fu : Nat) (a0 : Nat) (a1 : Int32) (a2 : Int32) (h : Hp) (res : Int32 × Hp) (e : MX9_run fu a0 a1 a2 h = some res) : CK yX9_run cX9_run 3 (some .int) 14 [.ref a0, .int a1, .int a2] h (some (.int res.1)) res.2 ∧ (h.1 a0).1 = 9 := by
  obtain ⟨hcl, e⟩ := h_g_inv e
  refine ⟨CK_of pn_RX9 cm_X9_run (Nat.le_of_ble_eq_true rfl) ?_, hcl⟩
  intro l D tc B nn p en s m args below meth c X hr hlk
  replace X : CX p (rmD 14) s m args c cX9_run 3 RX9 D tc 14 := X
  show V p l en (rmD 14) s m args below meth c 3 D tc B nn (Ar B nn) s.heap 0 0 (MQ below (QC D tc B nn (Ar B nn) (some (.int res.1)) res.2) args s 0 0 (Ar B nn)) h 0 [(0, .ref a0), (1, .int a1), (2, .int a2)] []
  refine V_iload_n (q := 1) X (TB.get tb_X9_run 0 rfl) rfl rfl rfl ?_
  refine V_iconst (v := 0) (q := 2) X (TB.get tb_X9_run 1 rfl) c_iconst_0 rfl ?_
  refine V_ldcw (v := 65536) (q := 5) X (TB.get tb_X9_run 2 rfl) rfl kc_RX9_485 ?_
  obtain ⟨x1, ex1, e⟩ := bs e
  refine V_callS (q := 8) (As := [.int a1, .int (0 : Int32), .int (65536 : Int32)]) (rest := []) (st' := [.int x1]) X (TB.get tb_X9_run 3 rfl) rfl cs_RX9_239 (ok_X9_isFrom a1 (0 : Int32) (65536 : Int32) h x1 ex1) (Nat.le_of_ble_eq_true rfl) rfl rfl (Nat.le_of_ble_eq_true rfl) rfl ?_
  refine jn_elim (P := (fun (k : Option (Int32 × Hp)) => k = some res → V p l en (rmD 14) s m args below meth c 3 D tc B nn (Ar B nn) s.heap 0 0 (MQ below (QC D tc B nn (Ar B nn) (some (.int res.1)) res.2) args s 0 0 (Ar B nn)) h 20 [(0, .ref a0)] [])) e ?_ (fun j2 Jj2 e => ?_)
  · intro e
    refine V_aload_n (q := 21) X (TB.get tb_X9_run 10 rfl) rfl rfl rfl ?_
    refine V_iconst (v := 1) (q := 22) X (TB.get tb_X9_run 11 rfl) c_iconst_1 rfl ?_
    obtain ⟨p3, ep3, e⟩ := bs e
    refine V_callV (q := 25) (As := [.int (1 : Int32)]) (rest := []) (st' := [.int p3.1]) X (TB.get tb_X9_run 12 rfl) rfl cv_RX9_242 (ok_X9_refuse a0 (1 : Int32) h p3 ep3).1 (ok_X9_refuse a0 (1 : Int32) h p3 ep3).2 (Nat.le_of_ble_eq_true rfl) rfl rfl (Nat.le_of_ble_eq_true rfl) rfl ?_
    cases e
    exact V_iret X hr hlk (TB.get tb_X9_run 13 rfl)
  refine V_if_eq (q := 11) (t := 20) X (TB.get tb_X9_run 4 rfl) rfl rfl (fun hc => ?_) (fun hc => ?_)
  · have e := (if_pos hc).symm.trans e
    refine V_sub (lv' := [(0, .ref a0)]) [0] rfl ?_
    exact Jj2 e
  · have e := (if_neg hc).symm.trans e
    refine V_iload_n (q := 12) X (TB.get tb_X9_run 5 rfl) rfl rfl rfl ?_
    refine V_iconst (v := 0) (q := 13) X (TB.get tb_X9_run 6 rfl) c_iconst_0 rfl ?_
    refine V_iconst (v := 3) (q := 14) X (TB.get tb_X9_run 7 rfl) c_iconst_3 rfl ?_
    obtain ⟨x4, ex4, e⟩ := bs e
    refine V_callS (q := 17) (As := [.int a2, .int (0 : Int32), .int (3 : Int32)]) (rest := []) (st' := [.int x4]) X (TB.get tb_X9_run 8 rfl) rfl cs_RX9_239 (ok_X9_isFrom a2 (0 : Int32) (3 : Int32) h x4 ex4) (Nat.le_of_ble_eq_true rfl) rfl rfl (Nat.le_of_ble_eq_true rfl) rfl ?_
    refine V_if_ne (q := 20) (t := 26) X (TB.get tb_X9_run 9 rfl) rfl rfl (fun hc => ?_) (fun hc => ?_)
    · have e := (if_neg hc).symm.trans e
      refine V_aload_n (q := 27) X (TB.get tb_X9_run 14 rfl) rfl rfl rfl ?_
      refine V_iload_n (q := 28) X (TB.get tb_X9_run 15 rfl) rfl rfl rfl ?_
      obtain ⟨h5, eh5, e⟩ := bs e
      refine V_callV (q := 31) (As := [.int a1]) (rest := []) (st' := []) X (TB.get tb_X9_run 16 rfl) rfl cv_RX9_486 (ok_X9_runsBy fu a0 a1 h h5 eh5).1 (ok_X9_runsBy fu a0 a1 h h5 eh5).2 (Nat.le_of_ble_eq_true rfl) rfl rfl (Nat.le_of_ble_eq_true rfl) rfl ?_
      refine V_aload_n (q := 32) X (TB.get tb_X9_run 17 rfl) rfl rfl rfl ?_
      refine V_iload_n (q := 33) X (TB.get tb_X9_run 18 rfl) rfl rfl rfl ?_
      refine jn_elim (P := (fun (k : Int32 → Option (Int32 × Hp)) => ∀ (w6 : Int32), k w6 = some res → V p l en (rmD 14) s m args below meth c 3 D tc B nn (Ar B nn) s.heap 0 0 (MQ below (QC D tc B nn (Ar B nn) (some (.int res.1)) res.2) args s 0 0 (Ar B nn)) h5 71 [] [.int w6, .ref a0])) e ?_ (fun j7 Jj7 e => ?_)
      · intro w6 e
        obtain ⟨p8, ep8, e⟩ := bs e
        refine V_callV (q := 74) (As := [.int w6]) (rest := []) (st' := [.int p8.1]) X (TB.get tb_X9_run 37 rfl) rfl cv_RX9_248 (ok_X9_gives a0 w6 h5 p8 ep8).1 (ok_X9_gives a0 w6 h5 p8 ep8).2 (Nat.le_of_ble_eq_true rfl) rfl rfl (Nat.le_of_ble_eq_true rfl) rfl ?_
        cases e
        exact V_iret X hr hlk (TB.get tb_X9_run 38 rfl)
      refine V_if_ne (q := 36) (t := 43) X (TB.get tb_X9_run 19 rfl) rfl rfl (fun hc => ?_) (fun hc => ?_)
      · have e := (if_neg hc).symm.trans e
        refine V_iload_n (q := 44) X (TB.get tb_X9_run 23 rfl) rfl rfl rfl ?_
        refine V_iconst (v := 1) (q := 45) X (TB.get tb_X9_run 24 rfl) c_iconst_1 rfl ?_
        refine V_icmp_ne (q := 48) (t := 55) X (TB.get tb_X9_run 25 rfl) rfl rfl (fun hc => ?_) (fun hc => ?_)
        · have e := (if_neg hc).symm.trans e
          refine V_iload_n (q := 56) X (TB.get tb_X9_run 29 rfl) rfl rfl rfl ?_
          refine V_iconst (v := 2) (q := 57) X (TB.get tb_X9_run 30 rfl) c_iconst_2 rfl ?_
          refine V_icmp_ne (q := 60) (t := 67) X (TB.get tb_X9_run 31 rfl) rfl rfl (fun hc => ?_) (fun hc => ?_)
          · have e := (if_neg hc).symm.trans e
            refine V_aload_n (q := 68) X (TB.get tb_X9_run 35 rfl) rfl rfl rfl ?_
            obtain ⟨x9, ex9, e⟩ := bs e
            refine V_getI (q := 71) X (TB.get tb_X9_run 36 rfl) rfl lf_RX9_473 ex9 ?_
            refine V_sub (lv' := []) [] rfl ?_
            exact Jj7 _ e
          · have e := (if_pos hc).symm.trans e
            refine V_aload_n (q := 61) X (TB.get tb_X9_run 32 rfl) rfl rfl rfl ?_
            obtain ⟨x10, ex10, e⟩ := bs e
            refine V_getI (q := 64) X (TB.get tb_X9_run 33 rfl) rfl lf_RX9_464 ex10 ?_
            refine V_goto (q := 71) X (TB.get tb_X9_run 34 rfl) rfl ?_
            refine V_sub (lv' := []) [] rfl ?_
            exact Jj7 _ e
        · have e := (if_pos hc).symm.trans e
          refine V_aload_n (q := 49) X (TB.get tb_X9_run 26 rfl) rfl rfl rfl ?_
          obtain ⟨x11, ex11, e⟩ := bs e
          refine V_getI (q := 52) X (TB.get tb_X9_run 27 rfl) rfl lf_RX9_479 ex11 ?_
          refine V_goto (q := 71) X (TB.get tb_X9_run 28 rfl) rfl ?_
          refine V_sub (lv' := []) [] rfl ?_
          exact Jj7 _ e
      · have e := (if_pos hc).symm.trans e
        refine V_aload_n (q := 37) X (TB.get tb_X9_run 20 rfl) rfl rfl rfl ?_
        obtain ⟨x12, ex12, e⟩ := bs e
        refine V_getI (q := 40) X (TB.get tb_X9_run 21 rfl) rfl lf_RX9_467 ex12 ?_
        refine V_goto (q := 71) X (TB.get tb_X9_run 22 rfl) rfl ?_
        refine V_sub (lv' := []) [] rfl ?_
        exact Jj7 _ e
    · have e := (if_pos hc).symm.trans e
      refine V_sub (lv' := [(0, .ref a0)]) [0] rfl ?_
      exact Jj2 e
set_option maxRecDepth 100000 in
set_option maxHeartbeats 4000000 in
theorem ok_X9_runs (fu : Nat) (a0 : Nat) (a1 : Int32) (a2 : Int32) (a3 : Int32) (h : Hp) (res : Int32 × Hp) (e : MX9_runs fu a0 a1 a2 a3 h = some res) : CK yX9_runs cX9_runs 6 (some .int) 14 [.ref a0, .int a1, .int a2, .int a3] h (some (.int res.1)) res.2 ∧ (h.1 a0).1 = 9 := by
  obtain ⟨hcl, e⟩ := h_g_inv e
  refine ⟨CK_of pn_RX9 cm_X9_runs (Nat.le_of_ble_eq_true rfl) ?_, hcl⟩
  intro l D tc B nn p en s m args below meth c X hr hlk
  replace X : CX p (rmD 14) s m args c cX9_runs 6 RX9 D tc 14 := X
  show V p l en (rmD 14) s m args below meth c 6 D tc B nn (Ar B nn) s.heap 0 0 (MQ below (QC D tc B nn (Ar B nn) (some (.int res.1)) res.2) args s 0 0 (Ar B nn)) h 0 [(0, .ref a0), (1, .int a1), (2, .int a2), (3, .int a3)] []
  refine V_iload_n (q := 1) X (TB.get tb_X9_runs 0 rfl) rfl rfl rfl ?_
  refine V_iconst (v := 0) (q := 2) X (TB.get tb_X9_runs 1 rfl) c_iconst_0 rfl ?_
  refine V_ldcw (v := 65536) (q := 5) X (TB.get tb_X9_runs 2 rfl) rfl kc_RX9_485 ?_
  obtain ⟨x1, ex1, e⟩ := bs e
  refine V_callS (q := 8) (As := [.int a1, .int (0 : Int32), .int (65536 : Int32)]) (rest := []) (st' := [.int x1]) X (TB.get tb_X9_runs 3 rfl) rfl cs_RX9_239 (ok_X9_isFrom a1 (0 : Int32) (65536 : Int32) h x1 ex1) (Nat.le_of_ble_eq_true rfl) rfl rfl (Nat.le_of_ble_eq_true rfl) rfl ?_
  refine jn_elim (P := (fun (k : Option (Int32 × Hp)) => k = some res → V p l en (rmD 14) s m args below meth c 6 D tc B nn (Ar B nn) s.heap 0 0 (MQ below (QC D tc B nn (Ar B nn) (some (.int res.1)) res.2) args s 0 0 (Ar B nn)) h 42 [(0, .ref a0)] [])) e ?_ (fun j2 Jj2 e => ?_)
  · intro e
    refine V_aload_n (q := 43) X (TB.get tb_X9_runs 22 rfl) rfl rfl rfl ?_
    refine V_iconst (v := 1) (q := 44) X (TB.get tb_X9_runs 23 rfl) c_iconst_1 rfl ?_
    obtain ⟨p3, ep3, e⟩ := bs e
    refine V_callV (q := 47) (As := [.int (1 : Int32)]) (rest := []) (st' := [.int p3.1]) X (TB.get tb_X9_runs 24 rfl) rfl cv_RX9_242 (ok_X9_refuse a0 (1 : Int32) h p3 ep3).1 (ok_X9_refuse a0 (1 : Int32) h p3 ep3).2 (Nat.le_of_ble_eq_true rfl) rfl rfl (Nat.le_of_ble_eq_true rfl) rfl ?_
    cases e
    exact V_iret X hr hlk (TB.get tb_X9_runs 25 rfl)
  refine V_if_eq (q := 11) (t := 42) X (TB.get tb_X9_runs 4 rfl) rfl rfl (fun hc => ?_) (fun hc => ?_)
  · have e := (if_pos hc).symm.trans e
    refine V_sub (lv' := [(0, .ref a0)]) [0] rfl ?_
    exact Jj2 e
  · have e := (if_neg hc).symm.trans e
    refine V_iload_n (q := 12) X (TB.get tb_X9_runs 5 rfl) rfl rfl rfl ?_
    refine V_iconst (v := 1) (q := 13) X (TB.get tb_X9_runs 6 rfl) c_iconst_1 rfl ?_
    refine V_bipush (v := 50) (q := 15) X (TB.get tb_X9_runs 7 rfl) c_bipush_50 rfl ?_
    obtain ⟨x4, ex4, e⟩ := bs e
    refine V_callS (q := 18) (As := [.int a2, .int (1 : Int32), .int (50 : Int32)]) (rest := []) (st' := [.int x4]) X (TB.get tb_X9_runs 8 rfl) rfl cs_RX9_239 (ok_X9_isFrom a2 (1 : Int32) (50 : Int32) h x4 ex4) (Nat.le_of_ble_eq_true rfl) rfl rfl (Nat.le_of_ble_eq_true rfl) rfl ?_
    refine V_if_eq (q := 21) (t := 42) X (TB.get tb_X9_runs 9 rfl) rfl rfl (fun hc => ?_) (fun hc => ?_)
    · have e := (if_pos hc).symm.trans e
      refine V_sub (lv' := [(0, .ref a0)]) [0] rfl ?_
      exact Jj2 e
    · have e := (if_neg hc).symm.trans e
      refine V_iload_n (q := 22) X (TB.get tb_X9_runs 10 rfl) rfl rfl rfl ?_
      refine V_iconst (v := 0) (q := 23) X (TB.get tb_X9_runs 11 rfl) c_iconst_0 rfl ?_
      refine V_bipush (v := 6) (q := 25) X (TB.get tb_X9_runs 12 rfl) c_bipush_6 rfl ?_
      obtain ⟨x5, ex5, e⟩ := bs e
      refine V_callS (q := 28) (As := [.int a3, .int (0 : Int32), .int (6 : Int32)]) (rest := []) (st' := [.int x5]) X (TB.get tb_X9_runs 13 rfl) rfl cs_RX9_239 (ok_X9_isFrom a3 (0 : Int32) (6 : Int32) h x5 ex5) (Nat.le_of_ble_eq_true rfl) rfl rfl (Nat.le_of_ble_eq_true rfl) rfl ?_
      refine V_if_eq (q := 31) (t := 42) X (TB.get tb_X9_runs 14 rfl) rfl rfl (fun hc => ?_) (fun hc => ?_)
      · have e := (if_pos hc).symm.trans e
        refine V_sub (lv' := [(0, .ref a0)]) [0] rfl ?_
        exact Jj2 e
      · have e := (if_neg hc).symm.trans e
        refine V_iload_n (q := 32) X (TB.get tb_X9_runs 15 rfl) rfl rfl rfl ?_
        refine V_iload_n (q := 33) X (TB.get tb_X9_runs 16 rfl) rfl rfl rfl ?_
        refine V_iadd (q := 34) X (TB.get tb_X9_runs 17 rfl) rfl ?_
        refine V_iconst (v := 1) (q := 35) X (TB.get tb_X9_runs 18 rfl) c_iconst_1 rfl ?_
        refine V_isub (q := 36) X (TB.get tb_X9_runs 19 rfl) rfl ?_
        refine V_ldcw (v := 65537) (q := 39) X (TB.get tb_X9_runs 20 rfl) rfl kc_RX9_463 ?_
        refine V_icmp_lt (q := 42) (t := 48) X (TB.get tb_X9_runs 21 rfl) rfl rfl (fun hc => ?_) (fun hc => ?_)
        · have e := (if_pos hc).symm.trans e
          refine V_iconst (v := 0) (q := 49) X (TB.get tb_X9_runs 26 rfl) c_iconst_0 rfl ?_
          refine V_istore (q := 51) (lv' := [(4, .int (0 : Int32)), (0, .ref a0), (1, .int a1), (2, .int a2), (3, .int a3)]) X (TB.get tb_X9_runs 27 rfl) rfl (Nat.le_of_ble_eq_true rfl) rfl ?_
          refine V_iconst (v := 0) (q := 52) X (TB.get tb_X9_runs 28 rfl) c_iconst_0 rfl ?_
          refine V_istore (q := 54) (lv' := [(5, .int (0 : Int32)), (4, .int (0 : Int32)), (0, .ref a0), (1, .int a1), (2, .int a2), (3, .int a3)]) X (TB.get tb_X9_runs 29 rfl) rfl (Nat.le_of_ble_eq_true rfl) rfl ?_
          refine jn_elim (P := (fun (k : Int32 → Hp → Option (Int32 × Hp)) => ∀ (v6 : Int32) (h7 : Hp), k v6 h7 = some res → V p l en (rmD 14) s m args below meth c 6 D tc B nn (Ar B nn) s.heap 0 0 (MQ below (QC D tc B nn (Ar B nn) (some (.int res.1)) res.2) args s 0 0 (Ar B nn)) h7 92 [(0, .ref a0), (4, .int v6)] [])) e ?_ (fun j8 Jj8 e => ?_)
          · intro v6 h7 e
            refine V_aload_n (q := 93) X (TB.get tb_X9_runs 50 rfl) rfl rfl rfl ?_
            refine V_iload (q := 95) X (TB.get tb_X9_runs 51 rfl) rfl rfl ?_
            obtain ⟨p9, ep9, e⟩ := bs e
            refine V_callV (q := 98) (As := [.int v6]) (rest := []) (st' := [.int p9.1]) X (TB.get tb_X9_runs 52 rfl) rfl cv_RX9_248 (ok_X9_gives a0 v6 h7 p9 ep9).1 (ok_X9_gives a0 v6 h7 p9 ep9).2 (Nat.le_of_ble_eq_true rfl) rfl rfl (Nat.le_of_ble_eq_true rfl) rfl ?_
            cases e
            exact V_iret X hr hlk (TB.get tb_X9_runs 53 rfl)
          refine V_sub (lv' := [(0, .ref a0), (1, .int a1), (2, .int a2), (3, .int a3), (4, .int (0 : Int32)), (5, .int (0 : Int32))]) [2, 3, 4, 5, 1, 0] rfl ?_
          refine wh3_elim (P := fun v10 v11 h12 => V p l en (rmD 14) s m args below meth c 6 D tc B nn (Ar B nn) s.heap 0 0 (MQ below (QC D tc B nn (Ar B nn) (some (.int res.1)) res.2) args s 0 0 (Ar B nn)) h12 54 [(0, .ref a0), (1, .int a1), (2, .int a2), (3, .int a3), (4, .int v10), (5, .int v11)] []) (f := fu) ?_ e
          intro self13 v10 v11 h12 ihself13 e
          unfold MX9_runs_B54 at e
          refine V_iload (q := 56) X (TB.get tb_X9_runs 30 rfl) rfl rfl ?_
          refine V_iload_n (q := 57) X (TB.get tb_X9_runs 31 rfl) rfl rfl rfl ?_
          refine V_icmp_ge (q := 60) (t := 92) X (TB.get tb_X9_runs 32 rfl) rfl rfl (fun hc => ?_) (fun hc => ?_)
          · have e := (if_pos hc).symm.trans e
            refine V_sub (lv' := [(0, .ref a0), (4, .int v10)]) [0, 4] rfl ?_
            exact Jj8 _ _ e
          · have e := (if_neg hc).symm.trans e
            refine V_aload_n (q := 61) X (TB.get tb_X9_runs 33 rfl) rfl rfl rfl ?_
            refine V_iload_n (q := 62) X (TB.get tb_X9_runs 34 rfl) rfl rfl rfl ?_
            refine V_iload (q := 64) X (TB.get tb_X9_runs 35 rfl) rfl rfl ?_
            refine V_iadd (q := 65) X (TB.get tb_X9_runs 36 rfl) rfl ?_
            obtain ⟨h14, eh14, e⟩ := bs e
            refine V_callV (q := 68) (As := [.int (a1 + v11)]) (rest := []) (st' := []) X (TB.get tb_X9_runs 37 rfl) rfl cv_RX9_486 (ok_X9_runsBy fu a0 (a1 + v11) h12 h14 eh14).1 (ok_X9_runsBy fu a0 (a1 + v11) h12 h14 eh14).2 (Nat.le_of_ble_eq_true rfl) rfl rfl (Nat.le_of_ble_eq_true rfl) rfl ?_
            refine V_iload (q := 70) X (TB.get tb_X9_runs 38 rfl) rfl rfl ?_
            refine V_aload_n (q := 71) X (TB.get tb_X9_runs 39 rfl) rfl rfl rfl ?_
            obtain ⟨x15, ex15, e⟩ := bs e
            refine V_getI (q := 74) X (TB.get tb_X9_runs 40 rfl) rfl lf_RX9_479 ex15 ?_
            refine V_iload_n (q := 75) X (TB.get tb_X9_runs 41 rfl) rfl rfl rfl ?_
            refine jn_elim (P := (fun (k : Int32 → Option (Int32 × Hp)) => ∀ (w16 : Int32), k w16 = some res → V p l en (rmD 14) s m args below meth c 6 D tc B nn (Ar B nn) s.heap 0 0 (MQ below (QC D tc B nn (Ar B nn) (some (.int res.1)) res.2) args s 0 0 (Ar B nn)) h14 83 [(0, .ref a0), (1, .int a1), (2, .int a2), (3, .int a3), (5, .int v11)] [.int w16, .int v10])) e ?_ (fun j17 Jj17 e => ?_)
            · intro w16 e
              refine V_iadd (q := 84) X (TB.get tb_X9_runs 46 rfl) rfl ?_
              refine V_istore (q := 86) (lv' := [(4, .int (v10 + w16)), (0, .ref a0), (1, .int a1), (2, .int a2), (3, .int a3), (5, .int v11)]) X (TB.get tb_X9_runs 47 rfl) rfl (Nat.le_of_ble_eq_true rfl) rfl ?_
              refine V_iinc (q := 89) (v := v11 + (1 : Int32)) (lv' := [(5, .int (v11 + (1 : Int32))), (4, .int (v10 + w16)), (0, .ref a0), (1, .int a1), (2, .int a2), (3, .int a3)]) X (TB.get tb_X9_runs 48 rfl) rfl rfl (by rw [c_iconst_1]) (Nat.le_of_ble_eq_true rfl) rfl ?_
              refine V_goto (q := 54) X (TB.get tb_X9_runs 49 rfl) rfl ?_
              refine V_sub (lv' := [(0, .ref a0), (1, .int a1), (2, .int a2), (3, .int a3), (4, .int (v10 + w16)), (5, .int (v11 + (1 : Int32)))]) [2, 3, 4, 5, 1, 0] rfl ?_
              exact ihself13 _ _ _ e
            refine V_icmp_ne (q := 78) (t := 82) X (TB.get tb_X9_runs 42 rfl) rfl rfl (fun hc => ?_) (fun hc => ?_)
            · have e := (if_neg hc).symm.trans e
              refine V_iconst (v := 0) (q := 83) X (TB.get tb_X9_runs 45 rfl) c_iconst_0 rfl ?_
              refine V_sub (lv' := [(0, .ref a0), (1, .int a1), (2, .int a2), (3, .int a3), (5, .int v11)]) [0, 1, 2, 3, 5] rfl ?_
              exact Jj17 _ e
            · have e := (if_pos hc).symm.trans e
              refine V_iconst (v := 1) (q := 79) X (TB.get tb_X9_runs 43 rfl) c_iconst_1 rfl ?_
              refine V_goto (q := 83) X (TB.get tb_X9_runs 44 rfl) rfl ?_
              refine V_sub (lv' := [(0, .ref a0), (1, .int a1), (2, .int a2), (3, .int a3), (5, .int v11)]) [0, 1, 2, 3, 5] rfl ?_
              exact Jj17 _ e
        · have e := (if_neg hc).symm.trans e
          refine V_sub (lv' := [(0, .ref a0)]) [0] rfl ?_
          exact Jj2 e
