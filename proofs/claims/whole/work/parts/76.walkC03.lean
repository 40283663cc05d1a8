set_option maxRecDepth 100000 in
set_option maxHeartbeats 4000000 in
theorem ok_X6_noteLeft (fu : Nat) (a0 : Nat) (a1 : Nat) (a2 : Int32) (h : Hp) (res : Hp) (e : MX6_noteLeft fu a0 a1 a2 h = some res) : CK yX6_noteLeft cX6_noteLeft 4 none 1 [.ref a0, .ref a1, .int a2] h none res ∧ (h.1 a0).1 = 6 := by
  obtain ⟨hcl, e⟩ := h_g_inv e
  refine ⟨CK_of pn_RX6 cm_X6_noteLeft (Nat.le_of_ble_eq_true rfl) ?_, hcl⟩
  intro l D tc B nn p en s m args below meth c X hr hlk
  replace X : CX p (rmD 1) s m args c cX6_noteLeft 4 RX6 D tc 1 := X
  show V p l en (rmD 1) s m args below meth c 4 D tc B nn (Ar B nn) s.heap 0 0 (MQ below (QC D tc B nn (Ar B nn) none res) args s 0 0 (Ar B nn)) h 0 [(0, .ref a0), (1, .ref a1), (2, .int a2)] []
  refine V_iload_n (q := 1) X (TB.get tb_X6_noteLeft 0 rfl) rfl rfl rfl ?_
  refine V_aload_n (q := 2) X (TB.get tb_X6_noteLeft 1 rfl) rfl rfl rfl ?_
  obtain ⟨x1, ex1, e⟩ := bs e
  refine V_getI (q := 5) X (TB.get tb_X6_noteLeft 2 rfl) rfl lf_RX6_127 ex1 ?_
  refine V_icmp_lt (q := 8) (t := 49) X (TB.get tb_X6_noteLeft 3 rfl) rfl rfl (fun hc => ?_) (fun hc => ?_)
  · have e := (if_pos hc).symm.trans e
    refine V_aload_n (q := 50) X (TB.get tb_X6_noteLeft 27 rfl) rfl rfl rfl ?_
    obtain ⟨x2, ex2, e⟩ := bs e
    refine V_getR (q := 53) X (TB.get tb_X6_noteLeft 28 rfl) rfl lf_RX6_136 ex2 ?_
    refine V_iload_n (q := 54) X (TB.get tb_X6_noteLeft 29 rfl) rfl rfl rfl ?_
    obtain ⟨x3, ex3, e⟩ := bs e
    refine V_iaload (q := 55) X (TB.get tb_X6_noteLeft 30 rfl) rfl ex3 ?_
    refine V_iconst (v := 5) (q := 56) X (TB.get tb_X6_noteLeft 31 rfl) c_iconst_5 rfl ?_
    refine V_icmp_ne (q := 59) (t := 104) X (TB.get tb_X6_noteLeft 32 rfl) rfl rfl (fun hc => ?_) (fun hc => ?_)
    · have e := (if_neg hc).symm.trans e
      cases e
      exact V_vret X hr hlk (TB.get tb_X6_noteLeft 60 rfl)
    · have e := (if_pos hc).symm.trans e
      refine V_aload_n (q := 60) X (TB.get tb_X6_noteLeft 33 rfl) rfl rfl rfl ?_
      obtain ⟨x4, ex4, e⟩ := bs e
      refine V_getR (q := 63) X (TB.get tb_X6_noteLeft 34 rfl) rfl lf_RX6_32 ex4 ?_
      refine V_aload_n (q := 64) X (TB.get tb_X6_noteLeft 35 rfl) rfl rfl rfl ?_
      obtain ⟨x5, ex5, e⟩ := bs e
      refine V_getR (q := 67) X (TB.get tb_X6_noteLeft 36 rfl) rfl lf_RX6_139 ex5 ?_
      refine V_iload_n (q := 68) X (TB.get tb_X6_noteLeft 37 rfl) rfl rfl rfl ?_
      obtain ⟨x6, ex6, e⟩ := bs e
      refine V_iaload (q := 69) X (TB.get tb_X6_noteLeft 38 rfl) rfl ex6 ?_
      obtain ⟨x7, ex7, e⟩ := bs e
      refine V_callV (q := 72) (As := [.int x6]) (rest := []) (st' := [.int x7]) X (TB.get tb_X6_noteLeft 39 rfl) rfl cv_RX6_142 (ok_X1_isAlone x4 x6 h x7 ex7).1 (ok_X1_isAlone x4 x6 h x7 ex7).2 (Nat.le_of_ble_eq_true rfl) rfl rfl (Nat.le_of_ble_eq_true rfl) rfl ?_
      refine V_if_eq (q := 75) (t := 104) X (TB.get tb_X6_noteLeft 40 rfl) rfl rfl (fun hc => ?_) (fun hc => ?_)
      · have e := (if_pos hc).symm.trans e
        cases e
        exact V_vret X hr hlk (TB.get tb_X6_noteLeft 60 rfl)
      · have e := (if_neg hc).symm.trans e
        refine V_aload_n (q := 76) X (TB.get tb_X6_noteLeft 41 rfl) rfl rfl rfl ?_
        refine V_getR (q := 79) X (TB.get tb_X6_noteLeft 42 rfl) rfl lf_RX6_139 ex5 ?_
        refine V_iload_n (q := 80) X (TB.get tb_X6_noteLeft 43 rfl) rfl rfl rfl ?_
        refine V_iaload (q := 81) X (TB.get tb_X6_noteLeft 44 rfl) rfl ex6 ?_
        refine V_istore_n (q := 82) (lv' := [(3, .int x6), (0, .ref a0), (1, .ref a1), (2, .int a2)]) X (TB.get tb_X6_noteLeft 45 rfl) rfl rfl (Nat.le_of_ble_eq_true rfl) rfl ?_
        refine V_aload_n (q := 83) X (TB.get tb_X6_noteLeft 46 rfl) rfl rfl rfl ?_
        obtain ⟨x8, ex8, e⟩ := bs e
        refine V_getR (q := 86) X (TB.get tb_X6_noteLeft 47 rfl) rfl lf_RX6_15 ex8 ?_
        refine V_aload_n (q := 87) X (TB.get tb_X6_noteLeft 48 rfl) rfl rfl rfl ?_
        obtain ⟨x9, ex9, e⟩ := bs e
        refine V_getR (q := 90) X (TB.get tb_X6_noteLeft 49 rfl) rfl lf_RX6_130 ex9 ?_
        refine V_iload_n (q := 91) X (TB.get tb_X6_noteLeft 50 rfl) rfl rfl rfl ?_
        obtain ⟨x10, ex10, e⟩ := bs e
        refine V_iaload (q := 92) X (TB.get tb_X6_noteLeft 51 rfl) rfl ex10 ?_
        refine V_dup2 (q := 93) X (TB.get tb_X6_noteLeft 52 rfl) rfl rfl rfl ?_
        obtain ⟨x11, ex11, e⟩ := bs e
        refine V_iaload (q := 94) X (TB.get tb_X6_noteLeft 53 rfl) rfl ex11 ?_
        refine V_aload_n (q := 95) X (TB.get tb_X6_noteLeft 54 rfl) rfl rfl rfl ?_
        refine V_getR (q := 98) X (TB.get tb_X6_noteLeft 55 rfl) rfl lf_RX6_32 ex4 ?_
        refine V_iload_n (q := 99) X (TB.get tb_X6_noteLeft 56 rfl) rfl rfl rfl ?_
        obtain ⟨x12, ex12, e⟩ := bs e
        refine V_callV (q := 102) (As := [.int x6]) (rest := [.int x11, .int x10, .ref x8]) (st' := [.int x12, .int x11, .int x10, .ref x8]) X (TB.get tb_X6_noteLeft 57 rfl) rfl cv_RX6_133 (ok_X1_states x4 x6 h x12 ex12).1 (ok_X1_states x4 x6 h x12 ex12).2 (Nat.le_of_ble_eq_true rfl) rfl rfl (Nat.le_of_ble_eq_true rfl) rfl ?_
        refine V_ior (q := 103) X (TB.get tb_X6_noteLeft 58 rfl) rfl ?_
        obtain ⟨h13, eh13, e⟩ := bs e
        refine V_iastore (q := 104) X (TB.get tb_X6_noteLeft 59 rfl) rfl eh13 ?_
        cases e
        exact V_vret X hr hlk (TB.get tb_X6_noteLeft 60 rfl)
  · have e := (if_neg hc).symm.trans e
    refine V_iconst (v := 0) (q := 9) X (TB.get tb_X6_noteLeft 4 rfl) c_iconst_0 rfl ?_
    refine V_istore_n (q := 10) (lv' := [(3, .int (0 : Int32)), (0, .ref a0), (1, .ref a1), (2, .int a2)]) X (TB.get tb_X6_noteLeft 5 rfl) rfl rfl (Nat.le_of_ble_eq_true rfl) rfl ?_
    refine jn_elim (P := (fun (k : Hp → Option (Hp)) => ∀ (h14 : Hp), k h14 = some res → V p l en (rmD 1) s m args below meth c 4 D tc B nn (Ar B nn) s.heap 0 0 (MQ below (QC D tc B nn (Ar B nn) none res) args s 0 0 (Ar B nn)) h14 46 [] [])) e ?_ (fun j15 Jj15 e => ?_)
    · intro h14 e
      refine V_goto (q := 104) X (TB.get tb_X6_noteLeft 26 rfl) rfl ?_
      cases e
      exact V_vret X hr hlk (TB.get tb_X6_noteLeft 60 rfl)
    refine V_sub (lv' := [(0, .ref a0), (1, .ref a1), (3, .int (0 : Int32))]) [1, 2, 0] rfl ?_
    refine wh2_elim (P := fun v16 h17 => V p l en (rmD 1) s m args below meth c 4 D tc B nn (Ar B nn) s.heap 0 0 (MQ below (QC D tc B nn (Ar B nn) none res) args s 0 0 (Ar B nn)) h17 10 [(0, .ref a0), (1, .ref a1), (3, .int v16)] []) (f := fu) ?_ e
    intro self18 v16 h17 ihself18 e
    unfold MX6_noteLeft_B10 at e
    refine V_iload_n (q := 11) X (TB.get tb_X6_noteLeft 6 rfl) rfl rfl rfl ?_
    refine V_aload_n (q := 12) X (TB.get tb_X6_noteLeft 7 rfl) rfl rfl rfl ?_
    obtain ⟨x19, ex19, e⟩ := bs e
    refine V_getI (q := 15) X (TB.get tb_X6_noteLeft 8 rfl) rfl lf_RX6_105 ex19 ?_
    refine V_icmp_ge (q := 18) (t := 46) X (TB.get tb_X6_noteLeft 9 rfl) rfl rfl (fun hc => ?_) (fun hc => ?_)
    · have e := (if_pos hc).symm.trans e
      refine V_sub (lv' := []) [] rfl ?_
      exact Jj15 _ e
    · have e := (if_neg hc).symm.trans e
      refine V_aload_n (q := 19) X (TB.get tb_X6_noteLeft 10 rfl) rfl rfl rfl ?_
      obtain ⟨x20, ex20, e⟩ := bs e
      refine V_getR (q := 22) X (TB.get tb_X6_noteLeft 11 rfl) rfl lf_RX6_15 ex20 ?_
      refine V_aload_n (q := 23) X (TB.get tb_X6_noteLeft 12 rfl) rfl rfl rfl ?_
      obtain ⟨x21, ex21, e⟩ := bs e
      refine V_getR (q := 26) X (TB.get tb_X6_noteLeft 13 rfl) rfl lf_RX6_130 ex21 ?_
      refine V_iload_n (q := 27) X (TB.get tb_X6_noteLeft 14 rfl) rfl rfl rfl ?_
      obtain ⟨x22, ex22, e⟩ := bs e
      refine V_iaload (q := 28) X (TB.get tb_X6_noteLeft 15 rfl) rfl ex22 ?_
      refine V_dup2 (q := 29) X (TB.get tb_X6_noteLeft 16 rfl) rfl rfl rfl ?_
      obtain ⟨x23, ex23, e⟩ := bs e
      refine V_iaload (q := 30) X (TB.get tb_X6_noteLeft 17 rfl) rfl ex23 ?_
      refine V_aload_n (q := 31) X (TB.get tb_X6_noteLeft 18 rfl) rfl rfl rfl ?_
      obtain ⟨x24, ex24, e⟩ := bs e
      refine V_getR (q := 34) X (TB.get tb_X6_noteLeft 19 rfl) rfl lf_RX6_32 ex24 ?_
      refine V_iload_n (q := 35) X (TB.get tb_X6_noteLeft 20 rfl) rfl rfl rfl ?_
      obtain ⟨x25, ex25, e⟩ := bs e
      refine V_callV (q := 38) (As := [.int v16]) (rest := [.int x23, .int x22, .ref x20]) (st' := [.int x25, .int x23, .int x22, .ref x20]) X (TB.get tb_X6_noteLeft 21 rfl) rfl cv_RX6_133 (ok_X1_states x24 v16 h17 x25 ex25).1 (ok_X1_states x24 v16 h17 x25 ex25).2 (Nat.le_of_ble_eq_true rfl) rfl rfl (Nat.le_of_ble_eq_true rfl) rfl ?_
      refine V_ior (q := 39) X (TB.get tb_X6_noteLeft 22 rfl) rfl ?_
      obtain ⟨h26, eh26, e⟩ := bs e
      refine V_iastore (q := 40) X (TB.get tb_X6_noteLeft 23 rfl) rfl eh26 ?_
      refine V_iinc (q := 43) (v := v16 + (1 : Int32)) (lv' := [(3, .int (v16 + (1 : Int32))), (0, .ref a0), (1, .ref a1)]) X (TB.get tb_X6_noteLeft 24 rfl) rfl rfl (by rw [c_iconst_1]) (Nat.le_of_ble_eq_true rfl) rfl ?_
      refine V_goto (q := 10) X (TB.get tb_X6_noteLeft 25 rfl) rfl ?_
      refine V_sub (lv' := [(0, .ref a0), (1, .ref a1), (3, .int (v16 + (1 : Int32)))]) [1, 2, 0] rfl ?_
      exact ihself18 _ _ e
set_option maxRecDepth 100000 in
set_option maxHeartbeats 4000000 in
theorem ok_X6_goesOnFrom (fu : Nat) (a0 : Nat) (a1 : Nat) (a2 : Int32) (a3 : Int32) (h : Hp) (res : Int32 × Hp) (e : MX6_goesOnFrom fu a0 a1 a2 a3 h = some res) : CK yX6_goesOnFrom cX6_goesOnFrom 5 (some .boolean) 3 [.ref a0, .ref a1, .int a2, .int a3] h (some (.int res.1)) res.2 ∧ (h.1 a0).1 = 6 := by
  obtain ⟨hcl, e⟩ := h_g_inv e
  refine ⟨CK_of pn_RX6 cm_X6_goesOnFrom (Nat.le_of_ble_eq_true rfl) ?_, hcl⟩
  intro l D tc B nn p en s m args below meth c X hr hlk
  replace X : CX p (rmD 3) s m args c cX6_goesOnFrom 5 RX6 D tc 3 := X
  show V p l en (rmD 3) s m args below meth c 5 D tc B nn (Ar B nn) s.heap 0 0 (MQ below (QC D tc B nn (Ar B nn) (some (.int res.1)) res.2) args s 0 0 (Ar B nn)) h 0 [(0, .ref a0), (1, .ref a1), (2, .int a2), (3, .int a3)] []
  refine V_aload_n (q := 1) X (TB.get tb_X6_goesOnFrom 0 rfl) rfl rfl rfl ?_
  obtain ⟨x1, ex1, e⟩ := bs e
  refine V_getR (q := 4) X (TB.get tb_X6_goesOnFrom 1 rfl) rfl lf_RX6_9 ex1 ?_
  refine V_iload_n (q := 5) X (TB.get tb_X6_goesOnFrom 2 rfl) rfl rfl rfl ?_
  refine V_iconst (v := 1) (q := 6) X (TB.get tb_X6_goesOnFrom 3 rfl) c_iconst_1 rfl ?_
  obtain ⟨h2, eh2, e⟩ := bs e
  refine V_bastoreZ (q := 7) X (TB.get tb_X6_goesOnFrom 4 rfl) rfl eh2 ?_
  refine V_aload_n (q := 8) X (TB.get tb_X6_goesOnFrom 5 rfl) rfl rfl rfl ?_
  refine V_aload_n (q := 9) X (TB.get tb_X6_goesOnFrom 6 rfl) rfl rfl rfl ?_
  obtain ⟨x3, ex3, e⟩ := bs e
  refine V_getI (q := 12) X (TB.get tb_X6_goesOnFrom 7 rfl) rfl lf_RX6_93 ex3 ?_
  refine V_aload_n (q := 13) X (TB.get tb_X6_goesOnFrom 8 rfl) rfl rfl rfl ?_
  obtain ⟨x4, ex4, e⟩ := bs e
  refine V_getR (q := 16) X (TB.get tb_X6_goesOnFrom 9 rfl) rfl lf_RX6_32 ex4 ?_
  refine V_aload_n (q := 17) X (TB.get tb_X6_goesOnFrom 10 rfl) rfl rfl rfl ?_
  obtain ⟨x5, ex5, e⟩ := bs e
  refine V_getI (q := 20) X (TB.get tb_X6_goesOnFrom 11 rfl) rfl lf_RX6_105 ex5 ?_
  obtain ⟨x6, ex6, e⟩ := bs e
  refine V_callV (q := 23) (As := [.int x5]) (rest := [.int x3, .ref a0]) (st' := [.int x6, .int x3, .ref a0]) X (TB.get tb_X6_goesOnFrom 12 rfl) rfl cv_RX6_110 (ok_X1_things fu x4 x5 h2 x6 ex6).1 (ok_X1_things fu x4 x5 h2 x6 ex6).2 (Nat.le_of_ble_eq_true rfl) rfl rfl (Nat.le_of_ble_eq_true rfl) rfl ?_
  refine V_mmax (q := 26) X (TB.get tb_X6_goesOnFrom 13 rfl) rfl mm_RX6_113 mm_max1 mm_i mm_max2 (Nat.le_of_ble_eq_true rfl) (Nat.le_of_ble_eq_true rfl) ?_
  obtain ⟨h7, eh7, e⟩ := bs e
  refine V_putI (q := 29) X (TB.get tb_X6_goesOnFrom 14 rfl) rfl lq_RX6_93 eh7 ?_
  refine V_aload_n (q := 30) X (TB.get tb_X6_goesOnFrom 15 rfl) rfl rfl rfl ?_
  refine V_aload_n (q := 31) X (TB.get tb_X6_goesOnFrom 16 rfl) rfl rfl rfl ?_
  refine V_iload_n (q := 32) X (TB.get tb_X6_goesOnFrom 17 rfl) rfl rfl rfl ?_
  obtain ⟨h8, eh8, e⟩ := bs e
  refine V_callV (q := 35) (As := [.ref a1, .int a3]) (rest := []) (st' := []) X (TB.get tb_X6_goesOnFrom 18 rfl) rfl cv_RX6_119 (ok_X6_noteLeft fu a0 a1 a3 h7 h8 eh8).1 (ok_X6_noteLeft fu a0 a1 a3 h7 h8 eh8).2 (Nat.le_of_ble_eq_true rfl) rfl rfl (Nat.le_of_ble_eq_true rfl) rfl ?_
  refine V_aload_n (q := 36) X (TB.get tb_X6_goesOnFrom 19 rfl) rfl rfl rfl ?_
  obtain ⟨x9, ex9, e⟩ := bs e
  refine V_getR (q := 39) X (TB.get tb_X6_goesOnFrom 20 rfl) rfl lf_RX6_32 ex9 ?_
  refine V_aload_n (q := 40) X (TB.get tb_X6_goesOnFrom 21 rfl) rfl rfl rfl ?_
  refine V_iload_n (q := 41) X (TB.get tb_X6_goesOnFrom 22 rfl) rfl rfl rfl ?_
  obtain ⟨x10, ex10, e⟩ := bs e
  refine V_callV (q := 44) (As := [.ref a1, .int a3]) (rest := []) (st' := [.int x10]) X (TB.get tb_X6_goesOnFrom 23 rfl) rfl cv_RX6_123 (ok_X1_reasonAt fu x9 a1 a3 h8 x10 ex10).1 (ok_X1_reasonAt fu x9 a1 a3 h8 x10 ex10).2 (Nat.le_of_ble_eq_true rfl) rfl rfl (Nat.le_of_ble_eq_true rfl) rfl ?_
  refine V_istore (q := 46) (lv' := [(4, .int x10), (0, .ref a0), (1, .ref a1), (2, .int a2), (3, .int a3)]) X (TB.get tb_X6_goesOnFrom 24 rfl) rfl (Nat.le_of_ble_eq_true rfl) rfl ?_
  refine V_iload (q := 48) X (TB.get tb_X6_goesOnFrom 25 rfl) rfl rfl ?_
  refine V_if_eq (q := 51) (t := 103) X (TB.get tb_X6_goesOnFrom 26 rfl) rfl rfl (fun hc => ?_) (fun hc => ?_)
  · have e := (if_pos hc).symm.trans e
    refine V_iload_n (q := 104) X (TB.get tb_X6_goesOnFrom 54 rfl) rfl rfl rfl ?_
    refine V_aload_n (q := 105) X (TB.get tb_X6_goesOnFrom 55 rfl) rfl rfl rfl ?_
    obtain ⟨x11, ex11, e⟩ := bs e
    refine V_getI (q := 108) X (TB.get tb_X6_goesOnFrom 56 rfl) rfl lf_RX6_127 ex11 ?_
    refine V_icmp_lt (q := 111) (t := 123) X (TB.get tb_X6_goesOnFrom 57 rfl) rfl rfl (fun hc => ?_) (fun hc => ?_)
    · have e := (if_pos hc).symm.trans e
      refine V_iconst (v := 1) (q := 124) X (TB.get tb_X6_goesOnFrom 66 rfl) c_iconst_1 rfl ?_
      cases e
      exact V_zret X hr hlk (Or.inr rfl) (TB.get tb_X6_goesOnFrom 67 rfl)
    · have e := (if_neg hc).symm.trans e
      refine V_aload_n (q := 112) X (TB.get tb_X6_goesOnFrom 58 rfl) rfl rfl rfl ?_
      refine V_dup (q := 113) X (TB.get tb_X6_goesOnFrom 59 rfl) rfl rfl ?_
      obtain ⟨x12, ex12, e⟩ := bs e
      refine V_getI (q := 116) X (TB.get tb_X6_goesOnFrom 60 rfl) rfl lf_RX6_96 ex12 ?_
      refine V_iconst (v := 1) (q := 117) X (TB.get tb_X6_goesOnFrom 61 rfl) c_iconst_1 rfl ?_
      refine V_iadd (q := 118) X (TB.get tb_X6_goesOnFrom 62 rfl) rfl ?_
      obtain ⟨h13, eh13, e⟩ := bs e
      refine V_putI (q := 121) X (TB.get tb_X6_goesOnFrom 63 rfl) rfl lq_RX6_96 eh13 ?_
      refine V_iconst (v := 0) (q := 122) X (TB.get tb_X6_goesOnFrom 64 rfl) c_iconst_0 rfl ?_
      cases e
      exact V_zret X hr hlk (Or.inl rfl) (TB.get tb_X6_goesOnFrom 65 rfl)
  · have e := (if_neg hc).symm.trans e
    refine V_aload_n (q := 52) X (TB.get tb_X6_goesOnFrom 27 rfl) rfl rfl rfl ?_
    refine V_dup (q := 53) X (TB.get tb_X6_goesOnFrom 28 rfl) rfl rfl ?_
    obtain ⟨x14, ex14, e⟩ := bs e
    refine V_getI (q := 56) X (TB.get tb_X6_goesOnFrom 29 rfl) rfl lf_RX6_87 ex14 ?_
    refine V_iconst (v := 1) (q := 57) X (TB.get tb_X6_goesOnFrom 30 rfl) c_iconst_1 rfl ?_
    refine V_iadd (q := 58) X (TB.get tb_X6_goesOnFrom 31 rfl) rfl ?_
    obtain ⟨h15, eh15, e⟩ := bs e
    refine V_putI (q := 61) X (TB.get tb_X6_goesOnFrom 32 rfl) rfl lq_RX6_87 eh15 ?_
    refine V_aload_n (q := 62) X (TB.get tb_X6_goesOnFrom 33 rfl) rfl rfl rfl ?_
    refine V_aload_n (q := 63) X (TB.get tb_X6_goesOnFrom 34 rfl) rfl rfl rfl ?_
    obtain ⟨x16, ex16, e⟩ := bs e
    refine V_getI (q := 66) X (TB.get tb_X6_goesOnFrom 35 rfl) rfl lf_RX6_77 ex16 ?_
    refine V_iconst (v := -1) (q := 67) X (TB.get tb_X6_goesOnFrom 36 rfl) c_iconst_m1 rfl ?_
    refine jn_elim (P := (fun (k : Int32 → Option (Int32 × Hp)) => ∀ (w17 : Int32), k w17 = some res → V p l en (rmD 3) s m args below meth c 5 D tc B nn (Ar B nn) s.heap 0 0 (MQ below (QC D tc B nn (Ar B nn) (some (.int res.1)) res.2) args s 0 0 (Ar B nn)) h15 78 [(0, .ref a0), (4, .int x10)] [.int w17, .ref a0])) e ?_ (fun j18 Jj18 e => ?_)
    · intro w17 e
      obtain ⟨h19, eh19, e⟩ := bs e
      refine V_putI (q := 81) X (TB.get tb_X6_goesOnFrom 42 rfl) rfl lq_RX6_77 eh19 ?_
      refine V_aload_n (q := 82) X (TB.get tb_X6_goesOnFrom 43 rfl) rfl rfl rfl ?_
      refine V_aload_n (q := 83) X (TB.get tb_X6_goesOnFrom 44 rfl) rfl rfl rfl ?_
      obtain ⟨x20, ex20, e⟩ := bs e
      refine V_getI (q := 86) X (TB.get tb_X6_goesOnFrom 45 rfl) rfl lf_RX6_90 ex20 ?_
      refine jn_elim (P := (fun (k : Int32 → Option (Int32 × Hp)) => ∀ (w21 : Int32), k w21 = some res → V p l en (rmD 3) s m args below meth c 5 D tc B nn (Ar B nn) s.heap 0 0 (MQ below (QC D tc B nn (Ar B nn) (some (.int res.1)) res.2) args s 0 0 (Ar B nn)) h19 98 [] [.int w21, .ref a0])) e ?_ (fun j22 Jj22 e => ?_)
      · intro w21 e
        obtain ⟨h23, eh23, e⟩ := bs e
        refine V_putI (q := 101) X (TB.get tb_X6_goesOnFrom 51 rfl) rfl lq_RX6_90 eh23 ?_
        refine V_iconst (v := 0) (q := 102) X (TB.get tb_X6_goesOnFrom 52 rfl) c_iconst_0 rfl ?_
        cases e
        exact V_zret X hr hlk (Or.inl rfl) (TB.get tb_X6_goesOnFrom 53 rfl)
      refine V_if_ne (q := 89) (t := 94) X (TB.get tb_X6_goesOnFrom 46 rfl) rfl rfl (fun hc => ?_) (fun hc => ?_)
      · have e := (if_neg hc).symm.trans e
        refine V_aload_n (q := 95) X (TB.get tb_X6_goesOnFrom 49 rfl) rfl rfl rfl ?_
        refine V_getI (q := 98) X (TB.get tb_X6_goesOnFrom 50 rfl) rfl lf_RX6_90 ex20 ?_
        refine V_sub (lv' := []) [] rfl ?_
        exact Jj22 _ e
      · have e := (if_pos hc).symm.trans e
        refine V_iload (q := 91) X (TB.get tb_X6_goesOnFrom 47 rfl) rfl rfl ?_
        refine V_goto (q := 98) X (TB.get tb_X6_goesOnFrom 48 rfl) rfl ?_
        refine V_sub (lv' := []) [] rfl ?_
        exact Jj22 _ e
    refine V_icmp_ne (q := 70) (t := 74) X (TB.get tb_X6_goesOnFrom 37 rfl) rfl rfl (fun hc => ?_) (fun hc => ?_)
    · have e := (if_neg hc).symm.trans e
      refine V_aload_n (q := 75) X (TB.get tb_X6_goesOnFrom 40 rfl) rfl rfl rfl ?_
      refine V_getI (q := 78) X (TB.get tb_X6_goesOnFrom 41 rfl) rfl lf_RX6_77 ex16 ?_
      refine V_sub (lv' := [(0, .ref a0), (4, .int x10)]) [1, 0] rfl ?_
      exact Jj18 _ e
    · have e := (if_pos hc).symm.trans e
      refine V_iload_n (q := 71) X (TB.get tb_X6_goesOnFrom 38 rfl) rfl rfl rfl ?_
      refine V_goto (q := 78) X (TB.get tb_X6_goesOnFrom 39 rfl) rfl ?_
      refine V_sub (lv' := [(0, .ref a0), (4, .int x10)]) [1, 0] rfl ?_
      exact Jj18 _ e
set_option maxRecDepth 100000 in
set_option maxHeartbeats 4000000 in
theorem ok_X6_follow (fu : Nat) (a0 : Nat) (a1 : Nat) (a2 : Int32) (a3 : Int32) (a4 : Int32) (h : Hp) (res : Hp) (e : MX6_follow fu a0 a1 a2 a3 a4 h = some res) : CK yX6_follow cX6_follow 6 none 3 [.ref a0, .ref a1, .int a2, .int a3, .int a4] h none res ∧ (h.1 a0).1 = 6 := by
  obtain ⟨hcl, e⟩ := h_g_inv e
  refine ⟨CK_of pn_RX6 cm_X6_follow (Nat.le_of_ble_eq_true rfl) ?_, hcl⟩
  intro l D tc B nn p en s m args below meth c X hr hlk
  replace X : CX p (rmD 3) s m args c cX6_follow 6 RX6 D tc 3 := X
  show V p l en (rmD 3) s m args below meth c 6 D tc B nn (Ar B nn) s.heap 0 0 (MQ below (QC D tc B nn (Ar B nn) none res) args s 0 0 (Ar B nn)) h 0 [(0, .ref a0), (1, .ref a1), (2, .int a2), (3, .int a3), (4, .int a4)] []
  refine V_iload (q := 2) X (TB.get tb_X6_follow 0 rfl) rfl rfl ?_
  refine jn_elim (P := (fun (k : Int32 → Option (Hp)) => ∀ (w1 : Int32), k w1 = some res → V p l en (rmD 3) s m args below meth c 6 D tc B nn (Ar B nn) s.heap 0 0 (MQ below (QC D tc B nn (Ar B nn) none res) args s 0 0 (Ar B nn)) h 20 [(0, .ref a0), (1, .ref a1), (2, .int a2), (3, .int a3), (4, .int a4)] [.int w1])) e ?_ (fun j2 Jj2 e => ?_)
  · intro w1 e
    refine V_istore (q := 22) (lv' := [(5, .int w1), (0, .ref a0), (1, .ref a1), (2, .int a2), (3, .int a3), (4, .int a4)]) X (TB.get tb_X6_follow 11 rfl) rfl (Nat.le_of_ble_eq_true rfl) rfl ?_
    refine V_aload_n (q := 23) X (TB.get tb_X6_follow 12 rfl) rfl rfl rfl ?_
    obtain ⟨x3, ex3, e⟩ := bs e
    refine V_getR (q := 26) X (TB.get tb_X6_follow 13 rfl) rfl lf_RX6_36 ex3 ?_
    refine V_aload_n (q := 27) X (TB.get tb_X6_follow 14 rfl) rfl rfl rfl ?_
    obtain ⟨x4, ex4, e⟩ := bs e
    refine V_getR (q := 30) X (TB.get tb_X6_follow 15 rfl) rfl lf_RX6_32 ex4 ?_
    obtain ⟨h5, eh5, e⟩ := bs e
    refine V_callV (q := 33) (As := [.ref x4]) (rest := []) (st' := []) X (TB.get tb_X6_follow 16 rfl) rfl cv_RX6_152 (ok_X1_copyFrom x3 x4 h h5 eh5).1 (ok_X1_copyFrom x3 x4 h h5 eh5).2 (Nat.le_of_ble_eq_true rfl) rfl rfl (Nat.le_of_ble_eq_true rfl) rfl ?_
    refine V_iload (q := 35) X (TB.get tb_X6_follow 17 rfl) rfl rfl ?_
    refine V_iconst (v := -1) (q := 36) X (TB.get tb_X6_follow 18 rfl) c_iconst_m1 rfl ?_
    refine V_icmp_eq (q := 39) (t := 67) X (TB.get tb_X6_follow 19 rfl) rfl rfl (fun hc => ?_) (fun hc => ?_)
    · have e := (if_pos hc).symm.trans e
      cases e
      exact V_vret X hr hlk (TB.get tb_X6_follow 34 rfl)
    · have e := (if_neg hc).symm.trans e
      refine V_aload_n (q := 40) X (TB.get tb_X6_follow 20 rfl) rfl rfl rfl ?_
      obtain ⟨x6, ex6, e⟩ := bs e
      refine V_getR (q := 43) X (TB.get tb_X6_follow 21 rfl) rfl lf_RX6_36 ex6 ?_
      refine V_aload_n (q := 44) X (TB.get tb_X6_follow 22 rfl) rfl rfl rfl ?_
      refine V_iload_n (q := 45) X (TB.get tb_X6_follow 23 rfl) rfl rfl rfl ?_
      refine V_iload (q := 47) X (TB.get tb_X6_follow 24 rfl) rfl rfl ?_
      obtain ⟨p7, ep7, e⟩ := bs e
      refine V_callV (q := 50) (As := [.ref a1, .int a3, .int a4]) (rest := []) (st' := [.int p7.1]) X (TB.get tb_X6_follow 25 rfl) rfl cv_RX6_156 (ok_X1_pass fu x6 a1 a3 a4 h5 p7 ep7).1 (ok_X1_pass fu x6 a1 a3 a4 h5 p7 ep7).2 (Nat.le_of_ble_eq_true rfl) rfl rfl (Nat.le_of_ble_eq_true rfl) rfl ?_
      refine V_if_eq (q := 53) (t := 67) X (TB.get tb_X6_follow 26 rfl) rfl rfl (fun hc => ?_) (fun hc => ?_)
      · have e := (if_pos hc).symm.trans e
        cases e
        exact V_vret X hr hlk (TB.get tb_X6_follow 34 rfl)
      · have e := (if_neg hc).symm.trans e
        refine V_aload_n (q := 54) X (TB.get tb_X6_follow 27 rfl) rfl rfl rfl ?_
        refine V_aload_n (q := 55) X (TB.get tb_X6_follow 28 rfl) rfl rfl rfl ?_
        obtain ⟨x8, ex8, e⟩ := bs e
        refine V_getR (q := 58) X (TB.get tb_X6_follow 29 rfl) rfl lf_RX6_36 ex8 ?_
        refine V_iload (q := 60) X (TB.get tb_X6_follow 30 rfl) rfl rfl ?_
        obtain ⟨x9, ex9, e⟩ := bs e
        refine V_callV (q := 63) (As := [.int w1]) (rest := [.ref a0]) (st' := [.long x9, .ref a0]) X (TB.get tb_X6_follow 31 rfl) rfl cv_RX6_45 (ok_X1_key fu x8 w1 p7.2 x9 ex9).1 (ok_X1_key fu x8 w1 p7.2 x9 ex9).2 (Nat.le_of_ble_eq_true rfl) rfl rfl (Nat.le_of_ble_eq_true rfl) rfl ?_
        refine V_iload_n (q := 64) X (TB.get tb_X6_follow 32 rfl) rfl rfl rfl ?_
        obtain ⟨h10, eh10, e⟩ := bs e
        refine V_callV (q := 67) (As := [.long x9, .int a2]) (rest := []) (st' := []) X (TB.get tb_X6_follow 33 rfl) rfl cv_RX6_49 (ok_X6_add fu a0 x9 a2 p7.2 h10 eh10).1 (ok_X6_add fu a0 x9 a2 p7.2 h10 eh10).2 (Nat.le_of_ble_eq_true rfl) rfl rfl (Nat.le_of_ble_eq_true rfl) rfl ?_
        cases e
        exact V_vret X hr hlk (TB.get tb_X6_follow 34 rfl)
  refine V_if_eq (q := 5) (t := 14) X (TB.get tb_X6_follow 1 rfl) rfl rfl (fun hc => ?_) (fun hc => ?_)
  · have e := (if_pos hc).symm.trans e
    refine V_aload_n (q := 15) X (TB.get tb_X6_follow 7 rfl) rfl rfl rfl ?_
    obtain ⟨x11, ex11, e⟩ := bs e
    refine V_getR (q := 18) X (TB.get tb_X6_follow 8 rfl) rfl lf_RX6_149 ex11 ?_
    refine V_iload_n (q := 19) X (TB.get tb_X6_follow 9 rfl) rfl rfl rfl ?_
    obtain ⟨x12, ex12, e⟩ := bs e
    refine V_iaload (q := 20) X (TB.get tb_X6_follow 10 rfl) rfl ex12 ?_
    exact Jj2 _ e
  · have e := (if_neg hc).symm.trans e
    refine V_aload_n (q := 6) X (TB.get tb_X6_follow 2 rfl) rfl rfl rfl ?_
    obtain ⟨x13, ex13, e⟩ := bs e
    refine V_getR (q := 9) X (TB.get tb_X6_follow 3 rfl) rfl lf_RX6_146 ex13 ?_
    refine V_iload_n (q := 10) X (TB.get tb_X6_follow 4 rfl) rfl rfl rfl ?_
    obtain ⟨x14, ex14, e⟩ := bs e
    refine V_iaload (q := 11) X (TB.get tb_X6_follow 5 rfl) rfl ex14 ?_
    refine V_goto (q := 20) X (TB.get tb_X6_follow 6 rfl) rfl ?_
    exact Jj2 _ e
set_option maxRecDepth 100000 in
set_option maxHeartbeats 4000000 in
theorem ok_X6_lengthTo (fu : Nat) (a0 : Nat) (a1 : Int32) (h : Hp) (res : Int32) (e : MX6_lengthTo fu a0 a1 h = some res) : CK yX6_lengthTo cX6_lengthTo 4 (some .int) 0 [.ref a0, .int a1] h (some (.int res)) h ∧ (h.1 a0).1 = 6 := by
  obtain ⟨hcl, e⟩ := h_g_inv e
  refine ⟨CK_of pn_RX6 cm_X6_lengthTo (Nat.le_of_ble_eq_true rfl) ?_, hcl⟩
  intro l D tc B nn p en s m args below meth c X hr hlk
  replace X : CX p (rmD 0) s m args c cX6_lengthTo 4 RX6 D tc 0 := X
  show V p l en (rmD 0) s m args below meth c 4 D tc B nn (Ar B nn) s.heap 0 0 (MQ below (QC D tc B nn (Ar B nn) (some (.int res)) h) args s 0 0 (Ar B nn)) h 0 [(0, .ref a0), (1, .int a1)] []
  refine V_iconst (v := 0) (q := 1) X (TB.get tb_X6_lengthTo 0 rfl) c_iconst_0 rfl ?_
  refine V_istore_n (q := 2) (lv' := [(2, .int (0 : Int32)), (0, .ref a0), (1, .int a1)]) X (TB.get tb_X6_lengthTo 1 rfl) rfl rfl (Nat.le_of_ble_eq_true rfl) rfl ?_
  refine V_iload_n (q := 3) X (TB.get tb_X6_lengthTo 2 rfl) rfl rfl rfl ?_
  refine V_istore_n (q := 4) (lv' := [(3, .int a1), (2, .int (0 : Int32)), (0, .ref a0), (1, .int a1)]) X (TB.get tb_X6_lengthTo 3 rfl) rfl rfl (Nat.le_of_ble_eq_true rfl) rfl ?_
  refine V_sub (lv' := [(0, .ref a0), (2, .int (0 : Int32)), (3, .int a1)]) [2, 1, 0] rfl ?_
  refine wh2_elim (P := fun v1 v2 => V p l en (rmD 0) s m args below meth c 4 D tc B nn (Ar B nn) s.heap 0 0 (MQ below (QC D tc B nn (Ar B nn) (some (.int res)) h) args s 0 0 (Ar B nn)) h 4 [(0, .ref a0), (2, .int v1), (3, .int v2)] []) (f := fu) ?_ e
  intro self3 v1 v2 ihself3 e
  unfold MX6_lengthTo_B4 at e
  refine V_iload_n (q := 5) X (TB.get tb_X6_lengthTo 4 rfl) rfl rfl rfl ?_
  refine V_iconst (v := -1) (q := 6) X (TB.get tb_X6_lengthTo 5 rfl) c_iconst_m1 rfl ?_
  refine V_icmp_eq (q := 9) (t := 29) X (TB.get tb_X6_lengthTo 6 rfl) rfl rfl (fun hc => ?_) (fun hc => ?_)
  · have e := (if_pos hc).symm.trans e
    refine V_iload_n (q := 30) X (TB.get tb_X6_lengthTo 17 rfl) rfl rfl rfl ?_
    cases e
    exact V_iret X hr hlk (TB.get tb_X6_lengthTo 18 rfl)
  · have e := (if_neg hc).symm.trans e
    refine V_iload_n (q := 10) X (TB.get tb_X6_lengthTo 7 rfl) rfl rfl rfl ?_
    refine V_sipush (v := 1000) (q := 13) X (TB.get tb_X6_lengthTo 8 rfl) c_sipush_1000 rfl ?_
    refine V_icmp_ge (q := 16) (t := 29) X (TB.get tb_X6_lengthTo 9 rfl) rfl rfl (fun hc => ?_) (fun hc => ?_)
    · have e := (if_pos hc).symm.trans e
      refine V_iload_n (q := 30) X (TB.get tb_X6_lengthTo 17 rfl) rfl rfl rfl ?_
      cases e
      exact V_iret X hr hlk (TB.get tb_X6_lengthTo 18 rfl)
    · have e := (if_neg hc).symm.trans e
      refine V_iinc (q := 19) (v := v1 + (1 : Int32)) (lv' := [(2, .int (v1 + (1 : Int32))), (0, .ref a0), (3, .int v2)]) X (TB.get tb_X6_lengthTo 10 rfl) rfl rfl (by rw [c_iconst_1]) (Nat.le_of_ble_eq_true rfl) rfl ?_
      refine V_aload_n (q := 20) X (TB.get tb_X6_lengthTo 11 rfl) rfl rfl rfl ?_
      obtain ⟨x4, ex4, e⟩ := bs e
      refine V_getR (q := 23) X (TB.get tb_X6_lengthTo 12 rfl) rfl lf_RX6_23 ex4 ?_
      refine V_iload_n (q := 24) X (TB.get tb_X6_lengthTo 13 rfl) rfl rfl rfl ?_
      obtain ⟨x5, ex5, e⟩ := bs e
      refine V_iaload (q := 25) X (TB.get tb_X6_lengthTo 14 rfl) rfl ex5 ?_
      refine V_istore_n (q := 26) (lv' := [(3, .int x5), (2, .int (v1 + (1 : Int32))), (0, .ref a0)]) X (TB.get tb_X6_lengthTo 15 rfl) rfl rfl (Nat.le_of_ble_eq_true rfl) rfl ?_
      refine V_goto (q := 4) X (TB.get tb_X6_lengthTo 16 rfl) rfl ?_
      refine V_sub (lv' := [(0, .ref a0), (2, .int (v1 + (1 : Int32))), (3, .int x5)]) [2, 1, 0] rfl ?_
      exact ihself3 _ _ e
set_option maxRecDepth 100000 in
set_option maxHeartbeats 4000000 in
theorem ok_X6_explore (fu : Nat) (a0 : Nat) (a1 : Nat) (h : Hp) (res : Hp) (e : MX6_explore fu a0 a1 h = some res) : CK yX6_explore cX6_explore 4 none 4 [.ref a0, .ref a1] h none res ∧ (h.1 a0).1 = 6 := by
  obtain ⟨hcl, e⟩ := h_g_inv e
  refine ⟨CK_of pn_RX6 cm_X6_explore (Nat.le_of_ble_eq_true rfl) ?_, hcl⟩
  intro l D tc B nn p en s m args below meth c X hr hlk
  replace X : CX p (rmD 4) s m args c cX6_explore 4 RX6 D tc 4 := X
  show V p l en (rmD 4) s m args below meth c 4 D tc B nn (Ar B nn) s.heap 0 0 (MQ below (QC D tc B nn (Ar B nn) none res) args s 0 0 (Ar B nn)) h 0 [(0, .ref a0), (1, .ref a1)] []
  refine V_aload_n (q := 1) X (TB.get tb_X6_explore 0 rfl) rfl rfl rfl ?_
  obtain ⟨h1, eh1, e⟩ := bs e
  refine V_callV (q := 4) (As := []) (rest := []) (st' := []) X (TB.get tb_X6_explore 1 rfl) rfl cv_RX6_39 (ok_X6_forget fu a0 h h1 eh1).1 (ok_X6_forget fu a0 h h1 eh1).2 (Nat.le_of_ble_eq_true rfl) rfl rfl (Nat.le_of_ble_eq_true rfl) rfl ?_
  refine V_aload_n (q := 5) X (TB.get tb_X6_explore 2 rfl) rfl rfl rfl ?_
  obtain ⟨x2, ex2, e⟩ := bs e
  refine V_getR (q := 8) X (TB.get tb_X6_explore 3 rfl) rfl lf_RX6_32 ex2 ?_
  obtain ⟨h3, eh3, e⟩ := bs e
  refine V_callV (q := 11) (As := []) (rest := []) (st' := []) X (TB.get tb_X6_explore 4 rfl) rfl cv_RX6_42 (ok_X1_begin fu x2 h1 h3 eh3).1 (ok_X1_begin fu x2 h1 h3 eh3).2 (Nat.le_of_ble_eq_true rfl) rfl rfl (Nat.le_of_ble_eq_true rfl) rfl ?_
  refine V_aload_n (q := 12) X (TB.get tb_X6_explore 5 rfl) rfl rfl rfl ?_
  refine V_aload_n (q := 13) X (TB.get tb_X6_explore 6 rfl) rfl rfl rfl ?_
  obtain ⟨x4, ex4, e⟩ := bs e
  refine V_getR (q := 16) X (TB.get tb_X6_explore 7 rfl) rfl lf_RX6_32 ex4 ?_
  refine V_iconst (v := 0) (q := 17) X (TB.get tb_X6_explore 8 rfl) c_iconst_0 rfl ?_
  obtain ⟨x5, ex5, e⟩ := bs e
  refine V_callV (q := 20) (As := [.int (0 : Int32)]) (rest := [.ref a0]) (st' := [.long x5, .ref a0]) X (TB.get tb_X6_explore 9 rfl) rfl cv_RX6_45 (ok_X1_key fu x4 (0 : Int32) h3 x5 ex5).1 (ok_X1_key fu x4 (0 : Int32) h3 x5 ex5).2 (Nat.le_of_ble_eq_true rfl) rfl rfl (Nat.le_of_ble_eq_true rfl) rfl ?_
  refine V_iconst (v := -1) (q := 21) X (TB.get tb_X6_explore 10 rfl) c_iconst_m1 rfl ?_
  obtain ⟨h6, eh6, e⟩ := bs e
  refine V_callV (q := 24) (As := [.long x5, .int (-1 : Int32)]) (rest := []) (st' := []) X (TB.get tb_X6_explore 11 rfl) rfl cv_RX6_49 (ok_X6_add fu a0 x5 (-1 : Int32) h3 h6 eh6).1 (ok_X6_add fu a0 x5 (-1 : Int32) h3 h6 eh6).2 (Nat.le_of_ble_eq_true rfl) rfl rfl (Nat.le_of_ble_eq_true rfl) rfl ?_
  refine V_iconst (v := 0) (q := 25) X (TB.get tb_X6_explore 12 rfl) c_iconst_0 rfl ?_
  refine V_istore_n (q := 26) (lv' := [(2, .int (0 : Int32)), (0, .ref a0), (1, .ref a1)]) X (TB.get tb_X6_explore 13 rfl) rfl rfl (Nat.le_of_ble_eq_true rfl) rfl ?_
  refine jn_elim (P := (fun (k : Hp → Option (Hp)) => ∀ (h7 : Hp), k h7 = some res → V p l en (rmD 4) s m args below meth c 4 D tc B nn (Ar B nn) s.heap 0 0 (MQ below (QC D tc B nn (Ar B nn) none res) args s 0 0 (Ar B nn)) h7 103 [(0, .ref a0)] [])) e ?_ (fun j8 Jj8 e => ?_)
  · intro h7 e
    refine V_aload_n (q := 104) X (TB.get tb_X6_explore 57 rfl) rfl rfl rfl ?_
    refine V_aload_n (q := 105) X (TB.get tb_X6_explore 58 rfl) rfl rfl rfl ?_
    refine V_aload_n (q := 106) X (TB.get tb_X6_explore 59 rfl) rfl rfl rfl ?_
    obtain ⟨x9, ex9, e⟩ := bs e
    refine V_getI (q := 109) X (TB.get tb_X6_explore 60 rfl) rfl lf_RX6_77 ex9 ?_
    obtain ⟨x10, ex10, e⟩ := bs e
    refine V_callV (q := 112) (As := [.int x9]) (rest := [.ref a0]) (st' := [.int x10, .ref a0]) X (TB.get tb_X6_explore 61 rfl) rfl cv_RX6_80 (ok_X6_lengthTo fu a0 x9 h7 x10 ex10).1 (ok_X6_lengthTo fu a0 x9 h7 x10 ex10).2 (Nat.le_of_ble_eq_true rfl) rfl rfl (Nat.le_of_ble_eq_true rfl) rfl ?_
    obtain ⟨h11, eh11, e⟩ := bs e
    refine V_putI (q := 115) X (TB.get tb_X6_explore 62 rfl) rfl lq_RX6_84 eh11 ?_
    cases e
    exact V_vret X hr hlk (TB.get tb_X6_explore 63 rfl)
  refine V_sub (lv' := [(0, .ref a0), (1, .ref a1), (2, .int (0 : Int32))]) [1, 2, 0] rfl ?_
  refine wh2_elim (P := fun v12 h13 => V p l en (rmD 4) s m args below meth c 4 D tc B nn (Ar B nn) s.heap 0 0 (MQ below (QC D tc B nn (Ar B nn) none res) args s 0 0 (Ar B nn)) h13 26 [(0, .ref a0), (1, .ref a1), (2, .int v12)] []) (f := fu) ?_ e
  intro self14 v12 h13 ihself14 e
  unfold MX6_explore_B26 at e
  refine V_iload_n (q := 27) X (TB.get tb_X6_explore 14 rfl) rfl rfl rfl ?_
  refine V_sipush (v := 1000) (q := 30) X (TB.get tb_X6_explore 15 rfl) c_sipush_1000 rfl ?_
  refine V_icmp_ge (q := 33) (t := 103) X (TB.get tb_X6_explore 16 rfl) rfl rfl (fun hc => ?_) (fun hc => ?_)
  · have e := (if_pos hc).symm.trans e
    refine V_sub (lv' := [(0, .ref a0)]) [0] rfl ?_
    exact Jj8 _ e
  · have e := (if_neg hc).symm.trans e
    refine V_iload_n (q := 34) X (TB.get tb_X6_explore 17 rfl) rfl rfl rfl ?_
    refine V_aload_n (q := 35) X (TB.get tb_X6_explore 18 rfl) rfl rfl rfl ?_
    obtain ⟨x15, ex15, e⟩ := bs e
    refine V_getI (q := 38) X (TB.get tb_X6_explore 19 rfl) rfl lf_RX6_53 ex15 ?_
    refine V_icmp_ge (q := 41) (t := 103) X (TB.get tb_X6_explore 20 rfl) rfl rfl (fun hc => ?_) (fun hc => ?_)
    · have e := (if_pos hc).symm.trans e
      refine V_sub (lv' := [(0, .ref a0)]) [0] rfl ?_
      exact Jj8 _ e
    · have e := (if_neg hc).symm.trans e
      refine V_aload_n (q := 42) X (TB.get tb_X6_explore 21 rfl) rfl rfl rfl ?_
      obtain ⟨x16, ex16, e⟩ := bs e
      refine V_getI (q := 45) X (TB.get tb_X6_explore 22 rfl) rfl lf_RX6_57 ex16 ?_
      refine V_if_ne (q := 48) (t := 103) X (TB.get tb_X6_explore 23 rfl) rfl rfl (fun hc => ?_) (fun hc => ?_)
      · have e := (if_neg hc).symm.trans e
        refine V_sub (lv' := [(0, .ref a0)]) [0] rfl ?_
        exact Jj8 _ e
      · have e := (if_pos hc).symm.trans e
        refine V_aload_n (q := 49) X (TB.get tb_X6_explore 24 rfl) rfl rfl rfl ?_
        obtain ⟨x17, ex17, e⟩ := bs e
        refine V_getR (q := 52) X (TB.get tb_X6_explore 25 rfl) rfl lf_RX6_19 ex17 ?_
        refine V_iload_n (q := 53) X (TB.get tb_X6_explore 26 rfl) rfl rfl rfl ?_
        obtain ⟨x18, ex18, e⟩ := bs e
        refine V_laload (q := 54) X (TB.get tb_X6_explore 27 rfl) rfl ex18 ?_
        obtain ⟨x19, ex19, e⟩ := bs e
        refine V_callS (q := 57) (As := [.long x18]) (rest := []) (st' := [.int x19]) X (TB.get tb_X6_explore 28 rfl) rfl cs_RX6_61 (ok_X1_placeOf x18 h13 x19 ex19) (Nat.le_of_ble_eq_true rfl) rfl rfl (Nat.le_of_ble_eq_true rfl) rfl ?_
        refine V_istore_n (q := 58) (lv' := [(3, .int x19), (0, .ref a0), (1, .ref a1), (2, .int v12)]) X (TB.get tb_X6_explore 29 rfl) rfl rfl (Nat.le_of_ble_eq_true rfl) rfl ?_
        refine V_aload_n (q := 59) X (TB.get tb_X6_explore 30 rfl) rfl rfl rfl ?_
        obtain ⟨x20, ex20, e⟩ := bs e
        refine V_getR (q := 62) X (TB.get tb_X6_explore 31 rfl) rfl lf_RX6_32 ex20 ?_
        refine V_aload_n (q := 63) X (TB.get tb_X6_explore 32 rfl) rfl rfl rfl ?_
        refine V_getR (q := 66) X (TB.get tb_X6_explore 33 rfl) rfl lf_RX6_19 ex17 ?_
        refine V_iload_n (q := 67) X (TB.get tb_X6_explore 34 rfl) rfl rfl rfl ?_
        refine V_laload (q := 68) X (TB.get tb_X6_explore 35 rfl) rfl ex18 ?_
        obtain ⟨h21, eh21, e⟩ := bs e
        refine V_callV (q := 71) (As := [.long x18]) (rest := []) (st' := []) X (TB.get tb_X6_explore 36 rfl) rfl cv_RX6_65 (ok_X1_setFrom fu x20 x18 h13 h21 eh21).1 (ok_X1_setFrom fu x20 x18 h13 h21 eh21).2 (Nat.le_of_ble_eq_true rfl) rfl rfl (Nat.le_of_ble_eq_true rfl) rfl ?_
        refine V_aload_n (q := 72) X (TB.get tb_X6_explore 37 rfl) rfl rfl rfl ?_
        refine V_aload_n (q := 73) X (TB.get tb_X6_explore 38 rfl) rfl rfl rfl ?_
        refine V_iload_n (q := 74) X (TB.get tb_X6_explore 39 rfl) rfl rfl rfl ?_
        refine V_iload_n (q := 75) X (TB.get tb_X6_explore 40 rfl) rfl rfl rfl ?_
        obtain ⟨p22, ep22, e⟩ := bs e
        refine V_callV (q := 78) (As := [.ref a1, .int v12, .int x19]) (rest := []) (st' := [.int p22.1]) X (TB.get tb_X6_explore 41 rfl) rfl cv_RX6_69 (ok_X6_goesOnFrom fu a0 a1 v12 x19 h21 p22 ep22).1 (ok_X6_goesOnFrom fu a0 a1 v12 x19 h21 p22 ep22).2 (Nat.le_of_ble_eq_true rfl) rfl rfl (Nat.le_of_ble_eq_true rfl) rfl ?_
        refine jn_elim (P := (fun (k : Hp → Option (Hp)) => ∀ (h23 : Hp), k h23 = some res → V p l en (rmD 4) s m args below meth c 4 D tc B nn (Ar B nn) s.heap 0 0 (MQ below (QC D tc B nn (Ar B nn) none res) args s 0 0 (Ar B nn)) h23 97 [(0, .ref a0), (1, .ref a1), (2, .int v12)] [])) e ?_ (fun j24 Jj24 e => ?_)
        · intro h23 e
          refine V_iinc (q := 100) (v := v12 + (1 : Int32)) (lv' := [(2, .int (v12 + (1 : Int32))), (0, .ref a0), (1, .ref a1)]) X (TB.get tb_X6_explore 55 rfl) rfl rfl (by rw [c_iconst_1]) (Nat.le_of_ble_eq_true rfl) rfl ?_
          refine V_goto (q := 26) X (TB.get tb_X6_explore 56 rfl) rfl ?_
          refine V_sub (lv' := [(0, .ref a0), (1, .ref a1), (2, .int (v12 + (1 : Int32)))]) [1, 2, 0] rfl ?_
          exact ihself14 _ _ e
        refine V_if_eq (q := 81) (t := 97) X (TB.get tb_X6_explore 42 rfl) rfl rfl (fun hc => ?_) (fun hc => ?_)
        · have e := (if_pos hc).symm.trans e
          refine V_sub (lv' := [(0, .ref a0), (1, .ref a1), (2, .int v12)]) [1, 2, 3] rfl ?_
          exact Jj24 _ e
        · have e := (if_neg hc).symm.trans e
          refine V_aload_n (q := 82) X (TB.get tb_X6_explore 43 rfl) rfl rfl rfl ?_
          refine V_aload_n (q := 83) X (TB.get tb_X6_explore 44 rfl) rfl rfl rfl ?_
          refine V_iload_n (q := 84) X (TB.get tb_X6_explore 45 rfl) rfl rfl rfl ?_
          refine V_iload_n (q := 85) X (TB.get tb_X6_explore 46 rfl) rfl rfl rfl ?_
          refine V_iconst (v := 1) (q := 86) X (TB.get tb_X6_explore 47 rfl) c_iconst_1 rfl ?_
          obtain ⟨h25, eh25, e⟩ := bs e
          refine V_callV (q := 89) (As := [.ref a1, .int v12, .int x19, .int (1 : Int32)]) (rest := []) (st' := []) X (TB.get tb_X6_explore 48 rfl) rfl cv_RX6_73 (ok_X6_follow fu a0 a1 v12 x19 (1 : Int32) p22.2 h25 eh25).1 (ok_X6_follow fu a0 a1 v12 x19 (1 : Int32) p22.2 h25 eh25).2 (Nat.le_of_ble_eq_true rfl) rfl rfl (Nat.le_of_ble_eq_true rfl) rfl ?_
          refine V_aload_n (q := 90) X (TB.get tb_X6_explore 49 rfl) rfl rfl rfl ?_
          refine V_aload_n (q := 91) X (TB.get tb_X6_explore 50 rfl) rfl rfl rfl ?_
          refine V_iload_n (q := 92) X (TB.get tb_X6_explore 51 rfl) rfl rfl rfl ?_
          refine V_iload_n (q := 93) X (TB.get tb_X6_explore 52 rfl) rfl rfl rfl ?_
          refine V_iconst (v := 0) (q := 94) X (TB.get tb_X6_explore 53 rfl) c_iconst_0 rfl ?_
          obtain ⟨h26, eh26, e⟩ := bs e
          refine V_callV (q := 97) (As := [.ref a1, .int v12, .int x19, .int (0 : Int32)]) (rest := []) (st' := []) X (TB.get tb_X6_explore 54 rfl) rfl cv_RX6_73 (ok_X6_follow fu a0 a1 v12 x19 (0 : Int32) h25 h26 eh26).1 (ok_X6_follow fu a0 a1 v12 x19 (0 : Int32) h25 h26 eh26).2 (Nat.le_of_ble_eq_true rfl) rfl rfl (Nat.le_of_ble_eq_true rfl) rfl ?_
          refine V_sub (lv' := [(0, .ref a0), (1, .ref a1), (2, .int v12)]) [1, 2, 3] rfl ?_
          exact Jj24 _ e
set_option maxRecDepth 100000 in
set_option maxHeartbeats 4000000 in
theorem ok_X6_placeOnWrongPath (fu : Nat) (a0 : Nat) (a1 : Int32) (h : Hp) (res : Int32) (e : MX6_placeOnWrongPath fu a0 a1 h = some res) : CK yX6_placeOnWrongPath cX6_placeOnWrongPath 4 (some .int) 1 [.ref a0, .int a1] h (some (.int res)) h ∧ (h.1 a0).1 = 6 := by
  obtain ⟨hcl, e⟩ := h_g_inv e
  refine ⟨CK_of pn_RX6 cm_X6_placeOnWrongPath (Nat.le_of_ble_eq_true rfl) ?_, hcl⟩
  intro l D tc B nn p en s m args below meth c X hr hlk
  replace X : CX p (rmD 1) s m args c cX6_placeOnWrongPath 4 RX6 D tc 1 := X
  show V p l en (rmD 1) s m args below meth c 4 D tc B nn (Ar B nn) s.heap 0 0 (MQ below (QC D tc B nn (Ar B nn) (some (.int res)) h) args s 0 0 (Ar B nn)) h 0 [(0, .ref a0), (1, .int a1)] []
  refine V_aload_n (q := 1) X (TB.get tb_X6_placeOnWrongPath 0 rfl) rfl rfl rfl ?_
  obtain ⟨x1, ex1, e⟩ := bs e
  refine V_getI (q := 4) X (TB.get tb_X6_placeOnWrongPath 1 rfl) rfl lf_RX6_77 ex1 ?_
  refine V_istore_n (q := 5) (lv' := [(2, .int x1), (0, .ref a0), (1, .int a1)]) X (TB.get tb_X6_placeOnWrongPath 2 rfl) rfl rfl (Nat.le_of_ble_eq_true rfl) rfl ?_
  refine V_aload_n (q := 6) X (TB.get tb_X6_placeOnWrongPath 3 rfl) rfl rfl rfl ?_
  obtain ⟨x2, ex2, e⟩ := bs e
  refine V_getI (q := 9) X (TB.get tb_X6_placeOnWrongPath 4 rfl) rfl lf_RX6_84 ex2 ?_
  refine V_iconst (v := 1) (q := 10) X (TB.get tb_X6_placeOnWrongPath 5 rfl) c_iconst_1 rfl ?_
  refine V_isub (q := 11) X (TB.get tb_X6_placeOnWrongPath 6 rfl) rfl ?_
  refine V_istore_n (q := 12) (lv' := [(3, .int (x2 - (1 : Int32))), (2, .int x1), (0, .ref a0), (1, .int a1)]) X (TB.get tb_X6_placeOnWrongPath 7 rfl) rfl rfl (Nat.le_of_ble_eq_true rfl) rfl ?_
  refine jn_elim (P := (fun (k : Int32 → Option (Int32)) => ∀ (v3 : Int32), k v3 = some res → V p l en (rmD 1) s m args below meth c 4 D tc B nn (Ar B nn) s.heap 0 0 (MQ below (QC D tc B nn (Ar B nn) (some (.int res)) h) args s 0 0 (Ar B nn)) h 35 [(0, .ref a0), (2, .int v3)] [])) e ?_ (fun j4 Jj4 e => ?_)
  · intro v3 e
    refine V_iload_n (q := 36) X (TB.get tb_X6_placeOnWrongPath 21 rfl) rfl rfl rfl ?_
    refine V_iconst (v := -1) (q := 37) X (TB.get tb_X6_placeOnWrongPath 22 rfl) c_iconst_m1 rfl ?_
    refine V_icmp_ne (q := 40) (t := 44) X (TB.get tb_X6_placeOnWrongPath 23 rfl) rfl rfl (fun hc => ?_) (fun hc => ?_)
    · have e := (if_neg hc).symm.trans e
      refine V_aload_n (q := 45) X (TB.get tb_X6_placeOnWrongPath 26 rfl) rfl rfl rfl ?_
      obtain ⟨x5, ex5, e⟩ := bs e
      refine V_getR (q := 48) X (TB.get tb_X6_placeOnWrongPath 27 rfl) rfl lf_RX6_19 ex5 ?_
      refine V_iload_n (q := 49) X (TB.get tb_X6_placeOnWrongPath 28 rfl) rfl rfl rfl ?_
      obtain ⟨x6, ex6, e⟩ := bs e
      refine V_laload (q := 50) X (TB.get tb_X6_placeOnWrongPath 29 rfl) rfl ex6 ?_
      obtain ⟨x7, ex7, e⟩ := bs e
      refine V_callS (q := 53) (As := [.long x6]) (rest := []) (st' := [.int x7]) X (TB.get tb_X6_placeOnWrongPath 30 rfl) rfl cs_RX6_61 (ok_X1_placeOf x6 h x7 ex7) (Nat.le_of_ble_eq_true rfl) rfl rfl (Nat.le_of_ble_eq_true rfl) rfl ?_
      cases e
      exact V_iret X hr hlk (TB.get tb_X6_placeOnWrongPath 31 rfl)
    · have e := (if_pos hc).symm.trans e
      refine V_iconst (v := -1) (q := 41) X (TB.get tb_X6_placeOnWrongPath 24 rfl) c_iconst_m1 rfl ?_
      refine V_goto (q := 53) X (TB.get tb_X6_placeOnWrongPath 25 rfl) rfl ?_
      cases e
      exact V_iret X hr hlk (TB.get tb_X6_placeOnWrongPath 31 rfl)
  refine V_sub (lv' := [(0, .ref a0), (1, .int a1), (2, .int x1), (3, .int (x2 - (1 : Int32)))]) [2, 3, 1, 0] rfl ?_
  refine wh2_elim (P := fun v8 v9 => V p l en (rmD 1) s m args below meth c 4 D tc B nn (Ar B nn) s.heap 0 0 (MQ below (QC D tc B nn (Ar B nn) (some (.int res)) h) args s 0 0 (Ar B nn)) h 12 [(0, .ref a0), (1, .int a1), (2, .int v8), (3, .int v9)] []) (f := fu) ?_ e
  intro self10 v8 v9 ihself10 e
  unfold MX6_placeOnWrongPath_B12 at e
  refine V_iload_n (q := 13) X (TB.get tb_X6_placeOnWrongPath 8 rfl) rfl rfl rfl ?_
  refine V_iload_n (q := 14) X (TB.get tb_X6_placeOnWrongPath 9 rfl) rfl rfl rfl ?_
  refine V_icmp_le (q := 17) (t := 35) X (TB.get tb_X6_placeOnWrongPath 10 rfl) rfl rfl (fun hc => ?_) (fun hc => ?_)
  · have e := (if_pos hc).symm.trans e
    refine V_sub (lv' := [(0, .ref a0), (2, .int v8)]) [0, 2] rfl ?_
    exact Jj4 _ e
  · have e := (if_neg hc).symm.trans e
    refine V_iload_n (q := 18) X (TB.get tb_X6_placeOnWrongPath 11 rfl) rfl rfl rfl ?_
    refine V_iconst (v := -1) (q := 19) X (TB.get tb_X6_placeOnWrongPath 12 rfl) c_iconst_m1 rfl ?_
    refine V_icmp_eq (q := 22) (t := 35) X (TB.get tb_X6_placeOnWrongPath 13 rfl) rfl rfl (fun hc => ?_) (fun hc => ?_)
    · have e := (if_pos hc).symm.trans e
      refine V_sub (lv' := [(0, .ref a0), (2, .int v8)]) [0, 2] rfl ?_
      exact Jj4 _ e
    · have e := (if_neg hc).symm.trans e
      refine V_aload_n (q := 23) X (TB.get tb_X6_placeOnWrongPath 14 rfl) rfl rfl rfl ?_
      obtain ⟨x11, ex11, e⟩ := bs e
      refine V_getR (q := 26) X (TB.get tb_X6_placeOnWrongPath 15 rfl) rfl lf_RX6_23 ex11 ?_
      refine V_iload_n (q := 27) X (TB.get tb_X6_placeOnWrongPath 16 rfl) rfl rfl rfl ?_
      obtain ⟨x12, ex12, e⟩ := bs e
      refine V_iaload (q := 28) X (TB.get tb_X6_placeOnWrongPath 17 rfl) rfl ex12 ?_
      refine V_istore_n (q := 29) (lv' := [(2, .int x12), (0, .ref a0), (1, .int a1), (3, .int v9)]) X (TB.get tb_X6_placeOnWrongPath 18 rfl) rfl rfl (Nat.le_of_ble_eq_true rfl) rfl ?_
      refine V_iinc (q := 32) (v := v9 + (-1 : Int32)) (lv' := [(3, .int (v9 + (-1 : Int32))), (2, .int x12), (0, .ref a0), (1, .int a1)]) X (TB.get tb_X6_placeOnWrongPath 19 rfl) rfl rfl (by rw [c_iconst_m1]) (Nat.le_of_ble_eq_true rfl) rfl ?_
      refine V_goto (q := 12) X (TB.get tb_X6_placeOnWrongPath 20 rfl) rfl ?_
      refine V_sub (lv' := [(0, .ref a0), (1, .int a1), (2, .int x12), (3, .int (v9 + (-1 : Int32)))]) [2, 3, 1, 0] rfl ?_
      exact ihself10 _ _ e
set_option maxRecDepth 100000 in
set_option maxHeartbeats 4000000 in
theorem ok_X6_gather (fu : Nat) (a0 : Nat) (a1 : Int32) (a2 : Int32) (a3 : Int32) (h : Hp) (res : Int32 × Hp) (e : MX6_gather fu a0 a1 a2 a3 h = some res) : CK yX6_gather cX6_gather 8 (some .int) 3 [.ref a0, .int a1, .int a2, .int a3] h (some (.int res.1)) res.2 ∧ (h.1 a0).1 = 6 := by
  obtain ⟨hcl, e⟩ := h_g_inv e
  refine ⟨CK_of pn_RX6 cm_X6_gather (Nat.le_of_ble_eq_true rfl) ?_, hcl⟩
  intro l D tc B nn p en s m args below meth c X hr hlk
  replace X : CX p (rmD 3) s m args c cX6_gather 8 RX6 D tc 3 := X
  show V p l en (rmD 3) s m args below meth c 8 D tc B nn (Ar B nn) s.heap 0 0 (MQ below (QC D tc B nn (Ar B nn) (some (.int res.1)) res.2) args s 0 0 (Ar B nn)) h 0 [(0, .ref a0), (1, .int a1), (2, .int a2), (3, .int a3)] []
  refine V_iconst (v := 0) (q := 1) X (TB.get tb_X6_gather 0 rfl) c_iconst_0 rfl ?_
  refine V_istore (q := 3) (lv' := [(4, .int (0 : Int32)), (0, .ref a0), (1, .int a1), (2, .int a2), (3, .int a3)]) X (TB.get tb_X6_gather 1 rfl) rfl (Nat.le_of_ble_eq_true rfl) rfl ?_
  refine V_bipush (v := 63) (q := 5) X (TB.get tb_X6_gather 2 rfl) c_bipush_63 rfl ?_
  refine V_istore (q := 7) (lv' := [(5, .int (63 : Int32)), (4, .int (0 : Int32)), (0, .ref a0), (1, .int a1), (2, .int a2), (3, .int a3)]) X (TB.get tb_X6_gather 3 rfl) rfl (Nat.le_of_ble_eq_true rfl) rfl ?_
  refine V_iconst (v := 0) (q := 8) X (TB.get tb_X6_gather 4 rfl) c_iconst_0 rfl ?_
  refine V_istore (q := 10) (lv' := [(6, .int (0 : Int32)), (5, .int (63 : Int32)), (4, .int (0 : Int32)), (0, .ref a0), (1, .int a1), (2, .int a2), (3, .int a3)]) X (TB.get tb_X6_gather 5 rfl) rfl (Nat.le_of_ble_eq_true rfl) rfl ?_
  refine V_iconst (v := 0) (q := 11) X (TB.get tb_X6_gather 6 rfl) c_iconst_0 rfl ?_
  refine V_istore (q := 13) (lv' := [(7, .int (0 : Int32)), (6, .int (0 : Int32)), (5, .int (63 : Int32)), (4, .int (0 : Int32)), (0, .ref a0), (1, .int a1), (2, .int a2), (3, .int a3)]) X (TB.get tb_X6_gather 7 rfl) rfl (Nat.le_of_ble_eq_true rfl) rfl ?_
  refine jn_elim (P := (fun (k : Int32 → Int32 → Int32 → Hp → Option (Int32 × Hp)) => ∀ (v1 : Int32) (v2 : Int32) (v3 : Int32) (h4 : Hp), k v1 v2 v3 h4 = some res → V p l en (rmD 3) s m args below meth c 8 D tc B nn (Ar B nn) s.heap 0 0 (MQ below (QC D tc B nn (Ar B nn) (some (.int res.1)) res.2) args s 0 0 (Ar B nn)) h4 98 [(3, .int a3), (4, .int v1), (5, .int v2), (6, .int v3)] [])) e ?_ (fun j5 Jj5 e => ?_)
  · intro v1 v2 v3 h4 e
    refine V_iload_n (q := 99) X (TB.get tb_X6_gather 51 rfl) rfl rfl rfl ?_
    refine V_iconst (v := 3) (q := 100) X (TB.get tb_X6_gather 52 rfl) c_iconst_3 rfl ?_
    refine V_icmp_eq (q := 103) (t := 106) X (TB.get tb_X6_gather 53 rfl) rfl rfl (fun hc => ?_) (fun hc => ?_)
    · have e := (if_pos hc).symm.trans e
      refine V_iload (q := 108) X (TB.get tb_X6_gather 56 rfl) rfl rfl ?_
      refine V_if_eq (q := 111) (t := 116) X (TB.get tb_X6_gather 57 rfl) rfl rfl (fun hc => ?_) (fun hc => ?_)
      · have e := (if_pos hc).symm.trans e
        refine V_iconst (v := 0) (q := 117) X (TB.get tb_X6_gather 60 rfl) c_iconst_0 rfl ?_
        cases e
        exact V_iret X hr hlk (TB.get tb_X6_gather 61 rfl)
      · have e := (if_neg hc).symm.trans e
        refine V_iload (q := 113) X (TB.get tb_X6_gather 58 rfl) rfl rfl ?_
        refine V_goto (q := 117) X (TB.get tb_X6_gather 59 rfl) rfl ?_
        cases e
        exact V_iret X hr hlk (TB.get tb_X6_gather 61 rfl)
    · have e := (if_neg hc).symm.trans e
      refine V_iload (q := 105) X (TB.get tb_X6_gather 54 rfl) rfl rfl ?_
      cases e
      exact V_iret X hr hlk (TB.get tb_X6_gather 55 rfl)
  refine V_sub (lv' := [(0, .ref a0), (1, .int a1), (2, .int a2), (3, .int a3), (4, .int (0 : Int32)), (5, .int (63 : Int32)), (6, .int (0 : Int32)), (7, .int (0 : Int32))]) [4, 5, 6, 7, 3, 2, 1, 0] rfl ?_
  refine wh5_elim (P := fun v6 v7 v8 v9 h10 => V p l en (rmD 3) s m args below meth c 8 D tc B nn (Ar B nn) s.heap 0 0 (MQ below (QC D tc B nn (Ar B nn) (some (.int res.1)) res.2) args s 0 0 (Ar B nn)) h10 13 [(0, .ref a0), (1, .int a1), (2, .int a2), (3, .int a3), (4, .int v6), (5, .int v7), (6, .int v8), (7, .int v9)] []) (f := fu) ?_ e
  intro self11 v6 v7 v8 v9 h10 ihself11 e
  unfold MX6_gather_B13 at e
  refine V_iload (q := 15) X (TB.get tb_X6_gather 8 rfl) rfl rfl ?_
  refine V_aload_n (q := 16) X (TB.get tb_X6_gather 9 rfl) rfl rfl rfl ?_
  obtain ⟨x12, ex12, e⟩ := bs e
  refine V_getI (q := 19) X (TB.get tb_X6_gather 10 rfl) rfl lf_RX6_53 ex12 ?_
  refine V_icmp_ge (q := 22) (t := 98) X (TB.get tb_X6_gather 11 rfl) rfl rfl (fun hc => ?_) (fun hc => ?_)
  · have e := (if_pos hc).symm.trans e
    refine V_sub (lv' := [(3, .int a3), (4, .int v6), (5, .int v7), (6, .int v8)]) [3, 4, 5, 6] rfl ?_
    exact Jj5 _ _ _ _ e
  · have e := (if_neg hc).symm.trans e
    refine V_aload_n (q := 23) X (TB.get tb_X6_gather 12 rfl) rfl rfl rfl ?_
    obtain ⟨x13, ex13, e⟩ := bs e
    refine V_getR (q := 26) X (TB.get tb_X6_gather 13 rfl) rfl lf_RX6_19 ex13 ?_
    refine V_iload (q := 28) X (TB.get tb_X6_gather 14 rfl) rfl rfl ?_
    obtain ⟨x14, ex14, e⟩ := bs e
    refine V_laload (q := 29) X (TB.get tb_X6_gather 15 rfl) rfl ex14 ?_
    obtain ⟨x15, ex15, e⟩ := bs e
    refine V_callS (q := 32) (As := [.long x14]) (rest := []) (st' := [.int x15]) X (TB.get tb_X6_gather 16 rfl) rfl cs_RX6_61 (ok_X1_placeOf x14 h10 x15 ex15) (Nat.le_of_ble_eq_true rfl) rfl rfl (Nat.le_of_ble_eq_true rfl) rfl ?_
    refine V_iload_n (q := 33) X (TB.get tb_X6_gather 17 rfl) rfl rfl rfl ?_
    refine jn_elim (P := (fun (k : Int32 → Int32 → Int32 → Hp → Option (Int32 × Hp)) => ∀ (v16 : Int32) (v17 : Int32) (v18 : Int32) (h19 : Hp), k v16 v17 v18 h19 = some res → V p l en (rmD 3) s m args below meth c 8 D tc B nn (Ar B nn) s.heap 0 0 (MQ below (QC D tc B nn (Ar B nn) (some (.int res.1)) res.2) args s 0 0 (Ar B nn)) h19 92 [(0, .ref a0), (1, .int a1), (2, .int a2), (3, .int a3), (4, .int v16), (5, .int v17), (6, .int v18), (7, .int v9)] [])) e ?_ (fun j20 Jj20 e => ?_)
    · intro v16 v17 v18 h19 e
      refine V_iinc (q := 95) (v := v9 + (1 : Int32)) (lv' := [(7, .int (v9 + (1 : Int32))), (0, .ref a0), (1, .int a1), (2, .int a2), (3, .int a3), (4, .int v16), (5, .int v17), (6, .int v18)]) X (TB.get tb_X6_gather 49 rfl) rfl rfl (by rw [c_iconst_1]) (Nat.le_of_ble_eq_true rfl) rfl ?_
      refine V_goto (q := 13) X (TB.get tb_X6_gather 50 rfl) rfl ?_
      refine V_sub (lv' := [(0, .ref a0), (1, .int a1), (2, .int a2), (3, .int a3), (4, .int v16), (5, .int v17), (6, .int v18), (7, .int (v9 + (1 : Int32)))]) [1, 2, 3, 4, 5, 6, 7, 0] rfl ?_
      exact ihself11 _ _ _ _ _ e
    refine V_icmp_ne (q := 36) (t := 92) X (TB.get tb_X6_gather 18 rfl) rfl rfl (fun hc => ?_) (fun hc => ?_)
    · have e := (if_neg hc).symm.trans e
      exact Jj20 _ _ _ _ e
    · have e := (if_pos hc).symm.trans e
      refine V_aload_n (q := 37) X (TB.get tb_X6_gather 19 rfl) rfl rfl rfl ?_
      obtain ⟨x21, ex21, e⟩ := bs e
      refine V_getR (q := 40) X (TB.get tb_X6_gather 20 rfl) rfl lf_RX6_32 ex21 ?_
      refine V_aload_n (q := 41) X (TB.get tb_X6_gather 21 rfl) rfl rfl rfl ?_
      refine V_getR (q := 44) X (TB.get tb_X6_gather 22 rfl) rfl lf_RX6_19 ex13 ?_
      refine V_iload (q := 46) X (TB.get tb_X6_gather 23 rfl) rfl rfl ?_
      refine V_laload (q := 47) X (TB.get tb_X6_gather 24 rfl) rfl ex14 ?_
      obtain ⟨h22, eh22, e⟩ := bs e
      refine V_callV (q := 50) (As := [.long x14]) (rest := []) (st' := []) X (TB.get tb_X6_gather 25 rfl) rfl cv_RX6_65 (ok_X1_setFrom fu x21 x14 h10 h22 eh22).1 (ok_X1_setFrom fu x21 x14 h10 h22 eh22).2 (Nat.le_of_ble_eq_true rfl) rfl rfl (Nat.le_of_ble_eq_true rfl) rfl ?_
      refine V_iload (q := 52) X (TB.get tb_X6_gather 26 rfl) rfl rfl ?_
      refine V_aload_n (q := 53) X (TB.get tb_X6_gather 27 rfl) rfl rfl rfl ?_
      obtain ⟨x23, ex23, e⟩ := bs e
      refine V_getR (q := 56) X (TB.get tb_X6_gather 28 rfl) rfl lf_RX6_32 ex23 ?_
      refine V_iload_n (q := 57) X (TB.get tb_X6_gather 29 rfl) rfl rfl rfl ?_
      refine V_iload_n (q := 58) X (TB.get tb_X6_gather 30 rfl) rfl rfl rfl ?_
      obtain ⟨x24, ex24, e⟩ := bs e
      refine V_callV (q := 61) (As := [.int a3, .int a2]) (rest := [.int v6]) (st' := [.int x24, .int v6]) X (TB.get tb_X6_gather 31 rfl) rfl cv_RX6_166 (ok_X1_part x23 a3 a2 h22 x24 ex24).1 (ok_X1_part x23 a3 a2 h22 x24 ex24).2 (Nat.le_of_ble_eq_true rfl) rfl rfl (Nat.le_of_ble_eq_true rfl) rfl ?_
      refine V_ior (q := 62) X (TB.get tb_X6_gather 32 rfl) rfl ?_
      refine V_istore (q := 64) (lv' := [(4, .int (v6 ||| x24)), (0, .ref a0), (1, .int a1), (2, .int a2), (3, .int a3), (5, .int v7), (6, .int v8), (7, .int v9)]) X (TB.get tb_X6_gather 33 rfl) rfl (Nat.le_of_ble_eq_true rfl) rfl ?_
      refine V_aload_n (q := 65) X (TB.get tb_X6_gather 34 rfl) rfl rfl rfl ?_
      refine V_getR (q := 68) X (TB.get tb_X6_gather 35 rfl) rfl lf_RX6_32 ex23 ?_
      refine V_iload_n (q := 69) X (TB.get tb_X6_gather 36 rfl) rfl rfl rfl ?_
      obtain ⟨x25, ex25, e⟩ := bs e
      refine V_callV (q := 72) (As := [.int a2]) (rest := []) (st' := [.int x25]) X (TB.get tb_X6_gather 37 rfl) rfl cv_RX6_133 (ok_X1_states x23 a2 h22 x25 ex25).1 (ok_X1_states x23 a2 h22 x25 ex25).2 (Nat.le_of_ble_eq_true rfl) rfl rfl (Nat.le_of_ble_eq_true rfl) rfl ?_
      refine V_if_eq (q := 75) (t := 92) X (TB.get tb_X6_gather 38 rfl) rfl rfl (fun hc => ?_) (fun hc => ?_)
      · have e := (if_pos hc).symm.trans e
        refine V_sub (lv' := [(0, .ref a0), (1, .int a1), (2, .int a2), (3, .int a3), (4, .int (v6 ||| x24)), (5, .int v7), (6, .int v8), (7, .int v9)]) [1, 2, 3, 4, 0, 5, 6, 7] rfl ?_
        exact Jj20 _ _ _ _ e
      · have e := (if_neg hc).symm.trans e
        refine V_iconst (v := 1) (q := 76) X (TB.get tb_X6_gather 39 rfl) c_iconst_1 rfl ?_
        refine V_istore (q := 78) (lv' := [(6, .int (1 : Int32)), (4, .int (v6 ||| x24)), (0, .ref a0), (1, .int a1), (2, .int a2), (3, .int a3), (5, .int v7), (7, .int v9)]) X (TB.get tb_X6_gather 40 rfl) rfl (Nat.le_of_ble_eq_true rfl) rfl ?_
        refine V_iload (q := 80) X (TB.get tb_X6_gather 41 rfl) rfl rfl ?_
        refine V_aload_n (q := 81) X (TB.get tb_X6_gather 42 rfl) rfl rfl rfl ?_
        refine V_getR (q := 84) X (TB.get tb_X6_gather 43 rfl) rfl lf_RX6_32 ex23 ?_
        refine V_iload_n (q := 85) X (TB.get tb_X6_gather 44 rfl) rfl rfl rfl ?_
        refine V_iload_n (q := 86) X (TB.get tb_X6_gather 45 rfl) rfl rfl rfl ?_
        refine V_callV (q := 89) (As := [.int a3, .int a2]) (rest := [.int v7]) (st' := [.int x24, .int v7]) X (TB.get tb_X6_gather 46 rfl) rfl cv_RX6_166 (ok_X1_part x23 a3 a2 h22 x24 ex24).1 (ok_X1_part x23 a3 a2 h22 x24 ex24).2 (Nat.le_of_ble_eq_true rfl) rfl rfl (Nat.le_of_ble_eq_true rfl) rfl ?_
        refine V_iand (q := 90) X (TB.get tb_X6_gather 47 rfl) rfl ?_
        refine V_istore (q := 92) (lv' := [(5, .int (v7 &&& x24)), (6, .int (1 : Int32)), (4, .int (v6 ||| x24)), (0, .ref a0), (1, .int a1), (2, .int a2), (3, .int a3), (7, .int v9)]) X (TB.get tb_X6_gather 48 rfl) rfl (Nat.le_of_ble_eq_true rfl) rfl ?_
        refine V_sub (lv' := [(0, .ref a0), (1, .int a1), (2, .int a2), (3, .int a3), (4, .int (v6 ||| x24)), (5, .int (v7 &&& x24)), (6, .int (1 : Int32)), (7, .int v9)]) [3, 4, 5, 6, 2, 0, 1, 7] rfl ?_
        exact Jj20 _ _ _ _ e
set_option maxRecDepth 100000 in
set_option maxHeartbeats 4000000 in
theorem ok_X7_putByte (a0 : Nat) (a1 : Int32) (h : Hp) (res : Hp) (e : MX7_putByte a0 a1 h = some res) : CK yX7_putByte cX7_putByte 2 none 0 [.ref a0, .int a1] h none res ∧ (h.1 a0).1 = 7 := by
  obtain ⟨hcl, e⟩ := h_g_inv e
  refine ⟨CK_of pn_RX7 cm_X7_putByte (Nat.le_of_ble_eq_true rfl) ?_, hcl⟩
  intro l D tc B nn p en s m args below meth c X hr hlk
  replace X : CX p (rmD 0) s m args c cX7_putByte 2 RX7 D tc 0 := X
  show V p l en (rmD 0) s m args below meth c 2 D tc B nn (Ar B nn) s.heap 0 0 (MQ below (QC D tc B nn (Ar B nn) none res) args s 0 0 (Ar B nn)) h 0 [(0, .ref a0), (1, .int a1)] []
  refine V_aload_n (q := 1) X (TB.get tb_X7_putByte 0 rfl) rfl rfl rfl ?_
  obtain ⟨x1, ex1, e⟩ := bs e
  refine V_getI (q := 4) X (TB.get tb_X7_putByte 1 rfl) rfl lf_RX7_37 ex1 ?_
  refine V_sipush (v := 900) (q := 7) X (TB.get tb_X7_putByte 2 rfl) c_sipush_900 rfl ?_
  refine V_icmp_ge (q := 10) (t := 31) X (TB.get tb_X7_putByte 3 rfl) rfl rfl (fun hc => ?_) (fun hc => ?_)
  · have e := (if_pos hc).symm.trans e
    cases e
    exact V_vret X hr hlk (TB.get tb_X7_putByte 17 rfl)
  · have e := (if_neg hc).symm.trans e
    refine V_aload_n (q := 11) X (TB.get tb_X7_putByte 4 rfl) rfl rfl rfl ?_
    obtain ⟨x2, ex2, e⟩ := bs e
    refine V_getR (q := 14) X (TB.get tb_X7_putByte 5 rfl) rfl lf_RX7_9 ex2 ?_
    refine V_aload_n (q := 15) X (TB.get tb_X7_putByte 6 rfl) rfl rfl rfl ?_
    refine V_getI (q := 18) X (TB.get tb_X7_putByte 7 rfl) rfl lf_RX7_37 ex1 ?_
    refine V_iload_n (q := 19) X (TB.get tb_X7_putByte 8 rfl) rfl rfl rfl ?_
    refine V_i2b (q := 20) X (TB.get tb_X7_putByte 9 rfl) rfl ?_
    obtain ⟨h3, eh3, e⟩ := bs e
    refine V_bastoreB (q := 21) X (TB.get tb_X7_putByte 10 rfl) rfl eh3 ?_
    refine V_aload_n (q := 22) X (TB.get tb_X7_putByte 11 rfl) rfl rfl rfl ?_
    refine V_dup (q := 23) X (TB.get tb_X7_putByte 12 rfl) rfl rfl ?_
    obtain ⟨x4, ex4, e⟩ := bs e
    refine V_getI (q := 26) X (TB.get tb_X7_putByte 13 rfl) rfl lf_RX7_37 ex4 ?_
    refine V_iconst (v := 1) (q := 27) X (TB.get tb_X7_putByte 14 rfl) c_iconst_1 rfl ?_
    refine V_iadd (q := 28) X (TB.get tb_X7_putByte 15 rfl) rfl ?_
    obtain ⟨h5, eh5, e⟩ := bs e
    refine V_putI (q := 31) X (TB.get tb_X7_putByte 16 rfl) rfl lq_RX7_37 eh5 ?_
    cases e
    exact V_vret X hr hlk (TB.get tb_X7_putByte 17 rfl)
set_option maxRecDepth 100000 in
set_option maxHeartbeats 4000000 in
theorem ok_X7_putInt (a0 : Nat) (a1 : Int32) (h : Hp) (res : Hp) (e : MX7_putInt a0 a1 h = some res) : CK yX7_putInt cX7_putInt 2 none 1 [.ref a0, .int a1] h none res ∧ (h.1 a0).1 = 7 := by
  obtain ⟨hcl, e⟩ := h_g_inv e
  refine ⟨CK_of pn_RX7 cm_X7_putInt (Nat.le_of_ble_eq_true rfl) ?_, hcl⟩
  intro l D tc B nn p en s m args below meth c X hr hlk
  replace X : CX p (rmD 1) s m args c cX7_putInt 2 RX7 D tc 1 := X
  show V p l en (rmD 1) s m args below meth c 2 D tc B nn (Ar B nn) s.heap 0 0 (MQ below (QC D tc B nn (Ar B nn) none res) args s 0 0 (Ar B nn)) h 0 [(0, .ref a0), (1, .int a1)] []
  refine V_aload_n (q := 1) X (TB.get tb_X7_putInt 0 rfl) rfl rfl rfl ?_
  refine V_iload_n (q := 2) X (TB.get tb_X7_putInt 1 rfl) rfl rfl rfl ?_
  refine V_bipush (v := 24) (q := 4) X (TB.get tb_X7_putInt 2 rfl) c_bipush_24 rfl ?_
  refine V_ishr (q := 5) X (TB.get tb_X7_putInt 3 rfl) rfl ?_
  obtain ⟨h1, eh1, e⟩ := bs e
  refine V_callV (q := 8) (As := [.int (a1 >>> ((24 : Int32) &&& 31))]) (rest := []) (st' := []) X (TB.get tb_X7_putInt 4 rfl) rfl cv_RX7_33 (ok_X7_putByte a0 (a1 >>> ((24 : Int32) &&& 31)) h h1 eh1).1 (ok_X7_putByte a0 (a1 >>> ((24 : Int32) &&& 31)) h h1 eh1).2 (Nat.le_of_ble_eq_true rfl) rfl rfl (Nat.le_of_ble_eq_true rfl) rfl ?_
  refine V_aload_n (q := 9) X (TB.get tb_X7_putInt 5 rfl) rfl rfl rfl ?_
  refine V_iload_n (q := 10) X (TB.get tb_X7_putInt 6 rfl) rfl rfl rfl ?_
  refine V_bipush (v := 16) (q := 12) X (TB.get tb_X7_putInt 7 rfl) c_bipush_16 rfl ?_
  refine V_ishr (q := 13) X (TB.get tb_X7_putInt 8 rfl) rfl ?_
  obtain ⟨h2, eh2, e⟩ := bs e
  refine V_callV (q := 16) (As := [.int (a1 >>> ((16 : Int32) &&& 31))]) (rest := []) (st' := []) X (TB.get tb_X7_putInt 9 rfl) rfl cv_RX7_33 (ok_X7_putByte a0 (a1 >>> ((16 : Int32) &&& 31)) h1 h2 eh2).1 (ok_X7_putByte a0 (a1 >>> ((16 : Int32) &&& 31)) h1 h2 eh2).2 (Nat.le_of_ble_eq_true rfl) rfl rfl (Nat.le_of_ble_eq_true rfl) rfl ?_
  refine V_aload_n (q := 17) X (TB.get tb_X7_putInt 10 rfl) rfl rfl rfl ?_
  refine V_iload_n (q := 18) X (TB.get tb_X7_putInt 11 rfl) rfl rfl rfl ?_
  refine V_bipush (v := 8) (q := 20) X (TB.get tb_X7_putInt 12 rfl) c_bipush_8 rfl ?_
  refine V_ishr (q := 21) X (TB.get tb_X7_putInt 13 rfl) rfl ?_
  obtain ⟨h3, eh3, e⟩ := bs e
  refine V_callV (q := 24) (As := [.int (a1 >>> ((8 : Int32) &&& 31))]) (rest := []) (st' := []) X (TB.get tb_X7_putInt 14 rfl) rfl cv_RX7_33 (ok_X7_putByte a0 (a1 >>> ((8 : Int32) &&& 31)) h2 h3 eh3).1 (ok_X7_putByte a0 (a1 >>> ((8 : Int32) &&& 31)) h2 h3 eh3).2 (Nat.le_of_ble_eq_true rfl) rfl rfl (Nat.le_of_ble_eq_true rfl) rfl ?_
  refine V_aload_n (q := 25) X (TB.get tb_X7_putInt 15 rfl) rfl rfl rfl ?_
  refine V_iload_n (q := 26) X (TB.get tb_X7_putInt 16 rfl) rfl rfl rfl ?_
  obtain ⟨h4, eh4, e⟩ := bs e
  refine V_callV (q := 29) (As := [.int a1]) (rest := []) (st' := []) X (TB.get tb_X7_putInt 17 rfl) rfl cv_RX7_33 (ok_X7_putByte a0 a1 h3 h4 eh4).1 (ok_X7_putByte a0 a1 h3 h4 eh4).2 (Nat.le_of_ble_eq_true rfl) rfl rfl (Nat.le_of_ble_eq_true rfl) rfl ?_
  cases e
  exact V_vret X hr hlk (TB.get tb_X7_putInt 18 rfl)
set_option maxRecDepth 100000 in
set_option maxHeartbeats 4000000 in
theorem ok_X8_status (a0 : Nat) (h : Hp) (res : Int32) (e : MX8_status a0 h = some res) : CK yX8_status cX8_status 1 (some .int) 0 [.ref a0] h (some (.int res)) h ∧ (h.1 a0).1 = 8 := by
  obtain ⟨hcl, e⟩ := h_g_inv e
  refine ⟨CK_of pn_RX8 cm_X8_status (Nat.le_of_ble_eq_true rfl) ?_, hcl⟩
  intro l D tc B nn p en s m args below meth c X hr hlk
  replace X : CX p (rmD 0) s m args c cX8_status 1 RX8 D tc 0 := X
  show V p l en (rmD 0) s m args below meth c 1 D tc B nn (Ar B nn) s.heap 0 0 (MQ below (QC D tc B nn (Ar B nn) (some (.int res)) h) args s 0 0 (Ar B nn)) h 0 [(0, .ref a0)] []
  refine V_aload_n (q := 1) X (TB.get tb_X8_status 0 rfl) rfl rfl rfl ?_
  obtain ⟨x1, ex1, e⟩ := bs e
  refine V_getI (q := 4) X (TB.get tb_X8_status 1 rfl) rfl lf_RX8_64 ex1 ?_
  cases e
  exact V_iret X hr hlk (TB.get tb_X8_status 2 rfl)
set_option maxRecDepth 100000 in
set_option maxHeartbeats 4000000 in
theorem ok_X8_feed (a0 : Nat) (a1 : Int32) (a2 : Int32) (a3 : Int32) (a4 : Int32) (a5 : Int32) (h : Hp) (res : Int32 × Hp) (e : MX8_feed a0 a1 a2 a3 a4 a5 h = some res) : CK yX8_feed cX8_feed 7 (some .int) 2 [.ref a0, .int a1, .int a2, .int a3, .int a4, .int a5] h (some (.int res.1)) res.2 ∧ (h.1 a0).1 = 8 := by
  obtain ⟨hcl, e⟩ := h_g_inv e
  refine ⟨CK_of pn_RX8 cm_X8_feed (Nat.le_of_ble_eq_true rfl) ?_, hcl⟩
  intro l D tc B nn p en s m args below meth c X hr hlk
  replace X : CX p (rmD 2) s m args c cX8_feed 7 RX8 D tc 2 := X
  show V p l en (rmD 2) s m args below meth c 7 D tc B nn (Ar B nn) s.heap 0 0 (MQ below (QC D tc B nn (Ar B nn) (some (.int res.1)) res.2) args s 0 0 (Ar B nn)) h 0 [(0, .ref a0), (1, .int a1), (2, .int a2), (3, .int a3), (4, .int a4), (5, .int a5)] []
  refine V_aload_n (q := 1) X (TB.get tb_X8_feed 0 rfl) rfl rfl rfl ?_
  obtain ⟨x1, ex1, e⟩ := bs e
  refine V_getR (q := 4) X (TB.get tb_X8_feed 1 rfl) rfl lf_RX8_12 ex1 ?_
  obtain ⟨x2, ex2, e⟩ := bs e
  refine V_getR (q := 7) X (TB.get tb_X8_feed 2 rfl) rfl lf_RX8_67 ex2 ?_
  refine V_astore (q := 9) (lv' := [(6, .ref x2), (0, .ref a0), (1, .int a1), (2, .int a2), (3, .int a3), (4, .int a4), (5, .int a5)]) X (TB.get tb_X8_feed 3 rfl) rfl (Nat.le_of_ble_eq_true rfl) rfl ?_
  refine V_aload (q := 11) X (TB.get tb_X8_feed 4 rfl) rfl rfl ?_
  obtain ⟨x3, ex3, e⟩ := bs e
  refine V_getI (q := 14) X (TB.get tb_X8_feed 5 rfl) rfl lf_RX8_71 ex3 ?_
  refine V_sipush (v := 880) (q := 17) X (TB.get tb_X8_feed 6 rfl) c_sipush_880 rfl ?_
  refine V_icmp_le (q := 20) (t := 22) X (TB.get tb_X8_feed 7 rfl) rfl rfl (fun hc => ?_) (fun hc => ?_)
  · have e := (if_pos hc).symm.trans e
    refine V_aload (q := 24) X (TB.get tb_X8_feed 10 rfl) rfl rfl ?_
    refine V_iload_n (q := 25) X (TB.get tb_X8_feed 11 rfl) rfl rfl rfl ?_
    obtain ⟨h4, eh4, e⟩ := bs e
    refine V_callV (q := 28) (As := [.int a1]) (rest := []) (st' := []) X (TB.get tb_X8_feed 12 rfl) rfl cv_RX8_76 (ok_X7_putInt x2 a1 h h4 eh4).1 (ok_X7_putInt x2 a1 h h4 eh4).2 (Nat.le_of_ble_eq_true rfl) rfl rfl (Nat.le_of_ble_eq_true rfl) rfl ?_
    refine V_aload (q := 30) X (TB.get tb_X8_feed 13 rfl) rfl rfl ?_
    refine V_iload_n (q := 31) X (TB.get tb_X8_feed 14 rfl) rfl rfl rfl ?_
    obtain ⟨h5, eh5, e⟩ := bs e
    refine V_callV (q := 34) (As := [.int a2]) (rest := []) (st' := []) X (TB.get tb_X8_feed 15 rfl) rfl cv_RX8_76 (ok_X7_putInt x2 a2 h4 h5 eh5).1 (ok_X7_putInt x2 a2 h4 h5 eh5).2 (Nat.le_of_ble_eq_true rfl) rfl rfl (Nat.le_of_ble_eq_true rfl) rfl ?_
    refine V_aload (q := 36) X (TB.get tb_X8_feed 16 rfl) rfl rfl ?_
    refine V_iload_n (q := 37) X (TB.get tb_X8_feed 17 rfl) rfl rfl rfl ?_
    obtain ⟨h6, eh6, e⟩ := bs e
    refine V_callV (q := 40) (As := [.int a3]) (rest := []) (st' := []) X (TB.get tb_X8_feed 18 rfl) rfl cv_RX8_76 (ok_X7_putInt x2 a3 h5 h6 eh6).1 (ok_X7_putInt x2 a3 h5 h6 eh6).2 (Nat.le_of_ble_eq_true rfl) rfl rfl (Nat.le_of_ble_eq_true rfl) rfl ?_
    refine V_aload (q := 42) X (TB.get tb_X8_feed 19 rfl) rfl rfl ?_
    refine V_iload (q := 44) X (TB.get tb_X8_feed 20 rfl) rfl rfl ?_
    obtain ⟨h7, eh7, e⟩ := bs e
    refine V_callV (q := 47) (As := [.int a4]) (rest := []) (st' := []) X (TB.get tb_X8_feed 21 rfl) rfl cv_RX8_76 (ok_X7_putInt x2 a4 h6 h7 eh7).1 (ok_X7_putInt x2 a4 h6 h7 eh7).2 (Nat.le_of_ble_eq_true rfl) rfl rfl (Nat.le_of_ble_eq_true rfl) rfl ?_
    refine V_aload (q := 49) X (TB.get tb_X8_feed 22 rfl) rfl rfl ?_
    refine V_iload (q := 51) X (TB.get tb_X8_feed 23 rfl) rfl rfl ?_
    obtain ⟨h8, eh8, e⟩ := bs e
    refine V_callV (q := 54) (As := [.int a5]) (rest := []) (st' := []) X (TB.get tb_X8_feed 24 rfl) rfl cv_RX8_76 (ok_X7_putInt x2 a5 h7 h8 eh8).1 (ok_X7_putInt x2 a5 h7 h8 eh8).2 (Nat.le_of_ble_eq_true rfl) rfl rfl (Nat.le_of_ble_eq_true rfl) rfl ?_
    refine V_aload (q := 56) X (TB.get tb_X8_feed 25 rfl) rfl rfl ?_
    obtain ⟨x9, ex9, e⟩ := bs e
    refine V_getI (q := 59) X (TB.get tb_X8_feed 26 rfl) rfl lf_RX8_71 ex9 ?_
    cases e
    exact V_iret X hr hlk (TB.get tb_X8_feed 27 rfl)
  · have e := (if_neg hc).symm.trans e
    refine V_iconst (v := -1) (q := 21) X (TB.get tb_X8_feed 8 rfl) c_iconst_m1 rfl ?_
    cases e
    exact V_iret X hr hlk (TB.get tb_X8_feed 9 rfl)
set_option maxRecDepth 100000 in
set_option maxHeartbeats 4000000 in
theorem ok_X8_refuse (a0 : Nat) (a1 : Int32) (h : Hp) (res : Int32 × Hp) (e : MX8_refuse a0 a1 h = some res) : CK yX8_refuse cX8_refuse 2 (some .int) 0 [.ref a0, .int a1] h (some (.int res.1)) res.2 ∧ (h.1 a0).1 = 8 := by
  obtain ⟨hcl, e⟩ := h_g_inv e
  refine ⟨CK_of pn_RX8 cm_X8_refuse (Nat.le_of_ble_eq_true rfl) ?_, hcl⟩
  intro l D tc B nn p en s m args below meth c X hr hlk
  replace X : CX p (rmD 0) s m args c cX8_refuse 2 RX8 D tc 0 := X
  show V p l en (rmD 0) s m args below meth c 2 D tc B nn (Ar B nn) s.heap 0 0 (MQ below (QC D tc B nn (Ar B nn) (some (.int res.1)) res.2) args s 0 0 (Ar B nn)) h 0 [(0, .ref a0), (1, .int a1)] []
  refine V_aload_n (q := 1) X (TB.get tb_X8_refuse 0 rfl) rfl rfl rfl ?_
  refine V_iload_n (q := 2) X (TB.get tb_X8_refuse 1 rfl) rfl rfl rfl ?_
  obtain ⟨h1, eh1, e⟩ := bs e
  refine V_putI (q := 5) X (TB.get tb_X8_refuse 2 rfl) rfl lq_RX8_64 eh1 ?_
  refine V_iconst (v := -1) (q := 6) X (TB.get tb_X8_refuse 3 rfl) c_iconst_m1 rfl ?_
  cases e
  exact V_iret X hr hlk (TB.get tb_X8_refuse 4 rfl)
set_option maxRecDepth 100000 in
set_option maxHeartbeats 4000000 in
theorem ok_X8_forgetAnswers (fu : Nat) (a0 : Nat) (h : Hp) (res : Hp) (e : MX8_forgetAnswers fu a0 h = some res) : CK yX8_forgetAnswers cX8_forgetAnswers 1 none 1 [.ref a0] h none res ∧ (h.1 a0).1 = 8 := by
  obtain ⟨hcl, e⟩ := h_g_inv e
  refine ⟨CK_of pn_RX8 cm_X8_forgetAnswers (Nat.le_of_ble_eq_true rfl) ?_, hcl⟩
  intro l D tc B nn p en s m args below meth c X hr hlk
  replace X : CX p (rmD 1) s m args c cX8_forgetAnswers 1 RX8 D tc 1 := X
  show V p l en (rmD 1) s m args below meth c 1 D tc B nn (Ar B nn) s.heap 0 0 (MQ below (QC D tc B nn (Ar B nn) none res) args s 0 0 (Ar B nn)) h 0 [(0, .ref a0)] []
  refine V_aload_n (q := 1) X (TB.get tb_X8_forgetAnswers 0 rfl) rfl rfl rfl ?_
  refine V_iconst (v := 0) (q := 2) X (TB.get tb_X8_forgetAnswers 1 rfl) c_iconst_0 rfl ?_
  obtain ⟨h1, eh1, e⟩ := bs e
  refine V_putZ (q := 5) X (TB.get tb_X8_forgetAnswers 2 rfl) rfl lq_RX8_296 eh1 ?_
  refine V_aload_n (q := 6) X (TB.get tb_X8_forgetAnswers 3 rfl) rfl rfl rfl ?_
  refine V_iconst (v := 0) (q := 7) X (TB.get tb_X8_forgetAnswers 4 rfl) c_iconst_0 rfl ?_
  obtain ⟨h2, eh2, e⟩ := bs e
  refine V_putZ (q := 10) X (TB.get tb_X8_forgetAnswers 5 rfl) rfl lq_RX8_299 eh2 ?_
  refine V_aload_n (q := 11) X (TB.get tb_X8_forgetAnswers 6 rfl) rfl rfl rfl ?_
  obtain ⟨x3, ex3, e⟩ := bs e
  refine V_getR (q := 14) X (TB.get tb_X8_forgetAnswers 7 rfl) rfl lf_RX8_40 ex3 ?_
  refine V_iconst (v := -1) (q := 15) X (TB.get tb_X8_forgetAnswers 8 rfl) c_iconst_m1 rfl ?_
  obtain ⟨h4, eh4, e⟩ := bs e
  refine V_callS (q := 18) (As := [.ref x3, .int (-1 : Int32)]) (rest := []) (st' := []) X (TB.get tb_X8_forgetAnswers 9 rfl) rfl cs_RX8_58 (ok_J7_fill_53178 fu x3 (-1 : Int32) h2 h4 eh4) (Nat.le_of_ble_eq_true rfl) rfl rfl (Nat.le_of_ble_eq_true rfl) rfl ?_
  cases e
  exact V_vret X hr hlk (TB.get tb_X8_forgetAnswers 10 rfl)
set_option maxRecDepth 100000 in
set_option maxHeartbeats 4000000 in
theorem ok_X8_answer (a0 : Nat) (a1 : Int32) (h : Hp) (res : Int32 × Hp) (e : MX8_answer a0 a1 h = some res) : CK yX8_answer cX8_answer 2 (some .int) 0 [.ref a0, .int a1] h (some (.int res.1)) res.2 ∧ (h.1 a0).1 = 8 := by
  obtain ⟨hcl, e⟩ := h_g_inv e
  refine ⟨CK_of pn_RX8 cm_X8_answer (Nat.le_of_ble_eq_true rfl) ?_, hcl⟩
  intro l D tc B nn p en s m args below meth c X hr hlk
  replace X : CX p (rmD 0) s m args c cX8_answer 2 RX8 D tc 0 := X
  show V p l en (rmD 0) s m args below meth c 2 D tc B nn (Ar B nn) s.heap 0 0 (MQ below (QC D tc B nn (Ar B nn) (some (.int res.1)) res.2) args s 0 0 (Ar B nn)) h 0 [(0, .ref a0), (1, .int a1)] []
  refine V_aload_n (q := 1) X (TB.get tb_X8_answer 0 rfl) rfl rfl rfl ?_
  refine V_iconst (v := 0) (q := 2) X (TB.get tb_X8_answer 1 rfl) c_iconst_0 rfl ?_
  obtain ⟨h1, eh1, e⟩ := bs e
  refine V_putI (q := 5) X (TB.get tb_X8_answer 2 rfl) rfl lq_RX8_64 eh1 ?_
  refine V_iload_n (q := 6) X (TB.get tb_X8_answer 3 rfl) rfl rfl rfl ?_
  cases e
  exact V_iret X hr hlk (TB.get tb_X8_answer 4 rfl)
set_option maxRecDepth 100000 in
set_option maxHeartbeats 4000000 in
theorem ok_X8_load (fu : Nat) (a0 : Nat) (a1 : Int32) (h : Hp) (res : Int32 × Hp) (e : MX8_load fu a0 a1 h = some res) : CK yX8_load cX8_load 3 (some .int) 6 [.ref a0, .int a1] h (some (.int res.1)) res.2 ∧ (h.1 a0).1 = 8 := by
  obtain ⟨hcl, e⟩ := h_g_inv e
  refine ⟨CK_of pn_RX8 cm_X8_load (Nat.le_of_ble_eq_true rfl) ?_, hcl⟩
  intro l D tc B nn p en s m args below meth c X hr hlk
  replace X : CX p (rmD 6) s m args c cX8_load 3 RX8 D tc 6 := X
  show V p l en (rmD 6) s m args below meth c 3 D tc B nn (Ar B nn) s.heap 0 0 (MQ below (QC D tc B nn (Ar B nn) (some (.int res.1)) res.2) args s 0 0 (Ar B nn)) h 0 [(0, .ref a0), (1, .int a1)] []
  refine V_iload_n (q := 1) X (TB.get tb_X8_load 0 rfl) rfl rfl rfl ?_
  refine jn_elim (P := (fun (k : Option (Int32 × Hp)) => k = some res → V p l en (rmD 6) s m args below meth c 3 D tc B nn (Ar B nn) s.heap 0 0 (MQ below (QC D tc B nn (Ar B nn) (some (.int res.1)) res.2) args s 0 0 (Ar B nn)) h 18 [(0, .ref a0)] [])) e ?_ (fun j1 Jj1 e => ?_)
  · intro e
    refine V_aload_n (q := 19) X (TB.get tb_X8_load 8 rfl) rfl rfl rfl ?_
    refine V_iconst (v := 1) (q := 20) X (TB.get tb_X8_load 9 rfl) c_iconst_1 rfl ?_
    obtain ⟨p2, ep2, e⟩ := bs e
    refine V_callV (q := 23) (As := [.int (1 : Int32)]) (rest := []) (st' := [.int p2.1]) X (TB.get tb_X8_load 10 rfl) rfl cv_RX8_80 (ok_X8_refuse a0 (1 : Int32) h p2 ep2).1 (ok_X8_refuse a0 (1 : Int32) h p2 ep2).2 (Nat.le_of_ble_eq_true rfl) rfl rfl (Nat.le_of_ble_eq_true rfl) rfl ?_
    cases e
    exact V_iret X hr hlk (TB.get tb_X8_load 11 rfl)
  refine V_if_lt (q := 4) (t := 18) X (TB.get tb_X8_load 1 rfl) rfl rfl (fun hc => ?_) (fun hc => ?_)
  · have e := (if_pos hc).symm.trans e
    refine V_sub (lv' := [(0, .ref a0)]) [0] rfl ?_
    exact Jj1 e
  · have e := (if_neg hc).symm.trans e
    refine V_iload_n (q := 5) X (TB.get tb_X8_load 2 rfl) rfl rfl rfl ?_
    refine V_aload_n (q := 6) X (TB.get tb_X8_load 3 rfl) rfl rfl rfl ?_
    obtain ⟨x3, ex3, e⟩ := bs e
    refine V_getR (q := 9) X (TB.get tb_X8_load 4 rfl) rfl lf_RX8_12 ex3 ?_
    obtain ⟨x4, ex4, e⟩ := bs e
    refine V_getR (q := 12) X (TB.get tb_X8_load 5 rfl) rfl lf_RX8_67 ex4 ?_
    obtain ⟨x5, ex5, e⟩ := bs e
    refine V_getI (q := 15) X (TB.get tb_X8_load 6 rfl) rfl lf_RX8_71 ex5 ?_
    refine V_icmp_le (q := 18) (t := 24) X (TB.get tb_X8_load 7 rfl) rfl rfl (fun hc => ?_) (fun hc => ?_)
    · have e := (if_pos hc).symm.trans e
      refine V_aload_n (q := 25) X (TB.get tb_X8_load 12 rfl) rfl rfl rfl ?_
      refine V_getR (q := 28) X (TB.get tb_X8_load 13 rfl) rfl lf_RX8_12 ex3 ?_
      refine V_iload_n (q := 29) X (TB.get tb_X8_load 14 rfl) rfl rfl rfl ?_
      obtain ⟨p6, ep6, e⟩ := bs e
      refine V_callV (q := 32) (As := [.int a1]) (rest := []) (st' := [.int p6.1]) X (TB.get tb_X8_load 15 rfl) rfl cv_RX8_84 (ok_X3_parse fu x3 a1 h p6 ep6).1 (ok_X3_parse fu x3 a1 h p6 ep6).2 (Nat.le_of_ble_eq_true rfl) rfl rfl (Nat.le_of_ble_eq_true rfl) rfl ?_
      refine V_istore_n (q := 33) (lv' := [(2, .int p6.1), (0, .ref a0), (1, .int a1)]) X (TB.get tb_X8_load 16 rfl) rfl rfl (Nat.le_of_ble_eq_true rfl) rfl ?_
      refine V_aload_n (q := 34) X (TB.get tb_X8_load 17 rfl) rfl rfl rfl ?_
      refine V_aload_n (q := 35) X (TB.get tb_X8_load 18 rfl) rfl rfl rfl ?_
      obtain ⟨x7, ex7, e⟩ := bs e
      refine V_getR (q := 38) X (TB.get tb_X8_load 19 rfl) rfl lf_RX8_12 ex7 ?_
      obtain ⟨x8, ex8, e⟩ := bs e
      refine V_getI (q := 41) X (TB.get tb_X8_load 20 rfl) rfl lf_RX8_88 ex8 ?_
      obtain ⟨h9, eh9, e⟩ := bs e
      refine V_putI (q := 44) X (TB.get tb_X8_load 21 rfl) rfl lq_RX8_51 eh9 ?_
      refine V_aload_n (q := 45) X (TB.get tb_X8_load 22 rfl) rfl rfl rfl ?_
      refine V_aload_n (q := 46) X (TB.get tb_X8_load 23 rfl) rfl rfl rfl ?_
      obtain ⟨x10, ex10, e⟩ := bs e
      refine V_getR (q := 49) X (TB.get tb_X8_load 24 rfl) rfl lf_RX8_12 ex10 ?_
      obtain ⟨x11, ex11, e⟩ := bs e
      refine V_getI (q := 52) X (TB.get tb_X8_load 25 rfl) rfl lf_RX8_89 ex11 ?_
      obtain ⟨h12, eh12, e⟩ := bs e
      refine V_putI (q := 55) X (TB.get tb_X8_load 26 rfl) rfl lq_RX8_55 eh12 ?_
      refine V_iload_n (q := 56) X (TB.get tb_X8_load 27 rfl) rfl rfl rfl ?_
      refine V_if_ne (q := 59) (t := 66) X (TB.get tb_X8_load 28 rfl) rfl rfl (fun hc => ?_) (fun hc => ?_)
      · have e := (if_neg hc).symm.trans e
        refine V_aload_n (q := 67) X (TB.get tb_X8_load 33 rfl) rfl rfl rfl ?_
        refine V_aload_n (q := 68) X (TB.get tb_X8_load 34 rfl) rfl rfl rfl ?_
        obtain ⟨x13, ex13, e⟩ := bs e
        refine V_getR (q := 71) X (TB.get tb_X8_load 35 rfl) rfl lf_RX8_12 ex13 ?_
        refine V_aload_n (q := 72) X (TB.get tb_X8_load 36 rfl) rfl rfl rfl ?_
        obtain ⟨x14, ex14, e⟩ := bs e
        refine V_getR (q := 75) X (TB.get tb_X8_load 37 rfl) rfl lf_RX8_47 ex14 ?_
        obtain ⟨p15, ep15, e⟩ := bs e
        refine V_callV (q := 78) (As := [.ref x14]) (rest := [.ref a0]) (st' := [.ref p15.1, .ref a0]) X (TB.get tb_X8_load 38 rfl) rfl cv_RX8_90 (ok_X3_handOver x13 x14 h12 p15 ep15).1 (ok_X3_handOver x13 x14 h12 p15 ep15).2 (Nat.le_of_ble_eq_true rfl) rfl rfl (Nat.le_of_ble_eq_true rfl) rfl ?_
        obtain ⟨h16, eh16, e⟩ := bs e
        refine V_putR (q := 81) X (TB.get tb_X8_load 39 rfl) rfl lq_RX8_47 eh16 ?_
        refine V_aload_n (q := 82) X (TB.get tb_X8_load 40 rfl) rfl rfl rfl ?_
        obtain ⟨h17, eh17, e⟩ := bs e
        refine V_callV (q := 85) (As := []) (rest := []) (st' := []) X (TB.get tb_X8_load 41 rfl) rfl cv_RX8_94 (ok_X8_forgetAnswers fu a0 h16 h17 eh17).1 (ok_X8_forgetAnswers fu a0 h16 h17 eh17).2 (Nat.le_of_ble_eq_true rfl) rfl rfl (Nat.le_of_ble_eq_true rfl) rfl ?_
        refine V_aload_n (q := 86) X (TB.get tb_X8_load 42 rfl) rfl rfl rfl ?_
        refine V_aload_n (q := 87) X (TB.get tb_X8_load 43 rfl) rfl rfl rfl ?_
        obtain ⟨x18, ex18, e⟩ := bs e
        refine V_getR (q := 90) X (TB.get tb_X8_load 44 rfl) rfl lf_RX8_47 ex18 ?_
        obtain ⟨x19, ex19, e⟩ := bs e
        refine V_getI (q := 93) X (TB.get tb_X8_load 45 rfl) rfl lf_RX8_97 ex19 ?_
        obtain ⟨p20, ep20, e⟩ := bs e
        refine V_callV (q := 96) (As := [.int x19]) (rest := []) (st' := [.int p20.1]) X (TB.get tb_X8_load 46 rfl) rfl cv_RX8_100 (ok_X8_answer a0 x19 h17 p20 ep20).1 (ok_X8_answer a0 x19 h17 p20 ep20).2 (Nat.le_of_ble_eq_true rfl) rfl rfl (Nat.le_of_ble_eq_true rfl) rfl ?_
        cases e
        exact V_iret X hr hlk (TB.get tb_X8_load 47 rfl)
      · have e := (if_pos hc).symm.trans e
        refine V_aload_n (q := 60) X (TB.get tb_X8_load 29 rfl) rfl rfl rfl ?_
        refine V_bipush (v := 9) (q := 62) X (TB.get tb_X8_load 30 rfl) c_bipush_9 rfl ?_
        obtain ⟨p21, ep21, e⟩ := bs e
        refine V_callV (q := 65) (As := [.int (9 : Int32)]) (rest := []) (st' := [.int p21.1]) X (TB.get tb_X8_load 31 rfl) rfl cv_RX8_80 (ok_X8_refuse a0 (9 : Int32) h12 p21 ep21).1 (ok_X8_refuse a0 (9 : Int32) h12 p21 ep21).2 (Nat.le_of_ble_eq_true rfl) rfl rfl (Nat.le_of_ble_eq_true rfl) rfl ?_
        cases e
        exact V_iret X hr hlk (TB.get tb_X8_load 32 rfl)
    · have e := (if_neg hc).symm.trans e
      refine V_sub (lv' := [(0, .ref a0)]) [0] rfl ?_
      exact Jj1 e
set_option maxRecDepth 100000 in
set_option maxHeartbeats 4000000 in
theorem ok_X8_fault (a0 : Nat) (a1 : Int32) (h : Hp) (res : Int32) (e : MX8_fault a0 a1 h = some res) : CK yX8_fault cX8_fault 2 (some .int) 0 [.ref a0, .int a1] h (some (.int res)) h ∧ (h.1 a0).1 = 8 := by
  obtain ⟨hcl, e⟩ := h_g_inv e
  refine ⟨CK_of pn_RX8 cm_X8_fault (Nat.le_of_ble_eq_true rfl) ?_, hcl⟩
  intro l D tc B nn p en s m args below meth c X hr hlk
  replace X : CX p (rmD 0) s m args c cX8_fault 2 RX8 D tc 0 := X
  show V p l en (rmD 0) s m args below meth c 2 D tc B nn (Ar B nn) s.heap 0 0 (MQ below (QC D tc B nn (Ar B nn) (some (.int res)) h) args s 0 0 (Ar B nn)) h 0 [(0, .ref a0), (1, .int a1)] []
  refine V_iload_n (q := 1) X (TB.get tb_X8_fault 0 rfl) rfl rfl rfl ?_
  refine V_if_ne (q := 4) (t := 9) X (TB.get tb_X8_fault 1 rfl) rfl rfl (fun hc => ?_) (fun hc => ?_)
  · have e := (if_neg hc).symm.trans e
    refine V_iload_n (q := 10) X (TB.get tb_X8_fault 5 rfl) rfl rfl rfl ?_
    refine V_iconst (v := 1) (q := 11) X (TB.get tb_X8_fault 6 rfl) c_iconst_1 rfl ?_
    refine V_icmp_ne (q := 14) (t := 21) X (TB.get tb_X8_fault 7 rfl) rfl rfl (fun hc => ?_) (fun hc => ?_)
    · have e := (if_neg hc).symm.trans e
      refine V_iconst (v := -1) (q := 22) X (TB.get tb_X8_fault 11 rfl) c_iconst_m1 rfl ?_
      cases e
      exact V_iret X hr hlk (TB.get tb_X8_fault 12 rfl)
    · have e := (if_pos hc).symm.trans e
      refine V_aload_n (q := 15) X (TB.get tb_X8_fault 8 rfl) rfl rfl rfl ?_
      obtain ⟨x1, ex1, e⟩ := bs e
      refine V_getI (q := 18) X (TB.get tb_X8_fault 9 rfl) rfl lf_RX8_55 ex1 ?_
      refine V_goto (q := 22) X (TB.get tb_X8_fault 10 rfl) rfl ?_
      cases e
      exact V_iret X hr hlk (TB.get tb_X8_fault 12 rfl)
  · have e := (if_pos hc).symm.trans e
    refine V_aload_n (q := 5) X (TB.get tb_X8_fault 2 rfl) rfl rfl rfl ?_
    obtain ⟨x2, ex2, e⟩ := bs e
    refine V_getI (q := 8) X (TB.get tb_X8_fault 3 rfl) rfl lf_RX8_51 ex2 ?_
    cases e
    exact V_iret X hr hlk (TB.get tb_X8_fault 4 rfl)
set_option maxRecDepth 100000 in
set_option maxHeartbeats 4000000 in
theorem ok_X8_many (a0 : Nat) (a1 : Int32) (h : Hp) (res : Int32 × Hp) (e : MX8_many a0 a1 h = some res) : CK yX8_many cX8_many 2 (some .int) 1 [.ref a0, .int a1] h (some (.int res.1)) res.2 ∧ (h.1 a0).1 = 8 := by
  obtain ⟨hcl, e⟩ := h_g_inv e
  refine ⟨CK_of pn_RX8 cm_X8_many (Nat.le_of_ble_eq_true rfl) ?_, hcl⟩
  intro l D tc B nn p en s m args below meth c X hr hlk
  replace X : CX p (rmD 1) s m args c cX8_many 2 RX8 D tc 1 := X
  show V p l en (rmD 1) s m args below meth c 2 D tc B nn (Ar B nn) s.heap 0 0 (MQ below (QC D tc B nn (Ar B nn) (some (.int res.1)) res.2) args s 0 0 (Ar B nn)) h 0 [(0, .ref a0), (1, .int a1)] []
  refine V_iload_n (q := 1) X (TB.get tb_X8_many 0 rfl) rfl rfl rfl ?_
  by_cases hc0 : a1 = (0 : Int32)
  · have e := (if_pos hc0).symm.trans e
    rw [hc0]
    refine V_tabIn (q := 28) X (TB.get tb_X8_many 1 rfl) (by decide) (by decide) rfl rfl ?_
    refine V_aload_n (q := 29) X (TB.get tb_X8_many 2 rfl) rfl rfl rfl ?_
    refine V_aload_n (q := 30) X (TB.get tb_X8_many 3 rfl) rfl rfl rfl ?_
    obtain ⟨x1, ex1, e⟩ := bs e
    refine V_getR (q := 33) X (TB.get tb_X8_many 4 rfl) rfl lf_RX8_47 ex1 ?_
    obtain ⟨x2, ex2, e⟩ := bs e
    refine V_getR (q := 36) X (TB.get tb_X8_many 5 rfl) rfl lf_RX8_103 ex2 ?_
    obtain ⟨x3, ex3, e⟩ := bs e
    refine V_getI (q := 39) X (TB.get tb_X8_many 6 rfl) rfl lf_RX8_107 ex3 ?_
    obtain ⟨p4, ep4, e⟩ := bs e
    refine V_callV (q := 42) (As := [.int x3]) (rest := []) (st' := [.int p4.1]) X (TB.get tb_X8_many 7 rfl) rfl cv_RX8_100 (ok_X8_answer a0 x3 h p4 ep4).1 (ok_X8_answer a0 x3 h p4 ep4).2 (Nat.le_of_ble_eq_true rfl) rfl rfl (Nat.le_of_ble_eq_true rfl) rfl ?_
    cases e
    exact V_iret X hr hlk (TB.get tb_X8_many 8 rfl)
  have e := (if_neg hc0).symm.trans e
  by_cases hc1 : a1 = (1 : Int32)
  · have e := (if_pos hc1).symm.trans e
    rw [hc1]
    refine V_tabIn (q := 43) X (TB.get tb_X8_many 1 rfl) (by decide) (by decide) rfl rfl ?_
    refine V_aload_n (q := 44) X (TB.get tb_X8_many 9 rfl) rfl rfl rfl ?_
    refine V_aload_n (q := 45) X (TB.get tb_X8_many 10 rfl) rfl rfl rfl ?_
    obtain ⟨x5, ex5, e⟩ := bs e
    refine V_getR (q := 48) X (TB.get tb_X8_many 11 rfl) rfl lf_RX8_47 ex5 ?_
    obtain ⟨x6, ex6, e⟩ := bs e
    refine V_getI (q := 51) X (TB.get tb_X8_many 12 rfl) rfl lf_RX8_112 ex6 ?_
    obtain ⟨p7, ep7, e⟩ := bs e
    refine V_callV (q := 54) (As := [.int x6]) (rest := []) (st' := [.int p7.1]) X (TB.get tb_X8_many 13 rfl) rfl cv_RX8_100 (ok_X8_answer a0 x6 h p7 ep7).1 (ok_X8_answer a0 x6 h p7 ep7).2 (Nat.le_of_ble_eq_true rfl) rfl rfl (Nat.le_of_ble_eq_true rfl) rfl ?_
    cases e
    exact V_iret X hr hlk (TB.get tb_X8_many 14 rfl)
  have e := (if_neg hc1).symm.trans e
  by_cases hc2 : a1 = (2 : Int32)
  · have e := (if_pos hc2).symm.trans e
    rw [hc2]
    refine V_tabIn (q := 55) X (TB.get tb_X8_many 1 rfl) (by decide) (by decide) rfl rfl ?_
    refine V_aload_n (q := 56) X (TB.get tb_X8_many 15 rfl) rfl rfl rfl ?_
    refine V_aload_n (q := 57) X (TB.get tb_X8_many 16 rfl) rfl rfl rfl ?_
    obtain ⟨x8, ex8, e⟩ := bs e
    refine V_getR (q := 60) X (TB.get tb_X8_many 17 rfl) rfl lf_RX8_47 ex8 ?_
    obtain ⟨x9, ex9, e⟩ := bs e
    refine V_getI (q := 63) X (TB.get tb_X8_many 18 rfl) rfl lf_RX8_97 ex9 ?_
    obtain ⟨p10, ep10, e⟩ := bs e
    refine V_callV (q := 66) (As := [.int x9]) (rest := []) (st' := [.int p10.1]) X (TB.get tb_X8_many 19 rfl) rfl cv_RX8_100 (ok_X8_answer a0 x9 h p10 ep10).1 (ok_X8_answer a0 x9 h p10 ep10).2 (Nat.le_of_ble_eq_true rfl) rfl rfl (Nat.le_of_ble_eq_true rfl) rfl ?_
    cases e
    exact V_iret X hr hlk (TB.get tb_X8_many 20 rfl)
  have e := (if_neg hc2).symm.trans e
  have hout : a1.toInt < 0 ∨ 2 < a1.toInt := tab_out a1 (0) (2) [0, 1, 2] (by decide +kernel) (fun v hv => by simp only [List.mem_cons, List.not_mem_nil, or_false] at hv; rcases hv with rfl | rfl | rfl <;> assumption)
  refine V_tabOut (q := 67) X (TB.get tb_X8_many 1 rfl) hout rfl ?_
  refine V_aload_n (q := 68) X (TB.get tb_X8_many 21 rfl) rfl rfl rfl ?_
  refine V_iconst (v := 1) (q := 69) X (TB.get tb_X8_many 22 rfl) c_iconst_1 rfl ?_
  obtain ⟨p11, ep11, e⟩ := bs e
  refine V_callV (q := 72) (As := [.int (1 : Int32)]) (rest := []) (st' := [.int p11.1]) X (TB.get tb_X8_many 23 rfl) rfl cv_RX8_80 (ok_X8_refuse a0 (1 : Int32) h p11 ep11).1 (ok_X8_refuse a0 (1 : Int32) h p11 ep11).2 (Nat.le_of_ble_eq_true rfl) rfl rfl (Nat.le_of_ble_eq_true rfl) rfl ?_
  cases e
  exact V_iret X hr hlk (TB.get tb_X8_many 24 rfl)
set_option maxRecDepth 100000 in
set_option maxHeartbeats 4000000 in
theorem ok_X8_kind (fu : Nat) (a0 : Nat) (a1 : Int32) (a2 : Int32) (h : Hp) (res : Int32 × Hp) (e : MX8_kind fu a0 a1 a2 h = some res) : CK yX8_kind cX8_kind 4 (some .int) 5 [.ref a0, .int a1, .int a2] h (some (.int res.1)) res.2 ∧ (h.1 a0).1 = 8 := by
  obtain ⟨hcl, e⟩ := h_g_inv e
  refine ⟨CK_of pn_RX8 cm_X8_kind (Nat.le_of_ble_eq_true rfl) ?_, hcl⟩
  intro l D tc B nn p en s m args below meth c X hr hlk
  replace X : CX p (rmD 5) s m args c cX8_kind 4 RX8 D tc 5 := X
  show V p l en (rmD 5) s m args below meth c 4 D tc B nn (Ar B nn) s.heap 0 0 (MQ below (QC D tc B nn (Ar B nn) (some (.int res.1)) res.2) args s 0 0 (Ar B nn)) h 0 [(0, .ref a0), (1, .int a1), (2, .int a2)] []
  refine V_iload_n (q := 1) X (TB.get tb_X8_kind 0 rfl) rfl rfl rfl ?_
  refine jn_elim (P := (fun (k : Option (Int32 × Hp)) => k = some res → V p l en (rmD 5) s m args below meth c 4 D tc B nn (Ar B nn) s.heap 0 0 (MQ below (QC D tc B nn (Ar B nn) (some (.int res.1)) res.2) args s 0 0 (Ar B nn)) h 9 [(0, .ref a0)] [])) e ?_ (fun j1 Jj1 e => ?_)
  · intro e
    refine V_aload_n (q := 10) X (TB.get tb_X8_kind 5 rfl) rfl rfl rfl ?_
    refine V_iconst (v := 1) (q := 11) X (TB.get tb_X8_kind 6 rfl) c_iconst_1 rfl ?_
    obtain ⟨p2, ep2, e⟩ := bs e
    refine V_callV (q := 14) (As := [.int (1 : Int32)]) (rest := []) (st' := [.int p2.1]) X (TB.get tb_X8_kind 7 rfl) rfl cv_RX8_80 (ok_X8_refuse a0 (1 : Int32) h p2 ep2).1 (ok_X8_refuse a0 (1 : Int32) h p2 ep2).2 (Nat.le_of_ble_eq_true rfl) rfl rfl (Nat.le_of_ble_eq_true rfl) rfl ?_
    cases e
    exact V_iret X hr hlk (TB.get tb_X8_kind 8 rfl)
  refine V_if_lt (q := 4) (t := 9) X (TB.get tb_X8_kind 1 rfl) rfl rfl (fun hc => ?_) (fun hc => ?_)
  · have e := (if_pos hc).symm.trans e
    refine V_sub (lv' := [(0, .ref a0)]) [0] rfl ?_
    exact Jj1 e
  · have e := (if_neg hc).symm.trans e
    refine V_iload_n (q := 5) X (TB.get tb_X8_kind 2 rfl) rfl rfl rfl ?_
    refine V_iconst (v := 5) (q := 6) X (TB.get tb_X8_kind 3 rfl) c_iconst_5 rfl ?_
    refine V_icmp_le (q := 9) (t := 15) X (TB.get tb_X8_kind 4 rfl) rfl rfl (fun hc => ?_) (fun hc => ?_)
    · have e := (if_pos hc).symm.trans e
      refine V_aload_n (q := 16) X (TB.get tb_X8_kind 9 rfl) rfl rfl rfl ?_
      obtain ⟨x3, ex3, e⟩ := bs e
      refine V_getR (q := 19) X (TB.get tb_X8_kind 10 rfl) rfl lf_RX8_47 ex3 ?_
      obtain ⟨x4, ex4, e⟩ := bs e
      refine V_getR (q := 22) X (TB.get tb_X8_kind 11 rfl) rfl lf_RX8_103 ex4 ?_
      refine V_astore_n (q := 23) (lv' := [(3, .ref x4), (0, .ref a0), (1, .int a1), (2, .int a2)]) X (TB.get tb_X8_kind 12 rfl) rfl rfl (Nat.le_of_ble_eq_true rfl) rfl ?_
      refine V_aload_n (q := 24) X (TB.get tb_X8_kind 13 rfl) rfl rfl rfl ?_
      refine V_iload_n (q := 25) X (TB.get tb_X8_kind 14 rfl) rfl rfl rfl ?_
      obtain ⟨x5, ex5, e⟩ := bs e
      refine V_callV (q := 28) (As := [.int a1]) (rest := []) (st' := [.int x5]) X (TB.get tb_X8_kind 15 rfl) rfl cv_RX8_115 (ok_X2_hasKind x4 a1 h x5 ex5).1 (ok_X2_hasKind x4 a1 h x5 ex5).2 (Nat.le_of_ble_eq_true rfl) rfl rfl (Nat.le_of_ble_eq_true rfl) rfl ?_
      refine V_if_ne (q := 31) (t := 37) X (TB.get tb_X8_kind 16 rfl) rfl rfl (fun hc => ?_) (fun hc => ?_)
      · have e := (if_neg hc).symm.trans e
        refine V_iload_n (q := 38) X (TB.get tb_X8_kind 21 rfl) rfl rfl rfl ?_
        by_cases hc0 : a2 = (0 : Int32)
        · have e := (if_pos hc0).symm.trans e
          rw [hc0]
          refine V_tabIn (q := 72) X (TB.get tb_X8_kind 22 rfl) (by decide) (by decide) rfl rfl ?_
          refine V_aload_n (q := 73) X (TB.get tb_X8_kind 23 rfl) rfl rfl rfl ?_
          refine V_aload_n (q := 74) X (TB.get tb_X8_kind 24 rfl) rfl rfl rfl ?_
          obtain ⟨x6, ex6, e⟩ := bs e
          refine V_getR (q := 77) X (TB.get tb_X8_kind 25 rfl) rfl lf_RX8_118 ex6 ?_
          refine V_iload_n (q := 78) X (TB.get tb_X8_kind 26 rfl) rfl rfl rfl ?_
          obtain ⟨x7, ex7, e⟩ := bs e
          refine V_iaload (q := 79) X (TB.get tb_X8_kind 27 rfl) rfl ex7 ?_
          obtain ⟨p8, ep8, e⟩ := bs e
          refine V_callV (q := 82) (As := [.int x7]) (rest := []) (st' := [.int p8.1]) X (TB.get tb_X8_kind 28 rfl) rfl cv_RX8_100 (ok_X8_answer a0 x7 h p8 ep8).1 (ok_X8_answer a0 x7 h p8 ep8).2 (Nat.le_of_ble_eq_true rfl) rfl rfl (Nat.le_of_ble_eq_true rfl) rfl ?_
          cases e
          exact V_iret X hr hlk (TB.get tb_X8_kind 29 rfl)
        have e := (if_neg hc0).symm.trans e
        by_cases hc1 : a2 = (1 : Int32)
        · have e := (if_pos hc1).symm.trans e
          rw [hc1]
          refine V_tabIn (q := 83) X (TB.get tb_X8_kind 22 rfl) (by decide) (by decide) rfl rfl ?_
          refine V_aload_n (q := 84) X (TB.get tb_X8_kind 30 rfl) rfl rfl rfl ?_
          refine V_aload_n (q := 85) X (TB.get tb_X8_kind 31 rfl) rfl rfl rfl ?_
          obtain ⟨x9, ex9, e⟩ := bs e
          refine V_getR (q := 88) X (TB.get tb_X8_kind 32 rfl) rfl lf_RX8_121 ex9 ?_
          refine V_iload_n (q := 89) X (TB.get tb_X8_kind 33 rfl) rfl rfl rfl ?_
          obtain ⟨x10, ex10, e⟩ := bs e
          refine V_iaload (q := 90) X (TB.get tb_X8_kind 34 rfl) rfl ex10 ?_
          obtain ⟨p11, ep11, e⟩ := bs e
          refine V_callV (q := 93) (As := [.int x10]) (rest := []) (st' := [.int p11.1]) X (TB.get tb_X8_kind 35 rfl) rfl cv_RX8_100 (ok_X8_answer a0 x10 h p11 ep11).1 (ok_X8_answer a0 x10 h p11 ep11).2 (Nat.le_of_ble_eq_true rfl) rfl rfl (Nat.le_of_ble_eq_true rfl) rfl ?_
          cases e
          exact V_iret X hr hlk (TB.get tb_X8_kind 36 rfl)
        have e := (if_neg hc1).symm.trans e
        by_cases hc2 : a2 = (2 : Int32)
        · have e := (if_pos hc2).symm.trans e
          rw [hc2]
          refine V_tabIn (q := 94) X (TB.get tb_X8_kind 22 rfl) (by decide) (by decide) rfl rfl ?_
          refine V_aload_n (q := 95) X (TB.get tb_X8_kind 37 rfl) rfl rfl rfl ?_
          refine V_aload_n (q := 96) X (TB.get tb_X8_kind 38 rfl) rfl rfl rfl ?_
          obtain ⟨x12, ex12, e⟩ := bs e
          refine V_getR (q := 99) X (TB.get tb_X8_kind 39 rfl) rfl lf_RX8_124 ex12 ?_
          refine V_iload_n (q := 100) X (TB.get tb_X8_kind 40 rfl) rfl rfl rfl ?_
          obtain ⟨x13, ex13, e⟩ := bs e
          refine V_iaload (q := 101) X (TB.get tb_X8_kind 41 rfl) rfl ex13 ?_
          obtain ⟨p14, ep14, e⟩ := bs e
          refine V_callV (q := 104) (As := [.int x13]) (rest := []) (st' := [.int p14.1]) X (TB.get tb_X8_kind 42 rfl) rfl cv_RX8_100 (ok_X8_answer a0 x13 h p14 ep14).1 (ok_X8_answer a0 x13 h p14 ep14).2 (Nat.le_of_ble_eq_true rfl) rfl rfl (Nat.le_of_ble_eq_true rfl) rfl ?_
          cases e
          exact V_iret X hr hlk (TB.get tb_X8_kind 43 rfl)
        have e := (if_neg hc2).symm.trans e
        by_cases hc3 : a2 = (3 : Int32)
        · have e := (if_pos hc3).symm.trans e
          rw [hc3]
          refine V_tabIn (q := 105) X (TB.get tb_X8_kind 22 rfl) (by decide) (by decide) rfl rfl ?_
          refine V_aload_n (q := 106) X (TB.get tb_X8_kind 44 rfl) rfl rfl rfl ?_
          refine V_aload_n (q := 107) X (TB.get tb_X8_kind 45 rfl) rfl rfl rfl ?_
          refine V_getR (q := 110) X (TB.get tb_X8_kind 46 rfl) rfl lf_RX8_47 ex3 ?_
          refine V_iload_n (q := 111) X (TB.get tb_X8_kind 47 rfl) rfl rfl rfl ?_
          obtain ⟨x15, ex15, e⟩ := bs e
          refine V_callV (q := 114) (As := [.int a1]) (rest := [.ref a0]) (st' := [.int x15, .ref a0]) X (TB.get tb_X8_kind 48 rfl) rfl cv_RX8_127 (ok_X4_variablesOf fu x3 a1 h x15 ex15).1 (ok_X4_variablesOf fu x3 a1 h x15 ex15).2 (Nat.le_of_ble_eq_true rfl) rfl rfl (Nat.le_of_ble_eq_true rfl) rfl ?_
          obtain ⟨p16, ep16, e⟩ := bs e
          refine V_callV (q := 117) (As := [.int x15]) (rest := []) (st' := [.int p16.1]) X (TB.get tb_X8_kind 49 rfl) rfl cv_RX8_100 (ok_X8_answer a0 x15 h p16 ep16).1 (ok_X8_answer a0 x15 h p16 ep16).2 (Nat.le_of_ble_eq_true rfl) rfl rfl (Nat.le_of_ble_eq_true rfl) rfl ?_
          cases e
          exact V_iret X hr hlk (TB.get tb_X8_kind 50 rfl)
        have e := (if_neg hc3).symm.trans e
        by_cases hc4 : a2 = (4 : Int32)
        · have e := (if_pos hc4).symm.trans e
          rw [hc4]
          refine V_tabIn (q := 118) X (TB.get tb_X8_kind 22 rfl) (by decide) (by decide) rfl rfl ?_
          refine V_aload_n (q := 119) X (TB.get tb_X8_kind 51 rfl) rfl rfl rfl ?_
          refine V_aload_n (q := 120) X (TB.get tb_X8_kind 52 rfl) rfl rfl rfl ?_
          refine V_iload_n (q := 121) X (TB.get tb_X8_kind 53 rfl) rfl rfl rfl ?_
          obtain ⟨x17, ex17, e⟩ := bs e
          refine V_callV (q := 124) (As := [.int a1]) (rest := [.ref a0]) (st' := [.int x17, .ref a0]) X (TB.get tb_X8_kind 54 rfl) rfl cv_RX8_130 (ok_X2_reachable fu x4 a1 h x17 ex17).1 (ok_X2_reachable fu x4 a1 h x17 ex17).2 (Nat.le_of_ble_eq_true rfl) rfl rfl (Nat.le_of_ble_eq_true rfl) rfl ?_
          obtain ⟨p18, ep18, e⟩ := bs e
          refine V_callV (q := 127) (As := [.int x17]) (rest := []) (st' := [.int p18.1]) X (TB.get tb_X8_kind 55 rfl) rfl cv_RX8_100 (ok_X8_answer a0 x17 h p18 ep18).1 (ok_X8_answer a0 x17 h p18 ep18).2 (Nat.le_of_ble_eq_true rfl) rfl rfl (Nat.le_of_ble_eq_true rfl) rfl ?_
          cases e
          exact V_iret X hr hlk (TB.get tb_X8_kind 56 rfl)
        have e := (if_neg hc4).symm.trans e
        have hout : a2.toInt < 0 ∨ 4 < a2.toInt := tab_out a2 (0) (4) [0, 1, 2, 3, 4] (by decide +kernel) (fun v hv => by simp only [List.mem_cons, List.not_mem_nil, or_false] at hv; rcases hv with rfl | rfl | rfl | rfl | rfl <;> assumption)
        refine V_tabOut (q := 128) X (TB.get tb_X8_kind 22 rfl) hout rfl ?_
        refine V_aload_n (q := 129) X (TB.get tb_X8_kind 57 rfl) rfl rfl rfl ?_
        refine V_aload_n (q := 130) X (TB.get tb_X8_kind 58 rfl) rfl rfl rfl ?_
        refine V_iload_n (q := 131) X (TB.get tb_X8_kind 59 rfl) rfl rfl rfl ?_
        obtain ⟨x19, ex19, e⟩ := bs e
        refine V_callV (q := 134) (As := [.int a1]) (rest := [.ref a0]) (st' := [.int x19, .ref a0]) X (TB.get tb_X8_kind 60 rfl) rfl cv_RX8_130 (ok_X2_reachable fu x4 a1 h x19 ex19).1 (ok_X2_reachable fu x4 a1 h x19 ex19).2 (Nat.le_of_ble_eq_true rfl) rfl rfl (Nat.le_of_ble_eq_true rfl) rfl ?_
        refine V_aload_n (q := 135) X (TB.get tb_X8_kind 61 rfl) rfl rfl rfl ?_
        refine V_iload_n (q := 136) X (TB.get tb_X8_kind 62 rfl) rfl rfl rfl ?_
        obtain ⟨p20, ep20, e⟩ := bs e
        refine V_callV (q := 139) (As := [.int a1]) (rest := [.int x19, .ref a0]) (st' := [.int p20.1, .int x19, .ref a0]) X (TB.get tb_X8_kind 63 rfl) rfl cv_RX8_133 (ok_X2_hopeless fu x4 a1 h p20 ep20).1 (ok_X2_hopeless fu x4 a1 h p20 ep20).2 (Nat.le_of_ble_eq_true rfl) rfl rfl (Nat.le_of_ble_eq_true rfl) rfl ?_
        refine V_iand (q := 140) X (TB.get tb_X8_kind 64 rfl) rfl ?_
        obtain ⟨p21, ep21, e⟩ := bs e
        refine V_callV (q := 143) (As := [.int (x19 &&& p20.1)]) (rest := []) (st' := [.int p21.1]) X (TB.get tb_X8_kind 65 rfl) rfl cv_RX8_100 (ok_X8_answer a0 (x19 &&& p20.1) p20.2 p21 ep21).1 (ok_X8_answer a0 (x19 &&& p20.1) p20.2 p21 ep21).2 (Nat.le_of_ble_eq_true rfl) rfl rfl (Nat.le_of_ble_eq_true rfl) rfl ?_
        cases e
        exact V_iret X hr hlk (TB.get tb_X8_kind 66 rfl)
      · have e := (if_pos hc).symm.trans e
        refine V_aload_n (q := 32) X (TB.get tb_X8_kind 17 rfl) rfl rfl rfl ?_
        refine V_iconst (v := 2) (q := 33) X (TB.get tb_X8_kind 18 rfl) c_iconst_2 rfl ?_
        obtain ⟨p22, ep22, e⟩ := bs e
        refine V_callV (q := 36) (As := [.int (2 : Int32)]) (rest := []) (st' := [.int p22.1]) X (TB.get tb_X8_kind 19 rfl) rfl cv_RX8_80 (ok_X8_refuse a0 (2 : Int32) h p22 ep22).1 (ok_X8_refuse a0 (2 : Int32) h p22 ep22).2 (Nat.le_of_ble_eq_true rfl) rfl rfl (Nat.le_of_ble_eq_true rfl) rfl ?_
        cases e
        exact V_iret X hr hlk (TB.get tb_X8_kind 20 rfl)
    · have e := (if_neg hc).symm.trans e
      refine V_sub (lv' := [(0, .ref a0)]) [0] rfl ?_
      exact Jj1 e
set_option maxRecDepth 100000 in
set_option maxHeartbeats 4000000 in
theorem ok_X8_method (a0 : Nat) (a1 : Int32) (a2 : Int32) (a3 : Int32) (h : Hp) (res : Int32 × Hp) (e : MX8_method a0 a1 a2 a3 h = some res) : CK yX8_method cX8_method 5 (some .int) 2 [.ref a0, .int a1, .int a2, .int a3] h (some (.int res.1)) res.2 ∧ (h.1 a0).1 = 8 := by
  obtain ⟨hcl, e⟩ := h_g_inv e
  refine ⟨CK_of pn_RX8 cm_X8_method (Nat.le_of_ble_eq_true rfl) ?_, hcl⟩
  intro l D tc B nn p en s m args below meth c X hr hlk
  replace X : CX p (rmD 2) s m args c cX8_method 5 RX8 D tc 2 := X
  show V p l en (rmD 2) s m args below meth c 5 D tc B nn (Ar B nn) s.heap 0 0 (MQ below (QC D tc B nn (Ar B nn) (some (.int res.1)) res.2) args s 0 0 (Ar B nn)) h 0 [(0, .ref a0), (1, .int a1), (2, .int a2), (3, .int a3)] []
  refine V_iload_n (q := 1) X (TB.get tb_X8_method 0 rfl) rfl rfl rfl ?_
  refine jn_elim (P := (fun (k : Option (Int32 × Hp)) => k = some res → V p l en (rmD 2) s m args below meth c 5 D tc B nn (Ar B nn) s.heap 0 0 (MQ below (QC D tc B nn (Ar B nn) (some (.int res.1)) res.2) args s 0 0 (Ar B nn)) h 9 [(0, .ref a0)] [])) e ?_ (fun j1 Jj1 e => ?_)
  · intro e
    refine V_aload_n (q := 10) X (TB.get tb_X8_method 5 rfl) rfl rfl rfl ?_
    refine V_iconst (v := 1) (q := 11) X (TB.get tb_X8_method 6 rfl) c_iconst_1 rfl ?_
    obtain ⟨p2, ep2, e⟩ := bs e
    refine V_callV (q := 14) (As := [.int (1 : Int32)]) (rest := []) (st' := [.int p2.1]) X (TB.get tb_X8_method 7 rfl) rfl cv_RX8_80 (ok_X8_refuse a0 (1 : Int32) h p2 ep2).1 (ok_X8_refuse a0 (1 : Int32) h p2 ep2).2 (Nat.le_of_ble_eq_true rfl) rfl rfl (Nat.le_of_ble_eq_true rfl) rfl ?_
    cases e
    exact V_iret X hr hlk (TB.get tb_X8_method 8 rfl)
  refine V_if_lt (q := 4) (t := 9) X (TB.get tb_X8_method 1 rfl) rfl rfl (fun hc => ?_) (fun hc => ?_)
  · have e := (if_pos hc).symm.trans e
    refine V_sub (lv' := [(0, .ref a0)]) [0] rfl ?_
    exact Jj1 e
  · have e := (if_neg hc).symm.trans e
    refine V_iload_n (q := 5) X (TB.get tb_X8_method 2 rfl) rfl rfl rfl ?_
    refine V_iconst (v := 1) (q := 6) X (TB.get tb_X8_method 3 rfl) c_iconst_1 rfl ?_
    refine V_icmp_le (q := 9) (t := 15) X (TB.get tb_X8_method 4 rfl) rfl rfl (fun hc => ?_) (fun hc => ?_)
    · have e := (if_pos hc).symm.trans e
      refine V_aload_n (q := 16) X (TB.get tb_X8_method 9 rfl) rfl rfl rfl ?_
      obtain ⟨x3, ex3, e⟩ := bs e
      refine V_getR (q := 19) X (TB.get tb_X8_method 10 rfl) rfl lf_RX8_47 ex3 ?_
      obtain ⟨x4, ex4, e⟩ := bs e
      refine V_getR (q := 22) X (TB.get tb_X8_method 11 rfl) rfl lf_RX8_103 ex4 ?_
      refine V_astore (q := 24) (lv' := [(4, .ref x4), (0, .ref a0), (1, .int a1), (2, .int a2), (3, .int a3)]) X (TB.get tb_X8_method 12 rfl) rfl (Nat.le_of_ble_eq_true rfl) rfl ?_
      refine V_aload (q := 26) X (TB.get tb_X8_method 13 rfl) rfl rfl ?_
      refine V_iload_n (q := 27) X (TB.get tb_X8_method 14 rfl) rfl rfl rfl ?_
      refine V_iload_n (q := 28) X (TB.get tb_X8_method 15 rfl) rfl rfl rfl ?_
      obtain ⟨x5, ex5, e⟩ := bs e
      refine V_callV (q := 31) (As := [.int a1, .int a2]) (rest := []) (st' := [.int x5]) X (TB.get tb_X8_method 16 rfl) rfl cv_RX8_136 (ok_X2_hasMethod x4 a1 a2 h x5 ex5).1 (ok_X2_hasMethod x4 a1 a2 h x5 ex5).2 (Nat.le_of_ble_eq_true rfl) rfl rfl (Nat.le_of_ble_eq_true rfl) rfl ?_
      refine V_if_ne (q := 34) (t := 40) X (TB.get tb_X8_method 17 rfl) rfl rfl (fun hc => ?_) (fun hc => ?_)
      · have e := (if_neg hc).symm.trans e
        refine V_aload_n (q := 41) X (TB.get tb_X8_method 22 rfl) rfl rfl rfl ?_
        refine V_iload_n (q := 42) X (TB.get tb_X8_method 23 rfl) rfl rfl rfl ?_
        refine jn_elim (P := (fun (k : Int32 → Option (Int32 × Hp)) => ∀ (w6 : Int32), k w6 = some res → V p l en (rmD 2) s m args below meth c 5 D tc B nn (Ar B nn) s.heap 0 0 (MQ below (QC D tc B nn (Ar B nn) (some (.int res.1)) res.2) args s 0 0 (Ar B nn)) h 62 [] [.int w6, .ref a0])) e ?_ (fun j7 Jj7 e => ?_)
        · intro w6 e
          obtain ⟨p8, ep8, e⟩ := bs e
          refine V_callV (q := 65) (As := [.int w6]) (rest := []) (st' := [.int p8.1]) X (TB.get tb_X8_method 34 rfl) rfl cv_RX8_100 (ok_X8_answer a0 w6 h p8 ep8).1 (ok_X8_answer a0 w6 h p8 ep8).2 (Nat.le_of_ble_eq_true rfl) rfl rfl (Nat.le_of_ble_eq_true rfl) rfl ?_
          cases e
          exact V_iret X hr hlk (TB.get tb_X8_method 35 rfl)
        refine V_if_ne (q := 45) (t := 55) X (TB.get tb_X8_method 24 rfl) rfl rfl (fun hc => ?_) (fun hc => ?_)
        · have e := (if_neg hc).symm.trans e
          refine V_aload (q := 57) X (TB.get tb_X8_method 30 rfl) rfl rfl ?_
          refine V_iload_n (q := 58) X (TB.get tb_X8_method 31 rfl) rfl rfl rfl ?_
          refine V_iload_n (q := 59) X (TB.get tb_X8_method 32 rfl) rfl rfl rfl ?_
          obtain ⟨x9, ex9, e⟩ := bs e
          refine V_callV (q := 62) (As := [.int a1, .int a2]) (rest := [.ref a0]) (st' := [.int x9, .ref a0]) X (TB.get tb_X8_method 33 rfl) rfl cv_RX8_144 (ok_X2_statesOf x4 a1 a2 h x9 ex9).1 (ok_X2_statesOf x4 a1 a2 h x9 ex9).2 (Nat.le_of_ble_eq_true rfl) rfl rfl (Nat.le_of_ble_eq_true rfl) rfl ?_
          refine V_sub (lv' := []) [] rfl ?_
          exact Jj7 _ e
        · have e := (if_pos hc).symm.trans e
          refine V_aload (q := 47) X (TB.get tb_X8_method 25 rfl) rfl rfl ?_
          refine V_iload_n (q := 48) X (TB.get tb_X8_method 26 rfl) rfl rfl rfl ?_
          refine V_iload_n (q := 49) X (TB.get tb_X8_method 27 rfl) rfl rfl rfl ?_
          obtain ⟨x10, ex10, e⟩ := bs e
          refine V_callV (q := 52) (As := [.int a1, .int a2]) (rest := [.ref a0]) (st' := [.int x10, .ref a0]) X (TB.get tb_X8_method 28 rfl) rfl cv_RX8_140 (ok_X2_sortOf x4 a1 a2 h x10 ex10).1 (ok_X2_sortOf x4 a1 a2 h x10 ex10).2 (Nat.le_of_ble_eq_true rfl) rfl rfl (Nat.le_of_ble_eq_true rfl) rfl ?_
          refine V_goto (q := 62) X (TB.get tb_X8_method 29 rfl) rfl ?_
          refine V_sub (lv' := []) [] rfl ?_
          exact Jj7 _ e
      · have e := (if_pos hc).symm.trans e
        refine V_aload_n (q := 35) X (TB.get tb_X8_method 18 rfl) rfl rfl rfl ?_
        refine V_iconst (v := 2) (q := 36) X (TB.get tb_X8_method 19 rfl) c_iconst_2 rfl ?_
        obtain ⟨p11, ep11, e⟩ := bs e
        refine V_callV (q := 39) (As := [.int (2 : Int32)]) (rest := []) (st' := [.int p11.1]) X (TB.get tb_X8_method 20 rfl) rfl cv_RX8_80 (ok_X8_refuse a0 (2 : Int32) h p11 ep11).1 (ok_X8_refuse a0 (2 : Int32) h p11 ep11).2 (Nat.le_of_ble_eq_true rfl) rfl rfl (Nat.le_of_ble_eq_true rfl) rfl ?_
        cases e
        exact V_iret X hr hlk (TB.get tb_X8_method 21 rfl)
    · have e := (if_neg hc).symm.trans e
      refine V_sub (lv' := [(0, .ref a0)]) [0] rfl ?_
      exact Jj1 e
set_option maxRecDepth 100000 in
set_option maxHeartbeats 4000000 in
theorem ok_X8_comes (a0 : Nat) (a1 : Int32) (a2 : Int32) (a3 : Int32) (a4 : Int32) (h : Hp) (res : Int32 × Hp) (e : MX8_comes a0 a1 a2 a3 a4 h = some res) : CK yX8_comes cX8_comes 7 (some .int) 2 [.ref a0, .int a1, .int a2, .int a3, .int a4] h (some (.int res.1)) res.2 ∧ (h.1 a0).1 = 8 := by
  obtain ⟨hcl, e⟩ := h_g_inv e
  refine ⟨CK_of pn_RX8 cm_X8_comes (Nat.le_of_ble_eq_true rfl) ?_, hcl⟩
  intro l D tc B nn p en s m args below meth c X hr hlk
  replace X : CX p (rmD 2) s m args c cX8_comes 7 RX8 D tc 2 := X
  show V p l en (rmD 2) s m args below meth c 7 D tc B nn (Ar B nn) s.heap 0 0 (MQ below (QC D tc B nn (Ar B nn) (some (.int res.1)) res.2) args s 0 0 (Ar B nn)) h 0 [(0, .ref a0), (1, .int a1), (2, .int a2), (3, .int a3), (4, .int a4)] []
  refine V_aload_n (q := 1) X (TB.get tb_X8_comes 0 rfl) rfl rfl rfl ?_
  obtain ⟨x1, ex1, e⟩ := bs e
  refine V_getR (q := 4) X (TB.get tb_X8_comes 1 rfl) rfl lf_RX8_47 ex1 ?_
  obtain ⟨x2, ex2, e⟩ := bs e
  refine V_getR (q := 7) X (TB.get tb_X8_comes 2 rfl) rfl lf_RX8_103 ex2 ?_
  refine V_astore (q := 9) (lv' := [(5, .ref x2), (0, .ref a0), (1, .int a1), (2, .int a2), (3, .int a3), (4, .int a4)]) X (TB.get tb_X8_comes 3 rfl) rfl (Nat.le_of_ble_eq_true rfl) rfl ?_
  refine V_aload (q := 11) X (TB.get tb_X8_comes 4 rfl) rfl rfl ?_
  refine V_iload_n (q := 12) X (TB.get tb_X8_comes 5 rfl) rfl rfl rfl ?_
  refine V_iload_n (q := 13) X (TB.get tb_X8_comes 6 rfl) rfl rfl rfl ?_
  obtain ⟨x3, ex3, e⟩ := bs e
  refine V_callV (q := 16) (As := [.int a1, .int a2]) (rest := []) (st' := [.int x3]) X (TB.get tb_X8_comes 7 rfl) rfl cv_RX8_136 (ok_X2_hasMethod x2 a1 a2 h x3 ex3).1 (ok_X2_hasMethod x2 a1 a2 h x3 ex3).2 (Nat.le_of_ble_eq_true rfl) rfl rfl (Nat.le_of_ble_eq_true rfl) rfl ?_
  refine jn_elim (P := (fun (k : Option (Int32 × Hp)) => k = some res → V p l en (rmD 2) s m args below meth c 7 D tc B nn (Ar B nn) s.heap 0 0 (MQ below (QC D tc B nn (Ar B nn) (some (.int res.1)) res.2) args s 0 0 (Ar B nn)) h 29 [(0, .ref a0)] [])) e ?_ (fun j4 Jj4 e => ?_)
  · intro e
    refine V_aload_n (q := 30) X (TB.get tb_X8_comes 14 rfl) rfl rfl rfl ?_
    refine V_iconst (v := 2) (q := 31) X (TB.get tb_X8_comes 15 rfl) c_iconst_2 rfl ?_
    obtain ⟨p5, ep5, e⟩ := bs e
    refine V_callV (q := 34) (As := [.int (2 : Int32)]) (rest := []) (st' := [.int p5.1]) X (TB.get tb_X8_comes 16 rfl) rfl cv_RX8_80 (ok_X8_refuse a0 (2 : Int32) h p5 ep5).1 (ok_X8_refuse a0 (2 : Int32) h p5 ep5).2 (Nat.le_of_ble_eq_true rfl) rfl rfl (Nat.le_of_ble_eq_true rfl) rfl ?_
    cases e
    exact V_iret X hr hlk (TB.get tb_X8_comes 17 rfl)
  refine V_if_eq (q := 19) (t := 29) X (TB.get tb_X8_comes 8 rfl) rfl rfl (fun hc => ?_) (fun hc => ?_)
  · have e := (if_pos hc).symm.trans e
    refine V_sub (lv' := [(0, .ref a0)]) [1] rfl ?_
    exact Jj4 e
  · have e := (if_neg hc).symm.trans e
    refine V_aload (q := 21) X (TB.get tb_X8_comes 9 rfl) rfl rfl ?_
    refine V_iload_n (q := 22) X (TB.get tb_X8_comes 10 rfl) rfl rfl rfl ?_
    refine V_iload_n (q := 23) X (TB.get tb_X8_comes 11 rfl) rfl rfl rfl ?_
    obtain ⟨x6, ex6, e⟩ := bs e
    refine V_callV (q := 26) (As := [.int a1, .int a3]) (rest := []) (st' := [.int x6]) X (TB.get tb_X8_comes 12 rfl) rfl cv_RX8_147 (ok_X2_hasState x2 a1 a3 h x6 ex6).1 (ok_X2_hasState x2 a1 a3 h x6 ex6).2 (Nat.le_of_ble_eq_true rfl) rfl rfl (Nat.le_of_ble_eq_true rfl) rfl ?_
    refine V_if_ne (q := 29) (t := 35) X (TB.get tb_X8_comes 13 rfl) rfl rfl (fun hc => ?_) (fun hc => ?_)
    · have e := (if_neg hc).symm.trans e
      refine V_aload (q := 37) X (TB.get tb_X8_comes 18 rfl) rfl rfl ?_
      refine V_iload_n (q := 38) X (TB.get tb_X8_comes 19 rfl) rfl rfl rfl ?_
      refine V_iload_n (q := 39) X (TB.get tb_X8_comes 20 rfl) rfl rfl rfl ?_
      refine V_iload_n (q := 40) X (TB.get tb_X8_comes 21 rfl) rfl rfl rfl ?_
      refine V_iload (q := 42) X (TB.get tb_X8_comes 22 rfl) rfl rfl ?_
      obtain ⟨x7, ex7, e⟩ := bs e
      refine V_callV (q := 45) (As := [.int a1, .int a2, .int a3, .int a4]) (rest := []) (st' := [.int x7]) X (TB.get tb_X8_comes 23 rfl) rfl cv_RX8_150 (ok_X2_following x2 a1 a2 a3 a4 h x7 ex7).1 (ok_X2_following x2 a1 a2 a3 a4 h x7 ex7).2 (Nat.le_of_ble_eq_true rfl) rfl rfl (Nat.le_of_ble_eq_true rfl) rfl ?_
      refine V_istore (q := 47) (lv' := [(6, .int x7), (5, .ref x2), (0, .ref a0), (1, .int a1), (2, .int a2), (3, .int a3), (4, .int a4)]) X (TB.get tb_X8_comes 24 rfl) rfl (Nat.le_of_ble_eq_true rfl) rfl ?_
      refine V_iload (q := 49) X (TB.get tb_X8_comes 25 rfl) rfl rfl ?_
      refine V_iconst (v := -1) (q := 50) X (TB.get tb_X8_comes 26 rfl) c_iconst_m1 rfl ?_
      refine V_icmp_ne (q := 53) (t := 61) X (TB.get tb_X8_comes 27 rfl) rfl rfl (fun hc => ?_) (fun hc => ?_)
      · have e := (if_neg hc).symm.trans e
        refine V_aload_n (q := 62) X (TB.get tb_X8_comes 32 rfl) rfl rfl rfl ?_
        refine V_iload (q := 64) X (TB.get tb_X8_comes 33 rfl) rfl rfl ?_
        obtain ⟨p8, ep8, e⟩ := bs e
        refine V_callV (q := 67) (As := [.int x7]) (rest := []) (st' := [.int p8.1]) X (TB.get tb_X8_comes 34 rfl) rfl cv_RX8_100 (ok_X8_answer a0 x7 h p8 ep8).1 (ok_X8_answer a0 x7 h p8 ep8).2 (Nat.le_of_ble_eq_true rfl) rfl rfl (Nat.le_of_ble_eq_true rfl) rfl ?_
        cases e
        exact V_iret X hr hlk (TB.get tb_X8_comes 35 rfl)
      · have e := (if_pos hc).symm.trans e
        refine V_aload_n (q := 54) X (TB.get tb_X8_comes 28 rfl) rfl rfl rfl ?_
        refine V_iconst (v := 5) (q := 55) X (TB.get tb_X8_comes 29 rfl) c_iconst_5 rfl ?_
        obtain ⟨p9, ep9, e⟩ := bs e
        refine V_callV (q := 58) (As := [.int (5 : Int32)]) (rest := []) (st' := [.int p9.1]) X (TB.get tb_X8_comes 30 rfl) rfl cv_RX8_80 (ok_X8_refuse a0 (5 : Int32) h p9 ep9).1 (ok_X8_refuse a0 (5 : Int32) h p9 ep9).2 (Nat.le_of_ble_eq_true rfl) rfl rfl (Nat.le_of_ble_eq_true rfl) rfl ?_
        refine V_goto (q := 67) X (TB.get tb_X8_comes 31 rfl) rfl ?_
        cases e
        exact V_iret X hr hlk (TB.get tb_X8_comes 35 rfl)
    · have e := (if_pos hc).symm.trans e
      refine V_sub (lv' := [(0, .ref a0)]) [1] rfl ?_
      exact Jj4 e
set_option maxRecDepth 100000 in
set_option maxHeartbeats 4000000 in
theorem ok_X8_tell (fu : Nat) (a0 : Nat) (a1 : Int32) (a2 : Int32) (a3 : Int32) (a4 : Int32) (a5 : Int32) (h : Hp) (res : Int32 × Hp) (e : MX8_tell fu a0 a1 a2 a3 a4 a5 h = some res) : CK yX8_tell cX8_tell 8 (some .int) 3 [.ref a0, .int a1, .int a2, .int a3, .int a4, .int a5] h (some (.int res.1)) res.2 ∧ (h.1 a0).1 = 8 := by
  obtain ⟨hcl, e⟩ := h_g_inv e
  refine ⟨CK_of pn_RX8 cm_X8_tell (Nat.le_of_ble_eq_true rfl) ?_, hcl⟩
  intro l D tc B nn p en s m args below meth c X hr hlk
  replace X : CX p (rmD 3) s m args c cX8_tell 8 RX8 D tc 3 := X
  show V p l en (rmD 3) s m args below meth c 8 D tc B nn (Ar B nn) s.heap 0 0 (MQ below (QC D tc B nn (Ar B nn) (some (.int res.1)) res.2) args s 0 0 (Ar B nn)) h 0 [(0, .ref a0), (1, .int a1), (2, .int a2), (3, .int a3), (4, .int a4), (5, .int a5)] []
  refine V_iload (q := 2) X (TB.get tb_X8_tell 0 rfl) rfl rfl ?_
  refine V_iconst (v := -1) (q := 3) X (TB.get tb_X8_tell 1 rfl) c_iconst_m1 rfl ?_
  refine V_icmp_ge (q := 6) (t := 12) X (TB.get tb_X8_tell 2 rfl) rfl rfl (fun hc => ?_) (fun hc => ?_)
  · have e := (if_pos hc).symm.trans e
    refine V_aload_n (q := 13) X (TB.get tb_X8_tell 7 rfl) rfl rfl rfl ?_
    obtain ⟨x1, ex1, e⟩ := bs e
    refine V_getR (q := 16) X (TB.get tb_X8_tell 8 rfl) rfl lf_RX8_47 ex1 ?_
    obtain ⟨x2, ex2, e⟩ := bs e
    refine V_getR (q := 19) X (TB.get tb_X8_tell 9 rfl) rfl lf_RX8_103 ex2 ?_
    refine V_astore (q := 21) (lv' := [(6, .ref x2), (0, .ref a0), (1, .int a1), (2, .int a2), (3, .int a3), (4, .int a4), (5, .int a5)]) X (TB.get tb_X8_tell 10 rfl) rfl (Nat.le_of_ble_eq_true rfl) rfl ?_
    refine V_aload (q := 23) X (TB.get tb_X8_tell 11 rfl) rfl rfl ?_
    refine V_iload_n (q := 24) X (TB.get tb_X8_tell 12 rfl) rfl rfl rfl ?_
    refine V_iload_n (q := 25) X (TB.get tb_X8_tell 13 rfl) rfl rfl rfl ?_
    obtain ⟨x3, ex3, e⟩ := bs e
    refine V_callV (q := 28) (As := [.int a1, .int a2]) (rest := []) (st' := [.int x3]) X (TB.get tb_X8_tell 14 rfl) rfl cv_RX8_136 (ok_X2_hasMethod x2 a1 a2 h x3 ex3).1 (ok_X2_hasMethod x2 a1 a2 h x3 ex3).2 (Nat.le_of_ble_eq_true rfl) rfl rfl (Nat.le_of_ble_eq_true rfl) rfl ?_
    refine jn_elim (P := (fun (k : Option (Int32 × Hp)) => k = some res → V p l en (rmD 3) s m args below meth c 8 D tc B nn (Ar B nn) s.heap 0 0 (MQ below (QC D tc B nn (Ar B nn) (some (.int res.1)) res.2) args s 0 0 (Ar B nn)) h 41 [(0, .ref a0)] [])) e ?_ (fun j4 Jj4 e => ?_)
    · intro e
      refine V_aload_n (q := 42) X (TB.get tb_X8_tell 21 rfl) rfl rfl rfl ?_
      refine V_iconst (v := 2) (q := 43) X (TB.get tb_X8_tell 22 rfl) c_iconst_2 rfl ?_
      obtain ⟨p5, ep5, e⟩ := bs e
      refine V_callV (q := 46) (As := [.int (2 : Int32)]) (rest := []) (st' := [.int p5.1]) X (TB.get tb_X8_tell 23 rfl) rfl cv_RX8_80 (ok_X8_refuse a0 (2 : Int32) h p5 ep5).1 (ok_X8_refuse a0 (2 : Int32) h p5 ep5).2 (Nat.le_of_ble_eq_true rfl) rfl rfl (Nat.le_of_ble_eq_true rfl) rfl ?_
      cases e
      exact V_iret X hr hlk (TB.get tb_X8_tell 24 rfl)
    refine V_if_eq (q := 31) (t := 41) X (TB.get tb_X8_tell 15 rfl) rfl rfl (fun hc => ?_) (fun hc => ?_)
    · have e := (if_pos hc).symm.trans e
      refine V_sub (lv' := [(0, .ref a0)]) [1] rfl ?_
      exact Jj4 e
    · have e := (if_neg hc).symm.trans e
      refine V_aload (q := 33) X (TB.get tb_X8_tell 16 rfl) rfl rfl ?_
      refine V_iload_n (q := 34) X (TB.get tb_X8_tell 17 rfl) rfl rfl rfl ?_
      refine V_iload_n (q := 35) X (TB.get tb_X8_tell 18 rfl) rfl rfl rfl ?_
      obtain ⟨x6, ex6, e⟩ := bs e
      refine V_callV (q := 38) (As := [.int a1, .int a3]) (rest := []) (st' := [.int x6]) X (TB.get tb_X8_tell 19 rfl) rfl cv_RX8_147 (ok_X2_hasState x2 a1 a3 h x6 ex6).1 (ok_X2_hasState x2 a1 a3 h x6 ex6).2 (Nat.le_of_ble_eq_true rfl) rfl rfl (Nat.le_of_ble_eq_true rfl) rfl ?_
      refine V_if_ne (q := 41) (t := 47) X (TB.get tb_X8_tell 20 rfl) rfl rfl (fun hc => ?_) (fun hc => ?_)
      · have e := (if_neg hc).symm.trans e
        refine V_iload (q := 49) X (TB.get tb_X8_tell 25 rfl) rfl rfl ?_
        refine V_iconst (v := -1) (q := 50) X (TB.get tb_X8_tell 26 rfl) c_iconst_m1 rfl ?_
        refine jn_elim (P := (fun (k : Option (Int32 × Hp)) => k = some res → V p l en (rmD 3) s m args below meth c 8 D tc B nn (Ar B nn) s.heap 0 0 (MQ below (QC D tc B nn (Ar B nn) (some (.int res.1)) res.2) args s 0 0 (Ar B nn)) h 70 [(0, .ref a0), (1, .int a1), (2, .int a2), (3, .int a3), (4, .int a4), (5, .int a5), (6, .ref x2)] [])) e ?_ (fun j7 Jj7 e => ?_)
        · intro e
          refine V_aload (q := 72) X (TB.get tb_X8_tell 37 rfl) rfl rfl ?_
          refine V_iload_n (q := 73) X (TB.get tb_X8_tell 38 rfl) rfl rfl rfl ?_
          refine V_iload_n (q := 74) X (TB.get tb_X8_tell 39 rfl) rfl rfl rfl ?_
          refine V_iload_n (q := 75) X (TB.get tb_X8_tell 40 rfl) rfl rfl rfl ?_
          refine V_iload (q := 77) X (TB.get tb_X8_tell 41 rfl) rfl rfl ?_
          obtain ⟨x8, ex8, e⟩ := bs e
          refine V_callV (q := 80) (As := [.int a1, .int a2, .int a3, .int a4]) (rest := []) (st' := [.int x8]) X (TB.get tb_X8_tell 42 rfl) rfl cv_RX8_150 (ok_X2_following x2 a1 a2 a3 a4 h x8 ex8).1 (ok_X2_following x2 a1 a2 a3 a4 h x8 ex8).2 (Nat.le_of_ble_eq_true rfl) rfl rfl (Nat.le_of_ble_eq_true rfl) rfl ?_
          refine V_istore (q := 82) (lv' := [(7, .int x8), (0, .ref a0), (1, .int a1), (2, .int a2), (3, .int a3), (4, .int a4), (5, .int a5), (6, .ref x2)]) X (TB.get tb_X8_tell 43 rfl) rfl (Nat.le_of_ble_eq_true rfl) rfl ?_
          refine V_iload (q := 84) X (TB.get tb_X8_tell 44 rfl) rfl rfl ?_
          refine V_iload (q := 86) X (TB.get tb_X8_tell 45 rfl) rfl rfl ?_
          refine V_icmp_ne (q := 89) (t := 95) X (TB.get tb_X8_tell 46 rfl) rfl rfl (fun hc => ?_) (fun hc => ?_)
          · have e := (if_neg hc).symm.trans e
            refine V_aload (q := 97) X (TB.get tb_X8_tell 51 rfl) rfl rfl ?_
            refine V_iload_n (q := 98) X (TB.get tb_X8_tell 52 rfl) rfl rfl rfl ?_
            refine V_iload_n (q := 99) X (TB.get tb_X8_tell 53 rfl) rfl rfl rfl ?_
            obtain ⟨x9, ex9, e⟩ := bs e
            refine V_callV (q := 102) (As := [.int a1, .int a2]) (rest := []) (st' := [.int x9]) X (TB.get tb_X8_tell 54 rfl) rfl cv_RX8_140 (ok_X2_sortOf x2 a1 a2 h x9 ex9).1 (ok_X2_sortOf x2 a1 a2 h x9 ex9).2 (Nat.le_of_ble_eq_true rfl) rfl rfl (Nat.le_of_ble_eq_true rfl) rfl ?_
            refine V_iconst (v := 2) (q := 103) X (TB.get tb_X8_tell 55 rfl) c_iconst_2 rfl ?_
            refine jn_elim (P := (fun (k : Option (Int32 × Hp)) => k = some res → V p l en (rmD 3) s m args below meth c 8 D tc B nn (Ar B nn) s.heap 0 0 (MQ below (QC D tc B nn (Ar B nn) (some (.int res.1)) res.2) args s 0 0 (Ar B nn)) h 124 [(0, .ref a0), (1, .int a1), (2, .int a2), (3, .int a3), (4, .int a4), (5, .int a5), (6, .ref x2), (7, .int x8)] [])) e ?_ (fun j10 Jj10 e => ?_)
            · intro e
              refine V_aload (q := 126) X (TB.get tb_X8_tell 67 rfl) rfl rfl ?_
              refine V_iload_n (q := 127) X (TB.get tb_X8_tell 68 rfl) rfl rfl rfl ?_
              refine V_iload_n (q := 128) X (TB.get tb_X8_tell 69 rfl) rfl rfl rfl ?_
              refine V_iload_n (q := 129) X (TB.get tb_X8_tell 70 rfl) rfl rfl rfl ?_
              refine V_iload (q := 131) X (TB.get tb_X8_tell 71 rfl) rfl rfl ?_
              refine V_iload (q := 133) X (TB.get tb_X8_tell 72 rfl) rfl rfl ?_
              obtain ⟨h11, eh11, e⟩ := bs e
              refine V_callV (q := 136) (As := [.int a1, .int a2, .int a3, .int a4, .int a5]) (rest := []) (st' := []) X (TB.get tb_X8_tell 73 rfl) rfl cv_RX8_154 (ok_X2_change x2 a1 a2 a3 a4 a5 h h11 eh11).1 (ok_X2_change x2 a1 a2 a3 a4 a5 h h11 eh11).2 (Nat.le_of_ble_eq_true rfl) rfl rfl (Nat.le_of_ble_eq_true rfl) rfl ?_
              refine V_aload_n (q := 137) X (TB.get tb_X8_tell 74 rfl) rfl rfl rfl ?_
              obtain ⟨h12, eh12, e⟩ := bs e
              refine V_callV (q := 140) (As := []) (rest := []) (st' := []) X (TB.get tb_X8_tell 75 rfl) rfl cv_RX8_94 (ok_X8_forgetAnswers fu a0 h11 h12 eh12).1 (ok_X8_forgetAnswers fu a0 h11 h12 eh12).2 (Nat.le_of_ble_eq_true rfl) rfl rfl (Nat.le_of_ble_eq_true rfl) rfl ?_
              refine V_aload_n (q := 141) X (TB.get tb_X8_tell 76 rfl) rfl rfl rfl ?_
              refine V_iload (q := 143) X (TB.get tb_X8_tell 77 rfl) rfl rfl ?_
              obtain ⟨p13, ep13, e⟩ := bs e
              refine V_callV (q := 146) (As := [.int x8]) (rest := []) (st' := [.int p13.1]) X (TB.get tb_X8_tell 78 rfl) rfl cv_RX8_100 (ok_X8_answer a0 x8 h12 p13 ep13).1 (ok_X8_answer a0 x8 h12 p13 ep13).2 (Nat.le_of_ble_eq_true rfl) rfl rfl (Nat.le_of_ble_eq_true rfl) rfl ?_
              cases e
              exact V_iret X hr hlk (TB.get tb_X8_tell 79 rfl)
            refine V_icmp_ne (q := 106) (t := 124) X (TB.get tb_X8_tell 56 rfl) rfl rfl (fun hc => ?_) (fun hc => ?_)
            · have e := (if_neg hc).symm.trans e
              refine V_sub (lv' := [(0, .ref a0), (1, .int a1), (2, .int a2), (3, .int a3), (4, .int a4), (5, .int a5), (6, .ref x2), (7, .int x8)]) [1, 2, 3, 4, 5, 6, 7, 0] rfl ?_
              exact Jj10 e
            · have e := (if_pos hc).symm.trans e
              refine V_iload (q := 108) X (TB.get tb_X8_tell 57 rfl) rfl rfl ?_
              refine V_iconst (v := -1) (q := 109) X (TB.get tb_X8_tell 58 rfl) c_iconst_m1 rfl ?_
              refine V_icmp_eq (q := 112) (t := 124) X (TB.get tb_X8_tell 59 rfl) rfl rfl (fun hc => ?_) (fun hc => ?_)
              · have e := (if_pos hc).symm.trans e
                refine V_sub (lv' := [(0, .ref a0), (1, .int a1), (2, .int a2), (3, .int a3), (4, .int a4), (5, .int a5), (6, .ref x2), (7, .int x8)]) [1, 2, 3, 4, 5, 6, 7, 0] rfl ?_
                exact Jj10 e
              · have e := (if_neg hc).symm.trans e
                refine V_iload (q := 114) X (TB.get tb_X8_tell 60 rfl) rfl rfl ?_
                refine V_iload_n (q := 115) X (TB.get tb_X8_tell 61 rfl) rfl rfl rfl ?_
                refine V_icmp_eq (q := 118) (t := 124) X (TB.get tb_X8_tell 62 rfl) rfl rfl (fun hc => ?_) (fun hc => ?_)
                · have e := (if_pos hc).symm.trans e
                  refine V_sub (lv' := [(0, .ref a0), (1, .int a1), (2, .int a2), (3, .int a3), (4, .int a4), (5, .int a5), (6, .ref x2), (7, .int x8)]) [1, 2, 3, 4, 5, 6, 7, 0] rfl ?_
                  exact Jj10 e
                · have e := (if_neg hc).symm.trans e
                  refine V_aload_n (q := 119) X (TB.get tb_X8_tell 63 rfl) rfl rfl rfl ?_
                  refine V_iconst (v := 5) (q := 120) X (TB.get tb_X8_tell 64 rfl) c_iconst_5 rfl ?_
                  obtain ⟨p14, ep14, e⟩ := bs e
                  refine V_callV (q := 123) (As := [.int (5 : Int32)]) (rest := []) (st' := [.int p14.1]) X (TB.get tb_X8_tell 65 rfl) rfl cv_RX8_80 (ok_X8_refuse a0 (5 : Int32) h p14 ep14).1 (ok_X8_refuse a0 (5 : Int32) h p14 ep14).2 (Nat.le_of_ble_eq_true rfl) rfl rfl (Nat.le_of_ble_eq_true rfl) rfl ?_
                  cases e
                  exact V_iret X hr hlk (TB.get tb_X8_tell 66 rfl)
          · have e := (if_pos hc).symm.trans e
            refine V_aload_n (q := 90) X (TB.get tb_X8_tell 47 rfl) rfl rfl rfl ?_
            refine V_iconst (v := 4) (q := 91) X (TB.get tb_X8_tell 48 rfl) c_iconst_4 rfl ?_
            obtain ⟨p15, ep15, e⟩ := bs e
            refine V_callV (q := 94) (As := [.int (4 : Int32)]) (rest := []) (st' := [.int p15.1]) X (TB.get tb_X8_tell 49 rfl) rfl cv_RX8_80 (ok_X8_refuse a0 (4 : Int32) h p15 ep15).1 (ok_X8_refuse a0 (4 : Int32) h p15 ep15).2 (Nat.le_of_ble_eq_true rfl) rfl rfl (Nat.le_of_ble_eq_true rfl) rfl ?_
            cases e
            exact V_iret X hr hlk (TB.get tb_X8_tell 50 rfl)
        refine V_icmp_eq (q := 53) (t := 70) X (TB.get tb_X8_tell 27 rfl) rfl rfl (fun hc => ?_) (fun hc => ?_)
        · have e := (if_pos hc).symm.trans e
          refine V_sub (lv' := [(0, .ref a0), (1, .int a1), (2, .int a2), (3, .int a3), (4, .int a4), (5, .int a5), (6, .ref x2)]) [1, 2, 3, 4, 5, 6, 0] rfl ?_
          exact Jj7 e
        · have e := (if_neg hc).symm.trans e
          refine V_aload (q := 55) X (TB.get tb_X8_tell 28 rfl) rfl rfl ?_
          refine V_iload_n (q := 56) X (TB.get tb_X8_tell 29 rfl) rfl rfl rfl ?_
          refine V_iload (q := 58) X (TB.get tb_X8_tell 30 rfl) rfl rfl ?_
          obtain ⟨x16, ex16, e⟩ := bs e
          refine V_callV (q := 61) (As := [.int a1, .int a5]) (rest := []) (st' := [.int x16]) X (TB.get tb_X8_tell 31 rfl) rfl cv_RX8_147 (ok_X2_hasState x2 a1 a5 h x16 ex16).1 (ok_X2_hasState x2 a1 a5 h x16 ex16).2 (Nat.le_of_ble_eq_true rfl) rfl rfl (Nat.le_of_ble_eq_true rfl) rfl ?_
          refine V_if_ne (q := 64) (t := 70) X (TB.get tb_X8_tell 32 rfl) rfl rfl (fun hc => ?_) (fun hc => ?_)
          · have e := (if_neg hc).symm.trans e
            refine V_sub (lv' := [(0, .ref a0), (1, .int a1), (2, .int a2), (3, .int a3), (4, .int a4), (5, .int a5), (6, .ref x2)]) [1, 2, 3, 4, 5, 6, 0] rfl ?_
            exact Jj7 e
          · have e := (if_pos hc).symm.trans e
            refine V_aload_n (q := 65) X (TB.get tb_X8_tell 33 rfl) rfl rfl rfl ?_
            refine V_iconst (v := 2) (q := 66) X (TB.get tb_X8_tell 34 rfl) c_iconst_2 rfl ?_
            obtain ⟨p17, ep17, e⟩ := bs e
            refine V_callV (q := 69) (As := [.int (2 : Int32)]) (rest := []) (st' := [.int p17.1]) X (TB.get tb_X8_tell 35 rfl) rfl cv_RX8_80 (ok_X8_refuse a0 (2 : Int32) h p17 ep17).1 (ok_X8_refuse a0 (2 : Int32) h p17 ep17).2 (Nat.le_of_ble_eq_true rfl) rfl rfl (Nat.le_of_ble_eq_true rfl) rfl ?_
            cases e
            exact V_iret X hr hlk (TB.get tb_X8_tell 36 rfl)
      · have e := (if_pos hc).symm.trans e
        refine V_sub (lv' := [(0, .ref a0)]) [1] rfl ?_
        exact Jj4 e
  · have e := (if_neg hc).symm.trans e
    refine V_aload_n (q := 7) X (TB.get tb_X8_tell 3 rfl) rfl rfl rfl ?_
    refine V_iconst (v := 1) (q := 8) X (TB.get tb_X8_tell 4 rfl) c_iconst_1 rfl ?_
    obtain ⟨p18, ep18, e⟩ := bs e
    refine V_callV (q := 11) (As := [.int (1 : Int32)]) (rest := []) (st' := [.int p18.1]) X (TB.get tb_X8_tell 5 rfl) rfl cv_RX8_80 (ok_X8_refuse a0 (1 : Int32) h p18 ep18).1 (ok_X8_refuse a0 (1 : Int32) h p18 ep18).2 (Nat.le_of_ble_eq_true rfl) rfl rfl (Nat.le_of_ble_eq_true rfl) rfl ?_
    cases e
    exact V_iret X hr hlk (TB.get tb_X8_tell 6 rfl)
set_option maxRecDepth 100000 in
set_option maxHeartbeats 4000000 in
theorem ok_X8_toEnd (fu : Nat) (a0 : Nat) (a1 : Int32) (a2 : Int32) (h : Hp) (res : Int32 × Hp) (e : MX8_toEnd fu a0 a1 a2 h = some res) : CK yX8_toEnd cX8_toEnd 5 (some .int) 5 [.ref a0, .int a1, .int a2] h (some (.int res.1)) res.2 ∧ (h.1 a0).1 = 8 := by
  obtain ⟨hcl, e⟩ := h_g_inv e
  refine ⟨CK_of pn_RX8 cm_X8_toEnd (Nat.le_of_ble_eq_true rfl) ?_, hcl⟩
  intro l D tc B nn p en s m args below meth c X hr hlk
  replace X : CX p (rmD 5) s m args c cX8_toEnd 5 RX8 D tc 5 := X
  show V p l en (rmD 5) s m args below meth c 5 D tc B nn (Ar B nn) s.heap 0 0 (MQ below (QC D tc B nn (Ar B nn) (some (.int res.1)) res.2) args s 0 0 (Ar B nn)) h 0 [(0, .ref a0), (1, .int a1), (2, .int a2)] []
  refine V_aload_n (q := 1) X (TB.get tb_X8_toEnd 0 rfl) rfl rfl rfl ?_
  obtain ⟨x1, ex1, e⟩ := bs e
  refine V_getR (q := 4) X (TB.get tb_X8_toEnd 1 rfl) rfl lf_RX8_47 ex1 ?_
  obtain ⟨x2, ex2, e⟩ := bs e
  refine V_getR (q := 7) X (TB.get tb_X8_toEnd 2 rfl) rfl lf_RX8_103 ex2 ?_
  refine V_astore_n (q := 8) (lv' := [(3, .ref x2), (0, .ref a0), (1, .int a1), (2, .int a2)]) X (TB.get tb_X8_toEnd 3 rfl) rfl rfl (Nat.le_of_ble_eq_true rfl) rfl ?_
  refine V_aload_n (q := 9) X (TB.get tb_X8_toEnd 4 rfl) rfl rfl rfl ?_
  refine V_iload_n (q := 10) X (TB.get tb_X8_toEnd 5 rfl) rfl rfl rfl ?_
  refine V_iload_n (q := 11) X (TB.get tb_X8_toEnd 6 rfl) rfl rfl rfl ?_
  obtain ⟨x3, ex3, e⟩ := bs e
  refine V_callV (q := 14) (As := [.int a1, .int a2]) (rest := []) (st' := [.int x3]) X (TB.get tb_X8_toEnd 7 rfl) rfl cv_RX8_147 (ok_X2_hasState x2 a1 a2 h x3 ex3).1 (ok_X2_hasState x2 a1 a2 h x3 ex3).2 (Nat.le_of_ble_eq_true rfl) rfl rfl (Nat.le_of_ble_eq_true rfl) rfl ?_
  refine V_if_ne (q := 17) (t := 23) X (TB.get tb_X8_toEnd 8 rfl) rfl rfl (fun hc => ?_) (fun hc => ?_)
  · have e := (if_neg hc).symm.trans e
    refine V_aload_n (q := 24) X (TB.get tb_X8_toEnd 13 rfl) rfl rfl rfl ?_
    refine V_iload_n (q := 25) X (TB.get tb_X8_toEnd 14 rfl) rfl rfl rfl ?_
    refine V_iload_n (q := 26) X (TB.get tb_X8_toEnd 15 rfl) rfl rfl rfl ?_
    obtain ⟨p4, ep4, e⟩ := bs e
    refine V_callV (q := 29) (As := [.int a1, .int a2]) (rest := []) (st' := [.int p4.1]) X (TB.get tb_X8_toEnd 16 rfl) rfl cv_RX8_158 (ok_X2_stepsToEnd fu x2 a1 a2 h p4 ep4).1 (ok_X2_stepsToEnd fu x2 a1 a2 h p4 ep4).2 (Nat.le_of_ble_eq_true rfl) rfl rfl (Nat.le_of_ble_eq_true rfl) rfl ?_
    refine V_istore (q := 31) (lv' := [(4, .int p4.1), (3, .ref x2), (0, .ref a0), (1, .int a1), (2, .int a2)]) X (TB.get tb_X8_toEnd 17 rfl) rfl (Nat.le_of_ble_eq_true rfl) rfl ?_
    refine V_iload (q := 33) X (TB.get tb_X8_toEnd 18 rfl) rfl rfl ?_
    refine V_iconst (v := -1) (q := 34) X (TB.get tb_X8_toEnd 19 rfl) c_iconst_m1 rfl ?_
    refine V_icmp_ne (q := 37) (t := 45) X (TB.get tb_X8_toEnd 20 rfl) rfl rfl (fun hc => ?_) (fun hc => ?_)
    · have e := (if_neg hc).symm.trans e
      refine V_aload_n (q := 46) X (TB.get tb_X8_toEnd 25 rfl) rfl rfl rfl ?_
      refine V_iload (q := 48) X (TB.get tb_X8_toEnd 26 rfl) rfl rfl ?_
      obtain ⟨p5, ep5, e⟩ := bs e
      refine V_callV (q := 51) (As := [.int p4.1]) (rest := []) (st' := [.int p5.1]) X (TB.get tb_X8_toEnd 27 rfl) rfl cv_RX8_100 (ok_X8_answer a0 p4.1 p4.2 p5 ep5).1 (ok_X8_answer a0 p4.1 p4.2 p5 ep5).2 (Nat.le_of_ble_eq_true rfl) rfl rfl (Nat.le_of_ble_eq_true rfl) rfl ?_
      cases e
      exact V_iret X hr hlk (TB.get tb_X8_toEnd 28 rfl)
    · have e := (if_pos hc).symm.trans e
      refine V_aload_n (q := 38) X (TB.get tb_X8_toEnd 21 rfl) rfl rfl rfl ?_
      refine V_iconst (v := 5) (q := 39) X (TB.get tb_X8_toEnd 22 rfl) c_iconst_5 rfl ?_
      obtain ⟨p6, ep6, e⟩ := bs e
      refine V_callV (q := 42) (As := [.int (5 : Int32)]) (rest := []) (st' := [.int p6.1]) X (TB.get tb_X8_toEnd 23 rfl) rfl cv_RX8_80 (ok_X8_refuse a0 (5 : Int32) p4.2 p6 ep6).1 (ok_X8_refuse a0 (5 : Int32) p4.2 p6 ep6).2 (Nat.le_of_ble_eq_true rfl) rfl rfl (Nat.le_of_ble_eq_true rfl) rfl ?_
      refine V_goto (q := 51) X (TB.get tb_X8_toEnd 24 rfl) rfl ?_
      cases e
      exact V_iret X hr hlk (TB.get tb_X8_toEnd 28 rfl)
  · have e := (if_pos hc).symm.trans e
    refine V_aload_n (q := 18) X (TB.get tb_X8_toEnd 9 rfl) rfl rfl rfl ?_
    refine V_iconst (v := 2) (q := 19) X (TB.get tb_X8_toEnd 10 rfl) c_iconst_2 rfl ?_
    obtain ⟨p7, ep7, e⟩ := bs e
    refine V_callV (q := 22) (As := [.int (2 : Int32)]) (rest := []) (st' := [.int p7.1]) X (TB.get tb_X8_toEnd 11 rfl) rfl cv_RX8_80 (ok_X8_refuse a0 (2 : Int32) h p7 ep7).1 (ok_X8_refuse a0 (2 : Int32) h p7 ep7).2 (Nat.le_of_ble_eq_true rfl) rfl rfl (Nat.le_of_ble_eq_true rfl) rfl ?_
    cases e
    exact V_iret X hr hlk (TB.get tb_X8_toEnd 12 rfl)
set_option maxRecDepth 100000 in
set_option maxHeartbeats 4000000 in
theorem ok_X8_towards (fu : Nat) (a0 : Nat) (a1 : Int32) (a2 : Int32) (h : Hp) (res : Int32 × Hp) (e : MX8_towards fu a0 a1 a2 h = some res) : CK yX8_towards cX8_towards 5 (some .int) 5 [.ref a0, .int a1, .int a2] h (some (.int res.1)) res.2 ∧ (h.1 a0).1 = 8 := by
  obtain ⟨hcl, e⟩ := h_g_inv e
  refine ⟨CK_of pn_RX8 cm_X8_towards (Nat.le_of_ble_eq_true rfl) ?_, hcl⟩
  intro l D tc B nn p en s m args below meth c X hr hlk
  replace X : CX p (rmD 5) s m args c cX8_towards 5 RX8 D tc 5 := X
  show V p l en (rmD 5) s m args below meth c 5 D tc B nn (Ar B nn) s.heap 0 0 (MQ below (QC D tc B nn (Ar B nn) (some (.int res.1)) res.2) args s 0 0 (Ar B nn)) h 0 [(0, .ref a0), (1, .int a1), (2, .int a2)] []
  refine V_aload_n (q := 1) X (TB.get tb_X8_towards 0 rfl) rfl rfl rfl ?_
  obtain ⟨x1, ex1, e⟩ := bs e
  refine V_getR (q := 4) X (TB.get tb_X8_towards 1 rfl) rfl lf_RX8_47 ex1 ?_
  obtain ⟨x2, ex2, e⟩ := bs e
  refine V_getR (q := 7) X (TB.get tb_X8_towards 2 rfl) rfl lf_RX8_103 ex2 ?_
  refine V_astore_n (q := 8) (lv' := [(3, .ref x2), (0, .ref a0), (1, .int a1), (2, .int a2)]) X (TB.get tb_X8_towards 3 rfl) rfl rfl (Nat.le_of_ble_eq_true rfl) rfl ?_
  refine V_aload_n (q := 9) X (TB.get tb_X8_towards 4 rfl) rfl rfl rfl ?_
  refine V_iload_n (q := 10) X (TB.get tb_X8_towards 5 rfl) rfl rfl rfl ?_
  refine V_iload_n (q := 11) X (TB.get tb_X8_towards 6 rfl) rfl rfl rfl ?_
  obtain ⟨x3, ex3, e⟩ := bs e
  refine V_callV (q := 14) (As := [.int a1, .int a2]) (rest := []) (st' := [.int x3]) X (TB.get tb_X8_towards 7 rfl) rfl cv_RX8_147 (ok_X2_hasState x2 a1 a2 h x3 ex3).1 (ok_X2_hasState x2 a1 a2 h x3 ex3).2 (Nat.le_of_ble_eq_true rfl) rfl rfl (Nat.le_of_ble_eq_true rfl) rfl ?_
  refine V_if_ne (q := 17) (t := 23) X (TB.get tb_X8_towards 8 rfl) rfl rfl (fun hc => ?_) (fun hc => ?_)
  · have e := (if_neg hc).symm.trans e
    refine V_aload_n (q := 24) X (TB.get tb_X8_towards 13 rfl) rfl rfl rfl ?_
    refine V_iload_n (q := 25) X (TB.get tb_X8_towards 14 rfl) rfl rfl rfl ?_
    refine V_iload_n (q := 26) X (TB.get tb_X8_towards 15 rfl) rfl rfl rfl ?_
    obtain ⟨p4, ep4, e⟩ := bs e
    refine V_callV (q := 29) (As := [.int a1, .int a2]) (rest := []) (st' := [.int p4.1]) X (TB.get tb_X8_towards 16 rfl) rfl cv_RX8_158 (ok_X2_stepsToEnd fu x2 a1 a2 h p4 ep4).1 (ok_X2_stepsToEnd fu x2 a1 a2 h p4 ep4).2 (Nat.le_of_ble_eq_true rfl) rfl rfl (Nat.le_of_ble_eq_true rfl) rfl ?_
    refine V_istore (q := 31) (lv' := [(4, .int p4.1), (3, .ref x2), (0, .ref a0), (1, .int a1), (2, .int a2)]) X (TB.get tb_X8_towards 17 rfl) rfl (Nat.le_of_ble_eq_true rfl) rfl ?_
    refine V_iload (q := 33) X (TB.get tb_X8_towards 18 rfl) rfl rfl ?_
    refine V_iconst (v := -1) (q := 34) X (TB.get tb_X8_towards 19 rfl) c_iconst_m1 rfl ?_
    refine jn_elim (P := (fun (k : Option (Int32 × Hp)) => k = some res → V p l en (rmD 5) s m args below meth c 5 D tc B nn (Ar B nn) s.heap 0 0 (MQ below (QC D tc B nn (Ar B nn) (some (.int res.1)) res.2) args s 0 0 (Ar B nn)) p4.2 42 [(0, .ref a0)] [])) e ?_ (fun j5 Jj5 e => ?_)
    · intro e
      refine V_aload_n (q := 43) X (TB.get tb_X8_towards 23 rfl) rfl rfl rfl ?_
      refine V_iconst (v := 5) (q := 44) X (TB.get tb_X8_towards 24 rfl) c_iconst_5 rfl ?_
      obtain ⟨p6, ep6, e⟩ := bs e
      refine V_callV (q := 47) (As := [.int (5 : Int32)]) (rest := []) (st' := [.int p6.1]) X (TB.get tb_X8_towards 25 rfl) rfl cv_RX8_80 (ok_X8_refuse a0 (5 : Int32) p4.2 p6 ep6).1 (ok_X8_refuse a0 (5 : Int32) p4.2 p6 ep6).2 (Nat.le_of_ble_eq_true rfl) rfl rfl (Nat.le_of_ble_eq_true rfl) rfl ?_
      cases e
      exact V_iret X hr hlk (TB.get tb_X8_towards 26 rfl)
    refine V_icmp_eq (q := 37) (t := 42) X (TB.get tb_X8_towards 20 rfl) rfl rfl (fun hc => ?_) (fun hc => ?_)
    · have e := (if_pos hc).symm.trans e
      refine V_sub (lv' := [(0, .ref a0)]) [2] rfl ?_
      exact Jj5 e
    · have e := (if_neg hc).symm.trans e
      refine V_iload (q := 39) X (TB.get tb_X8_towards 21 rfl) rfl rfl ?_
      refine V_if_ne (q := 42) (t := 48) X (TB.get tb_X8_towards 22 rfl) rfl rfl (fun hc => ?_) (fun hc => ?_)
      · have e := (if_neg hc).symm.trans e
        refine V_aload_n (q := 49) X (TB.get tb_X8_towards 27 rfl) rfl rfl rfl ?_
        refine V_aload_n (q := 50) X (TB.get tb_X8_towards 28 rfl) rfl rfl rfl ?_
        refine V_iload_n (q := 51) X (TB.get tb_X8_towards 29 rfl) rfl rfl rfl ?_
        refine V_iload_n (q := 52) X (TB.get tb_X8_towards 30 rfl) rfl rfl rfl ?_
        refine V_iload (q := 54) X (TB.get tb_X8_towards 31 rfl) rfl rfl ?_
        refine V_iconst (v := 1) (q := 55) X (TB.get tb_X8_towards 32 rfl) c_iconst_1 rfl ?_
        refine V_isub (q := 56) X (TB.get tb_X8_towards 33 rfl) rfl ?_
        obtain ⟨x7, ex7, e⟩ := bs e
        refine V_callV (q := 59) (As := [.int a1, .int a2, .int (p4.1 - (1 : Int32))]) (rest := [.ref a0]) (st' := [.int x7, .ref a0]) X (TB.get tb_X8_towards 34 rfl) rfl cv_RX8_161 (ok_X2_methodTo fu x2 a1 a2 (p4.1 - (1 : Int32)) p4.2 x7 ex7).1 (ok_X2_methodTo fu x2 a1 a2 (p4.1 - (1 : Int32)) p4.2 x7 ex7).2 (Nat.le_of_ble_eq_true rfl) rfl rfl (Nat.le_of_ble_eq_true rfl) rfl ?_
        obtain ⟨p8, ep8, e⟩ := bs e
        refine V_callV (q := 62) (As := [.int x7]) (rest := []) (st' := [.int p8.1]) X (TB.get tb_X8_towards 35 rfl) rfl cv_RX8_100 (ok_X8_answer a0 x7 p4.2 p8 ep8).1 (ok_X8_answer a0 x7 p4.2 p8 ep8).2 (Nat.le_of_ble_eq_true rfl) rfl rfl (Nat.le_of_ble_eq_true rfl) rfl ?_
        cases e
        exact V_iret X hr hlk (TB.get tb_X8_towards 36 rfl)
      · have e := (if_pos hc).symm.trans e
        refine V_sub (lv' := [(0, .ref a0)]) [2] rfl ?_
        exact Jj5 e
  · have e := (if_pos hc).symm.trans e
    refine V_aload_n (q := 18) X (TB.get tb_X8_towards 9 rfl) rfl rfl rfl ?_
    refine V_iconst (v := 2) (q := 19) X (TB.get tb_X8_towards 10 rfl) c_iconst_2 rfl ?_
    obtain ⟨p9, ep9, e⟩ := bs e
    refine V_callV (q := 22) (As := [.int (2 : Int32)]) (rest := []) (st' := [.int p9.1]) X (TB.get tb_X8_towards 11 rfl) rfl cv_RX8_80 (ok_X8_refuse a0 (2 : Int32) h p9 ep9).1 (ok_X8_refuse a0 (2 : Int32) h p9 ep9).2 (Nat.le_of_ble_eq_true rfl) rfl rfl (Nat.le_of_ble_eq_true rfl) rfl ?_
    cases e
    exact V_iret X hr hlk (TB.get tb_X8_towards 12 rfl)
set_option maxRecDepth 100000 in
set_option maxHeartbeats 4000000 in
theorem ok_X8_alike (fu : Nat) (a0 : Nat) (a1 : Int32) (a2 : Int32) (a3 : Int32) (h : Hp) (res : Int32 × Hp) (e : MX8_alike fu a0 a1 a2 a3 h = some res) : CK yX8_alike cX8_alike 5 (some .int) 6 [.ref a0, .int a1, .int a2, .int a3] h (some (.int res.1)) res.2 ∧ (h.1 a0).1 = 8 := by
  obtain ⟨hcl, e⟩ := h_g_inv e
  refine ⟨CK_of pn_RX8 cm_X8_alike (Nat.le_of_ble_eq_true rfl) ?_, hcl⟩
  intro l D tc B nn p en s m args below meth c X hr hlk
  replace X : CX p (rmD 6) s m args c cX8_alike 5 RX8 D tc 6 := X
  show V p l en (rmD 6) s m args below meth c 5 D tc B nn (Ar B nn) s.heap 0 0 (MQ below (QC D tc B nn (Ar B nn) (some (.int res.1)) res.2) args s 0 0 (Ar B nn)) h 0 [(0, .ref a0), (1, .int a1), (2, .int a2), (3, .int a3)] []
  refine V_aload_n (q := 1) X (TB.get tb_X8_alike 0 rfl) rfl rfl rfl ?_
  obtain ⟨x1, ex1, e⟩ := bs e
  refine V_getR (q := 4) X (TB.get tb_X8_alike 1 rfl) rfl lf_RX8_47 ex1 ?_
  obtain ⟨x2, ex2, e⟩ := bs e
  refine V_getR (q := 7) X (TB.get tb_X8_alike 2 rfl) rfl lf_RX8_103 ex2 ?_
  refine V_astore (q := 9) (lv' := [(4, .ref x2), (0, .ref a0), (1, .int a1), (2, .int a2), (3, .int a3)]) X (TB.get tb_X8_alike 3 rfl) rfl (Nat.le_of_ble_eq_true rfl) rfl ?_
  refine V_aload (q := 11) X (TB.get tb_X8_alike 4 rfl) rfl rfl ?_
  refine V_iload_n (q := 12) X (TB.get tb_X8_alike 5 rfl) rfl rfl rfl ?_
  refine V_iload_n (q := 13) X (TB.get tb_X8_alike 6 rfl) rfl rfl rfl ?_
  obtain ⟨x3, ex3, e⟩ := bs e
  refine V_callV (q := 16) (As := [.int a1, .int a2]) (rest := []) (st' := [.int x3]) X (TB.get tb_X8_alike 7 rfl) rfl cv_RX8_147 (ok_X2_hasState x2 a1 a2 h x3 ex3).1 (ok_X2_hasState x2 a1 a2 h x3 ex3).2 (Nat.le_of_ble_eq_true rfl) rfl rfl (Nat.le_of_ble_eq_true rfl) rfl ?_
  refine jn_elim (P := (fun (k : Option (Int32 × Hp)) => k = some res → V p l en (rmD 6) s m args below meth c 5 D tc B nn (Ar B nn) s.heap 0 0 (MQ below (QC D tc B nn (Ar B nn) (some (.int res.1)) res.2) args s 0 0 (Ar B nn)) h 29 [(0, .ref a0)] [])) e ?_ (fun j4 Jj4 e => ?_)
  · intro e
    refine V_aload_n (q := 30) X (TB.get tb_X8_alike 14 rfl) rfl rfl rfl ?_
    refine V_iconst (v := 2) (q := 31) X (TB.get tb_X8_alike 15 rfl) c_iconst_2 rfl ?_
    obtain ⟨p5, ep5, e⟩ := bs e
    refine V_callV (q := 34) (As := [.int (2 : Int32)]) (rest := []) (st' := [.int p5.1]) X (TB.get tb_X8_alike 16 rfl) rfl cv_RX8_80 (ok_X8_refuse a0 (2 : Int32) h p5 ep5).1 (ok_X8_refuse a0 (2 : Int32) h p5 ep5).2 (Nat.le_of_ble_eq_true rfl) rfl rfl (Nat.le_of_ble_eq_true rfl) rfl ?_
    cases e
    exact V_iret X hr hlk (TB.get tb_X8_alike 17 rfl)
  refine V_if_eq (q := 19) (t := 29) X (TB.get tb_X8_alike 8 rfl) rfl rfl (fun hc => ?_) (fun hc => ?_)
  · have e := (if_pos hc).symm.trans e
    refine V_sub (lv' := [(0, .ref a0)]) [1] rfl ?_
    exact Jj4 e
  · have e := (if_neg hc).symm.trans e
    refine V_aload (q := 21) X (TB.get tb_X8_alike 9 rfl) rfl rfl ?_
    refine V_iload_n (q := 22) X (TB.get tb_X8_alike 10 rfl) rfl rfl rfl ?_
    refine V_iload_n (q := 23) X (TB.get tb_X8_alike 11 rfl) rfl rfl rfl ?_
    obtain ⟨x6, ex6, e⟩ := bs e
    refine V_callV (q := 26) (As := [.int a1, .int a3]) (rest := []) (st' := [.int x6]) X (TB.get tb_X8_alike 12 rfl) rfl cv_RX8_147 (ok_X2_hasState x2 a1 a3 h x6 ex6).1 (ok_X2_hasState x2 a1 a3 h x6 ex6).2 (Nat.le_of_ble_eq_true rfl) rfl rfl (Nat.le_of_ble_eq_true rfl) rfl ?_
    refine V_if_ne (q := 29) (t := 35) X (TB.get tb_X8_alike 13 rfl) rfl rfl (fun hc => ?_) (fun hc => ?_)
    · have e := (if_neg hc).symm.trans e
      refine V_aload_n (q := 36) X (TB.get tb_X8_alike 18 rfl) rfl rfl rfl ?_
      refine V_aload (q := 38) X (TB.get tb_X8_alike 19 rfl) rfl rfl ?_
      refine V_iload_n (q := 39) X (TB.get tb_X8_alike 20 rfl) rfl rfl rfl ?_
      refine V_iload_n (q := 40) X (TB.get tb_X8_alike 21 rfl) rfl rfl rfl ?_
      refine V_iload_n (q := 41) X (TB.get tb_X8_alike 22 rfl) rfl rfl rfl ?_
      obtain ⟨p7, ep7, e⟩ := bs e
      refine V_callV (q := 44) (As := [.int a1, .int a2, .int a3]) (rest := [.ref a0]) (st' := [.int p7.1, .ref a0]) X (TB.get tb_X8_alike 23 rfl) rfl cv_RX8_165 (ok_X2_areAlike fu x2 a1 a2 a3 h p7 ep7).1 (ok_X2_areAlike fu x2 a1 a2 a3 h p7 ep7).2 (Nat.le_of_ble_eq_true rfl) rfl rfl (Nat.le_of_ble_eq_true rfl) rfl ?_
      refine jn_elim (P := (fun (k : Int32 → Option (Int32 × Hp)) => ∀ (w8 : Int32), k w8 = some res → V p l en (rmD 6) s m args below meth c 5 D tc B nn (Ar B nn) s.heap 0 0 (MQ below (QC D tc B nn (Ar B nn) (some (.int res.1)) res.2) args s 0 0 (Ar B nn)) p7.2 52 [] [.int w8, .ref a0])) e ?_ (fun j9 Jj9 e => ?_)
      · intro w8 e
        obtain ⟨p10, ep10, e⟩ := bs e
        refine V_callV (q := 55) (As := [.int w8]) (rest := []) (st' := [.int p10.1]) X (TB.get tb_X8_alike 28 rfl) rfl cv_RX8_100 (ok_X8_answer a0 w8 p7.2 p10 ep10).1 (ok_X8_answer a0 w8 p7.2 p10 ep10).2 (Nat.le_of_ble_eq_true rfl) rfl rfl (Nat.le_of_ble_eq_true rfl) rfl ?_
        cases e
        exact V_iret X hr hlk (TB.get tb_X8_alike 29 rfl)
      refine V_if_eq (q := 47) (t := 51) X (TB.get tb_X8_alike 24 rfl) rfl rfl (fun hc => ?_) (fun hc => ?_)
      · have e := (if_pos hc).symm.trans e
        refine V_iconst (v := 0) (q := 52) X (TB.get tb_X8_alike 27 rfl) c_iconst_0 rfl ?_
        refine V_sub (lv' := []) [] rfl ?_
        exact Jj9 _ e
      · have e := (if_neg hc).symm.trans e
        refine V_iconst (v := 1) (q := 48) X (TB.get tb_X8_alike 25 rfl) c_iconst_1 rfl ?_
        refine V_goto (q := 52) X (TB.get tb_X8_alike 26 rfl) rfl ?_
        refine V_sub (lv' := []) [] rfl ?_
        exact Jj9 _ e
    · have e := (if_pos hc).symm.trans e
      refine V_sub (lv' := [(0, .ref a0)]) [1] rfl ?_
      exact Jj4 e
set_option maxRecDepth 100000 in
set_option maxHeartbeats 4000000 in
theorem ok_X8_rows (fu : Nat) (a0 : Nat) (a1 : Int32) (a2 : Int32) (a3 : Int32) (h : Hp) (res : Int32 × Hp) (e : MX8_rows fu a0 a1 a2 a3 h = some res) : CK yX8_rows cX8_rows 5 (some .int) 4 [.ref a0, .int a1, .int a2, .int a3] h (some (.int res.1)) res.2 ∧ (h.1 a0).1 = 8 := by
  obtain ⟨hcl, e⟩ := h_g_inv e
  refine ⟨CK_of pn_RX8 cm_X8_rows (Nat.le_of_ble_eq_true rfl) ?_, hcl⟩
  intro l D tc B nn p en s m args below meth c X hr hlk
  replace X : CX p (rmD 4) s m args c cX8_rows 5 RX8 D tc 4 := X
  show V p l en (rmD 4) s m args below meth c 5 D tc B nn (Ar B nn) s.heap 0 0 (MQ below (QC D tc B nn (Ar B nn) (some (.int res.1)) res.2) args s 0 0 (Ar B nn)) h 0 [(0, .ref a0), (1, .int a1), (2, .int a2), (3, .int a3)] []
  refine V_iload_n (q := 1) X (TB.get tb_X8_rows 0 rfl) rfl rfl rfl ?_
  refine jn_elim (P := (fun (k : Option (Int32 × Hp)) => k = some res → V p l en (rmD 4) s m args below meth c 5 D tc B nn (Ar B nn) s.heap 0 0 (MQ below (QC D tc B nn (Ar B nn) (some (.int res.1)) res.2) args s 0 0 (Ar B nn)) h 10 [(0, .ref a0)] [])) e ?_ (fun j1 Jj1 e => ?_)
  · intro e
    refine V_aload_n (q := 11) X (TB.get tb_X8_rows 5 rfl) rfl rfl rfl ?_
    refine V_iconst (v := 1) (q := 12) X (TB.get tb_X8_rows 6 rfl) c_iconst_1 rfl ?_
    obtain ⟨p2, ep2, e⟩ := bs e
    refine V_callV (q := 15) (As := [.int (1 : Int32)]) (rest := []) (st' := [.int p2.1]) X (TB.get tb_X8_rows 7 rfl) rfl cv_RX8_80 (ok_X8_refuse a0 (1 : Int32) h p2 ep2).1 (ok_X8_refuse a0 (1 : Int32) h p2 ep2).2 (Nat.le_of_ble_eq_true rfl) rfl rfl (Nat.le_of_ble_eq_true rfl) rfl ?_
    cases e
    exact V_iret X hr hlk (TB.get tb_X8_rows 8 rfl)
  refine V_if_lt (q := 4) (t := 10) X (TB.get tb_X8_rows 1 rfl) rfl rfl (fun hc => ?_) (fun hc => ?_)
  · have e := (if_pos hc).symm.trans e
    refine V_sub (lv' := [(0, .ref a0)]) [0] rfl ?_
    exact Jj1 e
  · have e := (if_neg hc).symm.trans e
    refine V_iload_n (q := 5) X (TB.get tb_X8_rows 2 rfl) rfl rfl rfl ?_
    refine V_bipush (v := 12) (q := 7) X (TB.get tb_X8_rows 3 rfl) c_bipush_12 rfl ?_
    refine V_icmp_le (q := 10) (t := 16) X (TB.get tb_X8_rows 4 rfl) rfl rfl (fun hc => ?_) (fun hc => ?_)
    · have e := (if_pos hc).symm.trans e
      refine V_aload_n (q := 17) X (TB.get tb_X8_rows 9 rfl) rfl rfl rfl ?_
      obtain ⟨x3, ex3, e⟩ := bs e
      refine V_getR (q := 20) X (TB.get tb_X8_rows 10 rfl) rfl lf_RX8_47 ex3 ?_
      obtain ⟨x4, ex4, e⟩ := bs e
      refine V_getR (q := 23) X (TB.get tb_X8_rows 11 rfl) rfl lf_RX8_103 ex4 ?_
      refine V_astore (q := 25) (lv' := [(4, .ref x4), (0, .ref a0), (1, .int a1), (2, .int a2), (3, .int a3)]) X (TB.get tb_X8_rows 12 rfl) rfl (Nat.le_of_ble_eq_true rfl) rfl ?_
      refine V_aload (q := 27) X (TB.get tb_X8_rows 13 rfl) rfl rfl ?_
      refine V_iload_n (q := 28) X (TB.get tb_X8_rows 14 rfl) rfl rfl rfl ?_
      obtain ⟨x5, ex5, e⟩ := bs e
      refine V_callV (q := 31) (As := [.int a1]) (rest := []) (st' := [.int x5]) X (TB.get tb_X8_rows 15 rfl) rfl cv_RX8_115 (ok_X2_hasKind x4 a1 h x5 ex5).1 (ok_X2_hasKind x4 a1 h x5 ex5).2 (Nat.le_of_ble_eq_true rfl) rfl rfl (Nat.le_of_ble_eq_true rfl) rfl ?_
      refine V_if_ne (q := 34) (t := 40) X (TB.get tb_X8_rows 16 rfl) rfl rfl (fun hc => ?_) (fun hc => ?_)
      · have e := (if_neg hc).symm.trans e
        refine V_aload_n (q := 41) X (TB.get tb_X8_rows 21 rfl) rfl rfl rfl ?_
        refine V_aload (q := 43) X (TB.get tb_X8_rows 22 rfl) rfl rfl ?_
        refine V_iload_n (q := 44) X (TB.get tb_X8_rows 23 rfl) rfl rfl rfl ?_
        refine V_iload_n (q := 45) X (TB.get tb_X8_rows 24 rfl) rfl rfl rfl ?_
        refine V_iload_n (q := 46) X (TB.get tb_X8_rows 25 rfl) rfl rfl rfl ?_
        obtain ⟨p6, ep6, e⟩ := bs e
        refine V_callV (q := 49) (As := [.int a1, .int a2, .int a3]) (rest := [.ref a0]) (st' := [.int p6.1, .ref a0]) X (TB.get tb_X8_rows 26 rfl) rfl cv_RX8_169 (ok_X2_countRows fu x4 a1 a2 a3 h p6 ep6).1 (ok_X2_countRows fu x4 a1 a2 a3 h p6 ep6).2 (Nat.le_of_ble_eq_true rfl) rfl rfl (Nat.le_of_ble_eq_true rfl) rfl ?_
        obtain ⟨p7, ep7, e⟩ := bs e
        refine V_callV (q := 52) (As := [.int p6.1]) (rest := []) (st' := [.int p7.1]) X (TB.get tb_X8_rows 27 rfl) rfl cv_RX8_100 (ok_X8_answer a0 p6.1 p6.2 p7 ep7).1 (ok_X8_answer a0 p6.1 p6.2 p7 ep7).2 (Nat.le_of_ble_eq_true rfl) rfl rfl (Nat.le_of_ble_eq_true rfl) rfl ?_
        cases e
        exact V_iret X hr hlk (TB.get tb_X8_rows 28 rfl)
      · have e := (if_pos hc).symm.trans e
        refine V_aload_n (q := 35) X (TB.get tb_X8_rows 17 rfl) rfl rfl rfl ?_
        refine V_iconst (v := 2) (q := 36) X (TB.get tb_X8_rows 18 rfl) c_iconst_2 rfl ?_
        obtain ⟨p8, ep8, e⟩ := bs e
        refine V_callV (q := 39) (As := [.int (2 : Int32)]) (rest := []) (st' := [.int p8.1]) X (TB.get tb_X8_rows 19 rfl) rfl cv_RX8_80 (ok_X8_refuse a0 (2 : Int32) h p8 ep8).1 (ok_X8_refuse a0 (2 : Int32) h p8 ep8).2 (Nat.le_of_ble_eq_true rfl) rfl rfl (Nat.le_of_ble_eq_true rfl) rfl ?_
        cases e
        exact V_iret X hr hlk (TB.get tb_X8_rows 20 rfl)
    · have e := (if_neg hc).symm.trans e
      refine V_sub (lv' := [(0, .ref a0)]) [0] rfl ?_
      exact Jj1 e
set_option maxRecDepth 100000 in
set_option maxHeartbeats 4000000 in
theorem ok_X8_statement (a0 : Nat) (a1 : Int32) (a2 : Int32) (h : Hp) (res : Int32 × Hp) (e : MX8_statement a0 a1 a2 h = some res) : CK yX8_statement cX8_statement 3 (some .int) 1 [.ref a0, .int a1, .int a2] h (some (.int res.1)) res.2 ∧ (h.1 a0).1 = 8 := by
  obtain ⟨hcl, e⟩ := h_g_inv e
  refine ⟨CK_of pn_RX8 cm_X8_statement (Nat.le_of_ble_eq_true rfl) ?_, hcl⟩
  intro l D tc B nn p en s m args below meth c X hr hlk
  replace X : CX p (rmD 1) s m args c cX8_statement 3 RX8 D tc 1 := X
  show V p l en (rmD 1) s m args below meth c 3 D tc B nn (Ar B nn) s.heap 0 0 (MQ below (QC D tc B nn (Ar B nn) (some (.int res.1)) res.2) args s 0 0 (Ar B nn)) h 0 [(0, .ref a0), (1, .int a1), (2, .int a2)] []
  refine V_iload_n (q := 1) X (TB.get tb_X8_statement 0 rfl) rfl rfl rfl ?_
  refine jn_elim (P := (fun (k : Option (Int32 × Hp)) => k = some res → V p l en (rmD 1) s m args below meth c 3 D tc B nn (Ar B nn) s.heap 0 0 (MQ below (QC D tc B nn (Ar B nn) (some (.int res.1)) res.2) args s 0 0 (Ar B nn)) h 10 [(0, .ref a0)] [])) e ?_ (fun j1 Jj1 e => ?_)
  · intro e
    refine V_aload_n (q := 11) X (TB.get tb_X8_statement 5 rfl) rfl rfl rfl ?_
    refine V_iconst (v := 1) (q := 12) X (TB.get tb_X8_statement 6 rfl) c_iconst_1 rfl ?_
    obtain ⟨p2, ep2, e⟩ := bs e
    refine V_callV (q := 15) (As := [.int (1 : Int32)]) (rest := []) (st' := [.int p2.1]) X (TB.get tb_X8_statement 7 rfl) rfl cv_RX8_80 (ok_X8_refuse a0 (1 : Int32) h p2 ep2).1 (ok_X8_refuse a0 (1 : Int32) h p2 ep2).2 (Nat.le_of_ble_eq_true rfl) rfl rfl (Nat.le_of_ble_eq_true rfl) rfl ?_
    cases e
    exact V_iret X hr hlk (TB.get tb_X8_statement 8 rfl)
  refine V_if_lt (q := 4) (t := 10) X (TB.get tb_X8_statement 1 rfl) rfl rfl (fun hc => ?_) (fun hc => ?_)
  · have e := (if_pos hc).symm.trans e
    refine V_sub (lv' := [(0, .ref a0)]) [0] rfl ?_
    exact Jj1 e
  · have e := (if_neg hc).symm.trans e
    refine V_iload_n (q := 5) X (TB.get tb_X8_statement 2 rfl) rfl rfl rfl ?_
    refine V_bipush (v := 6) (q := 7) X (TB.get tb_X8_statement 3 rfl) c_bipush_6 rfl ?_
    refine V_icmp_le (q := 10) (t := 16) X (TB.get tb_X8_statement 4 rfl) rfl rfl (fun hc => ?_) (fun hc => ?_)
    · have e := (if_pos hc).symm.trans e
      refine V_aload_n (q := 17) X (TB.get tb_X8_statement 9 rfl) rfl rfl rfl ?_
      obtain ⟨x3, ex3, e⟩ := bs e
      refine V_getR (q := 20) X (TB.get tb_X8_statement 10 rfl) rfl lf_RX8_47 ex3 ?_
      refine V_iload_n (q := 21) X (TB.get tb_X8_statement 11 rfl) rfl rfl rfl ?_
      obtain ⟨x4, ex4, e⟩ := bs e
      refine V_callV (q := 24) (As := [.int a1]) (rest := []) (st' := [.int x4]) X (TB.get tb_X8_statement 12 rfl) rfl cv_RX8_173 (ok_X4_hasStatement x3 a1 h x4 ex4).1 (ok_X4_hasStatement x3 a1 h x4 ex4).2 (Nat.le_of_ble_eq_true rfl) rfl rfl (Nat.le_of_ble_eq_true rfl) rfl ?_
      refine V_if_ne (q := 27) (t := 33) X (TB.get tb_X8_statement 13 rfl) rfl rfl (fun hc => ?_) (fun hc => ?_)
      · have e := (if_neg hc).symm.trans e
        refine V_iload_n (q := 34) X (TB.get tb_X8_statement 18 rfl) rfl rfl rfl ?_
        by_cases hc0 : a2 = (0 : Int32)
        · have e := (if_pos hc0).symm.trans e
          rw [hc0]
          refine V_tabIn (q := 72) X (TB.get tb_X8_statement 19 rfl) (by decide) (by decide) rfl rfl ?_
          refine V_aload_n (q := 73) X (TB.get tb_X8_statement 20 rfl) rfl rfl rfl ?_
          refine V_aload_n (q := 74) X (TB.get tb_X8_statement 21 rfl) rfl rfl rfl ?_
          refine V_getR (q := 77) X (TB.get tb_X8_statement 22 rfl) rfl lf_RX8_47 ex3 ?_
          obtain ⟨x5, ex5, e⟩ := bs e
          refine V_getR (q := 80) X (TB.get tb_X8_statement 23 rfl) rfl lf_RX8_176 ex5 ?_
          refine V_iload_n (q := 81) X (TB.get tb_X8_statement 24 rfl) rfl rfl rfl ?_
          obtain ⟨x6, ex6, e⟩ := bs e
          refine V_iaload (q := 82) X (TB.get tb_X8_statement 25 rfl) rfl ex6 ?_
          obtain ⟨p7, ep7, e⟩ := bs e
          refine V_callV (q := 85) (As := [.int x6]) (rest := []) (st' := [.int p7.1]) X (TB.get tb_X8_statement 26 rfl) rfl cv_RX8_100 (ok_X8_answer a0 x6 h p7 ep7).1 (ok_X8_answer a0 x6 h p7 ep7).2 (Nat.le_of_ble_eq_true rfl) rfl rfl (Nat.le_of_ble_eq_true rfl) rfl ?_
          cases e
          exact V_iret X hr hlk (TB.get tb_X8_statement 27 rfl)
        have e := (if_neg hc0).symm.trans e
        by_cases hc1 : a2 = (1 : Int32)
        · have e := (if_pos hc1).symm.trans e
          rw [hc1]
          refine V_tabIn (q := 86) X (TB.get tb_X8_statement 19 rfl) (by decide) (by decide) rfl rfl ?_
          refine V_aload_n (q := 87) X (TB.get tb_X8_statement 28 rfl) rfl rfl rfl ?_
          refine V_aload_n (q := 88) X (TB.get tb_X8_statement 29 rfl) rfl rfl rfl ?_
          refine V_getR (q := 91) X (TB.get tb_X8_statement 30 rfl) rfl lf_RX8_47 ex3 ?_
          obtain ⟨x8, ex8, e⟩ := bs e
          refine V_getR (q := 94) X (TB.get tb_X8_statement 31 rfl) rfl lf_RX8_179 ex8 ?_
          refine V_iload_n (q := 95) X (TB.get tb_X8_statement 32 rfl) rfl rfl rfl ?_
          obtain ⟨x9, ex9, e⟩ := bs e
          refine V_iaload (q := 96) X (TB.get tb_X8_statement 33 rfl) rfl ex9 ?_
          obtain ⟨p10, ep10, e⟩ := bs e
          refine V_callV (q := 99) (As := [.int x9]) (rest := []) (st' := [.int p10.1]) X (TB.get tb_X8_statement 34 rfl) rfl cv_RX8_100 (ok_X8_answer a0 x9 h p10 ep10).1 (ok_X8_answer a0 x9 h p10 ep10).2 (Nat.le_of_ble_eq_true rfl) rfl rfl (Nat.le_of_ble_eq_true rfl) rfl ?_
          cases e
          exact V_iret X hr hlk (TB.get tb_X8_statement 35 rfl)
        have e := (if_neg hc1).symm.trans e
        by_cases hc2 : a2 = (2 : Int32)
        · have e := (if_pos hc2).symm.trans e
          rw [hc2]
          refine V_tabIn (q := 100) X (TB.get tb_X8_statement 19 rfl) (by decide) (by decide) rfl rfl ?_
          refine V_aload_n (q := 101) X (TB.get tb_X8_statement 36 rfl) rfl rfl rfl ?_
          refine V_aload_n (q := 102) X (TB.get tb_X8_statement 37 rfl) rfl rfl rfl ?_
          refine V_getR (q := 105) X (TB.get tb_X8_statement 38 rfl) rfl lf_RX8_47 ex3 ?_
          obtain ⟨x11, ex11, e⟩ := bs e
          refine V_getR (q := 108) X (TB.get tb_X8_statement 39 rfl) rfl lf_RX8_182 ex11 ?_
          refine V_iload_n (q := 109) X (TB.get tb_X8_statement 40 rfl) rfl rfl rfl ?_
          obtain ⟨x12, ex12, e⟩ := bs e
          refine V_iaload (q := 110) X (TB.get tb_X8_statement 41 rfl) rfl ex12 ?_
          obtain ⟨p13, ep13, e⟩ := bs e
          refine V_callV (q := 113) (As := [.int x12]) (rest := []) (st' := [.int p13.1]) X (TB.get tb_X8_statement 42 rfl) rfl cv_RX8_100 (ok_X8_answer a0 x12 h p13 ep13).1 (ok_X8_answer a0 x12 h p13 ep13).2 (Nat.le_of_ble_eq_true rfl) rfl rfl (Nat.le_of_ble_eq_true rfl) rfl ?_
          cases e
          exact V_iret X hr hlk (TB.get tb_X8_statement 43 rfl)
        have e := (if_neg hc2).symm.trans e
        by_cases hc3 : a2 = (3 : Int32)
        · have e := (if_pos hc3).symm.trans e
          rw [hc3]
          refine V_tabIn (q := 114) X (TB.get tb_X8_statement 19 rfl) (by decide) (by decide) rfl rfl ?_
          refine V_aload_n (q := 115) X (TB.get tb_X8_statement 44 rfl) rfl rfl rfl ?_
          refine V_aload_n (q := 116) X (TB.get tb_X8_statement 45 rfl) rfl rfl rfl ?_
          refine V_getR (q := 119) X (TB.get tb_X8_statement 46 rfl) rfl lf_RX8_47 ex3 ?_
          obtain ⟨x14, ex14, e⟩ := bs e
          refine V_getR (q := 122) X (TB.get tb_X8_statement 47 rfl) rfl lf_RX8_185 ex14 ?_
          refine V_iload_n (q := 123) X (TB.get tb_X8_statement 48 rfl) rfl rfl rfl ?_
          obtain ⟨x15, ex15, e⟩ := bs e
          refine V_iaload (q := 124) X (TB.get tb_X8_statement 49 rfl) rfl ex15 ?_
          obtain ⟨p16, ep16, e⟩ := bs e
          refine V_callV (q := 127) (As := [.int x15]) (rest := []) (st' := [.int p16.1]) X (TB.get tb_X8_statement 50 rfl) rfl cv_RX8_100 (ok_X8_answer a0 x15 h p16 ep16).1 (ok_X8_answer a0 x15 h p16 ep16).2 (Nat.le_of_ble_eq_true rfl) rfl rfl (Nat.le_of_ble_eq_true rfl) rfl ?_
          cases e
          exact V_iret X hr hlk (TB.get tb_X8_statement 51 rfl)
        have e := (if_neg hc3).symm.trans e
        by_cases hc4 : a2 = (4 : Int32)
        · have e := (if_pos hc4).symm.trans e
          rw [hc4]
          refine V_tabIn (q := 128) X (TB.get tb_X8_statement 19 rfl) (by decide) (by decide) rfl rfl ?_
          refine V_aload_n (q := 129) X (TB.get tb_X8_statement 52 rfl) rfl rfl rfl ?_
          refine V_aload_n (q := 130) X (TB.get tb_X8_statement 53 rfl) rfl rfl rfl ?_
          refine V_getR (q := 133) X (TB.get tb_X8_statement 54 rfl) rfl lf_RX8_47 ex3 ?_
          obtain ⟨x17, ex17, e⟩ := bs e
          refine V_getR (q := 136) X (TB.get tb_X8_statement 55 rfl) rfl lf_RX8_188 ex17 ?_
          refine V_iload_n (q := 137) X (TB.get tb_X8_statement 56 rfl) rfl rfl rfl ?_
          obtain ⟨x18, ex18, e⟩ := bs e
          refine V_iaload (q := 138) X (TB.get tb_X8_statement 57 rfl) rfl ex18 ?_
          obtain ⟨p19, ep19, e⟩ := bs e
          refine V_callV (q := 141) (As := [.int x18]) (rest := []) (st' := [.int p19.1]) X (TB.get tb_X8_statement 58 rfl) rfl cv_RX8_100 (ok_X8_answer a0 x18 h p19 ep19).1 (ok_X8_answer a0 x18 h p19 ep19).2 (Nat.le_of_ble_eq_true rfl) rfl rfl (Nat.le_of_ble_eq_true rfl) rfl ?_
          cases e
          exact V_iret X hr hlk (TB.get tb_X8_statement 59 rfl)
        have e := (if_neg hc4).symm.trans e
        by_cases hc5 : a2 = (5 : Int32)
        · have e := (if_pos hc5).symm.trans e
          rw [hc5]
          refine V_tabIn (q := 142) X (TB.get tb_X8_statement 19 rfl) (by decide) (by decide) rfl rfl ?_
          refine V_aload_n (q := 143) X (TB.get tb_X8_statement 60 rfl) rfl rfl rfl ?_
          refine V_aload_n (q := 144) X (TB.get tb_X8_statement 61 rfl) rfl rfl rfl ?_
          refine V_getR (q := 147) X (TB.get tb_X8_statement 62 rfl) rfl lf_RX8_47 ex3 ?_
          obtain ⟨x20, ex20, e⟩ := bs e
          refine V_getR (q := 150) X (TB.get tb_X8_statement 63 rfl) rfl lf_RX8_191 ex20 ?_
          refine V_iload_n (q := 151) X (TB.get tb_X8_statement 64 rfl) rfl rfl rfl ?_
          obtain ⟨x21, ex21, e⟩ := bs e
          refine V_iaload (q := 152) X (TB.get tb_X8_statement 65 rfl) rfl ex21 ?_
          obtain ⟨p22, ep22, e⟩ := bs e
          refine V_callV (q := 155) (As := [.int x21]) (rest := []) (st' := [.int p22.1]) X (TB.get tb_X8_statement 66 rfl) rfl cv_RX8_100 (ok_X8_answer a0 x21 h p22 ep22).1 (ok_X8_answer a0 x21 h p22 ep22).2 (Nat.le_of_ble_eq_true rfl) rfl rfl (Nat.le_of_ble_eq_true rfl) rfl ?_
          cases e
          exact V_iret X hr hlk (TB.get tb_X8_statement 67 rfl)
        have e := (if_neg hc5).symm.trans e
        have hout : a2.toInt < 0 ∨ 5 < a2.toInt := tab_out a2 (0) (5) [0, 1, 2, 3, 4, 5] (by decide +kernel) (fun v hv => by simp only [List.mem_cons, List.not_mem_nil, or_false] at hv; rcases hv with rfl | rfl | rfl | rfl | rfl | rfl <;> assumption)
        refine V_tabOut (q := 156) X (TB.get tb_X8_statement 19 rfl) hout rfl ?_
        refine V_aload_n (q := 157) X (TB.get tb_X8_statement 68 rfl) rfl rfl rfl ?_
        refine V_aload_n (q := 158) X (TB.get tb_X8_statement 69 rfl) rfl rfl rfl ?_
        refine V_getR (q := 161) X (TB.get tb_X8_statement 70 rfl) rfl lf_RX8_47 ex3 ?_
        obtain ⟨x23, ex23, e⟩ := bs e
        refine V_getR (q := 164) X (TB.get tb_X8_statement 71 rfl) rfl lf_RX8_194 ex23 ?_
        refine V_iload_n (q := 165) X (TB.get tb_X8_statement 72 rfl) rfl rfl rfl ?_
        obtain ⟨x24, ex24, e⟩ := bs e
        refine V_iaload (q := 166) X (TB.get tb_X8_statement 73 rfl) rfl ex24 ?_
        obtain ⟨p25, ep25, e⟩ := bs e
        refine V_callV (q := 169) (As := [.int x24]) (rest := []) (st' := [.int p25.1]) X (TB.get tb_X8_statement 74 rfl) rfl cv_RX8_100 (ok_X8_answer a0 x24 h p25 ep25).1 (ok_X8_answer a0 x24 h p25 ep25).2 (Nat.le_of_ble_eq_true rfl) rfl rfl (Nat.le_of_ble_eq_true rfl) rfl ?_
        cases e
        exact V_iret X hr hlk (TB.get tb_X8_statement 75 rfl)
      · have e := (if_pos hc).symm.trans e
        refine V_aload_n (q := 28) X (TB.get tb_X8_statement 14 rfl) rfl rfl rfl ?_
        refine V_iconst (v := 2) (q := 29) X (TB.get tb_X8_statement 15 rfl) c_iconst_2 rfl ?_
        obtain ⟨p26, ep26, e⟩ := bs e
        refine V_callV (q := 32) (As := [.int (2 : Int32)]) (rest := []) (st' := [.int p26.1]) X (TB.get tb_X8_statement 16 rfl) rfl cv_RX8_80 (ok_X8_refuse a0 (2 : Int32) h p26 ep26).1 (ok_X8_refuse a0 (2 : Int32) h p26 ep26).2 (Nat.le_of_ble_eq_true rfl) rfl rfl (Nat.le_of_ble_eq_true rfl) rfl ?_
        cases e
        exact V_iret X hr hlk (TB.get tb_X8_statement 17 rfl)
    · have e := (if_neg hc).symm.trans e
      refine V_sub (lv' := [(0, .ref a0)]) [0] rfl ?_
      exact Jj1 e
set_option maxRecDepth 100000 in
set_option maxHeartbeats 4000000 in
theorem ok_X8_variable (a0 : Nat) (a1 : Int32) (h : Hp) (res : Int32 × Hp) (e : MX8_variable a0 a1 h = some res) : CK yX8_variable cX8_variable 2 (some .int) 1 [.ref a0, .int a1] h (some (.int res.1)) res.2 ∧ (h.1 a0).1 = 8 := by
  obtain ⟨hcl, e⟩ := h_g_inv e
  refine ⟨CK_of pn_RX8 cm_X8_variable (Nat.le_of_ble_eq_true rfl) ?_, hcl⟩
  intro l D tc B nn p en s m args below meth c X hr hlk
  replace X : CX p (rmD 1) s m args c cX8_variable 2 RX8 D tc 1 := X
  show V p l en (rmD 1) s m args below meth c 2 D tc B nn (Ar B nn) s.heap 0 0 (MQ below (QC D tc B nn (Ar B nn) (some (.int res.1)) res.2) args s 0 0 (Ar B nn)) h 0 [(0, .ref a0), (1, .int a1)] []
  refine V_aload_n (q := 1) X (TB.get tb_X8_variable 0 rfl) rfl rfl rfl ?_
  obtain ⟨x1, ex1, e⟩ := bs e
  refine V_getR (q := 4) X (TB.get tb_X8_variable 1 rfl) rfl lf_RX8_47 ex1 ?_
  refine V_iload_n (q := 5) X (TB.get tb_X8_variable 2 rfl) rfl rfl rfl ?_
  obtain ⟨x2, ex2, e⟩ := bs e
  refine V_callV (q := 8) (As := [.int a1]) (rest := []) (st' := [.int x2]) X (TB.get tb_X8_variable 3 rfl) rfl cv_RX8_197 (ok_X4_hasVariable x1 a1 h x2 ex2).1 (ok_X4_hasVariable x1 a1 h x2 ex2).2 (Nat.le_of_ble_eq_true rfl) rfl rfl (Nat.le_of_ble_eq_true rfl) rfl ?_
  refine V_if_eq (q := 11) (t := 27) X (TB.get tb_X8_variable 4 rfl) rfl rfl (fun hc => ?_) (fun hc => ?_)
  · have e := (if_pos hc).symm.trans e
    refine V_aload_n (q := 28) X (TB.get tb_X8_variable 13 rfl) rfl rfl rfl ?_
    refine V_iconst (v := 2) (q := 29) X (TB.get tb_X8_variable 14 rfl) c_iconst_2 rfl ?_
    obtain ⟨p3, ep3, e⟩ := bs e
    refine V_callV (q := 32) (As := [.int (2 : Int32)]) (rest := []) (st' := [.int p3.1]) X (TB.get tb_X8_variable 15 rfl) rfl cv_RX8_80 (ok_X8_refuse a0 (2 : Int32) h p3 ep3).1 (ok_X8_refuse a0 (2 : Int32) h p3 ep3).2 (Nat.le_of_ble_eq_true rfl) rfl rfl (Nat.le_of_ble_eq_true rfl) rfl ?_
    cases e
    exact V_iret X hr hlk (TB.get tb_X8_variable 16 rfl)
  · have e := (if_neg hc).symm.trans e
    refine V_aload_n (q := 12) X (TB.get tb_X8_variable 5 rfl) rfl rfl rfl ?_
    refine V_aload_n (q := 13) X (TB.get tb_X8_variable 6 rfl) rfl rfl rfl ?_
    refine V_getR (q := 16) X (TB.get tb_X8_variable 7 rfl) rfl lf_RX8_47 ex1 ?_
    obtain ⟨x4, ex4, e⟩ := bs e
    refine V_getR (q := 19) X (TB.get tb_X8_variable 8 rfl) rfl lf_RX8_200 ex4 ?_
    refine V_iload_n (q := 20) X (TB.get tb_X8_variable 9 rfl) rfl rfl rfl ?_
    obtain ⟨x5, ex5, e⟩ := bs e
    refine V_iaload (q := 21) X (TB.get tb_X8_variable 10 rfl) rfl ex5 ?_
    obtain ⟨p6, ep6, e⟩ := bs e
    refine V_callV (q := 24) (As := [.int x5]) (rest := []) (st' := [.int p6.1]) X (TB.get tb_X8_variable 11 rfl) rfl cv_RX8_100 (ok_X8_answer a0 x5 h p6 ep6).1 (ok_X8_answer a0 x5 h p6 ep6).2 (Nat.le_of_ble_eq_true rfl) rfl rfl (Nat.le_of_ble_eq_true rfl) rfl ?_
    refine V_goto (q := 32) X (TB.get tb_X8_variable 12 rfl) rfl ?_
    cases e
    exact V_iret X hr hlk (TB.get tb_X8_variable 16 rfl)
set_option maxRecDepth 100000 in
set_option maxHeartbeats 4000000 in
theorem ok_X8_solvedFlow (fu : Nat) (a0 : Nat) (h : Hp) (res : Nat × Hp) (e : MX8_solvedFlow fu a0 h = some res) : CK yX8_solvedFlow cX8_solvedFlow 1 (some (.object "HoldChecker$Flow")) 5 [.ref a0] h (some (.ref res.1)) res.2 ∧ (h.1 a0).1 = 8 := by
  obtain ⟨hcl, e⟩ := h_g_inv e
  refine ⟨CK_of pn_RX8 cm_X8_solvedFlow (Nat.le_of_ble_eq_true rfl) ?_, hcl⟩
  intro l D tc B nn p en s m args below meth c X hr hlk
  replace X : CX p (rmD 5) s m args c cX8_solvedFlow 1 RX8 D tc 5 := X
  show V p l en (rmD 5) s m args below meth c 1 D tc B nn (Ar B nn) s.heap 0 0 (MQ below (QC D tc B nn (Ar B nn) (some (.ref res.1)) res.2) args s 0 0 (Ar B nn)) h 0 [(0, .ref a0)] []
  refine V_aload_n (q := 1) X (TB.get tb_X8_solvedFlow 0 rfl) rfl rfl rfl ?_
  obtain ⟨x1, ex1, e⟩ := bs e
  refine V_getI (q := 4) X (TB.get tb_X8_solvedFlow 1 rfl) rfl lf_RX8_296 ex1 ?_
  refine jn_elim (P := (fun (k : Hp → Option (Nat × Hp)) => ∀ (h2 : Hp), k h2 = some res → V p l en (rmD 5) s m args below meth c 1 D tc B nn (Ar B nn) s.heap 0 0 (MQ below (QC D tc B nn (Ar B nn) (some (.ref res.1)) res.2) args s 0 0 (Ar B nn)) h2 24 [(0, .ref a0)] [])) e ?_ (fun j3 Jj3 e => ?_)
  · intro h2 e
    refine V_aload_n (q := 25) X (TB.get tb_X8_solvedFlow 12 rfl) rfl rfl rfl ?_
    obtain ⟨x4, ex4, e⟩ := bs e
    refine V_getR (q := 28) X (TB.get tb_X8_solvedFlow 13 rfl) rfl lf_RX8_19 ex4 ?_
    cases e
    exact V_aret X hr hlk (TB.get tb_X8_solvedFlow 14 rfl)
  refine V_if_ne (q := 7) (t := 24) X (TB.get tb_X8_solvedFlow 2 rfl) rfl rfl (fun hc => ?_) (fun hc => ?_)
  · have e := (if_neg hc).symm.trans e
    exact Jj3 _ e
  · have e := (if_pos hc).symm.trans e
    refine V_aload_n (q := 8) X (TB.get tb_X8_solvedFlow 3 rfl) rfl rfl rfl ?_
    obtain ⟨x5, ex5, e⟩ := bs e
    refine V_getR (q := 11) X (TB.get tb_X8_solvedFlow 4 rfl) rfl lf_RX8_19 ex5 ?_
    refine V_aload_n (q := 12) X (TB.get tb_X8_solvedFlow 5 rfl) rfl rfl rfl ?_
    obtain ⟨x6, ex6, e⟩ := bs e
    refine V_getR (q := 15) X (TB.get tb_X8_solvedFlow 6 rfl) rfl lf_RX8_47 ex6 ?_
    refine V_iconst (v := -1) (q := 16) X (TB.get tb_X8_solvedFlow 7 rfl) c_iconst_m1 rfl ?_
    obtain ⟨h7, eh7, e⟩ := bs e
    refine V_callV (q := 19) (As := [.ref x6, .int (-1 : Int32)]) (rest := []) (st' := []) X (TB.get tb_X8_solvedFlow 8 rfl) rfl cv_RX8_302 (ok_X0_solve fu x5 x6 (-1 : Int32) h h7 eh7).1 (ok_X0_solve fu x5 x6 (-1 : Int32) h h7 eh7).2 (Nat.le_of_ble_eq_true rfl) rfl rfl (Nat.le_of_ble_eq_true rfl) rfl ?_
    refine V_aload_n (q := 20) X (TB.get tb_X8_solvedFlow 9 rfl) rfl rfl rfl ?_
    refine V_iconst (v := 1) (q := 21) X (TB.get tb_X8_solvedFlow 10 rfl) c_iconst_1 rfl ?_
    obtain ⟨h8, eh8, e⟩ := bs e
    refine V_putZ (q := 24) X (TB.get tb_X8_solvedFlow 11 rfl) rfl lq_RX8_296 eh8 ?_
    exact Jj3 _ e
set_option maxRecDepth 100000 in
set_option maxHeartbeats 4000000 in
theorem ok_X8_check (fu : Nat) (a0 : Nat) (a1 : Int32) (h : Hp) (res : Int32 × Hp) (e : MX8_check fu a0 a1 h = some res) : CK yX8_check cX8_check 4 (some .int) 6 [.ref a0, .int a1] h (some (.int res.1)) res.2 ∧ (h.1 a0).1 = 8 := by
  obtain ⟨hcl, e⟩ := h_g_inv e
  refine ⟨CK_of pn_RX8 cm_X8_check (Nat.le_of_ble_eq_true rfl) ?_, hcl⟩
  intro l D tc B nn p en s m args below meth c X hr hlk
  replace X : CX p (rmD 6) s m args c cX8_check 4 RX8 D tc 6 := X
  show V p l en (rmD 6) s m args below meth c 4 D tc B nn (Ar B nn) s.heap 0 0 (MQ below (QC D tc B nn (Ar B nn) (some (.int res.1)) res.2) args s 0 0 (Ar B nn)) h 0 [(0, .ref a0), (1, .int a1)] []
  refine V_iload_n (q := 1) X (TB.get tb_X8_check 0 rfl) rfl rfl rfl ?_
  refine jn_elim (P := (fun (k : Option (Int32 × Hp)) => k = some res → V p l en (rmD 6) s m args below meth c 4 D tc B nn (Ar B nn) s.heap 0 0 (MQ below (QC D tc B nn (Ar B nn) (some (.int res.1)) res.2) args s 0 0 (Ar B nn)) h 9 [(0, .ref a0)] [])) e ?_ (fun j1 Jj1 e => ?_)
  · intro e
    refine V_aload_n (q := 10) X (TB.get tb_X8_check 5 rfl) rfl rfl rfl ?_
    refine V_iconst (v := 1) (q := 11) X (TB.get tb_X8_check 6 rfl) c_iconst_1 rfl ?_
    obtain ⟨p2, ep2, e⟩ := bs e
    refine V_callV (q := 14) (As := [.int (1 : Int32)]) (rest := []) (st' := [.int p2.1]) X (TB.get tb_X8_check 7 rfl) rfl cv_RX8_80 (ok_X8_refuse a0 (1 : Int32) h p2 ep2).1 (ok_X8_refuse a0 (1 : Int32) h p2 ep2).2 (Nat.le_of_ble_eq_true rfl) rfl rfl (Nat.le_of_ble_eq_true rfl) rfl ?_
    cases e
    exact V_iret X hr hlk (TB.get tb_X8_check 8 rfl)
  refine V_if_lt (q := 4) (t := 9) X (TB.get tb_X8_check 1 rfl) rfl rfl (fun hc => ?_) (fun hc => ?_)
  · have e := (if_pos hc).symm.trans e
    refine V_sub (lv' := [(0, .ref a0)]) [0] rfl ?_
    exact Jj1 e
  · have e := (if_neg hc).symm.trans e
    refine V_iload_n (q := 5) X (TB.get tb_X8_check 2 rfl) rfl rfl rfl ?_
    refine V_iconst (v := 4) (q := 6) X (TB.get tb_X8_check 3 rfl) c_iconst_4 rfl ?_
    refine V_icmp_le (q := 9) (t := 15) X (TB.get tb_X8_check 4 rfl) rfl rfl (fun hc => ?_) (fun hc => ?_)
    · have e := (if_pos hc).symm.trans e
      refine V_aload_n (q := 16) X (TB.get tb_X8_check 9 rfl) rfl rfl rfl ?_
      obtain ⟨p3, ep3, e⟩ := bs e
      refine V_callV (q := 19) (As := []) (rest := []) (st' := [.ref p3.1]) X (TB.get tb_X8_check 10 rfl) rfl cv_RX8_203 (ok_X8_solvedFlow fu a0 h p3 ep3).1 (ok_X8_solvedFlow fu a0 h p3 ep3).2 (Nat.le_of_ble_eq_true rfl) rfl rfl (Nat.le_of_ble_eq_true rfl) rfl ?_
      refine V_astore_n (q := 20) (lv' := [(2, .ref p3.1), (0, .ref a0), (1, .int a1)]) X (TB.get tb_X8_check 11 rfl) rfl rfl (Nat.le_of_ble_eq_true rfl) rfl ?_
      refine V_aload_n (q := 21) X (TB.get tb_X8_check 12 rfl) rfl rfl rfl ?_
      obtain ⟨x4, ex4, e⟩ := bs e
      refine V_getI (q := 24) X (TB.get tb_X8_check 13 rfl) rfl lf_RX8_207 ex4 ?_
      refine jn_elim (P := (fun (k : Int32 → Option (Int32 × Hp)) => ∀ (w5 : Int32), k w5 = some res → V p l en (rmD 6) s m args below meth c 4 D tc B nn (Ar B nn) s.heap 0 0 (MQ below (QC D tc B nn (Ar B nn) (some (.int res.1)) res.2) args s 0 0 (Ar B nn)) p3.2 32 [(0, .ref a0), (1, .int a1), (2, .ref p3.1)] [.int w5])) e ?_ (fun j6 Jj6 e => ?_)
      · intro w5 e
        refine V_istore_n (q := 33) (lv' := [(3, .int w5), (0, .ref a0), (1, .int a1), (2, .ref p3.1)]) X (TB.get tb_X8_check 18 rfl) rfl rfl (Nat.le_of_ble_eq_true rfl) rfl ?_
        refine V_iload_n (q := 34) X (TB.get tb_X8_check 19 rfl) rfl rfl rfl ?_
        by_cases hc0 : a1 = (0 : Int32)
        · have e := (if_pos hc0).symm.trans e
          rw [hc0]
          refine V_tabIn (q := 64) X (TB.get tb_X8_check 20 rfl) (by decide) (by decide) rfl rfl ?_
          refine V_aload_n (q := 65) X (TB.get tb_X8_check 21 rfl) rfl rfl rfl ?_
          refine V_iload_n (q := 66) X (TB.get tb_X8_check 22 rfl) rfl rfl rfl ?_
          refine jn_elim (P := (fun (k : Int32 → Option (Int32 × Hp)) => ∀ (w7 : Int32), k w7 = some res → V p l en (rmD 6) s m args below meth c 4 D tc B nn (Ar B nn) s.heap 0 0 (MQ below (QC D tc B nn (Ar B nn) (some (.int res.1)) res.2) args s 0 0 (Ar B nn)) p3.2 74 [] [.int w7, .ref a0])) e ?_ (fun j8 Jj8 e => ?_)
          · intro w7 e
            obtain ⟨p9, ep9, e⟩ := bs e
            refine V_callV (q := 77) (As := [.int w7]) (rest := []) (st' := [.int p9.1]) X (TB.get tb_X8_check 27 rfl) rfl cv_RX8_100 (ok_X8_answer a0 w7 p3.2 p9 ep9).1 (ok_X8_answer a0 w7 p3.2 p9 ep9).2 (Nat.le_of_ble_eq_true rfl) rfl rfl (Nat.le_of_ble_eq_true rfl) rfl ?_
            cases e
            exact V_iret X hr hlk (TB.get tb_X8_check 28 rfl)
          refine V_if_eq (q := 69) (t := 73) X (TB.get tb_X8_check 23 rfl) rfl rfl (fun hc => ?_) (fun hc => ?_)
          · have e := (if_pos hc).symm.trans e
            refine V_iconst (v := 0) (q := 74) X (TB.get tb_X8_check 26 rfl) c_iconst_0 rfl ?_
            refine V_sub (lv' := []) [] rfl ?_
            exact Jj8 _ e
          · have e := (if_neg hc).symm.trans e
            refine V_iconst (v := 1) (q := 70) X (TB.get tb_X8_check 24 rfl) c_iconst_1 rfl ?_
            refine V_goto (q := 74) X (TB.get tb_X8_check 25 rfl) rfl ?_
            refine V_sub (lv' := []) [] rfl ?_
            exact Jj8 _ e
        have e := (if_neg hc0).symm.trans e
        by_cases hc1 : a1 = (1 : Int32)
        · have e := (if_pos hc1).symm.trans e
          rw [hc1]
          refine V_tabIn (q := 78) X (TB.get tb_X8_check 20 rfl) (by decide) (by decide) rfl rfl ?_
          refine V_iload_n (q := 79) X (TB.get tb_X8_check 29 rfl) rfl rfl rfl ?_
          refine V_if_eq (q := 82) (t := 90) X (TB.get tb_X8_check 30 rfl) rfl rfl (fun hc => ?_) (fun hc => ?_)
          · have e := (if_pos hc).symm.trans e
            refine V_aload_n (q := 91) X (TB.get tb_X8_check 35 rfl) rfl rfl rfl ?_
            refine V_aload_n (q := 92) X (TB.get tb_X8_check 36 rfl) rfl rfl rfl ?_
            obtain ⟨x10, ex10, e⟩ := bs e
            refine V_getI (q := 95) X (TB.get tb_X8_check 37 rfl) rfl lf_RX8_210 ex10 ?_
            obtain ⟨p11, ep11, e⟩ := bs e
            refine V_callV (q := 98) (As := [.int x10]) (rest := []) (st' := [.int p11.1]) X (TB.get tb_X8_check 38 rfl) rfl cv_RX8_100 (ok_X8_answer a0 x10 p3.2 p11 ep11).1 (ok_X8_answer a0 x10 p3.2 p11 ep11).2 (Nat.le_of_ble_eq_true rfl) rfl rfl (Nat.le_of_ble_eq_true rfl) rfl ?_
            cases e
            exact V_iret X hr hlk (TB.get tb_X8_check 39 rfl)
          · have e := (if_neg hc).symm.trans e
            refine V_aload_n (q := 83) X (TB.get tb_X8_check 31 rfl) rfl rfl rfl ?_
            refine V_iconst (v := 5) (q := 84) X (TB.get tb_X8_check 32 rfl) c_iconst_5 rfl ?_
            obtain ⟨p12, ep12, e⟩ := bs e
            refine V_callV (q := 87) (As := [.int (5 : Int32)]) (rest := []) (st' := [.int p12.1]) X (TB.get tb_X8_check 33 rfl) rfl cv_RX8_80 (ok_X8_refuse a0 (5 : Int32) p3.2 p12 ep12).1 (ok_X8_refuse a0 (5 : Int32) p3.2 p12 ep12).2 (Nat.le_of_ble_eq_true rfl) rfl rfl (Nat.le_of_ble_eq_true rfl) rfl ?_
            refine V_goto (q := 98) X (TB.get tb_X8_check 34 rfl) rfl ?_
            cases e
            exact V_iret X hr hlk (TB.get tb_X8_check 39 rfl)
        have e := (if_neg hc1).symm.trans e
        by_cases hc2 : a1 = (2 : Int32)
        · have e := (if_pos hc2).symm.trans e
          rw [hc2]
          refine V_tabIn (q := 99) X (TB.get tb_X8_check 20 rfl) (by decide) (by decide) rfl rfl ?_
          refine V_iload_n (q := 100) X (TB.get tb_X8_check 40 rfl) rfl rfl rfl ?_
          refine V_if_eq (q := 103) (t := 111) X (TB.get tb_X8_check 41 rfl) rfl rfl (fun hc => ?_) (fun hc => ?_)
          · have e := (if_pos hc).symm.trans e
            refine V_aload_n (q := 112) X (TB.get tb_X8_check 46 rfl) rfl rfl rfl ?_
            refine V_aload_n (q := 113) X (TB.get tb_X8_check 47 rfl) rfl rfl rfl ?_
            obtain ⟨x13, ex13, e⟩ := bs e
            refine V_callV (q := 116) (As := []) (rest := [.ref a0]) (st' := [.int x13, .ref a0]) X (TB.get tb_X8_check 48 rfl) rfl cv_RX8_213 (ok_X0_firstReason p3.1 p3.2 x13 ex13).1 (ok_X0_firstReason p3.1 p3.2 x13 ex13).2 (Nat.le_of_ble_eq_true rfl) rfl rfl (Nat.le_of_ble_eq_true rfl) rfl ?_
            obtain ⟨p14, ep14, e⟩ := bs e
            refine V_callV (q := 119) (As := [.int x13]) (rest := []) (st' := [.int p14.1]) X (TB.get tb_X8_check 49 rfl) rfl cv_RX8_100 (ok_X8_answer a0 x13 p3.2 p14 ep14).1 (ok_X8_answer a0 x13 p3.2 p14 ep14).2 (Nat.le_of_ble_eq_true rfl) rfl rfl (Nat.le_of_ble_eq_true rfl) rfl ?_
            cases e
            exact V_iret X hr hlk (TB.get tb_X8_check 50 rfl)
          · have e := (if_neg hc).symm.trans e
            refine V_aload_n (q := 104) X (TB.get tb_X8_check 42 rfl) rfl rfl rfl ?_
            refine V_iconst (v := 5) (q := 105) X (TB.get tb_X8_check 43 rfl) c_iconst_5 rfl ?_
            obtain ⟨p15, ep15, e⟩ := bs e
            refine V_callV (q := 108) (As := [.int (5 : Int32)]) (rest := []) (st' := [.int p15.1]) X (TB.get tb_X8_check 44 rfl) rfl cv_RX8_80 (ok_X8_refuse a0 (5 : Int32) p3.2 p15 ep15).1 (ok_X8_refuse a0 (5 : Int32) p3.2 p15 ep15).2 (Nat.le_of_ble_eq_true rfl) rfl rfl (Nat.le_of_ble_eq_true rfl) rfl ?_
            refine V_goto (q := 119) X (TB.get tb_X8_check 45 rfl) rfl ?_
            cases e
            exact V_iret X hr hlk (TB.get tb_X8_check 50 rfl)
        have e := (if_neg hc2).symm.trans e
        by_cases hc3 : a1 = (3 : Int32)
        · have e := (if_pos hc3).symm.trans e
          rw [hc3]
          refine V_tabIn (q := 120) X (TB.get tb_X8_check 20 rfl) (by decide) (by decide) rfl rfl ?_
          refine V_aload_n (q := 121) X (TB.get tb_X8_check 51 rfl) rfl rfl rfl ?_
          refine V_aload_n (q := 122) X (TB.get tb_X8_check 52 rfl) rfl rfl rfl ?_
          refine V_getI (q := 125) X (TB.get tb_X8_check 53 rfl) rfl lf_RX8_207 ex4 ?_
          obtain ⟨p16, ep16, e⟩ := bs e
          refine V_callV (q := 128) (As := [.int x4]) (rest := []) (st' := [.int p16.1]) X (TB.get tb_X8_check 54 rfl) rfl cv_RX8_100 (ok_X8_answer a0 x4 p3.2 p16 ep16).1 (ok_X8_answer a0 x4 p3.2 p16 ep16).2 (Nat.le_of_ble_eq_true rfl) rfl rfl (Nat.le_of_ble_eq_true rfl) rfl ?_
          cases e
          exact V_iret X hr hlk (TB.get tb_X8_check 55 rfl)
        have e := (if_neg hc3).symm.trans e
        have hout : a1.toInt < 0 ∨ 3 < a1.toInt := tab_out a1 (0) (3) [0, 1, 2, 3] (by decide +kernel) (fun v hv => by simp only [List.mem_cons, List.not_mem_nil, or_false] at hv; rcases hv with rfl | rfl | rfl | rfl <;> assumption)
        refine V_tabOut (q := 129) X (TB.get tb_X8_check 20 rfl) hout rfl ?_
        refine V_aload_n (q := 130) X (TB.get tb_X8_check 56 rfl) rfl rfl rfl ?_
        refine V_aload_n (q := 131) X (TB.get tb_X8_check 57 rfl) rfl rfl rfl ?_
        obtain ⟨x17, ex17, e⟩ := bs e
        refine V_getI (q := 134) X (TB.get tb_X8_check 58 rfl) rfl lf_RX8_217 ex17 ?_
        obtain ⟨p18, ep18, e⟩ := bs e
        refine V_callV (q := 137) (As := [.int x17]) (rest := []) (st' := [.int p18.1]) X (TB.get tb_X8_check 59 rfl) rfl cv_RX8_100 (ok_X8_answer a0 x17 p3.2 p18 ep18).1 (ok_X8_answer a0 x17 p3.2 p18 ep18).2 (Nat.le_of_ble_eq_true rfl) rfl rfl (Nat.le_of_ble_eq_true rfl) rfl ?_
        cases e
        exact V_iret X hr hlk (TB.get tb_X8_check 60 rfl)
      refine V_if_ne (q := 27) (t := 31) X (TB.get tb_X8_check 14 rfl) rfl rfl (fun hc => ?_) (fun hc => ?_)
      · have e := (if_neg hc).symm.trans e
        refine V_iconst (v := 0) (q := 32) X (TB.get tb_X8_check 17 rfl) c_iconst_0 rfl ?_
        refine V_sub (lv' := [(0, .ref a0), (1, .int a1), (2, .ref p3.1)]) [1, 2, 0] rfl ?_
        exact Jj6 _ e
      · have e := (if_pos hc).symm.trans e
        refine V_iconst (v := 1) (q := 28) X (TB.get tb_X8_check 15 rfl) c_iconst_1 rfl ?_
        refine V_goto (q := 32) X (TB.get tb_X8_check 16 rfl) rfl ?_
        refine V_sub (lv' := [(0, .ref a0), (1, .int a1), (2, .ref p3.1)]) [1, 2, 0] rfl ?_
        exact Jj6 _ e
    · have e := (if_neg hc).symm.trans e
      refine V_sub (lv' := [(0, .ref a0)]) [0] rfl ?_
      exact Jj1 e
set_option maxRecDepth 100000 in
set_option maxHeartbeats 4000000 in
theorem ok_X8_at (fu : Nat) (a0 : Nat) (a1 : Int32) (a2 : Int32) (a3 : Int32) (h : Hp) (res : Int32 × Hp) (e : MX8_at fu a0 a1 a2 a3 h = some res) : CK yX8_at cX8_at 5 (some .int) 6 [.ref a0, .int a1, .int a2, .int a3] h (some (.int res.1)) res.2 ∧ (h.1 a0).1 = 8 := by
  obtain ⟨hcl, e⟩ := h_g_inv e
  refine ⟨CK_of pn_RX8 cm_X8_at (Nat.le_of_ble_eq_true rfl) ?_, hcl⟩
  intro l D tc B nn p en s m args below meth c X hr hlk
  replace X : CX p (rmD 6) s m args c cX8_at 5 RX8 D tc 6 := X
  show V p l en (rmD 6) s m args below meth c 5 D tc B nn (Ar B nn) s.heap 0 0 (MQ below (QC D tc B nn (Ar B nn) (some (.int res.1)) res.2) args s 0 0 (Ar B nn)) h 0 [(0, .ref a0), (1, .int a1), (2, .int a2), (3, .int a3)] []
  refine V_iload_n (q := 1) X (TB.get tb_X8_at 0 rfl) rfl rfl rfl ?_
  refine jn_elim (P := (fun (k : Option (Int32 × Hp)) => k = some res → V p l en (rmD 6) s m args below meth c 5 D tc B nn (Ar B nn) s.heap 0 0 (MQ below (QC D tc B nn (Ar B nn) (some (.int res.1)) res.2) args s 0 0 (Ar B nn)) h 9 [(0, .ref a0)] [])) e ?_ (fun j1 Jj1 e => ?_)
  · intro e
    refine V_aload_n (q := 10) X (TB.get tb_X8_at 5 rfl) rfl rfl rfl ?_
    refine V_iconst (v := 1) (q := 11) X (TB.get tb_X8_at 6 rfl) c_iconst_1 rfl ?_
    obtain ⟨p2, ep2, e⟩ := bs e
    refine V_callV (q := 14) (As := [.int (1 : Int32)]) (rest := []) (st' := [.int p2.1]) X (TB.get tb_X8_at 7 rfl) rfl cv_RX8_80 (ok_X8_refuse a0 (1 : Int32) h p2 ep2).1 (ok_X8_refuse a0 (1 : Int32) h p2 ep2).2 (Nat.le_of_ble_eq_true rfl) rfl rfl (Nat.le_of_ble_eq_true rfl) rfl ?_
    cases e
    exact V_iret X hr hlk (TB.get tb_X8_at 8 rfl)
  refine V_if_lt (q := 4) (t := 9) X (TB.get tb_X8_at 1 rfl) rfl rfl (fun hc => ?_) (fun hc => ?_)
  · have e := (if_pos hc).symm.trans e
    refine V_sub (lv' := [(0, .ref a0)]) [0] rfl ?_
    exact Jj1 e
  · have e := (if_neg hc).symm.trans e
    refine V_iload_n (q := 5) X (TB.get tb_X8_at 2 rfl) rfl rfl rfl ?_
    refine V_iconst (v := 4) (q := 6) X (TB.get tb_X8_at 3 rfl) c_iconst_4 rfl ?_
    refine V_icmp_le (q := 9) (t := 15) X (TB.get tb_X8_at 4 rfl) rfl rfl (fun hc => ?_) (fun hc => ?_)
    · have e := (if_pos hc).symm.trans e
      refine V_aload_n (q := 16) X (TB.get tb_X8_at 9 rfl) rfl rfl rfl ?_
      obtain ⟨x3, ex3, e⟩ := bs e
      refine V_getR (q := 19) X (TB.get tb_X8_at 10 rfl) rfl lf_RX8_47 ex3 ?_
      refine V_iload_n (q := 20) X (TB.get tb_X8_at 11 rfl) rfl rfl rfl ?_
      obtain ⟨x4, ex4, e⟩ := bs e
      refine V_callV (q := 23) (As := [.int a1]) (rest := []) (st' := [.int x4]) X (TB.get tb_X8_at 12 rfl) rfl cv_RX8_220 (ok_X4_hasPlace x3 a1 h x4 ex4).1 (ok_X4_hasPlace x3 a1 h x4 ex4).2 (Nat.le_of_ble_eq_true rfl) rfl rfl (Nat.le_of_ble_eq_true rfl) rfl ?_
      refine jn_elim (P := (fun (k : Option (Int32 × Hp)) => k = some res → V p l en (rmD 6) s m args below meth c 5 D tc B nn (Ar B nn) s.heap 0 0 (MQ below (QC D tc B nn (Ar B nn) (some (.int res.1)) res.2) args s 0 0 (Ar B nn)) h 37 [(0, .ref a0)] [])) e ?_ (fun j5 Jj5 e => ?_)
      · intro e
        refine V_aload_n (q := 38) X (TB.get tb_X8_at 19 rfl) rfl rfl rfl ?_
        refine V_iconst (v := 2) (q := 39) X (TB.get tb_X8_at 20 rfl) c_iconst_2 rfl ?_
        obtain ⟨p6, ep6, e⟩ := bs e
        refine V_callV (q := 42) (As := [.int (2 : Int32)]) (rest := []) (st' := [.int p6.1]) X (TB.get tb_X8_at 21 rfl) rfl cv_RX8_80 (ok_X8_refuse a0 (2 : Int32) h p6 ep6).1 (ok_X8_refuse a0 (2 : Int32) h p6 ep6).2 (Nat.le_of_ble_eq_true rfl) rfl rfl (Nat.le_of_ble_eq_true rfl) rfl ?_
        cases e
        exact V_iret X hr hlk (TB.get tb_X8_at 22 rfl)
      refine V_if_eq (q := 26) (t := 37) X (TB.get tb_X8_at 13 rfl) rfl rfl (fun hc => ?_) (fun hc => ?_)
      · have e := (if_pos hc).symm.trans e
        refine V_sub (lv' := [(0, .ref a0)]) [0] rfl ?_
        exact Jj5 e
      · have e := (if_neg hc).symm.trans e
        refine V_aload_n (q := 27) X (TB.get tb_X8_at 14 rfl) rfl rfl rfl ?_
        refine V_getR (q := 30) X (TB.get tb_X8_at 15 rfl) rfl lf_RX8_47 ex3 ?_
        refine V_iload_n (q := 31) X (TB.get tb_X8_at 16 rfl) rfl rfl rfl ?_
        obtain ⟨x7, ex7, e⟩ := bs e
        refine V_callV (q := 34) (As := [.int a2]) (rest := []) (st' := [.int x7]) X (TB.get tb_X8_at 17 rfl) rfl cv_RX8_197 (ok_X4_hasVariable x3 a2 h x7 ex7).1 (ok_X4_hasVariable x3 a2 h x7 ex7).2 (Nat.le_of_ble_eq_true rfl) rfl rfl (Nat.le_of_ble_eq_true rfl) rfl ?_
        refine V_if_ne (q := 37) (t := 43) X (TB.get tb_X8_at 18 rfl) rfl rfl (fun hc => ?_) (fun hc => ?_)
        · have e := (if_neg hc).symm.trans e
          refine V_aload_n (q := 44) X (TB.get tb_X8_at 23 rfl) rfl rfl rfl ?_
          obtain ⟨p8, ep8, e⟩ := bs e
          refine V_callV (q := 47) (As := []) (rest := []) (st' := [.ref p8.1]) X (TB.get tb_X8_at 24 rfl) rfl cv_RX8_203 (ok_X8_solvedFlow fu a0 h p8 ep8).1 (ok_X8_solvedFlow fu a0 h p8 ep8).2 (Nat.le_of_ble_eq_true rfl) rfl rfl (Nat.le_of_ble_eq_true rfl) rfl ?_
          refine V_astore (q := 49) (lv' := [(4, .ref p8.1), (0, .ref a0), (1, .int a1), (2, .int a2), (3, .int a3)]) X (TB.get tb_X8_at 25 rfl) rfl (Nat.le_of_ble_eq_true rfl) rfl ?_
          refine V_aload (q := 51) X (TB.get tb_X8_at 26 rfl) rfl rfl ?_
          obtain ⟨x9, ex9, e⟩ := bs e
          refine V_getR (q := 54) X (TB.get tb_X8_at 27 rfl) rfl lf_RX8_223 ex9 ?_
          refine V_iload_n (q := 55) X (TB.get tb_X8_at 28 rfl) rfl rfl rfl ?_
          obtain ⟨x10, ex10, e⟩ := bs e
          refine V_baloadZ (q := 56) X (TB.get tb_X8_at 29 rfl) rfl ex10 ?_
          refine V_if_ne (q := 59) (t := 65) X (TB.get tb_X8_at 30 rfl) rfl rfl (fun hc => ?_) (fun hc => ?_)
          · have e := (if_neg hc).symm.trans e
            refine V_iload_n (q := 66) X (TB.get tb_X8_at 35 rfl) rfl rfl rfl ?_
            refine V_iconst (v := 4) (q := 67) X (TB.get tb_X8_at 36 rfl) c_iconst_4 rfl ?_
            refine V_icmp_ne (q := 70) (t := 82) X (TB.get tb_X8_at 37 rfl) rfl rfl (fun hc => ?_) (fun hc => ?_)
            · have e := (if_neg hc).symm.trans e
              refine V_aload_n (q := 83) X (TB.get tb_X8_at 45 rfl) rfl rfl rfl ?_
              refine V_aload (q := 85) X (TB.get tb_X8_at 46 rfl) rfl rfl ?_
              obtain ⟨x11, ex11, e⟩ := bs e
              refine V_getR (q := 88) X (TB.get tb_X8_at 47 rfl) rfl lf_RX8_230 ex11 ?_
              refine V_iload_n (q := 89) X (TB.get tb_X8_at 48 rfl) rfl rfl rfl ?_
              obtain ⟨x12, ex12, e⟩ := bs e
              refine V_aaload (q := 90) X (TB.get tb_X8_at 49 rfl) rfl ex12 ?_
              refine V_iload_n (q := 91) X (TB.get tb_X8_at 50 rfl) rfl rfl rfl ?_
              refine V_iload_n (q := 92) X (TB.get tb_X8_at 51 rfl) rfl rfl rfl ?_
              obtain ⟨x13, ex13, e⟩ := bs e
              refine V_callV (q := 95) (As := [.int a3, .int a2]) (rest := [.ref a0]) (st' := [.int x13, .ref a0]) X (TB.get tb_X8_at 52 rfl) rfl cv_RX8_234 (ok_X1_part x12 a3 a2 p8.2 x13 ex13).1 (ok_X1_part x12 a3 a2 p8.2 x13 ex13).2 (Nat.le_of_ble_eq_true rfl) rfl rfl (Nat.le_of_ble_eq_true rfl) rfl ?_
              obtain ⟨p14, ep14, e⟩ := bs e
              refine V_callV (q := 98) (As := [.int x13]) (rest := []) (st' := [.int p14.1]) X (TB.get tb_X8_at 53 rfl) rfl cv_RX8_100 (ok_X8_answer a0 x13 p8.2 p14 ep14).1 (ok_X8_answer a0 x13 p8.2 p14 ep14).2 (Nat.le_of_ble_eq_true rfl) rfl rfl (Nat.le_of_ble_eq_true rfl) rfl ?_
              cases e
              exact V_iret X hr hlk (TB.get tb_X8_at 54 rfl)
            · have e := (if_pos hc).symm.trans e
              refine V_aload_n (q := 71) X (TB.get tb_X8_at 38 rfl) rfl rfl rfl ?_
              refine V_aload (q := 73) X (TB.get tb_X8_at 39 rfl) rfl rfl ?_
              obtain ⟨x15, ex15, e⟩ := bs e
              refine V_getR (q := 76) X (TB.get tb_X8_at 40 rfl) rfl lf_RX8_227 ex15 ?_
              refine V_iload_n (q := 77) X (TB.get tb_X8_at 41 rfl) rfl rfl rfl ?_
              obtain ⟨x16, ex16, e⟩ := bs e
              refine V_iaload (q := 78) X (TB.get tb_X8_at 42 rfl) rfl ex16 ?_
              obtain ⟨p17, ep17, e⟩ := bs e
              refine V_callV (q := 81) (As := [.int x16]) (rest := []) (st' := [.int p17.1]) X (TB.get tb_X8_at 43 rfl) rfl cv_RX8_100 (ok_X8_answer a0 x16 p8.2 p17 ep17).1 (ok_X8_answer a0 x16 p8.2 p17 ep17).2 (Nat.le_of_ble_eq_true rfl) rfl rfl (Nat.le_of_ble_eq_true rfl) rfl ?_
              cases e
              exact V_iret X hr hlk (TB.get tb_X8_at 44 rfl)
          · have e := (if_pos hc).symm.trans e
            refine V_aload_n (q := 60) X (TB.get tb_X8_at 31 rfl) rfl rfl rfl ?_
            refine V_iconst (v := 5) (q := 61) X (TB.get tb_X8_at 32 rfl) c_iconst_5 rfl ?_
            obtain ⟨p18, ep18, e⟩ := bs e
            refine V_callV (q := 64) (As := [.int (5 : Int32)]) (rest := []) (st' := [.int p18.1]) X (TB.get tb_X8_at 33 rfl) rfl cv_RX8_80 (ok_X8_refuse a0 (5 : Int32) p8.2 p18 ep18).1 (ok_X8_refuse a0 (5 : Int32) p8.2 p18 ep18).2 (Nat.le_of_ble_eq_true rfl) rfl rfl (Nat.le_of_ble_eq_true rfl) rfl ?_
            cases e
            exact V_iret X hr hlk (TB.get tb_X8_at 34 rfl)
        · have e := (if_pos hc).symm.trans e
          refine V_sub (lv' := [(0, .ref a0)]) [0] rfl ?_
          exact Jj5 e
    · have e := (if_neg hc).symm.trans e
      refine V_sub (lv' := [(0, .ref a0)]) [0] rfl ?_
      exact Jj1 e
set_option maxRecDepth 100000 in
set_option maxHeartbeats 4000000 in
theorem ok_X8_triedWithout (fu : Nat) (a0 : Nat) (a1 : Int32) (h : Hp) (res : Int32 × Hp) (e : MX8_triedWithout fu a0 a1 h = some res) : CK yX8_triedWithout cX8_triedWithout 2 (some .int) 5 [.ref a0, .int a1] h (some (.int res.1)) res.2 ∧ (h.1 a0).1 = 8 := by
  obtain ⟨hcl, e⟩ := h_g_inv e
  refine ⟨CK_of pn_RX8 cm_X8_triedWithout (Nat.le_of_ble_eq_true rfl) ?_, hcl⟩
  intro l D tc B nn p en s m args below meth c X hr hlk
  replace X : CX p (rmD 5) s m args c cX8_triedWithout 2 RX8 D tc 5 := X
  show V p l en (rmD 5) s m args below meth c 2 D tc B nn (Ar B nn) s.heap 0 0 (MQ below (QC D tc B nn (Ar B nn) (some (.int res.1)) res.2) args s 0 0 (Ar B nn)) h 0 [(0, .ref a0), (1, .int a1)] []
  refine V_aload_n (q := 1) X (TB.get tb_X8_triedWithout 0 rfl) rfl rfl rfl ?_
  obtain ⟨x1, ex1, e⟩ := bs e
  refine V_getR (q := 4) X (TB.get tb_X8_triedWithout 1 rfl) rfl lf_RX8_40 ex1 ?_
  refine V_iload_n (q := 5) X (TB.get tb_X8_triedWithout 2 rfl) rfl rfl rfl ?_
  obtain ⟨x2, ex2, e⟩ := bs e
  refine V_iaload (q := 6) X (TB.get tb_X8_triedWithout 3 rfl) rfl ex2 ?_
  refine V_iconst (v := -1) (q := 7) X (TB.get tb_X8_triedWithout 4 rfl) c_iconst_m1 rfl ?_
  refine jn_elim (P := (fun (k : Hp → Option (Int32 × Hp)) => ∀ (h3 : Hp), k h3 = some res → V p l en (rmD 5) s m args below meth c 2 D tc B nn (Ar B nn) s.heap 0 0 (MQ below (QC D tc B nn (Ar B nn) (some (.int res.1)) res.2) args s 0 0 (Ar B nn)) h3 43 [(0, .ref a0), (1, .int a1)] [])) e ?_ (fun j4 Jj4 e => ?_)
  · intro h3 e
    refine V_aload_n (q := 44) X (TB.get tb_X8_triedWithout 23 rfl) rfl rfl rfl ?_
    obtain ⟨x5, ex5, e⟩ := bs e
    refine V_getR (q := 47) X (TB.get tb_X8_triedWithout 24 rfl) rfl lf_RX8_40 ex5 ?_
    refine V_iload_n (q := 48) X (TB.get tb_X8_triedWithout 25 rfl) rfl rfl rfl ?_
    obtain ⟨x6, ex6, e⟩ := bs e
    refine V_iaload (q := 49) X (TB.get tb_X8_triedWithout 26 rfl) rfl ex6 ?_
    cases e
    exact V_iret X hr hlk (TB.get tb_X8_triedWithout 27 rfl)
  refine V_icmp_ne (q := 10) (t := 43) X (TB.get tb_X8_triedWithout 5 rfl) rfl rfl (fun hc => ?_) (fun hc => ?_)
  · have e := (if_neg hc).symm.trans e
    exact Jj4 _ e
  · have e := (if_pos hc).symm.trans e
    refine V_aload_n (q := 11) X (TB.get tb_X8_triedWithout 6 rfl) rfl rfl rfl ?_
    obtain ⟨x7, ex7, e⟩ := bs e
    refine V_getR (q := 14) X (TB.get tb_X8_triedWithout 7 rfl) rfl lf_RX8_23 ex7 ?_
    refine V_aload_n (q := 15) X (TB.get tb_X8_triedWithout 8 rfl) rfl rfl rfl ?_
    obtain ⟨x8, ex8, e⟩ := bs e
    refine V_getR (q := 18) X (TB.get tb_X8_triedWithout 9 rfl) rfl lf_RX8_47 ex8 ?_
    refine V_iload_n (q := 19) X (TB.get tb_X8_triedWithout 10 rfl) rfl rfl rfl ?_
    obtain ⟨h9, eh9, e⟩ := bs e
    refine V_callV (q := 22) (As := [.ref x8, .int a1]) (rest := []) (st' := []) X (TB.get tb_X8_triedWithout 11 rfl) rfl cv_RX8_302 (ok_X0_solve fu x7 x8 a1 h h9 eh9).1 (ok_X0_solve fu x7 x8 a1 h h9 eh9).2 (Nat.le_of_ble_eq_true rfl) rfl rfl (Nat.le_of_ble_eq_true rfl) rfl ?_
    refine V_aload_n (q := 23) X (TB.get tb_X8_triedWithout 12 rfl) rfl rfl rfl ?_
    obtain ⟨x10, ex10, e⟩ := bs e
    refine V_getR (q := 26) X (TB.get tb_X8_triedWithout 13 rfl) rfl lf_RX8_40 ex10 ?_
    refine V_iload_n (q := 27) X (TB.get tb_X8_triedWithout 14 rfl) rfl rfl rfl ?_
    refine V_aload_n (q := 28) X (TB.get tb_X8_triedWithout 15 rfl) rfl rfl rfl ?_
    obtain ⟨x11, ex11, e⟩ := bs e
    refine V_getR (q := 31) X (TB.get tb_X8_triedWithout 16 rfl) rfl lf_RX8_23 ex11 ?_
    obtain ⟨x12, ex12, e⟩ := bs e
    refine V_getI (q := 34) X (TB.get tb_X8_triedWithout 17 rfl) rfl lf_RX8_207 ex12 ?_
    refine jn_elim (P := (fun (k : Int32 → Option (Int32 × Hp)) => ∀ (w13 : Int32), k w13 = some res → V p l en (rmD 5) s m args below meth c 2 D tc B nn (Ar B nn) s.heap 0 0 (MQ below (QC D tc B nn (Ar B nn) (some (.int res.1)) res.2) args s 0 0 (Ar B nn)) h9 42 [(0, .ref a0), (1, .int a1)] [.int w13, .int a1, .ref x10])) e ?_ (fun j14 Jj14 e => ?_)
    · intro w13 e
      obtain ⟨h15, eh15, e⟩ := bs e
      refine V_iastore (q := 43) X (TB.get tb_X8_triedWithout 22 rfl) rfl eh15 ?_
      exact Jj4 _ e
    refine V_if_ne (q := 37) (t := 41) X (TB.get tb_X8_triedWithout 18 rfl) rfl rfl (fun hc => ?_) (fun hc => ?_)
    · have e := (if_neg hc).symm.trans e
      refine V_iconst (v := 0) (q := 42) X (TB.get tb_X8_triedWithout 21 rfl) c_iconst_0 rfl ?_
      exact Jj14 _ e
    · have e := (if_pos hc).symm.trans e
      refine V_iconst (v := 1) (q := 38) X (TB.get tb_X8_triedWithout 19 rfl) c_iconst_1 rfl ?_
      refine V_goto (q := 42) X (TB.get tb_X8_triedWithout 20 rfl) rfl ?_
      exact Jj14 _ e
set_option maxRecDepth 100000 in
set_option maxHeartbeats 4000000 in
theorem ok_X8_without (fu : Nat) (a0 : Nat) (a1 : Int32) (h : Hp) (res : Int32 × Hp) (e : MX8_without fu a0 a1 h = some res) : CK yX8_without cX8_without 2 (some .int) 6 [.ref a0, .int a1] h (some (.int res.1)) res.2 ∧ (h.1 a0).1 = 8 := by
  obtain ⟨hcl, e⟩ := h_g_inv e
  refine ⟨CK_of pn_RX8 cm_X8_without (Nat.le_of_ble_eq_true rfl) ?_, hcl⟩
  intro l D tc B nn p en s m args below meth c X hr hlk
  replace X : CX p (rmD 6) s m args c cX8_without 2 RX8 D tc 6 := X
  show V p l en (rmD 6) s m args below meth c 2 D tc B nn (Ar B nn) s.heap 0 0 (MQ below (QC D tc B nn (Ar B nn) (some (.int res.1)) res.2) args s 0 0 (Ar B nn)) h 0 [(0, .ref a0), (1, .int a1)] []
  refine V_aload_n (q := 1) X (TB.get tb_X8_without 0 rfl) rfl rfl rfl ?_
  obtain ⟨x1, ex1, e⟩ := bs e
  refine V_getR (q := 4) X (TB.get tb_X8_without 1 rfl) rfl lf_RX8_47 ex1 ?_
  refine V_iload_n (q := 5) X (TB.get tb_X8_without 2 rfl) rfl rfl rfl ?_
  obtain ⟨x2, ex2, e⟩ := bs e
  refine V_callV (q := 8) (As := [.int a1]) (rest := []) (st' := [.int x2]) X (TB.get tb_X8_without 3 rfl) rfl cv_RX8_173 (ok_X4_hasStatement x1 a1 h x2 ex2).1 (ok_X4_hasStatement x1 a1 h x2 ex2).2 (Nat.le_of_ble_eq_true rfl) rfl rfl (Nat.le_of_ble_eq_true rfl) rfl ?_
  refine V_if_eq (q := 11) (t := 23) X (TB.get tb_X8_without 4 rfl) rfl rfl (fun hc => ?_) (fun hc => ?_)
  · have e := (if_pos hc).symm.trans e
    refine V_aload_n (q := 24) X (TB.get tb_X8_without 11 rfl) rfl rfl rfl ?_
    refine V_iconst (v := 2) (q := 25) X (TB.get tb_X8_without 12 rfl) c_iconst_2 rfl ?_
    obtain ⟨p3, ep3, e⟩ := bs e
    refine V_callV (q := 28) (As := [.int (2 : Int32)]) (rest := []) (st' := [.int p3.1]) X (TB.get tb_X8_without 13 rfl) rfl cv_RX8_80 (ok_X8_refuse a0 (2 : Int32) h p3 ep3).1 (ok_X8_refuse a0 (2 : Int32) h p3 ep3).2 (Nat.le_of_ble_eq_true rfl) rfl rfl (Nat.le_of_ble_eq_true rfl) rfl ?_
    cases e
    exact V_iret X hr hlk (TB.get tb_X8_without 14 rfl)
  · have e := (if_neg hc).symm.trans e
    refine V_aload_n (q := 12) X (TB.get tb_X8_without 5 rfl) rfl rfl rfl ?_
    refine V_aload_n (q := 13) X (TB.get tb_X8_without 6 rfl) rfl rfl rfl ?_
    refine V_iload_n (q := 14) X (TB.get tb_X8_without 7 rfl) rfl rfl rfl ?_
    obtain ⟨p4, ep4, e⟩ := bs e
    refine V_callV (q := 17) (As := [.int a1]) (rest := [.ref a0]) (st' := [.int p4.1, .ref a0]) X (TB.get tb_X8_without 8 rfl) rfl cv_RX8_239 (ok_X8_triedWithout fu a0 a1 h p4 ep4).1 (ok_X8_triedWithout fu a0 a1 h p4 ep4).2 (Nat.le_of_ble_eq_true rfl) rfl rfl (Nat.le_of_ble_eq_true rfl) rfl ?_
    obtain ⟨p5, ep5, e⟩ := bs e
    refine V_callV (q := 20) (As := [.int p4.1]) (rest := []) (st' := [.int p5.1]) X (TB.get tb_X8_without 9 rfl) rfl cv_RX8_100 (ok_X8_answer a0 p4.1 p4.2 p5 ep5).1 (ok_X8_answer a0 p4.1 p4.2 p5 ep5).2 (Nat.le_of_ble_eq_true rfl) rfl rfl (Nat.le_of_ble_eq_true rfl) rfl ?_
    refine V_goto (q := 28) X (TB.get tb_X8_without 10 rfl) rfl ?_
    cases e
    exact V_iret X hr hlk (TB.get tb_X8_without 14 rfl)
set_option maxRecDepth 100000 in
set_option maxHeartbeats 4000000 in
theorem ok_X8_mend (fu : Nat) (a0 : Nat) (h : Hp) (res : Int32 × Hp) (e : MX8_mend fu a0 h = some res) : CK yX8_mend cX8_mend 2 (some .int) 6 [.ref a0] h (some (.int res.1)) res.2 ∧ (h.1 a0).1 = 8 := by
  obtain ⟨hcl, e⟩ := h_g_inv e
  refine ⟨CK_of pn_RX8 cm_X8_mend (Nat.le_of_ble_eq_true rfl) ?_, hcl⟩
  intro l D tc B nn p en s m args below meth c X hr hlk
  replace X : CX p (rmD 6) s m args c cX8_mend 2 RX8 D tc 6 := X
  show V p l en (rmD 6) s m args below meth c 2 D tc B nn (Ar B nn) s.heap 0 0 (MQ below (QC D tc B nn (Ar B nn) (some (.int res.1)) res.2) args s 0 0 (Ar B nn)) h 0 [(0, .ref a0)] []
  refine V_aload_n (q := 1) X (TB.get tb_X8_mend 0 rfl) rfl rfl rfl ?_
  obtain ⟨p1, ep1, e⟩ := bs e
  refine V_callV (q := 4) (As := []) (rest := []) (st' := [.ref p1.1]) X (TB.get tb_X8_mend 1 rfl) rfl cv_RX8_203 (ok_X8_solvedFlow fu a0 h p1 ep1).1 (ok_X8_solvedFlow fu a0 h p1 ep1).2 (Nat.le_of_ble_eq_true rfl) rfl rfl (Nat.le_of_ble_eq_true rfl) rfl ?_
  obtain ⟨x2, ex2, e⟩ := bs e
  refine V_getI (q := 7) X (TB.get tb_X8_mend 2 rfl) rfl lf_RX8_207 ex2 ?_
  refine V_if_ne (q := 10) (t := 16) X (TB.get tb_X8_mend 3 rfl) rfl rfl (fun hc => ?_) (fun hc => ?_)
  · have e := (if_neg hc).symm.trans e
    refine V_iconst (v := 0) (q := 17) X (TB.get tb_X8_mend 8 rfl) c_iconst_0 rfl ?_
    refine V_istore_n (q := 18) (lv' := [(1, .int (0 : Int32)), (0, .ref a0)]) X (TB.get tb_X8_mend 9 rfl) rfl rfl (Nat.le_of_ble_eq_true rfl) rfl ?_
    refine jn_elim (P := (fun (k : Hp → Option (Int32 × Hp)) => ∀ (h3 : Hp), k h3 = some res → V p l en (rmD 6) s m args below meth c 2 D tc B nn (Ar B nn) s.heap 0 0 (MQ below (QC D tc B nn (Ar B nn) (some (.int res.1)) res.2) args s 0 0 (Ar B nn)) h3 50 [(0, .ref a0)] [])) e ?_ (fun j4 Jj4 e => ?_)
    · intro h3 e
      refine V_aload_n (q := 51) X (TB.get tb_X8_mend 26 rfl) rfl rfl rfl ?_
      refine V_iconst (v := 5) (q := 52) X (TB.get tb_X8_mend 27 rfl) c_iconst_5 rfl ?_
      obtain ⟨p5, ep5, e⟩ := bs e
      refine V_callV (q := 55) (As := [.int (5 : Int32)]) (rest := []) (st' := [.int p5.1]) X (TB.get tb_X8_mend 28 rfl) rfl cv_RX8_80 (ok_X8_refuse a0 (5 : Int32) h3 p5 ep5).1 (ok_X8_refuse a0 (5 : Int32) h3 p5 ep5).2 (Nat.le_of_ble_eq_true rfl) rfl rfl (Nat.le_of_ble_eq_true rfl) rfl ?_
      cases e
      exact V_iret X hr hlk (TB.get tb_X8_mend 29 rfl)
    refine jn_elim (P := (fun (k : Int32 → Hp → Option (Int32 × Hp)) => ∀ (v6 : Int32) (h7 : Hp), k v6 h7 = some res → V p l en (rmD 6) s m args below meth c 2 D tc B nn (Ar B nn) s.heap 0 0 (MQ below (QC D tc B nn (Ar B nn) (some (.int res.1)) res.2) args s 0 0 (Ar B nn)) h7 38 [(0, .ref a0), (1, .int v6)] [])) e ?_ (fun j8 Jj8 e => ?_)
    · intro v6 h7 e
      refine V_aload_n (q := 39) X (TB.get tb_X8_mend 20 rfl) rfl rfl rfl ?_
      refine V_iload_n (q := 40) X (TB.get tb_X8_mend 21 rfl) rfl rfl rfl ?_
      obtain ⟨p9, ep9, e⟩ := bs e
      refine V_callV (q := 43) (As := [.int v6]) (rest := []) (st' := [.int p9.1]) X (TB.get tb_X8_mend 22 rfl) rfl cv_RX8_100 (ok_X8_answer a0 v6 h7 p9 ep9).1 (ok_X8_answer a0 v6 h7 p9 ep9).2 (Nat.le_of_ble_eq_true rfl) rfl rfl (Nat.le_of_ble_eq_true rfl) rfl ?_
      cases e
      exact V_iret X hr hlk (TB.get tb_X8_mend 23 rfl)
    refine V_sub (lv' := [(0, .ref a0), (1, .int (0 : Int32))]) [1, 0] rfl ?_
    refine wh2_elim (P := fun v10 h11 => V p l en (rmD 6) s m args below meth c 2 D tc B nn (Ar B nn) s.heap 0 0 (MQ below (QC D tc B nn (Ar B nn) (some (.int res.1)) res.2) args s 0 0 (Ar B nn)) h11 18 [(0, .ref a0), (1, .int v10)] []) (f := fu) ?_ e
    intro self12 v10 h11 ihself12 e
    unfold MX8_mend_B18 at e
    refine V_iload_n (q := 19) X (TB.get tb_X8_mend 10 rfl) rfl rfl rfl ?_
    refine V_aload_n (q := 20) X (TB.get tb_X8_mend 11 rfl) rfl rfl rfl ?_
    obtain ⟨x13, ex13, e⟩ := bs e
    refine V_getR (q := 23) X (TB.get tb_X8_mend 12 rfl) rfl lf_RX8_47 ex13 ?_
    obtain ⟨x14, ex14, e⟩ := bs e
    refine V_getI (q := 26) X (TB.get tb_X8_mend 13 rfl) rfl lf_RX8_97 ex14 ?_
    refine V_icmp_ge (q := 29) (t := 50) X (TB.get tb_X8_mend 14 rfl) rfl rfl (fun hc => ?_) (fun hc => ?_)
    · have e := (if_pos hc).symm.trans e
      refine V_sub (lv' := [(0, .ref a0)]) [0] rfl ?_
      exact Jj4 _ e
    · have e := (if_neg hc).symm.trans e
      refine V_aload_n (q := 30) X (TB.get tb_X8_mend 15 rfl) rfl rfl rfl ?_
      refine V_iload_n (q := 31) X (TB.get tb_X8_mend 16 rfl) rfl rfl rfl ?_
      obtain ⟨p15, ep15, e⟩ := bs e
      refine V_callV (q := 34) (As := [.int v10]) (rest := []) (st' := [.int p15.1]) X (TB.get tb_X8_mend 17 rfl) rfl cv_RX8_239 (ok_X8_triedWithout fu a0 v10 h11 p15 ep15).1 (ok_X8_triedWithout fu a0 v10 h11 p15 ep15).2 (Nat.le_of_ble_eq_true rfl) rfl rfl (Nat.le_of_ble_eq_true rfl) rfl ?_
      refine V_iconst (v := 1) (q := 35) X (TB.get tb_X8_mend 18 rfl) c_iconst_1 rfl ?_
      refine V_icmp_ne (q := 38) (t := 44) X (TB.get tb_X8_mend 19 rfl) rfl rfl (fun hc => ?_) (fun hc => ?_)
      · have e := (if_neg hc).symm.trans e
        refine V_iinc (q := 47) (v := v10 + (1 : Int32)) (lv' := [(1, .int (v10 + (1 : Int32))), (0, .ref a0)]) X (TB.get tb_X8_mend 24 rfl) rfl rfl (by rw [c_iconst_1]) (Nat.le_of_ble_eq_true rfl) rfl ?_
        refine V_goto (q := 18) X (TB.get tb_X8_mend 25 rfl) rfl ?_
        refine V_sub (lv' := [(0, .ref a0), (1, .int (v10 + (1 : Int32)))]) [1, 0] rfl ?_
        exact ihself12 _ _ e
      · have e := (if_pos hc).symm.trans e
        exact Jj8 _ _ e
  · have e := (if_pos hc).symm.trans e
    refine V_aload_n (q := 11) X (TB.get tb_X8_mend 4 rfl) rfl rfl rfl ?_
    refine V_iconst (v := 5) (q := 12) X (TB.get tb_X8_mend 5 rfl) c_iconst_5 rfl ?_
    obtain ⟨p16, ep16, e⟩ := bs e
    refine V_callV (q := 15) (As := [.int (5 : Int32)]) (rest := []) (st' := [.int p16.1]) X (TB.get tb_X8_mend 6 rfl) rfl cv_RX8_80 (ok_X8_refuse a0 (5 : Int32) p1.2 p16 ep16).1 (ok_X8_refuse a0 (5 : Int32) p1.2 p16 ep16).2 (Nat.le_of_ble_eq_true rfl) rfl rfl (Nat.le_of_ble_eq_true rfl) rfl ?_
    cases e
    exact V_iret X hr hlk (TB.get tb_X8_mend 7 rfl)
set_option maxRecDepth 100000 in
set_option maxHeartbeats 4000000 in
theorem ok_X8_finishedSearch (fu : Nat) (a0 : Nat) (h : Hp) (res : Nat × Hp) (e : MX8_finishedSearch fu a0 h = some res) : CK yX8_finishedSearch cX8_finishedSearch 1 (some (.object "HoldChecker$Search")) 5 [.ref a0] h (some (.ref res.1)) res.2 ∧ (h.1 a0).1 = 8 := by
  obtain ⟨hcl, e⟩ := h_g_inv e
  refine ⟨CK_of pn_RX8 cm_X8_finishedSearch (Nat.le_of_ble_eq_true rfl) ?_, hcl⟩
  intro l D tc B nn p en s m args below meth c X hr hlk
  replace X : CX p (rmD 5) s m args c cX8_finishedSearch 1 RX8 D tc 5 := X
  show V p l en (rmD 5) s m args below meth c 1 D tc B nn (Ar B nn) s.heap 0 0 (MQ below (QC D tc B nn (Ar B nn) (some (.ref res.1)) res.2) args s 0 0 (Ar B nn)) h 0 [(0, .ref a0)] []
  refine V_aload_n (q := 1) X (TB.get tb_X8_finishedSearch 0 rfl) rfl rfl rfl ?_
  obtain ⟨x1, ex1, e⟩ := bs e
  refine V_getI (q := 4) X (TB.get tb_X8_finishedSearch 1 rfl) rfl lf_RX8_299 ex1 ?_
  refine jn_elim (P := (fun (k : Hp → Option (Nat × Hp)) => ∀ (h2 : Hp), k h2 = some res → V p l en (rmD 5) s m args below meth c 1 D tc B nn (Ar B nn) s.heap 0 0 (MQ below (QC D tc B nn (Ar B nn) (some (.ref res.1)) res.2) args s 0 0 (Ar B nn)) h2 23 [(0, .ref a0)] [])) e ?_ (fun j3 Jj3 e => ?_)
  · intro h2 e
    refine V_aload_n (q := 24) X (TB.get tb_X8_finishedSearch 11 rfl) rfl rfl rfl ?_
    obtain ⟨x4, ex4, e⟩ := bs e
    refine V_getR (q := 27) X (TB.get tb_X8_finishedSearch 12 rfl) rfl lf_RX8_29 ex4 ?_
    cases e
    exact V_aret X hr hlk (TB.get tb_X8_finishedSearch 13 rfl)
  refine V_if_ne (q := 7) (t := 23) X (TB.get tb_X8_finishedSearch 2 rfl) rfl rfl (fun hc => ?_) (fun hc => ?_)
  · have e := (if_neg hc).symm.trans e
    exact Jj3 _ e
  · have e := (if_pos hc).symm.trans e
    refine V_aload_n (q := 8) X (TB.get tb_X8_finishedSearch 3 rfl) rfl rfl rfl ?_
    obtain ⟨x5, ex5, e⟩ := bs e
    refine V_getR (q := 11) X (TB.get tb_X8_finishedSearch 4 rfl) rfl lf_RX8_29 ex5 ?_
    refine V_aload_n (q := 12) X (TB.get tb_X8_finishedSearch 5 rfl) rfl rfl rfl ?_
    obtain ⟨x6, ex6, e⟩ := bs e
    refine V_getR (q := 15) X (TB.get tb_X8_finishedSearch 6 rfl) rfl lf_RX8_47 ex6 ?_
    obtain ⟨h7, eh7, e⟩ := bs e
    refine V_callV (q := 18) (As := [.ref x6]) (rest := []) (st' := []) X (TB.get tb_X8_finishedSearch 7 rfl) rfl cv_RX8_305 (ok_X6_explore fu x5 x6 h h7 eh7).1 (ok_X6_explore fu x5 x6 h h7 eh7).2 (Nat.le_of_ble_eq_true rfl) rfl rfl (Nat.le_of_ble_eq_true rfl) rfl ?_
    refine V_aload_n (q := 19) X (TB.get tb_X8_finishedSearch 8 rfl) rfl rfl rfl ?_
    refine V_iconst (v := 1) (q := 20) X (TB.get tb_X8_finishedSearch 9 rfl) c_iconst_1 rfl ?_
    obtain ⟨h8, eh8, e⟩ := bs e
    refine V_putZ (q := 23) X (TB.get tb_X8_finishedSearch 10 rfl) rfl lq_RX8_299 eh8 ?_
    exact Jj3 _ e
