set_option maxRecDepth 100000 in
set_option maxHeartbeats 4000000 in
theorem ok_X1_setFrom (fu : Nat) (a0 : Nat) (a1 : Int64) (h : Hp) (res : Hp) (e : MX1_setFrom fu a0 a1 h = some res) : CK yX1_setFrom cX1_setFrom 6 none 2 [.ref a0, .long a1] h none res ∧ (h.1 a0).1 = 1 := by
  obtain ⟨hcl, e⟩ := h_g_inv e
  refine ⟨CK_of pn_RX1 cm_X1_setFrom (Nat.le_of_ble_eq_true rfl) ?_, hcl⟩
  intro l D tc B nn p en s m args below meth c X hr hlk
  replace X : CX p (rmD 2) s m args c cX1_setFrom 6 RX1 D tc 2 := X
  show V p l en (rmD 2) s m args below meth c 6 D tc B nn (Ar B nn) s.heap 0 0 (MQ below (QC D tc B nn (Ar B nn) none res) args s 0 0 (Ar B nn)) h 0 [(0, .ref a0), (1, .long a1)] []
  refine V_aload_n (q := 1) X (TB.get tb_X1_setFrom 0 rfl) rfl rfl rfl ?_
  obtain ⟨h1, eh1, e⟩ := bs e
  refine V_callV (q := 4) (As := []) (rest := []) (st' := []) X (TB.get tb_X1_setFrom 1 rfl) rfl cv_RX1_128 (ok_X1_begin fu a0 h h1 eh1).1 (ok_X1_begin fu a0 h h1 eh1).2 (Nat.le_of_ble_eq_true rfl) rfl rfl (Nat.le_of_ble_eq_true rfl) rfl ?_
  refine V_iconst (v := 0) (q := 5) X (TB.get tb_X1_setFrom 2 rfl) c_iconst_0 rfl ?_
  refine V_istore_n (q := 6) (lv' := [(3, .int (0 : Int32)), (0, .ref a0), (1, .long a1)]) X (TB.get tb_X1_setFrom 3 rfl) rfl rfl (Nat.le_of_ble_eq_true rfl) rfl ?_
  refine V_sub (lv' := [(0, .ref a0), (1, .long a1), (3, .int (0 : Int32))]) [1, 2, 0] rfl ?_
  refine wh2_elim (P := fun v2 h3 => V p l en (rmD 2) s m args below meth c 6 D tc B nn (Ar B nn) s.heap 0 0 (MQ below (QC D tc B nn (Ar B nn) none res) args s 0 0 (Ar B nn)) h3 6 [(0, .ref a0), (1, .long a1), (3, .int v2)] []) (f := fu) ?_ e
  intro self4 v2 h3 ihself4 e
  unfold MX1_setFrom_B6 at e
  refine V_iload_n (q := 7) X (TB.get tb_X1_setFrom 4 rfl) rfl rfl rfl ?_
  refine V_bipush (v := 6) (q := 9) X (TB.get tb_X1_setFrom 5 rfl) c_bipush_6 rfl ?_
  refine V_icmp_ge (q := 12) (t := 109) X (TB.get tb_X1_setFrom 6 rfl) rfl rfl (fun hc => ?_) (fun hc => ?_)
  · have e := (if_pos hc).symm.trans e
    cases e
    exact V_vret X hr hlk (TB.get tb_X1_setFrom 65 rfl)
  · have e := (if_neg hc).symm.trans e
    refine V_lload_n (q := 13) X (TB.get tb_X1_setFrom 7 rfl) rfl rfl rfl ?_
    refine V_iload_n (q := 14) X (TB.get tb_X1_setFrom 8 rfl) rfl rfl rfl ?_
    obtain ⟨x5, ex5, e⟩ := bs e
    refine V_callS (q := 17) (As := [.long a1, .int v2]) (rest := []) (st' := [.int x5]) X (TB.get tb_X1_setFrom 9 rfl) rfl cs_RX1_131 (ok_X1_keyPart a1 v2 h3 x5 ex5) (Nat.le_of_ble_eq_true rfl) rfl rfl (Nat.le_of_ble_eq_true rfl) rfl ?_
    refine V_istore (q := 19) (lv' := [(4, .int x5), (0, .ref a0), (1, .long a1), (3, .int v2)]) X (TB.get tb_X1_setFrom 10 rfl) rfl (Nat.le_of_ble_eq_true rfl) rfl ?_
    refine V_aload_n (q := 20) X (TB.get tb_X1_setFrom 11 rfl) rfl rfl rfl ?_
    obtain ⟨x6, ex6, e⟩ := bs e
    refine V_getR (q := 23) X (TB.get tb_X1_setFrom 12 rfl) rfl lf_RX1_11 ex6 ?_
    refine V_iconst (v := 0) (q := 24) X (TB.get tb_X1_setFrom 13 rfl) c_iconst_0 rfl ?_
    refine V_iload_n (q := 25) X (TB.get tb_X1_setFrom 14 rfl) rfl rfl rfl ?_
    refine V_iadd (q := 26) X (TB.get tb_X1_setFrom 15 rfl) rfl ?_
    refine V_iconst (v := 1) (q := 27) X (TB.get tb_X1_setFrom 16 rfl) c_iconst_1 rfl ?_
    refine V_iload (q := 29) X (TB.get tb_X1_setFrom 17 rfl) rfl rfl ?_
    refine V_bipush (v := 6) (q := 31) X (TB.get tb_X1_setFrom 18 rfl) c_bipush_6 rfl ?_
    refine V_ishr (q := 32) X (TB.get tb_X1_setFrom 19 rfl) rfl ?_
    refine V_ishl (q := 33) X (TB.get tb_X1_setFrom 20 rfl) rfl ?_
    obtain ⟨h7, eh7, e⟩ := bs e
    refine V_iastore (q := 34) X (TB.get tb_X1_setFrom 21 rfl) rfl eh7 ?_
    refine V_aload_n (q := 35) X (TB.get tb_X1_setFrom 22 rfl) rfl rfl rfl ?_
    obtain ⟨x8, ex8, e⟩ := bs e
    refine V_getR (q := 38) X (TB.get tb_X1_setFrom 23 rfl) rfl lf_RX1_11 ex8 ?_
    refine V_iconst (v := 0) (q := 39) X (TB.get tb_X1_setFrom 24 rfl) c_iconst_0 rfl ?_
    refine V_iload_n (q := 40) X (TB.get tb_X1_setFrom 25 rfl) rfl rfl rfl ?_
    refine V_iadd (q := 41) X (TB.get tb_X1_setFrom 26 rfl) rfl ?_
    obtain ⟨x9, ex9, e⟩ := bs e
    refine V_iaload (q := 42) X (TB.get tb_X1_setFrom 27 rfl) rfl ex9 ?_
    refine V_iconst (v := 1) (q := 43) X (TB.get tb_X1_setFrom 28 rfl) c_iconst_1 rfl ?_
    refine jn_elim (P := (fun (k : Hp → Option (Hp)) => ∀ (h10 : Hp), k h10 = some res → V p l en (rmD 2) s m args below meth c 6 D tc B nn (Ar B nn) s.heap 0 0 (MQ below (QC D tc B nn (Ar B nn) none res) args s 0 0 (Ar B nn)) h10 64 [(0, .ref a0), (1, .long a1), (3, .int v2), (4, .int x5)] [])) e ?_ (fun j11 Jj11 e => ?_)
    · intro h10 e
      refine V_iconst (v := 0) (q := 65) X (TB.get tb_X1_setFrom 43 rfl) c_iconst_0 rfl ?_
      refine V_istore (q := 67) (lv' := [(5, .int (0 : Int32)), (0, .ref a0), (1, .long a1), (3, .int v2), (4, .int x5)]) X (TB.get tb_X1_setFrom 44 rfl) rfl (Nat.le_of_ble_eq_true rfl) rfl ?_
      refine jn_elim (P := (fun (k : Hp → Option (Hp)) => ∀ (h12 : Hp), k h12 = some res → V p l en (rmD 2) s m args below meth c 6 D tc B nn (Ar B nn) s.heap 0 0 (MQ below (QC D tc B nn (Ar B nn) none res) args s 0 0 (Ar B nn)) h12 103 [(0, .ref a0), (1, .long a1), (3, .int v2)] [])) e ?_ (fun j13 Jj13 e => ?_)
      · intro h12 e
        refine V_iinc (q := 106) (v := v2 + (1 : Int32)) (lv' := [(3, .int (v2 + (1 : Int32))), (0, .ref a0), (1, .long a1)]) X (TB.get tb_X1_setFrom 63 rfl) rfl rfl (by rw [c_iconst_1]) (Nat.le_of_ble_eq_true rfl) rfl ?_
        refine V_goto (q := 6) X (TB.get tb_X1_setFrom 64 rfl) rfl ?_
        refine V_sub (lv' := [(0, .ref a0), (1, .long a1), (3, .int (v2 + (1 : Int32)))]) [1, 2, 0] rfl ?_
        exact ihself4 _ _ e
      refine V_sub (lv' := [(0, .ref a0), (1, .long a1), (3, .int v2), (4, .int x5), (5, .int (0 : Int32))]) [1, 2, 3, 4, 0] rfl ?_
      refine wh2_elim (P := fun v14 h15 => V p l en (rmD 2) s m args below meth c 6 D tc B nn (Ar B nn) s.heap 0 0 (MQ below (QC D tc B nn (Ar B nn) none res) args s 0 0 (Ar B nn)) h15 67 [(0, .ref a0), (1, .long a1), (3, .int v2), (4, .int x5), (5, .int v14)] []) (f := fu) ?_ e
      intro self16 v14 h15 ihself16 e
      unfold MX1_setFrom_B67 at e
      refine V_iload (q := 69) X (TB.get tb_X1_setFrom 45 rfl) rfl rfl ?_
      refine V_iload_n (q := 70) X (TB.get tb_X1_setFrom 46 rfl) rfl rfl rfl ?_
      refine V_icmp_ge (q := 73) (t := 103) X (TB.get tb_X1_setFrom 47 rfl) rfl rfl (fun hc => ?_) (fun hc => ?_)
      · have e := (if_pos hc).symm.trans e
        refine V_sub (lv' := [(0, .ref a0), (1, .long a1), (3, .int v2)]) [0, 1, 2] rfl ?_
        exact Jj13 _ e
      · have e := (if_neg hc).symm.trans e
        refine V_lload_n (q := 74) X (TB.get tb_X1_setFrom 48 rfl) rfl rfl rfl ?_
        refine V_iload (q := 76) X (TB.get tb_X1_setFrom 49 rfl) rfl rfl ?_
        obtain ⟨x17, ex17, e⟩ := bs e
        refine V_callS (q := 79) (As := [.long a1, .int v14]) (rest := []) (st' := [.int x17]) X (TB.get tb_X1_setFrom 50 rfl) rfl cs_RX1_131 (ok_X1_keyPart a1 v14 h15 x17 ex17) (Nat.le_of_ble_eq_true rfl) rfl rfl (Nat.le_of_ble_eq_true rfl) rfl ?_
        refine V_bipush (v := 7) (q := 81) X (TB.get tb_X1_setFrom 51 rfl) c_bipush_7 rfl ?_
        refine V_iand (q := 82) X (TB.get tb_X1_setFrom 52 rfl) rfl ?_
        refine V_iload (q := 84) X (TB.get tb_X1_setFrom 53 rfl) rfl rfl ?_
        refine V_bipush (v := 7) (q := 86) X (TB.get tb_X1_setFrom 54 rfl) c_bipush_7 rfl ?_
        refine V_iand (q := 87) X (TB.get tb_X1_setFrom 55 rfl) rfl ?_
        refine jn_elim (P := (fun (k : Hp → Option (Hp)) => ∀ (h18 : Hp), k h18 = some res → V p l en (rmD 2) s m args below meth c 6 D tc B nn (Ar B nn) s.heap 0 0 (MQ below (QC D tc B nn (Ar B nn) none res) args s 0 0 (Ar B nn)) h18 97 [(0, .ref a0), (1, .long a1), (3, .int v2), (4, .int x5), (5, .int v14)] [])) e ?_ (fun j19 Jj19 e => ?_)
        · intro h18 e
          refine V_iinc (q := 100) (v := v14 + (1 : Int32)) (lv' := [(5, .int (v14 + (1 : Int32))), (0, .ref a0), (1, .long a1), (3, .int v2), (4, .int x5)]) X (TB.get tb_X1_setFrom 61 rfl) rfl rfl (by rw [c_iconst_1]) (Nat.le_of_ble_eq_true rfl) rfl ?_
          refine V_goto (q := 67) X (TB.get tb_X1_setFrom 62 rfl) rfl ?_
          refine V_sub (lv' := [(0, .ref a0), (1, .long a1), (3, .int v2), (4, .int x5), (5, .int (v14 + (1 : Int32)))]) [1, 2, 3, 4, 0] rfl ?_
          exact ihself16 _ _ e
        refine V_icmp_ne (q := 90) (t := 97) X (TB.get tb_X1_setFrom 56 rfl) rfl rfl (fun hc => ?_) (fun hc => ?_)
        · have e := (if_neg hc).symm.trans e
          exact Jj19 _ e
        · have e := (if_pos hc).symm.trans e
          refine V_aload_n (q := 91) X (TB.get tb_X1_setFrom 57 rfl) rfl rfl rfl ?_
          refine V_iload_n (q := 92) X (TB.get tb_X1_setFrom 58 rfl) rfl rfl rfl ?_
          refine V_iload (q := 94) X (TB.get tb_X1_setFrom 59 rfl) rfl rfl ?_
          obtain ⟨h20, eh20, e⟩ := bs e
          refine V_callV (q := 97) (As := [.int v2, .int v14]) (rest := []) (st' := []) X (TB.get tb_X1_setFrom 60 rfl) rfl cv_RX1_108 (ok_X1_makeOne a0 v2 v14 h15 h20 eh20).1 (ok_X1_makeOne a0 v2 v14 h15 h20 eh20).2 (Nat.le_of_ble_eq_true rfl) rfl rfl (Nat.le_of_ble_eq_true rfl) rfl ?_
          exact Jj19 _ e
    refine V_icmp_eq (q := 46) (t := 64) X (TB.get tb_X1_setFrom 29 rfl) rfl rfl (fun hc => ?_) (fun hc => ?_)
    · have e := (if_pos hc).symm.trans e
      refine V_sub (lv' := [(0, .ref a0), (1, .long a1), (3, .int v2), (4, .int x5)]) [1, 2, 3, 0] rfl ?_
      exact Jj11 _ e
    · have e := (if_neg hc).symm.trans e
      refine V_aload_n (q := 47) X (TB.get tb_X1_setFrom 30 rfl) rfl rfl rfl ?_
      refine V_getR (q := 50) X (TB.get tb_X1_setFrom 31 rfl) rfl lf_RX1_11 ex8 ?_
      refine V_bipush (v := 6) (q := 52) X (TB.get tb_X1_setFrom 32 rfl) c_bipush_6 rfl ?_
      refine V_iload_n (q := 53) X (TB.get tb_X1_setFrom 33 rfl) rfl rfl rfl ?_
      refine V_iadd (q := 54) X (TB.get tb_X1_setFrom 34 rfl) rfl ?_
      refine V_iconst (v := 1) (q := 55) X (TB.get tb_X1_setFrom 35 rfl) c_iconst_1 rfl ?_
      refine V_iload (q := 57) X (TB.get tb_X1_setFrom 36 rfl) rfl rfl ?_
      refine V_iconst (v := 3) (q := 58) X (TB.get tb_X1_setFrom 37 rfl) c_iconst_3 rfl ?_
      refine V_ishr (q := 59) X (TB.get tb_X1_setFrom 38 rfl) rfl ?_
      refine V_bipush (v := 7) (q := 61) X (TB.get tb_X1_setFrom 39 rfl) c_bipush_7 rfl ?_
      refine V_iand (q := 62) X (TB.get tb_X1_setFrom 40 rfl) rfl ?_
      refine V_ishl (q := 63) X (TB.get tb_X1_setFrom 41 rfl) rfl ?_
      obtain ⟨h21, eh21, e⟩ := bs e
      refine V_iastore (q := 64) X (TB.get tb_X1_setFrom 42 rfl) rfl eh21 ?_
      refine V_sub (lv' := [(0, .ref a0), (1, .long a1), (3, .int v2), (4, .int x5)]) [1, 2, 3, 0] rfl ?_
      exact Jj11 _ e
set_option maxRecDepth 100000 in
set_option maxHeartbeats 4000000 in
theorem ok_X2_hasKind (a0 : Nat) (a1 : Int32) (h : Hp) (res : Int32) (e : MX2_hasKind a0 a1 h = some res) : CK yX2_hasKind cX2_hasKind 2 (some .boolean) 0 [.ref a0, .int a1] h (some (.int res)) h ∧ (h.1 a0).1 = 2 := by
  obtain ⟨hcl, e⟩ := h_g_inv e
  refine ⟨CK_of pn_RX2 cm_X2_hasKind (Nat.le_of_ble_eq_true rfl) ?_, hcl⟩
  intro l D tc B nn p en s m args below meth c X hr hlk
  replace X : CX p (rmD 0) s m args c cX2_hasKind 2 RX2 D tc 0 := X
  show V p l en (rmD 0) s m args below meth c 2 D tc B nn (Ar B nn) s.heap 0 0 (MQ below (QC D tc B nn (Ar B nn) (some (.int res)) h) args s 0 0 (Ar B nn)) h 0 [(0, .ref a0), (1, .int a1)] []
  refine V_iload_n (q := 1) X (TB.get tb_X2_hasKind 0 rfl) rfl rfl rfl ?_
  refine jn_elim (P := (fun (k : Option (Int32)) => k = some res → V p l en (rmD 0) s m args below meth c 2 D tc B nn (Ar B nn) s.heap 0 0 (MQ below (QC D tc B nn (Ar B nn) (some (.int res)) h) args s 0 0 (Ar B nn)) h 16 [] [])) e ?_ (fun j1 Jj1 e => ?_)
  · intro e
    refine V_iconst (v := 0) (q := 17) X (TB.get tb_X2_hasKind 8 rfl) c_iconst_0 rfl ?_
    cases e
    exact V_zret X hr hlk (Or.inl rfl) (TB.get tb_X2_hasKind 9 rfl)
  refine V_if_lt (q := 4) (t := 16) X (TB.get tb_X2_hasKind 1 rfl) rfl rfl (fun hc => ?_) (fun hc => ?_)
  · have e := (if_pos hc).symm.trans e
    refine V_sub (lv' := []) [] rfl ?_
    exact Jj1 e
  · have e := (if_neg hc).symm.trans e
    refine V_iload_n (q := 5) X (TB.get tb_X2_hasKind 2 rfl) rfl rfl rfl ?_
    refine V_aload_n (q := 6) X (TB.get tb_X2_hasKind 3 rfl) rfl rfl rfl ?_
    obtain ⟨x2, ex2, e⟩ := bs e
    refine V_getI (q := 9) X (TB.get tb_X2_hasKind 4 rfl) rfl lf_RX2_46 ex2 ?_
    refine V_icmp_ge (q := 12) (t := 16) X (TB.get tb_X2_hasKind 5 rfl) rfl rfl (fun hc => ?_) (fun hc => ?_)
    · have e := (if_pos hc).symm.trans e
      refine V_sub (lv' := []) [] rfl ?_
      exact Jj1 e
    · have e := (if_neg hc).symm.trans e
      refine V_iconst (v := 1) (q := 13) X (TB.get tb_X2_hasKind 6 rfl) c_iconst_1 rfl ?_
      refine V_goto (q := 17) X (TB.get tb_X2_hasKind 7 rfl) rfl ?_
      cases e
      exact V_zret X hr hlk (Or.inr rfl) (TB.get tb_X2_hasKind 9 rfl)
set_option maxRecDepth 100000 in
set_option maxHeartbeats 4000000 in
theorem ok_X2_hasState (a0 : Nat) (a1 : Int32) (a2 : Int32) (h : Hp) (res : Int32) (e : MX2_hasState a0 a1 a2 h = some res) : CK yX2_hasState cX2_hasState 3 (some .boolean) 1 [.ref a0, .int a1, .int a2] h (some (.int res)) h ∧ (h.1 a0).1 = 2 := by
  obtain ⟨hcl, e⟩ := h_g_inv e
  refine ⟨CK_of pn_RX2 cm_X2_hasState (Nat.le_of_ble_eq_true rfl) ?_, hcl⟩
  intro l D tc B nn p en s m args below meth c X hr hlk
  replace X : CX p (rmD 1) s m args c cX2_hasState 3 RX2 D tc 1 := X
  show V p l en (rmD 1) s m args below meth c 3 D tc B nn (Ar B nn) s.heap 0 0 (MQ below (QC D tc B nn (Ar B nn) (some (.int res)) h) args s 0 0 (Ar B nn)) h 0 [(0, .ref a0), (1, .int a1), (2, .int a2)] []
  refine V_aload_n (q := 1) X (TB.get tb_X2_hasState 0 rfl) rfl rfl rfl ?_
  refine V_iload_n (q := 2) X (TB.get tb_X2_hasState 1 rfl) rfl rfl rfl ?_
  obtain ⟨x1, ex1, e⟩ := bs e
  refine V_callV (q := 5) (As := [.int a1]) (rest := []) (st' := [.int x1]) X (TB.get tb_X2_hasState 2 rfl) rfl cv_RX2_50 (ok_X2_hasKind a0 a1 h x1 ex1).1 (ok_X2_hasKind a0 a1 h x1 ex1).2 (Nat.le_of_ble_eq_true rfl) rfl rfl (Nat.le_of_ble_eq_true rfl) rfl ?_
  refine jn_elim (P := (fun (k : Option (Int32)) => k = some res → V p l en (rmD 1) s m args below meth c 3 D tc B nn (Ar B nn) s.heap 0 0 (MQ below (QC D tc B nn (Ar B nn) (some (.int res)) h) args s 0 0 (Ar B nn)) h 26 [] [])) e ?_ (fun j2 Jj2 e => ?_)
  · intro e
    refine V_iconst (v := 0) (q := 27) X (TB.get tb_X2_hasState 14 rfl) c_iconst_0 rfl ?_
    cases e
    exact V_zret X hr hlk (Or.inl rfl) (TB.get tb_X2_hasState 15 rfl)
  refine V_if_eq (q := 8) (t := 26) X (TB.get tb_X2_hasState 3 rfl) rfl rfl (fun hc => ?_) (fun hc => ?_)
  · have e := (if_pos hc).symm.trans e
    refine V_sub (lv' := []) [] rfl ?_
    exact Jj2 e
  · have e := (if_neg hc).symm.trans e
    refine V_iload_n (q := 9) X (TB.get tb_X2_hasState 4 rfl) rfl rfl rfl ?_
    refine V_if_lt (q := 12) (t := 26) X (TB.get tb_X2_hasState 5 rfl) rfl rfl (fun hc => ?_) (fun hc => ?_)
    · have e := (if_pos hc).symm.trans e
      refine V_sub (lv' := []) [] rfl ?_
      exact Jj2 e
    · have e := (if_neg hc).symm.trans e
      refine V_iload_n (q := 13) X (TB.get tb_X2_hasState 6 rfl) rfl rfl rfl ?_
      refine V_aload_n (q := 14) X (TB.get tb_X2_hasState 7 rfl) rfl rfl rfl ?_
      obtain ⟨x3, ex3, e⟩ := bs e
      refine V_getR (q := 17) X (TB.get tb_X2_hasState 8 rfl) rfl lf_RX2_9 ex3 ?_
      refine V_iload_n (q := 18) X (TB.get tb_X2_hasState 9 rfl) rfl rfl rfl ?_
      obtain ⟨x4, ex4, e⟩ := bs e
      refine V_iaload (q := 19) X (TB.get tb_X2_hasState 10 rfl) rfl ex4 ?_
      refine V_icmp_ge (q := 22) (t := 26) X (TB.get tb_X2_hasState 11 rfl) rfl rfl (fun hc => ?_) (fun hc => ?_)
      · have e := (if_pos hc).symm.trans e
        refine V_sub (lv' := []) [] rfl ?_
        exact Jj2 e
      · have e := (if_neg hc).symm.trans e
        refine V_iconst (v := 1) (q := 23) X (TB.get tb_X2_hasState 12 rfl) c_iconst_1 rfl ?_
        refine V_goto (q := 27) X (TB.get tb_X2_hasState 13 rfl) rfl ?_
        cases e
        exact V_zret X hr hlk (Or.inr rfl) (TB.get tb_X2_hasState 15 rfl)
set_option maxRecDepth 100000 in
set_option maxHeartbeats 4000000 in
theorem ok_X2_hasMethod (a0 : Nat) (a1 : Int32) (a2 : Int32) (h : Hp) (res : Int32) (e : MX2_hasMethod a0 a1 a2 h = some res) : CK yX2_hasMethod cX2_hasMethod 3 (some .boolean) 1 [.ref a0, .int a1, .int a2] h (some (.int res)) h ∧ (h.1 a0).1 = 2 := by
  obtain ⟨hcl, e⟩ := h_g_inv e
  refine ⟨CK_of pn_RX2 cm_X2_hasMethod (Nat.le_of_ble_eq_true rfl) ?_, hcl⟩
  intro l D tc B nn p en s m args below meth c X hr hlk
  replace X : CX p (rmD 1) s m args c cX2_hasMethod 3 RX2 D tc 1 := X
  show V p l en (rmD 1) s m args below meth c 3 D tc B nn (Ar B nn) s.heap 0 0 (MQ below (QC D tc B nn (Ar B nn) (some (.int res)) h) args s 0 0 (Ar B nn)) h 0 [(0, .ref a0), (1, .int a1), (2, .int a2)] []
  refine V_aload_n (q := 1) X (TB.get tb_X2_hasMethod 0 rfl) rfl rfl rfl ?_
  refine V_iload_n (q := 2) X (TB.get tb_X2_hasMethod 1 rfl) rfl rfl rfl ?_
  obtain ⟨x1, ex1, e⟩ := bs e
  refine V_callV (q := 5) (As := [.int a1]) (rest := []) (st' := [.int x1]) X (TB.get tb_X2_hasMethod 2 rfl) rfl cv_RX2_50 (ok_X2_hasKind a0 a1 h x1 ex1).1 (ok_X2_hasKind a0 a1 h x1 ex1).2 (Nat.le_of_ble_eq_true rfl) rfl rfl (Nat.le_of_ble_eq_true rfl) rfl ?_
  refine jn_elim (P := (fun (k : Option (Int32)) => k = some res → V p l en (rmD 1) s m args below meth c 3 D tc B nn (Ar B nn) s.heap 0 0 (MQ below (QC D tc B nn (Ar B nn) (some (.int res)) h) args s 0 0 (Ar B nn)) h 26 [] [])) e ?_ (fun j2 Jj2 e => ?_)
  · intro e
    refine V_iconst (v := 0) (q := 27) X (TB.get tb_X2_hasMethod 14 rfl) c_iconst_0 rfl ?_
    cases e
    exact V_zret X hr hlk (Or.inl rfl) (TB.get tb_X2_hasMethod 15 rfl)
  refine V_if_eq (q := 8) (t := 26) X (TB.get tb_X2_hasMethod 3 rfl) rfl rfl (fun hc => ?_) (fun hc => ?_)
  · have e := (if_pos hc).symm.trans e
    refine V_sub (lv' := []) [] rfl ?_
    exact Jj2 e
  · have e := (if_neg hc).symm.trans e
    refine V_iload_n (q := 9) X (TB.get tb_X2_hasMethod 4 rfl) rfl rfl rfl ?_
    refine V_if_lt (q := 12) (t := 26) X (TB.get tb_X2_hasMethod 5 rfl) rfl rfl (fun hc => ?_) (fun hc => ?_)
    · have e := (if_pos hc).symm.trans e
      refine V_sub (lv' := []) [] rfl ?_
      exact Jj2 e
    · have e := (if_neg hc).symm.trans e
      refine V_iload_n (q := 13) X (TB.get tb_X2_hasMethod 6 rfl) rfl rfl rfl ?_
      refine V_aload_n (q := 14) X (TB.get tb_X2_hasMethod 7 rfl) rfl rfl rfl ?_
      obtain ⟨x3, ex3, e⟩ := bs e
      refine V_getR (q := 17) X (TB.get tb_X2_hasMethod 8 rfl) rfl lf_RX2_18 ex3 ?_
      refine V_iload_n (q := 18) X (TB.get tb_X2_hasMethod 9 rfl) rfl rfl rfl ?_
      obtain ⟨x4, ex4, e⟩ := bs e
      refine V_iaload (q := 19) X (TB.get tb_X2_hasMethod 10 rfl) rfl ex4 ?_
      refine V_icmp_ge (q := 22) (t := 26) X (TB.get tb_X2_hasMethod 11 rfl) rfl rfl (fun hc => ?_) (fun hc => ?_)
      · have e := (if_pos hc).symm.trans e
        refine V_sub (lv' := []) [] rfl ?_
        exact Jj2 e
      · have e := (if_neg hc).symm.trans e
        refine V_iconst (v := 1) (q := 23) X (TB.get tb_X2_hasMethod 12 rfl) c_iconst_1 rfl ?_
        refine V_goto (q := 27) X (TB.get tb_X2_hasMethod 13 rfl) rfl ?_
        cases e
        exact V_zret X hr hlk (Or.inr rfl) (TB.get tb_X2_hasMethod 15 rfl)
set_option maxRecDepth 100000 in
set_option maxHeartbeats 4000000 in
theorem ok_X2_addKind (a0 : Nat) (h : Hp) (res : Int32 × Hp) (e : MX2_addKind a0 h = some res) : CK yX2_addKind cX2_addKind 2 (some .int) 0 [.ref a0] h (some (.int res.1)) res.2 ∧ (h.1 a0).1 = 2 := by
  obtain ⟨hcl, e⟩ := h_g_inv e
  refine ⟨CK_of pn_RX2 cm_X2_addKind (Nat.le_of_ble_eq_true rfl) ?_, hcl⟩
  intro l D tc B nn p en s m args below meth c X hr hlk
  replace X : CX p (rmD 0) s m args c cX2_addKind 2 RX2 D tc 0 := X
  show V p l en (rmD 0) s m args below meth c 2 D tc B nn (Ar B nn) s.heap 0 0 (MQ below (QC D tc B nn (Ar B nn) (some (.int res.1)) res.2) args s 0 0 (Ar B nn)) h 0 [(0, .ref a0)] []
  refine V_aload_n (q := 1) X (TB.get tb_X2_addKind 0 rfl) rfl rfl rfl ?_
  obtain ⟨x1, ex1, e⟩ := bs e
  refine V_getI (q := 4) X (TB.get tb_X2_addKind 1 rfl) rfl lf_RX2_46 ex1 ?_
  refine V_istore_n (q := 5) (lv' := [(1, .int x1), (0, .ref a0)]) X (TB.get tb_X2_addKind 2 rfl) rfl rfl (Nat.le_of_ble_eq_true rfl) rfl ?_
  refine V_aload_n (q := 6) X (TB.get tb_X2_addKind 3 rfl) rfl rfl rfl ?_
  obtain ⟨x2, ex2, e⟩ := bs e
  refine V_getR (q := 9) X (TB.get tb_X2_addKind 4 rfl) rfl lf_RX2_9 ex2 ?_
  refine V_iload_n (q := 10) X (TB.get tb_X2_addKind 5 rfl) rfl rfl rfl ?_
  refine V_iconst (v := 0) (q := 11) X (TB.get tb_X2_addKind 6 rfl) c_iconst_0 rfl ?_
  obtain ⟨h3, eh3, e⟩ := bs e
  refine V_iastore (q := 12) X (TB.get tb_X2_addKind 7 rfl) rfl eh3 ?_
  refine V_aload_n (q := 13) X (TB.get tb_X2_addKind 8 rfl) rfl rfl rfl ?_
  obtain ⟨x4, ex4, e⟩ := bs e
  refine V_getR (q := 16) X (TB.get tb_X2_addKind 9 rfl) rfl lf_RX2_15 ex4 ?_
  refine V_iload_n (q := 17) X (TB.get tb_X2_addKind 10 rfl) rfl rfl rfl ?_
  refine V_iconst (v := 0) (q := 18) X (TB.get tb_X2_addKind 11 rfl) c_iconst_0 rfl ?_
  obtain ⟨h5, eh5, e⟩ := bs e
  refine V_iastore (q := 19) X (TB.get tb_X2_addKind 12 rfl) rfl eh5 ?_
  refine V_aload_n (q := 20) X (TB.get tb_X2_addKind 13 rfl) rfl rfl rfl ?_
  obtain ⟨x6, ex6, e⟩ := bs e
  refine V_getR (q := 23) X (TB.get tb_X2_addKind 14 rfl) rfl lf_RX2_18 ex6 ?_
  refine V_iload_n (q := 24) X (TB.get tb_X2_addKind 15 rfl) rfl rfl rfl ?_
  refine V_iconst (v := 0) (q := 25) X (TB.get tb_X2_addKind 16 rfl) c_iconst_0 rfl ?_
  obtain ⟨h7, eh7, e⟩ := bs e
  refine V_iastore (q := 26) X (TB.get tb_X2_addKind 17 rfl) rfl eh7 ?_
  refine V_aload_n (q := 27) X (TB.get tb_X2_addKind 18 rfl) rfl rfl rfl ?_
  refine V_dup (q := 28) X (TB.get tb_X2_addKind 19 rfl) rfl rfl ?_
  obtain ⟨x8, ex8, e⟩ := bs e
  refine V_getI (q := 31) X (TB.get tb_X2_addKind 20 rfl) rfl lf_RX2_46 ex8 ?_
  refine V_iconst (v := 1) (q := 32) X (TB.get tb_X2_addKind 21 rfl) c_iconst_1 rfl ?_
  refine V_iadd (q := 33) X (TB.get tb_X2_addKind 22 rfl) rfl ?_
  obtain ⟨h9, eh9, e⟩ := bs e
  refine V_putI (q := 36) X (TB.get tb_X2_addKind 23 rfl) rfl lq_RX2_46 eh9 ?_
  refine V_iload_n (q := 37) X (TB.get tb_X2_addKind 24 rfl) rfl rfl rfl ?_
  cases e
  exact V_iret X hr hlk (TB.get tb_X2_addKind 25 rfl)
set_option maxRecDepth 100000 in
set_option maxHeartbeats 4000000 in
theorem ok_X2_addMethod (a0 : Nat) (a1 : Int32) (a2 : Int32) (h : Hp) (res : Int32 × Hp) (e : MX2_addMethod a0 a1 a2 h = some res) : CK yX2_addMethod cX2_addMethod 4 (some .int) 0 [.ref a0, .int a1, .int a2] h (some (.int res.1)) res.2 ∧ (h.1 a0).1 = 2 := by
  obtain ⟨hcl, e⟩ := h_g_inv e
  refine ⟨CK_of pn_RX2 cm_X2_addMethod (Nat.le_of_ble_eq_true rfl) ?_, hcl⟩
  intro l D tc B nn p en s m args below meth c X hr hlk
  replace X : CX p (rmD 0) s m args c cX2_addMethod 4 RX2 D tc 0 := X
  show V p l en (rmD 0) s m args below meth c 4 D tc B nn (Ar B nn) s.heap 0 0 (MQ below (QC D tc B nn (Ar B nn) (some (.int res.1)) res.2) args s 0 0 (Ar B nn)) h 0 [(0, .ref a0), (1, .int a1), (2, .int a2)] []
  refine V_aload_n (q := 1) X (TB.get tb_X2_addMethod 0 rfl) rfl rfl rfl ?_
  obtain ⟨x1, ex1, e⟩ := bs e
  refine V_getR (q := 4) X (TB.get tb_X2_addMethod 1 rfl) rfl lf_RX2_18 ex1 ?_
  refine V_iload_n (q := 5) X (TB.get tb_X2_addMethod 2 rfl) rfl rfl rfl ?_
  obtain ⟨x2, ex2, e⟩ := bs e
  refine V_iaload (q := 6) X (TB.get tb_X2_addMethod 3 rfl) rfl ex2 ?_
  refine V_istore_n (q := 7) (lv' := [(3, .int x2), (0, .ref a0), (1, .int a1), (2, .int a2)]) X (TB.get tb_X2_addMethod 4 rfl) rfl rfl (Nat.le_of_ble_eq_true rfl) rfl ?_
  refine V_aload_n (q := 8) X (TB.get tb_X2_addMethod 5 rfl) rfl rfl rfl ?_
  obtain ⟨x3, ex3, e⟩ := bs e
  refine V_getR (q := 11) X (TB.get tb_X2_addMethod 6 rfl) rfl lf_RX2_21 ex3 ?_
  refine V_iload_n (q := 12) X (TB.get tb_X2_addMethod 7 rfl) rfl rfl rfl ?_
  refine V_bipush (v := 6) (q := 14) X (TB.get tb_X2_addMethod 8 rfl) c_bipush_6 rfl ?_
  refine V_imul (q := 15) X (TB.get tb_X2_addMethod 9 rfl) rfl ?_
  refine V_iload_n (q := 16) X (TB.get tb_X2_addMethod 10 rfl) rfl rfl rfl ?_
  refine V_iadd (q := 17) X (TB.get tb_X2_addMethod 11 rfl) rfl ?_
  refine V_iload_n (q := 18) X (TB.get tb_X2_addMethod 12 rfl) rfl rfl rfl ?_
  obtain ⟨h4, eh4, e⟩ := bs e
  refine V_iastore (q := 19) X (TB.get tb_X2_addMethod 13 rfl) rfl eh4 ?_
  refine V_aload_n (q := 20) X (TB.get tb_X2_addMethod 14 rfl) rfl rfl rfl ?_
  obtain ⟨x5, ex5, e⟩ := bs e
  refine V_getR (q := 23) X (TB.get tb_X2_addMethod 15 rfl) rfl lf_RX2_24 ex5 ?_
  refine V_iload_n (q := 24) X (TB.get tb_X2_addMethod 16 rfl) rfl rfl rfl ?_
  refine V_bipush (v := 6) (q := 26) X (TB.get tb_X2_addMethod 17 rfl) c_bipush_6 rfl ?_
  refine V_imul (q := 27) X (TB.get tb_X2_addMethod 18 rfl) rfl ?_
  refine V_iload_n (q := 28) X (TB.get tb_X2_addMethod 19 rfl) rfl rfl rfl ?_
  refine V_iadd (q := 29) X (TB.get tb_X2_addMethod 20 rfl) rfl ?_
  refine V_iconst (v := 0) (q := 30) X (TB.get tb_X2_addMethod 21 rfl) c_iconst_0 rfl ?_
  obtain ⟨h6, eh6, e⟩ := bs e
  refine V_iastore (q := 31) X (TB.get tb_X2_addMethod 22 rfl) rfl eh6 ?_
  refine V_aload_n (q := 32) X (TB.get tb_X2_addMethod 23 rfl) rfl rfl rfl ?_
  obtain ⟨x7, ex7, e⟩ := bs e
  refine V_getR (q := 35) X (TB.get tb_X2_addMethod 24 rfl) rfl lf_RX2_18 ex7 ?_
  refine V_iload_n (q := 36) X (TB.get tb_X2_addMethod 25 rfl) rfl rfl rfl ?_
  refine V_dup2 (q := 37) X (TB.get tb_X2_addMethod 26 rfl) rfl rfl rfl ?_
  obtain ⟨x8, ex8, e⟩ := bs e
  refine V_iaload (q := 38) X (TB.get tb_X2_addMethod 27 rfl) rfl ex8 ?_
  refine V_iconst (v := 1) (q := 39) X (TB.get tb_X2_addMethod 28 rfl) c_iconst_1 rfl ?_
  refine V_iadd (q := 40) X (TB.get tb_X2_addMethod 29 rfl) rfl ?_
  obtain ⟨h9, eh9, e⟩ := bs e
  refine V_iastore (q := 41) X (TB.get tb_X2_addMethod 30 rfl) rfl eh9 ?_
  refine V_iload_n (q := 42) X (TB.get tb_X2_addMethod 31 rfl) rfl rfl rfl ?_
  cases e
  exact V_iret X hr hlk (TB.get tb_X2_addMethod 32 rfl)
set_option maxRecDepth 100000 in
set_option maxHeartbeats 4000000 in
theorem ok_X2_canBe (a0 : Nat) (a1 : Int32) (a2 : Int32) (a3 : Int32) (h : Hp) (res : Int32) (e : MX2_canBe a0 a1 a2 a3 h = some res) : CK yX2_canBe cX2_canBe 4 (some .boolean) 0 [.ref a0, .int a1, .int a2, .int a3] h (some (.int res)) h ∧ (h.1 a0).1 = 2 := by
  obtain ⟨hcl, e⟩ := h_g_inv e
  refine ⟨CK_of pn_RX2 cm_X2_canBe (Nat.le_of_ble_eq_true rfl) ?_, hcl⟩
  intro l D tc B nn p en s m args below meth c X hr hlk
  replace X : CX p (rmD 0) s m args c cX2_canBe 4 RX2 D tc 0 := X
  show V p l en (rmD 0) s m args below meth c 4 D tc B nn (Ar B nn) s.heap 0 0 (MQ below (QC D tc B nn (Ar B nn) (some (.int res)) h) args s 0 0 (Ar B nn)) h 0 [(0, .ref a0), (1, .int a1), (2, .int a2), (3, .int a3)] []
  refine V_aload_n (q := 1) X (TB.get tb_X2_canBe 0 rfl) rfl rfl rfl ?_
  obtain ⟨x1, ex1, e⟩ := bs e
  refine V_getR (q := 4) X (TB.get tb_X2_canBe 1 rfl) rfl lf_RX2_24 ex1 ?_
  refine V_iload_n (q := 5) X (TB.get tb_X2_canBe 2 rfl) rfl rfl rfl ?_
  refine V_bipush (v := 6) (q := 7) X (TB.get tb_X2_canBe 3 rfl) c_bipush_6 rfl ?_
  refine V_imul (q := 8) X (TB.get tb_X2_canBe 4 rfl) rfl ?_
  refine V_iload_n (q := 9) X (TB.get tb_X2_canBe 5 rfl) rfl rfl rfl ?_
  refine V_iadd (q := 10) X (TB.get tb_X2_canBe 6 rfl) rfl ?_
  obtain ⟨x2, ex2, e⟩ := bs e
  refine V_iaload (q := 11) X (TB.get tb_X2_canBe 7 rfl) rfl ex2 ?_
  refine V_iload_n (q := 12) X (TB.get tb_X2_canBe 8 rfl) rfl rfl rfl ?_
  refine V_ishr (q := 13) X (TB.get tb_X2_canBe 9 rfl) rfl ?_
  refine V_iconst (v := 1) (q := 14) X (TB.get tb_X2_canBe 10 rfl) c_iconst_1 rfl ?_
  refine V_iand (q := 15) X (TB.get tb_X2_canBe 11 rfl) rfl ?_
  refine V_if_eq (q := 18) (t := 22) X (TB.get tb_X2_canBe 12 rfl) rfl rfl (fun hc => ?_) (fun hc => ?_)
  · have e := (if_pos hc).symm.trans e
    refine V_iconst (v := 0) (q := 23) X (TB.get tb_X2_canBe 15 rfl) c_iconst_0 rfl ?_
    cases e
    exact V_zret X hr hlk (Or.inl rfl) (TB.get tb_X2_canBe 16 rfl)
  · have e := (if_neg hc).symm.trans e
    refine V_iconst (v := 1) (q := 19) X (TB.get tb_X2_canBe 13 rfl) c_iconst_1 rfl ?_
    refine V_goto (q := 23) X (TB.get tb_X2_canBe 14 rfl) rfl ?_
    cases e
    exact V_zret X hr hlk (Or.inr rfl) (TB.get tb_X2_canBe 16 rfl)
set_option maxRecDepth 100000 in
set_option maxHeartbeats 4000000 in
theorem ok_X2_following (a0 : Nat) (a1 : Int32) (a2 : Int32) (a3 : Int32) (a4 : Int32) (h : Hp) (res : Int32) (e : MX2_following a0 a1 a2 a3 a4 h = some res) : CK yX2_following cX2_following 6 (some .int) 1 [.ref a0, .int a1, .int a2, .int a3, .int a4] h (some (.int res)) h ∧ (h.1 a0).1 = 2 := by
  obtain ⟨hcl, e⟩ := h_g_inv e
  refine ⟨CK_of pn_RX2 cm_X2_following (Nat.le_of_ble_eq_true rfl) ?_, hcl⟩
  intro l D tc B nn p en s m args below meth c X hr hlk
  replace X : CX p (rmD 1) s m args c cX2_following 6 RX2 D tc 1 := X
  show V p l en (rmD 1) s m args below meth c 6 D tc B nn (Ar B nn) s.heap 0 0 (MQ below (QC D tc B nn (Ar B nn) (some (.int res)) h) args s 0 0 (Ar B nn)) h 0 [(0, .ref a0), (1, .int a1), (2, .int a2), (3, .int a3), (4, .int a4)] []
  refine V_aload_n (q := 1) X (TB.get tb_X2_following 0 rfl) rfl rfl rfl ?_
  refine V_iload_n (q := 2) X (TB.get tb_X2_following 1 rfl) rfl rfl rfl ?_
  refine V_iload_n (q := 3) X (TB.get tb_X2_following 2 rfl) rfl rfl rfl ?_
  refine V_iload_n (q := 4) X (TB.get tb_X2_following 3 rfl) rfl rfl rfl ?_
  obtain ⟨x1, ex1, e⟩ := bs e
  refine V_callV (q := 7) (As := [.int a1, .int a2, .int a3]) (rest := []) (st' := [.int x1]) X (TB.get tb_X2_following 4 rfl) rfl cv_RX2_54 (ok_X2_canBe a0 a1 a2 a3 h x1 ex1).1 (ok_X2_canBe a0 a1 a2 a3 h x1 ex1).2 (Nat.le_of_ble_eq_true rfl) rfl rfl (Nat.le_of_ble_eq_true rfl) rfl ?_
  refine V_if_ne (q := 10) (t := 12) X (TB.get tb_X2_following 5 rfl) rfl rfl (fun hc => ?_) (fun hc => ?_)
  · have e := (if_neg hc).symm.trans e
    refine V_iload_n (q := 13) X (TB.get tb_X2_following 8 rfl) rfl rfl rfl ?_
    refine V_bipush (v := 6) (q := 15) X (TB.get tb_X2_following 9 rfl) c_bipush_6 rfl ?_
    refine V_imul (q := 16) X (TB.get tb_X2_following 10 rfl) rfl ?_
    refine V_iload_n (q := 17) X (TB.get tb_X2_following 11 rfl) rfl rfl rfl ?_
    refine V_iadd (q := 18) X (TB.get tb_X2_following 12 rfl) rfl ?_
    refine V_bipush (v := 6) (q := 20) X (TB.get tb_X2_following 13 rfl) c_bipush_6 rfl ?_
    refine V_imul (q := 21) X (TB.get tb_X2_following 14 rfl) rfl ?_
    refine V_iload_n (q := 22) X (TB.get tb_X2_following 15 rfl) rfl rfl rfl ?_
    refine V_iadd (q := 23) X (TB.get tb_X2_following 16 rfl) rfl ?_
    refine V_istore (q := 25) (lv' := [(5, .int ((((a1 * (6 : Int32)) + a2) * (6 : Int32)) + a3)), (0, .ref a0), (1, .int a1), (2, .int a2), (3, .int a3), (4, .int a4)]) X (TB.get tb_X2_following 17 rfl) rfl (Nat.le_of_ble_eq_true rfl) rfl ?_
    refine V_iload (q := 27) X (TB.get tb_X2_following 18 rfl) rfl rfl ?_
    refine V_if_eq (q := 30) (t := 40) X (TB.get tb_X2_following 19 rfl) rfl rfl (fun hc => ?_) (fun hc => ?_)
    · have e := (if_pos hc).symm.trans e
      refine V_aload_n (q := 41) X (TB.get tb_X2_following 25 rfl) rfl rfl rfl ?_
      obtain ⟨x2, ex2, e⟩ := bs e
      refine V_getR (q := 44) X (TB.get tb_X2_following 26 rfl) rfl lf_RX2_30 ex2 ?_
      refine V_iload (q := 46) X (TB.get tb_X2_following 27 rfl) rfl rfl ?_
      obtain ⟨x3, ex3, e⟩ := bs e
      refine V_iaload (q := 47) X (TB.get tb_X2_following 28 rfl) rfl ex3 ?_
      cases e
      exact V_iret X hr hlk (TB.get tb_X2_following 29 rfl)
    · have e := (if_neg hc).symm.trans e
      refine V_aload_n (q := 31) X (TB.get tb_X2_following 20 rfl) rfl rfl rfl ?_
      obtain ⟨x4, ex4, e⟩ := bs e
      refine V_getR (q := 34) X (TB.get tb_X2_following 21 rfl) rfl lf_RX2_27 ex4 ?_
      refine V_iload (q := 36) X (TB.get tb_X2_following 22 rfl) rfl rfl ?_
      obtain ⟨x5, ex5, e⟩ := bs e
      refine V_iaload (q := 37) X (TB.get tb_X2_following 23 rfl) rfl ex5 ?_
      refine V_goto (q := 47) X (TB.get tb_X2_following 24 rfl) rfl ?_
      cases e
      exact V_iret X hr hlk (TB.get tb_X2_following 29 rfl)
  · have e := (if_pos hc).symm.trans e
    refine V_iconst (v := -1) (q := 11) X (TB.get tb_X2_following 6 rfl) c_iconst_m1 rfl ?_
    cases e
    exact V_iret X hr hlk (TB.get tb_X2_following 7 rfl)
set_option maxRecDepth 100000 in
set_option maxHeartbeats 4000000 in
theorem ok_X2_allow (a0 : Nat) (a1 : Int32) (a2 : Int32) (a3 : Int32) (a4 : Int32) (a5 : Int32) (h : Hp) (res : Hp) (e : MX2_allow a0 a1 a2 a3 a4 a5 h = some res) : CK yX2_allow cX2_allow 7 none 0 [.ref a0, .int a1, .int a2, .int a3, .int a4, .int a5] h none res ∧ (h.1 a0).1 = 2 := by
  obtain ⟨hcl, e⟩ := h_g_inv e
  refine ⟨CK_of pn_RX2 cm_X2_allow (Nat.le_of_ble_eq_true rfl) ?_, hcl⟩
  intro l D tc B nn p en s m args below meth c X hr hlk
  replace X : CX p (rmD 0) s m args c cX2_allow 7 RX2 D tc 0 := X
  show V p l en (rmD 0) s m args below meth c 7 D tc B nn (Ar B nn) s.heap 0 0 (MQ below (QC D tc B nn (Ar B nn) none res) args s 0 0 (Ar B nn)) h 0 [(0, .ref a0), (1, .int a1), (2, .int a2), (3, .int a3), (4, .int a4), (5, .int a5)] []
  refine V_iload_n (q := 1) X (TB.get tb_X2_allow 0 rfl) rfl rfl rfl ?_
  refine V_bipush (v := 6) (q := 3) X (TB.get tb_X2_allow 1 rfl) c_bipush_6 rfl ?_
  refine V_imul (q := 4) X (TB.get tb_X2_allow 2 rfl) rfl ?_
  refine V_iload_n (q := 5) X (TB.get tb_X2_allow 3 rfl) rfl rfl rfl ?_
  refine V_iadd (q := 6) X (TB.get tb_X2_allow 4 rfl) rfl ?_
  refine V_bipush (v := 6) (q := 8) X (TB.get tb_X2_allow 5 rfl) c_bipush_6 rfl ?_
  refine V_imul (q := 9) X (TB.get tb_X2_allow 6 rfl) rfl ?_
  refine V_iload_n (q := 10) X (TB.get tb_X2_allow 7 rfl) rfl rfl rfl ?_
  refine V_iadd (q := 11) X (TB.get tb_X2_allow 8 rfl) rfl ?_
  refine V_istore (q := 13) (lv' := [(6, .int ((((a1 * (6 : Int32)) + a2) * (6 : Int32)) + a3)), (0, .ref a0), (1, .int a1), (2, .int a2), (3, .int a3), (4, .int a4), (5, .int a5)]) X (TB.get tb_X2_allow 9 rfl) rfl (Nat.le_of_ble_eq_true rfl) rfl ?_
  refine V_aload_n (q := 14) X (TB.get tb_X2_allow 10 rfl) rfl rfl rfl ?_
  obtain ⟨x1, ex1, e⟩ := bs e
  refine V_getR (q := 17) X (TB.get tb_X2_allow 11 rfl) rfl lf_RX2_24 ex1 ?_
  refine V_iload_n (q := 18) X (TB.get tb_X2_allow 12 rfl) rfl rfl rfl ?_
  refine V_bipush (v := 6) (q := 20) X (TB.get tb_X2_allow 13 rfl) c_bipush_6 rfl ?_
  refine V_imul (q := 21) X (TB.get tb_X2_allow 14 rfl) rfl ?_
  refine V_iload_n (q := 22) X (TB.get tb_X2_allow 15 rfl) rfl rfl rfl ?_
  refine V_iadd (q := 23) X (TB.get tb_X2_allow 16 rfl) rfl ?_
  refine V_dup2 (q := 24) X (TB.get tb_X2_allow 17 rfl) rfl rfl rfl ?_
  obtain ⟨x2, ex2, e⟩ := bs e
  refine V_iaload (q := 25) X (TB.get tb_X2_allow 18 rfl) rfl ex2 ?_
  refine V_iconst (v := 1) (q := 26) X (TB.get tb_X2_allow 19 rfl) c_iconst_1 rfl ?_
  refine V_iload_n (q := 27) X (TB.get tb_X2_allow 20 rfl) rfl rfl rfl ?_
  refine V_ishl (q := 28) X (TB.get tb_X2_allow 21 rfl) rfl ?_
  refine V_ior (q := 29) X (TB.get tb_X2_allow 22 rfl) rfl ?_
  obtain ⟨h3, eh3, e⟩ := bs e
  refine V_iastore (q := 30) X (TB.get tb_X2_allow 23 rfl) rfl eh3 ?_
  refine V_aload_n (q := 31) X (TB.get tb_X2_allow 24 rfl) rfl rfl rfl ?_
  obtain ⟨x4, ex4, e⟩ := bs e
  refine V_getR (q := 34) X (TB.get tb_X2_allow 25 rfl) rfl lf_RX2_27 ex4 ?_
  refine V_iload (q := 36) X (TB.get tb_X2_allow 26 rfl) rfl rfl ?_
  refine V_iload (q := 38) X (TB.get tb_X2_allow 27 rfl) rfl rfl ?_
  obtain ⟨h5, eh5, e⟩ := bs e
  refine V_iastore (q := 39) X (TB.get tb_X2_allow 28 rfl) rfl eh5 ?_
  refine V_aload_n (q := 40) X (TB.get tb_X2_allow 29 rfl) rfl rfl rfl ?_
  obtain ⟨x6, ex6, e⟩ := bs e
  refine V_getR (q := 43) X (TB.get tb_X2_allow 30 rfl) rfl lf_RX2_30 ex6 ?_
  refine V_iload (q := 45) X (TB.get tb_X2_allow 31 rfl) rfl rfl ?_
  refine V_iload (q := 47) X (TB.get tb_X2_allow 32 rfl) rfl rfl ?_
  obtain ⟨h7, eh7, e⟩ := bs e
  refine V_iastore (q := 48) X (TB.get tb_X2_allow 33 rfl) rfl eh7 ?_
  cases e
  exact V_vret X hr hlk (TB.get tb_X2_allow 34 rfl)
set_option maxRecDepth 100000 in
set_option maxHeartbeats 4000000 in
theorem ok_X2_change (a0 : Nat) (a1 : Int32) (a2 : Int32) (a3 : Int32) (a4 : Int32) (a5 : Int32) (h : Hp) (res : Hp) (e : MX2_change a0 a1 a2 a3 a4 a5 h = some res) : CK yX2_change cX2_change 9 none 2 [.ref a0, .int a1, .int a2, .int a3, .int a4, .int a5] h none res ∧ (h.1 a0).1 = 2 := by
  obtain ⟨hcl, e⟩ := h_g_inv e
  refine ⟨CK_of pn_RX2 cm_X2_change (Nat.le_of_ble_eq_true rfl) ?_, hcl⟩
  intro l D tc B nn p en s m args below meth c X hr hlk
  replace X : CX p (rmD 2) s m args c cX2_change 9 RX2 D tc 2 := X
  show V p l en (rmD 2) s m args below meth c 9 D tc B nn (Ar B nn) s.heap 0 0 (MQ below (QC D tc B nn (Ar B nn) none res) args s 0 0 (Ar B nn)) h 0 [(0, .ref a0), (1, .int a1), (2, .int a2), (3, .int a3), (4, .int a4), (5, .int a5)] []
  refine V_iload (q := 2) X (TB.get tb_X2_change 0 rfl) rfl rfl ?_
  refine V_iconst (v := -1) (q := 3) X (TB.get tb_X2_change 1 rfl) c_iconst_m1 rfl ?_
  refine V_icmp_ne (q := 6) (t := 26) X (TB.get tb_X2_change 2 rfl) rfl rfl (fun hc => ?_) (fun hc => ?_)
  · have e := (if_neg hc).symm.trans e
    refine V_aload_n (q := 27) X (TB.get tb_X2_change 20 rfl) rfl rfl rfl ?_
    refine V_iload_n (q := 28) X (TB.get tb_X2_change 21 rfl) rfl rfl rfl ?_
    refine V_iload_n (q := 29) X (TB.get tb_X2_change 22 rfl) rfl rfl rfl ?_
    obtain ⟨x1, ex1, e⟩ := bs e
    refine V_callV (q := 32) (As := [.int a1, .int a2]) (rest := []) (st' := [.int x1]) X (TB.get tb_X2_change 23 rfl) rfl cv_RX2_58 (ok_X2_sortOf a0 a1 a2 h x1 ex1).1 (ok_X2_sortOf a0 a1 a2 h x1 ex1).2 (Nat.le_of_ble_eq_true rfl) rfl rfl (Nat.le_of_ble_eq_true rfl) rfl ?_
    refine V_iconst (v := 1) (q := 33) X (TB.get tb_X2_change 24 rfl) c_iconst_1 rfl ?_
    refine jn_elim (P := (fun (k : Int32 → Option (Hp)) => ∀ (w2 : Int32), k w2 = some res → V p l en (rmD 2) s m args below meth c 9 D tc B nn (Ar B nn) s.heap 0 0 (MQ below (QC D tc B nn (Ar B nn) none res) args s 0 0 (Ar B nn)) h 51 [(0, .ref a0), (1, .int a1), (2, .int a2), (3, .int a3), (4, .int a4), (5, .int a5)] [.int w2])) e ?_ (fun j3 Jj3 e => ?_)
    · intro w2 e
      refine V_istore (q := 53) (lv' := [(6, .int w2), (0, .ref a0), (1, .int a1), (2, .int a2), (3, .int a3), (4, .int a4), (5, .int a5)]) X (TB.get tb_X2_change 35 rfl) rfl (Nat.le_of_ble_eq_true rfl) rfl ?_
      refine V_iload (q := 55) X (TB.get tb_X2_change 36 rfl) rfl rfl ?_
      refine jn_elim (P := (fun (k : Int32 → Option (Hp)) => ∀ (w4 : Int32), k w4 = some res → V p l en (rmD 2) s m args below meth c 9 D tc B nn (Ar B nn) s.heap 0 0 (MQ below (QC D tc B nn (Ar B nn) none res) args s 0 0 (Ar B nn)) h 76 [(0, .ref a0), (1, .int a1), (2, .int a2), (3, .int a3), (4, .int a4), (5, .int a5), (6, .int w2)] [.int w4])) e ?_ (fun j5 Jj5 e => ?_)
      · intro w4 e
        refine V_istore (q := 78) (lv' := [(7, .int w4), (0, .ref a0), (1, .int a1), (2, .int a2), (3, .int a3), (4, .int a4), (5, .int a5), (6, .int w2)]) X (TB.get tb_X2_change 48 rfl) rfl (Nat.le_of_ble_eq_true rfl) rfl ?_
        refine V_iload (q := 80) X (TB.get tb_X2_change 49 rfl) rfl rfl ?_
        refine jn_elim (P := (fun (k : Int32 → Option (Hp)) => ∀ (w6 : Int32), k w6 = some res → V p l en (rmD 2) s m args below meth c 9 D tc B nn (Ar B nn) s.heap 0 0 (MQ below (QC D tc B nn (Ar B nn) none res) args s 0 0 (Ar B nn)) h 101 [(0, .ref a0), (1, .int a1), (2, .int a2), (3, .int a3), (7, .int w4)] [.int w6])) e ?_ (fun j7 Jj7 e => ?_)
        · intro w6 e
          refine V_istore (q := 103) (lv' := [(8, .int w6), (0, .ref a0), (1, .int a1), (2, .int a2), (3, .int a3), (7, .int w4)]) X (TB.get tb_X2_change 61 rfl) rfl (Nat.le_of_ble_eq_true rfl) rfl ?_
          refine V_aload_n (q := 104) X (TB.get tb_X2_change 62 rfl) rfl rfl rfl ?_
          refine V_iload_n (q := 105) X (TB.get tb_X2_change 63 rfl) rfl rfl rfl ?_
          refine V_iload_n (q := 106) X (TB.get tb_X2_change 64 rfl) rfl rfl rfl ?_
          refine V_iload_n (q := 107) X (TB.get tb_X2_change 65 rfl) rfl rfl rfl ?_
          refine V_iload (q := 109) X (TB.get tb_X2_change 66 rfl) rfl rfl ?_
          refine V_iload (q := 111) X (TB.get tb_X2_change 67 rfl) rfl rfl ?_
          obtain ⟨h8, eh8, e⟩ := bs e
          refine V_callV (q := 114) (As := [.int a1, .int a2, .int a3, .int w4, .int w6]) (rest := []) (st' := []) X (TB.get tb_X2_change 68 rfl) rfl cv_RX2_66 (ok_X2_allow a0 a1 a2 a3 w4 w6 h h8 eh8).1 (ok_X2_allow a0 a1 a2 a3 w4 w6 h h8 eh8).2 (Nat.le_of_ble_eq_true rfl) rfl rfl (Nat.le_of_ble_eq_true rfl) rfl ?_
          cases e
          exact V_vret X hr hlk (TB.get tb_X2_change 69 rfl)
        refine jn_elim (P := (fun (k : Option (Hp)) => k = some res → V p l en (rmD 2) s m args below meth c 9 D tc B nn (Ar B nn) s.heap 0 0 (MQ below (QC D tc B nn (Ar B nn) none res) args s 0 0 (Ar B nn)) h 88 [(0, .ref a0), (1, .int a1), (2, .int a2), (3, .int a3), (5, .int a5), (7, .int w4)] [])) e ?_ (fun j9 Jj9 e => ?_)
        · intro e
          refine V_iload (q := 90) X (TB.get tb_X2_change 53 rfl) rfl rfl ?_
          refine V_goto (q := 101) X (TB.get tb_X2_change 54 rfl) rfl ?_
          refine V_sub (lv' := [(0, .ref a0), (1, .int a1), (2, .int a2), (3, .int a3), (7, .int w4)]) [0, 1, 2, 3, 5] rfl ?_
          exact Jj7 _ e
        refine V_if_ne (q := 83) (t := 88) X (TB.get tb_X2_change 50 rfl) rfl rfl (fun hc => ?_) (fun hc => ?_)
        · have e := (if_neg hc).symm.trans e
          refine V_sub (lv' := [(0, .ref a0), (1, .int a1), (2, .int a2), (3, .int a3), (5, .int a5), (7, .int w4)]) [1, 2, 3, 4, 6, 0] rfl ?_
          exact Jj9 e
        · have e := (if_pos hc).symm.trans e
          refine V_iload (q := 85) X (TB.get tb_X2_change 51 rfl) rfl rfl ?_
          refine V_if_ne (q := 88) (t := 93) X (TB.get tb_X2_change 52 rfl) rfl rfl (fun hc => ?_) (fun hc => ?_)
          · have e := (if_neg hc).symm.trans e
            refine V_aload_n (q := 94) X (TB.get tb_X2_change 55 rfl) rfl rfl rfl ?_
            refine V_iload_n (q := 95) X (TB.get tb_X2_change 56 rfl) rfl rfl rfl ?_
            refine V_iload_n (q := 96) X (TB.get tb_X2_change 57 rfl) rfl rfl rfl ?_
            refine V_iload_n (q := 97) X (TB.get tb_X2_change 58 rfl) rfl rfl rfl ?_
            refine V_iconst (v := 0) (q := 98) X (TB.get tb_X2_change 59 rfl) c_iconst_0 rfl ?_
            obtain ⟨x10, ex10, e⟩ := bs e
            refine V_callV (q := 101) (As := [.int a1, .int a2, .int a3, .int (0 : Int32)]) (rest := []) (st' := [.int x10]) X (TB.get tb_X2_change 60 rfl) rfl cv_RX2_62 (ok_X2_following a0 a1 a2 a3 (0 : Int32) h x10 ex10).1 (ok_X2_following a0 a1 a2 a3 (0 : Int32) h x10 ex10).2 (Nat.le_of_ble_eq_true rfl) rfl rfl (Nat.le_of_ble_eq_true rfl) rfl ?_
            refine V_sub (lv' := [(0, .ref a0), (1, .int a1), (2, .int a2), (3, .int a3), (7, .int w4)]) [1, 2, 3, 4, 0] rfl ?_
            exact Jj7 _ e
          · have e := (if_pos hc).symm.trans e
            refine V_sub (lv' := [(0, .ref a0), (1, .int a1), (2, .int a2), (3, .int a3), (5, .int a5), (7, .int w4)]) [1, 2, 3, 4, 6, 0] rfl ?_
            exact Jj9 e
      refine jn_elim (P := (fun (k : Option (Hp)) => k = some res → V p l en (rmD 2) s m args below meth c 9 D tc B nn (Ar B nn) s.heap 0 0 (MQ below (QC D tc B nn (Ar B nn) none res) args s 0 0 (Ar B nn)) h 63 [(0, .ref a0), (1, .int a1), (2, .int a2), (3, .int a3), (4, .int a4), (5, .int a5), (6, .int w2)] [])) e ?_ (fun j11 Jj11 e => ?_)
      · intro e
        refine V_iload (q := 65) X (TB.get tb_X2_change 40 rfl) rfl rfl ?_
        refine V_goto (q := 76) X (TB.get tb_X2_change 41 rfl) rfl ?_
        exact Jj5 _ e
      refine V_if_ne (q := 58) (t := 63) X (TB.get tb_X2_change 37 rfl) rfl rfl (fun hc => ?_) (fun hc => ?_)
      · have e := (if_neg hc).symm.trans e
        refine V_sub (lv' := [(0, .ref a0), (1, .int a1), (2, .int a2), (3, .int a3), (4, .int a4), (5, .int a5), (6, .int w2)]) [1, 2, 3, 4, 5, 6, 0] rfl ?_
        exact Jj11 e
      · have e := (if_pos hc).symm.trans e
        refine V_iload (q := 60) X (TB.get tb_X2_change 38 rfl) rfl rfl ?_
        refine V_if_eq (q := 63) (t := 68) X (TB.get tb_X2_change 39 rfl) rfl rfl (fun hc => ?_) (fun hc => ?_)
        · have e := (if_pos hc).symm.trans e
          refine V_aload_n (q := 69) X (TB.get tb_X2_change 42 rfl) rfl rfl rfl ?_
          refine V_iload_n (q := 70) X (TB.get tb_X2_change 43 rfl) rfl rfl rfl ?_
          refine V_iload_n (q := 71) X (TB.get tb_X2_change 44 rfl) rfl rfl rfl ?_
          refine V_iload_n (q := 72) X (TB.get tb_X2_change 45 rfl) rfl rfl rfl ?_
          refine V_iconst (v := 1) (q := 73) X (TB.get tb_X2_change 46 rfl) c_iconst_1 rfl ?_
          obtain ⟨x12, ex12, e⟩ := bs e
          refine V_callV (q := 76) (As := [.int a1, .int a2, .int a3, .int (1 : Int32)]) (rest := []) (st' := [.int x12]) X (TB.get tb_X2_change 47 rfl) rfl cv_RX2_62 (ok_X2_following a0 a1 a2 a3 (1 : Int32) h x12 ex12).1 (ok_X2_following a0 a1 a2 a3 (1 : Int32) h x12 ex12).2 (Nat.le_of_ble_eq_true rfl) rfl rfl (Nat.le_of_ble_eq_true rfl) rfl ?_
          refine V_sub (lv' := [(0, .ref a0), (1, .int a1), (2, .int a2), (3, .int a3), (4, .int a4), (5, .int a5), (6, .int w2)]) [1, 2, 3, 4, 5, 6, 0] rfl ?_
          exact Jj5 _ e
        · have e := (if_neg hc).symm.trans e
          refine V_sub (lv' := [(0, .ref a0), (1, .int a1), (2, .int a2), (3, .int a3), (4, .int a4), (5, .int a5), (6, .int w2)]) [1, 2, 3, 4, 5, 6, 0] rfl ?_
          exact Jj11 e
    refine jn_elim (P := (fun (k : Option (Hp)) => k = some res → V p l en (rmD 2) s m args below meth c 9 D tc B nn (Ar B nn) s.heap 0 0 (MQ below (QC D tc B nn (Ar B nn) none res) args s 0 0 (Ar B nn)) h 46 [(0, .ref a0), (1, .int a1), (2, .int a2), (3, .int a3), (4, .int a4), (5, .int a5)] [])) e ?_ (fun j13 Jj13 e => ?_)
    · intro e
      refine V_iconst (v := 1) (q := 47) X (TB.get tb_X2_change 32 rfl) c_iconst_1 rfl ?_
      refine V_goto (q := 51) X (TB.get tb_X2_change 33 rfl) rfl ?_
      exact Jj3 _ e
    refine V_icmp_ne (q := 36) (t := 46) X (TB.get tb_X2_change 25 rfl) rfl rfl (fun hc => ?_) (fun hc => ?_)
    · have e := (if_neg hc).symm.trans e
      exact Jj13 e
    · have e := (if_pos hc).symm.trans e
      refine V_aload_n (q := 37) X (TB.get tb_X2_change 26 rfl) rfl rfl rfl ?_
      refine V_iload_n (q := 38) X (TB.get tb_X2_change 27 rfl) rfl rfl rfl ?_
      refine V_iload_n (q := 39) X (TB.get tb_X2_change 28 rfl) rfl rfl rfl ?_
      refine V_iload_n (q := 40) X (TB.get tb_X2_change 29 rfl) rfl rfl rfl ?_
      obtain ⟨x14, ex14, e⟩ := bs e
      refine V_callV (q := 43) (As := [.int a1, .int a2, .int a3]) (rest := []) (st' := [.int x14]) X (TB.get tb_X2_change 30 rfl) rfl cv_RX2_54 (ok_X2_canBe a0 a1 a2 a3 h x14 ex14).1 (ok_X2_canBe a0 a1 a2 a3 h x14 ex14).2 (Nat.le_of_ble_eq_true rfl) rfl rfl (Nat.le_of_ble_eq_true rfl) rfl ?_
      refine V_if_ne (q := 46) (t := 50) X (TB.get tb_X2_change 31 rfl) rfl rfl (fun hc => ?_) (fun hc => ?_)
      · have e := (if_neg hc).symm.trans e
        refine V_iconst (v := 0) (q := 51) X (TB.get tb_X2_change 34 rfl) c_iconst_0 rfl ?_
        exact Jj3 _ e
      · have e := (if_pos hc).symm.trans e
        exact Jj13 e
  · have e := (if_pos hc).symm.trans e
    refine V_aload_n (q := 7) X (TB.get tb_X2_change 3 rfl) rfl rfl rfl ?_
    obtain ⟨x15, ex15, e⟩ := bs e
    refine V_getR (q := 10) X (TB.get tb_X2_change 4 rfl) rfl lf_RX2_24 ex15 ?_
    refine V_iload_n (q := 11) X (TB.get tb_X2_change 5 rfl) rfl rfl rfl ?_
    refine V_bipush (v := 6) (q := 13) X (TB.get tb_X2_change 6 rfl) c_bipush_6 rfl ?_
    refine V_imul (q := 14) X (TB.get tb_X2_change 7 rfl) rfl ?_
    refine V_iload_n (q := 15) X (TB.get tb_X2_change 8 rfl) rfl rfl rfl ?_
    refine V_iadd (q := 16) X (TB.get tb_X2_change 9 rfl) rfl ?_
    refine V_dup2 (q := 17) X (TB.get tb_X2_change 10 rfl) rfl rfl rfl ?_
    obtain ⟨x16, ex16, e⟩ := bs e
    refine V_iaload (q := 18) X (TB.get tb_X2_change 11 rfl) rfl ex16 ?_
    refine V_iconst (v := 1) (q := 19) X (TB.get tb_X2_change 12 rfl) c_iconst_1 rfl ?_
    refine V_iload_n (q := 20) X (TB.get tb_X2_change 13 rfl) rfl rfl rfl ?_
    refine V_ishl (q := 21) X (TB.get tb_X2_change 14 rfl) rfl ?_
    refine V_iconst (v := -1) (q := 22) X (TB.get tb_X2_change 15 rfl) c_iconst_m1 rfl ?_
    refine V_ixor (q := 23) X (TB.get tb_X2_change 16 rfl) rfl ?_
    refine V_iand (q := 24) X (TB.get tb_X2_change 17 rfl) rfl ?_
    obtain ⟨h17, eh17, e⟩ := bs e
    refine V_iastore (q := 25) X (TB.get tb_X2_change 18 rfl) rfl eh17 ?_
    cases e
    exact V_vret X hr hlk (TB.get tb_X2_change 19 rfl)
set_option maxRecDepth 100000 in
set_option maxHeartbeats 4000000 in
theorem ok_X2_reachable (fu : Nat) (a0 : Nat) (a1 : Int32) (h : Hp) (res : Int32) (e : MX2_reachable fu a0 a1 h = some res) : CK yX2_reachable cX2_reachable 5 (some .int) 1 [.ref a0, .int a1] h (some (.int res)) h ∧ (h.1 a0).1 = 2 := by
  obtain ⟨hcl, e⟩ := h_g_inv e
  refine ⟨CK_of pn_RX2 cm_X2_reachable (Nat.le_of_ble_eq_true rfl) ?_, hcl⟩
  intro l D tc B nn p en s m args below meth c X hr hlk
  replace X : CX p (rmD 1) s m args c cX2_reachable 5 RX2 D tc 1 := X
  show V p l en (rmD 1) s m args below meth c 5 D tc B nn (Ar B nn) s.heap 0 0 (MQ below (QC D tc B nn (Ar B nn) (some (.int res)) h) args s 0 0 (Ar B nn)) h 0 [(0, .ref a0), (1, .int a1)] []
  refine V_iconst (v := 1) (q := 1) X (TB.get tb_X2_reachable 0 rfl) c_iconst_1 rfl ?_
  refine V_istore_n (q := 2) (lv' := [(2, .int (1 : Int32)), (0, .ref a0), (1, .int a1)]) X (TB.get tb_X2_reachable 1 rfl) rfl rfl (Nat.le_of_ble_eq_true rfl) rfl ?_
  refine V_iconst (v := 0) (q := 3) X (TB.get tb_X2_reachable 2 rfl) c_iconst_0 rfl ?_
  refine V_istore_n (q := 4) (lv' := [(3, .int (0 : Int32)), (2, .int (1 : Int32)), (0, .ref a0), (1, .int a1)]) X (TB.get tb_X2_reachable 3 rfl) rfl rfl (Nat.le_of_ble_eq_true rfl) rfl ?_
  refine V_sub (lv' := [(0, .ref a0), (1, .int a1), (2, .int (1 : Int32)), (3, .int (0 : Int32))]) [2, 3, 1, 0] rfl ?_
  refine wh2_elim (P := fun v1 v2 => V p l en (rmD 1) s m args below meth c 5 D tc B nn (Ar B nn) s.heap 0 0 (MQ below (QC D tc B nn (Ar B nn) (some (.int res)) h) args s 0 0 (Ar B nn)) h 4 [(0, .ref a0), (1, .int a1), (2, .int v1), (3, .int v2)] []) (f := fu) ?_ e
  intro self3 v1 v2 ihself3 e
  unfold MX2_reachable_B4 at e
  refine V_iload_n (q := 5) X (TB.get tb_X2_reachable 4 rfl) rfl rfl rfl ?_
  refine V_bipush (v := 6) (q := 7) X (TB.get tb_X2_reachable 5 rfl) c_bipush_6 rfl ?_
  refine V_icmp_ge (q := 10) (t := 58) X (TB.get tb_X2_reachable 6 rfl) rfl rfl (fun hc => ?_) (fun hc => ?_)
  · have e := (if_pos hc).symm.trans e
    refine V_iload_n (q := 59) X (TB.get tb_X2_reachable 35 rfl) rfl rfl rfl ?_
    cases e
    exact V_iret X hr hlk (TB.get tb_X2_reachable 36 rfl)
  · have e := (if_neg hc).symm.trans e
    refine V_iconst (v := 0) (q := 11) X (TB.get tb_X2_reachable 7 rfl) c_iconst_0 rfl ?_
    refine V_istore (q := 13) (lv' := [(4, .int (0 : Int32)), (0, .ref a0), (1, .int a1), (2, .int v1), (3, .int v2)]) X (TB.get tb_X2_reachable 8 rfl) rfl (Nat.le_of_ble_eq_true rfl) rfl ?_
    refine jn_elim (P := (fun (k : Int32 → Option (Int32)) => ∀ (v4 : Int32), k v4 = some res → V p l en (rmD 1) s m args below meth c 5 D tc B nn (Ar B nn) s.heap 0 0 (MQ below (QC D tc B nn (Ar B nn) (some (.int res)) h) args s 0 0 (Ar B nn)) h 52 [(0, .ref a0), (1, .int a1), (2, .int v4), (3, .int v2)] [])) e ?_ (fun j5 Jj5 e => ?_)
    · intro v4 e
      refine V_iinc (q := 55) (v := v2 + (1 : Int32)) (lv' := [(3, .int (v2 + (1 : Int32))), (0, .ref a0), (1, .int a1), (2, .int v4)]) X (TB.get tb_X2_reachable 33 rfl) rfl rfl (by rw [c_iconst_1]) (Nat.le_of_ble_eq_true rfl) rfl ?_
      refine V_goto (q := 4) X (TB.get tb_X2_reachable 34 rfl) rfl ?_
      refine V_sub (lv' := [(0, .ref a0), (1, .int a1), (2, .int v4), (3, .int (v2 + (1 : Int32)))]) [1, 2, 3, 0] rfl ?_
      exact ihself3 _ _ e
    refine V_sub (lv' := [(0, .ref a0), (1, .int a1), (2, .int v1), (3, .int v2), (4, .int (0 : Int32))]) [1, 2, 3, 4, 0] rfl ?_
    refine wh2_elim (P := fun v6 v7 => V p l en (rmD 1) s m args below meth c 5 D tc B nn (Ar B nn) s.heap 0 0 (MQ below (QC D tc B nn (Ar B nn) (some (.int res)) h) args s 0 0 (Ar B nn)) h 13 [(0, .ref a0), (1, .int a1), (2, .int v6), (3, .int v2), (4, .int v7)] []) (f := fu) ?_ e
    intro self8 v6 v7 ihself8 e
    unfold MX2_reachable_B13 at e
    refine V_iload (q := 15) X (TB.get tb_X2_reachable 9 rfl) rfl rfl ?_
    refine V_aload_n (q := 16) X (TB.get tb_X2_reachable 10 rfl) rfl rfl rfl ?_
    obtain ⟨x9, ex9, e⟩ := bs e
    refine V_getR (q := 19) X (TB.get tb_X2_reachable 11 rfl) rfl lf_RX2_18 ex9 ?_
    refine V_iload_n (q := 20) X (TB.get tb_X2_reachable 12 rfl) rfl rfl rfl ?_
    obtain ⟨x10, ex10, e⟩ := bs e
    refine V_iaload (q := 21) X (TB.get tb_X2_reachable 13 rfl) rfl ex10 ?_
    refine V_icmp_ge (q := 24) (t := 52) X (TB.get tb_X2_reachable 14 rfl) rfl rfl (fun hc => ?_) (fun hc => ?_)
    · have e := (if_pos hc).symm.trans e
      refine V_sub (lv' := [(0, .ref a0), (1, .int a1), (2, .int v6), (3, .int v2)]) [0, 1, 2, 3] rfl ?_
      exact Jj5 _ e
    · have e := (if_neg hc).symm.trans e
      refine V_iload_n (q := 25) X (TB.get tb_X2_reachable 15 rfl) rfl rfl rfl ?_
      refine V_aload_n (q := 26) X (TB.get tb_X2_reachable 16 rfl) rfl rfl rfl ?_
      refine V_iload_n (q := 27) X (TB.get tb_X2_reachable 17 rfl) rfl rfl rfl ?_
      refine V_iload (q := 29) X (TB.get tb_X2_reachable 18 rfl) rfl rfl ?_
      refine V_iload_n (q := 30) X (TB.get tb_X2_reachable 19 rfl) rfl rfl rfl ?_
      refine V_iconst (v := 1) (q := 31) X (TB.get tb_X2_reachable 20 rfl) c_iconst_1 rfl ?_
      obtain ⟨x11, ex11, e⟩ := bs e
      refine V_callV (q := 34) (As := [.int a1, .int v7, .int v6, .int (1 : Int32)]) (rest := [.int v6]) (st' := [.int x11, .int v6]) X (TB.get tb_X2_reachable 21 rfl) rfl cv_RX2_70 (ok_X2_image fu a0 a1 v7 v6 (1 : Int32) h x11 ex11).1 (ok_X2_image fu a0 a1 v7 v6 (1 : Int32) h x11 ex11).2 (Nat.le_of_ble_eq_true rfl) rfl rfl (Nat.le_of_ble_eq_true rfl) rfl ?_
      refine V_aload_n (q := 35) X (TB.get tb_X2_reachable 22 rfl) rfl rfl rfl ?_
      refine V_iload_n (q := 36) X (TB.get tb_X2_reachable 23 rfl) rfl rfl rfl ?_
      refine V_iload (q := 38) X (TB.get tb_X2_reachable 24 rfl) rfl rfl ?_
      refine V_iload_n (q := 39) X (TB.get tb_X2_reachable 25 rfl) rfl rfl rfl ?_
      refine V_iconst (v := 0) (q := 40) X (TB.get tb_X2_reachable 26 rfl) c_iconst_0 rfl ?_
      obtain ⟨x12, ex12, e⟩ := bs e
      refine V_callV (q := 43) (As := [.int a1, .int v7, .int v6, .int (0 : Int32)]) (rest := [.int x11, .int v6]) (st' := [.int x12, .int x11, .int v6]) X (TB.get tb_X2_reachable 27 rfl) rfl cv_RX2_70 (ok_X2_image fu a0 a1 v7 v6 (0 : Int32) h x12 ex12).1 (ok_X2_image fu a0 a1 v7 v6 (0 : Int32) h x12 ex12).2 (Nat.le_of_ble_eq_true rfl) rfl rfl (Nat.le_of_ble_eq_true rfl) rfl ?_
      refine V_ior (q := 44) X (TB.get tb_X2_reachable 28 rfl) rfl ?_
      refine V_ior (q := 45) X (TB.get tb_X2_reachable 29 rfl) rfl ?_
      refine V_istore_n (q := 46) (lv' := [(2, .int (v6 ||| (x11 ||| x12))), (0, .ref a0), (1, .int a1), (3, .int v2), (4, .int v7)]) X (TB.get tb_X2_reachable 30 rfl) rfl rfl (Nat.le_of_ble_eq_true rfl) rfl ?_
      refine V_iinc (q := 49) (v := v7 + (1 : Int32)) (lv' := [(4, .int (v7 + (1 : Int32))), (2, .int (v6 ||| (x11 ||| x12))), (0, .ref a0), (1, .int a1), (3, .int v2)]) X (TB.get tb_X2_reachable 31 rfl) rfl rfl (by rw [c_iconst_1]) (Nat.le_of_ble_eq_true rfl) rfl ?_
      refine V_goto (q := 13) X (TB.get tb_X2_reachable 32 rfl) rfl ?_
      refine V_sub (lv' := [(0, .ref a0), (1, .int a1), (2, .int (v6 ||| (x11 ||| x12))), (3, .int v2), (4, .int (v7 + (1 : Int32)))]) [2, 3, 1, 4, 0] rfl ?_
      exact ihself8 _ _ e
set_option maxRecDepth 100000 in
set_option maxHeartbeats 4000000 in
theorem ok_X2_methodTo (fu : Nat) (a0 : Nat) (a1 : Int32) (a2 : Int32) (a3 : Int32) (h : Hp) (res : Int32) (e : MX2_methodTo fu a0 a1 a2 a3 h = some res) : CK yX2_methodTo cX2_methodTo 5 (some .int) 2 [.ref a0, .int a1, .int a2, .int a3] h (some (.int res)) h ∧ (h.1 a0).1 = 2 := by
  obtain ⟨hcl, e⟩ := h_g_inv e
  refine ⟨CK_of pn_RX2 cm_X2_methodTo (Nat.le_of_ble_eq_true rfl) ?_, hcl⟩
  intro l D tc B nn p en s m args below meth c X hr hlk
  replace X : CX p (rmD 2) s m args c cX2_methodTo 5 RX2 D tc 2 := X
  show V p l en (rmD 2) s m args below meth c 5 D tc B nn (Ar B nn) s.heap 0 0 (MQ below (QC D tc B nn (Ar B nn) (some (.int res)) h) args s 0 0 (Ar B nn)) h 0 [(0, .ref a0), (1, .int a1), (2, .int a2), (3, .int a3)] []
  refine V_iconst (v := 0) (q := 1) X (TB.get tb_X2_methodTo 0 rfl) c_iconst_0 rfl ?_
  refine V_istore (q := 3) (lv' := [(4, .int (0 : Int32)), (0, .ref a0), (1, .int a1), (2, .int a2), (3, .int a3)]) X (TB.get tb_X2_methodTo 1 rfl) rfl (Nat.le_of_ble_eq_true rfl) rfl ?_
  refine V_sub (lv' := [(0, .ref a0), (1, .int a1), (2, .int a2), (3, .int a3), (4, .int (0 : Int32))]) [1, 2, 3, 4, 0] rfl ?_
  refine wh1_elim (P := fun v1 => V p l en (rmD 2) s m args below meth c 5 D tc B nn (Ar B nn) s.heap 0 0 (MQ below (QC D tc B nn (Ar B nn) (some (.int res)) h) args s 0 0 (Ar B nn)) h 3 [(0, .ref a0), (1, .int a1), (2, .int a2), (3, .int a3), (4, .int v1)] []) (f := fu) ?_ e
  intro self2 v1 ihself2 e
  unfold MX2_methodTo_B3 at e
  refine V_iload (q := 5) X (TB.get tb_X2_methodTo 2 rfl) rfl rfl ?_
  refine V_aload_n (q := 6) X (TB.get tb_X2_methodTo 3 rfl) rfl rfl rfl ?_
  obtain ⟨x3, ex3, e⟩ := bs e
  refine V_getR (q := 9) X (TB.get tb_X2_methodTo 4 rfl) rfl lf_RX2_18 ex3 ?_
  refine V_iload_n (q := 10) X (TB.get tb_X2_methodTo 5 rfl) rfl rfl rfl ?_
  obtain ⟨x4, ex4, e⟩ := bs e
  refine V_iaload (q := 11) X (TB.get tb_X2_methodTo 6 rfl) rfl ex4 ?_
  refine V_icmp_ge (q := 14) (t := 70) X (TB.get tb_X2_methodTo 7 rfl) rfl rfl (fun hc => ?_) (fun hc => ?_)
  · have e := (if_pos hc).symm.trans e
    refine V_iconst (v := -1) (q := 71) X (TB.get tb_X2_methodTo 40 rfl) c_iconst_m1 rfl ?_
    cases e
    exact V_iret X hr hlk (TB.get tb_X2_methodTo 41 rfl)
  · have e := (if_neg hc).symm.trans e
    refine V_aload_n (q := 15) X (TB.get tb_X2_methodTo 8 rfl) rfl rfl rfl ?_
    refine V_iload_n (q := 16) X (TB.get tb_X2_methodTo 9 rfl) rfl rfl rfl ?_
    refine V_iload (q := 18) X (TB.get tb_X2_methodTo 10 rfl) rfl rfl ?_
    refine V_iload_n (q := 19) X (TB.get tb_X2_methodTo 11 rfl) rfl rfl rfl ?_
    obtain ⟨x5, ex5, e⟩ := bs e
    refine V_callV (q := 22) (As := [.int a1, .int v1, .int a2]) (rest := []) (st' := [.int x5]) X (TB.get tb_X2_methodTo 12 rfl) rfl cv_RX2_54 (ok_X2_canBe a0 a1 v1 a2 h x5 ex5).1 (ok_X2_canBe a0 a1 v1 a2 h x5 ex5).2 (Nat.le_of_ble_eq_true rfl) rfl rfl (Nat.le_of_ble_eq_true rfl) rfl ?_
    refine jn_elim (P := (fun (k : Option (Int32)) => k = some res → V p l en (rmD 2) s m args below meth c 5 D tc B nn (Ar B nn) s.heap 0 0 (MQ below (QC D tc B nn (Ar B nn) (some (.int res)) h) args s 0 0 (Ar B nn)) h 64 [(0, .ref a0), (1, .int a1), (2, .int a2), (3, .int a3), (4, .int v1)] [])) e ?_ (fun j6 Jj6 e => ?_)
    · intro e
      refine V_iinc (q := 67) (v := v1 + (1 : Int32)) (lv' := [(4, .int (v1 + (1 : Int32))), (0, .ref a0), (1, .int a1), (2, .int a2), (3, .int a3)]) X (TB.get tb_X2_methodTo 38 rfl) rfl rfl (by rw [c_iconst_1]) (Nat.le_of_ble_eq_true rfl) rfl ?_
      refine V_goto (q := 3) X (TB.get tb_X2_methodTo 39 rfl) rfl ?_
      refine V_sub (lv' := [(0, .ref a0), (1, .int a1), (2, .int a2), (3, .int a3), (4, .int (v1 + (1 : Int32)))]) [1, 2, 3, 4, 0] rfl ?_
      exact ihself2 _ e
    refine V_if_eq (q := 25) (t := 64) X (TB.get tb_X2_methodTo 13 rfl) rfl rfl (fun hc => ?_) (fun hc => ?_)
    · have e := (if_pos hc).symm.trans e
      exact Jj6 e
    · have e := (if_neg hc).symm.trans e
      refine V_aload_n (q := 26) X (TB.get tb_X2_methodTo 14 rfl) rfl rfl rfl ?_
      obtain ⟨x7, ex7, e⟩ := bs e
      refine V_getR (q := 29) X (TB.get tb_X2_methodTo 15 rfl) rfl lf_RX2_33 ex7 ?_
      refine V_aload_n (q := 30) X (TB.get tb_X2_methodTo 16 rfl) rfl rfl rfl ?_
      refine V_iload_n (q := 31) X (TB.get tb_X2_methodTo 17 rfl) rfl rfl rfl ?_
      refine V_iload (q := 33) X (TB.get tb_X2_methodTo 18 rfl) rfl rfl ?_
      refine V_iload_n (q := 34) X (TB.get tb_X2_methodTo 19 rfl) rfl rfl rfl ?_
      refine V_iconst (v := 1) (q := 35) X (TB.get tb_X2_methodTo 20 rfl) c_iconst_1 rfl ?_
      obtain ⟨x8, ex8, e⟩ := bs e
      refine V_callV (q := 38) (As := [.int a1, .int v1, .int a2, .int (1 : Int32)]) (rest := [.ref x7]) (st' := [.int x8, .ref x7]) X (TB.get tb_X2_methodTo 21 rfl) rfl cv_RX2_62 (ok_X2_following a0 a1 v1 a2 (1 : Int32) h x8 ex8).1 (ok_X2_following a0 a1 v1 a2 (1 : Int32) h x8 ex8).2 (Nat.le_of_ble_eq_true rfl) rfl rfl (Nat.le_of_ble_eq_true rfl) rfl ?_
      obtain ⟨x9, ex9, e⟩ := bs e
      refine V_iaload (q := 39) X (TB.get tb_X2_methodTo 22 rfl) rfl ex9 ?_
      refine V_iload_n (q := 40) X (TB.get tb_X2_methodTo 23 rfl) rfl rfl rfl ?_
      refine V_icmp_eq (q := 43) (t := 61) X (TB.get tb_X2_methodTo 24 rfl) rfl rfl (fun hc => ?_) (fun hc => ?_)
      · have e := (if_pos hc).symm.trans e
        refine V_iload (q := 63) X (TB.get tb_X2_methodTo 36 rfl) rfl rfl ?_
        cases e
        exact V_iret X hr hlk (TB.get tb_X2_methodTo 37 rfl)
      · have e := (if_neg hc).symm.trans e
        refine V_aload_n (q := 44) X (TB.get tb_X2_methodTo 25 rfl) rfl rfl rfl ?_
        refine V_getR (q := 47) X (TB.get tb_X2_methodTo 26 rfl) rfl lf_RX2_33 ex7 ?_
        refine V_aload_n (q := 48) X (TB.get tb_X2_methodTo 27 rfl) rfl rfl rfl ?_
        refine V_iload_n (q := 49) X (TB.get tb_X2_methodTo 28 rfl) rfl rfl rfl ?_
        refine V_iload (q := 51) X (TB.get tb_X2_methodTo 29 rfl) rfl rfl ?_
        refine V_iload_n (q := 52) X (TB.get tb_X2_methodTo 30 rfl) rfl rfl rfl ?_
        refine V_iconst (v := 0) (q := 53) X (TB.get tb_X2_methodTo 31 rfl) c_iconst_0 rfl ?_
        obtain ⟨x10, ex10, e⟩ := bs e
        refine V_callV (q := 56) (As := [.int a1, .int v1, .int a2, .int (0 : Int32)]) (rest := [.ref x7]) (st' := [.int x10, .ref x7]) X (TB.get tb_X2_methodTo 32 rfl) rfl cv_RX2_62 (ok_X2_following a0 a1 v1 a2 (0 : Int32) h x10 ex10).1 (ok_X2_following a0 a1 v1 a2 (0 : Int32) h x10 ex10).2 (Nat.le_of_ble_eq_true rfl) rfl rfl (Nat.le_of_ble_eq_true rfl) rfl ?_
        obtain ⟨x11, ex11, e⟩ := bs e
        refine V_iaload (q := 57) X (TB.get tb_X2_methodTo 33 rfl) rfl ex11 ?_
        refine V_iload_n (q := 58) X (TB.get tb_X2_methodTo 34 rfl) rfl rfl rfl ?_
        refine V_icmp_ne (q := 61) (t := 64) X (TB.get tb_X2_methodTo 35 rfl) rfl rfl (fun hc => ?_) (fun hc => ?_)
        · have e := (if_neg hc).symm.trans e
          exact Jj6 e
        · have e := (if_pos hc).symm.trans e
          refine V_iload (q := 63) X (TB.get tb_X2_methodTo 36 rfl) rfl rfl ?_
          cases e
          exact V_iret X hr hlk (TB.get tb_X2_methodTo 37 rfl)
set_option maxRecDepth 100000 in
set_option maxHeartbeats 4000000 in
theorem ok_X2_measureSteps (fu : Nat) (a0 : Nat) (a1 : Int32) (h : Hp) (res : Hp) (e : MX2_measureSteps fu a0 a1 h = some res) : CK yX2_measureSteps cX2_measureSteps 4 none 3 [.ref a0, .int a1] h none res ∧ (h.1 a0).1 = 2 := by
  obtain ⟨hcl, e⟩ := h_g_inv e
  refine ⟨CK_of pn_RX2 cm_X2_measureSteps (Nat.le_of_ble_eq_true rfl) ?_, hcl⟩
  intro l D tc B nn p en s m args below meth c X hr hlk
  replace X : CX p (rmD 3) s m args c cX2_measureSteps 4 RX2 D tc 3 := X
  show V p l en (rmD 3) s m args below meth c 4 D tc B nn (Ar B nn) s.heap 0 0 (MQ below (QC D tc B nn (Ar B nn) none res) args s 0 0 (Ar B nn)) h 0 [(0, .ref a0), (1, .int a1)] []
  refine V_iconst (v := 0) (q := 1) X (TB.get tb_X2_measureSteps 0 rfl) c_iconst_0 rfl ?_
  refine V_istore_n (q := 2) (lv' := [(2, .int (0 : Int32)), (0, .ref a0), (1, .int a1)]) X (TB.get tb_X2_measureSteps 1 rfl) rfl rfl (Nat.le_of_ble_eq_true rfl) rfl ?_
  refine jn_elim (P := (fun (k : Hp → Option (Hp)) => ∀ (h1 : Hp), k h1 = some res → V p l en (rmD 3) s m args below meth c 4 D tc B nn (Ar B nn) s.heap 0 0 (MQ below (QC D tc B nn (Ar B nn) none res) args s 0 0 (Ar B nn)) h1 42 [(0, .ref a0), (1, .int a1)] [])) e ?_ (fun j2 Jj2 e => ?_)
  · intro h1 e
    refine V_iconst (v := 1) (q := 43) X (TB.get tb_X2_measureSteps 26 rfl) c_iconst_1 rfl ?_
    refine V_istore_n (q := 44) (lv' := [(2, .int (1 : Int32)), (0, .ref a0), (1, .int a1)]) X (TB.get tb_X2_measureSteps 27 rfl) rfl rfl (Nat.le_of_ble_eq_true rfl) rfl ?_
    refine V_sub (lv' := [(0, .ref a0), (1, .int a1), (2, .int (1 : Int32))]) [1, 2, 0] rfl ?_
    refine wh2_elim (P := fun v3 h4 => V p l en (rmD 3) s m args below meth c 4 D tc B nn (Ar B nn) s.heap 0 0 (MQ below (QC D tc B nn (Ar B nn) none res) args s 0 0 (Ar B nn)) h4 44 [(0, .ref a0), (1, .int a1), (2, .int v3)] []) (f := fu) ?_ e
    intro self5 v3 h4 ihself5 e
    unfold MX2_measureSteps_B44 at e
    refine V_iload_n (q := 45) X (TB.get tb_X2_measureSteps 28 rfl) rfl rfl rfl ?_
    refine V_aload_n (q := 46) X (TB.get tb_X2_measureSteps 29 rfl) rfl rfl rfl ?_
    obtain ⟨x6, ex6, e⟩ := bs e
    refine V_getR (q := 49) X (TB.get tb_X2_measureSteps 30 rfl) rfl lf_RX2_9 ex6 ?_
    refine V_iload_n (q := 50) X (TB.get tb_X2_measureSteps 31 rfl) rfl rfl rfl ?_
    obtain ⟨x7, ex7, e⟩ := bs e
    refine V_iaload (q := 51) X (TB.get tb_X2_measureSteps 32 rfl) rfl ex7 ?_
    refine V_icmp_ge (q := 54) (t := 108) X (TB.get tb_X2_measureSteps 33 rfl) rfl rfl (fun hc => ?_) (fun hc => ?_)
    · have e := (if_pos hc).symm.trans e
      cases e
      exact V_vret X hr hlk (TB.get tb_X2_measureSteps 66 rfl)
    · have e := (if_neg hc).symm.trans e
      refine V_iconst (v := 0) (q := 55) X (TB.get tb_X2_measureSteps 34 rfl) c_iconst_0 rfl ?_
      refine V_istore_n (q := 56) (lv' := [(3, .int (0 : Int32)), (0, .ref a0), (1, .int a1), (2, .int v3)]) X (TB.get tb_X2_measureSteps 35 rfl) rfl rfl (Nat.le_of_ble_eq_true rfl) rfl ?_
      refine jn_elim (P := (fun (k : Hp → Option (Hp)) => ∀ (h8 : Hp), k h8 = some res → V p l en (rmD 3) s m args below meth c 4 D tc B nn (Ar B nn) s.heap 0 0 (MQ below (QC D tc B nn (Ar B nn) none res) args s 0 0 (Ar B nn)) h8 102 [(0, .ref a0), (1, .int a1), (2, .int v3)] [])) e ?_ (fun j9 Jj9 e => ?_)
      · intro h8 e
        refine V_iinc (q := 105) (v := v3 + (1 : Int32)) (lv' := [(2, .int (v3 + (1 : Int32))), (0, .ref a0), (1, .int a1)]) X (TB.get tb_X2_measureSteps 64 rfl) rfl rfl (by rw [c_iconst_1]) (Nat.le_of_ble_eq_true rfl) rfl ?_
        refine V_goto (q := 44) X (TB.get tb_X2_measureSteps 65 rfl) rfl ?_
        refine V_sub (lv' := [(0, .ref a0), (1, .int a1), (2, .int (v3 + (1 : Int32)))]) [1, 2, 0] rfl ?_
        exact ihself5 _ _ e
      refine V_sub (lv' := [(0, .ref a0), (1, .int a1), (2, .int v3), (3, .int (0 : Int32))]) [1, 2, 3, 0] rfl ?_
      refine wh2_elim (P := fun v10 h11 => V p l en (rmD 3) s m args below meth c 4 D tc B nn (Ar B nn) s.heap 0 0 (MQ below (QC D tc B nn (Ar B nn) none res) args s 0 0 (Ar B nn)) h11 56 [(0, .ref a0), (1, .int a1), (2, .int v3), (3, .int v10)] []) (f := fu) ?_ e
      intro self12 v10 h11 ihself12 e
      unfold MX2_measureSteps_B56 at e
      refine V_iload_n (q := 57) X (TB.get tb_X2_measureSteps 36 rfl) rfl rfl rfl ?_
      refine V_aload_n (q := 58) X (TB.get tb_X2_measureSteps 37 rfl) rfl rfl rfl ?_
      obtain ⟨x13, ex13, e⟩ := bs e
      refine V_getR (q := 61) X (TB.get tb_X2_measureSteps 38 rfl) rfl lf_RX2_9 ex13 ?_
      refine V_iload_n (q := 62) X (TB.get tb_X2_measureSteps 39 rfl) rfl rfl rfl ?_
      obtain ⟨x14, ex14, e⟩ := bs e
      refine V_iaload (q := 63) X (TB.get tb_X2_measureSteps 40 rfl) rfl ex14 ?_
      refine V_icmp_ge (q := 66) (t := 102) X (TB.get tb_X2_measureSteps 41 rfl) rfl rfl (fun hc => ?_) (fun hc => ?_)
      · have e := (if_pos hc).symm.trans e
        refine V_sub (lv' := [(0, .ref a0), (1, .int a1), (2, .int v3)]) [0, 1, 2] rfl ?_
        exact Jj9 _ e
      · have e := (if_neg hc).symm.trans e
        refine V_aload_n (q := 67) X (TB.get tb_X2_measureSteps 42 rfl) rfl rfl rfl ?_
        obtain ⟨x15, ex15, e⟩ := bs e
        refine V_getR (q := 70) X (TB.get tb_X2_measureSteps 43 rfl) rfl lf_RX2_33 ex15 ?_
        refine V_iload_n (q := 71) X (TB.get tb_X2_measureSteps 44 rfl) rfl rfl rfl ?_
        obtain ⟨x16, ex16, e⟩ := bs e
        refine V_iaload (q := 72) X (TB.get tb_X2_measureSteps 45 rfl) rfl ex16 ?_
        refine V_iconst (v := -1) (q := 73) X (TB.get tb_X2_measureSteps 46 rfl) c_iconst_m1 rfl ?_
        refine jn_elim (P := (fun (k : Hp → Option (Hp)) => ∀ (h17 : Hp), k h17 = some res → V p l en (rmD 3) s m args below meth c 4 D tc B nn (Ar B nn) s.heap 0 0 (MQ below (QC D tc B nn (Ar B nn) none res) args s 0 0 (Ar B nn)) h17 96 [(0, .ref a0), (1, .int a1), (2, .int v3), (3, .int v10)] [])) e ?_ (fun j18 Jj18 e => ?_)
        · intro h17 e
          refine V_iinc (q := 99) (v := v10 + (1 : Int32)) (lv' := [(3, .int (v10 + (1 : Int32))), (0, .ref a0), (1, .int a1), (2, .int v3)]) X (TB.get tb_X2_measureSteps 62 rfl) rfl rfl (by rw [c_iconst_1]) (Nat.le_of_ble_eq_true rfl) rfl ?_
          refine V_goto (q := 56) X (TB.get tb_X2_measureSteps 63 rfl) rfl ?_
          refine V_sub (lv' := [(0, .ref a0), (1, .int a1), (2, .int v3), (3, .int (v10 + (1 : Int32)))]) [1, 2, 3, 0] rfl ?_
          exact ihself12 _ _ e
        refine V_icmp_ne (q := 76) (t := 96) X (TB.get tb_X2_measureSteps 47 rfl) rfl rfl (fun hc => ?_) (fun hc => ?_)
        · have e := (if_neg hc).symm.trans e
          exact Jj18 _ e
        · have e := (if_pos hc).symm.trans e
          refine V_aload_n (q := 77) X (TB.get tb_X2_measureSteps 48 rfl) rfl rfl rfl ?_
          refine V_iload_n (q := 78) X (TB.get tb_X2_measureSteps 49 rfl) rfl rfl rfl ?_
          refine V_iload_n (q := 79) X (TB.get tb_X2_measureSteps 50 rfl) rfl rfl rfl ?_
          refine V_iload_n (q := 80) X (TB.get tb_X2_measureSteps 51 rfl) rfl rfl rfl ?_
          refine V_iconst (v := 1) (q := 81) X (TB.get tb_X2_measureSteps 52 rfl) c_iconst_1 rfl ?_
          refine V_isub (q := 82) X (TB.get tb_X2_measureSteps 53 rfl) rfl ?_
          obtain ⟨x19, ex19, e⟩ := bs e
          refine V_callV (q := 85) (As := [.int a1, .int v10, .int (v3 - (1 : Int32))]) (rest := []) (st' := [.int x19]) X (TB.get tb_X2_measureSteps 54 rfl) rfl cv_RX2_77 (ok_X2_methodTo fu a0 a1 v10 (v3 - (1 : Int32)) h11 x19 ex19).1 (ok_X2_methodTo fu a0 a1 v10 (v3 - (1 : Int32)) h11 x19 ex19).2 (Nat.le_of_ble_eq_true rfl) rfl rfl (Nat.le_of_ble_eq_true rfl) rfl ?_
          refine V_iconst (v := -1) (q := 86) X (TB.get tb_X2_measureSteps 55 rfl) c_iconst_m1 rfl ?_
          refine V_icmp_eq (q := 89) (t := 96) X (TB.get tb_X2_measureSteps 56 rfl) rfl rfl (fun hc => ?_) (fun hc => ?_)
          · have e := (if_pos hc).symm.trans e
            exact Jj18 _ e
          · have e := (if_neg hc).symm.trans e
            refine V_aload_n (q := 90) X (TB.get tb_X2_measureSteps 57 rfl) rfl rfl rfl ?_
            refine V_getR (q := 93) X (TB.get tb_X2_measureSteps 58 rfl) rfl lf_RX2_33 ex15 ?_
            refine V_iload_n (q := 94) X (TB.get tb_X2_measureSteps 59 rfl) rfl rfl rfl ?_
            refine V_iload_n (q := 95) X (TB.get tb_X2_measureSteps 60 rfl) rfl rfl rfl ?_
            obtain ⟨h20, eh20, e⟩ := bs e
            refine V_iastore (q := 96) X (TB.get tb_X2_measureSteps 61 rfl) rfl eh20 ?_
            exact Jj18 _ e
  refine V_sub (lv' := [(0, .ref a0), (1, .int a1), (2, .int (0 : Int32))]) [1, 2, 0] rfl ?_
  refine wh2_elim (P := fun v21 h22 => V p l en (rmD 3) s m args below meth c 4 D tc B nn (Ar B nn) s.heap 0 0 (MQ below (QC D tc B nn (Ar B nn) none res) args s 0 0 (Ar B nn)) h22 2 [(0, .ref a0), (1, .int a1), (2, .int v21)] []) (f := fu) ?_ e
  intro self23 v21 h22 ihself23 e
  unfold MX2_measureSteps_B2 at e
  refine V_iload_n (q := 3) X (TB.get tb_X2_measureSteps 2 rfl) rfl rfl rfl ?_
  refine V_aload_n (q := 4) X (TB.get tb_X2_measureSteps 3 rfl) rfl rfl rfl ?_
  obtain ⟨x24, ex24, e⟩ := bs e
  refine V_getR (q := 7) X (TB.get tb_X2_measureSteps 4 rfl) rfl lf_RX2_9 ex24 ?_
  refine V_iload_n (q := 8) X (TB.get tb_X2_measureSteps 5 rfl) rfl rfl rfl ?_
  obtain ⟨x25, ex25, e⟩ := bs e
  refine V_iaload (q := 9) X (TB.get tb_X2_measureSteps 6 rfl) rfl ex25 ?_
  refine V_icmp_ge (q := 12) (t := 42) X (TB.get tb_X2_measureSteps 7 rfl) rfl rfl (fun hc => ?_) (fun hc => ?_)
  · have e := (if_pos hc).symm.trans e
    refine V_sub (lv' := [(0, .ref a0), (1, .int a1)]) [0, 1] rfl ?_
    exact Jj2 _ e
  · have e := (if_neg hc).symm.trans e
    refine V_aload_n (q := 13) X (TB.get tb_X2_measureSteps 8 rfl) rfl rfl rfl ?_
    obtain ⟨x26, ex26, e⟩ := bs e
    refine V_getR (q := 16) X (TB.get tb_X2_measureSteps 9 rfl) rfl lf_RX2_33 ex26 ?_
    refine V_iload_n (q := 17) X (TB.get tb_X2_measureSteps 10 rfl) rfl rfl rfl ?_
    refine V_aload_n (q := 18) X (TB.get tb_X2_measureSteps 11 rfl) rfl rfl rfl ?_
    obtain ⟨x27, ex27, e⟩ := bs e
    refine V_getR (q := 21) X (TB.get tb_X2_measureSteps 12 rfl) rfl lf_RX2_15 ex27 ?_
    refine V_iload_n (q := 22) X (TB.get tb_X2_measureSteps 13 rfl) rfl rfl rfl ?_
    obtain ⟨x28, ex28, e⟩ := bs e
    refine V_iaload (q := 23) X (TB.get tb_X2_measureSteps 14 rfl) rfl ex28 ?_
    refine V_iload_n (q := 24) X (TB.get tb_X2_measureSteps 15 rfl) rfl rfl rfl ?_
    refine V_ishr (q := 25) X (TB.get tb_X2_measureSteps 16 rfl) rfl ?_
    refine V_iconst (v := 1) (q := 26) X (TB.get tb_X2_measureSteps 17 rfl) c_iconst_1 rfl ?_
    refine V_iand (q := 27) X (TB.get tb_X2_measureSteps 18 rfl) rfl ?_
    refine jn_elim (P := (fun (k : Int32 → Option (Hp)) => ∀ (w29 : Int32), k w29 = some res → V p l en (rmD 3) s m args below meth c 4 D tc B nn (Ar B nn) s.heap 0 0 (MQ below (QC D tc B nn (Ar B nn) none res) args s 0 0 (Ar B nn)) h22 35 [(0, .ref a0), (1, .int a1), (2, .int v21)] [.int w29, .int v21, .ref x26])) e ?_ (fun j30 Jj30 e => ?_)
    · intro w29 e
      obtain ⟨h31, eh31, e⟩ := bs e
      refine V_iastore (q := 36) X (TB.get tb_X2_measureSteps 23 rfl) rfl eh31 ?_
      refine V_iinc (q := 39) (v := v21 + (1 : Int32)) (lv' := [(2, .int (v21 + (1 : Int32))), (0, .ref a0), (1, .int a1)]) X (TB.get tb_X2_measureSteps 24 rfl) rfl rfl (by rw [c_iconst_1]) (Nat.le_of_ble_eq_true rfl) rfl ?_
      refine V_goto (q := 2) X (TB.get tb_X2_measureSteps 25 rfl) rfl ?_
      refine V_sub (lv' := [(0, .ref a0), (1, .int a1), (2, .int (v21 + (1 : Int32)))]) [1, 2, 0] rfl ?_
      exact ihself23 _ _ e
    refine V_if_eq (q := 30) (t := 34) X (TB.get tb_X2_measureSteps 19 rfl) rfl rfl (fun hc => ?_) (fun hc => ?_)
    · have e := (if_pos hc).symm.trans e
      refine V_iconst (v := -1) (q := 35) X (TB.get tb_X2_measureSteps 22 rfl) c_iconst_m1 rfl ?_
      exact Jj30 _ e
    · have e := (if_neg hc).symm.trans e
      refine V_iconst (v := 0) (q := 31) X (TB.get tb_X2_measureSteps 20 rfl) c_iconst_0 rfl ?_
      refine V_goto (q := 35) X (TB.get tb_X2_measureSteps 21 rfl) rfl ?_
      exact Jj30 _ e
set_option maxRecDepth 100000 in
set_option maxHeartbeats 4000000 in
theorem ok_X2_hopeless (fu : Nat) (a0 : Nat) (a1 : Int32) (h : Hp) (res : Int32 × Hp) (e : MX2_hopeless fu a0 a1 h = some res) : CK yX2_hopeless cX2_hopeless 4 (some .int) 4 [.ref a0, .int a1] h (some (.int res.1)) res.2 ∧ (h.1 a0).1 = 2 := by
  obtain ⟨hcl, e⟩ := h_g_inv e
  refine ⟨CK_of pn_RX2 cm_X2_hopeless (Nat.le_of_ble_eq_true rfl) ?_, hcl⟩
  intro l D tc B nn p en s m args below meth c X hr hlk
  replace X : CX p (rmD 4) s m args c cX2_hopeless 4 RX2 D tc 4 := X
  show V p l en (rmD 4) s m args below meth c 4 D tc B nn (Ar B nn) s.heap 0 0 (MQ below (QC D tc B nn (Ar B nn) (some (.int res.1)) res.2) args s 0 0 (Ar B nn)) h 0 [(0, .ref a0), (1, .int a1)] []
  refine V_aload_n (q := 1) X (TB.get tb_X2_hopeless 0 rfl) rfl rfl rfl ?_
  refine V_iload_n (q := 2) X (TB.get tb_X2_hopeless 1 rfl) rfl rfl rfl ?_
  obtain ⟨h1, eh1, e⟩ := bs e
  refine V_callV (q := 5) (As := [.int a1]) (rest := []) (st' := []) X (TB.get tb_X2_hopeless 2 rfl) rfl cv_RX2_73 (ok_X2_measureSteps fu a0 a1 h h1 eh1).1 (ok_X2_measureSteps fu a0 a1 h h1 eh1).2 (Nat.le_of_ble_eq_true rfl) rfl rfl (Nat.le_of_ble_eq_true rfl) rfl ?_
  refine V_iconst (v := 0) (q := 6) X (TB.get tb_X2_hopeless 3 rfl) c_iconst_0 rfl ?_
  refine V_istore_n (q := 7) (lv' := [(2, .int (0 : Int32)), (0, .ref a0), (1, .int a1)]) X (TB.get tb_X2_hopeless 4 rfl) rfl rfl (Nat.le_of_ble_eq_true rfl) rfl ?_
  refine V_iconst (v := 0) (q := 8) X (TB.get tb_X2_hopeless 5 rfl) c_iconst_0 rfl ?_
  refine V_istore_n (q := 9) (lv' := [(3, .int (0 : Int32)), (2, .int (0 : Int32)), (0, .ref a0), (1, .int a1)]) X (TB.get tb_X2_hopeless 6 rfl) rfl rfl (Nat.le_of_ble_eq_true rfl) rfl ?_
  refine V_sub (lv' := [(0, .ref a0), (1, .int a1), (2, .int (0 : Int32)), (3, .int (0 : Int32))]) [2, 3, 1, 0] rfl ?_
  refine wh2_elim (P := fun v2 v3 => V p l en (rmD 4) s m args below meth c 4 D tc B nn (Ar B nn) s.heap 0 0 (MQ below (QC D tc B nn (Ar B nn) (some (.int res.1)) res.2) args s 0 0 (Ar B nn)) h1 9 [(0, .ref a0), (1, .int a1), (2, .int v2), (3, .int v3)] []) (f := fu) ?_ e
  intro self4 v2 v3 ihself4 e
  unfold MX2_hopeless_B9 at e
  refine V_iload_n (q := 10) X (TB.get tb_X2_hopeless 7 rfl) rfl rfl rfl ?_
  refine V_aload_n (q := 11) X (TB.get tb_X2_hopeless 8 rfl) rfl rfl rfl ?_
  obtain ⟨x5, ex5, e⟩ := bs e
  refine V_getR (q := 14) X (TB.get tb_X2_hopeless 9 rfl) rfl lf_RX2_9 ex5 ?_
  refine V_iload_n (q := 15) X (TB.get tb_X2_hopeless 10 rfl) rfl rfl rfl ?_
  obtain ⟨x6, ex6, e⟩ := bs e
  refine V_iaload (q := 16) X (TB.get tb_X2_hopeless 11 rfl) rfl ex6 ?_
  refine V_icmp_ge (q := 19) (t := 41) X (TB.get tb_X2_hopeless 12 rfl) rfl rfl (fun hc => ?_) (fun hc => ?_)
  · have e := (if_pos hc).symm.trans e
    refine V_iload_n (q := 42) X (TB.get tb_X2_hopeless 27 rfl) rfl rfl rfl ?_
    cases e
    exact V_iret X hr hlk (TB.get tb_X2_hopeless 28 rfl)
  · have e := (if_neg hc).symm.trans e
    refine V_aload_n (q := 20) X (TB.get tb_X2_hopeless 13 rfl) rfl rfl rfl ?_
    obtain ⟨x7, ex7, e⟩ := bs e
    refine V_getR (q := 23) X (TB.get tb_X2_hopeless 14 rfl) rfl lf_RX2_33 ex7 ?_
    refine V_iload_n (q := 24) X (TB.get tb_X2_hopeless 15 rfl) rfl rfl rfl ?_
    obtain ⟨x8, ex8, e⟩ := bs e
    refine V_iaload (q := 25) X (TB.get tb_X2_hopeless 16 rfl) rfl ex8 ?_
    refine V_iconst (v := -1) (q := 26) X (TB.get tb_X2_hopeless 17 rfl) c_iconst_m1 rfl ?_
    refine jn_elim (P := (fun (k : Int32 → Option (Int32 × Hp)) => ∀ (v9 : Int32), k v9 = some res → V p l en (rmD 4) s m args below meth c 4 D tc B nn (Ar B nn) s.heap 0 0 (MQ below (QC D tc B nn (Ar B nn) (some (.int res.1)) res.2) args s 0 0 (Ar B nn)) h1 35 [(0, .ref a0), (1, .int a1), (2, .int v9), (3, .int v3)] [])) e ?_ (fun j10 Jj10 e => ?_)
    · intro v9 e
      refine V_iinc (q := 38) (v := v3 + (1 : Int32)) (lv' := [(3, .int (v3 + (1 : Int32))), (0, .ref a0), (1, .int a1), (2, .int v9)]) X (TB.get tb_X2_hopeless 25 rfl) rfl rfl (by rw [c_iconst_1]) (Nat.le_of_ble_eq_true rfl) rfl ?_
      refine V_goto (q := 9) X (TB.get tb_X2_hopeless 26 rfl) rfl ?_
      refine V_sub (lv' := [(0, .ref a0), (1, .int a1), (2, .int v9), (3, .int (v3 + (1 : Int32)))]) [1, 2, 3, 0] rfl ?_
      exact ihself4 _ _ e
    refine V_icmp_ne (q := 29) (t := 35) X (TB.get tb_X2_hopeless 18 rfl) rfl rfl (fun hc => ?_) (fun hc => ?_)
    · have e := (if_neg hc).symm.trans e
      exact Jj10 _ e
    · have e := (if_pos hc).symm.trans e
      refine V_iload_n (q := 30) X (TB.get tb_X2_hopeless 19 rfl) rfl rfl rfl ?_
      refine V_iconst (v := 1) (q := 31) X (TB.get tb_X2_hopeless 20 rfl) c_iconst_1 rfl ?_
      refine V_iload_n (q := 32) X (TB.get tb_X2_hopeless 21 rfl) rfl rfl rfl ?_
      refine V_ishl (q := 33) X (TB.get tb_X2_hopeless 22 rfl) rfl ?_
      refine V_ior (q := 34) X (TB.get tb_X2_hopeless 23 rfl) rfl ?_
      refine V_istore_n (q := 35) (lv' := [(2, .int (v2 ||| ((1 : Int32) <<< (v3 &&& 31)))), (0, .ref a0), (1, .int a1), (3, .int v3)]) X (TB.get tb_X2_hopeless 24 rfl) rfl rfl (Nat.le_of_ble_eq_true rfl) rfl ?_
      refine V_sub (lv' := [(0, .ref a0), (1, .int a1), (2, .int (v2 ||| ((1 : Int32) <<< (v3 &&& 31)))), (3, .int v3)]) [1, 2, 0, 3] rfl ?_
      exact Jj10 _ e
set_option maxRecDepth 100000 in
set_option maxHeartbeats 4000000 in
theorem ok_X2_stepsToEnd (fu : Nat) (a0 : Nat) (a1 : Int32) (a2 : Int32) (h : Hp) (res : Int32 × Hp) (e : MX2_stepsToEnd fu a0 a1 a2 h = some res) : CK yX2_stepsToEnd cX2_stepsToEnd 3 (some .int) 4 [.ref a0, .int a1, .int a2] h (some (.int res.1)) res.2 ∧ (h.1 a0).1 = 2 := by
  obtain ⟨hcl, e⟩ := h_g_inv e
  refine ⟨CK_of pn_RX2 cm_X2_stepsToEnd (Nat.le_of_ble_eq_true rfl) ?_, hcl⟩
  intro l D tc B nn p en s m args below meth c X hr hlk
  replace X : CX p (rmD 4) s m args c cX2_stepsToEnd 3 RX2 D tc 4 := X
  show V p l en (rmD 4) s m args below meth c 3 D tc B nn (Ar B nn) s.heap 0 0 (MQ below (QC D tc B nn (Ar B nn) (some (.int res.1)) res.2) args s 0 0 (Ar B nn)) h 0 [(0, .ref a0), (1, .int a1), (2, .int a2)] []
  refine V_aload_n (q := 1) X (TB.get tb_X2_stepsToEnd 0 rfl) rfl rfl rfl ?_
  refine V_iload_n (q := 2) X (TB.get tb_X2_stepsToEnd 1 rfl) rfl rfl rfl ?_
  obtain ⟨h1, eh1, e⟩ := bs e
  refine V_callV (q := 5) (As := [.int a1]) (rest := []) (st' := []) X (TB.get tb_X2_stepsToEnd 2 rfl) rfl cv_RX2_73 (ok_X2_measureSteps fu a0 a1 h h1 eh1).1 (ok_X2_measureSteps fu a0 a1 h h1 eh1).2 (Nat.le_of_ble_eq_true rfl) rfl rfl (Nat.le_of_ble_eq_true rfl) rfl ?_
  refine V_aload_n (q := 6) X (TB.get tb_X2_stepsToEnd 3 rfl) rfl rfl rfl ?_
  obtain ⟨x2, ex2, e⟩ := bs e
  refine V_getR (q := 9) X (TB.get tb_X2_stepsToEnd 4 rfl) rfl lf_RX2_33 ex2 ?_
  refine V_iload_n (q := 10) X (TB.get tb_X2_stepsToEnd 5 rfl) rfl rfl rfl ?_
  obtain ⟨x3, ex3, e⟩ := bs e
  refine V_iaload (q := 11) X (TB.get tb_X2_stepsToEnd 6 rfl) rfl ex3 ?_
  cases e
  exact V_iret X hr hlk (TB.get tb_X2_stepsToEnd 7 rfl)
set_option maxRecDepth 100000 in
set_option maxHeartbeats 4000000 in
theorem ok_X2_comeUnlike (a0 : Nat) (a1 : Int32) (a2 : Int32) (a3 : Int32) (a4 : Int32) (a5 : Int32) (h : Hp) (res : Int32) (e : MX2_comeUnlike a0 a1 a2 a3 a4 a5 h = some res) : CK yX2_comeUnlike cX2_comeUnlike 6 (some .boolean) 2 [.ref a0, .int a1, .int a2, .int a3, .int a4, .int a5] h (some (.int res)) h ∧ (h.1 a0).1 = 2 := by
  obtain ⟨hcl, e⟩ := h_g_inv e
  refine ⟨CK_of pn_RX2 cm_X2_comeUnlike (Nat.le_of_ble_eq_true rfl) ?_, hcl⟩
  intro l D tc B nn p en s m args below meth c X hr hlk
  replace X : CX p (rmD 2) s m args c cX2_comeUnlike 6 RX2 D tc 2 := X
  show V p l en (rmD 2) s m args below meth c 6 D tc B nn (Ar B nn) s.heap 0 0 (MQ below (QC D tc B nn (Ar B nn) (some (.int res)) h) args s 0 0 (Ar B nn)) h 0 [(0, .ref a0), (1, .int a1), (2, .int a2), (3, .int a3), (4, .int a4), (5, .int a5)] []
  refine V_aload_n (q := 1) X (TB.get tb_X2_comeUnlike 0 rfl) rfl rfl rfl ?_
  obtain ⟨x1, ex1, e⟩ := bs e
  refine V_getR (q := 4) X (TB.get tb_X2_comeUnlike 1 rfl) rfl lf_RX2_36 ex1 ?_
  refine V_aload_n (q := 5) X (TB.get tb_X2_comeUnlike 2 rfl) rfl rfl rfl ?_
  refine V_iload_n (q := 6) X (TB.get tb_X2_comeUnlike 3 rfl) rfl rfl rfl ?_
  refine V_iload_n (q := 7) X (TB.get tb_X2_comeUnlike 4 rfl) rfl rfl rfl ?_
  refine V_iload_n (q := 8) X (TB.get tb_X2_comeUnlike 5 rfl) rfl rfl rfl ?_
  refine V_iload (q := 10) X (TB.get tb_X2_comeUnlike 6 rfl) rfl rfl ?_
  obtain ⟨x2, ex2, e⟩ := bs e
  refine V_callV (q := 13) (As := [.int a1, .int a2, .int a3, .int a5]) (rest := [.ref x1]) (st' := [.int x2, .ref x1]) X (TB.get tb_X2_comeUnlike 7 rfl) rfl cv_RX2_62 (ok_X2_following a0 a1 a2 a3 a5 h x2 ex2).1 (ok_X2_following a0 a1 a2 a3 a5 h x2 ex2).2 (Nat.le_of_ble_eq_true rfl) rfl rfl (Nat.le_of_ble_eq_true rfl) rfl ?_
  obtain ⟨x3, ex3, e⟩ := bs e
  refine V_iaload (q := 14) X (TB.get tb_X2_comeUnlike 8 rfl) rfl ex3 ?_
  refine V_aload_n (q := 15) X (TB.get tb_X2_comeUnlike 9 rfl) rfl rfl rfl ?_
  refine V_iload_n (q := 16) X (TB.get tb_X2_comeUnlike 10 rfl) rfl rfl rfl ?_
  refine V_iload_n (q := 17) X (TB.get tb_X2_comeUnlike 11 rfl) rfl rfl rfl ?_
  refine V_iload (q := 19) X (TB.get tb_X2_comeUnlike 12 rfl) rfl rfl ?_
  refine V_iload (q := 21) X (TB.get tb_X2_comeUnlike 13 rfl) rfl rfl ?_
  obtain ⟨x4, ex4, e⟩ := bs e
  refine V_callV (q := 24) (As := [.int a1, .int a2, .int a4, .int a5]) (rest := [.int x3]) (st' := [.int x4, .int x3]) X (TB.get tb_X2_comeUnlike 14 rfl) rfl cv_RX2_62 (ok_X2_following a0 a1 a2 a4 a5 h x4 ex4).1 (ok_X2_following a0 a1 a2 a4 a5 h x4 ex4).2 (Nat.le_of_ble_eq_true rfl) rfl rfl (Nat.le_of_ble_eq_true rfl) rfl ?_
  refine V_ishr (q := 25) X (TB.get tb_X2_comeUnlike 15 rfl) rfl ?_
  refine V_iconst (v := 1) (q := 26) X (TB.get tb_X2_comeUnlike 16 rfl) c_iconst_1 rfl ?_
  refine V_iand (q := 27) X (TB.get tb_X2_comeUnlike 17 rfl) rfl ?_
  refine V_if_ne (q := 30) (t := 34) X (TB.get tb_X2_comeUnlike 18 rfl) rfl rfl (fun hc => ?_) (fun hc => ?_)
  · have e := (if_neg hc).symm.trans e
    refine V_iconst (v := 0) (q := 35) X (TB.get tb_X2_comeUnlike 21 rfl) c_iconst_0 rfl ?_
    cases e
    exact V_zret X hr hlk (Or.inl rfl) (TB.get tb_X2_comeUnlike 22 rfl)
  · have e := (if_pos hc).symm.trans e
    refine V_iconst (v := 1) (q := 31) X (TB.get tb_X2_comeUnlike 19 rfl) c_iconst_1 rfl ?_
    refine V_goto (q := 35) X (TB.get tb_X2_comeUnlike 20 rfl) rfl ?_
    cases e
    exact V_zret X hr hlk (Or.inr rfl) (TB.get tb_X2_comeUnlike 22 rfl)
set_option maxRecDepth 100000 in
set_option maxHeartbeats 4000000 in
theorem ok_X2_differ (fu : Nat) (a0 : Nat) (a1 : Int32) (a2 : Int32) (a3 : Int32) (h : Hp) (res : Int32) (e : MX2_differ fu a0 a1 a2 a3 h = some res) : CK yX2_differ cX2_differ 5 (some .boolean) 3 [.ref a0, .int a1, .int a2, .int a3] h (some (.int res)) h ∧ (h.1 a0).1 = 2 := by
  obtain ⟨hcl, e⟩ := h_g_inv e
  refine ⟨CK_of pn_RX2 cm_X2_differ (Nat.le_of_ble_eq_true rfl) ?_, hcl⟩
  intro l D tc B nn p en s m args below meth c X hr hlk
  replace X : CX p (rmD 3) s m args c cX2_differ 5 RX2 D tc 3 := X
  show V p l en (rmD 3) s m args below meth c 5 D tc B nn (Ar B nn) s.heap 0 0 (MQ below (QC D tc B nn (Ar B nn) (some (.int res)) h) args s 0 0 (Ar B nn)) h 0 [(0, .ref a0), (1, .int a1), (2, .int a2), (3, .int a3)] []
  refine V_aload_n (q := 1) X (TB.get tb_X2_differ 0 rfl) rfl rfl rfl ?_
  obtain ⟨x1, ex1, e⟩ := bs e
  refine V_getR (q := 4) X (TB.get tb_X2_differ 1 rfl) rfl lf_RX2_15 ex1 ?_
  refine V_iload_n (q := 5) X (TB.get tb_X2_differ 2 rfl) rfl rfl rfl ?_
  obtain ⟨x2, ex2, e⟩ := bs e
  refine V_iaload (q := 6) X (TB.get tb_X2_differ 3 rfl) rfl ex2 ?_
  refine V_iload_n (q := 7) X (TB.get tb_X2_differ 4 rfl) rfl rfl rfl ?_
  refine V_ishr (q := 8) X (TB.get tb_X2_differ 5 rfl) rfl ?_
  refine V_iconst (v := 1) (q := 9) X (TB.get tb_X2_differ 6 rfl) c_iconst_1 rfl ?_
  refine V_iand (q := 10) X (TB.get tb_X2_differ 7 rfl) rfl ?_
  refine V_aload_n (q := 11) X (TB.get tb_X2_differ 8 rfl) rfl rfl rfl ?_
  refine V_getR (q := 14) X (TB.get tb_X2_differ 9 rfl) rfl lf_RX2_15 ex1 ?_
  refine V_iload_n (q := 15) X (TB.get tb_X2_differ 10 rfl) rfl rfl rfl ?_
  refine V_iaload (q := 16) X (TB.get tb_X2_differ 11 rfl) rfl ex2 ?_
  refine V_iload_n (q := 17) X (TB.get tb_X2_differ 12 rfl) rfl rfl rfl ?_
  refine V_ishr (q := 18) X (TB.get tb_X2_differ 13 rfl) rfl ?_
  refine V_iconst (v := 1) (q := 19) X (TB.get tb_X2_differ 14 rfl) c_iconst_1 rfl ?_
  refine V_iand (q := 20) X (TB.get tb_X2_differ 15 rfl) rfl ?_
  refine V_icmp_eq (q := 23) (t := 25) X (TB.get tb_X2_differ 16 rfl) rfl rfl (fun hc => ?_) (fun hc => ?_)
  · have e := (if_pos hc).symm.trans e
    refine V_iconst (v := 0) (q := 26) X (TB.get tb_X2_differ 19 rfl) c_iconst_0 rfl ?_
    refine V_istore (q := 28) (lv' := [(4, .int (0 : Int32)), (0, .ref a0), (1, .int a1), (2, .int a2), (3, .int a3)]) X (TB.get tb_X2_differ 20 rfl) rfl (Nat.le_of_ble_eq_true rfl) rfl ?_
    refine V_sub (lv' := [(0, .ref a0), (1, .int a1), (2, .int a2), (3, .int a3), (4, .int (0 : Int32))]) [1, 2, 3, 4, 0] rfl ?_
    refine wh1_elim (P := fun v3 => V p l en (rmD 3) s m args below meth c 5 D tc B nn (Ar B nn) s.heap 0 0 (MQ below (QC D tc B nn (Ar B nn) (some (.int res)) h) args s 0 0 (Ar B nn)) h 28 [(0, .ref a0), (1, .int a1), (2, .int a2), (3, .int a3), (4, .int v3)] []) (f := fu) ?_ e
    intro self4 v3 ihself4 e
    unfold MX2_differ_B28 at e
    refine V_iload (q := 30) X (TB.get tb_X2_differ 21 rfl) rfl rfl ?_
    refine V_aload_n (q := 31) X (TB.get tb_X2_differ 22 rfl) rfl rfl rfl ?_
    obtain ⟨x5, ex5, e⟩ := bs e
    refine V_getR (q := 34) X (TB.get tb_X2_differ 23 rfl) rfl lf_RX2_18 ex5 ?_
    refine V_iload_n (q := 35) X (TB.get tb_X2_differ 24 rfl) rfl rfl rfl ?_
    obtain ⟨x6, ex6, e⟩ := bs e
    refine V_iaload (q := 36) X (TB.get tb_X2_differ 25 rfl) rfl ex6 ?_
    refine V_icmp_ge (q := 39) (t := 105) X (TB.get tb_X2_differ 26 rfl) rfl rfl (fun hc => ?_) (fun hc => ?_)
    · have e := (if_pos hc).symm.trans e
      refine V_iconst (v := 0) (q := 106) X (TB.get tb_X2_differ 66 rfl) c_iconst_0 rfl ?_
      cases e
      exact V_zret X hr hlk (Or.inl rfl) (TB.get tb_X2_differ 67 rfl)
    · have e := (if_neg hc).symm.trans e
      refine V_aload_n (q := 40) X (TB.get tb_X2_differ 27 rfl) rfl rfl rfl ?_
      refine V_iload_n (q := 41) X (TB.get tb_X2_differ 28 rfl) rfl rfl rfl ?_
      refine V_iload (q := 43) X (TB.get tb_X2_differ 29 rfl) rfl rfl ?_
      refine V_iload_n (q := 44) X (TB.get tb_X2_differ 30 rfl) rfl rfl rfl ?_
      obtain ⟨x7, ex7, e⟩ := bs e
      refine V_callV (q := 47) (As := [.int a1, .int v3, .int a2]) (rest := []) (st' := [.int x7]) X (TB.get tb_X2_differ 31 rfl) rfl cv_RX2_54 (ok_X2_canBe a0 a1 v3 a2 h x7 ex7).1 (ok_X2_canBe a0 a1 v3 a2 h x7 ex7).2 (Nat.le_of_ble_eq_true rfl) rfl rfl (Nat.le_of_ble_eq_true rfl) rfl ?_
      refine V_aload_n (q := 48) X (TB.get tb_X2_differ 32 rfl) rfl rfl rfl ?_
      refine V_iload_n (q := 49) X (TB.get tb_X2_differ 33 rfl) rfl rfl rfl ?_
      refine V_iload (q := 51) X (TB.get tb_X2_differ 34 rfl) rfl rfl ?_
      refine V_iload_n (q := 52) X (TB.get tb_X2_differ 35 rfl) rfl rfl rfl ?_
      obtain ⟨x8, ex8, e⟩ := bs e
      refine V_callV (q := 55) (As := [.int a1, .int v3, .int a3]) (rest := [.int x7]) (st' := [.int x8, .int x7]) X (TB.get tb_X2_differ 36 rfl) rfl cv_RX2_54 (ok_X2_canBe a0 a1 v3 a3 h x8 ex8).1 (ok_X2_canBe a0 a1 v3 a3 h x8 ex8).2 (Nat.le_of_ble_eq_true rfl) rfl rfl (Nat.le_of_ble_eq_true rfl) rfl ?_
      refine V_icmp_eq (q := 58) (t := 60) X (TB.get tb_X2_differ 37 rfl) rfl rfl (fun hc => ?_) (fun hc => ?_)
      · have e := (if_pos hc).symm.trans e
        refine V_aload_n (q := 61) X (TB.get tb_X2_differ 40 rfl) rfl rfl rfl ?_
        refine V_iload_n (q := 62) X (TB.get tb_X2_differ 41 rfl) rfl rfl rfl ?_
        refine V_iload (q := 64) X (TB.get tb_X2_differ 42 rfl) rfl rfl ?_
        refine V_iload_n (q := 65) X (TB.get tb_X2_differ 43 rfl) rfl rfl rfl ?_
        refine V_callV (q := 68) (As := [.int a1, .int v3, .int a2]) (rest := []) (st' := [.int x7]) X (TB.get tb_X2_differ 44 rfl) rfl cv_RX2_54 (ok_X2_canBe a0 a1 v3 a2 h x7 ex7).1 (ok_X2_canBe a0 a1 v3 a2 h x7 ex7).2 (Nat.le_of_ble_eq_true rfl) rfl rfl (Nat.le_of_ble_eq_true rfl) rfl ?_
        refine jn_elim (P := (fun (k : Option (Int32)) => k = some res → V p l en (rmD 3) s m args below meth c 5 D tc B nn (Ar B nn) s.heap 0 0 (MQ below (QC D tc B nn (Ar B nn) (some (.int res)) h) args s 0 0 (Ar B nn)) h 99 [(0, .ref a0), (1, .int a1), (2, .int a2), (3, .int a3), (4, .int v3)] [])) e ?_ (fun j9 Jj9 e => ?_)
        · intro e
          refine V_iinc (q := 102) (v := v3 + (1 : Int32)) (lv' := [(4, .int (v3 + (1 : Int32))), (0, .ref a0), (1, .int a1), (2, .int a2), (3, .int a3)]) X (TB.get tb_X2_differ 64 rfl) rfl rfl (by rw [c_iconst_1]) (Nat.le_of_ble_eq_true rfl) rfl ?_
          refine V_goto (q := 28) X (TB.get tb_X2_differ 65 rfl) rfl ?_
          refine V_sub (lv' := [(0, .ref a0), (1, .int a1), (2, .int a2), (3, .int a3), (4, .int (v3 + (1 : Int32)))]) [1, 2, 3, 4, 0] rfl ?_
          exact ihself4 _ e
        refine V_if_eq (q := 71) (t := 99) X (TB.get tb_X2_differ 45 rfl) rfl rfl (fun hc => ?_) (fun hc => ?_)
        · have e := (if_pos hc).symm.trans e
          exact Jj9 e
        · have e := (if_neg hc).symm.trans e
          refine V_aload_n (q := 72) X (TB.get tb_X2_differ 46 rfl) rfl rfl rfl ?_
          refine V_iload_n (q := 73) X (TB.get tb_X2_differ 47 rfl) rfl rfl rfl ?_
          refine V_iload (q := 75) X (TB.get tb_X2_differ 48 rfl) rfl rfl ?_
          refine V_iload_n (q := 76) X (TB.get tb_X2_differ 49 rfl) rfl rfl rfl ?_
          refine V_iload_n (q := 77) X (TB.get tb_X2_differ 50 rfl) rfl rfl rfl ?_
          refine V_iconst (v := 1) (q := 78) X (TB.get tb_X2_differ 51 rfl) c_iconst_1 rfl ?_
          obtain ⟨x10, ex10, e⟩ := bs e
          refine V_callV (q := 81) (As := [.int a1, .int v3, .int a2, .int a3, .int (1 : Int32)]) (rest := []) (st' := [.int x10]) X (TB.get tb_X2_differ 52 rfl) rfl cv_RX2_87 (ok_X2_comeUnlike a0 a1 v3 a2 a3 (1 : Int32) h x10 ex10).1 (ok_X2_comeUnlike a0 a1 v3 a2 a3 (1 : Int32) h x10 ex10).2 (Nat.le_of_ble_eq_true rfl) rfl rfl (Nat.le_of_ble_eq_true rfl) rfl ?_
          refine V_if_ne (q := 84) (t := 97) X (TB.get tb_X2_differ 53 rfl) rfl rfl (fun hc => ?_) (fun hc => ?_)
          · have e := (if_neg hc).symm.trans e
            refine V_iconst (v := 1) (q := 98) X (TB.get tb_X2_differ 62 rfl) c_iconst_1 rfl ?_
            cases e
            exact V_zret X hr hlk (Or.inr rfl) (TB.get tb_X2_differ 63 rfl)
          · have e := (if_pos hc).symm.trans e
            refine V_aload_n (q := 85) X (TB.get tb_X2_differ 54 rfl) rfl rfl rfl ?_
            refine V_iload_n (q := 86) X (TB.get tb_X2_differ 55 rfl) rfl rfl rfl ?_
            refine V_iload (q := 88) X (TB.get tb_X2_differ 56 rfl) rfl rfl ?_
            refine V_iload_n (q := 89) X (TB.get tb_X2_differ 57 rfl) rfl rfl rfl ?_
            refine V_iload_n (q := 90) X (TB.get tb_X2_differ 58 rfl) rfl rfl rfl ?_
            refine V_iconst (v := 0) (q := 91) X (TB.get tb_X2_differ 59 rfl) c_iconst_0 rfl ?_
            obtain ⟨x11, ex11, e⟩ := bs e
            refine V_callV (q := 94) (As := [.int a1, .int v3, .int a2, .int a3, .int (0 : Int32)]) (rest := []) (st' := [.int x11]) X (TB.get tb_X2_differ 60 rfl) rfl cv_RX2_87 (ok_X2_comeUnlike a0 a1 v3 a2 a3 (0 : Int32) h x11 ex11).1 (ok_X2_comeUnlike a0 a1 v3 a2 a3 (0 : Int32) h x11 ex11).2 (Nat.le_of_ble_eq_true rfl) rfl rfl (Nat.le_of_ble_eq_true rfl) rfl ?_
            refine V_if_eq (q := 97) (t := 99) X (TB.get tb_X2_differ 61 rfl) rfl rfl (fun hc => ?_) (fun hc => ?_)
            · have e := (if_pos hc).symm.trans e
              exact Jj9 e
            · have e := (if_neg hc).symm.trans e
              refine V_iconst (v := 1) (q := 98) X (TB.get tb_X2_differ 62 rfl) c_iconst_1 rfl ?_
              cases e
              exact V_zret X hr hlk (Or.inr rfl) (TB.get tb_X2_differ 63 rfl)
      · have e := (if_neg hc).symm.trans e
        refine V_iconst (v := 1) (q := 59) X (TB.get tb_X2_differ 38 rfl) c_iconst_1 rfl ?_
        cases e
        exact V_zret X hr hlk (Or.inr rfl) (TB.get tb_X2_differ 39 rfl)
  · have e := (if_neg hc).symm.trans e
    refine V_iconst (v := 1) (q := 24) X (TB.get tb_X2_differ 17 rfl) c_iconst_1 rfl ?_
    cases e
    exact V_zret X hr hlk (Or.inr rfl) (TB.get tb_X2_differ 18 rfl)
set_option maxRecDepth 100000 in
set_option maxHeartbeats 4000000 in
theorem ok_X2_partUnlike (fu : Nat) (a0 : Nat) (a1 : Int32) (h : Hp) (res : Int32 × Hp) (e : MX2_partUnlike fu a0 a1 h = some res) : CK yX2_partUnlike cX2_partUnlike 5 (some .boolean) 4 [.ref a0, .int a1] h (some (.int res.1)) res.2 ∧ (h.1 a0).1 = 2 := by
  obtain ⟨hcl, e⟩ := h_g_inv e
  refine ⟨CK_of pn_RX2 cm_X2_partUnlike (Nat.le_of_ble_eq_true rfl) ?_, hcl⟩
  intro l D tc B nn p en s m args below meth c X hr hlk
  replace X : CX p (rmD 4) s m args c cX2_partUnlike 5 RX2 D tc 4 := X
  show V p l en (rmD 4) s m args below meth c 5 D tc B nn (Ar B nn) s.heap 0 0 (MQ below (QC D tc B nn (Ar B nn) (some (.int res.1)) res.2) args s 0 0 (Ar B nn)) h 0 [(0, .ref a0), (1, .int a1)] []
  refine V_iconst (v := 0) (q := 1) X (TB.get tb_X2_partUnlike 0 rfl) c_iconst_0 rfl ?_
  refine V_istore_n (q := 2) (lv' := [(2, .int (0 : Int32)), (0, .ref a0), (1, .int a1)]) X (TB.get tb_X2_partUnlike 1 rfl) rfl rfl (Nat.le_of_ble_eq_true rfl) rfl ?_
  refine V_iconst (v := 0) (q := 3) X (TB.get tb_X2_partUnlike 2 rfl) c_iconst_0 rfl ?_
  refine V_istore_n (q := 4) (lv' := [(3, .int (0 : Int32)), (2, .int (0 : Int32)), (0, .ref a0), (1, .int a1)]) X (TB.get tb_X2_partUnlike 3 rfl) rfl rfl (Nat.le_of_ble_eq_true rfl) rfl ?_
  refine V_sub (lv' := [(0, .ref a0), (1, .int a1), (2, .int (0 : Int32)), (3, .int (0 : Int32))]) [2, 3, 1, 0] rfl ?_
  refine wh3_elim (P := fun v1 v2 h3 => V p l en (rmD 4) s m args below meth c 5 D tc B nn (Ar B nn) s.heap 0 0 (MQ below (QC D tc B nn (Ar B nn) (some (.int res.1)) res.2) args s 0 0 (Ar B nn)) h3 4 [(0, .ref a0), (1, .int a1), (2, .int v1), (3, .int v2)] []) (f := fu) ?_ e
  intro self4 v1 v2 h3 ihself4 e
  unfold MX2_partUnlike_B4 at e
  refine V_iload_n (q := 5) X (TB.get tb_X2_partUnlike 4 rfl) rfl rfl rfl ?_
  refine V_aload_n (q := 6) X (TB.get tb_X2_partUnlike 5 rfl) rfl rfl rfl ?_
  obtain ⟨x5, ex5, e⟩ := bs e
  refine V_getR (q := 9) X (TB.get tb_X2_partUnlike 6 rfl) rfl lf_RX2_9 ex5 ?_
  refine V_iload_n (q := 10) X (TB.get tb_X2_partUnlike 7 rfl) rfl rfl rfl ?_
  obtain ⟨x6, ex6, e⟩ := bs e
  refine V_iaload (q := 11) X (TB.get tb_X2_partUnlike 8 rfl) rfl ex6 ?_
  refine V_icmp_ge (q := 14) (t := 82) X (TB.get tb_X2_partUnlike 9 rfl) rfl rfl (fun hc => ?_) (fun hc => ?_)
  · have e := (if_pos hc).symm.trans e
    refine V_iload_n (q := 83) X (TB.get tb_X2_partUnlike 51 rfl) rfl rfl rfl ?_
    obtain ⟨z7, ez7, e⟩ := bs e
    cases e
    exact V_zretH X hr hlk ez7 (TB.get tb_X2_partUnlike 52 rfl)
  · have e := (if_neg hc).symm.trans e
    refine V_iconst (v := 0) (q := 15) X (TB.get tb_X2_partUnlike 10 rfl) c_iconst_0 rfl ?_
    refine V_istore (q := 17) (lv' := [(4, .int (0 : Int32)), (0, .ref a0), (1, .int a1), (2, .int v1), (3, .int v2)]) X (TB.get tb_X2_partUnlike 11 rfl) rfl (Nat.le_of_ble_eq_true rfl) rfl ?_
    refine jn_elim (P := (fun (k : Int32 → Hp → Option (Int32 × Hp)) => ∀ (v8 : Int32) (h9 : Hp), k v8 h9 = some res → V p l en (rmD 4) s m args below meth c 5 D tc B nn (Ar B nn) s.heap 0 0 (MQ below (QC D tc B nn (Ar B nn) (some (.int res.1)) res.2) args s 0 0 (Ar B nn)) h9 76 [(0, .ref a0), (1, .int a1), (2, .int v8), (3, .int v2)] [])) e ?_ (fun j10 Jj10 e => ?_)
    · intro v8 h9 e
      refine V_iinc (q := 79) (v := v2 + (1 : Int32)) (lv' := [(3, .int (v2 + (1 : Int32))), (0, .ref a0), (1, .int a1), (2, .int v8)]) X (TB.get tb_X2_partUnlike 49 rfl) rfl rfl (by rw [c_iconst_1]) (Nat.le_of_ble_eq_true rfl) rfl ?_
      refine V_goto (q := 4) X (TB.get tb_X2_partUnlike 50 rfl) rfl ?_
      refine V_sub (lv' := [(0, .ref a0), (1, .int a1), (2, .int v8), (3, .int (v2 + (1 : Int32)))]) [1, 2, 3, 0] rfl ?_
      exact ihself4 _ _ _ e
    refine V_sub (lv' := [(0, .ref a0), (1, .int a1), (2, .int v1), (3, .int v2), (4, .int (0 : Int32))]) [1, 2, 3, 4, 0] rfl ?_
    refine wh3_elim (P := fun v11 v12 h13 => V p l en (rmD 4) s m args below meth c 5 D tc B nn (Ar B nn) s.heap 0 0 (MQ below (QC D tc B nn (Ar B nn) (some (.int res.1)) res.2) args s 0 0 (Ar B nn)) h13 17 [(0, .ref a0), (1, .int a1), (2, .int v11), (3, .int v2), (4, .int v12)] []) (f := fu) ?_ e
    intro self14 v11 v12 h13 ihself14 e
    unfold MX2_partUnlike_B17 at e
    refine V_iload (q := 19) X (TB.get tb_X2_partUnlike 12 rfl) rfl rfl ?_
    refine V_aload_n (q := 20) X (TB.get tb_X2_partUnlike 13 rfl) rfl rfl rfl ?_
    obtain ⟨x15, ex15, e⟩ := bs e
    refine V_getR (q := 23) X (TB.get tb_X2_partUnlike 14 rfl) rfl lf_RX2_9 ex15 ?_
    refine V_iload_n (q := 24) X (TB.get tb_X2_partUnlike 15 rfl) rfl rfl rfl ?_
    obtain ⟨x16, ex16, e⟩ := bs e
    refine V_iaload (q := 25) X (TB.get tb_X2_partUnlike 16 rfl) rfl ex16 ?_
    refine V_icmp_ge (q := 28) (t := 76) X (TB.get tb_X2_partUnlike 17 rfl) rfl rfl (fun hc => ?_) (fun hc => ?_)
    · have e := (if_pos hc).symm.trans e
      refine V_sub (lv' := [(0, .ref a0), (1, .int a1), (2, .int v11), (3, .int v2)]) [0, 1, 2, 3] rfl ?_
      exact Jj10 _ _ e
    · have e := (if_neg hc).symm.trans e
      refine V_aload_n (q := 29) X (TB.get tb_X2_partUnlike 18 rfl) rfl rfl rfl ?_
      obtain ⟨x17, ex17, e⟩ := bs e
      refine V_getR (q := 32) X (TB.get tb_X2_partUnlike 19 rfl) rfl lf_RX2_36 ex17 ?_
      refine V_iload_n (q := 33) X (TB.get tb_X2_partUnlike 20 rfl) rfl rfl rfl ?_
      obtain ⟨x18, ex18, e⟩ := bs e
      refine V_iaload (q := 34) X (TB.get tb_X2_partUnlike 21 rfl) rfl ex18 ?_
      refine V_iload (q := 36) X (TB.get tb_X2_partUnlike 22 rfl) rfl rfl ?_
      refine V_ishr (q := 37) X (TB.get tb_X2_partUnlike 23 rfl) rfl ?_
      refine V_iconst (v := 1) (q := 38) X (TB.get tb_X2_partUnlike 24 rfl) c_iconst_1 rfl ?_
      refine V_iand (q := 39) X (TB.get tb_X2_partUnlike 25 rfl) rfl ?_
      refine jn_elim (P := (fun (k : Int32 → Hp → Option (Int32 × Hp)) => ∀ (v19 : Int32) (h20 : Hp), k v19 h20 = some res → V p l en (rmD 4) s m args below meth c 5 D tc B nn (Ar B nn) s.heap 0 0 (MQ below (QC D tc B nn (Ar B nn) (some (.int res.1)) res.2) args s 0 0 (Ar B nn)) h20 70 [(0, .ref a0), (1, .int a1), (2, .int v19), (3, .int v2), (4, .int v12)] [])) e ?_ (fun j21 Jj21 e => ?_)
      · intro v19 h20 e
        refine V_iinc (q := 73) (v := v12 + (1 : Int32)) (lv' := [(4, .int (v12 + (1 : Int32))), (0, .ref a0), (1, .int a1), (2, .int v19), (3, .int v2)]) X (TB.get tb_X2_partUnlike 47 rfl) rfl rfl (by rw [c_iconst_1]) (Nat.le_of_ble_eq_true rfl) rfl ?_
        refine V_goto (q := 17) X (TB.get tb_X2_partUnlike 48 rfl) rfl ?_
        refine V_sub (lv' := [(0, .ref a0), (1, .int a1), (2, .int v19), (3, .int v2), (4, .int (v12 + (1 : Int32)))]) [1, 2, 3, 4, 0] rfl ?_
        exact ihself14 _ _ _ e
      refine V_if_eq (q := 42) (t := 70) X (TB.get tb_X2_partUnlike 26 rfl) rfl rfl (fun hc => ?_) (fun hc => ?_)
      · have e := (if_pos hc).symm.trans e
        exact Jj21 _ _ e
      · have e := (if_neg hc).symm.trans e
        refine V_aload_n (q := 43) X (TB.get tb_X2_partUnlike 27 rfl) rfl rfl rfl ?_
        refine V_iload_n (q := 44) X (TB.get tb_X2_partUnlike 28 rfl) rfl rfl rfl ?_
        refine V_iload_n (q := 45) X (TB.get tb_X2_partUnlike 29 rfl) rfl rfl rfl ?_
        refine V_iload (q := 47) X (TB.get tb_X2_partUnlike 30 rfl) rfl rfl ?_
        obtain ⟨x22, ex22, e⟩ := bs e
        refine V_callV (q := 50) (As := [.int a1, .int v2, .int v12]) (rest := []) (st' := [.int x22]) X (TB.get tb_X2_partUnlike 31 rfl) rfl cv_RX2_84 (ok_X2_differ fu a0 a1 v2 v12 h13 x22 ex22).1 (ok_X2_differ fu a0 a1 v2 v12 h13 x22 ex22).2 (Nat.le_of_ble_eq_true rfl) rfl rfl (Nat.le_of_ble_eq_true rfl) rfl ?_
        refine V_if_eq (q := 53) (t := 70) X (TB.get tb_X2_partUnlike 32 rfl) rfl rfl (fun hc => ?_) (fun hc => ?_)
        · have e := (if_pos hc).symm.trans e
          exact Jj21 _ _ e
        · have e := (if_neg hc).symm.trans e
          refine V_aload_n (q := 54) X (TB.get tb_X2_partUnlike 33 rfl) rfl rfl rfl ?_
          refine V_getR (q := 57) X (TB.get tb_X2_partUnlike 34 rfl) rfl lf_RX2_36 ex17 ?_
          refine V_iload_n (q := 58) X (TB.get tb_X2_partUnlike 35 rfl) rfl rfl rfl ?_
          refine V_dup2 (q := 59) X (TB.get tb_X2_partUnlike 36 rfl) rfl rfl rfl ?_
          refine V_iaload (q := 60) X (TB.get tb_X2_partUnlike 37 rfl) rfl ex18 ?_
          refine V_iconst (v := 1) (q := 61) X (TB.get tb_X2_partUnlike 38 rfl) c_iconst_1 rfl ?_
          refine V_iload (q := 63) X (TB.get tb_X2_partUnlike 39 rfl) rfl rfl ?_
          refine V_ishl (q := 64) X (TB.get tb_X2_partUnlike 40 rfl) rfl ?_
          refine V_iconst (v := -1) (q := 65) X (TB.get tb_X2_partUnlike 41 rfl) c_iconst_m1 rfl ?_
          refine V_ixor (q := 66) X (TB.get tb_X2_partUnlike 42 rfl) rfl ?_
          refine V_iand (q := 67) X (TB.get tb_X2_partUnlike 43 rfl) rfl ?_
          obtain ⟨h23, eh23, e⟩ := bs e
          refine V_iastore (q := 68) X (TB.get tb_X2_partUnlike 44 rfl) rfl eh23 ?_
          refine V_iconst (v := 1) (q := 69) X (TB.get tb_X2_partUnlike 45 rfl) c_iconst_1 rfl ?_
          refine V_istore_n (q := 70) (lv' := [(2, .int (1 : Int32)), (0, .ref a0), (1, .int a1), (3, .int v2), (4, .int v12)]) X (TB.get tb_X2_partUnlike 46 rfl) rfl rfl (Nat.le_of_ble_eq_true rfl) rfl ?_
          refine V_sub (lv' := [(0, .ref a0), (1, .int a1), (2, .int (1 : Int32)), (3, .int v2), (4, .int v12)]) [1, 2, 0, 3, 4] rfl ?_
          exact Jj21 _ _ e
set_option maxRecDepth 100000 in
set_option maxHeartbeats 4000000 in
theorem ok_X2_areAlike (fu : Nat) (a0 : Nat) (a1 : Int32) (a2 : Int32) (a3 : Int32) (h : Hp) (res : Int32 × Hp) (e : MX2_areAlike fu a0 a1 a2 a3 h = some res) : CK yX2_areAlike cX2_areAlike 6 (some .boolean) 5 [.ref a0, .int a1, .int a2, .int a3] h (some (.int res.1)) res.2 ∧ (h.1 a0).1 = 2 := by
  obtain ⟨hcl, e⟩ := h_g_inv e
  refine ⟨CK_of pn_RX2 cm_X2_areAlike (Nat.le_of_ble_eq_true rfl) ?_, hcl⟩
  intro l D tc B nn p en s m args below meth c X hr hlk
  replace X : CX p (rmD 5) s m args c cX2_areAlike 6 RX2 D tc 5 := X
  show V p l en (rmD 5) s m args below meth c 6 D tc B nn (Ar B nn) s.heap 0 0 (MQ below (QC D tc B nn (Ar B nn) (some (.int res.1)) res.2) args s 0 0 (Ar B nn)) h 0 [(0, .ref a0), (1, .int a1), (2, .int a2), (3, .int a3)] []
  refine V_iconst (v := 0) (q := 1) X (TB.get tb_X2_areAlike 0 rfl) c_iconst_0 rfl ?_
  refine V_istore (q := 3) (lv' := [(4, .int (0 : Int32)), (0, .ref a0), (1, .int a1), (2, .int a2), (3, .int a3)]) X (TB.get tb_X2_areAlike 1 rfl) rfl (Nat.le_of_ble_eq_true rfl) rfl ?_
  refine jn_elim (P := (fun (k : Hp → Option (Int32 × Hp)) => ∀ (h1 : Hp), k h1 = some res → V p l en (rmD 5) s m args below meth c 6 D tc B nn (Ar B nn) s.heap 0 0 (MQ below (QC D tc B nn (Ar B nn) (some (.int res.1)) res.2) args s 0 0 (Ar B nn)) h1 37 [(0, .ref a0), (1, .int a1), (2, .int a2), (3, .int a3)] [])) e ?_ (fun j2 Jj2 e => ?_)
  · intro h1 e
    refine V_iconst (v := 1) (q := 38) X (TB.get tb_X2_areAlike 22 rfl) c_iconst_1 rfl ?_
    refine V_istore (q := 40) (lv' := [(4, .int (1 : Int32)), (0, .ref a0), (1, .int a1), (2, .int a2), (3, .int a3)]) X (TB.get tb_X2_areAlike 23 rfl) rfl (Nat.le_of_ble_eq_true rfl) rfl ?_
    refine V_iconst (v := 0) (q := 41) X (TB.get tb_X2_areAlike 24 rfl) c_iconst_0 rfl ?_
    refine V_istore (q := 43) (lv' := [(5, .int (0 : Int32)), (4, .int (1 : Int32)), (0, .ref a0), (1, .int a1), (2, .int a2), (3, .int a3)]) X (TB.get tb_X2_areAlike 25 rfl) rfl (Nat.le_of_ble_eq_true rfl) rfl ?_
    refine jn_elim (P := (fun (k : Hp → Option (Int32 × Hp)) => ∀ (h3 : Hp), k h3 = some res → V p l en (rmD 5) s m args below meth c 6 D tc B nn (Ar B nn) s.heap 0 0 (MQ below (QC D tc B nn (Ar B nn) (some (.int res.1)) res.2) args s 0 0 (Ar B nn)) h3 68 [(0, .ref a0), (2, .int a2), (3, .int a3)] [])) e ?_ (fun j4 Jj4 e => ?_)
    · intro h3 e
      refine V_aload_n (q := 69) X (TB.get tb_X2_areAlike 37 rfl) rfl rfl rfl ?_
      obtain ⟨x5, ex5, e⟩ := bs e
      refine V_getR (q := 72) X (TB.get tb_X2_areAlike 38 rfl) rfl lf_RX2_36 ex5 ?_
      refine V_iload_n (q := 73) X (TB.get tb_X2_areAlike 39 rfl) rfl rfl rfl ?_
      obtain ⟨x6, ex6, e⟩ := bs e
      refine V_iaload (q := 74) X (TB.get tb_X2_areAlike 40 rfl) rfl ex6 ?_
      refine V_iload_n (q := 75) X (TB.get tb_X2_areAlike 41 rfl) rfl rfl rfl ?_
      refine V_ishr (q := 76) X (TB.get tb_X2_areAlike 42 rfl) rfl ?_
      refine V_iconst (v := 1) (q := 77) X (TB.get tb_X2_areAlike 43 rfl) c_iconst_1 rfl ?_
      refine V_iand (q := 78) X (TB.get tb_X2_areAlike 44 rfl) rfl ?_
      refine V_if_eq (q := 81) (t := 85) X (TB.get tb_X2_areAlike 45 rfl) rfl rfl (fun hc => ?_) (fun hc => ?_)
      · have e := (if_pos hc).symm.trans e
        refine V_iconst (v := 0) (q := 86) X (TB.get tb_X2_areAlike 48 rfl) c_iconst_0 rfl ?_
        cases e
        exact V_zret X hr hlk (Or.inl rfl) (TB.get tb_X2_areAlike 49 rfl)
      · have e := (if_neg hc).symm.trans e
        refine V_iconst (v := 1) (q := 82) X (TB.get tb_X2_areAlike 46 rfl) c_iconst_1 rfl ?_
        refine V_goto (q := 86) X (TB.get tb_X2_areAlike 47 rfl) rfl ?_
        cases e
        exact V_zret X hr hlk (Or.inr rfl) (TB.get tb_X2_areAlike 49 rfl)
    refine V_sub (lv' := [(0, .ref a0), (1, .int a1), (2, .int a2), (3, .int a3), (4, .int (1 : Int32)), (5, .int (0 : Int32))]) [2, 3, 4, 5, 1, 0] rfl ?_
    refine wh3_elim (P := fun v7 v8 h9 => V p l en (rmD 5) s m args below meth c 6 D tc B nn (Ar B nn) s.heap 0 0 (MQ below (QC D tc B nn (Ar B nn) (some (.int res.1)) res.2) args s 0 0 (Ar B nn)) h9 43 [(0, .ref a0), (1, .int a1), (2, .int a2), (3, .int a3), (4, .int v7), (5, .int v8)] []) (f := fu) ?_ e
    intro self10 v7 v8 h9 ihself10 e
    unfold MX2_areAlike_B43 at e
    refine V_iload (q := 45) X (TB.get tb_X2_areAlike 26 rfl) rfl rfl ?_
    refine V_if_eq (q := 48) (t := 68) X (TB.get tb_X2_areAlike 27 rfl) rfl rfl (fun hc => ?_) (fun hc => ?_)
    · have e := (if_pos hc).symm.trans e
      refine V_sub (lv' := [(0, .ref a0), (2, .int a2), (3, .int a3)]) [0, 2, 3] rfl ?_
      exact Jj4 _ e
    · have e := (if_neg hc).symm.trans e
      refine V_iload (q := 50) X (TB.get tb_X2_areAlike 28 rfl) rfl rfl ?_
      refine V_bipush (v := 36) (q := 52) X (TB.get tb_X2_areAlike 29 rfl) c_bipush_36 rfl ?_
      refine V_icmp_gt (q := 55) (t := 68) X (TB.get tb_X2_areAlike 30 rfl) rfl rfl (fun hc => ?_) (fun hc => ?_)
      · have e := (if_pos hc).symm.trans e
        refine V_sub (lv' := [(0, .ref a0), (2, .int a2), (3, .int a3)]) [0, 2, 3] rfl ?_
        exact Jj4 _ e
      · have e := (if_neg hc).symm.trans e
        refine V_aload_n (q := 56) X (TB.get tb_X2_areAlike 31 rfl) rfl rfl rfl ?_
        refine V_iload_n (q := 57) X (TB.get tb_X2_areAlike 32 rfl) rfl rfl rfl ?_
        obtain ⟨p11, ep11, e⟩ := bs e
        refine V_callV (q := 60) (As := [.int a1]) (rest := []) (st' := [.int p11.1]) X (TB.get tb_X2_areAlike 33 rfl) rfl cv_RX2_81 (ok_X2_partUnlike fu a0 a1 h9 p11 ep11).1 (ok_X2_partUnlike fu a0 a1 h9 p11 ep11).2 (Nat.le_of_ble_eq_true rfl) rfl rfl (Nat.le_of_ble_eq_true rfl) rfl ?_
        refine V_istore (q := 62) (lv' := [(4, .int p11.1), (0, .ref a0), (1, .int a1), (2, .int a2), (3, .int a3), (5, .int v8)]) X (TB.get tb_X2_areAlike 34 rfl) rfl (Nat.le_of_ble_eq_true rfl) rfl ?_
        refine V_iinc (q := 65) (v := v8 + (1 : Int32)) (lv' := [(5, .int (v8 + (1 : Int32))), (4, .int p11.1), (0, .ref a0), (1, .int a1), (2, .int a2), (3, .int a3)]) X (TB.get tb_X2_areAlike 35 rfl) rfl rfl (by rw [c_iconst_1]) (Nat.le_of_ble_eq_true rfl) rfl ?_
        refine V_goto (q := 43) X (TB.get tb_X2_areAlike 36 rfl) rfl ?_
        refine V_sub (lv' := [(0, .ref a0), (1, .int a1), (2, .int a2), (3, .int a3), (4, .int p11.1), (5, .int (v8 + (1 : Int32)))]) [2, 3, 4, 5, 1, 0] rfl ?_
        exact ihself10 _ _ _ e
  refine V_sub (lv' := [(0, .ref a0), (1, .int a1), (2, .int a2), (3, .int a3), (4, .int (0 : Int32))]) [1, 2, 3, 4, 0] rfl ?_
  refine wh2_elim (P := fun v12 h13 => V p l en (rmD 5) s m args below meth c 6 D tc B nn (Ar B nn) s.heap 0 0 (MQ below (QC D tc B nn (Ar B nn) (some (.int res.1)) res.2) args s 0 0 (Ar B nn)) h13 3 [(0, .ref a0), (1, .int a1), (2, .int a2), (3, .int a3), (4, .int v12)] []) (f := fu) ?_ e
  intro self14 v12 h13 ihself14 e
  unfold MX2_areAlike_B3 at e
  refine V_iload (q := 5) X (TB.get tb_X2_areAlike 2 rfl) rfl rfl ?_
  refine V_aload_n (q := 6) X (TB.get tb_X2_areAlike 3 rfl) rfl rfl rfl ?_
  obtain ⟨x15, ex15, e⟩ := bs e
  refine V_getR (q := 9) X (TB.get tb_X2_areAlike 4 rfl) rfl lf_RX2_9 ex15 ?_
  refine V_iload_n (q := 10) X (TB.get tb_X2_areAlike 5 rfl) rfl rfl rfl ?_
  obtain ⟨x16, ex16, e⟩ := bs e
  refine V_iaload (q := 11) X (TB.get tb_X2_areAlike 6 rfl) rfl ex16 ?_
  refine V_icmp_ge (q := 14) (t := 37) X (TB.get tb_X2_areAlike 7 rfl) rfl rfl (fun hc => ?_) (fun hc => ?_)
  · have e := (if_pos hc).symm.trans e
    refine V_sub (lv' := [(0, .ref a0), (1, .int a1), (2, .int a2), (3, .int a3)]) [0, 1, 2, 3] rfl ?_
    exact Jj2 _ e
  · have e := (if_neg hc).symm.trans e
    refine V_aload_n (q := 15) X (TB.get tb_X2_areAlike 8 rfl) rfl rfl rfl ?_
    obtain ⟨x17, ex17, e⟩ := bs e
    refine V_getR (q := 18) X (TB.get tb_X2_areAlike 9 rfl) rfl lf_RX2_36 ex17 ?_
    refine V_iload (q := 20) X (TB.get tb_X2_areAlike 10 rfl) rfl rfl ?_
    refine V_iconst (v := 1) (q := 21) X (TB.get tb_X2_areAlike 11 rfl) c_iconst_1 rfl ?_
    refine V_aload_n (q := 22) X (TB.get tb_X2_areAlike 12 rfl) rfl rfl rfl ?_
    refine V_getR (q := 25) X (TB.get tb_X2_areAlike 13 rfl) rfl lf_RX2_9 ex15 ?_
    refine V_iload_n (q := 26) X (TB.get tb_X2_areAlike 14 rfl) rfl rfl rfl ?_
    refine V_iaload (q := 27) X (TB.get tb_X2_areAlike 15 rfl) rfl ex16 ?_
    refine V_ishl (q := 28) X (TB.get tb_X2_areAlike 16 rfl) rfl ?_
    refine V_iconst (v := 1) (q := 29) X (TB.get tb_X2_areAlike 17 rfl) c_iconst_1 rfl ?_
    refine V_isub (q := 30) X (TB.get tb_X2_areAlike 18 rfl) rfl ?_
    obtain ⟨h18, eh18, e⟩ := bs e
    refine V_iastore (q := 31) X (TB.get tb_X2_areAlike 19 rfl) rfl eh18 ?_
    refine V_iinc (q := 34) (v := v12 + (1 : Int32)) (lv' := [(4, .int (v12 + (1 : Int32))), (0, .ref a0), (1, .int a1), (2, .int a2), (3, .int a3)]) X (TB.get tb_X2_areAlike 20 rfl) rfl rfl (by rw [c_iconst_1]) (Nat.le_of_ble_eq_true rfl) rfl ?_
    refine V_goto (q := 3) X (TB.get tb_X2_areAlike 21 rfl) rfl ?_
    refine V_sub (lv' := [(0, .ref a0), (1, .int a1), (2, .int a2), (3, .int a3), (4, .int (v12 + (1 : Int32)))]) [1, 2, 3, 4, 0] rfl ?_
    exact ihself14 _ _ e
set_option maxRecDepth 100000 in
set_option maxHeartbeats 4000000 in
theorem ok_X2_lengthenWays (fu : Nat) (a0 : Nat) (a1 : Int32) (h : Hp) (res : Hp) (e : MX2_lengthenWays fu a0 a1 h = some res) : CK yX2_lengthenWays cX2_lengthenWays 4 none 2 [.ref a0, .int a1] h none res ∧ (h.1 a0).1 = 2 := by
  obtain ⟨hcl, e⟩ := h_g_inv e
  refine ⟨CK_of pn_RX2 cm_X2_lengthenWays (Nat.le_of_ble_eq_true rfl) ?_, hcl⟩
  intro l D tc B nn p en s m args below meth c X hr hlk
  replace X : CX p (rmD 2) s m args c cX2_lengthenWays 4 RX2 D tc 2 := X
  show V p l en (rmD 2) s m args below meth c 4 D tc B nn (Ar B nn) s.heap 0 0 (MQ below (QC D tc B nn (Ar B nn) none res) args s 0 0 (Ar B nn)) h 0 [(0, .ref a0), (1, .int a1)] []
  refine V_aload_n (q := 1) X (TB.get tb_X2_lengthenWays 0 rfl) rfl rfl rfl ?_
  obtain ⟨x1, ex1, e⟩ := bs e
  refine V_getR (q := 4) X (TB.get tb_X2_lengthenWays 1 rfl) rfl lf_RX2_43 ex1 ?_
  refine V_lconst (v := 0) (q := 5) X (TB.get tb_X2_lengthenWays 2 rfl) c_lconst_0 rfl ?_
  obtain ⟨h2, eh2, e⟩ := bs e
  refine V_callS (q := 8) (As := [.ref x1, .long (0 : Int64)]) (rest := []) (st' := []) X (TB.get tb_X2_lengthenWays 3 rfl) rfl cs_RX2_91 (ok_J7_fill_d0a16 fu x1 (0 : Int64) h h2 eh2) (Nat.le_of_ble_eq_true rfl) rfl rfl (Nat.le_of_ble_eq_true rfl) rfl ?_
  refine V_iconst (v := 0) (q := 9) X (TB.get tb_X2_lengthenWays 4 rfl) c_iconst_0 rfl ?_
  refine V_istore_n (q := 10) (lv' := [(2, .int (0 : Int32)), (0, .ref a0), (1, .int a1)]) X (TB.get tb_X2_lengthenWays 5 rfl) rfl rfl (Nat.le_of_ble_eq_true rfl) rfl ?_
  refine jn_elim (P := (fun (k : Hp → Option (Hp)) => ∀ (h3 : Hp), k h3 = some res → V p l en (rmD 2) s m args below meth c 4 D tc B nn (Ar B nn) s.heap 0 0 (MQ below (QC D tc B nn (Ar B nn) none res) args s 0 0 (Ar B nn)) h3 108 [(0, .ref a0)] [])) e ?_ (fun j4 Jj4 e => ?_)
  · intro h3 e
    refine V_iconst (v := 0) (q := 109) X (TB.get tb_X2_lengthenWays 68 rfl) c_iconst_0 rfl ?_
    refine V_istore_n (q := 110) (lv' := [(2, .int (0 : Int32)), (0, .ref a0)]) X (TB.get tb_X2_lengthenWays 69 rfl) rfl rfl (Nat.le_of_ble_eq_true rfl) rfl ?_
    refine V_sub (lv' := [(0, .ref a0), (2, .int (0 : Int32))]) [1, 0] rfl ?_
    refine wh2_elim (P := fun v5 h6 => V p l en (rmD 2) s m args below meth c 4 D tc B nn (Ar B nn) s.heap 0 0 (MQ below (QC D tc B nn (Ar B nn) none res) args s 0 0 (Ar B nn)) h6 110 [(0, .ref a0), (2, .int v5)] []) (f := fu) ?_ e
    intro self7 v5 h6 ihself7 e
    unfold MX2_lengthenWays_B110 at e
    refine V_iload_n (q := 111) X (TB.get tb_X2_lengthenWays 70 rfl) rfl rfl rfl ?_
    refine V_bipush (v := 6) (q := 113) X (TB.get tb_X2_lengthenWays 71 rfl) c_bipush_6 rfl ?_
    refine V_icmp_ge (q := 116) (t := 138) X (TB.get tb_X2_lengthenWays 72 rfl) rfl rfl (fun hc => ?_) (fun hc => ?_)
    · have e := (if_pos hc).symm.trans e
      cases e
      exact V_vret X hr hlk (TB.get tb_X2_lengthenWays 85 rfl)
    · have e := (if_neg hc).symm.trans e
      refine V_aload_n (q := 117) X (TB.get tb_X2_lengthenWays 73 rfl) rfl rfl rfl ?_
      obtain ⟨x8, ex8, e⟩ := bs e
      refine V_getR (q := 120) X (TB.get tb_X2_lengthenWays 74 rfl) rfl lf_RX2_39 ex8 ?_
      refine V_iload_n (q := 121) X (TB.get tb_X2_lengthenWays 75 rfl) rfl rfl rfl ?_
      refine V_aload_n (q := 122) X (TB.get tb_X2_lengthenWays 76 rfl) rfl rfl rfl ?_
      obtain ⟨x9, ex9, e⟩ := bs e
      refine V_getR (q := 125) X (TB.get tb_X2_lengthenWays 77 rfl) rfl lf_RX2_43 ex9 ?_
      refine V_iload_n (q := 126) X (TB.get tb_X2_lengthenWays 78 rfl) rfl rfl rfl ?_
      obtain ⟨x10, ex10, e⟩ := bs e
      refine V_laload (q := 127) X (TB.get tb_X2_lengthenWays 79 rfl) rfl ex10 ?_
      refine V_ldc2 (v := 1000000007) (q := 130) X (TB.get tb_X2_lengthenWays 80 rfl) rfl kl_RX2_100 ?_
      obtain ⟨x11, ex11, e⟩ := bs e
      refine V_lrem (q := 131) X (TB.get tb_X2_lengthenWays 81 rfl) rfl ex11 ?_
      obtain ⟨h12, eh12, e⟩ := bs e
      refine V_lastore (q := 132) X (TB.get tb_X2_lengthenWays 82 rfl) rfl eh12 ?_
      refine V_iinc (q := 135) (v := v5 + (1 : Int32)) (lv' := [(2, .int (v5 + (1 : Int32))), (0, .ref a0)]) X (TB.get tb_X2_lengthenWays 83 rfl) rfl rfl (by rw [c_iconst_1]) (Nat.le_of_ble_eq_true rfl) rfl ?_
      refine V_goto (q := 110) X (TB.get tb_X2_lengthenWays 84 rfl) rfl ?_
      refine V_sub (lv' := [(0, .ref a0), (2, .int (v5 + (1 : Int32)))]) [1, 0] rfl ?_
      exact ihself7 _ _ e
  refine V_sub (lv' := [(0, .ref a0), (1, .int a1), (2, .int (0 : Int32))]) [1, 2, 0] rfl ?_
  refine wh2_elim (P := fun v13 h14 => V p l en (rmD 2) s m args below meth c 4 D tc B nn (Ar B nn) s.heap 0 0 (MQ below (QC D tc B nn (Ar B nn) none res) args s 0 0 (Ar B nn)) h14 10 [(0, .ref a0), (1, .int a1), (2, .int v13)] []) (f := fu) ?_ e
  intro self15 v13 h14 ihself15 e
  unfold MX2_lengthenWays_B10 at e
  refine V_iload_n (q := 11) X (TB.get tb_X2_lengthenWays 6 rfl) rfl rfl rfl ?_
  refine V_aload_n (q := 12) X (TB.get tb_X2_lengthenWays 7 rfl) rfl rfl rfl ?_
  obtain ⟨x16, ex16, e⟩ := bs e
  refine V_getR (q := 15) X (TB.get tb_X2_lengthenWays 8 rfl) rfl lf_RX2_18 ex16 ?_
  refine V_iload_n (q := 16) X (TB.get tb_X2_lengthenWays 9 rfl) rfl rfl rfl ?_
  obtain ⟨x17, ex17, e⟩ := bs e
  refine V_iaload (q := 17) X (TB.get tb_X2_lengthenWays 10 rfl) rfl ex17 ?_
  refine V_icmp_ge (q := 20) (t := 108) X (TB.get tb_X2_lengthenWays 11 rfl) rfl rfl (fun hc => ?_) (fun hc => ?_)
  · have e := (if_pos hc).symm.trans e
    refine V_sub (lv' := [(0, .ref a0)]) [0] rfl ?_
    exact Jj4 _ e
  · have e := (if_neg hc).symm.trans e
    refine V_iconst (v := 0) (q := 21) X (TB.get tb_X2_lengthenWays 12 rfl) c_iconst_0 rfl ?_
    refine V_istore_n (q := 22) (lv' := [(3, .int (0 : Int32)), (0, .ref a0), (1, .int a1), (2, .int v13)]) X (TB.get tb_X2_lengthenWays 13 rfl) rfl rfl (Nat.le_of_ble_eq_true rfl) rfl ?_
    refine jn_elim (P := (fun (k : Hp → Option (Hp)) => ∀ (h18 : Hp), k h18 = some res → V p l en (rmD 2) s m args below meth c 4 D tc B nn (Ar B nn) s.heap 0 0 (MQ below (QC D tc B nn (Ar B nn) none res) args s 0 0 (Ar B nn)) h18 102 [(0, .ref a0), (1, .int a1), (2, .int v13)] [])) e ?_ (fun j19 Jj19 e => ?_)
    · intro h18 e
      refine V_iinc (q := 105) (v := v13 + (1 : Int32)) (lv' := [(2, .int (v13 + (1 : Int32))), (0, .ref a0), (1, .int a1)]) X (TB.get tb_X2_lengthenWays 66 rfl) rfl rfl (by rw [c_iconst_1]) (Nat.le_of_ble_eq_true rfl) rfl ?_
      refine V_goto (q := 10) X (TB.get tb_X2_lengthenWays 67 rfl) rfl ?_
      refine V_sub (lv' := [(0, .ref a0), (1, .int a1), (2, .int (v13 + (1 : Int32)))]) [1, 2, 0] rfl ?_
      exact ihself15 _ _ e
    refine V_sub (lv' := [(0, .ref a0), (1, .int a1), (2, .int v13), (3, .int (0 : Int32))]) [1, 2, 3, 0] rfl ?_
    refine wh2_elim (P := fun v20 h21 => V p l en (rmD 2) s m args below meth c 4 D tc B nn (Ar B nn) s.heap 0 0 (MQ below (QC D tc B nn (Ar B nn) none res) args s 0 0 (Ar B nn)) h21 22 [(0, .ref a0), (1, .int a1), (2, .int v13), (3, .int v20)] []) (f := fu) ?_ e
    intro self22 v20 h21 ihself22 e
    unfold MX2_lengthenWays_B22 at e
    refine V_iload_n (q := 23) X (TB.get tb_X2_lengthenWays 14 rfl) rfl rfl rfl ?_
    refine V_aload_n (q := 24) X (TB.get tb_X2_lengthenWays 15 rfl) rfl rfl rfl ?_
    obtain ⟨x23, ex23, e⟩ := bs e
    refine V_getR (q := 27) X (TB.get tb_X2_lengthenWays 16 rfl) rfl lf_RX2_9 ex23 ?_
    refine V_iload_n (q := 28) X (TB.get tb_X2_lengthenWays 17 rfl) rfl rfl rfl ?_
    obtain ⟨x24, ex24, e⟩ := bs e
    refine V_iaload (q := 29) X (TB.get tb_X2_lengthenWays 18 rfl) rfl ex24 ?_
    refine V_icmp_ge (q := 32) (t := 102) X (TB.get tb_X2_lengthenWays 19 rfl) rfl rfl (fun hc => ?_) (fun hc => ?_)
    · have e := (if_pos hc).symm.trans e
      refine V_sub (lv' := [(0, .ref a0), (1, .int a1), (2, .int v13)]) [0, 1, 2] rfl ?_
      exact Jj19 _ e
    · have e := (if_neg hc).symm.trans e
      refine V_aload_n (q := 33) X (TB.get tb_X2_lengthenWays 20 rfl) rfl rfl rfl ?_
      refine V_iload_n (q := 34) X (TB.get tb_X2_lengthenWays 21 rfl) rfl rfl rfl ?_
      refine V_iload_n (q := 35) X (TB.get tb_X2_lengthenWays 22 rfl) rfl rfl rfl ?_
      refine V_iload_n (q := 36) X (TB.get tb_X2_lengthenWays 23 rfl) rfl rfl rfl ?_
      obtain ⟨x25, ex25, e⟩ := bs e
      refine V_callV (q := 39) (As := [.int a1, .int v13, .int v20]) (rest := []) (st' := [.int x25]) X (TB.get tb_X2_lengthenWays 24 rfl) rfl cv_RX2_54 (ok_X2_canBe a0 a1 v13 v20 h21 x25 ex25).1 (ok_X2_canBe a0 a1 v13 v20 h21 x25 ex25).2 (Nat.le_of_ble_eq_true rfl) rfl rfl (Nat.le_of_ble_eq_true rfl) rfl ?_
      refine jn_elim (P := (fun (k : Hp → Option (Hp)) => ∀ (h26 : Hp), k h26 = some res → V p l en (rmD 2) s m args below meth c 4 D tc B nn (Ar B nn) s.heap 0 0 (MQ below (QC D tc B nn (Ar B nn) none res) args s 0 0 (Ar B nn)) h26 96 [(0, .ref a0), (1, .int a1), (2, .int v13), (3, .int v20)] [])) e ?_ (fun j27 Jj27 e => ?_)
      · intro h26 e
        refine V_iinc (q := 99) (v := v20 + (1 : Int32)) (lv' := [(3, .int (v20 + (1 : Int32))), (0, .ref a0), (1, .int a1), (2, .int v13)]) X (TB.get tb_X2_lengthenWays 64 rfl) rfl rfl (by rw [c_iconst_1]) (Nat.le_of_ble_eq_true rfl) rfl ?_
        refine V_goto (q := 22) X (TB.get tb_X2_lengthenWays 65 rfl) rfl ?_
        refine V_sub (lv' := [(0, .ref a0), (1, .int a1), (2, .int v13), (3, .int (v20 + (1 : Int32)))]) [1, 2, 3, 0] rfl ?_
        exact ihself22 _ _ e
      refine V_if_eq (q := 42) (t := 96) X (TB.get tb_X2_lengthenWays 25 rfl) rfl rfl (fun hc => ?_) (fun hc => ?_)
      · have e := (if_pos hc).symm.trans e
        exact Jj27 _ e
      · have e := (if_neg hc).symm.trans e
        refine V_aload_n (q := 43) X (TB.get tb_X2_lengthenWays 26 rfl) rfl rfl rfl ?_
        obtain ⟨x28, ex28, e⟩ := bs e
        refine V_getR (q := 46) X (TB.get tb_X2_lengthenWays 27 rfl) rfl lf_RX2_43 ex28 ?_
        refine V_aload_n (q := 47) X (TB.get tb_X2_lengthenWays 28 rfl) rfl rfl rfl ?_
        refine V_iload_n (q := 48) X (TB.get tb_X2_lengthenWays 29 rfl) rfl rfl rfl ?_
        refine V_iload_n (q := 49) X (TB.get tb_X2_lengthenWays 30 rfl) rfl rfl rfl ?_
        refine V_iload_n (q := 50) X (TB.get tb_X2_lengthenWays 31 rfl) rfl rfl rfl ?_
        refine V_iconst (v := 1) (q := 51) X (TB.get tb_X2_lengthenWays 32 rfl) c_iconst_1 rfl ?_
        obtain ⟨x29, ex29, e⟩ := bs e
        refine V_callV (q := 54) (As := [.int a1, .int v13, .int v20, .int (1 : Int32)]) (rest := [.ref x28]) (st' := [.int x29, .ref x28]) X (TB.get tb_X2_lengthenWays 33 rfl) rfl cv_RX2_62 (ok_X2_following a0 a1 v13 v20 (1 : Int32) h21 x29 ex29).1 (ok_X2_following a0 a1 v13 v20 (1 : Int32) h21 x29 ex29).2 (Nat.le_of_ble_eq_true rfl) rfl rfl (Nat.le_of_ble_eq_true rfl) rfl ?_
        refine V_dup2 (q := 55) X (TB.get tb_X2_lengthenWays 34 rfl) rfl rfl rfl ?_
        obtain ⟨x30, ex30, e⟩ := bs e
        refine V_laload (q := 56) X (TB.get tb_X2_lengthenWays 35 rfl) rfl ex30 ?_
        refine V_aload_n (q := 57) X (TB.get tb_X2_lengthenWays 36 rfl) rfl rfl rfl ?_
        obtain ⟨x31, ex31, e⟩ := bs e
        refine V_getR (q := 60) X (TB.get tb_X2_lengthenWays 37 rfl) rfl lf_RX2_39 ex31 ?_
        refine V_iload_n (q := 61) X (TB.get tb_X2_lengthenWays 38 rfl) rfl rfl rfl ?_
        obtain ⟨x32, ex32, e⟩ := bs e
        refine V_laload (q := 62) X (TB.get tb_X2_lengthenWays 39 rfl) rfl ex32 ?_
        refine V_ladd (q := 63) X (TB.get tb_X2_lengthenWays 40 rfl) rfl ?_
        obtain ⟨h33, eh33, e⟩ := bs e
        refine V_lastore (q := 64) X (TB.get tb_X2_lengthenWays 41 rfl) rfl eh33 ?_
        refine V_aload_n (q := 65) X (TB.get tb_X2_lengthenWays 42 rfl) rfl rfl rfl ?_
        refine V_iload_n (q := 66) X (TB.get tb_X2_lengthenWays 43 rfl) rfl rfl rfl ?_
        refine V_iload_n (q := 67) X (TB.get tb_X2_lengthenWays 44 rfl) rfl rfl rfl ?_
        obtain ⟨x34, ex34, e⟩ := bs e
        refine V_callV (q := 70) (As := [.int a1, .int v13]) (rest := []) (st' := [.int x34]) X (TB.get tb_X2_lengthenWays 45 rfl) rfl cv_RX2_58 (ok_X2_sortOf a0 a1 v13 h33 x34 ex34).1 (ok_X2_sortOf a0 a1 v13 h33 x34 ex34).2 (Nat.le_of_ble_eq_true rfl) rfl rfl (Nat.le_of_ble_eq_true rfl) rfl ?_
        refine V_iconst (v := 1) (q := 71) X (TB.get tb_X2_lengthenWays 46 rfl) c_iconst_1 rfl ?_
        refine V_icmp_ne (q := 74) (t := 96) X (TB.get tb_X2_lengthenWays 47 rfl) rfl rfl (fun hc => ?_) (fun hc => ?_)
        · have e := (if_neg hc).symm.trans e
          exact Jj27 _ e
        · have e := (if_pos hc).symm.trans e
          refine V_aload_n (q := 75) X (TB.get tb_X2_lengthenWays 48 rfl) rfl rfl rfl ?_
          obtain ⟨x35, ex35, e⟩ := bs e
          refine V_getR (q := 78) X (TB.get tb_X2_lengthenWays 49 rfl) rfl lf_RX2_43 ex35 ?_
          refine V_aload_n (q := 79) X (TB.get tb_X2_lengthenWays 50 rfl) rfl rfl rfl ?_
          refine V_iload_n (q := 80) X (TB.get tb_X2_lengthenWays 51 rfl) rfl rfl rfl ?_
          refine V_iload_n (q := 81) X (TB.get tb_X2_lengthenWays 52 rfl) rfl rfl rfl ?_
          refine V_iload_n (q := 82) X (TB.get tb_X2_lengthenWays 53 rfl) rfl rfl rfl ?_
          refine V_iconst (v := 0) (q := 83) X (TB.get tb_X2_lengthenWays 54 rfl) c_iconst_0 rfl ?_
          obtain ⟨x36, ex36, e⟩ := bs e
          refine V_callV (q := 86) (As := [.int a1, .int v13, .int v20, .int (0 : Int32)]) (rest := [.ref x35]) (st' := [.int x36, .ref x35]) X (TB.get tb_X2_lengthenWays 55 rfl) rfl cv_RX2_62 (ok_X2_following a0 a1 v13 v20 (0 : Int32) h33 x36 ex36).1 (ok_X2_following a0 a1 v13 v20 (0 : Int32) h33 x36 ex36).2 (Nat.le_of_ble_eq_true rfl) rfl rfl (Nat.le_of_ble_eq_true rfl) rfl ?_
          refine V_dup2 (q := 87) X (TB.get tb_X2_lengthenWays 56 rfl) rfl rfl rfl ?_
          obtain ⟨x37, ex37, e⟩ := bs e
          refine V_laload (q := 88) X (TB.get tb_X2_lengthenWays 57 rfl) rfl ex37 ?_
          refine V_aload_n (q := 89) X (TB.get tb_X2_lengthenWays 58 rfl) rfl rfl rfl ?_
          obtain ⟨x38, ex38, e⟩ := bs e
          refine V_getR (q := 92) X (TB.get tb_X2_lengthenWays 59 rfl) rfl lf_RX2_39 ex38 ?_
          refine V_iload_n (q := 93) X (TB.get tb_X2_lengthenWays 60 rfl) rfl rfl rfl ?_
          obtain ⟨x39, ex39, e⟩ := bs e
          refine V_laload (q := 94) X (TB.get tb_X2_lengthenWays 61 rfl) rfl ex39 ?_
          refine V_ladd (q := 95) X (TB.get tb_X2_lengthenWays 62 rfl) rfl ?_
          obtain ⟨h40, eh40, e⟩ := bs e
          refine V_lastore (q := 96) X (TB.get tb_X2_lengthenWays 63 rfl) rfl eh40 ?_
          exact Jj27 _ e
set_option maxRecDepth 100000 in
set_option maxHeartbeats 4000000 in
theorem ok_X2_countRows (fu : Nat) (a0 : Nat) (a1 : Int32) (a2 : Int32) (a3 : Int32) (h : Hp) (res : Int32 × Hp) (e : MX2_countRows fu a0 a1 a2 a3 h = some res) : CK yX2_countRows cX2_countRows 7 (some .int) 3 [.ref a0, .int a1, .int a2, .int a3] h (some (.int res.1)) res.2 ∧ (h.1 a0).1 = 2 := by
  obtain ⟨hcl, e⟩ := h_g_inv e
  refine ⟨CK_of pn_RX2 cm_X2_countRows (Nat.le_of_ble_eq_true rfl) ?_, hcl⟩
  intro l D tc B nn p en s m args below meth c X hr hlk
  replace X : CX p (rmD 3) s m args c cX2_countRows 7 RX2 D tc 3 := X
  show V p l en (rmD 3) s m args below meth c 7 D tc B nn (Ar B nn) s.heap 0 0 (MQ below (QC D tc B nn (Ar B nn) (some (.int res.1)) res.2) args s 0 0 (Ar B nn)) h 0 [(0, .ref a0), (1, .int a1), (2, .int a2), (3, .int a3)] []
  refine V_aload_n (q := 1) X (TB.get tb_X2_countRows 0 rfl) rfl rfl rfl ?_
  obtain ⟨x1, ex1, e⟩ := bs e
  refine V_getR (q := 4) X (TB.get tb_X2_countRows 1 rfl) rfl lf_RX2_39 ex1 ?_
  refine V_lconst (v := 0) (q := 5) X (TB.get tb_X2_countRows 2 rfl) c_lconst_0 rfl ?_
  obtain ⟨h2, eh2, e⟩ := bs e
  refine V_callS (q := 8) (As := [.ref x1, .long (0 : Int64)]) (rest := []) (st' := []) X (TB.get tb_X2_countRows 3 rfl) rfl cs_RX2_91 (ok_J7_fill_d0a16 fu x1 (0 : Int64) h h2 eh2) (Nat.le_of_ble_eq_true rfl) rfl rfl (Nat.le_of_ble_eq_true rfl) rfl ?_
  refine V_aload_n (q := 9) X (TB.get tb_X2_countRows 4 rfl) rfl rfl rfl ?_
  obtain ⟨x3, ex3, e⟩ := bs e
  refine V_getR (q := 12) X (TB.get tb_X2_countRows 5 rfl) rfl lf_RX2_39 ex3 ?_
  refine V_iconst (v := 0) (q := 13) X (TB.get tb_X2_countRows 6 rfl) c_iconst_0 rfl ?_
  refine V_lconst (v := 1) (q := 14) X (TB.get tb_X2_countRows 7 rfl) c_lconst_1 rfl ?_
  obtain ⟨h4, eh4, e⟩ := bs e
  refine V_lastore (q := 15) X (TB.get tb_X2_countRows 8 rfl) rfl eh4 ?_
  refine V_iconst (v := 0) (q := 16) X (TB.get tb_X2_countRows 9 rfl) c_iconst_0 rfl ?_
  refine V_istore (q := 18) (lv' := [(4, .int (0 : Int32)), (0, .ref a0), (1, .int a1), (2, .int a2), (3, .int a3)]) X (TB.get tb_X2_countRows 10 rfl) rfl (Nat.le_of_ble_eq_true rfl) rfl ?_
  refine jn_elim (P := (fun (k : Hp → Option (Int32 × Hp)) => ∀ (h5 : Hp), k h5 = some res → V p l en (rmD 3) s m args below meth c 7 D tc B nn (Ar B nn) s.heap 0 0 (MQ below (QC D tc B nn (Ar B nn) (some (.int res.1)) res.2) args s 0 0 (Ar B nn)) h5 35 [(0, .ref a0), (1, .int a1), (3, .int a3)] [])) e ?_ (fun j6 Jj6 e => ?_)
  · intro h5 e
    refine V_lconst (v := 0) (q := 36) X (TB.get tb_X2_countRows 19 rfl) c_lconst_0 rfl ?_
    refine V_lstore (q := 38) (lv' := [(4, .long (0 : Int64)), (0, .ref a0), (1, .int a1), (3, .int a3)]) X (TB.get tb_X2_countRows 20 rfl) rfl (Nat.le_of_ble_eq_true rfl) rfl ?_
    refine V_iconst (v := 0) (q := 39) X (TB.get tb_X2_countRows 21 rfl) c_iconst_0 rfl ?_
    refine V_istore (q := 41) (lv' := [(6, .int (0 : Int32)), (4, .long (0 : Int64)), (0, .ref a0), (1, .int a1), (3, .int a3)]) X (TB.get tb_X2_countRows 22 rfl) rfl (Nat.le_of_ble_eq_true rfl) rfl ?_
    refine jn_elim (P := (fun (k : Int64 → Option (Int32 × Hp)) => ∀ (v7 : Int64), k v7 = some res → V p l en (rmD 3) s m args below meth c 7 D tc B nn (Ar B nn) s.heap 0 0 (MQ below (QC D tc B nn (Ar B nn) (some (.int res.1)) res.2) args s 0 0 (Ar B nn)) h5 88 [(4, .long v7)] [])) e ?_ (fun j8 Jj8 e => ?_)
    · intro v7 e
      refine V_lload (q := 90) X (TB.get tb_X2_countRows 49 rfl) rfl rfl ?_
      refine V_ldc2 (v := 1000000007) (q := 93) X (TB.get tb_X2_countRows 50 rfl) rfl kl_RX2_100 ?_
      obtain ⟨x9, ex9, e⟩ := bs e
      refine V_lrem (q := 94) X (TB.get tb_X2_countRows 51 rfl) rfl ex9 ?_
      refine V_l2i (q := 95) X (TB.get tb_X2_countRows 52 rfl) rfl ?_
      cases e
      exact V_iret X hr hlk (TB.get tb_X2_countRows 53 rfl)
    refine V_sub (lv' := [(0, .ref a0), (1, .int a1), (3, .int a3), (4, .long (0 : Int64)), (6, .int (0 : Int32))]) [2, 3, 4, 1, 0] rfl ?_
    refine wh2_elim (P := fun v10 v11 => V p l en (rmD 3) s m args below meth c 7 D tc B nn (Ar B nn) s.heap 0 0 (MQ below (QC D tc B nn (Ar B nn) (some (.int res.1)) res.2) args s 0 0 (Ar B nn)) h5 41 [(0, .ref a0), (1, .int a1), (3, .int a3), (4, .long v10), (6, .int v11)] []) (f := fu) ?_ e
    intro self12 v10 v11 ihself12 e
    unfold MX2_countRows_B41 at e
    refine V_iload (q := 43) X (TB.get tb_X2_countRows 23 rfl) rfl rfl ?_
    refine V_aload_n (q := 44) X (TB.get tb_X2_countRows 24 rfl) rfl rfl rfl ?_
    obtain ⟨x13, ex13, e⟩ := bs e
    refine V_getR (q := 47) X (TB.get tb_X2_countRows 25 rfl) rfl lf_RX2_9 ex13 ?_
    refine V_iload_n (q := 48) X (TB.get tb_X2_countRows 26 rfl) rfl rfl rfl ?_
    obtain ⟨x14, ex14, e⟩ := bs e
    refine V_iaload (q := 49) X (TB.get tb_X2_countRows 27 rfl) rfl ex14 ?_
    refine V_icmp_ge (q := 52) (t := 88) X (TB.get tb_X2_countRows 28 rfl) rfl rfl (fun hc => ?_) (fun hc => ?_)
    · have e := (if_pos hc).symm.trans e
      refine V_sub (lv' := [(4, .long v10)]) [3] rfl ?_
      exact Jj8 _ e
    · have e := (if_neg hc).symm.trans e
      refine V_iload_n (q := 53) X (TB.get tb_X2_countRows 29 rfl) rfl rfl rfl ?_
      refine jn_elim (P := (fun (k : Int64 → Option (Int32 × Hp)) => ∀ (v15 : Int64), k v15 = some res → V p l en (rmD 3) s m args below meth c 7 D tc B nn (Ar B nn) s.heap 0 0 (MQ below (QC D tc B nn (Ar B nn) (some (.int res.1)) res.2) args s 0 0 (Ar B nn)) h5 82 [(0, .ref a0), (1, .int a1), (3, .int a3), (4, .long v15), (6, .int v11)] [])) e ?_ (fun j16 Jj16 e => ?_)
      · intro v15 e
        refine V_iinc (q := 85) (v := v11 + (1 : Int32)) (lv' := [(6, .int (v11 + (1 : Int32))), (0, .ref a0), (1, .int a1), (3, .int a3), (4, .long v15)]) X (TB.get tb_X2_countRows 47 rfl) rfl rfl (by rw [c_iconst_1]) (Nat.le_of_ble_eq_true rfl) rfl ?_
        refine V_goto (q := 41) X (TB.get tb_X2_countRows 48 rfl) rfl ?_
        refine V_sub (lv' := [(0, .ref a0), (1, .int a1), (3, .int a3), (4, .long v15), (6, .int (v11 + (1 : Int32)))]) [1, 2, 3, 4, 0] rfl ?_
        exact ihself12 _ _ e
      refine jn_elim (P := (fun (k : Option (Int32 × Hp)) => k = some res → V p l en (rmD 3) s m args below meth c 7 D tc B nn (Ar B nn) s.heap 0 0 (MQ below (QC D tc B nn (Ar B nn) (some (.int res.1)) res.2) args s 0 0 (Ar B nn)) h5 70 [(0, .ref a0), (1, .int a1), (3, .int a3), (4, .long v10), (6, .int v11)] [])) e ?_ (fun j17 Jj17 e => ?_)
      · intro e
        refine V_lload (q := 72) X (TB.get tb_X2_countRows 40 rfl) rfl rfl ?_
        refine V_aload_n (q := 73) X (TB.get tb_X2_countRows 41 rfl) rfl rfl rfl ?_
        obtain ⟨x18, ex18, e⟩ := bs e
        refine V_getR (q := 76) X (TB.get tb_X2_countRows 42 rfl) rfl lf_RX2_39 ex18 ?_
        refine V_iload (q := 78) X (TB.get tb_X2_countRows 43 rfl) rfl rfl ?_
        obtain ⟨x19, ex19, e⟩ := bs e
        refine V_laload (q := 79) X (TB.get tb_X2_countRows 44 rfl) rfl ex19 ?_
        refine V_ladd (q := 80) X (TB.get tb_X2_countRows 45 rfl) rfl ?_
        refine V_lstore (q := 82) (lv' := [(4, .long (v10 + x19)), (0, .ref a0), (1, .int a1), (3, .int a3), (6, .int v11)]) X (TB.get tb_X2_countRows 46 rfl) rfl (Nat.le_of_ble_eq_true rfl) rfl ?_
        refine V_sub (lv' := [(0, .ref a0), (1, .int a1), (3, .int a3), (4, .long (v10 + x19)), (6, .int v11)]) [1, 2, 3, 0, 4] rfl ?_
        exact Jj16 _ e
      refine V_if_eq (q := 56) (t := 70) X (TB.get tb_X2_countRows 30 rfl) rfl rfl (fun hc => ?_) (fun hc => ?_)
      · have e := (if_pos hc).symm.trans e
        exact Jj17 e
      · have e := (if_neg hc).symm.trans e
        refine V_aload_n (q := 57) X (TB.get tb_X2_countRows 31 rfl) rfl rfl rfl ?_
        obtain ⟨x20, ex20, e⟩ := bs e
        refine V_getR (q := 60) X (TB.get tb_X2_countRows 32 rfl) rfl lf_RX2_15 ex20 ?_
        refine V_iload_n (q := 61) X (TB.get tb_X2_countRows 33 rfl) rfl rfl rfl ?_
        obtain ⟨x21, ex21, e⟩ := bs e
        refine V_iaload (q := 62) X (TB.get tb_X2_countRows 34 rfl) rfl ex21 ?_
        refine V_iload (q := 64) X (TB.get tb_X2_countRows 35 rfl) rfl rfl ?_
        refine V_ishr (q := 65) X (TB.get tb_X2_countRows 36 rfl) rfl ?_
        refine V_iconst (v := 1) (q := 66) X (TB.get tb_X2_countRows 37 rfl) c_iconst_1 rfl ?_
        refine V_iand (q := 67) X (TB.get tb_X2_countRows 38 rfl) rfl ?_
        refine V_if_eq (q := 70) (t := 82) X (TB.get tb_X2_countRows 39 rfl) rfl rfl (fun hc => ?_) (fun hc => ?_)
        · have e := (if_pos hc).symm.trans e
          exact Jj16 _ e
        · have e := (if_neg hc).symm.trans e
          exact Jj17 e
  refine V_sub (lv' := [(0, .ref a0), (1, .int a1), (2, .int a2), (3, .int a3), (4, .int (0 : Int32))]) [1, 2, 3, 4, 0] rfl ?_
  refine wh2_elim (P := fun v22 h23 => V p l en (rmD 3) s m args below meth c 7 D tc B nn (Ar B nn) s.heap 0 0 (MQ below (QC D tc B nn (Ar B nn) (some (.int res.1)) res.2) args s 0 0 (Ar B nn)) h23 18 [(0, .ref a0), (1, .int a1), (2, .int a2), (3, .int a3), (4, .int v22)] []) (f := fu) ?_ e
  intro self24 v22 h23 ihself24 e
  unfold MX2_countRows_B18 at e
  refine V_iload (q := 20) X (TB.get tb_X2_countRows 11 rfl) rfl rfl ?_
  refine V_iload_n (q := 21) X (TB.get tb_X2_countRows 12 rfl) rfl rfl rfl ?_
  refine V_icmp_ge (q := 24) (t := 35) X (TB.get tb_X2_countRows 13 rfl) rfl rfl (fun hc => ?_) (fun hc => ?_)
  · have e := (if_pos hc).symm.trans e
    refine V_sub (lv' := [(0, .ref a0), (1, .int a1), (3, .int a3)]) [0, 1, 3] rfl ?_
    exact Jj6 _ e
  · have e := (if_neg hc).symm.trans e
    refine V_aload_n (q := 25) X (TB.get tb_X2_countRows 14 rfl) rfl rfl rfl ?_
    refine V_iload_n (q := 26) X (TB.get tb_X2_countRows 15 rfl) rfl rfl rfl ?_
    obtain ⟨h25, eh25, e⟩ := bs e
    refine V_callV (q := 29) (As := [.int a1]) (rest := []) (st' := []) X (TB.get tb_X2_countRows 16 rfl) rfl cv_RX2_97 (ok_X2_lengthenWays fu a0 a1 h23 h25 eh25).1 (ok_X2_lengthenWays fu a0 a1 h23 h25 eh25).2 (Nat.le_of_ble_eq_true rfl) rfl rfl (Nat.le_of_ble_eq_true rfl) rfl ?_
    refine V_iinc (q := 32) (v := v22 + (1 : Int32)) (lv' := [(4, .int (v22 + (1 : Int32))), (0, .ref a0), (1, .int a1), (2, .int a2), (3, .int a3)]) X (TB.get tb_X2_countRows 17 rfl) rfl rfl (by rw [c_iconst_1]) (Nat.le_of_ble_eq_true rfl) rfl ?_
    refine V_goto (q := 18) X (TB.get tb_X2_countRows 18 rfl) rfl ?_
    refine V_sub (lv' := [(0, .ref a0), (1, .int a1), (2, .int a2), (3, .int a3), (4, .int (v22 + (1 : Int32)))]) [1, 2, 3, 4, 0] rfl ?_
    exact ihself24 _ _ e
set_option maxRecDepth 100000 in
set_option maxHeartbeats 4000000 in
theorem ok_X3_handOver (a0 : Nat) (a1 : Nat) (h : Hp) (res : Nat × Hp) (e : MX3_handOver a0 a1 h = some res) : CK yX3_handOver cX3_handOver 3 (some (.object "HoldChecker$Program")) 0 [.ref a0, .ref a1] h (some (.ref res.1)) res.2 ∧ (h.1 a0).1 = 3 := by
  obtain ⟨hcl, e⟩ := h_g_inv e
  refine ⟨CK_of pn_RX3 cm_X3_handOver (Nat.le_of_ble_eq_true rfl) ?_, hcl⟩
  intro l D tc B nn p en s m args below meth c X hr hlk
  replace X : CX p (rmD 0) s m args c cX3_handOver 3 RX3 D tc 0 := X
  show V p l en (rmD 0) s m args below meth c 3 D tc B nn (Ar B nn) s.heap 0 0 (MQ below (QC D tc B nn (Ar B nn) (some (.ref res.1)) res.2) args s 0 0 (Ar B nn)) h 0 [(0, .ref a0), (1, .ref a1)] []
  refine V_aload_n (q := 1) X (TB.get tb_X3_handOver 0 rfl) rfl rfl rfl ?_
  obtain ⟨x1, ex1, e⟩ := bs e
  refine V_getR (q := 4) X (TB.get tb_X3_handOver 1 rfl) rfl lf_RX3_21 ex1 ?_
  refine V_astore_n (q := 5) (lv' := [(2, .ref x1), (0, .ref a0), (1, .ref a1)]) X (TB.get tb_X3_handOver 2 rfl) rfl rfl (Nat.le_of_ble_eq_true rfl) rfl ?_
  refine V_aload_n (q := 6) X (TB.get tb_X3_handOver 3 rfl) rfl rfl rfl ?_
  refine V_aload_n (q := 7) X (TB.get tb_X3_handOver 4 rfl) rfl rfl rfl ?_
  obtain ⟨h2, eh2, e⟩ := bs e
  refine V_putR (q := 10) X (TB.get tb_X3_handOver 5 rfl) rfl lq_RX3_21 eh2 ?_
  refine V_aload_n (q := 11) X (TB.get tb_X3_handOver 6 rfl) rfl rfl rfl ?_
  cases e
  exact V_aret X hr hlk (TB.get tb_X3_handOver 7 rfl)
set_option maxRecDepth 100000 in
set_option maxHeartbeats 4000000 in
theorem ok_X4_empty (a0 : Nat) (h : Hp) (res : Hp) (e : MX4_empty a0 h = some res) : CK yX4_empty cX4_empty 1 none 0 [.ref a0] h none res ∧ (h.1 a0).1 = 4 := by
  obtain ⟨hcl, e⟩ := h_g_inv e
  refine ⟨CK_of pn_RX4 cm_X4_empty (Nat.le_of_ble_eq_true rfl) ?_, hcl⟩
  intro l D tc B nn p en s m args below meth c X hr hlk
  replace X : CX p (rmD 0) s m args c cX4_empty 1 RX4 D tc 0 := X
  show V p l en (rmD 0) s m args below meth c 1 D tc B nn (Ar B nn) s.heap 0 0 (MQ below (QC D tc B nn (Ar B nn) none res) args s 0 0 (Ar B nn)) h 0 [(0, .ref a0)] []
  refine V_aload_n (q := 1) X (TB.get tb_X4_empty 0 rfl) rfl rfl rfl ?_
  obtain ⟨x1, ex1, e⟩ := bs e
  refine V_getR (q := 4) X (TB.get tb_X4_empty 1 rfl) rfl lf_RX4_12 ex1 ?_
  refine V_iconst (v := 0) (q := 5) X (TB.get tb_X4_empty 2 rfl) c_iconst_0 rfl ?_
  obtain ⟨h2, eh2, e⟩ := bs e
  refine V_putI (q := 8) X (TB.get tb_X4_empty 3 rfl) rfl lq_RX4_55 eh2 ?_
  refine V_aload_n (q := 9) X (TB.get tb_X4_empty 4 rfl) rfl rfl rfl ?_
  refine V_iconst (v := 0) (q := 10) X (TB.get tb_X4_empty 5 rfl) c_iconst_0 rfl ?_
  obtain ⟨h3, eh3, e⟩ := bs e
  refine V_putI (q := 13) X (TB.get tb_X4_empty 6 rfl) rfl lq_RX4_59 eh3 ?_
  refine V_aload_n (q := 14) X (TB.get tb_X4_empty 7 rfl) rfl rfl rfl ?_
  refine V_iconst (v := 0) (q := 15) X (TB.get tb_X4_empty 8 rfl) c_iconst_0 rfl ?_
  obtain ⟨h4, eh4, e⟩ := bs e
  refine V_putI (q := 18) X (TB.get tb_X4_empty 9 rfl) rfl lq_RX4_62 eh4 ?_
  cases e
  exact V_vret X hr hlk (TB.get tb_X4_empty 10 rfl)
set_option maxRecDepth 100000 in
set_option maxHeartbeats 4000000 in
theorem ok_X7_takeWord (fu : Nat) (a0 : Nat) (h : Hp) (res : Hp) (e : MX7_takeWord fu a0 h = some res) : CK yX7_takeWord cX7_takeWord 2 none 0 [.ref a0] h none res ∧ (h.1 a0).1 = 7 := by
  obtain ⟨hcl, e⟩ := h_g_inv e
  refine ⟨CK_of pn_RX7 cm_X7_takeWord (Nat.le_of_ble_eq_true rfl) ?_, hcl⟩
  intro l D tc B nn p en s m args below meth c X hr hlk
  replace X : CX p (rmD 0) s m args c cX7_takeWord 2 RX7 D tc 0 := X
  show V p l en (rmD 0) s m args below meth c 2 D tc B nn (Ar B nn) s.heap 0 0 (MQ below (QC D tc B nn (Ar B nn) none res) args s 0 0 (Ar B nn)) h 0 [(0, .ref a0)] []
  refine V_aload_n (q := 1) X (TB.get tb_X7_takeWord 0 rfl) rfl rfl rfl ?_
  refine V_lconst (v := 0) (q := 2) X (TB.get tb_X7_takeWord 1 rfl) c_lconst_0 rfl ?_
  obtain ⟨h1, eh1, e⟩ := bs e
  refine V_putL (q := 5) X (TB.get tb_X7_takeWord 2 rfl) rfl lq_RX7_63 eh1 ?_
  refine jn_elim (P := (fun (k : Hp → Option (Hp)) => ∀ (h2 : Hp), k h2 = some res → V p l en (rmD 0) s m args below meth c 2 D tc B nn (Ar B nn) s.heap 0 0 (MQ below (QC D tc B nn (Ar B nn) none res) args s 0 0 (Ar B nn)) h2 99 [(0, .ref a0)] [])) e ?_ (fun j3 Jj3 e => ?_)
  · intro h2 e
    refine V_aload_n (q := 100) X (TB.get tb_X7_takeWord 53 rfl) rfl rfl rfl ?_
    refine V_aload_n (q := 101) X (TB.get tb_X7_takeWord 54 rfl) rfl rfl rfl ?_
    obtain ⟨x4, ex4, e⟩ := bs e
    refine V_getI (q := 104) X (TB.get tb_X7_takeWord 55 rfl) rfl lf_RX7_44 ex4 ?_
    refine V_aload_n (q := 105) X (TB.get tb_X7_takeWord 56 rfl) rfl rfl rfl ?_
    obtain ⟨x5, ex5, e⟩ := bs e
    refine V_getI (q := 108) X (TB.get tb_X7_takeWord 57 rfl) rfl lf_RX7_50 ex5 ?_
    refine V_isub (q := 109) X (TB.get tb_X7_takeWord 58 rfl) rfl ?_
    refine V_bipush (v := 8) (q := 111) X (TB.get tb_X7_takeWord 59 rfl) c_bipush_8 rfl ?_
    refine jn_elim (P := (fun (k : Int32 → Option (Hp)) => ∀ (w6 : Int32), k w6 = some res → V p l en (rmD 0) s m args below meth c 2 D tc B nn (Ar B nn) s.heap 0 0 (MQ below (QC D tc B nn (Ar B nn) none res) args s 0 0 (Ar B nn)) h2 121 [(0, .ref a0)] [.int w6, .ref a0])) e ?_ (fun j7 Jj7 e => ?_)
    · intro w6 e
      obtain ⟨h8, eh8, e⟩ := bs e
      refine V_putI (q := 124) X (TB.get tb_X7_takeWord 64 rfl) rfl lq_RX7_53 eh8 ?_
      refine V_iconst (v := 0) (q := 125) X (TB.get tb_X7_takeWord 65 rfl) c_iconst_0 rfl ?_
      refine V_istore_n (q := 126) (lv' := [(1, .int (0 : Int32)), (0, .ref a0)]) X (TB.get tb_X7_takeWord 66 rfl) rfl rfl (Nat.le_of_ble_eq_true rfl) rfl ?_
      refine V_sub (lv' := [(0, .ref a0), (1, .int (0 : Int32))]) [1, 0] rfl ?_
      refine wh2_elim (P := fun v9 h10 => V p l en (rmD 0) s m args below meth c 2 D tc B nn (Ar B nn) s.heap 0 0 (MQ below (QC D tc B nn (Ar B nn) none res) args s 0 0 (Ar B nn)) h10 126 [(0, .ref a0), (1, .int v9)] []) (f := fu) ?_ e
      intro self11 v9 h10 ihself11 e
      unfold MX7_takeWord_B126 at e
      refine V_iload_n (q := 127) X (TB.get tb_X7_takeWord 67 rfl) rfl rfl rfl ?_
      refine V_bipush (v := 18) (q := 129) X (TB.get tb_X7_takeWord 68 rfl) c_bipush_18 rfl ?_
      refine V_icmp_ge (q := 132) (t := 166) X (TB.get tb_X7_takeWord 69 rfl) rfl rfl (fun hc => ?_) (fun hc => ?_)
      · have e := (if_pos hc).symm.trans e
        cases e
        exact V_vret X hr hlk (TB.get tb_X7_takeWord 87 rfl)
      · have e := (if_neg hc).symm.trans e
        refine V_aload_n (q := 133) X (TB.get tb_X7_takeWord 70 rfl) rfl rfl rfl ?_
        obtain ⟨x12, ex12, e⟩ := bs e
        refine V_getI (q := 136) X (TB.get tb_X7_takeWord 71 rfl) rfl lf_RX7_53 ex12 ?_
        refine V_bipush (v := 18) (q := 138) X (TB.get tb_X7_takeWord 72 rfl) c_bipush_18 rfl ?_
        refine V_icmp_ne (q := 141) (t := 166) X (TB.get tb_X7_takeWord 73 rfl) rfl rfl (fun hc => ?_) (fun hc => ?_)
        · have e := (if_neg hc).symm.trans e
          cases e
          exact V_vret X hr hlk (TB.get tb_X7_takeWord 87 rfl)
        · have e := (if_pos hc).symm.trans e
          refine V_aload_n (q := 142) X (TB.get tb_X7_takeWord 74 rfl) rfl rfl rfl ?_
          obtain ⟨x13, ex13, e⟩ := bs e
          refine V_getR (q := 145) X (TB.get tb_X7_takeWord 75 rfl) rfl lf_RX7_15 ex13 ?_
          refine V_iload_n (q := 146) X (TB.get tb_X7_takeWord 76 rfl) rfl rfl rfl ?_
          obtain ⟨x14, ex14, e⟩ := bs e
          refine V_laload (q := 147) X (TB.get tb_X7_takeWord 77 rfl) rfl ex14 ?_
          refine V_aload_n (q := 148) X (TB.get tb_X7_takeWord 78 rfl) rfl rfl rfl ?_
          obtain ⟨x15, ex15, e⟩ := bs e
          refine V_getL (q := 151) X (TB.get tb_X7_takeWord 79 rfl) rfl lf_RX7_63 ex15 ?_
          refine V_lcmp (q := 152) X (TB.get tb_X7_takeWord 80 rfl) rfl ?_
          refine jn_elim (P := (fun (k : Hp → Option (Hp)) => ∀ (h16 : Hp), k h16 = some res → V p l en (rmD 0) s m args below meth c 2 D tc B nn (Ar B nn) s.heap 0 0 (MQ below (QC D tc B nn (Ar B nn) none res) args s 0 0 (Ar B nn)) h16 160 [(0, .ref a0), (1, .int v9)] [])) e ?_ (fun j17 Jj17 e => ?_)
          · intro h16 e
            refine V_iinc (q := 163) (v := v9 + (1 : Int32)) (lv' := [(1, .int (v9 + (1 : Int32))), (0, .ref a0)]) X (TB.get tb_X7_takeWord 85 rfl) rfl rfl (by rw [c_iconst_1]) (Nat.le_of_ble_eq_true rfl) rfl ?_
            refine V_goto (q := 126) X (TB.get tb_X7_takeWord 86 rfl) rfl ?_
            refine V_sub (lv' := [(0, .ref a0), (1, .int (v9 + (1 : Int32)))]) [1, 0] rfl ?_
            exact ihself11 _ _ e
          refine V_if_ne (q := 155) (t := 160) X (TB.get tb_X7_takeWord 81 rfl) rfl rfl (fun hc => ?_) (fun hc => ?_)
          · have e := (if_neg hc).symm.trans e
            exact Jj17 _ e
          · have e := (if_pos hc).symm.trans e
            refine V_aload_n (q := 156) X (TB.get tb_X7_takeWord 82 rfl) rfl rfl rfl ?_
            refine V_iload_n (q := 157) X (TB.get tb_X7_takeWord 83 rfl) rfl rfl rfl ?_
            obtain ⟨h18, eh18, e⟩ := bs e
            refine V_putI (q := 160) X (TB.get tb_X7_takeWord 84 rfl) rfl lq_RX7_53 eh18 ?_
            exact Jj17 _ e
    refine V_icmp_le (q := 114) (t := 119) X (TB.get tb_X7_takeWord 60 rfl) rfl rfl (fun hc => ?_) (fun hc => ?_)
    · have e := (if_pos hc).symm.trans e
      refine V_bipush (v := 18) (q := 121) X (TB.get tb_X7_takeWord 63 rfl) c_bipush_18 rfl ?_
      exact Jj7 _ e
    · have e := (if_neg hc).symm.trans e
      refine V_bipush (v := 23) (q := 116) X (TB.get tb_X7_takeWord 61 rfl) c_bipush_23 rfl ?_
      refine V_goto (q := 121) X (TB.get tb_X7_takeWord 62 rfl) rfl ?_
      exact Jj7 _ e
  refine wh1_elim (P := fun h19 => V p l en (rmD 0) s m args below meth c 2 D tc B nn (Ar B nn) s.heap 0 0 (MQ below (QC D tc B nn (Ar B nn) none res) args s 0 0 (Ar B nn)) h19 5 [(0, .ref a0)] []) (f := fu) ?_ e
  intro self20 h19 ihself20 e
  unfold MX7_takeWord_B5 at e
  refine V_aload_n (q := 6) X (TB.get tb_X7_takeWord 3 rfl) rfl rfl rfl ?_
  obtain ⟨x21, ex21, e⟩ := bs e
  refine V_getI (q := 9) X (TB.get tb_X7_takeWord 4 rfl) rfl lf_RX7_44 ex21 ?_
  refine V_aload_n (q := 10) X (TB.get tb_X7_takeWord 5 rfl) rfl rfl rfl ?_
  obtain ⟨x22, ex22, e⟩ := bs e
  refine V_getI (q := 13) X (TB.get tb_X7_takeWord 6 rfl) rfl lf_RX7_41 ex22 ?_
  refine V_icmp_ge (q := 16) (t := 99) X (TB.get tb_X7_takeWord 7 rfl) rfl rfl (fun hc => ?_) (fun hc => ?_)
  · have e := (if_pos hc).symm.trans e
    exact Jj3 _ e
  · have e := (if_neg hc).symm.trans e
    refine V_aload_n (q := 17) X (TB.get tb_X7_takeWord 8 rfl) rfl rfl rfl ?_
    obtain ⟨x23, ex23, e⟩ := bs e
    refine V_getR (q := 20) X (TB.get tb_X7_takeWord 9 rfl) rfl lf_RX7_9 ex23 ?_
    refine V_aload_n (q := 21) X (TB.get tb_X7_takeWord 10 rfl) rfl rfl rfl ?_
    refine V_getI (q := 24) X (TB.get tb_X7_takeWord 11 rfl) rfl lf_RX7_44 ex21 ?_
    obtain ⟨x24, ex24, e⟩ := bs e
    refine V_baloadB (q := 25) X (TB.get tb_X7_takeWord 12 rfl) rfl ex24 ?_
    refine V_bipush (v := 97) (q := 27) X (TB.get tb_X7_takeWord 13 rfl) c_bipush_97 rfl ?_
    refine V_icmp_lt (q := 30) (t := 99) X (TB.get tb_X7_takeWord 14 rfl) rfl rfl (fun hc => ?_) (fun hc => ?_)
    · have e := (if_pos hc).symm.trans e
      exact Jj3 _ e
    · have e := (if_neg hc).symm.trans e
      refine V_aload_n (q := 31) X (TB.get tb_X7_takeWord 15 rfl) rfl rfl rfl ?_
      refine V_getR (q := 34) X (TB.get tb_X7_takeWord 16 rfl) rfl lf_RX7_9 ex23 ?_
      refine V_aload_n (q := 35) X (TB.get tb_X7_takeWord 17 rfl) rfl rfl rfl ?_
      refine V_getI (q := 38) X (TB.get tb_X7_takeWord 18 rfl) rfl lf_RX7_44 ex21 ?_
      refine V_baloadB (q := 39) X (TB.get tb_X7_takeWord 19 rfl) rfl ex24 ?_
      refine V_bipush (v := 122) (q := 41) X (TB.get tb_X7_takeWord 20 rfl) c_bipush_122 rfl ?_
      refine V_icmp_gt (q := 44) (t := 99) X (TB.get tb_X7_takeWord 21 rfl) rfl rfl (fun hc => ?_) (fun hc => ?_)
      · have e := (if_pos hc).symm.trans e
        exact Jj3 _ e
      · have e := (if_neg hc).symm.trans e
        refine V_aload_n (q := 45) X (TB.get tb_X7_takeWord 22 rfl) rfl rfl rfl ?_
        refine V_getI (q := 48) X (TB.get tb_X7_takeWord 23 rfl) rfl lf_RX7_44 ex21 ?_
        refine V_aload_n (q := 49) X (TB.get tb_X7_takeWord 24 rfl) rfl rfl rfl ?_
        obtain ⟨x25, ex25, e⟩ := bs e
        refine V_getI (q := 52) X (TB.get tb_X7_takeWord 25 rfl) rfl lf_RX7_50 ex25 ?_
        refine V_isub (q := 53) X (TB.get tb_X7_takeWord 26 rfl) rfl ?_
        refine V_bipush (v := 8) (q := 55) X (TB.get tb_X7_takeWord 27 rfl) c_bipush_8 rfl ?_
        refine jn_elim (P := (fun (k : Hp → Option (Hp)) => ∀ (h26 : Hp), k h26 = some res → V p l en (rmD 0) s m args below meth c 2 D tc B nn (Ar B nn) s.heap 0 0 (MQ below (QC D tc B nn (Ar B nn) none res) args s 0 0 (Ar B nn)) h26 86 [(0, .ref a0)] [])) e ?_ (fun j27 Jj27 e => ?_)
        · intro h26 e
          refine V_aload_n (q := 87) X (TB.get tb_X7_takeWord 46 rfl) rfl rfl rfl ?_
          refine V_dup (q := 88) X (TB.get tb_X7_takeWord 47 rfl) rfl rfl ?_
          obtain ⟨x28, ex28, e⟩ := bs e
          refine V_getI (q := 91) X (TB.get tb_X7_takeWord 48 rfl) rfl lf_RX7_44 ex28 ?_
          refine V_iconst (v := 1) (q := 92) X (TB.get tb_X7_takeWord 49 rfl) c_iconst_1 rfl ?_
          refine V_iadd (q := 93) X (TB.get tb_X7_takeWord 50 rfl) rfl ?_
          obtain ⟨h29, eh29, e⟩ := bs e
          refine V_putI (q := 96) X (TB.get tb_X7_takeWord 51 rfl) rfl lq_RX7_44 eh29 ?_
          refine V_goto (q := 5) X (TB.get tb_X7_takeWord 52 rfl) rfl ?_
          exact ihself20 _ e
        refine V_icmp_ge (q := 58) (t := 86) X (TB.get tb_X7_takeWord 28 rfl) rfl rfl (fun hc => ?_) (fun hc => ?_)
        · have e := (if_pos hc).symm.trans e
          exact Jj27 _ e
        · have e := (if_neg hc).symm.trans e
          refine V_aload_n (q := 59) X (TB.get tb_X7_takeWord 29 rfl) rfl rfl rfl ?_
          refine V_aload_n (q := 60) X (TB.get tb_X7_takeWord 30 rfl) rfl rfl rfl ?_
          obtain ⟨x30, ex30, e⟩ := bs e
          refine V_getL (q := 63) X (TB.get tb_X7_takeWord 31 rfl) rfl lf_RX7_63 ex30 ?_
          refine V_ldc2 (v := 32) (q := 66) X (TB.get tb_X7_takeWord 32 rfl) rfl kl_RX7_31 ?_
          refine V_lmul (q := 67) X (TB.get tb_X7_takeWord 33 rfl) rfl ?_
          refine V_aload_n (q := 68) X (TB.get tb_X7_takeWord 34 rfl) rfl rfl rfl ?_
          refine V_getR (q := 71) X (TB.get tb_X7_takeWord 35 rfl) rfl lf_RX7_9 ex23 ?_
          refine V_aload_n (q := 72) X (TB.get tb_X7_takeWord 36 rfl) rfl rfl rfl ?_
          refine V_getI (q := 75) X (TB.get tb_X7_takeWord 37 rfl) rfl lf_RX7_44 ex21 ?_
          refine V_baloadB (q := 76) X (TB.get tb_X7_takeWord 38 rfl) rfl ex24 ?_
          refine V_bipush (v := 97) (q := 78) X (TB.get tb_X7_takeWord 39 rfl) c_bipush_97 rfl ?_
          refine V_isub (q := 79) X (TB.get tb_X7_takeWord 40 rfl) rfl ?_
          refine V_iconst (v := 1) (q := 80) X (TB.get tb_X7_takeWord 41 rfl) c_iconst_1 rfl ?_
          refine V_iadd (q := 81) X (TB.get tb_X7_takeWord 42 rfl) rfl ?_
          refine V_i2l (q := 82) X (TB.get tb_X7_takeWord 43 rfl) rfl ?_
          refine V_ladd (q := 83) X (TB.get tb_X7_takeWord 44 rfl) rfl ?_
          obtain ⟨h31, eh31, e⟩ := bs e
          refine V_putL (q := 86) X (TB.get tb_X7_takeWord 45 rfl) rfl lq_RX7_63 eh31 ?_
          exact Jj27 _ e
set_option maxRecDepth 100000 in
set_option maxHeartbeats 4000000 in
theorem ok_X7_signSort (a0 : Int32) (h : Hp) (res : Int32) (e : MX7_signSort a0 = some res) : CK yX7_signSort cX7_signSort 1 (some .int) 0 [.int a0] h (some (.int res)) h := by
  unfold MX7_signSort at e
  refine CK_of pn_RX7 cm_X7_signSort (Nat.le_of_ble_eq_true rfl) ?_
  intro l D tc B nn p en s m args below meth c X hr hlk
  replace X : CX p (rmD 0) s m args c cX7_signSort 1 RX7 D tc 0 := X
  show V p l en (rmD 0) s m args below meth c 1 D tc B nn (Ar B nn) s.heap 0 0 (MQ below (QC D tc B nn (Ar B nn) (some (.int res)) h) args s 0 0 (Ar B nn)) h 0 [(0, .int a0)] []
  refine V_iload_n (q := 1) X (TB.get tb_X7_signSort 0 rfl) rfl rfl rfl ?_
  by_cases hc0 : a0 = (59 : Int32)
  · have e := (if_pos hc0).symm.trans e
    rw [hc0]
    refine V_lookup (q := 36) X (TB.get tb_X7_signSort 1 rfl) (by decide +kernel) rfl rfl ?_
    refine V_bipush (v := 19) (q := 38) X (TB.get tb_X7_signSort 2 rfl) c_bipush_19 rfl ?_
    cases e
    exact V_iret X hr hlk (TB.get tb_X7_signSort 3 rfl)
  have e := (if_neg hc0).symm.trans e
  by_cases hc1 : a0 = (123 : Int32)
  · have e := (if_pos hc1).symm.trans e
    rw [hc1]
    refine V_lookup (q := 39) X (TB.get tb_X7_signSort 1 rfl) (by decide +kernel) rfl rfl ?_
    refine V_bipush (v := 20) (q := 41) X (TB.get tb_X7_signSort 4 rfl) c_bipush_20 rfl ?_
    cases e
    exact V_iret X hr hlk (TB.get tb_X7_signSort 5 rfl)
  have e := (if_neg hc1).symm.trans e
  by_cases hc2 : a0 = (125 : Int32)
  · have e := (if_pos hc2).symm.trans e
    rw [hc2]
    refine V_lookup (q := 42) X (TB.get tb_X7_signSort 1 rfl) (by decide +kernel) rfl rfl ?_
    refine V_bipush (v := 21) (q := 44) X (TB.get tb_X7_signSort 6 rfl) c_bipush_21 rfl ?_
    cases e
    exact V_iret X hr hlk (TB.get tb_X7_signSort 7 rfl)
  have e := (if_neg hc2).symm.trans e
  refine V_lookup (q := 45) X (TB.get tb_X7_signSort 1 rfl) (by decide +kernel) (look_out a0 _ _ (fun z hz => by simp only [List.mem_cons, List.not_mem_nil, or_false] at hz; rcases hz with rfl | rfl | rfl; exact fun w => hc0 (Int32.toInt_inj.mp (w.symm.trans (by decide))); exact fun w => hc1 (Int32.toInt_inj.mp (w.symm.trans (by decide))); exact fun w => hc2 (Int32.toInt_inj.mp (w.symm.trans (by decide))))) rfl ?_
  refine V_bipush (v := 23) (q := 47) X (TB.get tb_X7_signSort 8 rfl) c_bipush_23 rfl ?_
  cases e
  exact V_iret X hr hlk (TB.get tb_X7_signSort 9 rfl)
set_option maxRecDepth 100000 in
set_option maxHeartbeats 4000000 in
theorem ok_X7_advance (fu : Nat) (a0 : Nat) (h : Hp) (res : Hp) (e : MX7_advance fu a0 h = some res) : CK yX7_advance cX7_advance 1 none 1 [.ref a0] h none res ∧ (h.1 a0).1 = 7 := by
  obtain ⟨hcl, e⟩ := h_g_inv e
  refine ⟨CK_of pn_RX7 cm_X7_advance (Nat.le_of_ble_eq_true rfl) ?_, hcl⟩
  intro l D tc B nn p en s m args below meth c X hr hlk
  replace X : CX p (rmD 1) s m args c cX7_advance 1 RX7 D tc 1 := X
  show V p l en (rmD 1) s m args below meth c 1 D tc B nn (Ar B nn) s.heap 0 0 (MQ below (QC D tc B nn (Ar B nn) none res) args s 0 0 (Ar B nn)) h 0 [(0, .ref a0)] []
  refine jn_elim (P := (fun (k : Hp → Option (Hp)) => ∀ (h1 : Hp), k h1 = some res → V p l en (rmD 1) s m args below meth c 1 D tc B nn (Ar B nn) s.heap 0 0 (MQ below (QC D tc B nn (Ar B nn) none res) args s 0 0 (Ar B nn)) h1 52 [(0, .ref a0)] [])) e ?_ (fun j2 Jj2 e => ?_)
  · intro h1 e
    refine V_aload_n (q := 53) X (TB.get tb_X7_advance 26 rfl) rfl rfl rfl ?_
    refine V_aload_n (q := 54) X (TB.get tb_X7_advance 27 rfl) rfl rfl rfl ?_
    obtain ⟨x3, ex3, e⟩ := bs e
    refine V_getI (q := 57) X (TB.get tb_X7_advance 28 rfl) rfl lf_RX7_44 ex3 ?_
    obtain ⟨h4, eh4, e⟩ := bs e
    refine V_putI (q := 60) X (TB.get tb_X7_advance 29 rfl) rfl lq_RX7_50 eh4 ?_
    refine V_aload_n (q := 61) X (TB.get tb_X7_advance 30 rfl) rfl rfl rfl ?_
    obtain ⟨x5, ex5, e⟩ := bs e
    refine V_getI (q := 64) X (TB.get tb_X7_advance 31 rfl) rfl lf_RX7_44 ex5 ?_
    refine V_aload_n (q := 65) X (TB.get tb_X7_advance 32 rfl) rfl rfl rfl ?_
    obtain ⟨x6, ex6, e⟩ := bs e
    refine V_getI (q := 68) X (TB.get tb_X7_advance 33 rfl) rfl lf_RX7_41 ex6 ?_
    refine V_icmp_lt (q := 71) (t := 78) X (TB.get tb_X7_advance 34 rfl) rfl rfl (fun hc => ?_) (fun hc => ?_)
    · have e := (if_pos hc).symm.trans e
      refine V_aload_n (q := 79) X (TB.get tb_X7_advance 39 rfl) rfl rfl rfl ?_
      obtain ⟨h7, eh7, e⟩ := bs e
      refine V_callV (q := 82) (As := []) (rest := []) (st' := []) X (TB.get tb_X7_advance 40 rfl) rfl cv_RX7_56 (ok_X7_takeWord fu a0 h4 h7 eh7).1 (ok_X7_takeWord fu a0 h4 h7 eh7).2 (Nat.le_of_ble_eq_true rfl) rfl rfl (Nat.le_of_ble_eq_true rfl) rfl ?_
      refine V_aload_n (q := 83) X (TB.get tb_X7_advance 41 rfl) rfl rfl rfl ?_
      obtain ⟨x8, ex8, e⟩ := bs e
      refine V_getI (q := 86) X (TB.get tb_X7_advance 42 rfl) rfl lf_RX7_44 ex8 ?_
      refine V_aload_n (q := 87) X (TB.get tb_X7_advance 43 rfl) rfl rfl rfl ?_
      obtain ⟨x9, ex9, e⟩ := bs e
      refine V_getI (q := 90) X (TB.get tb_X7_advance 44 rfl) rfl lf_RX7_50 ex9 ?_
      refine V_icmp_ne (q := 93) (t := 119) X (TB.get tb_X7_advance 45 rfl) rfl rfl (fun hc => ?_) (fun hc => ?_)
      · have e := (if_neg hc).symm.trans e
        cases e
        exact V_vret X hr hlk (TB.get tb_X7_advance 60 rfl)
      · have e := (if_pos hc).symm.trans e
        refine V_aload_n (q := 94) X (TB.get tb_X7_advance 46 rfl) rfl rfl rfl ?_
        refine V_aload_n (q := 95) X (TB.get tb_X7_advance 47 rfl) rfl rfl rfl ?_
        obtain ⟨x10, ex10, e⟩ := bs e
        refine V_getR (q := 98) X (TB.get tb_X7_advance 48 rfl) rfl lf_RX7_9 ex10 ?_
        refine V_aload_n (q := 99) X (TB.get tb_X7_advance 49 rfl) rfl rfl rfl ?_
        refine V_getI (q := 102) X (TB.get tb_X7_advance 50 rfl) rfl lf_RX7_44 ex8 ?_
        obtain ⟨x11, ex11, e⟩ := bs e
        refine V_baloadB (q := 103) X (TB.get tb_X7_advance 51 rfl) rfl ex11 ?_
        obtain ⟨x12, ex12, e⟩ := bs e
        refine V_callS (q := 106) (As := [.int x11]) (rest := [.ref a0]) (st' := [.int x12, .ref a0]) X (TB.get tb_X7_advance 52 rfl) rfl cs_RX7_59 (ok_X7_signSort x11 h7 x12 ex12) (Nat.le_of_ble_eq_true rfl) rfl rfl (Nat.le_of_ble_eq_true rfl) rfl ?_
        obtain ⟨h13, eh13, e⟩ := bs e
        refine V_putI (q := 109) X (TB.get tb_X7_advance 53 rfl) rfl lq_RX7_53 eh13 ?_
        refine V_aload_n (q := 110) X (TB.get tb_X7_advance 54 rfl) rfl rfl rfl ?_
        refine V_dup (q := 111) X (TB.get tb_X7_advance 55 rfl) rfl rfl ?_
        obtain ⟨x14, ex14, e⟩ := bs e
        refine V_getI (q := 114) X (TB.get tb_X7_advance 56 rfl) rfl lf_RX7_44 ex14 ?_
        refine V_iconst (v := 1) (q := 115) X (TB.get tb_X7_advance 57 rfl) c_iconst_1 rfl ?_
        refine V_iadd (q := 116) X (TB.get tb_X7_advance 58 rfl) rfl ?_
        obtain ⟨h15, eh15, e⟩ := bs e
        refine V_putI (q := 119) X (TB.get tb_X7_advance 59 rfl) rfl lq_RX7_44 eh15 ?_
        cases e
        exact V_vret X hr hlk (TB.get tb_X7_advance 60 rfl)
    · have e := (if_neg hc).symm.trans e
      refine V_aload_n (q := 72) X (TB.get tb_X7_advance 35 rfl) rfl rfl rfl ?_
      refine V_bipush (v := 22) (q := 74) X (TB.get tb_X7_advance 36 rfl) c_bipush_22 rfl ?_
      obtain ⟨h16, eh16, e⟩ := bs e
      refine V_putI (q := 77) X (TB.get tb_X7_advance 37 rfl) rfl lq_RX7_53 eh16 ?_
      cases e
      exact V_vret X hr hlk (TB.get tb_X7_advance 38 rfl)
  refine wh1_elim (P := fun h17 => V p l en (rmD 1) s m args below meth c 1 D tc B nn (Ar B nn) s.heap 0 0 (MQ below (QC D tc B nn (Ar B nn) none res) args s 0 0 (Ar B nn)) h17 0 [(0, .ref a0)] []) (f := fu) ?_ e
  intro self18 h17 ihself18 e
  unfold MX7_advance_B0 at e
  refine V_aload_n (q := 1) X (TB.get tb_X7_advance 0 rfl) rfl rfl rfl ?_
  obtain ⟨x19, ex19, e⟩ := bs e
  refine V_getI (q := 4) X (TB.get tb_X7_advance 1 rfl) rfl lf_RX7_44 ex19 ?_
  refine V_aload_n (q := 5) X (TB.get tb_X7_advance 2 rfl) rfl rfl rfl ?_
  obtain ⟨x20, ex20, e⟩ := bs e
  refine V_getI (q := 8) X (TB.get tb_X7_advance 3 rfl) rfl lf_RX7_41 ex20 ?_
  refine V_icmp_ge (q := 11) (t := 52) X (TB.get tb_X7_advance 4 rfl) rfl rfl (fun hc => ?_) (fun hc => ?_)
  · have e := (if_pos hc).symm.trans e
    exact Jj2 _ e
  · have e := (if_neg hc).symm.trans e
    refine V_aload_n (q := 12) X (TB.get tb_X7_advance 5 rfl) rfl rfl rfl ?_
    obtain ⟨x21, ex21, e⟩ := bs e
    refine V_getR (q := 15) X (TB.get tb_X7_advance 6 rfl) rfl lf_RX7_9 ex21 ?_
    refine V_aload_n (q := 16) X (TB.get tb_X7_advance 7 rfl) rfl rfl rfl ?_
    refine V_getI (q := 19) X (TB.get tb_X7_advance 8 rfl) rfl lf_RX7_44 ex19 ?_
    obtain ⟨x22, ex22, e⟩ := bs e
    refine V_baloadB (q := 20) X (TB.get tb_X7_advance 9 rfl) rfl ex22 ?_
    refine V_bipush (v := 32) (q := 22) X (TB.get tb_X7_advance 10 rfl) c_bipush_32 rfl ?_
    refine jn_elim (P := (fun (k : Option (Hp)) => k = some res → V p l en (rmD 1) s m args below meth c 1 D tc B nn (Ar B nn) s.heap 0 0 (MQ below (QC D tc B nn (Ar B nn) none res) args s 0 0 (Ar B nn)) h17 39 [(0, .ref a0)] [])) e ?_ (fun j23 Jj23 e => ?_)
    · intro e
      refine V_aload_n (q := 40) X (TB.get tb_X7_advance 19 rfl) rfl rfl rfl ?_
      refine V_dup (q := 41) X (TB.get tb_X7_advance 20 rfl) rfl rfl ?_
      refine V_getI (q := 44) X (TB.get tb_X7_advance 21 rfl) rfl lf_RX7_44 ex19 ?_
      refine V_iconst (v := 1) (q := 45) X (TB.get tb_X7_advance 22 rfl) c_iconst_1 rfl ?_
      refine V_iadd (q := 46) X (TB.get tb_X7_advance 23 rfl) rfl ?_
      obtain ⟨h24, eh24, e⟩ := bs e
      refine V_putI (q := 49) X (TB.get tb_X7_advance 24 rfl) rfl lq_RX7_44 eh24 ?_
      refine V_goto (q := 0) X (TB.get tb_X7_advance 25 rfl) rfl ?_
      exact ihself18 _ e
    refine V_icmp_eq (q := 25) (t := 39) X (TB.get tb_X7_advance 11 rfl) rfl rfl (fun hc => ?_) (fun hc => ?_)
    · have e := (if_pos hc).symm.trans e
      exact Jj23 e
    · have e := (if_neg hc).symm.trans e
      refine V_aload_n (q := 26) X (TB.get tb_X7_advance 12 rfl) rfl rfl rfl ?_
      refine V_getR (q := 29) X (TB.get tb_X7_advance 13 rfl) rfl lf_RX7_9 ex21 ?_
      refine V_aload_n (q := 30) X (TB.get tb_X7_advance 14 rfl) rfl rfl rfl ?_
      refine V_getI (q := 33) X (TB.get tb_X7_advance 15 rfl) rfl lf_RX7_44 ex19 ?_
      refine V_baloadB (q := 34) X (TB.get tb_X7_advance 16 rfl) rfl ex22 ?_
      refine V_bipush (v := 10) (q := 36) X (TB.get tb_X7_advance 17 rfl) c_bipush_10 rfl ?_
      refine V_icmp_ne (q := 39) (t := 52) X (TB.get tb_X7_advance 18 rfl) rfl rfl (fun hc => ?_) (fun hc => ?_)
      · have e := (if_neg hc).symm.trans e
        exact Jj2 _ e
      · have e := (if_pos hc).symm.trans e
        exact Jj23 e
set_option maxRecDepth 100000 in
set_option maxHeartbeats 4000000 in
theorem ok_X7_open (fu : Nat) (a0 : Nat) (a1 : Int32) (h : Hp) (res : Hp) (e : MX7_open fu a0 a1 h = some res) : CK yX7_open cX7_open 2 none 2 [.ref a0, .int a1] h none res ∧ (h.1 a0).1 = 7 := by
  obtain ⟨hcl, e⟩ := h_g_inv e
  refine ⟨CK_of pn_RX7 cm_X7_open (Nat.le_of_ble_eq_true rfl) ?_, hcl⟩
  intro l D tc B nn p en s m args below meth c X hr hlk
  replace X : CX p (rmD 2) s m args c cX7_open 2 RX7 D tc 2 := X
  show V p l en (rmD 2) s m args below meth c 2 D tc B nn (Ar B nn) s.heap 0 0 (MQ below (QC D tc B nn (Ar B nn) none res) args s 0 0 (Ar B nn)) h 0 [(0, .ref a0), (1, .int a1)] []
  refine V_aload_n (q := 1) X (TB.get tb_X7_open 0 rfl) rfl rfl rfl ?_
  refine V_iload_n (q := 2) X (TB.get tb_X7_open 1 rfl) rfl rfl rfl ?_
  obtain ⟨h1, eh1, e⟩ := bs e
  refine V_putI (q := 5) X (TB.get tb_X7_open 2 rfl) rfl lq_RX7_41 eh1 ?_
  refine V_aload_n (q := 6) X (TB.get tb_X7_open 3 rfl) rfl rfl rfl ?_
  refine V_iconst (v := 0) (q := 7) X (TB.get tb_X7_open 4 rfl) c_iconst_0 rfl ?_
  obtain ⟨h2, eh2, e⟩ := bs e
  refine V_putI (q := 10) X (TB.get tb_X7_open 5 rfl) rfl lq_RX7_44 eh2 ?_
  refine V_aload_n (q := 11) X (TB.get tb_X7_open 6 rfl) rfl rfl rfl ?_
  refine V_iconst (v := 0) (q := 12) X (TB.get tb_X7_open 7 rfl) c_iconst_0 rfl ?_
  obtain ⟨h3, eh3, e⟩ := bs e
  refine V_putI (q := 15) X (TB.get tb_X7_open 8 rfl) rfl lq_RX7_37 eh3 ?_
  refine V_aload_n (q := 16) X (TB.get tb_X7_open 9 rfl) rfl rfl rfl ?_
  obtain ⟨h4, eh4, e⟩ := bs e
  refine V_callV (q := 19) (As := []) (rest := []) (st' := []) X (TB.get tb_X7_open 10 rfl) rfl cv_RX7_47 (ok_X7_advance fu a0 h3 h4 eh4).1 (ok_X7_advance fu a0 h3 h4 eh4).2 (Nat.le_of_ble_eq_true rfl) rfl rfl (Nat.le_of_ble_eq_true rfl) rfl ?_
  cases e
  exact V_vret X hr hlk (TB.get tb_X7_open 11 rfl)
set_option maxRecDepth 100000 in
set_option maxHeartbeats 4000000 in
theorem ok_X3_atTheEnd (a0 : Nat) (h : Hp) (res : Int32) (e : MX3_atTheEnd a0 h = some res) : CK yX3_atTheEnd cX3_atTheEnd 1 (some .boolean) 0 [.ref a0] h (some (.int res)) h ∧ (h.1 a0).1 = 3 := by
  obtain ⟨hcl, e⟩ := h_g_inv e
  refine ⟨CK_of pn_RX3 cm_X3_atTheEnd (Nat.le_of_ble_eq_true rfl) ?_, hcl⟩
  intro l D tc B nn p en s m args below meth c X hr hlk
  replace X : CX p (rmD 0) s m args c cX3_atTheEnd 1 RX3 D tc 0 := X
  show V p l en (rmD 0) s m args below meth c 1 D tc B nn (Ar B nn) s.heap 0 0 (MQ below (QC D tc B nn (Ar B nn) (some (.int res)) h) args s 0 0 (Ar B nn)) h 0 [(0, .ref a0)] []
  refine V_aload_n (q := 1) X (TB.get tb_X3_atTheEnd 0 rfl) rfl rfl rfl ?_
  obtain ⟨x1, ex1, e⟩ := bs e
  refine V_getR (q := 4) X (TB.get tb_X3_atTheEnd 1 rfl) rfl lf_RX3_12 ex1 ?_
  obtain ⟨x2, ex2, e⟩ := bs e
  refine V_getI (q := 7) X (TB.get tb_X3_atTheEnd 2 rfl) rfl lf_RX3_72 ex2 ?_
  refine V_bipush (v := 22) (q := 9) X (TB.get tb_X3_atTheEnd 3 rfl) c_bipush_22 rfl ?_
  refine jn_elim (P := (fun (k : Option (Int32)) => k = some res → V p l en (rmD 0) s m args below meth c 1 D tc B nn (Ar B nn) s.heap 0 0 (MQ below (QC D tc B nn (Ar B nn) (some (.int res)) h) args s 0 0 (Ar B nn)) h 23 [] [])) e ?_ (fun j3 Jj3 e => ?_)
  · intro e
    refine V_iconst (v := 0) (q := 24) X (TB.get tb_X3_atTheEnd 10 rfl) c_iconst_0 rfl ?_
    cases e
    exact V_zret X hr hlk (Or.inl rfl) (TB.get tb_X3_atTheEnd 11 rfl)
  refine V_icmp_ne (q := 12) (t := 23) X (TB.get tb_X3_atTheEnd 4 rfl) rfl rfl (fun hc => ?_) (fun hc => ?_)
  · have e := (if_neg hc).symm.trans e
    refine V_sub (lv' := []) [] rfl ?_
    exact Jj3 e
  · have e := (if_pos hc).symm.trans e
    refine V_aload_n (q := 13) X (TB.get tb_X3_atTheEnd 5 rfl) rfl rfl rfl ?_
    obtain ⟨x4, ex4, e⟩ := bs e
    refine V_getI (q := 16) X (TB.get tb_X3_atTheEnd 6 rfl) rfl lf_RX3_53 ex4 ?_
    refine V_if_ne (q := 19) (t := 23) X (TB.get tb_X3_atTheEnd 7 rfl) rfl rfl (fun hc => ?_) (fun hc => ?_)
    · have e := (if_neg hc).symm.trans e
      refine V_sub (lv' := []) [] rfl ?_
      exact Jj3 e
    · have e := (if_pos hc).symm.trans e
      refine V_iconst (v := 1) (q := 20) X (TB.get tb_X3_atTheEnd 8 rfl) c_iconst_1 rfl ?_
      refine V_goto (q := 24) X (TB.get tb_X3_atTheEnd 9 rfl) rfl ?_
      cases e
      exact V_zret X hr hlk (Or.inr rfl) (TB.get tb_X3_atTheEnd 11 rfl)
set_option maxRecDepth 100000 in
set_option maxHeartbeats 4000000 in
theorem ok_X3_fail (a0 : Nat) (a1 : Int32) (h : Hp) (res : Int32 × Hp) (e : MX3_fail a0 a1 h = some res) : CK yX3_fail cX3_fail 2 (some .boolean) 0 [.ref a0, .int a1] h (some (.int res.1)) res.2 ∧ (h.1 a0).1 = 3 := by
  obtain ⟨hcl, e⟩ := h_g_inv e
  refine ⟨CK_of pn_RX3 cm_X3_fail (Nat.le_of_ble_eq_true rfl) ?_, hcl⟩
  intro l D tc B nn p en s m args below meth c X hr hlk
  replace X : CX p (rmD 0) s m args c cX3_fail 2 RX3 D tc 0 := X
  show V p l en (rmD 0) s m args below meth c 2 D tc B nn (Ar B nn) s.heap 0 0 (MQ below (QC D tc B nn (Ar B nn) (some (.int res.1)) res.2) args s 0 0 (Ar B nn)) h 0 [(0, .ref a0), (1, .int a1)] []
  refine V_aload_n (q := 1) X (TB.get tb_X3_fail 0 rfl) rfl rfl rfl ?_
  refine V_aload_n (q := 2) X (TB.get tb_X3_fail 1 rfl) rfl rfl rfl ?_
  obtain ⟨x1, ex1, e⟩ := bs e
  refine V_getR (q := 5) X (TB.get tb_X3_fail 2 rfl) rfl lf_RX3_12 ex1 ?_
  obtain ⟨x2, ex2, e⟩ := bs e
  refine V_getI (q := 8) X (TB.get tb_X3_fail 3 rfl) rfl lf_RX3_72 ex2 ?_
  refine V_bipush (v := 23) (q := 10) X (TB.get tb_X3_fail 4 rfl) c_bipush_23 rfl ?_
  refine jn_elim (P := (fun (k : Int32 → Option (Int32 × Hp)) => ∀ (w3 : Int32), k w3 = some res → V p l en (rmD 0) s m args below meth c 2 D tc B nn (Ar B nn) s.heap 0 0 (MQ below (QC D tc B nn (Ar B nn) (some (.int res.1)) res.2) args s 0 0 (Ar B nn)) h 18 [(0, .ref a0)] [.int w3, .ref a0])) e ?_ (fun j4 Jj4 e => ?_)
  · intro w3 e
    obtain ⟨h5, eh5, e⟩ := bs e
    refine V_putI (q := 21) X (TB.get tb_X3_fail 9 rfl) rfl lq_RX3_46 eh5 ?_
    refine V_aload_n (q := 22) X (TB.get tb_X3_fail 10 rfl) rfl rfl rfl ?_
    refine V_aload_n (q := 23) X (TB.get tb_X3_fail 11 rfl) rfl rfl rfl ?_
    obtain ⟨x6, ex6, e⟩ := bs e
    refine V_getR (q := 26) X (TB.get tb_X3_fail 12 rfl) rfl lf_RX3_12 ex6 ?_
    obtain ⟨x7, ex7, e⟩ := bs e
    refine V_getI (q := 29) X (TB.get tb_X3_fail 13 rfl) rfl lf_RX3_202 ex7 ?_
    obtain ⟨h8, eh8, e⟩ := bs e
    refine V_putI (q := 32) X (TB.get tb_X3_fail 14 rfl) rfl lq_RX3_50 eh8 ?_
    refine V_iconst (v := 0) (q := 33) X (TB.get tb_X3_fail 15 rfl) c_iconst_0 rfl ?_
    cases e
    exact V_zret X hr hlk (Or.inl rfl) (TB.get tb_X3_fail 16 rfl)
  refine V_icmp_ne (q := 13) (t := 17) X (TB.get tb_X3_fail 5 rfl) rfl rfl (fun hc => ?_) (fun hc => ?_)
  · have e := (if_neg hc).symm.trans e
    refine V_iload_n (q := 18) X (TB.get tb_X3_fail 8 rfl) rfl rfl rfl ?_
    refine V_sub (lv' := [(0, .ref a0)]) [0] rfl ?_
    exact Jj4 _ e
  · have e := (if_pos hc).symm.trans e
    refine V_iconst (v := 1) (q := 14) X (TB.get tb_X3_fail 6 rfl) c_iconst_1 rfl ?_
    refine V_goto (q := 18) X (TB.get tb_X3_fail 7 rfl) rfl ?_
    refine V_sub (lv' := [(0, .ref a0)]) [0] rfl ?_
    exact Jj4 _ e
set_option maxRecDepth 100000 in
set_option maxHeartbeats 4000000 in
theorem ok_X4_addStatement (a0 : Nat) (a1 : Int32) (a2 : Int32) (a3 : Int32) (h : Hp) (res : Int32 × Hp) (e : MX4_addStatement a0 a1 a2 a3 h = some res) : CK yX4_addStatement cX4_addStatement 5 (some .int) 0 [.ref a0, .int a1, .int a2, .int a3] h (some (.int res.1)) res.2 ∧ (h.1 a0).1 = 4 := by
  obtain ⟨hcl, e⟩ := h_g_inv e
  refine ⟨CK_of pn_RX4 cm_X4_addStatement (Nat.le_of_ble_eq_true rfl) ?_, hcl⟩
  intro l D tc B nn p en s m args below meth c X hr hlk
  replace X : CX p (rmD 0) s m args c cX4_addStatement 5 RX4 D tc 0 := X
  show V p l en (rmD 0) s m args below meth c 5 D tc B nn (Ar B nn) s.heap 0 0 (MQ below (QC D tc B nn (Ar B nn) (some (.int res.1)) res.2) args s 0 0 (Ar B nn)) h 0 [(0, .ref a0), (1, .int a1), (2, .int a2), (3, .int a3)] []
  refine V_aload_n (q := 1) X (TB.get tb_X4_addStatement 0 rfl) rfl rfl rfl ?_
  obtain ⟨x1, ex1, e⟩ := bs e
  refine V_getI (q := 4) X (TB.get tb_X4_addStatement 1 rfl) rfl lf_RX4_62 ex1 ?_
  refine V_istore (q := 6) (lv' := [(4, .int x1), (0, .ref a0), (1, .int a1), (2, .int a2), (3, .int a3)]) X (TB.get tb_X4_addStatement 2 rfl) rfl (Nat.le_of_ble_eq_true rfl) rfl ?_
  refine V_aload_n (q := 7) X (TB.get tb_X4_addStatement 3 rfl) rfl rfl rfl ?_
  obtain ⟨x2, ex2, e⟩ := bs e
  refine V_getR (q := 10) X (TB.get tb_X4_addStatement 4 rfl) rfl lf_RX4_22 ex2 ?_
  refine V_iload (q := 12) X (TB.get tb_X4_addStatement 5 rfl) rfl rfl ?_
  refine V_iload_n (q := 13) X (TB.get tb_X4_addStatement 6 rfl) rfl rfl rfl ?_
  obtain ⟨h3, eh3, e⟩ := bs e
  refine V_iastore (q := 14) X (TB.get tb_X4_addStatement 7 rfl) rfl eh3 ?_
  refine V_aload_n (q := 15) X (TB.get tb_X4_addStatement 8 rfl) rfl rfl rfl ?_
  obtain ⟨x4, ex4, e⟩ := bs e
  refine V_getR (q := 18) X (TB.get tb_X4_addStatement 9 rfl) rfl lf_RX4_25 ex4 ?_
  refine V_iload (q := 20) X (TB.get tb_X4_addStatement 10 rfl) rfl rfl ?_
  refine V_iconst (v := -1) (q := 21) X (TB.get tb_X4_addStatement 11 rfl) c_iconst_m1 rfl ?_
  obtain ⟨h5, eh5, e⟩ := bs e
  refine V_iastore (q := 22) X (TB.get tb_X4_addStatement 12 rfl) rfl eh5 ?_
  refine V_aload_n (q := 23) X (TB.get tb_X4_addStatement 13 rfl) rfl rfl rfl ?_
  obtain ⟨x6, ex6, e⟩ := bs e
  refine V_getR (q := 26) X (TB.get tb_X4_addStatement 14 rfl) rfl lf_RX4_28 ex6 ?_
  refine V_iload (q := 28) X (TB.get tb_X4_addStatement 15 rfl) rfl rfl ?_
  refine V_iconst (v := -1) (q := 29) X (TB.get tb_X4_addStatement 16 rfl) c_iconst_m1 rfl ?_
  obtain ⟨h7, eh7, e⟩ := bs e
  refine V_iastore (q := 30) X (TB.get tb_X4_addStatement 17 rfl) rfl eh7 ?_
  refine V_aload_n (q := 31) X (TB.get tb_X4_addStatement 18 rfl) rfl rfl rfl ?_
  obtain ⟨x8, ex8, e⟩ := bs e
  refine V_getR (q := 34) X (TB.get tb_X4_addStatement 19 rfl) rfl lf_RX4_31 ex8 ?_
  refine V_iload (q := 36) X (TB.get tb_X4_addStatement 20 rfl) rfl rfl ?_
  refine V_iconst (v := -1) (q := 37) X (TB.get tb_X4_addStatement 21 rfl) c_iconst_m1 rfl ?_
  obtain ⟨h9, eh9, e⟩ := bs e
  refine V_iastore (q := 38) X (TB.get tb_X4_addStatement 22 rfl) rfl eh9 ?_
  refine V_aload_n (q := 39) X (TB.get tb_X4_addStatement 23 rfl) rfl rfl rfl ?_
  obtain ⟨x10, ex10, e⟩ := bs e
  refine V_getR (q := 42) X (TB.get tb_X4_addStatement 24 rfl) rfl lf_RX4_34 ex10 ?_
  refine V_iload (q := 44) X (TB.get tb_X4_addStatement 25 rfl) rfl rfl ?_
  refine V_iload_n (q := 45) X (TB.get tb_X4_addStatement 26 rfl) rfl rfl rfl ?_
  obtain ⟨h11, eh11, e⟩ := bs e
  refine V_iastore (q := 46) X (TB.get tb_X4_addStatement 27 rfl) rfl eh11 ?_
  refine V_aload_n (q := 47) X (TB.get tb_X4_addStatement 28 rfl) rfl rfl rfl ?_
  obtain ⟨x12, ex12, e⟩ := bs e
  refine V_getR (q := 50) X (TB.get tb_X4_addStatement 29 rfl) rfl lf_RX4_37 ex12 ?_
  refine V_iload (q := 52) X (TB.get tb_X4_addStatement 30 rfl) rfl rfl ?_
  refine V_iload_n (q := 53) X (TB.get tb_X4_addStatement 31 rfl) rfl rfl rfl ?_
  obtain ⟨h13, eh13, e⟩ := bs e
  refine V_iastore (q := 54) X (TB.get tb_X4_addStatement 32 rfl) rfl eh13 ?_
  refine V_aload_n (q := 55) X (TB.get tb_X4_addStatement 33 rfl) rfl rfl rfl ?_
  obtain ⟨x14, ex14, e⟩ := bs e
  refine V_getR (q := 58) X (TB.get tb_X4_addStatement 34 rfl) rfl lf_RX4_40 ex14 ?_
  refine V_iload (q := 60) X (TB.get tb_X4_addStatement 35 rfl) rfl rfl ?_
  refine V_iload (q := 62) X (TB.get tb_X4_addStatement 36 rfl) rfl rfl ?_
  refine V_iconst (v := 1) (q := 63) X (TB.get tb_X4_addStatement 37 rfl) c_iconst_1 rfl ?_
  refine V_iadd (q := 64) X (TB.get tb_X4_addStatement 38 rfl) rfl ?_
  obtain ⟨h15, eh15, e⟩ := bs e
  refine V_iastore (q := 65) X (TB.get tb_X4_addStatement 39 rfl) rfl eh15 ?_
  refine V_aload_n (q := 66) X (TB.get tb_X4_addStatement 40 rfl) rfl rfl rfl ?_
  obtain ⟨x16, ex16, e⟩ := bs e
  refine V_getR (q := 69) X (TB.get tb_X4_addStatement 41 rfl) rfl lf_RX4_43 ex16 ?_
  refine V_iload (q := 71) X (TB.get tb_X4_addStatement 42 rfl) rfl rfl ?_
  refine V_iload (q := 73) X (TB.get tb_X4_addStatement 43 rfl) rfl rfl ?_
  refine V_iconst (v := 1) (q := 74) X (TB.get tb_X4_addStatement 44 rfl) c_iconst_1 rfl ?_
  refine V_iadd (q := 75) X (TB.get tb_X4_addStatement 45 rfl) rfl ?_
  obtain ⟨h17, eh17, e⟩ := bs e
  refine V_iastore (q := 76) X (TB.get tb_X4_addStatement 46 rfl) rfl eh17 ?_
  refine V_aload_n (q := 77) X (TB.get tb_X4_addStatement 47 rfl) rfl rfl rfl ?_
  refine V_dup (q := 78) X (TB.get tb_X4_addStatement 48 rfl) rfl rfl ?_
  obtain ⟨x18, ex18, e⟩ := bs e
  refine V_getI (q := 81) X (TB.get tb_X4_addStatement 49 rfl) rfl lf_RX4_62 ex18 ?_
  refine V_iconst (v := 1) (q := 82) X (TB.get tb_X4_addStatement 50 rfl) c_iconst_1 rfl ?_
  refine V_iadd (q := 83) X (TB.get tb_X4_addStatement 51 rfl) rfl ?_
  obtain ⟨h19, eh19, e⟩ := bs e
  refine V_putI (q := 86) X (TB.get tb_X4_addStatement 52 rfl) rfl lq_RX4_62 eh19 ?_
  refine V_iload (q := 88) X (TB.get tb_X4_addStatement 53 rfl) rfl rfl ?_
  cases e
  exact V_iret X hr hlk (TB.get tb_X4_addStatement 54 rfl)
set_option maxRecDepth 100000 in
set_option maxHeartbeats 4000000 in
theorem ok_X3_find (fu : Nat) (a0 : Nat) (a1 : Nat) (a2 : Int32) (a3 : Int32) (h : Hp) (res : Int32) (e : MX3_find fu a0 a1 a2 a3 h = some res) : CK yX3_find cX3_find 5 (some .int) 0 [.ref a0, .ref a1, .int a2, .int a3] h (some (.int res)) h ∧ (h.1 a0).1 = 3 := by
  obtain ⟨hcl, e⟩ := h_g_inv e
  refine ⟨CK_of pn_RX3 cm_X3_find (Nat.le_of_ble_eq_true rfl) ?_, hcl⟩
  intro l D tc B nn p en s m args below meth c X hr hlk
  replace X : CX p (rmD 0) s m args c cX3_find 5 RX3 D tc 0 := X
  show V p l en (rmD 0) s m args below meth c 5 D tc B nn (Ar B nn) s.heap 0 0 (MQ below (QC D tc B nn (Ar B nn) (some (.int res)) h) args s 0 0 (Ar B nn)) h 0 [(0, .ref a0), (1, .ref a1), (2, .int a2), (3, .int a3)] []
  refine V_iconst (v := 0) (q := 1) X (TB.get tb_X3_find 0 rfl) c_iconst_0 rfl ?_
  refine V_istore (q := 3) (lv' := [(4, .int (0 : Int32)), (0, .ref a0), (1, .ref a1), (2, .int a2), (3, .int a3)]) X (TB.get tb_X3_find 1 rfl) rfl (Nat.le_of_ble_eq_true rfl) rfl ?_
  refine V_sub (lv' := [(0, .ref a0), (1, .ref a1), (2, .int a2), (3, .int a3), (4, .int (0 : Int32))]) [1, 2, 3, 4, 0] rfl ?_
  refine wh1_elim (P := fun v1 => V p l en (rmD 0) s m args below meth c 5 D tc B nn (Ar B nn) s.heap 0 0 (MQ below (QC D tc B nn (Ar B nn) (some (.int res)) h) args s 0 0 (Ar B nn)) h 3 [(0, .ref a0), (1, .ref a1), (2, .int a2), (3, .int a3), (4, .int v1)] []) (f := fu) ?_ e
  intro self2 v1 ihself2 e
  unfold MX3_find_B3 at e
  refine V_iload (q := 5) X (TB.get tb_X3_find 2 rfl) rfl rfl ?_
  refine V_iload_n (q := 6) X (TB.get tb_X3_find 3 rfl) rfl rfl rfl ?_
  refine V_icmp_ge (q := 9) (t := 35) X (TB.get tb_X3_find 4 rfl) rfl rfl (fun hc => ?_) (fun hc => ?_)
  · have e := (if_pos hc).symm.trans e
    refine V_iconst (v := -1) (q := 36) X (TB.get tb_X3_find 19 rfl) c_iconst_m1 rfl ?_
    cases e
    exact V_iret X hr hlk (TB.get tb_X3_find 20 rfl)
  · have e := (if_neg hc).symm.trans e
    refine V_aload_n (q := 10) X (TB.get tb_X3_find 5 rfl) rfl rfl rfl ?_
    refine V_iload_n (q := 11) X (TB.get tb_X3_find 6 rfl) rfl rfl rfl ?_
    refine V_iload (q := 13) X (TB.get tb_X3_find 7 rfl) rfl rfl ?_
    refine V_iadd (q := 14) X (TB.get tb_X3_find 8 rfl) rfl ?_
    obtain ⟨x3, ex3, e⟩ := bs e
    refine V_laload (q := 15) X (TB.get tb_X3_find 9 rfl) rfl ex3 ?_
    refine V_aload_n (q := 16) X (TB.get tb_X3_find 10 rfl) rfl rfl rfl ?_
    obtain ⟨x4, ex4, e⟩ := bs e
    refine V_getR (q := 19) X (TB.get tb_X3_find 11 rfl) rfl lf_RX3_12 ex4 ?_
    obtain ⟨x5, ex5, e⟩ := bs e
    refine V_getL (q := 22) X (TB.get tb_X3_find 12 rfl) rfl lf_RX3_120 ex5 ?_
    refine V_lcmp (q := 23) X (TB.get tb_X3_find 13 rfl) rfl ?_
    refine V_if_ne (q := 26) (t := 29) X (TB.get tb_X3_find 14 rfl) rfl rfl (fun hc => ?_) (fun hc => ?_)
    · have e := (if_neg hc).symm.trans e
      refine V_iinc (q := 32) (v := v1 + (1 : Int32)) (lv' := [(4, .int (v1 + (1 : Int32))), (0, .ref a0), (1, .ref a1), (2, .int a2), (3, .int a3)]) X (TB.get tb_X3_find 17 rfl) rfl rfl (by rw [c_iconst_1]) (Nat.le_of_ble_eq_true rfl) rfl ?_
      refine V_goto (q := 3) X (TB.get tb_X3_find 18 rfl) rfl ?_
      refine V_sub (lv' := [(0, .ref a0), (1, .ref a1), (2, .int a2), (3, .int a3), (4, .int (v1 + (1 : Int32)))]) [1, 2, 3, 4, 0] rfl ?_
      exact ihself2 _ e
    · have e := (if_pos hc).symm.trans e
      refine V_iload (q := 28) X (TB.get tb_X3_find 15 rfl) rfl rfl ?_
      cases e
      exact V_iret X hr hlk (TB.get tb_X3_find 16 rfl)
set_option maxRecDepth 100000 in
set_option maxHeartbeats 4000000 in
theorem ok_X3_known (fu : Nat) (a0 : Nat) (a1 : Nat) (a2 : Int32) (a3 : Int32) (h : Hp) (res : Int32 × Hp) (e : MX3_known fu a0 a1 a2 a3 h = some res) : CK yX3_known cX3_known 5 (some .int) 1 [.ref a0, .ref a1, .int a2, .int a3] h (some (.int res.1)) res.2 ∧ (h.1 a0).1 = 3 := by
  obtain ⟨hcl, e⟩ := h_g_inv e
  refine ⟨CK_of pn_RX3 cm_X3_known (Nat.le_of_ble_eq_true rfl) ?_, hcl⟩
  intro l D tc B nn p en s m args below meth c X hr hlk
  replace X : CX p (rmD 1) s m args c cX3_known 5 RX3 D tc 1 := X
  show V p l en (rmD 1) s m args below meth c 5 D tc B nn (Ar B nn) s.heap 0 0 (MQ below (QC D tc B nn (Ar B nn) (some (.int res.1)) res.2) args s 0 0 (Ar B nn)) h 0 [(0, .ref a0), (1, .ref a1), (2, .int a2), (3, .int a3)] []
  refine V_aload_n (q := 1) X (TB.get tb_X3_known 0 rfl) rfl rfl rfl ?_
  obtain ⟨x1, ex1, e⟩ := bs e
  refine V_getR (q := 4) X (TB.get tb_X3_known 1 rfl) rfl lf_RX3_12 ex1 ?_
  obtain ⟨x2, ex2, e⟩ := bs e
  refine V_getI (q := 7) X (TB.get tb_X3_known 2 rfl) rfl lf_RX3_72 ex2 ?_
  refine V_bipush (v := 18) (q := 9) X (TB.get tb_X3_known 3 rfl) c_bipush_18 rfl ?_
  refine V_icmp_eq (q := 12) (t := 20) X (TB.get tb_X3_known 4 rfl) rfl rfl (fun hc => ?_) (fun hc => ?_)
  · have e := (if_pos hc).symm.trans e
    refine V_aload_n (q := 21) X (TB.get tb_X3_known 11 rfl) rfl rfl rfl ?_
    refine V_aload_n (q := 22) X (TB.get tb_X3_known 12 rfl) rfl rfl rfl ?_
    refine V_iload_n (q := 23) X (TB.get tb_X3_known 13 rfl) rfl rfl rfl ?_
    refine V_iload_n (q := 24) X (TB.get tb_X3_known 14 rfl) rfl rfl rfl ?_
    obtain ⟨x3, ex3, e⟩ := bs e
    refine V_callV (q := 27) (As := [.ref a1, .int a2, .int a3]) (rest := []) (st' := [.int x3]) X (TB.get tb_X3_known 15 rfl) rfl cv_RX3_196 (ok_X3_find fu a0 a1 a2 a3 h x3 ex3).1 (ok_X3_find fu a0 a1 a2 a3 h x3 ex3).2 (Nat.le_of_ble_eq_true rfl) rfl rfl (Nat.le_of_ble_eq_true rfl) rfl ?_
    refine V_istore (q := 29) (lv' := [(4, .int x3), (0, .ref a0), (1, .ref a1), (2, .int a2), (3, .int a3)]) X (TB.get tb_X3_known 16 rfl) rfl (Nat.le_of_ble_eq_true rfl) rfl ?_
    refine V_iload (q := 31) X (TB.get tb_X3_known 17 rfl) rfl rfl ?_
    refine V_iconst (v := -1) (q := 32) X (TB.get tb_X3_known 18 rfl) c_iconst_m1 rfl ?_
    refine V_icmp_ne (q := 35) (t := 41) X (TB.get tb_X3_known 19 rfl) rfl rfl (fun hc => ?_) (fun hc => ?_)
    · have e := (if_neg hc).symm.trans e
      refine V_iload (q := 43) X (TB.get tb_X3_known 24 rfl) rfl rfl ?_
      cases e
      exact V_iret X hr hlk (TB.get tb_X3_known 25 rfl)
    · have e := (if_pos hc).symm.trans e
      refine V_aload_n (q := 36) X (TB.get tb_X3_known 20 rfl) rfl rfl rfl ?_
      refine V_iconst (v := 3) (q := 37) X (TB.get tb_X3_known 21 rfl) c_iconst_3 rfl ?_
      obtain ⟨p4, ep4, e⟩ := bs e
      refine V_callV (q := 40) (As := [.int (3 : Int32)]) (rest := []) (st' := [.int p4.1]) X (TB.get tb_X3_known 22 rfl) rfl cv_RX3_85 (ok_X3_fail a0 (3 : Int32) h p4 ep4).1 (ok_X3_fail a0 (3 : Int32) h p4 ep4).2 (Nat.le_of_ble_eq_true rfl) rfl rfl (Nat.le_of_ble_eq_true rfl) rfl ?_
      refine V_pop (q := 41) X (TB.get tb_X3_known 23 rfl) rfl rfl ?_
      refine V_iload (q := 43) X (TB.get tb_X3_known 24 rfl) rfl rfl ?_
      cases e
      exact V_iret X hr hlk (TB.get tb_X3_known 25 rfl)
  · have e := (if_neg hc).symm.trans e
    refine V_aload_n (q := 13) X (TB.get tb_X3_known 5 rfl) rfl rfl rfl ?_
    refine V_iconst (v := 2) (q := 14) X (TB.get tb_X3_known 6 rfl) c_iconst_2 rfl ?_
    obtain ⟨p5, ep5, e⟩ := bs e
    refine V_callV (q := 17) (As := [.int (2 : Int32)]) (rest := []) (st' := [.int p5.1]) X (TB.get tb_X3_known 7 rfl) rfl cv_RX3_85 (ok_X3_fail a0 (2 : Int32) h p5 ep5).1 (ok_X3_fail a0 (2 : Int32) h p5 ep5).2 (Nat.le_of_ble_eq_true rfl) rfl rfl (Nat.le_of_ble_eq_true rfl) rfl ?_
    refine V_pop (q := 18) X (TB.get tb_X3_known 8 rfl) rfl rfl ?_
    refine V_iconst (v := -1) (q := 19) X (TB.get tb_X3_known 9 rfl) c_iconst_m1 rfl ?_
    cases e
    exact V_iret X hr hlk (TB.get tb_X3_known 10 rfl)
set_option maxRecDepth 100000 in
set_option maxHeartbeats 4000000 in
theorem ok_X3_readFirst (fu : Nat) (a0 : Nat) (a1 : Int32) (h : Hp) (res : Int32 × Hp) (e : MX3_readFirst fu a0 a1 h = some res) : CK yX3_readFirst cX3_readFirst 3 (some .boolean) 2 [.ref a0, .int a1] h (some (.int res.1)) res.2 ∧ (h.1 a0).1 = 3 := by
  obtain ⟨hcl, e⟩ := h_g_inv e
  refine ⟨CK_of pn_RX3 cm_X3_readFirst (Nat.le_of_ble_eq_true rfl) ?_, hcl⟩
  intro l D tc B nn p en s m args below meth c X hr hlk
  replace X : CX p (rmD 2) s m args c cX3_readFirst 3 RX3 D tc 2 := X
  show V p l en (rmD 2) s m args below meth c 3 D tc B nn (Ar B nn) s.heap 0 0 (MQ below (QC D tc B nn (Ar B nn) (some (.int res.1)) res.2) args s 0 0 (Ar B nn)) h 0 [(0, .ref a0), (1, .int a1)] []
  refine V_aload_n (q := 1) X (TB.get tb_X3_readFirst 0 rfl) rfl rfl rfl ?_
  refine V_aload_n (q := 2) X (TB.get tb_X3_readFirst 1 rfl) rfl rfl rfl ?_
  obtain ⟨x1, ex1, e⟩ := bs e
  refine V_getR (q := 5) X (TB.get tb_X3_readFirst 2 rfl) rfl lf_RX3_35 ex1 ?_
  refine V_iconst (v := 0) (q := 6) X (TB.get tb_X3_readFirst 3 rfl) c_iconst_0 rfl ?_
  refine V_aload_n (q := 7) X (TB.get tb_X3_readFirst 4 rfl) rfl rfl rfl ?_
  obtain ⟨x2, ex2, e⟩ := bs e
  refine V_getR (q := 10) X (TB.get tb_X3_readFirst 5 rfl) rfl lf_RX3_21 ex2 ?_
  obtain ⟨x3, ex3, e⟩ := bs e
  refine V_getI (q := 13) X (TB.get tb_X3_readFirst 6 rfl) rfl lf_RX3_152 ex3 ?_
  obtain ⟨p4, ep4, e⟩ := bs e
  refine V_callV (q := 16) (As := [.ref x1, .int (0 : Int32), .int x3]) (rest := []) (st' := [.int p4.1]) X (TB.get tb_X3_readFirst 7 rfl) rfl cv_RX3_130 (ok_X3_known fu a0 x1 (0 : Int32) x3 h p4 ep4).1 (ok_X3_known fu a0 x1 (0 : Int32) x3 h p4 ep4).2 (Nat.le_of_ble_eq_true rfl) rfl rfl (Nat.le_of_ble_eq_true rfl) rfl ?_
  refine V_istore_n (q := 17) (lv' := [(2, .int p4.1), (0, .ref a0), (1, .int a1)]) X (TB.get tb_X3_readFirst 8 rfl) rfl rfl (Nat.le_of_ble_eq_true rfl) rfl ?_
  refine V_iload_n (q := 18) X (TB.get tb_X3_readFirst 9 rfl) rfl rfl rfl ?_
  refine V_iconst (v := -1) (q := 19) X (TB.get tb_X3_readFirst 10 rfl) c_iconst_m1 rfl ?_
  refine V_icmp_ne (q := 22) (t := 24) X (TB.get tb_X3_readFirst 11 rfl) rfl rfl (fun hc => ?_) (fun hc => ?_)
  · have e := (if_neg hc).symm.trans e
    refine V_aload_n (q := 25) X (TB.get tb_X3_readFirst 14 rfl) rfl rfl rfl ?_
    obtain ⟨x5, ex5, e⟩ := bs e
    refine V_getR (q := 28) X (TB.get tb_X3_readFirst 15 rfl) rfl lf_RX3_21 ex5 ?_
    obtain ⟨x6, ex6, e⟩ := bs e
    refine V_getR (q := 31) X (TB.get tb_X3_readFirst 16 rfl) rfl lf_RX3_172 ex6 ?_
    refine V_iload_n (q := 32) X (TB.get tb_X3_readFirst 17 rfl) rfl rfl rfl ?_
    refine V_iload_n (q := 33) X (TB.get tb_X3_readFirst 18 rfl) rfl rfl rfl ?_
    obtain ⟨h7, eh7, e⟩ := bs e
    refine V_iastore (q := 34) X (TB.get tb_X3_readFirst 19 rfl) rfl eh7 ?_
    refine V_aload_n (q := 35) X (TB.get tb_X3_readFirst 20 rfl) rfl rfl rfl ?_
    obtain ⟨x8, ex8, e⟩ := bs e
    refine V_getR (q := 38) X (TB.get tb_X3_readFirst 21 rfl) rfl lf_RX3_12 ex8 ?_
    obtain ⟨h9, eh9, e⟩ := bs e
    refine V_callV (q := 41) (As := []) (rest := []) (st' := []) X (TB.get tb_X3_readFirst 22 rfl) rfl cv_RX3_109 (ok_X7_advance fu x8 h7 h9 eh9).1 (ok_X7_advance fu x8 h7 h9 eh9).2 (Nat.le_of_ble_eq_true rfl) rfl rfl (Nat.le_of_ble_eq_true rfl) rfl ?_
    refine V_iconst (v := 1) (q := 42) X (TB.get tb_X3_readFirst 23 rfl) c_iconst_1 rfl ?_
    cases e
    exact V_zret X hr hlk (Or.inr rfl) (TB.get tb_X3_readFirst 24 rfl)
  · have e := (if_pos hc).symm.trans e
    refine V_iconst (v := 0) (q := 23) X (TB.get tb_X3_readFirst 12 rfl) c_iconst_0 rfl ?_
    cases e
    exact V_zret X hr hlk (Or.inl rfl) (TB.get tb_X3_readFirst 13 rfl)
set_option maxRecDepth 100000 in
set_option maxHeartbeats 4000000 in
theorem ok_X3_readSecond (fu : Nat) (a0 : Nat) (a1 : Int32) (h : Hp) (res : Int32 × Hp) (e : MX3_readSecond fu a0 a1 h = some res) : CK yX3_readSecond cX3_readSecond 4 (some .boolean) 2 [.ref a0, .int a1] h (some (.int res.1)) res.2 ∧ (h.1 a0).1 = 3 := by
  obtain ⟨hcl, e⟩ := h_g_inv e
  refine ⟨CK_of pn_RX3 cm_X3_readSecond (Nat.le_of_ble_eq_true rfl) ?_, hcl⟩
  intro l D tc B nn p en s m args below meth c X hr hlk
  replace X : CX p (rmD 2) s m args c cX3_readSecond 4 RX3 D tc 2 := X
  show V p l en (rmD 2) s m args below meth c 4 D tc B nn (Ar B nn) s.heap 0 0 (MQ below (QC D tc B nn (Ar B nn) (some (.int res.1)) res.2) args s 0 0 (Ar B nn)) h 0 [(0, .ref a0), (1, .int a1)] []
  refine V_aload_n (q := 1) X (TB.get tb_X3_readSecond 0 rfl) rfl rfl rfl ?_
  refine V_aload_n (q := 2) X (TB.get tb_X3_readSecond 1 rfl) rfl rfl rfl ?_
  obtain ⟨x1, ex1, e⟩ := bs e
  refine V_getR (q := 5) X (TB.get tb_X3_readSecond 2 rfl) rfl lf_RX3_35 ex1 ?_
  refine V_iconst (v := 0) (q := 6) X (TB.get tb_X3_readSecond 3 rfl) c_iconst_0 rfl ?_
  refine V_aload_n (q := 7) X (TB.get tb_X3_readSecond 4 rfl) rfl rfl rfl ?_
  obtain ⟨x2, ex2, e⟩ := bs e
  refine V_getR (q := 10) X (TB.get tb_X3_readSecond 5 rfl) rfl lf_RX3_21 ex2 ?_
  obtain ⟨x3, ex3, e⟩ := bs e
  refine V_getI (q := 13) X (TB.get tb_X3_readSecond 6 rfl) rfl lf_RX3_152 ex3 ?_
  obtain ⟨p4, ep4, e⟩ := bs e
  refine V_callV (q := 16) (As := [.ref x1, .int (0 : Int32), .int x3]) (rest := []) (st' := [.int p4.1]) X (TB.get tb_X3_readSecond 7 rfl) rfl cv_RX3_130 (ok_X3_known fu a0 x1 (0 : Int32) x3 h p4 ep4).1 (ok_X3_known fu a0 x1 (0 : Int32) x3 h p4 ep4).2 (Nat.le_of_ble_eq_true rfl) rfl rfl (Nat.le_of_ble_eq_true rfl) rfl ?_
  refine V_istore_n (q := 17) (lv' := [(2, .int p4.1), (0, .ref a0), (1, .int a1)]) X (TB.get tb_X3_readSecond 8 rfl) rfl rfl (Nat.le_of_ble_eq_true rfl) rfl ?_
  refine V_iload_n (q := 18) X (TB.get tb_X3_readSecond 9 rfl) rfl rfl rfl ?_
  refine V_iconst (v := -1) (q := 19) X (TB.get tb_X3_readSecond 10 rfl) c_iconst_m1 rfl ?_
  refine V_icmp_ne (q := 22) (t := 24) X (TB.get tb_X3_readSecond 11 rfl) rfl rfl (fun hc => ?_) (fun hc => ?_)
  · have e := (if_neg hc).symm.trans e
    refine V_aload_n (q := 25) X (TB.get tb_X3_readSecond 14 rfl) rfl rfl rfl ?_
    obtain ⟨x5, ex5, e⟩ := bs e
    refine V_getR (q := 28) X (TB.get tb_X3_readSecond 15 rfl) rfl lf_RX3_21 ex5 ?_
    obtain ⟨x6, ex6, e⟩ := bs e
    refine V_getR (q := 31) X (TB.get tb_X3_readSecond 16 rfl) rfl lf_RX3_172 ex6 ?_
    refine V_iload_n (q := 32) X (TB.get tb_X3_readSecond 17 rfl) rfl rfl rfl ?_
    obtain ⟨x7, ex7, e⟩ := bs e
    refine V_iaload (q := 33) X (TB.get tb_X3_readSecond 18 rfl) rfl ex7 ?_
    refine V_istore_n (q := 34) (lv' := [(3, .int x7), (2, .int p4.1), (0, .ref a0), (1, .int a1)]) X (TB.get tb_X3_readSecond 19 rfl) rfl rfl (Nat.le_of_ble_eq_true rfl) rfl ?_
    refine V_iload_n (q := 35) X (TB.get tb_X3_readSecond 20 rfl) rfl rfl rfl ?_
    refine V_iload_n (q := 36) X (TB.get tb_X3_readSecond 21 rfl) rfl rfl rfl ?_
    refine jn_elim (P := (fun (k : Option (Int32 × Hp)) => k = some res → V p l en (rmD 2) s m args below meth c 4 D tc B nn (Ar B nn) s.heap 0 0 (MQ below (QC D tc B nn (Ar B nn) (some (.int res.1)) res.2) args s 0 0 (Ar B nn)) p4.2 60 [(0, .ref a0)] [])) e ?_ (fun j8 Jj8 e => ?_)
    · intro e
      refine V_aload_n (q := 61) X (TB.get tb_X3_readSecond 34 rfl) rfl rfl rfl ?_
      refine V_iconst (v := 5) (q := 62) X (TB.get tb_X3_readSecond 35 rfl) c_iconst_5 rfl ?_
      obtain ⟨p9, ep9, e⟩ := bs e
      refine V_callV (q := 65) (As := [.int (5 : Int32)]) (rest := []) (st' := [.int p9.1]) X (TB.get tb_X3_readSecond 36 rfl) rfl cv_RX3_85 (ok_X3_fail a0 (5 : Int32) p4.2 p9 ep9).1 (ok_X3_fail a0 (5 : Int32) p4.2 p9 ep9).2 (Nat.le_of_ble_eq_true rfl) rfl rfl (Nat.le_of_ble_eq_true rfl) rfl ?_
      obtain ⟨z10, ez10, e⟩ := bs e
      cases e
      exact V_zretH X hr hlk ez10 (TB.get tb_X3_readSecond 37 rfl)
    refine V_icmp_eq (q := 39) (t := 60) X (TB.get tb_X3_readSecond 22 rfl) rfl rfl (fun hc => ?_) (fun hc => ?_)
    · have e := (if_pos hc).symm.trans e
      refine V_sub (lv' := [(0, .ref a0)]) [2] rfl ?_
      exact Jj8 e
    · have e := (if_neg hc).symm.trans e
      refine V_aload_n (q := 40) X (TB.get tb_X3_readSecond 23 rfl) rfl rfl rfl ?_
      refine V_getR (q := 43) X (TB.get tb_X3_readSecond 24 rfl) rfl lf_RX3_21 ex5 ?_
      obtain ⟨x11, ex11, e⟩ := bs e
      refine V_getR (q := 46) X (TB.get tb_X3_readSecond 25 rfl) rfl lf_RX3_155 ex11 ?_
      refine V_iload_n (q := 47) X (TB.get tb_X3_readSecond 26 rfl) rfl rfl rfl ?_
      obtain ⟨x12, ex12, e⟩ := bs e
      refine V_iaload (q := 48) X (TB.get tb_X3_readSecond 27 rfl) rfl ex12 ?_
      refine V_aload_n (q := 49) X (TB.get tb_X3_readSecond 28 rfl) rfl rfl rfl ?_
      refine V_getR (q := 52) X (TB.get tb_X3_readSecond 29 rfl) rfl lf_RX3_21 ex5 ?_
      refine V_getR (q := 55) X (TB.get tb_X3_readSecond 30 rfl) rfl lf_RX3_155 ex11 ?_
      refine V_iload_n (q := 56) X (TB.get tb_X3_readSecond 31 rfl) rfl rfl rfl ?_
      obtain ⟨x13, ex13, e⟩ := bs e
      refine V_iaload (q := 57) X (TB.get tb_X3_readSecond 32 rfl) rfl ex13 ?_
      refine V_icmp_eq (q := 60) (t := 66) X (TB.get tb_X3_readSecond 33 rfl) rfl rfl (fun hc => ?_) (fun hc => ?_)
      · have e := (if_pos hc).symm.trans e
        refine V_aload_n (q := 67) X (TB.get tb_X3_readSecond 38 rfl) rfl rfl rfl ?_
        refine V_getR (q := 70) X (TB.get tb_X3_readSecond 39 rfl) rfl lf_RX3_21 ex5 ?_
        obtain ⟨x14, ex14, e⟩ := bs e
        refine V_getR (q := 73) X (TB.get tb_X3_readSecond 40 rfl) rfl lf_RX3_175 ex14 ?_
        refine V_iload_n (q := 74) X (TB.get tb_X3_readSecond 41 rfl) rfl rfl rfl ?_
        refine V_iload_n (q := 75) X (TB.get tb_X3_readSecond 42 rfl) rfl rfl rfl ?_
        obtain ⟨h15, eh15, e⟩ := bs e
        refine V_iastore (q := 76) X (TB.get tb_X3_readSecond 43 rfl) rfl eh15 ?_
        refine V_aload_n (q := 77) X (TB.get tb_X3_readSecond 44 rfl) rfl rfl rfl ?_
        obtain ⟨x16, ex16, e⟩ := bs e
        refine V_getR (q := 80) X (TB.get tb_X3_readSecond 45 rfl) rfl lf_RX3_12 ex16 ?_
        obtain ⟨h17, eh17, e⟩ := bs e
        refine V_callV (q := 83) (As := []) (rest := []) (st' := []) X (TB.get tb_X3_readSecond 46 rfl) rfl cv_RX3_109 (ok_X7_advance fu x16 h15 h17 eh17).1 (ok_X7_advance fu x16 h15 h17 eh17).2 (Nat.le_of_ble_eq_true rfl) rfl rfl (Nat.le_of_ble_eq_true rfl) rfl ?_
        refine V_iconst (v := 1) (q := 84) X (TB.get tb_X3_readSecond 47 rfl) c_iconst_1 rfl ?_
        cases e
        exact V_zret X hr hlk (Or.inr rfl) (TB.get tb_X3_readSecond 48 rfl)
      · have e := (if_neg hc).symm.trans e
        refine V_sub (lv' := [(0, .ref a0)]) [2] rfl ?_
        exact Jj8 e
  · have e := (if_pos hc).symm.trans e
    refine V_iconst (v := 0) (q := 23) X (TB.get tb_X3_readSecond 12 rfl) c_iconst_0 rfl ?_
    cases e
    exact V_zret X hr hlk (Or.inl rfl) (TB.get tb_X3_readSecond 13 rfl)
set_option maxRecDepth 100000 in
set_option maxHeartbeats 4000000 in
theorem ok_X3_readAsked (fu : Nat) (a0 : Nat) (a1 : Int32) (a2 : Int32) (h : Hp) (res : Int32 × Hp) (e : MX3_readAsked fu a0 a1 a2 h = some res) : CK yX3_readAsked cX3_readAsked 5 (some .boolean) 2 [.ref a0, .int a1, .int a2] h (some (.int res.1)) res.2 ∧ (h.1 a0).1 = 3 := by
  obtain ⟨hcl, e⟩ := h_g_inv e
  refine ⟨CK_of pn_RX3 cm_X3_readAsked (Nat.le_of_ble_eq_true rfl) ?_, hcl⟩
  intro l D tc B nn p en s m args below meth c X hr hlk
  replace X : CX p (rmD 2) s m args c cX3_readAsked 5 RX3 D tc 2 := X
  show V p l en (rmD 2) s m args below meth c 5 D tc B nn (Ar B nn) s.heap 0 0 (MQ below (QC D tc B nn (Ar B nn) (some (.int res.1)) res.2) args s 0 0 (Ar B nn)) h 0 [(0, .ref a0), (1, .int a1), (2, .int a2)] []
  refine V_aload_n (q := 1) X (TB.get tb_X3_readAsked 0 rfl) rfl rfl rfl ?_
  obtain ⟨x1, ex1, e⟩ := bs e
  refine V_getR (q := 4) X (TB.get tb_X3_readAsked 1 rfl) rfl lf_RX3_21 ex1 ?_
  obtain ⟨x2, ex2, e⟩ := bs e
  refine V_getR (q := 7) X (TB.get tb_X3_readAsked 2 rfl) rfl lf_RX3_155 ex2 ?_
  refine V_aload_n (q := 8) X (TB.get tb_X3_readAsked 3 rfl) rfl rfl rfl ?_
  refine V_getR (q := 11) X (TB.get tb_X3_readAsked 4 rfl) rfl lf_RX3_21 ex1 ?_
  obtain ⟨x3, ex3, e⟩ := bs e
  refine V_getR (q := 14) X (TB.get tb_X3_readAsked 5 rfl) rfl lf_RX3_172 ex3 ?_
  refine V_iload_n (q := 15) X (TB.get tb_X3_readAsked 6 rfl) rfl rfl rfl ?_
  obtain ⟨x4, ex4, e⟩ := bs e
  refine V_iaload (q := 16) X (TB.get tb_X3_readAsked 7 rfl) rfl ex4 ?_
  obtain ⟨x5, ex5, e⟩ := bs e
  refine V_iaload (q := 17) X (TB.get tb_X3_readAsked 8 rfl) rfl ex5 ?_
  refine V_istore_n (q := 18) (lv' := [(3, .int x5), (0, .ref a0), (1, .int a1), (2, .int a2)]) X (TB.get tb_X3_readAsked 9 rfl) rfl rfl (Nat.le_of_ble_eq_true rfl) rfl ?_
  refine V_aload_n (q := 19) X (TB.get tb_X3_readAsked 10 rfl) rfl rfl rfl ?_
  refine V_aload_n (q := 20) X (TB.get tb_X3_readAsked 11 rfl) rfl rfl rfl ?_
  obtain ⟨x6, ex6, e⟩ := bs e
  refine V_getR (q := 23) X (TB.get tb_X3_readAsked 12 rfl) rfl lf_RX3_32 ex6 ?_
  refine V_iload_n (q := 24) X (TB.get tb_X3_readAsked 13 rfl) rfl rfl rfl ?_
  refine V_bipush (v := 6) (q := 26) X (TB.get tb_X3_readAsked 14 rfl) c_bipush_6 rfl ?_
  refine V_imul (q := 27) X (TB.get tb_X3_readAsked 15 rfl) rfl ?_
  refine V_aload_n (q := 28) X (TB.get tb_X3_readAsked 16 rfl) rfl rfl rfl ?_
  refine V_getR (q := 31) X (TB.get tb_X3_readAsked 17 rfl) rfl lf_RX3_21 ex1 ?_
  obtain ⟨x7, ex7, e⟩ := bs e
  refine V_getR (q := 34) X (TB.get tb_X3_readAsked 18 rfl) rfl lf_RX3_100 ex7 ?_
  obtain ⟨x8, ex8, e⟩ := bs e
  refine V_getR (q := 37) X (TB.get tb_X3_readAsked 19 rfl) rfl lf_RX3_178 ex8 ?_
  refine V_iload_n (q := 38) X (TB.get tb_X3_readAsked 20 rfl) rfl rfl rfl ?_
  obtain ⟨x9, ex9, e⟩ := bs e
  refine V_iaload (q := 39) X (TB.get tb_X3_readAsked 21 rfl) rfl ex9 ?_
  obtain ⟨p10, ep10, e⟩ := bs e
  refine V_callV (q := 42) (As := [.ref x6, .int (x5 * (6 : Int32)), .int x9]) (rest := []) (st' := [.int p10.1]) X (TB.get tb_X3_readAsked 22 rfl) rfl cv_RX3_130 (ok_X3_known fu a0 x6 (x5 * (6 : Int32)) x9 h p10 ep10).1 (ok_X3_known fu a0 x6 (x5 * (6 : Int32)) x9 h p10 ep10).2 (Nat.le_of_ble_eq_true rfl) rfl rfl (Nat.le_of_ble_eq_true rfl) rfl ?_
  refine V_istore (q := 44) (lv' := [(4, .int p10.1), (3, .int x5), (0, .ref a0), (1, .int a1), (2, .int a2)]) X (TB.get tb_X3_readAsked 23 rfl) rfl (Nat.le_of_ble_eq_true rfl) rfl ?_
  refine V_iload (q := 46) X (TB.get tb_X3_readAsked 24 rfl) rfl rfl ?_
  refine V_iconst (v := -1) (q := 47) X (TB.get tb_X3_readAsked 25 rfl) c_iconst_m1 rfl ?_
  refine V_icmp_ne (q := 50) (t := 52) X (TB.get tb_X3_readAsked 26 rfl) rfl rfl (fun hc => ?_) (fun hc => ?_)
  · have e := (if_neg hc).symm.trans e
    refine V_aload_n (q := 53) X (TB.get tb_X3_readAsked 29 rfl) rfl rfl rfl ?_
    obtain ⟨x11, ex11, e⟩ := bs e
    refine V_getR (q := 56) X (TB.get tb_X3_readAsked 30 rfl) rfl lf_RX3_21 ex11 ?_
    obtain ⟨x12, ex12, e⟩ := bs e
    refine V_getR (q := 59) X (TB.get tb_X3_readAsked 31 rfl) rfl lf_RX3_100 ex12 ?_
    refine V_iload_n (q := 60) X (TB.get tb_X3_readAsked 32 rfl) rfl rfl rfl ?_
    refine V_iload (q := 62) X (TB.get tb_X3_readAsked 33 rfl) rfl rfl ?_
    obtain ⟨x13, ex13, e⟩ := bs e
    refine V_callV (q := 65) (As := [.int x5, .int p10.1]) (rest := []) (st' := [.int x13]) X (TB.get tb_X3_readAsked 34 rfl) rfl cv_RX3_181 (ok_X2_sortOf x12 x5 p10.1 p10.2 x13 ex13).1 (ok_X2_sortOf x12 x5 p10.1 p10.2 x13 ex13).2 (Nat.le_of_ble_eq_true rfl) rfl rfl (Nat.le_of_ble_eq_true rfl) rfl ?_
    refine V_iconst (v := 1) (q := 66) X (TB.get tb_X3_readAsked 35 rfl) c_iconst_1 rfl ?_
    refine jn_elim (P := (fun (k : Int32 → Option (Int32 × Hp)) => ∀ (w14 : Int32), k w14 = some res → V p l en (rmD 2) s m args below meth c 5 D tc B nn (Ar B nn) s.heap 0 0 (MQ below (QC D tc B nn (Ar B nn) (some (.int res.1)) res.2) args s 0 0 (Ar B nn)) p10.2 74 [(0, .ref a0), (1, .int a1), (2, .int a2), (4, .int p10.1)] [.int w14])) e ?_ (fun j15 Jj15 e => ?_)
    · intro w14 e
      refine V_iload_n (q := 75) X (TB.get tb_X3_readAsked 40 rfl) rfl rfl rfl ?_
      refine V_icmp_eq (q := 78) (t := 84) X (TB.get tb_X3_readAsked 41 rfl) rfl rfl (fun hc => ?_) (fun hc => ?_)
      · have e := (if_pos hc).symm.trans e
        refine V_aload_n (q := 85) X (TB.get tb_X3_readAsked 46 rfl) rfl rfl rfl ?_
        refine V_getR (q := 88) X (TB.get tb_X3_readAsked 47 rfl) rfl lf_RX3_21 ex11 ?_
        obtain ⟨x16, ex16, e⟩ := bs e
        refine V_getR (q := 91) X (TB.get tb_X3_readAsked 48 rfl) rfl lf_RX3_184 ex16 ?_
        refine V_iload_n (q := 92) X (TB.get tb_X3_readAsked 49 rfl) rfl rfl rfl ?_
        refine V_iload (q := 94) X (TB.get tb_X3_readAsked 50 rfl) rfl rfl ?_
        obtain ⟨h17, eh17, e⟩ := bs e
        refine V_iastore (q := 95) X (TB.get tb_X3_readAsked 51 rfl) rfl eh17 ?_
        refine V_aload_n (q := 96) X (TB.get tb_X3_readAsked 52 rfl) rfl rfl rfl ?_
        obtain ⟨x18, ex18, e⟩ := bs e
        refine V_getR (q := 99) X (TB.get tb_X3_readAsked 53 rfl) rfl lf_RX3_12 ex18 ?_
        obtain ⟨h19, eh19, e⟩ := bs e
        refine V_callV (q := 102) (As := []) (rest := []) (st' := []) X (TB.get tb_X3_readAsked 54 rfl) rfl cv_RX3_109 (ok_X7_advance fu x18 h17 h19 eh19).1 (ok_X7_advance fu x18 h17 h19 eh19).2 (Nat.le_of_ble_eq_true rfl) rfl rfl (Nat.le_of_ble_eq_true rfl) rfl ?_
        refine V_iconst (v := 1) (q := 103) X (TB.get tb_X3_readAsked 55 rfl) c_iconst_1 rfl ?_
        cases e
        exact V_zret X hr hlk (Or.inr rfl) (TB.get tb_X3_readAsked 56 rfl)
      · have e := (if_neg hc).symm.trans e
        refine V_aload_n (q := 79) X (TB.get tb_X3_readAsked 42 rfl) rfl rfl rfl ?_
        refine V_iconst (v := 5) (q := 80) X (TB.get tb_X3_readAsked 43 rfl) c_iconst_5 rfl ?_
        obtain ⟨p20, ep20, e⟩ := bs e
        refine V_callV (q := 83) (As := [.int (5 : Int32)]) (rest := []) (st' := [.int p20.1]) X (TB.get tb_X3_readAsked 44 rfl) rfl cv_RX3_85 (ok_X3_fail a0 (5 : Int32) p10.2 p20 ep20).1 (ok_X3_fail a0 (5 : Int32) p10.2 p20 ep20).2 (Nat.le_of_ble_eq_true rfl) rfl rfl (Nat.le_of_ble_eq_true rfl) rfl ?_
        obtain ⟨z21, ez21, e⟩ := bs e
        cases e
        exact V_zretH X hr hlk ez21 (TB.get tb_X3_readAsked 45 rfl)
    refine V_icmp_ne (q := 69) (t := 73) X (TB.get tb_X3_readAsked 36 rfl) rfl rfl (fun hc => ?_) (fun hc => ?_)
    · have e := (if_neg hc).symm.trans e
      refine V_iconst (v := 0) (q := 74) X (TB.get tb_X3_readAsked 39 rfl) c_iconst_0 rfl ?_
      refine V_sub (lv' := [(0, .ref a0), (1, .int a1), (2, .int a2), (4, .int p10.1)]) [2, 3, 4, 0] rfl ?_
      exact Jj15 _ e
    · have e := (if_pos hc).symm.trans e
      refine V_iconst (v := 1) (q := 70) X (TB.get tb_X3_readAsked 37 rfl) c_iconst_1 rfl ?_
      refine V_goto (q := 74) X (TB.get tb_X3_readAsked 38 rfl) rfl ?_
      refine V_sub (lv' := [(0, .ref a0), (1, .int a1), (2, .int a2), (4, .int p10.1)]) [2, 3, 4, 0] rfl ?_
      exact Jj15 _ e
  · have e := (if_pos hc).symm.trans e
    refine V_iconst (v := 0) (q := 51) X (TB.get tb_X3_readAsked 27 rfl) c_iconst_0 rfl ?_
    cases e
    exact V_zret X hr hlk (Or.inl rfl) (TB.get tb_X3_readAsked 28 rfl)
set_option maxRecDepth 100000 in
set_option maxHeartbeats 4000000 in
theorem ok_X3_takeSign (fu : Nat) (a0 : Nat) (a1 : Int32) (h : Hp) (res : Int32 × Hp) (e : MX3_takeSign fu a0 a1 h = some res) : CK yX3_takeSign cX3_takeSign 2 (some .boolean) 2 [.ref a0, .int a1] h (some (.int res.1)) res.2 ∧ (h.1 a0).1 = 3 := by
  obtain ⟨hcl, e⟩ := h_g_inv e
  refine ⟨CK_of pn_RX3 cm_X3_takeSign (Nat.le_of_ble_eq_true rfl) ?_, hcl⟩
  intro l D tc B nn p en s m args below meth c X hr hlk
  replace X : CX p (rmD 2) s m args c cX3_takeSign 2 RX3 D tc 2 := X
  show V p l en (rmD 2) s m args below meth c 2 D tc B nn (Ar B nn) s.heap 0 0 (MQ below (QC D tc B nn (Ar B nn) (some (.int res.1)) res.2) args s 0 0 (Ar B nn)) h 0 [(0, .ref a0), (1, .int a1)] []
  refine V_aload_n (q := 1) X (TB.get tb_X3_takeSign 0 rfl) rfl rfl rfl ?_
  obtain ⟨x1, ex1, e⟩ := bs e
  refine V_getR (q := 4) X (TB.get tb_X3_takeSign 1 rfl) rfl lf_RX3_12 ex1 ?_
  obtain ⟨x2, ex2, e⟩ := bs e
  refine V_getI (q := 7) X (TB.get tb_X3_takeSign 2 rfl) rfl lf_RX3_72 ex2 ?_
  refine V_iload_n (q := 8) X (TB.get tb_X3_takeSign 3 rfl) rfl rfl rfl ?_
  refine V_icmp_eq (q := 11) (t := 17) X (TB.get tb_X3_takeSign 4 rfl) rfl rfl (fun hc => ?_) (fun hc => ?_)
  · have e := (if_pos hc).symm.trans e
    refine V_aload_n (q := 18) X (TB.get tb_X3_takeSign 9 rfl) rfl rfl rfl ?_
    refine V_getR (q := 21) X (TB.get tb_X3_takeSign 10 rfl) rfl lf_RX3_12 ex1 ?_
    obtain ⟨h3, eh3, e⟩ := bs e
    refine V_callV (q := 24) (As := []) (rest := []) (st' := []) X (TB.get tb_X3_takeSign 11 rfl) rfl cv_RX3_109 (ok_X7_advance fu x1 h h3 eh3).1 (ok_X7_advance fu x1 h h3 eh3).2 (Nat.le_of_ble_eq_true rfl) rfl rfl (Nat.le_of_ble_eq_true rfl) rfl ?_
    refine V_iconst (v := 1) (q := 25) X (TB.get tb_X3_takeSign 12 rfl) c_iconst_1 rfl ?_
    cases e
    exact V_zret X hr hlk (Or.inr rfl) (TB.get tb_X3_takeSign 13 rfl)
  · have e := (if_neg hc).symm.trans e
    refine V_aload_n (q := 12) X (TB.get tb_X3_takeSign 5 rfl) rfl rfl rfl ?_
    refine V_iconst (v := 2) (q := 13) X (TB.get tb_X3_takeSign 6 rfl) c_iconst_2 rfl ?_
    obtain ⟨p4, ep4, e⟩ := bs e
    refine V_callV (q := 16) (As := [.int (2 : Int32)]) (rest := []) (st' := [.int p4.1]) X (TB.get tb_X3_takeSign 7 rfl) rfl cv_RX3_85 (ok_X3_fail a0 (2 : Int32) h p4 ep4).1 (ok_X3_fail a0 (2 : Int32) h p4 ep4).2 (Nat.le_of_ble_eq_true rfl) rfl rfl (Nat.le_of_ble_eq_true rfl) rfl ?_
    obtain ⟨z5, ez5, e⟩ := bs e
    cases e
    exact V_zretH X hr hlk ez5 (TB.get tb_X3_takeSign 8 rfl)
