set_option maxRecDepth 100000 in
set_option maxHeartbeats 4000000 in
theorem ok_X0_firstReason (a0 : Nat) (h : Hp) (res : Int32) (e : MX0_firstReason a0 h = some res) : CK yX0_firstReason cX0_firstReason 1 (some .int) 0 [.ref a0] h (some (.int res)) h ∧ (h.1 a0).1 = 0 := by
  obtain ⟨hcl, e⟩ := h_g_inv e
  refine ⟨CK_of pn_RX0 cm_X0_firstReason (Nat.le_of_ble_eq_true rfl) ?_, hcl⟩
  intro l D tc B nn p en s m args below meth c X hr hlk
  replace X : CX p (rmD 0) s m args c cX0_firstReason 1 RX0 D tc 0 := X
  show V p l en (rmD 0) s m args below meth c 1 D tc B nn (Ar B nn) s.heap 0 0 (MQ below (QC D tc B nn (Ar B nn) (some (.int res)) h) args s 0 0 (Ar B nn)) h 0 [(0, .ref a0)] []
  refine V_aload_n (q := 1) X (TB.get tb_X0_firstReason 0 rfl) rfl rfl rfl ?_
  obtain ⟨x1, ex1, e⟩ := bs e
  refine V_getI (q := 4) X (TB.get tb_X0_firstReason 1 rfl) rfl lf_RX0_33 ex1 ?_
  refine jn_elim (P := (fun (k : Option (Int32)) => k = some res → V p l en (rmD 0) s m args below meth c 1 D tc B nn (Ar B nn) s.heap 0 0 (MQ below (QC D tc B nn (Ar B nn) (some (.int res)) h) args s 0 0 (Ar B nn)) h 16 [] [])) e ?_ (fun j2 Jj2 e => ?_)
  · intro e
    refine V_iconst (v := 0) (q := 17) X (TB.get tb_X0_firstReason 7 rfl) c_iconst_0 rfl ?_
    refine V_goto (q := 29) X (TB.get tb_X0_firstReason 8 rfl) rfl ?_
    cases e
    exact V_iret X hr hlk (TB.get tb_X0_firstReason 14 rfl)
  refine V_if_lt (q := 7) (t := 16) X (TB.get tb_X0_firstReason 2 rfl) rfl rfl (fun hc => ?_) (fun hc => ?_)
  · have e := (if_pos hc).symm.trans e
    refine V_sub (lv' := []) [] rfl ?_
    exact Jj2 e
  · have e := (if_neg hc).symm.trans e
    refine V_aload_n (q := 8) X (TB.get tb_X0_firstReason 3 rfl) rfl rfl rfl ?_
    refine V_getI (q := 11) X (TB.get tb_X0_firstReason 4 rfl) rfl lf_RX0_33 ex1 ?_
    refine V_bipush (v := 41) (q := 13) X (TB.get tb_X0_firstReason 5 rfl) c_bipush_41 rfl ?_
    refine V_icmp_lt (q := 16) (t := 20) X (TB.get tb_X0_firstReason 6 rfl) rfl rfl (fun hc => ?_) (fun hc => ?_)
    · have e := (if_pos hc).symm.trans e
      refine V_aload_n (q := 21) X (TB.get tb_X0_firstReason 9 rfl) rfl rfl rfl ?_
      obtain ⟨x3, ex3, e⟩ := bs e
      refine V_getR (q := 24) X (TB.get tb_X0_firstReason 10 rfl) rfl lf_RX0_21 ex3 ?_
      refine V_aload_n (q := 25) X (TB.get tb_X0_firstReason 11 rfl) rfl rfl rfl ?_
      refine V_getI (q := 28) X (TB.get tb_X0_firstReason 12 rfl) rfl lf_RX0_33 ex1 ?_
      obtain ⟨x4, ex4, e⟩ := bs e
      refine V_iaload (q := 29) X (TB.get tb_X0_firstReason 13 rfl) rfl ex4 ?_
      cases e
      exact V_iret X hr hlk (TB.get tb_X0_firstReason 14 rfl)
    · have e := (if_neg hc).symm.trans e
      refine V_sub (lv' := []) [] rfl ?_
      exact Jj2 e
set_option maxRecDepth 100000 in
set_option maxHeartbeats 4000000 in
theorem ok_X1_begin (fu : Nat) (a0 : Nat) (h : Hp) (res : Hp) (e : MX1_begin fu a0 h = some res) : CK yX1_begin cX1_begin 2 none 1 [.ref a0] h none res ∧ (h.1 a0).1 = 1 := by
  obtain ⟨hcl, e⟩ := h_g_inv e
  refine ⟨CK_of pn_RX1 cm_X1_begin (Nat.le_of_ble_eq_true rfl) ?_, hcl⟩
  intro l D tc B nn p en s m args below meth c X hr hlk
  replace X : CX p (rmD 1) s m args c cX1_begin 2 RX1 D tc 1 := X
  show V p l en (rmD 1) s m args below meth c 2 D tc B nn (Ar B nn) s.heap 0 0 (MQ below (QC D tc B nn (Ar B nn) none res) args s 0 0 (Ar B nn)) h 0 [(0, .ref a0)] []
  refine V_aload_n (q := 1) X (TB.get tb_X1_begin 0 rfl) rfl rfl rfl ?_
  obtain ⟨x1, ex1, e⟩ := bs e
  refine V_getR (q := 4) X (TB.get tb_X1_begin 1 rfl) rfl lf_RX1_11 ex1 ?_
  refine V_iconst (v := 0) (q := 5) X (TB.get tb_X1_begin 2 rfl) c_iconst_0 rfl ?_
  obtain ⟨h2, eh2, e⟩ := bs e
  refine V_callS (q := 8) (As := [.ref x1, .int (0 : Int32)]) (rest := []) (st' := []) X (TB.get tb_X1_begin 3 rfl) rfl cs_RX1_15 (ok_J7_fill_53178 fu x1 (0 : Int32) h h2 eh2) (Nat.le_of_ble_eq_true rfl) rfl rfl (Nat.le_of_ble_eq_true rfl) rfl ?_
  refine V_iconst (v := 0) (q := 9) X (TB.get tb_X1_begin 4 rfl) c_iconst_0 rfl ?_
  refine V_istore_n (q := 10) (lv' := [(1, .int (0 : Int32)), (0, .ref a0)]) X (TB.get tb_X1_begin 5 rfl) rfl rfl (Nat.le_of_ble_eq_true rfl) rfl ?_
  refine V_sub (lv' := [(0, .ref a0), (1, .int (0 : Int32))]) [1, 0] rfl ?_
  refine wh2_elim (P := fun v3 h4 => V p l en (rmD 1) s m args below meth c 2 D tc B nn (Ar B nn) s.heap 0 0 (MQ below (QC D tc B nn (Ar B nn) none res) args s 0 0 (Ar B nn)) h4 10 [(0, .ref a0), (1, .int v3)] []) (f := fu) ?_ e
  intro self5 v3 h4 ihself5 e
  unfold MX1_begin_B10 at e
  refine V_iload_n (q := 11) X (TB.get tb_X1_begin 6 rfl) rfl rfl rfl ?_
  refine V_bipush (v := 6) (q := 13) X (TB.get tb_X1_begin 7 rfl) c_bipush_6 rfl ?_
  refine V_icmp_ge (q := 16) (t := 31) X (TB.get tb_X1_begin 8 rfl) rfl rfl (fun hc => ?_) (fun hc => ?_)
  · have e := (if_pos hc).symm.trans e
    cases e
    exact V_vret X hr hlk (TB.get tb_X1_begin 18 rfl)
  · have e := (if_neg hc).symm.trans e
    refine V_aload_n (q := 17) X (TB.get tb_X1_begin 9 rfl) rfl rfl rfl ?_
    obtain ⟨x6, ex6, e⟩ := bs e
    refine V_getR (q := 20) X (TB.get tb_X1_begin 10 rfl) rfl lf_RX1_11 ex6 ?_
    refine V_iconst (v := 0) (q := 21) X (TB.get tb_X1_begin 11 rfl) c_iconst_0 rfl ?_
    refine V_iload_n (q := 22) X (TB.get tb_X1_begin 12 rfl) rfl rfl rfl ?_
    refine V_iadd (q := 23) X (TB.get tb_X1_begin 13 rfl) rfl ?_
    refine V_iconst (v := 1) (q := 24) X (TB.get tb_X1_begin 14 rfl) c_iconst_1 rfl ?_
    obtain ⟨h7, eh7, e⟩ := bs e
    refine V_iastore (q := 25) X (TB.get tb_X1_begin 15 rfl) rfl eh7 ?_
    refine V_iinc (q := 28) (v := v3 + (1 : Int32)) (lv' := [(1, .int (v3 + (1 : Int32))), (0, .ref a0)]) X (TB.get tb_X1_begin 16 rfl) rfl rfl (by rw [c_iconst_1]) (Nat.le_of_ble_eq_true rfl) rfl ?_
    refine V_goto (q := 10) X (TB.get tb_X1_begin 17 rfl) rfl ?_
    refine V_sub (lv' := [(0, .ref a0), (1, .int (v3 + (1 : Int32)))]) [1, 0] rfl ?_
    exact ihself5 _ _ e
set_option maxRecDepth 100000 in
set_option maxHeartbeats 4000000 in
theorem ok_X1_copyFrom (a0 : Nat) (a1 : Nat) (h : Hp) (res : Hp) (e : MX1_copyFrom a0 a1 h = some res) : CK yX1_copyFrom cX1_copyFrom 2 none 1 [.ref a0, .ref a1] h none res ∧ (h.1 a0).1 = 1 := by
  obtain ⟨hcl, e⟩ := h_g_inv e
  refine ⟨CK_of pn_RX1 cm_X1_copyFrom (Nat.le_of_ble_eq_true rfl) ?_, hcl⟩
  intro l D tc B nn p en s m args below meth c X hr hlk
  replace X : CX p (rmD 1) s m args c cX1_copyFrom 2 RX1 D tc 1 := X
  show V p l en (rmD 1) s m args below meth c 2 D tc B nn (Ar B nn) s.heap 0 0 (MQ below (QC D tc B nn (Ar B nn) none res) args s 0 0 (Ar B nn)) h 0 [(0, .ref a0), (1, .ref a1)] []
  refine V_aload_n (q := 1) X (TB.get tb_X1_copyFrom 0 rfl) rfl rfl rfl ?_
  obtain ⟨x1, ex1, e⟩ := bs e
  refine V_getR (q := 4) X (TB.get tb_X1_copyFrom 1 rfl) rfl lf_RX1_11 ex1 ?_
  refine V_iconst (v := 0) (q := 5) X (TB.get tb_X1_copyFrom 2 rfl) c_iconst_0 rfl ?_
  refine V_aload_n (q := 6) X (TB.get tb_X1_copyFrom 3 rfl) rfl rfl rfl ?_
  obtain ⟨x2, ex2, e⟩ := bs e
  refine V_getR (q := 9) X (TB.get tb_X1_copyFrom 4 rfl) rfl lf_RX1_11 ex2 ?_
  refine V_iconst (v := 0) (q := 10) X (TB.get tb_X1_copyFrom 5 rfl) c_iconst_0 rfl ?_
  refine V_bipush (v := 24) (q := 12) X (TB.get tb_X1_copyFrom 6 rfl) c_bipush_24 rfl ?_
  obtain ⟨h3, eh3, e⟩ := bs e
  refine V_arraycopy (q := 15) X (TB.get tb_X1_copyFrom 7 rfl) rfl ml_RX1_21 ac_1 ac_2 ac_3 (Nat.le_of_ble_eq_true rfl) (Nat.le_of_ble_eq_true rfl) eh3 ?_
  cases e
  exact V_vret X hr hlk (TB.get tb_X1_copyFrom 8 rfl)
set_option maxRecDepth 100000 in
set_option maxHeartbeats 4000000 in
theorem ok_X1_meet (fu : Nat) (a0 : Nat) (a1 : Nat) (h : Hp) (res : Int32 × Hp) (e : MX1_meet fu a0 a1 h = some res) : CK yX1_meet cX1_meet 5 (some .boolean) 0 [.ref a0, .ref a1] h (some (.int res.1)) res.2 ∧ (h.1 a0).1 = 1 := by
  obtain ⟨hcl, e⟩ := h_g_inv e
  refine ⟨CK_of pn_RX1 cm_X1_meet (Nat.le_of_ble_eq_true rfl) ?_, hcl⟩
  intro l D tc B nn p en s m args below meth c X hr hlk
  replace X : CX p (rmD 0) s m args c cX1_meet 5 RX1 D tc 0 := X
  show V p l en (rmD 0) s m args below meth c 5 D tc B nn (Ar B nn) s.heap 0 0 (MQ below (QC D tc B nn (Ar B nn) (some (.int res.1)) res.2) args s 0 0 (Ar B nn)) h 0 [(0, .ref a0), (1, .ref a1)] []
  refine V_iconst (v := 0) (q := 1) X (TB.get tb_X1_meet 0 rfl) c_iconst_0 rfl ?_
  refine V_istore_n (q := 2) (lv' := [(2, .int (0 : Int32)), (0, .ref a0), (1, .ref a1)]) X (TB.get tb_X1_meet 1 rfl) rfl rfl (Nat.le_of_ble_eq_true rfl) rfl ?_
  refine V_iconst (v := 0) (q := 3) X (TB.get tb_X1_meet 2 rfl) c_iconst_0 rfl ?_
  refine V_istore_n (q := 4) (lv' := [(3, .int (0 : Int32)), (2, .int (0 : Int32)), (0, .ref a0), (1, .ref a1)]) X (TB.get tb_X1_meet 3 rfl) rfl rfl (Nat.le_of_ble_eq_true rfl) rfl ?_
  refine V_sub (lv' := [(0, .ref a0), (1, .ref a1), (2, .int (0 : Int32)), (3, .int (0 : Int32))]) [2, 3, 1, 0] rfl ?_
  refine wh3_elim (P := fun v1 v2 h3 => V p l en (rmD 0) s m args below meth c 5 D tc B nn (Ar B nn) s.heap 0 0 (MQ below (QC D tc B nn (Ar B nn) (some (.int res.1)) res.2) args s 0 0 (Ar B nn)) h3 4 [(0, .ref a0), (1, .ref a1), (2, .int v1), (3, .int v2)] []) (f := fu) ?_ e
  intro self4 v1 v2 h3 ihself4 e
  unfold MX1_meet_B4 at e
  refine V_iload_n (q := 5) X (TB.get tb_X1_meet 4 rfl) rfl rfl rfl ?_
  refine V_bipush (v := 24) (q := 7) X (TB.get tb_X1_meet 5 rfl) c_bipush_24 rfl ?_
  refine V_icmp_ge (q := 10) (t := 74) X (TB.get tb_X1_meet 6 rfl) rfl rfl (fun hc => ?_) (fun hc => ?_)
  · have e := (if_pos hc).symm.trans e
    refine V_iload_n (q := 75) X (TB.get tb_X1_meet 45 rfl) rfl rfl rfl ?_
    obtain ⟨z5, ez5, e⟩ := bs e
    cases e
    exact V_zretH X hr hlk ez5 (TB.get tb_X1_meet 46 rfl)
  · have e := (if_neg hc).symm.trans e
    refine V_iload_n (q := 11) X (TB.get tb_X1_meet 7 rfl) rfl rfl rfl ?_
    refine V_bipush (v := 18) (q := 13) X (TB.get tb_X1_meet 8 rfl) c_bipush_18 rfl ?_
    refine jn_elim (P := (fun (k : Int32 → Option (Int32 × Hp)) => ∀ (w6 : Int32), k w6 = some res → V p l en (rmD 0) s m args below meth c 5 D tc B nn (Ar B nn) s.heap 0 0 (MQ below (QC D tc B nn (Ar B nn) (some (.int res.1)) res.2) args s 0 0 (Ar B nn)) h3 45 [(0, .ref a0), (1, .ref a1), (2, .int v1), (3, .int v2)] [.int w6])) e ?_ (fun j7 Jj7 e => ?_)
    · intro w6 e
      refine V_istore (q := 47) (lv' := [(4, .int w6), (0, .ref a0), (1, .ref a1), (2, .int v1), (3, .int v2)]) X (TB.get tb_X1_meet 29 rfl) rfl (Nat.le_of_ble_eq_true rfl) rfl ?_
      refine V_iload (q := 49) X (TB.get tb_X1_meet 30 rfl) rfl rfl ?_
      refine V_aload_n (q := 50) X (TB.get tb_X1_meet 31 rfl) rfl rfl rfl ?_
      obtain ⟨x8, ex8, e⟩ := bs e
      refine V_getR (q := 53) X (TB.get tb_X1_meet 32 rfl) rfl lf_RX1_11 ex8 ?_
      refine V_iload_n (q := 54) X (TB.get tb_X1_meet 33 rfl) rfl rfl rfl ?_
      obtain ⟨x9, ex9, e⟩ := bs e
      refine V_iaload (q := 55) X (TB.get tb_X1_meet 34 rfl) rfl ex9 ?_
      refine jn_elim (P := (fun (k : Int32 → Hp → Option (Int32 × Hp)) => ∀ (v10 : Int32) (h11 : Hp), k v10 h11 = some res → V p l en (rmD 0) s m args below meth c 5 D tc B nn (Ar B nn) s.heap 0 0 (MQ below (QC D tc B nn (Ar B nn) (some (.int res.1)) res.2) args s 0 0 (Ar B nn)) h11 68 [(0, .ref a0), (1, .ref a1), (2, .int v10), (3, .int v2)] [])) e ?_ (fun j12 Jj12 e => ?_)
      · intro v10 h11 e
        refine V_iinc (q := 71) (v := v2 + (1 : Int32)) (lv' := [(3, .int (v2 + (1 : Int32))), (0, .ref a0), (1, .ref a1), (2, .int v10)]) X (TB.get tb_X1_meet 43 rfl) rfl rfl (by rw [c_iconst_1]) (Nat.le_of_ble_eq_true rfl) rfl ?_
        refine V_goto (q := 4) X (TB.get tb_X1_meet 44 rfl) rfl ?_
        refine V_sub (lv' := [(0, .ref a0), (1, .ref a1), (2, .int v10), (3, .int (v2 + (1 : Int32)))]) [1, 2, 3, 0] rfl ?_
        exact ihself4 _ _ _ e
      refine V_icmp_eq (q := 58) (t := 68) X (TB.get tb_X1_meet 35 rfl) rfl rfl (fun hc => ?_) (fun hc => ?_)
      · have e := (if_pos hc).symm.trans e
        refine V_sub (lv' := [(0, .ref a0), (1, .ref a1), (2, .int v1), (3, .int v2)]) [1, 2, 3, 4] rfl ?_
        exact Jj12 _ _ e
      · have e := (if_neg hc).symm.trans e
        refine V_aload_n (q := 59) X (TB.get tb_X1_meet 36 rfl) rfl rfl rfl ?_
        refine V_getR (q := 62) X (TB.get tb_X1_meet 37 rfl) rfl lf_RX1_11 ex8 ?_
        refine V_iload_n (q := 63) X (TB.get tb_X1_meet 38 rfl) rfl rfl rfl ?_
        refine V_iload (q := 65) X (TB.get tb_X1_meet 39 rfl) rfl rfl ?_
        obtain ⟨h13, eh13, e⟩ := bs e
        refine V_iastore (q := 66) X (TB.get tb_X1_meet 40 rfl) rfl eh13 ?_
        refine V_iconst (v := 1) (q := 67) X (TB.get tb_X1_meet 41 rfl) c_iconst_1 rfl ?_
        refine V_istore_n (q := 68) (lv' := [(2, .int (1 : Int32)), (4, .int w6), (0, .ref a0), (1, .ref a1), (3, .int v2)]) X (TB.get tb_X1_meet 42 rfl) rfl rfl (Nat.le_of_ble_eq_true rfl) rfl ?_
        refine V_sub (lv' := [(0, .ref a0), (1, .ref a1), (2, .int (1 : Int32)), (3, .int v2)]) [2, 3, 0, 4] rfl ?_
        exact Jj12 _ _ e
    refine V_icmp_ge (q := 16) (t := 32) X (TB.get tb_X1_meet 9 rfl) rfl rfl (fun hc => ?_) (fun hc => ?_)
    · have e := (if_pos hc).symm.trans e
      refine V_aload_n (q := 33) X (TB.get tb_X1_meet 20 rfl) rfl rfl rfl ?_
      obtain ⟨x14, ex14, e⟩ := bs e
      refine V_getR (q := 36) X (TB.get tb_X1_meet 21 rfl) rfl lf_RX1_11 ex14 ?_
      refine V_iload_n (q := 37) X (TB.get tb_X1_meet 22 rfl) rfl rfl rfl ?_
      obtain ⟨x15, ex15, e⟩ := bs e
      refine V_iaload (q := 38) X (TB.get tb_X1_meet 23 rfl) rfl ex15 ?_
      refine V_aload_n (q := 39) X (TB.get tb_X1_meet 24 rfl) rfl rfl rfl ?_
      obtain ⟨x16, ex16, e⟩ := bs e
      refine V_getR (q := 42) X (TB.get tb_X1_meet 25 rfl) rfl lf_RX1_11 ex16 ?_
      refine V_iload_n (q := 43) X (TB.get tb_X1_meet 26 rfl) rfl rfl rfl ?_
      obtain ⟨x17, ex17, e⟩ := bs e
      refine V_iaload (q := 44) X (TB.get tb_X1_meet 27 rfl) rfl ex17 ?_
      refine V_iand (q := 45) X (TB.get tb_X1_meet 28 rfl) rfl ?_
      exact Jj7 _ e
    · have e := (if_neg hc).symm.trans e
      refine V_aload_n (q := 17) X (TB.get tb_X1_meet 10 rfl) rfl rfl rfl ?_
      obtain ⟨x18, ex18, e⟩ := bs e
      refine V_getR (q := 20) X (TB.get tb_X1_meet 11 rfl) rfl lf_RX1_11 ex18 ?_
      refine V_iload_n (q := 21) X (TB.get tb_X1_meet 12 rfl) rfl rfl rfl ?_
      obtain ⟨x19, ex19, e⟩ := bs e
      refine V_iaload (q := 22) X (TB.get tb_X1_meet 13 rfl) rfl ex19 ?_
      refine V_aload_n (q := 23) X (TB.get tb_X1_meet 14 rfl) rfl rfl rfl ?_
      obtain ⟨x20, ex20, e⟩ := bs e
      refine V_getR (q := 26) X (TB.get tb_X1_meet 15 rfl) rfl lf_RX1_11 ex20 ?_
      refine V_iload_n (q := 27) X (TB.get tb_X1_meet 16 rfl) rfl rfl rfl ?_
      obtain ⟨x21, ex21, e⟩ := bs e
      refine V_iaload (q := 28) X (TB.get tb_X1_meet 17 rfl) rfl ex21 ?_
      refine V_ior (q := 29) X (TB.get tb_X1_meet 18 rfl) rfl ?_
      refine V_goto (q := 45) X (TB.get tb_X1_meet 19 rfl) rfl ?_
      exact Jj7 _ e
set_option maxRecDepth 100000 in
set_option maxHeartbeats 4000000 in
theorem ok_X0_arrive (fu : Nat) (a0 : Nat) (a1 : Int32) (h : Hp) (res : Hp) (e : MX0_arrive fu a0 a1 h = some res) : CK yX0_arrive cX0_arrive 2 none 2 [.ref a0, .int a1] h none res ∧ (h.1 a0).1 = 0 := by
  obtain ⟨hcl, e⟩ := h_g_inv e
  refine ⟨CK_of pn_RX0 cm_X0_arrive (Nat.le_of_ble_eq_true rfl) ?_, hcl⟩
  intro l D tc B nn p en s m args below meth c X hr hlk
  replace X : CX p (rmD 2) s m args c cX0_arrive 2 RX0 D tc 2 := X
  show V p l en (rmD 2) s m args below meth c 2 D tc B nn (Ar B nn) s.heap 0 0 (MQ below (QC D tc B nn (Ar B nn) none res) args s 0 0 (Ar B nn)) h 0 [(0, .ref a0), (1, .int a1)] []
  refine V_aload_n (q := 1) X (TB.get tb_X0_arrive 0 rfl) rfl rfl rfl ?_
  obtain ⟨x1, ex1, e⟩ := bs e
  refine V_getR (q := 4) X (TB.get tb_X0_arrive 1 rfl) rfl lf_RX0_17 ex1 ?_
  refine V_iload_n (q := 5) X (TB.get tb_X0_arrive 2 rfl) rfl rfl rfl ?_
  obtain ⟨x2, ex2, e⟩ := bs e
  refine V_baloadZ (q := 6) X (TB.get tb_X0_arrive 3 rfl) rfl ex2 ?_
  refine V_if_ne (q := 9) (t := 39) X (TB.get tb_X0_arrive 4 rfl) rfl rfl (fun hc => ?_) (fun hc => ?_)
  · have e := (if_neg hc).symm.trans e
    refine V_aload_n (q := 40) X (TB.get tb_X0_arrive 23 rfl) rfl rfl rfl ?_
    obtain ⟨x3, ex3, e⟩ := bs e
    refine V_getR (q := 43) X (TB.get tb_X0_arrive 24 rfl) rfl lf_RX0_11 ex3 ?_
    refine V_iload_n (q := 44) X (TB.get tb_X0_arrive 25 rfl) rfl rfl rfl ?_
    obtain ⟨x4, ex4, e⟩ := bs e
    refine V_aaload (q := 45) X (TB.get tb_X0_arrive 26 rfl) rfl ex4 ?_
    refine V_aload_n (q := 46) X (TB.get tb_X0_arrive 27 rfl) rfl rfl rfl ?_
    obtain ⟨x5, ex5, e⟩ := bs e
    refine V_getR (q := 49) X (TB.get tb_X0_arrive 28 rfl) rfl lf_RX0_29 ex5 ?_
    obtain ⟨p6, ep6, e⟩ := bs e
    refine V_callV (q := 52) (As := [.ref x5]) (rest := []) (st' := [.int p6.1]) X (TB.get tb_X0_arrive 29 rfl) rfl cv_RX0_80 (ok_X1_meet fu x4 x5 h p6 ep6).1 (ok_X1_meet fu x4 x5 h p6 ep6).2 (Nat.le_of_ble_eq_true rfl) rfl rfl (Nat.le_of_ble_eq_true rfl) rfl ?_
    refine V_if_eq (q := 55) (t := 62) X (TB.get tb_X0_arrive 30 rfl) rfl rfl (fun hc => ?_) (fun hc => ?_)
    · have e := (if_pos hc).symm.trans e
      cases e
      exact V_vret X hr hlk (TB.get tb_X0_arrive 36 rfl)
    · have e := (if_neg hc).symm.trans e
      refine V_aload_n (q := 56) X (TB.get tb_X0_arrive 31 rfl) rfl rfl rfl ?_
      obtain ⟨x7, ex7, e⟩ := bs e
      refine V_getR (q := 59) X (TB.get tb_X0_arrive 32 rfl) rfl lf_RX0_25 ex7 ?_
      refine V_iload_n (q := 60) X (TB.get tb_X0_arrive 33 rfl) rfl rfl rfl ?_
      refine V_iconst (v := 1) (q := 61) X (TB.get tb_X0_arrive 34 rfl) c_iconst_1 rfl ?_
      obtain ⟨h8, eh8, e⟩ := bs e
      refine V_bastoreZ (q := 62) X (TB.get tb_X0_arrive 35 rfl) rfl eh8 ?_
      cases e
      exact V_vret X hr hlk (TB.get tb_X0_arrive 36 rfl)
  · have e := (if_pos hc).symm.trans e
    refine V_aload_n (q := 10) X (TB.get tb_X0_arrive 5 rfl) rfl rfl rfl ?_
    refine V_getR (q := 13) X (TB.get tb_X0_arrive 6 rfl) rfl lf_RX0_17 ex1 ?_
    refine V_iload_n (q := 14) X (TB.get tb_X0_arrive 7 rfl) rfl rfl rfl ?_
    refine V_iconst (v := 1) (q := 15) X (TB.get tb_X0_arrive 8 rfl) c_iconst_1 rfl ?_
    obtain ⟨h9, eh9, e⟩ := bs e
    refine V_bastoreZ (q := 16) X (TB.get tb_X0_arrive 9 rfl) rfl eh9 ?_
    refine V_aload_n (q := 17) X (TB.get tb_X0_arrive 10 rfl) rfl rfl rfl ?_
    obtain ⟨x10, ex10, e⟩ := bs e
    refine V_getR (q := 20) X (TB.get tb_X0_arrive 11 rfl) rfl lf_RX0_25 ex10 ?_
    refine V_iload_n (q := 21) X (TB.get tb_X0_arrive 12 rfl) rfl rfl rfl ?_
    refine V_iconst (v := 1) (q := 22) X (TB.get tb_X0_arrive 13 rfl) c_iconst_1 rfl ?_
    obtain ⟨h11, eh11, e⟩ := bs e
    refine V_bastoreZ (q := 23) X (TB.get tb_X0_arrive 14 rfl) rfl eh11 ?_
    refine V_aload_n (q := 24) X (TB.get tb_X0_arrive 15 rfl) rfl rfl rfl ?_
    obtain ⟨x12, ex12, e⟩ := bs e
    refine V_getR (q := 27) X (TB.get tb_X0_arrive 16 rfl) rfl lf_RX0_11 ex12 ?_
    refine V_iload_n (q := 28) X (TB.get tb_X0_arrive 17 rfl) rfl rfl rfl ?_
    obtain ⟨x13, ex13, e⟩ := bs e
    refine V_aaload (q := 29) X (TB.get tb_X0_arrive 18 rfl) rfl ex13 ?_
    refine V_aload_n (q := 30) X (TB.get tb_X0_arrive 19 rfl) rfl rfl rfl ?_
    obtain ⟨x14, ex14, e⟩ := bs e
    refine V_getR (q := 33) X (TB.get tb_X0_arrive 20 rfl) rfl lf_RX0_29 ex14 ?_
    obtain ⟨h15, eh15, e⟩ := bs e
    refine V_callV (q := 36) (As := [.ref x14]) (rest := []) (st' := []) X (TB.get tb_X0_arrive 21 rfl) rfl cv_RX0_63 (ok_X1_copyFrom x13 x14 h11 h15 eh15).1 (ok_X1_copyFrom x13 x14 h11 h15 eh15).2 (Nat.le_of_ble_eq_true rfl) rfl rfl (Nat.le_of_ble_eq_true rfl) rfl ?_
    refine V_goto (q := 62) X (TB.get tb_X0_arrive 22 rfl) rfl ?_
    cases e
    exact V_vret X hr hlk (TB.get tb_X0_arrive 36 rfl)
set_option maxRecDepth 100000 in
set_option maxHeartbeats 4000000 in
theorem ok_X1_letGo (fu : Nat) (a0 : Nat) (a1 : Int32) (h : Hp) (res : Hp) (e : MX1_letGo fu a0 a1 h = some res) : CK yX1_letGo cX1_letGo 3 none 0 [.ref a0, .int a1] h none res ∧ (h.1 a0).1 = 1 := by
  obtain ⟨hcl, e⟩ := h_g_inv e
  refine ⟨CK_of pn_RX1 cm_X1_letGo (Nat.le_of_ble_eq_true rfl) ?_, hcl⟩
  intro l D tc B nn p en s m args below meth c X hr hlk
  replace X : CX p (rmD 0) s m args c cX1_letGo 3 RX1 D tc 0 := X
  show V p l en (rmD 0) s m args below meth c 3 D tc B nn (Ar B nn) s.heap 0 0 (MQ below (QC D tc B nn (Ar B nn) none res) args s 0 0 (Ar B nn)) h 0 [(0, .ref a0), (1, .int a1)] []
  refine V_iconst (v := 0) (q := 1) X (TB.get tb_X1_letGo 0 rfl) c_iconst_0 rfl ?_
  refine V_istore_n (q := 2) (lv' := [(2, .int (0 : Int32)), (0, .ref a0), (1, .int a1)]) X (TB.get tb_X1_letGo 1 rfl) rfl rfl (Nat.le_of_ble_eq_true rfl) rfl ?_
  refine jn_elim (P := (fun (k : Hp → Option (Hp)) => ∀ (h1 : Hp), k h1 = some res → V p l en (rmD 0) s m args below meth c 3 D tc B nn (Ar B nn) s.heap 0 0 (MQ below (QC D tc B nn (Ar B nn) none res) args s 0 0 (Ar B nn)) h1 48 [(0, .ref a0), (1, .int a1)] [])) e ?_ (fun j2 Jj2 e => ?_)
  · intro h1 e
    refine V_aload_n (q := 49) X (TB.get tb_X1_letGo 35 rfl) rfl rfl rfl ?_
    obtain ⟨x3, ex3, e⟩ := bs e
    refine V_getR (q := 52) X (TB.get tb_X1_letGo 36 rfl) rfl lf_RX1_11 ex3 ?_
    refine V_iconst (v := 0) (q := 53) X (TB.get tb_X1_letGo 37 rfl) c_iconst_0 rfl ?_
    refine V_iload_n (q := 54) X (TB.get tb_X1_letGo 38 rfl) rfl rfl rfl ?_
    refine V_iadd (q := 55) X (TB.get tb_X1_letGo 39 rfl) rfl ?_
    refine V_iconst (v := 1) (q := 56) X (TB.get tb_X1_letGo 40 rfl) c_iconst_1 rfl ?_
    obtain ⟨h4, eh4, e⟩ := bs e
    refine V_iastore (q := 57) X (TB.get tb_X1_letGo 41 rfl) rfl eh4 ?_
    refine V_aload_n (q := 58) X (TB.get tb_X1_letGo 42 rfl) rfl rfl rfl ?_
    obtain ⟨x5, ex5, e⟩ := bs e
    refine V_getR (q := 61) X (TB.get tb_X1_letGo 43 rfl) rfl lf_RX1_11 ex5 ?_
    refine V_bipush (v := 6) (q := 63) X (TB.get tb_X1_letGo 44 rfl) c_bipush_6 rfl ?_
    refine V_iload_n (q := 64) X (TB.get tb_X1_letGo 45 rfl) rfl rfl rfl ?_
    refine V_iadd (q := 65) X (TB.get tb_X1_letGo 46 rfl) rfl ?_
    refine V_iconst (v := 0) (q := 66) X (TB.get tb_X1_letGo 47 rfl) c_iconst_0 rfl ?_
    obtain ⟨h6, eh6, e⟩ := bs e
    refine V_iastore (q := 67) X (TB.get tb_X1_letGo 48 rfl) rfl eh6 ?_
    refine V_aload_n (q := 68) X (TB.get tb_X1_letGo 49 rfl) rfl rfl rfl ?_
    obtain ⟨x7, ex7, e⟩ := bs e
    refine V_getR (q := 71) X (TB.get tb_X1_letGo 50 rfl) rfl lf_RX1_11 ex7 ?_
    refine V_bipush (v := 12) (q := 73) X (TB.get tb_X1_letGo 51 rfl) c_bipush_12 rfl ?_
    refine V_iload_n (q := 74) X (TB.get tb_X1_letGo 52 rfl) rfl rfl rfl ?_
    refine V_iadd (q := 75) X (TB.get tb_X1_letGo 53 rfl) rfl ?_
    refine V_iconst (v := 0) (q := 76) X (TB.get tb_X1_letGo 54 rfl) c_iconst_0 rfl ?_
    obtain ⟨h8, eh8, e⟩ := bs e
    refine V_iastore (q := 77) X (TB.get tb_X1_letGo 55 rfl) rfl eh8 ?_
    refine V_aload_n (q := 78) X (TB.get tb_X1_letGo 56 rfl) rfl rfl rfl ?_
    obtain ⟨x9, ex9, e⟩ := bs e
    refine V_getR (q := 81) X (TB.get tb_X1_letGo 57 rfl) rfl lf_RX1_11 ex9 ?_
    refine V_bipush (v := 18) (q := 83) X (TB.get tb_X1_letGo 58 rfl) c_bipush_18 rfl ?_
    refine V_iload_n (q := 84) X (TB.get tb_X1_letGo 59 rfl) rfl rfl rfl ?_
    refine V_iadd (q := 85) X (TB.get tb_X1_letGo 60 rfl) rfl ?_
    refine V_iconst (v := 0) (q := 86) X (TB.get tb_X1_letGo 61 rfl) c_iconst_0 rfl ?_
    obtain ⟨h10, eh10, e⟩ := bs e
    refine V_iastore (q := 87) X (TB.get tb_X1_letGo 62 rfl) rfl eh10 ?_
    cases e
    exact V_vret X hr hlk (TB.get tb_X1_letGo 63 rfl)
  refine V_sub (lv' := [(0, .ref a0), (1, .int a1), (2, .int (0 : Int32))]) [1, 2, 0] rfl ?_
  refine wh2_elim (P := fun v11 h12 => V p l en (rmD 0) s m args below meth c 3 D tc B nn (Ar B nn) s.heap 0 0 (MQ below (QC D tc B nn (Ar B nn) none res) args s 0 0 (Ar B nn)) h12 2 [(0, .ref a0), (1, .int a1), (2, .int v11)] []) (f := fu) ?_ e
  intro self13 v11 h12 ihself13 e
  unfold MX1_letGo_B2 at e
  refine V_iload_n (q := 3) X (TB.get tb_X1_letGo 2 rfl) rfl rfl rfl ?_
  refine V_bipush (v := 6) (q := 5) X (TB.get tb_X1_letGo 3 rfl) c_bipush_6 rfl ?_
  refine V_icmp_ge (q := 8) (t := 48) X (TB.get tb_X1_letGo 4 rfl) rfl rfl (fun hc => ?_) (fun hc => ?_)
  · have e := (if_pos hc).symm.trans e
    refine V_sub (lv' := [(0, .ref a0), (1, .int a1)]) [0, 1] rfl ?_
    exact Jj2 _ e
  · have e := (if_neg hc).symm.trans e
    refine V_aload_n (q := 9) X (TB.get tb_X1_letGo 5 rfl) rfl rfl rfl ?_
    obtain ⟨x14, ex14, e⟩ := bs e
    refine V_getR (q := 12) X (TB.get tb_X1_letGo 6 rfl) rfl lf_RX1_11 ex14 ?_
    refine V_bipush (v := 12) (q := 14) X (TB.get tb_X1_letGo 7 rfl) c_bipush_12 rfl ?_
    refine V_iload_n (q := 15) X (TB.get tb_X1_letGo 8 rfl) rfl rfl rfl ?_
    refine V_iadd (q := 16) X (TB.get tb_X1_letGo 9 rfl) rfl ?_
    refine V_dup2 (q := 17) X (TB.get tb_X1_letGo 10 rfl) rfl rfl rfl ?_
    obtain ⟨x15, ex15, e⟩ := bs e
    refine V_iaload (q := 18) X (TB.get tb_X1_letGo 11 rfl) rfl ex15 ?_
    refine V_iconst (v := 1) (q := 19) X (TB.get tb_X1_letGo 12 rfl) c_iconst_1 rfl ?_
    refine V_iload_n (q := 20) X (TB.get tb_X1_letGo 13 rfl) rfl rfl rfl ?_
    refine V_ishl (q := 21) X (TB.get tb_X1_letGo 14 rfl) rfl ?_
    refine V_iconst (v := -1) (q := 22) X (TB.get tb_X1_letGo 15 rfl) c_iconst_m1 rfl ?_
    refine V_ixor (q := 23) X (TB.get tb_X1_letGo 16 rfl) rfl ?_
    refine V_iand (q := 24) X (TB.get tb_X1_letGo 17 rfl) rfl ?_
    obtain ⟨h16, eh16, e⟩ := bs e
    refine V_iastore (q := 25) X (TB.get tb_X1_letGo 18 rfl) rfl eh16 ?_
    refine V_aload_n (q := 26) X (TB.get tb_X1_letGo 19 rfl) rfl rfl rfl ?_
    obtain ⟨x17, ex17, e⟩ := bs e
    refine V_getR (q := 29) X (TB.get tb_X1_letGo 20 rfl) rfl lf_RX1_11 ex17 ?_
    refine V_bipush (v := 18) (q := 31) X (TB.get tb_X1_letGo 21 rfl) c_bipush_18 rfl ?_
    refine V_iload_n (q := 32) X (TB.get tb_X1_letGo 22 rfl) rfl rfl rfl ?_
    refine V_iadd (q := 33) X (TB.get tb_X1_letGo 23 rfl) rfl ?_
    refine V_dup2 (q := 34) X (TB.get tb_X1_letGo 24 rfl) rfl rfl rfl ?_
    obtain ⟨x18, ex18, e⟩ := bs e
    refine V_iaload (q := 35) X (TB.get tb_X1_letGo 25 rfl) rfl ex18 ?_
    refine V_iconst (v := 1) (q := 36) X (TB.get tb_X1_letGo 26 rfl) c_iconst_1 rfl ?_
    refine V_iload_n (q := 37) X (TB.get tb_X1_letGo 27 rfl) rfl rfl rfl ?_
    refine V_ishl (q := 38) X (TB.get tb_X1_letGo 28 rfl) rfl ?_
    refine V_iconst (v := -1) (q := 39) X (TB.get tb_X1_letGo 29 rfl) c_iconst_m1 rfl ?_
    refine V_ixor (q := 40) X (TB.get tb_X1_letGo 30 rfl) rfl ?_
    refine V_iand (q := 41) X (TB.get tb_X1_letGo 31 rfl) rfl ?_
    obtain ⟨h19, eh19, e⟩ := bs e
    refine V_iastore (q := 42) X (TB.get tb_X1_letGo 32 rfl) rfl eh19 ?_
    refine V_iinc (q := 45) (v := v11 + (1 : Int32)) (lv' := [(2, .int (v11 + (1 : Int32))), (0, .ref a0), (1, .int a1)]) X (TB.get tb_X1_letGo 33 rfl) rfl rfl (by rw [c_iconst_1]) (Nat.le_of_ble_eq_true rfl) rfl ?_
    refine V_goto (q := 2) X (TB.get tb_X1_letGo 34 rfl) rfl ?_
    refine V_sub (lv' := [(0, .ref a0), (1, .int a1), (2, .int (v11 + (1 : Int32)))]) [1, 2, 0] rfl ?_
    exact ihself13 _ _ e
set_option maxRecDepth 100000 in
set_option maxHeartbeats 4000000 in
theorem ok_X1_becomeLike (fu : Nat) (a0 : Nat) (a1 : Int32) (a2 : Int32) (h : Hp) (res : Hp) (e : MX1_becomeLike fu a0 a1 a2 h = some res) : CK yX1_becomeLike cX1_becomeLike 4 none 0 [.ref a0, .int a1, .int a2] h none res ∧ (h.1 a0).1 = 1 := by
  obtain ⟨hcl, e⟩ := h_g_inv e
  refine ⟨CK_of pn_RX1 cm_X1_becomeLike (Nat.le_of_ble_eq_true rfl) ?_, hcl⟩
  intro l D tc B nn p en s m args below meth c X hr hlk
  replace X : CX p (rmD 0) s m args c cX1_becomeLike 4 RX1 D tc 0 := X
  show V p l en (rmD 0) s m args below meth c 4 D tc B nn (Ar B nn) s.heap 0 0 (MQ below (QC D tc B nn (Ar B nn) none res) args s 0 0 (Ar B nn)) h 0 [(0, .ref a0), (1, .int a1), (2, .int a2)] []
  refine V_aload_n (q := 1) X (TB.get tb_X1_becomeLike 0 rfl) rfl rfl rfl ?_
  obtain ⟨x1, ex1, e⟩ := bs e
  refine V_getR (q := 4) X (TB.get tb_X1_becomeLike 1 rfl) rfl lf_RX1_11 ex1 ?_
  refine V_bipush (v := 6) (q := 6) X (TB.get tb_X1_becomeLike 2 rfl) c_bipush_6 rfl ?_
  refine V_iload_n (q := 7) X (TB.get tb_X1_becomeLike 3 rfl) rfl rfl rfl ?_
  refine V_iadd (q := 8) X (TB.get tb_X1_becomeLike 4 rfl) rfl ?_
  refine V_aload_n (q := 9) X (TB.get tb_X1_becomeLike 5 rfl) rfl rfl rfl ?_
  refine V_getR (q := 12) X (TB.get tb_X1_becomeLike 6 rfl) rfl lf_RX1_11 ex1 ?_
  refine V_bipush (v := 6) (q := 14) X (TB.get tb_X1_becomeLike 7 rfl) c_bipush_6 rfl ?_
  refine V_iload_n (q := 15) X (TB.get tb_X1_becomeLike 8 rfl) rfl rfl rfl ?_
  refine V_iadd (q := 16) X (TB.get tb_X1_becomeLike 9 rfl) rfl ?_
  obtain ⟨x2, ex2, e⟩ := bs e
  refine V_iaload (q := 17) X (TB.get tb_X1_becomeLike 10 rfl) rfl ex2 ?_
  obtain ⟨h3, eh3, e⟩ := bs e
  refine V_iastore (q := 18) X (TB.get tb_X1_becomeLike 11 rfl) rfl eh3 ?_
  refine V_aload_n (q := 19) X (TB.get tb_X1_becomeLike 12 rfl) rfl rfl rfl ?_
  obtain ⟨x4, ex4, e⟩ := bs e
  refine V_getR (q := 22) X (TB.get tb_X1_becomeLike 13 rfl) rfl lf_RX1_11 ex4 ?_
  refine V_bipush (v := 12) (q := 24) X (TB.get tb_X1_becomeLike 14 rfl) c_bipush_12 rfl ?_
  refine V_iload_n (q := 25) X (TB.get tb_X1_becomeLike 15 rfl) rfl rfl rfl ?_
  refine V_iadd (q := 26) X (TB.get tb_X1_becomeLike 16 rfl) rfl ?_
  refine V_aload_n (q := 27) X (TB.get tb_X1_becomeLike 17 rfl) rfl rfl rfl ?_
  refine V_getR (q := 30) X (TB.get tb_X1_becomeLike 18 rfl) rfl lf_RX1_11 ex4 ?_
  refine V_bipush (v := 12) (q := 32) X (TB.get tb_X1_becomeLike 19 rfl) c_bipush_12 rfl ?_
  refine V_iload_n (q := 33) X (TB.get tb_X1_becomeLike 20 rfl) rfl rfl rfl ?_
  refine V_iadd (q := 34) X (TB.get tb_X1_becomeLike 21 rfl) rfl ?_
  obtain ⟨x5, ex5, e⟩ := bs e
  refine V_iaload (q := 35) X (TB.get tb_X1_becomeLike 22 rfl) rfl ex5 ?_
  obtain ⟨h6, eh6, e⟩ := bs e
  refine V_iastore (q := 36) X (TB.get tb_X1_becomeLike 23 rfl) rfl eh6 ?_
  refine V_aload_n (q := 37) X (TB.get tb_X1_becomeLike 24 rfl) rfl rfl rfl ?_
  obtain ⟨x7, ex7, e⟩ := bs e
  refine V_getR (q := 40) X (TB.get tb_X1_becomeLike 25 rfl) rfl lf_RX1_11 ex7 ?_
  refine V_bipush (v := 18) (q := 42) X (TB.get tb_X1_becomeLike 26 rfl) c_bipush_18 rfl ?_
  refine V_iload_n (q := 43) X (TB.get tb_X1_becomeLike 27 rfl) rfl rfl rfl ?_
  refine V_iadd (q := 44) X (TB.get tb_X1_becomeLike 28 rfl) rfl ?_
  refine V_aload_n (q := 45) X (TB.get tb_X1_becomeLike 29 rfl) rfl rfl rfl ?_
  refine V_getR (q := 48) X (TB.get tb_X1_becomeLike 30 rfl) rfl lf_RX1_11 ex7 ?_
  refine V_bipush (v := 18) (q := 50) X (TB.get tb_X1_becomeLike 31 rfl) c_bipush_18 rfl ?_
  refine V_iload_n (q := 51) X (TB.get tb_X1_becomeLike 32 rfl) rfl rfl rfl ?_
  refine V_iadd (q := 52) X (TB.get tb_X1_becomeLike 33 rfl) rfl ?_
  obtain ⟨x8, ex8, e⟩ := bs e
  refine V_iaload (q := 53) X (TB.get tb_X1_becomeLike 34 rfl) rfl ex8 ?_
  obtain ⟨h9, eh9, e⟩ := bs e
  refine V_iastore (q := 54) X (TB.get tb_X1_becomeLike 35 rfl) rfl eh9 ?_
  refine V_iconst (v := 0) (q := 55) X (TB.get tb_X1_becomeLike 36 rfl) c_iconst_0 rfl ?_
  refine V_istore_n (q := 56) (lv' := [(3, .int (0 : Int32)), (0, .ref a0), (1, .int a1), (2, .int a2)]) X (TB.get tb_X1_becomeLike 37 rfl) rfl rfl (Nat.le_of_ble_eq_true rfl) rfl ?_
  refine V_sub (lv' := [(0, .ref a0), (1, .int a1), (3, .int (0 : Int32))]) [1, 2, 0] rfl ?_
  refine wh2_elim (P := fun v10 h11 => V p l en (rmD 0) s m args below meth c 4 D tc B nn (Ar B nn) s.heap 0 0 (MQ below (QC D tc B nn (Ar B nn) none res) args s 0 0 (Ar B nn)) h11 56 [(0, .ref a0), (1, .int a1), (3, .int v10)] []) (f := fu) ?_ e
  intro self12 v10 h11 ihself12 e
  unfold MX1_becomeLike_B56 at e
  refine V_iload_n (q := 57) X (TB.get tb_X1_becomeLike 38 rfl) rfl rfl rfl ?_
  refine V_bipush (v := 6) (q := 59) X (TB.get tb_X1_becomeLike 39 rfl) c_bipush_6 rfl ?_
  refine V_icmp_ge (q := 62) (t := 122) X (TB.get tb_X1_becomeLike 40 rfl) rfl rfl (fun hc => ?_) (fun hc => ?_)
  · have e := (if_pos hc).symm.trans e
    cases e
    exact V_vret X hr hlk (TB.get tb_X1_becomeLike 85 rfl)
  · have e := (if_neg hc).symm.trans e
    refine V_aload_n (q := 63) X (TB.get tb_X1_becomeLike 41 rfl) rfl rfl rfl ?_
    obtain ⟨x13, ex13, e⟩ := bs e
    refine V_getR (q := 66) X (TB.get tb_X1_becomeLike 42 rfl) rfl lf_RX1_11 ex13 ?_
    refine V_bipush (v := 12) (q := 68) X (TB.get tb_X1_becomeLike 43 rfl) c_bipush_12 rfl ?_
    refine V_iload_n (q := 69) X (TB.get tb_X1_becomeLike 44 rfl) rfl rfl rfl ?_
    refine V_iadd (q := 70) X (TB.get tb_X1_becomeLike 45 rfl) rfl ?_
    refine V_dup2 (q := 71) X (TB.get tb_X1_becomeLike 46 rfl) rfl rfl rfl ?_
    obtain ⟨x14, ex14, e⟩ := bs e
    refine V_iaload (q := 72) X (TB.get tb_X1_becomeLike 47 rfl) rfl ex14 ?_
    refine V_aload_n (q := 73) X (TB.get tb_X1_becomeLike 48 rfl) rfl rfl rfl ?_
    refine V_getR (q := 76) X (TB.get tb_X1_becomeLike 49 rfl) rfl lf_RX1_11 ex13 ?_
    refine V_bipush (v := 12) (q := 78) X (TB.get tb_X1_becomeLike 50 rfl) c_bipush_12 rfl ?_
    refine V_iload_n (q := 79) X (TB.get tb_X1_becomeLike 51 rfl) rfl rfl rfl ?_
    refine V_iadd (q := 80) X (TB.get tb_X1_becomeLike 52 rfl) rfl ?_
    obtain ⟨x15, ex15, e⟩ := bs e
    refine V_iaload (q := 81) X (TB.get tb_X1_becomeLike 53 rfl) rfl ex15 ?_
    refine V_iload_n (q := 82) X (TB.get tb_X1_becomeLike 54 rfl) rfl rfl rfl ?_
    refine V_ishr (q := 83) X (TB.get tb_X1_becomeLike 55 rfl) rfl ?_
    refine V_iconst (v := 1) (q := 84) X (TB.get tb_X1_becomeLike 56 rfl) c_iconst_1 rfl ?_
    refine V_iand (q := 85) X (TB.get tb_X1_becomeLike 57 rfl) rfl ?_
    refine V_iload_n (q := 86) X (TB.get tb_X1_becomeLike 58 rfl) rfl rfl rfl ?_
    refine V_ishl (q := 87) X (TB.get tb_X1_becomeLike 59 rfl) rfl ?_
    refine V_ior (q := 88) X (TB.get tb_X1_becomeLike 60 rfl) rfl ?_
    obtain ⟨h16, eh16, e⟩ := bs e
    refine V_iastore (q := 89) X (TB.get tb_X1_becomeLike 61 rfl) rfl eh16 ?_
    refine V_aload_n (q := 90) X (TB.get tb_X1_becomeLike 62 rfl) rfl rfl rfl ?_
    obtain ⟨x17, ex17, e⟩ := bs e
    refine V_getR (q := 93) X (TB.get tb_X1_becomeLike 63 rfl) rfl lf_RX1_11 ex17 ?_
    refine V_bipush (v := 18) (q := 95) X (TB.get tb_X1_becomeLike 64 rfl) c_bipush_18 rfl ?_
    refine V_iload_n (q := 96) X (TB.get tb_X1_becomeLike 65 rfl) rfl rfl rfl ?_
    refine V_iadd (q := 97) X (TB.get tb_X1_becomeLike 66 rfl) rfl ?_
    refine V_dup2 (q := 98) X (TB.get tb_X1_becomeLike 67 rfl) rfl rfl rfl ?_
    obtain ⟨x18, ex18, e⟩ := bs e
    refine V_iaload (q := 99) X (TB.get tb_X1_becomeLike 68 rfl) rfl ex18 ?_
    refine V_aload_n (q := 100) X (TB.get tb_X1_becomeLike 69 rfl) rfl rfl rfl ?_
    refine V_getR (q := 103) X (TB.get tb_X1_becomeLike 70 rfl) rfl lf_RX1_11 ex17 ?_
    refine V_bipush (v := 18) (q := 105) X (TB.get tb_X1_becomeLike 71 rfl) c_bipush_18 rfl ?_
    refine V_iload_n (q := 106) X (TB.get tb_X1_becomeLike 72 rfl) rfl rfl rfl ?_
    refine V_iadd (q := 107) X (TB.get tb_X1_becomeLike 73 rfl) rfl ?_
    obtain ⟨x19, ex19, e⟩ := bs e
    refine V_iaload (q := 108) X (TB.get tb_X1_becomeLike 74 rfl) rfl ex19 ?_
    refine V_iload_n (q := 109) X (TB.get tb_X1_becomeLike 75 rfl) rfl rfl rfl ?_
    refine V_ishr (q := 110) X (TB.get tb_X1_becomeLike 76 rfl) rfl ?_
    refine V_iconst (v := 1) (q := 111) X (TB.get tb_X1_becomeLike 77 rfl) c_iconst_1 rfl ?_
    refine V_iand (q := 112) X (TB.get tb_X1_becomeLike 78 rfl) rfl ?_
    refine V_iload_n (q := 113) X (TB.get tb_X1_becomeLike 79 rfl) rfl rfl rfl ?_
    refine V_ishl (q := 114) X (TB.get tb_X1_becomeLike 80 rfl) rfl ?_
    refine V_ior (q := 115) X (TB.get tb_X1_becomeLike 81 rfl) rfl ?_
    obtain ⟨h20, eh20, e⟩ := bs e
    refine V_iastore (q := 116) X (TB.get tb_X1_becomeLike 82 rfl) rfl eh20 ?_
    refine V_iinc (q := 119) (v := v10 + (1 : Int32)) (lv' := [(3, .int (v10 + (1 : Int32))), (0, .ref a0), (1, .int a1)]) X (TB.get tb_X1_becomeLike 83 rfl) rfl rfl (by rw [c_iconst_1]) (Nat.le_of_ble_eq_true rfl) rfl ?_
    refine V_goto (q := 56) X (TB.get tb_X1_becomeLike 84 rfl) rfl ?_
    refine V_sub (lv' := [(0, .ref a0), (1, .int a1), (3, .int (v10 + (1 : Int32)))]) [1, 2, 0] rfl ?_
    exact ihself12 _ _ e
set_option maxRecDepth 100000 in
set_option maxHeartbeats 4000000 in
theorem ok_X1_makeOne (a0 : Nat) (a1 : Int32) (a2 : Int32) (h : Hp) (res : Hp) (e : MX1_makeOne a0 a1 a2 h = some res) : CK yX1_makeOne cX1_makeOne 3 none 0 [.ref a0, .int a1, .int a2] h none res ∧ (h.1 a0).1 = 1 := by
  obtain ⟨hcl, e⟩ := h_g_inv e
  refine ⟨CK_of pn_RX1 cm_X1_makeOne (Nat.le_of_ble_eq_true rfl) ?_, hcl⟩
  intro l D tc B nn p en s m args below meth c X hr hlk
  replace X : CX p (rmD 0) s m args c cX1_makeOne 3 RX1 D tc 0 := X
  show V p l en (rmD 0) s m args below meth c 3 D tc B nn (Ar B nn) s.heap 0 0 (MQ below (QC D tc B nn (Ar B nn) none res) args s 0 0 (Ar B nn)) h 0 [(0, .ref a0), (1, .int a1), (2, .int a2)] []
  refine V_aload_n (q := 1) X (TB.get tb_X1_makeOne 0 rfl) rfl rfl rfl ?_
  obtain ⟨x1, ex1, e⟩ := bs e
  refine V_getR (q := 4) X (TB.get tb_X1_makeOne 1 rfl) rfl lf_RX1_11 ex1 ?_
  refine V_bipush (v := 12) (q := 6) X (TB.get tb_X1_makeOne 2 rfl) c_bipush_12 rfl ?_
  refine V_iload_n (q := 7) X (TB.get tb_X1_makeOne 3 rfl) rfl rfl rfl ?_
  refine V_iadd (q := 8) X (TB.get tb_X1_makeOne 4 rfl) rfl ?_
  refine V_dup2 (q := 9) X (TB.get tb_X1_makeOne 5 rfl) rfl rfl rfl ?_
  obtain ⟨x2, ex2, e⟩ := bs e
  refine V_iaload (q := 10) X (TB.get tb_X1_makeOne 6 rfl) rfl ex2 ?_
  refine V_iconst (v := 1) (q := 11) X (TB.get tb_X1_makeOne 7 rfl) c_iconst_1 rfl ?_
  refine V_iload_n (q := 12) X (TB.get tb_X1_makeOne 8 rfl) rfl rfl rfl ?_
  refine V_ishl (q := 13) X (TB.get tb_X1_makeOne 9 rfl) rfl ?_
  refine V_ior (q := 14) X (TB.get tb_X1_makeOne 10 rfl) rfl ?_
  obtain ⟨h3, eh3, e⟩ := bs e
  refine V_iastore (q := 15) X (TB.get tb_X1_makeOne 11 rfl) rfl eh3 ?_
  refine V_aload_n (q := 16) X (TB.get tb_X1_makeOne 12 rfl) rfl rfl rfl ?_
  obtain ⟨x4, ex4, e⟩ := bs e
  refine V_getR (q := 19) X (TB.get tb_X1_makeOne 13 rfl) rfl lf_RX1_11 ex4 ?_
  refine V_bipush (v := 18) (q := 21) X (TB.get tb_X1_makeOne 14 rfl) c_bipush_18 rfl ?_
  refine V_iload_n (q := 22) X (TB.get tb_X1_makeOne 15 rfl) rfl rfl rfl ?_
  refine V_iadd (q := 23) X (TB.get tb_X1_makeOne 16 rfl) rfl ?_
  refine V_dup2 (q := 24) X (TB.get tb_X1_makeOne 17 rfl) rfl rfl rfl ?_
  obtain ⟨x5, ex5, e⟩ := bs e
  refine V_iaload (q := 25) X (TB.get tb_X1_makeOne 18 rfl) rfl ex5 ?_
  refine V_iconst (v := 1) (q := 26) X (TB.get tb_X1_makeOne 19 rfl) c_iconst_1 rfl ?_
  refine V_iload_n (q := 27) X (TB.get tb_X1_makeOne 20 rfl) rfl rfl rfl ?_
  refine V_ishl (q := 28) X (TB.get tb_X1_makeOne 21 rfl) rfl ?_
  refine V_ior (q := 29) X (TB.get tb_X1_makeOne 22 rfl) rfl ?_
  obtain ⟨h6, eh6, e⟩ := bs e
  refine V_iastore (q := 30) X (TB.get tb_X1_makeOne 23 rfl) rfl eh6 ?_
  refine V_aload_n (q := 31) X (TB.get tb_X1_makeOne 24 rfl) rfl rfl rfl ?_
  obtain ⟨x7, ex7, e⟩ := bs e
  refine V_getR (q := 34) X (TB.get tb_X1_makeOne 25 rfl) rfl lf_RX1_11 ex7 ?_
  refine V_bipush (v := 12) (q := 36) X (TB.get tb_X1_makeOne 26 rfl) c_bipush_12 rfl ?_
  refine V_iload_n (q := 37) X (TB.get tb_X1_makeOne 27 rfl) rfl rfl rfl ?_
  refine V_iadd (q := 38) X (TB.get tb_X1_makeOne 28 rfl) rfl ?_
  refine V_dup2 (q := 39) X (TB.get tb_X1_makeOne 29 rfl) rfl rfl rfl ?_
  obtain ⟨x8, ex8, e⟩ := bs e
  refine V_iaload (q := 40) X (TB.get tb_X1_makeOne 30 rfl) rfl ex8 ?_
  refine V_iconst (v := 1) (q := 41) X (TB.get tb_X1_makeOne 31 rfl) c_iconst_1 rfl ?_
  refine V_iload_n (q := 42) X (TB.get tb_X1_makeOne 32 rfl) rfl rfl rfl ?_
  refine V_ishl (q := 43) X (TB.get tb_X1_makeOne 33 rfl) rfl ?_
  refine V_ior (q := 44) X (TB.get tb_X1_makeOne 34 rfl) rfl ?_
  obtain ⟨h9, eh9, e⟩ := bs e
  refine V_iastore (q := 45) X (TB.get tb_X1_makeOne 35 rfl) rfl eh9 ?_
  refine V_aload_n (q := 46) X (TB.get tb_X1_makeOne 36 rfl) rfl rfl rfl ?_
  obtain ⟨x10, ex10, e⟩ := bs e
  refine V_getR (q := 49) X (TB.get tb_X1_makeOne 37 rfl) rfl lf_RX1_11 ex10 ?_
  refine V_bipush (v := 18) (q := 51) X (TB.get tb_X1_makeOne 38 rfl) c_bipush_18 rfl ?_
  refine V_iload_n (q := 52) X (TB.get tb_X1_makeOne 39 rfl) rfl rfl rfl ?_
  refine V_iadd (q := 53) X (TB.get tb_X1_makeOne 40 rfl) rfl ?_
  refine V_dup2 (q := 54) X (TB.get tb_X1_makeOne 41 rfl) rfl rfl rfl ?_
  obtain ⟨x11, ex11, e⟩ := bs e
  refine V_iaload (q := 55) X (TB.get tb_X1_makeOne 42 rfl) rfl ex11 ?_
  refine V_iconst (v := 1) (q := 56) X (TB.get tb_X1_makeOne 43 rfl) c_iconst_1 rfl ?_
  refine V_iload_n (q := 57) X (TB.get tb_X1_makeOne 44 rfl) rfl rfl rfl ?_
  refine V_ishl (q := 58) X (TB.get tb_X1_makeOne 45 rfl) rfl ?_
  refine V_ior (q := 59) X (TB.get tb_X1_makeOne 46 rfl) rfl ?_
  obtain ⟨h12, eh12, e⟩ := bs e
  refine V_iastore (q := 60) X (TB.get tb_X1_makeOne 47 rfl) rfl eh12 ?_
  cases e
  exact V_vret X hr hlk (TB.get tb_X1_makeOne 48 rfl)
set_option maxRecDepth 100000 in
set_option maxHeartbeats 4000000 in
theorem ok_X1_lookForWhole (a0 : Int32) (h : Hp) (res : Int32) (e : MX1_lookForWhole a0 = some res) : CK yX1_lookForWhole cX1_lookForWhole 1 (some .int) 0 [.int a0] h (some (.int res)) h := by
  unfold MX1_lookForWhole at e
  refine CK_of pn_RX1 cm_X1_lookForWhole (Nat.le_of_ble_eq_true rfl) ?_
  intro l D tc B nn p en s m args below meth c X hr hlk
  replace X : CX p (rmD 0) s m args c cX1_lookForWhole 1 RX1 D tc 0 := X
  show V p l en (rmD 0) s m args below meth c 1 D tc B nn (Ar B nn) s.heap 0 0 (MQ below (QC D tc B nn (Ar B nn) (some (.int res)) h) args s 0 0 (Ar B nn)) h 0 [(0, .int a0)] []
  refine V_iload_n (q := 1) X (TB.get tb_X1_lookForWhole 0 rfl) rfl rfl rfl ?_
  refine V_bipush (v := 8) (q := 3) X (TB.get tb_X1_lookForWhole 1 rfl) c_bipush_8 rfl ?_
  refine V_iand (q := 4) X (TB.get tb_X1_lookForWhole 2 rfl) rfl ?_
  refine V_if_eq (q := 7) (t := 16) X (TB.get tb_X1_lookForWhole 3 rfl) rfl rfl (fun hc => ?_) (fun hc => ?_)
  · have e := (if_pos hc).symm.trans e
    refine V_iload_n (q := 17) X (TB.get tb_X1_lookForWhole 10 rfl) rfl rfl rfl ?_
    cases e
    exact V_iret X hr hlk (TB.get tb_X1_lookForWhole 11 rfl)
  · have e := (if_neg hc).symm.trans e
    refine V_iload_n (q := 8) X (TB.get tb_X1_lookForWhole 4 rfl) rfl rfl rfl ?_
    refine V_bipush (v := -9) (q := 10) X (TB.get tb_X1_lookForWhole 5 rfl) c_bipush_m9 rfl ?_
    refine V_iand (q := 11) X (TB.get tb_X1_lookForWhole 6 rfl) rfl ?_
    refine V_iconst (v := 2) (q := 12) X (TB.get tb_X1_lookForWhole 7 rfl) c_iconst_2 rfl ?_
    refine V_ior (q := 13) X (TB.get tb_X1_lookForWhole 8 rfl) rfl ?_
    refine V_goto (q := 17) X (TB.get tb_X1_lookForWhole 9 rfl) rfl ?_
    cases e
    exact V_iret X hr hlk (TB.get tb_X1_lookForWhole 11 rfl)
set_option maxRecDepth 100000 in
set_option maxHeartbeats 4000000 in
theorem ok_X1_isAlone (a0 : Nat) (a1 : Int32) (h : Hp) (res : Int32) (e : MX1_isAlone a0 a1 h = some res) : CK yX1_isAlone cX1_isAlone 2 (some .boolean) 0 [.ref a0, .int a1] h (some (.int res)) h ∧ (h.1 a0).1 = 1 := by
  obtain ⟨hcl, e⟩ := h_g_inv e
  refine ⟨CK_of pn_RX1 cm_X1_isAlone (Nat.le_of_ble_eq_true rfl) ?_, hcl⟩
  intro l D tc B nn p en s m args below meth c X hr hlk
  replace X : CX p (rmD 0) s m args c cX1_isAlone 2 RX1 D tc 0 := X
  show V p l en (rmD 0) s m args below meth c 2 D tc B nn (Ar B nn) s.heap 0 0 (MQ below (QC D tc B nn (Ar B nn) (some (.int res)) h) args s 0 0 (Ar B nn)) h 0 [(0, .ref a0), (1, .int a1)] []
  refine V_aload_n (q := 1) X (TB.get tb_X1_isAlone 0 rfl) rfl rfl rfl ?_
  obtain ⟨x1, ex1, e⟩ := bs e
  refine V_getR (q := 4) X (TB.get tb_X1_isAlone 1 rfl) rfl lf_RX1_11 ex1 ?_
  refine V_bipush (v := 18) (q := 6) X (TB.get tb_X1_isAlone 2 rfl) c_bipush_18 rfl ?_
  refine V_iload_n (q := 7) X (TB.get tb_X1_isAlone 3 rfl) rfl rfl rfl ?_
  refine V_iadd (q := 8) X (TB.get tb_X1_isAlone 4 rfl) rfl ?_
  obtain ⟨x2, ex2, e⟩ := bs e
  refine V_iaload (q := 9) X (TB.get tb_X1_isAlone 5 rfl) rfl ex2 ?_
  refine V_if_ne (q := 12) (t := 16) X (TB.get tb_X1_isAlone 6 rfl) rfl rfl (fun hc => ?_) (fun hc => ?_)
  · have e := (if_neg hc).symm.trans e
    refine V_iconst (v := 0) (q := 17) X (TB.get tb_X1_isAlone 9 rfl) c_iconst_0 rfl ?_
    cases e
    exact V_zret X hr hlk (Or.inl rfl) (TB.get tb_X1_isAlone 10 rfl)
  · have e := (if_pos hc).symm.trans e
    refine V_iconst (v := 1) (q := 13) X (TB.get tb_X1_isAlone 7 rfl) c_iconst_1 rfl ?_
    refine V_goto (q := 17) X (TB.get tb_X1_isAlone 8 rfl) rfl ?_
    cases e
    exact V_zret X hr hlk (Or.inr rfl) (TB.get tb_X1_isAlone 10 rfl)
set_option maxRecDepth 100000 in
set_option maxHeartbeats 4000000 in
theorem ok_X1_passJoin (fu : Nat) (a0 : Nat) (a1 : Int32) (a2 : Int32) (h : Hp) (res : Hp) (e : MX1_passJoin fu a0 a1 a2 h = some res) : CK yX1_passJoin cX1_passJoin 3 none 1 [.ref a0, .int a1, .int a2] h none res ∧ (h.1 a0).1 = 1 := by
  obtain ⟨hcl, e⟩ := h_g_inv e
  refine ⟨CK_of pn_RX1 cm_X1_passJoin (Nat.le_of_ble_eq_true rfl) ?_, hcl⟩
  intro l D tc B nn p en s m args below meth c X hr hlk
  replace X : CX p (rmD 1) s m args c cX1_passJoin 3 RX1 D tc 1 := X
  show V p l en (rmD 1) s m args below meth c 3 D tc B nn (Ar B nn) s.heap 0 0 (MQ below (QC D tc B nn (Ar B nn) none res) args s 0 0 (Ar B nn)) h 0 [(0, .ref a0), (1, .int a1), (2, .int a2)] []
  refine V_aload_n (q := 1) X (TB.get tb_X1_passJoin 0 rfl) rfl rfl rfl ?_
  refine V_iload_n (q := 2) X (TB.get tb_X1_passJoin 1 rfl) rfl rfl rfl ?_
  obtain ⟨h1, eh1, e⟩ := bs e
  refine V_callV (q := 5) (As := [.int a2]) (rest := []) (st' := []) X (TB.get tb_X1_passJoin 2 rfl) rfl cv_RX1_100 (ok_X1_letGo fu a0 a2 h h1 eh1).1 (ok_X1_letGo fu a0 a2 h h1 eh1).2 (Nat.le_of_ble_eq_true rfl) rfl rfl (Nat.le_of_ble_eq_true rfl) rfl ?_
  refine V_aload_n (q := 6) X (TB.get tb_X1_passJoin 3 rfl) rfl rfl rfl ?_
  obtain ⟨x2, ex2, e⟩ := bs e
  refine V_getR (q := 9) X (TB.get tb_X1_passJoin 4 rfl) rfl lf_RX1_11 ex2 ?_
  refine V_bipush (v := 12) (q := 11) X (TB.get tb_X1_passJoin 5 rfl) c_bipush_12 rfl ?_
  refine V_iload_n (q := 12) X (TB.get tb_X1_passJoin 6 rfl) rfl rfl rfl ?_
  refine V_iadd (q := 13) X (TB.get tb_X1_passJoin 7 rfl) rfl ?_
  obtain ⟨x3, ex3, e⟩ := bs e
  refine V_iaload (q := 14) X (TB.get tb_X1_passJoin 8 rfl) rfl ex3 ?_
  refine V_if_ne (q := 17) (t := 30) X (TB.get tb_X1_passJoin 9 rfl) rfl rfl (fun hc => ?_) (fun hc => ?_)
  · have e := (if_neg hc).symm.trans e
    refine V_aload_n (q := 31) X (TB.get tb_X1_passJoin 18 rfl) rfl rfl rfl ?_
    refine V_iload_n (q := 32) X (TB.get tb_X1_passJoin 19 rfl) rfl rfl rfl ?_
    obtain ⟨x4, ex4, e⟩ := bs e
    refine V_callV (q := 35) (As := [.int a1]) (rest := []) (st' := [.int x4]) X (TB.get tb_X1_passJoin 20 rfl) rfl cv_RX1_79 (ok_X1_isAlone a0 a1 h1 x4 ex4).1 (ok_X1_isAlone a0 a1 h1 x4 ex4).2 (Nat.le_of_ble_eq_true rfl) rfl rfl (Nat.le_of_ble_eq_true rfl) rfl ?_
    refine V_if_eq (q := 38) (t := 51) X (TB.get tb_X1_passJoin 21 rfl) rfl rfl (fun hc => ?_) (fun hc => ?_)
    · have e := (if_pos hc).symm.trans e
      cases e
      exact V_vret X hr hlk (TB.get tb_X1_passJoin 32 rfl)
    · have e := (if_neg hc).symm.trans e
      refine V_aload_n (q := 39) X (TB.get tb_X1_passJoin 22 rfl) rfl rfl rfl ?_
      refine V_getR (q := 42) X (TB.get tb_X1_passJoin 23 rfl) rfl lf_RX1_11 ex2 ?_
      refine V_iconst (v := 0) (q := 43) X (TB.get tb_X1_passJoin 24 rfl) c_iconst_0 rfl ?_
      refine V_iload_n (q := 44) X (TB.get tb_X1_passJoin 25 rfl) rfl rfl rfl ?_
      refine V_iadd (q := 45) X (TB.get tb_X1_passJoin 26 rfl) rfl ?_
      refine V_dup2 (q := 46) X (TB.get tb_X1_passJoin 27 rfl) rfl rfl rfl ?_
      obtain ⟨x5, ex5, e⟩ := bs e
      refine V_iaload (q := 47) X (TB.get tb_X1_passJoin 28 rfl) rfl ex5 ?_
      refine V_bipush (v := 8) (q := 49) X (TB.get tb_X1_passJoin 29 rfl) c_bipush_8 rfl ?_
      refine V_ior (q := 50) X (TB.get tb_X1_passJoin 30 rfl) rfl ?_
      obtain ⟨h6, eh6, e⟩ := bs e
      refine V_iastore (q := 51) X (TB.get tb_X1_passJoin 31 rfl) rfl eh6 ?_
      cases e
      exact V_vret X hr hlk (TB.get tb_X1_passJoin 32 rfl)
  · have e := (if_pos hc).symm.trans e
    refine V_aload_n (q := 18) X (TB.get tb_X1_passJoin 10 rfl) rfl rfl rfl ?_
    refine V_getR (q := 21) X (TB.get tb_X1_passJoin 11 rfl) rfl lf_RX1_11 ex2 ?_
    refine V_iconst (v := 0) (q := 22) X (TB.get tb_X1_passJoin 12 rfl) c_iconst_0 rfl ?_
    refine V_iload_n (q := 23) X (TB.get tb_X1_passJoin 13 rfl) rfl rfl rfl ?_
    refine V_iadd (q := 24) X (TB.get tb_X1_passJoin 14 rfl) rfl ?_
    refine V_bipush (v := 8) (q := 26) X (TB.get tb_X1_passJoin 15 rfl) c_bipush_8 rfl ?_
    obtain ⟨h7, eh7, e⟩ := bs e
    refine V_iastore (q := 27) X (TB.get tb_X1_passJoin 16 rfl) rfl eh7 ?_
    refine V_goto (q := 51) X (TB.get tb_X1_passJoin 17 rfl) rfl ?_
    cases e
    exact V_vret X hr hlk (TB.get tb_X1_passJoin 32 rfl)
set_option maxRecDepth 100000 in
set_option maxHeartbeats 4000000 in
theorem ok_X2_image (fu : Nat) (a0 : Nat) (a1 : Int32) (a2 : Int32) (a3 : Int32) (a4 : Int32) (h : Hp) (res : Int32) (e : MX2_image fu a0 a1 a2 a3 a4 h = some res) : CK yX2_image cX2_image 10 (some .int) 0 [.ref a0, .int a1, .int a2, .int a3, .int a4] h (some (.int res)) h ∧ (h.1 a0).1 = 2 := by
  obtain ⟨hcl, e⟩ := h_g_inv e
  refine ⟨CK_of pn_RX2 cm_X2_image (Nat.le_of_ble_eq_true rfl) ?_, hcl⟩
  intro l D tc B nn p en s m args below meth c X hr hlk
  replace X : CX p (rmD 0) s m args c cX2_image 10 RX2 D tc 0 := X
  show V p l en (rmD 0) s m args below meth c 10 D tc B nn (Ar B nn) s.heap 0 0 (MQ below (QC D tc B nn (Ar B nn) (some (.int res)) h) args s 0 0 (Ar B nn)) h 0 [(0, .ref a0), (1, .int a1), (2, .int a2), (3, .int a3), (4, .int a4)] []
  refine V_iload_n (q := 1) X (TB.get tb_X2_image 0 rfl) rfl rfl rfl ?_
  refine V_bipush (v := 6) (q := 3) X (TB.get tb_X2_image 1 rfl) c_bipush_6 rfl ?_
  refine V_imul (q := 4) X (TB.get tb_X2_image 2 rfl) rfl ?_
  refine V_iload_n (q := 5) X (TB.get tb_X2_image 3 rfl) rfl rfl rfl ?_
  refine V_iadd (q := 6) X (TB.get tb_X2_image 4 rfl) rfl ?_
  refine V_istore (q := 8) (lv' := [(5, .int ((a1 * (6 : Int32)) + a2)), (0, .ref a0), (1, .int a1), (2, .int a2), (3, .int a3), (4, .int a4)]) X (TB.get tb_X2_image 5 rfl) rfl (Nat.le_of_ble_eq_true rfl) rfl ?_
  refine V_iload_n (q := 9) X (TB.get tb_X2_image 6 rfl) rfl rfl rfl ?_
  refine V_aload_n (q := 10) X (TB.get tb_X2_image 7 rfl) rfl rfl rfl ?_
  obtain ⟨x1, ex1, e⟩ := bs e
  refine V_getR (q := 13) X (TB.get tb_X2_image 8 rfl) rfl lf_RX2_24 ex1 ?_
  refine V_iload (q := 15) X (TB.get tb_X2_image 9 rfl) rfl rfl ?_
  obtain ⟨x2, ex2, e⟩ := bs e
  refine V_iaload (q := 16) X (TB.get tb_X2_image 10 rfl) rfl ex2 ?_
  refine V_iand (q := 17) X (TB.get tb_X2_image 11 rfl) rfl ?_
  refine V_istore (q := 19) (lv' := [(6, .int (a3 &&& x2)), (5, .int ((a1 * (6 : Int32)) + a2)), (0, .ref a0), (1, .int a1), (2, .int a2), (3, .int a3), (4, .int a4)]) X (TB.get tb_X2_image 12 rfl) rfl (Nat.le_of_ble_eq_true rfl) rfl ?_
  refine V_iconst (v := 0) (q := 20) X (TB.get tb_X2_image 13 rfl) c_iconst_0 rfl ?_
  refine V_istore (q := 22) (lv' := [(7, .int (0 : Int32)), (6, .int (a3 &&& x2)), (5, .int ((a1 * (6 : Int32)) + a2)), (0, .ref a0), (1, .int a1), (2, .int a2), (3, .int a3), (4, .int a4)]) X (TB.get tb_X2_image 14 rfl) rfl (Nat.le_of_ble_eq_true rfl) rfl ?_
  refine V_iconst (v := 0) (q := 23) X (TB.get tb_X2_image 15 rfl) c_iconst_0 rfl ?_
  refine V_istore (q := 25) (lv' := [(8, .int (0 : Int32)), (7, .int (0 : Int32)), (6, .int (a3 &&& x2)), (5, .int ((a1 * (6 : Int32)) + a2)), (0, .ref a0), (1, .int a1), (2, .int a2), (3, .int a3), (4, .int a4)]) X (TB.get tb_X2_image 16 rfl) rfl (Nat.le_of_ble_eq_true rfl) rfl ?_
  refine V_sub (lv' := [(0, .ref a0), (1, .int a1), (4, .int a4), (5, .int ((a1 * (6 : Int32)) + a2)), (6, .int (a3 &&& x2)), (7, .int (0 : Int32)), (8, .int (0 : Int32))]) [4, 5, 8, 3, 2, 1, 0] rfl ?_
  refine wh2_elim (P := fun v3 v4 => V p l en (rmD 0) s m args below meth c 10 D tc B nn (Ar B nn) s.heap 0 0 (MQ below (QC D tc B nn (Ar B nn) (some (.int res)) h) args s 0 0 (Ar B nn)) h 25 [(0, .ref a0), (1, .int a1), (4, .int a4), (5, .int ((a1 * (6 : Int32)) + a2)), (6, .int (a3 &&& x2)), (7, .int v3), (8, .int v4)] []) (f := fu) ?_ e
  intro self5 v3 v4 ihself5 e
  unfold MX2_image_B25 at e
  refine V_iload (q := 27) X (TB.get tb_X2_image 17 rfl) rfl rfl ?_
  refine V_aload_n (q := 28) X (TB.get tb_X2_image 18 rfl) rfl rfl rfl ?_
  obtain ⟨x6, ex6, e⟩ := bs e
  refine V_getR (q := 31) X (TB.get tb_X2_image 19 rfl) rfl lf_RX2_9 ex6 ?_
  refine V_iload_n (q := 32) X (TB.get tb_X2_image 20 rfl) rfl rfl rfl ?_
  obtain ⟨x7, ex7, e⟩ := bs e
  refine V_iaload (q := 33) X (TB.get tb_X2_image 21 rfl) rfl ex7 ?_
  refine V_icmp_ge (q := 36) (t := 91) X (TB.get tb_X2_image 22 rfl) rfl rfl (fun hc => ?_) (fun hc => ?_)
  · have e := (if_pos hc).symm.trans e
    refine V_iload (q := 93) X (TB.get tb_X2_image 53 rfl) rfl rfl ?_
    cases e
    exact V_iret X hr hlk (TB.get tb_X2_image 54 rfl)
  · have e := (if_neg hc).symm.trans e
    refine V_iload (q := 38) X (TB.get tb_X2_image 23 rfl) rfl rfl ?_
    refine V_iload (q := 40) X (TB.get tb_X2_image 24 rfl) rfl rfl ?_
    refine V_ishr (q := 41) X (TB.get tb_X2_image 25 rfl) rfl ?_
    refine V_iconst (v := 1) (q := 42) X (TB.get tb_X2_image 26 rfl) c_iconst_1 rfl ?_
    refine V_iand (q := 43) X (TB.get tb_X2_image 27 rfl) rfl ?_
    refine jn_elim (P := (fun (k : Int32 → Option (Int32)) => ∀ (v8 : Int32), k v8 = some res → V p l en (rmD 0) s m args below meth c 10 D tc B nn (Ar B nn) s.heap 0 0 (MQ below (QC D tc B nn (Ar B nn) (some (.int res)) h) args s 0 0 (Ar B nn)) h 85 [(0, .ref a0), (1, .int a1), (4, .int a4), (5, .int ((a1 * (6 : Int32)) + a2)), (6, .int (a3 &&& x2)), (7, .int v8), (8, .int v4)] [])) e ?_ (fun j9 Jj9 e => ?_)
    · intro v8 e
      refine V_iinc (q := 88) (v := v4 + (1 : Int32)) (lv' := [(8, .int (v4 + (1 : Int32))), (0, .ref a0), (1, .int a1), (4, .int a4), (5, .int ((a1 * (6 : Int32)) + a2)), (6, .int (a3 &&& x2)), (7, .int v8)]) X (TB.get tb_X2_image 51 rfl) rfl rfl (by rw [c_iconst_1]) (Nat.le_of_ble_eq_true rfl) rfl ?_
      refine V_goto (q := 25) X (TB.get tb_X2_image 52 rfl) rfl ?_
      refine V_sub (lv' := [(0, .ref a0), (1, .int a1), (4, .int a4), (5, .int ((a1 * (6 : Int32)) + a2)), (6, .int (a3 &&& x2)), (7, .int v8), (8, .int (v4 + (1 : Int32)))]) [1, 2, 3, 4, 5, 6, 0] rfl ?_
      exact ihself5 _ _ e
    refine V_if_eq (q := 46) (t := 85) X (TB.get tb_X2_image 28 rfl) rfl rfl (fun hc => ?_) (fun hc => ?_)
    · have e := (if_pos hc).symm.trans e
      exact Jj9 _ e
    · have e := (if_neg hc).symm.trans e
      refine V_iload (q := 48) X (TB.get tb_X2_image 29 rfl) rfl rfl ?_
      refine V_bipush (v := 6) (q := 50) X (TB.get tb_X2_image 30 rfl) c_bipush_6 rfl ?_
      refine V_imul (q := 51) X (TB.get tb_X2_image 31 rfl) rfl ?_
      refine V_iload (q := 53) X (TB.get tb_X2_image 32 rfl) rfl rfl ?_
      refine V_iadd (q := 54) X (TB.get tb_X2_image 33 rfl) rfl ?_
      refine V_istore (q := 56) (lv' := [(9, .int ((((a1 * (6 : Int32)) + a2) * (6 : Int32)) + v4)), (0, .ref a0), (1, .int a1), (4, .int a4), (5, .int ((a1 * (6 : Int32)) + a2)), (6, .int (a3 &&& x2)), (7, .int v3), (8, .int v4)]) X (TB.get tb_X2_image 34 rfl) rfl (Nat.le_of_ble_eq_true rfl) rfl ?_
      refine V_iload (q := 58) X (TB.get tb_X2_image 35 rfl) rfl rfl ?_
      refine V_iconst (v := 1) (q := 59) X (TB.get tb_X2_image 36 rfl) c_iconst_1 rfl ?_
      refine V_iload (q := 61) X (TB.get tb_X2_image 37 rfl) rfl rfl ?_
      refine jn_elim (P := (fun (k : Int32 → Option (Int32)) => ∀ (w10 : Int32), k w10 = some res → V p l en (rmD 0) s m args below meth c 10 D tc B nn (Ar B nn) s.heap 0 0 (MQ below (QC D tc B nn (Ar B nn) (some (.int res)) h) args s 0 0 (Ar B nn)) h 81 [(0, .ref a0), (1, .int a1), (4, .int a4), (5, .int ((a1 * (6 : Int32)) + a2)), (6, .int (a3 &&& x2)), (8, .int v4)] [.int w10, .int (1 : Int32), .int v3])) e ?_ (fun j11 Jj11 e => ?_)
      · intro w10 e
        refine V_ishl (q := 82) X (TB.get tb_X2_image 48 rfl) rfl ?_
        refine V_ior (q := 83) X (TB.get tb_X2_image 49 rfl) rfl ?_
        refine V_istore (q := 85) (lv' := [(7, .int (v3 ||| ((1 : Int32) <<< (w10 &&& 31)))), (0, .ref a0), (1, .int a1), (4, .int a4), (5, .int ((a1 * (6 : Int32)) + a2)), (6, .int (a3 &&& x2)), (8, .int v4)]) X (TB.get tb_X2_image 50 rfl) rfl (Nat.le_of_ble_eq_true rfl) rfl ?_
        refine V_sub (lv' := [(0, .ref a0), (1, .int a1), (4, .int a4), (5, .int ((a1 * (6 : Int32)) + a2)), (6, .int (a3 &&& x2)), (7, .int (v3 ||| ((1 : Int32) <<< (w10 &&& 31)))), (8, .int v4)]) [1, 2, 3, 4, 5, 0, 6] rfl ?_
        exact Jj9 _ e
      refine V_if_eq (q := 64) (t := 74) X (TB.get tb_X2_image 38 rfl) rfl rfl (fun hc => ?_) (fun hc => ?_)
      · have e := (if_pos hc).symm.trans e
        refine V_aload_n (q := 75) X (TB.get tb_X2_image 44 rfl) rfl rfl rfl ?_
        obtain ⟨x12, ex12, e⟩ := bs e
        refine V_getR (q := 78) X (TB.get tb_X2_image 45 rfl) rfl lf_RX2_30 ex12 ?_
        refine V_iload (q := 80) X (TB.get tb_X2_image 46 rfl) rfl rfl ?_
        obtain ⟨x13, ex13, e⟩ := bs e
        refine V_iaload (q := 81) X (TB.get tb_X2_image 47 rfl) rfl ex13 ?_
        refine V_sub (lv' := [(0, .ref a0), (1, .int a1), (4, .int a4), (5, .int ((a1 * (6 : Int32)) + a2)), (6, .int (a3 &&& x2)), (8, .int v4)]) [1, 2, 3, 4, 5, 7] rfl ?_
        exact Jj11 _ e
      · have e := (if_neg hc).symm.trans e
        refine V_aload_n (q := 65) X (TB.get tb_X2_image 39 rfl) rfl rfl rfl ?_
        obtain ⟨x14, ex14, e⟩ := bs e
        refine V_getR (q := 68) X (TB.get tb_X2_image 40 rfl) rfl lf_RX2_27 ex14 ?_
        refine V_iload (q := 70) X (TB.get tb_X2_image 41 rfl) rfl rfl ?_
        obtain ⟨x15, ex15, e⟩ := bs e
        refine V_iaload (q := 71) X (TB.get tb_X2_image 42 rfl) rfl ex15 ?_
        refine V_goto (q := 81) X (TB.get tb_X2_image 43 rfl) rfl ?_
        refine V_sub (lv' := [(0, .ref a0), (1, .int a1), (4, .int a4), (5, .int ((a1 * (6 : Int32)) + a2)), (6, .int (a3 &&& x2)), (8, .int v4)]) [1, 2, 3, 4, 5, 7] rfl ?_
        exact Jj11 _ e
set_option maxRecDepth 100000 in
set_option maxHeartbeats 4000000 in
theorem ok_X1_ask (fu : Nat) (a0 : Nat) (a1 : Nat) (a2 : Int32) (a3 : Int32) (a4 : Int32) (h : Hp) (res : Int32 × Hp) (e : MX1_ask fu a0 a1 a2 a3 a4 h = some res) : CK yX1_ask cX1_ask 9 (some .boolean) 1 [.ref a0, .ref a1, .int a2, .int a3, .int a4] h (some (.int res.1)) res.2 ∧ (h.1 a0).1 = 1 := by
  obtain ⟨hcl, e⟩ := h_g_inv e
  refine ⟨CK_of pn_RX1 cm_X1_ask (Nat.le_of_ble_eq_true rfl) ?_, hcl⟩
  intro l D tc B nn p en s m args below meth c X hr hlk
  replace X : CX p (rmD 1) s m args c cX1_ask 9 RX1 D tc 1 := X
  show V p l en (rmD 1) s m args below meth c 9 D tc B nn (Ar B nn) s.heap 0 0 (MQ below (QC D tc B nn (Ar B nn) (some (.int res.1)) res.2) args s 0 0 (Ar B nn)) h 0 [(0, .ref a0), (1, .ref a1), (2, .int a2), (3, .int a3), (4, .int a4)] []
  refine V_aload_n (q := 1) X (TB.get tb_X1_ask 0 rfl) rfl rfl rfl ?_
  obtain ⟨x1, ex1, e⟩ := bs e
  refine V_getR (q := 4) X (TB.get tb_X1_ask 1 rfl) rfl lf_RX1_82 ex1 ?_
  refine V_iload_n (q := 5) X (TB.get tb_X1_ask 2 rfl) rfl rfl rfl ?_
  obtain ⟨x2, ex2, e⟩ := bs e
  refine V_iaload (q := 6) X (TB.get tb_X1_ask 3 rfl) rfl ex2 ?_
  refine V_istore (q := 8) (lv' := [(5, .int x2), (0, .ref a0), (1, .ref a1), (2, .int a2), (3, .int a3), (4, .int a4)]) X (TB.get tb_X1_ask 4 rfl) rfl (Nat.le_of_ble_eq_true rfl) rfl ?_
  refine V_aload_n (q := 9) X (TB.get tb_X1_ask 5 rfl) rfl rfl rfl ?_
  obtain ⟨x3, ex3, e⟩ := bs e
  refine V_getR (q := 12) X (TB.get tb_X1_ask 6 rfl) rfl lf_RX1_85 ex3 ?_
  refine V_iload (q := 14) X (TB.get tb_X1_ask 7 rfl) rfl rfl ?_
  refine V_iload_n (q := 15) X (TB.get tb_X1_ask 8 rfl) rfl rfl rfl ?_
  refine V_aload_n (q := 16) X (TB.get tb_X1_ask 9 rfl) rfl rfl rfl ?_
  obtain ⟨x4, ex4, e⟩ := bs e
  refine V_getR (q := 19) X (TB.get tb_X1_ask 10 rfl) rfl lf_RX1_11 ex4 ?_
  refine V_bipush (v := 6) (q := 21) X (TB.get tb_X1_ask 11 rfl) c_bipush_6 rfl ?_
  refine V_iload_n (q := 22) X (TB.get tb_X1_ask 12 rfl) rfl rfl rfl ?_
  refine V_iadd (q := 23) X (TB.get tb_X1_ask 13 rfl) rfl ?_
  obtain ⟨x5, ex5, e⟩ := bs e
  refine V_iaload (q := 24) X (TB.get tb_X1_ask 14 rfl) rfl ex5 ?_
  refine V_iload (q := 26) X (TB.get tb_X1_ask 15 rfl) rfl rfl ?_
  obtain ⟨x6, ex6, e⟩ := bs e
  refine V_callV (q := 29) (As := [.int x2, .int a3, .int x5, .int a4]) (rest := []) (st' := [.int x6]) X (TB.get tb_X1_ask 16 rfl) rfl cv_RX1_121 (ok_X2_image fu x3 x2 a3 x5 a4 h x6 ex6).1 (ok_X2_image fu x3 x2 a3 x5 a4 h x6 ex6).2 (Nat.le_of_ble_eq_true rfl) rfl rfl (Nat.le_of_ble_eq_true rfl) rfl ?_
  refine V_istore (q := 31) (lv' := [(6, .int x6), (5, .int x2), (0, .ref a0), (1, .ref a1), (2, .int a2), (3, .int a3), (4, .int a4)]) X (TB.get tb_X1_ask 17 rfl) rfl (Nat.le_of_ble_eq_true rfl) rfl ?_
  refine V_iload (q := 33) X (TB.get tb_X1_ask 18 rfl) rfl rfl ?_
  refine V_if_ne (q := 36) (t := 38) X (TB.get tb_X1_ask 19 rfl) rfl rfl (fun hc => ?_) (fun hc => ?_)
  · have e := (if_neg hc).symm.trans e
    refine V_iconst (v := 0) (q := 39) X (TB.get tb_X1_ask 22 rfl) c_iconst_0 rfl ?_
    refine V_istore (q := 41) (lv' := [(7, .int (0 : Int32)), (6, .int x6), (5, .int x2), (0, .ref a0), (1, .ref a1), (2, .int a2), (3, .int a3), (4, .int a4)]) X (TB.get tb_X1_ask 23 rfl) rfl (Nat.le_of_ble_eq_true rfl) rfl ?_
    refine jn_elim (P := (fun (k : Hp → Option (Int32 × Hp)) => ∀ (h7 : Hp), k h7 = some res → V p l en (rmD 1) s m args below meth c 9 D tc B nn (Ar B nn) s.heap 0 0 (MQ below (QC D tc B nn (Ar B nn) (some (.int res.1)) res.2) args s 0 0 (Ar B nn)) h7 154 [(0, .ref a0), (2, .int a2), (6, .int x6)] [])) e ?_ (fun j8 Jj8 e => ?_)
    · intro h7 e
      refine V_aload_n (q := 155) X (TB.get tb_X1_ask 87 rfl) rfl rfl rfl ?_
      obtain ⟨x9, ex9, e⟩ := bs e
      refine V_getR (q := 158) X (TB.get tb_X1_ask 88 rfl) rfl lf_RX1_11 ex9 ?_
      refine V_bipush (v := 6) (q := 160) X (TB.get tb_X1_ask 89 rfl) c_bipush_6 rfl ?_
      refine V_iload_n (q := 161) X (TB.get tb_X1_ask 90 rfl) rfl rfl rfl ?_
      refine V_iadd (q := 162) X (TB.get tb_X1_ask 91 rfl) rfl ?_
      refine V_iload (q := 164) X (TB.get tb_X1_ask 92 rfl) rfl rfl ?_
      obtain ⟨h10, eh10, e⟩ := bs e
      refine V_iastore (q := 165) X (TB.get tb_X1_ask 93 rfl) rfl eh10 ?_
      refine V_iconst (v := 1) (q := 166) X (TB.get tb_X1_ask 94 rfl) c_iconst_1 rfl ?_
      cases e
      exact V_zret X hr hlk (Or.inr rfl) (TB.get tb_X1_ask 95 rfl)
    refine V_sub (lv' := [(0, .ref a0), (1, .ref a1), (2, .int a2), (3, .int a3), (4, .int a4), (5, .int x2), (6, .int x6), (7, .int (0 : Int32))]) [3, 4, 5, 6, 7, 2, 1, 0] rfl ?_
    refine wh2_elim (P := fun v11 h12 => V p l en (rmD 1) s m args below meth c 9 D tc B nn (Ar B nn) s.heap 0 0 (MQ below (QC D tc B nn (Ar B nn) (some (.int res.1)) res.2) args s 0 0 (Ar B nn)) h12 41 [(0, .ref a0), (1, .ref a1), (2, .int a2), (3, .int a3), (4, .int a4), (5, .int x2), (6, .int x6), (7, .int v11)] []) (f := fu) ?_ e
    intro self13 v11 h12 ihself13 e
    unfold MX1_ask_B41 at e
    refine V_iload (q := 43) X (TB.get tb_X1_ask 24 rfl) rfl rfl ?_
    refine V_bipush (v := 6) (q := 45) X (TB.get tb_X1_ask 25 rfl) c_bipush_6 rfl ?_
    refine V_icmp_ge (q := 48) (t := 154) X (TB.get tb_X1_ask 26 rfl) rfl rfl (fun hc => ?_) (fun hc => ?_)
    · have e := (if_pos hc).symm.trans e
      refine V_sub (lv' := [(0, .ref a0), (2, .int a2), (6, .int x6)]) [0, 2, 6] rfl ?_
      exact Jj8 _ e
    · have e := (if_neg hc).symm.trans e
      refine V_aload_n (q := 49) X (TB.get tb_X1_ask 27 rfl) rfl rfl rfl ?_
      obtain ⟨x14, ex14, e⟩ := bs e
      refine V_getR (q := 52) X (TB.get tb_X1_ask 28 rfl) rfl lf_RX1_11 ex14 ?_
      refine V_bipush (v := 6) (q := 54) X (TB.get tb_X1_ask 29 rfl) c_bipush_6 rfl ?_
      refine V_iload (q := 56) X (TB.get tb_X1_ask 30 rfl) rfl rfl ?_
      refine V_iadd (q := 57) X (TB.get tb_X1_ask 31 rfl) rfl ?_
      obtain ⟨x15, ex15, e⟩ := bs e
      refine V_iaload (q := 58) X (TB.get tb_X1_ask 32 rfl) rfl ex15 ?_
      refine V_istore (q := 60) (lv' := [(8, .int x15), (0, .ref a0), (1, .ref a1), (2, .int a2), (3, .int a3), (4, .int a4), (5, .int x2), (6, .int x6), (7, .int v11)]) X (TB.get tb_X1_ask 33 rfl) rfl (Nat.le_of_ble_eq_true rfl) rfl ?_
      refine V_aload_n (q := 61) X (TB.get tb_X1_ask 34 rfl) rfl rfl rfl ?_
      refine V_getR (q := 64) X (TB.get tb_X1_ask 35 rfl) rfl lf_RX1_11 ex14 ?_
      refine V_bipush (v := 18) (q := 66) X (TB.get tb_X1_ask 36 rfl) c_bipush_18 rfl ?_
      refine V_iload_n (q := 67) X (TB.get tb_X1_ask 37 rfl) rfl rfl rfl ?_
      refine V_iadd (q := 68) X (TB.get tb_X1_ask 38 rfl) rfl ?_
      obtain ⟨x16, ex16, e⟩ := bs e
      refine V_iaload (q := 69) X (TB.get tb_X1_ask 39 rfl) rfl ex16 ?_
      refine V_iload (q := 71) X (TB.get tb_X1_ask 40 rfl) rfl rfl ?_
      refine V_ishr (q := 72) X (TB.get tb_X1_ask 41 rfl) rfl ?_
      refine V_iconst (v := 1) (q := 73) X (TB.get tb_X1_ask 42 rfl) c_iconst_1 rfl ?_
      refine V_iand (q := 74) X (TB.get tb_X1_ask 43 rfl) rfl ?_
      refine jn_elim (P := (fun (k : Hp → Option (Int32 × Hp)) => ∀ (h17 : Hp), k h17 = some res → V p l en (rmD 1) s m args below meth c 9 D tc B nn (Ar B nn) s.heap 0 0 (MQ below (QC D tc B nn (Ar B nn) (some (.int res.1)) res.2) args s 0 0 (Ar B nn)) h17 148 [(0, .ref a0), (1, .ref a1), (2, .int a2), (3, .int a3), (4, .int a4), (5, .int x2), (6, .int x6), (7, .int v11)] [])) e ?_ (fun j18 Jj18 e => ?_)
      · intro h17 e
        refine V_iinc (q := 151) (v := v11 + (1 : Int32)) (lv' := [(7, .int (v11 + (1 : Int32))), (0, .ref a0), (1, .ref a1), (2, .int a2), (3, .int a3), (4, .int a4), (5, .int x2), (6, .int x6)]) X (TB.get tb_X1_ask 85 rfl) rfl rfl (by rw [c_iconst_1]) (Nat.le_of_ble_eq_true rfl) rfl ?_
        refine V_goto (q := 41) X (TB.get tb_X1_ask 86 rfl) rfl ?_
        refine V_sub (lv' := [(0, .ref a0), (1, .ref a1), (2, .int a2), (3, .int a3), (4, .int a4), (5, .int x2), (6, .int x6), (7, .int (v11 + (1 : Int32)))]) [1, 2, 3, 4, 5, 6, 7, 0] rfl ?_
        exact ihself13 _ _ e
      refine V_if_eq (q := 77) (t := 104) X (TB.get tb_X1_ask 44 rfl) rfl rfl (fun hc => ?_) (fun hc => ?_)
      · have e := (if_pos hc).symm.trans e
        refine V_aload_n (q := 105) X (TB.get tb_X1_ask 59 rfl) rfl rfl rfl ?_
        refine V_getR (q := 108) X (TB.get tb_X1_ask 60 rfl) rfl lf_RX1_11 ex14 ?_
        refine V_bipush (v := 12) (q := 110) X (TB.get tb_X1_ask 61 rfl) c_bipush_12 rfl ?_
        refine V_iload_n (q := 111) X (TB.get tb_X1_ask 62 rfl) rfl rfl rfl ?_
        refine V_iadd (q := 112) X (TB.get tb_X1_ask 63 rfl) rfl ?_
        obtain ⟨x19, ex19, e⟩ := bs e
        refine V_iaload (q := 113) X (TB.get tb_X1_ask 64 rfl) rfl ex19 ?_
        refine V_iload (q := 115) X (TB.get tb_X1_ask 65 rfl) rfl rfl ?_
        refine V_ishr (q := 116) X (TB.get tb_X1_ask 66 rfl) rfl ?_
        refine V_iconst (v := 1) (q := 117) X (TB.get tb_X1_ask 67 rfl) c_iconst_1 rfl ?_
        refine V_iand (q := 118) X (TB.get tb_X1_ask 68 rfl) rfl ?_
        refine V_if_eq (q := 121) (t := 148) X (TB.get tb_X1_ask 69 rfl) rfl rfl (fun hc => ?_) (fun hc => ?_)
        · have e := (if_pos hc).symm.trans e
          refine V_sub (lv' := [(0, .ref a0), (1, .ref a1), (2, .int a2), (3, .int a3), (4, .int a4), (5, .int x2), (6, .int x6), (7, .int v11)]) [1, 2, 3, 4, 5, 6, 7, 8] rfl ?_
          exact Jj18 _ e
        · have e := (if_neg hc).symm.trans e
          refine V_aload_n (q := 122) X (TB.get tb_X1_ask 70 rfl) rfl rfl rfl ?_
          refine V_getR (q := 125) X (TB.get tb_X1_ask 71 rfl) rfl lf_RX1_11 ex14 ?_
          refine V_bipush (v := 6) (q := 127) X (TB.get tb_X1_ask 72 rfl) c_bipush_6 rfl ?_
          refine V_iload (q := 129) X (TB.get tb_X1_ask 73 rfl) rfl rfl ?_
          refine V_iadd (q := 130) X (TB.get tb_X1_ask 74 rfl) rfl ?_
          refine V_iload (q := 132) X (TB.get tb_X1_ask 75 rfl) rfl rfl ?_
          refine V_aload_n (q := 133) X (TB.get tb_X1_ask 76 rfl) rfl rfl rfl ?_
          obtain ⟨x20, ex20, e⟩ := bs e
          refine V_getR (q := 136) X (TB.get tb_X1_ask 77 rfl) rfl lf_RX1_85 ex20 ?_
          refine V_iload (q := 138) X (TB.get tb_X1_ask 78 rfl) rfl rfl ?_
          refine V_iload_n (q := 139) X (TB.get tb_X1_ask 79 rfl) rfl rfl rfl ?_
          refine V_iload (q := 141) X (TB.get tb_X1_ask 80 rfl) rfl rfl ?_
          refine V_iload (q := 143) X (TB.get tb_X1_ask 81 rfl) rfl rfl ?_
          obtain ⟨x21, ex21, e⟩ := bs e
          refine V_callV (q := 146) (As := [.int x2, .int a3, .int x15, .int a4]) (rest := [.int x15, .int ((6 : Int32) + v11), .ref x14]) (st' := [.int x21, .int x15, .int ((6 : Int32) + v11), .ref x14]) X (TB.get tb_X1_ask 82 rfl) rfl cv_RX1_121 (ok_X2_image fu x20 x2 a3 x15 a4 h12 x21 ex21).1 (ok_X2_image fu x20 x2 a3 x15 a4 h12 x21 ex21).2 (Nat.le_of_ble_eq_true rfl) rfl rfl (Nat.le_of_ble_eq_true rfl) rfl ?_
          refine V_ior (q := 147) X (TB.get tb_X1_ask 83 rfl) rfl ?_
          obtain ⟨h22, eh22, e⟩ := bs e
          refine V_iastore (q := 148) X (TB.get tb_X1_ask 84 rfl) rfl eh22 ?_
          refine V_sub (lv' := [(0, .ref a0), (1, .ref a1), (2, .int a2), (3, .int a3), (4, .int a4), (5, .int x2), (6, .int x6), (7, .int v11)]) [1, 2, 3, 4, 5, 6, 7, 8] rfl ?_
          exact Jj18 _ e
      · have e := (if_neg hc).symm.trans e
        refine V_aload_n (q := 78) X (TB.get tb_X1_ask 45 rfl) rfl rfl rfl ?_
        refine V_getR (q := 81) X (TB.get tb_X1_ask 46 rfl) rfl lf_RX1_11 ex14 ?_
        refine V_bipush (v := 6) (q := 83) X (TB.get tb_X1_ask 47 rfl) c_bipush_6 rfl ?_
        refine V_iload (q := 85) X (TB.get tb_X1_ask 48 rfl) rfl rfl ?_
        refine V_iadd (q := 86) X (TB.get tb_X1_ask 49 rfl) rfl ?_
        refine V_aload_n (q := 87) X (TB.get tb_X1_ask 50 rfl) rfl rfl rfl ?_
        obtain ⟨x23, ex23, e⟩ := bs e
        refine V_getR (q := 90) X (TB.get tb_X1_ask 51 rfl) rfl lf_RX1_85 ex23 ?_
        refine V_iload (q := 92) X (TB.get tb_X1_ask 52 rfl) rfl rfl ?_
        refine V_iload_n (q := 93) X (TB.get tb_X1_ask 53 rfl) rfl rfl rfl ?_
        refine V_iload (q := 95) X (TB.get tb_X1_ask 54 rfl) rfl rfl ?_
        refine V_iload (q := 97) X (TB.get tb_X1_ask 55 rfl) rfl rfl ?_
        obtain ⟨x24, ex24, e⟩ := bs e
        refine V_callV (q := 100) (As := [.int x2, .int a3, .int x15, .int a4]) (rest := [.int ((6 : Int32) + v11), .ref x14]) (st' := [.int x24, .int ((6 : Int32) + v11), .ref x14]) X (TB.get tb_X1_ask 56 rfl) rfl cv_RX1_121 (ok_X2_image fu x23 x2 a3 x15 a4 h12 x24 ex24).1 (ok_X2_image fu x23 x2 a3 x15 a4 h12 x24 ex24).2 (Nat.le_of_ble_eq_true rfl) rfl rfl (Nat.le_of_ble_eq_true rfl) rfl ?_
        obtain ⟨h25, eh25, e⟩ := bs e
        refine V_iastore (q := 101) X (TB.get tb_X1_ask 57 rfl) rfl eh25 ?_
        refine V_goto (q := 148) X (TB.get tb_X1_ask 58 rfl) rfl ?_
        refine V_sub (lv' := [(0, .ref a0), (1, .ref a1), (2, .int a2), (3, .int a3), (4, .int a4), (5, .int x2), (6, .int x6), (7, .int v11)]) [1, 2, 3, 4, 5, 6, 7, 8] rfl ?_
        exact Jj18 _ e
  · have e := (if_pos hc).symm.trans e
    refine V_iconst (v := 0) (q := 37) X (TB.get tb_X1_ask 20 rfl) c_iconst_0 rfl ?_
    cases e
    exact V_zret X hr hlk (Or.inl rfl) (TB.get tb_X1_ask 21 rfl)
set_option maxRecDepth 100000 in
set_option maxHeartbeats 4000000 in
theorem ok_X1_pass (fu : Nat) (a0 : Nat) (a1 : Nat) (a2 : Int32) (a3 : Int32) (h : Hp) (res : Int32 × Hp) (e : MX1_pass fu a0 a1 a2 a3 h = some res) : CK yX1_pass cX1_pass 6 (some .boolean) 2 [.ref a0, .ref a1, .int a2, .int a3] h (some (.int res.1)) res.2 ∧ (h.1 a0).1 = 1 := by
  obtain ⟨hcl, e⟩ := h_g_inv e
  refine ⟨CK_of pn_RX1 cm_X1_pass (Nat.le_of_ble_eq_true rfl) ?_, hcl⟩
  intro l D tc B nn p en s m args below meth c X hr hlk
  replace X : CX p (rmD 2) s m args c cX1_pass 6 RX1 D tc 2 := X
  show V p l en (rmD 2) s m args below meth c 6 D tc B nn (Ar B nn) s.heap 0 0 (MQ below (QC D tc B nn (Ar B nn) (some (.int res.1)) res.2) args s 0 0 (Ar B nn)) h 0 [(0, .ref a0), (1, .ref a1), (2, .int a2), (3, .int a3)] []
  refine V_aload_n (q := 1) X (TB.get tb_X1_pass 0 rfl) rfl rfl rfl ?_
  obtain ⟨x1, ex1, e⟩ := bs e
  refine V_getR (q := 4) X (TB.get tb_X1_pass 1 rfl) rfl lf_RX1_37 ex1 ?_
  refine V_iload_n (q := 5) X (TB.get tb_X1_pass 2 rfl) rfl rfl rfl ?_
  obtain ⟨x2, ex2, e⟩ := bs e
  refine V_iaload (q := 6) X (TB.get tb_X1_pass 3 rfl) rfl ex2 ?_
  refine V_istore (q := 8) (lv' := [(4, .int x2), (0, .ref a0), (1, .ref a1), (2, .int a2), (3, .int a3)]) X (TB.get tb_X1_pass 4 rfl) rfl (Nat.le_of_ble_eq_true rfl) rfl ?_
  refine V_aload_n (q := 9) X (TB.get tb_X1_pass 5 rfl) rfl rfl rfl ?_
  obtain ⟨x3, ex3, e⟩ := bs e
  refine V_getR (q := 12) X (TB.get tb_X1_pass 6 rfl) rfl lf_RX1_40 ex3 ?_
  refine V_iload_n (q := 13) X (TB.get tb_X1_pass 7 rfl) rfl rfl rfl ?_
  obtain ⟨x4, ex4, e⟩ := bs e
  refine V_iaload (q := 14) X (TB.get tb_X1_pass 8 rfl) rfl ex4 ?_
  refine V_istore (q := 16) (lv' := [(5, .int x4), (4, .int x2), (0, .ref a0), (1, .ref a1), (2, .int a2), (3, .int a3)]) X (TB.get tb_X1_pass 9 rfl) rfl (Nat.le_of_ble_eq_true rfl) rfl ?_
  refine V_aload_n (q := 17) X (TB.get tb_X1_pass 10 rfl) rfl rfl rfl ?_
  obtain ⟨x5, ex5, e⟩ := bs e
  refine V_getR (q := 20) X (TB.get tb_X1_pass 11 rfl) rfl lf_RX1_43 ex5 ?_
  refine V_iload_n (q := 21) X (TB.get tb_X1_pass 12 rfl) rfl rfl rfl ?_
  obtain ⟨x6, ex6, e⟩ := bs e
  refine V_iaload (q := 22) X (TB.get tb_X1_pass 13 rfl) rfl ex6 ?_
  refine jn_elim (P := (fun (k : Option (Int32 × Hp)) => k = some res → V p l en (rmD 2) s m args below meth c 6 D tc B nn (Ar B nn) s.heap 0 0 (MQ below (QC D tc B nn (Ar B nn) (some (.int res.1)) res.2) args s 0 0 (Ar B nn)) h 291 [(0, .ref a0), (1, .ref a1), (2, .int a2), (3, .int a3), (4, .int x2)] [])) e ?_ (fun j7 Jj7 e => ?_)
  · intro e
    refine V_aload_n (q := 292) X (TB.get tb_X1_pass 152 rfl) rfl rfl rfl ?_
    refine V_aload_n (q := 293) X (TB.get tb_X1_pass 153 rfl) rfl rfl rfl ?_
    refine V_iload (q := 295) X (TB.get tb_X1_pass 154 rfl) rfl rfl ?_
    refine V_aload_n (q := 296) X (TB.get tb_X1_pass 155 rfl) rfl rfl rfl ?_
    obtain ⟨x8, ex8, e⟩ := bs e
    refine V_getR (q := 299) X (TB.get tb_X1_pass 156 rfl) rfl lf_RX1_65 ex8 ?_
    refine V_iload_n (q := 300) X (TB.get tb_X1_pass 157 rfl) rfl rfl rfl ?_
    obtain ⟨x9, ex9, e⟩ := bs e
    refine V_iaload (q := 301) X (TB.get tb_X1_pass 158 rfl) rfl ex9 ?_
    refine V_iload_n (q := 302) X (TB.get tb_X1_pass 159 rfl) rfl rfl rfl ?_
    obtain ⟨p10, ep10, e⟩ := bs e
    refine V_callV (q := 305) (As := [.ref a1, .int x2, .int x9, .int a3]) (rest := []) (st' := [.int p10.1]) X (TB.get tb_X1_pass 160 rfl) rfl cv_RX1_117 (ok_X1_ask fu a0 a1 x2 x9 a3 h p10 ep10).1 (ok_X1_ask fu a0 a1 x2 x9 a3 h p10 ep10).2 (Nat.le_of_ble_eq_true rfl) rfl rfl (Nat.le_of_ble_eq_true rfl) rfl ?_
    obtain ⟨z11, ez11, e⟩ := bs e
    cases e
    exact V_zretH X hr hlk ez11 (TB.get tb_X1_pass 161 rfl)
  by_cases hc0 : x6 = (0 : Int32)
  · have e := (if_pos hc0).symm.trans e
    rw [hc0]
    refine V_tabIn (q := 72) X (TB.get tb_X1_pass 14 rfl) (by decide) (by decide) rfl rfl ?_
    refine V_aload_n (q := 73) X (TB.get tb_X1_pass 15 rfl) rfl rfl rfl ?_
    refine V_iload (q := 75) X (TB.get tb_X1_pass 16 rfl) rfl rfl ?_
    obtain ⟨h12, eh12, e⟩ := bs e
    refine V_callV (q := 78) (As := [.int x2]) (rest := []) (st' := []) X (TB.get tb_X1_pass 17 rfl) rfl cv_RX1_100 (ok_X1_letGo fu a0 x2 h h12 eh12).1 (ok_X1_letGo fu a0 x2 h h12 eh12).2 (Nat.le_of_ble_eq_true rfl) rfl rfl (Nat.le_of_ble_eq_true rfl) rfl ?_
    refine V_aload_n (q := 79) X (TB.get tb_X1_pass 18 rfl) rfl rfl rfl ?_
    obtain ⟨x13, ex13, e⟩ := bs e
    refine V_getR (q := 82) X (TB.get tb_X1_pass 19 rfl) rfl lf_RX1_11 ex13 ?_
    refine V_iconst (v := 0) (q := 83) X (TB.get tb_X1_pass 20 rfl) c_iconst_0 rfl ?_
    refine V_iload (q := 85) X (TB.get tb_X1_pass 21 rfl) rfl rfl ?_
    refine V_iadd (q := 86) X (TB.get tb_X1_pass 22 rfl) rfl ?_
    refine V_bipush (v := 8) (q := 88) X (TB.get tb_X1_pass 23 rfl) c_bipush_8 rfl ?_
    obtain ⟨h14, eh14, e⟩ := bs e
    refine V_iastore (q := 89) X (TB.get tb_X1_pass 24 rfl) rfl eh14 ?_
    refine V_aload_n (q := 90) X (TB.get tb_X1_pass 25 rfl) rfl rfl rfl ?_
    obtain ⟨x15, ex15, e⟩ := bs e
    refine V_getR (q := 93) X (TB.get tb_X1_pass 26 rfl) rfl lf_RX1_11 ex15 ?_
    refine V_bipush (v := 6) (q := 95) X (TB.get tb_X1_pass 27 rfl) c_bipush_6 rfl ?_
    refine V_iload (q := 97) X (TB.get tb_X1_pass 28 rfl) rfl rfl ?_
    refine V_iadd (q := 98) X (TB.get tb_X1_pass 29 rfl) rfl ?_
    refine V_iconst (v := 1) (q := 99) X (TB.get tb_X1_pass 30 rfl) c_iconst_1 rfl ?_
    obtain ⟨h16, eh16, e⟩ := bs e
    refine V_iastore (q := 100) X (TB.get tb_X1_pass 31 rfl) rfl eh16 ?_
    refine V_iconst (v := 1) (q := 101) X (TB.get tb_X1_pass 32 rfl) c_iconst_1 rfl ?_
    cases e
    exact V_zret X hr hlk (Or.inr rfl) (TB.get tb_X1_pass 33 rfl)
  have e := (if_neg hc0).symm.trans e
  by_cases hc1 : x6 = (1 : Int32)
  · have e := (if_pos hc1).symm.trans e
    rw [hc1]
    refine V_tabIn (q := 102) X (TB.get tb_X1_pass 14 rfl) (by decide) (by decide) rfl rfl ?_
    refine V_aload_n (q := 103) X (TB.get tb_X1_pass 34 rfl) rfl rfl rfl ?_
    refine V_iload (q := 105) X (TB.get tb_X1_pass 35 rfl) rfl rfl ?_
    obtain ⟨h17, eh17, e⟩ := bs e
    refine V_callV (q := 108) (As := [.int x2]) (rest := []) (st' := []) X (TB.get tb_X1_pass 36 rfl) rfl cv_RX1_100 (ok_X1_letGo fu a0 x2 h h17 eh17).1 (ok_X1_letGo fu a0 x2 h h17 eh17).2 (Nat.le_of_ble_eq_true rfl) rfl rfl (Nat.le_of_ble_eq_true rfl) rfl ?_
    refine V_aload_n (q := 109) X (TB.get tb_X1_pass 37 rfl) rfl rfl rfl ?_
    refine V_iload (q := 111) X (TB.get tb_X1_pass 38 rfl) rfl rfl ?_
    refine V_iload (q := 113) X (TB.get tb_X1_pass 39 rfl) rfl rfl ?_
    obtain ⟨h18, eh18, e⟩ := bs e
    refine V_callV (q := 116) (As := [.int x2, .int x4]) (rest := []) (st' := []) X (TB.get tb_X1_pass 40 rfl) rfl cv_RX1_104 (ok_X1_becomeLike fu a0 x2 x4 h17 h18 eh18).1 (ok_X1_becomeLike fu a0 x2 x4 h17 h18 eh18).2 (Nat.le_of_ble_eq_true rfl) rfl rfl (Nat.le_of_ble_eq_true rfl) rfl ?_
    refine V_aload_n (q := 117) X (TB.get tb_X1_pass 41 rfl) rfl rfl rfl ?_
    obtain ⟨x19, ex19, e⟩ := bs e
    refine V_getR (q := 120) X (TB.get tb_X1_pass 42 rfl) rfl lf_RX1_11 ex19 ?_
    refine V_iconst (v := 0) (q := 121) X (TB.get tb_X1_pass 43 rfl) c_iconst_0 rfl ?_
    refine V_iload (q := 123) X (TB.get tb_X1_pass 44 rfl) rfl rfl ?_
    refine V_iadd (q := 124) X (TB.get tb_X1_pass 45 rfl) rfl ?_
    refine V_aload_n (q := 125) X (TB.get tb_X1_pass 46 rfl) rfl rfl rfl ?_
    refine V_getR (q := 128) X (TB.get tb_X1_pass 47 rfl) rfl lf_RX1_11 ex19 ?_
    refine V_iconst (v := 0) (q := 129) X (TB.get tb_X1_pass 48 rfl) c_iconst_0 rfl ?_
    refine V_iload (q := 131) X (TB.get tb_X1_pass 49 rfl) rfl rfl ?_
    refine V_iadd (q := 132) X (TB.get tb_X1_pass 50 rfl) rfl ?_
    obtain ⟨x20, ex20, e⟩ := bs e
    refine V_iaload (q := 133) X (TB.get tb_X1_pass 51 rfl) rfl ex20 ?_
    obtain ⟨h21, eh21, e⟩ := bs e
    refine V_iastore (q := 134) X (TB.get tb_X1_pass 52 rfl) rfl eh21 ?_
    refine V_aload_n (q := 135) X (TB.get tb_X1_pass 53 rfl) rfl rfl rfl ?_
    refine V_iload (q := 137) X (TB.get tb_X1_pass 54 rfl) rfl rfl ?_
    obtain ⟨h22, eh22, e⟩ := bs e
    refine V_callV (q := 140) (As := [.int x4]) (rest := []) (st' := []) X (TB.get tb_X1_pass 55 rfl) rfl cv_RX1_100 (ok_X1_letGo fu a0 x4 h21 h22 eh22).1 (ok_X1_letGo fu a0 x4 h21 h22 eh22).2 (Nat.le_of_ble_eq_true rfl) rfl rfl (Nat.le_of_ble_eq_true rfl) rfl ?_
    refine V_iconst (v := 1) (q := 141) X (TB.get tb_X1_pass 56 rfl) c_iconst_1 rfl ?_
    cases e
    exact V_zret X hr hlk (Or.inr rfl) (TB.get tb_X1_pass 57 rfl)
  have e := (if_neg hc1).symm.trans e
  by_cases hc2 : x6 = (2 : Int32)
  · have e := (if_pos hc2).symm.trans e
    rw [hc2]
    refine V_tabIn (q := 142) X (TB.get tb_X1_pass 14 rfl) (by decide) (by decide) rfl rfl ?_
    refine V_aload_n (q := 143) X (TB.get tb_X1_pass 58 rfl) rfl rfl rfl ?_
    refine V_iload (q := 145) X (TB.get tb_X1_pass 59 rfl) rfl rfl ?_
    obtain ⟨h23, eh23, e⟩ := bs e
    refine V_callV (q := 148) (As := [.int x2]) (rest := []) (st' := []) X (TB.get tb_X1_pass 60 rfl) rfl cv_RX1_100 (ok_X1_letGo fu a0 x2 h h23 eh23).1 (ok_X1_letGo fu a0 x2 h h23 eh23).2 (Nat.le_of_ble_eq_true rfl) rfl rfl (Nat.le_of_ble_eq_true rfl) rfl ?_
    refine V_aload_n (q := 149) X (TB.get tb_X1_pass 61 rfl) rfl rfl rfl ?_
    refine V_iload (q := 151) X (TB.get tb_X1_pass 62 rfl) rfl rfl ?_
    refine V_iload (q := 153) X (TB.get tb_X1_pass 63 rfl) rfl rfl ?_
    obtain ⟨h24, eh24, e⟩ := bs e
    refine V_callV (q := 156) (As := [.int x2, .int x4]) (rest := []) (st' := []) X (TB.get tb_X1_pass 64 rfl) rfl cv_RX1_104 (ok_X1_becomeLike fu a0 x2 x4 h23 h24 eh24).1 (ok_X1_becomeLike fu a0 x2 x4 h23 h24 eh24).2 (Nat.le_of_ble_eq_true rfl) rfl rfl (Nat.le_of_ble_eq_true rfl) rfl ?_
    refine V_aload_n (q := 157) X (TB.get tb_X1_pass 65 rfl) rfl rfl rfl ?_
    refine V_iload (q := 159) X (TB.get tb_X1_pass 66 rfl) rfl rfl ?_
    refine V_iload (q := 161) X (TB.get tb_X1_pass 67 rfl) rfl rfl ?_
    obtain ⟨h25, eh25, e⟩ := bs e
    refine V_callV (q := 164) (As := [.int x2, .int x4]) (rest := []) (st' := []) X (TB.get tb_X1_pass 68 rfl) rfl cv_RX1_108 (ok_X1_makeOne a0 x2 x4 h24 h25 eh25).1 (ok_X1_makeOne a0 x2 x4 h24 h25 eh25).2 (Nat.le_of_ble_eq_true rfl) rfl rfl (Nat.le_of_ble_eq_true rfl) rfl ?_
    refine V_aload_n (q := 165) X (TB.get tb_X1_pass 69 rfl) rfl rfl rfl ?_
    obtain ⟨x26, ex26, e⟩ := bs e
    refine V_getR (q := 168) X (TB.get tb_X1_pass 70 rfl) rfl lf_RX1_11 ex26 ?_
    refine V_iconst (v := 0) (q := 169) X (TB.get tb_X1_pass 71 rfl) c_iconst_0 rfl ?_
    refine V_iload (q := 171) X (TB.get tb_X1_pass 72 rfl) rfl rfl ?_
    refine V_iadd (q := 172) X (TB.get tb_X1_pass 73 rfl) rfl ?_
    refine V_iconst (v := 4) (q := 173) X (TB.get tb_X1_pass 74 rfl) c_iconst_4 rfl ?_
    refine V_aload_n (q := 174) X (TB.get tb_X1_pass 75 rfl) rfl rfl rfl ?_
    refine V_getR (q := 177) X (TB.get tb_X1_pass 76 rfl) rfl lf_RX1_11 ex26 ?_
    refine V_iconst (v := 0) (q := 178) X (TB.get tb_X1_pass 77 rfl) c_iconst_0 rfl ?_
    refine V_iload (q := 180) X (TB.get tb_X1_pass 78 rfl) rfl rfl ?_
    refine V_iadd (q := 181) X (TB.get tb_X1_pass 79 rfl) rfl ?_
    obtain ⟨x27, ex27, e⟩ := bs e
    refine V_iaload (q := 182) X (TB.get tb_X1_pass 80 rfl) rfl ex27 ?_
    refine V_iconst (v := 1) (q := 183) X (TB.get tb_X1_pass 81 rfl) c_iconst_1 rfl ?_
    refine V_iand (q := 184) X (TB.get tb_X1_pass 82 rfl) rfl ?_
    refine V_ior (q := 185) X (TB.get tb_X1_pass 83 rfl) rfl ?_
    obtain ⟨h28, eh28, e⟩ := bs e
    refine V_iastore (q := 186) X (TB.get tb_X1_pass 84 rfl) rfl eh28 ?_
    refine V_aload_n (q := 187) X (TB.get tb_X1_pass 85 rfl) rfl rfl rfl ?_
    obtain ⟨x29, ex29, e⟩ := bs e
    refine V_getR (q := 190) X (TB.get tb_X1_pass 86 rfl) rfl lf_RX1_11 ex29 ?_
    refine V_iconst (v := 0) (q := 191) X (TB.get tb_X1_pass 87 rfl) c_iconst_0 rfl ?_
    refine V_iload (q := 193) X (TB.get tb_X1_pass 88 rfl) rfl rfl ?_
    refine V_iadd (q := 194) X (TB.get tb_X1_pass 89 rfl) rfl ?_
    refine V_aload_n (q := 195) X (TB.get tb_X1_pass 90 rfl) rfl rfl rfl ?_
    refine V_getR (q := 198) X (TB.get tb_X1_pass 91 rfl) rfl lf_RX1_11 ex29 ?_
    refine V_iconst (v := 0) (q := 199) X (TB.get tb_X1_pass 92 rfl) c_iconst_0 rfl ?_
    refine V_iload (q := 201) X (TB.get tb_X1_pass 93 rfl) rfl rfl ?_
    refine V_iadd (q := 202) X (TB.get tb_X1_pass 94 rfl) rfl ?_
    obtain ⟨x30, ex30, e⟩ := bs e
    refine V_iaload (q := 203) X (TB.get tb_X1_pass 95 rfl) rfl ex30 ?_
    obtain ⟨h31, eh31, e⟩ := bs e
    refine V_iastore (q := 204) X (TB.get tb_X1_pass 96 rfl) rfl eh31 ?_
    refine V_iconst (v := 1) (q := 205) X (TB.get tb_X1_pass 97 rfl) c_iconst_1 rfl ?_
    cases e
    exact V_zret X hr hlk (Or.inr rfl) (TB.get tb_X1_pass 98 rfl)
  have e := (if_neg hc2).symm.trans e
  by_cases hc3 : x6 = (3 : Int32)
  · have e := (if_pos hc3).symm.trans e
    rw [hc3]
    refine V_tabIn (q := 206) X (TB.get tb_X1_pass 14 rfl) (by decide) (by decide) rfl rfl ?_
    refine V_aload_n (q := 207) X (TB.get tb_X1_pass 99 rfl) rfl rfl rfl ?_
    refine V_iload (q := 209) X (TB.get tb_X1_pass 100 rfl) rfl rfl ?_
    obtain ⟨h32, eh32, e⟩ := bs e
    refine V_callV (q := 212) (As := [.int x2]) (rest := []) (st' := []) X (TB.get tb_X1_pass 101 rfl) rfl cv_RX1_100 (ok_X1_letGo fu a0 x2 h h32 eh32).1 (ok_X1_letGo fu a0 x2 h h32 eh32).2 (Nat.le_of_ble_eq_true rfl) rfl rfl (Nat.le_of_ble_eq_true rfl) rfl ?_
    refine V_aload_n (q := 213) X (TB.get tb_X1_pass 102 rfl) rfl rfl rfl ?_
    refine V_iload (q := 215) X (TB.get tb_X1_pass 103 rfl) rfl rfl ?_
    refine V_iload (q := 217) X (TB.get tb_X1_pass 104 rfl) rfl rfl ?_
    obtain ⟨h33, eh33, e⟩ := bs e
    refine V_callV (q := 220) (As := [.int x2, .int x4]) (rest := []) (st' := []) X (TB.get tb_X1_pass 105 rfl) rfl cv_RX1_104 (ok_X1_becomeLike fu a0 x2 x4 h32 h33 eh33).1 (ok_X1_becomeLike fu a0 x2 x4 h32 h33 eh33).2 (Nat.le_of_ble_eq_true rfl) rfl rfl (Nat.le_of_ble_eq_true rfl) rfl ?_
    refine V_aload_n (q := 221) X (TB.get tb_X1_pass 106 rfl) rfl rfl rfl ?_
    refine V_iload (q := 223) X (TB.get tb_X1_pass 107 rfl) rfl rfl ?_
    refine V_iload (q := 225) X (TB.get tb_X1_pass 108 rfl) rfl rfl ?_
    obtain ⟨h34, eh34, e⟩ := bs e
    refine V_callV (q := 228) (As := [.int x2, .int x4]) (rest := []) (st' := []) X (TB.get tb_X1_pass 109 rfl) rfl cv_RX1_108 (ok_X1_makeOne a0 x2 x4 h33 h34 eh34).1 (ok_X1_makeOne a0 x2 x4 h33 h34 eh34).2 (Nat.le_of_ble_eq_true rfl) rfl rfl (Nat.le_of_ble_eq_true rfl) rfl ?_
    refine V_aload_n (q := 229) X (TB.get tb_X1_pass 110 rfl) rfl rfl rfl ?_
    obtain ⟨x35, ex35, e⟩ := bs e
    refine V_getR (q := 232) X (TB.get tb_X1_pass 111 rfl) rfl lf_RX1_11 ex35 ?_
    refine V_iconst (v := 0) (q := 233) X (TB.get tb_X1_pass 112 rfl) c_iconst_0 rfl ?_
    refine V_iload (q := 235) X (TB.get tb_X1_pass 113 rfl) rfl rfl ?_
    refine V_iadd (q := 236) X (TB.get tb_X1_pass 114 rfl) rfl ?_
    refine V_iconst (v := 2) (q := 237) X (TB.get tb_X1_pass 115 rfl) c_iconst_2 rfl ?_
    refine V_aload_n (q := 238) X (TB.get tb_X1_pass 116 rfl) rfl rfl rfl ?_
    refine V_getR (q := 241) X (TB.get tb_X1_pass 117 rfl) rfl lf_RX1_11 ex35 ?_
    refine V_iconst (v := 0) (q := 242) X (TB.get tb_X1_pass 118 rfl) c_iconst_0 rfl ?_
    refine V_iload (q := 244) X (TB.get tb_X1_pass 119 rfl) rfl rfl ?_
    refine V_iadd (q := 245) X (TB.get tb_X1_pass 120 rfl) rfl ?_
    obtain ⟨x36, ex36, e⟩ := bs e
    refine V_iaload (q := 246) X (TB.get tb_X1_pass 121 rfl) rfl ex36 ?_
    refine V_iconst (v := 1) (q := 247) X (TB.get tb_X1_pass 122 rfl) c_iconst_1 rfl ?_
    refine V_iand (q := 248) X (TB.get tb_X1_pass 123 rfl) rfl ?_
    refine V_ior (q := 249) X (TB.get tb_X1_pass 124 rfl) rfl ?_
    obtain ⟨h37, eh37, e⟩ := bs e
    refine V_iastore (q := 250) X (TB.get tb_X1_pass 125 rfl) rfl eh37 ?_
    refine V_aload_n (q := 251) X (TB.get tb_X1_pass 126 rfl) rfl rfl rfl ?_
    obtain ⟨x38, ex38, e⟩ := bs e
    refine V_getR (q := 254) X (TB.get tb_X1_pass 127 rfl) rfl lf_RX1_11 ex38 ?_
    refine V_iconst (v := 0) (q := 255) X (TB.get tb_X1_pass 128 rfl) c_iconst_0 rfl ?_
    refine V_iload (q := 257) X (TB.get tb_X1_pass 129 rfl) rfl rfl ?_
    refine V_iadd (q := 258) X (TB.get tb_X1_pass 130 rfl) rfl ?_
    refine V_aload_n (q := 259) X (TB.get tb_X1_pass 131 rfl) rfl rfl rfl ?_
    refine V_getR (q := 262) X (TB.get tb_X1_pass 132 rfl) rfl lf_RX1_11 ex38 ?_
    refine V_iconst (v := 0) (q := 263) X (TB.get tb_X1_pass 133 rfl) c_iconst_0 rfl ?_
    refine V_iload (q := 265) X (TB.get tb_X1_pass 134 rfl) rfl rfl ?_
    refine V_iadd (q := 266) X (TB.get tb_X1_pass 135 rfl) rfl ?_
    obtain ⟨x39, ex39, e⟩ := bs e
    refine V_iaload (q := 267) X (TB.get tb_X1_pass 136 rfl) rfl ex39 ?_
    obtain ⟨x40, ex40, e⟩ := bs e
    refine V_callS (q := 270) (As := [.int x39]) (rest := [.int ((0 : Int32) + x4), .ref x38]) (st' := [.int x40, .int ((0 : Int32) + x4), .ref x38]) X (TB.get tb_X1_pass 137 rfl) rfl cs_RX1_111 (ok_X1_lookForWhole x39 h37 x40 ex40) (Nat.le_of_ble_eq_true rfl) rfl rfl (Nat.le_of_ble_eq_true rfl) rfl ?_
    obtain ⟨h41, eh41, e⟩ := bs e
    refine V_iastore (q := 271) X (TB.get tb_X1_pass 138 rfl) rfl eh41 ?_
    refine V_iconst (v := 1) (q := 272) X (TB.get tb_X1_pass 139 rfl) c_iconst_1 rfl ?_
    cases e
    exact V_zret X hr hlk (Or.inr rfl) (TB.get tb_X1_pass 140 rfl)
  have e := (if_neg hc3).symm.trans e
  by_cases hc4 : x6 = (4 : Int32)
  · have e := (if_pos hc4).symm.trans e
    rw [hc4]
    refine V_tabIn (q := 273) X (TB.get tb_X1_pass 14 rfl) (by decide) (by decide) rfl rfl ?_
    refine V_aload_n (q := 274) X (TB.get tb_X1_pass 141 rfl) rfl rfl rfl ?_
    refine V_iload (q := 276) X (TB.get tb_X1_pass 142 rfl) rfl rfl ?_
    refine V_iload (q := 278) X (TB.get tb_X1_pass 143 rfl) rfl rfl ?_
    obtain ⟨h42, eh42, e⟩ := bs e
    refine V_callV (q := 281) (As := [.int x2, .int x4]) (rest := []) (st' := []) X (TB.get tb_X1_pass 144 rfl) rfl cv_RX1_114 (ok_X1_passJoin fu a0 x2 x4 h h42 eh42).1 (ok_X1_passJoin fu a0 x2 x4 h h42 eh42).2 (Nat.le_of_ble_eq_true rfl) rfl rfl (Nat.le_of_ble_eq_true rfl) rfl ?_
    refine V_iconst (v := 1) (q := 282) X (TB.get tb_X1_pass 145 rfl) c_iconst_1 rfl ?_
    cases e
    exact V_zret X hr hlk (Or.inr rfl) (TB.get tb_X1_pass 146 rfl)
  have e := (if_neg hc4).symm.trans e
  by_cases hc5 : x6 = (5 : Int32)
  · have e := (if_pos hc5).symm.trans e
    rw [hc5]
    refine V_tabIn (q := 283) X (TB.get tb_X1_pass 14 rfl) (by decide) (by decide) rfl rfl ?_
    refine V_aload_n (q := 284) X (TB.get tb_X1_pass 147 rfl) rfl rfl rfl ?_
    refine V_iload (q := 286) X (TB.get tb_X1_pass 148 rfl) rfl rfl ?_
    obtain ⟨h43, eh43, e⟩ := bs e
    refine V_callV (q := 289) (As := [.int x2]) (rest := []) (st' := []) X (TB.get tb_X1_pass 149 rfl) rfl cv_RX1_100 (ok_X1_letGo fu a0 x2 h h43 eh43).1 (ok_X1_letGo fu a0 x2 h h43 eh43).2 (Nat.le_of_ble_eq_true rfl) rfl rfl (Nat.le_of_ble_eq_true rfl) rfl ?_
    refine V_iconst (v := 1) (q := 290) X (TB.get tb_X1_pass 150 rfl) c_iconst_1 rfl ?_
    cases e
    exact V_zret X hr hlk (Or.inr rfl) (TB.get tb_X1_pass 151 rfl)
  have e := (if_neg hc5).symm.trans e
  by_cases hc6 : x6 = (6 : Int32)
  · have e := (if_pos hc6).symm.trans e
    rw [hc6]
    refine V_tabIn (q := 291) X (TB.get tb_X1_pass 14 rfl) (by decide) (by decide) rfl rfl ?_
    refine V_sub (lv' := [(0, .ref a0), (1, .ref a1), (2, .int a2), (3, .int a3), (4, .int x2)]) [2, 3, 4, 5, 1] rfl ?_
    exact Jj7 e
  have e := (if_neg hc6).symm.trans e
  by_cases hc7 : x6 = (7 : Int32)
  · have e := (if_pos hc7).symm.trans e
    rw [hc7]
    refine V_tabIn (q := 291) X (TB.get tb_X1_pass 14 rfl) (by decide) (by decide) rfl rfl ?_
    refine V_sub (lv' := [(0, .ref a0), (1, .ref a1), (2, .int a2), (3, .int a3), (4, .int x2)]) [2, 3, 4, 5, 1] rfl ?_
    exact Jj7 e
  have e := (if_neg hc7).symm.trans e
  by_cases hc8 : x6 = (8 : Int32)
  · have e := (if_pos hc8).symm.trans e
    rw [hc8]
    refine V_tabIn (q := 291) X (TB.get tb_X1_pass 14 rfl) (by decide) (by decide) rfl rfl ?_
    refine V_sub (lv' := [(0, .ref a0), (1, .ref a1), (2, .int a2), (3, .int a3), (4, .int x2)]) [2, 3, 4, 5, 1] rfl ?_
    exact Jj7 e
  have e := (if_neg hc8).symm.trans e
  have hout : x6.toInt < 0 ∨ 8 < x6.toInt := tab_out x6 (0) (8) [0, 1, 2, 3, 4, 5, 6, 7, 8] (by decide +kernel) (fun v hv => by simp only [List.mem_cons, List.not_mem_nil, or_false] at hv; rcases hv with rfl | rfl | rfl | rfl | rfl | rfl | rfl | rfl | rfl <;> assumption)
  refine V_tabOut (q := 306) X (TB.get tb_X1_pass 14 rfl) hout rfl ?_
  refine V_iconst (v := 1) (q := 307) X (TB.get tb_X1_pass 162 rfl) c_iconst_1 rfl ?_
  cases e
  exact V_zret X hr hlk (Or.inr rfl) (TB.get tb_X1_pass 163 rfl)
set_option maxRecDepth 100000 in
set_option maxHeartbeats 4000000 in
theorem ok_X0_goOn (fu : Nat) (a0 : Nat) (a1 : Nat) (a2 : Int32) (a3 : Int32) (h : Hp) (res : Hp) (e : MX0_goOn fu a0 a1 a2 a3 h = some res) : CK yX0_goOn cX0_goOn 4 none 3 [.ref a0, .ref a1, .int a2, .int a3] h none res ∧ (h.1 a0).1 = 0 := by
  obtain ⟨hcl, e⟩ := h_g_inv e
  refine ⟨CK_of pn_RX0 cm_X0_goOn (Nat.le_of_ble_eq_true rfl) ?_, hcl⟩
  intro l D tc B nn p en s m args below meth c X hr hlk
  replace X : CX p (rmD 3) s m args c cX0_goOn 4 RX0 D tc 3 := X
  show V p l en (rmD 3) s m args below meth c 4 D tc B nn (Ar B nn) s.heap 0 0 (MQ below (QC D tc B nn (Ar B nn) none res) args s 0 0 (Ar B nn)) h 0 [(0, .ref a0), (1, .ref a1), (2, .int a2), (3, .int a3)] []
  refine V_aload_n (q := 1) X (TB.get tb_X0_goOn 0 rfl) rfl rfl rfl ?_
  obtain ⟨x1, ex1, e⟩ := bs e
  refine V_getR (q := 4) X (TB.get tb_X0_goOn 1 rfl) rfl lf_RX0_29 ex1 ?_
  refine V_aload_n (q := 5) X (TB.get tb_X0_goOn 2 rfl) rfl rfl rfl ?_
  obtain ⟨x2, ex2, e⟩ := bs e
  refine V_getR (q := 8) X (TB.get tb_X0_goOn 3 rfl) rfl lf_RX0_11 ex2 ?_
  refine V_iload_n (q := 9) X (TB.get tb_X0_goOn 4 rfl) rfl rfl rfl ?_
  obtain ⟨x3, ex3, e⟩ := bs e
  refine V_aaload (q := 10) X (TB.get tb_X0_goOn 5 rfl) rfl ex3 ?_
  obtain ⟨h4, eh4, e⟩ := bs e
  refine V_callV (q := 13) (As := [.ref x3]) (rest := []) (st' := []) X (TB.get tb_X0_goOn 6 rfl) rfl cv_RX0_63 (ok_X1_copyFrom x1 x3 h h4 eh4).1 (ok_X1_copyFrom x1 x3 h h4 eh4).2 (Nat.le_of_ble_eq_true rfl) rfl rfl (Nat.le_of_ble_eq_true rfl) rfl ?_
  refine V_iload_n (q := 14) X (TB.get tb_X0_goOn 7 rfl) rfl rfl rfl ?_
  refine V_if_eq (q := 17) (t := 28) X (TB.get tb_X0_goOn 8 rfl) rfl rfl (fun hc => ?_) (fun hc => ?_)
  · have e := (if_pos hc).symm.trans e
    refine V_aload_n (q := 29) X (TB.get tb_X0_goOn 16 rfl) rfl rfl rfl ?_
    obtain ⟨x5, ex5, e⟩ := bs e
    refine V_getR (q := 32) X (TB.get tb_X0_goOn 17 rfl) rfl lf_RX0_29 ex5 ?_
    refine V_aload_n (q := 33) X (TB.get tb_X0_goOn 18 rfl) rfl rfl rfl ?_
    refine V_iload_n (q := 34) X (TB.get tb_X0_goOn 19 rfl) rfl rfl rfl ?_
    refine V_iconst (v := 1) (q := 35) X (TB.get tb_X0_goOn 20 rfl) c_iconst_1 rfl ?_
    obtain ⟨p6, ep6, e⟩ := bs e
    refine V_callV (q := 38) (As := [.ref a1, .int a2, .int (1 : Int32)]) (rest := []) (st' := [.int p6.1]) X (TB.get tb_X0_goOn 21 rfl) rfl cv_RX0_70 (ok_X1_pass fu x5 a1 a2 (1 : Int32) h4 p6 ep6).1 (ok_X1_pass fu x5 a1 a2 (1 : Int32) h4 p6 ep6).2 (Nat.le_of_ble_eq_true rfl) rfl rfl (Nat.le_of_ble_eq_true rfl) rfl ?_
    refine jn_elim (P := (fun (k : Hp → Option (Hp)) => ∀ (h7 : Hp), k h7 = some res → V p l en (rmD 3) s m args below meth c 4 D tc B nn (Ar B nn) s.heap 0 0 (MQ below (QC D tc B nn (Ar B nn) none res) args s 0 0 (Ar B nn)) h7 51 [(0, .ref a0), (1, .ref a1), (2, .int a2)] [])) e ?_ (fun j8 Jj8 e => ?_)
    · intro h7 e
      refine V_aload_n (q := 52) X (TB.get tb_X0_goOn 29 rfl) rfl rfl rfl ?_
      obtain ⟨x9, ex9, e⟩ := bs e
      refine V_getR (q := 55) X (TB.get tb_X0_goOn 30 rfl) rfl lf_RX0_77 ex9 ?_
      refine V_iload_n (q := 56) X (TB.get tb_X0_goOn 31 rfl) rfl rfl rfl ?_
      obtain ⟨x10, ex10, e⟩ := bs e
      refine V_iaload (q := 57) X (TB.get tb_X0_goOn 32 rfl) rfl ex10 ?_
      refine V_iconst (v := -1) (q := 58) X (TB.get tb_X0_goOn 33 rfl) c_iconst_m1 rfl ?_
      refine V_icmp_ne (q := 61) (t := 62) X (TB.get tb_X0_goOn 34 rfl) rfl rfl (fun hc => ?_) (fun hc => ?_)
      · have e := (if_neg hc).symm.trans e
        refine V_aload_n (q := 63) X (TB.get tb_X0_goOn 36 rfl) rfl rfl rfl ?_
        obtain ⟨x11, ex11, e⟩ := bs e
        refine V_getR (q := 66) X (TB.get tb_X0_goOn 37 rfl) rfl lf_RX0_29 ex11 ?_
        refine V_aload_n (q := 67) X (TB.get tb_X0_goOn 38 rfl) rfl rfl rfl ?_
        obtain ⟨x12, ex12, e⟩ := bs e
        refine V_getR (q := 70) X (TB.get tb_X0_goOn 39 rfl) rfl lf_RX0_11 ex12 ?_
        refine V_iload_n (q := 71) X (TB.get tb_X0_goOn 40 rfl) rfl rfl rfl ?_
        obtain ⟨x13, ex13, e⟩ := bs e
        refine V_aaload (q := 72) X (TB.get tb_X0_goOn 41 rfl) rfl ex13 ?_
        obtain ⟨h14, eh14, e⟩ := bs e
        refine V_callV (q := 75) (As := [.ref x13]) (rest := []) (st' := []) X (TB.get tb_X0_goOn 42 rfl) rfl cv_RX0_63 (ok_X1_copyFrom x11 x13 h7 h14 eh14).1 (ok_X1_copyFrom x11 x13 h7 h14 eh14).2 (Nat.le_of_ble_eq_true rfl) rfl rfl (Nat.le_of_ble_eq_true rfl) rfl ?_
        refine V_aload_n (q := 76) X (TB.get tb_X0_goOn 43 rfl) rfl rfl rfl ?_
        obtain ⟨x15, ex15, e⟩ := bs e
        refine V_getR (q := 79) X (TB.get tb_X0_goOn 44 rfl) rfl lf_RX0_29 ex15 ?_
        refine V_aload_n (q := 80) X (TB.get tb_X0_goOn 45 rfl) rfl rfl rfl ?_
        refine V_iload_n (q := 81) X (TB.get tb_X0_goOn 46 rfl) rfl rfl rfl ?_
        refine V_iconst (v := 0) (q := 82) X (TB.get tb_X0_goOn 47 rfl) c_iconst_0 rfl ?_
        obtain ⟨p16, ep16, e⟩ := bs e
        refine V_callV (q := 85) (As := [.ref a1, .int a2, .int (0 : Int32)]) (rest := []) (st' := [.int p16.1]) X (TB.get tb_X0_goOn 48 rfl) rfl cv_RX0_70 (ok_X1_pass fu x15 a1 a2 (0 : Int32) h14 p16 ep16).1 (ok_X1_pass fu x15 a1 a2 (0 : Int32) h14 p16 ep16).2 (Nat.le_of_ble_eq_true rfl) rfl rfl (Nat.le_of_ble_eq_true rfl) rfl ?_
        refine V_if_eq (q := 88) (t := 98) X (TB.get tb_X0_goOn 49 rfl) rfl rfl (fun hc => ?_) (fun hc => ?_)
        · have e := (if_pos hc).symm.trans e
          cases e
          exact V_vret X hr hlk (TB.get tb_X0_goOn 56 rfl)
        · have e := (if_neg hc).symm.trans e
          refine V_aload_n (q := 89) X (TB.get tb_X0_goOn 50 rfl) rfl rfl rfl ?_
          refine V_aload_n (q := 90) X (TB.get tb_X0_goOn 51 rfl) rfl rfl rfl ?_
          obtain ⟨x17, ex17, e⟩ := bs e
          refine V_getR (q := 93) X (TB.get tb_X0_goOn 52 rfl) rfl lf_RX0_77 ex17 ?_
          refine V_iload_n (q := 94) X (TB.get tb_X0_goOn 53 rfl) rfl rfl rfl ?_
          obtain ⟨x18, ex18, e⟩ := bs e
          refine V_iaload (q := 95) X (TB.get tb_X0_goOn 54 rfl) rfl ex18 ?_
          obtain ⟨h19, eh19, e⟩ := bs e
          refine V_callV (q := 98) (As := [.int x18]) (rest := []) (st' := []) X (TB.get tb_X0_goOn 55 rfl) rfl cv_RX0_46 (ok_X0_arrive fu a0 x18 p16.2 h19 eh19).1 (ok_X0_arrive fu a0 x18 p16.2 h19 eh19).2 (Nat.le_of_ble_eq_true rfl) rfl rfl (Nat.le_of_ble_eq_true rfl) rfl ?_
          cases e
          exact V_vret X hr hlk (TB.get tb_X0_goOn 56 rfl)
      · have e := (if_pos hc).symm.trans e
        cases e
        exact V_vret X hr hlk (TB.get tb_X0_goOn 35 rfl)
    refine V_if_eq (q := 41) (t := 51) X (TB.get tb_X0_goOn 22 rfl) rfl rfl (fun hc => ?_) (fun hc => ?_)
    · have e := (if_pos hc).symm.trans e
      refine V_sub (lv' := [(0, .ref a0), (1, .ref a1), (2, .int a2)]) [0, 1, 2] rfl ?_
      exact Jj8 _ e
    · have e := (if_neg hc).symm.trans e
      refine V_aload_n (q := 42) X (TB.get tb_X0_goOn 23 rfl) rfl rfl rfl ?_
      refine V_aload_n (q := 43) X (TB.get tb_X0_goOn 24 rfl) rfl rfl rfl ?_
      obtain ⟨x20, ex20, e⟩ := bs e
      refine V_getR (q := 46) X (TB.get tb_X0_goOn 25 rfl) rfl lf_RX0_74 ex20 ?_
      refine V_iload_n (q := 47) X (TB.get tb_X0_goOn 26 rfl) rfl rfl rfl ?_
      obtain ⟨x21, ex21, e⟩ := bs e
      refine V_iaload (q := 48) X (TB.get tb_X0_goOn 27 rfl) rfl ex21 ?_
      obtain ⟨h22, eh22, e⟩ := bs e
      refine V_callV (q := 51) (As := [.int x21]) (rest := []) (st' := []) X (TB.get tb_X0_goOn 28 rfl) rfl cv_RX0_46 (ok_X0_arrive fu a0 x21 p6.2 h22 eh22).1 (ok_X0_arrive fu a0 x21 p6.2 h22 eh22).2 (Nat.le_of_ble_eq_true rfl) rfl rfl (Nat.le_of_ble_eq_true rfl) rfl ?_
      refine V_sub (lv' := [(0, .ref a0), (1, .ref a1), (2, .int a2)]) [0, 1, 2] rfl ?_
      exact Jj8 _ e
  · have e := (if_neg hc).symm.trans e
    refine V_aload_n (q := 18) X (TB.get tb_X0_goOn 9 rfl) rfl rfl rfl ?_
    refine V_aload_n (q := 19) X (TB.get tb_X0_goOn 10 rfl) rfl rfl rfl ?_
    obtain ⟨x23, ex23, e⟩ := bs e
    refine V_getR (q := 22) X (TB.get tb_X0_goOn 11 rfl) rfl lf_RX0_67 ex23 ?_
    refine V_iload_n (q := 23) X (TB.get tb_X0_goOn 12 rfl) rfl rfl rfl ?_
    obtain ⟨x24, ex24, e⟩ := bs e
    refine V_iaload (q := 24) X (TB.get tb_X0_goOn 13 rfl) rfl ex24 ?_
    obtain ⟨h25, eh25, e⟩ := bs e
    refine V_callV (q := 27) (As := [.int x24]) (rest := []) (st' := []) X (TB.get tb_X0_goOn 14 rfl) rfl cv_RX0_46 (ok_X0_arrive fu a0 x24 h4 h25 eh25).1 (ok_X0_arrive fu a0 x24 h4 h25 eh25).2 (Nat.le_of_ble_eq_true rfl) rfl rfl (Nat.le_of_ble_eq_true rfl) rfl ?_
    cases e
    exact V_vret X hr hlk (TB.get tb_X0_goOn 15 rfl)
set_option maxRecDepth 100000 in
set_option maxHeartbeats 4000000 in
theorem ok_X1_inNoEnd (a0 : Nat) (a1 : Nat) (a2 : Int32) (h : Hp) (res : Int32) (e : MX1_inNoEnd a0 a1 a2 h = some res) : CK yX1_inNoEnd cX1_inNoEnd 3 (some .boolean) 0 [.ref a0, .ref a1, .int a2] h (some (.int res)) h ∧ (h.1 a0).1 = 1 := by
  obtain ⟨hcl, e⟩ := h_g_inv e
  refine ⟨CK_of pn_RX1 cm_X1_inNoEnd (Nat.le_of_ble_eq_true rfl) ?_, hcl⟩
  intro l D tc B nn p en s m args below meth c X hr hlk
  replace X : CX p (rmD 0) s m args c cX1_inNoEnd 3 RX1 D tc 0 := X
  show V p l en (rmD 0) s m args below meth c 3 D tc B nn (Ar B nn) s.heap 0 0 (MQ below (QC D tc B nn (Ar B nn) (some (.int res)) h) args s 0 0 (Ar B nn)) h 0 [(0, .ref a0), (1, .ref a1), (2, .int a2)] []
  refine V_aload_n (q := 1) X (TB.get tb_X1_inNoEnd 0 rfl) rfl rfl rfl ?_
  obtain ⟨x1, ex1, e⟩ := bs e
  refine V_getR (q := 4) X (TB.get tb_X1_inNoEnd 1 rfl) rfl lf_RX1_11 ex1 ?_
  refine V_bipush (v := 6) (q := 6) X (TB.get tb_X1_inNoEnd 2 rfl) c_bipush_6 rfl ?_
  refine V_iload_n (q := 7) X (TB.get tb_X1_inNoEnd 3 rfl) rfl rfl rfl ?_
  refine V_iadd (q := 8) X (TB.get tb_X1_inNoEnd 4 rfl) rfl ?_
  obtain ⟨x2, ex2, e⟩ := bs e
  refine V_iaload (q := 9) X (TB.get tb_X1_inNoEnd 5 rfl) rfl ex2 ?_
  refine V_aload_n (q := 10) X (TB.get tb_X1_inNoEnd 6 rfl) rfl rfl rfl ?_
  obtain ⟨x3, ex3, e⟩ := bs e
  refine V_getR (q := 13) X (TB.get tb_X1_inNoEnd 7 rfl) rfl lf_RX1_85 ex3 ?_
  obtain ⟨x4, ex4, e⟩ := bs e
  refine V_getR (q := 16) X (TB.get tb_X1_inNoEnd 8 rfl) rfl lf_RX1_97 ex4 ?_
  refine V_aload_n (q := 17) X (TB.get tb_X1_inNoEnd 9 rfl) rfl rfl rfl ?_
  obtain ⟨x5, ex5, e⟩ := bs e
  refine V_getR (q := 20) X (TB.get tb_X1_inNoEnd 10 rfl) rfl lf_RX1_82 ex5 ?_
  refine V_iload_n (q := 21) X (TB.get tb_X1_inNoEnd 11 rfl) rfl rfl rfl ?_
  obtain ⟨x6, ex6, e⟩ := bs e
  refine V_iaload (q := 22) X (TB.get tb_X1_inNoEnd 12 rfl) rfl ex6 ?_
  obtain ⟨x7, ex7, e⟩ := bs e
  refine V_iaload (q := 23) X (TB.get tb_X1_inNoEnd 13 rfl) rfl ex7 ?_
  refine V_iconst (v := -1) (q := 24) X (TB.get tb_X1_inNoEnd 14 rfl) c_iconst_m1 rfl ?_
  refine V_ixor (q := 25) X (TB.get tb_X1_inNoEnd 15 rfl) rfl ?_
  refine V_iand (q := 26) X (TB.get tb_X1_inNoEnd 16 rfl) rfl ?_
  refine V_if_eq (q := 29) (t := 33) X (TB.get tb_X1_inNoEnd 17 rfl) rfl rfl (fun hc => ?_) (fun hc => ?_)
  · have e := (if_pos hc).symm.trans e
    refine V_iconst (v := 0) (q := 34) X (TB.get tb_X1_inNoEnd 20 rfl) c_iconst_0 rfl ?_
    cases e
    exact V_zret X hr hlk (Or.inl rfl) (TB.get tb_X1_inNoEnd 21 rfl)
  · have e := (if_neg hc).symm.trans e
    refine V_iconst (v := 1) (q := 30) X (TB.get tb_X1_inNoEnd 18 rfl) c_iconst_1 rfl ?_
    refine V_goto (q := 34) X (TB.get tb_X1_inNoEnd 19 rfl) rfl ?_
    cases e
    exact V_zret X hr hlk (Or.inr rfl) (TB.get tb_X1_inNoEnd 21 rfl)
set_option maxRecDepth 100000 in
set_option maxHeartbeats 4000000 in
theorem ok_X1_reasonAtEnd (fu : Nat) (a0 : Nat) (a1 : Nat) (h : Hp) (res : Int32) (e : MX1_reasonAtEnd fu a0 a1 h = some res) : CK yX1_reasonAtEnd cX1_reasonAtEnd 3 (some .int) 1 [.ref a0, .ref a1] h (some (.int res)) h ∧ (h.1 a0).1 = 1 := by
  obtain ⟨hcl, e⟩ := h_g_inv e
  refine ⟨CK_of pn_RX1 cm_X1_reasonAtEnd (Nat.le_of_ble_eq_true rfl) ?_, hcl⟩
  intro l D tc B nn p en s m args below meth c X hr hlk
  replace X : CX p (rmD 1) s m args c cX1_reasonAtEnd 3 RX1 D tc 1 := X
  show V p l en (rmD 1) s m args below meth c 3 D tc B nn (Ar B nn) s.heap 0 0 (MQ below (QC D tc B nn (Ar B nn) (some (.int res)) h) args s 0 0 (Ar B nn)) h 0 [(0, .ref a0), (1, .ref a1)] []
  refine V_iconst (v := 0) (q := 1) X (TB.get tb_X1_reasonAtEnd 0 rfl) c_iconst_0 rfl ?_
  refine V_istore_n (q := 2) (lv' := [(2, .int (0 : Int32)), (0, .ref a0), (1, .ref a1)]) X (TB.get tb_X1_reasonAtEnd 1 rfl) rfl rfl (Nat.le_of_ble_eq_true rfl) rfl ?_
  refine V_sub (lv' := [(0, .ref a0), (1, .ref a1), (2, .int (0 : Int32))]) [1, 2, 0] rfl ?_
  refine wh1_elim (P := fun v1 => V p l en (rmD 1) s m args below meth c 3 D tc B nn (Ar B nn) s.heap 0 0 (MQ below (QC D tc B nn (Ar B nn) (some (.int res)) h) args s 0 0 (Ar B nn)) h 2 [(0, .ref a0), (1, .ref a1), (2, .int v1)] []) (f := fu) ?_ e
  intro self2 v1 ihself2 e
  unfold MX1_reasonAtEnd_B2 at e
  refine V_iload_n (q := 3) X (TB.get tb_X1_reasonAtEnd 2 rfl) rfl rfl rfl ?_
  refine V_aload_n (q := 4) X (TB.get tb_X1_reasonAtEnd 3 rfl) rfl rfl rfl ?_
  obtain ⟨x3, ex3, e⟩ := bs e
  refine V_getI (q := 7) X (TB.get tb_X1_reasonAtEnd 4 rfl) rfl lf_RX1_72 ex3 ?_
  refine V_icmp_ge (q := 10) (t := 27) X (TB.get tb_X1_reasonAtEnd 5 rfl) rfl rfl (fun hc => ?_) (fun hc => ?_)
  · have e := (if_pos hc).symm.trans e
    refine V_iconst (v := 0) (q := 28) X (TB.get tb_X1_reasonAtEnd 15 rfl) c_iconst_0 rfl ?_
    cases e
    exact V_iret X hr hlk (TB.get tb_X1_reasonAtEnd 16 rfl)
  · have e := (if_neg hc).symm.trans e
    refine V_aload_n (q := 11) X (TB.get tb_X1_reasonAtEnd 6 rfl) rfl rfl rfl ?_
    refine V_aload_n (q := 12) X (TB.get tb_X1_reasonAtEnd 7 rfl) rfl rfl rfl ?_
    refine V_iload_n (q := 13) X (TB.get tb_X1_reasonAtEnd 8 rfl) rfl rfl rfl ?_
    obtain ⟨x4, ex4, e⟩ := bs e
    refine V_callV (q := 16) (As := [.ref a1, .int v1]) (rest := []) (st' := [.int x4]) X (TB.get tb_X1_reasonAtEnd 9 rfl) rfl cv_RX1_75 (ok_X1_inNoEnd a0 a1 v1 h x4 ex4).1 (ok_X1_inNoEnd a0 a1 v1 h x4 ex4).2 (Nat.le_of_ble_eq_true rfl) rfl rfl (Nat.le_of_ble_eq_true rfl) rfl ?_
    refine V_if_eq (q := 19) (t := 21) X (TB.get tb_X1_reasonAtEnd 10 rfl) rfl rfl (fun hc => ?_) (fun hc => ?_)
    · have e := (if_pos hc).symm.trans e
      refine V_iinc (q := 24) (v := v1 + (1 : Int32)) (lv' := [(2, .int (v1 + (1 : Int32))), (0, .ref a0), (1, .ref a1)]) X (TB.get tb_X1_reasonAtEnd 13 rfl) rfl rfl (by rw [c_iconst_1]) (Nat.le_of_ble_eq_true rfl) rfl ?_
      refine V_goto (q := 2) X (TB.get tb_X1_reasonAtEnd 14 rfl) rfl ?_
      refine V_sub (lv' := [(0, .ref a0), (1, .ref a1), (2, .int (v1 + (1 : Int32)))]) [1, 2, 0] rfl ?_
      exact ihself2 _ e
    · have e := (if_neg hc).symm.trans e
      refine V_iconst (v := 5) (q := 20) X (TB.get tb_X1_reasonAtEnd 11 rfl) c_iconst_5 rfl ?_
      cases e
      exact V_iret X hr hlk (TB.get tb_X1_reasonAtEnd 12 rfl)
set_option maxRecDepth 100000 in
set_option maxHeartbeats 4000000 in
theorem ok_X1_mayHold (a0 : Nat) (a1 : Int32) (h : Hp) (res : Int32) (e : MX1_mayHold a0 a1 h = some res) : CK yX1_mayHold cX1_mayHold 2 (some .boolean) 0 [.ref a0, .int a1] h (some (.int res)) h ∧ (h.1 a0).1 = 1 := by
  obtain ⟨hcl, e⟩ := h_g_inv e
  refine ⟨CK_of pn_RX1 cm_X1_mayHold (Nat.le_of_ble_eq_true rfl) ?_, hcl⟩
  intro l D tc B nn p en s m args below meth c X hr hlk
  replace X : CX p (rmD 0) s m args c cX1_mayHold 2 RX1 D tc 0 := X
  show V p l en (rmD 0) s m args below meth c 2 D tc B nn (Ar B nn) s.heap 0 0 (MQ below (QC D tc B nn (Ar B nn) (some (.int res)) h) args s 0 0 (Ar B nn)) h 0 [(0, .ref a0), (1, .int a1)] []
  refine V_aload_n (q := 1) X (TB.get tb_X1_mayHold 0 rfl) rfl rfl rfl ?_
  obtain ⟨x1, ex1, e⟩ := bs e
  refine V_getR (q := 4) X (TB.get tb_X1_mayHold 1 rfl) rfl lf_RX1_11 ex1 ?_
  refine V_iconst (v := 0) (q := 5) X (TB.get tb_X1_mayHold 2 rfl) c_iconst_0 rfl ?_
  refine V_iload_n (q := 6) X (TB.get tb_X1_mayHold 3 rfl) rfl rfl rfl ?_
  refine V_iadd (q := 7) X (TB.get tb_X1_mayHold 4 rfl) rfl ?_
  obtain ⟨x2, ex2, e⟩ := bs e
  refine V_iaload (q := 8) X (TB.get tb_X1_mayHold 5 rfl) rfl ex2 ?_
  refine V_bipush (v := -2) (q := 10) X (TB.get tb_X1_mayHold 6 rfl) c_bipush_m2 rfl ?_
  refine V_iand (q := 11) X (TB.get tb_X1_mayHold 7 rfl) rfl ?_
  refine V_if_eq (q := 14) (t := 18) X (TB.get tb_X1_mayHold 8 rfl) rfl rfl (fun hc => ?_) (fun hc => ?_)
  · have e := (if_pos hc).symm.trans e
    refine V_iconst (v := 0) (q := 19) X (TB.get tb_X1_mayHold 11 rfl) c_iconst_0 rfl ?_
    cases e
    exact V_zret X hr hlk (Or.inl rfl) (TB.get tb_X1_mayHold 12 rfl)
  · have e := (if_neg hc).symm.trans e
    refine V_iconst (v := 1) (q := 15) X (TB.get tb_X1_mayHold 9 rfl) c_iconst_1 rfl ?_
    refine V_goto (q := 19) X (TB.get tb_X1_mayHold 10 rfl) rfl ?_
    cases e
    exact V_zret X hr hlk (Or.inr rfl) (TB.get tb_X1_mayHold 12 rfl)
set_option maxRecDepth 100000 in
set_option maxHeartbeats 4000000 in
theorem ok_X1_mayLack (a0 : Nat) (a1 : Int32) (h : Hp) (res : Int32) (e : MX1_mayLack a0 a1 h = some res) : CK yX1_mayLack cX1_mayLack 2 (some .boolean) 0 [.ref a0, .int a1] h (some (.int res)) h ∧ (h.1 a0).1 = 1 := by
  obtain ⟨hcl, e⟩ := h_g_inv e
  refine ⟨CK_of pn_RX1 cm_X1_mayLack (Nat.le_of_ble_eq_true rfl) ?_, hcl⟩
  intro l D tc B nn p en s m args below meth c X hr hlk
  replace X : CX p (rmD 0) s m args c cX1_mayLack 2 RX1 D tc 0 := X
  show V p l en (rmD 0) s m args below meth c 2 D tc B nn (Ar B nn) s.heap 0 0 (MQ below (QC D tc B nn (Ar B nn) (some (.int res)) h) args s 0 0 (Ar B nn)) h 0 [(0, .ref a0), (1, .int a1)] []
  refine V_aload_n (q := 1) X (TB.get tb_X1_mayLack 0 rfl) rfl rfl rfl ?_
  obtain ⟨x1, ex1, e⟩ := bs e
  refine V_getR (q := 4) X (TB.get tb_X1_mayLack 1 rfl) rfl lf_RX1_11 ex1 ?_
  refine V_iconst (v := 0) (q := 5) X (TB.get tb_X1_mayLack 2 rfl) c_iconst_0 rfl ?_
  refine V_iload_n (q := 6) X (TB.get tb_X1_mayLack 3 rfl) rfl rfl rfl ?_
  refine V_iadd (q := 7) X (TB.get tb_X1_mayLack 4 rfl) rfl ?_
  obtain ⟨x2, ex2, e⟩ := bs e
  refine V_iaload (q := 8) X (TB.get tb_X1_mayLack 5 rfl) rfl ex2 ?_
  refine V_iconst (v := 1) (q := 9) X (TB.get tb_X1_mayLack 6 rfl) c_iconst_1 rfl ?_
  refine V_iand (q := 10) X (TB.get tb_X1_mayLack 7 rfl) rfl ?_
  refine V_if_eq (q := 13) (t := 17) X (TB.get tb_X1_mayLack 8 rfl) rfl rfl (fun hc => ?_) (fun hc => ?_)
  · have e := (if_pos hc).symm.trans e
    refine V_iconst (v := 0) (q := 18) X (TB.get tb_X1_mayLack 11 rfl) c_iconst_0 rfl ?_
    cases e
    exact V_zret X hr hlk (Or.inl rfl) (TB.get tb_X1_mayLack 12 rfl)
  · have e := (if_neg hc).symm.trans e
    refine V_iconst (v := 1) (q := 14) X (TB.get tb_X1_mayLack 9 rfl) c_iconst_1 rfl ?_
    refine V_goto (q := 18) X (TB.get tb_X1_mayLack 10 rfl) rfl ?_
    cases e
    exact V_zret X hr hlk (Or.inr rfl) (TB.get tb_X1_mayLack 12 rfl)
set_option maxRecDepth 100000 in
set_option maxHeartbeats 4000000 in
theorem ok_X1_reasonOfHow (a0 : Nat) (a1 : Int32) (h : Hp) (res : Int32) (e : MX1_reasonOfHow a0 a1 h = some res) : CK yX1_reasonOfHow cX1_reasonOfHow 2 (some .int) 0 [.ref a0, .int a1] h (some (.int res)) h ∧ (h.1 a0).1 = 1 := by
  obtain ⟨hcl, e⟩ := h_g_inv e
  refine ⟨CK_of pn_RX1 cm_X1_reasonOfHow (Nat.le_of_ble_eq_true rfl) ?_, hcl⟩
  intro l D tc B nn p en s m args below meth c X hr hlk
  replace X : CX p (rmD 0) s m args c cX1_reasonOfHow 2 RX1 D tc 0 := X
  show V p l en (rmD 0) s m args below meth c 2 D tc B nn (Ar B nn) s.heap 0 0 (MQ below (QC D tc B nn (Ar B nn) (some (.int res)) h) args s 0 0 (Ar B nn)) h 0 [(0, .ref a0), (1, .int a1)] []
  refine V_aload_n (q := 1) X (TB.get tb_X1_reasonOfHow 0 rfl) rfl rfl rfl ?_
  obtain ⟨x1, ex1, e⟩ := bs e
  refine V_getR (q := 4) X (TB.get tb_X1_reasonOfHow 1 rfl) rfl lf_RX1_11 ex1 ?_
  refine V_iconst (v := 0) (q := 5) X (TB.get tb_X1_reasonOfHow 2 rfl) c_iconst_0 rfl ?_
  refine V_iload_n (q := 6) X (TB.get tb_X1_reasonOfHow 3 rfl) rfl rfl rfl ?_
  refine V_iadd (q := 7) X (TB.get tb_X1_reasonOfHow 4 rfl) rfl ?_
  obtain ⟨x2, ex2, e⟩ := bs e
  refine V_iaload (q := 8) X (TB.get tb_X1_reasonOfHow 5 rfl) rfl ex2 ?_
  refine V_iconst (v := 2) (q := 9) X (TB.get tb_X1_reasonOfHow 6 rfl) c_iconst_2 rfl ?_
  refine V_iand (q := 10) X (TB.get tb_X1_reasonOfHow 7 rfl) rfl ?_
  refine V_if_eq (q := 13) (t := 17) X (TB.get tb_X1_reasonOfHow 8 rfl) rfl rfl (fun hc => ?_) (fun hc => ?_)
  · have e := (if_pos hc).symm.trans e
    refine V_iconst (v := 0) (q := 18) X (TB.get tb_X1_reasonOfHow 11 rfl) c_iconst_0 rfl ?_
    cases e
    exact V_iret X hr hlk (TB.get tb_X1_reasonOfHow 12 rfl)
  · have e := (if_neg hc).symm.trans e
    refine V_iconst (v := 3) (q := 14) X (TB.get tb_X1_reasonOfHow 9 rfl) c_iconst_3 rfl ?_
    refine V_goto (q := 18) X (TB.get tb_X1_reasonOfHow 10 rfl) rfl ?_
    cases e
    exact V_iret X hr hlk (TB.get tb_X1_reasonOfHow 12 rfl)
set_option maxRecDepth 100000 in
set_option maxHeartbeats 4000000 in
theorem ok_X1_reasonOfJoin (a0 : Nat) (a1 : Int32) (a2 : Int32) (h : Hp) (res : Int32) (e : MX1_reasonOfJoin a0 a1 a2 h = some res) : CK yX1_reasonOfJoin cX1_reasonOfJoin 3 (some .int) 0 [.ref a0, .int a1, .int a2] h (some (.int res)) h ∧ (h.1 a0).1 = 1 := by
  obtain ⟨hcl, e⟩ := h_g_inv e
  refine ⟨CK_of pn_RX1 cm_X1_reasonOfJoin (Nat.le_of_ble_eq_true rfl) ?_, hcl⟩
  intro l D tc B nn p en s m args below meth c X hr hlk
  replace X : CX p (rmD 0) s m args c cX1_reasonOfJoin 3 RX1 D tc 0 := X
  show V p l en (rmD 0) s m args below meth c 3 D tc B nn (Ar B nn) s.heap 0 0 (MQ below (QC D tc B nn (Ar B nn) (some (.int res)) h) args s 0 0 (Ar B nn)) h 0 [(0, .ref a0), (1, .int a1), (2, .int a2)] []
  refine V_aload_n (q := 1) X (TB.get tb_X1_reasonOfJoin 0 rfl) rfl rfl rfl ?_
  obtain ⟨x1, ex1, e⟩ := bs e
  refine V_getR (q := 4) X (TB.get tb_X1_reasonOfJoin 1 rfl) rfl lf_RX1_11 ex1 ?_
  refine V_bipush (v := 18) (q := 6) X (TB.get tb_X1_reasonOfJoin 2 rfl) c_bipush_18 rfl ?_
  refine V_iload_n (q := 7) X (TB.get tb_X1_reasonOfJoin 3 rfl) rfl rfl rfl ?_
  refine V_iadd (q := 8) X (TB.get tb_X1_reasonOfJoin 4 rfl) rfl ?_
  obtain ⟨x2, ex2, e⟩ := bs e
  refine V_iaload (q := 9) X (TB.get tb_X1_reasonOfJoin 5 rfl) rfl ex2 ?_
  refine V_iload_n (q := 10) X (TB.get tb_X1_reasonOfJoin 6 rfl) rfl rfl rfl ?_
  refine V_ishr (q := 11) X (TB.get tb_X1_reasonOfJoin 7 rfl) rfl ?_
  refine V_iconst (v := 1) (q := 12) X (TB.get tb_X1_reasonOfJoin 8 rfl) c_iconst_1 rfl ?_
  refine V_iand (q := 13) X (TB.get tb_X1_reasonOfJoin 9 rfl) rfl ?_
  refine V_if_ne (q := 16) (t := 20) X (TB.get tb_X1_reasonOfJoin 10 rfl) rfl rfl (fun hc => ?_) (fun hc => ?_)
  · have e := (if_neg hc).symm.trans e
    refine V_iconst (v := 0) (q := 21) X (TB.get tb_X1_reasonOfJoin 13 rfl) c_iconst_0 rfl ?_
    cases e
    exact V_iret X hr hlk (TB.get tb_X1_reasonOfJoin 14 rfl)
  · have e := (if_pos hc).symm.trans e
    refine V_iconst (v := 2) (q := 17) X (TB.get tb_X1_reasonOfJoin 11 rfl) c_iconst_2 rfl ?_
    refine V_goto (q := 21) X (TB.get tb_X1_reasonOfJoin 12 rfl) rfl ?_
    cases e
    exact V_iret X hr hlk (TB.get tb_X1_reasonOfJoin 14 rfl)
set_option maxRecDepth 100000 in
set_option maxHeartbeats 4000000 in
theorem ok_X1_reasonOfDrop (a0 : Nat) (a1 : Nat) (a2 : Int32) (h : Hp) (res : Int32) (e : MX1_reasonOfDrop a0 a1 a2 h = some res) : CK yX1_reasonOfDrop cX1_reasonOfDrop 3 (some .int) 1 [.ref a0, .ref a1, .int a2] h (some (.int res)) h ∧ (h.1 a0).1 = 1 := by
  obtain ⟨hcl, e⟩ := h_g_inv e
  refine ⟨CK_of pn_RX1 cm_X1_reasonOfDrop (Nat.le_of_ble_eq_true rfl) ?_, hcl⟩
  intro l D tc B nn p en s m args below meth c X hr hlk
  replace X : CX p (rmD 1) s m args c cX1_reasonOfDrop 3 RX1 D tc 1 := X
  show V p l en (rmD 1) s m args below meth c 3 D tc B nn (Ar B nn) s.heap 0 0 (MQ below (QC D tc B nn (Ar B nn) (some (.int res)) h) args s 0 0 (Ar B nn)) h 0 [(0, .ref a0), (1, .ref a1), (2, .int a2)] []
  refine V_aload_n (q := 1) X (TB.get tb_X1_reasonOfDrop 0 rfl) rfl rfl rfl ?_
  refine V_iload_n (q := 2) X (TB.get tb_X1_reasonOfDrop 1 rfl) rfl rfl rfl ?_
  obtain ⟨x1, ex1, e⟩ := bs e
  refine V_callV (q := 5) (As := [.int a2]) (rest := []) (st' := [.int x1]) X (TB.get tb_X1_reasonOfDrop 2 rfl) rfl cv_RX1_79 (ok_X1_isAlone a0 a2 h x1 ex1).1 (ok_X1_isAlone a0 a2 h x1 ex1).2 (Nat.le_of_ble_eq_true rfl) rfl rfl (Nat.le_of_ble_eq_true rfl) rfl ?_
  refine jn_elim (P := (fun (k : Option (Int32)) => k = some res → V p l en (rmD 1) s m args below meth c 3 D tc B nn (Ar B nn) s.heap 0 0 (MQ below (QC D tc B nn (Ar B nn) (some (.int res)) h) args s 0 0 (Ar B nn)) h 21 [] [])) e ?_ (fun j2 Jj2 e => ?_)
  · intro e
    refine V_iconst (v := 0) (q := 22) X (TB.get tb_X1_reasonOfDrop 11 rfl) c_iconst_0 rfl ?_
    cases e
    exact V_iret X hr hlk (TB.get tb_X1_reasonOfDrop 12 rfl)
  refine V_if_eq (q := 8) (t := 21) X (TB.get tb_X1_reasonOfDrop 3 rfl) rfl rfl (fun hc => ?_) (fun hc => ?_)
  · have e := (if_pos hc).symm.trans e
    refine V_sub (lv' := []) [] rfl ?_
    exact Jj2 e
  · have e := (if_neg hc).symm.trans e
    refine V_aload_n (q := 9) X (TB.get tb_X1_reasonOfDrop 4 rfl) rfl rfl rfl ?_
    refine V_aload_n (q := 10) X (TB.get tb_X1_reasonOfDrop 5 rfl) rfl rfl rfl ?_
    refine V_iload_n (q := 11) X (TB.get tb_X1_reasonOfDrop 6 rfl) rfl rfl rfl ?_
    obtain ⟨x3, ex3, e⟩ := bs e
    refine V_callV (q := 14) (As := [.ref a1, .int a2]) (rest := []) (st' := [.int x3]) X (TB.get tb_X1_reasonOfDrop 7 rfl) rfl cv_RX1_75 (ok_X1_inNoEnd a0 a1 a2 h x3 ex3).1 (ok_X1_inNoEnd a0 a1 a2 h x3 ex3).2 (Nat.le_of_ble_eq_true rfl) rfl rfl (Nat.le_of_ble_eq_true rfl) rfl ?_
    refine V_if_eq (q := 17) (t := 21) X (TB.get tb_X1_reasonOfDrop 8 rfl) rfl rfl (fun hc => ?_) (fun hc => ?_)
    · have e := (if_pos hc).symm.trans e
      refine V_sub (lv' := []) [] rfl ?_
      exact Jj2 e
    · have e := (if_neg hc).symm.trans e
      refine V_iconst (v := 5) (q := 18) X (TB.get tb_X1_reasonOfDrop 9 rfl) c_iconst_5 rfl ?_
      refine V_goto (q := 22) X (TB.get tb_X1_reasonOfDrop 10 rfl) rfl ?_
      cases e
      exact V_iret X hr hlk (TB.get tb_X1_reasonOfDrop 12 rfl)
set_option maxRecDepth 100000 in
set_option maxHeartbeats 4000000 in
theorem ok_X2_sortOf (a0 : Nat) (a1 : Int32) (a2 : Int32) (h : Hp) (res : Int32) (e : MX2_sortOf a0 a1 a2 h = some res) : CK yX2_sortOf cX2_sortOf 3 (some .int) 0 [.ref a0, .int a1, .int a2] h (some (.int res)) h ∧ (h.1 a0).1 = 2 := by
  obtain ⟨hcl, e⟩ := h_g_inv e
  refine ⟨CK_of pn_RX2 cm_X2_sortOf (Nat.le_of_ble_eq_true rfl) ?_, hcl⟩
  intro l D tc B nn p en s m args below meth c X hr hlk
  replace X : CX p (rmD 0) s m args c cX2_sortOf 3 RX2 D tc 0 := X
  show V p l en (rmD 0) s m args below meth c 3 D tc B nn (Ar B nn) s.heap 0 0 (MQ below (QC D tc B nn (Ar B nn) (some (.int res)) h) args s 0 0 (Ar B nn)) h 0 [(0, .ref a0), (1, .int a1), (2, .int a2)] []
  refine V_aload_n (q := 1) X (TB.get tb_X2_sortOf 0 rfl) rfl rfl rfl ?_
  obtain ⟨x1, ex1, e⟩ := bs e
  refine V_getR (q := 4) X (TB.get tb_X2_sortOf 1 rfl) rfl lf_RX2_21 ex1 ?_
  refine V_iload_n (q := 5) X (TB.get tb_X2_sortOf 2 rfl) rfl rfl rfl ?_
  refine V_bipush (v := 6) (q := 7) X (TB.get tb_X2_sortOf 3 rfl) c_bipush_6 rfl ?_
  refine V_imul (q := 8) X (TB.get tb_X2_sortOf 4 rfl) rfl ?_
  refine V_iload_n (q := 9) X (TB.get tb_X2_sortOf 5 rfl) rfl rfl rfl ?_
  refine V_iadd (q := 10) X (TB.get tb_X2_sortOf 6 rfl) rfl ?_
  obtain ⟨x2, ex2, e⟩ := bs e
  refine V_iaload (q := 11) X (TB.get tb_X2_sortOf 7 rfl) rfl ex2 ?_
  cases e
  exact V_iret X hr hlk (TB.get tb_X2_sortOf 8 rfl)
set_option maxRecDepth 100000 in
set_option maxHeartbeats 4000000 in
theorem ok_X2_statesOf (a0 : Nat) (a1 : Int32) (a2 : Int32) (h : Hp) (res : Int32) (e : MX2_statesOf a0 a1 a2 h = some res) : CK yX2_statesOf cX2_statesOf 3 (some .int) 0 [.ref a0, .int a1, .int a2] h (some (.int res)) h ∧ (h.1 a0).1 = 2 := by
  obtain ⟨hcl, e⟩ := h_g_inv e
  refine ⟨CK_of pn_RX2 cm_X2_statesOf (Nat.le_of_ble_eq_true rfl) ?_, hcl⟩
  intro l D tc B nn p en s m args below meth c X hr hlk
  replace X : CX p (rmD 0) s m args c cX2_statesOf 3 RX2 D tc 0 := X
  show V p l en (rmD 0) s m args below meth c 3 D tc B nn (Ar B nn) s.heap 0 0 (MQ below (QC D tc B nn (Ar B nn) (some (.int res)) h) args s 0 0 (Ar B nn)) h 0 [(0, .ref a0), (1, .int a1), (2, .int a2)] []
  refine V_aload_n (q := 1) X (TB.get tb_X2_statesOf 0 rfl) rfl rfl rfl ?_
  obtain ⟨x1, ex1, e⟩ := bs e
  refine V_getR (q := 4) X (TB.get tb_X2_statesOf 1 rfl) rfl lf_RX2_24 ex1 ?_
  refine V_iload_n (q := 5) X (TB.get tb_X2_statesOf 2 rfl) rfl rfl rfl ?_
  refine V_bipush (v := 6) (q := 7) X (TB.get tb_X2_statesOf 3 rfl) c_bipush_6 rfl ?_
  refine V_imul (q := 8) X (TB.get tb_X2_statesOf 4 rfl) rfl ?_
  refine V_iload_n (q := 9) X (TB.get tb_X2_statesOf 5 rfl) rfl rfl rfl ?_
  refine V_iadd (q := 10) X (TB.get tb_X2_statesOf 6 rfl) rfl ?_
  obtain ⟨x2, ex2, e⟩ := bs e
  refine V_iaload (q := 11) X (TB.get tb_X2_statesOf 7 rfl) rfl ex2 ?_
  cases e
  exact V_iret X hr hlk (TB.get tb_X2_statesOf 8 rfl)
set_option maxRecDepth 100000 in
set_option maxHeartbeats 4000000 in
theorem ok_X1_reasonOfAsking (a0 : Nat) (a1 : Nat) (a2 : Int32) (a3 : Int32) (h : Hp) (res : Int32) (e : MX1_reasonOfAsking a0 a1 a2 a3 h = some res) : CK yX1_reasonOfAsking cX1_reasonOfAsking 5 (some .int) 1 [.ref a0, .ref a1, .int a2, .int a3] h (some (.int res)) h ∧ (h.1 a0).1 = 1 := by
  obtain ⟨hcl, e⟩ := h_g_inv e
  refine ⟨CK_of pn_RX1 cm_X1_reasonOfAsking (Nat.le_of_ble_eq_true rfl) ?_, hcl⟩
  intro l D tc B nn p en s m args below meth c X hr hlk
  replace X : CX p (rmD 1) s m args c cX1_reasonOfAsking 5 RX1 D tc 1 := X
  show V p l en (rmD 1) s m args below meth c 5 D tc B nn (Ar B nn) s.heap 0 0 (MQ below (QC D tc B nn (Ar B nn) (some (.int res)) h) args s 0 0 (Ar B nn)) h 0 [(0, .ref a0), (1, .ref a1), (2, .int a2), (3, .int a3)] []
  refine V_aload_n (q := 1) X (TB.get tb_X1_reasonOfAsking 0 rfl) rfl rfl rfl ?_
  obtain ⟨x1, ex1, e⟩ := bs e
  refine V_getR (q := 4) X (TB.get tb_X1_reasonOfAsking 1 rfl) rfl lf_RX1_82 ex1 ?_
  refine V_iload_n (q := 5) X (TB.get tb_X1_reasonOfAsking 2 rfl) rfl rfl rfl ?_
  obtain ⟨x2, ex2, e⟩ := bs e
  refine V_iaload (q := 6) X (TB.get tb_X1_reasonOfAsking 3 rfl) rfl ex2 ?_
  refine V_istore (q := 8) (lv' := [(4, .int x2), (0, .ref a0), (1, .ref a1), (2, .int a2), (3, .int a3)]) X (TB.get tb_X1_reasonOfAsking 4 rfl) rfl (Nat.le_of_ble_eq_true rfl) rfl ?_
  refine V_aload_n (q := 9) X (TB.get tb_X1_reasonOfAsking 5 rfl) rfl rfl rfl ?_
  obtain ⟨x3, ex3, e⟩ := bs e
  refine V_getR (q := 12) X (TB.get tb_X1_reasonOfAsking 6 rfl) rfl lf_RX1_85 ex3 ?_
  refine V_iload (q := 14) X (TB.get tb_X1_reasonOfAsking 7 rfl) rfl rfl ?_
  refine V_iload_n (q := 15) X (TB.get tb_X1_reasonOfAsking 8 rfl) rfl rfl rfl ?_
  obtain ⟨x4, ex4, e⟩ := bs e
  refine V_callV (q := 18) (As := [.int x2, .int a3]) (rest := []) (st' := [.int x4]) X (TB.get tb_X1_reasonOfAsking 9 rfl) rfl cv_RX1_89 (ok_X2_sortOf x3 x2 a3 h x4 ex4).1 (ok_X2_sortOf x3 x2 a3 h x4 ex4).2 (Nat.le_of_ble_eq_true rfl) rfl rfl (Nat.le_of_ble_eq_true rfl) rfl ?_
  refine V_iconst (v := 2) (q := 19) X (TB.get tb_X1_reasonOfAsking 10 rfl) c_iconst_2 rfl ?_
  refine jn_elim (P := (fun (k : Option (Int32)) => k = some res → V p l en (rmD 1) s m args below meth c 5 D tc B nn (Ar B nn) s.heap 0 0 (MQ below (QC D tc B nn (Ar B nn) (some (.int res)) h) args s 0 0 (Ar B nn)) h 32 [(0, .ref a0), (1, .ref a1), (2, .int a2), (3, .int a3), (4, .int x2)] [])) e ?_ (fun j5 Jj5 e => ?_)
  · intro e
    refine V_aload_n (q := 33) X (TB.get tb_X1_reasonOfAsking 18 rfl) rfl rfl rfl ?_
    obtain ⟨x6, ex6, e⟩ := bs e
    refine V_getR (q := 36) X (TB.get tb_X1_reasonOfAsking 19 rfl) rfl lf_RX1_11 ex6 ?_
    refine V_bipush (v := 6) (q := 38) X (TB.get tb_X1_reasonOfAsking 20 rfl) c_bipush_6 rfl ?_
    refine V_iload_n (q := 39) X (TB.get tb_X1_reasonOfAsking 21 rfl) rfl rfl rfl ?_
    refine V_iadd (q := 40) X (TB.get tb_X1_reasonOfAsking 22 rfl) rfl ?_
    obtain ⟨x7, ex7, e⟩ := bs e
    refine V_iaload (q := 41) X (TB.get tb_X1_reasonOfAsking 23 rfl) rfl ex7 ?_
    refine V_aload_n (q := 42) X (TB.get tb_X1_reasonOfAsking 24 rfl) rfl rfl rfl ?_
    refine V_getR (q := 45) X (TB.get tb_X1_reasonOfAsking 25 rfl) rfl lf_RX1_85 ex3 ?_
    refine V_iload (q := 47) X (TB.get tb_X1_reasonOfAsking 26 rfl) rfl rfl ?_
    refine V_iload_n (q := 48) X (TB.get tb_X1_reasonOfAsking 27 rfl) rfl rfl rfl ?_
    obtain ⟨x8, ex8, e⟩ := bs e
    refine V_callV (q := 51) (As := [.int x2, .int a3]) (rest := [.int x7]) (st' := [.int x8, .int x7]) X (TB.get tb_X1_reasonOfAsking 28 rfl) rfl cv_RX1_94 (ok_X2_statesOf x3 x2 a3 h x8 ex8).1 (ok_X2_statesOf x3 x2 a3 h x8 ex8).2 (Nat.le_of_ble_eq_true rfl) rfl rfl (Nat.le_of_ble_eq_true rfl) rfl ?_
    refine V_iconst (v := -1) (q := 52) X (TB.get tb_X1_reasonOfAsking 29 rfl) c_iconst_m1 rfl ?_
    refine V_ixor (q := 53) X (TB.get tb_X1_reasonOfAsking 30 rfl) rfl ?_
    refine V_iand (q := 54) X (TB.get tb_X1_reasonOfAsking 31 rfl) rfl ?_
    refine V_if_eq (q := 57) (t := 61) X (TB.get tb_X1_reasonOfAsking 32 rfl) rfl rfl (fun hc => ?_) (fun hc => ?_)
    · have e := (if_pos hc).symm.trans e
      refine V_iconst (v := 0) (q := 62) X (TB.get tb_X1_reasonOfAsking 35 rfl) c_iconst_0 rfl ?_
      cases e
      exact V_iret X hr hlk (TB.get tb_X1_reasonOfAsking 36 rfl)
    · have e := (if_neg hc).symm.trans e
      refine V_iconst (v := 4) (q := 58) X (TB.get tb_X1_reasonOfAsking 33 rfl) c_iconst_4 rfl ?_
      refine V_goto (q := 62) X (TB.get tb_X1_reasonOfAsking 34 rfl) rfl ?_
      cases e
      exact V_iret X hr hlk (TB.get tb_X1_reasonOfAsking 36 rfl)
  refine V_icmp_eq (q := 22) (t := 32) X (TB.get tb_X1_reasonOfAsking 11 rfl) rfl rfl (fun hc => ?_) (fun hc => ?_)
  · have e := (if_pos hc).symm.trans e
    refine V_sub (lv' := [(0, .ref a0), (1, .ref a1), (2, .int a2), (3, .int a3), (4, .int x2)]) [1, 2, 3, 4, 0] rfl ?_
    exact Jj5 e
  · have e := (if_neg hc).symm.trans e
    refine V_aload_n (q := 23) X (TB.get tb_X1_reasonOfAsking 12 rfl) rfl rfl rfl ?_
    refine V_iload_n (q := 24) X (TB.get tb_X1_reasonOfAsking 13 rfl) rfl rfl rfl ?_
    obtain ⟨x9, ex9, e⟩ := bs e
    refine V_callV (q := 27) (As := [.int a2]) (rest := []) (st' := [.int x9]) X (TB.get tb_X1_reasonOfAsking 14 rfl) rfl cv_RX1_53 (ok_X1_reasonOfHow a0 a2 h x9 ex9).1 (ok_X1_reasonOfHow a0 a2 h x9 ex9).2 (Nat.le_of_ble_eq_true rfl) rfl rfl (Nat.le_of_ble_eq_true rfl) rfl ?_
    refine V_if_eq (q := 30) (t := 32) X (TB.get tb_X1_reasonOfAsking 15 rfl) rfl rfl (fun hc => ?_) (fun hc => ?_)
    · have e := (if_pos hc).symm.trans e
      refine V_sub (lv' := [(0, .ref a0), (1, .ref a1), (2, .int a2), (3, .int a3), (4, .int x2)]) [1, 2, 3, 4, 0] rfl ?_
      exact Jj5 e
    · have e := (if_neg hc).symm.trans e
      refine V_iconst (v := 3) (q := 31) X (TB.get tb_X1_reasonOfAsking 16 rfl) c_iconst_3 rfl ?_
      cases e
      exact V_iret X hr hlk (TB.get tb_X1_reasonOfAsking 17 rfl)
set_option maxRecDepth 100000 in
set_option maxHeartbeats 4000000 in
theorem ok_X1_reasonAt (fu : Nat) (a0 : Nat) (a1 : Nat) (a2 : Int32) (h : Hp) (res : Int32) (e : MX1_reasonAt fu a0 a1 a2 h = some res) : CK yX1_reasonAt cX1_reasonAt 5 (some .int) 2 [.ref a0, .ref a1, .int a2] h (some (.int res)) h ∧ (h.1 a0).1 = 1 := by
  obtain ⟨hcl, e⟩ := h_g_inv e
  refine ⟨CK_of pn_RX1 cm_X1_reasonAt (Nat.le_of_ble_eq_true rfl) ?_, hcl⟩
  intro l D tc B nn p en s m args below meth c X hr hlk
  replace X : CX p (rmD 2) s m args c cX1_reasonAt 5 RX1 D tc 2 := X
  show V p l en (rmD 2) s m args below meth c 5 D tc B nn (Ar B nn) s.heap 0 0 (MQ below (QC D tc B nn (Ar B nn) (some (.int res)) h) args s 0 0 (Ar B nn)) h 0 [(0, .ref a0), (1, .ref a1), (2, .int a2)] []
  refine V_iload_n (q := 1) X (TB.get tb_X1_reasonAt 0 rfl) rfl rfl rfl ?_
  refine V_aload_n (q := 2) X (TB.get tb_X1_reasonAt 1 rfl) rfl rfl rfl ?_
  obtain ⟨x1, ex1, e⟩ := bs e
  refine V_getI (q := 5) X (TB.get tb_X1_reasonAt 2 rfl) rfl lf_RX1_27 ex1 ?_
  refine V_icmp_lt (q := 8) (t := 14) X (TB.get tb_X1_reasonAt 3 rfl) rfl rfl (fun hc => ?_) (fun hc => ?_)
  · have e := (if_pos hc).symm.trans e
    refine V_aload_n (q := 15) X (TB.get tb_X1_reasonAt 8 rfl) rfl rfl rfl ?_
    obtain ⟨x2, ex2, e⟩ := bs e
    refine V_getR (q := 18) X (TB.get tb_X1_reasonAt 9 rfl) rfl lf_RX1_37 ex2 ?_
    refine V_iload_n (q := 19) X (TB.get tb_X1_reasonAt 10 rfl) rfl rfl rfl ?_
    obtain ⟨x3, ex3, e⟩ := bs e
    refine V_iaload (q := 20) X (TB.get tb_X1_reasonAt 11 rfl) rfl ex3 ?_
    refine V_istore_n (q := 21) (lv' := [(3, .int x3), (0, .ref a0), (1, .ref a1), (2, .int a2)]) X (TB.get tb_X1_reasonAt 12 rfl) rfl rfl (Nat.le_of_ble_eq_true rfl) rfl ?_
    refine V_aload_n (q := 22) X (TB.get tb_X1_reasonAt 13 rfl) rfl rfl rfl ?_
    obtain ⟨x4, ex4, e⟩ := bs e
    refine V_getR (q := 25) X (TB.get tb_X1_reasonAt 14 rfl) rfl lf_RX1_40 ex4 ?_
    refine V_iload_n (q := 26) X (TB.get tb_X1_reasonAt 15 rfl) rfl rfl rfl ?_
    obtain ⟨x5, ex5, e⟩ := bs e
    refine V_iaload (q := 27) X (TB.get tb_X1_reasonAt 16 rfl) rfl ex5 ?_
    refine V_istore (q := 29) (lv' := [(4, .int x5), (3, .int x3), (0, .ref a0), (1, .ref a1), (2, .int a2)]) X (TB.get tb_X1_reasonAt 17 rfl) rfl (Nat.le_of_ble_eq_true rfl) rfl ?_
    refine V_aload_n (q := 30) X (TB.get tb_X1_reasonAt 18 rfl) rfl rfl rfl ?_
    obtain ⟨x6, ex6, e⟩ := bs e
    refine V_getR (q := 33) X (TB.get tb_X1_reasonAt 19 rfl) rfl lf_RX1_43 ex6 ?_
    refine V_iload_n (q := 34) X (TB.get tb_X1_reasonAt 20 rfl) rfl rfl rfl ?_
    obtain ⟨x7, ex7, e⟩ := bs e
    refine V_iaload (q := 35) X (TB.get tb_X1_reasonAt 21 rfl) rfl ex7 ?_
    refine jn_elim (P := (fun (k : Option (Int32)) => k = some res → V p l en (rmD 2) s m args below meth c 5 D tc B nn (Ar B nn) s.heap 0 0 (MQ below (QC D tc B nn (Ar B nn) (some (.int res)) h) args s 0 0 (Ar B nn)) h 98 [(0, .ref a0), (3, .int x3), (4, .int x5)] [])) e ?_ (fun j8 Jj8 e => ?_)
    · intro e
      refine V_aload_n (q := 99) X (TB.get tb_X1_reasonAt 31 rfl) rfl rfl rfl ?_
      refine V_iload_n (q := 100) X (TB.get tb_X1_reasonAt 32 rfl) rfl rfl rfl ?_
      obtain ⟨x9, ex9, e⟩ := bs e
      refine V_callV (q := 103) (As := [.int x3]) (rest := []) (st' := [.int x9]) X (TB.get tb_X1_reasonAt 33 rfl) rfl cv_RX1_46 (ok_X1_mayHold a0 x3 h x9 ex9).1 (ok_X1_mayHold a0 x3 h x9 ex9).2 (Nat.le_of_ble_eq_true rfl) rfl rfl (Nat.le_of_ble_eq_true rfl) rfl ?_
      refine jn_elim (P := (fun (k : Option (Int32)) => k = some res → V p l en (rmD 2) s m args below meth c 5 D tc B nn (Ar B nn) s.heap 0 0 (MQ below (QC D tc B nn (Ar B nn) (some (.int res)) h) args s 0 0 (Ar B nn)) h 115 [] [])) e ?_ (fun j10 Jj10 e => ?_)
      · intro e
        refine V_iconst (v := 1) (q := 116) X (TB.get tb_X1_reasonAt 39 rfl) c_iconst_1 rfl ?_
        refine V_goto (q := 120) X (TB.get tb_X1_reasonAt 40 rfl) rfl ?_
        cases e
        exact V_iret X hr hlk (TB.get tb_X1_reasonAt 42 rfl)
      refine V_if_ne (q := 106) (t := 115) X (TB.get tb_X1_reasonAt 34 rfl) rfl rfl (fun hc => ?_) (fun hc => ?_)
      · have e := (if_neg hc).symm.trans e
        refine V_sub (lv' := []) [] rfl ?_
        exact Jj10 e
      · have e := (if_pos hc).symm.trans e
        refine V_aload_n (q := 107) X (TB.get tb_X1_reasonAt 35 rfl) rfl rfl rfl ?_
        refine V_iload (q := 109) X (TB.get tb_X1_reasonAt 36 rfl) rfl rfl ?_
        obtain ⟨x11, ex11, e⟩ := bs e
        refine V_callV (q := 112) (As := [.int x5]) (rest := []) (st' := [.int x11]) X (TB.get tb_X1_reasonAt 37 rfl) rfl cv_RX1_50 (ok_X1_mayLack a0 x5 h x11 ex11).1 (ok_X1_mayLack a0 x5 h x11 ex11).2 (Nat.le_of_ble_eq_true rfl) rfl rfl (Nat.le_of_ble_eq_true rfl) rfl ?_
        refine V_if_eq (q := 115) (t := 119) X (TB.get tb_X1_reasonAt 38 rfl) rfl rfl (fun hc => ?_) (fun hc => ?_)
        · have e := (if_pos hc).symm.trans e
          refine V_iconst (v := 0) (q := 120) X (TB.get tb_X1_reasonAt 41 rfl) c_iconst_0 rfl ?_
          cases e
          exact V_iret X hr hlk (TB.get tb_X1_reasonAt 42 rfl)
        · have e := (if_neg hc).symm.trans e
          refine V_sub (lv' := []) [] rfl ?_
          exact Jj10 e
    refine jn_elim (P := (fun (k : Option (Int32)) => k = some res → V p l en (rmD 2) s m args below meth c 5 D tc B nn (Ar B nn) s.heap 0 0 (MQ below (QC D tc B nn (Ar B nn) (some (.int res)) h) args s 0 0 (Ar B nn)) h 197 [(0, .ref a0), (1, .ref a1), (2, .int a2), (3, .int x3)] [])) e ?_ (fun j12 Jj12 e => ?_)
    · intro e
      refine V_aload_n (q := 198) X (TB.get tb_X1_reasonAt 83 rfl) rfl rfl rfl ?_
      refine V_iload_n (q := 199) X (TB.get tb_X1_reasonAt 84 rfl) rfl rfl rfl ?_
      obtain ⟨x13, ex13, e⟩ := bs e
      refine V_callV (q := 202) (As := [.int x3]) (rest := []) (st' := [.int x13]) X (TB.get tb_X1_reasonAt 85 rfl) rfl cv_RX1_50 (ok_X1_mayLack a0 x3 h x13 ex13).1 (ok_X1_mayLack a0 x3 h x13 ex13).2 (Nat.le_of_ble_eq_true rfl) rfl rfl (Nat.le_of_ble_eq_true rfl) rfl ?_
      refine V_if_eq (q := 205) (t := 209) X (TB.get tb_X1_reasonAt 86 rfl) rfl rfl (fun hc => ?_) (fun hc => ?_)
      · have e := (if_pos hc).symm.trans e
        refine V_aload_n (q := 210) X (TB.get tb_X1_reasonAt 89 rfl) rfl rfl rfl ?_
        refine V_aload_n (q := 211) X (TB.get tb_X1_reasonAt 90 rfl) rfl rfl rfl ?_
        refine V_iload_n (q := 212) X (TB.get tb_X1_reasonAt 91 rfl) rfl rfl rfl ?_
        refine V_aload_n (q := 213) X (TB.get tb_X1_reasonAt 92 rfl) rfl rfl rfl ?_
        obtain ⟨x14, ex14, e⟩ := bs e
        refine V_getR (q := 216) X (TB.get tb_X1_reasonAt 93 rfl) rfl lf_RX1_65 ex14 ?_
        refine V_iload_n (q := 217) X (TB.get tb_X1_reasonAt 94 rfl) rfl rfl rfl ?_
        obtain ⟨x15, ex15, e⟩ := bs e
        refine V_iaload (q := 218) X (TB.get tb_X1_reasonAt 95 rfl) rfl ex15 ?_
        obtain ⟨x16, ex16, e⟩ := bs e
        refine V_callV (q := 221) (As := [.ref a1, .int x3, .int x15]) (rest := []) (st' := [.int x16]) X (TB.get tb_X1_reasonAt 96 rfl) rfl cv_RX1_68 (ok_X1_reasonOfAsking a0 a1 x3 x15 h x16 ex16).1 (ok_X1_reasonOfAsking a0 a1 x3 x15 h x16 ex16).2 (Nat.le_of_ble_eq_true rfl) rfl rfl (Nat.le_of_ble_eq_true rfl) rfl ?_
        cases e
        exact V_iret X hr hlk (TB.get tb_X1_reasonAt 97 rfl)
      · have e := (if_neg hc).symm.trans e
        refine V_iconst (v := 1) (q := 206) X (TB.get tb_X1_reasonAt 87 rfl) c_iconst_1 rfl ?_
        refine V_goto (q := 221) X (TB.get tb_X1_reasonAt 88 rfl) rfl ?_
        cases e
        exact V_iret X hr hlk (TB.get tb_X1_reasonAt 97 rfl)
    by_cases hc0 : x7 = (0 : Int32)
    · have e := (if_pos hc0).symm.trans e
      rw [hc0]
      refine V_tabIn (q := 84) X (TB.get tb_X1_reasonAt 22 rfl) (by decide) (by decide) rfl rfl ?_
      refine V_aload_n (q := 85) X (TB.get tb_X1_reasonAt 23 rfl) rfl rfl rfl ?_
      refine V_iload_n (q := 86) X (TB.get tb_X1_reasonAt 24 rfl) rfl rfl rfl ?_
      obtain ⟨x17, ex17, e⟩ := bs e
      refine V_callV (q := 89) (As := [.int x3]) (rest := []) (st' := [.int x17]) X (TB.get tb_X1_reasonAt 25 rfl) rfl cv_RX1_46 (ok_X1_mayHold a0 x3 h x17 ex17).1 (ok_X1_mayHold a0 x3 h x17 ex17).2 (Nat.le_of_ble_eq_true rfl) rfl rfl (Nat.le_of_ble_eq_true rfl) rfl ?_
      refine V_if_eq (q := 92) (t := 96) X (TB.get tb_X1_reasonAt 26 rfl) rfl rfl (fun hc => ?_) (fun hc => ?_)
      · have e := (if_pos hc).symm.trans e
        refine V_iconst (v := 0) (q := 97) X (TB.get tb_X1_reasonAt 29 rfl) c_iconst_0 rfl ?_
        cases e
        exact V_iret X hr hlk (TB.get tb_X1_reasonAt 30 rfl)
      · have e := (if_neg hc).symm.trans e
        refine V_iconst (v := 1) (q := 93) X (TB.get tb_X1_reasonAt 27 rfl) c_iconst_1 rfl ?_
        refine V_goto (q := 97) X (TB.get tb_X1_reasonAt 28 rfl) rfl ?_
        cases e
        exact V_iret X hr hlk (TB.get tb_X1_reasonAt 30 rfl)
    have e := (if_neg hc0).symm.trans e
    by_cases hc1 : x7 = (1 : Int32)
    · have e := (if_pos hc1).symm.trans e
      rw [hc1]
      refine V_tabIn (q := 98) X (TB.get tb_X1_reasonAt 22 rfl) (by decide) (by decide) rfl rfl ?_
      refine V_sub (lv' := [(0, .ref a0), (3, .int x3), (4, .int x5)]) [2, 1, 0] rfl ?_
      exact Jj8 e
    have e := (if_neg hc1).symm.trans e
    by_cases hc2 : x7 = (2 : Int32)
    · have e := (if_pos hc2).symm.trans e
      rw [hc2]
      refine V_tabIn (q := 121) X (TB.get tb_X1_reasonAt 22 rfl) (by decide) (by decide) rfl rfl ?_
      refine V_aload_n (q := 122) X (TB.get tb_X1_reasonAt 43 rfl) rfl rfl rfl ?_
      refine V_iload_n (q := 123) X (TB.get tb_X1_reasonAt 44 rfl) rfl rfl rfl ?_
      obtain ⟨x18, ex18, e⟩ := bs e
      refine V_callV (q := 126) (As := [.int x3]) (rest := []) (st' := [.int x18]) X (TB.get tb_X1_reasonAt 45 rfl) rfl cv_RX1_46 (ok_X1_mayHold a0 x3 h x18 ex18).1 (ok_X1_mayHold a0 x3 h x18 ex18).2 (Nat.le_of_ble_eq_true rfl) rfl rfl (Nat.le_of_ble_eq_true rfl) rfl ?_
      refine jn_elim (P := (fun (k : Option (Int32)) => k = some res → V p l en (rmD 2) s m args below meth c 5 D tc B nn (Ar B nn) s.heap 0 0 (MQ below (QC D tc B nn (Ar B nn) (some (.int res)) h) args s 0 0 (Ar B nn)) h 138 [] [])) e ?_ (fun j19 Jj19 e => ?_)
      · intro e
        refine V_iconst (v := 1) (q := 139) X (TB.get tb_X1_reasonAt 51 rfl) c_iconst_1 rfl ?_
        refine V_goto (q := 148) X (TB.get tb_X1_reasonAt 52 rfl) rfl ?_
        cases e
        exact V_iret X hr hlk (TB.get tb_X1_reasonAt 56 rfl)
      refine V_if_ne (q := 129) (t := 138) X (TB.get tb_X1_reasonAt 46 rfl) rfl rfl (fun hc => ?_) (fun hc => ?_)
      · have e := (if_neg hc).symm.trans e
        refine V_sub (lv' := []) [] rfl ?_
        exact Jj19 e
      · have e := (if_pos hc).symm.trans e
        refine V_aload_n (q := 130) X (TB.get tb_X1_reasonAt 47 rfl) rfl rfl rfl ?_
        refine V_iload (q := 132) X (TB.get tb_X1_reasonAt 48 rfl) rfl rfl ?_
        obtain ⟨x20, ex20, e⟩ := bs e
        refine V_callV (q := 135) (As := [.int x5]) (rest := []) (st' := [.int x20]) X (TB.get tb_X1_reasonAt 49 rfl) rfl cv_RX1_50 (ok_X1_mayLack a0 x5 h x20 ex20).1 (ok_X1_mayLack a0 x5 h x20 ex20).2 (Nat.le_of_ble_eq_true rfl) rfl rfl (Nat.le_of_ble_eq_true rfl) rfl ?_
        refine V_if_eq (q := 138) (t := 142) X (TB.get tb_X1_reasonAt 50 rfl) rfl rfl (fun hc => ?_) (fun hc => ?_)
        · have e := (if_pos hc).symm.trans e
          refine V_aload_n (q := 143) X (TB.get tb_X1_reasonAt 53 rfl) rfl rfl rfl ?_
          refine V_iload (q := 145) X (TB.get tb_X1_reasonAt 54 rfl) rfl rfl ?_
          obtain ⟨x21, ex21, e⟩ := bs e
          refine V_callV (q := 148) (As := [.int x5]) (rest := []) (st' := [.int x21]) X (TB.get tb_X1_reasonAt 55 rfl) rfl cv_RX1_53 (ok_X1_reasonOfHow a0 x5 h x21 ex21).1 (ok_X1_reasonOfHow a0 x5 h x21 ex21).2 (Nat.le_of_ble_eq_true rfl) rfl rfl (Nat.le_of_ble_eq_true rfl) rfl ?_
          cases e
          exact V_iret X hr hlk (TB.get tb_X1_reasonAt 56 rfl)
        · have e := (if_neg hc).symm.trans e
          refine V_sub (lv' := []) [] rfl ?_
          exact Jj19 e
    have e := (if_neg hc2).symm.trans e
    by_cases hc3 : x7 = (3 : Int32)
    · have e := (if_pos hc3).symm.trans e
      rw [hc3]
      refine V_tabIn (q := 98) X (TB.get tb_X1_reasonAt 22 rfl) (by decide) (by decide) rfl rfl ?_
      refine V_sub (lv' := [(0, .ref a0), (3, .int x3), (4, .int x5)]) [2, 1, 0] rfl ?_
      exact Jj8 e
    have e := (if_neg hc3).symm.trans e
    by_cases hc4 : x7 = (4 : Int32)
    · have e := (if_pos hc4).symm.trans e
      rw [hc4]
      refine V_tabIn (q := 149) X (TB.get tb_X1_reasonAt 22 rfl) (by decide) (by decide) rfl rfl ?_
      refine V_aload_n (q := 150) X (TB.get tb_X1_reasonAt 57 rfl) rfl rfl rfl ?_
      refine V_iload_n (q := 151) X (TB.get tb_X1_reasonAt 58 rfl) rfl rfl rfl ?_
      obtain ⟨x22, ex22, e⟩ := bs e
      refine V_callV (q := 154) (As := [.int x3]) (rest := []) (st' := [.int x22]) X (TB.get tb_X1_reasonAt 59 rfl) rfl cv_RX1_50 (ok_X1_mayLack a0 x3 h x22 ex22).1 (ok_X1_mayLack a0 x3 h x22 ex22).2 (Nat.le_of_ble_eq_true rfl) rfl rfl (Nat.le_of_ble_eq_true rfl) rfl ?_
      refine jn_elim (P := (fun (k : Option (Int32)) => k = some res → V p l en (rmD 2) s m args below meth c 5 D tc B nn (Ar B nn) s.heap 0 0 (MQ below (QC D tc B nn (Ar B nn) (some (.int res)) h) args s 0 0 (Ar B nn)) h 166 [] [])) e ?_ (fun j23 Jj23 e => ?_)
      · intro e
        refine V_iconst (v := 1) (q := 167) X (TB.get tb_X1_reasonAt 65 rfl) c_iconst_1 rfl ?_
        refine V_goto (q := 177) X (TB.get tb_X1_reasonAt 66 rfl) rfl ?_
        cases e
        exact V_iret X hr hlk (TB.get tb_X1_reasonAt 71 rfl)
      refine V_if_ne (q := 157) (t := 166) X (TB.get tb_X1_reasonAt 60 rfl) rfl rfl (fun hc => ?_) (fun hc => ?_)
      · have e := (if_neg hc).symm.trans e
        refine V_sub (lv' := []) [] rfl ?_
        exact Jj23 e
      · have e := (if_pos hc).symm.trans e
        refine V_aload_n (q := 158) X (TB.get tb_X1_reasonAt 61 rfl) rfl rfl rfl ?_
        refine V_iload (q := 160) X (TB.get tb_X1_reasonAt 62 rfl) rfl rfl ?_
        obtain ⟨x24, ex24, e⟩ := bs e
        refine V_callV (q := 163) (As := [.int x5]) (rest := []) (st' := [.int x24]) X (TB.get tb_X1_reasonAt 63 rfl) rfl cv_RX1_50 (ok_X1_mayLack a0 x5 h x24 ex24).1 (ok_X1_mayLack a0 x5 h x24 ex24).2 (Nat.le_of_ble_eq_true rfl) rfl rfl (Nat.le_of_ble_eq_true rfl) rfl ?_
        refine V_if_eq (q := 166) (t := 170) X (TB.get tb_X1_reasonAt 64 rfl) rfl rfl (fun hc => ?_) (fun hc => ?_)
        · have e := (if_pos hc).symm.trans e
          refine V_aload_n (q := 171) X (TB.get tb_X1_reasonAt 67 rfl) rfl rfl rfl ?_
          refine V_iload_n (q := 172) X (TB.get tb_X1_reasonAt 68 rfl) rfl rfl rfl ?_
          refine V_iload (q := 174) X (TB.get tb_X1_reasonAt 69 rfl) rfl rfl ?_
          obtain ⟨x25, ex25, e⟩ := bs e
          refine V_callV (q := 177) (As := [.int x3, .int x5]) (rest := []) (st' := [.int x25]) X (TB.get tb_X1_reasonAt 70 rfl) rfl cv_RX1_57 (ok_X1_reasonOfJoin a0 x3 x5 h x25 ex25).1 (ok_X1_reasonOfJoin a0 x3 x5 h x25 ex25).2 (Nat.le_of_ble_eq_true rfl) rfl rfl (Nat.le_of_ble_eq_true rfl) rfl ?_
          cases e
          exact V_iret X hr hlk (TB.get tb_X1_reasonAt 71 rfl)
        · have e := (if_neg hc).symm.trans e
          refine V_sub (lv' := []) [] rfl ?_
          exact Jj23 e
    have e := (if_neg hc4).symm.trans e
    by_cases hc5 : x7 = (5 : Int32)
    · have e := (if_pos hc5).symm.trans e
      rw [hc5]
      refine V_tabIn (q := 178) X (TB.get tb_X1_reasonAt 22 rfl) (by decide) (by decide) rfl rfl ?_
      refine V_aload_n (q := 179) X (TB.get tb_X1_reasonAt 72 rfl) rfl rfl rfl ?_
      refine V_iload_n (q := 180) X (TB.get tb_X1_reasonAt 73 rfl) rfl rfl rfl ?_
      obtain ⟨x26, ex26, e⟩ := bs e
      refine V_callV (q := 183) (As := [.int x3]) (rest := []) (st' := [.int x26]) X (TB.get tb_X1_reasonAt 74 rfl) rfl cv_RX1_50 (ok_X1_mayLack a0 x3 h x26 ex26).1 (ok_X1_mayLack a0 x3 h x26 ex26).2 (Nat.le_of_ble_eq_true rfl) rfl rfl (Nat.le_of_ble_eq_true rfl) rfl ?_
      refine V_if_eq (q := 186) (t := 190) X (TB.get tb_X1_reasonAt 75 rfl) rfl rfl (fun hc => ?_) (fun hc => ?_)
      · have e := (if_pos hc).symm.trans e
        refine V_aload_n (q := 191) X (TB.get tb_X1_reasonAt 78 rfl) rfl rfl rfl ?_
        refine V_aload_n (q := 192) X (TB.get tb_X1_reasonAt 79 rfl) rfl rfl rfl ?_
        refine V_iload_n (q := 193) X (TB.get tb_X1_reasonAt 80 rfl) rfl rfl rfl ?_
        obtain ⟨x27, ex27, e⟩ := bs e
        refine V_callV (q := 196) (As := [.ref a1, .int x3]) (rest := []) (st' := [.int x27]) X (TB.get tb_X1_reasonAt 81 rfl) rfl cv_RX1_61 (ok_X1_reasonOfDrop a0 a1 x3 h x27 ex27).1 (ok_X1_reasonOfDrop a0 a1 x3 h x27 ex27).2 (Nat.le_of_ble_eq_true rfl) rfl rfl (Nat.le_of_ble_eq_true rfl) rfl ?_
        cases e
        exact V_iret X hr hlk (TB.get tb_X1_reasonAt 82 rfl)
      · have e := (if_neg hc).symm.trans e
        refine V_iconst (v := 1) (q := 187) X (TB.get tb_X1_reasonAt 76 rfl) c_iconst_1 rfl ?_
        refine V_goto (q := 196) X (TB.get tb_X1_reasonAt 77 rfl) rfl ?_
        cases e
        exact V_iret X hr hlk (TB.get tb_X1_reasonAt 82 rfl)
    have e := (if_neg hc5).symm.trans e
    by_cases hc6 : x7 = (6 : Int32)
    · have e := (if_pos hc6).symm.trans e
      rw [hc6]
      refine V_tabIn (q := 197) X (TB.get tb_X1_reasonAt 22 rfl) (by decide) (by decide) rfl rfl ?_
      refine V_sub (lv' := [(0, .ref a0), (1, .ref a1), (2, .int a2), (3, .int x3)]) [2, 3, 4, 1] rfl ?_
      exact Jj12 e
    have e := (if_neg hc6).symm.trans e
    by_cases hc7 : x7 = (7 : Int32)
    · have e := (if_pos hc7).symm.trans e
      rw [hc7]
      refine V_tabIn (q := 197) X (TB.get tb_X1_reasonAt 22 rfl) (by decide) (by decide) rfl rfl ?_
      refine V_sub (lv' := [(0, .ref a0), (1, .ref a1), (2, .int a2), (3, .int x3)]) [2, 3, 4, 1] rfl ?_
      exact Jj12 e
    have e := (if_neg hc7).symm.trans e
    by_cases hc8 : x7 = (8 : Int32)
    · have e := (if_pos hc8).symm.trans e
      rw [hc8]
      refine V_tabIn (q := 197) X (TB.get tb_X1_reasonAt 22 rfl) (by decide) (by decide) rfl rfl ?_
      refine V_sub (lv' := [(0, .ref a0), (1, .ref a1), (2, .int a2), (3, .int x3)]) [2, 3, 4, 1] rfl ?_
      exact Jj12 e
    have e := (if_neg hc8).symm.trans e
    have hout : x7.toInt < 0 ∨ 8 < x7.toInt := tab_out x7 (0) (8) [0, 1, 2, 3, 4, 5, 6, 7, 8] (by decide +kernel) (fun v hv => by simp only [List.mem_cons, List.not_mem_nil, or_false] at hv; rcases hv with rfl | rfl | rfl | rfl | rfl | rfl | rfl | rfl | rfl <;> assumption)
    refine V_tabOut (q := 222) X (TB.get tb_X1_reasonAt 22 rfl) hout rfl ?_
    refine V_iconst (v := 0) (q := 223) X (TB.get tb_X1_reasonAt 98 rfl) c_iconst_0 rfl ?_
    cases e
    exact V_iret X hr hlk (TB.get tb_X1_reasonAt 99 rfl)
  · have e := (if_neg hc).symm.trans e
    refine V_aload_n (q := 9) X (TB.get tb_X1_reasonAt 4 rfl) rfl rfl rfl ?_
    refine V_aload_n (q := 10) X (TB.get tb_X1_reasonAt 5 rfl) rfl rfl rfl ?_
    obtain ⟨x28, ex28, e⟩ := bs e
    refine V_callV (q := 13) (As := [.ref a1]) (rest := []) (st' := [.int x28]) X (TB.get tb_X1_reasonAt 6 rfl) rfl cv_RX1_33 (ok_X1_reasonAtEnd fu a0 a1 h x28 ex28).1 (ok_X1_reasonAtEnd fu a0 a1 h x28 ex28).2 (Nat.le_of_ble_eq_true rfl) rfl rfl (Nat.le_of_ble_eq_true rfl) rfl ?_
    cases e
    exact V_iret X hr hlk (TB.get tb_X1_reasonAt 7 rfl)
set_option maxRecDepth 100000 in
set_option maxHeartbeats 4000000 in
theorem ok_X0_judge (fu : Nat) (a0 : Nat) (a1 : Nat) (a2 : Int32) (h : Hp) (res : Hp) (e : MX0_judge fu a0 a1 a2 h = some res) : CK yX0_judge cX0_judge 4 none 3 [.ref a0, .ref a1, .int a2] h none res ∧ (h.1 a0).1 = 0 := by
  obtain ⟨hcl, e⟩ := h_g_inv e
  refine ⟨CK_of pn_RX0 cm_X0_judge (Nat.le_of_ble_eq_true rfl) ?_, hcl⟩
  intro l D tc B nn p en s m args below meth c X hr hlk
  replace X : CX p (rmD 3) s m args c cX0_judge 4 RX0 D tc 3 := X
  show V p l en (rmD 3) s m args below meth c 4 D tc B nn (Ar B nn) s.heap 0 0 (MQ below (QC D tc B nn (Ar B nn) none res) args s 0 0 (Ar B nn)) h 0 [(0, .ref a0), (1, .ref a1), (2, .int a2)] []
  refine V_aload_n (q := 1) X (TB.get tb_X0_judge 0 rfl) rfl rfl rfl ?_
  refine V_iconst (v := 0) (q := 2) X (TB.get tb_X0_judge 1 rfl) c_iconst_0 rfl ?_
  obtain ⟨h1, eh1, e⟩ := bs e
  refine V_putI (q := 5) X (TB.get tb_X0_judge 2 rfl) rfl lq_RX0_84 eh1 ?_
  refine V_aload_n (q := 6) X (TB.get tb_X0_judge 3 rfl) rfl rfl rfl ?_
  refine V_iconst (v := -1) (q := 7) X (TB.get tb_X0_judge 4 rfl) c_iconst_m1 rfl ?_
  obtain ⟨h2, eh2, e⟩ := bs e
  refine V_putI (q := 10) X (TB.get tb_X0_judge 5 rfl) rfl lq_RX0_33 eh2 ?_
  refine V_aload_n (q := 11) X (TB.get tb_X0_judge 6 rfl) rfl rfl rfl ?_
  refine V_iconst (v := 0) (q := 12) X (TB.get tb_X0_judge 7 rfl) c_iconst_0 rfl ?_
  obtain ⟨h3, eh3, e⟩ := bs e
  refine V_putI (q := 15) X (TB.get tb_X0_judge 8 rfl) rfl lq_RX0_87 eh3 ?_
  refine V_iconst (v := 0) (q := 16) X (TB.get tb_X0_judge 9 rfl) c_iconst_0 rfl ?_
  refine V_istore_n (q := 17) (lv' := [(3, .int (0 : Int32)), (0, .ref a0), (1, .ref a1), (2, .int a2)]) X (TB.get tb_X0_judge 10 rfl) rfl rfl (Nat.le_of_ble_eq_true rfl) rfl ?_
  refine V_sub (lv' := [(0, .ref a0), (1, .ref a1), (2, .int a2), (3, .int (0 : Int32))]) [1, 2, 3, 0] rfl ?_
  refine wh2_elim (P := fun v4 h5 => V p l en (rmD 3) s m args below meth c 4 D tc B nn (Ar B nn) s.heap 0 0 (MQ below (QC D tc B nn (Ar B nn) none res) args s 0 0 (Ar B nn)) h5 17 [(0, .ref a0), (1, .ref a1), (2, .int a2), (3, .int v4)] []) (f := fu) ?_ e
  intro self6 v4 h5 ihself6 e
  unfold MX0_judge_B17 at e
  refine V_iload_n (q := 18) X (TB.get tb_X0_judge 11 rfl) rfl rfl rfl ?_
  refine V_aload_n (q := 19) X (TB.get tb_X0_judge 12 rfl) rfl rfl rfl ?_
  obtain ⟨x7, ex7, e⟩ := bs e
  refine V_getI (q := 22) X (TB.get tb_X0_judge 13 rfl) rfl lf_RX0_50 ex7 ?_
  refine V_icmp_gt (q := 25) (t := 118) X (TB.get tb_X0_judge 14 rfl) rfl rfl (fun hc => ?_) (fun hc => ?_)
  · have e := (if_pos hc).symm.trans e
    cases e
    exact V_vret X hr hlk (TB.get tb_X0_judge 66 rfl)
  · have e := (if_neg hc).symm.trans e
    refine V_aload_n (q := 26) X (TB.get tb_X0_judge 15 rfl) rfl rfl rfl ?_
    obtain ⟨x8, ex8, e⟩ := bs e
    refine V_getR (q := 29) X (TB.get tb_X0_judge 16 rfl) rfl lf_RX0_17 ex8 ?_
    refine V_iload_n (q := 30) X (TB.get tb_X0_judge 17 rfl) rfl rfl rfl ?_
    obtain ⟨x9, ex9, e⟩ := bs e
    refine V_baloadZ (q := 31) X (TB.get tb_X0_judge 18 rfl) rfl ex9 ?_
    refine jn_elim (P := (fun (k : Hp → Option (Hp)) => ∀ (h10 : Hp), k h10 = some res → V p l en (rmD 3) s m args below meth c 4 D tc B nn (Ar B nn) s.heap 0 0 (MQ below (QC D tc B nn (Ar B nn) none res) args s 0 0 (Ar B nn)) h10 112 [(0, .ref a0), (1, .ref a1), (2, .int a2), (3, .int v4)] [])) e ?_ (fun j11 Jj11 e => ?_)
    · intro h10 e
      refine V_iinc (q := 115) (v := v4 + (1 : Int32)) (lv' := [(3, .int (v4 + (1 : Int32))), (0, .ref a0), (1, .ref a1), (2, .int a2)]) X (TB.get tb_X0_judge 64 rfl) rfl rfl (by rw [c_iconst_1]) (Nat.le_of_ble_eq_true rfl) rfl ?_
      refine V_goto (q := 17) X (TB.get tb_X0_judge 65 rfl) rfl ?_
      refine V_sub (lv' := [(0, .ref a0), (1, .ref a1), (2, .int a2), (3, .int (v4 + (1 : Int32)))]) [1, 2, 3, 0] rfl ?_
      exact ihself6 _ _ e
    refine V_if_ne (q := 34) (t := 37) X (TB.get tb_X0_judge 19 rfl) rfl rfl (fun hc => ?_) (fun hc => ?_)
    · have e := (if_neg hc).symm.trans e
      refine V_aload_n (q := 38) X (TB.get tb_X0_judge 21 rfl) rfl rfl rfl ?_
      refine V_dup (q := 39) X (TB.get tb_X0_judge 22 rfl) rfl rfl ?_
      obtain ⟨x12, ex12, e⟩ := bs e
      refine V_getI (q := 42) X (TB.get tb_X0_judge 23 rfl) rfl lf_RX0_87 ex12 ?_
      refine V_iconst (v := 1) (q := 43) X (TB.get tb_X0_judge 24 rfl) c_iconst_1 rfl ?_
      refine V_iadd (q := 44) X (TB.get tb_X0_judge 25 rfl) rfl ?_
      obtain ⟨h13, eh13, e⟩ := bs e
      refine V_putI (q := 47) X (TB.get tb_X0_judge 26 rfl) rfl lq_RX0_87 eh13 ?_
      refine V_aload_n (q := 48) X (TB.get tb_X0_judge 27 rfl) rfl rfl rfl ?_
      obtain ⟨x14, ex14, e⟩ := bs e
      refine V_getR (q := 51) X (TB.get tb_X0_judge 28 rfl) rfl lf_RX0_21 ex14 ?_
      refine V_iload_n (q := 52) X (TB.get tb_X0_judge 29 rfl) rfl rfl rfl ?_
      refine V_iload_n (q := 53) X (TB.get tb_X0_judge 30 rfl) rfl rfl rfl ?_
      refine V_iload_n (q := 54) X (TB.get tb_X0_judge 31 rfl) rfl rfl rfl ?_
      refine jn_elim (P := (fun (k : Int32 → Option (Hp)) => ∀ (w15 : Int32), k w15 = some res → V p l en (rmD 3) s m args below meth c 4 D tc B nn (Ar B nn) s.heap 0 0 (MQ below (QC D tc B nn (Ar B nn) none res) args s 0 0 (Ar B nn)) h13 72 [(0, .ref a0), (1, .ref a1), (2, .int a2), (3, .int v4)] [.int w15, .int v4, .ref x14])) e ?_ (fun j16 Jj16 e => ?_)
      · intro w15 e
        obtain ⟨h17, eh17, e⟩ := bs e
        refine V_iastore (q := 73) X (TB.get tb_X0_judge 42 rfl) rfl eh17 ?_
        refine V_aload_n (q := 74) X (TB.get tb_X0_judge 43 rfl) rfl rfl rfl ?_
        obtain ⟨x18, ex18, e⟩ := bs e
        refine V_getR (q := 77) X (TB.get tb_X0_judge 44 rfl) rfl lf_RX0_21 ex18 ?_
        refine V_iload_n (q := 78) X (TB.get tb_X0_judge 45 rfl) rfl rfl rfl ?_
        obtain ⟨x19, ex19, e⟩ := bs e
        refine V_iaload (q := 79) X (TB.get tb_X0_judge 46 rfl) rfl ex19 ?_
        refine V_if_eq (q := 82) (t := 112) X (TB.get tb_X0_judge 47 rfl) rfl rfl (fun hc => ?_) (fun hc => ?_)
        · have e := (if_pos hc).symm.trans e
          exact Jj11 _ e
        · have e := (if_neg hc).symm.trans e
          refine V_aload_n (q := 83) X (TB.get tb_X0_judge 48 rfl) rfl rfl rfl ?_
          refine V_dup (q := 84) X (TB.get tb_X0_judge 49 rfl) rfl rfl ?_
          obtain ⟨x20, ex20, e⟩ := bs e
          refine V_getI (q := 87) X (TB.get tb_X0_judge 50 rfl) rfl lf_RX0_84 ex20 ?_
          refine V_iconst (v := 1) (q := 88) X (TB.get tb_X0_judge 51 rfl) c_iconst_1 rfl ?_
          refine V_iadd (q := 89) X (TB.get tb_X0_judge 52 rfl) rfl ?_
          obtain ⟨h21, eh21, e⟩ := bs e
          refine V_putI (q := 92) X (TB.get tb_X0_judge 53 rfl) rfl lq_RX0_84 eh21 ?_
          refine V_aload_n (q := 93) X (TB.get tb_X0_judge 54 rfl) rfl rfl rfl ?_
          refine V_aload_n (q := 94) X (TB.get tb_X0_judge 55 rfl) rfl rfl rfl ?_
          obtain ⟨x22, ex22, e⟩ := bs e
          refine V_getI (q := 97) X (TB.get tb_X0_judge 56 rfl) rfl lf_RX0_33 ex22 ?_
          refine V_iconst (v := -1) (q := 98) X (TB.get tb_X0_judge 57 rfl) c_iconst_m1 rfl ?_
          refine jn_elim (P := (fun (k : Int32 → Option (Hp)) => ∀ (w23 : Int32), k w23 = some res → V p l en (rmD 3) s m args below meth c 4 D tc B nn (Ar B nn) s.heap 0 0 (MQ below (QC D tc B nn (Ar B nn) none res) args s 0 0 (Ar B nn)) h21 109 [(0, .ref a0), (1, .ref a1), (2, .int a2), (3, .int v4)] [.int w23, .ref a0])) e ?_ (fun j24 Jj24 e => ?_)
          · intro w23 e
            obtain ⟨h25, eh25, e⟩ := bs e
            refine V_putI (q := 112) X (TB.get tb_X0_judge 63 rfl) rfl lq_RX0_33 eh25 ?_
            exact Jj11 _ e
          refine V_icmp_ne (q := 101) (t := 105) X (TB.get tb_X0_judge 58 rfl) rfl rfl (fun hc => ?_) (fun hc => ?_)
          · have e := (if_neg hc).symm.trans e
            refine V_aload_n (q := 106) X (TB.get tb_X0_judge 61 rfl) rfl rfl rfl ?_
            refine V_getI (q := 109) X (TB.get tb_X0_judge 62 rfl) rfl lf_RX0_33 ex22 ?_
            exact Jj24 _ e
          · have e := (if_pos hc).symm.trans e
            refine V_iload_n (q := 102) X (TB.get tb_X0_judge 59 rfl) rfl rfl rfl ?_
            refine V_goto (q := 109) X (TB.get tb_X0_judge 60 rfl) rfl ?_
            exact Jj24 _ e
      refine V_icmp_ne (q := 57) (t := 61) X (TB.get tb_X0_judge 32 rfl) rfl rfl (fun hc => ?_) (fun hc => ?_)
      · have e := (if_neg hc).symm.trans e
        refine V_aload_n (q := 62) X (TB.get tb_X0_judge 35 rfl) rfl rfl rfl ?_
        obtain ⟨x26, ex26, e⟩ := bs e
        refine V_getR (q := 65) X (TB.get tb_X0_judge 36 rfl) rfl lf_RX0_11 ex26 ?_
        refine V_iload_n (q := 66) X (TB.get tb_X0_judge 37 rfl) rfl rfl rfl ?_
        obtain ⟨x27, ex27, e⟩ := bs e
        refine V_aaload (q := 67) X (TB.get tb_X0_judge 38 rfl) rfl ex27 ?_
        refine V_aload_n (q := 68) X (TB.get tb_X0_judge 39 rfl) rfl rfl rfl ?_
        refine V_iload_n (q := 69) X (TB.get tb_X0_judge 40 rfl) rfl rfl rfl ?_
        obtain ⟨x28, ex28, e⟩ := bs e
        refine V_callV (q := 72) (As := [.ref a1, .int v4]) (rest := [.int v4, .ref x14]) (st' := [.int x28, .int v4, .ref x14]) X (TB.get tb_X0_judge 41 rfl) rfl cv_RX0_90 (ok_X1_reasonAt fu x27 a1 v4 h13 x28 ex28).1 (ok_X1_reasonAt fu x27 a1 v4 h13 x28 ex28).2 (Nat.le_of_ble_eq_true rfl) rfl rfl (Nat.le_of_ble_eq_true rfl) rfl ?_
        exact Jj16 _ e
      · have e := (if_pos hc).symm.trans e
        refine V_iconst (v := 0) (q := 58) X (TB.get tb_X0_judge 33 rfl) c_iconst_0 rfl ?_
        refine V_goto (q := 72) X (TB.get tb_X0_judge 34 rfl) rfl ?_
        exact Jj16 _ e
    · have e := (if_pos hc).symm.trans e
      refine V_goto (q := 112) X (TB.get tb_X0_judge 20 rfl) rfl ?_
      exact Jj11 _ e
set_option maxRecDepth 100000 in
set_option maxHeartbeats 4000000 in
theorem ok_X0_solve (fu : Nat) (a0 : Nat) (a1 : Nat) (a2 : Int32) (h : Hp) (res : Hp) (e : MX0_solve fu a0 a1 a2 h = some res) : CK yX0_solve cX0_solve 6 none 4 [.ref a0, .ref a1, .int a2] h none res ∧ (h.1 a0).1 = 0 := by
  obtain ⟨hcl, e⟩ := h_g_inv e
  refine ⟨CK_of pn_RX0 cm_X0_solve (Nat.le_of_ble_eq_true rfl) ?_, hcl⟩
  intro l D tc B nn p en s m args below meth c X hr hlk
  replace X : CX p (rmD 4) s m args c cX0_solve 6 RX0 D tc 4 := X
  show V p l en (rmD 4) s m args below meth c 6 D tc B nn (Ar B nn) s.heap 0 0 (MQ below (QC D tc B nn (Ar B nn) none res) args s 0 0 (Ar B nn)) h 0 [(0, .ref a0), (1, .ref a1), (2, .int a2)] []
  refine V_aload_n (q := 1) X (TB.get tb_X0_solve 0 rfl) rfl rfl rfl ?_
  obtain ⟨x1, ex1, e⟩ := bs e
  refine V_getR (q := 4) X (TB.get tb_X0_solve 1 rfl) rfl lf_RX0_21 ex1 ?_
  refine V_iconst (v := 0) (q := 5) X (TB.get tb_X0_solve 2 rfl) c_iconst_0 rfl ?_
  obtain ⟨h2, eh2, e⟩ := bs e
  refine V_callS (q := 8) (As := [.ref x1, .int (0 : Int32)]) (rest := []) (st' := []) X (TB.get tb_X0_solve 3 rfl) rfl cs_RX0_37 (ok_J7_fill_53178 fu x1 (0 : Int32) h h2 eh2) (Nat.le_of_ble_eq_true rfl) rfl rfl (Nat.le_of_ble_eq_true rfl) rfl ?_
  refine V_iconst (v := 0) (q := 9) X (TB.get tb_X0_solve 4 rfl) c_iconst_0 rfl ?_
  refine V_istore_n (q := 10) (lv' := [(3, .int (0 : Int32)), (0, .ref a0), (1, .ref a1), (2, .int a2)]) X (TB.get tb_X0_solve 5 rfl) rfl rfl (Nat.le_of_ble_eq_true rfl) rfl ?_
  refine jn_elim (P := (fun (k : Hp → Option (Hp)) => ∀ (h3 : Hp), k h3 = some res → V p l en (rmD 4) s m args below meth c 6 D tc B nn (Ar B nn) s.heap 0 0 (MQ below (QC D tc B nn (Ar B nn) none res) args s 0 0 (Ar B nn)) h3 36 [(0, .ref a0), (1, .ref a1), (2, .int a2)] [])) e ?_ (fun j4 Jj4 e => ?_)
  · intro h3 e
    refine V_aload_n (q := 37) X (TB.get tb_X0_solve 21 rfl) rfl rfl rfl ?_
    obtain ⟨x5, ex5, e⟩ := bs e
    refine V_getR (q := 40) X (TB.get tb_X0_solve 22 rfl) rfl lf_RX0_29 ex5 ?_
    obtain ⟨h6, eh6, e⟩ := bs e
    refine V_callV (q := 43) (As := []) (rest := []) (st' := []) X (TB.get tb_X0_solve 23 rfl) rfl cv_RX0_43 (ok_X1_begin fu x5 h3 h6 eh6).1 (ok_X1_begin fu x5 h3 h6 eh6).2 (Nat.le_of_ble_eq_true rfl) rfl rfl (Nat.le_of_ble_eq_true rfl) rfl ?_
    refine V_aload_n (q := 44) X (TB.get tb_X0_solve 24 rfl) rfl rfl rfl ?_
    refine V_iconst (v := 0) (q := 45) X (TB.get tb_X0_solve 25 rfl) c_iconst_0 rfl ?_
    obtain ⟨h7, eh7, e⟩ := bs e
    refine V_callV (q := 48) (As := [.int (0 : Int32)]) (rest := []) (st' := []) X (TB.get tb_X0_solve 26 rfl) rfl cv_RX0_46 (ok_X0_arrive fu a0 (0 : Int32) h6 h7 eh7).1 (ok_X0_arrive fu a0 (0 : Int32) h6 h7 eh7).2 (Nat.le_of_ble_eq_true rfl) rfl rfl (Nat.le_of_ble_eq_true rfl) rfl ?_
    refine V_iconst (v := 1) (q := 49) X (TB.get tb_X0_solve 27 rfl) c_iconst_1 rfl ?_
    refine V_istore_n (q := 50) (lv' := [(3, .int (1 : Int32)), (0, .ref a0), (1, .ref a1), (2, .int a2)]) X (TB.get tb_X0_solve 28 rfl) rfl rfl (Nat.le_of_ble_eq_true rfl) rfl ?_
    refine V_iconst (v := 0) (q := 51) X (TB.get tb_X0_solve 29 rfl) c_iconst_0 rfl ?_
    refine V_istore (q := 53) (lv' := [(4, .int (0 : Int32)), (3, .int (1 : Int32)), (0, .ref a0), (1, .ref a1), (2, .int a2)]) X (TB.get tb_X0_solve 30 rfl) rfl (Nat.le_of_ble_eq_true rfl) rfl ?_
    refine jn_elim (P := (fun (k : Hp → Option (Hp)) => ∀ (h8 : Hp), k h8 = some res → V p l en (rmD 4) s m args below meth c 6 D tc B nn (Ar B nn) s.heap 0 0 (MQ below (QC D tc B nn (Ar B nn) none res) args s 0 0 (Ar B nn)) h8 129 [(0, .ref a0), (1, .ref a1), (2, .int a2)] [])) e ?_ (fun j9 Jj9 e => ?_)
    · intro h8 e
      refine V_aload_n (q := 130) X (TB.get tb_X0_solve 70 rfl) rfl rfl rfl ?_
      refine V_aload_n (q := 131) X (TB.get tb_X0_solve 71 rfl) rfl rfl rfl ?_
      refine V_iload_n (q := 132) X (TB.get tb_X0_solve 72 rfl) rfl rfl rfl ?_
      obtain ⟨h10, eh10, e⟩ := bs e
      refine V_callV (q := 135) (As := [.ref a1, .int a2]) (rest := []) (st' := []) X (TB.get tb_X0_solve 73 rfl) rfl cv_RX0_59 (ok_X0_judge fu a0 a1 a2 h8 h10 eh10).1 (ok_X0_judge fu a0 a1 a2 h8 h10 eh10).2 (Nat.le_of_ble_eq_true rfl) rfl rfl (Nat.le_of_ble_eq_true rfl) rfl ?_
      cases e
      exact V_vret X hr hlk (TB.get tb_X0_solve 74 rfl)
    refine V_sub (lv' := [(0, .ref a0), (1, .ref a1), (2, .int a2), (3, .int (1 : Int32)), (4, .int (0 : Int32))]) [2, 3, 4, 1, 0] rfl ?_
    refine wh3_elim (P := fun v11 v12 h13 => V p l en (rmD 4) s m args below meth c 6 D tc B nn (Ar B nn) s.heap 0 0 (MQ below (QC D tc B nn (Ar B nn) none res) args s 0 0 (Ar B nn)) h13 53 [(0, .ref a0), (1, .ref a1), (2, .int a2), (3, .int v11), (4, .int v12)] []) (f := fu) ?_ e
    intro self14 v11 v12 h13 ihself14 e
    unfold MX0_solve_B53 at e
    refine V_iload_n (q := 54) X (TB.get tb_X0_solve 31 rfl) rfl rfl rfl ?_
    refine V_if_eq (q := 57) (t := 129) X (TB.get tb_X0_solve 32 rfl) rfl rfl (fun hc => ?_) (fun hc => ?_)
    · have e := (if_pos hc).symm.trans e
      refine V_sub (lv' := [(0, .ref a0), (1, .ref a1), (2, .int a2)]) [0, 1, 2] rfl ?_
      exact Jj9 _ e
    · have e := (if_neg hc).symm.trans e
      refine V_iload (q := 59) X (TB.get tb_X0_solve 33 rfl) rfl rfl ?_
      refine V_sipush (v := 10000) (q := 62) X (TB.get tb_X0_solve 34 rfl) c_sipush_10000 rfl ?_
      refine V_icmp_ge (q := 65) (t := 129) X (TB.get tb_X0_solve 35 rfl) rfl rfl (fun hc => ?_) (fun hc => ?_)
      · have e := (if_pos hc).symm.trans e
        refine V_sub (lv' := [(0, .ref a0), (1, .ref a1), (2, .int a2)]) [0, 1, 2] rfl ?_
        exact Jj9 _ e
      · have e := (if_neg hc).symm.trans e
        refine V_iconst (v := 0) (q := 66) X (TB.get tb_X0_solve 36 rfl) c_iconst_0 rfl ?_
        refine V_istore_n (q := 67) (lv' := [(3, .int (0 : Int32)), (0, .ref a0), (1, .ref a1), (2, .int a2), (4, .int v12)]) X (TB.get tb_X0_solve 37 rfl) rfl rfl (Nat.le_of_ble_eq_true rfl) rfl ?_
        refine V_iconst (v := 0) (q := 68) X (TB.get tb_X0_solve 38 rfl) c_iconst_0 rfl ?_
        refine V_istore (q := 70) (lv' := [(5, .int (0 : Int32)), (3, .int (0 : Int32)), (0, .ref a0), (1, .ref a1), (2, .int a2), (4, .int v12)]) X (TB.get tb_X0_solve 39 rfl) rfl (Nat.le_of_ble_eq_true rfl) rfl ?_
        refine jn_elim (P := (fun (k : Int32 → Hp → Option (Hp)) => ∀ (v15 : Int32) (h16 : Hp), k v15 h16 = some res → V p l en (rmD 4) s m args below meth c 6 D tc B nn (Ar B nn) s.heap 0 0 (MQ below (QC D tc B nn (Ar B nn) none res) args s 0 0 (Ar B nn)) h16 123 [(0, .ref a0), (1, .ref a1), (2, .int a2), (3, .int v15), (4, .int v12)] [])) e ?_ (fun j17 Jj17 e => ?_)
        · intro v15 h16 e
          refine V_iinc (q := 126) (v := v12 + (1 : Int32)) (lv' := [(4, .int (v12 + (1 : Int32))), (0, .ref a0), (1, .ref a1), (2, .int a2), (3, .int v15)]) X (TB.get tb_X0_solve 68 rfl) rfl rfl (by rw [c_iconst_1]) (Nat.le_of_ble_eq_true rfl) rfl ?_
          refine V_goto (q := 53) X (TB.get tb_X0_solve 69 rfl) rfl ?_
          refine V_sub (lv' := [(0, .ref a0), (1, .ref a1), (2, .int a2), (3, .int v15), (4, .int (v12 + (1 : Int32)))]) [1, 2, 3, 4, 0] rfl ?_
          exact ihself14 _ _ _ e
        refine V_sub (lv' := [(0, .ref a0), (1, .ref a1), (2, .int a2), (3, .int (0 : Int32)), (4, .int v12), (5, .int (0 : Int32))]) [2, 3, 4, 1, 5, 0] rfl ?_
        refine wh3_elim (P := fun v18 v19 h20 => V p l en (rmD 4) s m args below meth c 6 D tc B nn (Ar B nn) s.heap 0 0 (MQ below (QC D tc B nn (Ar B nn) none res) args s 0 0 (Ar B nn)) h20 70 [(0, .ref a0), (1, .ref a1), (2, .int a2), (3, .int v18), (4, .int v12), (5, .int v19)] []) (f := fu) ?_ e
        intro self21 v18 v19 h20 ihself21 e
        unfold MX0_solve_B70 at e
        refine V_iload (q := 72) X (TB.get tb_X0_solve 40 rfl) rfl rfl ?_
        refine V_aload_n (q := 73) X (TB.get tb_X0_solve 41 rfl) rfl rfl rfl ?_
        obtain ⟨x22, ex22, e⟩ := bs e
        refine V_getI (q := 76) X (TB.get tb_X0_solve 42 rfl) rfl lf_RX0_50 ex22 ?_
        refine V_icmp_ge (q := 79) (t := 123) X (TB.get tb_X0_solve 43 rfl) rfl rfl (fun hc => ?_) (fun hc => ?_)
        · have e := (if_pos hc).symm.trans e
          refine V_sub (lv' := [(0, .ref a0), (1, .ref a1), (2, .int a2), (3, .int v18), (4, .int v12)]) [0, 1, 2, 3, 4] rfl ?_
          exact Jj17 _ _ e
        · have e := (if_neg hc).symm.trans e
          refine V_aload_n (q := 80) X (TB.get tb_X0_solve 44 rfl) rfl rfl rfl ?_
          obtain ⟨x23, ex23, e⟩ := bs e
          refine V_getR (q := 83) X (TB.get tb_X0_solve 45 rfl) rfl lf_RX0_25 ex23 ?_
          refine V_iload (q := 85) X (TB.get tb_X0_solve 46 rfl) rfl rfl ?_
          obtain ⟨x24, ex24, e⟩ := bs e
          refine V_baloadZ (q := 86) X (TB.get tb_X0_solve 47 rfl) rfl ex24 ?_
          refine jn_elim (P := (fun (k : Int32 → Hp → Option (Hp)) => ∀ (v25 : Int32) (h26 : Hp), k v25 h26 = some res → V p l en (rmD 4) s m args below meth c 6 D tc B nn (Ar B nn) s.heap 0 0 (MQ below (QC D tc B nn (Ar B nn) none res) args s 0 0 (Ar B nn)) h26 117 [(0, .ref a0), (1, .ref a1), (2, .int a2), (3, .int v25), (4, .int v12), (5, .int v19)] [])) e ?_ (fun j27 Jj27 e => ?_)
          · intro v25 h26 e
            refine V_iinc (q := 120) (v := v19 + (1 : Int32)) (lv' := [(5, .int (v19 + (1 : Int32))), (0, .ref a0), (1, .ref a1), (2, .int a2), (3, .int v25), (4, .int v12)]) X (TB.get tb_X0_solve 66 rfl) rfl rfl (by rw [c_iconst_1]) (Nat.le_of_ble_eq_true rfl) rfl ?_
            refine V_goto (q := 70) X (TB.get tb_X0_solve 67 rfl) rfl ?_
            refine V_sub (lv' := [(0, .ref a0), (1, .ref a1), (2, .int a2), (3, .int v25), (4, .int v12), (5, .int (v19 + (1 : Int32)))]) [1, 2, 3, 4, 5, 0] rfl ?_
            exact ihself21 _ _ _ e
          refine V_if_eq (q := 89) (t := 117) X (TB.get tb_X0_solve 48 rfl) rfl rfl (fun hc => ?_) (fun hc => ?_)
          · have e := (if_pos hc).symm.trans e
            exact Jj27 _ _ e
          · have e := (if_neg hc).symm.trans e
            refine V_aload_n (q := 90) X (TB.get tb_X0_solve 49 rfl) rfl rfl rfl ?_
            refine V_getR (q := 93) X (TB.get tb_X0_solve 50 rfl) rfl lf_RX0_25 ex23 ?_
            refine V_iload (q := 95) X (TB.get tb_X0_solve 51 rfl) rfl rfl ?_
            refine V_iconst (v := 0) (q := 96) X (TB.get tb_X0_solve 52 rfl) c_iconst_0 rfl ?_
            obtain ⟨h28, eh28, e⟩ := bs e
            refine V_bastoreZ (q := 97) X (TB.get tb_X0_solve 53 rfl) rfl eh28 ?_
            refine V_iconst (v := 1) (q := 98) X (TB.get tb_X0_solve 54 rfl) c_iconst_1 rfl ?_
            refine V_istore_n (q := 99) (lv' := [(3, .int (1 : Int32)), (0, .ref a0), (1, .ref a1), (2, .int a2), (4, .int v12), (5, .int v19)]) X (TB.get tb_X0_solve 55 rfl) rfl rfl (Nat.le_of_ble_eq_true rfl) rfl ?_
            refine V_aload_n (q := 100) X (TB.get tb_X0_solve 56 rfl) rfl rfl rfl ?_
            refine V_aload_n (q := 101) X (TB.get tb_X0_solve 57 rfl) rfl rfl rfl ?_
            refine V_iload (q := 103) X (TB.get tb_X0_solve 58 rfl) rfl rfl ?_
            refine V_iload (q := 105) X (TB.get tb_X0_solve 59 rfl) rfl rfl ?_
            refine V_iload_n (q := 106) X (TB.get tb_X0_solve 60 rfl) rfl rfl rfl ?_
            refine jn_elim (P := (fun (k : Int32 → Option (Hp)) => ∀ (w29 : Int32), k w29 = some res → V p l en (rmD 4) s m args below meth c 6 D tc B nn (Ar B nn) s.heap 0 0 (MQ below (QC D tc B nn (Ar B nn) none res) args s 0 0 (Ar B nn)) h28 114 [(0, .ref a0), (1, .ref a1), (2, .int a2), (3, .int (1 : Int32)), (4, .int v12), (5, .int v19)] [.int w29, .int v19, .ref a1, .ref a0])) e ?_ (fun j30 Jj30 e => ?_)
            · intro w29 e
              obtain ⟨h31, eh31, e⟩ := bs e
              refine V_callV (q := 117) (As := [.ref a1, .int v19, .int w29]) (rest := []) (st' := []) X (TB.get tb_X0_solve 65 rfl) rfl cv_RX0_55 (ok_X0_goOn fu a0 a1 v19 w29 h28 h31 eh31).1 (ok_X0_goOn fu a0 a1 v19 w29 h28 h31 eh31).2 (Nat.le_of_ble_eq_true rfl) rfl rfl (Nat.le_of_ble_eq_true rfl) rfl ?_
              exact Jj27 _ _ e
            refine V_icmp_ne (q := 109) (t := 113) X (TB.get tb_X0_solve 61 rfl) rfl rfl (fun hc => ?_) (fun hc => ?_)
            · have e := (if_neg hc).symm.trans e
              refine V_iconst (v := 0) (q := 114) X (TB.get tb_X0_solve 64 rfl) c_iconst_0 rfl ?_
              refine V_sub (lv' := [(0, .ref a0), (1, .ref a1), (2, .int a2), (3, .int (1 : Int32)), (4, .int v12), (5, .int v19)]) [1, 2, 3, 0, 4, 5] rfl ?_
              exact Jj30 _ e
            · have e := (if_pos hc).symm.trans e
              refine V_iconst (v := 1) (q := 110) X (TB.get tb_X0_solve 62 rfl) c_iconst_1 rfl ?_
              refine V_goto (q := 114) X (TB.get tb_X0_solve 63 rfl) rfl ?_
              refine V_sub (lv' := [(0, .ref a0), (1, .ref a1), (2, .int a2), (3, .int (1 : Int32)), (4, .int v12), (5, .int v19)]) [1, 2, 3, 0, 4, 5] rfl ?_
              exact Jj30 _ e
  refine V_sub (lv' := [(0, .ref a0), (1, .ref a1), (2, .int a2), (3, .int (0 : Int32))]) [1, 2, 3, 0] rfl ?_
  refine wh2_elim (P := fun v32 h33 => V p l en (rmD 4) s m args below meth c 6 D tc B nn (Ar B nn) s.heap 0 0 (MQ below (QC D tc B nn (Ar B nn) none res) args s 0 0 (Ar B nn)) h33 10 [(0, .ref a0), (1, .ref a1), (2, .int a2), (3, .int v32)] []) (f := fu) ?_ e
  intro self34 v32 h33 ihself34 e
  unfold MX0_solve_B10 at e
  refine V_iload_n (q := 11) X (TB.get tb_X0_solve 6 rfl) rfl rfl rfl ?_
  refine V_bipush (v := 41) (q := 13) X (TB.get tb_X0_solve 7 rfl) c_bipush_41 rfl ?_
  refine V_icmp_ge (q := 16) (t := 36) X (TB.get tb_X0_solve 8 rfl) rfl rfl (fun hc => ?_) (fun hc => ?_)
  · have e := (if_pos hc).symm.trans e
    refine V_sub (lv' := [(0, .ref a0), (1, .ref a1), (2, .int a2)]) [0, 1, 2] rfl ?_
    exact Jj4 _ e
  · have e := (if_neg hc).symm.trans e
    refine V_aload_n (q := 17) X (TB.get tb_X0_solve 9 rfl) rfl rfl rfl ?_
    obtain ⟨x35, ex35, e⟩ := bs e
    refine V_getR (q := 20) X (TB.get tb_X0_solve 10 rfl) rfl lf_RX0_17 ex35 ?_
    refine V_iload_n (q := 21) X (TB.get tb_X0_solve 11 rfl) rfl rfl rfl ?_
    refine V_iconst (v := 0) (q := 22) X (TB.get tb_X0_solve 12 rfl) c_iconst_0 rfl ?_
    obtain ⟨h36, eh36, e⟩ := bs e
    refine V_bastoreZ (q := 23) X (TB.get tb_X0_solve 13 rfl) rfl eh36 ?_
    refine V_aload_n (q := 24) X (TB.get tb_X0_solve 14 rfl) rfl rfl rfl ?_
    obtain ⟨x37, ex37, e⟩ := bs e
    refine V_getR (q := 27) X (TB.get tb_X0_solve 15 rfl) rfl lf_RX0_25 ex37 ?_
    refine V_iload_n (q := 28) X (TB.get tb_X0_solve 16 rfl) rfl rfl rfl ?_
    refine V_iconst (v := 0) (q := 29) X (TB.get tb_X0_solve 17 rfl) c_iconst_0 rfl ?_
    obtain ⟨h38, eh38, e⟩ := bs e
    refine V_bastoreZ (q := 30) X (TB.get tb_X0_solve 18 rfl) rfl eh38 ?_
    refine V_iinc (q := 33) (v := v32 + (1 : Int32)) (lv' := [(3, .int (v32 + (1 : Int32))), (0, .ref a0), (1, .ref a1), (2, .int a2)]) X (TB.get tb_X0_solve 19 rfl) rfl rfl (by rw [c_iconst_1]) (Nat.le_of_ble_eq_true rfl) rfl ?_
    refine V_goto (q := 10) X (TB.get tb_X0_solve 20 rfl) rfl ?_
    refine V_sub (lv' := [(0, .ref a0), (1, .ref a1), (2, .int a2), (3, .int (v32 + (1 : Int32)))]) [1, 2, 3, 0] rfl ?_
    exact ihself34 _ _ e
set_option maxRecDepth 100000 in
set_option maxHeartbeats 4000000 in
theorem ok_X1_part (a0 : Nat) (a1 : Int32) (a2 : Int32) (h : Hp) (res : Int32) (e : MX1_part a0 a1 a2 h = some res) : CK yX1_part cX1_part 3 (some .int) 0 [.ref a0, .int a1, .int a2] h (some (.int res)) h ∧ (h.1 a0).1 = 1 := by
  obtain ⟨hcl, e⟩ := h_g_inv e
  refine ⟨CK_of pn_RX1 cm_X1_part (Nat.le_of_ble_eq_true rfl) ?_, hcl⟩
  intro l D tc B nn p en s m args below meth c X hr hlk
  replace X : CX p (rmD 0) s m args c cX1_part 3 RX1 D tc 0 := X
  show V p l en (rmD 0) s m args below meth c 3 D tc B nn (Ar B nn) s.heap 0 0 (MQ below (QC D tc B nn (Ar B nn) (some (.int res)) h) args s 0 0 (Ar B nn)) h 0 [(0, .ref a0), (1, .int a1), (2, .int a2)] []
  refine V_aload_n (q := 1) X (TB.get tb_X1_part 0 rfl) rfl rfl rfl ?_
  obtain ⟨x1, ex1, e⟩ := bs e
  refine V_getR (q := 4) X (TB.get tb_X1_part 1 rfl) rfl lf_RX1_11 ex1 ?_
  refine V_iload_n (q := 5) X (TB.get tb_X1_part 2 rfl) rfl rfl rfl ?_
  refine V_bipush (v := 6) (q := 7) X (TB.get tb_X1_part 3 rfl) c_bipush_6 rfl ?_
  refine V_imul (q := 8) X (TB.get tb_X1_part 4 rfl) rfl ?_
  refine V_iload_n (q := 9) X (TB.get tb_X1_part 5 rfl) rfl rfl rfl ?_
  refine V_iadd (q := 10) X (TB.get tb_X1_part 6 rfl) rfl ?_
  obtain ⟨x2, ex2, e⟩ := bs e
  refine V_iaload (q := 11) X (TB.get tb_X1_part 7 rfl) rfl ex2 ?_
  cases e
  exact V_iret X hr hlk (TB.get tb_X1_part 8 rfl)
set_option maxRecDepth 100000 in
set_option maxHeartbeats 4000000 in
theorem ok_X1_states (a0 : Nat) (a1 : Int32) (h : Hp) (res : Int32) (e : MX1_states a0 a1 h = some res) : CK yX1_states cX1_states 2 (some .int) 0 [.ref a0, .int a1] h (some (.int res)) h ∧ (h.1 a0).1 = 1 := by
  obtain ⟨hcl, e⟩ := h_g_inv e
  refine ⟨CK_of pn_RX1 cm_X1_states (Nat.le_of_ble_eq_true rfl) ?_, hcl⟩
  intro l D tc B nn p en s m args below meth c X hr hlk
  replace X : CX p (rmD 0) s m args c cX1_states 2 RX1 D tc 0 := X
  show V p l en (rmD 0) s m args below meth c 2 D tc B nn (Ar B nn) s.heap 0 0 (MQ below (QC D tc B nn (Ar B nn) (some (.int res)) h) args s 0 0 (Ar B nn)) h 0 [(0, .ref a0), (1, .int a1)] []
  refine V_aload_n (q := 1) X (TB.get tb_X1_states 0 rfl) rfl rfl rfl ?_
  obtain ⟨x1, ex1, e⟩ := bs e
  refine V_getR (q := 4) X (TB.get tb_X1_states 1 rfl) rfl lf_RX1_11 ex1 ?_
  refine V_bipush (v := 6) (q := 6) X (TB.get tb_X1_states 2 rfl) c_bipush_6 rfl ?_
  refine V_iload_n (q := 7) X (TB.get tb_X1_states 3 rfl) rfl rfl rfl ?_
  refine V_iadd (q := 8) X (TB.get tb_X1_states 4 rfl) rfl ?_
  obtain ⟨x2, ex2, e⟩ := bs e
  refine V_iaload (q := 9) X (TB.get tb_X1_states 5 rfl) rfl ex2 ?_
  cases e
  exact V_iret X hr hlk (TB.get tb_X1_states 6 rfl)
set_option maxRecDepth 100000 in
set_option maxHeartbeats 4000000 in
theorem ok_X1_things (fu : Nat) (a0 : Nat) (a1 : Int32) (h : Hp) (res : Int32) (e : MX1_things fu a0 a1 h = some res) : CK yX1_things cX1_things 5 (some .int) 0 [.ref a0, .int a1] h (some (.int res)) h ∧ (h.1 a0).1 = 1 := by
  obtain ⟨hcl, e⟩ := h_g_inv e
  refine ⟨CK_of pn_RX1 cm_X1_things (Nat.le_of_ble_eq_true rfl) ?_, hcl⟩
  intro l D tc B nn p en s m args below meth c X hr hlk
  replace X : CX p (rmD 0) s m args c cX1_things 5 RX1 D tc 0 := X
  show V p l en (rmD 0) s m args below meth c 5 D tc B nn (Ar B nn) s.heap 0 0 (MQ below (QC D tc B nn (Ar B nn) (some (.int res)) h) args s 0 0 (Ar B nn)) h 0 [(0, .ref a0), (1, .int a1)] []
  refine V_iconst (v := 0) (q := 1) X (TB.get tb_X1_things 0 rfl) c_iconst_0 rfl ?_
  refine V_istore_n (q := 2) (lv' := [(2, .int (0 : Int32)), (0, .ref a0), (1, .int a1)]) X (TB.get tb_X1_things 1 rfl) rfl rfl (Nat.le_of_ble_eq_true rfl) rfl ?_
  refine V_iconst (v := 0) (q := 3) X (TB.get tb_X1_things 2 rfl) c_iconst_0 rfl ?_
  refine V_istore_n (q := 4) (lv' := [(3, .int (0 : Int32)), (2, .int (0 : Int32)), (0, .ref a0), (1, .int a1)]) X (TB.get tb_X1_things 3 rfl) rfl rfl (Nat.le_of_ble_eq_true rfl) rfl ?_
  refine V_sub (lv' := [(0, .ref a0), (1, .int a1), (2, .int (0 : Int32)), (3, .int (0 : Int32))]) [2, 3, 1, 0] rfl ?_
  refine wh2_elim (P := fun v1 v2 => V p l en (rmD 0) s m args below meth c 5 D tc B nn (Ar B nn) s.heap 0 0 (MQ below (QC D tc B nn (Ar B nn) (some (.int res)) h) args s 0 0 (Ar B nn)) h 4 [(0, .ref a0), (1, .int a1), (2, .int v1), (3, .int v2)] []) (f := fu) ?_ e
  intro self3 v1 v2 ihself3 e
  unfold MX1_things_B4 at e
  refine V_iload_n (q := 5) X (TB.get tb_X1_things 4 rfl) rfl rfl rfl ?_
  refine V_iload_n (q := 6) X (TB.get tb_X1_things 5 rfl) rfl rfl rfl ?_
  refine V_icmp_ge (q := 9) (t := 60) X (TB.get tb_X1_things 6 rfl) rfl rfl (fun hc => ?_) (fun hc => ?_)
  · have e := (if_pos hc).symm.trans e
    refine V_iload_n (q := 61) X (TB.get tb_X1_things 37 rfl) rfl rfl rfl ?_
    cases e
    exact V_iret X hr hlk (TB.get tb_X1_things 38 rfl)
  · have e := (if_neg hc).symm.trans e
    refine V_aload_n (q := 10) X (TB.get tb_X1_things 7 rfl) rfl rfl rfl ?_
    obtain ⟨x4, ex4, e⟩ := bs e
    refine V_getR (q := 13) X (TB.get tb_X1_things 8 rfl) rfl lf_RX1_11 ex4 ?_
    refine V_bipush (v := 18) (q := 15) X (TB.get tb_X1_things 9 rfl) c_bipush_18 rfl ?_
    refine V_iload_n (q := 16) X (TB.get tb_X1_things 10 rfl) rfl rfl rfl ?_
    refine V_iadd (q := 17) X (TB.get tb_X1_things 11 rfl) rfl ?_
    obtain ⟨x5, ex5, e⟩ := bs e
    refine V_iaload (q := 18) X (TB.get tb_X1_things 12 rfl) rfl ex5 ?_
    refine V_iconst (v := 1) (q := 19) X (TB.get tb_X1_things 13 rfl) c_iconst_1 rfl ?_
    refine V_iload_n (q := 20) X (TB.get tb_X1_things 14 rfl) rfl rfl rfl ?_
    refine V_ishl (q := 21) X (TB.get tb_X1_things 15 rfl) rfl ?_
    refine V_iconst (v := 1) (q := 22) X (TB.get tb_X1_things 16 rfl) c_iconst_1 rfl ?_
    refine V_isub (q := 23) X (TB.get tb_X1_things 17 rfl) rfl ?_
    refine V_iand (q := 24) X (TB.get tb_X1_things 18 rfl) rfl ?_
    refine jn_elim (P := (fun (k : Int32 → Option (Int32)) => ∀ (w6 : Int32), k w6 = some res → V p l en (rmD 0) s m args below meth c 5 D tc B nn (Ar B nn) s.heap 0 0 (MQ below (QC D tc B nn (Ar B nn) (some (.int res)) h) args s 0 0 (Ar B nn)) h 32 [(0, .ref a0), (1, .int a1), (2, .int v1), (3, .int v2)] [.int w6])) e ?_ (fun j7 Jj7 e => ?_)
    · intro w6 e
      refine V_istore (q := 34) (lv' := [(4, .int w6), (0, .ref a0), (1, .int a1), (2, .int v1), (3, .int v2)]) X (TB.get tb_X1_things 23 rfl) rfl (Nat.le_of_ble_eq_true rfl) rfl ?_
      refine V_aload_n (q := 35) X (TB.get tb_X1_things 24 rfl) rfl rfl rfl ?_
      refine V_getR (q := 38) X (TB.get tb_X1_things 25 rfl) rfl lf_RX1_11 ex4 ?_
      refine V_iconst (v := 0) (q := 39) X (TB.get tb_X1_things 26 rfl) c_iconst_0 rfl ?_
      refine V_iload_n (q := 40) X (TB.get tb_X1_things 27 rfl) rfl rfl rfl ?_
      refine V_iadd (q := 41) X (TB.get tb_X1_things 28 rfl) rfl ?_
      obtain ⟨x8, ex8, e⟩ := bs e
      refine V_iaload (q := 42) X (TB.get tb_X1_things 29 rfl) rfl ex8 ?_
      refine V_iconst (v := 1) (q := 43) X (TB.get tb_X1_things 30 rfl) c_iconst_1 rfl ?_
      refine jn_elim (P := (fun (k : Int32 → Option (Int32)) => ∀ (v9 : Int32), k v9 = some res → V p l en (rmD 0) s m args below meth c 5 D tc B nn (Ar B nn) s.heap 0 0 (MQ below (QC D tc B nn (Ar B nn) (some (.int res)) h) args s 0 0 (Ar B nn)) h 54 [(0, .ref a0), (1, .int a1), (2, .int v9), (3, .int v2)] [])) e ?_ (fun j10 Jj10 e => ?_)
      · intro v9 e
        refine V_iinc (q := 57) (v := v2 + (1 : Int32)) (lv' := [(3, .int (v2 + (1 : Int32))), (0, .ref a0), (1, .int a1), (2, .int v9)]) X (TB.get tb_X1_things 35 rfl) rfl rfl (by rw [c_iconst_1]) (Nat.le_of_ble_eq_true rfl) rfl ?_
        refine V_goto (q := 4) X (TB.get tb_X1_things 36 rfl) rfl ?_
        refine V_sub (lv' := [(0, .ref a0), (1, .int a1), (2, .int v9), (3, .int (v2 + (1 : Int32)))]) [1, 2, 3, 0] rfl ?_
        exact ihself3 _ _ e
      refine V_icmp_eq (q := 46) (t := 54) X (TB.get tb_X1_things 31 rfl) rfl rfl (fun hc => ?_) (fun hc => ?_)
      · have e := (if_pos hc).symm.trans e
        refine V_sub (lv' := [(0, .ref a0), (1, .int a1), (2, .int v1), (3, .int v2)]) [1, 2, 3, 4] rfl ?_
        exact Jj10 _ e
      · have e := (if_neg hc).symm.trans e
        refine V_iload (q := 48) X (TB.get tb_X1_things 32 rfl) rfl rfl ?_
        refine V_if_eq (q := 51) (t := 54) X (TB.get tb_X1_things 33 rfl) rfl rfl (fun hc => ?_) (fun hc => ?_)
        · have e := (if_pos hc).symm.trans e
          refine V_sub (lv' := [(0, .ref a0), (1, .int a1), (2, .int v1), (3, .int v2)]) [1, 2, 3, 4] rfl ?_
          exact Jj10 _ e
        · have e := (if_neg hc).symm.trans e
          refine V_iinc (q := 54) (v := v1 + (1 : Int32)) (lv' := [(2, .int (v1 + (1 : Int32))), (4, .int w6), (0, .ref a0), (1, .int a1), (3, .int v2)]) X (TB.get tb_X1_things 34 rfl) rfl rfl (by rw [c_iconst_1]) (Nat.le_of_ble_eq_true rfl) rfl ?_
          refine V_sub (lv' := [(0, .ref a0), (1, .int a1), (2, .int (v1 + (1 : Int32))), (3, .int v2)]) [2, 3, 0, 4] rfl ?_
          exact Jj10 _ e
    refine V_if_ne (q := 27) (t := 31) X (TB.get tb_X1_things 19 rfl) rfl rfl (fun hc => ?_) (fun hc => ?_)
    · have e := (if_neg hc).symm.trans e
      refine V_iconst (v := 0) (q := 32) X (TB.get tb_X1_things 22 rfl) c_iconst_0 rfl ?_
      exact Jj7 _ e
    · have e := (if_pos hc).symm.trans e
      refine V_iconst (v := 1) (q := 28) X (TB.get tb_X1_things 20 rfl) c_iconst_1 rfl ?_
      refine V_goto (q := 32) X (TB.get tb_X1_things 21 rfl) rfl ?_
      exact Jj7 _ e
set_option maxRecDepth 100000 in
set_option maxHeartbeats 4000000 in
theorem ok_X1_lowestBit (a0 : Int32) (h : Hp) (res : Int32) (e : MX1_lowestBit a0 = some res) : CK yX1_lowestBit cX1_lowestBit 1 (some .int) 1 [.int a0] h (some (.int res)) h := by
  unfold MX1_lowestBit at e
  refine CK_of pn_RX1 cm_X1_lowestBit (Nat.le_of_ble_eq_true rfl) ?_
  intro l D tc B nn p en s m args below meth c X hr hlk
  replace X : CX p (rmD 1) s m args c cX1_lowestBit 1 RX1 D tc 1 := X
  show V p l en (rmD 1) s m args below meth c 1 D tc B nn (Ar B nn) s.heap 0 0 (MQ below (QC D tc B nn (Ar B nn) (some (.int res)) h) args s 0 0 (Ar B nn)) h 0 [(0, .int a0)] []
  refine V_iload_n (q := 1) X (TB.get tb_X1_lowestBit 0 rfl) rfl rfl rfl ?_
  refine V_if_ne (q := 4) (t := 8) X (TB.get tb_X1_lowestBit 1 rfl) rfl rfl (fun hc => ?_) (fun hc => ?_)
  · have e := (if_neg hc).symm.trans e
    refine V_iload_n (q := 9) X (TB.get tb_X1_lowestBit 4 rfl) rfl rfl rfl ?_
    obtain ⟨x1, ex1, e⟩ := bs e
    refine V_callS (q := 12) (As := [.int a0]) (rest := []) (st' := [.int x1]) X (TB.get tb_X1_lowestBit 5 rfl) rfl cs_RX1_135 (ok_J6_numberOfTrailingZeros_0f7a4 a0 h x1 ex1) (Nat.le_of_ble_eq_true rfl) rfl rfl (Nat.le_of_ble_eq_true rfl) rfl ?_
    cases e
    exact V_iret X hr hlk (TB.get tb_X1_lowestBit 6 rfl)
  · have e := (if_pos hc).symm.trans e
    refine V_iconst (v := 0) (q := 5) X (TB.get tb_X1_lowestBit 2 rfl) c_iconst_0 rfl ?_
    refine V_goto (q := 12) X (TB.get tb_X1_lowestBit 3 rfl) rfl ?_
    cases e
    exact V_iret X hr hlk (TB.get tb_X1_lowestBit 6 rfl)
set_option maxRecDepth 100000 in
set_option maxHeartbeats 4000000 in
theorem ok_X1_key (fu : Nat) (a0 : Nat) (a1 : Int32) (h : Hp) (res : Int64) (e : MX1_key fu a0 a1 h = some res) : CK yX1_key cX1_key 8 (some .long) 2 [.ref a0, .int a1] h (some (.long res)) h ∧ (h.1 a0).1 = 1 := by
  obtain ⟨hcl, e⟩ := h_g_inv e
  refine ⟨CK_of pn_RX1 cm_X1_key (Nat.le_of_ble_eq_true rfl) ?_, hcl⟩
  intro l D tc B nn p en s m args below meth c X hr hlk
  replace X : CX p (rmD 2) s m args c cX1_key 8 RX1 D tc 2 := X
  show V p l en (rmD 2) s m args below meth c 8 D tc B nn (Ar B nn) s.heap 0 0 (MQ below (QC D tc B nn (Ar B nn) (some (.long res)) h) args s 0 0 (Ar B nn)) h 0 [(0, .ref a0), (1, .int a1)] []
  refine V_iload_n (q := 1) X (TB.get tb_X1_key 0 rfl) rfl rfl rfl ?_
  refine V_i2l (q := 2) X (TB.get tb_X1_key 1 rfl) rfl ?_
  refine V_lstore_n (q := 3) (lv' := [(2, .long a1.toInt64), (0, .ref a0), (1, .int a1)]) X (TB.get tb_X1_key 2 rfl) rfl rfl (Nat.le_of_ble_eq_true rfl) rfl ?_
  refine V_iconst (v := 0) (q := 4) X (TB.get tb_X1_key 3 rfl) c_iconst_0 rfl ?_
  refine V_istore (q := 6) (lv' := [(4, .int (0 : Int32)), (2, .long a1.toInt64), (0, .ref a0), (1, .int a1)]) X (TB.get tb_X1_key 4 rfl) rfl (Nat.le_of_ble_eq_true rfl) rfl ?_
  refine V_sub (lv' := [(0, .ref a0), (2, .long a1.toInt64), (4, .int (0 : Int32))]) [2, 1, 0] rfl ?_
  refine wh2_elim (P := fun v1 v2 => V p l en (rmD 2) s m args below meth c 8 D tc B nn (Ar B nn) s.heap 0 0 (MQ below (QC D tc B nn (Ar B nn) (some (.long res)) h) args s 0 0 (Ar B nn)) h 6 [(0, .ref a0), (2, .long v1), (4, .int v2)] []) (f := fu) ?_ e
  intro self3 v1 v2 ihself3 e
  unfold MX1_key_B6 at e
  refine V_iload (q := 8) X (TB.get tb_X1_key 5 rfl) rfl rfl ?_
  refine V_bipush (v := 6) (q := 10) X (TB.get tb_X1_key 6 rfl) c_bipush_6 rfl ?_
  refine V_icmp_ge (q := 13) (t := 90) X (TB.get tb_X1_key 7 rfl) rfl rfl (fun hc => ?_) (fun hc => ?_)
  · have e := (if_pos hc).symm.trans e
    refine V_lload_n (q := 91) X (TB.get tb_X1_key 55 rfl) rfl rfl rfl ?_
    cases e
    exact V_lret X hr hlk (TB.get tb_X1_key 56 rfl)
  · have e := (if_neg hc).symm.trans e
    refine V_aload_n (q := 14) X (TB.get tb_X1_key 8 rfl) rfl rfl rfl ?_
    obtain ⟨x4, ex4, e⟩ := bs e
    refine V_getR (q := 17) X (TB.get tb_X1_key 9 rfl) rfl lf_RX1_11 ex4 ?_
    refine V_iconst (v := 0) (q := 18) X (TB.get tb_X1_key 10 rfl) c_iconst_0 rfl ?_
    refine V_iload (q := 20) X (TB.get tb_X1_key 11 rfl) rfl rfl ?_
    refine V_iadd (q := 21) X (TB.get tb_X1_key 12 rfl) rfl ?_
    obtain ⟨x5, ex5, e⟩ := bs e
    refine V_iaload (q := 22) X (TB.get tb_X1_key 13 rfl) rfl ex5 ?_
    obtain ⟨x6, ex6, e⟩ := bs e
    refine V_callS (q := 25) (As := [.int x5]) (rest := []) (st' := [.int x6]) X (TB.get tb_X1_key 14 rfl) rfl cs_RX1_125 (ok_X1_lowestBit x5 h x6 ex6) (Nat.le_of_ble_eq_true rfl) rfl rfl (Nat.le_of_ble_eq_true rfl) rfl ?_
    refine V_istore (q := 27) (lv' := [(5, .int x6), (0, .ref a0), (2, .long v1), (4, .int v2)]) X (TB.get tb_X1_key 15 rfl) rfl (Nat.le_of_ble_eq_true rfl) rfl ?_
    refine V_aload_n (q := 28) X (TB.get tb_X1_key 16 rfl) rfl rfl rfl ?_
    refine V_getR (q := 31) X (TB.get tb_X1_key 17 rfl) rfl lf_RX1_11 ex4 ?_
    refine V_bipush (v := 6) (q := 33) X (TB.get tb_X1_key 18 rfl) c_bipush_6 rfl ?_
    refine V_iload (q := 35) X (TB.get tb_X1_key 19 rfl) rfl rfl ?_
    refine V_iadd (q := 36) X (TB.get tb_X1_key 20 rfl) rfl ?_
    obtain ⟨x7, ex7, e⟩ := bs e
    refine V_iaload (q := 37) X (TB.get tb_X1_key 21 rfl) rfl ex7 ?_
    obtain ⟨x8, ex8, e⟩ := bs e
    refine V_callS (q := 40) (As := [.int x7]) (rest := []) (st' := [.int x8]) X (TB.get tb_X1_key 22 rfl) rfl cs_RX1_125 (ok_X1_lowestBit x7 h x8 ex8) (Nat.le_of_ble_eq_true rfl) rfl rfl (Nat.le_of_ble_eq_true rfl) rfl ?_
    refine V_istore (q := 42) (lv' := [(6, .int x8), (5, .int x6), (0, .ref a0), (2, .long v1), (4, .int v2)]) X (TB.get tb_X1_key 23 rfl) rfl (Nat.le_of_ble_eq_true rfl) rfl ?_
    refine V_aload_n (q := 43) X (TB.get tb_X1_key 24 rfl) rfl rfl rfl ?_
    refine V_getR (q := 46) X (TB.get tb_X1_key 25 rfl) rfl lf_RX1_11 ex4 ?_
    refine V_bipush (v := 18) (q := 48) X (TB.get tb_X1_key 26 rfl) c_bipush_18 rfl ?_
    refine V_iload (q := 50) X (TB.get tb_X1_key 27 rfl) rfl rfl ?_
    refine V_iadd (q := 51) X (TB.get tb_X1_key 28 rfl) rfl ?_
    obtain ⟨x9, ex9, e⟩ := bs e
    refine V_iaload (q := 52) X (TB.get tb_X1_key 29 rfl) rfl ex9 ?_
    refine V_iconst (v := 1) (q := 53) X (TB.get tb_X1_key 30 rfl) c_iconst_1 rfl ?_
    refine V_iload (q := 55) X (TB.get tb_X1_key 31 rfl) rfl rfl ?_
    refine V_ishl (q := 56) X (TB.get tb_X1_key 32 rfl) rfl ?_
    refine V_ior (q := 57) X (TB.get tb_X1_key 33 rfl) rfl ?_
    obtain ⟨x10, ex10, e⟩ := bs e
    refine V_callS (q := 60) (As := [.int (x9 ||| ((1 : Int32) <<< (v2 &&& 31)))]) (rest := []) (st' := [.int x10]) X (TB.get tb_X1_key 34 rfl) rfl cs_RX1_125 (ok_X1_lowestBit (x9 ||| ((1 : Int32) <<< (v2 &&& 31))) h x10 ex10) (Nat.le_of_ble_eq_true rfl) rfl rfl (Nat.le_of_ble_eq_true rfl) rfl ?_
    refine V_istore (q := 62) (lv' := [(7, .int x10), (6, .int x8), (5, .int x6), (0, .ref a0), (2, .long v1), (4, .int v2)]) X (TB.get tb_X1_key 35 rfl) rfl (Nat.le_of_ble_eq_true rfl) rfl ?_
    refine V_lload_n (q := 63) X (TB.get tb_X1_key 36 rfl) rfl rfl rfl ?_
    refine V_bipush (v := 8) (q := 65) X (TB.get tb_X1_key 37 rfl) c_bipush_8 rfl ?_
    refine V_lshl (q := 66) X (TB.get tb_X1_key 38 rfl) rfl ?_
    refine V_iload (q := 68) X (TB.get tb_X1_key 39 rfl) rfl rfl ?_
    refine V_bipush (v := 6) (q := 70) X (TB.get tb_X1_key 40 rfl) c_bipush_6 rfl ?_
    refine V_ishl (q := 71) X (TB.get tb_X1_key 41 rfl) rfl ?_
    refine V_i2l (q := 72) X (TB.get tb_X1_key 42 rfl) rfl ?_
    refine V_lor (q := 73) X (TB.get tb_X1_key 43 rfl) rfl ?_
    refine V_iload (q := 75) X (TB.get tb_X1_key 44 rfl) rfl rfl ?_
    refine V_iconst (v := 3) (q := 76) X (TB.get tb_X1_key 45 rfl) c_iconst_3 rfl ?_
    refine V_ishl (q := 77) X (TB.get tb_X1_key 46 rfl) rfl ?_
    refine V_i2l (q := 78) X (TB.get tb_X1_key 47 rfl) rfl ?_
    refine V_lor (q := 79) X (TB.get tb_X1_key 48 rfl) rfl ?_
    refine V_iload (q := 81) X (TB.get tb_X1_key 49 rfl) rfl rfl ?_
    refine V_i2l (q := 82) X (TB.get tb_X1_key 50 rfl) rfl ?_
    refine V_lor (q := 83) X (TB.get tb_X1_key 51 rfl) rfl ?_
    refine V_lstore_n (q := 84) (lv' := [(2, .long ((((v1 <<< ((8 : Int32).toInt64 &&& 63)) ||| ((x6 <<< ((6 : Int32) &&& 31)).toInt64)) ||| ((x8 <<< ((3 : Int32) &&& 31)).toInt64)) ||| x10.toInt64)), (7, .int x10), (6, .int x8), (5, .int x6), (0, .ref a0), (4, .int v2)]) X (TB.get tb_X1_key 52 rfl) rfl rfl (Nat.le_of_ble_eq_true rfl) rfl ?_
    refine V_iinc (q := 87) (v := v2 + (1 : Int32)) (lv' := [(4, .int (v2 + (1 : Int32))), (2, .long ((((v1 <<< ((8 : Int32).toInt64 &&& 63)) ||| ((x6 <<< ((6 : Int32) &&& 31)).toInt64)) ||| ((x8 <<< ((3 : Int32) &&& 31)).toInt64)) ||| x10.toInt64)), (7, .int x10), (6, .int x8), (5, .int x6), (0, .ref a0)]) X (TB.get tb_X1_key 53 rfl) rfl rfl (by rw [c_iconst_1]) (Nat.le_of_ble_eq_true rfl) rfl ?_
    refine V_goto (q := 6) X (TB.get tb_X1_key 54 rfl) rfl ?_
    refine V_sub (lv' := [(0, .ref a0), (2, .long ((((v1 <<< ((8 : Int32).toInt64 &&& 63)) ||| ((x6 <<< ((6 : Int32) &&& 31)).toInt64)) ||| ((x8 <<< ((3 : Int32) &&& 31)).toInt64)) ||| x10.toInt64)), (4, .int (v2 + (1 : Int32)))]) [5, 1, 0] rfl ?_
    exact ihself3 _ _ e
set_option maxRecDepth 100000 in
set_option maxHeartbeats 4000000 in
theorem ok_X1_placeOf (a0 : Int64) (h : Hp) (res : Int32) (e : MX1_placeOf a0 = some res) : CK yX1_placeOf cX1_placeOf 2 (some .int) 0 [.long a0] h (some (.int res)) h := by
  unfold MX1_placeOf at e
  refine CK_of pn_RX1 cm_X1_placeOf (Nat.le_of_ble_eq_true rfl) ?_
  intro l D tc B nn p en s m args below meth c X hr hlk
  replace X : CX p (rmD 0) s m args c cX1_placeOf 2 RX1 D tc 0 := X
  show V p l en (rmD 0) s m args below meth c 2 D tc B nn (Ar B nn) s.heap 0 0 (MQ below (QC D tc B nn (Ar B nn) (some (.int res)) h) args s 0 0 (Ar B nn)) h 0 [(0, .long a0)] []
  refine V_lload_n (q := 1) X (TB.get tb_X1_placeOf 0 rfl) rfl rfl rfl ?_
  refine V_bipush (v := 48) (q := 3) X (TB.get tb_X1_placeOf 1 rfl) c_bipush_48 rfl ?_
  refine V_lshr (q := 4) X (TB.get tb_X1_placeOf 2 rfl) rfl ?_
  refine V_l2i (q := 5) X (TB.get tb_X1_placeOf 3 rfl) rfl ?_
  cases e
  exact V_iret X hr hlk (TB.get tb_X1_placeOf 4 rfl)
set_option maxRecDepth 100000 in
set_option maxHeartbeats 4000000 in
theorem ok_X1_keyPart (a0 : Int64) (a2 : Int32) (h : Hp) (res : Int32) (e : MX1_keyPart a0 a2 = some res) : CK yX1_keyPart cX1_keyPart 3 (some .int) 0 [.long a0, .int a2] h (some (.int res)) h := by
  unfold MX1_keyPart at e
  refine CK_of pn_RX1 cm_X1_keyPart (Nat.le_of_ble_eq_true rfl) ?_
  intro l D tc B nn p en s m args below meth c X hr hlk
  replace X : CX p (rmD 0) s m args c cX1_keyPart 3 RX1 D tc 0 := X
  show V p l en (rmD 0) s m args below meth c 3 D tc B nn (Ar B nn) s.heap 0 0 (MQ below (QC D tc B nn (Ar B nn) (some (.int res)) h) args s 0 0 (Ar B nn)) h 0 [(0, .long a0), (2, .int a2)] []
  refine V_lload_n (q := 1) X (TB.get tb_X1_keyPart 0 rfl) rfl rfl rfl ?_
  refine V_bipush (v := 8) (q := 3) X (TB.get tb_X1_keyPart 1 rfl) c_bipush_8 rfl ?_
  refine V_iconst (v := 5) (q := 4) X (TB.get tb_X1_keyPart 2 rfl) c_iconst_5 rfl ?_
  refine V_iload_n (q := 5) X (TB.get tb_X1_keyPart 3 rfl) rfl rfl rfl ?_
  refine V_isub (q := 6) X (TB.get tb_X1_keyPart 4 rfl) rfl ?_
  refine V_imul (q := 7) X (TB.get tb_X1_keyPart 5 rfl) rfl ?_
  refine V_lshr (q := 8) X (TB.get tb_X1_keyPart 6 rfl) rfl ?_
  refine V_l2i (q := 9) X (TB.get tb_X1_keyPart 7 rfl) rfl ?_
  refine V_sipush (v := 255) (q := 12) X (TB.get tb_X1_keyPart 8 rfl) c_sipush_255 rfl ?_
  refine V_iand (q := 13) X (TB.get tb_X1_keyPart 9 rfl) rfl ?_
  cases e
  exact V_iret X hr hlk (TB.get tb_X1_keyPart 10 rfl)
