set_option maxRecDepth 100000 in
set_option maxHeartbeats 4000000 in
theorem ok_J7_fill_53178 (fu : Nat) (a0 : Nat) (a1 : Int32) (h : Hp) (res : Hp) (e : MJ7_fill_53178 fu a0 a1 h = some res) : CK yJ7_fill_53178 cJ7_fill_53178 4 none 0 [.ref a0, .int a1] h none res := by
  unfold MJ7_fill_53178 at e
  refine CK_of pn_RJ7 cm_J7_fill_53178 (Nat.le_of_ble_eq_true rfl) ?_
  intro l D tc B nn p en s m args below meth c X hr hlk
  replace X : CX p (rmD 0) s m args c cJ7_fill_53178 4 RJ7 D tc 0 := X
  show V p l en (rmD 0) s m args below meth c 4 D tc B nn (Ar B nn) s.heap 0 0 (MQ below (QC D tc B nn (Ar B nn) none res) args s 0 0 (Ar B nn)) h 0 [(0, .ref a0), (1, .int a1)] []
  refine V_iconst (v := 0) (q := 1) X (TB.get tb_J7_fill_53178 0 rfl) c_iconst_0 rfl ?_
  refine V_istore_n (q := 2) (lv' := [(2, .int (0 : Int32)), (0, .ref a0), (1, .int a1)]) X (TB.get tb_J7_fill_53178 1 rfl) rfl rfl (Nat.le_of_ble_eq_true rfl) rfl ?_
  refine V_aload_n (q := 3) X (TB.get tb_J7_fill_53178 2 rfl) rfl rfl rfl ?_
  obtain ⟨x1, ex1, e⟩ := bs e
  refine V_alen (t := 10) (q := 4) X (TB.get tb_J7_fill_53178 3 rfl) rfl (by decide) ex1 ?_
  refine V_istore_n (q := 5) (lv' := [(3, .int x1), (2, .int (0 : Int32)), (0, .ref a0), (1, .int a1)]) X (TB.get tb_J7_fill_53178 4 rfl) rfl rfl (Nat.le_of_ble_eq_true rfl) rfl ?_
  refine V_sub (lv' := [(0, .ref a0), (1, .int a1), (2, .int (0 : Int32)), (3, .int x1)]) [2, 3, 1, 0] rfl ?_
  refine wh2_elim (P := fun v2 h3 => V p l en (rmD 0) s m args below meth c 4 D tc B nn (Ar B nn) s.heap 0 0 (MQ below (QC D tc B nn (Ar B nn) none res) args s 0 0 (Ar B nn)) h3 5 [(0, .ref a0), (1, .int a1), (2, .int v2), (3, .int x1)] []) (f := fu) ?_ e
  intro self4 v2 h3 ihself4 e
  unfold MJ7_fill_53178_B5 at e
  refine V_iload_n (q := 6) X (TB.get tb_J7_fill_53178 5 rfl) rfl rfl rfl ?_
  refine V_iload_n (q := 7) X (TB.get tb_J7_fill_53178 6 rfl) rfl rfl rfl ?_
  refine V_icmp_ge (q := 10) (t := 20) X (TB.get tb_J7_fill_53178 7 rfl) rfl rfl (fun hc => ?_) (fun hc => ?_)
  · have e := (if_pos hc).symm.trans e
    cases e
    exact V_vret X hr hlk (TB.get tb_J7_fill_53178 14 rfl)
  · have e := (if_neg hc).symm.trans e
    refine V_aload_n (q := 11) X (TB.get tb_J7_fill_53178 8 rfl) rfl rfl rfl ?_
    refine V_iload_n (q := 12) X (TB.get tb_J7_fill_53178 9 rfl) rfl rfl rfl ?_
    refine V_iload_n (q := 13) X (TB.get tb_J7_fill_53178 10 rfl) rfl rfl rfl ?_
    obtain ⟨h5, eh5, e⟩ := bs e
    refine V_iastore (q := 14) X (TB.get tb_J7_fill_53178 11 rfl) rfl eh5 ?_
    refine V_iinc (q := 17) (v := v2 + (1 : Int32)) (lv' := [(2, .int (v2 + (1 : Int32))), (0, .ref a0), (1, .int a1), (3, .int x1)]) X (TB.get tb_J7_fill_53178 12 rfl) rfl rfl (by rw [c_iconst_1]) (Nat.le_of_ble_eq_true rfl) rfl ?_
    refine V_goto (q := 5) X (TB.get tb_J7_fill_53178 13 rfl) rfl ?_
    refine V_sub (lv' := [(0, .ref a0), (1, .int a1), (2, .int (v2 + (1 : Int32))), (3, .int x1)]) [1, 2, 0, 3] rfl ?_
    exact ihself4 _ _ e
set_option maxRecDepth 100000 in
set_option maxHeartbeats 4000000 in
theorem ok_J6_numberOfTrailingZeros_0f7a4 (a0 : Int32) (h : Hp) (res : Int32) (e : MJ6_numberOfTrailingZeros_0f7a4 a0 = some res) : CK yJ6_numberOfTrailingZeros_0f7a4 cJ6_numberOfTrailingZeros_0f7a4 2 (some .int) 0 [.int a0] h (some (.int res)) h := by
  unfold MJ6_numberOfTrailingZeros_0f7a4 at e
  refine CK_of pn_RJ6 cm_J6_numberOfTrailingZeros_0f7a4 (Nat.le_of_ble_eq_true rfl) ?_
  intro l D tc B nn p en s m args below meth c X hr hlk
  replace X : CX p (rmD 0) s m args c cJ6_numberOfTrailingZeros_0f7a4 2 RJ6 D tc 0 := X
  show V p l en (rmD 0) s m args below meth c 2 D tc B nn (Ar B nn) s.heap 0 0 (MQ below (QC D tc B nn (Ar B nn) (some (.int res)) h) args s 0 0 (Ar B nn)) h 0 [(0, .int a0)] []
  refine V_iload_n (q := 1) X (TB.get tb_J6_numberOfTrailingZeros_0f7a4 0 rfl) rfl rfl rfl ?_
  refine V_iconst (v := -1) (q := 2) X (TB.get tb_J6_numberOfTrailingZeros_0f7a4 1 rfl) c_iconst_m1 rfl ?_
  refine V_ixor (q := 3) X (TB.get tb_J6_numberOfTrailingZeros_0f7a4 2 rfl) rfl ?_
  refine V_iload_n (q := 4) X (TB.get tb_J6_numberOfTrailingZeros_0f7a4 3 rfl) rfl rfl rfl ?_
  refine V_iconst (v := 1) (q := 5) X (TB.get tb_J6_numberOfTrailingZeros_0f7a4 4 rfl) c_iconst_1 rfl ?_
  refine V_isub (q := 6) X (TB.get tb_J6_numberOfTrailingZeros_0f7a4 5 rfl) rfl ?_
  refine V_iand (q := 7) X (TB.get tb_J6_numberOfTrailingZeros_0f7a4 6 rfl) rfl ?_
  refine V_istore_n (q := 8) (lv' := [(0, .int ((a0 ^^^ (-1 : Int32)) &&& (a0 - (1 : Int32))))]) X (TB.get tb_J6_numberOfTrailingZeros_0f7a4 7 rfl) rfl rfl (Nat.le_of_ble_eq_true rfl) rfl ?_
  refine V_iload_n (q := 9) X (TB.get tb_J6_numberOfTrailingZeros_0f7a4 8 rfl) rfl rfl rfl ?_
  refine V_if_gt (q := 12) (t := 17) X (TB.get tb_J6_numberOfTrailingZeros_0f7a4 9 rfl) rfl rfl (fun hc => ?_) (fun hc => ?_)
  · have e := (if_pos hc).symm.trans e
    refine V_iconst (v := 1) (q := 18) X (TB.get tb_J6_numberOfTrailingZeros_0f7a4 14 rfl) c_iconst_1 rfl ?_
    refine V_istore_n (q := 19) (lv' := [(1, .int (1 : Int32)), (0, .int ((a0 ^^^ (-1 : Int32)) &&& (a0 - (1 : Int32))))]) X (TB.get tb_J6_numberOfTrailingZeros_0f7a4 15 rfl) rfl rfl (Nat.le_of_ble_eq_true rfl) rfl ?_
    refine V_iload_n (q := 20) X (TB.get tb_J6_numberOfTrailingZeros_0f7a4 16 rfl) rfl rfl rfl ?_
    refine V_ldcw (v := 65536) (q := 23) X (TB.get tb_J6_numberOfTrailingZeros_0f7a4 17 rfl) rfl kc_RJ6_264 ?_
    refine jn_elim (P := (fun (k : Int32 → Int32 → Option (Int32)) => ∀ (v1 : Int32) (v2 : Int32), k v1 v2 = some res → V p l en (rmD 0) s m args below meth c 2 D tc B nn (Ar B nn) s.heap 0 0 (MQ below (QC D tc B nn (Ar B nn) (some (.int res)) h) args s 0 0 (Ar B nn)) h 34 [(0, .int v1), (1, .int v2)] [])) e ?_ (fun j3 Jj3 e => ?_)
    · intro v1 v2 e
      refine V_iload_n (q := 35) X (TB.get tb_J6_numberOfTrailingZeros_0f7a4 24 rfl) rfl rfl rfl ?_
      refine V_sipush (v := 256) (q := 38) X (TB.get tb_J6_numberOfTrailingZeros_0f7a4 25 rfl) c_sipush_256 rfl ?_
      refine jn_elim (P := (fun (k : Int32 → Int32 → Option (Int32)) => ∀ (v4 : Int32) (v5 : Int32), k v4 v5 = some res → V p l en (rmD 0) s m args below meth c 2 D tc B nn (Ar B nn) s.heap 0 0 (MQ below (QC D tc B nn (Ar B nn) (some (.int res)) h) args s 0 0 (Ar B nn)) h 49 [(0, .int v4), (1, .int v5)] [])) e ?_ (fun j6 Jj6 e => ?_)
      · intro v4 v5 e
        refine V_iload_n (q := 50) X (TB.get tb_J6_numberOfTrailingZeros_0f7a4 32 rfl) rfl rfl rfl ?_
        refine V_bipush (v := 16) (q := 52) X (TB.get tb_J6_numberOfTrailingZeros_0f7a4 33 rfl) c_bipush_16 rfl ?_
        refine jn_elim (P := (fun (k : Int32 → Int32 → Option (Int32)) => ∀ (v7 : Int32) (v8 : Int32), k v7 v8 = some res → V p l en (rmD 0) s m args below meth c 2 D tc B nn (Ar B nn) s.heap 0 0 (MQ below (QC D tc B nn (Ar B nn) (some (.int res)) h) args s 0 0 (Ar B nn)) h 62 [(0, .int v7), (1, .int v8)] [])) e ?_ (fun j9 Jj9 e => ?_)
        · intro v7 v8 e
          refine V_iload_n (q := 63) X (TB.get tb_J6_numberOfTrailingZeros_0f7a4 40 rfl) rfl rfl rfl ?_
          refine V_iconst (v := 4) (q := 64) X (TB.get tb_J6_numberOfTrailingZeros_0f7a4 41 rfl) c_iconst_4 rfl ?_
          refine jn_elim (P := (fun (k : Int32 → Int32 → Option (Int32)) => ∀ (v10 : Int32) (v11 : Int32), k v10 v11 = some res → V p l en (rmD 0) s m args below meth c 2 D tc B nn (Ar B nn) s.heap 0 0 (MQ below (QC D tc B nn (Ar B nn) (some (.int res)) h) args s 0 0 (Ar B nn)) h 74 [(0, .int v10), (1, .int v11)] [])) e ?_ (fun j12 Jj12 e => ?_)
          · intro v10 v11 e
            refine V_iload_n (q := 75) X (TB.get tb_J6_numberOfTrailingZeros_0f7a4 48 rfl) rfl rfl rfl ?_
            refine V_iload_n (q := 76) X (TB.get tb_J6_numberOfTrailingZeros_0f7a4 49 rfl) rfl rfl rfl ?_
            refine V_iconst (v := 1) (q := 77) X (TB.get tb_J6_numberOfTrailingZeros_0f7a4 50 rfl) c_iconst_1 rfl ?_
            refine V_iushr (q := 78) X (TB.get tb_J6_numberOfTrailingZeros_0f7a4 51 rfl) rfl ?_
            refine V_iadd (q := 79) X (TB.get tb_J6_numberOfTrailingZeros_0f7a4 52 rfl) rfl ?_
            cases e
            exact V_iret X hr hlk (TB.get tb_J6_numberOfTrailingZeros_0f7a4 53 rfl)
          refine V_icmp_le (q := 67) (t := 74) X (TB.get tb_J6_numberOfTrailingZeros_0f7a4 42 rfl) rfl rfl (fun hc => ?_) (fun hc => ?_)
          · have e := (if_pos hc).symm.trans e
            exact Jj12 _ _ e
          · have e := (if_neg hc).symm.trans e
            refine V_iinc (q := 70) (v := v8 + (2 : Int32)) (lv' := [(1, .int (v8 + (2 : Int32))), (0, .int v7)]) X (TB.get tb_J6_numberOfTrailingZeros_0f7a4 43 rfl) rfl rfl (by rw [c_iconst_2]) (Nat.le_of_ble_eq_true rfl) rfl ?_
            refine V_iload_n (q := 71) X (TB.get tb_J6_numberOfTrailingZeros_0f7a4 44 rfl) rfl rfl rfl ?_
            refine V_iconst (v := 2) (q := 72) X (TB.get tb_J6_numberOfTrailingZeros_0f7a4 45 rfl) c_iconst_2 rfl ?_
            refine V_iushr (q := 73) X (TB.get tb_J6_numberOfTrailingZeros_0f7a4 46 rfl) rfl ?_
            refine V_istore_n (q := 74) (lv' := [(0, .int ((v7.toUInt32 >>> ((2 : Int32).toUInt32 &&& Int32.toUInt32 31)).toInt32)), (1, .int (v8 + (2 : Int32)))]) X (TB.get tb_J6_numberOfTrailingZeros_0f7a4 47 rfl) rfl rfl (Nat.le_of_ble_eq_true rfl) rfl ?_
            exact Jj12 _ _ e
        refine V_icmp_le (q := 55) (t := 62) X (TB.get tb_J6_numberOfTrailingZeros_0f7a4 34 rfl) rfl rfl (fun hc => ?_) (fun hc => ?_)
        · have e := (if_pos hc).symm.trans e
          exact Jj9 _ _ e
        · have e := (if_neg hc).symm.trans e
          refine V_iinc (q := 58) (v := v5 + (4 : Int32)) (lv' := [(1, .int (v5 + (4 : Int32))), (0, .int v4)]) X (TB.get tb_J6_numberOfTrailingZeros_0f7a4 35 rfl) rfl rfl (by rw [c_iconst_4]) (Nat.le_of_ble_eq_true rfl) rfl ?_
          refine V_iload_n (q := 59) X (TB.get tb_J6_numberOfTrailingZeros_0f7a4 36 rfl) rfl rfl rfl ?_
          refine V_iconst (v := 4) (q := 60) X (TB.get tb_J6_numberOfTrailingZeros_0f7a4 37 rfl) c_iconst_4 rfl ?_
          refine V_iushr (q := 61) X (TB.get tb_J6_numberOfTrailingZeros_0f7a4 38 rfl) rfl ?_
          refine V_istore_n (q := 62) (lv' := [(0, .int ((v4.toUInt32 >>> ((4 : Int32).toUInt32 &&& Int32.toUInt32 31)).toInt32)), (1, .int (v5 + (4 : Int32)))]) X (TB.get tb_J6_numberOfTrailingZeros_0f7a4 39 rfl) rfl rfl (Nat.le_of_ble_eq_true rfl) rfl ?_
          exact Jj9 _ _ e
      refine V_icmp_le (q := 41) (t := 49) X (TB.get tb_J6_numberOfTrailingZeros_0f7a4 26 rfl) rfl rfl (fun hc => ?_) (fun hc => ?_)
      · have e := (if_pos hc).symm.trans e
        exact Jj6 _ _ e
      · have e := (if_neg hc).symm.trans e
        refine V_iinc (q := 44) (v := v2 + (8 : Int32)) (lv' := [(1, .int (v2 + (8 : Int32))), (0, .int v1)]) X (TB.get tb_J6_numberOfTrailingZeros_0f7a4 27 rfl) rfl rfl (by rw [c_iconst_8]) (Nat.le_of_ble_eq_true rfl) rfl ?_
        refine V_iload_n (q := 45) X (TB.get tb_J6_numberOfTrailingZeros_0f7a4 28 rfl) rfl rfl rfl ?_
        refine V_bipush (v := 8) (q := 47) X (TB.get tb_J6_numberOfTrailingZeros_0f7a4 29 rfl) c_bipush_8 rfl ?_
        refine V_iushr (q := 48) X (TB.get tb_J6_numberOfTrailingZeros_0f7a4 30 rfl) rfl ?_
        refine V_istore_n (q := 49) (lv' := [(0, .int ((v1.toUInt32 >>> ((8 : Int32).toUInt32 &&& Int32.toUInt32 31)).toInt32)), (1, .int (v2 + (8 : Int32)))]) X (TB.get tb_J6_numberOfTrailingZeros_0f7a4 31 rfl) rfl rfl (Nat.le_of_ble_eq_true rfl) rfl ?_
        exact Jj6 _ _ e
    refine V_icmp_le (q := 26) (t := 34) X (TB.get tb_J6_numberOfTrailingZeros_0f7a4 18 rfl) rfl rfl (fun hc => ?_) (fun hc => ?_)
    · have e := (if_pos hc).symm.trans e
      refine V_sub (lv' := [(0, .int ((a0 ^^^ (-1 : Int32)) &&& (a0 - (1 : Int32)))), (1, .int (1 : Int32))]) [1, 0] rfl ?_
      exact Jj3 _ _ e
    · have e := (if_neg hc).symm.trans e
      refine V_iinc (q := 29) (v := (1 : Int32) + (16 : Int32)) (lv' := [(1, .int ((1 : Int32) + (16 : Int32))), (0, .int ((a0 ^^^ (-1 : Int32)) &&& (a0 - (1 : Int32))))]) X (TB.get tb_J6_numberOfTrailingZeros_0f7a4 19 rfl) rfl rfl (by rw [c_iconst_16]) (Nat.le_of_ble_eq_true rfl) rfl ?_
      refine V_iload_n (q := 30) X (TB.get tb_J6_numberOfTrailingZeros_0f7a4 20 rfl) rfl rfl rfl ?_
      refine V_bipush (v := 16) (q := 32) X (TB.get tb_J6_numberOfTrailingZeros_0f7a4 21 rfl) c_bipush_16 rfl ?_
      refine V_iushr (q := 33) X (TB.get tb_J6_numberOfTrailingZeros_0f7a4 22 rfl) rfl ?_
      refine V_istore_n (q := 34) (lv' := [(0, .int ((((a0 ^^^ (-1 : Int32)) &&& (a0 - (1 : Int32))).toUInt32 >>> ((16 : Int32).toUInt32 &&& Int32.toUInt32 31)).toInt32)), (1, .int ((1 : Int32) + (16 : Int32)))]) X (TB.get tb_J6_numberOfTrailingZeros_0f7a4 23 rfl) rfl rfl (Nat.le_of_ble_eq_true rfl) rfl ?_
      exact Jj3 _ _ e
  · have e := (if_neg hc).symm.trans e
    refine V_iload_n (q := 13) X (TB.get tb_J6_numberOfTrailingZeros_0f7a4 10 rfl) rfl rfl rfl ?_
    refine V_bipush (v := 32) (q := 15) X (TB.get tb_J6_numberOfTrailingZeros_0f7a4 11 rfl) c_bipush_32 rfl ?_
    refine V_iand (q := 16) X (TB.get tb_J6_numberOfTrailingZeros_0f7a4 12 rfl) rfl ?_
    cases e
    exact V_iret X hr hlk (TB.get tb_J6_numberOfTrailingZeros_0f7a4 13 rfl)
set_option maxRecDepth 100000 in
set_option maxHeartbeats 4000000 in
theorem ok_J7_fill_d0a16 (fu : Nat) (a0 : Nat) (a1 : Int64) (h : Hp) (res : Hp) (e : MJ7_fill_d0a16 fu a0 a1 h = some res) : CK yJ7_fill_d0a16 cJ7_fill_d0a16 5 none 0 [.ref a0, .long a1] h none res := by
  unfold MJ7_fill_d0a16 at e
  refine CK_of pn_RJ7 cm_J7_fill_d0a16 (Nat.le_of_ble_eq_true rfl) ?_
  intro l D tc B nn p en s m args below meth c X hr hlk
  replace X : CX p (rmD 0) s m args c cJ7_fill_d0a16 5 RJ7 D tc 0 := X
  show V p l en (rmD 0) s m args below meth c 5 D tc B nn (Ar B nn) s.heap 0 0 (MQ below (QC D tc B nn (Ar B nn) none res) args s 0 0 (Ar B nn)) h 0 [(0, .ref a0), (1, .long a1)] []
  refine V_iconst (v := 0) (q := 1) X (TB.get tb_J7_fill_d0a16 0 rfl) c_iconst_0 rfl ?_
  refine V_istore_n (q := 2) (lv' := [(3, .int (0 : Int32)), (0, .ref a0), (1, .long a1)]) X (TB.get tb_J7_fill_d0a16 1 rfl) rfl rfl (Nat.le_of_ble_eq_true rfl) rfl ?_
  refine V_aload_n (q := 3) X (TB.get tb_J7_fill_d0a16 2 rfl) rfl rfl rfl ?_
  obtain ⟨x1, ex1, e⟩ := bs e
  refine V_alen (t := 13) (q := 4) X (TB.get tb_J7_fill_d0a16 3 rfl) rfl (by decide) ex1 ?_
  refine V_istore (q := 6) (lv' := [(4, .int x1), (3, .int (0 : Int32)), (0, .ref a0), (1, .long a1)]) X (TB.get tb_J7_fill_d0a16 4 rfl) rfl (Nat.le_of_ble_eq_true rfl) rfl ?_
  refine V_sub (lv' := [(0, .ref a0), (1, .long a1), (3, .int (0 : Int32)), (4, .int x1)]) [2, 3, 1, 0] rfl ?_
  refine wh2_elim (P := fun v2 h3 => V p l en (rmD 0) s m args below meth c 5 D tc B nn (Ar B nn) s.heap 0 0 (MQ below (QC D tc B nn (Ar B nn) none res) args s 0 0 (Ar B nn)) h3 6 [(0, .ref a0), (1, .long a1), (3, .int v2), (4, .int x1)] []) (f := fu) ?_ e
  intro self4 v2 h3 ihself4 e
  unfold MJ7_fill_d0a16_B6 at e
  refine V_iload_n (q := 7) X (TB.get tb_J7_fill_d0a16 5 rfl) rfl rfl rfl ?_
  refine V_iload (q := 9) X (TB.get tb_J7_fill_d0a16 6 rfl) rfl rfl ?_
  refine V_icmp_ge (q := 12) (t := 22) X (TB.get tb_J7_fill_d0a16 7 rfl) rfl rfl (fun hc => ?_) (fun hc => ?_)
  · have e := (if_pos hc).symm.trans e
    cases e
    exact V_vret X hr hlk (TB.get tb_J7_fill_d0a16 14 rfl)
  · have e := (if_neg hc).symm.trans e
    refine V_aload_n (q := 13) X (TB.get tb_J7_fill_d0a16 8 rfl) rfl rfl rfl ?_
    refine V_iload_n (q := 14) X (TB.get tb_J7_fill_d0a16 9 rfl) rfl rfl rfl ?_
    refine V_lload_n (q := 15) X (TB.get tb_J7_fill_d0a16 10 rfl) rfl rfl rfl ?_
    obtain ⟨h5, eh5, e⟩ := bs e
    refine V_lastore (q := 16) X (TB.get tb_J7_fill_d0a16 11 rfl) rfl eh5 ?_
    refine V_iinc (q := 19) (v := v2 + (1 : Int32)) (lv' := [(3, .int (v2 + (1 : Int32))), (0, .ref a0), (1, .long a1), (4, .int x1)]) X (TB.get tb_J7_fill_d0a16 12 rfl) rfl rfl (by rw [c_iconst_1]) (Nat.le_of_ble_eq_true rfl) rfl ?_
    refine V_goto (q := 6) X (TB.get tb_J7_fill_d0a16 13 rfl) rfl ?_
    refine V_sub (lv' := [(0, .ref a0), (1, .long a1), (3, .int (v2 + (1 : Int32))), (4, .int x1)]) [1, 2, 0, 3] rfl ?_
    exact ihself4 _ _ e
