set_option maxRecDepth 100000 in
set_option maxHeartbeats 4000000 in
theorem ok_X9_alike (fu : Nat) (a0 : Nat) (a1 : Int32) (a2 : Int32) (a3 : Int32) (h : Hp) (res : Int32 × Hp) (e : MX9_alike fu a0 a1 a2 a3 h = some res) : CK yX9_alike cX9_alike 7 (some .int) 5 [.ref a0, .int a1, .int a2, .int a3] h (some (.int res.1)) res.2 ∧ (h.1 a0).1 = 9 := by
  obtain ⟨hcl, e⟩ := h_g_inv e
  refine ⟨CK_of pn_RX9 cm_X9_alike (Nat.le_of_ble_eq_true rfl) ?_, hcl⟩
  intro l D tc B nn p en s m args below meth c X hr hlk
  replace X : CX p (rmD 5) s m args c cX9_alike 7 RX9 D tc 5 := X
  show V p l en (rmD 5) s m args below meth c 7 D tc B nn (Ar B nn) s.heap 0 0 (MQ below (QC D tc B nn (Ar B nn) (some (.int res.1)) res.2) args s 0 0 (Ar B nn)) h 0 [(0, .ref a0), (1, .int a1), (2, .int a2), (3, .int a3)] []
  refine V_aload_n (q := 1) X (TB.get tb_X9_alike 0 rfl) rfl rfl rfl ?_
  refine V_iload_n (q := 2) X (TB.get tb_X9_alike 1 rfl) rfl rfl rfl ?_
  refine V_iload_n (q := 3) X (TB.get tb_X9_alike 2 rfl) rfl rfl rfl ?_
  obtain ⟨x1, ex1, e⟩ := bs e
  refine V_callV (q := 6) (As := [.int a1, .int a2]) (rest := []) (st' := [.int x1]) X (TB.get tb_X9_alike 3 rfl) rfl cv_RX9_276 (ok_X9_isState a0 a1 a2 h x1 ex1).1 (ok_X9_isState a0 a1 a2 h x1 ex1).2 (Nat.le_of_ble_eq_true rfl) rfl rfl (Nat.le_of_ble_eq_true rfl) rfl ?_
  refine jn_elim (P := (fun (k : Option (Int32 × Hp)) => k = some res → V p l en (rmD 5) s m args below meth c 7 D tc B nn (Ar B nn) s.heap 0 0 (MQ below (QC D tc B nn (Ar B nn) (some (.int res.1)) res.2) args s 0 0 (Ar B nn)) h 18 [(0, .ref a0)] [])) e ?_ (fun j2 Jj2 e => ?_)
  · intro e
    refine V_aload_n (q := 19) X (TB.get tb_X9_alike 10 rfl) rfl rfl rfl ?_
    refine V_iconst (v := 2) (q := 20) X (TB.get tb_X9_alike 11 rfl) c_iconst_2 rfl ?_
    obtain ⟨p3, ep3, e⟩ := bs e
    refine V_callV (q := 23) (As := [.int (2 : Int32)]) (rest := []) (st' := [.int p3.1]) X (TB.get tb_X9_alike 12 rfl) rfl cv_RX9_242 (ok_X9_refuse a0 (2 : Int32) h p3 ep3).1 (ok_X9_refuse a0 (2 : Int32) h p3 ep3).2 (Nat.le_of_ble_eq_true rfl) rfl rfl (Nat.le_of_ble_eq_true rfl) rfl ?_
    cases e
    exact V_iret X hr hlk (TB.get tb_X9_alike 13 rfl)
  refine V_if_eq (q := 9) (t := 18) X (TB.get tb_X9_alike 4 rfl) rfl rfl (fun hc => ?_) (fun hc => ?_)
  · have e := (if_pos hc).symm.trans e
    refine V_sub (lv' := [(0, .ref a0)]) [0] rfl ?_
    exact Jj2 e
  · have e := (if_neg hc).symm.trans e
    refine V_aload_n (q := 10) X (TB.get tb_X9_alike 5 rfl) rfl rfl rfl ?_
    refine V_iload_n (q := 11) X (TB.get tb_X9_alike 6 rfl) rfl rfl rfl ?_
    refine V_iload_n (q := 12) X (TB.get tb_X9_alike 7 rfl) rfl rfl rfl ?_
    obtain ⟨x4, ex4, e⟩ := bs e
    refine V_callV (q := 15) (As := [.int a1, .int a3]) (rest := []) (st' := [.int x4]) X (TB.get tb_X9_alike 8 rfl) rfl cv_RX9_276 (ok_X9_isState a0 a1 a3 h x4 ex4).1 (ok_X9_isState a0 a1 a3 h x4 ex4).2 (Nat.le_of_ble_eq_true rfl) rfl rfl (Nat.le_of_ble_eq_true rfl) rfl ?_
    refine V_if_ne (q := 18) (t := 24) X (TB.get tb_X9_alike 9 rfl) rfl rfl (fun hc => ?_) (fun hc => ?_)
    · have e := (if_neg hc).symm.trans e
      refine V_iconst (v := 0) (q := 25) X (TB.get tb_X9_alike 14 rfl) c_iconst_0 rfl ?_
      refine V_istore (q := 27) (lv' := [(4, .int (0 : Int32)), (0, .ref a0), (1, .int a1), (2, .int a2), (3, .int a3)]) X (TB.get tb_X9_alike 15 rfl) rfl (Nat.le_of_ble_eq_true rfl) rfl ?_
      refine jn_elim (P := (fun (k : Hp → Option (Int32 × Hp)) => ∀ (h5 : Hp), k h5 = some res → V p l en (rmD 5) s m args below meth c 7 D tc B nn (Ar B nn) s.heap 0 0 (MQ below (QC D tc B nn (Ar B nn) (some (.int res.1)) res.2) args s 0 0 (Ar B nn)) h5 48 [(0, .ref a0), (1, .int a1), (2, .int a2), (3, .int a3)] [])) e ?_ (fun j6 Jj6 e => ?_)
      · intro h5 e
        refine V_iconst (v := 1) (q := 49) X (TB.get tb_X9_alike 26 rfl) c_iconst_1 rfl ?_
        refine V_istore (q := 51) (lv' := [(4, .int (1 : Int32)), (0, .ref a0), (1, .int a1), (2, .int a2), (3, .int a3)]) X (TB.get tb_X9_alike 27 rfl) rfl (Nat.le_of_ble_eq_true rfl) rfl ?_
        refine jn_elim (P := (fun (k : Hp → Option (Int32 × Hp)) => ∀ (h7 : Hp), k h7 = some res → V p l en (rmD 5) s m args below meth c 7 D tc B nn (Ar B nn) s.heap 0 0 (MQ below (QC D tc B nn (Ar B nn) (some (.int res.1)) res.2) args s 0 0 (Ar B nn)) h7 154 [(0, .ref a0), (2, .int a2), (3, .int a3)] [])) e ?_ (fun j8 Jj8 e => ?_)
        · intro h7 e
          refine V_aload_n (q := 155) X (TB.get tb_X9_alike 84 rfl) rfl rfl rfl ?_
          refine V_aload_n (q := 156) X (TB.get tb_X9_alike 85 rfl) rfl rfl rfl ?_
          obtain ⟨x9, ex9, e⟩ := bs e
          refine V_getR (q := 159) X (TB.get tb_X9_alike 86 rfl) rfl lf_RX9_33 ex9 ?_
          refine V_bipush (v := 6) (q := 161) X (TB.get tb_X9_alike 87 rfl) c_bipush_6 rfl ?_
          refine V_iload_n (q := 162) X (TB.get tb_X9_alike 88 rfl) rfl rfl rfl ?_
          refine V_imul (q := 163) X (TB.get tb_X9_alike 89 rfl) rfl ?_
          refine V_iload_n (q := 164) X (TB.get tb_X9_alike 90 rfl) rfl rfl rfl ?_
          refine V_iadd (q := 165) X (TB.get tb_X9_alike 91 rfl) rfl ?_
          obtain ⟨x10, ex10, e⟩ := bs e
          refine V_baloadZ (q := 166) X (TB.get tb_X9_alike 92 rfl) rfl ex10 ?_
          refine jn_elim (P := (fun (k : Int32 → Option (Int32 × Hp)) => ∀ (w11 : Int32), k w11 = some res → V p l en (rmD 5) s m args below meth c 7 D tc B nn (Ar B nn) s.heap 0 0 (MQ below (QC D tc B nn (Ar B nn) (some (.int res.1)) res.2) args s 0 0 (Ar B nn)) h7 174 [] [.int w11, .ref a0])) e ?_ (fun j12 Jj12 e => ?_)
          · intro w11 e
            obtain ⟨p13, ep13, e⟩ := bs e
            refine V_callV (q := 177) (As := [.int w11]) (rest := []) (st' := [.int p13.1]) X (TB.get tb_X9_alike 97 rfl) rfl cv_RX9_248 (ok_X9_gives a0 w11 h7 p13 ep13).1 (ok_X9_gives a0 w11 h7 p13 ep13).2 (Nat.le_of_ble_eq_true rfl) rfl rfl (Nat.le_of_ble_eq_true rfl) rfl ?_
            cases e
            exact V_iret X hr hlk (TB.get tb_X9_alike 98 rfl)
          refine V_if_eq (q := 169) (t := 173) X (TB.get tb_X9_alike 93 rfl) rfl rfl (fun hc => ?_) (fun hc => ?_)
          · have e := (if_pos hc).symm.trans e
            refine V_iconst (v := 1) (q := 174) X (TB.get tb_X9_alike 96 rfl) c_iconst_1 rfl ?_
            refine V_sub (lv' := []) [] rfl ?_
            exact Jj12 _ e
          · have e := (if_neg hc).symm.trans e
            refine V_iconst (v := 0) (q := 170) X (TB.get tb_X9_alike 94 rfl) c_iconst_0 rfl ?_
            refine V_goto (q := 174) X (TB.get tb_X9_alike 95 rfl) rfl ?_
            refine V_sub (lv' := []) [] rfl ?_
            exact Jj12 _ e
        refine V_sub (lv' := [(0, .ref a0), (1, .int a1), (2, .int a2), (3, .int a3), (4, .int (1 : Int32))]) [1, 2, 3, 4, 0] rfl ?_
        refine wh2_elim (P := fun v14 h15 => V p l en (rmD 5) s m args below meth c 7 D tc B nn (Ar B nn) s.heap 0 0 (MQ below (QC D tc B nn (Ar B nn) (some (.int res.1)) res.2) args s 0 0 (Ar B nn)) h15 51 [(0, .ref a0), (1, .int a1), (2, .int a2), (3, .int a3), (4, .int v14)] []) (f := fu) ?_ e
        intro self16 v14 h15 ihself16 e
        unfold MX9_alike_B51 at e
        refine V_iload (q := 53) X (TB.get tb_X9_alike 28 rfl) rfl rfl ?_
        refine V_if_eq (q := 56) (t := 154) X (TB.get tb_X9_alike 29 rfl) rfl rfl (fun hc => ?_) (fun hc => ?_)
        · have e := (if_pos hc).symm.trans e
          refine V_sub (lv' := [(0, .ref a0), (2, .int a2), (3, .int a3)]) [0, 2, 3] rfl ?_
          exact Jj8 _ e
        · have e := (if_neg hc).symm.trans e
          refine V_iconst (v := 0) (q := 57) X (TB.get tb_X9_alike 30 rfl) c_iconst_0 rfl ?_
          refine V_istore (q := 59) (lv' := [(4, .int (0 : Int32)), (0, .ref a0), (1, .int a1), (2, .int a2), (3, .int a3)]) X (TB.get tb_X9_alike 31 rfl) rfl (Nat.le_of_ble_eq_true rfl) rfl ?_
          refine V_iconst (v := 0) (q := 60) X (TB.get tb_X9_alike 32 rfl) c_iconst_0 rfl ?_
          refine V_istore (q := 62) (lv' := [(5, .int (0 : Int32)), (4, .int (0 : Int32)), (0, .ref a0), (1, .int a1), (2, .int a2), (3, .int a3)]) X (TB.get tb_X9_alike 33 rfl) rfl (Nat.le_of_ble_eq_true rfl) rfl ?_
          refine jn_elim (P := (fun (k : Int32 → Hp → Option (Int32 × Hp)) => ∀ (v17 : Int32) (h18 : Hp), k v17 h18 = some res → V p l en (rmD 5) s m args below meth c 7 D tc B nn (Ar B nn) s.heap 0 0 (MQ below (QC D tc B nn (Ar B nn) (some (.int res.1)) res.2) args s 0 0 (Ar B nn)) h18 151 [(0, .ref a0), (1, .int a1), (2, .int a2), (3, .int a3), (4, .int v17)] [])) e ?_ (fun j19 Jj19 e => ?_)
          · intro v17 h18 e
            refine V_goto (q := 51) X (TB.get tb_X9_alike 83 rfl) rfl ?_
            exact ihself16 _ _ e
          refine V_sub (lv' := [(0, .ref a0), (1, .int a1), (2, .int a2), (3, .int a3), (4, .int (0 : Int32)), (5, .int (0 : Int32))]) [2, 3, 4, 5, 1, 0] rfl ?_
          refine wh3_elim (P := fun v20 v21 h22 => V p l en (rmD 5) s m args below meth c 7 D tc B nn (Ar B nn) s.heap 0 0 (MQ below (QC D tc B nn (Ar B nn) (some (.int res.1)) res.2) args s 0 0 (Ar B nn)) h22 62 [(0, .ref a0), (1, .int a1), (2, .int a2), (3, .int a3), (4, .int v20), (5, .int v21)] []) (f := fu) ?_ e
          intro self23 v20 v21 h22 ihself23 e
          unfold MX9_alike_B62 at e
          refine V_iload (q := 64) X (TB.get tb_X9_alike 34 rfl) rfl rfl ?_
          refine V_aload_n (q := 65) X (TB.get tb_X9_alike 35 rfl) rfl rfl rfl ?_
          obtain ⟨x24, ex24, e⟩ := bs e
          refine V_getR (q := 68) X (TB.get tb_X9_alike 36 rfl) rfl lf_RX9_13 ex24 ?_
          refine V_iconst (v := 3) (q := 69) X (TB.get tb_X9_alike 37 rfl) c_iconst_3 rfl ?_
          refine V_iload_n (q := 70) X (TB.get tb_X9_alike 38 rfl) rfl rfl rfl ?_
          refine V_iadd (q := 71) X (TB.get tb_X9_alike 39 rfl) rfl ?_
          obtain ⟨x25, ex25, e⟩ := bs e
          refine V_iaload (q := 72) X (TB.get tb_X9_alike 40 rfl) rfl ex25 ?_
          refine V_icmp_ge (q := 75) (t := 151) X (TB.get tb_X9_alike 41 rfl) rfl rfl (fun hc => ?_) (fun hc => ?_)
          · have e := (if_pos hc).symm.trans e
            refine V_sub (lv' := [(0, .ref a0), (1, .int a1), (2, .int a2), (3, .int a3), (4, .int v20)]) [0, 1, 2, 3, 4] rfl ?_
            exact Jj19 _ _ e
          · have e := (if_neg hc).symm.trans e
            refine V_iconst (v := 0) (q := 76) X (TB.get tb_X9_alike 42 rfl) c_iconst_0 rfl ?_
            refine V_istore (q := 78) (lv' := [(6, .int (0 : Int32)), (0, .ref a0), (1, .int a1), (2, .int a2), (3, .int a3), (4, .int v20), (5, .int v21)]) X (TB.get tb_X9_alike 43 rfl) rfl (Nat.le_of_ble_eq_true rfl) rfl ?_
            refine jn_elim (P := (fun (k : Int32 → Hp → Option (Int32 × Hp)) => ∀ (v26 : Int32) (h27 : Hp), k v26 h27 = some res → V p l en (rmD 5) s m args below meth c 7 D tc B nn (Ar B nn) s.heap 0 0 (MQ below (QC D tc B nn (Ar B nn) (some (.int res.1)) res.2) args s 0 0 (Ar B nn)) h27 145 [(0, .ref a0), (1, .int a1), (2, .int a2), (3, .int a3), (4, .int v26), (5, .int v21)] [])) e ?_ (fun j28 Jj28 e => ?_)
            · intro v26 h27 e
              refine V_iinc (q := 148) (v := v21 + (1 : Int32)) (lv' := [(5, .int (v21 + (1 : Int32))), (0, .ref a0), (1, .int a1), (2, .int a2), (3, .int a3), (4, .int v26)]) X (TB.get tb_X9_alike 81 rfl) rfl rfl (by rw [c_iconst_1]) (Nat.le_of_ble_eq_true rfl) rfl ?_
              refine V_goto (q := 62) X (TB.get tb_X9_alike 82 rfl) rfl ?_
              refine V_sub (lv' := [(0, .ref a0), (1, .int a1), (2, .int a2), (3, .int a3), (4, .int v26), (5, .int (v21 + (1 : Int32)))]) [1, 2, 3, 4, 5, 0] rfl ?_
              exact ihself23 _ _ _ e
            refine V_sub (lv' := [(0, .ref a0), (1, .int a1), (2, .int a2), (3, .int a3), (4, .int v20), (5, .int v21), (6, .int (0 : Int32))]) [1, 2, 3, 4, 5, 6, 0] rfl ?_
            refine wh3_elim (P := fun v29 v30 h31 => V p l en (rmD 5) s m args below meth c 7 D tc B nn (Ar B nn) s.heap 0 0 (MQ below (QC D tc B nn (Ar B nn) (some (.int res.1)) res.2) args s 0 0 (Ar B nn)) h31 78 [(0, .ref a0), (1, .int a1), (2, .int a2), (3, .int a3), (4, .int v29), (5, .int v21), (6, .int v30)] []) (f := fu) ?_ e
            intro self32 v29 v30 h31 ihself32 e
            unfold MX9_alike_B78 at e
            refine V_iload (q := 80) X (TB.get tb_X9_alike 44 rfl) rfl rfl ?_
            refine V_aload_n (q := 81) X (TB.get tb_X9_alike 45 rfl) rfl rfl rfl ?_
            obtain ⟨x33, ex33, e⟩ := bs e
            refine V_getR (q := 84) X (TB.get tb_X9_alike 46 rfl) rfl lf_RX9_13 ex33 ?_
            refine V_iconst (v := 3) (q := 85) X (TB.get tb_X9_alike 47 rfl) c_iconst_3 rfl ?_
            refine V_iload_n (q := 86) X (TB.get tb_X9_alike 48 rfl) rfl rfl rfl ?_
            refine V_iadd (q := 87) X (TB.get tb_X9_alike 49 rfl) rfl ?_
            obtain ⟨x34, ex34, e⟩ := bs e
            refine V_iaload (q := 88) X (TB.get tb_X9_alike 50 rfl) rfl ex34 ?_
            refine V_icmp_ge (q := 91) (t := 145) X (TB.get tb_X9_alike 51 rfl) rfl rfl (fun hc => ?_) (fun hc => ?_)
            · have e := (if_pos hc).symm.trans e
              refine V_sub (lv' := [(0, .ref a0), (1, .int a1), (2, .int a2), (3, .int a3), (4, .int v29), (5, .int v21)]) [0, 1, 2, 3, 4, 5] rfl ?_
              exact Jj28 _ _ e
            · have e := (if_neg hc).symm.trans e
              refine V_aload_n (q := 92) X (TB.get tb_X9_alike 52 rfl) rfl rfl rfl ?_
              obtain ⟨x35, ex35, e⟩ := bs e
              refine V_getR (q := 95) X (TB.get tb_X9_alike 53 rfl) rfl lf_RX9_33 ex35 ?_
              refine V_bipush (v := 6) (q := 97) X (TB.get tb_X9_alike 54 rfl) c_bipush_6 rfl ?_
              refine V_iload (q := 99) X (TB.get tb_X9_alike 55 rfl) rfl rfl ?_
              refine V_imul (q := 100) X (TB.get tb_X9_alike 56 rfl) rfl ?_
              refine V_iload (q := 102) X (TB.get tb_X9_alike 57 rfl) rfl rfl ?_
              refine V_iadd (q := 103) X (TB.get tb_X9_alike 58 rfl) rfl ?_
              obtain ⟨x36, ex36, e⟩ := bs e
              refine V_baloadZ (q := 104) X (TB.get tb_X9_alike 59 rfl) rfl ex36 ?_
              refine jn_elim (P := (fun (k : Int32 → Hp → Option (Int32 × Hp)) => ∀ (v37 : Int32) (h38 : Hp), k v37 h38 = some res → V p l en (rmD 5) s m args below meth c 7 D tc B nn (Ar B nn) s.heap 0 0 (MQ below (QC D tc B nn (Ar B nn) (some (.int res.1)) res.2) args s 0 0 (Ar B nn)) h38 139 [(0, .ref a0), (1, .int a1), (2, .int a2), (3, .int a3), (4, .int v37), (5, .int v21), (6, .int v30)] [])) e ?_ (fun j39 Jj39 e => ?_)
              · intro v37 h38 e
                refine V_iinc (q := 142) (v := v30 + (1 : Int32)) (lv' := [(6, .int (v30 + (1 : Int32))), (0, .ref a0), (1, .int a1), (2, .int a2), (3, .int a3), (4, .int v37), (5, .int v21)]) X (TB.get tb_X9_alike 79 rfl) rfl rfl (by rw [c_iconst_1]) (Nat.le_of_ble_eq_true rfl) rfl ?_
                refine V_goto (q := 78) X (TB.get tb_X9_alike 80 rfl) rfl ?_
                refine V_sub (lv' := [(0, .ref a0), (1, .int a1), (2, .int a2), (3, .int a3), (4, .int v37), (5, .int v21), (6, .int (v30 + (1 : Int32)))]) [1, 2, 3, 4, 5, 6, 0] rfl ?_
                exact ihself32 _ _ _ e
              refine V_if_ne (q := 107) (t := 139) X (TB.get tb_X9_alike 60 rfl) rfl rfl (fun hc => ?_) (fun hc => ?_)
              · have e := (if_neg hc).symm.trans e
                exact Jj39 _ _ e
              · have e := (if_pos hc).symm.trans e
                refine V_aload_n (q := 108) X (TB.get tb_X9_alike 61 rfl) rfl rfl rfl ?_
                refine V_iload_n (q := 109) X (TB.get tb_X9_alike 62 rfl) rfl rfl rfl ?_
                refine V_iload (q := 111) X (TB.get tb_X9_alike 63 rfl) rfl rfl ?_
                refine V_iload (q := 113) X (TB.get tb_X9_alike 64 rfl) rfl rfl ?_
                obtain ⟨x40, ex40, e⟩ := bs e
                refine V_callV (q := 116) (As := [.int a1, .int v21, .int v30]) (rest := []) (st' := [.int x40]) X (TB.get tb_X9_alike 65 rfl) rfl cv_RX9_293 (ok_X9_differ fu a0 a1 v21 v30 h31 x40 ex40).1 (ok_X9_differ fu a0 a1 v21 v30 h31 x40 ex40).2 (Nat.le_of_ble_eq_true rfl) rfl rfl (Nat.le_of_ble_eq_true rfl) rfl ?_
                refine V_if_ne (q := 119) (t := 122) X (TB.get tb_X9_alike 66 rfl) rfl rfl (fun hc => ?_) (fun hc => ?_)
                · have e := (if_neg hc).symm.trans e
                  refine V_aload_n (q := 123) X (TB.get tb_X9_alike 68 rfl) rfl rfl rfl ?_
                  refine V_getR (q := 126) X (TB.get tb_X9_alike 69 rfl) rfl lf_RX9_33 ex35 ?_
                  refine V_bipush (v := 6) (q := 128) X (TB.get tb_X9_alike 70 rfl) c_bipush_6 rfl ?_
                  refine V_iload (q := 130) X (TB.get tb_X9_alike 71 rfl) rfl rfl ?_
                  refine V_imul (q := 131) X (TB.get tb_X9_alike 72 rfl) rfl ?_
                  refine V_iload (q := 133) X (TB.get tb_X9_alike 73 rfl) rfl rfl ?_
                  refine V_iadd (q := 134) X (TB.get tb_X9_alike 74 rfl) rfl ?_
                  refine V_iconst (v := 1) (q := 135) X (TB.get tb_X9_alike 75 rfl) c_iconst_1 rfl ?_
                  obtain ⟨h41, eh41, e⟩ := bs e
                  refine V_bastoreZ (q := 136) X (TB.get tb_X9_alike 76 rfl) rfl eh41 ?_
                  refine V_iconst (v := 1) (q := 137) X (TB.get tb_X9_alike 77 rfl) c_iconst_1 rfl ?_
                  refine V_istore (q := 139) (lv' := [(4, .int (1 : Int32)), (0, .ref a0), (1, .int a1), (2, .int a2), (3, .int a3), (5, .int v21), (6, .int v30)]) X (TB.get tb_X9_alike 78 rfl) rfl (Nat.le_of_ble_eq_true rfl) rfl ?_
                  refine V_sub (lv' := [(0, .ref a0), (1, .int a1), (2, .int a2), (3, .int a3), (4, .int (1 : Int32)), (5, .int v21), (6, .int v30)]) [1, 2, 3, 4, 0, 5, 6] rfl ?_
                  exact Jj39 _ _ e
                · have e := (if_pos hc).symm.trans e
                  refine V_goto (q := 139) X (TB.get tb_X9_alike 67 rfl) rfl ?_
                  exact Jj39 _ _ e
      refine V_sub (lv' := [(0, .ref a0), (1, .int a1), (2, .int a2), (3, .int a3), (4, .int (0 : Int32))]) [1, 2, 3, 4, 0] rfl ?_
      refine wh2_elim (P := fun v42 h43 => V p l en (rmD 5) s m args below meth c 7 D tc B nn (Ar B nn) s.heap 0 0 (MQ below (QC D tc B nn (Ar B nn) (some (.int res.1)) res.2) args s 0 0 (Ar B nn)) h43 27 [(0, .ref a0), (1, .int a1), (2, .int a2), (3, .int a3), (4, .int v42)] []) (f := fu) ?_ e
      intro self44 v42 h43 ihself44 e
      unfold MX9_alike_B27 at e
      refine V_iload (q := 29) X (TB.get tb_X9_alike 16 rfl) rfl rfl ?_
      refine V_bipush (v := 36) (q := 31) X (TB.get tb_X9_alike 17 rfl) c_bipush_36 rfl ?_
      refine V_icmp_ge (q := 34) (t := 48) X (TB.get tb_X9_alike 18 rfl) rfl rfl (fun hc => ?_) (fun hc => ?_)
      · have e := (if_pos hc).symm.trans e
        refine V_sub (lv' := [(0, .ref a0), (1, .int a1), (2, .int a2), (3, .int a3)]) [0, 1, 2, 3] rfl ?_
        exact Jj6 _ e
      · have e := (if_neg hc).symm.trans e
        refine V_aload_n (q := 35) X (TB.get tb_X9_alike 19 rfl) rfl rfl rfl ?_
        obtain ⟨x45, ex45, e⟩ := bs e
        refine V_getR (q := 38) X (TB.get tb_X9_alike 20 rfl) rfl lf_RX9_33 ex45 ?_
        refine V_iload (q := 40) X (TB.get tb_X9_alike 21 rfl) rfl rfl ?_
        refine V_iconst (v := 0) (q := 41) X (TB.get tb_X9_alike 22 rfl) c_iconst_0 rfl ?_
        obtain ⟨h46, eh46, e⟩ := bs e
        refine V_bastoreZ (q := 42) X (TB.get tb_X9_alike 23 rfl) rfl eh46 ?_
        refine V_iinc (q := 45) (v := v42 + (1 : Int32)) (lv' := [(4, .int (v42 + (1 : Int32))), (0, .ref a0), (1, .int a1), (2, .int a2), (3, .int a3)]) X (TB.get tb_X9_alike 24 rfl) rfl rfl (by rw [c_iconst_1]) (Nat.le_of_ble_eq_true rfl) rfl ?_
        refine V_goto (q := 27) X (TB.get tb_X9_alike 25 rfl) rfl ?_
        refine V_sub (lv' := [(0, .ref a0), (1, .int a1), (2, .int a2), (3, .int a3), (4, .int (v42 + (1 : Int32)))]) [1, 2, 3, 4, 0] rfl ?_
        exact ihself44 _ _ e
    · have e := (if_pos hc).symm.trans e
      refine V_sub (lv' := [(0, .ref a0)]) [0] rfl ?_
      exact Jj2 e
set_option maxRecDepth 100000 in
set_option maxHeartbeats 4000000 in
theorem ok_X9_rows (fu : Nat) (a0 : Nat) (a1 : Int32) (a2 : Int32) (a3 : Int32) (h : Hp) (res : Int32 × Hp) (e : MX9_rows fu a0 a1 a2 a3 h = some res) : CK yX9_rows cX9_rows 7 (some .int) 4 [.ref a0, .int a1, .int a2, .int a3] h (some (.int res.1)) res.2 ∧ (h.1 a0).1 = 9 := by
  obtain ⟨hcl, e⟩ := h_g_inv e
  refine ⟨CK_of pn_RX9 cm_X9_rows (Nat.le_of_ble_eq_true rfl) ?_, hcl⟩
  intro l D tc B nn p en s m args below meth c X hr hlk
  replace X : CX p (rmD 4) s m args c cX9_rows 7 RX9 D tc 4 := X
  show V p l en (rmD 4) s m args below meth c 7 D tc B nn (Ar B nn) s.heap 0 0 (MQ below (QC D tc B nn (Ar B nn) (some (.int res.1)) res.2) args s 0 0 (Ar B nn)) h 0 [(0, .ref a0), (1, .int a1), (2, .int a2), (3, .int a3)] []
  refine V_iload_n (q := 1) X (TB.get tb_X9_rows 0 rfl) rfl rfl rfl ?_
  refine V_iconst (v := 0) (q := 2) X (TB.get tb_X9_rows 1 rfl) c_iconst_0 rfl ?_
  refine V_bipush (v := 12) (q := 4) X (TB.get tb_X9_rows 2 rfl) c_bipush_12 rfl ?_
  obtain ⟨x1, ex1, e⟩ := bs e
  refine V_callS (q := 7) (As := [.int a2, .int (0 : Int32), .int (12 : Int32)]) (rest := []) (st' := [.int x1]) X (TB.get tb_X9_rows 3 rfl) rfl cs_RX9_239 (ok_X9_isFrom a2 (0 : Int32) (12 : Int32) h x1 ex1) (Nat.le_of_ble_eq_true rfl) rfl rfl (Nat.le_of_ble_eq_true rfl) rfl ?_
  refine V_if_ne (q := 10) (t := 16) X (TB.get tb_X9_rows 4 rfl) rfl rfl (fun hc => ?_) (fun hc => ?_)
  · have e := (if_neg hc).symm.trans e
    refine V_aload_n (q := 17) X (TB.get tb_X9_rows 9 rfl) rfl rfl rfl ?_
    refine V_iload_n (q := 18) X (TB.get tb_X9_rows 10 rfl) rfl rfl rfl ?_
    obtain ⟨x2, ex2, e⟩ := bs e
    refine V_callV (q := 21) (As := [.int a1]) (rest := []) (st' := [.int x2]) X (TB.get tb_X9_rows 11 rfl) rfl cv_RX9_251 (ok_X9_isKind a0 a1 h x2 ex2).1 (ok_X9_isKind a0 a1 h x2 ex2).2 (Nat.le_of_ble_eq_true rfl) rfl rfl (Nat.le_of_ble_eq_true rfl) rfl ?_
    refine V_if_ne (q := 24) (t := 30) X (TB.get tb_X9_rows 12 rfl) rfl rfl (fun hc => ?_) (fun hc => ?_)
    · have e := (if_neg hc).symm.trans e
      refine V_iconst (v := 0) (q := 31) X (TB.get tb_X9_rows 17 rfl) c_iconst_0 rfl ?_
      refine V_istore (q := 33) (lv' := [(4, .int (0 : Int32)), (0, .ref a0), (1, .int a1), (2, .int a2), (3, .int a3)]) X (TB.get tb_X9_rows 18 rfl) rfl (Nat.le_of_ble_eq_true rfl) rfl ?_
      refine jn_elim (P := (fun (k : Hp → Option (Int32 × Hp)) => ∀ (h3 : Hp), k h3 = some res → V p l en (rmD 4) s m args below meth c 7 D tc B nn (Ar B nn) s.heap 0 0 (MQ below (QC D tc B nn (Ar B nn) (some (.int res.1)) res.2) args s 0 0 (Ar B nn)) h3 63 [(0, .ref a0), (1, .int a1), (2, .int a2), (3, .int a3)] [])) e ?_ (fun j4 Jj4 e => ?_)
      · intro h3 e
        refine V_iconst (v := 0) (q := 64) X (TB.get tb_X9_rows 33 rfl) c_iconst_0 rfl ?_
        refine V_istore (q := 66) (lv' := [(4, .int (0 : Int32)), (0, .ref a0), (1, .int a1), (2, .int a2), (3, .int a3)]) X (TB.get tb_X9_rows 34 rfl) rfl (Nat.le_of_ble_eq_true rfl) rfl ?_
        refine jn_elim (P := (fun (k : Hp → Option (Int32 × Hp)) => ∀ (h5 : Hp), k h5 = some res → V p l en (rmD 4) s m args below meth c 7 D tc B nn (Ar B nn) s.heap 0 0 (MQ below (QC D tc B nn (Ar B nn) (some (.int res.1)) res.2) args s 0 0 (Ar B nn)) h5 290 [(0, .ref a0), (1, .int a1), (3, .int a3)] [])) e ?_ (fun j6 Jj6 e => ?_)
        · intro h5 e
          refine V_lconst (v := 0) (q := 291) X (TB.get tb_X9_rows 154 rfl) c_lconst_0 rfl ?_
          refine V_lstore (q := 293) (lv' := [(4, .long (0 : Int64)), (0, .ref a0), (1, .int a1), (3, .int a3)]) X (TB.get tb_X9_rows 155 rfl) rfl (Nat.le_of_ble_eq_true rfl) rfl ?_
          refine V_iconst (v := 0) (q := 294) X (TB.get tb_X9_rows 156 rfl) c_iconst_0 rfl ?_
          refine V_istore (q := 296) (lv' := [(6, .int (0 : Int32)), (4, .long (0 : Int64)), (0, .ref a0), (1, .int a1), (3, .int a3)]) X (TB.get tb_X9_rows 157 rfl) rfl (Nat.le_of_ble_eq_true rfl) rfl ?_
          refine jn_elim (P := (fun (k : Int64 → Option (Int32 × Hp)) => ∀ (v7 : Int64), k v7 = some res → V p l en (rmD 4) s m args below meth c 7 D tc B nn (Ar B nn) s.heap 0 0 (MQ below (QC D tc B nn (Ar B nn) (some (.int res.1)) res.2) args s 0 0 (Ar B nn)) h5 345 [(0, .ref a0), (4, .long v7)] [])) e ?_ (fun j8 Jj8 e => ?_)
          · intro v7 e
            refine V_aload_n (q := 346) X (TB.get tb_X9_rows 184 rfl) rfl rfl rfl ?_
            refine V_lload (q := 348) X (TB.get tb_X9_rows 185 rfl) rfl rfl ?_
            refine V_ldc2 (v := 1000000007) (q := 351) X (TB.get tb_X9_rows 186 rfl) rfl kl_RX9_296 ?_
            obtain ⟨x9, ex9, e⟩ := bs e
            refine V_lrem (q := 352) X (TB.get tb_X9_rows 187 rfl) rfl ex9 ?_
            refine V_l2i (q := 353) X (TB.get tb_X9_rows 188 rfl) rfl ?_
            obtain ⟨p10, ep10, e⟩ := bs e
            refine V_callV (q := 356) (As := [.int x9.toInt32]) (rest := []) (st' := [.int p10.1]) X (TB.get tb_X9_rows 189 rfl) rfl cv_RX9_248 (ok_X9_gives a0 x9.toInt32 h5 p10 ep10).1 (ok_X9_gives a0 x9.toInt32 h5 p10 ep10).2 (Nat.le_of_ble_eq_true rfl) rfl rfl (Nat.le_of_ble_eq_true rfl) rfl ?_
            cases e
            exact V_iret X hr hlk (TB.get tb_X9_rows 190 rfl)
          refine V_sub (lv' := [(0, .ref a0), (1, .int a1), (3, .int a3), (4, .long (0 : Int64)), (6, .int (0 : Int32))]) [2, 3, 4, 1, 0] rfl ?_
          refine wh2_elim (P := fun v11 v12 => V p l en (rmD 4) s m args below meth c 7 D tc B nn (Ar B nn) s.heap 0 0 (MQ below (QC D tc B nn (Ar B nn) (some (.int res.1)) res.2) args s 0 0 (Ar B nn)) h5 296 [(0, .ref a0), (1, .int a1), (3, .int a3), (4, .long v11), (6, .int v12)] []) (f := fu) ?_ e
          intro self13 v11 v12 ihself13 e
          unfold MX9_rows_B296 at e
          refine V_iload (q := 298) X (TB.get tb_X9_rows 158 rfl) rfl rfl ?_
          refine V_aload_n (q := 299) X (TB.get tb_X9_rows 159 rfl) rfl rfl rfl ?_
          obtain ⟨x14, ex14, e⟩ := bs e
          refine V_getR (q := 302) X (TB.get tb_X9_rows 160 rfl) rfl lf_RX9_13 ex14 ?_
          refine V_iconst (v := 3) (q := 303) X (TB.get tb_X9_rows 161 rfl) c_iconst_3 rfl ?_
          refine V_iload_n (q := 304) X (TB.get tb_X9_rows 162 rfl) rfl rfl rfl ?_
          refine V_iadd (q := 305) X (TB.get tb_X9_rows 163 rfl) rfl ?_
          obtain ⟨x15, ex15, e⟩ := bs e
          refine V_iaload (q := 306) X (TB.get tb_X9_rows 164 rfl) rfl ex15 ?_
          refine V_icmp_ge (q := 309) (t := 345) X (TB.get tb_X9_rows 165 rfl) rfl rfl (fun hc => ?_) (fun hc => ?_)
          · have e := (if_pos hc).symm.trans e
            refine V_sub (lv' := [(0, .ref a0), (4, .long v11)]) [0, 3] rfl ?_
            exact Jj8 _ e
          · have e := (if_neg hc).symm.trans e
            refine V_lload (q := 311) X (TB.get tb_X9_rows 166 rfl) rfl rfl ?_
            refine V_iload_n (q := 312) X (TB.get tb_X9_rows 167 rfl) rfl rfl rfl ?_
            refine jn_elim (P := (fun (k : Int64 → Option (Int32 × Hp)) => ∀ (w16 : Int64), k w16 = some res → V p l en (rmD 4) s m args below meth c 7 D tc B nn (Ar B nn) s.heap 0 0 (MQ below (QC D tc B nn (Ar B nn) (some (.int res.1)) res.2) args s 0 0 (Ar B nn)) h5 336 [(0, .ref a0), (1, .int a1), (3, .int a3), (6, .int v12)] [.long w16, .long v11])) e ?_ (fun j17 Jj17 e => ?_)
            · intro w16 e
              refine V_ladd (q := 337) X (TB.get tb_X9_rows 180 rfl) rfl ?_
              refine V_lstore (q := 339) (lv' := [(4, .long (v11 + w16)), (0, .ref a0), (1, .int a1), (3, .int a3), (6, .int v12)]) X (TB.get tb_X9_rows 181 rfl) rfl (Nat.le_of_ble_eq_true rfl) rfl ?_
              refine V_iinc (q := 342) (v := v12 + (1 : Int32)) (lv' := [(6, .int (v12 + (1 : Int32))), (4, .long (v11 + w16)), (0, .ref a0), (1, .int a1), (3, .int a3)]) X (TB.get tb_X9_rows 182 rfl) rfl rfl (by rw [c_iconst_1]) (Nat.le_of_ble_eq_true rfl) rfl ?_
              refine V_goto (q := 296) X (TB.get tb_X9_rows 183 rfl) rfl ?_
              refine V_sub (lv' := [(0, .ref a0), (1, .int a1), (3, .int a3), (4, .long (v11 + w16)), (6, .int (v12 + (1 : Int32)))]) [2, 3, 4, 1, 0] rfl ?_
              exact ihself13 _ _ e
            refine jn_elim (P := (fun (k : Option (Int32 × Hp)) => k = some res → V p l en (rmD 4) s m args below meth c 7 D tc B nn (Ar B nn) s.heap 0 0 (MQ below (QC D tc B nn (Ar B nn) (some (.int res.1)) res.2) args s 0 0 (Ar B nn)) h5 325 [(0, .ref a0), (1, .int a1), (3, .int a3), (6, .int v12)] [.long v11])) e ?_ (fun j18 Jj18 e => ?_)
            · intro e
              refine V_aload_n (q := 326) X (TB.get tb_X9_rows 174 rfl) rfl rfl rfl ?_
              obtain ⟨x19, ex19, e⟩ := bs e
              refine V_getR (q := 329) X (TB.get tb_X9_rows 175 rfl) rfl lf_RX9_37 ex19 ?_
              refine V_iload (q := 331) X (TB.get tb_X9_rows 176 rfl) rfl rfl ?_
              obtain ⟨x20, ex20, e⟩ := bs e
              refine V_laload (q := 332) X (TB.get tb_X9_rows 177 rfl) rfl ex20 ?_
              refine V_goto (q := 336) X (TB.get tb_X9_rows 178 rfl) rfl ?_
              exact Jj17 _ e
            refine V_if_eq (q := 315) (t := 325) X (TB.get tb_X9_rows 168 rfl) rfl rfl (fun hc => ?_) (fun hc => ?_)
            · have e := (if_pos hc).symm.trans e
              refine V_sub (lv' := [(0, .ref a0), (1, .int a1), (3, .int a3), (6, .int v12)]) [0, 1, 2, 4] rfl ?_
              exact Jj18 e
            · have e := (if_neg hc).symm.trans e
              refine V_aload_n (q := 316) X (TB.get tb_X9_rows 169 rfl) rfl rfl rfl ?_
              refine V_iload_n (q := 317) X (TB.get tb_X9_rows 170 rfl) rfl rfl rfl ?_
              refine V_iload (q := 319) X (TB.get tb_X9_rows 171 rfl) rfl rfl ?_
              obtain ⟨x21, ex21, e⟩ := bs e
              refine V_callV (q := 322) (As := [.int a1, .int v12]) (rest := [.long v11]) (st' := [.int x21, .long v11]) X (TB.get tb_X9_rows 172 rfl) rfl cv_RX9_284 (ok_X9_isEnd a0 a1 v12 h5 x21 ex21).1 (ok_X9_isEnd a0 a1 v12 h5 x21 ex21).2 (Nat.le_of_ble_eq_true rfl) rfl rfl (Nat.le_of_ble_eq_true rfl) rfl ?_
              refine V_if_eq (q := 325) (t := 335) X (TB.get tb_X9_rows 173 rfl) rfl rfl (fun hc => ?_) (fun hc => ?_)
              · have e := (if_pos hc).symm.trans e
                refine V_lconst (v := 0) (q := 336) X (TB.get tb_X9_rows 179 rfl) c_lconst_0 rfl ?_
                refine V_sub (lv' := [(0, .ref a0), (1, .int a1), (3, .int a3), (6, .int v12)]) [0, 1, 2, 4] rfl ?_
                exact Jj17 _ e
              · have e := (if_neg hc).symm.trans e
                refine V_sub (lv' := [(0, .ref a0), (1, .int a1), (3, .int a3), (6, .int v12)]) [0, 1, 2, 4] rfl ?_
                exact Jj18 e
        refine V_sub (lv' := [(0, .ref a0), (1, .int a1), (2, .int a2), (3, .int a3), (4, .int (0 : Int32))]) [1, 2, 3, 4, 0] rfl ?_
        refine wh2_elim (P := fun v22 h23 => V p l en (rmD 4) s m args below meth c 7 D tc B nn (Ar B nn) s.heap 0 0 (MQ below (QC D tc B nn (Ar B nn) (some (.int res.1)) res.2) args s 0 0 (Ar B nn)) h23 66 [(0, .ref a0), (1, .int a1), (2, .int a2), (3, .int a3), (4, .int v22)] []) (f := fu) ?_ e
        intro self24 v22 h23 ihself24 e
        unfold MX9_rows_B66 at e
        refine V_iload (q := 68) X (TB.get tb_X9_rows 35 rfl) rfl rfl ?_
        refine V_iload_n (q := 69) X (TB.get tb_X9_rows 36 rfl) rfl rfl rfl ?_
        refine V_icmp_ge (q := 72) (t := 290) X (TB.get tb_X9_rows 37 rfl) rfl rfl (fun hc => ?_) (fun hc => ?_)
        · have e := (if_pos hc).symm.trans e
          refine V_sub (lv' := [(0, .ref a0), (1, .int a1), (3, .int a3)]) [0, 1, 3] rfl ?_
          exact Jj6 _ e
        · have e := (if_neg hc).symm.trans e
          refine V_iconst (v := 0) (q := 73) X (TB.get tb_X9_rows 38 rfl) c_iconst_0 rfl ?_
          refine V_istore (q := 75) (lv' := [(5, .int (0 : Int32)), (0, .ref a0), (1, .int a1), (2, .int a2), (3, .int a3), (4, .int v22)]) X (TB.get tb_X9_rows 39 rfl) rfl (Nat.le_of_ble_eq_true rfl) rfl ?_
          refine jn_elim (P := (fun (k : Hp → Option (Int32 × Hp)) => ∀ (h25 : Hp), k h25 = some res → V p l en (rmD 4) s m args below meth c 7 D tc B nn (Ar B nn) s.heap 0 0 (MQ below (QC D tc B nn (Ar B nn) (some (.int res.1)) res.2) args s 0 0 (Ar B nn)) h25 96 [(0, .ref a0), (1, .int a1), (2, .int a2), (3, .int a3), (4, .int v22)] [])) e ?_ (fun j26 Jj26 e => ?_)
          · intro h25 e
            refine V_iconst (v := 0) (q := 97) X (TB.get tb_X9_rows 50 rfl) c_iconst_0 rfl ?_
            refine V_istore (q := 99) (lv' := [(5, .int (0 : Int32)), (0, .ref a0), (1, .int a1), (2, .int a2), (3, .int a3), (4, .int v22)]) X (TB.get tb_X9_rows 51 rfl) rfl (Nat.le_of_ble_eq_true rfl) rfl ?_
            refine jn_elim (P := (fun (k : Hp → Option (Int32 × Hp)) => ∀ (h27 : Hp), k h27 = some res → V p l en (rmD 4) s m args below meth c 7 D tc B nn (Ar B nn) s.heap 0 0 (MQ below (QC D tc B nn (Ar B nn) (some (.int res.1)) res.2) args s 0 0 (Ar B nn)) h27 254 [(0, .ref a0), (1, .int a1), (2, .int a2), (3, .int a3), (4, .int v22)] [])) e ?_ (fun j28 Jj28 e => ?_)
            · intro h27 e
              refine V_iconst (v := 0) (q := 255) X (TB.get tb_X9_rows 137 rfl) c_iconst_0 rfl ?_
              refine V_istore (q := 257) (lv' := [(5, .int (0 : Int32)), (0, .ref a0), (1, .int a1), (2, .int a2), (3, .int a3), (4, .int v22)]) X (TB.get tb_X9_rows 138 rfl) rfl (Nat.le_of_ble_eq_true rfl) rfl ?_
              refine jn_elim (P := (fun (k : Hp → Option (Int32 × Hp)) => ∀ (h29 : Hp), k h29 = some res → V p l en (rmD 4) s m args below meth c 7 D tc B nn (Ar B nn) s.heap 0 0 (MQ below (QC D tc B nn (Ar B nn) (some (.int res.1)) res.2) args s 0 0 (Ar B nn)) h29 284 [(0, .ref a0), (1, .int a1), (2, .int a2), (3, .int a3), (4, .int v22)] [])) e ?_ (fun j30 Jj30 e => ?_)
              · intro h29 e
                refine V_iinc (q := 287) (v := v22 + (1 : Int32)) (lv' := [(4, .int (v22 + (1 : Int32))), (0, .ref a0), (1, .int a1), (2, .int a2), (3, .int a3)]) X (TB.get tb_X9_rows 152 rfl) rfl rfl (by rw [c_iconst_1]) (Nat.le_of_ble_eq_true rfl) rfl ?_
                refine V_goto (q := 66) X (TB.get tb_X9_rows 153 rfl) rfl ?_
                refine V_sub (lv' := [(0, .ref a0), (1, .int a1), (2, .int a2), (3, .int a3), (4, .int (v22 + (1 : Int32)))]) [1, 2, 3, 4, 0] rfl ?_
                exact ihself24 _ _ e
              refine V_sub (lv' := [(0, .ref a0), (1, .int a1), (2, .int a2), (3, .int a3), (4, .int v22), (5, .int (0 : Int32))]) [1, 2, 3, 4, 5, 0] rfl ?_
              refine wh2_elim (P := fun v31 h32 => V p l en (rmD 4) s m args below meth c 7 D tc B nn (Ar B nn) s.heap 0 0 (MQ below (QC D tc B nn (Ar B nn) (some (.int res.1)) res.2) args s 0 0 (Ar B nn)) h32 257 [(0, .ref a0), (1, .int a1), (2, .int a2), (3, .int a3), (4, .int v22), (5, .int v31)] []) (f := fu) ?_ e
              intro self33 v31 h32 ihself33 e
              unfold MX9_rows_B257 at e
              refine V_iload (q := 259) X (TB.get tb_X9_rows 139 rfl) rfl rfl ?_
              refine V_bipush (v := 6) (q := 261) X (TB.get tb_X9_rows 140 rfl) c_bipush_6 rfl ?_
              refine V_icmp_ge (q := 264) (t := 284) X (TB.get tb_X9_rows 141 rfl) rfl rfl (fun hc => ?_) (fun hc => ?_)
              · have e := (if_pos hc).symm.trans e
                refine V_sub (lv' := [(0, .ref a0), (1, .int a1), (2, .int a2), (3, .int a3), (4, .int v22)]) [0, 1, 2, 3, 4] rfl ?_
                exact Jj30 _ e
              · have e := (if_neg hc).symm.trans e
                refine V_aload_n (q := 265) X (TB.get tb_X9_rows 142 rfl) rfl rfl rfl ?_
                obtain ⟨x34, ex34, e⟩ := bs e
                refine V_getR (q := 268) X (TB.get tb_X9_rows 143 rfl) rfl lf_RX9_37 ex34 ?_
                refine V_iload (q := 270) X (TB.get tb_X9_rows 144 rfl) rfl rfl ?_
                refine V_aload_n (q := 271) X (TB.get tb_X9_rows 145 rfl) rfl rfl rfl ?_
                obtain ⟨x35, ex35, e⟩ := bs e
                refine V_getR (q := 274) X (TB.get tb_X9_rows 146 rfl) rfl lf_RX9_40 ex35 ?_
                refine V_iload (q := 276) X (TB.get tb_X9_rows 147 rfl) rfl rfl ?_
                obtain ⟨x36, ex36, e⟩ := bs e
                refine V_laload (q := 277) X (TB.get tb_X9_rows 148 rfl) rfl ex36 ?_
                obtain ⟨h37, eh37, e⟩ := bs e
                refine V_lastore (q := 278) X (TB.get tb_X9_rows 149 rfl) rfl eh37 ?_
                refine V_iinc (q := 281) (v := v31 + (1 : Int32)) (lv' := [(5, .int (v31 + (1 : Int32))), (0, .ref a0), (1, .int a1), (2, .int a2), (3, .int a3), (4, .int v22)]) X (TB.get tb_X9_rows 150 rfl) rfl rfl (by rw [c_iconst_1]) (Nat.le_of_ble_eq_true rfl) rfl ?_
                refine V_goto (q := 257) X (TB.get tb_X9_rows 151 rfl) rfl ?_
                refine V_sub (lv' := [(0, .ref a0), (1, .int a1), (2, .int a2), (3, .int a3), (4, .int v22), (5, .int (v31 + (1 : Int32)))]) [1, 2, 3, 4, 5, 0] rfl ?_
                exact ihself33 _ _ e
            refine V_sub (lv' := [(0, .ref a0), (1, .int a1), (2, .int a2), (3, .int a3), (4, .int v22), (5, .int (0 : Int32))]) [1, 2, 3, 4, 5, 0] rfl ?_
            refine wh2_elim (P := fun v38 h39 => V p l en (rmD 4) s m args below meth c 7 D tc B nn (Ar B nn) s.heap 0 0 (MQ below (QC D tc B nn (Ar B nn) (some (.int res.1)) res.2) args s 0 0 (Ar B nn)) h39 99 [(0, .ref a0), (1, .int a1), (2, .int a2), (3, .int a3), (4, .int v22), (5, .int v38)] []) (f := fu) ?_ e
            intro self40 v38 h39 ihself40 e
            unfold MX9_rows_B99 at e
            refine V_iload (q := 101) X (TB.get tb_X9_rows 52 rfl) rfl rfl ?_
            refine V_aload_n (q := 102) X (TB.get tb_X9_rows 53 rfl) rfl rfl rfl ?_
            obtain ⟨x41, ex41, e⟩ := bs e
            refine V_getR (q := 105) X (TB.get tb_X9_rows 54 rfl) rfl lf_RX9_13 ex41 ?_
            refine V_iconst (v := 3) (q := 106) X (TB.get tb_X9_rows 55 rfl) c_iconst_3 rfl ?_
            refine V_iload_n (q := 107) X (TB.get tb_X9_rows 56 rfl) rfl rfl rfl ?_
            refine V_iadd (q := 108) X (TB.get tb_X9_rows 57 rfl) rfl ?_
            obtain ⟨x42, ex42, e⟩ := bs e
            refine V_iaload (q := 109) X (TB.get tb_X9_rows 58 rfl) rfl ex42 ?_
            refine V_icmp_ge (q := 112) (t := 254) X (TB.get tb_X9_rows 59 rfl) rfl rfl (fun hc => ?_) (fun hc => ?_)
            · have e := (if_pos hc).symm.trans e
              refine V_sub (lv' := [(0, .ref a0), (1, .int a1), (2, .int a2), (3, .int a3), (4, .int v22)]) [0, 1, 2, 3, 4] rfl ?_
              exact Jj28 _ e
            · have e := (if_neg hc).symm.trans e
              refine V_iconst (v := 0) (q := 113) X (TB.get tb_X9_rows 60 rfl) c_iconst_0 rfl ?_
              refine V_istore (q := 115) (lv' := [(6, .int (0 : Int32)), (0, .ref a0), (1, .int a1), (2, .int a2), (3, .int a3), (4, .int v22), (5, .int v38)]) X (TB.get tb_X9_rows 61 rfl) rfl (Nat.le_of_ble_eq_true rfl) rfl ?_
              refine jn_elim (P := (fun (k : Hp → Option (Int32 × Hp)) => ∀ (h43 : Hp), k h43 = some res → V p l en (rmD 4) s m args below meth c 7 D tc B nn (Ar B nn) s.heap 0 0 (MQ below (QC D tc B nn (Ar B nn) (some (.int res.1)) res.2) args s 0 0 (Ar B nn)) h43 248 [(0, .ref a0), (1, .int a1), (2, .int a2), (3, .int a3), (4, .int v22), (5, .int v38)] [])) e ?_ (fun j44 Jj44 e => ?_)
              · intro h43 e
                refine V_iinc (q := 251) (v := v38 + (1 : Int32)) (lv' := [(5, .int (v38 + (1 : Int32))), (0, .ref a0), (1, .int a1), (2, .int a2), (3, .int a3), (4, .int v22)]) X (TB.get tb_X9_rows 135 rfl) rfl rfl (by rw [c_iconst_1]) (Nat.le_of_ble_eq_true rfl) rfl ?_
                refine V_goto (q := 99) X (TB.get tb_X9_rows 136 rfl) rfl ?_
                refine V_sub (lv' := [(0, .ref a0), (1, .int a1), (2, .int a2), (3, .int a3), (4, .int v22), (5, .int (v38 + (1 : Int32)))]) [1, 2, 3, 4, 5, 0] rfl ?_
                exact ihself40 _ _ e
              refine V_sub (lv' := [(0, .ref a0), (1, .int a1), (2, .int a2), (3, .int a3), (4, .int v22), (5, .int v38), (6, .int (0 : Int32))]) [1, 2, 3, 4, 5, 6, 0] rfl ?_
              refine wh2_elim (P := fun v45 h46 => V p l en (rmD 4) s m args below meth c 7 D tc B nn (Ar B nn) s.heap 0 0 (MQ below (QC D tc B nn (Ar B nn) (some (.int res.1)) res.2) args s 0 0 (Ar B nn)) h46 115 [(0, .ref a0), (1, .int a1), (2, .int a2), (3, .int a3), (4, .int v22), (5, .int v38), (6, .int v45)] []) (f := fu) ?_ e
              intro self47 v45 h46 ihself47 e
              unfold MX9_rows_B115 at e
              refine V_iload (q := 117) X (TB.get tb_X9_rows 62 rfl) rfl rfl ?_
              refine V_aload_n (q := 118) X (TB.get tb_X9_rows 63 rfl) rfl rfl rfl ?_
              obtain ⟨x48, ex48, e⟩ := bs e
              refine V_getR (q := 121) X (TB.get tb_X9_rows 64 rfl) rfl lf_RX9_13 ex48 ?_
              refine V_bipush (v := 11) (q := 123) X (TB.get tb_X9_rows 65 rfl) c_bipush_11 rfl ?_
              refine V_iload_n (q := 124) X (TB.get tb_X9_rows 66 rfl) rfl rfl rfl ?_
              refine V_iadd (q := 125) X (TB.get tb_X9_rows 67 rfl) rfl ?_
              obtain ⟨x49, ex49, e⟩ := bs e
              refine V_iaload (q := 126) X (TB.get tb_X9_rows 68 rfl) rfl ex49 ?_
              refine V_icmp_ge (q := 129) (t := 248) X (TB.get tb_X9_rows 69 rfl) rfl rfl (fun hc => ?_) (fun hc => ?_)
              · have e := (if_pos hc).symm.trans e
                refine V_sub (lv' := [(0, .ref a0), (1, .int a1), (2, .int a2), (3, .int a3), (4, .int v22), (5, .int v38)]) [0, 1, 2, 3, 4, 5] rfl ?_
                exact Jj44 _ e
              · have e := (if_neg hc).symm.trans e
                refine V_aload_n (q := 130) X (TB.get tb_X9_rows 70 rfl) rfl rfl rfl ?_
                refine V_iload_n (q := 131) X (TB.get tb_X9_rows 71 rfl) rfl rfl rfl ?_
                refine V_iload (q := 133) X (TB.get tb_X9_rows 72 rfl) rfl rfl ?_
                refine V_iload (q := 135) X (TB.get tb_X9_rows 73 rfl) rfl rfl ?_
                obtain ⟨x50, ex50, e⟩ := bs e
                refine V_callV (q := 138) (As := [.int a1, .int v45, .int v38]) (rest := []) (st' := [.int x50]) X (TB.get tb_X9_rows 74 rfl) rfl cv_RX9_261 (ok_X9_canBe a0 a1 v45 v38 h46 x50 ex50).1 (ok_X9_canBe a0 a1 v45 v38 h46 x50 ex50).2 (Nat.le_of_ble_eq_true rfl) rfl rfl (Nat.le_of_ble_eq_true rfl) rfl ?_
                refine jn_elim (P := (fun (k : Hp → Option (Int32 × Hp)) => ∀ (h51 : Hp), k h51 = some res → V p l en (rmD 4) s m args below meth c 7 D tc B nn (Ar B nn) s.heap 0 0 (MQ below (QC D tc B nn (Ar B nn) (some (.int res.1)) res.2) args s 0 0 (Ar B nn)) h51 242 [(0, .ref a0), (1, .int a1), (2, .int a2), (3, .int a3), (4, .int v22), (5, .int v38), (6, .int v45)] [])) e ?_ (fun j52 Jj52 e => ?_)
                · intro h51 e
                  refine V_iinc (q := 245) (v := v45 + (1 : Int32)) (lv' := [(6, .int (v45 + (1 : Int32))), (0, .ref a0), (1, .int a1), (2, .int a2), (3, .int a3), (4, .int v22), (5, .int v38)]) X (TB.get tb_X9_rows 133 rfl) rfl rfl (by rw [c_iconst_1]) (Nat.le_of_ble_eq_true rfl) rfl ?_
                  refine V_goto (q := 115) X (TB.get tb_X9_rows 134 rfl) rfl ?_
                  refine V_sub (lv' := [(0, .ref a0), (1, .int a1), (2, .int a2), (3, .int a3), (4, .int v22), (5, .int v38), (6, .int (v45 + (1 : Int32)))]) [1, 2, 3, 4, 5, 6, 0] rfl ?_
                  exact ihself47 _ _ e
                refine V_if_ne (q := 141) (t := 144) X (TB.get tb_X9_rows 75 rfl) rfl rfl (fun hc => ?_) (fun hc => ?_)
                · have e := (if_neg hc).symm.trans e
                  refine V_aload_n (q := 145) X (TB.get tb_X9_rows 77 rfl) rfl rfl rfl ?_
                  obtain ⟨x53, ex53, e⟩ := bs e
                  refine V_getR (q := 148) X (TB.get tb_X9_rows 78 rfl) rfl lf_RX9_40 ex53 ?_
                  refine V_aload_n (q := 149) X (TB.get tb_X9_rows 79 rfl) rfl rfl rfl ?_
                  refine V_iload_n (q := 150) X (TB.get tb_X9_rows 80 rfl) rfl rfl rfl ?_
                  refine V_iload (q := 152) X (TB.get tb_X9_rows 81 rfl) rfl rfl ?_
                  refine V_iload (q := 154) X (TB.get tb_X9_rows 82 rfl) rfl rfl ?_
                  obtain ⟨x54, ex54, e⟩ := bs e
                  refine V_callV (q := 157) (As := [.int a1, .int v45, .int v38]) (rest := [.ref x53]) (st' := [.int x54, .ref x53]) X (TB.get tb_X9_rows 83 rfl) rfl cv_RX9_254 (ok_X9_yes a0 a1 v45 v38 h46 x54 ex54).1 (ok_X9_yes a0 a1 v45 v38 h46 x54 ex54).2 (Nat.le_of_ble_eq_true rfl) rfl rfl (Nat.le_of_ble_eq_true rfl) rfl ?_
                  refine V_aload_n (q := 158) X (TB.get tb_X9_rows 84 rfl) rfl rfl rfl ?_
                  refine V_getR (q := 161) X (TB.get tb_X9_rows 85 rfl) rfl lf_RX9_40 ex53 ?_
                  refine V_aload_n (q := 162) X (TB.get tb_X9_rows 86 rfl) rfl rfl rfl ?_
                  refine V_iload_n (q := 163) X (TB.get tb_X9_rows 87 rfl) rfl rfl rfl ?_
                  refine V_iload (q := 165) X (TB.get tb_X9_rows 88 rfl) rfl rfl ?_
                  refine V_iload (q := 167) X (TB.get tb_X9_rows 89 rfl) rfl rfl ?_
                  refine V_callV (q := 170) (As := [.int a1, .int v45, .int v38]) (rest := [.ref x53, .int x54, .ref x53]) (st' := [.int x54, .ref x53, .int x54, .ref x53]) X (TB.get tb_X9_rows 90 rfl) rfl cv_RX9_254 (ok_X9_yes a0 a1 v45 v38 h46 x54 ex54).1 (ok_X9_yes a0 a1 v45 v38 h46 x54 ex54).2 (Nat.le_of_ble_eq_true rfl) rfl rfl (Nat.le_of_ble_eq_true rfl) rfl ?_
                  obtain ⟨x55, ex55, e⟩ := bs e
                  refine V_laload (q := 171) X (TB.get tb_X9_rows 91 rfl) rfl ex55 ?_
                  refine V_aload_n (q := 172) X (TB.get tb_X9_rows 92 rfl) rfl rfl rfl ?_
                  obtain ⟨x56, ex56, e⟩ := bs e
                  refine V_getR (q := 175) X (TB.get tb_X9_rows 93 rfl) rfl lf_RX9_37 ex56 ?_
                  refine V_iload (q := 177) X (TB.get tb_X9_rows 94 rfl) rfl rfl ?_
                  obtain ⟨x57, ex57, e⟩ := bs e
                  refine V_laload (q := 178) X (TB.get tb_X9_rows 95 rfl) rfl ex57 ?_
                  refine V_ladd (q := 179) X (TB.get tb_X9_rows 96 rfl) rfl ?_
                  refine V_ldc2 (v := 1000000007) (q := 182) X (TB.get tb_X9_rows 97 rfl) rfl kl_RX9_296 ?_
                  obtain ⟨x58, ex58, e⟩ := bs e
                  refine V_lrem (q := 183) X (TB.get tb_X9_rows 98 rfl) rfl ex58 ?_
                  obtain ⟨h59, eh59, e⟩ := bs e
                  refine V_lastore (q := 184) X (TB.get tb_X9_rows 99 rfl) rfl eh59 ?_
                  refine V_aload_n (q := 185) X (TB.get tb_X9_rows 100 rfl) rfl rfl rfl ?_
                  obtain ⟨x60, ex60, e⟩ := bs e
                  refine V_getR (q := 188) X (TB.get tb_X9_rows 101 rfl) rfl lf_RX9_13 ex60 ?_
                  refine V_bipush (v := 15) (q := 190) X (TB.get tb_X9_rows 102 rfl) c_bipush_15 rfl ?_
                  refine V_iload_n (q := 191) X (TB.get tb_X9_rows 103 rfl) rfl rfl rfl ?_
                  refine V_iload (q := 193) X (TB.get tb_X9_rows 104 rfl) rfl rfl ?_
                  obtain ⟨x61, ex61, e⟩ := bs e
                  refine V_callS (q := 196) (As := [.int a1, .int v45]) (rest := [.int (15 : Int32), .ref x60]) (st' := [.int x61, .int (15 : Int32), .ref x60]) X (TB.get tb_X9_rows 105 rfl) rfl cs_RX9_188 (ok_X9_methodAt a1 v45 h59 x61 ex61) (Nat.le_of_ble_eq_true rfl) rfl rfl (Nat.le_of_ble_eq_true rfl) rfl ?_
                  refine V_iadd (q := 197) X (TB.get tb_X9_rows 106 rfl) rfl ?_
                  obtain ⟨x62, ex62, e⟩ := bs e
                  refine V_iaload (q := 198) X (TB.get tb_X9_rows 107 rfl) rfl ex62 ?_
                  refine V_iconst (v := 1) (q := 199) X (TB.get tb_X9_rows 108 rfl) c_iconst_1 rfl ?_
                  refine V_icmp_ne (q := 202) (t := 242) X (TB.get tb_X9_rows 109 rfl) rfl rfl (fun hc => ?_) (fun hc => ?_)
                  · have e := (if_neg hc).symm.trans e
                    exact Jj52 _ e
                  · have e := (if_pos hc).symm.trans e
                    refine V_aload_n (q := 203) X (TB.get tb_X9_rows 110 rfl) rfl rfl rfl ?_
                    obtain ⟨x63, ex63, e⟩ := bs e
                    refine V_getR (q := 206) X (TB.get tb_X9_rows 111 rfl) rfl lf_RX9_40 ex63 ?_
                    refine V_aload_n (q := 207) X (TB.get tb_X9_rows 112 rfl) rfl rfl rfl ?_
                    refine V_iload_n (q := 208) X (TB.get tb_X9_rows 113 rfl) rfl rfl rfl ?_
                    refine V_iload (q := 210) X (TB.get tb_X9_rows 114 rfl) rfl rfl ?_
                    refine V_iload (q := 212) X (TB.get tb_X9_rows 115 rfl) rfl rfl ?_
                    obtain ⟨x64, ex64, e⟩ := bs e
                    refine V_callV (q := 215) (As := [.int a1, .int v45, .int v38]) (rest := [.ref x63]) (st' := [.int x64, .ref x63]) X (TB.get tb_X9_rows 116 rfl) rfl cv_RX9_264 (ok_X9_no a0 a1 v45 v38 h59 x64 ex64).1 (ok_X9_no a0 a1 v45 v38 h59 x64 ex64).2 (Nat.le_of_ble_eq_true rfl) rfl rfl (Nat.le_of_ble_eq_true rfl) rfl ?_
                    refine V_aload_n (q := 216) X (TB.get tb_X9_rows 117 rfl) rfl rfl rfl ?_
                    refine V_getR (q := 219) X (TB.get tb_X9_rows 118 rfl) rfl lf_RX9_40 ex63 ?_
                    refine V_aload_n (q := 220) X (TB.get tb_X9_rows 119 rfl) rfl rfl rfl ?_
                    refine V_iload_n (q := 221) X (TB.get tb_X9_rows 120 rfl) rfl rfl rfl ?_
                    refine V_iload (q := 223) X (TB.get tb_X9_rows 121 rfl) rfl rfl ?_
                    refine V_iload (q := 225) X (TB.get tb_X9_rows 122 rfl) rfl rfl ?_
                    refine V_callV (q := 228) (As := [.int a1, .int v45, .int v38]) (rest := [.ref x63, .int x64, .ref x63]) (st' := [.int x64, .ref x63, .int x64, .ref x63]) X (TB.get tb_X9_rows 123 rfl) rfl cv_RX9_264 (ok_X9_no a0 a1 v45 v38 h59 x64 ex64).1 (ok_X9_no a0 a1 v45 v38 h59 x64 ex64).2 (Nat.le_of_ble_eq_true rfl) rfl rfl (Nat.le_of_ble_eq_true rfl) rfl ?_
                    obtain ⟨x65, ex65, e⟩ := bs e
                    refine V_laload (q := 229) X (TB.get tb_X9_rows 124 rfl) rfl ex65 ?_
                    refine V_aload_n (q := 230) X (TB.get tb_X9_rows 125 rfl) rfl rfl rfl ?_
                    obtain ⟨x66, ex66, e⟩ := bs e
                    refine V_getR (q := 233) X (TB.get tb_X9_rows 126 rfl) rfl lf_RX9_37 ex66 ?_
                    refine V_iload (q := 235) X (TB.get tb_X9_rows 127 rfl) rfl rfl ?_
                    obtain ⟨x67, ex67, e⟩ := bs e
                    refine V_laload (q := 236) X (TB.get tb_X9_rows 128 rfl) rfl ex67 ?_
                    refine V_ladd (q := 237) X (TB.get tb_X9_rows 129 rfl) rfl ?_
                    refine V_ldc2 (v := 1000000007) (q := 240) X (TB.get tb_X9_rows 130 rfl) rfl kl_RX9_296 ?_
                    obtain ⟨x68, ex68, e⟩ := bs e
                    refine V_lrem (q := 241) X (TB.get tb_X9_rows 131 rfl) rfl ex68 ?_
                    obtain ⟨h69, eh69, e⟩ := bs e
                    refine V_lastore (q := 242) X (TB.get tb_X9_rows 132 rfl) rfl eh69 ?_
                    exact Jj52 _ e
                · have e := (if_pos hc).symm.trans e
                  refine V_goto (q := 242) X (TB.get tb_X9_rows 76 rfl) rfl ?_
                  exact Jj52 _ e
          refine V_sub (lv' := [(0, .ref a0), (1, .int a1), (2, .int a2), (3, .int a3), (4, .int v22), (5, .int (0 : Int32))]) [1, 2, 3, 4, 5, 0] rfl ?_
          refine wh2_elim (P := fun v70 h71 => V p l en (rmD 4) s m args below meth c 7 D tc B nn (Ar B nn) s.heap 0 0 (MQ below (QC D tc B nn (Ar B nn) (some (.int res.1)) res.2) args s 0 0 (Ar B nn)) h71 75 [(0, .ref a0), (1, .int a1), (2, .int a2), (3, .int a3), (4, .int v22), (5, .int v70)] []) (f := fu) ?_ e
          intro self72 v70 h71 ihself72 e
          unfold MX9_rows_B75 at e
          refine V_iload (q := 77) X (TB.get tb_X9_rows 40 rfl) rfl rfl ?_
          refine V_bipush (v := 6) (q := 79) X (TB.get tb_X9_rows 41 rfl) c_bipush_6 rfl ?_
          refine V_icmp_ge (q := 82) (t := 96) X (TB.get tb_X9_rows 42 rfl) rfl rfl (fun hc => ?_) (fun hc => ?_)
          · have e := (if_pos hc).symm.trans e
            refine V_sub (lv' := [(0, .ref a0), (1, .int a1), (2, .int a2), (3, .int a3), (4, .int v22)]) [0, 1, 2, 3, 4] rfl ?_
            exact Jj26 _ e
          · have e := (if_neg hc).symm.trans e
            refine V_aload_n (q := 83) X (TB.get tb_X9_rows 43 rfl) rfl rfl rfl ?_
            obtain ⟨x73, ex73, e⟩ := bs e
            refine V_getR (q := 86) X (TB.get tb_X9_rows 44 rfl) rfl lf_RX9_40 ex73 ?_
            refine V_iload (q := 88) X (TB.get tb_X9_rows 45 rfl) rfl rfl ?_
            refine V_lconst (v := 0) (q := 89) X (TB.get tb_X9_rows 46 rfl) c_lconst_0 rfl ?_
            obtain ⟨h74, eh74, e⟩ := bs e
            refine V_lastore (q := 90) X (TB.get tb_X9_rows 47 rfl) rfl eh74 ?_
            refine V_iinc (q := 93) (v := v70 + (1 : Int32)) (lv' := [(5, .int (v70 + (1 : Int32))), (0, .ref a0), (1, .int a1), (2, .int a2), (3, .int a3), (4, .int v22)]) X (TB.get tb_X9_rows 48 rfl) rfl rfl (by rw [c_iconst_1]) (Nat.le_of_ble_eq_true rfl) rfl ?_
            refine V_goto (q := 75) X (TB.get tb_X9_rows 49 rfl) rfl ?_
            refine V_sub (lv' := [(0, .ref a0), (1, .int a1), (2, .int a2), (3, .int a3), (4, .int v22), (5, .int (v70 + (1 : Int32)))]) [1, 2, 3, 4, 5, 0] rfl ?_
            exact ihself72 _ _ e
      refine V_sub (lv' := [(0, .ref a0), (1, .int a1), (2, .int a2), (3, .int a3), (4, .int (0 : Int32))]) [1, 2, 3, 4, 0] rfl ?_
      refine wh2_elim (P := fun v75 h76 => V p l en (rmD 4) s m args below meth c 7 D tc B nn (Ar B nn) s.heap 0 0 (MQ below (QC D tc B nn (Ar B nn) (some (.int res.1)) res.2) args s 0 0 (Ar B nn)) h76 33 [(0, .ref a0), (1, .int a1), (2, .int a2), (3, .int a3), (4, .int v75)] []) (f := fu) ?_ e
      intro self77 v75 h76 ihself77 e
      unfold MX9_rows_B33 at e
      refine V_iload (q := 35) X (TB.get tb_X9_rows 19 rfl) rfl rfl ?_
      refine V_bipush (v := 6) (q := 37) X (TB.get tb_X9_rows 20 rfl) c_bipush_6 rfl ?_
      refine V_icmp_ge (q := 40) (t := 63) X (TB.get tb_X9_rows 21 rfl) rfl rfl (fun hc => ?_) (fun hc => ?_)
      · have e := (if_pos hc).symm.trans e
        refine V_sub (lv' := [(0, .ref a0), (1, .int a1), (2, .int a2), (3, .int a3)]) [0, 1, 2, 3] rfl ?_
        exact Jj4 _ e
      · have e := (if_neg hc).symm.trans e
        refine V_aload_n (q := 41) X (TB.get tb_X9_rows 22 rfl) rfl rfl rfl ?_
        obtain ⟨x78, ex78, e⟩ := bs e
        refine V_getR (q := 44) X (TB.get tb_X9_rows 23 rfl) rfl lf_RX9_37 ex78 ?_
        refine V_iload (q := 46) X (TB.get tb_X9_rows 24 rfl) rfl rfl ?_
        refine V_iload (q := 48) X (TB.get tb_X9_rows 25 rfl) rfl rfl ?_
        refine jn_elim (P := (fun (k : Int64 → Option (Int32 × Hp)) => ∀ (w79 : Int64), k w79 = some res → V p l en (rmD 4) s m args below meth c 7 D tc B nn (Ar B nn) s.heap 0 0 (MQ below (QC D tc B nn (Ar B nn) (some (.int res.1)) res.2) args s 0 0 (Ar B nn)) h76 56 [(0, .ref a0), (1, .int a1), (2, .int a2), (3, .int a3), (4, .int v75)] [.long w79, .int v75, .ref x78])) e ?_ (fun j80 Jj80 e => ?_)
        · intro w79 e
          obtain ⟨h81, eh81, e⟩ := bs e
          refine V_lastore (q := 57) X (TB.get tb_X9_rows 30 rfl) rfl eh81 ?_
          refine V_iinc (q := 60) (v := v75 + (1 : Int32)) (lv' := [(4, .int (v75 + (1 : Int32))), (0, .ref a0), (1, .int a1), (2, .int a2), (3, .int a3)]) X (TB.get tb_X9_rows 31 rfl) rfl rfl (by rw [c_iconst_1]) (Nat.le_of_ble_eq_true rfl) rfl ?_
          refine V_goto (q := 33) X (TB.get tb_X9_rows 32 rfl) rfl ?_
          refine V_sub (lv' := [(0, .ref a0), (1, .int a1), (2, .int a2), (3, .int a3), (4, .int (v75 + (1 : Int32)))]) [1, 2, 3, 4, 0] rfl ?_
          exact ihself77 _ _ e
        refine V_if_ne (q := 51) (t := 55) X (TB.get tb_X9_rows 26 rfl) rfl rfl (fun hc => ?_) (fun hc => ?_)
        · have e := (if_neg hc).symm.trans e
          refine V_lconst (v := 0) (q := 56) X (TB.get tb_X9_rows 29 rfl) c_lconst_0 rfl ?_
          exact Jj80 _ e
        · have e := (if_pos hc).symm.trans e
          refine V_lconst (v := 1) (q := 52) X (TB.get tb_X9_rows 27 rfl) c_lconst_1 rfl ?_
          refine V_goto (q := 56) X (TB.get tb_X9_rows 28 rfl) rfl ?_
          exact Jj80 _ e
    · have e := (if_pos hc).symm.trans e
      refine V_aload_n (q := 25) X (TB.get tb_X9_rows 13 rfl) rfl rfl rfl ?_
      refine V_iconst (v := 2) (q := 26) X (TB.get tb_X9_rows 14 rfl) c_iconst_2 rfl ?_
      obtain ⟨p82, ep82, e⟩ := bs e
      refine V_callV (q := 29) (As := [.int (2 : Int32)]) (rest := []) (st' := [.int p82.1]) X (TB.get tb_X9_rows 15 rfl) rfl cv_RX9_242 (ok_X9_refuse a0 (2 : Int32) h p82 ep82).1 (ok_X9_refuse a0 (2 : Int32) h p82 ep82).2 (Nat.le_of_ble_eq_true rfl) rfl rfl (Nat.le_of_ble_eq_true rfl) rfl ?_
      cases e
      exact V_iret X hr hlk (TB.get tb_X9_rows 16 rfl)
  · have e := (if_pos hc).symm.trans e
    refine V_aload_n (q := 11) X (TB.get tb_X9_rows 5 rfl) rfl rfl rfl ?_
    refine V_iconst (v := 1) (q := 12) X (TB.get tb_X9_rows 6 rfl) c_iconst_1 rfl ?_
    obtain ⟨p83, ep83, e⟩ := bs e
    refine V_callV (q := 15) (As := [.int (1 : Int32)]) (rest := []) (st' := [.int p83.1]) X (TB.get tb_X9_rows 7 rfl) rfl cv_RX9_242 (ok_X9_refuse a0 (1 : Int32) h p83 ep83).1 (ok_X9_refuse a0 (1 : Int32) h p83 ep83).2 (Nat.le_of_ble_eq_true rfl) rfl rfl (Nat.le_of_ble_eq_true rfl) rfl ?_
    cases e
    exact V_iret X hr hlk (TB.get tb_X9_rows 8 rfl)
set_option maxRecDepth 100000 in
set_option maxHeartbeats 4000000 in
theorem ok_X9_statements (a0 : Nat) (h : Hp) (res : Int32) (e : MX9_statements a0 h = some res) : CK yX9_statements cX9_statements 1 (some .int) 0 [.ref a0] h (some (.int res)) h ∧ (h.1 a0).1 = 9 := by
  obtain ⟨hcl, e⟩ := h_g_inv e
  refine ⟨CK_of pn_RX9 cm_X9_statements (Nat.le_of_ble_eq_true rfl) ?_, hcl⟩
  intro l D tc B nn p en s m args below meth c X hr hlk
  replace X : CX p (rmD 0) s m args c cX9_statements 1 RX9 D tc 0 := X
  show V p l en (rmD 0) s m args below meth c 1 D tc B nn (Ar B nn) s.heap 0 0 (MQ below (QC D tc B nn (Ar B nn) (some (.int res)) h) args s 0 0 (Ar B nn)) h 0 [(0, .ref a0)] []
  refine V_aload_n (q := 1) X (TB.get tb_X9_statements 0 rfl) rfl rfl rfl ?_
  obtain ⟨x1, ex1, e⟩ := bs e
  refine V_getR (q := 4) X (TB.get tb_X9_statements 1 rfl) rfl lf_RX9_13 ex1 ?_
  refine V_iconst (v := 2) (q := 5) X (TB.get tb_X9_statements 2 rfl) c_iconst_2 rfl ?_
  obtain ⟨x2, ex2, e⟩ := bs e
  refine V_iaload (q := 6) X (TB.get tb_X9_statements 3 rfl) rfl ex2 ?_
  cases e
  exact V_iret X hr hlk (TB.get tb_X9_statements 4 rfl)
set_option maxRecDepth 100000 in
set_option maxHeartbeats 4000000 in
theorem ok_X9_isStatementAt (a0 : Nat) (a1 : Int32) (h : Hp) (res : Int32) (e : MX9_isStatementAt a0 a1 h = some res) : CK yX9_isStatementAt cX9_isStatementAt 2 (some .boolean) 1 [.ref a0, .int a1] h (some (.int res)) h ∧ (h.1 a0).1 = 9 := by
  obtain ⟨hcl, e⟩ := h_g_inv e
  refine ⟨CK_of pn_RX9 cm_X9_isStatementAt (Nat.le_of_ble_eq_true rfl) ?_, hcl⟩
  intro l D tc B nn p en s m args below meth c X hr hlk
  replace X : CX p (rmD 1) s m args c cX9_isStatementAt 2 RX9 D tc 1 := X
  show V p l en (rmD 1) s m args below meth c 2 D tc B nn (Ar B nn) s.heap 0 0 (MQ below (QC D tc B nn (Ar B nn) (some (.int res)) h) args s 0 0 (Ar B nn)) h 0 [(0, .ref a0), (1, .int a1)] []
  refine V_iload_n (q := 1) X (TB.get tb_X9_isStatementAt 0 rfl) rfl rfl rfl ?_
  refine V_iconst (v := 0) (q := 2) X (TB.get tb_X9_isStatementAt 1 rfl) c_iconst_0 rfl ?_
  refine V_aload_n (q := 3) X (TB.get tb_X9_isStatementAt 2 rfl) rfl rfl rfl ?_
  obtain ⟨x1, ex1, e⟩ := bs e
  refine V_callV (q := 6) (As := []) (rest := [.int (0 : Int32), .int a1]) (st' := [.int x1, .int (0 : Int32), .int a1]) X (TB.get tb_X9_isStatementAt 3 rfl) rfl cv_RX9_298 (ok_X9_statements a0 h x1 ex1).1 (ok_X9_statements a0 h x1 ex1).2 (Nat.le_of_ble_eq_true rfl) rfl rfl (Nat.le_of_ble_eq_true rfl) rfl ?_
  refine V_iconst (v := 1) (q := 7) X (TB.get tb_X9_isStatementAt 4 rfl) c_iconst_1 rfl ?_
  refine V_isub (q := 8) X (TB.get tb_X9_isStatementAt 5 rfl) rfl ?_
  obtain ⟨x2, ex2, e⟩ := bs e
  refine V_callS (q := 11) (As := [.int a1, .int (0 : Int32), .int (x1 - (1 : Int32))]) (rest := []) (st' := [.int x2]) X (TB.get tb_X9_isStatementAt 6 rfl) rfl cs_RX9_239 (ok_X9_isFrom a1 (0 : Int32) (x1 - (1 : Int32)) h x2 ex2) (Nat.le_of_ble_eq_true rfl) rfl rfl (Nat.le_of_ble_eq_true rfl) rfl ?_
  obtain ⟨z3, ez3, e⟩ := bs e
  cases e
  exact V_zretH X hr hlk ez3 (TB.get tb_X9_isStatementAt 7 rfl)
set_option maxRecDepth 100000 in
set_option maxHeartbeats 4000000 in
theorem ok_X9_isVariable (a0 : Nat) (a1 : Int32) (h : Hp) (res : Int32) (e : MX9_isVariable a0 a1 h = some res) : CK yX9_isVariable cX9_isVariable 2 (some .boolean) 1 [.ref a0, .int a1] h (some (.int res)) h ∧ (h.1 a0).1 = 9 := by
  obtain ⟨hcl, e⟩ := h_g_inv e
  refine ⟨CK_of pn_RX9 cm_X9_isVariable (Nat.le_of_ble_eq_true rfl) ?_, hcl⟩
  intro l D tc B nn p en s m args below meth c X hr hlk
  replace X : CX p (rmD 1) s m args c cX9_isVariable 2 RX9 D tc 1 := X
  show V p l en (rmD 1) s m args below meth c 2 D tc B nn (Ar B nn) s.heap 0 0 (MQ below (QC D tc B nn (Ar B nn) (some (.int res)) h) args s 0 0 (Ar B nn)) h 0 [(0, .ref a0), (1, .int a1)] []
  refine V_iload_n (q := 1) X (TB.get tb_X9_isVariable 0 rfl) rfl rfl rfl ?_
  refine V_iconst (v := 0) (q := 2) X (TB.get tb_X9_isVariable 1 rfl) c_iconst_0 rfl ?_
  refine V_aload_n (q := 3) X (TB.get tb_X9_isVariable 2 rfl) rfl rfl rfl ?_
  obtain ⟨x1, ex1, e⟩ := bs e
  refine V_getR (q := 6) X (TB.get tb_X9_isVariable 3 rfl) rfl lf_RX9_13 ex1 ?_
  refine V_iconst (v := 1) (q := 7) X (TB.get tb_X9_isVariable 4 rfl) c_iconst_1 rfl ?_
  obtain ⟨x2, ex2, e⟩ := bs e
  refine V_iaload (q := 8) X (TB.get tb_X9_isVariable 5 rfl) rfl ex2 ?_
  refine V_iconst (v := 1) (q := 9) X (TB.get tb_X9_isVariable 6 rfl) c_iconst_1 rfl ?_
  refine V_isub (q := 10) X (TB.get tb_X9_isVariable 7 rfl) rfl ?_
  obtain ⟨x3, ex3, e⟩ := bs e
  refine V_callS (q := 13) (As := [.int a1, .int (0 : Int32), .int (x2 - (1 : Int32))]) (rest := []) (st' := [.int x3]) X (TB.get tb_X9_isVariable 8 rfl) rfl cs_RX9_239 (ok_X9_isFrom a1 (0 : Int32) (x2 - (1 : Int32)) h x3 ex3) (Nat.le_of_ble_eq_true rfl) rfl rfl (Nat.le_of_ble_eq_true rfl) rfl ?_
  obtain ⟨z4, ez4, e⟩ := bs e
  cases e
  exact V_zretH X hr hlk ez4 (TB.get tb_X9_isVariable 9 rfl)
set_option maxRecDepth 100000 in
set_option maxHeartbeats 4000000 in
theorem ok_X9_sortAt (a0 : Nat) (a1 : Int32) (h : Hp) (res : Int32) (e : MX9_sortAt a0 a1 h = some res) : CK yX9_sortAt cX9_sortAt 2 (some .int) 0 [.ref a0, .int a1] h (some (.int res)) h ∧ (h.1 a0).1 = 9 := by
  obtain ⟨hcl, e⟩ := h_g_inv e
  refine ⟨CK_of pn_RX9 cm_X9_sortAt (Nat.le_of_ble_eq_true rfl) ?_, hcl⟩
  intro l D tc B nn p en s m args below meth c X hr hlk
  replace X : CX p (rmD 0) s m args c cX9_sortAt 2 RX9 D tc 0 := X
  show V p l en (rmD 0) s m args below meth c 2 D tc B nn (Ar B nn) s.heap 0 0 (MQ below (QC D tc B nn (Ar B nn) (some (.int res)) h) args s 0 0 (Ar B nn)) h 0 [(0, .ref a0), (1, .int a1)] []
  refine V_aload_n (q := 1) X (TB.get tb_X9_sortAt 0 rfl) rfl rfl rfl ?_
  obtain ⟨x1, ex1, e⟩ := bs e
  refine V_getR (q := 4) X (TB.get tb_X9_sortAt 1 rfl) rfl lf_RX9_13 ex1 ?_
  refine V_sipush (v := 333) (q := 7) X (TB.get tb_X9_sortAt 2 rfl) c_sipush_333 rfl ?_
  refine V_iload_n (q := 8) X (TB.get tb_X9_sortAt 3 rfl) rfl rfl rfl ?_
  refine V_iadd (q := 9) X (TB.get tb_X9_sortAt 4 rfl) rfl ?_
  obtain ⟨x2, ex2, e⟩ := bs e
  refine V_iaload (q := 10) X (TB.get tb_X9_sortAt 5 rfl) rfl ex2 ?_
  cases e
  exact V_iret X hr hlk (TB.get tb_X9_sortAt 6 rfl)
set_option maxRecDepth 100000 in
set_option maxHeartbeats 4000000 in
theorem ok_X9_nextIn (fu : Nat) (a0 : Nat) (a1 : Int32) (a2 : Int32) (a3 : Int32) (h : Hp) (res : Int32) (e : MX9_nextIn fu a0 a1 a2 a3 h = some res) : CK yX9_nextIn cX9_nextIn 5 (some .int) 1 [.ref a0, .int a1, .int a2, .int a3] h (some (.int res)) h ∧ (h.1 a0).1 = 9 := by
  obtain ⟨hcl, e⟩ := h_g_inv e
  refine ⟨CK_of pn_RX9 cm_X9_nextIn (Nat.le_of_ble_eq_true rfl) ?_, hcl⟩
  intro l D tc B nn p en s m args below meth c X hr hlk
  replace X : CX p (rmD 1) s m args c cX9_nextIn 5 RX9 D tc 1 := X
  show V p l en (rmD 1) s m args below meth c 5 D tc B nn (Ar B nn) s.heap 0 0 (MQ below (QC D tc B nn (Ar B nn) (some (.int res)) h) args s 0 0 (Ar B nn)) h 0 [(0, .ref a0), (1, .int a1), (2, .int a2), (3, .int a3)] []
  refine V_iload_n (q := 1) X (TB.get tb_X9_nextIn 0 rfl) rfl rfl rfl ?_
  refine V_istore (q := 3) (lv' := [(4, .int a1), (0, .ref a0), (1, .int a1), (2, .int a2), (3, .int a3)]) X (TB.get tb_X9_nextIn 1 rfl) rfl (Nat.le_of_ble_eq_true rfl) rfl ?_
  refine V_sub (lv' := [(0, .ref a0), (2, .int a2), (3, .int a3), (4, .int a1)]) [1, 3, 4, 0] rfl ?_
  refine wh1_elim (P := fun v1 => V p l en (rmD 1) s m args below meth c 5 D tc B nn (Ar B nn) s.heap 0 0 (MQ below (QC D tc B nn (Ar B nn) (some (.int res)) h) args s 0 0 (Ar B nn)) h 3 [(0, .ref a0), (2, .int a2), (3, .int a3), (4, .int v1)] []) (f := fu) ?_ e
  intro self2 v1 ihself2 e
  unfold MX9_nextIn_B3 at e
  refine V_iload (q := 5) X (TB.get tb_X9_nextIn 2 rfl) rfl rfl ?_
  refine V_aload_n (q := 6) X (TB.get tb_X9_nextIn 3 rfl) rfl rfl rfl ?_
  obtain ⟨x3, ex3, e⟩ := bs e
  refine V_callV (q := 9) (As := []) (rest := [.int v1]) (st' := [.int x3, .int v1]) X (TB.get tb_X9_nextIn 4 rfl) rfl cv_RX9_298 (ok_X9_statements a0 h x3 ex3).1 (ok_X9_statements a0 h x3 ex3).2 (Nat.le_of_ble_eq_true rfl) rfl rfl (Nat.le_of_ble_eq_true rfl) rfl ?_
  refine V_icmp_ge (q := 12) (t := 61) X (TB.get tb_X9_nextIn 5 rfl) rfl rfl (fun hc => ?_) (fun hc => ?_)
  · have e := (if_pos hc).symm.trans e
    refine V_iconst (v := -1) (q := 62) X (TB.get tb_X9_nextIn 31 rfl) c_iconst_m1 rfl ?_
    cases e
    exact V_iret X hr hlk (TB.get tb_X9_nextIn 32 rfl)
  · have e := (if_neg hc).symm.trans e
    refine V_aload_n (q := 13) X (TB.get tb_X9_nextIn 6 rfl) rfl rfl rfl ?_
    obtain ⟨x4, ex4, e⟩ := bs e
    refine V_getR (q := 16) X (TB.get tb_X9_nextIn 7 rfl) rfl lf_RX9_43 ex4 ?_
    refine V_iload (q := 18) X (TB.get tb_X9_nextIn 8 rfl) rfl rfl ?_
    obtain ⟨x5, ex5, e⟩ := bs e
    refine V_baloadZ (q := 19) X (TB.get tb_X9_nextIn 9 rfl) rfl ex5 ?_
    refine jn_elim (P := (fun (k : Option (Int32)) => k = some res → V p l en (rmD 1) s m args below meth c 5 D tc B nn (Ar B nn) s.heap 0 0 (MQ below (QC D tc B nn (Ar B nn) (some (.int res)) h) args s 0 0 (Ar B nn)) h 55 [(0, .ref a0), (2, .int a2), (3, .int a3), (4, .int v1)] [])) e ?_ (fun j6 Jj6 e => ?_)
    · intro e
      refine V_iinc (q := 58) (v := v1 + (1 : Int32)) (lv' := [(4, .int (v1 + (1 : Int32))), (0, .ref a0), (2, .int a2), (3, .int a3)]) X (TB.get tb_X9_nextIn 29 rfl) rfl rfl (by rw [c_iconst_1]) (Nat.le_of_ble_eq_true rfl) rfl ?_
      refine V_goto (q := 3) X (TB.get tb_X9_nextIn 30 rfl) rfl ?_
      refine V_sub (lv' := [(0, .ref a0), (2, .int a2), (3, .int a3), (4, .int (v1 + (1 : Int32)))]) [1, 2, 3, 0] rfl ?_
      exact ihself2 _ e
    refine V_if_ne (q := 22) (t := 55) X (TB.get tb_X9_nextIn 10 rfl) rfl rfl (fun hc => ?_) (fun hc => ?_)
    · have e := (if_neg hc).symm.trans e
      exact Jj6 e
    · have e := (if_pos hc).symm.trans e
      refine V_aload_n (q := 23) X (TB.get tb_X9_nextIn 11 rfl) rfl rfl rfl ?_
      obtain ⟨x7, ex7, e⟩ := bs e
      refine V_getR (q := 26) X (TB.get tb_X9_nextIn 12 rfl) rfl lf_RX9_13 ex7 ?_
      refine V_sipush (v := 493) (q := 29) X (TB.get tb_X9_nextIn 13 rfl) c_sipush_493 rfl ?_
      refine V_iload (q := 31) X (TB.get tb_X9_nextIn 14 rfl) rfl rfl ?_
      refine V_iadd (q := 32) X (TB.get tb_X9_nextIn 15 rfl) rfl ?_
      obtain ⟨x8, ex8, e⟩ := bs e
      refine V_iaload (q := 33) X (TB.get tb_X9_nextIn 16 rfl) rfl ex8 ?_
      refine V_iload_n (q := 34) X (TB.get tb_X9_nextIn 17 rfl) rfl rfl rfl ?_
      refine V_icmp_ne (q := 37) (t := 55) X (TB.get tb_X9_nextIn 18 rfl) rfl rfl (fun hc => ?_) (fun hc => ?_)
      · have e := (if_neg hc).symm.trans e
        exact Jj6 e
      · have e := (if_pos hc).symm.trans e
        refine V_aload_n (q := 38) X (TB.get tb_X9_nextIn 19 rfl) rfl rfl rfl ?_
        refine V_getR (q := 41) X (TB.get tb_X9_nextIn 20 rfl) rfl lf_RX9_13 ex7 ?_
        refine V_sipush (v := 533) (q := 44) X (TB.get tb_X9_nextIn 21 rfl) c_sipush_533 rfl ?_
        refine V_iload (q := 46) X (TB.get tb_X9_nextIn 22 rfl) rfl rfl ?_
        refine V_iadd (q := 47) X (TB.get tb_X9_nextIn 23 rfl) rfl ?_
        obtain ⟨x9, ex9, e⟩ := bs e
        refine V_iaload (q := 48) X (TB.get tb_X9_nextIn 24 rfl) rfl ex9 ?_
        refine V_iload_n (q := 49) X (TB.get tb_X9_nextIn 25 rfl) rfl rfl rfl ?_
        refine V_icmp_ne (q := 52) (t := 55) X (TB.get tb_X9_nextIn 26 rfl) rfl rfl (fun hc => ?_) (fun hc => ?_)
        · have e := (if_neg hc).symm.trans e
          exact Jj6 e
        · have e := (if_pos hc).symm.trans e
          refine V_iload (q := 54) X (TB.get tb_X9_nextIn 27 rfl) rfl rfl ?_
          cases e
          exact V_iret X hr hlk (TB.get tb_X9_nextIn 28 rfl)
set_option maxRecDepth 100000 in
set_option maxHeartbeats 4000000 in
theorem ok_X9_isRound (a0 : Nat) (a1 : Int32) (h : Hp) (res : Int32) (e : MX9_isRound a0 a1 h = some res) : CK yX9_isRound cX9_isRound 2 (some .boolean) 0 [.ref a0, .int a1] h (some (.int res)) h ∧ (h.1 a0).1 = 9 := by
  obtain ⟨hcl, e⟩ := h_g_inv e
  refine ⟨CK_of pn_RX9 cm_X9_isRound (Nat.le_of_ble_eq_true rfl) ?_, hcl⟩
  intro l D tc B nn p en s m args below meth c X hr hlk
  replace X : CX p (rmD 0) s m args c cX9_isRound 2 RX9 D tc 0 := X
  show V p l en (rmD 0) s m args below meth c 2 D tc B nn (Ar B nn) s.heap 0 0 (MQ below (QC D tc B nn (Ar B nn) (some (.int res)) h) args s 0 0 (Ar B nn)) h 0 [(0, .ref a0), (1, .int a1)] []
  refine V_iload_n (q := 1) X (TB.get tb_X9_isRound 0 rfl) rfl rfl rfl ?_
  refine V_bipush (v := 8) (q := 3) X (TB.get tb_X9_isRound 1 rfl) c_bipush_8 rfl ?_
  refine jn_elim (P := (fun (k : Option (Int32)) => k = some res → V p l en (rmD 0) s m args below meth c 2 D tc B nn (Ar B nn) s.heap 0 0 (MQ below (QC D tc B nn (Ar B nn) (some (.int res)) h) args s 0 0 (Ar B nn)) h 12 [] [])) e ?_ (fun j1 Jj1 e => ?_)
  · intro e
    refine V_iconst (v := 1) (q := 13) X (TB.get tb_X9_isRound 6 rfl) c_iconst_1 rfl ?_
    refine V_goto (q := 17) X (TB.get tb_X9_isRound 7 rfl) rfl ?_
    cases e
    exact V_zret X hr hlk (Or.inr rfl) (TB.get tb_X9_isRound 9 rfl)
  refine V_icmp_eq (q := 6) (t := 12) X (TB.get tb_X9_isRound 2 rfl) rfl rfl (fun hc => ?_) (fun hc => ?_)
  · have e := (if_pos hc).symm.trans e
    refine V_sub (lv' := []) [] rfl ?_
    exact Jj1 e
  · have e := (if_neg hc).symm.trans e
    refine V_iload_n (q := 7) X (TB.get tb_X9_isRound 3 rfl) rfl rfl rfl ?_
    refine V_bipush (v := 10) (q := 9) X (TB.get tb_X9_isRound 4 rfl) c_bipush_10 rfl ?_
    refine V_icmp_ne (q := 12) (t := 16) X (TB.get tb_X9_isRound 5 rfl) rfl rfl (fun hc => ?_) (fun hc => ?_)
    · have e := (if_neg hc).symm.trans e
      refine V_iconst (v := 0) (q := 17) X (TB.get tb_X9_isRound 8 rfl) c_iconst_0 rfl ?_
      cases e
      exact V_zret X hr hlk (Or.inl rfl) (TB.get tb_X9_isRound 9 rfl)
    · have e := (if_pos hc).symm.trans e
      refine V_sub (lv' := []) [] rfl ?_
      exact Jj1 e
set_option maxRecDepth 100000 in
set_option maxHeartbeats 4000000 in
theorem okr_X9_behind (fu : Nat) : ∀ (kk : Nat) (a0 : Nat) (a1 : Int32) (h : Hp) (res : Int32), wh3 (MX9_behind_R fu) kk a0 a1 h = some res → CK yX9_behind cX9_behind 4 (some .int) (2 + kk) [.ref a0, .int a1] h (some (.int res)) h ∧ (h.1 a0).1 = 9 := by
  intro kk
  induction kk with
  | zero => intro a0 a1 h res e; cases e
  | succ kk ihr =>
    intro a0 a1 h res e
    obtain ⟨hcl, e⟩ := h_g_inv e
    refine ⟨CK_of pn_RX9 cm_X9_behind (Nat.le_of_ble_eq_true rfl) ?_, hcl⟩
    intro l D tc B nn p en s m args below meth c X hr hlk
    replace X : CX p (rmD (2 + (kk + 1))) s m args c cX9_behind 4 RX9 D tc (2 + (kk + 1)) := X
    show V p l en (rmD (2 + (kk + 1))) s m args below meth c 4 D tc B nn (Ar B nn) s.heap 0 0 (MQ below (QC D tc B nn (Ar B nn) (some (.int res)) h) args s 0 0 (Ar B nn)) h 0 [(0, .ref a0), (1, .int a1)] []
    refine V_aload_n (q := 1) X (TB.get tb_X9_behind 0 rfl) rfl rfl rfl ?_
    obtain ⟨x1, ex1, e⟩ := bs e
    refine V_getR (q := 4) X (TB.get tb_X9_behind 1 rfl) rfl lf_RX9_13 ex1 ?_
    refine V_sipush (v := 493) (q := 7) X (TB.get tb_X9_behind 2 rfl) c_sipush_493 rfl ?_
    refine V_iload_n (q := 8) X (TB.get tb_X9_behind 3 rfl) rfl rfl rfl ?_
    refine V_iadd (q := 9) X (TB.get tb_X9_behind 4 rfl) rfl ?_
    obtain ⟨x2, ex2, e⟩ := bs e
    refine V_iaload (q := 10) X (TB.get tb_X9_behind 5 rfl) rfl ex2 ?_
    refine V_istore_n (q := 11) (lv' := [(2, .int x2), (0, .ref a0), (1, .int a1)]) X (TB.get tb_X9_behind 6 rfl) rfl rfl (Nat.le_of_ble_eq_true rfl) rfl ?_
    refine V_aload_n (q := 12) X (TB.get tb_X9_behind 7 rfl) rfl rfl rfl ?_
    refine V_iload_n (q := 13) X (TB.get tb_X9_behind 8 rfl) rfl rfl rfl ?_
    refine V_iconst (v := 1) (q := 14) X (TB.get tb_X9_behind 9 rfl) c_iconst_1 rfl ?_
    refine V_iadd (q := 15) X (TB.get tb_X9_behind 10 rfl) rfl ?_
    refine V_iload_n (q := 16) X (TB.get tb_X9_behind 11 rfl) rfl rfl rfl ?_
    refine V_aload_n (q := 17) X (TB.get tb_X9_behind 12 rfl) rfl rfl rfl ?_
    refine V_getR (q := 20) X (TB.get tb_X9_behind 13 rfl) rfl lf_RX9_13 ex1 ?_
    refine V_sipush (v := 533) (q := 23) X (TB.get tb_X9_behind 14 rfl) c_sipush_533 rfl ?_
    refine V_iload_n (q := 24) X (TB.get tb_X9_behind 15 rfl) rfl rfl rfl ?_
    refine V_iadd (q := 25) X (TB.get tb_X9_behind 16 rfl) rfl ?_
    obtain ⟨x3, ex3, e⟩ := bs e
    refine V_iaload (q := 26) X (TB.get tb_X9_behind 17 rfl) rfl ex3 ?_
    obtain ⟨x4, ex4, e⟩ := bs e
    refine V_callV (q := 29) (As := [.int (a1 + (1 : Int32)), .int x2, .int x3]) (rest := []) (st' := [.int x4]) X (TB.get tb_X9_behind 18 rfl) rfl cv_RX9_301 (ok_X9_nextIn fu a0 (a1 + (1 : Int32)) x2 x3 h x4 ex4).1 (ok_X9_nextIn fu a0 (a1 + (1 : Int32)) x2 x3 h x4 ex4).2 (by omega) rfl rfl (Nat.le_of_ble_eq_true rfl) rfl ?_
    refine V_istore_n (q := 30) (lv' := [(3, .int x4), (2, .int x2), (0, .ref a0), (1, .int a1)]) X (TB.get tb_X9_behind 19 rfl) rfl rfl (Nat.le_of_ble_eq_true rfl) rfl ?_
    refine V_iload_n (q := 31) X (TB.get tb_X9_behind 20 rfl) rfl rfl rfl ?_
    refine V_iconst (v := -1) (q := 32) X (TB.get tb_X9_behind 21 rfl) c_iconst_m1 rfl ?_
    refine V_icmp_eq (q := 35) (t := 37) X (TB.get tb_X9_behind 22 rfl) rfl rfl (fun hc => ?_) (fun hc => ?_)
    · have e := (if_pos hc).symm.trans e
      refine V_iload_n (q := 38) X (TB.get tb_X9_behind 25 rfl) rfl rfl rfl ?_
      refine V_iconst (v := -1) (q := 39) X (TB.get tb_X9_behind 26 rfl) c_iconst_m1 rfl ?_
      refine V_icmp_ne (q := 42) (t := 47) X (TB.get tb_X9_behind 27 rfl) rfl rfl (fun hc => ?_) (fun hc => ?_)
      · have e := (if_neg hc).symm.trans e
        refine V_aload_n (q := 48) X (TB.get tb_X9_behind 31 rfl) rfl rfl rfl ?_
        refine V_aload_n (q := 49) X (TB.get tb_X9_behind 32 rfl) rfl rfl rfl ?_
        refine V_iload_n (q := 50) X (TB.get tb_X9_behind 33 rfl) rfl rfl rfl ?_
        obtain ⟨x5, ex5, e⟩ := bs e
        refine V_callV (q := 53) (As := [.int x2]) (rest := [.ref a0]) (st' := [.int x5, .ref a0]) X (TB.get tb_X9_behind 34 rfl) rfl cv_RX9_304 (ok_X9_sortAt a0 x2 h x5 ex5).1 (ok_X9_sortAt a0 x2 h x5 ex5).2 (by omega) rfl rfl (Nat.le_of_ble_eq_true rfl) rfl ?_
        obtain ⟨x6, ex6, e⟩ := bs e
        refine V_callV (q := 56) (As := [.int x5]) (rest := []) (st' := [.int x6]) X (TB.get tb_X9_behind 35 rfl) rfl cv_RX9_307 (ok_X9_isRound a0 x5 h x6 ex6).1 (ok_X9_isRound a0 x5 h x6 ex6).2 (by omega) rfl rfl (Nat.le_of_ble_eq_true rfl) rfl ?_
        refine V_if_eq (q := 59) (t := 63) X (TB.get tb_X9_behind 36 rfl) rfl rfl (fun hc => ?_) (fun hc => ?_)
        · have e := (if_pos hc).symm.trans e
          refine V_aload_n (q := 64) X (TB.get tb_X9_behind 39 rfl) rfl rfl rfl ?_
          refine V_iload_n (q := 65) X (TB.get tb_X9_behind 40 rfl) rfl rfl rfl ?_
          obtain ⟨x7, ex7, e⟩ := bs e
          refine V_callV (q := 68) (As := [.int x2]) (rest := []) (st' := [.int x7]) X (TB.get tb_X9_behind 41 rfl) rfl cv_RX9_310 (ihr a0 x2 h x7 ex7).1 (ihr a0 x2 h x7 ex7).2 (by omega) rfl rfl (Nat.le_of_ble_eq_true rfl) rfl ?_
          cases e
          exact V_iret X hr hlk (TB.get tb_X9_behind 42 rfl)
        · have e := (if_neg hc).symm.trans e
          refine V_iload_n (q := 60) X (TB.get tb_X9_behind 37 rfl) rfl rfl rfl ?_
          refine V_goto (q := 68) X (TB.get tb_X9_behind 38 rfl) rfl ?_
          cases e
          exact V_iret X hr hlk (TB.get tb_X9_behind 42 rfl)
      · have e := (if_pos hc).symm.trans e
        refine V_aload_n (q := 43) X (TB.get tb_X9_behind 28 rfl) rfl rfl rfl ?_
        obtain ⟨x8, ex8, e⟩ := bs e
        refine V_callV (q := 46) (As := []) (rest := []) (st' := [.int x8]) X (TB.get tb_X9_behind 29 rfl) rfl cv_RX9_298 (ok_X9_statements a0 h x8 ex8).1 (ok_X9_statements a0 h x8 ex8).2 (by omega) rfl rfl (Nat.le_of_ble_eq_true rfl) rfl ?_
        cases e
        exact V_iret X hr hlk (TB.get tb_X9_behind 30 rfl)
    · have e := (if_neg hc).symm.trans e
      refine V_iload_n (q := 36) X (TB.get tb_X9_behind 23 rfl) rfl rfl rfl ?_
      cases e
      exact V_iret X hr hlk (TB.get tb_X9_behind 24 rfl)
theorem ok_X9_behind (fu : Nat) (a0 : Nat) (a1 : Int32) (h : Hp) (res : Int32) (e : MX9_behind fu a0 a1 h = some res) : CK yX9_behind cX9_behind 4 (some .int) 10 [.ref a0, .int a1] h (some (.int res)) h ∧ (h.1 a0).1 = 9 := okr_X9_behind fu 8 a0 a1 h res e
set_option maxRecDepth 100000 in
set_option maxHeartbeats 4000000 in
theorem ok_X9_firstPlace (fu : Nat) (a0 : Nat) (h : Hp) (res : Int32) (e : MX9_firstPlace fu a0 h = some res) : CK yX9_firstPlace cX9_firstPlace 2 (some .int) 2 [.ref a0] h (some (.int res)) h ∧ (h.1 a0).1 = 9 := by
  obtain ⟨hcl, e⟩ := h_g_inv e
  refine ⟨CK_of pn_RX9 cm_X9_firstPlace (Nat.le_of_ble_eq_true rfl) ?_, hcl⟩
  intro l D tc B nn p en s m args below meth c X hr hlk
  replace X : CX p (rmD 2) s m args c cX9_firstPlace 2 RX9 D tc 2 := X
  show V p l en (rmD 2) s m args below meth c 2 D tc B nn (Ar B nn) s.heap 0 0 (MQ below (QC D tc B nn (Ar B nn) (some (.int res)) h) args s 0 0 (Ar B nn)) h 0 [(0, .ref a0)] []
  refine V_aload_n (q := 1) X (TB.get tb_X9_firstPlace 0 rfl) rfl rfl rfl ?_
  refine V_iconst (v := 0) (q := 2) X (TB.get tb_X9_firstPlace 1 rfl) c_iconst_0 rfl ?_
  refine V_iconst (v := -1) (q := 3) X (TB.get tb_X9_firstPlace 2 rfl) c_iconst_m1 rfl ?_
  refine V_iconst (v := 0) (q := 4) X (TB.get tb_X9_firstPlace 3 rfl) c_iconst_0 rfl ?_
  obtain ⟨x1, ex1, e⟩ := bs e
  refine V_callV (q := 7) (As := [.int (0 : Int32), .int (-1 : Int32), .int (0 : Int32)]) (rest := []) (st' := [.int x1]) X (TB.get tb_X9_firstPlace 4 rfl) rfl cv_RX9_301 (ok_X9_nextIn fu a0 (0 : Int32) (-1 : Int32) (0 : Int32) h x1 ex1).1 (ok_X9_nextIn fu a0 (0 : Int32) (-1 : Int32) (0 : Int32) h x1 ex1).2 (Nat.le_of_ble_eq_true rfl) rfl rfl (Nat.le_of_ble_eq_true rfl) rfl ?_
  refine V_istore_n (q := 8) (lv' := [(1, .int x1), (0, .ref a0)]) X (TB.get tb_X9_firstPlace 5 rfl) rfl rfl (Nat.le_of_ble_eq_true rfl) rfl ?_
  refine V_iload_n (q := 9) X (TB.get tb_X9_firstPlace 6 rfl) rfl rfl rfl ?_
  refine V_iconst (v := -1) (q := 10) X (TB.get tb_X9_firstPlace 7 rfl) c_iconst_m1 rfl ?_
  refine V_icmp_ne (q := 13) (t := 20) X (TB.get tb_X9_firstPlace 8 rfl) rfl rfl (fun hc => ?_) (fun hc => ?_)
  · have e := (if_neg hc).symm.trans e
    refine V_iload_n (q := 21) X (TB.get tb_X9_firstPlace 12 rfl) rfl rfl rfl ?_
    cases e
    exact V_iret X hr hlk (TB.get tb_X9_firstPlace 13 rfl)
  · have e := (if_pos hc).symm.trans e
    refine V_aload_n (q := 14) X (TB.get tb_X9_firstPlace 9 rfl) rfl rfl rfl ?_
    obtain ⟨x2, ex2, e⟩ := bs e
    refine V_callV (q := 17) (As := []) (rest := []) (st' := [.int x2]) X (TB.get tb_X9_firstPlace 10 rfl) rfl cv_RX9_298 (ok_X9_statements a0 h x2 ex2).1 (ok_X9_statements a0 h x2 ex2).2 (Nat.le_of_ble_eq_true rfl) rfl rfl (Nat.le_of_ble_eq_true rfl) rfl ?_
    refine V_goto (q := 21) X (TB.get tb_X9_firstPlace 11 rfl) rfl ?_
    cases e
    exact V_iret X hr hlk (TB.get tb_X9_firstPlace 13 rfl)
set_option maxRecDepth 100000 in
set_option maxHeartbeats 4000000 in
theorem ok_X9_byYes (fu : Nat) (a0 : Nat) (a1 : Int32) (h : Hp) (res : Int32) (e : MX9_byYes fu a0 a1 h = some res) : CK yX9_byYes cX9_byYes 3 (some .int) 11 [.ref a0, .int a1] h (some (.int res)) h ∧ (h.1 a0).1 = 9 := by
  obtain ⟨hcl, e⟩ := h_g_inv e
  refine ⟨CK_of pn_RX9 cm_X9_byYes (Nat.le_of_ble_eq_true rfl) ?_, hcl⟩
  intro l D tc B nn p en s m args below meth c X hr hlk
  replace X : CX p (rmD 11) s m args c cX9_byYes 3 RX9 D tc 11 := X
  show V p l en (rmD 11) s m args below meth c 3 D tc B nn (Ar B nn) s.heap 0 0 (MQ below (QC D tc B nn (Ar B nn) (some (.int res)) h) args s 0 0 (Ar B nn)) h 0 [(0, .ref a0), (1, .int a1)] []
  refine V_aload_n (q := 1) X (TB.get tb_X9_byYes 0 rfl) rfl rfl rfl ?_
  refine V_iload_n (q := 2) X (TB.get tb_X9_byYes 1 rfl) rfl rfl rfl ?_
  obtain ⟨x1, ex1, e⟩ := bs e
  refine V_callV (q := 5) (As := [.int a1]) (rest := []) (st' := [.int x1]) X (TB.get tb_X9_byYes 2 rfl) rfl cv_RX9_304 (ok_X9_sortAt a0 a1 h x1 ex1).1 (ok_X9_sortAt a0 a1 h x1 ex1).2 (Nat.le_of_ble_eq_true rfl) rfl rfl (Nat.le_of_ble_eq_true rfl) rfl ?_
  obtain ⟨x2, ex2, e⟩ := bs e
  refine V_callS (q := 8) (As := [.int x1]) (rest := []) (st' := [.int x2]) X (TB.get tb_X9_byYes 3 rfl) rfl cs_RX9_226 (ok_X9_hasBlock x1 h x2 ex2) (Nat.le_of_ble_eq_true rfl) rfl rfl (Nat.le_of_ble_eq_true rfl) rfl ?_
  refine V_if_ne (q := 11) (t := 17) X (TB.get tb_X9_byYes 4 rfl) rfl rfl (fun hc => ?_) (fun hc => ?_)
  · have e := (if_neg hc).symm.trans e
    refine V_aload_n (q := 18) X (TB.get tb_X9_byYes 9 rfl) rfl rfl rfl ?_
    refine V_iload_n (q := 19) X (TB.get tb_X9_byYes 10 rfl) rfl rfl rfl ?_
    refine V_iconst (v := 1) (q := 20) X (TB.get tb_X9_byYes 11 rfl) c_iconst_1 rfl ?_
    refine V_iadd (q := 21) X (TB.get tb_X9_byYes 12 rfl) rfl ?_
    refine V_iload_n (q := 22) X (TB.get tb_X9_byYes 13 rfl) rfl rfl rfl ?_
    refine V_iconst (v := 0) (q := 23) X (TB.get tb_X9_byYes 14 rfl) c_iconst_0 rfl ?_
    obtain ⟨x3, ex3, e⟩ := bs e
    refine V_callV (q := 26) (As := [.int (a1 + (1 : Int32)), .int a1, .int (0 : Int32)]) (rest := []) (st' := [.int x3]) X (TB.get tb_X9_byYes 15 rfl) rfl cv_RX9_301 (ok_X9_nextIn fu a0 (a1 + (1 : Int32)) a1 (0 : Int32) h x3 ex3).1 (ok_X9_nextIn fu a0 (a1 + (1 : Int32)) a1 (0 : Int32) h x3 ex3).2 (Nat.le_of_ble_eq_true rfl) rfl rfl (Nat.le_of_ble_eq_true rfl) rfl ?_
    refine V_istore_n (q := 27) (lv' := [(2, .int x3), (0, .ref a0), (1, .int a1)]) X (TB.get tb_X9_byYes 16 rfl) rfl rfl (Nat.le_of_ble_eq_true rfl) rfl ?_
    refine V_iload_n (q := 28) X (TB.get tb_X9_byYes 17 rfl) rfl rfl rfl ?_
    refine V_iconst (v := -1) (q := 29) X (TB.get tb_X9_byYes 18 rfl) c_iconst_m1 rfl ?_
    refine V_icmp_eq (q := 32) (t := 34) X (TB.get tb_X9_byYes 19 rfl) rfl rfl (fun hc => ?_) (fun hc => ?_)
    · have e := (if_pos hc).symm.trans e
      refine V_aload_n (q := 35) X (TB.get tb_X9_byYes 22 rfl) rfl rfl rfl ?_
      refine V_aload_n (q := 36) X (TB.get tb_X9_byYes 23 rfl) rfl rfl rfl ?_
      refine V_iload_n (q := 37) X (TB.get tb_X9_byYes 24 rfl) rfl rfl rfl ?_
      refine V_callV (q := 40) (As := [.int a1]) (rest := [.ref a0]) (st' := [.int x1, .ref a0]) X (TB.get tb_X9_byYes 25 rfl) rfl cv_RX9_304 (ok_X9_sortAt a0 a1 h x1 ex1).1 (ok_X9_sortAt a0 a1 h x1 ex1).2 (Nat.le_of_ble_eq_true rfl) rfl rfl (Nat.le_of_ble_eq_true rfl) rfl ?_
      obtain ⟨x4, ex4, e⟩ := bs e
      refine V_callV (q := 43) (As := [.int x1]) (rest := []) (st' := [.int x4]) X (TB.get tb_X9_byYes 26 rfl) rfl cv_RX9_307 (ok_X9_isRound a0 x1 h x4 ex4).1 (ok_X9_isRound a0 x1 h x4 ex4).2 (Nat.le_of_ble_eq_true rfl) rfl rfl (Nat.le_of_ble_eq_true rfl) rfl ?_
      refine V_if_eq (q := 46) (t := 50) X (TB.get tb_X9_byYes 27 rfl) rfl rfl (fun hc => ?_) (fun hc => ?_)
      · have e := (if_pos hc).symm.trans e
        refine V_aload_n (q := 51) X (TB.get tb_X9_byYes 30 rfl) rfl rfl rfl ?_
        refine V_iload_n (q := 52) X (TB.get tb_X9_byYes 31 rfl) rfl rfl rfl ?_
        obtain ⟨x5, ex5, e⟩ := bs e
        refine V_callV (q := 55) (As := [.int a1]) (rest := []) (st' := [.int x5]) X (TB.get tb_X9_byYes 32 rfl) rfl cv_RX9_310 (ok_X9_behind fu a0 a1 h x5 ex5).1 (ok_X9_behind fu a0 a1 h x5 ex5).2 (Nat.le_of_ble_eq_true rfl) rfl rfl (Nat.le_of_ble_eq_true rfl) rfl ?_
        cases e
        exact V_iret X hr hlk (TB.get tb_X9_byYes 33 rfl)
      · have e := (if_neg hc).symm.trans e
        refine V_iload_n (q := 47) X (TB.get tb_X9_byYes 28 rfl) rfl rfl rfl ?_
        refine V_goto (q := 55) X (TB.get tb_X9_byYes 29 rfl) rfl ?_
        cases e
        exact V_iret X hr hlk (TB.get tb_X9_byYes 33 rfl)
    · have e := (if_neg hc).symm.trans e
      refine V_iload_n (q := 33) X (TB.get tb_X9_byYes 20 rfl) rfl rfl rfl ?_
      cases e
      exact V_iret X hr hlk (TB.get tb_X9_byYes 21 rfl)
  · have e := (if_pos hc).symm.trans e
    refine V_aload_n (q := 12) X (TB.get tb_X9_byYes 5 rfl) rfl rfl rfl ?_
    refine V_iload_n (q := 13) X (TB.get tb_X9_byYes 6 rfl) rfl rfl rfl ?_
    obtain ⟨x6, ex6, e⟩ := bs e
    refine V_callV (q := 16) (As := [.int a1]) (rest := []) (st' := [.int x6]) X (TB.get tb_X9_byYes 7 rfl) rfl cv_RX9_310 (ok_X9_behind fu a0 a1 h x6 ex6).1 (ok_X9_behind fu a0 a1 h x6 ex6).2 (Nat.le_of_ble_eq_true rfl) rfl rfl (Nat.le_of_ble_eq_true rfl) rfl ?_
    cases e
    exact V_iret X hr hlk (TB.get tb_X9_byYes 8 rfl)
set_option maxRecDepth 100000 in
set_option maxHeartbeats 4000000 in
theorem ok_X9_byNo (fu : Nat) (a0 : Nat) (a1 : Int32) (h : Hp) (res : Int32) (e : MX9_byNo fu a0 a1 h = some res) : CK yX9_byNo cX9_byNo 4 (some .int) 11 [.ref a0, .int a1] h (some (.int res)) h ∧ (h.1 a0).1 = 9 := by
  obtain ⟨hcl, e⟩ := h_g_inv e
  refine ⟨CK_of pn_RX9 cm_X9_byNo (Nat.le_of_ble_eq_true rfl) ?_, hcl⟩
  intro l D tc B nn p en s m args below meth c X hr hlk
  replace X : CX p (rmD 11) s m args c cX9_byNo 4 RX9 D tc 11 := X
  show V p l en (rmD 11) s m args below meth c 4 D tc B nn (Ar B nn) s.heap 0 0 (MQ below (QC D tc B nn (Ar B nn) (some (.int res)) h) args s 0 0 (Ar B nn)) h 0 [(0, .ref a0), (1, .int a1)] []
  refine V_aload_n (q := 1) X (TB.get tb_X9_byNo 0 rfl) rfl rfl rfl ?_
  refine V_iload_n (q := 2) X (TB.get tb_X9_byNo 1 rfl) rfl rfl rfl ?_
  obtain ⟨x1, ex1, e⟩ := bs e
  refine V_callV (q := 5) (As := [.int a1]) (rest := []) (st' := [.int x1]) X (TB.get tb_X9_byNo 2 rfl) rfl cv_RX9_304 (ok_X9_sortAt a0 a1 h x1 ex1).1 (ok_X9_sortAt a0 a1 h x1 ex1).2 (Nat.le_of_ble_eq_true rfl) rfl rfl (Nat.le_of_ble_eq_true rfl) rfl ?_
  refine V_istore_n (q := 6) (lv' := [(2, .int x1), (0, .ref a0), (1, .int a1)]) X (TB.get tb_X9_byNo 3 rfl) rfl rfl (Nat.le_of_ble_eq_true rfl) rfl ?_
  refine V_iload_n (q := 7) X (TB.get tb_X9_byNo 4 rfl) rfl rfl rfl ?_
  obtain ⟨x2, ex2, e⟩ := bs e
  refine V_callS (q := 10) (As := [.int x1]) (rest := []) (st' := [.int x2]) X (TB.get tb_X9_byNo 5 rfl) rfl cs_RX9_226 (ok_X9_hasBlock x1 h x2 ex2) (Nat.le_of_ble_eq_true rfl) rfl rfl (Nat.le_of_ble_eq_true rfl) rfl ?_
  refine V_if_ne (q := 13) (t := 15) X (TB.get tb_X9_byNo 6 rfl) rfl rfl (fun hc => ?_) (fun hc => ?_)
  · have e := (if_neg hc).symm.trans e
    refine V_aload_n (q := 16) X (TB.get tb_X9_byNo 9 rfl) rfl rfl rfl ?_
    refine V_iload_n (q := 17) X (TB.get tb_X9_byNo 10 rfl) rfl rfl rfl ?_
    obtain ⟨x3, ex3, e⟩ := bs e
    refine V_callV (q := 20) (As := [.int x1]) (rest := []) (st' := [.int x3]) X (TB.get tb_X9_byNo 11 rfl) rfl cv_RX9_307 (ok_X9_isRound a0 x1 h x3 ex3).1 (ok_X9_isRound a0 x1 h x3 ex3).2 (Nat.le_of_ble_eq_true rfl) rfl rfl (Nat.le_of_ble_eq_true rfl) rfl ?_
    refine jn_elim (P := (fun (k : Int32 → Option (Int32)) => ∀ (w4 : Int32), k w4 = some res → V p l en (rmD 11) s m args below meth c 4 D tc B nn (Ar B nn) s.heap 0 0 (MQ below (QC D tc B nn (Ar B nn) (some (.int res)) h) args s 0 0 (Ar B nn)) h 36 [(0, .ref a0), (1, .int a1)] [.int w4])) e ?_ (fun j5 Jj5 e => ?_)
    · intro w4 e
      refine V_istore_n (q := 37) (lv' := [(3, .int w4), (0, .ref a0), (1, .int a1)]) X (TB.get tb_X9_byNo 22 rfl) rfl rfl (Nat.le_of_ble_eq_true rfl) rfl ?_
      refine V_iload_n (q := 38) X (TB.get tb_X9_byNo 23 rfl) rfl rfl rfl ?_
      refine V_iconst (v := -1) (q := 39) X (TB.get tb_X9_byNo 24 rfl) c_iconst_m1 rfl ?_
      refine V_icmp_ne (q := 42) (t := 50) X (TB.get tb_X9_byNo 25 rfl) rfl rfl (fun hc => ?_) (fun hc => ?_)
      · have e := (if_neg hc).symm.trans e
        refine V_iload_n (q := 51) X (TB.get tb_X9_byNo 30 rfl) rfl rfl rfl ?_
        cases e
        exact V_iret X hr hlk (TB.get tb_X9_byNo 31 rfl)
      · have e := (if_pos hc).symm.trans e
        refine V_aload_n (q := 43) X (TB.get tb_X9_byNo 26 rfl) rfl rfl rfl ?_
        refine V_iload_n (q := 44) X (TB.get tb_X9_byNo 27 rfl) rfl rfl rfl ?_
        obtain ⟨x6, ex6, e⟩ := bs e
        refine V_callV (q := 47) (As := [.int a1]) (rest := []) (st' := [.int x6]) X (TB.get tb_X9_byNo 28 rfl) rfl cv_RX9_310 (ok_X9_behind fu a0 a1 h x6 ex6).1 (ok_X9_behind fu a0 a1 h x6 ex6).2 (Nat.le_of_ble_eq_true rfl) rfl rfl (Nat.le_of_ble_eq_true rfl) rfl ?_
        refine V_goto (q := 51) X (TB.get tb_X9_byNo 29 rfl) rfl ?_
        cases e
        exact V_iret X hr hlk (TB.get tb_X9_byNo 31 rfl)
    refine V_if_eq (q := 23) (t := 27) X (TB.get tb_X9_byNo 12 rfl) rfl rfl (fun hc => ?_) (fun hc => ?_)
    · have e := (if_pos hc).symm.trans e
      refine V_aload_n (q := 28) X (TB.get tb_X9_byNo 15 rfl) rfl rfl rfl ?_
      refine V_iload_n (q := 29) X (TB.get tb_X9_byNo 16 rfl) rfl rfl rfl ?_
      refine V_iconst (v := 1) (q := 30) X (TB.get tb_X9_byNo 17 rfl) c_iconst_1 rfl ?_
      refine V_iadd (q := 31) X (TB.get tb_X9_byNo 18 rfl) rfl ?_
      refine V_iload_n (q := 32) X (TB.get tb_X9_byNo 19 rfl) rfl rfl rfl ?_
      refine V_iconst (v := 1) (q := 33) X (TB.get tb_X9_byNo 20 rfl) c_iconst_1 rfl ?_
      obtain ⟨x7, ex7, e⟩ := bs e
      refine V_callV (q := 36) (As := [.int (a1 + (1 : Int32)), .int a1, .int (1 : Int32)]) (rest := []) (st' := [.int x7]) X (TB.get tb_X9_byNo 21 rfl) rfl cv_RX9_301 (ok_X9_nextIn fu a0 (a1 + (1 : Int32)) a1 (1 : Int32) h x7 ex7).1 (ok_X9_nextIn fu a0 (a1 + (1 : Int32)) a1 (1 : Int32) h x7 ex7).2 (Nat.le_of_ble_eq_true rfl) rfl rfl (Nat.le_of_ble_eq_true rfl) rfl ?_
      refine V_sub (lv' := [(0, .ref a0), (1, .int a1)]) [1, 2] rfl ?_
      exact Jj5 _ e
    · have e := (if_neg hc).symm.trans e
      refine V_iconst (v := -1) (q := 24) X (TB.get tb_X9_byNo 13 rfl) c_iconst_m1 rfl ?_
      refine V_goto (q := 36) X (TB.get tb_X9_byNo 14 rfl) rfl ?_
      refine V_sub (lv' := [(0, .ref a0), (1, .int a1)]) [1, 2] rfl ?_
      exact Jj5 _ e
  · have e := (if_pos hc).symm.trans e
    refine V_iconst (v := -1) (q := 14) X (TB.get tb_X9_byNo 7 rfl) c_iconst_m1 rfl ?_
    cases e
    exact V_iret X hr hlk (TB.get tb_X9_byNo 8 rfl)
set_option maxRecDepth 100000 in
set_option maxHeartbeats 4000000 in
theorem ok_X9_allIn (fu : Nat) (a0 : Nat) (h : Hp) (res : Hp) (e : MX9_allIn fu a0 h = some res) : CK yX9_allIn cX9_allIn 2 none 0 [.ref a0] h none res ∧ (h.1 a0).1 = 9 := by
  obtain ⟨hcl, e⟩ := h_g_inv e
  refine ⟨CK_of pn_RX9 cm_X9_allIn (Nat.le_of_ble_eq_true rfl) ?_, hcl⟩
  intro l D tc B nn p en s m args below meth c X hr hlk
  replace X : CX p (rmD 0) s m args c cX9_allIn 2 RX9 D tc 0 := X
  show V p l en (rmD 0) s m args below meth c 2 D tc B nn (Ar B nn) s.heap 0 0 (MQ below (QC D tc B nn (Ar B nn) none res) args s 0 0 (Ar B nn)) h 0 [(0, .ref a0)] []
  refine V_iconst (v := 0) (q := 1) X (TB.get tb_X9_allIn 0 rfl) c_iconst_0 rfl ?_
  refine V_istore_n (q := 2) (lv' := [(1, .int (0 : Int32)), (0, .ref a0)]) X (TB.get tb_X9_allIn 1 rfl) rfl rfl (Nat.le_of_ble_eq_true rfl) rfl ?_
  refine V_sub (lv' := [(0, .ref a0), (1, .int (0 : Int32))]) [1, 0] rfl ?_
  refine wh2_elim (P := fun v1 h2 => V p l en (rmD 0) s m args below meth c 2 D tc B nn (Ar B nn) s.heap 0 0 (MQ below (QC D tc B nn (Ar B nn) none res) args s 0 0 (Ar B nn)) h2 2 [(0, .ref a0), (1, .int v1)] []) (f := fu) ?_ e
  intro self3 v1 h2 ihself3 e
  unfold MX9_allIn_B2 at e
  refine V_iload_n (q := 3) X (TB.get tb_X9_allIn 2 rfl) rfl rfl rfl ?_
  refine V_bipush (v := 40) (q := 5) X (TB.get tb_X9_allIn 3 rfl) c_bipush_40 rfl ?_
  refine V_icmp_ge (q := 8) (t := 21) X (TB.get tb_X9_allIn 4 rfl) rfl rfl (fun hc => ?_) (fun hc => ?_)
  · have e := (if_pos hc).symm.trans e
    cases e
    exact V_vret X hr hlk (TB.get tb_X9_allIn 12 rfl)
  · have e := (if_neg hc).symm.trans e
    refine V_aload_n (q := 9) X (TB.get tb_X9_allIn 5 rfl) rfl rfl rfl ?_
    obtain ⟨x4, ex4, e⟩ := bs e
    refine V_getR (q := 12) X (TB.get tb_X9_allIn 6 rfl) rfl lf_RX9_43 ex4 ?_
    refine V_iload_n (q := 13) X (TB.get tb_X9_allIn 7 rfl) rfl rfl rfl ?_
    refine V_iconst (v := 0) (q := 14) X (TB.get tb_X9_allIn 8 rfl) c_iconst_0 rfl ?_
    obtain ⟨h5, eh5, e⟩ := bs e
    refine V_bastoreZ (q := 15) X (TB.get tb_X9_allIn 9 rfl) rfl eh5 ?_
    refine V_iinc (q := 18) (v := v1 + (1 : Int32)) (lv' := [(1, .int (v1 + (1 : Int32))), (0, .ref a0)]) X (TB.get tb_X9_allIn 10 rfl) rfl rfl (by rw [c_iconst_1]) (Nat.le_of_ble_eq_true rfl) rfl ?_
    refine V_goto (q := 2) X (TB.get tb_X9_allIn 11 rfl) rfl ?_
    refine V_sub (lv' := [(0, .ref a0), (1, .int (v1 + (1 : Int32)))]) [1, 0] rfl ?_
    exact ihself3 _ _ e
set_option maxRecDepth 100000 in
set_option maxHeartbeats 4000000 in
theorem ok_X9_statement (fu : Nat) (a0 : Nat) (a1 : Int32) (a2 : Int32) (h : Hp) (res : Int32 × Hp) (e : MX9_statement fu a0 a1 a2 h = some res) : CK yX9_statement cX9_statement 5 (some .int) 12 [.ref a0, .int a1, .int a2] h (some (.int res.1)) res.2 ∧ (h.1 a0).1 = 9 := by
  obtain ⟨hcl, e⟩ := h_g_inv e
  refine ⟨CK_of pn_RX9 cm_X9_statement (Nat.le_of_ble_eq_true rfl) ?_, hcl⟩
  intro l D tc B nn p en s m args below meth c X hr hlk
  replace X : CX p (rmD 12) s m args c cX9_statement 5 RX9 D tc 12 := X
  show V p l en (rmD 12) s m args below meth c 5 D tc B nn (Ar B nn) s.heap 0 0 (MQ below (QC D tc B nn (Ar B nn) (some (.int res.1)) res.2) args s 0 0 (Ar B nn)) h 0 [(0, .ref a0), (1, .int a1), (2, .int a2)] []
  refine V_iload_n (q := 1) X (TB.get tb_X9_statement 0 rfl) rfl rfl rfl ?_
  refine V_iconst (v := 0) (q := 2) X (TB.get tb_X9_statement 1 rfl) c_iconst_0 rfl ?_
  refine V_bipush (v := 6) (q := 4) X (TB.get tb_X9_statement 2 rfl) c_bipush_6 rfl ?_
  obtain ⟨x1, ex1, e⟩ := bs e
  refine V_callS (q := 7) (As := [.int a2, .int (0 : Int32), .int (6 : Int32)]) (rest := []) (st' := [.int x1]) X (TB.get tb_X9_statement 3 rfl) rfl cs_RX9_239 (ok_X9_isFrom a2 (0 : Int32) (6 : Int32) h x1 ex1) (Nat.le_of_ble_eq_true rfl) rfl rfl (Nat.le_of_ble_eq_true rfl) rfl ?_
  refine V_if_ne (q := 10) (t := 16) X (TB.get tb_X9_statement 4 rfl) rfl rfl (fun hc => ?_) (fun hc => ?_)
  · have e := (if_neg hc).symm.trans e
    refine V_aload_n (q := 17) X (TB.get tb_X9_statement 9 rfl) rfl rfl rfl ?_
    refine V_iload_n (q := 18) X (TB.get tb_X9_statement 10 rfl) rfl rfl rfl ?_
    obtain ⟨x2, ex2, e⟩ := bs e
    refine V_callV (q := 21) (As := [.int a1]) (rest := []) (st' := [.int x2]) X (TB.get tb_X9_statement 11 rfl) rfl cv_RX9_313 (ok_X9_isStatementAt a0 a1 h x2 ex2).1 (ok_X9_isStatementAt a0 a1 h x2 ex2).2 (Nat.le_of_ble_eq_true rfl) rfl rfl (Nat.le_of_ble_eq_true rfl) rfl ?_
    refine V_if_ne (q := 24) (t := 30) X (TB.get tb_X9_statement 12 rfl) rfl rfl (fun hc => ?_) (fun hc => ?_)
    · have e := (if_neg hc).symm.trans e
      refine V_aload_n (q := 31) X (TB.get tb_X9_statement 17 rfl) rfl rfl rfl ?_
      obtain ⟨h3, eh3, e⟩ := bs e
      refine V_callV (q := 34) (As := []) (rest := []) (st' := []) X (TB.get tb_X9_statement 18 rfl) rfl cv_RX9_316 (ok_X9_allIn fu a0 h h3 eh3).1 (ok_X9_allIn fu a0 h h3 eh3).2 (Nat.le_of_ble_eq_true rfl) rfl rfl (Nat.le_of_ble_eq_true rfl) rfl ?_
      refine V_iload_n (q := 35) X (TB.get tb_X9_statement 19 rfl) rfl rfl rfl ?_
      by_cases hc0 : a2 = (0 : Int32)
      · have e := (if_pos hc0).symm.trans e
        rw [hc0]
        refine V_tabIn (q := 72) X (TB.get tb_X9_statement 20 rfl) (by decide) (by decide) rfl rfl ?_
        refine V_aload_n (q := 73) X (TB.get tb_X9_statement 21 rfl) rfl rfl rfl ?_
        refine V_aload_n (q := 74) X (TB.get tb_X9_statement 22 rfl) rfl rfl rfl ?_
        refine V_iload_n (q := 75) X (TB.get tb_X9_statement 23 rfl) rfl rfl rfl ?_
        obtain ⟨x4, ex4, e⟩ := bs e
        refine V_callV (q := 78) (As := [.int a1]) (rest := [.ref a0]) (st' := [.int x4, .ref a0]) X (TB.get tb_X9_statement 24 rfl) rfl cv_RX9_304 (ok_X9_sortAt a0 a1 h3 x4 ex4).1 (ok_X9_sortAt a0 a1 h3 x4 ex4).2 (Nat.le_of_ble_eq_true rfl) rfl rfl (Nat.le_of_ble_eq_true rfl) rfl ?_
        obtain ⟨p5, ep5, e⟩ := bs e
        refine V_callV (q := 81) (As := [.int x4]) (rest := []) (st' := [.int p5.1]) X (TB.get tb_X9_statement 25 rfl) rfl cv_RX9_248 (ok_X9_gives a0 x4 h3 p5 ep5).1 (ok_X9_gives a0 x4 h3 p5 ep5).2 (Nat.le_of_ble_eq_true rfl) rfl rfl (Nat.le_of_ble_eq_true rfl) rfl ?_
        cases e
        exact V_iret X hr hlk (TB.get tb_X9_statement 26 rfl)
      have e := (if_neg hc0).symm.trans e
      by_cases hc1 : a2 = (1 : Int32)
      · have e := (if_pos hc1).symm.trans e
        rw [hc1]
        refine V_tabIn (q := 82) X (TB.get tb_X9_statement 20 rfl) (by decide) (by decide) rfl rfl ?_
        refine V_aload_n (q := 83) X (TB.get tb_X9_statement 27 rfl) rfl rfl rfl ?_
        refine V_aload_n (q := 84) X (TB.get tb_X9_statement 28 rfl) rfl rfl rfl ?_
        obtain ⟨x6, ex6, e⟩ := bs e
        refine V_getR (q := 87) X (TB.get tb_X9_statement 29 rfl) rfl lf_RX9_13 ex6 ?_
        refine V_sipush (v := 373) (q := 90) X (TB.get tb_X9_statement 30 rfl) c_sipush_373 rfl ?_
        refine V_iload_n (q := 91) X (TB.get tb_X9_statement 31 rfl) rfl rfl rfl ?_
        refine V_iadd (q := 92) X (TB.get tb_X9_statement 32 rfl) rfl ?_
        obtain ⟨x7, ex7, e⟩ := bs e
        refine V_iaload (q := 93) X (TB.get tb_X9_statement 33 rfl) rfl ex7 ?_
        obtain ⟨p8, ep8, e⟩ := bs e
        refine V_callV (q := 96) (As := [.int x7]) (rest := []) (st' := [.int p8.1]) X (TB.get tb_X9_statement 34 rfl) rfl cv_RX9_248 (ok_X9_gives a0 x7 h3 p8 ep8).1 (ok_X9_gives a0 x7 h3 p8 ep8).2 (Nat.le_of_ble_eq_true rfl) rfl rfl (Nat.le_of_ble_eq_true rfl) rfl ?_
        cases e
        exact V_iret X hr hlk (TB.get tb_X9_statement 35 rfl)
      have e := (if_neg hc1).symm.trans e
      by_cases hc2 : a2 = (2 : Int32)
      · have e := (if_pos hc2).symm.trans e
        rw [hc2]
        refine V_tabIn (q := 97) X (TB.get tb_X9_statement 20 rfl) (by decide) (by decide) rfl rfl ?_
        refine V_aload_n (q := 98) X (TB.get tb_X9_statement 36 rfl) rfl rfl rfl ?_
        refine V_aload_n (q := 99) X (TB.get tb_X9_statement 37 rfl) rfl rfl rfl ?_
        obtain ⟨x9, ex9, e⟩ := bs e
        refine V_getR (q := 102) X (TB.get tb_X9_statement 38 rfl) rfl lf_RX9_13 ex9 ?_
        refine V_sipush (v := 413) (q := 105) X (TB.get tb_X9_statement 39 rfl) c_sipush_413 rfl ?_
        refine V_iload_n (q := 106) X (TB.get tb_X9_statement 40 rfl) rfl rfl rfl ?_
        refine V_iadd (q := 107) X (TB.get tb_X9_statement 41 rfl) rfl ?_
        obtain ⟨x10, ex10, e⟩ := bs e
        refine V_iaload (q := 108) X (TB.get tb_X9_statement 42 rfl) rfl ex10 ?_
        obtain ⟨p11, ep11, e⟩ := bs e
        refine V_callV (q := 111) (As := [.int x10]) (rest := []) (st' := [.int p11.1]) X (TB.get tb_X9_statement 43 rfl) rfl cv_RX9_248 (ok_X9_gives a0 x10 h3 p11 ep11).1 (ok_X9_gives a0 x10 h3 p11 ep11).2 (Nat.le_of_ble_eq_true rfl) rfl rfl (Nat.le_of_ble_eq_true rfl) rfl ?_
        cases e
        exact V_iret X hr hlk (TB.get tb_X9_statement 44 rfl)
      have e := (if_neg hc2).symm.trans e
      by_cases hc3 : a2 = (3 : Int32)
      · have e := (if_pos hc3).symm.trans e
        rw [hc3]
        refine V_tabIn (q := 112) X (TB.get tb_X9_statement 20 rfl) (by decide) (by decide) rfl rfl ?_
        refine V_aload_n (q := 113) X (TB.get tb_X9_statement 45 rfl) rfl rfl rfl ?_
        refine V_aload_n (q := 114) X (TB.get tb_X9_statement 46 rfl) rfl rfl rfl ?_
        obtain ⟨x12, ex12, e⟩ := bs e
        refine V_getR (q := 117) X (TB.get tb_X9_statement 47 rfl) rfl lf_RX9_13 ex12 ?_
        refine V_sipush (v := 453) (q := 120) X (TB.get tb_X9_statement 48 rfl) c_sipush_453 rfl ?_
        refine V_iload_n (q := 121) X (TB.get tb_X9_statement 49 rfl) rfl rfl rfl ?_
        refine V_iadd (q := 122) X (TB.get tb_X9_statement 50 rfl) rfl ?_
        obtain ⟨x13, ex13, e⟩ := bs e
        refine V_iaload (q := 123) X (TB.get tb_X9_statement 51 rfl) rfl ex13 ?_
        obtain ⟨p14, ep14, e⟩ := bs e
        refine V_callV (q := 126) (As := [.int x13]) (rest := []) (st' := [.int p14.1]) X (TB.get tb_X9_statement 52 rfl) rfl cv_RX9_248 (ok_X9_gives a0 x13 h3 p14 ep14).1 (ok_X9_gives a0 x13 h3 p14 ep14).2 (Nat.le_of_ble_eq_true rfl) rfl rfl (Nat.le_of_ble_eq_true rfl) rfl ?_
        cases e
        exact V_iret X hr hlk (TB.get tb_X9_statement 53 rfl)
      have e := (if_neg hc3).symm.trans e
      by_cases hc4 : a2 = (4 : Int32)
      · have e := (if_pos hc4).symm.trans e
        rw [hc4]
        refine V_tabIn (q := 127) X (TB.get tb_X9_statement 20 rfl) (by decide) (by decide) rfl rfl ?_
        refine V_aload_n (q := 128) X (TB.get tb_X9_statement 54 rfl) rfl rfl rfl ?_
        refine V_aload_n (q := 129) X (TB.get tb_X9_statement 55 rfl) rfl rfl rfl ?_
        refine V_iload_n (q := 130) X (TB.get tb_X9_statement 56 rfl) rfl rfl rfl ?_
        obtain ⟨x15, ex15, e⟩ := bs e
        refine V_callV (q := 133) (As := [.int a1]) (rest := [.ref a0]) (st' := [.int x15, .ref a0]) X (TB.get tb_X9_statement 57 rfl) rfl cv_RX9_319 (ok_X9_byYes fu a0 a1 h3 x15 ex15).1 (ok_X9_byYes fu a0 a1 h3 x15 ex15).2 (Nat.le_of_ble_eq_true rfl) rfl rfl (Nat.le_of_ble_eq_true rfl) rfl ?_
        obtain ⟨p16, ep16, e⟩ := bs e
        refine V_callV (q := 136) (As := [.int x15]) (rest := []) (st' := [.int p16.1]) X (TB.get tb_X9_statement 58 rfl) rfl cv_RX9_248 (ok_X9_gives a0 x15 h3 p16 ep16).1 (ok_X9_gives a0 x15 h3 p16 ep16).2 (Nat.le_of_ble_eq_true rfl) rfl rfl (Nat.le_of_ble_eq_true rfl) rfl ?_
        cases e
        exact V_iret X hr hlk (TB.get tb_X9_statement 59 rfl)
      have e := (if_neg hc4).symm.trans e
      by_cases hc5 : a2 = (5 : Int32)
      · have e := (if_pos hc5).symm.trans e
        rw [hc5]
        refine V_tabIn (q := 137) X (TB.get tb_X9_statement 20 rfl) (by decide) (by decide) rfl rfl ?_
        refine V_aload_n (q := 138) X (TB.get tb_X9_statement 60 rfl) rfl rfl rfl ?_
        refine V_aload_n (q := 139) X (TB.get tb_X9_statement 61 rfl) rfl rfl rfl ?_
        refine V_iload_n (q := 140) X (TB.get tb_X9_statement 62 rfl) rfl rfl rfl ?_
        obtain ⟨x17, ex17, e⟩ := bs e
        refine V_callV (q := 143) (As := [.int a1]) (rest := [.ref a0]) (st' := [.int x17, .ref a0]) X (TB.get tb_X9_statement 63 rfl) rfl cv_RX9_322 (ok_X9_byNo fu a0 a1 h3 x17 ex17).1 (ok_X9_byNo fu a0 a1 h3 x17 ex17).2 (Nat.le_of_ble_eq_true rfl) rfl rfl (Nat.le_of_ble_eq_true rfl) rfl ?_
        obtain ⟨p18, ep18, e⟩ := bs e
        refine V_callV (q := 146) (As := [.int x17]) (rest := []) (st' := [.int p18.1]) X (TB.get tb_X9_statement 64 rfl) rfl cv_RX9_248 (ok_X9_gives a0 x17 h3 p18 ep18).1 (ok_X9_gives a0 x17 h3 p18 ep18).2 (Nat.le_of_ble_eq_true rfl) rfl rfl (Nat.le_of_ble_eq_true rfl) rfl ?_
        cases e
        exact V_iret X hr hlk (TB.get tb_X9_statement 65 rfl)
      have e := (if_neg hc5).symm.trans e
      have hout : a2.toInt < 0 ∨ 5 < a2.toInt := tab_out a2 (0) (5) [0, 1, 2, 3, 4, 5] (by decide +kernel) (fun v hv => by simp only [List.mem_cons, List.not_mem_nil, or_false] at hv; rcases hv with rfl | rfl | rfl | rfl | rfl | rfl <;> assumption)
      refine V_tabOut (q := 147) X (TB.get tb_X9_statement 20 rfl) hout rfl ?_
      refine V_iconst (v := 0) (q := 148) X (TB.get tb_X9_statement 66 rfl) c_iconst_0 rfl ?_
      refine V_istore_n (q := 149) (lv' := [(3, .int (0 : Int32)), (0, .ref a0), (1, .int a1), (2, .int a2)]) X (TB.get tb_X9_statement 67 rfl) rfl rfl (Nat.le_of_ble_eq_true rfl) rfl ?_
      refine V_aload_n (q := 150) X (TB.get tb_X9_statement 68 rfl) rfl rfl rfl ?_
      obtain ⟨x19, ex19, e⟩ := bs e
      refine V_getR (q := 153) X (TB.get tb_X9_statement 69 rfl) rfl lf_RX9_13 ex19 ?_
      refine V_sipush (v := 493) (q := 156) X (TB.get tb_X9_statement 70 rfl) c_sipush_493 rfl ?_
      refine V_iload_n (q := 157) X (TB.get tb_X9_statement 71 rfl) rfl rfl rfl ?_
      refine V_iadd (q := 158) X (TB.get tb_X9_statement 72 rfl) rfl ?_
      obtain ⟨x20, ex20, e⟩ := bs e
      refine V_iaload (q := 159) X (TB.get tb_X9_statement 73 rfl) rfl ex20 ?_
      refine V_istore (q := 161) (lv' := [(4, .int x20), (3, .int (0 : Int32)), (0, .ref a0), (1, .int a1), (2, .int a2)]) X (TB.get tb_X9_statement 74 rfl) rfl (Nat.le_of_ble_eq_true rfl) rfl ?_
      refine jn_elim (P := (fun (k : Int32 → Option (Int32 × Hp)) => ∀ (v21 : Int32), k v21 = some res → V p l en (rmD 12) s m args below meth c 5 D tc B nn (Ar B nn) s.heap 0 0 (MQ below (QC D tc B nn (Ar B nn) (some (.int res.1)) res.2) args s 0 0 (Ar B nn)) h3 186 [(0, .ref a0), (3, .int v21)] [])) e ?_ (fun j22 Jj22 e => ?_)
      · intro v21 e
        refine V_aload_n (q := 187) X (TB.get tb_X9_statement 87 rfl) rfl rfl rfl ?_
        refine V_iload_n (q := 188) X (TB.get tb_X9_statement 88 rfl) rfl rfl rfl ?_
        obtain ⟨p23, ep23, e⟩ := bs e
        refine V_callV (q := 191) (As := [.int v21]) (rest := []) (st' := [.int p23.1]) X (TB.get tb_X9_statement 89 rfl) rfl cv_RX9_248 (ok_X9_gives a0 v21 h3 p23 ep23).1 (ok_X9_gives a0 v21 h3 p23 ep23).2 (Nat.le_of_ble_eq_true rfl) rfl rfl (Nat.le_of_ble_eq_true rfl) rfl ?_
        cases e
        exact V_iret X hr hlk (TB.get tb_X9_statement 90 rfl)
      refine V_sub (lv' := [(0, .ref a0), (3, .int (0 : Int32)), (4, .int x20)]) [2, 1, 0] rfl ?_
      refine wh2_elim (P := fun v24 v25 => V p l en (rmD 12) s m args below meth c 5 D tc B nn (Ar B nn) s.heap 0 0 (MQ below (QC D tc B nn (Ar B nn) (some (.int res.1)) res.2) args s 0 0 (Ar B nn)) h3 161 [(0, .ref a0), (3, .int v24), (4, .int v25)] []) (f := fu) ?_ e
      intro self26 v24 v25 ihself26 e
      unfold MX9_statement_B161 at e
      refine V_iload (q := 163) X (TB.get tb_X9_statement 75 rfl) rfl rfl ?_
      refine V_iconst (v := -1) (q := 164) X (TB.get tb_X9_statement 76 rfl) c_iconst_m1 rfl ?_
      refine V_icmp_eq (q := 167) (t := 186) X (TB.get tb_X9_statement 77 rfl) rfl rfl (fun hc => ?_) (fun hc => ?_)
      · have e := (if_pos hc).symm.trans e
        refine V_sub (lv' := [(0, .ref a0), (3, .int v24)]) [0, 1] rfl ?_
        exact Jj22 _ e
      · have e := (if_neg hc).symm.trans e
        refine V_iinc (q := 170) (v := v24 + (1 : Int32)) (lv' := [(3, .int (v24 + (1 : Int32))), (0, .ref a0), (4, .int v25)]) X (TB.get tb_X9_statement 78 rfl) rfl rfl (by rw [c_iconst_1]) (Nat.le_of_ble_eq_true rfl) rfl ?_
        refine V_aload_n (q := 171) X (TB.get tb_X9_statement 79 rfl) rfl rfl rfl ?_
        refine V_getR (q := 174) X (TB.get tb_X9_statement 80 rfl) rfl lf_RX9_13 ex19 ?_
        refine V_sipush (v := 493) (q := 177) X (TB.get tb_X9_statement 81 rfl) c_sipush_493 rfl ?_
        refine V_iload (q := 179) X (TB.get tb_X9_statement 82 rfl) rfl rfl ?_
        refine V_iadd (q := 180) X (TB.get tb_X9_statement 83 rfl) rfl ?_
        obtain ⟨x27, ex27, e⟩ := bs e
        refine V_iaload (q := 181) X (TB.get tb_X9_statement 84 rfl) rfl ex27 ?_
        refine V_istore (q := 183) (lv' := [(4, .int x27), (3, .int (v24 + (1 : Int32))), (0, .ref a0)]) X (TB.get tb_X9_statement 85 rfl) rfl (Nat.le_of_ble_eq_true rfl) rfl ?_
        refine V_goto (q := 161) X (TB.get tb_X9_statement 86 rfl) rfl ?_
        refine V_sub (lv' := [(0, .ref a0), (3, .int (v24 + (1 : Int32))), (4, .int x27)]) [2, 1, 0] rfl ?_
        exact ihself26 _ _ e
    · have e := (if_pos hc).symm.trans e
      refine V_aload_n (q := 25) X (TB.get tb_X9_statement 13 rfl) rfl rfl rfl ?_
      refine V_iconst (v := 2) (q := 26) X (TB.get tb_X9_statement 14 rfl) c_iconst_2 rfl ?_
      obtain ⟨p28, ep28, e⟩ := bs e
      refine V_callV (q := 29) (As := [.int (2 : Int32)]) (rest := []) (st' := [.int p28.1]) X (TB.get tb_X9_statement 15 rfl) rfl cv_RX9_242 (ok_X9_refuse a0 (2 : Int32) h p28 ep28).1 (ok_X9_refuse a0 (2 : Int32) h p28 ep28).2 (Nat.le_of_ble_eq_true rfl) rfl rfl (Nat.le_of_ble_eq_true rfl) rfl ?_
      cases e
      exact V_iret X hr hlk (TB.get tb_X9_statement 16 rfl)
  · have e := (if_pos hc).symm.trans e
    refine V_aload_n (q := 11) X (TB.get tb_X9_statement 5 rfl) rfl rfl rfl ?_
    refine V_iconst (v := 1) (q := 12) X (TB.get tb_X9_statement 6 rfl) c_iconst_1 rfl ?_
    obtain ⟨p29, ep29, e⟩ := bs e
    refine V_callV (q := 15) (As := [.int (1 : Int32)]) (rest := []) (st' := [.int p29.1]) X (TB.get tb_X9_statement 7 rfl) rfl cv_RX9_242 (ok_X9_refuse a0 (1 : Int32) h p29 ep29).1 (ok_X9_refuse a0 (1 : Int32) h p29 ep29).2 (Nat.le_of_ble_eq_true rfl) rfl rfl (Nat.le_of_ble_eq_true rfl) rfl ?_
    cases e
    exact V_iret X hr hlk (TB.get tb_X9_statement 8 rfl)
set_option maxRecDepth 100000 in
set_option maxHeartbeats 4000000 in
theorem ok_X9_variable (a0 : Nat) (a1 : Int32) (h : Hp) (res : Int32 × Hp) (e : MX9_variable a0 a1 h = some res) : CK yX9_variable cX9_variable 2 (some .int) 2 [.ref a0, .int a1] h (some (.int res.1)) res.2 ∧ (h.1 a0).1 = 9 := by
  obtain ⟨hcl, e⟩ := h_g_inv e
  refine ⟨CK_of pn_RX9 cm_X9_variable (Nat.le_of_ble_eq_true rfl) ?_, hcl⟩
  intro l D tc B nn p en s m args below meth c X hr hlk
  replace X : CX p (rmD 2) s m args c cX9_variable 2 RX9 D tc 2 := X
  show V p l en (rmD 2) s m args below meth c 2 D tc B nn (Ar B nn) s.heap 0 0 (MQ below (QC D tc B nn (Ar B nn) (some (.int res.1)) res.2) args s 0 0 (Ar B nn)) h 0 [(0, .ref a0), (1, .int a1)] []
  refine V_aload_n (q := 1) X (TB.get tb_X9_variable 0 rfl) rfl rfl rfl ?_
  refine V_iload_n (q := 2) X (TB.get tb_X9_variable 1 rfl) rfl rfl rfl ?_
  obtain ⟨x1, ex1, e⟩ := bs e
  refine V_callV (q := 5) (As := [.int a1]) (rest := []) (st' := [.int x1]) X (TB.get tb_X9_variable 2 rfl) rfl cv_RX9_325 (ok_X9_isVariable a0 a1 h x1 ex1).1 (ok_X9_isVariable a0 a1 h x1 ex1).2 (Nat.le_of_ble_eq_true rfl) rfl rfl (Nat.le_of_ble_eq_true rfl) rfl ?_
  refine V_if_eq (q := 8) (t := 25) X (TB.get tb_X9_variable 3 rfl) rfl rfl (fun hc => ?_) (fun hc => ?_)
  · have e := (if_pos hc).symm.trans e
    refine V_aload_n (q := 26) X (TB.get tb_X9_variable 13 rfl) rfl rfl rfl ?_
    refine V_iconst (v := 2) (q := 27) X (TB.get tb_X9_variable 14 rfl) c_iconst_2 rfl ?_
    obtain ⟨p2, ep2, e⟩ := bs e
    refine V_callV (q := 30) (As := [.int (2 : Int32)]) (rest := []) (st' := [.int p2.1]) X (TB.get tb_X9_variable 15 rfl) rfl cv_RX9_242 (ok_X9_refuse a0 (2 : Int32) h p2 ep2).1 (ok_X9_refuse a0 (2 : Int32) h p2 ep2).2 (Nat.le_of_ble_eq_true rfl) rfl rfl (Nat.le_of_ble_eq_true rfl) rfl ?_
    cases e
    exact V_iret X hr hlk (TB.get tb_X9_variable 16 rfl)
  · have e := (if_neg hc).symm.trans e
    refine V_aload_n (q := 9) X (TB.get tb_X9_variable 4 rfl) rfl rfl rfl ?_
    refine V_aload_n (q := 10) X (TB.get tb_X9_variable 5 rfl) rfl rfl rfl ?_
    obtain ⟨x3, ex3, e⟩ := bs e
    refine V_getR (q := 13) X (TB.get tb_X9_variable 6 rfl) rfl lf_RX9_13 ex3 ?_
    refine V_sipush (v := 327) (q := 16) X (TB.get tb_X9_variable 7 rfl) c_sipush_327 rfl ?_
    refine V_iload_n (q := 17) X (TB.get tb_X9_variable 8 rfl) rfl rfl rfl ?_
    refine V_iadd (q := 18) X (TB.get tb_X9_variable 9 rfl) rfl ?_
    obtain ⟨x4, ex4, e⟩ := bs e
    refine V_iaload (q := 19) X (TB.get tb_X9_variable 10 rfl) rfl ex4 ?_
    obtain ⟨p5, ep5, e⟩ := bs e
    refine V_callV (q := 22) (As := [.int x4]) (rest := []) (st' := [.int p5.1]) X (TB.get tb_X9_variable 11 rfl) rfl cv_RX9_248 (ok_X9_gives a0 x4 h p5 ep5).1 (ok_X9_gives a0 x4 h p5 ep5).2 (Nat.le_of_ble_eq_true rfl) rfl rfl (Nat.le_of_ble_eq_true rfl) rfl ?_
    refine V_goto (q := 30) X (TB.get tb_X9_variable 12 rfl) rfl ?_
    cases e
    exact V_iret X hr hlk (TB.get tb_X9_variable 16 rfl)
set_option maxRecDepth 100000 in
set_option maxHeartbeats 4000000 in
theorem ok_X9_at (a0 : Int32) (a1 : Int32) (h : Hp) (res : Int32) (e : MX9_at a0 a1 = some res) : CK yX9_at cX9_at 2 (some .int) 0 [.int a0, .int a1] h (some (.int res)) h := by
  unfold MX9_at at e
  refine CK_of pn_RX9 cm_X9_at (Nat.le_of_ble_eq_true rfl) ?_
  intro l D tc B nn p en s m args below meth c X hr hlk
  replace X : CX p (rmD 0) s m args c cX9_at 2 RX9 D tc 0 := X
  show V p l en (rmD 0) s m args below meth c 2 D tc B nn (Ar B nn) s.heap 0 0 (MQ below (QC D tc B nn (Ar B nn) (some (.int res)) h) args s 0 0 (Ar B nn)) h 0 [(0, .int a0), (1, .int a1)] []
  refine V_bipush (v := 6) (q := 2) X (TB.get tb_X9_at 0 rfl) c_bipush_6 rfl ?_
  refine V_iload_n (q := 3) X (TB.get tb_X9_at 1 rfl) rfl rfl rfl ?_
  refine V_imul (q := 4) X (TB.get tb_X9_at 2 rfl) rfl ?_
  refine V_iload_n (q := 5) X (TB.get tb_X9_at 3 rfl) rfl rfl rfl ?_
  refine V_iadd (q := 6) X (TB.get tb_X9_at 4 rfl) rfl ?_
  cases e
  exact V_iret X hr hlk (TB.get tb_X9_at 5 rfl)
set_option maxRecDepth 100000 in
set_option maxHeartbeats 4000000 in
theorem ok_X9_takes (fu : Nat) (a0 : Nat) (a1 : Int32) (h : Hp) (res : Hp) (e : MX9_takes fu a0 a1 h = some res) : CK yX9_takes cX9_takes 3 none 1 [.ref a0, .int a1] h none res ∧ (h.1 a0).1 = 9 := by
  obtain ⟨hcl, e⟩ := h_g_inv e
  refine ⟨CK_of pn_RX9 cm_X9_takes (Nat.le_of_ble_eq_true rfl) ?_, hcl⟩
  intro l D tc B nn p en s m args below meth c X hr hlk
  replace X : CX p (rmD 1) s m args c cX9_takes 3 RX9 D tc 1 := X
  show V p l en (rmD 1) s m args below meth c 3 D tc B nn (Ar B nn) s.heap 0 0 (MQ below (QC D tc B nn (Ar B nn) none res) args s 0 0 (Ar B nn)) h 0 [(0, .ref a0), (1, .int a1)] []
  refine V_iconst (v := 0) (q := 1) X (TB.get tb_X9_takes 0 rfl) c_iconst_0 rfl ?_
  refine V_istore_n (q := 2) (lv' := [(2, .int (0 : Int32)), (0, .ref a0), (1, .int a1)]) X (TB.get tb_X9_takes 1 rfl) rfl rfl (Nat.le_of_ble_eq_true rfl) rfl ?_
  refine V_sub (lv' := [(0, .ref a0), (1, .int a1), (2, .int (0 : Int32))]) [1, 2, 0] rfl ?_
  refine wh2_elim (P := fun v1 h2 => V p l en (rmD 1) s m args below meth c 3 D tc B nn (Ar B nn) s.heap 0 0 (MQ below (QC D tc B nn (Ar B nn) none res) args s 0 0 (Ar B nn)) h2 2 [(0, .ref a0), (1, .int a1), (2, .int v1)] []) (f := fu) ?_ e
  intro self3 v1 h2 ihself3 e
  unfold MX9_takes_B2 at e
  refine V_iload_n (q := 3) X (TB.get tb_X9_takes 2 rfl) rfl rfl rfl ?_
  refine V_bipush (v := 6) (q := 5) X (TB.get tb_X9_takes 3 rfl) c_bipush_6 rfl ?_
  refine V_icmp_ge (q := 8) (t := 78) X (TB.get tb_X9_takes 4 rfl) rfl rfl (fun hc => ?_) (fun hc => ?_)
  · have e := (if_pos hc).symm.trans e
    cases e
    exact V_vret X hr hlk (TB.get tb_X9_takes 47 rfl)
  · have e := (if_neg hc).symm.trans e
    refine V_aload_n (q := 9) X (TB.get tb_X9_takes 5 rfl) rfl rfl rfl ?_
    obtain ⟨x4, ex4, e⟩ := bs e
    refine V_getR (q := 12) X (TB.get tb_X9_takes 6 rfl) rfl lf_RX9_61 ex4 ?_
    refine V_iload_n (q := 13) X (TB.get tb_X9_takes 7 rfl) rfl rfl rfl ?_
    refine V_aload_n (q := 14) X (TB.get tb_X9_takes 8 rfl) rfl rfl rfl ?_
    obtain ⟨x5, ex5, e⟩ := bs e
    refine V_getR (q := 17) X (TB.get tb_X9_takes 9 rfl) rfl lf_RX9_49 ex5 ?_
    refine V_iload_n (q := 18) X (TB.get tb_X9_takes 10 rfl) rfl rfl rfl ?_
    refine V_iload_n (q := 19) X (TB.get tb_X9_takes 11 rfl) rfl rfl rfl ?_
    obtain ⟨x6, ex6, e⟩ := bs e
    refine V_callS (q := 22) (As := [.int a1, .int v1]) (rest := [.ref x5, .int v1, .ref x4]) (st' := [.int x6, .ref x5, .int v1, .ref x4]) X (TB.get tb_X9_takes 12 rfl) rfl cs_RX9_328 (ok_X9_at a1 v1 h2 x6 ex6) (Nat.le_of_ble_eq_true rfl) rfl rfl (Nat.le_of_ble_eq_true rfl) rfl ?_
    obtain ⟨x7, ex7, e⟩ := bs e
    refine V_iaload (q := 23) X (TB.get tb_X9_takes 13 rfl) rfl ex7 ?_
    obtain ⟨h8, eh8, e⟩ := bs e
    refine V_iastore (q := 24) X (TB.get tb_X9_takes 14 rfl) rfl eh8 ?_
    refine V_aload_n (q := 25) X (TB.get tb_X9_takes 15 rfl) rfl rfl rfl ?_
    obtain ⟨x9, ex9, e⟩ := bs e
    refine V_getR (q := 28) X (TB.get tb_X9_takes 16 rfl) rfl lf_RX9_64 ex9 ?_
    refine V_iload_n (q := 29) X (TB.get tb_X9_takes 17 rfl) rfl rfl rfl ?_
    refine V_aload_n (q := 30) X (TB.get tb_X9_takes 18 rfl) rfl rfl rfl ?_
    obtain ⟨x10, ex10, e⟩ := bs e
    refine V_getR (q := 33) X (TB.get tb_X9_takes 19 rfl) rfl lf_RX9_52 ex10 ?_
    refine V_iload_n (q := 34) X (TB.get tb_X9_takes 20 rfl) rfl rfl rfl ?_
    refine V_iload_n (q := 35) X (TB.get tb_X9_takes 21 rfl) rfl rfl rfl ?_
    obtain ⟨x11, ex11, e⟩ := bs e
    refine V_callS (q := 38) (As := [.int a1, .int v1]) (rest := [.ref x10, .int v1, .ref x9]) (st' := [.int x11, .ref x10, .int v1, .ref x9]) X (TB.get tb_X9_takes 22 rfl) rfl cs_RX9_328 (ok_X9_at a1 v1 h8 x11 ex11) (Nat.le_of_ble_eq_true rfl) rfl rfl (Nat.le_of_ble_eq_true rfl) rfl ?_
    obtain ⟨x12, ex12, e⟩ := bs e
    refine V_iaload (q := 39) X (TB.get tb_X9_takes 23 rfl) rfl ex12 ?_
    obtain ⟨h13, eh13, e⟩ := bs e
    refine V_iastore (q := 40) X (TB.get tb_X9_takes 24 rfl) rfl eh13 ?_
    refine V_aload_n (q := 41) X (TB.get tb_X9_takes 25 rfl) rfl rfl rfl ?_
    obtain ⟨x14, ex14, e⟩ := bs e
    refine V_getR (q := 44) X (TB.get tb_X9_takes 26 rfl) rfl lf_RX9_67 ex14 ?_
    refine V_iload_n (q := 45) X (TB.get tb_X9_takes 27 rfl) rfl rfl rfl ?_
    refine V_aload_n (q := 46) X (TB.get tb_X9_takes 28 rfl) rfl rfl rfl ?_
    obtain ⟨x15, ex15, e⟩ := bs e
    refine V_getR (q := 49) X (TB.get tb_X9_takes 29 rfl) rfl lf_RX9_55 ex15 ?_
    refine V_iload_n (q := 50) X (TB.get tb_X9_takes 30 rfl) rfl rfl rfl ?_
    refine V_iload_n (q := 51) X (TB.get tb_X9_takes 31 rfl) rfl rfl rfl ?_
    obtain ⟨x16, ex16, e⟩ := bs e
    refine V_callS (q := 54) (As := [.int a1, .int v1]) (rest := [.ref x15, .int v1, .ref x14]) (st' := [.int x16, .ref x15, .int v1, .ref x14]) X (TB.get tb_X9_takes 32 rfl) rfl cs_RX9_328 (ok_X9_at a1 v1 h13 x16 ex16) (Nat.le_of_ble_eq_true rfl) rfl rfl (Nat.le_of_ble_eq_true rfl) rfl ?_
    obtain ⟨x17, ex17, e⟩ := bs e
    refine V_iaload (q := 55) X (TB.get tb_X9_takes 33 rfl) rfl ex17 ?_
    obtain ⟨h18, eh18, e⟩ := bs e
    refine V_iastore (q := 56) X (TB.get tb_X9_takes 34 rfl) rfl eh18 ?_
    refine V_aload_n (q := 57) X (TB.get tb_X9_takes 35 rfl) rfl rfl rfl ?_
    obtain ⟨x19, ex19, e⟩ := bs e
    refine V_getR (q := 60) X (TB.get tb_X9_takes 36 rfl) rfl lf_RX9_70 ex19 ?_
    refine V_iload_n (q := 61) X (TB.get tb_X9_takes 37 rfl) rfl rfl rfl ?_
    refine V_aload_n (q := 62) X (TB.get tb_X9_takes 38 rfl) rfl rfl rfl ?_
    obtain ⟨x20, ex20, e⟩ := bs e
    refine V_getR (q := 65) X (TB.get tb_X9_takes 39 rfl) rfl lf_RX9_58 ex20 ?_
    refine V_iload_n (q := 66) X (TB.get tb_X9_takes 40 rfl) rfl rfl rfl ?_
    refine V_iload_n (q := 67) X (TB.get tb_X9_takes 41 rfl) rfl rfl rfl ?_
    obtain ⟨x21, ex21, e⟩ := bs e
    refine V_callS (q := 70) (As := [.int a1, .int v1]) (rest := [.ref x20, .int v1, .ref x19]) (st' := [.int x21, .ref x20, .int v1, .ref x19]) X (TB.get tb_X9_takes 42 rfl) rfl cs_RX9_328 (ok_X9_at a1 v1 h18 x21 ex21) (Nat.le_of_ble_eq_true rfl) rfl rfl (Nat.le_of_ble_eq_true rfl) rfl ?_
    obtain ⟨x22, ex22, e⟩ := bs e
    refine V_iaload (q := 71) X (TB.get tb_X9_takes 43 rfl) rfl ex22 ?_
    obtain ⟨h23, eh23, e⟩ := bs e
    refine V_iastore (q := 72) X (TB.get tb_X9_takes 44 rfl) rfl eh23 ?_
    refine V_iinc (q := 75) (v := v1 + (1 : Int32)) (lv' := [(2, .int (v1 + (1 : Int32))), (0, .ref a0), (1, .int a1)]) X (TB.get tb_X9_takes 45 rfl) rfl rfl (by rw [c_iconst_1]) (Nat.le_of_ble_eq_true rfl) rfl ?_
    refine V_goto (q := 2) X (TB.get tb_X9_takes 46 rfl) rfl ?_
    refine V_sub (lv' := [(0, .ref a0), (1, .int a1), (2, .int (v1 + (1 : Int32)))]) [1, 2, 0] rfl ?_
    exact ihself3 _ _ e
set_option maxRecDepth 100000 in
set_option maxHeartbeats 4000000 in
theorem ok_X9_merges (fu : Nat) (a0 : Nat) (a1 : Int32) (h : Hp) (res : Hp) (e : MX9_merges fu a0 a1 h = some res) : CK yX9_merges cX9_merges 9 none 1 [.ref a0, .int a1] h none res ∧ (h.1 a0).1 = 9 := by
  obtain ⟨hcl, e⟩ := h_g_inv e
  refine ⟨CK_of pn_RX9 cm_X9_merges (Nat.le_of_ble_eq_true rfl) ?_, hcl⟩
  intro l D tc B nn p en s m args below meth c X hr hlk
  replace X : CX p (rmD 1) s m args c cX9_merges 9 RX9 D tc 1 := X
  show V p l en (rmD 1) s m args below meth c 9 D tc B nn (Ar B nn) s.heap 0 0 (MQ below (QC D tc B nn (Ar B nn) none res) args s 0 0 (Ar B nn)) h 0 [(0, .ref a0), (1, .int a1)] []
  refine V_aload_n (q := 1) X (TB.get tb_X9_merges 0 rfl) rfl rfl rfl ?_
  obtain ⟨x1, ex1, e⟩ := bs e
  refine V_getR (q := 4) X (TB.get tb_X9_merges 1 rfl) rfl lf_RX9_46 ex1 ?_
  refine V_iload_n (q := 5) X (TB.get tb_X9_merges 2 rfl) rfl rfl rfl ?_
  obtain ⟨x2, ex2, e⟩ := bs e
  refine V_baloadZ (q := 6) X (TB.get tb_X9_merges 3 rfl) rfl ex2 ?_
  refine jn_elim (P := (fun (k : Int32 → Option (Hp)) => ∀ (w3 : Int32), k w3 = some res → V p l en (rmD 1) s m args below meth c 9 D tc B nn (Ar B nn) s.heap 0 0 (MQ below (QC D tc B nn (Ar B nn) none res) args s 0 0 (Ar B nn)) h 14 [(0, .ref a0), (1, .int a1)] [.int w3])) e ?_ (fun j4 Jj4 e => ?_)
  · intro w3 e
    refine V_istore_n (q := 15) (lv' := [(2, .int w3), (0, .ref a0), (1, .int a1)]) X (TB.get tb_X9_merges 8 rfl) rfl rfl (Nat.le_of_ble_eq_true rfl) rfl ?_
    refine V_aload_n (q := 16) X (TB.get tb_X9_merges 9 rfl) rfl rfl rfl ?_
    refine V_getR (q := 19) X (TB.get tb_X9_merges 10 rfl) rfl lf_RX9_46 ex1 ?_
    refine V_iload_n (q := 20) X (TB.get tb_X9_merges 11 rfl) rfl rfl rfl ?_
    refine V_iconst (v := 1) (q := 21) X (TB.get tb_X9_merges 12 rfl) c_iconst_1 rfl ?_
    obtain ⟨h5, eh5, e⟩ := bs e
    refine V_bastoreZ (q := 22) X (TB.get tb_X9_merges 13 rfl) rfl eh5 ?_
    refine V_iconst (v := 0) (q := 23) X (TB.get tb_X9_merges 14 rfl) c_iconst_0 rfl ?_
    refine V_istore_n (q := 24) (lv' := [(3, .int (0 : Int32)), (2, .int w3), (0, .ref a0), (1, .int a1)]) X (TB.get tb_X9_merges 15 rfl) rfl rfl (Nat.le_of_ble_eq_true rfl) rfl ?_
    refine V_sub (lv' := [(0, .ref a0), (1, .int a1), (2, .int w3), (3, .int (0 : Int32))]) [2, 3, 1, 0] rfl ?_
    refine wh2_elim (P := fun v6 h7 => V p l en (rmD 1) s m args below meth c 9 D tc B nn (Ar B nn) s.heap 0 0 (MQ below (QC D tc B nn (Ar B nn) none res) args s 0 0 (Ar B nn)) h7 24 [(0, .ref a0), (1, .int a1), (2, .int w3), (3, .int v6)] []) (f := fu) ?_ e
    intro self8 v6 h7 ihself8 e
    unfold MX9_merges_B24 at e
    refine V_iload_n (q := 25) X (TB.get tb_X9_merges 16 rfl) rfl rfl rfl ?_
    refine V_bipush (v := 6) (q := 27) X (TB.get tb_X9_merges 17 rfl) c_bipush_6 rfl ?_
    refine V_icmp_ge (q := 30) (t := 263) X (TB.get tb_X9_merges 18 rfl) rfl rfl (fun hc => ?_) (fun hc => ?_)
    · have e := (if_pos hc).symm.trans e
      cases e
      exact V_vret X hr hlk (TB.get tb_X9_merges 147 rfl)
    · have e := (if_neg hc).symm.trans e
      refine V_iload_n (q := 31) X (TB.get tb_X9_merges 19 rfl) rfl rfl rfl ?_
      refine V_iload_n (q := 32) X (TB.get tb_X9_merges 20 rfl) rfl rfl rfl ?_
      obtain ⟨x9, ex9, e⟩ := bs e
      refine V_callS (q := 35) (As := [.int a1, .int v6]) (rest := []) (st' := [.int x9]) X (TB.get tb_X9_merges 21 rfl) rfl cs_RX9_328 (ok_X9_at a1 v6 h7 x9 ex9) (Nat.le_of_ble_eq_true rfl) rfl rfl (Nat.le_of_ble_eq_true rfl) rfl ?_
      refine V_istore (q := 37) (lv' := [(4, .int x9), (0, .ref a0), (1, .int a1), (2, .int w3), (3, .int v6)]) X (TB.get tb_X9_merges 22 rfl) rfl (Nat.le_of_ble_eq_true rfl) rfl ?_
      refine V_iload_n (q := 38) X (TB.get tb_X9_merges 23 rfl) rfl rfl rfl ?_
      refine jn_elim (P := (fun (k : Int32 → Option (Hp)) => ∀ (w10 : Int32), k w10 = some res → V p l en (rmD 1) s m args below meth c 9 D tc B nn (Ar B nn) s.heap 0 0 (MQ below (QC D tc B nn (Ar B nn) none res) args s 0 0 (Ar B nn)) h7 64 [(0, .ref a0), (1, .int a1), (2, .int w3), (3, .int v6), (4, .int x9)] [.int w10])) e ?_ (fun j11 Jj11 e => ?_)
      · intro w10 e
        refine V_istore (q := 66) (lv' := [(5, .int w10), (0, .ref a0), (1, .int a1), (2, .int w3), (3, .int v6), (4, .int x9)]) X (TB.get tb_X9_merges 39 rfl) rfl (Nat.le_of_ble_eq_true rfl) rfl ?_
        refine V_iload_n (q := 67) X (TB.get tb_X9_merges 40 rfl) rfl rfl rfl ?_
        refine jn_elim (P := (fun (k : Int32 → Option (Hp)) => ∀ (w12 : Int32), k w12 = some res → V p l en (rmD 1) s m args below meth c 9 D tc B nn (Ar B nn) s.heap 0 0 (MQ below (QC D tc B nn (Ar B nn) none res) args s 0 0 (Ar B nn)) h7 93 [(0, .ref a0), (1, .int a1), (2, .int w3), (3, .int v6), (4, .int x9), (5, .int w10)] [.int w12])) e ?_ (fun j13 Jj13 e => ?_)
        · intro w12 e
          refine V_istore (q := 95) (lv' := [(6, .int w12), (0, .ref a0), (1, .int a1), (2, .int w3), (3, .int v6), (4, .int x9), (5, .int w10)]) X (TB.get tb_X9_merges 56 rfl) rfl (Nat.le_of_ble_eq_true rfl) rfl ?_
          refine V_iload_n (q := 96) X (TB.get tb_X9_merges 57 rfl) rfl rfl rfl ?_
          refine jn_elim (P := (fun (k : Int32 → Option (Hp)) => ∀ (w14 : Int32), k w14 = some res → V p l en (rmD 1) s m args below meth c 9 D tc B nn (Ar B nn) s.heap 0 0 (MQ below (QC D tc B nn (Ar B nn) none res) args s 0 0 (Ar B nn)) h7 122 [(0, .ref a0), (1, .int a1), (2, .int w3), (3, .int v6), (4, .int x9), (5, .int w10), (6, .int w12)] [.int w14])) e ?_ (fun j15 Jj15 e => ?_)
          · intro w14 e
            refine V_istore (q := 124) (lv' := [(7, .int w14), (0, .ref a0), (1, .int a1), (2, .int w3), (3, .int v6), (4, .int x9), (5, .int w10), (6, .int w12)]) X (TB.get tb_X9_merges 73 rfl) rfl (Nat.le_of_ble_eq_true rfl) rfl ?_
            refine V_iload_n (q := 125) X (TB.get tb_X9_merges 74 rfl) rfl rfl rfl ?_
            refine jn_elim (P := (fun (k : Int32 → Option (Hp)) => ∀ (w16 : Int32), k w16 = some res → V p l en (rmD 1) s m args below meth c 9 D tc B nn (Ar B nn) s.heap 0 0 (MQ below (QC D tc B nn (Ar B nn) none res) args s 0 0 (Ar B nn)) h7 151 [(0, .ref a0), (1, .int a1), (2, .int w3), (3, .int v6), (4, .int x9), (5, .int w10), (6, .int w12), (7, .int w14)] [.int w16])) e ?_ (fun j17 Jj17 e => ?_)
            · intro w16 e
              refine V_istore (q := 153) (lv' := [(8, .int w16), (0, .ref a0), (1, .int a1), (2, .int w3), (3, .int v6), (4, .int x9), (5, .int w10), (6, .int w12), (7, .int w14)]) X (TB.get tb_X9_merges 90 rfl) rfl (Nat.le_of_ble_eq_true rfl) rfl ?_
              refine V_aload_n (q := 154) X (TB.get tb_X9_merges 91 rfl) rfl rfl rfl ?_
              refine V_aload_n (q := 155) X (TB.get tb_X9_merges 92 rfl) rfl rfl rfl ?_
              obtain ⟨x18, ex18, e⟩ := bs e
              refine V_getI (q := 158) X (TB.get tb_X9_merges 93 rfl) rfl lf_RX9_331 ex18 ?_
              refine jn_elim (P := (fun (k : Int32 → Option (Hp)) => ∀ (w19 : Int32), k w19 = some res → V p l en (rmD 1) s m args below meth c 9 D tc B nn (Ar B nn) s.heap 0 0 (MQ below (QC D tc B nn (Ar B nn) none res) args s 0 0 (Ar B nn)) h7 218 [(0, .ref a0), (1, .int a1), (2, .int w3), (3, .int v6), (4, .int x9), (5, .int w10), (6, .int w12), (7, .int w14), (8, .int w16)] [.int w19, .ref a0])) e ?_ (fun j20 Jj20 e => ?_)
              · intro w19 e
                obtain ⟨h21, eh21, e⟩ := bs e
                refine V_putZ (q := 221) X (TB.get tb_X9_merges 124 rfl) rfl lq_RX9_331 eh21 ?_
                refine V_aload_n (q := 222) X (TB.get tb_X9_merges 125 rfl) rfl rfl rfl ?_
                obtain ⟨x22, ex22, e⟩ := bs e
                refine V_getR (q := 225) X (TB.get tb_X9_merges 126 rfl) rfl lf_RX9_49 ex22 ?_
                refine V_iload (q := 227) X (TB.get tb_X9_merges 127 rfl) rfl rfl ?_
                refine V_iload (q := 229) X (TB.get tb_X9_merges 128 rfl) rfl rfl ?_
                obtain ⟨h23, eh23, e⟩ := bs e
                refine V_iastore (q := 230) X (TB.get tb_X9_merges 129 rfl) rfl eh23 ?_
                refine V_aload_n (q := 231) X (TB.get tb_X9_merges 130 rfl) rfl rfl rfl ?_
                obtain ⟨x24, ex24, e⟩ := bs e
                refine V_getR (q := 234) X (TB.get tb_X9_merges 131 rfl) rfl lf_RX9_52 ex24 ?_
                refine V_iload (q := 236) X (TB.get tb_X9_merges 132 rfl) rfl rfl ?_
                refine V_iload (q := 238) X (TB.get tb_X9_merges 133 rfl) rfl rfl ?_
                obtain ⟨h25, eh25, e⟩ := bs e
                refine V_iastore (q := 239) X (TB.get tb_X9_merges 134 rfl) rfl eh25 ?_
                refine V_aload_n (q := 240) X (TB.get tb_X9_merges 135 rfl) rfl rfl rfl ?_
                obtain ⟨x26, ex26, e⟩ := bs e
                refine V_getR (q := 243) X (TB.get tb_X9_merges 136 rfl) rfl lf_RX9_55 ex26 ?_
                refine V_iload (q := 245) X (TB.get tb_X9_merges 137 rfl) rfl rfl ?_
                refine V_iload (q := 247) X (TB.get tb_X9_merges 138 rfl) rfl rfl ?_
                obtain ⟨h27, eh27, e⟩ := bs e
                refine V_iastore (q := 248) X (TB.get tb_X9_merges 139 rfl) rfl eh27 ?_
                refine V_aload_n (q := 249) X (TB.get tb_X9_merges 140 rfl) rfl rfl rfl ?_
                obtain ⟨x28, ex28, e⟩ := bs e
                refine V_getR (q := 252) X (TB.get tb_X9_merges 141 rfl) rfl lf_RX9_58 ex28 ?_
                refine V_iload (q := 254) X (TB.get tb_X9_merges 142 rfl) rfl rfl ?_
                refine V_iload (q := 256) X (TB.get tb_X9_merges 143 rfl) rfl rfl ?_
                obtain ⟨h29, eh29, e⟩ := bs e
                refine V_iastore (q := 257) X (TB.get tb_X9_merges 144 rfl) rfl eh29 ?_
                refine V_iinc (q := 260) (v := v6 + (1 : Int32)) (lv' := [(3, .int (v6 + (1 : Int32))), (0, .ref a0), (1, .int a1), (2, .int w3), (4, .int x9), (5, .int w10), (6, .int w12), (7, .int w14), (8, .int w16)]) X (TB.get tb_X9_merges 145 rfl) rfl rfl (by rw [c_iconst_1]) (Nat.le_of_ble_eq_true rfl) rfl ?_
                refine V_goto (q := 24) X (TB.get tb_X9_merges 146 rfl) rfl ?_
                refine V_sub (lv' := [(0, .ref a0), (1, .int a1), (2, .int w3), (3, .int (v6 + (1 : Int32)))]) [1, 2, 3, 0] rfl ?_
                exact ihself8 _ _ e
              refine jn_elim (P := (fun (k : Option (Hp)) => k = some res → V p l en (rmD 1) s m args below meth c 9 D tc B nn (Ar B nn) s.heap 0 0 (MQ below (QC D tc B nn (Ar B nn) none res) args s 0 0 (Ar B nn)) h7 213 [(0, .ref a0), (1, .int a1), (2, .int w3), (3, .int v6), (4, .int x9), (5, .int w10), (6, .int w12), (7, .int w14), (8, .int w16)] [.ref a0])) e ?_ (fun j30 Jj30 e => ?_)
              · intro e
                refine V_iconst (v := 1) (q := 214) X (TB.get tb_X9_merges 121 rfl) c_iconst_1 rfl ?_
                refine V_goto (q := 218) X (TB.get tb_X9_merges 122 rfl) rfl ?_
                exact Jj20 _ e
              refine V_if_ne (q := 161) (t := 213) X (TB.get tb_X9_merges 94 rfl) rfl rfl (fun hc => ?_) (fun hc => ?_)
              · have e := (if_neg hc).symm.trans e
                refine V_sub (lv' := [(0, .ref a0), (1, .int a1), (2, .int w3), (3, .int v6), (4, .int x9), (5, .int w10), (6, .int w12), (7, .int w14), (8, .int w16)]) [1, 2, 3, 4, 5, 6, 7, 8, 0] rfl ?_
                exact Jj30 e
              · have e := (if_pos hc).symm.trans e
                refine V_iload_n (q := 162) X (TB.get tb_X9_merges 95 rfl) rfl rfl rfl ?_
                refine V_if_ne (q := 165) (t := 213) X (TB.get tb_X9_merges 96 rfl) rfl rfl (fun hc => ?_) (fun hc => ?_)
                · have e := (if_neg hc).symm.trans e
                  refine V_sub (lv' := [(0, .ref a0), (1, .int a1), (2, .int w3), (3, .int v6), (4, .int x9), (5, .int w10), (6, .int w12), (7, .int w14), (8, .int w16)]) [1, 2, 3, 4, 5, 6, 7, 8, 0] rfl ?_
                  exact Jj30 e
                · have e := (if_pos hc).symm.trans e
                  refine V_iload (q := 167) X (TB.get tb_X9_merges 97 rfl) rfl rfl ?_
                  refine V_aload_n (q := 168) X (TB.get tb_X9_merges 98 rfl) rfl rfl rfl ?_
                  obtain ⟨x31, ex31, e⟩ := bs e
                  refine V_getR (q := 171) X (TB.get tb_X9_merges 99 rfl) rfl lf_RX9_49 ex31 ?_
                  refine V_iload (q := 173) X (TB.get tb_X9_merges 100 rfl) rfl rfl ?_
                  obtain ⟨x32, ex32, e⟩ := bs e
                  refine V_iaload (q := 174) X (TB.get tb_X9_merges 101 rfl) rfl ex32 ?_
                  refine V_icmp_ne (q := 177) (t := 213) X (TB.get tb_X9_merges 102 rfl) rfl rfl (fun hc => ?_) (fun hc => ?_)
                  · have e := (if_neg hc).symm.trans e
                    refine V_sub (lv' := [(0, .ref a0), (1, .int a1), (2, .int w3), (3, .int v6), (4, .int x9), (5, .int w10), (6, .int w12), (7, .int w14), (8, .int w16)]) [1, 2, 3, 4, 5, 6, 7, 8, 0] rfl ?_
                    exact Jj30 e
                  · have e := (if_pos hc).symm.trans e
                    refine V_iload (q := 179) X (TB.get tb_X9_merges 103 rfl) rfl rfl ?_
                    refine V_aload_n (q := 180) X (TB.get tb_X9_merges 104 rfl) rfl rfl rfl ?_
                    obtain ⟨x33, ex33, e⟩ := bs e
                    refine V_getR (q := 183) X (TB.get tb_X9_merges 105 rfl) rfl lf_RX9_52 ex33 ?_
                    refine V_iload (q := 185) X (TB.get tb_X9_merges 106 rfl) rfl rfl ?_
                    obtain ⟨x34, ex34, e⟩ := bs e
                    refine V_iaload (q := 186) X (TB.get tb_X9_merges 107 rfl) rfl ex34 ?_
                    refine V_icmp_ne (q := 189) (t := 213) X (TB.get tb_X9_merges 108 rfl) rfl rfl (fun hc => ?_) (fun hc => ?_)
                    · have e := (if_neg hc).symm.trans e
                      refine V_sub (lv' := [(0, .ref a0), (1, .int a1), (2, .int w3), (3, .int v6), (4, .int x9), (5, .int w10), (6, .int w12), (7, .int w14), (8, .int w16)]) [1, 2, 3, 4, 5, 6, 7, 8, 0] rfl ?_
                      exact Jj30 e
                    · have e := (if_pos hc).symm.trans e
                      refine V_iload (q := 191) X (TB.get tb_X9_merges 109 rfl) rfl rfl ?_
                      refine V_aload_n (q := 192) X (TB.get tb_X9_merges 110 rfl) rfl rfl rfl ?_
                      obtain ⟨x35, ex35, e⟩ := bs e
                      refine V_getR (q := 195) X (TB.get tb_X9_merges 111 rfl) rfl lf_RX9_55 ex35 ?_
                      refine V_iload (q := 197) X (TB.get tb_X9_merges 112 rfl) rfl rfl ?_
                      obtain ⟨x36, ex36, e⟩ := bs e
                      refine V_iaload (q := 198) X (TB.get tb_X9_merges 113 rfl) rfl ex36 ?_
                      refine V_icmp_ne (q := 201) (t := 213) X (TB.get tb_X9_merges 114 rfl) rfl rfl (fun hc => ?_) (fun hc => ?_)
                      · have e := (if_neg hc).symm.trans e
                        refine V_sub (lv' := [(0, .ref a0), (1, .int a1), (2, .int w3), (3, .int v6), (4, .int x9), (5, .int w10), (6, .int w12), (7, .int w14), (8, .int w16)]) [1, 2, 3, 4, 5, 6, 7, 8, 0] rfl ?_
                        exact Jj30 e
                      · have e := (if_pos hc).symm.trans e
                        refine V_iload (q := 203) X (TB.get tb_X9_merges 115 rfl) rfl rfl ?_
                        refine V_aload_n (q := 204) X (TB.get tb_X9_merges 116 rfl) rfl rfl rfl ?_
                        obtain ⟨x37, ex37, e⟩ := bs e
                        refine V_getR (q := 207) X (TB.get tb_X9_merges 117 rfl) rfl lf_RX9_58 ex37 ?_
                        refine V_iload (q := 209) X (TB.get tb_X9_merges 118 rfl) rfl rfl ?_
                        obtain ⟨x38, ex38, e⟩ := bs e
                        refine V_iaload (q := 210) X (TB.get tb_X9_merges 119 rfl) rfl ex38 ?_
                        refine V_icmp_eq (q := 213) (t := 217) X (TB.get tb_X9_merges 120 rfl) rfl rfl (fun hc => ?_) (fun hc => ?_)
                        · have e := (if_pos hc).symm.trans e
                          refine V_iconst (v := 0) (q := 218) X (TB.get tb_X9_merges 123 rfl) c_iconst_0 rfl ?_
                          refine V_sub (lv' := [(0, .ref a0), (1, .int a1), (2, .int w3), (3, .int v6), (4, .int x9), (5, .int w10), (6, .int w12), (7, .int w14), (8, .int w16)]) [1, 2, 3, 4, 5, 6, 7, 8, 0] rfl ?_
                          exact Jj20 _ e
                        · have e := (if_neg hc).symm.trans e
                          refine V_sub (lv' := [(0, .ref a0), (1, .int a1), (2, .int w3), (3, .int v6), (4, .int x9), (5, .int w10), (6, .int w12), (7, .int w14), (8, .int w16)]) [1, 2, 3, 4, 5, 6, 7, 8, 0] rfl ?_
                          exact Jj30 e
            refine V_if_eq (q := 128) (t := 137) X (TB.get tb_X9_merges 75 rfl) rfl rfl (fun hc => ?_) (fun hc => ?_)
            · have e := (if_pos hc).symm.trans e
              refine V_aload_n (q := 138) X (TB.get tb_X9_merges 81 rfl) rfl rfl rfl ?_
              obtain ⟨x39, ex39, e⟩ := bs e
              refine V_getR (q := 141) X (TB.get tb_X9_merges 82 rfl) rfl lf_RX9_58 ex39 ?_
              refine V_iload (q := 143) X (TB.get tb_X9_merges 83 rfl) rfl rfl ?_
              obtain ⟨x40, ex40, e⟩ := bs e
              refine V_iaload (q := 144) X (TB.get tb_X9_merges 84 rfl) rfl ex40 ?_
              refine V_aload_n (q := 145) X (TB.get tb_X9_merges 85 rfl) rfl rfl rfl ?_
              obtain ⟨x41, ex41, e⟩ := bs e
              refine V_getR (q := 148) X (TB.get tb_X9_merges 86 rfl) rfl lf_RX9_70 ex41 ?_
              refine V_iload_n (q := 149) X (TB.get tb_X9_merges 87 rfl) rfl rfl rfl ?_
              obtain ⟨x42, ex42, e⟩ := bs e
              refine V_iaload (q := 150) X (TB.get tb_X9_merges 88 rfl) rfl ex42 ?_
              refine V_iand (q := 151) X (TB.get tb_X9_merges 89 rfl) rfl ?_
              refine V_sub (lv' := [(0, .ref a0), (1, .int a1), (2, .int w3), (3, .int v6), (4, .int x9), (5, .int w10), (6, .int w12), (7, .int w14)]) [1, 2, 3, 4, 5, 6, 7, 0] rfl ?_
              exact Jj17 _ e
            · have e := (if_neg hc).symm.trans e
              refine V_aload_n (q := 129) X (TB.get tb_X9_merges 76 rfl) rfl rfl rfl ?_
              obtain ⟨x43, ex43, e⟩ := bs e
              refine V_getR (q := 132) X (TB.get tb_X9_merges 77 rfl) rfl lf_RX9_70 ex43 ?_
              refine V_iload_n (q := 133) X (TB.get tb_X9_merges 78 rfl) rfl rfl rfl ?_
              obtain ⟨x44, ex44, e⟩ := bs e
              refine V_iaload (q := 134) X (TB.get tb_X9_merges 79 rfl) rfl ex44 ?_
              refine V_goto (q := 151) X (TB.get tb_X9_merges 80 rfl) rfl ?_
              refine V_sub (lv' := [(0, .ref a0), (1, .int a1), (2, .int w3), (3, .int v6), (4, .int x9), (5, .int w10), (6, .int w12), (7, .int w14)]) [1, 2, 3, 4, 5, 6, 7, 0] rfl ?_
              exact Jj17 _ e
          refine V_if_eq (q := 99) (t := 108) X (TB.get tb_X9_merges 58 rfl) rfl rfl (fun hc => ?_) (fun hc => ?_)
          · have e := (if_pos hc).symm.trans e
            refine V_aload_n (q := 109) X (TB.get tb_X9_merges 64 rfl) rfl rfl rfl ?_
            obtain ⟨x45, ex45, e⟩ := bs e
            refine V_getR (q := 112) X (TB.get tb_X9_merges 65 rfl) rfl lf_RX9_55 ex45 ?_
            refine V_iload (q := 114) X (TB.get tb_X9_merges 66 rfl) rfl rfl ?_
            obtain ⟨x46, ex46, e⟩ := bs e
            refine V_iaload (q := 115) X (TB.get tb_X9_merges 67 rfl) rfl ex46 ?_
            refine V_aload_n (q := 116) X (TB.get tb_X9_merges 68 rfl) rfl rfl rfl ?_
            obtain ⟨x47, ex47, e⟩ := bs e
            refine V_getR (q := 119) X (TB.get tb_X9_merges 69 rfl) rfl lf_RX9_67 ex47 ?_
            refine V_iload_n (q := 120) X (TB.get tb_X9_merges 70 rfl) rfl rfl rfl ?_
            obtain ⟨x48, ex48, e⟩ := bs e
            refine V_iaload (q := 121) X (TB.get tb_X9_merges 71 rfl) rfl ex48 ?_
            refine V_ior (q := 122) X (TB.get tb_X9_merges 72 rfl) rfl ?_
            refine V_sub (lv' := [(0, .ref a0), (1, .int a1), (2, .int w3), (3, .int v6), (4, .int x9), (5, .int w10), (6, .int w12)]) [1, 2, 3, 4, 5, 6, 0] rfl ?_
            exact Jj15 _ e
          · have e := (if_neg hc).symm.trans e
            refine V_aload_n (q := 100) X (TB.get tb_X9_merges 59 rfl) rfl rfl rfl ?_
            obtain ⟨x49, ex49, e⟩ := bs e
            refine V_getR (q := 103) X (TB.get tb_X9_merges 60 rfl) rfl lf_RX9_67 ex49 ?_
            refine V_iload_n (q := 104) X (TB.get tb_X9_merges 61 rfl) rfl rfl rfl ?_
            obtain ⟨x50, ex50, e⟩ := bs e
            refine V_iaload (q := 105) X (TB.get tb_X9_merges 62 rfl) rfl ex50 ?_
            refine V_goto (q := 122) X (TB.get tb_X9_merges 63 rfl) rfl ?_
            refine V_sub (lv' := [(0, .ref a0), (1, .int a1), (2, .int w3), (3, .int v6), (4, .int x9), (5, .int w10), (6, .int w12)]) [1, 2, 3, 4, 5, 6, 0] rfl ?_
            exact Jj15 _ e
        refine V_if_eq (q := 70) (t := 79) X (TB.get tb_X9_merges 41 rfl) rfl rfl (fun hc => ?_) (fun hc => ?_)
        · have e := (if_pos hc).symm.trans e
          refine V_aload_n (q := 80) X (TB.get tb_X9_merges 47 rfl) rfl rfl rfl ?_
          obtain ⟨x51, ex51, e⟩ := bs e
          refine V_getR (q := 83) X (TB.get tb_X9_merges 48 rfl) rfl lf_RX9_52 ex51 ?_
          refine V_iload (q := 85) X (TB.get tb_X9_merges 49 rfl) rfl rfl ?_
          obtain ⟨x52, ex52, e⟩ := bs e
          refine V_iaload (q := 86) X (TB.get tb_X9_merges 50 rfl) rfl ex52 ?_
          refine V_aload_n (q := 87) X (TB.get tb_X9_merges 51 rfl) rfl rfl rfl ?_
          obtain ⟨x53, ex53, e⟩ := bs e
          refine V_getR (q := 90) X (TB.get tb_X9_merges 52 rfl) rfl lf_RX9_64 ex53 ?_
          refine V_iload_n (q := 91) X (TB.get tb_X9_merges 53 rfl) rfl rfl rfl ?_
          obtain ⟨x54, ex54, e⟩ := bs e
          refine V_iaload (q := 92) X (TB.get tb_X9_merges 54 rfl) rfl ex54 ?_
          refine V_ior (q := 93) X (TB.get tb_X9_merges 55 rfl) rfl ?_
          refine V_sub (lv' := [(0, .ref a0), (1, .int a1), (2, .int w3), (3, .int v6), (4, .int x9), (5, .int w10)]) [1, 2, 3, 4, 5, 0] rfl ?_
          exact Jj13 _ e
        · have e := (if_neg hc).symm.trans e
          refine V_aload_n (q := 71) X (TB.get tb_X9_merges 42 rfl) rfl rfl rfl ?_
          obtain ⟨x55, ex55, e⟩ := bs e
          refine V_getR (q := 74) X (TB.get tb_X9_merges 43 rfl) rfl lf_RX9_64 ex55 ?_
          refine V_iload_n (q := 75) X (TB.get tb_X9_merges 44 rfl) rfl rfl rfl ?_
          obtain ⟨x56, ex56, e⟩ := bs e
          refine V_iaload (q := 76) X (TB.get tb_X9_merges 45 rfl) rfl ex56 ?_
          refine V_goto (q := 93) X (TB.get tb_X9_merges 46 rfl) rfl ?_
          refine V_sub (lv' := [(0, .ref a0), (1, .int a1), (2, .int w3), (3, .int v6), (4, .int x9), (5, .int w10)]) [1, 2, 3, 4, 5, 0] rfl ?_
          exact Jj13 _ e
      refine V_if_eq (q := 41) (t := 50) X (TB.get tb_X9_merges 24 rfl) rfl rfl (fun hc => ?_) (fun hc => ?_)
      · have e := (if_pos hc).symm.trans e
        refine V_aload_n (q := 51) X (TB.get tb_X9_merges 30 rfl) rfl rfl rfl ?_
        obtain ⟨x57, ex57, e⟩ := bs e
        refine V_getR (q := 54) X (TB.get tb_X9_merges 31 rfl) rfl lf_RX9_49 ex57 ?_
        refine V_iload (q := 56) X (TB.get tb_X9_merges 32 rfl) rfl rfl ?_
        obtain ⟨x58, ex58, e⟩ := bs e
        refine V_iaload (q := 57) X (TB.get tb_X9_merges 33 rfl) rfl ex58 ?_
        refine V_aload_n (q := 58) X (TB.get tb_X9_merges 34 rfl) rfl rfl rfl ?_
        obtain ⟨x59, ex59, e⟩ := bs e
        refine V_getR (q := 61) X (TB.get tb_X9_merges 35 rfl) rfl lf_RX9_61 ex59 ?_
        refine V_iload_n (q := 62) X (TB.get tb_X9_merges 36 rfl) rfl rfl rfl ?_
        obtain ⟨x60, ex60, e⟩ := bs e
        refine V_iaload (q := 63) X (TB.get tb_X9_merges 37 rfl) rfl ex60 ?_
        refine V_ior (q := 64) X (TB.get tb_X9_merges 38 rfl) rfl ?_
        refine V_sub (lv' := [(0, .ref a0), (1, .int a1), (2, .int w3), (3, .int v6), (4, .int x9)]) [1, 2, 3, 4, 0] rfl ?_
        exact Jj11 _ e
      · have e := (if_neg hc).symm.trans e
        refine V_aload_n (q := 42) X (TB.get tb_X9_merges 25 rfl) rfl rfl rfl ?_
        obtain ⟨x61, ex61, e⟩ := bs e
        refine V_getR (q := 45) X (TB.get tb_X9_merges 26 rfl) rfl lf_RX9_61 ex61 ?_
        refine V_iload_n (q := 46) X (TB.get tb_X9_merges 27 rfl) rfl rfl rfl ?_
        obtain ⟨x62, ex62, e⟩ := bs e
        refine V_iaload (q := 47) X (TB.get tb_X9_merges 28 rfl) rfl ex62 ?_
        refine V_goto (q := 64) X (TB.get tb_X9_merges 29 rfl) rfl ?_
        refine V_sub (lv' := [(0, .ref a0), (1, .int a1), (2, .int w3), (3, .int v6), (4, .int x9)]) [1, 2, 3, 4, 0] rfl ?_
        exact Jj11 _ e
  refine V_if_ne (q := 9) (t := 13) X (TB.get tb_X9_merges 4 rfl) rfl rfl (fun hc => ?_) (fun hc => ?_)
  · have e := (if_neg hc).symm.trans e
    refine V_iconst (v := 0) (q := 14) X (TB.get tb_X9_merges 7 rfl) c_iconst_0 rfl ?_
    exact Jj4 _ e
  · have e := (if_pos hc).symm.trans e
    refine V_iconst (v := 1) (q := 10) X (TB.get tb_X9_merges 5 rfl) c_iconst_1 rfl ?_
    refine V_goto (q := 14) X (TB.get tb_X9_merges 6 rfl) rfl ?_
    exact Jj4 _ e
set_option maxRecDepth 100000 in
set_option maxHeartbeats 4000000 in
theorem ok_X9_frees (fu : Nat) (a0 : Nat) (a1 : Int32) (h : Hp) (res : Hp) (e : MX9_frees fu a0 a1 h = some res) : CK yX9_frees cX9_frees 3 none 0 [.ref a0, .int a1] h none res ∧ (h.1 a0).1 = 9 := by
  obtain ⟨hcl, e⟩ := h_g_inv e
  refine ⟨CK_of pn_RX9 cm_X9_frees (Nat.le_of_ble_eq_true rfl) ?_, hcl⟩
  intro l D tc B nn p en s m args below meth c X hr hlk
  replace X : CX p (rmD 0) s m args c cX9_frees 3 RX9 D tc 0 := X
  show V p l en (rmD 0) s m args below meth c 3 D tc B nn (Ar B nn) s.heap 0 0 (MQ below (QC D tc B nn (Ar B nn) none res) args s 0 0 (Ar B nn)) h 0 [(0, .ref a0), (1, .int a1)] []
  refine V_iconst (v := 0) (q := 1) X (TB.get tb_X9_frees 0 rfl) c_iconst_0 rfl ?_
  refine V_istore_n (q := 2) (lv' := [(2, .int (0 : Int32)), (0, .ref a0), (1, .int a1)]) X (TB.get tb_X9_frees 1 rfl) rfl rfl (Nat.le_of_ble_eq_true rfl) rfl ?_
  refine jn_elim (P := (fun (k : Hp → Option (Hp)) => ∀ (h1 : Hp), k h1 = some res → V p l en (rmD 0) s m args below meth c 3 D tc B nn (Ar B nn) s.heap 0 0 (MQ below (QC D tc B nn (Ar B nn) none res) args s 0 0 (Ar B nn)) h1 42 [(0, .ref a0), (1, .int a1)] [])) e ?_ (fun j2 Jj2 e => ?_)
  · intro h1 e
    refine V_aload_n (q := 43) X (TB.get tb_X9_frees 31 rfl) rfl rfl rfl ?_
    obtain ⟨x3, ex3, e⟩ := bs e
    refine V_getR (q := 46) X (TB.get tb_X9_frees 32 rfl) rfl lf_RX9_67 ex3 ?_
    refine V_iload_n (q := 47) X (TB.get tb_X9_frees 33 rfl) rfl rfl rfl ?_
    refine V_iconst (v := 0) (q := 48) X (TB.get tb_X9_frees 34 rfl) c_iconst_0 rfl ?_
    obtain ⟨h4, eh4, e⟩ := bs e
    refine V_iastore (q := 49) X (TB.get tb_X9_frees 35 rfl) rfl eh4 ?_
    refine V_aload_n (q := 50) X (TB.get tb_X9_frees 36 rfl) rfl rfl rfl ?_
    obtain ⟨x5, ex5, e⟩ := bs e
    refine V_getR (q := 53) X (TB.get tb_X9_frees 37 rfl) rfl lf_RX9_70 ex5 ?_
    refine V_iload_n (q := 54) X (TB.get tb_X9_frees 38 rfl) rfl rfl rfl ?_
    refine V_iconst (v := 0) (q := 55) X (TB.get tb_X9_frees 39 rfl) c_iconst_0 rfl ?_
    obtain ⟨h6, eh6, e⟩ := bs e
    refine V_iastore (q := 56) X (TB.get tb_X9_frees 40 rfl) rfl eh6 ?_
    cases e
    exact V_vret X hr hlk (TB.get tb_X9_frees 41 rfl)
  refine V_sub (lv' := [(0, .ref a0), (1, .int a1), (2, .int (0 : Int32))]) [1, 2, 0] rfl ?_
  refine wh2_elim (P := fun v7 h8 => V p l en (rmD 0) s m args below meth c 3 D tc B nn (Ar B nn) s.heap 0 0 (MQ below (QC D tc B nn (Ar B nn) none res) args s 0 0 (Ar B nn)) h8 2 [(0, .ref a0), (1, .int a1), (2, .int v7)] []) (f := fu) ?_ e
  intro self9 v7 h8 ihself9 e
  unfold MX9_frees_B2 at e
  refine V_iload_n (q := 3) X (TB.get tb_X9_frees 2 rfl) rfl rfl rfl ?_
  refine V_bipush (v := 6) (q := 5) X (TB.get tb_X9_frees 3 rfl) c_bipush_6 rfl ?_
  refine V_icmp_ge (q := 8) (t := 42) X (TB.get tb_X9_frees 4 rfl) rfl rfl (fun hc => ?_) (fun hc => ?_)
  · have e := (if_pos hc).symm.trans e
    refine V_sub (lv' := [(0, .ref a0), (1, .int a1)]) [0, 1] rfl ?_
    exact Jj2 _ e
  · have e := (if_neg hc).symm.trans e
    refine V_aload_n (q := 9) X (TB.get tb_X9_frees 5 rfl) rfl rfl rfl ?_
    obtain ⟨x10, ex10, e⟩ := bs e
    refine V_getR (q := 12) X (TB.get tb_X9_frees 6 rfl) rfl lf_RX9_67 ex10 ?_
    refine V_iload_n (q := 13) X (TB.get tb_X9_frees 7 rfl) rfl rfl rfl ?_
    refine V_dup2 (q := 14) X (TB.get tb_X9_frees 8 rfl) rfl rfl rfl ?_
    obtain ⟨x11, ex11, e⟩ := bs e
    refine V_iaload (q := 15) X (TB.get tb_X9_frees 9 rfl) rfl ex11 ?_
    refine V_iconst (v := 1) (q := 16) X (TB.get tb_X9_frees 10 rfl) c_iconst_1 rfl ?_
    refine V_iload_n (q := 17) X (TB.get tb_X9_frees 11 rfl) rfl rfl rfl ?_
    refine V_ishl (q := 18) X (TB.get tb_X9_frees 12 rfl) rfl ?_
    refine V_iconst (v := -1) (q := 19) X (TB.get tb_X9_frees 13 rfl) c_iconst_m1 rfl ?_
    refine V_ixor (q := 20) X (TB.get tb_X9_frees 14 rfl) rfl ?_
    refine V_iand (q := 21) X (TB.get tb_X9_frees 15 rfl) rfl ?_
    obtain ⟨h12, eh12, e⟩ := bs e
    refine V_iastore (q := 22) X (TB.get tb_X9_frees 16 rfl) rfl eh12 ?_
    refine V_aload_n (q := 23) X (TB.get tb_X9_frees 17 rfl) rfl rfl rfl ?_
    obtain ⟨x13, ex13, e⟩ := bs e
    refine V_getR (q := 26) X (TB.get tb_X9_frees 18 rfl) rfl lf_RX9_70 ex13 ?_
    refine V_iload_n (q := 27) X (TB.get tb_X9_frees 19 rfl) rfl rfl rfl ?_
    refine V_dup2 (q := 28) X (TB.get tb_X9_frees 20 rfl) rfl rfl rfl ?_
    obtain ⟨x14, ex14, e⟩ := bs e
    refine V_iaload (q := 29) X (TB.get tb_X9_frees 21 rfl) rfl ex14 ?_
    refine V_iconst (v := 1) (q := 30) X (TB.get tb_X9_frees 22 rfl) c_iconst_1 rfl ?_
    refine V_iload_n (q := 31) X (TB.get tb_X9_frees 23 rfl) rfl rfl rfl ?_
    refine V_ishl (q := 32) X (TB.get tb_X9_frees 24 rfl) rfl ?_
    refine V_iconst (v := -1) (q := 33) X (TB.get tb_X9_frees 25 rfl) c_iconst_m1 rfl ?_
    refine V_ixor (q := 34) X (TB.get tb_X9_frees 26 rfl) rfl ?_
    refine V_iand (q := 35) X (TB.get tb_X9_frees 27 rfl) rfl ?_
    obtain ⟨h15, eh15, e⟩ := bs e
    refine V_iastore (q := 36) X (TB.get tb_X9_frees 28 rfl) rfl eh15 ?_
    refine V_iinc (q := 39) (v := v7 + (1 : Int32)) (lv' := [(2, .int (v7 + (1 : Int32))), (0, .ref a0), (1, .int a1)]) X (TB.get tb_X9_frees 29 rfl) rfl rfl (by rw [c_iconst_1]) (Nat.le_of_ble_eq_true rfl) rfl ?_
    refine V_goto (q := 2) X (TB.get tb_X9_frees 30 rfl) rfl ?_
    refine V_sub (lv' := [(0, .ref a0), (1, .int a1), (2, .int (v7 + (1 : Int32)))]) [1, 2, 0] rfl ?_
    exact ihself9 _ _ e
set_option maxRecDepth 100000 in
set_option maxHeartbeats 4000000 in
theorem ok_X9_empties (fu : Nat) (a0 : Nat) (a1 : Int32) (h : Hp) (res : Hp) (e : MX9_empties fu a0 a1 h = some res) : CK yX9_empties cX9_empties 2 none 1 [.ref a0, .int a1] h none res ∧ (h.1 a0).1 = 9 := by
  obtain ⟨hcl, e⟩ := h_g_inv e
  refine ⟨CK_of pn_RX9 cm_X9_empties (Nat.le_of_ble_eq_true rfl) ?_, hcl⟩
  intro l D tc B nn p en s m args below meth c X hr hlk
  replace X : CX p (rmD 1) s m args c cX9_empties 2 RX9 D tc 1 := X
  show V p l en (rmD 1) s m args below meth c 2 D tc B nn (Ar B nn) s.heap 0 0 (MQ below (QC D tc B nn (Ar B nn) none res) args s 0 0 (Ar B nn)) h 0 [(0, .ref a0), (1, .int a1)] []
  refine V_aload_n (q := 1) X (TB.get tb_X9_empties 0 rfl) rfl rfl rfl ?_
  refine V_iload_n (q := 2) X (TB.get tb_X9_empties 1 rfl) rfl rfl rfl ?_
  obtain ⟨h1, eh1, e⟩ := bs e
  refine V_callV (q := 5) (As := [.int a1]) (rest := []) (st' := []) X (TB.get tb_X9_empties 2 rfl) rfl cv_RX9_335 (ok_X9_frees fu a0 a1 h h1 eh1).1 (ok_X9_frees fu a0 a1 h h1 eh1).2 (Nat.le_of_ble_eq_true rfl) rfl rfl (Nat.le_of_ble_eq_true rfl) rfl ?_
  refine V_aload_n (q := 6) X (TB.get tb_X9_empties 3 rfl) rfl rfl rfl ?_
  obtain ⟨x2, ex2, e⟩ := bs e
  refine V_getR (q := 9) X (TB.get tb_X9_empties 4 rfl) rfl lf_RX9_61 ex2 ?_
  refine V_iload_n (q := 10) X (TB.get tb_X9_empties 5 rfl) rfl rfl rfl ?_
  refine V_iconst (v := 1) (q := 11) X (TB.get tb_X9_empties 6 rfl) c_iconst_1 rfl ?_
  obtain ⟨h3, eh3, e⟩ := bs e
  refine V_iastore (q := 12) X (TB.get tb_X9_empties 7 rfl) rfl eh3 ?_
  refine V_aload_n (q := 13) X (TB.get tb_X9_empties 8 rfl) rfl rfl rfl ?_
  obtain ⟨x4, ex4, e⟩ := bs e
  refine V_getR (q := 16) X (TB.get tb_X9_empties 9 rfl) rfl lf_RX9_64 ex4 ?_
  refine V_iload_n (q := 17) X (TB.get tb_X9_empties 10 rfl) rfl rfl rfl ?_
  refine V_iconst (v := 0) (q := 18) X (TB.get tb_X9_empties 11 rfl) c_iconst_0 rfl ?_
  obtain ⟨h5, eh5, e⟩ := bs e
  refine V_iastore (q := 19) X (TB.get tb_X9_empties 12 rfl) rfl eh5 ?_
  cases e
  exact V_vret X hr hlk (TB.get tb_X9_empties 13 rfl)
set_option maxRecDepth 100000 in
set_option maxHeartbeats 4000000 in
theorem ok_X9_joins (fu : Nat) (a0 : Nat) (a1 : Int32) (a2 : Int32) (a3 : Int32) (h : Hp) (res : Hp) (e : MX9_joins fu a0 a1 a2 a3 h = some res) : CK yX9_joins cX9_joins 5 none 1 [.ref a0, .int a1, .int a2, .int a3] h none res ∧ (h.1 a0).1 = 9 := by
  obtain ⟨hcl, e⟩ := h_g_inv e
  refine ⟨CK_of pn_RX9 cm_X9_joins (Nat.le_of_ble_eq_true rfl) ?_, hcl⟩
  intro l D tc B nn p en s m args below meth c X hr hlk
  replace X : CX p (rmD 1) s m args c cX9_joins 5 RX9 D tc 1 := X
  show V p l en (rmD 1) s m args below meth c 5 D tc B nn (Ar B nn) s.heap 0 0 (MQ below (QC D tc B nn (Ar B nn) none res) args s 0 0 (Ar B nn)) h 0 [(0, .ref a0), (1, .int a1), (2, .int a2), (3, .int a3)] []
  refine V_aload_n (q := 1) X (TB.get tb_X9_joins 0 rfl) rfl rfl rfl ?_
  refine V_iload_n (q := 2) X (TB.get tb_X9_joins 1 rfl) rfl rfl rfl ?_
  obtain ⟨h1, eh1, e⟩ := bs e
  refine V_callV (q := 5) (As := [.int a1]) (rest := []) (st' := []) X (TB.get tb_X9_joins 2 rfl) rfl cv_RX9_335 (ok_X9_frees fu a0 a1 h h1 eh1).1 (ok_X9_frees fu a0 a1 h h1 eh1).2 (Nat.le_of_ble_eq_true rfl) rfl rfl (Nat.le_of_ble_eq_true rfl) rfl ?_
  refine V_aload_n (q := 6) X (TB.get tb_X9_joins 3 rfl) rfl rfl rfl ?_
  obtain ⟨x2, ex2, e⟩ := bs e
  refine V_getR (q := 9) X (TB.get tb_X9_joins 4 rfl) rfl lf_RX9_67 ex2 ?_
  refine V_iload_n (q := 10) X (TB.get tb_X9_joins 5 rfl) rfl rfl rfl ?_
  refine V_aload_n (q := 11) X (TB.get tb_X9_joins 6 rfl) rfl rfl rfl ?_
  refine V_getR (q := 14) X (TB.get tb_X9_joins 7 rfl) rfl lf_RX9_67 ex2 ?_
  refine V_iload_n (q := 15) X (TB.get tb_X9_joins 8 rfl) rfl rfl rfl ?_
  obtain ⟨x3, ex3, e⟩ := bs e
  refine V_iaload (q := 16) X (TB.get tb_X9_joins 9 rfl) rfl ex3 ?_
  refine V_iload_n (q := 17) X (TB.get tb_X9_joins 10 rfl) rfl rfl rfl ?_
  refine jn_elim (P := (fun (k : Int32 → Option (Hp)) => ∀ (w4 : Int32), k w4 = some res → V p l en (rmD 1) s m args below meth c 5 D tc B nn (Ar B nn) s.heap 0 0 (MQ below (QC D tc B nn (Ar B nn) none res) args s 0 0 (Ar B nn)) h1 27 [(0, .ref a0), (1, .int a1), (2, .int a2), (3, .int a3)] [.int w4, .int x3, .int a1, .ref x2])) e ?_ (fun j5 Jj5 e => ?_)
  · intro w4 e
    refine V_ior (q := 28) X (TB.get tb_X9_joins 17 rfl) rfl ?_
    obtain ⟨h6, eh6, e⟩ := bs e
    refine V_iastore (q := 29) X (TB.get tb_X9_joins 18 rfl) rfl eh6 ?_
    refine V_aload_n (q := 30) X (TB.get tb_X9_joins 19 rfl) rfl rfl rfl ?_
    obtain ⟨x7, ex7, e⟩ := bs e
    refine V_getR (q := 33) X (TB.get tb_X9_joins 20 rfl) rfl lf_RX9_70 ex7 ?_
    refine V_iload_n (q := 34) X (TB.get tb_X9_joins 21 rfl) rfl rfl rfl ?_
    refine V_aload_n (q := 35) X (TB.get tb_X9_joins 22 rfl) rfl rfl rfl ?_
    refine V_getR (q := 38) X (TB.get tb_X9_joins 23 rfl) rfl lf_RX9_70 ex7 ?_
    refine V_iload_n (q := 39) X (TB.get tb_X9_joins 24 rfl) rfl rfl rfl ?_
    obtain ⟨x8, ex8, e⟩ := bs e
    refine V_iaload (q := 40) X (TB.get tb_X9_joins 25 rfl) rfl ex8 ?_
    refine V_iload_n (q := 41) X (TB.get tb_X9_joins 26 rfl) rfl rfl rfl ?_
    refine jn_elim (P := (fun (k : Int32 → Option (Hp)) => ∀ (w9 : Int32), k w9 = some res → V p l en (rmD 1) s m args below meth c 5 D tc B nn (Ar B nn) s.heap 0 0 (MQ below (QC D tc B nn (Ar B nn) none res) args s 0 0 (Ar B nn)) h6 51 [(0, .ref a0), (1, .int a1), (2, .int a2)] [.int w9, .int x8, .int a1, .ref x7])) e ?_ (fun j10 Jj10 e => ?_)
    · intro w9 e
      refine V_ior (q := 52) X (TB.get tb_X9_joins 33 rfl) rfl ?_
      obtain ⟨h11, eh11, e⟩ := bs e
      refine V_iastore (q := 53) X (TB.get tb_X9_joins 34 rfl) rfl eh11 ?_
      refine V_iconst (v := 0) (q := 54) X (TB.get tb_X9_joins 35 rfl) c_iconst_0 rfl ?_
      refine V_istore (q := 56) (lv' := [(4, .int (0 : Int32)), (0, .ref a0), (1, .int a1), (2, .int a2)]) X (TB.get tb_X9_joins 36 rfl) rfl (Nat.le_of_ble_eq_true rfl) rfl ?_
      refine jn_elim (P := (fun (k : Hp → Option (Hp)) => ∀ (h12 : Hp), k h12 = some res → V p l en (rmD 1) s m args below meth c 5 D tc B nn (Ar B nn) s.heap 0 0 (MQ below (QC D tc B nn (Ar B nn) none res) args s 0 0 (Ar B nn)) h12 123 [(0, .ref a0), (1, .int a1), (2, .int a2)] [])) e ?_ (fun j13 Jj13 e => ?_)
      · intro h12 e
        refine V_aload_n (q := 124) X (TB.get tb_X9_joins 76 rfl) rfl rfl rfl ?_
        obtain ⟨x14, ex14, e⟩ := bs e
        refine V_getR (q := 127) X (TB.get tb_X9_joins 77 rfl) rfl lf_RX9_64 ex14 ?_
        refine V_iload_n (q := 128) X (TB.get tb_X9_joins 78 rfl) rfl rfl rfl ?_
        refine V_aload_n (q := 129) X (TB.get tb_X9_joins 79 rfl) rfl rfl rfl ?_
        refine V_getR (q := 132) X (TB.get tb_X9_joins 80 rfl) rfl lf_RX9_64 ex14 ?_
        refine V_iload_n (q := 133) X (TB.get tb_X9_joins 81 rfl) rfl rfl rfl ?_
        obtain ⟨x15, ex15, e⟩ := bs e
        refine V_iaload (q := 134) X (TB.get tb_X9_joins 82 rfl) rfl ex15 ?_
        obtain ⟨h16, eh16, e⟩ := bs e
        refine V_iastore (q := 135) X (TB.get tb_X9_joins 83 rfl) rfl eh16 ?_
        cases e
        exact V_vret X hr hlk (TB.get tb_X9_joins 84 rfl)
      refine V_sub (lv' := [(0, .ref a0), (1, .int a1), (2, .int a2), (4, .int (0 : Int32))]) [1, 2, 3, 0] rfl ?_
      refine wh2_elim (P := fun v17 h18 => V p l en (rmD 1) s m args below meth c 5 D tc B nn (Ar B nn) s.heap 0 0 (MQ below (QC D tc B nn (Ar B nn) none res) args s 0 0 (Ar B nn)) h18 56 [(0, .ref a0), (1, .int a1), (2, .int a2), (4, .int v17)] []) (f := fu) ?_ e
      intro self19 v17 h18 ihself19 e
      unfold MX9_joins_B56 at e
      refine V_iload (q := 58) X (TB.get tb_X9_joins 37 rfl) rfl rfl ?_
      refine V_bipush (v := 6) (q := 60) X (TB.get tb_X9_joins 38 rfl) c_bipush_6 rfl ?_
      refine V_icmp_ge (q := 63) (t := 123) X (TB.get tb_X9_joins 39 rfl) rfl rfl (fun hc => ?_) (fun hc => ?_)
      · have e := (if_pos hc).symm.trans e
        refine V_sub (lv' := [(0, .ref a0), (1, .int a1), (2, .int a2)]) [0, 1, 2] rfl ?_
        exact Jj13 _ e
      · have e := (if_neg hc).symm.trans e
        refine V_aload_n (q := 64) X (TB.get tb_X9_joins 40 rfl) rfl rfl rfl ?_
        obtain ⟨x20, ex20, e⟩ := bs e
        refine V_getR (q := 67) X (TB.get tb_X9_joins 41 rfl) rfl lf_RX9_67 ex20 ?_
        refine V_iload_n (q := 68) X (TB.get tb_X9_joins 42 rfl) rfl rfl rfl ?_
        obtain ⟨x21, ex21, e⟩ := bs e
        refine V_iaload (q := 69) X (TB.get tb_X9_joins 43 rfl) rfl ex21 ?_
        refine V_iload (q := 71) X (TB.get tb_X9_joins 44 rfl) rfl rfl ?_
        obtain ⟨x22, ex22, e⟩ := bs e
        refine V_callS (q := 74) (As := [.int x21, .int v17]) (rest := []) (st' := [.int x22]) X (TB.get tb_X9_joins 45 rfl) rfl cs_RX9_258 (ok_X9_has x21 v17 h18 x22 ex22) (Nat.le_of_ble_eq_true rfl) rfl rfl (Nat.le_of_ble_eq_true rfl) rfl ?_
        refine jn_elim (P := (fun (k : Hp → Option (Hp)) => ∀ (h23 : Hp), k h23 = some res → V p l en (rmD 1) s m args below meth c 5 D tc B nn (Ar B nn) s.heap 0 0 (MQ below (QC D tc B nn (Ar B nn) none res) args s 0 0 (Ar B nn)) h23 90 [(0, .ref a0), (1, .int a1), (2, .int a2), (4, .int v17)] [])) e ?_ (fun j24 Jj24 e => ?_)
        · intro h23 e
          refine V_aload_n (q := 91) X (TB.get tb_X9_joins 57 rfl) rfl rfl rfl ?_
          obtain ⟨x25, ex25, e⟩ := bs e
          refine V_getR (q := 94) X (TB.get tb_X9_joins 58 rfl) rfl lf_RX9_70 ex25 ?_
          refine V_iload_n (q := 95) X (TB.get tb_X9_joins 59 rfl) rfl rfl rfl ?_
          obtain ⟨x26, ex26, e⟩ := bs e
          refine V_iaload (q := 96) X (TB.get tb_X9_joins 60 rfl) rfl ex26 ?_
          refine V_iload (q := 98) X (TB.get tb_X9_joins 61 rfl) rfl rfl ?_
          obtain ⟨x27, ex27, e⟩ := bs e
          refine V_callS (q := 101) (As := [.int x26, .int v17]) (rest := []) (st' := [.int x27]) X (TB.get tb_X9_joins 62 rfl) rfl cs_RX9_258 (ok_X9_has x26 v17 h23 x27 ex27) (Nat.le_of_ble_eq_true rfl) rfl rfl (Nat.le_of_ble_eq_true rfl) rfl ?_
          refine jn_elim (P := (fun (k : Hp → Option (Hp)) => ∀ (h28 : Hp), k h28 = some res → V p l en (rmD 1) s m args below meth c 5 D tc B nn (Ar B nn) s.heap 0 0 (MQ below (QC D tc B nn (Ar B nn) none res) args s 0 0 (Ar B nn)) h28 117 [(0, .ref a0), (1, .int a1), (2, .int a2), (4, .int v17)] [])) e ?_ (fun j29 Jj29 e => ?_)
          · intro h28 e
            refine V_iinc (q := 120) (v := v17 + (1 : Int32)) (lv' := [(4, .int (v17 + (1 : Int32))), (0, .ref a0), (1, .int a1), (2, .int a2)]) X (TB.get tb_X9_joins 74 rfl) rfl rfl (by rw [c_iconst_1]) (Nat.le_of_ble_eq_true rfl) rfl ?_
            refine V_goto (q := 56) X (TB.get tb_X9_joins 75 rfl) rfl ?_
            refine V_sub (lv' := [(0, .ref a0), (1, .int a1), (2, .int a2), (4, .int (v17 + (1 : Int32)))]) [1, 2, 3, 0] rfl ?_
            exact ihself19 _ _ e
          refine V_if_eq (q := 104) (t := 117) X (TB.get tb_X9_joins 63 rfl) rfl rfl (fun hc => ?_) (fun hc => ?_)
          · have e := (if_pos hc).symm.trans e
            exact Jj29 _ e
          · have e := (if_neg hc).symm.trans e
            refine V_aload_n (q := 105) X (TB.get tb_X9_joins 64 rfl) rfl rfl rfl ?_
            refine V_getR (q := 108) X (TB.get tb_X9_joins 65 rfl) rfl lf_RX9_70 ex25 ?_
            refine V_iload (q := 110) X (TB.get tb_X9_joins 66 rfl) rfl rfl ?_
            refine V_dup2 (q := 111) X (TB.get tb_X9_joins 67 rfl) rfl rfl rfl ?_
            obtain ⟨x30, ex30, e⟩ := bs e
            refine V_iaload (q := 112) X (TB.get tb_X9_joins 68 rfl) rfl ex30 ?_
            refine V_iconst (v := 1) (q := 113) X (TB.get tb_X9_joins 69 rfl) c_iconst_1 rfl ?_
            refine V_iload_n (q := 114) X (TB.get tb_X9_joins 70 rfl) rfl rfl rfl ?_
            refine V_ishl (q := 115) X (TB.get tb_X9_joins 71 rfl) rfl ?_
            refine V_ior (q := 116) X (TB.get tb_X9_joins 72 rfl) rfl ?_
            obtain ⟨h31, eh31, e⟩ := bs e
            refine V_iastore (q := 117) X (TB.get tb_X9_joins 73 rfl) rfl eh31 ?_
            exact Jj29 _ e
        refine V_if_eq (q := 77) (t := 90) X (TB.get tb_X9_joins 46 rfl) rfl rfl (fun hc => ?_) (fun hc => ?_)
        · have e := (if_pos hc).symm.trans e
          exact Jj24 _ e
        · have e := (if_neg hc).symm.trans e
          refine V_aload_n (q := 78) X (TB.get tb_X9_joins 47 rfl) rfl rfl rfl ?_
          refine V_getR (q := 81) X (TB.get tb_X9_joins 48 rfl) rfl lf_RX9_67 ex20 ?_
          refine V_iload (q := 83) X (TB.get tb_X9_joins 49 rfl) rfl rfl ?_
          refine V_dup2 (q := 84) X (TB.get tb_X9_joins 50 rfl) rfl rfl rfl ?_
          obtain ⟨x32, ex32, e⟩ := bs e
          refine V_iaload (q := 85) X (TB.get tb_X9_joins 51 rfl) rfl ex32 ?_
          refine V_iconst (v := 1) (q := 86) X (TB.get tb_X9_joins 52 rfl) c_iconst_1 rfl ?_
          refine V_iload_n (q := 87) X (TB.get tb_X9_joins 53 rfl) rfl rfl rfl ?_
          refine V_ishl (q := 88) X (TB.get tb_X9_joins 54 rfl) rfl ?_
          refine V_ior (q := 89) X (TB.get tb_X9_joins 55 rfl) rfl ?_
          obtain ⟨h33, eh33, e⟩ := bs e
          refine V_iastore (q := 90) X (TB.get tb_X9_joins 56 rfl) rfl eh33 ?_
          exact Jj24 _ e
    refine V_if_eq (q := 44) (t := 50) X (TB.get tb_X9_joins 27 rfl) rfl rfl (fun hc => ?_) (fun hc => ?_)
    · have e := (if_pos hc).symm.trans e
      refine V_iconst (v := 0) (q := 51) X (TB.get tb_X9_joins 32 rfl) c_iconst_0 rfl ?_
      refine V_sub (lv' := [(0, .ref a0), (1, .int a1), (2, .int a2)]) [0, 1, 2] rfl ?_
      exact Jj10 _ e
    · have e := (if_neg hc).symm.trans e
      refine V_iconst (v := 1) (q := 45) X (TB.get tb_X9_joins 28 rfl) c_iconst_1 rfl ?_
      refine V_iload_n (q := 46) X (TB.get tb_X9_joins 29 rfl) rfl rfl rfl ?_
      refine V_ishl (q := 47) X (TB.get tb_X9_joins 30 rfl) rfl ?_
      refine V_goto (q := 51) X (TB.get tb_X9_joins 31 rfl) rfl ?_
      refine V_sub (lv' := [(0, .ref a0), (1, .int a1), (2, .int a2)]) [0, 1, 2] rfl ?_
      exact Jj10 _ e
  refine V_if_eq (q := 20) (t := 26) X (TB.get tb_X9_joins 11 rfl) rfl rfl (fun hc => ?_) (fun hc => ?_)
  · have e := (if_pos hc).symm.trans e
    refine V_iconst (v := 0) (q := 27) X (TB.get tb_X9_joins 16 rfl) c_iconst_0 rfl ?_
    exact Jj5 _ e
  · have e := (if_neg hc).symm.trans e
    refine V_iconst (v := 1) (q := 21) X (TB.get tb_X9_joins 12 rfl) c_iconst_1 rfl ?_
    refine V_iload_n (q := 22) X (TB.get tb_X9_joins 13 rfl) rfl rfl rfl ?_
    refine V_ishl (q := 23) X (TB.get tb_X9_joins 14 rfl) rfl ?_
    refine V_goto (q := 27) X (TB.get tb_X9_joins 15 rfl) rfl ?_
    exact Jj5 _ e
set_option maxRecDepth 100000 in
set_option maxHeartbeats 4000000 in
theorem ok_X9_goes (fu : Nat) (a0 : Nat) (a1 : Int32) (h : Hp) (res : Hp) (e : MX9_goes fu a0 a1 h = some res) : CK yX9_goes cX9_goes 4 none 2 [.ref a0, .int a1] h none res ∧ (h.1 a0).1 = 9 := by
  obtain ⟨hcl, e⟩ := h_g_inv e
  refine ⟨CK_of pn_RX9 cm_X9_goes (Nat.le_of_ble_eq_true rfl) ?_, hcl⟩
  intro l D tc B nn p en s m args below meth c X hr hlk
  replace X : CX p (rmD 2) s m args c cX9_goes 4 RX9 D tc 2 := X
  show V p l en (rmD 2) s m args below meth c 4 D tc B nn (Ar B nn) s.heap 0 0 (MQ below (QC D tc B nn (Ar B nn) none res) args s 0 0 (Ar B nn)) h 0 [(0, .ref a0), (1, .int a1)] []
  refine V_aload_n (q := 1) X (TB.get tb_X9_goes 0 rfl) rfl rfl rfl ?_
  obtain ⟨x1, ex1, e⟩ := bs e
  refine V_getR (q := 4) X (TB.get tb_X9_goes 1 rfl) rfl lf_RX9_13 ex1 ?_
  refine V_sipush (v := 373) (q := 7) X (TB.get tb_X9_goes 2 rfl) c_sipush_373 rfl ?_
  refine V_iload_n (q := 8) X (TB.get tb_X9_goes 3 rfl) rfl rfl rfl ?_
  refine V_iadd (q := 9) X (TB.get tb_X9_goes 4 rfl) rfl ?_
  obtain ⟨x2, ex2, e⟩ := bs e
  refine V_iaload (q := 10) X (TB.get tb_X9_goes 5 rfl) rfl ex2 ?_
  refine V_istore_n (q := 11) (lv' := [(2, .int x2), (0, .ref a0), (1, .int a1)]) X (TB.get tb_X9_goes 6 rfl) rfl rfl (Nat.le_of_ble_eq_true rfl) rfl ?_
  refine V_aload_n (q := 12) X (TB.get tb_X9_goes 7 rfl) rfl rfl rfl ?_
  refine V_getR (q := 15) X (TB.get tb_X9_goes 8 rfl) rfl lf_RX9_13 ex1 ?_
  refine V_sipush (v := 413) (q := 18) X (TB.get tb_X9_goes 9 rfl) c_sipush_413 rfl ?_
  refine V_iload_n (q := 19) X (TB.get tb_X9_goes 10 rfl) rfl rfl rfl ?_
  refine V_iadd (q := 20) X (TB.get tb_X9_goes 11 rfl) rfl ?_
  obtain ⟨x3, ex3, e⟩ := bs e
  refine V_iaload (q := 21) X (TB.get tb_X9_goes 12 rfl) rfl ex3 ?_
  refine V_istore_n (q := 22) (lv' := [(3, .int x3), (2, .int x2), (0, .ref a0), (1, .int a1)]) X (TB.get tb_X9_goes 13 rfl) rfl rfl (Nat.le_of_ble_eq_true rfl) rfl ?_
  refine V_aload_n (q := 23) X (TB.get tb_X9_goes 14 rfl) rfl rfl rfl ?_
  refine V_iload_n (q := 24) X (TB.get tb_X9_goes 15 rfl) rfl rfl rfl ?_
  obtain ⟨x4, ex4, e⟩ := bs e
  refine V_callV (q := 27) (As := [.int a1]) (rest := []) (st' := [.int x4]) X (TB.get tb_X9_goes 16 rfl) rfl cv_RX9_304 (ok_X9_sortAt a0 a1 h x4 ex4).1 (ok_X9_sortAt a0 a1 h x4 ex4).2 (Nat.le_of_ble_eq_true rfl) rfl rfl (Nat.le_of_ble_eq_true rfl) rfl ?_
  by_cases hc0 : x4 = (0 : Int32)
  · have e := (if_pos hc0).symm.trans e
    rw [hc0]
    refine V_tabIn (q := 60) X (TB.get tb_X9_goes 17 rfl) (by decide) (by decide) rfl rfl ?_
    refine V_aload_n (q := 61) X (TB.get tb_X9_goes 18 rfl) rfl rfl rfl ?_
    refine V_iload_n (q := 62) X (TB.get tb_X9_goes 19 rfl) rfl rfl rfl ?_
    obtain ⟨h5, eh5, e⟩ := bs e
    refine V_callV (q := 65) (As := [.int x2]) (rest := []) (st' := []) X (TB.get tb_X9_goes 20 rfl) rfl cv_RX9_338 (ok_X9_empties fu a0 x2 h h5 eh5).1 (ok_X9_empties fu a0 x2 h h5 eh5).2 (Nat.le_of_ble_eq_true rfl) rfl rfl (Nat.le_of_ble_eq_true rfl) rfl ?_
    refine V_aload_n (q := 66) X (TB.get tb_X9_goes 21 rfl) rfl rfl rfl ?_
    obtain ⟨x6, ex6, e⟩ := bs e
    refine V_getR (q := 69) X (TB.get tb_X9_goes 22 rfl) rfl lf_RX9_61 ex6 ?_
    refine V_iload_n (q := 70) X (TB.get tb_X9_goes 23 rfl) rfl rfl rfl ?_
    refine V_bipush (v := 8) (q := 72) X (TB.get tb_X9_goes 24 rfl) c_bipush_8 rfl ?_
    obtain ⟨h7, eh7, e⟩ := bs e
    refine V_iastore (q := 73) X (TB.get tb_X9_goes 25 rfl) rfl eh7 ?_
    refine V_aload_n (q := 74) X (TB.get tb_X9_goes 26 rfl) rfl rfl rfl ?_
    obtain ⟨x8, ex8, e⟩ := bs e
    refine V_getR (q := 77) X (TB.get tb_X9_goes 27 rfl) rfl lf_RX9_64 ex8 ?_
    refine V_iload_n (q := 78) X (TB.get tb_X9_goes 28 rfl) rfl rfl rfl ?_
    refine V_iconst (v := 1) (q := 79) X (TB.get tb_X9_goes 29 rfl) c_iconst_1 rfl ?_
    obtain ⟨h9, eh9, e⟩ := bs e
    refine V_iastore (q := 80) X (TB.get tb_X9_goes 30 rfl) rfl eh9 ?_
    refine V_goto (q := 273) X (TB.get tb_X9_goes 31 rfl) rfl ?_
    cases e
    exact V_vret X hr hlk (TB.get tb_X9_goes 151 rfl)
  have e := (if_neg hc0).symm.trans e
  by_cases hc1 : x4 = (1 : Int32)
  · have e := (if_pos hc1).symm.trans e
    rw [hc1]
    refine V_tabIn (q := 83) X (TB.get tb_X9_goes 17 rfl) (by decide) (by decide) rfl rfl ?_
    refine V_aload_n (q := 84) X (TB.get tb_X9_goes 32 rfl) rfl rfl rfl ?_
    refine V_iload_n (q := 85) X (TB.get tb_X9_goes 33 rfl) rfl rfl rfl ?_
    refine V_iload_n (q := 86) X (TB.get tb_X9_goes 34 rfl) rfl rfl rfl ?_
    refine V_iconst (v := 0) (q := 87) X (TB.get tb_X9_goes 35 rfl) c_iconst_0 rfl ?_
    obtain ⟨h10, eh10, e⟩ := bs e
    refine V_callV (q := 90) (As := [.int x2, .int x3, .int (0 : Int32)]) (rest := []) (st' := []) X (TB.get tb_X9_goes 36 rfl) rfl cv_RX9_341 (ok_X9_joins fu a0 x2 x3 (0 : Int32) h h10 eh10).1 (ok_X9_joins fu a0 x2 x3 (0 : Int32) h h10 eh10).2 (Nat.le_of_ble_eq_true rfl) rfl rfl (Nat.le_of_ble_eq_true rfl) rfl ?_
    refine V_aload_n (q := 91) X (TB.get tb_X9_goes 37 rfl) rfl rfl rfl ?_
    obtain ⟨x11, ex11, e⟩ := bs e
    refine V_getR (q := 94) X (TB.get tb_X9_goes 38 rfl) rfl lf_RX9_61 ex11 ?_
    refine V_iload_n (q := 95) X (TB.get tb_X9_goes 39 rfl) rfl rfl rfl ?_
    refine V_aload_n (q := 96) X (TB.get tb_X9_goes 40 rfl) rfl rfl rfl ?_
    refine V_getR (q := 99) X (TB.get tb_X9_goes 41 rfl) rfl lf_RX9_61 ex11 ?_
    refine V_iload_n (q := 100) X (TB.get tb_X9_goes 42 rfl) rfl rfl rfl ?_
    obtain ⟨x12, ex12, e⟩ := bs e
    refine V_iaload (q := 101) X (TB.get tb_X9_goes 43 rfl) rfl ex12 ?_
    obtain ⟨h13, eh13, e⟩ := bs e
    refine V_iastore (q := 102) X (TB.get tb_X9_goes 44 rfl) rfl eh13 ?_
    refine V_aload_n (q := 103) X (TB.get tb_X9_goes 45 rfl) rfl rfl rfl ?_
    refine V_iload_n (q := 104) X (TB.get tb_X9_goes 46 rfl) rfl rfl rfl ?_
    obtain ⟨h14, eh14, e⟩ := bs e
    refine V_callV (q := 107) (As := [.int x3]) (rest := []) (st' := []) X (TB.get tb_X9_goes 47 rfl) rfl cv_RX9_338 (ok_X9_empties fu a0 x3 h13 h14 eh14).1 (ok_X9_empties fu a0 x3 h13 h14 eh14).2 (Nat.le_of_ble_eq_true rfl) rfl rfl (Nat.le_of_ble_eq_true rfl) rfl ?_
    refine V_goto (q := 273) X (TB.get tb_X9_goes 48 rfl) rfl ?_
    cases e
    exact V_vret X hr hlk (TB.get tb_X9_goes 151 rfl)
  have e := (if_neg hc1).symm.trans e
  by_cases hc2 : x4 = (2 : Int32)
  · have e := (if_pos hc2).symm.trans e
    rw [hc2]
    refine V_tabIn (q := 110) X (TB.get tb_X9_goes 17 rfl) (by decide) (by decide) rfl rfl ?_
    refine V_aload_n (q := 111) X (TB.get tb_X9_goes 49 rfl) rfl rfl rfl ?_
    refine V_iload_n (q := 112) X (TB.get tb_X9_goes 50 rfl) rfl rfl rfl ?_
    refine V_iload_n (q := 113) X (TB.get tb_X9_goes 51 rfl) rfl rfl rfl ?_
    refine V_iconst (v := 1) (q := 114) X (TB.get tb_X9_goes 52 rfl) c_iconst_1 rfl ?_
    obtain ⟨h15, eh15, e⟩ := bs e
    refine V_callV (q := 117) (As := [.int x2, .int x3, .int (1 : Int32)]) (rest := []) (st' := []) X (TB.get tb_X9_goes 53 rfl) rfl cv_RX9_341 (ok_X9_joins fu a0 x2 x3 (1 : Int32) h h15 eh15).1 (ok_X9_joins fu a0 x2 x3 (1 : Int32) h h15 eh15).2 (Nat.le_of_ble_eq_true rfl) rfl rfl (Nat.le_of_ble_eq_true rfl) rfl ?_
    refine V_aload_n (q := 118) X (TB.get tb_X9_goes 54 rfl) rfl rfl rfl ?_
    obtain ⟨x16, ex16, e⟩ := bs e
    refine V_getR (q := 121) X (TB.get tb_X9_goes 55 rfl) rfl lf_RX9_61 ex16 ?_
    refine V_iload_n (q := 122) X (TB.get tb_X9_goes 56 rfl) rfl rfl rfl ?_
    refine V_iconst (v := 4) (q := 123) X (TB.get tb_X9_goes 57 rfl) c_iconst_4 rfl ?_
    refine V_aload_n (q := 124) X (TB.get tb_X9_goes 58 rfl) rfl rfl rfl ?_
    refine V_getR (q := 127) X (TB.get tb_X9_goes 59 rfl) rfl lf_RX9_61 ex16 ?_
    refine V_iload_n (q := 128) X (TB.get tb_X9_goes 60 rfl) rfl rfl rfl ?_
    obtain ⟨x17, ex17, e⟩ := bs e
    refine V_iaload (q := 129) X (TB.get tb_X9_goes 61 rfl) rfl ex17 ?_
    refine V_iconst (v := 1) (q := 130) X (TB.get tb_X9_goes 62 rfl) c_iconst_1 rfl ?_
    refine V_iand (q := 131) X (TB.get tb_X9_goes 63 rfl) rfl ?_
    refine V_ior (q := 132) X (TB.get tb_X9_goes 64 rfl) rfl ?_
    obtain ⟨h18, eh18, e⟩ := bs e
    refine V_iastore (q := 133) X (TB.get tb_X9_goes 65 rfl) rfl eh18 ?_
    refine V_aload_n (q := 134) X (TB.get tb_X9_goes 66 rfl) rfl rfl rfl ?_
    obtain ⟨x19, ex19, e⟩ := bs e
    refine V_getR (q := 137) X (TB.get tb_X9_goes 67 rfl) rfl lf_RX9_61 ex19 ?_
    refine V_iload_n (q := 138) X (TB.get tb_X9_goes 68 rfl) rfl rfl rfl ?_
    refine V_aload_n (q := 139) X (TB.get tb_X9_goes 69 rfl) rfl rfl rfl ?_
    refine V_getR (q := 142) X (TB.get tb_X9_goes 70 rfl) rfl lf_RX9_61 ex19 ?_
    refine V_iload_n (q := 143) X (TB.get tb_X9_goes 71 rfl) rfl rfl rfl ?_
    obtain ⟨x20, ex20, e⟩ := bs e
    refine V_iaload (q := 144) X (TB.get tb_X9_goes 72 rfl) rfl ex20 ?_
    obtain ⟨h21, eh21, e⟩ := bs e
    refine V_iastore (q := 145) X (TB.get tb_X9_goes 73 rfl) rfl eh21 ?_
    refine V_goto (q := 273) X (TB.get tb_X9_goes 74 rfl) rfl ?_
    cases e
    exact V_vret X hr hlk (TB.get tb_X9_goes 151 rfl)
  have e := (if_neg hc2).symm.trans e
  by_cases hc3 : x4 = (3 : Int32)
  · have e := (if_pos hc3).symm.trans e
    rw [hc3]
    refine V_tabIn (q := 148) X (TB.get tb_X9_goes 17 rfl) (by decide) (by decide) rfl rfl ?_
    refine V_aload_n (q := 149) X (TB.get tb_X9_goes 75 rfl) rfl rfl rfl ?_
    refine V_iload_n (q := 150) X (TB.get tb_X9_goes 76 rfl) rfl rfl rfl ?_
    refine V_iload_n (q := 151) X (TB.get tb_X9_goes 77 rfl) rfl rfl rfl ?_
    refine V_iconst (v := 1) (q := 152) X (TB.get tb_X9_goes 78 rfl) c_iconst_1 rfl ?_
    obtain ⟨h22, eh22, e⟩ := bs e
    refine V_callV (q := 155) (As := [.int x2, .int x3, .int (1 : Int32)]) (rest := []) (st' := []) X (TB.get tb_X9_goes 79 rfl) rfl cv_RX9_341 (ok_X9_joins fu a0 x2 x3 (1 : Int32) h h22 eh22).1 (ok_X9_joins fu a0 x2 x3 (1 : Int32) h h22 eh22).2 (Nat.le_of_ble_eq_true rfl) rfl rfl (Nat.le_of_ble_eq_true rfl) rfl ?_
    refine V_aload_n (q := 156) X (TB.get tb_X9_goes 80 rfl) rfl rfl rfl ?_
    obtain ⟨x23, ex23, e⟩ := bs e
    refine V_getR (q := 159) X (TB.get tb_X9_goes 81 rfl) rfl lf_RX9_61 ex23 ?_
    refine V_iload_n (q := 160) X (TB.get tb_X9_goes 82 rfl) rfl rfl rfl ?_
    refine V_iconst (v := 2) (q := 161) X (TB.get tb_X9_goes 83 rfl) c_iconst_2 rfl ?_
    refine V_aload_n (q := 162) X (TB.get tb_X9_goes 84 rfl) rfl rfl rfl ?_
    refine V_getR (q := 165) X (TB.get tb_X9_goes 85 rfl) rfl lf_RX9_61 ex23 ?_
    refine V_iload_n (q := 166) X (TB.get tb_X9_goes 86 rfl) rfl rfl rfl ?_
    obtain ⟨x24, ex24, e⟩ := bs e
    refine V_iaload (q := 167) X (TB.get tb_X9_goes 87 rfl) rfl ex24 ?_
    refine V_iconst (v := 1) (q := 168) X (TB.get tb_X9_goes 88 rfl) c_iconst_1 rfl ?_
    refine V_iand (q := 169) X (TB.get tb_X9_goes 89 rfl) rfl ?_
    refine V_ior (q := 170) X (TB.get tb_X9_goes 90 rfl) rfl ?_
    obtain ⟨h25, eh25, e⟩ := bs e
    refine V_iastore (q := 171) X (TB.get tb_X9_goes 91 rfl) rfl eh25 ?_
    refine V_aload_n (q := 172) X (TB.get tb_X9_goes 92 rfl) rfl rfl rfl ?_
    obtain ⟨x26, ex26, e⟩ := bs e
    refine V_getR (q := 175) X (TB.get tb_X9_goes 93 rfl) rfl lf_RX9_61 ex26 ?_
    refine V_iload_n (q := 176) X (TB.get tb_X9_goes 94 rfl) rfl rfl rfl ?_
    refine V_aload_n (q := 177) X (TB.get tb_X9_goes 95 rfl) rfl rfl rfl ?_
    refine V_getR (q := 180) X (TB.get tb_X9_goes 96 rfl) rfl lf_RX9_61 ex26 ?_
    refine V_iload_n (q := 181) X (TB.get tb_X9_goes 97 rfl) rfl rfl rfl ?_
    obtain ⟨x27, ex27, e⟩ := bs e
    refine V_iaload (q := 182) X (TB.get tb_X9_goes 98 rfl) rfl ex27 ?_
    refine V_iconst (v := 3) (q := 183) X (TB.get tb_X9_goes 99 rfl) c_iconst_3 rfl ?_
    obtain ⟨x28, ex28, e⟩ := bs e
    refine V_callS (q := 186) (As := [.int x27, .int (3 : Int32)]) (rest := [.int x3, .ref x26]) (st' := [.int x28, .int x3, .ref x26]) X (TB.get tb_X9_goes 100 rfl) rfl cs_RX9_258 (ok_X9_has x27 (3 : Int32) h25 x28 ex28) (Nat.le_of_ble_eq_true rfl) rfl rfl (Nat.le_of_ble_eq_true rfl) rfl ?_
    refine jn_elim (P := (fun (k : Int32 → Option (Hp)) => ∀ (w29 : Int32), k w29 = some res → V p l en (rmD 2) s m args below meth c 4 D tc B nn (Ar B nn) s.heap 0 0 (MQ below (QC D tc B nn (Ar B nn) none res) args s 0 0 (Ar B nn)) h25 209 [] [.int w29, .int x3, .ref x26])) e ?_ (fun j30 Jj30 e => ?_)
    · intro w29 e
      obtain ⟨h31, eh31, e⟩ := bs e
      refine V_iastore (q := 210) X (TB.get tb_X9_goes 115 rfl) rfl eh31 ?_
      refine V_goto (q := 273) X (TB.get tb_X9_goes 116 rfl) rfl ?_
      cases e
      exact V_vret X hr hlk (TB.get tb_X9_goes 151 rfl)
    refine V_if_eq (q := 189) (t := 203) X (TB.get tb_X9_goes 101 rfl) rfl rfl (fun hc => ?_) (fun hc => ?_)
    · have e := (if_pos hc).symm.trans e
      refine V_aload_n (q := 204) X (TB.get tb_X9_goes 111 rfl) rfl rfl rfl ?_
      refine V_getR (q := 207) X (TB.get tb_X9_goes 112 rfl) rfl lf_RX9_61 ex26 ?_
      refine V_iload_n (q := 208) X (TB.get tb_X9_goes 113 rfl) rfl rfl rfl ?_
      refine V_iaload (q := 209) X (TB.get tb_X9_goes 114 rfl) rfl ex27 ?_
      refine V_sub (lv' := []) [] rfl ?_
      exact Jj30 _ e
    · have e := (if_neg hc).symm.trans e
      refine V_aload_n (q := 190) X (TB.get tb_X9_goes 102 rfl) rfl rfl rfl ?_
      refine V_getR (q := 193) X (TB.get tb_X9_goes 103 rfl) rfl lf_RX9_61 ex26 ?_
      refine V_iload_n (q := 194) X (TB.get tb_X9_goes 104 rfl) rfl rfl rfl ?_
      refine V_iaload (q := 195) X (TB.get tb_X9_goes 105 rfl) rfl ex27 ?_
      refine V_bipush (v := 7) (q := 197) X (TB.get tb_X9_goes 106 rfl) c_bipush_7 rfl ?_
      refine V_iand (q := 198) X (TB.get tb_X9_goes 107 rfl) rfl ?_
      refine V_iconst (v := 2) (q := 199) X (TB.get tb_X9_goes 108 rfl) c_iconst_2 rfl ?_
      refine V_ior (q := 200) X (TB.get tb_X9_goes 109 rfl) rfl ?_
      refine V_goto (q := 209) X (TB.get tb_X9_goes 110 rfl) rfl ?_
      refine V_sub (lv' := []) [] rfl ?_
      exact Jj30 _ e
  have e := (if_neg hc3).symm.trans e
  by_cases hc4 : x4 = (4 : Int32)
  · have e := (if_pos hc4).symm.trans e
    rw [hc4]
    refine V_tabIn (q := 213) X (TB.get tb_X9_goes 17 rfl) (by decide) (by decide) rfl rfl ?_
    refine V_aload_n (q := 214) X (TB.get tb_X9_goes 117 rfl) rfl rfl rfl ?_
    refine V_iload_n (q := 215) X (TB.get tb_X9_goes 118 rfl) rfl rfl rfl ?_
    obtain ⟨h32, eh32, e⟩ := bs e
    refine V_callV (q := 218) (As := [.int x3]) (rest := []) (st' := []) X (TB.get tb_X9_goes 119 rfl) rfl cv_RX9_338 (ok_X9_empties fu a0 x3 h h32 eh32).1 (ok_X9_empties fu a0 x3 h h32 eh32).2 (Nat.le_of_ble_eq_true rfl) rfl rfl (Nat.le_of_ble_eq_true rfl) rfl ?_
    refine V_aload_n (q := 219) X (TB.get tb_X9_goes 120 rfl) rfl rfl rfl ?_
    obtain ⟨x33, ex33, e⟩ := bs e
    refine V_getR (q := 222) X (TB.get tb_X9_goes 121 rfl) rfl lf_RX9_61 ex33 ?_
    refine V_iload_n (q := 223) X (TB.get tb_X9_goes 122 rfl) rfl rfl rfl ?_
    refine V_aload_n (q := 224) X (TB.get tb_X9_goes 123 rfl) rfl rfl rfl ?_
    obtain ⟨x34, ex34, e⟩ := bs e
    refine V_getR (q := 227) X (TB.get tb_X9_goes 124 rfl) rfl lf_RX9_67 ex34 ?_
    refine V_iload_n (q := 228) X (TB.get tb_X9_goes 125 rfl) rfl rfl rfl ?_
    obtain ⟨x35, ex35, e⟩ := bs e
    refine V_iaload (q := 229) X (TB.get tb_X9_goes 126 rfl) rfl ex35 ?_
    refine jn_elim (P := (fun (k : Int32 → Option (Hp)) => ∀ (w36 : Int32), k w36 = some res → V p l en (rmD 2) s m args below meth c 4 D tc B nn (Ar B nn) s.heap 0 0 (MQ below (QC D tc B nn (Ar B nn) none res) args s 0 0 (Ar B nn)) h32 264 [] [.int w36, .int x2, .ref x33])) e ?_ (fun j37 Jj37 e => ?_)
    · intro w36 e
      obtain ⟨h38, eh38, e⟩ := bs e
      refine V_iastore (q := 265) X (TB.get tb_X9_goes 146 rfl) rfl eh38 ?_
      refine V_goto (q := 273) X (TB.get tb_X9_goes 147 rfl) rfl ?_
      cases e
      exact V_vret X hr hlk (TB.get tb_X9_goes 151 rfl)
    refine V_if_ne (q := 232) (t := 237) X (TB.get tb_X9_goes 127 rfl) rfl rfl (fun hc => ?_) (fun hc => ?_)
    · have e := (if_neg hc).symm.trans e
      refine V_aload_n (q := 238) X (TB.get tb_X9_goes 130 rfl) rfl rfl rfl ?_
      obtain ⟨x39, ex39, e⟩ := bs e
      refine V_getR (q := 241) X (TB.get tb_X9_goes 131 rfl) rfl lf_RX9_70 ex39 ?_
      refine V_iload_n (q := 242) X (TB.get tb_X9_goes 132 rfl) rfl rfl rfl ?_
      obtain ⟨x40, ex40, e⟩ := bs e
      refine V_iaload (q := 243) X (TB.get tb_X9_goes 133 rfl) rfl ex40 ?_
      refine V_if_ne (q := 246) (t := 258) X (TB.get tb_X9_goes 134 rfl) rfl rfl (fun hc => ?_) (fun hc => ?_)
      · have e := (if_neg hc).symm.trans e
        refine V_aload_n (q := 259) X (TB.get tb_X9_goes 142 rfl) rfl rfl rfl ?_
        refine V_getR (q := 262) X (TB.get tb_X9_goes 143 rfl) rfl lf_RX9_61 ex33 ?_
        refine V_iload_n (q := 263) X (TB.get tb_X9_goes 144 rfl) rfl rfl rfl ?_
        obtain ⟨x41, ex41, e⟩ := bs e
        refine V_iaload (q := 264) X (TB.get tb_X9_goes 145 rfl) rfl ex41 ?_
        refine V_sub (lv' := []) [] rfl ?_
        exact Jj37 _ e
      · have e := (if_pos hc).symm.trans e
        refine V_aload_n (q := 247) X (TB.get tb_X9_goes 135 rfl) rfl rfl rfl ?_
        refine V_getR (q := 250) X (TB.get tb_X9_goes 136 rfl) rfl lf_RX9_61 ex33 ?_
        refine V_iload_n (q := 251) X (TB.get tb_X9_goes 137 rfl) rfl rfl rfl ?_
        obtain ⟨x42, ex42, e⟩ := bs e
        refine V_iaload (q := 252) X (TB.get tb_X9_goes 138 rfl) rfl ex42 ?_
        refine V_bipush (v := 8) (q := 254) X (TB.get tb_X9_goes 139 rfl) c_bipush_8 rfl ?_
        refine V_ior (q := 255) X (TB.get tb_X9_goes 140 rfl) rfl ?_
        refine V_goto (q := 264) X (TB.get tb_X9_goes 141 rfl) rfl ?_
        refine V_sub (lv' := []) [] rfl ?_
        exact Jj37 _ e
    · have e := (if_pos hc).symm.trans e
      refine V_bipush (v := 8) (q := 234) X (TB.get tb_X9_goes 128 rfl) c_bipush_8 rfl ?_
      refine V_goto (q := 264) X (TB.get tb_X9_goes 129 rfl) rfl ?_
      refine V_sub (lv' := []) [] rfl ?_
      exact Jj37 _ e
  have e := (if_neg hc4).symm.trans e
  have hout : x4.toInt < 0 ∨ 4 < x4.toInt := tab_out x4 (0) (4) [0, 1, 2, 3, 4] (by decide +kernel) (fun v hv => by simp only [List.mem_cons, List.not_mem_nil, or_false] at hv; rcases hv with rfl | rfl | rfl | rfl | rfl <;> assumption)
  refine V_tabOut (q := 268) X (TB.get tb_X9_goes 17 rfl) hout rfl ?_
  refine V_aload_n (q := 269) X (TB.get tb_X9_goes 148 rfl) rfl rfl rfl ?_
  refine V_iload_n (q := 270) X (TB.get tb_X9_goes 149 rfl) rfl rfl rfl ?_
  obtain ⟨h43, eh43, e⟩ := bs e
  refine V_callV (q := 273) (As := [.int x2]) (rest := []) (st' := []) X (TB.get tb_X9_goes 150 rfl) rfl cv_RX9_338 (ok_X9_empties fu a0 x2 h h43 eh43).1 (ok_X9_empties fu a0 x2 h h43 eh43).2 (Nat.le_of_ble_eq_true rfl) rfl rfl (Nat.le_of_ble_eq_true rfl) rfl ?_
  cases e
  exact V_vret X hr hlk (TB.get tb_X9_goes 151 rfl)
set_option maxRecDepth 100000 in
set_option maxHeartbeats 4000000 in
theorem ok_X9_imageOf (fu : Nat) (a0 : Nat) (a1 : Int32) (a2 : Int32) (a3 : Int32) (a4 : Int32) (h : Hp) (res : Int32) (e : MX9_imageOf fu a0 a1 a2 a3 a4 h = some res) : CK yX9_imageOf cX9_imageOf 7 (some .int) 4 [.ref a0, .int a1, .int a2, .int a3, .int a4] h (some (.int res)) h ∧ (h.1 a0).1 = 9 := by
  obtain ⟨hcl, e⟩ := h_g_inv e
  refine ⟨CK_of pn_RX9 cm_X9_imageOf (Nat.le_of_ble_eq_true rfl) ?_, hcl⟩
  intro l D tc B nn p en s m args below meth c X hr hlk
  replace X : CX p (rmD 4) s m args c cX9_imageOf 7 RX9 D tc 4 := X
  show V p l en (rmD 4) s m args below meth c 7 D tc B nn (Ar B nn) s.heap 0 0 (MQ below (QC D tc B nn (Ar B nn) (some (.int res)) h) args s 0 0 (Ar B nn)) h 0 [(0, .ref a0), (1, .int a1), (2, .int a2), (3, .int a3), (4, .int a4)] []
  refine V_iconst (v := 0) (q := 1) X (TB.get tb_X9_imageOf 0 rfl) c_iconst_0 rfl ?_
  refine V_istore (q := 3) (lv' := [(5, .int (0 : Int32)), (0, .ref a0), (1, .int a1), (2, .int a2), (3, .int a3), (4, .int a4)]) X (TB.get tb_X9_imageOf 1 rfl) rfl (Nat.le_of_ble_eq_true rfl) rfl ?_
  refine V_iconst (v := 0) (q := 4) X (TB.get tb_X9_imageOf 2 rfl) c_iconst_0 rfl ?_
  refine V_istore (q := 6) (lv' := [(6, .int (0 : Int32)), (5, .int (0 : Int32)), (0, .ref a0), (1, .int a1), (2, .int a2), (3, .int a3), (4, .int a4)]) X (TB.get tb_X9_imageOf 3 rfl) rfl (Nat.le_of_ble_eq_true rfl) rfl ?_
  refine V_sub (lv' := [(0, .ref a0), (1, .int a1), (2, .int a2), (3, .int a3), (4, .int a4), (5, .int (0 : Int32)), (6, .int (0 : Int32))]) [2, 3, 4, 5, 6, 1, 0] rfl ?_
  refine wh2_elim (P := fun v1 v2 => V p l en (rmD 4) s m args below meth c 7 D tc B nn (Ar B nn) s.heap 0 0 (MQ below (QC D tc B nn (Ar B nn) (some (.int res)) h) args s 0 0 (Ar B nn)) h 6 [(0, .ref a0), (1, .int a1), (2, .int a2), (3, .int a3), (4, .int a4), (5, .int v1), (6, .int v2)] []) (f := fu) ?_ e
  intro self3 v1 v2 ihself3 e
  unfold MX9_imageOf_B6 at e
  refine V_iload (q := 8) X (TB.get tb_X9_imageOf 4 rfl) rfl rfl ?_
  refine V_aload_n (q := 9) X (TB.get tb_X9_imageOf 5 rfl) rfl rfl rfl ?_
  obtain ⟨x4, ex4, e⟩ := bs e
  refine V_getR (q := 12) X (TB.get tb_X9_imageOf 6 rfl) rfl lf_RX9_13 ex4 ?_
  refine V_iconst (v := 3) (q := 13) X (TB.get tb_X9_imageOf 7 rfl) c_iconst_3 rfl ?_
  refine V_iload_n (q := 14) X (TB.get tb_X9_imageOf 8 rfl) rfl rfl rfl ?_
  refine V_iadd (q := 15) X (TB.get tb_X9_imageOf 9 rfl) rfl ?_
  obtain ⟨x5, ex5, e⟩ := bs e
  refine V_iaload (q := 16) X (TB.get tb_X9_imageOf 10 rfl) rfl ex5 ?_
  refine V_icmp_ge (q := 19) (t := 76) X (TB.get tb_X9_imageOf 11 rfl) rfl rfl (fun hc => ?_) (fun hc => ?_)
  · have e := (if_pos hc).symm.trans e
    refine V_iload (q := 78) X (TB.get tb_X9_imageOf 42 rfl) rfl rfl ?_
    cases e
    exact V_iret X hr hlk (TB.get tb_X9_imageOf 43 rfl)
  · have e := (if_neg hc).symm.trans e
    refine V_iload_n (q := 20) X (TB.get tb_X9_imageOf 12 rfl) rfl rfl rfl ?_
    refine V_iload (q := 22) X (TB.get tb_X9_imageOf 13 rfl) rfl rfl ?_
    obtain ⟨x6, ex6, e⟩ := bs e
    refine V_callS (q := 25) (As := [.int a3, .int v2]) (rest := []) (st' := [.int x6]) X (TB.get tb_X9_imageOf 14 rfl) rfl cs_RX9_258 (ok_X9_has a3 v2 h x6 ex6) (Nat.le_of_ble_eq_true rfl) rfl rfl (Nat.le_of_ble_eq_true rfl) rfl ?_
    refine jn_elim (P := (fun (k : Int32 → Option (Int32)) => ∀ (v7 : Int32), k v7 = some res → V p l en (rmD 4) s m args below meth c 7 D tc B nn (Ar B nn) s.heap 0 0 (MQ below (QC D tc B nn (Ar B nn) (some (.int res)) h) args s 0 0 (Ar B nn)) h 70 [(0, .ref a0), (1, .int a1), (2, .int a2), (3, .int a3), (4, .int a4), (5, .int v7), (6, .int v2)] [])) e ?_ (fun j8 Jj8 e => ?_)
    · intro v7 e
      refine V_iinc (q := 73) (v := v2 + (1 : Int32)) (lv' := [(6, .int (v2 + (1 : Int32))), (0, .ref a0), (1, .int a1), (2, .int a2), (3, .int a3), (4, .int a4), (5, .int v7)]) X (TB.get tb_X9_imageOf 40 rfl) rfl rfl (by rw [c_iconst_1]) (Nat.le_of_ble_eq_true rfl) rfl ?_
      refine V_goto (q := 6) X (TB.get tb_X9_imageOf 41 rfl) rfl ?_
      refine V_sub (lv' := [(0, .ref a0), (1, .int a1), (2, .int a2), (3, .int a3), (4, .int a4), (5, .int v7), (6, .int (v2 + (1 : Int32)))]) [1, 2, 3, 4, 5, 6, 0] rfl ?_
      exact ihself3 _ _ e
    refine V_if_eq (q := 28) (t := 70) X (TB.get tb_X9_imageOf 15 rfl) rfl rfl (fun hc => ?_) (fun hc => ?_)
    · have e := (if_pos hc).symm.trans e
      exact Jj8 _ e
    · have e := (if_neg hc).symm.trans e
      refine V_aload_n (q := 29) X (TB.get tb_X9_imageOf 16 rfl) rfl rfl rfl ?_
      refine V_iload_n (q := 30) X (TB.get tb_X9_imageOf 17 rfl) rfl rfl rfl ?_
      refine V_iload_n (q := 31) X (TB.get tb_X9_imageOf 18 rfl) rfl rfl rfl ?_
      refine V_iload (q := 33) X (TB.get tb_X9_imageOf 19 rfl) rfl rfl ?_
      obtain ⟨x9, ex9, e⟩ := bs e
      refine V_callV (q := 36) (As := [.int a1, .int a2, .int v2]) (rest := []) (st' := [.int x9]) X (TB.get tb_X9_imageOf 20 rfl) rfl cv_RX9_261 (ok_X9_canBe a0 a1 a2 v2 h x9 ex9).1 (ok_X9_canBe a0 a1 a2 v2 h x9 ex9).2 (Nat.le_of_ble_eq_true rfl) rfl rfl (Nat.le_of_ble_eq_true rfl) rfl ?_
      refine V_if_eq (q := 39) (t := 70) X (TB.get tb_X9_imageOf 21 rfl) rfl rfl (fun hc => ?_) (fun hc => ?_)
      · have e := (if_pos hc).symm.trans e
        exact Jj8 _ e
      · have e := (if_neg hc).symm.trans e
        refine V_iload (q := 41) X (TB.get tb_X9_imageOf 22 rfl) rfl rfl ?_
        refine V_iconst (v := 1) (q := 42) X (TB.get tb_X9_imageOf 23 rfl) c_iconst_1 rfl ?_
        refine V_iload (q := 44) X (TB.get tb_X9_imageOf 24 rfl) rfl rfl ?_
        refine jn_elim (P := (fun (k : Int32 → Option (Int32)) => ∀ (w10 : Int32), k w10 = some res → V p l en (rmD 4) s m args below meth c 7 D tc B nn (Ar B nn) s.heap 0 0 (MQ below (QC D tc B nn (Ar B nn) (some (.int res)) h) args s 0 0 (Ar B nn)) h 66 [(0, .ref a0), (1, .int a1), (2, .int a2), (3, .int a3), (4, .int a4), (6, .int v2)] [.int w10, .int (1 : Int32), .int v1])) e ?_ (fun j11 Jj11 e => ?_)
        · intro w10 e
          refine V_ishl (q := 67) X (TB.get tb_X9_imageOf 37 rfl) rfl ?_
          refine V_ior (q := 68) X (TB.get tb_X9_imageOf 38 rfl) rfl ?_
          refine V_istore (q := 70) (lv' := [(5, .int (v1 ||| ((1 : Int32) <<< (w10 &&& 31)))), (0, .ref a0), (1, .int a1), (2, .int a2), (3, .int a3), (4, .int a4), (6, .int v2)]) X (TB.get tb_X9_imageOf 39 rfl) rfl (Nat.le_of_ble_eq_true rfl) rfl ?_
          refine V_sub (lv' := [(0, .ref a0), (1, .int a1), (2, .int a2), (3, .int a3), (4, .int a4), (5, .int (v1 ||| ((1 : Int32) <<< (w10 &&& 31)))), (6, .int v2)]) [1, 2, 3, 4, 5, 0, 6] rfl ?_
          exact Jj8 _ e
        refine V_if_eq (q := 47) (t := 58) X (TB.get tb_X9_imageOf 25 rfl) rfl rfl (fun hc => ?_) (fun hc => ?_)
        · have e := (if_pos hc).symm.trans e
          refine V_aload_n (q := 59) X (TB.get tb_X9_imageOf 32 rfl) rfl rfl rfl ?_
          refine V_iload_n (q := 60) X (TB.get tb_X9_imageOf 33 rfl) rfl rfl rfl ?_
          refine V_iload_n (q := 61) X (TB.get tb_X9_imageOf 34 rfl) rfl rfl rfl ?_
          refine V_iload (q := 63) X (TB.get tb_X9_imageOf 35 rfl) rfl rfl ?_
          obtain ⟨x12, ex12, e⟩ := bs e
          refine V_callV (q := 66) (As := [.int a1, .int a2, .int v2]) (rest := [.int (1 : Int32), .int v1]) (st' := [.int x12, .int (1 : Int32), .int v1]) X (TB.get tb_X9_imageOf 36 rfl) rfl cv_RX9_264 (ok_X9_no a0 a1 a2 v2 h x12 ex12).1 (ok_X9_no a0 a1 a2 v2 h x12 ex12).2 (Nat.le_of_ble_eq_true rfl) rfl rfl (Nat.le_of_ble_eq_true rfl) rfl ?_
          refine V_sub (lv' := [(0, .ref a0), (1, .int a1), (2, .int a2), (3, .int a3), (4, .int a4), (6, .int v2)]) [0, 1, 2, 3, 4, 6] rfl ?_
          exact Jj11 _ e
        · have e := (if_neg hc).symm.trans e
          refine V_aload_n (q := 48) X (TB.get tb_X9_imageOf 26 rfl) rfl rfl rfl ?_
          refine V_iload_n (q := 49) X (TB.get tb_X9_imageOf 27 rfl) rfl rfl rfl ?_
          refine V_iload_n (q := 50) X (TB.get tb_X9_imageOf 28 rfl) rfl rfl rfl ?_
          refine V_iload (q := 52) X (TB.get tb_X9_imageOf 29 rfl) rfl rfl ?_
          obtain ⟨x13, ex13, e⟩ := bs e
          refine V_callV (q := 55) (As := [.int a1, .int a2, .int v2]) (rest := [.int (1 : Int32), .int v1]) (st' := [.int x13, .int (1 : Int32), .int v1]) X (TB.get tb_X9_imageOf 30 rfl) rfl cv_RX9_254 (ok_X9_yes a0 a1 a2 v2 h x13 ex13).1 (ok_X9_yes a0 a1 a2 v2 h x13 ex13).2 (Nat.le_of_ble_eq_true rfl) rfl rfl (Nat.le_of_ble_eq_true rfl) rfl ?_
          refine V_goto (q := 66) X (TB.get tb_X9_imageOf 31 rfl) rfl ?_
          refine V_sub (lv' := [(0, .ref a0), (1, .int a1), (2, .int a2), (3, .int a3), (4, .int a4), (6, .int v2)]) [0, 1, 2, 3, 4, 6] rfl ?_
          exact Jj11 _ e
set_option maxRecDepth 100000 in
set_option maxHeartbeats 4000000 in
theorem ok_X9_asks (fu : Nat) (a0 : Nat) (a1 : Int32) (a2 : Int32) (h : Hp) (res : Int32 × Hp) (e : MX9_asks fu a0 a1 a2 h = some res) : CK yX9_asks cX9_asks 8 (some .boolean) 5 [.ref a0, .int a1, .int a2] h (some (.int res.1)) res.2 ∧ (h.1 a0).1 = 9 := by
  obtain ⟨hcl, e⟩ := h_g_inv e
  refine ⟨CK_of pn_RX9 cm_X9_asks (Nat.le_of_ble_eq_true rfl) ?_, hcl⟩
  intro l D tc B nn p en s m args below meth c X hr hlk
  replace X : CX p (rmD 5) s m args c cX9_asks 8 RX9 D tc 5 := X
  show V p l en (rmD 5) s m args below meth c 8 D tc B nn (Ar B nn) s.heap 0 0 (MQ below (QC D tc B nn (Ar B nn) (some (.int res.1)) res.2) args s 0 0 (Ar B nn)) h 0 [(0, .ref a0), (1, .int a1), (2, .int a2)] []
  refine V_aload_n (q := 1) X (TB.get tb_X9_asks 0 rfl) rfl rfl rfl ?_
  obtain ⟨x1, ex1, e⟩ := bs e
  refine V_getR (q := 4) X (TB.get tb_X9_asks 1 rfl) rfl lf_RX9_13 ex1 ?_
  refine V_sipush (v := 373) (q := 7) X (TB.get tb_X9_asks 2 rfl) c_sipush_373 rfl ?_
  refine V_iload_n (q := 8) X (TB.get tb_X9_asks 3 rfl) rfl rfl rfl ?_
  refine V_iadd (q := 9) X (TB.get tb_X9_asks 4 rfl) rfl ?_
  obtain ⟨x2, ex2, e⟩ := bs e
  refine V_iaload (q := 10) X (TB.get tb_X9_asks 5 rfl) rfl ex2 ?_
  refine V_istore_n (q := 11) (lv' := [(3, .int x2), (0, .ref a0), (1, .int a1), (2, .int a2)]) X (TB.get tb_X9_asks 6 rfl) rfl rfl (Nat.le_of_ble_eq_true rfl) rfl ?_
  refine V_aload_n (q := 12) X (TB.get tb_X9_asks 7 rfl) rfl rfl rfl ?_
  refine V_getR (q := 15) X (TB.get tb_X9_asks 8 rfl) rfl lf_RX9_13 ex1 ?_
  refine V_sipush (v := 327) (q := 18) X (TB.get tb_X9_asks 9 rfl) c_sipush_327 rfl ?_
  refine V_iload_n (q := 19) X (TB.get tb_X9_asks 10 rfl) rfl rfl rfl ?_
  refine V_iadd (q := 20) X (TB.get tb_X9_asks 11 rfl) rfl ?_
  obtain ⟨x3, ex3, e⟩ := bs e
  refine V_iaload (q := 21) X (TB.get tb_X9_asks 12 rfl) rfl ex3 ?_
  refine V_istore (q := 23) (lv' := [(4, .int x3), (3, .int x2), (0, .ref a0), (1, .int a1), (2, .int a2)]) X (TB.get tb_X9_asks 13 rfl) rfl (Nat.le_of_ble_eq_true rfl) rfl ?_
  refine V_aload_n (q := 24) X (TB.get tb_X9_asks 14 rfl) rfl rfl rfl ?_
  refine V_getR (q := 27) X (TB.get tb_X9_asks 15 rfl) rfl lf_RX9_13 ex1 ?_
  refine V_sipush (v := 453) (q := 30) X (TB.get tb_X9_asks 16 rfl) c_sipush_453 rfl ?_
  refine V_iload_n (q := 31) X (TB.get tb_X9_asks 17 rfl) rfl rfl rfl ?_
  refine V_iadd (q := 32) X (TB.get tb_X9_asks 18 rfl) rfl ?_
  obtain ⟨x4, ex4, e⟩ := bs e
  refine V_iaload (q := 33) X (TB.get tb_X9_asks 19 rfl) rfl ex4 ?_
  refine V_istore (q := 35) (lv' := [(5, .int x4), (4, .int x3), (3, .int x2), (0, .ref a0), (1, .int a1), (2, .int a2)]) X (TB.get tb_X9_asks 20 rfl) rfl (Nat.le_of_ble_eq_true rfl) rfl ?_
  refine V_aload_n (q := 36) X (TB.get tb_X9_asks 21 rfl) rfl rfl rfl ?_
  refine V_iload (q := 38) X (TB.get tb_X9_asks 22 rfl) rfl rfl ?_
  refine V_iload (q := 40) X (TB.get tb_X9_asks 23 rfl) rfl rfl ?_
  refine V_aload_n (q := 41) X (TB.get tb_X9_asks 24 rfl) rfl rfl rfl ?_
  obtain ⟨x5, ex5, e⟩ := bs e
  refine V_getR (q := 44) X (TB.get tb_X9_asks 25 rfl) rfl lf_RX9_64 ex5 ?_
  refine V_iload_n (q := 45) X (TB.get tb_X9_asks 26 rfl) rfl rfl rfl ?_
  obtain ⟨x6, ex6, e⟩ := bs e
  refine V_iaload (q := 46) X (TB.get tb_X9_asks 27 rfl) rfl ex6 ?_
  refine V_iload_n (q := 47) X (TB.get tb_X9_asks 28 rfl) rfl rfl rfl ?_
  obtain ⟨x7, ex7, e⟩ := bs e
  refine V_callV (q := 50) (As := [.int x3, .int x4, .int x6, .int a2]) (rest := []) (st' := [.int x7]) X (TB.get tb_X9_asks 29 rfl) rfl cv_RX9_345 (ok_X9_imageOf fu a0 x3 x4 x6 a2 h x7 ex7).1 (ok_X9_imageOf fu a0 x3 x4 x6 a2 h x7 ex7).2 (Nat.le_of_ble_eq_true rfl) rfl rfl (Nat.le_of_ble_eq_true rfl) rfl ?_
  refine V_istore (q := 52) (lv' := [(6, .int x7), (5, .int x4), (4, .int x3), (3, .int x2), (0, .ref a0), (1, .int a1), (2, .int a2)]) X (TB.get tb_X9_asks 30 rfl) rfl (Nat.le_of_ble_eq_true rfl) rfl ?_
  refine V_iload (q := 54) X (TB.get tb_X9_asks 31 rfl) rfl rfl ?_
  refine V_if_ne (q := 57) (t := 59) X (TB.get tb_X9_asks 32 rfl) rfl rfl (fun hc => ?_) (fun hc => ?_)
  · have e := (if_neg hc).symm.trans e
    refine V_iconst (v := 0) (q := 60) X (TB.get tb_X9_asks 35 rfl) c_iconst_0 rfl ?_
    refine V_istore (q := 62) (lv' := [(7, .int (0 : Int32)), (6, .int x7), (5, .int x4), (4, .int x3), (3, .int x2), (0, .ref a0), (1, .int a1), (2, .int a2)]) X (TB.get tb_X9_asks 36 rfl) rfl (Nat.le_of_ble_eq_true rfl) rfl ?_
    refine jn_elim (P := (fun (k : Hp → Option (Int32 × Hp)) => ∀ (h8 : Hp), k h8 = some res → V p l en (rmD 5) s m args below meth c 8 D tc B nn (Ar B nn) s.heap 0 0 (MQ below (QC D tc B nn (Ar B nn) (some (.int res.1)) res.2) args s 0 0 (Ar B nn)) h8 150 [(0, .ref a0), (3, .int x2), (6, .int x7)] [])) e ?_ (fun j9 Jj9 e => ?_)
    · intro h8 e
      refine V_aload_n (q := 151) X (TB.get tb_X9_asks 82 rfl) rfl rfl rfl ?_
      obtain ⟨x10, ex10, e⟩ := bs e
      refine V_getR (q := 154) X (TB.get tb_X9_asks 83 rfl) rfl lf_RX9_64 ex10 ?_
      refine V_iload_n (q := 155) X (TB.get tb_X9_asks 84 rfl) rfl rfl rfl ?_
      refine V_iload (q := 157) X (TB.get tb_X9_asks 85 rfl) rfl rfl ?_
      obtain ⟨h11, eh11, e⟩ := bs e
      refine V_iastore (q := 158) X (TB.get tb_X9_asks 86 rfl) rfl eh11 ?_
      refine V_iconst (v := 1) (q := 159) X (TB.get tb_X9_asks 87 rfl) c_iconst_1 rfl ?_
      cases e
      exact V_zret X hr hlk (Or.inr rfl) (TB.get tb_X9_asks 88 rfl)
    refine V_sub (lv' := [(0, .ref a0), (2, .int a2), (3, .int x2), (4, .int x3), (5, .int x4), (6, .int x7), (7, .int (0 : Int32))]) [5, 7, 4, 3, 2, 1, 0] rfl ?_
    refine wh2_elim (P := fun v12 h13 => V p l en (rmD 5) s m args below meth c 8 D tc B nn (Ar B nn) s.heap 0 0 (MQ below (QC D tc B nn (Ar B nn) (some (.int res.1)) res.2) args s 0 0 (Ar B nn)) h13 62 [(0, .ref a0), (2, .int a2), (3, .int x2), (4, .int x3), (5, .int x4), (6, .int x7), (7, .int v12)] []) (f := fu) ?_ e
    intro self14 v12 h13 ihself14 e
    unfold MX9_asks_B62 at e
    refine V_iload (q := 64) X (TB.get tb_X9_asks 37 rfl) rfl rfl ?_
    refine V_bipush (v := 6) (q := 66) X (TB.get tb_X9_asks 38 rfl) c_bipush_6 rfl ?_
    refine V_icmp_ge (q := 69) (t := 150) X (TB.get tb_X9_asks 39 rfl) rfl rfl (fun hc => ?_) (fun hc => ?_)
    · have e := (if_pos hc).symm.trans e
      refine V_sub (lv' := [(0, .ref a0), (3, .int x2), (6, .int x7)]) [0, 2, 5] rfl ?_
      exact Jj9 _ e
    · have e := (if_neg hc).symm.trans e
      refine V_iload (q := 71) X (TB.get tb_X9_asks 40 rfl) rfl rfl ?_
      refine V_iload_n (q := 72) X (TB.get tb_X9_asks 41 rfl) rfl rfl rfl ?_
      refine jn_elim (P := (fun (k : Hp → Option (Int32 × Hp)) => ∀ (h15 : Hp), k h15 = some res → V p l en (rmD 5) s m args below meth c 8 D tc B nn (Ar B nn) s.heap 0 0 (MQ below (QC D tc B nn (Ar B nn) (some (.int res.1)) res.2) args s 0 0 (Ar B nn)) h15 144 [(0, .ref a0), (2, .int a2), (3, .int x2), (4, .int x3), (5, .int x4), (6, .int x7), (7, .int v12)] [])) e ?_ (fun j16 Jj16 e => ?_)
      · intro h15 e
        refine V_iinc (q := 147) (v := v12 + (1 : Int32)) (lv' := [(7, .int (v12 + (1 : Int32))), (0, .ref a0), (2, .int a2), (3, .int x2), (4, .int x3), (5, .int x4), (6, .int x7)]) X (TB.get tb_X9_asks 80 rfl) rfl rfl (by rw [c_iconst_1]) (Nat.le_of_ble_eq_true rfl) rfl ?_
        refine V_goto (q := 62) X (TB.get tb_X9_asks 81 rfl) rfl ?_
        refine V_sub (lv' := [(0, .ref a0), (2, .int a2), (3, .int x2), (4, .int x3), (5, .int x4), (6, .int x7), (7, .int (v12 + (1 : Int32)))]) [1, 2, 3, 4, 5, 6, 0] rfl ?_
        exact ihself14 _ _ e
      refine V_icmp_ne (q := 75) (t := 78) X (TB.get tb_X9_asks 42 rfl) rfl rfl (fun hc => ?_) (fun hc => ?_)
      · have e := (if_neg hc).symm.trans e
        refine V_aload_n (q := 79) X (TB.get tb_X9_asks 44 rfl) rfl rfl rfl ?_
        obtain ⟨x17, ex17, e⟩ := bs e
        refine V_getR (q := 82) X (TB.get tb_X9_asks 45 rfl) rfl lf_RX9_70 ex17 ?_
        refine V_iload_n (q := 83) X (TB.get tb_X9_asks 46 rfl) rfl rfl rfl ?_
        obtain ⟨x18, ex18, e⟩ := bs e
        refine V_iaload (q := 84) X (TB.get tb_X9_asks 47 rfl) rfl ex18 ?_
        refine V_iload (q := 86) X (TB.get tb_X9_asks 48 rfl) rfl rfl ?_
        obtain ⟨x19, ex19, e⟩ := bs e
        refine V_callS (q := 89) (As := [.int x18, .int v12]) (rest := []) (st' := [.int x19]) X (TB.get tb_X9_asks 49 rfl) rfl cs_RX9_258 (ok_X9_has x18 v12 h13 x19 ex19) (Nat.le_of_ble_eq_true rfl) rfl rfl (Nat.le_of_ble_eq_true rfl) rfl ?_
        refine V_if_eq (q := 92) (t := 104) X (TB.get tb_X9_asks 50 rfl) rfl rfl (fun hc => ?_) (fun hc => ?_)
        · have e := (if_pos hc).symm.trans e
          refine V_aload_n (q := 105) X (TB.get tb_X9_asks 57 rfl) rfl rfl rfl ?_
          obtain ⟨x20, ex20, e⟩ := bs e
          refine V_getR (q := 108) X (TB.get tb_X9_asks 58 rfl) rfl lf_RX9_67 ex20 ?_
          refine V_iload_n (q := 109) X (TB.get tb_X9_asks 59 rfl) rfl rfl rfl ?_
          obtain ⟨x21, ex21, e⟩ := bs e
          refine V_iaload (q := 110) X (TB.get tb_X9_asks 60 rfl) rfl ex21 ?_
          refine V_iload (q := 112) X (TB.get tb_X9_asks 61 rfl) rfl rfl ?_
          obtain ⟨x22, ex22, e⟩ := bs e
          refine V_callS (q := 115) (As := [.int x21, .int v12]) (rest := []) (st' := [.int x22]) X (TB.get tb_X9_asks 62 rfl) rfl cs_RX9_258 (ok_X9_has x21 v12 h13 x22 ex22) (Nat.le_of_ble_eq_true rfl) rfl rfl (Nat.le_of_ble_eq_true rfl) rfl ?_
          refine V_if_eq (q := 118) (t := 144) X (TB.get tb_X9_asks 63 rfl) rfl rfl (fun hc => ?_) (fun hc => ?_)
          · have e := (if_pos hc).symm.trans e
            exact Jj16 _ e
          · have e := (if_neg hc).symm.trans e
            refine V_aload_n (q := 119) X (TB.get tb_X9_asks 64 rfl) rfl rfl rfl ?_
            obtain ⟨x23, ex23, e⟩ := bs e
            refine V_getR (q := 122) X (TB.get tb_X9_asks 65 rfl) rfl lf_RX9_64 ex23 ?_
            refine V_iload (q := 124) X (TB.get tb_X9_asks 66 rfl) rfl rfl ?_
            refine V_dup2 (q := 125) X (TB.get tb_X9_asks 67 rfl) rfl rfl rfl ?_
            obtain ⟨x24, ex24, e⟩ := bs e
            refine V_iaload (q := 126) X (TB.get tb_X9_asks 68 rfl) rfl ex24 ?_
            refine V_aload_n (q := 127) X (TB.get tb_X9_asks 69 rfl) rfl rfl rfl ?_
            refine V_iload (q := 129) X (TB.get tb_X9_asks 70 rfl) rfl rfl ?_
            refine V_iload (q := 131) X (TB.get tb_X9_asks 71 rfl) rfl rfl ?_
            refine V_aload_n (q := 132) X (TB.get tb_X9_asks 72 rfl) rfl rfl rfl ?_
            refine V_getR (q := 135) X (TB.get tb_X9_asks 73 rfl) rfl lf_RX9_64 ex23 ?_
            refine V_iload (q := 137) X (TB.get tb_X9_asks 74 rfl) rfl rfl ?_
            refine V_iaload (q := 138) X (TB.get tb_X9_asks 75 rfl) rfl ex24 ?_
            refine V_iload_n (q := 139) X (TB.get tb_X9_asks 76 rfl) rfl rfl rfl ?_
            obtain ⟨x25, ex25, e⟩ := bs e
            refine V_callV (q := 142) (As := [.int x3, .int x4, .int x24, .int a2]) (rest := [.int x24, .int v12, .ref x23]) (st' := [.int x25, .int x24, .int v12, .ref x23]) X (TB.get tb_X9_asks 77 rfl) rfl cv_RX9_345 (ok_X9_imageOf fu a0 x3 x4 x24 a2 h13 x25 ex25).1 (ok_X9_imageOf fu a0 x3 x4 x24 a2 h13 x25 ex25).2 (Nat.le_of_ble_eq_true rfl) rfl rfl (Nat.le_of_ble_eq_true rfl) rfl ?_
            refine V_ior (q := 143) X (TB.get tb_X9_asks 78 rfl) rfl ?_
            obtain ⟨h26, eh26, e⟩ := bs e
            refine V_iastore (q := 144) X (TB.get tb_X9_asks 79 rfl) rfl eh26 ?_
            exact Jj16 _ e
        · have e := (if_neg hc).symm.trans e
          refine V_aload_n (q := 93) X (TB.get tb_X9_asks 51 rfl) rfl rfl rfl ?_
          obtain ⟨x27, ex27, e⟩ := bs e
          refine V_getR (q := 96) X (TB.get tb_X9_asks 52 rfl) rfl lf_RX9_64 ex27 ?_
          refine V_iload (q := 98) X (TB.get tb_X9_asks 53 rfl) rfl rfl ?_
          refine V_iload (q := 100) X (TB.get tb_X9_asks 54 rfl) rfl rfl ?_
          obtain ⟨h28, eh28, e⟩ := bs e
          refine V_iastore (q := 101) X (TB.get tb_X9_asks 55 rfl) rfl eh28 ?_
          refine V_goto (q := 144) X (TB.get tb_X9_asks 56 rfl) rfl ?_
          exact Jj16 _ e
      · have e := (if_pos hc).symm.trans e
        refine V_goto (q := 144) X (TB.get tb_X9_asks 43 rfl) rfl ?_
        exact Jj16 _ e
  · have e := (if_pos hc).symm.trans e
    refine V_iconst (v := 0) (q := 58) X (TB.get tb_X9_asks 33 rfl) c_iconst_0 rfl ?_
    cases e
    exact V_zret X hr hlk (Or.inl rfl) (TB.get tb_X9_asks 34 rfl)
set_option maxRecDepth 100000 in
set_option maxHeartbeats 4000000 in
theorem ok_X9_passes (fu : Nat) (a0 : Nat) (a1 : Int32) (h : Hp) (res : Hp) (e : MX9_passes fu a0 a1 h = some res) : CK yX9_passes cX9_passes 3 none 12 [.ref a0, .int a1] h none res ∧ (h.1 a0).1 = 9 := by
  obtain ⟨hcl, e⟩ := h_g_inv e
  refine ⟨CK_of pn_RX9 cm_X9_passes (Nat.le_of_ble_eq_true rfl) ?_, hcl⟩
  intro l D tc B nn p en s m args below meth c X hr hlk
  replace X : CX p (rmD 12) s m args c cX9_passes 3 RX9 D tc 12 := X
  show V p l en (rmD 12) s m args below meth c 3 D tc B nn (Ar B nn) s.heap 0 0 (MQ below (QC D tc B nn (Ar B nn) none res) args s 0 0 (Ar B nn)) h 0 [(0, .ref a0), (1, .int a1)] []
  refine V_aload_n (q := 1) X (TB.get tb_X9_passes 0 rfl) rfl rfl rfl ?_
  refine V_iload_n (q := 2) X (TB.get tb_X9_passes 1 rfl) rfl rfl rfl ?_
  obtain ⟨x1, ex1, e⟩ := bs e
  refine V_callV (q := 5) (As := [.int a1]) (rest := []) (st' := [.int x1]) X (TB.get tb_X9_passes 2 rfl) rfl cv_RX9_304 (ok_X9_sortAt a0 a1 h x1 ex1).1 (ok_X9_sortAt a0 a1 h x1 ex1).2 (Nat.le_of_ble_eq_true rfl) rfl rfl (Nat.le_of_ble_eq_true rfl) rfl ?_
  refine V_istore_n (q := 6) (lv' := [(2, .int x1), (0, .ref a0), (1, .int a1)]) X (TB.get tb_X9_passes 3 rfl) rfl rfl (Nat.le_of_ble_eq_true rfl) rfl ?_
  refine V_aload_n (q := 7) X (TB.get tb_X9_passes 4 rfl) rfl rfl rfl ?_
  refine V_iload_n (q := 8) X (TB.get tb_X9_passes 5 rfl) rfl rfl rfl ?_
  obtain ⟨h2, eh2, e⟩ := bs e
  refine V_callV (q := 11) (As := [.int a1]) (rest := []) (st' := []) X (TB.get tb_X9_passes 6 rfl) rfl cv_RX9_349 (ok_X9_takes fu a0 a1 h h2 eh2).1 (ok_X9_takes fu a0 a1 h h2 eh2).2 (Nat.le_of_ble_eq_true rfl) rfl rfl (Nat.le_of_ble_eq_true rfl) rfl ?_
  refine V_iload_n (q := 12) X (TB.get tb_X9_passes 7 rfl) rfl rfl rfl ?_
  refine V_bipush (v := 6) (q := 14) X (TB.get tb_X9_passes 8 rfl) c_bipush_6 rfl ?_
  refine V_icmp_ge (q := 17) (t := 34) X (TB.get tb_X9_passes 9 rfl) rfl rfl (fun hc => ?_) (fun hc => ?_)
  · have e := (if_pos hc).symm.trans e
    refine V_iload_n (q := 35) X (TB.get tb_X9_passes 19 rfl) rfl rfl rfl ?_
    refine V_bipush (v := 6) (q := 37) X (TB.get tb_X9_passes 20 rfl) c_bipush_6 rfl ?_
    refine V_icmp_ne (q := 40) (t := 61) X (TB.get tb_X9_passes 21 rfl) rfl rfl (fun hc => ?_) (fun hc => ?_)
    · have e := (if_neg hc).symm.trans e
      refine V_iload_n (q := 62) X (TB.get tb_X9_passes 33 rfl) rfl rfl rfl ?_
      obtain ⟨x3, ex3, e⟩ := bs e
      refine V_callS (q := 65) (As := [.int x1]) (rest := []) (st' := [.int x3]) X (TB.get tb_X9_passes 34 rfl) rfl cs_RX9_219 (ok_X9_isAsked x1 h2 x3 ex3) (Nat.le_of_ble_eq_true rfl) rfl rfl (Nat.le_of_ble_eq_true rfl) rfl ?_
      refine V_if_eq (q := 68) (t := 112) X (TB.get tb_X9_passes 35 rfl) rfl rfl (fun hc => ?_) (fun hc => ?_)
      · have e := (if_pos hc).symm.trans e
        refine V_aload_n (q := 113) X (TB.get tb_X9_passes 60 rfl) rfl rfl rfl ?_
        refine V_aload_n (q := 114) X (TB.get tb_X9_passes 61 rfl) rfl rfl rfl ?_
        refine V_iload_n (q := 115) X (TB.get tb_X9_passes 62 rfl) rfl rfl rfl ?_
        obtain ⟨x4, ex4, e⟩ := bs e
        refine V_callV (q := 118) (As := [.int a1]) (rest := [.ref a0]) (st' := [.int x4, .ref a0]) X (TB.get tb_X9_passes 63 rfl) rfl cv_RX9_319 (ok_X9_byYes fu a0 a1 h2 x4 ex4).1 (ok_X9_byYes fu a0 a1 h2 x4 ex4).2 (Nat.le_of_ble_eq_true rfl) rfl rfl (Nat.le_of_ble_eq_true rfl) rfl ?_
        obtain ⟨h5, eh5, e⟩ := bs e
        refine V_callV (q := 121) (As := [.int x4]) (rest := []) (st' := []) X (TB.get tb_X9_passes 64 rfl) rfl cv_RX9_355 (ok_X9_merges fu a0 x4 h2 h5 eh5).1 (ok_X9_merges fu a0 x4 h2 h5 eh5).2 (Nat.le_of_ble_eq_true rfl) rfl rfl (Nat.le_of_ble_eq_true rfl) rfl ?_
        refine V_aload_n (q := 122) X (TB.get tb_X9_passes 65 rfl) rfl rfl rfl ?_
        refine V_aload_n (q := 123) X (TB.get tb_X9_passes 66 rfl) rfl rfl rfl ?_
        refine V_iload_n (q := 124) X (TB.get tb_X9_passes 67 rfl) rfl rfl rfl ?_
        obtain ⟨x6, ex6, e⟩ := bs e
        refine V_callV (q := 127) (As := [.int a1]) (rest := [.ref a0]) (st' := [.int x6, .ref a0]) X (TB.get tb_X9_passes 68 rfl) rfl cv_RX9_322 (ok_X9_byNo fu a0 a1 h5 x6 ex6).1 (ok_X9_byNo fu a0 a1 h5 x6 ex6).2 (Nat.le_of_ble_eq_true rfl) rfl rfl (Nat.le_of_ble_eq_true rfl) rfl ?_
        obtain ⟨h7, eh7, e⟩ := bs e
        refine V_callV (q := 130) (As := [.int x6]) (rest := []) (st' := []) X (TB.get tb_X9_passes 69 rfl) rfl cv_RX9_355 (ok_X9_merges fu a0 x6 h5 h7 eh7).1 (ok_X9_merges fu a0 x6 h5 h7 eh7).2 (Nat.le_of_ble_eq_true rfl) rfl rfl (Nat.le_of_ble_eq_true rfl) rfl ?_
        cases e
        exact V_vret X hr hlk (TB.get tb_X9_passes 70 rfl)
      · have e := (if_neg hc).symm.trans e
        refine V_aload_n (q := 69) X (TB.get tb_X9_passes 36 rfl) rfl rfl rfl ?_
        refine V_iload_n (q := 70) X (TB.get tb_X9_passes 37 rfl) rfl rfl rfl ?_
        refine V_iconst (v := 1) (q := 71) X (TB.get tb_X9_passes 38 rfl) c_iconst_1 rfl ?_
        obtain ⟨p8, ep8, e⟩ := bs e
        refine V_callV (q := 74) (As := [.int a1, .int (1 : Int32)]) (rest := []) (st' := [.int p8.1]) X (TB.get tb_X9_passes 39 rfl) rfl cv_RX9_358 (ok_X9_asks fu a0 a1 (1 : Int32) h2 p8 ep8).1 (ok_X9_asks fu a0 a1 (1 : Int32) h2 p8 ep8).2 (Nat.le_of_ble_eq_true rfl) rfl rfl (Nat.le_of_ble_eq_true rfl) rfl ?_
        refine jn_elim (P := (fun (k : Hp → Option (Hp)) => ∀ (h9 : Hp), k h9 = some res → V p l en (rmD 12) s m args below meth c 3 D tc B nn (Ar B nn) s.heap 0 0 (MQ below (QC D tc B nn (Ar B nn) none res) args s 0 0 (Ar B nn)) h9 86 [(0, .ref a0), (1, .int a1)] [])) e ?_ (fun j10 Jj10 e => ?_)
        · intro h9 e
          refine V_aload_n (q := 87) X (TB.get tb_X9_passes 46 rfl) rfl rfl rfl ?_
          refine V_iload_n (q := 88) X (TB.get tb_X9_passes 47 rfl) rfl rfl rfl ?_
          obtain ⟨h11, eh11, e⟩ := bs e
          refine V_callV (q := 91) (As := [.int a1]) (rest := []) (st' := []) X (TB.get tb_X9_passes 48 rfl) rfl cv_RX9_349 (ok_X9_takes fu a0 a1 h9 h11 eh11).1 (ok_X9_takes fu a0 a1 h9 h11 eh11).2 (Nat.le_of_ble_eq_true rfl) rfl rfl (Nat.le_of_ble_eq_true rfl) rfl ?_
          refine V_aload_n (q := 92) X (TB.get tb_X9_passes 49 rfl) rfl rfl rfl ?_
          refine V_iload_n (q := 93) X (TB.get tb_X9_passes 50 rfl) rfl rfl rfl ?_
          refine V_iconst (v := 0) (q := 94) X (TB.get tb_X9_passes 51 rfl) c_iconst_0 rfl ?_
          obtain ⟨p12, ep12, e⟩ := bs e
          refine V_callV (q := 97) (As := [.int a1, .int (0 : Int32)]) (rest := []) (st' := [.int p12.1]) X (TB.get tb_X9_passes 52 rfl) rfl cv_RX9_358 (ok_X9_asks fu a0 a1 (0 : Int32) h11 p12 ep12).1 (ok_X9_asks fu a0 a1 (0 : Int32) h11 p12 ep12).2 (Nat.le_of_ble_eq_true rfl) rfl rfl (Nat.le_of_ble_eq_true rfl) rfl ?_
          refine V_if_eq (q := 100) (t := 130) X (TB.get tb_X9_passes 53 rfl) rfl rfl (fun hc => ?_) (fun hc => ?_)
          · have e := (if_pos hc).symm.trans e
            cases e
            exact V_vret X hr hlk (TB.get tb_X9_passes 70 rfl)
          · have e := (if_neg hc).symm.trans e
            refine V_aload_n (q := 101) X (TB.get tb_X9_passes 54 rfl) rfl rfl rfl ?_
            refine V_aload_n (q := 102) X (TB.get tb_X9_passes 55 rfl) rfl rfl rfl ?_
            refine V_iload_n (q := 103) X (TB.get tb_X9_passes 56 rfl) rfl rfl rfl ?_
            obtain ⟨x13, ex13, e⟩ := bs e
            refine V_callV (q := 106) (As := [.int a1]) (rest := [.ref a0]) (st' := [.int x13, .ref a0]) X (TB.get tb_X9_passes 57 rfl) rfl cv_RX9_322 (ok_X9_byNo fu a0 a1 p12.2 x13 ex13).1 (ok_X9_byNo fu a0 a1 p12.2 x13 ex13).2 (Nat.le_of_ble_eq_true rfl) rfl rfl (Nat.le_of_ble_eq_true rfl) rfl ?_
            obtain ⟨h14, eh14, e⟩ := bs e
            refine V_callV (q := 109) (As := [.int x13]) (rest := []) (st' := []) X (TB.get tb_X9_passes 58 rfl) rfl cv_RX9_355 (ok_X9_merges fu a0 x13 p12.2 h14 eh14).1 (ok_X9_merges fu a0 x13 p12.2 h14 eh14).2 (Nat.le_of_ble_eq_true rfl) rfl rfl (Nat.le_of_ble_eq_true rfl) rfl ?_
            refine V_goto (q := 130) X (TB.get tb_X9_passes 59 rfl) rfl ?_
            cases e
            exact V_vret X hr hlk (TB.get tb_X9_passes 70 rfl)
        refine V_if_eq (q := 77) (t := 86) X (TB.get tb_X9_passes 40 rfl) rfl rfl (fun hc => ?_) (fun hc => ?_)
        · have e := (if_pos hc).symm.trans e
          refine V_sub (lv' := [(0, .ref a0), (1, .int a1)]) [1, 2] rfl ?_
          exact Jj10 _ e
        · have e := (if_neg hc).symm.trans e
          refine V_aload_n (q := 78) X (TB.get tb_X9_passes 41 rfl) rfl rfl rfl ?_
          refine V_aload_n (q := 79) X (TB.get tb_X9_passes 42 rfl) rfl rfl rfl ?_
          refine V_iload_n (q := 80) X (TB.get tb_X9_passes 43 rfl) rfl rfl rfl ?_
          obtain ⟨x15, ex15, e⟩ := bs e
          refine V_callV (q := 83) (As := [.int a1]) (rest := [.ref a0]) (st' := [.int x15, .ref a0]) X (TB.get tb_X9_passes 44 rfl) rfl cv_RX9_319 (ok_X9_byYes fu a0 a1 p8.2 x15 ex15).1 (ok_X9_byYes fu a0 a1 p8.2 x15 ex15).2 (Nat.le_of_ble_eq_true rfl) rfl rfl (Nat.le_of_ble_eq_true rfl) rfl ?_
          obtain ⟨h16, eh16, e⟩ := bs e
          refine V_callV (q := 86) (As := [.int x15]) (rest := []) (st' := []) X (TB.get tb_X9_passes 45 rfl) rfl cv_RX9_355 (ok_X9_merges fu a0 x15 p8.2 h16 eh16).1 (ok_X9_merges fu a0 x15 p8.2 h16 eh16).2 (Nat.le_of_ble_eq_true rfl) rfl rfl (Nat.le_of_ble_eq_true rfl) rfl ?_
          refine V_sub (lv' := [(0, .ref a0), (1, .int a1)]) [1, 2] rfl ?_
          exact Jj10 _ e
    · have e := (if_pos hc).symm.trans e
      refine V_aload_n (q := 41) X (TB.get tb_X9_passes 22 rfl) rfl rfl rfl ?_
      refine V_iload_n (q := 42) X (TB.get tb_X9_passes 23 rfl) rfl rfl rfl ?_
      refine V_iconst (v := 1) (q := 43) X (TB.get tb_X9_passes 24 rfl) c_iconst_1 rfl ?_
      obtain ⟨p17, ep17, e⟩ := bs e
      refine V_callV (q := 46) (As := [.int a1, .int (1 : Int32)]) (rest := []) (st' := [.int p17.1]) X (TB.get tb_X9_passes 25 rfl) rfl cv_RX9_358 (ok_X9_asks fu a0 a1 (1 : Int32) h2 p17 ep17).1 (ok_X9_asks fu a0 a1 (1 : Int32) h2 p17 ep17).2 (Nat.le_of_ble_eq_true rfl) rfl rfl (Nat.le_of_ble_eq_true rfl) rfl ?_
      refine V_if_eq (q := 49) (t := 130) X (TB.get tb_X9_passes 26 rfl) rfl rfl (fun hc => ?_) (fun hc => ?_)
      · have e := (if_pos hc).symm.trans e
        cases e
        exact V_vret X hr hlk (TB.get tb_X9_passes 70 rfl)
      · have e := (if_neg hc).symm.trans e
        refine V_aload_n (q := 50) X (TB.get tb_X9_passes 27 rfl) rfl rfl rfl ?_
        refine V_aload_n (q := 51) X (TB.get tb_X9_passes 28 rfl) rfl rfl rfl ?_
        refine V_iload_n (q := 52) X (TB.get tb_X9_passes 29 rfl) rfl rfl rfl ?_
        obtain ⟨x18, ex18, e⟩ := bs e
        refine V_callV (q := 55) (As := [.int a1]) (rest := [.ref a0]) (st' := [.int x18, .ref a0]) X (TB.get tb_X9_passes 30 rfl) rfl cv_RX9_319 (ok_X9_byYes fu a0 a1 p17.2 x18 ex18).1 (ok_X9_byYes fu a0 a1 p17.2 x18 ex18).2 (Nat.le_of_ble_eq_true rfl) rfl rfl (Nat.le_of_ble_eq_true rfl) rfl ?_
        obtain ⟨h19, eh19, e⟩ := bs e
        refine V_callV (q := 58) (As := [.int x18]) (rest := []) (st' := []) X (TB.get tb_X9_passes 31 rfl) rfl cv_RX9_355 (ok_X9_merges fu a0 x18 p17.2 h19 eh19).1 (ok_X9_merges fu a0 x18 p17.2 h19 eh19).2 (Nat.le_of_ble_eq_true rfl) rfl rfl (Nat.le_of_ble_eq_true rfl) rfl ?_
        refine V_goto (q := 130) X (TB.get tb_X9_passes 32 rfl) rfl ?_
        cases e
        exact V_vret X hr hlk (TB.get tb_X9_passes 70 rfl)
  · have e := (if_neg hc).symm.trans e
    refine V_aload_n (q := 18) X (TB.get tb_X9_passes 10 rfl) rfl rfl rfl ?_
    refine V_iload_n (q := 19) X (TB.get tb_X9_passes 11 rfl) rfl rfl rfl ?_
    obtain ⟨h20, eh20, e⟩ := bs e
    refine V_callV (q := 22) (As := [.int a1]) (rest := []) (st' := []) X (TB.get tb_X9_passes 12 rfl) rfl cv_RX9_352 (ok_X9_goes fu a0 a1 h2 h20 eh20).1 (ok_X9_goes fu a0 a1 h2 h20 eh20).2 (Nat.le_of_ble_eq_true rfl) rfl rfl (Nat.le_of_ble_eq_true rfl) rfl ?_
    refine V_aload_n (q := 23) X (TB.get tb_X9_passes 13 rfl) rfl rfl rfl ?_
    refine V_aload_n (q := 24) X (TB.get tb_X9_passes 14 rfl) rfl rfl rfl ?_
    refine V_iload_n (q := 25) X (TB.get tb_X9_passes 15 rfl) rfl rfl rfl ?_
    obtain ⟨x21, ex21, e⟩ := bs e
    refine V_callV (q := 28) (As := [.int a1]) (rest := [.ref a0]) (st' := [.int x21, .ref a0]) X (TB.get tb_X9_passes 16 rfl) rfl cv_RX9_319 (ok_X9_byYes fu a0 a1 h20 x21 ex21).1 (ok_X9_byYes fu a0 a1 h20 x21 ex21).2 (Nat.le_of_ble_eq_true rfl) rfl rfl (Nat.le_of_ble_eq_true rfl) rfl ?_
    obtain ⟨h22, eh22, e⟩ := bs e
    refine V_callV (q := 31) (As := [.int x21]) (rest := []) (st' := []) X (TB.get tb_X9_passes 17 rfl) rfl cv_RX9_355 (ok_X9_merges fu a0 x21 h20 h22 eh22).1 (ok_X9_merges fu a0 x21 h20 h22 eh22).2 (Nat.le_of_ble_eq_true rfl) rfl rfl (Nat.le_of_ble_eq_true rfl) rfl ?_
    refine V_goto (q := 130) X (TB.get tb_X9_passes 18 rfl) rfl ?_
    cases e
    exact V_vret X hr hlk (TB.get tb_X9_passes 70 rfl)
set_option maxRecDepth 100000 in
set_option maxHeartbeats 4000000 in
theorem ok_X9_endsOf (a0 : Nat) (a1 : Int32) (h : Hp) (res : Int32) (e : MX9_endsOf a0 a1 h = some res) : CK yX9_endsOf cX9_endsOf 2 (some .int) 0 [.ref a0, .int a1] h (some (.int res)) h ∧ (h.1 a0).1 = 9 := by
  obtain ⟨hcl, e⟩ := h_g_inv e
  refine ⟨CK_of pn_RX9 cm_X9_endsOf (Nat.le_of_ble_eq_true rfl) ?_, hcl⟩
  intro l D tc B nn p en s m args below meth c X hr hlk
  replace X : CX p (rmD 0) s m args c cX9_endsOf 2 RX9 D tc 0 := X
  show V p l en (rmD 0) s m args below meth c 2 D tc B nn (Ar B nn) s.heap 0 0 (MQ below (QC D tc B nn (Ar B nn) (some (.int res)) h) args s 0 0 (Ar B nn)) h 0 [(0, .ref a0), (1, .int a1)] []
  refine V_aload_n (q := 1) X (TB.get tb_X9_endsOf 0 rfl) rfl rfl rfl ?_
  obtain ⟨x1, ex1, e⟩ := bs e
  refine V_getR (q := 4) X (TB.get tb_X9_endsOf 1 rfl) rfl lf_RX9_13 ex1 ?_
  refine V_bipush (v := 7) (q := 6) X (TB.get tb_X9_endsOf 2 rfl) c_bipush_7 rfl ?_
  refine V_aload_n (q := 7) X (TB.get tb_X9_endsOf 3 rfl) rfl rfl rfl ?_
  refine V_getR (q := 10) X (TB.get tb_X9_endsOf 4 rfl) rfl lf_RX9_13 ex1 ?_
  refine V_sipush (v := 327) (q := 13) X (TB.get tb_X9_endsOf 5 rfl) c_sipush_327 rfl ?_
  refine V_iload_n (q := 14) X (TB.get tb_X9_endsOf 6 rfl) rfl rfl rfl ?_
  refine V_iadd (q := 15) X (TB.get tb_X9_endsOf 7 rfl) rfl ?_
  obtain ⟨x2, ex2, e⟩ := bs e
  refine V_iaload (q := 16) X (TB.get tb_X9_endsOf 8 rfl) rfl ex2 ?_
  refine V_iadd (q := 17) X (TB.get tb_X9_endsOf 9 rfl) rfl ?_
  obtain ⟨x3, ex3, e⟩ := bs e
  refine V_iaload (q := 18) X (TB.get tb_X9_endsOf 10 rfl) rfl ex3 ?_
  cases e
  exact V_iret X hr hlk (TB.get tb_X9_endsOf 11 rfl)
