set_option maxRecDepth 100000 in
set_option maxHeartbeats 4000000 in
theorem ok_X3_readStatement (fu : Nat) (a0 : Nat) (a1 : Int32) (h : Hp) (res : Int32 × Hp) (e : MX3_readStatement fu a0 a1 h = some res) : CK yX3_readStatement cX3_readStatement 3 (some .boolean) 3 [.ref a0, .int a1] h (some (.int res.1)) res.2 ∧ (h.1 a0).1 = 3 := by
  obtain ⟨hcl, e⟩ := h_g_inv e
  refine ⟨CK_of pn_RX3 cm_X3_readStatement (Nat.le_of_ble_eq_true rfl) ?_, hcl⟩
  intro l D tc B nn p en s m args below meth c X hr hlk
  replace X : CX p (rmD 3) s m args c cX3_readStatement 3 RX3 D tc 3 := X
  show V p l en (rmD 3) s m args below meth c 3 D tc B nn (Ar B nn) s.heap 0 0 (MQ below (QC D tc B nn (Ar B nn) (some (.int res.1)) res.2) args s 0 0 (Ar B nn)) h 0 [(0, .ref a0), (1, .int a1)] []
  refine V_aload_n (q := 1) X (TB.get tb_X3_readStatement 0 rfl) rfl rfl rfl ?_
  obtain ⟨x1, ex1, e⟩ := bs e
  refine V_getR (q := 4) X (TB.get tb_X3_readStatement 1 rfl) rfl lf_RX3_21 ex1 ?_
  obtain ⟨x2, ex2, e⟩ := bs e
  refine V_getI (q := 7) X (TB.get tb_X3_readStatement 2 rfl) rfl lf_RX3_82 ex2 ?_
  refine V_bipush (v := 40) (q := 9) X (TB.get tb_X3_readStatement 3 rfl) c_bipush_40 rfl ?_
  refine jn_elim (P := (fun (k : Option (Int32 × Hp)) => k = some res → V p l en (rmD 3) s m args below meth c 3 D tc B nn (Ar B nn) s.heap 0 0 (MQ below (QC D tc B nn (Ar B nn) (some (.int res.1)) res.2) args s 0 0 (Ar B nn)) h 20 [(0, .ref a0)] [])) e ?_ (fun j3 Jj3 e => ?_)
  · intro e
    refine V_aload_n (q := 21) X (TB.get tb_X3_readStatement 9 rfl) rfl rfl rfl ?_
    refine V_bipush (v := 6) (q := 23) X (TB.get tb_X3_readStatement 10 rfl) c_bipush_6 rfl ?_
    obtain ⟨p4, ep4, e⟩ := bs e
    refine V_callV (q := 26) (As := [.int (6 : Int32)]) (rest := []) (st' := [.int p4.1]) X (TB.get tb_X3_readStatement 11 rfl) rfl cv_RX3_85 (ok_X3_fail a0 (6 : Int32) h p4 ep4).1 (ok_X3_fail a0 (6 : Int32) h p4 ep4).2 (Nat.le_of_ble_eq_true rfl) rfl rfl (Nat.le_of_ble_eq_true rfl) rfl ?_
    obtain ⟨z5, ez5, e⟩ := bs e
    cases e
    exact V_zretH X hr hlk ez5 (TB.get tb_X3_readStatement 12 rfl)
  refine V_icmp_ge (q := 12) (t := 20) X (TB.get tb_X3_readStatement 4 rfl) rfl rfl (fun hc => ?_) (fun hc => ?_)
  · have e := (if_pos hc).symm.trans e
    refine V_sub (lv' := [(0, .ref a0)]) [0] rfl ?_
    exact Jj3 e
  · have e := (if_neg hc).symm.trans e
    refine V_aload_n (q := 13) X (TB.get tb_X3_readStatement 5 rfl) rfl rfl rfl ?_
    obtain ⟨x6, ex6, e⟩ := bs e
    refine V_getI (q := 16) X (TB.get tb_X3_readStatement 6 rfl) rfl lf_RX3_53 ex6 ?_
    refine V_iconst (v := 5) (q := 17) X (TB.get tb_X3_readStatement 7 rfl) c_iconst_5 rfl ?_
    refine V_icmp_lt (q := 20) (t := 27) X (TB.get tb_X3_readStatement 8 rfl) rfl rfl (fun hc => ?_) (fun hc => ?_)
    · have e := (if_pos hc).symm.trans e
      refine V_aload_n (q := 28) X (TB.get tb_X3_readStatement 13 rfl) rfl rfl rfl ?_
      refine V_getR (q := 31) X (TB.get tb_X3_readStatement 14 rfl) rfl lf_RX3_21 ex1 ?_
      refine V_iload_n (q := 32) X (TB.get tb_X3_readStatement 15 rfl) rfl rfl rfl ?_
      refine V_aload_n (q := 33) X (TB.get tb_X3_readStatement 16 rfl) rfl rfl rfl ?_
      refine V_getI (q := 36) X (TB.get tb_X3_readStatement 17 rfl) rfl lf_RX3_53 ex6 ?_
      refine jn_elim (P := (fun (k : Int32 → Option (Int32 × Hp)) => ∀ (w7 : Int32), k w7 = some res → V p l en (rmD 3) s m args below meth c 3 D tc B nn (Ar B nn) s.heap 0 0 (MQ below (QC D tc B nn (Ar B nn) (some (.int res.1)) res.2) args s 0 0 (Ar B nn)) h 54 [(0, .ref a0), (1, .int a1)] [.int w7, .int a1, .ref x1])) e ?_ (fun j8 Jj8 e => ?_)
      · intro w7 e
        refine V_aload_n (q := 55) X (TB.get tb_X3_readStatement 28 rfl) rfl rfl rfl ?_
        refine V_getI (q := 58) X (TB.get tb_X3_readStatement 29 rfl) rfl lf_RX3_53 ex6 ?_
        obtain ⟨p9, ep9, e⟩ := bs e
        refine V_callV (q := 61) (As := [.int a1, .int w7, .int x6]) (rest := []) (st' := [.int p9.1]) X (TB.get tb_X3_readStatement 30 rfl) rfl cv_RX3_158 (ok_X4_addStatement x1 a1 w7 x6 h p9 ep9).1 (ok_X4_addStatement x1 a1 w7 x6 h p9 ep9).2 (Nat.le_of_ble_eq_true rfl) rfl rfl (Nat.le_of_ble_eq_true rfl) rfl ?_
        refine V_istore_n (q := 62) (lv' := [(2, .int p9.1), (0, .ref a0), (1, .int a1)]) X (TB.get tb_X3_readStatement 31 rfl) rfl rfl (Nat.le_of_ble_eq_true rfl) rfl ?_
        refine V_aload_n (q := 63) X (TB.get tb_X3_readStatement 32 rfl) rfl rfl rfl ?_
        obtain ⟨x10, ex10, e⟩ := bs e
        refine V_getR (q := 66) X (TB.get tb_X3_readStatement 33 rfl) rfl lf_RX3_12 ex10 ?_
        obtain ⟨h11, eh11, e⟩ := bs e
        refine V_callV (q := 69) (As := []) (rest := []) (st' := []) X (TB.get tb_X3_readStatement 34 rfl) rfl cv_RX3_109 (ok_X7_advance fu x10 p9.2 h11 eh11).1 (ok_X7_advance fu x10 p9.2 h11 eh11).2 (Nat.le_of_ble_eq_true rfl) rfl rfl (Nat.le_of_ble_eq_true rfl) rfl ?_
        refine V_iload_n (q := 70) X (TB.get tb_X3_readStatement 35 rfl) rfl rfl rfl ?_
        refine V_bipush (v := 9) (q := 72) X (TB.get tb_X3_readStatement 36 rfl) c_bipush_9 rfl ?_
        refine jn_elim (P := (fun (k : Hp → Option (Int32 × Hp)) => ∀ (h12 : Hp), k h12 = some res → V p l en (rmD 3) s m args below meth c 3 D tc B nn (Ar B nn) s.heap 0 0 (MQ below (QC D tc B nn (Ar B nn) (some (.int res.1)) res.2) args s 0 0 (Ar B nn)) h12 85 [(0, .ref a0), (1, .int a1), (2, .int p9.1)] [])) e ?_ (fun j13 Jj13 e => ?_)
        · intro h12 e
          refine V_iload_n (q := 86) X (TB.get tb_X3_readStatement 44 rfl) rfl rfl rfl ?_
          refine V_iconst (v := 1) (q := 87) X (TB.get tb_X3_readStatement 45 rfl) c_iconst_1 rfl ?_
          refine jn_elim (P := (fun (k : Hp → Option (Int32 × Hp)) => ∀ (h14 : Hp), k h14 = some res → V p l en (rmD 3) s m args below meth c 3 D tc B nn (Ar B nn) s.heap 0 0 (MQ below (QC D tc B nn (Ar B nn) (some (.int res.1)) res.2) args s 0 0 (Ar B nn)) h14 105 [(0, .ref a0), (1, .int a1), (2, .int p9.1)] [])) e ?_ (fun j15 Jj15 e => ?_)
          · intro h14 e
            refine V_iload_n (q := 106) X (TB.get tb_X3_readStatement 56 rfl) rfl rfl rfl ?_
            refine V_bipush (v := 6) (q := 108) X (TB.get tb_X3_readStatement 57 rfl) c_bipush_6 rfl ?_
            refine jn_elim (P := (fun (k : Hp → Option (Int32 × Hp)) => ∀ (h16 : Hp), k h16 = some res → V p l en (rmD 3) s m args below meth c 3 D tc B nn (Ar B nn) s.heap 0 0 (MQ below (QC D tc B nn (Ar B nn) (some (.int res.1)) res.2) args s 0 0 (Ar B nn)) h16 138 [(0, .ref a0), (1, .int a1), (2, .int p9.1)] [])) e ?_ (fun j17 Jj17 e => ?_)
            · intro h16 e
              refine V_iload_n (q := 139) X (TB.get tb_X3_readStatement 74 rfl) rfl rfl rfl ?_
              refine V_bipush (v := 7) (q := 141) X (TB.get tb_X3_readStatement 75 rfl) c_bipush_7 rfl ?_
              refine V_icmp_ge (q := 144) (t := 151) X (TB.get tb_X3_readStatement 76 rfl) rfl rfl (fun hc => ?_) (fun hc => ?_)
              · have e := (if_pos hc).symm.trans e
                refine V_aload_n (q := 152) X (TB.get tb_X3_readStatement 81 rfl) rfl rfl rfl ?_
                obtain ⟨x18, ex18, e⟩ := bs e
                refine V_getR (q := 155) X (TB.get tb_X3_readStatement 82 rfl) rfl lf_RX3_38 ex18 ?_
                refine V_aload_n (q := 156) X (TB.get tb_X3_readStatement 83 rfl) rfl rfl rfl ?_
                obtain ⟨x19, ex19, e⟩ := bs e
                refine V_getI (q := 159) X (TB.get tb_X3_readStatement 84 rfl) rfl lf_RX3_53 ex19 ?_
                refine V_iload_n (q := 160) X (TB.get tb_X3_readStatement 85 rfl) rfl rfl rfl ?_
                obtain ⟨h20, eh20, e⟩ := bs e
                refine V_iastore (q := 161) X (TB.get tb_X3_readStatement 86 rfl) rfl eh20 ?_
                refine V_aload_n (q := 162) X (TB.get tb_X3_readStatement 87 rfl) rfl rfl rfl ?_
                obtain ⟨x21, ex21, e⟩ := bs e
                refine V_getR (q := 165) X (TB.get tb_X3_readStatement 88 rfl) rfl lf_RX3_42 ex21 ?_
                refine V_aload_n (q := 166) X (TB.get tb_X3_readStatement 89 rfl) rfl rfl rfl ?_
                obtain ⟨x22, ex22, e⟩ := bs e
                refine V_getI (q := 169) X (TB.get tb_X3_readStatement 90 rfl) rfl lf_RX3_53 ex22 ?_
                refine V_iconst (v := 0) (q := 170) X (TB.get tb_X3_readStatement 91 rfl) c_iconst_0 rfl ?_
                obtain ⟨h23, eh23, e⟩ := bs e
                refine V_bastoreZ (q := 171) X (TB.get tb_X3_readStatement 92 rfl) rfl eh23 ?_
                refine V_aload_n (q := 172) X (TB.get tb_X3_readStatement 93 rfl) rfl rfl rfl ?_
                refine V_dup (q := 173) X (TB.get tb_X3_readStatement 94 rfl) rfl rfl ?_
                obtain ⟨x24, ex24, e⟩ := bs e
                refine V_getI (q := 176) X (TB.get tb_X3_readStatement 95 rfl) rfl lf_RX3_53 ex24 ?_
                refine V_iconst (v := 1) (q := 177) X (TB.get tb_X3_readStatement 96 rfl) c_iconst_1 rfl ?_
                refine V_iadd (q := 178) X (TB.get tb_X3_readStatement 97 rfl) rfl ?_
                obtain ⟨h25, eh25, e⟩ := bs e
                refine V_putI (q := 181) X (TB.get tb_X3_readStatement 98 rfl) rfl lq_RX3_53 eh25 ?_
                refine V_aload_n (q := 182) X (TB.get tb_X3_readStatement 99 rfl) rfl rfl rfl ?_
                refine V_bipush (v := 20) (q := 184) X (TB.get tb_X3_readStatement 100 rfl) c_bipush_20 rfl ?_
                obtain ⟨p26, ep26, e⟩ := bs e
                refine V_callV (q := 187) (As := [.int (20 : Int32)]) (rest := []) (st' := [.int p26.1]) X (TB.get tb_X3_readStatement 101 rfl) rfl cv_RX3_127 (ok_X3_takeSign fu a0 (20 : Int32) h25 p26 ep26).1 (ok_X3_takeSign fu a0 (20 : Int32) h25 p26 ep26).2 (Nat.le_of_ble_eq_true rfl) rfl rfl (Nat.le_of_ble_eq_true rfl) rfl ?_
                obtain ⟨z27, ez27, e⟩ := bs e
                cases e
                exact V_zretH X hr hlk ez27 (TB.get tb_X3_readStatement 102 rfl)
              · have e := (if_neg hc).symm.trans e
                refine V_aload_n (q := 145) X (TB.get tb_X3_readStatement 77 rfl) rfl rfl rfl ?_
                refine V_bipush (v := 19) (q := 147) X (TB.get tb_X3_readStatement 78 rfl) c_bipush_19 rfl ?_
                obtain ⟨p28, ep28, e⟩ := bs e
                refine V_callV (q := 150) (As := [.int (19 : Int32)]) (rest := []) (st' := [.int p28.1]) X (TB.get tb_X3_readStatement 79 rfl) rfl cv_RX3_127 (ok_X3_takeSign fu a0 (19 : Int32) h16 p28 ep28).1 (ok_X3_takeSign fu a0 (19 : Int32) h16 p28 ep28).2 (Nat.le_of_ble_eq_true rfl) rfl rfl (Nat.le_of_ble_eq_true rfl) rfl ?_
                obtain ⟨z29, ez29, e⟩ := bs e
                cases e
                exact V_zretH X hr hlk ez29 (TB.get tb_X3_readStatement 80 rfl)
            refine V_icmp_lt (q := 111) (t := 138) X (TB.get tb_X3_readStatement 58 rfl) rfl rfl (fun hc => ?_) (fun hc => ?_)
            · have e := (if_pos hc).symm.trans e
              exact Jj17 _ e
            · have e := (if_neg hc).symm.trans e
              refine V_iload_n (q := 112) X (TB.get tb_X3_readStatement 59 rfl) rfl rfl rfl ?_
              refine V_bipush (v := 8) (q := 114) X (TB.get tb_X3_readStatement 60 rfl) c_bipush_8 rfl ?_
              refine V_icmp_gt (q := 117) (t := 138) X (TB.get tb_X3_readStatement 61 rfl) rfl rfl (fun hc => ?_) (fun hc => ?_)
              · have e := (if_pos hc).symm.trans e
                exact Jj17 _ e
              · have e := (if_neg hc).symm.trans e
                refine V_aload_n (q := 118) X (TB.get tb_X3_readStatement 62 rfl) rfl rfl rfl ?_
                refine V_iload_n (q := 119) X (TB.get tb_X3_readStatement 63 rfl) rfl rfl rfl ?_
                refine V_iload_n (q := 120) X (TB.get tb_X3_readStatement 64 rfl) rfl rfl rfl ?_
                refine V_bipush (v := 6) (q := 122) X (TB.get tb_X3_readStatement 65 rfl) c_bipush_6 rfl ?_
                refine jn_elim (P := (fun (k : Int32 → Option (Int32 × Hp)) => ∀ (w30 : Int32), k w30 = some res → V p l en (rmD 3) s m args below meth c 3 D tc B nn (Ar B nn) s.heap 0 0 (MQ below (QC D tc B nn (Ar B nn) (some (.int res.1)) res.2) args s 0 0 (Ar B nn)) h14 130 [(0, .ref a0), (1, .int a1), (2, .int p9.1)] [.int w30, .int p9.1, .ref a0])) e ?_ (fun j31 Jj31 e => ?_)
                · intro w30 e
                  obtain ⟨p32, ep32, e⟩ := bs e
                  refine V_callV (q := 133) (As := [.int p9.1, .int w30]) (rest := []) (st' := [.int p32.1]) X (TB.get tb_X3_readStatement 70 rfl) rfl cv_RX3_168 (ok_X3_readAsked fu a0 p9.1 w30 h14 p32 ep32).1 (ok_X3_readAsked fu a0 p9.1 w30 h14 p32 ep32).2 (Nat.le_of_ble_eq_true rfl) rfl rfl (Nat.le_of_ble_eq_true rfl) rfl ?_
                  refine V_if_ne (q := 136) (t := 138) X (TB.get tb_X3_readStatement 71 rfl) rfl rfl (fun hc => ?_) (fun hc => ?_)
                  · have e := (if_neg hc).symm.trans e
                    exact Jj17 _ e
                  · have e := (if_pos hc).symm.trans e
                    refine V_iconst (v := 0) (q := 137) X (TB.get tb_X3_readStatement 72 rfl) c_iconst_0 rfl ?_
                    cases e
                    exact V_zret X hr hlk (Or.inl rfl) (TB.get tb_X3_readStatement 73 rfl)
                refine V_icmp_eq (q := 125) (t := 129) X (TB.get tb_X3_readStatement 66 rfl) rfl rfl (fun hc => ?_) (fun hc => ?_)
                · have e := (if_pos hc).symm.trans e
                  refine V_iconst (v := 0) (q := 130) X (TB.get tb_X3_readStatement 69 rfl) c_iconst_0 rfl ?_
                  exact Jj31 _ e
                · have e := (if_neg hc).symm.trans e
                  refine V_iconst (v := 1) (q := 126) X (TB.get tb_X3_readStatement 67 rfl) c_iconst_1 rfl ?_
                  refine V_goto (q := 130) X (TB.get tb_X3_readStatement 68 rfl) rfl ?_
                  exact Jj31 _ e
          refine V_icmp_lt (q := 90) (t := 105) X (TB.get tb_X3_readStatement 46 rfl) rfl rfl (fun hc => ?_) (fun hc => ?_)
          · have e := (if_pos hc).symm.trans e
            exact Jj15 _ e
          · have e := (if_neg hc).symm.trans e
            refine V_iload_n (q := 91) X (TB.get tb_X3_readStatement 47 rfl) rfl rfl rfl ?_
            refine V_iconst (v := 4) (q := 92) X (TB.get tb_X3_readStatement 48 rfl) c_iconst_4 rfl ?_
            refine V_icmp_gt (q := 95) (t := 105) X (TB.get tb_X3_readStatement 49 rfl) rfl rfl (fun hc => ?_) (fun hc => ?_)
            · have e := (if_pos hc).symm.trans e
              exact Jj15 _ e
            · have e := (if_neg hc).symm.trans e
              refine V_aload_n (q := 96) X (TB.get tb_X3_readStatement 50 rfl) rfl rfl rfl ?_
              refine V_iload_n (q := 97) X (TB.get tb_X3_readStatement 51 rfl) rfl rfl rfl ?_
              obtain ⟨p33, ep33, e⟩ := bs e
              refine V_callV (q := 100) (As := [.int p9.1]) (rest := []) (st' := [.int p33.1]) X (TB.get tb_X3_readStatement 52 rfl) rfl cv_RX3_165 (ok_X3_readSecond fu a0 p9.1 h12 p33 ep33).1 (ok_X3_readSecond fu a0 p9.1 h12 p33 ep33).2 (Nat.le_of_ble_eq_true rfl) rfl rfl (Nat.le_of_ble_eq_true rfl) rfl ?_
              refine V_if_ne (q := 103) (t := 105) X (TB.get tb_X3_readStatement 53 rfl) rfl rfl (fun hc => ?_) (fun hc => ?_)
              · have e := (if_neg hc).symm.trans e
                exact Jj15 _ e
              · have e := (if_pos hc).symm.trans e
                refine V_iconst (v := 0) (q := 104) X (TB.get tb_X3_readStatement 54 rfl) c_iconst_0 rfl ?_
                cases e
                exact V_zret X hr hlk (Or.inl rfl) (TB.get tb_X3_readStatement 55 rfl)
        refine V_icmp_ge (q := 75) (t := 85) X (TB.get tb_X3_readStatement 37 rfl) rfl rfl (fun hc => ?_) (fun hc => ?_)
        · have e := (if_pos hc).symm.trans e
          refine V_sub (lv' := [(0, .ref a0), (1, .int a1), (2, .int p9.1)]) [1, 2, 0] rfl ?_
          exact Jj13 _ e
        · have e := (if_neg hc).symm.trans e
          refine V_aload_n (q := 76) X (TB.get tb_X3_readStatement 38 rfl) rfl rfl rfl ?_
          refine V_iload_n (q := 77) X (TB.get tb_X3_readStatement 39 rfl) rfl rfl rfl ?_
          obtain ⟨p34, ep34, e⟩ := bs e
          refine V_callV (q := 80) (As := [.int p9.1]) (rest := []) (st' := [.int p34.1]) X (TB.get tb_X3_readStatement 40 rfl) rfl cv_RX3_162 (ok_X3_readFirst fu a0 p9.1 h11 p34 ep34).1 (ok_X3_readFirst fu a0 p9.1 h11 p34 ep34).2 (Nat.le_of_ble_eq_true rfl) rfl rfl (Nat.le_of_ble_eq_true rfl) rfl ?_
          refine V_if_ne (q := 83) (t := 85) X (TB.get tb_X3_readStatement 41 rfl) rfl rfl (fun hc => ?_) (fun hc => ?_)
          · have e := (if_neg hc).symm.trans e
            refine V_sub (lv' := [(0, .ref a0), (1, .int a1), (2, .int p9.1)]) [1, 2, 0] rfl ?_
            exact Jj13 _ e
          · have e := (if_pos hc).symm.trans e
            refine V_iconst (v := 0) (q := 84) X (TB.get tb_X3_readStatement 42 rfl) c_iconst_0 rfl ?_
            cases e
            exact V_zret X hr hlk (Or.inl rfl) (TB.get tb_X3_readStatement 43 rfl)
      refine V_if_ne (q := 39) (t := 43) X (TB.get tb_X3_readStatement 18 rfl) rfl rfl (fun hc => ?_) (fun hc => ?_)
      · have e := (if_neg hc).symm.trans e
        refine V_aload_n (q := 44) X (TB.get tb_X3_readStatement 21 rfl) rfl rfl rfl ?_
        obtain ⟨x35, ex35, e⟩ := bs e
        refine V_getR (q := 47) X (TB.get tb_X3_readStatement 22 rfl) rfl lf_RX3_38 ex35 ?_
        refine V_aload_n (q := 48) X (TB.get tb_X3_readStatement 23 rfl) rfl rfl rfl ?_
        refine V_getI (q := 51) X (TB.get tb_X3_readStatement 24 rfl) rfl lf_RX3_53 ex6 ?_
        refine V_iconst (v := 1) (q := 52) X (TB.get tb_X3_readStatement 25 rfl) c_iconst_1 rfl ?_
        refine V_isub (q := 53) X (TB.get tb_X3_readStatement 26 rfl) rfl ?_
        obtain ⟨x36, ex36, e⟩ := bs e
        refine V_iaload (q := 54) X (TB.get tb_X3_readStatement 27 rfl) rfl ex36 ?_
        exact Jj8 _ e
      · have e := (if_pos hc).symm.trans e
        refine V_iconst (v := -1) (q := 40) X (TB.get tb_X3_readStatement 19 rfl) c_iconst_m1 rfl ?_
        refine V_goto (q := 54) X (TB.get tb_X3_readStatement 20 rfl) rfl ?_
        exact Jj8 _ e
    · have e := (if_neg hc).symm.trans e
      refine V_sub (lv' := [(0, .ref a0)]) [0] rfl ?_
      exact Jj3 e
set_option maxRecDepth 100000 in
set_option maxHeartbeats 4000000 in
theorem ok_X3_closeBlock (fu : Nat) (a0 : Nat) (h : Hp) (res : Int32 × Hp) (e : MX3_closeBlock fu a0 h = some res) : CK yX3_closeBlock cX3_closeBlock 4 (some .boolean) 3 [.ref a0] h (some (.int res.1)) res.2 ∧ (h.1 a0).1 = 3 := by
  obtain ⟨hcl, e⟩ := h_g_inv e
  refine ⟨CK_of pn_RX3 cm_X3_closeBlock (Nat.le_of_ble_eq_true rfl) ?_, hcl⟩
  intro l D tc B nn p en s m args below meth c X hr hlk
  replace X : CX p (rmD 3) s m args c cX3_closeBlock 4 RX3 D tc 3 := X
  show V p l en (rmD 3) s m args below meth c 4 D tc B nn (Ar B nn) s.heap 0 0 (MQ below (QC D tc B nn (Ar B nn) (some (.int res.1)) res.2) args s 0 0 (Ar B nn)) h 0 [(0, .ref a0)] []
  refine V_aload_n (q := 1) X (TB.get tb_X3_closeBlock 0 rfl) rfl rfl rfl ?_
  obtain ⟨x1, ex1, e⟩ := bs e
  refine V_getI (q := 4) X (TB.get tb_X3_closeBlock 1 rfl) rfl lf_RX3_53 ex1 ?_
  refine V_iconst (v := 1) (q := 5) X (TB.get tb_X3_closeBlock 2 rfl) c_iconst_1 rfl ?_
  refine V_isub (q := 6) X (TB.get tb_X3_closeBlock 3 rfl) rfl ?_
  refine V_istore_n (q := 7) (lv' := [(1, .int (x1 - (1 : Int32))), (0, .ref a0)]) X (TB.get tb_X3_closeBlock 4 rfl) rfl rfl (Nat.le_of_ble_eq_true rfl) rfl ?_
  refine V_aload_n (q := 8) X (TB.get tb_X3_closeBlock 5 rfl) rfl rfl rfl ?_
  obtain ⟨x2, ex2, e⟩ := bs e
  refine V_getR (q := 11) X (TB.get tb_X3_closeBlock 6 rfl) rfl lf_RX3_38 ex2 ?_
  refine V_iload_n (q := 12) X (TB.get tb_X3_closeBlock 7 rfl) rfl rfl rfl ?_
  obtain ⟨x3, ex3, e⟩ := bs e
  refine V_iaload (q := 13) X (TB.get tb_X3_closeBlock 8 rfl) rfl ex3 ?_
  refine V_istore_n (q := 14) (lv' := [(2, .int x3), (1, .int (x1 - (1 : Int32))), (0, .ref a0)]) X (TB.get tb_X3_closeBlock 9 rfl) rfl rfl (Nat.le_of_ble_eq_true rfl) rfl ?_
  refine V_aload_n (q := 15) X (TB.get tb_X3_closeBlock 10 rfl) rfl rfl rfl ?_
  obtain ⟨x4, ex4, e⟩ := bs e
  refine V_getR (q := 18) X (TB.get tb_X3_closeBlock 11 rfl) rfl lf_RX3_12 ex4 ?_
  obtain ⟨h5, eh5, e⟩ := bs e
  refine V_callV (q := 21) (As := []) (rest := []) (st' := []) X (TB.get tb_X3_closeBlock 12 rfl) rfl cv_RX3_109 (ok_X7_advance fu x4 h h5 eh5).1 (ok_X7_advance fu x4 h h5 eh5).2 (Nat.le_of_ble_eq_true rfl) rfl rfl (Nat.le_of_ble_eq_true rfl) rfl ?_
  refine V_aload_n (q := 22) X (TB.get tb_X3_closeBlock 13 rfl) rfl rfl rfl ?_
  obtain ⟨x6, ex6, e⟩ := bs e
  refine V_getR (q := 25) X (TB.get tb_X3_closeBlock 14 rfl) rfl lf_RX3_42 ex6 ?_
  refine V_iload_n (q := 26) X (TB.get tb_X3_closeBlock 15 rfl) rfl rfl rfl ?_
  obtain ⟨x7, ex7, e⟩ := bs e
  refine V_baloadZ (q := 27) X (TB.get tb_X3_closeBlock 16 rfl) rfl ex7 ?_
  refine jn_elim (P := (fun (k : Hp → Option (Int32 × Hp)) => ∀ (h8 : Hp), k h8 = some res → V p l en (rmD 3) s m args below meth c 4 D tc B nn (Ar B nn) s.heap 0 0 (MQ below (QC D tc B nn (Ar B nn) (some (.int res.1)) res.2) args s 0 0 (Ar B nn)) h8 46 [(0, .ref a0), (1, .int (x1 - (1 : Int32))), (2, .int x3)] [])) e ?_ (fun j9 Jj9 e => ?_)
  · intro h8 e
    refine V_aload_n (q := 47) X (TB.get tb_X3_closeBlock 26 rfl) rfl rfl rfl ?_
    obtain ⟨x10, ex10, e⟩ := bs e
    refine V_getR (q := 50) X (TB.get tb_X3_closeBlock 27 rfl) rfl lf_RX3_21 ex10 ?_
    obtain ⟨x11, ex11, e⟩ := bs e
    refine V_getR (q := 53) X (TB.get tb_X3_closeBlock 28 rfl) rfl lf_RX3_190 ex11 ?_
    refine V_iload_n (q := 54) X (TB.get tb_X3_closeBlock 29 rfl) rfl rfl rfl ?_
    obtain ⟨x12, ex12, e⟩ := bs e
    refine V_iaload (q := 55) X (TB.get tb_X3_closeBlock 30 rfl) rfl ex12 ?_
    refine V_bipush (v := 7) (q := 57) X (TB.get tb_X3_closeBlock 31 rfl) c_bipush_7 rfl ?_
    refine jn_elim (P := (fun (k : Int32 → Option (Int32 × Hp)) => ∀ (w13 : Int32), k w13 = some res → V p l en (rmD 3) s m args below meth c 4 D tc B nn (Ar B nn) s.heap 0 0 (MQ below (QC D tc B nn (Ar B nn) (some (.int res.1)) res.2) args s 0 0 (Ar B nn)) h8 79 [(0, .ref a0), (1, .int (x1 - (1 : Int32))), (2, .int x3)] [.int w13])) e ?_ (fun j14 Jj14 e => ?_)
    · intro w13 e
      refine V_istore_n (q := 80) (lv' := [(3, .int w13), (0, .ref a0), (1, .int (x1 - (1 : Int32))), (2, .int x3)]) X (TB.get tb_X3_closeBlock 43 rfl) rfl rfl (Nat.le_of_ble_eq_true rfl) rfl ?_
      refine V_iload_n (q := 81) X (TB.get tb_X3_closeBlock 44 rfl) rfl rfl rfl ?_
      refine jn_elim (P := (fun (k : Option (Int32 × Hp)) => k = some res → V p l en (rmD 3) s m args below meth c 4 D tc B nn (Ar B nn) s.heap 0 0 (MQ below (QC D tc B nn (Ar B nn) (some (.int res.1)) res.2) args s 0 0 (Ar B nn)) h8 126 [(0, .ref a0), (1, .int (x1 - (1 : Int32))), (2, .int x3)] [])) e ?_ (fun j15 Jj15 e => ?_)
      · intro e
        refine V_aload_n (q := 127) X (TB.get tb_X3_closeBlock 68 rfl) rfl rfl rfl ?_
        refine V_getR (q := 130) X (TB.get tb_X3_closeBlock 69 rfl) rfl lf_RX3_21 ex10 ?_
        obtain ⟨x16, ex16, e⟩ := bs e
        refine V_getR (q := 133) X (TB.get tb_X3_closeBlock 70 rfl) rfl lf_RX3_193 ex16 ?_
        refine V_iload_n (q := 134) X (TB.get tb_X3_closeBlock 71 rfl) rfl rfl rfl ?_
        refine V_aload_n (q := 135) X (TB.get tb_X3_closeBlock 72 rfl) rfl rfl rfl ?_
        refine V_getR (q := 138) X (TB.get tb_X3_closeBlock 73 rfl) rfl lf_RX3_21 ex10 ?_
        obtain ⟨x17, ex17, e⟩ := bs e
        refine V_getI (q := 141) X (TB.get tb_X3_closeBlock 74 rfl) rfl lf_RX3_82 ex17 ?_
        obtain ⟨h18, eh18, e⟩ := bs e
        refine V_iastore (q := 142) X (TB.get tb_X3_closeBlock 75 rfl) rfl eh18 ?_
        refine V_aload_n (q := 143) X (TB.get tb_X3_closeBlock 76 rfl) rfl rfl rfl ?_
        refine V_iload_n (q := 144) X (TB.get tb_X3_closeBlock 77 rfl) rfl rfl rfl ?_
        obtain ⟨h19, eh19, e⟩ := bs e
        refine V_putI (q := 147) X (TB.get tb_X3_closeBlock 78 rfl) rfl lq_RX3_53 eh19 ?_
        refine V_iconst (v := 1) (q := 148) X (TB.get tb_X3_closeBlock 79 rfl) c_iconst_1 rfl ?_
        cases e
        exact V_zret X hr hlk (Or.inr rfl) (TB.get tb_X3_closeBlock 80 rfl)
      refine V_if_eq (q := 84) (t := 126) X (TB.get tb_X3_closeBlock 45 rfl) rfl rfl (fun hc => ?_) (fun hc => ?_)
      · have e := (if_pos hc).symm.trans e
        refine V_sub (lv' := [(0, .ref a0), (1, .int (x1 - (1 : Int32))), (2, .int x3)]) [1, 2, 3] rfl ?_
        exact Jj15 e
      · have e := (if_neg hc).symm.trans e
        refine V_aload_n (q := 85) X (TB.get tb_X3_closeBlock 46 rfl) rfl rfl rfl ?_
        obtain ⟨x20, ex20, e⟩ := bs e
        refine V_getR (q := 88) X (TB.get tb_X3_closeBlock 47 rfl) rfl lf_RX3_42 ex20 ?_
        refine V_iload_n (q := 89) X (TB.get tb_X3_closeBlock 48 rfl) rfl rfl rfl ?_
        obtain ⟨x21, ex21, e⟩ := bs e
        refine V_baloadZ (q := 90) X (TB.get tb_X3_closeBlock 49 rfl) rfl ex21 ?_
        refine V_if_ne (q := 93) (t := 126) X (TB.get tb_X3_closeBlock 50 rfl) rfl rfl (fun hc => ?_) (fun hc => ?_)
        · have e := (if_neg hc).symm.trans e
          refine V_sub (lv' := [(0, .ref a0), (1, .int (x1 - (1 : Int32))), (2, .int x3)]) [1, 2, 3] rfl ?_
          exact Jj15 e
        · have e := (if_pos hc).symm.trans e
          refine V_aload_n (q := 94) X (TB.get tb_X3_closeBlock 51 rfl) rfl rfl rfl ?_
          obtain ⟨x22, ex22, e⟩ := bs e
          refine V_getR (q := 97) X (TB.get tb_X3_closeBlock 52 rfl) rfl lf_RX3_12 ex22 ?_
          obtain ⟨x23, ex23, e⟩ := bs e
          refine V_getI (q := 100) X (TB.get tb_X3_closeBlock 53 rfl) rfl lf_RX3_72 ex23 ?_
          refine V_bipush (v := 6) (q := 102) X (TB.get tb_X3_closeBlock 54 rfl) c_bipush_6 rfl ?_
          refine V_icmp_ne (q := 105) (t := 126) X (TB.get tb_X3_closeBlock 55 rfl) rfl rfl (fun hc => ?_) (fun hc => ?_)
          · have e := (if_neg hc).symm.trans e
            refine V_sub (lv' := [(0, .ref a0), (1, .int (x1 - (1 : Int32))), (2, .int x3)]) [1, 2, 3] rfl ?_
            exact Jj15 e
          · have e := (if_pos hc).symm.trans e
            refine V_aload_n (q := 106) X (TB.get tb_X3_closeBlock 56 rfl) rfl rfl rfl ?_
            refine V_getR (q := 109) X (TB.get tb_X3_closeBlock 57 rfl) rfl lf_RX3_42 ex20 ?_
            refine V_iload_n (q := 110) X (TB.get tb_X3_closeBlock 58 rfl) rfl rfl rfl ?_
            refine V_iconst (v := 1) (q := 111) X (TB.get tb_X3_closeBlock 59 rfl) c_iconst_1 rfl ?_
            obtain ⟨h24, eh24, e⟩ := bs e
            refine V_bastoreZ (q := 112) X (TB.get tb_X3_closeBlock 60 rfl) rfl eh24 ?_
            refine V_aload_n (q := 113) X (TB.get tb_X3_closeBlock 61 rfl) rfl rfl rfl ?_
            obtain ⟨x25, ex25, e⟩ := bs e
            refine V_getR (q := 116) X (TB.get tb_X3_closeBlock 62 rfl) rfl lf_RX3_12 ex25 ?_
            obtain ⟨h26, eh26, e⟩ := bs e
            refine V_callV (q := 119) (As := []) (rest := []) (st' := []) X (TB.get tb_X3_closeBlock 63 rfl) rfl cv_RX3_109 (ok_X7_advance fu x25 h24 h26 eh26).1 (ok_X7_advance fu x25 h24 h26 eh26).2 (Nat.le_of_ble_eq_true rfl) rfl rfl (Nat.le_of_ble_eq_true rfl) rfl ?_
            refine V_aload_n (q := 120) X (TB.get tb_X3_closeBlock 64 rfl) rfl rfl rfl ?_
            refine V_bipush (v := 20) (q := 122) X (TB.get tb_X3_closeBlock 65 rfl) c_bipush_20 rfl ?_
            obtain ⟨p27, ep27, e⟩ := bs e
            refine V_callV (q := 125) (As := [.int (20 : Int32)]) (rest := []) (st' := [.int p27.1]) X (TB.get tb_X3_closeBlock 66 rfl) rfl cv_RX3_127 (ok_X3_takeSign fu a0 (20 : Int32) h26 p27 ep27).1 (ok_X3_takeSign fu a0 (20 : Int32) h26 p27 ep27).2 (Nat.le_of_ble_eq_true rfl) rfl rfl (Nat.le_of_ble_eq_true rfl) rfl ?_
            obtain ⟨z28, ez28, e⟩ := bs e
            cases e
            exact V_zretH X hr hlk ez28 (TB.get tb_X3_closeBlock 67 rfl)
    refine jn_elim (P := (fun (k : Option (Int32 × Hp)) => k = some res → V p l en (rmD 3) s m args below meth c 4 D tc B nn (Ar B nn) s.heap 0 0 (MQ below (QC D tc B nn (Ar B nn) (some (.int res.1)) res.2) args s 0 0 (Ar B nn)) h8 74 [(0, .ref a0), (1, .int (x1 - (1 : Int32))), (2, .int x3)] [])) e ?_ (fun j29 Jj29 e => ?_)
    · intro e
      refine V_iconst (v := 1) (q := 75) X (TB.get tb_X3_closeBlock 40 rfl) c_iconst_1 rfl ?_
      refine V_goto (q := 79) X (TB.get tb_X3_closeBlock 41 rfl) rfl ?_
      exact Jj14 _ e
    refine V_icmp_eq (q := 60) (t := 74) X (TB.get tb_X3_closeBlock 32 rfl) rfl rfl (fun hc => ?_) (fun hc => ?_)
    · have e := (if_pos hc).symm.trans e
      exact Jj29 e
    · have e := (if_neg hc).symm.trans e
      refine V_aload_n (q := 61) X (TB.get tb_X3_closeBlock 33 rfl) rfl rfl rfl ?_
      refine V_getR (q := 64) X (TB.get tb_X3_closeBlock 34 rfl) rfl lf_RX3_21 ex10 ?_
      refine V_getR (q := 67) X (TB.get tb_X3_closeBlock 35 rfl) rfl lf_RX3_190 ex11 ?_
      refine V_iload_n (q := 68) X (TB.get tb_X3_closeBlock 36 rfl) rfl rfl rfl ?_
      refine V_iaload (q := 69) X (TB.get tb_X3_closeBlock 37 rfl) rfl ex12 ?_
      refine V_bipush (v := 9) (q := 71) X (TB.get tb_X3_closeBlock 38 rfl) c_bipush_9 rfl ?_
      refine V_icmp_ne (q := 74) (t := 78) X (TB.get tb_X3_closeBlock 39 rfl) rfl rfl (fun hc => ?_) (fun hc => ?_)
      · have e := (if_neg hc).symm.trans e
        refine V_iconst (v := 0) (q := 79) X (TB.get tb_X3_closeBlock 42 rfl) c_iconst_0 rfl ?_
        exact Jj14 _ e
      · have e := (if_pos hc).symm.trans e
        exact Jj29 e
  refine V_if_ne (q := 30) (t := 46) X (TB.get tb_X3_closeBlock 17 rfl) rfl rfl (fun hc => ?_) (fun hc => ?_)
  · have e := (if_neg hc).symm.trans e
    refine V_sub (lv' := [(0, .ref a0), (1, .int (x1 - (1 : Int32))), (2, .int x3)]) [2, 1, 0] rfl ?_
    exact Jj9 _ e
  · have e := (if_pos hc).symm.trans e
    refine V_aload_n (q := 31) X (TB.get tb_X3_closeBlock 18 rfl) rfl rfl rfl ?_
    obtain ⟨x30, ex30, e⟩ := bs e
    refine V_getR (q := 34) X (TB.get tb_X3_closeBlock 19 rfl) rfl lf_RX3_21 ex30 ?_
    obtain ⟨x31, ex31, e⟩ := bs e
    refine V_getR (q := 37) X (TB.get tb_X3_closeBlock 20 rfl) rfl lf_RX3_187 ex31 ?_
    refine V_iload_n (q := 38) X (TB.get tb_X3_closeBlock 21 rfl) rfl rfl rfl ?_
    refine V_aload_n (q := 39) X (TB.get tb_X3_closeBlock 22 rfl) rfl rfl rfl ?_
    refine V_getR (q := 42) X (TB.get tb_X3_closeBlock 23 rfl) rfl lf_RX3_21 ex30 ?_
    obtain ⟨x32, ex32, e⟩ := bs e
    refine V_getI (q := 45) X (TB.get tb_X3_closeBlock 24 rfl) rfl lf_RX3_82 ex32 ?_
    obtain ⟨h33, eh33, e⟩ := bs e
    refine V_iastore (q := 46) X (TB.get tb_X3_closeBlock 25 rfl) rfl eh33 ?_
    refine V_sub (lv' := [(0, .ref a0), (1, .int (x1 - (1 : Int32))), (2, .int x3)]) [2, 1, 0] rfl ?_
    exact Jj9 _ e
set_option maxRecDepth 100000 in
set_option maxHeartbeats 4000000 in
theorem ok_X3_isNewName (fu : Nat) (a0 : Nat) (a1 : Nat) (a2 : Int32) (a3 : Int32) (h : Hp) (res : Int32 × Hp) (e : MX3_isNewName fu a0 a1 a2 a3 h = some res) : CK yX3_isNewName cX3_isNewName 4 (some .boolean) 1 [.ref a0, .ref a1, .int a2, .int a3] h (some (.int res.1)) res.2 ∧ (h.1 a0).1 = 3 := by
  obtain ⟨hcl, e⟩ := h_g_inv e
  refine ⟨CK_of pn_RX3 cm_X3_isNewName (Nat.le_of_ble_eq_true rfl) ?_, hcl⟩
  intro l D tc B nn p en s m args below meth c X hr hlk
  replace X : CX p (rmD 1) s m args c cX3_isNewName 4 RX3 D tc 1 := X
  show V p l en (rmD 1) s m args below meth c 4 D tc B nn (Ar B nn) s.heap 0 0 (MQ below (QC D tc B nn (Ar B nn) (some (.int res.1)) res.2) args s 0 0 (Ar B nn)) h 0 [(0, .ref a0), (1, .ref a1), (2, .int a2), (3, .int a3)] []
  refine V_aload_n (q := 1) X (TB.get tb_X3_isNewName 0 rfl) rfl rfl rfl ?_
  obtain ⟨x1, ex1, e⟩ := bs e
  refine V_getR (q := 4) X (TB.get tb_X3_isNewName 1 rfl) rfl lf_RX3_12 ex1 ?_
  obtain ⟨x2, ex2, e⟩ := bs e
  refine V_getI (q := 7) X (TB.get tb_X3_isNewName 2 rfl) rfl lf_RX3_72 ex2 ?_
  refine V_bipush (v := 18) (q := 9) X (TB.get tb_X3_isNewName 3 rfl) c_bipush_18 rfl ?_
  refine V_icmp_eq (q := 12) (t := 18) X (TB.get tb_X3_isNewName 4 rfl) rfl rfl (fun hc => ?_) (fun hc => ?_)
  · have e := (if_pos hc).symm.trans e
    refine V_aload_n (q := 19) X (TB.get tb_X3_isNewName 9 rfl) rfl rfl rfl ?_
    refine V_aload_n (q := 20) X (TB.get tb_X3_isNewName 10 rfl) rfl rfl rfl ?_
    refine V_iload_n (q := 21) X (TB.get tb_X3_isNewName 11 rfl) rfl rfl rfl ?_
    refine V_iload_n (q := 22) X (TB.get tb_X3_isNewName 12 rfl) rfl rfl rfl ?_
    obtain ⟨x3, ex3, e⟩ := bs e
    refine V_callV (q := 25) (As := [.ref a1, .int a2, .int a3]) (rest := []) (st' := [.int x3]) X (TB.get tb_X3_isNewName 13 rfl) rfl cv_RX3_196 (ok_X3_find fu a0 a1 a2 a3 h x3 ex3).1 (ok_X3_find fu a0 a1 a2 a3 h x3 ex3).2 (Nat.le_of_ble_eq_true rfl) rfl rfl (Nat.le_of_ble_eq_true rfl) rfl ?_
    refine V_iconst (v := -1) (q := 26) X (TB.get tb_X3_isNewName 14 rfl) c_iconst_m1 rfl ?_
    refine jn_elim (P := (fun (k : Hp → Option (Int32 × Hp)) => ∀ (h4 : Hp), k h4 = some res → V p l en (rmD 1) s m args below meth c 4 D tc B nn (Ar B nn) s.heap 0 0 (MQ below (QC D tc B nn (Ar B nn) (some (.int res.1)) res.2) args s 0 0 (Ar B nn)) h4 37 [] [])) e ?_ (fun j5 Jj5 e => ?_)
    · intro h4 e
      refine V_iconst (v := 1) (q := 38) X (TB.get tb_X3_isNewName 20 rfl) c_iconst_1 rfl ?_
      refine V_goto (q := 42) X (TB.get tb_X3_isNewName 21 rfl) rfl ?_
      cases e
      exact V_zret X hr hlk (Or.inr rfl) (TB.get tb_X3_isNewName 23 rfl)
    refine V_icmp_eq (q := 29) (t := 37) X (TB.get tb_X3_isNewName 15 rfl) rfl rfl (fun hc => ?_) (fun hc => ?_)
    · have e := (if_pos hc).symm.trans e
      refine V_sub (lv' := []) [] rfl ?_
      exact Jj5 _ e
    · have e := (if_neg hc).symm.trans e
      refine V_aload_n (q := 30) X (TB.get tb_X3_isNewName 16 rfl) rfl rfl rfl ?_
      refine V_iconst (v := 4) (q := 31) X (TB.get tb_X3_isNewName 17 rfl) c_iconst_4 rfl ?_
      obtain ⟨p6, ep6, e⟩ := bs e
      refine V_callV (q := 34) (As := [.int (4 : Int32)]) (rest := []) (st' := [.int p6.1]) X (TB.get tb_X3_isNewName 18 rfl) rfl cv_RX3_85 (ok_X3_fail a0 (4 : Int32) h p6 ep6).1 (ok_X3_fail a0 (4 : Int32) h p6 ep6).2 (Nat.le_of_ble_eq_true rfl) rfl rfl (Nat.le_of_ble_eq_true rfl) rfl ?_
      refine V_if_eq (q := 37) (t := 41) X (TB.get tb_X3_isNewName 19 rfl) rfl rfl (fun hc => ?_) (fun hc => ?_)
      · have e := (if_pos hc).symm.trans e
        refine V_iconst (v := 0) (q := 42) X (TB.get tb_X3_isNewName 22 rfl) c_iconst_0 rfl ?_
        cases e
        exact V_zret X hr hlk (Or.inl rfl) (TB.get tb_X3_isNewName 23 rfl)
      · have e := (if_neg hc).symm.trans e
        refine V_sub (lv' := []) [] rfl ?_
        exact Jj5 _ e
  · have e := (if_neg hc).symm.trans e
    refine V_aload_n (q := 13) X (TB.get tb_X3_isNewName 5 rfl) rfl rfl rfl ?_
    refine V_iconst (v := 2) (q := 14) X (TB.get tb_X3_isNewName 6 rfl) c_iconst_2 rfl ?_
    obtain ⟨p7, ep7, e⟩ := bs e
    refine V_callV (q := 17) (As := [.int (2 : Int32)]) (rest := []) (st' := [.int p7.1]) X (TB.get tb_X3_isNewName 7 rfl) rfl cv_RX3_85 (ok_X3_fail a0 (2 : Int32) h p7 ep7).1 (ok_X3_fail a0 (2 : Int32) h p7 ep7).2 (Nat.le_of_ble_eq_true rfl) rfl rfl (Nat.le_of_ble_eq_true rfl) rfl ?_
    obtain ⟨z8, ez8, e⟩ := bs e
    cases e
    exact V_zretH X hr hlk ez8 (TB.get tb_X3_isNewName 8 rfl)
set_option maxRecDepth 100000 in
set_option maxHeartbeats 4000000 in
theorem ok_X3_readKind (fu : Nat) (a0 : Nat) (h : Hp) (res : Int32 × Hp) (e : MX3_readKind fu a0 h = some res) : CK yX3_readKind cX3_readKind 4 (some .boolean) 3 [.ref a0] h (some (.int res.1)) res.2 ∧ (h.1 a0).1 = 3 := by
  obtain ⟨hcl, e⟩ := h_g_inv e
  refine ⟨CK_of pn_RX3 cm_X3_readKind (Nat.le_of_ble_eq_true rfl) ?_, hcl⟩
  intro l D tc B nn p en s m args below meth c X hr hlk
  replace X : CX p (rmD 3) s m args c cX3_readKind 4 RX3 D tc 3 := X
  show V p l en (rmD 3) s m args below meth c 4 D tc B nn (Ar B nn) s.heap 0 0 (MQ below (QC D tc B nn (Ar B nn) (some (.int res.1)) res.2) args s 0 0 (Ar B nn)) h 0 [(0, .ref a0)] []
  refine V_aload_n (q := 1) X (TB.get tb_X3_readKind 0 rfl) rfl rfl rfl ?_
  obtain ⟨x1, ex1, e⟩ := bs e
  refine V_getR (q := 4) X (TB.get tb_X3_readKind 1 rfl) rfl lf_RX3_21 ex1 ?_
  obtain ⟨x2, ex2, e⟩ := bs e
  refine V_getR (q := 7) X (TB.get tb_X3_readKind 2 rfl) rfl lf_RX3_100 ex2 ?_
  refine V_astore_n (q := 8) (lv' := [(1, .ref x2), (0, .ref a0)]) X (TB.get tb_X3_readKind 3 rfl) rfl rfl (Nat.le_of_ble_eq_true rfl) rfl ?_
  refine V_aload_n (q := 9) X (TB.get tb_X3_readKind 4 rfl) rfl rfl rfl ?_
  obtain ⟨x3, ex3, e⟩ := bs e
  refine V_getI (q := 12) X (TB.get tb_X3_readKind 5 rfl) rfl lf_RX3_104 ex3 ?_
  refine V_iconst (v := 4) (q := 13) X (TB.get tb_X3_readKind 6 rfl) c_iconst_4 rfl ?_
  refine V_icmp_lt (q := 16) (t := 23) X (TB.get tb_X3_readKind 7 rfl) rfl rfl (fun hc => ?_) (fun hc => ?_)
  · have e := (if_pos hc).symm.trans e
    refine V_aload_n (q := 24) X (TB.get tb_X3_readKind 12 rfl) rfl rfl rfl ?_
    obtain ⟨x4, ex4, e⟩ := bs e
    refine V_getR (q := 27) X (TB.get tb_X3_readKind 13 rfl) rfl lf_RX3_12 ex4 ?_
    obtain ⟨h5, eh5, e⟩ := bs e
    refine V_callV (q := 30) (As := []) (rest := []) (st' := []) X (TB.get tb_X3_readKind 14 rfl) rfl cv_RX3_109 (ok_X7_advance fu x4 h h5 eh5).1 (ok_X7_advance fu x4 h h5 eh5).2 (Nat.le_of_ble_eq_true rfl) rfl rfl (Nat.le_of_ble_eq_true rfl) rfl ?_
    refine V_aload_n (q := 31) X (TB.get tb_X3_readKind 15 rfl) rfl rfl rfl ?_
    refine V_aload_n (q := 32) X (TB.get tb_X3_readKind 16 rfl) rfl rfl rfl ?_
    obtain ⟨x6, ex6, e⟩ := bs e
    refine V_getR (q := 35) X (TB.get tb_X3_readKind 17 rfl) rfl lf_RX3_25 ex6 ?_
    refine V_iconst (v := 0) (q := 36) X (TB.get tb_X3_readKind 18 rfl) c_iconst_0 rfl ?_
    refine V_aload_n (q := 37) X (TB.get tb_X3_readKind 19 rfl) rfl rfl rfl ?_
    obtain ⟨x7, ex7, e⟩ := bs e
    refine V_getI (q := 40) X (TB.get tb_X3_readKind 20 rfl) rfl lf_RX3_104 ex7 ?_
    obtain ⟨p8, ep8, e⟩ := bs e
    refine V_callV (q := 43) (As := [.ref x6, .int (0 : Int32), .int x7]) (rest := []) (st' := [.int p8.1]) X (TB.get tb_X3_readKind 21 rfl) rfl cv_RX3_112 (ok_X3_isNewName fu a0 x6 (0 : Int32) x7 h5 p8 ep8).1 (ok_X3_isNewName fu a0 x6 (0 : Int32) x7 h5 p8 ep8).2 (Nat.le_of_ble_eq_true rfl) rfl rfl (Nat.le_of_ble_eq_true rfl) rfl ?_
    refine V_if_ne (q := 46) (t := 48) X (TB.get tb_X3_readKind 22 rfl) rfl rfl (fun hc => ?_) (fun hc => ?_)
    · have e := (if_neg hc).symm.trans e
      refine V_aload_n (q := 49) X (TB.get tb_X3_readKind 25 rfl) rfl rfl rfl ?_
      obtain ⟨p9, ep9, e⟩ := bs e
      refine V_callV (q := 52) (As := []) (rest := []) (st' := [.int p9.1]) X (TB.get tb_X3_readKind 26 rfl) rfl cv_RX3_116 (ok_X2_addKind x2 p8.2 p9 ep9).1 (ok_X2_addKind x2 p8.2 p9 ep9).2 (Nat.le_of_ble_eq_true rfl) rfl rfl (Nat.le_of_ble_eq_true rfl) rfl ?_
      refine V_istore_n (q := 53) (lv' := [(2, .int p9.1), (1, .ref x2), (0, .ref a0)]) X (TB.get tb_X3_readKind 27 rfl) rfl rfl (Nat.le_of_ble_eq_true rfl) rfl ?_
      refine V_aload_n (q := 54) X (TB.get tb_X3_readKind 28 rfl) rfl rfl rfl ?_
      obtain ⟨x10, ex10, e⟩ := bs e
      refine V_getR (q := 57) X (TB.get tb_X3_readKind 29 rfl) rfl lf_RX3_25 ex10 ?_
      refine V_iload_n (q := 58) X (TB.get tb_X3_readKind 30 rfl) rfl rfl rfl ?_
      refine V_aload_n (q := 59) X (TB.get tb_X3_readKind 31 rfl) rfl rfl rfl ?_
      obtain ⟨x11, ex11, e⟩ := bs e
      refine V_getR (q := 62) X (TB.get tb_X3_readKind 32 rfl) rfl lf_RX3_12 ex11 ?_
      obtain ⟨x12, ex12, e⟩ := bs e
      refine V_getL (q := 65) X (TB.get tb_X3_readKind 33 rfl) rfl lf_RX3_120 ex12 ?_
      obtain ⟨h13, eh13, e⟩ := bs e
      refine V_lastore (q := 66) X (TB.get tb_X3_readKind 34 rfl) rfl eh13 ?_
      refine V_aload_n (q := 67) X (TB.get tb_X3_readKind 35 rfl) rfl rfl rfl ?_
      obtain ⟨x14, ex14, e⟩ := bs e
      refine V_getR (q := 70) X (TB.get tb_X3_readKind 36 rfl) rfl lf_RX3_12 ex14 ?_
      obtain ⟨h15, eh15, e⟩ := bs e
      refine V_callV (q := 73) (As := []) (rest := []) (st' := []) X (TB.get tb_X3_readKind 37 rfl) rfl cv_RX3_109 (ok_X7_advance fu x14 h13 h15 eh15).1 (ok_X7_advance fu x14 h13 h15 eh15).2 (Nat.le_of_ble_eq_true rfl) rfl rfl (Nat.le_of_ble_eq_true rfl) rfl ?_
      refine V_iconst (v := 0) (q := 74) X (TB.get tb_X3_readKind 38 rfl) c_iconst_0 rfl ?_
      refine V_istore_n (q := 75) (lv' := [(3, .int (0 : Int32)), (2, .int p9.1), (1, .ref x2), (0, .ref a0)]) X (TB.get tb_X3_readKind 39 rfl) rfl rfl (Nat.le_of_ble_eq_true rfl) rfl ?_
      refine jn_elim (P := (fun (k : Hp → Option (Int32 × Hp)) => ∀ (h16 : Hp), k h16 = some res → V p l en (rmD 3) s m args below meth c 4 D tc B nn (Ar B nn) s.heap 0 0 (MQ below (QC D tc B nn (Ar B nn) (some (.int res.1)) res.2) args s 0 0 (Ar B nn)) h16 168 [(0, .ref a0)] [])) e ?_ (fun j17 Jj17 e => ?_)
      · intro h16 e
        refine V_aload_n (q := 169) X (TB.get tb_X3_readKind 91 rfl) rfl rfl rfl ?_
        refine V_bipush (v := 19) (q := 171) X (TB.get tb_X3_readKind 92 rfl) c_bipush_19 rfl ?_
        obtain ⟨p18, ep18, e⟩ := bs e
        refine V_callV (q := 174) (As := [.int (19 : Int32)]) (rest := []) (st' := [.int p18.1]) X (TB.get tb_X3_readKind 93 rfl) rfl cv_RX3_127 (ok_X3_takeSign fu a0 (19 : Int32) h16 p18 ep18).1 (ok_X3_takeSign fu a0 (19 : Int32) h16 p18 ep18).2 (Nat.le_of_ble_eq_true rfl) rfl rfl (Nat.le_of_ble_eq_true rfl) rfl ?_
        obtain ⟨z19, ez19, e⟩ := bs e
        cases e
        exact V_zretH X hr hlk ez19 (TB.get tb_X3_readKind 94 rfl)
      refine jn_elim (P := (fun (k : Hp → Option (Int32 × Hp)) => ∀ (h20 : Hp), k h20 = some res → V p l en (rmD 3) s m args below meth c 4 D tc B nn (Ar B nn) s.heap 0 0 (MQ below (QC D tc B nn (Ar B nn) (some (.int res.1)) res.2) args s 0 0 (Ar B nn)) h20 121 [(0, .ref a0)] [])) e ?_ (fun j21 Jj21 e => ?_)
      · intro h20 e
        refine V_aload_n (q := 122) X (TB.get tb_X3_readKind 64 rfl) rfl rfl rfl ?_
        refine V_bipush (v := 6) (q := 124) X (TB.get tb_X3_readKind 65 rfl) c_bipush_6 rfl ?_
        obtain ⟨p22, ep22, e⟩ := bs e
        refine V_callV (q := 127) (As := [.int (6 : Int32)]) (rest := []) (st' := [.int p22.1]) X (TB.get tb_X3_readKind 66 rfl) rfl cv_RX3_85 (ok_X3_fail a0 (6 : Int32) h20 p22 ep22).1 (ok_X3_fail a0 (6 : Int32) h20 p22 ep22).2 (Nat.le_of_ble_eq_true rfl) rfl rfl (Nat.le_of_ble_eq_true rfl) rfl ?_
        obtain ⟨z23, ez23, e⟩ := bs e
        cases e
        exact V_zretH X hr hlk ez23 (TB.get tb_X3_readKind 67 rfl)
      refine V_sub (lv' := [(0, .ref a0), (1, .ref x2), (2, .int p9.1), (3, .int (0 : Int32))]) [3, 2, 1, 0] rfl ?_
      refine wh2_elim (P := fun v24 h25 => V p l en (rmD 3) s m args below meth c 4 D tc B nn (Ar B nn) s.heap 0 0 (MQ below (QC D tc B nn (Ar B nn) (some (.int res.1)) res.2) args s 0 0 (Ar B nn)) h25 75 [(0, .ref a0), (1, .ref x2), (2, .int p9.1), (3, .int v24)] []) (f := fu) ?_ e
      intro self26 v24 h25 ihself26 e
      unfold MX3_readKind_B75 at e
      refine V_iload_n (q := 76) X (TB.get tb_X3_readKind 40 rfl) rfl rfl rfl ?_
      refine V_bipush (v := 6) (q := 78) X (TB.get tb_X3_readKind 41 rfl) c_bipush_6 rfl ?_
      refine V_icmp_gt (q := 81) (t := 168) X (TB.get tb_X3_readKind 42 rfl) rfl rfl (fun hc => ?_) (fun hc => ?_)
      · have e := (if_pos hc).symm.trans e
        refine V_sub (lv' := [(0, .ref a0)]) [0] rfl ?_
        exact Jj17 _ e
      · have e := (if_neg hc).symm.trans e
        refine V_iload_n (q := 82) X (TB.get tb_X3_readKind 43 rfl) rfl rfl rfl ?_
        refine jn_elim (P := (fun (k : Option (Int32 × Hp)) => k = some res → V p l en (rmD 3) s m args below meth c 4 D tc B nn (Ar B nn) s.heap 0 0 (MQ below (QC D tc B nn (Ar B nn) (some (.int res.1)) res.2) args s 0 0 (Ar B nn)) h25 97 [(0, .ref a0), (1, .ref x2), (2, .int p9.1), (3, .int v24)] [])) e ?_ (fun j27 Jj27 e => ?_)
        · intro e
          refine V_aload_n (q := 98) X (TB.get tb_X3_readKind 50 rfl) rfl rfl rfl ?_
          refine V_aload_n (q := 99) X (TB.get tb_X3_readKind 51 rfl) rfl rfl rfl ?_
          obtain ⟨x28, ex28, e⟩ := bs e
          refine V_getR (q := 102) X (TB.get tb_X3_readKind 52 rfl) rfl lf_RX3_29 ex28 ?_
          refine V_iload_n (q := 103) X (TB.get tb_X3_readKind 53 rfl) rfl rfl rfl ?_
          refine V_bipush (v := 6) (q := 105) X (TB.get tb_X3_readKind 54 rfl) c_bipush_6 rfl ?_
          refine V_imul (q := 106) X (TB.get tb_X3_readKind 55 rfl) rfl ?_
          refine V_iload_n (q := 107) X (TB.get tb_X3_readKind 56 rfl) rfl rfl rfl ?_
          obtain ⟨p29, ep29, e⟩ := bs e
          refine V_callV (q := 110) (As := [.ref x28, .int (p9.1 * (6 : Int32)), .int v24]) (rest := []) (st' := [.int p29.1]) X (TB.get tb_X3_readKind 57 rfl) rfl cv_RX3_112 (ok_X3_isNewName fu a0 x28 (p9.1 * (6 : Int32)) v24 h25 p29 ep29).1 (ok_X3_isNewName fu a0 x28 (p9.1 * (6 : Int32)) v24 h25 p29 ep29).2 (Nat.le_of_ble_eq_true rfl) rfl rfl (Nat.le_of_ble_eq_true rfl) rfl ?_
          refine V_if_ne (q := 113) (t := 115) X (TB.get tb_X3_readKind 58 rfl) rfl rfl (fun hc => ?_) (fun hc => ?_)
          · have e := (if_neg hc).symm.trans e
            refine V_iload_n (q := 116) X (TB.get tb_X3_readKind 61 rfl) rfl rfl rfl ?_
            refine V_bipush (v := 6) (q := 118) X (TB.get tb_X3_readKind 62 rfl) c_bipush_6 rfl ?_
            refine V_icmp_lt (q := 121) (t := 128) X (TB.get tb_X3_readKind 63 rfl) rfl rfl (fun hc => ?_) (fun hc => ?_)
            · have e := (if_pos hc).symm.trans e
              refine V_aload_n (q := 129) X (TB.get tb_X3_readKind 68 rfl) rfl rfl rfl ?_
              obtain ⟨x30, ex30, e⟩ := bs e
              refine V_getR (q := 132) X (TB.get tb_X3_readKind 69 rfl) rfl lf_RX3_29 ex30 ?_
              refine V_iload_n (q := 133) X (TB.get tb_X3_readKind 70 rfl) rfl rfl rfl ?_
              refine V_bipush (v := 6) (q := 135) X (TB.get tb_X3_readKind 71 rfl) c_bipush_6 rfl ?_
              refine V_imul (q := 136) X (TB.get tb_X3_readKind 72 rfl) rfl ?_
              refine V_iload_n (q := 137) X (TB.get tb_X3_readKind 73 rfl) rfl rfl rfl ?_
              refine V_iadd (q := 138) X (TB.get tb_X3_readKind 74 rfl) rfl ?_
              refine V_aload_n (q := 139) X (TB.get tb_X3_readKind 75 rfl) rfl rfl rfl ?_
              obtain ⟨x31, ex31, e⟩ := bs e
              refine V_getR (q := 142) X (TB.get tb_X3_readKind 76 rfl) rfl lf_RX3_12 ex31 ?_
              obtain ⟨x32, ex32, e⟩ := bs e
              refine V_getL (q := 145) X (TB.get tb_X3_readKind 77 rfl) rfl lf_RX3_120 ex32 ?_
              obtain ⟨h33, eh33, e⟩ := bs e
              refine V_lastore (q := 146) X (TB.get tb_X3_readKind 78 rfl) rfl eh33 ?_
              refine V_aload_n (q := 147) X (TB.get tb_X3_readKind 79 rfl) rfl rfl rfl ?_
              obtain ⟨x34, ex34, e⟩ := bs e
              refine V_getR (q := 150) X (TB.get tb_X3_readKind 80 rfl) rfl lf_RX3_124 ex34 ?_
              refine V_iload_n (q := 151) X (TB.get tb_X3_readKind 81 rfl) rfl rfl rfl ?_
              refine V_iload_n (q := 152) X (TB.get tb_X3_readKind 82 rfl) rfl rfl rfl ?_
              refine V_iconst (v := 1) (q := 153) X (TB.get tb_X3_readKind 83 rfl) c_iconst_1 rfl ?_
              refine V_iadd (q := 154) X (TB.get tb_X3_readKind 84 rfl) rfl ?_
              obtain ⟨h35, eh35, e⟩ := bs e
              refine V_iastore (q := 155) X (TB.get tb_X3_readKind 85 rfl) rfl eh35 ?_
              refine V_aload_n (q := 156) X (TB.get tb_X3_readKind 86 rfl) rfl rfl rfl ?_
              obtain ⟨x36, ex36, e⟩ := bs e
              refine V_getR (q := 159) X (TB.get tb_X3_readKind 87 rfl) rfl lf_RX3_12 ex36 ?_
              obtain ⟨h37, eh37, e⟩ := bs e
              refine V_callV (q := 162) (As := []) (rest := []) (st' := []) X (TB.get tb_X3_readKind 88 rfl) rfl cv_RX3_109 (ok_X7_advance fu x36 h35 h37 eh37).1 (ok_X7_advance fu x36 h35 h37 eh37).2 (Nat.le_of_ble_eq_true rfl) rfl rfl (Nat.le_of_ble_eq_true rfl) rfl ?_
              refine V_iinc (q := 165) (v := v24 + (1 : Int32)) (lv' := [(3, .int (v24 + (1 : Int32))), (0, .ref a0), (1, .ref x2), (2, .int p9.1)]) X (TB.get tb_X3_readKind 89 rfl) rfl rfl (by rw [c_iconst_1]) (Nat.le_of_ble_eq_true rfl) rfl ?_
              refine V_goto (q := 75) X (TB.get tb_X3_readKind 90 rfl) rfl ?_
              refine V_sub (lv' := [(0, .ref a0), (1, .ref x2), (2, .int p9.1), (3, .int (v24 + (1 : Int32)))]) [1, 2, 3, 0] rfl ?_
              exact ihself26 _ _ e
            · have e := (if_neg hc).symm.trans e
              refine V_sub (lv' := [(0, .ref a0)]) [0] rfl ?_
              exact Jj21 _ e
          · have e := (if_pos hc).symm.trans e
            refine V_iconst (v := 0) (q := 114) X (TB.get tb_X3_readKind 59 rfl) c_iconst_0 rfl ?_
            cases e
            exact V_zret X hr hlk (Or.inl rfl) (TB.get tb_X3_readKind 60 rfl)
        refine V_if_eq (q := 85) (t := 97) X (TB.get tb_X3_readKind 44 rfl) rfl rfl (fun hc => ?_) (fun hc => ?_)
        · have e := (if_pos hc).symm.trans e
          exact Jj27 e
        · have e := (if_neg hc).symm.trans e
          refine V_aload_n (q := 86) X (TB.get tb_X3_readKind 45 rfl) rfl rfl rfl ?_
          obtain ⟨x38, ex38, e⟩ := bs e
          refine V_getR (q := 89) X (TB.get tb_X3_readKind 46 rfl) rfl lf_RX3_12 ex38 ?_
          obtain ⟨x39, ex39, e⟩ := bs e
          refine V_getI (q := 92) X (TB.get tb_X3_readKind 47 rfl) rfl lf_RX3_72 ex39 ?_
          refine V_bipush (v := 19) (q := 94) X (TB.get tb_X3_readKind 48 rfl) c_bipush_19 rfl ?_
          refine V_icmp_eq (q := 97) (t := 168) X (TB.get tb_X3_readKind 49 rfl) rfl rfl (fun hc => ?_) (fun hc => ?_)
          · have e := (if_pos hc).symm.trans e
            refine V_sub (lv' := [(0, .ref a0)]) [0] rfl ?_
            exact Jj17 _ e
          · have e := (if_neg hc).symm.trans e
            exact Jj27 e
    · have e := (if_pos hc).symm.trans e
      refine V_iconst (v := 0) (q := 47) X (TB.get tb_X3_readKind 23 rfl) c_iconst_0 rfl ?_
      cases e
      exact V_zret X hr hlk (Or.inl rfl) (TB.get tb_X3_readKind 24 rfl)
  · have e := (if_neg hc).symm.trans e
    refine V_aload_n (q := 17) X (TB.get tb_X3_readKind 8 rfl) rfl rfl rfl ?_
    refine V_bipush (v := 6) (q := 19) X (TB.get tb_X3_readKind 9 rfl) c_bipush_6 rfl ?_
    obtain ⟨p40, ep40, e⟩ := bs e
    refine V_callV (q := 22) (As := [.int (6 : Int32)]) (rest := []) (st' := [.int p40.1]) X (TB.get tb_X3_readKind 10 rfl) rfl cv_RX3_85 (ok_X3_fail a0 (6 : Int32) h p40 ep40).1 (ok_X3_fail a0 (6 : Int32) h p40 ep40).2 (Nat.le_of_ble_eq_true rfl) rfl rfl (Nat.le_of_ble_eq_true rfl) rfl ?_
    obtain ⟨z41, ez41, e⟩ := bs e
    cases e
    exact V_zretH X hr hlk ez41 (TB.get tb_X3_readKind 11 rfl)
set_option maxRecDepth 100000 in
set_option maxHeartbeats 4000000 in
theorem ok_X3_readEnd (fu : Nat) (a0 : Nat) (h : Hp) (res : Int32 × Hp) (e : MX3_readEnd fu a0 h = some res) : CK yX3_readEnd cX3_readEnd 4 (some .boolean) 3 [.ref a0] h (some (.int res.1)) res.2 ∧ (h.1 a0).1 = 3 := by
  obtain ⟨hcl, e⟩ := h_g_inv e
  refine ⟨CK_of pn_RX3 cm_X3_readEnd (Nat.le_of_ble_eq_true rfl) ?_, hcl⟩
  intro l D tc B nn p en s m args below meth c X hr hlk
  replace X : CX p (rmD 3) s m args c cX3_readEnd 4 RX3 D tc 3 := X
  show V p l en (rmD 3) s m args below meth c 4 D tc B nn (Ar B nn) s.heap 0 0 (MQ below (QC D tc B nn (Ar B nn) (some (.int res.1)) res.2) args s 0 0 (Ar B nn)) h 0 [(0, .ref a0)] []
  refine V_aload_n (q := 1) X (TB.get tb_X3_readEnd 0 rfl) rfl rfl rfl ?_
  obtain ⟨x1, ex1, e⟩ := bs e
  refine V_getR (q := 4) X (TB.get tb_X3_readEnd 1 rfl) rfl lf_RX3_12 ex1 ?_
  obtain ⟨h2, eh2, e⟩ := bs e
  refine V_callV (q := 7) (As := []) (rest := []) (st' := []) X (TB.get tb_X3_readEnd 2 rfl) rfl cv_RX3_109 (ok_X7_advance fu x1 h h2 eh2).1 (ok_X7_advance fu x1 h h2 eh2).2 (Nat.le_of_ble_eq_true rfl) rfl rfl (Nat.le_of_ble_eq_true rfl) rfl ?_
  refine V_aload_n (q := 8) X (TB.get tb_X3_readEnd 3 rfl) rfl rfl rfl ?_
  refine V_aload_n (q := 9) X (TB.get tb_X3_readEnd 4 rfl) rfl rfl rfl ?_
  obtain ⟨x3, ex3, e⟩ := bs e
  refine V_getR (q := 12) X (TB.get tb_X3_readEnd 5 rfl) rfl lf_RX3_25 ex3 ?_
  refine V_iconst (v := 0) (q := 13) X (TB.get tb_X3_readEnd 6 rfl) c_iconst_0 rfl ?_
  refine V_aload_n (q := 14) X (TB.get tb_X3_readEnd 7 rfl) rfl rfl rfl ?_
  obtain ⟨x4, ex4, e⟩ := bs e
  refine V_getR (q := 17) X (TB.get tb_X3_readEnd 8 rfl) rfl lf_RX3_21 ex4 ?_
  obtain ⟨x5, ex5, e⟩ := bs e
  refine V_getR (q := 20) X (TB.get tb_X3_readEnd 9 rfl) rfl lf_RX3_100 ex5 ?_
  obtain ⟨x6, ex6, e⟩ := bs e
  refine V_getI (q := 23) X (TB.get tb_X3_readEnd 10 rfl) rfl lf_RX3_104 ex6 ?_
  obtain ⟨p7, ep7, e⟩ := bs e
  refine V_callV (q := 26) (As := [.ref x3, .int (0 : Int32), .int x6]) (rest := []) (st' := [.int p7.1]) X (TB.get tb_X3_readEnd 11 rfl) rfl cv_RX3_130 (ok_X3_known fu a0 x3 (0 : Int32) x6 h2 p7 ep7).1 (ok_X3_known fu a0 x3 (0 : Int32) x6 h2 p7 ep7).2 (Nat.le_of_ble_eq_true rfl) rfl rfl (Nat.le_of_ble_eq_true rfl) rfl ?_
  refine V_istore_n (q := 27) (lv' := [(1, .int p7.1), (0, .ref a0)]) X (TB.get tb_X3_readEnd 12 rfl) rfl rfl (Nat.le_of_ble_eq_true rfl) rfl ?_
  refine V_iload_n (q := 28) X (TB.get tb_X3_readEnd 13 rfl) rfl rfl rfl ?_
  refine V_iconst (v := -1) (q := 29) X (TB.get tb_X3_readEnd 14 rfl) c_iconst_m1 rfl ?_
  refine V_icmp_ne (q := 32) (t := 34) X (TB.get tb_X3_readEnd 15 rfl) rfl rfl (fun hc => ?_) (fun hc => ?_)
  · have e := (if_neg hc).symm.trans e
    refine V_aload_n (q := 35) X (TB.get tb_X3_readEnd 18 rfl) rfl rfl rfl ?_
    obtain ⟨x8, ex8, e⟩ := bs e
    refine V_getR (q := 38) X (TB.get tb_X3_readEnd 19 rfl) rfl lf_RX3_12 ex8 ?_
    obtain ⟨h9, eh9, e⟩ := bs e
    refine V_callV (q := 41) (As := []) (rest := []) (st' := []) X (TB.get tb_X3_readEnd 20 rfl) rfl cv_RX3_109 (ok_X7_advance fu x8 p7.2 h9 eh9).1 (ok_X7_advance fu x8 p7.2 h9 eh9).2 (Nat.le_of_ble_eq_true rfl) rfl rfl (Nat.le_of_ble_eq_true rfl) rfl ?_
    refine V_iconst (v := 0) (q := 42) X (TB.get tb_X3_readEnd 21 rfl) c_iconst_0 rfl ?_
    refine V_istore_n (q := 43) (lv' := [(2, .int (0 : Int32)), (1, .int p7.1), (0, .ref a0)]) X (TB.get tb_X3_readEnd 22 rfl) rfl rfl (Nat.le_of_ble_eq_true rfl) rfl ?_
    refine jn_elim (P := (fun (k : Hp → Option (Int32 × Hp)) => ∀ (h10 : Hp), k h10 = some res → V p l en (rmD 3) s m args below meth c 4 D tc B nn (Ar B nn) s.heap 0 0 (MQ below (QC D tc B nn (Ar B nn) (some (.int res.1)) res.2) args s 0 0 (Ar B nn)) h10 129 [(0, .ref a0)] [])) e ?_ (fun j11 Jj11 e => ?_)
    · intro h10 e
      refine V_aload_n (q := 130) X (TB.get tb_X3_readEnd 69 rfl) rfl rfl rfl ?_
      refine V_bipush (v := 19) (q := 132) X (TB.get tb_X3_readEnd 70 rfl) c_bipush_19 rfl ?_
      obtain ⟨p12, ep12, e⟩ := bs e
      refine V_callV (q := 135) (As := [.int (19 : Int32)]) (rest := []) (st' := [.int p12.1]) X (TB.get tb_X3_readEnd 71 rfl) rfl cv_RX3_127 (ok_X3_takeSign fu a0 (19 : Int32) h10 p12 ep12).1 (ok_X3_takeSign fu a0 (19 : Int32) h10 p12 ep12).2 (Nat.le_of_ble_eq_true rfl) rfl rfl (Nat.le_of_ble_eq_true rfl) rfl ?_
      obtain ⟨z13, ez13, e⟩ := bs e
      cases e
      exact V_zretH X hr hlk ez13 (TB.get tb_X3_readEnd 72 rfl)
    refine V_sub (lv' := [(0, .ref a0), (1, .int p7.1), (2, .int (0 : Int32))]) [2, 1, 0] rfl ?_
    refine wh2_elim (P := fun v14 h15 => V p l en (rmD 3) s m args below meth c 4 D tc B nn (Ar B nn) s.heap 0 0 (MQ below (QC D tc B nn (Ar B nn) (some (.int res.1)) res.2) args s 0 0 (Ar B nn)) h15 43 [(0, .ref a0), (1, .int p7.1), (2, .int v14)] []) (f := fu) ?_ e
    intro self16 v14 h15 ihself16 e
    unfold MX3_readEnd_B43 at e
    refine V_iload_n (q := 44) X (TB.get tb_X3_readEnd 23 rfl) rfl rfl rfl ?_
    refine V_sipush (v := 900) (q := 47) X (TB.get tb_X3_readEnd 24 rfl) c_sipush_900 rfl ?_
    refine V_icmp_gt (q := 50) (t := 129) X (TB.get tb_X3_readEnd 25 rfl) rfl rfl (fun hc => ?_) (fun hc => ?_)
    · have e := (if_pos hc).symm.trans e
      refine V_sub (lv' := [(0, .ref a0)]) [0] rfl ?_
      exact Jj11 _ e
    · have e := (if_neg hc).symm.trans e
      refine V_iload_n (q := 51) X (TB.get tb_X3_readEnd 26 rfl) rfl rfl rfl ?_
      refine jn_elim (P := (fun (k : Option (Int32 × Hp)) => k = some res → V p l en (rmD 3) s m args below meth c 4 D tc B nn (Ar B nn) s.heap 0 0 (MQ below (QC D tc B nn (Ar B nn) (some (.int res.1)) res.2) args s 0 0 (Ar B nn)) h15 66 [(0, .ref a0), (1, .int p7.1), (2, .int v14)] [])) e ?_ (fun j17 Jj17 e => ?_)
      · intro e
        refine V_aload_n (q := 67) X (TB.get tb_X3_readEnd 33 rfl) rfl rfl rfl ?_
        refine V_aload_n (q := 68) X (TB.get tb_X3_readEnd 34 rfl) rfl rfl rfl ?_
        obtain ⟨x18, ex18, e⟩ := bs e
        refine V_getR (q := 71) X (TB.get tb_X3_readEnd 35 rfl) rfl lf_RX3_29 ex18 ?_
        refine V_iload_n (q := 72) X (TB.get tb_X3_readEnd 36 rfl) rfl rfl rfl ?_
        refine V_bipush (v := 6) (q := 74) X (TB.get tb_X3_readEnd 37 rfl) c_bipush_6 rfl ?_
        refine V_imul (q := 75) X (TB.get tb_X3_readEnd 38 rfl) rfl ?_
        refine V_aload_n (q := 76) X (TB.get tb_X3_readEnd 39 rfl) rfl rfl rfl ?_
        obtain ⟨x19, ex19, e⟩ := bs e
        refine V_getR (q := 79) X (TB.get tb_X3_readEnd 40 rfl) rfl lf_RX3_21 ex19 ?_
        obtain ⟨x20, ex20, e⟩ := bs e
        refine V_getR (q := 82) X (TB.get tb_X3_readEnd 41 rfl) rfl lf_RX3_100 ex20 ?_
        obtain ⟨x21, ex21, e⟩ := bs e
        refine V_getR (q := 85) X (TB.get tb_X3_readEnd 42 rfl) rfl lf_RX3_124 ex21 ?_
        refine V_iload_n (q := 86) X (TB.get tb_X3_readEnd 43 rfl) rfl rfl rfl ?_
        obtain ⟨x22, ex22, e⟩ := bs e
        refine V_iaload (q := 87) X (TB.get tb_X3_readEnd 44 rfl) rfl ex22 ?_
        obtain ⟨p23, ep23, e⟩ := bs e
        refine V_callV (q := 90) (As := [.ref x18, .int (p7.1 * (6 : Int32)), .int x22]) (rest := []) (st' := [.int p23.1]) X (TB.get tb_X3_readEnd 45 rfl) rfl cv_RX3_130 (ok_X3_known fu a0 x18 (p7.1 * (6 : Int32)) x22 h15 p23 ep23).1 (ok_X3_known fu a0 x18 (p7.1 * (6 : Int32)) x22 h15 p23 ep23).2 (Nat.le_of_ble_eq_true rfl) rfl rfl (Nat.le_of_ble_eq_true rfl) rfl ?_
        refine V_istore_n (q := 91) (lv' := [(3, .int p23.1), (0, .ref a0), (1, .int p7.1), (2, .int v14)]) X (TB.get tb_X3_readEnd 46 rfl) rfl rfl (Nat.le_of_ble_eq_true rfl) rfl ?_
        refine V_iload_n (q := 92) X (TB.get tb_X3_readEnd 47 rfl) rfl rfl rfl ?_
        refine V_iconst (v := -1) (q := 93) X (TB.get tb_X3_readEnd 48 rfl) c_iconst_m1 rfl ?_
        refine V_icmp_ne (q := 96) (t := 98) X (TB.get tb_X3_readEnd 49 rfl) rfl rfl (fun hc => ?_) (fun hc => ?_)
        · have e := (if_neg hc).symm.trans e
          refine V_aload_n (q := 99) X (TB.get tb_X3_readEnd 52 rfl) rfl rfl rfl ?_
          obtain ⟨x24, ex24, e⟩ := bs e
          refine V_getR (q := 102) X (TB.get tb_X3_readEnd 53 rfl) rfl lf_RX3_21 ex24 ?_
          obtain ⟨x25, ex25, e⟩ := bs e
          refine V_getR (q := 105) X (TB.get tb_X3_readEnd 54 rfl) rfl lf_RX3_100 ex25 ?_
          obtain ⟨x26, ex26, e⟩ := bs e
          refine V_getR (q := 108) X (TB.get tb_X3_readEnd 55 rfl) rfl lf_RX3_134 ex26 ?_
          refine V_iload_n (q := 109) X (TB.get tb_X3_readEnd 56 rfl) rfl rfl rfl ?_
          refine V_dup2 (q := 110) X (TB.get tb_X3_readEnd 57 rfl) rfl rfl rfl ?_
          obtain ⟨x27, ex27, e⟩ := bs e
          refine V_iaload (q := 111) X (TB.get tb_X3_readEnd 58 rfl) rfl ex27 ?_
          refine V_iconst (v := 1) (q := 112) X (TB.get tb_X3_readEnd 59 rfl) c_iconst_1 rfl ?_
          refine V_iload_n (q := 113) X (TB.get tb_X3_readEnd 60 rfl) rfl rfl rfl ?_
          refine V_ishl (q := 114) X (TB.get tb_X3_readEnd 61 rfl) rfl ?_
          refine V_ior (q := 115) X (TB.get tb_X3_readEnd 62 rfl) rfl ?_
          obtain ⟨h28, eh28, e⟩ := bs e
          refine V_iastore (q := 116) X (TB.get tb_X3_readEnd 63 rfl) rfl eh28 ?_
          refine V_aload_n (q := 117) X (TB.get tb_X3_readEnd 64 rfl) rfl rfl rfl ?_
          obtain ⟨x29, ex29, e⟩ := bs e
          refine V_getR (q := 120) X (TB.get tb_X3_readEnd 65 rfl) rfl lf_RX3_12 ex29 ?_
          obtain ⟨h30, eh30, e⟩ := bs e
          refine V_callV (q := 123) (As := []) (rest := []) (st' := []) X (TB.get tb_X3_readEnd 66 rfl) rfl cv_RX3_109 (ok_X7_advance fu x29 h28 h30 eh30).1 (ok_X7_advance fu x29 h28 h30 eh30).2 (Nat.le_of_ble_eq_true rfl) rfl rfl (Nat.le_of_ble_eq_true rfl) rfl ?_
          refine V_iinc (q := 126) (v := v14 + (1 : Int32)) (lv' := [(2, .int (v14 + (1 : Int32))), (3, .int p23.1), (0, .ref a0), (1, .int p7.1)]) X (TB.get tb_X3_readEnd 67 rfl) rfl rfl (by rw [c_iconst_1]) (Nat.le_of_ble_eq_true rfl) rfl ?_
          refine V_goto (q := 43) X (TB.get tb_X3_readEnd 68 rfl) rfl ?_
          refine V_sub (lv' := [(0, .ref a0), (1, .int p7.1), (2, .int (v14 + (1 : Int32)))]) [2, 3, 0] rfl ?_
          exact ihself16 _ _ e
        · have e := (if_pos hc).symm.trans e
          refine V_iconst (v := 0) (q := 97) X (TB.get tb_X3_readEnd 50 rfl) c_iconst_0 rfl ?_
          cases e
          exact V_zret X hr hlk (Or.inl rfl) (TB.get tb_X3_readEnd 51 rfl)
      refine V_if_eq (q := 54) (t := 66) X (TB.get tb_X3_readEnd 27 rfl) rfl rfl (fun hc => ?_) (fun hc => ?_)
      · have e := (if_pos hc).symm.trans e
        exact Jj17 e
      · have e := (if_neg hc).symm.trans e
        refine V_aload_n (q := 55) X (TB.get tb_X3_readEnd 28 rfl) rfl rfl rfl ?_
        obtain ⟨x31, ex31, e⟩ := bs e
        refine V_getR (q := 58) X (TB.get tb_X3_readEnd 29 rfl) rfl lf_RX3_12 ex31 ?_
        obtain ⟨x32, ex32, e⟩ := bs e
        refine V_getI (q := 61) X (TB.get tb_X3_readEnd 30 rfl) rfl lf_RX3_72 ex32 ?_
        refine V_bipush (v := 19) (q := 63) X (TB.get tb_X3_readEnd 31 rfl) c_bipush_19 rfl ?_
        refine V_icmp_eq (q := 66) (t := 129) X (TB.get tb_X3_readEnd 32 rfl) rfl rfl (fun hc => ?_) (fun hc => ?_)
        · have e := (if_pos hc).symm.trans e
          refine V_sub (lv' := [(0, .ref a0)]) [0] rfl ?_
          exact Jj11 _ e
        · have e := (if_neg hc).symm.trans e
          exact Jj17 e
  · have e := (if_pos hc).symm.trans e
    refine V_iconst (v := 0) (q := 33) X (TB.get tb_X3_readEnd 16 rfl) c_iconst_0 rfl ?_
    cases e
    exact V_zret X hr hlk (Or.inl rfl) (TB.get tb_X3_readEnd 17 rfl)
set_option maxRecDepth 100000 in
set_option maxHeartbeats 4000000 in
theorem ok_X3_methodToTell (fu : Nat) (a0 : Nat) (a1 : Int32) (a2 : Int32) (h : Hp) (res : Int32 × Hp) (e : MX3_methodToTell fu a0 a1 a2 h = some res) : CK yX3_methodToTell cX3_methodToTell 4 (some .int) 1 [.ref a0, .int a1, .int a2] h (some (.int res.1)) res.2 ∧ (h.1 a0).1 = 3 := by
  obtain ⟨hcl, e⟩ := h_g_inv e
  refine ⟨CK_of pn_RX3 cm_X3_methodToTell (Nat.le_of_ble_eq_true rfl) ?_, hcl⟩
  intro l D tc B nn p en s m args below meth c X hr hlk
  replace X : CX p (rmD 1) s m args c cX3_methodToTell 4 RX3 D tc 1 := X
  show V p l en (rmD 1) s m args below meth c 4 D tc B nn (Ar B nn) s.heap 0 0 (MQ below (QC D tc B nn (Ar B nn) (some (.int res.1)) res.2) args s 0 0 (Ar B nn)) h 0 [(0, .ref a0), (1, .int a1), (2, .int a2)] []
  refine V_aload_n (q := 1) X (TB.get tb_X3_methodToTell 0 rfl) rfl rfl rfl ?_
  obtain ⟨x1, ex1, e⟩ := bs e
  refine V_getR (q := 4) X (TB.get tb_X3_methodToTell 1 rfl) rfl lf_RX3_12 ex1 ?_
  obtain ⟨x2, ex2, e⟩ := bs e
  refine V_getI (q := 7) X (TB.get tb_X3_methodToTell 2 rfl) rfl lf_RX3_72 ex2 ?_
  refine V_bipush (v := 18) (q := 9) X (TB.get tb_X3_methodToTell 3 rfl) c_bipush_18 rfl ?_
  refine V_icmp_eq (q := 12) (t := 20) X (TB.get tb_X3_methodToTell 4 rfl) rfl rfl (fun hc => ?_) (fun hc => ?_)
  · have e := (if_pos hc).symm.trans e
    refine V_aload_n (q := 21) X (TB.get tb_X3_methodToTell 11 rfl) rfl rfl rfl ?_
    refine V_aload_n (q := 22) X (TB.get tb_X3_methodToTell 12 rfl) rfl rfl rfl ?_
    obtain ⟨x3, ex3, e⟩ := bs e
    refine V_getR (q := 25) X (TB.get tb_X3_methodToTell 13 rfl) rfl lf_RX3_32 ex3 ?_
    refine V_iload_n (q := 26) X (TB.get tb_X3_methodToTell 14 rfl) rfl rfl rfl ?_
    refine V_bipush (v := 6) (q := 28) X (TB.get tb_X3_methodToTell 15 rfl) c_bipush_6 rfl ?_
    refine V_imul (q := 29) X (TB.get tb_X3_methodToTell 16 rfl) rfl ?_
    refine V_aload_n (q := 30) X (TB.get tb_X3_methodToTell 17 rfl) rfl rfl rfl ?_
    obtain ⟨x4, ex4, e⟩ := bs e
    refine V_getR (q := 33) X (TB.get tb_X3_methodToTell 18 rfl) rfl lf_RX3_21 ex4 ?_
    obtain ⟨x5, ex5, e⟩ := bs e
    refine V_getR (q := 36) X (TB.get tb_X3_methodToTell 19 rfl) rfl lf_RX3_100 ex5 ?_
    obtain ⟨x6, ex6, e⟩ := bs e
    refine V_getR (q := 39) X (TB.get tb_X3_methodToTell 20 rfl) rfl lf_RX3_178 ex6 ?_
    refine V_iload_n (q := 40) X (TB.get tb_X3_methodToTell 21 rfl) rfl rfl rfl ?_
    obtain ⟨x7, ex7, e⟩ := bs e
    refine V_iaload (q := 41) X (TB.get tb_X3_methodToTell 22 rfl) rfl ex7 ?_
    obtain ⟨x8, ex8, e⟩ := bs e
    refine V_callV (q := 44) (As := [.ref x3, .int (a1 * (6 : Int32)), .int x7]) (rest := []) (st' := [.int x8]) X (TB.get tb_X3_methodToTell 23 rfl) rfl cv_RX3_196 (ok_X3_find fu a0 x3 (a1 * (6 : Int32)) x7 h x8 ex8).1 (ok_X3_find fu a0 x3 (a1 * (6 : Int32)) x7 h x8 ex8).2 (Nat.le_of_ble_eq_true rfl) rfl rfl (Nat.le_of_ble_eq_true rfl) rfl ?_
    refine V_istore_n (q := 45) (lv' := [(3, .int x8), (0, .ref a0), (1, .int a1), (2, .int a2)]) X (TB.get tb_X3_methodToTell 24 rfl) rfl rfl (Nat.le_of_ble_eq_true rfl) rfl ?_
    refine V_iload_n (q := 46) X (TB.get tb_X3_methodToTell 25 rfl) rfl rfl rfl ?_
    refine V_iconst (v := -1) (q := 47) X (TB.get tb_X3_methodToTell 26 rfl) c_iconst_m1 rfl ?_
    refine jn_elim (P := (fun (k : Option (Int32 × Hp)) => k = some res → V p l en (rmD 1) s m args below meth c 4 D tc B nn (Ar B nn) s.heap 0 0 (MQ below (QC D tc B nn (Ar B nn) (some (.int res.1)) res.2) args s 0 0 (Ar B nn)) h 76 [(0, .ref a0), (1, .int a1), (2, .int a2), (3, .int x8)] [])) e ?_ (fun j9 Jj9 e => ?_)
    · intro e
      refine V_iload_n (q := 77) X (TB.get tb_X3_methodToTell 42 rfl) rfl rfl rfl ?_
      refine V_iconst (v := -1) (q := 78) X (TB.get tb_X3_methodToTell 43 rfl) c_iconst_m1 rfl ?_
      refine jn_elim (P := (fun (k : Int32 → Hp → Option (Int32 × Hp)) => ∀ (v10 : Int32) (h11 : Hp), k v10 h11 = some res → V p l en (rmD 1) s m args below meth c 4 D tc B nn (Ar B nn) s.heap 0 0 (MQ below (QC D tc B nn (Ar B nn) (some (.int res.1)) res.2) args s 0 0 (Ar B nn)) h11 112 [(0, .ref a0), (1, .int a1), (2, .int a2), (3, .int v10)] [])) e ?_ (fun j12 Jj12 e => ?_)
      · intro v10 h11 e
        refine V_aload_n (q := 113) X (TB.get tb_X3_methodToTell 63 rfl) rfl rfl rfl ?_
        obtain ⟨x13, ex13, e⟩ := bs e
        refine V_getR (q := 116) X (TB.get tb_X3_methodToTell 64 rfl) rfl lf_RX3_21 ex13 ?_
        obtain ⟨x14, ex14, e⟩ := bs e
        refine V_getR (q := 119) X (TB.get tb_X3_methodToTell 65 rfl) rfl lf_RX3_100 ex14 ?_
        refine V_iload_n (q := 120) X (TB.get tb_X3_methodToTell 66 rfl) rfl rfl rfl ?_
        refine V_iload_n (q := 121) X (TB.get tb_X3_methodToTell 67 rfl) rfl rfl rfl ?_
        obtain ⟨x15, ex15, e⟩ := bs e
        refine V_callV (q := 124) (As := [.int a1, .int v10]) (rest := []) (st' := [.int x15]) X (TB.get tb_X3_methodToTell 68 rfl) rfl cv_RX3_181 (ok_X2_sortOf x14 a1 v10 h11 x15 ex15).1 (ok_X2_sortOf x14 a1 v10 h11 x15 ex15).2 (Nat.le_of_ble_eq_true rfl) rfl rfl (Nat.le_of_ble_eq_true rfl) rfl ?_
        refine V_iload_n (q := 125) X (TB.get tb_X3_methodToTell 69 rfl) rfl rfl rfl ?_
        refine V_icmp_eq (q := 128) (t := 136) X (TB.get tb_X3_methodToTell 70 rfl) rfl rfl (fun hc => ?_) (fun hc => ?_)
        · have e := (if_pos hc).symm.trans e
          refine V_iload_n (q := 137) X (TB.get tb_X3_methodToTell 77 rfl) rfl rfl rfl ?_
          cases e
          exact V_iret X hr hlk (TB.get tb_X3_methodToTell 78 rfl)
        · have e := (if_neg hc).symm.trans e
          refine V_aload_n (q := 129) X (TB.get tb_X3_methodToTell 71 rfl) rfl rfl rfl ?_
          refine V_iconst (v := 5) (q := 130) X (TB.get tb_X3_methodToTell 72 rfl) c_iconst_5 rfl ?_
          obtain ⟨p16, ep16, e⟩ := bs e
          refine V_callV (q := 133) (As := [.int (5 : Int32)]) (rest := []) (st' := [.int p16.1]) X (TB.get tb_X3_methodToTell 73 rfl) rfl cv_RX3_85 (ok_X3_fail a0 (5 : Int32) h11 p16 ep16).1 (ok_X3_fail a0 (5 : Int32) h11 p16 ep16).2 (Nat.le_of_ble_eq_true rfl) rfl rfl (Nat.le_of_ble_eq_true rfl) rfl ?_
          refine V_pop (q := 134) X (TB.get tb_X3_methodToTell 74 rfl) rfl rfl ?_
          refine V_iconst (v := -1) (q := 135) X (TB.get tb_X3_methodToTell 75 rfl) c_iconst_m1 rfl ?_
          cases e
          exact V_iret X hr hlk (TB.get tb_X3_methodToTell 76 rfl)
      refine V_icmp_ne (q := 81) (t := 112) X (TB.get tb_X3_methodToTell 44 rfl) rfl rfl (fun hc => ?_) (fun hc => ?_)
      · have e := (if_neg hc).symm.trans e
        exact Jj12 _ _ e
      · have e := (if_pos hc).symm.trans e
        refine V_aload_n (q := 82) X (TB.get tb_X3_methodToTell 45 rfl) rfl rfl rfl ?_
        refine V_getR (q := 85) X (TB.get tb_X3_methodToTell 46 rfl) rfl lf_RX3_21 ex4 ?_
        refine V_getR (q := 88) X (TB.get tb_X3_methodToTell 47 rfl) rfl lf_RX3_100 ex5 ?_
        refine V_iload_n (q := 89) X (TB.get tb_X3_methodToTell 48 rfl) rfl rfl rfl ?_
        refine V_iload_n (q := 90) X (TB.get tb_X3_methodToTell 49 rfl) rfl rfl rfl ?_
        obtain ⟨p17, ep17, e⟩ := bs e
        refine V_callV (q := 93) (As := [.int a1, .int a2]) (rest := []) (st' := [.int p17.1]) X (TB.get tb_X3_methodToTell 50 rfl) rfl cv_RX3_199 (ok_X2_addMethod x5 a1 a2 h p17 ep17).1 (ok_X2_addMethod x5 a1 a2 h p17 ep17).2 (Nat.le_of_ble_eq_true rfl) rfl rfl (Nat.le_of_ble_eq_true rfl) rfl ?_
        refine V_istore_n (q := 94) (lv' := [(3, .int p17.1), (0, .ref a0), (1, .int a1), (2, .int a2)]) X (TB.get tb_X3_methodToTell 51 rfl) rfl rfl (Nat.le_of_ble_eq_true rfl) rfl ?_
        refine V_aload_n (q := 95) X (TB.get tb_X3_methodToTell 52 rfl) rfl rfl rfl ?_
        obtain ⟨x18, ex18, e⟩ := bs e
        refine V_getR (q := 98) X (TB.get tb_X3_methodToTell 53 rfl) rfl lf_RX3_32 ex18 ?_
        refine V_iload_n (q := 99) X (TB.get tb_X3_methodToTell 54 rfl) rfl rfl rfl ?_
        refine V_bipush (v := 6) (q := 101) X (TB.get tb_X3_methodToTell 55 rfl) c_bipush_6 rfl ?_
        refine V_imul (q := 102) X (TB.get tb_X3_methodToTell 56 rfl) rfl ?_
        refine V_iload_n (q := 103) X (TB.get tb_X3_methodToTell 57 rfl) rfl rfl rfl ?_
        refine V_iadd (q := 104) X (TB.get tb_X3_methodToTell 58 rfl) rfl ?_
        refine V_aload_n (q := 105) X (TB.get tb_X3_methodToTell 59 rfl) rfl rfl rfl ?_
        obtain ⟨x19, ex19, e⟩ := bs e
        refine V_getR (q := 108) X (TB.get tb_X3_methodToTell 60 rfl) rfl lf_RX3_12 ex19 ?_
        obtain ⟨x20, ex20, e⟩ := bs e
        refine V_getL (q := 111) X (TB.get tb_X3_methodToTell 61 rfl) rfl lf_RX3_120 ex20 ?_
        obtain ⟨h21, eh21, e⟩ := bs e
        refine V_lastore (q := 112) X (TB.get tb_X3_methodToTell 62 rfl) rfl eh21 ?_
        refine V_sub (lv' := [(0, .ref a0), (1, .int a1), (2, .int a2), (3, .int p17.1)]) [1, 2, 3, 0] rfl ?_
        exact Jj12 _ _ e
    refine V_icmp_ne (q := 50) (t := 76) X (TB.get tb_X3_methodToTell 27 rfl) rfl rfl (fun hc => ?_) (fun hc => ?_)
    · have e := (if_neg hc).symm.trans e
      refine V_sub (lv' := [(0, .ref a0), (1, .int a1), (2, .int a2), (3, .int x8)]) [1, 2, 3, 0] rfl ?_
      exact Jj9 e
    · have e := (if_pos hc).symm.trans e
      refine V_aload_n (q := 51) X (TB.get tb_X3_methodToTell 28 rfl) rfl rfl rfl ?_
      refine V_getR (q := 54) X (TB.get tb_X3_methodToTell 29 rfl) rfl lf_RX3_21 ex4 ?_
      refine V_getR (q := 57) X (TB.get tb_X3_methodToTell 30 rfl) rfl lf_RX3_100 ex5 ?_
      refine V_getR (q := 60) X (TB.get tb_X3_methodToTell 31 rfl) rfl lf_RX3_178 ex6 ?_
      refine V_iload_n (q := 61) X (TB.get tb_X3_methodToTell 32 rfl) rfl rfl rfl ?_
      refine V_iaload (q := 62) X (TB.get tb_X3_methodToTell 33 rfl) rfl ex7 ?_
      refine V_bipush (v := 6) (q := 64) X (TB.get tb_X3_methodToTell 34 rfl) c_bipush_6 rfl ?_
      refine V_icmp_lt (q := 67) (t := 76) X (TB.get tb_X3_methodToTell 35 rfl) rfl rfl (fun hc => ?_) (fun hc => ?_)
      · have e := (if_pos hc).symm.trans e
        refine V_sub (lv' := [(0, .ref a0), (1, .int a1), (2, .int a2), (3, .int x8)]) [1, 2, 3, 0] rfl ?_
        exact Jj9 e
      · have e := (if_neg hc).symm.trans e
        refine V_aload_n (q := 68) X (TB.get tb_X3_methodToTell 36 rfl) rfl rfl rfl ?_
        refine V_bipush (v := 6) (q := 70) X (TB.get tb_X3_methodToTell 37 rfl) c_bipush_6 rfl ?_
        obtain ⟨p22, ep22, e⟩ := bs e
        refine V_callV (q := 73) (As := [.int (6 : Int32)]) (rest := []) (st' := [.int p22.1]) X (TB.get tb_X3_methodToTell 38 rfl) rfl cv_RX3_85 (ok_X3_fail a0 (6 : Int32) h p22 ep22).1 (ok_X3_fail a0 (6 : Int32) h p22 ep22).2 (Nat.le_of_ble_eq_true rfl) rfl rfl (Nat.le_of_ble_eq_true rfl) rfl ?_
        refine V_pop (q := 74) X (TB.get tb_X3_methodToTell 39 rfl) rfl rfl ?_
        refine V_iconst (v := -1) (q := 75) X (TB.get tb_X3_methodToTell 40 rfl) c_iconst_m1 rfl ?_
        cases e
        exact V_iret X hr hlk (TB.get tb_X3_methodToTell 41 rfl)
  · have e := (if_neg hc).symm.trans e
    refine V_aload_n (q := 13) X (TB.get tb_X3_methodToTell 5 rfl) rfl rfl rfl ?_
    refine V_iconst (v := 2) (q := 14) X (TB.get tb_X3_methodToTell 6 rfl) c_iconst_2 rfl ?_
    obtain ⟨p23, ep23, e⟩ := bs e
    refine V_callV (q := 17) (As := [.int (2 : Int32)]) (rest := []) (st' := [.int p23.1]) X (TB.get tb_X3_methodToTell 7 rfl) rfl cv_RX3_85 (ok_X3_fail a0 (2 : Int32) h p23 ep23).1 (ok_X3_fail a0 (2 : Int32) h p23 ep23).2 (Nat.le_of_ble_eq_true rfl) rfl rfl (Nat.le_of_ble_eq_true rfl) rfl ?_
    refine V_pop (q := 18) X (TB.get tb_X3_methodToTell 8 rfl) rfl rfl ?_
    refine V_iconst (v := -1) (q := 19) X (TB.get tb_X3_methodToTell 9 rfl) c_iconst_m1 rfl ?_
    cases e
    exact V_iret X hr hlk (TB.get tb_X3_methodToTell 10 rfl)
set_option maxRecDepth 100000 in
set_option maxHeartbeats 4000000 in
theorem ok_X3_readWhatComes (fu : Nat) (a0 : Nat) (a1 : Int32) (a2 : Int32) (a3 : Int32) (h : Hp) (res : Int32 × Hp) (e : MX3_readWhatComes fu a0 a1 a2 a3 h = some res) : CK yX3_readWhatComes cX3_readWhatComes 10 (some .boolean) 2 [.ref a0, .int a1, .int a2, .int a3] h (some (.int res.1)) res.2 ∧ (h.1 a0).1 = 3 := by
  obtain ⟨hcl, e⟩ := h_g_inv e
  refine ⟨CK_of pn_RX3 cm_X3_readWhatComes (Nat.le_of_ble_eq_true rfl) ?_, hcl⟩
  intro l D tc B nn p en s m args below meth c X hr hlk
  replace X : CX p (rmD 2) s m args c cX3_readWhatComes 10 RX3 D tc 2 := X
  show V p l en (rmD 2) s m args below meth c 10 D tc B nn (Ar B nn) s.heap 0 0 (MQ below (QC D tc B nn (Ar B nn) (some (.int res.1)) res.2) args s 0 0 (Ar B nn)) h 0 [(0, .ref a0), (1, .int a1), (2, .int a2), (3, .int a3)] []
  refine V_iconst (v := -1) (q := 1) X (TB.get tb_X3_readWhatComes 0 rfl) c_iconst_m1 rfl ?_
  refine V_istore (q := 3) (lv' := [(4, .int (-1 : Int32)), (0, .ref a0), (1, .int a1), (2, .int a2), (3, .int a3)]) X (TB.get tb_X3_readWhatComes 1 rfl) rfl (Nat.le_of_ble_eq_true rfl) rfl ?_
  refine V_iconst (v := -1) (q := 4) X (TB.get tb_X3_readWhatComes 2 rfl) c_iconst_m1 rfl ?_
  refine V_istore (q := 6) (lv' := [(5, .int (-1 : Int32)), (4, .int (-1 : Int32)), (0, .ref a0), (1, .int a1), (2, .int a2), (3, .int a3)]) X (TB.get tb_X3_readWhatComes 3 rfl) rfl (Nat.le_of_ble_eq_true rfl) rfl ?_
  refine V_iconst (v := -1) (q := 7) X (TB.get tb_X3_readWhatComes 4 rfl) c_iconst_m1 rfl ?_
  refine V_istore (q := 9) (lv' := [(6, .int (-1 : Int32)), (5, .int (-1 : Int32)), (4, .int (-1 : Int32)), (0, .ref a0), (1, .int a1), (2, .int a2), (3, .int a3)]) X (TB.get tb_X3_readWhatComes 5 rfl) rfl (Nat.le_of_ble_eq_true rfl) rfl ?_
  refine V_iconst (v := 1) (q := 10) X (TB.get tb_X3_readWhatComes 6 rfl) c_iconst_1 rfl ?_
  refine V_istore (q := 12) (lv' := [(7, .int (1 : Int32)), (6, .int (-1 : Int32)), (5, .int (-1 : Int32)), (4, .int (-1 : Int32)), (0, .ref a0), (1, .int a1), (2, .int a2), (3, .int a3)]) X (TB.get tb_X3_readWhatComes 7 rfl) rfl (Nat.le_of_ble_eq_true rfl) rfl ?_
  refine V_iload_n (q := 13) X (TB.get tb_X3_readWhatComes 8 rfl) rfl rfl rfl ?_
  refine V_iconst (v := 2) (q := 14) X (TB.get tb_X3_readWhatComes 9 rfl) c_iconst_2 rfl ?_
  refine jn_elim (P := (fun (k : Int32 → Option (Int32 × Hp)) => ∀ (v1 : Int32), k v1 = some res → V p l en (rmD 2) s m args below meth c 10 D tc B nn (Ar B nn) s.heap 0 0 (MQ below (QC D tc B nn (Ar B nn) (some (.int res.1)) res.2) args s 0 0 (Ar B nn)) h 29 [(0, .ref a0), (1, .int a1), (2, .int a2), (4, .int (-1 : Int32)), (5, .int (-1 : Int32)), (6, .int (-1 : Int32)), (7, .int v1)] [])) e ?_ (fun j2 Jj2 e => ?_)
  · intro v1 e
    refine V_iconst (v := 0) (q := 30) X (TB.get tb_X3_readWhatComes 18 rfl) c_iconst_0 rfl ?_
    refine V_istore (q := 32) (lv' := [(8, .int (0 : Int32)), (0, .ref a0), (1, .int a1), (2, .int a2), (4, .int (-1 : Int32)), (5, .int (-1 : Int32)), (6, .int (-1 : Int32)), (7, .int v1)]) X (TB.get tb_X3_readWhatComes 19 rfl) rfl (Nat.le_of_ble_eq_true rfl) rfl ?_
    refine jn_elim (P := (fun (k : Int32 → Int32 → Int32 → Hp → Option (Int32 × Hp)) => ∀ (v3 : Int32) (v4 : Int32) (v5 : Int32) (h6 : Hp), k v3 v4 v5 h6 = some res → V p l en (rmD 2) s m args below meth c 10 D tc B nn (Ar B nn) s.heap 0 0 (MQ below (QC D tc B nn (Ar B nn) (some (.int res.1)) res.2) args s 0 0 (Ar B nn)) h6 147 [(0, .ref a0), (1, .int a1), (2, .int a2), (4, .int v3), (5, .int v4), (6, .int v5)] [])) e ?_ (fun j7 Jj7 e => ?_)
    · intro v3 v4 v5 h6 e
      refine V_aload_n (q := 148) X (TB.get tb_X3_readWhatComes 76 rfl) rfl rfl rfl ?_
      obtain ⟨x8, ex8, e⟩ := bs e
      refine V_getR (q := 151) X (TB.get tb_X3_readWhatComes 77 rfl) rfl lf_RX3_21 ex8 ?_
      obtain ⟨x9, ex9, e⟩ := bs e
      refine V_getR (q := 154) X (TB.get tb_X3_readWhatComes 78 rfl) rfl lf_RX3_100 ex9 ?_
      refine V_iload_n (q := 155) X (TB.get tb_X3_readWhatComes 79 rfl) rfl rfl rfl ?_
      refine V_iload_n (q := 156) X (TB.get tb_X3_readWhatComes 80 rfl) rfl rfl rfl ?_
      refine V_iload (q := 158) X (TB.get tb_X3_readWhatComes 81 rfl) rfl rfl ?_
      refine V_iload (q := 160) X (TB.get tb_X3_readWhatComes 82 rfl) rfl rfl ?_
      refine V_iload (q := 162) X (TB.get tb_X3_readWhatComes 83 rfl) rfl rfl ?_
      obtain ⟨h10, eh10, e⟩ := bs e
      refine V_callV (q := 165) (As := [.int a1, .int a2, .int v3, .int v4, .int v5]) (rest := []) (st' := []) X (TB.get tb_X3_readWhatComes 84 rfl) rfl cv_RX3_148 (ok_X2_allow x9 a1 a2 v3 v4 v5 h6 h10 eh10).1 (ok_X2_allow x9 a1 a2 v3 v4 v5 h6 h10 eh10).2 (Nat.le_of_ble_eq_true rfl) rfl rfl (Nat.le_of_ble_eq_true rfl) rfl ?_
      refine V_iconst (v := 1) (q := 166) X (TB.get tb_X3_readWhatComes 85 rfl) c_iconst_1 rfl ?_
      cases e
      exact V_zret X hr hlk (Or.inr rfl) (TB.get tb_X3_readWhatComes 86 rfl)
    refine jn_elim (P := (fun (k : Hp → Option (Int32 × Hp)) => ∀ (h11 : Hp), k h11 = some res → V p l en (rmD 2) s m args below meth c 10 D tc B nn (Ar B nn) s.heap 0 0 (MQ below (QC D tc B nn (Ar B nn) (some (.int res.1)) res.2) args s 0 0 (Ar B nn)) h11 95 [(0, .ref a0)] [])) e ?_ (fun j12 Jj12 e => ?_)
    · intro h11 e
      refine V_aload_n (q := 96) X (TB.get tb_X3_readWhatComes 52 rfl) rfl rfl rfl ?_
      refine V_iconst (v := 4) (q := 97) X (TB.get tb_X3_readWhatComes 53 rfl) c_iconst_4 rfl ?_
      obtain ⟨p13, ep13, e⟩ := bs e
      refine V_callV (q := 100) (As := [.int (4 : Int32)]) (rest := []) (st' := [.int p13.1]) X (TB.get tb_X3_readWhatComes 54 rfl) rfl cv_RX3_85 (ok_X3_fail a0 (4 : Int32) h11 p13 ep13).1 (ok_X3_fail a0 (4 : Int32) h11 p13 ep13).2 (Nat.le_of_ble_eq_true rfl) rfl rfl (Nat.le_of_ble_eq_true rfl) rfl ?_
      obtain ⟨z14, ez14, e⟩ := bs e
      cases e
      exact V_zretH X hr hlk ez14 (TB.get tb_X3_readWhatComes 55 rfl)
    refine V_sub (lv' := [(0, .ref a0), (1, .int a1), (2, .int a2), (4, .int (-1 : Int32)), (5, .int (-1 : Int32)), (6, .int (-1 : Int32)), (7, .int v1), (8, .int (0 : Int32))]) [1, 2, 3, 4, 5, 6, 7, 0] rfl ?_
    refine wh5_elim (P := fun v15 v16 v17 v18 h19 => V p l en (rmD 2) s m args below meth c 10 D tc B nn (Ar B nn) s.heap 0 0 (MQ below (QC D tc B nn (Ar B nn) (some (.int res.1)) res.2) args s 0 0 (Ar B nn)) h19 32 [(0, .ref a0), (1, .int a1), (2, .int a2), (4, .int v15), (5, .int v16), (6, .int v17), (7, .int v1), (8, .int v18)] []) (f := fu) ?_ e
    intro self20 v15 v16 v17 v18 h19 ihself20 e
    unfold MX3_readWhatComes_B32 at e
    refine V_iload (q := 34) X (TB.get tb_X3_readWhatComes 20 rfl) rfl rfl ?_
    refine V_iload (q := 36) X (TB.get tb_X3_readWhatComes 21 rfl) rfl rfl ?_
    refine V_icmp_ge (q := 39) (t := 147) X (TB.get tb_X3_readWhatComes 22 rfl) rfl rfl (fun hc => ?_) (fun hc => ?_)
    · have e := (if_pos hc).symm.trans e
      refine V_sub (lv' := [(0, .ref a0), (1, .int a1), (2, .int a2), (4, .int v15), (5, .int v16), (6, .int v17)]) [0, 1, 2, 3, 4, 5] rfl ?_
      exact Jj7 _ _ _ _ e
    · have e := (if_neg hc).symm.trans e
      refine V_aload_n (q := 40) X (TB.get tb_X3_readWhatComes 23 rfl) rfl rfl rfl ?_
      refine V_aload_n (q := 41) X (TB.get tb_X3_readWhatComes 24 rfl) rfl rfl rfl ?_
      obtain ⟨x21, ex21, e⟩ := bs e
      refine V_getR (q := 44) X (TB.get tb_X3_readWhatComes 25 rfl) rfl lf_RX3_29 ex21 ?_
      refine V_iload_n (q := 45) X (TB.get tb_X3_readWhatComes 26 rfl) rfl rfl rfl ?_
      refine V_bipush (v := 6) (q := 47) X (TB.get tb_X3_readWhatComes 27 rfl) c_bipush_6 rfl ?_
      refine V_imul (q := 48) X (TB.get tb_X3_readWhatComes 28 rfl) rfl ?_
      refine V_aload_n (q := 49) X (TB.get tb_X3_readWhatComes 29 rfl) rfl rfl rfl ?_
      obtain ⟨x22, ex22, e⟩ := bs e
      refine V_getR (q := 52) X (TB.get tb_X3_readWhatComes 30 rfl) rfl lf_RX3_21 ex22 ?_
      obtain ⟨x23, ex23, e⟩ := bs e
      refine V_getR (q := 55) X (TB.get tb_X3_readWhatComes 31 rfl) rfl lf_RX3_100 ex23 ?_
      obtain ⟨x24, ex24, e⟩ := bs e
      refine V_getR (q := 58) X (TB.get tb_X3_readWhatComes 32 rfl) rfl lf_RX3_124 ex24 ?_
      refine V_iload_n (q := 59) X (TB.get tb_X3_readWhatComes 33 rfl) rfl rfl rfl ?_
      obtain ⟨x25, ex25, e⟩ := bs e
      refine V_iaload (q := 60) X (TB.get tb_X3_readWhatComes 34 rfl) rfl ex25 ?_
      obtain ⟨p26, ep26, e⟩ := bs e
      refine V_callV (q := 63) (As := [.ref x21, .int (a1 * (6 : Int32)), .int x25]) (rest := []) (st' := [.int p26.1]) X (TB.get tb_X3_readWhatComes 35 rfl) rfl cv_RX3_130 (ok_X3_known fu a0 x21 (a1 * (6 : Int32)) x25 h19 p26 ep26).1 (ok_X3_known fu a0 x21 (a1 * (6 : Int32)) x25 h19 p26 ep26).2 (Nat.le_of_ble_eq_true rfl) rfl rfl (Nat.le_of_ble_eq_true rfl) rfl ?_
      refine V_istore (q := 65) (lv' := [(9, .int p26.1), (0, .ref a0), (1, .int a1), (2, .int a2), (4, .int v15), (5, .int v16), (6, .int v17), (7, .int v1), (8, .int v18)]) X (TB.get tb_X3_readWhatComes 36 rfl) rfl (Nat.le_of_ble_eq_true rfl) rfl ?_
      refine V_iload (q := 67) X (TB.get tb_X3_readWhatComes 37 rfl) rfl rfl ?_
      refine V_iconst (v := -1) (q := 68) X (TB.get tb_X3_readWhatComes 38 rfl) c_iconst_m1 rfl ?_
      refine V_icmp_ne (q := 71) (t := 73) X (TB.get tb_X3_readWhatComes 39 rfl) rfl rfl (fun hc => ?_) (fun hc => ?_)
      · have e := (if_neg hc).symm.trans e
        refine V_iload (q := 75) X (TB.get tb_X3_readWhatComes 42 rfl) rfl rfl ?_
        refine jn_elim (P := (fun (k : Option (Int32 × Hp)) => k = some res → V p l en (rmD 2) s m args below meth c 10 D tc B nn (Ar B nn) s.heap 0 0 (MQ below (QC D tc B nn (Ar B nn) (some (.int res.1)) res.2) args s 0 0 (Ar B nn)) p26.2 101 [(0, .ref a0), (1, .int a1), (2, .int a2), (4, .int v15), (5, .int v16), (7, .int v1), (8, .int v18), (9, .int p26.1)] [])) e ?_ (fun j27 Jj27 e => ?_)
        · intro e
          refine V_iload (q := 103) X (TB.get tb_X3_readWhatComes 56 rfl) rfl rfl ?_
          refine jn_elim (P := (fun (k : Int32 → Option (Int32 × Hp)) => ∀ (w28 : Int32), k w28 = some res → V p l en (rmD 2) s m args below meth c 10 D tc B nn (Ar B nn) s.heap 0 0 (MQ below (QC D tc B nn (Ar B nn) (some (.int res.1)) res.2) args s 0 0 (Ar B nn)) p26.2 113 [(0, .ref a0), (1, .int a1), (2, .int a2), (5, .int v16), (7, .int v1), (8, .int v18), (9, .int p26.1)] [.int w28])) e ?_ (fun j29 Jj29 e => ?_)
          · intro w28 e
            refine V_istore (q := 115) (lv' := [(4, .int w28), (0, .ref a0), (1, .int a1), (2, .int a2), (5, .int v16), (7, .int v1), (8, .int v18), (9, .int p26.1)]) X (TB.get tb_X3_readWhatComes 61 rfl) rfl (Nat.le_of_ble_eq_true rfl) rfl ?_
            refine V_iload (q := 117) X (TB.get tb_X3_readWhatComes 62 rfl) rfl rfl ?_
            refine V_iconst (v := 1) (q := 118) X (TB.get tb_X3_readWhatComes 63 rfl) c_iconst_1 rfl ?_
            refine jn_elim (P := (fun (k : Int32 → Option (Int32 × Hp)) => ∀ (w30 : Int32), k w30 = some res → V p l en (rmD 2) s m args below meth c 10 D tc B nn (Ar B nn) s.heap 0 0 (MQ below (QC D tc B nn (Ar B nn) (some (.int res.1)) res.2) args s 0 0 (Ar B nn)) p26.2 128 [(0, .ref a0), (1, .int a1), (2, .int a2), (4, .int w28), (7, .int v1), (8, .int v18), (9, .int p26.1)] [.int w30])) e ?_ (fun j31 Jj31 e => ?_)
            · intro w30 e
              refine V_istore (q := 130) (lv' := [(5, .int w30), (0, .ref a0), (1, .int a1), (2, .int a2), (4, .int w28), (7, .int v1), (8, .int v18), (9, .int p26.1)]) X (TB.get tb_X3_readWhatComes 68 rfl) rfl (Nat.le_of_ble_eq_true rfl) rfl ?_
              refine V_iload (q := 132) X (TB.get tb_X3_readWhatComes 69 rfl) rfl rfl ?_
              refine V_istore (q := 134) (lv' := [(6, .int p26.1), (5, .int w30), (0, .ref a0), (1, .int a1), (2, .int a2), (4, .int w28), (7, .int v1), (8, .int v18), (9, .int p26.1)]) X (TB.get tb_X3_readWhatComes 70 rfl) rfl (Nat.le_of_ble_eq_true rfl) rfl ?_
              refine V_aload_n (q := 135) X (TB.get tb_X3_readWhatComes 71 rfl) rfl rfl rfl ?_
              obtain ⟨x32, ex32, e⟩ := bs e
              refine V_getR (q := 138) X (TB.get tb_X3_readWhatComes 72 rfl) rfl lf_RX3_12 ex32 ?_
              obtain ⟨h33, eh33, e⟩ := bs e
              refine V_callV (q := 141) (As := []) (rest := []) (st' := []) X (TB.get tb_X3_readWhatComes 73 rfl) rfl cv_RX3_109 (ok_X7_advance fu x32 p26.2 h33 eh33).1 (ok_X7_advance fu x32 p26.2 h33 eh33).2 (Nat.le_of_ble_eq_true rfl) rfl rfl (Nat.le_of_ble_eq_true rfl) rfl ?_
              refine V_iinc (q := 144) (v := v18 + (1 : Int32)) (lv' := [(8, .int (v18 + (1 : Int32))), (6, .int p26.1), (5, .int w30), (0, .ref a0), (1, .int a1), (2, .int a2), (4, .int w28), (7, .int v1), (9, .int p26.1)]) X (TB.get tb_X3_readWhatComes 74 rfl) rfl rfl (by rw [c_iconst_1]) (Nat.le_of_ble_eq_true rfl) rfl ?_
              refine V_goto (q := 32) X (TB.get tb_X3_readWhatComes 75 rfl) rfl ?_
              refine V_sub (lv' := [(0, .ref a0), (1, .int a1), (2, .int a2), (4, .int w28), (5, .int w30), (6, .int p26.1), (7, .int v1), (8, .int (v18 + (1 : Int32)))]) [3, 4, 5, 6, 2, 1, 7, 0] rfl ?_
              exact ihself20 _ _ _ _ _ e
            refine V_icmp_gt (q := 121) (t := 126) X (TB.get tb_X3_readWhatComes 64 rfl) rfl rfl (fun hc => ?_) (fun hc => ?_)
            · have e := (if_pos hc).symm.trans e
              refine V_iload (q := 128) X (TB.get tb_X3_readWhatComes 67 rfl) rfl rfl ?_
              refine V_sub (lv' := [(0, .ref a0), (1, .int a1), (2, .int a2), (4, .int w28), (7, .int v1), (8, .int v18), (9, .int p26.1)]) [1, 2, 3, 0, 5, 6, 7] rfl ?_
              exact Jj31 _ e
            · have e := (if_neg hc).symm.trans e
              refine V_iload (q := 123) X (TB.get tb_X3_readWhatComes 65 rfl) rfl rfl ?_
              refine V_goto (q := 128) X (TB.get tb_X3_readWhatComes 66 rfl) rfl ?_
              refine V_sub (lv' := [(0, .ref a0), (1, .int a1), (2, .int a2), (4, .int w28), (7, .int v1), (8, .int v18), (9, .int p26.1)]) [1, 2, 3, 0, 5, 6, 7] rfl ?_
              exact Jj31 _ e
          refine V_if_ne (q := 106) (t := 111) X (TB.get tb_X3_readWhatComes 57 rfl) rfl rfl (fun hc => ?_) (fun hc => ?_)
          · have e := (if_neg hc).symm.trans e
            refine V_iload (q := 113) X (TB.get tb_X3_readWhatComes 60 rfl) rfl rfl ?_
            refine V_sub (lv' := [(0, .ref a0), (1, .int a1), (2, .int a2), (5, .int v16), (7, .int v1), (8, .int v18), (9, .int p26.1)]) [0, 1, 2, 4, 5, 6, 7] rfl ?_
            exact Jj29 _ e
          · have e := (if_pos hc).symm.trans e
            refine V_iload (q := 108) X (TB.get tb_X3_readWhatComes 58 rfl) rfl rfl ?_
            refine V_goto (q := 113) X (TB.get tb_X3_readWhatComes 59 rfl) rfl ?_
            refine V_sub (lv' := [(0, .ref a0), (1, .int a1), (2, .int a2), (5, .int v16), (7, .int v1), (8, .int v18), (9, .int p26.1)]) [0, 1, 2, 4, 5, 6, 7] rfl ?_
            exact Jj29 _ e
        refine V_if_ne (q := 78) (t := 101) X (TB.get tb_X3_readWhatComes 43 rfl) rfl rfl (fun hc => ?_) (fun hc => ?_)
        · have e := (if_neg hc).symm.trans e
          refine V_sub (lv' := [(0, .ref a0), (1, .int a1), (2, .int a2), (4, .int v15), (5, .int v16), (7, .int v1), (8, .int v18), (9, .int p26.1)]) [1, 2, 3, 4, 5, 7, 8, 0] rfl ?_
          exact Jj27 e
        · have e := (if_pos hc).symm.trans e
          refine V_aload_n (q := 79) X (TB.get tb_X3_readWhatComes 44 rfl) rfl rfl rfl ?_
          obtain ⟨x34, ex34, e⟩ := bs e
          refine V_getR (q := 82) X (TB.get tb_X3_readWhatComes 45 rfl) rfl lf_RX3_21 ex34 ?_
          obtain ⟨x35, ex35, e⟩ := bs e
          refine V_getR (q := 85) X (TB.get tb_X3_readWhatComes 46 rfl) rfl lf_RX3_100 ex35 ?_
          refine V_iload_n (q := 86) X (TB.get tb_X3_readWhatComes 47 rfl) rfl rfl rfl ?_
          refine V_iload_n (q := 87) X (TB.get tb_X3_readWhatComes 48 rfl) rfl rfl rfl ?_
          refine V_iload (q := 89) X (TB.get tb_X3_readWhatComes 49 rfl) rfl rfl ?_
          obtain ⟨x36, ex36, e⟩ := bs e
          refine V_callV (q := 92) (As := [.int a1, .int a2, .int p26.1]) (rest := []) (st' := [.int x36]) X (TB.get tb_X3_readWhatComes 50 rfl) rfl cv_RX3_145 (ok_X2_canBe x35 a1 a2 p26.1 p26.2 x36 ex36).1 (ok_X2_canBe x35 a1 a2 p26.1 p26.2 x36 ex36).2 (Nat.le_of_ble_eq_true rfl) rfl rfl (Nat.le_of_ble_eq_true rfl) rfl ?_
          refine V_if_eq (q := 95) (t := 101) X (TB.get tb_X3_readWhatComes 51 rfl) rfl rfl (fun hc => ?_) (fun hc => ?_)
          · have e := (if_pos hc).symm.trans e
            refine V_sub (lv' := [(0, .ref a0), (1, .int a1), (2, .int a2), (4, .int v15), (5, .int v16), (7, .int v1), (8, .int v18), (9, .int p26.1)]) [1, 2, 3, 4, 5, 7, 8, 0] rfl ?_
            exact Jj27 e
          · have e := (if_neg hc).symm.trans e
            refine V_sub (lv' := [(0, .ref a0)]) [1] rfl ?_
            exact Jj12 _ e
      · have e := (if_pos hc).symm.trans e
        refine V_iconst (v := 0) (q := 72) X (TB.get tb_X3_readWhatComes 40 rfl) c_iconst_0 rfl ?_
        cases e
        exact V_zret X hr hlk (Or.inl rfl) (TB.get tb_X3_readWhatComes 41 rfl)
  refine V_icmp_eq (q := 17) (t := 29) X (TB.get tb_X3_readWhatComes 10 rfl) rfl rfl (fun hc => ?_) (fun hc => ?_)
  · have e := (if_pos hc).symm.trans e
    refine V_sub (lv' := [(0, .ref a0), (1, .int a1), (2, .int a2), (4, .int (-1 : Int32)), (5, .int (-1 : Int32)), (6, .int (-1 : Int32)), (7, .int (1 : Int32))]) [4, 5, 6, 3, 2, 1, 0] rfl ?_
    exact Jj2 _ e
  · have e := (if_neg hc).symm.trans e
    refine V_iload_n (q := 18) X (TB.get tb_X3_readWhatComes 11 rfl) rfl rfl rfl ?_
    refine V_iconst (v := 1) (q := 19) X (TB.get tb_X3_readWhatComes 12 rfl) c_iconst_1 rfl ?_
    refine jn_elim (P := (fun (k : Int32 → Option (Int32 × Hp)) => ∀ (w37 : Int32), k w37 = some res → V p l en (rmD 2) s m args below meth c 10 D tc B nn (Ar B nn) s.heap 0 0 (MQ below (QC D tc B nn (Ar B nn) (some (.int res.1)) res.2) args s 0 0 (Ar B nn)) h 27 [(0, .ref a0), (1, .int a1), (2, .int a2), (4, .int (-1 : Int32)), (5, .int (-1 : Int32)), (6, .int (-1 : Int32))] [.int w37])) e ?_ (fun j38 Jj38 e => ?_)
    · intro w37 e
      refine V_istore (q := 29) (lv' := [(7, .int w37), (0, .ref a0), (1, .int a1), (2, .int a2), (4, .int (-1 : Int32)), (5, .int (-1 : Int32)), (6, .int (-1 : Int32))]) X (TB.get tb_X3_readWhatComes 17 rfl) rfl (Nat.le_of_ble_eq_true rfl) rfl ?_
      refine V_sub (lv' := [(0, .ref a0), (1, .int a1), (2, .int a2), (4, .int (-1 : Int32)), (5, .int (-1 : Int32)), (6, .int (-1 : Int32)), (7, .int w37)]) [1, 2, 3, 4, 5, 6, 0] rfl ?_
      exact Jj2 _ e
    refine V_icmp_ne (q := 22) (t := 26) X (TB.get tb_X3_readWhatComes 13 rfl) rfl rfl (fun hc => ?_) (fun hc => ?_)
    · have e := (if_neg hc).symm.trans e
      refine V_iconst (v := 2) (q := 27) X (TB.get tb_X3_readWhatComes 16 rfl) c_iconst_2 rfl ?_
      refine V_sub (lv' := [(0, .ref a0), (1, .int a1), (2, .int a2), (4, .int (-1 : Int32)), (5, .int (-1 : Int32)), (6, .int (-1 : Int32))]) [4, 5, 6, 3, 2, 1] rfl ?_
      exact Jj38 _ e
    · have e := (if_pos hc).symm.trans e
      refine V_iconst (v := 3) (q := 23) X (TB.get tb_X3_readWhatComes 14 rfl) c_iconst_3 rfl ?_
      refine V_goto (q := 27) X (TB.get tb_X3_readWhatComes 15 rfl) rfl ?_
      refine V_sub (lv' := [(0, .ref a0), (1, .int a1), (2, .int a2), (4, .int (-1 : Int32)), (5, .int (-1 : Int32)), (6, .int (-1 : Int32))]) [4, 5, 6, 3, 2, 1] rfl ?_
      exact Jj38 _ e
set_option maxRecDepth 100000 in
set_option maxHeartbeats 4000000 in
theorem ok_X3_readMethod (fu : Nat) (a0 : Nat) (a1 : Int32) (h : Hp) (res : Int32 × Hp) (e : MX3_readMethod fu a0 a1 h = some res) : CK yX3_readMethod cX3_readMethod 4 (some .boolean) 3 [.ref a0, .int a1] h (some (.int res.1)) res.2 ∧ (h.1 a0).1 = 3 := by
  obtain ⟨hcl, e⟩ := h_g_inv e
  refine ⟨CK_of pn_RX3 cm_X3_readMethod (Nat.le_of_ble_eq_true rfl) ?_, hcl⟩
  intro l D tc B nn p en s m args below meth c X hr hlk
  replace X : CX p (rmD 3) s m args c cX3_readMethod 4 RX3 D tc 3 := X
  show V p l en (rmD 3) s m args below meth c 4 D tc B nn (Ar B nn) s.heap 0 0 (MQ below (QC D tc B nn (Ar B nn) (some (.int res.1)) res.2) args s 0 0 (Ar B nn)) h 0 [(0, .ref a0), (1, .int a1)] []
  refine V_aload_n (q := 1) X (TB.get tb_X3_readMethod 0 rfl) rfl rfl rfl ?_
  obtain ⟨x1, ex1, e⟩ := bs e
  refine V_getR (q := 4) X (TB.get tb_X3_readMethod 1 rfl) rfl lf_RX3_12 ex1 ?_
  obtain ⟨h2, eh2, e⟩ := bs e
  refine V_callV (q := 7) (As := []) (rest := []) (st' := []) X (TB.get tb_X3_readMethod 2 rfl) rfl cv_RX3_109 (ok_X7_advance fu x1 h h2 eh2).1 (ok_X7_advance fu x1 h h2 eh2).2 (Nat.le_of_ble_eq_true rfl) rfl rfl (Nat.le_of_ble_eq_true rfl) rfl ?_
  refine V_aload_n (q := 8) X (TB.get tb_X3_readMethod 3 rfl) rfl rfl rfl ?_
  refine V_aload_n (q := 9) X (TB.get tb_X3_readMethod 4 rfl) rfl rfl rfl ?_
  obtain ⟨x3, ex3, e⟩ := bs e
  refine V_getR (q := 12) X (TB.get tb_X3_readMethod 5 rfl) rfl lf_RX3_25 ex3 ?_
  refine V_iconst (v := 0) (q := 13) X (TB.get tb_X3_readMethod 6 rfl) c_iconst_0 rfl ?_
  refine V_aload_n (q := 14) X (TB.get tb_X3_readMethod 7 rfl) rfl rfl rfl ?_
  obtain ⟨x4, ex4, e⟩ := bs e
  refine V_getR (q := 17) X (TB.get tb_X3_readMethod 8 rfl) rfl lf_RX3_21 ex4 ?_
  obtain ⟨x5, ex5, e⟩ := bs e
  refine V_getR (q := 20) X (TB.get tb_X3_readMethod 9 rfl) rfl lf_RX3_100 ex5 ?_
  obtain ⟨x6, ex6, e⟩ := bs e
  refine V_getI (q := 23) X (TB.get tb_X3_readMethod 10 rfl) rfl lf_RX3_104 ex6 ?_
  obtain ⟨p7, ep7, e⟩ := bs e
  refine V_callV (q := 26) (As := [.ref x3, .int (0 : Int32), .int x6]) (rest := []) (st' := [.int p7.1]) X (TB.get tb_X3_readMethod 11 rfl) rfl cv_RX3_130 (ok_X3_known fu a0 x3 (0 : Int32) x6 h2 p7 ep7).1 (ok_X3_known fu a0 x3 (0 : Int32) x6 h2 p7 ep7).2 (Nat.le_of_ble_eq_true rfl) rfl rfl (Nat.le_of_ble_eq_true rfl) rfl ?_
  refine V_istore_n (q := 27) (lv' := [(2, .int p7.1), (0, .ref a0), (1, .int a1)]) X (TB.get tb_X3_readMethod 12 rfl) rfl rfl (Nat.le_of_ble_eq_true rfl) rfl ?_
  refine V_iload_n (q := 28) X (TB.get tb_X3_readMethod 13 rfl) rfl rfl rfl ?_
  refine V_iconst (v := -1) (q := 29) X (TB.get tb_X3_readMethod 14 rfl) c_iconst_m1 rfl ?_
  refine V_icmp_ne (q := 32) (t := 34) X (TB.get tb_X3_readMethod 15 rfl) rfl rfl (fun hc => ?_) (fun hc => ?_)
  · have e := (if_neg hc).symm.trans e
    refine V_aload_n (q := 35) X (TB.get tb_X3_readMethod 18 rfl) rfl rfl rfl ?_
    obtain ⟨x8, ex8, e⟩ := bs e
    refine V_getR (q := 38) X (TB.get tb_X3_readMethod 19 rfl) rfl lf_RX3_12 ex8 ?_
    obtain ⟨h9, eh9, e⟩ := bs e
    refine V_callV (q := 41) (As := []) (rest := []) (st' := []) X (TB.get tb_X3_readMethod 20 rfl) rfl cv_RX3_109 (ok_X7_advance fu x8 p7.2 h9 eh9).1 (ok_X7_advance fu x8 p7.2 h9 eh9).2 (Nat.le_of_ble_eq_true rfl) rfl rfl (Nat.le_of_ble_eq_true rfl) rfl ?_
    refine V_aload_n (q := 42) X (TB.get tb_X3_readMethod 21 rfl) rfl rfl rfl ?_
    refine V_iload_n (q := 43) X (TB.get tb_X3_readMethod 22 rfl) rfl rfl rfl ?_
    refine V_iload_n (q := 44) X (TB.get tb_X3_readMethod 23 rfl) rfl rfl rfl ?_
    obtain ⟨p10, ep10, e⟩ := bs e
    refine V_callV (q := 47) (As := [.int p7.1, .int a1]) (rest := []) (st' := [.int p10.1]) X (TB.get tb_X3_readMethod 24 rfl) rfl cv_RX3_137 (ok_X3_methodToTell fu a0 p7.1 a1 h9 p10 ep10).1 (ok_X3_methodToTell fu a0 p7.1 a1 h9 p10 ep10).2 (Nat.le_of_ble_eq_true rfl) rfl rfl (Nat.le_of_ble_eq_true rfl) rfl ?_
    refine V_istore_n (q := 48) (lv' := [(3, .int p10.1), (2, .int p7.1), (0, .ref a0), (1, .int a1)]) X (TB.get tb_X3_readMethod 25 rfl) rfl rfl (Nat.le_of_ble_eq_true rfl) rfl ?_
    refine V_iload_n (q := 49) X (TB.get tb_X3_readMethod 26 rfl) rfl rfl rfl ?_
    refine V_iconst (v := -1) (q := 50) X (TB.get tb_X3_readMethod 27 rfl) c_iconst_m1 rfl ?_
    refine V_icmp_ne (q := 53) (t := 55) X (TB.get tb_X3_readMethod 28 rfl) rfl rfl (fun hc => ?_) (fun hc => ?_)
    · have e := (if_neg hc).symm.trans e
      refine V_aload_n (q := 56) X (TB.get tb_X3_readMethod 31 rfl) rfl rfl rfl ?_
      obtain ⟨x11, ex11, e⟩ := bs e
      refine V_getR (q := 59) X (TB.get tb_X3_readMethod 32 rfl) rfl lf_RX3_12 ex11 ?_
      obtain ⟨h12, eh12, e⟩ := bs e
      refine V_callV (q := 62) (As := []) (rest := []) (st' := []) X (TB.get tb_X3_readMethod 33 rfl) rfl cv_RX3_109 (ok_X7_advance fu x11 p10.2 h12 eh12).1 (ok_X7_advance fu x11 p10.2 h12 eh12).2 (Nat.le_of_ble_eq_true rfl) rfl rfl (Nat.le_of_ble_eq_true rfl) rfl ?_
      refine V_aload_n (q := 63) X (TB.get tb_X3_readMethod 34 rfl) rfl rfl rfl ?_
      refine V_iload_n (q := 64) X (TB.get tb_X3_readMethod 35 rfl) rfl rfl rfl ?_
      refine V_iload_n (q := 65) X (TB.get tb_X3_readMethod 36 rfl) rfl rfl rfl ?_
      refine V_iload_n (q := 66) X (TB.get tb_X3_readMethod 37 rfl) rfl rfl rfl ?_
      obtain ⟨p13, ep13, e⟩ := bs e
      refine V_callV (q := 69) (As := [.int p7.1, .int p10.1, .int a1]) (rest := []) (st' := [.int p13.1]) X (TB.get tb_X3_readMethod 38 rfl) rfl cv_RX3_141 (ok_X3_readWhatComes fu a0 p7.1 p10.1 a1 h12 p13 ep13).1 (ok_X3_readWhatComes fu a0 p7.1 p10.1 a1 h12 p13 ep13).2 (Nat.le_of_ble_eq_true rfl) rfl rfl (Nat.le_of_ble_eq_true rfl) rfl ?_
      refine jn_elim (P := (fun (k : Hp → Option (Int32 × Hp)) => ∀ (h14 : Hp), k h14 = some res → V p l en (rmD 3) s m args below meth c 4 D tc B nn (Ar B nn) s.heap 0 0 (MQ below (QC D tc B nn (Ar B nn) (some (.int res.1)) res.2) args s 0 0 (Ar B nn)) h14 85 [] [])) e ?_ (fun j15 Jj15 e => ?_)
      · intro h14 e
        refine V_iconst (v := 0) (q := 86) X (TB.get tb_X3_readMethod 46 rfl) c_iconst_0 rfl ?_
        cases e
        exact V_zret X hr hlk (Or.inl rfl) (TB.get tb_X3_readMethod 47 rfl)
      refine V_if_eq (q := 72) (t := 85) X (TB.get tb_X3_readMethod 39 rfl) rfl rfl (fun hc => ?_) (fun hc => ?_)
      · have e := (if_pos hc).symm.trans e
        refine V_sub (lv' := []) [] rfl ?_
        exact Jj15 _ e
      · have e := (if_neg hc).symm.trans e
        refine V_aload_n (q := 73) X (TB.get tb_X3_readMethod 40 rfl) rfl rfl rfl ?_
        refine V_bipush (v := 19) (q := 75) X (TB.get tb_X3_readMethod 41 rfl) c_bipush_19 rfl ?_
        obtain ⟨p16, ep16, e⟩ := bs e
        refine V_callV (q := 78) (As := [.int (19 : Int32)]) (rest := []) (st' := [.int p16.1]) X (TB.get tb_X3_readMethod 42 rfl) rfl cv_RX3_127 (ok_X3_takeSign fu a0 (19 : Int32) p13.2 p16 ep16).1 (ok_X3_takeSign fu a0 (19 : Int32) p13.2 p16 ep16).2 (Nat.le_of_ble_eq_true rfl) rfl rfl (Nat.le_of_ble_eq_true rfl) rfl ?_
        refine V_if_eq (q := 81) (t := 85) X (TB.get tb_X3_readMethod 43 rfl) rfl rfl (fun hc => ?_) (fun hc => ?_)
        · have e := (if_pos hc).symm.trans e
          refine V_sub (lv' := []) [] rfl ?_
          exact Jj15 _ e
        · have e := (if_neg hc).symm.trans e
          refine V_iconst (v := 1) (q := 82) X (TB.get tb_X3_readMethod 44 rfl) c_iconst_1 rfl ?_
          refine V_goto (q := 86) X (TB.get tb_X3_readMethod 45 rfl) rfl ?_
          cases e
          exact V_zret X hr hlk (Or.inr rfl) (TB.get tb_X3_readMethod 47 rfl)
    · have e := (if_pos hc).symm.trans e
      refine V_iconst (v := 0) (q := 54) X (TB.get tb_X3_readMethod 29 rfl) c_iconst_0 rfl ?_
      cases e
      exact V_zret X hr hlk (Or.inl rfl) (TB.get tb_X3_readMethod 30 rfl)
  · have e := (if_pos hc).symm.trans e
    refine V_iconst (v := 0) (q := 33) X (TB.get tb_X3_readMethod 16 rfl) c_iconst_0 rfl ?_
    cases e
    exact V_zret X hr hlk (Or.inl rfl) (TB.get tb_X3_readMethod 17 rfl)
set_option maxRecDepth 100000 in
set_option maxHeartbeats 4000000 in
theorem ok_X3_readVariable (fu : Nat) (a0 : Nat) (h : Hp) (res : Int32 × Hp) (e : MX3_readVariable fu a0 h = some res) : CK yX3_readVariable cX3_readVariable 3 (some .boolean) 3 [.ref a0] h (some (.int res.1)) res.2 ∧ (h.1 a0).1 = 3 := by
  obtain ⟨hcl, e⟩ := h_g_inv e
  refine ⟨CK_of pn_RX3 cm_X3_readVariable (Nat.le_of_ble_eq_true rfl) ?_, hcl⟩
  intro l D tc B nn p en s m args below meth c X hr hlk
  replace X : CX p (rmD 3) s m args c cX3_readVariable 3 RX3 D tc 3 := X
  show V p l en (rmD 3) s m args below meth c 3 D tc B nn (Ar B nn) s.heap 0 0 (MQ below (QC D tc B nn (Ar B nn) (some (.int res.1)) res.2) args s 0 0 (Ar B nn)) h 0 [(0, .ref a0)] []
  refine V_aload_n (q := 1) X (TB.get tb_X3_readVariable 0 rfl) rfl rfl rfl ?_
  obtain ⟨x1, ex1, e⟩ := bs e
  refine V_getR (q := 4) X (TB.get tb_X3_readVariable 1 rfl) rfl lf_RX3_21 ex1 ?_
  obtain ⟨x2, ex2, e⟩ := bs e
  refine V_getI (q := 7) X (TB.get tb_X3_readVariable 2 rfl) rfl lf_RX3_152 ex2 ?_
  refine V_bipush (v := 6) (q := 9) X (TB.get tb_X3_readVariable 3 rfl) c_bipush_6 rfl ?_
  refine V_icmp_lt (q := 12) (t := 19) X (TB.get tb_X3_readVariable 4 rfl) rfl rfl (fun hc => ?_) (fun hc => ?_)
  · have e := (if_pos hc).symm.trans e
    refine V_aload_n (q := 20) X (TB.get tb_X3_readVariable 9 rfl) rfl rfl rfl ?_
    obtain ⟨x3, ex3, e⟩ := bs e
    refine V_getR (q := 23) X (TB.get tb_X3_readVariable 10 rfl) rfl lf_RX3_12 ex3 ?_
    obtain ⟨h4, eh4, e⟩ := bs e
    refine V_callV (q := 26) (As := []) (rest := []) (st' := []) X (TB.get tb_X3_readVariable 11 rfl) rfl cv_RX3_109 (ok_X7_advance fu x3 h h4 eh4).1 (ok_X7_advance fu x3 h h4 eh4).2 (Nat.le_of_ble_eq_true rfl) rfl rfl (Nat.le_of_ble_eq_true rfl) rfl ?_
    refine V_aload_n (q := 27) X (TB.get tb_X3_readVariable 12 rfl) rfl rfl rfl ?_
    refine V_aload_n (q := 28) X (TB.get tb_X3_readVariable 13 rfl) rfl rfl rfl ?_
    obtain ⟨x5, ex5, e⟩ := bs e
    refine V_getR (q := 31) X (TB.get tb_X3_readVariable 14 rfl) rfl lf_RX3_35 ex5 ?_
    refine V_iconst (v := 0) (q := 32) X (TB.get tb_X3_readVariable 15 rfl) c_iconst_0 rfl ?_
    refine V_aload_n (q := 33) X (TB.get tb_X3_readVariable 16 rfl) rfl rfl rfl ?_
    obtain ⟨x6, ex6, e⟩ := bs e
    refine V_getR (q := 36) X (TB.get tb_X3_readVariable 17 rfl) rfl lf_RX3_21 ex6 ?_
    obtain ⟨x7, ex7, e⟩ := bs e
    refine V_getI (q := 39) X (TB.get tb_X3_readVariable 18 rfl) rfl lf_RX3_152 ex7 ?_
    obtain ⟨p8, ep8, e⟩ := bs e
    refine V_callV (q := 42) (As := [.ref x5, .int (0 : Int32), .int x7]) (rest := []) (st' := [.int p8.1]) X (TB.get tb_X3_readVariable 19 rfl) rfl cv_RX3_112 (ok_X3_isNewName fu a0 x5 (0 : Int32) x7 h4 p8 ep8).1 (ok_X3_isNewName fu a0 x5 (0 : Int32) x7 h4 p8 ep8).2 (Nat.le_of_ble_eq_true rfl) rfl rfl (Nat.le_of_ble_eq_true rfl) rfl ?_
    refine V_if_ne (q := 45) (t := 47) X (TB.get tb_X3_readVariable 20 rfl) rfl rfl (fun hc => ?_) (fun hc => ?_)
    · have e := (if_neg hc).symm.trans e
      refine V_aload_n (q := 48) X (TB.get tb_X3_readVariable 23 rfl) rfl rfl rfl ?_
      obtain ⟨x9, ex9, e⟩ := bs e
      refine V_getR (q := 51) X (TB.get tb_X3_readVariable 24 rfl) rfl lf_RX3_21 ex9 ?_
      obtain ⟨x10, ex10, e⟩ := bs e
      refine V_getI (q := 54) X (TB.get tb_X3_readVariable 25 rfl) rfl lf_RX3_152 ex10 ?_
      refine V_istore_n (q := 55) (lv' := [(1, .int x10), (0, .ref a0)]) X (TB.get tb_X3_readVariable 26 rfl) rfl rfl (Nat.le_of_ble_eq_true rfl) rfl ?_
      refine V_aload_n (q := 56) X (TB.get tb_X3_readVariable 27 rfl) rfl rfl rfl ?_
      obtain ⟨x11, ex11, e⟩ := bs e
      refine V_getR (q := 59) X (TB.get tb_X3_readVariable 28 rfl) rfl lf_RX3_35 ex11 ?_
      refine V_iload_n (q := 60) X (TB.get tb_X3_readVariable 29 rfl) rfl rfl rfl ?_
      refine V_aload_n (q := 61) X (TB.get tb_X3_readVariable 30 rfl) rfl rfl rfl ?_
      obtain ⟨x12, ex12, e⟩ := bs e
      refine V_getR (q := 64) X (TB.get tb_X3_readVariable 31 rfl) rfl lf_RX3_12 ex12 ?_
      obtain ⟨x13, ex13, e⟩ := bs e
      refine V_getL (q := 67) X (TB.get tb_X3_readVariable 32 rfl) rfl lf_RX3_120 ex13 ?_
      obtain ⟨h14, eh14, e⟩ := bs e
      refine V_lastore (q := 68) X (TB.get tb_X3_readVariable 33 rfl) rfl eh14 ?_
      refine V_aload_n (q := 69) X (TB.get tb_X3_readVariable 34 rfl) rfl rfl rfl ?_
      obtain ⟨x15, ex15, e⟩ := bs e
      refine V_getR (q := 72) X (TB.get tb_X3_readVariable 35 rfl) rfl lf_RX3_12 ex15 ?_
      obtain ⟨h16, eh16, e⟩ := bs e
      refine V_callV (q := 75) (As := []) (rest := []) (st' := []) X (TB.get tb_X3_readVariable 36 rfl) rfl cv_RX3_109 (ok_X7_advance fu x15 h14 h16 eh16).1 (ok_X7_advance fu x15 h14 h16 eh16).2 (Nat.le_of_ble_eq_true rfl) rfl rfl (Nat.le_of_ble_eq_true rfl) rfl ?_
      refine V_aload_n (q := 76) X (TB.get tb_X3_readVariable 37 rfl) rfl rfl rfl ?_
      refine V_aload_n (q := 77) X (TB.get tb_X3_readVariable 38 rfl) rfl rfl rfl ?_
      obtain ⟨x17, ex17, e⟩ := bs e
      refine V_getR (q := 80) X (TB.get tb_X3_readVariable 39 rfl) rfl lf_RX3_25 ex17 ?_
      refine V_iconst (v := 0) (q := 81) X (TB.get tb_X3_readVariable 40 rfl) c_iconst_0 rfl ?_
      refine V_aload_n (q := 82) X (TB.get tb_X3_readVariable 41 rfl) rfl rfl rfl ?_
      obtain ⟨x18, ex18, e⟩ := bs e
      refine V_getR (q := 85) X (TB.get tb_X3_readVariable 42 rfl) rfl lf_RX3_21 ex18 ?_
      obtain ⟨x19, ex19, e⟩ := bs e
      refine V_getR (q := 88) X (TB.get tb_X3_readVariable 43 rfl) rfl lf_RX3_100 ex19 ?_
      obtain ⟨x20, ex20, e⟩ := bs e
      refine V_getI (q := 91) X (TB.get tb_X3_readVariable 44 rfl) rfl lf_RX3_104 ex20 ?_
      obtain ⟨p21, ep21, e⟩ := bs e
      refine V_callV (q := 94) (As := [.ref x17, .int (0 : Int32), .int x20]) (rest := []) (st' := [.int p21.1]) X (TB.get tb_X3_readVariable 45 rfl) rfl cv_RX3_130 (ok_X3_known fu a0 x17 (0 : Int32) x20 h16 p21 ep21).1 (ok_X3_known fu a0 x17 (0 : Int32) x20 h16 p21 ep21).2 (Nat.le_of_ble_eq_true rfl) rfl rfl (Nat.le_of_ble_eq_true rfl) rfl ?_
      refine V_istore_n (q := 95) (lv' := [(2, .int p21.1), (1, .int x10), (0, .ref a0)]) X (TB.get tb_X3_readVariable 46 rfl) rfl rfl (Nat.le_of_ble_eq_true rfl) rfl ?_
      refine V_iload_n (q := 96) X (TB.get tb_X3_readVariable 47 rfl) rfl rfl rfl ?_
      refine V_iconst (v := -1) (q := 97) X (TB.get tb_X3_readVariable 48 rfl) c_iconst_m1 rfl ?_
      refine V_icmp_ne (q := 100) (t := 102) X (TB.get tb_X3_readVariable 49 rfl) rfl rfl (fun hc => ?_) (fun hc => ?_)
      · have e := (if_neg hc).symm.trans e
        refine V_aload_n (q := 103) X (TB.get tb_X3_readVariable 52 rfl) rfl rfl rfl ?_
        obtain ⟨x22, ex22, e⟩ := bs e
        refine V_getR (q := 106) X (TB.get tb_X3_readVariable 53 rfl) rfl lf_RX3_21 ex22 ?_
        obtain ⟨x23, ex23, e⟩ := bs e
        refine V_getR (q := 109) X (TB.get tb_X3_readVariable 54 rfl) rfl lf_RX3_155 ex23 ?_
        refine V_iload_n (q := 110) X (TB.get tb_X3_readVariable 55 rfl) rfl rfl rfl ?_
        refine V_iload_n (q := 111) X (TB.get tb_X3_readVariable 56 rfl) rfl rfl rfl ?_
        obtain ⟨h24, eh24, e⟩ := bs e
        refine V_iastore (q := 112) X (TB.get tb_X3_readVariable 57 rfl) rfl eh24 ?_
        refine V_aload_n (q := 113) X (TB.get tb_X3_readVariable 58 rfl) rfl rfl rfl ?_
        obtain ⟨x25, ex25, e⟩ := bs e
        refine V_getR (q := 116) X (TB.get tb_X3_readVariable 59 rfl) rfl lf_RX3_21 ex25 ?_
        refine V_dup (q := 117) X (TB.get tb_X3_readVariable 60 rfl) rfl rfl ?_
        obtain ⟨x26, ex26, e⟩ := bs e
        refine V_getI (q := 120) X (TB.get tb_X3_readVariable 61 rfl) rfl lf_RX3_152 ex26 ?_
        refine V_iconst (v := 1) (q := 121) X (TB.get tb_X3_readVariable 62 rfl) c_iconst_1 rfl ?_
        refine V_iadd (q := 122) X (TB.get tb_X3_readVariable 63 rfl) rfl ?_
        obtain ⟨h27, eh27, e⟩ := bs e
        refine V_putI (q := 125) X (TB.get tb_X3_readVariable 64 rfl) rfl lq_RX3_152 eh27 ?_
        refine V_aload_n (q := 126) X (TB.get tb_X3_readVariable 65 rfl) rfl rfl rfl ?_
        obtain ⟨x28, ex28, e⟩ := bs e
        refine V_getR (q := 129) X (TB.get tb_X3_readVariable 66 rfl) rfl lf_RX3_12 ex28 ?_
        obtain ⟨h29, eh29, e⟩ := bs e
        refine V_callV (q := 132) (As := []) (rest := []) (st' := []) X (TB.get tb_X3_readVariable 67 rfl) rfl cv_RX3_109 (ok_X7_advance fu x28 h27 h29 eh29).1 (ok_X7_advance fu x28 h27 h29 eh29).2 (Nat.le_of_ble_eq_true rfl) rfl rfl (Nat.le_of_ble_eq_true rfl) rfl ?_
        refine V_aload_n (q := 133) X (TB.get tb_X3_readVariable 68 rfl) rfl rfl rfl ?_
        refine V_bipush (v := 19) (q := 135) X (TB.get tb_X3_readVariable 69 rfl) c_bipush_19 rfl ?_
        obtain ⟨p30, ep30, e⟩ := bs e
        refine V_callV (q := 138) (As := [.int (19 : Int32)]) (rest := []) (st' := [.int p30.1]) X (TB.get tb_X3_readVariable 70 rfl) rfl cv_RX3_127 (ok_X3_takeSign fu a0 (19 : Int32) h29 p30 ep30).1 (ok_X3_takeSign fu a0 (19 : Int32) h29 p30 ep30).2 (Nat.le_of_ble_eq_true rfl) rfl rfl (Nat.le_of_ble_eq_true rfl) rfl ?_
        obtain ⟨z31, ez31, e⟩ := bs e
        cases e
        exact V_zretH X hr hlk ez31 (TB.get tb_X3_readVariable 71 rfl)
      · have e := (if_pos hc).symm.trans e
        refine V_iconst (v := 0) (q := 101) X (TB.get tb_X3_readVariable 50 rfl) c_iconst_0 rfl ?_
        cases e
        exact V_zret X hr hlk (Or.inl rfl) (TB.get tb_X3_readVariable 51 rfl)
    · have e := (if_pos hc).symm.trans e
      refine V_iconst (v := 0) (q := 46) X (TB.get tb_X3_readVariable 21 rfl) c_iconst_0 rfl ?_
      cases e
      exact V_zret X hr hlk (Or.inl rfl) (TB.get tb_X3_readVariable 22 rfl)
  · have e := (if_neg hc).symm.trans e
    refine V_aload_n (q := 13) X (TB.get tb_X3_readVariable 5 rfl) rfl rfl rfl ?_
    refine V_bipush (v := 6) (q := 15) X (TB.get tb_X3_readVariable 6 rfl) c_bipush_6 rfl ?_
    obtain ⟨p32, ep32, e⟩ := bs e
    refine V_callV (q := 18) (As := [.int (6 : Int32)]) (rest := []) (st' := [.int p32.1]) X (TB.get tb_X3_readVariable 7 rfl) rfl cv_RX3_85 (ok_X3_fail a0 (6 : Int32) h p32 ep32).1 (ok_X3_fail a0 (6 : Int32) h p32 ep32).2 (Nat.le_of_ble_eq_true rfl) rfl rfl (Nat.le_of_ble_eq_true rfl) rfl ?_
    obtain ⟨z33, ez33, e⟩ := bs e
    cases e
    exact V_zretH X hr hlk ez33 (TB.get tb_X3_readVariable 8 rfl)
set_option maxRecDepth 100000 in
set_option maxHeartbeats 4000000 in
theorem ok_X3_readPiece (fu : Nat) (a0 : Nat) (h : Hp) (res : Int32 × Hp) (e : MX3_readPiece fu a0 h = some res) : CK yX3_readPiece cX3_readPiece 2 (some .boolean) 4 [.ref a0] h (some (.int res.1)) res.2 ∧ (h.1 a0).1 = 3 := by
  obtain ⟨hcl, e⟩ := h_g_inv e
  refine ⟨CK_of pn_RX3 cm_X3_readPiece (Nat.le_of_ble_eq_true rfl) ?_, hcl⟩
  intro l D tc B nn p en s m args below meth c X hr hlk
  replace X : CX p (rmD 4) s m args c cX3_readPiece 2 RX3 D tc 4 := X
  show V p l en (rmD 4) s m args below meth c 2 D tc B nn (Ar B nn) s.heap 0 0 (MQ below (QC D tc B nn (Ar B nn) (some (.int res.1)) res.2) args s 0 0 (Ar B nn)) h 0 [(0, .ref a0)] []
  refine V_aload_n (q := 1) X (TB.get tb_X3_readPiece 0 rfl) rfl rfl rfl ?_
  obtain ⟨x1, ex1, e⟩ := bs e
  refine V_getR (q := 4) X (TB.get tb_X3_readPiece 1 rfl) rfl lf_RX3_12 ex1 ?_
  obtain ⟨x2, ex2, e⟩ := bs e
  refine V_getI (q := 7) X (TB.get tb_X3_readPiece 2 rfl) rfl lf_RX3_72 ex2 ?_
  refine V_istore_n (q := 8) (lv' := [(1, .int x2), (0, .ref a0)]) X (TB.get tb_X3_readPiece 3 rfl) rfl rfl (Nat.le_of_ble_eq_true rfl) rfl ?_
  refine V_iload_n (q := 9) X (TB.get tb_X3_readPiece 4 rfl) rfl rfl rfl ?_
  refine V_bipush (v := 7) (q := 11) X (TB.get tb_X3_readPiece 5 rfl) c_bipush_7 rfl ?_
  refine jn_elim (P := (fun (k : Option (Int32 × Hp)) => k = some res → V p l en (rmD 4) s m args below meth c 2 D tc B nn (Ar B nn) s.heap 0 0 (MQ below (QC D tc B nn (Ar B nn) (some (.int res.1)) res.2) args s 0 0 (Ar B nn)) h 29 [(0, .ref a0), (1, .int x2)] [])) e ?_ (fun j3 Jj3 e => ?_)
  · intro e
    refine V_iload_n (q := 30) X (TB.get tb_X3_readPiece 16 rfl) rfl rfl rfl ?_
    refine V_bipush (v := 21) (q := 32) X (TB.get tb_X3_readPiece 17 rfl) c_bipush_21 rfl ?_
    refine jn_elim (P := (fun (k : Option (Int32 × Hp)) => k = some res → V p l en (rmD 4) s m args below meth c 2 D tc B nn (Ar B nn) s.heap 0 0 (MQ below (QC D tc B nn (Ar B nn) (some (.int res.1)) res.2) args s 0 0 (Ar B nn)) h 47 [(0, .ref a0), (1, .int x2)] [])) e ?_ (fun j4 Jj4 e => ?_)
    · intro e
      refine V_aload_n (q := 48) X (TB.get tb_X3_readPiece 25 rfl) rfl rfl rfl ?_
      obtain ⟨x5, ex5, e⟩ := bs e
      refine V_getR (q := 51) X (TB.get tb_X3_readPiece 26 rfl) rfl lf_RX3_21 ex5 ?_
      obtain ⟨x6, ex6, e⟩ := bs e
      refine V_getI (q := 54) X (TB.get tb_X3_readPiece 27 rfl) rfl lf_RX3_82 ex6 ?_
      refine V_if_le (q := 57) (t := 63) X (TB.get tb_X3_readPiece 28 rfl) rfl rfl (fun hc => ?_) (fun hc => ?_)
      · have e := (if_pos hc).symm.trans e
        refine V_iload_n (q := 64) X (TB.get tb_X3_readPiece 33 rfl) rfl rfl rfl ?_
        by_cases hc0 : x2 = (0 : Int32)
        · have e := (if_pos hc0).symm.trans e
          rw [hc0]
          refine V_tabIn (q := 104) X (TB.get tb_X3_readPiece 34 rfl) (by decide) (by decide) rfl rfl ?_
          refine V_aload_n (q := 105) X (TB.get tb_X3_readPiece 35 rfl) rfl rfl rfl ?_
          obtain ⟨p7, ep7, e⟩ := bs e
          refine V_callV (q := 108) (As := []) (rest := []) (st' := [.int p7.1]) X (TB.get tb_X3_readPiece 36 rfl) rfl cv_RX3_88 (ok_X3_readKind fu a0 h p7 ep7).1 (ok_X3_readKind fu a0 h p7 ep7).2 (Nat.le_of_ble_eq_true rfl) rfl rfl (Nat.le_of_ble_eq_true rfl) rfl ?_
          obtain ⟨z8, ez8, e⟩ := bs e
          cases e
          exact V_zretH X hr hlk ez8 (TB.get tb_X3_readPiece 37 rfl)
        have e := (if_neg hc0).symm.trans e
        by_cases hc1 : x2 = (1 : Int32)
        · have e := (if_pos hc1).symm.trans e
          rw [hc1]
          refine V_tabIn (q := 109) X (TB.get tb_X3_readPiece 34 rfl) (by decide) (by decide) rfl rfl ?_
          refine V_aload_n (q := 110) X (TB.get tb_X3_readPiece 38 rfl) rfl rfl rfl ?_
          obtain ⟨p9, ep9, e⟩ := bs e
          refine V_callV (q := 113) (As := []) (rest := []) (st' := [.int p9.1]) X (TB.get tb_X3_readPiece 39 rfl) rfl cv_RX3_91 (ok_X3_readEnd fu a0 h p9 ep9).1 (ok_X3_readEnd fu a0 h p9 ep9).2 (Nat.le_of_ble_eq_true rfl) rfl rfl (Nat.le_of_ble_eq_true rfl) rfl ?_
          obtain ⟨z10, ez10, e⟩ := bs e
          cases e
          exact V_zretH X hr hlk ez10 (TB.get tb_X3_readPiece 40 rfl)
        have e := (if_neg hc1).symm.trans e
        by_cases hc2 : x2 = (2 : Int32)
        · have e := (if_pos hc2).symm.trans e
          rw [hc2]
          refine V_tabIn (q := 114) X (TB.get tb_X3_readPiece 34 rfl) (by decide) (by decide) rfl rfl ?_
          refine V_aload_n (q := 115) X (TB.get tb_X3_readPiece 41 rfl) rfl rfl rfl ?_
          refine V_iconst (v := 0) (q := 116) X (TB.get tb_X3_readPiece 42 rfl) c_iconst_0 rfl ?_
          obtain ⟨p11, ep11, e⟩ := bs e
          refine V_callV (q := 119) (As := [.int (0 : Int32)]) (rest := []) (st' := [.int p11.1]) X (TB.get tb_X3_readPiece 43 rfl) rfl cv_RX3_94 (ok_X3_readMethod fu a0 (0 : Int32) h p11 ep11).1 (ok_X3_readMethod fu a0 (0 : Int32) h p11 ep11).2 (Nat.le_of_ble_eq_true rfl) rfl rfl (Nat.le_of_ble_eq_true rfl) rfl ?_
          obtain ⟨z12, ez12, e⟩ := bs e
          cases e
          exact V_zretH X hr hlk ez12 (TB.get tb_X3_readPiece 44 rfl)
        have e := (if_neg hc2).symm.trans e
        by_cases hc3 : x2 = (3 : Int32)
        · have e := (if_pos hc3).symm.trans e
          rw [hc3]
          refine V_tabIn (q := 120) X (TB.get tb_X3_readPiece 34 rfl) (by decide) (by decide) rfl rfl ?_
          refine V_aload_n (q := 121) X (TB.get tb_X3_readPiece 45 rfl) rfl rfl rfl ?_
          refine V_iconst (v := 1) (q := 122) X (TB.get tb_X3_readPiece 46 rfl) c_iconst_1 rfl ?_
          obtain ⟨p13, ep13, e⟩ := bs e
          refine V_callV (q := 125) (As := [.int (1 : Int32)]) (rest := []) (st' := [.int p13.1]) X (TB.get tb_X3_readPiece 47 rfl) rfl cv_RX3_94 (ok_X3_readMethod fu a0 (1 : Int32) h p13 ep13).1 (ok_X3_readMethod fu a0 (1 : Int32) h p13 ep13).2 (Nat.le_of_ble_eq_true rfl) rfl rfl (Nat.le_of_ble_eq_true rfl) rfl ?_
          obtain ⟨z14, ez14, e⟩ := bs e
          cases e
          exact V_zretH X hr hlk ez14 (TB.get tb_X3_readPiece 48 rfl)
        have e := (if_neg hc3).symm.trans e
        by_cases hc4 : x2 = (4 : Int32)
        · have e := (if_pos hc4).symm.trans e
          rw [hc4]
          refine V_tabIn (q := 126) X (TB.get tb_X3_readPiece 34 rfl) (by decide) (by decide) rfl rfl ?_
          refine V_aload_n (q := 127) X (TB.get tb_X3_readPiece 49 rfl) rfl rfl rfl ?_
          refine V_iconst (v := 2) (q := 128) X (TB.get tb_X3_readPiece 50 rfl) c_iconst_2 rfl ?_
          obtain ⟨p15, ep15, e⟩ := bs e
          refine V_callV (q := 131) (As := [.int (2 : Int32)]) (rest := []) (st' := [.int p15.1]) X (TB.get tb_X3_readPiece 51 rfl) rfl cv_RX3_94 (ok_X3_readMethod fu a0 (2 : Int32) h p15 ep15).1 (ok_X3_readMethod fu a0 (2 : Int32) h p15 ep15).2 (Nat.le_of_ble_eq_true rfl) rfl rfl (Nat.le_of_ble_eq_true rfl) rfl ?_
          obtain ⟨z16, ez16, e⟩ := bs e
          cases e
          exact V_zretH X hr hlk ez16 (TB.get tb_X3_readPiece 52 rfl)
        have e := (if_neg hc4).symm.trans e
        by_cases hc5 : x2 = (5 : Int32)
        · have e := (if_pos hc5).symm.trans e
          rw [hc5]
          refine V_tabIn (q := 132) X (TB.get tb_X3_readPiece 34 rfl) (by decide) (by decide) rfl rfl ?_
          refine V_aload_n (q := 133) X (TB.get tb_X3_readPiece 53 rfl) rfl rfl rfl ?_
          obtain ⟨p17, ep17, e⟩ := bs e
          refine V_callV (q := 136) (As := []) (rest := []) (st' := [.int p17.1]) X (TB.get tb_X3_readPiece 54 rfl) rfl cv_RX3_97 (ok_X3_readVariable fu a0 h p17 ep17).1 (ok_X3_readVariable fu a0 h p17 ep17).2 (Nat.le_of_ble_eq_true rfl) rfl rfl (Nat.le_of_ble_eq_true rfl) rfl ?_
          obtain ⟨z18, ez18, e⟩ := bs e
          cases e
          exact V_zretH X hr hlk ez18 (TB.get tb_X3_readPiece 55 rfl)
        have e := (if_neg hc5).symm.trans e
        have hout : x2.toInt < 0 ∨ 5 < x2.toInt := tab_out x2 (0) (5) [0, 1, 2, 3, 4, 5] (by decide +kernel) (fun v hv => by simp only [List.mem_cons, List.not_mem_nil, or_false] at hv; rcases hv with rfl | rfl | rfl | rfl | rfl | rfl <;> assumption)
        refine V_tabOut (q := 137) X (TB.get tb_X3_readPiece 34 rfl) hout rfl ?_
        refine V_aload_n (q := 138) X (TB.get tb_X3_readPiece 56 rfl) rfl rfl rfl ?_
        refine V_iconst (v := 2) (q := 139) X (TB.get tb_X3_readPiece 57 rfl) c_iconst_2 rfl ?_
        obtain ⟨p19, ep19, e⟩ := bs e
        refine V_callV (q := 142) (As := [.int (2 : Int32)]) (rest := []) (st' := [.int p19.1]) X (TB.get tb_X3_readPiece 58 rfl) rfl cv_RX3_85 (ok_X3_fail a0 (2 : Int32) h p19 ep19).1 (ok_X3_fail a0 (2 : Int32) h p19 ep19).2 (Nat.le_of_ble_eq_true rfl) rfl rfl (Nat.le_of_ble_eq_true rfl) rfl ?_
        obtain ⟨z20, ez20, e⟩ := bs e
        cases e
        exact V_zretH X hr hlk ez20 (TB.get tb_X3_readPiece 59 rfl)
      · have e := (if_neg hc).symm.trans e
        refine V_aload_n (q := 58) X (TB.get tb_X3_readPiece 29 rfl) rfl rfl rfl ?_
        refine V_iconst (v := 2) (q := 59) X (TB.get tb_X3_readPiece 30 rfl) c_iconst_2 rfl ?_
        obtain ⟨p21, ep21, e⟩ := bs e
        refine V_callV (q := 62) (As := [.int (2 : Int32)]) (rest := []) (st' := [.int p21.1]) X (TB.get tb_X3_readPiece 31 rfl) rfl cv_RX3_85 (ok_X3_fail a0 (2 : Int32) h p21 ep21).1 (ok_X3_fail a0 (2 : Int32) h p21 ep21).2 (Nat.le_of_ble_eq_true rfl) rfl rfl (Nat.le_of_ble_eq_true rfl) rfl ?_
        obtain ⟨z22, ez22, e⟩ := bs e
        cases e
        exact V_zretH X hr hlk ez22 (TB.get tb_X3_readPiece 32 rfl)
    refine V_icmp_ne (q := 35) (t := 47) X (TB.get tb_X3_readPiece 18 rfl) rfl rfl (fun hc => ?_) (fun hc => ?_)
    · have e := (if_neg hc).symm.trans e
      exact Jj4 e
    · have e := (if_pos hc).symm.trans e
      refine V_aload_n (q := 36) X (TB.get tb_X3_readPiece 19 rfl) rfl rfl rfl ?_
      obtain ⟨x23, ex23, e⟩ := bs e
      refine V_getI (q := 39) X (TB.get tb_X3_readPiece 20 rfl) rfl lf_RX3_53 ex23 ?_
      refine V_if_le (q := 42) (t := 47) X (TB.get tb_X3_readPiece 21 rfl) rfl rfl (fun hc => ?_) (fun hc => ?_)
      · have e := (if_pos hc).symm.trans e
        exact Jj4 e
      · have e := (if_neg hc).symm.trans e
        refine V_aload_n (q := 43) X (TB.get tb_X3_readPiece 22 rfl) rfl rfl rfl ?_
        obtain ⟨p24, ep24, e⟩ := bs e
        refine V_callV (q := 46) (As := []) (rest := []) (st' := [.int p24.1]) X (TB.get tb_X3_readPiece 23 rfl) rfl cv_RX3_79 (ok_X3_closeBlock fu a0 h p24 ep24).1 (ok_X3_closeBlock fu a0 h p24 ep24).2 (Nat.le_of_ble_eq_true rfl) rfl rfl (Nat.le_of_ble_eq_true rfl) rfl ?_
        obtain ⟨z25, ez25, e⟩ := bs e
        cases e
        exact V_zretH X hr hlk ez25 (TB.get tb_X3_readPiece 24 rfl)
  refine V_icmp_lt (q := 14) (t := 29) X (TB.get tb_X3_readPiece 6 rfl) rfl rfl (fun hc => ?_) (fun hc => ?_)
  · have e := (if_pos hc).symm.trans e
    refine V_sub (lv' := [(0, .ref a0), (1, .int x2)]) [1, 0] rfl ?_
    exact Jj3 e
  · have e := (if_neg hc).symm.trans e
    refine V_iload_n (q := 15) X (TB.get tb_X3_readPiece 7 rfl) rfl rfl rfl ?_
    refine V_bipush (v := 17) (q := 17) X (TB.get tb_X3_readPiece 8 rfl) c_bipush_17 rfl ?_
    refine V_icmp_gt (q := 20) (t := 29) X (TB.get tb_X3_readPiece 9 rfl) rfl rfl (fun hc => ?_) (fun hc => ?_)
    · have e := (if_pos hc).symm.trans e
      refine V_sub (lv' := [(0, .ref a0), (1, .int x2)]) [1, 0] rfl ?_
      exact Jj3 e
    · have e := (if_neg hc).symm.trans e
      refine V_aload_n (q := 21) X (TB.get tb_X3_readPiece 10 rfl) rfl rfl rfl ?_
      refine V_iload_n (q := 22) X (TB.get tb_X3_readPiece 11 rfl) rfl rfl rfl ?_
      refine V_bipush (v := 7) (q := 24) X (TB.get tb_X3_readPiece 12 rfl) c_bipush_7 rfl ?_
      refine V_isub (q := 25) X (TB.get tb_X3_readPiece 13 rfl) rfl ?_
      obtain ⟨p26, ep26, e⟩ := bs e
      refine V_callV (q := 28) (As := [.int (x2 - (7 : Int32))]) (rest := []) (st' := [.int p26.1]) X (TB.get tb_X3_readPiece 14 rfl) rfl cv_RX3_75 (ok_X3_readStatement fu a0 (x2 - (7 : Int32)) h p26 ep26).1 (ok_X3_readStatement fu a0 (x2 - (7 : Int32)) h p26 ep26).2 (Nat.le_of_ble_eq_true rfl) rfl rfl (Nat.le_of_ble_eq_true rfl) rfl ?_
      obtain ⟨z27, ez27, e⟩ := bs e
      cases e
      exact V_zretH X hr hlk ez27 (TB.get tb_X3_readPiece 15 rfl)
set_option maxRecDepth 100000 in
set_option maxHeartbeats 4000000 in
theorem ok_X4_goesRound (a0 : Nat) (a1 : Int32) (h : Hp) (res : Int32) (e : MX4_goesRound a0 a1 h = some res) : CK yX4_goesRound cX4_goesRound 2 (some .boolean) 0 [.ref a0, .int a1] h (some (.int res)) h ∧ (h.1 a0).1 = 4 := by
  obtain ⟨hcl, e⟩ := h_g_inv e
  refine ⟨CK_of pn_RX4 cm_X4_goesRound (Nat.le_of_ble_eq_true rfl) ?_, hcl⟩
  intro l D tc B nn p en s m args below meth c X hr hlk
  replace X : CX p (rmD 0) s m args c cX4_goesRound 2 RX4 D tc 0 := X
  show V p l en (rmD 0) s m args below meth c 2 D tc B nn (Ar B nn) s.heap 0 0 (MQ below (QC D tc B nn (Ar B nn) (some (.int res)) h) args s 0 0 (Ar B nn)) h 0 [(0, .ref a0), (1, .int a1)] []
  refine V_aload_n (q := 1) X (TB.get tb_X4_goesRound 0 rfl) rfl rfl rfl ?_
  obtain ⟨x1, ex1, e⟩ := bs e
  refine V_getR (q := 4) X (TB.get tb_X4_goesRound 1 rfl) rfl lf_RX4_22 ex1 ?_
  refine V_iload_n (q := 5) X (TB.get tb_X4_goesRound 2 rfl) rfl rfl rfl ?_
  obtain ⟨x2, ex2, e⟩ := bs e
  refine V_iaload (q := 6) X (TB.get tb_X4_goesRound 3 rfl) rfl ex2 ?_
  refine V_bipush (v := 8) (q := 8) X (TB.get tb_X4_goesRound 4 rfl) c_bipush_8 rfl ?_
  refine jn_elim (P := (fun (k : Option (Int32)) => k = some res → V p l en (rmD 0) s m args below meth c 2 D tc B nn (Ar B nn) s.heap 0 0 (MQ below (QC D tc B nn (Ar B nn) (some (.int res)) h) args s 0 0 (Ar B nn)) h 22 [] [])) e ?_ (fun j3 Jj3 e => ?_)
  · intro e
    refine V_iconst (v := 1) (q := 23) X (TB.get tb_X4_goesRound 12 rfl) c_iconst_1 rfl ?_
    refine V_goto (q := 27) X (TB.get tb_X4_goesRound 13 rfl) rfl ?_
    cases e
    exact V_zret X hr hlk (Or.inr rfl) (TB.get tb_X4_goesRound 15 rfl)
  refine V_icmp_eq (q := 11) (t := 22) X (TB.get tb_X4_goesRound 5 rfl) rfl rfl (fun hc => ?_) (fun hc => ?_)
  · have e := (if_pos hc).symm.trans e
    refine V_sub (lv' := []) [] rfl ?_
    exact Jj3 e
  · have e := (if_neg hc).symm.trans e
    refine V_aload_n (q := 12) X (TB.get tb_X4_goesRound 6 rfl) rfl rfl rfl ?_
    refine V_getR (q := 15) X (TB.get tb_X4_goesRound 7 rfl) rfl lf_RX4_22 ex1 ?_
    refine V_iload_n (q := 16) X (TB.get tb_X4_goesRound 8 rfl) rfl rfl rfl ?_
    refine V_iaload (q := 17) X (TB.get tb_X4_goesRound 9 rfl) rfl ex2 ?_
    refine V_bipush (v := 10) (q := 19) X (TB.get tb_X4_goesRound 10 rfl) c_bipush_10 rfl ?_
    refine V_icmp_ne (q := 22) (t := 26) X (TB.get tb_X4_goesRound 11 rfl) rfl rfl (fun hc => ?_) (fun hc => ?_)
    · have e := (if_neg hc).symm.trans e
      refine V_iconst (v := 0) (q := 27) X (TB.get tb_X4_goesRound 14 rfl) c_iconst_0 rfl ?_
      cases e
      exact V_zret X hr hlk (Or.inl rfl) (TB.get tb_X4_goesRound 15 rfl)
    · have e := (if_pos hc).symm.trans e
      refine V_sub (lv' := []) [] rfl ?_
      exact Jj3 e
set_option maxRecDepth 100000 in
set_option maxHeartbeats 4000000 in
theorem ok_X4_placeAfter (a0 : Nat) (a1 : Int32) (h : Hp) (res : Int32) (e : MX4_placeAfter a0 a1 h = some res) : CK yX4_placeAfter cX4_placeAfter 4 (some .int) 1 [.ref a0, .int a1] h (some (.int res)) h ∧ (h.1 a0).1 = 4 := by
  obtain ⟨hcl, e⟩ := h_g_inv e
  refine ⟨CK_of pn_RX4 cm_X4_placeAfter (Nat.le_of_ble_eq_true rfl) ?_, hcl⟩
  intro l D tc B nn p en s m args below meth c X hr hlk
  replace X : CX p (rmD 1) s m args c cX4_placeAfter 4 RX4 D tc 1 := X
  show V p l en (rmD 1) s m args below meth c 4 D tc B nn (Ar B nn) s.heap 0 0 (MQ below (QC D tc B nn (Ar B nn) (some (.int res)) h) args s 0 0 (Ar B nn)) h 0 [(0, .ref a0), (1, .int a1)] []
  refine V_aload_n (q := 1) X (TB.get tb_X4_placeAfter 0 rfl) rfl rfl rfl ?_
  obtain ⟨x1, ex1, e⟩ := bs e
  refine V_getR (q := 4) X (TB.get tb_X4_placeAfter 1 rfl) rfl lf_RX4_37 ex1 ?_
  refine V_iload_n (q := 5) X (TB.get tb_X4_placeAfter 2 rfl) rfl rfl rfl ?_
  obtain ⟨x2, ex2, e⟩ := bs e
  refine V_iaload (q := 6) X (TB.get tb_X4_placeAfter 3 rfl) rfl ex2 ?_
  refine V_istore_n (q := 7) (lv' := [(2, .int x2), (0, .ref a0), (1, .int a1)]) X (TB.get tb_X4_placeAfter 4 rfl) rfl rfl (Nat.le_of_ble_eq_true rfl) rfl ?_
  refine V_iload_n (q := 8) X (TB.get tb_X4_placeAfter 5 rfl) rfl rfl rfl ?_
  refine V_iconst (v := -1) (q := 9) X (TB.get tb_X4_placeAfter 6 rfl) c_iconst_m1 rfl ?_
  refine V_icmp_ne (q := 12) (t := 19) X (TB.get tb_X4_placeAfter 7 rfl) rfl rfl (fun hc => ?_) (fun hc => ?_)
  · have e := (if_neg hc).symm.trans e
    refine V_iload_n (q := 20) X (TB.get tb_X4_placeAfter 13 rfl) rfl rfl rfl ?_
    refine V_aload_n (q := 21) X (TB.get tb_X4_placeAfter 14 rfl) rfl rfl rfl ?_
    obtain ⟨x3, ex3, e⟩ := bs e
    refine V_getR (q := 24) X (TB.get tb_X4_placeAfter 15 rfl) rfl lf_RX4_40 ex3 ?_
    refine V_iload_n (q := 25) X (TB.get tb_X4_placeAfter 16 rfl) rfl rfl rfl ?_
    obtain ⟨x4, ex4, e⟩ := bs e
    refine V_iaload (q := 26) X (TB.get tb_X4_placeAfter 17 rfl) rfl ex4 ?_
    refine jn_elim (P := (fun (k : Int32 → Option (Int32)) => ∀ (w5 : Int32), k w5 = some res → V p l en (rmD 1) s m args below meth c 4 D tc B nn (Ar B nn) s.heap 0 0 (MQ below (QC D tc B nn (Ar B nn) (some (.int res)) h) args s 0 0 (Ar B nn)) h 44 [(0, .ref a0), (1, .int a1), (2, .int x2)] [.int w5])) e ?_ (fun j6 Jj6 e => ?_)
    · intro w5 e
      refine V_istore_n (q := 45) (lv' := [(3, .int w5), (0, .ref a0), (1, .int a1), (2, .int x2)]) X (TB.get tb_X4_placeAfter 28 rfl) rfl rfl (Nat.le_of_ble_eq_true rfl) rfl ?_
      refine V_aload_n (q := 46) X (TB.get tb_X4_placeAfter 29 rfl) rfl rfl rfl ?_
      obtain ⟨x7, ex7, e⟩ := bs e
      refine V_getR (q := 49) X (TB.get tb_X4_placeAfter 30 rfl) rfl lf_RX4_43 ex7 ?_
      refine V_iload_n (q := 50) X (TB.get tb_X4_placeAfter 31 rfl) rfl rfl rfl ?_
      obtain ⟨x8, ex8, e⟩ := bs e
      refine V_iaload (q := 51) X (TB.get tb_X4_placeAfter 32 rfl) rfl ex8 ?_
      refine V_iload_n (q := 52) X (TB.get tb_X4_placeAfter 33 rfl) rfl rfl rfl ?_
      refine V_icmp_ge (q := 55) (t := 62) X (TB.get tb_X4_placeAfter 34 rfl) rfl rfl (fun hc => ?_) (fun hc => ?_)
      · have e := (if_pos hc).symm.trans e
        refine V_aload_n (q := 63) X (TB.get tb_X4_placeAfter 40 rfl) rfl rfl rfl ?_
        refine V_iload_n (q := 64) X (TB.get tb_X4_placeAfter 41 rfl) rfl rfl rfl ?_
        obtain ⟨x9, ex9, e⟩ := bs e
        refine V_callV (q := 67) (As := [.int x2]) (rest := []) (st' := [.int x9]) X (TB.get tb_X4_placeAfter 42 rfl) rfl cv_RX4_73 (ok_X4_goesRound a0 x2 h x9 ex9).1 (ok_X4_goesRound a0 x2 h x9 ex9).2 (Nat.le_of_ble_eq_true rfl) rfl rfl (Nat.le_of_ble_eq_true rfl) rfl ?_
        refine V_if_eq (q := 70) (t := 74) X (TB.get tb_X4_placeAfter 43 rfl) rfl rfl (fun hc => ?_) (fun hc => ?_)
        · have e := (if_pos hc).symm.trans e
          refine V_aload_n (q := 75) X (TB.get tb_X4_placeAfter 46 rfl) rfl rfl rfl ?_
          obtain ⟨x10, ex10, e⟩ := bs e
          refine V_getR (q := 78) X (TB.get tb_X4_placeAfter 47 rfl) rfl lf_RX4_46 ex10 ?_
          refine V_iload_n (q := 79) X (TB.get tb_X4_placeAfter 48 rfl) rfl rfl rfl ?_
          obtain ⟨x11, ex11, e⟩ := bs e
          refine V_iaload (q := 80) X (TB.get tb_X4_placeAfter 49 rfl) rfl ex11 ?_
          cases e
          exact V_iret X hr hlk (TB.get tb_X4_placeAfter 50 rfl)
        · have e := (if_neg hc).symm.trans e
          refine V_iload_n (q := 71) X (TB.get tb_X4_placeAfter 44 rfl) rfl rfl rfl ?_
          refine V_goto (q := 80) X (TB.get tb_X4_placeAfter 45 rfl) rfl ?_
          cases e
          exact V_iret X hr hlk (TB.get tb_X4_placeAfter 50 rfl)
      · have e := (if_neg hc).symm.trans e
        refine V_aload_n (q := 56) X (TB.get tb_X4_placeAfter 35 rfl) rfl rfl rfl ?_
        refine V_getR (q := 59) X (TB.get tb_X4_placeAfter 36 rfl) rfl lf_RX4_43 ex7 ?_
        refine V_iload_n (q := 60) X (TB.get tb_X4_placeAfter 37 rfl) rfl rfl rfl ?_
        refine V_iaload (q := 61) X (TB.get tb_X4_placeAfter 38 rfl) rfl ex8 ?_
        cases e
        exact V_iret X hr hlk (TB.get tb_X4_placeAfter 39 rfl)
    refine V_icmp_ge (q := 29) (t := 38) X (TB.get tb_X4_placeAfter 18 rfl) rfl rfl (fun hc => ?_) (fun hc => ?_)
    · have e := (if_pos hc).symm.trans e
      refine V_aload_n (q := 39) X (TB.get tb_X4_placeAfter 24 rfl) rfl rfl rfl ?_
      obtain ⟨x12, ex12, e⟩ := bs e
      refine V_getR (q := 42) X (TB.get tb_X4_placeAfter 25 rfl) rfl lf_RX4_43 ex12 ?_
      refine V_iload_n (q := 43) X (TB.get tb_X4_placeAfter 26 rfl) rfl rfl rfl ?_
      obtain ⟨x13, ex13, e⟩ := bs e
      refine V_iaload (q := 44) X (TB.get tb_X4_placeAfter 27 rfl) rfl ex13 ?_
      refine V_sub (lv' := [(0, .ref a0), (1, .int a1), (2, .int x2)]) [1, 2, 0] rfl ?_
      exact Jj6 _ e
    · have e := (if_neg hc).symm.trans e
      refine V_aload_n (q := 30) X (TB.get tb_X4_placeAfter 19 rfl) rfl rfl rfl ?_
      refine V_getR (q := 33) X (TB.get tb_X4_placeAfter 20 rfl) rfl lf_RX4_40 ex3 ?_
      refine V_iload_n (q := 34) X (TB.get tb_X4_placeAfter 21 rfl) rfl rfl rfl ?_
      refine V_iaload (q := 35) X (TB.get tb_X4_placeAfter 22 rfl) rfl ex4 ?_
      refine V_goto (q := 44) X (TB.get tb_X4_placeAfter 23 rfl) rfl ?_
      refine V_sub (lv' := [(0, .ref a0), (1, .int a1), (2, .int x2)]) [1, 2, 0] rfl ?_
      exact Jj6 _ e
  · have e := (if_pos hc).symm.trans e
    refine V_aload_n (q := 13) X (TB.get tb_X4_placeAfter 8 rfl) rfl rfl rfl ?_
    obtain ⟨x14, ex14, e⟩ := bs e
    refine V_getR (q := 16) X (TB.get tb_X4_placeAfter 9 rfl) rfl lf_RX4_43 ex14 ?_
    refine V_iload_n (q := 17) X (TB.get tb_X4_placeAfter 10 rfl) rfl rfl rfl ?_
    obtain ⟨x15, ex15, e⟩ := bs e
    refine V_iaload (q := 18) X (TB.get tb_X4_placeAfter 11 rfl) rfl ex15 ?_
    cases e
    exact V_iret X hr hlk (TB.get tb_X4_placeAfter 12 rfl)
set_option maxRecDepth 100000 in
set_option maxHeartbeats 4000000 in
theorem ok_X4_linkBlocks (a0 : Nat) (a1 : Int32) (h : Hp) (res : Hp) (e : MX4_linkBlocks a0 a1 h = some res) : CK yX4_linkBlocks cX4_linkBlocks 3 none 1 [.ref a0, .int a1] h none res ∧ (h.1 a0).1 = 4 := by
  obtain ⟨hcl, e⟩ := h_g_inv e
  refine ⟨CK_of pn_RX4 cm_X4_linkBlocks (Nat.le_of_ble_eq_true rfl) ?_, hcl⟩
  intro l D tc B nn p en s m args below meth c X hr hlk
  replace X : CX p (rmD 1) s m args c cX4_linkBlocks 3 RX4 D tc 1 := X
  show V p l en (rmD 1) s m args below meth c 3 D tc B nn (Ar B nn) s.heap 0 0 (MQ below (QC D tc B nn (Ar B nn) none res) args s 0 0 (Ar B nn)) h 0 [(0, .ref a0), (1, .int a1)] []
  refine V_aload_n (q := 1) X (TB.get tb_X4_linkBlocks 0 rfl) rfl rfl rfl ?_
  refine V_iload_n (q := 2) X (TB.get tb_X4_linkBlocks 1 rfl) rfl rfl rfl ?_
  obtain ⟨x1, ex1, e⟩ := bs e
  refine V_callV (q := 5) (As := [.int a1]) (rest := []) (st' := [.int x1]) X (TB.get tb_X4_linkBlocks 2 rfl) rfl cv_RX4_73 (ok_X4_goesRound a0 a1 h x1 ex1).1 (ok_X4_goesRound a0 a1 h x1 ex1).2 (Nat.le_of_ble_eq_true rfl) rfl rfl (Nat.le_of_ble_eq_true rfl) rfl ?_
  refine jn_elim (P := (fun (k : Int32 → Option (Hp)) => ∀ (w2 : Int32), k w2 = some res → V p l en (rmD 1) s m args below meth c 3 D tc B nn (Ar B nn) s.heap 0 0 (MQ below (QC D tc B nn (Ar B nn) none res) args s 0 0 (Ar B nn)) h 18 [(0, .ref a0), (1, .int a1)] [.int w2])) e ?_ (fun j3 Jj3 e => ?_)
  · intro w2 e
    refine V_istore_n (q := 19) (lv' := [(2, .int w2), (0, .ref a0), (1, .int a1)]) X (TB.get tb_X4_linkBlocks 10 rfl) rfl rfl (Nat.le_of_ble_eq_true rfl) rfl ?_
    refine V_aload_n (q := 20) X (TB.get tb_X4_linkBlocks 11 rfl) rfl rfl rfl ?_
    obtain ⟨x4, ex4, e⟩ := bs e
    refine V_getR (q := 23) X (TB.get tb_X4_linkBlocks 12 rfl) rfl lf_RX4_49 ex4 ?_
    refine V_iload_n (q := 24) X (TB.get tb_X4_linkBlocks 13 rfl) rfl rfl rfl ?_
    refine V_aload_n (q := 25) X (TB.get tb_X4_linkBlocks 14 rfl) rfl rfl rfl ?_
    obtain ⟨x5, ex5, e⟩ := bs e
    refine V_getR (q := 28) X (TB.get tb_X4_linkBlocks 15 rfl) rfl lf_RX4_40 ex5 ?_
    refine V_iload_n (q := 29) X (TB.get tb_X4_linkBlocks 16 rfl) rfl rfl rfl ?_
    obtain ⟨x6, ex6, e⟩ := bs e
    refine V_iaload (q := 30) X (TB.get tb_X4_linkBlocks 17 rfl) rfl ex6 ?_
    refine V_iload_n (q := 31) X (TB.get tb_X4_linkBlocks 18 rfl) rfl rfl rfl ?_
    refine V_iconst (v := 1) (q := 32) X (TB.get tb_X4_linkBlocks 19 rfl) c_iconst_1 rfl ?_
    refine V_iadd (q := 33) X (TB.get tb_X4_linkBlocks 20 rfl) rfl ?_
    refine jn_elim (P := (fun (k : Int32 → Option (Hp)) => ∀ (w7 : Int32), k w7 = some res → V p l en (rmD 1) s m args below meth c 3 D tc B nn (Ar B nn) s.heap 0 0 (MQ below (QC D tc B nn (Ar B nn) none res) args s 0 0 (Ar B nn)) h 43 [(0, .ref a0), (1, .int a1)] [.int w7, .int a1, .ref x4])) e ?_ (fun j8 Jj8 e => ?_)
    · intro w7 e
      obtain ⟨h9, eh9, e⟩ := bs e
      refine V_iastore (q := 44) X (TB.get tb_X4_linkBlocks 27 rfl) rfl eh9 ?_
      refine V_aload_n (q := 45) X (TB.get tb_X4_linkBlocks 28 rfl) rfl rfl rfl ?_
      obtain ⟨x10, ex10, e⟩ := bs e
      refine V_getR (q := 48) X (TB.get tb_X4_linkBlocks 29 rfl) rfl lf_RX4_52 ex10 ?_
      refine V_iload_n (q := 49) X (TB.get tb_X4_linkBlocks 30 rfl) rfl rfl rfl ?_
      refine V_aload_n (q := 50) X (TB.get tb_X4_linkBlocks 31 rfl) rfl rfl rfl ?_
      obtain ⟨x11, ex11, e⟩ := bs e
      refine V_getR (q := 53) X (TB.get tb_X4_linkBlocks 32 rfl) rfl lf_RX4_43 ex11 ?_
      refine V_iload_n (q := 54) X (TB.get tb_X4_linkBlocks 33 rfl) rfl rfl rfl ?_
      obtain ⟨x12, ex12, e⟩ := bs e
      refine V_iaload (q := 55) X (TB.get tb_X4_linkBlocks 34 rfl) rfl ex12 ?_
      refine V_aload_n (q := 56) X (TB.get tb_X4_linkBlocks 35 rfl) rfl rfl rfl ?_
      obtain ⟨x13, ex13, e⟩ := bs e
      refine V_getR (q := 59) X (TB.get tb_X4_linkBlocks 36 rfl) rfl lf_RX4_40 ex13 ?_
      refine V_iload_n (q := 60) X (TB.get tb_X4_linkBlocks 37 rfl) rfl rfl rfl ?_
      obtain ⟨x14, ex14, e⟩ := bs e
      refine V_iaload (q := 61) X (TB.get tb_X4_linkBlocks 38 rfl) rfl ex14 ?_
      refine jn_elim (P := (fun (k : Int32 → Option (Hp)) => ∀ (w15 : Int32), k w15 = some res → V p l en (rmD 1) s m args below meth c 3 D tc B nn (Ar B nn) s.heap 0 0 (MQ below (QC D tc B nn (Ar B nn) none res) args s 0 0 (Ar B nn)) h9 79 [] [.int w15, .int a1, .ref x10])) e ?_ (fun j16 Jj16 e => ?_)
      · intro w15 e
        obtain ⟨h17, eh17, e⟩ := bs e
        refine V_iastore (q := 80) X (TB.get tb_X4_linkBlocks 49 rfl) rfl eh17 ?_
        cases e
        exact V_vret X hr hlk (TB.get tb_X4_linkBlocks 50 rfl)
      refine V_icmp_le (q := 64) (t := 73) X (TB.get tb_X4_linkBlocks 39 rfl) rfl rfl (fun hc => ?_) (fun hc => ?_)
      · have e := (if_pos hc).symm.trans e
        refine V_aload_n (q := 74) X (TB.get tb_X4_linkBlocks 45 rfl) rfl rfl rfl ?_
        obtain ⟨x18, ex18, e⟩ := bs e
        refine V_getR (q := 77) X (TB.get tb_X4_linkBlocks 46 rfl) rfl lf_RX4_46 ex18 ?_
        refine V_iload_n (q := 78) X (TB.get tb_X4_linkBlocks 47 rfl) rfl rfl rfl ?_
        obtain ⟨x19, ex19, e⟩ := bs e
        refine V_iaload (q := 79) X (TB.get tb_X4_linkBlocks 48 rfl) rfl ex19 ?_
        refine V_sub (lv' := []) [] rfl ?_
        exact Jj16 _ e
      · have e := (if_neg hc).symm.trans e
        refine V_aload_n (q := 65) X (TB.get tb_X4_linkBlocks 40 rfl) rfl rfl rfl ?_
        refine V_getR (q := 68) X (TB.get tb_X4_linkBlocks 41 rfl) rfl lf_RX4_40 ex13 ?_
        refine V_iload_n (q := 69) X (TB.get tb_X4_linkBlocks 42 rfl) rfl rfl rfl ?_
        refine V_iaload (q := 70) X (TB.get tb_X4_linkBlocks 43 rfl) rfl ex14 ?_
        refine V_goto (q := 79) X (TB.get tb_X4_linkBlocks 44 rfl) rfl ?_
        refine V_sub (lv' := []) [] rfl ?_
        exact Jj16 _ e
    refine V_icmp_le (q := 36) (t := 42) X (TB.get tb_X4_linkBlocks 21 rfl) rfl rfl (fun hc => ?_) (fun hc => ?_)
    · have e := (if_pos hc).symm.trans e
      refine V_iload_n (q := 43) X (TB.get tb_X4_linkBlocks 26 rfl) rfl rfl rfl ?_
      refine V_sub (lv' := [(0, .ref a0), (1, .int a1)]) [1, 2] rfl ?_
      exact Jj8 _ e
    · have e := (if_neg hc).symm.trans e
      refine V_iload_n (q := 37) X (TB.get tb_X4_linkBlocks 22 rfl) rfl rfl rfl ?_
      refine V_iconst (v := 1) (q := 38) X (TB.get tb_X4_linkBlocks 23 rfl) c_iconst_1 rfl ?_
      refine V_iadd (q := 39) X (TB.get tb_X4_linkBlocks 24 rfl) rfl ?_
      refine V_goto (q := 43) X (TB.get tb_X4_linkBlocks 25 rfl) rfl ?_
      refine V_sub (lv' := [(0, .ref a0), (1, .int a1)]) [1, 2] rfl ?_
      exact Jj8 _ e
  refine V_if_eq (q := 8) (t := 12) X (TB.get tb_X4_linkBlocks 3 rfl) rfl rfl (fun hc => ?_) (fun hc => ?_)
  · have e := (if_pos hc).symm.trans e
    refine V_aload_n (q := 13) X (TB.get tb_X4_linkBlocks 6 rfl) rfl rfl rfl ?_
    obtain ⟨x20, ex20, e⟩ := bs e
    refine V_getR (q := 16) X (TB.get tb_X4_linkBlocks 7 rfl) rfl lf_RX4_46 ex20 ?_
    refine V_iload_n (q := 17) X (TB.get tb_X4_linkBlocks 8 rfl) rfl rfl rfl ?_
    obtain ⟨x21, ex21, e⟩ := bs e
    refine V_iaload (q := 18) X (TB.get tb_X4_linkBlocks 9 rfl) rfl ex21 ?_
    exact Jj3 _ e
  · have e := (if_neg hc).symm.trans e
    refine V_iload_n (q := 9) X (TB.get tb_X4_linkBlocks 4 rfl) rfl rfl rfl ?_
    refine V_goto (q := 18) X (TB.get tb_X4_linkBlocks 5 rfl) rfl ?_
    exact Jj3 _ e
set_option maxRecDepth 100000 in
set_option maxHeartbeats 4000000 in
theorem ok_X4_link (fu : Nat) (a0 : Nat) (h : Hp) (res : Hp) (e : MX4_link fu a0 h = some res) : CK yX4_link cX4_link 2 none 2 [.ref a0] h none res ∧ (h.1 a0).1 = 4 := by
  obtain ⟨hcl, e⟩ := h_g_inv e
  refine ⟨CK_of pn_RX4 cm_X4_link (Nat.le_of_ble_eq_true rfl) ?_, hcl⟩
  intro l D tc B nn p en s m args below meth c X hr hlk
  replace X : CX p (rmD 2) s m args c cX4_link 2 RX4 D tc 2 := X
  show V p l en (rmD 2) s m args below meth c 2 D tc B nn (Ar B nn) s.heap 0 0 (MQ below (QC D tc B nn (Ar B nn) none res) args s 0 0 (Ar B nn)) h 0 [(0, .ref a0)] []
  refine V_iconst (v := 0) (q := 1) X (TB.get tb_X4_link 0 rfl) c_iconst_0 rfl ?_
  refine V_istore_n (q := 2) (lv' := [(1, .int (0 : Int32)), (0, .ref a0)]) X (TB.get tb_X4_link 1 rfl) rfl rfl (Nat.le_of_ble_eq_true rfl) rfl ?_
  refine V_sub (lv' := [(0, .ref a0), (1, .int (0 : Int32))]) [1, 0] rfl ?_
  refine wh2_elim (P := fun v1 h2 => V p l en (rmD 2) s m args below meth c 2 D tc B nn (Ar B nn) s.heap 0 0 (MQ below (QC D tc B nn (Ar B nn) none res) args s 0 0 (Ar B nn)) h2 2 [(0, .ref a0), (1, .int v1)] []) (f := fu) ?_ e
  intro self3 v1 h2 ihself3 e
  unfold MX4_link_B2 at e
  refine V_iload_n (q := 3) X (TB.get tb_X4_link 2 rfl) rfl rfl rfl ?_
  refine V_aload_n (q := 4) X (TB.get tb_X4_link 3 rfl) rfl rfl rfl ?_
  obtain ⟨x4, ex4, e⟩ := bs e
  refine V_getI (q := 7) X (TB.get tb_X4_link 4 rfl) rfl lf_RX4_62 ex4 ?_
  refine V_icmp_ge (q := 10) (t := 62) X (TB.get tb_X4_link 5 rfl) rfl rfl (fun hc => ?_) (fun hc => ?_)
  · have e := (if_pos hc).symm.trans e
    cases e
    exact V_vret X hr hlk (TB.get tb_X4_link 37 rfl)
  · have e := (if_neg hc).symm.trans e
    refine V_aload_n (q := 11) X (TB.get tb_X4_link 6 rfl) rfl rfl rfl ?_
    obtain ⟨x5, ex5, e⟩ := bs e
    refine V_getR (q := 14) X (TB.get tb_X4_link 7 rfl) rfl lf_RX4_46 ex5 ?_
    refine V_iload_n (q := 15) X (TB.get tb_X4_link 8 rfl) rfl rfl rfl ?_
    refine V_aload_n (q := 16) X (TB.get tb_X4_link 9 rfl) rfl rfl rfl ?_
    refine V_iload_n (q := 17) X (TB.get tb_X4_link 10 rfl) rfl rfl rfl ?_
    obtain ⟨x6, ex6, e⟩ := bs e
    refine V_callV (q := 20) (As := [.int v1]) (rest := [.int v1, .ref x5]) (st' := [.int x6, .int v1, .ref x5]) X (TB.get tb_X4_link 11 rfl) rfl cv_RX4_65 (ok_X4_placeAfter a0 v1 h2 x6 ex6).1 (ok_X4_placeAfter a0 v1 h2 x6 ex6).2 (Nat.le_of_ble_eq_true rfl) rfl rfl (Nat.le_of_ble_eq_true rfl) rfl ?_
    obtain ⟨h7, eh7, e⟩ := bs e
    refine V_iastore (q := 21) X (TB.get tb_X4_link 12 rfl) rfl eh7 ?_
    refine V_aload_n (q := 22) X (TB.get tb_X4_link 13 rfl) rfl rfl rfl ?_
    obtain ⟨x8, ex8, e⟩ := bs e
    refine V_getR (q := 25) X (TB.get tb_X4_link 14 rfl) rfl lf_RX4_49 ex8 ?_
    refine V_iload_n (q := 26) X (TB.get tb_X4_link 15 rfl) rfl rfl rfl ?_
    refine V_aload_n (q := 27) X (TB.get tb_X4_link 16 rfl) rfl rfl rfl ?_
    obtain ⟨x9, ex9, e⟩ := bs e
    refine V_getR (q := 30) X (TB.get tb_X4_link 17 rfl) rfl lf_RX4_46 ex9 ?_
    refine V_iload_n (q := 31) X (TB.get tb_X4_link 18 rfl) rfl rfl rfl ?_
    obtain ⟨x10, ex10, e⟩ := bs e
    refine V_iaload (q := 32) X (TB.get tb_X4_link 19 rfl) rfl ex10 ?_
    obtain ⟨h11, eh11, e⟩ := bs e
    refine V_iastore (q := 33) X (TB.get tb_X4_link 20 rfl) rfl eh11 ?_
    refine V_aload_n (q := 34) X (TB.get tb_X4_link 21 rfl) rfl rfl rfl ?_
    obtain ⟨x12, ex12, e⟩ := bs e
    refine V_getR (q := 37) X (TB.get tb_X4_link 22 rfl) rfl lf_RX4_52 ex12 ?_
    refine V_iload_n (q := 38) X (TB.get tb_X4_link 23 rfl) rfl rfl rfl ?_
    refine V_iconst (v := -1) (q := 39) X (TB.get tb_X4_link 24 rfl) c_iconst_m1 rfl ?_
    obtain ⟨h13, eh13, e⟩ := bs e
    refine V_iastore (q := 40) X (TB.get tb_X4_link 25 rfl) rfl eh13 ?_
    refine V_aload_n (q := 41) X (TB.get tb_X4_link 26 rfl) rfl rfl rfl ?_
    obtain ⟨x14, ex14, e⟩ := bs e
    refine V_getR (q := 44) X (TB.get tb_X4_link 27 rfl) rfl lf_RX4_22 ex14 ?_
    refine V_iload_n (q := 45) X (TB.get tb_X4_link 28 rfl) rfl rfl rfl ?_
    obtain ⟨x15, ex15, e⟩ := bs e
    refine V_iaload (q := 46) X (TB.get tb_X4_link 29 rfl) rfl ex15 ?_
    refine V_bipush (v := 7) (q := 48) X (TB.get tb_X4_link 30 rfl) c_bipush_7 rfl ?_
    refine jn_elim (P := (fun (k : Hp → Option (Hp)) => ∀ (h16 : Hp), k h16 = some res → V p l en (rmD 2) s m args below meth c 2 D tc B nn (Ar B nn) s.heap 0 0 (MQ below (QC D tc B nn (Ar B nn) none res) args s 0 0 (Ar B nn)) h16 56 [(0, .ref a0), (1, .int v1)] [])) e ?_ (fun j17 Jj17 e => ?_)
    · intro h16 e
      refine V_iinc (q := 59) (v := v1 + (1 : Int32)) (lv' := [(1, .int (v1 + (1 : Int32))), (0, .ref a0)]) X (TB.get tb_X4_link 35 rfl) rfl rfl (by rw [c_iconst_1]) (Nat.le_of_ble_eq_true rfl) rfl ?_
      refine V_goto (q := 2) X (TB.get tb_X4_link 36 rfl) rfl ?_
      refine V_sub (lv' := [(0, .ref a0), (1, .int (v1 + (1 : Int32)))]) [1, 0] rfl ?_
      exact ihself3 _ _ e
    refine V_icmp_lt (q := 51) (t := 56) X (TB.get tb_X4_link 31 rfl) rfl rfl (fun hc => ?_) (fun hc => ?_)
    · have e := (if_pos hc).symm.trans e
      exact Jj17 _ e
    · have e := (if_neg hc).symm.trans e
      refine V_aload_n (q := 52) X (TB.get tb_X4_link 32 rfl) rfl rfl rfl ?_
      refine V_iload_n (q := 53) X (TB.get tb_X4_link 33 rfl) rfl rfl rfl ?_
      obtain ⟨h18, eh18, e⟩ := bs e
      refine V_callV (q := 56) (As := [.int v1]) (rest := []) (st' := []) X (TB.get tb_X4_link 34 rfl) rfl cv_RX4_69 (ok_X4_linkBlocks a0 v1 h13 h18 eh18).1 (ok_X4_linkBlocks a0 v1 h13 h18 eh18).2 (Nat.le_of_ble_eq_true rfl) rfl rfl (Nat.le_of_ble_eq_true rfl) rfl ?_
      exact Jj17 _ e
set_option maxRecDepth 100000 in
set_option maxHeartbeats 4000000 in
theorem ok_X3_parse (fu : Nat) (a0 : Nat) (a1 : Int32) (h : Hp) (res : Int32 × Hp) (e : MX3_parse fu a0 a1 h = some res) : CK yX3_parse cX3_parse 4 (some .boolean) 5 [.ref a0, .int a1] h (some (.int res.1)) res.2 ∧ (h.1 a0).1 = 3 := by
  obtain ⟨hcl, e⟩ := h_g_inv e
  refine ⟨CK_of pn_RX3 cm_X3_parse (Nat.le_of_ble_eq_true rfl) ?_, hcl⟩
  intro l D tc B nn p en s m args below meth c X hr hlk
  replace X : CX p (rmD 5) s m args c cX3_parse 4 RX3 D tc 5 := X
  show V p l en (rmD 5) s m args below meth c 4 D tc B nn (Ar B nn) s.heap 0 0 (MQ below (QC D tc B nn (Ar B nn) (some (.int res.1)) res.2) args s 0 0 (Ar B nn)) h 0 [(0, .ref a0), (1, .int a1)] []
  refine V_aload_n (q := 1) X (TB.get tb_X3_parse 0 rfl) rfl rfl rfl ?_
  refine V_iconst (v := 0) (q := 2) X (TB.get tb_X3_parse 1 rfl) c_iconst_0 rfl ?_
  obtain ⟨h1, eh1, e⟩ := bs e
  refine V_putI (q := 5) X (TB.get tb_X3_parse 2 rfl) rfl lq_RX3_46 eh1 ?_
  refine V_aload_n (q := 6) X (TB.get tb_X3_parse 3 rfl) rfl rfl rfl ?_
  refine V_iconst (v := -1) (q := 7) X (TB.get tb_X3_parse 4 rfl) c_iconst_m1 rfl ?_
  obtain ⟨h2, eh2, e⟩ := bs e
  refine V_putI (q := 10) X (TB.get tb_X3_parse 5 rfl) rfl lq_RX3_50 eh2 ?_
  refine V_aload_n (q := 11) X (TB.get tb_X3_parse 6 rfl) rfl rfl rfl ?_
  refine V_iconst (v := 0) (q := 12) X (TB.get tb_X3_parse 7 rfl) c_iconst_0 rfl ?_
  obtain ⟨h3, eh3, e⟩ := bs e
  refine V_putI (q := 15) X (TB.get tb_X3_parse 8 rfl) rfl lq_RX3_53 eh3 ?_
  refine V_aload_n (q := 16) X (TB.get tb_X3_parse 9 rfl) rfl rfl rfl ?_
  obtain ⟨x4, ex4, e⟩ := bs e
  refine V_getR (q := 19) X (TB.get tb_X3_parse 10 rfl) rfl lf_RX3_21 ex4 ?_
  obtain ⟨h5, eh5, e⟩ := bs e
  refine V_callV (q := 22) (As := []) (rest := []) (st' := []) X (TB.get tb_X3_parse 11 rfl) rfl cv_RX3_56 (ok_X4_empty x4 h3 h5 eh5).1 (ok_X4_empty x4 h3 h5 eh5).2 (Nat.le_of_ble_eq_true rfl) rfl rfl (Nat.le_of_ble_eq_true rfl) rfl ?_
  refine V_aload_n (q := 23) X (TB.get tb_X3_parse 12 rfl) rfl rfl rfl ?_
  obtain ⟨x6, ex6, e⟩ := bs e
  refine V_getR (q := 26) X (TB.get tb_X3_parse 13 rfl) rfl lf_RX3_12 ex6 ?_
  refine V_iload_n (q := 27) X (TB.get tb_X3_parse 14 rfl) rfl rfl rfl ?_
  obtain ⟨h7, eh7, e⟩ := bs e
  refine V_callV (q := 30) (As := [.int a1]) (rest := []) (st' := []) X (TB.get tb_X3_parse 15 rfl) rfl cv_RX3_59 (ok_X7_open fu x6 a1 h5 h7 eh7).1 (ok_X7_open fu x6 a1 h5 h7 eh7).2 (Nat.le_of_ble_eq_true rfl) rfl rfl (Nat.le_of_ble_eq_true rfl) rfl ?_
  refine V_iconst (v := 1) (q := 31) X (TB.get tb_X3_parse 16 rfl) c_iconst_1 rfl ?_
  refine V_istore_n (q := 32) (lv' := [(2, .int (1 : Int32)), (0, .ref a0), (1, .int a1)]) X (TB.get tb_X3_parse 17 rfl) rfl rfl (Nat.le_of_ble_eq_true rfl) rfl ?_
  refine V_iconst (v := 0) (q := 33) X (TB.get tb_X3_parse 18 rfl) c_iconst_0 rfl ?_
  refine V_istore_n (q := 34) (lv' := [(3, .int (0 : Int32)), (2, .int (1 : Int32)), (0, .ref a0), (1, .int a1)]) X (TB.get tb_X3_parse 19 rfl) rfl rfl (Nat.le_of_ble_eq_true rfl) rfl ?_
  refine jn_elim (P := (fun (k : Int32 → Hp → Option (Int32 × Hp)) => ∀ (v8 : Int32) (h9 : Hp), k v8 h9 = some res → V p l en (rmD 5) s m args below meth c 4 D tc B nn (Ar B nn) s.heap 0 0 (MQ below (QC D tc B nn (Ar B nn) (some (.int res.1)) res.2) args s 0 0 (Ar B nn)) h9 63 [(0, .ref a0), (2, .int v8)] [])) e ?_ (fun j10 Jj10 e => ?_)
  · intro v8 h9 e
    refine V_iload_n (q := 64) X (TB.get tb_X3_parse 33 rfl) rfl rfl rfl ?_
    refine V_if_eq (q := 67) (t := 74) X (TB.get tb_X3_parse 34 rfl) rfl rfl (fun hc => ?_) (fun hc => ?_)
    · have e := (if_pos hc).symm.trans e
      refine V_iload_n (q := 75) X (TB.get tb_X3_parse 38 rfl) rfl rfl rfl ?_
      obtain ⟨z11, ez11, e⟩ := bs e
      cases e
      exact V_zretH X hr hlk ez11 (TB.get tb_X3_parse 39 rfl)
    · have e := (if_neg hc).symm.trans e
      refine V_aload_n (q := 68) X (TB.get tb_X3_parse 35 rfl) rfl rfl rfl ?_
      obtain ⟨x12, ex12, e⟩ := bs e
      refine V_getR (q := 71) X (TB.get tb_X3_parse 36 rfl) rfl lf_RX3_21 ex12 ?_
      obtain ⟨h13, eh13, e⟩ := bs e
      refine V_callV (q := 74) (As := []) (rest := []) (st' := []) X (TB.get tb_X3_parse 37 rfl) rfl cv_RX3_69 (ok_X4_link fu x12 h9 h13 eh13).1 (ok_X4_link fu x12 h9 h13 eh13).2 (Nat.le_of_ble_eq_true rfl) rfl rfl (Nat.le_of_ble_eq_true rfl) rfl ?_
      refine V_iload_n (q := 75) X (TB.get tb_X3_parse 38 rfl) rfl rfl rfl ?_
      obtain ⟨z14, ez14, e⟩ := bs e
      cases e
      exact V_zretH X hr hlk ez14 (TB.get tb_X3_parse 39 rfl)
  refine V_sub (lv' := [(0, .ref a0), (2, .int (1 : Int32)), (3, .int (0 : Int32))]) [2, 1, 0] rfl ?_
  refine wh3_elim (P := fun v15 v16 h17 => V p l en (rmD 5) s m args below meth c 4 D tc B nn (Ar B nn) s.heap 0 0 (MQ below (QC D tc B nn (Ar B nn) (some (.int res.1)) res.2) args s 0 0 (Ar B nn)) h17 34 [(0, .ref a0), (2, .int v15), (3, .int v16)] []) (f := fu) ?_ e
  intro self18 v15 v16 h17 ihself18 e
  unfold MX3_parse_B34 at e
  refine V_iload_n (q := 35) X (TB.get tb_X3_parse 20 rfl) rfl rfl rfl ?_
  refine V_sipush (v := 900) (q := 38) X (TB.get tb_X3_parse 21 rfl) c_sipush_900 rfl ?_
  refine V_icmp_gt (q := 41) (t := 63) X (TB.get tb_X3_parse 22 rfl) rfl rfl (fun hc => ?_) (fun hc => ?_)
  · have e := (if_pos hc).symm.trans e
    refine V_sub (lv' := [(0, .ref a0), (2, .int v15)]) [0, 1] rfl ?_
    exact Jj10 _ _ e
  · have e := (if_neg hc).symm.trans e
    refine V_iload_n (q := 42) X (TB.get tb_X3_parse 23 rfl) rfl rfl rfl ?_
    refine V_if_eq (q := 45) (t := 63) X (TB.get tb_X3_parse 24 rfl) rfl rfl (fun hc => ?_) (fun hc => ?_)
    · have e := (if_pos hc).symm.trans e
      refine V_sub (lv' := [(0, .ref a0), (2, .int v15)]) [0, 1] rfl ?_
      exact Jj10 _ _ e
    · have e := (if_neg hc).symm.trans e
      refine V_aload_n (q := 46) X (TB.get tb_X3_parse 25 rfl) rfl rfl rfl ?_
      obtain ⟨x19, ex19, e⟩ := bs e
      refine V_callV (q := 49) (As := []) (rest := []) (st' := [.int x19]) X (TB.get tb_X3_parse 26 rfl) rfl cv_RX3_62 (ok_X3_atTheEnd a0 h17 x19 ex19).1 (ok_X3_atTheEnd a0 h17 x19 ex19).2 (Nat.le_of_ble_eq_true rfl) rfl rfl (Nat.le_of_ble_eq_true rfl) rfl ?_
      refine V_if_ne (q := 52) (t := 63) X (TB.get tb_X3_parse 27 rfl) rfl rfl (fun hc => ?_) (fun hc => ?_)
      · have e := (if_neg hc).symm.trans e
        refine V_sub (lv' := [(0, .ref a0), (2, .int v15)]) [0, 1] rfl ?_
        exact Jj10 _ _ e
      · have e := (if_pos hc).symm.trans e
        refine V_aload_n (q := 53) X (TB.get tb_X3_parse 28 rfl) rfl rfl rfl ?_
        obtain ⟨p20, ep20, e⟩ := bs e
        refine V_callV (q := 56) (As := []) (rest := []) (st' := [.int p20.1]) X (TB.get tb_X3_parse 29 rfl) rfl cv_RX3_66 (ok_X3_readPiece fu a0 h17 p20 ep20).1 (ok_X3_readPiece fu a0 h17 p20 ep20).2 (Nat.le_of_ble_eq_true rfl) rfl rfl (Nat.le_of_ble_eq_true rfl) rfl ?_
        refine V_istore_n (q := 57) (lv' := [(2, .int p20.1), (0, .ref a0), (3, .int v16)]) X (TB.get tb_X3_parse 30 rfl) rfl rfl (Nat.le_of_ble_eq_true rfl) rfl ?_
        refine V_iinc (q := 60) (v := v16 + (1 : Int32)) (lv' := [(3, .int (v16 + (1 : Int32))), (2, .int p20.1), (0, .ref a0)]) X (TB.get tb_X3_parse 31 rfl) rfl rfl (by rw [c_iconst_1]) (Nat.le_of_ble_eq_true rfl) rfl ?_
        refine V_goto (q := 34) X (TB.get tb_X3_parse 32 rfl) rfl ?_
        refine V_sub (lv' := [(0, .ref a0), (2, .int p20.1), (3, .int (v16 + (1 : Int32)))]) [2, 1, 0] rfl ?_
        exact ihself18 _ _ _ e
set_option maxRecDepth 100000 in
set_option maxHeartbeats 4000000 in
theorem ok_X4_hasVariable (a0 : Nat) (a1 : Int32) (h : Hp) (res : Int32) (e : MX4_hasVariable a0 a1 h = some res) : CK yX4_hasVariable cX4_hasVariable 2 (some .boolean) 0 [.ref a0, .int a1] h (some (.int res)) h ∧ (h.1 a0).1 = 4 := by
  obtain ⟨hcl, e⟩ := h_g_inv e
  refine ⟨CK_of pn_RX4 cm_X4_hasVariable (Nat.le_of_ble_eq_true rfl) ?_, hcl⟩
  intro l D tc B nn p en s m args below meth c X hr hlk
  replace X : CX p (rmD 0) s m args c cX4_hasVariable 2 RX4 D tc 0 := X
  show V p l en (rmD 0) s m args below meth c 2 D tc B nn (Ar B nn) s.heap 0 0 (MQ below (QC D tc B nn (Ar B nn) (some (.int res)) h) args s 0 0 (Ar B nn)) h 0 [(0, .ref a0), (1, .int a1)] []
  refine V_iload_n (q := 1) X (TB.get tb_X4_hasVariable 0 rfl) rfl rfl rfl ?_
  refine jn_elim (P := (fun (k : Option (Int32)) => k = some res → V p l en (rmD 0) s m args below meth c 2 D tc B nn (Ar B nn) s.heap 0 0 (MQ below (QC D tc B nn (Ar B nn) (some (.int res)) h) args s 0 0 (Ar B nn)) h 16 [] [])) e ?_ (fun j1 Jj1 e => ?_)
  · intro e
    refine V_iconst (v := 0) (q := 17) X (TB.get tb_X4_hasVariable 8 rfl) c_iconst_0 rfl ?_
    cases e
    exact V_zret X hr hlk (Or.inl rfl) (TB.get tb_X4_hasVariable 9 rfl)
  refine V_if_lt (q := 4) (t := 16) X (TB.get tb_X4_hasVariable 1 rfl) rfl rfl (fun hc => ?_) (fun hc => ?_)
  · have e := (if_pos hc).symm.trans e
    refine V_sub (lv' := []) [] rfl ?_
    exact Jj1 e
  · have e := (if_neg hc).symm.trans e
    refine V_iload_n (q := 5) X (TB.get tb_X4_hasVariable 2 rfl) rfl rfl rfl ?_
    refine V_aload_n (q := 6) X (TB.get tb_X4_hasVariable 3 rfl) rfl rfl rfl ?_
    obtain ⟨x2, ex2, e⟩ := bs e
    refine V_getI (q := 9) X (TB.get tb_X4_hasVariable 4 rfl) rfl lf_RX4_59 ex2 ?_
    refine V_icmp_ge (q := 12) (t := 16) X (TB.get tb_X4_hasVariable 5 rfl) rfl rfl (fun hc => ?_) (fun hc => ?_)
    · have e := (if_pos hc).symm.trans e
      refine V_sub (lv' := []) [] rfl ?_
      exact Jj1 e
    · have e := (if_neg hc).symm.trans e
      refine V_iconst (v := 1) (q := 13) X (TB.get tb_X4_hasVariable 6 rfl) c_iconst_1 rfl ?_
      refine V_goto (q := 17) X (TB.get tb_X4_hasVariable 7 rfl) rfl ?_
      cases e
      exact V_zret X hr hlk (Or.inr rfl) (TB.get tb_X4_hasVariable 9 rfl)
set_option maxRecDepth 100000 in
set_option maxHeartbeats 4000000 in
theorem ok_X4_hasStatement (a0 : Nat) (a1 : Int32) (h : Hp) (res : Int32) (e : MX4_hasStatement a0 a1 h = some res) : CK yX4_hasStatement cX4_hasStatement 2 (some .boolean) 0 [.ref a0, .int a1] h (some (.int res)) h ∧ (h.1 a0).1 = 4 := by
  obtain ⟨hcl, e⟩ := h_g_inv e
  refine ⟨CK_of pn_RX4 cm_X4_hasStatement (Nat.le_of_ble_eq_true rfl) ?_, hcl⟩
  intro l D tc B nn p en s m args below meth c X hr hlk
  replace X : CX p (rmD 0) s m args c cX4_hasStatement 2 RX4 D tc 0 := X
  show V p l en (rmD 0) s m args below meth c 2 D tc B nn (Ar B nn) s.heap 0 0 (MQ below (QC D tc B nn (Ar B nn) (some (.int res)) h) args s 0 0 (Ar B nn)) h 0 [(0, .ref a0), (1, .int a1)] []
  refine V_iload_n (q := 1) X (TB.get tb_X4_hasStatement 0 rfl) rfl rfl rfl ?_
  refine jn_elim (P := (fun (k : Option (Int32)) => k = some res → V p l en (rmD 0) s m args below meth c 2 D tc B nn (Ar B nn) s.heap 0 0 (MQ below (QC D tc B nn (Ar B nn) (some (.int res)) h) args s 0 0 (Ar B nn)) h 16 [] [])) e ?_ (fun j1 Jj1 e => ?_)
  · intro e
    refine V_iconst (v := 0) (q := 17) X (TB.get tb_X4_hasStatement 8 rfl) c_iconst_0 rfl ?_
    cases e
    exact V_zret X hr hlk (Or.inl rfl) (TB.get tb_X4_hasStatement 9 rfl)
  refine V_if_lt (q := 4) (t := 16) X (TB.get tb_X4_hasStatement 1 rfl) rfl rfl (fun hc => ?_) (fun hc => ?_)
  · have e := (if_pos hc).symm.trans e
    refine V_sub (lv' := []) [] rfl ?_
    exact Jj1 e
  · have e := (if_neg hc).symm.trans e
    refine V_iload_n (q := 5) X (TB.get tb_X4_hasStatement 2 rfl) rfl rfl rfl ?_
    refine V_aload_n (q := 6) X (TB.get tb_X4_hasStatement 3 rfl) rfl rfl rfl ?_
    obtain ⟨x2, ex2, e⟩ := bs e
    refine V_getI (q := 9) X (TB.get tb_X4_hasStatement 4 rfl) rfl lf_RX4_62 ex2 ?_
    refine V_icmp_ge (q := 12) (t := 16) X (TB.get tb_X4_hasStatement 5 rfl) rfl rfl (fun hc => ?_) (fun hc => ?_)
    · have e := (if_pos hc).symm.trans e
      refine V_sub (lv' := []) [] rfl ?_
      exact Jj1 e
    · have e := (if_neg hc).symm.trans e
      refine V_iconst (v := 1) (q := 13) X (TB.get tb_X4_hasStatement 6 rfl) c_iconst_1 rfl ?_
      refine V_goto (q := 17) X (TB.get tb_X4_hasStatement 7 rfl) rfl ?_
      cases e
      exact V_zret X hr hlk (Or.inr rfl) (TB.get tb_X4_hasStatement 9 rfl)
set_option maxRecDepth 100000 in
set_option maxHeartbeats 4000000 in
theorem ok_X4_hasPlace (a0 : Nat) (a1 : Int32) (h : Hp) (res : Int32) (e : MX4_hasPlace a0 a1 h = some res) : CK yX4_hasPlace cX4_hasPlace 2 (some .boolean) 0 [.ref a0, .int a1] h (some (.int res)) h ∧ (h.1 a0).1 = 4 := by
  obtain ⟨hcl, e⟩ := h_g_inv e
  refine ⟨CK_of pn_RX4 cm_X4_hasPlace (Nat.le_of_ble_eq_true rfl) ?_, hcl⟩
  intro l D tc B nn p en s m args below meth c X hr hlk
  replace X : CX p (rmD 0) s m args c cX4_hasPlace 2 RX4 D tc 0 := X
  show V p l en (rmD 0) s m args below meth c 2 D tc B nn (Ar B nn) s.heap 0 0 (MQ below (QC D tc B nn (Ar B nn) (some (.int res)) h) args s 0 0 (Ar B nn)) h 0 [(0, .ref a0), (1, .int a1)] []
  refine V_iload_n (q := 1) X (TB.get tb_X4_hasPlace 0 rfl) rfl rfl rfl ?_
  refine jn_elim (P := (fun (k : Option (Int32)) => k = some res → V p l en (rmD 0) s m args below meth c 2 D tc B nn (Ar B nn) s.heap 0 0 (MQ below (QC D tc B nn (Ar B nn) (some (.int res)) h) args s 0 0 (Ar B nn)) h 16 [] [])) e ?_ (fun j1 Jj1 e => ?_)
  · intro e
    refine V_iconst (v := 0) (q := 17) X (TB.get tb_X4_hasPlace 8 rfl) c_iconst_0 rfl ?_
    cases e
    exact V_zret X hr hlk (Or.inl rfl) (TB.get tb_X4_hasPlace 9 rfl)
  refine V_if_lt (q := 4) (t := 16) X (TB.get tb_X4_hasPlace 1 rfl) rfl rfl (fun hc => ?_) (fun hc => ?_)
  · have e := (if_pos hc).symm.trans e
    refine V_sub (lv' := []) [] rfl ?_
    exact Jj1 e
  · have e := (if_neg hc).symm.trans e
    refine V_iload_n (q := 5) X (TB.get tb_X4_hasPlace 2 rfl) rfl rfl rfl ?_
    refine V_aload_n (q := 6) X (TB.get tb_X4_hasPlace 3 rfl) rfl rfl rfl ?_
    obtain ⟨x2, ex2, e⟩ := bs e
    refine V_getI (q := 9) X (TB.get tb_X4_hasPlace 4 rfl) rfl lf_RX4_62 ex2 ?_
    refine V_icmp_gt (q := 12) (t := 16) X (TB.get tb_X4_hasPlace 5 rfl) rfl rfl (fun hc => ?_) (fun hc => ?_)
    · have e := (if_pos hc).symm.trans e
      refine V_sub (lv' := []) [] rfl ?_
      exact Jj1 e
    · have e := (if_neg hc).symm.trans e
      refine V_iconst (v := 1) (q := 13) X (TB.get tb_X4_hasPlace 6 rfl) c_iconst_1 rfl ?_
      refine V_goto (q := 17) X (TB.get tb_X4_hasPlace 7 rfl) rfl ?_
      cases e
      exact V_zret X hr hlk (Or.inr rfl) (TB.get tb_X4_hasPlace 9 rfl)
set_option maxRecDepth 100000 in
set_option maxHeartbeats 4000000 in
theorem ok_X4_variablesOf (fu : Nat) (a0 : Nat) (a1 : Int32) (h : Hp) (res : Int32) (e : MX4_variablesOf fu a0 a1 h = some res) : CK yX4_variablesOf cX4_variablesOf 4 (some .int) 0 [.ref a0, .int a1] h (some (.int res)) h ∧ (h.1 a0).1 = 4 := by
  obtain ⟨hcl, e⟩ := h_g_inv e
  refine ⟨CK_of pn_RX4 cm_X4_variablesOf (Nat.le_of_ble_eq_true rfl) ?_, hcl⟩
  intro l D tc B nn p en s m args below meth c X hr hlk
  replace X : CX p (rmD 0) s m args c cX4_variablesOf 4 RX4 D tc 0 := X
  show V p l en (rmD 0) s m args below meth c 4 D tc B nn (Ar B nn) s.heap 0 0 (MQ below (QC D tc B nn (Ar B nn) (some (.int res)) h) args s 0 0 (Ar B nn)) h 0 [(0, .ref a0), (1, .int a1)] []
  refine V_iconst (v := 0) (q := 1) X (TB.get tb_X4_variablesOf 0 rfl) c_iconst_0 rfl ?_
  refine V_istore_n (q := 2) (lv' := [(2, .int (0 : Int32)), (0, .ref a0), (1, .int a1)]) X (TB.get tb_X4_variablesOf 1 rfl) rfl rfl (Nat.le_of_ble_eq_true rfl) rfl ?_
  refine V_iconst (v := 0) (q := 3) X (TB.get tb_X4_variablesOf 2 rfl) c_iconst_0 rfl ?_
  refine V_istore_n (q := 4) (lv' := [(3, .int (0 : Int32)), (2, .int (0 : Int32)), (0, .ref a0), (1, .int a1)]) X (TB.get tb_X4_variablesOf 3 rfl) rfl rfl (Nat.le_of_ble_eq_true rfl) rfl ?_
  refine V_sub (lv' := [(0, .ref a0), (1, .int a1), (2, .int (0 : Int32)), (3, .int (0 : Int32))]) [2, 3, 1, 0] rfl ?_
  refine wh2_elim (P := fun v1 v2 => V p l en (rmD 0) s m args below meth c 4 D tc B nn (Ar B nn) s.heap 0 0 (MQ below (QC D tc B nn (Ar B nn) (some (.int res)) h) args s 0 0 (Ar B nn)) h 4 [(0, .ref a0), (1, .int a1), (2, .int v1), (3, .int v2)] []) (f := fu) ?_ e
  intro self3 v1 v2 ihself3 e
  unfold MX4_variablesOf_B4 at e
  refine V_iload_n (q := 5) X (TB.get tb_X4_variablesOf 4 rfl) rfl rfl rfl ?_
  refine V_aload_n (q := 6) X (TB.get tb_X4_variablesOf 5 rfl) rfl rfl rfl ?_
  obtain ⟨x4, ex4, e⟩ := bs e
  refine V_getI (q := 9) X (TB.get tb_X4_variablesOf 6 rfl) rfl lf_RX4_59 ex4 ?_
  refine V_icmp_ge (q := 12) (t := 31) X (TB.get tb_X4_variablesOf 7 rfl) rfl rfl (fun hc => ?_) (fun hc => ?_)
  · have e := (if_pos hc).symm.trans e
    refine V_iload_n (q := 32) X (TB.get tb_X4_variablesOf 17 rfl) rfl rfl rfl ?_
    cases e
    exact V_iret X hr hlk (TB.get tb_X4_variablesOf 18 rfl)
  · have e := (if_neg hc).symm.trans e
    refine V_aload_n (q := 13) X (TB.get tb_X4_variablesOf 8 rfl) rfl rfl rfl ?_
    obtain ⟨x5, ex5, e⟩ := bs e
    refine V_getR (q := 16) X (TB.get tb_X4_variablesOf 9 rfl) rfl lf_RX4_18 ex5 ?_
    refine V_iload_n (q := 17) X (TB.get tb_X4_variablesOf 10 rfl) rfl rfl rfl ?_
    obtain ⟨x6, ex6, e⟩ := bs e
    refine V_iaload (q := 18) X (TB.get tb_X4_variablesOf 11 rfl) rfl ex6 ?_
    refine V_iload_n (q := 19) X (TB.get tb_X4_variablesOf 12 rfl) rfl rfl rfl ?_
    refine jn_elim (P := (fun (k : Int32 → Option (Int32)) => ∀ (v7 : Int32), k v7 = some res → V p l en (rmD 0) s m args below meth c 4 D tc B nn (Ar B nn) s.heap 0 0 (MQ below (QC D tc B nn (Ar B nn) (some (.int res)) h) args s 0 0 (Ar B nn)) h 25 [(0, .ref a0), (1, .int a1), (2, .int v7), (3, .int v2)] [])) e ?_ (fun j8 Jj8 e => ?_)
    · intro v7 e
      refine V_iinc (q := 28) (v := v2 + (1 : Int32)) (lv' := [(3, .int (v2 + (1 : Int32))), (0, .ref a0), (1, .int a1), (2, .int v7)]) X (TB.get tb_X4_variablesOf 15 rfl) rfl rfl (by rw [c_iconst_1]) (Nat.le_of_ble_eq_true rfl) rfl ?_
      refine V_goto (q := 4) X (TB.get tb_X4_variablesOf 16 rfl) rfl ?_
      refine V_sub (lv' := [(0, .ref a0), (1, .int a1), (2, .int v7), (3, .int (v2 + (1 : Int32)))]) [1, 2, 3, 0] rfl ?_
      exact ihself3 _ _ e
    refine V_icmp_ne (q := 22) (t := 25) X (TB.get tb_X4_variablesOf 13 rfl) rfl rfl (fun hc => ?_) (fun hc => ?_)
    · have e := (if_neg hc).symm.trans e
      exact Jj8 _ e
    · have e := (if_pos hc).symm.trans e
      refine V_iinc (q := 25) (v := v1 + (1 : Int32)) (lv' := [(2, .int (v1 + (1 : Int32))), (0, .ref a0), (1, .int a1), (3, .int v2)]) X (TB.get tb_X4_variablesOf 14 rfl) rfl rfl (by rw [c_iconst_1]) (Nat.le_of_ble_eq_true rfl) rfl ?_
      refine V_sub (lv' := [(0, .ref a0), (1, .int a1), (2, .int (v1 + (1 : Int32))), (3, .int v2)]) [1, 2, 0, 3] rfl ?_
      exact Jj8 _ e
set_option maxRecDepth 100000 in
set_option maxHeartbeats 4000000 in
theorem ok_X5_drawYes (a0 : Nat) (h : Hp) (res : Int32 × Hp) (e : MX5_drawYes a0 h = some res) : CK yX5_drawYes cX5_drawYes 1 (some .boolean) 0 [.ref a0] h (some (.int res.1)) res.2 ∧ (h.1 a0).1 = 5 := by
  obtain ⟨hcl, e⟩ := h_g_inv e
  refine ⟨CK_of pn_RX5 cm_X5_drawYes (Nat.le_of_ble_eq_true rfl) ?_, hcl⟩
  intro l D tc B nn p en s m args below meth c X hr hlk
  replace X : CX p (rmD 0) s m args c cX5_drawYes 1 RX5 D tc 0 := X
  show V p l en (rmD 0) s m args below meth c 1 D tc B nn (Ar B nn) s.heap 0 0 (MQ below (QC D tc B nn (Ar B nn) (some (.int res.1)) res.2) args s 0 0 (Ar B nn)) h 0 [(0, .ref a0)] []
  refine V_aload_n (q := 1) X (TB.get tb_X5_drawYes 0 rfl) rfl rfl rfl ?_
  refine V_bipush (v := 75) (q := 3) X (TB.get tb_X5_drawYes 1 rfl) c_bipush_75 rfl ?_
  refine V_aload_n (q := 4) X (TB.get tb_X5_drawYes 2 rfl) rfl rfl rfl ?_
  obtain ⟨x1, ex1, e⟩ := bs e
  refine V_getI (q := 7) X (TB.get tb_X5_drawYes 3 rfl) rfl lf_RX5_31 ex1 ?_
  refine V_imul (q := 8) X (TB.get tb_X5_drawYes 4 rfl) rfl ?_
  refine V_bipush (v := 74) (q := 10) X (TB.get tb_X5_drawYes 5 rfl) c_bipush_74 rfl ?_
  refine V_iadd (q := 11) X (TB.get tb_X5_drawYes 6 rfl) rfl ?_
  refine V_ldc (v := 65537) (q := 13) X (TB.get tb_X5_drawYes 7 rfl) rfl kc_RX5_68 ?_
  obtain ⟨x2, ex2, e⟩ := bs e
  refine V_irem (q := 14) X (TB.get tb_X5_drawYes 8 rfl) rfl ex2 ?_
  obtain ⟨h3, eh3, e⟩ := bs e
  refine V_putI (q := 17) X (TB.get tb_X5_drawYes 9 rfl) rfl lq_RX5_31 eh3 ?_
  refine V_aload_n (q := 18) X (TB.get tb_X5_drawYes 10 rfl) rfl rfl rfl ?_
  obtain ⟨x4, ex4, e⟩ := bs e
  refine V_getI (q := 21) X (TB.get tb_X5_drawYes 11 rfl) rfl lf_RX5_31 ex4 ?_
  refine V_iconst (v := 2) (q := 22) X (TB.get tb_X5_drawYes 12 rfl) c_iconst_2 rfl ?_
  obtain ⟨x5, ex5, e⟩ := bs e
  refine V_irem (q := 23) X (TB.get tb_X5_drawYes 13 rfl) rfl ex5 ?_
  refine V_if_ne (q := 26) (t := 30) X (TB.get tb_X5_drawYes 14 rfl) rfl rfl (fun hc => ?_) (fun hc => ?_)
  · have e := (if_neg hc).symm.trans e
    refine V_iconst (v := 0) (q := 31) X (TB.get tb_X5_drawYes 17 rfl) c_iconst_0 rfl ?_
    cases e
    exact V_zret X hr hlk (Or.inl rfl) (TB.get tb_X5_drawYes 18 rfl)
  · have e := (if_pos hc).symm.trans e
    refine V_iconst (v := 1) (q := 27) X (TB.get tb_X5_drawYes 15 rfl) c_iconst_1 rfl ?_
    refine V_goto (q := 31) X (TB.get tb_X5_drawYes 16 rfl) rfl ?_
    cases e
    exact V_zret X hr hlk (Or.inr rfl) (TB.get tb_X5_drawYes 18 rfl)
set_option maxRecDepth 100000 in
set_option maxHeartbeats 4000000 in
theorem ok_X5_step (fu : Nat) (a0 : Nat) (a1 : Nat) (h : Hp) (res : Int32 × Hp) (e : MX5_step fu a0 a1 h = some res) : CK yX5_step cX5_step 3 (some .boolean) 3 [.ref a0, .ref a1] h (some (.int res.1)) res.2 ∧ (h.1 a0).1 = 5 := by
  obtain ⟨hcl, e⟩ := h_g_inv e
  refine ⟨CK_of pn_RX5 cm_X5_step (Nat.le_of_ble_eq_true rfl) ?_, hcl⟩
  intro l D tc B nn p en s m args below meth c X hr hlk
  replace X : CX p (rmD 3) s m args c cX5_step 3 RX5 D tc 3 := X
  show V p l en (rmD 3) s m args below meth c 3 D tc B nn (Ar B nn) s.heap 0 0 (MQ below (QC D tc B nn (Ar B nn) (some (.int res.1)) res.2) args s 0 0 (Ar B nn)) h 0 [(0, .ref a0), (1, .ref a1)] []
  refine V_aload_n (q := 1) X (TB.get tb_X5_step 0 rfl) rfl rfl rfl ?_
  obtain ⟨x1, ex1, e⟩ := bs e
  refine V_getI (q := 4) X (TB.get tb_X5_step 1 rfl) rfl lf_RX5_25 ex1 ?_
  refine V_aload_n (q := 5) X (TB.get tb_X5_step 2 rfl) rfl rfl rfl ?_
  obtain ⟨x2, ex2, e⟩ := bs e
  refine V_getI (q := 8) X (TB.get tb_X5_step 3 rfl) rfl lf_RX5_41 ex2 ?_
  refine jn_elim (P := (fun (k : Option (Int32 × Hp)) => k = some res → V p l en (rmD 3) s m args below meth c 3 D tc B nn (Ar B nn) s.heap 0 0 (MQ below (QC D tc B nn (Ar B nn) (some (.int res.1)) res.2) args s 0 0 (Ar B nn)) h 29 [(0, .ref a0), (1, .ref a1)] [])) e ?_ (fun j3 Jj3 e => ?_)
  · intro e
    refine V_aload_n (q := 30) X (TB.get tb_X5_step 14 rfl) rfl rfl rfl ?_
    refine V_aload_n (q := 31) X (TB.get tb_X5_step 15 rfl) rfl rfl rfl ?_
    obtain ⟨x4, ex4, e⟩ := bs e
    refine V_getR (q := 34) X (TB.get tb_X5_step 16 rfl) rfl lf_RX5_12 ex4 ?_
    refine V_aload_n (q := 35) X (TB.get tb_X5_step 17 rfl) rfl rfl rfl ?_
    refine V_aload_n (q := 36) X (TB.get tb_X5_step 18 rfl) rfl rfl rfl ?_
    refine V_getI (q := 39) X (TB.get tb_X5_step 19 rfl) rfl lf_RX5_25 ex1 ?_
    obtain ⟨x5, ex5, e⟩ := bs e
    refine V_callV (q := 42) (As := [.ref a1, .int x1]) (rest := [.ref a0]) (st' := [.int x5, .ref a0]) X (TB.get tb_X5_step 20 rfl) rfl cv_RX5_46 (ok_X1_reasonAt fu x4 a1 x1 h x5 ex5).1 (ok_X1_reasonAt fu x4 a1 x1 h x5 ex5).2 (Nat.le_of_ble_eq_true rfl) rfl rfl (Nat.le_of_ble_eq_true rfl) rfl ?_
    obtain ⟨h6, eh6, e⟩ := bs e
    refine V_putI (q := 45) X (TB.get tb_X5_step 21 rfl) rfl lq_RX5_22 eh6 ?_
    refine V_aload_n (q := 46) X (TB.get tb_X5_step 22 rfl) rfl rfl rfl ?_
    obtain ⟨x7, ex7, e⟩ := bs e
    refine V_getI (q := 49) X (TB.get tb_X5_step 23 rfl) rfl lf_RX5_25 ex7 ?_
    refine V_aload_n (q := 50) X (TB.get tb_X5_step 24 rfl) rfl rfl rfl ?_
    obtain ⟨x8, ex8, e⟩ := bs e
    refine V_getI (q := 53) X (TB.get tb_X5_step 25 rfl) rfl lf_RX5_41 ex8 ?_
    refine V_icmp_lt (q := 56) (t := 58) X (TB.get tb_X5_step 26 rfl) rfl rfl (fun hc => ?_) (fun hc => ?_)
    · have e := (if_pos hc).symm.trans e
      refine V_aload_n (q := 59) X (TB.get tb_X5_step 29 rfl) rfl rfl rfl ?_
      refine V_dup (q := 60) X (TB.get tb_X5_step 30 rfl) rfl rfl ?_
      obtain ⟨x9, ex9, e⟩ := bs e
      refine V_getI (q := 63) X (TB.get tb_X5_step 31 rfl) rfl lf_RX5_18 ex9 ?_
      refine V_iconst (v := 1) (q := 64) X (TB.get tb_X5_step 32 rfl) c_iconst_1 rfl ?_
      refine V_iadd (q := 65) X (TB.get tb_X5_step 33 rfl) rfl ?_
      obtain ⟨h10, eh10, e⟩ := bs e
      refine V_putI (q := 68) X (TB.get tb_X5_step 34 rfl) rfl lq_RX5_18 eh10 ?_
      refine V_aload_n (q := 69) X (TB.get tb_X5_step 35 rfl) rfl rfl rfl ?_
      obtain ⟨x11, ex11, e⟩ := bs e
      refine V_getI (q := 72) X (TB.get tb_X5_step 36 rfl) rfl lf_RX5_22 ex11 ?_
      refine V_if_eq (q := 75) (t := 77) X (TB.get tb_X5_step 37 rfl) rfl rfl (fun hc => ?_) (fun hc => ?_)
      · have e := (if_pos hc).symm.trans e
        refine V_aload_n (q := 78) X (TB.get tb_X5_step 40 rfl) rfl rfl rfl ?_
        obtain ⟨x12, ex12, e⟩ := bs e
        refine V_getR (q := 81) X (TB.get tb_X5_step 41 rfl) rfl lf_RX5_50 ex12 ?_
        refine V_aload_n (q := 82) X (TB.get tb_X5_step 42 rfl) rfl rfl rfl ?_
        obtain ⟨x13, ex13, e⟩ := bs e
        refine V_getI (q := 85) X (TB.get tb_X5_step 43 rfl) rfl lf_RX5_25 ex13 ?_
        obtain ⟨x14, ex14, e⟩ := bs e
        refine V_iaload (q := 86) X (TB.get tb_X5_step 44 rfl) rfl ex14 ?_
        refine V_iconst (v := -1) (q := 87) X (TB.get tb_X5_step 45 rfl) c_iconst_m1 rfl ?_
        refine jn_elim (P := (fun (k : Int32 → Hp → Option (Int32 × Hp)) => ∀ (w15 : Int32) (h16 : Hp), k w15 h16 = some res → V p l en (rmD 3) s m args below meth c 3 D tc B nn (Ar B nn) s.heap 0 0 (MQ below (QC D tc B nn (Ar B nn) (some (.int res.1)) res.2) args s 0 0 (Ar B nn)) h16 102 [(0, .ref a0), (1, .ref a1)] [.int w15])) e ?_ (fun j17 Jj17 e => ?_)
        · intro w15 h16 e
          refine V_istore_n (q := 103) (lv' := [(2, .int w15), (0, .ref a0), (1, .ref a1)]) X (TB.get tb_X5_step 53 rfl) rfl rfl (Nat.le_of_ble_eq_true rfl) rfl ?_
          refine V_aload_n (q := 104) X (TB.get tb_X5_step 54 rfl) rfl rfl rfl ?_
          obtain ⟨x18, ex18, e⟩ := bs e
          refine V_getR (q := 107) X (TB.get tb_X5_step 55 rfl) rfl lf_RX5_58 ex18 ?_
          refine V_aload_n (q := 108) X (TB.get tb_X5_step 56 rfl) rfl rfl rfl ?_
          obtain ⟨x19, ex19, e⟩ := bs e
          refine V_getI (q := 111) X (TB.get tb_X5_step 57 rfl) rfl lf_RX5_25 ex19 ?_
          obtain ⟨x20, ex20, e⟩ := bs e
          refine V_iaload (q := 112) X (TB.get tb_X5_step 58 rfl) rfl ex20 ?_
          refine jn_elim (P := (fun (k : Hp → Option (Int32 × Hp)) => ∀ (h21 : Hp), k h21 = some res → V p l en (rmD 3) s m args below meth c 3 D tc B nn (Ar B nn) s.heap 0 0 (MQ below (QC D tc B nn (Ar B nn) (some (.int res.1)) res.2) args s 0 0 (Ar B nn)) h21 125 [(0, .ref a0), (1, .ref a1), (2, .int w15)] [])) e ?_ (fun j22 Jj22 e => ?_)
          · intro h21 e
            refine V_aload_n (q := 126) X (TB.get tb_X5_step 66 rfl) rfl rfl rfl ?_
            obtain ⟨x23, ex23, e⟩ := bs e
            refine V_getR (q := 129) X (TB.get tb_X5_step 67 rfl) rfl lf_RX5_12 ex23 ?_
            refine V_aload_n (q := 130) X (TB.get tb_X5_step 68 rfl) rfl rfl rfl ?_
            refine V_aload_n (q := 131) X (TB.get tb_X5_step 69 rfl) rfl rfl rfl ?_
            obtain ⟨x24, ex24, e⟩ := bs e
            refine V_getI (q := 134) X (TB.get tb_X5_step 70 rfl) rfl lf_RX5_25 ex24 ?_
            refine V_iload_n (q := 135) X (TB.get tb_X5_step 71 rfl) rfl rfl rfl ?_
            obtain ⟨p25, ep25, e⟩ := bs e
            refine V_callV (q := 138) (As := [.ref a1, .int x24, .int w15]) (rest := []) (st' := [.int p25.1]) X (TB.get tb_X5_step 72 rfl) rfl cv_RX5_61 (ok_X1_pass fu x23 a1 x24 w15 h21 p25 ep25).1 (ok_X1_pass fu x23 a1 x24 w15 h21 p25 ep25).2 (Nat.le_of_ble_eq_true rfl) rfl rfl (Nat.le_of_ble_eq_true rfl) rfl ?_
            refine V_pop (q := 139) X (TB.get tb_X5_step 73 rfl) rfl rfl ?_
            refine V_aload_n (q := 140) X (TB.get tb_X5_step 74 rfl) rfl rfl rfl ?_
            refine V_iload_n (q := 141) X (TB.get tb_X5_step 75 rfl) rfl rfl rfl ?_
            refine jn_elim (P := (fun (k : Int32 → Option (Int32 × Hp)) => ∀ (w26 : Int32), k w26 = some res → V p l en (rmD 3) s m args below meth c 3 D tc B nn (Ar B nn) s.heap 0 0 (MQ below (QC D tc B nn (Ar B nn) (some (.int res.1)) res.2) args s 0 0 (Ar B nn)) p25.2 165 [] [.int w26, .ref a0])) e ?_ (fun j27 Jj27 e => ?_)
            · intro w26 e
              obtain ⟨h28, eh28, e⟩ := bs e
              refine V_putI (q := 168) X (TB.get tb_X5_step 88 rfl) rfl lq_RX5_25 eh28 ?_
              refine V_iconst (v := 1) (q := 169) X (TB.get tb_X5_step 89 rfl) c_iconst_1 rfl ?_
              cases e
              exact V_zret X hr hlk (Or.inr rfl) (TB.get tb_X5_step 90 rfl)
            refine V_if_eq (q := 144) (t := 156) X (TB.get tb_X5_step 76 rfl) rfl rfl (fun hc => ?_) (fun hc => ?_)
            · have e := (if_pos hc).symm.trans e
              refine V_aload_n (q := 157) X (TB.get tb_X5_step 83 rfl) rfl rfl rfl ?_
              obtain ⟨x29, ex29, e⟩ := bs e
              refine V_getR (q := 160) X (TB.get tb_X5_step 84 rfl) rfl lf_RX5_50 ex29 ?_
              refine V_aload_n (q := 161) X (TB.get tb_X5_step 85 rfl) rfl rfl rfl ?_
              obtain ⟨x30, ex30, e⟩ := bs e
              refine V_getI (q := 164) X (TB.get tb_X5_step 86 rfl) rfl lf_RX5_25 ex30 ?_
              obtain ⟨x31, ex31, e⟩ := bs e
              refine V_iaload (q := 165) X (TB.get tb_X5_step 87 rfl) rfl ex31 ?_
              refine V_sub (lv' := []) [] rfl ?_
              exact Jj27 _ e
            · have e := (if_neg hc).symm.trans e
              refine V_aload_n (q := 145) X (TB.get tb_X5_step 77 rfl) rfl rfl rfl ?_
              obtain ⟨x32, ex32, e⟩ := bs e
              refine V_getR (q := 148) X (TB.get tb_X5_step 78 rfl) rfl lf_RX5_65 ex32 ?_
              refine V_aload_n (q := 149) X (TB.get tb_X5_step 79 rfl) rfl rfl rfl ?_
              obtain ⟨x33, ex33, e⟩ := bs e
              refine V_getI (q := 152) X (TB.get tb_X5_step 80 rfl) rfl lf_RX5_25 ex33 ?_
              obtain ⟨x34, ex34, e⟩ := bs e
              refine V_iaload (q := 153) X (TB.get tb_X5_step 81 rfl) rfl ex34 ?_
              refine V_goto (q := 165) X (TB.get tb_X5_step 82 rfl) rfl ?_
              refine V_sub (lv' := []) [] rfl ?_
              exact Jj27 _ e
          refine V_if_ne (q := 115) (t := 125) X (TB.get tb_X5_step 59 rfl) rfl rfl (fun hc => ?_) (fun hc => ?_)
          · have e := (if_neg hc).symm.trans e
            refine V_sub (lv' := [(0, .ref a0), (1, .ref a1), (2, .int w15)]) [1, 2, 0] rfl ?_
            exact Jj22 _ e
          · have e := (if_pos hc).symm.trans e
            refine V_aload_n (q := 116) X (TB.get tb_X5_step 60 rfl) rfl rfl rfl ?_
            refine V_dup (q := 117) X (TB.get tb_X5_step 61 rfl) rfl rfl ?_
            obtain ⟨x35, ex35, e⟩ := bs e
            refine V_getI (q := 120) X (TB.get tb_X5_step 62 rfl) rfl lf_RX5_28 ex35 ?_
            refine V_iconst (v := 1) (q := 121) X (TB.get tb_X5_step 63 rfl) c_iconst_1 rfl ?_
            refine V_iadd (q := 122) X (TB.get tb_X5_step 64 rfl) rfl ?_
            obtain ⟨h36, eh36, e⟩ := bs e
            refine V_putI (q := 125) X (TB.get tb_X5_step 65 rfl) rfl lq_RX5_28 eh36 ?_
            refine V_sub (lv' := [(0, .ref a0), (1, .ref a1), (2, .int w15)]) [1, 2, 0] rfl ?_
            exact Jj22 _ e
        refine jn_elim (P := (fun (k : Hp → Option (Int32 × Hp)) => ∀ (h37 : Hp), k h37 = some res → V p l en (rmD 3) s m args below meth c 3 D tc B nn (Ar B nn) s.heap 0 0 (MQ below (QC D tc B nn (Ar B nn) (some (.int res.1)) res.2) args s 0 0 (Ar B nn)) h37 97 [(0, .ref a0), (1, .ref a1)] [])) e ?_ (fun j38 Jj38 e => ?_)
        · intro h37 e
          refine V_iconst (v := 1) (q := 98) X (TB.get tb_X5_step 50 rfl) c_iconst_1 rfl ?_
          refine V_goto (q := 102) X (TB.get tb_X5_step 51 rfl) rfl ?_
          exact Jj17 _ _ e
        refine V_icmp_eq (q := 90) (t := 97) X (TB.get tb_X5_step 46 rfl) rfl rfl (fun hc => ?_) (fun hc => ?_)
        · have e := (if_pos hc).symm.trans e
          exact Jj38 _ e
        · have e := (if_neg hc).symm.trans e
          refine V_aload_n (q := 91) X (TB.get tb_X5_step 47 rfl) rfl rfl rfl ?_
          obtain ⟨p39, ep39, e⟩ := bs e
          refine V_callV (q := 94) (As := []) (rest := []) (st' := [.int p39.1]) X (TB.get tb_X5_step 48 rfl) rfl cv_RX5_54 (ok_X5_drawYes a0 h10 p39 ep39).1 (ok_X5_drawYes a0 h10 p39 ep39).2 (Nat.le_of_ble_eq_true rfl) rfl rfl (Nat.le_of_ble_eq_true rfl) rfl ?_
          refine V_if_eq (q := 97) (t := 101) X (TB.get tb_X5_step 49 rfl) rfl rfl (fun hc => ?_) (fun hc => ?_)
          · have e := (if_pos hc).symm.trans e
            refine V_iconst (v := 0) (q := 102) X (TB.get tb_X5_step 52 rfl) c_iconst_0 rfl ?_
            exact Jj17 _ _ e
          · have e := (if_neg hc).symm.trans e
            exact Jj38 _ e
      · have e := (if_neg hc).symm.trans e
        refine V_iconst (v := 0) (q := 76) X (TB.get tb_X5_step 38 rfl) c_iconst_0 rfl ?_
        cases e
        exact V_zret X hr hlk (Or.inl rfl) (TB.get tb_X5_step 39 rfl)
    · have e := (if_neg hc).symm.trans e
      refine V_iconst (v := 0) (q := 57) X (TB.get tb_X5_step 27 rfl) c_iconst_0 rfl ?_
      cases e
      exact V_zret X hr hlk (Or.inl rfl) (TB.get tb_X5_step 28 rfl)
  refine V_icmp_ge (q := 11) (t := 29) X (TB.get tb_X5_step 4 rfl) rfl rfl (fun hc => ?_) (fun hc => ?_)
  · have e := (if_pos hc).symm.trans e
    exact Jj3 e
  · have e := (if_neg hc).symm.trans e
    refine V_aload_n (q := 12) X (TB.get tb_X5_step 5 rfl) rfl rfl rfl ?_
    obtain ⟨x40, ex40, e⟩ := bs e
    refine V_getI (q := 15) X (TB.get tb_X5_step 6 rfl) rfl lf_RX5_18 ex40 ?_
    refine V_sipush (v := 300) (q := 18) X (TB.get tb_X5_step 7 rfl) c_sipush_300 rfl ?_
    refine V_icmp_lt (q := 21) (t := 29) X (TB.get tb_X5_step 8 rfl) rfl rfl (fun hc => ?_) (fun hc => ?_)
    · have e := (if_pos hc).symm.trans e
      exact Jj3 e
    · have e := (if_neg hc).symm.trans e
      refine V_aload_n (q := 22) X (TB.get tb_X5_step 9 rfl) rfl rfl rfl ?_
      refine V_bipush (v := 6) (q := 24) X (TB.get tb_X5_step 10 rfl) c_bipush_6 rfl ?_
      obtain ⟨h41, eh41, e⟩ := bs e
      refine V_putI (q := 27) X (TB.get tb_X5_step 11 rfl) rfl lq_RX5_22 eh41 ?_
      refine V_iconst (v := 0) (q := 28) X (TB.get tb_X5_step 12 rfl) c_iconst_0 rfl ?_
      cases e
      exact V_zret X hr hlk (Or.inl rfl) (TB.get tb_X5_step 13 rfl)
set_option maxRecDepth 100000 in
set_option maxHeartbeats 4000000 in
theorem ok_X5_go (fu : Nat) (a0 : Nat) (a1 : Nat) (a2 : Int32) (h : Hp) (res : Hp) (e : MX5_go fu a0 a1 a2 h = some res) : CK yX5_go cX5_go 5 none 4 [.ref a0, .ref a1, .int a2] h none res ∧ (h.1 a0).1 = 5 := by
  obtain ⟨hcl, e⟩ := h_g_inv e
  refine ⟨CK_of pn_RX5 cm_X5_go (Nat.le_of_ble_eq_true rfl) ?_, hcl⟩
  intro l D tc B nn p en s m args below meth c X hr hlk
  replace X : CX p (rmD 4) s m args c cX5_go 5 RX5 D tc 4 := X
  show V p l en (rmD 4) s m args below meth c 5 D tc B nn (Ar B nn) s.heap 0 0 (MQ below (QC D tc B nn (Ar B nn) none res) args s 0 0 (Ar B nn)) h 0 [(0, .ref a0), (1, .ref a1), (2, .int a2)] []
  refine V_aload_n (q := 1) X (TB.get tb_X5_go 0 rfl) rfl rfl rfl ?_
  refine V_iconst (v := 0) (q := 2) X (TB.get tb_X5_go 1 rfl) c_iconst_0 rfl ?_
  obtain ⟨h1, eh1, e⟩ := bs e
  refine V_putI (q := 5) X (TB.get tb_X5_go 2 rfl) rfl lq_RX5_18 eh1 ?_
  refine V_aload_n (q := 6) X (TB.get tb_X5_go 3 rfl) rfl rfl rfl ?_
  refine V_iconst (v := 0) (q := 7) X (TB.get tb_X5_go 4 rfl) c_iconst_0 rfl ?_
  obtain ⟨h2, eh2, e⟩ := bs e
  refine V_putI (q := 10) X (TB.get tb_X5_go 5 rfl) rfl lq_RX5_22 eh2 ?_
  refine V_aload_n (q := 11) X (TB.get tb_X5_go 6 rfl) rfl rfl rfl ?_
  refine V_iconst (v := 0) (q := 12) X (TB.get tb_X5_go 7 rfl) c_iconst_0 rfl ?_
  obtain ⟨h3, eh3, e⟩ := bs e
  refine V_putI (q := 15) X (TB.get tb_X5_go 8 rfl) rfl lq_RX5_25 eh3 ?_
  refine V_aload_n (q := 16) X (TB.get tb_X5_go 9 rfl) rfl rfl rfl ?_
  refine V_iconst (v := 0) (q := 17) X (TB.get tb_X5_go 10 rfl) c_iconst_0 rfl ?_
  obtain ⟨h4, eh4, e⟩ := bs e
  refine V_putI (q := 20) X (TB.get tb_X5_go 11 rfl) rfl lq_RX5_28 eh4 ?_
  refine V_aload_n (q := 21) X (TB.get tb_X5_go 12 rfl) rfl rfl rfl ?_
  refine V_iload_n (q := 22) X (TB.get tb_X5_go 13 rfl) rfl rfl rfl ?_
  obtain ⟨h5, eh5, e⟩ := bs e
  refine V_putI (q := 25) X (TB.get tb_X5_go 14 rfl) rfl lq_RX5_31 eh5 ?_
  refine V_aload_n (q := 26) X (TB.get tb_X5_go 15 rfl) rfl rfl rfl ?_
  obtain ⟨x6, ex6, e⟩ := bs e
  refine V_getR (q := 29) X (TB.get tb_X5_go 16 rfl) rfl lf_RX5_12 ex6 ?_
  obtain ⟨h7, eh7, e⟩ := bs e
  refine V_callV (q := 32) (As := []) (rest := []) (st' := []) X (TB.get tb_X5_go 17 rfl) rfl cv_RX5_34 (ok_X1_begin fu x6 h5 h7 eh7).1 (ok_X1_begin fu x6 h5 h7 eh7).2 (Nat.le_of_ble_eq_true rfl) rfl rfl (Nat.le_of_ble_eq_true rfl) rfl ?_
  refine V_iconst (v := 1) (q := 33) X (TB.get tb_X5_go 18 rfl) c_iconst_1 rfl ?_
  refine V_istore_n (q := 34) (lv' := [(3, .int (1 : Int32)), (0, .ref a0), (1, .ref a1), (2, .int a2)]) X (TB.get tb_X5_go 19 rfl) rfl rfl (Nat.le_of_ble_eq_true rfl) rfl ?_
  refine V_iconst (v := 0) (q := 35) X (TB.get tb_X5_go 20 rfl) c_iconst_0 rfl ?_
  refine V_istore (q := 37) (lv' := [(4, .int (0 : Int32)), (3, .int (1 : Int32)), (0, .ref a0), (1, .ref a1), (2, .int a2)]) X (TB.get tb_X5_go 21 rfl) rfl (Nat.le_of_ble_eq_true rfl) rfl ?_
  refine V_sub (lv' := [(0, .ref a0), (1, .ref a1), (3, .int (1 : Int32)), (4, .int (0 : Int32))]) [2, 3, 1, 0] rfl ?_
  refine wh3_elim (P := fun v8 v9 h10 => V p l en (rmD 4) s m args below meth c 5 D tc B nn (Ar B nn) s.heap 0 0 (MQ below (QC D tc B nn (Ar B nn) none res) args s 0 0 (Ar B nn)) h10 37 [(0, .ref a0), (1, .ref a1), (3, .int v8), (4, .int v9)] []) (f := fu) ?_ e
  intro self11 v8 v9 h10 ihself11 e
  unfold MX5_go_B37 at e
  refine V_iload_n (q := 38) X (TB.get tb_X5_go 22 rfl) rfl rfl rfl ?_
  refine V_if_eq (q := 41) (t := 61) X (TB.get tb_X5_go 23 rfl) rfl rfl (fun hc => ?_) (fun hc => ?_)
  · have e := (if_pos hc).symm.trans e
    cases e
    exact V_vret X hr hlk (TB.get tb_X5_go 33 rfl)
  · have e := (if_neg hc).symm.trans e
    refine V_iload (q := 43) X (TB.get tb_X5_go 24 rfl) rfl rfl ?_
    refine V_sipush (v := 300) (q := 46) X (TB.get tb_X5_go 25 rfl) c_sipush_300 rfl ?_
    refine V_icmp_gt (q := 49) (t := 61) X (TB.get tb_X5_go 26 rfl) rfl rfl (fun hc => ?_) (fun hc => ?_)
    · have e := (if_pos hc).symm.trans e
      cases e
      exact V_vret X hr hlk (TB.get tb_X5_go 33 rfl)
    · have e := (if_neg hc).symm.trans e
      refine V_aload_n (q := 50) X (TB.get tb_X5_go 27 rfl) rfl rfl rfl ?_
      refine V_aload_n (q := 51) X (TB.get tb_X5_go 28 rfl) rfl rfl rfl ?_
      obtain ⟨p12, ep12, e⟩ := bs e
      refine V_callV (q := 54) (As := [.ref a1]) (rest := []) (st' := [.int p12.1]) X (TB.get tb_X5_go 29 rfl) rfl cv_RX5_37 (ok_X5_step fu a0 a1 h10 p12 ep12).1 (ok_X5_step fu a0 a1 h10 p12 ep12).2 (Nat.le_of_ble_eq_true rfl) rfl rfl (Nat.le_of_ble_eq_true rfl) rfl ?_
      refine V_istore_n (q := 55) (lv' := [(3, .int p12.1), (0, .ref a0), (1, .ref a1), (4, .int v9)]) X (TB.get tb_X5_go 30 rfl) rfl rfl (Nat.le_of_ble_eq_true rfl) rfl ?_
      refine V_iinc (q := 58) (v := v9 + (1 : Int32)) (lv' := [(4, .int (v9 + (1 : Int32))), (3, .int p12.1), (0, .ref a0), (1, .ref a1)]) X (TB.get tb_X5_go 31 rfl) rfl rfl (by rw [c_iconst_1]) (Nat.le_of_ble_eq_true rfl) rfl ?_
      refine V_goto (q := 37) X (TB.get tb_X5_go 32 rfl) rfl ?_
      refine V_sub (lv' := [(0, .ref a0), (1, .ref a1), (3, .int p12.1), (4, .int (v9 + (1 : Int32)))]) [2, 3, 1, 0] rfl ?_
      exact ihself11 _ _ _ e
set_option maxRecDepth 100000 in
set_option maxHeartbeats 4000000 in
theorem ok_X6_forget (fu : Nat) (a0 : Nat) (h : Hp) (res : Hp) (e : MX6_forget fu a0 h = some res) : CK yX6_forget cX6_forget 2 none 1 [.ref a0] h none res ∧ (h.1 a0).1 = 6 := by
  obtain ⟨hcl, e⟩ := h_g_inv e
  refine ⟨CK_of pn_RX6 cm_X6_forget (Nat.le_of_ble_eq_true rfl) ?_, hcl⟩
  intro l D tc B nn p en s m args below meth c X hr hlk
  replace X : CX p (rmD 1) s m args c cX6_forget 2 RX6 D tc 1 := X
  show V p l en (rmD 1) s m args below meth c 2 D tc B nn (Ar B nn) s.heap 0 0 (MQ below (QC D tc B nn (Ar B nn) none res) args s 0 0 (Ar B nn)) h 0 [(0, .ref a0)] []
  refine V_aload_n (q := 1) X (TB.get tb_X6_forget 0 rfl) rfl rfl rfl ?_
  refine V_iconst (v := 0) (q := 2) X (TB.get tb_X6_forget 1 rfl) c_iconst_0 rfl ?_
  obtain ⟨h1, eh1, e⟩ := bs e
  refine V_putI (q := 5) X (TB.get tb_X6_forget 2 rfl) rfl lq_RX6_53 eh1 ?_
  refine V_aload_n (q := 6) X (TB.get tb_X6_forget 3 rfl) rfl rfl rfl ?_
  refine V_iconst (v := 0) (q := 7) X (TB.get tb_X6_forget 4 rfl) c_iconst_0 rfl ?_
  obtain ⟨h2, eh2, e⟩ := bs e
  refine V_putZ (q := 10) X (TB.get tb_X6_forget 5 rfl) rfl lq_RX6_57 eh2 ?_
  refine V_aload_n (q := 11) X (TB.get tb_X6_forget 6 rfl) rfl rfl rfl ?_
  refine V_iconst (v := 0) (q := 12) X (TB.get tb_X6_forget 7 rfl) c_iconst_0 rfl ?_
  obtain ⟨h3, eh3, e⟩ := bs e
  refine V_putI (q := 15) X (TB.get tb_X6_forget 8 rfl) rfl lq_RX6_87 eh3 ?_
  refine V_aload_n (q := 16) X (TB.get tb_X6_forget 9 rfl) rfl rfl rfl ?_
  refine V_iconst (v := -1) (q := 17) X (TB.get tb_X6_forget 10 rfl) c_iconst_m1 rfl ?_
  obtain ⟨h4, eh4, e⟩ := bs e
  refine V_putI (q := 20) X (TB.get tb_X6_forget 11 rfl) rfl lq_RX6_77 eh4 ?_
  refine V_aload_n (q := 21) X (TB.get tb_X6_forget 12 rfl) rfl rfl rfl ?_
  refine V_iconst (v := 0) (q := 22) X (TB.get tb_X6_forget 13 rfl) c_iconst_0 rfl ?_
  obtain ⟨h5, eh5, e⟩ := bs e
  refine V_putI (q := 25) X (TB.get tb_X6_forget 14 rfl) rfl lq_RX6_90 eh5 ?_
  refine V_aload_n (q := 26) X (TB.get tb_X6_forget 15 rfl) rfl rfl rfl ?_
  refine V_iconst (v := 0) (q := 27) X (TB.get tb_X6_forget 16 rfl) c_iconst_0 rfl ?_
  obtain ⟨h6, eh6, e⟩ := bs e
  refine V_putI (q := 30) X (TB.get tb_X6_forget 17 rfl) rfl lq_RX6_93 eh6 ?_
  refine V_aload_n (q := 31) X (TB.get tb_X6_forget 18 rfl) rfl rfl rfl ?_
  refine V_iconst (v := 0) (q := 32) X (TB.get tb_X6_forget 19 rfl) c_iconst_0 rfl ?_
  obtain ⟨h7, eh7, e⟩ := bs e
  refine V_putI (q := 35) X (TB.get tb_X6_forget 20 rfl) rfl lq_RX6_96 eh7 ?_
  refine V_aload_n (q := 36) X (TB.get tb_X6_forget 21 rfl) rfl rfl rfl ?_
  obtain ⟨x8, ex8, e⟩ := bs e
  refine V_getR (q := 39) X (TB.get tb_X6_forget 22 rfl) rfl lf_RX6_26 ex8 ?_
  refine V_iconst (v := 0) (q := 40) X (TB.get tb_X6_forget 23 rfl) c_iconst_0 rfl ?_
  obtain ⟨h9, eh9, e⟩ := bs e
  refine V_callS (q := 43) (As := [.ref x8, .int (0 : Int32)]) (rest := []) (st' := []) X (TB.get tb_X6_forget 24 rfl) rfl cs_RX6_99 (ok_J7_fill_53178 fu x8 (0 : Int32) h7 h9 eh9) (Nat.le_of_ble_eq_true rfl) rfl rfl (Nat.le_of_ble_eq_true rfl) rfl ?_
  refine V_aload_n (q := 44) X (TB.get tb_X6_forget 25 rfl) rfl rfl rfl ?_
  obtain ⟨x10, ex10, e⟩ := bs e
  refine V_getR (q := 47) X (TB.get tb_X6_forget 26 rfl) rfl lf_RX6_15 ex10 ?_
  refine V_iconst (v := 0) (q := 48) X (TB.get tb_X6_forget 27 rfl) c_iconst_0 rfl ?_
  obtain ⟨h11, eh11, e⟩ := bs e
  refine V_callS (q := 51) (As := [.ref x10, .int (0 : Int32)]) (rest := []) (st' := []) X (TB.get tb_X6_forget 28 rfl) rfl cs_RX6_99 (ok_J7_fill_53178 fu x10 (0 : Int32) h9 h11 eh11) (Nat.le_of_ble_eq_true rfl) rfl rfl (Nat.le_of_ble_eq_true rfl) rfl ?_
  refine V_iconst (v := 0) (q := 52) X (TB.get tb_X6_forget 29 rfl) c_iconst_0 rfl ?_
  refine V_istore_n (q := 53) (lv' := [(1, .int (0 : Int32)), (0, .ref a0)]) X (TB.get tb_X6_forget 30 rfl) rfl rfl (Nat.le_of_ble_eq_true rfl) rfl ?_
  refine V_sub (lv' := [(0, .ref a0), (1, .int (0 : Int32))]) [1, 0] rfl ?_
  refine wh2_elim (P := fun v12 h13 => V p l en (rmD 1) s m args below meth c 2 D tc B nn (Ar B nn) s.heap 0 0 (MQ below (QC D tc B nn (Ar B nn) none res) args s 0 0 (Ar B nn)) h13 53 [(0, .ref a0), (1, .int v12)] []) (f := fu) ?_ e
  intro self14 v12 h13 ihself14 e
  unfold MX6_forget_B53 at e
  refine V_iload_n (q := 54) X (TB.get tb_X6_forget 31 rfl) rfl rfl rfl ?_
  refine V_bipush (v := 41) (q := 56) X (TB.get tb_X6_forget 32 rfl) c_bipush_41 rfl ?_
  refine V_icmp_ge (q := 59) (t := 72) X (TB.get tb_X6_forget 33 rfl) rfl rfl (fun hc => ?_) (fun hc => ?_)
  · have e := (if_pos hc).symm.trans e
    cases e
    exact V_vret X hr hlk (TB.get tb_X6_forget 41 rfl)
  · have e := (if_neg hc).symm.trans e
    refine V_aload_n (q := 60) X (TB.get tb_X6_forget 34 rfl) rfl rfl rfl ?_
    obtain ⟨x15, ex15, e⟩ := bs e
    refine V_getR (q := 63) X (TB.get tb_X6_forget 35 rfl) rfl lf_RX6_9 ex15 ?_
    refine V_iload_n (q := 64) X (TB.get tb_X6_forget 36 rfl) rfl rfl rfl ?_
    refine V_iconst (v := 0) (q := 65) X (TB.get tb_X6_forget 37 rfl) c_iconst_0 rfl ?_
    obtain ⟨h16, eh16, e⟩ := bs e
    refine V_bastoreZ (q := 66) X (TB.get tb_X6_forget 38 rfl) rfl eh16 ?_
    refine V_iinc (q := 69) (v := v12 + (1 : Int32)) (lv' := [(1, .int (v12 + (1 : Int32))), (0, .ref a0)]) X (TB.get tb_X6_forget 39 rfl) rfl rfl (by rw [c_iconst_1]) (Nat.le_of_ble_eq_true rfl) rfl ?_
    refine V_goto (q := 53) X (TB.get tb_X6_forget 40 rfl) rfl ?_
    refine V_sub (lv' := [(0, .ref a0), (1, .int (v12 + (1 : Int32)))]) [1, 0] rfl ?_
    exact ihself14 _ _ e
set_option maxRecDepth 100000 in
set_option maxHeartbeats 4000000 in
theorem ok_X6_addAt (a0 : Nat) (a1 : Int32) (a2 : Int64) (a4 : Int32) (h : Hp) (res : Hp) (e : MX6_addAt a0 a1 a2 a4 h = some res) : CK yX6_addAt cX6_addAt 5 none 0 [.ref a0, .int a1, .long a2, .int a4] h none res ∧ (h.1 a0).1 = 6 := by
  obtain ⟨hcl, e⟩ := h_g_inv e
  refine ⟨CK_of pn_RX6 cm_X6_addAt (Nat.le_of_ble_eq_true rfl) ?_, hcl⟩
  intro l D tc B nn p en s m args below meth c X hr hlk
  replace X : CX p (rmD 0) s m args c cX6_addAt 5 RX6 D tc 0 := X
  show V p l en (rmD 0) s m args below meth c 5 D tc B nn (Ar B nn) s.heap 0 0 (MQ below (QC D tc B nn (Ar B nn) none res) args s 0 0 (Ar B nn)) h 0 [(0, .ref a0), (1, .int a1), (2, .long a2), (4, .int a4)] []
  refine V_aload_n (q := 1) X (TB.get tb_X6_addAt 0 rfl) rfl rfl rfl ?_
  obtain ⟨x1, ex1, e⟩ := bs e
  refine V_getI (q := 4) X (TB.get tb_X6_addAt 1 rfl) rfl lf_RX6_53 ex1 ?_
  refine V_sipush (v := 1000) (q := 7) X (TB.get tb_X6_addAt 2 rfl) c_sipush_1000 rfl ?_
  refine V_icmp_lt (q := 10) (t := 16) X (TB.get tb_X6_addAt 3 rfl) rfl rfl (fun hc => ?_) (fun hc => ?_)
  · have e := (if_pos hc).symm.trans e
    refine V_aload_n (q := 17) X (TB.get tb_X6_addAt 8 rfl) rfl rfl rfl ?_
    obtain ⟨x2, ex2, e⟩ := bs e
    refine V_getR (q := 20) X (TB.get tb_X6_addAt 9 rfl) rfl lf_RX6_19 ex2 ?_
    refine V_aload_n (q := 21) X (TB.get tb_X6_addAt 10 rfl) rfl rfl rfl ?_
    refine V_getI (q := 24) X (TB.get tb_X6_addAt 11 rfl) rfl lf_RX6_53 ex1 ?_
    refine V_lload_n (q := 25) X (TB.get tb_X6_addAt 12 rfl) rfl rfl rfl ?_
    obtain ⟨h3, eh3, e⟩ := bs e
    refine V_lastore (q := 26) X (TB.get tb_X6_addAt 13 rfl) rfl eh3 ?_
    refine V_aload_n (q := 27) X (TB.get tb_X6_addAt 14 rfl) rfl rfl rfl ?_
    obtain ⟨x4, ex4, e⟩ := bs e
    refine V_getR (q := 30) X (TB.get tb_X6_addAt 15 rfl) rfl lf_RX6_23 ex4 ?_
    refine V_aload_n (q := 31) X (TB.get tb_X6_addAt 16 rfl) rfl rfl rfl ?_
    obtain ⟨x5, ex5, e⟩ := bs e
    refine V_getI (q := 34) X (TB.get tb_X6_addAt 17 rfl) rfl lf_RX6_53 ex5 ?_
    refine V_iload (q := 36) X (TB.get tb_X6_addAt 18 rfl) rfl rfl ?_
    obtain ⟨h6, eh6, e⟩ := bs e
    refine V_iastore (q := 37) X (TB.get tb_X6_addAt 19 rfl) rfl eh6 ?_
    refine V_aload_n (q := 38) X (TB.get tb_X6_addAt 20 rfl) rfl rfl rfl ?_
    refine V_dup (q := 39) X (TB.get tb_X6_addAt 21 rfl) rfl rfl ?_
    obtain ⟨x7, ex7, e⟩ := bs e
    refine V_getI (q := 42) X (TB.get tb_X6_addAt 22 rfl) rfl lf_RX6_53 ex7 ?_
    refine V_iconst (v := 1) (q := 43) X (TB.get tb_X6_addAt 23 rfl) c_iconst_1 rfl ?_
    refine V_iadd (q := 44) X (TB.get tb_X6_addAt 24 rfl) rfl ?_
    obtain ⟨h8, eh8, e⟩ := bs e
    refine V_putI (q := 47) X (TB.get tb_X6_addAt 25 rfl) rfl lq_RX6_53 eh8 ?_
    refine V_aload_n (q := 48) X (TB.get tb_X6_addAt 26 rfl) rfl rfl rfl ?_
    obtain ⟨x9, ex9, e⟩ := bs e
    refine V_getR (q := 51) X (TB.get tb_X6_addAt 27 rfl) rfl lf_RX6_26 ex9 ?_
    refine V_iload_n (q := 52) X (TB.get tb_X6_addAt 28 rfl) rfl rfl rfl ?_
    refine V_aload_n (q := 53) X (TB.get tb_X6_addAt 29 rfl) rfl rfl rfl ?_
    obtain ⟨x10, ex10, e⟩ := bs e
    refine V_getI (q := 56) X (TB.get tb_X6_addAt 30 rfl) rfl lf_RX6_53 ex10 ?_
    obtain ⟨h11, eh11, e⟩ := bs e
    refine V_iastore (q := 57) X (TB.get tb_X6_addAt 31 rfl) rfl eh11 ?_
    cases e
    exact V_vret X hr hlk (TB.get tb_X6_addAt 32 rfl)
  · have e := (if_neg hc).symm.trans e
    refine V_aload_n (q := 11) X (TB.get tb_X6_addAt 4 rfl) rfl rfl rfl ?_
    refine V_iconst (v := 1) (q := 12) X (TB.get tb_X6_addAt 5 rfl) c_iconst_1 rfl ?_
    obtain ⟨h12, eh12, e⟩ := bs e
    refine V_putZ (q := 15) X (TB.get tb_X6_addAt 6 rfl) rfl lq_RX6_57 eh12 ?_
    cases e
    exact V_vret X hr hlk (TB.get tb_X6_addAt 7 rfl)
set_option maxRecDepth 100000 in
set_option maxHeartbeats 4000000 in
theorem ok_X6_add (fu : Nat) (a0 : Nat) (a1 : Int64) (a3 : Int32) (h : Hp) (res : Hp) (e : MX6_add fu a0 a1 a3 h = some res) : CK yX6_add cX6_add 6 none 1 [.ref a0, .long a1, .int a3] h none res ∧ (h.1 a0).1 = 6 := by
  obtain ⟨hcl, e⟩ := h_g_inv e
  refine ⟨CK_of pn_RX6 cm_X6_add (Nat.le_of_ble_eq_true rfl) ?_, hcl⟩
  intro l D tc B nn p en s m args below meth c X hr hlk
  replace X : CX p (rmD 1) s m args c cX6_add 6 RX6 D tc 1 := X
  show V p l en (rmD 1) s m args below meth c 6 D tc B nn (Ar B nn) s.heap 0 0 (MQ below (QC D tc B nn (Ar B nn) none res) args s 0 0 (Ar B nn)) h 0 [(0, .ref a0), (1, .long a1), (3, .int a3)] []
  refine V_lload_n (q := 1) X (TB.get tb_X6_add 0 rfl) rfl rfl rfl ?_
  refine V_ldc2 (v := -7046029254386353131) (q := 4) X (TB.get tb_X6_add 1 rfl) rfl kl_RX6_160 ?_
  refine V_lmul (q := 5) X (TB.get tb_X6_add 2 rfl) rfl ?_
  refine V_bipush (v := 53) (q := 7) X (TB.get tb_X6_add 3 rfl) c_bipush_53 rfl ?_
  refine V_lushr (q := 8) X (TB.get tb_X6_add 4 rfl) rfl ?_
  refine V_l2i (q := 9) X (TB.get tb_X6_add 5 rfl) rfl ?_
  refine V_istore (q := 11) (lv' := [(4, .int ((((a1 * (-7046029254386353131 : Int64)).toUInt64 >>> ((53 : Int32).toInt64.toUInt64 &&& Int64.toUInt64 63)).toInt64).toInt32)), (0, .ref a0), (1, .long a1), (3, .int a3)]) X (TB.get tb_X6_add 6 rfl) rfl (Nat.le_of_ble_eq_true rfl) rfl ?_
  refine V_iconst (v := 0) (q := 12) X (TB.get tb_X6_add 7 rfl) c_iconst_0 rfl ?_
  refine V_istore (q := 14) (lv' := [(5, .int (0 : Int32)), (4, .int ((((a1 * (-7046029254386353131 : Int64)).toUInt64 >>> ((53 : Int32).toInt64.toUInt64 &&& Int64.toUInt64 63)).toInt64).toInt32)), (0, .ref a0), (1, .long a1), (3, .int a3)]) X (TB.get tb_X6_add 8 rfl) rfl (Nat.le_of_ble_eq_true rfl) rfl ?_
  refine jn_elim (P := (fun (k : Int32 → Option (Hp)) => ∀ (v1 : Int32), k v1 = some res → V p l en (rmD 1) s m args below meth c 6 D tc B nn (Ar B nn) s.heap 0 0 (MQ below (QC D tc B nn (Ar B nn) none res) args s 0 0 (Ar B nn)) h 32 [(0, .ref a0), (1, .long a1), (3, .int a3), (4, .int v1)] [])) e ?_ (fun j2 Jj2 e => ?_)
  · intro v1 e
    refine V_aload_n (q := 33) X (TB.get tb_X6_add 17 rfl) rfl rfl rfl ?_
    refine V_iload (q := 35) X (TB.get tb_X6_add 18 rfl) rfl rfl ?_
    refine V_lload_n (q := 36) X (TB.get tb_X6_add 19 rfl) rfl rfl rfl ?_
    refine V_iload_n (q := 37) X (TB.get tb_X6_add 20 rfl) rfl rfl rfl ?_
    obtain ⟨h3, eh3, e⟩ := bs e
    refine V_callV (q := 40) (As := [.int v1, .long a1, .int a3]) (rest := []) (st' := []) X (TB.get tb_X6_add 21 rfl) rfl cv_RX6_162 (ok_X6_addAt a0 v1 a1 a3 h h3 eh3).1 (ok_X6_addAt a0 v1 a1 a3 h h3 eh3).2 (Nat.le_of_ble_eq_true rfl) rfl rfl (Nat.le_of_ble_eq_true rfl) rfl ?_
    cases e
    exact V_vret X hr hlk (TB.get tb_X6_add 22 rfl)
  refine V_sub (lv' := [(0, .ref a0), (1, .long a1), (3, .int a3), (4, .int ((((a1 * (-7046029254386353131 : Int64)).toUInt64 >>> ((53 : Int32).toInt64.toUInt64 &&& Int64.toUInt64 63)).toInt64).toInt32)), (5, .int (0 : Int32))]) [2, 3, 4, 1, 0] rfl ?_
  refine wh2_elim (P := fun v4 v5 => V p l en (rmD 1) s m args below meth c 6 D tc B nn (Ar B nn) s.heap 0 0 (MQ below (QC D tc B nn (Ar B nn) none res) args s 0 0 (Ar B nn)) h 14 [(0, .ref a0), (1, .long a1), (3, .int a3), (4, .int v4), (5, .int v5)] []) (f := fu) ?_ e
  intro self6 v4 v5 ihself6 e
  unfold MX6_add_B14 at e
  refine V_iload (q := 16) X (TB.get tb_X6_add 9 rfl) rfl rfl ?_
  refine V_sipush (v := 2048) (q := 19) X (TB.get tb_X6_add 10 rfl) c_sipush_2048 rfl ?_
  refine V_icmp_ge (q := 22) (t := 77) X (TB.get tb_X6_add 11 rfl) rfl rfl (fun hc => ?_) (fun hc => ?_)
  · have e := (if_pos hc).symm.trans e
    cases e
    exact V_vret X hr hlk (TB.get tb_X6_add 44 rfl)
  · have e := (if_neg hc).symm.trans e
    refine V_aload_n (q := 23) X (TB.get tb_X6_add 12 rfl) rfl rfl rfl ?_
    obtain ⟨x7, ex7, e⟩ := bs e
    refine V_getR (q := 26) X (TB.get tb_X6_add 13 rfl) rfl lf_RX6_26 ex7 ?_
    refine V_iload (q := 28) X (TB.get tb_X6_add 14 rfl) rfl rfl ?_
    obtain ⟨x8, ex8, e⟩ := bs e
    refine V_iaload (q := 29) X (TB.get tb_X6_add 15 rfl) rfl ex8 ?_
    refine V_if_ne (q := 32) (t := 41) X (TB.get tb_X6_add 16 rfl) rfl rfl (fun hc => ?_) (fun hc => ?_)
    · have e := (if_neg hc).symm.trans e
      refine V_aload_n (q := 42) X (TB.get tb_X6_add 23 rfl) rfl rfl rfl ?_
      obtain ⟨x9, ex9, e⟩ := bs e
      refine V_getR (q := 45) X (TB.get tb_X6_add 24 rfl) rfl lf_RX6_19 ex9 ?_
      refine V_aload_n (q := 46) X (TB.get tb_X6_add 25 rfl) rfl rfl rfl ?_
      refine V_getR (q := 49) X (TB.get tb_X6_add 26 rfl) rfl lf_RX6_26 ex7 ?_
      refine V_iload (q := 51) X (TB.get tb_X6_add 27 rfl) rfl rfl ?_
      refine V_iaload (q := 52) X (TB.get tb_X6_add 28 rfl) rfl ex8 ?_
      refine V_iconst (v := 1) (q := 53) X (TB.get tb_X6_add 29 rfl) c_iconst_1 rfl ?_
      refine V_isub (q := 54) X (TB.get tb_X6_add 30 rfl) rfl ?_
      obtain ⟨x10, ex10, e⟩ := bs e
      refine V_laload (q := 55) X (TB.get tb_X6_add 31 rfl) rfl ex10 ?_
      refine V_lload_n (q := 56) X (TB.get tb_X6_add 32 rfl) rfl rfl rfl ?_
      refine V_lcmp (q := 57) X (TB.get tb_X6_add 33 rfl) rfl ?_
      refine V_if_ne (q := 60) (t := 61) X (TB.get tb_X6_add 34 rfl) rfl rfl (fun hc => ?_) (fun hc => ?_)
      · have e := (if_neg hc).symm.trans e
        refine V_iload (q := 63) X (TB.get tb_X6_add 36 rfl) rfl rfl ?_
        refine V_iconst (v := 1) (q := 64) X (TB.get tb_X6_add 37 rfl) c_iconst_1 rfl ?_
        refine V_iadd (q := 65) X (TB.get tb_X6_add 38 rfl) rfl ?_
        refine V_sipush (v := 2048) (q := 68) X (TB.get tb_X6_add 39 rfl) c_sipush_2048 rfl ?_
        obtain ⟨x11, ex11, e⟩ := bs e
        refine V_irem (q := 69) X (TB.get tb_X6_add 40 rfl) rfl ex11 ?_
        refine V_istore (q := 71) (lv' := [(4, .int x11), (0, .ref a0), (1, .long a1), (3, .int a3), (5, .int v5)]) X (TB.get tb_X6_add 41 rfl) rfl (Nat.le_of_ble_eq_true rfl) rfl ?_
        refine V_iinc (q := 74) (v := v5 + (1 : Int32)) (lv' := [(5, .int (v5 + (1 : Int32))), (4, .int x11), (0, .ref a0), (1, .long a1), (3, .int a3)]) X (TB.get tb_X6_add 42 rfl) rfl rfl (by rw [c_iconst_1]) (Nat.le_of_ble_eq_true rfl) rfl ?_
        refine V_goto (q := 14) X (TB.get tb_X6_add 43 rfl) rfl ?_
        refine V_sub (lv' := [(0, .ref a0), (1, .long a1), (3, .int a3), (4, .int x11), (5, .int (v5 + (1 : Int32)))]) [2, 3, 4, 1, 0] rfl ?_
        exact ihself6 _ _ e
      · have e := (if_pos hc).symm.trans e
        cases e
        exact V_vret X hr hlk (TB.get tb_X6_add 35 rfl)
    · have e := (if_pos hc).symm.trans e
      refine V_sub (lv' := [(0, .ref a0), (1, .long a1), (3, .int a3), (4, .int v4)]) [0, 1, 2, 3] rfl ?_
      exact Jj2 _ e
