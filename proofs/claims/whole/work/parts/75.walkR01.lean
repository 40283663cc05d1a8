set_option maxRecDepth 100000 in
set_option maxHeartbeats 4000000 in
theorem ok_X9_readMethodLine (fu : Nat) (a0 : Nat) (a1 : Int32) (h : Hp) (res : Int32 × Hp) (e : MX9_readMethodLine fu a0 a1 h = some res) : CK yX9_readMethodLine cX9_readMethodLine 8 (some .boolean) 6 [.ref a0, .int a1] h (some (.int res.1)) res.2 ∧ (h.1 a0).1 = 9 := by
  obtain ⟨hcl, e⟩ := h_g_inv e
  refine ⟨CK_of pn_RX9 cm_X9_readMethodLine (Nat.le_of_ble_eq_true rfl) ?_, hcl⟩
  intro l D tc B nn p en s m args below meth c X hr hlk
  replace X : CX p (rmD 6) s m args c cX9_readMethodLine 8 RX9 D tc 6 := X
  show V p l en (rmD 6) s m args below meth c 8 D tc B nn (Ar B nn) s.heap 0 0 (MQ below (QC D tc B nn (Ar B nn) (some (.int res.1)) res.2) args s 0 0 (Ar B nn)) h 0 [(0, .ref a0), (1, .int a1)] []
  refine V_aload_n (q := 1) X (TB.get tb_X9_readMethodLine 0 rfl) rfl rfl rfl ?_
  obtain ⟨h1, eh1, e⟩ := bs e
  refine V_callV (q := 4) (As := []) (rest := []) (st' := []) X (TB.get tb_X9_readMethodLine 1 rfl) rfl cv_RX9_161 (ok_X9_go fu a0 h h1 eh1).1 (ok_X9_go fu a0 h h1 eh1).2 (Nat.le_of_ble_eq_true rfl) rfl rfl (Nat.le_of_ble_eq_true rfl) rfl ?_
  refine V_aload_n (q := 5) X (TB.get tb_X9_readMethodLine 2 rfl) rfl rfl rfl ?_
  obtain ⟨p2, ep2, e⟩ := bs e
  refine V_callV (q := 8) (As := []) (rest := []) (st' := [.int p2.1]) X (TB.get tb_X9_readMethodLine 3 rfl) rfl cv_RX9_182 (ok_X9_readKind fu a0 h1 p2 ep2).1 (ok_X9_readKind fu a0 h1 p2 ep2).2 (Nat.le_of_ble_eq_true rfl) rfl rfl (Nat.le_of_ble_eq_true rfl) rfl ?_
  refine V_if_ne (q := 11) (t := 13) X (TB.get tb_X9_readMethodLine 4 rfl) rfl rfl (fun hc => ?_) (fun hc => ?_)
  · have e := (if_neg hc).symm.trans e
    refine V_aload_n (q := 14) X (TB.get tb_X9_readMethodLine 7 rfl) rfl rfl rfl ?_
    obtain ⟨x3, ex3, e⟩ := bs e
    refine V_getI (q := 17) X (TB.get tb_X9_readMethodLine 8 rfl) rfl lf_RX9_172 ex3 ?_
    refine V_istore_n (q := 18) (lv' := [(2, .int x3), (0, .ref a0), (1, .int a1)]) X (TB.get tb_X9_readMethodLine 9 rfl) rfl rfl (Nat.le_of_ble_eq_true rfl) rfl ?_
    refine V_aload_n (q := 19) X (TB.get tb_X9_readMethodLine 10 rfl) rfl rfl rfl ?_
    obtain ⟨x4, ex4, e⟩ := bs e
    refine V_callV (q := 22) (As := []) (rest := []) (st' := [.int x4]) X (TB.get tb_X9_readMethodLine 11 rfl) rfl cv_RX9_164 (ok_X9_isName fu a0 p2.2 x4 ex4).1 (ok_X9_isName fu a0 p2.2 x4 ex4).2 (Nat.le_of_ble_eq_true rfl) rfl rfl (Nat.le_of_ble_eq_true rfl) rfl ?_
    refine V_if_ne (q := 25) (t := 31) X (TB.get tb_X9_readMethodLine 12 rfl) rfl rfl (fun hc => ?_) (fun hc => ?_)
    · have e := (if_neg hc).symm.trans e
      refine V_aload_n (q := 32) X (TB.get tb_X9_readMethodLine 17 rfl) rfl rfl rfl ?_
      obtain ⟨x5, ex5, e⟩ := bs e
      refine V_getR (q := 35) X (TB.get tb_X9_readMethodLine 18 rfl) rfl lf_RX9_16 ex5 ?_
      refine V_bipush (v := 11) (q := 37) X (TB.get tb_X9_readMethodLine 19 rfl) c_bipush_11 rfl ?_
      refine V_iload_n (q := 38) X (TB.get tb_X9_readMethodLine 20 rfl) rfl rfl rfl ?_
      refine V_iadd (q := 39) X (TB.get tb_X9_readMethodLine 21 rfl) rfl ?_
      obtain ⟨x6, ex6, e⟩ := bs e
      refine V_iaload (q := 40) X (TB.get tb_X9_readMethodLine 22 rfl) rfl ex6 ?_
      refine V_istore_n (q := 41) (lv' := [(3, .int x6), (2, .int x3), (0, .ref a0), (1, .int a1)]) X (TB.get tb_X9_readMethodLine 23 rfl) rfl rfl (Nat.le_of_ble_eq_true rfl) rfl ?_
      refine V_aload_n (q := 42) X (TB.get tb_X9_readMethodLine 24 rfl) rfl rfl rfl ?_
      refine V_bipush (v := 28) (q := 44) X (TB.get tb_X9_readMethodLine 25 rfl) c_bipush_28 rfl ?_
      refine V_bipush (v := 6) (q := 46) X (TB.get tb_X9_readMethodLine 26 rfl) c_bipush_6 rfl ?_
      refine V_iload_n (q := 47) X (TB.get tb_X9_readMethodLine 27 rfl) rfl rfl rfl ?_
      refine V_imul (q := 48) X (TB.get tb_X9_readMethodLine 28 rfl) rfl ?_
      refine V_iadd (q := 49) X (TB.get tb_X9_readMethodLine 29 rfl) rfl ?_
      refine V_iload_n (q := 50) X (TB.get tb_X9_readMethodLine 30 rfl) rfl rfl rfl ?_
      obtain ⟨x7, ex7, e⟩ := bs e
      refine V_callV (q := 53) (As := [.int ((28 : Int32) + ((6 : Int32) * x3)), .int x6]) (rest := []) (st' := [.int x7]) X (TB.get tb_X9_readMethodLine 31 rfl) rfl cv_RX9_168 (ok_X9_findIn fu a0 ((28 : Int32) + ((6 : Int32) * x3)) x6 p2.2 x7 ex7).1 (ok_X9_findIn fu a0 ((28 : Int32) + ((6 : Int32) * x3)) x6 p2.2 x7 ex7).2 (Nat.le_of_ble_eq_true rfl) rfl rfl (Nat.le_of_ble_eq_true rfl) rfl ?_
      refine V_istore (q := 55) (lv' := [(4, .int x7), (3, .int x6), (2, .int x3), (0, .ref a0), (1, .int a1)]) X (TB.get tb_X9_readMethodLine 32 rfl) rfl (Nat.le_of_ble_eq_true rfl) rfl ?_
      refine V_iload (q := 57) X (TB.get tb_X9_readMethodLine 33 rfl) rfl rfl ?_
      refine V_iconst (v := -1) (q := 58) X (TB.get tb_X9_readMethodLine 34 rfl) c_iconst_m1 rfl ?_
      refine jn_elim (P := (fun (k : Option (Int32 × Hp)) => k = some res → V p l en (rmD 6) s m args below meth c 8 D tc B nn (Ar B nn) s.heap 0 0 (MQ below (QC D tc B nn (Ar B nn) (some (.int res.1)) res.2) args s 0 0 (Ar B nn)) p2.2 85 [(0, .ref a0), (1, .int a1), (2, .int x3), (3, .int x6), (4, .int x7)] [])) e ?_ (fun j8 Jj8 e => ?_)
      · intro e
        refine V_iload (q := 87) X (TB.get tb_X9_readMethodLine 50 rfl) rfl rfl ?_
        refine V_iconst (v := -1) (q := 88) X (TB.get tb_X9_readMethodLine 51 rfl) c_iconst_m1 rfl ?_
        refine jn_elim (P := (fun (k : Int32 → Hp → Option (Int32 × Hp)) => ∀ (v9 : Int32) (h10 : Hp), k v9 h10 = some res → V p l en (rmD 6) s m args below meth c 8 D tc B nn (Ar B nn) s.heap 0 0 (MQ below (QC D tc B nn (Ar B nn) (some (.int res.1)) res.2) args s 0 0 (Ar B nn)) h10 203 [(0, .ref a0), (1, .int a1), (2, .int x3), (4, .int v9)] [])) e ?_ (fun j11 Jj11 e => ?_)
        · intro v9 h10 e
          refine V_aload_n (q := 204) X (TB.get tb_X9_readMethodLine 118 rfl) rfl rfl rfl ?_
          obtain ⟨h12, eh12, e⟩ := bs e
          refine V_callV (q := 207) (As := []) (rest := []) (st' := []) X (TB.get tb_X9_readMethodLine 119 rfl) rfl cv_RX9_161 (ok_X9_go fu a0 h10 h12 eh12).1 (ok_X9_go fu a0 h10 h12 eh12).2 (Nat.le_of_ble_eq_true rfl) rfl rfl (Nat.le_of_ble_eq_true rfl) rfl ?_
          refine V_aload_n (q := 208) X (TB.get tb_X9_readMethodLine 120 rfl) rfl rfl rfl ?_
          obtain ⟨x13, ex13, e⟩ := bs e
          refine V_callV (q := 211) (As := []) (rest := []) (st' := [.int x13]) X (TB.get tb_X9_readMethodLine 121 rfl) rfl cv_RX9_164 (ok_X9_isName fu a0 h12 x13 ex13).1 (ok_X9_isName fu a0 h12 x13 ex13).2 (Nat.le_of_ble_eq_true rfl) rfl rfl (Nat.le_of_ble_eq_true rfl) rfl ?_
          refine V_if_ne (q := 214) (t := 220) X (TB.get tb_X9_readMethodLine 122 rfl) rfl rfl (fun hc => ?_) (fun hc => ?_)
          · have e := (if_neg hc).symm.trans e
            refine V_aload_n (q := 221) X (TB.get tb_X9_readMethodLine 127 rfl) rfl rfl rfl ?_
            refine V_iconst (v := 4) (q := 222) X (TB.get tb_X9_readMethodLine 128 rfl) c_iconst_4 rfl ?_
            refine V_bipush (v := 6) (q := 224) X (TB.get tb_X9_readMethodLine 129 rfl) c_bipush_6 rfl ?_
            refine V_iload_n (q := 225) X (TB.get tb_X9_readMethodLine 130 rfl) rfl rfl rfl ?_
            refine V_imul (q := 226) X (TB.get tb_X9_readMethodLine 131 rfl) rfl ?_
            refine V_iadd (q := 227) X (TB.get tb_X9_readMethodLine 132 rfl) rfl ?_
            refine V_aload_n (q := 228) X (TB.get tb_X9_readMethodLine 133 rfl) rfl rfl rfl ?_
            obtain ⟨x14, ex14, e⟩ := bs e
            refine V_getR (q := 231) X (TB.get tb_X9_readMethodLine 134 rfl) rfl lf_RX9_16 ex14 ?_
            refine V_iconst (v := 3) (q := 232) X (TB.get tb_X9_readMethodLine 135 rfl) c_iconst_3 rfl ?_
            refine V_iload_n (q := 233) X (TB.get tb_X9_readMethodLine 136 rfl) rfl rfl rfl ?_
            refine V_iadd (q := 234) X (TB.get tb_X9_readMethodLine 137 rfl) rfl ?_
            obtain ⟨x15, ex15, e⟩ := bs e
            refine V_iaload (q := 235) X (TB.get tb_X9_readMethodLine 138 rfl) rfl ex15 ?_
            obtain ⟨x16, ex16, e⟩ := bs e
            refine V_callV (q := 238) (As := [.int ((4 : Int32) + ((6 : Int32) * x3)), .int x15]) (rest := []) (st' := [.int x16]) X (TB.get tb_X9_readMethodLine 139 rfl) rfl cv_RX9_168 (ok_X9_findIn fu a0 ((4 : Int32) + ((6 : Int32) * x3)) x15 h12 x16 ex16).1 (ok_X9_findIn fu a0 ((4 : Int32) + ((6 : Int32) * x3)) x15 h12 x16 ex16).2 (Nat.le_of_ble_eq_true rfl) rfl rfl (Nat.le_of_ble_eq_true rfl) rfl ?_
            refine V_istore (q := 240) (lv' := [(5, .int x16), (0, .ref a0), (1, .int a1), (2, .int x3), (4, .int v9)]) X (TB.get tb_X9_readMethodLine 140 rfl) rfl (Nat.le_of_ble_eq_true rfl) rfl ?_
            refine V_iload (q := 242) X (TB.get tb_X9_readMethodLine 141 rfl) rfl rfl ?_
            refine V_iconst (v := -1) (q := 243) X (TB.get tb_X9_readMethodLine 142 rfl) c_iconst_m1 rfl ?_
            refine V_icmp_ne (q := 246) (t := 252) X (TB.get tb_X9_readMethodLine 143 rfl) rfl rfl (fun hc => ?_) (fun hc => ?_)
            · have e := (if_neg hc).symm.trans e
              refine V_aload_n (q := 253) X (TB.get tb_X9_readMethodLine 148 rfl) rfl rfl rfl ?_
              refine V_getR (q := 256) X (TB.get tb_X9_readMethodLine 149 rfl) rfl lf_RX9_16 ex14 ?_
              refine V_bipush (v := 39) (q := 258) X (TB.get tb_X9_readMethodLine 150 rfl) c_bipush_39 rfl ?_
              refine V_iload_n (q := 259) X (TB.get tb_X9_readMethodLine 151 rfl) rfl rfl rfl ?_
              refine V_iload (q := 261) X (TB.get tb_X9_readMethodLine 152 rfl) rfl rfl ?_
              refine V_iload (q := 263) X (TB.get tb_X9_readMethodLine 153 rfl) rfl rfl ?_
              obtain ⟨x17, ex17, e⟩ := bs e
              refine V_callS (q := 266) (As := [.int (39 : Int32), .int x3, .int v9, .int x16]) (rest := [.ref x14]) (st' := [.int x17, .ref x14]) X (TB.get tb_X9_readMethodLine 154 rfl) rfl cs_RX9_191 (ok_X9_cell (39 : Int32) x3 v9 x16 h12 x17 ex17) (Nat.le_of_ble_eq_true rfl) rfl rfl (Nat.le_of_ble_eq_true rfl) rfl ?_
              obtain ⟨x18, ex18, e⟩ := bs e
              refine V_iaload (q := 267) X (TB.get tb_X9_readMethodLine 155 rfl) rfl ex18 ?_
              refine V_iconst (v := -1) (q := 268) X (TB.get tb_X9_readMethodLine 156 rfl) c_iconst_m1 rfl ?_
              refine V_icmp_eq (q := 271) (t := 277) X (TB.get tb_X9_readMethodLine 157 rfl) rfl rfl (fun hc => ?_) (fun hc => ?_)
              · have e := (if_pos hc).symm.trans e
                refine V_aload_n (q := 278) X (TB.get tb_X9_readMethodLine 162 rfl) rfl rfl rfl ?_
                obtain ⟨h19, eh19, e⟩ := bs e
                refine V_callV (q := 281) (As := []) (rest := []) (st' := []) X (TB.get tb_X9_readMethodLine 163 rfl) rfl cv_RX9_161 (ok_X9_go fu a0 h12 h19 eh19).1 (ok_X9_go fu a0 h12 h19 eh19).2 (Nat.le_of_ble_eq_true rfl) rfl rfl (Nat.le_of_ble_eq_true rfl) rfl ?_
                refine V_iload (q := 283) X (TB.get tb_X9_readMethodLine 164 rfl) rfl rfl ?_
                refine V_istore (q := 285) (lv' := [(6, .int x16), (5, .int x16), (0, .ref a0), (1, .int a1), (2, .int x3), (4, .int v9)]) X (TB.get tb_X9_readMethodLine 165 rfl) rfl (Nat.le_of_ble_eq_true rfl) rfl ?_
                refine V_iload (q := 287) X (TB.get tb_X9_readMethodLine 166 rfl) rfl rfl ?_
                refine V_istore (q := 289) (lv' := [(7, .int x16), (6, .int x16), (5, .int x16), (0, .ref a0), (1, .int a1), (2, .int x3), (4, .int v9)]) X (TB.get tb_X9_readMethodLine 167 rfl) rfl (Nat.le_of_ble_eq_true rfl) rfl ?_
                refine V_iload_n (q := 290) X (TB.get tb_X9_readMethodLine 168 rfl) rfl rfl rfl ?_
                refine V_iconst (v := 2) (q := 291) X (TB.get tb_X9_readMethodLine 169 rfl) c_iconst_2 rfl ?_
                refine jn_elim (P := (fun (k : Int32 → Int32 → Hp → Option (Int32 × Hp)) => ∀ (v20 : Int32) (v21 : Int32) (h22 : Hp), k v20 v21 h22 = some res → V p l en (rmD 6) s m args below meth c 8 D tc B nn (Ar B nn) s.heap 0 0 (MQ below (QC D tc B nn (Ar B nn) (some (.int res.1)) res.2) args s 0 0 (Ar B nn)) h22 316 [(0, .ref a0), (1, .int a1), (2, .int x3), (4, .int v9), (5, .int x16), (6, .int v20), (7, .int v21)] [])) e ?_ (fun j23 Jj23 e => ?_)
                · intro v20 v21 h22 e
                  refine V_iload_n (q := 317) X (TB.get tb_X9_readMethodLine 183 rfl) rfl rfl rfl ?_
                  refine V_iconst (v := 1) (q := 318) X (TB.get tb_X9_readMethodLine 184 rfl) c_iconst_1 rfl ?_
                  refine jn_elim (P := (fun (k : Int32 → Hp → Option (Int32 × Hp)) => ∀ (v24 : Int32) (h25 : Hp), k v24 h25 = some res → V p l en (rmD 6) s m args below meth c 8 D tc B nn (Ar B nn) s.heap 0 0 (MQ below (QC D tc B nn (Ar B nn) (some (.int res.1)) res.2) args s 0 0 (Ar B nn)) h25 337 [(0, .ref a0), (2, .int x3), (4, .int v9), (5, .int x16), (6, .int v20), (7, .int v24)] [])) e ?_ (fun j26 Jj26 e => ?_)
                  · intro v24 h25 e
                    refine V_aload_n (q := 338) X (TB.get tb_X9_readMethodLine 195 rfl) rfl rfl rfl ?_
                    obtain ⟨x27, ex27, e⟩ := bs e
                    refine V_getR (q := 341) X (TB.get tb_X9_readMethodLine 196 rfl) rfl lf_RX9_16 ex27 ?_
                    refine V_bipush (v := 39) (q := 343) X (TB.get tb_X9_readMethodLine 197 rfl) c_bipush_39 rfl ?_
                    refine V_iload_n (q := 344) X (TB.get tb_X9_readMethodLine 198 rfl) rfl rfl rfl ?_
                    refine V_iload (q := 346) X (TB.get tb_X9_readMethodLine 199 rfl) rfl rfl ?_
                    refine V_iload (q := 348) X (TB.get tb_X9_readMethodLine 200 rfl) rfl rfl ?_
                    obtain ⟨x28, ex28, e⟩ := bs e
                    refine V_callS (q := 351) (As := [.int (39 : Int32), .int x3, .int v9, .int x16]) (rest := [.ref x27]) (st' := [.int x28, .ref x27]) X (TB.get tb_X9_readMethodLine 201 rfl) rfl cs_RX9_191 (ok_X9_cell (39 : Int32) x3 v9 x16 h25 x28 ex28) (Nat.le_of_ble_eq_true rfl) rfl rfl (Nat.le_of_ble_eq_true rfl) rfl ?_
                    refine V_iload (q := 353) X (TB.get tb_X9_readMethodLine 202 rfl) rfl rfl ?_
                    obtain ⟨h29, eh29, e⟩ := bs e
                    refine V_iastore (q := 354) X (TB.get tb_X9_readMethodLine 203 rfl) rfl eh29 ?_
                    refine V_aload_n (q := 355) X (TB.get tb_X9_readMethodLine 204 rfl) rfl rfl rfl ?_
                    obtain ⟨x30, ex30, e⟩ := bs e
                    refine V_getR (q := 358) X (TB.get tb_X9_readMethodLine 205 rfl) rfl lf_RX9_16 ex30 ?_
                    refine V_sipush (v := 183) (q := 361) X (TB.get tb_X9_readMethodLine 206 rfl) c_sipush_183 rfl ?_
                    refine V_iload_n (q := 362) X (TB.get tb_X9_readMethodLine 207 rfl) rfl rfl rfl ?_
                    refine V_iload (q := 364) X (TB.get tb_X9_readMethodLine 208 rfl) rfl rfl ?_
                    refine V_iload (q := 366) X (TB.get tb_X9_readMethodLine 209 rfl) rfl rfl ?_
                    obtain ⟨x31, ex31, e⟩ := bs e
                    refine V_callS (q := 369) (As := [.int (183 : Int32), .int x3, .int v9, .int x16]) (rest := [.ref x30]) (st' := [.int x31, .ref x30]) X (TB.get tb_X9_readMethodLine 210 rfl) rfl cs_RX9_191 (ok_X9_cell (183 : Int32) x3 v9 x16 h29 x31 ex31) (Nat.le_of_ble_eq_true rfl) rfl rfl (Nat.le_of_ble_eq_true rfl) rfl ?_
                    refine V_iload (q := 371) X (TB.get tb_X9_readMethodLine 211 rfl) rfl rfl ?_
                    obtain ⟨h32, eh32, e⟩ := bs e
                    refine V_iastore (q := 372) X (TB.get tb_X9_readMethodLine 212 rfl) rfl eh32 ?_
                    refine V_aload_n (q := 373) X (TB.get tb_X9_readMethodLine 213 rfl) rfl rfl rfl ?_
                    refine V_bipush (v := 59) (q := 375) X (TB.get tb_X9_readMethodLine 214 rfl) c_bipush_59 rfl ?_
                    obtain ⟨p33, ep33, e⟩ := bs e
                    refine V_callV (q := 378) (As := [.int (59 : Int32)]) (rest := []) (st' := [.int p33.1]) X (TB.get tb_X9_readMethodLine 215 rfl) rfl cv_RX9_179 (ok_X9_eats fu a0 (59 : Int32) h32 p33 ep33).1 (ok_X9_eats fu a0 (59 : Int32) h32 p33 ep33).2 (Nat.le_of_ble_eq_true rfl) rfl rfl (Nat.le_of_ble_eq_true rfl) rfl ?_
                    obtain ⟨z34, ez34, e⟩ := bs e
                    cases e
                    exact V_zretH X hr hlk ez34 (TB.get tb_X9_readMethodLine 216 rfl)
                  refine V_icmp_ne (q := 321) (t := 337) X (TB.get tb_X9_readMethodLine 185 rfl) rfl rfl (fun hc => ?_) (fun hc => ?_)
                  · have e := (if_neg hc).symm.trans e
                    refine V_sub (lv' := [(0, .ref a0), (2, .int x3), (4, .int v9), (5, .int x16), (6, .int v20), (7, .int v21)]) [0, 2, 3, 4, 5, 6] rfl ?_
                    exact Jj26 _ _ e
                  · have e := (if_pos hc).symm.trans e
                    refine V_aload_n (q := 322) X (TB.get tb_X9_readMethodLine 186 rfl) rfl rfl rfl ?_
                    refine V_iload_n (q := 323) X (TB.get tb_X9_readMethodLine 187 rfl) rfl rfl rfl ?_
                    obtain ⟨p35, ep35, e⟩ := bs e
                    refine V_callV (q := 326) (As := [.int x3]) (rest := []) (st' := [.int p35.1]) X (TB.get tb_X9_readMethodLine 188 rfl) rfl cv_RX9_185 (ok_X9_readState fu a0 x3 h22 p35 ep35).1 (ok_X9_readState fu a0 x3 h22 p35 ep35).2 (Nat.le_of_ble_eq_true rfl) rfl rfl (Nat.le_of_ble_eq_true rfl) rfl ?_
                    refine V_if_ne (q := 329) (t := 331) X (TB.get tb_X9_readMethodLine 189 rfl) rfl rfl (fun hc => ?_) (fun hc => ?_)
                    · have e := (if_neg hc).symm.trans e
                      refine V_aload_n (q := 332) X (TB.get tb_X9_readMethodLine 192 rfl) rfl rfl rfl ?_
                      obtain ⟨x36, ex36, e⟩ := bs e
                      refine V_getI (q := 335) X (TB.get tb_X9_readMethodLine 193 rfl) rfl lf_RX9_172 ex36 ?_
                      refine V_istore (q := 337) (lv' := [(7, .int x36), (0, .ref a0), (1, .int a1), (2, .int x3), (4, .int v9), (5, .int x16), (6, .int v20)]) X (TB.get tb_X9_readMethodLine 194 rfl) rfl (Nat.le_of_ble_eq_true rfl) rfl ?_
                      refine V_sub (lv' := [(0, .ref a0), (2, .int x3), (4, .int v9), (5, .int x16), (6, .int v20), (7, .int x36)]) [1, 3, 4, 5, 6, 0] rfl ?_
                      exact Jj26 _ _ e
                    · have e := (if_pos hc).symm.trans e
                      refine V_iconst (v := 0) (q := 330) X (TB.get tb_X9_readMethodLine 190 rfl) c_iconst_0 rfl ?_
                      cases e
                      exact V_zret X hr hlk (Or.inl rfl) (TB.get tb_X9_readMethodLine 191 rfl)
                refine V_icmp_eq (q := 294) (t := 316) X (TB.get tb_X9_readMethodLine 170 rfl) rfl rfl (fun hc => ?_) (fun hc => ?_)
                · have e := (if_pos hc).symm.trans e
                  refine V_sub (lv' := [(0, .ref a0), (1, .int a1), (2, .int x3), (4, .int v9), (5, .int x16), (6, .int x16), (7, .int x16)]) [3, 4, 5, 6, 2, 1, 0] rfl ?_
                  exact Jj23 _ _ _ e
                · have e := (if_neg hc).symm.trans e
                  refine V_aload_n (q := 295) X (TB.get tb_X9_readMethodLine 171 rfl) rfl rfl rfl ?_
                  refine V_iload_n (q := 296) X (TB.get tb_X9_readMethodLine 172 rfl) rfl rfl rfl ?_
                  obtain ⟨p37, ep37, e⟩ := bs e
                  refine V_callV (q := 299) (As := [.int x3]) (rest := []) (st' := [.int p37.1]) X (TB.get tb_X9_readMethodLine 173 rfl) rfl cv_RX9_185 (ok_X9_readState fu a0 x3 h19 p37 ep37).1 (ok_X9_readState fu a0 x3 h19 p37 ep37).2 (Nat.le_of_ble_eq_true rfl) rfl rfl (Nat.le_of_ble_eq_true rfl) rfl ?_
                  refine V_if_ne (q := 302) (t := 304) X (TB.get tb_X9_readMethodLine 174 rfl) rfl rfl (fun hc => ?_) (fun hc => ?_)
                  · have e := (if_neg hc).symm.trans e
                    refine V_aload_n (q := 305) X (TB.get tb_X9_readMethodLine 177 rfl) rfl rfl rfl ?_
                    obtain ⟨x38, ex38, e⟩ := bs e
                    refine V_getI (q := 308) X (TB.get tb_X9_readMethodLine 178 rfl) rfl lf_RX9_172 ex38 ?_
                    refine V_istore (q := 310) (lv' := [(6, .int x38), (7, .int x16), (5, .int x16), (0, .ref a0), (1, .int a1), (2, .int x3), (4, .int v9)]) X (TB.get tb_X9_readMethodLine 179 rfl) rfl (Nat.le_of_ble_eq_true rfl) rfl ?_
                    refine V_aload_n (q := 311) X (TB.get tb_X9_readMethodLine 180 rfl) rfl rfl rfl ?_
                    refine V_getI (q := 314) X (TB.get tb_X9_readMethodLine 181 rfl) rfl lf_RX9_172 ex38 ?_
                    refine V_istore (q := 316) (lv' := [(7, .int x38), (6, .int x38), (5, .int x16), (0, .ref a0), (1, .int a1), (2, .int x3), (4, .int v9)]) X (TB.get tb_X9_readMethodLine 182 rfl) rfl (Nat.le_of_ble_eq_true rfl) rfl ?_
                    refine V_sub (lv' := [(0, .ref a0), (1, .int a1), (2, .int x3), (4, .int v9), (5, .int x16), (6, .int x38), (7, .int x38)]) [3, 4, 5, 6, 2, 1, 0] rfl ?_
                    exact Jj23 _ _ _ e
                  · have e := (if_pos hc).symm.trans e
                    refine V_iconst (v := 0) (q := 303) X (TB.get tb_X9_readMethodLine 175 rfl) c_iconst_0 rfl ?_
                    cases e
                    exact V_zret X hr hlk (Or.inl rfl) (TB.get tb_X9_readMethodLine 176 rfl)
              · have e := (if_neg hc).symm.trans e
                refine V_aload_n (q := 272) X (TB.get tb_X9_readMethodLine 158 rfl) rfl rfl rfl ?_
                refine V_iconst (v := 4) (q := 273) X (TB.get tb_X9_readMethodLine 159 rfl) c_iconst_4 rfl ?_
                obtain ⟨p39, ep39, e⟩ := bs e
                refine V_callV (q := 276) (As := [.int (4 : Int32)]) (rest := []) (st' := [.int p39.1]) X (TB.get tb_X9_readMethodLine 160 rfl) rfl cv_RX9_158 (ok_X9_bad a0 (4 : Int32) h12 p39 ep39).1 (ok_X9_bad a0 (4 : Int32) h12 p39 ep39).2 (Nat.le_of_ble_eq_true rfl) rfl rfl (Nat.le_of_ble_eq_true rfl) rfl ?_
                obtain ⟨z40, ez40, e⟩ := bs e
                cases e
                exact V_zretH X hr hlk ez40 (TB.get tb_X9_readMethodLine 161 rfl)
            · have e := (if_pos hc).symm.trans e
              refine V_aload_n (q := 247) X (TB.get tb_X9_readMethodLine 144 rfl) rfl rfl rfl ?_
              refine V_iconst (v := 3) (q := 248) X (TB.get tb_X9_readMethodLine 145 rfl) c_iconst_3 rfl ?_
              obtain ⟨p41, ep41, e⟩ := bs e
              refine V_callV (q := 251) (As := [.int (3 : Int32)]) (rest := []) (st' := [.int p41.1]) X (TB.get tb_X9_readMethodLine 146 rfl) rfl cv_RX9_158 (ok_X9_bad a0 (3 : Int32) h12 p41 ep41).1 (ok_X9_bad a0 (3 : Int32) h12 p41 ep41).2 (Nat.le_of_ble_eq_true rfl) rfl rfl (Nat.le_of_ble_eq_true rfl) rfl ?_
              obtain ⟨z42, ez42, e⟩ := bs e
              cases e
              exact V_zretH X hr hlk ez42 (TB.get tb_X9_readMethodLine 147 rfl)
          · have e := (if_pos hc).symm.trans e
            refine V_aload_n (q := 215) X (TB.get tb_X9_readMethodLine 123 rfl) rfl rfl rfl ?_
            refine V_iconst (v := 2) (q := 216) X (TB.get tb_X9_readMethodLine 124 rfl) c_iconst_2 rfl ?_
            obtain ⟨p43, ep43, e⟩ := bs e
            refine V_callV (q := 219) (As := [.int (2 : Int32)]) (rest := []) (st' := [.int p43.1]) X (TB.get tb_X9_readMethodLine 125 rfl) rfl cv_RX9_158 (ok_X9_bad a0 (2 : Int32) h12 p43 ep43).1 (ok_X9_bad a0 (2 : Int32) h12 p43 ep43).2 (Nat.le_of_ble_eq_true rfl) rfl rfl (Nat.le_of_ble_eq_true rfl) rfl ?_
            obtain ⟨z44, ez44, e⟩ := bs e
            cases e
            exact V_zretH X hr hlk ez44 (TB.get tb_X9_readMethodLine 126 rfl)
        refine V_icmp_ne (q := 91) (t := 203) X (TB.get tb_X9_readMethodLine 52 rfl) rfl rfl (fun hc => ?_) (fun hc => ?_)
        · have e := (if_neg hc).symm.trans e
          refine V_sub (lv' := [(0, .ref a0), (1, .int a1), (2, .int x3), (4, .int x7)]) [0, 1, 2, 4] rfl ?_
          exact Jj11 _ _ e
        · have e := (if_pos hc).symm.trans e
          refine V_iload_n (q := 92) X (TB.get tb_X9_readMethodLine 53 rfl) rfl rfl rfl ?_
          refine V_bipush (v := 6) (q := 94) X (TB.get tb_X9_readMethodLine 54 rfl) c_bipush_6 rfl ?_
          refine V_icmp_ne (q := 97) (t := 104) X (TB.get tb_X9_readMethodLine 55 rfl) rfl rfl (fun hc => ?_) (fun hc => ?_)
          · have e := (if_neg hc).symm.trans e
            refine V_iload_n (q := 105) X (TB.get tb_X9_readMethodLine 60 rfl) rfl rfl rfl ?_
            refine V_istore (q := 107) (lv' := [(4, .int x6), (0, .ref a0), (1, .int a1), (2, .int x3), (3, .int x6)]) X (TB.get tb_X9_readMethodLine 61 rfl) rfl (Nat.le_of_ble_eq_true rfl) rfl ?_
            refine V_aload_n (q := 108) X (TB.get tb_X9_readMethodLine 62 rfl) rfl rfl rfl ?_
            obtain ⟨x45, ex45, e⟩ := bs e
            refine V_getR (q := 111) X (TB.get tb_X9_readMethodLine 63 rfl) rfl lf_RX9_19 ex45 ?_
            refine V_bipush (v := 28) (q := 113) X (TB.get tb_X9_readMethodLine 64 rfl) c_bipush_28 rfl ?_
            refine V_bipush (v := 6) (q := 115) X (TB.get tb_X9_readMethodLine 65 rfl) c_bipush_6 rfl ?_
            refine V_iload_n (q := 116) X (TB.get tb_X9_readMethodLine 66 rfl) rfl rfl rfl ?_
            refine V_imul (q := 117) X (TB.get tb_X9_readMethodLine 67 rfl) rfl ?_
            refine V_iadd (q := 118) X (TB.get tb_X9_readMethodLine 68 rfl) rfl ?_
            refine V_iload (q := 120) X (TB.get tb_X9_readMethodLine 69 rfl) rfl rfl ?_
            refine V_iadd (q := 121) X (TB.get tb_X9_readMethodLine 70 rfl) rfl ?_
            refine V_aload_n (q := 122) X (TB.get tb_X9_readMethodLine 71 rfl) rfl rfl rfl ?_
            obtain ⟨x46, ex46, e⟩ := bs e
            refine V_getL (q := 125) X (TB.get tb_X9_readMethodLine 72 rfl) rfl lf_RX9_124 ex46 ?_
            obtain ⟨h47, eh47, e⟩ := bs e
            refine V_lastore (q := 126) X (TB.get tb_X9_readMethodLine 73 rfl) rfl eh47 ?_
            refine V_aload_n (q := 127) X (TB.get tb_X9_readMethodLine 74 rfl) rfl rfl rfl ?_
            obtain ⟨x48, ex48, e⟩ := bs e
            refine V_getR (q := 130) X (TB.get tb_X9_readMethodLine 75 rfl) rfl lf_RX9_16 ex48 ?_
            refine V_bipush (v := 15) (q := 132) X (TB.get tb_X9_readMethodLine 76 rfl) c_bipush_15 rfl ?_
            refine V_iload_n (q := 133) X (TB.get tb_X9_readMethodLine 77 rfl) rfl rfl rfl ?_
            refine V_iload (q := 135) X (TB.get tb_X9_readMethodLine 78 rfl) rfl rfl ?_
            obtain ⟨x49, ex49, e⟩ := bs e
            refine V_callS (q := 138) (As := [.int x3, .int x6]) (rest := [.int (15 : Int32), .ref x48]) (st' := [.int x49, .int (15 : Int32), .ref x48]) X (TB.get tb_X9_readMethodLine 79 rfl) rfl cs_RX9_188 (ok_X9_methodAt x3 x6 h47 x49 ex49) (Nat.le_of_ble_eq_true rfl) rfl rfl (Nat.le_of_ble_eq_true rfl) rfl ?_
            refine V_iadd (q := 139) X (TB.get tb_X9_readMethodLine 80 rfl) rfl ?_
            refine V_iload_n (q := 140) X (TB.get tb_X9_readMethodLine 81 rfl) rfl rfl rfl ?_
            obtain ⟨h50, eh50, e⟩ := bs e
            refine V_iastore (q := 141) X (TB.get tb_X9_readMethodLine 82 rfl) rfl eh50 ?_
            refine V_iconst (v := 0) (q := 142) X (TB.get tb_X9_readMethodLine 83 rfl) c_iconst_0 rfl ?_
            refine V_istore (q := 144) (lv' := [(5, .int (0 : Int32)), (4, .int x6), (0, .ref a0), (1, .int a1), (2, .int x3), (3, .int x6)]) X (TB.get tb_X9_readMethodLine 84 rfl) rfl (Nat.le_of_ble_eq_true rfl) rfl ?_
            refine jn_elim (P := (fun (k : Hp → Option (Int32 × Hp)) => ∀ (h51 : Hp), k h51 = some res → V p l en (rmD 6) s m args below meth c 8 D tc B nn (Ar B nn) s.heap 0 0 (MQ below (QC D tc B nn (Ar B nn) (some (.int res.1)) res.2) args s 0 0 (Ar B nn)) h51 190 [(0, .ref a0), (1, .int a1), (2, .int x3), (4, .int x6)] [])) e ?_ (fun j52 Jj52 e => ?_)
            · intro h51 e
              refine V_aload_n (q := 191) X (TB.get tb_X9_readMethodLine 108 rfl) rfl rfl rfl ?_
              obtain ⟨x53, ex53, e⟩ := bs e
              refine V_getR (q := 194) X (TB.get tb_X9_readMethodLine 109 rfl) rfl lf_RX9_16 ex53 ?_
              refine V_bipush (v := 11) (q := 196) X (TB.get tb_X9_readMethodLine 110 rfl) c_bipush_11 rfl ?_
              refine V_iload_n (q := 197) X (TB.get tb_X9_readMethodLine 111 rfl) rfl rfl rfl ?_
              refine V_iadd (q := 198) X (TB.get tb_X9_readMethodLine 112 rfl) rfl ?_
              refine V_dup2 (q := 199) X (TB.get tb_X9_readMethodLine 113 rfl) rfl rfl rfl ?_
              obtain ⟨x54, ex54, e⟩ := bs e
              refine V_iaload (q := 200) X (TB.get tb_X9_readMethodLine 114 rfl) rfl ex54 ?_
              refine V_iconst (v := 1) (q := 201) X (TB.get tb_X9_readMethodLine 115 rfl) c_iconst_1 rfl ?_
              refine V_iadd (q := 202) X (TB.get tb_X9_readMethodLine 116 rfl) rfl ?_
              obtain ⟨h55, eh55, e⟩ := bs e
              refine V_iastore (q := 203) X (TB.get tb_X9_readMethodLine 117 rfl) rfl eh55 ?_
              exact Jj11 _ _ e
            refine V_sub (lv' := [(0, .ref a0), (1, .int a1), (2, .int x3), (4, .int x6), (5, .int (0 : Int32))]) [2, 3, 4, 1, 0] rfl ?_
            refine wh2_elim (P := fun v56 h57 => V p l en (rmD 6) s m args below meth c 8 D tc B nn (Ar B nn) s.heap 0 0 (MQ below (QC D tc B nn (Ar B nn) (some (.int res.1)) res.2) args s 0 0 (Ar B nn)) h57 144 [(0, .ref a0), (1, .int a1), (2, .int x3), (4, .int x6), (5, .int v56)] []) (f := fu) ?_ e
            intro self58 v56 h57 ihself58 e
            unfold MX9_readMethodLine_B144 at e
            refine V_iload (q := 146) X (TB.get tb_X9_readMethodLine 85 rfl) rfl rfl ?_
            refine V_bipush (v := 6) (q := 148) X (TB.get tb_X9_readMethodLine 86 rfl) c_bipush_6 rfl ?_
            refine V_icmp_ge (q := 151) (t := 190) X (TB.get tb_X9_readMethodLine 87 rfl) rfl rfl (fun hc => ?_) (fun hc => ?_)
            · have e := (if_pos hc).symm.trans e
              refine V_sub (lv' := [(0, .ref a0), (1, .int a1), (2, .int x3), (4, .int x6)]) [0, 1, 2, 3] rfl ?_
              exact Jj52 _ e
            · have e := (if_neg hc).symm.trans e
              refine V_aload_n (q := 152) X (TB.get tb_X9_readMethodLine 88 rfl) rfl rfl rfl ?_
              obtain ⟨x59, ex59, e⟩ := bs e
              refine V_getR (q := 155) X (TB.get tb_X9_readMethodLine 89 rfl) rfl lf_RX9_16 ex59 ?_
              refine V_bipush (v := 39) (q := 157) X (TB.get tb_X9_readMethodLine 90 rfl) c_bipush_39 rfl ?_
              refine V_iload_n (q := 158) X (TB.get tb_X9_readMethodLine 91 rfl) rfl rfl rfl ?_
              refine V_iload (q := 160) X (TB.get tb_X9_readMethodLine 92 rfl) rfl rfl ?_
              refine V_iload (q := 162) X (TB.get tb_X9_readMethodLine 93 rfl) rfl rfl ?_
              obtain ⟨x60, ex60, e⟩ := bs e
              refine V_callS (q := 165) (As := [.int (39 : Int32), .int x3, .int x6, .int v56]) (rest := [.ref x59]) (st' := [.int x60, .ref x59]) X (TB.get tb_X9_readMethodLine 94 rfl) rfl cs_RX9_191 (ok_X9_cell (39 : Int32) x3 x6 v56 h57 x60 ex60) (Nat.le_of_ble_eq_true rfl) rfl rfl (Nat.le_of_ble_eq_true rfl) rfl ?_
              refine V_iconst (v := -1) (q := 166) X (TB.get tb_X9_readMethodLine 95 rfl) c_iconst_m1 rfl ?_
              obtain ⟨h61, eh61, e⟩ := bs e
              refine V_iastore (q := 167) X (TB.get tb_X9_readMethodLine 96 rfl) rfl eh61 ?_
              refine V_aload_n (q := 168) X (TB.get tb_X9_readMethodLine 97 rfl) rfl rfl rfl ?_
              obtain ⟨x62, ex62, e⟩ := bs e
              refine V_getR (q := 171) X (TB.get tb_X9_readMethodLine 98 rfl) rfl lf_RX9_16 ex62 ?_
              refine V_sipush (v := 183) (q := 174) X (TB.get tb_X9_readMethodLine 99 rfl) c_sipush_183 rfl ?_
              refine V_iload_n (q := 175) X (TB.get tb_X9_readMethodLine 100 rfl) rfl rfl rfl ?_
              refine V_iload (q := 177) X (TB.get tb_X9_readMethodLine 101 rfl) rfl rfl ?_
              refine V_iload (q := 179) X (TB.get tb_X9_readMethodLine 102 rfl) rfl rfl ?_
              obtain ⟨x63, ex63, e⟩ := bs e
              refine V_callS (q := 182) (As := [.int (183 : Int32), .int x3, .int x6, .int v56]) (rest := [.ref x62]) (st' := [.int x63, .ref x62]) X (TB.get tb_X9_readMethodLine 103 rfl) rfl cs_RX9_191 (ok_X9_cell (183 : Int32) x3 x6 v56 h61 x63 ex63) (Nat.le_of_ble_eq_true rfl) rfl rfl (Nat.le_of_ble_eq_true rfl) rfl ?_
              refine V_iconst (v := -1) (q := 183) X (TB.get tb_X9_readMethodLine 104 rfl) c_iconst_m1 rfl ?_
              obtain ⟨h64, eh64, e⟩ := bs e
              refine V_iastore (q := 184) X (TB.get tb_X9_readMethodLine 105 rfl) rfl eh64 ?_
              refine V_iinc (q := 187) (v := v56 + (1 : Int32)) (lv' := [(5, .int (v56 + (1 : Int32))), (0, .ref a0), (1, .int a1), (2, .int x3), (4, .int x6)]) X (TB.get tb_X9_readMethodLine 106 rfl) rfl rfl (by rw [c_iconst_1]) (Nat.le_of_ble_eq_true rfl) rfl ?_
              refine V_goto (q := 144) X (TB.get tb_X9_readMethodLine 107 rfl) rfl ?_
              refine V_sub (lv' := [(0, .ref a0), (1, .int a1), (2, .int x3), (4, .int x6), (5, .int (v56 + (1 : Int32)))]) [1, 2, 3, 4, 0] rfl ?_
              exact ihself58 _ _ e
          · have e := (if_pos hc).symm.trans e
            refine V_aload_n (q := 98) X (TB.get tb_X9_readMethodLine 56 rfl) rfl rfl rfl ?_
            refine V_bipush (v := 6) (q := 100) X (TB.get tb_X9_readMethodLine 57 rfl) c_bipush_6 rfl ?_
            obtain ⟨p65, ep65, e⟩ := bs e
            refine V_callV (q := 103) (As := [.int (6 : Int32)]) (rest := []) (st' := [.int p65.1]) X (TB.get tb_X9_readMethodLine 58 rfl) rfl cv_RX9_158 (ok_X9_bad a0 (6 : Int32) p2.2 p65 ep65).1 (ok_X9_bad a0 (6 : Int32) p2.2 p65 ep65).2 (Nat.le_of_ble_eq_true rfl) rfl rfl (Nat.le_of_ble_eq_true rfl) rfl ?_
            obtain ⟨z66, ez66, e⟩ := bs e
            cases e
            exact V_zretH X hr hlk ez66 (TB.get tb_X9_readMethodLine 59 rfl)
      refine V_icmp_eq (q := 61) (t := 85) X (TB.get tb_X9_readMethodLine 35 rfl) rfl rfl (fun hc => ?_) (fun hc => ?_)
      · have e := (if_pos hc).symm.trans e
        refine V_sub (lv' := [(0, .ref a0), (1, .int a1), (2, .int x3), (3, .int x6), (4, .int x7)]) [3, 4, 2, 1, 0] rfl ?_
        exact Jj8 e
      · have e := (if_neg hc).symm.trans e
        refine V_aload_n (q := 62) X (TB.get tb_X9_readMethodLine 36 rfl) rfl rfl rfl ?_
        refine V_getR (q := 65) X (TB.get tb_X9_readMethodLine 37 rfl) rfl lf_RX9_16 ex5 ?_
        refine V_bipush (v := 15) (q := 67) X (TB.get tb_X9_readMethodLine 38 rfl) c_bipush_15 rfl ?_
        refine V_iload_n (q := 68) X (TB.get tb_X9_readMethodLine 39 rfl) rfl rfl rfl ?_
        refine V_iload (q := 70) X (TB.get tb_X9_readMethodLine 40 rfl) rfl rfl ?_
        obtain ⟨x67, ex67, e⟩ := bs e
        refine V_callS (q := 73) (As := [.int x3, .int x7]) (rest := [.int (15 : Int32), .ref x5]) (st' := [.int x67, .int (15 : Int32), .ref x5]) X (TB.get tb_X9_readMethodLine 41 rfl) rfl cs_RX9_188 (ok_X9_methodAt x3 x7 p2.2 x67 ex67) (Nat.le_of_ble_eq_true rfl) rfl rfl (Nat.le_of_ble_eq_true rfl) rfl ?_
        refine V_iadd (q := 74) X (TB.get tb_X9_readMethodLine 42 rfl) rfl ?_
        obtain ⟨x68, ex68, e⟩ := bs e
        refine V_iaload (q := 75) X (TB.get tb_X9_readMethodLine 43 rfl) rfl ex68 ?_
        refine V_iload_n (q := 76) X (TB.get tb_X9_readMethodLine 44 rfl) rfl rfl rfl ?_
        refine V_icmp_eq (q := 79) (t := 85) X (TB.get tb_X9_readMethodLine 45 rfl) rfl rfl (fun hc => ?_) (fun hc => ?_)
        · have e := (if_pos hc).symm.trans e
          refine V_sub (lv' := [(0, .ref a0), (1, .int a1), (2, .int x3), (3, .int x6), (4, .int x7)]) [3, 4, 2, 1, 0] rfl ?_
          exact Jj8 e
        · have e := (if_neg hc).symm.trans e
          refine V_aload_n (q := 80) X (TB.get tb_X9_readMethodLine 46 rfl) rfl rfl rfl ?_
          refine V_iconst (v := 5) (q := 81) X (TB.get tb_X9_readMethodLine 47 rfl) c_iconst_5 rfl ?_
          obtain ⟨p69, ep69, e⟩ := bs e
          refine V_callV (q := 84) (As := [.int (5 : Int32)]) (rest := []) (st' := [.int p69.1]) X (TB.get tb_X9_readMethodLine 48 rfl) rfl cv_RX9_158 (ok_X9_bad a0 (5 : Int32) p2.2 p69 ep69).1 (ok_X9_bad a0 (5 : Int32) p2.2 p69 ep69).2 (Nat.le_of_ble_eq_true rfl) rfl rfl (Nat.le_of_ble_eq_true rfl) rfl ?_
          obtain ⟨z70, ez70, e⟩ := bs e
          cases e
          exact V_zretH X hr hlk ez70 (TB.get tb_X9_readMethodLine 49 rfl)
    · have e := (if_pos hc).symm.trans e
      refine V_aload_n (q := 26) X (TB.get tb_X9_readMethodLine 13 rfl) rfl rfl rfl ?_
      refine V_iconst (v := 2) (q := 27) X (TB.get tb_X9_readMethodLine 14 rfl) c_iconst_2 rfl ?_
      obtain ⟨p71, ep71, e⟩ := bs e
      refine V_callV (q := 30) (As := [.int (2 : Int32)]) (rest := []) (st' := [.int p71.1]) X (TB.get tb_X9_readMethodLine 15 rfl) rfl cv_RX9_158 (ok_X9_bad a0 (2 : Int32) p2.2 p71 ep71).1 (ok_X9_bad a0 (2 : Int32) p2.2 p71 ep71).2 (Nat.le_of_ble_eq_true rfl) rfl rfl (Nat.le_of_ble_eq_true rfl) rfl ?_
      obtain ⟨z72, ez72, e⟩ := bs e
      cases e
      exact V_zretH X hr hlk ez72 (TB.get tb_X9_readMethodLine 16 rfl)
  · have e := (if_pos hc).symm.trans e
    refine V_iconst (v := 0) (q := 12) X (TB.get tb_X9_readMethodLine 5 rfl) c_iconst_0 rfl ?_
    cases e
    exact V_zret X hr hlk (Or.inl rfl) (TB.get tb_X9_readMethodLine 6 rfl)
set_option maxRecDepth 100000 in
set_option maxHeartbeats 4000000 in
theorem ok_X9_readVarLine (fu : Nat) (a0 : Nat) (h : Hp) (res : Int32 × Hp) (e : MX9_readVarLine fu a0 h = some res) : CK yX9_readVarLine cX9_readVarLine 2 (some .boolean) 6 [.ref a0] h (some (.int res.1)) res.2 ∧ (h.1 a0).1 = 9 := by
  obtain ⟨hcl, e⟩ := h_g_inv e
  refine ⟨CK_of pn_RX9 cm_X9_readVarLine (Nat.le_of_ble_eq_true rfl) ?_, hcl⟩
  intro l D tc B nn p en s m args below meth c X hr hlk
  replace X : CX p (rmD 6) s m args c cX9_readVarLine 2 RX9 D tc 6 := X
  show V p l en (rmD 6) s m args below meth c 2 D tc B nn (Ar B nn) s.heap 0 0 (MQ below (QC D tc B nn (Ar B nn) (some (.int res.1)) res.2) args s 0 0 (Ar B nn)) h 0 [(0, .ref a0)] []
  refine V_aload_n (q := 1) X (TB.get tb_X9_readVarLine 0 rfl) rfl rfl rfl ?_
  obtain ⟨x1, ex1, e⟩ := bs e
  refine V_getR (q := 4) X (TB.get tb_X9_readVarLine 1 rfl) rfl lf_RX9_16 ex1 ?_
  refine V_iconst (v := 1) (q := 5) X (TB.get tb_X9_readVarLine 2 rfl) c_iconst_1 rfl ?_
  obtain ⟨x2, ex2, e⟩ := bs e
  refine V_iaload (q := 6) X (TB.get tb_X9_readVarLine 3 rfl) rfl ex2 ?_
  refine V_istore_n (q := 7) (lv' := [(1, .int x2), (0, .ref a0)]) X (TB.get tb_X9_readVarLine 4 rfl) rfl rfl (Nat.le_of_ble_eq_true rfl) rfl ?_
  refine V_iload_n (q := 8) X (TB.get tb_X9_readVarLine 5 rfl) rfl rfl rfl ?_
  refine V_bipush (v := 6) (q := 10) X (TB.get tb_X9_readVarLine 6 rfl) c_bipush_6 rfl ?_
  refine V_icmp_ne (q := 13) (t := 20) X (TB.get tb_X9_readVarLine 7 rfl) rfl rfl (fun hc => ?_) (fun hc => ?_)
  · have e := (if_neg hc).symm.trans e
    refine V_aload_n (q := 21) X (TB.get tb_X9_readVarLine 12 rfl) rfl rfl rfl ?_
    obtain ⟨h3, eh3, e⟩ := bs e
    refine V_callV (q := 24) (As := []) (rest := []) (st' := []) X (TB.get tb_X9_readVarLine 13 rfl) rfl cv_RX9_161 (ok_X9_go fu a0 h h3 eh3).1 (ok_X9_go fu a0 h h3 eh3).2 (Nat.le_of_ble_eq_true rfl) rfl rfl (Nat.le_of_ble_eq_true rfl) rfl ?_
    refine V_aload_n (q := 25) X (TB.get tb_X9_readVarLine 14 rfl) rfl rfl rfl ?_
    obtain ⟨x4, ex4, e⟩ := bs e
    refine V_callV (q := 28) (As := []) (rest := []) (st' := [.int x4]) X (TB.get tb_X9_readVarLine 15 rfl) rfl cv_RX9_164 (ok_X9_isName fu a0 h3 x4 ex4).1 (ok_X9_isName fu a0 h3 x4 ex4).2 (Nat.le_of_ble_eq_true rfl) rfl rfl (Nat.le_of_ble_eq_true rfl) rfl ?_
    refine V_if_ne (q := 31) (t := 37) X (TB.get tb_X9_readVarLine 16 rfl) rfl rfl (fun hc => ?_) (fun hc => ?_)
    · have e := (if_neg hc).symm.trans e
      refine V_aload_n (q := 38) X (TB.get tb_X9_readVarLine 21 rfl) rfl rfl rfl ?_
      refine V_bipush (v := 52) (q := 40) X (TB.get tb_X9_readVarLine 22 rfl) c_bipush_52 rfl ?_
      refine V_iload_n (q := 41) X (TB.get tb_X9_readVarLine 23 rfl) rfl rfl rfl ?_
      obtain ⟨x5, ex5, e⟩ := bs e
      refine V_callV (q := 44) (As := [.int (52 : Int32), .int x2]) (rest := []) (st' := [.int x5]) X (TB.get tb_X9_readVarLine 24 rfl) rfl cv_RX9_168 (ok_X9_findIn fu a0 (52 : Int32) x2 h3 x5 ex5).1 (ok_X9_findIn fu a0 (52 : Int32) x2 h3 x5 ex5).2 (Nat.le_of_ble_eq_true rfl) rfl rfl (Nat.le_of_ble_eq_true rfl) rfl ?_
      refine V_iconst (v := -1) (q := 45) X (TB.get tb_X9_readVarLine 25 rfl) c_iconst_m1 rfl ?_
      refine V_icmp_eq (q := 48) (t := 54) X (TB.get tb_X9_readVarLine 26 rfl) rfl rfl (fun hc => ?_) (fun hc => ?_)
      · have e := (if_pos hc).symm.trans e
        refine V_aload_n (q := 55) X (TB.get tb_X9_readVarLine 31 rfl) rfl rfl rfl ?_
        obtain ⟨x6, ex6, e⟩ := bs e
        refine V_getR (q := 58) X (TB.get tb_X9_readVarLine 32 rfl) rfl lf_RX9_19 ex6 ?_
        refine V_bipush (v := 52) (q := 60) X (TB.get tb_X9_readVarLine 33 rfl) c_bipush_52 rfl ?_
        refine V_iload_n (q := 61) X (TB.get tb_X9_readVarLine 34 rfl) rfl rfl rfl ?_
        refine V_iadd (q := 62) X (TB.get tb_X9_readVarLine 35 rfl) rfl ?_
        refine V_aload_n (q := 63) X (TB.get tb_X9_readVarLine 36 rfl) rfl rfl rfl ?_
        obtain ⟨x7, ex7, e⟩ := bs e
        refine V_getL (q := 66) X (TB.get tb_X9_readVarLine 37 rfl) rfl lf_RX9_124 ex7 ?_
        obtain ⟨h8, eh8, e⟩ := bs e
        refine V_lastore (q := 67) X (TB.get tb_X9_readVarLine 38 rfl) rfl eh8 ?_
        refine V_aload_n (q := 68) X (TB.get tb_X9_readVarLine 39 rfl) rfl rfl rfl ?_
        obtain ⟨h9, eh9, e⟩ := bs e
        refine V_callV (q := 71) (As := []) (rest := []) (st' := []) X (TB.get tb_X9_readVarLine 40 rfl) rfl cv_RX9_161 (ok_X9_go fu a0 h8 h9 eh9).1 (ok_X9_go fu a0 h8 h9 eh9).2 (Nat.le_of_ble_eq_true rfl) rfl rfl (Nat.le_of_ble_eq_true rfl) rfl ?_
        refine V_aload_n (q := 72) X (TB.get tb_X9_readVarLine 41 rfl) rfl rfl rfl ?_
        obtain ⟨p10, ep10, e⟩ := bs e
        refine V_callV (q := 75) (As := []) (rest := []) (st' := [.int p10.1]) X (TB.get tb_X9_readVarLine 42 rfl) rfl cv_RX9_182 (ok_X9_readKind fu a0 h9 p10 ep10).1 (ok_X9_readKind fu a0 h9 p10 ep10).2 (Nat.le_of_ble_eq_true rfl) rfl rfl (Nat.le_of_ble_eq_true rfl) rfl ?_
        refine V_if_ne (q := 78) (t := 80) X (TB.get tb_X9_readVarLine 43 rfl) rfl rfl (fun hc => ?_) (fun hc => ?_)
        · have e := (if_neg hc).symm.trans e
          refine V_aload_n (q := 81) X (TB.get tb_X9_readVarLine 46 rfl) rfl rfl rfl ?_
          obtain ⟨x11, ex11, e⟩ := bs e
          refine V_getR (q := 84) X (TB.get tb_X9_readVarLine 47 rfl) rfl lf_RX9_16 ex11 ?_
          refine V_sipush (v := 327) (q := 87) X (TB.get tb_X9_readVarLine 48 rfl) c_sipush_327 rfl ?_
          refine V_iload_n (q := 88) X (TB.get tb_X9_readVarLine 49 rfl) rfl rfl rfl ?_
          refine V_iadd (q := 89) X (TB.get tb_X9_readVarLine 50 rfl) rfl ?_
          refine V_aload_n (q := 90) X (TB.get tb_X9_readVarLine 51 rfl) rfl rfl rfl ?_
          obtain ⟨x12, ex12, e⟩ := bs e
          refine V_getI (q := 93) X (TB.get tb_X9_readVarLine 52 rfl) rfl lf_RX9_172 ex12 ?_
          obtain ⟨h13, eh13, e⟩ := bs e
          refine V_iastore (q := 94) X (TB.get tb_X9_readVarLine 53 rfl) rfl eh13 ?_
          refine V_aload_n (q := 95) X (TB.get tb_X9_readVarLine 54 rfl) rfl rfl rfl ?_
          obtain ⟨x14, ex14, e⟩ := bs e
          refine V_getR (q := 98) X (TB.get tb_X9_readVarLine 55 rfl) rfl lf_RX9_16 ex14 ?_
          refine V_iconst (v := 1) (q := 99) X (TB.get tb_X9_readVarLine 56 rfl) c_iconst_1 rfl ?_
          refine V_dup2 (q := 100) X (TB.get tb_X9_readVarLine 57 rfl) rfl rfl rfl ?_
          obtain ⟨x15, ex15, e⟩ := bs e
          refine V_iaload (q := 101) X (TB.get tb_X9_readVarLine 58 rfl) rfl ex15 ?_
          refine V_iconst (v := 1) (q := 102) X (TB.get tb_X9_readVarLine 59 rfl) c_iconst_1 rfl ?_
          refine V_iadd (q := 103) X (TB.get tb_X9_readVarLine 60 rfl) rfl ?_
          obtain ⟨h16, eh16, e⟩ := bs e
          refine V_iastore (q := 104) X (TB.get tb_X9_readVarLine 61 rfl) rfl eh16 ?_
          refine V_aload_n (q := 105) X (TB.get tb_X9_readVarLine 62 rfl) rfl rfl rfl ?_
          refine V_bipush (v := 59) (q := 107) X (TB.get tb_X9_readVarLine 63 rfl) c_bipush_59 rfl ?_
          obtain ⟨p17, ep17, e⟩ := bs e
          refine V_callV (q := 110) (As := [.int (59 : Int32)]) (rest := []) (st' := [.int p17.1]) X (TB.get tb_X9_readVarLine 64 rfl) rfl cv_RX9_179 (ok_X9_eats fu a0 (59 : Int32) h16 p17 ep17).1 (ok_X9_eats fu a0 (59 : Int32) h16 p17 ep17).2 (Nat.le_of_ble_eq_true rfl) rfl rfl (Nat.le_of_ble_eq_true rfl) rfl ?_
          obtain ⟨z18, ez18, e⟩ := bs e
          cases e
          exact V_zretH X hr hlk ez18 (TB.get tb_X9_readVarLine 65 rfl)
        · have e := (if_pos hc).symm.trans e
          refine V_iconst (v := 0) (q := 79) X (TB.get tb_X9_readVarLine 44 rfl) c_iconst_0 rfl ?_
          cases e
          exact V_zret X hr hlk (Or.inl rfl) (TB.get tb_X9_readVarLine 45 rfl)
      · have e := (if_neg hc).symm.trans e
        refine V_aload_n (q := 49) X (TB.get tb_X9_readVarLine 27 rfl) rfl rfl rfl ?_
        refine V_iconst (v := 4) (q := 50) X (TB.get tb_X9_readVarLine 28 rfl) c_iconst_4 rfl ?_
        obtain ⟨p19, ep19, e⟩ := bs e
        refine V_callV (q := 53) (As := [.int (4 : Int32)]) (rest := []) (st' := [.int p19.1]) X (TB.get tb_X9_readVarLine 29 rfl) rfl cv_RX9_158 (ok_X9_bad a0 (4 : Int32) h3 p19 ep19).1 (ok_X9_bad a0 (4 : Int32) h3 p19 ep19).2 (Nat.le_of_ble_eq_true rfl) rfl rfl (Nat.le_of_ble_eq_true rfl) rfl ?_
        obtain ⟨z20, ez20, e⟩ := bs e
        cases e
        exact V_zretH X hr hlk ez20 (TB.get tb_X9_readVarLine 30 rfl)
    · have e := (if_pos hc).symm.trans e
      refine V_aload_n (q := 32) X (TB.get tb_X9_readVarLine 17 rfl) rfl rfl rfl ?_
      refine V_iconst (v := 2) (q := 33) X (TB.get tb_X9_readVarLine 18 rfl) c_iconst_2 rfl ?_
      obtain ⟨p21, ep21, e⟩ := bs e
      refine V_callV (q := 36) (As := [.int (2 : Int32)]) (rest := []) (st' := [.int p21.1]) X (TB.get tb_X9_readVarLine 19 rfl) rfl cv_RX9_158 (ok_X9_bad a0 (2 : Int32) h3 p21 ep21).1 (ok_X9_bad a0 (2 : Int32) h3 p21 ep21).2 (Nat.le_of_ble_eq_true rfl) rfl rfl (Nat.le_of_ble_eq_true rfl) rfl ?_
      obtain ⟨z22, ez22, e⟩ := bs e
      cases e
      exact V_zretH X hr hlk ez22 (TB.get tb_X9_readVarLine 20 rfl)
  · have e := (if_pos hc).symm.trans e
    refine V_aload_n (q := 14) X (TB.get tb_X9_readVarLine 8 rfl) rfl rfl rfl ?_
    refine V_bipush (v := 6) (q := 16) X (TB.get tb_X9_readVarLine 9 rfl) c_bipush_6 rfl ?_
    obtain ⟨p23, ep23, e⟩ := bs e
    refine V_callV (q := 19) (As := [.int (6 : Int32)]) (rest := []) (st' := [.int p23.1]) X (TB.get tb_X9_readVarLine 10 rfl) rfl cv_RX9_158 (ok_X9_bad a0 (6 : Int32) h p23 ep23).1 (ok_X9_bad a0 (6 : Int32) h p23 ep23).2 (Nat.le_of_ble_eq_true rfl) rfl rfl (Nat.le_of_ble_eq_true rfl) rfl ?_
    obtain ⟨z24, ez24, e⟩ := bs e
    cases e
    exact V_zretH X hr hlk ez24 (TB.get tb_X9_readVarLine 11 rfl)
set_option maxRecDepth 100000 in
set_option maxHeartbeats 4000000 in
theorem ok_X9_readLine (fu : Nat) (a0 : Nat) (a1 : Int32) (h : Hp) (res : Int32 × Hp) (e : MX9_readLine fu a0 a1 h = some res) : CK yX9_readLine cX9_readLine 2 (some .boolean) 7 [.ref a0, .int a1] h (some (.int res.1)) res.2 ∧ (h.1 a0).1 = 9 := by
  obtain ⟨hcl, e⟩ := h_g_inv e
  refine ⟨CK_of pn_RX9 cm_X9_readLine (Nat.le_of_ble_eq_true rfl) ?_, hcl⟩
  intro l D tc B nn p en s m args below meth c X hr hlk
  replace X : CX p (rmD 7) s m args c cX9_readLine 2 RX9 D tc 7 := X
  show V p l en (rmD 7) s m args below meth c 2 D tc B nn (Ar B nn) s.heap 0 0 (MQ below (QC D tc B nn (Ar B nn) (some (.int res.1)) res.2) args s 0 0 (Ar B nn)) h 0 [(0, .ref a0), (1, .int a1)] []
  refine V_iload_n (q := 1) X (TB.get tb_X9_readLine 0 rfl) rfl rfl rfl ?_
  by_cases hc0 : a1 = (0 : Int32)
  · have e := (if_pos hc0).symm.trans e
    rw [hc0]
    refine V_tabIn (q := 36) X (TB.get tb_X9_readLine 1 rfl) (by decide) (by decide) rfl rfl ?_
    refine V_aload_n (q := 37) X (TB.get tb_X9_readLine 2 rfl) rfl rfl rfl ?_
    obtain ⟨p1, ep1, e⟩ := bs e
    refine V_callV (q := 40) (As := []) (rest := []) (st' := [.int p1.1]) X (TB.get tb_X9_readLine 3 rfl) rfl cv_RX9_195 (ok_X9_readKindLine fu a0 h p1 ep1).1 (ok_X9_readKindLine fu a0 h p1 ep1).2 (Nat.le_of_ble_eq_true rfl) rfl rfl (Nat.le_of_ble_eq_true rfl) rfl ?_
    obtain ⟨z2, ez2, e⟩ := bs e
    cases e
    exact V_zretH X hr hlk ez2 (TB.get tb_X9_readLine 4 rfl)
  have e := (if_neg hc0).symm.trans e
  by_cases hc1 : a1 = (1 : Int32)
  · have e := (if_pos hc1).symm.trans e
    rw [hc1]
    refine V_tabIn (q := 41) X (TB.get tb_X9_readLine 1 rfl) (by decide) (by decide) rfl rfl ?_
    refine V_aload_n (q := 42) X (TB.get tb_X9_readLine 5 rfl) rfl rfl rfl ?_
    obtain ⟨p3, ep3, e⟩ := bs e
    refine V_callV (q := 45) (As := []) (rest := []) (st' := [.int p3.1]) X (TB.get tb_X9_readLine 6 rfl) rfl cv_RX9_198 (ok_X9_readEndLine fu a0 h p3 ep3).1 (ok_X9_readEndLine fu a0 h p3 ep3).2 (Nat.le_of_ble_eq_true rfl) rfl rfl (Nat.le_of_ble_eq_true rfl) rfl ?_
    obtain ⟨z4, ez4, e⟩ := bs e
    cases e
    exact V_zretH X hr hlk ez4 (TB.get tb_X9_readLine 7 rfl)
  have e := (if_neg hc1).symm.trans e
  by_cases hc2 : a1 = (2 : Int32)
  · have e := (if_pos hc2).symm.trans e
    rw [hc2]
    refine V_tabIn (q := 46) X (TB.get tb_X9_readLine 1 rfl) (by decide) (by decide) rfl rfl ?_
    refine V_aload_n (q := 47) X (TB.get tb_X9_readLine 8 rfl) rfl rfl rfl ?_
    refine V_iconst (v := 0) (q := 48) X (TB.get tb_X9_readLine 9 rfl) c_iconst_0 rfl ?_
    obtain ⟨p5, ep5, e⟩ := bs e
    refine V_callV (q := 51) (As := [.int (0 : Int32)]) (rest := []) (st' := [.int p5.1]) X (TB.get tb_X9_readLine 10 rfl) rfl cv_RX9_201 (ok_X9_readMethodLine fu a0 (0 : Int32) h p5 ep5).1 (ok_X9_readMethodLine fu a0 (0 : Int32) h p5 ep5).2 (Nat.le_of_ble_eq_true rfl) rfl rfl (Nat.le_of_ble_eq_true rfl) rfl ?_
    obtain ⟨z6, ez6, e⟩ := bs e
    cases e
    exact V_zretH X hr hlk ez6 (TB.get tb_X9_readLine 11 rfl)
  have e := (if_neg hc2).symm.trans e
  by_cases hc3 : a1 = (3 : Int32)
  · have e := (if_pos hc3).symm.trans e
    rw [hc3]
    refine V_tabIn (q := 52) X (TB.get tb_X9_readLine 1 rfl) (by decide) (by decide) rfl rfl ?_
    refine V_aload_n (q := 53) X (TB.get tb_X9_readLine 12 rfl) rfl rfl rfl ?_
    refine V_iconst (v := 1) (q := 54) X (TB.get tb_X9_readLine 13 rfl) c_iconst_1 rfl ?_
    obtain ⟨p7, ep7, e⟩ := bs e
    refine V_callV (q := 57) (As := [.int (1 : Int32)]) (rest := []) (st' := [.int p7.1]) X (TB.get tb_X9_readLine 14 rfl) rfl cv_RX9_201 (ok_X9_readMethodLine fu a0 (1 : Int32) h p7 ep7).1 (ok_X9_readMethodLine fu a0 (1 : Int32) h p7 ep7).2 (Nat.le_of_ble_eq_true rfl) rfl rfl (Nat.le_of_ble_eq_true rfl) rfl ?_
    obtain ⟨z8, ez8, e⟩ := bs e
    cases e
    exact V_zretH X hr hlk ez8 (TB.get tb_X9_readLine 15 rfl)
  have e := (if_neg hc3).symm.trans e
  by_cases hc4 : a1 = (4 : Int32)
  · have e := (if_pos hc4).symm.trans e
    rw [hc4]
    refine V_tabIn (q := 58) X (TB.get tb_X9_readLine 1 rfl) (by decide) (by decide) rfl rfl ?_
    refine V_aload_n (q := 59) X (TB.get tb_X9_readLine 16 rfl) rfl rfl rfl ?_
    refine V_iconst (v := 2) (q := 60) X (TB.get tb_X9_readLine 17 rfl) c_iconst_2 rfl ?_
    obtain ⟨p9, ep9, e⟩ := bs e
    refine V_callV (q := 63) (As := [.int (2 : Int32)]) (rest := []) (st' := [.int p9.1]) X (TB.get tb_X9_readLine 18 rfl) rfl cv_RX9_201 (ok_X9_readMethodLine fu a0 (2 : Int32) h p9 ep9).1 (ok_X9_readMethodLine fu a0 (2 : Int32) h p9 ep9).2 (Nat.le_of_ble_eq_true rfl) rfl rfl (Nat.le_of_ble_eq_true rfl) rfl ?_
    obtain ⟨z10, ez10, e⟩ := bs e
    cases e
    exact V_zretH X hr hlk ez10 (TB.get tb_X9_readLine 19 rfl)
  have e := (if_neg hc4).symm.trans e
  have hout : a1.toInt < 0 ∨ 4 < a1.toInt := tab_out a1 (0) (4) [0, 1, 2, 3, 4] (by decide +kernel) (fun v hv => by simp only [List.mem_cons, List.not_mem_nil, or_false] at hv; rcases hv with rfl | rfl | rfl | rfl | rfl <;> assumption)
  refine V_tabOut (q := 64) X (TB.get tb_X9_readLine 1 rfl) hout rfl ?_
  refine V_aload_n (q := 65) X (TB.get tb_X9_readLine 20 rfl) rfl rfl rfl ?_
  obtain ⟨p11, ep11, e⟩ := bs e
  refine V_callV (q := 68) (As := []) (rest := []) (st' := [.int p11.1]) X (TB.get tb_X9_readLine 21 rfl) rfl cv_RX9_204 (ok_X9_readVarLine fu a0 h p11 ep11).1 (ok_X9_readVarLine fu a0 h p11 ep11).2 (Nat.le_of_ble_eq_true rfl) rfl rfl (Nat.le_of_ble_eq_true rfl) rfl ?_
  obtain ⟨z12, ez12, e⟩ := bs e
  cases e
  exact V_zretH X hr hlk ez12 (TB.get tb_X9_readLine 22 rfl)
set_option maxRecDepth 100000 in
set_option maxHeartbeats 4000000 in
theorem ok_X9_readText (fu : Nat) (a0 : Nat) (h : Hp) (res : Int32 × Hp) (e : MX9_readText fu a0 h = some res) : CK yX9_readText cX9_readText 1 (some .boolean) 21 [.ref a0] h (some (.int res.1)) res.2 ∧ (h.1 a0).1 = 9 := by
  obtain ⟨hcl, e⟩ := h_g_inv e
  refine ⟨CK_of pn_RX9 cm_X9_readText (Nat.le_of_ble_eq_true rfl) ?_, hcl⟩
  intro l D tc B nn p en s m args below meth c X hr hlk
  replace X : CX p (rmD 21) s m args c cX9_readText 1 RX9 D tc 21 := X
  show V p l en (rmD 21) s m args below meth c 1 D tc B nn (Ar B nn) s.heap 0 0 (MQ below (QC D tc B nn (Ar B nn) (some (.int res.1)) res.2) args s 0 0 (Ar B nn)) h 0 [(0, .ref a0)] []
  refine jn_elim (P := (fun (k : Hp → Option (Int32 × Hp)) => ∀ (h1 : Hp), k h1 = some res → V p l en (rmD 21) s m args below meth c 1 D tc B nn (Ar B nn) s.heap 0 0 (MQ below (QC D tc B nn (Ar B nn) (some (.int res.1)) res.2) args s 0 0 (Ar B nn)) h1 36 [(0, .ref a0)] [])) e ?_ (fun j2 Jj2 e => ?_)
  · intro h1 e
    refine wh1_elim (P := fun h3 => V p l en (rmD 21) s m args below meth c 1 D tc B nn (Ar B nn) s.heap 0 0 (MQ below (QC D tc B nn (Ar B nn) (some (.int res.1)) res.2) args s 0 0 (Ar B nn)) h3 36 [(0, .ref a0)] []) (f := fu) ?_ e
    intro self4 h3 ihself4 e
    unfold MX9_readText_B36 at e
    refine V_aload_n (q := 37) X (TB.get tb_X9_readText 18 rfl) rfl rfl rfl ?_
    obtain ⟨x5, ex5, e⟩ := bs e
    refine V_getI (q := 40) X (TB.get tb_X9_readText 19 rfl) rfl lf_RX9_117 ex5 ?_
    refine V_if_eq (q := 43) (t := 55) X (TB.get tb_X9_readText 20 rfl) rfl rfl (fun hc => ?_) (fun hc => ?_)
    · have e := (if_pos hc).symm.trans e
      refine V_iconst (v := 1) (q := 56) X (TB.get tb_X9_readText 29 rfl) c_iconst_1 rfl ?_
      cases e
      exact V_zret X hr hlk (Or.inr rfl) (TB.get tb_X9_readText 30 rfl)
    · have e := (if_neg hc).symm.trans e
      refine V_aload_n (q := 44) X (TB.get tb_X9_readText 21 rfl) rfl rfl rfl ?_
      refine V_iconst (v := -1) (q := 45) X (TB.get tb_X9_readText 22 rfl) c_iconst_m1 rfl ?_
      refine V_iconst (v := 0) (q := 46) X (TB.get tb_X9_readText 23 rfl) c_iconst_0 rfl ?_
      refine V_iconst (v := 0) (q := 47) X (TB.get tb_X9_readText 24 rfl) c_iconst_0 rfl ?_
      obtain ⟨p6, ep6, e⟩ := bs e
      refine V_callV (q := 50) (As := [.int (-1 : Int32), .int (0 : Int32), .int (0 : Int32)]) (rest := []) (st' := [.int p6.1]) X (TB.get tb_X9_readText 25 rfl) rfl cv_RX9_233 (ok_X9_readStatement fu a0 (-1 : Int32) (0 : Int32) (0 : Int32) h3 p6 ep6).1 (ok_X9_readStatement fu a0 (-1 : Int32) (0 : Int32) (0 : Int32) h3 p6 ep6).2 (Nat.le_of_ble_eq_true rfl) rfl rfl (Nat.le_of_ble_eq_true rfl) rfl ?_
      refine V_if_ne (q := 53) (t := 36) X (TB.get tb_X9_readText 26 rfl) rfl rfl (fun hc => ?_) (fun hc => ?_)
      · have e := (if_neg hc).symm.trans e
        exact ihself4 _ e
      · have e := (if_pos hc).symm.trans e
        refine V_iconst (v := 0) (q := 54) X (TB.get tb_X9_readText 27 rfl) c_iconst_0 rfl ?_
        cases e
        exact V_zret X hr hlk (Or.inl rfl) (TB.get tb_X9_readText 28 rfl)
  refine wh1_elim (P := fun h7 => V p l en (rmD 21) s m args below meth c 1 D tc B nn (Ar B nn) s.heap 0 0 (MQ below (QC D tc B nn (Ar B nn) (some (.int res.1)) res.2) args s 0 0 (Ar B nn)) h7 0 [(0, .ref a0)] []) (f := fu) ?_ e
  intro self8 h7 ihself8 e
  unfold MX9_readText_B0 at e
  refine V_aload_n (q := 1) X (TB.get tb_X9_readText 0 rfl) rfl rfl rfl ?_
  obtain ⟨x9, ex9, e⟩ := bs e
  refine V_getI (q := 4) X (TB.get tb_X9_readText 1 rfl) rfl lf_RX9_117 ex9 ?_
  refine V_iconst (v := 2) (q := 5) X (TB.get tb_X9_readText 2 rfl) c_iconst_2 rfl ?_
  refine V_icmp_ne (q := 8) (t := 36) X (TB.get tb_X9_readText 3 rfl) rfl rfl (fun hc => ?_) (fun hc => ?_)
  · have e := (if_neg hc).symm.trans e
    exact Jj2 _ e
  · have e := (if_pos hc).symm.trans e
    refine V_aload_n (q := 9) X (TB.get tb_X9_readText 4 rfl) rfl rfl rfl ?_
    obtain ⟨x10, ex10, e⟩ := bs e
    refine V_callV (q := 12) (As := []) (rest := []) (st' := [.int x10]) X (TB.get tb_X9_readText 5 rfl) rfl cv_RX9_145 (ok_X9_wordHere fu a0 h7 x10 ex10).1 (ok_X9_wordHere fu a0 h7 x10 ex10).2 (Nat.le_of_ble_eq_true rfl) rfl rfl (Nat.le_of_ble_eq_true rfl) rfl ?_
    refine V_if_lt (q := 15) (t := 36) X (TB.get tb_X9_readText 6 rfl) rfl rfl (fun hc => ?_) (fun hc => ?_)
    · have e := (if_pos hc).symm.trans e
      exact Jj2 _ e
    · have e := (if_neg hc).symm.trans e
      refine V_aload_n (q := 16) X (TB.get tb_X9_readText 7 rfl) rfl rfl rfl ?_
      refine V_callV (q := 19) (As := []) (rest := []) (st' := [.int x10]) X (TB.get tb_X9_readText 8 rfl) rfl cv_RX9_145 (ok_X9_wordHere fu a0 h7 x10 ex10).1 (ok_X9_wordHere fu a0 h7 x10 ex10).2 (Nat.le_of_ble_eq_true rfl) rfl rfl (Nat.le_of_ble_eq_true rfl) rfl ?_
      refine V_iconst (v := 5) (q := 20) X (TB.get tb_X9_readText 9 rfl) c_iconst_5 rfl ?_
      refine V_icmp_gt (q := 23) (t := 36) X (TB.get tb_X9_readText 10 rfl) rfl rfl (fun hc => ?_) (fun hc => ?_)
      · have e := (if_pos hc).symm.trans e
        exact Jj2 _ e
      · have e := (if_neg hc).symm.trans e
        refine V_aload_n (q := 24) X (TB.get tb_X9_readText 11 rfl) rfl rfl rfl ?_
        refine V_aload_n (q := 25) X (TB.get tb_X9_readText 12 rfl) rfl rfl rfl ?_
        refine V_callV (q := 28) (As := []) (rest := [.ref a0]) (st' := [.int x10, .ref a0]) X (TB.get tb_X9_readText 13 rfl) rfl cv_RX9_145 (ok_X9_wordHere fu a0 h7 x10 ex10).1 (ok_X9_wordHere fu a0 h7 x10 ex10).2 (Nat.le_of_ble_eq_true rfl) rfl rfl (Nat.le_of_ble_eq_true rfl) rfl ?_
        obtain ⟨p11, ep11, e⟩ := bs e
        refine V_callV (q := 31) (As := [.int x10]) (rest := []) (st' := [.int p11.1]) X (TB.get tb_X9_readText 14 rfl) rfl cv_RX9_236 (ok_X9_readLine fu a0 x10 h7 p11 ep11).1 (ok_X9_readLine fu a0 x10 h7 p11 ep11).2 (Nat.le_of_ble_eq_true rfl) rfl rfl (Nat.le_of_ble_eq_true rfl) rfl ?_
        refine V_if_ne (q := 34) (t := 0) X (TB.get tb_X9_readText 15 rfl) rfl rfl (fun hc => ?_) (fun hc => ?_)
        · have e := (if_neg hc).symm.trans e
          exact ihself8 _ e
        · have e := (if_pos hc).symm.trans e
          refine V_iconst (v := 0) (q := 35) X (TB.get tb_X9_readText 16 rfl) c_iconst_0 rfl ?_
          cases e
          exact V_zret X hr hlk (Or.inl rfl) (TB.get tb_X9_readText 17 rfl)
set_option maxRecDepth 100000 in
set_option maxHeartbeats 4000000 in
theorem ok_X9_load (fu : Nat) (a0 : Nat) (a1 : Int32) (h : Hp) (res : Int32 × Hp) (e : MX9_load fu a0 a1 h = some res) : CK yX9_load cX9_load 4 (some .int) 22 [.ref a0, .int a1] h (some (.int res.1)) res.2 ∧ (h.1 a0).1 = 9 := by
  obtain ⟨hcl, e⟩ := h_g_inv e
  refine ⟨CK_of pn_RX9 cm_X9_load (Nat.le_of_ble_eq_true rfl) ?_, hcl⟩
  intro l D tc B nn p en s m args below meth c X hr hlk
  replace X : CX p (rmD 22) s m args c cX9_load 4 RX9 D tc 22 := X
  show V p l en (rmD 22) s m args below meth c 4 D tc B nn (Ar B nn) s.heap 0 0 (MQ below (QC D tc B nn (Ar B nn) (some (.int res.1)) res.2) args s 0 0 (Ar B nn)) h 0 [(0, .ref a0), (1, .int a1)] []
  refine V_iload_n (q := 1) X (TB.get tb_X9_load 0 rfl) rfl rfl rfl ?_
  refine V_iconst (v := 0) (q := 2) X (TB.get tb_X9_load 1 rfl) c_iconst_0 rfl ?_
  refine V_aload_n (q := 3) X (TB.get tb_X9_load 2 rfl) rfl rfl rfl ?_
  obtain ⟨x1, ex1, e⟩ := bs e
  refine V_getI (q := 6) X (TB.get tb_X9_load 3 rfl) rfl lf_RX9_97 ex1 ?_
  obtain ⟨x2, ex2, e⟩ := bs e
  refine V_callS (q := 9) (As := [.int a1, .int (0 : Int32), .int x1]) (rest := []) (st' := [.int x2]) X (TB.get tb_X9_load 4 rfl) rfl cs_RX9_239 (ok_X9_isFrom a1 (0 : Int32) x1 h x2 ex2) (Nat.le_of_ble_eq_true rfl) rfl rfl (Nat.le_of_ble_eq_true rfl) rfl ?_
  refine V_if_ne (q := 12) (t := 18) X (TB.get tb_X9_load 5 rfl) rfl rfl (fun hc => ?_) (fun hc => ?_)
  · have e := (if_neg hc).symm.trans e
    refine V_aload_n (q := 19) X (TB.get tb_X9_load 10 rfl) rfl rfl rfl ?_
    refine V_iload_n (q := 20) X (TB.get tb_X9_load 11 rfl) rfl rfl rfl ?_
    obtain ⟨h3, eh3, e⟩ := bs e
    refine V_putI (q := 23) X (TB.get tb_X9_load 12 rfl) rfl lq_RX9_104 eh3 ?_
    refine V_aload_n (q := 24) X (TB.get tb_X9_load 13 rfl) rfl rfl rfl ?_
    refine V_iconst (v := 0) (q := 25) X (TB.get tb_X9_load 14 rfl) c_iconst_0 rfl ?_
    obtain ⟨h4, eh4, e⟩ := bs e
    refine V_putI (q := 28) X (TB.get tb_X9_load 15 rfl) rfl lq_RX9_97 eh4 ?_
    refine V_aload_n (q := 29) X (TB.get tb_X9_load 16 rfl) rfl rfl rfl ?_
    refine V_iconst (v := 0) (q := 30) X (TB.get tb_X9_load 17 rfl) c_iconst_0 rfl ?_
    obtain ⟨h5, eh5, e⟩ := bs e
    refine V_putI (q := 33) X (TB.get tb_X9_load 18 rfl) rfl lq_RX9_107 eh5 ?_
    refine V_aload_n (q := 34) X (TB.get tb_X9_load 19 rfl) rfl rfl rfl ?_
    refine V_iconst (v := 0) (q := 35) X (TB.get tb_X9_load 20 rfl) c_iconst_0 rfl ?_
    obtain ⟨h6, eh6, e⟩ := bs e
    refine V_putI (q := 38) X (TB.get tb_X9_load 21 rfl) rfl lq_RX9_149 eh6 ?_
    refine V_aload_n (q := 39) X (TB.get tb_X9_load 22 rfl) rfl rfl rfl ?_
    refine V_iconst (v := -1) (q := 40) X (TB.get tb_X9_load 23 rfl) c_iconst_m1 rfl ?_
    obtain ⟨h7, eh7, e⟩ := bs e
    refine V_putI (q := 43) X (TB.get tb_X9_load 24 rfl) rfl lq_RX9_152 eh7 ?_
    refine V_aload_n (q := 44) X (TB.get tb_X9_load 25 rfl) rfl rfl rfl ?_
    obtain ⟨x8, ex8, e⟩ := bs e
    refine V_getR (q := 47) X (TB.get tb_X9_load 26 rfl) rfl lf_RX9_16 ex8 ?_
    refine V_iconst (v := 0) (q := 48) X (TB.get tb_X9_load 27 rfl) c_iconst_0 rfl ?_
    refine V_iconst (v := 0) (q := 49) X (TB.get tb_X9_load 28 rfl) c_iconst_0 rfl ?_
    obtain ⟨h9, eh9, e⟩ := bs e
    refine V_iastore (q := 50) X (TB.get tb_X9_load 29 rfl) rfl eh9 ?_
    refine V_aload_n (q := 51) X (TB.get tb_X9_load 30 rfl) rfl rfl rfl ?_
    obtain ⟨x10, ex10, e⟩ := bs e
    refine V_getR (q := 54) X (TB.get tb_X9_load 31 rfl) rfl lf_RX9_16 ex10 ?_
    refine V_iconst (v := 1) (q := 55) X (TB.get tb_X9_load 32 rfl) c_iconst_1 rfl ?_
    refine V_iconst (v := 0) (q := 56) X (TB.get tb_X9_load 33 rfl) c_iconst_0 rfl ?_
    obtain ⟨h11, eh11, e⟩ := bs e
    refine V_iastore (q := 57) X (TB.get tb_X9_load 34 rfl) rfl eh11 ?_
    refine V_aload_n (q := 58) X (TB.get tb_X9_load 35 rfl) rfl rfl rfl ?_
    obtain ⟨x12, ex12, e⟩ := bs e
    refine V_getR (q := 61) X (TB.get tb_X9_load 36 rfl) rfl lf_RX9_16 ex12 ?_
    refine V_iconst (v := 2) (q := 62) X (TB.get tb_X9_load 37 rfl) c_iconst_2 rfl ?_
    refine V_iconst (v := 0) (q := 63) X (TB.get tb_X9_load 38 rfl) c_iconst_0 rfl ?_
    obtain ⟨h13, eh13, e⟩ := bs e
    refine V_iastore (q := 64) X (TB.get tb_X9_load 39 rfl) rfl eh13 ?_
    refine V_aload_n (q := 65) X (TB.get tb_X9_load 40 rfl) rfl rfl rfl ?_
    obtain ⟨h14, eh14, e⟩ := bs e
    refine V_callV (q := 68) (As := []) (rest := []) (st' := []) X (TB.get tb_X9_load 41 rfl) rfl cv_RX9_161 (ok_X9_go fu a0 h13 h14 eh14).1 (ok_X9_go fu a0 h13 h14 eh14).2 (Nat.le_of_ble_eq_true rfl) rfl rfl (Nat.le_of_ble_eq_true rfl) rfl ?_
    refine V_aload_n (q := 69) X (TB.get tb_X9_load 42 rfl) rfl rfl rfl ?_
    obtain ⟨p15, ep15, e⟩ := bs e
    refine V_callV (q := 72) (As := []) (rest := []) (st' := [.int p15.1]) X (TB.get tb_X9_load 43 rfl) rfl cv_RX9_245 (ok_X9_readText fu a0 h14 p15 ep15).1 (ok_X9_readText fu a0 h14 p15 ep15).2 (Nat.le_of_ble_eq_true rfl) rfl rfl (Nat.le_of_ble_eq_true rfl) rfl ?_
    refine V_istore_n (q := 73) (lv' := [(2, .int p15.1), (0, .ref a0), (1, .int a1)]) X (TB.get tb_X9_load 44 rfl) rfl rfl (Nat.le_of_ble_eq_true rfl) rfl ?_
    refine V_aload_n (q := 74) X (TB.get tb_X9_load 45 rfl) rfl rfl rfl ?_
    refine V_aload_n (q := 75) X (TB.get tb_X9_load 46 rfl) rfl rfl rfl ?_
    obtain ⟨x16, ex16, e⟩ := bs e
    refine V_getI (q := 78) X (TB.get tb_X9_load 47 rfl) rfl lf_RX9_149 ex16 ?_
    obtain ⟨h17, eh17, e⟩ := bs e
    refine V_putI (q := 81) X (TB.get tb_X9_load 48 rfl) rfl lq_RX9_23 eh17 ?_
    refine V_aload_n (q := 82) X (TB.get tb_X9_load 49 rfl) rfl rfl rfl ?_
    refine V_aload_n (q := 83) X (TB.get tb_X9_load 50 rfl) rfl rfl rfl ?_
    obtain ⟨x18, ex18, e⟩ := bs e
    refine V_getI (q := 86) X (TB.get tb_X9_load 51 rfl) rfl lf_RX9_152 ex18 ?_
    obtain ⟨h19, eh19, e⟩ := bs e
    refine V_putI (q := 89) X (TB.get tb_X9_load 52 rfl) rfl lq_RX9_27 eh19 ?_
    refine V_iload_n (q := 90) X (TB.get tb_X9_load 53 rfl) rfl rfl rfl ?_
    refine V_if_ne (q := 93) (t := 100) X (TB.get tb_X9_load 54 rfl) rfl rfl (fun hc => ?_) (fun hc => ?_)
    · have e := (if_neg hc).symm.trans e
      refine V_iconst (v := 0) (q := 101) X (TB.get tb_X9_load 59 rfl) c_iconst_0 rfl ?_
      refine V_istore_n (q := 102) (lv' := [(3, .int (0 : Int32)), (2, .int p15.1), (0, .ref a0), (1, .int a1)]) X (TB.get tb_X9_load 60 rfl) rfl rfl (Nat.le_of_ble_eq_true rfl) rfl ?_
      refine jn_elim (P := (fun (k : Hp → Option (Int32 × Hp)) => ∀ (h20 : Hp), k h20 = some res → V p l en (rmD 22) s m args below meth c 4 D tc B nn (Ar B nn) s.heap 0 0 (MQ below (QC D tc B nn (Ar B nn) (some (.int res.1)) res.2) args s 0 0 (Ar B nn)) h20 127 [(0, .ref a0)] [])) e ?_ (fun j21 Jj21 e => ?_)
      · intro h20 e
        refine V_aload_n (q := 128) X (TB.get tb_X9_load 74 rfl) rfl rfl rfl ?_
        refine V_aload_n (q := 129) X (TB.get tb_X9_load 75 rfl) rfl rfl rfl ?_
        obtain ⟨x22, ex22, e⟩ := bs e
        refine V_getR (q := 132) X (TB.get tb_X9_load 76 rfl) rfl lf_RX9_13 ex22 ?_
        refine V_iconst (v := 2) (q := 133) X (TB.get tb_X9_load 77 rfl) c_iconst_2 rfl ?_
        obtain ⟨x23, ex23, e⟩ := bs e
        refine V_iaload (q := 134) X (TB.get tb_X9_load 78 rfl) rfl ex23 ?_
        obtain ⟨p24, ep24, e⟩ := bs e
        refine V_callV (q := 137) (As := [.int x23]) (rest := []) (st' := [.int p24.1]) X (TB.get tb_X9_load 79 rfl) rfl cv_RX9_248 (ok_X9_gives a0 x23 h20 p24 ep24).1 (ok_X9_gives a0 x23 h20 p24 ep24).2 (Nat.le_of_ble_eq_true rfl) rfl rfl (Nat.le_of_ble_eq_true rfl) rfl ?_
        cases e
        exact V_iret X hr hlk (TB.get tb_X9_load 80 rfl)
      refine V_sub (lv' := [(0, .ref a0), (3, .int (0 : Int32))]) [2, 0] rfl ?_
      refine wh2_elim (P := fun v25 h26 => V p l en (rmD 22) s m args below meth c 4 D tc B nn (Ar B nn) s.heap 0 0 (MQ below (QC D tc B nn (Ar B nn) (some (.int res.1)) res.2) args s 0 0 (Ar B nn)) h26 102 [(0, .ref a0), (3, .int v25)] []) (f := fu) ?_ e
      intro self27 v25 h26 ihself27 e
      unfold MX9_load_B102 at e
      refine V_iload_n (q := 103) X (TB.get tb_X9_load 61 rfl) rfl rfl rfl ?_
      refine V_sipush (v := 573) (q := 106) X (TB.get tb_X9_load 62 rfl) c_sipush_573 rfl ?_
      refine V_icmp_ge (q := 109) (t := 127) X (TB.get tb_X9_load 63 rfl) rfl rfl (fun hc => ?_) (fun hc => ?_)
      · have e := (if_pos hc).symm.trans e
        refine V_sub (lv' := [(0, .ref a0)]) [0] rfl ?_
        exact Jj21 _ e
      · have e := (if_neg hc).symm.trans e
        refine V_aload_n (q := 110) X (TB.get tb_X9_load 64 rfl) rfl rfl rfl ?_
        obtain ⟨x28, ex28, e⟩ := bs e
        refine V_getR (q := 113) X (TB.get tb_X9_load 65 rfl) rfl lf_RX9_13 ex28 ?_
        refine V_iload_n (q := 114) X (TB.get tb_X9_load 66 rfl) rfl rfl rfl ?_
        refine V_aload_n (q := 115) X (TB.get tb_X9_load 67 rfl) rfl rfl rfl ?_
        obtain ⟨x29, ex29, e⟩ := bs e
        refine V_getR (q := 118) X (TB.get tb_X9_load 68 rfl) rfl lf_RX9_16 ex29 ?_
        refine V_iload_n (q := 119) X (TB.get tb_X9_load 69 rfl) rfl rfl rfl ?_
        obtain ⟨x30, ex30, e⟩ := bs e
        refine V_iaload (q := 120) X (TB.get tb_X9_load 70 rfl) rfl ex30 ?_
        obtain ⟨h31, eh31, e⟩ := bs e
        refine V_iastore (q := 121) X (TB.get tb_X9_load 71 rfl) rfl eh31 ?_
        refine V_iinc (q := 124) (v := v25 + (1 : Int32)) (lv' := [(3, .int (v25 + (1 : Int32))), (0, .ref a0)]) X (TB.get tb_X9_load 72 rfl) rfl rfl (by rw [c_iconst_1]) (Nat.le_of_ble_eq_true rfl) rfl ?_
        refine V_goto (q := 102) X (TB.get tb_X9_load 73 rfl) rfl ?_
        refine V_sub (lv' := [(0, .ref a0), (3, .int (v25 + (1 : Int32)))]) [1, 0] rfl ?_
        exact ihself27 _ _ e
    · have e := (if_pos hc).symm.trans e
      refine V_aload_n (q := 94) X (TB.get tb_X9_load 55 rfl) rfl rfl rfl ?_
      refine V_bipush (v := 9) (q := 96) X (TB.get tb_X9_load 56 rfl) c_bipush_9 rfl ?_
      obtain ⟨p32, ep32, e⟩ := bs e
      refine V_callV (q := 99) (As := [.int (9 : Int32)]) (rest := []) (st' := [.int p32.1]) X (TB.get tb_X9_load 57 rfl) rfl cv_RX9_242 (ok_X9_refuse a0 (9 : Int32) h19 p32 ep32).1 (ok_X9_refuse a0 (9 : Int32) h19 p32 ep32).2 (Nat.le_of_ble_eq_true rfl) rfl rfl (Nat.le_of_ble_eq_true rfl) rfl ?_
      cases e
      exact V_iret X hr hlk (TB.get tb_X9_load 58 rfl)
  · have e := (if_pos hc).symm.trans e
    refine V_aload_n (q := 13) X (TB.get tb_X9_load 6 rfl) rfl rfl rfl ?_
    refine V_iconst (v := 1) (q := 14) X (TB.get tb_X9_load 7 rfl) c_iconst_1 rfl ?_
    obtain ⟨p33, ep33, e⟩ := bs e
    refine V_callV (q := 17) (As := [.int (1 : Int32)]) (rest := []) (st' := [.int p33.1]) X (TB.get tb_X9_load 8 rfl) rfl cv_RX9_242 (ok_X9_refuse a0 (1 : Int32) h p33 ep33).1 (ok_X9_refuse a0 (1 : Int32) h p33 ep33).2 (Nat.le_of_ble_eq_true rfl) rfl rfl (Nat.le_of_ble_eq_true rfl) rfl ?_
    cases e
    exact V_iret X hr hlk (TB.get tb_X9_load 9 rfl)
set_option maxRecDepth 100000 in
set_option maxHeartbeats 4000000 in
theorem ok_X9_fault (a0 : Nat) (a1 : Int32) (h : Hp) (res : Int32) (e : MX9_fault a0 a1 h = some res) : CK yX9_fault cX9_fault 2 (some .int) 0 [.ref a0, .int a1] h (some (.int res)) h ∧ (h.1 a0).1 = 9 := by
  obtain ⟨hcl, e⟩ := h_g_inv e
  refine ⟨CK_of pn_RX9 cm_X9_fault (Nat.le_of_ble_eq_true rfl) ?_, hcl⟩
  intro l D tc B nn p en s m args below meth c X hr hlk
  replace X : CX p (rmD 0) s m args c cX9_fault 2 RX9 D tc 0 := X
  show V p l en (rmD 0) s m args below meth c 2 D tc B nn (Ar B nn) s.heap 0 0 (MQ below (QC D tc B nn (Ar B nn) (some (.int res)) h) args s 0 0 (Ar B nn)) h 0 [(0, .ref a0), (1, .int a1)] []
  refine V_iload_n (q := 1) X (TB.get tb_X9_fault 0 rfl) rfl rfl rfl ?_
  refine V_if_ne (q := 4) (t := 11) X (TB.get tb_X9_fault 1 rfl) rfl rfl (fun hc => ?_) (fun hc => ?_)
  · have e := (if_neg hc).symm.trans e
    refine V_iload_n (q := 12) X (TB.get tb_X9_fault 5 rfl) rfl rfl rfl ?_
    refine V_iconst (v := 1) (q := 13) X (TB.get tb_X9_fault 6 rfl) c_iconst_1 rfl ?_
    refine V_icmp_ne (q := 16) (t := 23) X (TB.get tb_X9_fault 7 rfl) rfl rfl (fun hc => ?_) (fun hc => ?_)
    · have e := (if_neg hc).symm.trans e
      refine V_iconst (v := -1) (q := 24) X (TB.get tb_X9_fault 11 rfl) c_iconst_m1 rfl ?_
      cases e
      exact V_iret X hr hlk (TB.get tb_X9_fault 12 rfl)
    · have e := (if_pos hc).symm.trans e
      refine V_aload_n (q := 17) X (TB.get tb_X9_fault 8 rfl) rfl rfl rfl ?_
      obtain ⟨x1, ex1, e⟩ := bs e
      refine V_getI (q := 20) X (TB.get tb_X9_fault 9 rfl) rfl lf_RX9_27 ex1 ?_
      refine V_goto (q := 24) X (TB.get tb_X9_fault 10 rfl) rfl ?_
      cases e
      exact V_iret X hr hlk (TB.get tb_X9_fault 12 rfl)
  · have e := (if_pos hc).symm.trans e
    refine V_aload_n (q := 5) X (TB.get tb_X9_fault 2 rfl) rfl rfl rfl ?_
    obtain ⟨x2, ex2, e⟩ := bs e
    refine V_getI (q := 8) X (TB.get tb_X9_fault 3 rfl) rfl lf_RX9_23 ex2 ?_
    refine V_goto (q := 24) X (TB.get tb_X9_fault 4 rfl) rfl ?_
    cases e
    exact V_iret X hr hlk (TB.get tb_X9_fault 12 rfl)
set_option maxRecDepth 100000 in
set_option maxHeartbeats 4000000 in
theorem ok_X9_isKind (a0 : Nat) (a1 : Int32) (h : Hp) (res : Int32) (e : MX9_isKind a0 a1 h = some res) : CK yX9_isKind cX9_isKind 2 (some .boolean) 1 [.ref a0, .int a1] h (some (.int res)) h ∧ (h.1 a0).1 = 9 := by
  obtain ⟨hcl, e⟩ := h_g_inv e
  refine ⟨CK_of pn_RX9 cm_X9_isKind (Nat.le_of_ble_eq_true rfl) ?_, hcl⟩
  intro l D tc B nn p en s m args below meth c X hr hlk
  replace X : CX p (rmD 1) s m args c cX9_isKind 2 RX9 D tc 1 := X
  show V p l en (rmD 1) s m args below meth c 2 D tc B nn (Ar B nn) s.heap 0 0 (MQ below (QC D tc B nn (Ar B nn) (some (.int res)) h) args s 0 0 (Ar B nn)) h 0 [(0, .ref a0), (1, .int a1)] []
  refine V_iload_n (q := 1) X (TB.get tb_X9_isKind 0 rfl) rfl rfl rfl ?_
  refine V_iconst (v := 0) (q := 2) X (TB.get tb_X9_isKind 1 rfl) c_iconst_0 rfl ?_
  refine V_aload_n (q := 3) X (TB.get tb_X9_isKind 2 rfl) rfl rfl rfl ?_
  obtain ⟨x1, ex1, e⟩ := bs e
  refine V_getR (q := 6) X (TB.get tb_X9_isKind 3 rfl) rfl lf_RX9_13 ex1 ?_
  refine V_iconst (v := 0) (q := 7) X (TB.get tb_X9_isKind 4 rfl) c_iconst_0 rfl ?_
  obtain ⟨x2, ex2, e⟩ := bs e
  refine V_iaload (q := 8) X (TB.get tb_X9_isKind 5 rfl) rfl ex2 ?_
  refine V_iconst (v := 1) (q := 9) X (TB.get tb_X9_isKind 6 rfl) c_iconst_1 rfl ?_
  refine V_isub (q := 10) X (TB.get tb_X9_isKind 7 rfl) rfl ?_
  obtain ⟨x3, ex3, e⟩ := bs e
  refine V_callS (q := 13) (As := [.int a1, .int (0 : Int32), .int (x2 - (1 : Int32))]) (rest := []) (st' := [.int x3]) X (TB.get tb_X9_isKind 8 rfl) rfl cs_RX9_239 (ok_X9_isFrom a1 (0 : Int32) (x2 - (1 : Int32)) h x3 ex3) (Nat.le_of_ble_eq_true rfl) rfl rfl (Nat.le_of_ble_eq_true rfl) rfl ?_
  obtain ⟨z4, ez4, e⟩ := bs e
  cases e
  exact V_zretH X hr hlk ez4 (TB.get tb_X9_isKind 9 rfl)
set_option maxRecDepth 100000 in
set_option maxHeartbeats 4000000 in
theorem ok_X9_isState (a0 : Nat) (a1 : Int32) (a2 : Int32) (h : Hp) (res : Int32) (e : MX9_isState a0 a1 a2 h = some res) : CK yX9_isState cX9_isState 3 (some .boolean) 2 [.ref a0, .int a1, .int a2] h (some (.int res)) h ∧ (h.1 a0).1 = 9 := by
  obtain ⟨hcl, e⟩ := h_g_inv e
  refine ⟨CK_of pn_RX9 cm_X9_isState (Nat.le_of_ble_eq_true rfl) ?_, hcl⟩
  intro l D tc B nn p en s m args below meth c X hr hlk
  replace X : CX p (rmD 2) s m args c cX9_isState 3 RX9 D tc 2 := X
  show V p l en (rmD 2) s m args below meth c 3 D tc B nn (Ar B nn) s.heap 0 0 (MQ below (QC D tc B nn (Ar B nn) (some (.int res)) h) args s 0 0 (Ar B nn)) h 0 [(0, .ref a0), (1, .int a1), (2, .int a2)] []
  refine V_aload_n (q := 1) X (TB.get tb_X9_isState 0 rfl) rfl rfl rfl ?_
  refine V_iload_n (q := 2) X (TB.get tb_X9_isState 1 rfl) rfl rfl rfl ?_
  obtain ⟨x1, ex1, e⟩ := bs e
  refine V_callV (q := 5) (As := [.int a1]) (rest := []) (st' := [.int x1]) X (TB.get tb_X9_isState 2 rfl) rfl cv_RX9_251 (ok_X9_isKind a0 a1 h x1 ex1).1 (ok_X9_isKind a0 a1 h x1 ex1).2 (Nat.le_of_ble_eq_true rfl) rfl rfl (Nat.le_of_ble_eq_true rfl) rfl ?_
  refine jn_elim (P := (fun (k : Option (Int32)) => k = some res → V p l en (rmD 2) s m args below meth c 3 D tc B nn (Ar B nn) s.heap 0 0 (MQ below (QC D tc B nn (Ar B nn) (some (.int res)) h) args s 0 0 (Ar B nn)) h 30 [] [])) e ?_ (fun j2 Jj2 e => ?_)
  · intro e
    refine V_iconst (v := 0) (q := 31) X (TB.get tb_X9_isState 18 rfl) c_iconst_0 rfl ?_
    cases e
    exact V_zret X hr hlk (Or.inl rfl) (TB.get tb_X9_isState 19 rfl)
  refine V_if_eq (q := 8) (t := 30) X (TB.get tb_X9_isState 3 rfl) rfl rfl (fun hc => ?_) (fun hc => ?_)
  · have e := (if_pos hc).symm.trans e
    refine V_sub (lv' := []) [] rfl ?_
    exact Jj2 e
  · have e := (if_neg hc).symm.trans e
    refine V_iload_n (q := 9) X (TB.get tb_X9_isState 4 rfl) rfl rfl rfl ?_
    refine V_iconst (v := 0) (q := 10) X (TB.get tb_X9_isState 5 rfl) c_iconst_0 rfl ?_
    refine V_aload_n (q := 11) X (TB.get tb_X9_isState 6 rfl) rfl rfl rfl ?_
    obtain ⟨x3, ex3, e⟩ := bs e
    refine V_getR (q := 14) X (TB.get tb_X9_isState 7 rfl) rfl lf_RX9_13 ex3 ?_
    refine V_iconst (v := 3) (q := 15) X (TB.get tb_X9_isState 8 rfl) c_iconst_3 rfl ?_
    refine V_iload_n (q := 16) X (TB.get tb_X9_isState 9 rfl) rfl rfl rfl ?_
    refine V_iadd (q := 17) X (TB.get tb_X9_isState 10 rfl) rfl ?_
    obtain ⟨x4, ex4, e⟩ := bs e
    refine V_iaload (q := 18) X (TB.get tb_X9_isState 11 rfl) rfl ex4 ?_
    refine V_iconst (v := 1) (q := 19) X (TB.get tb_X9_isState 12 rfl) c_iconst_1 rfl ?_
    refine V_isub (q := 20) X (TB.get tb_X9_isState 13 rfl) rfl ?_
    obtain ⟨x5, ex5, e⟩ := bs e
    refine V_callS (q := 23) (As := [.int a2, .int (0 : Int32), .int (x4 - (1 : Int32))]) (rest := []) (st' := [.int x5]) X (TB.get tb_X9_isState 14 rfl) rfl cs_RX9_239 (ok_X9_isFrom a2 (0 : Int32) (x4 - (1 : Int32)) h x5 ex5) (Nat.le_of_ble_eq_true rfl) rfl rfl (Nat.le_of_ble_eq_true rfl) rfl ?_
    refine V_if_eq (q := 26) (t := 30) X (TB.get tb_X9_isState 15 rfl) rfl rfl (fun hc => ?_) (fun hc => ?_)
    · have e := (if_pos hc).symm.trans e
      refine V_sub (lv' := []) [] rfl ?_
      exact Jj2 e
    · have e := (if_neg hc).symm.trans e
      refine V_iconst (v := 1) (q := 27) X (TB.get tb_X9_isState 16 rfl) c_iconst_1 rfl ?_
      refine V_goto (q := 31) X (TB.get tb_X9_isState 17 rfl) rfl ?_
      cases e
      exact V_zret X hr hlk (Or.inr rfl) (TB.get tb_X9_isState 19 rfl)
set_option maxRecDepth 100000 in
set_option maxHeartbeats 4000000 in
theorem ok_X9_isMethod (a0 : Nat) (a1 : Int32) (a2 : Int32) (h : Hp) (res : Int32) (e : MX9_isMethod a0 a1 a2 h = some res) : CK yX9_isMethod cX9_isMethod 3 (some .boolean) 2 [.ref a0, .int a1, .int a2] h (some (.int res)) h ∧ (h.1 a0).1 = 9 := by
  obtain ⟨hcl, e⟩ := h_g_inv e
  refine ⟨CK_of pn_RX9 cm_X9_isMethod (Nat.le_of_ble_eq_true rfl) ?_, hcl⟩
  intro l D tc B nn p en s m args below meth c X hr hlk
  replace X : CX p (rmD 2) s m args c cX9_isMethod 3 RX9 D tc 2 := X
  show V p l en (rmD 2) s m args below meth c 3 D tc B nn (Ar B nn) s.heap 0 0 (MQ below (QC D tc B nn (Ar B nn) (some (.int res)) h) args s 0 0 (Ar B nn)) h 0 [(0, .ref a0), (1, .int a1), (2, .int a2)] []
  refine V_aload_n (q := 1) X (TB.get tb_X9_isMethod 0 rfl) rfl rfl rfl ?_
  refine V_iload_n (q := 2) X (TB.get tb_X9_isMethod 1 rfl) rfl rfl rfl ?_
  obtain ⟨x1, ex1, e⟩ := bs e
  refine V_callV (q := 5) (As := [.int a1]) (rest := []) (st' := [.int x1]) X (TB.get tb_X9_isMethod 2 rfl) rfl cv_RX9_251 (ok_X9_isKind a0 a1 h x1 ex1).1 (ok_X9_isKind a0 a1 h x1 ex1).2 (Nat.le_of_ble_eq_true rfl) rfl rfl (Nat.le_of_ble_eq_true rfl) rfl ?_
  refine jn_elim (P := (fun (k : Option (Int32)) => k = some res → V p l en (rmD 2) s m args below meth c 3 D tc B nn (Ar B nn) s.heap 0 0 (MQ below (QC D tc B nn (Ar B nn) (some (.int res)) h) args s 0 0 (Ar B nn)) h 31 [] [])) e ?_ (fun j2 Jj2 e => ?_)
  · intro e
    refine V_iconst (v := 0) (q := 32) X (TB.get tb_X9_isMethod 18 rfl) c_iconst_0 rfl ?_
    cases e
    exact V_zret X hr hlk (Or.inl rfl) (TB.get tb_X9_isMethod 19 rfl)
  refine V_if_eq (q := 8) (t := 31) X (TB.get tb_X9_isMethod 3 rfl) rfl rfl (fun hc => ?_) (fun hc => ?_)
  · have e := (if_pos hc).symm.trans e
    refine V_sub (lv' := []) [] rfl ?_
    exact Jj2 e
  · have e := (if_neg hc).symm.trans e
    refine V_iload_n (q := 9) X (TB.get tb_X9_isMethod 4 rfl) rfl rfl rfl ?_
    refine V_iconst (v := 0) (q := 10) X (TB.get tb_X9_isMethod 5 rfl) c_iconst_0 rfl ?_
    refine V_aload_n (q := 11) X (TB.get tb_X9_isMethod 6 rfl) rfl rfl rfl ?_
    obtain ⟨x3, ex3, e⟩ := bs e
    refine V_getR (q := 14) X (TB.get tb_X9_isMethod 7 rfl) rfl lf_RX9_13 ex3 ?_
    refine V_bipush (v := 11) (q := 16) X (TB.get tb_X9_isMethod 8 rfl) c_bipush_11 rfl ?_
    refine V_iload_n (q := 17) X (TB.get tb_X9_isMethod 9 rfl) rfl rfl rfl ?_
    refine V_iadd (q := 18) X (TB.get tb_X9_isMethod 10 rfl) rfl ?_
    obtain ⟨x4, ex4, e⟩ := bs e
    refine V_iaload (q := 19) X (TB.get tb_X9_isMethod 11 rfl) rfl ex4 ?_
    refine V_iconst (v := 1) (q := 20) X (TB.get tb_X9_isMethod 12 rfl) c_iconst_1 rfl ?_
    refine V_isub (q := 21) X (TB.get tb_X9_isMethod 13 rfl) rfl ?_
    obtain ⟨x5, ex5, e⟩ := bs e
    refine V_callS (q := 24) (As := [.int a2, .int (0 : Int32), .int (x4 - (1 : Int32))]) (rest := []) (st' := [.int x5]) X (TB.get tb_X9_isMethod 14 rfl) rfl cs_RX9_239 (ok_X9_isFrom a2 (0 : Int32) (x4 - (1 : Int32)) h x5 ex5) (Nat.le_of_ble_eq_true rfl) rfl rfl (Nat.le_of_ble_eq_true rfl) rfl ?_
    refine V_if_eq (q := 27) (t := 31) X (TB.get tb_X9_isMethod 15 rfl) rfl rfl (fun hc => ?_) (fun hc => ?_)
    · have e := (if_pos hc).symm.trans e
      refine V_sub (lv' := []) [] rfl ?_
      exact Jj2 e
    · have e := (if_neg hc).symm.trans e
      refine V_iconst (v := 1) (q := 28) X (TB.get tb_X9_isMethod 16 rfl) c_iconst_1 rfl ?_
      refine V_goto (q := 32) X (TB.get tb_X9_isMethod 17 rfl) rfl ?_
      cases e
      exact V_zret X hr hlk (Or.inr rfl) (TB.get tb_X9_isMethod 19 rfl)
set_option maxRecDepth 100000 in
set_option maxHeartbeats 4000000 in
theorem ok_X9_yes (a0 : Nat) (a1 : Int32) (a2 : Int32) (a3 : Int32) (h : Hp) (res : Int32) (e : MX9_yes a0 a1 a2 a3 h = some res) : CK yX9_yes cX9_yes 4 (some .int) 2 [.ref a0, .int a1, .int a2, .int a3] h (some (.int res)) h ∧ (h.1 a0).1 = 9 := by
  obtain ⟨hcl, e⟩ := h_g_inv e
  refine ⟨CK_of pn_RX9 cm_X9_yes (Nat.le_of_ble_eq_true rfl) ?_, hcl⟩
  intro l D tc B nn p en s m args below meth c X hr hlk
  replace X : CX p (rmD 2) s m args c cX9_yes 4 RX9 D tc 2 := X
  show V p l en (rmD 2) s m args below meth c 4 D tc B nn (Ar B nn) s.heap 0 0 (MQ below (QC D tc B nn (Ar B nn) (some (.int res)) h) args s 0 0 (Ar B nn)) h 0 [(0, .ref a0), (1, .int a1), (2, .int a2), (3, .int a3)] []
  refine V_aload_n (q := 1) X (TB.get tb_X9_yes 0 rfl) rfl rfl rfl ?_
  obtain ⟨x1, ex1, e⟩ := bs e
  refine V_getR (q := 4) X (TB.get tb_X9_yes 1 rfl) rfl lf_RX9_13 ex1 ?_
  refine V_bipush (v := 39) (q := 6) X (TB.get tb_X9_yes 2 rfl) c_bipush_39 rfl ?_
  refine V_iload_n (q := 7) X (TB.get tb_X9_yes 3 rfl) rfl rfl rfl ?_
  refine V_iload_n (q := 8) X (TB.get tb_X9_yes 4 rfl) rfl rfl rfl ?_
  refine V_iload_n (q := 9) X (TB.get tb_X9_yes 5 rfl) rfl rfl rfl ?_
  obtain ⟨x2, ex2, e⟩ := bs e
  refine V_callS (q := 12) (As := [.int (39 : Int32), .int a1, .int a2, .int a3]) (rest := [.ref x1]) (st' := [.int x2, .ref x1]) X (TB.get tb_X9_yes 6 rfl) rfl cs_RX9_191 (ok_X9_cell (39 : Int32) a1 a2 a3 h x2 ex2) (Nat.le_of_ble_eq_true rfl) rfl rfl (Nat.le_of_ble_eq_true rfl) rfl ?_
  obtain ⟨x3, ex3, e⟩ := bs e
  refine V_iaload (q := 13) X (TB.get tb_X9_yes 7 rfl) rfl ex3 ?_
  cases e
  exact V_iret X hr hlk (TB.get tb_X9_yes 8 rfl)
set_option maxRecDepth 100000 in
set_option maxHeartbeats 4000000 in
theorem ok_X9_no (a0 : Nat) (a1 : Int32) (a2 : Int32) (a3 : Int32) (h : Hp) (res : Int32) (e : MX9_no a0 a1 a2 a3 h = some res) : CK yX9_no cX9_no 4 (some .int) 2 [.ref a0, .int a1, .int a2, .int a3] h (some (.int res)) h ∧ (h.1 a0).1 = 9 := by
  obtain ⟨hcl, e⟩ := h_g_inv e
  refine ⟨CK_of pn_RX9 cm_X9_no (Nat.le_of_ble_eq_true rfl) ?_, hcl⟩
  intro l D tc B nn p en s m args below meth c X hr hlk
  replace X : CX p (rmD 2) s m args c cX9_no 4 RX9 D tc 2 := X
  show V p l en (rmD 2) s m args below meth c 4 D tc B nn (Ar B nn) s.heap 0 0 (MQ below (QC D tc B nn (Ar B nn) (some (.int res)) h) args s 0 0 (Ar B nn)) h 0 [(0, .ref a0), (1, .int a1), (2, .int a2), (3, .int a3)] []
  refine V_aload_n (q := 1) X (TB.get tb_X9_no 0 rfl) rfl rfl rfl ?_
  obtain ⟨x1, ex1, e⟩ := bs e
  refine V_getR (q := 4) X (TB.get tb_X9_no 1 rfl) rfl lf_RX9_13 ex1 ?_
  refine V_sipush (v := 183) (q := 7) X (TB.get tb_X9_no 2 rfl) c_sipush_183 rfl ?_
  refine V_iload_n (q := 8) X (TB.get tb_X9_no 3 rfl) rfl rfl rfl ?_
  refine V_iload_n (q := 9) X (TB.get tb_X9_no 4 rfl) rfl rfl rfl ?_
  refine V_iload_n (q := 10) X (TB.get tb_X9_no 5 rfl) rfl rfl rfl ?_
  obtain ⟨x2, ex2, e⟩ := bs e
  refine V_callS (q := 13) (As := [.int (183 : Int32), .int a1, .int a2, .int a3]) (rest := [.ref x1]) (st' := [.int x2, .ref x1]) X (TB.get tb_X9_no 6 rfl) rfl cs_RX9_191 (ok_X9_cell (183 : Int32) a1 a2 a3 h x2 ex2) (Nat.le_of_ble_eq_true rfl) rfl rfl (Nat.le_of_ble_eq_true rfl) rfl ?_
  obtain ⟨x3, ex3, e⟩ := bs e
  refine V_iaload (q := 14) X (TB.get tb_X9_no 7 rfl) rfl ex3 ?_
  cases e
  exact V_iret X hr hlk (TB.get tb_X9_no 8 rfl)
set_option maxRecDepth 100000 in
set_option maxHeartbeats 4000000 in
theorem ok_X9_canBe (a0 : Nat) (a1 : Int32) (a2 : Int32) (a3 : Int32) (h : Hp) (res : Int32) (e : MX9_canBe a0 a1 a2 a3 h = some res) : CK yX9_canBe cX9_canBe 4 (some .boolean) 3 [.ref a0, .int a1, .int a2, .int a3] h (some (.int res)) h ∧ (h.1 a0).1 = 9 := by
  obtain ⟨hcl, e⟩ := h_g_inv e
  refine ⟨CK_of pn_RX9 cm_X9_canBe (Nat.le_of_ble_eq_true rfl) ?_, hcl⟩
  intro l D tc B nn p en s m args below meth c X hr hlk
  replace X : CX p (rmD 3) s m args c cX9_canBe 4 RX9 D tc 3 := X
  show V p l en (rmD 3) s m args below meth c 4 D tc B nn (Ar B nn) s.heap 0 0 (MQ below (QC D tc B nn (Ar B nn) (some (.int res)) h) args s 0 0 (Ar B nn)) h 0 [(0, .ref a0), (1, .int a1), (2, .int a2), (3, .int a3)] []
  refine V_aload_n (q := 1) X (TB.get tb_X9_canBe 0 rfl) rfl rfl rfl ?_
  refine V_iload_n (q := 2) X (TB.get tb_X9_canBe 1 rfl) rfl rfl rfl ?_
  refine V_iload_n (q := 3) X (TB.get tb_X9_canBe 2 rfl) rfl rfl rfl ?_
  refine V_iload_n (q := 4) X (TB.get tb_X9_canBe 3 rfl) rfl rfl rfl ?_
  obtain ⟨x1, ex1, e⟩ := bs e
  refine V_callV (q := 7) (As := [.int a1, .int a2, .int a3]) (rest := []) (st' := [.int x1]) X (TB.get tb_X9_canBe 4 rfl) rfl cv_RX9_254 (ok_X9_yes a0 a1 a2 a3 h x1 ex1).1 (ok_X9_yes a0 a1 a2 a3 h x1 ex1).2 (Nat.le_of_ble_eq_true rfl) rfl rfl (Nat.le_of_ble_eq_true rfl) rfl ?_
  refine V_iconst (v := -1) (q := 8) X (TB.get tb_X9_canBe 5 rfl) c_iconst_m1 rfl ?_
  refine V_icmp_eq (q := 11) (t := 15) X (TB.get tb_X9_canBe 6 rfl) rfl rfl (fun hc => ?_) (fun hc => ?_)
  · have e := (if_pos hc).symm.trans e
    refine V_iconst (v := 0) (q := 16) X (TB.get tb_X9_canBe 9 rfl) c_iconst_0 rfl ?_
    cases e
    exact V_zret X hr hlk (Or.inl rfl) (TB.get tb_X9_canBe 10 rfl)
  · have e := (if_neg hc).symm.trans e
    refine V_iconst (v := 1) (q := 12) X (TB.get tb_X9_canBe 7 rfl) c_iconst_1 rfl ?_
    refine V_goto (q := 16) X (TB.get tb_X9_canBe 8 rfl) rfl ?_
    cases e
    exact V_zret X hr hlk (Or.inr rfl) (TB.get tb_X9_canBe 10 rfl)
set_option maxRecDepth 100000 in
set_option maxHeartbeats 4000000 in
theorem ok_X9_isEnd (a0 : Nat) (a1 : Int32) (a2 : Int32) (h : Hp) (res : Int32) (e : MX9_isEnd a0 a1 a2 h = some res) : CK yX9_isEnd cX9_isEnd 3 (some .boolean) 1 [.ref a0, .int a1, .int a2] h (some (.int res)) h ∧ (h.1 a0).1 = 9 := by
  obtain ⟨hcl, e⟩ := h_g_inv e
  refine ⟨CK_of pn_RX9 cm_X9_isEnd (Nat.le_of_ble_eq_true rfl) ?_, hcl⟩
  intro l D tc B nn p en s m args below meth c X hr hlk
  replace X : CX p (rmD 1) s m args c cX9_isEnd 3 RX9 D tc 1 := X
  show V p l en (rmD 1) s m args below meth c 3 D tc B nn (Ar B nn) s.heap 0 0 (MQ below (QC D tc B nn (Ar B nn) (some (.int res)) h) args s 0 0 (Ar B nn)) h 0 [(0, .ref a0), (1, .int a1), (2, .int a2)] []
  refine V_aload_n (q := 1) X (TB.get tb_X9_isEnd 0 rfl) rfl rfl rfl ?_
  obtain ⟨x1, ex1, e⟩ := bs e
  refine V_getR (q := 4) X (TB.get tb_X9_isEnd 1 rfl) rfl lf_RX9_13 ex1 ?_
  refine V_bipush (v := 7) (q := 6) X (TB.get tb_X9_isEnd 2 rfl) c_bipush_7 rfl ?_
  refine V_iload_n (q := 7) X (TB.get tb_X9_isEnd 3 rfl) rfl rfl rfl ?_
  refine V_iadd (q := 8) X (TB.get tb_X9_isEnd 4 rfl) rfl ?_
  obtain ⟨x2, ex2, e⟩ := bs e
  refine V_iaload (q := 9) X (TB.get tb_X9_isEnd 5 rfl) rfl ex2 ?_
  refine V_iload_n (q := 10) X (TB.get tb_X9_isEnd 6 rfl) rfl rfl rfl ?_
  obtain ⟨x3, ex3, e⟩ := bs e
  refine V_callS (q := 13) (As := [.int x2, .int a2]) (rest := []) (st' := [.int x3]) X (TB.get tb_X9_isEnd 7 rfl) rfl cs_RX9_258 (ok_X9_has x2 a2 h x3 ex3) (Nat.le_of_ble_eq_true rfl) rfl rfl (Nat.le_of_ble_eq_true rfl) rfl ?_
  obtain ⟨z4, ez4, e⟩ := bs e
  cases e
  exact V_zretH X hr hlk ez4 (TB.get tb_X9_isEnd 8 rfl)
set_option maxRecDepth 100000 in
set_option maxHeartbeats 4000000 in
theorem ok_X9_many (a0 : Nat) (a1 : Int32) (h : Hp) (res : Int32 × Hp) (e : MX9_many a0 a1 h = some res) : CK yX9_many cX9_many 2 (some .int) 1 [.ref a0, .int a1] h (some (.int res.1)) res.2 ∧ (h.1 a0).1 = 9 := by
  obtain ⟨hcl, e⟩ := h_g_inv e
  refine ⟨CK_of pn_RX9 cm_X9_many (Nat.le_of_ble_eq_true rfl) ?_, hcl⟩
  intro l D tc B nn p en s m args below meth c X hr hlk
  replace X : CX p (rmD 1) s m args c cX9_many 2 RX9 D tc 1 := X
  show V p l en (rmD 1) s m args below meth c 2 D tc B nn (Ar B nn) s.heap 0 0 (MQ below (QC D tc B nn (Ar B nn) (some (.int res.1)) res.2) args s 0 0 (Ar B nn)) h 0 [(0, .ref a0), (1, .int a1)] []
  refine V_iload_n (q := 1) X (TB.get tb_X9_many 0 rfl) rfl rfl rfl ?_
  refine V_iconst (v := 0) (q := 2) X (TB.get tb_X9_many 1 rfl) c_iconst_0 rfl ?_
  refine V_iconst (v := 2) (q := 3) X (TB.get tb_X9_many 2 rfl) c_iconst_2 rfl ?_
  obtain ⟨x1, ex1, e⟩ := bs e
  refine V_callS (q := 6) (As := [.int a1, .int (0 : Int32), .int (2 : Int32)]) (rest := []) (st' := [.int x1]) X (TB.get tb_X9_many 3 rfl) rfl cs_RX9_239 (ok_X9_isFrom a1 (0 : Int32) (2 : Int32) h x1 ex1) (Nat.le_of_ble_eq_true rfl) rfl rfl (Nat.le_of_ble_eq_true rfl) rfl ?_
  refine V_if_eq (q := 9) (t := 22) X (TB.get tb_X9_many 4 rfl) rfl rfl (fun hc => ?_) (fun hc => ?_)
  · have e := (if_pos hc).symm.trans e
    refine V_aload_n (q := 23) X (TB.get tb_X9_many 12 rfl) rfl rfl rfl ?_
    refine V_iconst (v := 1) (q := 24) X (TB.get tb_X9_many 13 rfl) c_iconst_1 rfl ?_
    obtain ⟨p2, ep2, e⟩ := bs e
    refine V_callV (q := 27) (As := [.int (1 : Int32)]) (rest := []) (st' := [.int p2.1]) X (TB.get tb_X9_many 14 rfl) rfl cv_RX9_242 (ok_X9_refuse a0 (1 : Int32) h p2 ep2).1 (ok_X9_refuse a0 (1 : Int32) h p2 ep2).2 (Nat.le_of_ble_eq_true rfl) rfl rfl (Nat.le_of_ble_eq_true rfl) rfl ?_
    cases e
    exact V_iret X hr hlk (TB.get tb_X9_many 15 rfl)
  · have e := (if_neg hc).symm.trans e
    refine V_aload_n (q := 10) X (TB.get tb_X9_many 5 rfl) rfl rfl rfl ?_
    refine V_aload_n (q := 11) X (TB.get tb_X9_many 6 rfl) rfl rfl rfl ?_
    obtain ⟨x3, ex3, e⟩ := bs e
    refine V_getR (q := 14) X (TB.get tb_X9_many 7 rfl) rfl lf_RX9_13 ex3 ?_
    refine V_iload_n (q := 15) X (TB.get tb_X9_many 8 rfl) rfl rfl rfl ?_
    obtain ⟨x4, ex4, e⟩ := bs e
    refine V_iaload (q := 16) X (TB.get tb_X9_many 9 rfl) rfl ex4 ?_
    obtain ⟨p5, ep5, e⟩ := bs e
    refine V_callV (q := 19) (As := [.int x4]) (rest := []) (st' := [.int p5.1]) X (TB.get tb_X9_many 10 rfl) rfl cv_RX9_248 (ok_X9_gives a0 x4 h p5 ep5).1 (ok_X9_gives a0 x4 h p5 ep5).2 (Nat.le_of_ble_eq_true rfl) rfl rfl (Nat.le_of_ble_eq_true rfl) rfl ?_
    refine V_goto (q := 27) X (TB.get tb_X9_many 11 rfl) rfl ?_
    cases e
    exact V_iret X hr hlk (TB.get tb_X9_many 15 rfl)
set_option maxRecDepth 100000 in
set_option maxHeartbeats 4000000 in
theorem ok_X9_reached (fu : Nat) (a0 : Nat) (a1 : Int32) (a2 : Int32) (h : Hp) (res : Int32) (e : MX9_reached fu a0 a1 a2 h = some res) : CK yX9_reached cX9_reached 7 (some .int) 4 [.ref a0, .int a1, .int a2] h (some (.int res)) h ∧ (h.1 a0).1 = 9 := by
  obtain ⟨hcl, e⟩ := h_g_inv e
  refine ⟨CK_of pn_RX9 cm_X9_reached (Nat.le_of_ble_eq_true rfl) ?_, hcl⟩
  intro l D tc B nn p en s m args below meth c X hr hlk
  replace X : CX p (rmD 4) s m args c cX9_reached 7 RX9 D tc 4 := X
  show V p l en (rmD 4) s m args below meth c 7 D tc B nn (Ar B nn) s.heap 0 0 (MQ below (QC D tc B nn (Ar B nn) (some (.int res)) h) args s 0 0 (Ar B nn)) h 0 [(0, .ref a0), (1, .int a1), (2, .int a2)] []
  refine V_iload_n (q := 1) X (TB.get tb_X9_reached 0 rfl) rfl rfl rfl ?_
  refine V_istore_n (q := 2) (lv' := [(3, .int a2), (0, .ref a0), (1, .int a1), (2, .int a2)]) X (TB.get tb_X9_reached 1 rfl) rfl rfl (Nat.le_of_ble_eq_true rfl) rfl ?_
  refine V_iconst (v := 0) (q := 3) X (TB.get tb_X9_reached 2 rfl) c_iconst_0 rfl ?_
  refine V_istore (q := 5) (lv' := [(4, .int (0 : Int32)), (3, .int a2), (0, .ref a0), (1, .int a1), (2, .int a2)]) X (TB.get tb_X9_reached 3 rfl) rfl (Nat.le_of_ble_eq_true rfl) rfl ?_
  refine V_sub (lv' := [(0, .ref a0), (1, .int a1), (3, .int a2), (4, .int (0 : Int32))]) [2, 3, 1, 0] rfl ?_
  refine wh2_elim (P := fun v1 v2 => V p l en (rmD 4) s m args below meth c 7 D tc B nn (Ar B nn) s.heap 0 0 (MQ below (QC D tc B nn (Ar B nn) (some (.int res)) h) args s 0 0 (Ar B nn)) h 5 [(0, .ref a0), (1, .int a1), (3, .int v1), (4, .int v2)] []) (f := fu) ?_ e
  intro self3 v1 v2 ihself3 e
  unfold MX9_reached_B5 at e
  refine V_iload (q := 7) X (TB.get tb_X9_reached 4 rfl) rfl rfl ?_
  refine V_iload_n (q := 8) X (TB.get tb_X9_reached 5 rfl) rfl rfl rfl ?_
  refine V_icmp_eq (q := 11) (t := 109) X (TB.get tb_X9_reached 6 rfl) rfl rfl (fun hc => ?_) (fun hc => ?_)
  · have e := (if_pos hc).symm.trans e
    refine V_iload_n (q := 110) X (TB.get tb_X9_reached 62 rfl) rfl rfl rfl ?_
    cases e
    exact V_iret X hr hlk (TB.get tb_X9_reached 63 rfl)
  · have e := (if_neg hc).symm.trans e
    refine V_iload_n (q := 12) X (TB.get tb_X9_reached 7 rfl) rfl rfl rfl ?_
    refine V_istore (q := 14) (lv' := [(4, .int v1), (0, .ref a0), (1, .int a1), (3, .int v1)]) X (TB.get tb_X9_reached 8 rfl) rfl (Nat.le_of_ble_eq_true rfl) rfl ?_
    refine V_iconst (v := 0) (q := 15) X (TB.get tb_X9_reached 9 rfl) c_iconst_0 rfl ?_
    refine V_istore (q := 17) (lv' := [(5, .int (0 : Int32)), (4, .int v1), (0, .ref a0), (1, .int a1), (3, .int v1)]) X (TB.get tb_X9_reached 10 rfl) rfl (Nat.le_of_ble_eq_true rfl) rfl ?_
    refine jn_elim (P := (fun (k : Int32 → Option (Int32)) => ∀ (v4 : Int32), k v4 = some res → V p l en (rmD 4) s m args below meth c 7 D tc B nn (Ar B nn) s.heap 0 0 (MQ below (QC D tc B nn (Ar B nn) (some (.int res)) h) args s 0 0 (Ar B nn)) h 106 [(0, .ref a0), (1, .int a1), (3, .int v4), (4, .int v1)] [])) e ?_ (fun j5 Jj5 e => ?_)
    · intro v4 e
      refine V_goto (q := 5) X (TB.get tb_X9_reached 61 rfl) rfl ?_
      exact ihself3 _ _ e
    refine V_sub (lv' := [(0, .ref a0), (1, .int a1), (3, .int v1), (4, .int v1), (5, .int (0 : Int32))]) [2, 3, 4, 1, 0] rfl ?_
    refine wh2_elim (P := fun v6 v7 => V p l en (rmD 4) s m args below meth c 7 D tc B nn (Ar B nn) s.heap 0 0 (MQ below (QC D tc B nn (Ar B nn) (some (.int res)) h) args s 0 0 (Ar B nn)) h 17 [(0, .ref a0), (1, .int a1), (3, .int v6), (4, .int v1), (5, .int v7)] []) (f := fu) ?_ e
    intro self8 v6 v7 ihself8 e
    unfold MX9_reached_B17 at e
    refine V_iload (q := 19) X (TB.get tb_X9_reached 11 rfl) rfl rfl ?_
    refine V_aload_n (q := 20) X (TB.get tb_X9_reached 12 rfl) rfl rfl rfl ?_
    obtain ⟨x9, ex9, e⟩ := bs e
    refine V_getR (q := 23) X (TB.get tb_X9_reached 13 rfl) rfl lf_RX9_13 ex9 ?_
    refine V_iconst (v := 3) (q := 24) X (TB.get tb_X9_reached 14 rfl) c_iconst_3 rfl ?_
    refine V_iload_n (q := 25) X (TB.get tb_X9_reached 15 rfl) rfl rfl rfl ?_
    refine V_iadd (q := 26) X (TB.get tb_X9_reached 16 rfl) rfl ?_
    obtain ⟨x10, ex10, e⟩ := bs e
    refine V_iaload (q := 27) X (TB.get tb_X9_reached 17 rfl) rfl ex10 ?_
    refine V_icmp_ge (q := 30) (t := 106) X (TB.get tb_X9_reached 18 rfl) rfl rfl (fun hc => ?_) (fun hc => ?_)
    · have e := (if_pos hc).symm.trans e
      refine V_sub (lv' := [(0, .ref a0), (1, .int a1), (3, .int v6), (4, .int v1)]) [0, 1, 2, 3] rfl ?_
      exact Jj5 _ e
    · have e := (if_neg hc).symm.trans e
      refine V_iconst (v := 0) (q := 31) X (TB.get tb_X9_reached 19 rfl) c_iconst_0 rfl ?_
      refine V_istore (q := 33) (lv' := [(6, .int (0 : Int32)), (0, .ref a0), (1, .int a1), (3, .int v6), (4, .int v1), (5, .int v7)]) X (TB.get tb_X9_reached 20 rfl) rfl (Nat.le_of_ble_eq_true rfl) rfl ?_
      refine jn_elim (P := (fun (k : Int32 → Option (Int32)) => ∀ (v11 : Int32), k v11 = some res → V p l en (rmD 4) s m args below meth c 7 D tc B nn (Ar B nn) s.heap 0 0 (MQ below (QC D tc B nn (Ar B nn) (some (.int res)) h) args s 0 0 (Ar B nn)) h 100 [(0, .ref a0), (1, .int a1), (3, .int v11), (4, .int v1), (5, .int v7)] [])) e ?_ (fun j12 Jj12 e => ?_)
      · intro v11 e
        refine V_iinc (q := 103) (v := v7 + (1 : Int32)) (lv' := [(5, .int (v7 + (1 : Int32))), (0, .ref a0), (1, .int a1), (3, .int v11), (4, .int v1)]) X (TB.get tb_X9_reached 59 rfl) rfl rfl (by rw [c_iconst_1]) (Nat.le_of_ble_eq_true rfl) rfl ?_
        refine V_goto (q := 17) X (TB.get tb_X9_reached 60 rfl) rfl ?_
        refine V_sub (lv' := [(0, .ref a0), (1, .int a1), (3, .int v11), (4, .int v1), (5, .int (v7 + (1 : Int32)))]) [1, 2, 3, 4, 0] rfl ?_
        exact ihself8 _ _ e
      refine V_sub (lv' := [(0, .ref a0), (1, .int a1), (3, .int v6), (4, .int v1), (5, .int v7), (6, .int (0 : Int32))]) [1, 2, 3, 4, 5, 0] rfl ?_
      refine wh2_elim (P := fun v13 v14 => V p l en (rmD 4) s m args below meth c 7 D tc B nn (Ar B nn) s.heap 0 0 (MQ below (QC D tc B nn (Ar B nn) (some (.int res)) h) args s 0 0 (Ar B nn)) h 33 [(0, .ref a0), (1, .int a1), (3, .int v13), (4, .int v1), (5, .int v7), (6, .int v14)] []) (f := fu) ?_ e
      intro self15 v13 v14 ihself15 e
      unfold MX9_reached_B33 at e
      refine V_iload (q := 35) X (TB.get tb_X9_reached 21 rfl) rfl rfl ?_
      refine V_aload_n (q := 36) X (TB.get tb_X9_reached 22 rfl) rfl rfl rfl ?_
      refine V_getR (q := 39) X (TB.get tb_X9_reached 23 rfl) rfl lf_RX9_13 ex9 ?_
      refine V_bipush (v := 11) (q := 41) X (TB.get tb_X9_reached 24 rfl) c_bipush_11 rfl ?_
      refine V_iload_n (q := 42) X (TB.get tb_X9_reached 25 rfl) rfl rfl rfl ?_
      refine V_iadd (q := 43) X (TB.get tb_X9_reached 26 rfl) rfl ?_
      obtain ⟨x16, ex16, e⟩ := bs e
      refine V_iaload (q := 44) X (TB.get tb_X9_reached 27 rfl) rfl ex16 ?_
      refine V_icmp_ge (q := 47) (t := 100) X (TB.get tb_X9_reached 28 rfl) rfl rfl (fun hc => ?_) (fun hc => ?_)
      · have e := (if_pos hc).symm.trans e
        refine V_sub (lv' := [(0, .ref a0), (1, .int a1), (3, .int v13), (4, .int v1), (5, .int v7)]) [0, 1, 2, 3, 4] rfl ?_
        exact Jj12 _ e
      · have e := (if_neg hc).symm.trans e
        refine V_iload_n (q := 48) X (TB.get tb_X9_reached 29 rfl) rfl rfl rfl ?_
        refine V_iload (q := 50) X (TB.get tb_X9_reached 30 rfl) rfl rfl ?_
        obtain ⟨x17, ex17, e⟩ := bs e
        refine V_callS (q := 53) (As := [.int v13, .int v7]) (rest := []) (st' := [.int x17]) X (TB.get tb_X9_reached 31 rfl) rfl cs_RX9_258 (ok_X9_has v13 v7 h x17 ex17) (Nat.le_of_ble_eq_true rfl) rfl rfl (Nat.le_of_ble_eq_true rfl) rfl ?_
        refine jn_elim (P := (fun (k : Int32 → Option (Int32)) => ∀ (v18 : Int32), k v18 = some res → V p l en (rmD 4) s m args below meth c 7 D tc B nn (Ar B nn) s.heap 0 0 (MQ below (QC D tc B nn (Ar B nn) (some (.int res)) h) args s 0 0 (Ar B nn)) h 94 [(0, .ref a0), (1, .int a1), (3, .int v18), (4, .int v1), (5, .int v7), (6, .int v14)] [])) e ?_ (fun j19 Jj19 e => ?_)
        · intro v18 e
          refine V_iinc (q := 97) (v := v14 + (1 : Int32)) (lv' := [(6, .int (v14 + (1 : Int32))), (0, .ref a0), (1, .int a1), (3, .int v18), (4, .int v1), (5, .int v7)]) X (TB.get tb_X9_reached 57 rfl) rfl rfl (by rw [c_iconst_1]) (Nat.le_of_ble_eq_true rfl) rfl ?_
          refine V_goto (q := 33) X (TB.get tb_X9_reached 58 rfl) rfl ?_
          refine V_sub (lv' := [(0, .ref a0), (1, .int a1), (3, .int v18), (4, .int v1), (5, .int v7), (6, .int (v14 + (1 : Int32)))]) [1, 2, 3, 4, 5, 0] rfl ?_
          exact ihself15 _ _ e
        refine V_if_eq (q := 56) (t := 94) X (TB.get tb_X9_reached 32 rfl) rfl rfl (fun hc => ?_) (fun hc => ?_)
        · have e := (if_pos hc).symm.trans e
          exact Jj19 _ e
        · have e := (if_neg hc).symm.trans e
          refine V_aload_n (q := 57) X (TB.get tb_X9_reached 33 rfl) rfl rfl rfl ?_
          refine V_iload_n (q := 58) X (TB.get tb_X9_reached 34 rfl) rfl rfl rfl ?_
          refine V_iload (q := 60) X (TB.get tb_X9_reached 35 rfl) rfl rfl ?_
          refine V_iload (q := 62) X (TB.get tb_X9_reached 36 rfl) rfl rfl ?_
          obtain ⟨x20, ex20, e⟩ := bs e
          refine V_callV (q := 65) (As := [.int a1, .int v14, .int v7]) (rest := []) (st' := [.int x20]) X (TB.get tb_X9_reached 37 rfl) rfl cv_RX9_261 (ok_X9_canBe a0 a1 v14 v7 h x20 ex20).1 (ok_X9_canBe a0 a1 v14 v7 h x20 ex20).2 (Nat.le_of_ble_eq_true rfl) rfl rfl (Nat.le_of_ble_eq_true rfl) rfl ?_
          refine V_if_eq (q := 68) (t := 94) X (TB.get tb_X9_reached 38 rfl) rfl rfl (fun hc => ?_) (fun hc => ?_)
          · have e := (if_pos hc).symm.trans e
            exact Jj19 _ e
          · have e := (if_neg hc).symm.trans e
            refine V_iload_n (q := 69) X (TB.get tb_X9_reached 39 rfl) rfl rfl rfl ?_
            refine V_iconst (v := 1) (q := 70) X (TB.get tb_X9_reached 40 rfl) c_iconst_1 rfl ?_
            refine V_aload_n (q := 71) X (TB.get tb_X9_reached 41 rfl) rfl rfl rfl ?_
            refine V_iload_n (q := 72) X (TB.get tb_X9_reached 42 rfl) rfl rfl rfl ?_
            refine V_iload (q := 74) X (TB.get tb_X9_reached 43 rfl) rfl rfl ?_
            refine V_iload (q := 76) X (TB.get tb_X9_reached 44 rfl) rfl rfl ?_
            obtain ⟨x21, ex21, e⟩ := bs e
            refine V_callV (q := 79) (As := [.int a1, .int v14, .int v7]) (rest := [.int (1 : Int32), .int v13]) (st' := [.int x21, .int (1 : Int32), .int v13]) X (TB.get tb_X9_reached 45 rfl) rfl cv_RX9_254 (ok_X9_yes a0 a1 v14 v7 h x21 ex21).1 (ok_X9_yes a0 a1 v14 v7 h x21 ex21).2 (Nat.le_of_ble_eq_true rfl) rfl rfl (Nat.le_of_ble_eq_true rfl) rfl ?_
            refine V_ishl (q := 80) X (TB.get tb_X9_reached 46 rfl) rfl ?_
            refine V_iconst (v := 1) (q := 81) X (TB.get tb_X9_reached 47 rfl) c_iconst_1 rfl ?_
            refine V_aload_n (q := 82) X (TB.get tb_X9_reached 48 rfl) rfl rfl rfl ?_
            refine V_iload_n (q := 83) X (TB.get tb_X9_reached 49 rfl) rfl rfl rfl ?_
            refine V_iload (q := 85) X (TB.get tb_X9_reached 50 rfl) rfl rfl ?_
            refine V_iload (q := 87) X (TB.get tb_X9_reached 51 rfl) rfl rfl ?_
            obtain ⟨x22, ex22, e⟩ := bs e
            refine V_callV (q := 90) (As := [.int a1, .int v14, .int v7]) (rest := [.int (1 : Int32), .int ((1 : Int32) <<< (x21 &&& 31)), .int v13]) (st' := [.int x22, .int (1 : Int32), .int ((1 : Int32) <<< (x21 &&& 31)), .int v13]) X (TB.get tb_X9_reached 52 rfl) rfl cv_RX9_264 (ok_X9_no a0 a1 v14 v7 h x22 ex22).1 (ok_X9_no a0 a1 v14 v7 h x22 ex22).2 (Nat.le_of_ble_eq_true rfl) rfl rfl (Nat.le_of_ble_eq_true rfl) rfl ?_
            refine V_ishl (q := 91) X (TB.get tb_X9_reached 53 rfl) rfl ?_
            refine V_ior (q := 92) X (TB.get tb_X9_reached 54 rfl) rfl ?_
            refine V_ior (q := 93) X (TB.get tb_X9_reached 55 rfl) rfl ?_
            refine V_istore_n (q := 94) (lv' := [(3, .int (v13 ||| (((1 : Int32) <<< (x21 &&& 31)) ||| ((1 : Int32) <<< (x22 &&& 31))))), (0, .ref a0), (1, .int a1), (4, .int v1), (5, .int v7), (6, .int v14)]) X (TB.get tb_X9_reached 56 rfl) rfl rfl (Nat.le_of_ble_eq_true rfl) rfl ?_
            refine V_sub (lv' := [(0, .ref a0), (1, .int a1), (3, .int (v13 ||| (((1 : Int32) <<< (x21 &&& 31)) ||| ((1 : Int32) <<< (x22 &&& 31))))), (4, .int v1), (5, .int v7), (6, .int v14)]) [1, 2, 0, 3, 4, 5] rfl ?_
            exact Jj19 _ e
set_option maxRecDepth 100000 in
set_option maxHeartbeats 4000000 in
theorem ok_X9_kind (fu : Nat) (a0 : Nat) (a1 : Int32) (a2 : Int32) (h : Hp) (res : Int32 × Hp) (e : MX9_kind fu a0 a1 a2 h = some res) : CK yX9_kind cX9_kind 6 (some .int) 5 [.ref a0, .int a1, .int a2] h (some (.int res.1)) res.2 ∧ (h.1 a0).1 = 9 := by
  obtain ⟨hcl, e⟩ := h_g_inv e
  refine ⟨CK_of pn_RX9 cm_X9_kind (Nat.le_of_ble_eq_true rfl) ?_, hcl⟩
  intro l D tc B nn p en s m args below meth c X hr hlk
  replace X : CX p (rmD 5) s m args c cX9_kind 6 RX9 D tc 5 := X
  show V p l en (rmD 5) s m args below meth c 6 D tc B nn (Ar B nn) s.heap 0 0 (MQ below (QC D tc B nn (Ar B nn) (some (.int res.1)) res.2) args s 0 0 (Ar B nn)) h 0 [(0, .ref a0), (1, .int a1), (2, .int a2)] []
  refine V_iload_n (q := 1) X (TB.get tb_X9_kind 0 rfl) rfl rfl rfl ?_
  refine V_iconst (v := 0) (q := 2) X (TB.get tb_X9_kind 1 rfl) c_iconst_0 rfl ?_
  refine V_iconst (v := 5) (q := 3) X (TB.get tb_X9_kind 2 rfl) c_iconst_5 rfl ?_
  obtain ⟨x1, ex1, e⟩ := bs e
  refine V_callS (q := 6) (As := [.int a2, .int (0 : Int32), .int (5 : Int32)]) (rest := []) (st' := [.int x1]) X (TB.get tb_X9_kind 3 rfl) rfl cs_RX9_239 (ok_X9_isFrom a2 (0 : Int32) (5 : Int32) h x1 ex1) (Nat.le_of_ble_eq_true rfl) rfl rfl (Nat.le_of_ble_eq_true rfl) rfl ?_
  refine V_if_ne (q := 9) (t := 15) X (TB.get tb_X9_kind 4 rfl) rfl rfl (fun hc => ?_) (fun hc => ?_)
  · have e := (if_neg hc).symm.trans e
    refine V_aload_n (q := 16) X (TB.get tb_X9_kind 9 rfl) rfl rfl rfl ?_
    refine V_iload_n (q := 17) X (TB.get tb_X9_kind 10 rfl) rfl rfl rfl ?_
    obtain ⟨x2, ex2, e⟩ := bs e
    refine V_callV (q := 20) (As := [.int a1]) (rest := []) (st' := [.int x2]) X (TB.get tb_X9_kind 11 rfl) rfl cv_RX9_251 (ok_X9_isKind a0 a1 h x2 ex2).1 (ok_X9_isKind a0 a1 h x2 ex2).2 (Nat.le_of_ble_eq_true rfl) rfl rfl (Nat.le_of_ble_eq_true rfl) rfl ?_
    refine V_if_ne (q := 23) (t := 29) X (TB.get tb_X9_kind 12 rfl) rfl rfl (fun hc => ?_) (fun hc => ?_)
    · have e := (if_neg hc).symm.trans e
      refine V_iload_n (q := 30) X (TB.get tb_X9_kind 17 rfl) rfl rfl rfl ?_
      refine V_if_ne (q := 33) (t := 46) X (TB.get tb_X9_kind 18 rfl) rfl rfl (fun hc => ?_) (fun hc => ?_)
      · have e := (if_neg hc).symm.trans e
        refine V_iload_n (q := 47) X (TB.get tb_X9_kind 28 rfl) rfl rfl rfl ?_
        refine V_iconst (v := 1) (q := 48) X (TB.get tb_X9_kind 29 rfl) c_iconst_1 rfl ?_
        refine V_icmp_ne (q := 51) (t := 65) X (TB.get tb_X9_kind 30 rfl) rfl rfl (fun hc => ?_) (fun hc => ?_)
        · have e := (if_neg hc).symm.trans e
          refine V_iload_n (q := 66) X (TB.get tb_X9_kind 40 rfl) rfl rfl rfl ?_
          refine V_iconst (v := 2) (q := 67) X (TB.get tb_X9_kind 41 rfl) c_iconst_2 rfl ?_
          refine V_icmp_ne (q := 70) (t := 84) X (TB.get tb_X9_kind 42 rfl) rfl rfl (fun hc => ?_) (fun hc => ?_)
          · have e := (if_neg hc).symm.trans e
            refine V_iload_n (q := 85) X (TB.get tb_X9_kind 52 rfl) rfl rfl rfl ?_
            refine V_iconst (v := 3) (q := 86) X (TB.get tb_X9_kind 53 rfl) c_iconst_3 rfl ?_
            refine V_icmp_ne (q := 89) (t := 140) X (TB.get tb_X9_kind 54 rfl) rfl rfl (fun hc => ?_) (fun hc => ?_)
            · have e := (if_neg hc).symm.trans e
              refine V_aload_n (q := 141) X (TB.get tb_X9_kind 85 rfl) rfl rfl rfl ?_
              refine V_iload_n (q := 142) X (TB.get tb_X9_kind 86 rfl) rfl rfl rfl ?_
              refine V_iconst (v := 1) (q := 143) X (TB.get tb_X9_kind 87 rfl) c_iconst_1 rfl ?_
              obtain ⟨x3, ex3, e⟩ := bs e
              refine V_callV (q := 146) (As := [.int a1, .int (1 : Int32)]) (rest := []) (st' := [.int x3]) X (TB.get tb_X9_kind 88 rfl) rfl cv_RX9_267 (ok_X9_reached fu a0 a1 (1 : Int32) h x3 ex3).1 (ok_X9_reached fu a0 a1 (1 : Int32) h x3 ex3).2 (Nat.le_of_ble_eq_true rfl) rfl rfl (Nat.le_of_ble_eq_true rfl) rfl ?_
              refine V_istore_n (q := 147) (lv' := [(3, .int x3), (0, .ref a0), (1, .int a1), (2, .int a2)]) X (TB.get tb_X9_kind 89 rfl) rfl rfl (Nat.le_of_ble_eq_true rfl) rfl ?_
              refine V_iload_n (q := 148) X (TB.get tb_X9_kind 90 rfl) rfl rfl rfl ?_
              refine V_iconst (v := 4) (q := 149) X (TB.get tb_X9_kind 91 rfl) c_iconst_4 rfl ?_
              refine V_icmp_ne (q := 152) (t := 158) X (TB.get tb_X9_kind 92 rfl) rfl rfl (fun hc => ?_) (fun hc => ?_)
              · have e := (if_neg hc).symm.trans e
                refine V_iconst (v := 0) (q := 159) X (TB.get tb_X9_kind 97 rfl) c_iconst_0 rfl ?_
                refine V_istore (q := 161) (lv' := [(4, .int (0 : Int32)), (3, .int x3), (0, .ref a0), (1, .int a1), (2, .int a2)]) X (TB.get tb_X9_kind 98 rfl) rfl (Nat.le_of_ble_eq_true rfl) rfl ?_
                refine V_iconst (v := 0) (q := 162) X (TB.get tb_X9_kind 99 rfl) c_iconst_0 rfl ?_
                refine V_istore (q := 164) (lv' := [(5, .int (0 : Int32)), (4, .int (0 : Int32)), (3, .int x3), (0, .ref a0), (1, .int a1), (2, .int a2)]) X (TB.get tb_X9_kind 100 rfl) rfl (Nat.le_of_ble_eq_true rfl) rfl ?_
                refine jn_elim (P := (fun (k : Int32 → Option (Int32 × Hp)) => ∀ (v4 : Int32), k v4 = some res → V p l en (rmD 5) s m args below meth c 6 D tc B nn (Ar B nn) s.heap 0 0 (MQ below (QC D tc B nn (Ar B nn) (some (.int res.1)) res.2) args s 0 0 (Ar B nn)) h 227 [(0, .ref a0), (4, .int v4)] [])) e ?_ (fun j5 Jj5 e => ?_)
                · intro v4 e
                  refine V_aload_n (q := 228) X (TB.get tb_X9_kind 137 rfl) rfl rfl rfl ?_
                  refine V_iload (q := 230) X (TB.get tb_X9_kind 138 rfl) rfl rfl ?_
                  obtain ⟨p6, ep6, e⟩ := bs e
                  refine V_callV (q := 233) (As := [.int v4]) (rest := []) (st' := [.int p6.1]) X (TB.get tb_X9_kind 139 rfl) rfl cv_RX9_248 (ok_X9_gives a0 v4 h p6 ep6).1 (ok_X9_gives a0 v4 h p6 ep6).2 (Nat.le_of_ble_eq_true rfl) rfl rfl (Nat.le_of_ble_eq_true rfl) rfl ?_
                  cases e
                  exact V_iret X hr hlk (TB.get tb_X9_kind 140 rfl)
                refine V_sub (lv' := [(0, .ref a0), (1, .int a1), (3, .int x3), (4, .int (0 : Int32)), (5, .int (0 : Int32))]) [3, 4, 2, 1, 0] rfl ?_
                refine wh2_elim (P := fun v7 v8 => V p l en (rmD 5) s m args below meth c 6 D tc B nn (Ar B nn) s.heap 0 0 (MQ below (QC D tc B nn (Ar B nn) (some (.int res.1)) res.2) args s 0 0 (Ar B nn)) h 164 [(0, .ref a0), (1, .int a1), (3, .int x3), (4, .int v7), (5, .int v8)] []) (f := fu) ?_ e
                intro self9 v7 v8 ihself9 e
                unfold MX9_kind_B164 at e
                refine V_iload (q := 166) X (TB.get tb_X9_kind 101 rfl) rfl rfl ?_
                refine V_aload_n (q := 167) X (TB.get tb_X9_kind 102 rfl) rfl rfl rfl ?_
                obtain ⟨x10, ex10, e⟩ := bs e
                refine V_getR (q := 170) X (TB.get tb_X9_kind 103 rfl) rfl lf_RX9_13 ex10 ?_
                refine V_iconst (v := 3) (q := 171) X (TB.get tb_X9_kind 104 rfl) c_iconst_3 rfl ?_
                refine V_iload_n (q := 172) X (TB.get tb_X9_kind 105 rfl) rfl rfl rfl ?_
                refine V_iadd (q := 173) X (TB.get tb_X9_kind 106 rfl) rfl ?_
                obtain ⟨x11, ex11, e⟩ := bs e
                refine V_iaload (q := 174) X (TB.get tb_X9_kind 107 rfl) rfl ex11 ?_
                refine V_icmp_ge (q := 177) (t := 227) X (TB.get tb_X9_kind 108 rfl) rfl rfl (fun hc => ?_) (fun hc => ?_)
                · have e := (if_pos hc).symm.trans e
                  refine V_sub (lv' := [(0, .ref a0), (4, .int v7)]) [0, 3] rfl ?_
                  exact Jj5 _ e
                · have e := (if_neg hc).symm.trans e
                  refine V_iload (q := 179) X (TB.get tb_X9_kind 109 rfl) rfl rfl ?_
                  refine V_iload_n (q := 180) X (TB.get tb_X9_kind 110 rfl) rfl rfl rfl ?_
                  refine V_iload (q := 182) X (TB.get tb_X9_kind 111 rfl) rfl rfl ?_
                  obtain ⟨x12, ex12, e⟩ := bs e
                  refine V_callS (q := 185) (As := [.int x3, .int v8]) (rest := [.int v7]) (st' := [.int x12, .int v7]) X (TB.get tb_X9_kind 112 rfl) rfl cs_RX9_258 (ok_X9_has x3 v8 h x12 ex12) (Nat.le_of_ble_eq_true rfl) rfl rfl (Nat.le_of_ble_eq_true rfl) rfl ?_
                  refine jn_elim (P := (fun (k : Int32 → Option (Int32 × Hp)) => ∀ (w13 : Int32), k w13 = some res → V p l en (rmD 5) s m args below meth c 6 D tc B nn (Ar B nn) s.heap 0 0 (MQ below (QC D tc B nn (Ar B nn) (some (.int res.1)) res.2) args s 0 0 (Ar B nn)) h 218 [(0, .ref a0), (1, .int a1), (3, .int x3), (5, .int v8)] [.int w13, .int v7])) e ?_ (fun j14 Jj14 e => ?_)
                  · intro w13 e
                    refine V_ior (q := 219) X (TB.get tb_X9_kind 133 rfl) rfl ?_
                    refine V_istore (q := 221) (lv' := [(4, .int (v7 ||| w13)), (0, .ref a0), (1, .int a1), (3, .int x3), (5, .int v8)]) X (TB.get tb_X9_kind 134 rfl) rfl (Nat.le_of_ble_eq_true rfl) rfl ?_
                    refine V_iinc (q := 224) (v := v8 + (1 : Int32)) (lv' := [(5, .int (v8 + (1 : Int32))), (4, .int (v7 ||| w13)), (0, .ref a0), (1, .int a1), (3, .int x3)]) X (TB.get tb_X9_kind 135 rfl) rfl rfl (by rw [c_iconst_1]) (Nat.le_of_ble_eq_true rfl) rfl ?_
                    refine V_goto (q := 164) X (TB.get tb_X9_kind 136 rfl) rfl ?_
                    refine V_sub (lv' := [(0, .ref a0), (1, .int a1), (3, .int x3), (4, .int (v7 ||| w13)), (5, .int (v8 + (1 : Int32)))]) [2, 3, 4, 1, 0] rfl ?_
                    exact ihself9 _ _ e
                  refine jn_elim (P := (fun (k : Option (Int32 × Hp)) => k = some res → V p l en (rmD 5) s m args below meth c 6 D tc B nn (Ar B nn) s.heap 0 0 (MQ below (QC D tc B nn (Ar B nn) (some (.int res.1)) res.2) args s 0 0 (Ar B nn)) h 217 [(0, .ref a0), (1, .int a1), (3, .int x3), (5, .int v8)] [.int v7])) e ?_ (fun j15 Jj15 e => ?_)
                  · intro e
                    refine V_iconst (v := 0) (q := 218) X (TB.get tb_X9_kind 132 rfl) c_iconst_0 rfl ?_
                    exact Jj14 _ e
                  refine V_if_eq (q := 188) (t := 217) X (TB.get tb_X9_kind 113 rfl) rfl rfl (fun hc => ?_) (fun hc => ?_)
                  · have e := (if_pos hc).symm.trans e
                    refine V_sub (lv' := [(0, .ref a0), (1, .int a1), (3, .int x3), (5, .int v8)]) [0, 1, 2, 4] rfl ?_
                    exact Jj15 e
                  · have e := (if_neg hc).symm.trans e
                    refine V_aload_n (q := 189) X (TB.get tb_X9_kind 114 rfl) rfl rfl rfl ?_
                    refine V_iload_n (q := 190) X (TB.get tb_X9_kind 115 rfl) rfl rfl rfl ?_
                    refine V_iconst (v := 1) (q := 191) X (TB.get tb_X9_kind 116 rfl) c_iconst_1 rfl ?_
                    refine V_iload (q := 193) X (TB.get tb_X9_kind 117 rfl) rfl rfl ?_
                    refine V_ishl (q := 194) X (TB.get tb_X9_kind 118 rfl) rfl ?_
                    obtain ⟨x16, ex16, e⟩ := bs e
                    refine V_callV (q := 197) (As := [.int a1, .int ((1 : Int32) <<< (v8 &&& 31))]) (rest := [.int v7]) (st' := [.int x16, .int v7]) X (TB.get tb_X9_kind 119 rfl) rfl cv_RX9_267 (ok_X9_reached fu a0 a1 ((1 : Int32) <<< (v8 &&& 31)) h x16 ex16).1 (ok_X9_reached fu a0 a1 ((1 : Int32) <<< (v8 &&& 31)) h x16 ex16).2 (Nat.le_of_ble_eq_true rfl) rfl rfl (Nat.le_of_ble_eq_true rfl) rfl ?_
                    refine V_aload_n (q := 198) X (TB.get tb_X9_kind 120 rfl) rfl rfl rfl ?_
                    refine V_getR (q := 201) X (TB.get tb_X9_kind 121 rfl) rfl lf_RX9_13 ex10 ?_
                    refine V_bipush (v := 7) (q := 203) X (TB.get tb_X9_kind 122 rfl) c_bipush_7 rfl ?_
                    refine V_iload_n (q := 204) X (TB.get tb_X9_kind 123 rfl) rfl rfl rfl ?_
                    refine V_iadd (q := 205) X (TB.get tb_X9_kind 124 rfl) rfl ?_
                    obtain ⟨x17, ex17, e⟩ := bs e
                    refine V_iaload (q := 206) X (TB.get tb_X9_kind 125 rfl) rfl ex17 ?_
                    refine V_iand (q := 207) X (TB.get tb_X9_kind 126 rfl) rfl ?_
                    refine V_if_ne (q := 210) (t := 217) X (TB.get tb_X9_kind 127 rfl) rfl rfl (fun hc => ?_) (fun hc => ?_)
                    · have e := (if_neg hc).symm.trans e
                      refine V_sub (lv' := [(0, .ref a0), (1, .int a1), (3, .int x3), (5, .int v8)]) [0, 1, 2, 4] rfl ?_
                      exact Jj15 e
                    · have e := (if_pos hc).symm.trans e
                      refine V_iconst (v := 1) (q := 211) X (TB.get tb_X9_kind 128 rfl) c_iconst_1 rfl ?_
                      refine V_iload (q := 213) X (TB.get tb_X9_kind 129 rfl) rfl rfl ?_
                      refine V_ishl (q := 214) X (TB.get tb_X9_kind 130 rfl) rfl ?_
                      refine V_goto (q := 218) X (TB.get tb_X9_kind 131 rfl) rfl ?_
                      refine V_sub (lv' := [(0, .ref a0), (1, .int a1), (3, .int x3), (5, .int v8)]) [0, 1, 2, 4] rfl ?_
                      exact Jj14 _ e
              · have e := (if_pos hc).symm.trans e
                refine V_aload_n (q := 153) X (TB.get tb_X9_kind 93 rfl) rfl rfl rfl ?_
                refine V_iload_n (q := 154) X (TB.get tb_X9_kind 94 rfl) rfl rfl rfl ?_
                obtain ⟨p18, ep18, e⟩ := bs e
                refine V_callV (q := 157) (As := [.int x3]) (rest := []) (st' := [.int p18.1]) X (TB.get tb_X9_kind 95 rfl) rfl cv_RX9_248 (ok_X9_gives a0 x3 h p18 ep18).1 (ok_X9_gives a0 x3 h p18 ep18).2 (Nat.le_of_ble_eq_true rfl) rfl rfl (Nat.le_of_ble_eq_true rfl) rfl ?_
                cases e
                exact V_iret X hr hlk (TB.get tb_X9_kind 96 rfl)
            · have e := (if_pos hc).symm.trans e
              refine V_iconst (v := 0) (q := 90) X (TB.get tb_X9_kind 55 rfl) c_iconst_0 rfl ?_
              refine V_istore_n (q := 91) (lv' := [(3, .int (0 : Int32)), (0, .ref a0), (1, .int a1), (2, .int a2)]) X (TB.get tb_X9_kind 56 rfl) rfl rfl (Nat.le_of_ble_eq_true rfl) rfl ?_
              refine V_iconst (v := 0) (q := 92) X (TB.get tb_X9_kind 57 rfl) c_iconst_0 rfl ?_
              refine V_istore (q := 94) (lv' := [(4, .int (0 : Int32)), (3, .int (0 : Int32)), (0, .ref a0), (1, .int a1), (2, .int a2)]) X (TB.get tb_X9_kind 58 rfl) rfl (Nat.le_of_ble_eq_true rfl) rfl ?_
              refine jn_elim (P := (fun (k : Int32 → Option (Int32 × Hp)) => ∀ (v19 : Int32), k v19 = some res → V p l en (rmD 5) s m args below meth c 6 D tc B nn (Ar B nn) s.heap 0 0 (MQ below (QC D tc B nn (Ar B nn) (some (.int res.1)) res.2) args s 0 0 (Ar B nn)) h 134 [(0, .ref a0), (3, .int v19)] [])) e ?_ (fun j20 Jj20 e => ?_)
              · intro v19 e
                refine V_aload_n (q := 135) X (TB.get tb_X9_kind 81 rfl) rfl rfl rfl ?_
                refine V_iload_n (q := 136) X (TB.get tb_X9_kind 82 rfl) rfl rfl rfl ?_
                obtain ⟨p21, ep21, e⟩ := bs e
                refine V_callV (q := 139) (As := [.int v19]) (rest := []) (st' := [.int p21.1]) X (TB.get tb_X9_kind 83 rfl) rfl cv_RX9_248 (ok_X9_gives a0 v19 h p21 ep21).1 (ok_X9_gives a0 v19 h p21 ep21).2 (Nat.le_of_ble_eq_true rfl) rfl rfl (Nat.le_of_ble_eq_true rfl) rfl ?_
                cases e
                exact V_iret X hr hlk (TB.get tb_X9_kind 84 rfl)
              refine V_sub (lv' := [(0, .ref a0), (1, .int a1), (3, .int (0 : Int32)), (4, .int (0 : Int32))]) [2, 3, 1, 0] rfl ?_
              refine wh2_elim (P := fun v22 v23 => V p l en (rmD 5) s m args below meth c 6 D tc B nn (Ar B nn) s.heap 0 0 (MQ below (QC D tc B nn (Ar B nn) (some (.int res.1)) res.2) args s 0 0 (Ar B nn)) h 94 [(0, .ref a0), (1, .int a1), (3, .int v22), (4, .int v23)] []) (f := fu) ?_ e
              intro self24 v22 v23 ihself24 e
              unfold MX9_kind_B94 at e
              refine V_iload (q := 96) X (TB.get tb_X9_kind 59 rfl) rfl rfl ?_
              refine V_aload_n (q := 97) X (TB.get tb_X9_kind 60 rfl) rfl rfl rfl ?_
              obtain ⟨x25, ex25, e⟩ := bs e
              refine V_getR (q := 100) X (TB.get tb_X9_kind 61 rfl) rfl lf_RX9_13 ex25 ?_
              refine V_iconst (v := 1) (q := 101) X (TB.get tb_X9_kind 62 rfl) c_iconst_1 rfl ?_
              obtain ⟨x26, ex26, e⟩ := bs e
              refine V_iaload (q := 102) X (TB.get tb_X9_kind 63 rfl) rfl ex26 ?_
              refine V_icmp_ge (q := 105) (t := 134) X (TB.get tb_X9_kind 64 rfl) rfl rfl (fun hc => ?_) (fun hc => ?_)
              · have e := (if_pos hc).symm.trans e
                refine V_sub (lv' := [(0, .ref a0), (3, .int v22)]) [0, 2] rfl ?_
                exact Jj20 _ e
              · have e := (if_neg hc).symm.trans e
                refine V_iload_n (q := 106) X (TB.get tb_X9_kind 65 rfl) rfl rfl rfl ?_
                refine V_aload_n (q := 107) X (TB.get tb_X9_kind 66 rfl) rfl rfl rfl ?_
                refine V_getR (q := 110) X (TB.get tb_X9_kind 67 rfl) rfl lf_RX9_13 ex25 ?_
                refine V_sipush (v := 327) (q := 113) X (TB.get tb_X9_kind 68 rfl) c_sipush_327 rfl ?_
                refine V_iload (q := 115) X (TB.get tb_X9_kind 69 rfl) rfl rfl ?_
                refine V_iadd (q := 116) X (TB.get tb_X9_kind 70 rfl) rfl ?_
                obtain ⟨x27, ex27, e⟩ := bs e
                refine V_iaload (q := 117) X (TB.get tb_X9_kind 71 rfl) rfl ex27 ?_
                refine V_iload_n (q := 118) X (TB.get tb_X9_kind 72 rfl) rfl rfl rfl ?_
                refine jn_elim (P := (fun (k : Int32 → Option (Int32 × Hp)) => ∀ (w28 : Int32), k w28 = some res → V p l en (rmD 5) s m args below meth c 6 D tc B nn (Ar B nn) s.heap 0 0 (MQ below (QC D tc B nn (Ar B nn) (some (.int res.1)) res.2) args s 0 0 (Ar B nn)) h 126 [(0, .ref a0), (1, .int a1), (4, .int v23)] [.int w28, .int v22])) e ?_ (fun j29 Jj29 e => ?_)
                · intro w28 e
                  refine V_iadd (q := 127) X (TB.get tb_X9_kind 77 rfl) rfl ?_
                  refine V_istore_n (q := 128) (lv' := [(3, .int (v22 + w28)), (0, .ref a0), (1, .int a1), (4, .int v23)]) X (TB.get tb_X9_kind 78 rfl) rfl rfl (Nat.le_of_ble_eq_true rfl) rfl ?_
                  refine V_iinc (q := 131) (v := v23 + (1 : Int32)) (lv' := [(4, .int (v23 + (1 : Int32))), (3, .int (v22 + w28)), (0, .ref a0), (1, .int a1)]) X (TB.get tb_X9_kind 79 rfl) rfl rfl (by rw [c_iconst_1]) (Nat.le_of_ble_eq_true rfl) rfl ?_
                  refine V_goto (q := 94) X (TB.get tb_X9_kind 80 rfl) rfl ?_
                  refine V_sub (lv' := [(0, .ref a0), (1, .int a1), (3, .int (v22 + w28)), (4, .int (v23 + (1 : Int32)))]) [2, 3, 1, 0] rfl ?_
                  exact ihself24 _ _ e
                refine V_icmp_ne (q := 121) (t := 125) X (TB.get tb_X9_kind 73 rfl) rfl rfl (fun hc => ?_) (fun hc => ?_)
                · have e := (if_neg hc).symm.trans e
                  refine V_iconst (v := 0) (q := 126) X (TB.get tb_X9_kind 76 rfl) c_iconst_0 rfl ?_
                  refine V_sub (lv' := [(0, .ref a0), (1, .int a1), (4, .int v23)]) [0, 1, 3] rfl ?_
                  exact Jj29 _ e
                · have e := (if_pos hc).symm.trans e
                  refine V_iconst (v := 1) (q := 122) X (TB.get tb_X9_kind 74 rfl) c_iconst_1 rfl ?_
                  refine V_goto (q := 126) X (TB.get tb_X9_kind 75 rfl) rfl ?_
                  refine V_sub (lv' := [(0, .ref a0), (1, .int a1), (4, .int v23)]) [0, 1, 3] rfl ?_
                  exact Jj29 _ e
          · have e := (if_pos hc).symm.trans e
            refine V_aload_n (q := 71) X (TB.get tb_X9_kind 43 rfl) rfl rfl rfl ?_
            refine V_aload_n (q := 72) X (TB.get tb_X9_kind 44 rfl) rfl rfl rfl ?_
            obtain ⟨x30, ex30, e⟩ := bs e
            refine V_getR (q := 75) X (TB.get tb_X9_kind 45 rfl) rfl lf_RX9_13 ex30 ?_
            refine V_bipush (v := 7) (q := 77) X (TB.get tb_X9_kind 46 rfl) c_bipush_7 rfl ?_
            refine V_iload_n (q := 78) X (TB.get tb_X9_kind 47 rfl) rfl rfl rfl ?_
            refine V_iadd (q := 79) X (TB.get tb_X9_kind 48 rfl) rfl ?_
            obtain ⟨x31, ex31, e⟩ := bs e
            refine V_iaload (q := 80) X (TB.get tb_X9_kind 49 rfl) rfl ex31 ?_
            obtain ⟨p32, ep32, e⟩ := bs e
            refine V_callV (q := 83) (As := [.int x31]) (rest := []) (st' := [.int p32.1]) X (TB.get tb_X9_kind 50 rfl) rfl cv_RX9_248 (ok_X9_gives a0 x31 h p32 ep32).1 (ok_X9_gives a0 x31 h p32 ep32).2 (Nat.le_of_ble_eq_true rfl) rfl rfl (Nat.le_of_ble_eq_true rfl) rfl ?_
            cases e
            exact V_iret X hr hlk (TB.get tb_X9_kind 51 rfl)
        · have e := (if_pos hc).symm.trans e
          refine V_aload_n (q := 52) X (TB.get tb_X9_kind 31 rfl) rfl rfl rfl ?_
          refine V_aload_n (q := 53) X (TB.get tb_X9_kind 32 rfl) rfl rfl rfl ?_
          obtain ⟨x33, ex33, e⟩ := bs e
          refine V_getR (q := 56) X (TB.get tb_X9_kind 33 rfl) rfl lf_RX9_13 ex33 ?_
          refine V_bipush (v := 11) (q := 58) X (TB.get tb_X9_kind 34 rfl) c_bipush_11 rfl ?_
          refine V_iload_n (q := 59) X (TB.get tb_X9_kind 35 rfl) rfl rfl rfl ?_
          refine V_iadd (q := 60) X (TB.get tb_X9_kind 36 rfl) rfl ?_
          obtain ⟨x34, ex34, e⟩ := bs e
          refine V_iaload (q := 61) X (TB.get tb_X9_kind 37 rfl) rfl ex34 ?_
          obtain ⟨p35, ep35, e⟩ := bs e
          refine V_callV (q := 64) (As := [.int x34]) (rest := []) (st' := [.int p35.1]) X (TB.get tb_X9_kind 38 rfl) rfl cv_RX9_248 (ok_X9_gives a0 x34 h p35 ep35).1 (ok_X9_gives a0 x34 h p35 ep35).2 (Nat.le_of_ble_eq_true rfl) rfl rfl (Nat.le_of_ble_eq_true rfl) rfl ?_
          cases e
          exact V_iret X hr hlk (TB.get tb_X9_kind 39 rfl)
      · have e := (if_pos hc).symm.trans e
        refine V_aload_n (q := 34) X (TB.get tb_X9_kind 19 rfl) rfl rfl rfl ?_
        refine V_aload_n (q := 35) X (TB.get tb_X9_kind 20 rfl) rfl rfl rfl ?_
        obtain ⟨x36, ex36, e⟩ := bs e
        refine V_getR (q := 38) X (TB.get tb_X9_kind 21 rfl) rfl lf_RX9_13 ex36 ?_
        refine V_iconst (v := 3) (q := 39) X (TB.get tb_X9_kind 22 rfl) c_iconst_3 rfl ?_
        refine V_iload_n (q := 40) X (TB.get tb_X9_kind 23 rfl) rfl rfl rfl ?_
        refine V_iadd (q := 41) X (TB.get tb_X9_kind 24 rfl) rfl ?_
        obtain ⟨x37, ex37, e⟩ := bs e
        refine V_iaload (q := 42) X (TB.get tb_X9_kind 25 rfl) rfl ex37 ?_
        obtain ⟨p38, ep38, e⟩ := bs e
        refine V_callV (q := 45) (As := [.int x37]) (rest := []) (st' := [.int p38.1]) X (TB.get tb_X9_kind 26 rfl) rfl cv_RX9_248 (ok_X9_gives a0 x37 h p38 ep38).1 (ok_X9_gives a0 x37 h p38 ep38).2 (Nat.le_of_ble_eq_true rfl) rfl rfl (Nat.le_of_ble_eq_true rfl) rfl ?_
        cases e
        exact V_iret X hr hlk (TB.get tb_X9_kind 27 rfl)
    · have e := (if_pos hc).symm.trans e
      refine V_aload_n (q := 24) X (TB.get tb_X9_kind 13 rfl) rfl rfl rfl ?_
      refine V_iconst (v := 2) (q := 25) X (TB.get tb_X9_kind 14 rfl) c_iconst_2 rfl ?_
      obtain ⟨p39, ep39, e⟩ := bs e
      refine V_callV (q := 28) (As := [.int (2 : Int32)]) (rest := []) (st' := [.int p39.1]) X (TB.get tb_X9_kind 15 rfl) rfl cv_RX9_242 (ok_X9_refuse a0 (2 : Int32) h p39 ep39).1 (ok_X9_refuse a0 (2 : Int32) h p39 ep39).2 (Nat.le_of_ble_eq_true rfl) rfl rfl (Nat.le_of_ble_eq_true rfl) rfl ?_
      cases e
      exact V_iret X hr hlk (TB.get tb_X9_kind 16 rfl)
  · have e := (if_pos hc).symm.trans e
    refine V_aload_n (q := 10) X (TB.get tb_X9_kind 5 rfl) rfl rfl rfl ?_
    refine V_iconst (v := 1) (q := 11) X (TB.get tb_X9_kind 6 rfl) c_iconst_1 rfl ?_
    obtain ⟨p40, ep40, e⟩ := bs e
    refine V_callV (q := 14) (As := [.int (1 : Int32)]) (rest := []) (st' := [.int p40.1]) X (TB.get tb_X9_kind 7 rfl) rfl cv_RX9_242 (ok_X9_refuse a0 (1 : Int32) h p40 ep40).1 (ok_X9_refuse a0 (1 : Int32) h p40 ep40).2 (Nat.le_of_ble_eq_true rfl) rfl rfl (Nat.le_of_ble_eq_true rfl) rfl ?_
    cases e
    exact V_iret X hr hlk (TB.get tb_X9_kind 8 rfl)
set_option maxRecDepth 100000 in
set_option maxHeartbeats 4000000 in
theorem ok_X9_canSet (fu : Nat) (a0 : Nat) (a1 : Int32) (a2 : Int32) (h : Hp) (res : Int32) (e : MX9_canSet fu a0 a1 a2 h = some res) : CK yX9_canSet cX9_canSet 5 (some .int) 4 [.ref a0, .int a1, .int a2] h (some (.int res)) h ∧ (h.1 a0).1 = 9 := by
  obtain ⟨hcl, e⟩ := h_g_inv e
  refine ⟨CK_of pn_RX9 cm_X9_canSet (Nat.le_of_ble_eq_true rfl) ?_, hcl⟩
  intro l D tc B nn p en s m args below meth c X hr hlk
  replace X : CX p (rmD 4) s m args c cX9_canSet 5 RX9 D tc 4 := X
  show V p l en (rmD 4) s m args below meth c 5 D tc B nn (Ar B nn) s.heap 0 0 (MQ below (QC D tc B nn (Ar B nn) (some (.int res)) h) args s 0 0 (Ar B nn)) h 0 [(0, .ref a0), (1, .int a1), (2, .int a2)] []
  refine V_iconst (v := 0) (q := 1) X (TB.get tb_X9_canSet 0 rfl) c_iconst_0 rfl ?_
  refine V_istore_n (q := 2) (lv' := [(3, .int (0 : Int32)), (0, .ref a0), (1, .int a1), (2, .int a2)]) X (TB.get tb_X9_canSet 1 rfl) rfl rfl (Nat.le_of_ble_eq_true rfl) rfl ?_
  refine V_iconst (v := 0) (q := 3) X (TB.get tb_X9_canSet 2 rfl) c_iconst_0 rfl ?_
  refine V_istore (q := 5) (lv' := [(4, .int (0 : Int32)), (3, .int (0 : Int32)), (0, .ref a0), (1, .int a1), (2, .int a2)]) X (TB.get tb_X9_canSet 3 rfl) rfl (Nat.le_of_ble_eq_true rfl) rfl ?_
  refine V_sub (lv' := [(0, .ref a0), (1, .int a1), (2, .int a2), (3, .int (0 : Int32)), (4, .int (0 : Int32))]) [2, 3, 4, 1, 0] rfl ?_
  refine wh2_elim (P := fun v1 v2 => V p l en (rmD 4) s m args below meth c 5 D tc B nn (Ar B nn) s.heap 0 0 (MQ below (QC D tc B nn (Ar B nn) (some (.int res)) h) args s 0 0 (Ar B nn)) h 5 [(0, .ref a0), (1, .int a1), (2, .int a2), (3, .int v1), (4, .int v2)] []) (f := fu) ?_ e
  intro self3 v1 v2 ihself3 e
  unfold MX9_canSet_B5 at e
  refine V_iload (q := 7) X (TB.get tb_X9_canSet 4 rfl) rfl rfl ?_
  refine V_aload_n (q := 8) X (TB.get tb_X9_canSet 5 rfl) rfl rfl rfl ?_
  obtain ⟨x4, ex4, e⟩ := bs e
  refine V_getR (q := 11) X (TB.get tb_X9_canSet 6 rfl) rfl lf_RX9_13 ex4 ?_
  refine V_iconst (v := 3) (q := 12) X (TB.get tb_X9_canSet 7 rfl) c_iconst_3 rfl ?_
  refine V_iload_n (q := 13) X (TB.get tb_X9_canSet 8 rfl) rfl rfl rfl ?_
  refine V_iadd (q := 14) X (TB.get tb_X9_canSet 9 rfl) rfl ?_
  obtain ⟨x5, ex5, e⟩ := bs e
  refine V_iaload (q := 15) X (TB.get tb_X9_canSet 10 rfl) rfl ex5 ?_
  refine V_icmp_ge (q := 18) (t := 46) X (TB.get tb_X9_canSet 11 rfl) rfl rfl (fun hc => ?_) (fun hc => ?_)
  · have e := (if_pos hc).symm.trans e
    refine V_iload_n (q := 47) X (TB.get tb_X9_canSet 28 rfl) rfl rfl rfl ?_
    cases e
    exact V_iret X hr hlk (TB.get tb_X9_canSet 29 rfl)
  · have e := (if_neg hc).symm.trans e
    refine V_iload_n (q := 19) X (TB.get tb_X9_canSet 12 rfl) rfl rfl rfl ?_
    refine V_aload_n (q := 20) X (TB.get tb_X9_canSet 13 rfl) rfl rfl rfl ?_
    refine V_iload_n (q := 21) X (TB.get tb_X9_canSet 14 rfl) rfl rfl rfl ?_
    refine V_iload_n (q := 22) X (TB.get tb_X9_canSet 15 rfl) rfl rfl rfl ?_
    refine V_iload (q := 24) X (TB.get tb_X9_canSet 16 rfl) rfl rfl ?_
    obtain ⟨x6, ex6, e⟩ := bs e
    refine V_callV (q := 27) (As := [.int a1, .int a2, .int v2]) (rest := [.int v1]) (st' := [.int x6, .int v1]) X (TB.get tb_X9_canSet 17 rfl) rfl cv_RX9_261 (ok_X9_canBe a0 a1 a2 v2 h x6 ex6).1 (ok_X9_canBe a0 a1 a2 v2 h x6 ex6).2 (Nat.le_of_ble_eq_true rfl) rfl rfl (Nat.le_of_ble_eq_true rfl) rfl ?_
    refine jn_elim (P := (fun (k : Int32 → Option (Int32)) => ∀ (w7 : Int32), k w7 = some res → V p l en (rmD 4) s m args below meth c 5 D tc B nn (Ar B nn) s.heap 0 0 (MQ below (QC D tc B nn (Ar B nn) (some (.int res)) h) args s 0 0 (Ar B nn)) h 38 [(0, .ref a0), (1, .int a1), (2, .int a2), (4, .int v2)] [.int w7, .int v1])) e ?_ (fun j8 Jj8 e => ?_)
    · intro w7 e
      refine V_ior (q := 39) X (TB.get tb_X9_canSet 24 rfl) rfl ?_
      refine V_istore_n (q := 40) (lv' := [(3, .int (v1 ||| w7)), (0, .ref a0), (1, .int a1), (2, .int a2), (4, .int v2)]) X (TB.get tb_X9_canSet 25 rfl) rfl rfl (Nat.le_of_ble_eq_true rfl) rfl ?_
      refine V_iinc (q := 43) (v := v2 + (1 : Int32)) (lv' := [(4, .int (v2 + (1 : Int32))), (3, .int (v1 ||| w7)), (0, .ref a0), (1, .int a1), (2, .int a2)]) X (TB.get tb_X9_canSet 26 rfl) rfl rfl (by rw [c_iconst_1]) (Nat.le_of_ble_eq_true rfl) rfl ?_
      refine V_goto (q := 5) X (TB.get tb_X9_canSet 27 rfl) rfl ?_
      refine V_sub (lv' := [(0, .ref a0), (1, .int a1), (2, .int a2), (3, .int (v1 ||| w7)), (4, .int (v2 + (1 : Int32)))]) [2, 3, 4, 1, 0] rfl ?_
      exact ihself3 _ _ e
    refine V_if_eq (q := 30) (t := 37) X (TB.get tb_X9_canSet 18 rfl) rfl rfl (fun hc => ?_) (fun hc => ?_)
    · have e := (if_pos hc).symm.trans e
      refine V_iconst (v := 0) (q := 38) X (TB.get tb_X9_canSet 23 rfl) c_iconst_0 rfl ?_
      refine V_sub (lv' := [(0, .ref a0), (1, .int a1), (2, .int a2), (4, .int v2)]) [0, 1, 2, 4] rfl ?_
      exact Jj8 _ e
    · have e := (if_neg hc).symm.trans e
      refine V_iconst (v := 1) (q := 31) X (TB.get tb_X9_canSet 19 rfl) c_iconst_1 rfl ?_
      refine V_iload (q := 33) X (TB.get tb_X9_canSet 20 rfl) rfl rfl ?_
      refine V_ishl (q := 34) X (TB.get tb_X9_canSet 21 rfl) rfl ?_
      refine V_goto (q := 38) X (TB.get tb_X9_canSet 22 rfl) rfl ?_
      refine V_sub (lv' := [(0, .ref a0), (1, .int a1), (2, .int a2), (4, .int v2)]) [0, 1, 2, 4] rfl ?_
      exact Jj8 _ e
set_option maxRecDepth 100000 in
set_option maxHeartbeats 4000000 in
theorem ok_X9_method (fu : Nat) (a0 : Nat) (a1 : Int32) (a2 : Int32) (a3 : Int32) (h : Hp) (res : Int32 × Hp) (e : MX9_method fu a0 a1 a2 a3 h = some res) : CK yX9_method cX9_method 4 (some .int) 5 [.ref a0, .int a1, .int a2, .int a3] h (some (.int res.1)) res.2 ∧ (h.1 a0).1 = 9 := by
  obtain ⟨hcl, e⟩ := h_g_inv e
  refine ⟨CK_of pn_RX9 cm_X9_method (Nat.le_of_ble_eq_true rfl) ?_, hcl⟩
  intro l D tc B nn p en s m args below meth c X hr hlk
  replace X : CX p (rmD 5) s m args c cX9_method 4 RX9 D tc 5 := X
  show V p l en (rmD 5) s m args below meth c 4 D tc B nn (Ar B nn) s.heap 0 0 (MQ below (QC D tc B nn (Ar B nn) (some (.int res.1)) res.2) args s 0 0 (Ar B nn)) h 0 [(0, .ref a0), (1, .int a1), (2, .int a2), (3, .int a3)] []
  refine V_iload_n (q := 1) X (TB.get tb_X9_method 0 rfl) rfl rfl rfl ?_
  refine V_iconst (v := 0) (q := 2) X (TB.get tb_X9_method 1 rfl) c_iconst_0 rfl ?_
  refine V_iconst (v := 1) (q := 3) X (TB.get tb_X9_method 2 rfl) c_iconst_1 rfl ?_
  obtain ⟨x1, ex1, e⟩ := bs e
  refine V_callS (q := 6) (As := [.int a3, .int (0 : Int32), .int (1 : Int32)]) (rest := []) (st' := [.int x1]) X (TB.get tb_X9_method 3 rfl) rfl cs_RX9_239 (ok_X9_isFrom a3 (0 : Int32) (1 : Int32) h x1 ex1) (Nat.le_of_ble_eq_true rfl) rfl rfl (Nat.le_of_ble_eq_true rfl) rfl ?_
  refine V_if_ne (q := 9) (t := 15) X (TB.get tb_X9_method 4 rfl) rfl rfl (fun hc => ?_) (fun hc => ?_)
  · have e := (if_neg hc).symm.trans e
    refine V_aload_n (q := 16) X (TB.get tb_X9_method 9 rfl) rfl rfl rfl ?_
    refine V_iload_n (q := 17) X (TB.get tb_X9_method 10 rfl) rfl rfl rfl ?_
    refine V_iload_n (q := 18) X (TB.get tb_X9_method 11 rfl) rfl rfl rfl ?_
    obtain ⟨x2, ex2, e⟩ := bs e
    refine V_callV (q := 21) (As := [.int a1, .int a2]) (rest := []) (st' := [.int x2]) X (TB.get tb_X9_method 12 rfl) rfl cv_RX9_270 (ok_X9_isMethod a0 a1 a2 h x2 ex2).1 (ok_X9_isMethod a0 a1 a2 h x2 ex2).2 (Nat.le_of_ble_eq_true rfl) rfl rfl (Nat.le_of_ble_eq_true rfl) rfl ?_
    refine V_if_ne (q := 24) (t := 30) X (TB.get tb_X9_method 13 rfl) rfl rfl (fun hc => ?_) (fun hc => ?_)
    · have e := (if_neg hc).symm.trans e
      refine V_aload_n (q := 31) X (TB.get tb_X9_method 18 rfl) rfl rfl rfl ?_
      refine V_iload_n (q := 32) X (TB.get tb_X9_method 19 rfl) rfl rfl rfl ?_
      refine jn_elim (P := (fun (k : Int32 → Option (Int32 × Hp)) => ∀ (w3 : Int32), k w3 = some res → V p l en (rmD 5) s m args below meth c 4 D tc B nn (Ar B nn) s.heap 0 0 (MQ below (QC D tc B nn (Ar B nn) (some (.int res.1)) res.2) args s 0 0 (Ar B nn)) h 57 [] [.int w3, .ref a0])) e ?_ (fun j4 Jj4 e => ?_)
      · intro w3 e
        obtain ⟨p5, ep5, e⟩ := bs e
        refine V_callV (q := 60) (As := [.int w3]) (rest := []) (st' := [.int p5.1]) X (TB.get tb_X9_method 34 rfl) rfl cv_RX9_248 (ok_X9_gives a0 w3 h p5 ep5).1 (ok_X9_gives a0 w3 h p5 ep5).2 (Nat.le_of_ble_eq_true rfl) rfl rfl (Nat.le_of_ble_eq_true rfl) rfl ?_
        cases e
        exact V_iret X hr hlk (TB.get tb_X9_method 35 rfl)
      refine V_if_ne (q := 35) (t := 51) X (TB.get tb_X9_method 20 rfl) rfl rfl (fun hc => ?_) (fun hc => ?_)
      · have e := (if_neg hc).symm.trans e
        refine V_aload_n (q := 52) X (TB.get tb_X9_method 30 rfl) rfl rfl rfl ?_
        refine V_iload_n (q := 53) X (TB.get tb_X9_method 31 rfl) rfl rfl rfl ?_
        refine V_iload_n (q := 54) X (TB.get tb_X9_method 32 rfl) rfl rfl rfl ?_
        obtain ⟨x6, ex6, e⟩ := bs e
        refine V_callV (q := 57) (As := [.int a1, .int a2]) (rest := [.ref a0]) (st' := [.int x6, .ref a0]) X (TB.get tb_X9_method 33 rfl) rfl cv_RX9_273 (ok_X9_canSet fu a0 a1 a2 h x6 ex6).1 (ok_X9_canSet fu a0 a1 a2 h x6 ex6).2 (Nat.le_of_ble_eq_true rfl) rfl rfl (Nat.le_of_ble_eq_true rfl) rfl ?_
        refine V_sub (lv' := []) [] rfl ?_
        exact Jj4 _ e
      · have e := (if_pos hc).symm.trans e
        refine V_aload_n (q := 36) X (TB.get tb_X9_method 21 rfl) rfl rfl rfl ?_
        obtain ⟨x7, ex7, e⟩ := bs e
        refine V_getR (q := 39) X (TB.get tb_X9_method 22 rfl) rfl lf_RX9_13 ex7 ?_
        refine V_bipush (v := 15) (q := 41) X (TB.get tb_X9_method 23 rfl) c_bipush_15 rfl ?_
        refine V_iload_n (q := 42) X (TB.get tb_X9_method 24 rfl) rfl rfl rfl ?_
        refine V_iload_n (q := 43) X (TB.get tb_X9_method 25 rfl) rfl rfl rfl ?_
        obtain ⟨x8, ex8, e⟩ := bs e
        refine V_callS (q := 46) (As := [.int a1, .int a2]) (rest := [.int (15 : Int32), .ref x7, .ref a0]) (st' := [.int x8, .int (15 : Int32), .ref x7, .ref a0]) X (TB.get tb_X9_method 26 rfl) rfl cs_RX9_188 (ok_X9_methodAt a1 a2 h x8 ex8) (Nat.le_of_ble_eq_true rfl) rfl rfl (Nat.le_of_ble_eq_true rfl) rfl ?_
        refine V_iadd (q := 47) X (TB.get tb_X9_method 27 rfl) rfl ?_
        obtain ⟨x9, ex9, e⟩ := bs e
        refine V_iaload (q := 48) X (TB.get tb_X9_method 28 rfl) rfl ex9 ?_
        refine V_goto (q := 57) X (TB.get tb_X9_method 29 rfl) rfl ?_
        refine V_sub (lv' := []) [] rfl ?_
        exact Jj4 _ e
    · have e := (if_pos hc).symm.trans e
      refine V_aload_n (q := 25) X (TB.get tb_X9_method 14 rfl) rfl rfl rfl ?_
      refine V_iconst (v := 2) (q := 26) X (TB.get tb_X9_method 15 rfl) c_iconst_2 rfl ?_
      obtain ⟨p10, ep10, e⟩ := bs e
      refine V_callV (q := 29) (As := [.int (2 : Int32)]) (rest := []) (st' := [.int p10.1]) X (TB.get tb_X9_method 16 rfl) rfl cv_RX9_242 (ok_X9_refuse a0 (2 : Int32) h p10 ep10).1 (ok_X9_refuse a0 (2 : Int32) h p10 ep10).2 (Nat.le_of_ble_eq_true rfl) rfl rfl (Nat.le_of_ble_eq_true rfl) rfl ?_
      cases e
      exact V_iret X hr hlk (TB.get tb_X9_method 17 rfl)
  · have e := (if_pos hc).symm.trans e
    refine V_aload_n (q := 10) X (TB.get tb_X9_method 5 rfl) rfl rfl rfl ?_
    refine V_iconst (v := 1) (q := 11) X (TB.get tb_X9_method 6 rfl) c_iconst_1 rfl ?_
    obtain ⟨p11, ep11, e⟩ := bs e
    refine V_callV (q := 14) (As := [.int (1 : Int32)]) (rest := []) (st' := [.int p11.1]) X (TB.get tb_X9_method 7 rfl) rfl cv_RX9_242 (ok_X9_refuse a0 (1 : Int32) h p11 ep11).1 (ok_X9_refuse a0 (1 : Int32) h p11 ep11).2 (Nat.le_of_ble_eq_true rfl) rfl rfl (Nat.le_of_ble_eq_true rfl) rfl ?_
    cases e
    exact V_iret X hr hlk (TB.get tb_X9_method 8 rfl)
set_option maxRecDepth 100000 in
set_option maxHeartbeats 4000000 in
theorem ok_X9_comes (a0 : Nat) (a1 : Int32) (a2 : Int32) (a3 : Int32) (a4 : Int32) (h : Hp) (res : Int32 × Hp) (e : MX9_comes a0 a1 a2 a3 a4 h = some res) : CK yX9_comes cX9_comes 6 (some .int) 3 [.ref a0, .int a1, .int a2, .int a3, .int a4] h (some (.int res.1)) res.2 ∧ (h.1 a0).1 = 9 := by
  obtain ⟨hcl, e⟩ := h_g_inv e
  refine ⟨CK_of pn_RX9 cm_X9_comes (Nat.le_of_ble_eq_true rfl) ?_, hcl⟩
  intro l D tc B nn p en s m args below meth c X hr hlk
  replace X : CX p (rmD 3) s m args c cX9_comes 6 RX9 D tc 3 := X
  show V p l en (rmD 3) s m args below meth c 6 D tc B nn (Ar B nn) s.heap 0 0 (MQ below (QC D tc B nn (Ar B nn) (some (.int res.1)) res.2) args s 0 0 (Ar B nn)) h 0 [(0, .ref a0), (1, .int a1), (2, .int a2), (3, .int a3), (4, .int a4)] []
  refine V_aload_n (q := 1) X (TB.get tb_X9_comes 0 rfl) rfl rfl rfl ?_
  refine V_iload_n (q := 2) X (TB.get tb_X9_comes 1 rfl) rfl rfl rfl ?_
  refine V_iload_n (q := 3) X (TB.get tb_X9_comes 2 rfl) rfl rfl rfl ?_
  obtain ⟨x1, ex1, e⟩ := bs e
  refine V_callV (q := 6) (As := [.int a1, .int a2]) (rest := []) (st' := [.int x1]) X (TB.get tb_X9_comes 3 rfl) rfl cv_RX9_270 (ok_X9_isMethod a0 a1 a2 h x1 ex1).1 (ok_X9_isMethod a0 a1 a2 h x1 ex1).2 (Nat.le_of_ble_eq_true rfl) rfl rfl (Nat.le_of_ble_eq_true rfl) rfl ?_
  refine jn_elim (P := (fun (k : Option (Int32 × Hp)) => k = some res → V p l en (rmD 3) s m args below meth c 6 D tc B nn (Ar B nn) s.heap 0 0 (MQ below (QC D tc B nn (Ar B nn) (some (.int res.1)) res.2) args s 0 0 (Ar B nn)) h 18 [(0, .ref a0)] [])) e ?_ (fun j2 Jj2 e => ?_)
  · intro e
    refine V_aload_n (q := 19) X (TB.get tb_X9_comes 10 rfl) rfl rfl rfl ?_
    refine V_iconst (v := 2) (q := 20) X (TB.get tb_X9_comes 11 rfl) c_iconst_2 rfl ?_
    obtain ⟨p3, ep3, e⟩ := bs e
    refine V_callV (q := 23) (As := [.int (2 : Int32)]) (rest := []) (st' := [.int p3.1]) X (TB.get tb_X9_comes 12 rfl) rfl cv_RX9_242 (ok_X9_refuse a0 (2 : Int32) h p3 ep3).1 (ok_X9_refuse a0 (2 : Int32) h p3 ep3).2 (Nat.le_of_ble_eq_true rfl) rfl rfl (Nat.le_of_ble_eq_true rfl) rfl ?_
    cases e
    exact V_iret X hr hlk (TB.get tb_X9_comes 13 rfl)
  refine V_if_eq (q := 9) (t := 18) X (TB.get tb_X9_comes 4 rfl) rfl rfl (fun hc => ?_) (fun hc => ?_)
  · have e := (if_pos hc).symm.trans e
    refine V_sub (lv' := [(0, .ref a0)]) [0] rfl ?_
    exact Jj2 e
  · have e := (if_neg hc).symm.trans e
    refine V_aload_n (q := 10) X (TB.get tb_X9_comes 5 rfl) rfl rfl rfl ?_
    refine V_iload_n (q := 11) X (TB.get tb_X9_comes 6 rfl) rfl rfl rfl ?_
    refine V_iload_n (q := 12) X (TB.get tb_X9_comes 7 rfl) rfl rfl rfl ?_
    obtain ⟨x4, ex4, e⟩ := bs e
    refine V_callV (q := 15) (As := [.int a1, .int a3]) (rest := []) (st' := [.int x4]) X (TB.get tb_X9_comes 8 rfl) rfl cv_RX9_276 (ok_X9_isState a0 a1 a3 h x4 ex4).1 (ok_X9_isState a0 a1 a3 h x4 ex4).2 (Nat.le_of_ble_eq_true rfl) rfl rfl (Nat.le_of_ble_eq_true rfl) rfl ?_
    refine V_if_ne (q := 18) (t := 24) X (TB.get tb_X9_comes 9 rfl) rfl rfl (fun hc => ?_) (fun hc => ?_)
    · have e := (if_neg hc).symm.trans e
      refine V_iload (q := 26) X (TB.get tb_X9_comes 14 rfl) rfl rfl ?_
      refine jn_elim (P := (fun (k : Int32 → Option (Int32 × Hp)) => ∀ (w5 : Int32), k w5 = some res → V p l en (rmD 3) s m args below meth c 6 D tc B nn (Ar B nn) s.heap 0 0 (MQ below (QC D tc B nn (Ar B nn) (some (.int res.1)) res.2) args s 0 0 (Ar B nn)) h 46 [(0, .ref a0)] [.int w5])) e ?_ (fun j6 Jj6 e => ?_)
      · intro w5 e
        refine V_istore (q := 48) (lv' := [(5, .int w5), (0, .ref a0)]) X (TB.get tb_X9_comes 27 rfl) rfl (Nat.le_of_ble_eq_true rfl) rfl ?_
        refine V_iload (q := 50) X (TB.get tb_X9_comes 28 rfl) rfl rfl ?_
        refine V_iconst (v := -1) (q := 51) X (TB.get tb_X9_comes 29 rfl) c_iconst_m1 rfl ?_
        refine V_icmp_ne (q := 54) (t := 62) X (TB.get tb_X9_comes 30 rfl) rfl rfl (fun hc => ?_) (fun hc => ?_)
        · have e := (if_neg hc).symm.trans e
          refine V_aload_n (q := 63) X (TB.get tb_X9_comes 35 rfl) rfl rfl rfl ?_
          refine V_iload (q := 65) X (TB.get tb_X9_comes 36 rfl) rfl rfl ?_
          obtain ⟨p7, ep7, e⟩ := bs e
          refine V_callV (q := 68) (As := [.int w5]) (rest := []) (st' := [.int p7.1]) X (TB.get tb_X9_comes 37 rfl) rfl cv_RX9_248 (ok_X9_gives a0 w5 h p7 ep7).1 (ok_X9_gives a0 w5 h p7 ep7).2 (Nat.le_of_ble_eq_true rfl) rfl rfl (Nat.le_of_ble_eq_true rfl) rfl ?_
          cases e
          exact V_iret X hr hlk (TB.get tb_X9_comes 38 rfl)
        · have e := (if_pos hc).symm.trans e
          refine V_aload_n (q := 55) X (TB.get tb_X9_comes 31 rfl) rfl rfl rfl ?_
          refine V_iconst (v := 5) (q := 56) X (TB.get tb_X9_comes 32 rfl) c_iconst_5 rfl ?_
          obtain ⟨p8, ep8, e⟩ := bs e
          refine V_callV (q := 59) (As := [.int (5 : Int32)]) (rest := []) (st' := [.int p8.1]) X (TB.get tb_X9_comes 33 rfl) rfl cv_RX9_242 (ok_X9_refuse a0 (5 : Int32) h p8 ep8).1 (ok_X9_refuse a0 (5 : Int32) h p8 ep8).2 (Nat.le_of_ble_eq_true rfl) rfl rfl (Nat.le_of_ble_eq_true rfl) rfl ?_
          refine V_goto (q := 68) X (TB.get tb_X9_comes 34 rfl) rfl ?_
          cases e
          exact V_iret X hr hlk (TB.get tb_X9_comes 38 rfl)
      refine V_if_eq (q := 29) (t := 39) X (TB.get tb_X9_comes 15 rfl) rfl rfl (fun hc => ?_) (fun hc => ?_)
      · have e := (if_pos hc).symm.trans e
        refine V_aload_n (q := 40) X (TB.get tb_X9_comes 22 rfl) rfl rfl rfl ?_
        refine V_iload_n (q := 41) X (TB.get tb_X9_comes 23 rfl) rfl rfl rfl ?_
        refine V_iload_n (q := 42) X (TB.get tb_X9_comes 24 rfl) rfl rfl rfl ?_
        refine V_iload_n (q := 43) X (TB.get tb_X9_comes 25 rfl) rfl rfl rfl ?_
        obtain ⟨x9, ex9, e⟩ := bs e
        refine V_callV (q := 46) (As := [.int a1, .int a2, .int a3]) (rest := []) (st' := [.int x9]) X (TB.get tb_X9_comes 26 rfl) rfl cv_RX9_264 (ok_X9_no a0 a1 a2 a3 h x9 ex9).1 (ok_X9_no a0 a1 a2 a3 h x9 ex9).2 (Nat.le_of_ble_eq_true rfl) rfl rfl (Nat.le_of_ble_eq_true rfl) rfl ?_
        refine V_sub (lv' := [(0, .ref a0)]) [0] rfl ?_
        exact Jj6 _ e
      · have e := (if_neg hc).symm.trans e
        refine V_aload_n (q := 30) X (TB.get tb_X9_comes 16 rfl) rfl rfl rfl ?_
        refine V_iload_n (q := 31) X (TB.get tb_X9_comes 17 rfl) rfl rfl rfl ?_
        refine V_iload_n (q := 32) X (TB.get tb_X9_comes 18 rfl) rfl rfl rfl ?_
        refine V_iload_n (q := 33) X (TB.get tb_X9_comes 19 rfl) rfl rfl rfl ?_
        obtain ⟨x10, ex10, e⟩ := bs e
        refine V_callV (q := 36) (As := [.int a1, .int a2, .int a3]) (rest := []) (st' := [.int x10]) X (TB.get tb_X9_comes 20 rfl) rfl cv_RX9_254 (ok_X9_yes a0 a1 a2 a3 h x10 ex10).1 (ok_X9_yes a0 a1 a2 a3 h x10 ex10).2 (Nat.le_of_ble_eq_true rfl) rfl rfl (Nat.le_of_ble_eq_true rfl) rfl ?_
        refine V_goto (q := 46) X (TB.get tb_X9_comes 21 rfl) rfl ?_
        refine V_sub (lv' := [(0, .ref a0)]) [0] rfl ?_
        exact Jj6 _ e
    · have e := (if_pos hc).symm.trans e
      refine V_sub (lv' := [(0, .ref a0)]) [0] rfl ?_
      exact Jj2 e
set_option maxRecDepth 100000 in
set_option maxHeartbeats 4000000 in
theorem ok_X9_tell (a0 : Nat) (a1 : Int32) (a2 : Int32) (a3 : Int32) (a4 : Int32) (a5 : Int32) (h : Hp) (res : Int32 × Hp) (e : MX9_tell a0 a1 a2 a3 a4 a5 h = some res) : CK yX9_tell cX9_tell 9 (some .int) 3 [.ref a0, .int a1, .int a2, .int a3, .int a4, .int a5] h (some (.int res.1)) res.2 ∧ (h.1 a0).1 = 9 := by
  obtain ⟨hcl, e⟩ := h_g_inv e
  refine ⟨CK_of pn_RX9 cm_X9_tell (Nat.le_of_ble_eq_true rfl) ?_, hcl⟩
  intro l D tc B nn p en s m args below meth c X hr hlk
  replace X : CX p (rmD 3) s m args c cX9_tell 9 RX9 D tc 3 := X
  show V p l en (rmD 3) s m args below meth c 9 D tc B nn (Ar B nn) s.heap 0 0 (MQ below (QC D tc B nn (Ar B nn) (some (.int res.1)) res.2) args s 0 0 (Ar B nn)) h 0 [(0, .ref a0), (1, .int a1), (2, .int a2), (3, .int a3), (4, .int a4), (5, .int a5)] []
  refine V_iload (q := 2) X (TB.get tb_X9_tell 0 rfl) rfl rfl ?_
  refine V_iconst (v := -1) (q := 3) X (TB.get tb_X9_tell 1 rfl) c_iconst_m1 rfl ?_
  refine V_icmp_ge (q := 6) (t := 12) X (TB.get tb_X9_tell 2 rfl) rfl rfl (fun hc => ?_) (fun hc => ?_)
  · have e := (if_pos hc).symm.trans e
    refine V_aload_n (q := 13) X (TB.get tb_X9_tell 7 rfl) rfl rfl rfl ?_
    refine V_iload_n (q := 14) X (TB.get tb_X9_tell 8 rfl) rfl rfl rfl ?_
    refine V_iload_n (q := 15) X (TB.get tb_X9_tell 9 rfl) rfl rfl rfl ?_
    obtain ⟨x1, ex1, e⟩ := bs e
    refine V_callV (q := 18) (As := [.int a1, .int a2]) (rest := []) (st' := [.int x1]) X (TB.get tb_X9_tell 10 rfl) rfl cv_RX9_270 (ok_X9_isMethod a0 a1 a2 h x1 ex1).1 (ok_X9_isMethod a0 a1 a2 h x1 ex1).2 (Nat.le_of_ble_eq_true rfl) rfl rfl (Nat.le_of_ble_eq_true rfl) rfl ?_
    refine jn_elim (P := (fun (k : Option (Int32 × Hp)) => k = some res → V p l en (rmD 3) s m args below meth c 9 D tc B nn (Ar B nn) s.heap 0 0 (MQ below (QC D tc B nn (Ar B nn) (some (.int res.1)) res.2) args s 0 0 (Ar B nn)) h 46 [(0, .ref a0)] [])) e ?_ (fun j2 Jj2 e => ?_)
    · intro e
      refine V_aload_n (q := 47) X (TB.get tb_X9_tell 25 rfl) rfl rfl rfl ?_
      refine V_iconst (v := 2) (q := 48) X (TB.get tb_X9_tell 26 rfl) c_iconst_2 rfl ?_
      obtain ⟨p3, ep3, e⟩ := bs e
      refine V_callV (q := 51) (As := [.int (2 : Int32)]) (rest := []) (st' := [.int p3.1]) X (TB.get tb_X9_tell 27 rfl) rfl cv_RX9_242 (ok_X9_refuse a0 (2 : Int32) h p3 ep3).1 (ok_X9_refuse a0 (2 : Int32) h p3 ep3).2 (Nat.le_of_ble_eq_true rfl) rfl rfl (Nat.le_of_ble_eq_true rfl) rfl ?_
      cases e
      exact V_iret X hr hlk (TB.get tb_X9_tell 28 rfl)
    refine V_if_eq (q := 21) (t := 46) X (TB.get tb_X9_tell 11 rfl) rfl rfl (fun hc => ?_) (fun hc => ?_)
    · have e := (if_pos hc).symm.trans e
      refine V_sub (lv' := [(0, .ref a0)]) [0] rfl ?_
      exact Jj2 e
    · have e := (if_neg hc).symm.trans e
      refine V_aload_n (q := 22) X (TB.get tb_X9_tell 12 rfl) rfl rfl rfl ?_
      refine V_iload_n (q := 23) X (TB.get tb_X9_tell 13 rfl) rfl rfl rfl ?_
      refine V_iload_n (q := 24) X (TB.get tb_X9_tell 14 rfl) rfl rfl rfl ?_
      obtain ⟨x4, ex4, e⟩ := bs e
      refine V_callV (q := 27) (As := [.int a1, .int a3]) (rest := []) (st' := [.int x4]) X (TB.get tb_X9_tell 15 rfl) rfl cv_RX9_276 (ok_X9_isState a0 a1 a3 h x4 ex4).1 (ok_X9_isState a0 a1 a3 h x4 ex4).2 (Nat.le_of_ble_eq_true rfl) rfl rfl (Nat.le_of_ble_eq_true rfl) rfl ?_
      refine V_if_eq (q := 30) (t := 46) X (TB.get tb_X9_tell 16 rfl) rfl rfl (fun hc => ?_) (fun hc => ?_)
      · have e := (if_pos hc).symm.trans e
        refine V_sub (lv' := [(0, .ref a0)]) [0] rfl ?_
        exact Jj2 e
      · have e := (if_neg hc).symm.trans e
        refine V_iload (q := 32) X (TB.get tb_X9_tell 17 rfl) rfl rfl ?_
        refine V_iconst (v := -1) (q := 33) X (TB.get tb_X9_tell 18 rfl) c_iconst_m1 rfl ?_
        refine jn_elim (P := (fun (k : Option (Int32 × Hp)) => k = some res → V p l en (rmD 3) s m args below meth c 9 D tc B nn (Ar B nn) s.heap 0 0 (MQ below (QC D tc B nn (Ar B nn) (some (.int res.1)) res.2) args s 0 0 (Ar B nn)) h 52 [(0, .ref a0), (1, .int a1), (2, .int a2), (3, .int a3), (4, .int a4), (5, .int a5)] [])) e ?_ (fun j5 Jj5 e => ?_)
        · intro e
          refine V_iload (q := 54) X (TB.get tb_X9_tell 29 rfl) rfl rfl ?_
          refine jn_elim (P := (fun (k : Int32 → Option (Int32 × Hp)) => ∀ (w6 : Int32), k w6 = some res → V p l en (rmD 3) s m args below meth c 9 D tc B nn (Ar B nn) s.heap 0 0 (MQ below (QC D tc B nn (Ar B nn) (some (.int res.1)) res.2) args s 0 0 (Ar B nn)) h 74 [(0, .ref a0), (1, .int a1), (2, .int a2), (3, .int a3), (4, .int a4), (5, .int a5)] [.int w6])) e ?_ (fun j7 Jj7 e => ?_)
          · intro w6 e
            refine V_istore (q := 76) (lv' := [(6, .int w6), (0, .ref a0), (1, .int a1), (2, .int a2), (3, .int a3), (4, .int a4), (5, .int a5)]) X (TB.get tb_X9_tell 42 rfl) rfl (Nat.le_of_ble_eq_true rfl) rfl ?_
            refine V_iload (q := 78) X (TB.get tb_X9_tell 43 rfl) rfl rfl ?_
            refine V_iload (q := 80) X (TB.get tb_X9_tell 44 rfl) rfl rfl ?_
            refine V_icmp_ne (q := 83) (t := 89) X (TB.get tb_X9_tell 45 rfl) rfl rfl (fun hc => ?_) (fun hc => ?_)
            · have e := (if_neg hc).symm.trans e
              refine V_aload_n (q := 90) X (TB.get tb_X9_tell 50 rfl) rfl rfl rfl ?_
              obtain ⟨x8, ex8, e⟩ := bs e
              refine V_getR (q := 93) X (TB.get tb_X9_tell 51 rfl) rfl lf_RX9_13 ex8 ?_
              refine V_bipush (v := 15) (q := 95) X (TB.get tb_X9_tell 52 rfl) c_bipush_15 rfl ?_
              refine V_iload_n (q := 96) X (TB.get tb_X9_tell 53 rfl) rfl rfl rfl ?_
              refine V_iload_n (q := 97) X (TB.get tb_X9_tell 54 rfl) rfl rfl rfl ?_
              obtain ⟨x9, ex9, e⟩ := bs e
              refine V_callS (q := 100) (As := [.int a1, .int a2]) (rest := [.int (15 : Int32), .ref x8]) (st' := [.int x9, .int (15 : Int32), .ref x8]) X (TB.get tb_X9_tell 55 rfl) rfl cs_RX9_188 (ok_X9_methodAt a1 a2 h x9 ex9) (Nat.le_of_ble_eq_true rfl) rfl rfl (Nat.le_of_ble_eq_true rfl) rfl ?_
              refine V_iadd (q := 101) X (TB.get tb_X9_tell 56 rfl) rfl ?_
              obtain ⟨x10, ex10, e⟩ := bs e
              refine V_iaload (q := 102) X (TB.get tb_X9_tell 57 rfl) rfl ex10 ?_
              refine V_istore (q := 104) (lv' := [(7, .int x10), (6, .int w6), (0, .ref a0), (1, .int a1), (2, .int a2), (3, .int a3), (4, .int a4), (5, .int a5)]) X (TB.get tb_X9_tell 58 rfl) rfl (Nat.le_of_ble_eq_true rfl) rfl ?_
              refine V_iload (q := 106) X (TB.get tb_X9_tell 59 rfl) rfl rfl ?_
              refine V_iconst (v := 2) (q := 107) X (TB.get tb_X9_tell 60 rfl) c_iconst_2 rfl ?_
              refine jn_elim (P := (fun (k : Option (Int32 × Hp)) => k = some res → V p l en (rmD 3) s m args below meth c 9 D tc B nn (Ar B nn) s.heap 0 0 (MQ below (QC D tc B nn (Ar B nn) (some (.int res.1)) res.2) args s 0 0 (Ar B nn)) h 128 [(0, .ref a0), (1, .int a1), (2, .int a2), (3, .int a3), (4, .int a4), (5, .int a5), (6, .int w6), (7, .int x10)] [])) e ?_ (fun j11 Jj11 e => ?_)
              · intro e
                refine V_iload (q := 130) X (TB.get tb_X9_tell 72 rfl) rfl rfl ?_
                refine V_iconst (v := 1) (q := 131) X (TB.get tb_X9_tell 73 rfl) c_iconst_1 rfl ?_
                refine jn_elim (P := (fun (k : Int32 → Option (Int32 × Hp)) => ∀ (w12 : Int32), k w12 = some res → V p l en (rmD 3) s m args below meth c 9 D tc B nn (Ar B nn) s.heap 0 0 (MQ below (QC D tc B nn (Ar B nn) (some (.int res.1)) res.2) args s 0 0 (Ar B nn)) h 151 [(0, .ref a0), (1, .int a1), (2, .int a2), (3, .int a3), (4, .int a4), (5, .int a5), (6, .int w6)] [.int w12])) e ?_ (fun j13 Jj13 e => ?_)
                · intro w12 e
                  refine V_istore (q := 153) (lv' := [(8, .int w12), (0, .ref a0), (1, .int a1), (2, .int a2), (3, .int a3), (4, .int a4), (5, .int a5), (6, .int w6)]) X (TB.get tb_X9_tell 84 rfl) rfl (Nat.le_of_ble_eq_true rfl) rfl ?_
                  refine V_iload (q := 155) X (TB.get tb_X9_tell 85 rfl) rfl rfl ?_
                  refine jn_elim (P := (fun (k : Hp → Option (Int32 × Hp)) => ∀ (h14 : Hp), k h14 = some res → V p l en (rmD 3) s m args below meth c 9 D tc B nn (Ar B nn) s.heap 0 0 (MQ below (QC D tc B nn (Ar B nn) (some (.int res.1)) res.2) args s 0 0 (Ar B nn)) h14 178 [(0, .ref a0), (1, .int a1), (2, .int a2), (3, .int a3), (4, .int a4), (5, .int a5), (6, .int w6), (8, .int w12)] [])) e ?_ (fun j15 Jj15 e => ?_)
                  · intro h14 e
                    refine V_iload (q := 180) X (TB.get tb_X9_tell 98 rfl) rfl rfl ?_
                    refine jn_elim (P := (fun (k : Hp → Option (Int32 × Hp)) => ∀ (h16 : Hp), k h16 = some res → V p l en (rmD 3) s m args below meth c 9 D tc B nn (Ar B nn) s.heap 0 0 (MQ below (QC D tc B nn (Ar B nn) (some (.int res.1)) res.2) args s 0 0 (Ar B nn)) h16 204 [(0, .ref a0), (6, .int w6)] [])) e ?_ (fun j17 Jj17 e => ?_)
                    · intro h16 e
                      refine V_aload_n (q := 205) X (TB.get tb_X9_tell 111 rfl) rfl rfl rfl ?_
                      refine V_iload (q := 207) X (TB.get tb_X9_tell 112 rfl) rfl rfl ?_
                      obtain ⟨p18, ep18, e⟩ := bs e
                      refine V_callV (q := 210) (As := [.int w6]) (rest := []) (st' := [.int p18.1]) X (TB.get tb_X9_tell 113 rfl) rfl cv_RX9_248 (ok_X9_gives a0 w6 h16 p18 ep18).1 (ok_X9_gives a0 w6 h16 p18 ep18).2 (Nat.le_of_ble_eq_true rfl) rfl rfl (Nat.le_of_ble_eq_true rfl) rfl ?_
                      cases e
                      exact V_iret X hr hlk (TB.get tb_X9_tell 114 rfl)
                    refine jn_elim (P := (fun (k : Option (Int32 × Hp)) => k = some res → V p l en (rmD 3) s m args below meth c 9 D tc B nn (Ar B nn) s.heap 0 0 (MQ below (QC D tc B nn (Ar B nn) (some (.int res.1)) res.2) args s 0 0 (Ar B nn)) h14 188 [(0, .ref a0), (1, .int a1), (2, .int a2), (3, .int a3), (5, .int a5), (6, .int w6)] [])) e ?_ (fun j19 Jj19 e => ?_)
                    · intro e
                      refine V_aload_n (q := 189) X (TB.get tb_X9_tell 102 rfl) rfl rfl rfl ?_
                      obtain ⟨x20, ex20, e⟩ := bs e
                      refine V_getR (q := 192) X (TB.get tb_X9_tell 103 rfl) rfl lf_RX9_13 ex20 ?_
                      refine V_sipush (v := 183) (q := 195) X (TB.get tb_X9_tell 104 rfl) c_sipush_183 rfl ?_
                      refine V_iload_n (q := 196) X (TB.get tb_X9_tell 105 rfl) rfl rfl rfl ?_
                      refine V_iload_n (q := 197) X (TB.get tb_X9_tell 106 rfl) rfl rfl rfl ?_
                      refine V_iload_n (q := 198) X (TB.get tb_X9_tell 107 rfl) rfl rfl rfl ?_
                      obtain ⟨x21, ex21, e⟩ := bs e
                      refine V_callS (q := 201) (As := [.int (183 : Int32), .int a1, .int a2, .int a3]) (rest := [.ref x20]) (st' := [.int x21, .ref x20]) X (TB.get tb_X9_tell 108 rfl) rfl cs_RX9_191 (ok_X9_cell (183 : Int32) a1 a2 a3 h14 x21 ex21) (Nat.le_of_ble_eq_true rfl) rfl rfl (Nat.le_of_ble_eq_true rfl) rfl ?_
                      refine V_iload (q := 203) X (TB.get tb_X9_tell 109 rfl) rfl rfl ?_
                      obtain ⟨h22, eh22, e⟩ := bs e
                      refine V_iastore (q := 204) X (TB.get tb_X9_tell 110 rfl) rfl eh22 ?_
                      refine V_sub (lv' := [(0, .ref a0), (6, .int w6)]) [0, 5] rfl ?_
                      exact Jj17 _ e
                    refine V_if_ne (q := 183) (t := 188) X (TB.get tb_X9_tell 99 rfl) rfl rfl (fun hc => ?_) (fun hc => ?_)
                    · have e := (if_neg hc).symm.trans e
                      refine V_sub (lv' := [(0, .ref a0), (1, .int a1), (2, .int a2), (3, .int a3), (5, .int a5), (6, .int w6)]) [0, 1, 2, 3, 5, 6] rfl ?_
                      exact Jj19 e
                    · have e := (if_pos hc).symm.trans e
                      refine V_iload (q := 185) X (TB.get tb_X9_tell 100 rfl) rfl rfl ?_
                      refine V_if_ne (q := 188) (t := 204) X (TB.get tb_X9_tell 101 rfl) rfl rfl (fun hc => ?_) (fun hc => ?_)
                      · have e := (if_neg hc).symm.trans e
                        refine V_sub (lv' := [(0, .ref a0), (6, .int w6)]) [0, 6] rfl ?_
                        exact Jj17 _ e
                      · have e := (if_pos hc).symm.trans e
                        refine V_sub (lv' := [(0, .ref a0), (1, .int a1), (2, .int a2), (3, .int a3), (5, .int a5), (6, .int w6)]) [0, 1, 2, 3, 5, 6] rfl ?_
                        exact Jj19 e
                  refine jn_elim (P := (fun (k : Option (Int32 × Hp)) => k = some res → V p l en (rmD 3) s m args below meth c 9 D tc B nn (Ar B nn) s.heap 0 0 (MQ below (QC D tc B nn (Ar B nn) (some (.int res.1)) res.2) args s 0 0 (Ar B nn)) h 163 [(0, .ref a0), (1, .int a1), (2, .int a2), (3, .int a3), (4, .int a4), (5, .int a5), (6, .int w6), (8, .int w12)] [])) e ?_ (fun j23 Jj23 e => ?_)
                  · intro e
                    refine V_aload_n (q := 164) X (TB.get tb_X9_tell 89 rfl) rfl rfl rfl ?_
                    refine V_getR (q := 167) X (TB.get tb_X9_tell 90 rfl) rfl lf_RX9_13 ex8 ?_
                    refine V_bipush (v := 39) (q := 169) X (TB.get tb_X9_tell 91 rfl) c_bipush_39 rfl ?_
                    refine V_iload_n (q := 170) X (TB.get tb_X9_tell 92 rfl) rfl rfl rfl ?_
                    refine V_iload_n (q := 171) X (TB.get tb_X9_tell 93 rfl) rfl rfl rfl ?_
                    refine V_iload_n (q := 172) X (TB.get tb_X9_tell 94 rfl) rfl rfl rfl ?_
                    obtain ⟨x24, ex24, e⟩ := bs e
                    refine V_callS (q := 175) (As := [.int (39 : Int32), .int a1, .int a2, .int a3]) (rest := [.ref x8]) (st' := [.int x24, .ref x8]) X (TB.get tb_X9_tell 95 rfl) rfl cs_RX9_191 (ok_X9_cell (39 : Int32) a1 a2 a3 h x24 ex24) (Nat.le_of_ble_eq_true rfl) rfl rfl (Nat.le_of_ble_eq_true rfl) rfl ?_
                    refine V_iload (q := 177) X (TB.get tb_X9_tell 96 rfl) rfl rfl ?_
                    obtain ⟨h25, eh25, e⟩ := bs e
                    refine V_iastore (q := 178) X (TB.get tb_X9_tell 97 rfl) rfl eh25 ?_
                    exact Jj15 _ e
                  refine V_if_ne (q := 158) (t := 163) X (TB.get tb_X9_tell 86 rfl) rfl rfl (fun hc => ?_) (fun hc => ?_)
                  · have e := (if_neg hc).symm.trans e
                    refine V_sub (lv' := [(0, .ref a0), (1, .int a1), (2, .int a2), (3, .int a3), (4, .int a4), (5, .int a5), (6, .int w6), (8, .int w12)]) [1, 2, 3, 4, 5, 6, 7, 0] rfl ?_
                    exact Jj23 e
                  · have e := (if_pos hc).symm.trans e
                    refine V_iload (q := 160) X (TB.get tb_X9_tell 87 rfl) rfl rfl ?_
                    refine V_if_eq (q := 163) (t := 178) X (TB.get tb_X9_tell 88 rfl) rfl rfl (fun hc => ?_) (fun hc => ?_)
                    · have e := (if_pos hc).symm.trans e
                      refine V_sub (lv' := [(0, .ref a0), (1, .int a1), (2, .int a2), (3, .int a3), (4, .int a4), (5, .int a5), (6, .int w6), (8, .int w12)]) [1, 2, 3, 4, 5, 6, 7, 0] rfl ?_
                      exact Jj15 _ e
                    · have e := (if_neg hc).symm.trans e
                      refine V_sub (lv' := [(0, .ref a0), (1, .int a1), (2, .int a2), (3, .int a3), (4, .int a4), (5, .int a5), (6, .int w6), (8, .int w12)]) [1, 2, 3, 4, 5, 6, 7, 0] rfl ?_
                      exact Jj23 e
                refine jn_elim (P := (fun (k : Option (Int32 × Hp)) => k = some res → V p l en (rmD 3) s m args below meth c 9 D tc B nn (Ar B nn) s.heap 0 0 (MQ below (QC D tc B nn (Ar B nn) (some (.int res.1)) res.2) args s 0 0 (Ar B nn)) h 146 [(0, .ref a0), (1, .int a1), (2, .int a2), (3, .int a3), (4, .int a4), (5, .int a5), (6, .int w6)] [])) e ?_ (fun j26 Jj26 e => ?_)
                · intro e
                  refine V_iconst (v := 1) (q := 147) X (TB.get tb_X9_tell 81 rfl) c_iconst_1 rfl ?_
                  refine V_goto (q := 151) X (TB.get tb_X9_tell 82 rfl) rfl ?_
                  exact Jj13 _ e
                refine V_icmp_ne (q := 134) (t := 146) X (TB.get tb_X9_tell 74 rfl) rfl rfl (fun hc => ?_) (fun hc => ?_)
                · have e := (if_neg hc).symm.trans e
                  refine V_sub (lv' := [(0, .ref a0), (1, .int a1), (2, .int a2), (3, .int a3), (4, .int a4), (5, .int a5), (6, .int w6)]) [0, 1, 2, 3, 4, 5, 6] rfl ?_
                  exact Jj26 e
                · have e := (if_pos hc).symm.trans e
                  refine V_iload (q := 136) X (TB.get tb_X9_tell 75 rfl) rfl rfl ?_
                  refine V_iconst (v := -1) (q := 137) X (TB.get tb_X9_tell 76 rfl) c_iconst_m1 rfl ?_
                  refine V_icmp_eq (q := 140) (t := 146) X (TB.get tb_X9_tell 77 rfl) rfl rfl (fun hc => ?_) (fun hc => ?_)
                  · have e := (if_pos hc).symm.trans e
                    refine V_sub (lv' := [(0, .ref a0), (1, .int a1), (2, .int a2), (3, .int a3), (4, .int a4), (5, .int a5), (6, .int w6)]) [0, 1, 2, 3, 4, 5, 6] rfl ?_
                    exact Jj26 e
                  · have e := (if_neg hc).symm.trans e
                    refine V_iload (q := 142) X (TB.get tb_X9_tell 78 rfl) rfl rfl ?_
                    refine V_iconst (v := -1) (q := 143) X (TB.get tb_X9_tell 79 rfl) c_iconst_m1 rfl ?_
                    refine V_icmp_ne (q := 146) (t := 150) X (TB.get tb_X9_tell 80 rfl) rfl rfl (fun hc => ?_) (fun hc => ?_)
                    · have e := (if_neg hc).symm.trans e
                      refine V_iconst (v := 0) (q := 151) X (TB.get tb_X9_tell 83 rfl) c_iconst_0 rfl ?_
                      refine V_sub (lv' := [(0, .ref a0), (1, .int a1), (2, .int a2), (3, .int a3), (4, .int a4), (5, .int a5), (6, .int w6)]) [0, 1, 2, 3, 4, 5, 6] rfl ?_
                      exact Jj13 _ e
                    · have e := (if_pos hc).symm.trans e
                      refine V_sub (lv' := [(0, .ref a0), (1, .int a1), (2, .int a2), (3, .int a3), (4, .int a4), (5, .int a5), (6, .int w6)]) [0, 1, 2, 3, 4, 5, 6] rfl ?_
                      exact Jj26 e
              refine V_icmp_ne (q := 110) (t := 128) X (TB.get tb_X9_tell 61 rfl) rfl rfl (fun hc => ?_) (fun hc => ?_)
              · have e := (if_neg hc).symm.trans e
                refine V_sub (lv' := [(0, .ref a0), (1, .int a1), (2, .int a2), (3, .int a3), (4, .int a4), (5, .int a5), (6, .int w6), (7, .int x10)]) [2, 3, 4, 5, 6, 7, 1, 0] rfl ?_
                exact Jj11 e
              · have e := (if_pos hc).symm.trans e
                refine V_iload (q := 112) X (TB.get tb_X9_tell 62 rfl) rfl rfl ?_
                refine V_iconst (v := -1) (q := 113) X (TB.get tb_X9_tell 63 rfl) c_iconst_m1 rfl ?_
                refine V_icmp_eq (q := 116) (t := 128) X (TB.get tb_X9_tell 64 rfl) rfl rfl (fun hc => ?_) (fun hc => ?_)
                · have e := (if_pos hc).symm.trans e
                  refine V_sub (lv' := [(0, .ref a0), (1, .int a1), (2, .int a2), (3, .int a3), (4, .int a4), (5, .int a5), (6, .int w6), (7, .int x10)]) [2, 3, 4, 5, 6, 7, 1, 0] rfl ?_
                  exact Jj11 e
                · have e := (if_neg hc).symm.trans e
                  refine V_iload (q := 118) X (TB.get tb_X9_tell 65 rfl) rfl rfl ?_
                  refine V_iload_n (q := 119) X (TB.get tb_X9_tell 66 rfl) rfl rfl rfl ?_
                  refine V_icmp_eq (q := 122) (t := 128) X (TB.get tb_X9_tell 67 rfl) rfl rfl (fun hc => ?_) (fun hc => ?_)
                  · have e := (if_pos hc).symm.trans e
                    refine V_sub (lv' := [(0, .ref a0), (1, .int a1), (2, .int a2), (3, .int a3), (4, .int a4), (5, .int a5), (6, .int w6), (7, .int x10)]) [2, 3, 4, 5, 6, 7, 1, 0] rfl ?_
                    exact Jj11 e
                  · have e := (if_neg hc).symm.trans e
                    refine V_aload_n (q := 123) X (TB.get tb_X9_tell 68 rfl) rfl rfl rfl ?_
                    refine V_iconst (v := 5) (q := 124) X (TB.get tb_X9_tell 69 rfl) c_iconst_5 rfl ?_
                    obtain ⟨p27, ep27, e⟩ := bs e
                    refine V_callV (q := 127) (As := [.int (5 : Int32)]) (rest := []) (st' := [.int p27.1]) X (TB.get tb_X9_tell 70 rfl) rfl cv_RX9_242 (ok_X9_refuse a0 (5 : Int32) h p27 ep27).1 (ok_X9_refuse a0 (5 : Int32) h p27 ep27).2 (Nat.le_of_ble_eq_true rfl) rfl rfl (Nat.le_of_ble_eq_true rfl) rfl ?_
                    cases e
                    exact V_iret X hr hlk (TB.get tb_X9_tell 71 rfl)
            · have e := (if_pos hc).symm.trans e
              refine V_aload_n (q := 84) X (TB.get tb_X9_tell 46 rfl) rfl rfl rfl ?_
              refine V_iconst (v := 4) (q := 85) X (TB.get tb_X9_tell 47 rfl) c_iconst_4 rfl ?_
              obtain ⟨p28, ep28, e⟩ := bs e
              refine V_callV (q := 88) (As := [.int (4 : Int32)]) (rest := []) (st' := [.int p28.1]) X (TB.get tb_X9_tell 48 rfl) rfl cv_RX9_242 (ok_X9_refuse a0 (4 : Int32) h p28 ep28).1 (ok_X9_refuse a0 (4 : Int32) h p28 ep28).2 (Nat.le_of_ble_eq_true rfl) rfl rfl (Nat.le_of_ble_eq_true rfl) rfl ?_
              cases e
              exact V_iret X hr hlk (TB.get tb_X9_tell 49 rfl)
          refine V_if_eq (q := 57) (t := 67) X (TB.get tb_X9_tell 30 rfl) rfl rfl (fun hc => ?_) (fun hc => ?_)
          · have e := (if_pos hc).symm.trans e
            refine V_aload_n (q := 68) X (TB.get tb_X9_tell 37 rfl) rfl rfl rfl ?_
            refine V_iload_n (q := 69) X (TB.get tb_X9_tell 38 rfl) rfl rfl rfl ?_
            refine V_iload_n (q := 70) X (TB.get tb_X9_tell 39 rfl) rfl rfl rfl ?_
            refine V_iload_n (q := 71) X (TB.get tb_X9_tell 40 rfl) rfl rfl rfl ?_
            obtain ⟨x29, ex29, e⟩ := bs e
            refine V_callV (q := 74) (As := [.int a1, .int a2, .int a3]) (rest := []) (st' := [.int x29]) X (TB.get tb_X9_tell 41 rfl) rfl cv_RX9_264 (ok_X9_no a0 a1 a2 a3 h x29 ex29).1 (ok_X9_no a0 a1 a2 a3 h x29 ex29).2 (Nat.le_of_ble_eq_true rfl) rfl rfl (Nat.le_of_ble_eq_true rfl) rfl ?_
            exact Jj7 _ e
          · have e := (if_neg hc).symm.trans e
            refine V_aload_n (q := 58) X (TB.get tb_X9_tell 31 rfl) rfl rfl rfl ?_
            refine V_iload_n (q := 59) X (TB.get tb_X9_tell 32 rfl) rfl rfl rfl ?_
            refine V_iload_n (q := 60) X (TB.get tb_X9_tell 33 rfl) rfl rfl rfl ?_
            refine V_iload_n (q := 61) X (TB.get tb_X9_tell 34 rfl) rfl rfl rfl ?_
            obtain ⟨x30, ex30, e⟩ := bs e
            refine V_callV (q := 64) (As := [.int a1, .int a2, .int a3]) (rest := []) (st' := [.int x30]) X (TB.get tb_X9_tell 35 rfl) rfl cv_RX9_254 (ok_X9_yes a0 a1 a2 a3 h x30 ex30).1 (ok_X9_yes a0 a1 a2 a3 h x30 ex30).2 (Nat.le_of_ble_eq_true rfl) rfl rfl (Nat.le_of_ble_eq_true rfl) rfl ?_
            refine V_goto (q := 74) X (TB.get tb_X9_tell 36 rfl) rfl ?_
            exact Jj7 _ e
        refine V_icmp_eq (q := 36) (t := 52) X (TB.get tb_X9_tell 19 rfl) rfl rfl (fun hc => ?_) (fun hc => ?_)
        · have e := (if_pos hc).symm.trans e
          exact Jj5 e
        · have e := (if_neg hc).symm.trans e
          refine V_aload_n (q := 37) X (TB.get tb_X9_tell 20 rfl) rfl rfl rfl ?_
          refine V_iload_n (q := 38) X (TB.get tb_X9_tell 21 rfl) rfl rfl rfl ?_
          refine V_iload (q := 40) X (TB.get tb_X9_tell 22 rfl) rfl rfl ?_
          obtain ⟨x31, ex31, e⟩ := bs e
          refine V_callV (q := 43) (As := [.int a1, .int a5]) (rest := []) (st' := [.int x31]) X (TB.get tb_X9_tell 23 rfl) rfl cv_RX9_276 (ok_X9_isState a0 a1 a5 h x31 ex31).1 (ok_X9_isState a0 a1 a5 h x31 ex31).2 (Nat.le_of_ble_eq_true rfl) rfl rfl (Nat.le_of_ble_eq_true rfl) rfl ?_
          refine V_if_ne (q := 46) (t := 52) X (TB.get tb_X9_tell 24 rfl) rfl rfl (fun hc => ?_) (fun hc => ?_)
          · have e := (if_neg hc).symm.trans e
            exact Jj5 e
          · have e := (if_pos hc).symm.trans e
            refine V_sub (lv' := [(0, .ref a0)]) [0] rfl ?_
            exact Jj2 e
  · have e := (if_neg hc).symm.trans e
    refine V_aload_n (q := 7) X (TB.get tb_X9_tell 3 rfl) rfl rfl rfl ?_
    refine V_iconst (v := 1) (q := 8) X (TB.get tb_X9_tell 4 rfl) c_iconst_1 rfl ?_
    obtain ⟨p32, ep32, e⟩ := bs e
    refine V_callV (q := 11) (As := [.int (1 : Int32)]) (rest := []) (st' := [.int p32.1]) X (TB.get tb_X9_tell 5 rfl) rfl cv_RX9_242 (ok_X9_refuse a0 (1 : Int32) h p32 ep32).1 (ok_X9_refuse a0 (1 : Int32) h p32 ep32).2 (Nat.le_of_ble_eq_true rfl) rfl rfl (Nat.le_of_ble_eq_true rfl) rfl ?_
    cases e
    exact V_iret X hr hlk (TB.get tb_X9_tell 6 rfl)
set_option maxRecDepth 100000 in
set_option maxHeartbeats 4000000 in
theorem ok_X9_leastOf (a0 : Nat) (a1 : Int32) (a2 : Int32) (a3 : Int32) (h : Hp) (res : Int32) (e : MX9_leastOf a0 a1 a2 a3 h = some res) : CK yX9_leastOf cX9_leastOf 4 (some .int) 4 [.ref a0, .int a1, .int a2, .int a3] h (some (.int res)) h ∧ (h.1 a0).1 = 9 := by
  obtain ⟨hcl, e⟩ := h_g_inv e
  refine ⟨CK_of pn_RX9 cm_X9_leastOf (Nat.le_of_ble_eq_true rfl) ?_, hcl⟩
  intro l D tc B nn p en s m args below meth c X hr hlk
  replace X : CX p (rmD 4) s m args c cX9_leastOf 4 RX9 D tc 4 := X
  show V p l en (rmD 4) s m args below meth c 4 D tc B nn (Ar B nn) s.heap 0 0 (MQ below (QC D tc B nn (Ar B nn) (some (.int res)) h) args s 0 0 (Ar B nn)) h 0 [(0, .ref a0), (1, .int a1), (2, .int a2), (3, .int a3)] []
  refine V_aload_n (q := 1) X (TB.get tb_X9_leastOf 0 rfl) rfl rfl rfl ?_
  refine V_iload_n (q := 2) X (TB.get tb_X9_leastOf 1 rfl) rfl rfl rfl ?_
  refine V_iload_n (q := 3) X (TB.get tb_X9_leastOf 2 rfl) rfl rfl rfl ?_
  refine V_iload_n (q := 4) X (TB.get tb_X9_leastOf 3 rfl) rfl rfl rfl ?_
  obtain ⟨x1, ex1, e⟩ := bs e
  refine V_callV (q := 7) (As := [.int a1, .int a2, .int a3]) (rest := []) (st' := [.int x1]) X (TB.get tb_X9_leastOf 4 rfl) rfl cv_RX9_261 (ok_X9_canBe a0 a1 a2 a3 h x1 ex1).1 (ok_X9_canBe a0 a1 a2 a3 h x1 ex1).2 (Nat.le_of_ble_eq_true rfl) rfl rfl (Nat.le_of_ble_eq_true rfl) rfl ?_
  refine jn_elim (P := (fun (k : Option (Int32)) => k = some res → V p l en (rmD 4) s m args below meth c 4 D tc B nn (Ar B nn) s.heap 0 0 (MQ below (QC D tc B nn (Ar B nn) (some (.int res)) h) args s 0 0 (Ar B nn)) h 59 [] [])) e ?_ (fun j2 Jj2 e => ?_)
  · intro e
    refine V_bipush (v := 99) (q := 61) X (TB.get tb_X9_leastOf 36 rfl) c_bipush_99 rfl ?_
    cases e
    exact V_iret X hr hlk (TB.get tb_X9_leastOf 37 rfl)
  refine V_if_eq (q := 10) (t := 59) X (TB.get tb_X9_leastOf 5 rfl) rfl rfl (fun hc => ?_) (fun hc => ?_)
  · have e := (if_pos hc).symm.trans e
    refine V_sub (lv' := []) [] rfl ?_
    exact Jj2 e
  · have e := (if_neg hc).symm.trans e
    refine V_aload_n (q := 11) X (TB.get tb_X9_leastOf 6 rfl) rfl rfl rfl ?_
    obtain ⟨x3, ex3, e⟩ := bs e
    refine V_getR (q := 14) X (TB.get tb_X9_leastOf 7 rfl) rfl lf_RX9_13 ex3 ?_
    refine V_bipush (v := 15) (q := 16) X (TB.get tb_X9_leastOf 8 rfl) c_bipush_15 rfl ?_
    refine V_iload_n (q := 17) X (TB.get tb_X9_leastOf 9 rfl) rfl rfl rfl ?_
    refine V_iload_n (q := 18) X (TB.get tb_X9_leastOf 10 rfl) rfl rfl rfl ?_
    obtain ⟨x4, ex4, e⟩ := bs e
    refine V_callS (q := 21) (As := [.int a1, .int a2]) (rest := [.int (15 : Int32), .ref x3]) (st' := [.int x4, .int (15 : Int32), .ref x3]) X (TB.get tb_X9_leastOf 11 rfl) rfl cs_RX9_188 (ok_X9_methodAt a1 a2 h x4 ex4) (Nat.le_of_ble_eq_true rfl) rfl rfl (Nat.le_of_ble_eq_true rfl) rfl ?_
    refine V_iadd (q := 22) X (TB.get tb_X9_leastOf 12 rfl) rfl ?_
    obtain ⟨x5, ex5, e⟩ := bs e
    refine V_iaload (q := 23) X (TB.get tb_X9_leastOf 13 rfl) rfl ex5 ?_
    refine V_iconst (v := 2) (q := 24) X (TB.get tb_X9_leastOf 14 rfl) c_iconst_2 rfl ?_
    refine V_icmp_eq (q := 27) (t := 59) X (TB.get tb_X9_leastOf 15 rfl) rfl rfl (fun hc => ?_) (fun hc => ?_)
    · have e := (if_pos hc).symm.trans e
      refine V_sub (lv' := []) [] rfl ?_
      exact Jj2 e
    · have e := (if_neg hc).symm.trans e
      refine V_aload_n (q := 28) X (TB.get tb_X9_leastOf 16 rfl) rfl rfl rfl ?_
      obtain ⟨x6, ex6, e⟩ := bs e
      refine V_getR (q := 31) X (TB.get tb_X9_leastOf 17 rfl) rfl lf_RX9_30 ex6 ?_
      refine V_aload_n (q := 32) X (TB.get tb_X9_leastOf 18 rfl) rfl rfl rfl ?_
      refine V_iload_n (q := 33) X (TB.get tb_X9_leastOf 19 rfl) rfl rfl rfl ?_
      refine V_iload_n (q := 34) X (TB.get tb_X9_leastOf 20 rfl) rfl rfl rfl ?_
      refine V_iload_n (q := 35) X (TB.get tb_X9_leastOf 21 rfl) rfl rfl rfl ?_
      obtain ⟨x7, ex7, e⟩ := bs e
      refine V_callV (q := 38) (As := [.int a1, .int a2, .int a3]) (rest := [.ref x6]) (st' := [.int x7, .ref x6]) X (TB.get tb_X9_leastOf 22 rfl) rfl cv_RX9_254 (ok_X9_yes a0 a1 a2 a3 h x7 ex7).1 (ok_X9_yes a0 a1 a2 a3 h x7 ex7).2 (Nat.le_of_ble_eq_true rfl) rfl rfl (Nat.le_of_ble_eq_true rfl) rfl ?_
      obtain ⟨x8, ex8, e⟩ := bs e
      refine V_iaload (q := 39) X (TB.get tb_X9_leastOf 23 rfl) rfl ex8 ?_
      refine V_aload_n (q := 40) X (TB.get tb_X9_leastOf 24 rfl) rfl rfl rfl ?_
      refine V_getR (q := 43) X (TB.get tb_X9_leastOf 25 rfl) rfl lf_RX9_30 ex6 ?_
      refine V_aload_n (q := 44) X (TB.get tb_X9_leastOf 26 rfl) rfl rfl rfl ?_
      refine V_iload_n (q := 45) X (TB.get tb_X9_leastOf 27 rfl) rfl rfl rfl ?_
      refine V_iload_n (q := 46) X (TB.get tb_X9_leastOf 28 rfl) rfl rfl rfl ?_
      refine V_iload_n (q := 47) X (TB.get tb_X9_leastOf 29 rfl) rfl rfl rfl ?_
      obtain ⟨x9, ex9, e⟩ := bs e
      refine V_callV (q := 50) (As := [.int a1, .int a2, .int a3]) (rest := [.ref x6, .int x8]) (st' := [.int x9, .ref x6, .int x8]) X (TB.get tb_X9_leastOf 30 rfl) rfl cv_RX9_264 (ok_X9_no a0 a1 a2 a3 h x9 ex9).1 (ok_X9_no a0 a1 a2 a3 h x9 ex9).2 (Nat.le_of_ble_eq_true rfl) rfl rfl (Nat.le_of_ble_eq_true rfl) rfl ?_
      obtain ⟨x10, ex10, e⟩ := bs e
      refine V_iaload (q := 51) X (TB.get tb_X9_leastOf 31 rfl) rfl ex10 ?_
      refine V_mmin (q := 54) X (TB.get tb_X9_leastOf 32 rfl) rfl mm_RX9_279 mm_min1 mm_i mm_min2 (Nat.le_of_ble_eq_true rfl) (Nat.le_of_ble_eq_true rfl) ?_
      refine V_iconst (v := 1) (q := 55) X (TB.get tb_X9_leastOf 33 rfl) c_iconst_1 rfl ?_
      refine V_iadd (q := 56) X (TB.get tb_X9_leastOf 34 rfl) rfl ?_
      refine V_goto (q := 61) X (TB.get tb_X9_leastOf 35 rfl) rfl ?_
      cases e
      exact V_iret X hr hlk (TB.get tb_X9_leastOf 37 rfl)
set_option maxRecDepth 100000 in
set_option maxHeartbeats 4000000 in
theorem ok_X9_laysEnds (fu : Nat) (a0 : Nat) (a1 : Int32) (h : Hp) (res : Hp) (e : MX9_laysEnds fu a0 a1 h = some res) : CK yX9_laysEnds cX9_laysEnds 5 none 5 [.ref a0, .int a1] h none res ∧ (h.1 a0).1 = 9 := by
  obtain ⟨hcl, e⟩ := h_g_inv e
  refine ⟨CK_of pn_RX9 cm_X9_laysEnds (Nat.le_of_ble_eq_true rfl) ?_, hcl⟩
  intro l D tc B nn p en s m args below meth c X hr hlk
  replace X : CX p (rmD 5) s m args c cX9_laysEnds 5 RX9 D tc 5 := X
  show V p l en (rmD 5) s m args below meth c 5 D tc B nn (Ar B nn) s.heap 0 0 (MQ below (QC D tc B nn (Ar B nn) none res) args s 0 0 (Ar B nn)) h 0 [(0, .ref a0), (1, .int a1)] []
  refine V_iconst (v := 0) (q := 1) X (TB.get tb_X9_laysEnds 0 rfl) c_iconst_0 rfl ?_
  refine V_istore_n (q := 2) (lv' := [(2, .int (0 : Int32)), (0, .ref a0), (1, .int a1)]) X (TB.get tb_X9_laysEnds 1 rfl) rfl rfl (Nat.le_of_ble_eq_true rfl) rfl ?_
  refine jn_elim (P := (fun (k : Hp → Option (Hp)) => ∀ (h1 : Hp), k h1 = some res → V p l en (rmD 5) s m args below meth c 5 D tc B nn (Ar B nn) s.heap 0 0 (MQ below (QC D tc B nn (Ar B nn) none res) args s 0 0 (Ar B nn)) h1 47 [(0, .ref a0), (1, .int a1)] [])) e ?_ (fun j2 Jj2 e => ?_)
  · intro h1 e
    refine V_iconst (v := 0) (q := 48) X (TB.get tb_X9_laysEnds 27 rfl) c_iconst_0 rfl ?_
    refine V_istore_n (q := 49) (lv' := [(2, .int (0 : Int32)), (0, .ref a0), (1, .int a1)]) X (TB.get tb_X9_laysEnds 28 rfl) rfl rfl (Nat.le_of_ble_eq_true rfl) rfl ?_
    refine V_sub (lv' := [(0, .ref a0), (1, .int a1), (2, .int (0 : Int32))]) [1, 2, 0] rfl ?_
    refine wh2_elim (P := fun v3 h4 => V p l en (rmD 5) s m args below meth c 5 D tc B nn (Ar B nn) s.heap 0 0 (MQ below (QC D tc B nn (Ar B nn) none res) args s 0 0 (Ar B nn)) h4 49 [(0, .ref a0), (1, .int a1), (2, .int v3)] []) (f := fu) ?_ e
    intro self5 v3 h4 ihself5 e
    unfold MX9_laysEnds_B49 at e
    refine V_iload_n (q := 50) X (TB.get tb_X9_laysEnds 29 rfl) rfl rfl rfl ?_
    refine V_bipush (v := 6) (q := 52) X (TB.get tb_X9_laysEnds 30 rfl) c_bipush_6 rfl ?_
    refine V_icmp_ge (q := 55) (t := 127) X (TB.get tb_X9_laysEnds 31 rfl) rfl rfl (fun hc => ?_) (fun hc => ?_)
    · have e := (if_pos hc).symm.trans e
      cases e
      exact V_vret X hr hlk (TB.get tb_X9_laysEnds 72 rfl)
    · have e := (if_neg hc).symm.trans e
      refine V_iconst (v := 0) (q := 56) X (TB.get tb_X9_laysEnds 32 rfl) c_iconst_0 rfl ?_
      refine V_istore_n (q := 57) (lv' := [(3, .int (0 : Int32)), (0, .ref a0), (1, .int a1), (2, .int v3)]) X (TB.get tb_X9_laysEnds 33 rfl) rfl rfl (Nat.le_of_ble_eq_true rfl) rfl ?_
      refine jn_elim (P := (fun (k : Hp → Option (Hp)) => ∀ (h6 : Hp), k h6 = some res → V p l en (rmD 5) s m args below meth c 5 D tc B nn (Ar B nn) s.heap 0 0 (MQ below (QC D tc B nn (Ar B nn) none res) args s 0 0 (Ar B nn)) h6 121 [(0, .ref a0), (1, .int a1), (2, .int v3)] [])) e ?_ (fun j7 Jj7 e => ?_)
      · intro h6 e
        refine V_iinc (q := 124) (v := v3 + (1 : Int32)) (lv' := [(2, .int (v3 + (1 : Int32))), (0, .ref a0), (1, .int a1)]) X (TB.get tb_X9_laysEnds 70 rfl) rfl rfl (by rw [c_iconst_1]) (Nat.le_of_ble_eq_true rfl) rfl ?_
        refine V_goto (q := 49) X (TB.get tb_X9_laysEnds 71 rfl) rfl ?_
        refine V_sub (lv' := [(0, .ref a0), (1, .int a1), (2, .int (v3 + (1 : Int32)))]) [1, 2, 0] rfl ?_
        exact ihself5 _ _ e
      refine V_sub (lv' := [(0, .ref a0), (1, .int a1), (2, .int v3), (3, .int (0 : Int32))]) [1, 2, 3, 0] rfl ?_
      refine wh2_elim (P := fun v8 h9 => V p l en (rmD 5) s m args below meth c 5 D tc B nn (Ar B nn) s.heap 0 0 (MQ below (QC D tc B nn (Ar B nn) none res) args s 0 0 (Ar B nn)) h9 57 [(0, .ref a0), (1, .int a1), (2, .int v3), (3, .int v8)] []) (f := fu) ?_ e
      intro self10 v8 h9 ihself10 e
      unfold MX9_laysEnds_B57 at e
      refine V_iload_n (q := 58) X (TB.get tb_X9_laysEnds 34 rfl) rfl rfl rfl ?_
      refine V_aload_n (q := 59) X (TB.get tb_X9_laysEnds 35 rfl) rfl rfl rfl ?_
      obtain ⟨x11, ex11, e⟩ := bs e
      refine V_getR (q := 62) X (TB.get tb_X9_laysEnds 36 rfl) rfl lf_RX9_13 ex11 ?_
      refine V_iconst (v := 3) (q := 63) X (TB.get tb_X9_laysEnds 37 rfl) c_iconst_3 rfl ?_
      refine V_iload_n (q := 64) X (TB.get tb_X9_laysEnds 38 rfl) rfl rfl rfl ?_
      refine V_iadd (q := 65) X (TB.get tb_X9_laysEnds 39 rfl) rfl ?_
      obtain ⟨x12, ex12, e⟩ := bs e
      refine V_iaload (q := 66) X (TB.get tb_X9_laysEnds 40 rfl) rfl ex12 ?_
      refine V_icmp_ge (q := 69) (t := 121) X (TB.get tb_X9_laysEnds 41 rfl) rfl rfl (fun hc => ?_) (fun hc => ?_)
      · have e := (if_pos hc).symm.trans e
        refine V_sub (lv' := [(0, .ref a0), (1, .int a1), (2, .int v3)]) [0, 1, 2] rfl ?_
        exact Jj7 _ e
      · have e := (if_neg hc).symm.trans e
        refine V_iconst (v := 0) (q := 70) X (TB.get tb_X9_laysEnds 42 rfl) c_iconst_0 rfl ?_
        refine V_istore (q := 72) (lv' := [(4, .int (0 : Int32)), (0, .ref a0), (1, .int a1), (2, .int v3), (3, .int v8)]) X (TB.get tb_X9_laysEnds 43 rfl) rfl (Nat.le_of_ble_eq_true rfl) rfl ?_
        refine jn_elim (P := (fun (k : Hp → Option (Hp)) => ∀ (h13 : Hp), k h13 = some res → V p l en (rmD 5) s m args below meth c 5 D tc B nn (Ar B nn) s.heap 0 0 (MQ below (QC D tc B nn (Ar B nn) none res) args s 0 0 (Ar B nn)) h13 115 [(0, .ref a0), (1, .int a1), (2, .int v3), (3, .int v8)] [])) e ?_ (fun j14 Jj14 e => ?_)
        · intro h13 e
          refine V_iinc (q := 118) (v := v8 + (1 : Int32)) (lv' := [(3, .int (v8 + (1 : Int32))), (0, .ref a0), (1, .int a1), (2, .int v3)]) X (TB.get tb_X9_laysEnds 68 rfl) rfl rfl (by rw [c_iconst_1]) (Nat.le_of_ble_eq_true rfl) rfl ?_
          refine V_goto (q := 57) X (TB.get tb_X9_laysEnds 69 rfl) rfl ?_
          refine V_sub (lv' := [(0, .ref a0), (1, .int a1), (2, .int v3), (3, .int (v8 + (1 : Int32)))]) [1, 2, 3, 0] rfl ?_
          exact ihself10 _ _ e
        refine V_sub (lv' := [(0, .ref a0), (1, .int a1), (2, .int v3), (3, .int v8), (4, .int (0 : Int32))]) [1, 2, 3, 4, 0] rfl ?_
        refine wh2_elim (P := fun v15 h16 => V p l en (rmD 5) s m args below meth c 5 D tc B nn (Ar B nn) s.heap 0 0 (MQ below (QC D tc B nn (Ar B nn) none res) args s 0 0 (Ar B nn)) h16 72 [(0, .ref a0), (1, .int a1), (2, .int v3), (3, .int v8), (4, .int v15)] []) (f := fu) ?_ e
        intro self17 v15 h16 ihself17 e
        unfold MX9_laysEnds_B72 at e
        refine V_iload (q := 74) X (TB.get tb_X9_laysEnds 44 rfl) rfl rfl ?_
        refine V_aload_n (q := 75) X (TB.get tb_X9_laysEnds 45 rfl) rfl rfl rfl ?_
        obtain ⟨x18, ex18, e⟩ := bs e
        refine V_getR (q := 78) X (TB.get tb_X9_laysEnds 46 rfl) rfl lf_RX9_13 ex18 ?_
        refine V_bipush (v := 11) (q := 80) X (TB.get tb_X9_laysEnds 47 rfl) c_bipush_11 rfl ?_
        refine V_iload_n (q := 81) X (TB.get tb_X9_laysEnds 48 rfl) rfl rfl rfl ?_
        refine V_iadd (q := 82) X (TB.get tb_X9_laysEnds 49 rfl) rfl ?_
        obtain ⟨x19, ex19, e⟩ := bs e
        refine V_iaload (q := 83) X (TB.get tb_X9_laysEnds 50 rfl) rfl ex19 ?_
        refine V_icmp_ge (q := 86) (t := 115) X (TB.get tb_X9_laysEnds 51 rfl) rfl rfl (fun hc => ?_) (fun hc => ?_)
        · have e := (if_pos hc).symm.trans e
          refine V_sub (lv' := [(0, .ref a0), (1, .int a1), (2, .int v3), (3, .int v8)]) [0, 1, 2, 3] rfl ?_
          exact Jj14 _ e
        · have e := (if_neg hc).symm.trans e
          refine V_aload_n (q := 87) X (TB.get tb_X9_laysEnds 52 rfl) rfl rfl rfl ?_
          obtain ⟨x20, ex20, e⟩ := bs e
          refine V_getR (q := 90) X (TB.get tb_X9_laysEnds 53 rfl) rfl lf_RX9_30 ex20 ?_
          refine V_iload_n (q := 91) X (TB.get tb_X9_laysEnds 54 rfl) rfl rfl rfl ?_
          refine V_aload_n (q := 92) X (TB.get tb_X9_laysEnds 55 rfl) rfl rfl rfl ?_
          refine V_getR (q := 95) X (TB.get tb_X9_laysEnds 56 rfl) rfl lf_RX9_30 ex20 ?_
          refine V_iload_n (q := 96) X (TB.get tb_X9_laysEnds 57 rfl) rfl rfl rfl ?_
          obtain ⟨x21, ex21, e⟩ := bs e
          refine V_iaload (q := 97) X (TB.get tb_X9_laysEnds 58 rfl) rfl ex21 ?_
          refine V_aload_n (q := 98) X (TB.get tb_X9_laysEnds 59 rfl) rfl rfl rfl ?_
          refine V_iload_n (q := 99) X (TB.get tb_X9_laysEnds 60 rfl) rfl rfl rfl ?_
          refine V_iload (q := 101) X (TB.get tb_X9_laysEnds 61 rfl) rfl rfl ?_
          refine V_iload_n (q := 102) X (TB.get tb_X9_laysEnds 62 rfl) rfl rfl rfl ?_
          obtain ⟨x22, ex22, e⟩ := bs e
          refine V_callV (q := 105) (As := [.int a1, .int v15, .int v8]) (rest := [.int x21, .int v8, .ref x20]) (st' := [.int x22, .int x21, .int v8, .ref x20]) X (TB.get tb_X9_laysEnds 63 rfl) rfl cv_RX9_287 (ok_X9_leastOf a0 a1 v15 v8 h16 x22 ex22).1 (ok_X9_leastOf a0 a1 v15 v8 h16 x22 ex22).2 (Nat.le_of_ble_eq_true rfl) rfl rfl (Nat.le_of_ble_eq_true rfl) rfl ?_
          refine V_mmin (q := 108) X (TB.get tb_X9_laysEnds 64 rfl) rfl mm_RX9_279 mm_min1 mm_i mm_min2 (Nat.le_of_ble_eq_true rfl) (Nat.le_of_ble_eq_true rfl) ?_
          obtain ⟨h23, eh23, e⟩ := bs e
          refine V_iastore (q := 109) X (TB.get tb_X9_laysEnds 65 rfl) rfl eh23 ?_
          refine V_iinc (q := 112) (v := v15 + (1 : Int32)) (lv' := [(4, .int (v15 + (1 : Int32))), (0, .ref a0), (1, .int a1), (2, .int v3), (3, .int v8)]) X (TB.get tb_X9_laysEnds 66 rfl) rfl rfl (by rw [c_iconst_1]) (Nat.le_of_ble_eq_true rfl) rfl ?_
          refine V_goto (q := 72) X (TB.get tb_X9_laysEnds 67 rfl) rfl ?_
          refine V_sub (lv' := [(0, .ref a0), (1, .int a1), (2, .int v3), (3, .int v8), (4, .int (v15 + (1 : Int32)))]) [1, 2, 3, 4, 0] rfl ?_
          exact ihself17 _ _ e
  refine V_sub (lv' := [(0, .ref a0), (1, .int a1), (2, .int (0 : Int32))]) [1, 2, 0] rfl ?_
  refine wh2_elim (P := fun v24 h25 => V p l en (rmD 5) s m args below meth c 5 D tc B nn (Ar B nn) s.heap 0 0 (MQ below (QC D tc B nn (Ar B nn) none res) args s 0 0 (Ar B nn)) h25 2 [(0, .ref a0), (1, .int a1), (2, .int v24)] []) (f := fu) ?_ e
  intro self26 v24 h25 ihself26 e
  unfold MX9_laysEnds_B2 at e
  refine V_iload_n (q := 3) X (TB.get tb_X9_laysEnds 2 rfl) rfl rfl rfl ?_
  refine V_bipush (v := 6) (q := 5) X (TB.get tb_X9_laysEnds 3 rfl) c_bipush_6 rfl ?_
  refine V_icmp_ge (q := 8) (t := 47) X (TB.get tb_X9_laysEnds 4 rfl) rfl rfl (fun hc => ?_) (fun hc => ?_)
  · have e := (if_pos hc).symm.trans e
    refine V_sub (lv' := [(0, .ref a0), (1, .int a1)]) [0, 1] rfl ?_
    exact Jj2 _ e
  · have e := (if_neg hc).symm.trans e
    refine V_aload_n (q := 9) X (TB.get tb_X9_laysEnds 5 rfl) rfl rfl rfl ?_
    obtain ⟨x27, ex27, e⟩ := bs e
    refine V_getR (q := 12) X (TB.get tb_X9_laysEnds 6 rfl) rfl lf_RX9_30 ex27 ?_
    refine V_iload_n (q := 13) X (TB.get tb_X9_laysEnds 7 rfl) rfl rfl rfl ?_
    refine V_iload_n (q := 14) X (TB.get tb_X9_laysEnds 8 rfl) rfl rfl rfl ?_
    refine V_aload_n (q := 15) X (TB.get tb_X9_laysEnds 9 rfl) rfl rfl rfl ?_
    obtain ⟨x28, ex28, e⟩ := bs e
    refine V_getR (q := 18) X (TB.get tb_X9_laysEnds 10 rfl) rfl lf_RX9_13 ex28 ?_
    refine V_iconst (v := 3) (q := 19) X (TB.get tb_X9_laysEnds 11 rfl) c_iconst_3 rfl ?_
    refine V_iload_n (q := 20) X (TB.get tb_X9_laysEnds 12 rfl) rfl rfl rfl ?_
    refine V_iadd (q := 21) X (TB.get tb_X9_laysEnds 13 rfl) rfl ?_
    obtain ⟨x29, ex29, e⟩ := bs e
    refine V_iaload (q := 22) X (TB.get tb_X9_laysEnds 14 rfl) rfl ex29 ?_
    refine jn_elim (P := (fun (k : Int32 → Option (Hp)) => ∀ (w30 : Int32), k w30 = some res → V p l en (rmD 5) s m args below meth c 5 D tc B nn (Ar B nn) s.heap 0 0 (MQ below (QC D tc B nn (Ar B nn) none res) args s 0 0 (Ar B nn)) h25 40 [(0, .ref a0), (1, .int a1), (2, .int v24)] [.int w30, .int v24, .ref x27])) e ?_ (fun j31 Jj31 e => ?_)
    · intro w30 e
      obtain ⟨h32, eh32, e⟩ := bs e
      refine V_iastore (q := 41) X (TB.get tb_X9_laysEnds 24 rfl) rfl eh32 ?_
      refine V_iinc (q := 44) (v := v24 + (1 : Int32)) (lv' := [(2, .int (v24 + (1 : Int32))), (0, .ref a0), (1, .int a1)]) X (TB.get tb_X9_laysEnds 25 rfl) rfl rfl (by rw [c_iconst_1]) (Nat.le_of_ble_eq_true rfl) rfl ?_
      refine V_goto (q := 2) X (TB.get tb_X9_laysEnds 26 rfl) rfl ?_
      refine V_sub (lv' := [(0, .ref a0), (1, .int a1), (2, .int (v24 + (1 : Int32)))]) [1, 2, 0] rfl ?_
      exact ihself26 _ _ e
    refine jn_elim (P := (fun (k : Option (Hp)) => k = some res → V p l en (rmD 5) s m args below meth c 5 D tc B nn (Ar B nn) s.heap 0 0 (MQ below (QC D tc B nn (Ar B nn) none res) args s 0 0 (Ar B nn)) h25 38 [(0, .ref a0), (1, .int a1), (2, .int v24)] [.int v24, .ref x27])) e ?_ (fun j33 Jj33 e => ?_)
    · intro e
      refine V_bipush (v := 99) (q := 40) X (TB.get tb_X9_laysEnds 23 rfl) c_bipush_99 rfl ?_
      exact Jj31 _ e
    refine V_icmp_ge (q := 25) (t := 38) X (TB.get tb_X9_laysEnds 15 rfl) rfl rfl (fun hc => ?_) (fun hc => ?_)
    · have e := (if_pos hc).symm.trans e
      exact Jj33 e
    · have e := (if_neg hc).symm.trans e
      refine V_aload_n (q := 26) X (TB.get tb_X9_laysEnds 16 rfl) rfl rfl rfl ?_
      refine V_iload_n (q := 27) X (TB.get tb_X9_laysEnds 17 rfl) rfl rfl rfl ?_
      refine V_iload_n (q := 28) X (TB.get tb_X9_laysEnds 18 rfl) rfl rfl rfl ?_
      obtain ⟨x34, ex34, e⟩ := bs e
      refine V_callV (q := 31) (As := [.int a1, .int v24]) (rest := [.int v24, .ref x27]) (st' := [.int x34, .int v24, .ref x27]) X (TB.get tb_X9_laysEnds 19 rfl) rfl cv_RX9_284 (ok_X9_isEnd a0 a1 v24 h25 x34 ex34).1 (ok_X9_isEnd a0 a1 v24 h25 x34 ex34).2 (Nat.le_of_ble_eq_true rfl) rfl rfl (Nat.le_of_ble_eq_true rfl) rfl ?_
      refine V_if_eq (q := 34) (t := 38) X (TB.get tb_X9_laysEnds 20 rfl) rfl rfl (fun hc => ?_) (fun hc => ?_)
      · have e := (if_pos hc).symm.trans e
        exact Jj33 e
      · have e := (if_neg hc).symm.trans e
        refine V_iconst (v := 0) (q := 35) X (TB.get tb_X9_laysEnds 21 rfl) c_iconst_0 rfl ?_
        refine V_goto (q := 40) X (TB.get tb_X9_laysEnds 22 rfl) rfl ?_
        exact Jj31 _ e
set_option maxRecDepth 100000 in
set_option maxHeartbeats 4000000 in
theorem ok_X9_toEnd (fu : Nat) (a0 : Nat) (a1 : Int32) (a2 : Int32) (h : Hp) (res : Int32 × Hp) (e : MX9_toEnd fu a0 a1 a2 h = some res) : CK yX9_toEnd cX9_toEnd 3 (some .int) 6 [.ref a0, .int a1, .int a2] h (some (.int res.1)) res.2 ∧ (h.1 a0).1 = 9 := by
  obtain ⟨hcl, e⟩ := h_g_inv e
  refine ⟨CK_of pn_RX9 cm_X9_toEnd (Nat.le_of_ble_eq_true rfl) ?_, hcl⟩
  intro l D tc B nn p en s m args below meth c X hr hlk
  replace X : CX p (rmD 6) s m args c cX9_toEnd 3 RX9 D tc 6 := X
  show V p l en (rmD 6) s m args below meth c 3 D tc B nn (Ar B nn) s.heap 0 0 (MQ below (QC D tc B nn (Ar B nn) (some (.int res.1)) res.2) args s 0 0 (Ar B nn)) h 0 [(0, .ref a0), (1, .int a1), (2, .int a2)] []
  refine V_aload_n (q := 1) X (TB.get tb_X9_toEnd 0 rfl) rfl rfl rfl ?_
  refine V_iload_n (q := 2) X (TB.get tb_X9_toEnd 1 rfl) rfl rfl rfl ?_
  refine V_iload_n (q := 3) X (TB.get tb_X9_toEnd 2 rfl) rfl rfl rfl ?_
  obtain ⟨x1, ex1, e⟩ := bs e
  refine V_callV (q := 6) (As := [.int a1, .int a2]) (rest := []) (st' := [.int x1]) X (TB.get tb_X9_toEnd 3 rfl) rfl cv_RX9_276 (ok_X9_isState a0 a1 a2 h x1 ex1).1 (ok_X9_isState a0 a1 a2 h x1 ex1).2 (Nat.le_of_ble_eq_true rfl) rfl rfl (Nat.le_of_ble_eq_true rfl) rfl ?_
  refine V_if_ne (q := 9) (t := 15) X (TB.get tb_X9_toEnd 4 rfl) rfl rfl (fun hc => ?_) (fun hc => ?_)
  · have e := (if_neg hc).symm.trans e
    refine V_aload_n (q := 16) X (TB.get tb_X9_toEnd 9 rfl) rfl rfl rfl ?_
    refine V_iload_n (q := 17) X (TB.get tb_X9_toEnd 10 rfl) rfl rfl rfl ?_
    obtain ⟨h2, eh2, e⟩ := bs e
    refine V_callV (q := 20) (As := [.int a1]) (rest := []) (st' := []) X (TB.get tb_X9_toEnd 11 rfl) rfl cv_RX9_290 (ok_X9_laysEnds fu a0 a1 h h2 eh2).1 (ok_X9_laysEnds fu a0 a1 h h2 eh2).2 (Nat.le_of_ble_eq_true rfl) rfl rfl (Nat.le_of_ble_eq_true rfl) rfl ?_
    refine V_aload_n (q := 21) X (TB.get tb_X9_toEnd 12 rfl) rfl rfl rfl ?_
    obtain ⟨x3, ex3, e⟩ := bs e
    refine V_getR (q := 24) X (TB.get tb_X9_toEnd 13 rfl) rfl lf_RX9_30 ex3 ?_
    refine V_iload_n (q := 25) X (TB.get tb_X9_toEnd 14 rfl) rfl rfl rfl ?_
    obtain ⟨x4, ex4, e⟩ := bs e
    refine V_iaload (q := 26) X (TB.get tb_X9_toEnd 15 rfl) rfl ex4 ?_
    refine V_bipush (v := 99) (q := 28) X (TB.get tb_X9_toEnd 16 rfl) c_bipush_99 rfl ?_
    refine V_icmp_ne (q := 31) (t := 39) X (TB.get tb_X9_toEnd 17 rfl) rfl rfl (fun hc => ?_) (fun hc => ?_)
    · have e := (if_neg hc).symm.trans e
      refine V_aload_n (q := 40) X (TB.get tb_X9_toEnd 22 rfl) rfl rfl rfl ?_
      refine V_aload_n (q := 41) X (TB.get tb_X9_toEnd 23 rfl) rfl rfl rfl ?_
      refine V_getR (q := 44) X (TB.get tb_X9_toEnd 24 rfl) rfl lf_RX9_30 ex3 ?_
      refine V_iload_n (q := 45) X (TB.get tb_X9_toEnd 25 rfl) rfl rfl rfl ?_
      refine V_iaload (q := 46) X (TB.get tb_X9_toEnd 26 rfl) rfl ex4 ?_
      obtain ⟨p5, ep5, e⟩ := bs e
      refine V_callV (q := 49) (As := [.int x4]) (rest := []) (st' := [.int p5.1]) X (TB.get tb_X9_toEnd 27 rfl) rfl cv_RX9_248 (ok_X9_gives a0 x4 h2 p5 ep5).1 (ok_X9_gives a0 x4 h2 p5 ep5).2 (Nat.le_of_ble_eq_true rfl) rfl rfl (Nat.le_of_ble_eq_true rfl) rfl ?_
      cases e
      exact V_iret X hr hlk (TB.get tb_X9_toEnd 28 rfl)
    · have e := (if_pos hc).symm.trans e
      refine V_aload_n (q := 32) X (TB.get tb_X9_toEnd 18 rfl) rfl rfl rfl ?_
      refine V_iconst (v := 5) (q := 33) X (TB.get tb_X9_toEnd 19 rfl) c_iconst_5 rfl ?_
      obtain ⟨p6, ep6, e⟩ := bs e
      refine V_callV (q := 36) (As := [.int (5 : Int32)]) (rest := []) (st' := [.int p6.1]) X (TB.get tb_X9_toEnd 20 rfl) rfl cv_RX9_242 (ok_X9_refuse a0 (5 : Int32) h2 p6 ep6).1 (ok_X9_refuse a0 (5 : Int32) h2 p6 ep6).2 (Nat.le_of_ble_eq_true rfl) rfl rfl (Nat.le_of_ble_eq_true rfl) rfl ?_
      refine V_goto (q := 49) X (TB.get tb_X9_toEnd 21 rfl) rfl ?_
      cases e
      exact V_iret X hr hlk (TB.get tb_X9_toEnd 28 rfl)
  · have e := (if_pos hc).symm.trans e
    refine V_aload_n (q := 10) X (TB.get tb_X9_toEnd 5 rfl) rfl rfl rfl ?_
    refine V_iconst (v := 2) (q := 11) X (TB.get tb_X9_toEnd 6 rfl) c_iconst_2 rfl ?_
    obtain ⟨p7, ep7, e⟩ := bs e
    refine V_callV (q := 14) (As := [.int (2 : Int32)]) (rest := []) (st' := [.int p7.1]) X (TB.get tb_X9_toEnd 7 rfl) rfl cv_RX9_242 (ok_X9_refuse a0 (2 : Int32) h p7 ep7).1 (ok_X9_refuse a0 (2 : Int32) h p7 ep7).2 (Nat.le_of_ble_eq_true rfl) rfl rfl (Nat.le_of_ble_eq_true rfl) rfl ?_
    cases e
    exact V_iret X hr hlk (TB.get tb_X9_toEnd 8 rfl)
set_option maxRecDepth 100000 in
set_option maxHeartbeats 4000000 in
theorem ok_X9_towards (fu : Nat) (a0 : Nat) (a1 : Int32) (a2 : Int32) (h : Hp) (res : Int32 × Hp) (e : MX9_towards fu a0 a1 a2 h = some res) : CK yX9_towards cX9_towards 4 (some .int) 6 [.ref a0, .int a1, .int a2] h (some (.int res.1)) res.2 ∧ (h.1 a0).1 = 9 := by
  obtain ⟨hcl, e⟩ := h_g_inv e
  refine ⟨CK_of pn_RX9 cm_X9_towards (Nat.le_of_ble_eq_true rfl) ?_, hcl⟩
  intro l D tc B nn p en s m args below meth c X hr hlk
  replace X : CX p (rmD 6) s m args c cX9_towards 4 RX9 D tc 6 := X
  show V p l en (rmD 6) s m args below meth c 4 D tc B nn (Ar B nn) s.heap 0 0 (MQ below (QC D tc B nn (Ar B nn) (some (.int res.1)) res.2) args s 0 0 (Ar B nn)) h 0 [(0, .ref a0), (1, .int a1), (2, .int a2)] []
  refine V_aload_n (q := 1) X (TB.get tb_X9_towards 0 rfl) rfl rfl rfl ?_
  refine V_iload_n (q := 2) X (TB.get tb_X9_towards 1 rfl) rfl rfl rfl ?_
  refine V_iload_n (q := 3) X (TB.get tb_X9_towards 2 rfl) rfl rfl rfl ?_
  obtain ⟨x1, ex1, e⟩ := bs e
  refine V_callV (q := 6) (As := [.int a1, .int a2]) (rest := []) (st' := [.int x1]) X (TB.get tb_X9_towards 3 rfl) rfl cv_RX9_276 (ok_X9_isState a0 a1 a2 h x1 ex1).1 (ok_X9_isState a0 a1 a2 h x1 ex1).2 (Nat.le_of_ble_eq_true rfl) rfl rfl (Nat.le_of_ble_eq_true rfl) rfl ?_
  refine V_if_ne (q := 9) (t := 15) X (TB.get tb_X9_towards 4 rfl) rfl rfl (fun hc => ?_) (fun hc => ?_)
  · have e := (if_neg hc).symm.trans e
    refine V_aload_n (q := 16) X (TB.get tb_X9_towards 9 rfl) rfl rfl rfl ?_
    refine V_iload_n (q := 17) X (TB.get tb_X9_towards 10 rfl) rfl rfl rfl ?_
    obtain ⟨h2, eh2, e⟩ := bs e
    refine V_callV (q := 20) (As := [.int a1]) (rest := []) (st' := []) X (TB.get tb_X9_towards 11 rfl) rfl cv_RX9_290 (ok_X9_laysEnds fu a0 a1 h h2 eh2).1 (ok_X9_laysEnds fu a0 a1 h h2 eh2).2 (Nat.le_of_ble_eq_true rfl) rfl rfl (Nat.le_of_ble_eq_true rfl) rfl ?_
    refine V_aload_n (q := 21) X (TB.get tb_X9_towards 12 rfl) rfl rfl rfl ?_
    obtain ⟨x3, ex3, e⟩ := bs e
    refine V_getR (q := 24) X (TB.get tb_X9_towards 13 rfl) rfl lf_RX9_30 ex3 ?_
    refine V_iload_n (q := 25) X (TB.get tb_X9_towards 14 rfl) rfl rfl rfl ?_
    obtain ⟨x4, ex4, e⟩ := bs e
    refine V_iaload (q := 26) X (TB.get tb_X9_towards 15 rfl) rfl ex4 ?_
    refine V_bipush (v := 99) (q := 28) X (TB.get tb_X9_towards 16 rfl) c_bipush_99 rfl ?_
    refine jn_elim (P := (fun (k : Option (Int32 × Hp)) => k = some res → V p l en (rmD 6) s m args below meth c 4 D tc B nn (Ar B nn) s.heap 0 0 (MQ below (QC D tc B nn (Ar B nn) (some (.int res.1)) res.2) args s 0 0 (Ar B nn)) h2 40 [(0, .ref a0)] [])) e ?_ (fun j5 Jj5 e => ?_)
    · intro e
      refine V_aload_n (q := 41) X (TB.get tb_X9_towards 23 rfl) rfl rfl rfl ?_
      refine V_iconst (v := 5) (q := 42) X (TB.get tb_X9_towards 24 rfl) c_iconst_5 rfl ?_
      obtain ⟨p6, ep6, e⟩ := bs e
      refine V_callV (q := 45) (As := [.int (5 : Int32)]) (rest := []) (st' := [.int p6.1]) X (TB.get tb_X9_towards 25 rfl) rfl cv_RX9_242 (ok_X9_refuse a0 (5 : Int32) h2 p6 ep6).1 (ok_X9_refuse a0 (5 : Int32) h2 p6 ep6).2 (Nat.le_of_ble_eq_true rfl) rfl rfl (Nat.le_of_ble_eq_true rfl) rfl ?_
      cases e
      exact V_iret X hr hlk (TB.get tb_X9_towards 26 rfl)
    refine V_icmp_eq (q := 31) (t := 40) X (TB.get tb_X9_towards 17 rfl) rfl rfl (fun hc => ?_) (fun hc => ?_)
    · have e := (if_pos hc).symm.trans e
      refine V_sub (lv' := [(0, .ref a0)]) [0] rfl ?_
      exact Jj5 e
    · have e := (if_neg hc).symm.trans e
      refine V_aload_n (q := 32) X (TB.get tb_X9_towards 18 rfl) rfl rfl rfl ?_
      refine V_getR (q := 35) X (TB.get tb_X9_towards 19 rfl) rfl lf_RX9_30 ex3 ?_
      refine V_iload_n (q := 36) X (TB.get tb_X9_towards 20 rfl) rfl rfl rfl ?_
      refine V_iaload (q := 37) X (TB.get tb_X9_towards 21 rfl) rfl ex4 ?_
      refine V_if_ne (q := 40) (t := 46) X (TB.get tb_X9_towards 22 rfl) rfl rfl (fun hc => ?_) (fun hc => ?_)
      · have e := (if_neg hc).symm.trans e
        refine V_iconst (v := 0) (q := 47) X (TB.get tb_X9_towards 27 rfl) c_iconst_0 rfl ?_
        refine V_istore_n (q := 48) (lv' := [(3, .int (0 : Int32)), (0, .ref a0), (1, .int a1), (2, .int a2)]) X (TB.get tb_X9_towards 28 rfl) rfl rfl (Nat.le_of_ble_eq_true rfl) rfl ?_
        refine jn_elim (P := (fun (k : Int32 → Option (Int32 × Hp)) => ∀ (v7 : Int32), k v7 = some res → V p l en (rmD 6) s m args below meth c 4 D tc B nn (Ar B nn) s.heap 0 0 (MQ below (QC D tc B nn (Ar B nn) (some (.int res.1)) res.2) args s 0 0 (Ar B nn)) h2 70 [(0, .ref a0), (3, .int v7)] [])) e ?_ (fun j8 Jj8 e => ?_)
        · intro v7 e
          refine V_aload_n (q := 71) X (TB.get tb_X9_towards 41 rfl) rfl rfl rfl ?_
          refine V_iload_n (q := 72) X (TB.get tb_X9_towards 42 rfl) rfl rfl rfl ?_
          obtain ⟨p9, ep9, e⟩ := bs e
          refine V_callV (q := 75) (As := [.int v7]) (rest := []) (st' := [.int p9.1]) X (TB.get tb_X9_towards 43 rfl) rfl cv_RX9_248 (ok_X9_gives a0 v7 h2 p9 ep9).1 (ok_X9_gives a0 v7 h2 p9 ep9).2 (Nat.le_of_ble_eq_true rfl) rfl rfl (Nat.le_of_ble_eq_true rfl) rfl ?_
          cases e
          exact V_iret X hr hlk (TB.get tb_X9_towards 44 rfl)
        refine V_sub (lv' := [(0, .ref a0), (1, .int a1), (2, .int a2), (3, .int (0 : Int32))]) [1, 2, 3, 0] rfl ?_
        refine wh1_elim (P := fun v10 => V p l en (rmD 6) s m args below meth c 4 D tc B nn (Ar B nn) s.heap 0 0 (MQ below (QC D tc B nn (Ar B nn) (some (.int res.1)) res.2) args s 0 0 (Ar B nn)) h2 48 [(0, .ref a0), (1, .int a1), (2, .int a2), (3, .int v10)] []) (f := fu) ?_ e
        intro self11 v10 ihself11 e
        unfold MX9_towards_B48 at e
        refine V_aload_n (q := 49) X (TB.get tb_X9_towards 29 rfl) rfl rfl rfl ?_
        refine V_iload_n (q := 50) X (TB.get tb_X9_towards 30 rfl) rfl rfl rfl ?_
        refine V_iload_n (q := 51) X (TB.get tb_X9_towards 31 rfl) rfl rfl rfl ?_
        refine V_iload_n (q := 52) X (TB.get tb_X9_towards 32 rfl) rfl rfl rfl ?_
        obtain ⟨x12, ex12, e⟩ := bs e
        refine V_callV (q := 55) (As := [.int a1, .int v10, .int a2]) (rest := []) (st' := [.int x12]) X (TB.get tb_X9_towards 33 rfl) rfl cv_RX9_287 (ok_X9_leastOf a0 a1 v10 a2 h2 x12 ex12).1 (ok_X9_leastOf a0 a1 v10 a2 h2 x12 ex12).2 (Nat.le_of_ble_eq_true rfl) rfl rfl (Nat.le_of_ble_eq_true rfl) rfl ?_
        refine V_aload_n (q := 56) X (TB.get tb_X9_towards 34 rfl) rfl rfl rfl ?_
        refine V_getR (q := 59) X (TB.get tb_X9_towards 35 rfl) rfl lf_RX9_30 ex3 ?_
        refine V_iload_n (q := 60) X (TB.get tb_X9_towards 36 rfl) rfl rfl rfl ?_
        refine V_iaload (q := 61) X (TB.get tb_X9_towards 37 rfl) rfl ex4 ?_
        refine V_icmp_eq (q := 64) (t := 70) X (TB.get tb_X9_towards 38 rfl) rfl rfl (fun hc => ?_) (fun hc => ?_)
        · have e := (if_pos hc).symm.trans e
          refine V_sub (lv' := [(0, .ref a0), (3, .int v10)]) [0, 3] rfl ?_
          exact Jj8 _ e
        · have e := (if_neg hc).symm.trans e
          refine V_iinc (q := 67) (v := v10 + (1 : Int32)) (lv' := [(3, .int (v10 + (1 : Int32))), (0, .ref a0), (1, .int a1), (2, .int a2)]) X (TB.get tb_X9_towards 39 rfl) rfl rfl (by rw [c_iconst_1]) (Nat.le_of_ble_eq_true rfl) rfl ?_
          refine V_goto (q := 48) X (TB.get tb_X9_towards 40 rfl) rfl ?_
          refine V_sub (lv' := [(0, .ref a0), (1, .int a1), (2, .int a2), (3, .int (v10 + (1 : Int32)))]) [1, 2, 3, 0] rfl ?_
          exact ihself11 _ e
      · have e := (if_pos hc).symm.trans e
        refine V_sub (lv' := [(0, .ref a0)]) [0] rfl ?_
        exact Jj5 e
  · have e := (if_pos hc).symm.trans e
    refine V_aload_n (q := 10) X (TB.get tb_X9_towards 5 rfl) rfl rfl rfl ?_
    refine V_iconst (v := 2) (q := 11) X (TB.get tb_X9_towards 6 rfl) c_iconst_2 rfl ?_
    obtain ⟨p13, ep13, e⟩ := bs e
    refine V_callV (q := 14) (As := [.int (2 : Int32)]) (rest := []) (st' := [.int p13.1]) X (TB.get tb_X9_towards 7 rfl) rfl cv_RX9_242 (ok_X9_refuse a0 (2 : Int32) h p13 ep13).1 (ok_X9_refuse a0 (2 : Int32) h p13 ep13).2 (Nat.le_of_ble_eq_true rfl) rfl rfl (Nat.le_of_ble_eq_true rfl) rfl ?_
    cases e
    exact V_iret X hr hlk (TB.get tb_X9_towards 8 rfl)
set_option maxRecDepth 100000 in
set_option maxHeartbeats 4000000 in
theorem ok_X9_differ (fu : Nat) (a0 : Nat) (a1 : Int32) (a2 : Int32) (a3 : Int32) (h : Hp) (res : Int32) (e : MX9_differ fu a0 a1 a2 a3 h = some res) : CK yX9_differ cX9_differ 5 (some .boolean) 4 [.ref a0, .int a1, .int a2, .int a3] h (some (.int res)) h ∧ (h.1 a0).1 = 9 := by
  obtain ⟨hcl, e⟩ := h_g_inv e
  refine ⟨CK_of pn_RX9 cm_X9_differ (Nat.le_of_ble_eq_true rfl) ?_, hcl⟩
  intro l D tc B nn p en s m args below meth c X hr hlk
  replace X : CX p (rmD 4) s m args c cX9_differ 5 RX9 D tc 4 := X
  show V p l en (rmD 4) s m args below meth c 5 D tc B nn (Ar B nn) s.heap 0 0 (MQ below (QC D tc B nn (Ar B nn) (some (.int res)) h) args s 0 0 (Ar B nn)) h 0 [(0, .ref a0), (1, .int a1), (2, .int a2), (3, .int a3)] []
  refine V_aload_n (q := 1) X (TB.get tb_X9_differ 0 rfl) rfl rfl rfl ?_
  refine V_iload_n (q := 2) X (TB.get tb_X9_differ 1 rfl) rfl rfl rfl ?_
  refine V_iload_n (q := 3) X (TB.get tb_X9_differ 2 rfl) rfl rfl rfl ?_
  obtain ⟨x1, ex1, e⟩ := bs e
  refine V_callV (q := 6) (As := [.int a1, .int a2]) (rest := []) (st' := [.int x1]) X (TB.get tb_X9_differ 3 rfl) rfl cv_RX9_284 (ok_X9_isEnd a0 a1 a2 h x1 ex1).1 (ok_X9_isEnd a0 a1 a2 h x1 ex1).2 (Nat.le_of_ble_eq_true rfl) rfl rfl (Nat.le_of_ble_eq_true rfl) rfl ?_
  refine V_aload_n (q := 7) X (TB.get tb_X9_differ 4 rfl) rfl rfl rfl ?_
  refine V_iload_n (q := 8) X (TB.get tb_X9_differ 5 rfl) rfl rfl rfl ?_
  refine V_iload_n (q := 9) X (TB.get tb_X9_differ 6 rfl) rfl rfl rfl ?_
  obtain ⟨x2, ex2, e⟩ := bs e
  refine V_callV (q := 12) (As := [.int a1, .int a3]) (rest := [.int x1]) (st' := [.int x2, .int x1]) X (TB.get tb_X9_differ 7 rfl) rfl cv_RX9_284 (ok_X9_isEnd a0 a1 a3 h x2 ex2).1 (ok_X9_isEnd a0 a1 a3 h x2 ex2).2 (Nat.le_of_ble_eq_true rfl) rfl rfl (Nat.le_of_ble_eq_true rfl) rfl ?_
  refine V_icmp_eq (q := 15) (t := 17) X (TB.get tb_X9_differ 8 rfl) rfl rfl (fun hc => ?_) (fun hc => ?_)
  · have e := (if_pos hc).symm.trans e
    refine V_iconst (v := 0) (q := 18) X (TB.get tb_X9_differ 11 rfl) c_iconst_0 rfl ?_
    refine V_istore (q := 20) (lv' := [(4, .int (0 : Int32)), (0, .ref a0), (1, .int a1), (2, .int a2), (3, .int a3)]) X (TB.get tb_X9_differ 12 rfl) rfl (Nat.le_of_ble_eq_true rfl) rfl ?_
    refine V_sub (lv' := [(0, .ref a0), (1, .int a1), (2, .int a2), (3, .int a3), (4, .int (0 : Int32))]) [1, 2, 3, 4, 0] rfl ?_
    refine wh1_elim (P := fun v3 => V p l en (rmD 4) s m args below meth c 5 D tc B nn (Ar B nn) s.heap 0 0 (MQ below (QC D tc B nn (Ar B nn) (some (.int res)) h) args s 0 0 (Ar B nn)) h 20 [(0, .ref a0), (1, .int a1), (2, .int a2), (3, .int a3), (4, .int v3)] []) (f := fu) ?_ e
    intro self4 v3 ihself4 e
    unfold MX9_differ_B20 at e
    refine V_iload (q := 22) X (TB.get tb_X9_differ 13 rfl) rfl rfl ?_
    refine V_aload_n (q := 23) X (TB.get tb_X9_differ 14 rfl) rfl rfl rfl ?_
    obtain ⟨x5, ex5, e⟩ := bs e
    refine V_getR (q := 26) X (TB.get tb_X9_differ 15 rfl) rfl lf_RX9_13 ex5 ?_
    refine V_bipush (v := 11) (q := 28) X (TB.get tb_X9_differ 16 rfl) c_bipush_11 rfl ?_
    refine V_iload_n (q := 29) X (TB.get tb_X9_differ 17 rfl) rfl rfl rfl ?_
    refine V_iadd (q := 30) X (TB.get tb_X9_differ 18 rfl) rfl ?_
    obtain ⟨x6, ex6, e⟩ := bs e
    refine V_iaload (q := 31) X (TB.get tb_X9_differ 19 rfl) rfl ex6 ?_
    refine V_icmp_ge (q := 34) (t := 130) X (TB.get tb_X9_differ 20 rfl) rfl rfl (fun hc => ?_) (fun hc => ?_)
    · have e := (if_pos hc).symm.trans e
      refine V_iconst (v := 0) (q := 131) X (TB.get tb_X9_differ 78 rfl) c_iconst_0 rfl ?_
      cases e
      exact V_zret X hr hlk (Or.inl rfl) (TB.get tb_X9_differ 79 rfl)
    · have e := (if_neg hc).symm.trans e
      refine V_aload_n (q := 35) X (TB.get tb_X9_differ 21 rfl) rfl rfl rfl ?_
      refine V_iload_n (q := 36) X (TB.get tb_X9_differ 22 rfl) rfl rfl rfl ?_
      refine V_iload (q := 38) X (TB.get tb_X9_differ 23 rfl) rfl rfl ?_
      refine V_iload_n (q := 39) X (TB.get tb_X9_differ 24 rfl) rfl rfl rfl ?_
      obtain ⟨x7, ex7, e⟩ := bs e
      refine V_callV (q := 42) (As := [.int a1, .int v3, .int a2]) (rest := []) (st' := [.int x7]) X (TB.get tb_X9_differ 25 rfl) rfl cv_RX9_261 (ok_X9_canBe a0 a1 v3 a2 h x7 ex7).1 (ok_X9_canBe a0 a1 v3 a2 h x7 ex7).2 (Nat.le_of_ble_eq_true rfl) rfl rfl (Nat.le_of_ble_eq_true rfl) rfl ?_
      refine V_aload_n (q := 43) X (TB.get tb_X9_differ 26 rfl) rfl rfl rfl ?_
      refine V_iload_n (q := 44) X (TB.get tb_X9_differ 27 rfl) rfl rfl rfl ?_
      refine V_iload (q := 46) X (TB.get tb_X9_differ 28 rfl) rfl rfl ?_
      refine V_iload_n (q := 47) X (TB.get tb_X9_differ 29 rfl) rfl rfl rfl ?_
      obtain ⟨x8, ex8, e⟩ := bs e
      refine V_callV (q := 50) (As := [.int a1, .int v3, .int a3]) (rest := [.int x7]) (st' := [.int x8, .int x7]) X (TB.get tb_X9_differ 30 rfl) rfl cv_RX9_261 (ok_X9_canBe a0 a1 v3 a3 h x8 ex8).1 (ok_X9_canBe a0 a1 v3 a3 h x8 ex8).2 (Nat.le_of_ble_eq_true rfl) rfl rfl (Nat.le_of_ble_eq_true rfl) rfl ?_
      refine V_icmp_eq (q := 53) (t := 55) X (TB.get tb_X9_differ 31 rfl) rfl rfl (fun hc => ?_) (fun hc => ?_)
      · have e := (if_pos hc).symm.trans e
        refine V_aload_n (q := 56) X (TB.get tb_X9_differ 34 rfl) rfl rfl rfl ?_
        refine V_iload_n (q := 57) X (TB.get tb_X9_differ 35 rfl) rfl rfl rfl ?_
        refine V_iload (q := 59) X (TB.get tb_X9_differ 36 rfl) rfl rfl ?_
        refine V_iload_n (q := 60) X (TB.get tb_X9_differ 37 rfl) rfl rfl rfl ?_
        refine V_callV (q := 63) (As := [.int a1, .int v3, .int a2]) (rest := []) (st' := [.int x7]) X (TB.get tb_X9_differ 38 rfl) rfl cv_RX9_261 (ok_X9_canBe a0 a1 v3 a2 h x7 ex7).1 (ok_X9_canBe a0 a1 v3 a2 h x7 ex7).2 (Nat.le_of_ble_eq_true rfl) rfl rfl (Nat.le_of_ble_eq_true rfl) rfl ?_
        refine jn_elim (P := (fun (k : Option (Int32)) => k = some res → V p l en (rmD 4) s m args below meth c 5 D tc B nn (Ar B nn) s.heap 0 0 (MQ below (QC D tc B nn (Ar B nn) (some (.int res)) h) args s 0 0 (Ar B nn)) h 124 [(0, .ref a0), (1, .int a1), (2, .int a2), (3, .int a3), (4, .int v3)] [])) e ?_ (fun j9 Jj9 e => ?_)
        · intro e
          refine V_iinc (q := 127) (v := v3 + (1 : Int32)) (lv' := [(4, .int (v3 + (1 : Int32))), (0, .ref a0), (1, .int a1), (2, .int a2), (3, .int a3)]) X (TB.get tb_X9_differ 76 rfl) rfl rfl (by rw [c_iconst_1]) (Nat.le_of_ble_eq_true rfl) rfl ?_
          refine V_goto (q := 20) X (TB.get tb_X9_differ 77 rfl) rfl ?_
          refine V_sub (lv' := [(0, .ref a0), (1, .int a1), (2, .int a2), (3, .int a3), (4, .int (v3 + (1 : Int32)))]) [1, 2, 3, 4, 0] rfl ?_
          exact ihself4 _ e
        refine V_if_eq (q := 66) (t := 124) X (TB.get tb_X9_differ 39 rfl) rfl rfl (fun hc => ?_) (fun hc => ?_)
        · have e := (if_pos hc).symm.trans e
          exact Jj9 e
        · have e := (if_neg hc).symm.trans e
          refine V_aload_n (q := 67) X (TB.get tb_X9_differ 40 rfl) rfl rfl rfl ?_
          obtain ⟨x10, ex10, e⟩ := bs e
          refine V_getR (q := 70) X (TB.get tb_X9_differ 41 rfl) rfl lf_RX9_33 ex10 ?_
          refine V_bipush (v := 6) (q := 72) X (TB.get tb_X9_differ 42 rfl) c_bipush_6 rfl ?_
          refine V_aload_n (q := 73) X (TB.get tb_X9_differ 43 rfl) rfl rfl rfl ?_
          refine V_iload_n (q := 74) X (TB.get tb_X9_differ 44 rfl) rfl rfl rfl ?_
          refine V_iload (q := 76) X (TB.get tb_X9_differ 45 rfl) rfl rfl ?_
          refine V_iload_n (q := 77) X (TB.get tb_X9_differ 46 rfl) rfl rfl rfl ?_
          obtain ⟨x11, ex11, e⟩ := bs e
          refine V_callV (q := 80) (As := [.int a1, .int v3, .int a2]) (rest := [.int (6 : Int32), .ref x10]) (st' := [.int x11, .int (6 : Int32), .ref x10]) X (TB.get tb_X9_differ 47 rfl) rfl cv_RX9_254 (ok_X9_yes a0 a1 v3 a2 h x11 ex11).1 (ok_X9_yes a0 a1 v3 a2 h x11 ex11).2 (Nat.le_of_ble_eq_true rfl) rfl rfl (Nat.le_of_ble_eq_true rfl) rfl ?_
          refine V_imul (q := 81) X (TB.get tb_X9_differ 48 rfl) rfl ?_
          refine V_aload_n (q := 82) X (TB.get tb_X9_differ 49 rfl) rfl rfl rfl ?_
          refine V_iload_n (q := 83) X (TB.get tb_X9_differ 50 rfl) rfl rfl rfl ?_
          refine V_iload (q := 85) X (TB.get tb_X9_differ 51 rfl) rfl rfl ?_
          refine V_iload_n (q := 86) X (TB.get tb_X9_differ 52 rfl) rfl rfl rfl ?_
          obtain ⟨x12, ex12, e⟩ := bs e
          refine V_callV (q := 89) (As := [.int a1, .int v3, .int a3]) (rest := [.int ((6 : Int32) * x11), .ref x10]) (st' := [.int x12, .int ((6 : Int32) * x11), .ref x10]) X (TB.get tb_X9_differ 53 rfl) rfl cv_RX9_254 (ok_X9_yes a0 a1 v3 a3 h x12 ex12).1 (ok_X9_yes a0 a1 v3 a3 h x12 ex12).2 (Nat.le_of_ble_eq_true rfl) rfl rfl (Nat.le_of_ble_eq_true rfl) rfl ?_
          refine V_iadd (q := 90) X (TB.get tb_X9_differ 54 rfl) rfl ?_
          obtain ⟨x13, ex13, e⟩ := bs e
          refine V_baloadZ (q := 91) X (TB.get tb_X9_differ 55 rfl) rfl ex13 ?_
          refine V_if_ne (q := 94) (t := 122) X (TB.get tb_X9_differ 56 rfl) rfl rfl (fun hc => ?_) (fun hc => ?_)
          · have e := (if_neg hc).symm.trans e
            refine V_iconst (v := 1) (q := 123) X (TB.get tb_X9_differ 74 rfl) c_iconst_1 rfl ?_
            cases e
            exact V_zret X hr hlk (Or.inr rfl) (TB.get tb_X9_differ 75 rfl)
          · have e := (if_pos hc).symm.trans e
            refine V_aload_n (q := 95) X (TB.get tb_X9_differ 57 rfl) rfl rfl rfl ?_
            refine V_getR (q := 98) X (TB.get tb_X9_differ 58 rfl) rfl lf_RX9_33 ex10 ?_
            refine V_bipush (v := 6) (q := 100) X (TB.get tb_X9_differ 59 rfl) c_bipush_6 rfl ?_
            refine V_aload_n (q := 101) X (TB.get tb_X9_differ 60 rfl) rfl rfl rfl ?_
            refine V_iload_n (q := 102) X (TB.get tb_X9_differ 61 rfl) rfl rfl rfl ?_
            refine V_iload (q := 104) X (TB.get tb_X9_differ 62 rfl) rfl rfl ?_
            refine V_iload_n (q := 105) X (TB.get tb_X9_differ 63 rfl) rfl rfl rfl ?_
            obtain ⟨x14, ex14, e⟩ := bs e
            refine V_callV (q := 108) (As := [.int a1, .int v3, .int a2]) (rest := [.int (6 : Int32), .ref x10]) (st' := [.int x14, .int (6 : Int32), .ref x10]) X (TB.get tb_X9_differ 64 rfl) rfl cv_RX9_264 (ok_X9_no a0 a1 v3 a2 h x14 ex14).1 (ok_X9_no a0 a1 v3 a2 h x14 ex14).2 (Nat.le_of_ble_eq_true rfl) rfl rfl (Nat.le_of_ble_eq_true rfl) rfl ?_
            refine V_imul (q := 109) X (TB.get tb_X9_differ 65 rfl) rfl ?_
            refine V_aload_n (q := 110) X (TB.get tb_X9_differ 66 rfl) rfl rfl rfl ?_
            refine V_iload_n (q := 111) X (TB.get tb_X9_differ 67 rfl) rfl rfl rfl ?_
            refine V_iload (q := 113) X (TB.get tb_X9_differ 68 rfl) rfl rfl ?_
            refine V_iload_n (q := 114) X (TB.get tb_X9_differ 69 rfl) rfl rfl rfl ?_
            obtain ⟨x15, ex15, e⟩ := bs e
            refine V_callV (q := 117) (As := [.int a1, .int v3, .int a3]) (rest := [.int ((6 : Int32) * x14), .ref x10]) (st' := [.int x15, .int ((6 : Int32) * x14), .ref x10]) X (TB.get tb_X9_differ 70 rfl) rfl cv_RX9_264 (ok_X9_no a0 a1 v3 a3 h x15 ex15).1 (ok_X9_no a0 a1 v3 a3 h x15 ex15).2 (Nat.le_of_ble_eq_true rfl) rfl rfl (Nat.le_of_ble_eq_true rfl) rfl ?_
            refine V_iadd (q := 118) X (TB.get tb_X9_differ 71 rfl) rfl ?_
            obtain ⟨x16, ex16, e⟩ := bs e
            refine V_baloadZ (q := 119) X (TB.get tb_X9_differ 72 rfl) rfl ex16 ?_
            refine V_if_eq (q := 122) (t := 124) X (TB.get tb_X9_differ 73 rfl) rfl rfl (fun hc => ?_) (fun hc => ?_)
            · have e := (if_pos hc).symm.trans e
              exact Jj9 e
            · have e := (if_neg hc).symm.trans e
              refine V_iconst (v := 1) (q := 123) X (TB.get tb_X9_differ 74 rfl) c_iconst_1 rfl ?_
              cases e
              exact V_zret X hr hlk (Or.inr rfl) (TB.get tb_X9_differ 75 rfl)
      · have e := (if_neg hc).symm.trans e
        refine V_iconst (v := 1) (q := 54) X (TB.get tb_X9_differ 32 rfl) c_iconst_1 rfl ?_
        cases e
        exact V_zret X hr hlk (Or.inr rfl) (TB.get tb_X9_differ 33 rfl)
  · have e := (if_neg hc).symm.trans e
    refine V_iconst (v := 1) (q := 16) X (TB.get tb_X9_differ 9 rfl) c_iconst_1 rfl ?_
    cases e
    exact V_zret X hr hlk (Or.inr rfl) (TB.get tb_X9_differ 10 rfl)
