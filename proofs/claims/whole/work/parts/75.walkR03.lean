set_option maxRecDepth 100000 in
set_option maxHeartbeats 4000000 in
theorem ok_X9_whyAt (fu : Nat) (a0 : Nat) (a1 : Int32) (h : Hp) (res : Int32 × Hp) (e : MX9_whyAt fu a0 a1 h = some res) : CK yX9_whyAt cX9_whyAt 6 (some .int) 5 [.ref a0, .int a1] h (some (.int res.1)) res.2 ∧ (h.1 a0).1 = 9 := by
  obtain ⟨hcl, e⟩ := h_g_inv e
  refine ⟨CK_of pn_RX9 cm_X9_whyAt (Nat.le_of_ble_eq_true rfl) ?_, hcl⟩
  intro l D tc B nn p en s m args below meth c X hr hlk
  replace X : CX p (rmD 5) s m args c cX9_whyAt 6 RX9 D tc 5 := X
  show V p l en (rmD 5) s m args below meth c 6 D tc B nn (Ar B nn) s.heap 0 0 (MQ below (QC D tc B nn (Ar B nn) (some (.int res.1)) res.2) args s 0 0 (Ar B nn)) h 0 [(0, .ref a0), (1, .int a1)] []
  refine V_aload_n (q := 1) X (TB.get tb_X9_whyAt 0 rfl) rfl rfl rfl ?_
  refine V_iload_n (q := 2) X (TB.get tb_X9_whyAt 1 rfl) rfl rfl rfl ?_
  obtain ⟨h1, eh1, e⟩ := bs e
  refine V_callV (q := 5) (As := [.int a1]) (rest := []) (st' := []) X (TB.get tb_X9_whyAt 2 rfl) rfl cv_RX9_349 (ok_X9_takes fu a0 a1 h h1 eh1).1 (ok_X9_takes fu a0 a1 h h1 eh1).2 (Nat.le_of_ble_eq_true rfl) rfl rfl (Nat.le_of_ble_eq_true rfl) rfl ?_
  refine V_iload_n (q := 6) X (TB.get tb_X9_whyAt 3 rfl) rfl rfl rfl ?_
  refine V_aload_n (q := 7) X (TB.get tb_X9_whyAt 4 rfl) rfl rfl rfl ?_
  obtain ⟨x2, ex2, e⟩ := bs e
  refine V_callV (q := 10) (As := []) (rest := [.int a1]) (st' := [.int x2, .int a1]) X (TB.get tb_X9_whyAt 5 rfl) rfl cv_RX9_298 (ok_X9_statements a0 h1 x2 ex2).1 (ok_X9_statements a0 h1 x2 ex2).2 (Nat.le_of_ble_eq_true rfl) rfl rfl (Nat.le_of_ble_eq_true rfl) rfl ?_
  refine V_icmp_ne (q := 13) (t := 64) X (TB.get tb_X9_whyAt 6 rfl) rfl rfl (fun hc => ?_) (fun hc => ?_)
  · have e := (if_neg hc).symm.trans e
    refine V_aload_n (q := 65) X (TB.get tb_X9_whyAt 39 rfl) rfl rfl rfl ?_
    obtain ⟨x3, ex3, e⟩ := bs e
    refine V_getR (q := 68) X (TB.get tb_X9_whyAt 40 rfl) rfl lf_RX9_13 ex3 ?_
    refine V_sipush (v := 373) (q := 71) X (TB.get tb_X9_whyAt 41 rfl) c_sipush_373 rfl ?_
    refine V_iload_n (q := 72) X (TB.get tb_X9_whyAt 42 rfl) rfl rfl rfl ?_
    refine V_iadd (q := 73) X (TB.get tb_X9_whyAt 43 rfl) rfl ?_
    obtain ⟨x4, ex4, e⟩ := bs e
    refine V_iaload (q := 74) X (TB.get tb_X9_whyAt 44 rfl) rfl ex4 ?_
    refine V_istore_n (q := 75) (lv' := [(2, .int x4), (0, .ref a0), (1, .int a1)]) X (TB.get tb_X9_whyAt 45 rfl) rfl rfl (Nat.le_of_ble_eq_true rfl) rfl ?_
    refine V_aload_n (q := 76) X (TB.get tb_X9_whyAt 46 rfl) rfl rfl rfl ?_
    refine V_getR (q := 79) X (TB.get tb_X9_whyAt 47 rfl) rfl lf_RX9_13 ex3 ?_
    refine V_sipush (v := 413) (q := 82) X (TB.get tb_X9_whyAt 48 rfl) c_sipush_413 rfl ?_
    refine V_iload_n (q := 83) X (TB.get tb_X9_whyAt 49 rfl) rfl rfl rfl ?_
    refine V_iadd (q := 84) X (TB.get tb_X9_whyAt 50 rfl) rfl ?_
    obtain ⟨x5, ex5, e⟩ := bs e
    refine V_iaload (q := 85) X (TB.get tb_X9_whyAt 51 rfl) rfl ex5 ?_
    refine V_istore_n (q := 86) (lv' := [(3, .int x5), (2, .int x4), (0, .ref a0), (1, .int a1)]) X (TB.get tb_X9_whyAt 52 rfl) rfl rfl (Nat.le_of_ble_eq_true rfl) rfl ?_
    refine V_aload_n (q := 87) X (TB.get tb_X9_whyAt 53 rfl) rfl rfl rfl ?_
    refine V_iload_n (q := 88) X (TB.get tb_X9_whyAt 54 rfl) rfl rfl rfl ?_
    obtain ⟨x6, ex6, e⟩ := bs e
    refine V_callV (q := 91) (As := [.int a1]) (rest := []) (st' := [.int x6]) X (TB.get tb_X9_whyAt 55 rfl) rfl cv_RX9_304 (ok_X9_sortAt a0 a1 h1 x6 ex6).1 (ok_X9_sortAt a0 a1 h1 x6 ex6).2 (Nat.le_of_ble_eq_true rfl) rfl rfl (Nat.le_of_ble_eq_true rfl) rfl ?_
    refine V_istore (q := 93) (lv' := [(4, .int x6), (3, .int x5), (2, .int x4), (0, .ref a0), (1, .int a1)]) X (TB.get tb_X9_whyAt 56 rfl) rfl (Nat.le_of_ble_eq_true rfl) rfl ?_
    refine V_iload (q := 95) X (TB.get tb_X9_whyAt 57 rfl) rfl rfl ?_
    refine V_bipush (v := 9) (q := 97) X (TB.get tb_X9_whyAt 58 rfl) c_bipush_9 rfl ?_
    refine V_icmp_lt (q := 100) (t := 102) X (TB.get tb_X9_whyAt 59 rfl) rfl rfl (fun hc => ?_) (fun hc => ?_)
    · have e := (if_pos hc).symm.trans e
      refine V_iload (q := 104) X (TB.get tb_X9_whyAt 62 rfl) rfl rfl ?_
      refine V_if_ne (q := 107) (t := 125) X (TB.get tb_X9_whyAt 63 rfl) rfl rfl (fun hc => ?_) (fun hc => ?_)
      · have e := (if_neg hc).symm.trans e
        refine V_iload (q := 127) X (TB.get tb_X9_whyAt 75 rfl) rfl rfl ?_
        refine V_iconst (v := 4) (q := 128) X (TB.get tb_X9_whyAt 76 rfl) c_iconst_4 rfl ?_
        refine V_icmp_ge (q := 131) (t := 185) X (TB.get tb_X9_whyAt 77 rfl) rfl rfl (fun hc => ?_) (fun hc => ?_)
        · have e := (if_pos hc).symm.trans e
          refine V_iload (q := 187) X (TB.get tb_X9_whyAt 108 rfl) rfl rfl ?_
          refine V_iconst (v := 4) (q := 188) X (TB.get tb_X9_whyAt 109 rfl) c_iconst_4 rfl ?_
          refine V_icmp_ne (q := 191) (t := 240) X (TB.get tb_X9_whyAt 110 rfl) rfl rfl (fun hc => ?_) (fun hc => ?_)
          · have e := (if_neg hc).symm.trans e
            refine V_aload_n (q := 241) X (TB.get tb_X9_whyAt 138 rfl) rfl rfl rfl ?_
            obtain ⟨x7, ex7, e⟩ := bs e
            refine V_getR (q := 244) X (TB.get tb_X9_whyAt 139 rfl) rfl lf_RX9_61 ex7 ?_
            refine V_iload_n (q := 245) X (TB.get tb_X9_whyAt 140 rfl) rfl rfl rfl ?_
            obtain ⟨x8, ex8, e⟩ := bs e
            refine V_iaload (q := 246) X (TB.get tb_X9_whyAt 141 rfl) rfl ex8 ?_
            refine V_iconst (v := 0) (q := 247) X (TB.get tb_X9_whyAt 142 rfl) c_iconst_0 rfl ?_
            obtain ⟨x9, ex9, e⟩ := bs e
            refine V_callS (q := 250) (As := [.int x8, .int (0 : Int32)]) (rest := []) (st' := [.int x9]) X (TB.get tb_X9_whyAt 143 rfl) rfl cs_RX9_258 (ok_X9_has x8 (0 : Int32) h1 x9 ex9) (Nat.le_of_ble_eq_true rfl) rfl rfl (Nat.le_of_ble_eq_true rfl) rfl ?_
            refine V_if_eq (q := 253) (t := 255) X (TB.get tb_X9_whyAt 144 rfl) rfl rfl (fun hc => ?_) (fun hc => ?_)
            · have e := (if_pos hc).symm.trans e
              refine V_iload (q := 257) X (TB.get tb_X9_whyAt 147 rfl) rfl rfl ?_
              refine V_iconst (v := 5) (q := 258) X (TB.get tb_X9_whyAt 148 rfl) c_iconst_5 rfl ?_
              refine V_icmp_ne (q := 261) (t := 293) X (TB.get tb_X9_whyAt 149 rfl) rfl rfl (fun hc => ?_) (fun hc => ?_)
              · have e := (if_neg hc).symm.trans e
                refine V_aload_n (q := 294) X (TB.get tb_X9_whyAt 170 rfl) rfl rfl rfl ?_
                refine V_getR (q := 297) X (TB.get tb_X9_whyAt 171 rfl) rfl lf_RX9_13 ex3 ?_
                refine V_sipush (v := 327) (q := 300) X (TB.get tb_X9_whyAt 172 rfl) c_sipush_327 rfl ?_
                refine V_iload_n (q := 301) X (TB.get tb_X9_whyAt 173 rfl) rfl rfl rfl ?_
                refine V_iadd (q := 302) X (TB.get tb_X9_whyAt 174 rfl) rfl ?_
                obtain ⟨x10, ex10, e⟩ := bs e
                refine V_iaload (q := 303) X (TB.get tb_X9_whyAt 175 rfl) rfl ex10 ?_
                refine V_istore (q := 305) (lv' := [(5, .int x10), (4, .int x6), (3, .int x5), (2, .int x4), (0, .ref a0), (1, .int a1)]) X (TB.get tb_X9_whyAt 176 rfl) rfl (Nat.le_of_ble_eq_true rfl) rfl ?_
                refine V_aload_n (q := 306) X (TB.get tb_X9_whyAt 177 rfl) rfl rfl rfl ?_
                refine V_getR (q := 309) X (TB.get tb_X9_whyAt 178 rfl) rfl lf_RX9_13 ex3 ?_
                refine V_bipush (v := 15) (q := 311) X (TB.get tb_X9_whyAt 179 rfl) c_bipush_15 rfl ?_
                refine V_iload (q := 313) X (TB.get tb_X9_whyAt 180 rfl) rfl rfl ?_
                refine V_aload_n (q := 314) X (TB.get tb_X9_whyAt 181 rfl) rfl rfl rfl ?_
                refine V_getR (q := 317) X (TB.get tb_X9_whyAt 182 rfl) rfl lf_RX9_13 ex3 ?_
                refine V_sipush (v := 453) (q := 320) X (TB.get tb_X9_whyAt 183 rfl) c_sipush_453 rfl ?_
                refine V_iload_n (q := 321) X (TB.get tb_X9_whyAt 184 rfl) rfl rfl rfl ?_
                refine V_iadd (q := 322) X (TB.get tb_X9_whyAt 185 rfl) rfl ?_
                obtain ⟨x11, ex11, e⟩ := bs e
                refine V_iaload (q := 323) X (TB.get tb_X9_whyAt 186 rfl) rfl ex11 ?_
                obtain ⟨x12, ex12, e⟩ := bs e
                refine V_callS (q := 326) (As := [.int x10, .int x11]) (rest := [.int (15 : Int32), .ref x3]) (st' := [.int x12, .int (15 : Int32), .ref x3]) X (TB.get tb_X9_whyAt 187 rfl) rfl cs_RX9_188 (ok_X9_methodAt x10 x11 h1 x12 ex12) (Nat.le_of_ble_eq_true rfl) rfl rfl (Nat.le_of_ble_eq_true rfl) rfl ?_
                refine V_iadd (q := 327) X (TB.get tb_X9_whyAt 188 rfl) rfl ?_
                obtain ⟨x13, ex13, e⟩ := bs e
                refine V_iaload (q := 328) X (TB.get tb_X9_whyAt 189 rfl) rfl ex13 ?_
                refine V_iconst (v := 2) (q := 329) X (TB.get tb_X9_whyAt 190 rfl) c_iconst_2 rfl ?_
                refine jn_elim (P := (fun (k : Option (Int32 × Hp)) => k = some res → V p l en (rmD 5) s m args below meth c 6 D tc B nn (Ar B nn) s.heap 0 0 (MQ below (QC D tc B nn (Ar B nn) (some (.int res.1)) res.2) args s 0 0 (Ar B nn)) h1 347 [(0, .ref a0), (1, .int a1), (2, .int x4), (5, .int x10)] [])) e ?_ (fun j14 Jj14 e => ?_)
                · intro e
                  refine V_aload_n (q := 348) X (TB.get tb_X9_whyAt 201 rfl) rfl rfl rfl ?_
                  obtain ⟨x15, ex15, e⟩ := bs e
                  refine V_getR (q := 351) X (TB.get tb_X9_whyAt 202 rfl) rfl lf_RX9_64 ex15 ?_
                  refine V_iload_n (q := 352) X (TB.get tb_X9_whyAt 203 rfl) rfl rfl rfl ?_
                  obtain ⟨x16, ex16, e⟩ := bs e
                  refine V_iaload (q := 353) X (TB.get tb_X9_whyAt 204 rfl) rfl ex16 ?_
                  refine V_aload_n (q := 354) X (TB.get tb_X9_whyAt 205 rfl) rfl rfl rfl ?_
                  refine V_iload (q := 356) X (TB.get tb_X9_whyAt 206 rfl) rfl rfl ?_
                  refine V_aload_n (q := 357) X (TB.get tb_X9_whyAt 207 rfl) rfl rfl rfl ?_
                  refine V_getR (q := 360) X (TB.get tb_X9_whyAt 208 rfl) rfl lf_RX9_13 ex3 ?_
                  refine V_sipush (v := 453) (q := 363) X (TB.get tb_X9_whyAt 209 rfl) c_sipush_453 rfl ?_
                  refine V_iload_n (q := 364) X (TB.get tb_X9_whyAt 210 rfl) rfl rfl rfl ?_
                  refine V_iadd (q := 365) X (TB.get tb_X9_whyAt 211 rfl) rfl ?_
                  refine V_iaload (q := 366) X (TB.get tb_X9_whyAt 212 rfl) rfl ex11 ?_
                  obtain ⟨x17, ex17, e⟩ := bs e
                  refine V_callV (q := 369) (As := [.int x10, .int x11]) (rest := [.int x16]) (st' := [.int x17, .int x16]) X (TB.get tb_X9_whyAt 213 rfl) rfl cv_RX9_273 (ok_X9_canSet fu a0 x10 x11 h1 x17 ex17).1 (ok_X9_canSet fu a0 x10 x11 h1 x17 ex17).2 (Nat.le_of_ble_eq_true rfl) rfl rfl (Nat.le_of_ble_eq_true rfl) rfl ?_
                  refine V_iconst (v := -1) (q := 370) X (TB.get tb_X9_whyAt 214 rfl) c_iconst_m1 rfl ?_
                  refine V_ixor (q := 371) X (TB.get tb_X9_whyAt 215 rfl) rfl ?_
                  refine V_iand (q := 372) X (TB.get tb_X9_whyAt 216 rfl) rfl ?_
                  refine V_if_eq (q := 375) (t := 379) X (TB.get tb_X9_whyAt 217 rfl) rfl rfl (fun hc => ?_) (fun hc => ?_)
                  · have e := (if_pos hc).symm.trans e
                    refine V_iconst (v := 0) (q := 380) X (TB.get tb_X9_whyAt 220 rfl) c_iconst_0 rfl ?_
                    cases e
                    exact V_iret X hr hlk (TB.get tb_X9_whyAt 221 rfl)
                  · have e := (if_neg hc).symm.trans e
                    refine V_iconst (v := 4) (q := 376) X (TB.get tb_X9_whyAt 218 rfl) c_iconst_4 rfl ?_
                    refine V_goto (q := 380) X (TB.get tb_X9_whyAt 219 rfl) rfl ?_
                    cases e
                    exact V_iret X hr hlk (TB.get tb_X9_whyAt 221 rfl)
                refine V_icmp_eq (q := 332) (t := 347) X (TB.get tb_X9_whyAt 191 rfl) rfl rfl (fun hc => ?_) (fun hc => ?_)
                · have e := (if_pos hc).symm.trans e
                  refine V_sub (lv' := [(0, .ref a0), (1, .int a1), (2, .int x4), (5, .int x10)]) [4, 5, 3, 0] rfl ?_
                  exact Jj14 e
                · have e := (if_neg hc).symm.trans e
                  refine V_aload_n (q := 333) X (TB.get tb_X9_whyAt 192 rfl) rfl rfl rfl ?_
                  refine V_getR (q := 336) X (TB.get tb_X9_whyAt 193 rfl) rfl lf_RX9_61 ex7 ?_
                  refine V_iload_n (q := 337) X (TB.get tb_X9_whyAt 194 rfl) rfl rfl rfl ?_
                  refine V_iaload (q := 338) X (TB.get tb_X9_whyAt 195 rfl) rfl ex8 ?_
                  refine V_iconst (v := 1) (q := 339) X (TB.get tb_X9_whyAt 196 rfl) c_iconst_1 rfl ?_
                  obtain ⟨x18, ex18, e⟩ := bs e
                  refine V_callS (q := 342) (As := [.int x8, .int (1 : Int32)]) (rest := []) (st' := [.int x18]) X (TB.get tb_X9_whyAt 197 rfl) rfl cs_RX9_258 (ok_X9_has x8 (1 : Int32) h1 x18 ex18) (Nat.le_of_ble_eq_true rfl) rfl rfl (Nat.le_of_ble_eq_true rfl) rfl ?_
                  refine V_if_eq (q := 345) (t := 347) X (TB.get tb_X9_whyAt 198 rfl) rfl rfl (fun hc => ?_) (fun hc => ?_)
                  · have e := (if_pos hc).symm.trans e
                    refine V_sub (lv' := [(0, .ref a0), (1, .int a1), (2, .int x4), (5, .int x10)]) [4, 5, 3, 0] rfl ?_
                    exact Jj14 e
                  · have e := (if_neg hc).symm.trans e
                    refine V_iconst (v := 3) (q := 346) X (TB.get tb_X9_whyAt 199 rfl) c_iconst_3 rfl ?_
                    cases e
                    exact V_iret X hr hlk (TB.get tb_X9_whyAt 200 rfl)
              · have e := (if_pos hc).symm.trans e
                refine V_aload_n (q := 262) X (TB.get tb_X9_whyAt 150 rfl) rfl rfl rfl ?_
                obtain ⟨x19, ex19, e⟩ := bs e
                refine V_getR (q := 265) X (TB.get tb_X9_whyAt 151 rfl) rfl lf_RX9_70 ex19 ?_
                refine V_iload_n (q := 266) X (TB.get tb_X9_whyAt 152 rfl) rfl rfl rfl ?_
                obtain ⟨x20, ex20, e⟩ := bs e
                refine V_iaload (q := 267) X (TB.get tb_X9_whyAt 153 rfl) rfl ex20 ?_
                refine jn_elim (P := (fun (k : Option (Int32 × Hp)) => k = some res → V p l en (rmD 5) s m args below meth c 6 D tc B nn (Ar B nn) s.heap 0 0 (MQ below (QC D tc B nn (Ar B nn) (some (.int res.1)) res.2) args s 0 0 (Ar B nn)) h1 291 [] [])) e ?_ (fun j21 Jj21 e => ?_)
                · intro e
                  refine V_iconst (v := 0) (q := 292) X (TB.get tb_X9_whyAt 168 rfl) c_iconst_0 rfl ?_
                  cases e
                  exact V_iret X hr hlk (TB.get tb_X9_whyAt 169 rfl)
                refine V_if_ne (q := 270) (t := 291) X (TB.get tb_X9_whyAt 154 rfl) rfl rfl (fun hc => ?_) (fun hc => ?_)
                · have e := (if_neg hc).symm.trans e
                  refine V_sub (lv' := []) [] rfl ?_
                  exact Jj21 e
                · have e := (if_pos hc).symm.trans e
                  refine V_aload_n (q := 271) X (TB.get tb_X9_whyAt 155 rfl) rfl rfl rfl ?_
                  obtain ⟨x22, ex22, e⟩ := bs e
                  refine V_getR (q := 274) X (TB.get tb_X9_whyAt 156 rfl) rfl lf_RX9_64 ex22 ?_
                  refine V_iload_n (q := 275) X (TB.get tb_X9_whyAt 157 rfl) rfl rfl rfl ?_
                  obtain ⟨x23, ex23, e⟩ := bs e
                  refine V_iaload (q := 276) X (TB.get tb_X9_whyAt 158 rfl) rfl ex23 ?_
                  refine V_aload_n (q := 277) X (TB.get tb_X9_whyAt 159 rfl) rfl rfl rfl ?_
                  refine V_iload_n (q := 278) X (TB.get tb_X9_whyAt 160 rfl) rfl rfl rfl ?_
                  obtain ⟨x24, ex24, e⟩ := bs e
                  refine V_callV (q := 281) (As := [.int x4]) (rest := [.int x23]) (st' := [.int x24, .int x23]) X (TB.get tb_X9_whyAt 161 rfl) rfl cv_RX9_379 (ok_X9_endsOf a0 x4 h1 x24 ex24).1 (ok_X9_endsOf a0 x4 h1 x24 ex24).2 (Nat.le_of_ble_eq_true rfl) rfl rfl (Nat.le_of_ble_eq_true rfl) rfl ?_
                  refine V_iconst (v := -1) (q := 282) X (TB.get tb_X9_whyAt 162 rfl) c_iconst_m1 rfl ?_
                  refine V_ixor (q := 283) X (TB.get tb_X9_whyAt 163 rfl) rfl ?_
                  refine V_iand (q := 284) X (TB.get tb_X9_whyAt 164 rfl) rfl ?_
                  refine V_if_eq (q := 287) (t := 291) X (TB.get tb_X9_whyAt 165 rfl) rfl rfl (fun hc => ?_) (fun hc => ?_)
                  · have e := (if_pos hc).symm.trans e
                    refine V_sub (lv' := []) [] rfl ?_
                    exact Jj21 e
                  · have e := (if_neg hc).symm.trans e
                    refine V_iconst (v := 5) (q := 288) X (TB.get tb_X9_whyAt 166 rfl) c_iconst_5 rfl ?_
                    refine V_goto (q := 292) X (TB.get tb_X9_whyAt 167 rfl) rfl ?_
                    cases e
                    exact V_iret X hr hlk (TB.get tb_X9_whyAt 169 rfl)
            · have e := (if_neg hc).symm.trans e
              refine V_iconst (v := 1) (q := 254) X (TB.get tb_X9_whyAt 145 rfl) c_iconst_1 rfl ?_
              cases e
              exact V_iret X hr hlk (TB.get tb_X9_whyAt 146 rfl)
          · have e := (if_pos hc).symm.trans e
            refine V_aload_n (q := 192) X (TB.get tb_X9_whyAt 111 rfl) rfl rfl rfl ?_
            obtain ⟨x25, ex25, e⟩ := bs e
            refine V_getR (q := 195) X (TB.get tb_X9_whyAt 112 rfl) rfl lf_RX9_61 ex25 ?_
            refine V_iload_n (q := 196) X (TB.get tb_X9_whyAt 113 rfl) rfl rfl rfl ?_
            obtain ⟨x26, ex26, e⟩ := bs e
            refine V_iaload (q := 197) X (TB.get tb_X9_whyAt 114 rfl) rfl ex26 ?_
            refine V_iconst (v := 0) (q := 198) X (TB.get tb_X9_whyAt 115 rfl) c_iconst_0 rfl ?_
            obtain ⟨x27, ex27, e⟩ := bs e
            refine V_callS (q := 201) (As := [.int x26, .int (0 : Int32)]) (rest := []) (st' := [.int x27]) X (TB.get tb_X9_whyAt 116 rfl) rfl cs_RX9_258 (ok_X9_has x26 (0 : Int32) h1 x27 ex27) (Nat.le_of_ble_eq_true rfl) rfl rfl (Nat.le_of_ble_eq_true rfl) rfl ?_
            refine jn_elim (P := (fun (k : Option (Int32 × Hp)) => k = some res → V p l en (rmD 5) s m args below meth c 6 D tc B nn (Ar B nn) s.heap 0 0 (MQ below (QC D tc B nn (Ar B nn) (some (.int res.1)) res.2) args s 0 0 (Ar B nn)) h1 217 [] [])) e ?_ (fun j28 Jj28 e => ?_)
            · intro e
              refine V_iconst (v := 1) (q := 218) X (TB.get tb_X9_whyAt 125 rfl) c_iconst_1 rfl ?_
              refine V_goto (q := 239) X (TB.get tb_X9_whyAt 126 rfl) rfl ?_
              cases e
              exact V_iret X hr hlk (TB.get tb_X9_whyAt 137 rfl)
            refine V_if_ne (q := 204) (t := 217) X (TB.get tb_X9_whyAt 117 rfl) rfl rfl (fun hc => ?_) (fun hc => ?_)
            · have e := (if_neg hc).symm.trans e
              refine V_sub (lv' := []) [] rfl ?_
              exact Jj28 e
            · have e := (if_pos hc).symm.trans e
              refine V_aload_n (q := 205) X (TB.get tb_X9_whyAt 118 rfl) rfl rfl rfl ?_
              refine V_getR (q := 208) X (TB.get tb_X9_whyAt 119 rfl) rfl lf_RX9_61 ex25 ?_
              refine V_iload_n (q := 209) X (TB.get tb_X9_whyAt 120 rfl) rfl rfl rfl ?_
              obtain ⟨x29, ex29, e⟩ := bs e
              refine V_iaload (q := 210) X (TB.get tb_X9_whyAt 121 rfl) rfl ex29 ?_
              refine V_iconst (v := 0) (q := 211) X (TB.get tb_X9_whyAt 122 rfl) c_iconst_0 rfl ?_
              obtain ⟨x30, ex30, e⟩ := bs e
              refine V_callS (q := 214) (As := [.int x29, .int (0 : Int32)]) (rest := []) (st' := [.int x30]) X (TB.get tb_X9_whyAt 123 rfl) rfl cs_RX9_258 (ok_X9_has x29 (0 : Int32) h1 x30 ex30) (Nat.le_of_ble_eq_true rfl) rfl rfl (Nat.le_of_ble_eq_true rfl) rfl ?_
              refine V_if_eq (q := 217) (t := 221) X (TB.get tb_X9_whyAt 124 rfl) rfl rfl (fun hc => ?_) (fun hc => ?_)
              · have e := (if_pos hc).symm.trans e
                refine V_aload_n (q := 222) X (TB.get tb_X9_whyAt 127 rfl) rfl rfl rfl ?_
                obtain ⟨x31, ex31, e⟩ := bs e
                refine V_getR (q := 225) X (TB.get tb_X9_whyAt 128 rfl) rfl lf_RX9_70 ex31 ?_
                refine V_iload_n (q := 226) X (TB.get tb_X9_whyAt 129 rfl) rfl rfl rfl ?_
                obtain ⟨x32, ex32, e⟩ := bs e
                refine V_iaload (q := 227) X (TB.get tb_X9_whyAt 130 rfl) rfl ex32 ?_
                refine V_iload_n (q := 228) X (TB.get tb_X9_whyAt 131 rfl) rfl rfl rfl ?_
                obtain ⟨x33, ex33, e⟩ := bs e
                refine V_callS (q := 231) (As := [.int x32, .int x5]) (rest := []) (st' := [.int x33]) X (TB.get tb_X9_whyAt 132 rfl) rfl cs_RX9_258 (ok_X9_has x32 x5 h1 x33 ex33) (Nat.le_of_ble_eq_true rfl) rfl rfl (Nat.le_of_ble_eq_true rfl) rfl ?_
                refine V_if_eq (q := 234) (t := 238) X (TB.get tb_X9_whyAt 133 rfl) rfl rfl (fun hc => ?_) (fun hc => ?_)
                · have e := (if_pos hc).symm.trans e
                  refine V_iconst (v := 2) (q := 239) X (TB.get tb_X9_whyAt 136 rfl) c_iconst_2 rfl ?_
                  cases e
                  exact V_iret X hr hlk (TB.get tb_X9_whyAt 137 rfl)
                · have e := (if_neg hc).symm.trans e
                  refine V_iconst (v := 0) (q := 235) X (TB.get tb_X9_whyAt 134 rfl) c_iconst_0 rfl ?_
                  refine V_goto (q := 239) X (TB.get tb_X9_whyAt 135 rfl) rfl ?_
                  cases e
                  exact V_iret X hr hlk (TB.get tb_X9_whyAt 137 rfl)
              · have e := (if_neg hc).symm.trans e
                refine V_sub (lv' := []) [] rfl ?_
                exact Jj28 e
        · have e := (if_neg hc).symm.trans e
          refine V_aload_n (q := 132) X (TB.get tb_X9_whyAt 78 rfl) rfl rfl rfl ?_
          obtain ⟨x34, ex34, e⟩ := bs e
          refine V_getR (q := 135) X (TB.get tb_X9_whyAt 79 rfl) rfl lf_RX9_61 ex34 ?_
          refine V_iload_n (q := 136) X (TB.get tb_X9_whyAt 80 rfl) rfl rfl rfl ?_
          obtain ⟨x35, ex35, e⟩ := bs e
          refine V_iaload (q := 137) X (TB.get tb_X9_whyAt 81 rfl) rfl ex35 ?_
          refine V_bipush (v := 14) (q := 139) X (TB.get tb_X9_whyAt 82 rfl) c_bipush_14 rfl ?_
          refine V_iand (q := 140) X (TB.get tb_X9_whyAt 83 rfl) rfl ?_
          refine jn_elim (P := (fun (k : Option (Int32 × Hp)) => k = some res → V p l en (rmD 5) s m args below meth c 6 D tc B nn (Ar B nn) s.heap 0 0 (MQ below (QC D tc B nn (Ar B nn) (some (.int res.1)) res.2) args s 0 0 (Ar B nn)) h1 156 [] [])) e ?_ (fun j36 Jj36 e => ?_)
          · intro e
            refine V_iconst (v := 1) (q := 157) X (TB.get tb_X9_whyAt 92 rfl) c_iconst_1 rfl ?_
            refine V_goto (q := 184) X (TB.get tb_X9_whyAt 93 rfl) rfl ?_
            cases e
            exact V_iret X hr hlk (TB.get tb_X9_whyAt 107 rfl)
          refine V_if_ne (q := 143) (t := 156) X (TB.get tb_X9_whyAt 84 rfl) rfl rfl (fun hc => ?_) (fun hc => ?_)
          · have e := (if_neg hc).symm.trans e
            refine V_sub (lv' := []) [] rfl ?_
            exact Jj36 e
          · have e := (if_pos hc).symm.trans e
            refine V_aload_n (q := 144) X (TB.get tb_X9_whyAt 85 rfl) rfl rfl rfl ?_
            refine V_getR (q := 147) X (TB.get tb_X9_whyAt 86 rfl) rfl lf_RX9_61 ex34 ?_
            refine V_iload_n (q := 148) X (TB.get tb_X9_whyAt 87 rfl) rfl rfl rfl ?_
            obtain ⟨x37, ex37, e⟩ := bs e
            refine V_iaload (q := 149) X (TB.get tb_X9_whyAt 88 rfl) rfl ex37 ?_
            refine V_iconst (v := 0) (q := 150) X (TB.get tb_X9_whyAt 89 rfl) c_iconst_0 rfl ?_
            obtain ⟨x38, ex38, e⟩ := bs e
            refine V_callS (q := 153) (As := [.int x37, .int (0 : Int32)]) (rest := []) (st' := [.int x38]) X (TB.get tb_X9_whyAt 90 rfl) rfl cs_RX9_258 (ok_X9_has x37 (0 : Int32) h1 x38 ex38) (Nat.le_of_ble_eq_true rfl) rfl rfl (Nat.le_of_ble_eq_true rfl) rfl ?_
            refine V_if_eq (q := 156) (t := 160) X (TB.get tb_X9_whyAt 91 rfl) rfl rfl (fun hc => ?_) (fun hc => ?_)
            · have e := (if_pos hc).symm.trans e
              refine V_iload (q := 162) X (TB.get tb_X9_whyAt 94 rfl) rfl rfl ?_
              refine V_iconst (v := 2) (q := 163) X (TB.get tb_X9_whyAt 95 rfl) c_iconst_2 rfl ?_
              refine jn_elim (P := (fun (k : Option (Int32 × Hp)) => k = some res → V p l en (rmD 5) s m args below meth c 6 D tc B nn (Ar B nn) s.heap 0 0 (MQ below (QC D tc B nn (Ar B nn) (some (.int res.1)) res.2) args s 0 0 (Ar B nn)) h1 183 [] [])) e ?_ (fun j39 Jj39 e => ?_)
              · intro e
                refine V_iconst (v := 0) (q := 184) X (TB.get tb_X9_whyAt 106 rfl) c_iconst_0 rfl ?_
                cases e
                exact V_iret X hr hlk (TB.get tb_X9_whyAt 107 rfl)
              refine V_icmp_ne (q := 166) (t := 183) X (TB.get tb_X9_whyAt 96 rfl) rfl rfl (fun hc => ?_) (fun hc => ?_)
              · have e := (if_neg hc).symm.trans e
                refine V_sub (lv' := []) [] rfl ?_
                exact Jj39 e
              · have e := (if_pos hc).symm.trans e
                refine V_aload_n (q := 167) X (TB.get tb_X9_whyAt 97 rfl) rfl rfl rfl ?_
                refine V_getR (q := 170) X (TB.get tb_X9_whyAt 98 rfl) rfl lf_RX9_61 ex34 ?_
                refine V_iload_n (q := 171) X (TB.get tb_X9_whyAt 99 rfl) rfl rfl rfl ?_
                refine V_iaload (q := 172) X (TB.get tb_X9_whyAt 100 rfl) rfl ex37 ?_
                refine V_iconst (v := 1) (q := 173) X (TB.get tb_X9_whyAt 101 rfl) c_iconst_1 rfl ?_
                obtain ⟨x40, ex40, e⟩ := bs e
                refine V_callS (q := 176) (As := [.int x37, .int (1 : Int32)]) (rest := []) (st' := [.int x40]) X (TB.get tb_X9_whyAt 102 rfl) rfl cs_RX9_258 (ok_X9_has x37 (1 : Int32) h1 x40 ex40) (Nat.le_of_ble_eq_true rfl) rfl rfl (Nat.le_of_ble_eq_true rfl) rfl ?_
                refine V_if_eq (q := 179) (t := 183) X (TB.get tb_X9_whyAt 103 rfl) rfl rfl (fun hc => ?_) (fun hc => ?_)
                · have e := (if_pos hc).symm.trans e
                  refine V_sub (lv' := []) [] rfl ?_
                  exact Jj39 e
                · have e := (if_neg hc).symm.trans e
                  refine V_iconst (v := 3) (q := 180) X (TB.get tb_X9_whyAt 104 rfl) c_iconst_3 rfl ?_
                  refine V_goto (q := 184) X (TB.get tb_X9_whyAt 105 rfl) rfl ?_
                  cases e
                  exact V_iret X hr hlk (TB.get tb_X9_whyAt 107 rfl)
            · have e := (if_neg hc).symm.trans e
              refine V_sub (lv' := []) [] rfl ?_
              exact Jj36 e
      · have e := (if_pos hc).symm.trans e
        refine V_aload_n (q := 108) X (TB.get tb_X9_whyAt 64 rfl) rfl rfl rfl ?_
        obtain ⟨x41, ex41, e⟩ := bs e
        refine V_getR (q := 111) X (TB.get tb_X9_whyAt 65 rfl) rfl lf_RX9_61 ex41 ?_
        refine V_iload_n (q := 112) X (TB.get tb_X9_whyAt 66 rfl) rfl rfl rfl ?_
        obtain ⟨x42, ex42, e⟩ := bs e
        refine V_iaload (q := 113) X (TB.get tb_X9_whyAt 67 rfl) rfl ex42 ?_
        refine V_bipush (v := 14) (q := 115) X (TB.get tb_X9_whyAt 68 rfl) c_bipush_14 rfl ?_
        refine V_iand (q := 116) X (TB.get tb_X9_whyAt 69 rfl) rfl ?_
        refine V_if_eq (q := 119) (t := 123) X (TB.get tb_X9_whyAt 70 rfl) rfl rfl (fun hc => ?_) (fun hc => ?_)
        · have e := (if_pos hc).symm.trans e
          refine V_iconst (v := 0) (q := 124) X (TB.get tb_X9_whyAt 73 rfl) c_iconst_0 rfl ?_
          cases e
          exact V_iret X hr hlk (TB.get tb_X9_whyAt 74 rfl)
        · have e := (if_neg hc).symm.trans e
          refine V_iconst (v := 1) (q := 120) X (TB.get tb_X9_whyAt 71 rfl) c_iconst_1 rfl ?_
          refine V_goto (q := 124) X (TB.get tb_X9_whyAt 72 rfl) rfl ?_
          cases e
          exact V_iret X hr hlk (TB.get tb_X9_whyAt 74 rfl)
    · have e := (if_neg hc).symm.trans e
      refine V_iconst (v := 0) (q := 101) X (TB.get tb_X9_whyAt 60 rfl) c_iconst_0 rfl ?_
      cases e
      exact V_iret X hr hlk (TB.get tb_X9_whyAt 61 rfl)
  · have e := (if_pos hc).symm.trans e
    refine V_iconst (v := 0) (q := 14) X (TB.get tb_X9_whyAt 7 rfl) c_iconst_0 rfl ?_
    refine V_istore_n (q := 15) (lv' := [(2, .int (0 : Int32)), (0, .ref a0), (1, .int a1)]) X (TB.get tb_X9_whyAt 8 rfl) rfl rfl (Nat.le_of_ble_eq_true rfl) rfl ?_
    refine V_sub (lv' := [(0, .ref a0), (2, .int (0 : Int32))]) [1, 0] rfl ?_
    refine wh1_elim (P := fun v43 => V p l en (rmD 5) s m args below meth c 6 D tc B nn (Ar B nn) s.heap 0 0 (MQ below (QC D tc B nn (Ar B nn) (some (.int res.1)) res.2) args s 0 0 (Ar B nn)) h1 15 [(0, .ref a0), (2, .int v43)] []) (f := fu) ?_ e
    intro self44 v43 ihself44 e
    unfold MX9_whyAt_B15 at e
    refine V_iload_n (q := 16) X (TB.get tb_X9_whyAt 9 rfl) rfl rfl rfl ?_
    refine V_aload_n (q := 17) X (TB.get tb_X9_whyAt 10 rfl) rfl rfl rfl ?_
    obtain ⟨x45, ex45, e⟩ := bs e
    refine V_getR (q := 20) X (TB.get tb_X9_whyAt 11 rfl) rfl lf_RX9_13 ex45 ?_
    refine V_iconst (v := 1) (q := 21) X (TB.get tb_X9_whyAt 12 rfl) c_iconst_1 rfl ?_
    obtain ⟨x46, ex46, e⟩ := bs e
    refine V_iaload (q := 22) X (TB.get tb_X9_whyAt 13 rfl) rfl ex46 ?_
    refine V_icmp_ge (q := 25) (t := 62) X (TB.get tb_X9_whyAt 14 rfl) rfl rfl (fun hc => ?_) (fun hc => ?_)
    · have e := (if_pos hc).symm.trans e
      refine V_iconst (v := 0) (q := 63) X (TB.get tb_X9_whyAt 37 rfl) c_iconst_0 rfl ?_
      cases e
      exact V_iret X hr hlk (TB.get tb_X9_whyAt 38 rfl)
    · have e := (if_neg hc).symm.trans e
      refine V_aload_n (q := 26) X (TB.get tb_X9_whyAt 15 rfl) rfl rfl rfl ?_
      obtain ⟨x47, ex47, e⟩ := bs e
      refine V_getR (q := 29) X (TB.get tb_X9_whyAt 16 rfl) rfl lf_RX9_61 ex47 ?_
      refine V_iload_n (q := 30) X (TB.get tb_X9_whyAt 17 rfl) rfl rfl rfl ?_
      obtain ⟨x48, ex48, e⟩ := bs e
      refine V_iaload (q := 31) X (TB.get tb_X9_whyAt 18 rfl) rfl ex48 ?_
      refine V_bipush (v := 14) (q := 33) X (TB.get tb_X9_whyAt 19 rfl) c_bipush_14 rfl ?_
      refine V_iand (q := 34) X (TB.get tb_X9_whyAt 20 rfl) rfl ?_
      refine jn_elim (P := (fun (k : Option (Int32 × Hp)) => k = some res → V p l en (rmD 5) s m args below meth c 6 D tc B nn (Ar B nn) s.heap 0 0 (MQ below (QC D tc B nn (Ar B nn) (some (.int res.1)) res.2) args s 0 0 (Ar B nn)) h1 56 [(0, .ref a0), (2, .int v43)] [])) e ?_ (fun j49 Jj49 e => ?_)
      · intro e
        refine V_iinc (q := 59) (v := v43 + (1 : Int32)) (lv' := [(2, .int (v43 + (1 : Int32))), (0, .ref a0)]) X (TB.get tb_X9_whyAt 35 rfl) rfl rfl (by rw [c_iconst_1]) (Nat.le_of_ble_eq_true rfl) rfl ?_
        refine V_goto (q := 15) X (TB.get tb_X9_whyAt 36 rfl) rfl ?_
        refine V_sub (lv' := [(0, .ref a0), (2, .int (v43 + (1 : Int32)))]) [1, 0] rfl ?_
        exact ihself44 _ e
      refine V_if_eq (q := 37) (t := 56) X (TB.get tb_X9_whyAt 21 rfl) rfl rfl (fun hc => ?_) (fun hc => ?_)
      · have e := (if_pos hc).symm.trans e
        exact Jj49 e
      · have e := (if_neg hc).symm.trans e
        refine V_aload_n (q := 38) X (TB.get tb_X9_whyAt 22 rfl) rfl rfl rfl ?_
        obtain ⟨x50, ex50, e⟩ := bs e
        refine V_getR (q := 41) X (TB.get tb_X9_whyAt 23 rfl) rfl lf_RX9_64 ex50 ?_
        refine V_iload_n (q := 42) X (TB.get tb_X9_whyAt 24 rfl) rfl rfl rfl ?_
        obtain ⟨x51, ex51, e⟩ := bs e
        refine V_iaload (q := 43) X (TB.get tb_X9_whyAt 25 rfl) rfl ex51 ?_
        refine V_aload_n (q := 44) X (TB.get tb_X9_whyAt 26 rfl) rfl rfl rfl ?_
        refine V_iload_n (q := 45) X (TB.get tb_X9_whyAt 27 rfl) rfl rfl rfl ?_
        obtain ⟨x52, ex52, e⟩ := bs e
        refine V_callV (q := 48) (As := [.int v43]) (rest := [.int x51]) (st' := [.int x52, .int x51]) X (TB.get tb_X9_whyAt 28 rfl) rfl cv_RX9_379 (ok_X9_endsOf a0 v43 h1 x52 ex52).1 (ok_X9_endsOf a0 v43 h1 x52 ex52).2 (Nat.le_of_ble_eq_true rfl) rfl rfl (Nat.le_of_ble_eq_true rfl) rfl ?_
        refine V_iconst (v := -1) (q := 49) X (TB.get tb_X9_whyAt 29 rfl) c_iconst_m1 rfl ?_
        refine V_ixor (q := 50) X (TB.get tb_X9_whyAt 30 rfl) rfl ?_
        refine V_iand (q := 51) X (TB.get tb_X9_whyAt 31 rfl) rfl ?_
        refine V_if_eq (q := 54) (t := 56) X (TB.get tb_X9_whyAt 32 rfl) rfl rfl (fun hc => ?_) (fun hc => ?_)
        · have e := (if_pos hc).symm.trans e
          exact Jj49 e
        · have e := (if_neg hc).symm.trans e
          refine V_iconst (v := 5) (q := 55) X (TB.get tb_X9_whyAt 33 rfl) c_iconst_5 rfl ?_
          cases e
          exact V_iret X hr hlk (TB.get tb_X9_whyAt 34 rfl)
set_option maxRecDepth 100000 in
set_option maxHeartbeats 4000000 in
theorem ok_X9_checks (fu : Nat) (a0 : Nat) (h : Hp) (res : Hp) (e : MX9_checks fu a0 h = some res) : CK yX9_checks cX9_checks 3 none 13 [.ref a0] h none res ∧ (h.1 a0).1 = 9 := by
  obtain ⟨hcl, e⟩ := h_g_inv e
  refine ⟨CK_of pn_RX9 cm_X9_checks (Nat.le_of_ble_eq_true rfl) ?_, hcl⟩
  intro l D tc B nn p en s m args below meth c X hr hlk
  replace X : CX p (rmD 13) s m args c cX9_checks 3 RX9 D tc 13 := X
  show V p l en (rmD 13) s m args below meth c 3 D tc B nn (Ar B nn) s.heap 0 0 (MQ below (QC D tc B nn (Ar B nn) none res) args s 0 0 (Ar B nn)) h 0 [(0, .ref a0)] []
  refine V_iconst (v := 0) (q := 1) X (TB.get tb_X9_checks 0 rfl) c_iconst_0 rfl ?_
  refine V_istore_n (q := 2) (lv' := [(1, .int (0 : Int32)), (0, .ref a0)]) X (TB.get tb_X9_checks 1 rfl) rfl rfl (Nat.le_of_ble_eq_true rfl) rfl ?_
  refine jn_elim (P := (fun (k : Hp → Option (Hp)) => ∀ (h1 : Hp), k h1 = some res → V p l en (rmD 13) s m args below meth c 3 D tc B nn (Ar B nn) s.heap 0 0 (MQ below (QC D tc B nn (Ar B nn) none res) args s 0 0 (Ar B nn)) h1 21 [(0, .ref a0)] [])) e ?_ (fun j2 Jj2 e => ?_)
  · intro h1 e
    refine V_iconst (v := 0) (q := 22) X (TB.get tb_X9_checks 12 rfl) c_iconst_0 rfl ?_
    refine V_istore_n (q := 23) (lv' := [(1, .int (0 : Int32)), (0, .ref a0)]) X (TB.get tb_X9_checks 13 rfl) rfl rfl (Nat.le_of_ble_eq_true rfl) rfl ?_
    refine jn_elim (P := (fun (k : Hp → Option (Hp)) => ∀ (h3 : Hp), k h3 = some res → V p l en (rmD 13) s m args below meth c 3 D tc B nn (Ar B nn) s.heap 0 0 (MQ below (QC D tc B nn (Ar B nn) none res) args s 0 0 (Ar B nn)) h3 63 [(0, .ref a0)] [])) e ?_ (fun j4 Jj4 e => ?_)
    · intro h3 e
      refine V_aload_n (q := 64) X (TB.get tb_X9_checks 39 rfl) rfl rfl rfl ?_
      refine V_aload_n (q := 65) X (TB.get tb_X9_checks 40 rfl) rfl rfl rfl ?_
      obtain ⟨x5, ex5, e⟩ := bs e
      refine V_callV (q := 68) (As := []) (rest := [.ref a0]) (st' := [.int x5, .ref a0]) X (TB.get tb_X9_checks 41 rfl) rfl cv_RX9_361 (ok_X9_firstPlace fu a0 h3 x5 ex5).1 (ok_X9_firstPlace fu a0 h3 x5 ex5).2 (Nat.le_of_ble_eq_true rfl) rfl rfl (Nat.le_of_ble_eq_true rfl) rfl ?_
      obtain ⟨h6, eh6, e⟩ := bs e
      refine V_callV (q := 71) (As := [.int x5]) (rest := []) (st' := []) X (TB.get tb_X9_checks 42 rfl) rfl cv_RX9_355 (ok_X9_merges fu a0 x5 h3 h6 eh6).1 (ok_X9_merges fu a0 x5 h3 h6 eh6).2 (Nat.le_of_ble_eq_true rfl) rfl rfl (Nat.le_of_ble_eq_true rfl) rfl ?_
      refine V_aload_n (q := 72) X (TB.get tb_X9_checks 43 rfl) rfl rfl rfl ?_
      refine V_iconst (v := 1) (q := 73) X (TB.get tb_X9_checks 44 rfl) c_iconst_1 rfl ?_
      obtain ⟨h7, eh7, e⟩ := bs e
      refine V_putZ (q := 76) X (TB.get tb_X9_checks 45 rfl) rfl lq_RX9_331 eh7 ?_
      refine jn_elim (P := (fun (k : Hp → Option (Hp)) => ∀ (h8 : Hp), k h8 = some res → V p l en (rmD 13) s m args below meth c 3 D tc B nn (Ar B nn) s.heap 0 0 (MQ below (QC D tc B nn (Ar B nn) none res) args s 0 0 (Ar B nn)) h8 121 [(0, .ref a0)] [])) e ?_ (fun j9 Jj9 e => ?_)
      · intro h8 e
        refine V_aload_n (q := 122) X (TB.get tb_X9_checks 69 rfl) rfl rfl rfl ?_
        refine V_iconst (v := 0) (q := 123) X (TB.get tb_X9_checks 70 rfl) c_iconst_0 rfl ?_
        obtain ⟨h10, eh10, e⟩ := bs e
        refine V_putI (q := 126) X (TB.get tb_X9_checks 71 rfl) rfl lq_RX9_367 eh10 ?_
        refine V_aload_n (q := 127) X (TB.get tb_X9_checks 72 rfl) rfl rfl rfl ?_
        refine V_iconst (v := -1) (q := 128) X (TB.get tb_X9_checks 73 rfl) c_iconst_m1 rfl ?_
        obtain ⟨h11, eh11, e⟩ := bs e
        refine V_putI (q := 131) X (TB.get tb_X9_checks 74 rfl) rfl lq_RX9_370 eh11 ?_
        refine V_aload_n (q := 132) X (TB.get tb_X9_checks 75 rfl) rfl rfl rfl ?_
        refine V_iconst (v := 0) (q := 133) X (TB.get tb_X9_checks 76 rfl) c_iconst_0 rfl ?_
        obtain ⟨h12, eh12, e⟩ := bs e
        refine V_putI (q := 136) X (TB.get tb_X9_checks 77 rfl) rfl lq_RX9_373 eh12 ?_
        refine V_iconst (v := 0) (q := 137) X (TB.get tb_X9_checks 78 rfl) c_iconst_0 rfl ?_
        refine V_istore_n (q := 138) (lv' := [(1, .int (0 : Int32)), (0, .ref a0)]) X (TB.get tb_X9_checks 79 rfl) rfl rfl (Nat.le_of_ble_eq_true rfl) rfl ?_
        refine V_sub (lv' := [(0, .ref a0), (1, .int (0 : Int32))]) [1, 0] rfl ?_
        refine wh2_elim (P := fun v13 h14 => V p l en (rmD 13) s m args below meth c 3 D tc B nn (Ar B nn) s.heap 0 0 (MQ below (QC D tc B nn (Ar B nn) none res) args s 0 0 (Ar B nn)) h14 138 [(0, .ref a0), (1, .int v13)] []) (f := fu) ?_ e
        intro self15 v13 h14 ihself15 e
        unfold MX9_checks_B138 at e
        refine V_iload_n (q := 139) X (TB.get tb_X9_checks 80 rfl) rfl rfl rfl ?_
        refine V_aload_n (q := 140) X (TB.get tb_X9_checks 81 rfl) rfl rfl rfl ?_
        obtain ⟨x16, ex16, e⟩ := bs e
        refine V_callV (q := 143) (As := []) (rest := [.int v13]) (st' := [.int x16, .int v13]) X (TB.get tb_X9_checks 82 rfl) rfl cv_RX9_298 (ok_X9_statements a0 h14 x16 ex16).1 (ok_X9_statements a0 h14 x16 ex16).2 (Nat.le_of_ble_eq_true rfl) rfl rfl (Nat.le_of_ble_eq_true rfl) rfl ?_
        refine V_icmp_gt (q := 146) (t := 205) X (TB.get tb_X9_checks 83 rfl) rfl rfl (fun hc => ?_) (fun hc => ?_)
        · have e := (if_pos hc).symm.trans e
          cases e
          exact V_vret X hr hlk (TB.get tb_X9_checks 115 rfl)
        · have e := (if_neg hc).symm.trans e
          refine V_aload_n (q := 147) X (TB.get tb_X9_checks 84 rfl) rfl rfl rfl ?_
          obtain ⟨x17, ex17, e⟩ := bs e
          refine V_getR (q := 150) X (TB.get tb_X9_checks 85 rfl) rfl lf_RX9_46 ex17 ?_
          refine V_iload_n (q := 151) X (TB.get tb_X9_checks 86 rfl) rfl rfl rfl ?_
          obtain ⟨x18, ex18, e⟩ := bs e
          refine V_baloadZ (q := 152) X (TB.get tb_X9_checks 87 rfl) rfl ex18 ?_
          refine jn_elim (P := (fun (k : Int32 → Hp → Option (Hp)) => ∀ (w19 : Int32) (h20 : Hp), k w19 h20 = some res → V p l en (rmD 13) s m args below meth c 3 D tc B nn (Ar B nn) s.heap 0 0 (MQ below (QC D tc B nn (Ar B nn) none res) args s 0 0 (Ar B nn)) h20 164 [(0, .ref a0), (1, .int v13)] [.int w19])) e ?_ (fun j21 Jj21 e => ?_)
          · intro w19 h20 e
            refine V_istore_n (q := 165) (lv' := [(2, .int w19), (0, .ref a0), (1, .int v13)]) X (TB.get tb_X9_checks 94 rfl) rfl rfl (Nat.le_of_ble_eq_true rfl) rfl ?_
            refine V_iload_n (q := 166) X (TB.get tb_X9_checks 95 rfl) rfl rfl rfl ?_
            refine jn_elim (P := (fun (k : Hp → Option (Hp)) => ∀ (h22 : Hp), k h22 = some res → V p l en (rmD 13) s m args below meth c 3 D tc B nn (Ar B nn) s.heap 0 0 (MQ below (QC D tc B nn (Ar B nn) none res) args s 0 0 (Ar B nn)) h22 199 [(0, .ref a0), (1, .int v13)] [])) e ?_ (fun j23 Jj23 e => ?_)
            · intro h22 e
              refine V_iinc (q := 202) (v := v13 + (1 : Int32)) (lv' := [(1, .int (v13 + (1 : Int32))), (0, .ref a0)]) X (TB.get tb_X9_checks 113 rfl) rfl rfl (by rw [c_iconst_1]) (Nat.le_of_ble_eq_true rfl) rfl ?_
              refine V_goto (q := 138) X (TB.get tb_X9_checks 114 rfl) rfl ?_
              refine V_sub (lv' := [(0, .ref a0), (1, .int (v13 + (1 : Int32)))]) [1, 0] rfl ?_
              exact ihself15 _ _ e
            refine V_if_ne (q := 169) (t := 172) X (TB.get tb_X9_checks 96 rfl) rfl rfl (fun hc => ?_) (fun hc => ?_)
            · have e := (if_neg hc).symm.trans e
              refine V_aload_n (q := 173) X (TB.get tb_X9_checks 98 rfl) rfl rfl rfl ?_
              obtain ⟨x24, ex24, e⟩ := bs e
              refine V_getI (q := 176) X (TB.get tb_X9_checks 99 rfl) rfl lf_RX9_367 ex24 ?_
              refine jn_elim (P := (fun (k : Hp → Option (Hp)) => ∀ (h25 : Hp), k h25 = some res → V p l en (rmD 13) s m args below meth c 3 D tc B nn (Ar B nn) s.heap 0 0 (MQ below (QC D tc B nn (Ar B nn) none res) args s 0 0 (Ar B nn)) h25 189 [(0, .ref a0), (1, .int v13)] [])) e ?_ (fun j26 Jj26 e => ?_)
              · intro h25 e
                refine V_aload_n (q := 190) X (TB.get tb_X9_checks 107 rfl) rfl rfl rfl ?_
                refine V_dup (q := 191) X (TB.get tb_X9_checks 108 rfl) rfl rfl ?_
                obtain ⟨x27, ex27, e⟩ := bs e
                refine V_getI (q := 194) X (TB.get tb_X9_checks 109 rfl) rfl lf_RX9_367 ex27 ?_
                refine V_iconst (v := 1) (q := 195) X (TB.get tb_X9_checks 110 rfl) c_iconst_1 rfl ?_
                refine V_iadd (q := 196) X (TB.get tb_X9_checks 111 rfl) rfl ?_
                obtain ⟨h28, eh28, e⟩ := bs e
                refine V_putI (q := 199) X (TB.get tb_X9_checks 112 rfl) rfl lq_RX9_367 eh28 ?_
                exact Jj23 _ e
              refine V_if_ne (q := 179) (t := 189) X (TB.get tb_X9_checks 100 rfl) rfl rfl (fun hc => ?_) (fun hc => ?_)
              · have e := (if_neg hc).symm.trans e
                refine V_sub (lv' := [(0, .ref a0), (1, .int v13)]) [1, 2] rfl ?_
                exact Jj26 _ e
              · have e := (if_pos hc).symm.trans e
                refine V_aload_n (q := 180) X (TB.get tb_X9_checks 101 rfl) rfl rfl rfl ?_
                refine V_iload_n (q := 181) X (TB.get tb_X9_checks 102 rfl) rfl rfl rfl ?_
                obtain ⟨h29, eh29, e⟩ := bs e
                refine V_putI (q := 184) X (TB.get tb_X9_checks 103 rfl) rfl lq_RX9_370 eh29 ?_
                refine V_aload_n (q := 185) X (TB.get tb_X9_checks 104 rfl) rfl rfl rfl ?_
                refine V_iload_n (q := 186) X (TB.get tb_X9_checks 105 rfl) rfl rfl rfl ?_
                obtain ⟨h30, eh30, e⟩ := bs e
                refine V_putI (q := 189) X (TB.get tb_X9_checks 106 rfl) rfl lq_RX9_373 eh30 ?_
                refine V_sub (lv' := [(0, .ref a0), (1, .int v13)]) [1, 2] rfl ?_
                exact Jj26 _ e
            · have e := (if_pos hc).symm.trans e
              refine V_goto (q := 199) X (TB.get tb_X9_checks 97 rfl) rfl ?_
              refine V_sub (lv' := [(0, .ref a0), (1, .int v13)]) [1, 2] rfl ?_
              exact Jj23 _ e
          refine V_if_eq (q := 155) (t := 163) X (TB.get tb_X9_checks 88 rfl) rfl rfl (fun hc => ?_) (fun hc => ?_)
          · have e := (if_pos hc).symm.trans e
            refine V_iconst (v := 0) (q := 164) X (TB.get tb_X9_checks 93 rfl) c_iconst_0 rfl ?_
            exact Jj21 _ _ e
          · have e := (if_neg hc).symm.trans e
            refine V_aload_n (q := 156) X (TB.get tb_X9_checks 89 rfl) rfl rfl rfl ?_
            refine V_iload_n (q := 157) X (TB.get tb_X9_checks 90 rfl) rfl rfl rfl ?_
            obtain ⟨p31, ep31, e⟩ := bs e
            refine V_callV (q := 160) (As := [.int v13]) (rest := []) (st' := [.int p31.1]) X (TB.get tb_X9_checks 91 rfl) rfl cv_RX9_376 (ok_X9_whyAt fu a0 v13 h14 p31 ep31).1 (ok_X9_whyAt fu a0 v13 h14 p31 ep31).2 (Nat.le_of_ble_eq_true rfl) rfl rfl (Nat.le_of_ble_eq_true rfl) rfl ?_
            refine V_goto (q := 164) X (TB.get tb_X9_checks 92 rfl) rfl ?_
            exact Jj21 _ _ e
      refine wh1_elim (P := fun h32 => V p l en (rmD 13) s m args below meth c 3 D tc B nn (Ar B nn) s.heap 0 0 (MQ below (QC D tc B nn (Ar B nn) none res) args s 0 0 (Ar B nn)) h32 76 [(0, .ref a0)] []) (f := fu) ?_ e
      intro self33 h32 ihself33 e
      unfold MX9_checks_B76 at e
      refine V_aload_n (q := 77) X (TB.get tb_X9_checks 46 rfl) rfl rfl rfl ?_
      obtain ⟨x34, ex34, e⟩ := bs e
      refine V_getI (q := 80) X (TB.get tb_X9_checks 47 rfl) rfl lf_RX9_331 ex34 ?_
      refine V_if_eq (q := 83) (t := 121) X (TB.get tb_X9_checks 48 rfl) rfl rfl (fun hc => ?_) (fun hc => ?_)
      · have e := (if_pos hc).symm.trans e
        exact Jj9 _ e
      · have e := (if_neg hc).symm.trans e
        refine V_aload_n (q := 84) X (TB.get tb_X9_checks 49 rfl) rfl rfl rfl ?_
        refine V_iconst (v := 0) (q := 85) X (TB.get tb_X9_checks 50 rfl) c_iconst_0 rfl ?_
        obtain ⟨h35, eh35, e⟩ := bs e
        refine V_putZ (q := 88) X (TB.get tb_X9_checks 51 rfl) rfl lq_RX9_331 eh35 ?_
        refine V_iconst (v := 0) (q := 89) X (TB.get tb_X9_checks 52 rfl) c_iconst_0 rfl ?_
        refine V_istore_n (q := 90) (lv' := [(1, .int (0 : Int32)), (0, .ref a0)]) X (TB.get tb_X9_checks 53 rfl) rfl rfl (Nat.le_of_ble_eq_true rfl) rfl ?_
        refine jn_elim (P := (fun (k : Hp → Option (Hp)) => ∀ (h36 : Hp), k h36 = some res → V p l en (rmD 13) s m args below meth c 3 D tc B nn (Ar B nn) s.heap 0 0 (MQ below (QC D tc B nn (Ar B nn) none res) args s 0 0 (Ar B nn)) h36 118 [(0, .ref a0)] [])) e ?_ (fun j37 Jj37 e => ?_)
        · intro h36 e
          refine V_goto (q := 76) X (TB.get tb_X9_checks 68 rfl) rfl ?_
          exact ihself33 _ e
        refine V_sub (lv' := [(0, .ref a0), (1, .int (0 : Int32))]) [1, 0] rfl ?_
        refine wh2_elim (P := fun v38 h39 => V p l en (rmD 13) s m args below meth c 3 D tc B nn (Ar B nn) s.heap 0 0 (MQ below (QC D tc B nn (Ar B nn) none res) args s 0 0 (Ar B nn)) h39 90 [(0, .ref a0), (1, .int v38)] []) (f := fu) ?_ e
        intro self40 v38 h39 ihself40 e
        unfold MX9_checks_B90 at e
        refine V_iload_n (q := 91) X (TB.get tb_X9_checks 54 rfl) rfl rfl rfl ?_
        refine V_aload_n (q := 92) X (TB.get tb_X9_checks 55 rfl) rfl rfl rfl ?_
        obtain ⟨x41, ex41, e⟩ := bs e
        refine V_callV (q := 95) (As := []) (rest := [.int v38]) (st' := [.int x41, .int v38]) X (TB.get tb_X9_checks 56 rfl) rfl cv_RX9_298 (ok_X9_statements a0 h39 x41 ex41).1 (ok_X9_statements a0 h39 x41 ex41).2 (Nat.le_of_ble_eq_true rfl) rfl rfl (Nat.le_of_ble_eq_true rfl) rfl ?_
        refine V_icmp_ge (q := 98) (t := 118) X (TB.get tb_X9_checks 57 rfl) rfl rfl (fun hc => ?_) (fun hc => ?_)
        · have e := (if_pos hc).symm.trans e
          refine V_sub (lv' := [(0, .ref a0)]) [0] rfl ?_
          exact Jj37 _ e
        · have e := (if_neg hc).symm.trans e
          refine V_aload_n (q := 99) X (TB.get tb_X9_checks 58 rfl) rfl rfl rfl ?_
          obtain ⟨x42, ex42, e⟩ := bs e
          refine V_getR (q := 102) X (TB.get tb_X9_checks 59 rfl) rfl lf_RX9_46 ex42 ?_
          refine V_iload_n (q := 103) X (TB.get tb_X9_checks 60 rfl) rfl rfl rfl ?_
          obtain ⟨x43, ex43, e⟩ := bs e
          refine V_baloadZ (q := 104) X (TB.get tb_X9_checks 61 rfl) rfl ex43 ?_
          refine jn_elim (P := (fun (k : Hp → Option (Hp)) => ∀ (h44 : Hp), k h44 = some res → V p l en (rmD 13) s m args below meth c 3 D tc B nn (Ar B nn) s.heap 0 0 (MQ below (QC D tc B nn (Ar B nn) none res) args s 0 0 (Ar B nn)) h44 112 [(0, .ref a0), (1, .int v38)] [])) e ?_ (fun j45 Jj45 e => ?_)
          · intro h44 e
            refine V_iinc (q := 115) (v := v38 + (1 : Int32)) (lv' := [(1, .int (v38 + (1 : Int32))), (0, .ref a0)]) X (TB.get tb_X9_checks 66 rfl) rfl rfl (by rw [c_iconst_1]) (Nat.le_of_ble_eq_true rfl) rfl ?_
            refine V_goto (q := 90) X (TB.get tb_X9_checks 67 rfl) rfl ?_
            refine V_sub (lv' := [(0, .ref a0), (1, .int (v38 + (1 : Int32)))]) [1, 0] rfl ?_
            exact ihself40 _ _ e
          refine V_if_eq (q := 107) (t := 112) X (TB.get tb_X9_checks 62 rfl) rfl rfl (fun hc => ?_) (fun hc => ?_)
          · have e := (if_pos hc).symm.trans e
            exact Jj45 _ e
          · have e := (if_neg hc).symm.trans e
            refine V_aload_n (q := 108) X (TB.get tb_X9_checks 63 rfl) rfl rfl rfl ?_
            refine V_iload_n (q := 109) X (TB.get tb_X9_checks 64 rfl) rfl rfl rfl ?_
            obtain ⟨h46, eh46, e⟩ := bs e
            refine V_callV (q := 112) (As := [.int v38]) (rest := []) (st' := []) X (TB.get tb_X9_checks 65 rfl) rfl cv_RX9_364 (ok_X9_passes fu a0 v38 h39 h46 eh46).1 (ok_X9_passes fu a0 v38 h39 h46 eh46).2 (Nat.le_of_ble_eq_true rfl) rfl rfl (Nat.le_of_ble_eq_true rfl) rfl ?_
            exact Jj45 _ e
    refine V_sub (lv' := [(0, .ref a0), (1, .int (0 : Int32))]) [1, 0] rfl ?_
    refine wh2_elim (P := fun v47 h48 => V p l en (rmD 13) s m args below meth c 3 D tc B nn (Ar B nn) s.heap 0 0 (MQ below (QC D tc B nn (Ar B nn) none res) args s 0 0 (Ar B nn)) h48 23 [(0, .ref a0), (1, .int v47)] []) (f := fu) ?_ e
    intro self49 v47 h48 ihself49 e
    unfold MX9_checks_B23 at e
    refine V_iload_n (q := 24) X (TB.get tb_X9_checks 14 rfl) rfl rfl rfl ?_
    refine V_bipush (v := 6) (q := 26) X (TB.get tb_X9_checks 15 rfl) c_bipush_6 rfl ?_
    refine V_icmp_ge (q := 29) (t := 63) X (TB.get tb_X9_checks 16 rfl) rfl rfl (fun hc => ?_) (fun hc => ?_)
    · have e := (if_pos hc).symm.trans e
      refine V_sub (lv' := [(0, .ref a0)]) [0] rfl ?_
      exact Jj4 _ e
    · have e := (if_neg hc).symm.trans e
      refine V_aload_n (q := 30) X (TB.get tb_X9_checks 17 rfl) rfl rfl rfl ?_
      obtain ⟨x50, ex50, e⟩ := bs e
      refine V_getR (q := 33) X (TB.get tb_X9_checks 18 rfl) rfl lf_RX9_61 ex50 ?_
      refine V_iload_n (q := 34) X (TB.get tb_X9_checks 19 rfl) rfl rfl rfl ?_
      refine V_iconst (v := 1) (q := 35) X (TB.get tb_X9_checks 20 rfl) c_iconst_1 rfl ?_
      obtain ⟨h51, eh51, e⟩ := bs e
      refine V_iastore (q := 36) X (TB.get tb_X9_checks 21 rfl) rfl eh51 ?_
      refine V_aload_n (q := 37) X (TB.get tb_X9_checks 22 rfl) rfl rfl rfl ?_
      obtain ⟨x52, ex52, e⟩ := bs e
      refine V_getR (q := 40) X (TB.get tb_X9_checks 23 rfl) rfl lf_RX9_64 ex52 ?_
      refine V_iload_n (q := 41) X (TB.get tb_X9_checks 24 rfl) rfl rfl rfl ?_
      refine V_iconst (v := 0) (q := 42) X (TB.get tb_X9_checks 25 rfl) c_iconst_0 rfl ?_
      obtain ⟨h53, eh53, e⟩ := bs e
      refine V_iastore (q := 43) X (TB.get tb_X9_checks 26 rfl) rfl eh53 ?_
      refine V_aload_n (q := 44) X (TB.get tb_X9_checks 27 rfl) rfl rfl rfl ?_
      obtain ⟨x54, ex54, e⟩ := bs e
      refine V_getR (q := 47) X (TB.get tb_X9_checks 28 rfl) rfl lf_RX9_67 ex54 ?_
      refine V_iload_n (q := 48) X (TB.get tb_X9_checks 29 rfl) rfl rfl rfl ?_
      refine V_iconst (v := 0) (q := 49) X (TB.get tb_X9_checks 30 rfl) c_iconst_0 rfl ?_
      obtain ⟨h55, eh55, e⟩ := bs e
      refine V_iastore (q := 50) X (TB.get tb_X9_checks 31 rfl) rfl eh55 ?_
      refine V_aload_n (q := 51) X (TB.get tb_X9_checks 32 rfl) rfl rfl rfl ?_
      obtain ⟨x56, ex56, e⟩ := bs e
      refine V_getR (q := 54) X (TB.get tb_X9_checks 33 rfl) rfl lf_RX9_70 ex56 ?_
      refine V_iload_n (q := 55) X (TB.get tb_X9_checks 34 rfl) rfl rfl rfl ?_
      refine V_iconst (v := 0) (q := 56) X (TB.get tb_X9_checks 35 rfl) c_iconst_0 rfl ?_
      obtain ⟨h57, eh57, e⟩ := bs e
      refine V_iastore (q := 57) X (TB.get tb_X9_checks 36 rfl) rfl eh57 ?_
      refine V_iinc (q := 60) (v := v47 + (1 : Int32)) (lv' := [(1, .int (v47 + (1 : Int32))), (0, .ref a0)]) X (TB.get tb_X9_checks 37 rfl) rfl rfl (by rw [c_iconst_1]) (Nat.le_of_ble_eq_true rfl) rfl ?_
      refine V_goto (q := 23) X (TB.get tb_X9_checks 38 rfl) rfl ?_
      refine V_sub (lv' := [(0, .ref a0), (1, .int (v47 + (1 : Int32)))]) [1, 0] rfl ?_
      exact ihself49 _ _ e
  refine V_sub (lv' := [(0, .ref a0), (1, .int (0 : Int32))]) [1, 0] rfl ?_
  refine wh2_elim (P := fun v58 h59 => V p l en (rmD 13) s m args below meth c 3 D tc B nn (Ar B nn) s.heap 0 0 (MQ below (QC D tc B nn (Ar B nn) none res) args s 0 0 (Ar B nn)) h59 2 [(0, .ref a0), (1, .int v58)] []) (f := fu) ?_ e
  intro self60 v58 h59 ihself60 e
  unfold MX9_checks_B2 at e
  refine V_iload_n (q := 3) X (TB.get tb_X9_checks 2 rfl) rfl rfl rfl ?_
  refine V_bipush (v := 41) (q := 5) X (TB.get tb_X9_checks 3 rfl) c_bipush_41 rfl ?_
  refine V_icmp_ge (q := 8) (t := 21) X (TB.get tb_X9_checks 4 rfl) rfl rfl (fun hc => ?_) (fun hc => ?_)
  · have e := (if_pos hc).symm.trans e
    refine V_sub (lv' := [(0, .ref a0)]) [0] rfl ?_
    exact Jj2 _ e
  · have e := (if_neg hc).symm.trans e
    refine V_aload_n (q := 9) X (TB.get tb_X9_checks 5 rfl) rfl rfl rfl ?_
    obtain ⟨x61, ex61, e⟩ := bs e
    refine V_getR (q := 12) X (TB.get tb_X9_checks 6 rfl) rfl lf_RX9_46 ex61 ?_
    refine V_iload_n (q := 13) X (TB.get tb_X9_checks 7 rfl) rfl rfl rfl ?_
    refine V_iconst (v := 0) (q := 14) X (TB.get tb_X9_checks 8 rfl) c_iconst_0 rfl ?_
    obtain ⟨h62, eh62, e⟩ := bs e
    refine V_bastoreZ (q := 15) X (TB.get tb_X9_checks 9 rfl) rfl eh62 ?_
    refine V_iinc (q := 18) (v := v58 + (1 : Int32)) (lv' := [(1, .int (v58 + (1 : Int32))), (0, .ref a0)]) X (TB.get tb_X9_checks 10 rfl) rfl rfl (by rw [c_iconst_1]) (Nat.le_of_ble_eq_true rfl) rfl ?_
    refine V_goto (q := 2) X (TB.get tb_X9_checks 11 rfl) rfl ?_
    refine V_sub (lv' := [(0, .ref a0), (1, .int (v58 + (1 : Int32)))]) [1, 0] rfl ?_
    exact ihself60 _ _ e
set_option maxRecDepth 100000 in
set_option maxHeartbeats 4000000 in
theorem ok_X9_checksAll (fu : Nat) (a0 : Nat) (h : Hp) (res : Hp) (e : MX9_checksAll fu a0 h = some res) : CK yX9_checksAll cX9_checksAll 1 none 14 [.ref a0] h none res ∧ (h.1 a0).1 = 9 := by
  obtain ⟨hcl, e⟩ := h_g_inv e
  refine ⟨CK_of pn_RX9 cm_X9_checksAll (Nat.le_of_ble_eq_true rfl) ?_, hcl⟩
  intro l D tc B nn p en s m args below meth c X hr hlk
  replace X : CX p (rmD 14) s m args c cX9_checksAll 1 RX9 D tc 14 := X
  show V p l en (rmD 14) s m args below meth c 1 D tc B nn (Ar B nn) s.heap 0 0 (MQ below (QC D tc B nn (Ar B nn) none res) args s 0 0 (Ar B nn)) h 0 [(0, .ref a0)] []
  refine V_aload_n (q := 1) X (TB.get tb_X9_checksAll 0 rfl) rfl rfl rfl ?_
  obtain ⟨h1, eh1, e⟩ := bs e
  refine V_callV (q := 4) (As := []) (rest := []) (st' := []) X (TB.get tb_X9_checksAll 1 rfl) rfl cv_RX9_316 (ok_X9_allIn fu a0 h h1 eh1).1 (ok_X9_allIn fu a0 h h1 eh1).2 (Nat.le_of_ble_eq_true rfl) rfl rfl (Nat.le_of_ble_eq_true rfl) rfl ?_
  refine V_aload_n (q := 5) X (TB.get tb_X9_checksAll 2 rfl) rfl rfl rfl ?_
  obtain ⟨h2, eh2, e⟩ := bs e
  refine V_callV (q := 8) (As := []) (rest := []) (st' := []) X (TB.get tb_X9_checksAll 3 rfl) rfl cv_RX9_382 (ok_X9_checks fu a0 h1 h2 eh2).1 (ok_X9_checks fu a0 h1 h2 eh2).2 (Nat.le_of_ble_eq_true rfl) rfl rfl (Nat.le_of_ble_eq_true rfl) rfl ?_
  cases e
  exact V_vret X hr hlk (TB.get tb_X9_checksAll 4 rfl)
set_option maxRecDepth 100000 in
set_option maxHeartbeats 4000000 in
theorem ok_X9_check (fu : Nat) (a0 : Nat) (a1 : Int32) (h : Hp) (res : Int32 × Hp) (e : MX9_check fu a0 a1 h = some res) : CK yX9_check cX9_check 4 (some .int) 15 [.ref a0, .int a1] h (some (.int res.1)) res.2 ∧ (h.1 a0).1 = 9 := by
  obtain ⟨hcl, e⟩ := h_g_inv e
  refine ⟨CK_of pn_RX9 cm_X9_check (Nat.le_of_ble_eq_true rfl) ?_, hcl⟩
  intro l D tc B nn p en s m args below meth c X hr hlk
  replace X : CX p (rmD 15) s m args c cX9_check 4 RX9 D tc 15 := X
  show V p l en (rmD 15) s m args below meth c 4 D tc B nn (Ar B nn) s.heap 0 0 (MQ below (QC D tc B nn (Ar B nn) (some (.int res.1)) res.2) args s 0 0 (Ar B nn)) h 0 [(0, .ref a0), (1, .int a1)] []
  refine V_iload_n (q := 1) X (TB.get tb_X9_check 0 rfl) rfl rfl rfl ?_
  refine V_iconst (v := 0) (q := 2) X (TB.get tb_X9_check 1 rfl) c_iconst_0 rfl ?_
  refine V_iconst (v := 4) (q := 3) X (TB.get tb_X9_check 2 rfl) c_iconst_4 rfl ?_
  obtain ⟨x1, ex1, e⟩ := bs e
  refine V_callS (q := 6) (As := [.int a1, .int (0 : Int32), .int (4 : Int32)]) (rest := []) (st' := [.int x1]) X (TB.get tb_X9_check 3 rfl) rfl cs_RX9_239 (ok_X9_isFrom a1 (0 : Int32) (4 : Int32) h x1 ex1) (Nat.le_of_ble_eq_true rfl) rfl rfl (Nat.le_of_ble_eq_true rfl) rfl ?_
  refine V_if_ne (q := 9) (t := 15) X (TB.get tb_X9_check 4 rfl) rfl rfl (fun hc => ?_) (fun hc => ?_)
  · have e := (if_neg hc).symm.trans e
    refine V_aload_n (q := 16) X (TB.get tb_X9_check 9 rfl) rfl rfl rfl ?_
    obtain ⟨h2, eh2, e⟩ := bs e
    refine V_callV (q := 19) (As := []) (rest := []) (st' := []) X (TB.get tb_X9_check 10 rfl) rfl cv_RX9_385 (ok_X9_checksAll fu a0 h h2 eh2).1 (ok_X9_checksAll fu a0 h h2 eh2).2 (Nat.le_of_ble_eq_true rfl) rfl rfl (Nat.le_of_ble_eq_true rfl) rfl ?_
    refine V_iload_n (q := 20) X (TB.get tb_X9_check 11 rfl) rfl rfl rfl ?_
    refine V_if_ne (q := 23) (t := 40) X (TB.get tb_X9_check 12 rfl) rfl rfl (fun hc => ?_) (fun hc => ?_)
    · have e := (if_neg hc).symm.trans e
      refine V_iload_n (q := 41) X (TB.get tb_X9_check 22 rfl) rfl rfl rfl ?_
      refine V_iconst (v := 3) (q := 42) X (TB.get tb_X9_check 23 rfl) c_iconst_3 rfl ?_
      refine jn_elim (P := (fun (k : Option (Int32 × Hp)) => k = some res → V p l en (rmD 15) s m args below meth c 4 D tc B nn (Ar B nn) s.heap 0 0 (MQ below (QC D tc B nn (Ar B nn) (some (.int res.1)) res.2) args s 0 0 (Ar B nn)) h2 58 [(0, .ref a0), (1, .int a1)] [])) e ?_ (fun j3 Jj3 e => ?_)
      · intro e
        refine V_iload_n (q := 59) X (TB.get tb_X9_check 32 rfl) rfl rfl rfl ?_
        refine V_iconst (v := 1) (q := 60) X (TB.get tb_X9_check 33 rfl) c_iconst_1 rfl ?_
        refine V_icmp_ne (q := 63) (t := 72) X (TB.get tb_X9_check 34 rfl) rfl rfl (fun hc => ?_) (fun hc => ?_)
        · have e := (if_neg hc).symm.trans e
          refine V_iload_n (q := 73) X (TB.get tb_X9_check 40 rfl) rfl rfl rfl ?_
          refine V_iconst (v := 2) (q := 74) X (TB.get tb_X9_check 41 rfl) c_iconst_2 rfl ?_
          refine V_icmp_ne (q := 77) (t := 86) X (TB.get tb_X9_check 42 rfl) rfl rfl (fun hc => ?_) (fun hc => ?_)
          · have e := (if_neg hc).symm.trans e
            refine V_iload_n (q := 87) X (TB.get tb_X9_check 48 rfl) rfl rfl rfl ?_
            refine V_iconst (v := 3) (q := 88) X (TB.get tb_X9_check 49 rfl) c_iconst_3 rfl ?_
            refine V_icmp_ne (q := 91) (t := 100) X (TB.get tb_X9_check 50 rfl) rfl rfl (fun hc => ?_) (fun hc => ?_)
            · have e := (if_neg hc).symm.trans e
              refine V_iconst (v := 0) (q := 101) X (TB.get tb_X9_check 56 rfl) c_iconst_0 rfl ?_
              refine V_istore_n (q := 102) (lv' := [(2, .int (0 : Int32)), (0, .ref a0), (1, .int a1)]) X (TB.get tb_X9_check 57 rfl) rfl rfl (Nat.le_of_ble_eq_true rfl) rfl ?_
              refine V_iconst (v := 0) (q := 103) X (TB.get tb_X9_check 58 rfl) c_iconst_0 rfl ?_
              refine V_istore_n (q := 104) (lv' := [(3, .int (0 : Int32)), (2, .int (0 : Int32)), (0, .ref a0), (1, .int a1)]) X (TB.get tb_X9_check 59 rfl) rfl rfl (Nat.le_of_ble_eq_true rfl) rfl ?_
              refine jn_elim (P := (fun (k : Int32 → Option (Int32 × Hp)) => ∀ (v4 : Int32), k v4 = some res → V p l en (rmD 15) s m args below meth c 4 D tc B nn (Ar B nn) s.heap 0 0 (MQ below (QC D tc B nn (Ar B nn) (some (.int res.1)) res.2) args s 0 0 (Ar B nn)) h2 135 [(0, .ref a0), (2, .int v4)] [])) e ?_ (fun j5 Jj5 e => ?_)
              · intro v4 e
                refine V_aload_n (q := 136) X (TB.get tb_X9_check 77 rfl) rfl rfl rfl ?_
                refine V_iload_n (q := 137) X (TB.get tb_X9_check 78 rfl) rfl rfl rfl ?_
                obtain ⟨p6, ep6, e⟩ := bs e
                refine V_callV (q := 140) (As := [.int v4]) (rest := []) (st' := [.int p6.1]) X (TB.get tb_X9_check 79 rfl) rfl cv_RX9_248 (ok_X9_gives a0 v4 h2 p6 ep6).1 (ok_X9_gives a0 v4 h2 p6 ep6).2 (Nat.le_of_ble_eq_true rfl) rfl rfl (Nat.le_of_ble_eq_true rfl) rfl ?_
                cases e
                exact V_iret X hr hlk (TB.get tb_X9_check 80 rfl)
              refine V_sub (lv' := [(0, .ref a0), (2, .int (0 : Int32)), (3, .int (0 : Int32))]) [2, 1, 0] rfl ?_
              refine wh2_elim (P := fun v7 v8 => V p l en (rmD 15) s m args below meth c 4 D tc B nn (Ar B nn) s.heap 0 0 (MQ below (QC D tc B nn (Ar B nn) (some (.int res.1)) res.2) args s 0 0 (Ar B nn)) h2 104 [(0, .ref a0), (2, .int v7), (3, .int v8)] []) (f := fu) ?_ e
              intro self9 v7 v8 ihself9 e
              unfold MX9_check_B104 at e
              refine V_iload_n (q := 105) X (TB.get tb_X9_check 60 rfl) rfl rfl rfl ?_
              refine V_aload_n (q := 106) X (TB.get tb_X9_check 61 rfl) rfl rfl rfl ?_
              obtain ⟨x10, ex10, e⟩ := bs e
              refine V_callV (q := 109) (As := []) (rest := [.int v8]) (st' := [.int x10, .int v8]) X (TB.get tb_X9_check 62 rfl) rfl cv_RX9_298 (ok_X9_statements a0 h2 x10 ex10).1 (ok_X9_statements a0 h2 x10 ex10).2 (Nat.le_of_ble_eq_true rfl) rfl rfl (Nat.le_of_ble_eq_true rfl) rfl ?_
              refine V_icmp_gt (q := 112) (t := 135) X (TB.get tb_X9_check 63 rfl) rfl rfl (fun hc => ?_) (fun hc => ?_)
              · have e := (if_pos hc).symm.trans e
                refine V_sub (lv' := [(0, .ref a0), (2, .int v7)]) [0, 1] rfl ?_
                exact Jj5 _ e
              · have e := (if_neg hc).symm.trans e
                refine V_iload_n (q := 113) X (TB.get tb_X9_check 64 rfl) rfl rfl rfl ?_
                refine V_aload_n (q := 114) X (TB.get tb_X9_check 65 rfl) rfl rfl rfl ?_
                obtain ⟨x11, ex11, e⟩ := bs e
                refine V_getR (q := 117) X (TB.get tb_X9_check 66 rfl) rfl lf_RX9_46 ex11 ?_
                refine V_iload_n (q := 118) X (TB.get tb_X9_check 67 rfl) rfl rfl rfl ?_
                obtain ⟨x12, ex12, e⟩ := bs e
                refine V_baloadZ (q := 119) X (TB.get tb_X9_check 68 rfl) rfl ex12 ?_
                refine jn_elim (P := (fun (k : Int32 → Option (Int32 × Hp)) => ∀ (w13 : Int32), k w13 = some res → V p l en (rmD 15) s m args below meth c 4 D tc B nn (Ar B nn) s.heap 0 0 (MQ below (QC D tc B nn (Ar B nn) (some (.int res.1)) res.2) args s 0 0 (Ar B nn)) h2 127 [(0, .ref a0), (3, .int v8)] [.int w13, .int v7])) e ?_ (fun j14 Jj14 e => ?_)
                · intro w13 e
                  refine V_iadd (q := 128) X (TB.get tb_X9_check 73 rfl) rfl ?_
                  refine V_istore_n (q := 129) (lv' := [(2, .int (v7 + w13)), (0, .ref a0), (3, .int v8)]) X (TB.get tb_X9_check 74 rfl) rfl rfl (Nat.le_of_ble_eq_true rfl) rfl ?_
                  refine V_iinc (q := 132) (v := v8 + (1 : Int32)) (lv' := [(3, .int (v8 + (1 : Int32))), (2, .int (v7 + w13)), (0, .ref a0)]) X (TB.get tb_X9_check 75 rfl) rfl rfl (by rw [c_iconst_1]) (Nat.le_of_ble_eq_true rfl) rfl ?_
                  refine V_goto (q := 104) X (TB.get tb_X9_check 76 rfl) rfl ?_
                  refine V_sub (lv' := [(0, .ref a0), (2, .int (v7 + w13)), (3, .int (v8 + (1 : Int32)))]) [2, 1, 0] rfl ?_
                  exact ihself9 _ _ e
                refine V_if_eq (q := 122) (t := 126) X (TB.get tb_X9_check 69 rfl) rfl rfl (fun hc => ?_) (fun hc => ?_)
                · have e := (if_pos hc).symm.trans e
                  refine V_iconst (v := 0) (q := 127) X (TB.get tb_X9_check 72 rfl) c_iconst_0 rfl ?_
                  refine V_sub (lv' := [(0, .ref a0), (3, .int v8)]) [0, 2] rfl ?_
                  exact Jj14 _ e
                · have e := (if_neg hc).symm.trans e
                  refine V_iconst (v := 1) (q := 123) X (TB.get tb_X9_check 70 rfl) c_iconst_1 rfl ?_
                  refine V_goto (q := 127) X (TB.get tb_X9_check 71 rfl) rfl ?_
                  refine V_sub (lv' := [(0, .ref a0), (3, .int v8)]) [0, 2] rfl ?_
                  exact Jj14 _ e
            · have e := (if_pos hc).symm.trans e
              refine V_aload_n (q := 92) X (TB.get tb_X9_check 51 rfl) rfl rfl rfl ?_
              refine V_aload_n (q := 93) X (TB.get tb_X9_check 52 rfl) rfl rfl rfl ?_
              obtain ⟨x15, ex15, e⟩ := bs e
              refine V_getI (q := 96) X (TB.get tb_X9_check 53 rfl) rfl lf_RX9_367 ex15 ?_
              obtain ⟨p16, ep16, e⟩ := bs e
              refine V_callV (q := 99) (As := [.int x15]) (rest := []) (st' := [.int p16.1]) X (TB.get tb_X9_check 54 rfl) rfl cv_RX9_248 (ok_X9_gives a0 x15 h2 p16 ep16).1 (ok_X9_gives a0 x15 h2 p16 ep16).2 (Nat.le_of_ble_eq_true rfl) rfl rfl (Nat.le_of_ble_eq_true rfl) rfl ?_
              cases e
              exact V_iret X hr hlk (TB.get tb_X9_check 55 rfl)
          · have e := (if_pos hc).symm.trans e
            refine V_aload_n (q := 78) X (TB.get tb_X9_check 43 rfl) rfl rfl rfl ?_
            refine V_aload_n (q := 79) X (TB.get tb_X9_check 44 rfl) rfl rfl rfl ?_
            obtain ⟨x17, ex17, e⟩ := bs e
            refine V_getI (q := 82) X (TB.get tb_X9_check 45 rfl) rfl lf_RX9_373 ex17 ?_
            obtain ⟨p18, ep18, e⟩ := bs e
            refine V_callV (q := 85) (As := [.int x17]) (rest := []) (st' := [.int p18.1]) X (TB.get tb_X9_check 46 rfl) rfl cv_RX9_248 (ok_X9_gives a0 x17 h2 p18 ep18).1 (ok_X9_gives a0 x17 h2 p18 ep18).2 (Nat.le_of_ble_eq_true rfl) rfl rfl (Nat.le_of_ble_eq_true rfl) rfl ?_
            cases e
            exact V_iret X hr hlk (TB.get tb_X9_check 47 rfl)
        · have e := (if_pos hc).symm.trans e
          refine V_aload_n (q := 64) X (TB.get tb_X9_check 35 rfl) rfl rfl rfl ?_
          refine V_aload_n (q := 65) X (TB.get tb_X9_check 36 rfl) rfl rfl rfl ?_
          obtain ⟨x19, ex19, e⟩ := bs e
          refine V_getI (q := 68) X (TB.get tb_X9_check 37 rfl) rfl lf_RX9_370 ex19 ?_
          obtain ⟨p20, ep20, e⟩ := bs e
          refine V_callV (q := 71) (As := [.int x19]) (rest := []) (st' := [.int p20.1]) X (TB.get tb_X9_check 38 rfl) rfl cv_RX9_248 (ok_X9_gives a0 x19 h2 p20 ep20).1 (ok_X9_gives a0 x19 h2 p20 ep20).2 (Nat.le_of_ble_eq_true rfl) rfl rfl (Nat.le_of_ble_eq_true rfl) rfl ?_
          cases e
          exact V_iret X hr hlk (TB.get tb_X9_check 39 rfl)
      refine V_icmp_ge (q := 45) (t := 58) X (TB.get tb_X9_check 24 rfl) rfl rfl (fun hc => ?_) (fun hc => ?_)
      · have e := (if_pos hc).symm.trans e
        exact Jj3 e
      · have e := (if_neg hc).symm.trans e
        refine V_aload_n (q := 46) X (TB.get tb_X9_check 25 rfl) rfl rfl rfl ?_
        obtain ⟨x21, ex21, e⟩ := bs e
        refine V_getI (q := 49) X (TB.get tb_X9_check 26 rfl) rfl lf_RX9_367 ex21 ?_
        refine V_if_ne (q := 52) (t := 58) X (TB.get tb_X9_check 27 rfl) rfl rfl (fun hc => ?_) (fun hc => ?_)
        · have e := (if_neg hc).symm.trans e
          exact Jj3 e
        · have e := (if_pos hc).symm.trans e
          refine V_aload_n (q := 53) X (TB.get tb_X9_check 28 rfl) rfl rfl rfl ?_
          refine V_iconst (v := 5) (q := 54) X (TB.get tb_X9_check 29 rfl) c_iconst_5 rfl ?_
          obtain ⟨p22, ep22, e⟩ := bs e
          refine V_callV (q := 57) (As := [.int (5 : Int32)]) (rest := []) (st' := [.int p22.1]) X (TB.get tb_X9_check 30 rfl) rfl cv_RX9_242 (ok_X9_refuse a0 (5 : Int32) h2 p22 ep22).1 (ok_X9_refuse a0 (5 : Int32) h2 p22 ep22).2 (Nat.le_of_ble_eq_true rfl) rfl rfl (Nat.le_of_ble_eq_true rfl) rfl ?_
          cases e
          exact V_iret X hr hlk (TB.get tb_X9_check 31 rfl)
    · have e := (if_pos hc).symm.trans e
      refine V_aload_n (q := 24) X (TB.get tb_X9_check 13 rfl) rfl rfl rfl ?_
      refine V_aload_n (q := 25) X (TB.get tb_X9_check 14 rfl) rfl rfl rfl ?_
      obtain ⟨x23, ex23, e⟩ := bs e
      refine V_getI (q := 28) X (TB.get tb_X9_check 15 rfl) rfl lf_RX9_367 ex23 ?_
      refine jn_elim (P := (fun (k : Int32 → Option (Int32 × Hp)) => ∀ (w24 : Int32), k w24 = some res → V p l en (rmD 15) s m args below meth c 4 D tc B nn (Ar B nn) s.heap 0 0 (MQ below (QC D tc B nn (Ar B nn) (some (.int res.1)) res.2) args s 0 0 (Ar B nn)) h2 36 [] [.int w24, .ref a0])) e ?_ (fun j25 Jj25 e => ?_)
      · intro w24 e
        obtain ⟨p26, ep26, e⟩ := bs e
        refine V_callV (q := 39) (As := [.int w24]) (rest := []) (st' := [.int p26.1]) X (TB.get tb_X9_check 20 rfl) rfl cv_RX9_248 (ok_X9_gives a0 w24 h2 p26 ep26).1 (ok_X9_gives a0 w24 h2 p26 ep26).2 (Nat.le_of_ble_eq_true rfl) rfl rfl (Nat.le_of_ble_eq_true rfl) rfl ?_
        cases e
        exact V_iret X hr hlk (TB.get tb_X9_check 21 rfl)
      refine V_if_ne (q := 31) (t := 35) X (TB.get tb_X9_check 16 rfl) rfl rfl (fun hc => ?_) (fun hc => ?_)
      · have e := (if_neg hc).symm.trans e
        refine V_iconst (v := 0) (q := 36) X (TB.get tb_X9_check 19 rfl) c_iconst_0 rfl ?_
        refine V_sub (lv' := []) [] rfl ?_
        exact Jj25 _ e
      · have e := (if_pos hc).symm.trans e
        refine V_iconst (v := 1) (q := 32) X (TB.get tb_X9_check 17 rfl) c_iconst_1 rfl ?_
        refine V_goto (q := 36) X (TB.get tb_X9_check 18 rfl) rfl ?_
        refine V_sub (lv' := []) [] rfl ?_
        exact Jj25 _ e
  · have e := (if_pos hc).symm.trans e
    refine V_aload_n (q := 10) X (TB.get tb_X9_check 5 rfl) rfl rfl rfl ?_
    refine V_iconst (v := 1) (q := 11) X (TB.get tb_X9_check 6 rfl) c_iconst_1 rfl ?_
    obtain ⟨p27, ep27, e⟩ := bs e
    refine V_callV (q := 14) (As := [.int (1 : Int32)]) (rest := []) (st' := [.int p27.1]) X (TB.get tb_X9_check 7 rfl) rfl cv_RX9_242 (ok_X9_refuse a0 (1 : Int32) h p27 ep27).1 (ok_X9_refuse a0 (1 : Int32) h p27 ep27).2 (Nat.le_of_ble_eq_true rfl) rfl rfl (Nat.le_of_ble_eq_true rfl) rfl ?_
    cases e
    exact V_iret X hr hlk (TB.get tb_X9_check 8 rfl)
set_option maxRecDepth 100000 in
set_option maxHeartbeats 4000000 in
theorem ok_X9_isPlace (a0 : Nat) (a1 : Int32) (h : Hp) (res : Int32) (e : MX9_isPlace a0 a1 h = some res) : CK yX9_isPlace cX9_isPlace 2 (some .boolean) 1 [.ref a0, .int a1] h (some (.int res)) h ∧ (h.1 a0).1 = 9 := by
  obtain ⟨hcl, e⟩ := h_g_inv e
  refine ⟨CK_of pn_RX9 cm_X9_isPlace (Nat.le_of_ble_eq_true rfl) ?_, hcl⟩
  intro l D tc B nn p en s m args below meth c X hr hlk
  replace X : CX p (rmD 1) s m args c cX9_isPlace 2 RX9 D tc 1 := X
  show V p l en (rmD 1) s m args below meth c 2 D tc B nn (Ar B nn) s.heap 0 0 (MQ below (QC D tc B nn (Ar B nn) (some (.int res)) h) args s 0 0 (Ar B nn)) h 0 [(0, .ref a0), (1, .int a1)] []
  refine V_iload_n (q := 1) X (TB.get tb_X9_isPlace 0 rfl) rfl rfl rfl ?_
  refine V_iconst (v := 0) (q := 2) X (TB.get tb_X9_isPlace 1 rfl) c_iconst_0 rfl ?_
  refine V_aload_n (q := 3) X (TB.get tb_X9_isPlace 2 rfl) rfl rfl rfl ?_
  obtain ⟨x1, ex1, e⟩ := bs e
  refine V_callV (q := 6) (As := []) (rest := [.int (0 : Int32), .int a1]) (st' := [.int x1, .int (0 : Int32), .int a1]) X (TB.get tb_X9_isPlace 3 rfl) rfl cv_RX9_298 (ok_X9_statements a0 h x1 ex1).1 (ok_X9_statements a0 h x1 ex1).2 (Nat.le_of_ble_eq_true rfl) rfl rfl (Nat.le_of_ble_eq_true rfl) rfl ?_
  obtain ⟨x2, ex2, e⟩ := bs e
  refine V_callS (q := 9) (As := [.int a1, .int (0 : Int32), .int x1]) (rest := []) (st' := [.int x2]) X (TB.get tb_X9_isPlace 4 rfl) rfl cs_RX9_239 (ok_X9_isFrom a1 (0 : Int32) x1 h x2 ex2) (Nat.le_of_ble_eq_true rfl) rfl rfl (Nat.le_of_ble_eq_true rfl) rfl ?_
  obtain ⟨z3, ez3, e⟩ := bs e
  cases e
  exact V_zretH X hr hlk ez3 (TB.get tb_X9_isPlace 5 rfl)
set_option maxRecDepth 100000 in
set_option maxHeartbeats 4000000 in
theorem ok_X9_at_ (fu : Nat) (a0 : Nat) (a1 : Int32) (a2 : Int32) (a3 : Int32) (h : Hp) (res : Int32 × Hp) (e : MX9_at_ fu a0 a1 a2 a3 h = some res) : CK yX9_at_ cX9_at_ 4 (some .int) 15 [.ref a0, .int a1, .int a2, .int a3] h (some (.int res.1)) res.2 ∧ (h.1 a0).1 = 9 := by
  obtain ⟨hcl, e⟩ := h_g_inv e
  refine ⟨CK_of pn_RX9 cm_X9_at_ (Nat.le_of_ble_eq_true rfl) ?_, hcl⟩
  intro l D tc B nn p en s m args below meth c X hr hlk
  replace X : CX p (rmD 15) s m args c cX9_at_ 4 RX9 D tc 15 := X
  show V p l en (rmD 15) s m args below meth c 4 D tc B nn (Ar B nn) s.heap 0 0 (MQ below (QC D tc B nn (Ar B nn) (some (.int res.1)) res.2) args s 0 0 (Ar B nn)) h 0 [(0, .ref a0), (1, .int a1), (2, .int a2), (3, .int a3)] []
  refine V_iload_n (q := 1) X (TB.get tb_X9_at_ 0 rfl) rfl rfl rfl ?_
  refine V_iconst (v := 0) (q := 2) X (TB.get tb_X9_at_ 1 rfl) c_iconst_0 rfl ?_
  refine V_iconst (v := 4) (q := 3) X (TB.get tb_X9_at_ 2 rfl) c_iconst_4 rfl ?_
  obtain ⟨x1, ex1, e⟩ := bs e
  refine V_callS (q := 6) (As := [.int a3, .int (0 : Int32), .int (4 : Int32)]) (rest := []) (st' := [.int x1]) X (TB.get tb_X9_at_ 3 rfl) rfl cs_RX9_239 (ok_X9_isFrom a3 (0 : Int32) (4 : Int32) h x1 ex1) (Nat.le_of_ble_eq_true rfl) rfl rfl (Nat.le_of_ble_eq_true rfl) rfl ?_
  refine V_if_ne (q := 9) (t := 15) X (TB.get tb_X9_at_ 4 rfl) rfl rfl (fun hc => ?_) (fun hc => ?_)
  · have e := (if_neg hc).symm.trans e
    refine V_aload_n (q := 16) X (TB.get tb_X9_at_ 9 rfl) rfl rfl rfl ?_
    refine V_iload_n (q := 17) X (TB.get tb_X9_at_ 10 rfl) rfl rfl rfl ?_
    obtain ⟨x2, ex2, e⟩ := bs e
    refine V_callV (q := 20) (As := [.int a1]) (rest := []) (st' := [.int x2]) X (TB.get tb_X9_at_ 11 rfl) rfl cv_RX9_388 (ok_X9_isPlace a0 a1 h x2 ex2).1 (ok_X9_isPlace a0 a1 h x2 ex2).2 (Nat.le_of_ble_eq_true rfl) rfl rfl (Nat.le_of_ble_eq_true rfl) rfl ?_
    refine jn_elim (P := (fun (k : Option (Int32 × Hp)) => k = some res → V p l en (rmD 15) s m args below meth c 4 D tc B nn (Ar B nn) s.heap 0 0 (MQ below (QC D tc B nn (Ar B nn) (some (.int res.1)) res.2) args s 0 0 (Ar B nn)) h 31 [(0, .ref a0)] [])) e ?_ (fun j3 Jj3 e => ?_)
    · intro e
      refine V_aload_n (q := 32) X (TB.get tb_X9_at_ 17 rfl) rfl rfl rfl ?_
      refine V_iconst (v := 2) (q := 33) X (TB.get tb_X9_at_ 18 rfl) c_iconst_2 rfl ?_
      obtain ⟨p4, ep4, e⟩ := bs e
      refine V_callV (q := 36) (As := [.int (2 : Int32)]) (rest := []) (st' := [.int p4.1]) X (TB.get tb_X9_at_ 19 rfl) rfl cv_RX9_242 (ok_X9_refuse a0 (2 : Int32) h p4 ep4).1 (ok_X9_refuse a0 (2 : Int32) h p4 ep4).2 (Nat.le_of_ble_eq_true rfl) rfl rfl (Nat.le_of_ble_eq_true rfl) rfl ?_
      cases e
      exact V_iret X hr hlk (TB.get tb_X9_at_ 20 rfl)
    refine V_if_eq (q := 23) (t := 31) X (TB.get tb_X9_at_ 12 rfl) rfl rfl (fun hc => ?_) (fun hc => ?_)
    · have e := (if_pos hc).symm.trans e
      refine V_sub (lv' := [(0, .ref a0)]) [0] rfl ?_
      exact Jj3 e
    · have e := (if_neg hc).symm.trans e
      refine V_aload_n (q := 24) X (TB.get tb_X9_at_ 13 rfl) rfl rfl rfl ?_
      refine V_iload_n (q := 25) X (TB.get tb_X9_at_ 14 rfl) rfl rfl rfl ?_
      obtain ⟨x5, ex5, e⟩ := bs e
      refine V_callV (q := 28) (As := [.int a2]) (rest := []) (st' := [.int x5]) X (TB.get tb_X9_at_ 15 rfl) rfl cv_RX9_325 (ok_X9_isVariable a0 a2 h x5 ex5).1 (ok_X9_isVariable a0 a2 h x5 ex5).2 (Nat.le_of_ble_eq_true rfl) rfl rfl (Nat.le_of_ble_eq_true rfl) rfl ?_
      refine V_if_ne (q := 31) (t := 37) X (TB.get tb_X9_at_ 16 rfl) rfl rfl (fun hc => ?_) (fun hc => ?_)
      · have e := (if_neg hc).symm.trans e
        refine V_aload_n (q := 38) X (TB.get tb_X9_at_ 21 rfl) rfl rfl rfl ?_
        obtain ⟨h6, eh6, e⟩ := bs e
        refine V_callV (q := 41) (As := []) (rest := []) (st' := []) X (TB.get tb_X9_at_ 22 rfl) rfl cv_RX9_385 (ok_X9_checksAll fu a0 h h6 eh6).1 (ok_X9_checksAll fu a0 h h6 eh6).2 (Nat.le_of_ble_eq_true rfl) rfl rfl (Nat.le_of_ble_eq_true rfl) rfl ?_
        refine V_aload_n (q := 42) X (TB.get tb_X9_at_ 23 rfl) rfl rfl rfl ?_
        obtain ⟨x7, ex7, e⟩ := bs e
        refine V_getR (q := 45) X (TB.get tb_X9_at_ 24 rfl) rfl lf_RX9_46 ex7 ?_
        refine V_iload_n (q := 46) X (TB.get tb_X9_at_ 25 rfl) rfl rfl rfl ?_
        obtain ⟨x8, ex8, e⟩ := bs e
        refine V_baloadZ (q := 47) X (TB.get tb_X9_at_ 26 rfl) rfl ex8 ?_
        refine V_if_ne (q := 50) (t := 56) X (TB.get tb_X9_at_ 27 rfl) rfl rfl (fun hc => ?_) (fun hc => ?_)
        · have e := (if_neg hc).symm.trans e
          refine V_iload_n (q := 57) X (TB.get tb_X9_at_ 32 rfl) rfl rfl rfl ?_
          by_cases hc0 : a3 = (0 : Int32)
          · have e := (if_pos hc0).symm.trans e
            rw [hc0]
            refine V_tabIn (q := 88) X (TB.get tb_X9_at_ 33 rfl) (by decide) (by decide) rfl rfl ?_
            refine V_aload_n (q := 89) X (TB.get tb_X9_at_ 34 rfl) rfl rfl rfl ?_
            refine V_aload_n (q := 90) X (TB.get tb_X9_at_ 35 rfl) rfl rfl rfl ?_
            obtain ⟨x9, ex9, e⟩ := bs e
            refine V_getR (q := 93) X (TB.get tb_X9_at_ 36 rfl) rfl lf_RX9_49 ex9 ?_
            refine V_iload_n (q := 94) X (TB.get tb_X9_at_ 37 rfl) rfl rfl rfl ?_
            refine V_iload_n (q := 95) X (TB.get tb_X9_at_ 38 rfl) rfl rfl rfl ?_
            obtain ⟨x10, ex10, e⟩ := bs e
            refine V_callS (q := 98) (As := [.int a1, .int a2]) (rest := [.ref x9, .ref a0]) (st' := [.int x10, .ref x9, .ref a0]) X (TB.get tb_X9_at_ 39 rfl) rfl cs_RX9_328 (ok_X9_at a1 a2 h6 x10 ex10) (Nat.le_of_ble_eq_true rfl) rfl rfl (Nat.le_of_ble_eq_true rfl) rfl ?_
            obtain ⟨x11, ex11, e⟩ := bs e
            refine V_iaload (q := 99) X (TB.get tb_X9_at_ 40 rfl) rfl ex11 ?_
            obtain ⟨p12, ep12, e⟩ := bs e
            refine V_callV (q := 102) (As := [.int x11]) (rest := []) (st' := [.int p12.1]) X (TB.get tb_X9_at_ 41 rfl) rfl cv_RX9_248 (ok_X9_gives a0 x11 h6 p12 ep12).1 (ok_X9_gives a0 x11 h6 p12 ep12).2 (Nat.le_of_ble_eq_true rfl) rfl rfl (Nat.le_of_ble_eq_true rfl) rfl ?_
            cases e
            exact V_iret X hr hlk (TB.get tb_X9_at_ 42 rfl)
          have e := (if_neg hc0).symm.trans e
          by_cases hc1 : a3 = (1 : Int32)
          · have e := (if_pos hc1).symm.trans e
            rw [hc1]
            refine V_tabIn (q := 103) X (TB.get tb_X9_at_ 33 rfl) (by decide) (by decide) rfl rfl ?_
            refine V_aload_n (q := 104) X (TB.get tb_X9_at_ 43 rfl) rfl rfl rfl ?_
            refine V_aload_n (q := 105) X (TB.get tb_X9_at_ 44 rfl) rfl rfl rfl ?_
            obtain ⟨x13, ex13, e⟩ := bs e
            refine V_getR (q := 108) X (TB.get tb_X9_at_ 45 rfl) rfl lf_RX9_52 ex13 ?_
            refine V_iload_n (q := 109) X (TB.get tb_X9_at_ 46 rfl) rfl rfl rfl ?_
            refine V_iload_n (q := 110) X (TB.get tb_X9_at_ 47 rfl) rfl rfl rfl ?_
            obtain ⟨x14, ex14, e⟩ := bs e
            refine V_callS (q := 113) (As := [.int a1, .int a2]) (rest := [.ref x13, .ref a0]) (st' := [.int x14, .ref x13, .ref a0]) X (TB.get tb_X9_at_ 48 rfl) rfl cs_RX9_328 (ok_X9_at a1 a2 h6 x14 ex14) (Nat.le_of_ble_eq_true rfl) rfl rfl (Nat.le_of_ble_eq_true rfl) rfl ?_
            obtain ⟨x15, ex15, e⟩ := bs e
            refine V_iaload (q := 114) X (TB.get tb_X9_at_ 49 rfl) rfl ex15 ?_
            obtain ⟨p16, ep16, e⟩ := bs e
            refine V_callV (q := 117) (As := [.int x15]) (rest := []) (st' := [.int p16.1]) X (TB.get tb_X9_at_ 50 rfl) rfl cv_RX9_248 (ok_X9_gives a0 x15 h6 p16 ep16).1 (ok_X9_gives a0 x15 h6 p16 ep16).2 (Nat.le_of_ble_eq_true rfl) rfl rfl (Nat.le_of_ble_eq_true rfl) rfl ?_
            cases e
            exact V_iret X hr hlk (TB.get tb_X9_at_ 51 rfl)
          have e := (if_neg hc1).symm.trans e
          by_cases hc2 : a3 = (2 : Int32)
          · have e := (if_pos hc2).symm.trans e
            rw [hc2]
            refine V_tabIn (q := 118) X (TB.get tb_X9_at_ 33 rfl) (by decide) (by decide) rfl rfl ?_
            refine V_aload_n (q := 119) X (TB.get tb_X9_at_ 52 rfl) rfl rfl rfl ?_
            refine V_aload_n (q := 120) X (TB.get tb_X9_at_ 53 rfl) rfl rfl rfl ?_
            obtain ⟨x17, ex17, e⟩ := bs e
            refine V_getR (q := 123) X (TB.get tb_X9_at_ 54 rfl) rfl lf_RX9_55 ex17 ?_
            refine V_iload_n (q := 124) X (TB.get tb_X9_at_ 55 rfl) rfl rfl rfl ?_
            refine V_iload_n (q := 125) X (TB.get tb_X9_at_ 56 rfl) rfl rfl rfl ?_
            obtain ⟨x18, ex18, e⟩ := bs e
            refine V_callS (q := 128) (As := [.int a1, .int a2]) (rest := [.ref x17, .ref a0]) (st' := [.int x18, .ref x17, .ref a0]) X (TB.get tb_X9_at_ 57 rfl) rfl cs_RX9_328 (ok_X9_at a1 a2 h6 x18 ex18) (Nat.le_of_ble_eq_true rfl) rfl rfl (Nat.le_of_ble_eq_true rfl) rfl ?_
            obtain ⟨x19, ex19, e⟩ := bs e
            refine V_iaload (q := 129) X (TB.get tb_X9_at_ 58 rfl) rfl ex19 ?_
            obtain ⟨p20, ep20, e⟩ := bs e
            refine V_callV (q := 132) (As := [.int x19]) (rest := []) (st' := [.int p20.1]) X (TB.get tb_X9_at_ 59 rfl) rfl cv_RX9_248 (ok_X9_gives a0 x19 h6 p20 ep20).1 (ok_X9_gives a0 x19 h6 p20 ep20).2 (Nat.le_of_ble_eq_true rfl) rfl rfl (Nat.le_of_ble_eq_true rfl) rfl ?_
            cases e
            exact V_iret X hr hlk (TB.get tb_X9_at_ 60 rfl)
          have e := (if_neg hc2).symm.trans e
          by_cases hc3 : a3 = (3 : Int32)
          · have e := (if_pos hc3).symm.trans e
            rw [hc3]
            refine V_tabIn (q := 133) X (TB.get tb_X9_at_ 33 rfl) (by decide) (by decide) rfl rfl ?_
            refine V_aload_n (q := 134) X (TB.get tb_X9_at_ 61 rfl) rfl rfl rfl ?_
            refine V_aload_n (q := 135) X (TB.get tb_X9_at_ 62 rfl) rfl rfl rfl ?_
            obtain ⟨x21, ex21, e⟩ := bs e
            refine V_getR (q := 138) X (TB.get tb_X9_at_ 63 rfl) rfl lf_RX9_58 ex21 ?_
            refine V_iload_n (q := 139) X (TB.get tb_X9_at_ 64 rfl) rfl rfl rfl ?_
            refine V_iload_n (q := 140) X (TB.get tb_X9_at_ 65 rfl) rfl rfl rfl ?_
            obtain ⟨x22, ex22, e⟩ := bs e
            refine V_callS (q := 143) (As := [.int a1, .int a2]) (rest := [.ref x21, .ref a0]) (st' := [.int x22, .ref x21, .ref a0]) X (TB.get tb_X9_at_ 66 rfl) rfl cs_RX9_328 (ok_X9_at a1 a2 h6 x22 ex22) (Nat.le_of_ble_eq_true rfl) rfl rfl (Nat.le_of_ble_eq_true rfl) rfl ?_
            obtain ⟨x23, ex23, e⟩ := bs e
            refine V_iaload (q := 144) X (TB.get tb_X9_at_ 67 rfl) rfl ex23 ?_
            obtain ⟨p24, ep24, e⟩ := bs e
            refine V_callV (q := 147) (As := [.int x23]) (rest := []) (st' := [.int p24.1]) X (TB.get tb_X9_at_ 68 rfl) rfl cv_RX9_248 (ok_X9_gives a0 x23 h6 p24 ep24).1 (ok_X9_gives a0 x23 h6 p24 ep24).2 (Nat.le_of_ble_eq_true rfl) rfl rfl (Nat.le_of_ble_eq_true rfl) rfl ?_
            cases e
            exact V_iret X hr hlk (TB.get tb_X9_at_ 69 rfl)
          have e := (if_neg hc3).symm.trans e
          have hout : a3.toInt < 0 ∨ 3 < a3.toInt := tab_out a3 (0) (3) [0, 1, 2, 3] (by decide +kernel) (fun v hv => by simp only [List.mem_cons, List.not_mem_nil, or_false] at hv; rcases hv with rfl | rfl | rfl | rfl <;> assumption)
          refine V_tabOut (q := 148) X (TB.get tb_X9_at_ 33 rfl) hout rfl ?_
          refine V_aload_n (q := 149) X (TB.get tb_X9_at_ 70 rfl) rfl rfl rfl ?_
          refine V_aload_n (q := 150) X (TB.get tb_X9_at_ 71 rfl) rfl rfl rfl ?_
          refine V_iload_n (q := 151) X (TB.get tb_X9_at_ 72 rfl) rfl rfl rfl ?_
          obtain ⟨p25, ep25, e⟩ := bs e
          refine V_callV (q := 154) (As := [.int a1]) (rest := [.ref a0]) (st' := [.int p25.1, .ref a0]) X (TB.get tb_X9_at_ 73 rfl) rfl cv_RX9_376 (ok_X9_whyAt fu a0 a1 h6 p25 ep25).1 (ok_X9_whyAt fu a0 a1 h6 p25 ep25).2 (Nat.le_of_ble_eq_true rfl) rfl rfl (Nat.le_of_ble_eq_true rfl) rfl ?_
          obtain ⟨p26, ep26, e⟩ := bs e
          refine V_callV (q := 157) (As := [.int p25.1]) (rest := []) (st' := [.int p26.1]) X (TB.get tb_X9_at_ 74 rfl) rfl cv_RX9_248 (ok_X9_gives a0 p25.1 p25.2 p26 ep26).1 (ok_X9_gives a0 p25.1 p25.2 p26 ep26).2 (Nat.le_of_ble_eq_true rfl) rfl rfl (Nat.le_of_ble_eq_true rfl) rfl ?_
          cases e
          exact V_iret X hr hlk (TB.get tb_X9_at_ 75 rfl)
        · have e := (if_pos hc).symm.trans e
          refine V_aload_n (q := 51) X (TB.get tb_X9_at_ 28 rfl) rfl rfl rfl ?_
          refine V_iconst (v := 5) (q := 52) X (TB.get tb_X9_at_ 29 rfl) c_iconst_5 rfl ?_
          obtain ⟨p27, ep27, e⟩ := bs e
          refine V_callV (q := 55) (As := [.int (5 : Int32)]) (rest := []) (st' := [.int p27.1]) X (TB.get tb_X9_at_ 30 rfl) rfl cv_RX9_242 (ok_X9_refuse a0 (5 : Int32) h6 p27 ep27).1 (ok_X9_refuse a0 (5 : Int32) h6 p27 ep27).2 (Nat.le_of_ble_eq_true rfl) rfl rfl (Nat.le_of_ble_eq_true rfl) rfl ?_
          cases e
          exact V_iret X hr hlk (TB.get tb_X9_at_ 31 rfl)
      · have e := (if_pos hc).symm.trans e
        refine V_sub (lv' := [(0, .ref a0)]) [0] rfl ?_
        exact Jj3 e
  · have e := (if_pos hc).symm.trans e
    refine V_aload_n (q := 10) X (TB.get tb_X9_at_ 5 rfl) rfl rfl rfl ?_
    refine V_iconst (v := 1) (q := 11) X (TB.get tb_X9_at_ 6 rfl) c_iconst_1 rfl ?_
    obtain ⟨p28, ep28, e⟩ := bs e
    refine V_callV (q := 14) (As := [.int (1 : Int32)]) (rest := []) (st' := [.int p28.1]) X (TB.get tb_X9_at_ 7 rfl) rfl cv_RX9_242 (ok_X9_refuse a0 (1 : Int32) h p28 ep28).1 (ok_X9_refuse a0 (1 : Int32) h p28 ep28).2 (Nat.le_of_ble_eq_true rfl) rfl rfl (Nat.le_of_ble_eq_true rfl) rfl ?_
    cases e
    exact V_iret X hr hlk (TB.get tb_X9_at_ 8 rfl)
set_option maxRecDepth 100000 in
set_option maxHeartbeats 4000000 in
theorem ok_X9_isMended (fu : Nat) (a0 : Nat) (a1 : Int32) (h : Hp) (res : Int32 × Hp) (e : MX9_isMended fu a0 a1 h = some res) : CK yX9_isMended cX9_isMended 3 (some .boolean) 14 [.ref a0, .int a1] h (some (.int res.1)) res.2 ∧ (h.1 a0).1 = 9 := by
  obtain ⟨hcl, e⟩ := h_g_inv e
  refine ⟨CK_of pn_RX9 cm_X9_isMended (Nat.le_of_ble_eq_true rfl) ?_, hcl⟩
  intro l D tc B nn p en s m args below meth c X hr hlk
  replace X : CX p (rmD 14) s m args c cX9_isMended 3 RX9 D tc 14 := X
  show V p l en (rmD 14) s m args below meth c 3 D tc B nn (Ar B nn) s.heap 0 0 (MQ below (QC D tc B nn (Ar B nn) (some (.int res.1)) res.2) args s 0 0 (Ar B nn)) h 0 [(0, .ref a0), (1, .int a1)] []
  refine V_aload_n (q := 1) X (TB.get tb_X9_isMended 0 rfl) rfl rfl rfl ?_
  obtain ⟨h1, eh1, e⟩ := bs e
  refine V_callV (q := 4) (As := []) (rest := []) (st' := []) X (TB.get tb_X9_isMended 1 rfl) rfl cv_RX9_316 (ok_X9_allIn fu a0 h h1 eh1).1 (ok_X9_allIn fu a0 h h1 eh1).2 (Nat.le_of_ble_eq_true rfl) rfl rfl (Nat.le_of_ble_eq_true rfl) rfl ?_
  refine V_aload_n (q := 5) X (TB.get tb_X9_isMended 2 rfl) rfl rfl rfl ?_
  obtain ⟨x2, ex2, e⟩ := bs e
  refine V_getR (q := 8) X (TB.get tb_X9_isMended 3 rfl) rfl lf_RX9_43 ex2 ?_
  refine V_iload_n (q := 9) X (TB.get tb_X9_isMended 4 rfl) rfl rfl rfl ?_
  refine V_iconst (v := 1) (q := 10) X (TB.get tb_X9_isMended 5 rfl) c_iconst_1 rfl ?_
  obtain ⟨h3, eh3, e⟩ := bs e
  refine V_bastoreZ (q := 11) X (TB.get tb_X9_isMended 6 rfl) rfl eh3 ?_
  refine V_iload_n (q := 12) X (TB.get tb_X9_isMended 7 rfl) rfl rfl rfl ?_
  refine V_iconst (v := 1) (q := 13) X (TB.get tb_X9_isMended 8 rfl) c_iconst_1 rfl ?_
  refine V_iadd (q := 14) X (TB.get tb_X9_isMended 9 rfl) rfl ?_
  refine V_istore_n (q := 15) (lv' := [(2, .int (a1 + (1 : Int32))), (0, .ref a0), (1, .int a1)]) X (TB.get tb_X9_isMended 10 rfl) rfl rfl (Nat.le_of_ble_eq_true rfl) rfl ?_
  refine jn_elim (P := (fun (k : Hp → Option (Int32 × Hp)) => ∀ (h4 : Hp), k h4 = some res → V p l en (rmD 14) s m args below meth c 3 D tc B nn (Ar B nn) s.heap 0 0 (MQ below (QC D tc B nn (Ar B nn) (some (.int res.1)) res.2) args s 0 0 (Ar B nn)) h4 72 [(0, .ref a0)] [])) e ?_ (fun j5 Jj5 e => ?_)
  · intro h4 e
    refine V_aload_n (q := 73) X (TB.get tb_X9_isMended 42 rfl) rfl rfl rfl ?_
    obtain ⟨h6, eh6, e⟩ := bs e
    refine V_callV (q := 76) (As := []) (rest := []) (st' := []) X (TB.get tb_X9_isMended 43 rfl) rfl cv_RX9_382 (ok_X9_checks fu a0 h4 h6 eh6).1 (ok_X9_checks fu a0 h4 h6 eh6).2 (Nat.le_of_ble_eq_true rfl) rfl rfl (Nat.le_of_ble_eq_true rfl) rfl ?_
    refine V_aload_n (q := 77) X (TB.get tb_X9_isMended 44 rfl) rfl rfl rfl ?_
    obtain ⟨x7, ex7, e⟩ := bs e
    refine V_getI (q := 80) X (TB.get tb_X9_isMended 45 rfl) rfl lf_RX9_367 ex7 ?_
    refine V_if_ne (q := 83) (t := 87) X (TB.get tb_X9_isMended 46 rfl) rfl rfl (fun hc => ?_) (fun hc => ?_)
    · have e := (if_neg hc).symm.trans e
      refine V_iconst (v := 0) (q := 88) X (TB.get tb_X9_isMended 49 rfl) c_iconst_0 rfl ?_
      cases e
      exact V_zret X hr hlk (Or.inl rfl) (TB.get tb_X9_isMended 50 rfl)
    · have e := (if_pos hc).symm.trans e
      refine V_iconst (v := 1) (q := 84) X (TB.get tb_X9_isMended 47 rfl) c_iconst_1 rfl ?_
      refine V_goto (q := 88) X (TB.get tb_X9_isMended 48 rfl) rfl ?_
      cases e
      exact V_zret X hr hlk (Or.inr rfl) (TB.get tb_X9_isMended 50 rfl)
  refine V_sub (lv' := [(0, .ref a0), (2, .int (a1 + (1 : Int32)))]) [1, 0] rfl ?_
  refine wh2_elim (P := fun v8 h9 => V p l en (rmD 14) s m args below meth c 3 D tc B nn (Ar B nn) s.heap 0 0 (MQ below (QC D tc B nn (Ar B nn) (some (.int res.1)) res.2) args s 0 0 (Ar B nn)) h9 15 [(0, .ref a0), (2, .int v8)] []) (f := fu) ?_ e
  intro self10 v8 h9 ihself10 e
  unfold MX9_isMended_B15 at e
  refine V_iload_n (q := 16) X (TB.get tb_X9_isMended 11 rfl) rfl rfl rfl ?_
  refine V_aload_n (q := 17) X (TB.get tb_X9_isMended 12 rfl) rfl rfl rfl ?_
  obtain ⟨x11, ex11, e⟩ := bs e
  refine V_callV (q := 20) (As := []) (rest := [.int v8]) (st' := [.int x11, .int v8]) X (TB.get tb_X9_isMended 13 rfl) rfl cv_RX9_298 (ok_X9_statements a0 h9 x11 ex11).1 (ok_X9_statements a0 h9 x11 ex11).2 (Nat.le_of_ble_eq_true rfl) rfl rfl (Nat.le_of_ble_eq_true rfl) rfl ?_
  refine V_icmp_ge (q := 23) (t := 72) X (TB.get tb_X9_isMended 14 rfl) rfl rfl (fun hc => ?_) (fun hc => ?_)
  · have e := (if_pos hc).symm.trans e
    refine V_sub (lv' := [(0, .ref a0)]) [0] rfl ?_
    exact Jj5 _ e
  · have e := (if_neg hc).symm.trans e
    refine V_aload_n (q := 24) X (TB.get tb_X9_isMended 15 rfl) rfl rfl rfl ?_
    obtain ⟨x12, ex12, e⟩ := bs e
    refine V_getR (q := 27) X (TB.get tb_X9_isMended 16 rfl) rfl lf_RX9_43 ex12 ?_
    refine V_iload_n (q := 28) X (TB.get tb_X9_isMended 17 rfl) rfl rfl rfl ?_
    refine V_aload_n (q := 29) X (TB.get tb_X9_isMended 18 rfl) rfl rfl rfl ?_
    obtain ⟨x13, ex13, e⟩ := bs e
    refine V_getR (q := 32) X (TB.get tb_X9_isMended 19 rfl) rfl lf_RX9_13 ex13 ?_
    refine V_sipush (v := 493) (q := 35) X (TB.get tb_X9_isMended 20 rfl) c_sipush_493 rfl ?_
    refine V_iload_n (q := 36) X (TB.get tb_X9_isMended 21 rfl) rfl rfl rfl ?_
    refine V_iadd (q := 37) X (TB.get tb_X9_isMended 22 rfl) rfl ?_
    obtain ⟨x14, ex14, e⟩ := bs e
    refine V_iaload (q := 38) X (TB.get tb_X9_isMended 23 rfl) rfl ex14 ?_
    refine V_iconst (v := -1) (q := 39) X (TB.get tb_X9_isMended 24 rfl) c_iconst_m1 rfl ?_
    refine jn_elim (P := (fun (k : Int32 → Option (Int32 × Hp)) => ∀ (w15 : Int32), k w15 = some res → V p l en (rmD 14) s m args below meth c 3 D tc B nn (Ar B nn) s.heap 0 0 (MQ below (QC D tc B nn (Ar B nn) (some (.int res.1)) res.2) args s 0 0 (Ar B nn)) h9 65 [(0, .ref a0), (2, .int v8)] [.int w15, .int v8, .ref x12])) e ?_ (fun j16 Jj16 e => ?_)
    · intro w15 e
      obtain ⟨h17, eh17, e⟩ := bs e
      refine V_bastoreZ (q := 66) X (TB.get tb_X9_isMended 39 rfl) rfl eh17 ?_
      refine V_iinc (q := 69) (v := v8 + (1 : Int32)) (lv' := [(2, .int (v8 + (1 : Int32))), (0, .ref a0)]) X (TB.get tb_X9_isMended 40 rfl) rfl rfl (by rw [c_iconst_1]) (Nat.le_of_ble_eq_true rfl) rfl ?_
      refine V_goto (q := 15) X (TB.get tb_X9_isMended 41 rfl) rfl ?_
      refine V_sub (lv' := [(0, .ref a0), (2, .int (v8 + (1 : Int32)))]) [1, 0] rfl ?_
      exact ihself10 _ _ e
    refine jn_elim (P := (fun (k : Option (Int32 × Hp)) => k = some res → V p l en (rmD 14) s m args below meth c 3 D tc B nn (Ar B nn) s.heap 0 0 (MQ below (QC D tc B nn (Ar B nn) (some (.int res.1)) res.2) args s 0 0 (Ar B nn)) h9 64 [(0, .ref a0), (2, .int v8)] [.int v8, .ref x12])) e ?_ (fun j18 Jj18 e => ?_)
    · intro e
      refine V_iconst (v := 0) (q := 65) X (TB.get tb_X9_isMended 38 rfl) c_iconst_0 rfl ?_
      exact Jj16 _ e
    refine V_icmp_eq (q := 42) (t := 64) X (TB.get tb_X9_isMended 25 rfl) rfl rfl (fun hc => ?_) (fun hc => ?_)
    · have e := (if_pos hc).symm.trans e
      exact Jj18 e
    · have e := (if_neg hc).symm.trans e
      refine V_aload_n (q := 43) X (TB.get tb_X9_isMended 26 rfl) rfl rfl rfl ?_
      refine V_getR (q := 46) X (TB.get tb_X9_isMended 27 rfl) rfl lf_RX9_43 ex12 ?_
      refine V_aload_n (q := 47) X (TB.get tb_X9_isMended 28 rfl) rfl rfl rfl ?_
      refine V_getR (q := 50) X (TB.get tb_X9_isMended 29 rfl) rfl lf_RX9_13 ex13 ?_
      refine V_sipush (v := 493) (q := 53) X (TB.get tb_X9_isMended 30 rfl) c_sipush_493 rfl ?_
      refine V_iload_n (q := 54) X (TB.get tb_X9_isMended 31 rfl) rfl rfl rfl ?_
      refine V_iadd (q := 55) X (TB.get tb_X9_isMended 32 rfl) rfl ?_
      refine V_iaload (q := 56) X (TB.get tb_X9_isMended 33 rfl) rfl ex14 ?_
      obtain ⟨x19, ex19, e⟩ := bs e
      refine V_baloadZ (q := 57) X (TB.get tb_X9_isMended 34 rfl) rfl ex19 ?_
      refine V_if_eq (q := 60) (t := 64) X (TB.get tb_X9_isMended 35 rfl) rfl rfl (fun hc => ?_) (fun hc => ?_)
      · have e := (if_pos hc).symm.trans e
        exact Jj18 e
      · have e := (if_neg hc).symm.trans e
        refine V_iconst (v := 1) (q := 61) X (TB.get tb_X9_isMended 36 rfl) c_iconst_1 rfl ?_
        refine V_goto (q := 65) X (TB.get tb_X9_isMended 37 rfl) rfl ?_
        exact Jj16 _ e
set_option maxRecDepth 100000 in
set_option maxHeartbeats 4000000 in
theorem ok_X9_without (fu : Nat) (a0 : Nat) (a1 : Int32) (h : Hp) (res : Int32 × Hp) (e : MX9_without fu a0 a1 h = some res) : CK yX9_without cX9_without 2 (some .int) 15 [.ref a0, .int a1] h (some (.int res.1)) res.2 ∧ (h.1 a0).1 = 9 := by
  obtain ⟨hcl, e⟩ := h_g_inv e
  refine ⟨CK_of pn_RX9 cm_X9_without (Nat.le_of_ble_eq_true rfl) ?_, hcl⟩
  intro l D tc B nn p en s m args below meth c X hr hlk
  replace X : CX p (rmD 15) s m args c cX9_without 2 RX9 D tc 15 := X
  show V p l en (rmD 15) s m args below meth c 2 D tc B nn (Ar B nn) s.heap 0 0 (MQ below (QC D tc B nn (Ar B nn) (some (.int res.1)) res.2) args s 0 0 (Ar B nn)) h 0 [(0, .ref a0), (1, .int a1)] []
  refine V_aload_n (q := 1) X (TB.get tb_X9_without 0 rfl) rfl rfl rfl ?_
  refine V_iload_n (q := 2) X (TB.get tb_X9_without 1 rfl) rfl rfl rfl ?_
  obtain ⟨x1, ex1, e⟩ := bs e
  refine V_callV (q := 5) (As := [.int a1]) (rest := []) (st' := [.int x1]) X (TB.get tb_X9_without 2 rfl) rfl cv_RX9_313 (ok_X9_isStatementAt a0 a1 h x1 ex1).1 (ok_X9_isStatementAt a0 a1 h x1 ex1).2 (Nat.le_of_ble_eq_true rfl) rfl rfl (Nat.le_of_ble_eq_true rfl) rfl ?_
  refine V_if_eq (q := 8) (t := 28) X (TB.get tb_X9_without 3 rfl) rfl rfl (fun hc => ?_) (fun hc => ?_)
  · have e := (if_pos hc).symm.trans e
    refine V_aload_n (q := 29) X (TB.get tb_X9_without 14 rfl) rfl rfl rfl ?_
    refine V_iconst (v := 2) (q := 30) X (TB.get tb_X9_without 15 rfl) c_iconst_2 rfl ?_
    obtain ⟨p2, ep2, e⟩ := bs e
    refine V_callV (q := 33) (As := [.int (2 : Int32)]) (rest := []) (st' := [.int p2.1]) X (TB.get tb_X9_without 16 rfl) rfl cv_RX9_242 (ok_X9_refuse a0 (2 : Int32) h p2 ep2).1 (ok_X9_refuse a0 (2 : Int32) h p2 ep2).2 (Nat.le_of_ble_eq_true rfl) rfl rfl (Nat.le_of_ble_eq_true rfl) rfl ?_
    cases e
    exact V_iret X hr hlk (TB.get tb_X9_without 17 rfl)
  · have e := (if_neg hc).symm.trans e
    refine V_aload_n (q := 9) X (TB.get tb_X9_without 4 rfl) rfl rfl rfl ?_
    refine V_aload_n (q := 10) X (TB.get tb_X9_without 5 rfl) rfl rfl rfl ?_
    refine V_iload_n (q := 11) X (TB.get tb_X9_without 6 rfl) rfl rfl rfl ?_
    obtain ⟨p3, ep3, e⟩ := bs e
    refine V_callV (q := 14) (As := [.int a1]) (rest := [.ref a0]) (st' := [.int p3.1, .ref a0]) X (TB.get tb_X9_without 7 rfl) rfl cv_RX9_391 (ok_X9_isMended fu a0 a1 h p3 ep3).1 (ok_X9_isMended fu a0 a1 h p3 ep3).2 (Nat.le_of_ble_eq_true rfl) rfl rfl (Nat.le_of_ble_eq_true rfl) rfl ?_
    refine jn_elim (P := (fun (k : Int32 → Option (Int32 × Hp)) => ∀ (w4 : Int32), k w4 = some res → V p l en (rmD 15) s m args below meth c 2 D tc B nn (Ar B nn) s.heap 0 0 (MQ below (QC D tc B nn (Ar B nn) (some (.int res.1)) res.2) args s 0 0 (Ar B nn)) p3.2 22 [] [.int w4, .ref a0])) e ?_ (fun j5 Jj5 e => ?_)
    · intro w4 e
      obtain ⟨p6, ep6, e⟩ := bs e
      refine V_callV (q := 25) (As := [.int w4]) (rest := []) (st' := [.int p6.1]) X (TB.get tb_X9_without 12 rfl) rfl cv_RX9_248 (ok_X9_gives a0 w4 p3.2 p6 ep6).1 (ok_X9_gives a0 w4 p3.2 p6 ep6).2 (Nat.le_of_ble_eq_true rfl) rfl rfl (Nat.le_of_ble_eq_true rfl) rfl ?_
      refine V_goto (q := 33) X (TB.get tb_X9_without 13 rfl) rfl ?_
      cases e
      exact V_iret X hr hlk (TB.get tb_X9_without 17 rfl)
    refine V_if_eq (q := 17) (t := 21) X (TB.get tb_X9_without 8 rfl) rfl rfl (fun hc => ?_) (fun hc => ?_)
    · have e := (if_pos hc).symm.trans e
      refine V_iconst (v := 0) (q := 22) X (TB.get tb_X9_without 11 rfl) c_iconst_0 rfl ?_
      refine V_sub (lv' := []) [] rfl ?_
      exact Jj5 _ e
    · have e := (if_neg hc).symm.trans e
      refine V_iconst (v := 1) (q := 18) X (TB.get tb_X9_without 9 rfl) c_iconst_1 rfl ?_
      refine V_goto (q := 22) X (TB.get tb_X9_without 10 rfl) rfl ?_
      refine V_sub (lv' := []) [] rfl ?_
      exact Jj5 _ e
set_option maxRecDepth 100000 in
set_option maxHeartbeats 4000000 in
theorem ok_X9_mend (fu : Nat) (a0 : Nat) (h : Hp) (res : Int32 × Hp) (e : MX9_mend fu a0 h = some res) : CK yX9_mend cX9_mend 2 (some .int) 15 [.ref a0] h (some (.int res.1)) res.2 ∧ (h.1 a0).1 = 9 := by
  obtain ⟨hcl, e⟩ := h_g_inv e
  refine ⟨CK_of pn_RX9 cm_X9_mend (Nat.le_of_ble_eq_true rfl) ?_, hcl⟩
  intro l D tc B nn p en s m args below meth c X hr hlk
  replace X : CX p (rmD 15) s m args c cX9_mend 2 RX9 D tc 15 := X
  show V p l en (rmD 15) s m args below meth c 2 D tc B nn (Ar B nn) s.heap 0 0 (MQ below (QC D tc B nn (Ar B nn) (some (.int res.1)) res.2) args s 0 0 (Ar B nn)) h 0 [(0, .ref a0)] []
  refine V_aload_n (q := 1) X (TB.get tb_X9_mend 0 rfl) rfl rfl rfl ?_
  obtain ⟨h1, eh1, e⟩ := bs e
  refine V_callV (q := 4) (As := []) (rest := []) (st' := []) X (TB.get tb_X9_mend 1 rfl) rfl cv_RX9_385 (ok_X9_checksAll fu a0 h h1 eh1).1 (ok_X9_checksAll fu a0 h h1 eh1).2 (Nat.le_of_ble_eq_true rfl) rfl rfl (Nat.le_of_ble_eq_true rfl) rfl ?_
  refine V_aload_n (q := 5) X (TB.get tb_X9_mend 2 rfl) rfl rfl rfl ?_
  obtain ⟨x2, ex2, e⟩ := bs e
  refine V_getI (q := 8) X (TB.get tb_X9_mend 3 rfl) rfl lf_RX9_367 ex2 ?_
  refine V_if_ne (q := 11) (t := 17) X (TB.get tb_X9_mend 4 rfl) rfl rfl (fun hc => ?_) (fun hc => ?_)
  · have e := (if_neg hc).symm.trans e
    refine V_iconst (v := 0) (q := 18) X (TB.get tb_X9_mend 9 rfl) c_iconst_0 rfl ?_
    refine V_istore_n (q := 19) (lv' := [(1, .int (0 : Int32)), (0, .ref a0)]) X (TB.get tb_X9_mend 10 rfl) rfl rfl (Nat.le_of_ble_eq_true rfl) rfl ?_
    refine jn_elim (P := (fun (k : Hp → Option (Int32 × Hp)) => ∀ (h3 : Hp), k h3 = some res → V p l en (rmD 15) s m args below meth c 2 D tc B nn (Ar B nn) s.heap 0 0 (MQ below (QC D tc B nn (Ar B nn) (some (.int res.1)) res.2) args s 0 0 (Ar B nn)) h3 47 [(0, .ref a0)] [])) e ?_ (fun j4 Jj4 e => ?_)
    · intro h3 e
      refine V_aload_n (q := 48) X (TB.get tb_X9_mend 25 rfl) rfl rfl rfl ?_
      refine V_iconst (v := 5) (q := 49) X (TB.get tb_X9_mend 26 rfl) c_iconst_5 rfl ?_
      obtain ⟨p5, ep5, e⟩ := bs e
      refine V_callV (q := 52) (As := [.int (5 : Int32)]) (rest := []) (st' := [.int p5.1]) X (TB.get tb_X9_mend 27 rfl) rfl cv_RX9_242 (ok_X9_refuse a0 (5 : Int32) h3 p5 ep5).1 (ok_X9_refuse a0 (5 : Int32) h3 p5 ep5).2 (Nat.le_of_ble_eq_true rfl) rfl rfl (Nat.le_of_ble_eq_true rfl) rfl ?_
      cases e
      exact V_iret X hr hlk (TB.get tb_X9_mend 28 rfl)
    refine jn_elim (P := (fun (k : Int32 → Hp → Option (Int32 × Hp)) => ∀ (v6 : Int32) (h7 : Hp), k v6 h7 = some res → V p l en (rmD 15) s m args below meth c 2 D tc B nn (Ar B nn) s.heap 0 0 (MQ below (QC D tc B nn (Ar B nn) (some (.int res.1)) res.2) args s 0 0 (Ar B nn)) h7 35 [(0, .ref a0), (1, .int v6)] [])) e ?_ (fun j8 Jj8 e => ?_)
    · intro v6 h7 e
      refine V_aload_n (q := 36) X (TB.get tb_X9_mend 19 rfl) rfl rfl rfl ?_
      refine V_iload_n (q := 37) X (TB.get tb_X9_mend 20 rfl) rfl rfl rfl ?_
      obtain ⟨p9, ep9, e⟩ := bs e
      refine V_callV (q := 40) (As := [.int v6]) (rest := []) (st' := [.int p9.1]) X (TB.get tb_X9_mend 21 rfl) rfl cv_RX9_248 (ok_X9_gives a0 v6 h7 p9 ep9).1 (ok_X9_gives a0 v6 h7 p9 ep9).2 (Nat.le_of_ble_eq_true rfl) rfl rfl (Nat.le_of_ble_eq_true rfl) rfl ?_
      cases e
      exact V_iret X hr hlk (TB.get tb_X9_mend 22 rfl)
    refine V_sub (lv' := [(0, .ref a0), (1, .int (0 : Int32))]) [1, 0] rfl ?_
    refine wh2_elim (P := fun v10 h11 => V p l en (rmD 15) s m args below meth c 2 D tc B nn (Ar B nn) s.heap 0 0 (MQ below (QC D tc B nn (Ar B nn) (some (.int res.1)) res.2) args s 0 0 (Ar B nn)) h11 19 [(0, .ref a0), (1, .int v10)] []) (f := fu) ?_ e
    intro self12 v10 h11 ihself12 e
    unfold MX9_mend_B19 at e
    refine V_iload_n (q := 20) X (TB.get tb_X9_mend 11 rfl) rfl rfl rfl ?_
    refine V_aload_n (q := 21) X (TB.get tb_X9_mend 12 rfl) rfl rfl rfl ?_
    obtain ⟨x13, ex13, e⟩ := bs e
    refine V_callV (q := 24) (As := []) (rest := [.int v10]) (st' := [.int x13, .int v10]) X (TB.get tb_X9_mend 13 rfl) rfl cv_RX9_298 (ok_X9_statements a0 h11 x13 ex13).1 (ok_X9_statements a0 h11 x13 ex13).2 (Nat.le_of_ble_eq_true rfl) rfl rfl (Nat.le_of_ble_eq_true rfl) rfl ?_
    refine V_icmp_ge (q := 27) (t := 47) X (TB.get tb_X9_mend 14 rfl) rfl rfl (fun hc => ?_) (fun hc => ?_)
    · have e := (if_pos hc).symm.trans e
      refine V_sub (lv' := [(0, .ref a0)]) [0] rfl ?_
      exact Jj4 _ e
    · have e := (if_neg hc).symm.trans e
      refine V_aload_n (q := 28) X (TB.get tb_X9_mend 15 rfl) rfl rfl rfl ?_
      refine V_iload_n (q := 29) X (TB.get tb_X9_mend 16 rfl) rfl rfl rfl ?_
      obtain ⟨p14, ep14, e⟩ := bs e
      refine V_callV (q := 32) (As := [.int v10]) (rest := []) (st' := [.int p14.1]) X (TB.get tb_X9_mend 17 rfl) rfl cv_RX9_391 (ok_X9_isMended fu a0 v10 h11 p14 ep14).1 (ok_X9_isMended fu a0 v10 h11 p14 ep14).2 (Nat.le_of_ble_eq_true rfl) rfl rfl (Nat.le_of_ble_eq_true rfl) rfl ?_
      refine V_if_eq (q := 35) (t := 41) X (TB.get tb_X9_mend 18 rfl) rfl rfl (fun hc => ?_) (fun hc => ?_)
      · have e := (if_pos hc).symm.trans e
        refine V_iinc (q := 44) (v := v10 + (1 : Int32)) (lv' := [(1, .int (v10 + (1 : Int32))), (0, .ref a0)]) X (TB.get tb_X9_mend 23 rfl) rfl rfl (by rw [c_iconst_1]) (Nat.le_of_ble_eq_true rfl) rfl ?_
        refine V_goto (q := 19) X (TB.get tb_X9_mend 24 rfl) rfl ?_
        refine V_sub (lv' := [(0, .ref a0), (1, .int (v10 + (1 : Int32)))]) [1, 0] rfl ?_
        exact ihself12 _ _ e
      · have e := (if_neg hc).symm.trans e
        exact Jj8 _ _ e
  · have e := (if_pos hc).symm.trans e
    refine V_aload_n (q := 12) X (TB.get tb_X9_mend 5 rfl) rfl rfl rfl ?_
    refine V_iconst (v := 5) (q := 13) X (TB.get tb_X9_mend 6 rfl) c_iconst_5 rfl ?_
    obtain ⟨p15, ep15, e⟩ := bs e
    refine V_callV (q := 16) (As := [.int (5 : Int32)]) (rest := []) (st' := [.int p15.1]) X (TB.get tb_X9_mend 7 rfl) rfl cv_RX9_242 (ok_X9_refuse a0 (5 : Int32) h1 p15 ep15).1 (ok_X9_refuse a0 (5 : Int32) h1 p15 ep15).2 (Nat.le_of_ble_eq_true rfl) rfl rfl (Nat.le_of_ble_eq_true rfl) rfl ?_
    cases e
    exact V_iret X hr hlk (TB.get tb_X9_mend 8 rfl)
set_option maxRecDepth 100000 in
set_option maxHeartbeats 4000000 in
theorem ok_X9_isAlone (fu : Nat) (a0 : Nat) (a1 : Int32) (h : Hp) (res : Int32) (e : MX9_isAlone fu a0 a1 h = some res) : CK yX9_isAlone cX9_isAlone 3 (some .boolean) 0 [.ref a0, .int a1] h (some (.int res)) h ∧ (h.1 a0).1 = 9 := by
  obtain ⟨hcl, e⟩ := h_g_inv e
  refine ⟨CK_of pn_RX9 cm_X9_isAlone (Nat.le_of_ble_eq_true rfl) ?_, hcl⟩
  intro l D tc B nn p en s m args below meth c X hr hlk
  replace X : CX p (rmD 0) s m args c cX9_isAlone 3 RX9 D tc 0 := X
  show V p l en (rmD 0) s m args below meth c 3 D tc B nn (Ar B nn) s.heap 0 0 (MQ below (QC D tc B nn (Ar B nn) (some (.int res)) h) args s 0 0 (Ar B nn)) h 0 [(0, .ref a0), (1, .int a1)] []
  refine V_iconst (v := 0) (q := 1) X (TB.get tb_X9_isAlone 0 rfl) c_iconst_0 rfl ?_
  refine V_istore_n (q := 2) (lv' := [(2, .int (0 : Int32)), (0, .ref a0), (1, .int a1)]) X (TB.get tb_X9_isAlone 1 rfl) rfl rfl (Nat.le_of_ble_eq_true rfl) rfl ?_
  refine V_sub (lv' := [(0, .ref a0), (1, .int a1), (2, .int (0 : Int32))]) [1, 2, 0] rfl ?_
  refine wh1_elim (P := fun v1 => V p l en (rmD 0) s m args below meth c 3 D tc B nn (Ar B nn) s.heap 0 0 (MQ below (QC D tc B nn (Ar B nn) (some (.int res)) h) args s 0 0 (Ar B nn)) h 2 [(0, .ref a0), (1, .int a1), (2, .int v1)] []) (f := fu) ?_ e
  intro self2 v1 ihself2 e
  unfold MX9_isAlone_B2 at e
  refine V_iload_n (q := 3) X (TB.get tb_X9_isAlone 2 rfl) rfl rfl rfl ?_
  refine V_bipush (v := 6) (q := 5) X (TB.get tb_X9_isAlone 3 rfl) c_bipush_6 rfl ?_
  refine V_icmp_ge (q := 8) (t := 36) X (TB.get tb_X9_isAlone 4 rfl) rfl rfl (fun hc => ?_) (fun hc => ?_)
  · have e := (if_pos hc).symm.trans e
    refine V_iconst (v := 1) (q := 37) X (TB.get tb_X9_isAlone 21 rfl) c_iconst_1 rfl ?_
    cases e
    exact V_zret X hr hlk (Or.inr rfl) (TB.get tb_X9_isAlone 22 rfl)
  · have e := (if_neg hc).symm.trans e
    refine V_iload_n (q := 9) X (TB.get tb_X9_isAlone 5 rfl) rfl rfl rfl ?_
    refine V_iload_n (q := 10) X (TB.get tb_X9_isAlone 6 rfl) rfl rfl rfl ?_
    refine jn_elim (P := (fun (k : Option (Int32)) => k = some res → V p l en (rmD 0) s m args below meth c 3 D tc B nn (Ar B nn) s.heap 0 0 (MQ below (QC D tc B nn (Ar B nn) (some (.int res)) h) args s 0 0 (Ar B nn)) h 30 [(0, .ref a0), (1, .int a1), (2, .int v1)] [])) e ?_ (fun j3 Jj3 e => ?_)
    · intro e
      refine V_iinc (q := 33) (v := v1 + (1 : Int32)) (lv' := [(2, .int (v1 + (1 : Int32))), (0, .ref a0), (1, .int a1)]) X (TB.get tb_X9_isAlone 19 rfl) rfl rfl (by rw [c_iconst_1]) (Nat.le_of_ble_eq_true rfl) rfl ?_
      refine V_goto (q := 2) X (TB.get tb_X9_isAlone 20 rfl) rfl ?_
      refine V_sub (lv' := [(0, .ref a0), (1, .int a1), (2, .int (v1 + (1 : Int32)))]) [1, 2, 0] rfl ?_
      exact ihself2 _ e
    refine V_icmp_eq (q := 13) (t := 30) X (TB.get tb_X9_isAlone 7 rfl) rfl rfl (fun hc => ?_) (fun hc => ?_)
    · have e := (if_pos hc).symm.trans e
      exact Jj3 e
    · have e := (if_neg hc).symm.trans e
      refine V_aload_n (q := 14) X (TB.get tb_X9_isAlone 8 rfl) rfl rfl rfl ?_
      obtain ⟨x4, ex4, e⟩ := bs e
      refine V_getR (q := 17) X (TB.get tb_X9_isAlone 9 rfl) rfl lf_RX9_73 ex4 ?_
      refine V_iload_n (q := 18) X (TB.get tb_X9_isAlone 10 rfl) rfl rfl rfl ?_
      obtain ⟨x5, ex5, e⟩ := bs e
      refine V_iaload (q := 19) X (TB.get tb_X9_isAlone 11 rfl) rfl ex5 ?_
      refine V_aload_n (q := 20) X (TB.get tb_X9_isAlone 12 rfl) rfl rfl rfl ?_
      refine V_getR (q := 23) X (TB.get tb_X9_isAlone 13 rfl) rfl lf_RX9_73 ex4 ?_
      refine V_iload_n (q := 24) X (TB.get tb_X9_isAlone 14 rfl) rfl rfl rfl ?_
      obtain ⟨x6, ex6, e⟩ := bs e
      refine V_iaload (q := 25) X (TB.get tb_X9_isAlone 15 rfl) rfl ex6 ?_
      refine V_icmp_ne (q := 28) (t := 30) X (TB.get tb_X9_isAlone 16 rfl) rfl rfl (fun hc => ?_) (fun hc => ?_)
      · have e := (if_neg hc).symm.trans e
        exact Jj3 e
      · have e := (if_pos hc).symm.trans e
        refine V_iconst (v := 0) (q := 29) X (TB.get tb_X9_isAlone 17 rfl) c_iconst_0 rfl ?_
        cases e
        exact V_zret X hr hlk (Or.inl rfl) (TB.get tb_X9_isAlone 18 rfl)
set_option maxRecDepth 100000 in
set_option maxHeartbeats 4000000 in
theorem ok_X9_lets (a0 : Nat) (a1 : Int32) (h : Hp) (res : Hp) (e : MX9_lets a0 a1 h = some res) : CK yX9_lets cX9_lets 2 none 0 [.ref a0, .int a1] h none res ∧ (h.1 a0).1 = 9 := by
  obtain ⟨hcl, e⟩ := h_g_inv e
  refine ⟨CK_of pn_RX9 cm_X9_lets (Nat.le_of_ble_eq_true rfl) ?_, hcl⟩
  intro l D tc B nn p en s m args below meth c X hr hlk
  replace X : CX p (rmD 0) s m args c cX9_lets 2 RX9 D tc 0 := X
  show V p l en (rmD 0) s m args below meth c 2 D tc B nn (Ar B nn) s.heap 0 0 (MQ below (QC D tc B nn (Ar B nn) none res) args s 0 0 (Ar B nn)) h 0 [(0, .ref a0), (1, .int a1)] []
  refine V_aload_n (q := 1) X (TB.get tb_X9_lets 0 rfl) rfl rfl rfl ?_
  obtain ⟨x1, ex1, e⟩ := bs e
  refine V_getR (q := 4) X (TB.get tb_X9_lets 1 rfl) rfl lf_RX9_73 ex1 ?_
  refine V_iload_n (q := 5) X (TB.get tb_X9_lets 2 rfl) rfl rfl rfl ?_
  refine V_iconst (v := -1) (q := 6) X (TB.get tb_X9_lets 3 rfl) c_iconst_m1 rfl ?_
  obtain ⟨h2, eh2, e⟩ := bs e
  refine V_iastore (q := 7) X (TB.get tb_X9_lets 4 rfl) rfl eh2 ?_
  refine V_aload_n (q := 8) X (TB.get tb_X9_lets 5 rfl) rfl rfl rfl ?_
  obtain ⟨x3, ex3, e⟩ := bs e
  refine V_getR (q := 11) X (TB.get tb_X9_lets 6 rfl) rfl lf_RX9_76 ex3 ?_
  refine V_iload_n (q := 12) X (TB.get tb_X9_lets 7 rfl) rfl rfl rfl ?_
  refine V_iconst (v := 0) (q := 13) X (TB.get tb_X9_lets 8 rfl) c_iconst_0 rfl ?_
  obtain ⟨h4, eh4, e⟩ := bs e
  refine V_iastore (q := 14) X (TB.get tb_X9_lets 9 rfl) rfl eh4 ?_
  refine V_aload_n (q := 15) X (TB.get tb_X9_lets 10 rfl) rfl rfl rfl ?_
  obtain ⟨x5, ex5, e⟩ := bs e
  refine V_getR (q := 18) X (TB.get tb_X9_lets 11 rfl) rfl lf_RX9_79 ex5 ?_
  refine V_iload_n (q := 19) X (TB.get tb_X9_lets 12 rfl) rfl rfl rfl ?_
  refine V_iconst (v := 0) (q := 20) X (TB.get tb_X9_lets 13 rfl) c_iconst_0 rfl ?_
  obtain ⟨h6, eh6, e⟩ := bs e
  refine V_iastore (q := 21) X (TB.get tb_X9_lets 14 rfl) rfl eh6 ?_
  cases e
  exact V_vret X hr hlk (TB.get tb_X9_lets 15 rfl)
set_option maxRecDepth 100000 in
set_option maxHeartbeats 4000000 in
theorem ok_X9_gets (a0 : Nat) (a1 : Int32) (a2 : Int32) (a3 : Int32) (h : Hp) (res : Int32 × Hp) (e : MX9_gets a0 a1 a2 a3 h = some res) : CK yX9_gets cX9_gets 4 (some .int) 1 [.ref a0, .int a1, .int a2, .int a3] h (some (.int res.1)) res.2 ∧ (h.1 a0).1 = 9 := by
  obtain ⟨hcl, e⟩ := h_g_inv e
  refine ⟨CK_of pn_RX9 cm_X9_gets (Nat.le_of_ble_eq_true rfl) ?_, hcl⟩
  intro l D tc B nn p en s m args below meth c X hr hlk
  replace X : CX p (rmD 1) s m args c cX9_gets 4 RX9 D tc 1 := X
  show V p l en (rmD 1) s m args below meth c 4 D tc B nn (Ar B nn) s.heap 0 0 (MQ below (QC D tc B nn (Ar B nn) (some (.int res.1)) res.2) args s 0 0 (Ar B nn)) h 0 [(0, .ref a0), (1, .int a1), (2, .int a2), (3, .int a3)] []
  refine V_aload_n (q := 1) X (TB.get tb_X9_gets 0 rfl) rfl rfl rfl ?_
  obtain ⟨x1, ex1, e⟩ := bs e
  refine V_getR (q := 4) X (TB.get tb_X9_gets 1 rfl) rfl lf_RX9_73 ex1 ?_
  refine V_iload_n (q := 5) X (TB.get tb_X9_gets 2 rfl) rfl rfl rfl ?_
  obtain ⟨x2, ex2, e⟩ := bs e
  refine V_iaload (q := 6) X (TB.get tb_X9_gets 3 rfl) rfl ex2 ?_
  refine V_iconst (v := -1) (q := 7) X (TB.get tb_X9_gets 4 rfl) c_iconst_m1 rfl ?_
  refine V_icmp_ne (q := 10) (t := 20) X (TB.get tb_X9_gets 5 rfl) rfl rfl (fun hc => ?_) (fun hc => ?_)
  · have e := (if_neg hc).symm.trans e
    refine V_iconst (v := 1) (q := 21) X (TB.get tb_X9_gets 12 rfl) c_iconst_1 rfl ?_
    cases e
    exact V_iret X hr hlk (TB.get tb_X9_gets 13 rfl)
  · have e := (if_pos hc).symm.trans e
    refine V_aload_n (q := 11) X (TB.get tb_X9_gets 6 rfl) rfl rfl rfl ?_
    refine V_getR (q := 14) X (TB.get tb_X9_gets 7 rfl) rfl lf_RX9_73 ex1 ?_
    refine V_iload_n (q := 15) X (TB.get tb_X9_gets 8 rfl) rfl rfl rfl ?_
    obtain ⟨x3, ex3, e⟩ := bs e
    refine V_iaload (q := 16) X (TB.get tb_X9_gets 9 rfl) rfl ex3 ?_
    refine V_iconst (v := -1) (q := 17) X (TB.get tb_X9_gets 10 rfl) c_iconst_m1 rfl ?_
    refine V_icmp_ne (q := 20) (t := 22) X (TB.get tb_X9_gets 11 rfl) rfl rfl (fun hc => ?_) (fun hc => ?_)
    · have e := (if_neg hc).symm.trans e
      refine V_iload_n (q := 23) X (TB.get tb_X9_gets 14 rfl) rfl rfl rfl ?_
      refine V_iconst (v := 2) (q := 24) X (TB.get tb_X9_gets 15 rfl) c_iconst_2 rfl ?_
      refine jn_elim (P := (fun (k : Option (Int32 × Hp)) => k = some res → V p l en (rmD 1) s m args below meth c 4 D tc B nn (Ar B nn) s.heap 0 0 (MQ below (QC D tc B nn (Ar B nn) (some (.int res.1)) res.2) args s 0 0 (Ar B nn)) h 39 [(0, .ref a0), (1, .int a1), (2, .int a2), (3, .int a3)] [])) e ?_ (fun j4 Jj4 e => ?_)
      · intro e
        refine V_aload_n (q := 40) X (TB.get tb_X9_gets 25 rfl) rfl rfl rfl ?_
        refine V_getR (q := 43) X (TB.get tb_X9_gets 26 rfl) rfl lf_RX9_73 ex1 ?_
        refine V_iload_n (q := 44) X (TB.get tb_X9_gets 27 rfl) rfl rfl rfl ?_
        refine V_aload_n (q := 45) X (TB.get tb_X9_gets 28 rfl) rfl rfl rfl ?_
        refine V_getR (q := 48) X (TB.get tb_X9_gets 29 rfl) rfl lf_RX9_73 ex1 ?_
        refine V_iload_n (q := 49) X (TB.get tb_X9_gets 30 rfl) rfl rfl rfl ?_
        refine V_iaload (q := 50) X (TB.get tb_X9_gets 31 rfl) rfl ex3 ?_
        obtain ⟨h5, eh5, e⟩ := bs e
        refine V_iastore (q := 51) X (TB.get tb_X9_gets 32 rfl) rfl eh5 ?_
        refine V_aload_n (q := 52) X (TB.get tb_X9_gets 33 rfl) rfl rfl rfl ?_
        obtain ⟨x6, ex6, e⟩ := bs e
        refine V_getR (q := 55) X (TB.get tb_X9_gets 34 rfl) rfl lf_RX9_79 ex6 ?_
        refine V_iload_n (q := 56) X (TB.get tb_X9_gets 35 rfl) rfl rfl rfl ?_
        refine V_aload_n (q := 57) X (TB.get tb_X9_gets 36 rfl) rfl rfl rfl ?_
        refine V_getR (q := 60) X (TB.get tb_X9_gets 37 rfl) rfl lf_RX9_79 ex6 ?_
        refine V_iload_n (q := 61) X (TB.get tb_X9_gets 38 rfl) rfl rfl rfl ?_
        obtain ⟨x7, ex7, e⟩ := bs e
        refine V_iaload (q := 62) X (TB.get tb_X9_gets 39 rfl) rfl ex7 ?_
        obtain ⟨h8, eh8, e⟩ := bs e
        refine V_iastore (q := 63) X (TB.get tb_X9_gets 40 rfl) rfl eh8 ?_
        refine V_aload_n (q := 64) X (TB.get tb_X9_gets 41 rfl) rfl rfl rfl ?_
        obtain ⟨x9, ex9, e⟩ := bs e
        refine V_getR (q := 67) X (TB.get tb_X9_gets 42 rfl) rfl lf_RX9_76 ex9 ?_
        refine V_iload_n (q := 68) X (TB.get tb_X9_gets 43 rfl) rfl rfl rfl ?_
        refine V_aload_n (q := 69) X (TB.get tb_X9_gets 44 rfl) rfl rfl rfl ?_
        refine V_getR (q := 72) X (TB.get tb_X9_gets 45 rfl) rfl lf_RX9_76 ex9 ?_
        refine V_iload_n (q := 73) X (TB.get tb_X9_gets 46 rfl) rfl rfl rfl ?_
        obtain ⟨x10, ex10, e⟩ := bs e
        refine V_iaload (q := 74) X (TB.get tb_X9_gets 47 rfl) rfl ex10 ?_
        obtain ⟨h11, eh11, e⟩ := bs e
        refine V_iastore (q := 75) X (TB.get tb_X9_gets 48 rfl) rfl eh11 ?_
        refine V_iload_n (q := 76) X (TB.get tb_X9_gets 49 rfl) rfl rfl rfl ?_
        refine V_iconst (v := 1) (q := 77) X (TB.get tb_X9_gets 50 rfl) c_iconst_1 rfl ?_
        refine V_icmp_ne (q := 80) (t := 88) X (TB.get tb_X9_gets 51 rfl) rfl rfl (fun hc => ?_) (fun hc => ?_)
        · have e := (if_neg hc).symm.trans e
          refine V_iload_n (q := 89) X (TB.get tb_X9_gets 56 rfl) rfl rfl rfl ?_
          refine V_iconst (v := 2) (q := 90) X (TB.get tb_X9_gets 57 rfl) c_iconst_2 rfl ?_
          refine V_icmp_ne (q := 93) (t := 110) X (TB.get tb_X9_gets 58 rfl) rfl rfl (fun hc => ?_) (fun hc => ?_)
          · have e := (if_neg hc).symm.trans e
            refine V_aload_n (q := 111) X (TB.get tb_X9_gets 70 rfl) rfl rfl rfl ?_
            obtain ⟨x12, ex12, e⟩ := bs e
            refine V_getR (q := 114) X (TB.get tb_X9_gets 71 rfl) rfl lf_RX9_76 ex12 ?_
            refine V_iload_n (q := 115) X (TB.get tb_X9_gets 72 rfl) rfl rfl rfl ?_
            refine V_iconst (v := 2) (q := 116) X (TB.get tb_X9_gets 73 rfl) c_iconst_2 rfl ?_
            obtain ⟨h13, eh13, e⟩ := bs e
            refine V_iastore (q := 117) X (TB.get tb_X9_gets 74 rfl) rfl eh13 ?_
            refine V_aload_n (q := 118) X (TB.get tb_X9_gets 75 rfl) rfl rfl rfl ?_
            obtain ⟨x14, ex14, e⟩ := bs e
            refine V_getR (q := 121) X (TB.get tb_X9_gets 76 rfl) rfl lf_RX9_76 ex14 ?_
            refine V_iload_n (q := 122) X (TB.get tb_X9_gets 77 rfl) rfl rfl rfl ?_
            refine V_aload_n (q := 123) X (TB.get tb_X9_gets 78 rfl) rfl rfl rfl ?_
            refine V_getR (q := 126) X (TB.get tb_X9_gets 79 rfl) rfl lf_RX9_76 ex14 ?_
            refine V_iload_n (q := 127) X (TB.get tb_X9_gets 80 rfl) rfl rfl rfl ?_
            obtain ⟨x15, ex15, e⟩ := bs e
            refine V_iaload (q := 128) X (TB.get tb_X9_gets 81 rfl) rfl ex15 ?_
            refine V_bipush (v := 8) (q := 130) X (TB.get tb_X9_gets 82 rfl) c_bipush_8 rfl ?_
            refine jn_elim (P := (fun (k : Int32 → Option (Int32 × Hp)) => ∀ (w16 : Int32), k w16 = some res → V p l en (rmD 1) s m args below meth c 4 D tc B nn (Ar B nn) s.heap 0 0 (MQ below (QC D tc B nn (Ar B nn) (some (.int res.1)) res.2) args s 0 0 (Ar B nn)) h13 143 [] [.int w16, .int a3, .ref x14])) e ?_ (fun j17 Jj17 e => ?_)
            · intro w16 e
              obtain ⟨h18, eh18, e⟩ := bs e
              refine V_iastore (q := 144) X (TB.get tb_X9_gets 90 rfl) rfl eh18 ?_
              refine V_iconst (v := 0) (q := 145) X (TB.get tb_X9_gets 91 rfl) c_iconst_0 rfl ?_
              cases e
              exact V_iret X hr hlk (TB.get tb_X9_gets 92 rfl)
            refine V_icmp_ne (q := 133) (t := 137) X (TB.get tb_X9_gets 83 rfl) rfl rfl (fun hc => ?_) (fun hc => ?_)
            · have e := (if_neg hc).symm.trans e
              refine V_aload_n (q := 138) X (TB.get tb_X9_gets 86 rfl) rfl rfl rfl ?_
              refine V_getR (q := 141) X (TB.get tb_X9_gets 87 rfl) rfl lf_RX9_76 ex14 ?_
              refine V_iload_n (q := 142) X (TB.get tb_X9_gets 88 rfl) rfl rfl rfl ?_
              refine V_iaload (q := 143) X (TB.get tb_X9_gets 89 rfl) rfl ex15 ?_
              refine V_sub (lv' := []) [] rfl ?_
              exact Jj17 _ e
            · have e := (if_pos hc).symm.trans e
              refine V_iconst (v := 2) (q := 134) X (TB.get tb_X9_gets 84 rfl) c_iconst_2 rfl ?_
              refine V_goto (q := 143) X (TB.get tb_X9_gets 85 rfl) rfl ?_
              refine V_sub (lv' := []) [] rfl ?_
              exact Jj17 _ e
          · have e := (if_pos hc).symm.trans e
            refine V_aload_n (q := 94) X (TB.get tb_X9_gets 59 rfl) rfl rfl rfl ?_
            obtain ⟨x19, ex19, e⟩ := bs e
            refine V_getR (q := 97) X (TB.get tb_X9_gets 60 rfl) rfl lf_RX9_76 ex19 ?_
            refine V_iload_n (q := 98) X (TB.get tb_X9_gets 61 rfl) rfl rfl rfl ?_
            refine V_iconst (v := 4) (q := 99) X (TB.get tb_X9_gets 62 rfl) c_iconst_4 rfl ?_
            obtain ⟨h20, eh20, e⟩ := bs e
            refine V_iastore (q := 100) X (TB.get tb_X9_gets 63 rfl) rfl eh20 ?_
            refine V_aload_n (q := 101) X (TB.get tb_X9_gets 64 rfl) rfl rfl rfl ?_
            obtain ⟨x21, ex21, e⟩ := bs e
            refine V_getR (q := 104) X (TB.get tb_X9_gets 65 rfl) rfl lf_RX9_76 ex21 ?_
            refine V_iload_n (q := 105) X (TB.get tb_X9_gets 66 rfl) rfl rfl rfl ?_
            refine V_iconst (v := 4) (q := 106) X (TB.get tb_X9_gets 67 rfl) c_iconst_4 rfl ?_
            obtain ⟨h22, eh22, e⟩ := bs e
            refine V_iastore (q := 107) X (TB.get tb_X9_gets 68 rfl) rfl eh22 ?_
            refine V_goto (q := 144) X (TB.get tb_X9_gets 69 rfl) rfl ?_
            refine V_iconst (v := 0) (q := 145) X (TB.get tb_X9_gets 91 rfl) c_iconst_0 rfl ?_
            cases e
            exact V_iret X hr hlk (TB.get tb_X9_gets 92 rfl)
        · have e := (if_pos hc).symm.trans e
          refine V_aload_n (q := 81) X (TB.get tb_X9_gets 52 rfl) rfl rfl rfl ?_
          refine V_iload_n (q := 82) X (TB.get tb_X9_gets 53 rfl) rfl rfl rfl ?_
          obtain ⟨h23, eh23, e⟩ := bs e
          refine V_callV (q := 85) (As := [.int a3]) (rest := []) (st' := []) X (TB.get tb_X9_gets 54 rfl) rfl cv_RX9_397 (ok_X9_lets a0 a3 h11 h23 eh23).1 (ok_X9_lets a0 a3 h11 h23 eh23).2 (Nat.le_of_ble_eq_true rfl) rfl rfl (Nat.le_of_ble_eq_true rfl) rfl ?_
          refine V_goto (q := 144) X (TB.get tb_X9_gets 55 rfl) rfl ?_
          refine V_iconst (v := 0) (q := 145) X (TB.get tb_X9_gets 91 rfl) c_iconst_0 rfl ?_
          cases e
          exact V_iret X hr hlk (TB.get tb_X9_gets 92 rfl)
      refine V_icmp_ne (q := 27) (t := 39) X (TB.get tb_X9_gets 16 rfl) rfl rfl (fun hc => ?_) (fun hc => ?_)
      · have e := (if_neg hc).symm.trans e
        exact Jj4 e
      · have e := (if_pos hc).symm.trans e
        refine V_aload_n (q := 28) X (TB.get tb_X9_gets 17 rfl) rfl rfl rfl ?_
        obtain ⟨x24, ex24, e⟩ := bs e
        refine V_getR (q := 31) X (TB.get tb_X9_gets 18 rfl) rfl lf_RX9_76 ex24 ?_
        refine V_iload_n (q := 32) X (TB.get tb_X9_gets 19 rfl) rfl rfl rfl ?_
        obtain ⟨x25, ex25, e⟩ := bs e
        refine V_iaload (q := 33) X (TB.get tb_X9_gets 20 rfl) rfl ex25 ?_
        refine V_iconst (v := 2) (q := 34) X (TB.get tb_X9_gets 21 rfl) c_iconst_2 rfl ?_
        refine V_icmp_ne (q := 37) (t := 39) X (TB.get tb_X9_gets 22 rfl) rfl rfl (fun hc => ?_) (fun hc => ?_)
        · have e := (if_neg hc).symm.trans e
          exact Jj4 e
        · have e := (if_pos hc).symm.trans e
          refine V_iconst (v := 3) (q := 38) X (TB.get tb_X9_gets 23 rfl) c_iconst_3 rfl ?_
          cases e
          exact V_iret X hr hlk (TB.get tb_X9_gets 24 rfl)
    · have e := (if_pos hc).symm.trans e
      refine V_iconst (v := 1) (q := 21) X (TB.get tb_X9_gets 12 rfl) c_iconst_1 rfl ?_
      cases e
      exact V_iret X hr hlk (TB.get tb_X9_gets 13 rfl)
set_option maxRecDepth 100000 in
set_option maxHeartbeats 4000000 in
theorem ok_X9_drops (fu : Nat) (a0 : Nat) (a1 : Int32) (h : Hp) (res : Int32 × Hp) (e : MX9_drops fu a0 a1 h = some res) : CK yX9_drops cX9_drops 5 (some .int) 2 [.ref a0, .int a1] h (some (.int res.1)) res.2 ∧ (h.1 a0).1 = 9 := by
  obtain ⟨hcl, e⟩ := h_g_inv e
  refine ⟨CK_of pn_RX9 cm_X9_drops (Nat.le_of_ble_eq_true rfl) ?_, hcl⟩
  intro l D tc B nn p en s m args below meth c X hr hlk
  replace X : CX p (rmD 2) s m args c cX9_drops 5 RX9 D tc 2 := X
  show V p l en (rmD 2) s m args below meth c 5 D tc B nn (Ar B nn) s.heap 0 0 (MQ below (QC D tc B nn (Ar B nn) (some (.int res.1)) res.2) args s 0 0 (Ar B nn)) h 0 [(0, .ref a0), (1, .int a1)] []
  refine V_aload_n (q := 1) X (TB.get tb_X9_drops 0 rfl) rfl rfl rfl ?_
  refine V_iload_n (q := 2) X (TB.get tb_X9_drops 1 rfl) rfl rfl rfl ?_
  obtain ⟨x1, ex1, e⟩ := bs e
  refine V_callV (q := 5) (As := [.int a1]) (rest := []) (st' := [.int x1]) X (TB.get tb_X9_drops 2 rfl) rfl cv_RX9_400 (ok_X9_isAlone fu a0 a1 h x1 ex1).1 (ok_X9_isAlone fu a0 a1 h x1 ex1).2 (Nat.le_of_ble_eq_true rfl) rfl rfl (Nat.le_of_ble_eq_true rfl) rfl ?_
  refine V_istore_n (q := 6) (lv' := [(2, .int x1), (0, .ref a0), (1, .int a1)]) X (TB.get tb_X9_drops 3 rfl) rfl rfl (Nat.le_of_ble_eq_true rfl) rfl ?_
  refine V_aload_n (q := 7) X (TB.get tb_X9_drops 4 rfl) rfl rfl rfl ?_
  obtain ⟨x2, ex2, e⟩ := bs e
  refine V_getR (q := 10) X (TB.get tb_X9_drops 5 rfl) rfl lf_RX9_13 ex2 ?_
  refine V_sipush (v := 327) (q := 13) X (TB.get tb_X9_drops 6 rfl) c_sipush_327 rfl ?_
  refine V_iload_n (q := 14) X (TB.get tb_X9_drops 7 rfl) rfl rfl rfl ?_
  refine V_iadd (q := 15) X (TB.get tb_X9_drops 8 rfl) rfl ?_
  obtain ⟨x3, ex3, e⟩ := bs e
  refine V_iaload (q := 16) X (TB.get tb_X9_drops 9 rfl) rfl ex3 ?_
  refine V_istore_n (q := 17) (lv' := [(3, .int x3), (2, .int x1), (0, .ref a0), (1, .int a1)]) X (TB.get tb_X9_drops 10 rfl) rfl rfl (Nat.le_of_ble_eq_true rfl) rfl ?_
  refine V_aload_n (q := 18) X (TB.get tb_X9_drops 11 rfl) rfl rfl rfl ?_
  refine V_iload_n (q := 19) X (TB.get tb_X9_drops 12 rfl) rfl rfl rfl ?_
  refine V_aload_n (q := 20) X (TB.get tb_X9_drops 13 rfl) rfl rfl rfl ?_
  obtain ⟨x4, ex4, e⟩ := bs e
  refine V_getR (q := 23) X (TB.get tb_X9_drops 14 rfl) rfl lf_RX9_79 ex4 ?_
  refine V_iload_n (q := 24) X (TB.get tb_X9_drops 15 rfl) rfl rfl rfl ?_
  obtain ⟨x5, ex5, e⟩ := bs e
  refine V_iaload (q := 25) X (TB.get tb_X9_drops 16 rfl) rfl ex5 ?_
  obtain ⟨x6, ex6, e⟩ := bs e
  refine V_callV (q := 28) (As := [.int x3, .int x5]) (rest := []) (st' := [.int x6]) X (TB.get tb_X9_drops 17 rfl) rfl cv_RX9_284 (ok_X9_isEnd a0 x3 x5 h x6 ex6).1 (ok_X9_isEnd a0 x3 x5 h x6 ex6).2 (Nat.le_of_ble_eq_true rfl) rfl rfl (Nat.le_of_ble_eq_true rfl) rfl ?_
  refine V_istore (q := 30) (lv' := [(4, .int x6), (3, .int x3), (2, .int x1), (0, .ref a0), (1, .int a1)]) X (TB.get tb_X9_drops 18 rfl) rfl (Nat.le_of_ble_eq_true rfl) rfl ?_
  refine V_iload_n (q := 31) X (TB.get tb_X9_drops 19 rfl) rfl rfl rfl ?_
  refine jn_elim (P := (fun (k : Hp → Option (Int32 × Hp)) => ∀ (h7 : Hp), k h7 = some res → V p l en (rmD 2) s m args below meth c 5 D tc B nn (Ar B nn) s.heap 0 0 (MQ below (QC D tc B nn (Ar B nn) (some (.int res.1)) res.2) args s 0 0 (Ar B nn)) h7 51 [(0, .ref a0), (1, .int a1), (2, .int x1), (4, .int x6)] [])) e ?_ (fun j8 Jj8 e => ?_)
  · intro h7 e
    refine V_iload_n (q := 52) X (TB.get tb_X9_drops 34 rfl) rfl rfl rfl ?_
    refine jn_elim (P := (fun (k : Option (Int32 × Hp)) => k = some res → V p l en (rmD 2) s m args below meth c 5 D tc B nn (Ar B nn) s.heap 0 0 (MQ below (QC D tc B nn (Ar B nn) (some (.int res.1)) res.2) args s 0 0 (Ar B nn)) h7 62 [(0, .ref a0), (1, .int a1)] [])) e ?_ (fun j9 Jj9 e => ?_)
    · intro e
      refine V_aload_n (q := 63) X (TB.get tb_X9_drops 40 rfl) rfl rfl rfl ?_
      refine V_iload_n (q := 64) X (TB.get tb_X9_drops 41 rfl) rfl rfl rfl ?_
      obtain ⟨h10, eh10, e⟩ := bs e
      refine V_callV (q := 67) (As := [.int a1]) (rest := []) (st' := []) X (TB.get tb_X9_drops 42 rfl) rfl cv_RX9_397 (ok_X9_lets a0 a1 h7 h10 eh10).1 (ok_X9_lets a0 a1 h7 h10 eh10).2 (Nat.le_of_ble_eq_true rfl) rfl rfl (Nat.le_of_ble_eq_true rfl) rfl ?_
      refine V_iconst (v := 0) (q := 68) X (TB.get tb_X9_drops 43 rfl) c_iconst_0 rfl ?_
      cases e
      exact V_iret X hr hlk (TB.get tb_X9_drops 44 rfl)
    refine V_if_eq (q := 55) (t := 62) X (TB.get tb_X9_drops 35 rfl) rfl rfl (fun hc => ?_) (fun hc => ?_)
    · have e := (if_pos hc).symm.trans e
      refine V_sub (lv' := [(0, .ref a0), (1, .int a1)]) [0, 1] rfl ?_
      exact Jj9 e
    · have e := (if_neg hc).symm.trans e
      refine V_iload (q := 57) X (TB.get tb_X9_drops 36 rfl) rfl rfl ?_
      refine V_if_ne (q := 60) (t := 62) X (TB.get tb_X9_drops 37 rfl) rfl rfl (fun hc => ?_) (fun hc => ?_)
      · have e := (if_neg hc).symm.trans e
        refine V_sub (lv' := [(0, .ref a0), (1, .int a1)]) [0, 1] rfl ?_
        exact Jj9 e
      · have e := (if_pos hc).symm.trans e
        refine V_iconst (v := 5) (q := 61) X (TB.get tb_X9_drops 38 rfl) c_iconst_5 rfl ?_
        cases e
        exact V_iret X hr hlk (TB.get tb_X9_drops 39 rfl)
  refine V_if_eq (q := 34) (t := 51) X (TB.get tb_X9_drops 20 rfl) rfl rfl (fun hc => ?_) (fun hc => ?_)
  · have e := (if_pos hc).symm.trans e
    refine V_sub (lv' := [(0, .ref a0), (1, .int a1), (2, .int x1), (4, .int x6)]) [3, 4, 2, 0] rfl ?_
    exact Jj8 _ e
  · have e := (if_neg hc).symm.trans e
    refine V_aload_n (q := 35) X (TB.get tb_X9_drops 21 rfl) rfl rfl rfl ?_
    obtain ⟨x11, ex11, e⟩ := bs e
    refine V_getR (q := 38) X (TB.get tb_X9_drops 22 rfl) rfl lf_RX9_82 ex11 ?_
    refine V_iload_n (q := 39) X (TB.get tb_X9_drops 23 rfl) rfl rfl rfl ?_
    refine V_dup2 (q := 40) X (TB.get tb_X9_drops 24 rfl) rfl rfl rfl ?_
    obtain ⟨x12, ex12, e⟩ := bs e
    refine V_iaload (q := 41) X (TB.get tb_X9_drops 25 rfl) rfl ex12 ?_
    refine V_iconst (v := 1) (q := 42) X (TB.get tb_X9_drops 26 rfl) c_iconst_1 rfl ?_
    refine V_aload_n (q := 43) X (TB.get tb_X9_drops 27 rfl) rfl rfl rfl ?_
    refine V_getR (q := 46) X (TB.get tb_X9_drops 28 rfl) rfl lf_RX9_79 ex4 ?_
    refine V_iload_n (q := 47) X (TB.get tb_X9_drops 29 rfl) rfl rfl rfl ?_
    refine V_iaload (q := 48) X (TB.get tb_X9_drops 30 rfl) rfl ex5 ?_
    refine V_ishl (q := 49) X (TB.get tb_X9_drops 31 rfl) rfl ?_
    refine V_ior (q := 50) X (TB.get tb_X9_drops 32 rfl) rfl ?_
    obtain ⟨h13, eh13, e⟩ := bs e
    refine V_iastore (q := 51) X (TB.get tb_X9_drops 33 rfl) rfl eh13 ?_
    refine V_sub (lv' := [(0, .ref a0), (1, .int a1), (2, .int x1), (4, .int x6)]) [3, 4, 2, 0] rfl ?_
    exact Jj8 _ e
set_option maxRecDepth 100000 in
set_option maxHeartbeats 4000000 in
theorem ok_X9_does (fu : Nat) (a0 : Nat) (a1 : Int32) (a2 : Int32) (a3 : Int32) (h : Hp) (res : Int32 × Hp) (e : MX9_does fu a0 a1 a2 a3 h = some res) : CK yX9_does cX9_does 11 (some .int) 4 [.ref a0, .int a1, .int a2, .int a3] h (some (.int res.1)) res.2 ∧ (h.1 a0).1 = 9 := by
  obtain ⟨hcl, e⟩ := h_g_inv e
  refine ⟨CK_of pn_RX9 cm_X9_does (Nat.le_of_ble_eq_true rfl) ?_, hcl⟩
  intro l D tc B nn p en s m args below meth c X hr hlk
  replace X : CX p (rmD 4) s m args c cX9_does 11 RX9 D tc 4 := X
  show V p l en (rmD 4) s m args below meth c 11 D tc B nn (Ar B nn) s.heap 0 0 (MQ below (QC D tc B nn (Ar B nn) (some (.int res.1)) res.2) args s 0 0 (Ar B nn)) h 0 [(0, .ref a0), (1, .int a1), (2, .int a2), (3, .int a3)] []
  refine V_aload_n (q := 1) X (TB.get tb_X9_does 0 rfl) rfl rfl rfl ?_
  obtain ⟨x1, ex1, e⟩ := bs e
  refine V_getR (q := 4) X (TB.get tb_X9_does 1 rfl) rfl lf_RX9_13 ex1 ?_
  refine V_sipush (v := 373) (q := 7) X (TB.get tb_X9_does 2 rfl) c_sipush_373 rfl ?_
  refine V_iload_n (q := 8) X (TB.get tb_X9_does 3 rfl) rfl rfl rfl ?_
  refine V_iadd (q := 9) X (TB.get tb_X9_does 4 rfl) rfl ?_
  obtain ⟨x2, ex2, e⟩ := bs e
  refine V_iaload (q := 10) X (TB.get tb_X9_does 5 rfl) rfl ex2 ?_
  refine V_istore (q := 12) (lv' := [(4, .int x2), (0, .ref a0), (1, .int a1), (2, .int a2), (3, .int a3)]) X (TB.get tb_X9_does 6 rfl) rfl (Nat.le_of_ble_eq_true rfl) rfl ?_
  refine V_aload_n (q := 13) X (TB.get tb_X9_does 7 rfl) rfl rfl rfl ?_
  refine V_getR (q := 16) X (TB.get tb_X9_does 8 rfl) rfl lf_RX9_13 ex1 ?_
  refine V_sipush (v := 413) (q := 19) X (TB.get tb_X9_does 9 rfl) c_sipush_413 rfl ?_
  refine V_iload_n (q := 20) X (TB.get tb_X9_does 10 rfl) rfl rfl rfl ?_
  refine V_iadd (q := 21) X (TB.get tb_X9_does 11 rfl) rfl ?_
  obtain ⟨x3, ex3, e⟩ := bs e
  refine V_iaload (q := 22) X (TB.get tb_X9_does 12 rfl) rfl ex3 ?_
  refine V_istore (q := 24) (lv' := [(5, .int x3), (4, .int x2), (0, .ref a0), (1, .int a1), (2, .int a2), (3, .int a3)]) X (TB.get tb_X9_does 13 rfl) rfl (Nat.le_of_ble_eq_true rfl) rfl ?_
  refine V_aload_n (q := 25) X (TB.get tb_X9_does 14 rfl) rfl rfl rfl ?_
  refine V_iload_n (q := 26) X (TB.get tb_X9_does 15 rfl) rfl rfl rfl ?_
  obtain ⟨x4, ex4, e⟩ := bs e
  refine V_callV (q := 29) (As := [.int a1]) (rest := []) (st' := [.int x4]) X (TB.get tb_X9_does 16 rfl) rfl cv_RX9_304 (ok_X9_sortAt a0 a1 h x4 ex4).1 (ok_X9_sortAt a0 a1 h x4 ex4).2 (Nat.le_of_ble_eq_true rfl) rfl rfl (Nat.le_of_ble_eq_true rfl) rfl ?_
  refine V_istore (q := 31) (lv' := [(6, .int x4), (5, .int x3), (4, .int x2), (0, .ref a0), (1, .int a1), (2, .int a2), (3, .int a3)]) X (TB.get tb_X9_does 17 rfl) rfl (Nat.le_of_ble_eq_true rfl) rfl ?_
  refine V_iload (q := 33) X (TB.get tb_X9_does 18 rfl) rfl rfl ?_
  refine V_if_ne (q := 36) (t := 76) X (TB.get tb_X9_does 19 rfl) rfl rfl (fun hc => ?_) (fun hc => ?_)
  · have e := (if_neg hc).symm.trans e
    refine V_iload (q := 78) X (TB.get tb_X9_does 45 rfl) rfl rfl ?_
    refine V_iconst (v := 4) (q := 79) X (TB.get tb_X9_does 46 rfl) c_iconst_4 rfl ?_
    refine V_icmp_ge (q := 82) (t := 93) X (TB.get tb_X9_does 47 rfl) rfl rfl (fun hc => ?_) (fun hc => ?_)
    · have e := (if_pos hc).symm.trans e
      refine V_iload (q := 95) X (TB.get tb_X9_does 54 rfl) rfl rfl ?_
      refine V_iconst (v := 4) (q := 96) X (TB.get tb_X9_does 55 rfl) c_iconst_4 rfl ?_
      refine V_icmp_ne (q := 99) (t := 168) X (TB.get tb_X9_does 56 rfl) rfl rfl (fun hc => ?_) (fun hc => ?_)
      · have e := (if_neg hc).symm.trans e
        refine V_aload_n (q := 169) X (TB.get tb_X9_does 96 rfl) rfl rfl rfl ?_
        obtain ⟨x5, ex5, e⟩ := bs e
        refine V_getR (q := 172) X (TB.get tb_X9_does 97 rfl) rfl lf_RX9_73 ex5 ?_
        refine V_iload (q := 174) X (TB.get tb_X9_does 98 rfl) rfl rfl ?_
        obtain ⟨x6, ex6, e⟩ := bs e
        refine V_iaload (q := 175) X (TB.get tb_X9_does 99 rfl) rfl ex6 ?_
        refine V_iconst (v := -1) (q := 176) X (TB.get tb_X9_does 100 rfl) c_iconst_m1 rfl ?_
        refine V_icmp_ne (q := 179) (t := 181) X (TB.get tb_X9_does 101 rfl) rfl rfl (fun hc => ?_) (fun hc => ?_)
        · have e := (if_neg hc).symm.trans e
          refine V_iload (q := 183) X (TB.get tb_X9_does 104 rfl) rfl rfl ?_
          refine V_iconst (v := 5) (q := 184) X (TB.get tb_X9_does 105 rfl) c_iconst_5 rfl ?_
          refine V_icmp_ne (q := 187) (t := 194) X (TB.get tb_X9_does 106 rfl) rfl rfl (fun hc => ?_) (fun hc => ?_)
          · have e := (if_neg hc).symm.trans e
            refine V_aload_n (q := 195) X (TB.get tb_X9_does 111 rfl) rfl rfl rfl ?_
            refine V_getR (q := 198) X (TB.get tb_X9_does 112 rfl) rfl lf_RX9_13 ex1 ?_
            refine V_sipush (v := 327) (q := 201) X (TB.get tb_X9_does 113 rfl) c_sipush_327 rfl ?_
            refine V_iload (q := 203) X (TB.get tb_X9_does 114 rfl) rfl rfl ?_
            refine V_iadd (q := 204) X (TB.get tb_X9_does 115 rfl) rfl ?_
            obtain ⟨x7, ex7, e⟩ := bs e
            refine V_iaload (q := 205) X (TB.get tb_X9_does 116 rfl) rfl ex7 ?_
            refine V_istore (q := 207) (lv' := [(7, .int x7), (6, .int x4), (5, .int x3), (4, .int x2), (0, .ref a0), (1, .int a1), (2, .int a2), (3, .int a3)]) X (TB.get tb_X9_does 117 rfl) rfl (Nat.le_of_ble_eq_true rfl) rfl ?_
            refine V_aload_n (q := 208) X (TB.get tb_X9_does 118 rfl) rfl rfl rfl ?_
            refine V_getR (q := 211) X (TB.get tb_X9_does 119 rfl) rfl lf_RX9_13 ex1 ?_
            refine V_sipush (v := 453) (q := 214) X (TB.get tb_X9_does 120 rfl) c_sipush_453 rfl ?_
            refine V_iload_n (q := 215) X (TB.get tb_X9_does 121 rfl) rfl rfl rfl ?_
            refine V_iadd (q := 216) X (TB.get tb_X9_does 122 rfl) rfl ?_
            obtain ⟨x8, ex8, e⟩ := bs e
            refine V_iaload (q := 217) X (TB.get tb_X9_does 123 rfl) rfl ex8 ?_
            refine V_istore (q := 219) (lv' := [(8, .int x8), (7, .int x7), (6, .int x4), (5, .int x3), (4, .int x2), (0, .ref a0), (1, .int a1), (2, .int a2), (3, .int a3)]) X (TB.get tb_X9_does 124 rfl) rfl (Nat.le_of_ble_eq_true rfl) rfl ?_
            refine V_aload_n (q := 220) X (TB.get tb_X9_does 125 rfl) rfl rfl rfl ?_
            obtain ⟨x9, ex9, e⟩ := bs e
            refine V_getR (q := 223) X (TB.get tb_X9_does 126 rfl) rfl lf_RX9_76 ex9 ?_
            refine V_iload (q := 225) X (TB.get tb_X9_does 127 rfl) rfl rfl ?_
            obtain ⟨x10, ex10, e⟩ := bs e
            refine V_iaload (q := 226) X (TB.get tb_X9_does 128 rfl) rfl ex10 ?_
            refine V_iconst (v := 2) (q := 227) X (TB.get tb_X9_does 129 rfl) c_iconst_2 rfl ?_
            refine jn_elim (P := (fun (k : Option (Int32 × Hp)) => k = some res → V p l en (rmD 4) s m args below meth c 11 D tc B nn (Ar B nn) s.heap 0 0 (MQ below (QC D tc B nn (Ar B nn) (some (.int res.1)) res.2) args s 0 0 (Ar B nn)) h 251 [(0, .ref a0), (2, .int a2), (4, .int x2), (7, .int x7), (8, .int x8)] [])) e ?_ (fun j11 Jj11 e => ?_)
            · intro e
              refine V_aload_n (q := 252) X (TB.get tb_X9_does 143 rfl) rfl rfl rfl ?_
              refine V_iload (q := 254) X (TB.get tb_X9_does 144 rfl) rfl rfl ?_
              refine V_iload (q := 256) X (TB.get tb_X9_does 145 rfl) rfl rfl ?_
              refine V_aload_n (q := 257) X (TB.get tb_X9_does 146 rfl) rfl rfl rfl ?_
              obtain ⟨x12, ex12, e⟩ := bs e
              refine V_getR (q := 260) X (TB.get tb_X9_does 147 rfl) rfl lf_RX9_79 ex12 ?_
              refine V_iload (q := 262) X (TB.get tb_X9_does 148 rfl) rfl rfl ?_
              obtain ⟨x13, ex13, e⟩ := bs e
              refine V_iaload (q := 263) X (TB.get tb_X9_does 149 rfl) rfl ex13 ?_
              obtain ⟨x14, ex14, e⟩ := bs e
              refine V_callV (q := 266) (As := [.int x7, .int x8, .int x13]) (rest := []) (st' := [.int x14]) X (TB.get tb_X9_does 150 rfl) rfl cv_RX9_261 (ok_X9_canBe a0 x7 x8 x13 h x14 ex14).1 (ok_X9_canBe a0 x7 x8 x13 h x14 ex14).2 (Nat.le_of_ble_eq_true rfl) rfl rfl (Nat.le_of_ble_eq_true rfl) rfl ?_
              refine V_if_ne (q := 269) (t := 271) X (TB.get tb_X9_does 151 rfl) rfl rfl (fun hc => ?_) (fun hc => ?_)
              · have e := (if_neg hc).symm.trans e
                refine V_iload_n (q := 272) X (TB.get tb_X9_does 154 rfl) rfl rfl rfl ?_
                refine jn_elim (P := (fun (k : Int32 → Option (Int32 × Hp)) => ∀ (w15 : Int32), k w15 = some res → V p l en (rmD 4) s m args below meth c 11 D tc B nn (Ar B nn) s.heap 0 0 (MQ below (QC D tc B nn (Ar B nn) (some (.int res.1)) res.2) args s 0 0 (Ar B nn)) h 308 [(0, .ref a0), (4, .int x2)] [.int w15])) e ?_ (fun j16 Jj16 e => ?_)
                · intro w15 e
                  refine V_istore (q := 310) (lv' := [(9, .int w15), (0, .ref a0), (4, .int x2)]) X (TB.get tb_X9_does 173 rfl) rfl (Nat.le_of_ble_eq_true rfl) rfl ?_
                  refine V_iconst (v := 0) (q := 311) X (TB.get tb_X9_does 174 rfl) c_iconst_0 rfl ?_
                  refine V_istore (q := 313) (lv' := [(10, .int (0 : Int32)), (9, .int w15), (0, .ref a0), (4, .int x2)]) X (TB.get tb_X9_does 175 rfl) rfl (Nat.le_of_ble_eq_true rfl) rfl ?_
                  refine jn_elim (P := (fun (k : Hp → Option (Int32 × Hp)) => ∀ (h17 : Hp), k h17 = some res → V p l en (rmD 4) s m args below meth c 11 D tc B nn (Ar B nn) s.heap 0 0 (MQ below (QC D tc B nn (Ar B nn) (some (.int res.1)) res.2) args s 0 0 (Ar B nn)) h17 359 [(0, .ref a0), (4, .int x2), (9, .int w15)] [])) e ?_ (fun j18 Jj18 e => ?_)
                  · intro h17 e
                    refine V_aload_n (q := 360) X (TB.get tb_X9_does 198 rfl) rfl rfl rfl ?_
                    obtain ⟨x19, ex19, e⟩ := bs e
                    refine V_getR (q := 363) X (TB.get tb_X9_does 199 rfl) rfl lf_RX9_79 ex19 ?_
                    refine V_iload (q := 365) X (TB.get tb_X9_does 200 rfl) rfl rfl ?_
                    refine V_iload (q := 367) X (TB.get tb_X9_does 201 rfl) rfl rfl ?_
                    obtain ⟨h20, eh20, e⟩ := bs e
                    refine V_iastore (q := 368) X (TB.get tb_X9_does 202 rfl) rfl eh20 ?_
                    refine V_iconst (v := 0) (q := 369) X (TB.get tb_X9_does 203 rfl) c_iconst_0 rfl ?_
                    cases e
                    exact V_iret X hr hlk (TB.get tb_X9_does 204 rfl)
                  refine V_sub (lv' := [(0, .ref a0), (4, .int x2), (9, .int w15), (10, .int (0 : Int32))]) [2, 3, 1, 0] rfl ?_
                  refine wh2_elim (P := fun v21 h22 => V p l en (rmD 4) s m args below meth c 11 D tc B nn (Ar B nn) s.heap 0 0 (MQ below (QC D tc B nn (Ar B nn) (some (.int res.1)) res.2) args s 0 0 (Ar B nn)) h22 313 [(0, .ref a0), (4, .int x2), (9, .int w15), (10, .int v21)] []) (f := fu) ?_ e
                  intro self23 v21 h22 ihself23 e
                  unfold MX9_does_B313 at e
                  refine V_iload (q := 315) X (TB.get tb_X9_does 176 rfl) rfl rfl ?_
                  refine V_bipush (v := 6) (q := 317) X (TB.get tb_X9_does 177 rfl) c_bipush_6 rfl ?_
                  refine V_icmp_ge (q := 320) (t := 359) X (TB.get tb_X9_does 178 rfl) rfl rfl (fun hc => ?_) (fun hc => ?_)
                  · have e := (if_pos hc).symm.trans e
                    refine V_sub (lv' := [(0, .ref a0), (4, .int x2), (9, .int w15)]) [0, 1, 2] rfl ?_
                    exact Jj18 _ e
                  · have e := (if_neg hc).symm.trans e
                    refine V_iload (q := 322) X (TB.get tb_X9_does 179 rfl) rfl rfl ?_
                    refine V_iload (q := 324) X (TB.get tb_X9_does 180 rfl) rfl rfl ?_
                    refine jn_elim (P := (fun (k : Hp → Option (Int32 × Hp)) => ∀ (h24 : Hp), k h24 = some res → V p l en (rmD 4) s m args below meth c 11 D tc B nn (Ar B nn) s.heap 0 0 (MQ below (QC D tc B nn (Ar B nn) (some (.int res.1)) res.2) args s 0 0 (Ar B nn)) h24 353 [(0, .ref a0), (4, .int x2), (9, .int w15), (10, .int v21)] [])) e ?_ (fun j25 Jj25 e => ?_)
                    · intro h24 e
                      refine V_iinc (q := 356) (v := v21 + (1 : Int32)) (lv' := [(10, .int (v21 + (1 : Int32))), (0, .ref a0), (4, .int x2), (9, .int w15)]) X (TB.get tb_X9_does 196 rfl) rfl rfl (by rw [c_iconst_1]) (Nat.le_of_ble_eq_true rfl) rfl ?_
                      refine V_goto (q := 313) X (TB.get tb_X9_does 197 rfl) rfl ?_
                      refine V_sub (lv' := [(0, .ref a0), (4, .int x2), (9, .int w15), (10, .int (v21 + (1 : Int32)))]) [1, 2, 3, 0] rfl ?_
                      exact ihself23 _ _ e
                    refine V_icmp_eq (q := 327) (t := 353) X (TB.get tb_X9_does 181 rfl) rfl rfl (fun hc => ?_) (fun hc => ?_)
                    · have e := (if_pos hc).symm.trans e
                      exact Jj25 _ e
                    · have e := (if_neg hc).symm.trans e
                      refine V_aload_n (q := 328) X (TB.get tb_X9_does 182 rfl) rfl rfl rfl ?_
                      obtain ⟨x26, ex26, e⟩ := bs e
                      refine V_getR (q := 331) X (TB.get tb_X9_does 183 rfl) rfl lf_RX9_73 ex26 ?_
                      refine V_iload (q := 333) X (TB.get tb_X9_does 184 rfl) rfl rfl ?_
                      obtain ⟨x27, ex27, e⟩ := bs e
                      refine V_iaload (q := 334) X (TB.get tb_X9_does 185 rfl) rfl ex27 ?_
                      refine V_aload_n (q := 335) X (TB.get tb_X9_does 186 rfl) rfl rfl rfl ?_
                      refine V_getR (q := 338) X (TB.get tb_X9_does 187 rfl) rfl lf_RX9_73 ex26 ?_
                      refine V_iload (q := 340) X (TB.get tb_X9_does 188 rfl) rfl rfl ?_
                      obtain ⟨x28, ex28, e⟩ := bs e
                      refine V_iaload (q := 341) X (TB.get tb_X9_does 189 rfl) rfl ex28 ?_
                      refine V_icmp_ne (q := 344) (t := 353) X (TB.get tb_X9_does 190 rfl) rfl rfl (fun hc => ?_) (fun hc => ?_)
                      · have e := (if_neg hc).symm.trans e
                        exact Jj25 _ e
                      · have e := (if_pos hc).symm.trans e
                        refine V_aload_n (q := 345) X (TB.get tb_X9_does 191 rfl) rfl rfl rfl ?_
                        obtain ⟨x29, ex29, e⟩ := bs e
                        refine V_getR (q := 348) X (TB.get tb_X9_does 192 rfl) rfl lf_RX9_79 ex29 ?_
                        refine V_iload (q := 350) X (TB.get tb_X9_does 193 rfl) rfl rfl ?_
                        refine V_iload (q := 352) X (TB.get tb_X9_does 194 rfl) rfl rfl ?_
                        obtain ⟨h30, eh30, e⟩ := bs e
                        refine V_iastore (q := 353) X (TB.get tb_X9_does 195 rfl) rfl eh30 ?_
                        exact Jj25 _ e
                refine V_if_eq (q := 275) (t := 293) X (TB.get tb_X9_does 155 rfl) rfl rfl (fun hc => ?_) (fun hc => ?_)
                · have e := (if_pos hc).symm.trans e
                  refine V_aload_n (q := 294) X (TB.get tb_X9_does 165 rfl) rfl rfl rfl ?_
                  refine V_iload (q := 296) X (TB.get tb_X9_does 166 rfl) rfl rfl ?_
                  refine V_iload (q := 298) X (TB.get tb_X9_does 167 rfl) rfl rfl ?_
                  refine V_aload_n (q := 299) X (TB.get tb_X9_does 168 rfl) rfl rfl rfl ?_
                  refine V_getR (q := 302) X (TB.get tb_X9_does 169 rfl) rfl lf_RX9_79 ex12 ?_
                  refine V_iload (q := 304) X (TB.get tb_X9_does 170 rfl) rfl rfl ?_
                  refine V_iaload (q := 305) X (TB.get tb_X9_does 171 rfl) rfl ex13 ?_
                  obtain ⟨x31, ex31, e⟩ := bs e
                  refine V_callV (q := 308) (As := [.int x7, .int x8, .int x13]) (rest := []) (st' := [.int x31]) X (TB.get tb_X9_does 172 rfl) rfl cv_RX9_264 (ok_X9_no a0 x7 x8 x13 h x31 ex31).1 (ok_X9_no a0 x7 x8 x13 h x31 ex31).2 (Nat.le_of_ble_eq_true rfl) rfl rfl (Nat.le_of_ble_eq_true rfl) rfl ?_
                  refine V_sub (lv' := [(0, .ref a0), (4, .int x2)]) [0, 2] rfl ?_
                  exact Jj16 _ e
                · have e := (if_neg hc).symm.trans e
                  refine V_aload_n (q := 276) X (TB.get tb_X9_does 156 rfl) rfl rfl rfl ?_
                  refine V_iload (q := 278) X (TB.get tb_X9_does 157 rfl) rfl rfl ?_
                  refine V_iload (q := 280) X (TB.get tb_X9_does 158 rfl) rfl rfl ?_
                  refine V_aload_n (q := 281) X (TB.get tb_X9_does 159 rfl) rfl rfl rfl ?_
                  refine V_getR (q := 284) X (TB.get tb_X9_does 160 rfl) rfl lf_RX9_79 ex12 ?_
                  refine V_iload (q := 286) X (TB.get tb_X9_does 161 rfl) rfl rfl ?_
                  refine V_iaload (q := 287) X (TB.get tb_X9_does 162 rfl) rfl ex13 ?_
                  obtain ⟨x32, ex32, e⟩ := bs e
                  refine V_callV (q := 290) (As := [.int x7, .int x8, .int x13]) (rest := []) (st' := [.int x32]) X (TB.get tb_X9_does 163 rfl) rfl cv_RX9_254 (ok_X9_yes a0 x7 x8 x13 h x32 ex32).1 (ok_X9_yes a0 x7 x8 x13 h x32 ex32).2 (Nat.le_of_ble_eq_true rfl) rfl rfl (Nat.le_of_ble_eq_true rfl) rfl ?_
                  refine V_goto (q := 308) X (TB.get tb_X9_does 164 rfl) rfl ?_
                  refine V_sub (lv' := [(0, .ref a0), (4, .int x2)]) [0, 2] rfl ?_
                  exact Jj16 _ e
              · have e := (if_pos hc).symm.trans e
                refine V_iconst (v := 4) (q := 270) X (TB.get tb_X9_does 152 rfl) c_iconst_4 rfl ?_
                cases e
                exact V_iret X hr hlk (TB.get tb_X9_does 153 rfl)
            refine V_icmp_ne (q := 230) (t := 251) X (TB.get tb_X9_does 130 rfl) rfl rfl (fun hc => ?_) (fun hc => ?_)
            · have e := (if_neg hc).symm.trans e
              refine V_sub (lv' := [(0, .ref a0), (2, .int a2), (4, .int x2), (7, .int x7), (8, .int x8)]) [5, 7, 4, 1, 0] rfl ?_
              exact Jj11 e
            · have e := (if_pos hc).symm.trans e
              refine V_aload_n (q := 231) X (TB.get tb_X9_does 131 rfl) rfl rfl rfl ?_
              refine V_getR (q := 234) X (TB.get tb_X9_does 132 rfl) rfl lf_RX9_13 ex1 ?_
              refine V_bipush (v := 15) (q := 236) X (TB.get tb_X9_does 133 rfl) c_bipush_15 rfl ?_
              refine V_iload (q := 238) X (TB.get tb_X9_does 134 rfl) rfl rfl ?_
              refine V_iload (q := 240) X (TB.get tb_X9_does 135 rfl) rfl rfl ?_
              obtain ⟨x33, ex33, e⟩ := bs e
              refine V_callS (q := 243) (As := [.int x7, .int x8]) (rest := [.int (15 : Int32), .ref x1]) (st' := [.int x33, .int (15 : Int32), .ref x1]) X (TB.get tb_X9_does 136 rfl) rfl cs_RX9_188 (ok_X9_methodAt x7 x8 h x33 ex33) (Nat.le_of_ble_eq_true rfl) rfl rfl (Nat.le_of_ble_eq_true rfl) rfl ?_
              refine V_iadd (q := 244) X (TB.get tb_X9_does 137 rfl) rfl ?_
              obtain ⟨x34, ex34, e⟩ := bs e
              refine V_iaload (q := 245) X (TB.get tb_X9_does 138 rfl) rfl ex34 ?_
              refine V_iconst (v := 2) (q := 246) X (TB.get tb_X9_does 139 rfl) c_iconst_2 rfl ?_
              refine V_icmp_eq (q := 249) (t := 251) X (TB.get tb_X9_does 140 rfl) rfl rfl (fun hc => ?_) (fun hc => ?_)
              · have e := (if_pos hc).symm.trans e
                refine V_sub (lv' := [(0, .ref a0), (2, .int a2), (4, .int x2), (7, .int x7), (8, .int x8)]) [5, 7, 4, 1, 0] rfl ?_
                exact Jj11 e
              · have e := (if_neg hc).symm.trans e
                refine V_iconst (v := 3) (q := 250) X (TB.get tb_X9_does 141 rfl) c_iconst_3 rfl ?_
                cases e
                exact V_iret X hr hlk (TB.get tb_X9_does 142 rfl)
          · have e := (if_pos hc).symm.trans e
            refine V_aload_n (q := 188) X (TB.get tb_X9_does 107 rfl) rfl rfl rfl ?_
            refine V_iload (q := 190) X (TB.get tb_X9_does 108 rfl) rfl rfl ?_
            obtain ⟨p35, ep35, e⟩ := bs e
            refine V_callV (q := 193) (As := [.int x2]) (rest := []) (st' := [.int p35.1]) X (TB.get tb_X9_does 109 rfl) rfl cv_RX9_403 (ok_X9_drops fu a0 x2 h p35 ep35).1 (ok_X9_drops fu a0 x2 h p35 ep35).2 (Nat.le_of_ble_eq_true rfl) rfl rfl (Nat.le_of_ble_eq_true rfl) rfl ?_
            cases e
            exact V_iret X hr hlk (TB.get tb_X9_does 110 rfl)
        · have e := (if_pos hc).symm.trans e
          refine V_iconst (v := 1) (q := 180) X (TB.get tb_X9_does 102 rfl) c_iconst_1 rfl ?_
          cases e
          exact V_iret X hr hlk (TB.get tb_X9_does 103 rfl)
      · have e := (if_pos hc).symm.trans e
        refine V_aload_n (q := 100) X (TB.get tb_X9_does 57 rfl) rfl rfl rfl ?_
        obtain ⟨x36, ex36, e⟩ := bs e
        refine V_getR (q := 103) X (TB.get tb_X9_does 58 rfl) rfl lf_RX9_73 ex36 ?_
        refine V_iload (q := 105) X (TB.get tb_X9_does 59 rfl) rfl rfl ?_
        obtain ⟨x37, ex37, e⟩ := bs e
        refine V_iaload (q := 106) X (TB.get tb_X9_does 60 rfl) rfl ex37 ?_
        refine V_iconst (v := -1) (q := 107) X (TB.get tb_X9_does 61 rfl) c_iconst_m1 rfl ?_
        refine V_icmp_eq (q := 110) (t := 121) X (TB.get tb_X9_does 62 rfl) rfl rfl (fun hc => ?_) (fun hc => ?_)
        · have e := (if_pos hc).symm.trans e
          refine V_iconst (v := 1) (q := 122) X (TB.get tb_X9_does 69 rfl) c_iconst_1 rfl ?_
          cases e
          exact V_iret X hr hlk (TB.get tb_X9_does 70 rfl)
        · have e := (if_neg hc).symm.trans e
          refine V_aload_n (q := 111) X (TB.get tb_X9_does 63 rfl) rfl rfl rfl ?_
          refine V_getR (q := 114) X (TB.get tb_X9_does 64 rfl) rfl lf_RX9_73 ex36 ?_
          refine V_iload (q := 116) X (TB.get tb_X9_does 65 rfl) rfl rfl ?_
          obtain ⟨x38, ex38, e⟩ := bs e
          refine V_iaload (q := 117) X (TB.get tb_X9_does 66 rfl) rfl ex38 ?_
          refine V_iconst (v := -1) (q := 118) X (TB.get tb_X9_does 67 rfl) c_iconst_m1 rfl ?_
          refine V_icmp_ne (q := 121) (t := 123) X (TB.get tb_X9_does 68 rfl) rfl rfl (fun hc => ?_) (fun hc => ?_)
          · have e := (if_neg hc).symm.trans e
            refine V_aload_n (q := 124) X (TB.get tb_X9_does 71 rfl) rfl rfl rfl ?_
            refine V_getR (q := 127) X (TB.get tb_X9_does 72 rfl) rfl lf_RX9_73 ex36 ?_
            refine V_iload (q := 129) X (TB.get tb_X9_does 73 rfl) rfl rfl ?_
            refine V_iaload (q := 130) X (TB.get tb_X9_does 74 rfl) rfl ex37 ?_
            refine V_aload_n (q := 131) X (TB.get tb_X9_does 75 rfl) rfl rfl rfl ?_
            refine V_getR (q := 134) X (TB.get tb_X9_does 76 rfl) rfl lf_RX9_73 ex36 ?_
            refine V_iload (q := 136) X (TB.get tb_X9_does 77 rfl) rfl rfl ?_
            refine V_iaload (q := 137) X (TB.get tb_X9_does 78 rfl) rfl ex38 ?_
            refine V_icmp_eq (q := 140) (t := 142) X (TB.get tb_X9_does 79 rfl) rfl rfl (fun hc => ?_) (fun hc => ?_)
            · have e := (if_pos hc).symm.trans e
              refine V_aload_n (q := 143) X (TB.get tb_X9_does 82 rfl) rfl rfl rfl ?_
              refine V_iload (q := 145) X (TB.get tb_X9_does 83 rfl) rfl rfl ?_
              obtain ⟨h39, eh39, e⟩ := bs e
              refine V_callV (q := 148) (As := [.int x3]) (rest := []) (st' := []) X (TB.get tb_X9_does 84 rfl) rfl cv_RX9_397 (ok_X9_lets a0 x3 h h39 eh39).1 (ok_X9_lets a0 x3 h h39 eh39).2 (Nat.le_of_ble_eq_true rfl) rfl rfl (Nat.le_of_ble_eq_true rfl) rfl ?_
              refine V_aload_n (q := 149) X (TB.get tb_X9_does 85 rfl) rfl rfl rfl ?_
              refine V_iload (q := 151) X (TB.get tb_X9_does 86 rfl) rfl rfl ?_
              obtain ⟨x40, ex40, e⟩ := bs e
              refine V_callV (q := 154) (As := [.int x2]) (rest := []) (st' := [.int x40]) X (TB.get tb_X9_does 87 rfl) rfl cv_RX9_400 (ok_X9_isAlone fu a0 x2 h39 x40 ex40).1 (ok_X9_isAlone fu a0 x2 h39 x40 ex40).2 (Nat.le_of_ble_eq_true rfl) rfl rfl (Nat.le_of_ble_eq_true rfl) rfl ?_
              refine V_if_eq (q := 157) (t := 166) X (TB.get tb_X9_does 88 rfl) rfl rfl (fun hc => ?_) (fun hc => ?_)
              · have e := (if_pos hc).symm.trans e
                refine V_iconst (v := 0) (q := 167) X (TB.get tb_X9_does 94 rfl) c_iconst_0 rfl ?_
                cases e
                exact V_iret X hr hlk (TB.get tb_X9_does 95 rfl)
              · have e := (if_neg hc).symm.trans e
                refine V_aload_n (q := 158) X (TB.get tb_X9_does 89 rfl) rfl rfl rfl ?_
                obtain ⟨x41, ex41, e⟩ := bs e
                refine V_getR (q := 161) X (TB.get tb_X9_does 90 rfl) rfl lf_RX9_76 ex41 ?_
                refine V_iload (q := 163) X (TB.get tb_X9_does 91 rfl) rfl rfl ?_
                refine V_bipush (v := 8) (q := 165) X (TB.get tb_X9_does 92 rfl) c_bipush_8 rfl ?_
                obtain ⟨h42, eh42, e⟩ := bs e
                refine V_iastore (q := 166) X (TB.get tb_X9_does 93 rfl) rfl eh42 ?_
                refine V_iconst (v := 0) (q := 167) X (TB.get tb_X9_does 94 rfl) c_iconst_0 rfl ?_
                cases e
                exact V_iret X hr hlk (TB.get tb_X9_does 95 rfl)
            · have e := (if_neg hc).symm.trans e
              refine V_iconst (v := 2) (q := 141) X (TB.get tb_X9_does 80 rfl) c_iconst_2 rfl ?_
              cases e
              exact V_iret X hr hlk (TB.get tb_X9_does 81 rfl)
          · have e := (if_pos hc).symm.trans e
            refine V_iconst (v := 1) (q := 122) X (TB.get tb_X9_does 69 rfl) c_iconst_1 rfl ?_
            cases e
            exact V_iret X hr hlk (TB.get tb_X9_does 70 rfl)
    · have e := (if_neg hc).symm.trans e
      refine V_aload_n (q := 83) X (TB.get tb_X9_does 48 rfl) rfl rfl rfl ?_
      refine V_iload (q := 85) X (TB.get tb_X9_does 49 rfl) rfl rfl ?_
      refine V_iload (q := 87) X (TB.get tb_X9_does 50 rfl) rfl rfl ?_
      refine V_iload (q := 89) X (TB.get tb_X9_does 51 rfl) rfl rfl ?_
      obtain ⟨p43, ep43, e⟩ := bs e
      refine V_callV (q := 92) (As := [.int x4, .int x2, .int x3]) (rest := []) (st' := [.int p43.1]) X (TB.get tb_X9_does 52 rfl) rfl cv_RX9_394 (ok_X9_gets a0 x4 x2 x3 h p43 ep43).1 (ok_X9_gets a0 x4 x2 x3 h p43 ep43).2 (Nat.le_of_ble_eq_true rfl) rfl rfl (Nat.le_of_ble_eq_true rfl) rfl ?_
      cases e
      exact V_iret X hr hlk (TB.get tb_X9_does 53 rfl)
  · have e := (if_pos hc).symm.trans e
    refine V_aload_n (q := 37) X (TB.get tb_X9_does 20 rfl) rfl rfl rfl ?_
    obtain ⟨x44, ex44, e⟩ := bs e
    refine V_getR (q := 40) X (TB.get tb_X9_does 21 rfl) rfl lf_RX9_73 ex44 ?_
    refine V_iload (q := 42) X (TB.get tb_X9_does 22 rfl) rfl rfl ?_
    obtain ⟨x45, ex45, e⟩ := bs e
    refine V_iaload (q := 43) X (TB.get tb_X9_does 23 rfl) rfl ex45 ?_
    refine V_iconst (v := -1) (q := 44) X (TB.get tb_X9_does 24 rfl) c_iconst_m1 rfl ?_
    refine V_icmp_eq (q := 47) (t := 49) X (TB.get tb_X9_does 25 rfl) rfl rfl (fun hc => ?_) (fun hc => ?_)
    · have e := (if_pos hc).symm.trans e
      refine V_aload_n (q := 50) X (TB.get tb_X9_does 28 rfl) rfl rfl rfl ?_
      refine V_getR (q := 53) X (TB.get tb_X9_does 29 rfl) rfl lf_RX9_73 ex44 ?_
      refine V_iload (q := 55) X (TB.get tb_X9_does 30 rfl) rfl rfl ?_
      refine V_iload_n (q := 56) X (TB.get tb_X9_does 31 rfl) rfl rfl rfl ?_
      obtain ⟨h46, eh46, e⟩ := bs e
      refine V_iastore (q := 57) X (TB.get tb_X9_does 32 rfl) rfl eh46 ?_
      refine V_aload_n (q := 58) X (TB.get tb_X9_does 33 rfl) rfl rfl rfl ?_
      obtain ⟨x47, ex47, e⟩ := bs e
      refine V_getR (q := 61) X (TB.get tb_X9_does 34 rfl) rfl lf_RX9_76 ex47 ?_
      refine V_iload (q := 63) X (TB.get tb_X9_does 35 rfl) rfl rfl ?_
      refine V_bipush (v := 8) (q := 65) X (TB.get tb_X9_does 36 rfl) c_bipush_8 rfl ?_
      obtain ⟨h48, eh48, e⟩ := bs e
      refine V_iastore (q := 66) X (TB.get tb_X9_does 37 rfl) rfl eh48 ?_
      refine V_aload_n (q := 67) X (TB.get tb_X9_does 38 rfl) rfl rfl rfl ?_
      obtain ⟨x49, ex49, e⟩ := bs e
      refine V_getR (q := 70) X (TB.get tb_X9_does 39 rfl) rfl lf_RX9_79 ex49 ?_
      refine V_iload (q := 72) X (TB.get tb_X9_does 40 rfl) rfl rfl ?_
      refine V_iconst (v := 0) (q := 73) X (TB.get tb_X9_does 41 rfl) c_iconst_0 rfl ?_
      obtain ⟨h50, eh50, e⟩ := bs e
      refine V_iastore (q := 74) X (TB.get tb_X9_does 42 rfl) rfl eh50 ?_
      refine V_iconst (v := 0) (q := 75) X (TB.get tb_X9_does 43 rfl) c_iconst_0 rfl ?_
      cases e
      exact V_iret X hr hlk (TB.get tb_X9_does 44 rfl)
    · have e := (if_neg hc).symm.trans e
      refine V_iconst (v := 1) (q := 48) X (TB.get tb_X9_does 26 rfl) c_iconst_1 rfl ?_
      cases e
      exact V_iret X hr hlk (TB.get tb_X9_does 27 rfl)
set_option maxRecDepth 100000 in
set_option maxHeartbeats 4000000 in
theorem ok_X9_finishes (fu : Nat) (a0 : Nat) (h : Hp) (res : Int32 × Hp) (e : MX9_finishes fu a0 h = some res) : CK yX9_finishes cX9_finishes 3 (some .int) 2 [.ref a0] h (some (.int res.1)) res.2 ∧ (h.1 a0).1 = 9 := by
  obtain ⟨hcl, e⟩ := h_g_inv e
  refine ⟨CK_of pn_RX9 cm_X9_finishes (Nat.le_of_ble_eq_true rfl) ?_, hcl⟩
  intro l D tc B nn p en s m args below meth c X hr hlk
  replace X : CX p (rmD 2) s m args c cX9_finishes 3 RX9 D tc 2 := X
  show V p l en (rmD 2) s m args below meth c 3 D tc B nn (Ar B nn) s.heap 0 0 (MQ below (QC D tc B nn (Ar B nn) (some (.int res.1)) res.2) args s 0 0 (Ar B nn)) h 0 [(0, .ref a0)] []
  refine V_iconst (v := 0) (q := 1) X (TB.get tb_X9_finishes 0 rfl) c_iconst_0 rfl ?_
  refine V_istore_n (q := 2) (lv' := [(1, .int (0 : Int32)), (0, .ref a0)]) X (TB.get tb_X9_finishes 1 rfl) rfl rfl (Nat.le_of_ble_eq_true rfl) rfl ?_
  refine V_iconst (v := 0) (q := 3) X (TB.get tb_X9_finishes 2 rfl) c_iconst_0 rfl ?_
  refine V_istore_n (q := 4) (lv' := [(2, .int (0 : Int32)), (1, .int (0 : Int32)), (0, .ref a0)]) X (TB.get tb_X9_finishes 3 rfl) rfl rfl (Nat.le_of_ble_eq_true rfl) rfl ?_
  refine V_sub (lv' := [(0, .ref a0), (1, .int (0 : Int32)), (2, .int (0 : Int32))]) [2, 1, 0] rfl ?_
  refine wh3_elim (P := fun v1 v2 h3 => V p l en (rmD 2) s m args below meth c 3 D tc B nn (Ar B nn) s.heap 0 0 (MQ below (QC D tc B nn (Ar B nn) (some (.int res.1)) res.2) args s 0 0 (Ar B nn)) h3 4 [(0, .ref a0), (1, .int v1), (2, .int v2)] []) (f := fu) ?_ e
  intro self4 v1 v2 h3 ihself4 e
  unfold MX9_finishes_B4 at e
  refine V_iload_n (q := 5) X (TB.get tb_X9_finishes 4 rfl) rfl rfl rfl ?_
  refine V_aload_n (q := 6) X (TB.get tb_X9_finishes 5 rfl) rfl rfl rfl ?_
  obtain ⟨x5, ex5, e⟩ := bs e
  refine V_getR (q := 9) X (TB.get tb_X9_finishes 6 rfl) rfl lf_RX9_13 ex5 ?_
  refine V_iconst (v := 1) (q := 10) X (TB.get tb_X9_finishes 7 rfl) c_iconst_1 rfl ?_
  obtain ⟨x6, ex6, e⟩ := bs e
  refine V_iaload (q := 11) X (TB.get tb_X9_finishes 8 rfl) rfl ex6 ?_
  refine V_icmp_ge (q := 14) (t := 84) X (TB.get tb_X9_finishes 9 rfl) rfl rfl (fun hc => ?_) (fun hc => ?_)
  · have e := (if_pos hc).symm.trans e
    refine V_iload_n (q := 85) X (TB.get tb_X9_finishes 52 rfl) rfl rfl rfl ?_
    cases e
    exact V_iret X hr hlk (TB.get tb_X9_finishes 53 rfl)
  · have e := (if_neg hc).symm.trans e
    refine V_aload_n (q := 15) X (TB.get tb_X9_finishes 10 rfl) rfl rfl rfl ?_
    obtain ⟨x7, ex7, e⟩ := bs e
    refine V_getR (q := 18) X (TB.get tb_X9_finishes 11 rfl) rfl lf_RX9_73 ex7 ?_
    refine V_iload_n (q := 19) X (TB.get tb_X9_finishes 12 rfl) rfl rfl rfl ?_
    obtain ⟨x8, ex8, e⟩ := bs e
    refine V_iaload (q := 20) X (TB.get tb_X9_finishes 13 rfl) rfl ex8 ?_
    refine V_iconst (v := -1) (q := 21) X (TB.get tb_X9_finishes 14 rfl) c_iconst_m1 rfl ?_
    refine jn_elim (P := (fun (k : Int32 → Hp → Option (Int32 × Hp)) => ∀ (v9 : Int32) (h10 : Hp), k v9 h10 = some res → V p l en (rmD 2) s m args below meth c 3 D tc B nn (Ar B nn) s.heap 0 0 (MQ below (QC D tc B nn (Ar B nn) (some (.int res.1)) res.2) args s 0 0 (Ar B nn)) h10 78 [(0, .ref a0), (1, .int v9), (2, .int v2)] [])) e ?_ (fun j11 Jj11 e => ?_)
    · intro v9 h10 e
      refine V_iinc (q := 81) (v := v2 + (1 : Int32)) (lv' := [(2, .int (v2 + (1 : Int32))), (0, .ref a0), (1, .int v9)]) X (TB.get tb_X9_finishes 50 rfl) rfl rfl (by rw [c_iconst_1]) (Nat.le_of_ble_eq_true rfl) rfl ?_
      refine V_goto (q := 4) X (TB.get tb_X9_finishes 51 rfl) rfl ?_
      refine V_sub (lv' := [(0, .ref a0), (1, .int v9), (2, .int (v2 + (1 : Int32)))]) [1, 2, 0] rfl ?_
      exact ihself4 _ _ _ e
    refine V_icmp_ne (q := 24) (t := 27) X (TB.get tb_X9_finishes 15 rfl) rfl rfl (fun hc => ?_) (fun hc => ?_)
    · have e := (if_neg hc).symm.trans e
      refine V_aload_n (q := 28) X (TB.get tb_X9_finishes 17 rfl) rfl rfl rfl ?_
      obtain ⟨x12, ex12, e⟩ := bs e
      refine V_getR (q := 31) X (TB.get tb_X9_finishes 18 rfl) rfl lf_RX9_82 ex12 ?_
      refine V_aload_n (q := 32) X (TB.get tb_X9_finishes 19 rfl) rfl rfl rfl ?_
      refine V_getR (q := 35) X (TB.get tb_X9_finishes 20 rfl) rfl lf_RX9_13 ex5 ?_
      refine V_sipush (v := 327) (q := 38) X (TB.get tb_X9_finishes 21 rfl) c_sipush_327 rfl ?_
      refine V_iload_n (q := 39) X (TB.get tb_X9_finishes 22 rfl) rfl rfl rfl ?_
      refine V_iadd (q := 40) X (TB.get tb_X9_finishes 23 rfl) rfl ?_
      obtain ⟨x13, ex13, e⟩ := bs e
      refine V_iaload (q := 41) X (TB.get tb_X9_finishes 24 rfl) rfl ex13 ?_
      refine V_dup2 (q := 42) X (TB.get tb_X9_finishes 25 rfl) rfl rfl rfl ?_
      obtain ⟨x14, ex14, e⟩ := bs e
      refine V_iaload (q := 43) X (TB.get tb_X9_finishes 26 rfl) rfl ex14 ?_
      refine V_iconst (v := 1) (q := 44) X (TB.get tb_X9_finishes 27 rfl) c_iconst_1 rfl ?_
      refine V_aload_n (q := 45) X (TB.get tb_X9_finishes 28 rfl) rfl rfl rfl ?_
      obtain ⟨x15, ex15, e⟩ := bs e
      refine V_getR (q := 48) X (TB.get tb_X9_finishes 29 rfl) rfl lf_RX9_79 ex15 ?_
      refine V_iload_n (q := 49) X (TB.get tb_X9_finishes 30 rfl) rfl rfl rfl ?_
      obtain ⟨x16, ex16, e⟩ := bs e
      refine V_iaload (q := 50) X (TB.get tb_X9_finishes 31 rfl) rfl ex16 ?_
      refine V_ishl (q := 51) X (TB.get tb_X9_finishes 32 rfl) rfl ?_
      refine V_ior (q := 52) X (TB.get tb_X9_finishes 33 rfl) rfl ?_
      obtain ⟨h17, eh17, e⟩ := bs e
      refine V_iastore (q := 53) X (TB.get tb_X9_finishes 34 rfl) rfl eh17 ?_
      refine V_aload_n (q := 54) X (TB.get tb_X9_finishes 35 rfl) rfl rfl rfl ?_
      refine V_aload_n (q := 55) X (TB.get tb_X9_finishes 36 rfl) rfl rfl rfl ?_
      obtain ⟨x18, ex18, e⟩ := bs e
      refine V_getR (q := 58) X (TB.get tb_X9_finishes 37 rfl) rfl lf_RX9_13 ex18 ?_
      refine V_sipush (v := 327) (q := 61) X (TB.get tb_X9_finishes 38 rfl) c_sipush_327 rfl ?_
      refine V_iload_n (q := 62) X (TB.get tb_X9_finishes 39 rfl) rfl rfl rfl ?_
      refine V_iadd (q := 63) X (TB.get tb_X9_finishes 40 rfl) rfl ?_
      obtain ⟨x19, ex19, e⟩ := bs e
      refine V_iaload (q := 64) X (TB.get tb_X9_finishes 41 rfl) rfl ex19 ?_
      refine V_aload_n (q := 65) X (TB.get tb_X9_finishes 42 rfl) rfl rfl rfl ?_
      obtain ⟨x20, ex20, e⟩ := bs e
      refine V_getR (q := 68) X (TB.get tb_X9_finishes 43 rfl) rfl lf_RX9_79 ex20 ?_
      refine V_iload_n (q := 69) X (TB.get tb_X9_finishes 44 rfl) rfl rfl rfl ?_
      obtain ⟨x21, ex21, e⟩ := bs e
      refine V_iaload (q := 70) X (TB.get tb_X9_finishes 45 rfl) rfl ex21 ?_
      obtain ⟨x22, ex22, e⟩ := bs e
      refine V_callV (q := 73) (As := [.int x19, .int x21]) (rest := []) (st' := [.int x22]) X (TB.get tb_X9_finishes 46 rfl) rfl cv_RX9_284 (ok_X9_isEnd a0 x19 x21 h17 x22 ex22).1 (ok_X9_isEnd a0 x19 x21 h17 x22 ex22).2 (Nat.le_of_ble_eq_true rfl) rfl rfl (Nat.le_of_ble_eq_true rfl) rfl ?_
      refine V_if_ne (q := 76) (t := 78) X (TB.get tb_X9_finishes 47 rfl) rfl rfl (fun hc => ?_) (fun hc => ?_)
      · have e := (if_neg hc).symm.trans e
        exact Jj11 _ _ e
      · have e := (if_pos hc).symm.trans e
        refine V_iconst (v := 5) (q := 77) X (TB.get tb_X9_finishes 48 rfl) c_iconst_5 rfl ?_
        refine V_istore_n (q := 78) (lv' := [(1, .int (5 : Int32)), (0, .ref a0), (2, .int v2)]) X (TB.get tb_X9_finishes 49 rfl) rfl rfl (Nat.le_of_ble_eq_true rfl) rfl ?_
        refine V_sub (lv' := [(0, .ref a0), (1, .int (5 : Int32)), (2, .int v2)]) [1, 0, 2] rfl ?_
        exact Jj11 _ _ e
    · have e := (if_pos hc).symm.trans e
      refine V_goto (q := 78) X (TB.get tb_X9_finishes 16 rfl) rfl ?_
      exact Jj11 _ _ e
set_option maxRecDepth 100000 in
set_option maxHeartbeats 4000000 in
theorem ok_X9_things (fu : Nat) (a0 : Nat) (h : Hp) (res : Int32) (e : MX9_things fu a0 h = some res) : CK yX9_things cX9_things 5 (some .int) 0 [.ref a0] h (some (.int res)) h ∧ (h.1 a0).1 = 9 := by
  obtain ⟨hcl, e⟩ := h_g_inv e
  refine ⟨CK_of pn_RX9 cm_X9_things (Nat.le_of_ble_eq_true rfl) ?_, hcl⟩
  intro l D tc B nn p en s m args below meth c X hr hlk
  replace X : CX p (rmD 0) s m args c cX9_things 5 RX9 D tc 0 := X
  show V p l en (rmD 0) s m args below meth c 5 D tc B nn (Ar B nn) s.heap 0 0 (MQ below (QC D tc B nn (Ar B nn) (some (.int res)) h) args s 0 0 (Ar B nn)) h 0 [(0, .ref a0)] []
  refine V_iconst (v := 0) (q := 1) X (TB.get tb_X9_things 0 rfl) c_iconst_0 rfl ?_
  refine V_istore_n (q := 2) (lv' := [(1, .int (0 : Int32)), (0, .ref a0)]) X (TB.get tb_X9_things 1 rfl) rfl rfl (Nat.le_of_ble_eq_true rfl) rfl ?_
  refine V_iconst (v := 0) (q := 3) X (TB.get tb_X9_things 2 rfl) c_iconst_0 rfl ?_
  refine V_istore_n (q := 4) (lv' := [(2, .int (0 : Int32)), (1, .int (0 : Int32)), (0, .ref a0)]) X (TB.get tb_X9_things 3 rfl) rfl rfl (Nat.le_of_ble_eq_true rfl) rfl ?_
  refine V_sub (lv' := [(0, .ref a0), (1, .int (0 : Int32)), (2, .int (0 : Int32))]) [2, 1, 0] rfl ?_
  refine wh2_elim (P := fun v1 v2 => V p l en (rmD 0) s m args below meth c 5 D tc B nn (Ar B nn) s.heap 0 0 (MQ below (QC D tc B nn (Ar B nn) (some (.int res)) h) args s 0 0 (Ar B nn)) h 4 [(0, .ref a0), (1, .int v1), (2, .int v2)] []) (f := fu) ?_ e
  intro self3 v1 v2 ihself3 e
  unfold MX9_things_B4 at e
  refine V_iload_n (q := 5) X (TB.get tb_X9_things 4 rfl) rfl rfl rfl ?_
  refine V_bipush (v := 6) (q := 7) X (TB.get tb_X9_things 5 rfl) c_bipush_6 rfl ?_
  refine V_icmp_ge (q := 10) (t := 85) X (TB.get tb_X9_things 6 rfl) rfl rfl (fun hc => ?_) (fun hc => ?_)
  · have e := (if_pos hc).symm.trans e
    refine V_iload_n (q := 86) X (TB.get tb_X9_things 49 rfl) rfl rfl rfl ?_
    cases e
    exact V_iret X hr hlk (TB.get tb_X9_things 50 rfl)
  · have e := (if_neg hc).symm.trans e
    refine V_aload_n (q := 11) X (TB.get tb_X9_things 7 rfl) rfl rfl rfl ?_
    obtain ⟨x4, ex4, e⟩ := bs e
    refine V_getR (q := 14) X (TB.get tb_X9_things 8 rfl) rfl lf_RX9_73 ex4 ?_
    refine V_iload_n (q := 15) X (TB.get tb_X9_things 9 rfl) rfl rfl rfl ?_
    obtain ⟨x5, ex5, e⟩ := bs e
    refine V_iaload (q := 16) X (TB.get tb_X9_things 10 rfl) rfl ex5 ?_
    refine V_iconst (v := -1) (q := 17) X (TB.get tb_X9_things 11 rfl) c_iconst_m1 rfl ?_
    refine jn_elim (P := (fun (k : Int32 → Option (Int32)) => ∀ (w6 : Int32), k w6 = some res → V p l en (rmD 0) s m args below meth c 5 D tc B nn (Ar B nn) s.heap 0 0 (MQ below (QC D tc B nn (Ar B nn) (some (.int res)) h) args s 0 0 (Ar B nn)) h 25 [(0, .ref a0), (1, .int v1), (2, .int v2)] [.int w6])) e ?_ (fun j7 Jj7 e => ?_)
    · intro w6 e
      refine V_istore_n (q := 26) (lv' := [(3, .int w6), (0, .ref a0), (1, .int v1), (2, .int v2)]) X (TB.get tb_X9_things 16 rfl) rfl rfl (Nat.le_of_ble_eq_true rfl) rfl ?_
      refine V_iconst (v := 0) (q := 27) X (TB.get tb_X9_things 17 rfl) c_iconst_0 rfl ?_
      refine V_istore (q := 29) (lv' := [(4, .int (0 : Int32)), (3, .int w6), (0, .ref a0), (1, .int v1), (2, .int v2)]) X (TB.get tb_X9_things 18 rfl) rfl (Nat.le_of_ble_eq_true rfl) rfl ?_
      refine jn_elim (P := (fun (k : Int32 → Option (Int32)) => ∀ (v8 : Int32), k v8 = some res → V p l en (rmD 0) s m args below meth c 5 D tc B nn (Ar B nn) s.heap 0 0 (MQ below (QC D tc B nn (Ar B nn) (some (.int res)) h) args s 0 0 (Ar B nn)) h 67 [(0, .ref a0), (1, .int v1), (2, .int v2), (3, .int v8)] [])) e ?_ (fun j9 Jj9 e => ?_)
      · intro v8 e
        refine V_iload_n (q := 68) X (TB.get tb_X9_things 39 rfl) rfl rfl rfl ?_
        refine V_iload_n (q := 69) X (TB.get tb_X9_things 40 rfl) rfl rfl rfl ?_
        refine jn_elim (P := (fun (k : Int32 → Option (Int32)) => ∀ (w10 : Int32), k w10 = some res → V p l en (rmD 0) s m args below meth c 5 D tc B nn (Ar B nn) s.heap 0 0 (MQ below (QC D tc B nn (Ar B nn) (some (.int res)) h) args s 0 0 (Ar B nn)) h 77 [(0, .ref a0), (2, .int v2)] [.int w10, .int v1])) e ?_ (fun j11 Jj11 e => ?_)
        · intro w10 e
          refine V_iadd (q := 78) X (TB.get tb_X9_things 45 rfl) rfl ?_
          refine V_istore_n (q := 79) (lv' := [(1, .int (v1 + w10)), (0, .ref a0), (2, .int v2)]) X (TB.get tb_X9_things 46 rfl) rfl rfl (Nat.le_of_ble_eq_true rfl) rfl ?_
          refine V_iinc (q := 82) (v := v2 + (1 : Int32)) (lv' := [(2, .int (v2 + (1 : Int32))), (1, .int (v1 + w10)), (0, .ref a0)]) X (TB.get tb_X9_things 47 rfl) rfl rfl (by rw [c_iconst_1]) (Nat.le_of_ble_eq_true rfl) rfl ?_
          refine V_goto (q := 4) X (TB.get tb_X9_things 48 rfl) rfl ?_
          refine V_sub (lv' := [(0, .ref a0), (1, .int (v1 + w10)), (2, .int (v2 + (1 : Int32)))]) [2, 1, 0] rfl ?_
          exact ihself3 _ _ e
        refine V_if_eq (q := 72) (t := 76) X (TB.get tb_X9_things 41 rfl) rfl rfl (fun hc => ?_) (fun hc => ?_)
        · have e := (if_pos hc).symm.trans e
          refine V_iconst (v := 0) (q := 77) X (TB.get tb_X9_things 44 rfl) c_iconst_0 rfl ?_
          refine V_sub (lv' := [(0, .ref a0), (2, .int v2)]) [0, 2] rfl ?_
          exact Jj11 _ e
        · have e := (if_neg hc).symm.trans e
          refine V_iconst (v := 1) (q := 73) X (TB.get tb_X9_things 42 rfl) c_iconst_1 rfl ?_
          refine V_goto (q := 77) X (TB.get tb_X9_things 43 rfl) rfl ?_
          refine V_sub (lv' := [(0, .ref a0), (2, .int v2)]) [0, 2] rfl ?_
          exact Jj11 _ e
      refine V_sub (lv' := [(0, .ref a0), (1, .int v1), (2, .int v2), (3, .int w6), (4, .int (0 : Int32))]) [2, 3, 4, 1, 0] rfl ?_
      refine wh2_elim (P := fun v12 v13 => V p l en (rmD 0) s m args below meth c 5 D tc B nn (Ar B nn) s.heap 0 0 (MQ below (QC D tc B nn (Ar B nn) (some (.int res)) h) args s 0 0 (Ar B nn)) h 29 [(0, .ref a0), (1, .int v1), (2, .int v2), (3, .int v12), (4, .int v13)] []) (f := fu) ?_ e
      intro self14 v12 v13 ihself14 e
      unfold MX9_things_B29 at e
      refine V_iload (q := 31) X (TB.get tb_X9_things 19 rfl) rfl rfl ?_
      refine V_iload_n (q := 32) X (TB.get tb_X9_things 20 rfl) rfl rfl rfl ?_
      refine V_icmp_ge (q := 35) (t := 67) X (TB.get tb_X9_things 21 rfl) rfl rfl (fun hc => ?_) (fun hc => ?_)
      · have e := (if_pos hc).symm.trans e
        refine V_sub (lv' := [(0, .ref a0), (1, .int v1), (2, .int v2), (3, .int v12)]) [0, 1, 2, 3] rfl ?_
        exact Jj9 _ e
      · have e := (if_neg hc).symm.trans e
        refine V_iload_n (q := 36) X (TB.get tb_X9_things 22 rfl) rfl rfl rfl ?_
        refine jn_elim (P := (fun (k : Int32 → Option (Int32)) => ∀ (w15 : Int32), k w15 = some res → V p l en (rmD 0) s m args below meth c 5 D tc B nn (Ar B nn) s.heap 0 0 (MQ below (QC D tc B nn (Ar B nn) (some (.int res)) h) args s 0 0 (Ar B nn)) h 60 [(0, .ref a0), (1, .int v1), (2, .int v2), (4, .int v13)] [.int w15])) e ?_ (fun j16 Jj16 e => ?_)
        · intro w15 e
          refine V_istore_n (q := 61) (lv' := [(3, .int w15), (0, .ref a0), (1, .int v1), (2, .int v2), (4, .int v13)]) X (TB.get tb_X9_things 36 rfl) rfl rfl (Nat.le_of_ble_eq_true rfl) rfl ?_
          refine V_iinc (q := 64) (v := v13 + (1 : Int32)) (lv' := [(4, .int (v13 + (1 : Int32))), (3, .int w15), (0, .ref a0), (1, .int v1), (2, .int v2)]) X (TB.get tb_X9_things 37 rfl) rfl rfl (by rw [c_iconst_1]) (Nat.le_of_ble_eq_true rfl) rfl ?_
          refine V_goto (q := 29) X (TB.get tb_X9_things 38 rfl) rfl ?_
          refine V_sub (lv' := [(0, .ref a0), (1, .int v1), (2, .int v2), (3, .int w15), (4, .int (v13 + (1 : Int32)))]) [2, 3, 4, 1, 0] rfl ?_
          exact ihself14 _ _ e
        refine jn_elim (P := (fun (k : Option (Int32)) => k = some res → V p l en (rmD 0) s m args below meth c 5 D tc B nn (Ar B nn) s.heap 0 0 (MQ below (QC D tc B nn (Ar B nn) (some (.int res)) h) args s 0 0 (Ar B nn)) h 59 [(0, .ref a0), (1, .int v1), (2, .int v2), (4, .int v13)] [])) e ?_ (fun j17 Jj17 e => ?_)
        · intro e
          refine V_iconst (v := 0) (q := 60) X (TB.get tb_X9_things 35 rfl) c_iconst_0 rfl ?_
          exact Jj16 _ e
        refine V_if_eq (q := 39) (t := 59) X (TB.get tb_X9_things 23 rfl) rfl rfl (fun hc => ?_) (fun hc => ?_)
        · have e := (if_pos hc).symm.trans e
          refine V_sub (lv' := [(0, .ref a0), (1, .int v1), (2, .int v2), (4, .int v13)]) [0, 1, 2, 4] rfl ?_
          exact Jj17 e
        · have e := (if_neg hc).symm.trans e
          refine V_aload_n (q := 40) X (TB.get tb_X9_things 24 rfl) rfl rfl rfl ?_
          refine V_getR (q := 43) X (TB.get tb_X9_things 25 rfl) rfl lf_RX9_73 ex4 ?_
          refine V_iload (q := 45) X (TB.get tb_X9_things 26 rfl) rfl rfl ?_
          obtain ⟨x18, ex18, e⟩ := bs e
          refine V_iaload (q := 46) X (TB.get tb_X9_things 27 rfl) rfl ex18 ?_
          refine V_aload_n (q := 47) X (TB.get tb_X9_things 28 rfl) rfl rfl rfl ?_
          refine V_getR (q := 50) X (TB.get tb_X9_things 29 rfl) rfl lf_RX9_73 ex4 ?_
          refine V_iload_n (q := 51) X (TB.get tb_X9_things 30 rfl) rfl rfl rfl ?_
          refine V_iaload (q := 52) X (TB.get tb_X9_things 31 rfl) rfl ex5 ?_
          refine V_icmp_eq (q := 55) (t := 59) X (TB.get tb_X9_things 32 rfl) rfl rfl (fun hc => ?_) (fun hc => ?_)
          · have e := (if_pos hc).symm.trans e
            refine V_sub (lv' := [(0, .ref a0), (1, .int v1), (2, .int v2), (4, .int v13)]) [0, 1, 2, 4] rfl ?_
            exact Jj17 e
          · have e := (if_neg hc).symm.trans e
            refine V_iconst (v := 1) (q := 56) X (TB.get tb_X9_things 33 rfl) c_iconst_1 rfl ?_
            refine V_goto (q := 60) X (TB.get tb_X9_things 34 rfl) rfl ?_
            refine V_sub (lv' := [(0, .ref a0), (1, .int v1), (2, .int v2), (4, .int v13)]) [0, 1, 2, 4] rfl ?_
            exact Jj16 _ e
    refine V_icmp_eq (q := 20) (t := 24) X (TB.get tb_X9_things 12 rfl) rfl rfl (fun hc => ?_) (fun hc => ?_)
    · have e := (if_pos hc).symm.trans e
      refine V_iconst (v := 0) (q := 25) X (TB.get tb_X9_things 15 rfl) c_iconst_0 rfl ?_
      exact Jj7 _ e
    · have e := (if_neg hc).symm.trans e
      refine V_iconst (v := 1) (q := 21) X (TB.get tb_X9_things 13 rfl) c_iconst_1 rfl ?_
      refine V_goto (q := 25) X (TB.get tb_X9_things 14 rfl) rfl ?_
      exact Jj7 _ e
set_option maxRecDepth 100000 in
set_option maxHeartbeats 4000000 in
theorem ok_X9_empty (fu : Nat) (a0 : Nat) (h : Hp) (res : Hp) (e : MX9_empty fu a0 h = some res) : CK yX9_empty cX9_empty 2 none 1 [.ref a0] h none res ∧ (h.1 a0).1 = 9 := by
  obtain ⟨hcl, e⟩ := h_g_inv e
  refine ⟨CK_of pn_RX9 cm_X9_empty (Nat.le_of_ble_eq_true rfl) ?_, hcl⟩
  intro l D tc B nn p en s m args below meth c X hr hlk
  replace X : CX p (rmD 1) s m args c cX9_empty 2 RX9 D tc 1 := X
  show V p l en (rmD 1) s m args below meth c 2 D tc B nn (Ar B nn) s.heap 0 0 (MQ below (QC D tc B nn (Ar B nn) none res) args s 0 0 (Ar B nn)) h 0 [(0, .ref a0)] []
  refine V_iconst (v := 0) (q := 1) X (TB.get tb_X9_empty 0 rfl) c_iconst_0 rfl ?_
  refine V_istore_n (q := 2) (lv' := [(1, .int (0 : Int32)), (0, .ref a0)]) X (TB.get tb_X9_empty 1 rfl) rfl rfl (Nat.le_of_ble_eq_true rfl) rfl ?_
  refine V_sub (lv' := [(0, .ref a0), (1, .int (0 : Int32))]) [1, 0] rfl ?_
  refine wh2_elim (P := fun v1 h2 => V p l en (rmD 1) s m args below meth c 2 D tc B nn (Ar B nn) s.heap 0 0 (MQ below (QC D tc B nn (Ar B nn) none res) args s 0 0 (Ar B nn)) h2 2 [(0, .ref a0), (1, .int v1)] []) (f := fu) ?_ e
  intro self3 v1 h2 ihself3 e
  unfold MX9_empty_B2 at e
  refine V_iload_n (q := 3) X (TB.get tb_X9_empty 2 rfl) rfl rfl rfl ?_
  refine V_bipush (v := 6) (q := 5) X (TB.get tb_X9_empty 3 rfl) c_bipush_6 rfl ?_
  refine V_icmp_ge (q := 8) (t := 19) X (TB.get tb_X9_empty 4 rfl) rfl rfl (fun hc => ?_) (fun hc => ?_)
  · have e := (if_pos hc).symm.trans e
    cases e
    exact V_vret X hr hlk (TB.get tb_X9_empty 10 rfl)
  · have e := (if_neg hc).symm.trans e
    refine V_aload_n (q := 9) X (TB.get tb_X9_empty 5 rfl) rfl rfl rfl ?_
    refine V_iload_n (q := 10) X (TB.get tb_X9_empty 6 rfl) rfl rfl rfl ?_
    obtain ⟨h4, eh4, e⟩ := bs e
    refine V_callV (q := 13) (As := [.int v1]) (rest := []) (st' := []) X (TB.get tb_X9_empty 7 rfl) rfl cv_RX9_397 (ok_X9_lets a0 v1 h2 h4 eh4).1 (ok_X9_lets a0 v1 h2 h4 eh4).2 (Nat.le_of_ble_eq_true rfl) rfl rfl (Nat.le_of_ble_eq_true rfl) rfl ?_
    refine V_iinc (q := 16) (v := v1 + (1 : Int32)) (lv' := [(1, .int (v1 + (1 : Int32))), (0, .ref a0)]) X (TB.get tb_X9_empty 8 rfl) rfl rfl (by rw [c_iconst_1]) (Nat.le_of_ble_eq_true rfl) rfl ?_
    refine V_goto (q := 2) X (TB.get tb_X9_empty 9 rfl) rfl ?_
    refine V_sub (lv' := [(0, .ref a0), (1, .int (v1 + (1 : Int32)))]) [1, 0] rfl ?_
    exact ihself3 _ _ e
set_option maxRecDepth 100000 in
set_option maxHeartbeats 4000000 in
theorem ok_X9_codeOf (fu : Nat) (a0 : Nat) (a1 : Int32) (h : Hp) (res : Int64) (e : MX9_codeOf fu a0 a1 h = some res) : CK yX9_codeOf cX9_codeOf 7 (some .long) 0 [.ref a0, .int a1] h (some (.long res)) h ∧ (h.1 a0).1 = 9 := by
  obtain ⟨hcl, e⟩ := h_g_inv e
  refine ⟨CK_of pn_RX9 cm_X9_codeOf (Nat.le_of_ble_eq_true rfl) ?_, hcl⟩
  intro l D tc B nn p en s m args below meth c X hr hlk
  replace X : CX p (rmD 0) s m args c cX9_codeOf 7 RX9 D tc 0 := X
  show V p l en (rmD 0) s m args below meth c 7 D tc B nn (Ar B nn) s.heap 0 0 (MQ below (QC D tc B nn (Ar B nn) (some (.long res)) h) args s 0 0 (Ar B nn)) h 0 [(0, .ref a0), (1, .int a1)] []
  refine V_iload_n (q := 1) X (TB.get tb_X9_codeOf 0 rfl) rfl rfl rfl ?_
  refine V_i2l (q := 2) X (TB.get tb_X9_codeOf 1 rfl) rfl ?_
  refine V_lstore_n (q := 3) (lv' := [(2, .long a1.toInt64), (0, .ref a0), (1, .int a1)]) X (TB.get tb_X9_codeOf 2 rfl) rfl rfl (Nat.le_of_ble_eq_true rfl) rfl ?_
  refine V_iconst (v := 0) (q := 4) X (TB.get tb_X9_codeOf 3 rfl) c_iconst_0 rfl ?_
  refine V_istore (q := 6) (lv' := [(4, .int (0 : Int32)), (2, .long a1.toInt64), (0, .ref a0), (1, .int a1)]) X (TB.get tb_X9_codeOf 4 rfl) rfl (Nat.le_of_ble_eq_true rfl) rfl ?_
  refine V_sub (lv' := [(0, .ref a0), (2, .long a1.toInt64), (4, .int (0 : Int32))]) [2, 1, 0] rfl ?_
  refine wh2_elim (P := fun v1 v2 => V p l en (rmD 0) s m args below meth c 7 D tc B nn (Ar B nn) s.heap 0 0 (MQ below (QC D tc B nn (Ar B nn) (some (.long res)) h) args s 0 0 (Ar B nn)) h 6 [(0, .ref a0), (2, .long v1), (4, .int v2)] []) (f := fu) ?_ e
  intro self3 v1 v2 ihself3 e
  unfold MX9_codeOf_B6 at e
  refine V_iload (q := 8) X (TB.get tb_X9_codeOf 5 rfl) rfl rfl ?_
  refine V_bipush (v := 6) (q := 10) X (TB.get tb_X9_codeOf 6 rfl) c_bipush_6 rfl ?_
  refine V_icmp_ge (q := 13) (t := 124) X (TB.get tb_X9_codeOf 7 rfl) rfl rfl (fun hc => ?_) (fun hc => ?_)
  · have e := (if_pos hc).symm.trans e
    refine V_lload_n (q := 125) X (TB.get tb_X9_codeOf 70 rfl) rfl rfl rfl ?_
    cases e
    exact V_lret X hr hlk (TB.get tb_X9_codeOf 71 rfl)
  · have e := (if_neg hc).symm.trans e
    refine V_iconst (v := 0) (q := 14) X (TB.get tb_X9_codeOf 8 rfl) c_iconst_0 rfl ?_
    refine V_istore (q := 16) (lv' := [(5, .int (0 : Int32)), (0, .ref a0), (2, .long v1), (4, .int v2)]) X (TB.get tb_X9_codeOf 9 rfl) rfl (Nat.le_of_ble_eq_true rfl) rfl ?_
    refine jn_elim (P := (fun (k : Int32 → Option (Int64)) => ∀ (v4 : Int32), k v4 = some res → V p l en (rmD 0) s m args below meth c 7 D tc B nn (Ar B nn) s.heap 0 0 (MQ below (QC D tc B nn (Ar B nn) (some (.long res)) h) args s 0 0 (Ar B nn)) h 50 [(0, .ref a0), (2, .long v1), (4, .int v2), (5, .int v4)] [])) e ?_ (fun j5 Jj5 e => ?_)
    · intro v4 e
      refine V_aload_n (q := 51) X (TB.get tb_X9_codeOf 27 rfl) rfl rfl rfl ?_
      obtain ⟨x6, ex6, e⟩ := bs e
      refine V_getR (q := 54) X (TB.get tb_X9_codeOf 28 rfl) rfl lf_RX9_76 ex6 ?_
      refine V_iload (q := 56) X (TB.get tb_X9_codeOf 29 rfl) rfl rfl ?_
      obtain ⟨x7, ex7, e⟩ := bs e
      refine V_iaload (q := 57) X (TB.get tb_X9_codeOf 30 rfl) rfl ex7 ?_
      refine V_bipush (v := 8) (q := 59) X (TB.get tb_X9_codeOf 31 rfl) c_bipush_8 rfl ?_
      refine jn_elim (P := (fun (k : Int32 → Option (Int64)) => ∀ (w8 : Int32), k w8 = some res → V p l en (rmD 0) s m args below meth c 7 D tc B nn (Ar B nn) s.heap 0 0 (MQ below (QC D tc B nn (Ar B nn) (some (.long res)) h) args s 0 0 (Ar B nn)) h 75 [(0, .ref a0), (2, .long v1), (4, .int v2), (5, .int v4)] [.int w8])) e ?_ (fun j9 Jj9 e => ?_)
      · intro w8 e
        refine V_istore (q := 77) (lv' := [(6, .int w8), (0, .ref a0), (2, .long v1), (4, .int v2), (5, .int v4)]) X (TB.get tb_X9_codeOf 41 rfl) rfl (Nat.le_of_ble_eq_true rfl) rfl ?_
        refine V_lload_n (q := 78) X (TB.get tb_X9_codeOf 42 rfl) rfl rfl rfl ?_
        refine V_bipush (v := 8) (q := 80) X (TB.get tb_X9_codeOf 43 rfl) c_bipush_8 rfl ?_
        refine V_lshl (q := 81) X (TB.get tb_X9_codeOf 44 rfl) rfl ?_
        refine V_aload_n (q := 82) X (TB.get tb_X9_codeOf 45 rfl) rfl rfl rfl ?_
        obtain ⟨x10, ex10, e⟩ := bs e
        refine V_getR (q := 85) X (TB.get tb_X9_codeOf 46 rfl) rfl lf_RX9_73 ex10 ?_
        refine V_iload (q := 87) X (TB.get tb_X9_codeOf 47 rfl) rfl rfl ?_
        obtain ⟨x11, ex11, e⟩ := bs e
        refine V_iaload (q := 88) X (TB.get tb_X9_codeOf 48 rfl) rfl ex11 ?_
        refine V_iconst (v := -1) (q := 89) X (TB.get tb_X9_codeOf 49 rfl) c_iconst_m1 rfl ?_
        refine jn_elim (P := (fun (k : Int32 → Option (Int64)) => ∀ (w12 : Int32), k w12 = some res → V p l en (rmD 0) s m args below meth c 7 D tc B nn (Ar B nn) s.heap 0 0 (MQ below (QC D tc B nn (Ar B nn) (some (.long res)) h) args s 0 0 (Ar B nn)) h 115 [(0, .ref a0), (4, .int v2)] [.int w12, .long (v1 <<< ((8 : Int32).toInt64 &&& 63))])) e ?_ (fun j13 Jj13 e => ?_)
        · intro w12 e
          refine V_i2l (q := 116) X (TB.get tb_X9_codeOf 65 rfl) rfl ?_
          refine V_lor (q := 117) X (TB.get tb_X9_codeOf 66 rfl) rfl ?_
          refine V_lstore_n (q := 118) (lv' := [(2, .long ((v1 <<< ((8 : Int32).toInt64 &&& 63)) ||| w12.toInt64)), (0, .ref a0), (4, .int v2)]) X (TB.get tb_X9_codeOf 67 rfl) rfl rfl (Nat.le_of_ble_eq_true rfl) rfl ?_
          refine V_iinc (q := 121) (v := v2 + (1 : Int32)) (lv' := [(4, .int (v2 + (1 : Int32))), (2, .long ((v1 <<< ((8 : Int32).toInt64 &&& 63)) ||| w12.toInt64)), (0, .ref a0)]) X (TB.get tb_X9_codeOf 68 rfl) rfl rfl (by rw [c_iconst_1]) (Nat.le_of_ble_eq_true rfl) rfl ?_
          refine V_goto (q := 6) X (TB.get tb_X9_codeOf 69 rfl) rfl ?_
          refine V_sub (lv' := [(0, .ref a0), (2, .long ((v1 <<< ((8 : Int32).toInt64 &&& 63)) ||| w12.toInt64)), (4, .int (v2 + (1 : Int32)))]) [2, 1, 0] rfl ?_
          exact ihself3 _ _ e
        refine V_icmp_ne (q := 92) (t := 98) X (TB.get tb_X9_codeOf 50 rfl) rfl rfl (fun hc => ?_) (fun hc => ?_)
        · have e := (if_neg hc).symm.trans e
          refine V_iload (q := 100) X (TB.get tb_X9_codeOf 53 rfl) rfl rfl ?_
          refine V_iconst (v := 5) (q := 101) X (TB.get tb_X9_codeOf 54 rfl) c_iconst_5 rfl ?_
          refine V_ishl (q := 102) X (TB.get tb_X9_codeOf 55 rfl) rfl ?_
          refine V_iload (q := 104) X (TB.get tb_X9_codeOf 56 rfl) rfl rfl ?_
          refine V_iconst (v := 3) (q := 105) X (TB.get tb_X9_codeOf 57 rfl) c_iconst_3 rfl ?_
          refine V_ishl (q := 106) X (TB.get tb_X9_codeOf 58 rfl) rfl ?_
          refine V_ior (q := 107) X (TB.get tb_X9_codeOf 59 rfl) rfl ?_
          refine V_aload_n (q := 108) X (TB.get tb_X9_codeOf 60 rfl) rfl rfl rfl ?_
          obtain ⟨x14, ex14, e⟩ := bs e
          refine V_getR (q := 111) X (TB.get tb_X9_codeOf 61 rfl) rfl lf_RX9_79 ex14 ?_
          refine V_iload (q := 113) X (TB.get tb_X9_codeOf 62 rfl) rfl rfl ?_
          obtain ⟨x15, ex15, e⟩ := bs e
          refine V_iaload (q := 114) X (TB.get tb_X9_codeOf 63 rfl) rfl ex15 ?_
          refine V_ior (q := 115) X (TB.get tb_X9_codeOf 64 rfl) rfl ?_
          refine V_sub (lv' := [(0, .ref a0), (4, .int v2)]) [1, 3] rfl ?_
          exact Jj13 _ e
        · have e := (if_pos hc).symm.trans e
          refine V_sipush (v := 224) (q := 95) X (TB.get tb_X9_codeOf 51 rfl) c_sipush_224 rfl ?_
          refine V_goto (q := 115) X (TB.get tb_X9_codeOf 52 rfl) rfl ?_
          refine V_sub (lv' := [(0, .ref a0), (4, .int v2)]) [1, 3] rfl ?_
          exact Jj13 _ e
      refine V_icmp_ne (q := 62) (t := 66) X (TB.get tb_X9_codeOf 32 rfl) rfl rfl (fun hc => ?_) (fun hc => ?_)
      · have e := (if_neg hc).symm.trans e
        refine V_aload_n (q := 67) X (TB.get tb_X9_codeOf 35 rfl) rfl rfl rfl ?_
        refine V_getR (q := 70) X (TB.get tb_X9_codeOf 36 rfl) rfl lf_RX9_76 ex6 ?_
        refine V_iload (q := 72) X (TB.get tb_X9_codeOf 37 rfl) rfl rfl ?_
        refine V_iaload (q := 73) X (TB.get tb_X9_codeOf 38 rfl) rfl ex7 ?_
        refine V_iconst (v := 2) (q := 74) X (TB.get tb_X9_codeOf 39 rfl) c_iconst_2 rfl ?_
        obtain ⟨x16, ex16, e⟩ := bs e
        refine V_idiv (q := 75) X (TB.get tb_X9_codeOf 40 rfl) rfl ex16 ?_
        exact Jj9 _ e
      · have e := (if_pos hc).symm.trans e
        refine V_iconst (v := 3) (q := 63) X (TB.get tb_X9_codeOf 33 rfl) c_iconst_3 rfl ?_
        refine V_goto (q := 75) X (TB.get tb_X9_codeOf 34 rfl) rfl ?_
        exact Jj9 _ e
    refine V_sub (lv' := [(0, .ref a0), (2, .long v1), (4, .int v2), (5, .int (0 : Int32))]) [1, 2, 3, 0] rfl ?_
    refine wh1_elim (P := fun v17 => V p l en (rmD 0) s m args below meth c 7 D tc B nn (Ar B nn) s.heap 0 0 (MQ below (QC D tc B nn (Ar B nn) (some (.long res)) h) args s 0 0 (Ar B nn)) h 16 [(0, .ref a0), (2, .long v1), (4, .int v2), (5, .int v17)] []) (f := fu) ?_ e
    intro self18 v17 ihself18 e
    unfold MX9_codeOf_B16 at e
    refine V_aload_n (q := 17) X (TB.get tb_X9_codeOf 10 rfl) rfl rfl rfl ?_
    obtain ⟨x19, ex19, e⟩ := bs e
    refine V_getR (q := 20) X (TB.get tb_X9_codeOf 11 rfl) rfl lf_RX9_73 ex19 ?_
    refine V_iload (q := 22) X (TB.get tb_X9_codeOf 12 rfl) rfl rfl ?_
    obtain ⟨x20, ex20, e⟩ := bs e
    refine V_iaload (q := 23) X (TB.get tb_X9_codeOf 13 rfl) rfl ex20 ?_
    refine V_iconst (v := -1) (q := 24) X (TB.get tb_X9_codeOf 14 rfl) c_iconst_m1 rfl ?_
    refine V_icmp_eq (q := 27) (t := 50) X (TB.get tb_X9_codeOf 15 rfl) rfl rfl (fun hc => ?_) (fun hc => ?_)
    · have e := (if_pos hc).symm.trans e
      exact Jj5 _ e
    · have e := (if_neg hc).symm.trans e
      refine V_aload_n (q := 28) X (TB.get tb_X9_codeOf 16 rfl) rfl rfl rfl ?_
      refine V_getR (q := 31) X (TB.get tb_X9_codeOf 17 rfl) rfl lf_RX9_73 ex19 ?_
      refine V_iload (q := 33) X (TB.get tb_X9_codeOf 18 rfl) rfl rfl ?_
      obtain ⟨x21, ex21, e⟩ := bs e
      refine V_iaload (q := 34) X (TB.get tb_X9_codeOf 19 rfl) rfl ex21 ?_
      refine V_aload_n (q := 35) X (TB.get tb_X9_codeOf 20 rfl) rfl rfl rfl ?_
      refine V_getR (q := 38) X (TB.get tb_X9_codeOf 21 rfl) rfl lf_RX9_73 ex19 ?_
      refine V_iload (q := 40) X (TB.get tb_X9_codeOf 22 rfl) rfl rfl ?_
      refine V_iaload (q := 41) X (TB.get tb_X9_codeOf 23 rfl) rfl ex20 ?_
      refine V_icmp_eq (q := 44) (t := 50) X (TB.get tb_X9_codeOf 24 rfl) rfl rfl (fun hc => ?_) (fun hc => ?_)
      · have e := (if_pos hc).symm.trans e
        exact Jj5 _ e
      · have e := (if_neg hc).symm.trans e
        refine V_iinc (q := 47) (v := v17 + (1 : Int32)) (lv' := [(5, .int (v17 + (1 : Int32))), (0, .ref a0), (2, .long v1), (4, .int v2)]) X (TB.get tb_X9_codeOf 25 rfl) rfl rfl (by rw [c_iconst_1]) (Nat.le_of_ble_eq_true rfl) rfl ?_
        refine V_goto (q := 16) X (TB.get tb_X9_codeOf 26 rfl) rfl ?_
        refine V_sub (lv' := [(0, .ref a0), (2, .long v1), (4, .int v2), (5, .int (v17 + (1 : Int32)))]) [1, 2, 3, 0] rfl ?_
        exact ihself18 _ e
set_option maxRecDepth 100000 in
set_option maxHeartbeats 4000000 in
theorem ok_X9_lays (fu : Nat) (a0 : Nat) (a1 : Int64) (h : Hp) (res : Int32 × Hp) (e : MX9_lays fu a0 a1 h = some res) : CK yX9_lays cX9_lays 6 (some .int) 0 [.ref a0, .long a1] h (some (.int res.1)) res.2 ∧ (h.1 a0).1 = 9 := by
  obtain ⟨hcl, e⟩ := h_g_inv e
  refine ⟨CK_of pn_RX9 cm_X9_lays (Nat.le_of_ble_eq_true rfl) ?_, hcl⟩
  intro l D tc B nn p en s m args below meth c X hr hlk
  replace X : CX p (rmD 0) s m args c cX9_lays 6 RX9 D tc 0 := X
  show V p l en (rmD 0) s m args below meth c 6 D tc B nn (Ar B nn) s.heap 0 0 (MQ below (QC D tc B nn (Ar B nn) (some (.int res.1)) res.2) args s 0 0 (Ar B nn)) h 0 [(0, .ref a0), (1, .long a1)] []
  refine V_iconst (v := 0) (q := 1) X (TB.get tb_X9_lays 0 rfl) c_iconst_0 rfl ?_
  refine V_istore_n (q := 2) (lv' := [(3, .int (0 : Int32)), (0, .ref a0), (1, .long a1)]) X (TB.get tb_X9_lays 1 rfl) rfl rfl (Nat.le_of_ble_eq_true rfl) rfl ?_
  refine jn_elim (P := (fun (k : Hp → Option (Int32 × Hp)) => ∀ (h1 : Hp), k h1 = some res → V p l en (rmD 0) s m args below meth c 6 D tc B nn (Ar B nn) s.heap 0 0 (MQ below (QC D tc B nn (Ar B nn) (some (.int res.1)) res.2) args s 0 0 (Ar B nn)) h1 120 [(1, .long a1)] [])) e ?_ (fun j2 Jj2 e => ?_)
  · intro h1 e
    refine V_lload_n (q := 121) X (TB.get tb_X9_lays 73 rfl) rfl rfl rfl ?_
    refine V_bipush (v := 48) (q := 123) X (TB.get tb_X9_lays 74 rfl) c_bipush_48 rfl ?_
    refine V_lshr (q := 124) X (TB.get tb_X9_lays 75 rfl) rfl ?_
    refine V_l2i (q := 125) X (TB.get tb_X9_lays 76 rfl) rfl ?_
    cases e
    exact V_iret X hr hlk (TB.get tb_X9_lays 77 rfl)
  refine V_sub (lv' := [(0, .ref a0), (1, .long a1), (3, .int (0 : Int32))]) [1, 2, 0] rfl ?_
  refine wh2_elim (P := fun v3 h4 => V p l en (rmD 0) s m args below meth c 6 D tc B nn (Ar B nn) s.heap 0 0 (MQ below (QC D tc B nn (Ar B nn) (some (.int res.1)) res.2) args s 0 0 (Ar B nn)) h4 2 [(0, .ref a0), (1, .long a1), (3, .int v3)] []) (f := fu) ?_ e
  intro self5 v3 h4 ihself5 e
  unfold MX9_lays_B2 at e
  refine V_iload_n (q := 3) X (TB.get tb_X9_lays 2 rfl) rfl rfl rfl ?_
  refine V_bipush (v := 6) (q := 5) X (TB.get tb_X9_lays 3 rfl) c_bipush_6 rfl ?_
  refine V_icmp_ge (q := 8) (t := 120) X (TB.get tb_X9_lays 4 rfl) rfl rfl (fun hc => ?_) (fun hc => ?_)
  · have e := (if_pos hc).symm.trans e
    refine V_sub (lv' := [(1, .long a1)]) [1] rfl ?_
    exact Jj2 _ e
  · have e := (if_neg hc).symm.trans e
    refine V_lload_n (q := 9) X (TB.get tb_X9_lays 5 rfl) rfl rfl rfl ?_
    refine V_bipush (v := 8) (q := 11) X (TB.get tb_X9_lays 6 rfl) c_bipush_8 rfl ?_
    refine V_iconst (v := 5) (q := 12) X (TB.get tb_X9_lays 7 rfl) c_iconst_5 rfl ?_
    refine V_iload_n (q := 13) X (TB.get tb_X9_lays 8 rfl) rfl rfl rfl ?_
    refine V_isub (q := 14) X (TB.get tb_X9_lays 9 rfl) rfl ?_
    refine V_imul (q := 15) X (TB.get tb_X9_lays 10 rfl) rfl ?_
    refine V_lshr (q := 16) X (TB.get tb_X9_lays 11 rfl) rfl ?_
    refine V_l2i (q := 17) X (TB.get tb_X9_lays 12 rfl) rfl ?_
    refine V_sipush (v := 255) (q := 20) X (TB.get tb_X9_lays 13 rfl) c_sipush_255 rfl ?_
    refine V_iand (q := 21) X (TB.get tb_X9_lays 14 rfl) rfl ?_
    refine V_istore (q := 23) (lv' := [(4, .int (((a1 >>> (((8 : Int32) * ((5 : Int32) - v3)).toInt64 &&& 63)).toInt32) &&& (255 : Int32))), (0, .ref a0), (1, .long a1), (3, .int v3)]) X (TB.get tb_X9_lays 15 rfl) rfl (Nat.le_of_ble_eq_true rfl) rfl ?_
    refine V_iload (q := 25) X (TB.get tb_X9_lays 16 rfl) rfl rfl ?_
    refine V_iconst (v := 3) (q := 26) X (TB.get tb_X9_lays 17 rfl) c_iconst_3 rfl ?_
    refine V_ishr (q := 27) X (TB.get tb_X9_lays 18 rfl) rfl ?_
    refine V_iconst (v := 3) (q := 28) X (TB.get tb_X9_lays 19 rfl) c_iconst_3 rfl ?_
    refine V_iand (q := 29) X (TB.get tb_X9_lays 20 rfl) rfl ?_
    refine V_istore (q := 31) (lv' := [(5, .int (((((a1 >>> (((8 : Int32) * ((5 : Int32) - v3)).toInt64 &&& 63)).toInt32) &&& (255 : Int32)) >>> ((3 : Int32) &&& 31)) &&& (3 : Int32))), (4, .int (((a1 >>> (((8 : Int32) * ((5 : Int32) - v3)).toInt64 &&& 63)).toInt32) &&& (255 : Int32))), (0, .ref a0), (1, .long a1), (3, .int v3)]) X (TB.get tb_X9_lays 21 rfl) rfl (Nat.le_of_ble_eq_true rfl) rfl ?_
    refine V_aload_n (q := 32) X (TB.get tb_X9_lays 22 rfl) rfl rfl rfl ?_
    obtain ⟨x6, ex6, e⟩ := bs e
    refine V_getR (q := 35) X (TB.get tb_X9_lays 23 rfl) rfl lf_RX9_73 ex6 ?_
    refine V_iload_n (q := 36) X (TB.get tb_X9_lays 24 rfl) rfl rfl rfl ?_
    refine V_iload (q := 38) X (TB.get tb_X9_lays 25 rfl) rfl rfl ?_
    refine V_iconst (v := 5) (q := 39) X (TB.get tb_X9_lays 26 rfl) c_iconst_5 rfl ?_
    refine V_ishr (q := 40) X (TB.get tb_X9_lays 27 rfl) rfl ?_
    refine V_bipush (v := 7) (q := 42) X (TB.get tb_X9_lays 28 rfl) c_bipush_7 rfl ?_
    refine jn_elim (P := (fun (k : Int32 → Option (Int32 × Hp)) => ∀ (w7 : Int32), k w7 = some res → V p l en (rmD 0) s m args below meth c 6 D tc B nn (Ar B nn) s.heap 0 0 (MQ below (QC D tc B nn (Ar B nn) (some (.int res.1)) res.2) args s 0 0 (Ar B nn)) h4 53 [(0, .ref a0), (1, .long a1), (3, .int v3), (4, .int (((a1 >>> (((8 : Int32) * ((5 : Int32) - v3)).toInt64 &&& 63)).toInt32) &&& (255 : Int32))), (5, .int (((((a1 >>> (((8 : Int32) * ((5 : Int32) - v3)).toInt64 &&& 63)).toInt32) &&& (255 : Int32)) >>> ((3 : Int32) &&& 31)) &&& (3 : Int32)))] [.int w7, .int v3, .ref x6])) e ?_ (fun j8 Jj8 e => ?_)
    · intro w7 e
      obtain ⟨h9, eh9, e⟩ := bs e
      refine V_iastore (q := 54) X (TB.get tb_X9_lays 35 rfl) rfl eh9 ?_
      refine V_aload_n (q := 55) X (TB.get tb_X9_lays 36 rfl) rfl rfl rfl ?_
      obtain ⟨x10, ex10, e⟩ := bs e
      refine V_getR (q := 58) X (TB.get tb_X9_lays 37 rfl) rfl lf_RX9_76 ex10 ?_
      refine V_iload_n (q := 59) X (TB.get tb_X9_lays 38 rfl) rfl rfl rfl ?_
      refine V_aload_n (q := 60) X (TB.get tb_X9_lays 39 rfl) rfl rfl rfl ?_
      obtain ⟨x11, ex11, e⟩ := bs e
      refine V_getR (q := 63) X (TB.get tb_X9_lays 40 rfl) rfl lf_RX9_73 ex11 ?_
      refine V_iload_n (q := 64) X (TB.get tb_X9_lays 41 rfl) rfl rfl rfl ?_
      obtain ⟨x12, ex12, e⟩ := bs e
      refine V_iaload (q := 65) X (TB.get tb_X9_lays 42 rfl) rfl ex12 ?_
      refine V_iconst (v := -1) (q := 66) X (TB.get tb_X9_lays 43 rfl) c_iconst_m1 rfl ?_
      refine jn_elim (P := (fun (k : Int32 → Option (Int32 × Hp)) => ∀ (w13 : Int32), k w13 = some res → V p l en (rmD 0) s m args below meth c 6 D tc B nn (Ar B nn) s.heap 0 0 (MQ below (QC D tc B nn (Ar B nn) (some (.int res.1)) res.2) args s 0 0 (Ar B nn)) h9 88 [(0, .ref a0), (1, .long a1), (3, .int v3), (4, .int (((a1 >>> (((8 : Int32) * ((5 : Int32) - v3)).toInt64 &&& 63)).toInt32) &&& (255 : Int32)))] [.int w13, .int v3, .ref x10])) e ?_ (fun j14 Jj14 e => ?_)
      · intro w13 e
        obtain ⟨h15, eh15, e⟩ := bs e
        refine V_iastore (q := 89) X (TB.get tb_X9_lays 55 rfl) rfl eh15 ?_
        refine V_aload_n (q := 90) X (TB.get tb_X9_lays 56 rfl) rfl rfl rfl ?_
        obtain ⟨x16, ex16, e⟩ := bs e
        refine V_getR (q := 93) X (TB.get tb_X9_lays 57 rfl) rfl lf_RX9_79 ex16 ?_
        refine V_iload_n (q := 94) X (TB.get tb_X9_lays 58 rfl) rfl rfl rfl ?_
        refine V_aload_n (q := 95) X (TB.get tb_X9_lays 59 rfl) rfl rfl rfl ?_
        obtain ⟨x17, ex17, e⟩ := bs e
        refine V_getR (q := 98) X (TB.get tb_X9_lays 60 rfl) rfl lf_RX9_73 ex17 ?_
        refine V_iload_n (q := 99) X (TB.get tb_X9_lays 61 rfl) rfl rfl rfl ?_
        obtain ⟨x18, ex18, e⟩ := bs e
        refine V_iaload (q := 100) X (TB.get tb_X9_lays 62 rfl) rfl ex18 ?_
        refine V_iconst (v := -1) (q := 101) X (TB.get tb_X9_lays 63 rfl) c_iconst_m1 rfl ?_
        refine jn_elim (P := (fun (k : Int32 → Option (Int32 × Hp)) => ∀ (w19 : Int32), k w19 = some res → V p l en (rmD 0) s m args below meth c 6 D tc B nn (Ar B nn) s.heap 0 0 (MQ below (QC D tc B nn (Ar B nn) (some (.int res.1)) res.2) args s 0 0 (Ar B nn)) h15 113 [(0, .ref a0), (1, .long a1), (3, .int v3)] [.int w19, .int v3, .ref x16])) e ?_ (fun j20 Jj20 e => ?_)
        · intro w19 e
          obtain ⟨h21, eh21, e⟩ := bs e
          refine V_iastore (q := 114) X (TB.get tb_X9_lays 70 rfl) rfl eh21 ?_
          refine V_iinc (q := 117) (v := v3 + (1 : Int32)) (lv' := [(3, .int (v3 + (1 : Int32))), (0, .ref a0), (1, .long a1)]) X (TB.get tb_X9_lays 71 rfl) rfl rfl (by rw [c_iconst_1]) (Nat.le_of_ble_eq_true rfl) rfl ?_
          refine V_goto (q := 2) X (TB.get tb_X9_lays 72 rfl) rfl ?_
          refine V_sub (lv' := [(0, .ref a0), (1, .long a1), (3, .int (v3 + (1 : Int32)))]) [1, 2, 0] rfl ?_
          exact ihself5 _ _ e
        refine V_icmp_ne (q := 104) (t := 108) X (TB.get tb_X9_lays 64 rfl) rfl rfl (fun hc => ?_) (fun hc => ?_)
        · have e := (if_neg hc).symm.trans e
          refine V_iload (q := 110) X (TB.get tb_X9_lays 67 rfl) rfl rfl ?_
          refine V_bipush (v := 7) (q := 112) X (TB.get tb_X9_lays 68 rfl) c_bipush_7 rfl ?_
          refine V_iand (q := 113) X (TB.get tb_X9_lays 69 rfl) rfl ?_
          refine V_sub (lv' := [(0, .ref a0), (1, .long a1), (3, .int v3)]) [0, 1, 2] rfl ?_
          exact Jj20 _ e
        · have e := (if_pos hc).symm.trans e
          refine V_iconst (v := 0) (q := 105) X (TB.get tb_X9_lays 65 rfl) c_iconst_0 rfl ?_
          refine V_goto (q := 113) X (TB.get tb_X9_lays 66 rfl) rfl ?_
          refine V_sub (lv' := [(0, .ref a0), (1, .long a1), (3, .int v3)]) [0, 1, 2] rfl ?_
          exact Jj20 _ e
      refine V_icmp_ne (q := 69) (t := 73) X (TB.get tb_X9_lays 44 rfl) rfl rfl (fun hc => ?_) (fun hc => ?_)
      · have e := (if_neg hc).symm.trans e
        refine V_iload (q := 75) X (TB.get tb_X9_lays 47 rfl) rfl rfl ?_
        refine V_iconst (v := 3) (q := 76) X (TB.get tb_X9_lays 48 rfl) c_iconst_3 rfl ?_
        refine V_icmp_ne (q := 79) (t := 84) X (TB.get tb_X9_lays 49 rfl) rfl rfl (fun hc => ?_) (fun hc => ?_)
        · have e := (if_neg hc).symm.trans e
          refine V_iconst (v := 2) (q := 85) X (TB.get tb_X9_lays 52 rfl) c_iconst_2 rfl ?_
          refine V_iload (q := 87) X (TB.get tb_X9_lays 53 rfl) rfl rfl ?_
          refine V_imul (q := 88) X (TB.get tb_X9_lays 54 rfl) rfl ?_
          refine V_sub (lv' := [(0, .ref a0), (1, .long a1), (3, .int v3), (4, .int (((a1 >>> (((8 : Int32) * ((5 : Int32) - v3)).toInt64 &&& 63)).toInt32) &&& (255 : Int32)))]) [0, 1, 2, 3] rfl ?_
          exact Jj14 _ e
        · have e := (if_pos hc).symm.trans e
          refine V_bipush (v := 8) (q := 81) X (TB.get tb_X9_lays 50 rfl) c_bipush_8 rfl ?_
          refine V_goto (q := 88) X (TB.get tb_X9_lays 51 rfl) rfl ?_
          refine V_sub (lv' := [(0, .ref a0), (1, .long a1), (3, .int v3), (4, .int (((a1 >>> (((8 : Int32) * ((5 : Int32) - v3)).toInt64 &&& 63)).toInt32) &&& (255 : Int32)))]) [0, 1, 2, 3] rfl ?_
          exact Jj14 _ e
      · have e := (if_pos hc).symm.trans e
        refine V_iconst (v := 0) (q := 70) X (TB.get tb_X9_lays 45 rfl) c_iconst_0 rfl ?_
        refine V_goto (q := 88) X (TB.get tb_X9_lays 46 rfl) rfl ?_
        refine V_sub (lv' := [(0, .ref a0), (1, .long a1), (3, .int v3), (4, .int (((a1 >>> (((8 : Int32) * ((5 : Int32) - v3)).toInt64 &&& 63)).toInt32) &&& (255 : Int32)))]) [0, 1, 2, 3] rfl ?_
        exact Jj14 _ e
    refine V_icmp_ne (q := 45) (t := 49) X (TB.get tb_X9_lays 29 rfl) rfl rfl (fun hc => ?_) (fun hc => ?_)
    · have e := (if_neg hc).symm.trans e
      refine V_iload (q := 51) X (TB.get tb_X9_lays 32 rfl) rfl rfl ?_
      refine V_iconst (v := 5) (q := 52) X (TB.get tb_X9_lays 33 rfl) c_iconst_5 rfl ?_
      refine V_ishr (q := 53) X (TB.get tb_X9_lays 34 rfl) rfl ?_
      refine V_sub (lv' := [(0, .ref a0), (1, .long a1), (3, .int v3), (4, .int (((a1 >>> (((8 : Int32) * ((5 : Int32) - v3)).toInt64 &&& 63)).toInt32) &&& (255 : Int32))), (5, .int (((((a1 >>> (((8 : Int32) * ((5 : Int32) - v3)).toInt64 &&& 63)).toInt32) &&& (255 : Int32)) >>> ((3 : Int32) &&& 31)) &&& (3 : Int32)))]) [2, 3, 4, 1, 0] rfl ?_
      exact Jj8 _ e
    · have e := (if_pos hc).symm.trans e
      refine V_iconst (v := -1) (q := 46) X (TB.get tb_X9_lays 30 rfl) c_iconst_m1 rfl ?_
      refine V_goto (q := 53) X (TB.get tb_X9_lays 31 rfl) rfl ?_
      refine V_sub (lv' := [(0, .ref a0), (1, .long a1), (3, .int v3), (4, .int (((a1 >>> (((8 : Int32) * ((5 : Int32) - v3)).toInt64 &&& 63)).toInt32) &&& (255 : Int32))), (5, .int (((((a1 >>> (((8 : Int32) * ((5 : Int32) - v3)).toInt64 &&& 63)).toInt32) &&& (255 : Int32)) >>> ((3 : Int32) &&& 31)) &&& (3 : Int32)))]) [2, 3, 4, 1, 0] rfl ?_
      exact Jj8 _ e
set_option maxRecDepth 100000 in
set_option maxHeartbeats 4000000 in
theorem ok_X9_adds (fu : Nat) (a0 : Nat) (a1 : Int32) (a2 : Int32) (h : Hp) (res : Hp) (e : MX9_adds fu a0 a1 a2 h = some res) : CK yX9_adds cX9_adds 6 none 1 [.ref a0, .int a1, .int a2] h none res ∧ (h.1 a0).1 = 9 := by
  obtain ⟨hcl, e⟩ := h_g_inv e
  refine ⟨CK_of pn_RX9 cm_X9_adds (Nat.le_of_ble_eq_true rfl) ?_, hcl⟩
  intro l D tc B nn p en s m args below meth c X hr hlk
  replace X : CX p (rmD 1) s m args c cX9_adds 6 RX9 D tc 1 := X
  show V p l en (rmD 1) s m args below meth c 6 D tc B nn (Ar B nn) s.heap 0 0 (MQ below (QC D tc B nn (Ar B nn) none res) args s 0 0 (Ar B nn)) h 0 [(0, .ref a0), (1, .int a1), (2, .int a2)] []
  refine V_aload_n (q := 1) X (TB.get tb_X9_adds 0 rfl) rfl rfl rfl ?_
  refine V_iload_n (q := 2) X (TB.get tb_X9_adds 1 rfl) rfl rfl rfl ?_
  obtain ⟨x1, ex1, e⟩ := bs e
  refine V_callV (q := 5) (As := [.int a1]) (rest := []) (st' := [.long x1]) X (TB.get tb_X9_adds 2 rfl) rfl cv_RX9_406 (ok_X9_codeOf fu a0 a1 h x1 ex1).1 (ok_X9_codeOf fu a0 a1 h x1 ex1).2 (Nat.le_of_ble_eq_true rfl) rfl rfl (Nat.le_of_ble_eq_true rfl) rfl ?_
  refine V_lstore_n (q := 6) (lv' := [(3, .long x1), (0, .ref a0), (1, .int a1), (2, .int a2)]) X (TB.get tb_X9_adds 3 rfl) rfl rfl (Nat.le_of_ble_eq_true rfl) rfl ?_
  refine V_iconst (v := 0) (q := 7) X (TB.get tb_X9_adds 4 rfl) c_iconst_0 rfl ?_
  refine V_istore (q := 9) (lv' := [(5, .int (0 : Int32)), (3, .long x1), (0, .ref a0), (1, .int a1), (2, .int a2)]) X (TB.get tb_X9_adds 5 rfl) rfl (Nat.le_of_ble_eq_true rfl) rfl ?_
  refine jn_elim (P := (fun (k : Option (Hp)) => k = some res → V p l en (rmD 1) s m args below meth c 6 D tc B nn (Ar B nn) s.heap 0 0 (MQ below (QC D tc B nn (Ar B nn) none res) args s 0 0 (Ar B nn)) h 37 [(0, .ref a0), (2, .int a2), (3, .long x1)] [])) e ?_ (fun j2 Jj2 e => ?_)
  · intro e
    refine V_aload_n (q := 38) X (TB.get tb_X9_adds 20 rfl) rfl rfl rfl ?_
    obtain ⟨x3, ex3, e⟩ := bs e
    refine V_getI (q := 41) X (TB.get tb_X9_adds 21 rfl) rfl lf_RX9_409 ex3 ?_
    refine V_sipush (v := 1000) (q := 44) X (TB.get tb_X9_adds 22 rfl) c_sipush_1000 rfl ?_
    refine V_icmp_ne (q := 47) (t := 53) X (TB.get tb_X9_adds 23 rfl) rfl rfl (fun hc => ?_) (fun hc => ?_)
    · have e := (if_neg hc).symm.trans e
      refine V_aload_n (q := 54) X (TB.get tb_X9_adds 28 rfl) rfl rfl rfl ?_
      obtain ⟨x4, ex4, e⟩ := bs e
      refine V_getR (q := 57) X (TB.get tb_X9_adds 29 rfl) rfl lf_RX9_85 ex4 ?_
      refine V_aload_n (q := 58) X (TB.get tb_X9_adds 30 rfl) rfl rfl rfl ?_
      refine V_getI (q := 61) X (TB.get tb_X9_adds 31 rfl) rfl lf_RX9_409 ex3 ?_
      refine V_lload_n (q := 62) X (TB.get tb_X9_adds 32 rfl) rfl rfl rfl ?_
      obtain ⟨h5, eh5, e⟩ := bs e
      refine V_lastore (q := 63) X (TB.get tb_X9_adds 33 rfl) rfl eh5 ?_
      refine V_aload_n (q := 64) X (TB.get tb_X9_adds 34 rfl) rfl rfl rfl ?_
      obtain ⟨x6, ex6, e⟩ := bs e
      refine V_getR (q := 67) X (TB.get tb_X9_adds 35 rfl) rfl lf_RX9_88 ex6 ?_
      refine V_aload_n (q := 68) X (TB.get tb_X9_adds 36 rfl) rfl rfl rfl ?_
      obtain ⟨x7, ex7, e⟩ := bs e
      refine V_getI (q := 71) X (TB.get tb_X9_adds 37 rfl) rfl lf_RX9_409 ex7 ?_
      refine V_iload_n (q := 72) X (TB.get tb_X9_adds 38 rfl) rfl rfl rfl ?_
      obtain ⟨h8, eh8, e⟩ := bs e
      refine V_iastore (q := 73) X (TB.get tb_X9_adds 39 rfl) rfl eh8 ?_
      refine V_aload_n (q := 74) X (TB.get tb_X9_adds 40 rfl) rfl rfl rfl ?_
      refine V_dup (q := 75) X (TB.get tb_X9_adds 41 rfl) rfl rfl ?_
      obtain ⟨x9, ex9, e⟩ := bs e
      refine V_getI (q := 78) X (TB.get tb_X9_adds 42 rfl) rfl lf_RX9_409 ex9 ?_
      refine V_iconst (v := 1) (q := 79) X (TB.get tb_X9_adds 43 rfl) c_iconst_1 rfl ?_
      refine V_iadd (q := 80) X (TB.get tb_X9_adds 44 rfl) rfl ?_
      obtain ⟨h10, eh10, e⟩ := bs e
      refine V_putI (q := 83) X (TB.get tb_X9_adds 45 rfl) rfl lq_RX9_409 eh10 ?_
      cases e
      exact V_vret X hr hlk (TB.get tb_X9_adds 46 rfl)
    · have e := (if_pos hc).symm.trans e
      refine V_aload_n (q := 48) X (TB.get tb_X9_adds 24 rfl) rfl rfl rfl ?_
      refine V_iconst (v := 1) (q := 49) X (TB.get tb_X9_adds 25 rfl) c_iconst_1 rfl ?_
      obtain ⟨h11, eh11, e⟩ := bs e
      refine V_putZ (q := 52) X (TB.get tb_X9_adds 26 rfl) rfl lq_RX9_412 eh11 ?_
      cases e
      exact V_vret X hr hlk (TB.get tb_X9_adds 27 rfl)
  refine V_sub (lv' := [(0, .ref a0), (2, .int a2), (3, .long x1), (5, .int (0 : Int32))]) [2, 4, 1, 0] rfl ?_
  refine wh1_elim (P := fun v12 => V p l en (rmD 1) s m args below meth c 6 D tc B nn (Ar B nn) s.heap 0 0 (MQ below (QC D tc B nn (Ar B nn) none res) args s 0 0 (Ar B nn)) h 9 [(0, .ref a0), (2, .int a2), (3, .long x1), (5, .int v12)] []) (f := fu) ?_ e
  intro self13 v12 ihself13 e
  unfold MX9_adds_B9 at e
  refine V_iload (q := 11) X (TB.get tb_X9_adds 6 rfl) rfl rfl ?_
  refine V_aload_n (q := 12) X (TB.get tb_X9_adds 7 rfl) rfl rfl rfl ?_
  obtain ⟨x14, ex14, e⟩ := bs e
  refine V_getI (q := 15) X (TB.get tb_X9_adds 8 rfl) rfl lf_RX9_409 ex14 ?_
  refine V_icmp_ge (q := 18) (t := 37) X (TB.get tb_X9_adds 9 rfl) rfl rfl (fun hc => ?_) (fun hc => ?_)
  · have e := (if_pos hc).symm.trans e
    refine V_sub (lv' := [(0, .ref a0), (2, .int a2), (3, .long x1)]) [0, 1, 2] rfl ?_
    exact Jj2 e
  · have e := (if_neg hc).symm.trans e
    refine V_aload_n (q := 19) X (TB.get tb_X9_adds 10 rfl) rfl rfl rfl ?_
    obtain ⟨x15, ex15, e⟩ := bs e
    refine V_getR (q := 22) X (TB.get tb_X9_adds 11 rfl) rfl lf_RX9_85 ex15 ?_
    refine V_iload (q := 24) X (TB.get tb_X9_adds 12 rfl) rfl rfl ?_
    obtain ⟨x16, ex16, e⟩ := bs e
    refine V_laload (q := 25) X (TB.get tb_X9_adds 13 rfl) rfl ex16 ?_
    refine V_lload_n (q := 26) X (TB.get tb_X9_adds 14 rfl) rfl rfl rfl ?_
    refine V_lcmp (q := 27) X (TB.get tb_X9_adds 15 rfl) rfl ?_
    refine V_if_ne (q := 30) (t := 31) X (TB.get tb_X9_adds 16 rfl) rfl rfl (fun hc => ?_) (fun hc => ?_)
    · have e := (if_neg hc).symm.trans e
      refine V_iinc (q := 34) (v := v12 + (1 : Int32)) (lv' := [(5, .int (v12 + (1 : Int32))), (0, .ref a0), (2, .int a2), (3, .long x1)]) X (TB.get tb_X9_adds 18 rfl) rfl rfl (by rw [c_iconst_1]) (Nat.le_of_ble_eq_true rfl) rfl ?_
      refine V_goto (q := 9) X (TB.get tb_X9_adds 19 rfl) rfl ?_
      refine V_sub (lv' := [(0, .ref a0), (2, .int a2), (3, .long x1), (5, .int (v12 + (1 : Int32)))]) [1, 2, 3, 0] rfl ?_
      exact ihself13 _ e
    · have e := (if_pos hc).symm.trans e
      cases e
      exact V_vret X hr hlk (TB.get tb_X9_adds 17 rfl)
