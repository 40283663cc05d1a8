set_option maxRecDepth 100000 in
set_option maxHeartbeats 4000000 in
theorem ok_X8_paths (fu : Nat) (a0 : Nat) (a1 : Int32) (h : Hp) (res : Int32 × Hp) (e : MX8_paths fu a0 a1 h = some res) : CK yX8_paths cX8_paths 4 (some .int) 6 [.ref a0, .int a1] h (some (.int res.1)) res.2 ∧ (h.1 a0).1 = 8 := by
  obtain ⟨hcl, e⟩ := h_g_inv e
  refine ⟨CK_of pn_RX8 cm_X8_paths (Nat.le_of_ble_eq_true rfl) ?_, hcl⟩
  intro l D tc B nn p en s m args below meth c X hr hlk
  replace X : CX p (rmD 6) s m args c cX8_paths 4 RX8 D tc 6 := X
  show V p l en (rmD 6) s m args below meth c 4 D tc B nn (Ar B nn) s.heap 0 0 (MQ below (QC D tc B nn (Ar B nn) (some (.int res.1)) res.2) args s 0 0 (Ar B nn)) h 0 [(0, .ref a0), (1, .int a1)] []
  refine V_iload_n (q := 1) X (TB.get tb_X8_paths 0 rfl) rfl rfl rfl ?_
  refine jn_elim (P := (fun (k : Option (Int32 × Hp)) => k = some res → V p l en (rmD 6) s m args below meth c 4 D tc B nn (Ar B nn) s.heap 0 0 (MQ below (QC D tc B nn (Ar B nn) (some (.int res.1)) res.2) args s 0 0 (Ar B nn)) h 10 [(0, .ref a0)] [])) e ?_ (fun j1 Jj1 e => ?_)
  · intro e
    refine V_aload_n (q := 11) X (TB.get tb_X8_paths 5 rfl) rfl rfl rfl ?_
    refine V_iconst (v := 1) (q := 12) X (TB.get tb_X8_paths 6 rfl) c_iconst_1 rfl ?_
    obtain ⟨p2, ep2, e⟩ := bs e
    refine V_callV (q := 15) (As := [.int (1 : Int32)]) (rest := []) (st' := [.int p2.1]) X (TB.get tb_X8_paths 7 rfl) rfl cv_RX8_80 (ok_X8_refuse a0 (1 : Int32) h p2 ep2).1 (ok_X8_refuse a0 (1 : Int32) h p2 ep2).2 (Nat.le_of_ble_eq_true rfl) rfl rfl (Nat.le_of_ble_eq_true rfl) rfl ?_
    cases e
    exact V_iret X hr hlk (TB.get tb_X8_paths 8 rfl)
  refine V_if_lt (q := 4) (t := 10) X (TB.get tb_X8_paths 1 rfl) rfl rfl (fun hc => ?_) (fun hc => ?_)
  · have e := (if_pos hc).symm.trans e
    refine V_sub (lv' := [(0, .ref a0)]) [0] rfl ?_
    exact Jj1 e
  · have e := (if_neg hc).symm.trans e
    refine V_iload_n (q := 5) X (TB.get tb_X8_paths 2 rfl) rfl rfl rfl ?_
    refine V_bipush (v := 6) (q := 7) X (TB.get tb_X8_paths 3 rfl) c_bipush_6 rfl ?_
    refine V_icmp_le (q := 10) (t := 16) X (TB.get tb_X8_paths 4 rfl) rfl rfl (fun hc => ?_) (fun hc => ?_)
    · have e := (if_pos hc).symm.trans e
      refine V_aload_n (q := 17) X (TB.get tb_X8_paths 9 rfl) rfl rfl rfl ?_
      obtain ⟨p3, ep3, e⟩ := bs e
      refine V_callV (q := 20) (As := []) (rest := []) (st' := [.ref p3.1]) X (TB.get tb_X8_paths 10 rfl) rfl cv_RX8_242 (ok_X8_finishedSearch fu a0 h p3 ep3).1 (ok_X8_finishedSearch fu a0 h p3 ep3).2 (Nat.le_of_ble_eq_true rfl) rfl rfl (Nat.le_of_ble_eq_true rfl) rfl ?_
      refine V_astore_n (q := 21) (lv' := [(2, .ref p3.1), (0, .ref a0), (1, .int a1)]) X (TB.get tb_X8_paths 11 rfl) rfl rfl (Nat.le_of_ble_eq_true rfl) rfl ?_
      refine V_aload_n (q := 22) X (TB.get tb_X8_paths 12 rfl) rfl rfl rfl ?_
      obtain ⟨x4, ex4, e⟩ := bs e
      refine V_getI (q := 25) X (TB.get tb_X8_paths 13 rfl) rfl lf_RX8_246 ex4 ?_
      refine V_if_eq (q := 28) (t := 35) X (TB.get tb_X8_paths 14 rfl) rfl rfl (fun hc => ?_) (fun hc => ?_)
      · have e := (if_pos hc).symm.trans e
        refine V_aload_n (q := 36) X (TB.get tb_X8_paths 19 rfl) rfl rfl rfl ?_
        obtain ⟨x5, ex5, e⟩ := bs e
        refine V_getI (q := 39) X (TB.get tb_X8_paths 20 rfl) rfl lf_RX8_250 ex5 ?_
        refine jn_elim (P := (fun (k : Int32 → Option (Int32 × Hp)) => ∀ (w6 : Int32), k w6 = some res → V p l en (rmD 6) s m args below meth c 4 D tc B nn (Ar B nn) s.heap 0 0 (MQ below (QC D tc B nn (Ar B nn) (some (.int res.1)) res.2) args s 0 0 (Ar B nn)) p3.2 47 [(0, .ref a0), (1, .int a1), (2, .ref p3.1)] [.int w6])) e ?_ (fun j7 Jj7 e => ?_)
        · intro w6 e
          refine V_istore_n (q := 48) (lv' := [(3, .int w6), (0, .ref a0), (1, .int a1), (2, .ref p3.1)]) X (TB.get tb_X8_paths 25 rfl) rfl rfl (Nat.le_of_ble_eq_true rfl) rfl ?_
          refine V_iload_n (q := 49) X (TB.get tb_X8_paths 26 rfl) rfl rfl rfl ?_
          by_cases hc0 : a1 = (0 : Int32)
          · have e := (if_pos hc0).symm.trans e
            rw [hc0]
            refine V_tabIn (q := 88) X (TB.get tb_X8_paths 27 rfl) (by decide) (by decide) rfl rfl ?_
            refine V_aload_n (q := 89) X (TB.get tb_X8_paths 28 rfl) rfl rfl rfl ?_
            refine V_aload_n (q := 90) X (TB.get tb_X8_paths 29 rfl) rfl rfl rfl ?_
            obtain ⟨x8, ex8, e⟩ := bs e
            refine V_getI (q := 93) X (TB.get tb_X8_paths 30 rfl) rfl lf_RX8_253 ex8 ?_
            obtain ⟨p9, ep9, e⟩ := bs e
            refine V_callV (q := 96) (As := [.int x8]) (rest := []) (st' := [.int p9.1]) X (TB.get tb_X8_paths 31 rfl) rfl cv_RX8_100 (ok_X8_answer a0 x8 p3.2 p9 ep9).1 (ok_X8_answer a0 x8 p3.2 p9 ep9).2 (Nat.le_of_ble_eq_true rfl) rfl rfl (Nat.le_of_ble_eq_true rfl) rfl ?_
            cases e
            exact V_iret X hr hlk (TB.get tb_X8_paths 32 rfl)
          have e := (if_neg hc0).symm.trans e
          by_cases hc1 : a1 = (1 : Int32)
          · have e := (if_pos hc1).symm.trans e
            rw [hc1]
            refine V_tabIn (q := 97) X (TB.get tb_X8_paths 27 rfl) (by decide) (by decide) rfl rfl ?_
            refine V_aload_n (q := 98) X (TB.get tb_X8_paths 33 rfl) rfl rfl rfl ?_
            refine V_aload_n (q := 99) X (TB.get tb_X8_paths 34 rfl) rfl rfl rfl ?_
            refine V_getI (q := 102) X (TB.get tb_X8_paths 35 rfl) rfl lf_RX8_250 ex5 ?_
            obtain ⟨p10, ep10, e⟩ := bs e
            refine V_callV (q := 105) (As := [.int x5]) (rest := []) (st' := [.int p10.1]) X (TB.get tb_X8_paths 36 rfl) rfl cv_RX8_100 (ok_X8_answer a0 x5 p3.2 p10 ep10).1 (ok_X8_answer a0 x5 p3.2 p10 ep10).2 (Nat.le_of_ble_eq_true rfl) rfl rfl (Nat.le_of_ble_eq_true rfl) rfl ?_
            cases e
            exact V_iret X hr hlk (TB.get tb_X8_paths 37 rfl)
          have e := (if_neg hc1).symm.trans e
          by_cases hc2 : a1 = (2 : Int32)
          · have e := (if_pos hc2).symm.trans e
            rw [hc2]
            refine V_tabIn (q := 106) X (TB.get tb_X8_paths 27 rfl) (by decide) (by decide) rfl rfl ?_
            refine V_iload_n (q := 107) X (TB.get tb_X8_paths 38 rfl) rfl rfl rfl ?_
            refine V_if_eq (q := 110) (t := 121) X (TB.get tb_X8_paths 39 rfl) rfl rfl (fun hc => ?_) (fun hc => ?_)
            · have e := (if_pos hc).symm.trans e
              refine V_aload_n (q := 122) X (TB.get tb_X8_paths 45 rfl) rfl rfl rfl ?_
              refine V_iconst (v := 5) (q := 123) X (TB.get tb_X8_paths 46 rfl) c_iconst_5 rfl ?_
              obtain ⟨p11, ep11, e⟩ := bs e
              refine V_callV (q := 126) (As := [.int (5 : Int32)]) (rest := []) (st' := [.int p11.1]) X (TB.get tb_X8_paths 47 rfl) rfl cv_RX8_80 (ok_X8_refuse a0 (5 : Int32) p3.2 p11 ep11).1 (ok_X8_refuse a0 (5 : Int32) p3.2 p11 ep11).2 (Nat.le_of_ble_eq_true rfl) rfl rfl (Nat.le_of_ble_eq_true rfl) rfl ?_
              cases e
              exact V_iret X hr hlk (TB.get tb_X8_paths 48 rfl)
            · have e := (if_neg hc).symm.trans e
              refine V_aload_n (q := 111) X (TB.get tb_X8_paths 40 rfl) rfl rfl rfl ?_
              refine V_aload_n (q := 112) X (TB.get tb_X8_paths 41 rfl) rfl rfl rfl ?_
              obtain ⟨x12, ex12, e⟩ := bs e
              refine V_getI (q := 115) X (TB.get tb_X8_paths 42 rfl) rfl lf_RX8_254 ex12 ?_
              obtain ⟨p13, ep13, e⟩ := bs e
              refine V_callV (q := 118) (As := [.int x12]) (rest := []) (st' := [.int p13.1]) X (TB.get tb_X8_paths 43 rfl) rfl cv_RX8_100 (ok_X8_answer a0 x12 p3.2 p13 ep13).1 (ok_X8_answer a0 x12 p3.2 p13 ep13).2 (Nat.le_of_ble_eq_true rfl) rfl rfl (Nat.le_of_ble_eq_true rfl) rfl ?_
              refine V_goto (q := 126) X (TB.get tb_X8_paths 44 rfl) rfl ?_
              cases e
              exact V_iret X hr hlk (TB.get tb_X8_paths 48 rfl)
          have e := (if_neg hc2).symm.trans e
          by_cases hc3 : a1 = (3 : Int32)
          · have e := (if_pos hc3).symm.trans e
            rw [hc3]
            refine V_tabIn (q := 127) X (TB.get tb_X8_paths 27 rfl) (by decide) (by decide) rfl rfl ?_
            refine V_iload_n (q := 128) X (TB.get tb_X8_paths 49 rfl) rfl rfl rfl ?_
            refine V_if_eq (q := 131) (t := 142) X (TB.get tb_X8_paths 50 rfl) rfl rfl (fun hc => ?_) (fun hc => ?_)
            · have e := (if_pos hc).symm.trans e
              refine V_aload_n (q := 143) X (TB.get tb_X8_paths 56 rfl) rfl rfl rfl ?_
              refine V_iconst (v := 5) (q := 144) X (TB.get tb_X8_paths 57 rfl) c_iconst_5 rfl ?_
              obtain ⟨p14, ep14, e⟩ := bs e
              refine V_callV (q := 147) (As := [.int (5 : Int32)]) (rest := []) (st' := [.int p14.1]) X (TB.get tb_X8_paths 58 rfl) rfl cv_RX8_80 (ok_X8_refuse a0 (5 : Int32) p3.2 p14 ep14).1 (ok_X8_refuse a0 (5 : Int32) p3.2 p14 ep14).2 (Nat.le_of_ble_eq_true rfl) rfl rfl (Nat.le_of_ble_eq_true rfl) rfl ?_
              cases e
              exact V_iret X hr hlk (TB.get tb_X8_paths 59 rfl)
            · have e := (if_neg hc).symm.trans e
              refine V_aload_n (q := 132) X (TB.get tb_X8_paths 51 rfl) rfl rfl rfl ?_
              refine V_aload_n (q := 133) X (TB.get tb_X8_paths 52 rfl) rfl rfl rfl ?_
              obtain ⟨x15, ex15, e⟩ := bs e
              refine V_getI (q := 136) X (TB.get tb_X8_paths 53 rfl) rfl lf_RX8_257 ex15 ?_
              obtain ⟨p16, ep16, e⟩ := bs e
              refine V_callV (q := 139) (As := [.int x15]) (rest := []) (st' := [.int p16.1]) X (TB.get tb_X8_paths 54 rfl) rfl cv_RX8_100 (ok_X8_answer a0 x15 p3.2 p16 ep16).1 (ok_X8_answer a0 x15 p3.2 p16 ep16).2 (Nat.le_of_ble_eq_true rfl) rfl rfl (Nat.le_of_ble_eq_true rfl) rfl ?_
              refine V_goto (q := 147) X (TB.get tb_X8_paths 55 rfl) rfl ?_
              cases e
              exact V_iret X hr hlk (TB.get tb_X8_paths 59 rfl)
          have e := (if_neg hc3).symm.trans e
          by_cases hc4 : a1 = (4 : Int32)
          · have e := (if_pos hc4).symm.trans e
            rw [hc4]
            refine V_tabIn (q := 148) X (TB.get tb_X8_paths 27 rfl) (by decide) (by decide) rfl rfl ?_
            refine V_aload_n (q := 149) X (TB.get tb_X8_paths 60 rfl) rfl rfl rfl ?_
            refine V_iload_n (q := 150) X (TB.get tb_X8_paths 61 rfl) rfl rfl rfl ?_
            refine jn_elim (P := (fun (k : Int32 → Hp → Option (Int32 × Hp)) => ∀ (w17 : Int32) (h18 : Hp), k w17 h18 = some res → V p l en (rmD 6) s m args below meth c 4 D tc B nn (Ar B nn) s.heap 0 0 (MQ below (QC D tc B nn (Ar B nn) (some (.int res.1)) res.2) args s 0 0 (Ar B nn)) h18 168 [] [.int w17, .ref a0])) e ?_ (fun j19 Jj19 e => ?_)
            · intro w17 h18 e
              obtain ⟨p20, ep20, e⟩ := bs e
              refine V_callV (q := 171) (As := [.int w17]) (rest := []) (st' := [.int p20.1]) X (TB.get tb_X8_paths 70 rfl) rfl cv_RX8_100 (ok_X8_answer a0 w17 h18 p20 ep20).1 (ok_X8_answer a0 w17 h18 p20 ep20).2 (Nat.le_of_ble_eq_true rfl) rfl rfl (Nat.le_of_ble_eq_true rfl) rfl ?_
              cases e
              exact V_iret X hr hlk (TB.get tb_X8_paths 71 rfl)
            refine jn_elim (P := (fun (k : Hp → Option (Int32 × Hp)) => ∀ (h21 : Hp), k h21 = some res → V p l en (rmD 6) s m args below meth c 4 D tc B nn (Ar B nn) s.heap 0 0 (MQ below (QC D tc B nn (Ar B nn) (some (.int res.1)) res.2) args s 0 0 (Ar B nn)) h21 167 [] [.ref a0])) e ?_ (fun j22 Jj22 e => ?_)
            · intro h21 e
              refine V_iconst (v := 0) (q := 168) X (TB.get tb_X8_paths 69 rfl) c_iconst_0 rfl ?_
              exact Jj19 _ _ e
            refine V_if_ne (q := 153) (t := 167) X (TB.get tb_X8_paths 62 rfl) rfl rfl (fun hc => ?_) (fun hc => ?_)
            · have e := (if_neg hc).symm.trans e
              refine V_sub (lv' := []) [] rfl ?_
              exact Jj22 _ e
            · have e := (if_pos hc).symm.trans e
              refine V_aload_n (q := 154) X (TB.get tb_X8_paths 63 rfl) rfl rfl rfl ?_
              obtain ⟨p23, ep23, e⟩ := bs e
              refine V_callV (q := 157) (As := []) (rest := [.ref a0]) (st' := [.ref p23.1, .ref a0]) X (TB.get tb_X8_paths 64 rfl) rfl cv_RX8_203 (ok_X8_solvedFlow fu a0 p3.2 p23 ep23).1 (ok_X8_solvedFlow fu a0 p3.2 p23 ep23).2 (Nat.le_of_ble_eq_true rfl) rfl rfl (Nat.le_of_ble_eq_true rfl) rfl ?_
              obtain ⟨x24, ex24, e⟩ := bs e
              refine V_getI (q := 160) X (TB.get tb_X8_paths 65 rfl) rfl lf_RX8_207 ex24 ?_
              refine V_if_le (q := 163) (t := 167) X (TB.get tb_X8_paths 66 rfl) rfl rfl (fun hc => ?_) (fun hc => ?_)
              · have e := (if_pos hc).symm.trans e
                refine V_sub (lv' := []) [] rfl ?_
                exact Jj22 _ e
              · have e := (if_neg hc).symm.trans e
                refine V_iconst (v := 1) (q := 164) X (TB.get tb_X8_paths 67 rfl) c_iconst_1 rfl ?_
                refine V_goto (q := 168) X (TB.get tb_X8_paths 68 rfl) rfl ?_
                refine V_sub (lv' := []) [] rfl ?_
                exact Jj19 _ _ e
          have e := (if_neg hc4).symm.trans e
          by_cases hc5 : a1 = (5 : Int32)
          · have e := (if_pos hc5).symm.trans e
            rw [hc5]
            refine V_tabIn (q := 172) X (TB.get tb_X8_paths 27 rfl) (by decide) (by decide) rfl rfl ?_
            refine V_aload_n (q := 173) X (TB.get tb_X8_paths 72 rfl) rfl rfl rfl ?_
            refine V_aload_n (q := 174) X (TB.get tb_X8_paths 73 rfl) rfl rfl rfl ?_
            obtain ⟨x25, ex25, e⟩ := bs e
            refine V_getI (q := 177) X (TB.get tb_X8_paths 74 rfl) rfl lf_RX8_260 ex25 ?_
            obtain ⟨p26, ep26, e⟩ := bs e
            refine V_callV (q := 180) (As := [.int x25]) (rest := []) (st' := [.int p26.1]) X (TB.get tb_X8_paths 75 rfl) rfl cv_RX8_100 (ok_X8_answer a0 x25 p3.2 p26 ep26).1 (ok_X8_answer a0 x25 p3.2 p26 ep26).2 (Nat.le_of_ble_eq_true rfl) rfl rfl (Nat.le_of_ble_eq_true rfl) rfl ?_
            cases e
            exact V_iret X hr hlk (TB.get tb_X8_paths 76 rfl)
          have e := (if_neg hc5).symm.trans e
          have hout : a1.toInt < 0 ∨ 5 < a1.toInt := tab_out a1 (0) (5) [0, 1, 2, 3, 4, 5] (by decide +kernel) (fun v hv => by simp only [List.mem_cons, List.not_mem_nil, or_false] at hv; rcases hv with rfl | rfl | rfl | rfl | rfl | rfl <;> assumption)
          refine V_tabOut (q := 181) X (TB.get tb_X8_paths 27 rfl) hout rfl ?_
          refine V_aload_n (q := 182) X (TB.get tb_X8_paths 77 rfl) rfl rfl rfl ?_
          refine V_aload_n (q := 183) X (TB.get tb_X8_paths 78 rfl) rfl rfl rfl ?_
          obtain ⟨x27, ex27, e⟩ := bs e
          refine V_getI (q := 186) X (TB.get tb_X8_paths 79 rfl) rfl lf_RX8_263 ex27 ?_
          obtain ⟨p28, ep28, e⟩ := bs e
          refine V_callV (q := 189) (As := [.int x27]) (rest := []) (st' := [.int p28.1]) X (TB.get tb_X8_paths 80 rfl) rfl cv_RX8_100 (ok_X8_answer a0 x27 p3.2 p28 ep28).1 (ok_X8_answer a0 x27 p3.2 p28 ep28).2 (Nat.le_of_ble_eq_true rfl) rfl rfl (Nat.le_of_ble_eq_true rfl) rfl ?_
          cases e
          exact V_iret X hr hlk (TB.get tb_X8_paths 81 rfl)
        refine V_if_le (q := 42) (t := 46) X (TB.get tb_X8_paths 21 rfl) rfl rfl (fun hc => ?_) (fun hc => ?_)
        · have e := (if_pos hc).symm.trans e
          refine V_iconst (v := 0) (q := 47) X (TB.get tb_X8_paths 24 rfl) c_iconst_0 rfl ?_
          refine V_sub (lv' := [(0, .ref a0), (1, .int a1), (2, .ref p3.1)]) [1, 2, 0] rfl ?_
          exact Jj7 _ e
        · have e := (if_neg hc).symm.trans e
          refine V_iconst (v := 1) (q := 43) X (TB.get tb_X8_paths 22 rfl) c_iconst_1 rfl ?_
          refine V_goto (q := 47) X (TB.get tb_X8_paths 23 rfl) rfl ?_
          refine V_sub (lv' := [(0, .ref a0), (1, .int a1), (2, .ref p3.1)]) [1, 2, 0] rfl ?_
          exact Jj7 _ e
      · have e := (if_neg hc).symm.trans e
        refine V_aload_n (q := 29) X (TB.get tb_X8_paths 15 rfl) rfl rfl rfl ?_
        refine V_bipush (v := 6) (q := 31) X (TB.get tb_X8_paths 16 rfl) c_bipush_6 rfl ?_
        obtain ⟨p29, ep29, e⟩ := bs e
        refine V_callV (q := 34) (As := [.int (6 : Int32)]) (rest := []) (st' := [.int p29.1]) X (TB.get tb_X8_paths 17 rfl) rfl cv_RX8_80 (ok_X8_refuse a0 (6 : Int32) p3.2 p29 ep29).1 (ok_X8_refuse a0 (6 : Int32) p3.2 p29 ep29).2 (Nat.le_of_ble_eq_true rfl) rfl rfl (Nat.le_of_ble_eq_true rfl) rfl ?_
        cases e
        exact V_iret X hr hlk (TB.get tb_X8_paths 18 rfl)
    · have e := (if_neg hc).symm.trans e
      refine V_sub (lv' := [(0, .ref a0)]) [0] rfl ?_
      exact Jj1 e
set_option maxRecDepth 100000 in
set_option maxHeartbeats 4000000 in
theorem ok_X8_path (fu : Nat) (a0 : Nat) (a1 : Int32) (h : Hp) (res : Int32 × Hp) (e : MX8_path fu a0 a1 h = some res) : CK yX8_path cX8_path 3 (some .int) 6 [.ref a0, .int a1] h (some (.int res.1)) res.2 ∧ (h.1 a0).1 = 8 := by
  obtain ⟨hcl, e⟩ := h_g_inv e
  refine ⟨CK_of pn_RX8 cm_X8_path (Nat.le_of_ble_eq_true rfl) ?_, hcl⟩
  intro l D tc B nn p en s m args below meth c X hr hlk
  replace X : CX p (rmD 6) s m args c cX8_path 3 RX8 D tc 6 := X
  show V p l en (rmD 6) s m args below meth c 3 D tc B nn (Ar B nn) s.heap 0 0 (MQ below (QC D tc B nn (Ar B nn) (some (.int res.1)) res.2) args s 0 0 (Ar B nn)) h 0 [(0, .ref a0), (1, .int a1)] []
  refine V_iload_n (q := 1) X (TB.get tb_X8_path 0 rfl) rfl rfl rfl ?_
  refine V_if_ge (q := 4) (t := 10) X (TB.get tb_X8_path 1 rfl) rfl rfl (fun hc => ?_) (fun hc => ?_)
  · have e := (if_pos hc).symm.trans e
    refine V_aload_n (q := 11) X (TB.get tb_X8_path 6 rfl) rfl rfl rfl ?_
    obtain ⟨p1, ep1, e⟩ := bs e
    refine V_callV (q := 14) (As := []) (rest := []) (st' := [.ref p1.1]) X (TB.get tb_X8_path 7 rfl) rfl cv_RX8_242 (ok_X8_finishedSearch fu a0 h p1 ep1).1 (ok_X8_finishedSearch fu a0 h p1 ep1).2 (Nat.le_of_ble_eq_true rfl) rfl rfl (Nat.le_of_ble_eq_true rfl) rfl ?_
    refine V_astore_n (q := 15) (lv' := [(2, .ref p1.1), (0, .ref a0), (1, .int a1)]) X (TB.get tb_X8_path 8 rfl) rfl rfl (Nat.le_of_ble_eq_true rfl) rfl ?_
    refine V_aload_n (q := 16) X (TB.get tb_X8_path 9 rfl) rfl rfl rfl ?_
    obtain ⟨x2, ex2, e⟩ := bs e
    refine V_getI (q := 19) X (TB.get tb_X8_path 10 rfl) rfl lf_RX8_246 ex2 ?_
    refine V_if_eq (q := 22) (t := 29) X (TB.get tb_X8_path 11 rfl) rfl rfl (fun hc => ?_) (fun hc => ?_)
    · have e := (if_pos hc).symm.trans e
      refine V_aload_n (q := 30) X (TB.get tb_X8_path 16 rfl) rfl rfl rfl ?_
      obtain ⟨x3, ex3, e⟩ := bs e
      refine V_getI (q := 33) X (TB.get tb_X8_path 17 rfl) rfl lf_RX8_250 ex3 ?_
      refine jn_elim (P := (fun (k : Option (Int32 × Hp)) => k = some res → V p l en (rmD 6) s m args below meth c 3 D tc B nn (Ar B nn) s.heap 0 0 (MQ below (QC D tc B nn (Ar B nn) (some (.int res.1)) res.2) args s 0 0 (Ar B nn)) p1.2 44 [(0, .ref a0)] [])) e ?_ (fun j4 Jj4 e => ?_)
      · intro e
        refine V_aload_n (q := 45) X (TB.get tb_X8_path 23 rfl) rfl rfl rfl ?_
        refine V_iconst (v := 5) (q := 46) X (TB.get tb_X8_path 24 rfl) c_iconst_5 rfl ?_
        obtain ⟨p5, ep5, e⟩ := bs e
        refine V_callV (q := 49) (As := [.int (5 : Int32)]) (rest := []) (st' := [.int p5.1]) X (TB.get tb_X8_path 25 rfl) rfl cv_RX8_80 (ok_X8_refuse a0 (5 : Int32) p1.2 p5 ep5).1 (ok_X8_refuse a0 (5 : Int32) p1.2 p5 ep5).2 (Nat.le_of_ble_eq_true rfl) rfl rfl (Nat.le_of_ble_eq_true rfl) rfl ?_
        cases e
        exact V_iret X hr hlk (TB.get tb_X8_path 26 rfl)
      refine V_if_eq (q := 36) (t := 44) X (TB.get tb_X8_path 18 rfl) rfl rfl (fun hc => ?_) (fun hc => ?_)
      · have e := (if_pos hc).symm.trans e
        refine V_sub (lv' := [(0, .ref a0)]) [1] rfl ?_
        exact Jj4 e
      · have e := (if_neg hc).symm.trans e
        refine V_iload_n (q := 37) X (TB.get tb_X8_path 19 rfl) rfl rfl rfl ?_
        refine V_aload_n (q := 38) X (TB.get tb_X8_path 20 rfl) rfl rfl rfl ?_
        obtain ⟨x6, ex6, e⟩ := bs e
        refine V_getI (q := 41) X (TB.get tb_X8_path 21 rfl) rfl lf_RX8_254 ex6 ?_
        refine V_icmp_lt (q := 44) (t := 50) X (TB.get tb_X8_path 22 rfl) rfl rfl (fun hc => ?_) (fun hc => ?_)
        · have e := (if_pos hc).symm.trans e
          refine V_aload_n (q := 51) X (TB.get tb_X8_path 27 rfl) rfl rfl rfl ?_
          refine V_aload_n (q := 52) X (TB.get tb_X8_path 28 rfl) rfl rfl rfl ?_
          refine V_iload_n (q := 53) X (TB.get tb_X8_path 29 rfl) rfl rfl rfl ?_
          obtain ⟨x7, ex7, e⟩ := bs e
          refine V_callV (q := 56) (As := [.int a1]) (rest := [.ref a0]) (st' := [.int x7, .ref a0]) X (TB.get tb_X8_path 30 rfl) rfl cv_RX8_266 (ok_X6_placeOnWrongPath fu p1.1 a1 p1.2 x7 ex7).1 (ok_X6_placeOnWrongPath fu p1.1 a1 p1.2 x7 ex7).2 (Nat.le_of_ble_eq_true rfl) rfl rfl (Nat.le_of_ble_eq_true rfl) rfl ?_
          obtain ⟨p8, ep8, e⟩ := bs e
          refine V_callV (q := 59) (As := [.int x7]) (rest := []) (st' := [.int p8.1]) X (TB.get tb_X8_path 31 rfl) rfl cv_RX8_100 (ok_X8_answer a0 x7 p1.2 p8 ep8).1 (ok_X8_answer a0 x7 p1.2 p8 ep8).2 (Nat.le_of_ble_eq_true rfl) rfl rfl (Nat.le_of_ble_eq_true rfl) rfl ?_
          cases e
          exact V_iret X hr hlk (TB.get tb_X8_path 32 rfl)
        · have e := (if_neg hc).symm.trans e
          refine V_sub (lv' := [(0, .ref a0)]) [1] rfl ?_
          exact Jj4 e
    · have e := (if_neg hc).symm.trans e
      refine V_aload_n (q := 23) X (TB.get tb_X8_path 12 rfl) rfl rfl rfl ?_
      refine V_bipush (v := 6) (q := 25) X (TB.get tb_X8_path 13 rfl) c_bipush_6 rfl ?_
      obtain ⟨p9, ep9, e⟩ := bs e
      refine V_callV (q := 28) (As := [.int (6 : Int32)]) (rest := []) (st' := [.int p9.1]) X (TB.get tb_X8_path 14 rfl) rfl cv_RX8_80 (ok_X8_refuse a0 (6 : Int32) p1.2 p9 ep9).1 (ok_X8_refuse a0 (6 : Int32) p1.2 p9 ep9).2 (Nat.le_of_ble_eq_true rfl) rfl rfl (Nat.le_of_ble_eq_true rfl) rfl ?_
      cases e
      exact V_iret X hr hlk (TB.get tb_X8_path 15 rfl)
  · have e := (if_neg hc).symm.trans e
    refine V_aload_n (q := 5) X (TB.get tb_X8_path 2 rfl) rfl rfl rfl ?_
    refine V_iconst (v := 1) (q := 6) X (TB.get tb_X8_path 3 rfl) c_iconst_1 rfl ?_
    obtain ⟨p10, ep10, e⟩ := bs e
    refine V_callV (q := 9) (As := [.int (1 : Int32)]) (rest := []) (st' := [.int p10.1]) X (TB.get tb_X8_path 4 rfl) rfl cv_RX8_80 (ok_X8_refuse a0 (1 : Int32) h p10 ep10).1 (ok_X8_refuse a0 (1 : Int32) h p10 ep10).2 (Nat.le_of_ble_eq_true rfl) rfl rfl (Nat.le_of_ble_eq_true rfl) rfl ?_
    cases e
    exact V_iret X hr hlk (TB.get tb_X8_path 5 rfl)
set_option maxRecDepth 100000 in
set_option maxHeartbeats 4000000 in
theorem ok_X8_truly (fu : Nat) (a0 : Nat) (a1 : Int32) (a2 : Int32) (a3 : Int32) (h : Hp) (res : Int32 × Hp) (e : MX8_truly fu a0 a1 a2 a3 h = some res) : CK yX8_truly cX8_truly 5 (some .int) 6 [.ref a0, .int a1, .int a2, .int a3] h (some (.int res.1)) res.2 ∧ (h.1 a0).1 = 8 := by
  obtain ⟨hcl, e⟩ := h_g_inv e
  refine ⟨CK_of pn_RX8 cm_X8_truly (Nat.le_of_ble_eq_true rfl) ?_, hcl⟩
  intro l D tc B nn p en s m args below meth c X hr hlk
  replace X : CX p (rmD 6) s m args c cX8_truly 5 RX8 D tc 6 := X
  show V p l en (rmD 6) s m args below meth c 5 D tc B nn (Ar B nn) s.heap 0 0 (MQ below (QC D tc B nn (Ar B nn) (some (.int res.1)) res.2) args s 0 0 (Ar B nn)) h 0 [(0, .ref a0), (1, .int a1), (2, .int a2), (3, .int a3)] []
  refine V_iload_n (q := 1) X (TB.get tb_X8_truly 0 rfl) rfl rfl rfl ?_
  refine jn_elim (P := (fun (k : Option (Int32 × Hp)) => k = some res → V p l en (rmD 6) s m args below meth c 5 D tc B nn (Ar B nn) s.heap 0 0 (MQ below (QC D tc B nn (Ar B nn) (some (.int res.1)) res.2) args s 0 0 (Ar B nn)) h 9 [(0, .ref a0)] [])) e ?_ (fun j1 Jj1 e => ?_)
  · intro e
    refine V_aload_n (q := 10) X (TB.get tb_X8_truly 5 rfl) rfl rfl rfl ?_
    refine V_iconst (v := 1) (q := 11) X (TB.get tb_X8_truly 6 rfl) c_iconst_1 rfl ?_
    obtain ⟨p2, ep2, e⟩ := bs e
    refine V_callV (q := 14) (As := [.int (1 : Int32)]) (rest := []) (st' := [.int p2.1]) X (TB.get tb_X8_truly 7 rfl) rfl cv_RX8_80 (ok_X8_refuse a0 (1 : Int32) h p2 ep2).1 (ok_X8_refuse a0 (1 : Int32) h p2 ep2).2 (Nat.le_of_ble_eq_true rfl) rfl rfl (Nat.le_of_ble_eq_true rfl) rfl ?_
    cases e
    exact V_iret X hr hlk (TB.get tb_X8_truly 8 rfl)
  refine V_if_lt (q := 4) (t := 9) X (TB.get tb_X8_truly 1 rfl) rfl rfl (fun hc => ?_) (fun hc => ?_)
  · have e := (if_pos hc).symm.trans e
    refine V_sub (lv' := [(0, .ref a0)]) [0] rfl ?_
    exact Jj1 e
  · have e := (if_neg hc).symm.trans e
    refine V_iload_n (q := 5) X (TB.get tb_X8_truly 2 rfl) rfl rfl rfl ?_
    refine V_iconst (v := 3) (q := 6) X (TB.get tb_X8_truly 3 rfl) c_iconst_3 rfl ?_
    refine V_icmp_le (q := 9) (t := 15) X (TB.get tb_X8_truly 4 rfl) rfl rfl (fun hc => ?_) (fun hc => ?_)
    · have e := (if_pos hc).symm.trans e
      refine V_aload_n (q := 16) X (TB.get tb_X8_truly 9 rfl) rfl rfl rfl ?_
      obtain ⟨x3, ex3, e⟩ := bs e
      refine V_getR (q := 19) X (TB.get tb_X8_truly 10 rfl) rfl lf_RX8_47 ex3 ?_
      refine V_iload_n (q := 20) X (TB.get tb_X8_truly 11 rfl) rfl rfl rfl ?_
      obtain ⟨x4, ex4, e⟩ := bs e
      refine V_callV (q := 23) (As := [.int a1]) (rest := []) (st' := [.int x4]) X (TB.get tb_X8_truly 12 rfl) rfl cv_RX8_220 (ok_X4_hasPlace x3 a1 h x4 ex4).1 (ok_X4_hasPlace x3 a1 h x4 ex4).2 (Nat.le_of_ble_eq_true rfl) rfl rfl (Nat.le_of_ble_eq_true rfl) rfl ?_
      refine jn_elim (P := (fun (k : Option (Int32 × Hp)) => k = some res → V p l en (rmD 6) s m args below meth c 5 D tc B nn (Ar B nn) s.heap 0 0 (MQ below (QC D tc B nn (Ar B nn) (some (.int res.1)) res.2) args s 0 0 (Ar B nn)) h 37 [(0, .ref a0)] [])) e ?_ (fun j5 Jj5 e => ?_)
      · intro e
        refine V_aload_n (q := 38) X (TB.get tb_X8_truly 19 rfl) rfl rfl rfl ?_
        refine V_iconst (v := 2) (q := 39) X (TB.get tb_X8_truly 20 rfl) c_iconst_2 rfl ?_
        obtain ⟨p6, ep6, e⟩ := bs e
        refine V_callV (q := 42) (As := [.int (2 : Int32)]) (rest := []) (st' := [.int p6.1]) X (TB.get tb_X8_truly 21 rfl) rfl cv_RX8_80 (ok_X8_refuse a0 (2 : Int32) h p6 ep6).1 (ok_X8_refuse a0 (2 : Int32) h p6 ep6).2 (Nat.le_of_ble_eq_true rfl) rfl rfl (Nat.le_of_ble_eq_true rfl) rfl ?_
        cases e
        exact V_iret X hr hlk (TB.get tb_X8_truly 22 rfl)
      refine V_if_eq (q := 26) (t := 37) X (TB.get tb_X8_truly 13 rfl) rfl rfl (fun hc => ?_) (fun hc => ?_)
      · have e := (if_pos hc).symm.trans e
        refine V_sub (lv' := [(0, .ref a0)]) [0] rfl ?_
        exact Jj5 e
      · have e := (if_neg hc).symm.trans e
        refine V_aload_n (q := 27) X (TB.get tb_X8_truly 14 rfl) rfl rfl rfl ?_
        refine V_getR (q := 30) X (TB.get tb_X8_truly 15 rfl) rfl lf_RX8_47 ex3 ?_
        refine V_iload_n (q := 31) X (TB.get tb_X8_truly 16 rfl) rfl rfl rfl ?_
        obtain ⟨x7, ex7, e⟩ := bs e
        refine V_callV (q := 34) (As := [.int a2]) (rest := []) (st' := [.int x7]) X (TB.get tb_X8_truly 17 rfl) rfl cv_RX8_197 (ok_X4_hasVariable x3 a2 h x7 ex7).1 (ok_X4_hasVariable x3 a2 h x7 ex7).2 (Nat.le_of_ble_eq_true rfl) rfl rfl (Nat.le_of_ble_eq_true rfl) rfl ?_
        refine V_if_ne (q := 37) (t := 43) X (TB.get tb_X8_truly 18 rfl) rfl rfl (fun hc => ?_) (fun hc => ?_)
        · have e := (if_neg hc).symm.trans e
          refine V_aload_n (q := 44) X (TB.get tb_X8_truly 23 rfl) rfl rfl rfl ?_
          obtain ⟨p8, ep8, e⟩ := bs e
          refine V_callV (q := 47) (As := []) (rest := []) (st' := [.ref p8.1]) X (TB.get tb_X8_truly 24 rfl) rfl cv_RX8_242 (ok_X8_finishedSearch fu a0 h p8 ep8).1 (ok_X8_finishedSearch fu a0 h p8 ep8).2 (Nat.le_of_ble_eq_true rfl) rfl rfl (Nat.le_of_ble_eq_true rfl) rfl ?_
          refine V_astore (q := 49) (lv' := [(4, .ref p8.1), (0, .ref a0), (1, .int a1), (2, .int a2), (3, .int a3)]) X (TB.get tb_X8_truly 25 rfl) rfl (Nat.le_of_ble_eq_true rfl) rfl ?_
          refine V_aload (q := 51) X (TB.get tb_X8_truly 26 rfl) rfl rfl ?_
          obtain ⟨x9, ex9, e⟩ := bs e
          refine V_getI (q := 54) X (TB.get tb_X8_truly 27 rfl) rfl lf_RX8_246 ex9 ?_
          refine V_if_eq (q := 57) (t := 64) X (TB.get tb_X8_truly 28 rfl) rfl rfl (fun hc => ?_) (fun hc => ?_)
          · have e := (if_pos hc).symm.trans e
            refine V_aload (q := 66) X (TB.get tb_X8_truly 33 rfl) rfl rfl ?_
            obtain ⟨x10, ex10, e⟩ := bs e
            refine V_getR (q := 69) X (TB.get tb_X8_truly 34 rfl) rfl lf_RX8_269 ex10 ?_
            refine V_iload_n (q := 70) X (TB.get tb_X8_truly 35 rfl) rfl rfl rfl ?_
            obtain ⟨x11, ex11, e⟩ := bs e
            refine V_baloadZ (q := 71) X (TB.get tb_X8_truly 36 rfl) rfl ex11 ?_
            refine V_if_ne (q := 74) (t := 80) X (TB.get tb_X8_truly 37 rfl) rfl rfl (fun hc => ?_) (fun hc => ?_)
            · have e := (if_neg hc).symm.trans e
              refine V_aload_n (q := 81) X (TB.get tb_X8_truly 42 rfl) rfl rfl rfl ?_
              refine V_aload (q := 83) X (TB.get tb_X8_truly 43 rfl) rfl rfl ?_
              refine V_iload_n (q := 84) X (TB.get tb_X8_truly 44 rfl) rfl rfl rfl ?_
              refine V_iload_n (q := 85) X (TB.get tb_X8_truly 45 rfl) rfl rfl rfl ?_
              refine V_iload_n (q := 86) X (TB.get tb_X8_truly 46 rfl) rfl rfl rfl ?_
              obtain ⟨p12, ep12, e⟩ := bs e
              refine V_callV (q := 89) (As := [.int a1, .int a2, .int a3]) (rest := [.ref a0]) (st' := [.int p12.1, .ref a0]) X (TB.get tb_X8_truly 47 rfl) rfl cv_RX8_272 (ok_X6_gather fu p8.1 a1 a2 a3 p8.2 p12 ep12).1 (ok_X6_gather fu p8.1 a1 a2 a3 p8.2 p12 ep12).2 (Nat.le_of_ble_eq_true rfl) rfl rfl (Nat.le_of_ble_eq_true rfl) rfl ?_
              obtain ⟨p13, ep13, e⟩ := bs e
              refine V_callV (q := 92) (As := [.int p12.1]) (rest := []) (st' := [.int p13.1]) X (TB.get tb_X8_truly 48 rfl) rfl cv_RX8_100 (ok_X8_answer a0 p12.1 p12.2 p13 ep13).1 (ok_X8_answer a0 p12.1 p12.2 p13 ep13).2 (Nat.le_of_ble_eq_true rfl) rfl rfl (Nat.le_of_ble_eq_true rfl) rfl ?_
              cases e
              exact V_iret X hr hlk (TB.get tb_X8_truly 49 rfl)
            · have e := (if_pos hc).symm.trans e
              refine V_aload_n (q := 75) X (TB.get tb_X8_truly 38 rfl) rfl rfl rfl ?_
              refine V_iconst (v := 5) (q := 76) X (TB.get tb_X8_truly 39 rfl) c_iconst_5 rfl ?_
              obtain ⟨p14, ep14, e⟩ := bs e
              refine V_callV (q := 79) (As := [.int (5 : Int32)]) (rest := []) (st' := [.int p14.1]) X (TB.get tb_X8_truly 40 rfl) rfl cv_RX8_80 (ok_X8_refuse a0 (5 : Int32) p8.2 p14 ep14).1 (ok_X8_refuse a0 (5 : Int32) p8.2 p14 ep14).2 (Nat.le_of_ble_eq_true rfl) rfl rfl (Nat.le_of_ble_eq_true rfl) rfl ?_
              cases e
              exact V_iret X hr hlk (TB.get tb_X8_truly 41 rfl)
          · have e := (if_neg hc).symm.trans e
            refine V_aload_n (q := 58) X (TB.get tb_X8_truly 29 rfl) rfl rfl rfl ?_
            refine V_bipush (v := 6) (q := 60) X (TB.get tb_X8_truly 30 rfl) c_bipush_6 rfl ?_
            obtain ⟨p15, ep15, e⟩ := bs e
            refine V_callV (q := 63) (As := [.int (6 : Int32)]) (rest := []) (st' := [.int p15.1]) X (TB.get tb_X8_truly 31 rfl) rfl cv_RX8_80 (ok_X8_refuse a0 (6 : Int32) p8.2 p15 ep15).1 (ok_X8_refuse a0 (6 : Int32) p8.2 p15 ep15).2 (Nat.le_of_ble_eq_true rfl) rfl rfl (Nat.le_of_ble_eq_true rfl) rfl ?_
            cases e
            exact V_iret X hr hlk (TB.get tb_X8_truly 32 rfl)
        · have e := (if_pos hc).symm.trans e
          refine V_sub (lv' := [(0, .ref a0)]) [0] rfl ?_
          exact Jj5 e
    · have e := (if_neg hc).symm.trans e
      refine V_sub (lv' := [(0, .ref a0)]) [0] rfl ?_
      exact Jj1 e
set_option maxRecDepth 100000 in
set_option maxHeartbeats 4000000 in
theorem ok_X8_left (fu : Nat) (a0 : Nat) (a1 : Int32) (h : Hp) (res : Int32 × Hp) (e : MX8_left fu a0 a1 h = some res) : CK yX8_left cX8_left 3 (some .int) 6 [.ref a0, .int a1] h (some (.int res.1)) res.2 ∧ (h.1 a0).1 = 8 := by
  obtain ⟨hcl, e⟩ := h_g_inv e
  refine ⟨CK_of pn_RX8 cm_X8_left (Nat.le_of_ble_eq_true rfl) ?_, hcl⟩
  intro l D tc B nn p en s m args below meth c X hr hlk
  replace X : CX p (rmD 6) s m args c cX8_left 3 RX8 D tc 6 := X
  show V p l en (rmD 6) s m args below meth c 3 D tc B nn (Ar B nn) s.heap 0 0 (MQ below (QC D tc B nn (Ar B nn) (some (.int res.1)) res.2) args s 0 0 (Ar B nn)) h 0 [(0, .ref a0), (1, .int a1)] []
  refine V_aload_n (q := 1) X (TB.get tb_X8_left 0 rfl) rfl rfl rfl ?_
  obtain ⟨x1, ex1, e⟩ := bs e
  refine V_getR (q := 4) X (TB.get tb_X8_left 1 rfl) rfl lf_RX8_47 ex1 ?_
  obtain ⟨x2, ex2, e⟩ := bs e
  refine V_getR (q := 7) X (TB.get tb_X8_left 2 rfl) rfl lf_RX8_103 ex2 ?_
  refine V_iload_n (q := 8) X (TB.get tb_X8_left 3 rfl) rfl rfl rfl ?_
  obtain ⟨x3, ex3, e⟩ := bs e
  refine V_callV (q := 11) (As := [.int a1]) (rest := []) (st' := [.int x3]) X (TB.get tb_X8_left 4 rfl) rfl cv_RX8_115 (ok_X2_hasKind x2 a1 h x3 ex3).1 (ok_X2_hasKind x2 a1 h x3 ex3).2 (Nat.le_of_ble_eq_true rfl) rfl rfl (Nat.le_of_ble_eq_true rfl) rfl ?_
  refine V_if_ne (q := 14) (t := 20) X (TB.get tb_X8_left 5 rfl) rfl rfl (fun hc => ?_) (fun hc => ?_)
  · have e := (if_neg hc).symm.trans e
    refine V_aload_n (q := 21) X (TB.get tb_X8_left 10 rfl) rfl rfl rfl ?_
    obtain ⟨p4, ep4, e⟩ := bs e
    refine V_callV (q := 24) (As := []) (rest := []) (st' := [.ref p4.1]) X (TB.get tb_X8_left 11 rfl) rfl cv_RX8_242 (ok_X8_finishedSearch fu a0 h p4 ep4).1 (ok_X8_finishedSearch fu a0 h p4 ep4).2 (Nat.le_of_ble_eq_true rfl) rfl rfl (Nat.le_of_ble_eq_true rfl) rfl ?_
    refine V_astore_n (q := 25) (lv' := [(2, .ref p4.1), (0, .ref a0), (1, .int a1)]) X (TB.get tb_X8_left 12 rfl) rfl rfl (Nat.le_of_ble_eq_true rfl) rfl ?_
    refine V_aload_n (q := 26) X (TB.get tb_X8_left 13 rfl) rfl rfl rfl ?_
    obtain ⟨x5, ex5, e⟩ := bs e
    refine V_getI (q := 29) X (TB.get tb_X8_left 14 rfl) rfl lf_RX8_246 ex5 ?_
    refine V_if_eq (q := 32) (t := 41) X (TB.get tb_X8_left 15 rfl) rfl rfl (fun hc => ?_) (fun hc => ?_)
    · have e := (if_pos hc).symm.trans e
      refine V_aload_n (q := 42) X (TB.get tb_X8_left 20 rfl) rfl rfl rfl ?_
      refine V_aload_n (q := 43) X (TB.get tb_X8_left 21 rfl) rfl rfl rfl ?_
      obtain ⟨x6, ex6, e⟩ := bs e
      refine V_getR (q := 46) X (TB.get tb_X8_left 22 rfl) rfl lf_RX8_275 ex6 ?_
      refine V_iload_n (q := 47) X (TB.get tb_X8_left 23 rfl) rfl rfl rfl ?_
      obtain ⟨x7, ex7, e⟩ := bs e
      refine V_iaload (q := 48) X (TB.get tb_X8_left 24 rfl) rfl ex7 ?_
      obtain ⟨p8, ep8, e⟩ := bs e
      refine V_callV (q := 51) (As := [.int x7]) (rest := []) (st' := [.int p8.1]) X (TB.get tb_X8_left 25 rfl) rfl cv_RX8_100 (ok_X8_answer a0 x7 p4.2 p8 ep8).1 (ok_X8_answer a0 x7 p4.2 p8 ep8).2 (Nat.le_of_ble_eq_true rfl) rfl rfl (Nat.le_of_ble_eq_true rfl) rfl ?_
      cases e
      exact V_iret X hr hlk (TB.get tb_X8_left 26 rfl)
    · have e := (if_neg hc).symm.trans e
      refine V_aload_n (q := 33) X (TB.get tb_X8_left 16 rfl) rfl rfl rfl ?_
      refine V_bipush (v := 6) (q := 35) X (TB.get tb_X8_left 17 rfl) c_bipush_6 rfl ?_
      obtain ⟨p9, ep9, e⟩ := bs e
      refine V_callV (q := 38) (As := [.int (6 : Int32)]) (rest := []) (st' := [.int p9.1]) X (TB.get tb_X8_left 18 rfl) rfl cv_RX8_80 (ok_X8_refuse a0 (6 : Int32) p4.2 p9 ep9).1 (ok_X8_refuse a0 (6 : Int32) p4.2 p9 ep9).2 (Nat.le_of_ble_eq_true rfl) rfl rfl (Nat.le_of_ble_eq_true rfl) rfl ?_
      refine V_goto (q := 51) X (TB.get tb_X8_left 19 rfl) rfl ?_
      cases e
      exact V_iret X hr hlk (TB.get tb_X8_left 26 rfl)
  · have e := (if_pos hc).symm.trans e
    refine V_aload_n (q := 15) X (TB.get tb_X8_left 6 rfl) rfl rfl rfl ?_
    refine V_iconst (v := 2) (q := 16) X (TB.get tb_X8_left 7 rfl) c_iconst_2 rfl ?_
    obtain ⟨p10, ep10, e⟩ := bs e
    refine V_callV (q := 19) (As := [.int (2 : Int32)]) (rest := []) (st' := [.int p10.1]) X (TB.get tb_X8_left 8 rfl) rfl cv_RX8_80 (ok_X8_refuse a0 (2 : Int32) h p10 ep10).1 (ok_X8_refuse a0 (2 : Int32) h p10 ep10).2 (Nat.le_of_ble_eq_true rfl) rfl rfl (Nat.le_of_ble_eq_true rfl) rfl ?_
    cases e
    exact V_iret X hr hlk (TB.get tb_X8_left 9 rfl)
set_option maxRecDepth 100000 in
set_option maxHeartbeats 4000000 in
theorem ok_X8_never (fu : Nat) (a0 : Nat) (a1 : Int32) (h : Hp) (res : Int32 × Hp) (e : MX8_never fu a0 a1 h = some res) : CK yX8_never cX8_never 5 (some .int) 6 [.ref a0, .int a1] h (some (.int res.1)) res.2 ∧ (h.1 a0).1 = 8 := by
  obtain ⟨hcl, e⟩ := h_g_inv e
  refine ⟨CK_of pn_RX8 cm_X8_never (Nat.le_of_ble_eq_true rfl) ?_, hcl⟩
  intro l D tc B nn p en s m args below meth c X hr hlk
  replace X : CX p (rmD 6) s m args c cX8_never 5 RX8 D tc 6 := X
  show V p l en (rmD 6) s m args below meth c 5 D tc B nn (Ar B nn) s.heap 0 0 (MQ below (QC D tc B nn (Ar B nn) (some (.int res.1)) res.2) args s 0 0 (Ar B nn)) h 0 [(0, .ref a0), (1, .int a1)] []
  refine V_iload_n (q := 1) X (TB.get tb_X8_never 0 rfl) rfl rfl rfl ?_
  refine V_iconst (v := -1) (q := 2) X (TB.get tb_X8_never 1 rfl) c_iconst_m1 rfl ?_
  refine V_icmp_ge (q := 5) (t := 11) X (TB.get tb_X8_never 2 rfl) rfl rfl (fun hc => ?_) (fun hc => ?_)
  · have e := (if_pos hc).symm.trans e
    refine V_aload_n (q := 12) X (TB.get tb_X8_never 7 rfl) rfl rfl rfl ?_
    obtain ⟨p1, ep1, e⟩ := bs e
    refine V_callV (q := 15) (As := []) (rest := []) (st' := [.ref p1.1]) X (TB.get tb_X8_never 8 rfl) rfl cv_RX8_242 (ok_X8_finishedSearch fu a0 h p1 ep1).1 (ok_X8_finishedSearch fu a0 h p1 ep1).2 (Nat.le_of_ble_eq_true rfl) rfl rfl (Nat.le_of_ble_eq_true rfl) rfl ?_
    refine V_astore_n (q := 16) (lv' := [(2, .ref p1.1), (0, .ref a0), (1, .int a1)]) X (TB.get tb_X8_never 9 rfl) rfl rfl (Nat.le_of_ble_eq_true rfl) rfl ?_
    refine V_aload_n (q := 17) X (TB.get tb_X8_never 10 rfl) rfl rfl rfl ?_
    obtain ⟨x2, ex2, e⟩ := bs e
    refine V_getI (q := 20) X (TB.get tb_X8_never 11 rfl) rfl lf_RX8_246 ex2 ?_
    refine V_if_eq (q := 23) (t := 30) X (TB.get tb_X8_never 12 rfl) rfl rfl (fun hc => ?_) (fun hc => ?_)
    · have e := (if_pos hc).symm.trans e
      refine V_iconst (v := 0) (q := 31) X (TB.get tb_X8_never 17 rfl) c_iconst_0 rfl ?_
      refine V_istore_n (q := 32) (lv' := [(3, .int (0 : Int32)), (2, .ref p1.1), (0, .ref a0), (1, .int a1)]) X (TB.get tb_X8_never 18 rfl) rfl rfl (Nat.le_of_ble_eq_true rfl) rfl ?_
      refine V_iconst (v := 0) (q := 33) X (TB.get tb_X8_never 19 rfl) c_iconst_0 rfl ?_
      refine V_istore (q := 35) (lv' := [(4, .int (0 : Int32)), (3, .int (0 : Int32)), (2, .ref p1.1), (0, .ref a0), (1, .int a1)]) X (TB.get tb_X8_never 20 rfl) rfl (Nat.le_of_ble_eq_true rfl) rfl ?_
      refine jn_elim (P := (fun (k : Int32 → Option (Int32 × Hp)) => ∀ (v3 : Int32), k v3 = some res → V p l en (rmD 6) s m args below meth c 5 D tc B nn (Ar B nn) s.heap 0 0 (MQ below (QC D tc B nn (Ar B nn) (some (.int res.1)) res.2) args s 0 0 (Ar B nn)) p1.2 78 [(0, .ref a0), (1, .int a1), (3, .int v3)] [])) e ?_ (fun j4 Jj4 e => ?_)
      · intro v3 e
        refine V_iload_n (q := 79) X (TB.get tb_X8_never 41 rfl) rfl rfl rfl ?_
        refine V_iconst (v := -1) (q := 80) X (TB.get tb_X8_never 42 rfl) c_iconst_m1 rfl ?_
        refine V_icmp_ne (q := 83) (t := 91) X (TB.get tb_X8_never 43 rfl) rfl rfl (fun hc => ?_) (fun hc => ?_)
        · have e := (if_neg hc).symm.trans e
          refine V_aload_n (q := 92) X (TB.get tb_X8_never 48 rfl) rfl rfl rfl ?_
          refine V_iconst (v := 5) (q := 93) X (TB.get tb_X8_never 49 rfl) c_iconst_5 rfl ?_
          obtain ⟨p5, ep5, e⟩ := bs e
          refine V_callV (q := 96) (As := [.int (5 : Int32)]) (rest := []) (st' := [.int p5.1]) X (TB.get tb_X8_never 50 rfl) rfl cv_RX8_80 (ok_X8_refuse a0 (5 : Int32) p1.2 p5 ep5).1 (ok_X8_refuse a0 (5 : Int32) p1.2 p5 ep5).2 (Nat.le_of_ble_eq_true rfl) rfl rfl (Nat.le_of_ble_eq_true rfl) rfl ?_
          cases e
          exact V_iret X hr hlk (TB.get tb_X8_never 51 rfl)
        · have e := (if_pos hc).symm.trans e
          refine V_aload_n (q := 84) X (TB.get tb_X8_never 44 rfl) rfl rfl rfl ?_
          refine V_iload_n (q := 85) X (TB.get tb_X8_never 45 rfl) rfl rfl rfl ?_
          obtain ⟨p6, ep6, e⟩ := bs e
          refine V_callV (q := 88) (As := [.int v3]) (rest := []) (st' := [.int p6.1]) X (TB.get tb_X8_never 46 rfl) rfl cv_RX8_100 (ok_X8_answer a0 v3 p1.2 p6 ep6).1 (ok_X8_answer a0 v3 p1.2 p6 ep6).2 (Nat.le_of_ble_eq_true rfl) rfl rfl (Nat.le_of_ble_eq_true rfl) rfl ?_
          refine V_goto (q := 96) X (TB.get tb_X8_never 47 rfl) rfl ?_
          cases e
          exact V_iret X hr hlk (TB.get tb_X8_never 51 rfl)
      refine jn_elim (P := (fun (k : Int32 → Option (Int32 × Hp)) => ∀ (v7 : Int32), k v7 = some res → V p l en (rmD 6) s m args below meth c 5 D tc B nn (Ar B nn) s.heap 0 0 (MQ below (QC D tc B nn (Ar B nn) (some (.int res.1)) res.2) args s 0 0 (Ar B nn)) p1.2 62 [(0, .ref a0), (4, .int v7)] [])) e ?_ (fun j8 Jj8 e => ?_)
      · intro v7 e
        refine V_aload_n (q := 63) X (TB.get tb_X8_never 34 rfl) rfl rfl rfl ?_
        refine V_iload (q := 65) X (TB.get tb_X8_never 35 rfl) rfl rfl ?_
        obtain ⟨p9, ep9, e⟩ := bs e
        refine V_callV (q := 68) (As := [.int v7]) (rest := []) (st' := [.int p9.1]) X (TB.get tb_X8_never 36 rfl) rfl cv_RX8_100 (ok_X8_answer a0 v7 p1.2 p9 ep9).1 (ok_X8_answer a0 v7 p1.2 p9 ep9).2 (Nat.le_of_ble_eq_true rfl) rfl rfl (Nat.le_of_ble_eq_true rfl) rfl ?_
        cases e
        exact V_iret X hr hlk (TB.get tb_X8_never 37 rfl)
      refine V_sub (lv' := [(0, .ref a0), (1, .int a1), (2, .ref p1.1), (3, .int (0 : Int32)), (4, .int (0 : Int32))]) [3, 4, 2, 1, 0] rfl ?_
      refine wh2_elim (P := fun v10 v11 => V p l en (rmD 6) s m args below meth c 5 D tc B nn (Ar B nn) s.heap 0 0 (MQ below (QC D tc B nn (Ar B nn) (some (.int res.1)) res.2) args s 0 0 (Ar B nn)) p1.2 35 [(0, .ref a0), (1, .int a1), (2, .ref p1.1), (3, .int v10), (4, .int v11)] []) (f := fu) ?_ e
      intro self12 v10 v11 ihself12 e
      unfold MX8_never_B35 at e
      refine V_iload (q := 37) X (TB.get tb_X8_never 21 rfl) rfl rfl ?_
      refine V_aload_n (q := 38) X (TB.get tb_X8_never 22 rfl) rfl rfl rfl ?_
      obtain ⟨x13, ex13, e⟩ := bs e
      refine V_getR (q := 41) X (TB.get tb_X8_never 23 rfl) rfl lf_RX8_47 ex13 ?_
      obtain ⟨x14, ex14, e⟩ := bs e
      refine V_getI (q := 44) X (TB.get tb_X8_never 24 rfl) rfl lf_RX8_97 ex14 ?_
      refine V_icmp_ge (q := 47) (t := 78) X (TB.get tb_X8_never 25 rfl) rfl rfl (fun hc => ?_) (fun hc => ?_)
      · have e := (if_pos hc).symm.trans e
        refine V_sub (lv' := [(0, .ref a0), (1, .int a1), (3, .int v10)]) [0, 1, 3] rfl ?_
        exact Jj4 _ e
      · have e := (if_neg hc).symm.trans e
        refine V_aload_n (q := 48) X (TB.get tb_X8_never 26 rfl) rfl rfl rfl ?_
        obtain ⟨x15, ex15, e⟩ := bs e
        refine V_getR (q := 51) X (TB.get tb_X8_never 27 rfl) rfl lf_RX8_269 ex15 ?_
        refine V_iload (q := 53) X (TB.get tb_X8_never 28 rfl) rfl rfl ?_
        obtain ⟨x16, ex16, e⟩ := bs e
        refine V_baloadZ (q := 54) X (TB.get tb_X8_never 29 rfl) rfl ex16 ?_
        refine jn_elim (P := (fun (k : Int32 → Option (Int32 × Hp)) => ∀ (v17 : Int32), k v17 = some res → V p l en (rmD 6) s m args below meth c 5 D tc B nn (Ar B nn) s.heap 0 0 (MQ below (QC D tc B nn (Ar B nn) (some (.int res.1)) res.2) args s 0 0 (Ar B nn)) p1.2 72 [(0, .ref a0), (1, .int a1), (2, .ref p1.1), (3, .int v17), (4, .int v11)] [])) e ?_ (fun j18 Jj18 e => ?_)
        · intro v17 e
          refine V_iinc (q := 75) (v := v11 + (1 : Int32)) (lv' := [(4, .int (v11 + (1 : Int32))), (0, .ref a0), (1, .int a1), (2, .ref p1.1), (3, .int v17)]) X (TB.get tb_X8_never 39 rfl) rfl rfl (by rw [c_iconst_1]) (Nat.le_of_ble_eq_true rfl) rfl ?_
          refine V_goto (q := 35) X (TB.get tb_X8_never 40 rfl) rfl ?_
          refine V_sub (lv' := [(0, .ref a0), (1, .int a1), (2, .ref p1.1), (3, .int v17), (4, .int (v11 + (1 : Int32)))]) [1, 2, 3, 4, 0] rfl ?_
          exact ihself12 _ _ e
        refine V_if_ne (q := 57) (t := 72) X (TB.get tb_X8_never 30 rfl) rfl rfl (fun hc => ?_) (fun hc => ?_)
        · have e := (if_neg hc).symm.trans e
          exact Jj18 _ e
        · have e := (if_pos hc).symm.trans e
          refine V_iload_n (q := 58) X (TB.get tb_X8_never 31 rfl) rfl rfl rfl ?_
          refine V_iload_n (q := 59) X (TB.get tb_X8_never 32 rfl) rfl rfl rfl ?_
          refine V_icmp_ne (q := 62) (t := 69) X (TB.get tb_X8_never 33 rfl) rfl rfl (fun hc => ?_) (fun hc => ?_)
          · have e := (if_neg hc).symm.trans e
            refine V_iinc (q := 72) (v := v10 + (1 : Int32)) (lv' := [(3, .int (v10 + (1 : Int32))), (0, .ref a0), (1, .int a1), (2, .ref p1.1), (4, .int v11)]) X (TB.get tb_X8_never 38 rfl) rfl rfl (by rw [c_iconst_1]) (Nat.le_of_ble_eq_true rfl) rfl ?_
            refine V_sub (lv' := [(0, .ref a0), (1, .int a1), (2, .ref p1.1), (3, .int (v10 + (1 : Int32))), (4, .int v11)]) [1, 2, 3, 0, 4] rfl ?_
            exact Jj18 _ e
          · have e := (if_pos hc).symm.trans e
            refine V_sub (lv' := [(0, .ref a0), (4, .int v11)]) [0, 4] rfl ?_
            exact Jj8 _ e
    · have e := (if_neg hc).symm.trans e
      refine V_aload_n (q := 24) X (TB.get tb_X8_never 13 rfl) rfl rfl rfl ?_
      refine V_bipush (v := 6) (q := 26) X (TB.get tb_X8_never 14 rfl) c_bipush_6 rfl ?_
      obtain ⟨p19, ep19, e⟩ := bs e
      refine V_callV (q := 29) (As := [.int (6 : Int32)]) (rest := []) (st' := [.int p19.1]) X (TB.get tb_X8_never 15 rfl) rfl cv_RX8_80 (ok_X8_refuse a0 (6 : Int32) p1.2 p19 ep19).1 (ok_X8_refuse a0 (6 : Int32) p1.2 p19 ep19).2 (Nat.le_of_ble_eq_true rfl) rfl rfl (Nat.le_of_ble_eq_true rfl) rfl ?_
      cases e
      exact V_iret X hr hlk (TB.get tb_X8_never 16 rfl)
  · have e := (if_neg hc).symm.trans e
    refine V_aload_n (q := 6) X (TB.get tb_X8_never 3 rfl) rfl rfl rfl ?_
    refine V_iconst (v := 1) (q := 7) X (TB.get tb_X8_never 4 rfl) c_iconst_1 rfl ?_
    obtain ⟨p20, ep20, e⟩ := bs e
    refine V_callV (q := 10) (As := [.int (1 : Int32)]) (rest := []) (st' := [.int p20.1]) X (TB.get tb_X8_never 5 rfl) rfl cv_RX8_80 (ok_X8_refuse a0 (1 : Int32) h p20 ep20).1 (ok_X8_refuse a0 (1 : Int32) h p20 ep20).2 (Nat.le_of_ble_eq_true rfl) rfl rfl (Nat.le_of_ble_eq_true rfl) rfl ?_
    cases e
    exact V_iret X hr hlk (TB.get tb_X8_never 6 rfl)
set_option maxRecDepth 100000 in
set_option maxHeartbeats 4000000 in
theorem ok_X8_run (fu : Nat) (a0 : Nat) (a1 : Int32) (a2 : Int32) (h : Hp) (res : Int32 × Hp) (e : MX8_run fu a0 a1 a2 h = some res) : CK yX8_run cX8_run 3 (some .int) 5 [.ref a0, .int a1, .int a2] h (some (.int res.1)) res.2 ∧ (h.1 a0).1 = 8 := by
  obtain ⟨hcl, e⟩ := h_g_inv e
  refine ⟨CK_of pn_RX8 cm_X8_run (Nat.le_of_ble_eq_true rfl) ?_, hcl⟩
  intro l D tc B nn p en s m args below meth c X hr hlk
  replace X : CX p (rmD 5) s m args c cX8_run 3 RX8 D tc 5 := X
  show V p l en (rmD 5) s m args below meth c 3 D tc B nn (Ar B nn) s.heap 0 0 (MQ below (QC D tc B nn (Ar B nn) (some (.int res.1)) res.2) args s 0 0 (Ar B nn)) h 0 [(0, .ref a0), (1, .int a1), (2, .int a2)] []
  refine V_iload_n (q := 1) X (TB.get tb_X8_run 0 rfl) rfl rfl rfl ?_
  refine jn_elim (P := (fun (k : Option (Int32 × Hp)) => k = some res → V p l en (rmD 5) s m args below meth c 3 D tc B nn (Ar B nn) s.heap 0 0 (MQ below (QC D tc B nn (Ar B nn) (some (.int res.1)) res.2) args s 0 0 (Ar B nn)) h 20 [(0, .ref a0)] [])) e ?_ (fun j1 Jj1 e => ?_)
  · intro e
    refine V_aload_n (q := 21) X (TB.get tb_X8_run 10 rfl) rfl rfl rfl ?_
    refine V_iconst (v := 1) (q := 22) X (TB.get tb_X8_run 11 rfl) c_iconst_1 rfl ?_
    obtain ⟨p2, ep2, e⟩ := bs e
    refine V_callV (q := 25) (As := [.int (1 : Int32)]) (rest := []) (st' := [.int p2.1]) X (TB.get tb_X8_run 12 rfl) rfl cv_RX8_80 (ok_X8_refuse a0 (1 : Int32) h p2 ep2).1 (ok_X8_refuse a0 (1 : Int32) h p2 ep2).2 (Nat.le_of_ble_eq_true rfl) rfl rfl (Nat.le_of_ble_eq_true rfl) rfl ?_
    cases e
    exact V_iret X hr hlk (TB.get tb_X8_run 13 rfl)
  refine V_if_lt (q := 4) (t := 20) X (TB.get tb_X8_run 1 rfl) rfl rfl (fun hc => ?_) (fun hc => ?_)
  · have e := (if_pos hc).symm.trans e
    refine V_sub (lv' := [(0, .ref a0)]) [0] rfl ?_
    exact Jj1 e
  · have e := (if_neg hc).symm.trans e
    refine V_iload_n (q := 5) X (TB.get tb_X8_run 2 rfl) rfl rfl rfl ?_
    refine V_ldcw (v := 65536) (q := 8) X (TB.get tb_X8_run 3 rfl) rfl kc_RX8_278 ?_
    refine V_icmp_gt (q := 11) (t := 20) X (TB.get tb_X8_run 4 rfl) rfl rfl (fun hc => ?_) (fun hc => ?_)
    · have e := (if_pos hc).symm.trans e
      refine V_sub (lv' := [(0, .ref a0)]) [0] rfl ?_
      exact Jj1 e
    · have e := (if_neg hc).symm.trans e
      refine V_iload_n (q := 12) X (TB.get tb_X8_run 5 rfl) rfl rfl rfl ?_
      refine V_if_lt (q := 15) (t := 20) X (TB.get tb_X8_run 6 rfl) rfl rfl (fun hc => ?_) (fun hc => ?_)
      · have e := (if_pos hc).symm.trans e
        refine V_sub (lv' := [(0, .ref a0)]) [0] rfl ?_
        exact Jj1 e
      · have e := (if_neg hc).symm.trans e
        refine V_iload_n (q := 16) X (TB.get tb_X8_run 7 rfl) rfl rfl rfl ?_
        refine V_iconst (v := 3) (q := 17) X (TB.get tb_X8_run 8 rfl) c_iconst_3 rfl ?_
        refine V_icmp_le (q := 20) (t := 26) X (TB.get tb_X8_run 9 rfl) rfl rfl (fun hc => ?_) (fun hc => ?_)
        · have e := (if_pos hc).symm.trans e
          refine V_aload_n (q := 27) X (TB.get tb_X8_run 14 rfl) rfl rfl rfl ?_
          obtain ⟨x3, ex3, e⟩ := bs e
          refine V_getR (q := 30) X (TB.get tb_X8_run 15 rfl) rfl lf_RX8_36 ex3 ?_
          refine V_aload_n (q := 31) X (TB.get tb_X8_run 16 rfl) rfl rfl rfl ?_
          obtain ⟨x4, ex4, e⟩ := bs e
          refine V_getR (q := 34) X (TB.get tb_X8_run 17 rfl) rfl lf_RX8_47 ex4 ?_
          refine V_iload_n (q := 35) X (TB.get tb_X8_run 18 rfl) rfl rfl rfl ?_
          obtain ⟨h5, eh5, e⟩ := bs e
          refine V_callV (q := 38) (As := [.ref x4, .int a1]) (rest := []) (st' := []) X (TB.get tb_X8_run 19 rfl) rfl cv_RX8_279 (ok_X5_go fu x3 x4 a1 h h5 eh5).1 (ok_X5_go fu x3 x4 a1 h h5 eh5).2 (Nat.le_of_ble_eq_true rfl) rfl rfl (Nat.le_of_ble_eq_true rfl) rfl ?_
          refine V_iload_n (q := 39) X (TB.get tb_X8_run 20 rfl) rfl rfl rfl ?_
          by_cases hc0 : a2 = (0 : Int32)
          · have e := (if_pos hc0).symm.trans e
            rw [hc0]
            refine V_tabIn (q := 64) X (TB.get tb_X8_run 21 rfl) (by decide) (by decide) rfl rfl ?_
            refine V_aload_n (q := 65) X (TB.get tb_X8_run 22 rfl) rfl rfl rfl ?_
            refine V_aload_n (q := 66) X (TB.get tb_X8_run 23 rfl) rfl rfl rfl ?_
            obtain ⟨x6, ex6, e⟩ := bs e
            refine V_getR (q := 69) X (TB.get tb_X8_run 24 rfl) rfl lf_RX8_36 ex6 ?_
            obtain ⟨x7, ex7, e⟩ := bs e
            refine V_getI (q := 72) X (TB.get tb_X8_run 25 rfl) rfl lf_RX8_283 ex7 ?_
            obtain ⟨p8, ep8, e⟩ := bs e
            refine V_callV (q := 75) (As := [.int x7]) (rest := []) (st' := [.int p8.1]) X (TB.get tb_X8_run 26 rfl) rfl cv_RX8_100 (ok_X8_answer a0 x7 h5 p8 ep8).1 (ok_X8_answer a0 x7 h5 p8 ep8).2 (Nat.le_of_ble_eq_true rfl) rfl rfl (Nat.le_of_ble_eq_true rfl) rfl ?_
            cases e
            exact V_iret X hr hlk (TB.get tb_X8_run 27 rfl)
          have e := (if_neg hc0).symm.trans e
          by_cases hc1 : a2 = (1 : Int32)
          · have e := (if_pos hc1).symm.trans e
            rw [hc1]
            refine V_tabIn (q := 76) X (TB.get tb_X8_run 21 rfl) (by decide) (by decide) rfl rfl ?_
            refine V_aload_n (q := 77) X (TB.get tb_X8_run 28 rfl) rfl rfl rfl ?_
            refine V_aload_n (q := 78) X (TB.get tb_X8_run 29 rfl) rfl rfl rfl ?_
            obtain ⟨x9, ex9, e⟩ := bs e
            refine V_getR (q := 81) X (TB.get tb_X8_run 30 rfl) rfl lf_RX8_36 ex9 ?_
            obtain ⟨x10, ex10, e⟩ := bs e
            refine V_getI (q := 84) X (TB.get tb_X8_run 31 rfl) rfl lf_RX8_286 ex10 ?_
            obtain ⟨p11, ep11, e⟩ := bs e
            refine V_callV (q := 87) (As := [.int x10]) (rest := []) (st' := [.int p11.1]) X (TB.get tb_X8_run 32 rfl) rfl cv_RX8_100 (ok_X8_answer a0 x10 h5 p11 ep11).1 (ok_X8_answer a0 x10 h5 p11 ep11).2 (Nat.le_of_ble_eq_true rfl) rfl rfl (Nat.le_of_ble_eq_true rfl) rfl ?_
            cases e
            exact V_iret X hr hlk (TB.get tb_X8_run 33 rfl)
          have e := (if_neg hc1).symm.trans e
          by_cases hc2 : a2 = (2 : Int32)
          · have e := (if_pos hc2).symm.trans e
            rw [hc2]
            refine V_tabIn (q := 88) X (TB.get tb_X8_run 21 rfl) (by decide) (by decide) rfl rfl ?_
            refine V_aload_n (q := 89) X (TB.get tb_X8_run 34 rfl) rfl rfl rfl ?_
            refine V_aload_n (q := 90) X (TB.get tb_X8_run 35 rfl) rfl rfl rfl ?_
            obtain ⟨x12, ex12, e⟩ := bs e
            refine V_getR (q := 93) X (TB.get tb_X8_run 36 rfl) rfl lf_RX8_36 ex12 ?_
            obtain ⟨x13, ex13, e⟩ := bs e
            refine V_getI (q := 96) X (TB.get tb_X8_run 37 rfl) rfl lf_RX8_289 ex13 ?_
            obtain ⟨p14, ep14, e⟩ := bs e
            refine V_callV (q := 99) (As := [.int x13]) (rest := []) (st' := [.int p14.1]) X (TB.get tb_X8_run 38 rfl) rfl cv_RX8_100 (ok_X8_answer a0 x13 h5 p14 ep14).1 (ok_X8_answer a0 x13 h5 p14 ep14).2 (Nat.le_of_ble_eq_true rfl) rfl rfl (Nat.le_of_ble_eq_true rfl) rfl ?_
            cases e
            exact V_iret X hr hlk (TB.get tb_X8_run 39 rfl)
          have e := (if_neg hc2).symm.trans e
          have hout : a2.toInt < 0 ∨ 2 < a2.toInt := tab_out a2 (0) (2) [0, 1, 2] (by decide +kernel) (fun v hv => by simp only [List.mem_cons, List.not_mem_nil, or_false] at hv; rcases hv with rfl | rfl | rfl <;> assumption)
          refine V_tabOut (q := 100) X (TB.get tb_X8_run 21 rfl) hout rfl ?_
          refine V_aload_n (q := 101) X (TB.get tb_X8_run 40 rfl) rfl rfl rfl ?_
          refine V_aload_n (q := 102) X (TB.get tb_X8_run 41 rfl) rfl rfl rfl ?_
          obtain ⟨x15, ex15, e⟩ := bs e
          refine V_getR (q := 105) X (TB.get tb_X8_run 42 rfl) rfl lf_RX8_36 ex15 ?_
          obtain ⟨x16, ex16, e⟩ := bs e
          refine V_getI (q := 108) X (TB.get tb_X8_run 43 rfl) rfl lf_RX8_292 ex16 ?_
          obtain ⟨p17, ep17, e⟩ := bs e
          refine V_callV (q := 111) (As := [.int x16]) (rest := []) (st' := [.int p17.1]) X (TB.get tb_X8_run 44 rfl) rfl cv_RX8_100 (ok_X8_answer a0 x16 h5 p17 ep17).1 (ok_X8_answer a0 x16 h5 p17 ep17).2 (Nat.le_of_ble_eq_true rfl) rfl rfl (Nat.le_of_ble_eq_true rfl) rfl ?_
          cases e
          exact V_iret X hr hlk (TB.get tb_X8_run 45 rfl)
        · have e := (if_neg hc).symm.trans e
          refine V_sub (lv' := [(0, .ref a0)]) [0] rfl ?_
          exact Jj1 e
set_option maxRecDepth 100000 in
set_option maxHeartbeats 4000000 in
theorem ok_X8_runs (fu : Nat) (a0 : Nat) (a1 : Int32) (a2 : Int32) (a3 : Int32) (h : Hp) (res : Int32 × Hp) (e : MX8_runs fu a0 a1 a2 a3 h = some res) : CK yX8_runs cX8_runs 6 (some .int) 5 [.ref a0, .int a1, .int a2, .int a3] h (some (.int res.1)) res.2 ∧ (h.1 a0).1 = 8 := by
  obtain ⟨hcl, e⟩ := h_g_inv e
  refine ⟨CK_of pn_RX8 cm_X8_runs (Nat.le_of_ble_eq_true rfl) ?_, hcl⟩
  intro l D tc B nn p en s m args below meth c X hr hlk
  replace X : CX p (rmD 5) s m args c cX8_runs 6 RX8 D tc 5 := X
  show V p l en (rmD 5) s m args below meth c 6 D tc B nn (Ar B nn) s.heap 0 0 (MQ below (QC D tc B nn (Ar B nn) (some (.int res.1)) res.2) args s 0 0 (Ar B nn)) h 0 [(0, .ref a0), (1, .int a1), (2, .int a2), (3, .int a3)] []
  refine V_iload_n (q := 1) X (TB.get tb_X8_runs 0 rfl) rfl rfl rfl ?_
  refine jn_elim (P := (fun (k : Option (Int32 × Hp)) => k = some res → V p l en (rmD 5) s m args below meth c 6 D tc B nn (Ar B nn) s.heap 0 0 (MQ below (QC D tc B nn (Ar B nn) (some (.int res.1)) res.2) args s 0 0 (Ar B nn)) h 34 [(0, .ref a0)] [])) e ?_ (fun j1 Jj1 e => ?_)
  · intro e
    refine V_aload_n (q := 35) X (TB.get tb_X8_runs 18 rfl) rfl rfl rfl ?_
    refine V_iconst (v := 1) (q := 36) X (TB.get tb_X8_runs 19 rfl) c_iconst_1 rfl ?_
    obtain ⟨p2, ep2, e⟩ := bs e
    refine V_callV (q := 39) (As := [.int (1 : Int32)]) (rest := []) (st' := [.int p2.1]) X (TB.get tb_X8_runs 20 rfl) rfl cv_RX8_80 (ok_X8_refuse a0 (1 : Int32) h p2 ep2).1 (ok_X8_refuse a0 (1 : Int32) h p2 ep2).2 (Nat.le_of_ble_eq_true rfl) rfl rfl (Nat.le_of_ble_eq_true rfl) rfl ?_
    cases e
    exact V_iret X hr hlk (TB.get tb_X8_runs 21 rfl)
  refine V_if_lt (q := 4) (t := 34) X (TB.get tb_X8_runs 1 rfl) rfl rfl (fun hc => ?_) (fun hc => ?_)
  · have e := (if_pos hc).symm.trans e
    refine V_sub (lv' := [(0, .ref a0)]) [0] rfl ?_
    exact Jj1 e
  · have e := (if_neg hc).symm.trans e
    refine V_iload_n (q := 5) X (TB.get tb_X8_runs 2 rfl) rfl rfl rfl ?_
    refine V_iconst (v := 1) (q := 6) X (TB.get tb_X8_runs 3 rfl) c_iconst_1 rfl ?_
    refine V_icmp_lt (q := 9) (t := 34) X (TB.get tb_X8_runs 4 rfl) rfl rfl (fun hc => ?_) (fun hc => ?_)
    · have e := (if_pos hc).symm.trans e
      refine V_sub (lv' := [(0, .ref a0)]) [0] rfl ?_
      exact Jj1 e
    · have e := (if_neg hc).symm.trans e
      refine V_iload_n (q := 10) X (TB.get tb_X8_runs 5 rfl) rfl rfl rfl ?_
      refine V_bipush (v := 50) (q := 12) X (TB.get tb_X8_runs 6 rfl) c_bipush_50 rfl ?_
      refine V_icmp_gt (q := 15) (t := 34) X (TB.get tb_X8_runs 7 rfl) rfl rfl (fun hc => ?_) (fun hc => ?_)
      · have e := (if_pos hc).symm.trans e
        refine V_sub (lv' := [(0, .ref a0)]) [0] rfl ?_
        exact Jj1 e
      · have e := (if_neg hc).symm.trans e
        refine V_iload_n (q := 16) X (TB.get tb_X8_runs 8 rfl) rfl rfl rfl ?_
        refine V_ldcw (v := 65537) (q := 19) X (TB.get tb_X8_runs 9 rfl) rfl kc_RX8_295 ?_
        refine V_iload_n (q := 20) X (TB.get tb_X8_runs 10 rfl) rfl rfl rfl ?_
        refine V_isub (q := 21) X (TB.get tb_X8_runs 11 rfl) rfl ?_
        refine V_icmp_gt (q := 24) (t := 34) X (TB.get tb_X8_runs 12 rfl) rfl rfl (fun hc => ?_) (fun hc => ?_)
        · have e := (if_pos hc).symm.trans e
          refine V_sub (lv' := [(0, .ref a0)]) [0] rfl ?_
          exact Jj1 e
        · have e := (if_neg hc).symm.trans e
          refine V_iload_n (q := 25) X (TB.get tb_X8_runs 13 rfl) rfl rfl rfl ?_
          refine V_if_lt (q := 28) (t := 34) X (TB.get tb_X8_runs 14 rfl) rfl rfl (fun hc => ?_) (fun hc => ?_)
          · have e := (if_pos hc).symm.trans e
            refine V_sub (lv' := [(0, .ref a0)]) [0] rfl ?_
            exact Jj1 e
          · have e := (if_neg hc).symm.trans e
            refine V_iload_n (q := 29) X (TB.get tb_X8_runs 15 rfl) rfl rfl rfl ?_
            refine V_bipush (v := 6) (q := 31) X (TB.get tb_X8_runs 16 rfl) c_bipush_6 rfl ?_
            refine V_icmp_le (q := 34) (t := 40) X (TB.get tb_X8_runs 17 rfl) rfl rfl (fun hc => ?_) (fun hc => ?_)
            · have e := (if_pos hc).symm.trans e
              refine V_iconst (v := 0) (q := 41) X (TB.get tb_X8_runs 22 rfl) c_iconst_0 rfl ?_
              refine V_istore (q := 43) (lv' := [(4, .int (0 : Int32)), (0, .ref a0), (1, .int a1), (2, .int a2), (3, .int a3)]) X (TB.get tb_X8_runs 23 rfl) rfl (Nat.le_of_ble_eq_true rfl) rfl ?_
              refine V_iconst (v := 0) (q := 44) X (TB.get tb_X8_runs 24 rfl) c_iconst_0 rfl ?_
              refine V_istore (q := 46) (lv' := [(5, .int (0 : Int32)), (4, .int (0 : Int32)), (0, .ref a0), (1, .int a1), (2, .int a2), (3, .int a3)]) X (TB.get tb_X8_runs 25 rfl) rfl (Nat.le_of_ble_eq_true rfl) rfl ?_
              refine jn_elim (P := (fun (k : Int32 → Hp → Option (Int32 × Hp)) => ∀ (v3 : Int32) (h4 : Hp), k v3 h4 = some res → V p l en (rmD 5) s m args below meth c 6 D tc B nn (Ar B nn) s.heap 0 0 (MQ below (QC D tc B nn (Ar B nn) (some (.int res.1)) res.2) args s 0 0 (Ar B nn)) h4 87 [(0, .ref a0), (4, .int v3)] [])) e ?_ (fun j5 Jj5 e => ?_)
              · intro v3 h4 e
                refine V_aload_n (q := 88) X (TB.get tb_X8_runs 45 rfl) rfl rfl rfl ?_
                refine V_iload (q := 90) X (TB.get tb_X8_runs 46 rfl) rfl rfl ?_
                obtain ⟨p6, ep6, e⟩ := bs e
                refine V_callV (q := 93) (As := [.int v3]) (rest := []) (st' := [.int p6.1]) X (TB.get tb_X8_runs 47 rfl) rfl cv_RX8_100 (ok_X8_answer a0 v3 h4 p6 ep6).1 (ok_X8_answer a0 v3 h4 p6 ep6).2 (Nat.le_of_ble_eq_true rfl) rfl rfl (Nat.le_of_ble_eq_true rfl) rfl ?_
                cases e
                exact V_iret X hr hlk (TB.get tb_X8_runs 48 rfl)
              refine V_sub (lv' := [(0, .ref a0), (1, .int a1), (2, .int a2), (3, .int a3), (4, .int (0 : Int32)), (5, .int (0 : Int32))]) [2, 3, 4, 5, 1, 0] rfl ?_
              refine wh3_elim (P := fun v7 v8 h9 => V p l en (rmD 5) s m args below meth c 6 D tc B nn (Ar B nn) s.heap 0 0 (MQ below (QC D tc B nn (Ar B nn) (some (.int res.1)) res.2) args s 0 0 (Ar B nn)) h9 46 [(0, .ref a0), (1, .int a1), (2, .int a2), (3, .int a3), (4, .int v7), (5, .int v8)] []) (f := fu) ?_ e
              intro self10 v7 v8 h9 ihself10 e
              unfold MX8_runs_B46 at e
              refine V_iload (q := 48) X (TB.get tb_X8_runs 26 rfl) rfl rfl ?_
              refine V_iload_n (q := 49) X (TB.get tb_X8_runs 27 rfl) rfl rfl rfl ?_
              refine V_icmp_ge (q := 52) (t := 87) X (TB.get tb_X8_runs 28 rfl) rfl rfl (fun hc => ?_) (fun hc => ?_)
              · have e := (if_pos hc).symm.trans e
                refine V_sub (lv' := [(0, .ref a0), (4, .int v7)]) [0, 4] rfl ?_
                exact Jj5 _ _ e
              · have e := (if_neg hc).symm.trans e
                refine V_aload_n (q := 53) X (TB.get tb_X8_runs 29 rfl) rfl rfl rfl ?_
                obtain ⟨x11, ex11, e⟩ := bs e
                refine V_getR (q := 56) X (TB.get tb_X8_runs 30 rfl) rfl lf_RX8_36 ex11 ?_
                refine V_aload_n (q := 57) X (TB.get tb_X8_runs 31 rfl) rfl rfl rfl ?_
                obtain ⟨x12, ex12, e⟩ := bs e
                refine V_getR (q := 60) X (TB.get tb_X8_runs 32 rfl) rfl lf_RX8_47 ex12 ?_
                refine V_iload_n (q := 61) X (TB.get tb_X8_runs 33 rfl) rfl rfl rfl ?_
                refine V_iload (q := 63) X (TB.get tb_X8_runs 34 rfl) rfl rfl ?_
                refine V_iadd (q := 64) X (TB.get tb_X8_runs 35 rfl) rfl ?_
                obtain ⟨h13, eh13, e⟩ := bs e
                refine V_callV (q := 67) (As := [.ref x12, .int (a1 + v8)]) (rest := []) (st' := []) X (TB.get tb_X8_runs 36 rfl) rfl cv_RX8_279 (ok_X5_go fu x11 x12 (a1 + v8) h9 h13 eh13).1 (ok_X5_go fu x11 x12 (a1 + v8) h9 h13 eh13).2 (Nat.le_of_ble_eq_true rfl) rfl rfl (Nat.le_of_ble_eq_true rfl) rfl ?_
                refine V_aload_n (q := 68) X (TB.get tb_X8_runs 37 rfl) rfl rfl rfl ?_
                obtain ⟨x14, ex14, e⟩ := bs e
                refine V_getR (q := 71) X (TB.get tb_X8_runs 38 rfl) rfl lf_RX8_36 ex14 ?_
                obtain ⟨x15, ex15, e⟩ := bs e
                refine V_getI (q := 74) X (TB.get tb_X8_runs 39 rfl) rfl lf_RX8_286 ex15 ?_
                refine V_iload_n (q := 75) X (TB.get tb_X8_runs 40 rfl) rfl rfl rfl ?_
                refine jn_elim (P := (fun (k : Int32 → Option (Int32 × Hp)) => ∀ (v16 : Int32), k v16 = some res → V p l en (rmD 5) s m args below meth c 6 D tc B nn (Ar B nn) s.heap 0 0 (MQ below (QC D tc B nn (Ar B nn) (some (.int res.1)) res.2) args s 0 0 (Ar B nn)) h13 81 [(0, .ref a0), (1, .int a1), (2, .int a2), (3, .int a3), (4, .int v16), (5, .int v8)] [])) e ?_ (fun j17 Jj17 e => ?_)
                · intro v16 e
                  refine V_iinc (q := 84) (v := v8 + (1 : Int32)) (lv' := [(5, .int (v8 + (1 : Int32))), (0, .ref a0), (1, .int a1), (2, .int a2), (3, .int a3), (4, .int v16)]) X (TB.get tb_X8_runs 43 rfl) rfl rfl (by rw [c_iconst_1]) (Nat.le_of_ble_eq_true rfl) rfl ?_
                  refine V_goto (q := 46) X (TB.get tb_X8_runs 44 rfl) rfl ?_
                  refine V_sub (lv' := [(0, .ref a0), (1, .int a1), (2, .int a2), (3, .int a3), (4, .int v16), (5, .int (v8 + (1 : Int32)))]) [1, 2, 3, 4, 5, 0] rfl ?_
                  exact ihself10 _ _ _ e
                refine V_icmp_ne (q := 78) (t := 81) X (TB.get tb_X8_runs 41 rfl) rfl rfl (fun hc => ?_) (fun hc => ?_)
                · have e := (if_neg hc).symm.trans e
                  exact Jj17 _ e
                · have e := (if_pos hc).symm.trans e
                  refine V_iinc (q := 81) (v := v7 + (1 : Int32)) (lv' := [(4, .int (v7 + (1 : Int32))), (0, .ref a0), (1, .int a1), (2, .int a2), (3, .int a3), (5, .int v8)]) X (TB.get tb_X8_runs 42 rfl) rfl rfl (by rw [c_iconst_1]) (Nat.le_of_ble_eq_true rfl) rfl ?_
                  refine V_sub (lv' := [(0, .ref a0), (1, .int a1), (2, .int a2), (3, .int a3), (4, .int (v7 + (1 : Int32))), (5, .int v8)]) [1, 2, 3, 4, 0, 5] rfl ?_
                  exact Jj17 _ e
            · have e := (if_neg hc).symm.trans e
              refine V_sub (lv' := [(0, .ref a0)]) [0] rfl ?_
              exact Jj1 e
