set_option maxRecDepth 100000 in
set_option maxHeartbeats 4000000 in
theorem ok_X9_isSign (a0 : Nat) (a1 : Int32) (h : Hp) (res : Int32) (e : MX9_isSign a0 a1 h = some res) : CK yX9_isSign cX9_isSign 2 (some .boolean) 0 [.ref a0, .int a1] h (some (.int res)) h ∧ (h.1 a0).1 = 9 := by
  obtain ⟨hcl, e⟩ := h_g_inv e
  refine ⟨CK_of pn_RX9 cm_X9_isSign (Nat.le_of_ble_eq_true rfl) ?_, hcl⟩
  intro l D tc B nn p en s m args below meth c X hr hlk
  replace X : CX p (rmD 0) s m args c cX9_isSign 2 RX9 D tc 0 := X
  show V p l en (rmD 0) s m args below meth c 2 D tc B nn (Ar B nn) s.heap 0 0 (MQ below (QC D tc B nn (Ar B nn) (some (.int res)) h) args s 0 0 (Ar B nn)) h 0 [(0, .ref a0), (1, .int a1)] []
  refine V_aload_n (q := 1) X (TB.get tb_X9_isSign 0 rfl) rfl rfl rfl ?_
  obtain ⟨x1, ex1, e⟩ := bs e
  refine V_getI (q := 4) X (TB.get tb_X9_isSign 1 rfl) rfl lf_RX9_117 ex1 ?_
  refine V_iconst (v := 3) (q := 5) X (TB.get tb_X9_isSign 2 rfl) c_iconst_3 rfl ?_
  refine jn_elim (P := (fun (k : Option (Int32)) => k = some res → V p l en (rmD 0) s m args below meth c 2 D tc B nn (Ar B nn) s.heap 0 0 (MQ below (QC D tc B nn (Ar B nn) (some (.int res)) h) args s 0 0 (Ar B nn)) h 20 [] [])) e ?_ (fun j2 Jj2 e => ?_)
  · intro e
    refine V_iconst (v := 0) (q := 21) X (TB.get tb_X9_isSign 10 rfl) c_iconst_0 rfl ?_
    cases e
    exact V_zret X hr hlk (Or.inl rfl) (TB.get tb_X9_isSign 11 rfl)
  refine V_icmp_ne (q := 8) (t := 20) X (TB.get tb_X9_isSign 3 rfl) rfl rfl (fun hc => ?_) (fun hc => ?_)
  · have e := (if_neg hc).symm.trans e
    refine V_sub (lv' := []) [] rfl ?_
    exact Jj2 e
  · have e := (if_pos hc).symm.trans e
    refine V_aload_n (q := 9) X (TB.get tb_X9_isSign 4 rfl) rfl rfl rfl ?_
    obtain ⟨x3, ex3, e⟩ := bs e
    refine V_getI (q := 12) X (TB.get tb_X9_isSign 5 rfl) rfl lf_RX9_132 ex3 ?_
    refine V_iload_n (q := 13) X (TB.get tb_X9_isSign 6 rfl) rfl rfl rfl ?_
    refine V_icmp_ne (q := 16) (t := 20) X (TB.get tb_X9_isSign 7 rfl) rfl rfl (fun hc => ?_) (fun hc => ?_)
    · have e := (if_neg hc).symm.trans e
      refine V_sub (lv' := []) [] rfl ?_
      exact Jj2 e
    · have e := (if_pos hc).symm.trans e
      refine V_iconst (v := 1) (q := 17) X (TB.get tb_X9_isSign 8 rfl) c_iconst_1 rfl ?_
      refine V_goto (q := 21) X (TB.get tb_X9_isSign 9 rfl) rfl ?_
      cases e
      exact V_zret X hr hlk (Or.inr rfl) (TB.get tb_X9_isSign 11 rfl)
set_option maxRecDepth 100000 in
set_option maxHeartbeats 4000000 in
theorem ok_X9_bad (a0 : Nat) (a1 : Int32) (h : Hp) (res : Int32 × Hp) (e : MX9_bad a0 a1 h = some res) : CK yX9_bad cX9_bad 2 (some .boolean) 0 [.ref a0, .int a1] h (some (.int res.1)) res.2 ∧ (h.1 a0).1 = 9 := by
  obtain ⟨hcl, e⟩ := h_g_inv e
  refine ⟨CK_of pn_RX9 cm_X9_bad (Nat.le_of_ble_eq_true rfl) ?_, hcl⟩
  intro l D tc B nn p en s m args below meth c X hr hlk
  replace X : CX p (rmD 0) s m args c cX9_bad 2 RX9 D tc 0 := X
  show V p l en (rmD 0) s m args below meth c 2 D tc B nn (Ar B nn) s.heap 0 0 (MQ below (QC D tc B nn (Ar B nn) (some (.int res.1)) res.2) args s 0 0 (Ar B nn)) h 0 [(0, .ref a0), (1, .int a1)] []
  refine V_aload_n (q := 1) X (TB.get tb_X9_bad 0 rfl) rfl rfl rfl ?_
  refine V_aload_n (q := 2) X (TB.get tb_X9_bad 1 rfl) rfl rfl rfl ?_
  obtain ⟨x1, ex1, e⟩ := bs e
  refine V_getI (q := 5) X (TB.get tb_X9_bad 2 rfl) rfl lf_RX9_117 ex1 ?_
  refine V_iconst (v := 1) (q := 6) X (TB.get tb_X9_bad 3 rfl) c_iconst_1 rfl ?_
  refine jn_elim (P := (fun (k : Int32 → Option (Int32 × Hp)) => ∀ (w2 : Int32), k w2 = some res → V p l en (rmD 0) s m args below meth c 2 D tc B nn (Ar B nn) s.heap 0 0 (MQ below (QC D tc B nn (Ar B nn) (some (.int res.1)) res.2) args s 0 0 (Ar B nn)) h 14 [(0, .ref a0)] [.int w2, .ref a0])) e ?_ (fun j3 Jj3 e => ?_)
  · intro w2 e
    obtain ⟨h4, eh4, e⟩ := bs e
    refine V_putI (q := 17) X (TB.get tb_X9_bad 8 rfl) rfl lq_RX9_149 eh4 ?_
    refine V_aload_n (q := 18) X (TB.get tb_X9_bad 9 rfl) rfl rfl rfl ?_
    refine V_aload_n (q := 19) X (TB.get tb_X9_bad 10 rfl) rfl rfl rfl ?_
    obtain ⟨x5, ex5, e⟩ := bs e
    refine V_getI (q := 22) X (TB.get tb_X9_bad 11 rfl) rfl lf_RX9_114 ex5 ?_
    obtain ⟨h6, eh6, e⟩ := bs e
    refine V_putI (q := 25) X (TB.get tb_X9_bad 12 rfl) rfl lq_RX9_152 eh6 ?_
    refine V_iconst (v := 0) (q := 26) X (TB.get tb_X9_bad 13 rfl) c_iconst_0 rfl ?_
    cases e
    exact V_zret X hr hlk (Or.inl rfl) (TB.get tb_X9_bad 14 rfl)
  refine V_icmp_ne (q := 9) (t := 13) X (TB.get tb_X9_bad 4 rfl) rfl rfl (fun hc => ?_) (fun hc => ?_)
  · have e := (if_neg hc).symm.trans e
    refine V_iload_n (q := 14) X (TB.get tb_X9_bad 7 rfl) rfl rfl rfl ?_
    refine V_sub (lv' := [(0, .ref a0)]) [0] rfl ?_
    exact Jj3 _ e
  · have e := (if_pos hc).symm.trans e
    refine V_iconst (v := 1) (q := 10) X (TB.get tb_X9_bad 5 rfl) c_iconst_1 rfl ?_
    refine V_goto (q := 14) X (TB.get tb_X9_bad 6 rfl) rfl ?_
    refine V_sub (lv' := [(0, .ref a0)]) [0] rfl ?_
    exact Jj3 _ e
set_option maxRecDepth 100000 in
set_option maxHeartbeats 4000000 in
theorem ok_X9_byteAt (a0 : Nat) (a1 : Int32) (h : Hp) (res : Int32) (e : MX9_byteAt a0 a1 h = some res) : CK yX9_byteAt cX9_byteAt 2 (some .int) 0 [.ref a0, .int a1] h (some (.int res)) h ∧ (h.1 a0).1 = 9 := by
  obtain ⟨hcl, e⟩ := h_g_inv e
  refine ⟨CK_of pn_RX9 cm_X9_byteAt (Nat.le_of_ble_eq_true rfl) ?_, hcl⟩
  intro l D tc B nn p en s m args below meth c X hr hlk
  replace X : CX p (rmD 0) s m args c cX9_byteAt 2 RX9 D tc 0 := X
  show V p l en (rmD 0) s m args below meth c 2 D tc B nn (Ar B nn) s.heap 0 0 (MQ below (QC D tc B nn (Ar B nn) (some (.int res)) h) args s 0 0 (Ar B nn)) h 0 [(0, .ref a0), (1, .int a1)] []
  refine V_iload_n (q := 1) X (TB.get tb_X9_byteAt 0 rfl) rfl rfl rfl ?_
  refine V_aload_n (q := 2) X (TB.get tb_X9_byteAt 1 rfl) rfl rfl rfl ?_
  obtain ⟨x1, ex1, e⟩ := bs e
  refine V_getI (q := 5) X (TB.get tb_X9_byteAt 2 rfl) rfl lf_RX9_104 ex1 ?_
  refine V_icmp_ge (q := 8) (t := 17) X (TB.get tb_X9_byteAt 3 rfl) rfl rfl (fun hc => ?_) (fun hc => ?_)
  · have e := (if_pos hc).symm.trans e
    refine V_iconst (v := -1) (q := 18) X (TB.get tb_X9_byteAt 9 rfl) c_iconst_m1 rfl ?_
    cases e
    exact V_iret X hr hlk (TB.get tb_X9_byteAt 10 rfl)
  · have e := (if_neg hc).symm.trans e
    refine V_aload_n (q := 9) X (TB.get tb_X9_byteAt 4 rfl) rfl rfl rfl ?_
    obtain ⟨x2, ex2, e⟩ := bs e
    refine V_getR (q := 12) X (TB.get tb_X9_byteAt 5 rfl) rfl lf_RX9_7 ex2 ?_
    refine V_iload_n (q := 13) X (TB.get tb_X9_byteAt 6 rfl) rfl rfl rfl ?_
    obtain ⟨x3, ex3, e⟩ := bs e
    refine V_iaload (q := 14) X (TB.get tb_X9_byteAt 7 rfl) rfl ex3 ?_
    refine V_goto (q := 18) X (TB.get tb_X9_byteAt 8 rfl) rfl ?_
    cases e
    exact V_iret X hr hlk (TB.get tb_X9_byteAt 10 rfl)
set_option maxRecDepth 100000 in
set_option maxHeartbeats 4000000 in
theorem ok_X9_isLetter (a0 : Int32) (h : Hp) (res : Int32) (e : MX9_isLetter a0 = some res) : CK yX9_isLetter cX9_isLetter 1 (some .boolean) 0 [.int a0] h (some (.int res)) h := by
  unfold MX9_isLetter at e
  refine CK_of pn_RX9 cm_X9_isLetter (Nat.le_of_ble_eq_true rfl) ?_
  intro l D tc B nn p en s m args below meth c X hr hlk
  replace X : CX p (rmD 0) s m args c cX9_isLetter 1 RX9 D tc 0 := X
  show V p l en (rmD 0) s m args below meth c 1 D tc B nn (Ar B nn) s.heap 0 0 (MQ below (QC D tc B nn (Ar B nn) (some (.int res)) h) args s 0 0 (Ar B nn)) h 0 [(0, .int a0)] []
  refine V_iload_n (q := 1) X (TB.get tb_X9_isLetter 0 rfl) rfl rfl rfl ?_
  refine V_bipush (v := 97) (q := 3) X (TB.get tb_X9_isLetter 1 rfl) c_bipush_97 rfl ?_
  refine jn_elim (P := (fun (k : Option (Int32)) => k = some res → V p l en (rmD 0) s m args below meth c 1 D tc B nn (Ar B nn) s.heap 0 0 (MQ below (QC D tc B nn (Ar B nn) (some (.int res)) h) args s 0 0 (Ar B nn)) h 16 [] [])) e ?_ (fun j1 Jj1 e => ?_)
  · intro e
    refine V_iconst (v := 0) (q := 17) X (TB.get tb_X9_isLetter 8 rfl) c_iconst_0 rfl ?_
    cases e
    exact V_zret X hr hlk (Or.inl rfl) (TB.get tb_X9_isLetter 9 rfl)
  refine V_icmp_lt (q := 6) (t := 16) X (TB.get tb_X9_isLetter 2 rfl) rfl rfl (fun hc => ?_) (fun hc => ?_)
  · have e := (if_pos hc).symm.trans e
    refine V_sub (lv' := []) [] rfl ?_
    exact Jj1 e
  · have e := (if_neg hc).symm.trans e
    refine V_iload_n (q := 7) X (TB.get tb_X9_isLetter 3 rfl) rfl rfl rfl ?_
    refine V_bipush (v := 122) (q := 9) X (TB.get tb_X9_isLetter 4 rfl) c_bipush_122 rfl ?_
    refine V_icmp_gt (q := 12) (t := 16) X (TB.get tb_X9_isLetter 5 rfl) rfl rfl (fun hc => ?_) (fun hc => ?_)
    · have e := (if_pos hc).symm.trans e
      refine V_sub (lv' := []) [] rfl ?_
      exact Jj1 e
    · have e := (if_neg hc).symm.trans e
      refine V_iconst (v := 1) (q := 13) X (TB.get tb_X9_isLetter 6 rfl) c_iconst_1 rfl ?_
      refine V_goto (q := 17) X (TB.get tb_X9_isLetter 7 rfl) rfl ?_
      cases e
      exact V_zret X hr hlk (Or.inr rfl) (TB.get tb_X9_isLetter 9 rfl)
set_option maxRecDepth 100000 in
set_option maxHeartbeats 4000000 in
theorem ok_X9_go (fu : Nat) (a0 : Nat) (h : Hp) (res : Hp) (e : MX9_go fu a0 h = some res) : CK yX9_go cX9_go 2 none 1 [.ref a0] h none res ∧ (h.1 a0).1 = 9 := by
  obtain ⟨hcl, e⟩ := h_g_inv e
  refine ⟨CK_of pn_RX9 cm_X9_go (Nat.le_of_ble_eq_true rfl) ?_, hcl⟩
  intro l D tc B nn p en s m args below meth c X hr hlk
  replace X : CX p (rmD 1) s m args c cX9_go 2 RX9 D tc 1 := X
  show V p l en (rmD 1) s m args below meth c 2 D tc B nn (Ar B nn) s.heap 0 0 (MQ below (QC D tc B nn (Ar B nn) none res) args s 0 0 (Ar B nn)) h 0 [(0, .ref a0)] []
  refine jn_elim (P := (fun (k : Hp → Option (Hp)) => ∀ (h1 : Hp), k h1 = some res → V p l en (rmD 1) s m args below meth c 2 D tc B nn (Ar B nn) s.heap 0 0 (MQ below (QC D tc B nn (Ar B nn) none res) args s 0 0 (Ar B nn)) h1 39 [(0, .ref a0)] [])) e ?_ (fun j2 Jj2 e => ?_)
  · intro h1 e
    refine V_aload_n (q := 40) X (TB.get tb_X9_go 19 rfl) rfl rfl rfl ?_
    refine V_aload_n (q := 41) X (TB.get tb_X9_go 20 rfl) rfl rfl rfl ?_
    obtain ⟨x3, ex3, e⟩ := bs e
    refine V_getI (q := 44) X (TB.get tb_X9_go 21 rfl) rfl lf_RX9_107 ex3 ?_
    obtain ⟨h4, eh4, e⟩ := bs e
    refine V_putI (q := 47) X (TB.get tb_X9_go 22 rfl) rfl lq_RX9_114 eh4 ?_
    refine V_aload_n (q := 48) X (TB.get tb_X9_go 23 rfl) rfl rfl rfl ?_
    refine V_aload_n (q := 49) X (TB.get tb_X9_go 24 rfl) rfl rfl rfl ?_
    obtain ⟨x5, ex5, e⟩ := bs e
    refine V_getI (q := 52) X (TB.get tb_X9_go 25 rfl) rfl lf_RX9_107 ex5 ?_
    obtain ⟨x6, ex6, e⟩ := bs e
    refine V_callV (q := 55) (As := [.int x5]) (rest := []) (st' := [.int x6]) X (TB.get tb_X9_go 26 rfl) rfl cv_RX9_110 (ok_X9_byteAt a0 x5 h4 x6 ex6).1 (ok_X9_byteAt a0 x5 h4 x6 ex6).2 (Nat.le_of_ble_eq_true rfl) rfl rfl (Nat.le_of_ble_eq_true rfl) rfl ?_
    refine V_istore_n (q := 56) (lv' := [(1, .int x6), (0, .ref a0)]) X (TB.get tb_X9_go 27 rfl) rfl rfl (Nat.le_of_ble_eq_true rfl) rfl ?_
    refine V_iload_n (q := 57) X (TB.get tb_X9_go 28 rfl) rfl rfl rfl ?_
    refine V_iconst (v := -1) (q := 58) X (TB.get tb_X9_go 29 rfl) c_iconst_m1 rfl ?_
    refine V_icmp_ne (q := 61) (t := 69) X (TB.get tb_X9_go 30 rfl) rfl rfl (fun hc => ?_) (fun hc => ?_)
    · have e := (if_neg hc).symm.trans e
      refine V_iload_n (q := 70) X (TB.get tb_X9_go 35 rfl) rfl rfl rfl ?_
      obtain ⟨x7, ex7, e⟩ := bs e
      refine V_callS (q := 73) (As := [.int x6]) (rest := []) (st' := [.int x7]) X (TB.get tb_X9_go 36 rfl) rfl cs_RX9_120 (ok_X9_isLetter x6 h4 x7 ex7) (Nat.le_of_ble_eq_true rfl) rfl rfl (Nat.le_of_ble_eq_true rfl) rfl ?_
      refine V_if_eq (q := 76) (t := 174) X (TB.get tb_X9_go 37 rfl) rfl rfl (fun hc => ?_) (fun hc => ?_)
      · have e := (if_pos hc).symm.trans e
        refine V_aload_n (q := 175) X (TB.get tb_X9_go 88 rfl) rfl rfl rfl ?_
        refine V_dup (q := 176) X (TB.get tb_X9_go 89 rfl) rfl rfl ?_
        refine V_getI (q := 179) X (TB.get tb_X9_go 90 rfl) rfl lf_RX9_107 ex5 ?_
        refine V_iconst (v := 1) (q := 180) X (TB.get tb_X9_go 91 rfl) c_iconst_1 rfl ?_
        refine V_iadd (q := 181) X (TB.get tb_X9_go 92 rfl) rfl ?_
        obtain ⟨h8, eh8, e⟩ := bs e
        refine V_putI (q := 184) X (TB.get tb_X9_go 93 rfl) rfl lq_RX9_107 eh8 ?_
        refine V_aload_n (q := 185) X (TB.get tb_X9_go 94 rfl) rfl rfl rfl ?_
        refine V_iload_n (q := 186) X (TB.get tb_X9_go 95 rfl) rfl rfl rfl ?_
        refine V_bipush (v := 59) (q := 188) X (TB.get tb_X9_go 96 rfl) c_bipush_59 rfl ?_
        refine jn_elim (P := (fun (k : Int32 → Option (Hp)) => ∀ (w9 : Int32), k w9 = some res → V p l en (rmD 1) s m args below meth c 2 D tc B nn (Ar B nn) s.heap 0 0 (MQ below (QC D tc B nn (Ar B nn) none res) args s 0 0 (Ar B nn)) h8 208 [(0, .ref a0), (1, .int x6)] [.int w9, .ref a0])) e ?_ (fun j10 Jj10 e => ?_)
        · intro w9 e
          obtain ⟨h11, eh11, e⟩ := bs e
          refine V_putI (q := 211) X (TB.get tb_X9_go 107 rfl) rfl lq_RX9_117 eh11 ?_
          refine V_aload_n (q := 212) X (TB.get tb_X9_go 108 rfl) rfl rfl rfl ?_
          refine V_iload_n (q := 213) X (TB.get tb_X9_go 109 rfl) rfl rfl rfl ?_
          obtain ⟨h12, eh12, e⟩ := bs e
          refine V_putI (q := 216) X (TB.get tb_X9_go 110 rfl) rfl lq_RX9_132 eh12 ?_
          cases e
          exact V_vret X hr hlk (TB.get tb_X9_go 111 rfl)
        refine jn_elim (P := (fun (k : Option (Hp)) => k = some res → V p l en (rmD 1) s m args below meth c 2 D tc B nn (Ar B nn) s.heap 0 0 (MQ below (QC D tc B nn (Ar B nn) none res) args s 0 0 (Ar B nn)) h8 203 [(0, .ref a0), (1, .int x6)] [.ref a0])) e ?_ (fun j13 Jj13 e => ?_)
        · intro e
          refine V_iconst (v := 3) (q := 204) X (TB.get tb_X9_go 104 rfl) c_iconst_3 rfl ?_
          refine V_goto (q := 208) X (TB.get tb_X9_go 105 rfl) rfl ?_
          exact Jj10 _ e
        refine V_icmp_eq (q := 191) (t := 203) X (TB.get tb_X9_go 97 rfl) rfl rfl (fun hc => ?_) (fun hc => ?_)
        · have e := (if_pos hc).symm.trans e
          refine V_sub (lv' := [(0, .ref a0), (1, .int x6)]) [1, 0] rfl ?_
          exact Jj13 e
        · have e := (if_neg hc).symm.trans e
          refine V_iload_n (q := 192) X (TB.get tb_X9_go 98 rfl) rfl rfl rfl ?_
          refine V_bipush (v := 123) (q := 194) X (TB.get tb_X9_go 99 rfl) c_bipush_123 rfl ?_
          refine V_icmp_eq (q := 197) (t := 203) X (TB.get tb_X9_go 100 rfl) rfl rfl (fun hc => ?_) (fun hc => ?_)
          · have e := (if_pos hc).symm.trans e
            refine V_sub (lv' := [(0, .ref a0), (1, .int x6)]) [1, 0] rfl ?_
            exact Jj13 e
          · have e := (if_neg hc).symm.trans e
            refine V_iload_n (q := 198) X (TB.get tb_X9_go 101 rfl) rfl rfl rfl ?_
            refine V_bipush (v := 125) (q := 200) X (TB.get tb_X9_go 102 rfl) c_bipush_125 rfl ?_
            refine V_icmp_ne (q := 203) (t := 207) X (TB.get tb_X9_go 103 rfl) rfl rfl (fun hc => ?_) (fun hc => ?_)
            · have e := (if_neg hc).symm.trans e
              refine V_iconst (v := 1) (q := 208) X (TB.get tb_X9_go 106 rfl) c_iconst_1 rfl ?_
              refine V_sub (lv' := [(0, .ref a0), (1, .int x6)]) [1, 0] rfl ?_
              exact Jj10 _ e
            · have e := (if_pos hc).symm.trans e
              refine V_sub (lv' := [(0, .ref a0), (1, .int x6)]) [1, 0] rfl ?_
              exact Jj13 e
      · have e := (if_neg hc).symm.trans e
        refine V_aload_n (q := 77) X (TB.get tb_X9_go 38 rfl) rfl rfl rfl ?_
        refine V_lconst (v := 0) (q := 78) X (TB.get tb_X9_go 39 rfl) c_lconst_0 rfl ?_
        obtain ⟨h14, eh14, e⟩ := bs e
        refine V_putL (q := 81) X (TB.get tb_X9_go 40 rfl) rfl lq_RX9_124 eh14 ?_
        refine jn_elim (P := (fun (k : Hp → Option (Hp)) => ∀ (h15 : Hp), k h15 = some res → V p l en (rmD 1) s m args below meth c 2 D tc B nn (Ar B nn) s.heap 0 0 (MQ below (QC D tc B nn (Ar B nn) none res) args s 0 0 (Ar B nn)) h15 148 [(0, .ref a0)] [])) e ?_ (fun j16 Jj16 e => ?_)
        · intro h15 e
          refine V_aload_n (q := 149) X (TB.get tb_X9_go 75 rfl) rfl rfl rfl ?_
          refine V_aload_n (q := 150) X (TB.get tb_X9_go 76 rfl) rfl rfl rfl ?_
          obtain ⟨x17, ex17, e⟩ := bs e
          refine V_getI (q := 153) X (TB.get tb_X9_go 77 rfl) rfl lf_RX9_107 ex17 ?_
          refine V_aload_n (q := 154) X (TB.get tb_X9_go 78 rfl) rfl rfl rfl ?_
          obtain ⟨x18, ex18, e⟩ := bs e
          refine V_getI (q := 157) X (TB.get tb_X9_go 79 rfl) rfl lf_RX9_114 ex18 ?_
          refine V_isub (q := 158) X (TB.get tb_X9_go 80 rfl) rfl ?_
          refine V_bipush (v := 8) (q := 160) X (TB.get tb_X9_go 81 rfl) c_bipush_8 rfl ?_
          refine jn_elim (P := (fun (k : Int32 → Option (Hp)) => ∀ (w19 : Int32), k w19 = some res → V p l en (rmD 1) s m args below meth c 2 D tc B nn (Ar B nn) s.heap 0 0 (MQ below (QC D tc B nn (Ar B nn) none res) args s 0 0 (Ar B nn)) h15 168 [] [.int w19, .ref a0])) e ?_ (fun j20 Jj20 e => ?_)
          · intro w19 e
            obtain ⟨h21, eh21, e⟩ := bs e
            refine V_putI (q := 171) X (TB.get tb_X9_go 86 rfl) rfl lq_RX9_117 eh21 ?_
            refine V_goto (q := 216) X (TB.get tb_X9_go 87 rfl) rfl ?_
            cases e
            exact V_vret X hr hlk (TB.get tb_X9_go 111 rfl)
          refine V_icmp_le (q := 163) (t := 167) X (TB.get tb_X9_go 82 rfl) rfl rfl (fun hc => ?_) (fun hc => ?_)
          · have e := (if_pos hc).symm.trans e
            refine V_iconst (v := 2) (q := 168) X (TB.get tb_X9_go 85 rfl) c_iconst_2 rfl ?_
            refine V_sub (lv' := []) [] rfl ?_
            exact Jj20 _ e
          · have e := (if_neg hc).symm.trans e
            refine V_iconst (v := 1) (q := 164) X (TB.get tb_X9_go 83 rfl) c_iconst_1 rfl ?_
            refine V_goto (q := 168) X (TB.get tb_X9_go 84 rfl) rfl ?_
            refine V_sub (lv' := []) [] rfl ?_
            exact Jj20 _ e
        refine V_sub (lv' := [(0, .ref a0)]) [1] rfl ?_
        refine wh1_elim (P := fun h22 => V p l en (rmD 1) s m args below meth c 2 D tc B nn (Ar B nn) s.heap 0 0 (MQ below (QC D tc B nn (Ar B nn) none res) args s 0 0 (Ar B nn)) h22 81 [(0, .ref a0)] []) (f := fu) ?_ e
        intro self23 h22 ihself23 e
        unfold MX9_go_B81 at e
        refine V_aload_n (q := 82) X (TB.get tb_X9_go 41 rfl) rfl rfl rfl ?_
        refine V_aload_n (q := 83) X (TB.get tb_X9_go 42 rfl) rfl rfl rfl ?_
        obtain ⟨x24, ex24, e⟩ := bs e
        refine V_getI (q := 86) X (TB.get tb_X9_go 43 rfl) rfl lf_RX9_107 ex24 ?_
        obtain ⟨x25, ex25, e⟩ := bs e
        refine V_callV (q := 89) (As := [.int x24]) (rest := []) (st' := [.int x25]) X (TB.get tb_X9_go 44 rfl) rfl cv_RX9_110 (ok_X9_byteAt a0 x24 h22 x25 ex25).1 (ok_X9_byteAt a0 x24 h22 x25 ex25).2 (Nat.le_of_ble_eq_true rfl) rfl rfl (Nat.le_of_ble_eq_true rfl) rfl ?_
        obtain ⟨x26, ex26, e⟩ := bs e
        refine V_callS (q := 92) (As := [.int x25]) (rest := []) (st' := [.int x26]) X (TB.get tb_X9_go 45 rfl) rfl cs_RX9_120 (ok_X9_isLetter x25 h22 x26 ex26) (Nat.le_of_ble_eq_true rfl) rfl rfl (Nat.le_of_ble_eq_true rfl) rfl ?_
        refine V_if_eq (q := 95) (t := 148) X (TB.get tb_X9_go 46 rfl) rfl rfl (fun hc => ?_) (fun hc => ?_)
        · have e := (if_pos hc).symm.trans e
          exact Jj16 _ e
        · have e := (if_neg hc).symm.trans e
          refine V_aload_n (q := 96) X (TB.get tb_X9_go 47 rfl) rfl rfl rfl ?_
          refine V_getI (q := 99) X (TB.get tb_X9_go 48 rfl) rfl lf_RX9_107 ex24 ?_
          refine V_aload_n (q := 100) X (TB.get tb_X9_go 49 rfl) rfl rfl rfl ?_
          obtain ⟨x27, ex27, e⟩ := bs e
          refine V_getI (q := 103) X (TB.get tb_X9_go 50 rfl) rfl lf_RX9_114 ex27 ?_
          refine V_isub (q := 104) X (TB.get tb_X9_go 51 rfl) rfl ?_
          refine V_bipush (v := 8) (q := 106) X (TB.get tb_X9_go 52 rfl) c_bipush_8 rfl ?_
          refine jn_elim (P := (fun (k : Hp → Option (Hp)) => ∀ (h28 : Hp), k h28 = some res → V p l en (rmD 1) s m args below meth c 2 D tc B nn (Ar B nn) s.heap 0 0 (MQ below (QC D tc B nn (Ar B nn) none res) args s 0 0 (Ar B nn)) h28 135 [(0, .ref a0)] [])) e ?_ (fun j29 Jj29 e => ?_)
          · intro h28 e
            refine V_aload_n (q := 136) X (TB.get tb_X9_go 68 rfl) rfl rfl rfl ?_
            refine V_dup (q := 137) X (TB.get tb_X9_go 69 rfl) rfl rfl ?_
            obtain ⟨x30, ex30, e⟩ := bs e
            refine V_getI (q := 140) X (TB.get tb_X9_go 70 rfl) rfl lf_RX9_107 ex30 ?_
            refine V_iconst (v := 1) (q := 141) X (TB.get tb_X9_go 71 rfl) c_iconst_1 rfl ?_
            refine V_iadd (q := 142) X (TB.get tb_X9_go 72 rfl) rfl ?_
            obtain ⟨h31, eh31, e⟩ := bs e
            refine V_putI (q := 145) X (TB.get tb_X9_go 73 rfl) rfl lq_RX9_107 eh31 ?_
            refine V_goto (q := 81) X (TB.get tb_X9_go 74 rfl) rfl ?_
            exact ihself23 _ e
          refine V_icmp_ge (q := 109) (t := 135) X (TB.get tb_X9_go 53 rfl) rfl rfl (fun hc => ?_) (fun hc => ?_)
          · have e := (if_pos hc).symm.trans e
            exact Jj29 _ e
          · have e := (if_neg hc).symm.trans e
            refine V_aload_n (q := 110) X (TB.get tb_X9_go 54 rfl) rfl rfl rfl ?_
            refine V_ldc2 (v := 27) (q := 113) X (TB.get tb_X9_go 55 rfl) rfl kl_RX9_128 ?_
            refine V_aload_n (q := 114) X (TB.get tb_X9_go 56 rfl) rfl rfl rfl ?_
            obtain ⟨x32, ex32, e⟩ := bs e
            refine V_getL (q := 117) X (TB.get tb_X9_go 57 rfl) rfl lf_RX9_124 ex32 ?_
            refine V_lmul (q := 118) X (TB.get tb_X9_go 58 rfl) rfl ?_
            refine V_aload_n (q := 119) X (TB.get tb_X9_go 59 rfl) rfl rfl rfl ?_
            refine V_aload_n (q := 120) X (TB.get tb_X9_go 60 rfl) rfl rfl rfl ?_
            refine V_getI (q := 123) X (TB.get tb_X9_go 61 rfl) rfl lf_RX9_107 ex24 ?_
            refine V_callV (q := 126) (As := [.int x24]) (rest := [.long ((27 : Int64) * x32), .ref a0]) (st' := [.int x25, .long ((27 : Int64) * x32), .ref a0]) X (TB.get tb_X9_go 62 rfl) rfl cv_RX9_110 (ok_X9_byteAt a0 x24 h22 x25 ex25).1 (ok_X9_byteAt a0 x24 h22 x25 ex25).2 (Nat.le_of_ble_eq_true rfl) rfl rfl (Nat.le_of_ble_eq_true rfl) rfl ?_
            refine V_i2l (q := 127) X (TB.get tb_X9_go 63 rfl) rfl ?_
            refine V_ladd (q := 128) X (TB.get tb_X9_go 64 rfl) rfl ?_
            refine V_ldc2 (v := 96) (q := 131) X (TB.get tb_X9_go 65 rfl) rfl kl_RX9_130 ?_
            refine V_lsub (q := 132) X (TB.get tb_X9_go 66 rfl) rfl ?_
            obtain ⟨h33, eh33, e⟩ := bs e
            refine V_putL (q := 135) X (TB.get tb_X9_go 67 rfl) rfl lq_RX9_124 eh33 ?_
            exact Jj29 _ e
    · have e := (if_pos hc).symm.trans e
      refine V_aload_n (q := 62) X (TB.get tb_X9_go 31 rfl) rfl rfl rfl ?_
      refine V_iconst (v := 0) (q := 63) X (TB.get tb_X9_go 32 rfl) c_iconst_0 rfl ?_
      obtain ⟨h34, eh34, e⟩ := bs e
      refine V_putI (q := 66) X (TB.get tb_X9_go 33 rfl) rfl lq_RX9_117 eh34 ?_
      refine V_goto (q := 216) X (TB.get tb_X9_go 34 rfl) rfl ?_
      cases e
      exact V_vret X hr hlk (TB.get tb_X9_go 111 rfl)
  refine wh1_elim (P := fun h35 => V p l en (rmD 1) s m args below meth c 2 D tc B nn (Ar B nn) s.heap 0 0 (MQ below (QC D tc B nn (Ar B nn) none res) args s 0 0 (Ar B nn)) h35 0 [(0, .ref a0)] []) (f := fu) ?_ e
  intro self36 h35 ihself36 e
  unfold MX9_go_B0 at e
  refine V_aload_n (q := 1) X (TB.get tb_X9_go 0 rfl) rfl rfl rfl ?_
  refine V_aload_n (q := 2) X (TB.get tb_X9_go 1 rfl) rfl rfl rfl ?_
  obtain ⟨x37, ex37, e⟩ := bs e
  refine V_getI (q := 5) X (TB.get tb_X9_go 2 rfl) rfl lf_RX9_107 ex37 ?_
  obtain ⟨x38, ex38, e⟩ := bs e
  refine V_callV (q := 8) (As := [.int x37]) (rest := []) (st' := [.int x38]) X (TB.get tb_X9_go 3 rfl) rfl cv_RX9_110 (ok_X9_byteAt a0 x37 h35 x38 ex38).1 (ok_X9_byteAt a0 x37 h35 x38 ex38).2 (Nat.le_of_ble_eq_true rfl) rfl rfl (Nat.le_of_ble_eq_true rfl) rfl ?_
  refine V_bipush (v := 32) (q := 10) X (TB.get tb_X9_go 4 rfl) c_bipush_32 rfl ?_
  refine jn_elim (P := (fun (k : Option (Hp)) => k = some res → V p l en (rmD 1) s m args below meth c 2 D tc B nn (Ar B nn) s.heap 0 0 (MQ below (QC D tc B nn (Ar B nn) none res) args s 0 0 (Ar B nn)) h35 26 [(0, .ref a0)] [])) e ?_ (fun j39 Jj39 e => ?_)
  · intro e
    refine V_aload_n (q := 27) X (TB.get tb_X9_go 12 rfl) rfl rfl rfl ?_
    refine V_dup (q := 28) X (TB.get tb_X9_go 13 rfl) rfl rfl ?_
    refine V_getI (q := 31) X (TB.get tb_X9_go 14 rfl) rfl lf_RX9_107 ex37 ?_
    refine V_iconst (v := 1) (q := 32) X (TB.get tb_X9_go 15 rfl) c_iconst_1 rfl ?_
    refine V_iadd (q := 33) X (TB.get tb_X9_go 16 rfl) rfl ?_
    obtain ⟨h40, eh40, e⟩ := bs e
    refine V_putI (q := 36) X (TB.get tb_X9_go 17 rfl) rfl lq_RX9_107 eh40 ?_
    refine V_goto (q := 0) X (TB.get tb_X9_go 18 rfl) rfl ?_
    exact ihself36 _ e
  refine V_icmp_eq (q := 13) (t := 26) X (TB.get tb_X9_go 5 rfl) rfl rfl (fun hc => ?_) (fun hc => ?_)
  · have e := (if_pos hc).symm.trans e
    exact Jj39 e
  · have e := (if_neg hc).symm.trans e
    refine V_aload_n (q := 14) X (TB.get tb_X9_go 6 rfl) rfl rfl rfl ?_
    refine V_aload_n (q := 15) X (TB.get tb_X9_go 7 rfl) rfl rfl rfl ?_
    refine V_getI (q := 18) X (TB.get tb_X9_go 8 rfl) rfl lf_RX9_107 ex37 ?_
    refine V_callV (q := 21) (As := [.int x37]) (rest := []) (st' := [.int x38]) X (TB.get tb_X9_go 9 rfl) rfl cv_RX9_110 (ok_X9_byteAt a0 x37 h35 x38 ex38).1 (ok_X9_byteAt a0 x37 h35 x38 ex38).2 (Nat.le_of_ble_eq_true rfl) rfl rfl (Nat.le_of_ble_eq_true rfl) rfl ?_
    refine V_bipush (v := 10) (q := 23) X (TB.get tb_X9_go 10 rfl) c_bipush_10 rfl ?_
    refine V_icmp_ne (q := 26) (t := 39) X (TB.get tb_X9_go 11 rfl) rfl rfl (fun hc => ?_) (fun hc => ?_)
    · have e := (if_neg hc).symm.trans e
      exact Jj2 _ e
    · have e := (if_pos hc).symm.trans e
      exact Jj39 e
set_option maxRecDepth 100000 in
set_option maxHeartbeats 4000000 in
theorem ok_X9_eats (fu : Nat) (a0 : Nat) (a1 : Int32) (h : Hp) (res : Int32 × Hp) (e : MX9_eats fu a0 a1 h = some res) : CK yX9_eats cX9_eats 2 (some .boolean) 2 [.ref a0, .int a1] h (some (.int res.1)) res.2 ∧ (h.1 a0).1 = 9 := by
  obtain ⟨hcl, e⟩ := h_g_inv e
  refine ⟨CK_of pn_RX9 cm_X9_eats (Nat.le_of_ble_eq_true rfl) ?_, hcl⟩
  intro l D tc B nn p en s m args below meth c X hr hlk
  replace X : CX p (rmD 2) s m args c cX9_eats 2 RX9 D tc 2 := X
  show V p l en (rmD 2) s m args below meth c 2 D tc B nn (Ar B nn) s.heap 0 0 (MQ below (QC D tc B nn (Ar B nn) (some (.int res.1)) res.2) args s 0 0 (Ar B nn)) h 0 [(0, .ref a0), (1, .int a1)] []
  refine V_aload_n (q := 1) X (TB.get tb_X9_eats 0 rfl) rfl rfl rfl ?_
  refine V_iload_n (q := 2) X (TB.get tb_X9_eats 1 rfl) rfl rfl rfl ?_
  obtain ⟨x1, ex1, e⟩ := bs e
  refine V_callV (q := 5) (As := [.int a1]) (rest := []) (st' := [.int x1]) X (TB.get tb_X9_eats 2 rfl) rfl cv_RX9_155 (ok_X9_isSign a0 a1 h x1 ex1).1 (ok_X9_isSign a0 a1 h x1 ex1).2 (Nat.le_of_ble_eq_true rfl) rfl rfl (Nat.le_of_ble_eq_true rfl) rfl ?_
  refine V_if_ne (q := 8) (t := 14) X (TB.get tb_X9_eats 3 rfl) rfl rfl (fun hc => ?_) (fun hc => ?_)
  · have e := (if_neg hc).symm.trans e
    refine V_aload_n (q := 15) X (TB.get tb_X9_eats 8 rfl) rfl rfl rfl ?_
    obtain ⟨h2, eh2, e⟩ := bs e
    refine V_callV (q := 18) (As := []) (rest := []) (st' := []) X (TB.get tb_X9_eats 9 rfl) rfl cv_RX9_161 (ok_X9_go fu a0 h h2 eh2).1 (ok_X9_go fu a0 h h2 eh2).2 (Nat.le_of_ble_eq_true rfl) rfl rfl (Nat.le_of_ble_eq_true rfl) rfl ?_
    refine V_iconst (v := 1) (q := 19) X (TB.get tb_X9_eats 10 rfl) c_iconst_1 rfl ?_
    cases e
    exact V_zret X hr hlk (Or.inr rfl) (TB.get tb_X9_eats 11 rfl)
  · have e := (if_pos hc).symm.trans e
    refine V_aload_n (q := 9) X (TB.get tb_X9_eats 4 rfl) rfl rfl rfl ?_
    refine V_iconst (v := 2) (q := 10) X (TB.get tb_X9_eats 5 rfl) c_iconst_2 rfl ?_
    obtain ⟨p3, ep3, e⟩ := bs e
    refine V_callV (q := 13) (As := [.int (2 : Int32)]) (rest := []) (st' := [.int p3.1]) X (TB.get tb_X9_eats 6 rfl) rfl cv_RX9_158 (ok_X9_bad a0 (2 : Int32) h p3 ep3).1 (ok_X9_bad a0 (2 : Int32) h p3 ep3).2 (Nat.le_of_ble_eq_true rfl) rfl rfl (Nat.le_of_ble_eq_true rfl) rfl ?_
    obtain ⟨z4, ez4, e⟩ := bs e
    cases e
    exact V_zretH X hr hlk ez4 (TB.get tb_X9_eats 7 rfl)
set_option maxRecDepth 100000 in
set_option maxHeartbeats 4000000 in
theorem ok_X9_spelt (a0 : Int32) (a1 : Int32) (a2 : Int32) (a3 : Int32) (a4 : Int32) (h : Hp) (res : Int64) (e : MX9_spelt a0 a1 a2 a3 a4 = some res) : CK yX9_spelt cX9_spelt 7 (some .long) 0 [.int a0, .int a1, .int a2, .int a3, .int a4] h (some (.long res)) h := by
  unfold MX9_spelt at e
  refine CK_of pn_RX9 cm_X9_spelt (Nat.le_of_ble_eq_true rfl) ?_
  intro l D tc B nn p en s m args below meth c X hr hlk
  replace X : CX p (rmD 0) s m args c cX9_spelt 7 RX9 D tc 0 := X
  show V p l en (rmD 0) s m args below meth c 7 D tc B nn (Ar B nn) s.heap 0 0 (MQ below (QC D tc B nn (Ar B nn) (some (.long res)) h) args s 0 0 (Ar B nn)) h 0 [(0, .int a0), (1, .int a1), (2, .int a2), (3, .int a3), (4, .int a4)] []
  refine V_ldc2 (v := 27) (q := 3) X (TB.get tb_X9_spelt 0 rfl) rfl kl_RX9_128 ?_
  refine V_iload_n (q := 4) X (TB.get tb_X9_spelt 1 rfl) rfl rfl rfl ?_
  refine V_i2l (q := 5) X (TB.get tb_X9_spelt 2 rfl) rfl ?_
  refine V_ldc2 (v := 96) (q := 8) X (TB.get tb_X9_spelt 3 rfl) rfl kl_RX9_130 ?_
  refine V_lsub (q := 9) X (TB.get tb_X9_spelt 4 rfl) rfl ?_
  refine V_lmul (q := 10) X (TB.get tb_X9_spelt 5 rfl) rfl ?_
  refine V_iload_n (q := 11) X (TB.get tb_X9_spelt 6 rfl) rfl rfl rfl ?_
  refine V_i2l (q := 12) X (TB.get tb_X9_spelt 7 rfl) rfl ?_
  refine V_ladd (q := 13) X (TB.get tb_X9_spelt 8 rfl) rfl ?_
  refine V_ldc2 (v := 96) (q := 16) X (TB.get tb_X9_spelt 9 rfl) rfl kl_RX9_130 ?_
  refine V_lsub (q := 17) X (TB.get tb_X9_spelt 10 rfl) rfl ?_
  refine V_lstore (q := 19) (lv' := [(5, .long ((((27 : Int64) * (a0.toInt64 - (96 : Int64))) + a1.toInt64) - (96 : Int64))), (0, .int a0), (1, .int a1), (2, .int a2), (3, .int a3), (4, .int a4)]) X (TB.get tb_X9_spelt 11 rfl) rfl (Nat.le_of_ble_eq_true rfl) rfl ?_
  refine V_iload_n (q := 20) X (TB.get tb_X9_spelt 12 rfl) rfl rfl rfl ?_
  refine jn_elim (P := (fun (k : Int64 → Option (Int64)) => ∀ (v1 : Int64), k v1 = some res → V p l en (rmD 0) s m args below meth c 7 D tc B nn (Ar B nn) s.heap 0 0 (MQ below (QC D tc B nn (Ar B nn) (some (.long res)) h) args s 0 0 (Ar B nn)) h 38 [(3, .int a3), (4, .int a4), (5, .long v1)] [])) e ?_ (fun j2 Jj2 e => ?_)
  · intro v1 e
    refine V_iload_n (q := 39) X (TB.get tb_X9_spelt 23 rfl) rfl rfl rfl ?_
    refine jn_elim (P := (fun (k : Int64 → Option (Int64)) => ∀ (v3 : Int64), k v3 = some res → V p l en (rmD 0) s m args below meth c 7 D tc B nn (Ar B nn) s.heap 0 0 (MQ below (QC D tc B nn (Ar B nn) (some (.long res)) h) args s 0 0 (Ar B nn)) h 57 [(4, .int a4), (5, .long v3)] [])) e ?_ (fun j4 Jj4 e => ?_)
    · intro v3 e
      refine V_iload (q := 59) X (TB.get tb_X9_spelt 34 rfl) rfl rfl ?_
      refine V_if_le (q := 62) (t := 78) X (TB.get tb_X9_spelt 35 rfl) rfl rfl (fun hc => ?_) (fun hc => ?_)
      · have e := (if_pos hc).symm.trans e
        refine V_lload (q := 80) X (TB.get tb_X9_spelt 45 rfl) rfl rfl ?_
        cases e
        exact V_lret X hr hlk (TB.get tb_X9_spelt 46 rfl)
      · have e := (if_neg hc).symm.trans e
        refine V_ldc2 (v := 27) (q := 65) X (TB.get tb_X9_spelt 36 rfl) rfl kl_RX9_128 ?_
        refine V_lload (q := 67) X (TB.get tb_X9_spelt 37 rfl) rfl rfl ?_
        refine V_lmul (q := 68) X (TB.get tb_X9_spelt 38 rfl) rfl ?_
        refine V_iload (q := 70) X (TB.get tb_X9_spelt 39 rfl) rfl rfl ?_
        refine V_i2l (q := 71) X (TB.get tb_X9_spelt 40 rfl) rfl ?_
        refine V_ladd (q := 72) X (TB.get tb_X9_spelt 41 rfl) rfl ?_
        refine V_ldc2 (v := 96) (q := 75) X (TB.get tb_X9_spelt 42 rfl) rfl kl_RX9_130 ?_
        refine V_lsub (q := 76) X (TB.get tb_X9_spelt 43 rfl) rfl ?_
        refine V_lstore (q := 78) (lv' := [(5, .long ((((27 : Int64) * v3) + a4.toInt64) - (96 : Int64))), (4, .int a4)]) X (TB.get tb_X9_spelt 44 rfl) rfl (Nat.le_of_ble_eq_true rfl) rfl ?_
        refine V_lload (q := 80) X (TB.get tb_X9_spelt 45 rfl) rfl rfl ?_
        cases e
        exact V_lret X hr hlk (TB.get tb_X9_spelt 46 rfl)
    refine V_if_le (q := 42) (t := 57) X (TB.get tb_X9_spelt 24 rfl) rfl rfl (fun hc => ?_) (fun hc => ?_)
    · have e := (if_pos hc).symm.trans e
      refine V_sub (lv' := [(4, .int a4), (5, .long v1)]) [1, 2] rfl ?_
      exact Jj4 _ e
    · have e := (if_neg hc).symm.trans e
      refine V_ldc2 (v := 27) (q := 45) X (TB.get tb_X9_spelt 25 rfl) rfl kl_RX9_128 ?_
      refine V_lload (q := 47) X (TB.get tb_X9_spelt 26 rfl) rfl rfl ?_
      refine V_lmul (q := 48) X (TB.get tb_X9_spelt 27 rfl) rfl ?_
      refine V_iload_n (q := 49) X (TB.get tb_X9_spelt 28 rfl) rfl rfl rfl ?_
      refine V_i2l (q := 50) X (TB.get tb_X9_spelt 29 rfl) rfl ?_
      refine V_ladd (q := 51) X (TB.get tb_X9_spelt 30 rfl) rfl ?_
      refine V_ldc2 (v := 96) (q := 54) X (TB.get tb_X9_spelt 31 rfl) rfl kl_RX9_130 ?_
      refine V_lsub (q := 55) X (TB.get tb_X9_spelt 32 rfl) rfl ?_
      refine V_lstore (q := 57) (lv' := [(5, .long ((((27 : Int64) * v1) + a3.toInt64) - (96 : Int64))), (3, .int a3), (4, .int a4)]) X (TB.get tb_X9_spelt 33 rfl) rfl (Nat.le_of_ble_eq_true rfl) rfl ?_
      refine V_sub (lv' := [(4, .int a4), (5, .long ((((27 : Int64) * v1) + a3.toInt64) - (96 : Int64)))]) [2, 0] rfl ?_
      exact Jj4 _ e
  refine V_if_le (q := 23) (t := 38) X (TB.get tb_X9_spelt 13 rfl) rfl rfl (fun hc => ?_) (fun hc => ?_)
  · have e := (if_pos hc).symm.trans e
    refine V_sub (lv' := [(3, .int a3), (4, .int a4), (5, .long ((((27 : Int64) * (a0.toInt64 - (96 : Int64))) + a1.toInt64) - (96 : Int64)))]) [4, 5, 0] rfl ?_
    exact Jj2 _ e
  · have e := (if_neg hc).symm.trans e
    refine V_ldc2 (v := 27) (q := 26) X (TB.get tb_X9_spelt 14 rfl) rfl kl_RX9_128 ?_
    refine V_lload (q := 28) X (TB.get tb_X9_spelt 15 rfl) rfl rfl ?_
    refine V_lmul (q := 29) X (TB.get tb_X9_spelt 16 rfl) rfl ?_
    refine V_iload_n (q := 30) X (TB.get tb_X9_spelt 17 rfl) rfl rfl rfl ?_
    refine V_i2l (q := 31) X (TB.get tb_X9_spelt 18 rfl) rfl ?_
    refine V_ladd (q := 32) X (TB.get tb_X9_spelt 19 rfl) rfl ?_
    refine V_ldc2 (v := 96) (q := 35) X (TB.get tb_X9_spelt 20 rfl) rfl kl_RX9_130 ?_
    refine V_lsub (q := 36) X (TB.get tb_X9_spelt 21 rfl) rfl ?_
    refine V_lstore (q := 38) (lv' := [(5, .long ((((27 : Int64) * ((((27 : Int64) * (a0.toInt64 - (96 : Int64))) + a1.toInt64) - (96 : Int64))) + a2.toInt64) - (96 : Int64))), (0, .int a0), (1, .int a1), (2, .int a2), (3, .int a3), (4, .int a4)]) X (TB.get tb_X9_spelt 22 rfl) rfl (Nat.le_of_ble_eq_true rfl) rfl ?_
    refine V_sub (lv' := [(3, .int a3), (4, .int a4), (5, .long ((((27 : Int64) * ((((27 : Int64) * (a0.toInt64 - (96 : Int64))) + a1.toInt64) - (96 : Int64))) + a2.toInt64) - (96 : Int64)))]) [4, 5, 0] rfl ?_
    exact Jj2 _ e
set_option maxRecDepth 100000 in
set_option maxHeartbeats 4000000 in
theorem ok_X9_wordOf (a0 : Int32) (h : Hp) (res : Int64) (e : MX9_wordOf a0 = some res) : CK yX9_wordOf cX9_wordOf 1 (some .long) 1 [.int a0] h (some (.long res)) h := by
  unfold MX9_wordOf at e
  refine CK_of pn_RX9 cm_X9_wordOf (Nat.le_of_ble_eq_true rfl) ?_
  intro l D tc B nn p en s m args below meth c X hr hlk
  replace X : CX p (rmD 1) s m args c cX9_wordOf 1 RX9 D tc 1 := X
  show V p l en (rmD 1) s m args below meth c 1 D tc B nn (Ar B nn) s.heap 0 0 (MQ below (QC D tc B nn (Ar B nn) (some (.long res)) h) args s 0 0 (Ar B nn)) h 0 [(0, .int a0)] []
  refine V_iload_n (q := 1) X (TB.get tb_X9_wordOf 0 rfl) rfl rfl rfl ?_
  refine jn_elim (P := (fun (k : Option (Int64)) => k = some res → V p l en (rmD 1) s m args below meth c 1 D tc B nn (Ar B nn) s.heap 0 0 (MQ below (QC D tc B nn (Ar B nn) (some (.long res)) h) args s 0 0 (Ar B nn)) h 334 [] [])) e ?_ (fun j1 Jj1 e => ?_)
  · intro e
    refine V_ldc2 (v := -1) (q := 337) X (TB.get tb_X9_wordOf 128 rfl) rfl kl_RX9_139 ?_
    cases e
    exact V_lret X hr hlk (TB.get tb_X9_wordOf 129 rfl)
  by_cases hc0 : a0 = (0 : Int32)
  · have e := (if_pos hc0).symm.trans e
    rw [hc0]
    refine V_tabIn (q := 104) X (TB.get tb_X9_wordOf 1 rfl) (by decide) (by decide) rfl rfl ?_
    refine V_bipush (v := 107) (q := 106) X (TB.get tb_X9_wordOf 2 rfl) c_bipush_107 rfl ?_
    refine V_bipush (v := 105) (q := 108) X (TB.get tb_X9_wordOf 3 rfl) c_bipush_105 rfl ?_
    refine V_bipush (v := 110) (q := 110) X (TB.get tb_X9_wordOf 4 rfl) c_bipush_110 rfl ?_
    refine V_bipush (v := 100) (q := 112) X (TB.get tb_X9_wordOf 5 rfl) c_bipush_100 rfl ?_
    refine V_iconst (v := 0) (q := 113) X (TB.get tb_X9_wordOf 6 rfl) c_iconst_0 rfl ?_
    obtain ⟨x2, ex2, e⟩ := bs e
    refine V_callS (q := 116) (As := [.int (107 : Int32), .int (105 : Int32), .int (110 : Int32), .int (100 : Int32), .int (0 : Int32)]) (rest := []) (st' := [.long x2]) X (TB.get tb_X9_wordOf 7 rfl) rfl cs_RX9_135 (ok_X9_spelt (107 : Int32) (105 : Int32) (110 : Int32) (100 : Int32) (0 : Int32) h x2 ex2) (Nat.le_of_ble_eq_true rfl) rfl rfl (Nat.le_of_ble_eq_true rfl) rfl ?_
    cases e
    exact V_lret X hr hlk (TB.get tb_X9_wordOf 8 rfl)
  have e := (if_neg hc0).symm.trans e
  by_cases hc1 : a0 = (1 : Int32)
  · have e := (if_pos hc1).symm.trans e
    rw [hc1]
    refine V_tabIn (q := 117) X (TB.get tb_X9_wordOf 1 rfl) (by decide) (by decide) rfl rfl ?_
    refine V_bipush (v := 101) (q := 119) X (TB.get tb_X9_wordOf 9 rfl) c_bipush_101 rfl ?_
    refine V_bipush (v := 110) (q := 121) X (TB.get tb_X9_wordOf 10 rfl) c_bipush_110 rfl ?_
    refine V_bipush (v := 100) (q := 123) X (TB.get tb_X9_wordOf 11 rfl) c_bipush_100 rfl ?_
    refine V_iconst (v := 0) (q := 124) X (TB.get tb_X9_wordOf 12 rfl) c_iconst_0 rfl ?_
    refine V_iconst (v := 0) (q := 125) X (TB.get tb_X9_wordOf 13 rfl) c_iconst_0 rfl ?_
    obtain ⟨x3, ex3, e⟩ := bs e
    refine V_callS (q := 128) (As := [.int (101 : Int32), .int (110 : Int32), .int (100 : Int32), .int (0 : Int32), .int (0 : Int32)]) (rest := []) (st' := [.long x3]) X (TB.get tb_X9_wordOf 14 rfl) rfl cs_RX9_135 (ok_X9_spelt (101 : Int32) (110 : Int32) (100 : Int32) (0 : Int32) (0 : Int32) h x3 ex3) (Nat.le_of_ble_eq_true rfl) rfl rfl (Nat.le_of_ble_eq_true rfl) rfl ?_
    cases e
    exact V_lret X hr hlk (TB.get tb_X9_wordOf 15 rfl)
  have e := (if_neg hc1).symm.trans e
  by_cases hc2 : a0 = (2 : Int32)
  · have e := (if_pos hc2).symm.trans e
    rw [hc2]
    refine V_tabIn (q := 129) X (TB.get tb_X9_wordOf 1 rfl) (by decide) (by decide) rfl rfl ?_
    refine V_bipush (v := 99) (q := 131) X (TB.get tb_X9_wordOf 16 rfl) c_bipush_99 rfl ?_
    refine V_bipush (v := 97) (q := 133) X (TB.get tb_X9_wordOf 17 rfl) c_bipush_97 rfl ?_
    refine V_bipush (v := 108) (q := 135) X (TB.get tb_X9_wordOf 18 rfl) c_bipush_108 rfl ?_
    refine V_bipush (v := 108) (q := 137) X (TB.get tb_X9_wordOf 19 rfl) c_bipush_108 rfl ?_
    refine V_iconst (v := 0) (q := 138) X (TB.get tb_X9_wordOf 20 rfl) c_iconst_0 rfl ?_
    obtain ⟨x4, ex4, e⟩ := bs e
    refine V_callS (q := 141) (As := [.int (99 : Int32), .int (97 : Int32), .int (108 : Int32), .int (108 : Int32), .int (0 : Int32)]) (rest := []) (st' := [.long x4]) X (TB.get tb_X9_wordOf 21 rfl) rfl cs_RX9_135 (ok_X9_spelt (99 : Int32) (97 : Int32) (108 : Int32) (108 : Int32) (0 : Int32) h x4 ex4) (Nat.le_of_ble_eq_true rfl) rfl rfl (Nat.le_of_ble_eq_true rfl) rfl ?_
    cases e
    exact V_lret X hr hlk (TB.get tb_X9_wordOf 22 rfl)
  have e := (if_neg hc2).symm.trans e
  by_cases hc3 : a0 = (3 : Int32)
  · have e := (if_pos hc3).symm.trans e
    rw [hc3]
    refine V_tabIn (q := 142) X (TB.get tb_X9_wordOf 1 rfl) (by decide) (by decide) rfl rfl ?_
    refine V_bipush (v := 116) (q := 144) X (TB.get tb_X9_wordOf 23 rfl) c_bipush_116 rfl ?_
    refine V_bipush (v := 101) (q := 146) X (TB.get tb_X9_wordOf 24 rfl) c_bipush_101 rfl ?_
    refine V_bipush (v := 115) (q := 148) X (TB.get tb_X9_wordOf 25 rfl) c_bipush_115 rfl ?_
    refine V_bipush (v := 116) (q := 150) X (TB.get tb_X9_wordOf 26 rfl) c_bipush_116 rfl ?_
    refine V_iconst (v := 0) (q := 151) X (TB.get tb_X9_wordOf 27 rfl) c_iconst_0 rfl ?_
    obtain ⟨x5, ex5, e⟩ := bs e
    refine V_callS (q := 154) (As := [.int (116 : Int32), .int (101 : Int32), .int (115 : Int32), .int (116 : Int32), .int (0 : Int32)]) (rest := []) (st' := [.long x5]) X (TB.get tb_X9_wordOf 28 rfl) rfl cs_RX9_135 (ok_X9_spelt (116 : Int32) (101 : Int32) (115 : Int32) (116 : Int32) (0 : Int32) h x5 ex5) (Nat.le_of_ble_eq_true rfl) rfl rfl (Nat.le_of_ble_eq_true rfl) rfl ?_
    cases e
    exact V_lret X hr hlk (TB.get tb_X9_wordOf 29 rfl)
  have e := (if_neg hc3).symm.trans e
  by_cases hc4 : a0 = (4 : Int32)
  · have e := (if_pos hc4).symm.trans e
    rw [hc4]
    refine V_tabIn (q := 155) X (TB.get tb_X9_wordOf 1 rfl) (by decide) (by decide) rfl rfl ?_
    refine V_bipush (v := 108) (q := 157) X (TB.get tb_X9_wordOf 30 rfl) c_bipush_108 rfl ?_
    refine V_bipush (v := 111) (q := 159) X (TB.get tb_X9_wordOf 31 rfl) c_bipush_111 rfl ?_
    refine V_bipush (v := 111) (q := 161) X (TB.get tb_X9_wordOf 32 rfl) c_bipush_111 rfl ?_
    refine V_bipush (v := 107) (q := 163) X (TB.get tb_X9_wordOf 33 rfl) c_bipush_107 rfl ?_
    refine V_iconst (v := 0) (q := 164) X (TB.get tb_X9_wordOf 34 rfl) c_iconst_0 rfl ?_
    obtain ⟨x6, ex6, e⟩ := bs e
    refine V_callS (q := 167) (As := [.int (108 : Int32), .int (111 : Int32), .int (111 : Int32), .int (107 : Int32), .int (0 : Int32)]) (rest := []) (st' := [.long x6]) X (TB.get tb_X9_wordOf 35 rfl) rfl cs_RX9_135 (ok_X9_spelt (108 : Int32) (111 : Int32) (111 : Int32) (107 : Int32) (0 : Int32) h x6 ex6) (Nat.le_of_ble_eq_true rfl) rfl rfl (Nat.le_of_ble_eq_true rfl) rfl ?_
    cases e
    exact V_lret X hr hlk (TB.get tb_X9_wordOf 36 rfl)
  have e := (if_neg hc4).symm.trans e
  by_cases hc5 : a0 = (5 : Int32)
  · have e := (if_pos hc5).symm.trans e
    rw [hc5]
    refine V_tabIn (q := 168) X (TB.get tb_X9_wordOf 1 rfl) (by decide) (by decide) rfl rfl ?_
    refine V_bipush (v := 118) (q := 170) X (TB.get tb_X9_wordOf 37 rfl) c_bipush_118 rfl ?_
    refine V_bipush (v := 97) (q := 172) X (TB.get tb_X9_wordOf 38 rfl) c_bipush_97 rfl ?_
    refine V_bipush (v := 114) (q := 174) X (TB.get tb_X9_wordOf 39 rfl) c_bipush_114 rfl ?_
    refine V_iconst (v := 0) (q := 175) X (TB.get tb_X9_wordOf 40 rfl) c_iconst_0 rfl ?_
    refine V_iconst (v := 0) (q := 176) X (TB.get tb_X9_wordOf 41 rfl) c_iconst_0 rfl ?_
    obtain ⟨x7, ex7, e⟩ := bs e
    refine V_callS (q := 179) (As := [.int (118 : Int32), .int (97 : Int32), .int (114 : Int32), .int (0 : Int32), .int (0 : Int32)]) (rest := []) (st' := [.long x7]) X (TB.get tb_X9_wordOf 42 rfl) rfl cs_RX9_135 (ok_X9_spelt (118 : Int32) (97 : Int32) (114 : Int32) (0 : Int32) (0 : Int32) h x7 ex7) (Nat.le_of_ble_eq_true rfl) rfl rfl (Nat.le_of_ble_eq_true rfl) rfl ?_
    cases e
    exact V_lret X hr hlk (TB.get tb_X9_wordOf 43 rfl)
  have e := (if_neg hc5).symm.trans e
  by_cases hc6 : a0 = (6 : Int32)
  · have e := (if_pos hc6).symm.trans e
    rw [hc6]
    refine V_tabIn (q := 334) X (TB.get tb_X9_wordOf 1 rfl) (by decide) (by decide) rfl rfl ?_
    refine V_sub (lv' := []) [] rfl ?_
    exact Jj1 e
  have e := (if_neg hc6).symm.trans e
  by_cases hc7 : a0 = (7 : Int32)
  · have e := (if_pos hc7).symm.trans e
    rw [hc7]
    refine V_tabIn (q := 334) X (TB.get tb_X9_wordOf 1 rfl) (by decide) (by decide) rfl rfl ?_
    refine V_sub (lv' := []) [] rfl ?_
    exact Jj1 e
  have e := (if_neg hc7).symm.trans e
  by_cases hc8 : a0 = (8 : Int32)
  · have e := (if_pos hc8).symm.trans e
    rw [hc8]
    refine V_tabIn (q := 334) X (TB.get tb_X9_wordOf 1 rfl) (by decide) (by decide) rfl rfl ?_
    refine V_sub (lv' := []) [] rfl ?_
    exact Jj1 e
  have e := (if_neg hc8).symm.trans e
  by_cases hc9 : a0 = (9 : Int32)
  · have e := (if_pos hc9).symm.trans e
    rw [hc9]
    refine V_tabIn (q := 334) X (TB.get tb_X9_wordOf 1 rfl) (by decide) (by decide) rfl rfl ?_
    refine V_sub (lv' := []) [] rfl ?_
    exact Jj1 e
  have e := (if_neg hc9).symm.trans e
  by_cases hc10 : a0 = (10 : Int32)
  · have e := (if_pos hc10).symm.trans e
    rw [hc10]
    refine V_tabIn (q := 180) X (TB.get tb_X9_wordOf 1 rfl) (by decide) (by decide) rfl rfl ?_
    refine V_bipush (v := 110) (q := 182) X (TB.get tb_X9_wordOf 44 rfl) c_bipush_110 rfl ?_
    refine V_bipush (v := 101) (q := 184) X (TB.get tb_X9_wordOf 45 rfl) c_bipush_101 rfl ?_
    refine V_bipush (v := 119) (q := 186) X (TB.get tb_X9_wordOf 46 rfl) c_bipush_119 rfl ?_
    refine V_iconst (v := 0) (q := 187) X (TB.get tb_X9_wordOf 47 rfl) c_iconst_0 rfl ?_
    refine V_iconst (v := 0) (q := 188) X (TB.get tb_X9_wordOf 48 rfl) c_iconst_0 rfl ?_
    obtain ⟨x8, ex8, e⟩ := bs e
    refine V_callS (q := 191) (As := [.int (110 : Int32), .int (101 : Int32), .int (119 : Int32), .int (0 : Int32), .int (0 : Int32)]) (rest := []) (st' := [.long x8]) X (TB.get tb_X9_wordOf 49 rfl) rfl cs_RX9_135 (ok_X9_spelt (110 : Int32) (101 : Int32) (119 : Int32) (0 : Int32) (0 : Int32) h x8 ex8) (Nat.le_of_ble_eq_true rfl) rfl rfl (Nat.le_of_ble_eq_true rfl) rfl ?_
    cases e
    exact V_lret X hr hlk (TB.get tb_X9_wordOf 50 rfl)
  have e := (if_neg hc10).symm.trans e
  by_cases hc11 : a0 = (11 : Int32)
  · have e := (if_pos hc11).symm.trans e
    rw [hc11]
    refine V_tabIn (q := 192) X (TB.get tb_X9_wordOf 1 rfl) (by decide) (by decide) rfl rfl ?_
    refine V_bipush (v := 109) (q := 194) X (TB.get tb_X9_wordOf 51 rfl) c_bipush_109 rfl ?_
    refine V_bipush (v := 111) (q := 196) X (TB.get tb_X9_wordOf 52 rfl) c_bipush_111 rfl ?_
    refine V_bipush (v := 118) (q := 198) X (TB.get tb_X9_wordOf 53 rfl) c_bipush_118 rfl ?_
    refine V_bipush (v := 101) (q := 200) X (TB.get tb_X9_wordOf 54 rfl) c_bipush_101 rfl ?_
    refine V_iconst (v := 0) (q := 201) X (TB.get tb_X9_wordOf 55 rfl) c_iconst_0 rfl ?_
    obtain ⟨x9, ex9, e⟩ := bs e
    refine V_callS (q := 204) (As := [.int (109 : Int32), .int (111 : Int32), .int (118 : Int32), .int (101 : Int32), .int (0 : Int32)]) (rest := []) (st' := [.long x9]) X (TB.get tb_X9_wordOf 56 rfl) rfl cs_RX9_135 (ok_X9_spelt (109 : Int32) (111 : Int32) (118 : Int32) (101 : Int32) (0 : Int32) h x9 ex9) (Nat.le_of_ble_eq_true rfl) rfl rfl (Nat.le_of_ble_eq_true rfl) rfl ?_
    cases e
    exact V_lret X hr hlk (TB.get tb_X9_wordOf 57 rfl)
  have e := (if_neg hc11).symm.trans e
  by_cases hc12 : a0 = (12 : Int32)
  · have e := (if_pos hc12).symm.trans e
    rw [hc12]
    refine V_tabIn (q := 205) X (TB.get tb_X9_wordOf 1 rfl) (by decide) (by decide) rfl rfl ?_
    refine V_bipush (v := 115) (q := 207) X (TB.get tb_X9_wordOf 58 rfl) c_bipush_115 rfl ?_
    refine V_bipush (v := 104) (q := 209) X (TB.get tb_X9_wordOf 59 rfl) c_bipush_104 rfl ?_
    refine V_bipush (v := 97) (q := 211) X (TB.get tb_X9_wordOf 60 rfl) c_bipush_97 rfl ?_
    refine V_bipush (v := 114) (q := 213) X (TB.get tb_X9_wordOf 61 rfl) c_bipush_114 rfl ?_
    refine V_bipush (v := 101) (q := 215) X (TB.get tb_X9_wordOf 62 rfl) c_bipush_101 rfl ?_
    obtain ⟨x10, ex10, e⟩ := bs e
    refine V_callS (q := 218) (As := [.int (115 : Int32), .int (104 : Int32), .int (97 : Int32), .int (114 : Int32), .int (101 : Int32)]) (rest := []) (st' := [.long x10]) X (TB.get tb_X9_wordOf 63 rfl) rfl cs_RX9_135 (ok_X9_spelt (115 : Int32) (104 : Int32) (97 : Int32) (114 : Int32) (101 : Int32) h x10 ex10) (Nat.le_of_ble_eq_true rfl) rfl rfl (Nat.le_of_ble_eq_true rfl) rfl ?_
    cases e
    exact V_lret X hr hlk (TB.get tb_X9_wordOf 64 rfl)
  have e := (if_neg hc12).symm.trans e
  by_cases hc13 : a0 = (13 : Int32)
  · have e := (if_pos hc13).symm.trans e
    rw [hc13]
    refine V_tabIn (q := 219) X (TB.get tb_X9_wordOf 1 rfl) (by decide) (by decide) rfl rfl ?_
    refine V_bipush (v := 108) (q := 221) X (TB.get tb_X9_wordOf 65 rfl) c_bipush_108 rfl ?_
    refine V_bipush (v := 101) (q := 223) X (TB.get tb_X9_wordOf 66 rfl) c_bipush_101 rfl ?_
    refine V_bipush (v := 110) (q := 225) X (TB.get tb_X9_wordOf 67 rfl) c_bipush_110 rfl ?_
    refine V_bipush (v := 100) (q := 227) X (TB.get tb_X9_wordOf 68 rfl) c_bipush_100 rfl ?_
    refine V_iconst (v := 0) (q := 228) X (TB.get tb_X9_wordOf 69 rfl) c_iconst_0 rfl ?_
    obtain ⟨x11, ex11, e⟩ := bs e
    refine V_callS (q := 231) (As := [.int (108 : Int32), .int (101 : Int32), .int (110 : Int32), .int (100 : Int32), .int (0 : Int32)]) (rest := []) (st' := [.long x11]) X (TB.get tb_X9_wordOf 70 rfl) rfl cs_RX9_135 (ok_X9_spelt (108 : Int32) (101 : Int32) (110 : Int32) (100 : Int32) (0 : Int32) h x11 ex11) (Nat.le_of_ble_eq_true rfl) rfl rfl (Nat.le_of_ble_eq_true rfl) rfl ?_
    cases e
    exact V_lret X hr hlk (TB.get tb_X9_wordOf 71 rfl)
  have e := (if_neg hc13).symm.trans e
  by_cases hc14 : a0 = (14 : Int32)
  · have e := (if_pos hc14).symm.trans e
    rw [hc14]
    refine V_tabIn (q := 232) X (TB.get tb_X9_wordOf 1 rfl) (by decide) (by decide) rfl rfl ?_
    refine V_bipush (v := 106) (q := 234) X (TB.get tb_X9_wordOf 72 rfl) c_bipush_106 rfl ?_
    refine V_bipush (v := 111) (q := 236) X (TB.get tb_X9_wordOf 73 rfl) c_bipush_111 rfl ?_
    refine V_bipush (v := 105) (q := 238) X (TB.get tb_X9_wordOf 74 rfl) c_bipush_105 rfl ?_
    refine V_bipush (v := 110) (q := 240) X (TB.get tb_X9_wordOf 75 rfl) c_bipush_110 rfl ?_
    refine V_iconst (v := 0) (q := 241) X (TB.get tb_X9_wordOf 76 rfl) c_iconst_0 rfl ?_
    obtain ⟨x12, ex12, e⟩ := bs e
    refine V_callS (q := 244) (As := [.int (106 : Int32), .int (111 : Int32), .int (105 : Int32), .int (110 : Int32), .int (0 : Int32)]) (rest := []) (st' := [.long x12]) X (TB.get tb_X9_wordOf 77 rfl) rfl cs_RX9_135 (ok_X9_spelt (106 : Int32) (111 : Int32) (105 : Int32) (110 : Int32) (0 : Int32) h x12 ex12) (Nat.le_of_ble_eq_true rfl) rfl rfl (Nat.le_of_ble_eq_true rfl) rfl ?_
    cases e
    exact V_lret X hr hlk (TB.get tb_X9_wordOf 78 rfl)
  have e := (if_neg hc14).symm.trans e
  by_cases hc15 : a0 = (15 : Int32)
  · have e := (if_pos hc15).symm.trans e
    rw [hc15]
    refine V_tabIn (q := 245) X (TB.get tb_X9_wordOf 1 rfl) (by decide) (by decide) rfl rfl ?_
    refine V_bipush (v := 100) (q := 247) X (TB.get tb_X9_wordOf 79 rfl) c_bipush_100 rfl ?_
    refine V_bipush (v := 114) (q := 249) X (TB.get tb_X9_wordOf 80 rfl) c_bipush_114 rfl ?_
    refine V_bipush (v := 111) (q := 251) X (TB.get tb_X9_wordOf 81 rfl) c_bipush_111 rfl ?_
    refine V_bipush (v := 112) (q := 253) X (TB.get tb_X9_wordOf 82 rfl) c_bipush_112 rfl ?_
    refine V_iconst (v := 0) (q := 254) X (TB.get tb_X9_wordOf 83 rfl) c_iconst_0 rfl ?_
    obtain ⟨x13, ex13, e⟩ := bs e
    refine V_callS (q := 257) (As := [.int (100 : Int32), .int (114 : Int32), .int (111 : Int32), .int (112 : Int32), .int (0 : Int32)]) (rest := []) (st' := [.long x13]) X (TB.get tb_X9_wordOf 84 rfl) rfl cs_RX9_135 (ok_X9_spelt (100 : Int32) (114 : Int32) (111 : Int32) (112 : Int32) (0 : Int32) h x13 ex13) (Nat.le_of_ble_eq_true rfl) rfl rfl (Nat.le_of_ble_eq_true rfl) rfl ?_
    cases e
    exact V_lret X hr hlk (TB.get tb_X9_wordOf 85 rfl)
  have e := (if_neg hc15).symm.trans e
  by_cases hc16 : a0 = (16 : Int32)
  · have e := (if_pos hc16).symm.trans e
    rw [hc16]
    refine V_tabIn (q := 258) X (TB.get tb_X9_wordOf 1 rfl) (by decide) (by decide) rfl rfl ?_
    refine V_bipush (v := 100) (q := 260) X (TB.get tb_X9_wordOf 86 rfl) c_bipush_100 rfl ?_
    refine V_bipush (v := 111) (q := 262) X (TB.get tb_X9_wordOf 87 rfl) c_bipush_111 rfl ?_
    refine V_iconst (v := 0) (q := 263) X (TB.get tb_X9_wordOf 88 rfl) c_iconst_0 rfl ?_
    refine V_iconst (v := 0) (q := 264) X (TB.get tb_X9_wordOf 89 rfl) c_iconst_0 rfl ?_
    refine V_iconst (v := 0) (q := 265) X (TB.get tb_X9_wordOf 90 rfl) c_iconst_0 rfl ?_
    obtain ⟨x14, ex14, e⟩ := bs e
    refine V_callS (q := 268) (As := [.int (100 : Int32), .int (111 : Int32), .int (0 : Int32), .int (0 : Int32), .int (0 : Int32)]) (rest := []) (st' := [.long x14]) X (TB.get tb_X9_wordOf 91 rfl) rfl cs_RX9_135 (ok_X9_spelt (100 : Int32) (111 : Int32) (0 : Int32) (0 : Int32) (0 : Int32) h x14 ex14) (Nat.le_of_ble_eq_true rfl) rfl rfl (Nat.le_of_ble_eq_true rfl) rfl ?_
    cases e
    exact V_lret X hr hlk (TB.get tb_X9_wordOf 92 rfl)
  have e := (if_neg hc16).symm.trans e
  by_cases hc17 : a0 = (17 : Int32)
  · have e := (if_pos hc17).symm.trans e
    rw [hc17]
    refine V_tabIn (q := 269) X (TB.get tb_X9_wordOf 1 rfl) (by decide) (by decide) rfl rfl ?_
    refine V_bipush (v := 105) (q := 271) X (TB.get tb_X9_wordOf 93 rfl) c_bipush_105 rfl ?_
    refine V_bipush (v := 102) (q := 273) X (TB.get tb_X9_wordOf 94 rfl) c_bipush_102 rfl ?_
    refine V_iconst (v := 0) (q := 274) X (TB.get tb_X9_wordOf 95 rfl) c_iconst_0 rfl ?_
    refine V_iconst (v := 0) (q := 275) X (TB.get tb_X9_wordOf 96 rfl) c_iconst_0 rfl ?_
    refine V_iconst (v := 0) (q := 276) X (TB.get tb_X9_wordOf 97 rfl) c_iconst_0 rfl ?_
    obtain ⟨x15, ex15, e⟩ := bs e
    refine V_callS (q := 279) (As := [.int (105 : Int32), .int (102 : Int32), .int (0 : Int32), .int (0 : Int32), .int (0 : Int32)]) (rest := []) (st' := [.long x15]) X (TB.get tb_X9_wordOf 98 rfl) rfl cs_RX9_135 (ok_X9_spelt (105 : Int32) (102 : Int32) (0 : Int32) (0 : Int32) (0 : Int32) h x15 ex15) (Nat.le_of_ble_eq_true rfl) rfl rfl (Nat.le_of_ble_eq_true rfl) rfl ?_
    cases e
    exact V_lret X hr hlk (TB.get tb_X9_wordOf 99 rfl)
  have e := (if_neg hc17).symm.trans e
  by_cases hc18 : a0 = (18 : Int32)
  · have e := (if_pos hc18).symm.trans e
    rw [hc18]
    refine V_tabIn (q := 280) X (TB.get tb_X9_wordOf 1 rfl) (by decide) (by decide) rfl rfl ?_
    refine V_bipush (v := 119) (q := 282) X (TB.get tb_X9_wordOf 100 rfl) c_bipush_119 rfl ?_
    refine V_bipush (v := 104) (q := 284) X (TB.get tb_X9_wordOf 101 rfl) c_bipush_104 rfl ?_
    refine V_bipush (v := 105) (q := 286) X (TB.get tb_X9_wordOf 102 rfl) c_bipush_105 rfl ?_
    refine V_bipush (v := 108) (q := 288) X (TB.get tb_X9_wordOf 103 rfl) c_bipush_108 rfl ?_
    refine V_bipush (v := 101) (q := 290) X (TB.get tb_X9_wordOf 104 rfl) c_bipush_101 rfl ?_
    obtain ⟨x16, ex16, e⟩ := bs e
    refine V_callS (q := 293) (As := [.int (119 : Int32), .int (104 : Int32), .int (105 : Int32), .int (108 : Int32), .int (101 : Int32)]) (rest := []) (st' := [.long x16]) X (TB.get tb_X9_wordOf 105 rfl) rfl cs_RX9_135 (ok_X9_spelt (119 : Int32) (104 : Int32) (105 : Int32) (108 : Int32) (101 : Int32) h x16 ex16) (Nat.le_of_ble_eq_true rfl) rfl rfl (Nat.le_of_ble_eq_true rfl) rfl ?_
    cases e
    exact V_lret X hr hlk (TB.get tb_X9_wordOf 106 rfl)
  have e := (if_neg hc18).symm.trans e
  by_cases hc19 : a0 = (19 : Int32)
  · have e := (if_pos hc19).symm.trans e
    rw [hc19]
    refine V_tabIn (q := 294) X (TB.get tb_X9_wordOf 1 rfl) (by decide) (by decide) rfl rfl ?_
    refine V_bipush (v := 109) (q := 296) X (TB.get tb_X9_wordOf 107 rfl) c_bipush_109 rfl ?_
    refine V_bipush (v := 97) (q := 298) X (TB.get tb_X9_wordOf 108 rfl) c_bipush_97 rfl ?_
    refine V_bipush (v := 121) (q := 300) X (TB.get tb_X9_wordOf 109 rfl) c_bipush_121 rfl ?_
    refine V_bipush (v := 98) (q := 302) X (TB.get tb_X9_wordOf 110 rfl) c_bipush_98 rfl ?_
    refine V_bipush (v := 101) (q := 304) X (TB.get tb_X9_wordOf 111 rfl) c_bipush_101 rfl ?_
    obtain ⟨x17, ex17, e⟩ := bs e
    refine V_callS (q := 307) (As := [.int (109 : Int32), .int (97 : Int32), .int (121 : Int32), .int (98 : Int32), .int (101 : Int32)]) (rest := []) (st' := [.long x17]) X (TB.get tb_X9_wordOf 112 rfl) rfl cs_RX9_135 (ok_X9_spelt (109 : Int32) (97 : Int32) (121 : Int32) (98 : Int32) (101 : Int32) h x17 ex17) (Nat.le_of_ble_eq_true rfl) rfl rfl (Nat.le_of_ble_eq_true rfl) rfl ?_
    cases e
    exact V_lret X hr hlk (TB.get tb_X9_wordOf 113 rfl)
  have e := (if_neg hc19).symm.trans e
  by_cases hc20 : a0 = (20 : Int32)
  · have e := (if_pos hc20).symm.trans e
    rw [hc20]
    refine V_tabIn (q := 308) X (TB.get tb_X9_wordOf 1 rfl) (by decide) (by decide) rfl rfl ?_
    refine V_bipush (v := 108) (q := 310) X (TB.get tb_X9_wordOf 114 rfl) c_bipush_108 rfl ?_
    refine V_bipush (v := 111) (q := 312) X (TB.get tb_X9_wordOf 115 rfl) c_bipush_111 rfl ?_
    refine V_bipush (v := 111) (q := 314) X (TB.get tb_X9_wordOf 116 rfl) c_bipush_111 rfl ?_
    refine V_bipush (v := 112) (q := 316) X (TB.get tb_X9_wordOf 117 rfl) c_bipush_112 rfl ?_
    refine V_iconst (v := 0) (q := 317) X (TB.get tb_X9_wordOf 118 rfl) c_iconst_0 rfl ?_
    obtain ⟨x18, ex18, e⟩ := bs e
    refine V_callS (q := 320) (As := [.int (108 : Int32), .int (111 : Int32), .int (111 : Int32), .int (112 : Int32), .int (0 : Int32)]) (rest := []) (st' := [.long x18]) X (TB.get tb_X9_wordOf 119 rfl) rfl cs_RX9_135 (ok_X9_spelt (108 : Int32) (111 : Int32) (111 : Int32) (112 : Int32) (0 : Int32) h x18 ex18) (Nat.le_of_ble_eq_true rfl) rfl rfl (Nat.le_of_ble_eq_true rfl) rfl ?_
    cases e
    exact V_lret X hr hlk (TB.get tb_X9_wordOf 120 rfl)
  have e := (if_neg hc20).symm.trans e
  by_cases hc21 : a0 = (21 : Int32)
  · have e := (if_pos hc21).symm.trans e
    rw [hc21]
    refine V_tabIn (q := 321) X (TB.get tb_X9_wordOf 1 rfl) (by decide) (by decide) rfl rfl ?_
    refine V_bipush (v := 101) (q := 323) X (TB.get tb_X9_wordOf 121 rfl) c_bipush_101 rfl ?_
    refine V_bipush (v := 108) (q := 325) X (TB.get tb_X9_wordOf 122 rfl) c_bipush_108 rfl ?_
    refine V_bipush (v := 115) (q := 327) X (TB.get tb_X9_wordOf 123 rfl) c_bipush_115 rfl ?_
    refine V_bipush (v := 101) (q := 329) X (TB.get tb_X9_wordOf 124 rfl) c_bipush_101 rfl ?_
    refine V_iconst (v := 0) (q := 330) X (TB.get tb_X9_wordOf 125 rfl) c_iconst_0 rfl ?_
    obtain ⟨x19, ex19, e⟩ := bs e
    refine V_callS (q := 333) (As := [.int (101 : Int32), .int (108 : Int32), .int (115 : Int32), .int (101 : Int32), .int (0 : Int32)]) (rest := []) (st' := [.long x19]) X (TB.get tb_X9_wordOf 126 rfl) rfl cs_RX9_135 (ok_X9_spelt (101 : Int32) (108 : Int32) (115 : Int32) (101 : Int32) (0 : Int32) h x19 ex19) (Nat.le_of_ble_eq_true rfl) rfl rfl (Nat.le_of_ble_eq_true rfl) rfl ?_
    cases e
    exact V_lret X hr hlk (TB.get tb_X9_wordOf 127 rfl)
  have e := (if_neg hc21).symm.trans e
  have hout : a0.toInt < 0 ∨ 21 < a0.toInt := tab_out a0 (0) (21) [0, 1, 2, 3, 4, 5, 6, 7, 8, 9, 10, 11, 12, 13, 14, 15, 16, 17, 18, 19, 20, 21] (by decide +kernel) (fun v hv => by simp only [List.mem_cons, List.not_mem_nil, or_false] at hv; rcases hv with rfl | rfl | rfl | rfl | rfl | rfl | rfl | rfl | rfl | rfl | rfl | rfl | rfl | rfl | rfl | rfl | rfl | rfl | rfl | rfl | rfl | rfl <;> assumption)
  refine V_tabOut (q := 334) X (TB.get tb_X9_wordOf 1 rfl) hout rfl ?_
  refine V_sub (lv' := []) [] rfl ?_
  exact Jj1 e
set_option maxRecDepth 100000 in
set_option maxHeartbeats 4000000 in
theorem ok_X9_wordHere (fu : Nat) (a0 : Nat) (h : Hp) (res : Int32) (e : MX9_wordHere fu a0 h = some res) : CK yX9_wordHere cX9_wordHere 2 (some .int) 2 [.ref a0] h (some (.int res)) h ∧ (h.1 a0).1 = 9 := by
  obtain ⟨hcl, e⟩ := h_g_inv e
  refine ⟨CK_of pn_RX9 cm_X9_wordHere (Nat.le_of_ble_eq_true rfl) ?_, hcl⟩
  intro l D tc B nn p en s m args below meth c X hr hlk
  replace X : CX p (rmD 2) s m args c cX9_wordHere 2 RX9 D tc 2 := X
  show V p l en (rmD 2) s m args below meth c 2 D tc B nn (Ar B nn) s.heap 0 0 (MQ below (QC D tc B nn (Ar B nn) (some (.int res)) h) args s 0 0 (Ar B nn)) h 0 [(0, .ref a0)] []
  refine V_iconst (v := 0) (q := 1) X (TB.get tb_X9_wordHere 0 rfl) c_iconst_0 rfl ?_
  refine V_istore_n (q := 2) (lv' := [(1, .int (0 : Int32)), (0, .ref a0)]) X (TB.get tb_X9_wordHere 1 rfl) rfl rfl (Nat.le_of_ble_eq_true rfl) rfl ?_
  refine V_sub (lv' := [(0, .ref a0), (1, .int (0 : Int32))]) [1, 0] rfl ?_
  refine wh1_elim (P := fun v1 => V p l en (rmD 2) s m args below meth c 2 D tc B nn (Ar B nn) s.heap 0 0 (MQ below (QC D tc B nn (Ar B nn) (some (.int res)) h) args s 0 0 (Ar B nn)) h 2 [(0, .ref a0), (1, .int v1)] []) (f := fu) ?_ e
  intro self2 v1 ihself2 e
  unfold MX9_wordHere_B2 at e
  refine V_iload_n (q := 3) X (TB.get tb_X9_wordHere 2 rfl) rfl rfl rfl ?_
  refine V_bipush (v := 21) (q := 5) X (TB.get tb_X9_wordHere 3 rfl) c_bipush_21 rfl ?_
  refine V_icmp_gt (q := 8) (t := 36) X (TB.get tb_X9_wordHere 4 rfl) rfl rfl (fun hc => ?_) (fun hc => ?_)
  · have e := (if_pos hc).symm.trans e
    refine V_iconst (v := -1) (q := 37) X (TB.get tb_X9_wordHere 19 rfl) c_iconst_m1 rfl ?_
    cases e
    exact V_iret X hr hlk (TB.get tb_X9_wordHere 20 rfl)
  · have e := (if_neg hc).symm.trans e
    refine V_aload_n (q := 9) X (TB.get tb_X9_wordHere 5 rfl) rfl rfl rfl ?_
    obtain ⟨x3, ex3, e⟩ := bs e
    refine V_getI (q := 12) X (TB.get tb_X9_wordHere 6 rfl) rfl lf_RX9_117 ex3 ?_
    refine V_iconst (v := 2) (q := 13) X (TB.get tb_X9_wordHere 7 rfl) c_iconst_2 rfl ?_
    refine V_icmp_ne (q := 16) (t := 36) X (TB.get tb_X9_wordHere 8 rfl) rfl rfl (fun hc => ?_) (fun hc => ?_)
    · have e := (if_neg hc).symm.trans e
      refine V_iconst (v := -1) (q := 37) X (TB.get tb_X9_wordHere 19 rfl) c_iconst_m1 rfl ?_
      cases e
      exact V_iret X hr hlk (TB.get tb_X9_wordHere 20 rfl)
    · have e := (if_pos hc).symm.trans e
      refine V_aload_n (q := 17) X (TB.get tb_X9_wordHere 9 rfl) rfl rfl rfl ?_
      obtain ⟨x4, ex4, e⟩ := bs e
      refine V_getL (q := 20) X (TB.get tb_X9_wordHere 10 rfl) rfl lf_RX9_124 ex4 ?_
      refine V_iload_n (q := 21) X (TB.get tb_X9_wordHere 11 rfl) rfl rfl rfl ?_
      obtain ⟨x5, ex5, e⟩ := bs e
      refine V_callS (q := 24) (As := [.int v1]) (rest := [.long x4]) (st' := [.long x5, .long x4]) X (TB.get tb_X9_wordHere 12 rfl) rfl cs_RX9_141 (ok_X9_wordOf v1 h x5 ex5) (Nat.le_of_ble_eq_true rfl) rfl rfl (Nat.le_of_ble_eq_true rfl) rfl ?_
      refine V_lcmp (q := 25) X (TB.get tb_X9_wordHere 13 rfl) rfl ?_
      refine V_if_ne (q := 28) (t := 30) X (TB.get tb_X9_wordHere 14 rfl) rfl rfl (fun hc => ?_) (fun hc => ?_)
      · have e := (if_neg hc).symm.trans e
        refine V_iinc (q := 33) (v := v1 + (1 : Int32)) (lv' := [(1, .int (v1 + (1 : Int32))), (0, .ref a0)]) X (TB.get tb_X9_wordHere 17 rfl) rfl rfl (by rw [c_iconst_1]) (Nat.le_of_ble_eq_true rfl) rfl ?_
        refine V_goto (q := 2) X (TB.get tb_X9_wordHere 18 rfl) rfl ?_
        refine V_sub (lv' := [(0, .ref a0), (1, .int (v1 + (1 : Int32)))]) [1, 0] rfl ?_
        exact ihself2 _ e
      · have e := (if_pos hc).symm.trans e
        refine V_iload_n (q := 29) X (TB.get tb_X9_wordHere 15 rfl) rfl rfl rfl ?_
        cases e
        exact V_iret X hr hlk (TB.get tb_X9_wordHere 16 rfl)
set_option maxRecDepth 100000 in
set_option maxHeartbeats 4000000 in
theorem ok_X9_isStatement (fu : Nat) (a0 : Nat) (h : Hp) (res : Int32) (e : MX9_isStatement fu a0 h = some res) : CK yX9_isStatement cX9_isStatement 2 (some .boolean) 3 [.ref a0] h (some (.int res)) h ∧ (h.1 a0).1 = 9 := by
  obtain ⟨hcl, e⟩ := h_g_inv e
  refine ⟨CK_of pn_RX9 cm_X9_isStatement (Nat.le_of_ble_eq_true rfl) ?_, hcl⟩
  intro l D tc B nn p en s m args below meth c X hr hlk
  replace X : CX p (rmD 3) s m args c cX9_isStatement 2 RX9 D tc 3 := X
  show V p l en (rmD 3) s m args below meth c 2 D tc B nn (Ar B nn) s.heap 0 0 (MQ below (QC D tc B nn (Ar B nn) (some (.int res)) h) args s 0 0 (Ar B nn)) h 0 [(0, .ref a0)] []
  refine V_aload_n (q := 1) X (TB.get tb_X9_isStatement 0 rfl) rfl rfl rfl ?_
  obtain ⟨x1, ex1, e⟩ := bs e
  refine V_callV (q := 4) (As := []) (rest := []) (st' := [.int x1]) X (TB.get tb_X9_isStatement 1 rfl) rfl cv_RX9_145 (ok_X9_wordHere fu a0 h x1 ex1).1 (ok_X9_wordHere fu a0 h x1 ex1).2 (Nat.le_of_ble_eq_true rfl) rfl rfl (Nat.le_of_ble_eq_true rfl) rfl ?_
  refine V_istore_n (q := 5) (lv' := [(1, .int x1), (0, .ref a0)]) X (TB.get tb_X9_isStatement 2 rfl) rfl rfl (Nat.le_of_ble_eq_true rfl) rfl ?_
  refine V_iload_n (q := 6) X (TB.get tb_X9_isStatement 3 rfl) rfl rfl rfl ?_
  refine V_bipush (v := 10) (q := 8) X (TB.get tb_X9_isStatement 4 rfl) c_bipush_10 rfl ?_
  refine jn_elim (P := (fun (k : Option (Int32)) => k = some res → V p l en (rmD 3) s m args below meth c 2 D tc B nn (Ar B nn) s.heap 0 0 (MQ below (QC D tc B nn (Ar B nn) (some (.int res)) h) args s 0 0 (Ar B nn)) h 21 [] [])) e ?_ (fun j2 Jj2 e => ?_)
  · intro e
    refine V_iconst (v := 0) (q := 22) X (TB.get tb_X9_isStatement 11 rfl) c_iconst_0 rfl ?_
    cases e
    exact V_zret X hr hlk (Or.inl rfl) (TB.get tb_X9_isStatement 12 rfl)
  refine V_icmp_lt (q := 11) (t := 21) X (TB.get tb_X9_isStatement 5 rfl) rfl rfl (fun hc => ?_) (fun hc => ?_)
  · have e := (if_pos hc).symm.trans e
    refine V_sub (lv' := []) [] rfl ?_
    exact Jj2 e
  · have e := (if_neg hc).symm.trans e
    refine V_iload_n (q := 12) X (TB.get tb_X9_isStatement 6 rfl) rfl rfl rfl ?_
    refine V_bipush (v := 21) (q := 14) X (TB.get tb_X9_isStatement 7 rfl) c_bipush_21 rfl ?_
    refine V_icmp_ge (q := 17) (t := 21) X (TB.get tb_X9_isStatement 8 rfl) rfl rfl (fun hc => ?_) (fun hc => ?_)
    · have e := (if_pos hc).symm.trans e
      refine V_sub (lv' := []) [] rfl ?_
      exact Jj2 e
    · have e := (if_neg hc).symm.trans e
      refine V_iconst (v := 1) (q := 18) X (TB.get tb_X9_isStatement 9 rfl) c_iconst_1 rfl ?_
      refine V_goto (q := 22) X (TB.get tb_X9_isStatement 10 rfl) rfl ?_
      cases e
      exact V_zret X hr hlk (Or.inr rfl) (TB.get tb_X9_isStatement 12 rfl)
set_option maxRecDepth 100000 in
set_option maxHeartbeats 4000000 in
theorem ok_X9_isName (fu : Nat) (a0 : Nat) (h : Hp) (res : Int32) (e : MX9_isName fu a0 h = some res) : CK yX9_isName cX9_isName 1 (some .boolean) 3 [.ref a0] h (some (.int res)) h ∧ (h.1 a0).1 = 9 := by
  obtain ⟨hcl, e⟩ := h_g_inv e
  refine ⟨CK_of pn_RX9 cm_X9_isName (Nat.le_of_ble_eq_true rfl) ?_, hcl⟩
  intro l D tc B nn p en s m args below meth c X hr hlk
  replace X : CX p (rmD 3) s m args c cX9_isName 1 RX9 D tc 3 := X
  show V p l en (rmD 3) s m args below meth c 1 D tc B nn (Ar B nn) s.heap 0 0 (MQ below (QC D tc B nn (Ar B nn) (some (.int res)) h) args s 0 0 (Ar B nn)) h 0 [(0, .ref a0)] []
  refine V_aload_n (q := 1) X (TB.get tb_X9_isName 0 rfl) rfl rfl rfl ?_
  obtain ⟨x1, ex1, e⟩ := bs e
  refine V_getI (q := 4) X (TB.get tb_X9_isName 1 rfl) rfl lf_RX9_117 ex1 ?_
  refine V_iconst (v := 2) (q := 5) X (TB.get tb_X9_isName 2 rfl) c_iconst_2 rfl ?_
  refine jn_elim (P := (fun (k : Option (Int32)) => k = some res → V p l en (rmD 3) s m args below meth c 1 D tc B nn (Ar B nn) s.heap 0 0 (MQ below (QC D tc B nn (Ar B nn) (some (.int res)) h) args s 0 0 (Ar B nn)) h 20 [] [])) e ?_ (fun j2 Jj2 e => ?_)
  · intro e
    refine V_iconst (v := 0) (q := 21) X (TB.get tb_X9_isName 10 rfl) c_iconst_0 rfl ?_
    cases e
    exact V_zret X hr hlk (Or.inl rfl) (TB.get tb_X9_isName 11 rfl)
  refine V_icmp_ne (q := 8) (t := 20) X (TB.get tb_X9_isName 3 rfl) rfl rfl (fun hc => ?_) (fun hc => ?_)
  · have e := (if_neg hc).symm.trans e
    refine V_sub (lv' := []) [] rfl ?_
    exact Jj2 e
  · have e := (if_pos hc).symm.trans e
    refine V_aload_n (q := 9) X (TB.get tb_X9_isName 4 rfl) rfl rfl rfl ?_
    obtain ⟨x3, ex3, e⟩ := bs e
    refine V_callV (q := 12) (As := []) (rest := []) (st' := [.int x3]) X (TB.get tb_X9_isName 5 rfl) rfl cv_RX9_145 (ok_X9_wordHere fu a0 h x3 ex3).1 (ok_X9_wordHere fu a0 h x3 ex3).2 (Nat.le_of_ble_eq_true rfl) rfl rfl (Nat.le_of_ble_eq_true rfl) rfl ?_
    refine V_iconst (v := -1) (q := 13) X (TB.get tb_X9_isName 6 rfl) c_iconst_m1 rfl ?_
    refine V_icmp_ne (q := 16) (t := 20) X (TB.get tb_X9_isName 7 rfl) rfl rfl (fun hc => ?_) (fun hc => ?_)
    · have e := (if_neg hc).symm.trans e
      refine V_sub (lv' := []) [] rfl ?_
      exact Jj2 e
    · have e := (if_pos hc).symm.trans e
      refine V_iconst (v := 1) (q := 17) X (TB.get tb_X9_isName 8 rfl) c_iconst_1 rfl ?_
      refine V_goto (q := 21) X (TB.get tb_X9_isName 9 rfl) rfl ?_
      cases e
      exact V_zret X hr hlk (Or.inr rfl) (TB.get tb_X9_isName 11 rfl)
set_option maxRecDepth 100000 in
set_option maxHeartbeats 4000000 in
theorem ok_X9_findIn (fu : Nat) (a0 : Nat) (a1 : Int32) (a2 : Int32) (h : Hp) (res : Int32) (e : MX9_findIn fu a0 a1 a2 h = some res) : CK yX9_findIn cX9_findIn 4 (some .int) 0 [.ref a0, .int a1, .int a2] h (some (.int res)) h ∧ (h.1 a0).1 = 9 := by
  obtain ⟨hcl, e⟩ := h_g_inv e
  refine ⟨CK_of pn_RX9 cm_X9_findIn (Nat.le_of_ble_eq_true rfl) ?_, hcl⟩
  intro l D tc B nn p en s m args below meth c X hr hlk
  replace X : CX p (rmD 0) s m args c cX9_findIn 4 RX9 D tc 0 := X
  show V p l en (rmD 0) s m args below meth c 4 D tc B nn (Ar B nn) s.heap 0 0 (MQ below (QC D tc B nn (Ar B nn) (some (.int res)) h) args s 0 0 (Ar B nn)) h 0 [(0, .ref a0), (1, .int a1), (2, .int a2)] []
  refine V_iconst (v := 0) (q := 1) X (TB.get tb_X9_findIn 0 rfl) c_iconst_0 rfl ?_
  refine V_istore_n (q := 2) (lv' := [(3, .int (0 : Int32)), (0, .ref a0), (1, .int a1), (2, .int a2)]) X (TB.get tb_X9_findIn 1 rfl) rfl rfl (Nat.le_of_ble_eq_true rfl) rfl ?_
  refine V_sub (lv' := [(0, .ref a0), (1, .int a1), (2, .int a2), (3, .int (0 : Int32))]) [1, 2, 3, 0] rfl ?_
  refine wh1_elim (P := fun v1 => V p l en (rmD 0) s m args below meth c 4 D tc B nn (Ar B nn) s.heap 0 0 (MQ below (QC D tc B nn (Ar B nn) (some (.int res)) h) args s 0 0 (Ar B nn)) h 2 [(0, .ref a0), (1, .int a1), (2, .int a2), (3, .int v1)] []) (f := fu) ?_ e
  intro self2 v1 ihself2 e
  unfold MX9_findIn_B2 at e
  refine V_iload_n (q := 3) X (TB.get tb_X9_findIn 2 rfl) rfl rfl rfl ?_
  refine V_iload_n (q := 4) X (TB.get tb_X9_findIn 3 rfl) rfl rfl rfl ?_
  refine V_icmp_ge (q := 7) (t := 31) X (TB.get tb_X9_findIn 4 rfl) rfl rfl (fun hc => ?_) (fun hc => ?_)
  · have e := (if_pos hc).symm.trans e
    refine V_iconst (v := -1) (q := 32) X (TB.get tb_X9_findIn 19 rfl) c_iconst_m1 rfl ?_
    cases e
    exact V_iret X hr hlk (TB.get tb_X9_findIn 20 rfl)
  · have e := (if_neg hc).symm.trans e
    refine V_aload_n (q := 8) X (TB.get tb_X9_findIn 5 rfl) rfl rfl rfl ?_
    obtain ⟨x3, ex3, e⟩ := bs e
    refine V_getR (q := 11) X (TB.get tb_X9_findIn 6 rfl) rfl lf_RX9_19 ex3 ?_
    refine V_iload_n (q := 12) X (TB.get tb_X9_findIn 7 rfl) rfl rfl rfl ?_
    refine V_iload_n (q := 13) X (TB.get tb_X9_findIn 8 rfl) rfl rfl rfl ?_
    refine V_iadd (q := 14) X (TB.get tb_X9_findIn 9 rfl) rfl ?_
    obtain ⟨x4, ex4, e⟩ := bs e
    refine V_laload (q := 15) X (TB.get tb_X9_findIn 10 rfl) rfl ex4 ?_
    refine V_aload_n (q := 16) X (TB.get tb_X9_findIn 11 rfl) rfl rfl rfl ?_
    obtain ⟨x5, ex5, e⟩ := bs e
    refine V_getL (q := 19) X (TB.get tb_X9_findIn 12 rfl) rfl lf_RX9_124 ex5 ?_
    refine V_lcmp (q := 20) X (TB.get tb_X9_findIn 13 rfl) rfl ?_
    refine V_if_ne (q := 23) (t := 25) X (TB.get tb_X9_findIn 14 rfl) rfl rfl (fun hc => ?_) (fun hc => ?_)
    · have e := (if_neg hc).symm.trans e
      refine V_iinc (q := 28) (v := v1 + (1 : Int32)) (lv' := [(3, .int (v1 + (1 : Int32))), (0, .ref a0), (1, .int a1), (2, .int a2)]) X (TB.get tb_X9_findIn 17 rfl) rfl rfl (by rw [c_iconst_1]) (Nat.le_of_ble_eq_true rfl) rfl ?_
      refine V_goto (q := 2) X (TB.get tb_X9_findIn 18 rfl) rfl ?_
      refine V_sub (lv' := [(0, .ref a0), (1, .int a1), (2, .int a2), (3, .int (v1 + (1 : Int32)))]) [1, 2, 3, 0] rfl ?_
      exact ihself2 _ e
    · have e := (if_pos hc).symm.trans e
      refine V_iload_n (q := 24) X (TB.get tb_X9_findIn 15 rfl) rfl rfl rfl ?_
      cases e
      exact V_iret X hr hlk (TB.get tb_X9_findIn 16 rfl)
set_option maxRecDepth 100000 in
set_option maxHeartbeats 4000000 in
theorem ok_X9_readKnown (fu : Nat) (a0 : Nat) (a1 : Int32) (a2 : Int32) (h : Hp) (res : Int32 × Hp) (e : MX9_readKnown fu a0 a1 a2 h = some res) : CK yX9_readKnown cX9_readKnown 3 (some .boolean) 4 [.ref a0, .int a1, .int a2] h (some (.int res.1)) res.2 ∧ (h.1 a0).1 = 9 := by
  obtain ⟨hcl, e⟩ := h_g_inv e
  refine ⟨CK_of pn_RX9 cm_X9_readKnown (Nat.le_of_ble_eq_true rfl) ?_, hcl⟩
  intro l D tc B nn p en s m args below meth c X hr hlk
  replace X : CX p (rmD 4) s m args c cX9_readKnown 3 RX9 D tc 4 := X
  show V p l en (rmD 4) s m args below meth c 3 D tc B nn (Ar B nn) s.heap 0 0 (MQ below (QC D tc B nn (Ar B nn) (some (.int res.1)) res.2) args s 0 0 (Ar B nn)) h 0 [(0, .ref a0), (1, .int a1), (2, .int a2)] []
  refine V_aload_n (q := 1) X (TB.get tb_X9_readKnown 0 rfl) rfl rfl rfl ?_
  obtain ⟨x1, ex1, e⟩ := bs e
  refine V_callV (q := 4) (As := []) (rest := []) (st' := [.int x1]) X (TB.get tb_X9_readKnown 1 rfl) rfl cv_RX9_164 (ok_X9_isName fu a0 h x1 ex1).1 (ok_X9_isName fu a0 h x1 ex1).2 (Nat.le_of_ble_eq_true rfl) rfl rfl (Nat.le_of_ble_eq_true rfl) rfl ?_
  refine V_if_ne (q := 7) (t := 13) X (TB.get tb_X9_readKnown 2 rfl) rfl rfl (fun hc => ?_) (fun hc => ?_)
  · have e := (if_neg hc).symm.trans e
    refine V_aload_n (q := 14) X (TB.get tb_X9_readKnown 7 rfl) rfl rfl rfl ?_
    refine V_aload_n (q := 15) X (TB.get tb_X9_readKnown 8 rfl) rfl rfl rfl ?_
    refine V_iload_n (q := 16) X (TB.get tb_X9_readKnown 9 rfl) rfl rfl rfl ?_
    refine V_iload_n (q := 17) X (TB.get tb_X9_readKnown 10 rfl) rfl rfl rfl ?_
    obtain ⟨x2, ex2, e⟩ := bs e
    refine V_callV (q := 20) (As := [.int a1, .int a2]) (rest := [.ref a0]) (st' := [.int x2, .ref a0]) X (TB.get tb_X9_readKnown 11 rfl) rfl cv_RX9_168 (ok_X9_findIn fu a0 a1 a2 h x2 ex2).1 (ok_X9_findIn fu a0 a1 a2 h x2 ex2).2 (Nat.le_of_ble_eq_true rfl) rfl rfl (Nat.le_of_ble_eq_true rfl) rfl ?_
    obtain ⟨h3, eh3, e⟩ := bs e
    refine V_putI (q := 23) X (TB.get tb_X9_readKnown 12 rfl) rfl lq_RX9_172 eh3 ?_
    refine V_aload_n (q := 24) X (TB.get tb_X9_readKnown 13 rfl) rfl rfl rfl ?_
    obtain ⟨x4, ex4, e⟩ := bs e
    refine V_getI (q := 27) X (TB.get tb_X9_readKnown 14 rfl) rfl lf_RX9_172 ex4 ?_
    refine V_iconst (v := -1) (q := 28) X (TB.get tb_X9_readKnown 15 rfl) c_iconst_m1 rfl ?_
    refine V_icmp_ne (q := 31) (t := 37) X (TB.get tb_X9_readKnown 16 rfl) rfl rfl (fun hc => ?_) (fun hc => ?_)
    · have e := (if_neg hc).symm.trans e
      refine V_aload_n (q := 38) X (TB.get tb_X9_readKnown 21 rfl) rfl rfl rfl ?_
      obtain ⟨h5, eh5, e⟩ := bs e
      refine V_callV (q := 41) (As := []) (rest := []) (st' := []) X (TB.get tb_X9_readKnown 22 rfl) rfl cv_RX9_161 (ok_X9_go fu a0 h3 h5 eh5).1 (ok_X9_go fu a0 h3 h5 eh5).2 (Nat.le_of_ble_eq_true rfl) rfl rfl (Nat.le_of_ble_eq_true rfl) rfl ?_
      refine V_iconst (v := 1) (q := 42) X (TB.get tb_X9_readKnown 23 rfl) c_iconst_1 rfl ?_
      cases e
      exact V_zret X hr hlk (Or.inr rfl) (TB.get tb_X9_readKnown 24 rfl)
    · have e := (if_pos hc).symm.trans e
      refine V_aload_n (q := 32) X (TB.get tb_X9_readKnown 17 rfl) rfl rfl rfl ?_
      refine V_iconst (v := 3) (q := 33) X (TB.get tb_X9_readKnown 18 rfl) c_iconst_3 rfl ?_
      obtain ⟨p6, ep6, e⟩ := bs e
      refine V_callV (q := 36) (As := [.int (3 : Int32)]) (rest := []) (st' := [.int p6.1]) X (TB.get tb_X9_readKnown 19 rfl) rfl cv_RX9_158 (ok_X9_bad a0 (3 : Int32) h3 p6 ep6).1 (ok_X9_bad a0 (3 : Int32) h3 p6 ep6).2 (Nat.le_of_ble_eq_true rfl) rfl rfl (Nat.le_of_ble_eq_true rfl) rfl ?_
      obtain ⟨z7, ez7, e⟩ := bs e
      cases e
      exact V_zretH X hr hlk ez7 (TB.get tb_X9_readKnown 20 rfl)
  · have e := (if_pos hc).symm.trans e
    refine V_aload_n (q := 8) X (TB.get tb_X9_readKnown 3 rfl) rfl rfl rfl ?_
    refine V_iconst (v := 2) (q := 9) X (TB.get tb_X9_readKnown 4 rfl) c_iconst_2 rfl ?_
    obtain ⟨p8, ep8, e⟩ := bs e
    refine V_callV (q := 12) (As := [.int (2 : Int32)]) (rest := []) (st' := [.int p8.1]) X (TB.get tb_X9_readKnown 5 rfl) rfl cv_RX9_158 (ok_X9_bad a0 (2 : Int32) h p8 ep8).1 (ok_X9_bad a0 (2 : Int32) h p8 ep8).2 (Nat.le_of_ble_eq_true rfl) rfl rfl (Nat.le_of_ble_eq_true rfl) rfl ?_
    obtain ⟨z9, ez9, e⟩ := bs e
    cases e
    exact V_zretH X hr hlk ez9 (TB.get tb_X9_readKnown 6 rfl)
set_option maxRecDepth 100000 in
set_option maxHeartbeats 4000000 in
theorem ok_X9_readVariable (fu : Nat) (a0 : Nat) (h : Hp) (res : Int32 × Hp) (e : MX9_readVariable fu a0 h = some res) : CK yX9_readVariable cX9_readVariable 1 (some .boolean) 5 [.ref a0] h (some (.int res.1)) res.2 ∧ (h.1 a0).1 = 9 := by
  obtain ⟨hcl, e⟩ := h_g_inv e
  refine ⟨CK_of pn_RX9 cm_X9_readVariable (Nat.le_of_ble_eq_true rfl) ?_, hcl⟩
  intro l D tc B nn p en s m args below meth c X hr hlk
  replace X : CX p (rmD 5) s m args c cX9_readVariable 1 RX9 D tc 5 := X
  show V p l en (rmD 5) s m args below meth c 1 D tc B nn (Ar B nn) s.heap 0 0 (MQ below (QC D tc B nn (Ar B nn) (some (.int res.1)) res.2) args s 0 0 (Ar B nn)) h 0 [(0, .ref a0)] []
  refine V_aload_n (q := 1) X (TB.get tb_X9_readVariable 0 rfl) rfl rfl rfl ?_
  refine V_bipush (v := 52) (q := 3) X (TB.get tb_X9_readVariable 1 rfl) c_bipush_52 rfl ?_
  refine V_aload_n (q := 4) X (TB.get tb_X9_readVariable 2 rfl) rfl rfl rfl ?_
  obtain ⟨x1, ex1, e⟩ := bs e
  refine V_getR (q := 7) X (TB.get tb_X9_readVariable 3 rfl) rfl lf_RX9_16 ex1 ?_
  refine V_iconst (v := 1) (q := 8) X (TB.get tb_X9_readVariable 4 rfl) c_iconst_1 rfl ?_
  obtain ⟨x2, ex2, e⟩ := bs e
  refine V_iaload (q := 9) X (TB.get tb_X9_readVariable 5 rfl) rfl ex2 ?_
  obtain ⟨p3, ep3, e⟩ := bs e
  refine V_callV (q := 12) (As := [.int (52 : Int32), .int x2]) (rest := []) (st' := [.int p3.1]) X (TB.get tb_X9_readVariable 6 rfl) rfl cv_RX9_175 (ok_X9_readKnown fu a0 (52 : Int32) x2 h p3 ep3).1 (ok_X9_readKnown fu a0 (52 : Int32) x2 h p3 ep3).2 (Nat.le_of_ble_eq_true rfl) rfl rfl (Nat.le_of_ble_eq_true rfl) rfl ?_
  obtain ⟨z4, ez4, e⟩ := bs e
  cases e
  exact V_zretH X hr hlk ez4 (TB.get tb_X9_readVariable 7 rfl)
set_option maxRecDepth 100000 in
set_option maxHeartbeats 4000000 in
theorem ok_X9_isTwo (a0 : Int32) (h : Hp) (res : Int32) (e : MX9_isTwo a0 = some res) : CK yX9_isTwo cX9_isTwo 1 (some .boolean) 0 [.int a0] h (some (.int res)) h := by
  unfold MX9_isTwo at e
  refine CK_of pn_RX9 cm_X9_isTwo (Nat.le_of_ble_eq_true rfl) ?_
  intro l D tc B nn p en s m args below meth c X hr hlk
  replace X : CX p (rmD 0) s m args c cX9_isTwo 1 RX9 D tc 0 := X
  show V p l en (rmD 0) s m args below meth c 1 D tc B nn (Ar B nn) s.heap 0 0 (MQ below (QC D tc B nn (Ar B nn) (some (.int res)) h) args s 0 0 (Ar B nn)) h 0 [(0, .int a0)] []
  refine V_iload_n (q := 1) X (TB.get tb_X9_isTwo 0 rfl) rfl rfl rfl ?_
  refine V_iconst (v := 1) (q := 2) X (TB.get tb_X9_isTwo 1 rfl) c_iconst_1 rfl ?_
  refine jn_elim (P := (fun (k : Option (Int32)) => k = some res → V p l en (rmD 0) s m args below meth c 1 D tc B nn (Ar B nn) s.heap 0 0 (MQ below (QC D tc B nn (Ar B nn) (some (.int res)) h) args s 0 0 (Ar B nn)) h 14 [] [])) e ?_ (fun j1 Jj1 e => ?_)
  · intro e
    refine V_iconst (v := 0) (q := 15) X (TB.get tb_X9_isTwo 8 rfl) c_iconst_0 rfl ?_
    cases e
    exact V_zret X hr hlk (Or.inl rfl) (TB.get tb_X9_isTwo 9 rfl)
  refine V_icmp_lt (q := 5) (t := 14) X (TB.get tb_X9_isTwo 2 rfl) rfl rfl (fun hc => ?_) (fun hc => ?_)
  · have e := (if_pos hc).symm.trans e
    refine V_sub (lv' := []) [] rfl ?_
    exact Jj1 e
  · have e := (if_neg hc).symm.trans e
    refine V_iload_n (q := 6) X (TB.get tb_X9_isTwo 3 rfl) rfl rfl rfl ?_
    refine V_iconst (v := 4) (q := 7) X (TB.get tb_X9_isTwo 4 rfl) c_iconst_4 rfl ?_
    refine V_icmp_gt (q := 10) (t := 14) X (TB.get tb_X9_isTwo 5 rfl) rfl rfl (fun hc => ?_) (fun hc => ?_)
    · have e := (if_pos hc).symm.trans e
      refine V_sub (lv' := []) [] rfl ?_
      exact Jj1 e
    · have e := (if_neg hc).symm.trans e
      refine V_iconst (v := 1) (q := 11) X (TB.get tb_X9_isTwo 6 rfl) c_iconst_1 rfl ?_
      refine V_goto (q := 15) X (TB.get tb_X9_isTwo 7 rfl) rfl ?_
      cases e
      exact V_zret X hr hlk (Or.inr rfl) (TB.get tb_X9_isTwo 9 rfl)
set_option maxRecDepth 100000 in
set_option maxHeartbeats 4000000 in
theorem ok_X9_readOther (fu : Nat) (a0 : Nat) (a1 : Int32) (h : Hp) (res : Int32 × Hp) (e : MX9_readOther fu a0 a1 h = some res) : CK yX9_readOther cX9_readOther 4 (some .boolean) 4 [.ref a0, .int a1] h (some (.int res.1)) res.2 ∧ (h.1 a0).1 = 9 := by
  obtain ⟨hcl, e⟩ := h_g_inv e
  refine ⟨CK_of pn_RX9 cm_X9_readOther (Nat.le_of_ble_eq_true rfl) ?_, hcl⟩
  intro l D tc B nn p en s m args below meth c X hr hlk
  replace X : CX p (rmD 4) s m args c cX9_readOther 4 RX9 D tc 4 := X
  show V p l en (rmD 4) s m args below meth c 4 D tc B nn (Ar B nn) s.heap 0 0 (MQ below (QC D tc B nn (Ar B nn) (some (.int res.1)) res.2) args s 0 0 (Ar B nn)) h 0 [(0, .ref a0), (1, .int a1)] []
  refine V_aload_n (q := 1) X (TB.get tb_X9_readOther 0 rfl) rfl rfl rfl ?_
  obtain ⟨x1, ex1, e⟩ := bs e
  refine V_callV (q := 4) (As := []) (rest := []) (st' := [.int x1]) X (TB.get tb_X9_readOther 1 rfl) rfl cv_RX9_164 (ok_X9_isName fu a0 h x1 ex1).1 (ok_X9_isName fu a0 h x1 ex1).2 (Nat.le_of_ble_eq_true rfl) rfl rfl (Nat.le_of_ble_eq_true rfl) rfl ?_
  refine V_if_ne (q := 7) (t := 13) X (TB.get tb_X9_readOther 2 rfl) rfl rfl (fun hc => ?_) (fun hc => ?_)
  · have e := (if_neg hc).symm.trans e
    refine V_aload_n (q := 14) X (TB.get tb_X9_readOther 7 rfl) rfl rfl rfl ?_
    refine V_bipush (v := 52) (q := 16) X (TB.get tb_X9_readOther 8 rfl) c_bipush_52 rfl ?_
    refine V_aload_n (q := 17) X (TB.get tb_X9_readOther 9 rfl) rfl rfl rfl ?_
    obtain ⟨x2, ex2, e⟩ := bs e
    refine V_getR (q := 20) X (TB.get tb_X9_readOther 10 rfl) rfl lf_RX9_16 ex2 ?_
    refine V_iconst (v := 1) (q := 21) X (TB.get tb_X9_readOther 11 rfl) c_iconst_1 rfl ?_
    obtain ⟨x3, ex3, e⟩ := bs e
    refine V_iaload (q := 22) X (TB.get tb_X9_readOther 12 rfl) rfl ex3 ?_
    obtain ⟨x4, ex4, e⟩ := bs e
    refine V_callV (q := 25) (As := [.int (52 : Int32), .int x3]) (rest := []) (st' := [.int x4]) X (TB.get tb_X9_readOther 13 rfl) rfl cv_RX9_168 (ok_X9_findIn fu a0 (52 : Int32) x3 h x4 ex4).1 (ok_X9_findIn fu a0 (52 : Int32) x3 h x4 ex4).2 (Nat.le_of_ble_eq_true rfl) rfl rfl (Nat.le_of_ble_eq_true rfl) rfl ?_
    refine V_istore_n (q := 26) (lv' := [(2, .int x4), (0, .ref a0), (1, .int a1)]) X (TB.get tb_X9_readOther 14 rfl) rfl rfl (Nat.le_of_ble_eq_true rfl) rfl ?_
    refine V_iload_n (q := 27) X (TB.get tb_X9_readOther 15 rfl) rfl rfl rfl ?_
    refine V_iconst (v := -1) (q := 28) X (TB.get tb_X9_readOther 16 rfl) c_iconst_m1 rfl ?_
    refine V_icmp_ne (q := 31) (t := 37) X (TB.get tb_X9_readOther 17 rfl) rfl rfl (fun hc => ?_) (fun hc => ?_)
    · have e := (if_neg hc).symm.trans e
      refine V_aload_n (q := 38) X (TB.get tb_X9_readOther 22 rfl) rfl rfl rfl ?_
      refine V_getR (q := 41) X (TB.get tb_X9_readOther 23 rfl) rfl lf_RX9_16 ex2 ?_
      refine V_sipush (v := 373) (q := 44) X (TB.get tb_X9_readOther 24 rfl) c_sipush_373 rfl ?_
      refine V_iload_n (q := 45) X (TB.get tb_X9_readOther 25 rfl) rfl rfl rfl ?_
      refine V_iadd (q := 46) X (TB.get tb_X9_readOther 26 rfl) rfl ?_
      obtain ⟨x5, ex5, e⟩ := bs e
      refine V_iaload (q := 47) X (TB.get tb_X9_readOther 27 rfl) rfl ex5 ?_
      refine V_istore_n (q := 48) (lv' := [(3, .int x5), (2, .int x4), (0, .ref a0), (1, .int a1)]) X (TB.get tb_X9_readOther 28 rfl) rfl rfl (Nat.le_of_ble_eq_true rfl) rfl ?_
      refine V_iload_n (q := 49) X (TB.get tb_X9_readOther 29 rfl) rfl rfl rfl ?_
      refine V_iload_n (q := 50) X (TB.get tb_X9_readOther 30 rfl) rfl rfl rfl ?_
      refine jn_elim (P := (fun (k : Option (Int32 × Hp)) => k = some res → V p l en (rmD 4) s m args below meth c 4 D tc B nn (Ar B nn) s.heap 0 0 (MQ below (QC D tc B nn (Ar B nn) (some (.int res.1)) res.2) args s 0 0 (Ar B nn)) h 76 [(0, .ref a0)] [])) e ?_ (fun j6 Jj6 e => ?_)
      · intro e
        refine V_aload_n (q := 77) X (TB.get tb_X9_readOther 45 rfl) rfl rfl rfl ?_
        refine V_iconst (v := 5) (q := 78) X (TB.get tb_X9_readOther 46 rfl) c_iconst_5 rfl ?_
        obtain ⟨p7, ep7, e⟩ := bs e
        refine V_callV (q := 81) (As := [.int (5 : Int32)]) (rest := []) (st' := [.int p7.1]) X (TB.get tb_X9_readOther 47 rfl) rfl cv_RX9_158 (ok_X9_bad a0 (5 : Int32) h p7 ep7).1 (ok_X9_bad a0 (5 : Int32) h p7 ep7).2 (Nat.le_of_ble_eq_true rfl) rfl rfl (Nat.le_of_ble_eq_true rfl) rfl ?_
        obtain ⟨z8, ez8, e⟩ := bs e
        cases e
        exact V_zretH X hr hlk ez8 (TB.get tb_X9_readOther 48 rfl)
      refine V_icmp_eq (q := 53) (t := 76) X (TB.get tb_X9_readOther 31 rfl) rfl rfl (fun hc => ?_) (fun hc => ?_)
      · have e := (if_pos hc).symm.trans e
        refine V_sub (lv' := [(0, .ref a0)]) [2] rfl ?_
        exact Jj6 e
      · have e := (if_neg hc).symm.trans e
        refine V_aload_n (q := 54) X (TB.get tb_X9_readOther 32 rfl) rfl rfl rfl ?_
        refine V_getR (q := 57) X (TB.get tb_X9_readOther 33 rfl) rfl lf_RX9_16 ex2 ?_
        refine V_sipush (v := 327) (q := 60) X (TB.get tb_X9_readOther 34 rfl) c_sipush_327 rfl ?_
        refine V_iload_n (q := 61) X (TB.get tb_X9_readOther 35 rfl) rfl rfl rfl ?_
        refine V_iadd (q := 62) X (TB.get tb_X9_readOther 36 rfl) rfl ?_
        obtain ⟨x9, ex9, e⟩ := bs e
        refine V_iaload (q := 63) X (TB.get tb_X9_readOther 37 rfl) rfl ex9 ?_
        refine V_aload_n (q := 64) X (TB.get tb_X9_readOther 38 rfl) rfl rfl rfl ?_
        refine V_getR (q := 67) X (TB.get tb_X9_readOther 39 rfl) rfl lf_RX9_16 ex2 ?_
        refine V_sipush (v := 327) (q := 70) X (TB.get tb_X9_readOther 40 rfl) c_sipush_327 rfl ?_
        refine V_iload_n (q := 71) X (TB.get tb_X9_readOther 41 rfl) rfl rfl rfl ?_
        refine V_iadd (q := 72) X (TB.get tb_X9_readOther 42 rfl) rfl ?_
        obtain ⟨x10, ex10, e⟩ := bs e
        refine V_iaload (q := 73) X (TB.get tb_X9_readOther 43 rfl) rfl ex10 ?_
        refine V_icmp_eq (q := 76) (t := 82) X (TB.get tb_X9_readOther 44 rfl) rfl rfl (fun hc => ?_) (fun hc => ?_)
        · have e := (if_pos hc).symm.trans e
          refine V_aload_n (q := 83) X (TB.get tb_X9_readOther 49 rfl) rfl rfl rfl ?_
          refine V_getR (q := 86) X (TB.get tb_X9_readOther 50 rfl) rfl lf_RX9_16 ex2 ?_
          refine V_sipush (v := 413) (q := 89) X (TB.get tb_X9_readOther 51 rfl) c_sipush_413 rfl ?_
          refine V_iload_n (q := 90) X (TB.get tb_X9_readOther 52 rfl) rfl rfl rfl ?_
          refine V_iadd (q := 91) X (TB.get tb_X9_readOther 53 rfl) rfl ?_
          refine V_iload_n (q := 92) X (TB.get tb_X9_readOther 54 rfl) rfl rfl rfl ?_
          obtain ⟨h11, eh11, e⟩ := bs e
          refine V_iastore (q := 93) X (TB.get tb_X9_readOther 55 rfl) rfl eh11 ?_
          refine V_aload_n (q := 94) X (TB.get tb_X9_readOther 56 rfl) rfl rfl rfl ?_
          obtain ⟨h12, eh12, e⟩ := bs e
          refine V_callV (q := 97) (As := []) (rest := []) (st' := []) X (TB.get tb_X9_readOther 57 rfl) rfl cv_RX9_161 (ok_X9_go fu a0 h11 h12 eh12).1 (ok_X9_go fu a0 h11 h12 eh12).2 (Nat.le_of_ble_eq_true rfl) rfl rfl (Nat.le_of_ble_eq_true rfl) rfl ?_
          refine V_iconst (v := 1) (q := 98) X (TB.get tb_X9_readOther 58 rfl) c_iconst_1 rfl ?_
          cases e
          exact V_zret X hr hlk (Or.inr rfl) (TB.get tb_X9_readOther 59 rfl)
        · have e := (if_neg hc).symm.trans e
          refine V_sub (lv' := [(0, .ref a0)]) [2] rfl ?_
          exact Jj6 e
    · have e := (if_pos hc).symm.trans e
      refine V_aload_n (q := 32) X (TB.get tb_X9_readOther 18 rfl) rfl rfl rfl ?_
      refine V_iconst (v := 3) (q := 33) X (TB.get tb_X9_readOther 19 rfl) c_iconst_3 rfl ?_
      obtain ⟨p13, ep13, e⟩ := bs e
      refine V_callV (q := 36) (As := [.int (3 : Int32)]) (rest := []) (st' := [.int p13.1]) X (TB.get tb_X9_readOther 20 rfl) rfl cv_RX9_158 (ok_X9_bad a0 (3 : Int32) h p13 ep13).1 (ok_X9_bad a0 (3 : Int32) h p13 ep13).2 (Nat.le_of_ble_eq_true rfl) rfl rfl (Nat.le_of_ble_eq_true rfl) rfl ?_
      obtain ⟨z14, ez14, e⟩ := bs e
      cases e
      exact V_zretH X hr hlk ez14 (TB.get tb_X9_readOther 21 rfl)
  · have e := (if_pos hc).symm.trans e
    refine V_aload_n (q := 8) X (TB.get tb_X9_readOther 3 rfl) rfl rfl rfl ?_
    refine V_iconst (v := 2) (q := 9) X (TB.get tb_X9_readOther 4 rfl) c_iconst_2 rfl ?_
    obtain ⟨p15, ep15, e⟩ := bs e
    refine V_callV (q := 12) (As := [.int (2 : Int32)]) (rest := []) (st' := [.int p15.1]) X (TB.get tb_X9_readOther 5 rfl) rfl cv_RX9_158 (ok_X9_bad a0 (2 : Int32) h p15 ep15).1 (ok_X9_bad a0 (2 : Int32) h p15 ep15).2 (Nat.le_of_ble_eq_true rfl) rfl rfl (Nat.le_of_ble_eq_true rfl) rfl ?_
    obtain ⟨z16, ez16, e⟩ := bs e
    cases e
    exact V_zretH X hr hlk ez16 (TB.get tb_X9_readOther 6 rfl)
set_option maxRecDepth 100000 in
set_option maxHeartbeats 4000000 in
theorem ok_X9_isAsked (a0 : Int32) (h : Hp) (res : Int32) (e : MX9_isAsked a0 = some res) : CK yX9_isAsked cX9_isAsked 1 (some .boolean) 0 [.int a0] h (some (.int res)) h := by
  unfold MX9_isAsked at e
  refine CK_of pn_RX9 cm_X9_isAsked (Nat.le_of_ble_eq_true rfl) ?_
  intro l D tc B nn p en s m args below meth c X hr hlk
  replace X : CX p (rmD 0) s m args c cX9_isAsked 1 RX9 D tc 0 := X
  show V p l en (rmD 0) s m args below meth c 1 D tc B nn (Ar B nn) s.heap 0 0 (MQ below (QC D tc B nn (Ar B nn) (some (.int res)) h) args s 0 0 (Ar B nn)) h 0 [(0, .int a0)] []
  refine V_iload_n (q := 1) X (TB.get tb_X9_isAsked 0 rfl) rfl rfl rfl ?_
  refine V_bipush (v := 7) (q := 3) X (TB.get tb_X9_isAsked 1 rfl) c_bipush_7 rfl ?_
  refine jn_elim (P := (fun (k : Option (Int32)) => k = some res → V p l en (rmD 0) s m args below meth c 1 D tc B nn (Ar B nn) s.heap 0 0 (MQ below (QC D tc B nn (Ar B nn) (some (.int res)) h) args s 0 0 (Ar B nn)) h 12 [] [])) e ?_ (fun j1 Jj1 e => ?_)
  · intro e
    refine V_iconst (v := 1) (q := 13) X (TB.get tb_X9_isAsked 6 rfl) c_iconst_1 rfl ?_
    refine V_goto (q := 17) X (TB.get tb_X9_isAsked 7 rfl) rfl ?_
    cases e
    exact V_zret X hr hlk (Or.inr rfl) (TB.get tb_X9_isAsked 9 rfl)
  refine V_icmp_eq (q := 6) (t := 12) X (TB.get tb_X9_isAsked 2 rfl) rfl rfl (fun hc => ?_) (fun hc => ?_)
  · have e := (if_pos hc).symm.trans e
    refine V_sub (lv' := []) [] rfl ?_
    exact Jj1 e
  · have e := (if_neg hc).symm.trans e
    refine V_iload_n (q := 7) X (TB.get tb_X9_isAsked 3 rfl) rfl rfl rfl ?_
    refine V_bipush (v := 8) (q := 9) X (TB.get tb_X9_isAsked 4 rfl) c_bipush_8 rfl ?_
    refine V_icmp_ne (q := 12) (t := 16) X (TB.get tb_X9_isAsked 5 rfl) rfl rfl (fun hc => ?_) (fun hc => ?_)
    · have e := (if_neg hc).symm.trans e
      refine V_iconst (v := 0) (q := 17) X (TB.get tb_X9_isAsked 8 rfl) c_iconst_0 rfl ?_
      cases e
      exact V_zret X hr hlk (Or.inl rfl) (TB.get tb_X9_isAsked 9 rfl)
    · have e := (if_pos hc).symm.trans e
      refine V_sub (lv' := []) [] rfl ?_
      exact Jj1 e
set_option maxRecDepth 100000 in
set_option maxHeartbeats 4000000 in
theorem ok_X9_methodAt (a0 : Int32) (a1 : Int32) (h : Hp) (res : Int32) (e : MX9_methodAt a0 a1 = some res) : CK yX9_methodAt cX9_methodAt 2 (some .int) 0 [.int a0, .int a1] h (some (.int res)) h := by
  unfold MX9_methodAt at e
  refine CK_of pn_RX9 cm_X9_methodAt (Nat.le_of_ble_eq_true rfl) ?_
  intro l D tc B nn p en s m args below meth c X hr hlk
  replace X : CX p (rmD 0) s m args c cX9_methodAt 2 RX9 D tc 0 := X
  show V p l en (rmD 0) s m args below meth c 2 D tc B nn (Ar B nn) s.heap 0 0 (MQ below (QC D tc B nn (Ar B nn) (some (.int res)) h) args s 0 0 (Ar B nn)) h 0 [(0, .int a0), (1, .int a1)] []
  refine V_bipush (v := 6) (q := 2) X (TB.get tb_X9_methodAt 0 rfl) c_bipush_6 rfl ?_
  refine V_iload_n (q := 3) X (TB.get tb_X9_methodAt 1 rfl) rfl rfl rfl ?_
  refine V_imul (q := 4) X (TB.get tb_X9_methodAt 2 rfl) rfl ?_
  refine V_iload_n (q := 5) X (TB.get tb_X9_methodAt 3 rfl) rfl rfl rfl ?_
  refine V_iadd (q := 6) X (TB.get tb_X9_methodAt 4 rfl) rfl ?_
  cases e
  exact V_iret X hr hlk (TB.get tb_X9_methodAt 5 rfl)
set_option maxRecDepth 100000 in
set_option maxHeartbeats 4000000 in
theorem ok_X9_readMethod (fu : Nat) (a0 : Nat) (a1 : Int32) (a2 : Int32) (h : Hp) (res : Int32 × Hp) (e : MX9_readMethod fu a0 a1 a2 h = some res) : CK yX9_readMethod cX9_readMethod 5 (some .boolean) 4 [.ref a0, .int a1, .int a2] h (some (.int res.1)) res.2 ∧ (h.1 a0).1 = 9 := by
  obtain ⟨hcl, e⟩ := h_g_inv e
  refine ⟨CK_of pn_RX9 cm_X9_readMethod (Nat.le_of_ble_eq_true rfl) ?_, hcl⟩
  intro l D tc B nn p en s m args below meth c X hr hlk
  replace X : CX p (rmD 4) s m args c cX9_readMethod 5 RX9 D tc 4 := X
  show V p l en (rmD 4) s m args below meth c 5 D tc B nn (Ar B nn) s.heap 0 0 (MQ below (QC D tc B nn (Ar B nn) (some (.int res.1)) res.2) args s 0 0 (Ar B nn)) h 0 [(0, .ref a0), (1, .int a1), (2, .int a2)] []
  refine V_aload_n (q := 1) X (TB.get tb_X9_readMethod 0 rfl) rfl rfl rfl ?_
  obtain ⟨x1, ex1, e⟩ := bs e
  refine V_callV (q := 4) (As := []) (rest := []) (st' := [.int x1]) X (TB.get tb_X9_readMethod 1 rfl) rfl cv_RX9_164 (ok_X9_isName fu a0 h x1 ex1).1 (ok_X9_isName fu a0 h x1 ex1).2 (Nat.le_of_ble_eq_true rfl) rfl rfl (Nat.le_of_ble_eq_true rfl) rfl ?_
  refine V_if_ne (q := 7) (t := 13) X (TB.get tb_X9_readMethod 2 rfl) rfl rfl (fun hc => ?_) (fun hc => ?_)
  · have e := (if_neg hc).symm.trans e
    refine V_aload_n (q := 14) X (TB.get tb_X9_readMethod 7 rfl) rfl rfl rfl ?_
    obtain ⟨x2, ex2, e⟩ := bs e
    refine V_getR (q := 17) X (TB.get tb_X9_readMethod 8 rfl) rfl lf_RX9_16 ex2 ?_
    refine V_sipush (v := 327) (q := 20) X (TB.get tb_X9_readMethod 9 rfl) c_sipush_327 rfl ?_
    refine V_aload_n (q := 21) X (TB.get tb_X9_readMethod 10 rfl) rfl rfl rfl ?_
    refine V_getR (q := 24) X (TB.get tb_X9_readMethod 11 rfl) rfl lf_RX9_16 ex2 ?_
    refine V_sipush (v := 373) (q := 27) X (TB.get tb_X9_readMethod 12 rfl) c_sipush_373 rfl ?_
    refine V_iload_n (q := 28) X (TB.get tb_X9_readMethod 13 rfl) rfl rfl rfl ?_
    refine V_iadd (q := 29) X (TB.get tb_X9_readMethod 14 rfl) rfl ?_
    obtain ⟨x3, ex3, e⟩ := bs e
    refine V_iaload (q := 30) X (TB.get tb_X9_readMethod 15 rfl) rfl ex3 ?_
    refine V_iadd (q := 31) X (TB.get tb_X9_readMethod 16 rfl) rfl ?_
    obtain ⟨x4, ex4, e⟩ := bs e
    refine V_iaload (q := 32) X (TB.get tb_X9_readMethod 17 rfl) rfl ex4 ?_
    refine V_istore_n (q := 33) (lv' := [(3, .int x4), (0, .ref a0), (1, .int a1), (2, .int a2)]) X (TB.get tb_X9_readMethod 18 rfl) rfl rfl (Nat.le_of_ble_eq_true rfl) rfl ?_
    refine V_aload_n (q := 34) X (TB.get tb_X9_readMethod 19 rfl) rfl rfl rfl ?_
    refine V_bipush (v := 28) (q := 36) X (TB.get tb_X9_readMethod 20 rfl) c_bipush_28 rfl ?_
    refine V_bipush (v := 6) (q := 38) X (TB.get tb_X9_readMethod 21 rfl) c_bipush_6 rfl ?_
    refine V_iload_n (q := 39) X (TB.get tb_X9_readMethod 22 rfl) rfl rfl rfl ?_
    refine V_imul (q := 40) X (TB.get tb_X9_readMethod 23 rfl) rfl ?_
    refine V_iadd (q := 41) X (TB.get tb_X9_readMethod 24 rfl) rfl ?_
    refine V_aload_n (q := 42) X (TB.get tb_X9_readMethod 25 rfl) rfl rfl rfl ?_
    refine V_getR (q := 45) X (TB.get tb_X9_readMethod 26 rfl) rfl lf_RX9_16 ex2 ?_
    refine V_bipush (v := 11) (q := 47) X (TB.get tb_X9_readMethod 27 rfl) c_bipush_11 rfl ?_
    refine V_iload_n (q := 48) X (TB.get tb_X9_readMethod 28 rfl) rfl rfl rfl ?_
    refine V_iadd (q := 49) X (TB.get tb_X9_readMethod 29 rfl) rfl ?_
    obtain ⟨x5, ex5, e⟩ := bs e
    refine V_iaload (q := 50) X (TB.get tb_X9_readMethod 30 rfl) rfl ex5 ?_
    obtain ⟨x6, ex6, e⟩ := bs e
    refine V_callV (q := 53) (As := [.int ((28 : Int32) + ((6 : Int32) * x4)), .int x5]) (rest := []) (st' := [.int x6]) X (TB.get tb_X9_readMethod 31 rfl) rfl cv_RX9_168 (ok_X9_findIn fu a0 ((28 : Int32) + ((6 : Int32) * x4)) x5 h x6 ex6).1 (ok_X9_findIn fu a0 ((28 : Int32) + ((6 : Int32) * x4)) x5 h x6 ex6).2 (Nat.le_of_ble_eq_true rfl) rfl rfl (Nat.le_of_ble_eq_true rfl) rfl ?_
    refine V_istore (q := 55) (lv' := [(4, .int x6), (3, .int x4), (0, .ref a0), (1, .int a1), (2, .int a2)]) X (TB.get tb_X9_readMethod 32 rfl) rfl (Nat.le_of_ble_eq_true rfl) rfl ?_
    refine V_iload (q := 57) X (TB.get tb_X9_readMethod 33 rfl) rfl rfl ?_
    refine V_iconst (v := -1) (q := 58) X (TB.get tb_X9_readMethod 34 rfl) c_iconst_m1 rfl ?_
    refine V_icmp_ne (q := 61) (t := 67) X (TB.get tb_X9_readMethod 35 rfl) rfl rfl (fun hc => ?_) (fun hc => ?_)
    · have e := (if_neg hc).symm.trans e
      refine V_aload_n (q := 68) X (TB.get tb_X9_readMethod 40 rfl) rfl rfl rfl ?_
      refine V_getR (q := 71) X (TB.get tb_X9_readMethod 41 rfl) rfl lf_RX9_16 ex2 ?_
      refine V_bipush (v := 15) (q := 73) X (TB.get tb_X9_readMethod 42 rfl) c_bipush_15 rfl ?_
      refine V_iload_n (q := 74) X (TB.get tb_X9_readMethod 43 rfl) rfl rfl rfl ?_
      refine V_iload (q := 76) X (TB.get tb_X9_readMethod 44 rfl) rfl rfl ?_
      obtain ⟨x7, ex7, e⟩ := bs e
      refine V_callS (q := 79) (As := [.int x4, .int x6]) (rest := [.int (15 : Int32), .ref x2]) (st' := [.int x7, .int (15 : Int32), .ref x2]) X (TB.get tb_X9_readMethod 45 rfl) rfl cs_RX9_188 (ok_X9_methodAt x4 x6 h x7 ex7) (Nat.le_of_ble_eq_true rfl) rfl rfl (Nat.le_of_ble_eq_true rfl) rfl ?_
      refine V_iadd (q := 80) X (TB.get tb_X9_readMethod 46 rfl) rfl ?_
      obtain ⟨x8, ex8, e⟩ := bs e
      refine V_iaload (q := 81) X (TB.get tb_X9_readMethod 47 rfl) rfl ex8 ?_
      refine V_iconst (v := 1) (q := 82) X (TB.get tb_X9_readMethod 48 rfl) c_iconst_1 rfl ?_
      refine jn_elim (P := (fun (k : Int32 → Option (Int32 × Hp)) => ∀ (w9 : Int32), k w9 = some res → V p l en (rmD 4) s m args below meth c 5 D tc B nn (Ar B nn) s.heap 0 0 (MQ below (QC D tc B nn (Ar B nn) (some (.int res.1)) res.2) args s 0 0 (Ar B nn)) h 90 [(0, .ref a0), (1, .int a1), (2, .int a2), (4, .int x6)] [.int w9])) e ?_ (fun j10 Jj10 e => ?_)
      · intro w9 e
        refine V_iload_n (q := 91) X (TB.get tb_X9_readMethod 53 rfl) rfl rfl rfl ?_
        refine V_icmp_eq (q := 94) (t := 100) X (TB.get tb_X9_readMethod 54 rfl) rfl rfl (fun hc => ?_) (fun hc => ?_)
        · have e := (if_pos hc).symm.trans e
          refine V_aload_n (q := 101) X (TB.get tb_X9_readMethod 59 rfl) rfl rfl rfl ?_
          refine V_getR (q := 104) X (TB.get tb_X9_readMethod 60 rfl) rfl lf_RX9_16 ex2 ?_
          refine V_sipush (v := 453) (q := 107) X (TB.get tb_X9_readMethod 61 rfl) c_sipush_453 rfl ?_
          refine V_iload_n (q := 108) X (TB.get tb_X9_readMethod 62 rfl) rfl rfl rfl ?_
          refine V_iadd (q := 109) X (TB.get tb_X9_readMethod 63 rfl) rfl ?_
          refine V_iload (q := 111) X (TB.get tb_X9_readMethod 64 rfl) rfl rfl ?_
          obtain ⟨h11, eh11, e⟩ := bs e
          refine V_iastore (q := 112) X (TB.get tb_X9_readMethod 65 rfl) rfl eh11 ?_
          refine V_aload_n (q := 113) X (TB.get tb_X9_readMethod 66 rfl) rfl rfl rfl ?_
          obtain ⟨h12, eh12, e⟩ := bs e
          refine V_callV (q := 116) (As := []) (rest := []) (st' := []) X (TB.get tb_X9_readMethod 67 rfl) rfl cv_RX9_161 (ok_X9_go fu a0 h11 h12 eh12).1 (ok_X9_go fu a0 h11 h12 eh12).2 (Nat.le_of_ble_eq_true rfl) rfl rfl (Nat.le_of_ble_eq_true rfl) rfl ?_
          refine V_iconst (v := 1) (q := 117) X (TB.get tb_X9_readMethod 68 rfl) c_iconst_1 rfl ?_
          cases e
          exact V_zret X hr hlk (Or.inr rfl) (TB.get tb_X9_readMethod 69 rfl)
        · have e := (if_neg hc).symm.trans e
          refine V_aload_n (q := 95) X (TB.get tb_X9_readMethod 55 rfl) rfl rfl rfl ?_
          refine V_iconst (v := 5) (q := 96) X (TB.get tb_X9_readMethod 56 rfl) c_iconst_5 rfl ?_
          obtain ⟨p13, ep13, e⟩ := bs e
          refine V_callV (q := 99) (As := [.int (5 : Int32)]) (rest := []) (st' := [.int p13.1]) X (TB.get tb_X9_readMethod 57 rfl) rfl cv_RX9_158 (ok_X9_bad a0 (5 : Int32) h p13 ep13).1 (ok_X9_bad a0 (5 : Int32) h p13 ep13).2 (Nat.le_of_ble_eq_true rfl) rfl rfl (Nat.le_of_ble_eq_true rfl) rfl ?_
          obtain ⟨z14, ez14, e⟩ := bs e
          cases e
          exact V_zretH X hr hlk ez14 (TB.get tb_X9_readMethod 58 rfl)
      refine V_icmp_ne (q := 85) (t := 89) X (TB.get tb_X9_readMethod 49 rfl) rfl rfl (fun hc => ?_) (fun hc => ?_)
      · have e := (if_neg hc).symm.trans e
        refine V_iconst (v := 0) (q := 90) X (TB.get tb_X9_readMethod 52 rfl) c_iconst_0 rfl ?_
        refine V_sub (lv' := [(0, .ref a0), (1, .int a1), (2, .int a2), (4, .int x6)]) [2, 3, 4, 0] rfl ?_
        exact Jj10 _ e
      · have e := (if_pos hc).symm.trans e
        refine V_iconst (v := 1) (q := 86) X (TB.get tb_X9_readMethod 50 rfl) c_iconst_1 rfl ?_
        refine V_goto (q := 90) X (TB.get tb_X9_readMethod 51 rfl) rfl ?_
        refine V_sub (lv' := [(0, .ref a0), (1, .int a1), (2, .int a2), (4, .int x6)]) [2, 3, 4, 0] rfl ?_
        exact Jj10 _ e
    · have e := (if_pos hc).symm.trans e
      refine V_aload_n (q := 62) X (TB.get tb_X9_readMethod 36 rfl) rfl rfl rfl ?_
      refine V_iconst (v := 3) (q := 63) X (TB.get tb_X9_readMethod 37 rfl) c_iconst_3 rfl ?_
      obtain ⟨p15, ep15, e⟩ := bs e
      refine V_callV (q := 66) (As := [.int (3 : Int32)]) (rest := []) (st' := [.int p15.1]) X (TB.get tb_X9_readMethod 38 rfl) rfl cv_RX9_158 (ok_X9_bad a0 (3 : Int32) h p15 ep15).1 (ok_X9_bad a0 (3 : Int32) h p15 ep15).2 (Nat.le_of_ble_eq_true rfl) rfl rfl (Nat.le_of_ble_eq_true rfl) rfl ?_
      obtain ⟨z16, ez16, e⟩ := bs e
      cases e
      exact V_zretH X hr hlk ez16 (TB.get tb_X9_readMethod 39 rfl)
  · have e := (if_pos hc).symm.trans e
    refine V_aload_n (q := 8) X (TB.get tb_X9_readMethod 3 rfl) rfl rfl rfl ?_
    refine V_iconst (v := 2) (q := 9) X (TB.get tb_X9_readMethod 4 rfl) c_iconst_2 rfl ?_
    obtain ⟨p17, ep17, e⟩ := bs e
    refine V_callV (q := 12) (As := [.int (2 : Int32)]) (rest := []) (st' := [.int p17.1]) X (TB.get tb_X9_readMethod 5 rfl) rfl cv_RX9_158 (ok_X9_bad a0 (2 : Int32) h p17 ep17).1 (ok_X9_bad a0 (2 : Int32) h p17 ep17).2 (Nat.le_of_ble_eq_true rfl) rfl rfl (Nat.le_of_ble_eq_true rfl) rfl ?_
    obtain ⟨z18, ez18, e⟩ := bs e
    cases e
    exact V_zretH X hr hlk ez18 (TB.get tb_X9_readMethod 6 rfl)
set_option maxRecDepth 100000 in
set_option maxHeartbeats 4000000 in
theorem ok_X9_hasBlock (a0 : Int32) (h : Hp) (res : Int32) (e : MX9_hasBlock a0 = some res) : CK yX9_hasBlock cX9_hasBlock 1 (some .boolean) 0 [.int a0] h (some (.int res)) h := by
  unfold MX9_hasBlock at e
  refine CK_of pn_RX9 cm_X9_hasBlock (Nat.le_of_ble_eq_true rfl) ?_
  intro l D tc B nn p en s m args below meth c X hr hlk
  replace X : CX p (rmD 0) s m args c cX9_hasBlock 1 RX9 D tc 0 := X
  show V p l en (rmD 0) s m args below meth c 1 D tc B nn (Ar B nn) s.heap 0 0 (MQ below (QC D tc B nn (Ar B nn) (some (.int res)) h) args s 0 0 (Ar B nn)) h 0 [(0, .int a0)] []
  refine V_iload_n (q := 1) X (TB.get tb_X9_hasBlock 0 rfl) rfl rfl rfl ?_
  refine V_bipush (v := 7) (q := 3) X (TB.get tb_X9_hasBlock 1 rfl) c_bipush_7 rfl ?_
  refine V_icmp_lt (q := 6) (t := 10) X (TB.get tb_X9_hasBlock 2 rfl) rfl rfl (fun hc => ?_) (fun hc => ?_)
  · have e := (if_pos hc).symm.trans e
    refine V_iconst (v := 0) (q := 11) X (TB.get tb_X9_hasBlock 5 rfl) c_iconst_0 rfl ?_
    cases e
    exact V_zret X hr hlk (Or.inl rfl) (TB.get tb_X9_hasBlock 6 rfl)
  · have e := (if_neg hc).symm.trans e
    refine V_iconst (v := 1) (q := 7) X (TB.get tb_X9_hasBlock 3 rfl) c_iconst_1 rfl ?_
    refine V_goto (q := 11) X (TB.get tb_X9_hasBlock 4 rfl) rfl ?_
    cases e
    exact V_zret X hr hlk (Or.inr rfl) (TB.get tb_X9_hasBlock 6 rfl)
set_option maxRecDepth 100000 in
set_option maxHeartbeats 4000000 in
theorem ok_X9_readBlock (fu : Nat) (rs : Nat → Int32 → Int32 → Int32 → Hp → Option (Int32 × Hp)) (kk : Nat) (hrs : ∀ (a0 : Nat) (a1 : Int32) (a2 : Int32) (a3 : Int32) (h : Hp) (res : Int32 × Hp), rs a0 a1 a2 a3 h = some res → CK yX9_readStatement cX9_readStatement 6 (some .boolean) (6 + 2 * kk) [.ref a0, .int a1, .int a2, .int a3] h (some (.int res.1)) res.2 ∧ (h.1 a0).1 = 9) (a0 : Nat) (a1 : Int32) (a2 : Int32) (a3 : Int32) (h : Hp) (res : Int32 × Hp) (e : MX9_readBlock_R fu rs a0 a1 a2 a3 h = some res) : CK yX9_readBlock cX9_readBlock 4 (some .boolean) (1 + (6 + 2 * kk)) [.ref a0, .int a1, .int a2, .int a3] h (some (.int res.1)) res.2 ∧ (h.1 a0).1 = 9 := by
  obtain ⟨hcl, e⟩ := h_g_inv e
  refine ⟨CK_of pn_RX9 cm_X9_readBlock (Nat.le_of_ble_eq_true rfl) ?_, hcl⟩
  intro l D tc B nn p en s m args below meth c X hr hlk
  replace X : CX p (rmD (1 + (6 + 2 * kk))) s m args c cX9_readBlock 4 RX9 D tc (1 + (6 + 2 * kk)) := X
  show V p l en (rmD (1 + (6 + 2 * kk))) s m args below meth c 4 D tc B nn (Ar B nn) s.heap 0 0 (MQ below (QC D tc B nn (Ar B nn) (some (.int res.1)) res.2) args s 0 0 (Ar B nn)) h 0 [(0, .ref a0), (1, .int a1), (2, .int a2), (3, .int a3)] []
  refine V_aload_n (q := 1) X (TB.get tb_X9_readBlock 0 rfl) rfl rfl rfl ?_
  refine V_bipush (v := 123) (q := 3) X (TB.get tb_X9_readBlock 1 rfl) c_bipush_123 rfl ?_
  obtain ⟨p1, ep1, e⟩ := bs e
  refine V_callV (q := 6) (As := [.int (123 : Int32)]) (rest := []) (st' := [.int p1.1]) X (TB.get tb_X9_readBlock 2 rfl) rfl cv_RX9_179 (ok_X9_eats fu a0 (123 : Int32) h p1 ep1).1 (ok_X9_eats fu a0 (123 : Int32) h p1 ep1).2 (by omega) rfl rfl (Nat.le_of_ble_eq_true rfl) rfl ?_
  refine V_if_ne (q := 9) (t := 11) X (TB.get tb_X9_readBlock 3 rfl) rfl rfl (fun hc => ?_) (fun hc => ?_)
  · have e := (if_neg hc).symm.trans e
    refine jn_elim (P := (fun (k : Hp → Option (Int32 × Hp)) => ∀ (h2 : Hp), k h2 = some res → V p l en (rmD (1 + (6 + 2 * kk))) s m args below meth c 4 D tc B nn (Ar B nn) s.heap 0 0 (MQ below (QC D tc B nn (Ar B nn) (some (.int res.1)) res.2) args s 0 0 (Ar B nn)) h2 34 [(0, .ref a0)] [])) e ?_ (fun j3 Jj3 e => ?_)
    · intro h2 e
      refine V_aload_n (q := 35) X (TB.get tb_X9_readBlock 20 rfl) rfl rfl rfl ?_
      obtain ⟨h4, eh4, e⟩ := bs e
      refine V_callV (q := 38) (As := []) (rest := []) (st' := []) X (TB.get tb_X9_readBlock 21 rfl) rfl cv_RX9_161 (ok_X9_go fu a0 h2 h4 eh4).1 (ok_X9_go fu a0 h2 h4 eh4).2 (by omega) rfl rfl (Nat.le_of_ble_eq_true rfl) rfl ?_
      refine V_iconst (v := 1) (q := 39) X (TB.get tb_X9_readBlock 22 rfl) c_iconst_1 rfl ?_
      cases e
      exact V_zret X hr hlk (Or.inr rfl) (TB.get tb_X9_readBlock 23 rfl)
    refine wh1_elim (P := fun h5 => V p l en (rmD (1 + (6 + 2 * kk))) s m args below meth c 4 D tc B nn (Ar B nn) s.heap 0 0 (MQ below (QC D tc B nn (Ar B nn) (some (.int res.1)) res.2) args s 0 0 (Ar B nn)) h5 11 [(0, .ref a0), (1, .int a1), (2, .int a2), (3, .int a3)] []) (f := fu) ?_ e
    intro self6 h5 ihself6 e
    unfold MX9_readBlock_B11 at e
    refine V_aload_n (q := 12) X (TB.get tb_X9_readBlock 6 rfl) rfl rfl rfl ?_
    refine V_bipush (v := 125) (q := 14) X (TB.get tb_X9_readBlock 7 rfl) c_bipush_125 rfl ?_
    obtain ⟨x7, ex7, e⟩ := bs e
    refine V_callV (q := 17) (As := [.int (125 : Int32)]) (rest := []) (st' := [.int x7]) X (TB.get tb_X9_readBlock 8 rfl) rfl cv_RX9_155 (ok_X9_isSign a0 (125 : Int32) h5 x7 ex7).1 (ok_X9_isSign a0 (125 : Int32) h5 x7 ex7).2 (by omega) rfl rfl (Nat.le_of_ble_eq_true rfl) rfl ?_
    refine V_if_ne (q := 20) (t := 34) X (TB.get tb_X9_readBlock 9 rfl) rfl rfl (fun hc => ?_) (fun hc => ?_)
    · have e := (if_neg hc).symm.trans e
      refine V_sub (lv' := [(0, .ref a0)]) [0] rfl ?_
      exact Jj3 _ e
    · have e := (if_pos hc).symm.trans e
      refine V_aload_n (q := 21) X (TB.get tb_X9_readBlock 10 rfl) rfl rfl rfl ?_
      refine V_iload_n (q := 22) X (TB.get tb_X9_readBlock 11 rfl) rfl rfl rfl ?_
      refine V_iload_n (q := 23) X (TB.get tb_X9_readBlock 12 rfl) rfl rfl rfl ?_
      refine V_iload_n (q := 24) X (TB.get tb_X9_readBlock 13 rfl) rfl rfl rfl ?_
      refine V_iconst (v := 1) (q := 25) X (TB.get tb_X9_readBlock 14 rfl) c_iconst_1 rfl ?_
      refine V_iadd (q := 26) X (TB.get tb_X9_readBlock 15 rfl) rfl ?_
      obtain ⟨p8, ep8, e⟩ := bs e
      refine V_callV (q := 29) (As := [.int a1, .int a2, .int (a3 + (1 : Int32))]) (rest := []) (st' := [.int p8.1]) X (TB.get tb_X9_readBlock 16 rfl) rfl cv_RX9_233 (hrs a0 a1 a2 (a3 + (1 : Int32)) h5 p8 ep8).1 (hrs a0 a1 a2 (a3 + (1 : Int32)) h5 p8 ep8).2 (by omega) rfl rfl (Nat.le_of_ble_eq_true rfl) rfl ?_
      refine V_if_ne (q := 32) (t := 11) X (TB.get tb_X9_readBlock 17 rfl) rfl rfl (fun hc => ?_) (fun hc => ?_)
      · have e := (if_neg hc).symm.trans e
        exact ihself6 _ e
      · have e := (if_pos hc).symm.trans e
        refine V_iconst (v := 0) (q := 33) X (TB.get tb_X9_readBlock 18 rfl) c_iconst_0 rfl ?_
        cases e
        exact V_zret X hr hlk (Or.inl rfl) (TB.get tb_X9_readBlock 19 rfl)
  · have e := (if_pos hc).symm.trans e
    refine V_iconst (v := 0) (q := 10) X (TB.get tb_X9_readBlock 4 rfl) c_iconst_0 rfl ?_
    cases e
    exact V_zret X hr hlk (Or.inl rfl) (TB.get tb_X9_readBlock 5 rfl)
set_option maxRecDepth 100000 in
set_option maxHeartbeats 4000000 in
theorem okr_X9_readStatement (fu : Nat) : ∀ (kk : Nat) (a0 : Nat) (a1 : Int32) (a2 : Int32) (a3 : Int32) (h : Hp) (res : Int32 × Hp), wh5 (MX9_readStatement_R fu) kk a0 a1 a2 a3 h = some res → CK yX9_readStatement cX9_readStatement 6 (some .boolean) (6 + 2 * kk) [.ref a0, .int a1, .int a2, .int a3] h (some (.int res.1)) res.2 ∧ (h.1 a0).1 = 9 := by
  intro kk
  induction kk with
  | zero => intro a0 a1 a2 a3 h res e; cases e
  | succ kk ihr =>
    intro a0 a1 a2 a3 h res e
    obtain ⟨hcl, e⟩ := h_g_inv e
    refine ⟨CK_of pn_RX9 cm_X9_readStatement (Nat.le_of_ble_eq_true rfl) ?_, hcl⟩
    intro l D tc B nn p en s m args below meth c X hr hlk
    replace X : CX p (rmD (6 + 2 * (kk + 1))) s m args c cX9_readStatement 6 RX9 D tc (6 + 2 * (kk + 1)) := X
    show V p l en (rmD (6 + 2 * (kk + 1))) s m args below meth c 6 D tc B nn (Ar B nn) s.heap 0 0 (MQ below (QC D tc B nn (Ar B nn) (some (.int res.1)) res.2) args s 0 0 (Ar B nn)) h 0 [(0, .ref a0), (1, .int a1), (2, .int a2), (3, .int a3)] []
    refine V_aload_n (q := 1) X (TB.get tb_X9_readStatement 0 rfl) rfl rfl rfl ?_
    obtain ⟨x1, ex1, e⟩ := bs e
    refine V_callV (q := 4) (As := []) (rest := []) (st' := [.int x1]) X (TB.get tb_X9_readStatement 1 rfl) rfl cv_RX9_207 (ok_X9_isStatement fu a0 h x1 ex1).1 (ok_X9_isStatement fu a0 h x1 ex1).2 (by omega) rfl rfl (Nat.le_of_ble_eq_true rfl) rfl ?_
    refine V_if_ne (q := 7) (t := 13) X (TB.get tb_X9_readStatement 2 rfl) rfl rfl (fun hc => ?_) (fun hc => ?_)
    · have e := (if_neg hc).symm.trans e
      refine V_aload_n (q := 14) X (TB.get tb_X9_readStatement 7 rfl) rfl rfl rfl ?_
      obtain ⟨x2, ex2, e⟩ := bs e
      refine V_getR (q := 17) X (TB.get tb_X9_readStatement 8 rfl) rfl lf_RX9_16 ex2 ?_
      refine V_iconst (v := 2) (q := 18) X (TB.get tb_X9_readStatement 9 rfl) c_iconst_2 rfl ?_
      obtain ⟨x3, ex3, e⟩ := bs e
      refine V_iaload (q := 19) X (TB.get tb_X9_readStatement 10 rfl) rfl ex3 ?_
      refine V_istore (q := 21) (lv' := [(4, .int x3), (0, .ref a0), (1, .int a1), (2, .int a2), (3, .int a3)]) X (TB.get tb_X9_readStatement 11 rfl) rfl (Nat.le_of_ble_eq_true rfl) rfl ?_
      refine V_iload (q := 23) X (TB.get tb_X9_readStatement 12 rfl) rfl rfl ?_
      refine V_bipush (v := 40) (q := 25) X (TB.get tb_X9_readStatement 13 rfl) c_bipush_40 rfl ?_
      refine jn_elim (P := (fun (k : Option (Int32 × Hp)) => k = some res → V p l en (rmD (6 + 2 * (kk + 1))) s m args below meth c 6 D tc B nn (Ar B nn) s.heap 0 0 (MQ below (QC D tc B nn (Ar B nn) (some (.int res.1)) res.2) args s 0 0 (Ar B nn)) h 33 [(0, .ref a0)] [])) e ?_ (fun j4 Jj4 e => ?_)
      · intro e
        refine V_aload_n (q := 34) X (TB.get tb_X9_readStatement 18 rfl) rfl rfl rfl ?_
        refine V_bipush (v := 6) (q := 36) X (TB.get tb_X9_readStatement 19 rfl) c_bipush_6 rfl ?_
        obtain ⟨p5, ep5, e⟩ := bs e
        refine V_callV (q := 39) (As := [.int (6 : Int32)]) (rest := []) (st' := [.int p5.1]) X (TB.get tb_X9_readStatement 20 rfl) rfl cv_RX9_158 (ok_X9_bad a0 (6 : Int32) h p5 ep5).1 (ok_X9_bad a0 (6 : Int32) h p5 ep5).2 (by omega) rfl rfl (Nat.le_of_ble_eq_true rfl) rfl ?_
        obtain ⟨z6, ez6, e⟩ := bs e
        cases e
        exact V_zretH X hr hlk ez6 (TB.get tb_X9_readStatement 21 rfl)
      refine V_icmp_eq (q := 28) (t := 33) X (TB.get tb_X9_readStatement 14 rfl) rfl rfl (fun hc => ?_) (fun hc => ?_)
      · have e := (if_pos hc).symm.trans e
        refine V_sub (lv' := [(0, .ref a0)]) [1] rfl ?_
        exact Jj4 e
      · have e := (if_neg hc).symm.trans e
        refine V_iload_n (q := 29) X (TB.get tb_X9_readStatement 15 rfl) rfl rfl rfl ?_
        refine V_iconst (v := 5) (q := 30) X (TB.get tb_X9_readStatement 16 rfl) c_iconst_5 rfl ?_
        refine V_icmp_ne (q := 33) (t := 40) X (TB.get tb_X9_readStatement 17 rfl) rfl rfl (fun hc => ?_) (fun hc => ?_)
        · have e := (if_neg hc).symm.trans e
          refine V_aload_n (q := 41) X (TB.get tb_X9_readStatement 22 rfl) rfl rfl rfl ?_
          obtain ⟨x7, ex7, e⟩ := bs e
          refine V_callV (q := 44) (As := []) (rest := []) (st' := [.int x7]) X (TB.get tb_X9_readStatement 23 rfl) rfl cv_RX9_145 (ok_X9_wordHere fu a0 h x7 ex7).1 (ok_X9_wordHere fu a0 h x7 ex7).2 (by omega) rfl rfl (Nat.le_of_ble_eq_true rfl) rfl ?_
          refine V_bipush (v := 10) (q := 46) X (TB.get tb_X9_readStatement 24 rfl) c_bipush_10 rfl ?_
          refine V_isub (q := 47) X (TB.get tb_X9_readStatement 25 rfl) rfl ?_
          refine V_istore (q := 49) (lv' := [(5, .int (x7 - (10 : Int32))), (4, .int x3), (0, .ref a0), (1, .int a1), (2, .int a2), (3, .int a3)]) X (TB.get tb_X9_readStatement 26 rfl) rfl (Nat.le_of_ble_eq_true rfl) rfl ?_
          refine V_aload_n (q := 50) X (TB.get tb_X9_readStatement 27 rfl) rfl rfl rfl ?_
          refine V_getR (q := 53) X (TB.get tb_X9_readStatement 28 rfl) rfl lf_RX9_16 ex2 ?_
          refine V_iconst (v := 2) (q := 54) X (TB.get tb_X9_readStatement 29 rfl) c_iconst_2 rfl ?_
          refine V_dup2 (q := 55) X (TB.get tb_X9_readStatement 30 rfl) rfl rfl rfl ?_
          refine V_iaload (q := 56) X (TB.get tb_X9_readStatement 31 rfl) rfl ex3 ?_
          refine V_iconst (v := 1) (q := 57) X (TB.get tb_X9_readStatement 32 rfl) c_iconst_1 rfl ?_
          refine V_iadd (q := 58) X (TB.get tb_X9_readStatement 33 rfl) rfl ?_
          obtain ⟨h8, eh8, e⟩ := bs e
          refine V_iastore (q := 59) X (TB.get tb_X9_readStatement 34 rfl) rfl eh8 ?_
          refine V_aload_n (q := 60) X (TB.get tb_X9_readStatement 35 rfl) rfl rfl rfl ?_
          obtain ⟨x9, ex9, e⟩ := bs e
          refine V_getR (q := 63) X (TB.get tb_X9_readStatement 36 rfl) rfl lf_RX9_16 ex9 ?_
          refine V_sipush (v := 333) (q := 66) X (TB.get tb_X9_readStatement 37 rfl) c_sipush_333 rfl ?_
          refine V_iload (q := 68) X (TB.get tb_X9_readStatement 38 rfl) rfl rfl ?_
          refine V_iadd (q := 69) X (TB.get tb_X9_readStatement 39 rfl) rfl ?_
          refine V_iload (q := 71) X (TB.get tb_X9_readStatement 40 rfl) rfl rfl ?_
          obtain ⟨h10, eh10, e⟩ := bs e
          refine V_iastore (q := 72) X (TB.get tb_X9_readStatement 41 rfl) rfl eh10 ?_
          refine V_aload_n (q := 73) X (TB.get tb_X9_readStatement 42 rfl) rfl rfl rfl ?_
          obtain ⟨x11, ex11, e⟩ := bs e
          refine V_getR (q := 76) X (TB.get tb_X9_readStatement 43 rfl) rfl lf_RX9_16 ex11 ?_
          refine V_sipush (v := 373) (q := 79) X (TB.get tb_X9_readStatement 44 rfl) c_sipush_373 rfl ?_
          refine V_iload (q := 81) X (TB.get tb_X9_readStatement 45 rfl) rfl rfl ?_
          refine V_iadd (q := 82) X (TB.get tb_X9_readStatement 46 rfl) rfl ?_
          refine V_iconst (v := -1) (q := 83) X (TB.get tb_X9_readStatement 47 rfl) c_iconst_m1 rfl ?_
          obtain ⟨h12, eh12, e⟩ := bs e
          refine V_iastore (q := 84) X (TB.get tb_X9_readStatement 48 rfl) rfl eh12 ?_
          refine V_aload_n (q := 85) X (TB.get tb_X9_readStatement 49 rfl) rfl rfl rfl ?_
          obtain ⟨x13, ex13, e⟩ := bs e
          refine V_getR (q := 88) X (TB.get tb_X9_readStatement 50 rfl) rfl lf_RX9_16 ex13 ?_
          refine V_sipush (v := 413) (q := 91) X (TB.get tb_X9_readStatement 51 rfl) c_sipush_413 rfl ?_
          refine V_iload (q := 93) X (TB.get tb_X9_readStatement 52 rfl) rfl rfl ?_
          refine V_iadd (q := 94) X (TB.get tb_X9_readStatement 53 rfl) rfl ?_
          refine V_iconst (v := -1) (q := 95) X (TB.get tb_X9_readStatement 54 rfl) c_iconst_m1 rfl ?_
          obtain ⟨h14, eh14, e⟩ := bs e
          refine V_iastore (q := 96) X (TB.get tb_X9_readStatement 55 rfl) rfl eh14 ?_
          refine V_aload_n (q := 97) X (TB.get tb_X9_readStatement 56 rfl) rfl rfl rfl ?_
          obtain ⟨x15, ex15, e⟩ := bs e
          refine V_getR (q := 100) X (TB.get tb_X9_readStatement 57 rfl) rfl lf_RX9_16 ex15 ?_
          refine V_sipush (v := 453) (q := 103) X (TB.get tb_X9_readStatement 58 rfl) c_sipush_453 rfl ?_
          refine V_iload (q := 105) X (TB.get tb_X9_readStatement 59 rfl) rfl rfl ?_
          refine V_iadd (q := 106) X (TB.get tb_X9_readStatement 60 rfl) rfl ?_
          refine V_iconst (v := -1) (q := 107) X (TB.get tb_X9_readStatement 61 rfl) c_iconst_m1 rfl ?_
          obtain ⟨h16, eh16, e⟩ := bs e
          refine V_iastore (q := 108) X (TB.get tb_X9_readStatement 62 rfl) rfl eh16 ?_
          refine V_aload_n (q := 109) X (TB.get tb_X9_readStatement 63 rfl) rfl rfl rfl ?_
          obtain ⟨x17, ex17, e⟩ := bs e
          refine V_getR (q := 112) X (TB.get tb_X9_readStatement 64 rfl) rfl lf_RX9_16 ex17 ?_
          refine V_sipush (v := 493) (q := 115) X (TB.get tb_X9_readStatement 65 rfl) c_sipush_493 rfl ?_
          refine V_iload (q := 117) X (TB.get tb_X9_readStatement 66 rfl) rfl rfl ?_
          refine V_iadd (q := 118) X (TB.get tb_X9_readStatement 67 rfl) rfl ?_
          refine V_iload_n (q := 119) X (TB.get tb_X9_readStatement 68 rfl) rfl rfl rfl ?_
          obtain ⟨h18, eh18, e⟩ := bs e
          refine V_iastore (q := 120) X (TB.get tb_X9_readStatement 69 rfl) rfl eh18 ?_
          refine V_aload_n (q := 121) X (TB.get tb_X9_readStatement 70 rfl) rfl rfl rfl ?_
          obtain ⟨x19, ex19, e⟩ := bs e
          refine V_getR (q := 124) X (TB.get tb_X9_readStatement 71 rfl) rfl lf_RX9_16 ex19 ?_
          refine V_sipush (v := 533) (q := 127) X (TB.get tb_X9_readStatement 72 rfl) c_sipush_533 rfl ?_
          refine V_iload (q := 129) X (TB.get tb_X9_readStatement 73 rfl) rfl rfl ?_
          refine V_iadd (q := 130) X (TB.get tb_X9_readStatement 74 rfl) rfl ?_
          refine V_iload_n (q := 131) X (TB.get tb_X9_readStatement 75 rfl) rfl rfl rfl ?_
          obtain ⟨h20, eh20, e⟩ := bs e
          refine V_iastore (q := 132) X (TB.get tb_X9_readStatement 76 rfl) rfl eh20 ?_
          refine V_aload_n (q := 133) X (TB.get tb_X9_readStatement 77 rfl) rfl rfl rfl ?_
          obtain ⟨h21, eh21, e⟩ := bs e
          refine V_callV (q := 136) (As := []) (rest := []) (st' := []) X (TB.get tb_X9_readStatement 78 rfl) rfl cv_RX9_161 (ok_X9_go fu a0 h20 h21 eh21).1 (ok_X9_go fu a0 h20 h21 eh21).2 (by omega) rfl rfl (Nat.le_of_ble_eq_true rfl) rfl ?_
          refine V_iload (q := 138) X (TB.get tb_X9_readStatement 79 rfl) rfl rfl ?_
          refine V_bipush (v := 9) (q := 140) X (TB.get tb_X9_readStatement 80 rfl) c_bipush_9 rfl ?_
          refine jn_elim (P := (fun (k : Hp → Option (Int32 × Hp)) => ∀ (h22 : Hp), k h22 = some res → V p l en (rmD (6 + 2 * (kk + 1))) s m args below meth c 6 D tc B nn (Ar B nn) s.heap 0 0 (MQ below (QC D tc B nn (Ar B nn) (some (.int res.1)) res.2) args s 0 0 (Ar B nn)) h22 167 [(0, .ref a0), (3, .int a3), (4, .int x3), (5, .int (x7 - (10 : Int32)))] [])) e ?_ (fun j23 Jj23 e => ?_)
          · intro h22 e
            refine V_iload (q := 169) X (TB.get tb_X9_readStatement 95 rfl) rfl rfl ?_
            obtain ⟨x24, ex24, e⟩ := bs e
            refine V_callS (q := 172) (As := [.int (x7 - (10 : Int32))]) (rest := []) (st' := [.int x24]) X (TB.get tb_X9_readStatement 96 rfl) rfl cs_RX9_213 (ok_X9_isTwo (x7 - (10 : Int32)) h22 x24 ex24) (by omega) rfl rfl (Nat.le_of_ble_eq_true rfl) rfl ?_
            refine jn_elim (P := (fun (k : Hp → Option (Int32 × Hp)) => ∀ (h25 : Hp), k h25 = some res → V p l en (rmD (6 + 2 * (kk + 1))) s m args below meth c 6 D tc B nn (Ar B nn) s.heap 0 0 (MQ below (QC D tc B nn (Ar B nn) (some (.int res.1)) res.2) args s 0 0 (Ar B nn)) h25 186 [(0, .ref a0), (3, .int a3), (4, .int x3), (5, .int (x7 - (10 : Int32)))] [])) e ?_ (fun j26 Jj26 e => ?_)
            · intro h25 e
              refine V_iload (q := 188) X (TB.get tb_X9_readStatement 104 rfl) rfl rfl ?_
              refine V_bipush (v := 6) (q := 190) X (TB.get tb_X9_readStatement 105 rfl) c_bipush_6 rfl ?_
              refine jn_elim (P := (fun (k : Hp → Option (Int32 × Hp)) => ∀ (h27 : Hp), k h27 = some res → V p l en (rmD (6 + 2 * (kk + 1))) s m args below meth c 6 D tc B nn (Ar B nn) s.heap 0 0 (MQ below (QC D tc B nn (Ar B nn) (some (.int res.1)) res.2) args s 0 0 (Ar B nn)) h27 216 [(0, .ref a0), (3, .int a3), (4, .int x3), (5, .int (x7 - (10 : Int32)))] [])) e ?_ (fun j28 Jj28 e => ?_)
              · intro h27 e
                refine V_iload (q := 218) X (TB.get tb_X9_readStatement 118 rfl) rfl rfl ?_
                obtain ⟨x29, ex29, e⟩ := bs e
                refine V_callS (q := 221) (As := [.int (x7 - (10 : Int32))]) (rest := []) (st' := [.int x29]) X (TB.get tb_X9_readStatement 119 rfl) rfl cs_RX9_226 (ok_X9_hasBlock (x7 - (10 : Int32)) h27 x29 ex29) (by omega) rfl rfl (Nat.le_of_ble_eq_true rfl) rfl ?_
                refine V_if_ne (q := 224) (t := 231) X (TB.get tb_X9_readStatement 120 rfl) rfl rfl (fun hc => ?_) (fun hc => ?_)
                · have e := (if_neg hc).symm.trans e
                  refine V_aload_n (q := 232) X (TB.get tb_X9_readStatement 125 rfl) rfl rfl rfl ?_
                  refine V_iload (q := 234) X (TB.get tb_X9_readStatement 126 rfl) rfl rfl ?_
                  refine V_iconst (v := 0) (q := 235) X (TB.get tb_X9_readStatement 127 rfl) c_iconst_0 rfl ?_
                  refine V_iload_n (q := 236) X (TB.get tb_X9_readStatement 128 rfl) rfl rfl rfl ?_
                  obtain ⟨p30, ep30, e⟩ := bs e
                  refine V_callV (q := 239) (As := [.int x3, .int (0 : Int32), .int a3]) (rest := []) (st' := [.int p30.1]) X (TB.get tb_X9_readStatement 129 rfl) rfl cv_RX9_229 (ok_X9_readBlock fu _ kk ihr a0 x3 (0 : Int32) a3 h27 p30 ep30).1 (ok_X9_readBlock fu _ kk ihr a0 x3 (0 : Int32) a3 h27 p30 ep30).2 (by omega) rfl rfl (Nat.le_of_ble_eq_true rfl) rfl ?_
                  refine V_if_ne (q := 242) (t := 244) X (TB.get tb_X9_readStatement 130 rfl) rfl rfl (fun hc => ?_) (fun hc => ?_)
                  · have e := (if_neg hc).symm.trans e
                    refine V_iload (q := 246) X (TB.get tb_X9_readStatement 133 rfl) rfl rfl ?_
                    refine V_bipush (v := 7) (q := 248) X (TB.get tb_X9_readStatement 134 rfl) c_bipush_7 rfl ?_
                    refine jn_elim (P := (fun (k : Option (Int32 × Hp)) => k = some res → V p l en (rmD (6 + 2 * (kk + 1))) s m args below meth c 6 D tc B nn (Ar B nn) s.heap 0 0 (MQ below (QC D tc B nn (Ar B nn) (some (.int res.1)) res.2) args s 0 0 (Ar B nn)) p30.2 258 [(0, .ref a0), (3, .int a3), (4, .int x3)] [])) e ?_ (fun j31 Jj31 e => ?_)
                    · intro e
                      refine V_aload_n (q := 259) X (TB.get tb_X9_readStatement 139 rfl) rfl rfl rfl ?_
                      obtain ⟨x32, ex32, e⟩ := bs e
                      refine V_callV (q := 262) (As := []) (rest := []) (st' := [.int x32]) X (TB.get tb_X9_readStatement 140 rfl) rfl cv_RX9_145 (ok_X9_wordHere fu a0 p30.2 x32 ex32).1 (ok_X9_wordHere fu a0 p30.2 x32 ex32).2 (by omega) rfl rfl (Nat.le_of_ble_eq_true rfl) rfl ?_
                      refine V_bipush (v := 21) (q := 264) X (TB.get tb_X9_readStatement 141 rfl) c_bipush_21 rfl ?_
                      refine V_icmp_eq (q := 267) (t := 269) X (TB.get tb_X9_readStatement 142 rfl) rfl rfl (fun hc => ?_) (fun hc => ?_)
                      · have e := (if_pos hc).symm.trans e
                        refine V_aload_n (q := 270) X (TB.get tb_X9_readStatement 145 rfl) rfl rfl rfl ?_
                        obtain ⟨h33, eh33, e⟩ := bs e
                        refine V_callV (q := 273) (As := []) (rest := []) (st' := []) X (TB.get tb_X9_readStatement 146 rfl) rfl cv_RX9_161 (ok_X9_go fu a0 p30.2 h33 eh33).1 (ok_X9_go fu a0 p30.2 h33 eh33).2 (by omega) rfl rfl (Nat.le_of_ble_eq_true rfl) rfl ?_
                        refine V_aload_n (q := 274) X (TB.get tb_X9_readStatement 147 rfl) rfl rfl rfl ?_
                        refine V_iload (q := 276) X (TB.get tb_X9_readStatement 148 rfl) rfl rfl ?_
                        refine V_iconst (v := 1) (q := 277) X (TB.get tb_X9_readStatement 149 rfl) c_iconst_1 rfl ?_
                        refine V_iload_n (q := 278) X (TB.get tb_X9_readStatement 150 rfl) rfl rfl rfl ?_
                        obtain ⟨p34, ep34, e⟩ := bs e
                        refine V_callV (q := 281) (As := [.int x3, .int (1 : Int32), .int a3]) (rest := []) (st' := [.int p34.1]) X (TB.get tb_X9_readStatement 151 rfl) rfl cv_RX9_229 (ok_X9_readBlock fu _ kk ihr a0 x3 (1 : Int32) a3 h33 p34 ep34).1 (ok_X9_readBlock fu _ kk ihr a0 x3 (1 : Int32) a3 h33 p34 ep34).2 (by omega) rfl rfl (Nat.le_of_ble_eq_true rfl) rfl ?_
                        obtain ⟨z35, ez35, e⟩ := bs e
                        cases e
                        exact V_zretH X hr hlk ez35 (TB.get tb_X9_readStatement 152 rfl)
                      · have e := (if_neg hc).symm.trans e
                        refine V_iconst (v := 1) (q := 268) X (TB.get tb_X9_readStatement 143 rfl) c_iconst_1 rfl ?_
                        cases e
                        exact V_zret X hr hlk (Or.inr rfl) (TB.get tb_X9_readStatement 144 rfl)
                    refine V_icmp_eq (q := 251) (t := 258) X (TB.get tb_X9_readStatement 135 rfl) rfl rfl (fun hc => ?_) (fun hc => ?_)
                    · have e := (if_pos hc).symm.trans e
                      refine V_sub (lv' := [(0, .ref a0), (3, .int a3), (4, .int x3)]) [0, 1, 2] rfl ?_
                      exact Jj31 e
                    · have e := (if_neg hc).symm.trans e
                      refine V_iload (q := 253) X (TB.get tb_X9_readStatement 136 rfl) rfl rfl ?_
                      refine V_bipush (v := 9) (q := 255) X (TB.get tb_X9_readStatement 137 rfl) c_bipush_9 rfl ?_
                      refine V_icmp_ne (q := 258) (t := 267) X (TB.get tb_X9_readStatement 138 rfl) rfl rfl (fun hc => ?_) (fun hc => ?_)
                      · have e := (if_neg hc).symm.trans e
                        refine V_iconst (v := 1) (q := 268) X (TB.get tb_X9_readStatement 143 rfl) c_iconst_1 rfl ?_
                        cases e
                        exact V_zret X hr hlk (Or.inr rfl) (TB.get tb_X9_readStatement 144 rfl)
                      · have e := (if_pos hc).symm.trans e
                        refine V_sub (lv' := [(0, .ref a0), (3, .int a3), (4, .int x3)]) [0, 1, 2] rfl ?_
                        exact Jj31 e
                  · have e := (if_pos hc).symm.trans e
                    refine V_iconst (v := 0) (q := 243) X (TB.get tb_X9_readStatement 131 rfl) c_iconst_0 rfl ?_
                    cases e
                    exact V_zret X hr hlk (Or.inl rfl) (TB.get tb_X9_readStatement 132 rfl)
                · have e := (if_pos hc).symm.trans e
                  refine V_aload_n (q := 225) X (TB.get tb_X9_readStatement 121 rfl) rfl rfl rfl ?_
                  refine V_bipush (v := 59) (q := 227) X (TB.get tb_X9_readStatement 122 rfl) c_bipush_59 rfl ?_
                  obtain ⟨p36, ep36, e⟩ := bs e
                  refine V_callV (q := 230) (As := [.int (59 : Int32)]) (rest := []) (st' := [.int p36.1]) X (TB.get tb_X9_readStatement 123 rfl) rfl cv_RX9_179 (ok_X9_eats fu a0 (59 : Int32) h27 p36 ep36).1 (ok_X9_eats fu a0 (59 : Int32) h27 p36 ep36).2 (by omega) rfl rfl (Nat.le_of_ble_eq_true rfl) rfl ?_
                  obtain ⟨z37, ez37, e⟩ := bs e
                  cases e
                  exact V_zretH X hr hlk ez37 (TB.get tb_X9_readStatement 124 rfl)
              refine V_icmp_lt (q := 193) (t := 216) X (TB.get tb_X9_readStatement 106 rfl) rfl rfl (fun hc => ?_) (fun hc => ?_)
              · have e := (if_pos hc).symm.trans e
                exact Jj28 _ e
              · have e := (if_neg hc).symm.trans e
                refine V_iload (q := 195) X (TB.get tb_X9_readStatement 107 rfl) rfl rfl ?_
                refine V_bipush (v := 8) (q := 197) X (TB.get tb_X9_readStatement 108 rfl) c_bipush_8 rfl ?_
                refine V_icmp_gt (q := 200) (t := 216) X (TB.get tb_X9_readStatement 109 rfl) rfl rfl (fun hc => ?_) (fun hc => ?_)
                · have e := (if_pos hc).symm.trans e
                  exact Jj28 _ e
                · have e := (if_neg hc).symm.trans e
                  refine V_aload_n (q := 201) X (TB.get tb_X9_readStatement 110 rfl) rfl rfl rfl ?_
                  refine V_iload (q := 203) X (TB.get tb_X9_readStatement 111 rfl) rfl rfl ?_
                  refine V_iload (q := 205) X (TB.get tb_X9_readStatement 112 rfl) rfl rfl ?_
                  obtain ⟨x38, ex38, e⟩ := bs e
                  refine V_callS (q := 208) (As := [.int (x7 - (10 : Int32))]) (rest := [.int x3, .ref a0]) (st' := [.int x38, .int x3, .ref a0]) X (TB.get tb_X9_readStatement 113 rfl) rfl cs_RX9_219 (ok_X9_isAsked (x7 - (10 : Int32)) h25 x38 ex38) (by omega) rfl rfl (Nat.le_of_ble_eq_true rfl) rfl ?_
                  obtain ⟨p39, ep39, e⟩ := bs e
                  refine V_callV (q := 211) (As := [.int x3, .int x38]) (rest := []) (st' := [.int p39.1]) X (TB.get tb_X9_readStatement 114 rfl) rfl cv_RX9_222 (ok_X9_readMethod fu a0 x3 x38 h25 p39 ep39).1 (ok_X9_readMethod fu a0 x3 x38 h25 p39 ep39).2 (by omega) rfl rfl (Nat.le_of_ble_eq_true rfl) rfl ?_
                  refine V_if_ne (q := 214) (t := 216) X (TB.get tb_X9_readStatement 115 rfl) rfl rfl (fun hc => ?_) (fun hc => ?_)
                  · have e := (if_neg hc).symm.trans e
                    exact Jj28 _ e
                  · have e := (if_pos hc).symm.trans e
                    refine V_iconst (v := 0) (q := 215) X (TB.get tb_X9_readStatement 116 rfl) c_iconst_0 rfl ?_
                    cases e
                    exact V_zret X hr hlk (Or.inl rfl) (TB.get tb_X9_readStatement 117 rfl)
            refine V_if_eq (q := 175) (t := 186) X (TB.get tb_X9_readStatement 97 rfl) rfl rfl (fun hc => ?_) (fun hc => ?_)
            · have e := (if_pos hc).symm.trans e
              exact Jj26 _ e
            · have e := (if_neg hc).symm.trans e
              refine V_aload_n (q := 176) X (TB.get tb_X9_readStatement 98 rfl) rfl rfl rfl ?_
              refine V_iload (q := 178) X (TB.get tb_X9_readStatement 99 rfl) rfl rfl ?_
              obtain ⟨p40, ep40, e⟩ := bs e
              refine V_callV (q := 181) (As := [.int x3]) (rest := []) (st' := [.int p40.1]) X (TB.get tb_X9_readStatement 100 rfl) rfl cv_RX9_216 (ok_X9_readOther fu a0 x3 h22 p40 ep40).1 (ok_X9_readOther fu a0 x3 h22 p40 ep40).2 (by omega) rfl rfl (Nat.le_of_ble_eq_true rfl) rfl ?_
              refine V_if_ne (q := 184) (t := 186) X (TB.get tb_X9_readStatement 101 rfl) rfl rfl (fun hc => ?_) (fun hc => ?_)
              · have e := (if_neg hc).symm.trans e
                exact Jj26 _ e
              · have e := (if_pos hc).symm.trans e
                refine V_iconst (v := 0) (q := 185) X (TB.get tb_X9_readStatement 102 rfl) c_iconst_0 rfl ?_
                cases e
                exact V_zret X hr hlk (Or.inl rfl) (TB.get tb_X9_readStatement 103 rfl)
          refine V_icmp_ge (q := 143) (t := 167) X (TB.get tb_X9_readStatement 81 rfl) rfl rfl (fun hc => ?_) (fun hc => ?_)
          · have e := (if_pos hc).symm.trans e
            refine V_sub (lv' := [(0, .ref a0), (3, .int a3), (4, .int x3), (5, .int (x7 - (10 : Int32)))]) [2, 5, 1, 0] rfl ?_
            exact Jj23 _ e
          · have e := (if_neg hc).symm.trans e
            refine V_aload_n (q := 144) X (TB.get tb_X9_readStatement 82 rfl) rfl rfl rfl ?_
            obtain ⟨p41, ep41, e⟩ := bs e
            refine V_callV (q := 147) (As := []) (rest := []) (st' := [.int p41.1]) X (TB.get tb_X9_readStatement 83 rfl) rfl cv_RX9_210 (ok_X9_readVariable fu a0 h21 p41 ep41).1 (ok_X9_readVariable fu a0 h21 p41 ep41).2 (by omega) rfl rfl (Nat.le_of_ble_eq_true rfl) rfl ?_
            refine V_if_ne (q := 150) (t := 152) X (TB.get tb_X9_readStatement 84 rfl) rfl rfl (fun hc => ?_) (fun hc => ?_)
            · have e := (if_neg hc).symm.trans e
              refine V_aload_n (q := 153) X (TB.get tb_X9_readStatement 87 rfl) rfl rfl rfl ?_
              obtain ⟨x42, ex42, e⟩ := bs e
              refine V_getR (q := 156) X (TB.get tb_X9_readStatement 88 rfl) rfl lf_RX9_16 ex42 ?_
              refine V_sipush (v := 373) (q := 159) X (TB.get tb_X9_readStatement 89 rfl) c_sipush_373 rfl ?_
              refine V_iload (q := 161) X (TB.get tb_X9_readStatement 90 rfl) rfl rfl ?_
              refine V_iadd (q := 162) X (TB.get tb_X9_readStatement 91 rfl) rfl ?_
              refine V_aload_n (q := 163) X (TB.get tb_X9_readStatement 92 rfl) rfl rfl rfl ?_
              obtain ⟨x43, ex43, e⟩ := bs e
              refine V_getI (q := 166) X (TB.get tb_X9_readStatement 93 rfl) rfl lf_RX9_172 ex43 ?_
              obtain ⟨h44, eh44, e⟩ := bs e
              refine V_iastore (q := 167) X (TB.get tb_X9_readStatement 94 rfl) rfl eh44 ?_
              refine V_sub (lv' := [(0, .ref a0), (3, .int a3), (4, .int x3), (5, .int (x7 - (10 : Int32)))]) [2, 5, 1, 0] rfl ?_
              exact Jj23 _ e
            · have e := (if_pos hc).symm.trans e
              refine V_iconst (v := 0) (q := 151) X (TB.get tb_X9_readStatement 85 rfl) c_iconst_0 rfl ?_
              cases e
              exact V_zret X hr hlk (Or.inl rfl) (TB.get tb_X9_readStatement 86 rfl)
        · have e := (if_pos hc).symm.trans e
          refine V_sub (lv' := [(0, .ref a0)]) [1] rfl ?_
          exact Jj4 e
    · have e := (if_pos hc).symm.trans e
      refine V_aload_n (q := 8) X (TB.get tb_X9_readStatement 3 rfl) rfl rfl rfl ?_
      refine V_iconst (v := 2) (q := 9) X (TB.get tb_X9_readStatement 4 rfl) c_iconst_2 rfl ?_
      obtain ⟨p45, ep45, e⟩ := bs e
      refine V_callV (q := 12) (As := [.int (2 : Int32)]) (rest := []) (st' := [.int p45.1]) X (TB.get tb_X9_readStatement 5 rfl) rfl cv_RX9_158 (ok_X9_bad a0 (2 : Int32) h p45 ep45).1 (ok_X9_bad a0 (2 : Int32) h p45 ep45).2 (by omega) rfl rfl (Nat.le_of_ble_eq_true rfl) rfl ?_
      obtain ⟨z46, ez46, e⟩ := bs e
      cases e
      exact V_zretH X hr hlk ez46 (TB.get tb_X9_readStatement 6 rfl)
theorem ok_X9_readStatement (fu : Nat) (a0 : Nat) (a1 : Int32) (a2 : Int32) (a3 : Int32) (h : Hp) (res : Int32 × Hp) (e : MX9_readStatement fu a0 a1 a2 a3 h = some res) : CK yX9_readStatement cX9_readStatement 6 (some .boolean) 20 [.ref a0, .int a1, .int a2, .int a3] h (some (.int res.1)) res.2 ∧ (h.1 a0).1 = 9 := okr_X9_readStatement fu 7 a0 a1 a2 a3 h res e
set_option maxRecDepth 100000 in
set_option maxHeartbeats 4000000 in
theorem ok_X9_status (a0 : Nat) (h : Hp) (res : Int32) (e : MX9_status a0 h = some res) : CK yX9_status cX9_status 1 (some .int) 0 [.ref a0] h (some (.int res)) h ∧ (h.1 a0).1 = 9 := by
  obtain ⟨hcl, e⟩ := h_g_inv e
  refine ⟨CK_of pn_RX9 cm_X9_status (Nat.le_of_ble_eq_true rfl) ?_, hcl⟩
  intro l D tc B nn p en s m args below meth c X hr hlk
  replace X : CX p (rmD 0) s m args c cX9_status 1 RX9 D tc 0 := X
  show V p l en (rmD 0) s m args below meth c 1 D tc B nn (Ar B nn) s.heap 0 0 (MQ below (QC D tc B nn (Ar B nn) (some (.int res)) h) args s 0 0 (Ar B nn)) h 0 [(0, .ref a0)] []
  refine V_aload_n (q := 1) X (TB.get tb_X9_status 0 rfl) rfl rfl rfl ?_
  obtain ⟨x1, ex1, e⟩ := bs e
  refine V_getI (q := 4) X (TB.get tb_X9_status 1 rfl) rfl lf_RX9_94 ex1 ?_
  cases e
  exact V_iret X hr hlk (TB.get tb_X9_status 2 rfl)
set_option maxRecDepth 100000 in
set_option maxHeartbeats 4000000 in
theorem ok_X9_refuse (a0 : Nat) (a1 : Int32) (h : Hp) (res : Int32 × Hp) (e : MX9_refuse a0 a1 h = some res) : CK yX9_refuse cX9_refuse 2 (some .int) 0 [.ref a0, .int a1] h (some (.int res.1)) res.2 ∧ (h.1 a0).1 = 9 := by
  obtain ⟨hcl, e⟩ := h_g_inv e
  refine ⟨CK_of pn_RX9 cm_X9_refuse (Nat.le_of_ble_eq_true rfl) ?_, hcl⟩
  intro l D tc B nn p en s m args below meth c X hr hlk
  replace X : CX p (rmD 0) s m args c cX9_refuse 2 RX9 D tc 0 := X
  show V p l en (rmD 0) s m args below meth c 2 D tc B nn (Ar B nn) s.heap 0 0 (MQ below (QC D tc B nn (Ar B nn) (some (.int res.1)) res.2) args s 0 0 (Ar B nn)) h 0 [(0, .ref a0), (1, .int a1)] []
  refine V_aload_n (q := 1) X (TB.get tb_X9_refuse 0 rfl) rfl rfl rfl ?_
  refine V_iload_n (q := 2) X (TB.get tb_X9_refuse 1 rfl) rfl rfl rfl ?_
  obtain ⟨h1, eh1, e⟩ := bs e
  refine V_putI (q := 5) X (TB.get tb_X9_refuse 2 rfl) rfl lq_RX9_94 eh1 ?_
  refine V_iconst (v := -1) (q := 6) X (TB.get tb_X9_refuse 3 rfl) c_iconst_m1 rfl ?_
  cases e
  exact V_iret X hr hlk (TB.get tb_X9_refuse 4 rfl)
set_option maxRecDepth 100000 in
set_option maxHeartbeats 4000000 in
theorem ok_X9_gives (a0 : Nat) (a1 : Int32) (h : Hp) (res : Int32 × Hp) (e : MX9_gives a0 a1 h = some res) : CK yX9_gives cX9_gives 2 (some .int) 0 [.ref a0, .int a1] h (some (.int res.1)) res.2 ∧ (h.1 a0).1 = 9 := by
  obtain ⟨hcl, e⟩ := h_g_inv e
  refine ⟨CK_of pn_RX9 cm_X9_gives (Nat.le_of_ble_eq_true rfl) ?_, hcl⟩
  intro l D tc B nn p en s m args below meth c X hr hlk
  replace X : CX p (rmD 0) s m args c cX9_gives 2 RX9 D tc 0 := X
  show V p l en (rmD 0) s m args below meth c 2 D tc B nn (Ar B nn) s.heap 0 0 (MQ below (QC D tc B nn (Ar B nn) (some (.int res.1)) res.2) args s 0 0 (Ar B nn)) h 0 [(0, .ref a0), (1, .int a1)] []
  refine V_aload_n (q := 1) X (TB.get tb_X9_gives 0 rfl) rfl rfl rfl ?_
  refine V_iconst (v := 0) (q := 2) X (TB.get tb_X9_gives 1 rfl) c_iconst_0 rfl ?_
  obtain ⟨h1, eh1, e⟩ := bs e
  refine V_putI (q := 5) X (TB.get tb_X9_gives 2 rfl) rfl lq_RX9_94 eh1 ?_
  refine V_iload_n (q := 6) X (TB.get tb_X9_gives 3 rfl) rfl rfl rfl ?_
  cases e
  exact V_iret X hr hlk (TB.get tb_X9_gives 4 rfl)
set_option maxRecDepth 100000 in
set_option maxHeartbeats 4000000 in
theorem ok_X9_isFrom (a0 : Int32) (a1 : Int32) (a2 : Int32) (h : Hp) (res : Int32) (e : MX9_isFrom a0 a1 a2 = some res) : CK yX9_isFrom cX9_isFrom 3 (some .boolean) 0 [.int a0, .int a1, .int a2] h (some (.int res)) h := by
  unfold MX9_isFrom at e
  refine CK_of pn_RX9 cm_X9_isFrom (Nat.le_of_ble_eq_true rfl) ?_
  intro l D tc B nn p en s m args below meth c X hr hlk
  replace X : CX p (rmD 0) s m args c cX9_isFrom 3 RX9 D tc 0 := X
  show V p l en (rmD 0) s m args below meth c 3 D tc B nn (Ar B nn) s.heap 0 0 (MQ below (QC D tc B nn (Ar B nn) (some (.int res)) h) args s 0 0 (Ar B nn)) h 0 [(0, .int a0), (1, .int a1), (2, .int a2)] []
  refine V_iload_n (q := 1) X (TB.get tb_X9_isFrom 0 rfl) rfl rfl rfl ?_
  refine V_iload_n (q := 2) X (TB.get tb_X9_isFrom 1 rfl) rfl rfl rfl ?_
  refine jn_elim (P := (fun (k : Option (Int32)) => k = some res → V p l en (rmD 0) s m args below meth c 3 D tc B nn (Ar B nn) s.heap 0 0 (MQ below (QC D tc B nn (Ar B nn) (some (.int res)) h) args s 0 0 (Ar B nn)) h 14 [] [])) e ?_ (fun j1 Jj1 e => ?_)
  · intro e
    refine V_iconst (v := 0) (q := 15) X (TB.get tb_X9_isFrom 8 rfl) c_iconst_0 rfl ?_
    cases e
    exact V_zret X hr hlk (Or.inl rfl) (TB.get tb_X9_isFrom 9 rfl)
  refine V_icmp_lt (q := 5) (t := 14) X (TB.get tb_X9_isFrom 2 rfl) rfl rfl (fun hc => ?_) (fun hc => ?_)
  · have e := (if_pos hc).symm.trans e
    refine V_sub (lv' := []) [] rfl ?_
    exact Jj1 e
  · have e := (if_neg hc).symm.trans e
    refine V_iload_n (q := 6) X (TB.get tb_X9_isFrom 3 rfl) rfl rfl rfl ?_
    refine V_iload_n (q := 7) X (TB.get tb_X9_isFrom 4 rfl) rfl rfl rfl ?_
    refine V_icmp_gt (q := 10) (t := 14) X (TB.get tb_X9_isFrom 5 rfl) rfl rfl (fun hc => ?_) (fun hc => ?_)
    · have e := (if_pos hc).symm.trans e
      refine V_sub (lv' := []) [] rfl ?_
      exact Jj1 e
    · have e := (if_neg hc).symm.trans e
      refine V_iconst (v := 1) (q := 11) X (TB.get tb_X9_isFrom 6 rfl) c_iconst_1 rfl ?_
      refine V_goto (q := 15) X (TB.get tb_X9_isFrom 7 rfl) rfl ?_
      cases e
      exact V_zret X hr hlk (Or.inr rfl) (TB.get tb_X9_isFrom 9 rfl)
set_option maxRecDepth 100000 in
set_option maxHeartbeats 4000000 in
theorem ok_X9_has (a0 : Int32) (a1 : Int32) (h : Hp) (res : Int32) (e : MX9_has a0 a1 = some res) : CK yX9_has cX9_has 2 (some .boolean) 0 [.int a0, .int a1] h (some (.int res)) h := by
  unfold MX9_has at e
  refine CK_of pn_RX9 cm_X9_has (Nat.le_of_ble_eq_true rfl) ?_
  intro l D tc B nn p en s m args below meth c X hr hlk
  replace X : CX p (rmD 0) s m args c cX9_has 2 RX9 D tc 0 := X
  show V p l en (rmD 0) s m args below meth c 2 D tc B nn (Ar B nn) s.heap 0 0 (MQ below (QC D tc B nn (Ar B nn) (some (.int res)) h) args s 0 0 (Ar B nn)) h 0 [(0, .int a0), (1, .int a1)] []
  refine V_iload_n (q := 1) X (TB.get tb_X9_has 0 rfl) rfl rfl rfl ?_
  refine V_iload_n (q := 2) X (TB.get tb_X9_has 1 rfl) rfl rfl rfl ?_
  refine V_ishr (q := 3) X (TB.get tb_X9_has 2 rfl) rfl ?_
  refine V_iconst (v := 1) (q := 4) X (TB.get tb_X9_has 3 rfl) c_iconst_1 rfl ?_
  refine V_iand (q := 5) X (TB.get tb_X9_has 4 rfl) rfl ?_
  refine V_iconst (v := 1) (q := 6) X (TB.get tb_X9_has 5 rfl) c_iconst_1 rfl ?_
  refine V_icmp_ne (q := 9) (t := 13) X (TB.get tb_X9_has 6 rfl) rfl rfl (fun hc => ?_) (fun hc => ?_)
  · have e := (if_neg hc).symm.trans e
    refine V_iconst (v := 0) (q := 14) X (TB.get tb_X9_has 9 rfl) c_iconst_0 rfl ?_
    cases e
    exact V_zret X hr hlk (Or.inl rfl) (TB.get tb_X9_has 10 rfl)
  · have e := (if_pos hc).symm.trans e
    refine V_iconst (v := 1) (q := 10) X (TB.get tb_X9_has 7 rfl) c_iconst_1 rfl ?_
    refine V_goto (q := 14) X (TB.get tb_X9_has 8 rfl) rfl ?_
    cases e
    exact V_zret X hr hlk (Or.inr rfl) (TB.get tb_X9_has 10 rfl)
set_option maxRecDepth 100000 in
set_option maxHeartbeats 4000000 in
theorem ok_X9_come (fu : Nat) (a0 : Nat) (a1 : Int32) (h : Hp) (res : Hp) (e : MX9_come fu a0 a1 h = some res) : CK yX9_come cX9_come 3 none 0 [.ref a0, .int a1] h none res ∧ (h.1 a0).1 = 9 := by
  obtain ⟨hcl, e⟩ := h_g_inv e
  refine ⟨CK_of pn_RX9 cm_X9_come (Nat.le_of_ble_eq_true rfl) ?_, hcl⟩
  intro l D tc B nn p en s m args below meth c X hr hlk
  replace X : CX p (rmD 0) s m args c cX9_come 3 RX9 D tc 0 := X
  show V p l en (rmD 0) s m args below meth c 3 D tc B nn (Ar B nn) s.heap 0 0 (MQ below (QC D tc B nn (Ar B nn) none res) args s 0 0 (Ar B nn)) h 0 [(0, .ref a0), (1, .int a1)] []
  refine V_bipush (v := 24) (q := 2) X (TB.get tb_X9_come 0 rfl) c_bipush_24 rfl ?_
  refine V_istore_n (q := 3) (lv' := [(2, .int (24 : Int32)), (0, .ref a0), (1, .int a1)]) X (TB.get tb_X9_come 1 rfl) rfl rfl (Nat.le_of_ble_eq_true rfl) rfl ?_
  refine V_sub (lv' := [(0, .ref a0), (1, .int a1), (2, .int (24 : Int32))]) [1, 2, 0] rfl ?_
  refine wh2_elim (P := fun v1 h2 => V p l en (rmD 0) s m args below meth c 3 D tc B nn (Ar B nn) s.heap 0 0 (MQ below (QC D tc B nn (Ar B nn) none res) args s 0 0 (Ar B nn)) h2 3 [(0, .ref a0), (1, .int a1), (2, .int v1)] []) (f := fu) ?_ e
  intro self3 v1 h2 ihself3 e
  unfold MX9_come_B3 at e
  refine V_iload_n (q := 4) X (TB.get tb_X9_come 2 rfl) rfl rfl rfl ?_
  refine V_if_lt (q := 7) (t := 39) X (TB.get tb_X9_come 3 rfl) rfl rfl (fun hc => ?_) (fun hc => ?_)
  · have e := (if_pos hc).symm.trans e
    cases e
    exact V_vret X hr hlk (TB.get tb_X9_come 22 rfl)
  · have e := (if_neg hc).symm.trans e
    refine V_aload_n (q := 8) X (TB.get tb_X9_come 4 rfl) rfl rfl rfl ?_
    obtain ⟨x4, ex4, e⟩ := bs e
    refine V_getR (q := 11) X (TB.get tb_X9_come 5 rfl) rfl lf_RX9_7 ex4 ?_
    refine V_aload_n (q := 12) X (TB.get tb_X9_come 6 rfl) rfl rfl rfl ?_
    obtain ⟨x5, ex5, e⟩ := bs e
    refine V_getI (q := 15) X (TB.get tb_X9_come 7 rfl) rfl lf_RX9_97 ex5 ?_
    refine V_iload_n (q := 16) X (TB.get tb_X9_come 8 rfl) rfl rfl rfl ?_
    refine V_iload_n (q := 17) X (TB.get tb_X9_come 9 rfl) rfl rfl rfl ?_
    refine V_iushr (q := 18) X (TB.get tb_X9_come 10 rfl) rfl ?_
    refine V_sipush (v := 255) (q := 21) X (TB.get tb_X9_come 11 rfl) c_sipush_255 rfl ?_
    refine V_iand (q := 22) X (TB.get tb_X9_come 12 rfl) rfl ?_
    obtain ⟨h6, eh6, e⟩ := bs e
    refine V_iastore (q := 23) X (TB.get tb_X9_come 13 rfl) rfl eh6 ?_
    refine V_aload_n (q := 24) X (TB.get tb_X9_come 14 rfl) rfl rfl rfl ?_
    refine V_dup (q := 25) X (TB.get tb_X9_come 15 rfl) rfl rfl ?_
    obtain ⟨x7, ex7, e⟩ := bs e
    refine V_getI (q := 28) X (TB.get tb_X9_come 16 rfl) rfl lf_RX9_97 ex7 ?_
    refine V_iconst (v := 1) (q := 29) X (TB.get tb_X9_come 17 rfl) c_iconst_1 rfl ?_
    refine V_iadd (q := 30) X (TB.get tb_X9_come 18 rfl) rfl ?_
    obtain ⟨h8, eh8, e⟩ := bs e
    refine V_putI (q := 33) X (TB.get tb_X9_come 19 rfl) rfl lq_RX9_97 eh8 ?_
    refine V_iinc (q := 36) (v := v1 + (-8 : Int32)) (lv' := [(2, .int (v1 + (-8 : Int32))), (0, .ref a0), (1, .int a1)]) X (TB.get tb_X9_come 20 rfl) rfl rfl (by rw [c_iconst_m8]) (Nat.le_of_ble_eq_true rfl) rfl ?_
    refine V_goto (q := 3) X (TB.get tb_X9_come 21 rfl) rfl ?_
    refine V_sub (lv' := [(0, .ref a0), (1, .int a1), (2, .int (v1 + (-8 : Int32)))]) [1, 2, 0] rfl ?_
    exact ihself3 _ _ e
set_option maxRecDepth 100000 in
set_option maxHeartbeats 4000000 in
theorem ok_X9_feed (fu : Nat) (a0 : Nat) (a1 : Int32) (a2 : Int32) (a3 : Int32) (a4 : Int32) (a5 : Int32) (h : Hp) (res : Int32 × Hp) (e : MX9_feed fu a0 a1 a2 a3 a4 a5 h = some res) : CK yX9_feed cX9_feed 6 (some .int) 1 [.ref a0, .int a1, .int a2, .int a3, .int a4, .int a5] h (some (.int res.1)) res.2 ∧ (h.1 a0).1 = 9 := by
  obtain ⟨hcl, e⟩ := h_g_inv e
  refine ⟨CK_of pn_RX9 cm_X9_feed (Nat.le_of_ble_eq_true rfl) ?_, hcl⟩
  intro l D tc B nn p en s m args below meth c X hr hlk
  replace X : CX p (rmD 1) s m args c cX9_feed 6 RX9 D tc 1 := X
  show V p l en (rmD 1) s m args below meth c 6 D tc B nn (Ar B nn) s.heap 0 0 (MQ below (QC D tc B nn (Ar B nn) (some (.int res.1)) res.2) args s 0 0 (Ar B nn)) h 0 [(0, .ref a0), (1, .int a1), (2, .int a2), (3, .int a3), (4, .int a4), (5, .int a5)] []
  refine V_aload_n (q := 1) X (TB.get tb_X9_feed 0 rfl) rfl rfl rfl ?_
  obtain ⟨x1, ex1, e⟩ := bs e
  refine V_getI (q := 4) X (TB.get tb_X9_feed 1 rfl) rfl lf_RX9_97 ex1 ?_
  refine V_bipush (v := 20) (q := 6) X (TB.get tb_X9_feed 2 rfl) c_bipush_20 rfl ?_
  refine V_iadd (q := 7) X (TB.get tb_X9_feed 3 rfl) rfl ?_
  refine V_sipush (v := 900) (q := 10) X (TB.get tb_X9_feed 4 rfl) c_sipush_900 rfl ?_
  refine V_icmp_le (q := 13) (t := 15) X (TB.get tb_X9_feed 5 rfl) rfl rfl (fun hc => ?_) (fun hc => ?_)
  · have e := (if_pos hc).symm.trans e
    refine V_aload_n (q := 16) X (TB.get tb_X9_feed 8 rfl) rfl rfl rfl ?_
    refine V_iload_n (q := 17) X (TB.get tb_X9_feed 9 rfl) rfl rfl rfl ?_
    obtain ⟨h2, eh2, e⟩ := bs e
    refine V_callV (q := 20) (As := [.int a1]) (rest := []) (st' := []) X (TB.get tb_X9_feed 10 rfl) rfl cv_RX9_100 (ok_X9_come fu a0 a1 h h2 eh2).1 (ok_X9_come fu a0 a1 h h2 eh2).2 (Nat.le_of_ble_eq_true rfl) rfl rfl (Nat.le_of_ble_eq_true rfl) rfl ?_
    refine V_aload_n (q := 21) X (TB.get tb_X9_feed 11 rfl) rfl rfl rfl ?_
    refine V_iload_n (q := 22) X (TB.get tb_X9_feed 12 rfl) rfl rfl rfl ?_
    obtain ⟨h3, eh3, e⟩ := bs e
    refine V_callV (q := 25) (As := [.int a2]) (rest := []) (st' := []) X (TB.get tb_X9_feed 13 rfl) rfl cv_RX9_100 (ok_X9_come fu a0 a2 h2 h3 eh3).1 (ok_X9_come fu a0 a2 h2 h3 eh3).2 (Nat.le_of_ble_eq_true rfl) rfl rfl (Nat.le_of_ble_eq_true rfl) rfl ?_
    refine V_aload_n (q := 26) X (TB.get tb_X9_feed 14 rfl) rfl rfl rfl ?_
    refine V_iload_n (q := 27) X (TB.get tb_X9_feed 15 rfl) rfl rfl rfl ?_
    obtain ⟨h4, eh4, e⟩ := bs e
    refine V_callV (q := 30) (As := [.int a3]) (rest := []) (st' := []) X (TB.get tb_X9_feed 16 rfl) rfl cv_RX9_100 (ok_X9_come fu a0 a3 h3 h4 eh4).1 (ok_X9_come fu a0 a3 h3 h4 eh4).2 (Nat.le_of_ble_eq_true rfl) rfl rfl (Nat.le_of_ble_eq_true rfl) rfl ?_
    refine V_aload_n (q := 31) X (TB.get tb_X9_feed 17 rfl) rfl rfl rfl ?_
    refine V_iload (q := 33) X (TB.get tb_X9_feed 18 rfl) rfl rfl ?_
    obtain ⟨h5, eh5, e⟩ := bs e
    refine V_callV (q := 36) (As := [.int a4]) (rest := []) (st' := []) X (TB.get tb_X9_feed 19 rfl) rfl cv_RX9_100 (ok_X9_come fu a0 a4 h4 h5 eh5).1 (ok_X9_come fu a0 a4 h4 h5 eh5).2 (Nat.le_of_ble_eq_true rfl) rfl rfl (Nat.le_of_ble_eq_true rfl) rfl ?_
    refine V_aload_n (q := 37) X (TB.get tb_X9_feed 20 rfl) rfl rfl rfl ?_
    refine V_iload (q := 39) X (TB.get tb_X9_feed 21 rfl) rfl rfl ?_
    obtain ⟨h6, eh6, e⟩ := bs e
    refine V_callV (q := 42) (As := [.int a5]) (rest := []) (st' := []) X (TB.get tb_X9_feed 22 rfl) rfl cv_RX9_100 (ok_X9_come fu a0 a5 h5 h6 eh6).1 (ok_X9_come fu a0 a5 h5 h6 eh6).2 (Nat.le_of_ble_eq_true rfl) rfl rfl (Nat.le_of_ble_eq_true rfl) rfl ?_
    refine V_aload_n (q := 43) X (TB.get tb_X9_feed 23 rfl) rfl rfl rfl ?_
    obtain ⟨x7, ex7, e⟩ := bs e
    refine V_getI (q := 46) X (TB.get tb_X9_feed 24 rfl) rfl lf_RX9_97 ex7 ?_
    cases e
    exact V_iret X hr hlk (TB.get tb_X9_feed 25 rfl)
  · have e := (if_neg hc).symm.trans e
    refine V_iconst (v := -1) (q := 14) X (TB.get tb_X9_feed 6 rfl) c_iconst_m1 rfl ?_
    cases e
    exact V_iret X hr hlk (TB.get tb_X9_feed 7 rfl)
set_option maxRecDepth 100000 in
set_option maxHeartbeats 4000000 in
theorem ok_X9_readKind (fu : Nat) (a0 : Nat) (h : Hp) (res : Int32 × Hp) (e : MX9_readKind fu a0 h = some res) : CK yX9_readKind cX9_readKind 1 (some .boolean) 5 [.ref a0] h (some (.int res.1)) res.2 ∧ (h.1 a0).1 = 9 := by
  obtain ⟨hcl, e⟩ := h_g_inv e
  refine ⟨CK_of pn_RX9 cm_X9_readKind (Nat.le_of_ble_eq_true rfl) ?_, hcl⟩
  intro l D tc B nn p en s m args below meth c X hr hlk
  replace X : CX p (rmD 5) s m args c cX9_readKind 1 RX9 D tc 5 := X
  show V p l en (rmD 5) s m args below meth c 1 D tc B nn (Ar B nn) s.heap 0 0 (MQ below (QC D tc B nn (Ar B nn) (some (.int res.1)) res.2) args s 0 0 (Ar B nn)) h 0 [(0, .ref a0)] []
  refine V_aload_n (q := 1) X (TB.get tb_X9_readKind 0 rfl) rfl rfl rfl ?_
  refine V_iconst (v := 0) (q := 2) X (TB.get tb_X9_readKind 1 rfl) c_iconst_0 rfl ?_
  refine V_aload_n (q := 3) X (TB.get tb_X9_readKind 2 rfl) rfl rfl rfl ?_
  obtain ⟨x1, ex1, e⟩ := bs e
  refine V_getR (q := 6) X (TB.get tb_X9_readKind 3 rfl) rfl lf_RX9_16 ex1 ?_
  refine V_iconst (v := 0) (q := 7) X (TB.get tb_X9_readKind 4 rfl) c_iconst_0 rfl ?_
  obtain ⟨x2, ex2, e⟩ := bs e
  refine V_iaload (q := 8) X (TB.get tb_X9_readKind 5 rfl) rfl ex2 ?_
  obtain ⟨p3, ep3, e⟩ := bs e
  refine V_callV (q := 11) (As := [.int (0 : Int32), .int x2]) (rest := []) (st' := [.int p3.1]) X (TB.get tb_X9_readKind 6 rfl) rfl cv_RX9_175 (ok_X9_readKnown fu a0 (0 : Int32) x2 h p3 ep3).1 (ok_X9_readKnown fu a0 (0 : Int32) x2 h p3 ep3).2 (Nat.le_of_ble_eq_true rfl) rfl rfl (Nat.le_of_ble_eq_true rfl) rfl ?_
  obtain ⟨z4, ez4, e⟩ := bs e
  cases e
  exact V_zretH X hr hlk ez4 (TB.get tb_X9_readKind 7 rfl)
set_option maxRecDepth 100000 in
set_option maxHeartbeats 4000000 in
theorem ok_X9_readState (fu : Nat) (a0 : Nat) (a1 : Int32) (h : Hp) (res : Int32 × Hp) (e : MX9_readState fu a0 a1 h = some res) : CK yX9_readState cX9_readState 2 (some .boolean) 5 [.ref a0, .int a1] h (some (.int res.1)) res.2 ∧ (h.1 a0).1 = 9 := by
  obtain ⟨hcl, e⟩ := h_g_inv e
  refine ⟨CK_of pn_RX9 cm_X9_readState (Nat.le_of_ble_eq_true rfl) ?_, hcl⟩
  intro l D tc B nn p en s m args below meth c X hr hlk
  replace X : CX p (rmD 5) s m args c cX9_readState 2 RX9 D tc 5 := X
  show V p l en (rmD 5) s m args below meth c 2 D tc B nn (Ar B nn) s.heap 0 0 (MQ below (QC D tc B nn (Ar B nn) (some (.int res.1)) res.2) args s 0 0 (Ar B nn)) h 0 [(0, .ref a0), (1, .int a1)] []
  refine V_aload_n (q := 1) X (TB.get tb_X9_readState 0 rfl) rfl rfl rfl ?_
  refine V_iconst (v := 4) (q := 2) X (TB.get tb_X9_readState 1 rfl) c_iconst_4 rfl ?_
  refine V_bipush (v := 6) (q := 4) X (TB.get tb_X9_readState 2 rfl) c_bipush_6 rfl ?_
  refine V_iload_n (q := 5) X (TB.get tb_X9_readState 3 rfl) rfl rfl rfl ?_
  refine V_imul (q := 6) X (TB.get tb_X9_readState 4 rfl) rfl ?_
  refine V_iadd (q := 7) X (TB.get tb_X9_readState 5 rfl) rfl ?_
  refine V_aload_n (q := 8) X (TB.get tb_X9_readState 6 rfl) rfl rfl rfl ?_
  obtain ⟨x1, ex1, e⟩ := bs e
  refine V_getR (q := 11) X (TB.get tb_X9_readState 7 rfl) rfl lf_RX9_16 ex1 ?_
  refine V_iconst (v := 3) (q := 12) X (TB.get tb_X9_readState 8 rfl) c_iconst_3 rfl ?_
  refine V_iload_n (q := 13) X (TB.get tb_X9_readState 9 rfl) rfl rfl rfl ?_
  refine V_iadd (q := 14) X (TB.get tb_X9_readState 10 rfl) rfl ?_
  obtain ⟨x2, ex2, e⟩ := bs e
  refine V_iaload (q := 15) X (TB.get tb_X9_readState 11 rfl) rfl ex2 ?_
  obtain ⟨p3, ep3, e⟩ := bs e
  refine V_callV (q := 18) (As := [.int ((4 : Int32) + ((6 : Int32) * a1)), .int x2]) (rest := []) (st' := [.int p3.1]) X (TB.get tb_X9_readState 12 rfl) rfl cv_RX9_175 (ok_X9_readKnown fu a0 ((4 : Int32) + ((6 : Int32) * a1)) x2 h p3 ep3).1 (ok_X9_readKnown fu a0 ((4 : Int32) + ((6 : Int32) * a1)) x2 h p3 ep3).2 (Nat.le_of_ble_eq_true rfl) rfl rfl (Nat.le_of_ble_eq_true rfl) rfl ?_
  obtain ⟨z4, ez4, e⟩ := bs e
  cases e
  exact V_zretH X hr hlk ez4 (TB.get tb_X9_readState 13 rfl)
set_option maxRecDepth 100000 in
set_option maxHeartbeats 4000000 in
theorem ok_X9_readKindLine (fu : Nat) (a0 : Nat) (h : Hp) (res : Int32 × Hp) (e : MX9_readKindLine fu a0 h = some res) : CK yX9_readKindLine cX9_readKindLine 3 (some .boolean) 4 [.ref a0] h (some (.int res.1)) res.2 ∧ (h.1 a0).1 = 9 := by
  obtain ⟨hcl, e⟩ := h_g_inv e
  refine ⟨CK_of pn_RX9 cm_X9_readKindLine (Nat.le_of_ble_eq_true rfl) ?_, hcl⟩
  intro l D tc B nn p en s m args below meth c X hr hlk
  replace X : CX p (rmD 4) s m args c cX9_readKindLine 3 RX9 D tc 4 := X
  show V p l en (rmD 4) s m args below meth c 3 D tc B nn (Ar B nn) s.heap 0 0 (MQ below (QC D tc B nn (Ar B nn) (some (.int res.1)) res.2) args s 0 0 (Ar B nn)) h 0 [(0, .ref a0)] []
  refine V_aload_n (q := 1) X (TB.get tb_X9_readKindLine 0 rfl) rfl rfl rfl ?_
  obtain ⟨x1, ex1, e⟩ := bs e
  refine V_getR (q := 4) X (TB.get tb_X9_readKindLine 1 rfl) rfl lf_RX9_16 ex1 ?_
  refine V_iconst (v := 0) (q := 5) X (TB.get tb_X9_readKindLine 2 rfl) c_iconst_0 rfl ?_
  obtain ⟨x2, ex2, e⟩ := bs e
  refine V_iaload (q := 6) X (TB.get tb_X9_readKindLine 3 rfl) rfl ex2 ?_
  refine V_istore_n (q := 7) (lv' := [(1, .int x2), (0, .ref a0)]) X (TB.get tb_X9_readKindLine 4 rfl) rfl rfl (Nat.le_of_ble_eq_true rfl) rfl ?_
  refine V_iload_n (q := 8) X (TB.get tb_X9_readKindLine 5 rfl) rfl rfl rfl ?_
  refine V_iconst (v := 4) (q := 9) X (TB.get tb_X9_readKindLine 6 rfl) c_iconst_4 rfl ?_
  refine V_icmp_ne (q := 12) (t := 19) X (TB.get tb_X9_readKindLine 7 rfl) rfl rfl (fun hc => ?_) (fun hc => ?_)
  · have e := (if_neg hc).symm.trans e
    refine V_aload_n (q := 20) X (TB.get tb_X9_readKindLine 12 rfl) rfl rfl rfl ?_
    obtain ⟨h3, eh3, e⟩ := bs e
    refine V_callV (q := 23) (As := []) (rest := []) (st' := []) X (TB.get tb_X9_readKindLine 13 rfl) rfl cv_RX9_161 (ok_X9_go fu a0 h h3 eh3).1 (ok_X9_go fu a0 h h3 eh3).2 (Nat.le_of_ble_eq_true rfl) rfl rfl (Nat.le_of_ble_eq_true rfl) rfl ?_
    refine V_aload_n (q := 24) X (TB.get tb_X9_readKindLine 14 rfl) rfl rfl rfl ?_
    obtain ⟨x4, ex4, e⟩ := bs e
    refine V_callV (q := 27) (As := []) (rest := []) (st' := [.int x4]) X (TB.get tb_X9_readKindLine 15 rfl) rfl cv_RX9_164 (ok_X9_isName fu a0 h3 x4 ex4).1 (ok_X9_isName fu a0 h3 x4 ex4).2 (Nat.le_of_ble_eq_true rfl) rfl rfl (Nat.le_of_ble_eq_true rfl) rfl ?_
    refine V_if_ne (q := 30) (t := 36) X (TB.get tb_X9_readKindLine 16 rfl) rfl rfl (fun hc => ?_) (fun hc => ?_)
    · have e := (if_neg hc).symm.trans e
      refine V_aload_n (q := 37) X (TB.get tb_X9_readKindLine 21 rfl) rfl rfl rfl ?_
      refine V_iconst (v := 0) (q := 38) X (TB.get tb_X9_readKindLine 22 rfl) c_iconst_0 rfl ?_
      refine V_iload_n (q := 39) X (TB.get tb_X9_readKindLine 23 rfl) rfl rfl rfl ?_
      obtain ⟨x5, ex5, e⟩ := bs e
      refine V_callV (q := 42) (As := [.int (0 : Int32), .int x2]) (rest := []) (st' := [.int x5]) X (TB.get tb_X9_readKindLine 24 rfl) rfl cv_RX9_168 (ok_X9_findIn fu a0 (0 : Int32) x2 h3 x5 ex5).1 (ok_X9_findIn fu a0 (0 : Int32) x2 h3 x5 ex5).2 (Nat.le_of_ble_eq_true rfl) rfl rfl (Nat.le_of_ble_eq_true rfl) rfl ?_
      refine V_iconst (v := -1) (q := 43) X (TB.get tb_X9_readKindLine 25 rfl) c_iconst_m1 rfl ?_
      refine V_icmp_eq (q := 46) (t := 52) X (TB.get tb_X9_readKindLine 26 rfl) rfl rfl (fun hc => ?_) (fun hc => ?_)
      · have e := (if_pos hc).symm.trans e
        refine V_aload_n (q := 53) X (TB.get tb_X9_readKindLine 31 rfl) rfl rfl rfl ?_
        obtain ⟨x6, ex6, e⟩ := bs e
        refine V_getR (q := 56) X (TB.get tb_X9_readKindLine 32 rfl) rfl lf_RX9_19 ex6 ?_
        refine V_iconst (v := 0) (q := 57) X (TB.get tb_X9_readKindLine 33 rfl) c_iconst_0 rfl ?_
        refine V_iload_n (q := 58) X (TB.get tb_X9_readKindLine 34 rfl) rfl rfl rfl ?_
        refine V_iadd (q := 59) X (TB.get tb_X9_readKindLine 35 rfl) rfl ?_
        refine V_aload_n (q := 60) X (TB.get tb_X9_readKindLine 36 rfl) rfl rfl rfl ?_
        obtain ⟨x7, ex7, e⟩ := bs e
        refine V_getL (q := 63) X (TB.get tb_X9_readKindLine 37 rfl) rfl lf_RX9_124 ex7 ?_
        obtain ⟨h8, eh8, e⟩ := bs e
        refine V_lastore (q := 64) X (TB.get tb_X9_readKindLine 38 rfl) rfl eh8 ?_
        refine V_aload_n (q := 65) X (TB.get tb_X9_readKindLine 39 rfl) rfl rfl rfl ?_
        obtain ⟨h9, eh9, e⟩ := bs e
        refine V_callV (q := 68) (As := []) (rest := []) (st' := []) X (TB.get tb_X9_readKindLine 40 rfl) rfl cv_RX9_161 (ok_X9_go fu a0 h8 h9 eh9).1 (ok_X9_go fu a0 h8 h9 eh9).2 (Nat.le_of_ble_eq_true rfl) rfl rfl (Nat.le_of_ble_eq_true rfl) rfl ?_
        refine V_aload_n (q := 69) X (TB.get tb_X9_readKindLine 41 rfl) rfl rfl rfl ?_
        obtain ⟨x10, ex10, e⟩ := bs e
        refine V_getR (q := 72) X (TB.get tb_X9_readKindLine 42 rfl) rfl lf_RX9_16 ex10 ?_
        refine V_iconst (v := 3) (q := 73) X (TB.get tb_X9_readKindLine 43 rfl) c_iconst_3 rfl ?_
        refine V_iload_n (q := 74) X (TB.get tb_X9_readKindLine 44 rfl) rfl rfl rfl ?_
        refine V_iadd (q := 75) X (TB.get tb_X9_readKindLine 45 rfl) rfl ?_
        refine V_iconst (v := 0) (q := 76) X (TB.get tb_X9_readKindLine 46 rfl) c_iconst_0 rfl ?_
        obtain ⟨h11, eh11, e⟩ := bs e
        refine V_iastore (q := 77) X (TB.get tb_X9_readKindLine 47 rfl) rfl eh11 ?_
        refine V_aload_n (q := 78) X (TB.get tb_X9_readKindLine 48 rfl) rfl rfl rfl ?_
        obtain ⟨x12, ex12, e⟩ := bs e
        refine V_getR (q := 81) X (TB.get tb_X9_readKindLine 49 rfl) rfl lf_RX9_16 ex12 ?_
        refine V_bipush (v := 7) (q := 83) X (TB.get tb_X9_readKindLine 50 rfl) c_bipush_7 rfl ?_
        refine V_iload_n (q := 84) X (TB.get tb_X9_readKindLine 51 rfl) rfl rfl rfl ?_
        refine V_iadd (q := 85) X (TB.get tb_X9_readKindLine 52 rfl) rfl ?_
        refine V_iconst (v := 0) (q := 86) X (TB.get tb_X9_readKindLine 53 rfl) c_iconst_0 rfl ?_
        obtain ⟨h13, eh13, e⟩ := bs e
        refine V_iastore (q := 87) X (TB.get tb_X9_readKindLine 54 rfl) rfl eh13 ?_
        refine V_aload_n (q := 88) X (TB.get tb_X9_readKindLine 55 rfl) rfl rfl rfl ?_
        obtain ⟨x14, ex14, e⟩ := bs e
        refine V_getR (q := 91) X (TB.get tb_X9_readKindLine 56 rfl) rfl lf_RX9_16 ex14 ?_
        refine V_bipush (v := 11) (q := 93) X (TB.get tb_X9_readKindLine 57 rfl) c_bipush_11 rfl ?_
        refine V_iload_n (q := 94) X (TB.get tb_X9_readKindLine 58 rfl) rfl rfl rfl ?_
        refine V_iadd (q := 95) X (TB.get tb_X9_readKindLine 59 rfl) rfl ?_
        refine V_iconst (v := 0) (q := 96) X (TB.get tb_X9_readKindLine 60 rfl) c_iconst_0 rfl ?_
        obtain ⟨h15, eh15, e⟩ := bs e
        refine V_iastore (q := 97) X (TB.get tb_X9_readKindLine 61 rfl) rfl eh15 ?_
        refine jn_elim (P := (fun (k : Hp → Option (Int32 × Hp)) => ∀ (h16 : Hp), k h16 = some res → V p l en (rmD 4) s m args below meth c 3 D tc B nn (Ar B nn) s.heap 0 0 (MQ below (QC D tc B nn (Ar B nn) (some (.int res.1)) res.2) args s 0 0 (Ar B nn)) h16 193 [(0, .ref a0)] [])) e ?_ (fun j17 Jj17 e => ?_)
        · intro h16 e
          refine V_aload_n (q := 194) X (TB.get tb_X9_readKindLine 124 rfl) rfl rfl rfl ?_
          obtain ⟨x18, ex18, e⟩ := bs e
          refine V_getR (q := 197) X (TB.get tb_X9_readKindLine 125 rfl) rfl lf_RX9_16 ex18 ?_
          refine V_iconst (v := 0) (q := 198) X (TB.get tb_X9_readKindLine 126 rfl) c_iconst_0 rfl ?_
          refine V_dup2 (q := 199) X (TB.get tb_X9_readKindLine 127 rfl) rfl rfl rfl ?_
          obtain ⟨x19, ex19, e⟩ := bs e
          refine V_iaload (q := 200) X (TB.get tb_X9_readKindLine 128 rfl) rfl ex19 ?_
          refine V_iconst (v := 1) (q := 201) X (TB.get tb_X9_readKindLine 129 rfl) c_iconst_1 rfl ?_
          refine V_iadd (q := 202) X (TB.get tb_X9_readKindLine 130 rfl) rfl ?_
          obtain ⟨h20, eh20, e⟩ := bs e
          refine V_iastore (q := 203) X (TB.get tb_X9_readKindLine 131 rfl) rfl eh20 ?_
          refine V_aload_n (q := 204) X (TB.get tb_X9_readKindLine 132 rfl) rfl rfl rfl ?_
          refine V_bipush (v := 59) (q := 206) X (TB.get tb_X9_readKindLine 133 rfl) c_bipush_59 rfl ?_
          obtain ⟨p21, ep21, e⟩ := bs e
          refine V_callV (q := 209) (As := [.int (59 : Int32)]) (rest := []) (st' := [.int p21.1]) X (TB.get tb_X9_readKindLine 134 rfl) rfl cv_RX9_179 (ok_X9_eats fu a0 (59 : Int32) h20 p21 ep21).1 (ok_X9_eats fu a0 (59 : Int32) h20 p21 ep21).2 (Nat.le_of_ble_eq_true rfl) rfl rfl (Nat.le_of_ble_eq_true rfl) rfl ?_
          obtain ⟨z22, ez22, e⟩ := bs e
          cases e
          exact V_zretH X hr hlk ez22 (TB.get tb_X9_readKindLine 135 rfl)
        refine jn_elim (P := (fun (k : Hp → Option (Int32 × Hp)) => ∀ (h23 : Hp), k h23 = some res → V p l en (rmD 4) s m args below meth c 3 D tc B nn (Ar B nn) s.heap 0 0 (MQ below (QC D tc B nn (Ar B nn) (some (.int res.1)) res.2) args s 0 0 (Ar B nn)) h23 146 [(0, .ref a0)] [])) e ?_ (fun j24 Jj24 e => ?_)
        · intro h23 e
          refine V_aload_n (q := 147) X (TB.get tb_X9_readKindLine 93 rfl) rfl rfl rfl ?_
          refine V_bipush (v := 6) (q := 149) X (TB.get tb_X9_readKindLine 94 rfl) c_bipush_6 rfl ?_
          obtain ⟨p25, ep25, e⟩ := bs e
          refine V_callV (q := 152) (As := [.int (6 : Int32)]) (rest := []) (st' := [.int p25.1]) X (TB.get tb_X9_readKindLine 95 rfl) rfl cv_RX9_158 (ok_X9_bad a0 (6 : Int32) h23 p25 ep25).1 (ok_X9_bad a0 (6 : Int32) h23 p25 ep25).2 (Nat.le_of_ble_eq_true rfl) rfl rfl (Nat.le_of_ble_eq_true rfl) rfl ?_
          obtain ⟨z26, ez26, e⟩ := bs e
          cases e
          exact V_zretH X hr hlk ez26 (TB.get tb_X9_readKindLine 96 rfl)
        refine jn_elim (P := (fun (k : Hp → Option (Int32 × Hp)) => ∀ (h27 : Hp), k h27 = some res → V p l en (rmD 4) s m args below meth c 3 D tc B nn (Ar B nn) s.heap 0 0 (MQ below (QC D tc B nn (Ar B nn) (some (.int res.1)) res.2) args s 0 0 (Ar B nn)) h27 134 [(0, .ref a0)] [])) e ?_ (fun j28 Jj28 e => ?_)
        · intro h27 e
          refine V_aload_n (q := 135) X (TB.get tb_X9_readKindLine 86 rfl) rfl rfl rfl ?_
          refine V_iconst (v := 4) (q := 136) X (TB.get tb_X9_readKindLine 87 rfl) c_iconst_4 rfl ?_
          obtain ⟨p29, ep29, e⟩ := bs e
          refine V_callV (q := 139) (As := [.int (4 : Int32)]) (rest := []) (st' := [.int p29.1]) X (TB.get tb_X9_readKindLine 88 rfl) rfl cv_RX9_158 (ok_X9_bad a0 (4 : Int32) h27 p29 ep29).1 (ok_X9_bad a0 (4 : Int32) h27 p29 ep29).2 (Nat.le_of_ble_eq_true rfl) rfl rfl (Nat.le_of_ble_eq_true rfl) rfl ?_
          obtain ⟨z30, ez30, e⟩ := bs e
          cases e
          exact V_zretH X hr hlk ez30 (TB.get tb_X9_readKindLine 89 rfl)
        refine jn_elim (P := (fun (k : Hp → Option (Int32 × Hp)) => ∀ (h31 : Hp), k h31 = some res → V p l en (rmD 4) s m args below meth c 3 D tc B nn (Ar B nn) s.heap 0 0 (MQ below (QC D tc B nn (Ar B nn) (some (.int res.1)) res.2) args s 0 0 (Ar B nn)) h31 104 [(0, .ref a0)] [])) e ?_ (fun j32 Jj32 e => ?_)
        · intro h31 e
          refine V_aload_n (q := 105) X (TB.get tb_X9_readKindLine 65 rfl) rfl rfl rfl ?_
          refine V_iconst (v := 2) (q := 106) X (TB.get tb_X9_readKindLine 66 rfl) c_iconst_2 rfl ?_
          obtain ⟨p33, ep33, e⟩ := bs e
          refine V_callV (q := 109) (As := [.int (2 : Int32)]) (rest := []) (st' := [.int p33.1]) X (TB.get tb_X9_readKindLine 67 rfl) rfl cv_RX9_158 (ok_X9_bad a0 (2 : Int32) h31 p33 ep33).1 (ok_X9_bad a0 (2 : Int32) h31 p33 ep33).2 (Nat.le_of_ble_eq_true rfl) rfl rfl (Nat.le_of_ble_eq_true rfl) rfl ?_
          obtain ⟨z34, ez34, e⟩ := bs e
          cases e
          exact V_zretH X hr hlk ez34 (TB.get tb_X9_readKindLine 68 rfl)
        refine V_sub (lv' := [(0, .ref a0), (1, .int x2)]) [1, 0] rfl ?_
        refine wh1_elim (P := fun h35 => V p l en (rmD 4) s m args below meth c 3 D tc B nn (Ar B nn) s.heap 0 0 (MQ below (QC D tc B nn (Ar B nn) (some (.int res.1)) res.2) args s 0 0 (Ar B nn)) h35 97 [(0, .ref a0), (1, .int x2)] []) (f := fu) ?_ e
        intro self36 h35 ihself36 e
        unfold MX9_readKindLine_B97 at e
        refine V_aload_n (q := 98) X (TB.get tb_X9_readKindLine 62 rfl) rfl rfl rfl ?_
        obtain ⟨x37, ex37, e⟩ := bs e
        refine V_callV (q := 101) (As := []) (rest := []) (st' := [.int x37]) X (TB.get tb_X9_readKindLine 63 rfl) rfl cv_RX9_164 (ok_X9_isName fu a0 h35 x37 ex37).1 (ok_X9_isName fu a0 h35 x37 ex37).2 (Nat.le_of_ble_eq_true rfl) rfl rfl (Nat.le_of_ble_eq_true rfl) rfl ?_
        refine V_if_ne (q := 104) (t := 110) X (TB.get tb_X9_readKindLine 64 rfl) rfl rfl (fun hc => ?_) (fun hc => ?_)
        · have e := (if_neg hc).symm.trans e
          refine V_aload_n (q := 111) X (TB.get tb_X9_readKindLine 69 rfl) rfl rfl rfl ?_
          obtain ⟨x38, ex38, e⟩ := bs e
          refine V_getR (q := 114) X (TB.get tb_X9_readKindLine 70 rfl) rfl lf_RX9_16 ex38 ?_
          refine V_iconst (v := 3) (q := 115) X (TB.get tb_X9_readKindLine 71 rfl) c_iconst_3 rfl ?_
          refine V_iload_n (q := 116) X (TB.get tb_X9_readKindLine 72 rfl) rfl rfl rfl ?_
          refine V_iadd (q := 117) X (TB.get tb_X9_readKindLine 73 rfl) rfl ?_
          obtain ⟨x39, ex39, e⟩ := bs e
          refine V_iaload (q := 118) X (TB.get tb_X9_readKindLine 74 rfl) rfl ex39 ?_
          refine V_istore_n (q := 119) (lv' := [(2, .int x39), (0, .ref a0), (1, .int x2)]) X (TB.get tb_X9_readKindLine 75 rfl) rfl rfl (Nat.le_of_ble_eq_true rfl) rfl ?_
          refine V_aload_n (q := 120) X (TB.get tb_X9_readKindLine 76 rfl) rfl rfl rfl ?_
          refine V_iconst (v := 4) (q := 121) X (TB.get tb_X9_readKindLine 77 rfl) c_iconst_4 rfl ?_
          refine V_bipush (v := 6) (q := 123) X (TB.get tb_X9_readKindLine 78 rfl) c_bipush_6 rfl ?_
          refine V_iload_n (q := 124) X (TB.get tb_X9_readKindLine 79 rfl) rfl rfl rfl ?_
          refine V_imul (q := 125) X (TB.get tb_X9_readKindLine 80 rfl) rfl ?_
          refine V_iadd (q := 126) X (TB.get tb_X9_readKindLine 81 rfl) rfl ?_
          refine V_iload_n (q := 127) X (TB.get tb_X9_readKindLine 82 rfl) rfl rfl rfl ?_
          obtain ⟨x40, ex40, e⟩ := bs e
          refine V_callV (q := 130) (As := [.int ((4 : Int32) + ((6 : Int32) * x2)), .int x39]) (rest := []) (st' := [.int x40]) X (TB.get tb_X9_readKindLine 83 rfl) rfl cv_RX9_168 (ok_X9_findIn fu a0 ((4 : Int32) + ((6 : Int32) * x2)) x39 h35 x40 ex40).1 (ok_X9_findIn fu a0 ((4 : Int32) + ((6 : Int32) * x2)) x39 h35 x40 ex40).2 (Nat.le_of_ble_eq_true rfl) rfl rfl (Nat.le_of_ble_eq_true rfl) rfl ?_
          refine V_iconst (v := -1) (q := 131) X (TB.get tb_X9_readKindLine 84 rfl) c_iconst_m1 rfl ?_
          refine V_icmp_eq (q := 134) (t := 140) X (TB.get tb_X9_readKindLine 85 rfl) rfl rfl (fun hc => ?_) (fun hc => ?_)
          · have e := (if_pos hc).symm.trans e
            refine V_iload_n (q := 141) X (TB.get tb_X9_readKindLine 90 rfl) rfl rfl rfl ?_
            refine V_bipush (v := 6) (q := 143) X (TB.get tb_X9_readKindLine 91 rfl) c_bipush_6 rfl ?_
            refine V_icmp_ne (q := 146) (t := 153) X (TB.get tb_X9_readKindLine 92 rfl) rfl rfl (fun hc => ?_) (fun hc => ?_)
            · have e := (if_neg hc).symm.trans e
              refine V_aload_n (q := 154) X (TB.get tb_X9_readKindLine 97 rfl) rfl rfl rfl ?_
              obtain ⟨x41, ex41, e⟩ := bs e
              refine V_getR (q := 157) X (TB.get tb_X9_readKindLine 98 rfl) rfl lf_RX9_19 ex41 ?_
              refine V_iconst (v := 4) (q := 158) X (TB.get tb_X9_readKindLine 99 rfl) c_iconst_4 rfl ?_
              refine V_bipush (v := 6) (q := 160) X (TB.get tb_X9_readKindLine 100 rfl) c_bipush_6 rfl ?_
              refine V_iload_n (q := 161) X (TB.get tb_X9_readKindLine 101 rfl) rfl rfl rfl ?_
              refine V_imul (q := 162) X (TB.get tb_X9_readKindLine 102 rfl) rfl ?_
              refine V_iadd (q := 163) X (TB.get tb_X9_readKindLine 103 rfl) rfl ?_
              refine V_iload_n (q := 164) X (TB.get tb_X9_readKindLine 104 rfl) rfl rfl rfl ?_
              refine V_iadd (q := 165) X (TB.get tb_X9_readKindLine 105 rfl) rfl ?_
              refine V_aload_n (q := 166) X (TB.get tb_X9_readKindLine 106 rfl) rfl rfl rfl ?_
              obtain ⟨x42, ex42, e⟩ := bs e
              refine V_getL (q := 169) X (TB.get tb_X9_readKindLine 107 rfl) rfl lf_RX9_124 ex42 ?_
              obtain ⟨h43, eh43, e⟩ := bs e
              refine V_lastore (q := 170) X (TB.get tb_X9_readKindLine 108 rfl) rfl eh43 ?_
              refine V_aload_n (q := 171) X (TB.get tb_X9_readKindLine 109 rfl) rfl rfl rfl ?_
              obtain ⟨x44, ex44, e⟩ := bs e
              refine V_getR (q := 174) X (TB.get tb_X9_readKindLine 110 rfl) rfl lf_RX9_16 ex44 ?_
              refine V_iconst (v := 3) (q := 175) X (TB.get tb_X9_readKindLine 111 rfl) c_iconst_3 rfl ?_
              refine V_iload_n (q := 176) X (TB.get tb_X9_readKindLine 112 rfl) rfl rfl rfl ?_
              refine V_iadd (q := 177) X (TB.get tb_X9_readKindLine 113 rfl) rfl ?_
              refine V_dup2 (q := 178) X (TB.get tb_X9_readKindLine 114 rfl) rfl rfl rfl ?_
              obtain ⟨x45, ex45, e⟩ := bs e
              refine V_iaload (q := 179) X (TB.get tb_X9_readKindLine 115 rfl) rfl ex45 ?_
              refine V_iconst (v := 1) (q := 180) X (TB.get tb_X9_readKindLine 116 rfl) c_iconst_1 rfl ?_
              refine V_iadd (q := 181) X (TB.get tb_X9_readKindLine 117 rfl) rfl ?_
              obtain ⟨h46, eh46, e⟩ := bs e
              refine V_iastore (q := 182) X (TB.get tb_X9_readKindLine 118 rfl) rfl eh46 ?_
              refine V_aload_n (q := 183) X (TB.get tb_X9_readKindLine 119 rfl) rfl rfl rfl ?_
              obtain ⟨h47, eh47, e⟩ := bs e
              refine V_callV (q := 186) (As := []) (rest := []) (st' := []) X (TB.get tb_X9_readKindLine 120 rfl) rfl cv_RX9_161 (ok_X9_go fu a0 h46 h47 eh47).1 (ok_X9_go fu a0 h46 h47 eh47).2 (Nat.le_of_ble_eq_true rfl) rfl rfl (Nat.le_of_ble_eq_true rfl) rfl ?_
              refine V_aload_n (q := 187) X (TB.get tb_X9_readKindLine 121 rfl) rfl rfl rfl ?_
              obtain ⟨x48, ex48, e⟩ := bs e
              refine V_callV (q := 190) (As := []) (rest := []) (st' := [.int x48]) X (TB.get tb_X9_readKindLine 122 rfl) rfl cv_RX9_164 (ok_X9_isName fu a0 h47 x48 ex48).1 (ok_X9_isName fu a0 h47 x48 ex48).2 (Nat.le_of_ble_eq_true rfl) rfl rfl (Nat.le_of_ble_eq_true rfl) rfl ?_
              refine V_if_ne (q := 193) (t := 97) X (TB.get tb_X9_readKindLine 123 rfl) rfl rfl (fun hc => ?_) (fun hc => ?_)
              · have e := (if_neg hc).symm.trans e
                refine V_sub (lv' := [(0, .ref a0), (1, .int x2)]) [1, 2] rfl ?_
                exact ihself36 _ e
              · have e := (if_pos hc).symm.trans e
                refine V_sub (lv' := [(0, .ref a0)]) [1] rfl ?_
                exact Jj17 _ e
            · have e := (if_pos hc).symm.trans e
              refine V_sub (lv' := [(0, .ref a0)]) [1] rfl ?_
              exact Jj24 _ e
          · have e := (if_neg hc).symm.trans e
            refine V_sub (lv' := [(0, .ref a0)]) [1] rfl ?_
            exact Jj28 _ e
        · have e := (if_pos hc).symm.trans e
          refine V_sub (lv' := [(0, .ref a0)]) [0] rfl ?_
          exact Jj32 _ e
      · have e := (if_neg hc).symm.trans e
        refine V_aload_n (q := 47) X (TB.get tb_X9_readKindLine 27 rfl) rfl rfl rfl ?_
        refine V_iconst (v := 4) (q := 48) X (TB.get tb_X9_readKindLine 28 rfl) c_iconst_4 rfl ?_
        obtain ⟨p49, ep49, e⟩ := bs e
        refine V_callV (q := 51) (As := [.int (4 : Int32)]) (rest := []) (st' := [.int p49.1]) X (TB.get tb_X9_readKindLine 29 rfl) rfl cv_RX9_158 (ok_X9_bad a0 (4 : Int32) h3 p49 ep49).1 (ok_X9_bad a0 (4 : Int32) h3 p49 ep49).2 (Nat.le_of_ble_eq_true rfl) rfl rfl (Nat.le_of_ble_eq_true rfl) rfl ?_
        obtain ⟨z50, ez50, e⟩ := bs e
        cases e
        exact V_zretH X hr hlk ez50 (TB.get tb_X9_readKindLine 30 rfl)
    · have e := (if_pos hc).symm.trans e
      refine V_aload_n (q := 31) X (TB.get tb_X9_readKindLine 17 rfl) rfl rfl rfl ?_
      refine V_iconst (v := 2) (q := 32) X (TB.get tb_X9_readKindLine 18 rfl) c_iconst_2 rfl ?_
      obtain ⟨p51, ep51, e⟩ := bs e
      refine V_callV (q := 35) (As := [.int (2 : Int32)]) (rest := []) (st' := [.int p51.1]) X (TB.get tb_X9_readKindLine 19 rfl) rfl cv_RX9_158 (ok_X9_bad a0 (2 : Int32) h3 p51 ep51).1 (ok_X9_bad a0 (2 : Int32) h3 p51 ep51).2 (Nat.le_of_ble_eq_true rfl) rfl rfl (Nat.le_of_ble_eq_true rfl) rfl ?_
      obtain ⟨z52, ez52, e⟩ := bs e
      cases e
      exact V_zretH X hr hlk ez52 (TB.get tb_X9_readKindLine 20 rfl)
  · have e := (if_pos hc).symm.trans e
    refine V_aload_n (q := 13) X (TB.get tb_X9_readKindLine 8 rfl) rfl rfl rfl ?_
    refine V_bipush (v := 6) (q := 15) X (TB.get tb_X9_readKindLine 9 rfl) c_bipush_6 rfl ?_
    obtain ⟨p53, ep53, e⟩ := bs e
    refine V_callV (q := 18) (As := [.int (6 : Int32)]) (rest := []) (st' := [.int p53.1]) X (TB.get tb_X9_readKindLine 10 rfl) rfl cv_RX9_158 (ok_X9_bad a0 (6 : Int32) h p53 ep53).1 (ok_X9_bad a0 (6 : Int32) h p53 ep53).2 (Nat.le_of_ble_eq_true rfl) rfl rfl (Nat.le_of_ble_eq_true rfl) rfl ?_
    obtain ⟨z54, ez54, e⟩ := bs e
    cases e
    exact V_zretH X hr hlk ez54 (TB.get tb_X9_readKindLine 11 rfl)
set_option maxRecDepth 100000 in
set_option maxHeartbeats 4000000 in
theorem ok_X9_readEndLine (fu : Nat) (a0 : Nat) (h : Hp) (res : Int32 × Hp) (e : MX9_readEndLine fu a0 h = some res) : CK yX9_readEndLine cX9_readEndLine 2 (some .boolean) 6 [.ref a0] h (some (.int res.1)) res.2 ∧ (h.1 a0).1 = 9 := by
  obtain ⟨hcl, e⟩ := h_g_inv e
  refine ⟨CK_of pn_RX9 cm_X9_readEndLine (Nat.le_of_ble_eq_true rfl) ?_, hcl⟩
  intro l D tc B nn p en s m args below meth c X hr hlk
  replace X : CX p (rmD 6) s m args c cX9_readEndLine 2 RX9 D tc 6 := X
  show V p l en (rmD 6) s m args below meth c 2 D tc B nn (Ar B nn) s.heap 0 0 (MQ below (QC D tc B nn (Ar B nn) (some (.int res.1)) res.2) args s 0 0 (Ar B nn)) h 0 [(0, .ref a0)] []
  refine V_aload_n (q := 1) X (TB.get tb_X9_readEndLine 0 rfl) rfl rfl rfl ?_
  obtain ⟨h1, eh1, e⟩ := bs e
  refine V_callV (q := 4) (As := []) (rest := []) (st' := []) X (TB.get tb_X9_readEndLine 1 rfl) rfl cv_RX9_161 (ok_X9_go fu a0 h h1 eh1).1 (ok_X9_go fu a0 h h1 eh1).2 (Nat.le_of_ble_eq_true rfl) rfl rfl (Nat.le_of_ble_eq_true rfl) rfl ?_
  refine V_aload_n (q := 5) X (TB.get tb_X9_readEndLine 2 rfl) rfl rfl rfl ?_
  obtain ⟨p2, ep2, e⟩ := bs e
  refine V_callV (q := 8) (As := []) (rest := []) (st' := [.int p2.1]) X (TB.get tb_X9_readEndLine 3 rfl) rfl cv_RX9_182 (ok_X9_readKind fu a0 h1 p2 ep2).1 (ok_X9_readKind fu a0 h1 p2 ep2).2 (Nat.le_of_ble_eq_true rfl) rfl rfl (Nat.le_of_ble_eq_true rfl) rfl ?_
  refine V_if_ne (q := 11) (t := 13) X (TB.get tb_X9_readEndLine 4 rfl) rfl rfl (fun hc => ?_) (fun hc => ?_)
  · have e := (if_neg hc).symm.trans e
    refine V_aload_n (q := 14) X (TB.get tb_X9_readEndLine 7 rfl) rfl rfl rfl ?_
    obtain ⟨x3, ex3, e⟩ := bs e
    refine V_getI (q := 17) X (TB.get tb_X9_readEndLine 8 rfl) rfl lf_RX9_172 ex3 ?_
    refine V_istore_n (q := 18) (lv' := [(1, .int x3), (0, .ref a0)]) X (TB.get tb_X9_readEndLine 9 rfl) rfl rfl (Nat.le_of_ble_eq_true rfl) rfl ?_
    refine jn_elim (P := (fun (k : Hp → Option (Int32 × Hp)) => ∀ (h4 : Hp), k h4 = some res → V p l en (rmD 6) s m args below meth c 2 D tc B nn (Ar B nn) s.heap 0 0 (MQ below (QC D tc B nn (Ar B nn) (some (.int res.1)) res.2) args s 0 0 (Ar B nn)) h4 53 [(0, .ref a0)] [])) e ?_ (fun j5 Jj5 e => ?_)
    · intro h4 e
      refine V_aload_n (q := 54) X (TB.get tb_X9_readEndLine 32 rfl) rfl rfl rfl ?_
      refine V_bipush (v := 59) (q := 56) X (TB.get tb_X9_readEndLine 33 rfl) c_bipush_59 rfl ?_
      obtain ⟨p6, ep6, e⟩ := bs e
      refine V_callV (q := 59) (As := [.int (59 : Int32)]) (rest := []) (st' := [.int p6.1]) X (TB.get tb_X9_readEndLine 34 rfl) rfl cv_RX9_179 (ok_X9_eats fu a0 (59 : Int32) h4 p6 ep6).1 (ok_X9_eats fu a0 (59 : Int32) h4 p6 ep6).2 (Nat.le_of_ble_eq_true rfl) rfl rfl (Nat.le_of_ble_eq_true rfl) rfl ?_
      obtain ⟨z7, ez7, e⟩ := bs e
      cases e
      exact V_zretH X hr hlk ez7 (TB.get tb_X9_readEndLine 35 rfl)
    refine V_sub (lv' := [(0, .ref a0), (1, .int x3)]) [1, 0] rfl ?_
    refine wh1_elim (P := fun h8 => V p l en (rmD 6) s m args below meth c 2 D tc B nn (Ar B nn) s.heap 0 0 (MQ below (QC D tc B nn (Ar B nn) (some (.int res.1)) res.2) args s 0 0 (Ar B nn)) h8 18 [(0, .ref a0), (1, .int x3)] []) (f := fu) ?_ e
    intro self9 h8 ihself9 e
    unfold MX9_readEndLine_B18 at e
    refine V_aload_n (q := 19) X (TB.get tb_X9_readEndLine 10 rfl) rfl rfl rfl ?_
    refine V_iload_n (q := 20) X (TB.get tb_X9_readEndLine 11 rfl) rfl rfl rfl ?_
    obtain ⟨p10, ep10, e⟩ := bs e
    refine V_callV (q := 23) (As := [.int x3]) (rest := []) (st' := [.int p10.1]) X (TB.get tb_X9_readEndLine 12 rfl) rfl cv_RX9_185 (ok_X9_readState fu a0 x3 h8 p10 ep10).1 (ok_X9_readState fu a0 x3 h8 p10 ep10).2 (Nat.le_of_ble_eq_true rfl) rfl rfl (Nat.le_of_ble_eq_true rfl) rfl ?_
    refine V_if_ne (q := 26) (t := 28) X (TB.get tb_X9_readEndLine 13 rfl) rfl rfl (fun hc => ?_) (fun hc => ?_)
    · have e := (if_neg hc).symm.trans e
      refine V_aload_n (q := 29) X (TB.get tb_X9_readEndLine 16 rfl) rfl rfl rfl ?_
      obtain ⟨x11, ex11, e⟩ := bs e
      refine V_getR (q := 32) X (TB.get tb_X9_readEndLine 17 rfl) rfl lf_RX9_16 ex11 ?_
      refine V_bipush (v := 7) (q := 34) X (TB.get tb_X9_readEndLine 18 rfl) c_bipush_7 rfl ?_
      refine V_iload_n (q := 35) X (TB.get tb_X9_readEndLine 19 rfl) rfl rfl rfl ?_
      refine V_iadd (q := 36) X (TB.get tb_X9_readEndLine 20 rfl) rfl ?_
      refine V_dup2 (q := 37) X (TB.get tb_X9_readEndLine 21 rfl) rfl rfl rfl ?_
      obtain ⟨x12, ex12, e⟩ := bs e
      refine V_iaload (q := 38) X (TB.get tb_X9_readEndLine 22 rfl) rfl ex12 ?_
      refine V_iconst (v := 1) (q := 39) X (TB.get tb_X9_readEndLine 23 rfl) c_iconst_1 rfl ?_
      refine V_aload_n (q := 40) X (TB.get tb_X9_readEndLine 24 rfl) rfl rfl rfl ?_
      obtain ⟨x13, ex13, e⟩ := bs e
      refine V_getI (q := 43) X (TB.get tb_X9_readEndLine 25 rfl) rfl lf_RX9_172 ex13 ?_
      refine V_ishl (q := 44) X (TB.get tb_X9_readEndLine 26 rfl) rfl ?_
      refine V_ior (q := 45) X (TB.get tb_X9_readEndLine 27 rfl) rfl ?_
      obtain ⟨h14, eh14, e⟩ := bs e
      refine V_iastore (q := 46) X (TB.get tb_X9_readEndLine 28 rfl) rfl eh14 ?_
      refine V_aload_n (q := 47) X (TB.get tb_X9_readEndLine 29 rfl) rfl rfl rfl ?_
      obtain ⟨x15, ex15, e⟩ := bs e
      refine V_callV (q := 50) (As := []) (rest := []) (st' := [.int x15]) X (TB.get tb_X9_readEndLine 30 rfl) rfl cv_RX9_164 (ok_X9_isName fu a0 h14 x15 ex15).1 (ok_X9_isName fu a0 h14 x15 ex15).2 (Nat.le_of_ble_eq_true rfl) rfl rfl (Nat.le_of_ble_eq_true rfl) rfl ?_
      refine V_if_ne (q := 53) (t := 18) X (TB.get tb_X9_readEndLine 31 rfl) rfl rfl (fun hc => ?_) (fun hc => ?_)
      · have e := (if_neg hc).symm.trans e
        exact ihself9 _ e
      · have e := (if_pos hc).symm.trans e
        refine V_sub (lv' := [(0, .ref a0)]) [0] rfl ?_
        exact Jj5 _ e
    · have e := (if_pos hc).symm.trans e
      refine V_iconst (v := 0) (q := 27) X (TB.get tb_X9_readEndLine 14 rfl) c_iconst_0 rfl ?_
      cases e
      exact V_zret X hr hlk (Or.inl rfl) (TB.get tb_X9_readEndLine 15 rfl)
  · have e := (if_pos hc).symm.trans e
    refine V_iconst (v := 0) (q := 12) X (TB.get tb_X9_readEndLine 5 rfl) c_iconst_0 rfl ?_
    cases e
    exact V_zret X hr hlk (Or.inl rfl) (TB.get tb_X9_readEndLine 6 rfl)
set_option maxRecDepth 100000 in
set_option maxHeartbeats 4000000 in
theorem ok_X9_cell (a0 : Int32) (a1 : Int32) (a2 : Int32) (a3 : Int32) (h : Hp) (res : Int32) (e : MX9_cell a0 a1 a2 a3 = some res) : CK yX9_cell cX9_cell 4 (some .int) 1 [.int a0, .int a1, .int a2, .int a3] h (some (.int res)) h := by
  unfold MX9_cell at e
  refine CK_of pn_RX9 cm_X9_cell (Nat.le_of_ble_eq_true rfl) ?_
  intro l D tc B nn p en s m args below meth c X hr hlk
  replace X : CX p (rmD 1) s m args c cX9_cell 4 RX9 D tc 1 := X
  show V p l en (rmD 1) s m args below meth c 4 D tc B nn (Ar B nn) s.heap 0 0 (MQ below (QC D tc B nn (Ar B nn) (some (.int res)) h) args s 0 0 (Ar B nn)) h 0 [(0, .int a0), (1, .int a1), (2, .int a2), (3, .int a3)] []
  refine V_iload_n (q := 1) X (TB.get tb_X9_cell 0 rfl) rfl rfl rfl ?_
  refine V_bipush (v := 6) (q := 3) X (TB.get tb_X9_cell 1 rfl) c_bipush_6 rfl ?_
  refine V_iload_n (q := 4) X (TB.get tb_X9_cell 2 rfl) rfl rfl rfl ?_
  refine V_iload_n (q := 5) X (TB.get tb_X9_cell 3 rfl) rfl rfl rfl ?_
  obtain ⟨x1, ex1, e⟩ := bs e
  refine V_callS (q := 8) (As := [.int a1, .int a2]) (rest := [.int (6 : Int32), .int a0]) (st' := [.int x1, .int (6 : Int32), .int a0]) X (TB.get tb_X9_cell 4 rfl) rfl cs_RX9_188 (ok_X9_methodAt a1 a2 h x1 ex1) (Nat.le_of_ble_eq_true rfl) rfl rfl (Nat.le_of_ble_eq_true rfl) rfl ?_
  refine V_imul (q := 9) X (TB.get tb_X9_cell 5 rfl) rfl ?_
  refine V_iadd (q := 10) X (TB.get tb_X9_cell 6 rfl) rfl ?_
  refine V_iload_n (q := 11) X (TB.get tb_X9_cell 7 rfl) rfl rfl rfl ?_
  refine V_iadd (q := 12) X (TB.get tb_X9_cell 8 rfl) rfl ?_
  cases e
  exact V_iret X hr hlk (TB.get tb_X9_cell 9 rfl)
