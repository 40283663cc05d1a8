def C_X7a (o n : Nat) (h : Hp) : Hp := (h_sR (a_new 13 18 (h_sR (a_new 12 900 h n) o 6 n) (n + 1)) o 7 (n + 1))
theorem jv_RX7_21 : SV RX7 21 yJ0_length_8abf5 cJ0_length_8abf5 1 (some .int) 0 := ⟨(gt1 40 rfl rfl), (gt1 41 rfl rfl), (gt1 42 rfl rfl), (gt1 4 rfl rfl), cm_J0_length_8abf5, by decide +kernel, by decide⟩
theorem jv_RX7_27 : SV RX7 27 yJ0_charAt_5068e cJ0_charAt_5068e 2 (some .char) 1 := ⟨(gt1 50 rfl rfl), (gt1 51 rfl rfl), (gt1 52 rfl rfl), (gt1 4 rfl rfl), cm_J0_charAt_5068e, by decide +kernel, by decide⟩
theorem c_kl_RX7_31 : Cond.constantLong RX7 31 32 ∈ GT := (gt1 88 rfl rfl)
theorem h_rowL_put {h : Hp} {a : Nat} {f : Nat → Int64} {k : Nat} {x : Int64} : h_sL (h_rowL h a f) a k x = h_rowL h a (fun j => if j = k then x else f j) := by
  unfold h_sL h_rowL u2
  simp only [if_true]
  congr 2
  congr 1
  funext b
  by_cases hb : b = a
  · simp [hb]
  · simp [hb]
/-- the words so far: how many, the letters of the one that is read, the row -/
def tp_step (q : Nat × Int64 × (Nat → Int64)) (b : Int32) : Nat × Int64 × (Nat → Int64) :=
  if b = 32 then (if q.1 < 18 then (q.1 + 1, 0, fun j => if j = q.1 then q.2.1 else q.2.2 j) else q) else (q.1, q.2.1 * 32 + (b - 97 + 1).toInt64, q.2.2)
def tp : Nat → Nat × Int64 × (Nat → Int64)
  | 0 => (0, 0, fun _ => 0)
  | i + 1 => tp_step (tp i) (RB.getD i 0)
theorem tp_le : ∀ i, (tp i).1 ≤ 18 := by
  intro i
  induction i with
  | zero => exact Nat.zero_le _
  | succ i ih =>
    unfold tp tp_step
    split
    · split
      · show _ + 1 ≤ 18; omega
      · exact ih
    · exact ih
def C_X7 (o n : Nat) (h : Hp) : Hp := h_rowL (C_X7a o n h) (n + 1) (tp 86).2.2
theorem C_X7a_kind {o n i : Nat} {h : Hp} (hi : i < n) : (C_X7a o n h).1 i = h.1 i := (a_kd (by omega) (a_kd (by omega) rfl))
theorem C_X7_kind {o n i : Nat} {h : Hp} (hi : i < n) : (C_X7 o n h).1 i = h.1 i := C_X7a_kind hi
theorem C_X7_kd {o n i : Nat} {h : Hp} {x : Nat × Nat} (hi : i < n) (e : h.1 i = x) : (C_X7 o n h).1 i = x := (C_X7_kind hi).trans e
theorem C_X7_kd1 {o n i : Nat} {h : Hp} {x : Nat} (hi : i < n) (e : (h.1 i).1 = x) : ((C_X7 o n h).1 i).1 = x := by rw [C_X7_kind hi]; exact e
section TapeRows
variable {p : Program} {l : Launch} {e : Env} {R : Room} {s : State} {m : MethodId} {args : Array Value} {below : List Frame} {meth : Method} {c : Code} {cc : ByteArray} {nL : Nat} {D : va_G} {tc : Nat → ClassId} {d B n cells slots : Nat} {Q : State → Prop} {h : Hp} {pc : Nat} {lv : List (Nat × Value)} {st : List Value}
theorem V_strlen {K Vv : Nat} (X : CX p R s m args c cc nL RX7 D tc d) (hR : vk_R RX7 19 TXT K s) (hST : STk K Vv (AB B) s s.heap) (hd1 : decode cc pc = .ok (.ldc 19, 2)) (hd2 : decode cc (pc + 2) = .ok (.invokevirtual 21, 3)) (hdd : 2 ≤ d) (hst : (st.map fun v => v.category).sum ≤ 8) (k : V p l e R s m args below meth c nL D tc B n (AB B) s.heap cells slots Q h (pc + 5) lv (.int 86 :: st)) : V p l e R s m args below meth c nL D tc B n (AB B) s.heap cells slots Q h pc lv st := by
  intro H locs ls hn hP hS hl
  refine va_ldcS X.1 X.2.1 X.2.2.2.1 hR hd1 ?_
  have hSTH : ∀ U : State, U.heap = H → s.WarmedH U.vm → SPf K Vv U := fun U hU hW => by
    show STk K Vv Nw0 U U.heap
    rw [hU]
    exact ((hST.kept hS.2.1).narrow (fun q h => h.elim)).moved hW.alike
  refine SW_callV (As := []) (rest := st.map (trv B)) (nL := nL) ⟨X.1, X.2.1, X.2.2.1, X.2.2.2.1, X.2.2.2.2.1⟩ hl.1 hd2 jv_RX7_21 (sm_length K Vv) hSTH (vk_recv hST.1 (i := 0) (by decide) hS) (by rw [X.2.2.2.2.2.2.1]; exact hdd) (by rw [X.2.2.2.2.2.2.2]; omega) rfl rfl (by rw [cat_tr]; exact hst) hn.2.2 (fun locs1 hlo => ?_)
  exact k H locs1 ls hn hP ⟨hS.1, hS.2.1, fun q hq => hS.2.2 q (hlo q hq)⟩ hl
theorem V_strchr {K Vv i j : Nat} (hj : j < 86) (X : CX p R s m args c cc nL RX7 D tc d) (hR : vk_R RX7 19 TXT K s) (hST : STk K Vv (AB B) s s.heap) (hd1 : decode cc pc = .ok (.ldc 19, 2)) (hd3 : decode cc (pc + 2) = .ok (.iload i, 2)) (hg : lget lv i = some (.int (nI j))) (hd2 : decode cc (pc + 4) = .ok (.invokevirtual 27, 3)) (hdd : 4 ≤ d) (hst : (st.map fun v => v.category).sum ≤ 8) (k : V p l e R s m args below meth c nL D tc B n (AB B) s.heap cells slots Q h (pc + 7) lv (.int (RB.getD j 0) :: st)) : V p l e R s m args below meth c nL D tc B n (AB B) s.heap cells slots Q h pc lv st := by
  intro H locs ls hn hP hS hl
  refine va_ldcS X.1 X.2.1 X.2.2.2.1 hR hd1 ?_
  refine lv_iload X.1 X.2.1 hd3 (lv_get hl hg) ?_
  have hSTH : ∀ U : State, U.heap = H → s.WarmedH U.vm → SPf K Vv U := fun U hU hW => by
    show STk K Vv Nw0 U U.heap
    rw [hU]
    exact ((hST.kept hS.2.1).narrow (fun q h => h.elim)).moved hW.alike
  refine SW_callV (As := [.int (nI j)]) (rest := st.map (trv B)) (nL := nL) ⟨X.1, X.2.1, X.2.2.1, X.2.2.2.1, X.2.2.2.2.1⟩ hl.1 hd2 jv_RX7_27 (sm_charAt K Vv j hj) hSTH (vk_recv hST.1 (i := 0) (by decide) hS) (by rw [X.2.2.2.2.2.2.1]; exact hdd) (by rw [X.2.2.2.2.2.2.2]; omega) rfl rfl (by rw [cat_tr]; exact hst) hn.2.2 (fun locs1 hlo => ?_)
  exact k H locs1 ls hn hP ⟨hS.1, hS.2.1, fun q hq => hS.2.2 q (hlo q hq)⟩ hl
end TapeRows
set_option maxRecDepth 100000 in
set_option maxHeartbeats 4000000 in
theorem okc_7 (o n : Nat) (h : Hp) (hk : (h.1 o).1 = 7) (ho : o < n) : CKA yX7_init cX7_init 6 4 2 918 [.ref o] n h (C_X7 o n h) := by
  refine CKA_of pn_RX7 (gt1 37 rfl rfl) (Nat.le_of_ble_eq_true rfl) rfl ?_
  intro l D tc B p en s m args below meth c X hr hlk hin hs hNW
  replace X : CX p (rmA 4 2 918) s m args c cX7_init 6 RX7 D tc 4 := X
  show V p l en (rmA 4 2 918) s m args below meth c 6 D tc B n (AB B) s.heap 0 0 (MQ below (QCA D tc B (n + 2) (C_X7 o n h)) args s 2 918 (AB B)) h 0 [(0, .ref o)] []
  refine V_aload_n (q := 1) X (TB.get tb_X7_init 0 rfl) rfl rfl rfl ?_
  refine V_objInit (q := 4) X (TB.get tb_X7_init 1 rfl) rfl oi_RX7 oi_1 oi_2 (Nat.le_of_ble_eq_true rfl) (Nat.le_of_ble_eq_true rfl) ?_
  refine V_aload_n (q := 5) X (TB.get tb_X7_init 2 rfl) rfl rfl rfl ?_
  refine V_sipush (v := 900) (q := 8) X (TB.get tb_X7_init 3 rfl) c_sipush_900 rfl ?_
  refine V_newB (q := 10) 900 X (TB.get tb_X7_init 4 rfl) rfl ay_byte (by decide) (by decide) (by decide) (by omega) (Nat.le_of_ble_eq_true rfl) (Nat.le_of_ble_eq_true rfl) (by omega) ?_
  have hk : ((a_new 12 900 h n).1 o).1 = 7 := by exact a_kd1 (by omega) hk
  refine V_nn (n' := (n + 1)) (c' := 1) (s' := 900) rfl rfl rfl ?_
  refine V_putF (q := 13) X hin (TB.get tb_X7_init 5 rfl) rfl ff_RX7_9 hk ?_
  have hk : ((h_sR (a_new 12 900 h n) o 6 n).1 o).1 = 7 := hk
  refine V_aload_n (q := 14) X (TB.get tb_X7_init 6 rfl) rfl rfl rfl ?_
  refine V_bipush (v := 18) (q := 16) X (TB.get tb_X7_init 7 rfl) c_bipush_18 rfl ?_
  refine V_newL (q := 18) 18 X (TB.get tb_X7_init 8 rfl) rfl ay_long (by decide) (by decide) (by decide) (by omega) (Nat.le_of_ble_eq_true rfl) (Nat.le_of_ble_eq_true rfl) (by omega) ?_
  have hk : ((a_new 13 18 (h_sR (a_new 12 900 h n) o 6 n) (n + 1)).1 o).1 = 7 := by exact a_kd1 (by omega) hk
  refine V_nn (n' := (n + 2)) (c' := 2) (s' := 918) rfl rfl rfl ?_
  refine V_putF (q := 21) X hin (TB.get tb_X7_init 9 rfl) rfl ff_RX7_15 hk ?_
  have hk : ((h_sR (a_new 13 18 (h_sR (a_new 12 900 h n) o 6 n) (n + 1)) o 7 (n + 1)).1 o).1 = 7 := hk
  change V p l en (rmA 4 2 918) s m args below meth c 6 D tc B (n + 2) (AB B) s.heap 2 918 (MQ below (QCA D tc B (n + 2) (C_X7 o n h)) args s 2 918 (AB B)) (C_X7a o n h) 21 [(0, .ref o)] []
  have ka : ((C_X7a o n h).1 o).1 = 7 := hk
  have kb : (C_X7a o n h).2.2.2 o 7 = some (n + 1) ∧ (C_X7a o n h).1 (n + 1) = (13, 18) := by
    refine ⟨?_, ?_⟩ <;> (unfold C_X7a; simp [h_sR, u2, a_new])
  have kz : h_rowL (C_X7a o n h) (n + 1) (fun _ => 0) = C_X7a o n h := by
    unfold h_rowL
    have : (fun b => if b = n + 1 then (fun _ => 0) else (C_X7a o n h).2.2.1 b) = (C_X7a o n h).2.2.1 := by
      funext b
      by_cases hb : b = n + 1
      · subst hb
        unfold C_X7a
        simp [h_sR, a_new]
      · simp [hb]
    rw [this]
  obtain ⟨⟨-, K, Vv, hR, hST⟩, -⟩ := hNW
  have loop : ∀ (r i : Nat), r + i = 86 → V p l en (rmA 4 2 918) s m args below meth c 6 D tc B (n + 2) (AB B) s.heap 2 918 (MQ below (QCA D tc B (n + 2) (C_X7 o n h)) args s 2 918 (AB B)) (h_rowL (C_X7a o n h) (n + 1) (tp i).2.2) 28 [(4, .int (nI i)), (2, .long (tp i).2.1), (1, .int (nI (tp i).1)), (0, .ref o)] [] := by
    intro r
    induction r with
    | zero =>
      intro i hi
      have hi : i = 86 := by omega
      subst hi
      refine V_iload (q := 30) X (TB.get tb_X7_init 16 rfl) rfl rfl ?_
      refine V_strlen X hR hST (TB.get tb_X7_init 17 rfl) (TB.get tb_X7_init 18 rfl) (Nat.le_of_ble_eq_true rfl) (Nat.le_of_ble_eq_true rfl) ?_
      refine V_icmp_ge (q := 38) (t := 96) X (TB.get tb_X7_init 19 rfl) rfl rfl (fun hc => ?_) (fun hc => absurd (by decide) hc)
      exact V_vretA X hr hlk (TB.get tb_X7_init 52 rfl)
    | succ r ih =>
      intro i hi
      have hnx := ih (i + 1) (by omega)
      have hle := tp_le i
      rw [tp, tp_step] at hnx
      generalize tp i = Y at hnx hle ⊢
      obtain ⟨y1, y2, y3⟩ := Y
      dsimp only at hnx hle ⊢
      refine V_iload (q := 30) X (TB.get tb_X7_init 16 rfl) rfl rfl ?_
      refine V_strlen X hR hST (TB.get tb_X7_init 17 rfl) (TB.get tb_X7_init 18 rfl) (Nat.le_of_ble_eq_true rfl) (Nat.le_of_ble_eq_true rfl) ?_
      refine V_icmp_ge (q := 38) (t := 96) X (TB.get tb_X7_init 19 rfl) rfl rfl (fun hc => absurd hc (nI_ge (a := i) (b := 86) (by omega) (by decide))) (fun hc => ?_)
      refine V_strchr (i := 4) (j := i) (by omega) X hR hST (TB.get tb_X7_init 20 rfl) (TB.get tb_X7_init 21 rfl) rfl (TB.get tb_X7_init 22 rfl) (Nat.le_of_ble_eq_true rfl) (Nat.le_of_ble_eq_true rfl) ?_
      generalize RB.getD i 0 = b at hnx ⊢
      refine V_istore (q := 47) (lv' := [(5, .int b), (4, .int (nI i)), (2, .long y2), (1, .int (nI y1)), (0, .ref o)]) X (TB.get tb_X7_init 23 rfl) rfl (Nat.le_of_ble_eq_true rfl) rfl ?_
      refine V_iload (q := 49) X (TB.get tb_X7_init 24 rfl) rfl rfl ?_
      refine V_bipush (v := 32) (q := 51) X (TB.get tb_X7_init 25 rfl) c_bipush_32 rfl ?_
      refine V_icmp_eq (q := 54) (t := 72) X (TB.get tb_X7_init 26 rfl) rfl rfl (fun hb => ?_) (fun hb => ?_)
      · rw [if_pos hb] at hnx
        refine V_iload_n (q := 73) X (TB.get tb_X7_init 39 rfl) rfl rfl rfl ?_
        refine V_bipush (v := 18) (q := 75) X (TB.get tb_X7_init 40 rfl) c_bipush_18 rfl ?_
        refine V_icmp_ge (q := 78) (t := 90) X (TB.get tb_X7_init 41 rfl) rfl rfl (fun h18 => ?_) (fun h18 => ?_)
        · have h18n : ¬ y1 < 18 := fun z => nI_ge (a := y1) (b := 18) z (by decide) h18
          rw [if_neg h18n] at hnx
          refine V_iinc (q := 93) (v := nI (i + 1)) (lv' := [(4, .int (nI (i + 1))), (5, .int b), (2, .long y2), (1, .int (nI y1)), (0, .ref o)]) X (TB.get tb_X7_init 50 rfl) rfl rfl (by rw [c_iconst_1, nI_succ]) (Nat.le_of_ble_eq_true rfl) rfl ?_
          refine V_goto (q := 28) X (TB.get tb_X7_init 51 rfl) rfl ?_
          exact V_sub [0, 2, 3, 4] rfl hnx
        · have h18n : y1 < 18 := by
            rcases Nat.lt_or_ge y1 18 with z | z
            · exact z
            · exact absurd (nI_le (a := 18) z (by omega)) h18
          rw [if_pos h18n] at hnx
          refine V_aload_n (q := 79) X (TB.get tb_X7_init 42 rfl) rfl rfl rfl ?_
          refine V_getR (q := 82) X (TB.get tb_X7_init 43 rfl) rfl lf_RX7_15 (x := n + 1) (by unfold h_fR; rw [if_pos (show ((h_rowL (C_X7a o n h) (n + 1) y3).1 o).1 = 7 from ka)]; exact kb.1) ?_
          refine V_iload_n (q := 83) X (TB.get tb_X7_init 44 rfl) rfl rfl rfl ?_
          refine V_lload_n (q := 84) X (TB.get tb_X7_init 45 rfl) rfl rfl rfl ?_
          refine V_lastore (q := 85) (h' := h_rowL (C_X7a o n h) (n + 1) (fun j => if j = y1 then y2 else y3 j)) X (TB.get tb_X7_init 46 rfl) rfl (by
            unfold h_stL
            rw [if_pos ⟨by show ((C_X7a o n h).1 (n + 1)).1 = 13; rw [kb.2], by show ¬ (_ ∨ ((C_X7a o n h).1 (n + 1)).2 ≤ _); rw [kb.2]; exact nI_in h18n (by decide)⟩, nI_clamp (by omega), h_rowL_put]) ?_
          refine V_iinc (q := 88) (v := nI (y1 + 1)) (lv' := [(1, .int (nI (y1 + 1))), (5, .int b), (4, .int (nI i)), (2, .long y2), (0, .ref o)]) X (TB.get tb_X7_init 47 rfl) rfl rfl (by rw [c_iconst_1, nI_succ]) (Nat.le_of_ble_eq_true rfl) rfl ?_
          refine V_lconst (v := 0) (q := 89) X (TB.get tb_X7_init 48 rfl) c_lconst_0 rfl ?_
          refine V_lstore_n (q := 90) (lv' := [(2, .long (0 : Int64)), (1, .int (nI (y1 + 1))), (5, .int b), (4, .int (nI i)), (0, .ref o)]) X (TB.get tb_X7_init 49 rfl) rfl rfl (Nat.le_of_ble_eq_true rfl) rfl ?_
          refine V_iinc (q := 93) (v := nI (i + 1)) (lv' := [(4, .int (nI (i + 1))), (2, .long (0 : Int64)), (1, .int (nI (y1 + 1))), (5, .int b), (0, .ref o)]) X (TB.get tb_X7_init 50 rfl) rfl rfl (by rw [c_iconst_1, nI_succ]) (Nat.le_of_ble_eq_true rfl) rfl ?_
          refine V_goto (q := 28) X (TB.get tb_X7_init 51 rfl) rfl ?_
          exact V_sub [0, 1, 2, 4] rfl hnx
      · rw [if_neg hb] at hnx
        refine V_lload_n (q := 55) X (TB.get tb_X7_init 27 rfl) rfl rfl rfl ?_
        refine V_ldc2 (v := 32) (q := 58) X (TB.get tb_X7_init 28 rfl) rfl c_kl_RX7_31 ?_
        refine V_lmul (q := 59) X (TB.get tb_X7_init 29 rfl) rfl ?_
        refine V_iload (q := 61) X (TB.get tb_X7_init 30 rfl) rfl rfl ?_
        refine V_bipush (v := 97) (q := 63) X (TB.get tb_X7_init 31 rfl) c_bipush_97 rfl ?_
        refine V_isub (q := 64) X (TB.get tb_X7_init 32 rfl) rfl ?_
        refine V_iconst (v := 1) (q := 65) X (TB.get tb_X7_init 33 rfl) c_iconst_1 rfl ?_
        refine V_iadd (q := 66) X (TB.get tb_X7_init 34 rfl) rfl ?_
        refine V_i2l (q := 67) X (TB.get tb_X7_init 35 rfl) rfl ?_
        refine V_ladd (q := 68) X (TB.get tb_X7_init 36 rfl) rfl ?_
        refine V_lstore_n (q := 69) (lv' := [(2, .long (y2 * 32 + (b - 97 + 1).toInt64)), (5, .int b), (4, .int (nI i)), (1, .int (nI y1)), (0, .ref o)]) X (TB.get tb_X7_init 37 rfl) rfl rfl (Nat.le_of_ble_eq_true rfl) rfl ?_
        refine V_goto (q := 90) X (TB.get tb_X7_init 38 rfl) rfl ?_
        refine V_iinc (q := 93) (v := nI (i + 1)) (lv' := [(4, .int (nI (i + 1))), (2, .long (y2 * 32 + (b - 97 + 1).toInt64)), (5, .int b), (1, .int (nI y1)), (0, .ref o)]) X (TB.get tb_X7_init 50 rfl) rfl rfl (by rw [c_iconst_1, nI_succ]) (Nat.le_of_ble_eq_true rfl) rfl ?_
        refine V_goto (q := 28) X (TB.get tb_X7_init 51 rfl) rfl ?_
        exact V_sub [0, 1, 3, 4] rfl hnx
  refine V_iconst (v := 0) (q := 22) X (TB.get tb_X7_init 10 rfl) c_iconst_0 rfl ?_
  refine V_istore_n (q := 23) (lv' := [(1, .int (0 : Int32)), (0, .ref o)]) X (TB.get tb_X7_init 11 rfl) rfl rfl (Nat.le_of_ble_eq_true rfl) rfl ?_
  refine V_lconst (v := 0) (q := 24) X (TB.get tb_X7_init 12 rfl) c_lconst_0 rfl ?_
  refine V_lstore_n (q := 25) (lv' := [(2, .long (0 : Int64)), (1, .int (0 : Int32)), (0, .ref o)]) X (TB.get tb_X7_init 13 rfl) rfl rfl (Nat.le_of_ble_eq_true rfl) rfl ?_
  refine V_iconst (v := 0) (q := 26) X (TB.get tb_X7_init 14 rfl) c_iconst_0 rfl ?_
  refine V_istore (q := 28) (lv' := [(4, .int (0 : Int32)), (2, .long (0 : Int64)), (1, .int (0 : Int32)), (0, .ref o)]) X (TB.get tb_X7_init 15 rfl) rfl (Nat.le_of_ble_eq_true rfl) rfl ?_
  have h9 := loop 86 0 rfl
  rw [show (tp 0).2.2 = (fun _ => 0) from rfl, kz] at h9
  exact h9
def C_X3 (o n : Nat) (h : Hp) : Hp := (h_sR (a_new 11 5 (h_sR (a_new 10 5 (h_sR (a_new 13 6 (h_sR (a_new 13 24 (h_sR (a_new 13 24 (h_sR (a_new 13 4 (h_sR (C_X4 (n + 3) (n + 4) (a_new 4 0 (h_sR (C_X7 n (n + 1) (a_new 7 0 h n)) o 0 n) (n + 3))) o 3 (n + 3)) (n + 28)) o 4 (n + 28)) (n + 29)) o 5 (n + 29)) (n + 30)) o 6 (n + 30)) (n + 31)) o 7 (n + 31)) (n + 32)) o 8 (n + 32)) (n + 33)) o 9 (n + 33))
theorem C_X3_kind {o n i : Nat} {h : Hp} (hi : i < n) : (C_X3 o n h).1 i = h.1 i := (a_kd (by omega) (a_kd (by omega) (a_kd (by omega) (a_kd (by omega) (a_kd (by omega) (a_kd (by omega) (C_X4_kd (o := (n + 3)) (n := (n + 4)) (by omega) (a_kd (by omega) (C_X7_kd (o := n) (n := (n + 1)) (by omega) (a_kd (by omega) rfl))))))))))
theorem C_X3_kd {o n i : Nat} {h : Hp} {x : Nat × Nat} (hi : i < n) (e : h.1 i = x) : (C_X3 o n h).1 i = x := (C_X3_kind hi).trans e
theorem C_X3_kd1 {o n i : Nat} {h : Hp} {x : Nat} (hi : i < n) (e : (h.1 i).1 = x) : ((C_X3 o n h).1 i).1 = x := by rw [C_X3_kind hi]; exact e
set_option maxRecDepth 100000 in
set_option maxHeartbeats 4000000 in
theorem okc_3 (o n : Nat) (h : Hp) (hk : (h.1 o).1 = 3) (ho : o < n) : CKA yX3_init cX3_init 1 5 34 1839 [.ref o] n h (C_X3 o n h) := by
  refine CKA_of pn_RX3 (gt1 31 rfl rfl) (Nat.le_of_ble_eq_true rfl) rfl ?_
  intro l D tc B p en s m args below meth c X hr hlk hin hs hNW
  replace X : CX p (rmA 5 34 1839) s m args c cX3_init 1 RX3 D tc 5 := X
  show V p l en (rmA 5 34 1839) s m args below meth c 1 D tc B n (AB B) s.heap 0 0 (MQ below (QCA D tc B (n + 34) (C_X3 o n h)) args s 34 1839 (AB B)) h 0 [(0, .ref o)] []
  refine V_aload_n (q := 1) X (TB.get tb_X3_init 0 rfl) rfl rfl rfl ?_
  refine V_objInit (q := 4) X (TB.get tb_X3_init 1 rfl) rfl oi_RX3 oi_1 oi_2 (Nat.le_of_ble_eq_true rfl) (Nat.le_of_ble_eq_true rfl) ?_
  refine V_aload_n (q := 5) X (TB.get tb_X3_init 2 rfl) rfl rfl rfl ?_
  refine V_new (q := 8) X (TB.get tb_X3_init 3 rfl) rfl nc_RX3_9 (by omega) (Nat.le_of_ble_eq_true rfl) (Nat.le_of_ble_eq_true rfl) ?_ (by omega)
  have hk : ((a_new 7 0 h n).1 o).1 = 3 := by exact a_kd1 (by omega) hk
  have hk7 : ((a_new 7 0 h n).1 n).1 = 7 := by rw [a_new_eq]
  refine V_nn (n' := (n + 1)) (c' := 1) (s' := 8) rfl rfl rfl ?_
  refine V_dup (q := 9) X (TB.get tb_X3_init 4 rfl) rfl rfl ?_
  refine V_callI (q := 12) X hNW (TB.get tb_X3_init 5 rfl) rfl (Or.inl (gt1 35 rfl rfl)) ci_7 (okc_7 n (n + 1) _ hk7 (by omega)) (Nat.le_of_ble_eq_true rfl) (Nat.le_of_ble_eq_true rfl) (by omega) (by omega) (Nat.le_of_ble_eq_true rfl) (Nat.le_of_ble_eq_true rfl) ?_
  have hk : ((C_X7 n (n + 1) (a_new 7 0 h n)).1 o).1 = 3 := by exact C_X7_kd1 (o := n) (n := (n + 1)) (by omega) hk
  refine V_nn (n' := (n + 3)) (c' := 3) (s' := 926) rfl rfl rfl ?_
  refine V_putF (q := 15) X hin (TB.get tb_X3_init 6 rfl) rfl ff_RX3_12 hk ?_
  have hk : ((h_sR (C_X7 n (n + 1) (a_new 7 0 h n)) o 0 n).1 o).1 = 3 := hk
  refine V_aload_n (q := 16) X (TB.get tb_X3_init 7 rfl) rfl rfl rfl ?_
  refine V_new (q := 19) X (TB.get tb_X3_init 8 rfl) rfl nc_RX3_18 (by omega) (Nat.le_of_ble_eq_true rfl) (Nat.le_of_ble_eq_true rfl) ?_ (by omega)
  have hk : ((a_new 4 0 (h_sR (C_X7 n (n + 1) (a_new 7 0 h n)) o 0 n) (n + 3)).1 o).1 = 3 := by exact a_kd1 (by omega) hk
  have hk4 : ((a_new 4 0 (h_sR (C_X7 n (n + 1) (a_new 7 0 h n)) o 0 n) (n + 3)).1 (n + 3)).1 = 4 := by rw [a_new_eq]
  refine V_nn (n' := (n + 4)) (c' := 4) (s' := 941) rfl rfl rfl ?_
  refine V_dup (q := 20) X (TB.get tb_X3_init 9 rfl) rfl rfl ?_
  refine V_callI (q := 23) X hNW (TB.get tb_X3_init 10 rfl) rfl (Or.inr ⟨RX8, by decide +kernel⟩) ci_4 (okc_4 (n + 3) (n + 4) _ hk4 (by omega)) (Nat.le_of_ble_eq_true rfl) (Nat.le_of_ble_eq_true rfl) (by omega) (by omega) (Nat.le_of_ble_eq_true rfl) (Nat.le_of_ble_eq_true rfl) ?_
  have hk : ((C_X4 (n + 3) (n + 4) (a_new 4 0 (h_sR (C_X7 n (n + 1) (a_new 7 0 h n)) o 0 n) (n + 3))).1 o).1 = 3 := by exact C_X4_kd1 (o := (n + 3)) (n := (n + 4)) (by omega) hk
  refine V_nn (n' := (n + 28)) (c' := 28) (s' := 1771) rfl rfl rfl ?_
  refine V_putR (q := 26) (h' := h_sR (C_X4 (n + 3) (n + 4) (a_new 4 0 (h_sR (C_X7 n (n + 1) (a_new 7 0 h n)) o 0 n) (n + 3))) o 3 (n + 3)) X (TB.get tb_X3_init 11 rfl) rfl fp_RX3_21 (if_pos hk) ?_
  have hk : ((h_sR (C_X4 (n + 3) (n + 4) (a_new 4 0 (h_sR (C_X7 n (n + 1) (a_new 7 0 h n)) o 0 n) (n + 3))) o 3 (n + 3)).1 o).1 = 3 := hk
  refine V_aload_n (q := 27) X (TB.get tb_X3_init 12 rfl) rfl rfl rfl ?_
  refine V_iconst (v := 4) (q := 28) X (TB.get tb_X3_init 13 rfl) c_iconst_4 rfl ?_
  refine V_newL (q := 30) 4 X (TB.get tb_X3_init 14 rfl) rfl ay_long (by decide) (by decide) (by decide) (by omega) (Nat.le_of_ble_eq_true rfl) (Nat.le_of_ble_eq_true rfl) (by omega) ?_
  have hk : ((a_new 13 4 (h_sR (C_X4 (n + 3) (n + 4) (a_new 4 0 (h_sR (C_X7 n (n + 1) (a_new 7 0 h n)) o 0 n) (n + 3))) o 3 (n + 3)) (n + 28)).1 o).1 = 3 := by exact a_kd1 (by omega) hk
  refine V_nn (n' := (n + 29)) (c' := 29) (s' := 1775) rfl rfl rfl ?_
  refine V_putF (q := 33) X hin (TB.get tb_X3_init 15 rfl) rfl ff_RX3_25 hk ?_
  have hk : ((h_sR (a_new 13 4 (h_sR (C_X4 (n + 3) (n + 4) (a_new 4 0 (h_sR (C_X7 n (n + 1) (a_new 7 0 h n)) o 0 n) (n + 3))) o 3 (n + 3)) (n + 28)) o 4 (n + 28)).1 o).1 = 3 := hk
  refine V_aload_n (q := 34) X (TB.get tb_X3_init 16 rfl) rfl rfl rfl ?_
  refine V_bipush (v := 24) (q := 36) X (TB.get tb_X3_init 17 rfl) c_bipush_24 rfl ?_
  refine V_newL (q := 38) 24 X (TB.get tb_X3_init 18 rfl) rfl ay_long (by decide) (by decide) (by decide) (by omega) (Nat.le_of_ble_eq_true rfl) (Nat.le_of_ble_eq_true rfl) (by omega) ?_
  have hk : ((a_new 13 24 (h_sR (a_new 13 4 (h_sR (C_X4 (n + 3) (n + 4) (a_new 4 0 (h_sR (C_X7 n (n + 1) (a_new 7 0 h n)) o 0 n) (n + 3))) o 3 (n + 3)) (n + 28)) o 4 (n + 28)) (n + 29)).1 o).1 = 3 := by exact a_kd1 (by omega) hk
  refine V_nn (n' := (n + 30)) (c' := 30) (s' := 1799) rfl rfl rfl ?_
  refine V_putF (q := 41) X hin (TB.get tb_X3_init 19 rfl) rfl ff_RX3_29 hk ?_
  have hk : ((h_sR (a_new 13 24 (h_sR (a_new 13 4 (h_sR (C_X4 (n + 3) (n + 4) (a_new 4 0 (h_sR (C_X7 n (n + 1) (a_new 7 0 h n)) o 0 n) (n + 3))) o 3 (n + 3)) (n + 28)) o 4 (n + 28)) (n + 29)) o 5 (n + 29)).1 o).1 = 3 := hk
  refine V_aload_n (q := 42) X (TB.get tb_X3_init 20 rfl) rfl rfl rfl ?_
  refine V_bipush (v := 24) (q := 44) X (TB.get tb_X3_init 21 rfl) c_bipush_24 rfl ?_
  refine V_newL (q := 46) 24 X (TB.get tb_X3_init 22 rfl) rfl ay_long (by decide) (by decide) (by decide) (by omega) (Nat.le_of_ble_eq_true rfl) (Nat.le_of_ble_eq_true rfl) (by omega) ?_
  have hk : ((a_new 13 24 (h_sR (a_new 13 24 (h_sR (a_new 13 4 (h_sR (C_X4 (n + 3) (n + 4) (a_new 4 0 (h_sR (C_X7 n (n + 1) (a_new 7 0 h n)) o 0 n) (n + 3))) o 3 (n + 3)) (n + 28)) o 4 (n + 28)) (n + 29)) o 5 (n + 29)) (n + 30)).1 o).1 = 3 := by exact a_kd1 (by omega) hk
  refine V_nn (n' := (n + 31)) (c' := 31) (s' := 1823) rfl rfl rfl ?_
  refine V_putF (q := 49) X hin (TB.get tb_X3_init 23 rfl) rfl ff_RX3_32 hk ?_
  have hk : ((h_sR (a_new 13 24 (h_sR (a_new 13 24 (h_sR (a_new 13 4 (h_sR (C_X4 (n + 3) (n + 4) (a_new 4 0 (h_sR (C_X7 n (n + 1) (a_new 7 0 h n)) o 0 n) (n + 3))) o 3 (n + 3)) (n + 28)) o 4 (n + 28)) (n + 29)) o 5 (n + 29)) (n + 30)) o 6 (n + 30)).1 o).1 = 3 := hk
  refine V_aload_n (q := 50) X (TB.get tb_X3_init 24 rfl) rfl rfl rfl ?_
  refine V_bipush (v := 6) (q := 52) X (TB.get tb_X3_init 25 rfl) c_bipush_6 rfl ?_
  refine V_newL (q := 54) 6 X (TB.get tb_X3_init 26 rfl) rfl ay_long (by decide) (by decide) (by decide) (by omega) (Nat.le_of_ble_eq_true rfl) (Nat.le_of_ble_eq_true rfl) (by omega) ?_
  have hk : ((a_new 13 6 (h_sR (a_new 13 24 (h_sR (a_new 13 24 (h_sR (a_new 13 4 (h_sR (C_X4 (n + 3) (n + 4) (a_new 4 0 (h_sR (C_X7 n (n + 1) (a_new 7 0 h n)) o 0 n) (n + 3))) o 3 (n + 3)) (n + 28)) o 4 (n + 28)) (n + 29)) o 5 (n + 29)) (n + 30)) o 6 (n + 30)) (n + 31)).1 o).1 = 3 := by exact a_kd1 (by omega) hk
  refine V_nn (n' := (n + 32)) (c' := 32) (s' := 1829) rfl rfl rfl ?_
  refine V_putF (q := 57) X hin (TB.get tb_X3_init 27 rfl) rfl ff_RX3_35 hk ?_
  have hk : ((h_sR (a_new 13 6 (h_sR (a_new 13 24 (h_sR (a_new 13 24 (h_sR (a_new 13 4 (h_sR (C_X4 (n + 3) (n + 4) (a_new 4 0 (h_sR (C_X7 n (n + 1) (a_new 7 0 h n)) o 0 n) (n + 3))) o 3 (n + 3)) (n + 28)) o 4 (n + 28)) (n + 29)) o 5 (n + 29)) (n + 30)) o 6 (n + 30)) (n + 31)) o 7 (n + 31)).1 o).1 = 3 := hk
  refine V_aload_n (q := 58) X (TB.get tb_X3_init 28 rfl) rfl rfl rfl ?_
  refine V_iconst (v := 5) (q := 59) X (TB.get tb_X3_init 29 rfl) c_iconst_5 rfl ?_
  refine V_newI (q := 61) 5 X (TB.get tb_X3_init 30 rfl) rfl ay_int (by decide) (by decide) (by decide) (by omega) (Nat.le_of_ble_eq_true rfl) (Nat.le_of_ble_eq_true rfl) (by omega) ?_
  have hk : ((a_new 10 5 (h_sR (a_new 13 6 (h_sR (a_new 13 24 (h_sR (a_new 13 24 (h_sR (a_new 13 4 (h_sR (C_X4 (n + 3) (n + 4) (a_new 4 0 (h_sR (C_X7 n (n + 1) (a_new 7 0 h n)) o 0 n) (n + 3))) o 3 (n + 3)) (n + 28)) o 4 (n + 28)) (n + 29)) o 5 (n + 29)) (n + 30)) o 6 (n + 30)) (n + 31)) o 7 (n + 31)) (n + 32)).1 o).1 = 3 := by exact a_kd1 (by omega) hk
  refine V_nn (n' := (n + 33)) (c' := 33) (s' := 1834) rfl rfl rfl ?_
  refine V_putF (q := 64) X hin (TB.get tb_X3_init 31 rfl) rfl ff_RX3_38 hk ?_
  have hk : ((h_sR (a_new 10 5 (h_sR (a_new 13 6 (h_sR (a_new 13 24 (h_sR (a_new 13 24 (h_sR (a_new 13 4 (h_sR (C_X4 (n + 3) (n + 4) (a_new 4 0 (h_sR (C_X7 n (n + 1) (a_new 7 0 h n)) o 0 n) (n + 3))) o 3 (n + 3)) (n + 28)) o 4 (n + 28)) (n + 29)) o 5 (n + 29)) (n + 30)) o 6 (n + 30)) (n + 31)) o 7 (n + 31)) (n + 32)) o 8 (n + 32)).1 o).1 = 3 := hk
  refine V_aload_n (q := 65) X (TB.get tb_X3_init 32 rfl) rfl rfl rfl ?_
  refine V_iconst (v := 5) (q := 66) X (TB.get tb_X3_init 33 rfl) c_iconst_5 rfl ?_
  refine V_newZ (q := 68) 5 X (TB.get tb_X3_init 34 rfl) rfl ay_boolean (by decide) (by decide) (by decide) (by omega) (Nat.le_of_ble_eq_true rfl) (Nat.le_of_ble_eq_true rfl) (by omega) ?_
  have hk : ((a_new 11 5 (h_sR (a_new 10 5 (h_sR (a_new 13 6 (h_sR (a_new 13 24 (h_sR (a_new 13 24 (h_sR (a_new 13 4 (h_sR (C_X4 (n + 3) (n + 4) (a_new 4 0 (h_sR (C_X7 n (n + 1) (a_new 7 0 h n)) o 0 n) (n + 3))) o 3 (n + 3)) (n + 28)) o 4 (n + 28)) (n + 29)) o 5 (n + 29)) (n + 30)) o 6 (n + 30)) (n + 31)) o 7 (n + 31)) (n + 32)) o 8 (n + 32)) (n + 33)).1 o).1 = 3 := by exact a_kd1 (by omega) hk
  refine V_nn (n' := (n + 34)) (c' := 34) (s' := 1839) rfl rfl rfl ?_
  refine V_putF (q := 71) X hin (TB.get tb_X3_init 35 rfl) rfl ff_RX3_42 hk ?_
  have hk : ((h_sR (a_new 11 5 (h_sR (a_new 10 5 (h_sR (a_new 13 6 (h_sR (a_new 13 24 (h_sR (a_new 13 24 (h_sR (a_new 13 4 (h_sR (C_X4 (n + 3) (n + 4) (a_new 4 0 (h_sR (C_X7 n (n + 1) (a_new 7 0 h n)) o 0 n) (n + 3))) o 3 (n + 3)) (n + 28)) o 4 (n + 28)) (n + 29)) o 5 (n + 29)) (n + 30)) o 6 (n + 30)) (n + 31)) o 7 (n + 31)) (n + 32)) o 8 (n + 32)) (n + 33)) o 9 (n + 33)).1 o).1 = 3 := hk
  exact V_vretA X hr hlk (TB.get tb_X3_init 36 rfl)
def C_X9 (o n : Nat) (h : Hp) : Hp := (h_sR (a_new 10 1000 (h_sR (a_new 10 1000 (h_sR (a_new 13 1000 (h_sR (a_new 10 4 (h_sR (a_new 10 6 (h_sR (a_new 10 6 (h_sR (a_new 10 6 (h_sR (a_new 10 6 (h_sR (a_new 10 6 (h_sR (a_new 10 6 (h_sR (a_new 10 6 (h_sR (a_new 10 246 (h_sR (a_new 10 246 (h_sR (a_new 10 246 (h_sR (a_new 10 246 (h_sR (a_new 11 41 (h_sR (a_new 11 40 (h_sR (a_new 13 6 (h_sR (a_new 13 6 (h_sR (a_new 11 36 (h_sR (a_new 10 6 (h_sI (h_sI (h_sR (a_new 13 58 (h_sR (a_new 10 573 (h_sR (a_new 10 573 (h_sR (a_new 10 900 h n) o 0 n) (n + 1)) o 1 (n + 1)) (n + 2)) o 2 (n + 2)) (n + 3)) o 3 (n + 3)) o 6 (-1)) o 7 (-1)) (n + 4)) o 17 (n + 4)) (n + 5)) o 18 (n + 5)) (n + 6)) o 19 (n + 6)) (n + 7)) o 20 (n + 7)) (n + 8)) o 21 (n + 8)) (n + 9)) o 22 (n + 9)) (n + 10)) o 23 (n + 10)) (n + 11)) o 24 (n + 11)) (n + 12)) o 25 (n + 12)) (n + 13)) o 26 (n + 13)) (n + 14)) o 27 (n + 14)) (n + 15)) o 28 (n + 15)) (n + 16)) o 29 (n + 16)) (n + 17)) o 30 (n + 17)) (n + 18)) o 35 (n + 18)) (n + 19)) o 36 (n + 19)) (n + 20)) o 37 (n + 20)) (n + 21)) o 38 (n + 21)) (n + 22)) o 39 (n + 22)) (n + 23)) o 40 (n + 23)) (n + 24)) o 41 (n + 24))
theorem C_X9_kind {o n i : Nat} {h : Hp} (hi : i < n) : (C_X9 o n h).1 i = h.1 i := (a_kd (by omega) (a_kd (by omega) (a_kd (by omega) (a_kd (by omega) (a_kd (by omega) (a_kd (by omega) (a_kd (by omega) (a_kd (by omega) (a_kd (by omega) (a_kd (by omega) (a_kd (by omega) (a_kd (by omega) (a_kd (by omega) (a_kd (by omega) (a_kd (by omega) (a_kd (by omega) (a_kd (by omega) (a_kd (by omega) (a_kd (by omega) (a_kd (by omega) (a_kd (by omega) (a_kd (by omega) (a_kd (by omega) (a_kd (by omega) (a_kd (by omega) rfl)))))))))))))))))))))))))
theorem C_X9_kd {o n i : Nat} {h : Hp} {x : Nat × Nat} (hi : i < n) (e : h.1 i = x) : (C_X9 o n h).1 i = x := (C_X9_kind hi).trans e
theorem C_X9_kd1 {o n i : Nat} {h : Hp} {x : Nat} (hi : i < n) (e : (h.1 i).1 = x) : ((C_X9 o n h).1 i).1 = x := by rw [C_X9_kind hi]; exact e
set_option maxRecDepth 100000 in
set_option maxHeartbeats 4000000 in
theorem okc_9 (o n : Nat) (h : Hp) (hk : (h.1 o).1 = 9) (ho : o < n) : CKA yX9_init cX9_init 1 1 25 6269 [.ref o] n h (C_X9 o n h) := by
  refine CKA_of pn_RX9 (gt5 121 rfl rfl) (Nat.le_of_ble_eq_true rfl) rfl ?_
  intro l D tc B p en s m args below meth c X hr hlk hin hs hNW
  replace X : CX p (rmA 1 25 6269) s m args c cX9_init 1 RX9 D tc 1 := X
  show V p l en (rmA 1 25 6269) s m args below meth c 1 D tc B n (AB B) s.heap 0 0 (MQ below (QCA D tc B (n + 25) (C_X9 o n h)) args s 25 6269 (AB B)) h 0 [(0, .ref o)] []
  refine V_aload_n (q := 1) X (TB.get tb_X9_init 0 rfl) rfl rfl rfl ?_
  refine V_objInit (q := 4) X (TB.get tb_X9_init 1 rfl) rfl oi_RX9 oi_1 oi_2 (Nat.le_of_ble_eq_true rfl) (Nat.le_of_ble_eq_true rfl) ?_
  refine V_aload_n (q := 5) X (TB.get tb_X9_init 2 rfl) rfl rfl rfl ?_
  refine V_sipush (v := 900) (q := 8) X (TB.get tb_X9_init 3 rfl) c_sipush_900 rfl ?_
  refine V_newI (q := 10) 900 X (TB.get tb_X9_init 4 rfl) rfl ay_int (by decide) (by decide) (by decide) (by omega) (Nat.le_of_ble_eq_true rfl) (Nat.le_of_ble_eq_true rfl) (by omega) ?_
  have hk : ((a_new 10 900 h n).1 o).1 = 9 := by exact a_kd1 (by omega) hk
  refine V_nn (n' := (n + 1)) (c' := 1) (s' := 900) rfl rfl rfl ?_
  refine V_putF (q := 13) X hin (TB.get tb_X9_init 5 rfl) rfl ff_RX9_7 hk ?_
  have hk : ((h_sR (a_new 10 900 h n) o 0 n).1 o).1 = 9 := hk
  refine V_aload_n (q := 14) X (TB.get tb_X9_init 6 rfl) rfl rfl rfl ?_
  refine V_sipush (v := 573) (q := 17) X (TB.get tb_X9_init 7 rfl) c_sipush_573 rfl ?_
  refine V_newI (q := 19) 573 X (TB.get tb_X9_init 8 rfl) rfl ay_int (by decide) (by decide) (by decide) (by omega) (Nat.le_of_ble_eq_true rfl) (Nat.le_of_ble_eq_true rfl) (by omega) ?_
  have hk : ((a_new 10 573 (h_sR (a_new 10 900 h n) o 0 n) (n + 1)).1 o).1 = 9 := by exact a_kd1 (by omega) hk
  refine V_nn (n' := (n + 2)) (c' := 2) (s' := 1473) rfl rfl rfl ?_
  refine V_putF (q := 22) X hin (TB.get tb_X9_init 9 rfl) rfl ff_RX9_13 hk ?_
  have hk : ((h_sR (a_new 10 573 (h_sR (a_new 10 900 h n) o 0 n) (n + 1)) o 1 (n + 1)).1 o).1 = 9 := hk
  refine V_aload_n (q := 23) X (TB.get tb_X9_init 10 rfl) rfl rfl rfl ?_
  refine V_sipush (v := 573) (q := 26) X (TB.get tb_X9_init 11 rfl) c_sipush_573 rfl ?_
  refine V_newI (q := 28) 573 X (TB.get tb_X9_init 12 rfl) rfl ay_int (by decide) (by decide) (by decide) (by omega) (Nat.le_of_ble_eq_true rfl) (Nat.le_of_ble_eq_true rfl) (by omega) ?_
  have hk : ((a_new 10 573 (h_sR (a_new 10 573 (h_sR (a_new 10 900 h n) o 0 n) (n + 1)) o 1 (n + 1)) (n + 2)).1 o).1 = 9 := by exact a_kd1 (by omega) hk
  refine V_nn (n' := (n + 3)) (c' := 3) (s' := 2046) rfl rfl rfl ?_
  refine V_putF (q := 31) X hin (TB.get tb_X9_init 13 rfl) rfl ff_RX9_16 hk ?_
  have hk : ((h_sR (a_new 10 573 (h_sR (a_new 10 573 (h_sR (a_new 10 900 h n) o 0 n) (n + 1)) o 1 (n + 1)) (n + 2)) o 2 (n + 2)).1 o).1 = 9 := hk
  refine V_aload_n (q := 32) X (TB.get tb_X9_init 14 rfl) rfl rfl rfl ?_
  refine V_bipush (v := 58) (q := 34) X (TB.get tb_X9_init 15 rfl) c_bipush_58 rfl ?_
  refine V_newL (q := 36) 58 X (TB.get tb_X9_init 16 rfl) rfl ay_long (by decide) (by decide) (by decide) (by omega) (Nat.le_of_ble_eq_true rfl) (Nat.le_of_ble_eq_true rfl) (by omega) ?_
  have hk : ((a_new 13 58 (h_sR (a_new 10 573 (h_sR (a_new 10 573 (h_sR (a_new 10 900 h n) o 0 n) (n + 1)) o 1 (n + 1)) (n + 2)) o 2 (n + 2)) (n + 3)).1 o).1 = 9 := by exact a_kd1 (by omega) hk
  refine V_nn (n' := (n + 4)) (c' := 4) (s' := 2104) rfl rfl rfl ?_
  refine V_putF (q := 39) X hin (TB.get tb_X9_init 17 rfl) rfl ff_RX9_19 hk ?_
  have hk : ((h_sR (a_new 13 58 (h_sR (a_new 10 573 (h_sR (a_new 10 573 (h_sR (a_new 10 900 h n) o 0 n) (n + 1)) o 1 (n + 1)) (n + 2)) o 2 (n + 2)) (n + 3)) o 3 (n + 3)).1 o).1 = 9 := hk
  refine V_aload_n (q := 40) X (TB.get tb_X9_init 18 rfl) rfl rfl rfl ?_
  refine V_iconst (v := -1) (q := 41) X (TB.get tb_X9_init 19 rfl) c_iconst_m1 rfl ?_
  refine V_putI (q := 44) (h' := h_sI (h_sR (a_new 13 58 (h_sR (a_new 10 573 (h_sR (a_new 10 573 (h_sR (a_new 10 900 h n) o 0 n) (n + 1)) o 1 (n + 1)) (n + 2)) o 2 (n + 2)) (n + 3)) o 3 (n + 3)) o 6 (-1)) X (TB.get tb_X9_init 20 rfl) rfl fp_RX9_23 (if_pos hk) ?_
  have hk : ((h_sI (h_sR (a_new 13 58 (h_sR (a_new 10 573 (h_sR (a_new 10 573 (h_sR (a_new 10 900 h n) o 0 n) (n + 1)) o 1 (n + 1)) (n + 2)) o 2 (n + 2)) (n + 3)) o 3 (n + 3)) o 6 (-1)).1 o).1 = 9 := hk
  refine V_aload_n (q := 45) X (TB.get tb_X9_init 21 rfl) rfl rfl rfl ?_
  refine V_iconst (v := -1) (q := 46) X (TB.get tb_X9_init 22 rfl) c_iconst_m1 rfl ?_
  refine V_putI (q := 49) (h' := h_sI (h_sI (h_sR (a_new 13 58 (h_sR (a_new 10 573 (h_sR (a_new 10 573 (h_sR (a_new 10 900 h n) o 0 n) (n + 1)) o 1 (n + 1)) (n + 2)) o 2 (n + 2)) (n + 3)) o 3 (n + 3)) o 6 (-1)) o 7 (-1)) X (TB.get tb_X9_init 23 rfl) rfl fp_RX9_27 (if_pos hk) ?_
  have hk : ((h_sI (h_sI (h_sR (a_new 13 58 (h_sR (a_new 10 573 (h_sR (a_new 10 573 (h_sR (a_new 10 900 h n) o 0 n) (n + 1)) o 1 (n + 1)) (n + 2)) o 2 (n + 2)) (n + 3)) o 3 (n + 3)) o 6 (-1)) o 7 (-1)).1 o).1 = 9 := hk
  refine V_aload_n (q := 50) X (TB.get tb_X9_init 24 rfl) rfl rfl rfl ?_
  refine V_bipush (v := 6) (q := 52) X (TB.get tb_X9_init 25 rfl) c_bipush_6 rfl ?_
  refine V_newI (q := 54) 6 X (TB.get tb_X9_init 26 rfl) rfl ay_int (by decide) (by decide) (by decide) (by omega) (Nat.le_of_ble_eq_true rfl) (Nat.le_of_ble_eq_true rfl) (by omega) ?_
  have hk : ((a_new 10 6 (h_sI (h_sI (h_sR (a_new 13 58 (h_sR (a_new 10 573 (h_sR (a_new 10 573 (h_sR (a_new 10 900 h n) o 0 n) (n + 1)) o 1 (n + 1)) (n + 2)) o 2 (n + 2)) (n + 3)) o 3 (n + 3)) o 6 (-1)) o 7 (-1)) (n + 4)).1 o).1 = 9 := by exact a_kd1 (by omega) hk
  refine V_nn (n' := (n + 5)) (c' := 5) (s' := 2110) rfl rfl rfl ?_
  refine V_putF (q := 57) X hin (TB.get tb_X9_init 27 rfl) rfl ff_RX9_30 hk ?_
  have hk : ((h_sR (a_new 10 6 (h_sI (h_sI (h_sR (a_new 13 58 (h_sR (a_new 10 573 (h_sR (a_new 10 573 (h_sR (a_new 10 900 h n) o 0 n) (n + 1)) o 1 (n + 1)) (n + 2)) o 2 (n + 2)) (n + 3)) o 3 (n + 3)) o 6 (-1)) o 7 (-1)) (n + 4)) o 17 (n + 4)).1 o).1 = 9 := hk
  refine V_aload_n (q := 58) X (TB.get tb_X9_init 28 rfl) rfl rfl rfl ?_
  refine V_bipush (v := 36) (q := 60) X (TB.get tb_X9_init 29 rfl) c_bipush_36 rfl ?_
  refine V_newZ (q := 62) 36 X (TB.get tb_X9_init 30 rfl) rfl ay_boolean (by decide) (by decide) (by decide) (by omega) (Nat.le_of_ble_eq_true rfl) (Nat.le_of_ble_eq_true rfl) (by omega) ?_
  have hk : ((a_new 11 36 (h_sR (a_new 10 6 (h_sI (h_sI (h_sR (a_new 13 58 (h_sR (a_new 10 573 (h_sR (a_new 10 573 (h_sR (a_new 10 900 h n) o 0 n) (n + 1)) o 1 (n + 1)) (n + 2)) o 2 (n + 2)) (n + 3)) o 3 (n + 3)) o 6 (-1)) o 7 (-1)) (n + 4)) o 17 (n + 4)) (n + 5)).1 o).1 = 9 := by exact a_kd1 (by omega) hk
  refine V_nn (n' := (n + 6)) (c' := 6) (s' := 2146) rfl rfl rfl ?_
  refine V_putF (q := 65) X hin (TB.get tb_X9_init 31 rfl) rfl ff_RX9_33 hk ?_
  have hk : ((h_sR (a_new 11 36 (h_sR (a_new 10 6 (h_sI (h_sI (h_sR (a_new 13 58 (h_sR (a_new 10 573 (h_sR (a_new 10 573 (h_sR (a_new 10 900 h n) o 0 n) (n + 1)) o 1 (n + 1)) (n + 2)) o 2 (n + 2)) (n + 3)) o 3 (n + 3)) o 6 (-1)) o 7 (-1)) (n + 4)) o 17 (n + 4)) (n + 5)) o 18 (n + 5)).1 o).1 = 9 := hk
  refine V_aload_n (q := 66) X (TB.get tb_X9_init 32 rfl) rfl rfl rfl ?_
  refine V_bipush (v := 6) (q := 68) X (TB.get tb_X9_init 33 rfl) c_bipush_6 rfl ?_
  refine V_newL (q := 70) 6 X (TB.get tb_X9_init 34 rfl) rfl ay_long (by decide) (by decide) (by decide) (by omega) (Nat.le_of_ble_eq_true rfl) (Nat.le_of_ble_eq_true rfl) (by omega) ?_
  have hk : ((a_new 13 6 (h_sR (a_new 11 36 (h_sR (a_new 10 6 (h_sI (h_sI (h_sR (a_new 13 58 (h_sR (a_new 10 573 (h_sR (a_new 10 573 (h_sR (a_new 10 900 h n) o 0 n) (n + 1)) o 1 (n + 1)) (n + 2)) o 2 (n + 2)) (n + 3)) o 3 (n + 3)) o 6 (-1)) o 7 (-1)) (n + 4)) o 17 (n + 4)) (n + 5)) o 18 (n + 5)) (n + 6)).1 o).1 = 9 := by exact a_kd1 (by omega) hk
  refine V_nn (n' := (n + 7)) (c' := 7) (s' := 2152) rfl rfl rfl ?_
  refine V_putF (q := 73) X hin (TB.get tb_X9_init 35 rfl) rfl ff_RX9_37 hk ?_
  have hk : ((h_sR (a_new 13 6 (h_sR (a_new 11 36 (h_sR (a_new 10 6 (h_sI (h_sI (h_sR (a_new 13 58 (h_sR (a_new 10 573 (h_sR (a_new 10 573 (h_sR (a_new 10 900 h n) o 0 n) (n + 1)) o 1 (n + 1)) (n + 2)) o 2 (n + 2)) (n + 3)) o 3 (n + 3)) o 6 (-1)) o 7 (-1)) (n + 4)) o 17 (n + 4)) (n + 5)) o 18 (n + 5)) (n + 6)) o 19 (n + 6)).1 o).1 = 9 := hk
  refine V_aload_n (q := 74) X (TB.get tb_X9_init 36 rfl) rfl rfl rfl ?_
  refine V_bipush (v := 6) (q := 76) X (TB.get tb_X9_init 37 rfl) c_bipush_6 rfl ?_
  refine V_newL (q := 78) 6 X (TB.get tb_X9_init 38 rfl) rfl ay_long (by decide) (by decide) (by decide) (by omega) (Nat.le_of_ble_eq_true rfl) (Nat.le_of_ble_eq_true rfl) (by omega) ?_
  have hk : ((a_new 13 6 (h_sR (a_new 13 6 (h_sR (a_new 11 36 (h_sR (a_new 10 6 (h_sI (h_sI (h_sR (a_new 13 58 (h_sR (a_new 10 573 (h_sR (a_new 10 573 (h_sR (a_new 10 900 h n) o 0 n) (n + 1)) o 1 (n + 1)) (n + 2)) o 2 (n + 2)) (n + 3)) o 3 (n + 3)) o 6 (-1)) o 7 (-1)) (n + 4)) o 17 (n + 4)) (n + 5)) o 18 (n + 5)) (n + 6)) o 19 (n + 6)) (n + 7)).1 o).1 = 9 := by exact a_kd1 (by omega) hk
  refine V_nn (n' := (n + 8)) (c' := 8) (s' := 2158) rfl rfl rfl ?_
  refine V_putF (q := 81) X hin (TB.get tb_X9_init 39 rfl) rfl ff_RX9_40 hk ?_
  have hk : ((h_sR (a_new 13 6 (h_sR (a_new 13 6 (h_sR (a_new 11 36 (h_sR (a_new 10 6 (h_sI (h_sI (h_sR (a_new 13 58 (h_sR (a_new 10 573 (h_sR (a_new 10 573 (h_sR (a_new 10 900 h n) o 0 n) (n + 1)) o 1 (n + 1)) (n + 2)) o 2 (n + 2)) (n + 3)) o 3 (n + 3)) o 6 (-1)) o 7 (-1)) (n + 4)) o 17 (n + 4)) (n + 5)) o 18 (n + 5)) (n + 6)) o 19 (n + 6)) (n + 7)) o 20 (n + 7)).1 o).1 = 9 := hk
  refine V_aload_n (q := 82) X (TB.get tb_X9_init 40 rfl) rfl rfl rfl ?_
  refine V_bipush (v := 40) (q := 84) X (TB.get tb_X9_init 41 rfl) c_bipush_40 rfl ?_
  refine V_newZ (q := 86) 40 X (TB.get tb_X9_init 42 rfl) rfl ay_boolean (by decide) (by decide) (by decide) (by omega) (Nat.le_of_ble_eq_true rfl) (Nat.le_of_ble_eq_true rfl) (by omega) ?_
  have hk : ((a_new 11 40 (h_sR (a_new 13 6 (h_sR (a_new 13 6 (h_sR (a_new 11 36 (h_sR (a_new 10 6 (h_sI (h_sI (h_sR (a_new 13 58 (h_sR (a_new 10 573 (h_sR (a_new 10 573 (h_sR (a_new 10 900 h n) o 0 n) (n + 1)) o 1 (n + 1)) (n + 2)) o 2 (n + 2)) (n + 3)) o 3 (n + 3)) o 6 (-1)) o 7 (-1)) (n + 4)) o 17 (n + 4)) (n + 5)) o 18 (n + 5)) (n + 6)) o 19 (n + 6)) (n + 7)) o 20 (n + 7)) (n + 8)).1 o).1 = 9 := by exact a_kd1 (by omega) hk
  refine V_nn (n' := (n + 9)) (c' := 9) (s' := 2198) rfl rfl rfl ?_
  refine V_putF (q := 89) X hin (TB.get tb_X9_init 43 rfl) rfl ff_RX9_43 hk ?_
  have hk : ((h_sR (a_new 11 40 (h_sR (a_new 13 6 (h_sR (a_new 13 6 (h_sR (a_new 11 36 (h_sR (a_new 10 6 (h_sI (h_sI (h_sR (a_new 13 58 (h_sR (a_new 10 573 (h_sR (a_new 10 573 (h_sR (a_new 10 900 h n) o 0 n) (n + 1)) o 1 (n + 1)) (n + 2)) o 2 (n + 2)) (n + 3)) o 3 (n + 3)) o 6 (-1)) o 7 (-1)) (n + 4)) o 17 (n + 4)) (n + 5)) o 18 (n + 5)) (n + 6)) o 19 (n + 6)) (n + 7)) o 20 (n + 7)) (n + 8)) o 21 (n + 8)).1 o).1 = 9 := hk
  refine V_aload_n (q := 90) X (TB.get tb_X9_init 44 rfl) rfl rfl rfl ?_
  refine V_bipush (v := 41) (q := 92) X (TB.get tb_X9_init 45 rfl) c_bipush_41 rfl ?_
  refine V_newZ (q := 94) 41 X (TB.get tb_X9_init 46 rfl) rfl ay_boolean (by decide) (by decide) (by decide) (by omega) (Nat.le_of_ble_eq_true rfl) (Nat.le_of_ble_eq_true rfl) (by omega) ?_
  have hk : ((a_new 11 41 (h_sR (a_new 11 40 (h_sR (a_new 13 6 (h_sR (a_new 13 6 (h_sR (a_new 11 36 (h_sR (a_new 10 6 (h_sI (h_sI (h_sR (a_new 13 58 (h_sR (a_new 10 573 (h_sR (a_new 10 573 (h_sR (a_new 10 900 h n) o 0 n) (n + 1)) o 1 (n + 1)) (n + 2)) o 2 (n + 2)) (n + 3)) o 3 (n + 3)) o 6 (-1)) o 7 (-1)) (n + 4)) o 17 (n + 4)) (n + 5)) o 18 (n + 5)) (n + 6)) o 19 (n + 6)) (n + 7)) o 20 (n + 7)) (n + 8)) o 21 (n + 8)) (n + 9)).1 o).1 = 9 := by exact a_kd1 (by omega) hk
  refine V_nn (n' := (n + 10)) (c' := 10) (s' := 2239) rfl rfl rfl ?_
  refine V_putF (q := 97) X hin (TB.get tb_X9_init 47 rfl) rfl ff_RX9_46 hk ?_
  have hk : ((h_sR (a_new 11 41 (h_sR (a_new 11 40 (h_sR (a_new 13 6 (h_sR (a_new 13 6 (h_sR (a_new 11 36 (h_sR (a_new 10 6 (h_sI (h_sI (h_sR (a_new 13 58 (h_sR (a_new 10 573 (h_sR (a_new 10 573 (h_sR (a_new 10 900 h n) o 0 n) (n + 1)) o 1 (n + 1)) (n + 2)) o 2 (n + 2)) (n + 3)) o 3 (n + 3)) o 6 (-1)) o 7 (-1)) (n + 4)) o 17 (n + 4)) (n + 5)) o 18 (n + 5)) (n + 6)) o 19 (n + 6)) (n + 7)) o 20 (n + 7)) (n + 8)) o 21 (n + 8)) (n + 9)) o 22 (n + 9)).1 o).1 = 9 := hk
  refine V_aload_n (q := 98) X (TB.get tb_X9_init 48 rfl) rfl rfl rfl ?_
  refine V_sipush (v := 246) (q := 101) X (TB.get tb_X9_init 49 rfl) c_sipush_246 rfl ?_
  refine V_newI (q := 103) 246 X (TB.get tb_X9_init 50 rfl) rfl ay_int (by decide) (by decide) (by decide) (by omega) (Nat.le_of_ble_eq_true rfl) (Nat.le_of_ble_eq_true rfl) (by omega) ?_
  have hk : ((a_new 10 246 (h_sR (a_new 11 41 (h_sR (a_new 11 40 (h_sR (a_new 13 6 (h_sR (a_new 13 6 (h_sR (a_new 11 36 (h_sR (a_new 10 6 (h_sI (h_sI (h_sR (a_new 13 58 (h_sR (a_new 10 573 (h_sR (a_new 10 573 (h_sR (a_new 10 900 h n) o 0 n) (n + 1)) o 1 (n + 1)) (n + 2)) o 2 (n + 2)) (n + 3)) o 3 (n + 3)) o 6 (-1)) o 7 (-1)) (n + 4)) o 17 (n + 4)) (n + 5)) o 18 (n + 5)) (n + 6)) o 19 (n + 6)) (n + 7)) o 20 (n + 7)) (n + 8)) o 21 (n + 8)) (n + 9)) o 22 (n + 9)) (n + 10)).1 o).1 = 9 := by exact a_kd1 (by omega) hk
  refine V_nn (n' := (n + 11)) (c' := 11) (s' := 2485) rfl rfl rfl ?_
  refine V_putF (q := 106) X hin (TB.get tb_X9_init 51 rfl) rfl ff_RX9_49 hk ?_
  have hk : ((h_sR (a_new 10 246 (h_sR (a_new 11 41 (h_sR (a_new 11 40 (h_sR (a_new 13 6 (h_sR (a_new 13 6 (h_sR (a_new 11 36 (h_sR (a_new 10 6 (h_sI (h_sI (h_sR (a_new 13 58 (h_sR (a_new 10 573 (h_sR (a_new 10 573 (h_sR (a_new 10 900 h n) o 0 n) (n + 1)) o 1 (n + 1)) (n + 2)) o 2 (n + 2)) (n + 3)) o 3 (n + 3)) o 6 (-1)) o 7 (-1)) (n + 4)) o 17 (n + 4)) (n + 5)) o 18 (n + 5)) (n + 6)) o 19 (n + 6)) (n + 7)) o 20 (n + 7)) (n + 8)) o 21 (n + 8)) (n + 9)) o 22 (n + 9)) (n + 10)) o 23 (n + 10)).1 o).1 = 9 := hk
  refine V_aload_n (q := 107) X (TB.get tb_X9_init 52 rfl) rfl rfl rfl ?_
  refine V_sipush (v := 246) (q := 110) X (TB.get tb_X9_init 53 rfl) c_sipush_246 rfl ?_
  refine V_newI (q := 112) 246 X (TB.get tb_X9_init 54 rfl) rfl ay_int (by decide) (by decide) (by decide) (by omega) (Nat.le_of_ble_eq_true rfl) (Nat.le_of_ble_eq_true rfl) (by omega) ?_
  have hk : ((a_new 10 246 (h_sR (a_new 10 246 (h_sR (a_new 11 41 (h_sR (a_new 11 40 (h_sR (a_new 13 6 (h_sR (a_new 13 6 (h_sR (a_new 11 36 (h_sR (a_new 10 6 (h_sI (h_sI (h_sR (a_new 13 58 (h_sR (a_new 10 573 (h_sR (a_new 10 573 (h_sR (a_new 10 900 h n) o 0 n) (n + 1)) o 1 (n + 1)) (n + 2)) o 2 (n + 2)) (n + 3)) o 3 (n + 3)) o 6 (-1)) o 7 (-1)) (n + 4)) o 17 (n + 4)) (n + 5)) o 18 (n + 5)) (n + 6)) o 19 (n + 6)) (n + 7)) o 20 (n + 7)) (n + 8)) o 21 (n + 8)) (n + 9)) o 22 (n + 9)) (n + 10)) o 23 (n + 10)) (n + 11)).1 o).1 = 9 := by exact a_kd1 (by omega) hk
  refine V_nn (n' := (n + 12)) (c' := 12) (s' := 2731) rfl rfl rfl ?_
  refine V_putF (q := 115) X hin (TB.get tb_X9_init 55 rfl) rfl ff_RX9_52 hk ?_
  have hk : ((h_sR (a_new 10 246 (h_sR (a_new 10 246 (h_sR (a_new 11 41 (h_sR (a_new 11 40 (h_sR (a_new 13 6 (h_sR (a_new 13 6 (h_sR (a_new 11 36 (h_sR (a_new 10 6 (h_sI (h_sI (h_sR (a_new 13 58 (h_sR (a_new 10 573 (h_sR (a_new 10 573 (h_sR (a_new 10 900 h n) o 0 n) (n + 1)) o 1 (n + 1)) (n + 2)) o 2 (n + 2)) (n + 3)) o 3 (n + 3)) o 6 (-1)) o 7 (-1)) (n + 4)) o 17 (n + 4)) (n + 5)) o 18 (n + 5)) (n + 6)) o 19 (n + 6)) (n + 7)) o 20 (n + 7)) (n + 8)) o 21 (n + 8)) (n + 9)) o 22 (n + 9)) (n + 10)) o 23 (n + 10)) (n + 11)) o 24 (n + 11)).1 o).1 = 9 := hk
  refine V_aload_n (q := 116) X (TB.get tb_X9_init 56 rfl) rfl rfl rfl ?_
  refine V_sipush (v := 246) (q := 119) X (TB.get tb_X9_init 57 rfl) c_sipush_246 rfl ?_
  refine V_newI (q := 121) 246 X (TB.get tb_X9_init 58 rfl) rfl ay_int (by decide) (by decide) (by decide) (by omega) (Nat.le_of_ble_eq_true rfl) (Nat.le_of_ble_eq_true rfl) (by omega) ?_
  have hk : ((a_new 10 246 (h_sR (a_new 10 246 (h_sR (a_new 10 246 (h_sR (a_new 11 41 (h_sR (a_new 11 40 (h_sR (a_new 13 6 (h_sR (a_new 13 6 (h_sR (a_new 11 36 (h_sR (a_new 10 6 (h_sI (h_sI (h_sR (a_new 13 58 (h_sR (a_new 10 573 (h_sR (a_new 10 573 (h_sR (a_new 10 900 h n) o 0 n) (n + 1)) o 1 (n + 1)) (n + 2)) o 2 (n + 2)) (n + 3)) o 3 (n + 3)) o 6 (-1)) o 7 (-1)) (n + 4)) o 17 (n + 4)) (n + 5)) o 18 (n + 5)) (n + 6)) o 19 (n + 6)) (n + 7)) o 20 (n + 7)) (n + 8)) o 21 (n + 8)) (n + 9)) o 22 (n + 9)) (n + 10)) o 23 (n + 10)) (n + 11)) o 24 (n + 11)) (n + 12)).1 o).1 = 9 := by exact a_kd1 (by omega) hk
  refine V_nn (n' := (n + 13)) (c' := 13) (s' := 2977) rfl rfl rfl ?_
  refine V_putF (q := 124) X hin (TB.get tb_X9_init 59 rfl) rfl ff_RX9_55 hk ?_
  have hk : ((h_sR (a_new 10 246 (h_sR (a_new 10 246 (h_sR (a_new 10 246 (h_sR (a_new 11 41 (h_sR (a_new 11 40 (h_sR (a_new 13 6 (h_sR (a_new 13 6 (h_sR (a_new 11 36 (h_sR (a_new 10 6 (h_sI (h_sI (h_sR (a_new 13 58 (h_sR (a_new 10 573 (h_sR (a_new 10 573 (h_sR (a_new 10 900 h n) o 0 n) (n + 1)) o 1 (n + 1)) (n + 2)) o 2 (n + 2)) (n + 3)) o 3 (n + 3)) o 6 (-1)) o 7 (-1)) (n + 4)) o 17 (n + 4)) (n + 5)) o 18 (n + 5)) (n + 6)) o 19 (n + 6)) (n + 7)) o 20 (n + 7)) (n + 8)) o 21 (n + 8)) (n + 9)) o 22 (n + 9)) (n + 10)) o 23 (n + 10)) (n + 11)) o 24 (n + 11)) (n + 12)) o 25 (n + 12)).1 o).1 = 9 := hk
  refine V_aload_n (q := 125) X (TB.get tb_X9_init 60 rfl) rfl rfl rfl ?_
  refine V_sipush (v := 246) (q := 128) X (TB.get tb_X9_init 61 rfl) c_sipush_246 rfl ?_
  refine V_newI (q := 130) 246 X (TB.get tb_X9_init 62 rfl) rfl ay_int (by decide) (by decide) (by decide) (by omega) (Nat.le_of_ble_eq_true rfl) (Nat.le_of_ble_eq_true rfl) (by omega) ?_
  have hk : ((a_new 10 246 (h_sR (a_new 10 246 (h_sR (a_new 10 246 (h_sR (a_new 10 246 (h_sR (a_new 11 41 (h_sR (a_new 11 40 (h_sR (a_new 13 6 (h_sR (a_new 13 6 (h_sR (a_new 11 36 (h_sR (a_new 10 6 (h_sI (h_sI (h_sR (a_new 13 58 (h_sR (a_new 10 573 (h_sR (a_new 10 573 (h_sR (a_new 10 900 h n) o 0 n) (n + 1)) o 1 (n + 1)) (n + 2)) o 2 (n + 2)) (n + 3)) o 3 (n + 3)) o 6 (-1)) o 7 (-1)) (n + 4)) o 17 (n + 4)) (n + 5)) o 18 (n + 5)) (n + 6)) o 19 (n + 6)) (n + 7)) o 20 (n + 7)) (n + 8)) o 21 (n + 8)) (n + 9)) o 22 (n + 9)) (n + 10)) o 23 (n + 10)) (n + 11)) o 24 (n + 11)) (n + 12)) o 25 (n + 12)) (n + 13)).1 o).1 = 9 := by exact a_kd1 (by omega) hk
  refine V_nn (n' := (n + 14)) (c' := 14) (s' := 3223) rfl rfl rfl ?_
  refine V_putF (q := 133) X hin (TB.get tb_X9_init 63 rfl) rfl ff_RX9_58 hk ?_
  have hk : ((h_sR (a_new 10 246 (h_sR (a_new 10 246 (h_sR (a_new 10 246 (h_sR (a_new 10 246 (h_sR (a_new 11 41 (h_sR (a_new 11 40 (h_sR (a_new 13 6 (h_sR (a_new 13 6 (h_sR (a_new 11 36 (h_sR (a_new 10 6 (h_sI (h_sI (h_sR (a_new 13 58 (h_sR (a_new 10 573 (h_sR (a_new 10 573 (h_sR (a_new 10 900 h n) o 0 n) (n + 1)) o 1 (n + 1)) (n + 2)) o 2 (n + 2)) (n + 3)) o 3 (n + 3)) o 6 (-1)) o 7 (-1)) (n + 4)) o 17 (n + 4)) (n + 5)) o 18 (n + 5)) (n + 6)) o 19 (n + 6)) (n + 7)) o 20 (n + 7)) (n + 8)) o 21 (n + 8)) (n + 9)) o 22 (n + 9)) (n + 10)) o 23 (n + 10)) (n + 11)) o 24 (n + 11)) (n + 12)) o 25 (n + 12)) (n + 13)) o 26 (n + 13)).1 o).1 = 9 := hk
  refine V_aload_n (q := 134) X (TB.get tb_X9_init 64 rfl) rfl rfl rfl ?_
  refine V_bipush (v := 6) (q := 136) X (TB.get tb_X9_init 65 rfl) c_bipush_6 rfl ?_
  refine V_newI (q := 138) 6 X (TB.get tb_X9_init 66 rfl) rfl ay_int (by decide) (by decide) (by decide) (by omega) (Nat.le_of_ble_eq_true rfl) (Nat.le_of_ble_eq_true rfl) (by omega) ?_
  have hk : ((a_new 10 6 (h_sR (a_new 10 246 (h_sR (a_new 10 246 (h_sR (a_new 10 246 (h_sR (a_new 10 246 (h_sR (a_new 11 41 (h_sR (a_new 11 40 (h_sR (a_new 13 6 (h_sR (a_new 13 6 (h_sR (a_new 11 36 (h_sR (a_new 10 6 (h_sI (h_sI (h_sR (a_new 13 58 (h_sR (a_new 10 573 (h_sR (a_new 10 573 (h_sR (a_new 10 900 h n) o 0 n) (n + 1)) o 1 (n + 1)) (n + 2)) o 2 (n + 2)) (n + 3)) o 3 (n + 3)) o 6 (-1)) o 7 (-1)) (n + 4)) o 17 (n + 4)) (n + 5)) o 18 (n + 5)) (n + 6)) o 19 (n + 6)) (n + 7)) o 20 (n + 7)) (n + 8)) o 21 (n + 8)) (n + 9)) o 22 (n + 9)) (n + 10)) o 23 (n + 10)) (n + 11)) o 24 (n + 11)) (n + 12)) o 25 (n + 12)) (n + 13)) o 26 (n + 13)) (n + 14)).1 o).1 = 9 := by exact a_kd1 (by omega) hk
  refine V_nn (n' := (n + 15)) (c' := 15) (s' := 3229) rfl rfl rfl ?_
  refine V_putF (q := 141) X hin (TB.get tb_X9_init 67 rfl) rfl ff_RX9_61 hk ?_
  have hk : ((h_sR (a_new 10 6 (h_sR (a_new 10 246 (h_sR (a_new 10 246 (h_sR (a_new 10 246 (h_sR (a_new 10 246 (h_sR (a_new 11 41 (h_sR (a_new 11 40 (h_sR (a_new 13 6 (h_sR (a_new 13 6 (h_sR (a_new 11 36 (h_sR (a_new 10 6 (h_sI (h_sI (h_sR (a_new 13 58 (h_sR (a_new 10 573 (h_sR (a_new 10 573 (h_sR (a_new 10 900 h n) o 0 n) (n + 1)) o 1 (n + 1)) (n + 2)) o 2 (n + 2)) (n + 3)) o 3 (n + 3)) o 6 (-1)) o 7 (-1)) (n + 4)) o 17 (n + 4)) (n + 5)) o 18 (n + 5)) (n + 6)) o 19 (n + 6)) (n + 7)) o 20 (n + 7)) (n + 8)) o 21 (n + 8)) (n + 9)) o 22 (n + 9)) (n + 10)) o 23 (n + 10)) (n + 11)) o 24 (n + 11)) (n + 12)) o 25 (n + 12)) (n + 13)) o 26 (n + 13)) (n + 14)) o 27 (n + 14)).1 o).1 = 9 := hk
  refine V_aload_n (q := 142) X (TB.get tb_X9_init 68 rfl) rfl rfl rfl ?_
  refine V_bipush (v := 6) (q := 144) X (TB.get tb_X9_init 69 rfl) c_bipush_6 rfl ?_
  refine V_newI (q := 146) 6 X (TB.get tb_X9_init 70 rfl) rfl ay_int (by decide) (by decide) (by decide) (by omega) (Nat.le_of_ble_eq_true rfl) (Nat.le_of_ble_eq_true rfl) (by omega) ?_
  have hk : ((a_new 10 6 (h_sR (a_new 10 6 (h_sR (a_new 10 246 (h_sR (a_new 10 246 (h_sR (a_new 10 246 (h_sR (a_new 10 246 (h_sR (a_new 11 41 (h_sR (a_new 11 40 (h_sR (a_new 13 6 (h_sR (a_new 13 6 (h_sR (a_new 11 36 (h_sR (a_new 10 6 (h_sI (h_sI (h_sR (a_new 13 58 (h_sR (a_new 10 573 (h_sR (a_new 10 573 (h_sR (a_new 10 900 h n) o 0 n) (n + 1)) o 1 (n + 1)) (n + 2)) o 2 (n + 2)) (n + 3)) o 3 (n + 3)) o 6 (-1)) o 7 (-1)) (n + 4)) o 17 (n + 4)) (n + 5)) o 18 (n + 5)) (n + 6)) o 19 (n + 6)) (n + 7)) o 20 (n + 7)) (n + 8)) o 21 (n + 8)) (n + 9)) o 22 (n + 9)) (n + 10)) o 23 (n + 10)) (n + 11)) o 24 (n + 11)) (n + 12)) o 25 (n + 12)) (n + 13)) o 26 (n + 13)) (n + 14)) o 27 (n + 14)) (n + 15)).1 o).1 = 9 := by exact a_kd1 (by omega) hk
  refine V_nn (n' := (n + 16)) (c' := 16) (s' := 3235) rfl rfl rfl ?_
  refine V_putF (q := 149) X hin (TB.get tb_X9_init 71 rfl) rfl ff_RX9_64 hk ?_
  have hk : ((h_sR (a_new 10 6 (h_sR (a_new 10 6 (h_sR (a_new 10 246 (h_sR (a_new 10 246 (h_sR (a_new 10 246 (h_sR (a_new 10 246 (h_sR (a_new 11 41 (h_sR (a_new 11 40 (h_sR (a_new 13 6 (h_sR (a_new 13 6 (h_sR (a_new 11 36 (h_sR (a_new 10 6 (h_sI (h_sI (h_sR (a_new 13 58 (h_sR (a_new 10 573 (h_sR (a_new 10 573 (h_sR (a_new 10 900 h n) o 0 n) (n + 1)) o 1 (n + 1)) (n + 2)) o 2 (n + 2)) (n + 3)) o 3 (n + 3)) o 6 (-1)) o 7 (-1)) (n + 4)) o 17 (n + 4)) (n + 5)) o 18 (n + 5)) (n + 6)) o 19 (n + 6)) (n + 7)) o 20 (n + 7)) (n + 8)) o 21 (n + 8)) (n + 9)) o 22 (n + 9)) (n + 10)) o 23 (n + 10)) (n + 11)) o 24 (n + 11)) (n + 12)) o 25 (n + 12)) (n + 13)) o 26 (n + 13)) (n + 14)) o 27 (n + 14)) (n + 15)) o 28 (n + 15)).1 o).1 = 9 := hk
  refine V_aload_n (q := 150) X (TB.get tb_X9_init 72 rfl) rfl rfl rfl ?_
  refine V_bipush (v := 6) (q := 152) X (TB.get tb_X9_init 73 rfl) c_bipush_6 rfl ?_
  refine V_newI (q := 154) 6 X (TB.get tb_X9_init 74 rfl) rfl ay_int (by decide) (by decide) (by decide) (by omega) (Nat.le_of_ble_eq_true rfl) (Nat.le_of_ble_eq_true rfl) (by omega) ?_
  have hk : ((a_new 10 6 (h_sR (a_new 10 6 (h_sR (a_new 10 6 (h_sR (a_new 10 246 (h_sR (a_new 10 246 (h_sR (a_new 10 246 (h_sR (a_new 10 246 (h_sR (a_new 11 41 (h_sR (a_new 11 40 (h_sR (a_new 13 6 (h_sR (a_new 13 6 (h_sR (a_new 11 36 (h_sR (a_new 10 6 (h_sI (h_sI (h_sR (a_new 13 58 (h_sR (a_new 10 573 (h_sR (a_new 10 573 (h_sR (a_new 10 900 h n) o 0 n) (n + 1)) o 1 (n + 1)) (n + 2)) o 2 (n + 2)) (n + 3)) o 3 (n + 3)) o 6 (-1)) o 7 (-1)) (n + 4)) o 17 (n + 4)) (n + 5)) o 18 (n + 5)) (n + 6)) o 19 (n + 6)) (n + 7)) o 20 (n + 7)) (n + 8)) o 21 (n + 8)) (n + 9)) o 22 (n + 9)) (n + 10)) o 23 (n + 10)) (n + 11)) o 24 (n + 11)) (n + 12)) o 25 (n + 12)) (n + 13)) o 26 (n + 13)) (n + 14)) o 27 (n + 14)) (n + 15)) o 28 (n + 15)) (n + 16)).1 o).1 = 9 := by exact a_kd1 (by omega) hk
  refine V_nn (n' := (n + 17)) (c' := 17) (s' := 3241) rfl rfl rfl ?_
  refine V_putF (q := 157) X hin (TB.get tb_X9_init 75 rfl) rfl ff_RX9_67 hk ?_
  have hk : ((h_sR (a_new 10 6 (h_sR (a_new 10 6 (h_sR (a_new 10 6 (h_sR (a_new 10 246 (h_sR (a_new 10 246 (h_sR (a_new 10 246 (h_sR (a_new 10 246 (h_sR (a_new 11 41 (h_sR (a_new 11 40 (h_sR (a_new 13 6 (h_sR (a_new 13 6 (h_sR (a_new 11 36 (h_sR (a_new 10 6 (h_sI (h_sI (h_sR (a_new 13 58 (h_sR (a_new 10 573 (h_sR (a_new 10 573 (h_sR (a_new 10 900 h n) o 0 n) (n + 1)) o 1 (n + 1)) (n + 2)) o 2 (n + 2)) (n + 3)) o 3 (n + 3)) o 6 (-1)) o 7 (-1)) (n + 4)) o 17 (n + 4)) (n + 5)) o 18 (n + 5)) (n + 6)) o 19 (n + 6)) (n + 7)) o 20 (n + 7)) (n + 8)) o 21 (n + 8)) (n + 9)) o 22 (n + 9)) (n + 10)) o 23 (n + 10)) (n + 11)) o 24 (n + 11)) (n + 12)) o 25 (n + 12)) (n + 13)) o 26 (n + 13)) (n + 14)) o 27 (n + 14)) (n + 15)) o 28 (n + 15)) (n + 16)) o 29 (n + 16)).1 o).1 = 9 := hk
  refine V_aload_n (q := 158) X (TB.get tb_X9_init 76 rfl) rfl rfl rfl ?_
  refine V_bipush (v := 6) (q := 160) X (TB.get tb_X9_init 77 rfl) c_bipush_6 rfl ?_
  refine V_newI (q := 162) 6 X (TB.get tb_X9_init 78 rfl) rfl ay_int (by decide) (by decide) (by decide) (by omega) (Nat.le_of_ble_eq_true rfl) (Nat.le_of_ble_eq_true rfl) (by omega) ?_
  have hk : ((a_new 10 6 (h_sR (a_new 10 6 (h_sR (a_new 10 6 (h_sR (a_new 10 6 (h_sR (a_new 10 246 (h_sR (a_new 10 246 (h_sR (a_new 10 246 (h_sR (a_new 10 246 (h_sR (a_new 11 41 (h_sR (a_new 11 40 (h_sR (a_new 13 6 (h_sR (a_new 13 6 (h_sR (a_new 11 36 (h_sR (a_new 10 6 (h_sI (h_sI (h_sR (a_new 13 58 (h_sR (a_new 10 573 (h_sR (a_new 10 573 (h_sR (a_new 10 900 h n) o 0 n) (n + 1)) o 1 (n + 1)) (n + 2)) o 2 (n + 2)) (n + 3)) o 3 (n + 3)) o 6 (-1)) o 7 (-1)) (n + 4)) o 17 (n + 4)) (n + 5)) o 18 (n + 5)) (n + 6)) o 19 (n + 6)) (n + 7)) o 20 (n + 7)) (n + 8)) o 21 (n + 8)) (n + 9)) o 22 (n + 9)) (n + 10)) o 23 (n + 10)) (n + 11)) o 24 (n + 11)) (n + 12)) o 25 (n + 12)) (n + 13)) o 26 (n + 13)) (n + 14)) o 27 (n + 14)) (n + 15)) o 28 (n + 15)) (n + 16)) o 29 (n + 16)) (n + 17)).1 o).1 = 9 := by exact a_kd1 (by omega) hk
  refine V_nn (n' := (n + 18)) (c' := 18) (s' := 3247) rfl rfl rfl ?_
  refine V_putF (q := 165) X hin (TB.get tb_X9_init 79 rfl) rfl ff_RX9_70 hk ?_
  have hk : ((h_sR (a_new 10 6 (h_sR (a_new 10 6 (h_sR (a_new 10 6 (h_sR (a_new 10 6 (h_sR (a_new 10 246 (h_sR (a_new 10 246 (h_sR (a_new 10 246 (h_sR (a_new 10 246 (h_sR (a_new 11 41 (h_sR (a_new 11 40 (h_sR (a_new 13 6 (h_sR (a_new 13 6 (h_sR (a_new 11 36 (h_sR (a_new 10 6 (h_sI (h_sI (h_sR (a_new 13 58 (h_sR (a_new 10 573 (h_sR (a_new 10 573 (h_sR (a_new 10 900 h n) o 0 n) (n + 1)) o 1 (n + 1)) (n + 2)) o 2 (n + 2)) (n + 3)) o 3 (n + 3)) o 6 (-1)) o 7 (-1)) (n + 4)) o 17 (n + 4)) (n + 5)) o 18 (n + 5)) (n + 6)) o 19 (n + 6)) (n + 7)) o 20 (n + 7)) (n + 8)) o 21 (n + 8)) (n + 9)) o 22 (n + 9)) (n + 10)) o 23 (n + 10)) (n + 11)) o 24 (n + 11)) (n + 12)) o 25 (n + 12)) (n + 13)) o 26 (n + 13)) (n + 14)) o 27 (n + 14)) (n + 15)) o 28 (n + 15)) (n + 16)) o 29 (n + 16)) (n + 17)) o 30 (n + 17)).1 o).1 = 9 := hk
  refine V_aload_n (q := 166) X (TB.get tb_X9_init 80 rfl) rfl rfl rfl ?_
  refine V_bipush (v := 6) (q := 168) X (TB.get tb_X9_init 81 rfl) c_bipush_6 rfl ?_
  refine V_newI (q := 170) 6 X (TB.get tb_X9_init 82 rfl) rfl ay_int (by decide) (by decide) (by decide) (by omega) (Nat.le_of_ble_eq_true rfl) (Nat.le_of_ble_eq_true rfl) (by omega) ?_
  have hk : ((a_new 10 6 (h_sR (a_new 10 6 (h_sR (a_new 10 6 (h_sR (a_new 10 6 (h_sR (a_new 10 6 (h_sR (a_new 10 246 (h_sR (a_new 10 246 (h_sR (a_new 10 246 (h_sR (a_new 10 246 (h_sR (a_new 11 41 (h_sR (a_new 11 40 (h_sR (a_new 13 6 (h_sR (a_new 13 6 (h_sR (a_new 11 36 (h_sR (a_new 10 6 (h_sI (h_sI (h_sR (a_new 13 58 (h_sR (a_new 10 573 (h_sR (a_new 10 573 (h_sR (a_new 10 900 h n) o 0 n) (n + 1)) o 1 (n + 1)) (n + 2)) o 2 (n + 2)) (n + 3)) o 3 (n + 3)) o 6 (-1)) o 7 (-1)) (n + 4)) o 17 (n + 4)) (n + 5)) o 18 (n + 5)) (n + 6)) o 19 (n + 6)) (n + 7)) o 20 (n + 7)) (n + 8)) o 21 (n + 8)) (n + 9)) o 22 (n + 9)) (n + 10)) o 23 (n + 10)) (n + 11)) o 24 (n + 11)) (n + 12)) o 25 (n + 12)) (n + 13)) o 26 (n + 13)) (n + 14)) o 27 (n + 14)) (n + 15)) o 28 (n + 15)) (n + 16)) o 29 (n + 16)) (n + 17)) o 30 (n + 17)) (n + 18)).1 o).1 = 9 := by exact a_kd1 (by omega) hk
  refine V_nn (n' := (n + 19)) (c' := 19) (s' := 3253) rfl rfl rfl ?_
  refine V_putF (q := 173) X hin (TB.get tb_X9_init 83 rfl) rfl ff_RX9_73 hk ?_
  have hk : ((h_sR (a_new 10 6 (h_sR (a_new 10 6 (h_sR (a_new 10 6 (h_sR (a_new 10 6 (h_sR (a_new 10 6 (h_sR (a_new 10 246 (h_sR (a_new 10 246 (h_sR (a_new 10 246 (h_sR (a_new 10 246 (h_sR (a_new 11 41 (h_sR (a_new 11 40 (h_sR (a_new 13 6 (h_sR (a_new 13 6 (h_sR (a_new 11 36 (h_sR (a_new 10 6 (h_sI (h_sI (h_sR (a_new 13 58 (h_sR (a_new 10 573 (h_sR (a_new 10 573 (h_sR (a_new 10 900 h n) o 0 n) (n + 1)) o 1 (n + 1)) (n + 2)) o 2 (n + 2)) (n + 3)) o 3 (n + 3)) o 6 (-1)) o 7 (-1)) (n + 4)) o 17 (n + 4)) (n + 5)) o 18 (n + 5)) (n + 6)) o 19 (n + 6)) (n + 7)) o 20 (n + 7)) (n + 8)) o 21 (n + 8)) (n + 9)) o 22 (n + 9)) (n + 10)) o 23 (n + 10)) (n + 11)) o 24 (n + 11)) (n + 12)) o 25 (n + 12)) (n + 13)) o 26 (n + 13)) (n + 14)) o 27 (n + 14)) (n + 15)) o 28 (n + 15)) (n + 16)) o 29 (n + 16)) (n + 17)) o 30 (n + 17)) (n + 18)) o 35 (n + 18)).1 o).1 = 9 := hk
  refine V_aload_n (q := 174) X (TB.get tb_X9_init 84 rfl) rfl rfl rfl ?_
  refine V_bipush (v := 6) (q := 176) X (TB.get tb_X9_init 85 rfl) c_bipush_6 rfl ?_
  refine V_newI (q := 178) 6 X (TB.get tb_X9_init 86 rfl) rfl ay_int (by decide) (by decide) (by decide) (by omega) (Nat.le_of_ble_eq_true rfl) (Nat.le_of_ble_eq_true rfl) (by omega) ?_
  have hk : ((a_new 10 6 (h_sR (a_new 10 6 (h_sR (a_new 10 6 (h_sR (a_new 10 6 (h_sR (a_new 10 6 (h_sR (a_new 10 6 (h_sR (a_new 10 246 (h_sR (a_new 10 246 (h_sR (a_new 10 246 (h_sR (a_new 10 246 (h_sR (a_new 11 41 (h_sR (a_new 11 40 (h_sR (a_new 13 6 (h_sR (a_new 13 6 (h_sR (a_new 11 36 (h_sR (a_new 10 6 (h_sI (h_sI (h_sR (a_new 13 58 (h_sR (a_new 10 573 (h_sR (a_new 10 573 (h_sR (a_new 10 900 h n) o 0 n) (n + 1)) o 1 (n + 1)) (n + 2)) o 2 (n + 2)) (n + 3)) o 3 (n + 3)) o 6 (-1)) o 7 (-1)) (n + 4)) o 17 (n + 4)) (n + 5)) o 18 (n + 5)) (n + 6)) o 19 (n + 6)) (n + 7)) o 20 (n + 7)) (n + 8)) o 21 (n + 8)) (n + 9)) o 22 (n + 9)) (n + 10)) o 23 (n + 10)) (n + 11)) o 24 (n + 11)) (n + 12)) o 25 (n + 12)) (n + 13)) o 26 (n + 13)) (n + 14)) o 27 (n + 14)) (n + 15)) o 28 (n + 15)) (n + 16)) o 29 (n + 16)) (n + 17)) o 30 (n + 17)) (n + 18)) o 35 (n + 18)) (n + 19)).1 o).1 = 9 := by exact a_kd1 (by omega) hk
  refine V_nn (n' := (n + 20)) (c' := 20) (s' := 3259) rfl rfl rfl ?_
  refine V_putF (q := 181) X hin (TB.get tb_X9_init 87 rfl) rfl ff_RX9_76 hk ?_
  have hk : ((h_sR (a_new 10 6 (h_sR (a_new 10 6 (h_sR (a_new 10 6 (h_sR (a_new 10 6 (h_sR (a_new 10 6 (h_sR (a_new 10 6 (h_sR (a_new 10 246 (h_sR (a_new 10 246 (h_sR (a_new 10 246 (h_sR (a_new 10 246 (h_sR (a_new 11 41 (h_sR (a_new 11 40 (h_sR (a_new 13 6 (h_sR (a_new 13 6 (h_sR (a_new 11 36 (h_sR (a_new 10 6 (h_sI (h_sI (h_sR (a_new 13 58 (h_sR (a_new 10 573 (h_sR (a_new 10 573 (h_sR (a_new 10 900 h n) o 0 n) (n + 1)) o 1 (n + 1)) (n + 2)) o 2 (n + 2)) (n + 3)) o 3 (n + 3)) o 6 (-1)) o 7 (-1)) (n + 4)) o 17 (n + 4)) (n + 5)) o 18 (n + 5)) (n + 6)) o 19 (n + 6)) (n + 7)) o 20 (n + 7)) (n + 8)) o 21 (n + 8)) (n + 9)) o 22 (n + 9)) (n + 10)) o 23 (n + 10)) (n + 11)) o 24 (n + 11)) (n + 12)) o 25 (n + 12)) (n + 13)) o 26 (n + 13)) (n + 14)) o 27 (n + 14)) (n + 15)) o 28 (n + 15)) (n + 16)) o 29 (n + 16)) (n + 17)) o 30 (n + 17)) (n + 18)) o 35 (n + 18)) (n + 19)) o 36 (n + 19)).1 o).1 = 9 := hk
  refine V_aload_n (q := 182) X (TB.get tb_X9_init 88 rfl) rfl rfl rfl ?_
  refine V_bipush (v := 6) (q := 184) X (TB.get tb_X9_init 89 rfl) c_bipush_6 rfl ?_
  refine V_newI (q := 186) 6 X (TB.get tb_X9_init 90 rfl) rfl ay_int (by decide) (by decide) (by decide) (by omega) (Nat.le_of_ble_eq_true rfl) (Nat.le_of_ble_eq_true rfl) (by omega) ?_
  have hk : ((a_new 10 6 (h_sR (a_new 10 6 (h_sR (a_new 10 6 (h_sR (a_new 10 6 (h_sR (a_new 10 6 (h_sR (a_new 10 6 (h_sR (a_new 10 6 (h_sR (a_new 10 246 (h_sR (a_new 10 246 (h_sR (a_new 10 246 (h_sR (a_new 10 246 (h_sR (a_new 11 41 (h_sR (a_new 11 40 (h_sR (a_new 13 6 (h_sR (a_new 13 6 (h_sR (a_new 11 36 (h_sR (a_new 10 6 (h_sI (h_sI (h_sR (a_new 13 58 (h_sR (a_new 10 573 (h_sR (a_new 10 573 (h_sR (a_new 10 900 h n) o 0 n) (n + 1)) o 1 (n + 1)) (n + 2)) o 2 (n + 2)) (n + 3)) o 3 (n + 3)) o 6 (-1)) o 7 (-1)) (n + 4)) o 17 (n + 4)) (n + 5)) o 18 (n + 5)) (n + 6)) o 19 (n + 6)) (n + 7)) o 20 (n + 7)) (n + 8)) o 21 (n + 8)) (n + 9)) o 22 (n + 9)) (n + 10)) o 23 (n + 10)) (n + 11)) o 24 (n + 11)) (n + 12)) o 25 (n + 12)) (n + 13)) o 26 (n + 13)) (n + 14)) o 27 (n + 14)) (n + 15)) o 28 (n + 15)) (n + 16)) o 29 (n + 16)) (n + 17)) o 30 (n + 17)) (n + 18)) o 35 (n + 18)) (n + 19)) o 36 (n + 19)) (n + 20)).1 o).1 = 9 := by exact a_kd1 (by omega) hk
  refine V_nn (n' := (n + 21)) (c' := 21) (s' := 3265) rfl rfl rfl ?_
  refine V_putF (q := 189) X hin (TB.get tb_X9_init 91 rfl) rfl ff_RX9_79 hk ?_
  have hk : ((h_sR (a_new 10 6 (h_sR (a_new 10 6 (h_sR (a_new 10 6 (h_sR (a_new 10 6 (h_sR (a_new 10 6 (h_sR (a_new 10 6 (h_sR (a_new 10 6 (h_sR (a_new 10 246 (h_sR (a_new 10 246 (h_sR (a_new 10 246 (h_sR (a_new 10 246 (h_sR (a_new 11 41 (h_sR (a_new 11 40 (h_sR (a_new 13 6 (h_sR (a_new 13 6 (h_sR (a_new 11 36 (h_sR (a_new 10 6 (h_sI (h_sI (h_sR (a_new 13 58 (h_sR (a_new 10 573 (h_sR (a_new 10 573 (h_sR (a_new 10 900 h n) o 0 n) (n + 1)) o 1 (n + 1)) (n + 2)) o 2 (n + 2)) (n + 3)) o 3 (n + 3)) o 6 (-1)) o 7 (-1)) (n + 4)) o 17 (n + 4)) (n + 5)) o 18 (n + 5)) (n + 6)) o 19 (n + 6)) (n + 7)) o 20 (n + 7)) (n + 8)) o 21 (n + 8)) (n + 9)) o 22 (n + 9)) (n + 10)) o 23 (n + 10)) (n + 11)) o 24 (n + 11)) (n + 12)) o 25 (n + 12)) (n + 13)) o 26 (n + 13)) (n + 14)) o 27 (n + 14)) (n + 15)) o 28 (n + 15)) (n + 16)) o 29 (n + 16)) (n + 17)) o 30 (n + 17)) (n + 18)) o 35 (n + 18)) (n + 19)) o 36 (n + 19)) (n + 20)) o 37 (n + 20)).1 o).1 = 9 := hk
  refine V_aload_n (q := 190) X (TB.get tb_X9_init 92 rfl) rfl rfl rfl ?_
  refine V_iconst (v := 4) (q := 191) X (TB.get tb_X9_init 93 rfl) c_iconst_4 rfl ?_
  refine V_newI (q := 193) 4 X (TB.get tb_X9_init 94 rfl) rfl ay_int (by decide) (by decide) (by decide) (by omega) (Nat.le_of_ble_eq_true rfl) (Nat.le_of_ble_eq_true rfl) (by omega) ?_
  have hk : ((a_new 10 4 (h_sR (a_new 10 6 (h_sR (a_new 10 6 (h_sR (a_new 10 6 (h_sR (a_new 10 6 (h_sR (a_new 10 6 (h_sR (a_new 10 6 (h_sR (a_new 10 6 (h_sR (a_new 10 246 (h_sR (a_new 10 246 (h_sR (a_new 10 246 (h_sR (a_new 10 246 (h_sR (a_new 11 41 (h_sR (a_new 11 40 (h_sR (a_new 13 6 (h_sR (a_new 13 6 (h_sR (a_new 11 36 (h_sR (a_new 10 6 (h_sI (h_sI (h_sR (a_new 13 58 (h_sR (a_new 10 573 (h_sR (a_new 10 573 (h_sR (a_new 10 900 h n) o 0 n) (n + 1)) o 1 (n + 1)) (n + 2)) o 2 (n + 2)) (n + 3)) o 3 (n + 3)) o 6 (-1)) o 7 (-1)) (n + 4)) o 17 (n + 4)) (n + 5)) o 18 (n + 5)) (n + 6)) o 19 (n + 6)) (n + 7)) o 20 (n + 7)) (n + 8)) o 21 (n + 8)) (n + 9)) o 22 (n + 9)) (n + 10)) o 23 (n + 10)) (n + 11)) o 24 (n + 11)) (n + 12)) o 25 (n + 12)) (n + 13)) o 26 (n + 13)) (n + 14)) o 27 (n + 14)) (n + 15)) o 28 (n + 15)) (n + 16)) o 29 (n + 16)) (n + 17)) o 30 (n + 17)) (n + 18)) o 35 (n + 18)) (n + 19)) o 36 (n + 19)) (n + 20)) o 37 (n + 20)) (n + 21)).1 o).1 = 9 := by exact a_kd1 (by omega) hk
  refine V_nn (n' := (n + 22)) (c' := 22) (s' := 3269) rfl rfl rfl ?_
  refine V_putF (q := 196) X hin (TB.get tb_X9_init 95 rfl) rfl ff_RX9_82 hk ?_
  have hk : ((h_sR (a_new 10 4 (h_sR (a_new 10 6 (h_sR (a_new 10 6 (h_sR (a_new 10 6 (h_sR (a_new 10 6 (h_sR (a_new 10 6 (h_sR (a_new 10 6 (h_sR (a_new 10 6 (h_sR (a_new 10 246 (h_sR (a_new 10 246 (h_sR (a_new 10 246 (h_sR (a_new 10 246 (h_sR (a_new 11 41 (h_sR (a_new 11 40 (h_sR (a_new 13 6 (h_sR (a_new 13 6 (h_sR (a_new 11 36 (h_sR (a_new 10 6 (h_sI (h_sI (h_sR (a_new 13 58 (h_sR (a_new 10 573 (h_sR (a_new 10 573 (h_sR (a_new 10 900 h n) o 0 n) (n + 1)) o 1 (n + 1)) (n + 2)) o 2 (n + 2)) (n + 3)) o 3 (n + 3)) o 6 (-1)) o 7 (-1)) (n + 4)) o 17 (n + 4)) (n + 5)) o 18 (n + 5)) (n + 6)) o 19 (n + 6)) (n + 7)) o 20 (n + 7)) (n + 8)) o 21 (n + 8)) (n + 9)) o 22 (n + 9)) (n + 10)) o 23 (n + 10)) (n + 11)) o 24 (n + 11)) (n + 12)) o 25 (n + 12)) (n + 13)) o 26 (n + 13)) (n + 14)) o 27 (n + 14)) (n + 15)) o 28 (n + 15)) (n + 16)) o 29 (n + 16)) (n + 17)) o 30 (n + 17)) (n + 18)) o 35 (n + 18)) (n + 19)) o 36 (n + 19)) (n + 20)) o 37 (n + 20)) (n + 21)) o 38 (n + 21)).1 o).1 = 9 := hk
  refine V_aload_n (q := 197) X (TB.get tb_X9_init 96 rfl) rfl rfl rfl ?_
  refine V_sipush (v := 1000) (q := 200) X (TB.get tb_X9_init 97 rfl) c_sipush_1000 rfl ?_
  refine V_newL (q := 202) 1000 X (TB.get tb_X9_init 98 rfl) rfl ay_long (by decide) (by decide) (by decide) (by omega) (Nat.le_of_ble_eq_true rfl) (Nat.le_of_ble_eq_true rfl) (by omega) ?_
  have hk : ((a_new 13 1000 (h_sR (a_new 10 4 (h_sR (a_new 10 6 (h_sR (a_new 10 6 (h_sR (a_new 10 6 (h_sR (a_new 10 6 (h_sR (a_new 10 6 (h_sR (a_new 10 6 (h_sR (a_new 10 6 (h_sR (a_new 10 246 (h_sR (a_new 10 246 (h_sR (a_new 10 246 (h_sR (a_new 10 246 (h_sR (a_new 11 41 (h_sR (a_new 11 40 (h_sR (a_new 13 6 (h_sR (a_new 13 6 (h_sR (a_new 11 36 (h_sR (a_new 10 6 (h_sI (h_sI (h_sR (a_new 13 58 (h_sR (a_new 10 573 (h_sR (a_new 10 573 (h_sR (a_new 10 900 h n) o 0 n) (n + 1)) o 1 (n + 1)) (n + 2)) o 2 (n + 2)) (n + 3)) o 3 (n + 3)) o 6 (-1)) o 7 (-1)) (n + 4)) o 17 (n + 4)) (n + 5)) o 18 (n + 5)) (n + 6)) o 19 (n + 6)) (n + 7)) o 20 (n + 7)) (n + 8)) o 21 (n + 8)) (n + 9)) o 22 (n + 9)) (n + 10)) o 23 (n + 10)) (n + 11)) o 24 (n + 11)) (n + 12)) o 25 (n + 12)) (n + 13)) o 26 (n + 13)) (n + 14)) o 27 (n + 14)) (n + 15)) o 28 (n + 15)) (n + 16)) o 29 (n + 16)) (n + 17)) o 30 (n + 17)) (n + 18)) o 35 (n + 18)) (n + 19)) o 36 (n + 19)) (n + 20)) o 37 (n + 20)) (n + 21)) o 38 (n + 21)) (n + 22)).1 o).1 = 9 := by exact a_kd1 (by omega) hk
  refine V_nn (n' := (n + 23)) (c' := 23) (s' := 4269) rfl rfl rfl ?_
  refine V_putF (q := 205) X hin (TB.get tb_X9_init 99 rfl) rfl ff_RX9_85 hk ?_
  have hk : ((h_sR (a_new 13 1000 (h_sR (a_new 10 4 (h_sR (a_new 10 6 (h_sR (a_new 10 6 (h_sR (a_new 10 6 (h_sR (a_new 10 6 (h_sR (a_new 10 6 (h_sR (a_new 10 6 (h_sR (a_new 10 6 (h_sR (a_new 10 246 (h_sR (a_new 10 246 (h_sR (a_new 10 246 (h_sR (a_new 10 246 (h_sR (a_new 11 41 (h_sR (a_new 11 40 (h_sR (a_new 13 6 (h_sR (a_new 13 6 (h_sR (a_new 11 36 (h_sR (a_new 10 6 (h_sI (h_sI (h_sR (a_new 13 58 (h_sR (a_new 10 573 (h_sR (a_new 10 573 (h_sR (a_new 10 900 h n) o 0 n) (n + 1)) o 1 (n + 1)) (n + 2)) o 2 (n + 2)) (n + 3)) o 3 (n + 3)) o 6 (-1)) o 7 (-1)) (n + 4)) o 17 (n + 4)) (n + 5)) o 18 (n + 5)) (n + 6)) o 19 (n + 6)) (n + 7)) o 20 (n + 7)) (n + 8)) o 21 (n + 8)) (n + 9)) o 22 (n + 9)) (n + 10)) o 23 (n + 10)) (n + 11)) o 24 (n + 11)) (n + 12)) o 25 (n + 12)) (n + 13)) o 26 (n + 13)) (n + 14)) o 27 (n + 14)) (n + 15)) o 28 (n + 15)) (n + 16)) o 29 (n + 16)) (n + 17)) o 30 (n + 17)) (n + 18)) o 35 (n + 18)) (n + 19)) o 36 (n + 19)) (n + 20)) o 37 (n + 20)) (n + 21)) o 38 (n + 21)) (n + 22)) o 39 (n + 22)).1 o).1 = 9 := hk
  refine V_aload_n (q := 206) X (TB.get tb_X9_init 100 rfl) rfl rfl rfl ?_
  refine V_sipush (v := 1000) (q := 209) X (TB.get tb_X9_init 101 rfl) c_sipush_1000 rfl ?_
  refine V_newI (q := 211) 1000 X (TB.get tb_X9_init 102 rfl) rfl ay_int (by decide) (by decide) (by decide) (by omega) (Nat.le_of_ble_eq_true rfl) (Nat.le_of_ble_eq_true rfl) (by omega) ?_
  have hk : ((a_new 10 1000 (h_sR (a_new 13 1000 (h_sR (a_new 10 4 (h_sR (a_new 10 6 (h_sR (a_new 10 6 (h_sR (a_new 10 6 (h_sR (a_new 10 6 (h_sR (a_new 10 6 (h_sR (a_new 10 6 (h_sR (a_new 10 6 (h_sR (a_new 10 246 (h_sR (a_new 10 246 (h_sR (a_new 10 246 (h_sR (a_new 10 246 (h_sR (a_new 11 41 (h_sR (a_new 11 40 (h_sR (a_new 13 6 (h_sR (a_new 13 6 (h_sR (a_new 11 36 (h_sR (a_new 10 6 (h_sI (h_sI (h_sR (a_new 13 58 (h_sR (a_new 10 573 (h_sR (a_new 10 573 (h_sR (a_new 10 900 h n) o 0 n) (n + 1)) o 1 (n + 1)) (n + 2)) o 2 (n + 2)) (n + 3)) o 3 (n + 3)) o 6 (-1)) o 7 (-1)) (n + 4)) o 17 (n + 4)) (n + 5)) o 18 (n + 5)) (n + 6)) o 19 (n + 6)) (n + 7)) o 20 (n + 7)) (n + 8)) o 21 (n + 8)) (n + 9)) o 22 (n + 9)) (n + 10)) o 23 (n + 10)) (n + 11)) o 24 (n + 11)) (n + 12)) o 25 (n + 12)) (n + 13)) o 26 (n + 13)) (n + 14)) o 27 (n + 14)) (n + 15)) o 28 (n + 15)) (n + 16)) o 29 (n + 16)) (n + 17)) o 30 (n + 17)) (n + 18)) o 35 (n + 18)) (n + 19)) o 36 (n + 19)) (n + 20)) o 37 (n + 20)) (n + 21)) o 38 (n + 21)) (n + 22)) o 39 (n + 22)) (n + 23)).1 o).1 = 9 := by exact a_kd1 (by omega) hk
  refine V_nn (n' := (n + 24)) (c' := 24) (s' := 5269) rfl rfl rfl ?_
  refine V_putF (q := 214) X hin (TB.get tb_X9_init 103 rfl) rfl ff_RX9_88 hk ?_
  have hk : ((h_sR (a_new 10 1000 (h_sR (a_new 13 1000 (h_sR (a_new 10 4 (h_sR (a_new 10 6 (h_sR (a_new 10 6 (h_sR (a_new 10 6 (h_sR (a_new 10 6 (h_sR (a_new 10 6 (h_sR (a_new 10 6 (h_sR (a_new 10 6 (h_sR (a_new 10 246 (h_sR (a_new 10 246 (h_sR (a_new 10 246 (h_sR (a_new 10 246 (h_sR (a_new 11 41 (h_sR (a_new 11 40 (h_sR (a_new 13 6 (h_sR (a_new 13 6 (h_sR (a_new 11 36 (h_sR (a_new 10 6 (h_sI (h_sI (h_sR (a_new 13 58 (h_sR (a_new 10 573 (h_sR (a_new 10 573 (h_sR (a_new 10 900 h n) o 0 n) (n + 1)) o 1 (n + 1)) (n + 2)) o 2 (n + 2)) (n + 3)) o 3 (n + 3)) o 6 (-1)) o 7 (-1)) (n + 4)) o 17 (n + 4)) (n + 5)) o 18 (n + 5)) (n + 6)) o 19 (n + 6)) (n + 7)) o 20 (n + 7)) (n + 8)) o 21 (n + 8)) (n + 9)) o 22 (n + 9)) (n + 10)) o 23 (n + 10)) (n + 11)) o 24 (n + 11)) (n + 12)) o 25 (n + 12)) (n + 13)) o 26 (n + 13)) (n + 14)) o 27 (n + 14)) (n + 15)) o 28 (n + 15)) (n + 16)) o 29 (n + 16)) (n + 17)) o 30 (n + 17)) (n + 18)) o 35 (n + 18)) (n + 19)) o 36 (n + 19)) (n + 20)) o 37 (n + 20)) (n + 21)) o 38 (n + 21)) (n + 22)) o 39 (n + 22)) (n + 23)) o 40 (n + 23)).1 o).1 = 9 := hk
  refine V_aload_n (q := 215) X (TB.get tb_X9_init 104 rfl) rfl rfl rfl ?_
  refine V_sipush (v := 1000) (q := 218) X (TB.get tb_X9_init 105 rfl) c_sipush_1000 rfl ?_
  refine V_newI (q := 220) 1000 X (TB.get tb_X9_init 106 rfl) rfl ay_int (by decide) (by decide) (by decide) (by omega) (Nat.le_of_ble_eq_true rfl) (Nat.le_of_ble_eq_true rfl) (by omega) ?_
  have hk : ((a_new 10 1000 (h_sR (a_new 10 1000 (h_sR (a_new 13 1000 (h_sR (a_new 10 4 (h_sR (a_new 10 6 (h_sR (a_new 10 6 (h_sR (a_new 10 6 (h_sR (a_new 10 6 (h_sR (a_new 10 6 (h_sR (a_new 10 6 (h_sR (a_new 10 6 (h_sR (a_new 10 246 (h_sR (a_new 10 246 (h_sR (a_new 10 246 (h_sR (a_new 10 246 (h_sR (a_new 11 41 (h_sR (a_new 11 40 (h_sR (a_new 13 6 (h_sR (a_new 13 6 (h_sR (a_new 11 36 (h_sR (a_new 10 6 (h_sI (h_sI (h_sR (a_new 13 58 (h_sR (a_new 10 573 (h_sR (a_new 10 573 (h_sR (a_new 10 900 h n) o 0 n) (n + 1)) o 1 (n + 1)) (n + 2)) o 2 (n + 2)) (n + 3)) o 3 (n + 3)) o 6 (-1)) o 7 (-1)) (n + 4)) o 17 (n + 4)) (n + 5)) o 18 (n + 5)) (n + 6)) o 19 (n + 6)) (n + 7)) o 20 (n + 7)) (n + 8)) o 21 (n + 8)) (n + 9)) o 22 (n + 9)) (n + 10)) o 23 (n + 10)) (n + 11)) o 24 (n + 11)) (n + 12)) o 25 (n + 12)) (n + 13)) o 26 (n + 13)) (n + 14)) o 27 (n + 14)) (n + 15)) o 28 (n + 15)) (n + 16)) o 29 (n + 16)) (n + 17)) o 30 (n + 17)) (n + 18)) o 35 (n + 18)) (n + 19)) o 36 (n + 19)) (n + 20)) o 37 (n + 20)) (n + 21)) o 38 (n + 21)) (n + 22)) o 39 (n + 22)) (n + 23)) o 40 (n + 23)) (n + 24)).1 o).1 = 9 := by exact a_kd1 (by omega) hk
  refine V_nn (n' := (n + 25)) (c' := 25) (s' := 6269) rfl rfl rfl ?_
  refine V_putF (q := 223) X hin (TB.get tb_X9_init 107 rfl) rfl ff_RX9_91 hk ?_
  have hk : ((h_sR (a_new 10 1000 (h_sR (a_new 10 1000 (h_sR (a_new 13 1000 (h_sR (a_new 10 4 (h_sR (a_new 10 6 (h_sR (a_new 10 6 (h_sR (a_new 10 6 (h_sR (a_new 10 6 (h_sR (a_new 10 6 (h_sR (a_new 10 6 (h_sR (a_new 10 6 (h_sR (a_new 10 246 (h_sR (a_new 10 246 (h_sR (a_new 10 246 (h_sR (a_new 10 246 (h_sR (a_new 11 41 (h_sR (a_new 11 40 (h_sR (a_new 13 6 (h_sR (a_new 13 6 (h_sR (a_new 11 36 (h_sR (a_new 10 6 (h_sI (h_sI (h_sR (a_new 13 58 (h_sR (a_new 10 573 (h_sR (a_new 10 573 (h_sR (a_new 10 900 h n) o 0 n) (n + 1)) o 1 (n + 1)) (n + 2)) o 2 (n + 2)) (n + 3)) o 3 (n + 3)) o 6 (-1)) o 7 (-1)) (n + 4)) o 17 (n + 4)) (n + 5)) o 18 (n + 5)) (n + 6)) o 19 (n + 6)) (n + 7)) o 20 (n + 7)) (n + 8)) o 21 (n + 8)) (n + 9)) o 22 (n + 9)) (n + 10)) o 23 (n + 10)) (n + 11)) o 24 (n + 11)) (n + 12)) o 25 (n + 12)) (n + 13)) o 26 (n + 13)) (n + 14)) o 27 (n + 14)) (n + 15)) o 28 (n + 15)) (n + 16)) o 29 (n + 16)) (n + 17)) o 30 (n + 17)) (n + 18)) o 35 (n + 18)) (n + 19)) o 36 (n + 19)) (n + 20)) o 37 (n + 20)) (n + 21)) o 38 (n + 21)) (n + 22)) o 39 (n + 22)) (n + 23)) o 40 (n + 23)) (n + 24)) o 41 (n + 24)).1 o).1 = 9 := hk
  exact V_vretA X hr hlk (TB.get tb_X9_init 108 rfl)
