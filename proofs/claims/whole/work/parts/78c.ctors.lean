-- HoldChecker: 252 objects, 9368 slots, depth 6
def C_X8a (o n : Nat) (h : Hp) : Hp := (h_sI (h_sI (h_sR (C_X4 (n + 227) (n + 228) (a_new 4 0 (h_sR (a_new 10 40 (h_sR (C_X5 (n + 223) (n + 224) (a_new 5 0 (h_sR (C_X6 (n + 213) (n + 214) (a_new 6 0 (h_sR (C_X0 (n + 124) (n + 125) (a_new 0 0 (h_sR (C_X0 (n + 35) (n + 36) (a_new 0 0 (h_sR (C_X3 n (n + 1) (a_new 3 0 h n)) o 0 n) (n + 35))) o 1 (n + 35)) (n + 124))) o 2 (n + 124)) (n + 213))) o 3 (n + 213)) (n + 223))) o 4 (n + 223)) (n + 226)) o 5 (n + 226)) (n + 227))) o 6 (n + 227)) o 10 (-1)) o 11 (-1))
theorem C_X8a_aw {o n : Nat} {h : Hp} (ho : o < n) : (C_X8a o n h).2.2.2 o 5 = some (n + 226) ∧ (C_X8a o n h).1 (n + 226) = (10, 40) := by
  refine ⟨?_, ?_⟩
  · have e4 : ∀ (x n' : Nat) (g : Hp), o ≠ x → o < n' → (C_X4 x n' g).2.2.2 o 5 = g.2.2.2 o 5 := by
      intro x n' g h1 h2
      unfold C_X4 C_X2
      simp [h_sR, u2, a_new, h1, show ∀ k, o ≠ n' + k from fun k => by omega, show ∀ k, o ≠ n' + 1 + k from fun k => by omega, show o ≠ n' from by omega]
    unfold C_X8a
    show u2 (C_X4 (n + 227) (n + 228) _).2.2.2 o _ (some (n + 227)) o 5 = _
    rw [show ∀ (f : Nat → Nat → Option Nat) (v : Option Nat), u2 f o 6 v o 5 = f o 5 from fun f v => by simp [u2]]
    rw [e4 _ _ _ (by omega) (by omega), (a_new_ne (by omega)).2.2.2]
    simp [h_sR, u2]
  · unfold C_X8a
    simp only [h_sI, h_sR]
    rw [C_X4_kind (by omega), (a_new_ne (by omega)).1]
    exact a_new_eq
def C_X8 (o n : Nat) (h : Hp) : Hp := h_rowI (C_X8a o n h) (n + 226) (fun j => if j < 40 then -1 else (C_X8a o n h).2.1 (n + 226) j)
set_option maxRecDepth 100000 in
set_option maxHeartbeats 4000000 in
theorem okc_8 (o n : Nat) (h : Hp) (hk : (h.1 o).1 = 8) (ho : o < n) : CKA yX8_init cX8_init 1 6 252 9368 [.ref o] n h (C_X8 o n h) := by
  refine CKA_of pn_RX8 (gt1 23 rfl rfl) (Nat.le_of_ble_eq_true rfl) rfl ?_
  intro l D tc B p en s m args below meth c X hr hlk hin hs hNW
  replace X : CX p (rmA 6 252 9368) s m args c cX8_init 1 RX8 D tc 6 := X
  show V p l en (rmA 6 252 9368) s m args below meth c 1 D tc B n (AB B) s.heap 0 0 (MQ below (QCA D tc B (n + 252) (C_X8 o n h)) args s 252 9368 (AB B)) h 0 [(0, .ref o)] []
  refine V_aload_n (q := 1) X (TB.get tb_X8_init 0 rfl) rfl rfl rfl ?_
  refine V_objInit (q := 4) X (TB.get tb_X8_init 1 rfl) rfl oi_RX8 oi_1 oi_2 (Nat.le_of_ble_eq_true rfl) (Nat.le_of_ble_eq_true rfl) ?_
  refine V_aload_n (q := 5) X (TB.get tb_X8_init 2 rfl) rfl rfl rfl ?_
  refine V_new (q := 8) X (TB.get tb_X8_init 3 rfl) rfl nc_RX8_9 (by omega) (Nat.le_of_ble_eq_true rfl) (Nat.le_of_ble_eq_true rfl) ?_ (by omega)
  have hk : ((a_new 3 0 h n).1 o).1 = 8 := by exact a_kd1 (by omega) hk
  have hk3 : ((a_new 3 0 h n).1 n).1 = 3 := by rw [a_new_eq]
  refine V_nn (n' := (n + 1)) (c' := 1) (s' := 11) rfl rfl rfl ?_
  refine V_dup (q := 9) X (TB.get tb_X8_init 4 rfl) rfl rfl ?_
  refine V_callI (q := 12) X hNW (TB.get tb_X8_init 5 rfl) rfl (Or.inr ⟨RX8, by decide +kernel⟩) ci_3 (okc_3 n (n + 1) _ hk3 (by omega)) (Nat.le_of_ble_eq_true rfl) (Nat.le_of_ble_eq_true rfl) (by omega) (by omega) (Nat.le_of_ble_eq_true rfl) (Nat.le_of_ble_eq_true rfl) ?_
  have hk : ((C_X3 n (n + 1) (a_new 3 0 h n)).1 o).1 = 8 := by exact C_X3_kd1 (o := n) (n := (n + 1)) (by omega) hk
  refine V_nn (n' := (n + 35)) (c' := 35) (s' := 1850) rfl rfl rfl ?_
  refine V_putF (q := 15) X hin (TB.get tb_X8_init 6 rfl) rfl ff_RX8_12 hk ?_
  have hk : ((h_sR (C_X3 n (n + 1) (a_new 3 0 h n)) o 0 n).1 o).1 = 8 := hk
  refine V_aload_n (q := 16) X (TB.get tb_X8_init 7 rfl) rfl rfl rfl ?_
  refine V_new (q := 19) X (TB.get tb_X8_init 8 rfl) rfl nc_RX8_16 (by omega) (Nat.le_of_ble_eq_true rfl) (Nat.le_of_ble_eq_true rfl) ?_ (by omega)
  have hk : ((a_new 0 0 (h_sR (C_X3 n (n + 1) (a_new 3 0 h n)) o 0 n) (n + 35)).1 o).1 = 8 := by exact a_kd1 (by omega) hk
  have hk0 : ((a_new 0 0 (h_sR (C_X3 n (n + 1) (a_new 3 0 h n)) o 0 n) (n + 35)).1 (n + 35)).1 = 0 := by rw [a_new_eq]
  refine V_nn (n' := (n + 36)) (c' := 36) (s' := 1858) rfl rfl rfl ?_
  refine V_dup (q := 20) X (TB.get tb_X8_init 9 rfl) rfl rfl ?_
  refine V_callI (q := 23) X hNW (TB.get tb_X8_init 10 rfl) rfl (Or.inl (gt2 70 rfl rfl)) ci_0 (okc_0 (n + 35) (n + 36) _ hk0 (by omega)) (Nat.le_of_ble_eq_true rfl) (Nat.le_of_ble_eq_true rfl) (by omega) (by omega) (Nat.le_of_ble_eq_true rfl) (Nat.le_of_ble_eq_true rfl) ?_
  have hk : ((C_X0 (n + 35) (n + 36) (a_new 0 0 (h_sR (C_X3 n (n + 1) (a_new 3 0 h n)) o 0 n) (n + 35))).1 o).1 = 8 := by exact C_X0_kd1 (o := (n + 35)) (n := (n + 36)) (by omega) hk
  refine V_nn (n' := (n + 124)) (c' := 124) (s' := 3072) rfl rfl rfl ?_
  refine V_putF (q := 26) X hin (TB.get tb_X8_init 11 rfl) rfl ff_RX8_19 hk ?_
  have hk : ((h_sR (C_X0 (n + 35) (n + 36) (a_new 0 0 (h_sR (C_X3 n (n + 1) (a_new 3 0 h n)) o 0 n) (n + 35))) o 1 (n + 35)).1 o).1 = 8 := hk
  refine V_aload_n (q := 27) X (TB.get tb_X8_init 12 rfl) rfl rfl rfl ?_
  refine V_new (q := 30) X (TB.get tb_X8_init 13 rfl) rfl nc_RX8_16 (by omega) (Nat.le_of_ble_eq_true rfl) (Nat.le_of_ble_eq_true rfl) ?_ (by omega)
  have hk : ((a_new 0 0 (h_sR (C_X0 (n + 35) (n + 36) (a_new 0 0 (h_sR (C_X3 n (n + 1) (a_new 3 0 h n)) o 0 n) (n + 35))) o 1 (n + 35)) (n + 124)).1 o).1 = 8 := by exact a_kd1 (by omega) hk
  have hk0 : ((a_new 0 0 (h_sR (C_X0 (n + 35) (n + 36) (a_new 0 0 (h_sR (C_X3 n (n + 1) (a_new 3 0 h n)) o 0 n) (n + 35))) o 1 (n + 35)) (n + 124)).1 (n + 124)).1 = 0 := by rw [a_new_eq]
  refine V_nn (n' := (n + 125)) (c' := 125) (s' := 3080) rfl rfl rfl ?_
  refine V_dup (q := 31) X (TB.get tb_X8_init 14 rfl) rfl rfl ?_
  refine V_callI (q := 34) X hNW (TB.get tb_X8_init 15 rfl) rfl (Or.inl (gt2 70 rfl rfl)) ci_0 (okc_0 (n + 124) (n + 125) _ hk0 (by omega)) (Nat.le_of_ble_eq_true rfl) (Nat.le_of_ble_eq_true rfl) (by omega) (by omega) (Nat.le_of_ble_eq_true rfl) (Nat.le_of_ble_eq_true rfl) ?_
  have hk : ((C_X0 (n + 124) (n + 125) (a_new 0 0 (h_sR (C_X0 (n + 35) (n + 36) (a_new 0 0 (h_sR (C_X3 n (n + 1) (a_new 3 0 h n)) o 0 n) (n + 35))) o 1 (n + 35)) (n + 124))).1 o).1 = 8 := by exact C_X0_kd1 (o := (n + 124)) (n := (n + 125)) (by omega) hk
  refine V_nn (n' := (n + 213)) (c' := 213) (s' := 4294) rfl rfl rfl ?_
  refine V_putF (q := 37) X hin (TB.get tb_X8_init 16 rfl) rfl ff_RX8_23 hk ?_
  have hk : ((h_sR (C_X0 (n + 124) (n + 125) (a_new 0 0 (h_sR (C_X0 (n + 35) (n + 36) (a_new 0 0 (h_sR (C_X3 n (n + 1) (a_new 3 0 h n)) o 0 n) (n + 35))) o 1 (n + 35)) (n + 124))) o 2 (n + 124)).1 o).1 = 8 := hk
  refine V_aload_n (q := 38) X (TB.get tb_X8_init 17 rfl) rfl rfl rfl ?_
  refine V_new (q := 41) X (TB.get tb_X8_init 18 rfl) rfl nc_RX8_26 (by omega) (Nat.le_of_ble_eq_true rfl) (Nat.le_of_ble_eq_true rfl) ?_ (by omega)
  have hk : ((a_new 6 0 (h_sR (C_X0 (n + 124) (n + 125) (a_new 0 0 (h_sR (C_X0 (n + 35) (n + 36) (a_new 0 0 (h_sR (C_X3 n (n + 1) (a_new 3 0 h n)) o 0 n) (n + 35))) o 1 (n + 35)) (n + 124))) o 2 (n + 124)) (n + 213)).1 o).1 = 8 := by exact a_kd1 (by omega) hk
  have hk6 : ((a_new 6 0 (h_sR (C_X0 (n + 124) (n + 125) (a_new 0 0 (h_sR (C_X0 (n + 35) (n + 36) (a_new 0 0 (h_sR (C_X3 n (n + 1) (a_new 3 0 h n)) o 0 n) (n + 35))) o 1 (n + 35)) (n + 124))) o 2 (n + 124)) (n + 213)).1 (n + 213)).1 = 6 := by rw [a_new_eq]
  refine V_nn (n' := (n + 214)) (c' := 214) (s' := 4309) rfl rfl rfl ?_
  refine V_dup (q := 42) X (TB.get tb_X8_init 19 rfl) rfl rfl ?_
  refine V_callI (q := 45) X hNW (TB.get tb_X8_init 20 rfl) rfl (Or.inr ⟨RX8, by decide +kernel⟩) ci_6 (okc_6 (n + 213) (n + 214) _ hk6 (by omega)) (Nat.le_of_ble_eq_true rfl) (Nat.le_of_ble_eq_true rfl) (by omega) (by omega) (Nat.le_of_ble_eq_true rfl) (Nat.le_of_ble_eq_true rfl) ?_
  have hk : ((C_X6 (n + 213) (n + 214) (a_new 6 0 (h_sR (C_X0 (n + 124) (n + 125) (a_new 0 0 (h_sR (C_X0 (n + 35) (n + 36) (a_new 0 0 (h_sR (C_X3 n (n + 1) (a_new 3 0 h n)) o 0 n) (n + 35))) o 1 (n + 35)) (n + 124))) o 2 (n + 124)) (n + 213))).1 o).1 = 8 := by exact C_X6_kd1 (o := (n + 213)) (n := (n + 214)) (by omega) hk
  refine V_nn (n' := (n + 223)) (c' := 223) (s' := 8452) rfl rfl rfl ?_
  refine V_putF (q := 48) X hin (TB.get tb_X8_init 21 rfl) rfl ff_RX8_29 hk ?_
  have hk : ((h_sR (C_X6 (n + 213) (n + 214) (a_new 6 0 (h_sR (C_X0 (n + 124) (n + 125) (a_new 0 0 (h_sR (C_X0 (n + 35) (n + 36) (a_new 0 0 (h_sR (C_X3 n (n + 1) (a_new 3 0 h n)) o 0 n) (n + 35))) o 1 (n + 35)) (n + 124))) o 2 (n + 124)) (n + 213))) o 3 (n + 213)).1 o).1 = 8 := hk
  refine V_aload_n (q := 49) X (TB.get tb_X8_init 22 rfl) rfl rfl rfl ?_
  refine V_new (q := 52) X (TB.get tb_X8_init 23 rfl) rfl nc_RX8_33 (by omega) (Nat.le_of_ble_eq_true rfl) (Nat.le_of_ble_eq_true rfl) ?_ (by omega)
  have hk : ((a_new 5 0 (h_sR (C_X6 (n + 213) (n + 214) (a_new 6 0 (h_sR (C_X0 (n + 124) (n + 125) (a_new 0 0 (h_sR (C_X0 (n + 35) (n + 36) (a_new 0 0 (h_sR (C_X3 n (n + 1) (a_new 3 0 h n)) o 0 n) (n + 35))) o 1 (n + 35)) (n + 124))) o 2 (n + 124)) (n + 213))) o 3 (n + 213)) (n + 223)).1 o).1 = 8 := by exact a_kd1 (by omega) hk
  have hk5 : ((a_new 5 0 (h_sR (C_X6 (n + 213) (n + 214) (a_new 6 0 (h_sR (C_X0 (n + 124) (n + 125) (a_new 0 0 (h_sR (C_X0 (n + 35) (n + 36) (a_new 0 0 (h_sR (C_X3 n (n + 1) (a_new 3 0 h n)) o 0 n) (n + 35))) o 1 (n + 35)) (n + 124))) o 2 (n + 124)) (n + 213))) o 3 (n + 213)) (n + 223)).1 (n + 223)).1 = 5 := by rw [a_new_eq]
  refine V_nn (n' := (n + 224)) (c' := 224) (s' := 8458) rfl rfl rfl ?_
  refine V_dup (q := 53) X (TB.get tb_X8_init 24 rfl) rfl rfl ?_
  refine V_callI (q := 56) X hNW (TB.get tb_X8_init 25 rfl) rfl (Or.inr ⟨RX8, by decide +kernel⟩) ci_5 (okc_5 (n + 223) (n + 224) _ hk5 (by omega)) (Nat.le_of_ble_eq_true rfl) (Nat.le_of_ble_eq_true rfl) (by omega) (by omega) (Nat.le_of_ble_eq_true rfl) (Nat.le_of_ble_eq_true rfl) ?_
  have hk : ((C_X5 (n + 223) (n + 224) (a_new 5 0 (h_sR (C_X6 (n + 213) (n + 214) (a_new 6 0 (h_sR (C_X0 (n + 124) (n + 125) (a_new 0 0 (h_sR (C_X0 (n + 35) (n + 36) (a_new 0 0 (h_sR (C_X3 n (n + 1) (a_new 3 0 h n)) o 0 n) (n + 35))) o 1 (n + 35)) (n + 124))) o 2 (n + 124)) (n + 213))) o 3 (n + 213)) (n + 223))).1 o).1 = 8 := by exact C_X5_kd1 (o := (n + 223)) (n := (n + 224)) (by omega) hk
  refine V_nn (n' := (n + 226)) (c' := 226) (s' := 8483) rfl rfl rfl ?_
  refine V_putF (q := 59) X hin (TB.get tb_X8_init 26 rfl) rfl ff_RX8_36 hk ?_
  have hk : ((h_sR (C_X5 (n + 223) (n + 224) (a_new 5 0 (h_sR (C_X6 (n + 213) (n + 214) (a_new 6 0 (h_sR (C_X0 (n + 124) (n + 125) (a_new 0 0 (h_sR (C_X0 (n + 35) (n + 36) (a_new 0 0 (h_sR (C_X3 n (n + 1) (a_new 3 0 h n)) o 0 n) (n + 35))) o 1 (n + 35)) (n + 124))) o 2 (n + 124)) (n + 213))) o 3 (n + 213)) (n + 223))) o 4 (n + 223)).1 o).1 = 8 := hk
  refine V_aload_n (q := 60) X (TB.get tb_X8_init 27 rfl) rfl rfl rfl ?_
  refine V_bipush (v := 40) (q := 62) X (TB.get tb_X8_init 28 rfl) c_bipush_40 rfl ?_
  refine V_newI (q := 64) 40 X (TB.get tb_X8_init 29 rfl) rfl ay_int (by decide) (by decide) (by decide) (by omega) (Nat.le_of_ble_eq_true rfl) (Nat.le_of_ble_eq_true rfl) (by omega) ?_
  have hk : ((a_new 10 40 (h_sR (C_X5 (n + 223) (n + 224) (a_new 5 0 (h_sR (C_X6 (n + 213) (n + 214) (a_new 6 0 (h_sR (C_X0 (n + 124) (n + 125) (a_new 0 0 (h_sR (C_X0 (n + 35) (n + 36) (a_new 0 0 (h_sR (C_X3 n (n + 1) (a_new 3 0 h n)) o 0 n) (n + 35))) o 1 (n + 35)) (n + 124))) o 2 (n + 124)) (n + 213))) o 3 (n + 213)) (n + 223))) o 4 (n + 223)) (n + 226)).1 o).1 = 8 := by exact a_kd1 (by omega) hk
  refine V_nn (n' := (n + 227)) (c' := 227) (s' := 8523) rfl rfl rfl ?_
  refine V_putF (q := 67) X hin (TB.get tb_X8_init 30 rfl) rfl ff_RX8_40 hk ?_
  have hk : ((h_sR (a_new 10 40 (h_sR (C_X5 (n + 223) (n + 224) (a_new 5 0 (h_sR (C_X6 (n + 213) (n + 214) (a_new 6 0 (h_sR (C_X0 (n + 124) (n + 125) (a_new 0 0 (h_sR (C_X0 (n + 35) (n + 36) (a_new 0 0 (h_sR (C_X3 n (n + 1) (a_new 3 0 h n)) o 0 n) (n + 35))) o 1 (n + 35)) (n + 124))) o 2 (n + 124)) (n + 213))) o 3 (n + 213)) (n + 223))) o 4 (n + 223)) (n + 226)) o 5 (n + 226)).1 o).1 = 8 := hk
  refine V_aload_n (q := 68) X (TB.get tb_X8_init 31 rfl) rfl rfl rfl ?_
  refine V_new (q := 71) X (TB.get tb_X8_init 32 rfl) rfl nc_RX8_44 (by omega) (Nat.le_of_ble_eq_true rfl) (Nat.le_of_ble_eq_true rfl) ?_ (by omega)
  have hk : ((a_new 4 0 (h_sR (a_new 10 40 (h_sR (C_X5 (n + 223) (n + 224) (a_new 5 0 (h_sR (C_X6 (n + 213) (n + 214) (a_new 6 0 (h_sR (C_X0 (n + 124) (n + 125) (a_new 0 0 (h_sR (C_X0 (n + 35) (n + 36) (a_new 0 0 (h_sR (C_X3 n (n + 1) (a_new 3 0 h n)) o 0 n) (n + 35))) o 1 (n + 35)) (n + 124))) o 2 (n + 124)) (n + 213))) o 3 (n + 213)) (n + 223))) o 4 (n + 223)) (n + 226)) o 5 (n + 226)) (n + 227)).1 o).1 = 8 := by exact a_kd1 (by omega) hk
  have hk4 : ((a_new 4 0 (h_sR (a_new 10 40 (h_sR (C_X5 (n + 223) (n + 224) (a_new 5 0 (h_sR (C_X6 (n + 213) (n + 214) (a_new 6 0 (h_sR (C_X0 (n + 124) (n + 125) (a_new 0 0 (h_sR (C_X0 (n + 35) (n + 36) (a_new 0 0 (h_sR (C_X3 n (n + 1) (a_new 3 0 h n)) o 0 n) (n + 35))) o 1 (n + 35)) (n + 124))) o 2 (n + 124)) (n + 213))) o 3 (n + 213)) (n + 223))) o 4 (n + 223)) (n + 226)) o 5 (n + 226)) (n + 227)).1 (n + 227)).1 = 4 := by rw [a_new_eq]
  refine V_nn (n' := (n + 228)) (c' := 228) (s' := 8538) rfl rfl rfl ?_
  refine V_dup (q := 72) X (TB.get tb_X8_init 33 rfl) rfl rfl ?_
  refine V_callI (q := 75) X hNW (TB.get tb_X8_init 34 rfl) rfl (Or.inr ⟨RX8, by decide +kernel⟩) ci_4 (okc_4 (n + 227) (n + 228) _ hk4 (by omega)) (Nat.le_of_ble_eq_true rfl) (Nat.le_of_ble_eq_true rfl) (by omega) (by omega) (Nat.le_of_ble_eq_true rfl) (Nat.le_of_ble_eq_true rfl) ?_
  have hk : ((C_X4 (n + 227) (n + 228) (a_new 4 0 (h_sR (a_new 10 40 (h_sR (C_X5 (n + 223) (n + 224) (a_new 5 0 (h_sR (C_X6 (n + 213) (n + 214) (a_new 6 0 (h_sR (C_X0 (n + 124) (n + 125) (a_new 0 0 (h_sR (C_X0 (n + 35) (n + 36) (a_new 0 0 (h_sR (C_X3 n (n + 1) (a_new 3 0 h n)) o 0 n) (n + 35))) o 1 (n + 35)) (n + 124))) o 2 (n + 124)) (n + 213))) o 3 (n + 213)) (n + 223))) o 4 (n + 223)) (n + 226)) o 5 (n + 226)) (n + 227))).1 o).1 = 8 := by exact C_X4_kd1 (o := (n + 227)) (n := (n + 228)) (by omega) hk
  refine V_nn (n' := (n + 252)) (c' := 252) (s' := 9368) rfl rfl rfl ?_
  refine V_putR (q := 78) (h' := h_sR (C_X4 (n + 227) (n + 228) (a_new 4 0 (h_sR (a_new 10 40 (h_sR (C_X5 (n + 223) (n + 224) (a_new 5 0 (h_sR (C_X6 (n + 213) (n + 214) (a_new 6 0 (h_sR (C_X0 (n + 124) (n + 125) (a_new 0 0 (h_sR (C_X0 (n + 35) (n + 36) (a_new 0 0 (h_sR (C_X3 n (n + 1) (a_new 3 0 h n)) o 0 n) (n + 35))) o 1 (n + 35)) (n + 124))) o 2 (n + 124)) (n + 213))) o 3 (n + 213)) (n + 223))) o 4 (n + 223)) (n + 226)) o 5 (n + 226)) (n + 227))) o 6 (n + 227)) X (TB.get tb_X8_init 35 rfl) rfl fp_RX8_47 (if_pos hk) ?_
  have hk : ((h_sR (C_X4 (n + 227) (n + 228) (a_new 4 0 (h_sR (a_new 10 40 (h_sR (C_X5 (n + 223) (n + 224) (a_new 5 0 (h_sR (C_X6 (n + 213) (n + 214) (a_new 6 0 (h_sR (C_X0 (n + 124) (n + 125) (a_new 0 0 (h_sR (C_X0 (n + 35) (n + 36) (a_new 0 0 (h_sR (C_X3 n (n + 1) (a_new 3 0 h n)) o 0 n) (n + 35))) o 1 (n + 35)) (n + 124))) o 2 (n + 124)) (n + 213))) o 3 (n + 213)) (n + 223))) o 4 (n + 223)) (n + 226)) o 5 (n + 226)) (n + 227))) o 6 (n + 227)).1 o).1 = 8 := hk
  refine V_aload_n (q := 79) X (TB.get tb_X8_init 36 rfl) rfl rfl rfl ?_
  refine V_iconst (v := -1) (q := 80) X (TB.get tb_X8_init 37 rfl) c_iconst_m1 rfl ?_
  refine V_putI (q := 83) (h' := h_sI (h_sR (C_X4 (n + 227) (n + 228) (a_new 4 0 (h_sR (a_new 10 40 (h_sR (C_X5 (n + 223) (n + 224) (a_new 5 0 (h_sR (C_X6 (n + 213) (n + 214) (a_new 6 0 (h_sR (C_X0 (n + 124) (n + 125) (a_new 0 0 (h_sR (C_X0 (n + 35) (n + 36) (a_new 0 0 (h_sR (C_X3 n (n + 1) (a_new 3 0 h n)) o 0 n) (n + 35))) o 1 (n + 35)) (n + 124))) o 2 (n + 124)) (n + 213))) o 3 (n + 213)) (n + 223))) o 4 (n + 223)) (n + 226)) o 5 (n + 226)) (n + 227))) o 6 (n + 227)) o 10 (-1)) X (TB.get tb_X8_init 38 rfl) rfl fp_RX8_51 (if_pos hk) ?_
  have hk : ((h_sI (h_sR (C_X4 (n + 227) (n + 228) (a_new 4 0 (h_sR (a_new 10 40 (h_sR (C_X5 (n + 223) (n + 224) (a_new 5 0 (h_sR (C_X6 (n + 213) (n + 214) (a_new 6 0 (h_sR (C_X0 (n + 124) (n + 125) (a_new 0 0 (h_sR (C_X0 (n + 35) (n + 36) (a_new 0 0 (h_sR (C_X3 n (n + 1) (a_new 3 0 h n)) o 0 n) (n + 35))) o 1 (n + 35)) (n + 124))) o 2 (n + 124)) (n + 213))) o 3 (n + 213)) (n + 223))) o 4 (n + 223)) (n + 226)) o 5 (n + 226)) (n + 227))) o 6 (n + 227)) o 10 (-1)).1 o).1 = 8 := hk
  refine V_aload_n (q := 84) X (TB.get tb_X8_init 39 rfl) rfl rfl rfl ?_
  refine V_iconst (v := -1) (q := 85) X (TB.get tb_X8_init 40 rfl) c_iconst_m1 rfl ?_
  refine V_putI (q := 88) (h' := h_sI (h_sI (h_sR (C_X4 (n + 227) (n + 228) (a_new 4 0 (h_sR (a_new 10 40 (h_sR (C_X5 (n + 223) (n + 224) (a_new 5 0 (h_sR (C_X6 (n + 213) (n + 214) (a_new 6 0 (h_sR (C_X0 (n + 124) (n + 125) (a_new 0 0 (h_sR (C_X0 (n + 35) (n + 36) (a_new 0 0 (h_sR (C_X3 n (n + 1) (a_new 3 0 h n)) o 0 n) (n + 35))) o 1 (n + 35)) (n + 124))) o 2 (n + 124)) (n + 213))) o 3 (n + 213)) (n + 223))) o 4 (n + 223)) (n + 226)) o 5 (n + 226)) (n + 227))) o 6 (n + 227)) o 10 (-1)) o 11 (-1)) X (TB.get tb_X8_init 41 rfl) rfl fp_RX8_55 (if_pos hk) ?_
  have hk : ((h_sI (h_sI (h_sR (C_X4 (n + 227) (n + 228) (a_new 4 0 (h_sR (a_new 10 40 (h_sR (C_X5 (n + 223) (n + 224) (a_new 5 0 (h_sR (C_X6 (n + 213) (n + 214) (a_new 6 0 (h_sR (C_X0 (n + 124) (n + 125) (a_new 0 0 (h_sR (C_X0 (n + 35) (n + 36) (a_new 0 0 (h_sR (C_X3 n (n + 1) (a_new 3 0 h n)) o 0 n) (n + 35))) o 1 (n + 35)) (n + 124))) o 2 (n + 124)) (n + 213))) o 3 (n + 213)) (n + 223))) o 4 (n + 223)) (n + 226)) o 5 (n + 226)) (n + 227))) o 6 (n + 227)) o 10 (-1)) o 11 (-1)).1 o).1 = 8 := hk
  refine V_aload_n (q := 89) X (TB.get tb_X8_init 42 rfl) rfl rfl rfl ?_
  obtain ⟨k1, k2⟩ := C_X8a_aw (h := h) ho
  refine V_getR (q := 92) (x := n + 226) X (TB.get tb_X8_init 43 rfl) rfl lf_RX8_40 (by unfold h_fR; rw [if_pos hk]; exact k1) ?_
  refine V_iconst (v := -1) (q := 93) X (TB.get tb_X8_init 44 rfl) c_iconst_m1 rfl ?_
  refine V_callS (q := 96) (As := [.ref (n + 226), .int (-1)]) (rest := []) (st' := []) (r := none) (h' := C_X8 o n h) X (TB.get tb_X8_init 45 rfl) rfl cs_RX8_58 (ok_J7_fill_53178 100 (n + 226) (-1) _ _ (fillI (N := 40) k2 (by decide) (by decide))) (Nat.le_of_ble_eq_true rfl) rfl rfl (Nat.le_of_ble_eq_true rfl) rfl ?_
  exact V_vretA X hr hlk (TB.get tb_X8_init 46 rfl)