set_option maxRecDepth 100000 in
set_option maxHeartbeats 4000000 in
theorem law_head {p : Program} {l : Launch} {e : Env} {s : State} {m : MethodId} {below : List Frame} {meth : Method} {c : Code} {b L : Nat} {xs : Nat → Int32} {D : va_G} {tc : Nat → ClassId} {BC BM : Nat} (hL : L ≤ 3072) (C0 : lw_At p s m meth c b L xs) (hK : va_K D vwCl (TY tc) s) (hBC : s.heap.size ≤ BC) (hBM : BC + 253 ≤ BM) {i : Nat} (H : Heap) (locs : List Loc) (ls : Array Slot) (hi : i ≤ 3078) (hS : va_S (fun q => s.heap.size ≤ q) s.heap H locs) (hl : lv_has ls 4 [(3, .int (nI i)), (0, .ref b), (1, .ref BC), (2, .ref BM)]) (kk : i + 6 ≤ L → W p l e room_1 s m #[Value.ref b] below meth c H locs 279 15699 (lw_Z below #[Value.ref b] s) (F0 m 27 ls [])) : W p l e room_1 s m #[Value.ref b] below meth c H locs 279 15699 (lw_Z below #[Value.ref b] s) (F0 m 18 ls []) := by
  obtain ⟨hx, hb, hr, hml, hown, hts0, hX, hbl, hlk, hgv⟩ := id C0
  have hbA : ¬ (fun q : Nat => s.heap.size ≤ q) b := Nat.not_le.mpr hbl
  refine lv_iload_n hx hb (TB.get tb_law0 10 rfl) rfl (lv_at hl 0 rfl) ?_
  refine lv_aload_n hx hb (TB.get tb_law0 11 rfl) rfl (lv_at hl 1 rfl) ?_
  refine va_slen hx hb hX hbl hbA hS (TB.get tb_law0 12 rfl) ?_
  refine lv_bipush (v := nI 6) hx hb (TB.get tb_law0 13 rfl) rfl ?_
  refine lv_isub hx hb (TB.get tb_law0 14 rfl) ?_
  have hsub : (nI L - nI 6).toInt = (L : Int) - 6 := pk_sub_toInt (by omega) (by decide)
  have hii : (nI i).toInt = (i : Int) := nI_toInt (by omega)
  refine lv_icmp_gt (x := nI i) (y := nI L - nI 6) (tgt := 1064) hx hb (TB.get tb_law0 15 rfl) rfl (fun hc => ?_) (fun hc => ?_)
  · refine lv_iconst (v := 1) hx hb (TB.get tb_law12 30 rfl) rfl ?_
    refine W.widen (k := 600000) (n := 7302250) (Nat.le_of_ble_eq_true rfl) (Nat.le_of_ble_eq_true rfl) ?_
    refine va_forget hS.2.2 ?_
    exact lw_ret hx hb hr hlk (TB.get tb_law12 31 rfl)
  · refine kk ?_
    have h1 : ¬ (nI L - nI 6).toInt < (nI i).toInt := fun z => hc (Int32.lt_iff_toInt_lt.mpr z)
    rw [hsub, hii] at h1
    omega
set_option maxRecDepth 100000 in
set_option maxHeartbeats 4000000 in
theorem law_loop {p : Program} {l : Launch} {e : Env} {s : State} {m : MethodId} {below : List Frame} {meth : Method} {c : Code} {b L : Nat} {xs : Nat → Int32} {D : va_G} {tc : Nat → ClassId} {BC BM : Nat} (hL : L ≤ 3072) (C0 : lw_At p s m meth c b L xs) (hK : va_K D vwCl (TY tc) s) (hBC : s.heap.size ≤ BC) (hBM : BC + 253 ≤ BM) {INV : Hp → Hp → Prop} {fu : Nat} (hO : OKS INV fu) : ∀ (k i : Nat) (hC hM : Hp), INV hC hM → ∀ (H : Heap) (locs : List Loc) (ls : Array Slot), L < i + k → i ≤ 3078 → (∀ j, (hC.1 j).1 < 20 → j < 253) → (∀ j, (hM.1 j).1 < 20 → j < 26) → va_P D vwCl (WL tc BC 253 hC) H → va_P D vwCl (WL tc BM 26 hM) H → va_S (fun q => s.heap.size ≤ q) s.heap H locs → lv_has ls 4 [(3, .int (nI i)), (0, .ref b), (1, .ref BC), (2, .ref BM)] → W p l e room_1 s m #[Value.ref b] below meth c H locs 279 15699 (lw_Z below #[Value.ref b] s) (F0 m 18 ls []) := by
  obtain ⟨hx, hb, hr, hml, hown, hts0, hX, hbl, hlk, hgv⟩ := id C0
  have hbA : ¬ (fun q : Nat => s.heap.size ≤ q) b := Nat.not_le.mpr hbl
  intro k
  induction k with
  | zero =>
    intro i hC hM hI H locs ls hik hi hnC hnM hPC hPM hS hl
    exact law_head hL C0 hK hBC hBM H locs ls hi hS hl (fun z => by omega)
  | succ k ih =>
    intro i hC hM hI H locs ls hik hi hnC hnM hPC hPM hS hl
    refine law_head hL C0 hK hBC hBM H locs ls hi hS hl (fun hiL => ?_)
    refine lv_aload_n hx hb (TB.get tb_law0 16 rfl) rfl (lv_at hl 1 rfl) ?_
    refine lv_iload_n hx hb (TB.get tb_law0 17 rfl) rfl (lv_at hl 0 rfl) ?_
    refine va_sld hx hb hX hbl hbA hS (vp_in_nI (show i < L by omega) (by omega)) (TB.get tb_law0 18 rfl) ?_
    refine lv_bipush (v := 31) hx hb (TB.get tb_law0 19 rfl) (by decide) ?_
    refine lv_iand hx hb (TB.get tb_law0 20 rfl) ?_
    refine lv_topi (fun y ey => ?_)
    by_cases h0 : y = 0
    · subst h0
      refine lv_tableIn (tgt := 152) hx hb (TB.get tb_law0 21 rfl) (by decide) (by decide) rfl rfl ?_
      exact law_status hL C0 hK hBC hBM hO hC hM hI H locs ls hiL hik hnC hnM hPC hPM hS hl ih
    by_cases h1 : y = 1
    · subst h1
      refine lv_tableIn (tgt := 165) hx hb (TB.get tb_law0 21 rfl) (by decide) (by decide) rfl rfl ?_
      exact law_feed hL C0 hK hBC hBM hO hC hM hI H locs ls hiL hik hnC hnM hPC hPM hS hl ih
    by_cases h2 : y = 2
    · subst h2
      refine lv_tableIn (tgt := 228) hx hb (TB.get tb_law0 21 rfl) (by decide) (by decide) rfl rfl ?_
      exact law_load hL C0 hK hBC hBM hO hC hM hI H locs ls hiL hik hnC hnM hPC hPM hS hl ih
    by_cases h3 : y = 3
    · subst h3
      refine lv_tableIn (tgt := 251) hx hb (TB.get tb_law0 21 rfl) (by decide) (by decide) rfl rfl ?_
      exact law_fault hL C0 hK hBC hBM hO hC hM hI H locs ls hiL hik hnC hnM hPC hPM hS hl ih
    by_cases h4 : y = 4
    · subst h4
      refine lv_tableIn (tgt := 274) hx hb (TB.get tb_law0 21 rfl) (by decide) (by decide) rfl rfl ?_
      exact law_many hL C0 hK hBC hBM hO hC hM hI H locs ls hiL hik hnC hnM hPC hPM hS hl ih
    by_cases h5 : y = 5
    · subst h5
      refine lv_tableIn (tgt := 297) hx hb (TB.get tb_law0 21 rfl) (by decide) (by decide) rfl rfl ?_
      exact law_kind hL C0 hK hBC hBM hO hC hM hI H locs ls hiL hik hnC hnM hPC hPM hS hl ih
    by_cases h6 : y = 6
    · subst h6
      refine lv_tableIn (tgt := 330) hx hb (TB.get tb_law0 21 rfl) (by decide) (by decide) rfl rfl ?_
      exact law_method hL C0 hK hBC hBM hO hC hM hI H locs ls hiL hik hnC hnM hPC hPM hS hl ih
    by_cases h7 : y = 7
    · subst h7
      refine lv_tableIn (tgt := 373) hx hb (TB.get tb_law0 21 rfl) (by decide) (by decide) rfl rfl ?_
      exact law_comes hL C0 hK hBC hBM hO hC hM hI H locs ls hiL hik hnC hnM hPC hPM hS hl ih
    by_cases h8 : y = 8
    · subst h8
      refine lv_tableIn (tgt := 442) hx hb (TB.get tb_law0 21 rfl) (by decide) (by decide) rfl rfl ?_
      exact law_tell hL C0 hK hBC hBM hO hC hM hI H locs ls hiL hik hnC hnM hPC hPM hS hl ih
    by_cases h9 : y = 9
    · subst h9
      refine lv_tableIn (tgt := 521) hx hb (TB.get tb_law0 21 rfl) (by decide) (by decide) rfl rfl ?_
      exact law_toEnd hL C0 hK hBC hBM hO hC hM hI H locs ls hiL hik hnC hnM hPC hPM hS hl ih
    by_cases h10 : y = 10
    · subst h10
      refine lv_tableIn (tgt := 554) hx hb (TB.get tb_law0 21 rfl) (by decide) (by decide) rfl rfl ?_
      exact law_towards hL C0 hK hBC hBM hO hC hM hI H locs ls hiL hik hnC hnM hPC hPM hS hl ih
    by_cases h11 : y = 11
    · subst h11
      refine lv_tableIn (tgt := 587) hx hb (TB.get tb_law0 21 rfl) (by decide) (by decide) rfl rfl ?_
      exact law_alike hL C0 hK hBC hBM hO hC hM hI H locs ls hiL hik hnC hnM hPC hPM hS hl ih
    by_cases h12 : y = 12
    · subst h12
      refine lv_tableIn (tgt := 630) hx hb (TB.get tb_law0 21 rfl) (by decide) (by decide) rfl rfl ?_
      exact law_rows hL C0 hK hBC hBM hO hC hM hI H locs ls hiL hik hnC hnM hPC hPM hS hl ih
    by_cases h13 : y = 13
    · subst h13
      refine lv_tableIn (tgt := 689) hx hb (TB.get tb_law0 21 rfl) (by decide) (by decide) rfl rfl ?_
      exact law_statement hL C0 hK hBC hBM hO hC hM hI H locs ls hiL hik hnC hnM hPC hPM hS hl ih
    by_cases h14 : y = 14
    · subst h14
      refine lv_tableIn (tgt := 722) hx hb (TB.get tb_law0 21 rfl) (by decide) (by decide) rfl rfl ?_
      exact law_variable hL C0 hK hBC hBM hO hC hM hI H locs ls hiL hik hnC hnM hPC hPM hS hl ih
    by_cases h15 : y = 15
    · subst h15
      refine lv_tableIn (tgt := 745) hx hb (TB.get tb_law0 21 rfl) (by decide) (by decide) rfl rfl ?_
      exact law_check hL C0 hK hBC hBM hO hC hM hI H locs ls hiL hik hnC hnM hPC hPM hS hl ih
    by_cases h16 : y = 16
    · subst h16
      refine lv_tableIn (tgt := 768) hx hb (TB.get tb_law0 21 rfl) (by decide) (by decide) rfl rfl ?_
      exact law_at hL C0 hK hBC hBM hO hC hM hI H locs ls hiL hik hnC hnM hPC hPM hS hl ih
    by_cases h17 : y = 17
    · subst h17
      refine lv_tableIn (tgt := 811) hx hb (TB.get tb_law0 21 rfl) (by decide) (by decide) rfl rfl ?_
      exact law_without hL C0 hK hBC hBM hO hC hM hI H locs ls hiL hik hnC hnM hPC hPM hS hl ih
    by_cases h18 : y = 18
    · subst h18
      refine lv_tableIn (tgt := 834) hx hb (TB.get tb_law0 21 rfl) (by decide) (by decide) rfl rfl ?_
      exact law_mend hL C0 hK hBC hBM hO hC hM hI H locs ls hiL hik hnC hnM hPC hPM hS hl ih
    by_cases h19 : y = 19
    · subst h19
      refine lv_tableIn (tgt := 847) hx hb (TB.get tb_law0 21 rfl) (by decide) (by decide) rfl rfl ?_
      exact law_paths hL C0 hK hBC hBM hO hC hM hI H locs ls hiL hik hnC hnM hPC hPM hS hl ih
    by_cases h20 : y = 20
    · subst h20
      refine lv_tableIn (tgt := 870) hx hb (TB.get tb_law0 21 rfl) (by decide) (by decide) rfl rfl ?_
      exact law_path hL C0 hK hBC hBM hO hC hM hI H locs ls hiL hik hnC hnM hPC hPM hS hl ih
    by_cases h21 : y = 21
    · subst h21
      refine lv_tableIn (tgt := 893) hx hb (TB.get tb_law0 21 rfl) (by decide) (by decide) rfl rfl ?_
      exact law_truly hL C0 hK hBC hBM hO hC hM hI H locs ls hiL hik hnC hnM hPC hPM hS hl ih
    by_cases h22 : y = 22
    · subst h22
      refine lv_tableIn (tgt := 936) hx hb (TB.get tb_law0 21 rfl) (by decide) (by decide) rfl rfl ?_
      exact law_left hL C0 hK hBC hBM hO hC hM hI H locs ls hiL hik hnC hnM hPC hPM hS hl ih
    by_cases h23 : y = 23
    · subst h23
      refine lv_tableIn (tgt := 959) hx hb (TB.get tb_law0 21 rfl) (by decide) (by decide) rfl rfl ?_
      exact law_never hL C0 hK hBC hBM hO hC hM hI H locs ls hiL hik hnC hnM hPC hPM hS hl ih
    by_cases h24 : y = 24
    · subst h24
      refine lv_tableIn (tgt := 982) hx hb (TB.get tb_law0 21 rfl) (by decide) (by decide) rfl rfl ?_
      exact law_run hL C0 hK hBC hBM hO hC hM hI H locs ls hiL hik hnC hnM hPC hPM hS hl ih
    by_cases h25 : y = 25
    · subst h25
      refine lv_tableIn (tgt := 1015) hx hb (TB.get tb_law0 21 rfl) (by decide) (by decide) rfl rfl ?_
      exact law_runs hL C0 hK hBC hBM hO hC hM hI H locs ls hiL hik hnC hnM hPC hPM hS hl ih
    have hout : y.toInt < 0 ∨ 25 < y.toInt := tab_out y 0 25 [0, 1, 2, 3, 4, 5, 6, 7, 8, 9, 10, 11, 12, 13, 14, 15, 16, 17, 18, 19, 20, 21, 22, 23, 24, 25] (by decide +kernel) (fun v hv => by simp only [List.mem_cons, List.not_mem_nil, or_false] at hv; rcases hv with rfl | rfl | rfl | rfl | rfl | rfl | rfl | rfl | rfl | rfl | rfl | rfl | rfl | rfl | rfl | rfl | rfl | rfl | rfl | rfl | rfl | rfl | rfl | rfl | rfl | rfl <;> assumption)
    refine lv_tableOut (tgt := 1058) hx hb (TB.get tb_law0 21 rfl) hout rfl ?_
    refine lv_iinc (v := nI (i + 6)) (lv' := [(3, .int (nI (i + 6))), (0, .ref b), (1, .ref BC), (2, .ref BM)]) hx hb (TB.get tb_law12 28 rfl) hl (k := 0) rfl (nI_add i 6) (by decide) rfl (fun ls hl => ?_)
    refine lv_goto (tgt := 18) hx hb (TB.get tb_law12 29 rfl) rfl ?_
    exact ih (i + 6) hC hM hI H locs ls (by omega) (by omega) hnC hnM hPC hPM hS hl
