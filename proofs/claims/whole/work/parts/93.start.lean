theorem nc_law_8 : NC R_law 7 8 12 := ⟨RX8, TX8, tyX8, rfl, rfl, by decide, (gt1 19 rfl rfl), in_8, (gt1 1 rfl rfl), cw_8, tyX8_ok, by decide +kernel⟩
theorem ci_law_8 : Cond.methodLink R_law 9 yX8_init ∈ GT ∧ Cond.instanceMethod yX8_init ∈ GT ∧ Cond.initialized yX8_init.cls ∈ GT ∧ Cond.code yX8_init cX8_init 1 none ∈ GT ∧ yX8_init.name = "<init>" ∧ (yX8_init.cls ≠ "java/lang/invoke/MethodHandle" ∧ yX8_init.cls ≠ "java/lang/invoke/VarHandle" ∧ (parseMethodDescriptor yX8_init.desc).map (fun d => d.parameters.length) = some 0) ∧ 1 ≤ 45 := ⟨(gt1 21 rfl rfl), (gt1 22 rfl rfl), (gt1 1 rfl rfl), (gt1 23 rfl rfl), rfl, by decide +kernel, by decide⟩
theorem nc_law_9 : NC R_law 10 9 50 := ⟨RX9, TX9, tyX9, rfl, rfl, by decide, (gt5 117 rfl rfl), in_9, (gt1 15 rfl rfl), cw_9, tyX9_ok, by decide +kernel⟩
theorem ci_law_9 : Cond.methodLink R_law 12 yX9_init ∈ GT ∧ Cond.instanceMethod yX9_init ∈ GT ∧ Cond.initialized yX9_init.cls ∈ GT ∧ Cond.code yX9_init cX9_init 1 none ∈ GT ∧ yX9_init.name = "<init>" ∧ (yX9_init.cls ≠ "java/lang/invoke/MethodHandle" ∧ yX9_init.cls ≠ "java/lang/invoke/VarHandle" ∧ (parseMethodDescriptor yX9_init.desc).map (fun d => d.parameters.length) = some 0) ∧ 1 ≤ 45 := ⟨(gt5 119 rfl rfl), (gt5 120 rfl rfl), (gt1 15 rfl rfl), (gt5 121 rfl rfl), rfl, by decide +kernel, by decide⟩
section LawStart
variable {p : Program} {l : Launch} {e : Env} {s : State} {m : MethodId} {args : Array Value} {below : List Frame} {meth : Method} {c : Code} {H : Heap} {locs : List Loc} {cells slots : Nat} {Q : State → Prop} {cc : ByteArray} {pc : Nat} {ls : Array Slot} {rest : List Value} {D : va_G} {tc : Nat → ClassId}
theorem LW_new {idx ci N : Nat} (hx : p.tables.exec = Jvm.exec) (hb : c.code = cc) (hown : s.vm.findClass R_law = some m.cls) (hts : ∀ w ∈ GT, w.before args s = true) (hK : va_K D vwCl (TY tc) s) (hd : decode cc pc = .ok (.new idx, 3)) (hN : NC R_law idx ci N) (h1 : cells + 1 ≤ room_1.cells) (h2 : slots + N ≤ room_1.slots)
    (kk : ∀ H1 : Heap, H1.size = H.size + 1 → (∀ q : Nat, q < H.size → H1[q]? = H[q]?) → va_P D vwCl (WL tc H.size 1 (a_new ci 0 e0 0)) H1 → W p l e room_1 s m args below meth c H1 locs (cells + 1) (slots + N) Q (F0 m (pc + 3) ls (.ref H.size :: rest))) : W p l e room_1 s m args below meth c H locs cells slots Q (F0 m pc ls rest) := by
  obtain ⟨C, T, ty, g1, g2, g3, g4, g5, g6, g7, g8, g9⟩ := hN
  have hKn := hK.1 ci _ g1
  have hfs : ∀ j, j < N → defaultValue (ty j) = vp_V (fVs H.size (a_new ci 0 e0 0) 0 ci) j := by
    intro j hj
    rw [g9 j hj]
    unfold vp_V
    rw [List.getD_eq_getElem?_getD, fVs_get (by omega)]
    simp only [fV, a_new, if_true, Option.getD_some, Option.map_none]
    rfl
  refine W.newcK hx hb hown (hts _ g4) (hts _ g5) (hts _ g6) rfl hd h1 h2 hKn.2.1 rfl fun H1 kC hkC e1 z1 o1 => ?_
  refine kk H1 z1 o1 (fun k q hk => ?_)
  have hk0 : k < 1 := by have := (List.getElem?_eq_some_iff.mp hk).1; rwa [WL_len] at this
  obtain rfl : k = 0 := by omega
  rw [WL_get (by decide), cE_obj (by rw [a_new_eq]) g3] at hk
  cases hk
  exact ⟨_, g1, (u_born ty hts g7 hKn hkC e1 g8).to hfs⟩
theorem NWs.at {B0 B : Nat} {U : State} (hW : s.WarmedH U.vm) (hU : U.heap = H) (hS : va_S (AB B0) s.heap H locs) (hB : B0 ≤ B) (h : NWs B0 s) : NWs B U := by
  obtain ⟨⟨h1, K, Vv, h2, h3⟩, h4⟩ := h
  refine ⟨⟨fun w hw => ?_, K, Vv, vk_R.warm hW h2, STk.moved hW.alike (by rw [hU]; exact (h3.kept hS.2.1).narrow (fun q hq => Nat.le_trans hB hq))⟩, va_AO.moved hW.alike h4⟩
  obtain ⟨a, i, x, k, rfl⟩ := nestW_form w hw
  exact va_Nw.warmM hW (h1 _ hw)
theorem LW_init {y : MethodName} {bytes : ByteArray} {maxL idx d' mc ms B B0 nL : Nat} {h h' : Hp} (hx : p.tables.exec = Jvm.exec) (hb : c.code = cc) (hml : c.maxLocals = nL) (hown : s.vm.findClass R_law = some m.cls) (hts : ∀ w ∈ GT, w.before args s = true) (hK : va_K D vwCl (TY tc) s) (hd : decode cc pc = .ok (.invokespecial idx, 3))
    (hv : Cond.methodLink R_law idx y ∈ GT ∧ Cond.instanceMethod y ∈ GT ∧ Cond.initialized y.cls ∈ GT ∧ Cond.code y bytes maxL none ∈ GT ∧ y.name = "<init>" ∧ (y.cls ≠ "java/lang/invoke/MethodHandle" ∧ y.cls ≠ "java/lang/invoke/VarHandle" ∧ (parseMethodDescriptor y.desc).map (fun d => d.parameters.length) = some 0) ∧ maxL ≤ 45)
    (hM : CKA y bytes maxL d' mc ms [.ref 0] 1 h h') (hdd : d' ≤ 1000) (hrm : (rest.map fun v => v.category).sum ≤ 8) (hsz : ls.size = nL) (hn : ∀ j, (h.1 j).1 < 20 → j < 1) (hP : va_P D vwCl (WL tc B 1 h) H) (hHs : H.size = B + 1) (hNW : NWs B0 s) (hB0 : B0 = s.heap.size) (hB : B0 ≤ B) (hS : va_S (AB B0) s.heap H locs) (hcs : cells + mc ≤ room_1.cells ∧ slots + ms ≤ room_1.slots)
    (k : ∀ (H1 : Heap) (locs1 : List Loc), (∀ j, (h'.1 j).1 < 20 → j < 1 + mc) → va_P D vwCl (WL tc B (1 + mc) h') H1 → (∀ q : Nat, q < H.size → ¬ AB B q → H1[q]? = H[q]?) → va_S (AB B0) s.heap H1 locs1 → W p l e room_1 s m args below meth c H1 locs1 (cells + mc) (slots + ms) Q (F0 m (pc + 3) ls rest)) : W p l e room_1 s m args below meth c H locs cells slots Q (F0 m pc ls (.ref B :: rest)) := by
  obtain ⟨v1, v2, v4, v5, v5n, v6, v7⟩ := hv
  have hp : PreS s H (PCA D tc B 1 [.ref 0] h) (.ref B :: []) := ⟨PCA_blind, fun U hU hW => ⟨rfl, by rw [hU]; exact hP, hn, va_K.moved hW.alike hK, by rw [hU]; exact hHs, NWs.at hW hU hS hB hNW⟩⟩
  have hroom : (rmA d' mc ms).frames + 1 ≤ room_1.frames ∧ 8 + (maxL + 11) + (rmA d' mc ms).locals ≤ room_1.locals := ⟨by show d' + 1 ≤ 2048; omega, by show 8 + (maxL + 11) + 64 * d' ≤ 84000; omega⟩
  have hrun := va_runI (l := l) (e := e) (below := below) (meth := meth) (locs := locs) (cells := cells) (slots := slots) (b := B) (As := []) (rest := rest) (g := F0 m pc ls (.ref B :: rest)) ⟨hx, hb, hml, hown, hts⟩ (hM l D tc B) ⟨callB_of 0 hts (gt_good v5) rfl rfl rfl (hts _ v4) (hts _ v1) v6 hroom, v5n, hts _ v2⟩ hp rfl rfl hsz rfl (lv_room hrm) hd hcs
  intro T2 hT X
  obtain ⟨v, st₀, t, T', L, h0, X', hL, e1, e2, ⟨hvv, hP1, hn1, hz, hk⟩, stp⟩ := hrun T2 hT X
  cases hvv
  rw [h0] at hz hk
  obtain ⟨t2, a1, b1⟩ := k T'.heap (locs ++ L) hn1 (by rw [e1]; exact hP1) (fun q h1 h2 => by rw [e1]; exact hk q h1 h2)
    ⟨Nat.le_trans hS.1 (by rw [e1]; exact hz), fun q h1 h2 => by rw [e1, hk q (Nat.lt_of_lt_of_le h1 hS.1) (fun z => h2 (Nat.le_trans hB z))]; exact hS.2.1 q h1 h2, fun q hq => by
      rcases List.mem_append.mp hq with h | h
      · exact hS.2.2 q h
      · exact Nat.le_trans hB (hL q h)⟩ T' rfl X'
  exact ⟨t2, stp t2 a1, b1⟩
end LawStart
theorem a0_shape {ci : Nat} : ∀ j, ((a_new ci 0 e0 0).1 j).1 < 20 → j < 1 := by
  intro j hj
  by_cases h : j = 0
  · omega
  · rw [(a_new_ne h).1] at hj
    exact absurd (show (99 : Nat) < 20 from hj) (by decide)
set_option maxRecDepth 100000 in
set_option maxHeartbeats 4000000 in
theorem whole_start_open {p : Program} {e : Env} {s : State} {m : MethodId} {below : List Frame} {meth : Method} {c : Code} (l : Launch) {b L : Nat} {xs : Nat → Int32} (hL : L ≤ 3072) (C0 : lw_At p s m meth c b L xs) (hMain : ∃ (INV : Hp → Hp → Prop) (fu : Nat), INV hC0 hM0 ∧ OKS INV fu) : W p l e room_1 s m #[Value.ref b] below meth c s.heap [] 0 0 (lw_Z below #[Value.ref b] s) (entryFrame m ([Value.ref b] : List Value).toArray 4) := by
  obtain ⟨INV, fu, hI, hO⟩ := hMain
  obtain ⟨hx, hb, hr, hml, hown, hts0, hX, hbl, hlk, hgv⟩ := id C0
  have hts : ∀ w ∈ GT, w.before #[Value.ref b] s = true := fun w hw => hts0 w (List.mem_filter.mp hw).1
  have hNW : NWs s.heap.size s := start_N hts0 hgv rfl
  obtain ⟨D, tc, hK⟩ := start_K hts hNW.2
  have hl := lv_entry ([.ref b]) (n := 4) (Nat.le_of_ble_eq_true rfl)
  rw [lg_entry_eq]
  generalize (lg_sl ([.ref b]) ++ List.replicate (4 - (lg_sl ([.ref b])).length) Slot.unset).toArray = ls at hl ⊢
  have hl : lv_has ls 4 [(0, .ref b)] := hl
  refine LW_new hx hb hown hts hK (TB.get tb_law0 0 rfl) nc_law_8 (Nat.le_of_ble_eq_true rfl) (Nat.le_of_ble_eq_true rfl) (fun H1 z1 o1 hP1 => ?_)
  have hS1 : va_S (AB s.heap.size) s.heap H1 [] := ⟨by omega, fun q h1 _ => o1 q h1, fun q h => by cases h⟩
  refine lv_dup hx hb (TB.get tb_law0 1 rfl) rfl ?_
  refine LW_init (h' := hC0) hx hb hml hown hts hK (TB.get tb_law0 2 rfl) ci_law_8 (okc_8 0 1 (a_new 8 0 e0 0) (by rw [a_new_eq]) (by decide)) (Nat.le_of_ble_eq_true rfl) (Nat.le_of_ble_eq_true rfl) hl.1 a0_shape hP1 z1 hNW rfl (Nat.le_refl _) hS1 ⟨Nat.le_of_ble_eq_true rfl, Nat.le_of_ble_eq_true rfl⟩ (fun H2 locs2 hnC hPC hk2 hS2 => ?_)
  refine lv_astore_n (lv' := [(1, .ref s.heap.size), (0, .ref b)]) hx hb (TB.get tb_law0 3 rfl) rfl hl (by decide) rfl (fun ls hl => ?_)
  refine LW_new hx hb hown hts hK (TB.get tb_law0 4 rfl) nc_law_9 (Nat.le_of_ble_eq_true rfl) (Nat.le_of_ble_eq_true rfl) (fun H3 z3 o3 hP3 => ?_)
  have hCB : s.heap.size + 253 ≤ H2.size := size_of (n := 253) hPC (by decide)
  have hS3 : va_S (AB s.heap.size) s.heap H3 locs2 := ⟨Nat.le_trans hS2.1 (by omega), fun q h1 h2 => (o3 q (Nat.lt_of_lt_of_le h1 hS2.1)).trans (hS2.2.1 q h1 h2), hS2.2.2⟩
  have hPC3 : va_P D vwCl (WL tc s.heap.size 253 hC0) H3 := hPC.kept (fun k q hk => o3 q.1 ((hPC k q hk).lt))
  refine lv_dup hx hb (TB.get tb_law0 5 rfl) rfl ?_
  refine LW_init (h' := hM0) hx hb hml hown hts hK (TB.get tb_law0 6 rfl) ci_law_9 (okc_9 0 1 (a_new 9 0 e0 0) (by rw [a_new_eq]) (by decide)) (Nat.le_of_ble_eq_true rfl) (Nat.le_of_ble_eq_true rfl) hl.1 a0_shape hP3 z3 hNW rfl (by omega) hS3 ⟨Nat.le_of_ble_eq_true rfl, Nat.le_of_ble_eq_true rfl⟩ (fun H4 locs4 hnM hPM hk4 hS4 => ?_)
  have hPC4 : va_P D vwCl (WL tc s.heap.size 253 hC0) H4 := hPC3.kept (fun k q hk => by
    have hkn : k < 253 := by have := (List.getElem?_eq_some_iff.mp hk).1; rwa [WL_len] at this
    have hlt := (hPC3 k q hk).lt
    rw [WL_get hkn] at hk
    cases hk
    exact hk4 _ hlt (fun z => by have z : H2.size ≤ s.heap.size + k := z; omega))
  refine lv_astore_n (lv' := [(2, .ref H2.size), (1, .ref s.heap.size), (0, .ref b)]) hx hb (TB.get tb_law0 7 rfl) rfl hl (by decide) rfl (fun ls hl => ?_)
  refine lv_iconst (v := 0) hx hb (TB.get tb_law0 8 rfl) (by decide) ?_
  refine lv_istore_n (lv' := [(3, .int 0), (2, .ref H2.size), (1, .ref s.heap.size), (0, .ref b)]) hx hb (TB.get tb_law0 9 rfl) rfl hl (by decide) rfl (fun ls hl => ?_)
  exact law_loop hL C0 hK (Nat.le_refl _) hCB hO (L + 1) 0 hC0 hM0 hI H4 locs4 ls (by omega) (by omega) hnC hnM hPC4 hPM hS4 (lv_sub hl [0, 3, 2, 1] rfl)
