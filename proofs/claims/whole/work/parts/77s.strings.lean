def tl_J0_coder_7d493 : List (Nat × Instr × Nat) := [(0, .getstatic 38, 3), (3, .ifCond .eq 10, 3), (6, .aload_n 0, 1), (7, .getfield 15, 3), (10, .goto 4, 3), (13, .iconst 1, 1), (14, .ireturn, 1)]
theorem tb_J0_coder_7d493 : TB cJ0_coder_7d493 tl_J0_coder_7d493 := TB_of (by decide +kernel)
theorem cm_J0_coder_7d493 : Cond.code yJ0_coder_7d493 cJ0_coder_7d493 1 (some .byte) ∈ GT := (gt1 47 rfl rfl)
def tl_J0_length_8abf5 : List (Nat × Instr × Nat) := [(0, .aload_n 0, 1), (1, .getfield 9, 3), (4, .arraylength, 1), (5, .aload_n 0, 1), (6, .invokevirtual 335, 3), (9, .ishr, 1), (10, .ireturn, 1)]
theorem tb_J0_length_8abf5 : TB cJ0_length_8abf5 tl_J0_length_8abf5 := TB_of (by decide +kernel)
theorem cm_J0_length_8abf5 : Cond.code yJ0_length_8abf5 cJ0_length_8abf5 1 (some .int) ∈ GT := (gt1 43 rfl rfl)
def tl_J0_isLatin1_aae02 : List (Nat × Instr × Nat) := [(0, .getstatic 38, 3), (3, .ifCond .eq 14, 3), (6, .aload_n 0, 1), (7, .getfield 15, 3), (10, .ifCond .ne 7, 3), (13, .iconst 1, 1), (14, .goto 4, 3), (17, .iconst 0, 1), (18, .ireturn, 1)]
theorem tb_J0_isLatin1_aae02 : TB cJ0_isLatin1_aae02 tl_J0_isLatin1_aae02 := TB_of (by decide +kernel)
theorem cm_J0_isLatin1_aae02 : Cond.code yJ0_isLatin1_aae02 cJ0_isLatin1_aae02 1 (some .boolean) ∈ GT := (gt1 57 rfl rfl)
def tl_J3_checkIndex_8e157 : List (Nat × Instr × Nat) := [(0, .iload_n 0, 1), (1, .ifCond .lt 8, 3), (4, .iload_n 0, 1), (5, .iload_n 1, 1), (6, .if_icmp .lt 10, 3), (9, .aload_n 2, 1), (10, .iload_n 0, 1), (11, .iload_n 1, 1), (12, .invokestatic 95, 3), (15, .athrow, 1), (16, .iload_n 0, 1), (17, .ireturn, 1)]
theorem tb_J3_checkIndex_8e157 : TB cJ3_checkIndex_8e157 tl_J3_checkIndex_8e157 := TB_of (by decide +kernel)
theorem cm_J3_checkIndex_8e157 : Cond.code yJ3_checkIndex_8e157 cJ3_checkIndex_8e157 3 (some .int) ∈ GT := (gt1 68 rfl rfl)
def tl_J0_checkIndex_df160 : List (Nat × Instr × Nat) := [(0, .iload_n 0, 1), (1, .iload_n 1, 1), (2, .getstatic 1053, 3), (5, .invokestatic 1059, 3), (8, .pop, 1), (9, .return_, 1)]
theorem tb_J0_checkIndex_df160 : TB cJ0_checkIndex_df160 tl_J0_checkIndex_df160 := TB_of (by decide +kernel)
theorem cm_J0_checkIndex_df160 : Cond.code yJ0_checkIndex_df160 cJ0_checkIndex_df160 2 none ∈ GT := (gt1 63 rfl rfl)
def tl_J1_charAt_3b067 : List (Nat × Instr × Nat) := [(0, .iload_n 1, 1), (1, .aload_n 0, 1), (2, .arraylength, 1), (3, .invokestatic 9, 3), (6, .aload_n 0, 1), (7, .iload_n 1, 1), (8, .baload, 1), (9, .sipush 255, 3), (12, .iand, 1), (13, .i2c, 1), (14, .ireturn, 1)]
theorem tb_J1_charAt_3b067 : TB cJ1_charAt_3b067 tl_J1_charAt_3b067 := TB_of (by decide +kernel)
theorem cm_J1_charAt_3b067 : Cond.code yJ1_charAt_3b067 cJ1_charAt_3b067 2 (some .char) ∈ GT := (gt1 60 rfl rfl)
def tl_J0_charAt_5068e : List (Nat × Instr × Nat) := [(0, .aload_n 0, 1), (1, .invokevirtual 492, 3), (4, .ifCond .eq 12, 3), (7, .aload_n 0, 1), (8, .getfield 9, 3), (11, .iload_n 1, 1), (12, .invokestatic 495, 3), (15, .ireturn, 1), (16, .aload_n 0, 1), (17, .getfield 9, 3), (20, .iload_n 1, 1), (21, .invokestatic 498, 3), (24, .ireturn, 1)]
theorem tb_J0_charAt_5068e : TB cJ0_charAt_5068e tl_J0_charAt_5068e := TB_of (by decide +kernel)
theorem cm_J0_charAt_5068e : Cond.code yJ0_charAt_5068e cJ0_charAt_5068e 2 (some .char) ∈ GT := (gt1 53 rfl rfl)
theorem pn_RJ0 : plainName RJ0 = true := by decide +kernel
theorem pn_RJ1 : plainName RJ1 = true := by decide +kernel
theorem pn_RJ3 : plainName RJ3 = true := by decide +kernel
theorem jf_RJ0_9 : Cond.fieldLink RJ0 9 "java/lang/String" "value" "[B" ∈ GT := (gt8 41 rfl rfl)
theorem jf_RJ0_38 : Cond.fieldLink RJ0 38 "java/lang/String" "COMPACT_STRINGS" "Z" ∈ GT := (gt1 48 rfl rfl)
theorem jf_RJ0_15 : Cond.fieldLink RJ0 15 "java/lang/String" "coder" "B" ∈ GT := (gt8 42 rfl rfl)
theorem jf_RJ0_1053 : Cond.fieldLink RJ0 1053 "jdk/internal/util/Preconditions" "SIOOBE_FORMATTER" "Ljava/util/function/BiFunction;" ∈ GT := (gt1 64 rfl rfl)
def SV (own : String) (idx : Nat) (y : MethodName) (bytes : ByteArray) (maxL : Nat) (ret : Option FieldType) (na : Nat) : Prop :=
  Cond.methodLink own idx y ∈ GT ∧ Cond.instanceMethod y ∈ GT ∧ Cond.selects y.cls y y ∈ GT ∧ Cond.initialized y.cls ∈ GT ∧ Cond.code y bytes maxL ret ∈ GT ∧ (y.cls ≠ "java/lang/invoke/MethodHandle" ∧ y.cls ≠ "java/lang/invoke/VarHandle" ∧ (parseMethodDescriptor y.desc).map (fun d => d.parameters.length) = some na) ∧ maxL ≤ 45
theorem jv_RJ0_335 : SV RJ0 335 yJ0_coder_7d493 cJ0_coder_7d493 1 (some .byte) 0 := ⟨(gt1 44 rfl rfl), (gt1 45 rfl rfl), (gt1 46 rfl rfl), (gt1 4 rfl rfl), cm_J0_coder_7d493, by decide +kernel, by decide⟩
theorem jv_RJ0_492 : SV RJ0 492 yJ0_isLatin1_aae02 cJ0_isLatin1_aae02 1 (some .boolean) 0 := ⟨(gt1 54 rfl rfl), (gt1 55 rfl rfl), (gt1 56 rfl rfl), (gt1 4 rfl rfl), cm_J0_isLatin1_aae02, by decide +kernel, by decide⟩
theorem js_RJ0_495 : CS RJ0 495 yJ1_charAt_3b067 cJ1_charAt_3b067 2 (some .char) 2 := ⟨(gt1 58 rfl rfl), (gt1 59 rfl rfl), (gt1 5 rfl rfl), cm_J1_charAt_3b067, by decide +kernel, by decide⟩
theorem js_RJ1_9 : CS RJ1 9 yJ0_checkIndex_df160 cJ0_checkIndex_df160 2 none 2 := ⟨(gt1 61 rfl rfl), (gt1 62 rfl rfl), (gt1 4 rfl rfl), cm_J0_checkIndex_df160, by decide +kernel, by decide⟩
theorem js_RJ0_1059 : CS RJ0 1059 yJ3_checkIndex_8e157 cJ3_checkIndex_8e157 3 (some .int) 3 := ⟨(gt1 66 rfl rfl), (gt1 67 rfl rfl), (gt1 6 rfl rfl), cm_J3_checkIndex_8e157, by decide +kernel, by decide⟩
abbrev Nw0 : Nat → Prop := fun _ => False
/-- a method that writes nothing: its answer r, or none -/
def SQ (r : Option Value) : Array Value → State → Outcome → State → Prop := fun _ st o t => o = .returned r ∧ t.heap = st.heap
def SPf (K Vv : Nat) (U : State) : Prop := STk K Vv Nw0 U U.heap
def SP (av : List Value) (K Vv : Nat) : Array Value → State → Prop := fun a U => a = av.toArray ∧ SPf K Vv U
theorem SP_blind {av : List Value} {K Vv : Nat} : FrameBlind (SP av K Vv) := by
  intro a U g mk q
  exact ⟨q.1, STk.moved (u := U) (U := U.calling g mk a) (Vm.Alike.refl U.vm) q.2⟩
def SX (p : Program) (s : State) (m : MethodId) (args : Array Value) (c : Code) (cc : ByteArray) (nL : Nat) (own : String) : Prop :=
  p.tables.exec = Jvm.exec ∧ c.code = cc ∧ c.maxLocals = nL ∧ s.vm.findClass own = some m.cls ∧ ∀ w ∈ GT, w.before args s = true
def SM (y : MethodName) (cc : ByteArray) (maxL : Nat) (ret : Option FieldType) (d : Nat) (av : List Value) (K Vv : Nat) (r : Option Value) : Prop :=
  ∀ l : Launch, Met l y (.code y cc maxL ret :: GT) (rmD d) (SP av K Vv) (SQ r) 0 0 Nw0
theorem SM_of {y : MethodName} {cc : ByteArray} {maxL : Nat} {ret : Option FieldType} {d : Nat} {av : List Value} {K Vv : Nat} {r : Option Value} (hy : plainName y.cls = true) (hlen : (lg_sl av).length ≤ maxL)
    (body : ∀ (l : Launch) (p : Program) (e : Env) (s : State) (m : MethodId) (args : Array Value) (below : List Frame) (meth : Method) (c : Code), SX p s m args c cc maxL y.cls → meth.sig.returnType = ret → meth.locks = false → STk K Vv Nw0 s s.heap →
      ∀ ls : Array Slot, lv_has ls maxL (lv_args 0 av) → W p l e (rmD d) s m args below meth c s.heap [] 0 0 (MQ below (SQ r) args s 0 0 Nw0) (F0 m 0 ls [])) : SM y cc maxL ret d av K Vv r := by
  intro l
  refine Met.ofW (cc := cc) (maxL := maxL) (ret := ret) hy rfl ?_
  intro p e s m args below meth c s₁ Bd hml hv
  obtain ⟨rfl, hST⟩ := hv
  have hts := atoms_spec (ws := Cond.code y cc maxL ret :: GT) Bd.pre
  have hown : s.vm.findClass y.cls = some m.cls := findClass_of_methodNamed Bd.named
  have hl := lv_entry av (n := maxL) hlen
  rw [lg_entry_eq]
  generalize (lg_sl av ++ List.replicate (maxL - (lg_sl av).length) Slot.unset).toArray = ls at hl ⊢
  exact body l p e s m av.toArray below meth c ⟨Bd.exec, Bd.bytes, hml, hown, fun w hw => hts w (List.mem_cons_of_mem _ hw)⟩ Bd.returns Bd.notSynchronized hST ls hl
section SW
variable {p : Program} {l : Launch} {e : Env} {R : Room} {s : State} {m : MethodId} {args : Array Value} {below : List Frame} {meth : Method} {c : Code} {cc : ByteArray} {nL : Nat} {own : String} {cells slots : Nat} {Q : State → Prop} {H : Heap} {locs : List Loc}
theorem SW_after {r : Option Value} {ls : Array Slot} {pc : Nat} {st : List Value} {a : Array Value} {rest : List Value}
    (hrun : va_Run p l e R s m args below meth c H locs cells slots 0 0 (F0 m pc ls st) rest (SQ r a) Nw0) (k : ∀ locs1 : List Loc, (∀ q, q ∈ locs1 → q ∈ locs) → W p l e R s m args below meth c H locs1 cells slots Q (F0 m (pc + 3) ls (r.toList ++ rest))) : W p l e R s m args below meth c H locs cells slots Q (F0 m pc ls st) := by
  intro T hT X
  obtain ⟨v, st₀, t, T', L, h0, X', hL, e1, e2, ⟨hv, hP⟩, stp⟩ := hrun T hT X
  cases hv
  have hL0 : L = [] := by
    cases L with
    | nil => rfl
    | cons q L => exact (hL q List.mem_cons_self).elim
  subst hL0
  rw [List.append_nil] at X'
  obtain ⟨t2, a1, b1⟩ := k locs (fun _ h => h) T' (by rw [e1, hP, h0]) X'
  exact ⟨t2, stp t2 a1, b1⟩
theorem SW_callV {y : MethodName} {bytes : ByteArray} {maxL : Nat} {ret : Option FieldType} {na idx d' K Vv o : Nat} {r : Option Value} {As rest st : List Value} {ls : Array Slot} {pc : Nat} (X : SX p s m args c cc nL own) (hsz : ls.size = nL) (hd : decode cc pc = .ok (.invokevirtual idx, 3)) (hv : SV own idx y bytes maxL ret na) (hM : SM y bytes maxL ret d' (.ref o :: As) K Vv r) (hST : ∀ U : State, U.heap = H → s.WarmedH U.vm → SPf K Vv U) (hrv : ∃ cell : Cell, H[o]? = some cell ∧ cell.vm.isStatics = false ∧ s.vm.findClass y.cls = some cell.cls) (hfr : d' + 1 ≤ R.frames) (hlo : 64 * (d' + 1) ≤ R.locals) (hna : As.length = na) (hst : st = As.reverse ++ .ref o :: rest) (hrm : (rest.map fun v => v.category).sum ≤ 8) (hcs : cells ≤ R.cells ∧ slots ≤ R.slots)
    (k : ∀ locs1 : List Loc, (∀ q, q ∈ locs1 → q ∈ locs) → W p l e R s m args below meth c H locs1 cells slots Q (F0 m (pc + 3) ls (r.toList ++ rest))) : W p l e R s m args below meth c H locs cells slots Q (F0 m pc ls st) := by
  subst hst
  obtain ⟨v1, v2, v3, v4, v5, v6, v7⟩ := hv
  obtain ⟨hx, hb, hml, hown, hts⟩ := id X
  have cw : CallW R s args own y.cls idx y bytes maxL ret (.code y bytes maxL ret :: GT) (rmD d') 0 0 na := ⟨callB_of na hts (gt_good v5) rfl rfl rfl (hts _ v4) (hts _ v1) v6 ⟨hfr, by show 8 + (maxL + 11) + 64 * d' ≤ R.locals; omega⟩, hts _ v2, hts _ v3⟩
  exact SW_after (va_runV (As := As) (rest := rest) (g := F0 m pc ls (As.reverse ++ .ref o :: rest)) ⟨hx, hb, hml, hown, hts⟩ (hM l) cw ⟨SP_blind, hrv, fun U hU hW => ⟨rfl, hST U hU hW⟩⟩ rfl hna hsz rfl (lv_room hrm) hd hcs) k
theorem SW_callS {y : MethodName} {bytes : ByteArray} {maxL : Nat} {ret : Option FieldType} {na idx d' K Vv : Nat} {r : Option Value} {As rest st : List Value} {ls : Array Slot} {pc : Nat} (X : SX p s m args c cc nL own) (hsz : ls.size = nL) (hd : decode cc pc = .ok (.invokestatic idx, 3)) (hv : CS own idx y bytes maxL ret na) (hM : SM y bytes maxL ret d' As K Vv r) (hST : ∀ U : State, U.heap = H → s.WarmedH U.vm → SPf K Vv U) (hfr : d' + 1 ≤ R.frames) (hlo : 64 * (d' + 1) ≤ R.locals) (hna : As.length = na) (hst : st = As.reverse ++ rest) (hrm : (rest.map fun v => v.category).sum ≤ 8) (hcs : cells ≤ R.cells ∧ slots ≤ R.slots)
    (k : ∀ locs1 : List Loc, (∀ q, q ∈ locs1 → q ∈ locs) → W p l e R s m args below meth c H locs1 cells slots Q (F0 m (pc + 3) ls (r.toList ++ rest))) : W p l e R s m args below meth c H locs cells slots Q (F0 m pc ls st) := by
  subst hst
  obtain ⟨v1, v2, v4, v5, v6, v7⟩ := hv
  obtain ⟨hx, hb, hml, hown, hts⟩ := id X
  have cw : CallB R s args own idx y bytes maxL ret (.code y bytes maxL ret :: GT) (rmD d') 0 0 na ∧ (Cond.static y).before args s = true := ⟨callB_of na hts (gt_good v5) rfl rfl rfl (hts _ v4) (hts _ v1) v6 ⟨hfr, by show 8 + (maxL + 11) + 64 * d' ≤ R.locals; omega⟩, hts _ v2⟩
  exact SW_after (va_runS (As := As) (rest := rest) (g := F0 m pc ls (As.reverse ++ rest)) ⟨hx, hb, hml, hown, hts⟩ (hM l) cw ⟨SP_blind, fun U hU hW => ⟨rfl, hST U hU hW⟩⟩ rfl hna hsz rfl (lv_room hrm) hd hcs) k
end SW
set_option maxRecDepth 100000 in
set_option maxHeartbeats 4000000 in
theorem sm_coder (K Vv : Nat) : SM yJ0_coder_7d493 cJ0_coder_7d493 1 (some .byte) 0 [.ref K] K Vv (some (.int 0)) := by
  refine SM_of pn_RJ0 (Nat.le_of_ble_eq_true rfl) ?_
  intro l p e s m args below meth c X hr hlk hST ls hl
  obtain ⟨hx, hb, hml, hown, hts⟩ := id X
  have hS : va_S Nw0 s.heap s.heap [] := va_S.rf
  obtain ⟨hO, hco, hva, hT⟩ := hST.1.1 0 (by decide)
  have hl : lv_has ls 1 [(0, .ref K)] := hl
  refine va_gets (ref := "java/lang/String") hx hb hST.2.1 hS hown (hts _ jf_RJ0_38) (fun _ h => h) (TB.get tb_J0_coder_7d493 0 rfl) ?_
  refine lv_if_eq (tgt := 13) hx hb (TB.get tb_J0_coder_7d493 1 rfl) (by decide) (fun z => absurd z (by decide)) (fun _ => ?_)
  refine lv_aload_n hx hb (TB.get tb_J0_coder_7d493 2 rfl) rfl (lv_at hl 0 rfl) ?_
  refine vk_getf (ref := "java/lang/String") hx hb hco hS hown (hts _ jf_RJ0_15) (fun _ h => h) (TB.get tb_J0_coder_7d493 3 rfl) ?_
  refine lv_goto (tgt := 14) hx hb (TB.get tb_J0_coder_7d493 4 rfl) (by decide) ?_
  exact W.zret (v := 0) (ty := .byte) hx hb hr rfl (fun t ht hW => ⟨rfl, ht⟩) (fun _ h => by cases h) (TB.get tb_J0_coder_7d493 6 rfl)
set_option maxRecDepth 100000 in
set_option maxHeartbeats 4000000 in
theorem sm_length (K Vv : Nat) : SM yJ0_length_8abf5 cJ0_length_8abf5 1 (some .int) 1 [.ref K] K Vv (some (.int 86)) := by
  refine SM_of pn_RJ0 (Nat.le_of_ble_eq_true rfl) ?_
  intro l p e s m args below meth c X hr hlk hST ls hl
  obtain ⟨hx, hb, hml, hown, hts⟩ := id X
  have hS : va_S Nw0 s.heap s.heap [] := va_S.rf
  obtain ⟨hO, hco, hva, hT⟩ := hST.1.1 0 (by decide)
  have hl : lv_has ls 1 [(0, .ref K)] := hl
  refine lv_aload_n hx hb (TB.get tb_J0_length_8abf5 0 rfl) rfl (lv_at hl 0 rfl) ?_
  refine vk_getf (ref := "java/lang/String") hx hb hva hS hown (hts _ jf_RJ0_9) (fun _ h => h) (TB.get tb_J0_length_8abf5 1 rfl) ?_
  refine va_tlen (v := 86) hx hb hT hS rfl (TB.get tb_J0_length_8abf5 2 rfl) ?_
  refine lv_aload_n hx hb (TB.get tb_J0_length_8abf5 3 rfl) rfl (lv_at hl 0 rfl) ?_
  refine SW_callV (As := []) (rest := [.int 86]) X hl.1 (TB.get tb_J0_length_8abf5 4 rfl) jv_RJ0_335 (sm_coder K Vv) (fun U hU hW => by show STk K Vv Nw0 U U.heap; rw [hU]; exact hST.moved hW.alike) (vk_recv hST.1 (i := 0) (by decide) hS) (Nat.le_of_ble_eq_true rfl) (Nat.le_of_ble_eq_true rfl) rfl rfl (Nat.le_of_ble_eq_true rfl) ⟨Nat.le_refl _, Nat.le_refl _⟩ (fun locs1 hlo => ?_)
  refine lv_ishr (x := 86) (y := 0) hx hb (TB.get tb_J0_length_8abf5 5 rfl) ?_
  exact W.iret (v := 86) hx hb hr (fun t ht hW => ⟨rfl, ht⟩) (fun q h => by cases hlo q h) (TB.get tb_J0_length_8abf5 6 rfl)
set_option maxRecDepth 100000 in
set_option maxHeartbeats 4000000 in
theorem sm_isLatin1 (K Vv : Nat) : SM yJ0_isLatin1_aae02 cJ0_isLatin1_aae02 1 (some .boolean) 0 [.ref K] K Vv (some (.int 1)) := by
  refine SM_of pn_RJ0 (Nat.le_of_ble_eq_true rfl) ?_
  intro l p e s m args below meth c X hr hlk hST ls hl
  obtain ⟨hx, hb, hml, hown, hts⟩ := id X
  have hS : va_S Nw0 s.heap s.heap [] := va_S.rf
  obtain ⟨hO, hco, hva, hT⟩ := hST.1.1 0 (by decide)
  have hl : lv_has ls 1 [(0, .ref K)] := hl
  refine va_gets (ref := "java/lang/String") hx hb hST.2.1 hS hown (hts _ jf_RJ0_38) (fun _ h => h) (TB.get tb_J0_isLatin1_aae02 0 rfl) ?_
  refine lv_if_eq (tgt := 17) hx hb (TB.get tb_J0_isLatin1_aae02 1 rfl) (by decide) (fun z => absurd z (by decide)) (fun _ => ?_)
  refine lv_aload_n hx hb (TB.get tb_J0_isLatin1_aae02 2 rfl) rfl (lv_at hl 0 rfl) ?_
  refine vk_getf (ref := "java/lang/String") hx hb hco hS hown (hts _ jf_RJ0_15) (fun _ h => h) (TB.get tb_J0_isLatin1_aae02 3 rfl) ?_
  refine lv_if_ne (tgt := 17) hx hb (TB.get tb_J0_isLatin1_aae02 4 rfl) (by decide) (fun z => absurd rfl z) (fun _ => ?_)
  refine lv_iconst (v := 1) hx hb (TB.get tb_J0_isLatin1_aae02 5 rfl) (by decide) ?_
  refine lv_goto (tgt := 18) hx hb (TB.get tb_J0_isLatin1_aae02 6 rfl) (by decide) ?_
  exact W.zret (v := 1) (ty := .boolean) hx hb hr rfl (fun t ht hW => ⟨rfl, ht⟩) (fun _ h => by cases h) (TB.get tb_J0_isLatin1_aae02 8 rfl)
set_option maxRecDepth 100000 in
set_option maxHeartbeats 4000000 in
theorem sm_check3 (K Vv : Nat) (i n : Int32) (w : Value) (hw : w = .null ∨ ∃ t, w = .ref t) (h0 : ¬ i < 0) (h1 : i < n) : SM yJ3_checkIndex_8e157 cJ3_checkIndex_8e157 3 (some .int) 0 [.int i, .int n, w] K Vv (some (.int i)) := by
  have hlen : (lg_sl [.int i, .int n, w]).length ≤ 3 := by rcases hw with rfl | ⟨t, rfl⟩ <;> exact Nat.le_of_ble_eq_true rfl
  refine SM_of pn_RJ3 hlen ?_
  intro l p e s m args below meth c X hr hlk hST ls hl
  obtain ⟨hx, hb, hml, hown, hts⟩ := id X
  have hS : va_S Nw0 s.heap s.heap [] := va_S.rf
  obtain ⟨hO, hco, hva, hT⟩ := hST.1.1 0 (by decide)
  have hl : lv_has ls 3 [(0, .int i), (1, .int n)] := lv_sub hl [0, 1] rfl
  refine lv_iload_n hx hb (TB.get tb_J3_checkIndex_8e157 0 rfl) rfl (lv_at hl 0 rfl) ?_
  refine lv_if_lt (tgt := 9) hx hb (TB.get tb_J3_checkIndex_8e157 1 rfl) (by decide) (fun z => absurd z h0) (fun _ => ?_)
  refine lv_iload_n hx hb (TB.get tb_J3_checkIndex_8e157 2 rfl) rfl (lv_at hl 0 rfl) ?_
  refine lv_iload_n hx hb (TB.get tb_J3_checkIndex_8e157 3 rfl) rfl (lv_at hl 1 rfl) ?_
  refine lv_icmp_lt (tgt := 16) hx hb (TB.get tb_J3_checkIndex_8e157 4 rfl) (by decide) (fun _ => ?_) (fun z => absurd h1 z)
  refine lv_iload_n hx hb (TB.get tb_J3_checkIndex_8e157 10 rfl) rfl (lv_at hl 0 rfl) ?_
  exact W.iret (v := i) hx hb hr (fun t ht hW => ⟨rfl, ht⟩) (fun _ h => by cases h) (TB.get tb_J3_checkIndex_8e157 11 rfl)
set_option maxRecDepth 100000 in
set_option maxHeartbeats 4000000 in
theorem sm_check0 (K Vv : Nat) (i n : Int32) (h0 : ¬ i < 0) (h1 : i < n) : SM yJ0_checkIndex_df160 cJ0_checkIndex_df160 2 none 1 [.int i, .int n] K Vv none := by
  refine SM_of pn_RJ0 (Nat.le_of_ble_eq_true rfl) ?_
  intro l p e s m args below meth c X hr hlk hST ls hl
  obtain ⟨hx, hb, hml, hown, hts⟩ := id X
  have hS : va_S Nw0 s.heap s.heap [] := va_S.rf
  obtain ⟨hO, hco, hva, hT⟩ := hST.1.1 0 (by decide)
  have hl : lv_has ls 2 [(0, .int i), (1, .int n)] := hl
  refine lv_iload_n hx hb (TB.get tb_J0_checkIndex_df160 0 rfl) rfl (lv_at hl 0 rfl) ?_
  refine lv_iload_n hx hb (TB.get tb_J0_checkIndex_df160 1 rfl) rfl (lv_at hl 1 rfl) ?_
  have go : ∀ w : Value, (w = .null ∨ ∃ t, w = .ref t) → W p l e (rmD 1) s m args below meth c s.heap [] 0 0 (MQ below (SQ none) args s 0 0 Nw0) (F0 m 5 ls [w, .int n, .int i]) := by
    intro w hw
    refine SW_callS (As := [.int i, .int n, w]) (rest := []) X hl.1 (TB.get tb_J0_checkIndex_df160 3 rfl) js_RJ0_1059 (sm_check3 K Vv i n w hw h0 h1) (fun U hU hW => by show STk K Vv Nw0 U U.heap; rw [hU]; exact hST.moved hW.alike) (Nat.le_of_ble_eq_true rfl) (Nat.le_of_ble_eq_true rfl) rfl rfl (Nat.le_of_ble_eq_true rfl) ⟨Nat.le_refl _, Nat.le_refl _⟩ (fun locs1 hlo => ?_)
    refine lv_pop (va := .int i) hx hb (TB.get tb_J0_checkIndex_df160 4 rfl) rfl ?_
    exact W.vret hx hb hr (fun t ht hW => ⟨rfl, ht⟩) (fun q h => by cases hlo q h) (TB.get tb_J0_checkIndex_df160 5 rfl)
  rcases hST.2.2 with hz | ⟨t, hz⟩
  · exact va_gets (ref := "jdk/internal/util/Preconditions") hx hb hz hS hown (hts _ jf_RJ0_1053) (fun _ h => h) (TB.get tb_J0_checkIndex_df160 2 rfl) (go _ (Or.inl rfl))
  · exact va_gets (ref := "jdk/internal/util/Preconditions") hx hb hz hS hown (hts _ jf_RJ0_1053) (fun _ h => h) (TB.get tb_J0_checkIndex_df160 2 rfl) (go _ (Or.inr ⟨t, rfl⟩))
theorem RB_ok : ∀ j, j < 86 → (((RB.getD j 0) &&& 255).toUInt32 % 65536).toInt32 = RB.getD j 0 ∧ narrow .char (.int (RB.getD j 0)) = .int (RB.getD j 0) := by decide +kernel
set_option maxRecDepth 100000 in
set_option maxHeartbeats 4000000 in
theorem sm_char1 (K Vv j : Nat) (hj : j < 86) : SM yJ1_charAt_3b067 cJ1_charAt_3b067 2 (some .char) 2 [.ref Vv, .int (nI j)] K Vv (some (.int (RB.getD j 0))) := by
  refine SM_of pn_RJ1 (Nat.le_of_ble_eq_true rfl) ?_
  intro l p e s m args below meth c X hr hlk hST ls hl
  obtain ⟨hx, hb, hml, hown, hts⟩ := id X
  have hS : va_S Nw0 s.heap s.heap [] := va_S.rf
  obtain ⟨hO, hco, hva, hT⟩ := hST.1.1 0 (by decide)
  have hl : lv_has ls 2 [(0, .ref Vv), (1, .int (nI j))] := hl
  refine lv_iload_n hx hb (TB.get tb_J1_charAt_3b067 0 rfl) rfl (lv_at hl 1 rfl) ?_
  refine lv_aload_n hx hb (TB.get tb_J1_charAt_3b067 1 rfl) rfl (lv_at hl 0 rfl) ?_
  refine va_tlen (v := 86) hx hb hT hS rfl (TB.get tb_J1_charAt_3b067 2 rfl) ?_
  refine SW_callS (As := [.int (nI j), .int 86]) (rest := []) X hl.1 (TB.get tb_J1_charAt_3b067 3 rfl) js_RJ1_9 (sm_check0 K Vv (nI j) 86 (nI_pos (by omega)) (nI_lt (b := 86) hj (by decide))) (fun U hU hW => by show STk K Vv Nw0 U U.heap; rw [hU]; exact hST.moved hW.alike) (Nat.le_of_ble_eq_true rfl) (Nat.le_of_ble_eq_true rfl) rfl rfl (Nat.le_of_ble_eq_true rfl) ⟨Nat.le_refl _, Nat.le_refl _⟩ (fun locs1 hlo => ?_)
  have hS1 : va_S Nw0 s.heap s.heap locs1 := ⟨Nat.le_refl _, fun _ _ _ => rfl, fun q h => by cases hlo q h⟩
  refine lv_aload_n hx hb (TB.get tb_J1_charAt_3b067 4 rfl) rfl (lv_at hl 0 rfl) ?_
  refine lv_iload_n hx hb (TB.get tb_J1_charAt_3b067 5 rfl) rfl (lv_at hl 1 rfl) ?_
  refine va_tb (v := .int (RB.getD j 0)) hx hb hT hS1 (vp_in_nI hj (by decide)) (by rw [nI_clamp (by omega)]; rfl) (TB.get tb_J1_charAt_3b067 6 rfl) ?_
  refine lv_sipush (v := 255) hx hb (TB.get tb_J1_charAt_3b067 7 rfl) (by decide) ?_
  refine lv_iand hx hb (TB.get tb_J1_charAt_3b067 8 rfl) ?_
  refine lv_i2c (v := RB.getD j 0) hx hb (TB.get tb_J1_charAt_3b067 9 rfl) (RB_ok j hj).1 ?_
  exact W.zret (v := RB.getD j 0) (ty := .char) hx hb hr (RB_ok j hj).2 (fun t ht hW => ⟨rfl, ht⟩) (fun q h => by cases hlo q h) (TB.get tb_J1_charAt_3b067 10 rfl)
set_option maxRecDepth 100000 in
set_option maxHeartbeats 4000000 in
theorem sm_charAt (K Vv j : Nat) (hj : j < 86) : SM yJ0_charAt_5068e cJ0_charAt_5068e 2 (some .char) 3 [.ref K, .int (nI j)] K Vv (some (.int (RB.getD j 0))) := by
  refine SM_of pn_RJ0 (Nat.le_of_ble_eq_true rfl) ?_
  intro l p e s m args below meth c X hr hlk hST ls hl
  obtain ⟨hx, hb, hml, hown, hts⟩ := id X
  have hS : va_S Nw0 s.heap s.heap [] := va_S.rf
  obtain ⟨hO, hco, hva, hT⟩ := hST.1.1 0 (by decide)
  have hl : lv_has ls 2 [(0, .ref K), (1, .int (nI j))] := hl
  refine lv_aload_n hx hb (TB.get tb_J0_charAt_5068e 0 rfl) rfl (lv_at hl 0 rfl) ?_
  refine SW_callV (As := []) (rest := []) X hl.1 (TB.get tb_J0_charAt_5068e 1 rfl) jv_RJ0_492 (sm_isLatin1 K Vv) (fun U hU hW => by show STk K Vv Nw0 U U.heap; rw [hU]; exact hST.moved hW.alike) (vk_recv hST.1 (i := 0) (by decide) hS) (Nat.le_of_ble_eq_true rfl) (Nat.le_of_ble_eq_true rfl) rfl rfl (Nat.le_of_ble_eq_true rfl) ⟨Nat.le_refl _, Nat.le_refl _⟩ (fun locs1 hlo => ?_)
  have hS1 : va_S Nw0 s.heap s.heap locs1 := ⟨Nat.le_refl _, fun _ _ _ => rfl, fun q h => by cases hlo q h⟩
  refine lv_if_eq (x := 1) (tgt := 16) hx hb (TB.get tb_J0_charAt_5068e 2 rfl) (by decide) (fun z => absurd z (by decide)) (fun _ => ?_)
  refine lv_aload_n hx hb (TB.get tb_J0_charAt_5068e 3 rfl) rfl (lv_at hl 0 rfl) ?_
  refine vk_getf (ref := "java/lang/String") hx hb hva hS1 hown (hts _ jf_RJ0_9) (fun _ h => h) (TB.get tb_J0_charAt_5068e 4 rfl) ?_
  refine lv_iload_n hx hb (TB.get tb_J0_charAt_5068e 5 rfl) rfl (lv_at hl 1 rfl) ?_
  refine SW_callS (As := [.ref Vv, .int (nI j)]) (rest := []) X hl.1 (TB.get tb_J0_charAt_5068e 6 rfl) js_RJ0_495 (sm_char1 K Vv j hj) (fun U hU hW => by show STk K Vv Nw0 U U.heap; rw [hU]; exact hST.moved hW.alike) (Nat.le_of_ble_eq_true rfl) (Nat.le_of_ble_eq_true rfl) rfl rfl (Nat.le_of_ble_eq_true rfl) ⟨Nat.le_refl _, Nat.le_refl _⟩ (fun locs2 hlo2 => ?_)
  exact W.zret (v := RB.getD j 0) (ty := .char) hx hb hr (RB_ok j hj).2 (fun t ht hW => ⟨rfl, ht⟩) (fun q h => by cases hlo q (hlo2 q h)) (TB.get tb_J0_charAt_5068e 7 rfl)
