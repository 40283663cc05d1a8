theorem V_nn {p : Program} {l : Launch} {e : Env} {R : Room} {s : State} {m : MethodId} {args : Array Value} {below : List Frame} {meth : Method} {c : Code} {nL : Nat} {D : va_G} {tc : Nat → ClassId} {B n cells slots : Nat} {A : Nat → Prop} {H0 : Heap} {Q : State → Prop} {h : Hp} {pc : Nat} {lv : List (Nat × Value)} {st : List Value} {n' c' s' : Nat} (h1 : n = n') (h2 : cells = c') (h3 : slots = s') (k : V p l e R s m args below meth c nL D tc B n' A H0 c' s' Q h pc lv st) : V p l e R s m args below meth c nL D tc B n A H0 cells slots Q h pc lv st := by
  subst h1; subst h2; subst h3; exact k
theorem oi_1 : Cond.instanceMethod objectInit ∈ GT := (gt1 25 rfl rfl)
theorem oi_2 : Cond.code objectInit ⟨#[0xb1]⟩ 1 none ∈ GT := (gt1 26 rfl rfl)
theorem a_kd {k len n i : Nat} {h : Hp} {x : Nat × Nat} (hi : i ≠ n) (e : h.1 i = x) : (a_new k len h n).1 i = x := (a_new_ne hi).1.trans e
theorem a_kd1 {k len n i : Nat} {h : Hp} {x : Nat} (hi : i ≠ n) (e : (h.1 i).1 = x) : ((a_new k len h n).1 i).1 = x := by rw [(a_new_ne hi).1]; exact e
theorem c_bipush_58 : (Int8.ofInt (58)).toInt32 = (58) := by decide
theorem c_sipush_144 : (Int16.ofInt (144)).toInt32 = (144) := by decide
theorem c_sipush_246 : (Int16.ofInt (246)).toInt32 = (246) := by decide
theorem ay_boolean : Cond.arrayClass .boolean ∈ GT := (gt2 67 rfl rfl)
theorem ay_byte : Cond.arrayClass .byte ∈ GT := (gt1 118 rfl rfl)
theorem ay_int : Cond.arrayClass .int ∈ GT := (gt1 179 rfl rfl)
theorem ay_long : Cond.arrayClass .long ∈ GT := (gt1 119 rfl rfl)
theorem ci_0 : Cond.instanceMethod yX0_init ∈ GT ∧ Cond.initialized yX0_init.cls ∈ GT ∧ Cond.code yX0_init cX0_init 2 none ∈ GT ∧ yX0_init.name = "<init>" ∧ (yX0_init.cls ≠ "java/lang/invoke/MethodHandle" ∧ yX0_init.cls ≠ "java/lang/invoke/VarHandle" ∧ (parseMethodDescriptor yX0_init.desc).map (fun d => d.parameters.length) = some 0) ∧ 2 ≤ 45 := ⟨(gt2 71 rfl rfl), (gt1 10 rfl rfl), (gt2 72 rfl rfl), rfl, by decide +kernel, by decide⟩
theorem ci_1 : Cond.instanceMethod yX1_init ∈ GT ∧ Cond.initialized yX1_init.cls ∈ GT ∧ Cond.code yX1_init cX1_init 1 none ∈ GT ∧ yX1_init.name = "<init>" ∧ (yX1_init.cls ≠ "java/lang/invoke/MethodHandle" ∧ yX1_init.cls ≠ "java/lang/invoke/VarHandle" ∧ (parseMethodDescriptor yX1_init.desc).map (fun d => d.parameters.length) = some 0) ∧ 1 ≤ 45 := ⟨(gt2 78 rfl rfl), (gt1 11 rfl rfl), (gt2 79 rfl rfl), rfl, by decide +kernel, by decide⟩
theorem ci_2 : Cond.instanceMethod yX2_init ∈ GT ∧ Cond.initialized yX2_init.cls ∈ GT ∧ Cond.code yX2_init cX2_init 1 none ∈ GT ∧ yX2_init.name = "<init>" ∧ (yX2_init.cls ≠ "java/lang/invoke/MethodHandle" ∧ yX2_init.cls ≠ "java/lang/invoke/VarHandle" ∧ (parseMethodDescriptor yX2_init.desc).map (fun d => d.parameters.length) = some 0) ∧ 1 ≤ 45 := ⟨(gt1 129 rfl rfl), (gt1 9 rfl rfl), (gt1 130 rfl rfl), rfl, by decide +kernel, by decide⟩
theorem ci_3 : Cond.instanceMethod yX3_init ∈ GT ∧ Cond.initialized yX3_init.cls ∈ GT ∧ Cond.code yX3_init cX3_init 1 none ∈ GT ∧ yX3_init.name = "<init>" ∧ (yX3_init.cls ≠ "java/lang/invoke/MethodHandle" ∧ yX3_init.cls ≠ "java/lang/invoke/VarHandle" ∧ (parseMethodDescriptor yX3_init.desc).map (fun d => d.parameters.length) = some 0) ∧ 1 ≤ 45 := ⟨(gt1 30 rfl rfl), (gt1 2 rfl rfl), (gt1 31 rfl rfl), rfl, by decide +kernel, by decide⟩
theorem ci_4 : Cond.instanceMethod yX4_init ∈ GT ∧ Cond.initialized yX4_init.cls ∈ GT ∧ Cond.code yX4_init cX4_init 1 none ∈ GT ∧ yX4_init.name = "<init>" ∧ (yX4_init.cls ≠ "java/lang/invoke/MethodHandle" ∧ yX4_init.cls ≠ "java/lang/invoke/VarHandle" ∧ (parseMethodDescriptor yX4_init.desc).map (fun d => d.parameters.length) = some 0) ∧ 1 ≤ 45 := ⟨(gt1 123 rfl rfl), (gt1 8 rfl rfl), (gt1 124 rfl rfl), rfl, by decide +kernel, by decide⟩
theorem ci_5 : Cond.instanceMethod yX5_init ∈ GT ∧ Cond.initialized yX5_init.cls ∈ GT ∧ Cond.code yX5_init cX5_init 1 none ∈ GT ∧ yX5_init.name = "<init>" ∧ (yX5_init.cls ≠ "java/lang/invoke/MethodHandle" ∧ yX5_init.cls ≠ "java/lang/invoke/VarHandle" ∧ (parseMethodDescriptor yX5_init.desc).map (fun d => d.parameters.length) = some 0) ∧ 1 ≤ 45 := ⟨(gt2 182 rfl rfl), (gt1 13 rfl rfl), (gt2 183 rfl rfl), rfl, by decide +kernel, by decide⟩
theorem ci_6 : Cond.instanceMethod yX6_init ∈ GT ∧ Cond.initialized yX6_init.cls ∈ GT ∧ Cond.code yX6_init cX6_init 1 none ∈ GT ∧ yX6_init.name = "<init>" ∧ (yX6_init.cls ≠ "java/lang/invoke/MethodHandle" ∧ yX6_init.cls ≠ "java/lang/invoke/VarHandle" ∧ (parseMethodDescriptor yX6_init.desc).map (fun d => d.parameters.length) = some 0) ∧ 1 ≤ 45 := ⟨(gt2 119 rfl rfl), (gt1 12 rfl rfl), (gt2 120 rfl rfl), rfl, by decide +kernel, by decide⟩
theorem ci_7 : Cond.instanceMethod yX7_init ∈ GT ∧ Cond.initialized yX7_init.cls ∈ GT ∧ Cond.code yX7_init cX7_init 6 none ∈ GT ∧ yX7_init.name = "<init>" ∧ (yX7_init.cls ≠ "java/lang/invoke/MethodHandle" ∧ yX7_init.cls ≠ "java/lang/invoke/VarHandle" ∧ (parseMethodDescriptor yX7_init.desc).map (fun d => d.parameters.length) = some 0) ∧ 6 ≤ 45 := ⟨(gt1 36 rfl rfl), (gt1 3 rfl rfl), (gt1 37 rfl rfl), rfl, by decide +kernel, by decide⟩
theorem cl_RX0_9 : Cond.classLink RX0 9 RX1 ∈ GT := (gt2 74 rfl rfl)
theorem ff_RX0_11 : FF RX0 11 0 0 := ⟨RX0, TX0, 8, tyX0 0, rfl, by decide, rfl, rfl, by decide, (gt2 85 rfl rfl), cw_0, ⟨tyX0, tyX0_ok⟩, nmX0, rfl, rfl, tyX0_ok 0 (by decide), fun x => ⟨rfl, rfl⟩⟩
theorem ff_RX0_17 : FF RX0 17 0 1 := ⟨RX0, TX0, 8, tyX0 1, rfl, by decide, rfl, rfl, by decide, (gt2 87 rfl rfl), cw_0, ⟨tyX0, tyX0_ok⟩, nmX0, rfl, rfl, tyX0_ok 1 (by decide), fun x => ⟨rfl, rfl⟩⟩
theorem ff_RX0_21 : FF RX0 21 0 2 := ⟨RX0, TX0, 8, tyX0 2, rfl, by decide, rfl, rfl, by decide, (gt2 89 rfl rfl), cw_0, ⟨tyX0, tyX0_ok⟩, nmX0, rfl, rfl, tyX0_ok 2 (by decide), fun x => ⟨rfl, rfl⟩⟩
theorem ff_RX0_25 : FF RX0 25 0 6 := ⟨RX0, TX0, 8, tyX0 6, rfl, by decide, rfl, rfl, by decide, (gt2 97 rfl rfl), cw_0, ⟨tyX0, tyX0_ok⟩, nmX0, rfl, rfl, tyX0_ok 6 (by decide), fun x => ⟨rfl, rfl⟩⟩
theorem ff_RX0_29 : FF RX0 29 0 7 := ⟨RX0, TX0, 8, tyX0 7, rfl, by decide, rfl, rfl, by decide, (gt2 98 rfl rfl), cw_0, ⟨tyX0, tyX0_ok⟩, nmX0, rfl, rfl, tyX0_ok 7 (by decide), fun x => ⟨rfl, rfl⟩⟩
theorem ff_RX1_11 : FF RX1 11 1 0 := ⟨RX1, TX1, 1, tyX1 0, rfl, by decide, rfl, rfl, by decide, (gt2 81 rfl rfl), cw_1, ⟨tyX1, tyX1_ok⟩, nmX1, rfl, rfl, tyX1_ok 0 (by decide), fun x => ⟨rfl, rfl⟩⟩
theorem ff_RX2_15 : FF RX2 15 2 2 := ⟨RX2, TX2, 12, tyX2 2, rfl, by decide, rfl, rfl, by decide, (gt1 139 rfl rfl), cw_2, ⟨tyX2, tyX2_ok⟩, nmX2, rfl, rfl, tyX2_ok 2 (by decide), fun x => ⟨rfl, rfl⟩⟩
theorem ff_RX2_18 : FF RX2 18 2 3 := ⟨RX2, TX2, 12, tyX2 3, rfl, by decide, rfl, rfl, by decide, (gt1 143 rfl rfl), cw_2, ⟨tyX2, tyX2_ok⟩, nmX2, rfl, rfl, tyX2_ok 3 (by decide), fun x => ⟨rfl, rfl⟩⟩
theorem ff_RX2_21 : FF RX2 21 2 4 := ⟨RX2, TX2, 12, tyX2 4, rfl, by decide, rfl, rfl, by decide, (gt1 146 rfl rfl), cw_2, ⟨tyX2, tyX2_ok⟩, nmX2, rfl, rfl, tyX2_ok 4 (by decide), fun x => ⟨rfl, rfl⟩⟩
theorem ff_RX2_24 : FF RX2 24 2 5 := ⟨RX2, TX2, 12, tyX2 5, rfl, by decide, rfl, rfl, by decide, (gt1 147 rfl rfl), cw_2, ⟨tyX2, tyX2_ok⟩, nmX2, rfl, rfl, tyX2_ok 5 (by decide), fun x => ⟨rfl, rfl⟩⟩
theorem ff_RX2_27 : FF RX2 27 2 6 := ⟨RX2, TX2, 12, tyX2 6, rfl, by decide, rfl, rfl, by decide, (gt1 148 rfl rfl), cw_2, ⟨tyX2, tyX2_ok⟩, nmX2, rfl, rfl, tyX2_ok 6 (by decide), fun x => ⟨rfl, rfl⟩⟩
theorem ff_RX2_30 : FF RX2 30 2 7 := ⟨RX2, TX2, 12, tyX2 7, rfl, by decide, rfl, rfl, by decide, (gt1 149 rfl rfl), cw_2, ⟨tyX2, tyX2_ok⟩, nmX2, rfl, rfl, tyX2_ok 7 (by decide), fun x => ⟨rfl, rfl⟩⟩
theorem ff_RX2_33 : FF RX2 33 2 8 := ⟨RX2, TX2, 12, tyX2 8, rfl, by decide, rfl, rfl, by decide, (gt1 150 rfl rfl), cw_2, ⟨tyX2, tyX2_ok⟩, nmX2, rfl, rfl, tyX2_ok 8 (by decide), fun x => ⟨rfl, rfl⟩⟩
theorem ff_RX2_36 : FF RX2 36 2 9 := ⟨RX2, TX2, 12, tyX2 9, rfl, by decide, rfl, rfl, by decide, (gt1 151 rfl rfl), cw_2, ⟨tyX2, tyX2_ok⟩, nmX2, rfl, rfl, tyX2_ok 9 (by decide), fun x => ⟨rfl, rfl⟩⟩
theorem ff_RX2_39 : FF RX2 39 2 10 := ⟨RX2, TX2, 12, tyX2 10, rfl, by decide, rfl, rfl, by decide, (gt1 152 rfl rfl), cw_2, ⟨tyX2, tyX2_ok⟩, nmX2, rfl, rfl, tyX2_ok 10 (by decide), fun x => ⟨rfl, rfl⟩⟩
theorem ff_RX2_43 : FF RX2 43 2 11 := ⟨RX2, TX2, 12, tyX2 11, rfl, by decide, rfl, rfl, by decide, (gt1 153 rfl rfl), cw_2, ⟨tyX2, tyX2_ok⟩, nmX2, rfl, rfl, tyX2_ok 11 (by decide), fun x => ⟨rfl, rfl⟩⟩
theorem ff_RX2_9 : FF RX2 9 2 1 := ⟨RX2, TX2, 12, tyX2 1, rfl, by decide, rfl, rfl, by decide, (gt1 136 rfl rfl), cw_2, ⟨tyX2, tyX2_ok⟩, nmX2, rfl, rfl, tyX2_ok 1 (by decide), fun x => ⟨rfl, rfl⟩⟩
theorem ff_RX3_12 : FF RX3 12 3 0 := ⟨RX3, TX3, 11, tyX3 0, rfl, by decide, rfl, rfl, by decide, (gt2 30 rfl rfl), cw_3, ⟨tyX3, tyX3_ok⟩, nmX3, rfl, rfl, tyX3_ok 0 (by decide), fun x => ⟨rfl, rfl⟩⟩
theorem ff_RX3_25 : FF RX3 25 3 4 := ⟨RX3, TX3, 11, tyX3 4, rfl, by decide, rfl, rfl, by decide, (gt2 37 rfl rfl), cw_3, ⟨tyX3, tyX3_ok⟩, nmX3, rfl, rfl, tyX3_ok 4 (by decide), fun x => ⟨rfl, rfl⟩⟩
theorem ff_RX3_29 : FF RX3 29 3 5 := ⟨RX3, TX3, 11, tyX3 5, rfl, by decide, rfl, rfl, by decide, (gt2 38 rfl rfl), cw_3, ⟨tyX3, tyX3_ok⟩, nmX3, rfl, rfl, tyX3_ok 5 (by decide), fun x => ⟨rfl, rfl⟩⟩
theorem ff_RX3_32 : FF RX3 32 3 6 := ⟨RX3, TX3, 11, tyX3 6, rfl, by decide, rfl, rfl, by decide, (gt2 39 rfl rfl), cw_3, ⟨tyX3, tyX3_ok⟩, nmX3, rfl, rfl, tyX3_ok 6 (by decide), fun x => ⟨rfl, rfl⟩⟩
theorem ff_RX3_35 : FF RX3 35 3 7 := ⟨RX3, TX3, 11, tyX3 7, rfl, by decide, rfl, rfl, by decide, (gt2 40 rfl rfl), cw_3, ⟨tyX3, tyX3_ok⟩, nmX3, rfl, rfl, tyX3_ok 7 (by decide), fun x => ⟨rfl, rfl⟩⟩
theorem ff_RX3_38 : FF RX3 38 3 8 := ⟨RX3, TX3, 11, tyX3 8, rfl, by decide, rfl, rfl, by decide, (gt2 41 rfl rfl), cw_3, ⟨tyX3, tyX3_ok⟩, nmX3, rfl, rfl, tyX3_ok 8 (by decide), fun x => ⟨rfl, rfl⟩⟩
theorem ff_RX3_42 : FF RX3 42 3 9 := ⟨RX3, TX3, 11, tyX3 9, rfl, by decide, rfl, rfl, by decide, (gt2 42 rfl rfl), cw_3, ⟨tyX3, tyX3_ok⟩, nmX3, rfl, rfl, tyX3_ok 9 (by decide), fun x => ⟨rfl, rfl⟩⟩
theorem ff_RX4_12 : FF RX4 12 4 0 := ⟨RX4, TX4, 15, tyX4 0, rfl, by decide, rfl, rfl, by decide, (gt1 180 rfl rfl), cw_4, ⟨tyX4, tyX4_ok⟩, nmX4, rfl, rfl, tyX4_ok 0 (by decide), fun x => ⟨rfl, rfl⟩⟩
theorem ff_RX4_18 : FF RX4 18 4 2 := ⟨RX4, TX4, 15, tyX4 2, rfl, by decide, rfl, rfl, by decide, (gt1 189 rfl rfl), cw_4, ⟨tyX4, tyX4_ok⟩, nmX4, rfl, rfl, tyX4_ok 2 (by decide), fun x => ⟨rfl, rfl⟩⟩
theorem ff_RX4_22 : FF RX4 22 4 4 := ⟨RX4, TX4, 15, tyX4 4, rfl, by decide, rfl, rfl, by decide, (gt1 201 rfl rfl), cw_4, ⟨tyX4, tyX4_ok⟩, nmX4, rfl, rfl, tyX4_ok 4 (by decide), fun x => ⟨rfl, rfl⟩⟩
theorem ff_RX4_25 : FF RX4 25 4 5 := ⟨RX4, TX4, 15, tyX4 5, rfl, by decide, rfl, rfl, by decide, (gt1 207 rfl rfl), cw_4, ⟨tyX4, tyX4_ok⟩, nmX4, rfl, rfl, tyX4_ok 5 (by decide), fun x => ⟨rfl, rfl⟩⟩
theorem ff_RX4_28 : FF RX4 28 4 6 := ⟨RX4, TX4, 15, tyX4 6, rfl, by decide, rfl, rfl, by decide, (gt1 212 rfl rfl), cw_4, ⟨tyX4, tyX4_ok⟩, nmX4, rfl, rfl, tyX4_ok 6 (by decide), fun x => ⟨rfl, rfl⟩⟩
theorem ff_RX4_31 : FF RX4 31 4 7 := ⟨RX4, TX4, 15, tyX4 7, rfl, by decide, rfl, rfl, by decide, (gt1 216 rfl rfl), cw_4, ⟨tyX4, tyX4_ok⟩, nmX4, rfl, rfl, tyX4_ok 7 (by decide), fun x => ⟨rfl, rfl⟩⟩
theorem ff_RX4_34 : FF RX4 34 4 8 := ⟨RX4, TX4, 15, tyX4 8, rfl, by decide, rfl, rfl, by decide, (gt1 220 rfl rfl), cw_4, ⟨tyX4, tyX4_ok⟩, nmX4, rfl, rfl, tyX4_ok 8 (by decide), fun x => ⟨rfl, rfl⟩⟩
theorem ff_RX4_37 : FF RX4 37 4 9 := ⟨RX4, TX4, 15, tyX4 9, rfl, by decide, rfl, rfl, by decide, (gt1 222 rfl rfl), cw_4, ⟨tyX4, tyX4_ok⟩, nmX4, rfl, rfl, tyX4_ok 9 (by decide), fun x => ⟨rfl, rfl⟩⟩
theorem ff_RX4_40 : FF RX4 40 4 10 := ⟨RX4, TX4, 15, tyX4 10, rfl, by decide, rfl, rfl, by decide, (gt1 223 rfl rfl), cw_4, ⟨tyX4, tyX4_ok⟩, nmX4, rfl, rfl, tyX4_ok 10 (by decide), fun x => ⟨rfl, rfl⟩⟩
theorem ff_RX4_43 : FF RX4 43 4 11 := ⟨RX4, TX4, 15, tyX4 11, rfl, by decide, rfl, rfl, by decide, (gt1 225 rfl rfl), cw_4, ⟨tyX4, tyX4_ok⟩, nmX4, rfl, rfl, tyX4_ok 11 (by decide), fun x => ⟨rfl, rfl⟩⟩
theorem ff_RX4_46 : FF RX4 46 4 12 := ⟨RX4, TX4, 15, tyX4 12, rfl, by decide, rfl, rfl, by decide, (gt1 227 rfl rfl), cw_4, ⟨tyX4, tyX4_ok⟩, nmX4, rfl, rfl, tyX4_ok 12 (by decide), fun x => ⟨rfl, rfl⟩⟩
theorem ff_RX4_49 : FF RX4 49 4 13 := ⟨RX4, TX4, 15, tyX4 13, rfl, by decide, rfl, rfl, by decide, (gt1 229 rfl rfl), cw_4, ⟨tyX4, tyX4_ok⟩, nmX4, rfl, rfl, tyX4_ok 13 (by decide), fun x => ⟨rfl, rfl⟩⟩
theorem ff_RX4_52 : FF RX4 52 4 14 := ⟨RX4, TX4, 15, tyX4 14, rfl, by decide, rfl, rfl, by decide, (gt1 234 rfl rfl), cw_4, ⟨tyX4, tyX4_ok⟩, nmX4, rfl, rfl, tyX4_ok 14 (by decide), fun x => ⟨rfl, rfl⟩⟩
theorem ff_RX5_12 : FF RX5 12 5 5 := ⟨RX5, TX5, 6, tyX5 5, rfl, by decide, rfl, rfl, by decide, (gt2 196 rfl rfl), cw_5, ⟨tyX5, tyX5_ok⟩, nmX5, rfl, rfl, tyX5_ok 5 (by decide), fun x => ⟨rfl, rfl⟩⟩
theorem ff_RX6_15 : FF RX6 15 6 8 := ⟨RX6, TX6, 15, tyX6 8, rfl, by decide, rfl, rfl, by decide, (gt2 140 rfl rfl), cw_6, ⟨tyX6, tyX6_ok⟩, nmX6, rfl, rfl, tyX6_ok 8 (by decide), fun x => ⟨rfl, rfl⟩⟩
theorem ff_RX6_19 : FF RX6 19 6 10 := ⟨RX6, TX6, 15, tyX6 10, rfl, by decide, rfl, rfl, by decide, (gt2 143 rfl rfl), cw_6, ⟨tyX6, tyX6_ok⟩, nmX6, rfl, rfl, tyX6_ok 10 (by decide), fun x => ⟨rfl, rfl⟩⟩
theorem ff_RX6_23 : FF RX6 23 6 11 := ⟨RX6, TX6, 15, tyX6 11, rfl, by decide, rfl, rfl, by decide, (gt2 144 rfl rfl), cw_6, ⟨tyX6, tyX6_ok⟩, nmX6, rfl, rfl, tyX6_ok 11 (by decide), fun x => ⟨rfl, rfl⟩⟩
theorem ff_RX6_26 : FF RX6 26 6 12 := ⟨RX6, TX6, 15, tyX6 12, rfl, by decide, rfl, rfl, by decide, (gt2 145 rfl rfl), cw_6, ⟨tyX6, tyX6_ok⟩, nmX6, rfl, rfl, tyX6_ok 12 (by decide), fun x => ⟨rfl, rfl⟩⟩
theorem ff_RX6_32 : FF RX6 32 6 13 := ⟨RX6, TX6, 15, tyX6 13, rfl, by decide, rfl, rfl, by decide, (gt2 146 rfl rfl), cw_6, ⟨tyX6, tyX6_ok⟩, nmX6, rfl, rfl, tyX6_ok 13 (by decide), fun x => ⟨rfl, rfl⟩⟩
theorem ff_RX6_36 : FF RX6 36 6 14 := ⟨RX6, TX6, 15, tyX6 14, rfl, by decide, rfl, rfl, by decide, (gt2 147 rfl rfl), cw_6, ⟨tyX6, tyX6_ok⟩, nmX6, rfl, rfl, tyX6_ok 14 (by decide), fun x => ⟨rfl, rfl⟩⟩
theorem ff_RX6_9 : FF RX6 9 6 7 := ⟨RX6, TX6, 15, tyX6 7, rfl, by decide, rfl, rfl, by decide, (gt2 138 rfl rfl), cw_6, ⟨tyX6, tyX6_ok⟩, nmX6, rfl, rfl, tyX6_ok 7 (by decide), fun x => ⟨rfl, rfl⟩⟩
theorem ff_RX7_15 : FF RX7 15 7 7 := ⟨RX7, TX7, 8, tyX7 7, rfl, by decide, rfl, rfl, by decide, (gt1 100 rfl rfl), cw_7, ⟨tyX7, tyX7_ok⟩, nmX7, rfl, rfl, tyX7_ok 7 (by decide), fun x => ⟨rfl, rfl⟩⟩
theorem ff_RX7_9 : FF RX7 9 7 6 := ⟨RX7, TX7, 8, tyX7 6, rfl, by decide, rfl, rfl, by decide, (gt1 99 rfl rfl), cw_7, ⟨tyX7, tyX7_ok⟩, nmX7, rfl, rfl, tyX7_ok 6 (by decide), fun x => ⟨rfl, rfl⟩⟩
theorem ff_RX8_12 : FF RX8 12 8 0 := ⟨RX8, TX8, 12, tyX8 0, rfl, by decide, rfl, rfl, by decide, (gt2 215 rfl rfl), cw_8, ⟨tyX8, tyX8_ok⟩, nmX8, rfl, rfl, tyX8_ok 0 (by decide), fun x => ⟨rfl, rfl⟩⟩
theorem ff_RX8_19 : FF RX8 19 8 1 := ⟨RX8, TX8, 12, tyX8 1, rfl, by decide, rfl, rfl, by decide, (gt2 216 rfl rfl), cw_8, ⟨tyX8, tyX8_ok⟩, nmX8, rfl, rfl, tyX8_ok 1 (by decide), fun x => ⟨rfl, rfl⟩⟩
theorem ff_RX8_23 : FF RX8 23 8 2 := ⟨RX8, TX8, 12, tyX8 2, rfl, by decide, rfl, rfl, by decide, (gt2 217 rfl rfl), cw_8, ⟨tyX8, tyX8_ok⟩, nmX8, rfl, rfl, tyX8_ok 2 (by decide), fun x => ⟨rfl, rfl⟩⟩
theorem ff_RX8_29 : FF RX8 29 8 3 := ⟨RX8, TX8, 12, tyX8 3, rfl, by decide, rfl, rfl, by decide, (gt2 218 rfl rfl), cw_8, ⟨tyX8, tyX8_ok⟩, nmX8, rfl, rfl, tyX8_ok 3 (by decide), fun x => ⟨rfl, rfl⟩⟩
theorem ff_RX8_36 : FF RX8 36 8 4 := ⟨RX8, TX8, 12, tyX8 4, rfl, by decide, rfl, rfl, by decide, (gt2 219 rfl rfl), cw_8, ⟨tyX8, tyX8_ok⟩, nmX8, rfl, rfl, tyX8_ok 4 (by decide), fun x => ⟨rfl, rfl⟩⟩
theorem ff_RX8_40 : FF RX8 40 8 5 := ⟨RX8, TX8, 12, tyX8 5, rfl, by decide, rfl, rfl, by decide, (gt2 220 rfl rfl), cw_8, ⟨tyX8, tyX8_ok⟩, nmX8, rfl, rfl, tyX8_ok 5 (by decide), fun x => ⟨rfl, rfl⟩⟩
theorem ff_RX9_13 : FF RX9 13 9 1 := ⟨RX9, TX9, 50, tyX9 1, rfl, by decide, rfl, rfl, by decide, (gt5 124 rfl rfl), cw_9, ⟨tyX9, tyX9_ok⟩, nmX9, rfl, rfl, tyX9_ok 1 (by decide), fun x => ⟨rfl, rfl⟩⟩
theorem ff_RX9_16 : FF RX9 16 9 2 := ⟨RX9, TX9, 50, tyX9 2, rfl, by decide, rfl, rfl, by decide, (gt5 125 rfl rfl), cw_9, ⟨tyX9, tyX9_ok⟩, nmX9, rfl, rfl, tyX9_ok 2 (by decide), fun x => ⟨rfl, rfl⟩⟩
theorem ff_RX9_19 : FF RX9 19 9 3 := ⟨RX9, TX9, 50, tyX9 3, rfl, by decide, rfl, rfl, by decide, (gt5 126 rfl rfl), cw_9, ⟨tyX9, tyX9_ok⟩, nmX9, rfl, rfl, tyX9_ok 3 (by decide), fun x => ⟨rfl, rfl⟩⟩
theorem ff_RX9_30 : FF RX9 30 9 17 := ⟨RX9, TX9, 50, tyX9 17, rfl, by decide, rfl, rfl, by decide, (gt5 140 rfl rfl), cw_9, ⟨tyX9, tyX9_ok⟩, nmX9, rfl, rfl, tyX9_ok 17 (by decide), fun x => ⟨rfl, rfl⟩⟩
theorem ff_RX9_33 : FF RX9 33 9 18 := ⟨RX9, TX9, 50, tyX9 18, rfl, by decide, rfl, rfl, by decide, (gt5 141 rfl rfl), cw_9, ⟨tyX9, tyX9_ok⟩, nmX9, rfl, rfl, tyX9_ok 18 (by decide), fun x => ⟨rfl, rfl⟩⟩
theorem ff_RX9_37 : FF RX9 37 9 19 := ⟨RX9, TX9, 50, tyX9 19, rfl, by decide, rfl, rfl, by decide, (gt5 142 rfl rfl), cw_9, ⟨tyX9, tyX9_ok⟩, nmX9, rfl, rfl, tyX9_ok 19 (by decide), fun x => ⟨rfl, rfl⟩⟩
theorem ff_RX9_40 : FF RX9 40 9 20 := ⟨RX9, TX9, 50, tyX9 20, rfl, by decide, rfl, rfl, by decide, (gt5 143 rfl rfl), cw_9, ⟨tyX9, tyX9_ok⟩, nmX9, rfl, rfl, tyX9_ok 20 (by decide), fun x => ⟨rfl, rfl⟩⟩
theorem ff_RX9_43 : FF RX9 43 9 21 := ⟨RX9, TX9, 50, tyX9 21, rfl, by decide, rfl, rfl, by decide, (gt5 144 rfl rfl), cw_9, ⟨tyX9, tyX9_ok⟩, nmX9, rfl, rfl, tyX9_ok 21 (by decide), fun x => ⟨rfl, rfl⟩⟩
theorem ff_RX9_46 : FF RX9 46 9 22 := ⟨RX9, TX9, 50, tyX9 22, rfl, by decide, rfl, rfl, by decide, (gt5 145 rfl rfl), cw_9, ⟨tyX9, tyX9_ok⟩, nmX9, rfl, rfl, tyX9_ok 22 (by decide), fun x => ⟨rfl, rfl⟩⟩
theorem ff_RX9_49 : FF RX9 49 9 23 := ⟨RX9, TX9, 50, tyX9 23, rfl, by decide, rfl, rfl, by decide, (gt5 146 rfl rfl), cw_9, ⟨tyX9, tyX9_ok⟩, nmX9, rfl, rfl, tyX9_ok 23 (by decide), fun x => ⟨rfl, rfl⟩⟩
theorem ff_RX9_52 : FF RX9 52 9 24 := ⟨RX9, TX9, 50, tyX9 24, rfl, by decide, rfl, rfl, by decide, (gt5 147 rfl rfl), cw_9, ⟨tyX9, tyX9_ok⟩, nmX9, rfl, rfl, tyX9_ok 24 (by decide), fun x => ⟨rfl, rfl⟩⟩
theorem ff_RX9_55 : FF RX9 55 9 25 := ⟨RX9, TX9, 50, tyX9 25, rfl, by decide, rfl, rfl, by decide, (gt5 148 rfl rfl), cw_9, ⟨tyX9, tyX9_ok⟩, nmX9, rfl, rfl, tyX9_ok 25 (by decide), fun x => ⟨rfl, rfl⟩⟩
theorem ff_RX9_58 : FF RX9 58 9 26 := ⟨RX9, TX9, 50, tyX9 26, rfl, by decide, rfl, rfl, by decide, (gt5 149 rfl rfl), cw_9, ⟨tyX9, tyX9_ok⟩, nmX9, rfl, rfl, tyX9_ok 26 (by decide), fun x => ⟨rfl, rfl⟩⟩
theorem ff_RX9_61 : FF RX9 61 9 27 := ⟨RX9, TX9, 50, tyX9 27, rfl, by decide, rfl, rfl, by decide, (gt5 150 rfl rfl), cw_9, ⟨tyX9, tyX9_ok⟩, nmX9, rfl, rfl, tyX9_ok 27 (by decide), fun x => ⟨rfl, rfl⟩⟩
theorem ff_RX9_64 : FF RX9 64 9 28 := ⟨RX9, TX9, 50, tyX9 28, rfl, by decide, rfl, rfl, by decide, (gt5 151 rfl rfl), cw_9, ⟨tyX9, tyX9_ok⟩, nmX9, rfl, rfl, tyX9_ok 28 (by decide), fun x => ⟨rfl, rfl⟩⟩
theorem ff_RX9_67 : FF RX9 67 9 29 := ⟨RX9, TX9, 50, tyX9 29, rfl, by decide, rfl, rfl, by decide, (gt5 152 rfl rfl), cw_9, ⟨tyX9, tyX9_ok⟩, nmX9, rfl, rfl, tyX9_ok 29 (by decide), fun x => ⟨rfl, rfl⟩⟩
theorem ff_RX9_7 : FF RX9 7 9 0 := ⟨RX9, TX9, 50, tyX9 0, rfl, by decide, rfl, rfl, by decide, (gt5 123 rfl rfl), cw_9, ⟨tyX9, tyX9_ok⟩, nmX9, rfl, rfl, tyX9_ok 0 (by decide), fun x => ⟨rfl, rfl⟩⟩
theorem ff_RX9_70 : FF RX9 70 9 30 := ⟨RX9, TX9, 50, tyX9 30, rfl, by decide, rfl, rfl, by decide, (gt5 153 rfl rfl), cw_9, ⟨tyX9, tyX9_ok⟩, nmX9, rfl, rfl, tyX9_ok 30 (by decide), fun x => ⟨rfl, rfl⟩⟩
theorem ff_RX9_73 : FF RX9 73 9 35 := ⟨RX9, TX9, 50, tyX9 35, rfl, by decide, rfl, rfl, by decide, (gt5 158 rfl rfl), cw_9, ⟨tyX9, tyX9_ok⟩, nmX9, rfl, rfl, tyX9_ok 35 (by decide), fun x => ⟨rfl, rfl⟩⟩
theorem ff_RX9_76 : FF RX9 76 9 36 := ⟨RX9, TX9, 50, tyX9 36, rfl, by decide, rfl, rfl, by decide, (gt5 159 rfl rfl), cw_9, ⟨tyX9, tyX9_ok⟩, nmX9, rfl, rfl, tyX9_ok 36 (by decide), fun x => ⟨rfl, rfl⟩⟩
theorem ff_RX9_79 : FF RX9 79 9 37 := ⟨RX9, TX9, 50, tyX9 37, rfl, by decide, rfl, rfl, by decide, (gt5 160 rfl rfl), cw_9, ⟨tyX9, tyX9_ok⟩, nmX9, rfl, rfl, tyX9_ok 37 (by decide), fun x => ⟨rfl, rfl⟩⟩
theorem ff_RX9_82 : FF RX9 82 9 38 := ⟨RX9, TX9, 50, tyX9 38, rfl, by decide, rfl, rfl, by decide, (gt5 161 rfl rfl), cw_9, ⟨tyX9, tyX9_ok⟩, nmX9, rfl, rfl, tyX9_ok 38 (by decide), fun x => ⟨rfl, rfl⟩⟩
theorem ff_RX9_85 : FF RX9 85 9 39 := ⟨RX9, TX9, 50, tyX9 39, rfl, by decide, rfl, rfl, by decide, (gt5 162 rfl rfl), cw_9, ⟨tyX9, tyX9_ok⟩, nmX9, rfl, rfl, tyX9_ok 39 (by decide), fun x => ⟨rfl, rfl⟩⟩
theorem ff_RX9_88 : FF RX9 88 9 40 := ⟨RX9, TX9, 50, tyX9 40, rfl, by decide, rfl, rfl, by decide, (gt5 163 rfl rfl), cw_9, ⟨tyX9, tyX9_ok⟩, nmX9, rfl, rfl, tyX9_ok 40 (by decide), fun x => ⟨rfl, rfl⟩⟩
theorem ff_RX9_91 : FF RX9 91 9 41 := ⟨RX9, TX9, 50, tyX9 41, rfl, by decide, rfl, rfl, by decide, (gt5 164 rfl rfl), cw_9, ⟨tyX9, tyX9_ok⟩, nmX9, rfl, rfl, tyX9_ok 41 (by decide), fun x => ⟨rfl, rfl⟩⟩
theorem fp_RX3_21 : FP RX3 21 3 3 2 (.object "HoldChecker$Program") := ⟨RX3, TX3, 11, rfl, by decide, rfl, rfl, by decide, (gt2 36 rfl rfl), cw_3, ⟨tyX3, tyX3_ok⟩, nmX3, rfl, tyX3_ok 3 (by decide)⟩
theorem fp_RX8_47 : FP RX8 47 8 6 2 (.object "HoldChecker$Program") := ⟨RX8, TX8, 12, rfl, by decide, rfl, rfl, by decide, (gt2 221 rfl rfl), cw_8, ⟨tyX8, tyX8_ok⟩, nmX8, rfl, tyX8_ok 6 (by decide)⟩
theorem fp_RX8_51 : FP RX8 51 8 10 0 .int := ⟨RX8, TX8, 12, rfl, by decide, rfl, rfl, by decide, (gt2 225 rfl rfl), cw_8, ⟨tyX8, tyX8_ok⟩, nmX8, rfl, tyX8_ok 10 (by decide)⟩
theorem fp_RX8_55 : FP RX8 55 8 11 0 .int := ⟨RX8, TX8, 12, rfl, by decide, rfl, rfl, by decide, (gt2 226 rfl rfl), cw_8, ⟨tyX8, tyX8_ok⟩, nmX8, rfl, tyX8_ok 11 (by decide)⟩
theorem fp_RX9_23 : FP RX9 23 9 6 0 .int := ⟨RX9, TX9, 50, rfl, by decide, rfl, rfl, by decide, (gt5 129 rfl rfl), cw_9, ⟨tyX9, tyX9_ok⟩, nmX9, rfl, tyX9_ok 6 (by decide)⟩
theorem fp_RX9_27 : FP RX9 27 9 7 0 .int := ⟨RX9, TX9, 50, rfl, by decide, rfl, rfl, by decide, (gt5 130 rfl rfl), cw_9, ⟨tyX9, tyX9_ok⟩, nmX9, rfl, tyX9_ok 7 (by decide)⟩
theorem nc_RX0_9 : NC RX0 9 1 1 := ⟨RX1, TX1, tyX1, rfl, rfl, by decide, (gt2 74 rfl rfl), (gt2 76 rfl rfl), (gt1 11 rfl rfl), cw_1, tyX1_ok, by decide +kernel⟩
theorem nc_RX3_18 : NC RX3 18 4 15 := ⟨RX4, TX4, tyX4, rfl, rfl, by decide, (gt1 120 rfl rfl), (gt1 121 rfl rfl), (gt1 8 rfl rfl), cw_4, tyX4_ok, by decide +kernel⟩
theorem nc_RX3_9 : NC RX3 9 7 8 := ⟨RX7, TX7, tyX7, rfl, rfl, by decide, (gt1 33 rfl rfl), (gt1 34 rfl rfl), (gt1 3 rfl rfl), cw_7, tyX7_ok, by decide +kernel⟩
theorem nc_RX4_9 : NC RX4 9 2 12 := ⟨RX2, TX2, tyX2, rfl, rfl, by decide, (gt1 126 rfl rfl), (gt1 127 rfl rfl), (gt1 9 rfl rfl), cw_2, tyX2_ok, by decide +kernel⟩
theorem nc_RX5_9 : NC RX5 9 1 1 := ⟨RX1, TX1, tyX1, rfl, rfl, by decide, (gt2 185 rfl rfl), (gt2 76 rfl rfl), (gt1 11 rfl rfl), cw_1, tyX1_ok, by decide +kernel⟩
theorem nc_RX6_29 : NC RX6 29 1 1 := ⟨RX1, TX1, tyX1, rfl, rfl, by decide, (gt2 122 rfl rfl), (gt2 76 rfl rfl), (gt1 11 rfl rfl), cw_1, tyX1_ok, by decide +kernel⟩
theorem nc_RX8_16 : NC RX8 16 0 8 := ⟨RX0, TX0, tyX0, rfl, rfl, by decide, (gt2 68 rfl rfl), (gt2 69 rfl rfl), (gt1 10 rfl rfl), cw_0, tyX0_ok, by decide +kernel⟩
theorem nc_RX8_26 : NC RX8 26 6 15 := ⟨RX6, TX6, tyX6, rfl, rfl, by decide, (gt2 116 rfl rfl), (gt2 117 rfl rfl), (gt1 12 rfl rfl), cw_6, tyX6_ok, by decide +kernel⟩
theorem nc_RX8_33 : NC RX8 33 5 6 := ⟨RX5, TX5, tyX5, rfl, rfl, by decide, (gt2 179 rfl rfl), (gt2 180 rfl rfl), (gt1 13 rfl rfl), cw_5, tyX5_ok, by decide +kernel⟩
theorem nc_RX8_44 : NC RX8 44 4 15 := ⟨RX4, TX4, tyX4, rfl, rfl, by decide, (gt2 210 rfl rfl), (gt1 121 rfl rfl), (gt1 8 rfl rfl), cw_4, tyX4_ok, by decide +kernel⟩
theorem nc_RX8_9 : NC RX8 9 3 11 := ⟨RX3, TX3, tyX3, rfl, rfl, by decide, (gt1 27 rfl rfl), (gt1 28 rfl rfl), (gt1 2 rfl rfl), cw_3, tyX3_ok, by decide +kernel⟩
theorem oi_RX0 : Cond.methodLink RX0 3 objectInit ∈ GT := (gt2 73 rfl rfl)
theorem oi_RX1 : Cond.methodLink RX1 3 objectInit ∈ GT := (gt2 80 rfl rfl)
theorem oi_RX2 : Cond.methodLink RX2 3 objectInit ∈ GT := (gt1 131 rfl rfl)
theorem oi_RX3 : Cond.methodLink RX3 3 objectInit ∈ GT := (gt1 32 rfl rfl)
theorem oi_RX4 : Cond.methodLink RX4 3 objectInit ∈ GT := (gt1 125 rfl rfl)
theorem oi_RX5 : Cond.methodLink RX5 3 objectInit ∈ GT := (gt2 184 rfl rfl)
theorem oi_RX6 : Cond.methodLink RX6 3 objectInit ∈ GT := (gt2 121 rfl rfl)
theorem oi_RX7 : Cond.methodLink RX7 3 objectInit ∈ GT := (gt1 38 rfl rfl)
theorem oi_RX8 : Cond.methodLink RX8 3 objectInit ∈ GT := (gt1 24 rfl rfl)
theorem oi_RX9 : Cond.methodLink RX9 1 objectInit ∈ GT := (gt5 122 rfl rfl)
def C_X1 (o n : Nat) (h : Hp) : Hp := (h_sR (a_new 10 24 h n) o 0 n)
theorem C_X1_kind {o n i : Nat} {h : Hp} (hi : i < n) : (C_X1 o n h).1 i = h.1 i := (a_kd (by omega) rfl)
theorem C_X1_kd {o n i : Nat} {h : Hp} {x : Nat × Nat} (hi : i < n) (e : h.1 i = x) : (C_X1 o n h).1 i = x := (C_X1_kind hi).trans e
theorem C_X1_kd1 {o n i : Nat} {h : Hp} {x : Nat} (hi : i < n) (e : (h.1 i).1 = x) : ((C_X1 o n h).1 i).1 = x := by rw [C_X1_kind hi]; exact e
set_option maxRecDepth 100000 in
set_option maxHeartbeats 4000000 in
theorem okc_1 (o n : Nat) (h : Hp) (hk : (h.1 o).1 = 1) (ho : o < n) : CKA yX1_init cX1_init 1 1 1 24 [.ref o] n h (C_X1 o n h) := by
  refine CKA_of pn_RX1 (gt2 79 rfl rfl) (Nat.le_of_ble_eq_true rfl) rfl ?_
  intro l D tc B p en s m args below meth c X hr hlk hin hs hNW
  replace X : CX p (rmA 1 1 24) s m args c cX1_init 1 RX1 D tc 1 := X
  show V p l en (rmA 1 1 24) s m args below meth c 1 D tc B n (AB B) s.heap 0 0 (MQ below (QCA D tc B (n + 1) (C_X1 o n h)) args s 1 24 (AB B)) h 0 [(0, .ref o)] []
  refine V_aload_n (q := 1) X (TB.get tb_X1_init 0 rfl) rfl rfl rfl ?_
  refine V_objInit (q := 4) X (TB.get tb_X1_init 1 rfl) rfl oi_RX1 oi_1 oi_2 (Nat.le_of_ble_eq_true rfl) (Nat.le_of_ble_eq_true rfl) ?_
  refine V_aload_n (q := 5) X (TB.get tb_X1_init 2 rfl) rfl rfl rfl ?_
  refine V_bipush (v := 24) (q := 7) X (TB.get tb_X1_init 3 rfl) c_bipush_24 rfl ?_
  refine V_newI (q := 9) 24 X (TB.get tb_X1_init 4 rfl) rfl ay_int (by decide) (by decide) (by decide) (by omega) (Nat.le_of_ble_eq_true rfl) (Nat.le_of_ble_eq_true rfl) (by omega) ?_
  have hk : ((a_new 10 24 h n).1 o).1 = 1 := by exact a_kd1 (by omega) hk
  refine V_nn (n' := (n + 1)) (c' := 1) (s' := 24) rfl rfl rfl ?_
  refine V_putF (q := 12) X hin (TB.get tb_X1_init 5 rfl) rfl ff_RX1_11 hk ?_
  have hk : ((h_sR (a_new 10 24 h n) o 0 n).1 o).1 = 1 := hk
  exact V_vretA X hr hlk (TB.get tb_X1_init 6 rfl)
def C_X2 (o n : Nat) (h : Hp) : Hp := (h_sR (a_new 13 6 (h_sR (a_new 13 6 (h_sR (a_new 10 6 (h_sR (a_new 10 6 (h_sR (a_new 10 144 (h_sR (a_new 10 144 (h_sR (a_new 10 24 (h_sR (a_new 10 24 (h_sR (a_new 10 4 (h_sR (a_new 10 4 (h_sR (a_new 10 4 h n) o 1 n) (n + 1)) o 2 (n + 1)) (n + 2)) o 3 (n + 2)) (n + 3)) o 4 (n + 3)) (n + 4)) o 5 (n + 4)) (n + 5)) o 6 (n + 5)) (n + 6)) o 7 (n + 6)) (n + 7)) o 8 (n + 7)) (n + 8)) o 9 (n + 8)) (n + 9)) o 10 (n + 9)) (n + 10)) o 11 (n + 10))
theorem C_X2_kind {o n i : Nat} {h : Hp} (hi : i < n) : (C_X2 o n h).1 i = h.1 i := (a_kd (by omega) (a_kd (by omega) (a_kd (by omega) (a_kd (by omega) (a_kd (by omega) (a_kd (by omega) (a_kd (by omega) (a_kd (by omega) (a_kd (by omega) (a_kd (by omega) (a_kd (by omega) rfl)))))))))))
theorem C_X2_kd {o n i : Nat} {h : Hp} {x : Nat × Nat} (hi : i < n) (e : h.1 i = x) : (C_X2 o n h).1 i = x := (C_X2_kind hi).trans e
theorem C_X2_kd1 {o n i : Nat} {h : Hp} {x : Nat} (hi : i < n) (e : (h.1 i).1 = x) : ((C_X2 o n h).1 i).1 = x := by rw [C_X2_kind hi]; exact e
set_option maxRecDepth 100000 in
set_option maxHeartbeats 4000000 in
theorem okc_2 (o n : Nat) (h : Hp) (hk : (h.1 o).1 = 2) (ho : o < n) : CKA yX2_init cX2_init 1 1 11 372 [.ref o] n h (C_X2 o n h) := by
  refine CKA_of pn_RX2 (gt1 130 rfl rfl) (Nat.le_of_ble_eq_true rfl) rfl ?_
  intro l D tc B p en s m args below meth c X hr hlk hin hs hNW
  replace X : CX p (rmA 1 11 372) s m args c cX2_init 1 RX2 D tc 1 := X
  show V p l en (rmA 1 11 372) s m args below meth c 1 D tc B n (AB B) s.heap 0 0 (MQ below (QCA D tc B (n + 11) (C_X2 o n h)) args s 11 372 (AB B)) h 0 [(0, .ref o)] []
  refine V_aload_n (q := 1) X (TB.get tb_X2_init 0 rfl) rfl rfl rfl ?_
  refine V_objInit (q := 4) X (TB.get tb_X2_init 1 rfl) rfl oi_RX2 oi_1 oi_2 (Nat.le_of_ble_eq_true rfl) (Nat.le_of_ble_eq_true rfl) ?_
  refine V_aload_n (q := 5) X (TB.get tb_X2_init 2 rfl) rfl rfl rfl ?_
  refine V_iconst (v := 4) (q := 6) X (TB.get tb_X2_init 3 rfl) c_iconst_4 rfl ?_
  refine V_newI (q := 8) 4 X (TB.get tb_X2_init 4 rfl) rfl ay_int (by decide) (by decide) (by decide) (by omega) (Nat.le_of_ble_eq_true rfl) (Nat.le_of_ble_eq_true rfl) (by omega) ?_
  have hk : ((a_new 10 4 h n).1 o).1 = 2 := by exact a_kd1 (by omega) hk
  refine V_nn (n' := (n + 1)) (c' := 1) (s' := 4) rfl rfl rfl ?_
  refine V_putF (q := 11) X hin (TB.get tb_X2_init 5 rfl) rfl ff_RX2_9 hk ?_
  have hk : ((h_sR (a_new 10 4 h n) o 1 n).1 o).1 = 2 := hk
  refine V_aload_n (q := 12) X (TB.get tb_X2_init 6 rfl) rfl rfl rfl ?_
  refine V_iconst (v := 4) (q := 13) X (TB.get tb_X2_init 7 rfl) c_iconst_4 rfl ?_
  refine V_newI (q := 15) 4 X (TB.get tb_X2_init 8 rfl) rfl ay_int (by decide) (by decide) (by decide) (by omega) (Nat.le_of_ble_eq_true rfl) (Nat.le_of_ble_eq_true rfl) (by omega) ?_
  have hk : ((a_new 10 4 (h_sR (a_new 10 4 h n) o 1 n) (n + 1)).1 o).1 = 2 := by exact a_kd1 (by omega) hk
  refine V_nn (n' := (n + 2)) (c' := 2) (s' := 8) rfl rfl rfl ?_
  refine V_putF (q := 18) X hin (TB.get tb_X2_init 9 rfl) rfl ff_RX2_15 hk ?_
  have hk : ((h_sR (a_new 10 4 (h_sR (a_new 10 4 h n) o 1 n) (n + 1)) o 2 (n + 1)).1 o).1 = 2 := hk
  refine V_aload_n (q := 19) X (TB.get tb_X2_init 10 rfl) rfl rfl rfl ?_
  refine V_iconst (v := 4) (q := 20) X (TB.get tb_X2_init 11 rfl) c_iconst_4 rfl ?_
  refine V_newI (q := 22) 4 X (TB.get tb_X2_init 12 rfl) rfl ay_int (by decide) (by decide) (by decide) (by omega) (Nat.le_of_ble_eq_true rfl) (Nat.le_of_ble_eq_true rfl) (by omega) ?_
  have hk : ((a_new 10 4 (h_sR (a_new 10 4 (h_sR (a_new 10 4 h n) o 1 n) (n + 1)) o 2 (n + 1)) (n + 2)).1 o).1 = 2 := by exact a_kd1 (by omega) hk
  refine V_nn (n' := (n + 3)) (c' := 3) (s' := 12) rfl rfl rfl ?_
  refine V_putF (q := 25) X hin (TB.get tb_X2_init 13 rfl) rfl ff_RX2_18 hk ?_
  have hk : ((h_sR (a_new 10 4 (h_sR (a_new 10 4 (h_sR (a_new 10 4 h n) o 1 n) (n + 1)) o 2 (n + 1)) (n + 2)) o 3 (n + 2)).1 o).1 = 2 := hk
  refine V_aload_n (q := 26) X (TB.get tb_X2_init 14 rfl) rfl rfl rfl ?_
  refine V_bipush (v := 24) (q := 28) X (TB.get tb_X2_init 15 rfl) c_bipush_24 rfl ?_
  refine V_newI (q := 30) 24 X (TB.get tb_X2_init 16 rfl) rfl ay_int (by decide) (by decide) (by decide) (by omega) (Nat.le_of_ble_eq_true rfl) (Nat.le_of_ble_eq_true rfl) (by omega) ?_
  have hk : ((a_new 10 24 (h_sR (a_new 10 4 (h_sR (a_new 10 4 (h_sR (a_new 10 4 h n) o 1 n) (n + 1)) o 2 (n + 1)) (n + 2)) o 3 (n + 2)) (n + 3)).1 o).1 = 2 := by exact a_kd1 (by omega) hk
  refine V_nn (n' := (n + 4)) (c' := 4) (s' := 36) rfl rfl rfl ?_
  refine V_putF (q := 33) X hin (TB.get tb_X2_init 17 rfl) rfl ff_RX2_21 hk ?_
  have hk : ((h_sR (a_new 10 24 (h_sR (a_new 10 4 (h_sR (a_new 10 4 (h_sR (a_new 10 4 h n) o 1 n) (n + 1)) o 2 (n + 1)) (n + 2)) o 3 (n + 2)) (n + 3)) o 4 (n + 3)).1 o).1 = 2 := hk
  refine V_aload_n (q := 34) X (TB.get tb_X2_init 18 rfl) rfl rfl rfl ?_
  refine V_bipush (v := 24) (q := 36) X (TB.get tb_X2_init 19 rfl) c_bipush_24 rfl ?_
  refine V_newI (q := 38) 24 X (TB.get tb_X2_init 20 rfl) rfl ay_int (by decide) (by decide) (by decide) (by omega) (Nat.le_of_ble_eq_true rfl) (Nat.le_of_ble_eq_true rfl) (by omega) ?_
  have hk : ((a_new 10 24 (h_sR (a_new 10 24 (h_sR (a_new 10 4 (h_sR (a_new 10 4 (h_sR (a_new 10 4 h n) o 1 n) (n + 1)) o 2 (n + 1)) (n + 2)) o 3 (n + 2)) (n + 3)) o 4 (n + 3)) (n + 4)).1 o).1 = 2 := by exact a_kd1 (by omega) hk
  refine V_nn (n' := (n + 5)) (c' := 5) (s' := 60) rfl rfl rfl ?_
  refine V_putF (q := 41) X hin (TB.get tb_X2_init 21 rfl) rfl ff_RX2_24 hk ?_
  have hk : ((h_sR (a_new 10 24 (h_sR (a_new 10 24 (h_sR (a_new 10 4 (h_sR (a_new 10 4 (h_sR (a_new 10 4 h n) o 1 n) (n + 1)) o 2 (n + 1)) (n + 2)) o 3 (n + 2)) (n + 3)) o 4 (n + 3)) (n + 4)) o 5 (n + 4)).1 o).1 = 2 := hk
  refine V_aload_n (q := 42) X (TB.get tb_X2_init 22 rfl) rfl rfl rfl ?_
  refine V_sipush (v := 144) (q := 45) X (TB.get tb_X2_init 23 rfl) c_sipush_144 rfl ?_
  refine V_newI (q := 47) 144 X (TB.get tb_X2_init 24 rfl) rfl ay_int (by decide) (by decide) (by decide) (by omega) (Nat.le_of_ble_eq_true rfl) (Nat.le_of_ble_eq_true rfl) (by omega) ?_
  have hk : ((a_new 10 144 (h_sR (a_new 10 24 (h_sR (a_new 10 24 (h_sR (a_new 10 4 (h_sR (a_new 10 4 (h_sR (a_new 10 4 h n) o 1 n) (n + 1)) o 2 (n + 1)) (n + 2)) o 3 (n + 2)) (n + 3)) o 4 (n + 3)) (n + 4)) o 5 (n + 4)) (n + 5)).1 o).1 = 2 := by exact a_kd1 (by omega) hk
  refine V_nn (n' := (n + 6)) (c' := 6) (s' := 204) rfl rfl rfl ?_
  refine V_putF (q := 50) X hin (TB.get tb_X2_init 25 rfl) rfl ff_RX2_27 hk ?_
  have hk : ((h_sR (a_new 10 144 (h_sR (a_new 10 24 (h_sR (a_new 10 24 (h_sR (a_new 10 4 (h_sR (a_new 10 4 (h_sR (a_new 10 4 h n) o 1 n) (n + 1)) o 2 (n + 1)) (n + 2)) o 3 (n + 2)) (n + 3)) o 4 (n + 3)) (n + 4)) o 5 (n + 4)) (n + 5)) o 6 (n + 5)).1 o).1 = 2 := hk
  refine V_aload_n (q := 51) X (TB.get tb_X2_init 26 rfl) rfl rfl rfl ?_
  refine V_sipush (v := 144) (q := 54) X (TB.get tb_X2_init 27 rfl) c_sipush_144 rfl ?_
  refine V_newI (q := 56) 144 X (TB.get tb_X2_init 28 rfl) rfl ay_int (by decide) (by decide) (by decide) (by omega) (Nat.le_of_ble_eq_true rfl) (Nat.le_of_ble_eq_true rfl) (by omega) ?_
  have hk : ((a_new 10 144 (h_sR (a_new 10 144 (h_sR (a_new 10 24 (h_sR (a_new 10 24 (h_sR (a_new 10 4 (h_sR (a_new 10 4 (h_sR (a_new 10 4 h n) o 1 n) (n + 1)) o 2 (n + 1)) (n + 2)) o 3 (n + 2)) (n + 3)) o 4 (n + 3)) (n + 4)) o 5 (n + 4)) (n + 5)) o 6 (n + 5)) (n + 6)).1 o).1 = 2 := by exact a_kd1 (by omega) hk
  refine V_nn (n' := (n + 7)) (c' := 7) (s' := 348) rfl rfl rfl ?_
  refine V_putF (q := 59) X hin (TB.get tb_X2_init 29 rfl) rfl ff_RX2_30 hk ?_
  have hk : ((h_sR (a_new 10 144 (h_sR (a_new 10 144 (h_sR (a_new 10 24 (h_sR (a_new 10 24 (h_sR (a_new 10 4 (h_sR (a_new 10 4 (h_sR (a_new 10 4 h n) o 1 n) (n + 1)) o 2 (n + 1)) (n + 2)) o 3 (n + 2)) (n + 3)) o 4 (n + 3)) (n + 4)) o 5 (n + 4)) (n + 5)) o 6 (n + 5)) (n + 6)) o 7 (n + 6)).1 o).1 = 2 := hk
  refine V_aload_n (q := 60) X (TB.get tb_X2_init 30 rfl) rfl rfl rfl ?_
  refine V_bipush (v := 6) (q := 62) X (TB.get tb_X2_init 31 rfl) c_bipush_6 rfl ?_
  refine V_newI (q := 64) 6 X (TB.get tb_X2_init 32 rfl) rfl ay_int (by decide) (by decide) (by decide) (by omega) (Nat.le_of_ble_eq_true rfl) (Nat.le_of_ble_eq_true rfl) (by omega) ?_
  have hk : ((a_new 10 6 (h_sR (a_new 10 144 (h_sR (a_new 10 144 (h_sR (a_new 10 24 (h_sR (a_new 10 24 (h_sR (a_new 10 4 (h_sR (a_new 10 4 (h_sR (a_new 10 4 h n) o 1 n) (n + 1)) o 2 (n + 1)) (n + 2)) o 3 (n + 2)) (n + 3)) o 4 (n + 3)) (n + 4)) o 5 (n + 4)) (n + 5)) o 6 (n + 5)) (n + 6)) o 7 (n + 6)) (n + 7)).1 o).1 = 2 := by exact a_kd1 (by omega) hk
  refine V_nn (n' := (n + 8)) (c' := 8) (s' := 354) rfl rfl rfl ?_
  refine V_putF (q := 67) X hin (TB.get tb_X2_init 33 rfl) rfl ff_RX2_33 hk ?_
  have hk : ((h_sR (a_new 10 6 (h_sR (a_new 10 144 (h_sR (a_new 10 144 (h_sR (a_new 10 24 (h_sR (a_new 10 24 (h_sR (a_new 10 4 (h_sR (a_new 10 4 (h_sR (a_new 10 4 h n) o 1 n) (n + 1)) o 2 (n + 1)) (n + 2)) o 3 (n + 2)) (n + 3)) o 4 (n + 3)) (n + 4)) o 5 (n + 4)) (n + 5)) o 6 (n + 5)) (n + 6)) o 7 (n + 6)) (n + 7)) o 8 (n + 7)).1 o).1 = 2 := hk
  refine V_aload_n (q := 68) X (TB.get tb_X2_init 34 rfl) rfl rfl rfl ?_
  refine V_bipush (v := 6) (q := 70) X (TB.get tb_X2_init 35 rfl) c_bipush_6 rfl ?_
  refine V_newI (q := 72) 6 X (TB.get tb_X2_init 36 rfl) rfl ay_int (by decide) (by decide) (by decide) (by omega) (Nat.le_of_ble_eq_true rfl) (Nat.le_of_ble_eq_true rfl) (by omega) ?_
  have hk : ((a_new 10 6 (h_sR (a_new 10 6 (h_sR (a_new 10 144 (h_sR (a_new 10 144 (h_sR (a_new 10 24 (h_sR (a_new 10 24 (h_sR (a_new 10 4 (h_sR (a_new 10 4 (h_sR (a_new 10 4 h n) o 1 n) (n + 1)) o 2 (n + 1)) (n + 2)) o 3 (n + 2)) (n + 3)) o 4 (n + 3)) (n + 4)) o 5 (n + 4)) (n + 5)) o 6 (n + 5)) (n + 6)) o 7 (n + 6)) (n + 7)) o 8 (n + 7)) (n + 8)).1 o).1 = 2 := by exact a_kd1 (by omega) hk
  refine V_nn (n' := (n + 9)) (c' := 9) (s' := 360) rfl rfl rfl ?_
  refine V_putF (q := 75) X hin (TB.get tb_X2_init 37 rfl) rfl ff_RX2_36 hk ?_
  have hk : ((h_sR (a_new 10 6 (h_sR (a_new 10 6 (h_sR (a_new 10 144 (h_sR (a_new 10 144 (h_sR (a_new 10 24 (h_sR (a_new 10 24 (h_sR (a_new 10 4 (h_sR (a_new 10 4 (h_sR (a_new 10 4 h n) o 1 n) (n + 1)) o 2 (n + 1)) (n + 2)) o 3 (n + 2)) (n + 3)) o 4 (n + 3)) (n + 4)) o 5 (n + 4)) (n + 5)) o 6 (n + 5)) (n + 6)) o 7 (n + 6)) (n + 7)) o 8 (n + 7)) (n + 8)) o 9 (n + 8)).1 o).1 = 2 := hk
  refine V_aload_n (q := 76) X (TB.get tb_X2_init 38 rfl) rfl rfl rfl ?_
  refine V_bipush (v := 6) (q := 78) X (TB.get tb_X2_init 39 rfl) c_bipush_6 rfl ?_
  refine V_newL (q := 80) 6 X (TB.get tb_X2_init 40 rfl) rfl ay_long (by decide) (by decide) (by decide) (by omega) (Nat.le_of_ble_eq_true rfl) (Nat.le_of_ble_eq_true rfl) (by omega) ?_
  have hk : ((a_new 13 6 (h_sR (a_new 10 6 (h_sR (a_new 10 6 (h_sR (a_new 10 144 (h_sR (a_new 10 144 (h_sR (a_new 10 24 (h_sR (a_new 10 24 (h_sR (a_new 10 4 (h_sR (a_new 10 4 (h_sR (a_new 10 4 h n) o 1 n) (n + 1)) o 2 (n + 1)) (n + 2)) o 3 (n + 2)) (n + 3)) o 4 (n + 3)) (n + 4)) o 5 (n + 4)) (n + 5)) o 6 (n + 5)) (n + 6)) o 7 (n + 6)) (n + 7)) o 8 (n + 7)) (n + 8)) o 9 (n + 8)) (n + 9)).1 o).1 = 2 := by exact a_kd1 (by omega) hk
  refine V_nn (n' := (n + 10)) (c' := 10) (s' := 366) rfl rfl rfl ?_
  refine V_putF (q := 83) X hin (TB.get tb_X2_init 41 rfl) rfl ff_RX2_39 hk ?_
  have hk : ((h_sR (a_new 13 6 (h_sR (a_new 10 6 (h_sR (a_new 10 6 (h_sR (a_new 10 144 (h_sR (a_new 10 144 (h_sR (a_new 10 24 (h_sR (a_new 10 24 (h_sR (a_new 10 4 (h_sR (a_new 10 4 (h_sR (a_new 10 4 h n) o 1 n) (n + 1)) o 2 (n + 1)) (n + 2)) o 3 (n + 2)) (n + 3)) o 4 (n + 3)) (n + 4)) o 5 (n + 4)) (n + 5)) o 6 (n + 5)) (n + 6)) o 7 (n + 6)) (n + 7)) o 8 (n + 7)) (n + 8)) o 9 (n + 8)) (n + 9)) o 10 (n + 9)).1 o).1 = 2 := hk
  refine V_aload_n (q := 84) X (TB.get tb_X2_init 42 rfl) rfl rfl rfl ?_
  refine V_bipush (v := 6) (q := 86) X (TB.get tb_X2_init 43 rfl) c_bipush_6 rfl ?_
  refine V_newL (q := 88) 6 X (TB.get tb_X2_init 44 rfl) rfl ay_long (by decide) (by decide) (by decide) (by omega) (Nat.le_of_ble_eq_true rfl) (Nat.le_of_ble_eq_true rfl) (by omega) ?_
  have hk : ((a_new 13 6 (h_sR (a_new 13 6 (h_sR (a_new 10 6 (h_sR (a_new 10 6 (h_sR (a_new 10 144 (h_sR (a_new 10 144 (h_sR (a_new 10 24 (h_sR (a_new 10 24 (h_sR (a_new 10 4 (h_sR (a_new 10 4 (h_sR (a_new 10 4 h n) o 1 n) (n + 1)) o 2 (n + 1)) (n + 2)) o 3 (n + 2)) (n + 3)) o 4 (n + 3)) (n + 4)) o 5 (n + 4)) (n + 5)) o 6 (n + 5)) (n + 6)) o 7 (n + 6)) (n + 7)) o 8 (n + 7)) (n + 8)) o 9 (n + 8)) (n + 9)) o 10 (n + 9)) (n + 10)).1 o).1 = 2 := by exact a_kd1 (by omega) hk
  refine V_nn (n' := (n + 11)) (c' := 11) (s' := 372) rfl rfl rfl ?_
  refine V_putF (q := 91) X hin (TB.get tb_X2_init 45 rfl) rfl ff_RX2_43 hk ?_
  have hk : ((h_sR (a_new 13 6 (h_sR (a_new 13 6 (h_sR (a_new 10 6 (h_sR (a_new 10 6 (h_sR (a_new 10 144 (h_sR (a_new 10 144 (h_sR (a_new 10 24 (h_sR (a_new 10 24 (h_sR (a_new 10 4 (h_sR (a_new 10 4 (h_sR (a_new 10 4 h n) o 1 n) (n + 1)) o 2 (n + 1)) (n + 2)) o 3 (n + 2)) (n + 3)) o 4 (n + 3)) (n + 4)) o 5 (n + 4)) (n + 5)) o 6 (n + 5)) (n + 6)) o 7 (n + 6)) (n + 7)) o 8 (n + 7)) (n + 8)) o 9 (n + 8)) (n + 9)) o 10 (n + 9)) (n + 10)) o 11 (n + 10)).1 o).1 = 2 := hk
  exact V_vretA X hr hlk (TB.get tb_X2_init 46 rfl)
def C_X4 (o n : Nat) (h : Hp) : Hp := (h_sR (a_new 10 40 (h_sR (a_new 10 40 (h_sR (a_new 10 40 (h_sR (a_new 10 40 (h_sR (a_new 10 40 (h_sR (a_new 10 40 (h_sR (a_new 10 40 (h_sR (a_new 10 40 (h_sR (a_new 10 40 (h_sR (a_new 10 40 (h_sR (a_new 10 40 (h_sR (a_new 10 6 (h_sR (C_X2 n (n + 1) (a_new 2 0 h n)) o 0 n) (n + 12)) o 2 (n + 12)) (n + 13)) o 4 (n + 13)) (n + 14)) o 5 (n + 14)) (n + 15)) o 6 (n + 15)) (n + 16)) o 7 (n + 16)) (n + 17)) o 8 (n + 17)) (n + 18)) o 9 (n + 18)) (n + 19)) o 10 (n + 19)) (n + 20)) o 11 (n + 20)) (n + 21)) o 12 (n + 21)) (n + 22)) o 13 (n + 22)) (n + 23)) o 14 (n + 23))
theorem C_X4_kind {o n i : Nat} {h : Hp} (hi : i < n) : (C_X4 o n h).1 i = h.1 i := (a_kd (by omega) (a_kd (by omega) (a_kd (by omega) (a_kd (by omega) (a_kd (by omega) (a_kd (by omega) (a_kd (by omega) (a_kd (by omega) (a_kd (by omega) (a_kd (by omega) (a_kd (by omega) (a_kd (by omega) (C_X2_kd (o := n) (n := (n + 1)) (by omega) (a_kd (by omega) rfl))))))))))))))
theorem C_X4_kd {o n i : Nat} {h : Hp} {x : Nat × Nat} (hi : i < n) (e : h.1 i = x) : (C_X4 o n h).1 i = x := (C_X4_kind hi).trans e
theorem C_X4_kd1 {o n i : Nat} {h : Hp} {x : Nat} (hi : i < n) (e : (h.1 i).1 = x) : ((C_X4 o n h).1 i).1 = x := by rw [C_X4_kind hi]; exact e
set_option maxRecDepth 100000 in
set_option maxHeartbeats 4000000 in
theorem okc_4 (o n : Nat) (h : Hp) (hk : (h.1 o).1 = 4) (ho : o < n) : CKA yX4_init cX4_init 1 2 24 830 [.ref o] n h (C_X4 o n h) := by
  refine CKA_of pn_RX4 (gt1 124 rfl rfl) (Nat.le_of_ble_eq_true rfl) rfl ?_
  intro l D tc B p en s m args below meth c X hr hlk hin hs hNW
  replace X : CX p (rmA 2 24 830) s m args c cX4_init 1 RX4 D tc 2 := X
  show V p l en (rmA 2 24 830) s m args below meth c 1 D tc B n (AB B) s.heap 0 0 (MQ below (QCA D tc B (n + 24) (C_X4 o n h)) args s 24 830 (AB B)) h 0 [(0, .ref o)] []
  refine V_aload_n (q := 1) X (TB.get tb_X4_init 0 rfl) rfl rfl rfl ?_
  refine V_objInit (q := 4) X (TB.get tb_X4_init 1 rfl) rfl oi_RX4 oi_1 oi_2 (Nat.le_of_ble_eq_true rfl) (Nat.le_of_ble_eq_true rfl) ?_
  refine V_aload_n (q := 5) X (TB.get tb_X4_init 2 rfl) rfl rfl rfl ?_
  refine V_new (q := 8) X (TB.get tb_X4_init 3 rfl) rfl nc_RX4_9 (by omega) (Nat.le_of_ble_eq_true rfl) (Nat.le_of_ble_eq_true rfl) ?_ (by omega)
  have hk : ((a_new 2 0 h n).1 o).1 = 4 := by exact a_kd1 (by omega) hk
  have hk2 : ((a_new 2 0 h n).1 n).1 = 2 := by rw [a_new_eq]
  refine V_nn (n' := (n + 1)) (c' := 1) (s' := 12) rfl rfl rfl ?_
  refine V_dup (q := 9) X (TB.get tb_X4_init 4 rfl) rfl rfl ?_
  refine V_callI (q := 12) X hNW (TB.get tb_X4_init 5 rfl) rfl (Or.inr ⟨RX8, by decide +kernel⟩) ci_2 (okc_2 n (n + 1) _ hk2 (by omega)) (Nat.le_of_ble_eq_true rfl) (Nat.le_of_ble_eq_true rfl) (by omega) (by omega) (Nat.le_of_ble_eq_true rfl) (Nat.le_of_ble_eq_true rfl) ?_
  have hk : ((C_X2 n (n + 1) (a_new 2 0 h n)).1 o).1 = 4 := by exact C_X2_kd1 (o := n) (n := (n + 1)) (by omega) hk
  refine V_nn (n' := (n + 12)) (c' := 12) (s' := 384) rfl rfl rfl ?_
  refine V_putF (q := 15) X hin (TB.get tb_X4_init 6 rfl) rfl ff_RX4_12 hk ?_
  have hk : ((h_sR (C_X2 n (n + 1) (a_new 2 0 h n)) o 0 n).1 o).1 = 4 := hk
  refine V_aload_n (q := 16) X (TB.get tb_X4_init 7 rfl) rfl rfl rfl ?_
  refine V_bipush (v := 6) (q := 18) X (TB.get tb_X4_init 8 rfl) c_bipush_6 rfl ?_
  refine V_newI (q := 20) 6 X (TB.get tb_X4_init 9 rfl) rfl ay_int (by decide) (by decide) (by decide) (by omega) (Nat.le_of_ble_eq_true rfl) (Nat.le_of_ble_eq_true rfl) (by omega) ?_
  have hk : ((a_new 10 6 (h_sR (C_X2 n (n + 1) (a_new 2 0 h n)) o 0 n) (n + 12)).1 o).1 = 4 := by exact a_kd1 (by omega) hk
  refine V_nn (n' := (n + 13)) (c' := 13) (s' := 390) rfl rfl rfl ?_
  refine V_putF (q := 23) X hin (TB.get tb_X4_init 10 rfl) rfl ff_RX4_18 hk ?_
  have hk : ((h_sR (a_new 10 6 (h_sR (C_X2 n (n + 1) (a_new 2 0 h n)) o 0 n) (n + 12)) o 2 (n + 12)).1 o).1 = 4 := hk
  refine V_aload_n (q := 24) X (TB.get tb_X4_init 11 rfl) rfl rfl rfl ?_
  refine V_bipush (v := 40) (q := 26) X (TB.get tb_X4_init 12 rfl) c_bipush_40 rfl ?_
  refine V_newI (q := 28) 40 X (TB.get tb_X4_init 13 rfl) rfl ay_int (by decide) (by decide) (by decide) (by omega) (Nat.le_of_ble_eq_true rfl) (Nat.le_of_ble_eq_true rfl) (by omega) ?_
  have hk : ((a_new 10 40 (h_sR (a_new 10 6 (h_sR (C_X2 n (n + 1) (a_new 2 0 h n)) o 0 n) (n + 12)) o 2 (n + 12)) (n + 13)).1 o).1 = 4 := by exact a_kd1 (by omega) hk
  refine V_nn (n' := (n + 14)) (c' := 14) (s' := 430) rfl rfl rfl ?_
  refine V_putF (q := 31) X hin (TB.get tb_X4_init 14 rfl) rfl ff_RX4_22 hk ?_
  have hk : ((h_sR (a_new 10 40 (h_sR (a_new 10 6 (h_sR (C_X2 n (n + 1) (a_new 2 0 h n)) o 0 n) (n + 12)) o 2 (n + 12)) (n + 13)) o 4 (n + 13)).1 o).1 = 4 := hk
  refine V_aload_n (q := 32) X (TB.get tb_X4_init 15 rfl) rfl rfl rfl ?_
  refine V_bipush (v := 40) (q := 34) X (TB.get tb_X4_init 16 rfl) c_bipush_40 rfl ?_
  refine V_newI (q := 36) 40 X (TB.get tb_X4_init 17 rfl) rfl ay_int (by decide) (by decide) (by decide) (by omega) (Nat.le_of_ble_eq_true rfl) (Nat.le_of_ble_eq_true rfl) (by omega) ?_
  have hk : ((a_new 10 40 (h_sR (a_new 10 40 (h_sR (a_new 10 6 (h_sR (C_X2 n (n + 1) (a_new 2 0 h n)) o 0 n) (n + 12)) o 2 (n + 12)) (n + 13)) o 4 (n + 13)) (n + 14)).1 o).1 = 4 := by exact a_kd1 (by omega) hk
  refine V_nn (n' := (n + 15)) (c' := 15) (s' := 470) rfl rfl rfl ?_
  refine V_putF (q := 39) X hin (TB.get tb_X4_init 18 rfl) rfl ff_RX4_25 hk ?_
  have hk : ((h_sR (a_new 10 40 (h_sR (a_new 10 40 (h_sR (a_new 10 6 (h_sR (C_X2 n (n + 1) (a_new 2 0 h n)) o 0 n) (n + 12)) o 2 (n + 12)) (n + 13)) o 4 (n + 13)) (n + 14)) o 5 (n + 14)).1 o).1 = 4 := hk
  refine V_aload_n (q := 40) X (TB.get tb_X4_init 19 rfl) rfl rfl rfl ?_
  refine V_bipush (v := 40) (q := 42) X (TB.get tb_X4_init 20 rfl) c_bipush_40 rfl ?_
  refine V_newI (q := 44) 40 X (TB.get tb_X4_init 21 rfl) rfl ay_int (by decide) (by decide) (by decide) (by omega) (Nat.le_of_ble_eq_true rfl) (Nat.le_of_ble_eq_true rfl) (by omega) ?_
  have hk : ((a_new 10 40 (h_sR (a_new 10 40 (h_sR (a_new 10 40 (h_sR (a_new 10 6 (h_sR (C_X2 n (n + 1) (a_new 2 0 h n)) o 0 n) (n + 12)) o 2 (n + 12)) (n + 13)) o 4 (n + 13)) (n + 14)) o 5 (n + 14)) (n + 15)).1 o).1 = 4 := by exact a_kd1 (by omega) hk
  refine V_nn (n' := (n + 16)) (c' := 16) (s' := 510) rfl rfl rfl ?_
  refine V_putF (q := 47) X hin (TB.get tb_X4_init 22 rfl) rfl ff_RX4_28 hk ?_
  have hk : ((h_sR (a_new 10 40 (h_sR (a_new 10 40 (h_sR (a_new 10 40 (h_sR (a_new 10 6 (h_sR (C_X2 n (n + 1) (a_new 2 0 h n)) o 0 n) (n + 12)) o 2 (n + 12)) (n + 13)) o 4 (n + 13)) (n + 14)) o 5 (n + 14)) (n + 15)) o 6 (n + 15)).1 o).1 = 4 := hk
  refine V_aload_n (q := 48) X (TB.get tb_X4_init 23 rfl) rfl rfl rfl ?_
  refine V_bipush (v := 40) (q := 50) X (TB.get tb_X4_init 24 rfl) c_bipush_40 rfl ?_
  refine V_newI (q := 52) 40 X (TB.get tb_X4_init 25 rfl) rfl ay_int (by decide) (by decide) (by decide) (by omega) (Nat.le_of_ble_eq_true rfl) (Nat.le_of_ble_eq_true rfl) (by omega) ?_
  have hk : ((a_new 10 40 (h_sR (a_new 10 40 (h_sR (a_new 10 40 (h_sR (a_new 10 40 (h_sR (a_new 10 6 (h_sR (C_X2 n (n + 1) (a_new 2 0 h n)) o 0 n) (n + 12)) o 2 (n + 12)) (n + 13)) o 4 (n + 13)) (n + 14)) o 5 (n + 14)) (n + 15)) o 6 (n + 15)) (n + 16)).1 o).1 = 4 := by exact a_kd1 (by omega) hk
  refine V_nn (n' := (n + 17)) (c' := 17) (s' := 550) rfl rfl rfl ?_
  refine V_putF (q := 55) X hin (TB.get tb_X4_init 26 rfl) rfl ff_RX4_31 hk ?_
  have hk : ((h_sR (a_new 10 40 (h_sR (a_new 10 40 (h_sR (a_new 10 40 (h_sR (a_new 10 40 (h_sR (a_new 10 6 (h_sR (C_X2 n (n + 1) (a_new 2 0 h n)) o 0 n) (n + 12)) o 2 (n + 12)) (n + 13)) o 4 (n + 13)) (n + 14)) o 5 (n + 14)) (n + 15)) o 6 (n + 15)) (n + 16)) o 7 (n + 16)).1 o).1 = 4 := hk
  refine V_aload_n (q := 56) X (TB.get tb_X4_init 27 rfl) rfl rfl rfl ?_
  refine V_bipush (v := 40) (q := 58) X (TB.get tb_X4_init 28 rfl) c_bipush_40 rfl ?_
  refine V_newI (q := 60) 40 X (TB.get tb_X4_init 29 rfl) rfl ay_int (by decide) (by decide) (by decide) (by omega) (Nat.le_of_ble_eq_true rfl) (Nat.le_of_ble_eq_true rfl) (by omega) ?_
  have hk : ((a_new 10 40 (h_sR (a_new 10 40 (h_sR (a_new 10 40 (h_sR (a_new 10 40 (h_sR (a_new 10 40 (h_sR (a_new 10 6 (h_sR (C_X2 n (n + 1) (a_new 2 0 h n)) o 0 n) (n + 12)) o 2 (n + 12)) (n + 13)) o 4 (n + 13)) (n + 14)) o 5 (n + 14)) (n + 15)) o 6 (n + 15)) (n + 16)) o 7 (n + 16)) (n + 17)).1 o).1 = 4 := by exact a_kd1 (by omega) hk
  refine V_nn (n' := (n + 18)) (c' := 18) (s' := 590) rfl rfl rfl ?_
  refine V_putF (q := 63) X hin (TB.get tb_X4_init 30 rfl) rfl ff_RX4_34 hk ?_
  have hk : ((h_sR (a_new 10 40 (h_sR (a_new 10 40 (h_sR (a_new 10 40 (h_sR (a_new 10 40 (h_sR (a_new 10 40 (h_sR (a_new 10 6 (h_sR (C_X2 n (n + 1) (a_new 2 0 h n)) o 0 n) (n + 12)) o 2 (n + 12)) (n + 13)) o 4 (n + 13)) (n + 14)) o 5 (n + 14)) (n + 15)) o 6 (n + 15)) (n + 16)) o 7 (n + 16)) (n + 17)) o 8 (n + 17)).1 o).1 = 4 := hk
  refine V_aload_n (q := 64) X (TB.get tb_X4_init 31 rfl) rfl rfl rfl ?_
  refine V_bipush (v := 40) (q := 66) X (TB.get tb_X4_init 32 rfl) c_bipush_40 rfl ?_
  refine V_newI (q := 68) 40 X (TB.get tb_X4_init 33 rfl) rfl ay_int (by decide) (by decide) (by decide) (by omega) (Nat.le_of_ble_eq_true rfl) (Nat.le_of_ble_eq_true rfl) (by omega) ?_
  have hk : ((a_new 10 40 (h_sR (a_new 10 40 (h_sR (a_new 10 40 (h_sR (a_new 10 40 (h_sR (a_new 10 40 (h_sR (a_new 10 40 (h_sR (a_new 10 6 (h_sR (C_X2 n (n + 1) (a_new 2 0 h n)) o 0 n) (n + 12)) o 2 (n + 12)) (n + 13)) o 4 (n + 13)) (n + 14)) o 5 (n + 14)) (n + 15)) o 6 (n + 15)) (n + 16)) o 7 (n + 16)) (n + 17)) o 8 (n + 17)) (n + 18)).1 o).1 = 4 := by exact a_kd1 (by omega) hk
  refine V_nn (n' := (n + 19)) (c' := 19) (s' := 630) rfl rfl rfl ?_
  refine V_putF (q := 71) X hin (TB.get tb_X4_init 34 rfl) rfl ff_RX4_37 hk ?_
  have hk : ((h_sR (a_new 10 40 (h_sR (a_new 10 40 (h_sR (a_new 10 40 (h_sR (a_new 10 40 (h_sR (a_new 10 40 (h_sR (a_new 10 40 (h_sR (a_new 10 6 (h_sR (C_X2 n (n + 1) (a_new 2 0 h n)) o 0 n) (n + 12)) o 2 (n + 12)) (n + 13)) o 4 (n + 13)) (n + 14)) o 5 (n + 14)) (n + 15)) o 6 (n + 15)) (n + 16)) o 7 (n + 16)) (n + 17)) o 8 (n + 17)) (n + 18)) o 9 (n + 18)).1 o).1 = 4 := hk
  refine V_aload_n (q := 72) X (TB.get tb_X4_init 35 rfl) rfl rfl rfl ?_
  refine V_bipush (v := 40) (q := 74) X (TB.get tb_X4_init 36 rfl) c_bipush_40 rfl ?_
  refine V_newI (q := 76) 40 X (TB.get tb_X4_init 37 rfl) rfl ay_int (by decide) (by decide) (by decide) (by omega) (Nat.le_of_ble_eq_true rfl) (Nat.le_of_ble_eq_true rfl) (by omega) ?_
  have hk : ((a_new 10 40 (h_sR (a_new 10 40 (h_sR (a_new 10 40 (h_sR (a_new 10 40 (h_sR (a_new 10 40 (h_sR (a_new 10 40 (h_sR (a_new 10 40 (h_sR (a_new 10 6 (h_sR (C_X2 n (n + 1) (a_new 2 0 h n)) o 0 n) (n + 12)) o 2 (n + 12)) (n + 13)) o 4 (n + 13)) (n + 14)) o 5 (n + 14)) (n + 15)) o 6 (n + 15)) (n + 16)) o 7 (n + 16)) (n + 17)) o 8 (n + 17)) (n + 18)) o 9 (n + 18)) (n + 19)).1 o).1 = 4 := by exact a_kd1 (by omega) hk
  refine V_nn (n' := (n + 20)) (c' := 20) (s' := 670) rfl rfl rfl ?_
  refine V_putF (q := 79) X hin (TB.get tb_X4_init 38 rfl) rfl ff_RX4_40 hk ?_
  have hk : ((h_sR (a_new 10 40 (h_sR (a_new 10 40 (h_sR (a_new 10 40 (h_sR (a_new 10 40 (h_sR (a_new 10 40 (h_sR (a_new 10 40 (h_sR (a_new 10 40 (h_sR (a_new 10 6 (h_sR (C_X2 n (n + 1) (a_new 2 0 h n)) o 0 n) (n + 12)) o 2 (n + 12)) (n + 13)) o 4 (n + 13)) (n + 14)) o 5 (n + 14)) (n + 15)) o 6 (n + 15)) (n + 16)) o 7 (n + 16)) (n + 17)) o 8 (n + 17)) (n + 18)) o 9 (n + 18)) (n + 19)) o 10 (n + 19)).1 o).1 = 4 := hk
  refine V_aload_n (q := 80) X (TB.get tb_X4_init 39 rfl) rfl rfl rfl ?_
  refine V_bipush (v := 40) (q := 82) X (TB.get tb_X4_init 40 rfl) c_bipush_40 rfl ?_
  refine V_newI (q := 84) 40 X (TB.get tb_X4_init 41 rfl) rfl ay_int (by decide) (by decide) (by decide) (by omega) (Nat.le_of_ble_eq_true rfl) (Nat.le_of_ble_eq_true rfl) (by omega) ?_
  have hk : ((a_new 10 40 (h_sR (a_new 10 40 (h_sR (a_new 10 40 (h_sR (a_new 10 40 (h_sR (a_new 10 40 (h_sR (a_new 10 40 (h_sR (a_new 10 40 (h_sR (a_new 10 40 (h_sR (a_new 10 6 (h_sR (C_X2 n (n + 1) (a_new 2 0 h n)) o 0 n) (n + 12)) o 2 (n + 12)) (n + 13)) o 4 (n + 13)) (n + 14)) o 5 (n + 14)) (n + 15)) o 6 (n + 15)) (n + 16)) o 7 (n + 16)) (n + 17)) o 8 (n + 17)) (n + 18)) o 9 (n + 18)) (n + 19)) o 10 (n + 19)) (n + 20)).1 o).1 = 4 := by exact a_kd1 (by omega) hk
  refine V_nn (n' := (n + 21)) (c' := 21) (s' := 710) rfl rfl rfl ?_
  refine V_putF (q := 87) X hin (TB.get tb_X4_init 42 rfl) rfl ff_RX4_43 hk ?_
  have hk : ((h_sR (a_new 10 40 (h_sR (a_new 10 40 (h_sR (a_new 10 40 (h_sR (a_new 10 40 (h_sR (a_new 10 40 (h_sR (a_new 10 40 (h_sR (a_new 10 40 (h_sR (a_new 10 40 (h_sR (a_new 10 6 (h_sR (C_X2 n (n + 1) (a_new 2 0 h n)) o 0 n) (n + 12)) o 2 (n + 12)) (n + 13)) o 4 (n + 13)) (n + 14)) o 5 (n + 14)) (n + 15)) o 6 (n + 15)) (n + 16)) o 7 (n + 16)) (n + 17)) o 8 (n + 17)) (n + 18)) o 9 (n + 18)) (n + 19)) o 10 (n + 19)) (n + 20)) o 11 (n + 20)).1 o).1 = 4 := hk
  refine V_aload_n (q := 88) X (TB.get tb_X4_init 43 rfl) rfl rfl rfl ?_
  refine V_bipush (v := 40) (q := 90) X (TB.get tb_X4_init 44 rfl) c_bipush_40 rfl ?_
  refine V_newI (q := 92) 40 X (TB.get tb_X4_init 45 rfl) rfl ay_int (by decide) (by decide) (by decide) (by omega) (Nat.le_of_ble_eq_true rfl) (Nat.le_of_ble_eq_true rfl) (by omega) ?_
  have hk : ((a_new 10 40 (h_sR (a_new 10 40 (h_sR (a_new 10 40 (h_sR (a_new 10 40 (h_sR (a_new 10 40 (h_sR (a_new 10 40 (h_sR (a_new 10 40 (h_sR (a_new 10 40 (h_sR (a_new 10 40 (h_sR (a_new 10 6 (h_sR (C_X2 n (n + 1) (a_new 2 0 h n)) o 0 n) (n + 12)) o 2 (n + 12)) (n + 13)) o 4 (n + 13)) (n + 14)) o 5 (n + 14)) (n + 15)) o 6 (n + 15)) (n + 16)) o 7 (n + 16)) (n + 17)) o 8 (n + 17)) (n + 18)) o 9 (n + 18)) (n + 19)) o 10 (n + 19)) (n + 20)) o 11 (n + 20)) (n + 21)).1 o).1 = 4 := by exact a_kd1 (by omega) hk
  refine V_nn (n' := (n + 22)) (c' := 22) (s' := 750) rfl rfl rfl ?_
  refine V_putF (q := 95) X hin (TB.get tb_X4_init 46 rfl) rfl ff_RX4_46 hk ?_
  have hk : ((h_sR (a_new 10 40 (h_sR (a_new 10 40 (h_sR (a_new 10 40 (h_sR (a_new 10 40 (h_sR (a_new 10 40 (h_sR (a_new 10 40 (h_sR (a_new 10 40 (h_sR (a_new 10 40 (h_sR (a_new 10 40 (h_sR (a_new 10 6 (h_sR (C_X2 n (n + 1) (a_new 2 0 h n)) o 0 n) (n + 12)) o 2 (n + 12)) (n + 13)) o 4 (n + 13)) (n + 14)) o 5 (n + 14)) (n + 15)) o 6 (n + 15)) (n + 16)) o 7 (n + 16)) (n + 17)) o 8 (n + 17)) (n + 18)) o 9 (n + 18)) (n + 19)) o 10 (n + 19)) (n + 20)) o 11 (n + 20)) (n + 21)) o 12 (n + 21)).1 o).1 = 4 := hk
  refine V_aload_n (q := 96) X (TB.get tb_X4_init 47 rfl) rfl rfl rfl ?_
  refine V_bipush (v := 40) (q := 98) X (TB.get tb_X4_init 48 rfl) c_bipush_40 rfl ?_
  refine V_newI (q := 100) 40 X (TB.get tb_X4_init 49 rfl) rfl ay_int (by decide) (by decide) (by decide) (by omega) (Nat.le_of_ble_eq_true rfl) (Nat.le_of_ble_eq_true rfl) (by omega) ?_
  have hk : ((a_new 10 40 (h_sR (a_new 10 40 (h_sR (a_new 10 40 (h_sR (a_new 10 40 (h_sR (a_new 10 40 (h_sR (a_new 10 40 (h_sR (a_new 10 40 (h_sR (a_new 10 40 (h_sR (a_new 10 40 (h_sR (a_new 10 40 (h_sR (a_new 10 6 (h_sR (C_X2 n (n + 1) (a_new 2 0 h n)) o 0 n) (n + 12)) o 2 (n + 12)) (n + 13)) o 4 (n + 13)) (n + 14)) o 5 (n + 14)) (n + 15)) o 6 (n + 15)) (n + 16)) o 7 (n + 16)) (n + 17)) o 8 (n + 17)) (n + 18)) o 9 (n + 18)) (n + 19)) o 10 (n + 19)) (n + 20)) o 11 (n + 20)) (n + 21)) o 12 (n + 21)) (n + 22)).1 o).1 = 4 := by exact a_kd1 (by omega) hk
  refine V_nn (n' := (n + 23)) (c' := 23) (s' := 790) rfl rfl rfl ?_
  refine V_putF (q := 103) X hin (TB.get tb_X4_init 50 rfl) rfl ff_RX4_49 hk ?_
  have hk : ((h_sR (a_new 10 40 (h_sR (a_new 10 40 (h_sR (a_new 10 40 (h_sR (a_new 10 40 (h_sR (a_new 10 40 (h_sR (a_new 10 40 (h_sR (a_new 10 40 (h_sR (a_new 10 40 (h_sR (a_new 10 40 (h_sR (a_new 10 40 (h_sR (a_new 10 6 (h_sR (C_X2 n (n + 1) (a_new 2 0 h n)) o 0 n) (n + 12)) o 2 (n + 12)) (n + 13)) o 4 (n + 13)) (n + 14)) o 5 (n + 14)) (n + 15)) o 6 (n + 15)) (n + 16)) o 7 (n + 16)) (n + 17)) o 8 (n + 17)) (n + 18)) o 9 (n + 18)) (n + 19)) o 10 (n + 19)) (n + 20)) o 11 (n + 20)) (n + 21)) o 12 (n + 21)) (n + 22)) o 13 (n + 22)).1 o).1 = 4 := hk
  refine V_aload_n (q := 104) X (TB.get tb_X4_init 51 rfl) rfl rfl rfl ?_
  refine V_bipush (v := 40) (q := 106) X (TB.get tb_X4_init 52 rfl) c_bipush_40 rfl ?_
  refine V_newI (q := 108) 40 X (TB.get tb_X4_init 53 rfl) rfl ay_int (by decide) (by decide) (by decide) (by omega) (Nat.le_of_ble_eq_true rfl) (Nat.le_of_ble_eq_true rfl) (by omega) ?_
  have hk : ((a_new 10 40 (h_sR (a_new 10 40 (h_sR (a_new 10 40 (h_sR (a_new 10 40 (h_sR (a_new 10 40 (h_sR (a_new 10 40 (h_sR (a_new 10 40 (h_sR (a_new 10 40 (h_sR (a_new 10 40 (h_sR (a_new 10 40 (h_sR (a_new 10 40 (h_sR (a_new 10 6 (h_sR (C_X2 n (n + 1) (a_new 2 0 h n)) o 0 n) (n + 12)) o 2 (n + 12)) (n + 13)) o 4 (n + 13)) (n + 14)) o 5 (n + 14)) (n + 15)) o 6 (n + 15)) (n + 16)) o 7 (n + 16)) (n + 17)) o 8 (n + 17)) (n + 18)) o 9 (n + 18)) (n + 19)) o 10 (n + 19)) (n + 20)) o 11 (n + 20)) (n + 21)) o 12 (n + 21)) (n + 22)) o 13 (n + 22)) (n + 23)).1 o).1 = 4 := by exact a_kd1 (by omega) hk
  refine V_nn (n' := (n + 24)) (c' := 24) (s' := 830) rfl rfl rfl ?_
  refine V_putF (q := 111) X hin (TB.get tb_X4_init 54 rfl) rfl ff_RX4_52 hk ?_
  have hk : ((h_sR (a_new 10 40 (h_sR (a_new 10 40 (h_sR (a_new 10 40 (h_sR (a_new 10 40 (h_sR (a_new 10 40 (h_sR (a_new 10 40 (h_sR (a_new 10 40 (h_sR (a_new 10 40 (h_sR (a_new 10 40 (h_sR (a_new 10 40 (h_sR (a_new 10 40 (h_sR (a_new 10 6 (h_sR (C_X2 n (n + 1) (a_new 2 0 h n)) o 0 n) (n + 12)) o 2 (n + 12)) (n + 13)) o 4 (n + 13)) (n + 14)) o 5 (n + 14)) (n + 15)) o 6 (n + 15)) (n + 16)) o 7 (n + 16)) (n + 17)) o 8 (n + 17)) (n + 18)) o 9 (n + 18)) (n + 19)) o 10 (n + 19)) (n + 20)) o 11 (n + 20)) (n + 21)) o 12 (n + 21)) (n + 22)) o 13 (n + 22)) (n + 23)) o 14 (n + 23)).1 o).1 = 4 := hk
  exact V_vretA X hr hlk (TB.get tb_X4_init 55 rfl)
def C_X5 (o n : Nat) (h : Hp) : Hp := (h_sR (C_X1 n (n + 1) (a_new 1 0 h n)) o 5 n)
theorem C_X5_kind {o n i : Nat} {h : Hp} (hi : i < n) : (C_X5 o n h).1 i = h.1 i := (C_X1_kd (o := n) (n := (n + 1)) (by omega) (a_kd (by omega) rfl))
theorem C_X5_kd {o n i : Nat} {h : Hp} {x : Nat × Nat} (hi : i < n) (e : h.1 i = x) : (C_X5 o n h).1 i = x := (C_X5_kind hi).trans e
theorem C_X5_kd1 {o n i : Nat} {h : Hp} {x : Nat} (hi : i < n) (e : (h.1 i).1 = x) : ((C_X5 o n h).1 i).1 = x := by rw [C_X5_kind hi]; exact e
set_option maxRecDepth 100000 in
set_option maxHeartbeats 4000000 in
theorem okc_5 (o n : Nat) (h : Hp) (hk : (h.1 o).1 = 5) (ho : o < n) : CKA yX5_init cX5_init 1 2 2 25 [.ref o] n h (C_X5 o n h) := by
  refine CKA_of pn_RX5 (gt2 183 rfl rfl) (Nat.le_of_ble_eq_true rfl) rfl ?_
  intro l D tc B p en s m args below meth c X hr hlk hin hs hNW
  replace X : CX p (rmA 2 2 25) s m args c cX5_init 1 RX5 D tc 2 := X
  show V p l en (rmA 2 2 25) s m args below meth c 1 D tc B n (AB B) s.heap 0 0 (MQ below (QCA D tc B (n + 2) (C_X5 o n h)) args s 2 25 (AB B)) h 0 [(0, .ref o)] []
  refine V_aload_n (q := 1) X (TB.get tb_X5_init 0 rfl) rfl rfl rfl ?_
  refine V_objInit (q := 4) X (TB.get tb_X5_init 1 rfl) rfl oi_RX5 oi_1 oi_2 (Nat.le_of_ble_eq_true rfl) (Nat.le_of_ble_eq_true rfl) ?_
  refine V_aload_n (q := 5) X (TB.get tb_X5_init 2 rfl) rfl rfl rfl ?_
  refine V_new (q := 8) X (TB.get tb_X5_init 3 rfl) rfl nc_RX5_9 (by omega) (Nat.le_of_ble_eq_true rfl) (Nat.le_of_ble_eq_true rfl) ?_ (by omega)
  have hk : ((a_new 1 0 h n).1 o).1 = 5 := by exact a_kd1 (by omega) hk
  have hk1 : ((a_new 1 0 h n).1 n).1 = 1 := by rw [a_new_eq]
  refine V_nn (n' := (n + 1)) (c' := 1) (s' := 1) rfl rfl rfl ?_
  refine V_dup (q := 9) X (TB.get tb_X5_init 4 rfl) rfl rfl ?_
  refine V_callI (q := 12) X hNW (TB.get tb_X5_init 5 rfl) rfl (Or.inr ⟨RX8, by decide +kernel⟩) ci_1 (okc_1 n (n + 1) _ hk1 (by omega)) (Nat.le_of_ble_eq_true rfl) (Nat.le_of_ble_eq_true rfl) (by omega) (by omega) (Nat.le_of_ble_eq_true rfl) (Nat.le_of_ble_eq_true rfl) ?_
  have hk : ((C_X1 n (n + 1) (a_new 1 0 h n)).1 o).1 = 5 := by exact C_X1_kd1 (o := n) (n := (n + 1)) (by omega) hk
  refine V_nn (n' := (n + 2)) (c' := 2) (s' := 25) rfl rfl rfl ?_
  refine V_putF (q := 15) X hin (TB.get tb_X5_init 6 rfl) rfl ff_RX5_12 hk ?_
  have hk : ((h_sR (C_X1 n (n + 1) (a_new 1 0 h n)) o 5 n).1 o).1 = 5 := hk
  exact V_vretA X hr hlk (TB.get tb_X5_init 7 rfl)
def C_X6 (o n : Nat) (h : Hp) : Hp := (h_sR (C_X1 (n + 7) (n + 8) (a_new 1 0 (h_sR (C_X1 (n + 5) (n + 6) (a_new 1 0 (h_sR (a_new 10 2048 (h_sR (a_new 10 1000 (h_sR (a_new 13 1000 (h_sR (a_new 10 4 (h_sR (a_new 11 41 h n) o 7 n) (n + 1)) o 8 (n + 1)) (n + 2)) o 10 (n + 2)) (n + 3)) o 11 (n + 3)) (n + 4)) o 12 (n + 4)) (n + 5))) o 13 (n + 5)) (n + 7))) o 14 (n + 7))
theorem C_X6_kind {o n i : Nat} {h : Hp} (hi : i < n) : (C_X6 o n h).1 i = h.1 i := (C_X1_kd (o := (n + 7)) (n := (n + 8)) (by omega) (a_kd (by omega) (C_X1_kd (o := (n + 5)) (n := (n + 6)) (by omega) (a_kd (by omega) (a_kd (by omega) (a_kd (by omega) (a_kd (by omega) (a_kd (by omega) (a_kd (by omega) rfl)))))))))
theorem C_X6_kd {o n i : Nat} {h : Hp} {x : Nat × Nat} (hi : i < n) (e : h.1 i = x) : (C_X6 o n h).1 i = x := (C_X6_kind hi).trans e
theorem C_X6_kd1 {o n i : Nat} {h : Hp} {x : Nat} (hi : i < n) (e : (h.1 i).1 = x) : ((C_X6 o n h).1 i).1 = x := by rw [C_X6_kind hi]; exact e
set_option maxRecDepth 100000 in
set_option maxHeartbeats 4000000 in
theorem okc_6 (o n : Nat) (h : Hp) (hk : (h.1 o).1 = 6) (ho : o < n) : CKA yX6_init cX6_init 1 2 9 4143 [.ref o] n h (C_X6 o n h) := by
  refine CKA_of pn_RX6 (gt2 120 rfl rfl) (Nat.le_of_ble_eq_true rfl) rfl ?_
  intro l D tc B p en s m args below meth c X hr hlk hin hs hNW
  replace X : CX p (rmA 2 9 4143) s m args c cX6_init 1 RX6 D tc 2 := X
  show V p l en (rmA 2 9 4143) s m args below meth c 1 D tc B n (AB B) s.heap 0 0 (MQ below (QCA D tc B (n + 9) (C_X6 o n h)) args s 9 4143 (AB B)) h 0 [(0, .ref o)] []
  refine V_aload_n (q := 1) X (TB.get tb_X6_init 0 rfl) rfl rfl rfl ?_
  refine V_objInit (q := 4) X (TB.get tb_X6_init 1 rfl) rfl oi_RX6 oi_1 oi_2 (Nat.le_of_ble_eq_true rfl) (Nat.le_of_ble_eq_true rfl) ?_
  refine V_aload_n (q := 5) X (TB.get tb_X6_init 2 rfl) rfl rfl rfl ?_
  refine V_bipush (v := 41) (q := 7) X (TB.get tb_X6_init 3 rfl) c_bipush_41 rfl ?_
  refine V_newZ (q := 9) 41 X (TB.get tb_X6_init 4 rfl) rfl ay_boolean (by decide) (by decide) (by decide) (by omega) (Nat.le_of_ble_eq_true rfl) (Nat.le_of_ble_eq_true rfl) (by omega) ?_
  have hk : ((a_new 11 41 h n).1 o).1 = 6 := by exact a_kd1 (by omega) hk
  refine V_nn (n' := (n + 1)) (c' := 1) (s' := 41) rfl rfl rfl ?_
  refine V_putF (q := 12) X hin (TB.get tb_X6_init 5 rfl) rfl ff_RX6_9 hk ?_
  have hk : ((h_sR (a_new 11 41 h n) o 7 n).1 o).1 = 6 := hk
  refine V_aload_n (q := 13) X (TB.get tb_X6_init 6 rfl) rfl rfl rfl ?_
  refine V_iconst (v := 4) (q := 14) X (TB.get tb_X6_init 7 rfl) c_iconst_4 rfl ?_
  refine V_newI (q := 16) 4 X (TB.get tb_X6_init 8 rfl) rfl ay_int (by decide) (by decide) (by decide) (by omega) (Nat.le_of_ble_eq_true rfl) (Nat.le_of_ble_eq_true rfl) (by omega) ?_
  have hk : ((a_new 10 4 (h_sR (a_new 11 41 h n) o 7 n) (n + 1)).1 o).1 = 6 := by exact a_kd1 (by omega) hk
  refine V_nn (n' := (n + 2)) (c' := 2) (s' := 45) rfl rfl rfl ?_
  refine V_putF (q := 19) X hin (TB.get tb_X6_init 9 rfl) rfl ff_RX6_15 hk ?_
  have hk : ((h_sR (a_new 10 4 (h_sR (a_new 11 41 h n) o 7 n) (n + 1)) o 8 (n + 1)).1 o).1 = 6 := hk
  refine V_aload_n (q := 20) X (TB.get tb_X6_init 10 rfl) rfl rfl rfl ?_
  refine V_sipush (v := 1000) (q := 23) X (TB.get tb_X6_init 11 rfl) c_sipush_1000 rfl ?_
  refine V_newL (q := 25) 1000 X (TB.get tb_X6_init 12 rfl) rfl ay_long (by decide) (by decide) (by decide) (by omega) (Nat.le_of_ble_eq_true rfl) (Nat.le_of_ble_eq_true rfl) (by omega) ?_
  have hk : ((a_new 13 1000 (h_sR (a_new 10 4 (h_sR (a_new 11 41 h n) o 7 n) (n + 1)) o 8 (n + 1)) (n + 2)).1 o).1 = 6 := by exact a_kd1 (by omega) hk
  refine V_nn (n' := (n + 3)) (c' := 3) (s' := 1045) rfl rfl rfl ?_
  refine V_putF (q := 28) X hin (TB.get tb_X6_init 13 rfl) rfl ff_RX6_19 hk ?_
  have hk : ((h_sR (a_new 13 1000 (h_sR (a_new 10 4 (h_sR (a_new 11 41 h n) o 7 n) (n + 1)) o 8 (n + 1)) (n + 2)) o 10 (n + 2)).1 o).1 = 6 := hk
  refine V_aload_n (q := 29) X (TB.get tb_X6_init 14 rfl) rfl rfl rfl ?_
  refine V_sipush (v := 1000) (q := 32) X (TB.get tb_X6_init 15 rfl) c_sipush_1000 rfl ?_
  refine V_newI (q := 34) 1000 X (TB.get tb_X6_init 16 rfl) rfl ay_int (by decide) (by decide) (by decide) (by omega) (Nat.le_of_ble_eq_true rfl) (Nat.le_of_ble_eq_true rfl) (by omega) ?_
  have hk : ((a_new 10 1000 (h_sR (a_new 13 1000 (h_sR (a_new 10 4 (h_sR (a_new 11 41 h n) o 7 n) (n + 1)) o 8 (n + 1)) (n + 2)) o 10 (n + 2)) (n + 3)).1 o).1 = 6 := by exact a_kd1 (by omega) hk
  refine V_nn (n' := (n + 4)) (c' := 4) (s' := 2045) rfl rfl rfl ?_
  refine V_putF (q := 37) X hin (TB.get tb_X6_init 17 rfl) rfl ff_RX6_23 hk ?_
  have hk : ((h_sR (a_new 10 1000 (h_sR (a_new 13 1000 (h_sR (a_new 10 4 (h_sR (a_new 11 41 h n) o 7 n) (n + 1)) o 8 (n + 1)) (n + 2)) o 10 (n + 2)) (n + 3)) o 11 (n + 3)).1 o).1 = 6 := hk
  refine V_aload_n (q := 38) X (TB.get tb_X6_init 18 rfl) rfl rfl rfl ?_
  refine V_sipush (v := 2048) (q := 41) X (TB.get tb_X6_init 19 rfl) c_sipush_2048 rfl ?_
  refine V_newI (q := 43) 2048 X (TB.get tb_X6_init 20 rfl) rfl ay_int (by decide) (by decide) (by decide) (by omega) (Nat.le_of_ble_eq_true rfl) (Nat.le_of_ble_eq_true rfl) (by omega) ?_
  have hk : ((a_new 10 2048 (h_sR (a_new 10 1000 (h_sR (a_new 13 1000 (h_sR (a_new 10 4 (h_sR (a_new 11 41 h n) o 7 n) (n + 1)) o 8 (n + 1)) (n + 2)) o 10 (n + 2)) (n + 3)) o 11 (n + 3)) (n + 4)).1 o).1 = 6 := by exact a_kd1 (by omega) hk
  refine V_nn (n' := (n + 5)) (c' := 5) (s' := 4093) rfl rfl rfl ?_
  refine V_putF (q := 46) X hin (TB.get tb_X6_init 21 rfl) rfl ff_RX6_26 hk ?_
  have hk : ((h_sR (a_new 10 2048 (h_sR (a_new 10 1000 (h_sR (a_new 13 1000 (h_sR (a_new 10 4 (h_sR (a_new 11 41 h n) o 7 n) (n + 1)) o 8 (n + 1)) (n + 2)) o 10 (n + 2)) (n + 3)) o 11 (n + 3)) (n + 4)) o 12 (n + 4)).1 o).1 = 6 := hk
  refine V_aload_n (q := 47) X (TB.get tb_X6_init 22 rfl) rfl rfl rfl ?_
  refine V_new (q := 50) X (TB.get tb_X6_init 23 rfl) rfl nc_RX6_29 (by omega) (Nat.le_of_ble_eq_true rfl) (Nat.le_of_ble_eq_true rfl) ?_ (by omega)
  have hk : ((a_new 1 0 (h_sR (a_new 10 2048 (h_sR (a_new 10 1000 (h_sR (a_new 13 1000 (h_sR (a_new 10 4 (h_sR (a_new 11 41 h n) o 7 n) (n + 1)) o 8 (n + 1)) (n + 2)) o 10 (n + 2)) (n + 3)) o 11 (n + 3)) (n + 4)) o 12 (n + 4)) (n + 5)).1 o).1 = 6 := by exact a_kd1 (by omega) hk
  have hk1 : ((a_new 1 0 (h_sR (a_new 10 2048 (h_sR (a_new 10 1000 (h_sR (a_new 13 1000 (h_sR (a_new 10 4 (h_sR (a_new 11 41 h n) o 7 n) (n + 1)) o 8 (n + 1)) (n + 2)) o 10 (n + 2)) (n + 3)) o 11 (n + 3)) (n + 4)) o 12 (n + 4)) (n + 5)).1 (n + 5)).1 = 1 := by rw [a_new_eq]
  refine V_nn (n' := (n + 6)) (c' := 6) (s' := 4094) rfl rfl rfl ?_
  refine V_dup (q := 51) X (TB.get tb_X6_init 24 rfl) rfl rfl ?_
  refine V_callI (q := 54) X hNW (TB.get tb_X6_init 25 rfl) rfl (Or.inr ⟨RX8, by decide +kernel⟩) ci_1 (okc_1 (n + 5) (n + 6) _ hk1 (by omega)) (Nat.le_of_ble_eq_true rfl) (Nat.le_of_ble_eq_true rfl) (by omega) (by omega) (Nat.le_of_ble_eq_true rfl) (Nat.le_of_ble_eq_true rfl) ?_
  have hk : ((C_X1 (n + 5) (n + 6) (a_new 1 0 (h_sR (a_new 10 2048 (h_sR (a_new 10 1000 (h_sR (a_new 13 1000 (h_sR (a_new 10 4 (h_sR (a_new 11 41 h n) o 7 n) (n + 1)) o 8 (n + 1)) (n + 2)) o 10 (n + 2)) (n + 3)) o 11 (n + 3)) (n + 4)) o 12 (n + 4)) (n + 5))).1 o).1 = 6 := by exact C_X1_kd1 (o := (n + 5)) (n := (n + 6)) (by omega) hk
  refine V_nn (n' := (n + 7)) (c' := 7) (s' := 4118) rfl rfl rfl ?_
  refine V_putF (q := 57) X hin (TB.get tb_X6_init 26 rfl) rfl ff_RX6_32 hk ?_
  have hk : ((h_sR (C_X1 (n + 5) (n + 6) (a_new 1 0 (h_sR (a_new 10 2048 (h_sR (a_new 10 1000 (h_sR (a_new 13 1000 (h_sR (a_new 10 4 (h_sR (a_new 11 41 h n) o 7 n) (n + 1)) o 8 (n + 1)) (n + 2)) o 10 (n + 2)) (n + 3)) o 11 (n + 3)) (n + 4)) o 12 (n + 4)) (n + 5))) o 13 (n + 5)).1 o).1 = 6 := hk
  refine V_aload_n (q := 58) X (TB.get tb_X6_init 27 rfl) rfl rfl rfl ?_
  refine V_new (q := 61) X (TB.get tb_X6_init 28 rfl) rfl nc_RX6_29 (by omega) (Nat.le_of_ble_eq_true rfl) (Nat.le_of_ble_eq_true rfl) ?_ (by omega)
  have hk : ((a_new 1 0 (h_sR (C_X1 (n + 5) (n + 6) (a_new 1 0 (h_sR (a_new 10 2048 (h_sR (a_new 10 1000 (h_sR (a_new 13 1000 (h_sR (a_new 10 4 (h_sR (a_new 11 41 h n) o 7 n) (n + 1)) o 8 (n + 1)) (n + 2)) o 10 (n + 2)) (n + 3)) o 11 (n + 3)) (n + 4)) o 12 (n + 4)) (n + 5))) o 13 (n + 5)) (n + 7)).1 o).1 = 6 := by exact a_kd1 (by omega) hk
  have hk1 : ((a_new 1 0 (h_sR (C_X1 (n + 5) (n + 6) (a_new 1 0 (h_sR (a_new 10 2048 (h_sR (a_new 10 1000 (h_sR (a_new 13 1000 (h_sR (a_new 10 4 (h_sR (a_new 11 41 h n) o 7 n) (n + 1)) o 8 (n + 1)) (n + 2)) o 10 (n + 2)) (n + 3)) o 11 (n + 3)) (n + 4)) o 12 (n + 4)) (n + 5))) o 13 (n + 5)) (n + 7)).1 (n + 7)).1 = 1 := by rw [a_new_eq]
  refine V_nn (n' := (n + 8)) (c' := 8) (s' := 4119) rfl rfl rfl ?_
  refine V_dup (q := 62) X (TB.get tb_X6_init 29 rfl) rfl rfl ?_
  refine V_callI (q := 65) X hNW (TB.get tb_X6_init 30 rfl) rfl (Or.inr ⟨RX8, by decide +kernel⟩) ci_1 (okc_1 (n + 7) (n + 8) _ hk1 (by omega)) (Nat.le_of_ble_eq_true rfl) (Nat.le_of_ble_eq_true rfl) (by omega) (by omega) (Nat.le_of_ble_eq_true rfl) (Nat.le_of_ble_eq_true rfl) ?_
  have hk : ((C_X1 (n + 7) (n + 8) (a_new 1 0 (h_sR (C_X1 (n + 5) (n + 6) (a_new 1 0 (h_sR (a_new 10 2048 (h_sR (a_new 10 1000 (h_sR (a_new 13 1000 (h_sR (a_new 10 4 (h_sR (a_new 11 41 h n) o 7 n) (n + 1)) o 8 (n + 1)) (n + 2)) o 10 (n + 2)) (n + 3)) o 11 (n + 3)) (n + 4)) o 12 (n + 4)) (n + 5))) o 13 (n + 5)) (n + 7))).1 o).1 = 6 := by exact C_X1_kd1 (o := (n + 7)) (n := (n + 8)) (by omega) hk
  refine V_nn (n' := (n + 9)) (c' := 9) (s' := 4143) rfl rfl rfl ?_
  refine V_putF (q := 68) X hin (TB.get tb_X6_init 31 rfl) rfl ff_RX6_36 hk ?_
  have hk : ((h_sR (C_X1 (n + 7) (n + 8) (a_new 1 0 (h_sR (C_X1 (n + 5) (n + 6) (a_new 1 0 (h_sR (a_new 10 2048 (h_sR (a_new 10 1000 (h_sR (a_new 13 1000 (h_sR (a_new 10 4 (h_sR (a_new 11 41 h n) o 7 n) (n + 1)) o 8 (n + 1)) (n + 2)) o 10 (n + 2)) (n + 3)) o 11 (n + 3)) (n + 4)) o 12 (n + 4)) (n + 5))) o 13 (n + 5)) (n + 7))) o 14 (n + 7)).1 o).1 = 6 := hk
  exact V_vretA X hr hlk (TB.get tb_X6_init 32 rfl)
-- Flow: 6 objects ahead of the loop, 189 slots
def C_X0a (o n : Nat) (h : Hp) : Hp := (h_sR (C_X1 (n + 4) (n + 5) (a_new 1 0 (h_sR (a_new 11 41 (h_sR (a_new 10 41 (h_sR (a_new 11 41 (h_sR (a_new 14 41 h n) o 0 n) (n + 1)) o 1 (n + 1)) (n + 2)) o 2 (n + 2)) (n + 3)) o 6 (n + 3)) (n + 4))) o 7 (n + 4))
theorem C_X0a_kind {o n i : Nat} {h : Hp} (hi : i < n) : (C_X0a o n h).1 i = h.1 i := (C_X1_kd (o := (n + 4)) (n := (n + 5)) (by omega) (a_kd (by omega) (a_kd (by omega) (a_kd (by omega) (a_kd (by omega) (a_kd (by omega) rfl))))))
theorem C_X0a_kd {o n i : Nat} {h : Hp} {x : Nat × Nat} (hi : i < n) (e : h.1 i = x) : (C_X0a o n h).1 i = x := (C_X0a_kind hi).trans e
theorem C_X0a_kd1 {o n i : Nat} {h : Hp} {x : Nat} (hi : i < n) (e : (h.1 i).1 = x) : ((C_X0a o n h).1 i).1 = x := by rw [C_X0a_kind hi]; exact e
/-- the first i Holds of a Flow: object n + 2 i, its bits n + 2 i + 1, into the array a -/
def C_X0b (a n : Nat) (h : Hp) : Nat → Hp
  | 0 => h
  | i + 1 => h_sR (C_X1 (n + 2 * i) (n + 2 * i + 1) (a_new 1 0 (C_X0b a n h i) (n + 2 * i))) a i (n + 2 * i)
def C_X0 (o n : Nat) (h : Hp) : Hp := C_X0b n (n + 6) (C_X0a o n h) 41
theorem C_X0b_kind {a n i : Nat} {h : Hp} (hi : i < n) : ∀ j, (C_X0b a n h j).1 i = h.1 i := by
  intro j
  induction j with
  | zero => rfl
  | succ j ih =>
    unfold C_X0b
    simp only [h_sR]
    rw [C_X1_kind (by omega), (a_new_ne (by omega)).1, ih]
theorem C_X0_kind {o n i : Nat} {h : Hp} (hi : i < n) : (C_X0 o n h).1 i = h.1 i := by
  unfold C_X0
  rw [C_X0b_kind (by omega), C_X0a_kind hi]
theorem C_X0_kd {o n i : Nat} {h : Hp} {x : Nat × Nat} (hi : i < n) (e : h.1 i = x) : (C_X0 o n h).1 i = x := (C_X0_kind hi).trans e
theorem C_X0_kd1 {o n i : Nat} {h : Hp} {x : Nat} (hi : i < n) (e : (h.1 i).1 = x) : ((C_X0 o n h).1 i).1 = x := by rw [C_X0_kind hi]; exact e
theorem C_X1_R {o n i : Nat} {h : Hp} (hi : i < n) (hio : i ≠ o) : (C_X1 o n h).2.2.2 i = h.2.2.2 i := by
  unfold C_X1
  simp [h_sR, u2, hio, a_new, Nat.ne_of_lt hi]
theorem C_X0b_R {a n i : Nat} {h : Hp} (hi : i < n) (hia : i ≠ a) : ∀ j, (C_X0b a n h j).2.2.2 i = h.2.2.2 i := by
  intro j
  induction j with
  | zero => rfl
  | succ j ih =>
    unfold C_X0b
    simp only [h_sR, u2, hia, if_false]
    rw [C_X1_R (by omega) (by omega), (a_new_ne (by omega)).2.2.2, ih]
theorem C_X0a_holds {o n : Nat} {h : Hp} (ho : o < n) : (C_X0a o n h).2.2.2 o 0 = some n ∧ (C_X0a o n h).1 n = (14, 41) := by
  refine ⟨?_, ?_⟩
  · unfold C_X0a
    simp [h_sR, u2, a_new, C_X1, Nat.ne_of_lt ho, show ¬ o = n + 1 by omega, show ¬ o = n + 2 by omega, show ¬ o = n + 3 by omega, show ¬ o = n + 4 by omega, show ¬ o = n + 5 by omega]
  · unfold C_X0a
    simp [h_sR, u2, a_new, C_X1]
set_option maxRecDepth 100000 in
set_option maxHeartbeats 4000000 in
theorem okc_0 (o n : Nat) (h : Hp) (hk : (h.1 o).1 = 0) (ho : o < n) : CKA yX0_init cX0_init 2 2 88 1214 [.ref o] n h (C_X0 o n h) := by
  refine CKA_of pn_RX0 (gt2 72 rfl rfl) (Nat.le_of_ble_eq_true rfl) rfl ?_
  intro l D tc B p en s m args below meth c X hr hlk hin hs hNW
  replace X : CX p (rmA 2 88 1214) s m args c cX0_init 2 RX0 D tc 2 := X
  show V p l en (rmA 2 88 1214) s m args below meth c 2 D tc B n (AB B) s.heap 0 0 (MQ below (QCA D tc B (n + 88) (C_X0 o n h)) args s 88 1214 (AB B)) h 0 [(0, .ref o)] []
  refine V_aload_n (q := 1) X (TB.get tb_X0_init 0 rfl) rfl rfl rfl ?_
  refine V_objInit (q := 4) X (TB.get tb_X0_init 1 rfl) rfl oi_RX0 oi_1 oi_2 (Nat.le_of_ble_eq_true rfl) (Nat.le_of_ble_eq_true rfl) ?_
  refine V_aload_n (q := 5) X (TB.get tb_X0_init 2 rfl) rfl rfl rfl ?_
  refine V_bipush (v := 41) (q := 7) X (TB.get tb_X0_init 3 rfl) c_bipush_41 rfl ?_
  refine V_newH (q := 10) 41 X (TB.get tb_X0_init 4 rfl) rfl cl_RX0_9 hNW.2 (by decide) (by decide) (by decide) (by omega) (Nat.le_of_ble_eq_true rfl) (Nat.le_of_ble_eq_true rfl) (by omega) ?_
  have hk : ((a_new 14 41 h n).1 o).1 = 0 := by exact a_kd1 (by omega) hk
  refine V_nn (n' := (n + 1)) (c' := 1) (s' := 41) rfl rfl rfl ?_
  refine V_putF (q := 13) X hin (TB.get tb_X0_init 5 rfl) rfl ff_RX0_11 hk ?_
  have hk : ((h_sR (a_new 14 41 h n) o 0 n).1 o).1 = 0 := hk
  refine V_aload_n (q := 14) X (TB.get tb_X0_init 6 rfl) rfl rfl rfl ?_
  refine V_bipush (v := 41) (q := 16) X (TB.get tb_X0_init 7 rfl) c_bipush_41 rfl ?_
  refine V_newZ (q := 18) 41 X (TB.get tb_X0_init 8 rfl) rfl ay_boolean (by decide) (by decide) (by decide) (by omega) (Nat.le_of_ble_eq_true rfl) (Nat.le_of_ble_eq_true rfl) (by omega) ?_
  have hk : ((a_new 11 41 (h_sR (a_new 14 41 h n) o 0 n) (n + 1)).1 o).1 = 0 := by exact a_kd1 (by omega) hk
  refine V_nn (n' := (n + 2)) (c' := 2) (s' := 82) rfl rfl rfl ?_
  refine V_putF (q := 21) X hin (TB.get tb_X0_init 9 rfl) rfl ff_RX0_17 hk ?_
  have hk : ((h_sR (a_new 11 41 (h_sR (a_new 14 41 h n) o 0 n) (n + 1)) o 1 (n + 1)).1 o).1 = 0 := hk
  refine V_aload_n (q := 22) X (TB.get tb_X0_init 10 rfl) rfl rfl rfl ?_
  refine V_bipush (v := 41) (q := 24) X (TB.get tb_X0_init 11 rfl) c_bipush_41 rfl ?_
  refine V_newI (q := 26) 41 X (TB.get tb_X0_init 12 rfl) rfl ay_int (by decide) (by decide) (by decide) (by omega) (Nat.le_of_ble_eq_true rfl) (Nat.le_of_ble_eq_true rfl) (by omega) ?_
  have hk : ((a_new 10 41 (h_sR (a_new 11 41 (h_sR (a_new 14 41 h n) o 0 n) (n + 1)) o 1 (n + 1)) (n + 2)).1 o).1 = 0 := by exact a_kd1 (by omega) hk
  refine V_nn (n' := (n + 3)) (c' := 3) (s' := 123) rfl rfl rfl ?_
  refine V_putF (q := 29) X hin (TB.get tb_X0_init 13 rfl) rfl ff_RX0_21 hk ?_
  have hk : ((h_sR (a_new 10 41 (h_sR (a_new 11 41 (h_sR (a_new 14 41 h n) o 0 n) (n + 1)) o 1 (n + 1)) (n + 2)) o 2 (n + 2)).1 o).1 = 0 := hk
  refine V_aload_n (q := 30) X (TB.get tb_X0_init 14 rfl) rfl rfl rfl ?_
  refine V_bipush (v := 41) (q := 32) X (TB.get tb_X0_init 15 rfl) c_bipush_41 rfl ?_
  refine V_newZ (q := 34) 41 X (TB.get tb_X0_init 16 rfl) rfl ay_boolean (by decide) (by decide) (by decide) (by omega) (Nat.le_of_ble_eq_true rfl) (Nat.le_of_ble_eq_true rfl) (by omega) ?_
  have hk : ((a_new 11 41 (h_sR (a_new 10 41 (h_sR (a_new 11 41 (h_sR (a_new 14 41 h n) o 0 n) (n + 1)) o 1 (n + 1)) (n + 2)) o 2 (n + 2)) (n + 3)).1 o).1 = 0 := by exact a_kd1 (by omega) hk
  refine V_nn (n' := (n + 4)) (c' := 4) (s' := 164) rfl rfl rfl ?_
  refine V_putF (q := 37) X hin (TB.get tb_X0_init 17 rfl) rfl ff_RX0_25 hk ?_
  have hk : ((h_sR (a_new 11 41 (h_sR (a_new 10 41 (h_sR (a_new 11 41 (h_sR (a_new 14 41 h n) o 0 n) (n + 1)) o 1 (n + 1)) (n + 2)) o 2 (n + 2)) (n + 3)) o 6 (n + 3)).1 o).1 = 0 := hk
  refine V_aload_n (q := 38) X (TB.get tb_X0_init 18 rfl) rfl rfl rfl ?_
  refine V_new (q := 41) X (TB.get tb_X0_init 19 rfl) rfl nc_RX0_9 (by omega) (Nat.le_of_ble_eq_true rfl) (Nat.le_of_ble_eq_true rfl) ?_ (by omega)
  have hk : ((a_new 1 0 (h_sR (a_new 11 41 (h_sR (a_new 10 41 (h_sR (a_new 11 41 (h_sR (a_new 14 41 h n) o 0 n) (n + 1)) o 1 (n + 1)) (n + 2)) o 2 (n + 2)) (n + 3)) o 6 (n + 3)) (n + 4)).1 o).1 = 0 := by exact a_kd1 (by omega) hk
  have hk1 : ((a_new 1 0 (h_sR (a_new 11 41 (h_sR (a_new 10 41 (h_sR (a_new 11 41 (h_sR (a_new 14 41 h n) o 0 n) (n + 1)) o 1 (n + 1)) (n + 2)) o 2 (n + 2)) (n + 3)) o 6 (n + 3)) (n + 4)).1 (n + 4)).1 = 1 := by rw [a_new_eq]
  refine V_nn (n' := (n + 5)) (c' := 5) (s' := 165) rfl rfl rfl ?_
  refine V_dup (q := 42) X (TB.get tb_X0_init 20 rfl) rfl rfl ?_
  refine V_callI (q := 45) X hNW (TB.get tb_X0_init 21 rfl) rfl (Or.inr ⟨RX8, by decide +kernel⟩) ci_1 (okc_1 (n + 4) (n + 5) _ hk1 (by omega)) (Nat.le_of_ble_eq_true rfl) (Nat.le_of_ble_eq_true rfl) (by omega) (by omega) (Nat.le_of_ble_eq_true rfl) (Nat.le_of_ble_eq_true rfl) ?_
  have hk : ((C_X1 (n + 4) (n + 5) (a_new 1 0 (h_sR (a_new 11 41 (h_sR (a_new 10 41 (h_sR (a_new 11 41 (h_sR (a_new 14 41 h n) o 0 n) (n + 1)) o 1 (n + 1)) (n + 2)) o 2 (n + 2)) (n + 3)) o 6 (n + 3)) (n + 4))).1 o).1 = 0 := by exact C_X1_kd1 (o := (n + 4)) (n := (n + 5)) (by omega) hk
  refine V_nn (n' := (n + 6)) (c' := 6) (s' := 189) rfl rfl rfl ?_
  refine V_putF (q := 48) X hin (TB.get tb_X0_init 22 rfl) rfl ff_RX0_29 hk ?_
  have hk : ((h_sR (C_X1 (n + 4) (n + 5) (a_new 1 0 (h_sR (a_new 11 41 (h_sR (a_new 10 41 (h_sR (a_new 11 41 (h_sR (a_new 14 41 h n) o 0 n) (n + 1)) o 1 (n + 1)) (n + 2)) o 2 (n + 2)) (n + 3)) o 6 (n + 3)) (n + 4))) o 7 (n + 4)).1 o).1 = 0 := hk
  change V p l en (rmA 2 88 1214) s m args below meth c 2 D tc B (n + 6) (AB B) s.heap 6 189 (MQ below (QCA D tc B (n + 88) (C_X0 o n h)) args s 88 1214 (AB B)) (C_X0a o n h) 48 [(0, .ref o)] []
  have ka : ((C_X0a o n h).1 o).1 = 0 := hk
  obtain ⟨kb, kc⟩ := C_X0a_holds (h := h) ho
  have loop : ∀ (r i : Nat), r + i = 41 → V p l en (rmA 2 88 1214) s m args below meth c 2 D tc B (n + 6 + 2 * i) (AB B) s.heap (6 + 2 * i) (189 + 25 * i) (MQ below (QCA D tc B (n + 88) (C_X0 o n h)) args s 88 1214 (AB B)) (C_X0b n (n + 6) (C_X0a o n h) i) 50 [(1, .int (nI i)), (0, .ref o)] [] := by
    intro r
    induction r with
    | zero =>
      intro i hi
      have hi : i = 41 := by omega
      subst hi
      refine V_iload_n (q := 51) X (TB.get tb_X0_init 25 rfl) rfl rfl rfl ?_
      refine V_bipush (v := 41) (q := 53) X (TB.get tb_X0_init 26 rfl) c_bipush_41 rfl ?_
      refine V_icmp_ge (q := 56) (t := 75) X (TB.get tb_X0_init 27 rfl) rfl rfl (fun hc => ?_) (fun hc => absurd (by decide) hc)
      refine V_nn (n' := n + 88) (c' := 88) (s' := 1214) (by omega) (by omega) (by omega) ?_
      exact V_vretA X hr hlk (TB.get tb_X0_init 37 rfl)
    | succ r ih =>
      intro i hi
      have hko : ((C_X0b n (n + 6) (C_X0a o n h) i).1 o).1 = 0 := by rw [C_X0b_kind (by omega)]; exact ka
      have hR0 : h_fR 0 (C_X0b n (n + 6) (C_X0a o n h) i) o 0 = some n := by
        unfold h_fR
        rw [if_pos hko, C_X0b_R (by omega) (by omega), kb]
      have hkn : (C_X0b n (n + 6) (C_X0a o n h) i).1 n = (14, 41) := by rw [C_X0b_kind (by omega)]; exact kc
      generalize hg : C_X0b n (n + 6) (C_X0a o n h) i = hh at hko hR0 hkn ⊢
      refine V_iload_n (q := 51) X (TB.get tb_X0_init 25 rfl) rfl rfl rfl ?_
      refine V_bipush (v := 41) (q := 53) X (TB.get tb_X0_init 26 rfl) c_bipush_41 rfl ?_
      refine V_icmp_ge (q := 56) (t := 75) X (TB.get tb_X0_init 27 rfl) rfl rfl (fun hc => absurd hc (nI_ge (a := i) (b := 41) (by omega) (by decide))) (fun hc => ?_)
      refine V_aload_n (q := 57) X (TB.get tb_X0_init 28 rfl) rfl rfl rfl ?_
      refine V_getR (q := 60) X (TB.get tb_X0_init 29 rfl) rfl lf_RX0_11 hR0 ?_
      refine V_iload_n (q := 61) X (TB.get tb_X0_init 30 rfl) rfl rfl rfl ?_
      refine V_new (q := 64) X (TB.get tb_X0_init 31 rfl) rfl nc_RX0_9 (by omega) (by show _ ≤ 88; omega) (by show _ ≤ 1214; omega) ?_ (by omega)
      refine V_dup (q := 65) X (TB.get tb_X0_init 32 rfl) rfl rfl ?_
      refine V_callI (q := 68) X hNW (TB.get tb_X0_init 33 rfl) rfl (Or.inr ⟨RX8, by decide +kernel⟩) ci_1 (okc_1 (n + 6 + 2 * i) (n + 6 + 2 * i + 1) _ (by rw [a_new_eq]) (by omega)) (Nat.le_of_ble_eq_true rfl) (Nat.le_of_ble_eq_true rfl) (by omega) (by omega) (by show _ ≤ 88; omega) (by show _ ≤ 1214; omega) ?_
      refine V_aastore (i := i) (kx := 0) (ci := 0) (q := 69) X (TB.get tb_X0_init 34 rfl) rfl (by rw [C_X1_kind (by omega), (a_new_ne (by omega)).1, hkn]) ⟨nI_clamp (by omega), by rw [C_X1_kind (by omega), (a_new_ne (by omega)).1, hkn]; exact nI_in (by omega) (by decide)⟩ (by rw [C_X1_kind (by omega), a_new_eq]) ?_
      refine V_iinc (q := 72) (v := nI (i + 1)) (lv' := [(1, .int (nI (i + 1))), (0, .ref o)]) X (TB.get tb_X0_init 35 rfl) rfl rfl (by rw [c_iconst_1, nI_succ]) (Nat.le_of_ble_eq_true rfl) rfl ?_
      refine V_goto (q := 50) X (TB.get tb_X0_init 36 rfl) rfl ?_
      have h9 := ih (i + 1) (by omega)
      rw [C_X0b, hg] at h9
      exact V_nn (by omega) (by omega) (by omega) h9
  refine V_iconst (v := 0) (q := 49) X (TB.get tb_X0_init 23 rfl) c_iconst_0 rfl ?_
  refine V_istore_n (q := 50) (lv' := [(1, .int (0 : Int32)), (0, .ref o)]) X (TB.get tb_X0_init 24 rfl) rfl rfl (Nat.le_of_ble_eq_true rfl) rfl ?_
  exact loop 41 0 rfl
