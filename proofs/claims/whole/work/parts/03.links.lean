theorem tab_out (x : Int32) (lo hi : Int) (vs : List Int32) (h : vs.map Int32.toInt = (List.range vs.length).map (fun (k : Nat) => lo + (k : Int)) ∧ lo + vs.length = hi + 1) (hv : ∀ v ∈ vs, ¬ x = v) : x.toInt < lo ∨ hi < x.toInt := by
  rcases Int.lt_or_le x.toInt lo with h1 | h1
  · exact Or.inl h1
  rcases Int.lt_or_le hi x.toInt with h2 | h2
  · exact Or.inr h2
  exfalso
  have hk : (x.toInt - lo).toNat < vs.length := by omega
  have e : (vs.map Int32.toInt)[(x.toInt - lo).toNat]? = some x.toInt := by
    rw [h.1, List.getElem?_map, List.getElem?_range hk]
    simp
    omega
  rw [List.getElem?_map] at e
  obtain ⟨v, e1, e2⟩ := Option.map_eq_some_iff.mp e
  exact hv v (List.mem_of_getElem? e1) (Int32.toInt_inj.mp e2).symm
theorem look_out (x : Int32) (ps : List (Int × Int)) (dflt : Int) (h : ∀ q ∈ ps, ¬ q.1 = x.toInt) : Op.lookupswitch.offset ps dflt x.toInt = dflt := by
  induction ps with
  | nil => rfl
  | cons q ps ih =>
    obtain ⟨a, o⟩ := q
    rw [Op.lookupswitch.offset_cons, if_neg (h (a, o) List.mem_cons_self)]
    exact ih (fun q hq => h q (List.mem_cons_of_mem _ hq))
theorem c_bipush_m9 : (Int8.ofInt (-9)).toInt32 = (-9) := by decide
theorem c_bipush_m2 : (Int8.ofInt (-2)).toInt32 = (-2) := by decide
theorem c_bipush_6 : (Int8.ofInt (6)).toInt32 = (6) := by decide
theorem c_bipush_7 : (Int8.ofInt (7)).toInt32 = (7) := by decide
theorem c_bipush_8 : (Int8.ofInt (8)).toInt32 = (8) := by decide
theorem c_bipush_9 : (Int8.ofInt (9)).toInt32 = (9) := by decide
theorem c_bipush_10 : (Int8.ofInt (10)).toInt32 = (10) := by decide
theorem c_bipush_11 : (Int8.ofInt (11)).toInt32 = (11) := by decide
theorem c_bipush_12 : (Int8.ofInt (12)).toInt32 = (12) := by decide
theorem c_bipush_14 : (Int8.ofInt (14)).toInt32 = (14) := by decide
theorem c_bipush_15 : (Int8.ofInt (15)).toInt32 = (15) := by decide
theorem c_bipush_16 : (Int8.ofInt (16)).toInt32 = (16) := by decide
theorem c_bipush_17 : (Int8.ofInt (17)).toInt32 = (17) := by decide
theorem c_bipush_18 : (Int8.ofInt (18)).toInt32 = (18) := by decide
theorem c_bipush_19 : (Int8.ofInt (19)).toInt32 = (19) := by decide
theorem c_bipush_20 : (Int8.ofInt (20)).toInt32 = (20) := by decide
theorem c_bipush_21 : (Int8.ofInt (21)).toInt32 = (21) := by decide
theorem c_bipush_22 : (Int8.ofInt (22)).toInt32 = (22) := by decide
theorem c_bipush_23 : (Int8.ofInt (23)).toInt32 = (23) := by decide
theorem c_bipush_24 : (Int8.ofInt (24)).toInt32 = (24) := by decide
theorem c_bipush_28 : (Int8.ofInt (28)).toInt32 = (28) := by decide
theorem c_bipush_32 : (Int8.ofInt (32)).toInt32 = (32) := by decide
theorem c_bipush_36 : (Int8.ofInt (36)).toInt32 = (36) := by decide
theorem c_bipush_39 : (Int8.ofInt (39)).toInt32 = (39) := by decide
theorem c_bipush_40 : (Int8.ofInt (40)).toInt32 = (40) := by decide
theorem c_bipush_41 : (Int8.ofInt (41)).toInt32 = (41) := by decide
theorem c_bipush_48 : (Int8.ofInt (48)).toInt32 = (48) := by decide
theorem c_bipush_50 : (Int8.ofInt (50)).toInt32 = (50) := by decide
theorem c_bipush_52 : (Int8.ofInt (52)).toInt32 = (52) := by decide
theorem c_bipush_53 : (Int8.ofInt (53)).toInt32 = (53) := by decide
theorem c_bipush_59 : (Int8.ofInt (59)).toInt32 = (59) := by decide
theorem c_bipush_63 : (Int8.ofInt (63)).toInt32 = (63) := by decide
theorem c_bipush_74 : (Int8.ofInt (74)).toInt32 = (74) := by decide
theorem c_bipush_75 : (Int8.ofInt (75)).toInt32 = (75) := by decide
theorem c_bipush_97 : (Int8.ofInt (97)).toInt32 = (97) := by decide
theorem c_bipush_98 : (Int8.ofInt (98)).toInt32 = (98) := by decide
theorem c_bipush_99 : (Int8.ofInt (99)).toInt32 = (99) := by decide
theorem c_bipush_100 : (Int8.ofInt (100)).toInt32 = (100) := by decide
theorem c_bipush_101 : (Int8.ofInt (101)).toInt32 = (101) := by decide
theorem c_bipush_102 : (Int8.ofInt (102)).toInt32 = (102) := by decide
theorem c_bipush_104 : (Int8.ofInt (104)).toInt32 = (104) := by decide
theorem c_bipush_105 : (Int8.ofInt (105)).toInt32 = (105) := by decide
theorem c_bipush_106 : (Int8.ofInt (106)).toInt32 = (106) := by decide
theorem c_bipush_107 : (Int8.ofInt (107)).toInt32 = (107) := by decide
theorem c_bipush_108 : (Int8.ofInt (108)).toInt32 = (108) := by decide
theorem c_bipush_109 : (Int8.ofInt (109)).toInt32 = (109) := by decide
theorem c_bipush_110 : (Int8.ofInt (110)).toInt32 = (110) := by decide
theorem c_bipush_111 : (Int8.ofInt (111)).toInt32 = (111) := by decide
theorem c_bipush_112 : (Int8.ofInt (112)).toInt32 = (112) := by decide
theorem c_bipush_114 : (Int8.ofInt (114)).toInt32 = (114) := by decide
theorem c_bipush_115 : (Int8.ofInt (115)).toInt32 = (115) := by decide
theorem c_bipush_116 : (Int8.ofInt (116)).toInt32 = (116) := by decide
theorem c_bipush_118 : (Int8.ofInt (118)).toInt32 = (118) := by decide
theorem c_bipush_119 : (Int8.ofInt (119)).toInt32 = (119) := by decide
theorem c_bipush_121 : (Int8.ofInt (121)).toInt32 = (121) := by decide
theorem c_bipush_122 : (Int8.ofInt (122)).toInt32 = (122) := by decide
theorem c_bipush_123 : (Int8.ofInt (123)).toInt32 = (123) := by decide
theorem c_bipush_125 : (Int8.ofInt (125)).toInt32 = (125) := by decide
theorem c_iconst_m8 : Int32.ofInt (-8) = (-8) := by decide
theorem c_iconst_m1 : Int32.ofInt (-1) = (-1) := by decide
theorem c_iconst_0 : Int32.ofInt (0) = (0) := by decide
theorem c_iconst_1 : Int32.ofInt (1) = (1) := by decide
theorem c_iconst_2 : Int32.ofInt (2) = (2) := by decide
theorem c_iconst_3 : Int32.ofInt (3) = (3) := by decide
theorem c_iconst_4 : Int32.ofInt (4) = (4) := by decide
theorem c_iconst_5 : Int32.ofInt (5) = (5) := by decide
theorem c_iconst_8 : Int32.ofInt (8) = (8) := by decide
theorem c_iconst_16 : Int32.ofInt (16) = (16) := by decide
theorem c_lconst_0 : Int64.ofNat (((0 : Fin 2)) : Nat) = (0) := by decide
theorem c_lconst_1 : Int64.ofNat (((1 : Fin 2)) : Nat) = (1) := by decide
theorem c_sipush_183 : (Int16.ofInt (183)).toInt32 = (183) := by decide
theorem c_sipush_224 : (Int16.ofInt (224)).toInt32 = (224) := by decide
theorem c_sipush_255 : (Int16.ofInt (255)).toInt32 = (255) := by decide
theorem c_sipush_256 : (Int16.ofInt (256)).toInt32 = (256) := by decide
theorem c_sipush_300 : (Int16.ofInt (300)).toInt32 = (300) := by decide
theorem c_sipush_327 : (Int16.ofInt (327)).toInt32 = (327) := by decide
theorem c_sipush_333 : (Int16.ofInt (333)).toInt32 = (333) := by decide
theorem c_sipush_373 : (Int16.ofInt (373)).toInt32 = (373) := by decide
theorem c_sipush_413 : (Int16.ofInt (413)).toInt32 = (413) := by decide
theorem c_sipush_453 : (Int16.ofInt (453)).toInt32 = (453) := by decide
theorem c_sipush_493 : (Int16.ofInt (493)).toInt32 = (493) := by decide
theorem c_sipush_533 : (Int16.ofInt (533)).toInt32 = (533) := by decide
theorem c_sipush_573 : (Int16.ofInt (573)).toInt32 = (573) := by decide
theorem c_sipush_880 : (Int16.ofInt (880)).toInt32 = (880) := by decide
theorem c_sipush_900 : (Int16.ofInt (900)).toInt32 = (900) := by decide
theorem c_sipush_1000 : (Int16.ofInt (1000)).toInt32 = (1000) := by decide
theorem c_sipush_2048 : (Int16.ofInt (2048)).toInt32 = (2048) := by decide
theorem c_sipush_10000 : (Int16.ofInt (10000)).toInt32 = (10000) := by decide
theorem pn_RJ6 : plainName RJ6 = true := by decide +kernel
theorem pn_RJ7 : plainName RJ7 = true := by decide +kernel
theorem pn_RX0 : plainName RX0 = true := by decide +kernel
theorem pn_RX1 : plainName RX1 = true := by decide +kernel
theorem pn_RX2 : plainName RX2 = true := by decide +kernel
theorem pn_RX3 : plainName RX3 = true := by decide +kernel
theorem pn_RX4 : plainName RX4 = true := by decide +kernel
theorem pn_RX5 : plainName RX5 = true := by decide +kernel
theorem pn_RX6 : plainName RX6 = true := by decide +kernel
theorem pn_RX7 : plainName RX7 = true := by decide +kernel
theorem pn_RX8 : plainName RX8 = true := by decide +kernel
theorem pn_RX9 : plainName RX9 = true := by decide +kernel
theorem cw_0 : ∀ w ∈ u_ws RX0 TX0 8, w ∈ GT := gt_list _ [339, 341, 343, 345, 347, 349, 351, 353] (by decide +kernel) (by decide +kernel)
theorem cw_1 : ∀ w ∈ u_ws RX1 TX1 1, w ∈ GT := gt_list _ [322] (by decide +kernel) (by decide +kernel)
theorem cw_2 : ∀ w ∈ u_ws RX2 TX2 12, w ∈ GT := gt_list _ [154, 156, 158, 160, 162, 164, 166, 168, 170, 172, 174, 176] (by decide +kernel) (by decide +kernel)
theorem cw_3 : ∀ w ∈ u_ws RX3 TX3 11, w ∈ GT := gt_list _ [284, 286, 288, 290, 292, 294, 296, 298, 300, 302, 304] (by decide +kernel) (by decide +kernel)
theorem cw_4 : ∀ w ∈ u_ws RX4 TX4 15, w ∈ GT := gt_list _ [239, 241, 243, 245, 247, 249, 251, 253, 255, 257, 259, 261, 263, 265, 267] (by decide +kernel) (by decide +kernel)
theorem cw_5 : ∀ w ∈ u_ws RX5 TX5 6, w ∈ GT := gt_list _ [437, 439, 441, 443, 445, 447] (by decide +kernel) (by decide +kernel)
theorem cw_6 : ∀ w ∈ u_ws RX6 TX6 15, w ∈ GT := gt_list _ [388, 390, 392, 394, 396, 398, 400, 402, 404, 406, 408, 410, 412, 414, 416] (by decide +kernel) (by decide +kernel)
theorem cw_7 : ∀ w ∈ u_ws RX7 TX7 8, w ∈ GT := gt_list _ [101, 103, 105, 107, 109, 111, 113, 115] (by decide +kernel) (by decide +kernel)
theorem cw_8 : ∀ w ∈ u_ws RX8 TX8 12, w ∈ GT := gt_list _ [467, 469, 471, 473, 475, 477, 479, 481, 483, 485, 487, 489] (by decide +kernel) (by decide +kernel)
theorem cw_9 : ∀ w ∈ u_ws RX9 TX9 50, w ∈ GT := gt_list _ [1133, 1135, 1137, 1139, 1141, 1143, 1145, 1147, 1149, 1151, 1153, 1155, 1157, 1159, 1161, 1163, 1165, 1167, 1169, 1171, 1173, 1175, 1177, 1179, 1181, 1183, 1185, 1187, 1189, 1191, 1193, 1195, 1197, 1199, 1201, 1203, 1205, 1207, 1209, 1211, 1213, 1215, 1217, 1219, 1221, 1223, 1225, 1227, 1229, 1231] (by decide +kernel) (by decide +kernel)
theorem cm_X9_isSign : Cond.code yX9_isSign cX9_isSign 2 (some .boolean) ∈ GT := (gt6 112 rfl rfl)
theorem cm_X9_bad : Cond.code yX9_bad cX9_bad 2 (some .boolean) ∈ GT := (gt6 96 rfl rfl)
theorem cm_X9_byteAt : Cond.code yX9_byteAt cX9_byteAt 2 (some .int) ∈ GT := (gt6 64 rfl rfl)
theorem cm_X9_isLetter : Cond.code yX9_isLetter cX9_isLetter 1 (some .boolean) ∈ GT := (gt6 67 rfl rfl)
theorem cm_X9_go : Cond.code yX9_go cX9_go 2 none ∈ GT := (gt6 60 rfl rfl)
theorem cm_X9_eats : Cond.code yX9_eats cX9_eats 2 (some .boolean) ∈ GT := (gt6 108 rfl rfl)
theorem cm_X9_spelt : Cond.code yX9_spelt cX9_spelt 7 (some .long) ∈ GT := (gt6 83 rfl rfl)
theorem cm_X9_wordOf : Cond.code yX9_wordOf cX9_wordOf 1 (some .long) ∈ GT := (gt6 80 rfl rfl)
theorem cm_X9_wordHere : Cond.code yX9_wordHere cX9_wordHere 2 (some .int) ∈ GT := (gt6 77 rfl rfl)
theorem cm_X9_isStatement : Cond.code yX9_isStatement cX9_isStatement 2 (some .boolean) ∈ GT := (gt6 150 rfl rfl)
theorem cm_X9_isName : Cond.code yX9_isName cX9_isName 1 (some .boolean) ∈ GT := (gt6 100 rfl rfl)
theorem cm_X9_findIn : Cond.code yX9_findIn cX9_findIn 4 (some .int) ∈ GT := (gt6 104 rfl rfl)
theorem cm_X9_readKnown : Cond.code yX9_readKnown cX9_readKnown 3 (some .boolean) ∈ GT := (gt6 124 rfl rfl)
theorem cm_X9_readVariable : Cond.code yX9_readVariable cX9_readVariable 1 (some .boolean) ∈ GT := (gt6 154 rfl rfl)
theorem cm_X9_isTwo : Cond.code yX9_isTwo cX9_isTwo 1 (some .boolean) ∈ GT := (gt6 157 rfl rfl)
theorem cm_X9_readOther : Cond.code yX9_readOther cX9_readOther 4 (some .boolean) ∈ GT := (gt6 161 rfl rfl)
theorem cm_X9_isAsked : Cond.code yX9_isAsked cX9_isAsked 1 (some .boolean) ∈ GT := (gt6 164 rfl rfl)
theorem cm_X9_methodAt : Cond.code yX9_methodAt cX9_methodAt 2 (some .int) ∈ GT := (gt6 135 rfl rfl)
theorem cm_X9_readMethod : Cond.code yX9_readMethod cX9_readMethod 5 (some .boolean) ∈ GT := (gt6 168 rfl rfl)
theorem cm_X9_hasBlock : Cond.code yX9_hasBlock cX9_hasBlock 1 (some .boolean) ∈ GT := (gt6 171 rfl rfl)
theorem cm_X9_readBlock : Cond.code yX9_readBlock cX9_readBlock 4 (some .boolean) ∈ GT := (gt6 175 rfl rfl)
theorem cm_X9_readStatement : Cond.code yX9_readStatement cX9_readStatement 6 (some .boolean) ∈ GT := (gt6 146 rfl rfl)
theorem cm_X0_firstReason : Cond.code yX0_firstReason cX0_firstReason 1 (some .int) ∈ GT := (gt4 201 rfl rfl)
theorem cm_J7_fill_53178 : Cond.code yJ7_fill_53178 cJ7_fill_53178 4 none ∈ GT := (gt2 214 rfl rfl)
theorem cm_X1_begin : Cond.code yX1_begin cX1_begin 2 none ∈ GT := (gt4 103 rfl rfl)
theorem cm_X1_copyFrom : Cond.code yX1_copyFrom cX1_copyFrom 2 none ∈ GT := (gt4 112 rfl rfl)
theorem cm_X1_meet : Cond.code yX1_meet cX1_meet 5 (some .boolean) ∈ GT := (gt4 119 rfl rfl)
theorem cm_X0_arrive : Cond.code yX0_arrive cX0_arrive 2 none ∈ GT := (gt4 108 rfl rfl)
theorem cm_X1_letGo : Cond.code yX1_letGo cX1_letGo 3 none ∈ GT := (gt4 131 rfl rfl)
theorem cm_X1_becomeLike : Cond.code yX1_becomeLike cX1_becomeLike 4 none ∈ GT := (gt4 135 rfl rfl)
theorem cm_X1_makeOne : Cond.code yX1_makeOne cX1_makeOne 3 none ∈ GT := (gt4 139 rfl rfl)
theorem cm_X1_lookForWhole : Cond.code yX1_lookForWhole cX1_lookForWhole 1 (some .int) ∈ GT := (gt4 142 rfl rfl)
theorem cm_X1_isAlone : Cond.code yX1_isAlone cX1_isAlone 2 (some .boolean) ∈ GT := (gt4 150 rfl rfl)
theorem cm_X1_passJoin : Cond.code yX1_passJoin cX1_passJoin 3 none ∈ GT := (gt4 146 rfl rfl)
theorem cm_X2_image : Cond.code yX2_image cX2_image 10 (some .int) ∈ GT := (gt3 211 rfl rfl)
theorem cm_X1_ask : Cond.code yX1_ask cX1_ask 9 (some .boolean) ∈ GT := (gt4 154 rfl rfl)
theorem cm_X1_pass : Cond.code yX1_pass cX1_pass 6 (some .boolean) ∈ GT := (gt4 127 rfl rfl)
theorem cm_X0_goOn : Cond.code yX0_goOn cX0_goOn 4 none ∈ GT := (gt4 123 rfl rfl)
theorem cm_X1_inNoEnd : Cond.code yX1_inNoEnd cX1_inNoEnd 3 (some .boolean) ∈ GT := (gt4 171 rfl rfl)
theorem cm_X1_reasonAtEnd : Cond.code yX1_reasonAtEnd cX1_reasonAtEnd 3 (some .int) ∈ GT := (gt4 167 rfl rfl)
theorem cm_X1_mayHold : Cond.code yX1_mayHold cX1_mayHold 2 (some .boolean) ∈ GT := (gt4 175 rfl rfl)
theorem cm_X1_mayLack : Cond.code yX1_mayLack cX1_mayLack 2 (some .boolean) ∈ GT := (gt4 179 rfl rfl)
theorem cm_X1_reasonOfHow : Cond.code yX1_reasonOfHow cX1_reasonOfHow 2 (some .int) ∈ GT := (gt4 183 rfl rfl)
theorem cm_X1_reasonOfJoin : Cond.code yX1_reasonOfJoin cX1_reasonOfJoin 3 (some .int) ∈ GT := (gt4 187 rfl rfl)
theorem cm_X1_reasonOfDrop : Cond.code yX1_reasonOfDrop cX1_reasonOfDrop 3 (some .int) ∈ GT := (gt4 191 rfl rfl)
theorem cm_X2_sortOf : Cond.code yX2_sortOf cX2_sortOf 3 (some .int) ∈ GT := (gt3 103 rfl rfl)
theorem cm_X2_statesOf : Cond.code yX2_statesOf cX2_statesOf 3 (some .int) ∈ GT := (gt4 2 rfl rfl)
theorem cm_X1_reasonOfAsking : Cond.code yX1_reasonOfAsking cX1_reasonOfAsking 5 (some .int) ∈ GT := (gt4 195 rfl rfl)
theorem cm_X1_reasonAt : Cond.code yX1_reasonAt cX1_reasonAt 5 (some .int) ∈ GT := (gt4 163 rfl rfl)
theorem cm_X0_judge : Cond.code yX0_judge cX0_judge 4 none ∈ GT := (gt4 159 rfl rfl)
theorem cm_X0_solve : Cond.code yX0_solve cX0_solve 6 none ∈ GT := (gt4 98 rfl rfl)
theorem cm_X1_part : Cond.code yX1_part cX1_part 3 (some .int) ∈ GT := (gt4 213 rfl rfl)
theorem cm_X1_states : Cond.code yX1_states cX1_states 2 (some .int) ∈ GT := (gt5 53 rfl rfl)
theorem cm_X1_things : Cond.code yX1_things cX1_things 5 (some .int) ∈ GT := (gt5 42 rfl rfl)
theorem cm_J6_numberOfTrailingZeros_0f7a4 : Cond.code yJ6_numberOfTrailingZeros_0f7a4 cJ6_numberOfTrailingZeros_0f7a4 2 (some .int) ∈ GT := (gt5 13 rfl rfl)
theorem cm_X1_lowestBit : Cond.code yX1_lowestBit cX1_lowestBit 1 (some .int) ∈ GT := (gt5 10 rfl rfl)
theorem cm_X1_key : Cond.code yX1_key cX1_key 8 (some .long) ∈ GT := (gt5 7 rfl rfl)
theorem cm_X1_placeOf : Cond.code yX1_placeOf cX1_placeOf 2 (some .int) ∈ GT := (gt5 26 rfl rfl)
theorem cm_X1_keyPart : Cond.code yX1_keyPart cX1_keyPart 3 (some .int) ∈ GT := (gt5 34 rfl rfl)
theorem cm_X1_setFrom : Cond.code yX1_setFrom cX1_setFrom 6 none ∈ GT := (gt5 30 rfl rfl)
theorem cm_X2_hasKind : Cond.code yX2_hasKind cX2_hasKind 2 (some .boolean) ∈ GT := (gt3 199 rfl rfl)
theorem cm_X2_hasState : Cond.code yX2_hasState cX2_hasState 3 (some .boolean) ∈ GT := (gt4 10 rfl rfl)
theorem cm_X2_hasMethod : Cond.code yX2_hasMethod cX2_hasMethod 3 (some .boolean) ∈ GT := (gt3 236 rfl rfl)
theorem cm_X2_addKind : Cond.code yX2_addKind cX2_addKind 2 (some .int) ∈ GT := (gt3 123 rfl rfl)
theorem cm_X2_addMethod : Cond.code yX2_addMethod cX2_addMethod 4 (some .int) ∈ GT := (gt3 139 rfl rfl)
theorem cm_X2_canBe : Cond.code yX2_canBe cX2_canBe 4 (some .boolean) ∈ GT := (gt3 147 rfl rfl)
theorem cm_X2_following : Cond.code yX2_following cX2_following 6 (some .int) ∈ GT := (gt3 228 rfl rfl)
theorem cm_X2_allow : Cond.code yX2_allow cX2_allow 7 none ∈ GT := (gt3 151 rfl rfl)
theorem cm_X2_change : Cond.code yX2_change cX2_change 9 none ∈ GT := (gt4 19 rfl rfl)
theorem cm_X2_reachable : Cond.code yX2_reachable cX2_reachable 5 (some .int) ∈ GT := (gt3 207 rfl rfl)
theorem cm_X2_methodTo : Cond.code yX2_methodTo cX2_methodTo 5 (some .int) ∈ GT := (gt3 223 rfl rfl)
theorem cm_X2_measureSteps : Cond.code yX2_measureSteps cX2_measureSteps 4 none ∈ GT := (gt3 219 rfl rfl)
theorem cm_X2_hopeless : Cond.code yX2_hopeless cX2_hopeless 4 (some .int) ∈ GT := (gt3 215 rfl rfl)
theorem cm_X2_stepsToEnd : Cond.code yX2_stepsToEnd cX2_stepsToEnd 3 (some .int) ∈ GT := (gt4 29 rfl rfl)
theorem cm_X2_comeUnlike : Cond.code yX2_comeUnlike cX2_comeUnlike 6 (some .boolean) ∈ GT := (gt4 54 rfl rfl)
theorem cm_X2_differ : Cond.code yX2_differ cX2_differ 5 (some .boolean) ∈ GT := (gt4 50 rfl rfl)
theorem cm_X2_partUnlike : Cond.code yX2_partUnlike cX2_partUnlike 5 (some .boolean) ∈ GT := (gt4 46 rfl rfl)
theorem cm_X2_areAlike : Cond.code yX2_areAlike cX2_areAlike 6 (some .boolean) ∈ GT := (gt4 42 rfl rfl)
theorem cm_J7_fill_d0a16 : Cond.code yJ7_fill_d0a16 cJ7_fill_d0a16 5 none ∈ GT := (gt4 65 rfl rfl)
theorem cm_X2_lengthenWays : Cond.code yX2_lengthenWays cX2_lengthenWays 4 none ∈ GT := (gt4 69 rfl rfl)
theorem cm_X2_countRows : Cond.code yX2_countRows cX2_countRows 7 (some .int) ∈ GT := (gt4 62 rfl rfl)
theorem cm_X3_handOver : Cond.code yX3_handOver cX3_handOver 3 (some (.object "HoldChecker$Program")) ∈ GT := (gt3 175 rfl rfl)
theorem cm_X4_empty : Cond.code yX4_empty cX4_empty 1 none ∈ GT := (gt3 43 rfl rfl)
theorem cm_X7_takeWord : Cond.code yX7_takeWord cX7_takeWord 2 none ∈ GT := (gt3 55 rfl rfl)
theorem cm_X7_signSort : Cond.code yX7_signSort cX7_signSort 1 (some .int) ∈ GT := (gt3 58 rfl rfl)
theorem cm_X7_advance : Cond.code yX7_advance cX7_advance 1 none ∈ GT := (gt3 51 rfl rfl)
theorem cm_X7_open : Cond.code yX7_open cX7_open 2 none ∈ GT := (gt3 47 rfl rfl)
theorem cm_X3_atTheEnd : Cond.code yX3_atTheEnd cX3_atTheEnd 1 (some .boolean) ∈ GT := (gt3 62 rfl rfl)
theorem cm_X3_fail : Cond.code yX3_fail cX3_fail 2 (some .boolean) ∈ GT := (gt3 74 rfl rfl)
theorem cm_X4_addStatement : Cond.code yX4_addStatement cX4_addStatement 5 (some .int) ∈ GT := (gt3 78 rfl rfl)
theorem cm_X3_find : Cond.code yX3_find cX3_find 5 (some .int) ∈ GT := (gt3 91 rfl rfl)
theorem cm_X3_known : Cond.code yX3_known cX3_known 5 (some .int) ∈ GT := (gt3 87 rfl rfl)
theorem cm_X3_readFirst : Cond.code yX3_readFirst cX3_readFirst 3 (some .boolean) ∈ GT := (gt3 83 rfl rfl)
theorem cm_X3_readSecond : Cond.code yX3_readSecond cX3_readSecond 4 (some .boolean) ∈ GT := (gt3 95 rfl rfl)
theorem cm_X3_readAsked : Cond.code yX3_readAsked cX3_readAsked 5 (some .boolean) ∈ GT := (gt3 99 rfl rfl)
theorem cm_X3_takeSign : Cond.code yX3_takeSign cX3_takeSign 2 (some .boolean) ∈ GT := (gt3 107 rfl rfl)
theorem cm_X3_readStatement : Cond.code yX3_readStatement cX3_readStatement 3 (some .boolean) ∈ GT := (gt3 70 rfl rfl)
theorem cm_X3_closeBlock : Cond.code yX3_closeBlock cX3_closeBlock 4 (some .boolean) ∈ GT := (gt3 111 rfl rfl)
theorem cm_X3_isNewName : Cond.code yX3_isNewName cX3_isNewName 4 (some .boolean) ∈ GT := (gt3 119 rfl rfl)
theorem cm_X3_readKind : Cond.code yX3_readKind cX3_readKind 4 (some .boolean) ∈ GT := (gt3 115 rfl rfl)
theorem cm_X3_readEnd : Cond.code yX3_readEnd cX3_readEnd 4 (some .boolean) ∈ GT := (gt3 127 rfl rfl)
theorem cm_X3_methodToTell : Cond.code yX3_methodToTell cX3_methodToTell 4 (some .int) ∈ GT := (gt3 135 rfl rfl)
theorem cm_X3_readWhatComes : Cond.code yX3_readWhatComes cX3_readWhatComes 10 (some .boolean) ∈ GT := (gt3 143 rfl rfl)
theorem cm_X3_readMethod : Cond.code yX3_readMethod cX3_readMethod 4 (some .boolean) ∈ GT := (gt3 131 rfl rfl)
theorem cm_X3_readVariable : Cond.code yX3_readVariable cX3_readVariable 3 (some .boolean) ∈ GT := (gt3 155 rfl rfl)
theorem cm_X3_readPiece : Cond.code yX3_readPiece cX3_readPiece 2 (some .boolean) ∈ GT := (gt3 66 rfl rfl)
theorem cm_X4_goesRound : Cond.code yX4_goesRound cX4_goesRound 2 (some .boolean) ∈ GT := (gt3 167 rfl rfl)
theorem cm_X4_placeAfter : Cond.code yX4_placeAfter cX4_placeAfter 4 (some .int) ∈ GT := (gt3 163 rfl rfl)
theorem cm_X4_linkBlocks : Cond.code yX4_linkBlocks cX4_linkBlocks 3 none ∈ GT := (gt3 171 rfl rfl)
theorem cm_X4_link : Cond.code yX4_link cX4_link 2 none ∈ GT := (gt3 159 rfl rfl)
theorem cm_X3_parse : Cond.code yX3_parse cX3_parse 4 (some .boolean) ∈ GT := (gt3 39 rfl rfl)
theorem cm_X4_hasVariable : Cond.code yX4_hasVariable cX4_hasVariable 2 (some .boolean) ∈ GT := (gt4 86 rfl rfl)
theorem cm_X4_hasStatement : Cond.code yX4_hasStatement cX4_hasStatement 2 (some .boolean) ∈ GT := (gt4 78 rfl rfl)
theorem cm_X4_hasPlace : Cond.code yX4_hasPlace cX4_hasPlace 2 (some .boolean) ∈ GT := (gt4 209 rfl rfl)
theorem cm_X4_variablesOf : Cond.code yX4_variablesOf cX4_variablesOf 4 (some .int) ∈ GT := (gt3 203 rfl rfl)
theorem cm_X5_drawYes : Cond.code yX5_drawYes cX5_drawYes 1 (some .boolean) ∈ GT := (gt5 109 rfl rfl)
theorem cm_X5_step : Cond.code yX5_step cX5_step 3 (some .boolean) ∈ GT := (gt5 104 rfl rfl)
theorem cm_X5_go : Cond.code yX5_go cX5_go 5 none ∈ GT := (gt5 99 rfl rfl)
theorem cm_X6_forget : Cond.code yX6_forget cX6_forget 2 none ∈ GT := (gt5 1 rfl rfl)
theorem cm_X6_addAt : Cond.code yX6_addAt cX6_addAt 5 none ∈ GT := (gt5 23 rfl rfl)
theorem cm_X6_add : Cond.code yX6_add cX6_add 6 none ∈ GT := (gt5 18 rfl rfl)
theorem cm_X6_noteLeft : Cond.code yX6_noteLeft cX6_noteLeft 4 none ∈ GT := (gt5 49 rfl rfl)
theorem cm_X6_goesOnFrom : Cond.code yX6_goesOnFrom cX6_goesOnFrom 5 (some .boolean) ∈ GT := (gt5 38 rfl rfl)
theorem cm_X6_follow : Cond.code yX6_follow cX6_follow 6 none ∈ GT := (gt5 59 rfl rfl)
theorem cm_X6_lengthTo : Cond.code yX6_lengthTo cX6_lengthTo 4 (some .int) ∈ GT := (gt5 65 rfl rfl)
theorem cm_X6_explore : Cond.code yX6_explore cX6_explore 4 none ∈ GT := (gt4 237 rfl rfl)
theorem cm_X6_placeOnWrongPath : Cond.code yX6_placeOnWrongPath cX6_placeOnWrongPath 4 (some .int) ∈ GT := (gt5 73 rfl rfl)
theorem cm_X6_gather : Cond.code yX6_gather cX6_gather 8 (some .int) ∈ GT := (gt5 81 rfl rfl)
theorem cm_X7_putByte : Cond.code yX7_putByte cX7_putByte 2 none ∈ GT := (gt3 27 rfl rfl)
theorem cm_X7_putInt : Cond.code yX7_putInt cX7_putInt 2 none ∈ GT := (gt3 23 rfl rfl)
theorem cm_X8_status : Cond.code yX8_status cX8_status 1 (some .int) ∈ GT := (gt3 15 rfl rfl)
theorem cm_X8_feed : Cond.code yX8_feed cX8_feed 7 (some .int) ∈ GT := (gt3 19 rfl rfl)
theorem cm_X8_refuse : Cond.code yX8_refuse cX8_refuse 2 (some .int) ∈ GT := (gt3 35 rfl rfl)
theorem cm_X8_forgetAnswers : Cond.code yX8_forgetAnswers cX8_forgetAnswers 1 none ∈ GT := (gt3 179 rfl rfl)
theorem cm_X8_answer : Cond.code yX8_answer cX8_answer 2 (some .int) ∈ GT := (gt3 183 rfl rfl)
theorem cm_X8_load : Cond.code yX8_load cX8_load 3 (some .int) ∈ GT := (gt3 31 rfl rfl)
theorem cm_X8_fault : Cond.code yX8_fault cX8_fault 2 (some .int) ∈ GT := (gt3 187 rfl rfl)
theorem cm_X8_many : Cond.code yX8_many cX8_many 2 (some .int) ∈ GT := (gt3 191 rfl rfl)
theorem cm_X8_kind : Cond.code yX8_kind cX8_kind 4 (some .int) ∈ GT := (gt3 195 rfl rfl)
theorem cm_X8_method : Cond.code yX8_method cX8_method 5 (some .int) ∈ GT := (gt3 232 rfl rfl)
theorem cm_X8_comes : Cond.code yX8_comes cX8_comes 7 (some .int) ∈ GT := (gt4 6 rfl rfl)
theorem cm_X8_tell : Cond.code yX8_tell cX8_tell 8 (some .int) ∈ GT := (gt4 15 rfl rfl)
theorem cm_X8_toEnd : Cond.code yX8_toEnd cX8_toEnd 5 (some .int) ∈ GT := (gt4 25 rfl rfl)
theorem cm_X8_towards : Cond.code yX8_towards cX8_towards 5 (some .int) ∈ GT := (gt4 33 rfl rfl)
theorem cm_X8_alike : Cond.code yX8_alike cX8_alike 5 (some .int) ∈ GT := (gt4 38 rfl rfl)
theorem cm_X8_rows : Cond.code yX8_rows cX8_rows 5 (some .int) ∈ GT := (gt4 58 rfl rfl)
theorem cm_X8_statement : Cond.code yX8_statement cX8_statement 3 (some .int) ∈ GT := (gt4 74 rfl rfl)
theorem cm_X8_variable : Cond.code yX8_variable cX8_variable 2 (some .int) ∈ GT := (gt4 82 rfl rfl)
theorem cm_X8_solvedFlow : Cond.code yX8_solvedFlow cX8_solvedFlow 1 (some (.object "HoldChecker$Flow")) ∈ GT := (gt4 94 rfl rfl)
theorem cm_X8_check : Cond.code yX8_check cX8_check 4 (some .int) ∈ GT := (gt4 90 rfl rfl)
theorem cm_X8_at : Cond.code yX8_at cX8_at 5 (some .int) ∈ GT := (gt4 205 rfl rfl)
theorem cm_X8_triedWithout : Cond.code yX8_triedWithout cX8_triedWithout 2 (some .int) ∈ GT := (gt4 221 rfl rfl)
theorem cm_X8_without : Cond.code yX8_without cX8_without 2 (some .int) ∈ GT := (gt4 217 rfl rfl)
theorem cm_X8_mend : Cond.code yX8_mend cX8_mend 2 (some .int) ∈ GT := (gt4 225 rfl rfl)
theorem cm_X8_finishedSearch : Cond.code yX8_finishedSearch cX8_finishedSearch 1 (some (.object "HoldChecker$Search")) ∈ GT := (gt4 233 rfl rfl)
theorem cm_X8_paths : Cond.code yX8_paths cX8_paths 4 (some .int) ∈ GT := (gt4 229 rfl rfl)
theorem cm_X8_path : Cond.code yX8_path cX8_path 3 (some .int) ∈ GT := (gt5 69 rfl rfl)
theorem cm_X8_truly : Cond.code yX8_truly cX8_truly 5 (some .int) ∈ GT := (gt5 77 rfl rfl)
theorem cm_X8_left : Cond.code yX8_left cX8_left 3 (some .int) ∈ GT := (gt5 86 rfl rfl)
theorem cm_X8_never : Cond.code yX8_never cX8_never 5 (some .int) ∈ GT := (gt5 90 rfl rfl)
theorem cm_X8_run : Cond.code yX8_run cX8_run 3 (some .int) ∈ GT := (gt5 94 rfl rfl)
theorem cm_X8_runs : Cond.code yX8_runs cX8_runs 6 (some .int) ∈ GT := (gt5 115 rfl rfl)
theorem cm_X9_status : Cond.code yX9_status cX9_status 1 (some .int) ∈ GT := (gt6 37 rfl rfl)
theorem cm_X9_refuse : Cond.code yX9_refuse cX9_refuse 2 (some .int) ∈ GT := (gt6 56 rfl rfl)
theorem cm_X9_gives : Cond.code yX9_gives cX9_gives 2 (some .int) ∈ GT := (gt6 179 rfl rfl)
theorem cm_X9_isFrom : Cond.code yX9_isFrom cX9_isFrom 3 (some .boolean) ∈ GT := (gt6 52 rfl rfl)
theorem cm_X9_has : Cond.code yX9_has cX9_has 2 (some .boolean) ∈ GT := (gt6 202 rfl rfl)
theorem cm_X9_come : Cond.code yX9_come cX9_come 3 none ∈ GT := (gt6 45 rfl rfl)
theorem cm_X9_feed : Cond.code yX9_feed cX9_feed 6 (some .int) ∈ GT := (gt6 41 rfl rfl)
theorem cm_X9_readKind : Cond.code yX9_readKind cX9_readKind 1 (some .boolean) ∈ GT := (gt6 120 rfl rfl)
theorem cm_X9_readState : Cond.code yX9_readState cX9_readState 2 (some .boolean) ∈ GT := (gt6 128 rfl rfl)
theorem cm_X9_readKindLine : Cond.code yX9_readKindLine cX9_readKindLine 3 (some .boolean) ∈ GT := (gt6 92 rfl rfl)
theorem cm_X9_readEndLine : Cond.code yX9_readEndLine cX9_readEndLine 2 (some .boolean) ∈ GT := (gt6 116 rfl rfl)
theorem cm_X9_cell : Cond.code yX9_cell cX9_cell 4 (some .int) ∈ GT := (gt6 138 rfl rfl)
theorem cm_X9_readMethodLine : Cond.code yX9_readMethodLine cX9_readMethodLine 8 (some .boolean) ∈ GT := (gt6 132 rfl rfl)
theorem cm_X9_readVarLine : Cond.code yX9_readVarLine cX9_readVarLine 2 (some .boolean) ∈ GT := (gt6 142 rfl rfl)
theorem cm_X9_readLine : Cond.code yX9_readLine cX9_readLine 2 (some .boolean) ∈ GT := (gt6 88 rfl rfl)
theorem cm_X9_readText : Cond.code yX9_readText cX9_readText 1 (some .boolean) ∈ GT := (gt6 73 rfl rfl)
theorem cm_X9_load : Cond.code yX9_load cX9_load 4 (some .int) ∈ GT := (gt6 49 rfl rfl)
theorem cm_X9_fault : Cond.code yX9_fault cX9_fault 2 (some .int) ∈ GT := (gt6 183 rfl rfl)
theorem cm_X9_isKind : Cond.code yX9_isKind cX9_isKind 2 (some .boolean) ∈ GT := (gt6 195 rfl rfl)
theorem cm_X9_isState : Cond.code yX9_isState cX9_isState 3 (some .boolean) ∈ GT := (gt6 234 rfl rfl)
theorem cm_X9_isMethod : Cond.code yX9_isMethod cX9_isMethod 3 (some .boolean) ∈ GT := (gt6 222 rfl rfl)
theorem cm_X9_yes : Cond.code yX9_yes cX9_yes 4 (some .int) ∈ GT := (gt6 210 rfl rfl)
theorem cm_X9_no : Cond.code yX9_no cX9_no 4 (some .int) ∈ GT := (gt6 214 rfl rfl)
theorem cm_X9_canBe : Cond.code yX9_canBe cX9_canBe 4 (some .boolean) ∈ GT := (gt6 206 rfl rfl)
theorem cm_X9_isEnd : Cond.code yX9_isEnd cX9_isEnd 3 (some .boolean) ∈ GT := (gt7 10 rfl rfl)
theorem cm_X9_many : Cond.code yX9_many cX9_many 2 (some .int) ∈ GT := (gt6 187 rfl rfl)
theorem cm_X9_reached : Cond.code yX9_reached cX9_reached 7 (some .int) ∈ GT := (gt6 199 rfl rfl)
theorem cm_X9_kind : Cond.code yX9_kind cX9_kind 6 (some .int) ∈ GT := (gt6 191 rfl rfl)
theorem cm_X9_canSet : Cond.code yX9_canSet cX9_canSet 5 (some .int) ∈ GT := (gt6 226 rfl rfl)
theorem cm_X9_method : Cond.code yX9_method cX9_method 4 (some .int) ∈ GT := (gt6 218 rfl rfl)
theorem cm_X9_comes : Cond.code yX9_comes cX9_comes 6 (some .int) ∈ GT := (gt6 230 rfl rfl)
theorem cm_X9_tell : Cond.code yX9_tell cX9_tell 9 (some .int) ∈ GT := (gt6 238 rfl rfl)
theorem cm_X9_leastOf : Cond.code yX9_leastOf cX9_leastOf 4 (some .int) ∈ GT := (gt7 14 rfl rfl)
theorem cm_X9_laysEnds : Cond.code yX9_laysEnds cX9_laysEnds 5 none ∈ GT := (gt7 6 rfl rfl)
theorem cm_X9_toEnd : Cond.code yX9_toEnd cX9_toEnd 3 (some .int) ∈ GT := (gt7 2 rfl rfl)
theorem cm_X9_towards : Cond.code yX9_towards cX9_towards 4 (some .int) ∈ GT := (gt7 21 rfl rfl)
theorem cm_X9_differ : Cond.code yX9_differ cX9_differ 5 (some .boolean) ∈ GT := (gt7 29 rfl rfl)
theorem cm_X9_alike : Cond.code yX9_alike cX9_alike 7 (some .int) ∈ GT := (gt7 25 rfl rfl)
theorem cm_X9_rows : Cond.code yX9_rows cX9_rows 7 (some .int) ∈ GT := (gt7 33 rfl rfl)
theorem cm_X9_statements : Cond.code yX9_statements cX9_statements 1 (some .int) ∈ GT := (gt7 46 rfl rfl)
theorem cm_X9_isStatementAt : Cond.code yX9_isStatementAt cX9_isStatementAt 2 (some .boolean) ∈ GT := (gt7 42 rfl rfl)
theorem cm_X9_isVariable : Cond.code yX9_isVariable cX9_isVariable 2 (some .boolean) ∈ GT := (gt7 82 rfl rfl)
theorem cm_X9_sortAt : Cond.code yX9_sortAt cX9_sortAt 2 (some .int) ∈ GT := (gt7 54 rfl rfl)
theorem cm_X9_nextIn : Cond.code yX9_nextIn cX9_nextIn 5 (some .int) ∈ GT := (gt7 66 rfl rfl)
theorem cm_X9_isRound : Cond.code yX9_isRound cX9_isRound 2 (some .boolean) ∈ GT := (gt7 70 rfl rfl)
theorem cm_X9_behind : Cond.code yX9_behind cX9_behind 4 (some .int) ∈ GT := (gt7 62 rfl rfl)
theorem cm_X9_firstPlace : Cond.code yX9_firstPlace cX9_firstPlace 2 (some .int) ∈ GT := (gt7 98 rfl rfl)
theorem cm_X9_byYes : Cond.code yX9_byYes cX9_byYes 3 (some .int) ∈ GT := (gt7 58 rfl rfl)
theorem cm_X9_byNo : Cond.code yX9_byNo cX9_byNo 4 (some .int) ∈ GT := (gt7 74 rfl rfl)
theorem cm_X9_allIn : Cond.code yX9_allIn cX9_allIn 2 none ∈ GT := (gt7 50 rfl rfl)
theorem cm_X9_statement : Cond.code yX9_statement cX9_statement 5 (some .int) ∈ GT := (gt7 38 rfl rfl)
theorem cm_X9_variable : Cond.code yX9_variable cX9_variable 2 (some .int) ∈ GT := (gt7 78 rfl rfl)
theorem cm_X9_at : Cond.code yX9_at cX9_at 2 (some .int) ∈ GT := (gt7 105 rfl rfl)
theorem cm_X9_takes : Cond.code yX9_takes cX9_takes 3 none ∈ GT := (gt7 113 rfl rfl)
theorem cm_X9_merges : Cond.code yX9_merges cX9_merges 9 none ∈ GT := (gt7 102 rfl rfl)
theorem cm_X9_frees : Cond.code yX9_frees cX9_frees 3 none ∈ GT := (gt7 125 rfl rfl)
theorem cm_X9_empties : Cond.code yX9_empties cX9_empties 2 none ∈ GT := (gt7 121 rfl rfl)
theorem cm_X9_joins : Cond.code yX9_joins cX9_joins 5 none ∈ GT := (gt7 129 rfl rfl)
theorem cm_X9_goes : Cond.code yX9_goes cX9_goes 4 none ∈ GT := (gt7 117 rfl rfl)
theorem cm_X9_imageOf : Cond.code yX9_imageOf cX9_imageOf 7 (some .int) ∈ GT := (gt7 137 rfl rfl)
theorem cm_X9_asks : Cond.code yX9_asks cX9_asks 8 (some .boolean) ∈ GT := (gt7 133 rfl rfl)
theorem cm_X9_passes : Cond.code yX9_passes cX9_passes 3 none ∈ GT := (gt7 109 rfl rfl)
theorem cm_X9_endsOf : Cond.code yX9_endsOf cX9_endsOf 2 (some .int) ∈ GT := (gt7 145 rfl rfl)
theorem cm_X9_whyAt : Cond.code yX9_whyAt cX9_whyAt 6 (some .int) ∈ GT := (gt7 141 rfl rfl)
theorem cm_X9_checks : Cond.code yX9_checks cX9_checks 3 none ∈ GT := (gt7 94 rfl rfl)
theorem cm_X9_checksAll : Cond.code yX9_checksAll cX9_checksAll 1 none ∈ GT := (gt7 90 rfl rfl)
theorem cm_X9_check : Cond.code yX9_check cX9_check 4 (some .int) ∈ GT := (gt7 86 rfl rfl)
theorem cm_X9_isPlace : Cond.code yX9_isPlace cX9_isPlace 2 (some .boolean) ∈ GT := (gt7 153 rfl rfl)
theorem cm_X9_at_ : Cond.code yX9_at_ cX9_at_ 4 (some .int) ∈ GT := (gt7 149 rfl rfl)
theorem cm_X9_isMended : Cond.code yX9_isMended cX9_isMended 3 (some .boolean) ∈ GT := (gt7 161 rfl rfl)
theorem cm_X9_without : Cond.code yX9_without cX9_without 2 (some .int) ∈ GT := (gt7 157 rfl rfl)
theorem cm_X9_mend : Cond.code yX9_mend cX9_mend 2 (some .int) ∈ GT := (gt7 165 rfl rfl)
theorem cm_X9_isAlone : Cond.code yX9_isAlone cX9_isAlone 3 (some .boolean) ∈ GT := (gt7 218 rfl rfl)
theorem cm_X9_lets : Cond.code yX9_lets cX9_lets 2 none ∈ GT := (gt7 181 rfl rfl)
theorem cm_X9_gets : Cond.code yX9_gets cX9_gets 4 (some .int) ∈ GT := (gt7 214 rfl rfl)
theorem cm_X9_drops : Cond.code yX9_drops cX9_drops 5 (some .int) ∈ GT := (gt7 222 rfl rfl)
theorem cm_X9_does : Cond.code yX9_does cX9_does 11 (some .int) ∈ GT := (gt7 210 rfl rfl)
theorem cm_X9_finishes : Cond.code yX9_finishes cX9_finishes 3 (some .int) ∈ GT := (gt7 206 rfl rfl)
theorem cm_X9_things : Cond.code yX9_things cX9_things 5 (some .int) ∈ GT := (gt7 201 rfl rfl)
theorem cm_X9_empty : Cond.code yX9_empty cX9_empty 2 none ∈ GT := (gt7 177 rfl rfl)
theorem cm_X9_codeOf : Cond.code yX9_codeOf cX9_codeOf 7 (some .long) ∈ GT := (gt7 189 rfl rfl)
theorem cm_X9_lays : Cond.code yX9_lays cX9_lays 6 (some .int) ∈ GT := (gt7 197 rfl rfl)
theorem cm_X9_adds : Cond.code yX9_adds cX9_adds 6 none ∈ GT := (gt7 185 rfl rfl)
theorem cm_X9_explores : Cond.code yX9_explores cX9_explores 5 none ∈ GT := (gt7 193 rfl rfl)
theorem cm_X9_laysPaths : Cond.code yX9_laysPaths cX9_laysPaths 2 none ∈ GT := (gt7 173 rfl rfl)
theorem cm_X9_firstWrong : Cond.code yX9_firstWrong cX9_firstWrong 2 (some .int) ∈ GT := (gt7 226 rfl rfl)
theorem cm_X9_stepsTo : Cond.code yX9_stepsTo cX9_stepsTo 4 (some .int) ∈ GT := (gt7 234 rfl rfl)
theorem cm_X9_placeOf : Cond.code yX9_placeOf cX9_placeOf 2 (some .int) ∈ GT := (gt7 230 rfl rfl)
theorem cm_X9_paths : Cond.code yX9_paths cX9_paths 6 (some .int) ∈ GT := (gt7 169 rfl rfl)
theorem cm_X9_path : Cond.code yX9_path cX9_path 5 (some .int) ∈ GT := (gt7 238 rfl rfl)
theorem cm_X9_onesWith : Cond.code yX9_onesWith cX9_onesWith 4 (some .int) ∈ GT := (gt8 6 rfl rfl)
theorem cm_X9_truly : Cond.code yX9_truly cX9_truly 12 (some .int) ∈ GT := (gt8 2 rfl rfl)
theorem cm_X9_left : Cond.code yX9_left cX9_left 2 (some .int) ∈ GT := (gt8 10 rfl rfl)
theorem cm_X9_never : Cond.code yX9_never cX9_never 6 (some .int) ∈ GT := (gt8 14 rfl rfl)
theorem cm_X9_drawsYes : Cond.code yX9_drawsYes cX9_drawsYes 1 (some .boolean) ∈ GT := (gt8 31 rfl rfl)
theorem cm_X9_asksWrong : Cond.code yX9_asksWrong cX9_asksWrong 3 (some .int) ∈ GT := (gt8 36 rfl rfl)
theorem cm_X9_stands : Cond.code yX9_stands cX9_stands 5 (some .int) ∈ GT := (gt8 27 rfl rfl)
theorem cm_X9_runsBy : Cond.code yX9_runsBy cX9_runsBy 2 none ∈ GT := (gt8 23 rfl rfl)
theorem cm_X9_run : Cond.code yX9_run cX9_run 3 (some .int) ∈ GT := (gt8 18 rfl rfl)
theorem cm_X9_runs : Cond.code yX9_runs cX9_runs 6 (some .int) ∈ GT := (gt8 40 rfl rfl)
theorem ac_1 : Cond.native arraycopyName ∈ GT := (gt4 115 rfl rfl)
theorem ac_2 : Cond.static arraycopyName ∈ GT := (gt4 114 rfl rfl)
theorem ac_3 : Cond.initialized "java/lang/System" ∈ GT := (gt1 17 rfl rfl)
theorem cs_RX0_37 : CS RX0 37 yJ7_fill_53178 cJ7_fill_53178 4 none 2 := ⟨(gt4 99 rfl rfl), (gt2 213 rfl rfl), (gt1 14 rfl rfl), cm_J7_fill_53178, by decide +kernel, by decide⟩
theorem cs_RX1_111 : CS RX1 111 yX1_lookForWhole cX1_lookForWhole 1 (some .int) 1 := ⟨(gt4 140 rfl rfl), (gt4 141 rfl rfl), (gt1 11 rfl rfl), cm_X1_lookForWhole, by decide +kernel, by decide⟩
theorem cs_RX1_125 : CS RX1 125 yX1_lowestBit cX1_lowestBit 1 (some .int) 1 := ⟨(gt5 8 rfl rfl), (gt5 9 rfl rfl), (gt1 11 rfl rfl), cm_X1_lowestBit, by decide +kernel, by decide⟩
theorem cs_RX1_131 : CS RX1 131 yX1_keyPart cX1_keyPart 3 (some .int) 2 := ⟨(gt5 32 rfl rfl), (gt5 33 rfl rfl), (gt1 11 rfl rfl), cm_X1_keyPart, by decide +kernel, by decide⟩
theorem cs_RX1_135 : CS RX1 135 yJ6_numberOfTrailingZeros_0f7a4 cJ6_numberOfTrailingZeros_0f7a4 2 (some .int) 1 := ⟨(gt5 11 rfl rfl), (gt5 12 rfl rfl), (gt1 18 rfl rfl), cm_J6_numberOfTrailingZeros_0f7a4, by decide +kernel, by decide⟩
theorem cs_RX1_15 : CS RX1 15 yJ7_fill_53178 cJ7_fill_53178 4 none 2 := ⟨(gt4 104 rfl rfl), (gt2 213 rfl rfl), (gt1 14 rfl rfl), cm_J7_fill_53178, by decide +kernel, by decide⟩
theorem cs_RX2_91 : CS RX2 91 yJ7_fill_d0a16 cJ7_fill_d0a16 5 none 2 := ⟨(gt4 63 rfl rfl), (gt4 64 rfl rfl), (gt1 14 rfl rfl), cm_J7_fill_d0a16, by decide +kernel, by decide⟩
theorem cs_RX6_61 : CS RX6 61 yX1_placeOf cX1_placeOf 2 (some .int) 1 := ⟨(gt5 24 rfl rfl), (gt5 25 rfl rfl), (gt1 11 rfl rfl), cm_X1_placeOf, by decide +kernel, by decide⟩
theorem cs_RX6_99 : CS RX6 99 yJ7_fill_53178 cJ7_fill_53178 4 none 2 := ⟨(gt5 2 rfl rfl), (gt2 213 rfl rfl), (gt1 14 rfl rfl), cm_J7_fill_53178, by decide +kernel, by decide⟩
theorem cs_RX7_59 : CS RX7 59 yX7_signSort cX7_signSort 1 (some .int) 1 := ⟨(gt3 56 rfl rfl), (gt3 57 rfl rfl), (gt1 3 rfl rfl), cm_X7_signSort, by decide +kernel, by decide⟩
theorem cs_RX8_58 : CS RX8 58 yJ7_fill_53178 cJ7_fill_53178 4 none 2 := ⟨(gt2 212 rfl rfl), (gt2 213 rfl rfl), (gt1 14 rfl rfl), cm_J7_fill_53178, by decide +kernel, by decide⟩
theorem cs_RX9_120 : CS RX9 120 yX9_isLetter cX9_isLetter 1 (some .boolean) 1 := ⟨(gt6 65 rfl rfl), (gt6 66 rfl rfl), (gt1 15 rfl rfl), cm_X9_isLetter, by decide +kernel, by decide⟩
theorem cs_RX9_135 : CS RX9 135 yX9_spelt cX9_spelt 7 (some .long) 5 := ⟨(gt6 81 rfl rfl), (gt6 82 rfl rfl), (gt1 15 rfl rfl), cm_X9_spelt, by decide +kernel, by decide⟩
theorem cs_RX9_141 : CS RX9 141 yX9_wordOf cX9_wordOf 1 (some .long) 1 := ⟨(gt6 78 rfl rfl), (gt6 79 rfl rfl), (gt1 15 rfl rfl), cm_X9_wordOf, by decide +kernel, by decide⟩
theorem cs_RX9_188 : CS RX9 188 yX9_methodAt cX9_methodAt 2 (some .int) 2 := ⟨(gt6 133 rfl rfl), (gt6 134 rfl rfl), (gt1 15 rfl rfl), cm_X9_methodAt, by decide +kernel, by decide⟩
theorem cs_RX9_191 : CS RX9 191 yX9_cell cX9_cell 4 (some .int) 4 := ⟨(gt6 136 rfl rfl), (gt6 137 rfl rfl), (gt1 15 rfl rfl), cm_X9_cell, by decide +kernel, by decide⟩
theorem cs_RX9_213 : CS RX9 213 yX9_isTwo cX9_isTwo 1 (some .boolean) 1 := ⟨(gt6 155 rfl rfl), (gt6 156 rfl rfl), (gt1 15 rfl rfl), cm_X9_isTwo, by decide +kernel, by decide⟩
theorem cs_RX9_219 : CS RX9 219 yX9_isAsked cX9_isAsked 1 (some .boolean) 1 := ⟨(gt6 162 rfl rfl), (gt6 163 rfl rfl), (gt1 15 rfl rfl), cm_X9_isAsked, by decide +kernel, by decide⟩
theorem cs_RX9_226 : CS RX9 226 yX9_hasBlock cX9_hasBlock 1 (some .boolean) 1 := ⟨(gt6 169 rfl rfl), (gt6 170 rfl rfl), (gt1 15 rfl rfl), cm_X9_hasBlock, by decide +kernel, by decide⟩
theorem cs_RX9_239 : CS RX9 239 yX9_isFrom cX9_isFrom 3 (some .boolean) 3 := ⟨(gt6 50 rfl rfl), (gt6 51 rfl rfl), (gt1 15 rfl rfl), cm_X9_isFrom, by decide +kernel, by decide⟩
theorem cs_RX9_258 : CS RX9 258 yX9_has cX9_has 2 (some .boolean) 2 := ⟨(gt6 200 rfl rfl), (gt6 201 rfl rfl), (gt1 15 rfl rfl), cm_X9_has, by decide +kernel, by decide⟩
theorem cs_RX9_328 : CS RX9 328 yX9_at cX9_at 2 (some .int) 2 := ⟨(gt7 103 rfl rfl), (gt7 104 rfl rfl), (gt1 15 rfl rfl), cm_X9_at, by decide +kernel, by decide⟩
theorem cv_RX0_43 : CV RX0 43 yX1_begin cX1_begin 2 none 0 1 := ⟨(gt4 100 rfl rfl), (gt4 101 rfl rfl), (gt4 102 rfl rfl), (gt1 11 rfl rfl), cm_X1_begin, by decide +kernel, by decide, by decide, TX1, 1, rfl⟩
theorem cv_RX0_46 : CV RX0 46 yX0_arrive cX0_arrive 2 none 1 0 := ⟨(gt4 105 rfl rfl), (gt4 107 rfl rfl), (gt_sel 32 rfl rfl), (gt1 10 rfl rfl), cm_X0_arrive, by decide +kernel, by decide, by decide, TX0, 8, rfl⟩
theorem cv_RX0_55 : CV RX0 55 yX0_goOn cX0_goOn 4 none 3 0 := ⟨(gt4 120 rfl rfl), (gt4 122 rfl rfl), (gt_sel 33 rfl rfl), (gt1 10 rfl rfl), cm_X0_goOn, by decide +kernel, by decide, by decide, TX0, 8, rfl⟩
theorem cv_RX0_59 : CV RX0 59 yX0_judge cX0_judge 4 none 2 0 := ⟨(gt4 156 rfl rfl), (gt4 158 rfl rfl), (gt_sel 39 rfl rfl), (gt1 10 rfl rfl), cm_X0_judge, by decide +kernel, by decide, by decide, TX0, 8, rfl⟩
theorem cv_RX0_63 : CV RX0 63 yX1_copyFrom cX1_copyFrom 2 none 1 1 := ⟨(gt4 109 rfl rfl), (gt4 110 rfl rfl), (gt4 111 rfl rfl), (gt1 11 rfl rfl), cm_X1_copyFrom, by decide +kernel, by decide, by decide, TX1, 1, rfl⟩
theorem cv_RX0_70 : CV RX0 70 yX1_pass cX1_pass 6 (some .boolean) 3 1 := ⟨(gt4 124 rfl rfl), (gt4 125 rfl rfl), (gt4 126 rfl rfl), (gt1 11 rfl rfl), cm_X1_pass, by decide +kernel, by decide, by decide, TX1, 1, rfl⟩
theorem cv_RX0_80 : CV RX0 80 yX1_meet cX1_meet 5 (some .boolean) 1 1 := ⟨(gt4 116 rfl rfl), (gt4 117 rfl rfl), (gt4 118 rfl rfl), (gt1 11 rfl rfl), cm_X1_meet, by decide +kernel, by decide, by decide, TX1, 1, rfl⟩
theorem cv_RX0_90 : CV RX0 90 yX1_reasonAt cX1_reasonAt 5 (some .int) 2 1 := ⟨(gt4 160 rfl rfl), (gt4 161 rfl rfl), (gt4 162 rfl rfl), (gt1 11 rfl rfl), cm_X1_reasonAt, by decide +kernel, by decide, by decide, TX1, 1, rfl⟩
theorem cv_RX1_100 : CV RX1 100 yX1_letGo cX1_letGo 3 none 1 1 := ⟨(gt4 128 rfl rfl), (gt4 130 rfl rfl), (gt_sel 34 rfl rfl), (gt1 11 rfl rfl), cm_X1_letGo, by decide +kernel, by decide, by decide, TX1, 1, rfl⟩
theorem cv_RX1_104 : CV RX1 104 yX1_becomeLike cX1_becomeLike 4 none 2 1 := ⟨(gt4 132 rfl rfl), (gt4 134 rfl rfl), (gt_sel 35 rfl rfl), (gt1 11 rfl rfl), cm_X1_becomeLike, by decide +kernel, by decide, by decide, TX1, 1, rfl⟩
theorem cv_RX1_108 : CV RX1 108 yX1_makeOne cX1_makeOne 3 none 2 1 := ⟨(gt4 136 rfl rfl), (gt4 138 rfl rfl), (gt_sel 36 rfl rfl), (gt1 11 rfl rfl), cm_X1_makeOne, by decide +kernel, by decide, by decide, TX1, 1, rfl⟩
theorem cv_RX1_114 : CV RX1 114 yX1_passJoin cX1_passJoin 3 none 2 1 := ⟨(gt4 143 rfl rfl), (gt4 145 rfl rfl), (gt_sel 37 rfl rfl), (gt1 11 rfl rfl), cm_X1_passJoin, by decide +kernel, by decide, by decide, TX1, 1, rfl⟩
theorem cv_RX1_117 : CV RX1 117 yX1_ask cX1_ask 9 (some .boolean) 4 1 := ⟨(gt4 151 rfl rfl), (gt4 153 rfl rfl), (gt_sel 38 rfl rfl), (gt1 11 rfl rfl), cm_X1_ask, by decide +kernel, by decide, by decide, TX1, 1, rfl⟩
theorem cv_RX1_121 : CV RX1 121 yX2_image cX2_image 10 (some .int) 4 2 := ⟨(gt4 155 rfl rfl), (gt3 209 rfl rfl), (gt3 210 rfl rfl), (gt1 9 rfl rfl), cm_X2_image, by decide +kernel, by decide, by decide, TX2, 12, rfl⟩
theorem cv_RX1_128 : CV RX1 128 yX1_begin cX1_begin 2 none 0 1 := ⟨(gt5 31 rfl rfl), (gt4 101 rfl rfl), (gt4 102 rfl rfl), (gt1 11 rfl rfl), cm_X1_begin, by decide +kernel, by decide, by decide, TX1, 1, rfl⟩
theorem cv_RX1_33 : CV RX1 33 yX1_reasonAtEnd cX1_reasonAtEnd 3 (some .int) 1 1 := ⟨(gt4 164 rfl rfl), (gt4 166 rfl rfl), (gt_sel 40 rfl rfl), (gt1 11 rfl rfl), cm_X1_reasonAtEnd, by decide +kernel, by decide, by decide, TX1, 1, rfl⟩
theorem cv_RX1_46 : CV RX1 46 yX1_mayHold cX1_mayHold 2 (some .boolean) 1 1 := ⟨(gt4 172 rfl rfl), (gt4 174 rfl rfl), (gt_sel 42 rfl rfl), (gt1 11 rfl rfl), cm_X1_mayHold, by decide +kernel, by decide, by decide, TX1, 1, rfl⟩
theorem cv_RX1_50 : CV RX1 50 yX1_mayLack cX1_mayLack 2 (some .boolean) 1 1 := ⟨(gt4 176 rfl rfl), (gt4 178 rfl rfl), (gt_sel 43 rfl rfl), (gt1 11 rfl rfl), cm_X1_mayLack, by decide +kernel, by decide, by decide, TX1, 1, rfl⟩
theorem cv_RX1_53 : CV RX1 53 yX1_reasonOfHow cX1_reasonOfHow 2 (some .int) 1 1 := ⟨(gt4 180 rfl rfl), (gt4 182 rfl rfl), (gt_sel 44 rfl rfl), (gt1 11 rfl rfl), cm_X1_reasonOfHow, by decide +kernel, by decide, by decide, TX1, 1, rfl⟩
theorem cv_RX1_57 : CV RX1 57 yX1_reasonOfJoin cX1_reasonOfJoin 3 (some .int) 2 1 := ⟨(gt4 184 rfl rfl), (gt4 186 rfl rfl), (gt_sel 45 rfl rfl), (gt1 11 rfl rfl), cm_X1_reasonOfJoin, by decide +kernel, by decide, by decide, TX1, 1, rfl⟩
theorem cv_RX1_61 : CV RX1 61 yX1_reasonOfDrop cX1_reasonOfDrop 3 (some .int) 2 1 := ⟨(gt4 188 rfl rfl), (gt4 190 rfl rfl), (gt_sel 46 rfl rfl), (gt1 11 rfl rfl), cm_X1_reasonOfDrop, by decide +kernel, by decide, by decide, TX1, 1, rfl⟩
theorem cv_RX1_68 : CV RX1 68 yX1_reasonOfAsking cX1_reasonOfAsking 5 (some .int) 3 1 := ⟨(gt4 192 rfl rfl), (gt4 194 rfl rfl), (gt_sel 47 rfl rfl), (gt1 11 rfl rfl), cm_X1_reasonOfAsking, by decide +kernel, by decide, by decide, TX1, 1, rfl⟩
theorem cv_RX1_75 : CV RX1 75 yX1_inNoEnd cX1_inNoEnd 3 (some .boolean) 2 1 := ⟨(gt4 168 rfl rfl), (gt4 170 rfl rfl), (gt_sel 41 rfl rfl), (gt1 11 rfl rfl), cm_X1_inNoEnd, by decide +kernel, by decide, by decide, TX1, 1, rfl⟩
theorem cv_RX1_79 : CV RX1 79 yX1_isAlone cX1_isAlone 2 (some .boolean) 1 1 := ⟨(gt4 147 rfl rfl), (gt4 148 rfl rfl), (gt4 149 rfl rfl), (gt1 11 rfl rfl), cm_X1_isAlone, by decide +kernel, by decide, by decide, TX1, 1, rfl⟩
theorem cv_RX1_89 : CV RX1 89 yX2_sortOf cX2_sortOf 3 (some .int) 2 2 := ⟨(gt4 196 rfl rfl), (gt3 101 rfl rfl), (gt3 102 rfl rfl), (gt1 9 rfl rfl), cm_X2_sortOf, by decide +kernel, by decide, by decide, TX2, 12, rfl⟩
theorem cv_RX1_94 : CV RX1 94 yX2_statesOf cX2_statesOf 3 (some .int) 2 2 := ⟨(gt4 197 rfl rfl), (gt4 0 rfl rfl), (gt4 1 rfl rfl), (gt1 9 rfl rfl), cm_X2_statesOf, by decide +kernel, by decide, by decide, TX2, 12, rfl⟩
theorem cv_RX2_50 : CV RX2 50 yX2_hasKind cX2_hasKind 2 (some .boolean) 1 2 := ⟨(gt3 237 rfl rfl), (gt3 197 rfl rfl), (gt3 198 rfl rfl), (gt1 9 rfl rfl), cm_X2_hasKind, by decide +kernel, by decide, by decide, TX2, 12, rfl⟩
theorem cv_RX2_54 : CV RX2 54 yX2_canBe cX2_canBe 4 (some .boolean) 3 2 := ⟨(gt3 224 rfl rfl), (gt3 145 rfl rfl), (gt3 146 rfl rfl), (gt1 9 rfl rfl), cm_X2_canBe, by decide +kernel, by decide, by decide, TX2, 12, rfl⟩
theorem cv_RX2_58 : CV RX2 58 yX2_sortOf cX2_sortOf 3 (some .int) 2 2 := ⟨(gt4 20 rfl rfl), (gt3 101 rfl rfl), (gt3 102 rfl rfl), (gt1 9 rfl rfl), cm_X2_sortOf, by decide +kernel, by decide, by decide, TX2, 12, rfl⟩
theorem cv_RX2_62 : CV RX2 62 yX2_following cX2_following 6 (some .int) 4 2 := ⟨(gt3 225 rfl rfl), (gt3 226 rfl rfl), (gt3 227 rfl rfl), (gt1 9 rfl rfl), cm_X2_following, by decide +kernel, by decide, by decide, TX2, 12, rfl⟩
theorem cv_RX2_66 : CV RX2 66 yX2_allow cX2_allow 7 none 5 2 := ⟨(gt4 21 rfl rfl), (gt3 149 rfl rfl), (gt3 150 rfl rfl), (gt1 9 rfl rfl), cm_X2_allow, by decide +kernel, by decide, by decide, TX2, 12, rfl⟩
theorem cv_RX2_70 : CV RX2 70 yX2_image cX2_image 10 (some .int) 4 2 := ⟨(gt3 208 rfl rfl), (gt3 209 rfl rfl), (gt3 210 rfl rfl), (gt1 9 rfl rfl), cm_X2_image, by decide +kernel, by decide, by decide, TX2, 12, rfl⟩
theorem cv_RX2_73 : CV RX2 73 yX2_measureSteps cX2_measureSteps 4 none 1 2 := ⟨(gt3 216 rfl rfl), (gt3 218 rfl rfl), (gt_sel 26 rfl rfl), (gt1 9 rfl rfl), cm_X2_measureSteps, by decide +kernel, by decide, by decide, TX2, 12, rfl⟩
theorem cv_RX2_77 : CV RX2 77 yX2_methodTo cX2_methodTo 5 (some .int) 3 2 := ⟨(gt3 220 rfl rfl), (gt3 221 rfl rfl), (gt3 222 rfl rfl), (gt1 9 rfl rfl), cm_X2_methodTo, by decide +kernel, by decide, by decide, TX2, 12, rfl⟩
theorem cv_RX2_81 : CV RX2 81 yX2_partUnlike cX2_partUnlike 5 (some .boolean) 1 2 := ⟨(gt4 43 rfl rfl), (gt4 45 rfl rfl), (gt_sel 27 rfl rfl), (gt1 9 rfl rfl), cm_X2_partUnlike, by decide +kernel, by decide, by decide, TX2, 12, rfl⟩
theorem cv_RX2_84 : CV RX2 84 yX2_differ cX2_differ 5 (some .boolean) 3 2 := ⟨(gt4 47 rfl rfl), (gt4 49 rfl rfl), (gt_sel 28 rfl rfl), (gt1 9 rfl rfl), cm_X2_differ, by decide +kernel, by decide, by decide, TX2, 12, rfl⟩
theorem cv_RX2_87 : CV RX2 87 yX2_comeUnlike cX2_comeUnlike 6 (some .boolean) 5 2 := ⟨(gt4 51 rfl rfl), (gt4 53 rfl rfl), (gt_sel 29 rfl rfl), (gt1 9 rfl rfl), cm_X2_comeUnlike, by decide +kernel, by decide, by decide, TX2, 12, rfl⟩
theorem cv_RX2_97 : CV RX2 97 yX2_lengthenWays cX2_lengthenWays 4 none 1 2 := ⟨(gt4 66 rfl rfl), (gt4 68 rfl rfl), (gt_sel 30 rfl rfl), (gt1 9 rfl rfl), cm_X2_lengthenWays, by decide +kernel, by decide, by decide, TX2, 12, rfl⟩
theorem cv_RX3_109 : CV RX3 109 yX7_advance cX7_advance 1 none 0 7 := ⟨(gt3 79 rfl rfl), (gt3 49 rfl rfl), (gt3 50 rfl rfl), (gt1 3 rfl rfl), cm_X7_advance, by decide +kernel, by decide, by decide, TX7, 8, rfl⟩
theorem cv_RX3_112 : CV RX3 112 yX3_isNewName cX3_isNewName 4 (some .boolean) 3 3 := ⟨(gt3 116 rfl rfl), (gt3 118 rfl rfl), (gt_sel 15 rfl rfl), (gt1 2 rfl rfl), cm_X3_isNewName, by decide +kernel, by decide, by decide, TX3, 11, rfl⟩
theorem cv_RX3_116 : CV RX3 116 yX2_addKind cX2_addKind 2 (some .int) 0 2 := ⟨(gt3 120 rfl rfl), (gt3 121 rfl rfl), (gt3 122 rfl rfl), (gt1 9 rfl rfl), cm_X2_addKind, by decide +kernel, by decide, by decide, TX2, 12, rfl⟩
theorem cv_RX3_127 : CV RX3 127 yX3_takeSign cX3_takeSign 2 (some .boolean) 1 3 := ⟨(gt3 104 rfl rfl), (gt3 106 rfl rfl), (gt_sel 12 rfl rfl), (gt1 2 rfl rfl), cm_X3_takeSign, by decide +kernel, by decide, by decide, TX3, 11, rfl⟩
theorem cv_RX3_130 : CV RX3 130 yX3_known cX3_known 5 (some .int) 3 3 := ⟨(gt3 84 rfl rfl), (gt3 86 rfl rfl), (gt_sel 8 rfl rfl), (gt1 2 rfl rfl), cm_X3_known, by decide +kernel, by decide, by decide, TX3, 11, rfl⟩
theorem cv_RX3_137 : CV RX3 137 yX3_methodToTell cX3_methodToTell 4 (some .int) 2 3 := ⟨(gt3 132 rfl rfl), (gt3 134 rfl rfl), (gt_sel 18 rfl rfl), (gt1 2 rfl rfl), cm_X3_methodToTell, by decide +kernel, by decide, by decide, TX3, 11, rfl⟩
theorem cv_RX3_141 : CV RX3 141 yX3_readWhatComes cX3_readWhatComes 10 (some .boolean) 3 3 := ⟨(gt3 140 rfl rfl), (gt3 142 rfl rfl), (gt_sel 19 rfl rfl), (gt1 2 rfl rfl), cm_X3_readWhatComes, by decide +kernel, by decide, by decide, TX3, 11, rfl⟩
theorem cv_RX3_145 : CV RX3 145 yX2_canBe cX2_canBe 4 (some .boolean) 3 2 := ⟨(gt3 144 rfl rfl), (gt3 145 rfl rfl), (gt3 146 rfl rfl), (gt1 9 rfl rfl), cm_X2_canBe, by decide +kernel, by decide, by decide, TX2, 12, rfl⟩
theorem cv_RX3_148 : CV RX3 148 yX2_allow cX2_allow 7 none 5 2 := ⟨(gt3 148 rfl rfl), (gt3 149 rfl rfl), (gt3 150 rfl rfl), (gt1 9 rfl rfl), cm_X2_allow, by decide +kernel, by decide, by decide, TX2, 12, rfl⟩
theorem cv_RX3_158 : CV RX3 158 yX4_addStatement cX4_addStatement 5 (some .int) 3 4 := ⟨(gt3 75 rfl rfl), (gt3 76 rfl rfl), (gt3 77 rfl rfl), (gt1 8 rfl rfl), cm_X4_addStatement, by decide +kernel, by decide, by decide, TX4, 15, rfl⟩
theorem cv_RX3_162 : CV RX3 162 yX3_readFirst cX3_readFirst 3 (some .boolean) 1 3 := ⟨(gt3 80 rfl rfl), (gt3 82 rfl rfl), (gt_sel 7 rfl rfl), (gt1 2 rfl rfl), cm_X3_readFirst, by decide +kernel, by decide, by decide, TX3, 11, rfl⟩
theorem cv_RX3_165 : CV RX3 165 yX3_readSecond cX3_readSecond 4 (some .boolean) 1 3 := ⟨(gt3 92 rfl rfl), (gt3 94 rfl rfl), (gt_sel 10 rfl rfl), (gt1 2 rfl rfl), cm_X3_readSecond, by decide +kernel, by decide, by decide, TX3, 11, rfl⟩
theorem cv_RX3_168 : CV RX3 168 yX3_readAsked cX3_readAsked 5 (some .boolean) 2 3 := ⟨(gt3 96 rfl rfl), (gt3 98 rfl rfl), (gt_sel 11 rfl rfl), (gt1 2 rfl rfl), cm_X3_readAsked, by decide +kernel, by decide, by decide, TX3, 11, rfl⟩
theorem cv_RX3_181 : CV RX3 181 yX2_sortOf cX2_sortOf 3 (some .int) 2 2 := ⟨(gt3 100 rfl rfl), (gt3 101 rfl rfl), (gt3 102 rfl rfl), (gt1 9 rfl rfl), cm_X2_sortOf, by decide +kernel, by decide, by decide, TX2, 12, rfl⟩
theorem cv_RX3_196 : CV RX3 196 yX3_find cX3_find 5 (some .int) 3 3 := ⟨(gt3 88 rfl rfl), (gt3 90 rfl rfl), (gt_sel 9 rfl rfl), (gt1 2 rfl rfl), cm_X3_find, by decide +kernel, by decide, by decide, TX3, 11, rfl⟩
theorem cv_RX3_199 : CV RX3 199 yX2_addMethod cX2_addMethod 4 (some .int) 2 2 := ⟨(gt3 136 rfl rfl), (gt3 137 rfl rfl), (gt3 138 rfl rfl), (gt1 9 rfl rfl), cm_X2_addMethod, by decide +kernel, by decide, by decide, TX2, 12, rfl⟩
theorem cv_RX3_56 : CV RX3 56 yX4_empty cX4_empty 1 none 0 4 := ⟨(gt3 40 rfl rfl), (gt3 41 rfl rfl), (gt3 42 rfl rfl), (gt1 8 rfl rfl), cm_X4_empty, by decide +kernel, by decide, by decide, TX4, 15, rfl⟩
theorem cv_RX3_59 : CV RX3 59 yX7_open cX7_open 2 none 1 7 := ⟨(gt3 44 rfl rfl), (gt3 45 rfl rfl), (gt3 46 rfl rfl), (gt1 3 rfl rfl), cm_X7_open, by decide +kernel, by decide, by decide, TX7, 8, rfl⟩
theorem cv_RX3_62 : CV RX3 62 yX3_atTheEnd cX3_atTheEnd 1 (some .boolean) 0 3 := ⟨(gt3 59 rfl rfl), (gt3 61 rfl rfl), (gt_sel 3 rfl rfl), (gt1 2 rfl rfl), cm_X3_atTheEnd, by decide +kernel, by decide, by decide, TX3, 11, rfl⟩
theorem cv_RX3_66 : CV RX3 66 yX3_readPiece cX3_readPiece 2 (some .boolean) 0 3 := ⟨(gt3 63 rfl rfl), (gt3 65 rfl rfl), (gt_sel 4 rfl rfl), (gt1 2 rfl rfl), cm_X3_readPiece, by decide +kernel, by decide, by decide, TX3, 11, rfl⟩
theorem cv_RX3_69 : CV RX3 69 yX4_link cX4_link 2 none 0 4 := ⟨(gt3 156 rfl rfl), (gt3 157 rfl rfl), (gt3 158 rfl rfl), (gt1 8 rfl rfl), cm_X4_link, by decide +kernel, by decide, by decide, TX4, 15, rfl⟩
theorem cv_RX3_75 : CV RX3 75 yX3_readStatement cX3_readStatement 3 (some .boolean) 1 3 := ⟨(gt3 67 rfl rfl), (gt3 69 rfl rfl), (gt_sel 5 rfl rfl), (gt1 2 rfl rfl), cm_X3_readStatement, by decide +kernel, by decide, by decide, TX3, 11, rfl⟩
theorem cv_RX3_79 : CV RX3 79 yX3_closeBlock cX3_closeBlock 4 (some .boolean) 0 3 := ⟨(gt3 108 rfl rfl), (gt3 110 rfl rfl), (gt_sel 13 rfl rfl), (gt1 2 rfl rfl), cm_X3_closeBlock, by decide +kernel, by decide, by decide, TX3, 11, rfl⟩
theorem cv_RX3_85 : CV RX3 85 yX3_fail cX3_fail 2 (some .boolean) 1 3 := ⟨(gt3 71 rfl rfl), (gt3 73 rfl rfl), (gt_sel 6 rfl rfl), (gt1 2 rfl rfl), cm_X3_fail, by decide +kernel, by decide, by decide, TX3, 11, rfl⟩
theorem cv_RX3_88 : CV RX3 88 yX3_readKind cX3_readKind 4 (some .boolean) 0 3 := ⟨(gt3 112 rfl rfl), (gt3 114 rfl rfl), (gt_sel 14 rfl rfl), (gt1 2 rfl rfl), cm_X3_readKind, by decide +kernel, by decide, by decide, TX3, 11, rfl⟩
theorem cv_RX3_91 : CV RX3 91 yX3_readEnd cX3_readEnd 4 (some .boolean) 0 3 := ⟨(gt3 124 rfl rfl), (gt3 126 rfl rfl), (gt_sel 16 rfl rfl), (gt1 2 rfl rfl), cm_X3_readEnd, by decide +kernel, by decide, by decide, TX3, 11, rfl⟩
theorem cv_RX3_94 : CV RX3 94 yX3_readMethod cX3_readMethod 4 (some .boolean) 1 3 := ⟨(gt3 128 rfl rfl), (gt3 130 rfl rfl), (gt_sel 17 rfl rfl), (gt1 2 rfl rfl), cm_X3_readMethod, by decide +kernel, by decide, by decide, TX3, 11, rfl⟩
theorem cv_RX3_97 : CV RX3 97 yX3_readVariable cX3_readVariable 3 (some .boolean) 0 3 := ⟨(gt3 152 rfl rfl), (gt3 154 rfl rfl), (gt_sel 20 rfl rfl), (gt1 2 rfl rfl), cm_X3_readVariable, by decide +kernel, by decide, by decide, TX3, 11, rfl⟩
theorem cv_RX4_65 : CV RX4 65 yX4_placeAfter cX4_placeAfter 4 (some .int) 1 4 := ⟨(gt3 160 rfl rfl), (gt3 162 rfl rfl), (gt_sel 21 rfl rfl), (gt1 8 rfl rfl), cm_X4_placeAfter, by decide +kernel, by decide, by decide, TX4, 15, rfl⟩
theorem cv_RX4_69 : CV RX4 69 yX4_linkBlocks cX4_linkBlocks 3 none 1 4 := ⟨(gt3 168 rfl rfl), (gt3 170 rfl rfl), (gt_sel 23 rfl rfl), (gt1 8 rfl rfl), cm_X4_linkBlocks, by decide +kernel, by decide, by decide, TX4, 15, rfl⟩
theorem cv_RX4_73 : CV RX4 73 yX4_goesRound cX4_goesRound 2 (some .boolean) 1 4 := ⟨(gt3 164 rfl rfl), (gt3 166 rfl rfl), (gt_sel 22 rfl rfl), (gt1 8 rfl rfl), cm_X4_goesRound, by decide +kernel, by decide, by decide, TX4, 15, rfl⟩
theorem cv_RX5_34 : CV RX5 34 yX1_begin cX1_begin 2 none 0 1 := ⟨(gt5 100 rfl rfl), (gt4 101 rfl rfl), (gt4 102 rfl rfl), (gt1 11 rfl rfl), cm_X1_begin, by decide +kernel, by decide, by decide, TX1, 1, rfl⟩
theorem cv_RX5_37 : CV RX5 37 yX5_step cX5_step 3 (some .boolean) 1 5 := ⟨(gt5 101 rfl rfl), (gt5 103 rfl rfl), (gt_sel 57 rfl rfl), (gt1 13 rfl rfl), cm_X5_step, by decide +kernel, by decide, by decide, TX5, 6, rfl⟩
theorem cv_RX5_46 : CV RX5 46 yX1_reasonAt cX1_reasonAt 5 (some .int) 2 1 := ⟨(gt5 105 rfl rfl), (gt4 161 rfl rfl), (gt4 162 rfl rfl), (gt1 11 rfl rfl), cm_X1_reasonAt, by decide +kernel, by decide, by decide, TX1, 1, rfl⟩
theorem cv_RX5_54 : CV RX5 54 yX5_drawYes cX5_drawYes 1 (some .boolean) 0 5 := ⟨(gt5 106 rfl rfl), (gt5 108 rfl rfl), (gt_sel 58 rfl rfl), (gt1 13 rfl rfl), cm_X5_drawYes, by decide +kernel, by decide, by decide, TX5, 6, rfl⟩
theorem cv_RX5_61 : CV RX5 61 yX1_pass cX1_pass 6 (some .boolean) 3 1 := ⟨(gt5 111 rfl rfl), (gt4 125 rfl rfl), (gt4 126 rfl rfl), (gt1 11 rfl rfl), cm_X1_pass, by decide +kernel, by decide, by decide, TX1, 1, rfl⟩
theorem cv_RX6_110 : CV RX6 110 yX1_things cX1_things 5 (some .int) 1 1 := ⟨(gt5 39 rfl rfl), (gt5 40 rfl rfl), (gt5 41 rfl rfl), (gt1 11 rfl rfl), cm_X1_things, by decide +kernel, by decide, by decide, TX1, 1, rfl⟩
theorem cv_RX6_119 : CV RX6 119 yX6_noteLeft cX6_noteLeft 4 none 2 6 := ⟨(gt5 46 rfl rfl), (gt5 48 rfl rfl), (gt_sel 54 rfl rfl), (gt1 12 rfl rfl), cm_X6_noteLeft, by decide +kernel, by decide, by decide, TX6, 15, rfl⟩
theorem cv_RX6_123 : CV RX6 123 yX1_reasonAt cX1_reasonAt 5 (some .int) 2 1 := ⟨(gt5 55 rfl rfl), (gt4 161 rfl rfl), (gt4 162 rfl rfl), (gt1 11 rfl rfl), cm_X1_reasonAt, by decide +kernel, by decide, by decide, TX1, 1, rfl⟩
theorem cv_RX6_133 : CV RX6 133 yX1_states cX1_states 2 (some .int) 1 1 := ⟨(gt5 50 rfl rfl), (gt5 51 rfl rfl), (gt5 52 rfl rfl), (gt1 11 rfl rfl), cm_X1_states, by decide +kernel, by decide, by decide, TX1, 1, rfl⟩
theorem cv_RX6_142 : CV RX6 142 yX1_isAlone cX1_isAlone 2 (some .boolean) 1 1 := ⟨(gt5 54 rfl rfl), (gt4 148 rfl rfl), (gt4 149 rfl rfl), (gt1 11 rfl rfl), cm_X1_isAlone, by decide +kernel, by decide, by decide, TX1, 1, rfl⟩
theorem cv_RX6_152 : CV RX6 152 yX1_copyFrom cX1_copyFrom 2 none 1 1 := ⟨(gt5 60 rfl rfl), (gt4 110 rfl rfl), (gt4 111 rfl rfl), (gt1 11 rfl rfl), cm_X1_copyFrom, by decide +kernel, by decide, by decide, TX1, 1, rfl⟩
theorem cv_RX6_156 : CV RX6 156 yX1_pass cX1_pass 6 (some .boolean) 3 1 := ⟨(gt5 61 rfl rfl), (gt4 125 rfl rfl), (gt4 126 rfl rfl), (gt1 11 rfl rfl), cm_X1_pass, by decide +kernel, by decide, by decide, TX1, 1, rfl⟩
theorem cv_RX6_162 : CV RX6 162 yX6_addAt cX6_addAt 5 none 3 6 := ⟨(gt5 20 rfl rfl), (gt5 22 rfl rfl), (gt_sel 52 rfl rfl), (gt1 12 rfl rfl), cm_X6_addAt, by decide +kernel, by decide, by decide, TX6, 15, rfl⟩
theorem cv_RX6_166 : CV RX6 166 yX1_part cX1_part 3 (some .int) 2 1 := ⟨(gt5 82 rfl rfl), (gt4 211 rfl rfl), (gt4 212 rfl rfl), (gt1 11 rfl rfl), cm_X1_part, by decide +kernel, by decide, by decide, TX1, 1, rfl⟩
theorem cv_RX6_39 : CV RX6 39 yX6_forget cX6_forget 2 none 0 6 := ⟨(gt4 238 rfl rfl), (gt5 0 rfl rfl), (gt_sel 50 rfl rfl), (gt1 12 rfl rfl), cm_X6_forget, by decide +kernel, by decide, by decide, TX6, 15, rfl⟩
theorem cv_RX6_42 : CV RX6 42 yX1_begin cX1_begin 2 none 0 1 := ⟨(gt5 3 rfl rfl), (gt4 101 rfl rfl), (gt4 102 rfl rfl), (gt1 11 rfl rfl), cm_X1_begin, by decide +kernel, by decide, by decide, TX1, 1, rfl⟩
theorem cv_RX6_45 : CV RX6 45 yX1_key cX1_key 8 (some .long) 1 1 := ⟨(gt5 4 rfl rfl), (gt5 5 rfl rfl), (gt5 6 rfl rfl), (gt1 11 rfl rfl), cm_X1_key, by decide +kernel, by decide, by decide, TX1, 1, rfl⟩
theorem cv_RX6_49 : CV RX6 49 yX6_add cX6_add 6 none 2 6 := ⟨(gt5 15 rfl rfl), (gt5 17 rfl rfl), (gt_sel 51 rfl rfl), (gt1 12 rfl rfl), cm_X6_add, by decide +kernel, by decide, by decide, TX6, 15, rfl⟩
theorem cv_RX6_65 : CV RX6 65 yX1_setFrom cX1_setFrom 6 none 1 1 := ⟨(gt5 27 rfl rfl), (gt5 28 rfl rfl), (gt5 29 rfl rfl), (gt1 11 rfl rfl), cm_X1_setFrom, by decide +kernel, by decide, by decide, TX1, 1, rfl⟩
theorem cv_RX6_69 : CV RX6 69 yX6_goesOnFrom cX6_goesOnFrom 5 (some .boolean) 3 6 := ⟨(gt5 35 rfl rfl), (gt5 37 rfl rfl), (gt_sel 53 rfl rfl), (gt1 12 rfl rfl), cm_X6_goesOnFrom, by decide +kernel, by decide, by decide, TX6, 15, rfl⟩
theorem cv_RX6_73 : CV RX6 73 yX6_follow cX6_follow 6 none 4 6 := ⟨(gt5 56 rfl rfl), (gt5 58 rfl rfl), (gt_sel 55 rfl rfl), (gt1 12 rfl rfl), cm_X6_follow, by decide +kernel, by decide, by decide, TX6, 15, rfl⟩
theorem cv_RX6_80 : CV RX6 80 yX6_lengthTo cX6_lengthTo 4 (some .int) 1 6 := ⟨(gt5 62 rfl rfl), (gt5 64 rfl rfl), (gt_sel 56 rfl rfl), (gt1 12 rfl rfl), cm_X6_lengthTo, by decide +kernel, by decide, by decide, TX6, 15, rfl⟩
theorem cv_RX7_33 : CV RX7 33 yX7_putByte cX7_putByte 2 none 1 7 := ⟨(gt3 24 rfl rfl), (gt3 26 rfl rfl), (gt_sel 0 rfl rfl), (gt1 3 rfl rfl), cm_X7_putByte, by decide +kernel, by decide, by decide, TX7, 8, rfl⟩
theorem cv_RX7_47 : CV RX7 47 yX7_advance cX7_advance 1 none 0 7 := ⟨(gt3 48 rfl rfl), (gt3 49 rfl rfl), (gt3 50 rfl rfl), (gt1 3 rfl rfl), cm_X7_advance, by decide +kernel, by decide, by decide, TX7, 8, rfl⟩
theorem cv_RX7_56 : CV RX7 56 yX7_takeWord cX7_takeWord 2 none 0 7 := ⟨(gt3 52 rfl rfl), (gt3 54 rfl rfl), (gt_sel 2 rfl rfl), (gt1 3 rfl rfl), cm_X7_takeWord, by decide +kernel, by decide, by decide, TX7, 8, rfl⟩
theorem cv_RX8_100 : CV RX8 100 yX8_answer cX8_answer 2 (some .int) 1 8 := ⟨(gt3 180 rfl rfl), (gt3 182 rfl rfl), (gt_sel 25 rfl rfl), (gt1 1 rfl rfl), cm_X8_answer, by decide +kernel, by decide, by decide, TX8, 12, rfl⟩
theorem cv_RX8_115 : CV RX8 115 yX2_hasKind cX2_hasKind 2 (some .boolean) 1 2 := ⟨(gt3 196 rfl rfl), (gt3 197 rfl rfl), (gt3 198 rfl rfl), (gt1 9 rfl rfl), cm_X2_hasKind, by decide +kernel, by decide, by decide, TX2, 12, rfl⟩
theorem cv_RX8_127 : CV RX8 127 yX4_variablesOf cX4_variablesOf 4 (some .int) 1 4 := ⟨(gt3 200 rfl rfl), (gt3 201 rfl rfl), (gt3 202 rfl rfl), (gt1 8 rfl rfl), cm_X4_variablesOf, by decide +kernel, by decide, by decide, TX4, 15, rfl⟩
theorem cv_RX8_130 : CV RX8 130 yX2_reachable cX2_reachable 5 (some .int) 1 2 := ⟨(gt3 204 rfl rfl), (gt3 205 rfl rfl), (gt3 206 rfl rfl), (gt1 9 rfl rfl), cm_X2_reachable, by decide +kernel, by decide, by decide, TX2, 12, rfl⟩
theorem cv_RX8_133 : CV RX8 133 yX2_hopeless cX2_hopeless 4 (some .int) 1 2 := ⟨(gt3 212 rfl rfl), (gt3 213 rfl rfl), (gt3 214 rfl rfl), (gt1 9 rfl rfl), cm_X2_hopeless, by decide +kernel, by decide, by decide, TX2, 12, rfl⟩
theorem cv_RX8_136 : CV RX8 136 yX2_hasMethod cX2_hasMethod 3 (some .boolean) 2 2 := ⟨(gt3 233 rfl rfl), (gt3 234 rfl rfl), (gt3 235 rfl rfl), (gt1 9 rfl rfl), cm_X2_hasMethod, by decide +kernel, by decide, by decide, TX2, 12, rfl⟩
theorem cv_RX8_140 : CV RX8 140 yX2_sortOf cX2_sortOf 3 (some .int) 2 2 := ⟨(gt3 238 rfl rfl), (gt3 101 rfl rfl), (gt3 102 rfl rfl), (gt1 9 rfl rfl), cm_X2_sortOf, by decide +kernel, by decide, by decide, TX2, 12, rfl⟩
theorem cv_RX8_144 : CV RX8 144 yX2_statesOf cX2_statesOf 3 (some .int) 2 2 := ⟨(gt3 239 rfl rfl), (gt4 0 rfl rfl), (gt4 1 rfl rfl), (gt1 9 rfl rfl), cm_X2_statesOf, by decide +kernel, by decide, by decide, TX2, 12, rfl⟩
theorem cv_RX8_147 : CV RX8 147 yX2_hasState cX2_hasState 3 (some .boolean) 2 2 := ⟨(gt4 7 rfl rfl), (gt4 8 rfl rfl), (gt4 9 rfl rfl), (gt1 9 rfl rfl), cm_X2_hasState, by decide +kernel, by decide, by decide, TX2, 12, rfl⟩
theorem cv_RX8_150 : CV RX8 150 yX2_following cX2_following 6 (some .int) 4 2 := ⟨(gt4 11 rfl rfl), (gt3 226 rfl rfl), (gt3 227 rfl rfl), (gt1 9 rfl rfl), cm_X2_following, by decide +kernel, by decide, by decide, TX2, 12, rfl⟩
theorem cv_RX8_154 : CV RX8 154 yX2_change cX2_change 9 none 5 2 := ⟨(gt4 16 rfl rfl), (gt4 17 rfl rfl), (gt4 18 rfl rfl), (gt1 9 rfl rfl), cm_X2_change, by decide +kernel, by decide, by decide, TX2, 12, rfl⟩
theorem cv_RX8_158 : CV RX8 158 yX2_stepsToEnd cX2_stepsToEnd 3 (some .int) 2 2 := ⟨(gt4 26 rfl rfl), (gt4 27 rfl rfl), (gt4 28 rfl rfl), (gt1 9 rfl rfl), cm_X2_stepsToEnd, by decide +kernel, by decide, by decide, TX2, 12, rfl⟩
theorem cv_RX8_161 : CV RX8 161 yX2_methodTo cX2_methodTo 5 (some .int) 3 2 := ⟨(gt4 34 rfl rfl), (gt3 221 rfl rfl), (gt3 222 rfl rfl), (gt1 9 rfl rfl), cm_X2_methodTo, by decide +kernel, by decide, by decide, TX2, 12, rfl⟩
theorem cv_RX8_165 : CV RX8 165 yX2_areAlike cX2_areAlike 6 (some .boolean) 3 2 := ⟨(gt4 39 rfl rfl), (gt4 40 rfl rfl), (gt4 41 rfl rfl), (gt1 9 rfl rfl), cm_X2_areAlike, by decide +kernel, by decide, by decide, TX2, 12, rfl⟩
theorem cv_RX8_169 : CV RX8 169 yX2_countRows cX2_countRows 7 (some .int) 3 2 := ⟨(gt4 59 rfl rfl), (gt4 60 rfl rfl), (gt4 61 rfl rfl), (gt1 9 rfl rfl), cm_X2_countRows, by decide +kernel, by decide, by decide, TX2, 12, rfl⟩
theorem cv_RX8_173 : CV RX8 173 yX4_hasStatement cX4_hasStatement 2 (some .boolean) 1 4 := ⟨(gt4 75 rfl rfl), (gt4 76 rfl rfl), (gt4 77 rfl rfl), (gt1 8 rfl rfl), cm_X4_hasStatement, by decide +kernel, by decide, by decide, TX4, 15, rfl⟩
theorem cv_RX8_197 : CV RX8 197 yX4_hasVariable cX4_hasVariable 2 (some .boolean) 1 4 := ⟨(gt4 83 rfl rfl), (gt4 84 rfl rfl), (gt4 85 rfl rfl), (gt1 8 rfl rfl), cm_X4_hasVariable, by decide +kernel, by decide, by decide, TX4, 15, rfl⟩
theorem cv_RX8_203 : CV RX8 203 yX8_solvedFlow cX8_solvedFlow 1 (some (.object "HoldChecker$Flow")) 0 8 := ⟨(gt4 91 rfl rfl), (gt4 93 rfl rfl), (gt_sel 31 rfl rfl), (gt1 1 rfl rfl), cm_X8_solvedFlow, by decide +kernel, by decide, by decide, TX8, 12, rfl⟩
theorem cv_RX8_213 : CV RX8 213 yX0_firstReason cX0_firstReason 1 (some .int) 0 0 := ⟨(gt4 198 rfl rfl), (gt4 199 rfl rfl), (gt4 200 rfl rfl), (gt1 10 rfl rfl), cm_X0_firstReason, by decide +kernel, by decide, by decide, TX0, 8, rfl⟩
theorem cv_RX8_220 : CV RX8 220 yX4_hasPlace cX4_hasPlace 2 (some .boolean) 1 4 := ⟨(gt4 206 rfl rfl), (gt4 207 rfl rfl), (gt4 208 rfl rfl), (gt1 8 rfl rfl), cm_X4_hasPlace, by decide +kernel, by decide, by decide, TX4, 15, rfl⟩
theorem cv_RX8_234 : CV RX8 234 yX1_part cX1_part 3 (some .int) 2 1 := ⟨(gt4 210 rfl rfl), (gt4 211 rfl rfl), (gt4 212 rfl rfl), (gt1 11 rfl rfl), cm_X1_part, by decide +kernel, by decide, by decide, TX1, 1, rfl⟩
theorem cv_RX8_239 : CV RX8 239 yX8_triedWithout cX8_triedWithout 2 (some .int) 1 8 := ⟨(gt4 218 rfl rfl), (gt4 220 rfl rfl), (gt_sel 48 rfl rfl), (gt1 1 rfl rfl), cm_X8_triedWithout, by decide +kernel, by decide, by decide, TX8, 12, rfl⟩
theorem cv_RX8_242 : CV RX8 242 yX8_finishedSearch cX8_finishedSearch 1 (some (.object "HoldChecker$Search")) 0 8 := ⟨(gt4 230 rfl rfl), (gt4 232 rfl rfl), (gt_sel 49 rfl rfl), (gt1 1 rfl rfl), cm_X8_finishedSearch, by decide +kernel, by decide, by decide, TX8, 12, rfl⟩
theorem cv_RX8_266 : CV RX8 266 yX6_placeOnWrongPath cX6_placeOnWrongPath 4 (some .int) 1 6 := ⟨(gt5 70 rfl rfl), (gt5 71 rfl rfl), (gt5 72 rfl rfl), (gt1 12 rfl rfl), cm_X6_placeOnWrongPath, by decide +kernel, by decide, by decide, TX6, 15, rfl⟩
theorem cv_RX8_272 : CV RX8 272 yX6_gather cX6_gather 8 (some .int) 3 6 := ⟨(gt5 78 rfl rfl), (gt5 79 rfl rfl), (gt5 80 rfl rfl), (gt1 12 rfl rfl), cm_X6_gather, by decide +kernel, by decide, by decide, TX6, 15, rfl⟩
theorem cv_RX8_279 : CV RX8 279 yX5_go cX5_go 5 none 2 5 := ⟨(gt5 96 rfl rfl), (gt5 97 rfl rfl), (gt5 98 rfl rfl), (gt1 13 rfl rfl), cm_X5_go, by decide +kernel, by decide, by decide, TX5, 6, rfl⟩
theorem cv_RX8_302 : CV RX8 302 yX0_solve cX0_solve 6 none 2 0 := ⟨(gt4 95 rfl rfl), (gt4 96 rfl rfl), (gt4 97 rfl rfl), (gt1 10 rfl rfl), cm_X0_solve, by decide +kernel, by decide, by decide, TX0, 8, rfl⟩
theorem cv_RX8_305 : CV RX8 305 yX6_explore cX6_explore 4 none 1 6 := ⟨(gt4 234 rfl rfl), (gt4 235 rfl rfl), (gt4 236 rfl rfl), (gt1 12 rfl rfl), cm_X6_explore, by decide +kernel, by decide, by decide, TX6, 15, rfl⟩
theorem cv_RX8_76 : CV RX8 76 yX7_putInt cX7_putInt 2 none 1 7 := ⟨(gt3 20 rfl rfl), (gt3 21 rfl rfl), (gt3 22 rfl rfl), (gt1 3 rfl rfl), cm_X7_putInt, by decide +kernel, by decide, by decide, TX7, 8, rfl⟩
theorem cv_RX8_80 : CV RX8 80 yX8_refuse cX8_refuse 2 (some .int) 1 8 := ⟨(gt3 32 rfl rfl), (gt3 34 rfl rfl), (gt_sel 1 rfl rfl), (gt1 1 rfl rfl), cm_X8_refuse, by decide +kernel, by decide, by decide, TX8, 12, rfl⟩
theorem cv_RX8_84 : CV RX8 84 yX3_parse cX3_parse 4 (some .boolean) 1 3 := ⟨(gt3 36 rfl rfl), (gt3 37 rfl rfl), (gt3 38 rfl rfl), (gt1 2 rfl rfl), cm_X3_parse, by decide +kernel, by decide, by decide, TX3, 11, rfl⟩
theorem cv_RX8_90 : CV RX8 90 yX3_handOver cX3_handOver 3 (some (.object "HoldChecker$Program")) 1 3 := ⟨(gt3 172 rfl rfl), (gt3 173 rfl rfl), (gt3 174 rfl rfl), (gt1 2 rfl rfl), cm_X3_handOver, by decide +kernel, by decide, by decide, TX3, 11, rfl⟩
theorem cv_RX8_94 : CV RX8 94 yX8_forgetAnswers cX8_forgetAnswers 1 none 0 8 := ⟨(gt3 176 rfl rfl), (gt3 178 rfl rfl), (gt_sel 24 rfl rfl), (gt1 1 rfl rfl), cm_X8_forgetAnswers, by decide +kernel, by decide, by decide, TX8, 12, rfl⟩
theorem cv_RX9_100 : CV RX9 100 yX9_come cX9_come 3 none 1 9 := ⟨(gt6 42 rfl rfl), (gt6 44 rfl rfl), (gt_sel 59 rfl rfl), (gt1 15 rfl rfl), cm_X9_come, by decide +kernel, by decide, by decide, TX9, 50, rfl⟩
theorem cv_RX9_110 : CV RX9 110 yX9_byteAt cX9_byteAt 2 (some .int) 1 9 := ⟨(gt6 61 rfl rfl), (gt6 63 rfl rfl), (gt_sel 62 rfl rfl), (gt1 15 rfl rfl), cm_X9_byteAt, by decide +kernel, by decide, by decide, TX9, 50, rfl⟩
theorem cv_RX9_145 : CV RX9 145 yX9_wordHere cX9_wordHere 2 (some .int) 0 9 := ⟨(gt6 74 rfl rfl), (gt6 76 rfl rfl), (gt_sel 64 rfl rfl), (gt1 15 rfl rfl), cm_X9_wordHere, by decide +kernel, by decide, by decide, TX9, 50, rfl⟩
theorem cv_RX9_155 : CV RX9 155 yX9_isSign cX9_isSign 2 (some .boolean) 1 9 := ⟨(gt6 109 rfl rfl), (gt6 111 rfl rfl), (gt_sel 71 rfl rfl), (gt1 15 rfl rfl), cm_X9_isSign, by decide +kernel, by decide, by decide, TX9, 50, rfl⟩
theorem cv_RX9_158 : CV RX9 158 yX9_bad cX9_bad 2 (some .boolean) 1 9 := ⟨(gt6 93 rfl rfl), (gt6 95 rfl rfl), (gt_sel 67 rfl rfl), (gt1 15 rfl rfl), cm_X9_bad, by decide +kernel, by decide, by decide, TX9, 50, rfl⟩
theorem cv_RX9_161 : CV RX9 161 yX9_go cX9_go 2 none 0 9 := ⟨(gt6 57 rfl rfl), (gt6 59 rfl rfl), (gt_sel 61 rfl rfl), (gt1 15 rfl rfl), cm_X9_go, by decide +kernel, by decide, by decide, TX9, 50, rfl⟩
theorem cv_RX9_164 : CV RX9 164 yX9_isName cX9_isName 1 (some .boolean) 0 9 := ⟨(gt6 97 rfl rfl), (gt6 99 rfl rfl), (gt_sel 68 rfl rfl), (gt1 15 rfl rfl), cm_X9_isName, by decide +kernel, by decide, by decide, TX9, 50, rfl⟩
theorem cv_RX9_168 : CV RX9 168 yX9_findIn cX9_findIn 4 (some .int) 2 9 := ⟨(gt6 101 rfl rfl), (gt6 103 rfl rfl), (gt_sel 69 rfl rfl), (gt1 15 rfl rfl), cm_X9_findIn, by decide +kernel, by decide, by decide, TX9, 50, rfl⟩
theorem cv_RX9_175 : CV RX9 175 yX9_readKnown cX9_readKnown 3 (some .boolean) 2 9 := ⟨(gt6 121 rfl rfl), (gt6 123 rfl rfl), (gt_sel 74 rfl rfl), (gt1 15 rfl rfl), cm_X9_readKnown, by decide +kernel, by decide, by decide, TX9, 50, rfl⟩
theorem cv_RX9_179 : CV RX9 179 yX9_eats cX9_eats 2 (some .boolean) 1 9 := ⟨(gt6 105 rfl rfl), (gt6 107 rfl rfl), (gt_sel 70 rfl rfl), (gt1 15 rfl rfl), cm_X9_eats, by decide +kernel, by decide, by decide, TX9, 50, rfl⟩
theorem cv_RX9_182 : CV RX9 182 yX9_readKind cX9_readKind 1 (some .boolean) 0 9 := ⟨(gt6 117 rfl rfl), (gt6 119 rfl rfl), (gt_sel 73 rfl rfl), (gt1 15 rfl rfl), cm_X9_readKind, by decide +kernel, by decide, by decide, TX9, 50, rfl⟩
theorem cv_RX9_185 : CV RX9 185 yX9_readState cX9_readState 2 (some .boolean) 1 9 := ⟨(gt6 125 rfl rfl), (gt6 127 rfl rfl), (gt_sel 75 rfl rfl), (gt1 15 rfl rfl), cm_X9_readState, by decide +kernel, by decide, by decide, TX9, 50, rfl⟩
theorem cv_RX9_195 : CV RX9 195 yX9_readKindLine cX9_readKindLine 3 (some .boolean) 0 9 := ⟨(gt6 89 rfl rfl), (gt6 91 rfl rfl), (gt_sel 66 rfl rfl), (gt1 15 rfl rfl), cm_X9_readKindLine, by decide +kernel, by decide, by decide, TX9, 50, rfl⟩
theorem cv_RX9_198 : CV RX9 198 yX9_readEndLine cX9_readEndLine 2 (some .boolean) 0 9 := ⟨(gt6 113 rfl rfl), (gt6 115 rfl rfl), (gt_sel 72 rfl rfl), (gt1 15 rfl rfl), cm_X9_readEndLine, by decide +kernel, by decide, by decide, TX9, 50, rfl⟩
theorem cv_RX9_201 : CV RX9 201 yX9_readMethodLine cX9_readMethodLine 8 (some .boolean) 1 9 := ⟨(gt6 129 rfl rfl), (gt6 131 rfl rfl), (gt_sel 76 rfl rfl), (gt1 15 rfl rfl), cm_X9_readMethodLine, by decide +kernel, by decide, by decide, TX9, 50, rfl⟩
theorem cv_RX9_204 : CV RX9 204 yX9_readVarLine cX9_readVarLine 2 (some .boolean) 0 9 := ⟨(gt6 139 rfl rfl), (gt6 141 rfl rfl), (gt_sel 77 rfl rfl), (gt1 15 rfl rfl), cm_X9_readVarLine, by decide +kernel, by decide, by decide, TX9, 50, rfl⟩
theorem cv_RX9_207 : CV RX9 207 yX9_isStatement cX9_isStatement 2 (some .boolean) 0 9 := ⟨(gt6 147 rfl rfl), (gt6 149 rfl rfl), (gt_sel 79 rfl rfl), (gt1 15 rfl rfl), cm_X9_isStatement, by decide +kernel, by decide, by decide, TX9, 50, rfl⟩
theorem cv_RX9_210 : CV RX9 210 yX9_readVariable cX9_readVariable 1 (some .boolean) 0 9 := ⟨(gt6 151 rfl rfl), (gt6 153 rfl rfl), (gt_sel 80 rfl rfl), (gt1 15 rfl rfl), cm_X9_readVariable, by decide +kernel, by decide, by decide, TX9, 50, rfl⟩
theorem cv_RX9_216 : CV RX9 216 yX9_readOther cX9_readOther 4 (some .boolean) 1 9 := ⟨(gt6 158 rfl rfl), (gt6 160 rfl rfl), (gt_sel 81 rfl rfl), (gt1 15 rfl rfl), cm_X9_readOther, by decide +kernel, by decide, by decide, TX9, 50, rfl⟩
theorem cv_RX9_222 : CV RX9 222 yX9_readMethod cX9_readMethod 5 (some .boolean) 2 9 := ⟨(gt6 165 rfl rfl), (gt6 167 rfl rfl), (gt_sel 82 rfl rfl), (gt1 15 rfl rfl), cm_X9_readMethod, by decide +kernel, by decide, by decide, TX9, 50, rfl⟩
theorem cv_RX9_229 : CV RX9 229 yX9_readBlock cX9_readBlock 4 (some .boolean) 3 9 := ⟨(gt6 172 rfl rfl), (gt6 174 rfl rfl), (gt_sel 83 rfl rfl), (gt1 15 rfl rfl), cm_X9_readBlock, by decide +kernel, by decide, by decide, TX9, 50, rfl⟩
theorem cv_RX9_233 : CV RX9 233 yX9_readStatement cX9_readStatement 6 (some .boolean) 3 9 := ⟨(gt6 143 rfl rfl), (gt6 145 rfl rfl), (gt_sel 78 rfl rfl), (gt1 15 rfl rfl), cm_X9_readStatement, by decide +kernel, by decide, by decide, TX9, 50, rfl⟩
theorem cv_RX9_236 : CV RX9 236 yX9_readLine cX9_readLine 2 (some .boolean) 1 9 := ⟨(gt6 85 rfl rfl), (gt6 87 rfl rfl), (gt_sel 65 rfl rfl), (gt1 15 rfl rfl), cm_X9_readLine, by decide +kernel, by decide, by decide, TX9, 50, rfl⟩
theorem cv_RX9_242 : CV RX9 242 yX9_refuse cX9_refuse 2 (some .int) 1 9 := ⟨(gt6 53 rfl rfl), (gt6 55 rfl rfl), (gt_sel 60 rfl rfl), (gt1 15 rfl rfl), cm_X9_refuse, by decide +kernel, by decide, by decide, TX9, 50, rfl⟩
theorem cv_RX9_245 : CV RX9 245 yX9_readText cX9_readText 1 (some .boolean) 0 9 := ⟨(gt6 70 rfl rfl), (gt6 72 rfl rfl), (gt_sel 63 rfl rfl), (gt1 15 rfl rfl), cm_X9_readText, by decide +kernel, by decide, by decide, TX9, 50, rfl⟩
theorem cv_RX9_248 : CV RX9 248 yX9_gives cX9_gives 2 (some .int) 1 9 := ⟨(gt6 176 rfl rfl), (gt6 178 rfl rfl), (gt_sel 84 rfl rfl), (gt1 15 rfl rfl), cm_X9_gives, by decide +kernel, by decide, by decide, TX9, 50, rfl⟩
theorem cv_RX9_251 : CV RX9 251 yX9_isKind cX9_isKind 2 (some .boolean) 1 9 := ⟨(gt6 192 rfl rfl), (gt6 194 rfl rfl), (gt_sel 85 rfl rfl), (gt1 15 rfl rfl), cm_X9_isKind, by decide +kernel, by decide, by decide, TX9, 50, rfl⟩
theorem cv_RX9_254 : CV RX9 254 yX9_yes cX9_yes 4 (some .int) 3 9 := ⟨(gt6 207 rfl rfl), (gt6 209 rfl rfl), (gt_sel 88 rfl rfl), (gt1 15 rfl rfl), cm_X9_yes, by decide +kernel, by decide, by decide, TX9, 50, rfl⟩
theorem cv_RX9_261 : CV RX9 261 yX9_canBe cX9_canBe 4 (some .boolean) 3 9 := ⟨(gt6 203 rfl rfl), (gt6 205 rfl rfl), (gt_sel 87 rfl rfl), (gt1 15 rfl rfl), cm_X9_canBe, by decide +kernel, by decide, by decide, TX9, 50, rfl⟩
theorem cv_RX9_264 : CV RX9 264 yX9_no cX9_no 4 (some .int) 3 9 := ⟨(gt6 211 rfl rfl), (gt6 213 rfl rfl), (gt_sel 89 rfl rfl), (gt1 15 rfl rfl), cm_X9_no, by decide +kernel, by decide, by decide, TX9, 50, rfl⟩
theorem cv_RX9_267 : CV RX9 267 yX9_reached cX9_reached 7 (some .int) 2 9 := ⟨(gt6 196 rfl rfl), (gt6 198 rfl rfl), (gt_sel 86 rfl rfl), (gt1 15 rfl rfl), cm_X9_reached, by decide +kernel, by decide, by decide, TX9, 50, rfl⟩
theorem cv_RX9_270 : CV RX9 270 yX9_isMethod cX9_isMethod 3 (some .boolean) 2 9 := ⟨(gt6 219 rfl rfl), (gt6 221 rfl rfl), (gt_sel 90 rfl rfl), (gt1 15 rfl rfl), cm_X9_isMethod, by decide +kernel, by decide, by decide, TX9, 50, rfl⟩
theorem cv_RX9_273 : CV RX9 273 yX9_canSet cX9_canSet 5 (some .int) 2 9 := ⟨(gt6 223 rfl rfl), (gt6 225 rfl rfl), (gt_sel 91 rfl rfl), (gt1 15 rfl rfl), cm_X9_canSet, by decide +kernel, by decide, by decide, TX9, 50, rfl⟩
theorem cv_RX9_276 : CV RX9 276 yX9_isState cX9_isState 3 (some .boolean) 2 9 := ⟨(gt6 231 rfl rfl), (gt6 233 rfl rfl), (gt_sel 92 rfl rfl), (gt1 15 rfl rfl), cm_X9_isState, by decide +kernel, by decide, by decide, TX9, 50, rfl⟩
theorem cv_RX9_284 : CV RX9 284 yX9_isEnd cX9_isEnd 3 (some .boolean) 2 9 := ⟨(gt7 7 rfl rfl), (gt7 9 rfl rfl), (gt_sel 94 rfl rfl), (gt1 15 rfl rfl), cm_X9_isEnd, by decide +kernel, by decide, by decide, TX9, 50, rfl⟩
theorem cv_RX9_287 : CV RX9 287 yX9_leastOf cX9_leastOf 4 (some .int) 3 9 := ⟨(gt7 11 rfl rfl), (gt7 13 rfl rfl), (gt_sel 95 rfl rfl), (gt1 15 rfl rfl), cm_X9_leastOf, by decide +kernel, by decide, by decide, TX9, 50, rfl⟩
theorem cv_RX9_290 : CV RX9 290 yX9_laysEnds cX9_laysEnds 5 none 1 9 := ⟨(gt7 3 rfl rfl), (gt7 5 rfl rfl), (gt_sel 93 rfl rfl), (gt1 15 rfl rfl), cm_X9_laysEnds, by decide +kernel, by decide, by decide, TX9, 50, rfl⟩
theorem cv_RX9_293 : CV RX9 293 yX9_differ cX9_differ 5 (some .boolean) 3 9 := ⟨(gt7 26 rfl rfl), (gt7 28 rfl rfl), (gt_sel 96 rfl rfl), (gt1 15 rfl rfl), cm_X9_differ, by decide +kernel, by decide, by decide, TX9, 50, rfl⟩
theorem cv_RX9_298 : CV RX9 298 yX9_statements cX9_statements 1 (some .int) 0 9 := ⟨(gt7 43 rfl rfl), (gt7 45 rfl rfl), (gt_sel 98 rfl rfl), (gt1 15 rfl rfl), cm_X9_statements, by decide +kernel, by decide, by decide, TX9, 50, rfl⟩
theorem cv_RX9_301 : CV RX9 301 yX9_nextIn cX9_nextIn 5 (some .int) 3 9 := ⟨(gt7 63 rfl rfl), (gt7 65 rfl rfl), (gt_sel 103 rfl rfl), (gt1 15 rfl rfl), cm_X9_nextIn, by decide +kernel, by decide, by decide, TX9, 50, rfl⟩
theorem cv_RX9_304 : CV RX9 304 yX9_sortAt cX9_sortAt 2 (some .int) 1 9 := ⟨(gt7 51 rfl rfl), (gt7 53 rfl rfl), (gt_sel 100 rfl rfl), (gt1 15 rfl rfl), cm_X9_sortAt, by decide +kernel, by decide, by decide, TX9, 50, rfl⟩
theorem cv_RX9_307 : CV RX9 307 yX9_isRound cX9_isRound 2 (some .boolean) 1 9 := ⟨(gt7 67 rfl rfl), (gt7 69 rfl rfl), (gt_sel 104 rfl rfl), (gt1 15 rfl rfl), cm_X9_isRound, by decide +kernel, by decide, by decide, TX9, 50, rfl⟩
theorem cv_RX9_310 : CV RX9 310 yX9_behind cX9_behind 4 (some .int) 1 9 := ⟨(gt7 59 rfl rfl), (gt7 61 rfl rfl), (gt_sel 102 rfl rfl), (gt1 15 rfl rfl), cm_X9_behind, by decide +kernel, by decide, by decide, TX9, 50, rfl⟩
theorem cv_RX9_313 : CV RX9 313 yX9_isStatementAt cX9_isStatementAt 2 (some .boolean) 1 9 := ⟨(gt7 39 rfl rfl), (gt7 41 rfl rfl), (gt_sel 97 rfl rfl), (gt1 15 rfl rfl), cm_X9_isStatementAt, by decide +kernel, by decide, by decide, TX9, 50, rfl⟩
theorem cv_RX9_316 : CV RX9 316 yX9_allIn cX9_allIn 2 none 0 9 := ⟨(gt7 47 rfl rfl), (gt7 49 rfl rfl), (gt_sel 99 rfl rfl), (gt1 15 rfl rfl), cm_X9_allIn, by decide +kernel, by decide, by decide, TX9, 50, rfl⟩
theorem cv_RX9_319 : CV RX9 319 yX9_byYes cX9_byYes 3 (some .int) 1 9 := ⟨(gt7 55 rfl rfl), (gt7 57 rfl rfl), (gt_sel 101 rfl rfl), (gt1 15 rfl rfl), cm_X9_byYes, by decide +kernel, by decide, by decide, TX9, 50, rfl⟩
theorem cv_RX9_322 : CV RX9 322 yX9_byNo cX9_byNo 4 (some .int) 1 9 := ⟨(gt7 71 rfl rfl), (gt7 73 rfl rfl), (gt_sel 105 rfl rfl), (gt1 15 rfl rfl), cm_X9_byNo, by decide +kernel, by decide, by decide, TX9, 50, rfl⟩
theorem cv_RX9_325 : CV RX9 325 yX9_isVariable cX9_isVariable 2 (some .boolean) 1 9 := ⟨(gt7 79 rfl rfl), (gt7 81 rfl rfl), (gt_sel 106 rfl rfl), (gt1 15 rfl rfl), cm_X9_isVariable, by decide +kernel, by decide, by decide, TX9, 50, rfl⟩
theorem cv_RX9_335 : CV RX9 335 yX9_frees cX9_frees 3 none 1 9 := ⟨(gt7 122 rfl rfl), (gt7 124 rfl rfl), (gt_sel 115 rfl rfl), (gt1 15 rfl rfl), cm_X9_frees, by decide +kernel, by decide, by decide, TX9, 50, rfl⟩
theorem cv_RX9_338 : CV RX9 338 yX9_empties cX9_empties 2 none 1 9 := ⟨(gt7 118 rfl rfl), (gt7 120 rfl rfl), (gt_sel 114 rfl rfl), (gt1 15 rfl rfl), cm_X9_empties, by decide +kernel, by decide, by decide, TX9, 50, rfl⟩
theorem cv_RX9_341 : CV RX9 341 yX9_joins cX9_joins 5 none 3 9 := ⟨(gt7 126 rfl rfl), (gt7 128 rfl rfl), (gt_sel 116 rfl rfl), (gt1 15 rfl rfl), cm_X9_joins, by decide +kernel, by decide, by decide, TX9, 50, rfl⟩
theorem cv_RX9_345 : CV RX9 345 yX9_imageOf cX9_imageOf 7 (some .int) 4 9 := ⟨(gt7 134 rfl rfl), (gt7 136 rfl rfl), (gt_sel 118 rfl rfl), (gt1 15 rfl rfl), cm_X9_imageOf, by decide +kernel, by decide, by decide, TX9, 50, rfl⟩
theorem cv_RX9_349 : CV RX9 349 yX9_takes cX9_takes 3 none 1 9 := ⟨(gt7 110 rfl rfl), (gt7 112 rfl rfl), (gt_sel 112 rfl rfl), (gt1 15 rfl rfl), cm_X9_takes, by decide +kernel, by decide, by decide, TX9, 50, rfl⟩
theorem cv_RX9_352 : CV RX9 352 yX9_goes cX9_goes 4 none 1 9 := ⟨(gt7 114 rfl rfl), (gt7 116 rfl rfl), (gt_sel 113 rfl rfl), (gt1 15 rfl rfl), cm_X9_goes, by decide +kernel, by decide, by decide, TX9, 50, rfl⟩
theorem cv_RX9_355 : CV RX9 355 yX9_merges cX9_merges 9 none 1 9 := ⟨(gt7 99 rfl rfl), (gt7 101 rfl rfl), (gt_sel 110 rfl rfl), (gt1 15 rfl rfl), cm_X9_merges, by decide +kernel, by decide, by decide, TX9, 50, rfl⟩
theorem cv_RX9_358 : CV RX9 358 yX9_asks cX9_asks 8 (some .boolean) 2 9 := ⟨(gt7 130 rfl rfl), (gt7 132 rfl rfl), (gt_sel 117 rfl rfl), (gt1 15 rfl rfl), cm_X9_asks, by decide +kernel, by decide, by decide, TX9, 50, rfl⟩
theorem cv_RX9_361 : CV RX9 361 yX9_firstPlace cX9_firstPlace 2 (some .int) 0 9 := ⟨(gt7 95 rfl rfl), (gt7 97 rfl rfl), (gt_sel 109 rfl rfl), (gt1 15 rfl rfl), cm_X9_firstPlace, by decide +kernel, by decide, by decide, TX9, 50, rfl⟩
theorem cv_RX9_364 : CV RX9 364 yX9_passes cX9_passes 3 none 1 9 := ⟨(gt7 106 rfl rfl), (gt7 108 rfl rfl), (gt_sel 111 rfl rfl), (gt1 15 rfl rfl), cm_X9_passes, by decide +kernel, by decide, by decide, TX9, 50, rfl⟩
theorem cv_RX9_376 : CV RX9 376 yX9_whyAt cX9_whyAt 6 (some .int) 1 9 := ⟨(gt7 138 rfl rfl), (gt7 140 rfl rfl), (gt_sel 119 rfl rfl), (gt1 15 rfl rfl), cm_X9_whyAt, by decide +kernel, by decide, by decide, TX9, 50, rfl⟩
theorem cv_RX9_379 : CV RX9 379 yX9_endsOf cX9_endsOf 2 (some .int) 1 9 := ⟨(gt7 142 rfl rfl), (gt7 144 rfl rfl), (gt_sel 120 rfl rfl), (gt1 15 rfl rfl), cm_X9_endsOf, by decide +kernel, by decide, by decide, TX9, 50, rfl⟩
theorem cv_RX9_382 : CV RX9 382 yX9_checks cX9_checks 3 none 0 9 := ⟨(gt7 91 rfl rfl), (gt7 93 rfl rfl), (gt_sel 108 rfl rfl), (gt1 15 rfl rfl), cm_X9_checks, by decide +kernel, by decide, by decide, TX9, 50, rfl⟩
theorem cv_RX9_385 : CV RX9 385 yX9_checksAll cX9_checksAll 1 none 0 9 := ⟨(gt7 87 rfl rfl), (gt7 89 rfl rfl), (gt_sel 107 rfl rfl), (gt1 15 rfl rfl), cm_X9_checksAll, by decide +kernel, by decide, by decide, TX9, 50, rfl⟩
theorem cv_RX9_388 : CV RX9 388 yX9_isPlace cX9_isPlace 2 (some .boolean) 1 9 := ⟨(gt7 150 rfl rfl), (gt7 152 rfl rfl), (gt_sel 121 rfl rfl), (gt1 15 rfl rfl), cm_X9_isPlace, by decide +kernel, by decide, by decide, TX9, 50, rfl⟩
theorem cv_RX9_391 : CV RX9 391 yX9_isMended cX9_isMended 3 (some .boolean) 1 9 := ⟨(gt7 158 rfl rfl), (gt7 160 rfl rfl), (gt_sel 122 rfl rfl), (gt1 15 rfl rfl), cm_X9_isMended, by decide +kernel, by decide, by decide, TX9, 50, rfl⟩
theorem cv_RX9_394 : CV RX9 394 yX9_gets cX9_gets 4 (some .int) 3 9 := ⟨(gt7 211 rfl rfl), (gt7 213 rfl rfl), (gt_sel 133 rfl rfl), (gt1 15 rfl rfl), cm_X9_gets, by decide +kernel, by decide, by decide, TX9, 50, rfl⟩
theorem cv_RX9_397 : CV RX9 397 yX9_lets cX9_lets 2 none 1 9 := ⟨(gt7 178 rfl rfl), (gt7 180 rfl rfl), (gt_sel 125 rfl rfl), (gt1 15 rfl rfl), cm_X9_lets, by decide +kernel, by decide, by decide, TX9, 50, rfl⟩
theorem cv_RX9_400 : CV RX9 400 yX9_isAlone cX9_isAlone 3 (some .boolean) 1 9 := ⟨(gt7 215 rfl rfl), (gt7 217 rfl rfl), (gt_sel 134 rfl rfl), (gt1 15 rfl rfl), cm_X9_isAlone, by decide +kernel, by decide, by decide, TX9, 50, rfl⟩
theorem cv_RX9_403 : CV RX9 403 yX9_drops cX9_drops 5 (some .int) 1 9 := ⟨(gt7 219 rfl rfl), (gt7 221 rfl rfl), (gt_sel 135 rfl rfl), (gt1 15 rfl rfl), cm_X9_drops, by decide +kernel, by decide, by decide, TX9, 50, rfl⟩
theorem cv_RX9_406 : CV RX9 406 yX9_codeOf cX9_codeOf 7 (some .long) 1 9 := ⟨(gt7 186 rfl rfl), (gt7 188 rfl rfl), (gt_sel 127 rfl rfl), (gt1 15 rfl rfl), cm_X9_codeOf, by decide +kernel, by decide, by decide, TX9, 50, rfl⟩
theorem cv_RX9_415 : CV RX9 415 yX9_lays cX9_lays 6 (some .int) 1 9 := ⟨(gt7 194 rfl rfl), (gt7 196 rfl rfl), (gt_sel 129 rfl rfl), (gt1 15 rfl rfl), cm_X9_lays, by decide +kernel, by decide, by decide, TX9, 50, rfl⟩
theorem cv_RX9_422 : CV RX9 422 yX9_things cX9_things 5 (some .int) 0 9 := ⟨(gt7 198 rfl rfl), (gt7 200 rfl rfl), (gt_sel 130 rfl rfl), (gt1 15 rfl rfl), cm_X9_things, by decide +kernel, by decide, by decide, TX9, 50, rfl⟩
theorem cv_RX9_428 : CV RX9 428 yX9_finishes cX9_finishes 3 (some .int) 0 9 := ⟨(gt7 203 rfl rfl), (gt7 205 rfl rfl), (gt_sel 131 rfl rfl), (gt1 15 rfl rfl), cm_X9_finishes, by decide +kernel, by decide, by decide, TX9, 50, rfl⟩
theorem cv_RX9_431 : CV RX9 431 yX9_adds cX9_adds 6 none 2 9 := ⟨(gt7 182 rfl rfl), (gt7 184 rfl rfl), (gt_sel 126 rfl rfl), (gt1 15 rfl rfl), cm_X9_adds, by decide +kernel, by decide, by decide, TX9, 50, rfl⟩
theorem cv_RX9_435 : CV RX9 435 yX9_does cX9_does 11 (some .int) 3 9 := ⟨(gt7 207 rfl rfl), (gt7 209 rfl rfl), (gt_sel 132 rfl rfl), (gt1 15 rfl rfl), cm_X9_does, by decide +kernel, by decide, by decide, TX9, 50, rfl⟩
theorem cv_RX9_439 : CV RX9 439 yX9_empty cX9_empty 2 none 0 9 := ⟨(gt7 174 rfl rfl), (gt7 176 rfl rfl), (gt_sel 124 rfl rfl), (gt1 15 rfl rfl), cm_X9_empty, by decide +kernel, by decide, by decide, TX9, 50, rfl⟩
theorem cv_RX9_442 : CV RX9 442 yX9_explores cX9_explores 5 none 1 9 := ⟨(gt7 190 rfl rfl), (gt7 192 rfl rfl), (gt_sel 128 rfl rfl), (gt1 15 rfl rfl), cm_X9_explores, by decide +kernel, by decide, by decide, TX9, 50, rfl⟩
theorem cv_RX9_445 : CV RX9 445 yX9_laysPaths cX9_laysPaths 2 none 0 9 := ⟨(gt7 170 rfl rfl), (gt7 172 rfl rfl), (gt_sel 123 rfl rfl), (gt1 15 rfl rfl), cm_X9_laysPaths, by decide +kernel, by decide, by decide, TX9, 50, rfl⟩
theorem cv_RX9_448 : CV RX9 448 yX9_firstWrong cX9_firstWrong 2 (some .int) 0 9 := ⟨(gt7 223 rfl rfl), (gt7 225 rfl rfl), (gt_sel 136 rfl rfl), (gt1 15 rfl rfl), cm_X9_firstWrong, by decide +kernel, by decide, by decide, TX9, 50, rfl⟩
theorem cv_RX9_451 : CV RX9 451 yX9_placeOf cX9_placeOf 2 (some .int) 1 9 := ⟨(gt7 227 rfl rfl), (gt7 229 rfl rfl), (gt_sel 137 rfl rfl), (gt1 15 rfl rfl), cm_X9_placeOf, by decide +kernel, by decide, by decide, TX9, 50, rfl⟩
theorem cv_RX9_454 : CV RX9 454 yX9_stepsTo cX9_stepsTo 4 (some .int) 1 9 := ⟨(gt7 231 rfl rfl), (gt7 233 rfl rfl), (gt_sel 138 rfl rfl), (gt1 15 rfl rfl), cm_X9_stepsTo, by decide +kernel, by decide, by decide, TX9, 50, rfl⟩
theorem cv_RX9_457 : CV RX9 457 yX9_onesWith cX9_onesWith 4 (some .int) 1 9 := ⟨(gt8 3 rfl rfl), (gt8 5 rfl rfl), (gt_sel 139 rfl rfl), (gt1 15 rfl rfl), cm_X9_onesWith, by decide +kernel, by decide, by decide, TX9, 50, rfl⟩
theorem cv_RX9_470 : CV RX9 470 yX9_drawsYes cX9_drawsYes 1 (some .boolean) 0 9 := ⟨(gt8 28 rfl rfl), (gt8 30 rfl rfl), (gt_sel 142 rfl rfl), (gt1 15 rfl rfl), cm_X9_drawsYes, by decide +kernel, by decide, by decide, TX9, 50, rfl⟩
theorem cv_RX9_476 : CV RX9 476 yX9_asksWrong cX9_asksWrong 3 (some .int) 1 9 := ⟨(gt8 33 rfl rfl), (gt8 35 rfl rfl), (gt_sel 143 rfl rfl), (gt1 15 rfl rfl), cm_X9_asksWrong, by decide +kernel, by decide, by decide, TX9, 50, rfl⟩
theorem cv_RX9_482 : CV RX9 482 yX9_stands cX9_stands 5 (some .int) 0 9 := ⟨(gt8 24 rfl rfl), (gt8 26 rfl rfl), (gt_sel 141 rfl rfl), (gt1 15 rfl rfl), cm_X9_stands, by decide +kernel, by decide, by decide, TX9, 50, rfl⟩
theorem cv_RX9_486 : CV RX9 486 yX9_runsBy cX9_runsBy 2 none 1 9 := ⟨(gt8 20 rfl rfl), (gt8 22 rfl rfl), (gt_sel 140 rfl rfl), (gt1 15 rfl rfl), cm_X9_runsBy, by decide +kernel, by decide, by decide, TX9, 50, rfl⟩
theorem kc_RJ6_264 : Cond.constant RJ6 264 (65536) ∈ GT := (gt5 14 rfl rfl)
theorem kc_RX5_68 : Cond.constant RX5 68 (65537) ∈ GT := (gt5 110 rfl rfl)
theorem kc_RX8_278 : Cond.constant RX8 278 (65536) ∈ GT := (gt5 95 rfl rfl)
theorem kc_RX8_295 : Cond.constant RX8 295 (65537) ∈ GT := (gt5 116 rfl rfl)
theorem kc_RX9_463 : Cond.constant RX9 463 (65537) ∈ GT := (gt8 32 rfl rfl)
theorem kc_RX9_485 : Cond.constant RX9 485 (65536) ∈ GT := (gt8 19 rfl rfl)
theorem kl_RX2_100 : Cond.constantLong RX2 100 (1000000007) ∈ GT := (gt4 70 rfl rfl)
theorem kl_RX6_160 : Cond.constantLong RX6 160 (-7046029254386353131) ∈ GT := (gt5 19 rfl rfl)
theorem kl_RX7_31 : Cond.constantLong RX7 31 (32) ∈ GT := (gt1 88 rfl rfl)
theorem kl_RX9_128 : Cond.constantLong RX9 128 (27) ∈ GT := (gt6 68 rfl rfl)
theorem kl_RX9_130 : Cond.constantLong RX9 130 (96) ∈ GT := (gt6 69 rfl rfl)
theorem kl_RX9_139 : Cond.constantLong RX9 139 (-1) ∈ GT := (gt6 84 rfl rfl)
theorem kl_RX9_296 : Cond.constantLong RX9 296 (1000000007) ∈ GT := (gt7 34 rfl rfl)
theorem lf_RX0_11 : FL RX0 11 0 0 2 := ⟨RX0, TX0, 8, rfl, by decide, rfl, rfl, by decide, (gt2 85 rfl rfl), cw_0⟩
theorem lf_RX0_17 : FL RX0 17 0 1 2 := ⟨RX0, TX0, 8, rfl, by decide, rfl, rfl, by decide, (gt2 87 rfl rfl), cw_0⟩
theorem lf_RX0_21 : FL RX0 21 0 2 2 := ⟨RX0, TX0, 8, rfl, by decide, rfl, rfl, by decide, (gt2 89 rfl rfl), cw_0⟩
theorem lf_RX0_25 : FL RX0 25 0 6 2 := ⟨RX0, TX0, 8, rfl, by decide, rfl, rfl, by decide, (gt2 97 rfl rfl), cw_0⟩
theorem lf_RX0_29 : FL RX0 29 0 7 2 := ⟨RX0, TX0, 8, rfl, by decide, rfl, rfl, by decide, (gt2 98 rfl rfl), cw_0⟩
theorem lf_RX0_33 : FL RX0 33 0 4 0 := ⟨RX0, TX0, 8, rfl, by decide, rfl, rfl, by decide, (gt2 93 rfl rfl), cw_0⟩
theorem lf_RX0_50 : FL RX0 50 4 3 0 := ⟨RX4, TX4, 15, rfl, by decide, rfl, rfl, by decide, (gt1 196 rfl rfl), cw_4⟩
theorem lf_RX0_67 : FL RX0 67 4 12 2 := ⟨RX4, TX4, 15, rfl, by decide, rfl, rfl, by decide, (gt1 228 rfl rfl), cw_4⟩
theorem lf_RX0_74 : FL RX0 74 4 13 2 := ⟨RX4, TX4, 15, rfl, by decide, rfl, rfl, by decide, (gt1 231 rfl rfl), cw_4⟩
theorem lf_RX0_77 : FL RX0 77 4 14 2 := ⟨RX4, TX4, 15, rfl, by decide, rfl, rfl, by decide, (gt1 236 rfl rfl), cw_4⟩
theorem lf_RX0_84 : FL RX0 84 0 3 0 := ⟨RX0, TX0, 8, rfl, by decide, rfl, rfl, by decide, (gt2 91 rfl rfl), cw_0⟩
theorem lf_RX0_87 : FL RX0 87 0 5 0 := ⟨RX0, TX0, 8, rfl, by decide, rfl, rfl, by decide, (gt2 95 rfl rfl), cw_0⟩
theorem lf_RX1_11 : FL RX1 11 1 0 2 := ⟨RX1, TX1, 1, rfl, by decide, rfl, rfl, by decide, (gt2 81 rfl rfl), cw_1⟩
theorem lf_RX1_27 : FL RX1 27 4 3 0 := ⟨RX4, TX4, 15, rfl, by decide, rfl, rfl, by decide, (gt1 200 rfl rfl), cw_4⟩
theorem lf_RX1_37 : FL RX1 37 4 5 2 := ⟨RX4, TX4, 15, rfl, by decide, rfl, rfl, by decide, (gt1 209 rfl rfl), cw_4⟩
theorem lf_RX1_40 : FL RX1 40 4 6 2 := ⟨RX4, TX4, 15, rfl, by decide, rfl, rfl, by decide, (gt1 213 rfl rfl), cw_4⟩
theorem lf_RX1_43 : FL RX1 43 4 4 2 := ⟨RX4, TX4, 15, rfl, by decide, rfl, rfl, by decide, (gt1 204 rfl rfl), cw_4⟩
theorem lf_RX1_65 : FL RX1 65 4 7 2 := ⟨RX4, TX4, 15, rfl, by decide, rfl, rfl, by decide, (gt1 217 rfl rfl), cw_4⟩
theorem lf_RX1_72 : FL RX1 72 4 1 0 := ⟨RX4, TX4, 15, rfl, by decide, rfl, rfl, by decide, (gt1 188 rfl rfl), cw_4⟩
theorem lf_RX1_82 : FL RX1 82 4 2 2 := ⟨RX4, TX4, 15, rfl, by decide, rfl, rfl, by decide, (gt1 192 rfl rfl), cw_4⟩
theorem lf_RX1_85 : FL RX1 85 4 0 2 := ⟨RX4, TX4, 15, rfl, by decide, rfl, rfl, by decide, (gt1 183 rfl rfl), cw_4⟩
theorem lf_RX1_97 : FL RX1 97 2 2 2 := ⟨RX2, TX2, 12, rfl, by decide, rfl, rfl, by decide, (gt1 142 rfl rfl), cw_2⟩
theorem lf_RX2_15 : FL RX2 15 2 2 2 := ⟨RX2, TX2, 12, rfl, by decide, rfl, rfl, by decide, (gt1 139 rfl rfl), cw_2⟩
theorem lf_RX2_18 : FL RX2 18 2 3 2 := ⟨RX2, TX2, 12, rfl, by decide, rfl, rfl, by decide, (gt1 143 rfl rfl), cw_2⟩
theorem lf_RX2_21 : FL RX2 21 2 4 2 := ⟨RX2, TX2, 12, rfl, by decide, rfl, rfl, by decide, (gt1 146 rfl rfl), cw_2⟩
theorem lf_RX2_24 : FL RX2 24 2 5 2 := ⟨RX2, TX2, 12, rfl, by decide, rfl, rfl, by decide, (gt1 147 rfl rfl), cw_2⟩
theorem lf_RX2_27 : FL RX2 27 2 6 2 := ⟨RX2, TX2, 12, rfl, by decide, rfl, rfl, by decide, (gt1 148 rfl rfl), cw_2⟩
theorem lf_RX2_30 : FL RX2 30 2 7 2 := ⟨RX2, TX2, 12, rfl, by decide, rfl, rfl, by decide, (gt1 149 rfl rfl), cw_2⟩
theorem lf_RX2_33 : FL RX2 33 2 8 2 := ⟨RX2, TX2, 12, rfl, by decide, rfl, rfl, by decide, (gt1 150 rfl rfl), cw_2⟩
theorem lf_RX2_36 : FL RX2 36 2 9 2 := ⟨RX2, TX2, 12, rfl, by decide, rfl, rfl, by decide, (gt1 151 rfl rfl), cw_2⟩
theorem lf_RX2_39 : FL RX2 39 2 10 2 := ⟨RX2, TX2, 12, rfl, by decide, rfl, rfl, by decide, (gt1 152 rfl rfl), cw_2⟩
theorem lf_RX2_43 : FL RX2 43 2 11 2 := ⟨RX2, TX2, 12, rfl, by decide, rfl, rfl, by decide, (gt1 153 rfl rfl), cw_2⟩
theorem lf_RX2_46 : FL RX2 46 2 0 0 := ⟨RX2, TX2, 12, rfl, by decide, rfl, rfl, by decide, (gt1 133 rfl rfl), cw_2⟩
theorem lf_RX2_9 : FL RX2 9 2 1 2 := ⟨RX2, TX2, 12, rfl, by decide, rfl, rfl, by decide, (gt1 136 rfl rfl), cw_2⟩
theorem lf_RX3_100 : FL RX3 100 4 0 2 := ⟨RX4, TX4, 15, rfl, by decide, rfl, rfl, by decide, (gt1 181 rfl rfl), cw_4⟩
theorem lf_RX3_104 : FL RX3 104 2 0 0 := ⟨RX2, TX2, 12, rfl, by decide, rfl, rfl, by decide, (gt1 134 rfl rfl), cw_2⟩
theorem lf_RX3_12 : FL RX3 12 3 0 2 := ⟨RX3, TX3, 11, rfl, by decide, rfl, rfl, by decide, (gt2 30 rfl rfl), cw_3⟩
theorem lf_RX3_120 : FL RX3 120 7 3 1 := ⟨RX7, TX7, 8, rfl, by decide, rfl, rfl, by decide, (gt1 96 rfl rfl), cw_7⟩
theorem lf_RX3_124 : FL RX3 124 2 1 2 := ⟨RX2, TX2, 12, rfl, by decide, rfl, rfl, by decide, (gt1 137 rfl rfl), cw_2⟩
theorem lf_RX3_134 : FL RX3 134 2 2 2 := ⟨RX2, TX2, 12, rfl, by decide, rfl, rfl, by decide, (gt1 141 rfl rfl), cw_2⟩
theorem lf_RX3_152 : FL RX3 152 4 1 0 := ⟨RX4, TX4, 15, rfl, by decide, rfl, rfl, by decide, (gt1 187 rfl rfl), cw_4⟩
theorem lf_RX3_155 : FL RX3 155 4 2 2 := ⟨RX4, TX4, 15, rfl, by decide, rfl, rfl, by decide, (gt1 191 rfl rfl), cw_4⟩
theorem lf_RX3_172 : FL RX3 172 4 5 2 := ⟨RX4, TX4, 15, rfl, by decide, rfl, rfl, by decide, (gt1 210 rfl rfl), cw_4⟩
theorem lf_RX3_175 : FL RX3 175 4 6 2 := ⟨RX4, TX4, 15, rfl, by decide, rfl, rfl, by decide, (gt1 214 rfl rfl), cw_4⟩
theorem lf_RX3_178 : FL RX3 178 2 3 2 := ⟨RX2, TX2, 12, rfl, by decide, rfl, rfl, by decide, (gt1 145 rfl rfl), cw_2⟩
theorem lf_RX3_184 : FL RX3 184 4 7 2 := ⟨RX4, TX4, 15, rfl, by decide, rfl, rfl, by decide, (gt1 218 rfl rfl), cw_4⟩
theorem lf_RX3_187 : FL RX3 187 4 10 2 := ⟨RX4, TX4, 15, rfl, by decide, rfl, rfl, by decide, (gt1 224 rfl rfl), cw_4⟩
theorem lf_RX3_190 : FL RX3 190 4 4 2 := ⟨RX4, TX4, 15, rfl, by decide, rfl, rfl, by decide, (gt1 205 rfl rfl), cw_4⟩
theorem lf_RX3_193 : FL RX3 193 4 11 2 := ⟨RX4, TX4, 15, rfl, by decide, rfl, rfl, by decide, (gt1 226 rfl rfl), cw_4⟩
theorem lf_RX3_202 : FL RX3 202 7 1 0 := ⟨RX7, TX7, 8, rfl, by decide, rfl, rfl, by decide, (gt1 92 rfl rfl), cw_7⟩
theorem lf_RX3_21 : FL RX3 21 3 3 2 := ⟨RX3, TX3, 11, rfl, by decide, rfl, rfl, by decide, (gt2 36 rfl rfl), cw_3⟩
theorem lf_RX3_25 : FL RX3 25 3 4 2 := ⟨RX3, TX3, 11, rfl, by decide, rfl, rfl, by decide, (gt2 37 rfl rfl), cw_3⟩
theorem lf_RX3_29 : FL RX3 29 3 5 2 := ⟨RX3, TX3, 11, rfl, by decide, rfl, rfl, by decide, (gt2 38 rfl rfl), cw_3⟩
theorem lf_RX3_32 : FL RX3 32 3 6 2 := ⟨RX3, TX3, 11, rfl, by decide, rfl, rfl, by decide, (gt2 39 rfl rfl), cw_3⟩
theorem lf_RX3_35 : FL RX3 35 3 7 2 := ⟨RX3, TX3, 11, rfl, by decide, rfl, rfl, by decide, (gt2 40 rfl rfl), cw_3⟩
theorem lf_RX3_38 : FL RX3 38 3 8 2 := ⟨RX3, TX3, 11, rfl, by decide, rfl, rfl, by decide, (gt2 41 rfl rfl), cw_3⟩
theorem lf_RX3_42 : FL RX3 42 3 9 2 := ⟨RX3, TX3, 11, rfl, by decide, rfl, rfl, by decide, (gt2 42 rfl rfl), cw_3⟩
theorem lf_RX3_53 : FL RX3 53 3 10 0 := ⟨RX3, TX3, 11, rfl, by decide, rfl, rfl, by decide, (gt2 43 rfl rfl), cw_3⟩
theorem lf_RX3_72 : FL RX3 72 7 2 0 := ⟨RX7, TX7, 8, rfl, by decide, rfl, rfl, by decide, (gt1 93 rfl rfl), cw_7⟩
theorem lf_RX3_82 : FL RX3 82 4 3 0 := ⟨RX4, TX4, 15, rfl, by decide, rfl, rfl, by decide, (gt1 199 rfl rfl), cw_4⟩
theorem lf_RX4_12 : FL RX4 12 4 0 2 := ⟨RX4, TX4, 15, rfl, by decide, rfl, rfl, by decide, (gt1 180 rfl rfl), cw_4⟩
theorem lf_RX4_18 : FL RX4 18 4 2 2 := ⟨RX4, TX4, 15, rfl, by decide, rfl, rfl, by decide, (gt1 189 rfl rfl), cw_4⟩
theorem lf_RX4_22 : FL RX4 22 4 4 2 := ⟨RX4, TX4, 15, rfl, by decide, rfl, rfl, by decide, (gt1 201 rfl rfl), cw_4⟩
theorem lf_RX4_25 : FL RX4 25 4 5 2 := ⟨RX4, TX4, 15, rfl, by decide, rfl, rfl, by decide, (gt1 207 rfl rfl), cw_4⟩
theorem lf_RX4_28 : FL RX4 28 4 6 2 := ⟨RX4, TX4, 15, rfl, by decide, rfl, rfl, by decide, (gt1 212 rfl rfl), cw_4⟩
theorem lf_RX4_31 : FL RX4 31 4 7 2 := ⟨RX4, TX4, 15, rfl, by decide, rfl, rfl, by decide, (gt1 216 rfl rfl), cw_4⟩
theorem lf_RX4_34 : FL RX4 34 4 8 2 := ⟨RX4, TX4, 15, rfl, by decide, rfl, rfl, by decide, (gt1 220 rfl rfl), cw_4⟩
theorem lf_RX4_37 : FL RX4 37 4 9 2 := ⟨RX4, TX4, 15, rfl, by decide, rfl, rfl, by decide, (gt1 222 rfl rfl), cw_4⟩
theorem lf_RX4_40 : FL RX4 40 4 10 2 := ⟨RX4, TX4, 15, rfl, by decide, rfl, rfl, by decide, (gt1 223 rfl rfl), cw_4⟩
theorem lf_RX4_43 : FL RX4 43 4 11 2 := ⟨RX4, TX4, 15, rfl, by decide, rfl, rfl, by decide, (gt1 225 rfl rfl), cw_4⟩
theorem lf_RX4_46 : FL RX4 46 4 12 2 := ⟨RX4, TX4, 15, rfl, by decide, rfl, rfl, by decide, (gt1 227 rfl rfl), cw_4⟩
theorem lf_RX4_49 : FL RX4 49 4 13 2 := ⟨RX4, TX4, 15, rfl, by decide, rfl, rfl, by decide, (gt1 229 rfl rfl), cw_4⟩
theorem lf_RX4_52 : FL RX4 52 4 14 2 := ⟨RX4, TX4, 15, rfl, by decide, rfl, rfl, by decide, (gt1 234 rfl rfl), cw_4⟩
theorem lf_RX4_59 : FL RX4 59 4 1 0 := ⟨RX4, TX4, 15, rfl, by decide, rfl, rfl, by decide, (gt1 184 rfl rfl), cw_4⟩
theorem lf_RX4_62 : FL RX4 62 4 3 0 := ⟨RX4, TX4, 15, rfl, by decide, rfl, rfl, by decide, (gt1 194 rfl rfl), cw_4⟩
theorem lf_RX5_12 : FL RX5 12 5 5 2 := ⟨RX5, TX5, 6, rfl, by decide, rfl, rfl, by decide, (gt2 196 rfl rfl), cw_5⟩
theorem lf_RX5_18 : FL RX5 18 5 0 0 := ⟨RX5, TX5, 6, rfl, by decide, rfl, rfl, by decide, (gt2 187 rfl rfl), cw_5⟩
theorem lf_RX5_22 : FL RX5 22 5 1 0 := ⟨RX5, TX5, 6, rfl, by decide, rfl, rfl, by decide, (gt2 189 rfl rfl), cw_5⟩
theorem lf_RX5_25 : FL RX5 25 5 2 0 := ⟨RX5, TX5, 6, rfl, by decide, rfl, rfl, by decide, (gt2 191 rfl rfl), cw_5⟩
theorem lf_RX5_28 : FL RX5 28 5 3 0 := ⟨RX5, TX5, 6, rfl, by decide, rfl, rfl, by decide, (gt2 193 rfl rfl), cw_5⟩
theorem lf_RX5_31 : FL RX5 31 5 4 0 := ⟨RX5, TX5, 6, rfl, by decide, rfl, rfl, by decide, (gt2 195 rfl rfl), cw_5⟩
theorem lf_RX5_41 : FL RX5 41 4 3 0 := ⟨RX4, TX4, 15, rfl, by decide, rfl, rfl, by decide, (gt1 195 rfl rfl), cw_4⟩
theorem lf_RX5_50 : FL RX5 50 4 14 2 := ⟨RX4, TX4, 15, rfl, by decide, rfl, rfl, by decide, (gt1 235 rfl rfl), cw_4⟩
theorem lf_RX5_58 : FL RX5 58 4 4 2 := ⟨RX4, TX4, 15, rfl, by decide, rfl, rfl, by decide, (gt1 202 rfl rfl), cw_4⟩
theorem lf_RX5_65 : FL RX5 65 4 13 2 := ⟨RX4, TX4, 15, rfl, by decide, rfl, rfl, by decide, (gt1 230 rfl rfl), cw_4⟩
theorem lf_RX6_105 : FL RX6 105 4 1 0 := ⟨RX4, TX4, 15, rfl, by decide, rfl, rfl, by decide, (gt1 185 rfl rfl), cw_4⟩
theorem lf_RX6_127 : FL RX6 127 4 3 0 := ⟨RX4, TX4, 15, rfl, by decide, rfl, rfl, by decide, (gt1 198 rfl rfl), cw_4⟩
theorem lf_RX6_130 : FL RX6 130 4 2 2 := ⟨RX4, TX4, 15, rfl, by decide, rfl, rfl, by decide, (gt1 190 rfl rfl), cw_4⟩
theorem lf_RX6_136 : FL RX6 136 4 4 2 := ⟨RX4, TX4, 15, rfl, by decide, rfl, rfl, by decide, (gt1 203 rfl rfl), cw_4⟩
theorem lf_RX6_139 : FL RX6 139 4 5 2 := ⟨RX4, TX4, 15, rfl, by decide, rfl, rfl, by decide, (gt1 208 rfl rfl), cw_4⟩
theorem lf_RX6_146 : FL RX6 146 4 13 2 := ⟨RX4, TX4, 15, rfl, by decide, rfl, rfl, by decide, (gt1 232 rfl rfl), cw_4⟩
theorem lf_RX6_149 : FL RX6 149 4 14 2 := ⟨RX4, TX4, 15, rfl, by decide, rfl, rfl, by decide, (gt1 237 rfl rfl), cw_4⟩
theorem lf_RX6_15 : FL RX6 15 6 8 2 := ⟨RX6, TX6, 15, rfl, by decide, rfl, rfl, by decide, (gt2 140 rfl rfl), cw_6⟩
theorem lf_RX6_19 : FL RX6 19 6 10 2 := ⟨RX6, TX6, 15, rfl, by decide, rfl, rfl, by decide, (gt2 143 rfl rfl), cw_6⟩
theorem lf_RX6_23 : FL RX6 23 6 11 2 := ⟨RX6, TX6, 15, rfl, by decide, rfl, rfl, by decide, (gt2 144 rfl rfl), cw_6⟩
theorem lf_RX6_26 : FL RX6 26 6 12 2 := ⟨RX6, TX6, 15, rfl, by decide, rfl, rfl, by decide, (gt2 145 rfl rfl), cw_6⟩
theorem lf_RX6_32 : FL RX6 32 6 13 2 := ⟨RX6, TX6, 15, rfl, by decide, rfl, rfl, by decide, (gt2 146 rfl rfl), cw_6⟩
theorem lf_RX6_36 : FL RX6 36 6 14 2 := ⟨RX6, TX6, 15, rfl, by decide, rfl, rfl, by decide, (gt2 147 rfl rfl), cw_6⟩
theorem lf_RX6_53 : FL RX6 53 6 0 0 := ⟨RX6, TX6, 15, rfl, by decide, rfl, rfl, by decide, (gt2 124 rfl rfl), cw_6⟩
theorem lf_RX6_57 : FL RX6 57 6 1 0 := ⟨RX6, TX6, 15, rfl, by decide, rfl, rfl, by decide, (gt2 126 rfl rfl), cw_6⟩
theorem lf_RX6_77 : FL RX6 77 6 9 0 := ⟨RX6, TX6, 15, rfl, by decide, rfl, rfl, by decide, (gt2 142 rfl rfl), cw_6⟩
theorem lf_RX6_84 : FL RX6 84 6 3 0 := ⟨RX6, TX6, 15, rfl, by decide, rfl, rfl, by decide, (gt2 130 rfl rfl), cw_6⟩
theorem lf_RX6_87 : FL RX6 87 6 2 0 := ⟨RX6, TX6, 15, rfl, by decide, rfl, rfl, by decide, (gt2 128 rfl rfl), cw_6⟩
theorem lf_RX6_9 : FL RX6 9 6 7 2 := ⟨RX6, TX6, 15, rfl, by decide, rfl, rfl, by decide, (gt2 138 rfl rfl), cw_6⟩
theorem lf_RX6_90 : FL RX6 90 6 4 0 := ⟨RX6, TX6, 15, rfl, by decide, rfl, rfl, by decide, (gt2 132 rfl rfl), cw_6⟩
theorem lf_RX6_93 : FL RX6 93 6 5 0 := ⟨RX6, TX6, 15, rfl, by decide, rfl, rfl, by decide, (gt2 134 rfl rfl), cw_6⟩
theorem lf_RX6_96 : FL RX6 96 6 6 0 := ⟨RX6, TX6, 15, rfl, by decide, rfl, rfl, by decide, (gt2 136 rfl rfl), cw_6⟩
theorem lf_RX7_15 : FL RX7 15 7 7 2 := ⟨RX7, TX7, 8, rfl, by decide, rfl, rfl, by decide, (gt1 100 rfl rfl), cw_7⟩
theorem lf_RX7_37 : FL RX7 37 7 0 0 := ⟨RX7, TX7, 8, rfl, by decide, rfl, rfl, by decide, (gt1 89 rfl rfl), cw_7⟩
theorem lf_RX7_41 : FL RX7 41 7 4 0 := ⟨RX7, TX7, 8, rfl, by decide, rfl, rfl, by decide, (gt1 97 rfl rfl), cw_7⟩
theorem lf_RX7_44 : FL RX7 44 7 5 0 := ⟨RX7, TX7, 8, rfl, by decide, rfl, rfl, by decide, (gt1 98 rfl rfl), cw_7⟩
theorem lf_RX7_50 : FL RX7 50 7 1 0 := ⟨RX7, TX7, 8, rfl, by decide, rfl, rfl, by decide, (gt1 91 rfl rfl), cw_7⟩
theorem lf_RX7_53 : FL RX7 53 7 2 0 := ⟨RX7, TX7, 8, rfl, by decide, rfl, rfl, by decide, (gt1 94 rfl rfl), cw_7⟩
theorem lf_RX7_63 : FL RX7 63 7 3 1 := ⟨RX7, TX7, 8, rfl, by decide, rfl, rfl, by decide, (gt1 95 rfl rfl), cw_7⟩
theorem lf_RX7_9 : FL RX7 9 7 6 2 := ⟨RX7, TX7, 8, rfl, by decide, rfl, rfl, by decide, (gt1 99 rfl rfl), cw_7⟩
theorem lf_RX8_103 : FL RX8 103 4 0 2 := ⟨RX4, TX4, 15, rfl, by decide, rfl, rfl, by decide, (gt1 182 rfl rfl), cw_4⟩
theorem lf_RX8_107 : FL RX8 107 2 0 0 := ⟨RX2, TX2, 12, rfl, by decide, rfl, rfl, by decide, (gt1 135 rfl rfl), cw_2⟩
theorem lf_RX8_112 : FL RX8 112 4 1 0 := ⟨RX4, TX4, 15, rfl, by decide, rfl, rfl, by decide, (gt1 186 rfl rfl), cw_4⟩
theorem lf_RX8_118 : FL RX8 118 2 1 2 := ⟨RX2, TX2, 12, rfl, by decide, rfl, rfl, by decide, (gt1 138 rfl rfl), cw_2⟩
theorem lf_RX8_12 : FL RX8 12 8 0 2 := ⟨RX8, TX8, 12, rfl, by decide, rfl, rfl, by decide, (gt2 215 rfl rfl), cw_8⟩
theorem lf_RX8_121 : FL RX8 121 2 3 2 := ⟨RX2, TX2, 12, rfl, by decide, rfl, rfl, by decide, (gt1 144 rfl rfl), cw_2⟩
theorem lf_RX8_124 : FL RX8 124 2 2 2 := ⟨RX2, TX2, 12, rfl, by decide, rfl, rfl, by decide, (gt1 140 rfl rfl), cw_2⟩
theorem lf_RX8_176 : FL RX8 176 4 4 2 := ⟨RX4, TX4, 15, rfl, by decide, rfl, rfl, by decide, (gt1 206 rfl rfl), cw_4⟩
theorem lf_RX8_179 : FL RX8 179 4 5 2 := ⟨RX4, TX4, 15, rfl, by decide, rfl, rfl, by decide, (gt1 211 rfl rfl), cw_4⟩
theorem lf_RX8_182 : FL RX8 182 4 6 2 := ⟨RX4, TX4, 15, rfl, by decide, rfl, rfl, by decide, (gt1 215 rfl rfl), cw_4⟩
theorem lf_RX8_185 : FL RX8 185 4 7 2 := ⟨RX4, TX4, 15, rfl, by decide, rfl, rfl, by decide, (gt1 219 rfl rfl), cw_4⟩
theorem lf_RX8_188 : FL RX8 188 4 13 2 := ⟨RX4, TX4, 15, rfl, by decide, rfl, rfl, by decide, (gt1 233 rfl rfl), cw_4⟩
theorem lf_RX8_19 : FL RX8 19 8 1 2 := ⟨RX8, TX8, 12, rfl, by decide, rfl, rfl, by decide, (gt2 216 rfl rfl), cw_8⟩
theorem lf_RX8_191 : FL RX8 191 4 14 2 := ⟨RX4, TX4, 15, rfl, by decide, rfl, rfl, by decide, (gt1 238 rfl rfl), cw_4⟩
theorem lf_RX8_194 : FL RX8 194 4 8 2 := ⟨RX4, TX4, 15, rfl, by decide, rfl, rfl, by decide, (gt1 221 rfl rfl), cw_4⟩
theorem lf_RX8_200 : FL RX8 200 4 2 2 := ⟨RX4, TX4, 15, rfl, by decide, rfl, rfl, by decide, (gt1 193 rfl rfl), cw_4⟩
theorem lf_RX8_207 : FL RX8 207 0 3 0 := ⟨RX0, TX0, 8, rfl, by decide, rfl, rfl, by decide, (gt2 92 rfl rfl), cw_0⟩
theorem lf_RX8_210 : FL RX8 210 0 4 0 := ⟨RX0, TX0, 8, rfl, by decide, rfl, rfl, by decide, (gt2 94 rfl rfl), cw_0⟩
theorem lf_RX8_217 : FL RX8 217 0 5 0 := ⟨RX0, TX0, 8, rfl, by decide, rfl, rfl, by decide, (gt2 96 rfl rfl), cw_0⟩
theorem lf_RX8_223 : FL RX8 223 0 1 2 := ⟨RX0, TX0, 8, rfl, by decide, rfl, rfl, by decide, (gt2 88 rfl rfl), cw_0⟩
theorem lf_RX8_227 : FL RX8 227 0 2 2 := ⟨RX0, TX0, 8, rfl, by decide, rfl, rfl, by decide, (gt2 90 rfl rfl), cw_0⟩
theorem lf_RX8_23 : FL RX8 23 8 2 2 := ⟨RX8, TX8, 12, rfl, by decide, rfl, rfl, by decide, (gt2 217 rfl rfl), cw_8⟩
theorem lf_RX8_230 : FL RX8 230 0 0 2 := ⟨RX0, TX0, 8, rfl, by decide, rfl, rfl, by decide, (gt2 86 rfl rfl), cw_0⟩
theorem lf_RX8_246 : FL RX8 246 6 1 0 := ⟨RX6, TX6, 15, rfl, by decide, rfl, rfl, by decide, (gt2 127 rfl rfl), cw_6⟩
theorem lf_RX8_250 : FL RX8 250 6 2 0 := ⟨RX6, TX6, 15, rfl, by decide, rfl, rfl, by decide, (gt2 129 rfl rfl), cw_6⟩
theorem lf_RX8_253 : FL RX8 253 6 0 0 := ⟨RX6, TX6, 15, rfl, by decide, rfl, rfl, by decide, (gt2 125 rfl rfl), cw_6⟩
theorem lf_RX8_254 : FL RX8 254 6 3 0 := ⟨RX6, TX6, 15, rfl, by decide, rfl, rfl, by decide, (gt2 131 rfl rfl), cw_6⟩
theorem lf_RX8_257 : FL RX8 257 6 4 0 := ⟨RX6, TX6, 15, rfl, by decide, rfl, rfl, by decide, (gt2 133 rfl rfl), cw_6⟩
theorem lf_RX8_260 : FL RX8 260 6 5 0 := ⟨RX6, TX6, 15, rfl, by decide, rfl, rfl, by decide, (gt2 135 rfl rfl), cw_6⟩
theorem lf_RX8_263 : FL RX8 263 6 6 0 := ⟨RX6, TX6, 15, rfl, by decide, rfl, rfl, by decide, (gt2 137 rfl rfl), cw_6⟩
theorem lf_RX8_269 : FL RX8 269 6 7 2 := ⟨RX6, TX6, 15, rfl, by decide, rfl, rfl, by decide, (gt2 139 rfl rfl), cw_6⟩
theorem lf_RX8_275 : FL RX8 275 6 8 2 := ⟨RX6, TX6, 15, rfl, by decide, rfl, rfl, by decide, (gt2 141 rfl rfl), cw_6⟩
theorem lf_RX8_283 : FL RX8 283 5 0 0 := ⟨RX5, TX5, 6, rfl, by decide, rfl, rfl, by decide, (gt2 188 rfl rfl), cw_5⟩
theorem lf_RX8_286 : FL RX8 286 5 1 0 := ⟨RX5, TX5, 6, rfl, by decide, rfl, rfl, by decide, (gt2 190 rfl rfl), cw_5⟩
theorem lf_RX8_289 : FL RX8 289 5 2 0 := ⟨RX5, TX5, 6, rfl, by decide, rfl, rfl, by decide, (gt2 192 rfl rfl), cw_5⟩
theorem lf_RX8_29 : FL RX8 29 8 3 2 := ⟨RX8, TX8, 12, rfl, by decide, rfl, rfl, by decide, (gt2 218 rfl rfl), cw_8⟩
theorem lf_RX8_292 : FL RX8 292 5 3 0 := ⟨RX5, TX5, 6, rfl, by decide, rfl, rfl, by decide, (gt2 194 rfl rfl), cw_5⟩
theorem lf_RX8_296 : FL RX8 296 8 7 0 := ⟨RX8, TX8, 12, rfl, by decide, rfl, rfl, by decide, (gt2 222 rfl rfl), cw_8⟩
theorem lf_RX8_299 : FL RX8 299 8 8 0 := ⟨RX8, TX8, 12, rfl, by decide, rfl, rfl, by decide, (gt2 223 rfl rfl), cw_8⟩
theorem lf_RX8_36 : FL RX8 36 8 4 2 := ⟨RX8, TX8, 12, rfl, by decide, rfl, rfl, by decide, (gt2 219 rfl rfl), cw_8⟩
theorem lf_RX8_40 : FL RX8 40 8 5 2 := ⟨RX8, TX8, 12, rfl, by decide, rfl, rfl, by decide, (gt2 220 rfl rfl), cw_8⟩
theorem lf_RX8_47 : FL RX8 47 8 6 2 := ⟨RX8, TX8, 12, rfl, by decide, rfl, rfl, by decide, (gt2 221 rfl rfl), cw_8⟩
theorem lf_RX8_51 : FL RX8 51 8 10 0 := ⟨RX8, TX8, 12, rfl, by decide, rfl, rfl, by decide, (gt2 225 rfl rfl), cw_8⟩
theorem lf_RX8_55 : FL RX8 55 8 11 0 := ⟨RX8, TX8, 12, rfl, by decide, rfl, rfl, by decide, (gt2 226 rfl rfl), cw_8⟩
theorem lf_RX8_64 : FL RX8 64 8 9 0 := ⟨RX8, TX8, 12, rfl, by decide, rfl, rfl, by decide, (gt2 224 rfl rfl), cw_8⟩
theorem lf_RX8_67 : FL RX8 67 3 0 2 := ⟨RX3, TX3, 11, rfl, by decide, rfl, rfl, by decide, (gt2 31 rfl rfl), cw_3⟩
theorem lf_RX8_71 : FL RX8 71 7 0 0 := ⟨RX7, TX7, 8, rfl, by decide, rfl, rfl, by decide, (gt1 90 rfl rfl), cw_7⟩
theorem lf_RX8_88 : FL RX8 88 3 1 0 := ⟨RX3, TX3, 11, rfl, by decide, rfl, rfl, by decide, (gt2 33 rfl rfl), cw_3⟩
theorem lf_RX8_89 : FL RX8 89 3 2 0 := ⟨RX3, TX3, 11, rfl, by decide, rfl, rfl, by decide, (gt2 35 rfl rfl), cw_3⟩
theorem lf_RX8_97 : FL RX8 97 4 3 0 := ⟨RX4, TX4, 15, rfl, by decide, rfl, rfl, by decide, (gt1 197 rfl rfl), cw_4⟩
theorem lf_RX9_104 : FL RX9 104 9 8 0 := ⟨RX9, TX9, 50, rfl, by decide, rfl, rfl, by decide, (gt5 131 rfl rfl), cw_9⟩
theorem lf_RX9_107 : FL RX9 107 9 10 0 := ⟨RX9, TX9, 50, rfl, by decide, rfl, rfl, by decide, (gt5 133 rfl rfl), cw_9⟩
theorem lf_RX9_114 : FL RX9 114 9 9 0 := ⟨RX9, TX9, 50, rfl, by decide, rfl, rfl, by decide, (gt5 132 rfl rfl), cw_9⟩
theorem lf_RX9_117 : FL RX9 117 9 11 0 := ⟨RX9, TX9, 50, rfl, by decide, rfl, rfl, by decide, (gt5 134 rfl rfl), cw_9⟩
theorem lf_RX9_124 : FL RX9 124 9 15 1 := ⟨RX9, TX9, 50, rfl, by decide, rfl, rfl, by decide, (gt5 138 rfl rfl), cw_9⟩
theorem lf_RX9_13 : FL RX9 13 9 1 2 := ⟨RX9, TX9, 50, rfl, by decide, rfl, rfl, by decide, (gt5 124 rfl rfl), cw_9⟩
theorem lf_RX9_132 : FL RX9 132 9 12 0 := ⟨RX9, TX9, 50, rfl, by decide, rfl, rfl, by decide, (gt5 135 rfl rfl), cw_9⟩
theorem lf_RX9_149 : FL RX9 149 9 13 0 := ⟨RX9, TX9, 50, rfl, by decide, rfl, rfl, by decide, (gt5 136 rfl rfl), cw_9⟩
theorem lf_RX9_152 : FL RX9 152 9 14 0 := ⟨RX9, TX9, 50, rfl, by decide, rfl, rfl, by decide, (gt5 137 rfl rfl), cw_9⟩
theorem lf_RX9_16 : FL RX9 16 9 2 2 := ⟨RX9, TX9, 50, rfl, by decide, rfl, rfl, by decide, (gt5 125 rfl rfl), cw_9⟩
theorem lf_RX9_172 : FL RX9 172 9 16 0 := ⟨RX9, TX9, 50, rfl, by decide, rfl, rfl, by decide, (gt5 139 rfl rfl), cw_9⟩
theorem lf_RX9_19 : FL RX9 19 9 3 2 := ⟨RX9, TX9, 50, rfl, by decide, rfl, rfl, by decide, (gt5 126 rfl rfl), cw_9⟩
theorem lf_RX9_23 : FL RX9 23 9 6 0 := ⟨RX9, TX9, 50, rfl, by decide, rfl, rfl, by decide, (gt5 129 rfl rfl), cw_9⟩
theorem lf_RX9_27 : FL RX9 27 9 7 0 := ⟨RX9, TX9, 50, rfl, by decide, rfl, rfl, by decide, (gt5 130 rfl rfl), cw_9⟩
theorem lf_RX9_30 : FL RX9 30 9 17 2 := ⟨RX9, TX9, 50, rfl, by decide, rfl, rfl, by decide, (gt5 140 rfl rfl), cw_9⟩
theorem lf_RX9_33 : FL RX9 33 9 18 2 := ⟨RX9, TX9, 50, rfl, by decide, rfl, rfl, by decide, (gt5 141 rfl rfl), cw_9⟩
theorem lf_RX9_331 : FL RX9 331 9 31 0 := ⟨RX9, TX9, 50, rfl, by decide, rfl, rfl, by decide, (gt5 154 rfl rfl), cw_9⟩
theorem lf_RX9_367 : FL RX9 367 9 32 0 := ⟨RX9, TX9, 50, rfl, by decide, rfl, rfl, by decide, (gt5 155 rfl rfl), cw_9⟩
theorem lf_RX9_37 : FL RX9 37 9 19 2 := ⟨RX9, TX9, 50, rfl, by decide, rfl, rfl, by decide, (gt5 142 rfl rfl), cw_9⟩
theorem lf_RX9_370 : FL RX9 370 9 33 0 := ⟨RX9, TX9, 50, rfl, by decide, rfl, rfl, by decide, (gt5 156 rfl rfl), cw_9⟩
theorem lf_RX9_373 : FL RX9 373 9 34 0 := ⟨RX9, TX9, 50, rfl, by decide, rfl, rfl, by decide, (gt5 157 rfl rfl), cw_9⟩
theorem lf_RX9_40 : FL RX9 40 9 20 2 := ⟨RX9, TX9, 50, rfl, by decide, rfl, rfl, by decide, (gt5 143 rfl rfl), cw_9⟩
theorem lf_RX9_409 : FL RX9 409 9 42 0 := ⟨RX9, TX9, 50, rfl, by decide, rfl, rfl, by decide, (gt5 165 rfl rfl), cw_9⟩
theorem lf_RX9_412 : FL RX9 412 9 44 0 := ⟨RX9, TX9, 50, rfl, by decide, rfl, rfl, by decide, (gt5 167 rfl rfl), cw_9⟩
theorem lf_RX9_419 : FL RX9 419 9 43 0 := ⟨RX9, TX9, 50, rfl, by decide, rfl, rfl, by decide, (gt5 166 rfl rfl), cw_9⟩
theorem lf_RX9_43 : FL RX9 43 9 21 2 := ⟨RX9, TX9, 50, rfl, by decide, rfl, rfl, by decide, (gt5 144 rfl rfl), cw_9⟩
theorem lf_RX9_46 : FL RX9 46 9 22 2 := ⟨RX9, TX9, 50, rfl, by decide, rfl, rfl, by decide, (gt5 145 rfl rfl), cw_9⟩
theorem lf_RX9_460 : FL RX9 460 9 45 0 := ⟨RX9, TX9, 50, rfl, by decide, rfl, rfl, by decide, (gt5 168 rfl rfl), cw_9⟩
theorem lf_RX9_464 : FL RX9 464 9 48 0 := ⟨RX9, TX9, 50, rfl, by decide, rfl, rfl, by decide, (gt5 171 rfl rfl), cw_9⟩
theorem lf_RX9_467 : FL RX9 467 9 46 0 := ⟨RX9, TX9, 50, rfl, by decide, rfl, rfl, by decide, (gt5 169 rfl rfl), cw_9⟩
theorem lf_RX9_473 : FL RX9 473 9 49 0 := ⟨RX9, TX9, 50, rfl, by decide, rfl, rfl, by decide, (gt5 172 rfl rfl), cw_9⟩
theorem lf_RX9_479 : FL RX9 479 9 47 0 := ⟨RX9, TX9, 50, rfl, by decide, rfl, rfl, by decide, (gt5 170 rfl rfl), cw_9⟩
theorem lf_RX9_49 : FL RX9 49 9 23 2 := ⟨RX9, TX9, 50, rfl, by decide, rfl, rfl, by decide, (gt5 146 rfl rfl), cw_9⟩
theorem lf_RX9_52 : FL RX9 52 9 24 2 := ⟨RX9, TX9, 50, rfl, by decide, rfl, rfl, by decide, (gt5 147 rfl rfl), cw_9⟩
theorem lf_RX9_55 : FL RX9 55 9 25 2 := ⟨RX9, TX9, 50, rfl, by decide, rfl, rfl, by decide, (gt5 148 rfl rfl), cw_9⟩
theorem lf_RX9_58 : FL RX9 58 9 26 2 := ⟨RX9, TX9, 50, rfl, by decide, rfl, rfl, by decide, (gt5 149 rfl rfl), cw_9⟩
theorem lf_RX9_61 : FL RX9 61 9 27 2 := ⟨RX9, TX9, 50, rfl, by decide, rfl, rfl, by decide, (gt5 150 rfl rfl), cw_9⟩
theorem lf_RX9_64 : FL RX9 64 9 28 2 := ⟨RX9, TX9, 50, rfl, by decide, rfl, rfl, by decide, (gt5 151 rfl rfl), cw_9⟩
theorem lf_RX9_67 : FL RX9 67 9 29 2 := ⟨RX9, TX9, 50, rfl, by decide, rfl, rfl, by decide, (gt5 152 rfl rfl), cw_9⟩
theorem lf_RX9_7 : FL RX9 7 9 0 2 := ⟨RX9, TX9, 50, rfl, by decide, rfl, rfl, by decide, (gt5 123 rfl rfl), cw_9⟩
theorem lf_RX9_70 : FL RX9 70 9 30 2 := ⟨RX9, TX9, 50, rfl, by decide, rfl, rfl, by decide, (gt5 153 rfl rfl), cw_9⟩
theorem lf_RX9_73 : FL RX9 73 9 35 2 := ⟨RX9, TX9, 50, rfl, by decide, rfl, rfl, by decide, (gt5 158 rfl rfl), cw_9⟩
theorem lf_RX9_76 : FL RX9 76 9 36 2 := ⟨RX9, TX9, 50, rfl, by decide, rfl, rfl, by decide, (gt5 159 rfl rfl), cw_9⟩
theorem lf_RX9_79 : FL RX9 79 9 37 2 := ⟨RX9, TX9, 50, rfl, by decide, rfl, rfl, by decide, (gt5 160 rfl rfl), cw_9⟩
theorem lf_RX9_82 : FL RX9 82 9 38 2 := ⟨RX9, TX9, 50, rfl, by decide, rfl, rfl, by decide, (gt5 161 rfl rfl), cw_9⟩
theorem lf_RX9_85 : FL RX9 85 9 39 2 := ⟨RX9, TX9, 50, rfl, by decide, rfl, rfl, by decide, (gt5 162 rfl rfl), cw_9⟩
theorem lf_RX9_88 : FL RX9 88 9 40 2 := ⟨RX9, TX9, 50, rfl, by decide, rfl, rfl, by decide, (gt5 163 rfl rfl), cw_9⟩
theorem lf_RX9_91 : FL RX9 91 9 41 2 := ⟨RX9, TX9, 50, rfl, by decide, rfl, rfl, by decide, (gt5 164 rfl rfl), cw_9⟩
theorem lf_RX9_94 : FL RX9 94 9 5 0 := ⟨RX9, TX9, 50, rfl, by decide, rfl, rfl, by decide, (gt5 128 rfl rfl), cw_9⟩
theorem lf_RX9_97 : FL RX9 97 9 4 0 := ⟨RX9, TX9, 50, rfl, by decide, rfl, rfl, by decide, (gt5 127 rfl rfl), cw_9⟩
theorem lq_RX0_33 : FP RX0 33 0 4 0 .int := ⟨RX0, TX0, 8, rfl, by decide, rfl, rfl, by decide, (gt2 93 rfl rfl), cw_0, ⟨tyX0, tyX0_ok⟩, nmX0, rfl, tyX0_ok 4 (by decide)⟩
theorem lq_RX0_84 : FP RX0 84 0 3 0 .int := ⟨RX0, TX0, 8, rfl, by decide, rfl, rfl, by decide, (gt2 91 rfl rfl), cw_0, ⟨tyX0, tyX0_ok⟩, nmX0, rfl, tyX0_ok 3 (by decide)⟩
theorem lq_RX0_87 : FP RX0 87 0 5 0 .int := ⟨RX0, TX0, 8, rfl, by decide, rfl, rfl, by decide, (gt2 95 rfl rfl), cw_0, ⟨tyX0, tyX0_ok⟩, nmX0, rfl, tyX0_ok 5 (by decide)⟩
theorem lq_RX2_46 : FP RX2 46 2 0 0 .int := ⟨RX2, TX2, 12, rfl, by decide, rfl, rfl, by decide, (gt1 133 rfl rfl), cw_2, ⟨tyX2, tyX2_ok⟩, nmX2, rfl, tyX2_ok 0 (by decide)⟩
theorem lq_RX3_152 : FP RX3 152 4 1 0 .int := ⟨RX4, TX4, 15, rfl, by decide, rfl, rfl, by decide, (gt1 187 rfl rfl), cw_4, ⟨tyX4, tyX4_ok⟩, nmX4, rfl, tyX4_ok 1 (by decide)⟩
theorem lq_RX3_21 : FP RX3 21 3 3 2 (.object "HoldChecker$Program") := ⟨RX3, TX3, 11, rfl, by decide, rfl, rfl, by decide, (gt2 36 rfl rfl), cw_3, ⟨tyX3, tyX3_ok⟩, nmX3, rfl, tyX3_ok 3 (by decide)⟩
theorem lq_RX3_46 : FP RX3 46 3 1 0 .int := ⟨RX3, TX3, 11, rfl, by decide, rfl, rfl, by decide, (gt2 32 rfl rfl), cw_3, ⟨tyX3, tyX3_ok⟩, nmX3, rfl, tyX3_ok 1 (by decide)⟩
theorem lq_RX3_50 : FP RX3 50 3 2 0 .int := ⟨RX3, TX3, 11, rfl, by decide, rfl, rfl, by decide, (gt2 34 rfl rfl), cw_3, ⟨tyX3, tyX3_ok⟩, nmX3, rfl, tyX3_ok 2 (by decide)⟩
theorem lq_RX3_53 : FP RX3 53 3 10 0 .int := ⟨RX3, TX3, 11, rfl, by decide, rfl, rfl, by decide, (gt2 43 rfl rfl), cw_3, ⟨tyX3, tyX3_ok⟩, nmX3, rfl, tyX3_ok 10 (by decide)⟩
theorem lq_RX4_55 : FP RX4 55 2 0 0 .int := ⟨RX2, TX2, 12, rfl, by decide, rfl, rfl, by decide, (gt1 132 rfl rfl), cw_2, ⟨tyX2, tyX2_ok⟩, nmX2, rfl, tyX2_ok 0 (by decide)⟩
theorem lq_RX4_59 : FP RX4 59 4 1 0 .int := ⟨RX4, TX4, 15, rfl, by decide, rfl, rfl, by decide, (gt1 184 rfl rfl), cw_4, ⟨tyX4, tyX4_ok⟩, nmX4, rfl, tyX4_ok 1 (by decide)⟩
theorem lq_RX4_62 : FP RX4 62 4 3 0 .int := ⟨RX4, TX4, 15, rfl, by decide, rfl, rfl, by decide, (gt1 194 rfl rfl), cw_4, ⟨tyX4, tyX4_ok⟩, nmX4, rfl, tyX4_ok 3 (by decide)⟩
theorem lq_RX5_18 : FP RX5 18 5 0 0 .int := ⟨RX5, TX5, 6, rfl, by decide, rfl, rfl, by decide, (gt2 187 rfl rfl), cw_5, ⟨tyX5, tyX5_ok⟩, nmX5, rfl, tyX5_ok 0 (by decide)⟩
theorem lq_RX5_22 : FP RX5 22 5 1 0 .int := ⟨RX5, TX5, 6, rfl, by decide, rfl, rfl, by decide, (gt2 189 rfl rfl), cw_5, ⟨tyX5, tyX5_ok⟩, nmX5, rfl, tyX5_ok 1 (by decide)⟩
theorem lq_RX5_25 : FP RX5 25 5 2 0 .int := ⟨RX5, TX5, 6, rfl, by decide, rfl, rfl, by decide, (gt2 191 rfl rfl), cw_5, ⟨tyX5, tyX5_ok⟩, nmX5, rfl, tyX5_ok 2 (by decide)⟩
theorem lq_RX5_28 : FP RX5 28 5 3 0 .int := ⟨RX5, TX5, 6, rfl, by decide, rfl, rfl, by decide, (gt2 193 rfl rfl), cw_5, ⟨tyX5, tyX5_ok⟩, nmX5, rfl, tyX5_ok 3 (by decide)⟩
theorem lq_RX5_31 : FP RX5 31 5 4 0 .int := ⟨RX5, TX5, 6, rfl, by decide, rfl, rfl, by decide, (gt2 195 rfl rfl), cw_5, ⟨tyX5, tyX5_ok⟩, nmX5, rfl, tyX5_ok 4 (by decide)⟩
theorem lq_RX6_53 : FP RX6 53 6 0 0 .int := ⟨RX6, TX6, 15, rfl, by decide, rfl, rfl, by decide, (gt2 124 rfl rfl), cw_6, ⟨tyX6, tyX6_ok⟩, nmX6, rfl, tyX6_ok 0 (by decide)⟩
theorem lq_RX6_57 : FP RX6 57 6 1 0 .boolean := ⟨RX6, TX6, 15, rfl, by decide, rfl, rfl, by decide, (gt2 126 rfl rfl), cw_6, ⟨tyX6, tyX6_ok⟩, nmX6, rfl, tyX6_ok 1 (by decide)⟩
theorem lq_RX6_77 : FP RX6 77 6 9 0 .int := ⟨RX6, TX6, 15, rfl, by decide, rfl, rfl, by decide, (gt2 142 rfl rfl), cw_6, ⟨tyX6, tyX6_ok⟩, nmX6, rfl, tyX6_ok 9 (by decide)⟩
theorem lq_RX6_84 : FP RX6 84 6 3 0 .int := ⟨RX6, TX6, 15, rfl, by decide, rfl, rfl, by decide, (gt2 130 rfl rfl), cw_6, ⟨tyX6, tyX6_ok⟩, nmX6, rfl, tyX6_ok 3 (by decide)⟩
theorem lq_RX6_87 : FP RX6 87 6 2 0 .int := ⟨RX6, TX6, 15, rfl, by decide, rfl, rfl, by decide, (gt2 128 rfl rfl), cw_6, ⟨tyX6, tyX6_ok⟩, nmX6, rfl, tyX6_ok 2 (by decide)⟩
theorem lq_RX6_90 : FP RX6 90 6 4 0 .int := ⟨RX6, TX6, 15, rfl, by decide, rfl, rfl, by decide, (gt2 132 rfl rfl), cw_6, ⟨tyX6, tyX6_ok⟩, nmX6, rfl, tyX6_ok 4 (by decide)⟩
theorem lq_RX6_93 : FP RX6 93 6 5 0 .int := ⟨RX6, TX6, 15, rfl, by decide, rfl, rfl, by decide, (gt2 134 rfl rfl), cw_6, ⟨tyX6, tyX6_ok⟩, nmX6, rfl, tyX6_ok 5 (by decide)⟩
theorem lq_RX6_96 : FP RX6 96 6 6 0 .int := ⟨RX6, TX6, 15, rfl, by decide, rfl, rfl, by decide, (gt2 136 rfl rfl), cw_6, ⟨tyX6, tyX6_ok⟩, nmX6, rfl, tyX6_ok 6 (by decide)⟩
theorem lq_RX7_37 : FP RX7 37 7 0 0 .int := ⟨RX7, TX7, 8, rfl, by decide, rfl, rfl, by decide, (gt1 89 rfl rfl), cw_7, ⟨tyX7, tyX7_ok⟩, nmX7, rfl, tyX7_ok 0 (by decide)⟩
theorem lq_RX7_41 : FP RX7 41 7 4 0 .int := ⟨RX7, TX7, 8, rfl, by decide, rfl, rfl, by decide, (gt1 97 rfl rfl), cw_7, ⟨tyX7, tyX7_ok⟩, nmX7, rfl, tyX7_ok 4 (by decide)⟩
theorem lq_RX7_44 : FP RX7 44 7 5 0 .int := ⟨RX7, TX7, 8, rfl, by decide, rfl, rfl, by decide, (gt1 98 rfl rfl), cw_7, ⟨tyX7, tyX7_ok⟩, nmX7, rfl, tyX7_ok 5 (by decide)⟩
theorem lq_RX7_50 : FP RX7 50 7 1 0 .int := ⟨RX7, TX7, 8, rfl, by decide, rfl, rfl, by decide, (gt1 91 rfl rfl), cw_7, ⟨tyX7, tyX7_ok⟩, nmX7, rfl, tyX7_ok 1 (by decide)⟩
theorem lq_RX7_53 : FP RX7 53 7 2 0 .int := ⟨RX7, TX7, 8, rfl, by decide, rfl, rfl, by decide, (gt1 94 rfl rfl), cw_7, ⟨tyX7, tyX7_ok⟩, nmX7, rfl, tyX7_ok 2 (by decide)⟩
theorem lq_RX7_63 : FP RX7 63 7 3 1 .long := ⟨RX7, TX7, 8, rfl, by decide, rfl, rfl, by decide, (gt1 95 rfl rfl), cw_7, ⟨tyX7, tyX7_ok⟩, nmX7, rfl, tyX7_ok 3 (by decide)⟩
theorem lq_RX8_296 : FP RX8 296 8 7 0 .boolean := ⟨RX8, TX8, 12, rfl, by decide, rfl, rfl, by decide, (gt2 222 rfl rfl), cw_8, ⟨tyX8, tyX8_ok⟩, nmX8, rfl, tyX8_ok 7 (by decide)⟩
theorem lq_RX8_299 : FP RX8 299 8 8 0 .boolean := ⟨RX8, TX8, 12, rfl, by decide, rfl, rfl, by decide, (gt2 223 rfl rfl), cw_8, ⟨tyX8, tyX8_ok⟩, nmX8, rfl, tyX8_ok 8 (by decide)⟩
theorem lq_RX8_47 : FP RX8 47 8 6 2 (.object "HoldChecker$Program") := ⟨RX8, TX8, 12, rfl, by decide, rfl, rfl, by decide, (gt2 221 rfl rfl), cw_8, ⟨tyX8, tyX8_ok⟩, nmX8, rfl, tyX8_ok 6 (by decide)⟩
theorem lq_RX8_51 : FP RX8 51 8 10 0 .int := ⟨RX8, TX8, 12, rfl, by decide, rfl, rfl, by decide, (gt2 225 rfl rfl), cw_8, ⟨tyX8, tyX8_ok⟩, nmX8, rfl, tyX8_ok 10 (by decide)⟩
theorem lq_RX8_55 : FP RX8 55 8 11 0 .int := ⟨RX8, TX8, 12, rfl, by decide, rfl, rfl, by decide, (gt2 226 rfl rfl), cw_8, ⟨tyX8, tyX8_ok⟩, nmX8, rfl, tyX8_ok 11 (by decide)⟩
theorem lq_RX8_64 : FP RX8 64 8 9 0 .int := ⟨RX8, TX8, 12, rfl, by decide, rfl, rfl, by decide, (gt2 224 rfl rfl), cw_8, ⟨tyX8, tyX8_ok⟩, nmX8, rfl, tyX8_ok 9 (by decide)⟩
theorem lq_RX9_104 : FP RX9 104 9 8 0 .int := ⟨RX9, TX9, 50, rfl, by decide, rfl, rfl, by decide, (gt5 131 rfl rfl), cw_9, ⟨tyX9, tyX9_ok⟩, nmX9, rfl, tyX9_ok 8 (by decide)⟩
theorem lq_RX9_107 : FP RX9 107 9 10 0 .int := ⟨RX9, TX9, 50, rfl, by decide, rfl, rfl, by decide, (gt5 133 rfl rfl), cw_9, ⟨tyX9, tyX9_ok⟩, nmX9, rfl, tyX9_ok 10 (by decide)⟩
theorem lq_RX9_114 : FP RX9 114 9 9 0 .int := ⟨RX9, TX9, 50, rfl, by decide, rfl, rfl, by decide, (gt5 132 rfl rfl), cw_9, ⟨tyX9, tyX9_ok⟩, nmX9, rfl, tyX9_ok 9 (by decide)⟩
theorem lq_RX9_117 : FP RX9 117 9 11 0 .int := ⟨RX9, TX9, 50, rfl, by decide, rfl, rfl, by decide, (gt5 134 rfl rfl), cw_9, ⟨tyX9, tyX9_ok⟩, nmX9, rfl, tyX9_ok 11 (by decide)⟩
theorem lq_RX9_124 : FP RX9 124 9 15 1 .long := ⟨RX9, TX9, 50, rfl, by decide, rfl, rfl, by decide, (gt5 138 rfl rfl), cw_9, ⟨tyX9, tyX9_ok⟩, nmX9, rfl, tyX9_ok 15 (by decide)⟩
theorem lq_RX9_132 : FP RX9 132 9 12 0 .int := ⟨RX9, TX9, 50, rfl, by decide, rfl, rfl, by decide, (gt5 135 rfl rfl), cw_9, ⟨tyX9, tyX9_ok⟩, nmX9, rfl, tyX9_ok 12 (by decide)⟩
theorem lq_RX9_149 : FP RX9 149 9 13 0 .int := ⟨RX9, TX9, 50, rfl, by decide, rfl, rfl, by decide, (gt5 136 rfl rfl), cw_9, ⟨tyX9, tyX9_ok⟩, nmX9, rfl, tyX9_ok 13 (by decide)⟩
theorem lq_RX9_152 : FP RX9 152 9 14 0 .int := ⟨RX9, TX9, 50, rfl, by decide, rfl, rfl, by decide, (gt5 137 rfl rfl), cw_9, ⟨tyX9, tyX9_ok⟩, nmX9, rfl, tyX9_ok 14 (by decide)⟩
theorem lq_RX9_172 : FP RX9 172 9 16 0 .int := ⟨RX9, TX9, 50, rfl, by decide, rfl, rfl, by decide, (gt5 139 rfl rfl), cw_9, ⟨tyX9, tyX9_ok⟩, nmX9, rfl, tyX9_ok 16 (by decide)⟩
theorem lq_RX9_23 : FP RX9 23 9 6 0 .int := ⟨RX9, TX9, 50, rfl, by decide, rfl, rfl, by decide, (gt5 129 rfl rfl), cw_9, ⟨tyX9, tyX9_ok⟩, nmX9, rfl, tyX9_ok 6 (by decide)⟩
theorem lq_RX9_27 : FP RX9 27 9 7 0 .int := ⟨RX9, TX9, 50, rfl, by decide, rfl, rfl, by decide, (gt5 130 rfl rfl), cw_9, ⟨tyX9, tyX9_ok⟩, nmX9, rfl, tyX9_ok 7 (by decide)⟩
theorem lq_RX9_331 : FP RX9 331 9 31 0 .boolean := ⟨RX9, TX9, 50, rfl, by decide, rfl, rfl, by decide, (gt5 154 rfl rfl), cw_9, ⟨tyX9, tyX9_ok⟩, nmX9, rfl, tyX9_ok 31 (by decide)⟩
theorem lq_RX9_367 : FP RX9 367 9 32 0 .int := ⟨RX9, TX9, 50, rfl, by decide, rfl, rfl, by decide, (gt5 155 rfl rfl), cw_9, ⟨tyX9, tyX9_ok⟩, nmX9, rfl, tyX9_ok 32 (by decide)⟩
theorem lq_RX9_370 : FP RX9 370 9 33 0 .int := ⟨RX9, TX9, 50, rfl, by decide, rfl, rfl, by decide, (gt5 156 rfl rfl), cw_9, ⟨tyX9, tyX9_ok⟩, nmX9, rfl, tyX9_ok 33 (by decide)⟩
theorem lq_RX9_373 : FP RX9 373 9 34 0 .int := ⟨RX9, TX9, 50, rfl, by decide, rfl, rfl, by decide, (gt5 157 rfl rfl), cw_9, ⟨tyX9, tyX9_ok⟩, nmX9, rfl, tyX9_ok 34 (by decide)⟩
theorem lq_RX9_409 : FP RX9 409 9 42 0 .int := ⟨RX9, TX9, 50, rfl, by decide, rfl, rfl, by decide, (gt5 165 rfl rfl), cw_9, ⟨tyX9, tyX9_ok⟩, nmX9, rfl, tyX9_ok 42 (by decide)⟩
theorem lq_RX9_412 : FP RX9 412 9 44 0 .boolean := ⟨RX9, TX9, 50, rfl, by decide, rfl, rfl, by decide, (gt5 167 rfl rfl), cw_9, ⟨tyX9, tyX9_ok⟩, nmX9, rfl, tyX9_ok 44 (by decide)⟩
theorem lq_RX9_419 : FP RX9 419 9 43 0 .int := ⟨RX9, TX9, 50, rfl, by decide, rfl, rfl, by decide, (gt5 166 rfl rfl), cw_9, ⟨tyX9, tyX9_ok⟩, nmX9, rfl, tyX9_ok 43 (by decide)⟩
theorem lq_RX9_460 : FP RX9 460 9 45 0 .int := ⟨RX9, TX9, 50, rfl, by decide, rfl, rfl, by decide, (gt5 168 rfl rfl), cw_9, ⟨tyX9, tyX9_ok⟩, nmX9, rfl, tyX9_ok 45 (by decide)⟩
theorem lq_RX9_464 : FP RX9 464 9 48 0 .int := ⟨RX9, TX9, 50, rfl, by decide, rfl, rfl, by decide, (gt5 171 rfl rfl), cw_9, ⟨tyX9, tyX9_ok⟩, nmX9, rfl, tyX9_ok 48 (by decide)⟩
theorem lq_RX9_467 : FP RX9 467 9 46 0 .int := ⟨RX9, TX9, 50, rfl, by decide, rfl, rfl, by decide, (gt5 169 rfl rfl), cw_9, ⟨tyX9, tyX9_ok⟩, nmX9, rfl, tyX9_ok 46 (by decide)⟩
theorem lq_RX9_473 : FP RX9 473 9 49 0 .int := ⟨RX9, TX9, 50, rfl, by decide, rfl, rfl, by decide, (gt5 172 rfl rfl), cw_9, ⟨tyX9, tyX9_ok⟩, nmX9, rfl, tyX9_ok 49 (by decide)⟩
theorem lq_RX9_479 : FP RX9 479 9 47 0 .int := ⟨RX9, TX9, 50, rfl, by decide, rfl, rfl, by decide, (gt5 170 rfl rfl), cw_9, ⟨tyX9, tyX9_ok⟩, nmX9, rfl, tyX9_ok 47 (by decide)⟩
theorem lq_RX9_94 : FP RX9 94 9 5 0 .int := ⟨RX9, TX9, 50, rfl, by decide, rfl, rfl, by decide, (gt5 128 rfl rfl), cw_9, ⟨tyX9, tyX9_ok⟩, nmX9, rfl, tyX9_ok 5 (by decide)⟩
theorem lq_RX9_97 : FP RX9 97 9 4 0 .int := ⟨RX9, TX9, 50, rfl, by decide, rfl, rfl, by decide, (gt5 127 rfl rfl), cw_9, ⟨tyX9, tyX9_ok⟩, nmX9, rfl, tyX9_ok 4 (by decide)⟩
theorem mm_i : Cond.initialized "java/lang/Math" ∈ GT := (gt1 16 rfl rfl)
theorem mm_max1 : Cond.static Lib.Math.max.name ∈ GT := (gt5 44 rfl rfl)
theorem mm_max2 : Cond.code Lib.Math.max.name Lib.Math.max.code 2 (some .int) ∈ GT := (gt5 45 rfl rfl)
theorem mm_min1 : Cond.static Lib.Math.min.name ∈ GT := (gt7 16 rfl rfl)
theorem mm_min2 : Cond.code Lib.Math.min.name Lib.Math.min.code 2 (some .int) ∈ GT := (gt7 17 rfl rfl)
theorem ml_RX1_21 : Cond.methodLink RX1 21 arraycopyName ∈ GT := (gt4 113 rfl rfl)
theorem mm_RX6_113 : Cond.methodLink RX6 113 Lib.Math.max.name ∈ GT := (gt5 43 rfl rfl)
theorem mm_RX9_279 : Cond.methodLink RX9 279 Lib.Math.min.name ∈ GT := (gt7 15 rfl rfl)
theorem mm_RX9_425 : Cond.methodLink RX9 425 Lib.Math.max.name ∈ GT := (gt7 202 rfl rfl)
