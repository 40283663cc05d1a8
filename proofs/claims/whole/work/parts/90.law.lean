/-! THE CLAIM OUT OF ONE WALK OF THE LAW'S BODY. Your part is whole_start (and what it stands on); all else here is the same for every law, but numbers. -/
def R_law : String := "HoldCheckerLaw"
def lw_P (b : Addr) (xs : List Int32) (args : Array Value) (s : State) : Prop := args = #[.ref b] ∧ s.IntsAt b xs ∧ xs.length ≤ 3072 ∧ (Jvm.Cond.and given_1 narrow_1).before args s = true
def lw_Q (_ : Array Value) (s : State) (o : Outcome) (t : State) : Prop := o = .returned (some (.int 1)) ∧ Framed s o t [] 600000 7302250
def lw_Z (below : List Frame) (a : Array Value) (s : State) : State → Prop := fun t => ∃ o, t.status = .running ∧ Ended t below o ∧ lw_Q a s o t
/-- the law's own end, with 1 on the stack, nothing written that was there before, its room as the claim has it -/
theorem lw_ret {p : Program} {l : Launch} {e : Env} {s : State} {m : MethodId} {below : List Frame} {meth : Method} {c : Code} {b : Nat} (hx : p.tables.exec = Jvm.exec) (hb : c.code = code) (hr : meth.sig.returnType = ret) (hlocks : meth.locks = false) {pc : Nat} {H : Heap} {ls : Array Slot} (hdg : decode code pc = .ok (.ireturn, 1)) : W p l e room_1 s m #[Value.ref b] below meth c H [] 600000 7302250 (lw_Z below #[Value.ref b] s) (F0 m pc ls [.int 1]) := by
  intro T hT X
  obtain ⟨fs, hret, hrun, hended, hW, hframe⟩ := X.leave (v := some (.int 1)) (hlocks := hlocks) (fun h => by rw [hr] at h; cases h)
  have hmeth' : T.vm.method? m = some meth := X.method'
  refine ⟨T.setFrames fs, ?_, .returned (some (.int 1)), hrun, hended, rfl, ⟨_, rfl⟩, hW, hframe⟩
  jvm_step X.here [X.here.top, hx, hb, hdg, hmeth', hr, ret, narrow_b1]
  (try refine ⟨rfl, ?_⟩); (try refine ⟨rfl, ?_⟩)
  first | (intro acts; rw [hret _ acts rfl rfl rfl]) | rw [hret _ _ rfl rfl rfl]
  exact Steps.refl _
/-- what holds at the law's entry: the machine, the code, the tables' words (any of lw_tbl by 'hts w (by decide +kernel)'), the script of L ints xs at the cell b, what the Statement gives of the start (any of its parts by flat_of_before) -/
def lw_At (p : Program) (s : State) (m : MethodId) (meth : Method) (c : Code) (b L : Nat) (xs : Nat → Int32) : Prop :=
  p.tables.exec = Jvm.exec ∧ c.code = code ∧ meth.sig.returnType = ret ∧ c.maxLocals = 4 ∧ s.vm.findClass R_law = some m.cls ∧ (∀ w ∈ lw_tbl, w.before #[Value.ref b] s = true) ∧ va_X b L xs s s.heap ∧ b < s.heap.size ∧ meth.locks = false ∧ (Jvm.Cond.and given_1 narrow_1).before #[Value.ref b] s = true
def tl_law0 : List (Nat × Instr × Nat) := [(0, .new 7, 3), (3, .dup, 1), (4, .invokespecial 9, 3), (7, .astore_n 1, 1), (8, .new 10, 3), (11, .dup, 1), (12, .invokespecial 12, 3), (15, .astore_n 2, 1), (16, .iconst 0, 1), (17, .istore_n 3, 1), (18, .iload_n 3, 1), (19, .aload_n 0, 1), (20, .arraylength, 1), (21, .bipush 6, 2), (23, .isub, 1), (24, .if_icmp .gt 1040, 3), (27, .aload_n 0, 1), (28, .iload_n 3, 1), (29, .iaload, 1), (30, .bipush 31, 2), (32, .iand, 1), (33, .tableswitch 1025 0 25 #[119, 132, 195, 218, 241, 264, 297, 340, 409, 488, 521, 554, 597, 656, 689, 712, 735, 778, 801, 814, 837, 860, 903, 926, 949, 982], 119), (152, .aload_n 1, 1), (153, .invokevirtual 13, 3), (156, .aload_n 2, 1), (157, .invokevirtual 17, 3), (160, .if_icmp .eq 898, 3), (163, .iconst 0, 1), (164, .ireturn, 1), (165, .aload_n 1, 1), (166, .aload_n 0, 1), (167, .iload_n 3, 1), (168, .iconst 1, 1), (169, .iadd, 1), (170, .iaload, 1), (171, .aload_n 0, 1), (172, .iload_n 3, 1), (173, .iconst 2, 1), (174, .iadd, 1), (175, .iaload, 1), (176, .aload_n 0, 1), (177, .iload_n 3, 1), (178, .iconst 3, 1), (179, .iadd, 1), (180, .iaload, 1), (181, .aload_n 0, 1), (182, .iload_n 3, 1), (183, .iconst 4, 1), (184, .iadd, 1), (185, .iaload, 1), (186, .aload_n 0, 1), (187, .iload_n 3, 1), (188, .iconst 5, 1), (189, .iadd, 1), (190, .iaload, 1), (191, .invokevirtual 18, 3), (194, .aload_n 2, 1), (195, .aload_n 0, 1), (196, .iload_n 3, 1), (197, .iconst 1, 1)]
theorem tb_law0 : TB code tl_law0 := TB_of (by decide +kernel)
def tl_law1 : List (Nat × Instr × Nat) := [(198, .iadd, 1), (199, .iaload, 1), (200, .aload_n 0, 1), (201, .iload_n 3, 1), (202, .iconst 2, 1), (203, .iadd, 1), (204, .iaload, 1), (205, .aload_n 0, 1), (206, .iload_n 3, 1), (207, .iconst 3, 1), (208, .iadd, 1), (209, .iaload, 1), (210, .aload_n 0, 1), (211, .iload_n 3, 1), (212, .iconst 4, 1), (213, .iadd, 1), (214, .iaload, 1), (215, .aload_n 0, 1), (216, .iload_n 3, 1), (217, .iconst 5, 1), (218, .iadd, 1), (219, .iaload, 1), (220, .invokevirtual 22, 3), (223, .if_icmp .eq 835, 3), (226, .iconst 0, 1), (227, .ireturn, 1), (228, .aload_n 1, 1), (229, .aload_n 0, 1), (230, .iload_n 3, 1), (231, .iconst 1, 1), (232, .iadd, 1), (233, .iaload, 1), (234, .invokevirtual 23, 3), (237, .aload_n 2, 1), (238, .aload_n 0, 1), (239, .iload_n 3, 1), (240, .iconst 1, 1), (241, .iadd, 1), (242, .iaload, 1), (243, .invokevirtual 27, 3), (246, .if_icmp .eq 812, 3), (249, .iconst 0, 1), (250, .ireturn, 1), (251, .aload_n 1, 1), (252, .aload_n 0, 1), (253, .iload_n 3, 1), (254, .iconst 1, 1), (255, .iadd, 1), (256, .iaload, 1), (257, .invokevirtual 28, 3), (260, .aload_n 2, 1), (261, .aload_n 0, 1), (262, .iload_n 3, 1), (263, .iconst 1, 1), (264, .iadd, 1), (265, .iaload, 1), (266, .invokevirtual 31, 3), (269, .if_icmp .eq 789, 3), (272, .iconst 0, 1), (273, .ireturn, 1)]
theorem tb_law1 : TB code tl_law1 := TB_of (by decide +kernel)
def tl_law2 : List (Nat × Instr × Nat) := [(274, .aload_n 1, 1), (275, .aload_n 0, 1), (276, .iload_n 3, 1), (277, .iconst 1, 1), (278, .iadd, 1), (279, .iaload, 1), (280, .invokevirtual 32, 3), (283, .aload_n 2, 1), (284, .aload_n 0, 1), (285, .iload_n 3, 1), (286, .iconst 1, 1), (287, .iadd, 1), (288, .iaload, 1), (289, .invokevirtual 35, 3), (292, .if_icmp .eq 766, 3), (295, .iconst 0, 1), (296, .ireturn, 1), (297, .aload_n 1, 1), (298, .aload_n 0, 1), (299, .iload_n 3, 1), (300, .iconst 1, 1), (301, .iadd, 1), (302, .iaload, 1), (303, .aload_n 0, 1), (304, .iload_n 3, 1), (305, .iconst 2, 1), (306, .iadd, 1), (307, .iaload, 1), (308, .invokevirtual 36, 3), (311, .aload_n 2, 1), (312, .aload_n 0, 1), (313, .iload_n 3, 1), (314, .iconst 1, 1), (315, .iadd, 1), (316, .iaload, 1), (317, .aload_n 0, 1), (318, .iload_n 3, 1), (319, .iconst 2, 1), (320, .iadd, 1), (321, .iaload, 1), (322, .invokevirtual 40, 3), (325, .if_icmp .eq 733, 3), (328, .iconst 0, 1), (329, .ireturn, 1), (330, .aload_n 1, 1), (331, .aload_n 0, 1), (332, .iload_n 3, 1), (333, .iconst 1, 1), (334, .iadd, 1), (335, .iaload, 1), (336, .aload_n 0, 1), (337, .iload_n 3, 1), (338, .iconst 2, 1), (339, .iadd, 1), (340, .iaload, 1), (341, .aload_n 0, 1), (342, .iload_n 3, 1), (343, .iconst 3, 1), (344, .iadd, 1), (345, .iaload, 1)]
theorem tb_law2 : TB code tl_law2 := TB_of (by decide +kernel)
def tl_law3 : List (Nat × Instr × Nat) := [(346, .invokevirtual 41, 3), (349, .aload_n 2, 1), (350, .aload_n 0, 1), (351, .iload_n 3, 1), (352, .iconst 1, 1), (353, .iadd, 1), (354, .iaload, 1), (355, .aload_n 0, 1), (356, .iload_n 3, 1), (357, .iconst 2, 1), (358, .iadd, 1), (359, .iaload, 1), (360, .aload_n 0, 1), (361, .iload_n 3, 1), (362, .iconst 3, 1), (363, .iadd, 1), (364, .iaload, 1), (365, .invokevirtual 45, 3), (368, .if_icmp .eq 690, 3), (371, .iconst 0, 1), (372, .ireturn, 1), (373, .aload_n 1, 1), (374, .aload_n 0, 1), (375, .iload_n 3, 1), (376, .iconst 1, 1), (377, .iadd, 1), (378, .iaload, 1), (379, .aload_n 0, 1), (380, .iload_n 3, 1), (381, .iconst 2, 1), (382, .iadd, 1), (383, .iaload, 1), (384, .aload_n 0, 1), (385, .iload_n 3, 1), (386, .iconst 3, 1), (387, .iadd, 1), (388, .iaload, 1), (389, .aload_n 0, 1), (390, .iload_n 3, 1), (391, .iconst 4, 1), (392, .iadd, 1), (393, .iaload, 1), (394, .ifCond .eq 7, 3), (397, .iconst 1, 1), (398, .goto 4, 3), (401, .iconst 0, 1), (402, .invokevirtual 46, 3), (405, .aload_n 2, 1), (406, .aload_n 0, 1), (407, .iload_n 3, 1), (408, .iconst 1, 1), (409, .iadd, 1), (410, .iaload, 1), (411, .aload_n 0, 1), (412, .iload_n 3, 1), (413, .iconst 2, 1), (414, .iadd, 1), (415, .iaload, 1), (416, .aload_n 0, 1), (417, .iload_n 3, 1)]
theorem tb_law3 : TB code tl_law3 := TB_of (by decide +kernel)
def tl_law4 : List (Nat × Instr × Nat) := [(418, .iconst 3, 1), (419, .iadd, 1), (420, .iaload, 1), (421, .aload_n 0, 1), (422, .iload_n 3, 1), (423, .iconst 4, 1), (424, .iadd, 1), (425, .iaload, 1), (426, .ifCond .eq 7, 3), (429, .iconst 1, 1), (430, .goto 4, 3), (433, .iconst 0, 1), (434, .invokevirtual 50, 3), (437, .if_icmp .eq 621, 3), (440, .iconst 0, 1), (441, .ireturn, 1), (442, .aload_n 1, 1), (443, .aload_n 0, 1), (444, .iload_n 3, 1), (445, .iconst 1, 1), (446, .iadd, 1), (447, .iaload, 1), (448, .aload_n 0, 1), (449, .iload_n 3, 1), (450, .iconst 2, 1), (451, .iadd, 1), (452, .iaload, 1), (453, .aload_n 0, 1), (454, .iload_n 3, 1), (455, .iconst 3, 1), (456, .iadd, 1), (457, .iaload, 1), (458, .aload_n 0, 1), (459, .iload_n 3, 1), (460, .iconst 4, 1), (461, .iadd, 1), (462, .iaload, 1), (463, .ifCond .eq 7, 3), (466, .iconst 1, 1), (467, .goto 4, 3), (470, .iconst 0, 1), (471, .aload_n 0, 1), (472, .iload_n 3, 1), (473, .iconst 5, 1), (474, .iadd, 1), (475, .iaload, 1), (476, .invokevirtual 51, 3), (479, .aload_n 2, 1), (480, .aload_n 0, 1), (481, .iload_n 3, 1), (482, .iconst 1, 1), (483, .iadd, 1), (484, .iaload, 1), (485, .aload_n 0, 1), (486, .iload_n 3, 1), (487, .iconst 2, 1), (488, .iadd, 1), (489, .iaload, 1), (490, .aload_n 0, 1), (491, .iload_n 3, 1)]
theorem tb_law4 : TB code tl_law4 := TB_of (by decide +kernel)
def tl_law5 : List (Nat × Instr × Nat) := [(492, .iconst 3, 1), (493, .iadd, 1), (494, .iaload, 1), (495, .aload_n 0, 1), (496, .iload_n 3, 1), (497, .iconst 4, 1), (498, .iadd, 1), (499, .iaload, 1), (500, .ifCond .eq 7, 3), (503, .iconst 1, 1), (504, .goto 4, 3), (507, .iconst 0, 1), (508, .aload_n 0, 1), (509, .iload_n 3, 1), (510, .iconst 5, 1), (511, .iadd, 1), (512, .iaload, 1), (513, .invokevirtual 55, 3), (516, .if_icmp .eq 542, 3), (519, .iconst 0, 1), (520, .ireturn, 1), (521, .aload_n 1, 1), (522, .aload_n 0, 1), (523, .iload_n 3, 1), (524, .iconst 1, 1), (525, .iadd, 1), (526, .iaload, 1), (527, .aload_n 0, 1), (528, .iload_n 3, 1), (529, .iconst 2, 1), (530, .iadd, 1), (531, .iaload, 1), (532, .invokevirtual 56, 3), (535, .aload_n 2, 1), (536, .aload_n 0, 1), (537, .iload_n 3, 1), (538, .iconst 1, 1), (539, .iadd, 1), (540, .iaload, 1), (541, .aload_n 0, 1), (542, .iload_n 3, 1), (543, .iconst 2, 1), (544, .iadd, 1), (545, .iaload, 1), (546, .invokevirtual 59, 3), (549, .if_icmp .eq 509, 3), (552, .iconst 0, 1), (553, .ireturn, 1), (554, .aload_n 1, 1), (555, .aload_n 0, 1), (556, .iload_n 3, 1), (557, .iconst 1, 1), (558, .iadd, 1), (559, .iaload, 1), (560, .aload_n 0, 1), (561, .iload_n 3, 1), (562, .iconst 2, 1), (563, .iadd, 1), (564, .iaload, 1), (565, .invokevirtual 60, 3)]
theorem tb_law5 : TB code tl_law5 := TB_of (by decide +kernel)
def tl_law6 : List (Nat × Instr × Nat) := [(568, .aload_n 2, 1), (569, .aload_n 0, 1), (570, .iload_n 3, 1), (571, .iconst 1, 1), (572, .iadd, 1), (573, .iaload, 1), (574, .aload_n 0, 1), (575, .iload_n 3, 1), (576, .iconst 2, 1), (577, .iadd, 1), (578, .iaload, 1), (579, .invokevirtual 63, 3), (582, .if_icmp .eq 476, 3), (585, .iconst 0, 1), (586, .ireturn, 1), (587, .aload_n 1, 1), (588, .aload_n 0, 1), (589, .iload_n 3, 1), (590, .iconst 1, 1), (591, .iadd, 1), (592, .iaload, 1), (593, .aload_n 0, 1), (594, .iload_n 3, 1), (595, .iconst 2, 1), (596, .iadd, 1), (597, .iaload, 1), (598, .aload_n 0, 1), (599, .iload_n 3, 1), (600, .iconst 3, 1), (601, .iadd, 1), (602, .iaload, 1), (603, .invokevirtual 64, 3), (606, .aload_n 2, 1), (607, .aload_n 0, 1), (608, .iload_n 3, 1), (609, .iconst 1, 1), (610, .iadd, 1), (611, .iaload, 1), (612, .aload_n 0, 1), (613, .iload_n 3, 1), (614, .iconst 2, 1), (615, .iadd, 1), (616, .iaload, 1), (617, .aload_n 0, 1), (618, .iload_n 3, 1), (619, .iconst 3, 1), (620, .iadd, 1), (621, .iaload, 1), (622, .invokevirtual 67, 3), (625, .if_icmp .eq 433, 3), (628, .iconst 0, 1), (629, .ireturn, 1), (630, .aload_n 1, 1), (631, .aload_n 0, 1), (632, .iload_n 3, 1), (633, .iconst 1, 1), (634, .iadd, 1), (635, .iaload, 1), (636, .aload_n 0, 1), (637, .iload_n 3, 1)]
theorem tb_law6 : TB code tl_law6 := TB_of (by decide +kernel)
def tl_law7 : List (Nat × Instr × Nat) := [(638, .iconst 2, 1), (639, .iadd, 1), (640, .iaload, 1), (641, .aload_n 0, 1), (642, .iload_n 3, 1), (643, .iconst 3, 1), (644, .iadd, 1), (645, .iaload, 1), (646, .ifCond .eq 7, 3), (649, .iconst 1, 1), (650, .goto 4, 3), (653, .iconst 0, 1), (654, .invokevirtual 68, 3), (657, .aload_n 2, 1), (658, .aload_n 0, 1), (659, .iload_n 3, 1), (660, .iconst 1, 1), (661, .iadd, 1), (662, .iaload, 1), (663, .aload_n 0, 1), (664, .iload_n 3, 1), (665, .iconst 2, 1), (666, .iadd, 1), (667, .iaload, 1), (668, .aload_n 0, 1), (669, .iload_n 3, 1), (670, .iconst 3, 1), (671, .iadd, 1), (672, .iaload, 1), (673, .ifCond .eq 7, 3), (676, .iconst 1, 1), (677, .goto 4, 3), (680, .iconst 0, 1), (681, .invokevirtual 72, 3), (684, .if_icmp .eq 374, 3), (687, .iconst 0, 1), (688, .ireturn, 1), (689, .aload_n 1, 1), (690, .aload_n 0, 1), (691, .iload_n 3, 1), (692, .iconst 1, 1), (693, .iadd, 1), (694, .iaload, 1), (695, .aload_n 0, 1), (696, .iload_n 3, 1), (697, .iconst 2, 1), (698, .iadd, 1), (699, .iaload, 1), (700, .invokevirtual 73, 3), (703, .aload_n 2, 1), (704, .aload_n 0, 1), (705, .iload_n 3, 1), (706, .iconst 1, 1), (707, .iadd, 1), (708, .iaload, 1), (709, .aload_n 0, 1), (710, .iload_n 3, 1), (711, .iconst 2, 1), (712, .iadd, 1), (713, .iaload, 1)]
theorem tb_law7 : TB code tl_law7 := TB_of (by decide +kernel)
def tl_law8 : List (Nat × Instr × Nat) := [(714, .invokevirtual 76, 3), (717, .if_icmp .eq 341, 3), (720, .iconst 0, 1), (721, .ireturn, 1), (722, .aload_n 1, 1), (723, .aload_n 0, 1), (724, .iload_n 3, 1), (725, .iconst 1, 1), (726, .iadd, 1), (727, .iaload, 1), (728, .invokevirtual 77, 3), (731, .aload_n 2, 1), (732, .aload_n 0, 1), (733, .iload_n 3, 1), (734, .iconst 1, 1), (735, .iadd, 1), (736, .iaload, 1), (737, .invokevirtual 80, 3), (740, .if_icmp .eq 318, 3), (743, .iconst 0, 1), (744, .ireturn, 1), (745, .aload_n 1, 1), (746, .aload_n 0, 1), (747, .iload_n 3, 1), (748, .iconst 1, 1), (749, .iadd, 1), (750, .iaload, 1), (751, .invokevirtual 81, 3), (754, .aload_n 2, 1), (755, .aload_n 0, 1), (756, .iload_n 3, 1), (757, .iconst 1, 1), (758, .iadd, 1), (759, .iaload, 1), (760, .invokevirtual 84, 3), (763, .if_icmp .eq 295, 3), (766, .iconst 0, 1), (767, .ireturn, 1), (768, .aload_n 1, 1), (769, .aload_n 0, 1), (770, .iload_n 3, 1), (771, .iconst 1, 1), (772, .iadd, 1), (773, .iaload, 1), (774, .aload_n 0, 1), (775, .iload_n 3, 1), (776, .iconst 2, 1), (777, .iadd, 1), (778, .iaload, 1), (779, .aload_n 0, 1), (780, .iload_n 3, 1), (781, .iconst 3, 1), (782, .iadd, 1), (783, .iaload, 1), (784, .invokevirtual 85, 3), (787, .aload_n 2, 1), (788, .aload_n 0, 1), (789, .iload_n 3, 1), (790, .iconst 1, 1), (791, .iadd, 1)]
theorem tb_law8 : TB code tl_law8 := TB_of (by decide +kernel)
def tl_law9 : List (Nat × Instr × Nat) := [(792, .iaload, 1), (793, .aload_n 0, 1), (794, .iload_n 3, 1), (795, .iconst 2, 1), (796, .iadd, 1), (797, .iaload, 1), (798, .aload_n 0, 1), (799, .iload_n 3, 1), (800, .iconst 3, 1), (801, .iadd, 1), (802, .iaload, 1), (803, .invokevirtual 88, 3), (806, .if_icmp .eq 252, 3), (809, .iconst 0, 1), (810, .ireturn, 1), (811, .aload_n 1, 1), (812, .aload_n 0, 1), (813, .iload_n 3, 1), (814, .iconst 1, 1), (815, .iadd, 1), (816, .iaload, 1), (817, .invokevirtual 89, 3), (820, .aload_n 2, 1), (821, .aload_n 0, 1), (822, .iload_n 3, 1), (823, .iconst 1, 1), (824, .iadd, 1), (825, .iaload, 1), (826, .invokevirtual 92, 3), (829, .if_icmp .eq 229, 3), (832, .iconst 0, 1), (833, .ireturn, 1), (834, .aload_n 1, 1), (835, .invokevirtual 93, 3), (838, .aload_n 2, 1), (839, .invokevirtual 96, 3), (842, .if_icmp .eq 216, 3), (845, .iconst 0, 1), (846, .ireturn, 1), (847, .aload_n 1, 1), (848, .aload_n 0, 1), (849, .iload_n 3, 1), (850, .iconst 1, 1), (851, .iadd, 1), (852, .iaload, 1), (853, .invokevirtual 97, 3), (856, .aload_n 2, 1), (857, .aload_n 0, 1), (858, .iload_n 3, 1), (859, .iconst 1, 1), (860, .iadd, 1), (861, .iaload, 1), (862, .invokevirtual 100, 3), (865, .if_icmp .eq 193, 3), (868, .iconst 0, 1), (869, .ireturn, 1), (870, .aload_n 1, 1), (871, .aload_n 0, 1), (872, .iload_n 3, 1), (873, .iconst 1, 1)]
theorem tb_law9 : TB code tl_law9 := TB_of (by decide +kernel)
def tl_law10 : List (Nat × Instr × Nat) := [(874, .iadd, 1), (875, .iaload, 1), (876, .invokevirtual 101, 3), (879, .aload_n 2, 1), (880, .aload_n 0, 1), (881, .iload_n 3, 1), (882, .iconst 1, 1), (883, .iadd, 1), (884, .iaload, 1), (885, .invokevirtual 104, 3), (888, .if_icmp .eq 170, 3), (891, .iconst 0, 1), (892, .ireturn, 1), (893, .aload_n 1, 1), (894, .aload_n 0, 1), (895, .iload_n 3, 1), (896, .iconst 1, 1), (897, .iadd, 1), (898, .iaload, 1), (899, .aload_n 0, 1), (900, .iload_n 3, 1), (901, .iconst 2, 1), (902, .iadd, 1), (903, .iaload, 1), (904, .aload_n 0, 1), (905, .iload_n 3, 1), (906, .iconst 3, 1), (907, .iadd, 1), (908, .iaload, 1), (909, .invokevirtual 105, 3), (912, .aload_n 2, 1), (913, .aload_n 0, 1), (914, .iload_n 3, 1), (915, .iconst 1, 1), (916, .iadd, 1), (917, .iaload, 1), (918, .aload_n 0, 1), (919, .iload_n 3, 1), (920, .iconst 2, 1), (921, .iadd, 1), (922, .iaload, 1), (923, .aload_n 0, 1), (924, .iload_n 3, 1), (925, .iconst 3, 1), (926, .iadd, 1), (927, .iaload, 1), (928, .invokevirtual 108, 3), (931, .if_icmp .eq 127, 3), (934, .iconst 0, 1), (935, .ireturn, 1), (936, .aload_n 1, 1), (937, .aload_n 0, 1), (938, .iload_n 3, 1), (939, .iconst 1, 1), (940, .iadd, 1), (941, .iaload, 1), (942, .invokevirtual 109, 3), (945, .aload_n 2, 1), (946, .aload_n 0, 1), (947, .iload_n 3, 1)]
theorem tb_law10 : TB code tl_law10 := TB_of (by decide +kernel)
def tl_law11 : List (Nat × Instr × Nat) := [(948, .iconst 1, 1), (949, .iadd, 1), (950, .iaload, 1), (951, .invokevirtual 112, 3), (954, .if_icmp .eq 104, 3), (957, .iconst 0, 1), (958, .ireturn, 1), (959, .aload_n 1, 1), (960, .aload_n 0, 1), (961, .iload_n 3, 1), (962, .iconst 1, 1), (963, .iadd, 1), (964, .iaload, 1), (965, .invokevirtual 113, 3), (968, .aload_n 2, 1), (969, .aload_n 0, 1), (970, .iload_n 3, 1), (971, .iconst 1, 1), (972, .iadd, 1), (973, .iaload, 1), (974, .invokevirtual 116, 3), (977, .if_icmp .eq 81, 3), (980, .iconst 0, 1), (981, .ireturn, 1), (982, .aload_n 1, 1), (983, .aload_n 0, 1), (984, .iload_n 3, 1), (985, .iconst 1, 1), (986, .iadd, 1), (987, .iaload, 1), (988, .aload_n 0, 1), (989, .iload_n 3, 1), (990, .iconst 2, 1), (991, .iadd, 1), (992, .iaload, 1), (993, .invokevirtual 117, 3), (996, .aload_n 2, 1), (997, .aload_n 0, 1), (998, .iload_n 3, 1), (999, .iconst 1, 1), (1000, .iadd, 1), (1001, .iaload, 1), (1002, .aload_n 0, 1), (1003, .iload_n 3, 1), (1004, .iconst 2, 1), (1005, .iadd, 1), (1006, .iaload, 1), (1007, .invokevirtual 120, 3), (1010, .if_icmp .eq 48, 3), (1013, .iconst 0, 1), (1014, .ireturn, 1), (1015, .aload_n 1, 1), (1016, .aload_n 0, 1), (1017, .iload_n 3, 1), (1018, .iconst 1, 1), (1019, .iadd, 1), (1020, .iaload, 1), (1021, .aload_n 0, 1), (1022, .iload_n 3, 1), (1023, .iconst 2, 1)]
theorem tb_law11 : TB code tl_law11 := TB_of (by decide +kernel)
def tl_law12 : List (Nat × Instr × Nat) := [(1024, .iadd, 1), (1025, .iaload, 1), (1026, .aload_n 0, 1), (1027, .iload_n 3, 1), (1028, .iconst 3, 1), (1029, .iadd, 1), (1030, .iaload, 1), (1031, .invokevirtual 121, 3), (1034, .aload_n 2, 1), (1035, .aload_n 0, 1), (1036, .iload_n 3, 1), (1037, .iconst 1, 1), (1038, .iadd, 1), (1039, .iaload, 1), (1040, .aload_n 0, 1), (1041, .iload_n 3, 1), (1042, .iconst 2, 1), (1043, .iadd, 1), (1044, .iaload, 1), (1045, .aload_n 0, 1), (1046, .iload_n 3, 1), (1047, .iconst 3, 1), (1048, .iadd, 1), (1049, .iaload, 1), (1050, .invokevirtual 124, 3), (1053, .if_icmp .eq 5, 3), (1056, .iconst 0, 1), (1057, .ireturn, 1), (1058, .iinc 3 6, 3), (1061, .goto (-1043), 3), (1064, .iconst 1, 1), (1065, .ireturn, 1)]
theorem tb_law12 : TB code tl_law12 := TB_of (by decide +kernel)
theorem lc_X8_status : CV R_law 13 yX8_status cX8_status 1 (some .int) 0 8 := ⟨(gt3 12 rfl rfl), (gt3 13 rfl rfl), (gt3 14 rfl rfl), (gt1 1 rfl rfl), cm_X8_status, by decide +kernel, by decide, by decide, TX8, 12, rfl⟩
theorem lc_X9_status : CV R_law 17 yX9_status cX9_status 1 (some .int) 0 9 := ⟨(gt6 34 rfl rfl), (gt6 35 rfl rfl), (gt6 36 rfl rfl), (gt1 15 rfl rfl), cm_X9_status, by decide +kernel, by decide, by decide, TX9, 50, rfl⟩
theorem lc_X8_feed : CV R_law 18 yX8_feed cX8_feed 7 (some .int) 5 8 := ⟨(gt3 16 rfl rfl), (gt3 17 rfl rfl), (gt3 18 rfl rfl), (gt1 1 rfl rfl), cm_X8_feed, by decide +kernel, by decide, by decide, TX8, 12, rfl⟩
theorem lc_X9_feed : CV R_law 22 yX9_feed cX9_feed 6 (some .int) 5 9 := ⟨(gt6 38 rfl rfl), (gt6 39 rfl rfl), (gt6 40 rfl rfl), (gt1 15 rfl rfl), cm_X9_feed, by decide +kernel, by decide, by decide, TX9, 50, rfl⟩
theorem lc_X8_load : CV R_law 23 yX8_load cX8_load 3 (some .int) 1 8 := ⟨(gt3 28 rfl rfl), (gt3 29 rfl rfl), (gt3 30 rfl rfl), (gt1 1 rfl rfl), cm_X8_load, by decide +kernel, by decide, by decide, TX8, 12, rfl⟩
theorem lc_X9_load : CV R_law 27 yX9_load cX9_load 4 (some .int) 1 9 := ⟨(gt6 46 rfl rfl), (gt6 47 rfl rfl), (gt6 48 rfl rfl), (gt1 15 rfl rfl), cm_X9_load, by decide +kernel, by decide, by decide, TX9, 50, rfl⟩
theorem lc_X8_fault : CV R_law 28 yX8_fault cX8_fault 2 (some .int) 1 8 := ⟨(gt3 184 rfl rfl), (gt3 185 rfl rfl), (gt3 186 rfl rfl), (gt1 1 rfl rfl), cm_X8_fault, by decide +kernel, by decide, by decide, TX8, 12, rfl⟩
theorem lc_X9_fault : CV R_law 31 yX9_fault cX9_fault 2 (some .int) 1 9 := ⟨(gt6 180 rfl rfl), (gt6 181 rfl rfl), (gt6 182 rfl rfl), (gt1 15 rfl rfl), cm_X9_fault, by decide +kernel, by decide, by decide, TX9, 50, rfl⟩
theorem lc_X8_many : CV R_law 32 yX8_many cX8_many 2 (some .int) 1 8 := ⟨(gt3 188 rfl rfl), (gt3 189 rfl rfl), (gt3 190 rfl rfl), (gt1 1 rfl rfl), cm_X8_many, by decide +kernel, by decide, by decide, TX8, 12, rfl⟩
theorem lc_X9_many : CV R_law 35 yX9_many cX9_many 2 (some .int) 1 9 := ⟨(gt6 184 rfl rfl), (gt6 185 rfl rfl), (gt6 186 rfl rfl), (gt1 15 rfl rfl), cm_X9_many, by decide +kernel, by decide, by decide, TX9, 50, rfl⟩
theorem lc_X8_kind : CV R_law 36 yX8_kind cX8_kind 4 (some .int) 2 8 := ⟨(gt3 192 rfl rfl), (gt3 193 rfl rfl), (gt3 194 rfl rfl), (gt1 1 rfl rfl), cm_X8_kind, by decide +kernel, by decide, by decide, TX8, 12, rfl⟩
theorem lc_X9_kind : CV R_law 40 yX9_kind cX9_kind 6 (some .int) 2 9 := ⟨(gt6 188 rfl rfl), (gt6 189 rfl rfl), (gt6 190 rfl rfl), (gt1 15 rfl rfl), cm_X9_kind, by decide +kernel, by decide, by decide, TX9, 50, rfl⟩
theorem lc_X8_method : CV R_law 41 yX8_method cX8_method 5 (some .int) 3 8 := ⟨(gt3 229 rfl rfl), (gt3 230 rfl rfl), (gt3 231 rfl rfl), (gt1 1 rfl rfl), cm_X8_method, by decide +kernel, by decide, by decide, TX8, 12, rfl⟩
theorem lc_X9_method : CV R_law 45 yX9_method cX9_method 4 (some .int) 3 9 := ⟨(gt6 215 rfl rfl), (gt6 216 rfl rfl), (gt6 217 rfl rfl), (gt1 15 rfl rfl), cm_X9_method, by decide +kernel, by decide, by decide, TX9, 50, rfl⟩
theorem lc_X8_comes : CV R_law 46 yX8_comes cX8_comes 7 (some .int) 4 8 := ⟨(gt4 3 rfl rfl), (gt4 4 rfl rfl), (gt4 5 rfl rfl), (gt1 1 rfl rfl), cm_X8_comes, by decide +kernel, by decide, by decide, TX8, 12, rfl⟩
theorem lc_X9_comes : CV R_law 50 yX9_comes cX9_comes 6 (some .int) 4 9 := ⟨(gt6 227 rfl rfl), (gt6 228 rfl rfl), (gt6 229 rfl rfl), (gt1 15 rfl rfl), cm_X9_comes, by decide +kernel, by decide, by decide, TX9, 50, rfl⟩
theorem lc_X8_tell : CV R_law 51 yX8_tell cX8_tell 8 (some .int) 5 8 := ⟨(gt4 12 rfl rfl), (gt4 13 rfl rfl), (gt4 14 rfl rfl), (gt1 1 rfl rfl), cm_X8_tell, by decide +kernel, by decide, by decide, TX8, 12, rfl⟩
theorem lc_X9_tell : CV R_law 55 yX9_tell cX9_tell 9 (some .int) 5 9 := ⟨(gt6 235 rfl rfl), (gt6 236 rfl rfl), (gt6 237 rfl rfl), (gt1 15 rfl rfl), cm_X9_tell, by decide +kernel, by decide, by decide, TX9, 50, rfl⟩
theorem lc_X8_toEnd : CV R_law 56 yX8_toEnd cX8_toEnd 5 (some .int) 2 8 := ⟨(gt4 22 rfl rfl), (gt4 23 rfl rfl), (gt4 24 rfl rfl), (gt1 1 rfl rfl), cm_X8_toEnd, by decide +kernel, by decide, by decide, TX8, 12, rfl⟩
theorem lc_X9_toEnd : CV R_law 59 yX9_toEnd cX9_toEnd 3 (some .int) 2 9 := ⟨(gt6 239 rfl rfl), (gt7 0 rfl rfl), (gt7 1 rfl rfl), (gt1 15 rfl rfl), cm_X9_toEnd, by decide +kernel, by decide, by decide, TX9, 50, rfl⟩
theorem lc_X8_towards : CV R_law 60 yX8_towards cX8_towards 5 (some .int) 2 8 := ⟨(gt4 30 rfl rfl), (gt4 31 rfl rfl), (gt4 32 rfl rfl), (gt1 1 rfl rfl), cm_X8_towards, by decide +kernel, by decide, by decide, TX8, 12, rfl⟩
theorem lc_X9_towards : CV R_law 63 yX9_towards cX9_towards 4 (some .int) 2 9 := ⟨(gt7 18 rfl rfl), (gt7 19 rfl rfl), (gt7 20 rfl rfl), (gt1 15 rfl rfl), cm_X9_towards, by decide +kernel, by decide, by decide, TX9, 50, rfl⟩
theorem lc_X8_alike : CV R_law 64 yX8_alike cX8_alike 5 (some .int) 3 8 := ⟨(gt4 35 rfl rfl), (gt4 36 rfl rfl), (gt4 37 rfl rfl), (gt1 1 rfl rfl), cm_X8_alike, by decide +kernel, by decide, by decide, TX8, 12, rfl⟩
theorem lc_X9_alike : CV R_law 67 yX9_alike cX9_alike 7 (some .int) 3 9 := ⟨(gt7 22 rfl rfl), (gt7 23 rfl rfl), (gt7 24 rfl rfl), (gt1 15 rfl rfl), cm_X9_alike, by decide +kernel, by decide, by decide, TX9, 50, rfl⟩
theorem lc_X8_rows : CV R_law 68 yX8_rows cX8_rows 5 (some .int) 3 8 := ⟨(gt4 55 rfl rfl), (gt4 56 rfl rfl), (gt4 57 rfl rfl), (gt1 1 rfl rfl), cm_X8_rows, by decide +kernel, by decide, by decide, TX8, 12, rfl⟩
theorem lc_X9_rows : CV R_law 72 yX9_rows cX9_rows 7 (some .int) 3 9 := ⟨(gt7 30 rfl rfl), (gt7 31 rfl rfl), (gt7 32 rfl rfl), (gt1 15 rfl rfl), cm_X9_rows, by decide +kernel, by decide, by decide, TX9, 50, rfl⟩
theorem lc_X8_statement : CV R_law 73 yX8_statement cX8_statement 3 (some .int) 2 8 := ⟨(gt4 71 rfl rfl), (gt4 72 rfl rfl), (gt4 73 rfl rfl), (gt1 1 rfl rfl), cm_X8_statement, by decide +kernel, by decide, by decide, TX8, 12, rfl⟩
theorem lc_X9_statement : CV R_law 76 yX9_statement cX9_statement 5 (some .int) 2 9 := ⟨(gt7 35 rfl rfl), (gt7 36 rfl rfl), (gt7 37 rfl rfl), (gt1 15 rfl rfl), cm_X9_statement, by decide +kernel, by decide, by decide, TX9, 50, rfl⟩
theorem lc_X8_variable : CV R_law 77 yX8_variable cX8_variable 2 (some .int) 1 8 := ⟨(gt4 79 rfl rfl), (gt4 80 rfl rfl), (gt4 81 rfl rfl), (gt1 1 rfl rfl), cm_X8_variable, by decide +kernel, by decide, by decide, TX8, 12, rfl⟩
theorem lc_X9_variable : CV R_law 80 yX9_variable cX9_variable 2 (some .int) 1 9 := ⟨(gt7 75 rfl rfl), (gt7 76 rfl rfl), (gt7 77 rfl rfl), (gt1 15 rfl rfl), cm_X9_variable, by decide +kernel, by decide, by decide, TX9, 50, rfl⟩
theorem lc_X8_check : CV R_law 81 yX8_check cX8_check 4 (some .int) 1 8 := ⟨(gt4 87 rfl rfl), (gt4 88 rfl rfl), (gt4 89 rfl rfl), (gt1 1 rfl rfl), cm_X8_check, by decide +kernel, by decide, by decide, TX8, 12, rfl⟩
theorem lc_X9_check : CV R_law 84 yX9_check cX9_check 4 (some .int) 1 9 := ⟨(gt7 83 rfl rfl), (gt7 84 rfl rfl), (gt7 85 rfl rfl), (gt1 15 rfl rfl), cm_X9_check, by decide +kernel, by decide, by decide, TX9, 50, rfl⟩
theorem lc_X8_at : CV R_law 85 yX8_at cX8_at 5 (some .int) 3 8 := ⟨(gt4 202 rfl rfl), (gt4 203 rfl rfl), (gt4 204 rfl rfl), (gt1 1 rfl rfl), cm_X8_at, by decide +kernel, by decide, by decide, TX8, 12, rfl⟩
theorem lc_X9_at_ : CV R_law 88 yX9_at_ cX9_at_ 4 (some .int) 3 9 := ⟨(gt7 146 rfl rfl), (gt7 147 rfl rfl), (gt7 148 rfl rfl), (gt1 15 rfl rfl), cm_X9_at_, by decide +kernel, by decide, by decide, TX9, 50, rfl⟩
theorem lc_X8_without : CV R_law 89 yX8_without cX8_without 2 (some .int) 1 8 := ⟨(gt4 214 rfl rfl), (gt4 215 rfl rfl), (gt4 216 rfl rfl), (gt1 1 rfl rfl), cm_X8_without, by decide +kernel, by decide, by decide, TX8, 12, rfl⟩
theorem lc_X9_without : CV R_law 92 yX9_without cX9_without 2 (some .int) 1 9 := ⟨(gt7 154 rfl rfl), (gt7 155 rfl rfl), (gt7 156 rfl rfl), (gt1 15 rfl rfl), cm_X9_without, by decide +kernel, by decide, by decide, TX9, 50, rfl⟩
theorem lc_X8_mend : CV R_law 93 yX8_mend cX8_mend 2 (some .int) 0 8 := ⟨(gt4 222 rfl rfl), (gt4 223 rfl rfl), (gt4 224 rfl rfl), (gt1 1 rfl rfl), cm_X8_mend, by decide +kernel, by decide, by decide, TX8, 12, rfl⟩
theorem lc_X9_mend : CV R_law 96 yX9_mend cX9_mend 2 (some .int) 0 9 := ⟨(gt7 162 rfl rfl), (gt7 163 rfl rfl), (gt7 164 rfl rfl), (gt1 15 rfl rfl), cm_X9_mend, by decide +kernel, by decide, by decide, TX9, 50, rfl⟩
theorem lc_X8_paths : CV R_law 97 yX8_paths cX8_paths 4 (some .int) 1 8 := ⟨(gt4 226 rfl rfl), (gt4 227 rfl rfl), (gt4 228 rfl rfl), (gt1 1 rfl rfl), cm_X8_paths, by decide +kernel, by decide, by decide, TX8, 12, rfl⟩
theorem lc_X9_paths : CV R_law 100 yX9_paths cX9_paths 6 (some .int) 1 9 := ⟨(gt7 166 rfl rfl), (gt7 167 rfl rfl), (gt7 168 rfl rfl), (gt1 15 rfl rfl), cm_X9_paths, by decide +kernel, by decide, by decide, TX9, 50, rfl⟩
theorem lc_X8_path : CV R_law 101 yX8_path cX8_path 3 (some .int) 1 8 := ⟨(gt5 66 rfl rfl), (gt5 67 rfl rfl), (gt5 68 rfl rfl), (gt1 1 rfl rfl), cm_X8_path, by decide +kernel, by decide, by decide, TX8, 12, rfl⟩
theorem lc_X9_path : CV R_law 104 yX9_path cX9_path 5 (some .int) 1 9 := ⟨(gt7 235 rfl rfl), (gt7 236 rfl rfl), (gt7 237 rfl rfl), (gt1 15 rfl rfl), cm_X9_path, by decide +kernel, by decide, by decide, TX9, 50, rfl⟩
theorem lc_X8_truly : CV R_law 105 yX8_truly cX8_truly 5 (some .int) 3 8 := ⟨(gt5 74 rfl rfl), (gt5 75 rfl rfl), (gt5 76 rfl rfl), (gt1 1 rfl rfl), cm_X8_truly, by decide +kernel, by decide, by decide, TX8, 12, rfl⟩
theorem lc_X9_truly : CV R_law 108 yX9_truly cX9_truly 12 (some .int) 3 9 := ⟨(gt7 239 rfl rfl), (gt8 0 rfl rfl), (gt8 1 rfl rfl), (gt1 15 rfl rfl), cm_X9_truly, by decide +kernel, by decide, by decide, TX9, 50, rfl⟩
theorem lc_X8_left : CV R_law 109 yX8_left cX8_left 3 (some .int) 1 8 := ⟨(gt5 83 rfl rfl), (gt5 84 rfl rfl), (gt5 85 rfl rfl), (gt1 1 rfl rfl), cm_X8_left, by decide +kernel, by decide, by decide, TX8, 12, rfl⟩
theorem lc_X9_left : CV R_law 112 yX9_left cX9_left 2 (some .int) 1 9 := ⟨(gt8 7 rfl rfl), (gt8 8 rfl rfl), (gt8 9 rfl rfl), (gt1 15 rfl rfl), cm_X9_left, by decide +kernel, by decide, by decide, TX9, 50, rfl⟩
theorem lc_X8_never : CV R_law 113 yX8_never cX8_never 5 (some .int) 1 8 := ⟨(gt5 87 rfl rfl), (gt5 88 rfl rfl), (gt5 89 rfl rfl), (gt1 1 rfl rfl), cm_X8_never, by decide +kernel, by decide, by decide, TX8, 12, rfl⟩
theorem lc_X9_never : CV R_law 116 yX9_never cX9_never 6 (some .int) 1 9 := ⟨(gt8 11 rfl rfl), (gt8 12 rfl rfl), (gt8 13 rfl rfl), (gt1 15 rfl rfl), cm_X9_never, by decide +kernel, by decide, by decide, TX9, 50, rfl⟩
theorem lc_X8_run : CV R_law 117 yX8_run cX8_run 3 (some .int) 2 8 := ⟨(gt5 91 rfl rfl), (gt5 92 rfl rfl), (gt5 93 rfl rfl), (gt1 1 rfl rfl), cm_X8_run, by decide +kernel, by decide, by decide, TX8, 12, rfl⟩
theorem lc_X9_run : CV R_law 120 yX9_run cX9_run 3 (some .int) 2 9 := ⟨(gt8 15 rfl rfl), (gt8 16 rfl rfl), (gt8 17 rfl rfl), (gt1 15 rfl rfl), cm_X9_run, by decide +kernel, by decide, by decide, TX9, 50, rfl⟩
theorem lc_X8_runs : CV R_law 121 yX8_runs cX8_runs 6 (some .int) 3 8 := ⟨(gt5 112 rfl rfl), (gt5 113 rfl rfl), (gt5 114 rfl rfl), (gt1 1 rfl rfl), cm_X8_runs, by decide +kernel, by decide, by decide, TX8, 12, rfl⟩
theorem lc_X9_runs : CV R_law 124 yX9_runs cX9_runs 6 (some .int) 3 9 := ⟨(gt8 37 rfl rfl), (gt8 38 rfl rfl), (gt8 39 rfl rfl), (gt1 15 rfl rfl), cm_X9_runs, by decide +kernel, by decide, by decide, TX9, 50, rfl⟩
section LawRows
variable {p : Program} {l : Launch} {e : Env} {s : State} {m : MethodId} {args : Array Value} {below : List Frame} {meth : Method} {c : Code} {H : Heap} {locs : List Loc} {cells slots : Nat} {Q : State → Prop} {cc : ByteArray} {pc : Nat} {ls : Array Slot} {rest : List Value} {D : va_G} {tc : Nat → ClassId}
theorem LW_sld {A : Nat → Prop} {b L i k : Nat} {xs : Nat → Int32} (hexec : p.tables.exec = Jvm.exec) (hb : c.code = cc) (hX : va_X b L xs s s.heap) (hbl : b < s.heap.size) (hbA : ¬ A b) (hS : va_S A s.heap H locs) (hk : i + k < L) (hL : L < 2 ^ 31) (hdg : decode cc pc = .ok (.iaload, 1))
    (kk : W p l e room_1 s m args below meth c H locs cells slots Q (F0 m (pc + 1) ls (.int (xs (i + k)) :: rest))) : W p l e room_1 s m args below meth c H locs cells slots Q (F0 m pc ls (.int (nI i + nI k) :: .ref b :: rest)) := by
  rw [nI_add]
  refine va_sld hexec hb hX hbl hbA hS (vp_in_nI hk hL) hdg ?_
  rw [nI_clamp (by omega)]
  exact kk
theorem LW_keep {B n : Nat} {B' n' : Nat} {h : Hp} {H1 : Heap} (hP : va_P D vwCl (WL tc B n h) H) (ho : ∀ q : Nat, q < H.size → ¬ Ar B' n' q → H1[q]? = H[q]?) (hd : ∀ i, i < n → ¬ Ar B' n' (B + i)) : va_P D vwCl (WL tc B n h) H1 := by
  refine hP.kept (fun k q hk => ?_)
  have hkn : k < n := by have := (List.getElem?_eq_some_iff.mp hk).1; rwa [WL_len] at this
  have hlt := (hP k q hk).lt
  rw [WL_get hkn] at hk
  cases hk
  exact ho _ hlt (hd k hkn)
theorem trv_ints {B : Nat} {As : List Value} (h : ∀ v ∈ As, ∃ x, v = .int x) : As.map (trv B) = As := by
  induction As with
  | nil => rfl
  | cons v As ih =>
    obtain ⟨x, rfl⟩ := h v List.mem_cons_self
    rw [List.map_cons, ih (fun w hw => h w (List.mem_cons_of_mem _ hw))]
    rfl
/-- a call of the law's: on an object that is the first of its world -/
theorem LW_call {y : MethodName} {bytes : ByteArray} {maxL : Nat} {ret : Option FieldType} {na ci idx d' B n : Nat} {r : Int32} {h h' : Hp} {As rest st : List Value} {nL : Nat} (hx : p.tables.exec = Jvm.exec) (hb : c.code = cc) (hml : c.maxLocals = nL) (hown : s.vm.findClass R_law = some m.cls) (hts : ∀ w ∈ GT, w.before args s = true) (hK : va_K D vwCl (TY tc) s) (hd : decode cc pc = .ok (.invokevirtual idx, 3)) (hv : CV R_law idx y bytes maxL ret na ci) (hM : CK y bytes maxL ret d' (.ref 0 :: As) h (some (.int r)) h') (hc : (h.1 0).1 = ci) (hdd : d' ≤ 1000) (hna : As.length = na) (hi : ∀ v ∈ As, ∃ x, v = .int x) (hst : st = As.reverse ++ .ref B :: rest) (hrm : (rest.map fun v => v.category).sum ≤ 8) (hsz : ls.size = nL)
    (hn : ∀ j, (h.1 j).1 < 20 → j < n) (hP : va_P D vwCl (WL tc B n h) H) (hS : va_S (fun q => s.heap.size ≤ q) s.heap H locs) (hB : s.heap.size ≤ B) (hcs : cells ≤ room_1.cells ∧ slots ≤ room_1.slots)
    (k : ∀ (H1 : Heap) (locs1 : List Loc), (∀ j, (h'.1 j).1 < 20 → j < n) → va_P D vwCl (WL tc B n h') H1 → (∀ q : Nat, q < H.size → ¬ Ar B n q → H1[q]? = H[q]?) → va_S (fun q => s.heap.size ≤ q) s.heap H1 locs1 → W p l e room_1 s m args below meth c H1 locs1 cells slots Q (F0 m (pc + 3) ls (.int r :: rest))) : W p l e room_1 s m args below meth c H locs cells slots Q (F0 m pc ls st) := by
  subst hst
  obtain ⟨v1, v2, v3, v4, v5, v6, v7, v8, T, N, v9⟩ := hv
  have hsel : PreV s H y.cls B (PC D tc B n (.ref 0 :: As) h) As := ⟨PC_blind, va_recv hK hP v9 (q0 := 0) (by rw [WL_get (hn 0 (by omega)), cE_obj hc v8]; rfl), fun U hU hW => ⟨by rw [List.map_cons, trv_ints hi]; rfl, by rw [hU]; exact hP, hn, va_K.moved hW.alike hK⟩⟩
  have cw : CallW room_1 s args R_law y.cls idx y bytes maxL ret (.code y bytes maxL ret :: GT) (rmD d') 0 0 na := ⟨callB_of na hts (gt_good v5) rfl rfl rfl (hts _ v4) (hts _ v1) v6 ⟨by show d' + 1 ≤ 2048; omega, by show 8 + (maxL + 11) + 64 * d' ≤ 84000; omega⟩, hts _ v2, hts _ v3⟩
  have hrun := va_runV (l := l) (e := e) (below := below) (meth := meth) (locs := locs) (cells := cells) (slots := slots) (As := As) (rest := rest) (g := F0 m pc ls (As.reverse ++ .ref B :: rest)) ⟨hx, hb, hml, hown, hts⟩ (hM l D tc B n) cw hsel rfl hna hsz rfl (lv_room hrm) hd hcs
  have hAr : ∀ q, Ar B n q → s.heap.size ≤ q := fun q hq => Nat.le_trans hB hq.1
  intro T2 hT X
  obtain ⟨v, st₀, t, T', L, h0, X', hL, e1, e2, ⟨hvv, hP1, hn1, hz, hk⟩, stp⟩ := hrun T2 hT X
  cases hvv
  rw [h0] at hz hk
  obtain ⟨t2, a1, b1⟩ := k T'.heap (locs ++ L) hn1 (by rw [e1]; exact hP1) (fun q h1 h2 => by rw [e1]; exact hk q h1 h2)
    ⟨Nat.le_trans hS.1 (by rw [e1]; exact hz), fun q h1 h2 => by rw [e1, hk q (Nat.lt_of_lt_of_le h1 hS.1) (fun z => h2 (hAr q z))]; exact hS.2.1 q h1 h2, fun q hq => by
      rcases List.mem_append.mp hq with h | h
      · exact hS.2.2 q h
      · exact hAr _ (hL q h)⟩ T' rfl X'
  exact ⟨t2, stp t2 a1, b1⟩
end LawRows
section LawCases
set_option maxRecDepth 100000 in
set_option maxHeartbeats 4000000 in
theorem law_status {p : Program} {l : Launch} {e : Env} {s : State} {m : MethodId} {below : List Frame} {meth : Method} {c : Code} {b L : Nat} {xs : Nat → Int32} {D : va_G} {tc : Nat → ClassId} {BC BM : Nat} (hL : L ≤ 3072) (C0 : lw_At p s m meth c b L xs) (hK : va_K D vwCl (TY tc) s) (hBC : s.heap.size ≤ BC) (hBM : BC + 253 ≤ BM) {INV : Hp → Hp → Prop} {fu : Nat} (hO : OKS INV fu) {k i : Nat} (hC hM : Hp) (hI : INV hC hM) (H : Heap) (locs : List Loc) (ls : Array Slot) (hiL : i + 6 ≤ L) (hik : L < i + (k + 1)) (hnC : ∀ j, (hC.1 j).1 < 20 → j < 253) (hnM : ∀ j, (hM.1 j).1 < 20 → j < 26) (hPC : va_P D vwCl (WL tc BC 253 hC) H) (hPM : va_P D vwCl (WL tc BM 26 hM) H) (hS : va_S (fun q => s.heap.size ≤ q) s.heap H locs) (hl : lv_has ls 4 [(3, .int (nI i)), (0, .ref b), (1, .ref BC), (2, .ref BM)])
    (ih : ∀ (i : Nat) (hC hM : Hp), INV hC hM → ∀ (H : Heap) (locs : List Loc) (ls : Array Slot), L < i + k → i ≤ 3078 → (∀ j, (hC.1 j).1 < 20 → j < 253) → (∀ j, (hM.1 j).1 < 20 → j < 26) → va_P D vwCl (WL tc BC 253 hC) H → va_P D vwCl (WL tc BM 26 hM) H → va_S (fun q => s.heap.size ≤ q) s.heap H locs → lv_has ls 4 [(3, .int (nI i)), (0, .ref b), (1, .ref BC), (2, .ref BM)] → W p l e room_1 s m #[Value.ref b] below meth c H locs 279 15699 (lw_Z below #[Value.ref b] s) (F0 m 18 ls [])) : W p l e room_1 s m #[Value.ref b] below meth c H locs 279 15699 (lw_Z below #[Value.ref b] s) (F0 m 152 ls []) := by
  obtain ⟨hx, hb, hr, hml, hown, hts0, hX, hbl, hlk, hgv⟩ := id C0
  have hts : ∀ w ∈ GT, w.before #[Value.ref b] s = true := fun w hw => hts0 w (List.mem_filter.mp hw).1
  have hbA : ¬ (fun q : Nat => s.heap.size ≤ q) b := Nat.not_le.mpr hbl
  obtain ⟨r, e1, e2⟩ := hO.1 hC hM hI
  refine lv_aload_n hx hb (TB.get tb_law0 22 rfl) rfl (lv_at hl 2 rfl) ?_
  refine LW_call (As := []) (rest := []) hx hb hml hown hts hK (TB.get tb_law0 23 rfl) lc_X8_status (ok_X8_status 0  hC _ e1).1 (ok_X8_status 0  hC _ e1).2 (Nat.le_of_ble_eq_true rfl) rfl (by intro v hv; cases hv) rfl (Nat.le_of_ble_eq_true rfl) hl.1 hnC hPC hS hBC ⟨Nat.le_of_ble_eq_true rfl, Nat.le_of_ble_eq_true rfl⟩ (fun H locs hnC hPC hoC hS => ?_)
  have hPM := LW_keep hPM hoC (fun i hi z => by have := z.1; have := z.2; omega)
  refine lv_aload_n hx hb (TB.get tb_law0 24 rfl) rfl (lv_at hl 3 rfl) ?_
  refine LW_call (As := []) (rest := [.int r]) hx hb hml hown hts hK (TB.get tb_law0 25 rfl) lc_X9_status (ok_X9_status 0  hM _ e2).1 (ok_X9_status 0  hM _ e2).2 (Nat.le_of_ble_eq_true rfl) rfl (by intro v hv; cases hv) rfl (Nat.le_of_ble_eq_true rfl) hl.1 hnM hPM hS (by omega) ⟨Nat.le_of_ble_eq_true rfl, Nat.le_of_ble_eq_true rfl⟩ (fun H locs hnM hPM hoM hS => ?_)
  have hPC := LW_keep hPC hoM (fun i hi z => by have := z.1; omega)
  refine lv_icmp_eq (tgt := 1058) hx hb (TB.get tb_law0 26 rfl) rfl (fun _ => ?_) (fun z => absurd rfl z)
  refine lv_iinc (v := nI (i + 6)) (lv' := [(3, .int (nI (i + 6))), (0, .ref b), (1, .ref BC), (2, .ref BM)]) hx hb (TB.get tb_law12 28 rfl) hl (k := 0) rfl (nI_add i 6) (by decide) rfl (fun ls hl => ?_)
  refine lv_goto (tgt := 18) hx hb (TB.get tb_law12 29 rfl) rfl ?_
  exact ih (i + 6) hC hM hI _ _ _ (by omega) (by omega) hnC hnM hPC hPM hS hl
set_option maxRecDepth 100000 in
set_option maxHeartbeats 4000000 in
theorem law_feed {p : Program} {l : Launch} {e : Env} {s : State} {m : MethodId} {below : List Frame} {meth : Method} {c : Code} {b L : Nat} {xs : Nat → Int32} {D : va_G} {tc : Nat → ClassId} {BC BM : Nat} (hL : L ≤ 3072) (C0 : lw_At p s m meth c b L xs) (hK : va_K D vwCl (TY tc) s) (hBC : s.heap.size ≤ BC) (hBM : BC + 253 ≤ BM) {INV : Hp → Hp → Prop} {fu : Nat} (hO : OKS INV fu) {k i : Nat} (hC hM : Hp) (hI : INV hC hM) (H : Heap) (locs : List Loc) (ls : Array Slot) (hiL : i + 6 ≤ L) (hik : L < i + (k + 1)) (hnC : ∀ j, (hC.1 j).1 < 20 → j < 253) (hnM : ∀ j, (hM.1 j).1 < 20 → j < 26) (hPC : va_P D vwCl (WL tc BC 253 hC) H) (hPM : va_P D vwCl (WL tc BM 26 hM) H) (hS : va_S (fun q => s.heap.size ≤ q) s.heap H locs) (hl : lv_has ls 4 [(3, .int (nI i)), (0, .ref b), (1, .ref BC), (2, .ref BM)])
    (ih : ∀ (i : Nat) (hC hM : Hp), INV hC hM → ∀ (H : Heap) (locs : List Loc) (ls : Array Slot), L < i + k → i ≤ 3078 → (∀ j, (hC.1 j).1 < 20 → j < 253) → (∀ j, (hM.1 j).1 < 20 → j < 26) → va_P D vwCl (WL tc BC 253 hC) H → va_P D vwCl (WL tc BM 26 hM) H → va_S (fun q => s.heap.size ≤ q) s.heap H locs → lv_has ls 4 [(3, .int (nI i)), (0, .ref b), (1, .ref BC), (2, .ref BM)] → W p l e room_1 s m #[Value.ref b] below meth c H locs 279 15699 (lw_Z below #[Value.ref b] s) (F0 m 18 ls [])) : W p l e room_1 s m #[Value.ref b] below meth c H locs 279 15699 (lw_Z below #[Value.ref b] s) (F0 m 165 ls []) := by
  obtain ⟨hx, hb, hr, hml, hown, hts0, hX, hbl, hlk, hgv⟩ := id C0
  have hts : ∀ w ∈ GT, w.before #[Value.ref b] s = true := fun w hw => hts0 w (List.mem_filter.mp hw).1
  have hbA : ¬ (fun q : Nat => s.heap.size ≤ q) b := Nat.not_le.mpr hbl
  obtain ⟨r, hC1, hM1, e1, e2, hI1⟩ := hO.2.1 hC hM hI (xs (i + 1)) (xs (i + 2)) (xs (i + 3)) (xs (i + 4)) (xs (i + 5))
  refine lv_aload_n hx hb (TB.get tb_law0 29 rfl) rfl (lv_at hl 2 rfl) ?_
  refine lv_aload_n hx hb (TB.get tb_law0 30 rfl) rfl (lv_at hl 1 rfl) ?_
  refine lv_iload_n hx hb (TB.get tb_law0 31 rfl) rfl (lv_at hl 0 rfl) ?_
  refine lv_iconst (v := nI 1) hx hb (TB.get tb_law0 32 rfl) rfl ?_
  refine lv_iadd hx hb (TB.get tb_law0 33 rfl) ?_
  refine LW_sld hx hb hX hbl hbA hS (show i + 1 < L by omega) (by omega) (TB.get tb_law0 34 rfl) ?_
  refine lv_aload_n hx hb (TB.get tb_law0 35 rfl) rfl (lv_at hl 1 rfl) ?_
  refine lv_iload_n hx hb (TB.get tb_law0 36 rfl) rfl (lv_at hl 0 rfl) ?_
  refine lv_iconst (v := nI 2) hx hb (TB.get tb_law0 37 rfl) rfl ?_
  refine lv_iadd hx hb (TB.get tb_law0 38 rfl) ?_
  refine LW_sld hx hb hX hbl hbA hS (show i + 2 < L by omega) (by omega) (TB.get tb_law0 39 rfl) ?_
  refine lv_aload_n hx hb (TB.get tb_law0 40 rfl) rfl (lv_at hl 1 rfl) ?_
  refine lv_iload_n hx hb (TB.get tb_law0 41 rfl) rfl (lv_at hl 0 rfl) ?_
  refine lv_iconst (v := nI 3) hx hb (TB.get tb_law0 42 rfl) rfl ?_
  refine lv_iadd hx hb (TB.get tb_law0 43 rfl) ?_
  refine LW_sld hx hb hX hbl hbA hS (show i + 3 < L by omega) (by omega) (TB.get tb_law0 44 rfl) ?_
  refine lv_aload_n hx hb (TB.get tb_law0 45 rfl) rfl (lv_at hl 1 rfl) ?_
  refine lv_iload_n hx hb (TB.get tb_law0 46 rfl) rfl (lv_at hl 0 rfl) ?_
  refine lv_iconst (v := nI 4) hx hb (TB.get tb_law0 47 rfl) rfl ?_
  refine lv_iadd hx hb (TB.get tb_law0 48 rfl) ?_
  refine LW_sld hx hb hX hbl hbA hS (show i + 4 < L by omega) (by omega) (TB.get tb_law0 49 rfl) ?_
  refine lv_aload_n hx hb (TB.get tb_law0 50 rfl) rfl (lv_at hl 1 rfl) ?_
  refine lv_iload_n hx hb (TB.get tb_law0 51 rfl) rfl (lv_at hl 0 rfl) ?_
  refine lv_iconst (v := nI 5) hx hb (TB.get tb_law0 52 rfl) rfl ?_
  refine lv_iadd hx hb (TB.get tb_law0 53 rfl) ?_
  refine LW_sld hx hb hX hbl hbA hS (show i + 5 < L by omega) (by omega) (TB.get tb_law0 54 rfl) ?_
  refine LW_call (As := [.int (xs (i + 1)), .int (xs (i + 2)), .int (xs (i + 3)), .int (xs (i + 4)), .int (xs (i + 5))]) (rest := []) hx hb hml hown hts hK (TB.get tb_law0 55 rfl) lc_X8_feed (ok_X8_feed 0 (xs (i + 1)) (xs (i + 2)) (xs (i + 3)) (xs (i + 4)) (xs (i + 5)) hC _ e1).1 (ok_X8_feed 0 (xs (i + 1)) (xs (i + 2)) (xs (i + 3)) (xs (i + 4)) (xs (i + 5)) hC _ e1).2 (Nat.le_of_ble_eq_true rfl) rfl (by intro v hv; simp only [List.mem_cons, List.not_mem_nil, or_false] at hv; rcases hv with rfl | rfl | rfl | rfl | rfl <;> exact ⟨_, rfl⟩) rfl (Nat.le_of_ble_eq_true rfl) hl.1 hnC hPC hS hBC ⟨Nat.le_of_ble_eq_true rfl, Nat.le_of_ble_eq_true rfl⟩ (fun H locs hnC hPC hoC hS => ?_)
  have hPM := LW_keep hPM hoC (fun i hi z => by have := z.1; have := z.2; omega)
  refine lv_aload_n hx hb (TB.get tb_law0 56 rfl) rfl (lv_at hl 3 rfl) ?_
  refine lv_aload_n hx hb (TB.get tb_law0 57 rfl) rfl (lv_at hl 1 rfl) ?_
  refine lv_iload_n hx hb (TB.get tb_law0 58 rfl) rfl (lv_at hl 0 rfl) ?_
  refine lv_iconst (v := nI 1) hx hb (TB.get tb_law0 59 rfl) rfl ?_
  refine lv_iadd hx hb (TB.get tb_law1 0 rfl) ?_
  refine LW_sld hx hb hX hbl hbA hS (show i + 1 < L by omega) (by omega) (TB.get tb_law1 1 rfl) ?_
  refine lv_aload_n hx hb (TB.get tb_law1 2 rfl) rfl (lv_at hl 1 rfl) ?_
  refine lv_iload_n hx hb (TB.get tb_law1 3 rfl) rfl (lv_at hl 0 rfl) ?_
  refine lv_iconst (v := nI 2) hx hb (TB.get tb_law1 4 rfl) rfl ?_
  refine lv_iadd hx hb (TB.get tb_law1 5 rfl) ?_
  refine LW_sld hx hb hX hbl hbA hS (show i + 2 < L by omega) (by omega) (TB.get tb_law1 6 rfl) ?_
  refine lv_aload_n hx hb (TB.get tb_law1 7 rfl) rfl (lv_at hl 1 rfl) ?_
  refine lv_iload_n hx hb (TB.get tb_law1 8 rfl) rfl (lv_at hl 0 rfl) ?_
  refine lv_iconst (v := nI 3) hx hb (TB.get tb_law1 9 rfl) rfl ?_
  refine lv_iadd hx hb (TB.get tb_law1 10 rfl) ?_
  refine LW_sld hx hb hX hbl hbA hS (show i + 3 < L by omega) (by omega) (TB.get tb_law1 11 rfl) ?_
  refine lv_aload_n hx hb (TB.get tb_law1 12 rfl) rfl (lv_at hl 1 rfl) ?_
  refine lv_iload_n hx hb (TB.get tb_law1 13 rfl) rfl (lv_at hl 0 rfl) ?_
  refine lv_iconst (v := nI 4) hx hb (TB.get tb_law1 14 rfl) rfl ?_
  refine lv_iadd hx hb (TB.get tb_law1 15 rfl) ?_
  refine LW_sld hx hb hX hbl hbA hS (show i + 4 < L by omega) (by omega) (TB.get tb_law1 16 rfl) ?_
  refine lv_aload_n hx hb (TB.get tb_law1 17 rfl) rfl (lv_at hl 1 rfl) ?_
  refine lv_iload_n hx hb (TB.get tb_law1 18 rfl) rfl (lv_at hl 0 rfl) ?_
  refine lv_iconst (v := nI 5) hx hb (TB.get tb_law1 19 rfl) rfl ?_
  refine lv_iadd hx hb (TB.get tb_law1 20 rfl) ?_
  refine LW_sld hx hb hX hbl hbA hS (show i + 5 < L by omega) (by omega) (TB.get tb_law1 21 rfl) ?_
  refine LW_call (As := [.int (xs (i + 1)), .int (xs (i + 2)), .int (xs (i + 3)), .int (xs (i + 4)), .int (xs (i + 5))]) (rest := [.int r]) hx hb hml hown hts hK (TB.get tb_law1 22 rfl) lc_X9_feed (ok_X9_feed fu 0 (xs (i + 1)) (xs (i + 2)) (xs (i + 3)) (xs (i + 4)) (xs (i + 5)) hM _ e2).1 (ok_X9_feed fu 0 (xs (i + 1)) (xs (i + 2)) (xs (i + 3)) (xs (i + 4)) (xs (i + 5)) hM _ e2).2 (Nat.le_of_ble_eq_true rfl) rfl (by intro v hv; simp only [List.mem_cons, List.not_mem_nil, or_false] at hv; rcases hv with rfl | rfl | rfl | rfl | rfl <;> exact ⟨_, rfl⟩) rfl (Nat.le_of_ble_eq_true rfl) hl.1 hnM hPM hS (by omega) ⟨Nat.le_of_ble_eq_true rfl, Nat.le_of_ble_eq_true rfl⟩ (fun H locs hnM hPM hoM hS => ?_)
  have hPC := LW_keep hPC hoM (fun i hi z => by have := z.1; omega)
  refine lv_icmp_eq (tgt := 1058) hx hb (TB.get tb_law1 23 rfl) rfl (fun _ => ?_) (fun z => absurd rfl z)
  refine lv_iinc (v := nI (i + 6)) (lv' := [(3, .int (nI (i + 6))), (0, .ref b), (1, .ref BC), (2, .ref BM)]) hx hb (TB.get tb_law12 28 rfl) hl (k := 0) rfl (nI_add i 6) (by decide) rfl (fun ls hl => ?_)
  refine lv_goto (tgt := 18) hx hb (TB.get tb_law12 29 rfl) rfl ?_
  exact ih (i + 6) hC1 hM1 hI1 _ _ _ (by omega) (by omega) hnC hnM hPC hPM hS hl
set_option maxRecDepth 100000 in
set_option maxHeartbeats 4000000 in
theorem law_load {p : Program} {l : Launch} {e : Env} {s : State} {m : MethodId} {below : List Frame} {meth : Method} {c : Code} {b L : Nat} {xs : Nat → Int32} {D : va_G} {tc : Nat → ClassId} {BC BM : Nat} (hL : L ≤ 3072) (C0 : lw_At p s m meth c b L xs) (hK : va_K D vwCl (TY tc) s) (hBC : s.heap.size ≤ BC) (hBM : BC + 253 ≤ BM) {INV : Hp → Hp → Prop} {fu : Nat} (hO : OKS INV fu) {k i : Nat} (hC hM : Hp) (hI : INV hC hM) (H : Heap) (locs : List Loc) (ls : Array Slot) (hiL : i + 6 ≤ L) (hik : L < i + (k + 1)) (hnC : ∀ j, (hC.1 j).1 < 20 → j < 253) (hnM : ∀ j, (hM.1 j).1 < 20 → j < 26) (hPC : va_P D vwCl (WL tc BC 253 hC) H) (hPM : va_P D vwCl (WL tc BM 26 hM) H) (hS : va_S (fun q => s.heap.size ≤ q) s.heap H locs) (hl : lv_has ls 4 [(3, .int (nI i)), (0, .ref b), (1, .ref BC), (2, .ref BM)])
    (ih : ∀ (i : Nat) (hC hM : Hp), INV hC hM → ∀ (H : Heap) (locs : List Loc) (ls : Array Slot), L < i + k → i ≤ 3078 → (∀ j, (hC.1 j).1 < 20 → j < 253) → (∀ j, (hM.1 j).1 < 20 → j < 26) → va_P D vwCl (WL tc BC 253 hC) H → va_P D vwCl (WL tc BM 26 hM) H → va_S (fun q => s.heap.size ≤ q) s.heap H locs → lv_has ls 4 [(3, .int (nI i)), (0, .ref b), (1, .ref BC), (2, .ref BM)] → W p l e room_1 s m #[Value.ref b] below meth c H locs 279 15699 (lw_Z below #[Value.ref b] s) (F0 m 18 ls [])) : W p l e room_1 s m #[Value.ref b] below meth c H locs 279 15699 (lw_Z below #[Value.ref b] s) (F0 m 228 ls []) := by
  obtain ⟨hx, hb, hr, hml, hown, hts0, hX, hbl, hlk, hgv⟩ := id C0
  have hts : ∀ w ∈ GT, w.before #[Value.ref b] s = true := fun w hw => hts0 w (List.mem_filter.mp hw).1
  have hbA : ¬ (fun q : Nat => s.heap.size ≤ q) b := Nat.not_le.mpr hbl
  obtain ⟨r, hC1, hM1, e1, e2, hI1⟩ := hO.2.2.1 hC hM hI (xs (i + 1))
  refine lv_aload_n hx hb (TB.get tb_law1 26 rfl) rfl (lv_at hl 2 rfl) ?_
  refine lv_aload_n hx hb (TB.get tb_law1 27 rfl) rfl (lv_at hl 1 rfl) ?_
  refine lv_iload_n hx hb (TB.get tb_law1 28 rfl) rfl (lv_at hl 0 rfl) ?_
  refine lv_iconst (v := nI 1) hx hb (TB.get tb_law1 29 rfl) rfl ?_
  refine lv_iadd hx hb (TB.get tb_law1 30 rfl) ?_
  refine LW_sld hx hb hX hbl hbA hS (show i + 1 < L by omega) (by omega) (TB.get tb_law1 31 rfl) ?_
  refine LW_call (As := [.int (xs (i + 1))]) (rest := []) hx hb hml hown hts hK (TB.get tb_law1 32 rfl) lc_X8_load (ok_X8_load fu 0 (xs (i + 1)) hC _ e1).1 (ok_X8_load fu 0 (xs (i + 1)) hC _ e1).2 (Nat.le_of_ble_eq_true rfl) rfl (by intro v hv; simp only [List.mem_cons, List.not_mem_nil, or_false] at hv; rcases hv with rfl <;> exact ⟨_, rfl⟩) rfl (Nat.le_of_ble_eq_true rfl) hl.1 hnC hPC hS hBC ⟨Nat.le_of_ble_eq_true rfl, Nat.le_of_ble_eq_true rfl⟩ (fun H locs hnC hPC hoC hS => ?_)
  have hPM := LW_keep hPM hoC (fun i hi z => by have := z.1; have := z.2; omega)
  refine lv_aload_n hx hb (TB.get tb_law1 33 rfl) rfl (lv_at hl 3 rfl) ?_
  refine lv_aload_n hx hb (TB.get tb_law1 34 rfl) rfl (lv_at hl 1 rfl) ?_
  refine lv_iload_n hx hb (TB.get tb_law1 35 rfl) rfl (lv_at hl 0 rfl) ?_
  refine lv_iconst (v := nI 1) hx hb (TB.get tb_law1 36 rfl) rfl ?_
  refine lv_iadd hx hb (TB.get tb_law1 37 rfl) ?_
  refine LW_sld hx hb hX hbl hbA hS (show i + 1 < L by omega) (by omega) (TB.get tb_law1 38 rfl) ?_
  refine LW_call (As := [.int (xs (i + 1))]) (rest := [.int r]) hx hb hml hown hts hK (TB.get tb_law1 39 rfl) lc_X9_load (ok_X9_load fu 0 (xs (i + 1)) hM _ e2).1 (ok_X9_load fu 0 (xs (i + 1)) hM _ e2).2 (Nat.le_of_ble_eq_true rfl) rfl (by intro v hv; simp only [List.mem_cons, List.not_mem_nil, or_false] at hv; rcases hv with rfl <;> exact ⟨_, rfl⟩) rfl (Nat.le_of_ble_eq_true rfl) hl.1 hnM hPM hS (by omega) ⟨Nat.le_of_ble_eq_true rfl, Nat.le_of_ble_eq_true rfl⟩ (fun H locs hnM hPM hoM hS => ?_)
  have hPC := LW_keep hPC hoM (fun i hi z => by have := z.1; omega)
  refine lv_icmp_eq (tgt := 1058) hx hb (TB.get tb_law1 40 rfl) rfl (fun _ => ?_) (fun z => absurd rfl z)
  refine lv_iinc (v := nI (i + 6)) (lv' := [(3, .int (nI (i + 6))), (0, .ref b), (1, .ref BC), (2, .ref BM)]) hx hb (TB.get tb_law12 28 rfl) hl (k := 0) rfl (nI_add i 6) (by decide) rfl (fun ls hl => ?_)
  refine lv_goto (tgt := 18) hx hb (TB.get tb_law12 29 rfl) rfl ?_
  exact ih (i + 6) hC1 hM1 hI1 _ _ _ (by omega) (by omega) hnC hnM hPC hPM hS hl
set_option maxRecDepth 100000 in
set_option maxHeartbeats 4000000 in
theorem law_fault {p : Program} {l : Launch} {e : Env} {s : State} {m : MethodId} {below : List Frame} {meth : Method} {c : Code} {b L : Nat} {xs : Nat → Int32} {D : va_G} {tc : Nat → ClassId} {BC BM : Nat} (hL : L ≤ 3072) (C0 : lw_At p s m meth c b L xs) (hK : va_K D vwCl (TY tc) s) (hBC : s.heap.size ≤ BC) (hBM : BC + 253 ≤ BM) {INV : Hp → Hp → Prop} {fu : Nat} (hO : OKS INV fu) {k i : Nat} (hC hM : Hp) (hI : INV hC hM) (H : Heap) (locs : List Loc) (ls : Array Slot) (hiL : i + 6 ≤ L) (hik : L < i + (k + 1)) (hnC : ∀ j, (hC.1 j).1 < 20 → j < 253) (hnM : ∀ j, (hM.1 j).1 < 20 → j < 26) (hPC : va_P D vwCl (WL tc BC 253 hC) H) (hPM : va_P D vwCl (WL tc BM 26 hM) H) (hS : va_S (fun q => s.heap.size ≤ q) s.heap H locs) (hl : lv_has ls 4 [(3, .int (nI i)), (0, .ref b), (1, .ref BC), (2, .ref BM)])
    (ih : ∀ (i : Nat) (hC hM : Hp), INV hC hM → ∀ (H : Heap) (locs : List Loc) (ls : Array Slot), L < i + k → i ≤ 3078 → (∀ j, (hC.1 j).1 < 20 → j < 253) → (∀ j, (hM.1 j).1 < 20 → j < 26) → va_P D vwCl (WL tc BC 253 hC) H → va_P D vwCl (WL tc BM 26 hM) H → va_S (fun q => s.heap.size ≤ q) s.heap H locs → lv_has ls 4 [(3, .int (nI i)), (0, .ref b), (1, .ref BC), (2, .ref BM)] → W p l e room_1 s m #[Value.ref b] below meth c H locs 279 15699 (lw_Z below #[Value.ref b] s) (F0 m 18 ls [])) : W p l e room_1 s m #[Value.ref b] below meth c H locs 279 15699 (lw_Z below #[Value.ref b] s) (F0 m 251 ls []) := by
  obtain ⟨hx, hb, hr, hml, hown, hts0, hX, hbl, hlk, hgv⟩ := id C0
  have hts : ∀ w ∈ GT, w.before #[Value.ref b] s = true := fun w hw => hts0 w (List.mem_filter.mp hw).1
  have hbA : ¬ (fun q : Nat => s.heap.size ≤ q) b := Nat.not_le.mpr hbl
  obtain ⟨r, e1, e2⟩ := hO.2.2.2.1 hC hM hI (xs (i + 1))
  refine lv_aload_n hx hb (TB.get tb_law1 43 rfl) rfl (lv_at hl 2 rfl) ?_
  refine lv_aload_n hx hb (TB.get tb_law1 44 rfl) rfl (lv_at hl 1 rfl) ?_
  refine lv_iload_n hx hb (TB.get tb_law1 45 rfl) rfl (lv_at hl 0 rfl) ?_
  refine lv_iconst (v := nI 1) hx hb (TB.get tb_law1 46 rfl) rfl ?_
  refine lv_iadd hx hb (TB.get tb_law1 47 rfl) ?_
  refine LW_sld hx hb hX hbl hbA hS (show i + 1 < L by omega) (by omega) (TB.get tb_law1 48 rfl) ?_
  refine LW_call (As := [.int (xs (i + 1))]) (rest := []) hx hb hml hown hts hK (TB.get tb_law1 49 rfl) lc_X8_fault (ok_X8_fault 0 (xs (i + 1)) hC _ e1).1 (ok_X8_fault 0 (xs (i + 1)) hC _ e1).2 (Nat.le_of_ble_eq_true rfl) rfl (by intro v hv; simp only [List.mem_cons, List.not_mem_nil, or_false] at hv; rcases hv with rfl <;> exact ⟨_, rfl⟩) rfl (Nat.le_of_ble_eq_true rfl) hl.1 hnC hPC hS hBC ⟨Nat.le_of_ble_eq_true rfl, Nat.le_of_ble_eq_true rfl⟩ (fun H locs hnC hPC hoC hS => ?_)
  have hPM := LW_keep hPM hoC (fun i hi z => by have := z.1; have := z.2; omega)
  refine lv_aload_n hx hb (TB.get tb_law1 50 rfl) rfl (lv_at hl 3 rfl) ?_
  refine lv_aload_n hx hb (TB.get tb_law1 51 rfl) rfl (lv_at hl 1 rfl) ?_
  refine lv_iload_n hx hb (TB.get tb_law1 52 rfl) rfl (lv_at hl 0 rfl) ?_
  refine lv_iconst (v := nI 1) hx hb (TB.get tb_law1 53 rfl) rfl ?_
  refine lv_iadd hx hb (TB.get tb_law1 54 rfl) ?_
  refine LW_sld hx hb hX hbl hbA hS (show i + 1 < L by omega) (by omega) (TB.get tb_law1 55 rfl) ?_
  refine LW_call (As := [.int (xs (i + 1))]) (rest := [.int r]) hx hb hml hown hts hK (TB.get tb_law1 56 rfl) lc_X9_fault (ok_X9_fault 0 (xs (i + 1)) hM _ e2).1 (ok_X9_fault 0 (xs (i + 1)) hM _ e2).2 (Nat.le_of_ble_eq_true rfl) rfl (by intro v hv; simp only [List.mem_cons, List.not_mem_nil, or_false] at hv; rcases hv with rfl <;> exact ⟨_, rfl⟩) rfl (Nat.le_of_ble_eq_true rfl) hl.1 hnM hPM hS (by omega) ⟨Nat.le_of_ble_eq_true rfl, Nat.le_of_ble_eq_true rfl⟩ (fun H locs hnM hPM hoM hS => ?_)
  have hPC := LW_keep hPC hoM (fun i hi z => by have := z.1; omega)
  refine lv_icmp_eq (tgt := 1058) hx hb (TB.get tb_law1 57 rfl) rfl (fun _ => ?_) (fun z => absurd rfl z)
  refine lv_iinc (v := nI (i + 6)) (lv' := [(3, .int (nI (i + 6))), (0, .ref b), (1, .ref BC), (2, .ref BM)]) hx hb (TB.get tb_law12 28 rfl) hl (k := 0) rfl (nI_add i 6) (by decide) rfl (fun ls hl => ?_)
  refine lv_goto (tgt := 18) hx hb (TB.get tb_law12 29 rfl) rfl ?_
  exact ih (i + 6) hC hM hI _ _ _ (by omega) (by omega) hnC hnM hPC hPM hS hl
set_option maxRecDepth 100000 in
set_option maxHeartbeats 4000000 in
theorem law_many {p : Program} {l : Launch} {e : Env} {s : State} {m : MethodId} {below : List Frame} {meth : Method} {c : Code} {b L : Nat} {xs : Nat → Int32} {D : va_G} {tc : Nat → ClassId} {BC BM : Nat} (hL : L ≤ 3072) (C0 : lw_At p s m meth c b L xs) (hK : va_K D vwCl (TY tc) s) (hBC : s.heap.size ≤ BC) (hBM : BC + 253 ≤ BM) {INV : Hp → Hp → Prop} {fu : Nat} (hO : OKS INV fu) {k i : Nat} (hC hM : Hp) (hI : INV hC hM) (H : Heap) (locs : List Loc) (ls : Array Slot) (hiL : i + 6 ≤ L) (hik : L < i + (k + 1)) (hnC : ∀ j, (hC.1 j).1 < 20 → j < 253) (hnM : ∀ j, (hM.1 j).1 < 20 → j < 26) (hPC : va_P D vwCl (WL tc BC 253 hC) H) (hPM : va_P D vwCl (WL tc BM 26 hM) H) (hS : va_S (fun q => s.heap.size ≤ q) s.heap H locs) (hl : lv_has ls 4 [(3, .int (nI i)), (0, .ref b), (1, .ref BC), (2, .ref BM)])
    (ih : ∀ (i : Nat) (hC hM : Hp), INV hC hM → ∀ (H : Heap) (locs : List Loc) (ls : Array Slot), L < i + k → i ≤ 3078 → (∀ j, (hC.1 j).1 < 20 → j < 253) → (∀ j, (hM.1 j).1 < 20 → j < 26) → va_P D vwCl (WL tc BC 253 hC) H → va_P D vwCl (WL tc BM 26 hM) H → va_S (fun q => s.heap.size ≤ q) s.heap H locs → lv_has ls 4 [(3, .int (nI i)), (0, .ref b), (1, .ref BC), (2, .ref BM)] → W p l e room_1 s m #[Value.ref b] below meth c H locs 279 15699 (lw_Z below #[Value.ref b] s) (F0 m 18 ls [])) : W p l e room_1 s m #[Value.ref b] below meth c H locs 279 15699 (lw_Z below #[Value.ref b] s) (F0 m 274 ls []) := by
  obtain ⟨hx, hb, hr, hml, hown, hts0, hX, hbl, hlk, hgv⟩ := id C0
  have hts : ∀ w ∈ GT, w.before #[Value.ref b] s = true := fun w hw => hts0 w (List.mem_filter.mp hw).1
  have hbA : ¬ (fun q : Nat => s.heap.size ≤ q) b := Nat.not_le.mpr hbl
  obtain ⟨r, hC1, hM1, e1, e2, hI1⟩ := hO.2.2.2.2.1 hC hM hI (xs (i + 1))
  refine lv_aload_n hx hb (TB.get tb_law2 0 rfl) rfl (lv_at hl 2 rfl) ?_
  refine lv_aload_n hx hb (TB.get tb_law2 1 rfl) rfl (lv_at hl 1 rfl) ?_
  refine lv_iload_n hx hb (TB.get tb_law2 2 rfl) rfl (lv_at hl 0 rfl) ?_
  refine lv_iconst (v := nI 1) hx hb (TB.get tb_law2 3 rfl) rfl ?_
  refine lv_iadd hx hb (TB.get tb_law2 4 rfl) ?_
  refine LW_sld hx hb hX hbl hbA hS (show i + 1 < L by omega) (by omega) (TB.get tb_law2 5 rfl) ?_
  refine LW_call (As := [.int (xs (i + 1))]) (rest := []) hx hb hml hown hts hK (TB.get tb_law2 6 rfl) lc_X8_many (ok_X8_many 0 (xs (i + 1)) hC _ e1).1 (ok_X8_many 0 (xs (i + 1)) hC _ e1).2 (Nat.le_of_ble_eq_true rfl) rfl (by intro v hv; simp only [List.mem_cons, List.not_mem_nil, or_false] at hv; rcases hv with rfl <;> exact ⟨_, rfl⟩) rfl (Nat.le_of_ble_eq_true rfl) hl.1 hnC hPC hS hBC ⟨Nat.le_of_ble_eq_true rfl, Nat.le_of_ble_eq_true rfl⟩ (fun H locs hnC hPC hoC hS => ?_)
  have hPM := LW_keep hPM hoC (fun i hi z => by have := z.1; have := z.2; omega)
  refine lv_aload_n hx hb (TB.get tb_law2 7 rfl) rfl (lv_at hl 3 rfl) ?_
  refine lv_aload_n hx hb (TB.get tb_law2 8 rfl) rfl (lv_at hl 1 rfl) ?_
  refine lv_iload_n hx hb (TB.get tb_law2 9 rfl) rfl (lv_at hl 0 rfl) ?_
  refine lv_iconst (v := nI 1) hx hb (TB.get tb_law2 10 rfl) rfl ?_
  refine lv_iadd hx hb (TB.get tb_law2 11 rfl) ?_
  refine LW_sld hx hb hX hbl hbA hS (show i + 1 < L by omega) (by omega) (TB.get tb_law2 12 rfl) ?_
  refine LW_call (As := [.int (xs (i + 1))]) (rest := [.int r]) hx hb hml hown hts hK (TB.get tb_law2 13 rfl) lc_X9_many (ok_X9_many 0 (xs (i + 1)) hM _ e2).1 (ok_X9_many 0 (xs (i + 1)) hM _ e2).2 (Nat.le_of_ble_eq_true rfl) rfl (by intro v hv; simp only [List.mem_cons, List.not_mem_nil, or_false] at hv; rcases hv with rfl <;> exact ⟨_, rfl⟩) rfl (Nat.le_of_ble_eq_true rfl) hl.1 hnM hPM hS (by omega) ⟨Nat.le_of_ble_eq_true rfl, Nat.le_of_ble_eq_true rfl⟩ (fun H locs hnM hPM hoM hS => ?_)
  have hPC := LW_keep hPC hoM (fun i hi z => by have := z.1; omega)
  refine lv_icmp_eq (tgt := 1058) hx hb (TB.get tb_law2 14 rfl) rfl (fun _ => ?_) (fun z => absurd rfl z)
  refine lv_iinc (v := nI (i + 6)) (lv' := [(3, .int (nI (i + 6))), (0, .ref b), (1, .ref BC), (2, .ref BM)]) hx hb (TB.get tb_law12 28 rfl) hl (k := 0) rfl (nI_add i 6) (by decide) rfl (fun ls hl => ?_)
  refine lv_goto (tgt := 18) hx hb (TB.get tb_law12 29 rfl) rfl ?_
  exact ih (i + 6) hC1 hM1 hI1 _ _ _ (by omega) (by omega) hnC hnM hPC hPM hS hl
set_option maxRecDepth 100000 in
set_option maxHeartbeats 4000000 in
theorem law_kind {p : Program} {l : Launch} {e : Env} {s : State} {m : MethodId} {below : List Frame} {meth : Method} {c : Code} {b L : Nat} {xs : Nat → Int32} {D : va_G} {tc : Nat → ClassId} {BC BM : Nat} (hL : L ≤ 3072) (C0 : lw_At p s m meth c b L xs) (hK : va_K D vwCl (TY tc) s) (hBC : s.heap.size ≤ BC) (hBM : BC + 253 ≤ BM) {INV : Hp → Hp → Prop} {fu : Nat} (hO : OKS INV fu) {k i : Nat} (hC hM : Hp) (hI : INV hC hM) (H : Heap) (locs : List Loc) (ls : Array Slot) (hiL : i + 6 ≤ L) (hik : L < i + (k + 1)) (hnC : ∀ j, (hC.1 j).1 < 20 → j < 253) (hnM : ∀ j, (hM.1 j).1 < 20 → j < 26) (hPC : va_P D vwCl (WL tc BC 253 hC) H) (hPM : va_P D vwCl (WL tc BM 26 hM) H) (hS : va_S (fun q => s.heap.size ≤ q) s.heap H locs) (hl : lv_has ls 4 [(3, .int (nI i)), (0, .ref b), (1, .ref BC), (2, .ref BM)])
    (ih : ∀ (i : Nat) (hC hM : Hp), INV hC hM → ∀ (H : Heap) (locs : List Loc) (ls : Array Slot), L < i + k → i ≤ 3078 → (∀ j, (hC.1 j).1 < 20 → j < 253) → (∀ j, (hM.1 j).1 < 20 → j < 26) → va_P D vwCl (WL tc BC 253 hC) H → va_P D vwCl (WL tc BM 26 hM) H → va_S (fun q => s.heap.size ≤ q) s.heap H locs → lv_has ls 4 [(3, .int (nI i)), (0, .ref b), (1, .ref BC), (2, .ref BM)] → W p l e room_1 s m #[Value.ref b] below meth c H locs 279 15699 (lw_Z below #[Value.ref b] s) (F0 m 18 ls [])) : W p l e room_1 s m #[Value.ref b] below meth c H locs 279 15699 (lw_Z below #[Value.ref b] s) (F0 m 297 ls []) := by
  obtain ⟨hx, hb, hr, hml, hown, hts0, hX, hbl, hlk, hgv⟩ := id C0
  have hts : ∀ w ∈ GT, w.before #[Value.ref b] s = true := fun w hw => hts0 w (List.mem_filter.mp hw).1
  have hbA : ¬ (fun q : Nat => s.heap.size ≤ q) b := Nat.not_le.mpr hbl
  obtain ⟨r, hC1, hM1, e1, e2, hI1⟩ := hO.2.2.2.2.2.1 hC hM hI (xs (i + 1)) (xs (i + 2))
  refine lv_aload_n hx hb (TB.get tb_law2 17 rfl) rfl (lv_at hl 2 rfl) ?_
  refine lv_aload_n hx hb (TB.get tb_law2 18 rfl) rfl (lv_at hl 1 rfl) ?_
  refine lv_iload_n hx hb (TB.get tb_law2 19 rfl) rfl (lv_at hl 0 rfl) ?_
  refine lv_iconst (v := nI 1) hx hb (TB.get tb_law2 20 rfl) rfl ?_
  refine lv_iadd hx hb (TB.get tb_law2 21 rfl) ?_
  refine LW_sld hx hb hX hbl hbA hS (show i + 1 < L by omega) (by omega) (TB.get tb_law2 22 rfl) ?_
  refine lv_aload_n hx hb (TB.get tb_law2 23 rfl) rfl (lv_at hl 1 rfl) ?_
  refine lv_iload_n hx hb (TB.get tb_law2 24 rfl) rfl (lv_at hl 0 rfl) ?_
  refine lv_iconst (v := nI 2) hx hb (TB.get tb_law2 25 rfl) rfl ?_
  refine lv_iadd hx hb (TB.get tb_law2 26 rfl) ?_
  refine LW_sld hx hb hX hbl hbA hS (show i + 2 < L by omega) (by omega) (TB.get tb_law2 27 rfl) ?_
  refine LW_call (As := [.int (xs (i + 1)), .int (xs (i + 2))]) (rest := []) hx hb hml hown hts hK (TB.get tb_law2 28 rfl) lc_X8_kind (ok_X8_kind fu 0 (xs (i + 1)) (xs (i + 2)) hC _ e1).1 (ok_X8_kind fu 0 (xs (i + 1)) (xs (i + 2)) hC _ e1).2 (Nat.le_of_ble_eq_true rfl) rfl (by intro v hv; simp only [List.mem_cons, List.not_mem_nil, or_false] at hv; rcases hv with rfl | rfl <;> exact ⟨_, rfl⟩) rfl (Nat.le_of_ble_eq_true rfl) hl.1 hnC hPC hS hBC ⟨Nat.le_of_ble_eq_true rfl, Nat.le_of_ble_eq_true rfl⟩ (fun H locs hnC hPC hoC hS => ?_)
  have hPM := LW_keep hPM hoC (fun i hi z => by have := z.1; have := z.2; omega)
  refine lv_aload_n hx hb (TB.get tb_law2 29 rfl) rfl (lv_at hl 3 rfl) ?_
  refine lv_aload_n hx hb (TB.get tb_law2 30 rfl) rfl (lv_at hl 1 rfl) ?_
  refine lv_iload_n hx hb (TB.get tb_law2 31 rfl) rfl (lv_at hl 0 rfl) ?_
  refine lv_iconst (v := nI 1) hx hb (TB.get tb_law2 32 rfl) rfl ?_
  refine lv_iadd hx hb (TB.get tb_law2 33 rfl) ?_
  refine LW_sld hx hb hX hbl hbA hS (show i + 1 < L by omega) (by omega) (TB.get tb_law2 34 rfl) ?_
  refine lv_aload_n hx hb (TB.get tb_law2 35 rfl) rfl (lv_at hl 1 rfl) ?_
  refine lv_iload_n hx hb (TB.get tb_law2 36 rfl) rfl (lv_at hl 0 rfl) ?_
  refine lv_iconst (v := nI 2) hx hb (TB.get tb_law2 37 rfl) rfl ?_
  refine lv_iadd hx hb (TB.get tb_law2 38 rfl) ?_
  refine LW_sld hx hb hX hbl hbA hS (show i + 2 < L by omega) (by omega) (TB.get tb_law2 39 rfl) ?_
  refine LW_call (As := [.int (xs (i + 1)), .int (xs (i + 2))]) (rest := [.int r]) hx hb hml hown hts hK (TB.get tb_law2 40 rfl) lc_X9_kind (ok_X9_kind fu 0 (xs (i + 1)) (xs (i + 2)) hM _ e2).1 (ok_X9_kind fu 0 (xs (i + 1)) (xs (i + 2)) hM _ e2).2 (Nat.le_of_ble_eq_true rfl) rfl (by intro v hv; simp only [List.mem_cons, List.not_mem_nil, or_false] at hv; rcases hv with rfl | rfl <;> exact ⟨_, rfl⟩) rfl (Nat.le_of_ble_eq_true rfl) hl.1 hnM hPM hS (by omega) ⟨Nat.le_of_ble_eq_true rfl, Nat.le_of_ble_eq_true rfl⟩ (fun H locs hnM hPM hoM hS => ?_)
  have hPC := LW_keep hPC hoM (fun i hi z => by have := z.1; omega)
  refine lv_icmp_eq (tgt := 1058) hx hb (TB.get tb_law2 41 rfl) rfl (fun _ => ?_) (fun z => absurd rfl z)
  refine lv_iinc (v := nI (i + 6)) (lv' := [(3, .int (nI (i + 6))), (0, .ref b), (1, .ref BC), (2, .ref BM)]) hx hb (TB.get tb_law12 28 rfl) hl (k := 0) rfl (nI_add i 6) (by decide) rfl (fun ls hl => ?_)
  refine lv_goto (tgt := 18) hx hb (TB.get tb_law12 29 rfl) rfl ?_
  exact ih (i + 6) hC1 hM1 hI1 _ _ _ (by omega) (by omega) hnC hnM hPC hPM hS hl
set_option maxRecDepth 100000 in
set_option maxHeartbeats 4000000 in
theorem law_method {p : Program} {l : Launch} {e : Env} {s : State} {m : MethodId} {below : List Frame} {meth : Method} {c : Code} {b L : Nat} {xs : Nat → Int32} {D : va_G} {tc : Nat → ClassId} {BC BM : Nat} (hL : L ≤ 3072) (C0 : lw_At p s m meth c b L xs) (hK : va_K D vwCl (TY tc) s) (hBC : s.heap.size ≤ BC) (hBM : BC + 253 ≤ BM) {INV : Hp → Hp → Prop} {fu : Nat} (hO : OKS INV fu) {k i : Nat} (hC hM : Hp) (hI : INV hC hM) (H : Heap) (locs : List Loc) (ls : Array Slot) (hiL : i + 6 ≤ L) (hik : L < i + (k + 1)) (hnC : ∀ j, (hC.1 j).1 < 20 → j < 253) (hnM : ∀ j, (hM.1 j).1 < 20 → j < 26) (hPC : va_P D vwCl (WL tc BC 253 hC) H) (hPM : va_P D vwCl (WL tc BM 26 hM) H) (hS : va_S (fun q => s.heap.size ≤ q) s.heap H locs) (hl : lv_has ls 4 [(3, .int (nI i)), (0, .ref b), (1, .ref BC), (2, .ref BM)])
    (ih : ∀ (i : Nat) (hC hM : Hp), INV hC hM → ∀ (H : Heap) (locs : List Loc) (ls : Array Slot), L < i + k → i ≤ 3078 → (∀ j, (hC.1 j).1 < 20 → j < 253) → (∀ j, (hM.1 j).1 < 20 → j < 26) → va_P D vwCl (WL tc BC 253 hC) H → va_P D vwCl (WL tc BM 26 hM) H → va_S (fun q => s.heap.size ≤ q) s.heap H locs → lv_has ls 4 [(3, .int (nI i)), (0, .ref b), (1, .ref BC), (2, .ref BM)] → W p l e room_1 s m #[Value.ref b] below meth c H locs 279 15699 (lw_Z below #[Value.ref b] s) (F0 m 18 ls [])) : W p l e room_1 s m #[Value.ref b] below meth c H locs 279 15699 (lw_Z below #[Value.ref b] s) (F0 m 330 ls []) := by
  obtain ⟨hx, hb, hr, hml, hown, hts0, hX, hbl, hlk, hgv⟩ := id C0
  have hts : ∀ w ∈ GT, w.before #[Value.ref b] s = true := fun w hw => hts0 w (List.mem_filter.mp hw).1
  have hbA : ¬ (fun q : Nat => s.heap.size ≤ q) b := Nat.not_le.mpr hbl
  obtain ⟨r, hC1, hM1, e1, e2, hI1⟩ := hO.2.2.2.2.2.2.1 hC hM hI (xs (i + 1)) (xs (i + 2)) (xs (i + 3))
  refine lv_aload_n hx hb (TB.get tb_law2 44 rfl) rfl (lv_at hl 2 rfl) ?_
  refine lv_aload_n hx hb (TB.get tb_law2 45 rfl) rfl (lv_at hl 1 rfl) ?_
  refine lv_iload_n hx hb (TB.get tb_law2 46 rfl) rfl (lv_at hl 0 rfl) ?_
  refine lv_iconst (v := nI 1) hx hb (TB.get tb_law2 47 rfl) rfl ?_
  refine lv_iadd hx hb (TB.get tb_law2 48 rfl) ?_
  refine LW_sld hx hb hX hbl hbA hS (show i + 1 < L by omega) (by omega) (TB.get tb_law2 49 rfl) ?_
  refine lv_aload_n hx hb (TB.get tb_law2 50 rfl) rfl (lv_at hl 1 rfl) ?_
  refine lv_iload_n hx hb (TB.get tb_law2 51 rfl) rfl (lv_at hl 0 rfl) ?_
  refine lv_iconst (v := nI 2) hx hb (TB.get tb_law2 52 rfl) rfl ?_
  refine lv_iadd hx hb (TB.get tb_law2 53 rfl) ?_
  refine LW_sld hx hb hX hbl hbA hS (show i + 2 < L by omega) (by omega) (TB.get tb_law2 54 rfl) ?_
  refine lv_aload_n hx hb (TB.get tb_law2 55 rfl) rfl (lv_at hl 1 rfl) ?_
  refine lv_iload_n hx hb (TB.get tb_law2 56 rfl) rfl (lv_at hl 0 rfl) ?_
  refine lv_iconst (v := nI 3) hx hb (TB.get tb_law2 57 rfl) rfl ?_
  refine lv_iadd hx hb (TB.get tb_law2 58 rfl) ?_
  refine LW_sld hx hb hX hbl hbA hS (show i + 3 < L by omega) (by omega) (TB.get tb_law2 59 rfl) ?_
  refine LW_call (As := [.int (xs (i + 1)), .int (xs (i + 2)), .int (xs (i + 3))]) (rest := []) hx hb hml hown hts hK (TB.get tb_law3 0 rfl) lc_X8_method (ok_X8_method 0 (xs (i + 1)) (xs (i + 2)) (xs (i + 3)) hC _ e1).1 (ok_X8_method 0 (xs (i + 1)) (xs (i + 2)) (xs (i + 3)) hC _ e1).2 (Nat.le_of_ble_eq_true rfl) rfl (by intro v hv; simp only [List.mem_cons, List.not_mem_nil, or_false] at hv; rcases hv with rfl | rfl | rfl <;> exact ⟨_, rfl⟩) rfl (Nat.le_of_ble_eq_true rfl) hl.1 hnC hPC hS hBC ⟨Nat.le_of_ble_eq_true rfl, Nat.le_of_ble_eq_true rfl⟩ (fun H locs hnC hPC hoC hS => ?_)
  have hPM := LW_keep hPM hoC (fun i hi z => by have := z.1; have := z.2; omega)
  refine lv_aload_n hx hb (TB.get tb_law3 1 rfl) rfl (lv_at hl 3 rfl) ?_
  refine lv_aload_n hx hb (TB.get tb_law3 2 rfl) rfl (lv_at hl 1 rfl) ?_
  refine lv_iload_n hx hb (TB.get tb_law3 3 rfl) rfl (lv_at hl 0 rfl) ?_
  refine lv_iconst (v := nI 1) hx hb (TB.get tb_law3 4 rfl) rfl ?_
  refine lv_iadd hx hb (TB.get tb_law3 5 rfl) ?_
  refine LW_sld hx hb hX hbl hbA hS (show i + 1 < L by omega) (by omega) (TB.get tb_law3 6 rfl) ?_
  refine lv_aload_n hx hb (TB.get tb_law3 7 rfl) rfl (lv_at hl 1 rfl) ?_
  refine lv_iload_n hx hb (TB.get tb_law3 8 rfl) rfl (lv_at hl 0 rfl) ?_
  refine lv_iconst (v := nI 2) hx hb (TB.get tb_law3 9 rfl) rfl ?_
  refine lv_iadd hx hb (TB.get tb_law3 10 rfl) ?_
  refine LW_sld hx hb hX hbl hbA hS (show i + 2 < L by omega) (by omega) (TB.get tb_law3 11 rfl) ?_
  refine lv_aload_n hx hb (TB.get tb_law3 12 rfl) rfl (lv_at hl 1 rfl) ?_
  refine lv_iload_n hx hb (TB.get tb_law3 13 rfl) rfl (lv_at hl 0 rfl) ?_
  refine lv_iconst (v := nI 3) hx hb (TB.get tb_law3 14 rfl) rfl ?_
  refine lv_iadd hx hb (TB.get tb_law3 15 rfl) ?_
  refine LW_sld hx hb hX hbl hbA hS (show i + 3 < L by omega) (by omega) (TB.get tb_law3 16 rfl) ?_
  refine LW_call (As := [.int (xs (i + 1)), .int (xs (i + 2)), .int (xs (i + 3))]) (rest := [.int r]) hx hb hml hown hts hK (TB.get tb_law3 17 rfl) lc_X9_method (ok_X9_method fu 0 (xs (i + 1)) (xs (i + 2)) (xs (i + 3)) hM _ e2).1 (ok_X9_method fu 0 (xs (i + 1)) (xs (i + 2)) (xs (i + 3)) hM _ e2).2 (Nat.le_of_ble_eq_true rfl) rfl (by intro v hv; simp only [List.mem_cons, List.not_mem_nil, or_false] at hv; rcases hv with rfl | rfl | rfl <;> exact ⟨_, rfl⟩) rfl (Nat.le_of_ble_eq_true rfl) hl.1 hnM hPM hS (by omega) ⟨Nat.le_of_ble_eq_true rfl, Nat.le_of_ble_eq_true rfl⟩ (fun H locs hnM hPM hoM hS => ?_)
  have hPC := LW_keep hPC hoM (fun i hi z => by have := z.1; omega)
  refine lv_icmp_eq (tgt := 1058) hx hb (TB.get tb_law3 18 rfl) rfl (fun _ => ?_) (fun z => absurd rfl z)
  refine lv_iinc (v := nI (i + 6)) (lv' := [(3, .int (nI (i + 6))), (0, .ref b), (1, .ref BC), (2, .ref BM)]) hx hb (TB.get tb_law12 28 rfl) hl (k := 0) rfl (nI_add i 6) (by decide) rfl (fun ls hl => ?_)
  refine lv_goto (tgt := 18) hx hb (TB.get tb_law12 29 rfl) rfl ?_
  exact ih (i + 6) hC1 hM1 hI1 _ _ _ (by omega) (by omega) hnC hnM hPC hPM hS hl
set_option maxRecDepth 100000 in
set_option maxHeartbeats 4000000 in
theorem law_comes {p : Program} {l : Launch} {e : Env} {s : State} {m : MethodId} {below : List Frame} {meth : Method} {c : Code} {b L : Nat} {xs : Nat → Int32} {D : va_G} {tc : Nat → ClassId} {BC BM : Nat} (hL : L ≤ 3072) (C0 : lw_At p s m meth c b L xs) (hK : va_K D vwCl (TY tc) s) (hBC : s.heap.size ≤ BC) (hBM : BC + 253 ≤ BM) {INV : Hp → Hp → Prop} {fu : Nat} (hO : OKS INV fu) {k i : Nat} (hC hM : Hp) (hI : INV hC hM) (H : Heap) (locs : List Loc) (ls : Array Slot) (hiL : i + 6 ≤ L) (hik : L < i + (k + 1)) (hnC : ∀ j, (hC.1 j).1 < 20 → j < 253) (hnM : ∀ j, (hM.1 j).1 < 20 → j < 26) (hPC : va_P D vwCl (WL tc BC 253 hC) H) (hPM : va_P D vwCl (WL tc BM 26 hM) H) (hS : va_S (fun q => s.heap.size ≤ q) s.heap H locs) (hl : lv_has ls 4 [(3, .int (nI i)), (0, .ref b), (1, .ref BC), (2, .ref BM)])
    (ih : ∀ (i : Nat) (hC hM : Hp), INV hC hM → ∀ (H : Heap) (locs : List Loc) (ls : Array Slot), L < i + k → i ≤ 3078 → (∀ j, (hC.1 j).1 < 20 → j < 253) → (∀ j, (hM.1 j).1 < 20 → j < 26) → va_P D vwCl (WL tc BC 253 hC) H → va_P D vwCl (WL tc BM 26 hM) H → va_S (fun q => s.heap.size ≤ q) s.heap H locs → lv_has ls 4 [(3, .int (nI i)), (0, .ref b), (1, .ref BC), (2, .ref BM)] → W p l e room_1 s m #[Value.ref b] below meth c H locs 279 15699 (lw_Z below #[Value.ref b] s) (F0 m 18 ls [])) : W p l e room_1 s m #[Value.ref b] below meth c H locs 279 15699 (lw_Z below #[Value.ref b] s) (F0 m 373 ls []) := by
  obtain ⟨hx, hb, hr, hml, hown, hts0, hX, hbl, hlk, hgv⟩ := id C0
  have hts : ∀ w ∈ GT, w.before #[Value.ref b] s = true := fun w hw => hts0 w (List.mem_filter.mp hw).1
  have hbA : ¬ (fun q : Nat => s.heap.size ≤ q) b := Nat.not_le.mpr hbl
  by_cases hz : xs (i + 4) = 0
  · obtain ⟨r, hC1, hM1, e1, e2, hI1⟩ := hO.2.2.2.2.2.2.2.1 hC hM hI (xs (i + 1)) (xs (i + 2)) (xs (i + 3)) 0 (Or.inl rfl)
    refine lv_aload_n hx hb (TB.get tb_law3 21 rfl) rfl (lv_at hl 2 rfl) ?_
    refine lv_aload_n hx hb (TB.get tb_law3 22 rfl) rfl (lv_at hl 1 rfl) ?_
    refine lv_iload_n hx hb (TB.get tb_law3 23 rfl) rfl (lv_at hl 0 rfl) ?_
    refine lv_iconst (v := nI 1) hx hb (TB.get tb_law3 24 rfl) rfl ?_
    refine lv_iadd hx hb (TB.get tb_law3 25 rfl) ?_
    refine LW_sld hx hb hX hbl hbA hS (show i + 1 < L by omega) (by omega) (TB.get tb_law3 26 rfl) ?_
    refine lv_aload_n hx hb (TB.get tb_law3 27 rfl) rfl (lv_at hl 1 rfl) ?_
    refine lv_iload_n hx hb (TB.get tb_law3 28 rfl) rfl (lv_at hl 0 rfl) ?_
    refine lv_iconst (v := nI 2) hx hb (TB.get tb_law3 29 rfl) rfl ?_
    refine lv_iadd hx hb (TB.get tb_law3 30 rfl) ?_
    refine LW_sld hx hb hX hbl hbA hS (show i + 2 < L by omega) (by omega) (TB.get tb_law3 31 rfl) ?_
    refine lv_aload_n hx hb (TB.get tb_law3 32 rfl) rfl (lv_at hl 1 rfl) ?_
    refine lv_iload_n hx hb (TB.get tb_law3 33 rfl) rfl (lv_at hl 0 rfl) ?_
    refine lv_iconst (v := nI 3) hx hb (TB.get tb_law3 34 rfl) rfl ?_
    refine lv_iadd hx hb (TB.get tb_law3 35 rfl) ?_
    refine LW_sld hx hb hX hbl hbA hS (show i + 3 < L by omega) (by omega) (TB.get tb_law3 36 rfl) ?_
    refine lv_aload_n hx hb (TB.get tb_law3 37 rfl) rfl (lv_at hl 1 rfl) ?_
    refine lv_iload_n hx hb (TB.get tb_law3 38 rfl) rfl (lv_at hl 0 rfl) ?_
    refine lv_iconst (v := nI 4) hx hb (TB.get tb_law3 39 rfl) rfl ?_
    refine lv_iadd hx hb (TB.get tb_law3 40 rfl) ?_
    refine LW_sld hx hb hX hbl hbA hS (show i + 4 < L by omega) (by omega) (TB.get tb_law3 41 rfl) ?_
    refine lv_if_eq (tgt := 401) hx hb (TB.get tb_law3 42 rfl) rfl (fun _ => ?_) (fun z => absurd hz z)
    refine lv_iconst (v := 0) hx hb (TB.get tb_law3 45 rfl) rfl ?_
    refine LW_call (As := [.int (xs (i + 1)), .int (xs (i + 2)), .int (xs (i + 3)), .int 0]) (rest := []) hx hb hml hown hts hK (TB.get tb_law3 46 rfl) lc_X8_comes (ok_X8_comes 0 (xs (i + 1)) (xs (i + 2)) (xs (i + 3)) 0 hC _ e1).1 (ok_X8_comes 0 (xs (i + 1)) (xs (i + 2)) (xs (i + 3)) 0 hC _ e1).2 (Nat.le_of_ble_eq_true rfl) rfl (by intro v hv; simp only [List.mem_cons, List.not_mem_nil, or_false] at hv; rcases hv with rfl | rfl | rfl | rfl <;> exact ⟨_, rfl⟩) rfl (Nat.le_of_ble_eq_true rfl) hl.1 hnC hPC hS hBC ⟨Nat.le_of_ble_eq_true rfl, Nat.le_of_ble_eq_true rfl⟩ (fun H locs hnC hPC hoC hS => ?_)
    have hPM := LW_keep hPM hoC (fun i hi z => by have := z.1; have := z.2; omega)
    refine lv_aload_n hx hb (TB.get tb_law3 47 rfl) rfl (lv_at hl 3 rfl) ?_
    refine lv_aload_n hx hb (TB.get tb_law3 48 rfl) rfl (lv_at hl 1 rfl) ?_
    refine lv_iload_n hx hb (TB.get tb_law3 49 rfl) rfl (lv_at hl 0 rfl) ?_
    refine lv_iconst (v := nI 1) hx hb (TB.get tb_law3 50 rfl) rfl ?_
    refine lv_iadd hx hb (TB.get tb_law3 51 rfl) ?_
    refine LW_sld hx hb hX hbl hbA hS (show i + 1 < L by omega) (by omega) (TB.get tb_law3 52 rfl) ?_
    refine lv_aload_n hx hb (TB.get tb_law3 53 rfl) rfl (lv_at hl 1 rfl) ?_
    refine lv_iload_n hx hb (TB.get tb_law3 54 rfl) rfl (lv_at hl 0 rfl) ?_
    refine lv_iconst (v := nI 2) hx hb (TB.get tb_law3 55 rfl) rfl ?_
    refine lv_iadd hx hb (TB.get tb_law3 56 rfl) ?_
    refine LW_sld hx hb hX hbl hbA hS (show i + 2 < L by omega) (by omega) (TB.get tb_law3 57 rfl) ?_
    refine lv_aload_n hx hb (TB.get tb_law3 58 rfl) rfl (lv_at hl 1 rfl) ?_
    refine lv_iload_n hx hb (TB.get tb_law3 59 rfl) rfl (lv_at hl 0 rfl) ?_
    refine lv_iconst (v := nI 3) hx hb (TB.get tb_law4 0 rfl) rfl ?_
    refine lv_iadd hx hb (TB.get tb_law4 1 rfl) ?_
    refine LW_sld hx hb hX hbl hbA hS (show i + 3 < L by omega) (by omega) (TB.get tb_law4 2 rfl) ?_
    refine lv_aload_n hx hb (TB.get tb_law4 3 rfl) rfl (lv_at hl 1 rfl) ?_
    refine lv_iload_n hx hb (TB.get tb_law4 4 rfl) rfl (lv_at hl 0 rfl) ?_
    refine lv_iconst (v := nI 4) hx hb (TB.get tb_law4 5 rfl) rfl ?_
    refine lv_iadd hx hb (TB.get tb_law4 6 rfl) ?_
    refine LW_sld hx hb hX hbl hbA hS (show i + 4 < L by omega) (by omega) (TB.get tb_law4 7 rfl) ?_
    refine lv_if_eq (tgt := 433) hx hb (TB.get tb_law4 8 rfl) rfl (fun _ => ?_) (fun z => absurd hz z)
    refine lv_iconst (v := 0) hx hb (TB.get tb_law4 11 rfl) rfl ?_
    refine LW_call (As := [.int (xs (i + 1)), .int (xs (i + 2)), .int (xs (i + 3)), .int 0]) (rest := [.int r]) hx hb hml hown hts hK (TB.get tb_law4 12 rfl) lc_X9_comes (ok_X9_comes 0 (xs (i + 1)) (xs (i + 2)) (xs (i + 3)) 0 hM _ e2).1 (ok_X9_comes 0 (xs (i + 1)) (xs (i + 2)) (xs (i + 3)) 0 hM _ e2).2 (Nat.le_of_ble_eq_true rfl) rfl (by intro v hv; simp only [List.mem_cons, List.not_mem_nil, or_false] at hv; rcases hv with rfl | rfl | rfl | rfl <;> exact ⟨_, rfl⟩) rfl (Nat.le_of_ble_eq_true rfl) hl.1 hnM hPM hS (by omega) ⟨Nat.le_of_ble_eq_true rfl, Nat.le_of_ble_eq_true rfl⟩ (fun H locs hnM hPM hoM hS => ?_)
    have hPC := LW_keep hPC hoM (fun i hi z => by have := z.1; omega)
    refine lv_icmp_eq (tgt := 1058) hx hb (TB.get tb_law4 13 rfl) rfl (fun _ => ?_) (fun z => absurd rfl z)
    refine lv_iinc (v := nI (i + 6)) (lv' := [(3, .int (nI (i + 6))), (0, .ref b), (1, .ref BC), (2, .ref BM)]) hx hb (TB.get tb_law12 28 rfl) hl (k := 0) rfl (nI_add i 6) (by decide) rfl (fun ls hl => ?_)
    refine lv_goto (tgt := 18) hx hb (TB.get tb_law12 29 rfl) rfl ?_
    exact ih (i + 6) hC1 hM1 hI1 _ _ _ (by omega) (by omega) hnC hnM hPC hPM hS hl
  · obtain ⟨r, hC1, hM1, e1, e2, hI1⟩ := hO.2.2.2.2.2.2.2.1 hC hM hI (xs (i + 1)) (xs (i + 2)) (xs (i + 3)) 1 (Or.inr rfl)
    refine lv_aload_n hx hb (TB.get tb_law3 21 rfl) rfl (lv_at hl 2 rfl) ?_
    refine lv_aload_n hx hb (TB.get tb_law3 22 rfl) rfl (lv_at hl 1 rfl) ?_
    refine lv_iload_n hx hb (TB.get tb_law3 23 rfl) rfl (lv_at hl 0 rfl) ?_
    refine lv_iconst (v := nI 1) hx hb (TB.get tb_law3 24 rfl) rfl ?_
    refine lv_iadd hx hb (TB.get tb_law3 25 rfl) ?_
    refine LW_sld hx hb hX hbl hbA hS (show i + 1 < L by omega) (by omega) (TB.get tb_law3 26 rfl) ?_
    refine lv_aload_n hx hb (TB.get tb_law3 27 rfl) rfl (lv_at hl 1 rfl) ?_
    refine lv_iload_n hx hb (TB.get tb_law3 28 rfl) rfl (lv_at hl 0 rfl) ?_
    refine lv_iconst (v := nI 2) hx hb (TB.get tb_law3 29 rfl) rfl ?_
    refine lv_iadd hx hb (TB.get tb_law3 30 rfl) ?_
    refine LW_sld hx hb hX hbl hbA hS (show i + 2 < L by omega) (by omega) (TB.get tb_law3 31 rfl) ?_
    refine lv_aload_n hx hb (TB.get tb_law3 32 rfl) rfl (lv_at hl 1 rfl) ?_
    refine lv_iload_n hx hb (TB.get tb_law3 33 rfl) rfl (lv_at hl 0 rfl) ?_
    refine lv_iconst (v := nI 3) hx hb (TB.get tb_law3 34 rfl) rfl ?_
    refine lv_iadd hx hb (TB.get tb_law3 35 rfl) ?_
    refine LW_sld hx hb hX hbl hbA hS (show i + 3 < L by omega) (by omega) (TB.get tb_law3 36 rfl) ?_
    refine lv_aload_n hx hb (TB.get tb_law3 37 rfl) rfl (lv_at hl 1 rfl) ?_
    refine lv_iload_n hx hb (TB.get tb_law3 38 rfl) rfl (lv_at hl 0 rfl) ?_
    refine lv_iconst (v := nI 4) hx hb (TB.get tb_law3 39 rfl) rfl ?_
    refine lv_iadd hx hb (TB.get tb_law3 40 rfl) ?_
    refine LW_sld hx hb hX hbl hbA hS (show i + 4 < L by omega) (by omega) (TB.get tb_law3 41 rfl) ?_
    refine lv_if_eq (tgt := 401) hx hb (TB.get tb_law3 42 rfl) rfl (fun z => absurd z hz) (fun _ => ?_)
    refine lv_iconst (v := 1) hx hb (TB.get tb_law3 43 rfl) rfl ?_
    refine lv_goto (tgt := 402) hx hb (TB.get tb_law3 44 rfl) rfl ?_
    refine LW_call (As := [.int (xs (i + 1)), .int (xs (i + 2)), .int (xs (i + 3)), .int 1]) (rest := []) hx hb hml hown hts hK (TB.get tb_law3 46 rfl) lc_X8_comes (ok_X8_comes 0 (xs (i + 1)) (xs (i + 2)) (xs (i + 3)) 1 hC _ e1).1 (ok_X8_comes 0 (xs (i + 1)) (xs (i + 2)) (xs (i + 3)) 1 hC _ e1).2 (Nat.le_of_ble_eq_true rfl) rfl (by intro v hv; simp only [List.mem_cons, List.not_mem_nil, or_false] at hv; rcases hv with rfl | rfl | rfl | rfl <;> exact ⟨_, rfl⟩) rfl (Nat.le_of_ble_eq_true rfl) hl.1 hnC hPC hS hBC ⟨Nat.le_of_ble_eq_true rfl, Nat.le_of_ble_eq_true rfl⟩ (fun H locs hnC hPC hoC hS => ?_)
    have hPM := LW_keep hPM hoC (fun i hi z => by have := z.1; have := z.2; omega)
    refine lv_aload_n hx hb (TB.get tb_law3 47 rfl) rfl (lv_at hl 3 rfl) ?_
    refine lv_aload_n hx hb (TB.get tb_law3 48 rfl) rfl (lv_at hl 1 rfl) ?_
    refine lv_iload_n hx hb (TB.get tb_law3 49 rfl) rfl (lv_at hl 0 rfl) ?_
    refine lv_iconst (v := nI 1) hx hb (TB.get tb_law3 50 rfl) rfl ?_
    refine lv_iadd hx hb (TB.get tb_law3 51 rfl) ?_
    refine LW_sld hx hb hX hbl hbA hS (show i + 1 < L by omega) (by omega) (TB.get tb_law3 52 rfl) ?_
    refine lv_aload_n hx hb (TB.get tb_law3 53 rfl) rfl (lv_at hl 1 rfl) ?_
    refine lv_iload_n hx hb (TB.get tb_law3 54 rfl) rfl (lv_at hl 0 rfl) ?_
    refine lv_iconst (v := nI 2) hx hb (TB.get tb_law3 55 rfl) rfl ?_
    refine lv_iadd hx hb (TB.get tb_law3 56 rfl) ?_
    refine LW_sld hx hb hX hbl hbA hS (show i + 2 < L by omega) (by omega) (TB.get tb_law3 57 rfl) ?_
    refine lv_aload_n hx hb (TB.get tb_law3 58 rfl) rfl (lv_at hl 1 rfl) ?_
    refine lv_iload_n hx hb (TB.get tb_law3 59 rfl) rfl (lv_at hl 0 rfl) ?_
    refine lv_iconst (v := nI 3) hx hb (TB.get tb_law4 0 rfl) rfl ?_
    refine lv_iadd hx hb (TB.get tb_law4 1 rfl) ?_
    refine LW_sld hx hb hX hbl hbA hS (show i + 3 < L by omega) (by omega) (TB.get tb_law4 2 rfl) ?_
    refine lv_aload_n hx hb (TB.get tb_law4 3 rfl) rfl (lv_at hl 1 rfl) ?_
    refine lv_iload_n hx hb (TB.get tb_law4 4 rfl) rfl (lv_at hl 0 rfl) ?_
    refine lv_iconst (v := nI 4) hx hb (TB.get tb_law4 5 rfl) rfl ?_
    refine lv_iadd hx hb (TB.get tb_law4 6 rfl) ?_
    refine LW_sld hx hb hX hbl hbA hS (show i + 4 < L by omega) (by omega) (TB.get tb_law4 7 rfl) ?_
    refine lv_if_eq (tgt := 433) hx hb (TB.get tb_law4 8 rfl) rfl (fun z => absurd z hz) (fun _ => ?_)
    refine lv_iconst (v := 1) hx hb (TB.get tb_law4 9 rfl) rfl ?_
    refine lv_goto (tgt := 434) hx hb (TB.get tb_law4 10 rfl) rfl ?_
    refine LW_call (As := [.int (xs (i + 1)), .int (xs (i + 2)), .int (xs (i + 3)), .int 1]) (rest := [.int r]) hx hb hml hown hts hK (TB.get tb_law4 12 rfl) lc_X9_comes (ok_X9_comes 0 (xs (i + 1)) (xs (i + 2)) (xs (i + 3)) 1 hM _ e2).1 (ok_X9_comes 0 (xs (i + 1)) (xs (i + 2)) (xs (i + 3)) 1 hM _ e2).2 (Nat.le_of_ble_eq_true rfl) rfl (by intro v hv; simp only [List.mem_cons, List.not_mem_nil, or_false] at hv; rcases hv with rfl | rfl | rfl | rfl <;> exact ⟨_, rfl⟩) rfl (Nat.le_of_ble_eq_true rfl) hl.1 hnM hPM hS (by omega) ⟨Nat.le_of_ble_eq_true rfl, Nat.le_of_ble_eq_true rfl⟩ (fun H locs hnM hPM hoM hS => ?_)
    have hPC := LW_keep hPC hoM (fun i hi z => by have := z.1; omega)
    refine lv_icmp_eq (tgt := 1058) hx hb (TB.get tb_law4 13 rfl) rfl (fun _ => ?_) (fun z => absurd rfl z)
    refine lv_iinc (v := nI (i + 6)) (lv' := [(3, .int (nI (i + 6))), (0, .ref b), (1, .ref BC), (2, .ref BM)]) hx hb (TB.get tb_law12 28 rfl) hl (k := 0) rfl (nI_add i 6) (by decide) rfl (fun ls hl => ?_)
    refine lv_goto (tgt := 18) hx hb (TB.get tb_law12 29 rfl) rfl ?_
    exact ih (i + 6) hC1 hM1 hI1 _ _ _ (by omega) (by omega) hnC hnM hPC hPM hS hl
set_option maxRecDepth 100000 in
set_option maxHeartbeats 4000000 in
theorem law_tell {p : Program} {l : Launch} {e : Env} {s : State} {m : MethodId} {below : List Frame} {meth : Method} {c : Code} {b L : Nat} {xs : Nat → Int32} {D : va_G} {tc : Nat → ClassId} {BC BM : Nat} (hL : L ≤ 3072) (C0 : lw_At p s m meth c b L xs) (hK : va_K D vwCl (TY tc) s) (hBC : s.heap.size ≤ BC) (hBM : BC + 253 ≤ BM) {INV : Hp → Hp → Prop} {fu : Nat} (hO : OKS INV fu) {k i : Nat} (hC hM : Hp) (hI : INV hC hM) (H : Heap) (locs : List Loc) (ls : Array Slot) (hiL : i + 6 ≤ L) (hik : L < i + (k + 1)) (hnC : ∀ j, (hC.1 j).1 < 20 → j < 253) (hnM : ∀ j, (hM.1 j).1 < 20 → j < 26) (hPC : va_P D vwCl (WL tc BC 253 hC) H) (hPM : va_P D vwCl (WL tc BM 26 hM) H) (hS : va_S (fun q => s.heap.size ≤ q) s.heap H locs) (hl : lv_has ls 4 [(3, .int (nI i)), (0, .ref b), (1, .ref BC), (2, .ref BM)])
    (ih : ∀ (i : Nat) (hC hM : Hp), INV hC hM → ∀ (H : Heap) (locs : List Loc) (ls : Array Slot), L < i + k → i ≤ 3078 → (∀ j, (hC.1 j).1 < 20 → j < 253) → (∀ j, (hM.1 j).1 < 20 → j < 26) → va_P D vwCl (WL tc BC 253 hC) H → va_P D vwCl (WL tc BM 26 hM) H → va_S (fun q => s.heap.size ≤ q) s.heap H locs → lv_has ls 4 [(3, .int (nI i)), (0, .ref b), (1, .ref BC), (2, .ref BM)] → W p l e room_1 s m #[Value.ref b] below meth c H locs 279 15699 (lw_Z below #[Value.ref b] s) (F0 m 18 ls [])) : W p l e room_1 s m #[Value.ref b] below meth c H locs 279 15699 (lw_Z below #[Value.ref b] s) (F0 m 442 ls []) := by
  obtain ⟨hx, hb, hr, hml, hown, hts0, hX, hbl, hlk, hgv⟩ := id C0
  have hts : ∀ w ∈ GT, w.before #[Value.ref b] s = true := fun w hw => hts0 w (List.mem_filter.mp hw).1
  have hbA : ¬ (fun q : Nat => s.heap.size ≤ q) b := Nat.not_le.mpr hbl
  by_cases hz : xs (i + 4) = 0
  · obtain ⟨r, hC1, hM1, e1, e2, hI1⟩ := hO.2.2.2.2.2.2.2.2.1 hC hM hI (xs (i + 1)) (xs (i + 2)) (xs (i + 3)) 0 (xs (i + 5)) (Or.inl rfl)
    refine lv_aload_n hx hb (TB.get tb_law4 16 rfl) rfl (lv_at hl 2 rfl) ?_
    refine lv_aload_n hx hb (TB.get tb_law4 17 rfl) rfl (lv_at hl 1 rfl) ?_
    refine lv_iload_n hx hb (TB.get tb_law4 18 rfl) rfl (lv_at hl 0 rfl) ?_
    refine lv_iconst (v := nI 1) hx hb (TB.get tb_law4 19 rfl) rfl ?_
    refine lv_iadd hx hb (TB.get tb_law4 20 rfl) ?_
    refine LW_sld hx hb hX hbl hbA hS (show i + 1 < L by omega) (by omega) (TB.get tb_law4 21 rfl) ?_
    refine lv_aload_n hx hb (TB.get tb_law4 22 rfl) rfl (lv_at hl 1 rfl) ?_
    refine lv_iload_n hx hb (TB.get tb_law4 23 rfl) rfl (lv_at hl 0 rfl) ?_
    refine lv_iconst (v := nI 2) hx hb (TB.get tb_law4 24 rfl) rfl ?_
    refine lv_iadd hx hb (TB.get tb_law4 25 rfl) ?_
    refine LW_sld hx hb hX hbl hbA hS (show i + 2 < L by omega) (by omega) (TB.get tb_law4 26 rfl) ?_
    refine lv_aload_n hx hb (TB.get tb_law4 27 rfl) rfl (lv_at hl 1 rfl) ?_
    refine lv_iload_n hx hb (TB.get tb_law4 28 rfl) rfl (lv_at hl 0 rfl) ?_
    refine lv_iconst (v := nI 3) hx hb (TB.get tb_law4 29 rfl) rfl ?_
    refine lv_iadd hx hb (TB.get tb_law4 30 rfl) ?_
    refine LW_sld hx hb hX hbl hbA hS (show i + 3 < L by omega) (by omega) (TB.get tb_law4 31 rfl) ?_
    refine lv_aload_n hx hb (TB.get tb_law4 32 rfl) rfl (lv_at hl 1 rfl) ?_
    refine lv_iload_n hx hb (TB.get tb_law4 33 rfl) rfl (lv_at hl 0 rfl) ?_
    refine lv_iconst (v := nI 4) hx hb (TB.get tb_law4 34 rfl) rfl ?_
    refine lv_iadd hx hb (TB.get tb_law4 35 rfl) ?_
    refine LW_sld hx hb hX hbl hbA hS (show i + 4 < L by omega) (by omega) (TB.get tb_law4 36 rfl) ?_
    refine lv_if_eq (tgt := 470) hx hb (TB.get tb_law4 37 rfl) rfl (fun _ => ?_) (fun z => absurd hz z)
    refine lv_iconst (v := 0) hx hb (TB.get tb_law4 40 rfl) rfl ?_
    refine lv_aload_n hx hb (TB.get tb_law4 41 rfl) rfl (lv_at hl 1 rfl) ?_
    refine lv_iload_n hx hb (TB.get tb_law4 42 rfl) rfl (lv_at hl 0 rfl) ?_
    refine lv_iconst (v := nI 5) hx hb (TB.get tb_law4 43 rfl) rfl ?_
    refine lv_iadd hx hb (TB.get tb_law4 44 rfl) ?_
    refine LW_sld hx hb hX hbl hbA hS (show i + 5 < L by omega) (by omega) (TB.get tb_law4 45 rfl) ?_
    refine LW_call (As := [.int (xs (i + 1)), .int (xs (i + 2)), .int (xs (i + 3)), .int 0, .int (xs (i + 5))]) (rest := []) hx hb hml hown hts hK (TB.get tb_law4 46 rfl) lc_X8_tell (ok_X8_tell fu 0 (xs (i + 1)) (xs (i + 2)) (xs (i + 3)) 0 (xs (i + 5)) hC _ e1).1 (ok_X8_tell fu 0 (xs (i + 1)) (xs (i + 2)) (xs (i + 3)) 0 (xs (i + 5)) hC _ e1).2 (Nat.le_of_ble_eq_true rfl) rfl (by intro v hv; simp only [List.mem_cons, List.not_mem_nil, or_false] at hv; rcases hv with rfl | rfl | rfl | rfl | rfl <;> exact ⟨_, rfl⟩) rfl (Nat.le_of_ble_eq_true rfl) hl.1 hnC hPC hS hBC ⟨Nat.le_of_ble_eq_true rfl, Nat.le_of_ble_eq_true rfl⟩ (fun H locs hnC hPC hoC hS => ?_)
    have hPM := LW_keep hPM hoC (fun i hi z => by have := z.1; have := z.2; omega)
    refine lv_aload_n hx hb (TB.get tb_law4 47 rfl) rfl (lv_at hl 3 rfl) ?_
    refine lv_aload_n hx hb (TB.get tb_law4 48 rfl) rfl (lv_at hl 1 rfl) ?_
    refine lv_iload_n hx hb (TB.get tb_law4 49 rfl) rfl (lv_at hl 0 rfl) ?_
    refine lv_iconst (v := nI 1) hx hb (TB.get tb_law4 50 rfl) rfl ?_
    refine lv_iadd hx hb (TB.get tb_law4 51 rfl) ?_
    refine LW_sld hx hb hX hbl hbA hS (show i + 1 < L by omega) (by omega) (TB.get tb_law4 52 rfl) ?_
    refine lv_aload_n hx hb (TB.get tb_law4 53 rfl) rfl (lv_at hl 1 rfl) ?_
    refine lv_iload_n hx hb (TB.get tb_law4 54 rfl) rfl (lv_at hl 0 rfl) ?_
    refine lv_iconst (v := nI 2) hx hb (TB.get tb_law4 55 rfl) rfl ?_
    refine lv_iadd hx hb (TB.get tb_law4 56 rfl) ?_
    refine LW_sld hx hb hX hbl hbA hS (show i + 2 < L by omega) (by omega) (TB.get tb_law4 57 rfl) ?_
    refine lv_aload_n hx hb (TB.get tb_law4 58 rfl) rfl (lv_at hl 1 rfl) ?_
    refine lv_iload_n hx hb (TB.get tb_law4 59 rfl) rfl (lv_at hl 0 rfl) ?_
    refine lv_iconst (v := nI 3) hx hb (TB.get tb_law5 0 rfl) rfl ?_
    refine lv_iadd hx hb (TB.get tb_law5 1 rfl) ?_
    refine LW_sld hx hb hX hbl hbA hS (show i + 3 < L by omega) (by omega) (TB.get tb_law5 2 rfl) ?_
    refine lv_aload_n hx hb (TB.get tb_law5 3 rfl) rfl (lv_at hl 1 rfl) ?_
    refine lv_iload_n hx hb (TB.get tb_law5 4 rfl) rfl (lv_at hl 0 rfl) ?_
    refine lv_iconst (v := nI 4) hx hb (TB.get tb_law5 5 rfl) rfl ?_
    refine lv_iadd hx hb (TB.get tb_law5 6 rfl) ?_
    refine LW_sld hx hb hX hbl hbA hS (show i + 4 < L by omega) (by omega) (TB.get tb_law5 7 rfl) ?_
    refine lv_if_eq (tgt := 507) hx hb (TB.get tb_law5 8 rfl) rfl (fun _ => ?_) (fun z => absurd hz z)
    refine lv_iconst (v := 0) hx hb (TB.get tb_law5 11 rfl) rfl ?_
    refine lv_aload_n hx hb (TB.get tb_law5 12 rfl) rfl (lv_at hl 1 rfl) ?_
    refine lv_iload_n hx hb (TB.get tb_law5 13 rfl) rfl (lv_at hl 0 rfl) ?_
    refine lv_iconst (v := nI 5) hx hb (TB.get tb_law5 14 rfl) rfl ?_
    refine lv_iadd hx hb (TB.get tb_law5 15 rfl) ?_
    refine LW_sld hx hb hX hbl hbA hS (show i + 5 < L by omega) (by omega) (TB.get tb_law5 16 rfl) ?_
    refine LW_call (As := [.int (xs (i + 1)), .int (xs (i + 2)), .int (xs (i + 3)), .int 0, .int (xs (i + 5))]) (rest := [.int r]) hx hb hml hown hts hK (TB.get tb_law5 17 rfl) lc_X9_tell (ok_X9_tell 0 (xs (i + 1)) (xs (i + 2)) (xs (i + 3)) 0 (xs (i + 5)) hM _ e2).1 (ok_X9_tell 0 (xs (i + 1)) (xs (i + 2)) (xs (i + 3)) 0 (xs (i + 5)) hM _ e2).2 (Nat.le_of_ble_eq_true rfl) rfl (by intro v hv; simp only [List.mem_cons, List.not_mem_nil, or_false] at hv; rcases hv with rfl | rfl | rfl | rfl | rfl <;> exact ⟨_, rfl⟩) rfl (Nat.le_of_ble_eq_true rfl) hl.1 hnM hPM hS (by omega) ⟨Nat.le_of_ble_eq_true rfl, Nat.le_of_ble_eq_true rfl⟩ (fun H locs hnM hPM hoM hS => ?_)
    have hPC := LW_keep hPC hoM (fun i hi z => by have := z.1; omega)
    refine lv_icmp_eq (tgt := 1058) hx hb (TB.get tb_law5 18 rfl) rfl (fun _ => ?_) (fun z => absurd rfl z)
    refine lv_iinc (v := nI (i + 6)) (lv' := [(3, .int (nI (i + 6))), (0, .ref b), (1, .ref BC), (2, .ref BM)]) hx hb (TB.get tb_law12 28 rfl) hl (k := 0) rfl (nI_add i 6) (by decide) rfl (fun ls hl => ?_)
    refine lv_goto (tgt := 18) hx hb (TB.get tb_law12 29 rfl) rfl ?_
    exact ih (i + 6) hC1 hM1 hI1 _ _ _ (by omega) (by omega) hnC hnM hPC hPM hS hl
  · obtain ⟨r, hC1, hM1, e1, e2, hI1⟩ := hO.2.2.2.2.2.2.2.2.1 hC hM hI (xs (i + 1)) (xs (i + 2)) (xs (i + 3)) 1 (xs (i + 5)) (Or.inr rfl)
    refine lv_aload_n hx hb (TB.get tb_law4 16 rfl) rfl (lv_at hl 2 rfl) ?_
    refine lv_aload_n hx hb (TB.get tb_law4 17 rfl) rfl (lv_at hl 1 rfl) ?_
    refine lv_iload_n hx hb (TB.get tb_law4 18 rfl) rfl (lv_at hl 0 rfl) ?_
    refine lv_iconst (v := nI 1) hx hb (TB.get tb_law4 19 rfl) rfl ?_
    refine lv_iadd hx hb (TB.get tb_law4 20 rfl) ?_
    refine LW_sld hx hb hX hbl hbA hS (show i + 1 < L by omega) (by omega) (TB.get tb_law4 21 rfl) ?_
    refine lv_aload_n hx hb (TB.get tb_law4 22 rfl) rfl (lv_at hl 1 rfl) ?_
    refine lv_iload_n hx hb (TB.get tb_law4 23 rfl) rfl (lv_at hl 0 rfl) ?_
    refine lv_iconst (v := nI 2) hx hb (TB.get tb_law4 24 rfl) rfl ?_
    refine lv_iadd hx hb (TB.get tb_law4 25 rfl) ?_
    refine LW_sld hx hb hX hbl hbA hS (show i + 2 < L by omega) (by omega) (TB.get tb_law4 26 rfl) ?_
    refine lv_aload_n hx hb (TB.get tb_law4 27 rfl) rfl (lv_at hl 1 rfl) ?_
    refine lv_iload_n hx hb (TB.get tb_law4 28 rfl) rfl (lv_at hl 0 rfl) ?_
    refine lv_iconst (v := nI 3) hx hb (TB.get tb_law4 29 rfl) rfl ?_
    refine lv_iadd hx hb (TB.get tb_law4 30 rfl) ?_
    refine LW_sld hx hb hX hbl hbA hS (show i + 3 < L by omega) (by omega) (TB.get tb_law4 31 rfl) ?_
    refine lv_aload_n hx hb (TB.get tb_law4 32 rfl) rfl (lv_at hl 1 rfl) ?_
    refine lv_iload_n hx hb (TB.get tb_law4 33 rfl) rfl (lv_at hl 0 rfl) ?_
    refine lv_iconst (v := nI 4) hx hb (TB.get tb_law4 34 rfl) rfl ?_
    refine lv_iadd hx hb (TB.get tb_law4 35 rfl) ?_
    refine LW_sld hx hb hX hbl hbA hS (show i + 4 < L by omega) (by omega) (TB.get tb_law4 36 rfl) ?_
    refine lv_if_eq (tgt := 470) hx hb (TB.get tb_law4 37 rfl) rfl (fun z => absurd z hz) (fun _ => ?_)
    refine lv_iconst (v := 1) hx hb (TB.get tb_law4 38 rfl) rfl ?_
    refine lv_goto (tgt := 471) hx hb (TB.get tb_law4 39 rfl) rfl ?_
    refine lv_aload_n hx hb (TB.get tb_law4 41 rfl) rfl (lv_at hl 1 rfl) ?_
    refine lv_iload_n hx hb (TB.get tb_law4 42 rfl) rfl (lv_at hl 0 rfl) ?_
    refine lv_iconst (v := nI 5) hx hb (TB.get tb_law4 43 rfl) rfl ?_
    refine lv_iadd hx hb (TB.get tb_law4 44 rfl) ?_
    refine LW_sld hx hb hX hbl hbA hS (show i + 5 < L by omega) (by omega) (TB.get tb_law4 45 rfl) ?_
    refine LW_call (As := [.int (xs (i + 1)), .int (xs (i + 2)), .int (xs (i + 3)), .int 1, .int (xs (i + 5))]) (rest := []) hx hb hml hown hts hK (TB.get tb_law4 46 rfl) lc_X8_tell (ok_X8_tell fu 0 (xs (i + 1)) (xs (i + 2)) (xs (i + 3)) 1 (xs (i + 5)) hC _ e1).1 (ok_X8_tell fu 0 (xs (i + 1)) (xs (i + 2)) (xs (i + 3)) 1 (xs (i + 5)) hC _ e1).2 (Nat.le_of_ble_eq_true rfl) rfl (by intro v hv; simp only [List.mem_cons, List.not_mem_nil, or_false] at hv; rcases hv with rfl | rfl | rfl | rfl | rfl <;> exact ⟨_, rfl⟩) rfl (Nat.le_of_ble_eq_true rfl) hl.1 hnC hPC hS hBC ⟨Nat.le_of_ble_eq_true rfl, Nat.le_of_ble_eq_true rfl⟩ (fun H locs hnC hPC hoC hS => ?_)
    have hPM := LW_keep hPM hoC (fun i hi z => by have := z.1; have := z.2; omega)
    refine lv_aload_n hx hb (TB.get tb_law4 47 rfl) rfl (lv_at hl 3 rfl) ?_
    refine lv_aload_n hx hb (TB.get tb_law4 48 rfl) rfl (lv_at hl 1 rfl) ?_
    refine lv_iload_n hx hb (TB.get tb_law4 49 rfl) rfl (lv_at hl 0 rfl) ?_
    refine lv_iconst (v := nI 1) hx hb (TB.get tb_law4 50 rfl) rfl ?_
    refine lv_iadd hx hb (TB.get tb_law4 51 rfl) ?_
    refine LW_sld hx hb hX hbl hbA hS (show i + 1 < L by omega) (by omega) (TB.get tb_law4 52 rfl) ?_
    refine lv_aload_n hx hb (TB.get tb_law4 53 rfl) rfl (lv_at hl 1 rfl) ?_
    refine lv_iload_n hx hb (TB.get tb_law4 54 rfl) rfl (lv_at hl 0 rfl) ?_
    refine lv_iconst (v := nI 2) hx hb (TB.get tb_law4 55 rfl) rfl ?_
    refine lv_iadd hx hb (TB.get tb_law4 56 rfl) ?_
    refine LW_sld hx hb hX hbl hbA hS (show i + 2 < L by omega) (by omega) (TB.get tb_law4 57 rfl) ?_
    refine lv_aload_n hx hb (TB.get tb_law4 58 rfl) rfl (lv_at hl 1 rfl) ?_
    refine lv_iload_n hx hb (TB.get tb_law4 59 rfl) rfl (lv_at hl 0 rfl) ?_
    refine lv_iconst (v := nI 3) hx hb (TB.get tb_law5 0 rfl) rfl ?_
    refine lv_iadd hx hb (TB.get tb_law5 1 rfl) ?_
    refine LW_sld hx hb hX hbl hbA hS (show i + 3 < L by omega) (by omega) (TB.get tb_law5 2 rfl) ?_
    refine lv_aload_n hx hb (TB.get tb_law5 3 rfl) rfl (lv_at hl 1 rfl) ?_
    refine lv_iload_n hx hb (TB.get tb_law5 4 rfl) rfl (lv_at hl 0 rfl) ?_
    refine lv_iconst (v := nI 4) hx hb (TB.get tb_law5 5 rfl) rfl ?_
    refine lv_iadd hx hb (TB.get tb_law5 6 rfl) ?_
    refine LW_sld hx hb hX hbl hbA hS (show i + 4 < L by omega) (by omega) (TB.get tb_law5 7 rfl) ?_
    refine lv_if_eq (tgt := 507) hx hb (TB.get tb_law5 8 rfl) rfl (fun z => absurd z hz) (fun _ => ?_)
    refine lv_iconst (v := 1) hx hb (TB.get tb_law5 9 rfl) rfl ?_
    refine lv_goto (tgt := 508) hx hb (TB.get tb_law5 10 rfl) rfl ?_
    refine lv_aload_n hx hb (TB.get tb_law5 12 rfl) rfl (lv_at hl 1 rfl) ?_
    refine lv_iload_n hx hb (TB.get tb_law5 13 rfl) rfl (lv_at hl 0 rfl) ?_
    refine lv_iconst (v := nI 5) hx hb (TB.get tb_law5 14 rfl) rfl ?_
    refine lv_iadd hx hb (TB.get tb_law5 15 rfl) ?_
    refine LW_sld hx hb hX hbl hbA hS (show i + 5 < L by omega) (by omega) (TB.get tb_law5 16 rfl) ?_
    refine LW_call (As := [.int (xs (i + 1)), .int (xs (i + 2)), .int (xs (i + 3)), .int 1, .int (xs (i + 5))]) (rest := [.int r]) hx hb hml hown hts hK (TB.get tb_law5 17 rfl) lc_X9_tell (ok_X9_tell 0 (xs (i + 1)) (xs (i + 2)) (xs (i + 3)) 1 (xs (i + 5)) hM _ e2).1 (ok_X9_tell 0 (xs (i + 1)) (xs (i + 2)) (xs (i + 3)) 1 (xs (i + 5)) hM _ e2).2 (Nat.le_of_ble_eq_true rfl) rfl (by intro v hv; simp only [List.mem_cons, List.not_mem_nil, or_false] at hv; rcases hv with rfl | rfl | rfl | rfl | rfl <;> exact ⟨_, rfl⟩) rfl (Nat.le_of_ble_eq_true rfl) hl.1 hnM hPM hS (by omega) ⟨Nat.le_of_ble_eq_true rfl, Nat.le_of_ble_eq_true rfl⟩ (fun H locs hnM hPM hoM hS => ?_)
    have hPC := LW_keep hPC hoM (fun i hi z => by have := z.1; omega)
    refine lv_icmp_eq (tgt := 1058) hx hb (TB.get tb_law5 18 rfl) rfl (fun _ => ?_) (fun z => absurd rfl z)
    refine lv_iinc (v := nI (i + 6)) (lv' := [(3, .int (nI (i + 6))), (0, .ref b), (1, .ref BC), (2, .ref BM)]) hx hb (TB.get tb_law12 28 rfl) hl (k := 0) rfl (nI_add i 6) (by decide) rfl (fun ls hl => ?_)
    refine lv_goto (tgt := 18) hx hb (TB.get tb_law12 29 rfl) rfl ?_
    exact ih (i + 6) hC1 hM1 hI1 _ _ _ (by omega) (by omega) hnC hnM hPC hPM hS hl
set_option maxRecDepth 100000 in
set_option maxHeartbeats 4000000 in
theorem law_toEnd {p : Program} {l : Launch} {e : Env} {s : State} {m : MethodId} {below : List Frame} {meth : Method} {c : Code} {b L : Nat} {xs : Nat → Int32} {D : va_G} {tc : Nat → ClassId} {BC BM : Nat} (hL : L ≤ 3072) (C0 : lw_At p s m meth c b L xs) (hK : va_K D vwCl (TY tc) s) (hBC : s.heap.size ≤ BC) (hBM : BC + 253 ≤ BM) {INV : Hp → Hp → Prop} {fu : Nat} (hO : OKS INV fu) {k i : Nat} (hC hM : Hp) (hI : INV hC hM) (H : Heap) (locs : List Loc) (ls : Array Slot) (hiL : i + 6 ≤ L) (hik : L < i + (k + 1)) (hnC : ∀ j, (hC.1 j).1 < 20 → j < 253) (hnM : ∀ j, (hM.1 j).1 < 20 → j < 26) (hPC : va_P D vwCl (WL tc BC 253 hC) H) (hPM : va_P D vwCl (WL tc BM 26 hM) H) (hS : va_S (fun q => s.heap.size ≤ q) s.heap H locs) (hl : lv_has ls 4 [(3, .int (nI i)), (0, .ref b), (1, .ref BC), (2, .ref BM)])
    (ih : ∀ (i : Nat) (hC hM : Hp), INV hC hM → ∀ (H : Heap) (locs : List Loc) (ls : Array Slot), L < i + k → i ≤ 3078 → (∀ j, (hC.1 j).1 < 20 → j < 253) → (∀ j, (hM.1 j).1 < 20 → j < 26) → va_P D vwCl (WL tc BC 253 hC) H → va_P D vwCl (WL tc BM 26 hM) H → va_S (fun q => s.heap.size ≤ q) s.heap H locs → lv_has ls 4 [(3, .int (nI i)), (0, .ref b), (1, .ref BC), (2, .ref BM)] → W p l e room_1 s m #[Value.ref b] below meth c H locs 279 15699 (lw_Z below #[Value.ref b] s) (F0 m 18 ls [])) : W p l e room_1 s m #[Value.ref b] below meth c H locs 279 15699 (lw_Z below #[Value.ref b] s) (F0 m 521 ls []) := by
  obtain ⟨hx, hb, hr, hml, hown, hts0, hX, hbl, hlk, hgv⟩ := id C0
  have hts : ∀ w ∈ GT, w.before #[Value.ref b] s = true := fun w hw => hts0 w (List.mem_filter.mp hw).1
  have hbA : ¬ (fun q : Nat => s.heap.size ≤ q) b := Nat.not_le.mpr hbl
  obtain ⟨r, hC1, hM1, e1, e2, hI1⟩ := hO.2.2.2.2.2.2.2.2.2.1 hC hM hI (xs (i + 1)) (xs (i + 2))
  refine lv_aload_n hx hb (TB.get tb_law5 21 rfl) rfl (lv_at hl 2 rfl) ?_
  refine lv_aload_n hx hb (TB.get tb_law5 22 rfl) rfl (lv_at hl 1 rfl) ?_
  refine lv_iload_n hx hb (TB.get tb_law5 23 rfl) rfl (lv_at hl 0 rfl) ?_
  refine lv_iconst (v := nI 1) hx hb (TB.get tb_law5 24 rfl) rfl ?_
  refine lv_iadd hx hb (TB.get tb_law5 25 rfl) ?_
  refine LW_sld hx hb hX hbl hbA hS (show i + 1 < L by omega) (by omega) (TB.get tb_law5 26 rfl) ?_
  refine lv_aload_n hx hb (TB.get tb_law5 27 rfl) rfl (lv_at hl 1 rfl) ?_
  refine lv_iload_n hx hb (TB.get tb_law5 28 rfl) rfl (lv_at hl 0 rfl) ?_
  refine lv_iconst (v := nI 2) hx hb (TB.get tb_law5 29 rfl) rfl ?_
  refine lv_iadd hx hb (TB.get tb_law5 30 rfl) ?_
  refine LW_sld hx hb hX hbl hbA hS (show i + 2 < L by omega) (by omega) (TB.get tb_law5 31 rfl) ?_
  refine LW_call (As := [.int (xs (i + 1)), .int (xs (i + 2))]) (rest := []) hx hb hml hown hts hK (TB.get tb_law5 32 rfl) lc_X8_toEnd (ok_X8_toEnd fu 0 (xs (i + 1)) (xs (i + 2)) hC _ e1).1 (ok_X8_toEnd fu 0 (xs (i + 1)) (xs (i + 2)) hC _ e1).2 (Nat.le_of_ble_eq_true rfl) rfl (by intro v hv; simp only [List.mem_cons, List.not_mem_nil, or_false] at hv; rcases hv with rfl | rfl <;> exact ⟨_, rfl⟩) rfl (Nat.le_of_ble_eq_true rfl) hl.1 hnC hPC hS hBC ⟨Nat.le_of_ble_eq_true rfl, Nat.le_of_ble_eq_true rfl⟩ (fun H locs hnC hPC hoC hS => ?_)
  have hPM := LW_keep hPM hoC (fun i hi z => by have := z.1; have := z.2; omega)
  refine lv_aload_n hx hb (TB.get tb_law5 33 rfl) rfl (lv_at hl 3 rfl) ?_
  refine lv_aload_n hx hb (TB.get tb_law5 34 rfl) rfl (lv_at hl 1 rfl) ?_
  refine lv_iload_n hx hb (TB.get tb_law5 35 rfl) rfl (lv_at hl 0 rfl) ?_
  refine lv_iconst (v := nI 1) hx hb (TB.get tb_law5 36 rfl) rfl ?_
  refine lv_iadd hx hb (TB.get tb_law5 37 rfl) ?_
  refine LW_sld hx hb hX hbl hbA hS (show i + 1 < L by omega) (by omega) (TB.get tb_law5 38 rfl) ?_
  refine lv_aload_n hx hb (TB.get tb_law5 39 rfl) rfl (lv_at hl 1 rfl) ?_
  refine lv_iload_n hx hb (TB.get tb_law5 40 rfl) rfl (lv_at hl 0 rfl) ?_
  refine lv_iconst (v := nI 2) hx hb (TB.get tb_law5 41 rfl) rfl ?_
  refine lv_iadd hx hb (TB.get tb_law5 42 rfl) ?_
  refine LW_sld hx hb hX hbl hbA hS (show i + 2 < L by omega) (by omega) (TB.get tb_law5 43 rfl) ?_
  refine LW_call (As := [.int (xs (i + 1)), .int (xs (i + 2))]) (rest := [.int r]) hx hb hml hown hts hK (TB.get tb_law5 44 rfl) lc_X9_toEnd (ok_X9_toEnd fu 0 (xs (i + 1)) (xs (i + 2)) hM _ e2).1 (ok_X9_toEnd fu 0 (xs (i + 1)) (xs (i + 2)) hM _ e2).2 (Nat.le_of_ble_eq_true rfl) rfl (by intro v hv; simp only [List.mem_cons, List.not_mem_nil, or_false] at hv; rcases hv with rfl | rfl <;> exact ⟨_, rfl⟩) rfl (Nat.le_of_ble_eq_true rfl) hl.1 hnM hPM hS (by omega) ⟨Nat.le_of_ble_eq_true rfl, Nat.le_of_ble_eq_true rfl⟩ (fun H locs hnM hPM hoM hS => ?_)
  have hPC := LW_keep hPC hoM (fun i hi z => by have := z.1; omega)
  refine lv_icmp_eq (tgt := 1058) hx hb (TB.get tb_law5 45 rfl) rfl (fun _ => ?_) (fun z => absurd rfl z)
  refine lv_iinc (v := nI (i + 6)) (lv' := [(3, .int (nI (i + 6))), (0, .ref b), (1, .ref BC), (2, .ref BM)]) hx hb (TB.get tb_law12 28 rfl) hl (k := 0) rfl (nI_add i 6) (by decide) rfl (fun ls hl => ?_)
  refine lv_goto (tgt := 18) hx hb (TB.get tb_law12 29 rfl) rfl ?_
  exact ih (i + 6) hC1 hM1 hI1 _ _ _ (by omega) (by omega) hnC hnM hPC hPM hS hl
set_option maxRecDepth 100000 in
set_option maxHeartbeats 4000000 in
theorem law_towards {p : Program} {l : Launch} {e : Env} {s : State} {m : MethodId} {below : List Frame} {meth : Method} {c : Code} {b L : Nat} {xs : Nat → Int32} {D : va_G} {tc : Nat → ClassId} {BC BM : Nat} (hL : L ≤ 3072) (C0 : lw_At p s m meth c b L xs) (hK : va_K D vwCl (TY tc) s) (hBC : s.heap.size ≤ BC) (hBM : BC + 253 ≤ BM) {INV : Hp → Hp → Prop} {fu : Nat} (hO : OKS INV fu) {k i : Nat} (hC hM : Hp) (hI : INV hC hM) (H : Heap) (locs : List Loc) (ls : Array Slot) (hiL : i + 6 ≤ L) (hik : L < i + (k + 1)) (hnC : ∀ j, (hC.1 j).1 < 20 → j < 253) (hnM : ∀ j, (hM.1 j).1 < 20 → j < 26) (hPC : va_P D vwCl (WL tc BC 253 hC) H) (hPM : va_P D vwCl (WL tc BM 26 hM) H) (hS : va_S (fun q => s.heap.size ≤ q) s.heap H locs) (hl : lv_has ls 4 [(3, .int (nI i)), (0, .ref b), (1, .ref BC), (2, .ref BM)])
    (ih : ∀ (i : Nat) (hC hM : Hp), INV hC hM → ∀ (H : Heap) (locs : List Loc) (ls : Array Slot), L < i + k → i ≤ 3078 → (∀ j, (hC.1 j).1 < 20 → j < 253) → (∀ j, (hM.1 j).1 < 20 → j < 26) → va_P D vwCl (WL tc BC 253 hC) H → va_P D vwCl (WL tc BM 26 hM) H → va_S (fun q => s.heap.size ≤ q) s.heap H locs → lv_has ls 4 [(3, .int (nI i)), (0, .ref b), (1, .ref BC), (2, .ref BM)] → W p l e room_1 s m #[Value.ref b] below meth c H locs 279 15699 (lw_Z below #[Value.ref b] s) (F0 m 18 ls [])) : W p l e room_1 s m #[Value.ref b] below meth c H locs 279 15699 (lw_Z below #[Value.ref b] s) (F0 m 554 ls []) := by
  obtain ⟨hx, hb, hr, hml, hown, hts0, hX, hbl, hlk, hgv⟩ := id C0
  have hts : ∀ w ∈ GT, w.before #[Value.ref b] s = true := fun w hw => hts0 w (List.mem_filter.mp hw).1
  have hbA : ¬ (fun q : Nat => s.heap.size ≤ q) b := Nat.not_le.mpr hbl
  obtain ⟨r, hC1, hM1, e1, e2, hI1⟩ := hO.2.2.2.2.2.2.2.2.2.2.1 hC hM hI (xs (i + 1)) (xs (i + 2))
  refine lv_aload_n hx hb (TB.get tb_law5 48 rfl) rfl (lv_at hl 2 rfl) ?_
  refine lv_aload_n hx hb (TB.get tb_law5 49 rfl) rfl (lv_at hl 1 rfl) ?_
  refine lv_iload_n hx hb (TB.get tb_law5 50 rfl) rfl (lv_at hl 0 rfl) ?_
  refine lv_iconst (v := nI 1) hx hb (TB.get tb_law5 51 rfl) rfl ?_
  refine lv_iadd hx hb (TB.get tb_law5 52 rfl) ?_
  refine LW_sld hx hb hX hbl hbA hS (show i + 1 < L by omega) (by omega) (TB.get tb_law5 53 rfl) ?_
  refine lv_aload_n hx hb (TB.get tb_law5 54 rfl) rfl (lv_at hl 1 rfl) ?_
  refine lv_iload_n hx hb (TB.get tb_law5 55 rfl) rfl (lv_at hl 0 rfl) ?_
  refine lv_iconst (v := nI 2) hx hb (TB.get tb_law5 56 rfl) rfl ?_
  refine lv_iadd hx hb (TB.get tb_law5 57 rfl) ?_
  refine LW_sld hx hb hX hbl hbA hS (show i + 2 < L by omega) (by omega) (TB.get tb_law5 58 rfl) ?_
  refine LW_call (As := [.int (xs (i + 1)), .int (xs (i + 2))]) (rest := []) hx hb hml hown hts hK (TB.get tb_law5 59 rfl) lc_X8_towards (ok_X8_towards fu 0 (xs (i + 1)) (xs (i + 2)) hC _ e1).1 (ok_X8_towards fu 0 (xs (i + 1)) (xs (i + 2)) hC _ e1).2 (Nat.le_of_ble_eq_true rfl) rfl (by intro v hv; simp only [List.mem_cons, List.not_mem_nil, or_false] at hv; rcases hv with rfl | rfl <;> exact ⟨_, rfl⟩) rfl (Nat.le_of_ble_eq_true rfl) hl.1 hnC hPC hS hBC ⟨Nat.le_of_ble_eq_true rfl, Nat.le_of_ble_eq_true rfl⟩ (fun H locs hnC hPC hoC hS => ?_)
  have hPM := LW_keep hPM hoC (fun i hi z => by have := z.1; have := z.2; omega)
  refine lv_aload_n hx hb (TB.get tb_law6 0 rfl) rfl (lv_at hl 3 rfl) ?_
  refine lv_aload_n hx hb (TB.get tb_law6 1 rfl) rfl (lv_at hl 1 rfl) ?_
  refine lv_iload_n hx hb (TB.get tb_law6 2 rfl) rfl (lv_at hl 0 rfl) ?_
  refine lv_iconst (v := nI 1) hx hb (TB.get tb_law6 3 rfl) rfl ?_
  refine lv_iadd hx hb (TB.get tb_law6 4 rfl) ?_
  refine LW_sld hx hb hX hbl hbA hS (show i + 1 < L by omega) (by omega) (TB.get tb_law6 5 rfl) ?_
  refine lv_aload_n hx hb (TB.get tb_law6 6 rfl) rfl (lv_at hl 1 rfl) ?_
  refine lv_iload_n hx hb (TB.get tb_law6 7 rfl) rfl (lv_at hl 0 rfl) ?_
  refine lv_iconst (v := nI 2) hx hb (TB.get tb_law6 8 rfl) rfl ?_
  refine lv_iadd hx hb (TB.get tb_law6 9 rfl) ?_
  refine LW_sld hx hb hX hbl hbA hS (show i + 2 < L by omega) (by omega) (TB.get tb_law6 10 rfl) ?_
  refine LW_call (As := [.int (xs (i + 1)), .int (xs (i + 2))]) (rest := [.int r]) hx hb hml hown hts hK (TB.get tb_law6 11 rfl) lc_X9_towards (ok_X9_towards fu 0 (xs (i + 1)) (xs (i + 2)) hM _ e2).1 (ok_X9_towards fu 0 (xs (i + 1)) (xs (i + 2)) hM _ e2).2 (Nat.le_of_ble_eq_true rfl) rfl (by intro v hv; simp only [List.mem_cons, List.not_mem_nil, or_false] at hv; rcases hv with rfl | rfl <;> exact ⟨_, rfl⟩) rfl (Nat.le_of_ble_eq_true rfl) hl.1 hnM hPM hS (by omega) ⟨Nat.le_of_ble_eq_true rfl, Nat.le_of_ble_eq_true rfl⟩ (fun H locs hnM hPM hoM hS => ?_)
  have hPC := LW_keep hPC hoM (fun i hi z => by have := z.1; omega)
  refine lv_icmp_eq (tgt := 1058) hx hb (TB.get tb_law6 12 rfl) rfl (fun _ => ?_) (fun z => absurd rfl z)
  refine lv_iinc (v := nI (i + 6)) (lv' := [(3, .int (nI (i + 6))), (0, .ref b), (1, .ref BC), (2, .ref BM)]) hx hb (TB.get tb_law12 28 rfl) hl (k := 0) rfl (nI_add i 6) (by decide) rfl (fun ls hl => ?_)
  refine lv_goto (tgt := 18) hx hb (TB.get tb_law12 29 rfl) rfl ?_
  exact ih (i + 6) hC1 hM1 hI1 _ _ _ (by omega) (by omega) hnC hnM hPC hPM hS hl
set_option maxRecDepth 100000 in
set_option maxHeartbeats 4000000 in
theorem law_alike {p : Program} {l : Launch} {e : Env} {s : State} {m : MethodId} {below : List Frame} {meth : Method} {c : Code} {b L : Nat} {xs : Nat → Int32} {D : va_G} {tc : Nat → ClassId} {BC BM : Nat} (hL : L ≤ 3072) (C0 : lw_At p s m meth c b L xs) (hK : va_K D vwCl (TY tc) s) (hBC : s.heap.size ≤ BC) (hBM : BC + 253 ≤ BM) {INV : Hp → Hp → Prop} {fu : Nat} (hO : OKS INV fu) {k i : Nat} (hC hM : Hp) (hI : INV hC hM) (H : Heap) (locs : List Loc) (ls : Array Slot) (hiL : i + 6 ≤ L) (hik : L < i + (k + 1)) (hnC : ∀ j, (hC.1 j).1 < 20 → j < 253) (hnM : ∀ j, (hM.1 j).1 < 20 → j < 26) (hPC : va_P D vwCl (WL tc BC 253 hC) H) (hPM : va_P D vwCl (WL tc BM 26 hM) H) (hS : va_S (fun q => s.heap.size ≤ q) s.heap H locs) (hl : lv_has ls 4 [(3, .int (nI i)), (0, .ref b), (1, .ref BC), (2, .ref BM)])
    (ih : ∀ (i : Nat) (hC hM : Hp), INV hC hM → ∀ (H : Heap) (locs : List Loc) (ls : Array Slot), L < i + k → i ≤ 3078 → (∀ j, (hC.1 j).1 < 20 → j < 253) → (∀ j, (hM.1 j).1 < 20 → j < 26) → va_P D vwCl (WL tc BC 253 hC) H → va_P D vwCl (WL tc BM 26 hM) H → va_S (fun q => s.heap.size ≤ q) s.heap H locs → lv_has ls 4 [(3, .int (nI i)), (0, .ref b), (1, .ref BC), (2, .ref BM)] → W p l e room_1 s m #[Value.ref b] below meth c H locs 279 15699 (lw_Z below #[Value.ref b] s) (F0 m 18 ls [])) : W p l e room_1 s m #[Value.ref b] below meth c H locs 279 15699 (lw_Z below #[Value.ref b] s) (F0 m 587 ls []) := by
  obtain ⟨hx, hb, hr, hml, hown, hts0, hX, hbl, hlk, hgv⟩ := id C0
  have hts : ∀ w ∈ GT, w.before #[Value.ref b] s = true := fun w hw => hts0 w (List.mem_filter.mp hw).1
  have hbA : ¬ (fun q : Nat => s.heap.size ≤ q) b := Nat.not_le.mpr hbl
  obtain ⟨r, hC1, hM1, e1, e2, hI1⟩ := hO.2.2.2.2.2.2.2.2.2.2.2.1 hC hM hI (xs (i + 1)) (xs (i + 2)) (xs (i + 3))
  refine lv_aload_n hx hb (TB.get tb_law6 15 rfl) rfl (lv_at hl 2 rfl) ?_
  refine lv_aload_n hx hb (TB.get tb_law6 16 rfl) rfl (lv_at hl 1 rfl) ?_
  refine lv_iload_n hx hb (TB.get tb_law6 17 rfl) rfl (lv_at hl 0 rfl) ?_
  refine lv_iconst (v := nI 1) hx hb (TB.get tb_law6 18 rfl) rfl ?_
  refine lv_iadd hx hb (TB.get tb_law6 19 rfl) ?_
  refine LW_sld hx hb hX hbl hbA hS (show i + 1 < L by omega) (by omega) (TB.get tb_law6 20 rfl) ?_
  refine lv_aload_n hx hb (TB.get tb_law6 21 rfl) rfl (lv_at hl 1 rfl) ?_
  refine lv_iload_n hx hb (TB.get tb_law6 22 rfl) rfl (lv_at hl 0 rfl) ?_
  refine lv_iconst (v := nI 2) hx hb (TB.get tb_law6 23 rfl) rfl ?_
  refine lv_iadd hx hb (TB.get tb_law6 24 rfl) ?_
  refine LW_sld hx hb hX hbl hbA hS (show i + 2 < L by omega) (by omega) (TB.get tb_law6 25 rfl) ?_
  refine lv_aload_n hx hb (TB.get tb_law6 26 rfl) rfl (lv_at hl 1 rfl) ?_
  refine lv_iload_n hx hb (TB.get tb_law6 27 rfl) rfl (lv_at hl 0 rfl) ?_
  refine lv_iconst (v := nI 3) hx hb (TB.get tb_law6 28 rfl) rfl ?_
  refine lv_iadd hx hb (TB.get tb_law6 29 rfl) ?_
  refine LW_sld hx hb hX hbl hbA hS (show i + 3 < L by omega) (by omega) (TB.get tb_law6 30 rfl) ?_
  refine LW_call (As := [.int (xs (i + 1)), .int (xs (i + 2)), .int (xs (i + 3))]) (rest := []) hx hb hml hown hts hK (TB.get tb_law6 31 rfl) lc_X8_alike (ok_X8_alike fu 0 (xs (i + 1)) (xs (i + 2)) (xs (i + 3)) hC _ e1).1 (ok_X8_alike fu 0 (xs (i + 1)) (xs (i + 2)) (xs (i + 3)) hC _ e1).2 (Nat.le_of_ble_eq_true rfl) rfl (by intro v hv; simp only [List.mem_cons, List.not_mem_nil, or_false] at hv; rcases hv with rfl | rfl | rfl <;> exact ⟨_, rfl⟩) rfl (Nat.le_of_ble_eq_true rfl) hl.1 hnC hPC hS hBC ⟨Nat.le_of_ble_eq_true rfl, Nat.le_of_ble_eq_true rfl⟩ (fun H locs hnC hPC hoC hS => ?_)
  have hPM := LW_keep hPM hoC (fun i hi z => by have := z.1; have := z.2; omega)
  refine lv_aload_n hx hb (TB.get tb_law6 32 rfl) rfl (lv_at hl 3 rfl) ?_
  refine lv_aload_n hx hb (TB.get tb_law6 33 rfl) rfl (lv_at hl 1 rfl) ?_
  refine lv_iload_n hx hb (TB.get tb_law6 34 rfl) rfl (lv_at hl 0 rfl) ?_
  refine lv_iconst (v := nI 1) hx hb (TB.get tb_law6 35 rfl) rfl ?_
  refine lv_iadd hx hb (TB.get tb_law6 36 rfl) ?_
  refine LW_sld hx hb hX hbl hbA hS (show i + 1 < L by omega) (by omega) (TB.get tb_law6 37 rfl) ?_
  refine lv_aload_n hx hb (TB.get tb_law6 38 rfl) rfl (lv_at hl 1 rfl) ?_
  refine lv_iload_n hx hb (TB.get tb_law6 39 rfl) rfl (lv_at hl 0 rfl) ?_
  refine lv_iconst (v := nI 2) hx hb (TB.get tb_law6 40 rfl) rfl ?_
  refine lv_iadd hx hb (TB.get tb_law6 41 rfl) ?_
  refine LW_sld hx hb hX hbl hbA hS (show i + 2 < L by omega) (by omega) (TB.get tb_law6 42 rfl) ?_
  refine lv_aload_n hx hb (TB.get tb_law6 43 rfl) rfl (lv_at hl 1 rfl) ?_
  refine lv_iload_n hx hb (TB.get tb_law6 44 rfl) rfl (lv_at hl 0 rfl) ?_
  refine lv_iconst (v := nI 3) hx hb (TB.get tb_law6 45 rfl) rfl ?_
  refine lv_iadd hx hb (TB.get tb_law6 46 rfl) ?_
  refine LW_sld hx hb hX hbl hbA hS (show i + 3 < L by omega) (by omega) (TB.get tb_law6 47 rfl) ?_
  refine LW_call (As := [.int (xs (i + 1)), .int (xs (i + 2)), .int (xs (i + 3))]) (rest := [.int r]) hx hb hml hown hts hK (TB.get tb_law6 48 rfl) lc_X9_alike (ok_X9_alike fu 0 (xs (i + 1)) (xs (i + 2)) (xs (i + 3)) hM _ e2).1 (ok_X9_alike fu 0 (xs (i + 1)) (xs (i + 2)) (xs (i + 3)) hM _ e2).2 (Nat.le_of_ble_eq_true rfl) rfl (by intro v hv; simp only [List.mem_cons, List.not_mem_nil, or_false] at hv; rcases hv with rfl | rfl | rfl <;> exact ⟨_, rfl⟩) rfl (Nat.le_of_ble_eq_true rfl) hl.1 hnM hPM hS (by omega) ⟨Nat.le_of_ble_eq_true rfl, Nat.le_of_ble_eq_true rfl⟩ (fun H locs hnM hPM hoM hS => ?_)
  have hPC := LW_keep hPC hoM (fun i hi z => by have := z.1; omega)
  refine lv_icmp_eq (tgt := 1058) hx hb (TB.get tb_law6 49 rfl) rfl (fun _ => ?_) (fun z => absurd rfl z)
  refine lv_iinc (v := nI (i + 6)) (lv' := [(3, .int (nI (i + 6))), (0, .ref b), (1, .ref BC), (2, .ref BM)]) hx hb (TB.get tb_law12 28 rfl) hl (k := 0) rfl (nI_add i 6) (by decide) rfl (fun ls hl => ?_)
  refine lv_goto (tgt := 18) hx hb (TB.get tb_law12 29 rfl) rfl ?_
  exact ih (i + 6) hC1 hM1 hI1 _ _ _ (by omega) (by omega) hnC hnM hPC hPM hS hl
set_option maxRecDepth 100000 in
set_option maxHeartbeats 4000000 in
theorem law_rows {p : Program} {l : Launch} {e : Env} {s : State} {m : MethodId} {below : List Frame} {meth : Method} {c : Code} {b L : Nat} {xs : Nat → Int32} {D : va_G} {tc : Nat → ClassId} {BC BM : Nat} (hL : L ≤ 3072) (C0 : lw_At p s m meth c b L xs) (hK : va_K D vwCl (TY tc) s) (hBC : s.heap.size ≤ BC) (hBM : BC + 253 ≤ BM) {INV : Hp → Hp → Prop} {fu : Nat} (hO : OKS INV fu) {k i : Nat} (hC hM : Hp) (hI : INV hC hM) (H : Heap) (locs : List Loc) (ls : Array Slot) (hiL : i + 6 ≤ L) (hik : L < i + (k + 1)) (hnC : ∀ j, (hC.1 j).1 < 20 → j < 253) (hnM : ∀ j, (hM.1 j).1 < 20 → j < 26) (hPC : va_P D vwCl (WL tc BC 253 hC) H) (hPM : va_P D vwCl (WL tc BM 26 hM) H) (hS : va_S (fun q => s.heap.size ≤ q) s.heap H locs) (hl : lv_has ls 4 [(3, .int (nI i)), (0, .ref b), (1, .ref BC), (2, .ref BM)])
    (ih : ∀ (i : Nat) (hC hM : Hp), INV hC hM → ∀ (H : Heap) (locs : List Loc) (ls : Array Slot), L < i + k → i ≤ 3078 → (∀ j, (hC.1 j).1 < 20 → j < 253) → (∀ j, (hM.1 j).1 < 20 → j < 26) → va_P D vwCl (WL tc BC 253 hC) H → va_P D vwCl (WL tc BM 26 hM) H → va_S (fun q => s.heap.size ≤ q) s.heap H locs → lv_has ls 4 [(3, .int (nI i)), (0, .ref b), (1, .ref BC), (2, .ref BM)] → W p l e room_1 s m #[Value.ref b] below meth c H locs 279 15699 (lw_Z below #[Value.ref b] s) (F0 m 18 ls [])) : W p l e room_1 s m #[Value.ref b] below meth c H locs 279 15699 (lw_Z below #[Value.ref b] s) (F0 m 630 ls []) := by
  obtain ⟨hx, hb, hr, hml, hown, hts0, hX, hbl, hlk, hgv⟩ := id C0
  have hts : ∀ w ∈ GT, w.before #[Value.ref b] s = true := fun w hw => hts0 w (List.mem_filter.mp hw).1
  have hbA : ¬ (fun q : Nat => s.heap.size ≤ q) b := Nat.not_le.mpr hbl
  by_cases hz : xs (i + 3) = 0
  · obtain ⟨r, hC1, hM1, e1, e2, hI1⟩ := hO.2.2.2.2.2.2.2.2.2.2.2.2.1 hC hM hI (xs (i + 1)) (xs (i + 2)) 0 (Or.inl rfl)
    refine lv_aload_n hx hb (TB.get tb_law6 52 rfl) rfl (lv_at hl 2 rfl) ?_
    refine lv_aload_n hx hb (TB.get tb_law6 53 rfl) rfl (lv_at hl 1 rfl) ?_
    refine lv_iload_n hx hb (TB.get tb_law6 54 rfl) rfl (lv_at hl 0 rfl) ?_
    refine lv_iconst (v := nI 1) hx hb (TB.get tb_law6 55 rfl) rfl ?_
    refine lv_iadd hx hb (TB.get tb_law6 56 rfl) ?_
    refine LW_sld hx hb hX hbl hbA hS (show i + 1 < L by omega) (by omega) (TB.get tb_law6 57 rfl) ?_
    refine lv_aload_n hx hb (TB.get tb_law6 58 rfl) rfl (lv_at hl 1 rfl) ?_
    refine lv_iload_n hx hb (TB.get tb_law6 59 rfl) rfl (lv_at hl 0 rfl) ?_
    refine lv_iconst (v := nI 2) hx hb (TB.get tb_law7 0 rfl) rfl ?_
    refine lv_iadd hx hb (TB.get tb_law7 1 rfl) ?_
    refine LW_sld hx hb hX hbl hbA hS (show i + 2 < L by omega) (by omega) (TB.get tb_law7 2 rfl) ?_
    refine lv_aload_n hx hb (TB.get tb_law7 3 rfl) rfl (lv_at hl 1 rfl) ?_
    refine lv_iload_n hx hb (TB.get tb_law7 4 rfl) rfl (lv_at hl 0 rfl) ?_
    refine lv_iconst (v := nI 3) hx hb (TB.get tb_law7 5 rfl) rfl ?_
    refine lv_iadd hx hb (TB.get tb_law7 6 rfl) ?_
    refine LW_sld hx hb hX hbl hbA hS (show i + 3 < L by omega) (by omega) (TB.get tb_law7 7 rfl) ?_
    refine lv_if_eq (tgt := 653) hx hb (TB.get tb_law7 8 rfl) rfl (fun _ => ?_) (fun z => absurd hz z)
    refine lv_iconst (v := 0) hx hb (TB.get tb_law7 11 rfl) rfl ?_
    refine LW_call (As := [.int (xs (i + 1)), .int (xs (i + 2)), .int 0]) (rest := []) hx hb hml hown hts hK (TB.get tb_law7 12 rfl) lc_X8_rows (ok_X8_rows fu 0 (xs (i + 1)) (xs (i + 2)) 0 hC _ e1).1 (ok_X8_rows fu 0 (xs (i + 1)) (xs (i + 2)) 0 hC _ e1).2 (Nat.le_of_ble_eq_true rfl) rfl (by intro v hv; simp only [List.mem_cons, List.not_mem_nil, or_false] at hv; rcases hv with rfl | rfl | rfl <;> exact ⟨_, rfl⟩) rfl (Nat.le_of_ble_eq_true rfl) hl.1 hnC hPC hS hBC ⟨Nat.le_of_ble_eq_true rfl, Nat.le_of_ble_eq_true rfl⟩ (fun H locs hnC hPC hoC hS => ?_)
    have hPM := LW_keep hPM hoC (fun i hi z => by have := z.1; have := z.2; omega)
    refine lv_aload_n hx hb (TB.get tb_law7 13 rfl) rfl (lv_at hl 3 rfl) ?_
    refine lv_aload_n hx hb (TB.get tb_law7 14 rfl) rfl (lv_at hl 1 rfl) ?_
    refine lv_iload_n hx hb (TB.get tb_law7 15 rfl) rfl (lv_at hl 0 rfl) ?_
    refine lv_iconst (v := nI 1) hx hb (TB.get tb_law7 16 rfl) rfl ?_
    refine lv_iadd hx hb (TB.get tb_law7 17 rfl) ?_
    refine LW_sld hx hb hX hbl hbA hS (show i + 1 < L by omega) (by omega) (TB.get tb_law7 18 rfl) ?_
    refine lv_aload_n hx hb (TB.get tb_law7 19 rfl) rfl (lv_at hl 1 rfl) ?_
    refine lv_iload_n hx hb (TB.get tb_law7 20 rfl) rfl (lv_at hl 0 rfl) ?_
    refine lv_iconst (v := nI 2) hx hb (TB.get tb_law7 21 rfl) rfl ?_
    refine lv_iadd hx hb (TB.get tb_law7 22 rfl) ?_
    refine LW_sld hx hb hX hbl hbA hS (show i + 2 < L by omega) (by omega) (TB.get tb_law7 23 rfl) ?_
    refine lv_aload_n hx hb (TB.get tb_law7 24 rfl) rfl (lv_at hl 1 rfl) ?_
    refine lv_iload_n hx hb (TB.get tb_law7 25 rfl) rfl (lv_at hl 0 rfl) ?_
    refine lv_iconst (v := nI 3) hx hb (TB.get tb_law7 26 rfl) rfl ?_
    refine lv_iadd hx hb (TB.get tb_law7 27 rfl) ?_
    refine LW_sld hx hb hX hbl hbA hS (show i + 3 < L by omega) (by omega) (TB.get tb_law7 28 rfl) ?_
    refine lv_if_eq (tgt := 680) hx hb (TB.get tb_law7 29 rfl) rfl (fun _ => ?_) (fun z => absurd hz z)
    refine lv_iconst (v := 0) hx hb (TB.get tb_law7 32 rfl) rfl ?_
    refine LW_call (As := [.int (xs (i + 1)), .int (xs (i + 2)), .int 0]) (rest := [.int r]) hx hb hml hown hts hK (TB.get tb_law7 33 rfl) lc_X9_rows (ok_X9_rows fu 0 (xs (i + 1)) (xs (i + 2)) 0 hM _ e2).1 (ok_X9_rows fu 0 (xs (i + 1)) (xs (i + 2)) 0 hM _ e2).2 (Nat.le_of_ble_eq_true rfl) rfl (by intro v hv; simp only [List.mem_cons, List.not_mem_nil, or_false] at hv; rcases hv with rfl | rfl | rfl <;> exact ⟨_, rfl⟩) rfl (Nat.le_of_ble_eq_true rfl) hl.1 hnM hPM hS (by omega) ⟨Nat.le_of_ble_eq_true rfl, Nat.le_of_ble_eq_true rfl⟩ (fun H locs hnM hPM hoM hS => ?_)
    have hPC := LW_keep hPC hoM (fun i hi z => by have := z.1; omega)
    refine lv_icmp_eq (tgt := 1058) hx hb (TB.get tb_law7 34 rfl) rfl (fun _ => ?_) (fun z => absurd rfl z)
    refine lv_iinc (v := nI (i + 6)) (lv' := [(3, .int (nI (i + 6))), (0, .ref b), (1, .ref BC), (2, .ref BM)]) hx hb (TB.get tb_law12 28 rfl) hl (k := 0) rfl (nI_add i 6) (by decide) rfl (fun ls hl => ?_)
    refine lv_goto (tgt := 18) hx hb (TB.get tb_law12 29 rfl) rfl ?_
    exact ih (i + 6) hC1 hM1 hI1 _ _ _ (by omega) (by omega) hnC hnM hPC hPM hS hl
  · obtain ⟨r, hC1, hM1, e1, e2, hI1⟩ := hO.2.2.2.2.2.2.2.2.2.2.2.2.1 hC hM hI (xs (i + 1)) (xs (i + 2)) 1 (Or.inr rfl)
    refine lv_aload_n hx hb (TB.get tb_law6 52 rfl) rfl (lv_at hl 2 rfl) ?_
    refine lv_aload_n hx hb (TB.get tb_law6 53 rfl) rfl (lv_at hl 1 rfl) ?_
    refine lv_iload_n hx hb (TB.get tb_law6 54 rfl) rfl (lv_at hl 0 rfl) ?_
    refine lv_iconst (v := nI 1) hx hb (TB.get tb_law6 55 rfl) rfl ?_
    refine lv_iadd hx hb (TB.get tb_law6 56 rfl) ?_
    refine LW_sld hx hb hX hbl hbA hS (show i + 1 < L by omega) (by omega) (TB.get tb_law6 57 rfl) ?_
    refine lv_aload_n hx hb (TB.get tb_law6 58 rfl) rfl (lv_at hl 1 rfl) ?_
    refine lv_iload_n hx hb (TB.get tb_law6 59 rfl) rfl (lv_at hl 0 rfl) ?_
    refine lv_iconst (v := nI 2) hx hb (TB.get tb_law7 0 rfl) rfl ?_
    refine lv_iadd hx hb (TB.get tb_law7 1 rfl) ?_
    refine LW_sld hx hb hX hbl hbA hS (show i + 2 < L by omega) (by omega) (TB.get tb_law7 2 rfl) ?_
    refine lv_aload_n hx hb (TB.get tb_law7 3 rfl) rfl (lv_at hl 1 rfl) ?_
    refine lv_iload_n hx hb (TB.get tb_law7 4 rfl) rfl (lv_at hl 0 rfl) ?_
    refine lv_iconst (v := nI 3) hx hb (TB.get tb_law7 5 rfl) rfl ?_
    refine lv_iadd hx hb (TB.get tb_law7 6 rfl) ?_
    refine LW_sld hx hb hX hbl hbA hS (show i + 3 < L by omega) (by omega) (TB.get tb_law7 7 rfl) ?_
    refine lv_if_eq (tgt := 653) hx hb (TB.get tb_law7 8 rfl) rfl (fun z => absurd z hz) (fun _ => ?_)
    refine lv_iconst (v := 1) hx hb (TB.get tb_law7 9 rfl) rfl ?_
    refine lv_goto (tgt := 654) hx hb (TB.get tb_law7 10 rfl) rfl ?_
    refine LW_call (As := [.int (xs (i + 1)), .int (xs (i + 2)), .int 1]) (rest := []) hx hb hml hown hts hK (TB.get tb_law7 12 rfl) lc_X8_rows (ok_X8_rows fu 0 (xs (i + 1)) (xs (i + 2)) 1 hC _ e1).1 (ok_X8_rows fu 0 (xs (i + 1)) (xs (i + 2)) 1 hC _ e1).2 (Nat.le_of_ble_eq_true rfl) rfl (by intro v hv; simp only [List.mem_cons, List.not_mem_nil, or_false] at hv; rcases hv with rfl | rfl | rfl <;> exact ⟨_, rfl⟩) rfl (Nat.le_of_ble_eq_true rfl) hl.1 hnC hPC hS hBC ⟨Nat.le_of_ble_eq_true rfl, Nat.le_of_ble_eq_true rfl⟩ (fun H locs hnC hPC hoC hS => ?_)
    have hPM := LW_keep hPM hoC (fun i hi z => by have := z.1; have := z.2; omega)
    refine lv_aload_n hx hb (TB.get tb_law7 13 rfl) rfl (lv_at hl 3 rfl) ?_
    refine lv_aload_n hx hb (TB.get tb_law7 14 rfl) rfl (lv_at hl 1 rfl) ?_
    refine lv_iload_n hx hb (TB.get tb_law7 15 rfl) rfl (lv_at hl 0 rfl) ?_
    refine lv_iconst (v := nI 1) hx hb (TB.get tb_law7 16 rfl) rfl ?_
    refine lv_iadd hx hb (TB.get tb_law7 17 rfl) ?_
    refine LW_sld hx hb hX hbl hbA hS (show i + 1 < L by omega) (by omega) (TB.get tb_law7 18 rfl) ?_
    refine lv_aload_n hx hb (TB.get tb_law7 19 rfl) rfl (lv_at hl 1 rfl) ?_
    refine lv_iload_n hx hb (TB.get tb_law7 20 rfl) rfl (lv_at hl 0 rfl) ?_
    refine lv_iconst (v := nI 2) hx hb (TB.get tb_law7 21 rfl) rfl ?_
    refine lv_iadd hx hb (TB.get tb_law7 22 rfl) ?_
    refine LW_sld hx hb hX hbl hbA hS (show i + 2 < L by omega) (by omega) (TB.get tb_law7 23 rfl) ?_
    refine lv_aload_n hx hb (TB.get tb_law7 24 rfl) rfl (lv_at hl 1 rfl) ?_
    refine lv_iload_n hx hb (TB.get tb_law7 25 rfl) rfl (lv_at hl 0 rfl) ?_
    refine lv_iconst (v := nI 3) hx hb (TB.get tb_law7 26 rfl) rfl ?_
    refine lv_iadd hx hb (TB.get tb_law7 27 rfl) ?_
    refine LW_sld hx hb hX hbl hbA hS (show i + 3 < L by omega) (by omega) (TB.get tb_law7 28 rfl) ?_
    refine lv_if_eq (tgt := 680) hx hb (TB.get tb_law7 29 rfl) rfl (fun z => absurd z hz) (fun _ => ?_)
    refine lv_iconst (v := 1) hx hb (TB.get tb_law7 30 rfl) rfl ?_
    refine lv_goto (tgt := 681) hx hb (TB.get tb_law7 31 rfl) rfl ?_
    refine LW_call (As := [.int (xs (i + 1)), .int (xs (i + 2)), .int 1]) (rest := [.int r]) hx hb hml hown hts hK (TB.get tb_law7 33 rfl) lc_X9_rows (ok_X9_rows fu 0 (xs (i + 1)) (xs (i + 2)) 1 hM _ e2).1 (ok_X9_rows fu 0 (xs (i + 1)) (xs (i + 2)) 1 hM _ e2).2 (Nat.le_of_ble_eq_true rfl) rfl (by intro v hv; simp only [List.mem_cons, List.not_mem_nil, or_false] at hv; rcases hv with rfl | rfl | rfl <;> exact ⟨_, rfl⟩) rfl (Nat.le_of_ble_eq_true rfl) hl.1 hnM hPM hS (by omega) ⟨Nat.le_of_ble_eq_true rfl, Nat.le_of_ble_eq_true rfl⟩ (fun H locs hnM hPM hoM hS => ?_)
    have hPC := LW_keep hPC hoM (fun i hi z => by have := z.1; omega)
    refine lv_icmp_eq (tgt := 1058) hx hb (TB.get tb_law7 34 rfl) rfl (fun _ => ?_) (fun z => absurd rfl z)
    refine lv_iinc (v := nI (i + 6)) (lv' := [(3, .int (nI (i + 6))), (0, .ref b), (1, .ref BC), (2, .ref BM)]) hx hb (TB.get tb_law12 28 rfl) hl (k := 0) rfl (nI_add i 6) (by decide) rfl (fun ls hl => ?_)
    refine lv_goto (tgt := 18) hx hb (TB.get tb_law12 29 rfl) rfl ?_
    exact ih (i + 6) hC1 hM1 hI1 _ _ _ (by omega) (by omega) hnC hnM hPC hPM hS hl
set_option maxRecDepth 100000 in
set_option maxHeartbeats 4000000 in
theorem law_statement {p : Program} {l : Launch} {e : Env} {s : State} {m : MethodId} {below : List Frame} {meth : Method} {c : Code} {b L : Nat} {xs : Nat → Int32} {D : va_G} {tc : Nat → ClassId} {BC BM : Nat} (hL : L ≤ 3072) (C0 : lw_At p s m meth c b L xs) (hK : va_K D vwCl (TY tc) s) (hBC : s.heap.size ≤ BC) (hBM : BC + 253 ≤ BM) {INV : Hp → Hp → Prop} {fu : Nat} (hO : OKS INV fu) {k i : Nat} (hC hM : Hp) (hI : INV hC hM) (H : Heap) (locs : List Loc) (ls : Array Slot) (hiL : i + 6 ≤ L) (hik : L < i + (k + 1)) (hnC : ∀ j, (hC.1 j).1 < 20 → j < 253) (hnM : ∀ j, (hM.1 j).1 < 20 → j < 26) (hPC : va_P D vwCl (WL tc BC 253 hC) H) (hPM : va_P D vwCl (WL tc BM 26 hM) H) (hS : va_S (fun q => s.heap.size ≤ q) s.heap H locs) (hl : lv_has ls 4 [(3, .int (nI i)), (0, .ref b), (1, .ref BC), (2, .ref BM)])
    (ih : ∀ (i : Nat) (hC hM : Hp), INV hC hM → ∀ (H : Heap) (locs : List Loc) (ls : Array Slot), L < i + k → i ≤ 3078 → (∀ j, (hC.1 j).1 < 20 → j < 253) → (∀ j, (hM.1 j).1 < 20 → j < 26) → va_P D vwCl (WL tc BC 253 hC) H → va_P D vwCl (WL tc BM 26 hM) H → va_S (fun q => s.heap.size ≤ q) s.heap H locs → lv_has ls 4 [(3, .int (nI i)), (0, .ref b), (1, .ref BC), (2, .ref BM)] → W p l e room_1 s m #[Value.ref b] below meth c H locs 279 15699 (lw_Z below #[Value.ref b] s) (F0 m 18 ls [])) : W p l e room_1 s m #[Value.ref b] below meth c H locs 279 15699 (lw_Z below #[Value.ref b] s) (F0 m 689 ls []) := by
  obtain ⟨hx, hb, hr, hml, hown, hts0, hX, hbl, hlk, hgv⟩ := id C0
  have hts : ∀ w ∈ GT, w.before #[Value.ref b] s = true := fun w hw => hts0 w (List.mem_filter.mp hw).1
  have hbA : ¬ (fun q : Nat => s.heap.size ≤ q) b := Nat.not_le.mpr hbl
  obtain ⟨r, hC1, hM1, e1, e2, hI1⟩ := hO.2.2.2.2.2.2.2.2.2.2.2.2.2.1 hC hM hI (xs (i + 1)) (xs (i + 2))
  refine lv_aload_n hx hb (TB.get tb_law7 37 rfl) rfl (lv_at hl 2 rfl) ?_
  refine lv_aload_n hx hb (TB.get tb_law7 38 rfl) rfl (lv_at hl 1 rfl) ?_
  refine lv_iload_n hx hb (TB.get tb_law7 39 rfl) rfl (lv_at hl 0 rfl) ?_
  refine lv_iconst (v := nI 1) hx hb (TB.get tb_law7 40 rfl) rfl ?_
  refine lv_iadd hx hb (TB.get tb_law7 41 rfl) ?_
  refine LW_sld hx hb hX hbl hbA hS (show i + 1 < L by omega) (by omega) (TB.get tb_law7 42 rfl) ?_
  refine lv_aload_n hx hb (TB.get tb_law7 43 rfl) rfl (lv_at hl 1 rfl) ?_
  refine lv_iload_n hx hb (TB.get tb_law7 44 rfl) rfl (lv_at hl 0 rfl) ?_
  refine lv_iconst (v := nI 2) hx hb (TB.get tb_law7 45 rfl) rfl ?_
  refine lv_iadd hx hb (TB.get tb_law7 46 rfl) ?_
  refine LW_sld hx hb hX hbl hbA hS (show i + 2 < L by omega) (by omega) (TB.get tb_law7 47 rfl) ?_
  refine LW_call (As := [.int (xs (i + 1)), .int (xs (i + 2))]) (rest := []) hx hb hml hown hts hK (TB.get tb_law7 48 rfl) lc_X8_statement (ok_X8_statement 0 (xs (i + 1)) (xs (i + 2)) hC _ e1).1 (ok_X8_statement 0 (xs (i + 1)) (xs (i + 2)) hC _ e1).2 (Nat.le_of_ble_eq_true rfl) rfl (by intro v hv; simp only [List.mem_cons, List.not_mem_nil, or_false] at hv; rcases hv with rfl | rfl <;> exact ⟨_, rfl⟩) rfl (Nat.le_of_ble_eq_true rfl) hl.1 hnC hPC hS hBC ⟨Nat.le_of_ble_eq_true rfl, Nat.le_of_ble_eq_true rfl⟩ (fun H locs hnC hPC hoC hS => ?_)
  have hPM := LW_keep hPM hoC (fun i hi z => by have := z.1; have := z.2; omega)
  refine lv_aload_n hx hb (TB.get tb_law7 49 rfl) rfl (lv_at hl 3 rfl) ?_
  refine lv_aload_n hx hb (TB.get tb_law7 50 rfl) rfl (lv_at hl 1 rfl) ?_
  refine lv_iload_n hx hb (TB.get tb_law7 51 rfl) rfl (lv_at hl 0 rfl) ?_
  refine lv_iconst (v := nI 1) hx hb (TB.get tb_law7 52 rfl) rfl ?_
  refine lv_iadd hx hb (TB.get tb_law7 53 rfl) ?_
  refine LW_sld hx hb hX hbl hbA hS (show i + 1 < L by omega) (by omega) (TB.get tb_law7 54 rfl) ?_
  refine lv_aload_n hx hb (TB.get tb_law7 55 rfl) rfl (lv_at hl 1 rfl) ?_
  refine lv_iload_n hx hb (TB.get tb_law7 56 rfl) rfl (lv_at hl 0 rfl) ?_
  refine lv_iconst (v := nI 2) hx hb (TB.get tb_law7 57 rfl) rfl ?_
  refine lv_iadd hx hb (TB.get tb_law7 58 rfl) ?_
  refine LW_sld hx hb hX hbl hbA hS (show i + 2 < L by omega) (by omega) (TB.get tb_law7 59 rfl) ?_
  refine LW_call (As := [.int (xs (i + 1)), .int (xs (i + 2))]) (rest := [.int r]) hx hb hml hown hts hK (TB.get tb_law8 0 rfl) lc_X9_statement (ok_X9_statement fu 0 (xs (i + 1)) (xs (i + 2)) hM _ e2).1 (ok_X9_statement fu 0 (xs (i + 1)) (xs (i + 2)) hM _ e2).2 (Nat.le_of_ble_eq_true rfl) rfl (by intro v hv; simp only [List.mem_cons, List.not_mem_nil, or_false] at hv; rcases hv with rfl | rfl <;> exact ⟨_, rfl⟩) rfl (Nat.le_of_ble_eq_true rfl) hl.1 hnM hPM hS (by omega) ⟨Nat.le_of_ble_eq_true rfl, Nat.le_of_ble_eq_true rfl⟩ (fun H locs hnM hPM hoM hS => ?_)
  have hPC := LW_keep hPC hoM (fun i hi z => by have := z.1; omega)
  refine lv_icmp_eq (tgt := 1058) hx hb (TB.get tb_law8 1 rfl) rfl (fun _ => ?_) (fun z => absurd rfl z)
  refine lv_iinc (v := nI (i + 6)) (lv' := [(3, .int (nI (i + 6))), (0, .ref b), (1, .ref BC), (2, .ref BM)]) hx hb (TB.get tb_law12 28 rfl) hl (k := 0) rfl (nI_add i 6) (by decide) rfl (fun ls hl => ?_)
  refine lv_goto (tgt := 18) hx hb (TB.get tb_law12 29 rfl) rfl ?_
  exact ih (i + 6) hC1 hM1 hI1 _ _ _ (by omega) (by omega) hnC hnM hPC hPM hS hl
set_option maxRecDepth 100000 in
set_option maxHeartbeats 4000000 in
theorem law_variable {p : Program} {l : Launch} {e : Env} {s : State} {m : MethodId} {below : List Frame} {meth : Method} {c : Code} {b L : Nat} {xs : Nat → Int32} {D : va_G} {tc : Nat → ClassId} {BC BM : Nat} (hL : L ≤ 3072) (C0 : lw_At p s m meth c b L xs) (hK : va_K D vwCl (TY tc) s) (hBC : s.heap.size ≤ BC) (hBM : BC + 253 ≤ BM) {INV : Hp → Hp → Prop} {fu : Nat} (hO : OKS INV fu) {k i : Nat} (hC hM : Hp) (hI : INV hC hM) (H : Heap) (locs : List Loc) (ls : Array Slot) (hiL : i + 6 ≤ L) (hik : L < i + (k + 1)) (hnC : ∀ j, (hC.1 j).1 < 20 → j < 253) (hnM : ∀ j, (hM.1 j).1 < 20 → j < 26) (hPC : va_P D vwCl (WL tc BC 253 hC) H) (hPM : va_P D vwCl (WL tc BM 26 hM) H) (hS : va_S (fun q => s.heap.size ≤ q) s.heap H locs) (hl : lv_has ls 4 [(3, .int (nI i)), (0, .ref b), (1, .ref BC), (2, .ref BM)])
    (ih : ∀ (i : Nat) (hC hM : Hp), INV hC hM → ∀ (H : Heap) (locs : List Loc) (ls : Array Slot), L < i + k → i ≤ 3078 → (∀ j, (hC.1 j).1 < 20 → j < 253) → (∀ j, (hM.1 j).1 < 20 → j < 26) → va_P D vwCl (WL tc BC 253 hC) H → va_P D vwCl (WL tc BM 26 hM) H → va_S (fun q => s.heap.size ≤ q) s.heap H locs → lv_has ls 4 [(3, .int (nI i)), (0, .ref b), (1, .ref BC), (2, .ref BM)] → W p l e room_1 s m #[Value.ref b] below meth c H locs 279 15699 (lw_Z below #[Value.ref b] s) (F0 m 18 ls [])) : W p l e room_1 s m #[Value.ref b] below meth c H locs 279 15699 (lw_Z below #[Value.ref b] s) (F0 m 722 ls []) := by
  obtain ⟨hx, hb, hr, hml, hown, hts0, hX, hbl, hlk, hgv⟩ := id C0
  have hts : ∀ w ∈ GT, w.before #[Value.ref b] s = true := fun w hw => hts0 w (List.mem_filter.mp hw).1
  have hbA : ¬ (fun q : Nat => s.heap.size ≤ q) b := Nat.not_le.mpr hbl
  obtain ⟨r, hC1, hM1, e1, e2, hI1⟩ := hO.2.2.2.2.2.2.2.2.2.2.2.2.2.2.1 hC hM hI (xs (i + 1))
  refine lv_aload_n hx hb (TB.get tb_law8 4 rfl) rfl (lv_at hl 2 rfl) ?_
  refine lv_aload_n hx hb (TB.get tb_law8 5 rfl) rfl (lv_at hl 1 rfl) ?_
  refine lv_iload_n hx hb (TB.get tb_law8 6 rfl) rfl (lv_at hl 0 rfl) ?_
  refine lv_iconst (v := nI 1) hx hb (TB.get tb_law8 7 rfl) rfl ?_
  refine lv_iadd hx hb (TB.get tb_law8 8 rfl) ?_
  refine LW_sld hx hb hX hbl hbA hS (show i + 1 < L by omega) (by omega) (TB.get tb_law8 9 rfl) ?_
  refine LW_call (As := [.int (xs (i + 1))]) (rest := []) hx hb hml hown hts hK (TB.get tb_law8 10 rfl) lc_X8_variable (ok_X8_variable 0 (xs (i + 1)) hC _ e1).1 (ok_X8_variable 0 (xs (i + 1)) hC _ e1).2 (Nat.le_of_ble_eq_true rfl) rfl (by intro v hv; simp only [List.mem_cons, List.not_mem_nil, or_false] at hv; rcases hv with rfl <;> exact ⟨_, rfl⟩) rfl (Nat.le_of_ble_eq_true rfl) hl.1 hnC hPC hS hBC ⟨Nat.le_of_ble_eq_true rfl, Nat.le_of_ble_eq_true rfl⟩ (fun H locs hnC hPC hoC hS => ?_)
  have hPM := LW_keep hPM hoC (fun i hi z => by have := z.1; have := z.2; omega)
  refine lv_aload_n hx hb (TB.get tb_law8 11 rfl) rfl (lv_at hl 3 rfl) ?_
  refine lv_aload_n hx hb (TB.get tb_law8 12 rfl) rfl (lv_at hl 1 rfl) ?_
  refine lv_iload_n hx hb (TB.get tb_law8 13 rfl) rfl (lv_at hl 0 rfl) ?_
  refine lv_iconst (v := nI 1) hx hb (TB.get tb_law8 14 rfl) rfl ?_
  refine lv_iadd hx hb (TB.get tb_law8 15 rfl) ?_
  refine LW_sld hx hb hX hbl hbA hS (show i + 1 < L by omega) (by omega) (TB.get tb_law8 16 rfl) ?_
  refine LW_call (As := [.int (xs (i + 1))]) (rest := [.int r]) hx hb hml hown hts hK (TB.get tb_law8 17 rfl) lc_X9_variable (ok_X9_variable 0 (xs (i + 1)) hM _ e2).1 (ok_X9_variable 0 (xs (i + 1)) hM _ e2).2 (Nat.le_of_ble_eq_true rfl) rfl (by intro v hv; simp only [List.mem_cons, List.not_mem_nil, or_false] at hv; rcases hv with rfl <;> exact ⟨_, rfl⟩) rfl (Nat.le_of_ble_eq_true rfl) hl.1 hnM hPM hS (by omega) ⟨Nat.le_of_ble_eq_true rfl, Nat.le_of_ble_eq_true rfl⟩ (fun H locs hnM hPM hoM hS => ?_)
  have hPC := LW_keep hPC hoM (fun i hi z => by have := z.1; omega)
  refine lv_icmp_eq (tgt := 1058) hx hb (TB.get tb_law8 18 rfl) rfl (fun _ => ?_) (fun z => absurd rfl z)
  refine lv_iinc (v := nI (i + 6)) (lv' := [(3, .int (nI (i + 6))), (0, .ref b), (1, .ref BC), (2, .ref BM)]) hx hb (TB.get tb_law12 28 rfl) hl (k := 0) rfl (nI_add i 6) (by decide) rfl (fun ls hl => ?_)
  refine lv_goto (tgt := 18) hx hb (TB.get tb_law12 29 rfl) rfl ?_
  exact ih (i + 6) hC1 hM1 hI1 _ _ _ (by omega) (by omega) hnC hnM hPC hPM hS hl
set_option maxRecDepth 100000 in
set_option maxHeartbeats 4000000 in
theorem law_check {p : Program} {l : Launch} {e : Env} {s : State} {m : MethodId} {below : List Frame} {meth : Method} {c : Code} {b L : Nat} {xs : Nat → Int32} {D : va_G} {tc : Nat → ClassId} {BC BM : Nat} (hL : L ≤ 3072) (C0 : lw_At p s m meth c b L xs) (hK : va_K D vwCl (TY tc) s) (hBC : s.heap.size ≤ BC) (hBM : BC + 253 ≤ BM) {INV : Hp → Hp → Prop} {fu : Nat} (hO : OKS INV fu) {k i : Nat} (hC hM : Hp) (hI : INV hC hM) (H : Heap) (locs : List Loc) (ls : Array Slot) (hiL : i + 6 ≤ L) (hik : L < i + (k + 1)) (hnC : ∀ j, (hC.1 j).1 < 20 → j < 253) (hnM : ∀ j, (hM.1 j).1 < 20 → j < 26) (hPC : va_P D vwCl (WL tc BC 253 hC) H) (hPM : va_P D vwCl (WL tc BM 26 hM) H) (hS : va_S (fun q => s.heap.size ≤ q) s.heap H locs) (hl : lv_has ls 4 [(3, .int (nI i)), (0, .ref b), (1, .ref BC), (2, .ref BM)])
    (ih : ∀ (i : Nat) (hC hM : Hp), INV hC hM → ∀ (H : Heap) (locs : List Loc) (ls : Array Slot), L < i + k → i ≤ 3078 → (∀ j, (hC.1 j).1 < 20 → j < 253) → (∀ j, (hM.1 j).1 < 20 → j < 26) → va_P D vwCl (WL tc BC 253 hC) H → va_P D vwCl (WL tc BM 26 hM) H → va_S (fun q => s.heap.size ≤ q) s.heap H locs → lv_has ls 4 [(3, .int (nI i)), (0, .ref b), (1, .ref BC), (2, .ref BM)] → W p l e room_1 s m #[Value.ref b] below meth c H locs 279 15699 (lw_Z below #[Value.ref b] s) (F0 m 18 ls [])) : W p l e room_1 s m #[Value.ref b] below meth c H locs 279 15699 (lw_Z below #[Value.ref b] s) (F0 m 745 ls []) := by
  obtain ⟨hx, hb, hr, hml, hown, hts0, hX, hbl, hlk, hgv⟩ := id C0
  have hts : ∀ w ∈ GT, w.before #[Value.ref b] s = true := fun w hw => hts0 w (List.mem_filter.mp hw).1
  have hbA : ¬ (fun q : Nat => s.heap.size ≤ q) b := Nat.not_le.mpr hbl
  obtain ⟨r, hC1, hM1, e1, e2, hI1⟩ := hO.2.2.2.2.2.2.2.2.2.2.2.2.2.2.2.1 hC hM hI (xs (i + 1))
  refine lv_aload_n hx hb (TB.get tb_law8 21 rfl) rfl (lv_at hl 2 rfl) ?_
  refine lv_aload_n hx hb (TB.get tb_law8 22 rfl) rfl (lv_at hl 1 rfl) ?_
  refine lv_iload_n hx hb (TB.get tb_law8 23 rfl) rfl (lv_at hl 0 rfl) ?_
  refine lv_iconst (v := nI 1) hx hb (TB.get tb_law8 24 rfl) rfl ?_
  refine lv_iadd hx hb (TB.get tb_law8 25 rfl) ?_
  refine LW_sld hx hb hX hbl hbA hS (show i + 1 < L by omega) (by omega) (TB.get tb_law8 26 rfl) ?_
  refine LW_call (As := [.int (xs (i + 1))]) (rest := []) hx hb hml hown hts hK (TB.get tb_law8 27 rfl) lc_X8_check (ok_X8_check fu 0 (xs (i + 1)) hC _ e1).1 (ok_X8_check fu 0 (xs (i + 1)) hC _ e1).2 (Nat.le_of_ble_eq_true rfl) rfl (by intro v hv; simp only [List.mem_cons, List.not_mem_nil, or_false] at hv; rcases hv with rfl <;> exact ⟨_, rfl⟩) rfl (Nat.le_of_ble_eq_true rfl) hl.1 hnC hPC hS hBC ⟨Nat.le_of_ble_eq_true rfl, Nat.le_of_ble_eq_true rfl⟩ (fun H locs hnC hPC hoC hS => ?_)
  have hPM := LW_keep hPM hoC (fun i hi z => by have := z.1; have := z.2; omega)
  refine lv_aload_n hx hb (TB.get tb_law8 28 rfl) rfl (lv_at hl 3 rfl) ?_
  refine lv_aload_n hx hb (TB.get tb_law8 29 rfl) rfl (lv_at hl 1 rfl) ?_
  refine lv_iload_n hx hb (TB.get tb_law8 30 rfl) rfl (lv_at hl 0 rfl) ?_
  refine lv_iconst (v := nI 1) hx hb (TB.get tb_law8 31 rfl) rfl ?_
  refine lv_iadd hx hb (TB.get tb_law8 32 rfl) ?_
  refine LW_sld hx hb hX hbl hbA hS (show i + 1 < L by omega) (by omega) (TB.get tb_law8 33 rfl) ?_
  refine LW_call (As := [.int (xs (i + 1))]) (rest := [.int r]) hx hb hml hown hts hK (TB.get tb_law8 34 rfl) lc_X9_check (ok_X9_check fu 0 (xs (i + 1)) hM _ e2).1 (ok_X9_check fu 0 (xs (i + 1)) hM _ e2).2 (Nat.le_of_ble_eq_true rfl) rfl (by intro v hv; simp only [List.mem_cons, List.not_mem_nil, or_false] at hv; rcases hv with rfl <;> exact ⟨_, rfl⟩) rfl (Nat.le_of_ble_eq_true rfl) hl.1 hnM hPM hS (by omega) ⟨Nat.le_of_ble_eq_true rfl, Nat.le_of_ble_eq_true rfl⟩ (fun H locs hnM hPM hoM hS => ?_)
  have hPC := LW_keep hPC hoM (fun i hi z => by have := z.1; omega)
  refine lv_icmp_eq (tgt := 1058) hx hb (TB.get tb_law8 35 rfl) rfl (fun _ => ?_) (fun z => absurd rfl z)
  refine lv_iinc (v := nI (i + 6)) (lv' := [(3, .int (nI (i + 6))), (0, .ref b), (1, .ref BC), (2, .ref BM)]) hx hb (TB.get tb_law12 28 rfl) hl (k := 0) rfl (nI_add i 6) (by decide) rfl (fun ls hl => ?_)
  refine lv_goto (tgt := 18) hx hb (TB.get tb_law12 29 rfl) rfl ?_
  exact ih (i + 6) hC1 hM1 hI1 _ _ _ (by omega) (by omega) hnC hnM hPC hPM hS hl
set_option maxRecDepth 100000 in
set_option maxHeartbeats 4000000 in
theorem law_at {p : Program} {l : Launch} {e : Env} {s : State} {m : MethodId} {below : List Frame} {meth : Method} {c : Code} {b L : Nat} {xs : Nat → Int32} {D : va_G} {tc : Nat → ClassId} {BC BM : Nat} (hL : L ≤ 3072) (C0 : lw_At p s m meth c b L xs) (hK : va_K D vwCl (TY tc) s) (hBC : s.heap.size ≤ BC) (hBM : BC + 253 ≤ BM) {INV : Hp → Hp → Prop} {fu : Nat} (hO : OKS INV fu) {k i : Nat} (hC hM : Hp) (hI : INV hC hM) (H : Heap) (locs : List Loc) (ls : Array Slot) (hiL : i + 6 ≤ L) (hik : L < i + (k + 1)) (hnC : ∀ j, (hC.1 j).1 < 20 → j < 253) (hnM : ∀ j, (hM.1 j).1 < 20 → j < 26) (hPC : va_P D vwCl (WL tc BC 253 hC) H) (hPM : va_P D vwCl (WL tc BM 26 hM) H) (hS : va_S (fun q => s.heap.size ≤ q) s.heap H locs) (hl : lv_has ls 4 [(3, .int (nI i)), (0, .ref b), (1, .ref BC), (2, .ref BM)])
    (ih : ∀ (i : Nat) (hC hM : Hp), INV hC hM → ∀ (H : Heap) (locs : List Loc) (ls : Array Slot), L < i + k → i ≤ 3078 → (∀ j, (hC.1 j).1 < 20 → j < 253) → (∀ j, (hM.1 j).1 < 20 → j < 26) → va_P D vwCl (WL tc BC 253 hC) H → va_P D vwCl (WL tc BM 26 hM) H → va_S (fun q => s.heap.size ≤ q) s.heap H locs → lv_has ls 4 [(3, .int (nI i)), (0, .ref b), (1, .ref BC), (2, .ref BM)] → W p l e room_1 s m #[Value.ref b] below meth c H locs 279 15699 (lw_Z below #[Value.ref b] s) (F0 m 18 ls [])) : W p l e room_1 s m #[Value.ref b] below meth c H locs 279 15699 (lw_Z below #[Value.ref b] s) (F0 m 768 ls []) := by
  obtain ⟨hx, hb, hr, hml, hown, hts0, hX, hbl, hlk, hgv⟩ := id C0
  have hts : ∀ w ∈ GT, w.before #[Value.ref b] s = true := fun w hw => hts0 w (List.mem_filter.mp hw).1
  have hbA : ¬ (fun q : Nat => s.heap.size ≤ q) b := Nat.not_le.mpr hbl
  obtain ⟨r, hC1, hM1, e1, e2, hI1⟩ := hO.2.2.2.2.2.2.2.2.2.2.2.2.2.2.2.2.1 hC hM hI (xs (i + 1)) (xs (i + 2)) (xs (i + 3))
  refine lv_aload_n hx hb (TB.get tb_law8 38 rfl) rfl (lv_at hl 2 rfl) ?_
  refine lv_aload_n hx hb (TB.get tb_law8 39 rfl) rfl (lv_at hl 1 rfl) ?_
  refine lv_iload_n hx hb (TB.get tb_law8 40 rfl) rfl (lv_at hl 0 rfl) ?_
  refine lv_iconst (v := nI 1) hx hb (TB.get tb_law8 41 rfl) rfl ?_
  refine lv_iadd hx hb (TB.get tb_law8 42 rfl) ?_
  refine LW_sld hx hb hX hbl hbA hS (show i + 1 < L by omega) (by omega) (TB.get tb_law8 43 rfl) ?_
  refine lv_aload_n hx hb (TB.get tb_law8 44 rfl) rfl (lv_at hl 1 rfl) ?_
  refine lv_iload_n hx hb (TB.get tb_law8 45 rfl) rfl (lv_at hl 0 rfl) ?_
  refine lv_iconst (v := nI 2) hx hb (TB.get tb_law8 46 rfl) rfl ?_
  refine lv_iadd hx hb (TB.get tb_law8 47 rfl) ?_
  refine LW_sld hx hb hX hbl hbA hS (show i + 2 < L by omega) (by omega) (TB.get tb_law8 48 rfl) ?_
  refine lv_aload_n hx hb (TB.get tb_law8 49 rfl) rfl (lv_at hl 1 rfl) ?_
  refine lv_iload_n hx hb (TB.get tb_law8 50 rfl) rfl (lv_at hl 0 rfl) ?_
  refine lv_iconst (v := nI 3) hx hb (TB.get tb_law8 51 rfl) rfl ?_
  refine lv_iadd hx hb (TB.get tb_law8 52 rfl) ?_
  refine LW_sld hx hb hX hbl hbA hS (show i + 3 < L by omega) (by omega) (TB.get tb_law8 53 rfl) ?_
  refine LW_call (As := [.int (xs (i + 1)), .int (xs (i + 2)), .int (xs (i + 3))]) (rest := []) hx hb hml hown hts hK (TB.get tb_law8 54 rfl) lc_X8_at (ok_X8_at fu 0 (xs (i + 1)) (xs (i + 2)) (xs (i + 3)) hC _ e1).1 (ok_X8_at fu 0 (xs (i + 1)) (xs (i + 2)) (xs (i + 3)) hC _ e1).2 (Nat.le_of_ble_eq_true rfl) rfl (by intro v hv; simp only [List.mem_cons, List.not_mem_nil, or_false] at hv; rcases hv with rfl | rfl | rfl <;> exact ⟨_, rfl⟩) rfl (Nat.le_of_ble_eq_true rfl) hl.1 hnC hPC hS hBC ⟨Nat.le_of_ble_eq_true rfl, Nat.le_of_ble_eq_true rfl⟩ (fun H locs hnC hPC hoC hS => ?_)
  have hPM := LW_keep hPM hoC (fun i hi z => by have := z.1; have := z.2; omega)
  refine lv_aload_n hx hb (TB.get tb_law8 55 rfl) rfl (lv_at hl 3 rfl) ?_
  refine lv_aload_n hx hb (TB.get tb_law8 56 rfl) rfl (lv_at hl 1 rfl) ?_
  refine lv_iload_n hx hb (TB.get tb_law8 57 rfl) rfl (lv_at hl 0 rfl) ?_
  refine lv_iconst (v := nI 1) hx hb (TB.get tb_law8 58 rfl) rfl ?_
  refine lv_iadd hx hb (TB.get tb_law8 59 rfl) ?_
  refine LW_sld hx hb hX hbl hbA hS (show i + 1 < L by omega) (by omega) (TB.get tb_law9 0 rfl) ?_
  refine lv_aload_n hx hb (TB.get tb_law9 1 rfl) rfl (lv_at hl 1 rfl) ?_
  refine lv_iload_n hx hb (TB.get tb_law9 2 rfl) rfl (lv_at hl 0 rfl) ?_
  refine lv_iconst (v := nI 2) hx hb (TB.get tb_law9 3 rfl) rfl ?_
  refine lv_iadd hx hb (TB.get tb_law9 4 rfl) ?_
  refine LW_sld hx hb hX hbl hbA hS (show i + 2 < L by omega) (by omega) (TB.get tb_law9 5 rfl) ?_
  refine lv_aload_n hx hb (TB.get tb_law9 6 rfl) rfl (lv_at hl 1 rfl) ?_
  refine lv_iload_n hx hb (TB.get tb_law9 7 rfl) rfl (lv_at hl 0 rfl) ?_
  refine lv_iconst (v := nI 3) hx hb (TB.get tb_law9 8 rfl) rfl ?_
  refine lv_iadd hx hb (TB.get tb_law9 9 rfl) ?_
  refine LW_sld hx hb hX hbl hbA hS (show i + 3 < L by omega) (by omega) (TB.get tb_law9 10 rfl) ?_
  refine LW_call (As := [.int (xs (i + 1)), .int (xs (i + 2)), .int (xs (i + 3))]) (rest := [.int r]) hx hb hml hown hts hK (TB.get tb_law9 11 rfl) lc_X9_at_ (ok_X9_at_ fu 0 (xs (i + 1)) (xs (i + 2)) (xs (i + 3)) hM _ e2).1 (ok_X9_at_ fu 0 (xs (i + 1)) (xs (i + 2)) (xs (i + 3)) hM _ e2).2 (Nat.le_of_ble_eq_true rfl) rfl (by intro v hv; simp only [List.mem_cons, List.not_mem_nil, or_false] at hv; rcases hv with rfl | rfl | rfl <;> exact ⟨_, rfl⟩) rfl (Nat.le_of_ble_eq_true rfl) hl.1 hnM hPM hS (by omega) ⟨Nat.le_of_ble_eq_true rfl, Nat.le_of_ble_eq_true rfl⟩ (fun H locs hnM hPM hoM hS => ?_)
  have hPC := LW_keep hPC hoM (fun i hi z => by have := z.1; omega)
  refine lv_icmp_eq (tgt := 1058) hx hb (TB.get tb_law9 12 rfl) rfl (fun _ => ?_) (fun z => absurd rfl z)
  refine lv_iinc (v := nI (i + 6)) (lv' := [(3, .int (nI (i + 6))), (0, .ref b), (1, .ref BC), (2, .ref BM)]) hx hb (TB.get tb_law12 28 rfl) hl (k := 0) rfl (nI_add i 6) (by decide) rfl (fun ls hl => ?_)
  refine lv_goto (tgt := 18) hx hb (TB.get tb_law12 29 rfl) rfl ?_
  exact ih (i + 6) hC1 hM1 hI1 _ _ _ (by omega) (by omega) hnC hnM hPC hPM hS hl
set_option maxRecDepth 100000 in
set_option maxHeartbeats 4000000 in
theorem law_without {p : Program} {l : Launch} {e : Env} {s : State} {m : MethodId} {below : List Frame} {meth : Method} {c : Code} {b L : Nat} {xs : Nat → Int32} {D : va_G} {tc : Nat → ClassId} {BC BM : Nat} (hL : L ≤ 3072) (C0 : lw_At p s m meth c b L xs) (hK : va_K D vwCl (TY tc) s) (hBC : s.heap.size ≤ BC) (hBM : BC + 253 ≤ BM) {INV : Hp → Hp → Prop} {fu : Nat} (hO : OKS INV fu) {k i : Nat} (hC hM : Hp) (hI : INV hC hM) (H : Heap) (locs : List Loc) (ls : Array Slot) (hiL : i + 6 ≤ L) (hik : L < i + (k + 1)) (hnC : ∀ j, (hC.1 j).1 < 20 → j < 253) (hnM : ∀ j, (hM.1 j).1 < 20 → j < 26) (hPC : va_P D vwCl (WL tc BC 253 hC) H) (hPM : va_P D vwCl (WL tc BM 26 hM) H) (hS : va_S (fun q => s.heap.size ≤ q) s.heap H locs) (hl : lv_has ls 4 [(3, .int (nI i)), (0, .ref b), (1, .ref BC), (2, .ref BM)])
    (ih : ∀ (i : Nat) (hC hM : Hp), INV hC hM → ∀ (H : Heap) (locs : List Loc) (ls : Array Slot), L < i + k → i ≤ 3078 → (∀ j, (hC.1 j).1 < 20 → j < 253) → (∀ j, (hM.1 j).1 < 20 → j < 26) → va_P D vwCl (WL tc BC 253 hC) H → va_P D vwCl (WL tc BM 26 hM) H → va_S (fun q => s.heap.size ≤ q) s.heap H locs → lv_has ls 4 [(3, .int (nI i)), (0, .ref b), (1, .ref BC), (2, .ref BM)] → W p l e room_1 s m #[Value.ref b] below meth c H locs 279 15699 (lw_Z below #[Value.ref b] s) (F0 m 18 ls [])) : W p l e room_1 s m #[Value.ref b] below meth c H locs 279 15699 (lw_Z below #[Value.ref b] s) (F0 m 811 ls []) := by
  obtain ⟨hx, hb, hr, hml, hown, hts0, hX, hbl, hlk, hgv⟩ := id C0
  have hts : ∀ w ∈ GT, w.before #[Value.ref b] s = true := fun w hw => hts0 w (List.mem_filter.mp hw).1
  have hbA : ¬ (fun q : Nat => s.heap.size ≤ q) b := Nat.not_le.mpr hbl
  obtain ⟨r, hC1, hM1, e1, e2, hI1⟩ := hO.2.2.2.2.2.2.2.2.2.2.2.2.2.2.2.2.2.1 hC hM hI (xs (i + 1))
  refine lv_aload_n hx hb (TB.get tb_law9 15 rfl) rfl (lv_at hl 2 rfl) ?_
  refine lv_aload_n hx hb (TB.get tb_law9 16 rfl) rfl (lv_at hl 1 rfl) ?_
  refine lv_iload_n hx hb (TB.get tb_law9 17 rfl) rfl (lv_at hl 0 rfl) ?_
  refine lv_iconst (v := nI 1) hx hb (TB.get tb_law9 18 rfl) rfl ?_
  refine lv_iadd hx hb (TB.get tb_law9 19 rfl) ?_
  refine LW_sld hx hb hX hbl hbA hS (show i + 1 < L by omega) (by omega) (TB.get tb_law9 20 rfl) ?_
  refine LW_call (As := [.int (xs (i + 1))]) (rest := []) hx hb hml hown hts hK (TB.get tb_law9 21 rfl) lc_X8_without (ok_X8_without fu 0 (xs (i + 1)) hC _ e1).1 (ok_X8_without fu 0 (xs (i + 1)) hC _ e1).2 (Nat.le_of_ble_eq_true rfl) rfl (by intro v hv; simp only [List.mem_cons, List.not_mem_nil, or_false] at hv; rcases hv with rfl <;> exact ⟨_, rfl⟩) rfl (Nat.le_of_ble_eq_true rfl) hl.1 hnC hPC hS hBC ⟨Nat.le_of_ble_eq_true rfl, Nat.le_of_ble_eq_true rfl⟩ (fun H locs hnC hPC hoC hS => ?_)
  have hPM := LW_keep hPM hoC (fun i hi z => by have := z.1; have := z.2; omega)
  refine lv_aload_n hx hb (TB.get tb_law9 22 rfl) rfl (lv_at hl 3 rfl) ?_
  refine lv_aload_n hx hb (TB.get tb_law9 23 rfl) rfl (lv_at hl 1 rfl) ?_
  refine lv_iload_n hx hb (TB.get tb_law9 24 rfl) rfl (lv_at hl 0 rfl) ?_
  refine lv_iconst (v := nI 1) hx hb (TB.get tb_law9 25 rfl) rfl ?_
  refine lv_iadd hx hb (TB.get tb_law9 26 rfl) ?_
  refine LW_sld hx hb hX hbl hbA hS (show i + 1 < L by omega) (by omega) (TB.get tb_law9 27 rfl) ?_
  refine LW_call (As := [.int (xs (i + 1))]) (rest := [.int r]) hx hb hml hown hts hK (TB.get tb_law9 28 rfl) lc_X9_without (ok_X9_without fu 0 (xs (i + 1)) hM _ e2).1 (ok_X9_without fu 0 (xs (i + 1)) hM _ e2).2 (Nat.le_of_ble_eq_true rfl) rfl (by intro v hv; simp only [List.mem_cons, List.not_mem_nil, or_false] at hv; rcases hv with rfl <;> exact ⟨_, rfl⟩) rfl (Nat.le_of_ble_eq_true rfl) hl.1 hnM hPM hS (by omega) ⟨Nat.le_of_ble_eq_true rfl, Nat.le_of_ble_eq_true rfl⟩ (fun H locs hnM hPM hoM hS => ?_)
  have hPC := LW_keep hPC hoM (fun i hi z => by have := z.1; omega)
  refine lv_icmp_eq (tgt := 1058) hx hb (TB.get tb_law9 29 rfl) rfl (fun _ => ?_) (fun z => absurd rfl z)
  refine lv_iinc (v := nI (i + 6)) (lv' := [(3, .int (nI (i + 6))), (0, .ref b), (1, .ref BC), (2, .ref BM)]) hx hb (TB.get tb_law12 28 rfl) hl (k := 0) rfl (nI_add i 6) (by decide) rfl (fun ls hl => ?_)
  refine lv_goto (tgt := 18) hx hb (TB.get tb_law12 29 rfl) rfl ?_
  exact ih (i + 6) hC1 hM1 hI1 _ _ _ (by omega) (by omega) hnC hnM hPC hPM hS hl
set_option maxRecDepth 100000 in
set_option maxHeartbeats 4000000 in
theorem law_mend {p : Program} {l : Launch} {e : Env} {s : State} {m : MethodId} {below : List Frame} {meth : Method} {c : Code} {b L : Nat} {xs : Nat → Int32} {D : va_G} {tc : Nat → ClassId} {BC BM : Nat} (hL : L ≤ 3072) (C0 : lw_At p s m meth c b L xs) (hK : va_K D vwCl (TY tc) s) (hBC : s.heap.size ≤ BC) (hBM : BC + 253 ≤ BM) {INV : Hp → Hp → Prop} {fu : Nat} (hO : OKS INV fu) {k i : Nat} (hC hM : Hp) (hI : INV hC hM) (H : Heap) (locs : List Loc) (ls : Array Slot) (hiL : i + 6 ≤ L) (hik : L < i + (k + 1)) (hnC : ∀ j, (hC.1 j).1 < 20 → j < 253) (hnM : ∀ j, (hM.1 j).1 < 20 → j < 26) (hPC : va_P D vwCl (WL tc BC 253 hC) H) (hPM : va_P D vwCl (WL tc BM 26 hM) H) (hS : va_S (fun q => s.heap.size ≤ q) s.heap H locs) (hl : lv_has ls 4 [(3, .int (nI i)), (0, .ref b), (1, .ref BC), (2, .ref BM)])
    (ih : ∀ (i : Nat) (hC hM : Hp), INV hC hM → ∀ (H : Heap) (locs : List Loc) (ls : Array Slot), L < i + k → i ≤ 3078 → (∀ j, (hC.1 j).1 < 20 → j < 253) → (∀ j, (hM.1 j).1 < 20 → j < 26) → va_P D vwCl (WL tc BC 253 hC) H → va_P D vwCl (WL tc BM 26 hM) H → va_S (fun q => s.heap.size ≤ q) s.heap H locs → lv_has ls 4 [(3, .int (nI i)), (0, .ref b), (1, .ref BC), (2, .ref BM)] → W p l e room_1 s m #[Value.ref b] below meth c H locs 279 15699 (lw_Z below #[Value.ref b] s) (F0 m 18 ls [])) : W p l e room_1 s m #[Value.ref b] below meth c H locs 279 15699 (lw_Z below #[Value.ref b] s) (F0 m 834 ls []) := by
  obtain ⟨hx, hb, hr, hml, hown, hts0, hX, hbl, hlk, hgv⟩ := id C0
  have hts : ∀ w ∈ GT, w.before #[Value.ref b] s = true := fun w hw => hts0 w (List.mem_filter.mp hw).1
  have hbA : ¬ (fun q : Nat => s.heap.size ≤ q) b := Nat.not_le.mpr hbl
  obtain ⟨r, hC1, hM1, e1, e2, hI1⟩ := hO.2.2.2.2.2.2.2.2.2.2.2.2.2.2.2.2.2.2.1 hC hM hI
  refine lv_aload_n hx hb (TB.get tb_law9 32 rfl) rfl (lv_at hl 2 rfl) ?_
  refine LW_call (As := []) (rest := []) hx hb hml hown hts hK (TB.get tb_law9 33 rfl) lc_X8_mend (ok_X8_mend fu 0  hC _ e1).1 (ok_X8_mend fu 0  hC _ e1).2 (Nat.le_of_ble_eq_true rfl) rfl (by intro v hv; cases hv) rfl (Nat.le_of_ble_eq_true rfl) hl.1 hnC hPC hS hBC ⟨Nat.le_of_ble_eq_true rfl, Nat.le_of_ble_eq_true rfl⟩ (fun H locs hnC hPC hoC hS => ?_)
  have hPM := LW_keep hPM hoC (fun i hi z => by have := z.1; have := z.2; omega)
  refine lv_aload_n hx hb (TB.get tb_law9 34 rfl) rfl (lv_at hl 3 rfl) ?_
  refine LW_call (As := []) (rest := [.int r]) hx hb hml hown hts hK (TB.get tb_law9 35 rfl) lc_X9_mend (ok_X9_mend fu 0  hM _ e2).1 (ok_X9_mend fu 0  hM _ e2).2 (Nat.le_of_ble_eq_true rfl) rfl (by intro v hv; cases hv) rfl (Nat.le_of_ble_eq_true rfl) hl.1 hnM hPM hS (by omega) ⟨Nat.le_of_ble_eq_true rfl, Nat.le_of_ble_eq_true rfl⟩ (fun H locs hnM hPM hoM hS => ?_)
  have hPC := LW_keep hPC hoM (fun i hi z => by have := z.1; omega)
  refine lv_icmp_eq (tgt := 1058) hx hb (TB.get tb_law9 36 rfl) rfl (fun _ => ?_) (fun z => absurd rfl z)
  refine lv_iinc (v := nI (i + 6)) (lv' := [(3, .int (nI (i + 6))), (0, .ref b), (1, .ref BC), (2, .ref BM)]) hx hb (TB.get tb_law12 28 rfl) hl (k := 0) rfl (nI_add i 6) (by decide) rfl (fun ls hl => ?_)
  refine lv_goto (tgt := 18) hx hb (TB.get tb_law12 29 rfl) rfl ?_
  exact ih (i + 6) hC1 hM1 hI1 _ _ _ (by omega) (by omega) hnC hnM hPC hPM hS hl
set_option maxRecDepth 100000 in
set_option maxHeartbeats 4000000 in
theorem law_paths {p : Program} {l : Launch} {e : Env} {s : State} {m : MethodId} {below : List Frame} {meth : Method} {c : Code} {b L : Nat} {xs : Nat → Int32} {D : va_G} {tc : Nat → ClassId} {BC BM : Nat} (hL : L ≤ 3072) (C0 : lw_At p s m meth c b L xs) (hK : va_K D vwCl (TY tc) s) (hBC : s.heap.size ≤ BC) (hBM : BC + 253 ≤ BM) {INV : Hp → Hp → Prop} {fu : Nat} (hO : OKS INV fu) {k i : Nat} (hC hM : Hp) (hI : INV hC hM) (H : Heap) (locs : List Loc) (ls : Array Slot) (hiL : i + 6 ≤ L) (hik : L < i + (k + 1)) (hnC : ∀ j, (hC.1 j).1 < 20 → j < 253) (hnM : ∀ j, (hM.1 j).1 < 20 → j < 26) (hPC : va_P D vwCl (WL tc BC 253 hC) H) (hPM : va_P D vwCl (WL tc BM 26 hM) H) (hS : va_S (fun q => s.heap.size ≤ q) s.heap H locs) (hl : lv_has ls 4 [(3, .int (nI i)), (0, .ref b), (1, .ref BC), (2, .ref BM)])
    (ih : ∀ (i : Nat) (hC hM : Hp), INV hC hM → ∀ (H : Heap) (locs : List Loc) (ls : Array Slot), L < i + k → i ≤ 3078 → (∀ j, (hC.1 j).1 < 20 → j < 253) → (∀ j, (hM.1 j).1 < 20 → j < 26) → va_P D vwCl (WL tc BC 253 hC) H → va_P D vwCl (WL tc BM 26 hM) H → va_S (fun q => s.heap.size ≤ q) s.heap H locs → lv_has ls 4 [(3, .int (nI i)), (0, .ref b), (1, .ref BC), (2, .ref BM)] → W p l e room_1 s m #[Value.ref b] below meth c H locs 279 15699 (lw_Z below #[Value.ref b] s) (F0 m 18 ls [])) : W p l e room_1 s m #[Value.ref b] below meth c H locs 279 15699 (lw_Z below #[Value.ref b] s) (F0 m 847 ls []) := by
  obtain ⟨hx, hb, hr, hml, hown, hts0, hX, hbl, hlk, hgv⟩ := id C0
  have hts : ∀ w ∈ GT, w.before #[Value.ref b] s = true := fun w hw => hts0 w (List.mem_filter.mp hw).1
  have hbA : ¬ (fun q : Nat => s.heap.size ≤ q) b := Nat.not_le.mpr hbl
  obtain ⟨r, hC1, hM1, e1, e2, hI1⟩ := hO.2.2.2.2.2.2.2.2.2.2.2.2.2.2.2.2.2.2.2.1 hC hM hI (xs (i + 1))
  refine lv_aload_n hx hb (TB.get tb_law9 39 rfl) rfl (lv_at hl 2 rfl) ?_
  refine lv_aload_n hx hb (TB.get tb_law9 40 rfl) rfl (lv_at hl 1 rfl) ?_
  refine lv_iload_n hx hb (TB.get tb_law9 41 rfl) rfl (lv_at hl 0 rfl) ?_
  refine lv_iconst (v := nI 1) hx hb (TB.get tb_law9 42 rfl) rfl ?_
  refine lv_iadd hx hb (TB.get tb_law9 43 rfl) ?_
  refine LW_sld hx hb hX hbl hbA hS (show i + 1 < L by omega) (by omega) (TB.get tb_law9 44 rfl) ?_
  refine LW_call (As := [.int (xs (i + 1))]) (rest := []) hx hb hml hown hts hK (TB.get tb_law9 45 rfl) lc_X8_paths (ok_X8_paths fu 0 (xs (i + 1)) hC _ e1).1 (ok_X8_paths fu 0 (xs (i + 1)) hC _ e1).2 (Nat.le_of_ble_eq_true rfl) rfl (by intro v hv; simp only [List.mem_cons, List.not_mem_nil, or_false] at hv; rcases hv with rfl <;> exact ⟨_, rfl⟩) rfl (Nat.le_of_ble_eq_true rfl) hl.1 hnC hPC hS hBC ⟨Nat.le_of_ble_eq_true rfl, Nat.le_of_ble_eq_true rfl⟩ (fun H locs hnC hPC hoC hS => ?_)
  have hPM := LW_keep hPM hoC (fun i hi z => by have := z.1; have := z.2; omega)
  refine lv_aload_n hx hb (TB.get tb_law9 46 rfl) rfl (lv_at hl 3 rfl) ?_
  refine lv_aload_n hx hb (TB.get tb_law9 47 rfl) rfl (lv_at hl 1 rfl) ?_
  refine lv_iload_n hx hb (TB.get tb_law9 48 rfl) rfl (lv_at hl 0 rfl) ?_
  refine lv_iconst (v := nI 1) hx hb (TB.get tb_law9 49 rfl) rfl ?_
  refine lv_iadd hx hb (TB.get tb_law9 50 rfl) ?_
  refine LW_sld hx hb hX hbl hbA hS (show i + 1 < L by omega) (by omega) (TB.get tb_law9 51 rfl) ?_
  refine LW_call (As := [.int (xs (i + 1))]) (rest := [.int r]) hx hb hml hown hts hK (TB.get tb_law9 52 rfl) lc_X9_paths (ok_X9_paths fu 0 (xs (i + 1)) hM _ e2).1 (ok_X9_paths fu 0 (xs (i + 1)) hM _ e2).2 (Nat.le_of_ble_eq_true rfl) rfl (by intro v hv; simp only [List.mem_cons, List.not_mem_nil, or_false] at hv; rcases hv with rfl <;> exact ⟨_, rfl⟩) rfl (Nat.le_of_ble_eq_true rfl) hl.1 hnM hPM hS (by omega) ⟨Nat.le_of_ble_eq_true rfl, Nat.le_of_ble_eq_true rfl⟩ (fun H locs hnM hPM hoM hS => ?_)
  have hPC := LW_keep hPC hoM (fun i hi z => by have := z.1; omega)
  refine lv_icmp_eq (tgt := 1058) hx hb (TB.get tb_law9 53 rfl) rfl (fun _ => ?_) (fun z => absurd rfl z)
  refine lv_iinc (v := nI (i + 6)) (lv' := [(3, .int (nI (i + 6))), (0, .ref b), (1, .ref BC), (2, .ref BM)]) hx hb (TB.get tb_law12 28 rfl) hl (k := 0) rfl (nI_add i 6) (by decide) rfl (fun ls hl => ?_)
  refine lv_goto (tgt := 18) hx hb (TB.get tb_law12 29 rfl) rfl ?_
  exact ih (i + 6) hC1 hM1 hI1 _ _ _ (by omega) (by omega) hnC hnM hPC hPM hS hl
set_option maxRecDepth 100000 in
set_option maxHeartbeats 4000000 in
theorem law_path {p : Program} {l : Launch} {e : Env} {s : State} {m : MethodId} {below : List Frame} {meth : Method} {c : Code} {b L : Nat} {xs : Nat → Int32} {D : va_G} {tc : Nat → ClassId} {BC BM : Nat} (hL : L ≤ 3072) (C0 : lw_At p s m meth c b L xs) (hK : va_K D vwCl (TY tc) s) (hBC : s.heap.size ≤ BC) (hBM : BC + 253 ≤ BM) {INV : Hp → Hp → Prop} {fu : Nat} (hO : OKS INV fu) {k i : Nat} (hC hM : Hp) (hI : INV hC hM) (H : Heap) (locs : List Loc) (ls : Array Slot) (hiL : i + 6 ≤ L) (hik : L < i + (k + 1)) (hnC : ∀ j, (hC.1 j).1 < 20 → j < 253) (hnM : ∀ j, (hM.1 j).1 < 20 → j < 26) (hPC : va_P D vwCl (WL tc BC 253 hC) H) (hPM : va_P D vwCl (WL tc BM 26 hM) H) (hS : va_S (fun q => s.heap.size ≤ q) s.heap H locs) (hl : lv_has ls 4 [(3, .int (nI i)), (0, .ref b), (1, .ref BC), (2, .ref BM)])
    (ih : ∀ (i : Nat) (hC hM : Hp), INV hC hM → ∀ (H : Heap) (locs : List Loc) (ls : Array Slot), L < i + k → i ≤ 3078 → (∀ j, (hC.1 j).1 < 20 → j < 253) → (∀ j, (hM.1 j).1 < 20 → j < 26) → va_P D vwCl (WL tc BC 253 hC) H → va_P D vwCl (WL tc BM 26 hM) H → va_S (fun q => s.heap.size ≤ q) s.heap H locs → lv_has ls 4 [(3, .int (nI i)), (0, .ref b), (1, .ref BC), (2, .ref BM)] → W p l e room_1 s m #[Value.ref b] below meth c H locs 279 15699 (lw_Z below #[Value.ref b] s) (F0 m 18 ls [])) : W p l e room_1 s m #[Value.ref b] below meth c H locs 279 15699 (lw_Z below #[Value.ref b] s) (F0 m 870 ls []) := by
  obtain ⟨hx, hb, hr, hml, hown, hts0, hX, hbl, hlk, hgv⟩ := id C0
  have hts : ∀ w ∈ GT, w.before #[Value.ref b] s = true := fun w hw => hts0 w (List.mem_filter.mp hw).1
  have hbA : ¬ (fun q : Nat => s.heap.size ≤ q) b := Nat.not_le.mpr hbl
  obtain ⟨r, hC1, hM1, e1, e2, hI1⟩ := hO.2.2.2.2.2.2.2.2.2.2.2.2.2.2.2.2.2.2.2.2.1 hC hM hI (xs (i + 1))
  refine lv_aload_n hx hb (TB.get tb_law9 56 rfl) rfl (lv_at hl 2 rfl) ?_
  refine lv_aload_n hx hb (TB.get tb_law9 57 rfl) rfl (lv_at hl 1 rfl) ?_
  refine lv_iload_n hx hb (TB.get tb_law9 58 rfl) rfl (lv_at hl 0 rfl) ?_
  refine lv_iconst (v := nI 1) hx hb (TB.get tb_law9 59 rfl) rfl ?_
  refine lv_iadd hx hb (TB.get tb_law10 0 rfl) ?_
  refine LW_sld hx hb hX hbl hbA hS (show i + 1 < L by omega) (by omega) (TB.get tb_law10 1 rfl) ?_
  refine LW_call (As := [.int (xs (i + 1))]) (rest := []) hx hb hml hown hts hK (TB.get tb_law10 2 rfl) lc_X8_path (ok_X8_path fu 0 (xs (i + 1)) hC _ e1).1 (ok_X8_path fu 0 (xs (i + 1)) hC _ e1).2 (Nat.le_of_ble_eq_true rfl) rfl (by intro v hv; simp only [List.mem_cons, List.not_mem_nil, or_false] at hv; rcases hv with rfl <;> exact ⟨_, rfl⟩) rfl (Nat.le_of_ble_eq_true rfl) hl.1 hnC hPC hS hBC ⟨Nat.le_of_ble_eq_true rfl, Nat.le_of_ble_eq_true rfl⟩ (fun H locs hnC hPC hoC hS => ?_)
  have hPM := LW_keep hPM hoC (fun i hi z => by have := z.1; have := z.2; omega)
  refine lv_aload_n hx hb (TB.get tb_law10 3 rfl) rfl (lv_at hl 3 rfl) ?_
  refine lv_aload_n hx hb (TB.get tb_law10 4 rfl) rfl (lv_at hl 1 rfl) ?_
  refine lv_iload_n hx hb (TB.get tb_law10 5 rfl) rfl (lv_at hl 0 rfl) ?_
  refine lv_iconst (v := nI 1) hx hb (TB.get tb_law10 6 rfl) rfl ?_
  refine lv_iadd hx hb (TB.get tb_law10 7 rfl) ?_
  refine LW_sld hx hb hX hbl hbA hS (show i + 1 < L by omega) (by omega) (TB.get tb_law10 8 rfl) ?_
  refine LW_call (As := [.int (xs (i + 1))]) (rest := [.int r]) hx hb hml hown hts hK (TB.get tb_law10 9 rfl) lc_X9_path (ok_X9_path fu 0 (xs (i + 1)) hM _ e2).1 (ok_X9_path fu 0 (xs (i + 1)) hM _ e2).2 (Nat.le_of_ble_eq_true rfl) rfl (by intro v hv; simp only [List.mem_cons, List.not_mem_nil, or_false] at hv; rcases hv with rfl <;> exact ⟨_, rfl⟩) rfl (Nat.le_of_ble_eq_true rfl) hl.1 hnM hPM hS (by omega) ⟨Nat.le_of_ble_eq_true rfl, Nat.le_of_ble_eq_true rfl⟩ (fun H locs hnM hPM hoM hS => ?_)
  have hPC := LW_keep hPC hoM (fun i hi z => by have := z.1; omega)
  refine lv_icmp_eq (tgt := 1058) hx hb (TB.get tb_law10 10 rfl) rfl (fun _ => ?_) (fun z => absurd rfl z)
  refine lv_iinc (v := nI (i + 6)) (lv' := [(3, .int (nI (i + 6))), (0, .ref b), (1, .ref BC), (2, .ref BM)]) hx hb (TB.get tb_law12 28 rfl) hl (k := 0) rfl (nI_add i 6) (by decide) rfl (fun ls hl => ?_)
  refine lv_goto (tgt := 18) hx hb (TB.get tb_law12 29 rfl) rfl ?_
  exact ih (i + 6) hC1 hM1 hI1 _ _ _ (by omega) (by omega) hnC hnM hPC hPM hS hl
set_option maxRecDepth 100000 in
set_option maxHeartbeats 4000000 in
theorem law_truly {p : Program} {l : Launch} {e : Env} {s : State} {m : MethodId} {below : List Frame} {meth : Method} {c : Code} {b L : Nat} {xs : Nat → Int32} {D : va_G} {tc : Nat → ClassId} {BC BM : Nat} (hL : L ≤ 3072) (C0 : lw_At p s m meth c b L xs) (hK : va_K D vwCl (TY tc) s) (hBC : s.heap.size ≤ BC) (hBM : BC + 253 ≤ BM) {INV : Hp → Hp → Prop} {fu : Nat} (hO : OKS INV fu) {k i : Nat} (hC hM : Hp) (hI : INV hC hM) (H : Heap) (locs : List Loc) (ls : Array Slot) (hiL : i + 6 ≤ L) (hik : L < i + (k + 1)) (hnC : ∀ j, (hC.1 j).1 < 20 → j < 253) (hnM : ∀ j, (hM.1 j).1 < 20 → j < 26) (hPC : va_P D vwCl (WL tc BC 253 hC) H) (hPM : va_P D vwCl (WL tc BM 26 hM) H) (hS : va_S (fun q => s.heap.size ≤ q) s.heap H locs) (hl : lv_has ls 4 [(3, .int (nI i)), (0, .ref b), (1, .ref BC), (2, .ref BM)])
    (ih : ∀ (i : Nat) (hC hM : Hp), INV hC hM → ∀ (H : Heap) (locs : List Loc) (ls : Array Slot), L < i + k → i ≤ 3078 → (∀ j, (hC.1 j).1 < 20 → j < 253) → (∀ j, (hM.1 j).1 < 20 → j < 26) → va_P D vwCl (WL tc BC 253 hC) H → va_P D vwCl (WL tc BM 26 hM) H → va_S (fun q => s.heap.size ≤ q) s.heap H locs → lv_has ls 4 [(3, .int (nI i)), (0, .ref b), (1, .ref BC), (2, .ref BM)] → W p l e room_1 s m #[Value.ref b] below meth c H locs 279 15699 (lw_Z below #[Value.ref b] s) (F0 m 18 ls [])) : W p l e room_1 s m #[Value.ref b] below meth c H locs 279 15699 (lw_Z below #[Value.ref b] s) (F0 m 893 ls []) := by
  obtain ⟨hx, hb, hr, hml, hown, hts0, hX, hbl, hlk, hgv⟩ := id C0
  have hts : ∀ w ∈ GT, w.before #[Value.ref b] s = true := fun w hw => hts0 w (List.mem_filter.mp hw).1
  have hbA : ¬ (fun q : Nat => s.heap.size ≤ q) b := Nat.not_le.mpr hbl
  obtain ⟨r, hC1, hM1, e1, e2, hI1⟩ := hO.2.2.2.2.2.2.2.2.2.2.2.2.2.2.2.2.2.2.2.2.2.1 hC hM hI (xs (i + 1)) (xs (i + 2)) (xs (i + 3))
  refine lv_aload_n hx hb (TB.get tb_law10 13 rfl) rfl (lv_at hl 2 rfl) ?_
  refine lv_aload_n hx hb (TB.get tb_law10 14 rfl) rfl (lv_at hl 1 rfl) ?_
  refine lv_iload_n hx hb (TB.get tb_law10 15 rfl) rfl (lv_at hl 0 rfl) ?_
  refine lv_iconst (v := nI 1) hx hb (TB.get tb_law10 16 rfl) rfl ?_
  refine lv_iadd hx hb (TB.get tb_law10 17 rfl) ?_
  refine LW_sld hx hb hX hbl hbA hS (show i + 1 < L by omega) (by omega) (TB.get tb_law10 18 rfl) ?_
  refine lv_aload_n hx hb (TB.get tb_law10 19 rfl) rfl (lv_at hl 1 rfl) ?_
  refine lv_iload_n hx hb (TB.get tb_law10 20 rfl) rfl (lv_at hl 0 rfl) ?_
  refine lv_iconst (v := nI 2) hx hb (TB.get tb_law10 21 rfl) rfl ?_
  refine lv_iadd hx hb (TB.get tb_law10 22 rfl) ?_
  refine LW_sld hx hb hX hbl hbA hS (show i + 2 < L by omega) (by omega) (TB.get tb_law10 23 rfl) ?_
  refine lv_aload_n hx hb (TB.get tb_law10 24 rfl) rfl (lv_at hl 1 rfl) ?_
  refine lv_iload_n hx hb (TB.get tb_law10 25 rfl) rfl (lv_at hl 0 rfl) ?_
  refine lv_iconst (v := nI 3) hx hb (TB.get tb_law10 26 rfl) rfl ?_
  refine lv_iadd hx hb (TB.get tb_law10 27 rfl) ?_
  refine LW_sld hx hb hX hbl hbA hS (show i + 3 < L by omega) (by omega) (TB.get tb_law10 28 rfl) ?_
  refine LW_call (As := [.int (xs (i + 1)), .int (xs (i + 2)), .int (xs (i + 3))]) (rest := []) hx hb hml hown hts hK (TB.get tb_law10 29 rfl) lc_X8_truly (ok_X8_truly fu 0 (xs (i + 1)) (xs (i + 2)) (xs (i + 3)) hC _ e1).1 (ok_X8_truly fu 0 (xs (i + 1)) (xs (i + 2)) (xs (i + 3)) hC _ e1).2 (Nat.le_of_ble_eq_true rfl) rfl (by intro v hv; simp only [List.mem_cons, List.not_mem_nil, or_false] at hv; rcases hv with rfl | rfl | rfl <;> exact ⟨_, rfl⟩) rfl (Nat.le_of_ble_eq_true rfl) hl.1 hnC hPC hS hBC ⟨Nat.le_of_ble_eq_true rfl, Nat.le_of_ble_eq_true rfl⟩ (fun H locs hnC hPC hoC hS => ?_)
  have hPM := LW_keep hPM hoC (fun i hi z => by have := z.1; have := z.2; omega)
  refine lv_aload_n hx hb (TB.get tb_law10 30 rfl) rfl (lv_at hl 3 rfl) ?_
  refine lv_aload_n hx hb (TB.get tb_law10 31 rfl) rfl (lv_at hl 1 rfl) ?_
  refine lv_iload_n hx hb (TB.get tb_law10 32 rfl) rfl (lv_at hl 0 rfl) ?_
  refine lv_iconst (v := nI 1) hx hb (TB.get tb_law10 33 rfl) rfl ?_
  refine lv_iadd hx hb (TB.get tb_law10 34 rfl) ?_
  refine LW_sld hx hb hX hbl hbA hS (show i + 1 < L by omega) (by omega) (TB.get tb_law10 35 rfl) ?_
  refine lv_aload_n hx hb (TB.get tb_law10 36 rfl) rfl (lv_at hl 1 rfl) ?_
  refine lv_iload_n hx hb (TB.get tb_law10 37 rfl) rfl (lv_at hl 0 rfl) ?_
  refine lv_iconst (v := nI 2) hx hb (TB.get tb_law10 38 rfl) rfl ?_
  refine lv_iadd hx hb (TB.get tb_law10 39 rfl) ?_
  refine LW_sld hx hb hX hbl hbA hS (show i + 2 < L by omega) (by omega) (TB.get tb_law10 40 rfl) ?_
  refine lv_aload_n hx hb (TB.get tb_law10 41 rfl) rfl (lv_at hl 1 rfl) ?_
  refine lv_iload_n hx hb (TB.get tb_law10 42 rfl) rfl (lv_at hl 0 rfl) ?_
  refine lv_iconst (v := nI 3) hx hb (TB.get tb_law10 43 rfl) rfl ?_
  refine lv_iadd hx hb (TB.get tb_law10 44 rfl) ?_
  refine LW_sld hx hb hX hbl hbA hS (show i + 3 < L by omega) (by omega) (TB.get tb_law10 45 rfl) ?_
  refine LW_call (As := [.int (xs (i + 1)), .int (xs (i + 2)), .int (xs (i + 3))]) (rest := [.int r]) hx hb hml hown hts hK (TB.get tb_law10 46 rfl) lc_X9_truly (ok_X9_truly fu 0 (xs (i + 1)) (xs (i + 2)) (xs (i + 3)) hM _ e2).1 (ok_X9_truly fu 0 (xs (i + 1)) (xs (i + 2)) (xs (i + 3)) hM _ e2).2 (Nat.le_of_ble_eq_true rfl) rfl (by intro v hv; simp only [List.mem_cons, List.not_mem_nil, or_false] at hv; rcases hv with rfl | rfl | rfl <;> exact ⟨_, rfl⟩) rfl (Nat.le_of_ble_eq_true rfl) hl.1 hnM hPM hS (by omega) ⟨Nat.le_of_ble_eq_true rfl, Nat.le_of_ble_eq_true rfl⟩ (fun H locs hnM hPM hoM hS => ?_)
  have hPC := LW_keep hPC hoM (fun i hi z => by have := z.1; omega)
  refine lv_icmp_eq (tgt := 1058) hx hb (TB.get tb_law10 47 rfl) rfl (fun _ => ?_) (fun z => absurd rfl z)
  refine lv_iinc (v := nI (i + 6)) (lv' := [(3, .int (nI (i + 6))), (0, .ref b), (1, .ref BC), (2, .ref BM)]) hx hb (TB.get tb_law12 28 rfl) hl (k := 0) rfl (nI_add i 6) (by decide) rfl (fun ls hl => ?_)
  refine lv_goto (tgt := 18) hx hb (TB.get tb_law12 29 rfl) rfl ?_
  exact ih (i + 6) hC1 hM1 hI1 _ _ _ (by omega) (by omega) hnC hnM hPC hPM hS hl
set_option maxRecDepth 100000 in
set_option maxHeartbeats 4000000 in
theorem law_left {p : Program} {l : Launch} {e : Env} {s : State} {m : MethodId} {below : List Frame} {meth : Method} {c : Code} {b L : Nat} {xs : Nat → Int32} {D : va_G} {tc : Nat → ClassId} {BC BM : Nat} (hL : L ≤ 3072) (C0 : lw_At p s m meth c b L xs) (hK : va_K D vwCl (TY tc) s) (hBC : s.heap.size ≤ BC) (hBM : BC + 253 ≤ BM) {INV : Hp → Hp → Prop} {fu : Nat} (hO : OKS INV fu) {k i : Nat} (hC hM : Hp) (hI : INV hC hM) (H : Heap) (locs : List Loc) (ls : Array Slot) (hiL : i + 6 ≤ L) (hik : L < i + (k + 1)) (hnC : ∀ j, (hC.1 j).1 < 20 → j < 253) (hnM : ∀ j, (hM.1 j).1 < 20 → j < 26) (hPC : va_P D vwCl (WL tc BC 253 hC) H) (hPM : va_P D vwCl (WL tc BM 26 hM) H) (hS : va_S (fun q => s.heap.size ≤ q) s.heap H locs) (hl : lv_has ls 4 [(3, .int (nI i)), (0, .ref b), (1, .ref BC), (2, .ref BM)])
    (ih : ∀ (i : Nat) (hC hM : Hp), INV hC hM → ∀ (H : Heap) (locs : List Loc) (ls : Array Slot), L < i + k → i ≤ 3078 → (∀ j, (hC.1 j).1 < 20 → j < 253) → (∀ j, (hM.1 j).1 < 20 → j < 26) → va_P D vwCl (WL tc BC 253 hC) H → va_P D vwCl (WL tc BM 26 hM) H → va_S (fun q => s.heap.size ≤ q) s.heap H locs → lv_has ls 4 [(3, .int (nI i)), (0, .ref b), (1, .ref BC), (2, .ref BM)] → W p l e room_1 s m #[Value.ref b] below meth c H locs 279 15699 (lw_Z below #[Value.ref b] s) (F0 m 18 ls [])) : W p l e room_1 s m #[Value.ref b] below meth c H locs 279 15699 (lw_Z below #[Value.ref b] s) (F0 m 936 ls []) := by
  obtain ⟨hx, hb, hr, hml, hown, hts0, hX, hbl, hlk, hgv⟩ := id C0
  have hts : ∀ w ∈ GT, w.before #[Value.ref b] s = true := fun w hw => hts0 w (List.mem_filter.mp hw).1
  have hbA : ¬ (fun q : Nat => s.heap.size ≤ q) b := Nat.not_le.mpr hbl
  obtain ⟨r, hC1, hM1, e1, e2, hI1⟩ := hO.2.2.2.2.2.2.2.2.2.2.2.2.2.2.2.2.2.2.2.2.2.2.1 hC hM hI (xs (i + 1))
  refine lv_aload_n hx hb (TB.get tb_law10 50 rfl) rfl (lv_at hl 2 rfl) ?_
  refine lv_aload_n hx hb (TB.get tb_law10 51 rfl) rfl (lv_at hl 1 rfl) ?_
  refine lv_iload_n hx hb (TB.get tb_law10 52 rfl) rfl (lv_at hl 0 rfl) ?_
  refine lv_iconst (v := nI 1) hx hb (TB.get tb_law10 53 rfl) rfl ?_
  refine lv_iadd hx hb (TB.get tb_law10 54 rfl) ?_
  refine LW_sld hx hb hX hbl hbA hS (show i + 1 < L by omega) (by omega) (TB.get tb_law10 55 rfl) ?_
  refine LW_call (As := [.int (xs (i + 1))]) (rest := []) hx hb hml hown hts hK (TB.get tb_law10 56 rfl) lc_X8_left (ok_X8_left fu 0 (xs (i + 1)) hC _ e1).1 (ok_X8_left fu 0 (xs (i + 1)) hC _ e1).2 (Nat.le_of_ble_eq_true rfl) rfl (by intro v hv; simp only [List.mem_cons, List.not_mem_nil, or_false] at hv; rcases hv with rfl <;> exact ⟨_, rfl⟩) rfl (Nat.le_of_ble_eq_true rfl) hl.1 hnC hPC hS hBC ⟨Nat.le_of_ble_eq_true rfl, Nat.le_of_ble_eq_true rfl⟩ (fun H locs hnC hPC hoC hS => ?_)
  have hPM := LW_keep hPM hoC (fun i hi z => by have := z.1; have := z.2; omega)
  refine lv_aload_n hx hb (TB.get tb_law10 57 rfl) rfl (lv_at hl 3 rfl) ?_
  refine lv_aload_n hx hb (TB.get tb_law10 58 rfl) rfl (lv_at hl 1 rfl) ?_
  refine lv_iload_n hx hb (TB.get tb_law10 59 rfl) rfl (lv_at hl 0 rfl) ?_
  refine lv_iconst (v := nI 1) hx hb (TB.get tb_law11 0 rfl) rfl ?_
  refine lv_iadd hx hb (TB.get tb_law11 1 rfl) ?_
  refine LW_sld hx hb hX hbl hbA hS (show i + 1 < L by omega) (by omega) (TB.get tb_law11 2 rfl) ?_
  refine LW_call (As := [.int (xs (i + 1))]) (rest := [.int r]) hx hb hml hown hts hK (TB.get tb_law11 3 rfl) lc_X9_left (ok_X9_left fu 0 (xs (i + 1)) hM _ e2).1 (ok_X9_left fu 0 (xs (i + 1)) hM _ e2).2 (Nat.le_of_ble_eq_true rfl) rfl (by intro v hv; simp only [List.mem_cons, List.not_mem_nil, or_false] at hv; rcases hv with rfl <;> exact ⟨_, rfl⟩) rfl (Nat.le_of_ble_eq_true rfl) hl.1 hnM hPM hS (by omega) ⟨Nat.le_of_ble_eq_true rfl, Nat.le_of_ble_eq_true rfl⟩ (fun H locs hnM hPM hoM hS => ?_)
  have hPC := LW_keep hPC hoM (fun i hi z => by have := z.1; omega)
  refine lv_icmp_eq (tgt := 1058) hx hb (TB.get tb_law11 4 rfl) rfl (fun _ => ?_) (fun z => absurd rfl z)
  refine lv_iinc (v := nI (i + 6)) (lv' := [(3, .int (nI (i + 6))), (0, .ref b), (1, .ref BC), (2, .ref BM)]) hx hb (TB.get tb_law12 28 rfl) hl (k := 0) rfl (nI_add i 6) (by decide) rfl (fun ls hl => ?_)
  refine lv_goto (tgt := 18) hx hb (TB.get tb_law12 29 rfl) rfl ?_
  exact ih (i + 6) hC1 hM1 hI1 _ _ _ (by omega) (by omega) hnC hnM hPC hPM hS hl
set_option maxRecDepth 100000 in
set_option maxHeartbeats 4000000 in
theorem law_never {p : Program} {l : Launch} {e : Env} {s : State} {m : MethodId} {below : List Frame} {meth : Method} {c : Code} {b L : Nat} {xs : Nat → Int32} {D : va_G} {tc : Nat → ClassId} {BC BM : Nat} (hL : L ≤ 3072) (C0 : lw_At p s m meth c b L xs) (hK : va_K D vwCl (TY tc) s) (hBC : s.heap.size ≤ BC) (hBM : BC + 253 ≤ BM) {INV : Hp → Hp → Prop} {fu : Nat} (hO : OKS INV fu) {k i : Nat} (hC hM : Hp) (hI : INV hC hM) (H : Heap) (locs : List Loc) (ls : Array Slot) (hiL : i + 6 ≤ L) (hik : L < i + (k + 1)) (hnC : ∀ j, (hC.1 j).1 < 20 → j < 253) (hnM : ∀ j, (hM.1 j).1 < 20 → j < 26) (hPC : va_P D vwCl (WL tc BC 253 hC) H) (hPM : va_P D vwCl (WL tc BM 26 hM) H) (hS : va_S (fun q => s.heap.size ≤ q) s.heap H locs) (hl : lv_has ls 4 [(3, .int (nI i)), (0, .ref b), (1, .ref BC), (2, .ref BM)])
    (ih : ∀ (i : Nat) (hC hM : Hp), INV hC hM → ∀ (H : Heap) (locs : List Loc) (ls : Array Slot), L < i + k → i ≤ 3078 → (∀ j, (hC.1 j).1 < 20 → j < 253) → (∀ j, (hM.1 j).1 < 20 → j < 26) → va_P D vwCl (WL tc BC 253 hC) H → va_P D vwCl (WL tc BM 26 hM) H → va_S (fun q => s.heap.size ≤ q) s.heap H locs → lv_has ls 4 [(3, .int (nI i)), (0, .ref b), (1, .ref BC), (2, .ref BM)] → W p l e room_1 s m #[Value.ref b] below meth c H locs 279 15699 (lw_Z below #[Value.ref b] s) (F0 m 18 ls [])) : W p l e room_1 s m #[Value.ref b] below meth c H locs 279 15699 (lw_Z below #[Value.ref b] s) (F0 m 959 ls []) := by
  obtain ⟨hx, hb, hr, hml, hown, hts0, hX, hbl, hlk, hgv⟩ := id C0
  have hts : ∀ w ∈ GT, w.before #[Value.ref b] s = true := fun w hw => hts0 w (List.mem_filter.mp hw).1
  have hbA : ¬ (fun q : Nat => s.heap.size ≤ q) b := Nat.not_le.mpr hbl
  obtain ⟨r, hC1, hM1, e1, e2, hI1⟩ := hO.2.2.2.2.2.2.2.2.2.2.2.2.2.2.2.2.2.2.2.2.2.2.2.1 hC hM hI (xs (i + 1))
  refine lv_aload_n hx hb (TB.get tb_law11 7 rfl) rfl (lv_at hl 2 rfl) ?_
  refine lv_aload_n hx hb (TB.get tb_law11 8 rfl) rfl (lv_at hl 1 rfl) ?_
  refine lv_iload_n hx hb (TB.get tb_law11 9 rfl) rfl (lv_at hl 0 rfl) ?_
  refine lv_iconst (v := nI 1) hx hb (TB.get tb_law11 10 rfl) rfl ?_
  refine lv_iadd hx hb (TB.get tb_law11 11 rfl) ?_
  refine LW_sld hx hb hX hbl hbA hS (show i + 1 < L by omega) (by omega) (TB.get tb_law11 12 rfl) ?_
  refine LW_call (As := [.int (xs (i + 1))]) (rest := []) hx hb hml hown hts hK (TB.get tb_law11 13 rfl) lc_X8_never (ok_X8_never fu 0 (xs (i + 1)) hC _ e1).1 (ok_X8_never fu 0 (xs (i + 1)) hC _ e1).2 (Nat.le_of_ble_eq_true rfl) rfl (by intro v hv; simp only [List.mem_cons, List.not_mem_nil, or_false] at hv; rcases hv with rfl <;> exact ⟨_, rfl⟩) rfl (Nat.le_of_ble_eq_true rfl) hl.1 hnC hPC hS hBC ⟨Nat.le_of_ble_eq_true rfl, Nat.le_of_ble_eq_true rfl⟩ (fun H locs hnC hPC hoC hS => ?_)
  have hPM := LW_keep hPM hoC (fun i hi z => by have := z.1; have := z.2; omega)
  refine lv_aload_n hx hb (TB.get tb_law11 14 rfl) rfl (lv_at hl 3 rfl) ?_
  refine lv_aload_n hx hb (TB.get tb_law11 15 rfl) rfl (lv_at hl 1 rfl) ?_
  refine lv_iload_n hx hb (TB.get tb_law11 16 rfl) rfl (lv_at hl 0 rfl) ?_
  refine lv_iconst (v := nI 1) hx hb (TB.get tb_law11 17 rfl) rfl ?_
  refine lv_iadd hx hb (TB.get tb_law11 18 rfl) ?_
  refine LW_sld hx hb hX hbl hbA hS (show i + 1 < L by omega) (by omega) (TB.get tb_law11 19 rfl) ?_
  refine LW_call (As := [.int (xs (i + 1))]) (rest := [.int r]) hx hb hml hown hts hK (TB.get tb_law11 20 rfl) lc_X9_never (ok_X9_never fu 0 (xs (i + 1)) hM _ e2).1 (ok_X9_never fu 0 (xs (i + 1)) hM _ e2).2 (Nat.le_of_ble_eq_true rfl) rfl (by intro v hv; simp only [List.mem_cons, List.not_mem_nil, or_false] at hv; rcases hv with rfl <;> exact ⟨_, rfl⟩) rfl (Nat.le_of_ble_eq_true rfl) hl.1 hnM hPM hS (by omega) ⟨Nat.le_of_ble_eq_true rfl, Nat.le_of_ble_eq_true rfl⟩ (fun H locs hnM hPM hoM hS => ?_)
  have hPC := LW_keep hPC hoM (fun i hi z => by have := z.1; omega)
  refine lv_icmp_eq (tgt := 1058) hx hb (TB.get tb_law11 21 rfl) rfl (fun _ => ?_) (fun z => absurd rfl z)
  refine lv_iinc (v := nI (i + 6)) (lv' := [(3, .int (nI (i + 6))), (0, .ref b), (1, .ref BC), (2, .ref BM)]) hx hb (TB.get tb_law12 28 rfl) hl (k := 0) rfl (nI_add i 6) (by decide) rfl (fun ls hl => ?_)
  refine lv_goto (tgt := 18) hx hb (TB.get tb_law12 29 rfl) rfl ?_
  exact ih (i + 6) hC1 hM1 hI1 _ _ _ (by omega) (by omega) hnC hnM hPC hPM hS hl
set_option maxRecDepth 100000 in
set_option maxHeartbeats 4000000 in
theorem law_run {p : Program} {l : Launch} {e : Env} {s : State} {m : MethodId} {below : List Frame} {meth : Method} {c : Code} {b L : Nat} {xs : Nat → Int32} {D : va_G} {tc : Nat → ClassId} {BC BM : Nat} (hL : L ≤ 3072) (C0 : lw_At p s m meth c b L xs) (hK : va_K D vwCl (TY tc) s) (hBC : s.heap.size ≤ BC) (hBM : BC + 253 ≤ BM) {INV : Hp → Hp → Prop} {fu : Nat} (hO : OKS INV fu) {k i : Nat} (hC hM : Hp) (hI : INV hC hM) (H : Heap) (locs : List Loc) (ls : Array Slot) (hiL : i + 6 ≤ L) (hik : L < i + (k + 1)) (hnC : ∀ j, (hC.1 j).1 < 20 → j < 253) (hnM : ∀ j, (hM.1 j).1 < 20 → j < 26) (hPC : va_P D vwCl (WL tc BC 253 hC) H) (hPM : va_P D vwCl (WL tc BM 26 hM) H) (hS : va_S (fun q => s.heap.size ≤ q) s.heap H locs) (hl : lv_has ls 4 [(3, .int (nI i)), (0, .ref b), (1, .ref BC), (2, .ref BM)])
    (ih : ∀ (i : Nat) (hC hM : Hp), INV hC hM → ∀ (H : Heap) (locs : List Loc) (ls : Array Slot), L < i + k → i ≤ 3078 → (∀ j, (hC.1 j).1 < 20 → j < 253) → (∀ j, (hM.1 j).1 < 20 → j < 26) → va_P D vwCl (WL tc BC 253 hC) H → va_P D vwCl (WL tc BM 26 hM) H → va_S (fun q => s.heap.size ≤ q) s.heap H locs → lv_has ls 4 [(3, .int (nI i)), (0, .ref b), (1, .ref BC), (2, .ref BM)] → W p l e room_1 s m #[Value.ref b] below meth c H locs 279 15699 (lw_Z below #[Value.ref b] s) (F0 m 18 ls [])) : W p l e room_1 s m #[Value.ref b] below meth c H locs 279 15699 (lw_Z below #[Value.ref b] s) (F0 m 982 ls []) := by
  obtain ⟨hx, hb, hr, hml, hown, hts0, hX, hbl, hlk, hgv⟩ := id C0
  have hts : ∀ w ∈ GT, w.before #[Value.ref b] s = true := fun w hw => hts0 w (List.mem_filter.mp hw).1
  have hbA : ¬ (fun q : Nat => s.heap.size ≤ q) b := Nat.not_le.mpr hbl
  obtain ⟨r, hC1, hM1, e1, e2, hI1⟩ := hO.2.2.2.2.2.2.2.2.2.2.2.2.2.2.2.2.2.2.2.2.2.2.2.2.1 hC hM hI (xs (i + 1)) (xs (i + 2))
  refine lv_aload_n hx hb (TB.get tb_law11 24 rfl) rfl (lv_at hl 2 rfl) ?_
  refine lv_aload_n hx hb (TB.get tb_law11 25 rfl) rfl (lv_at hl 1 rfl) ?_
  refine lv_iload_n hx hb (TB.get tb_law11 26 rfl) rfl (lv_at hl 0 rfl) ?_
  refine lv_iconst (v := nI 1) hx hb (TB.get tb_law11 27 rfl) rfl ?_
  refine lv_iadd hx hb (TB.get tb_law11 28 rfl) ?_
  refine LW_sld hx hb hX hbl hbA hS (show i + 1 < L by omega) (by omega) (TB.get tb_law11 29 rfl) ?_
  refine lv_aload_n hx hb (TB.get tb_law11 30 rfl) rfl (lv_at hl 1 rfl) ?_
  refine lv_iload_n hx hb (TB.get tb_law11 31 rfl) rfl (lv_at hl 0 rfl) ?_
  refine lv_iconst (v := nI 2) hx hb (TB.get tb_law11 32 rfl) rfl ?_
  refine lv_iadd hx hb (TB.get tb_law11 33 rfl) ?_
  refine LW_sld hx hb hX hbl hbA hS (show i + 2 < L by omega) (by omega) (TB.get tb_law11 34 rfl) ?_
  refine LW_call (As := [.int (xs (i + 1)), .int (xs (i + 2))]) (rest := []) hx hb hml hown hts hK (TB.get tb_law11 35 rfl) lc_X8_run (ok_X8_run fu 0 (xs (i + 1)) (xs (i + 2)) hC _ e1).1 (ok_X8_run fu 0 (xs (i + 1)) (xs (i + 2)) hC _ e1).2 (Nat.le_of_ble_eq_true rfl) rfl (by intro v hv; simp only [List.mem_cons, List.not_mem_nil, or_false] at hv; rcases hv with rfl | rfl <;> exact ⟨_, rfl⟩) rfl (Nat.le_of_ble_eq_true rfl) hl.1 hnC hPC hS hBC ⟨Nat.le_of_ble_eq_true rfl, Nat.le_of_ble_eq_true rfl⟩ (fun H locs hnC hPC hoC hS => ?_)
  have hPM := LW_keep hPM hoC (fun i hi z => by have := z.1; have := z.2; omega)
  refine lv_aload_n hx hb (TB.get tb_law11 36 rfl) rfl (lv_at hl 3 rfl) ?_
  refine lv_aload_n hx hb (TB.get tb_law11 37 rfl) rfl (lv_at hl 1 rfl) ?_
  refine lv_iload_n hx hb (TB.get tb_law11 38 rfl) rfl (lv_at hl 0 rfl) ?_
  refine lv_iconst (v := nI 1) hx hb (TB.get tb_law11 39 rfl) rfl ?_
  refine lv_iadd hx hb (TB.get tb_law11 40 rfl) ?_
  refine LW_sld hx hb hX hbl hbA hS (show i + 1 < L by omega) (by omega) (TB.get tb_law11 41 rfl) ?_
  refine lv_aload_n hx hb (TB.get tb_law11 42 rfl) rfl (lv_at hl 1 rfl) ?_
  refine lv_iload_n hx hb (TB.get tb_law11 43 rfl) rfl (lv_at hl 0 rfl) ?_
  refine lv_iconst (v := nI 2) hx hb (TB.get tb_law11 44 rfl) rfl ?_
  refine lv_iadd hx hb (TB.get tb_law11 45 rfl) ?_
  refine LW_sld hx hb hX hbl hbA hS (show i + 2 < L by omega) (by omega) (TB.get tb_law11 46 rfl) ?_
  refine LW_call (As := [.int (xs (i + 1)), .int (xs (i + 2))]) (rest := [.int r]) hx hb hml hown hts hK (TB.get tb_law11 47 rfl) lc_X9_run (ok_X9_run fu 0 (xs (i + 1)) (xs (i + 2)) hM _ e2).1 (ok_X9_run fu 0 (xs (i + 1)) (xs (i + 2)) hM _ e2).2 (Nat.le_of_ble_eq_true rfl) rfl (by intro v hv; simp only [List.mem_cons, List.not_mem_nil, or_false] at hv; rcases hv with rfl | rfl <;> exact ⟨_, rfl⟩) rfl (Nat.le_of_ble_eq_true rfl) hl.1 hnM hPM hS (by omega) ⟨Nat.le_of_ble_eq_true rfl, Nat.le_of_ble_eq_true rfl⟩ (fun H locs hnM hPM hoM hS => ?_)
  have hPC := LW_keep hPC hoM (fun i hi z => by have := z.1; omega)
  refine lv_icmp_eq (tgt := 1058) hx hb (TB.get tb_law11 48 rfl) rfl (fun _ => ?_) (fun z => absurd rfl z)
  refine lv_iinc (v := nI (i + 6)) (lv' := [(3, .int (nI (i + 6))), (0, .ref b), (1, .ref BC), (2, .ref BM)]) hx hb (TB.get tb_law12 28 rfl) hl (k := 0) rfl (nI_add i 6) (by decide) rfl (fun ls hl => ?_)
  refine lv_goto (tgt := 18) hx hb (TB.get tb_law12 29 rfl) rfl ?_
  exact ih (i + 6) hC1 hM1 hI1 _ _ _ (by omega) (by omega) hnC hnM hPC hPM hS hl
set_option maxRecDepth 100000 in
set_option maxHeartbeats 4000000 in
theorem law_runs {p : Program} {l : Launch} {e : Env} {s : State} {m : MethodId} {below : List Frame} {meth : Method} {c : Code} {b L : Nat} {xs : Nat → Int32} {D : va_G} {tc : Nat → ClassId} {BC BM : Nat} (hL : L ≤ 3072) (C0 : lw_At p s m meth c b L xs) (hK : va_K D vwCl (TY tc) s) (hBC : s.heap.size ≤ BC) (hBM : BC + 253 ≤ BM) {INV : Hp → Hp → Prop} {fu : Nat} (hO : OKS INV fu) {k i : Nat} (hC hM : Hp) (hI : INV hC hM) (H : Heap) (locs : List Loc) (ls : Array Slot) (hiL : i + 6 ≤ L) (hik : L < i + (k + 1)) (hnC : ∀ j, (hC.1 j).1 < 20 → j < 253) (hnM : ∀ j, (hM.1 j).1 < 20 → j < 26) (hPC : va_P D vwCl (WL tc BC 253 hC) H) (hPM : va_P D vwCl (WL tc BM 26 hM) H) (hS : va_S (fun q => s.heap.size ≤ q) s.heap H locs) (hl : lv_has ls 4 [(3, .int (nI i)), (0, .ref b), (1, .ref BC), (2, .ref BM)])
    (ih : ∀ (i : Nat) (hC hM : Hp), INV hC hM → ∀ (H : Heap) (locs : List Loc) (ls : Array Slot), L < i + k → i ≤ 3078 → (∀ j, (hC.1 j).1 < 20 → j < 253) → (∀ j, (hM.1 j).1 < 20 → j < 26) → va_P D vwCl (WL tc BC 253 hC) H → va_P D vwCl (WL tc BM 26 hM) H → va_S (fun q => s.heap.size ≤ q) s.heap H locs → lv_has ls 4 [(3, .int (nI i)), (0, .ref b), (1, .ref BC), (2, .ref BM)] → W p l e room_1 s m #[Value.ref b] below meth c H locs 279 15699 (lw_Z below #[Value.ref b] s) (F0 m 18 ls [])) : W p l e room_1 s m #[Value.ref b] below meth c H locs 279 15699 (lw_Z below #[Value.ref b] s) (F0 m 1015 ls []) := by
  obtain ⟨hx, hb, hr, hml, hown, hts0, hX, hbl, hlk, hgv⟩ := id C0
  have hts : ∀ w ∈ GT, w.before #[Value.ref b] s = true := fun w hw => hts0 w (List.mem_filter.mp hw).1
  have hbA : ¬ (fun q : Nat => s.heap.size ≤ q) b := Nat.not_le.mpr hbl
  obtain ⟨r, hC1, hM1, e1, e2, hI1⟩ := hO.2.2.2.2.2.2.2.2.2.2.2.2.2.2.2.2.2.2.2.2.2.2.2.2.2 hC hM hI (xs (i + 1)) (xs (i + 2)) (xs (i + 3))
  refine lv_aload_n hx hb (TB.get tb_law11 51 rfl) rfl (lv_at hl 2 rfl) ?_
  refine lv_aload_n hx hb (TB.get tb_law11 52 rfl) rfl (lv_at hl 1 rfl) ?_
  refine lv_iload_n hx hb (TB.get tb_law11 53 rfl) rfl (lv_at hl 0 rfl) ?_
  refine lv_iconst (v := nI 1) hx hb (TB.get tb_law11 54 rfl) rfl ?_
  refine lv_iadd hx hb (TB.get tb_law11 55 rfl) ?_
  refine LW_sld hx hb hX hbl hbA hS (show i + 1 < L by omega) (by omega) (TB.get tb_law11 56 rfl) ?_
  refine lv_aload_n hx hb (TB.get tb_law11 57 rfl) rfl (lv_at hl 1 rfl) ?_
  refine lv_iload_n hx hb (TB.get tb_law11 58 rfl) rfl (lv_at hl 0 rfl) ?_
  refine lv_iconst (v := nI 2) hx hb (TB.get tb_law11 59 rfl) rfl ?_
  refine lv_iadd hx hb (TB.get tb_law12 0 rfl) ?_
  refine LW_sld hx hb hX hbl hbA hS (show i + 2 < L by omega) (by omega) (TB.get tb_law12 1 rfl) ?_
  refine lv_aload_n hx hb (TB.get tb_law12 2 rfl) rfl (lv_at hl 1 rfl) ?_
  refine lv_iload_n hx hb (TB.get tb_law12 3 rfl) rfl (lv_at hl 0 rfl) ?_
  refine lv_iconst (v := nI 3) hx hb (TB.get tb_law12 4 rfl) rfl ?_
  refine lv_iadd hx hb (TB.get tb_law12 5 rfl) ?_
  refine LW_sld hx hb hX hbl hbA hS (show i + 3 < L by omega) (by omega) (TB.get tb_law12 6 rfl) ?_
  refine LW_call (As := [.int (xs (i + 1)), .int (xs (i + 2)), .int (xs (i + 3))]) (rest := []) hx hb hml hown hts hK (TB.get tb_law12 7 rfl) lc_X8_runs (ok_X8_runs fu 0 (xs (i + 1)) (xs (i + 2)) (xs (i + 3)) hC _ e1).1 (ok_X8_runs fu 0 (xs (i + 1)) (xs (i + 2)) (xs (i + 3)) hC _ e1).2 (Nat.le_of_ble_eq_true rfl) rfl (by intro v hv; simp only [List.mem_cons, List.not_mem_nil, or_false] at hv; rcases hv with rfl | rfl | rfl <;> exact ⟨_, rfl⟩) rfl (Nat.le_of_ble_eq_true rfl) hl.1 hnC hPC hS hBC ⟨Nat.le_of_ble_eq_true rfl, Nat.le_of_ble_eq_true rfl⟩ (fun H locs hnC hPC hoC hS => ?_)
  have hPM := LW_keep hPM hoC (fun i hi z => by have := z.1; have := z.2; omega)
  refine lv_aload_n hx hb (TB.get tb_law12 8 rfl) rfl (lv_at hl 3 rfl) ?_
  refine lv_aload_n hx hb (TB.get tb_law12 9 rfl) rfl (lv_at hl 1 rfl) ?_
  refine lv_iload_n hx hb (TB.get tb_law12 10 rfl) rfl (lv_at hl 0 rfl) ?_
  refine lv_iconst (v := nI 1) hx hb (TB.get tb_law12 11 rfl) rfl ?_
  refine lv_iadd hx hb (TB.get tb_law12 12 rfl) ?_
  refine LW_sld hx hb hX hbl hbA hS (show i + 1 < L by omega) (by omega) (TB.get tb_law12 13 rfl) ?_
  refine lv_aload_n hx hb (TB.get tb_law12 14 rfl) rfl (lv_at hl 1 rfl) ?_
  refine lv_iload_n hx hb (TB.get tb_law12 15 rfl) rfl (lv_at hl 0 rfl) ?_
  refine lv_iconst (v := nI 2) hx hb (TB.get tb_law12 16 rfl) rfl ?_
  refine lv_iadd hx hb (TB.get tb_law12 17 rfl) ?_
  refine LW_sld hx hb hX hbl hbA hS (show i + 2 < L by omega) (by omega) (TB.get tb_law12 18 rfl) ?_
  refine lv_aload_n hx hb (TB.get tb_law12 19 rfl) rfl (lv_at hl 1 rfl) ?_
  refine lv_iload_n hx hb (TB.get tb_law12 20 rfl) rfl (lv_at hl 0 rfl) ?_
  refine lv_iconst (v := nI 3) hx hb (TB.get tb_law12 21 rfl) rfl ?_
  refine lv_iadd hx hb (TB.get tb_law12 22 rfl) ?_
  refine LW_sld hx hb hX hbl hbA hS (show i + 3 < L by omega) (by omega) (TB.get tb_law12 23 rfl) ?_
  refine LW_call (As := [.int (xs (i + 1)), .int (xs (i + 2)), .int (xs (i + 3))]) (rest := [.int r]) hx hb hml hown hts hK (TB.get tb_law12 24 rfl) lc_X9_runs (ok_X9_runs fu 0 (xs (i + 1)) (xs (i + 2)) (xs (i + 3)) hM _ e2).1 (ok_X9_runs fu 0 (xs (i + 1)) (xs (i + 2)) (xs (i + 3)) hM _ e2).2 (Nat.le_of_ble_eq_true rfl) rfl (by intro v hv; simp only [List.mem_cons, List.not_mem_nil, or_false] at hv; rcases hv with rfl | rfl | rfl <;> exact ⟨_, rfl⟩) rfl (Nat.le_of_ble_eq_true rfl) hl.1 hnM hPM hS (by omega) ⟨Nat.le_of_ble_eq_true rfl, Nat.le_of_ble_eq_true rfl⟩ (fun H locs hnM hPM hoM hS => ?_)
  have hPC := LW_keep hPC hoM (fun i hi z => by have := z.1; omega)
  refine lv_icmp_eq (tgt := 1058) hx hb (TB.get tb_law12 25 rfl) rfl (fun _ => ?_) (fun z => absurd rfl z)
  refine lv_iinc (v := nI (i + 6)) (lv' := [(3, .int (nI (i + 6))), (0, .ref b), (1, .ref BC), (2, .ref BM)]) hx hb (TB.get tb_law12 28 rfl) hl (k := 0) rfl (nI_add i 6) (by decide) rfl (fun ls hl => ?_)
  refine lv_goto (tgt := 18) hx hb (TB.get tb_law12 29 rfl) rfl ?_
  exact ih (i + 6) hC1 hM1 hI1 _ _ _ (by omega) (by omega) hnC hnM hPC hPM hS hl
end LawCases
