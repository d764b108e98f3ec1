/-! THE CODE of the methods, by wip/gen.py. Methods by number: -/
-- 0 IndexedCompilerLaw.law([I)Z
def tb_d0_0 : List (Nat × Instr) := [(0, .new 8), (3, .dup), (4, .invokespecial 60), (7, .astore_n 1), (8, .new 61), (11, .dup), (12, .invokespecial 63), (15, .astore_n 2), (16, .iconst 1), (17, .newarray .long), (19, .astore_n 3), (20, .iconst 0)]
set_option maxRecDepth 20000 in
theorem tb_e0_0 : ∀ q ∈ tb_d0_0, decode code q.1 = .ok (q.2, mm_ln q.2) := by decide +kernel
def tb_d0_1 : List (Nat × Instr) := [(21, .istore 4), (23, .iload 4), (25, .aload_n 0), (26, .arraylength), (27, .bipush 6), (29, .isub), (30, .if_icmp .gt 1170), (33, .aload_n 0), (34, .iload 4), (36, .iaload), (37, .bipush 31), (39, .iand)]
set_option maxRecDepth 20000 in
theorem tb_e0_1 : ∀ q ∈ tb_d0_1, decode code q.1 = .ok (q.2, mm_ln q.2) := by decide +kernel
def tb_d0_2 : List (Nat × Instr) := [(136, .aload_n 1), (137, .aload_n 0), (138, .iload 4), (140, .iconst 1), (141, .iadd), (142, .iaload), (143, .aload_n 0), (144, .iload 4), (146, .iconst 2), (147, .iadd), (148, .iaload), (149, .aload_n 0)]
set_option maxRecDepth 20000 in
theorem tb_e0_2 : ∀ q ∈ tb_d0_2, decode code q.1 = .ok (q.2, mm_ln q.2) := by decide +kernel
def tb_d0_3 : List (Nat × Instr) := [(150, .iload 4), (152, .iconst 3), (153, .iadd), (154, .iaload), (155, .aload_n 0), (156, .iload 4), (158, .iconst 4), (159, .iadd), (160, .iaload), (161, .aload_n 0), (162, .iload 4), (164, .iconst 5)]
set_option maxRecDepth 20000 in
theorem tb_e0_3 : ∀ q ∈ tb_d0_3, decode code q.1 = .ok (q.2, mm_ln q.2) := by decide +kernel
def tb_d0_4 : List (Nat × Instr) := [(165, .iadd), (166, .iaload), (167, .aload_n 3), (168, .invokestatic 64), (171, .istore 5), (173, .aload_n 2), (174, .aload_n 0), (175, .iload 4), (177, .iconst 1), (178, .iadd), (179, .iaload), (180, .aload_n 0)]
set_option maxRecDepth 20000 in
theorem tb_e0_4 : ∀ q ∈ tb_d0_4, decode code q.1 = .ok (q.2, mm_ln q.2) := by decide +kernel
def tb_d0_5 : List (Nat × Instr) := [(181, .iload 4), (183, .iconst 2), (184, .iadd), (185, .iaload), (186, .aload_n 0), (187, .iload 4), (189, .iconst 3), (190, .iadd), (191, .iaload), (192, .aload_n 0), (193, .iload 4), (195, .iconst 4)]
set_option maxRecDepth 20000 in
theorem tb_e0_5 : ∀ q ∈ tb_d0_5, decode code q.1 = .ok (q.2, mm_ln q.2) := by decide +kernel
def tb_d0_6 : List (Nat × Instr) := [(196, .iadd), (197, .iaload), (198, .aload_n 0), (199, .iload 4), (201, .iconst 5), (202, .iadd), (203, .iaload), (204, .invokevirtual 69), (207, .istore 6), (209, .aload_n 2), (210, .invokevirtual 70), (213, .iload 5)]
set_option maxRecDepth 20000 in
theorem tb_e0_6 : ∀ q ∈ tb_d0_6, decode code q.1 = .ok (q.2, mm_ln q.2) := by decide +kernel
def tb_d0_7 : List (Nat × Instr) := [(215, .if_icmp .eq 5), (218, .iconst 0), (219, .ireturn), (220, .iload 5), (222, .ifCond .ne 15), (225, .aload_n 3), (226, .iconst 0), (227, .laload), (228, .iload 6), (230, .i2l), (231, .lcmp), (232, .ifCond .eq 5)]
set_option maxRecDepth 20000 in
theorem tb_e0_7 : ∀ q ∈ tb_d0_7, decode code q.1 = .ok (q.2, mm_ln q.2) := by decide +kernel
def tb_d0_8 : List (Nat × Instr) := [(235, .iconst 0), (236, .ireturn), (237, .goto 957), (240, .aload_n 1), (241, .invokevirtual 74), (244, .aload_n 2), (245, .invokevirtual 77), (248, .if_icmp .eq 946), (251, .iconst 0), (252, .ireturn), (253, .aload_n 1), (254, .invokevirtual 78)]
set_option maxRecDepth 20000 in
theorem tb_e0_8 : ∀ q ∈ tb_d0_8, decode code q.1 = .ok (q.2, mm_ln q.2) := by decide +kernel
def tb_d0_9 : List (Nat × Instr) := [(257, .aload_n 2), (258, .invokevirtual 81), (261, .if_icmp .eq 933), (264, .iconst 0), (265, .ireturn), (266, .aload_n 1), (267, .invokevirtual 82), (270, .aload_n 2), (271, .invokevirtual 85), (274, .if_icmp .eq 920), (277, .iconst 0), (278, .ireturn)]
set_option maxRecDepth 20000 in
theorem tb_e0_9 : ∀ q ∈ tb_d0_9, decode code q.1 = .ok (q.2, mm_ln q.2) := by decide +kernel
def tb_d0_10 : List (Nat × Instr) := [(279, .aload_n 1), (280, .invokevirtual 86), (283, .aload_n 2), (284, .invokevirtual 89), (287, .if_icmp .eq 907), (290, .iconst 0), (291, .ireturn), (292, .aload_n 1), (293, .invokevirtual 90), (296, .aload_n 2), (297, .invokevirtual 93), (300, .if_icmp .eq 894)]
set_option maxRecDepth 20000 in
theorem tb_e0_10 : ∀ q ∈ tb_d0_10, decode code q.1 = .ok (q.2, mm_ln q.2) := by decide +kernel
def tb_d0_11 : List (Nat × Instr) := [(303, .iconst 0), (304, .ireturn), (305, .aload_n 1), (306, .aload_n 0), (307, .iload 4), (309, .iconst 1), (310, .iadd), (311, .iaload), (312, .aload_n 3), (313, .invokestatic 94), (316, .istore 5), (318, .aload_n 2)]
set_option maxRecDepth 20000 in
theorem tb_e0_11 : ∀ q ∈ tb_d0_11, decode code q.1 = .ok (q.2, mm_ln q.2) := by decide +kernel
def tb_d0_12 : List (Nat × Instr) := [(319, .aload_n 0), (320, .iload 4), (322, .iconst 1), (323, .iadd), (324, .iaload), (325, .invokevirtual 97), (328, .istore 6), (330, .aload_n 2), (331, .invokevirtual 70), (334, .iload 5), (336, .if_icmp .eq 5), (339, .iconst 0)]
set_option maxRecDepth 20000 in
theorem tb_e0_12 : ∀ q ∈ tb_d0_12, decode code q.1 = .ok (q.2, mm_ln q.2) := by decide +kernel
def tb_d0_13 : List (Nat × Instr) := [(340, .ireturn), (341, .iload 5), (343, .ifCond .ne 15), (346, .aload_n 3), (347, .iconst 0), (348, .laload), (349, .iload 6), (351, .i2l), (352, .lcmp), (353, .ifCond .eq 5), (356, .iconst 0), (357, .ireturn)]
set_option maxRecDepth 20000 in
theorem tb_e0_13 : ∀ q ∈ tb_d0_13, decode code q.1 = .ok (q.2, mm_ln q.2) := by decide +kernel
def tb_d0_14 : List (Nat × Instr) := [(358, .goto 836), (361, .aload_n 1), (362, .aload_n 0), (363, .iload 4), (365, .iconst 1), (366, .iadd), (367, .iaload), (368, .aload_n 0), (369, .iload 4), (371, .iconst 2), (372, .iadd), (373, .iaload)]
set_option maxRecDepth 20000 in
theorem tb_e0_14 : ∀ q ∈ tb_d0_14, decode code q.1 = .ok (q.2, mm_ln q.2) := by decide +kernel
def tb_d0_15 : List (Nat × Instr) := [(374, .aload_n 3), (375, .invokestatic 98), (378, .istore 5), (380, .aload_n 2), (381, .aload_n 0), (382, .iload 4), (384, .iconst 1), (385, .iadd), (386, .iaload), (387, .aload_n 0), (388, .iload 4), (390, .iconst 2)]
set_option maxRecDepth 20000 in
theorem tb_e0_15 : ∀ q ∈ tb_d0_15, decode code q.1 = .ok (q.2, mm_ln q.2) := by decide +kernel
def tb_d0_16 : List (Nat × Instr) := [(391, .iadd), (392, .iaload), (393, .invokevirtual 101), (396, .istore 6), (398, .aload_n 2), (399, .invokevirtual 70), (402, .iload 5), (404, .if_icmp .eq 5), (407, .iconst 0), (408, .ireturn), (409, .iload 5), (411, .ifCond .ne 15)]
set_option maxRecDepth 20000 in
theorem tb_e0_16 : ∀ q ∈ tb_d0_16, decode code q.1 = .ok (q.2, mm_ln q.2) := by decide +kernel
def tb_d0_17 : List (Nat × Instr) := [(414, .aload_n 3), (415, .iconst 0), (416, .laload), (417, .iload 6), (419, .i2l), (420, .lcmp), (421, .ifCond .eq 5), (424, .iconst 0), (425, .ireturn), (426, .goto 768), (429, .aload_n 1), (430, .aload_n 0)]
set_option maxRecDepth 20000 in
theorem tb_e0_17 : ∀ q ∈ tb_d0_17, decode code q.1 = .ok (q.2, mm_ln q.2) := by decide +kernel
def tb_d0_18 : List (Nat × Instr) := [(431, .iload 4), (433, .iconst 1), (434, .iadd), (435, .iaload), (436, .aload_n 0), (437, .iload 4), (439, .iconst 2), (440, .iadd), (441, .iaload), (442, .aload_n 0), (443, .iload 4), (445, .iconst 3)]
set_option maxRecDepth 20000 in
theorem tb_e0_18 : ∀ q ∈ tb_d0_18, decode code q.1 = .ok (q.2, mm_ln q.2) := by decide +kernel
def tb_d0_19 : List (Nat × Instr) := [(446, .iadd), (447, .iaload), (448, .aload_n 3), (449, .invokestatic 102), (452, .istore 5), (454, .aload_n 2), (455, .aload_n 0), (456, .iload 4), (458, .iconst 1), (459, .iadd), (460, .iaload), (461, .aload_n 0)]
set_option maxRecDepth 20000 in
theorem tb_e0_19 : ∀ q ∈ tb_d0_19, decode code q.1 = .ok (q.2, mm_ln q.2) := by decide +kernel
def tb_d0_20 : List (Nat × Instr) := [(462, .iload 4), (464, .iconst 2), (465, .iadd), (466, .iaload), (467, .aload_n 0), (468, .iload 4), (470, .iconst 3), (471, .iadd), (472, .iaload), (473, .invokevirtual 105), (476, .istore 6), (478, .aload_n 2)]
set_option maxRecDepth 20000 in
theorem tb_e0_20 : ∀ q ∈ tb_d0_20, decode code q.1 = .ok (q.2, mm_ln q.2) := by decide +kernel
def tb_d0_21 : List (Nat × Instr) := [(479, .invokevirtual 70), (482, .iload 5), (484, .if_icmp .eq 5), (487, .iconst 0), (488, .ireturn), (489, .iload 5), (491, .ifCond .ne 15), (494, .aload_n 3), (495, .iconst 0), (496, .laload), (497, .iload 6), (499, .i2l)]
set_option maxRecDepth 20000 in
theorem tb_e0_21 : ∀ q ∈ tb_d0_21, decode code q.1 = .ok (q.2, mm_ln q.2) := by decide +kernel
def tb_d0_22 : List (Nat × Instr) := [(500, .lcmp), (501, .ifCond .eq 5), (504, .iconst 0), (505, .ireturn), (506, .goto 688), (509, .aload_n 1), (510, .aload_n 0), (511, .iload 4), (513, .iconst 1), (514, .iadd), (515, .iaload), (516, .aload_n 0)]
set_option maxRecDepth 20000 in
theorem tb_e0_22 : ∀ q ∈ tb_d0_22, decode code q.1 = .ok (q.2, mm_ln q.2) := by decide +kernel
def tb_d0_23 : List (Nat × Instr) := [(517, .iload 4), (519, .iconst 2), (520, .iadd), (521, .iaload), (522, .invokestatic 106), (525, .istore 5), (527, .aload_n 2), (528, .aload_n 0), (529, .iload 4), (531, .iconst 1), (532, .iadd), (533, .iaload)]
set_option maxRecDepth 20000 in
theorem tb_e0_23 : ∀ q ∈ tb_d0_23, decode code q.1 = .ok (q.2, mm_ln q.2) := by decide +kernel
def tb_d0_24 : List (Nat × Instr) := [(534, .aload_n 0), (535, .iload 4), (537, .iconst 2), (538, .iadd), (539, .iaload), (540, .invokevirtual 109), (543, .aload_n 2), (544, .invokevirtual 70), (547, .iload 5), (549, .if_icmp .eq 5), (552, .iconst 0), (553, .ireturn)]
set_option maxRecDepth 20000 in
theorem tb_e0_24 : ∀ q ∈ tb_d0_24, decode code q.1 = .ok (q.2, mm_ln q.2) := by decide +kernel
def tb_d0_25 : List (Nat × Instr) := [(554, .goto 640), (557, .aload_n 1), (558, .aload_n 0), (559, .iload 4), (561, .iconst 1), (562, .iadd), (563, .iaload), (564, .aload_n 0), (565, .iload 4), (567, .iconst 2), (568, .iadd), (569, .iaload)]
set_option maxRecDepth 20000 in
theorem tb_e0_25 : ∀ q ∈ tb_d0_25, decode code q.1 = .ok (q.2, mm_ln q.2) := by decide +kernel
def tb_d0_26 : List (Nat × Instr) := [(570, .invokestatic 110), (573, .istore 5), (575, .aload_n 2), (576, .aload_n 0), (577, .iload 4), (579, .iconst 1), (580, .iadd), (581, .iaload), (582, .aload_n 0), (583, .iload 4), (585, .iconst 2), (586, .iadd)]
set_option maxRecDepth 20000 in
theorem tb_e0_26 : ∀ q ∈ tb_d0_26, decode code q.1 = .ok (q.2, mm_ln q.2) := by decide +kernel
def tb_d0_27 : List (Nat × Instr) := [(587, .iaload), (588, .invokevirtual 112), (591, .aload_n 2), (592, .invokevirtual 70), (595, .iload 5), (597, .if_icmp .eq 5), (600, .iconst 0), (601, .ireturn), (602, .goto 592), (605, .aload_n 1), (606, .aload_n 0), (607, .iload 4)]
set_option maxRecDepth 20000 in
theorem tb_e0_27 : ∀ q ∈ tb_d0_27, decode code q.1 = .ok (q.2, mm_ln q.2) := by decide +kernel
def tb_d0_28 : List (Nat × Instr) := [(609, .iconst 1), (610, .iadd), (611, .iaload), (612, .aload_n 0), (613, .iload 4), (615, .iconst 2), (616, .iadd), (617, .iaload), (618, .aload_n 0), (619, .iload 4), (621, .iconst 3), (622, .iadd)]
set_option maxRecDepth 20000 in
theorem tb_e0_28 : ∀ q ∈ tb_d0_28, decode code q.1 = .ok (q.2, mm_ln q.2) := by decide +kernel
def tb_d0_29 : List (Nat × Instr) := [(623, .iaload), (624, .invokestatic 113), (627, .istore 5), (629, .aload_n 2), (630, .aload_n 0), (631, .iload 4), (633, .iconst 1), (634, .iadd), (635, .iaload), (636, .aload_n 0), (637, .iload 4), (639, .iconst 2)]
set_option maxRecDepth 20000 in
theorem tb_e0_29 : ∀ q ∈ tb_d0_29, decode code q.1 = .ok (q.2, mm_ln q.2) := by decide +kernel
def tb_d0_30 : List (Nat × Instr) := [(640, .iadd), (641, .iaload), (642, .aload_n 0), (643, .iload 4), (645, .iconst 3), (646, .iadd), (647, .iaload), (648, .invokevirtual 116), (651, .aload_n 2), (652, .invokevirtual 70), (655, .iload 5), (657, .if_icmp .eq 5)]
set_option maxRecDepth 20000 in
theorem tb_e0_30 : ∀ q ∈ tb_d0_30, decode code q.1 = .ok (q.2, mm_ln q.2) := by decide +kernel
def tb_d0_31 : List (Nat × Instr) := [(660, .iconst 0), (661, .ireturn), (662, .goto 532), (665, .aload_n 1), (666, .aload_n 0), (667, .iload 4), (669, .iconst 1), (670, .iadd), (671, .iaload), (672, .aload_n 0), (673, .iload 4), (675, .iconst 2)]
set_option maxRecDepth 20000 in
theorem tb_e0_31 : ∀ q ∈ tb_d0_31, decode code q.1 = .ok (q.2, mm_ln q.2) := by decide +kernel
def tb_d0_32 : List (Nat × Instr) := [(676, .iadd), (677, .iaload), (678, .aload_n 3), (679, .invokestatic 117), (682, .istore 5), (684, .aload_n 2), (685, .aload_n 0), (686, .iload 4), (688, .iconst 1), (689, .iadd), (690, .iaload), (691, .aload_n 0)]
set_option maxRecDepth 20000 in
theorem tb_e0_32 : ∀ q ∈ tb_d0_32, decode code q.1 = .ok (q.2, mm_ln q.2) := by decide +kernel
def tb_d0_33 : List (Nat × Instr) := [(692, .iload 4), (694, .iconst 2), (695, .iadd), (696, .iaload), (697, .invokevirtual 119), (700, .istore 6), (702, .aload_n 2), (703, .invokevirtual 70), (706, .iload 5), (708, .if_icmp .eq 5), (711, .iconst 0), (712, .ireturn)]
set_option maxRecDepth 20000 in
theorem tb_e0_33 : ∀ q ∈ tb_d0_33, decode code q.1 = .ok (q.2, mm_ln q.2) := by decide +kernel
def tb_d0_34 : List (Nat × Instr) := [(713, .iload 5), (715, .ifCond .ne 15), (718, .aload_n 3), (719, .iconst 0), (720, .laload), (721, .iload 6), (723, .i2l), (724, .lcmp), (725, .ifCond .eq 5), (728, .iconst 0), (729, .ireturn), (730, .goto 464)]
set_option maxRecDepth 20000 in
theorem tb_e0_34 : ∀ q ∈ tb_d0_34, decode code q.1 = .ok (q.2, mm_ln q.2) := by decide +kernel
def tb_d0_35 : List (Nat × Instr) := [(733, .aload_n 1), (734, .aload_n 0), (735, .iload 4), (737, .iconst 1), (738, .iadd), (739, .iaload), (740, .aload_n 0), (741, .iload 4), (743, .iconst 2), (744, .iadd), (745, .iaload), (746, .aload_n 3)]
set_option maxRecDepth 20000 in
theorem tb_e0_35 : ∀ q ∈ tb_d0_35, decode code q.1 = .ok (q.2, mm_ln q.2) := by decide +kernel
def tb_d0_36 : List (Nat × Instr) := [(747, .invokestatic 120), (750, .istore 5), (752, .aload_n 2), (753, .aload_n 0), (754, .iload 4), (756, .iconst 1), (757, .iadd), (758, .iaload), (759, .aload_n 0), (760, .iload 4), (762, .iconst 2), (763, .iadd)]
set_option maxRecDepth 20000 in
theorem tb_e0_36 : ∀ q ∈ tb_d0_36, decode code q.1 = .ok (q.2, mm_ln q.2) := by decide +kernel
def tb_d0_37 : List (Nat × Instr) := [(764, .iaload), (765, .invokevirtual 122), (768, .istore 6), (770, .aload_n 2), (771, .invokevirtual 70), (774, .iload 5), (776, .if_icmp .eq 5), (779, .iconst 0), (780, .ireturn), (781, .iload 5), (783, .ifCond .ne 15), (786, .aload_n 3)]
set_option maxRecDepth 20000 in
theorem tb_e0_37 : ∀ q ∈ tb_d0_37, decode code q.1 = .ok (q.2, mm_ln q.2) := by decide +kernel
def tb_d0_38 : List (Nat × Instr) := [(787, .iconst 0), (788, .laload), (789, .iload 6), (791, .i2l), (792, .lcmp), (793, .ifCond .eq 5), (796, .iconst 0), (797, .ireturn), (798, .goto 396), (801, .aload_n 1), (802, .aload_n 0), (803, .iload 4)]
set_option maxRecDepth 20000 in
theorem tb_e0_38 : ∀ q ∈ tb_d0_38, decode code q.1 = .ok (q.2, mm_ln q.2) := by decide +kernel
def tb_d0_39 : List (Nat × Instr) := [(805, .iconst 1), (806, .iadd), (807, .iaload), (808, .aload_n 0), (809, .iload 4), (811, .iconst 2), (812, .iadd), (813, .iaload), (814, .aload_n 0), (815, .iload 4), (817, .iconst 3), (818, .iadd)]
set_option maxRecDepth 20000 in
theorem tb_e0_39 : ∀ q ∈ tb_d0_39, decode code q.1 = .ok (q.2, mm_ln q.2) := by decide +kernel
def tb_d0_40 : List (Nat × Instr) := [(819, .iaload), (820, .aload_n 3), (821, .invokestatic 123), (824, .istore 5), (826, .aload_n 2), (827, .aload_n 0), (828, .iload 4), (830, .iconst 1), (831, .iadd), (832, .iaload), (833, .aload_n 0), (834, .iload 4)]
set_option maxRecDepth 20000 in
theorem tb_e0_40 : ∀ q ∈ tb_d0_40, decode code q.1 = .ok (q.2, mm_ln q.2) := by decide +kernel
def tb_d0_41 : List (Nat × Instr) := [(836, .iconst 2), (837, .iadd), (838, .iaload), (839, .aload_n 0), (840, .iload 4), (842, .iconst 3), (843, .iadd), (844, .iaload), (845, .invokevirtual 125), (848, .istore 6), (850, .aload_n 2), (851, .invokevirtual 70)]
set_option maxRecDepth 20000 in
theorem tb_e0_41 : ∀ q ∈ tb_d0_41, decode code q.1 = .ok (q.2, mm_ln q.2) := by decide +kernel
def tb_d0_42 : List (Nat × Instr) := [(854, .iload 5), (856, .if_icmp .eq 5), (859, .iconst 0), (860, .ireturn), (861, .iload 5), (863, .ifCond .ne 15), (866, .aload_n 3), (867, .iconst 0), (868, .laload), (869, .iload 6), (871, .i2l), (872, .lcmp)]
set_option maxRecDepth 20000 in
theorem tb_e0_42 : ∀ q ∈ tb_d0_42, decode code q.1 = .ok (q.2, mm_ln q.2) := by decide +kernel
def tb_d0_43 : List (Nat × Instr) := [(873, .ifCond .eq 5), (876, .iconst 0), (877, .ireturn), (878, .goto 316), (881, .aload_n 1), (882, .aload_n 0), (883, .iload 4), (885, .iconst 1), (886, .iadd), (887, .iaload), (888, .aload_n 3), (889, .invokestatic 126)]
set_option maxRecDepth 20000 in
theorem tb_e0_43 : ∀ q ∈ tb_d0_43, decode code q.1 = .ok (q.2, mm_ln q.2) := by decide +kernel
def tb_d0_44 : List (Nat × Instr) := [(892, .istore 5), (894, .aload_n 2), (895, .aload_n 0), (896, .iload 4), (898, .iconst 1), (899, .iadd), (900, .iaload), (901, .invokevirtual 128), (904, .istore 6), (906, .aload_n 2), (907, .invokevirtual 70), (910, .iload 5)]
set_option maxRecDepth 20000 in
theorem tb_e0_44 : ∀ q ∈ tb_d0_44, decode code q.1 = .ok (q.2, mm_ln q.2) := by decide +kernel
def tb_d0_45 : List (Nat × Instr) := [(912, .if_icmp .eq 5), (915, .iconst 0), (916, .ireturn), (917, .iload 5), (919, .ifCond .ne 15), (922, .aload_n 3), (923, .iconst 0), (924, .laload), (925, .iload 6), (927, .i2l), (928, .lcmp), (929, .ifCond .eq 5)]
set_option maxRecDepth 20000 in
theorem tb_e0_45 : ∀ q ∈ tb_d0_45, decode code q.1 = .ok (q.2, mm_ln q.2) := by decide +kernel
def tb_d0_46 : List (Nat × Instr) := [(932, .iconst 0), (933, .ireturn), (934, .goto 260), (937, .aload_n 1), (938, .aload_n 0), (939, .iload 4), (941, .iconst 1), (942, .iadd), (943, .iaload), (944, .aload_n 0), (945, .iload 4), (947, .iconst 2)]
set_option maxRecDepth 20000 in
theorem tb_e0_46 : ∀ q ∈ tb_d0_46, decode code q.1 = .ok (q.2, mm_ln q.2) := by decide +kernel
def tb_d0_47 : List (Nat × Instr) := [(948, .iadd), (949, .iaload), (950, .ifCond .eq 7), (953, .iconst 1), (954, .goto 4), (957, .iconst 0), (958, .invokevirtual 129), (961, .aload_n 2), (962, .aload_n 0), (963, .iload 4), (965, .iconst 1), (966, .iadd)]
set_option maxRecDepth 20000 in
theorem tb_e0_47 : ∀ q ∈ tb_d0_47, decode code q.1 = .ok (q.2, mm_ln q.2) := by decide +kernel
def tb_d0_48 : List (Nat × Instr) := [(967, .iaload), (968, .aload_n 0), (969, .iload 4), (971, .iconst 2), (972, .iadd), (973, .iaload), (974, .ifCond .eq 7), (977, .iconst 1), (978, .goto 4), (981, .iconst 0), (982, .invokevirtual 133), (985, .if_icmp .eq 209)]
set_option maxRecDepth 20000 in
theorem tb_e0_48 : ∀ q ∈ tb_d0_48, decode code q.1 = .ok (q.2, mm_ln q.2) := by decide +kernel
def tb_d0_49 : List (Nat × Instr) := [(988, .iconst 0), (989, .ireturn), (990, .aload_n 1), (991, .aload_n 0), (992, .iload 4), (994, .iconst 1), (995, .iadd), (996, .iaload), (997, .aload_n 0), (998, .iload 4), (1000, .iconst 2), (1001, .iadd)]
set_option maxRecDepth 20000 in
theorem tb_e0_49 : ∀ q ∈ tb_d0_49, decode code q.1 = .ok (q.2, mm_ln q.2) := by decide +kernel
def tb_d0_50 : List (Nat × Instr) := [(1002, .iaload), (1003, .aload_n 0), (1004, .iload 4), (1006, .iconst 3), (1007, .iadd), (1008, .iaload), (1009, .aload_n 0), (1010, .iload 4), (1012, .iconst 4), (1013, .iadd), (1014, .iaload), (1015, .aload_n 3)]
set_option maxRecDepth 20000 in
theorem tb_e0_50 : ∀ q ∈ tb_d0_50, decode code q.1 = .ok (q.2, mm_ln q.2) := by decide +kernel
def tb_d0_51 : List (Nat × Instr) := [(1016, .invokestatic 134), (1019, .istore 5), (1021, .aload_n 2), (1022, .aload_n 0), (1023, .iload 4), (1025, .iconst 1), (1026, .iadd), (1027, .iaload), (1028, .aload_n 0), (1029, .iload 4), (1031, .iconst 2), (1032, .iadd)]
set_option maxRecDepth 20000 in
theorem tb_e0_51 : ∀ q ∈ tb_d0_51, decode code q.1 = .ok (q.2, mm_ln q.2) := by decide +kernel
def tb_d0_52 : List (Nat × Instr) := [(1033, .iaload), (1034, .aload_n 0), (1035, .iload 4), (1037, .iconst 3), (1038, .iadd), (1039, .iaload), (1040, .aload_n 0), (1041, .iload 4), (1043, .iconst 4), (1044, .iadd), (1045, .iaload), (1046, .invokevirtual 137)]
set_option maxRecDepth 20000 in
theorem tb_e0_52 : ∀ q ∈ tb_d0_52, decode code q.1 = .ok (q.2, mm_ln q.2) := by decide +kernel
def tb_d0_53 : List (Nat × Instr) := [(1049, .istore 6), (1051, .aload_n 2), (1052, .invokevirtual 70), (1055, .iload 5), (1057, .if_icmp .eq 5), (1060, .iconst 0), (1061, .ireturn), (1062, .iload 5), (1064, .ifCond .ne 15), (1067, .aload_n 3), (1068, .iconst 0), (1069, .laload)]
set_option maxRecDepth 20000 in
theorem tb_e0_53 : ∀ q ∈ tb_d0_53, decode code q.1 = .ok (q.2, mm_ln q.2) := by decide +kernel
def tb_d0_54 : List (Nat × Instr) := [(1070, .iload 6), (1072, .i2l), (1073, .lcmp), (1074, .ifCond .eq 5), (1077, .iconst 0), (1078, .ireturn), (1079, .goto 115), (1082, .aload_n 1), (1083, .aload_n 0), (1084, .iload 4), (1086, .iconst 1), (1087, .iadd)]
set_option maxRecDepth 20000 in
theorem tb_e0_54 : ∀ q ∈ tb_d0_54, decode code q.1 = .ok (q.2, mm_ln q.2) := by decide +kernel
def tb_d0_55 : List (Nat × Instr) := [(1088, .iaload), (1089, .aload_n 0), (1090, .iload 4), (1092, .iconst 2), (1093, .iadd), (1094, .iaload), (1095, .aload_n 0), (1096, .iload 4), (1098, .iconst 3), (1099, .iadd), (1100, .iaload), (1101, .aload_n 0)]
set_option maxRecDepth 20000 in
theorem tb_e0_55 : ∀ q ∈ tb_d0_55, decode code q.1 = .ok (q.2, mm_ln q.2) := by decide +kernel
def tb_d0_56 : List (Nat × Instr) := [(1102, .iload 4), (1104, .iconst 4), (1105, .iadd), (1106, .iaload), (1107, .aload_n 3), (1108, .invokestatic 138), (1111, .istore 5), (1113, .aload_n 2), (1114, .aload_n 0), (1115, .iload 4), (1117, .iconst 1), (1118, .iadd)]
set_option maxRecDepth 20000 in
theorem tb_e0_56 : ∀ q ∈ tb_d0_56, decode code q.1 = .ok (q.2, mm_ln q.2) := by decide +kernel
def tb_d0_57 : List (Nat × Instr) := [(1119, .iaload), (1120, .aload_n 0), (1121, .iload 4), (1123, .iconst 2), (1124, .iadd), (1125, .iaload), (1126, .aload_n 0), (1127, .iload 4), (1129, .iconst 3), (1130, .iadd), (1131, .iaload), (1132, .aload_n 0)]
set_option maxRecDepth 20000 in
theorem tb_e0_57 : ∀ q ∈ tb_d0_57, decode code q.1 = .ok (q.2, mm_ln q.2) := by decide +kernel
def tb_d0_58 : List (Nat × Instr) := [(1133, .iload 4), (1135, .iconst 4), (1136, .iadd), (1137, .iaload), (1138, .invokevirtual 140), (1141, .istore 6), (1143, .aload_n 2), (1144, .invokevirtual 70), (1147, .iload 5), (1149, .if_icmp .eq 5), (1152, .iconst 0), (1153, .ireturn)]
set_option maxRecDepth 20000 in
theorem tb_e0_58 : ∀ q ∈ tb_d0_58, decode code q.1 = .ok (q.2, mm_ln q.2) := by decide +kernel
def tb_d0_59 : List (Nat × Instr) := [(1154, .iload 5), (1156, .ifCond .ne 22), (1159, .aload_n 3), (1160, .iconst 0), (1161, .laload), (1162, .iload 6), (1164, .ifCond .eq 7), (1167, .lconst 1), (1168, .goto 4), (1171, .lconst 0), (1172, .lcmp), (1173, .ifCond .eq 5)]
set_option maxRecDepth 20000 in
theorem tb_e0_59 : ∀ q ∈ tb_d0_59, decode code q.1 = .ok (q.2, mm_ln q.2) := by decide +kernel
def tb_d0_60 : List (Nat × Instr) := [(1176, .iconst 0), (1177, .ireturn), (1178, .goto 16), (1181, .aload_n 1), (1182, .invokevirtual 141), (1185, .aload_n 2), (1186, .invokevirtual 144), (1189, .if_icmp .eq 5), (1192, .iconst 0), (1193, .ireturn), (1194, .iinc 4 6), (1197, .goto (-1174))]
set_option maxRecDepth 20000 in
theorem tb_e0_60 : ∀ q ∈ tb_d0_60, decode code q.1 = .ok (q.2, mm_ln q.2) := by decide +kernel
def tb_d0_61 : List (Nat × Instr) := [(1200, .iconst 1), (1201, .ireturn)]
set_option maxRecDepth 20000 in
theorem tb_e0_61 : ∀ q ∈ tb_d0_61, decode code q.1 = .ok (q.2, mm_ln q.2) := by decide +kernel
def tb_d0 : List (Nat × Instr) := tb_d0_0 ++ (tb_d0_1 ++ (tb_d0_2 ++ (tb_d0_3 ++ (tb_d0_4 ++ (tb_d0_5 ++ (tb_d0_6 ++ (tb_d0_7 ++ (tb_d0_8 ++ (tb_d0_9 ++ (tb_d0_10 ++ (tb_d0_11 ++ (tb_d0_12 ++ (tb_d0_13 ++ (tb_d0_14 ++ (tb_d0_15 ++ (tb_d0_16 ++ (tb_d0_17 ++ (tb_d0_18 ++ (tb_d0_19 ++ (tb_d0_20 ++ (tb_d0_21 ++ (tb_d0_22 ++ (tb_d0_23 ++ (tb_d0_24 ++ (tb_d0_25 ++ (tb_d0_26 ++ (tb_d0_27 ++ (tb_d0_28 ++ (tb_d0_29 ++ (tb_d0_30 ++ (tb_d0_31 ++ (tb_d0_32 ++ (tb_d0_33 ++ (tb_d0_34 ++ (tb_d0_35 ++ (tb_d0_36 ++ (tb_d0_37 ++ (tb_d0_38 ++ (tb_d0_39 ++ (tb_d0_40 ++ (tb_d0_41 ++ (tb_d0_42 ++ (tb_d0_43 ++ (tb_d0_44 ++ (tb_d0_45 ++ (tb_d0_46 ++ (tb_d0_47 ++ (tb_d0_48 ++ (tb_d0_49 ++ (tb_d0_50 ++ (tb_d0_51 ++ (tb_d0_52 ++ (tb_d0_53 ++ (tb_d0_54 ++ (tb_d0_55 ++ (tb_d0_56 ++ (tb_d0_57 ++ (tb_d0_58 ++ (tb_d0_59 ++ (tb_d0_60 ++ (tb_d0_61)))))))))))))))))))))))))))))))))))))))))))))))))))))))))))))
theorem tb_e0 : ∀ q ∈ tb_d0, decode code q.1 = .ok (q.2, mm_ln q.2) := List.forall_mem_append.mpr ⟨tb_e0_0, List.forall_mem_append.mpr ⟨tb_e0_1, List.forall_mem_append.mpr ⟨tb_e0_2, List.forall_mem_append.mpr ⟨tb_e0_3, List.forall_mem_append.mpr ⟨tb_e0_4, List.forall_mem_append.mpr ⟨tb_e0_5, List.forall_mem_append.mpr ⟨tb_e0_6, List.forall_mem_append.mpr ⟨tb_e0_7, List.forall_mem_append.mpr ⟨tb_e0_8, List.forall_mem_append.mpr ⟨tb_e0_9, List.forall_mem_append.mpr ⟨tb_e0_10, List.forall_mem_append.mpr ⟨tb_e0_11, List.forall_mem_append.mpr ⟨tb_e0_12, List.forall_mem_append.mpr ⟨tb_e0_13, List.forall_mem_append.mpr ⟨tb_e0_14, List.forall_mem_append.mpr ⟨tb_e0_15, List.forall_mem_append.mpr ⟨tb_e0_16, List.forall_mem_append.mpr ⟨tb_e0_17, List.forall_mem_append.mpr ⟨tb_e0_18, List.forall_mem_append.mpr ⟨tb_e0_19, List.forall_mem_append.mpr ⟨tb_e0_20, List.forall_mem_append.mpr ⟨tb_e0_21, List.forall_mem_append.mpr ⟨tb_e0_22, List.forall_mem_append.mpr ⟨tb_e0_23, List.forall_mem_append.mpr ⟨tb_e0_24, List.forall_mem_append.mpr ⟨tb_e0_25, List.forall_mem_append.mpr ⟨tb_e0_26, List.forall_mem_append.mpr ⟨tb_e0_27, List.forall_mem_append.mpr ⟨tb_e0_28, List.forall_mem_append.mpr ⟨tb_e0_29, List.forall_mem_append.mpr ⟨tb_e0_30, List.forall_mem_append.mpr ⟨tb_e0_31, List.forall_mem_append.mpr ⟨tb_e0_32, List.forall_mem_append.mpr ⟨tb_e0_33, List.forall_mem_append.mpr ⟨tb_e0_34, List.forall_mem_append.mpr ⟨tb_e0_35, List.forall_mem_append.mpr ⟨tb_e0_36, List.forall_mem_append.mpr ⟨tb_e0_37, List.forall_mem_append.mpr ⟨tb_e0_38, List.forall_mem_append.mpr ⟨tb_e0_39, List.forall_mem_append.mpr ⟨tb_e0_40, List.forall_mem_append.mpr ⟨tb_e0_41, List.forall_mem_append.mpr ⟨tb_e0_42, List.forall_mem_append.mpr ⟨tb_e0_43, List.forall_mem_append.mpr ⟨tb_e0_44, List.forall_mem_append.mpr ⟨tb_e0_45, List.forall_mem_append.mpr ⟨tb_e0_46, List.forall_mem_append.mpr ⟨tb_e0_47, List.forall_mem_append.mpr ⟨tb_e0_48, List.forall_mem_append.mpr ⟨tb_e0_49, List.forall_mem_append.mpr ⟨tb_e0_50, List.forall_mem_append.mpr ⟨tb_e0_51, List.forall_mem_append.mpr ⟨tb_e0_52, List.forall_mem_append.mpr ⟨tb_e0_53, List.forall_mem_append.mpr ⟨tb_e0_54, List.forall_mem_append.mpr ⟨tb_e0_55, List.forall_mem_append.mpr ⟨tb_e0_56, List.forall_mem_append.mpr ⟨tb_e0_57, List.forall_mem_append.mpr ⟨tb_e0_58, List.forall_mem_append.mpr ⟨tb_e0_59, List.forall_mem_append.mpr ⟨tb_e0_60, tb_e0_61⟩⟩⟩⟩⟩⟩⟩⟩⟩⟩⟩⟩⟩⟩⟩⟩⟩⟩⟩⟩⟩⟩⟩⟩⟩⟩⟩⟩⟩⟩⟩⟩⟩⟩⟩⟩⟩⟩⟩⟩⟩⟩⟩⟩⟩⟩⟩⟩⟩⟩⟩⟩⟩⟩⟩⟩⟩⟩⟩⟩⟩
-- 1 IndexedCompilerLaw.type(LIndexedCompiler;IIIII[J)I
def tb_d1 : List (Nat × Instr) := [(0, .aload 6), (2, .iconst 0), (3, .aload_n 0), (4, .iload_n 1), (5, .iload_n 2), (6, .iload_n 3), (7, .iload 4), (9, .iload 5), (11, .invokevirtual 7), (14, .i2l), (15, .lastore), (16, .goto 7), (19, .astore 7), (21, .iconst 1), (22, .ireturn), (23, .iconst 0), (24, .ireturn)]
set_option maxRecDepth 20000 in
theorem tb_e1 : ∀ q ∈ tb_d1, decode method_3_code q.1 = .ok (q.2, mm_ln q.2) := by decide +kernel
-- 2 IndexedCompilerLaw.count(LIndexedCompiler;I[J)I
def tb_d2 : List (Nat × Instr) := [(0, .aload_n 2), (1, .iconst 0), (2, .aload_n 0), (3, .iload_n 1), (4, .invokevirtual 15), (7, .i2l), (8, .lastore), (9, .goto 6), (12, .astore_n 3), (13, .iconst 1), (14, .ireturn), (15, .iconst 0), (16, .ireturn)]
set_option maxRecDepth 20000 in
theorem tb_e2 : ∀ q ∈ tb_d2, decode method_4_code q.1 = .ok (q.2, mm_ln q.2) := by decide +kernel
-- 3 IndexedCompilerLaw.goal(LIndexedCompiler;II[J)I
def tb_d3 : List (Nat × Instr) := [(0, .aload_n 3), (1, .iconst 0), (2, .aload_n 0), (3, .iload_n 1), (4, .iload_n 2), (5, .invokevirtual 21), (8, .i2l), (9, .lastore), (10, .goto 11), (13, .astore 4), (15, .iconst 1), (16, .ireturn), (17, .astore 4), (19, .iconst 2), (20, .ireturn), (21, .iconst 0), (22, .ireturn)]
set_option maxRecDepth 20000 in
theorem tb_e3 : ∀ q ∈ tb_d3, decode method_5_code q.1 = .ok (q.2, mm_ln q.2) := by decide +kernel
-- 4 IndexedCompilerLaw.code(LIndexedCompiler;III[J)I
def tb_d4 : List (Nat × Instr) := [(0, .aload 4), (2, .iconst 0), (3, .aload_n 0), (4, .iload_n 1), (5, .iload_n 2), (6, .iload_n 3), (7, .invokevirtual 25), (10, .i2l), (11, .lastore), (12, .goto 11), (15, .astore 5), (17, .iconst 1), (18, .ireturn), (19, .astore 5), (21, .iconst 2), (22, .ireturn), (23, .iconst 0), (24, .ireturn)]
set_option maxRecDepth 20000 in
theorem tb_e4 : ∀ q ∈ tb_d4, decode method_6_code q.1 = .ok (q.2, mm_ln q.2) := by decide +kernel
-- 5 IndexedCompilerLaw.set(LIndexedCompiler;II)I
def tb_d5 : List (Nat × Instr) := [(0, .aload_n 0), (1, .iload_n 1), (2, .iload_n 2), (3, .invokevirtual 29), (6, .goto 6), (9, .astore_n 3), (10, .iconst 1), (11, .ireturn), (12, .iconst 0), (13, .ireturn)]
set_option maxRecDepth 20000 in
theorem tb_e5 : ∀ q ∈ tb_d5, decode method_7_code q.1 = .ok (q.2, mm_ln q.2) := by decide +kernel
-- 6 IndexedCompilerLaw.make(LIndexedCompiler;II)I
def tb_d6 : List (Nat × Instr) := [(0, .aload_n 0), (1, .iload_n 1), (2, .iload_n 2), (3, .invokevirtual 33), (6, .goto 6), (9, .astore_n 3), (10, .iconst 1), (11, .ireturn), (12, .iconst 0), (13, .ireturn)]
set_option maxRecDepth 20000 in
theorem tb_e6 : ∀ q ∈ tb_d6, decode method_8_code q.1 = .ok (q.2, mm_ln q.2) := by decide +kernel
-- 7 IndexedCompilerLaw.put(LIndexedCompiler;III)I
def tb_d7 : List (Nat × Instr) := [(0, .aload_n 0), (1, .iload_n 1), (2, .iload_n 2), (3, .iload_n 3), (4, .invokevirtual 36), (7, .goto 11), (10, .astore 4), (12, .iconst 1), (13, .ireturn), (14, .astore 4), (16, .iconst 2), (17, .ireturn), (18, .iconst 0), (19, .ireturn)]
set_option maxRecDepth 20000 in
theorem tb_e7 : ∀ q ∈ tb_d7, decode method_9_code q.1 = .ok (q.2, mm_ln q.2) := by decide +kernel
-- 8 IndexedCompilerLaw.get(LIndexedCompiler;II[J)I
def tb_d8 : List (Nat × Instr) := [(0, .aload_n 3), (1, .iconst 0), (2, .aload_n 0), (3, .iload_n 1), (4, .iload_n 2), (5, .invokevirtual 40), (8, .i2l), (9, .lastore), (10, .goto 11), (13, .astore 4), (15, .iconst 1), (16, .ireturn), (17, .astore 4), (19, .iconst 2), (20, .ireturn), (21, .iconst 0), (22, .ireturn)]
set_option maxRecDepth 20000 in
theorem tb_e8 : ∀ q ∈ tb_d8, decode method_10_code q.1 = .ok (q.2, mm_ln q.2) := by decide +kernel
-- 9 IndexedCompilerLaw.value(LIndexedCompiler;II[J)I
def tb_d9 : List (Nat × Instr) := [(0, .aload_n 3), (1, .iconst 0), (2, .aload_n 0), (3, .iload_n 1), (4, .iload_n 2), (5, .invokevirtual 43), (8, .i2l), (9, .lastore), (10, .goto 7), (13, .astore 4), (15, .iconst 1), (16, .ireturn), (17, .iconst 0), (18, .ireturn)]
set_option maxRecDepth 20000 in
theorem tb_e9 : ∀ q ∈ tb_d9, decode method_11_code q.1 = .ok (q.2, mm_ln q.2) := by decide +kernel
-- 10 IndexedCompilerLaw.run(LIndexedCompiler;III[J)I
def tb_d10 : List (Nat × Instr) := [(0, .aload 4), (2, .iconst 0), (3, .aload_n 0), (4, .iload_n 1), (5, .iload_n 2), (6, .iload_n 3), (7, .invokevirtual 46), (10, .i2l), (11, .lastore), (12, .goto 11), (15, .astore 5), (17, .iconst 1), (18, .ireturn), (19, .astore 5), (21, .iconst 2), (22, .ireturn), (23, .iconst 0), (24, .ireturn)]
set_option maxRecDepth 20000 in
theorem tb_e10 : ∀ q ∈ tb_d10, decode method_12_code q.1 = .ok (q.2, mm_ln q.2) := by decide +kernel
-- 11 IndexedCompilerLaw.told(LIndexedCompiler;I[J)I
def tb_d11 : List (Nat × Instr) := [(0, .aload_n 2), (1, .iconst 0), (2, .aload_n 0), (3, .iload_n 1), (4, .invokevirtual 49), (7, .i2l), (8, .lastore), (9, .goto 6), (12, .astore_n 3), (13, .iconst 1), (14, .ireturn), (15, .iconst 0), (16, .ireturn)]
set_option maxRecDepth 20000 in
theorem tb_e11 : ∀ q ∈ tb_d11, decode method_13_code q.1 = .ok (q.2, mm_ln q.2) := by decide +kernel
-- 12 IndexedCompilerLaw.fact(LIndexedCompiler;IIII[J)I
def tb_d12 : List (Nat × Instr) := [(0, .aload 5), (2, .iconst 0), (3, .aload_n 0), (4, .iload_n 1), (5, .iload_n 2), (6, .iload_n 3), (7, .iload 4), (9, .invokevirtual 52), (12, .i2l), (13, .lastore), (14, .goto 11), (17, .astore 6), (19, .iconst 1), (20, .ireturn), (21, .astore 6), (23, .iconst 2), (24, .ireturn), (25, .iconst 0), (26, .ireturn)]
set_option maxRecDepth 20000 in
theorem tb_e12 : ∀ q ∈ tb_d12, decode method_14_code q.1 = .ok (q.2, mm_ln q.2) := by decide +kernel
-- 13 IndexedCompilerLaw.ask(LIndexedCompiler;IIII[J)I
def tb_d13 : List (Nat × Instr) := [(0, .aload 5), (2, .iconst 0), (3, .aload_n 0), (4, .iload_n 1), (5, .iload_n 2), (6, .iload_n 3), (7, .iload 4), (9, .invokevirtual 56), (12, .ifCond .eq 7), (15, .lconst 1), (16, .goto 4), (19, .lconst 0), (20, .lastore), (21, .goto 7), (24, .astore 6), (26, .iconst 1), (27, .ireturn), (28, .iconst 0), (29, .ireturn)]
set_option maxRecDepth 20000 in
theorem tb_e13 : ∀ q ∈ tb_d13, decode method_15_code q.1 = .ok (q.2, mm_ln q.2) := by decide +kernel
-- 14 IndexedCompilerModel.<init>()V
def tb_d14_0 : List (Nat × Instr) := [(0, .aload_n 0), (1, .invokespecial 1), (4, .aload_n 0), (5, .sipush 480), (8, .newarray .char), (10, .putfield 7), (13, .aload_n 0), (14, .sipush 482), (17, .newarray .int), (19, .putfield 13), (22, .aload_n 0), (23, .sipush 482), (26, .newarray .int), (28, .putfield 17)]
set_option maxRecDepth 20000 in
theorem tb_e14_0 : ∀ q ∈ tb_d14_0, decode prog_14_method_1_code q.1 = .ok (q.2, mm_ln q.2) := by decide +kernel
def tb_d14_1 : List (Nat × Instr) := [(31, .aload_n 0), (32, .sipush 482), (35, .newarray .int), (37, .putfield 20), (40, .aload_n 0), (41, .iconst (-1)), (42, .putfield 23), (45, .aload_n 0), (46, .bipush 9), (48, .newarray .int), (50, .putfield 27), (53, .aload_n 0), (54, .bipush 36), (56, .newarray .int)]
set_option maxRecDepth 20000 in
theorem tb_e14_1 : ∀ q ∈ tb_d14_1, decode prog_14_method_1_code q.1 = .ok (q.2, mm_ln q.2) := by decide +kernel
def tb_d14_2 : List (Nat × Instr) := [(58, .putfield 30), (61, .aload_n 0), (62, .bipush 9), (64, .newarray .int), (66, .putfield 33), (69, .aload_n 0), (70, .bipush 9), (72, .newarray .int), (74, .putfield 36), (77, .aload_n 0), (78, .bipush 9), (80, .newarray .int), (82, .putfield 39), (85, .aload_n 0)]
set_option maxRecDepth 20000 in
theorem tb_e14_2 : ∀ q ∈ tb_d14_2, decode prog_14_method_1_code q.1 = .ok (q.2, mm_ln q.2) := by decide +kernel
def tb_d14_3 : List (Nat × Instr) := [(86, .bipush 45), (88, .newarray .int), (90, .putfield 42), (93, .aload_n 0), (94, .bipush 45), (96, .newarray .int), (98, .putfield 45), (101, .aload_n 0), (102, .bipush 9), (104, .newarray .int), (106, .putfield 48), (109, .aload_n 0), (110, .bipush 9), (112, .newarray .int)]
set_option maxRecDepth 20000 in
theorem tb_e14_3 : ∀ q ∈ tb_d14_3, decode prog_14_method_1_code q.1 = .ok (q.2, mm_ln q.2) := by decide +kernel
def tb_d14_4 : List (Nat × Instr) := [(114, .putfield 51), (117, .aload_n 0), (118, .bipush 9), (120, .newarray .int), (122, .putfield 54), (125, .aload_n 0), (126, .sipush 6300), (129, .newarray .int), (131, .putfield 57), (134, .aload_n 0), (135, .sipush 6300), (138, .newarray .int), (140, .putfield 60), (143, .aload_n 0)]
set_option maxRecDepth 20000 in
theorem tb_e14_4 : ∀ q ∈ tb_d14_4, decode prog_14_method_1_code q.1 = .ok (q.2, mm_ln q.2) := by decide +kernel
def tb_d14_5 : List (Nat × Instr) := [(144, .sipush 6300), (147, .newarray .int), (149, .putfield 63), (152, .aload_n 0), (153, .sipush 6300), (156, .newarray .int), (158, .putfield 66), (161, .aload_n 0), (162, .sipush 6300), (165, .newarray .int), (167, .putfield 69), (170, .aload_n 0), (171, .sipush 6300), (174, .newarray .int)]
set_option maxRecDepth 20000 in
theorem tb_e14_5 : ∀ q ∈ tb_d14_5, decode prog_14_method_1_code q.1 = .ok (q.2, mm_ln q.2) := by decide +kernel
def tb_d14_6 : List (Nat × Instr) := [(176, .putfield 72), (179, .aload_n 0), (180, .sipush 6300), (183, .newarray .int), (185, .putfield 75), (188, .aload_n 0), (189, .sipush 6300), (192, .newarray .boolean), (194, .putfield 78), (197, .aload_n 0), (198, .sipush 4500), (201, .newarray .int), (203, .putfield 82), (206, .aload_n 0)]
set_option maxRecDepth 20000 in
theorem tb_e14_6 : ∀ q ∈ tb_d14_6, decode prog_14_method_1_code q.1 = .ok (q.2, mm_ln q.2) := by decide +kernel
def tb_d14_7 : List (Nat × Instr) := [(207, .sipush 4500), (210, .newarray .int), (212, .putfield 85), (215, .aload_n 0), (216, .sipush 4500), (219, .newarray .int), (221, .putfield 88), (224, .aload_n 0), (225, .sipush 2340), (228, .newarray .int), (230, .putfield 91), (233, .aload_n 0), (234, .sipush 2340), (237, .newarray .int)]
set_option maxRecDepth 20000 in
theorem tb_e14_7 : ∀ q ∈ tb_d14_7, decode prog_14_method_1_code q.1 = .ok (q.2, mm_ln q.2) := by decide +kernel
def tb_d14_8 : List (Nat × Instr) := [(239, .putfield 94), (242, .aload_n 0), (243, .sipush 2340), (246, .newarray .int), (248, .putfield 97), (251, .aload_n 0), (252, .sipush 1800), (255, .newarray .int), (257, .putfield 100), (260, .aload_n 0), (261, .sipush 1800), (264, .newarray .int), (266, .putfield 103), (269, .aload_n 0)]
set_option maxRecDepth 20000 in
theorem tb_e14_8 : ∀ q ∈ tb_d14_8, decode prog_14_method_1_code q.1 = .ok (q.2, mm_ln q.2) := by decide +kernel
def tb_d14_9 : List (Nat × Instr) := [(270, .sipush 1800), (273, .newarray .int), (275, .putfield 106), (278, .aload_n 0), (279, .sipush 1440), (282, .newarray .int), (284, .putfield 109), (287, .aload_n 0), (288, .sipush 1440), (291, .newarray .int), (293, .putfield 112), (296, .aload_n 0), (297, .sipush 1440), (300, .newarray .int)]
set_option maxRecDepth 20000 in
theorem tb_e14_9 : ∀ q ∈ tb_d14_9, decode prog_14_method_1_code q.1 = .ok (q.2, mm_ln q.2) := by decide +kernel
def tb_d14_10 : List (Nat × Instr) := [(302, .putfield 115), (305, .aload_n 0), (306, .sipush 1440), (309, .newarray .int), (311, .putfield 118), (314, .aload_n 0), (315, .sipush 1440), (318, .newarray .int), (320, .putfield 121), (323, .aload_n 0), (324, .sipush 2700), (327, .newarray .int), (329, .putfield 124), (332, .aload_n 0)]
set_option maxRecDepth 20000 in
theorem tb_e14_10 : ∀ q ∈ tb_d14_10, decode prog_14_method_1_code q.1 = .ok (q.2, mm_ln q.2) := by decide +kernel
def tb_d14_11 : List (Nat × Instr) := [(333, .bipush 100), (335, .newarray .int), (337, .putfield 127), (340, .aload_n 0), (341, .bipush 100), (343, .newarray .int), (345, .putfield 130), (348, .aload_n 0), (349, .bipush 100), (351, .newarray .int), (353, .putfield 133), (356, .aload_n 0), (357, .bipush 100), (359, .newarray .int)]
set_option maxRecDepth 20000 in
theorem tb_e14_11 : ∀ q ∈ tb_d14_11, decode prog_14_method_1_code q.1 = .ok (q.2, mm_ln q.2) := by decide +kernel
def tb_d14_12 : List (Nat × Instr) := [(361, .putfield 136), (364, .aload_n 0), (365, .bipush 100), (367, .newarray .int), (369, .putfield 139), (372, .aload_n 0), (373, .bipush 100), (375, .newarray .int), (377, .putfield 142), (380, .aload_n 0), (381, .bipush 100), (383, .newarray .int), (385, .putfield 145), (388, .aload_n 0)]
set_option maxRecDepth 20000 in
theorem tb_e14_12 : ∀ q ∈ tb_d14_12, decode prog_14_method_1_code q.1 = .ok (q.2, mm_ln q.2) := by decide +kernel
def tb_d14_13 : List (Nat × Instr) := [(389, .bipush 100), (391, .newarray .int), (393, .putfield 148), (396, .aload_n 0), (397, .sipush 500), (400, .newarray .int), (402, .putfield 151), (405, .aload_n 0), (406, .iconst (-1)), (407, .putfield 154), (410, .aload_n 0), (411, .sipush 200), (414, .newarray .int), (416, .putfield 157)]
set_option maxRecDepth 20000 in
theorem tb_e14_13 : ∀ q ∈ tb_d14_13, decode prog_14_method_1_code q.1 = .ok (q.2, mm_ln q.2) := by decide +kernel
def tb_d14_14 : List (Nat × Instr) := [(419, .aload_n 0), (420, .sipush 200), (423, .newarray .int), (425, .putfield 160), (428, .aload_n 0), (429, .sipush 200), (432, .newarray .int), (434, .putfield 163), (437, .aload_n 0), (438, .sipush 200), (441, .newarray .boolean), (443, .putfield 166), (446, .aload_n 0), (447, .sipush 200)]
set_option maxRecDepth 20000 in
theorem tb_e14_14 : ∀ q ∈ tb_d14_14, decode prog_14_method_1_code q.1 = .ok (q.2, mm_ln q.2) := by decide +kernel
def tb_d14_15 : List (Nat × Instr) := [(450, .newarray .int), (452, .putfield 169), (455, .aload_n 0), (456, .sipush 200), (459, .newarray .int), (461, .putfield 172), (464, .aload_n 0), (465, .sipush 1200), (468, .newarray .long), (470, .putfield 175), (473, .aload_n 0), (474, .bipush 24), (476, .newarray .int), (478, .putfield 179)]
set_option maxRecDepth 20000 in
theorem tb_e14_15 : ∀ q ∈ tb_d14_15, decode prog_14_method_1_code q.1 = .ok (q.2, mm_ln q.2) := by decide +kernel
def tb_d14_16 : List (Nat × Instr) := [(481, .aload_n 0), (482, .bipush 24), (484, .newarray .int), (486, .putfield 182), (489, .aload_n 0), (490, .sipush 600), (493, .newarray .long), (495, .putfield 185), (498, .aload_n 0), (499, .sipush 7500), (502, .newarray .long), (504, .putfield 188), (507, .aload_n 0), (508, .sipush 300)]
set_option maxRecDepth 20000 in
theorem tb_e14_16 : ∀ q ∈ tb_d14_16, decode prog_14_method_1_code q.1 = .ok (q.2, mm_ln q.2) := by decide +kernel
def tb_d14_17 : List (Nat × Instr) := [(511, .newarray .boolean), (513, .putfield 191), (516, .aload_n 0), (517, .bipush 25), (519, .newarray .long), (521, .putfield 194), (524, .aload_n 0), (525, .bipush 25), (527, .newarray .long), (529, .putfield 197), (532, .aload_n 0), (533, .bipush 25), (535, .newarray .long), (537, .putfield 200)]
set_option maxRecDepth 20000 in
theorem tb_e14_17 : ∀ q ∈ tb_d14_17, decode prog_14_method_1_code q.1 = .ok (q.2, mm_ln q.2) := by decide +kernel
def tb_d14_18 : List (Nat × Instr) := [(540, .aload_n 0), (541, .bipush 25), (543, .newarray .long), (545, .putfield 203), (548, .aload_n 0), (549, .iconst (-1)), (550, .putfield 206), (553, .aload_n 0), (554, .iconst (-1)), (555, .putfield 209), (558, .aload_n 0), (559, .sipush 2100), (562, .newarray .long), (564, .putfield 212)]
set_option maxRecDepth 20000 in
theorem tb_e14_18 : ∀ q ∈ tb_d14_18, decode prog_14_method_1_code q.1 = .ok (q.2, mm_ln q.2) := by decide +kernel
def tb_d14_19 : List (Nat × Instr) := [(567, .aload_n 0), (568, .sipush 2100), (571, .newarray .long), (573, .putfield 215), (576, .aload_n 0), (577, .bipush 25), (579, .newarray .long), (581, .putfield 218), (584, .aload_n 0), (585, .sipush 700), (588, .newarray .int), (590, .putfield 221), (593, .aload_n 0), (594, .sipush 700)]
set_option maxRecDepth 20000 in
theorem tb_e14_19 : ∀ q ∈ tb_d14_19, decode prog_14_method_1_code q.1 = .ok (q.2, mm_ln q.2) := by decide +kernel
def tb_d14_20 : List (Nat × Instr) := [(597, .newarray .int), (599, .putfield 224), (602, .aload_n 0), (603, .sipush 700), (606, .newarray .int), (608, .putfield 227), (611, .aload_n 0), (612, .sipush 700), (615, .newarray .int), (617, .putfield 230), (620, .aload_n 0), (621, .sipush 700), (624, .newarray .int), (626, .putfield 233)]
set_option maxRecDepth 20000 in
theorem tb_e14_20 : ∀ q ∈ tb_d14_20, decode prog_14_method_1_code q.1 = .ok (q.2, mm_ln q.2) := by decide +kernel
def tb_d14_21 : List (Nat × Instr) := [(629, .aload_n 0), (630, .sipush 700), (633, .newarray .int), (635, .putfield 236), (638, .aload_n 0), (639, .sipush 700), (642, .newarray .int), (644, .putfield 239), (647, .aload_n 0), (648, .sipush 700), (651, .newarray .int), (653, .putfield 242), (656, .aload_n 0), (657, .sipush 700)]
set_option maxRecDepth 20000 in
theorem tb_e14_21 : ∀ q ∈ tb_d14_21, decode prog_14_method_1_code q.1 = .ok (q.2, mm_ln q.2) := by decide +kernel
def tb_d14_22 : List (Nat × Instr) := [(660, .newarray .int), (662, .putfield 245), (665, .aload_n 0), (666, .bipush 8), (668, .newarray .int), (670, .putfield 248), (673, .aload_n 0), (674, .sipush 9600), (677, .newarray .int), (679, .putfield 251), (682, .aload_n 0), (683, .sipush 9600), (686, .newarray .int), (688, .putfield 254)]
set_option maxRecDepth 20000 in
theorem tb_e14_22 : ∀ q ∈ tb_d14_22, decode prog_14_method_1_code q.1 = .ok (q.2, mm_ln q.2) := by decide +kernel
def tb_d14_23 : List (Nat × Instr) := [(691, .aload_n 0), (692, .sipush 9600), (695, .newarray .boolean), (697, .putfield 257), (700, .aload_n 0), (701, .bipush 16), (703, .newarray .int), (705, .putfield 260), (708, .aload_n 0), (709, .bipush 6), (711, .newarray .boolean), (713, .putfield 263), (716, .aload_n 0), (717, .bipush 6)]
set_option maxRecDepth 20000 in
theorem tb_e14_23 : ∀ q ∈ tb_d14_23, decode prog_14_method_1_code q.1 = .ok (q.2, mm_ln q.2) := by decide +kernel
def tb_d14_24 : List (Nat × Instr) := [(719, .newarray .int), (721, .putfield 266), (724, .aload_n 0), (725, .sipush 240), (728, .newarray .int), (730, .putfield 269), (733, .aload_n 0), (734, .iconst 4), (735, .newarray .int), (737, .putfield 272), (740, .aload_n 0), (741, .sipush 600), (744, .newarray .int), (746, .putfield 275)]
set_option maxRecDepth 20000 in
theorem tb_e14_24 : ∀ q ∈ tb_d14_24, decode prog_14_method_1_code q.1 = .ok (q.2, mm_ln q.2) := by decide +kernel
def tb_d14_25 : List (Nat × Instr) := [(749, .aload_n 0), (750, .sipush 200), (753, .newarray .int), (755, .putfield 278), (758, .aload_n 0), (759, .bipush 60), (761, .newarray .int), (763, .putfield 281), (766, .aload_n 0), (767, .bipush 60), (769, .newarray .int), (771, .putfield 284), (774, .aload_n 0), (775, .sipush 960)]
set_option maxRecDepth 20000 in
theorem tb_e14_25 : ∀ q ∈ tb_d14_25, decode prog_14_method_1_code q.1 = .ok (q.2, mm_ln q.2) := by decide +kernel
def tb_d14_26 : List (Nat × Instr) := [(778, .newarray .int), (780, .putfield 287), (783, .aload_n 0), (784, .bipush 100), (786, .newarray .int), (788, .putfield 290), (791, .aload_n 0), (792, .iconst (-1)), (793, .putfield 293), (796, .aload_n 0), (797, .iconst 5), (798, .newarray .int), (800, .putfield 296), (803, .aload_n 0)]
set_option maxRecDepth 20000 in
theorem tb_e14_26 : ∀ q ∈ tb_d14_26, decode prog_14_method_1_code q.1 = .ok (q.2, mm_ln q.2) := by decide +kernel
def tb_d14_27 : List (Nat × Instr) := [(804, .sipush 1000), (807, .newarray .long), (809, .putfield 299), (812, .return_)]
set_option maxRecDepth 20000 in
theorem tb_e14_27 : ∀ q ∈ tb_d14_27, decode prog_14_method_1_code q.1 = .ok (q.2, mm_ln q.2) := by decide +kernel
def tb_d14 : List (Nat × Instr) := tb_d14_0 ++ (tb_d14_1 ++ (tb_d14_2 ++ (tb_d14_3 ++ (tb_d14_4 ++ (tb_d14_5 ++ (tb_d14_6 ++ (tb_d14_7 ++ (tb_d14_8 ++ (tb_d14_9 ++ (tb_d14_10 ++ (tb_d14_11 ++ (tb_d14_12 ++ (tb_d14_13 ++ (tb_d14_14 ++ (tb_d14_15 ++ (tb_d14_16 ++ (tb_d14_17 ++ (tb_d14_18 ++ (tb_d14_19 ++ (tb_d14_20 ++ (tb_d14_21 ++ (tb_d14_22 ++ (tb_d14_23 ++ (tb_d14_24 ++ (tb_d14_25 ++ (tb_d14_26 ++ (tb_d14_27)))))))))))))))))))))))))))
theorem tb_e14 : ∀ q ∈ tb_d14, decode prog_14_method_1_code q.1 = .ok (q.2, mm_ln q.2) := List.forall_mem_append.mpr ⟨tb_e14_0, List.forall_mem_append.mpr ⟨tb_e14_1, List.forall_mem_append.mpr ⟨tb_e14_2, List.forall_mem_append.mpr ⟨tb_e14_3, List.forall_mem_append.mpr ⟨tb_e14_4, List.forall_mem_append.mpr ⟨tb_e14_5, List.forall_mem_append.mpr ⟨tb_e14_6, List.forall_mem_append.mpr ⟨tb_e14_7, List.forall_mem_append.mpr ⟨tb_e14_8, List.forall_mem_append.mpr ⟨tb_e14_9, List.forall_mem_append.mpr ⟨tb_e14_10, List.forall_mem_append.mpr ⟨tb_e14_11, List.forall_mem_append.mpr ⟨tb_e14_12, List.forall_mem_append.mpr ⟨tb_e14_13, List.forall_mem_append.mpr ⟨tb_e14_14, List.forall_mem_append.mpr ⟨tb_e14_15, List.forall_mem_append.mpr ⟨tb_e14_16, List.forall_mem_append.mpr ⟨tb_e14_17, List.forall_mem_append.mpr ⟨tb_e14_18, List.forall_mem_append.mpr ⟨tb_e14_19, List.forall_mem_append.mpr ⟨tb_e14_20, List.forall_mem_append.mpr ⟨tb_e14_21, List.forall_mem_append.mpr ⟨tb_e14_22, List.forall_mem_append.mpr ⟨tb_e14_23, List.forall_mem_append.mpr ⟨tb_e14_24, List.forall_mem_append.mpr ⟨tb_e14_25, List.forall_mem_append.mpr ⟨tb_e14_26, tb_e14_27⟩⟩⟩⟩⟩⟩⟩⟩⟩⟩⟩⟩⟩⟩⟩⟩⟩⟩⟩⟩⟩⟩⟩⟩⟩⟩⟩
-- 15 IndexedCompilerModel.thrown()I
def tb_d15 : List (Nat × Instr) := [(0, .aload_n 0), (1, .getfield 302), (4, .ireturn)]
set_option maxRecDepth 20000 in
theorem tb_e15 : ∀ q ∈ tb_d15, decode prog_14_method_2_code q.1 = .ok (q.2, mm_ln q.2) := by decide +kernel
-- 16 IndexedCompilerModel.refused(I)Z
def tb_d16 : List (Nat × Instr) := [(0, .aload_n 0), (1, .iload_n 1), (2, .putfield 302), (5, .iload_n 1), (6, .ifCond .le 7), (9, .iconst 1), (10, .goto 4), (13, .iconst 0), (14, .ireturn)]
set_option maxRecDepth 20000 in
theorem tb_e16 : ∀ q ∈ tb_d16, decode prog_14_method_3_code q.1 = .ok (q.2, mm_ln q.2) := by decide +kernel
-- 17 IndexedCompilerModel.isIn(JJJ)Z
def tb_d17 : List (Nat × Instr) := [(0, .lload_n 0), (1, .lload_n 2), (2, .lcmp), (3, .ifCond .lt 14), (6, .lload_n 0), (7, .lload 4), (9, .lcmp), (10, .ifCond .gt 7), (13, .iconst 1), (14, .goto 4), (17, .iconst 0), (18, .ireturn)]
set_option maxRecDepth 20000 in
theorem tb_e17 : ∀ q ∈ tb_d17, decode prog_14_method_4_code q.1 = .ok (q.2, mm_ln q.2) := by decide +kernel
-- 18 IndexedCompilerModel.put(II)V
def tb_d18 : List (Nat × Instr) := [(0, .iload_n 1), (1, .iload_n 2), (2, .ishr), (3, .sipush 255), (6, .iand), (7, .istore_n 3), (8, .iload_n 3), (9, .ifCond .le 34), (12, .aload_n 0), (13, .getfield 305), (16, .sipush 480), (19, .if_icmp .ge 14), (22, .aload_n 0), (23, .getfield 7), (26, .aload_n 0), (27, .getfield 305), (30, .iload_n 3), (31, .i2c), (32, .castore), (33, .aload_n 0), (34, .dup), (35, .getfield 305), (38, .iconst 1), (39, .iadd), (40, .putfield 305), (43, .return_)]
set_option maxRecDepth 20000 in
theorem tb_e18 : ∀ q ∈ tb_d18, decode prog_14_method_5_code q.1 = .ok (q.2, mm_ln q.2) := by decide +kernel
-- 19 IndexedCompilerModel.type(IIIII)I
def tb_d19 : List (Nat × Instr) := [(0, .aload_n 0), (1, .getfield 305), (4, .istore 6), (6, .iconst 0), (7, .istore 7), (9, .iload 7), (11, .iconst 5), (12, .if_icmp .ge 80), (15, .iload 7), (17, .ifCond .ne 7), (20, .iload_n 1), (21, .goto 36), (24, .iload 7), (26, .iconst 1), (27, .if_icmp .ne 7), (30, .iload_n 2), (31, .goto 26), (34, .iload 7), (36, .iconst 2), (37, .if_icmp .ne 7), (40, .iload_n 3), (41, .goto 16), (44, .iload 7), (46, .iconst 3), (47, .if_icmp .ne 8), (50, .iload 4), (52, .goto 5), (55, .iload 5), (57, .istore 8), (59, .bipush 24), (61, .istore 9), (63, .iload 9), (65, .ifCond .lt 21), (68, .aload_n 0), (69, .iload 8), (71, .iload 9), (73, .invokevirtual 308), (76, .iload 9), (78, .bipush 8), (80, .isub), (81, .istore 9), (83, .goto (-20)), (86, .iinc 7 1), (89, .goto (-80)), (92, .aload_n 0), (93, .aload_n 0), (94, .getfield 305), (97, .sipush 480), (100, .if_icmp .le 7), (103, .iconst 1), (104, .goto 4), (107, .iconst 0), (108, .invokevirtual 312), (111, .ifCond .eq 11), (114, .aload_n 0), (115, .iload 6), (117, .putfield 305), (120, .iconst 0), (121, .ireturn), (122, .aload_n 0), (123, .getfield 305), (126, .ireturn)]
set_option maxRecDepth 20000 in
theorem tb_e19 : ∀ q ∈ tb_d19, decode prog_14_method_6_code q.1 = .ok (q.2, mm_ln q.2) := by decide +kernel
-- 20 IndexedCompilerModel.erase()I
def tb_d20 : List (Nat × Instr) := [(0, .aload_n 0), (1, .iconst 0), (2, .putfield 302), (5, .aload_n 0), (6, .getfield 305), (9, .istore_n 1), (10, .aload_n 0), (11, .iconst 0), (12, .putfield 305), (15, .iload_n 1), (16, .ireturn)]
set_option maxRecDepth 20000 in
theorem tb_e20 : ∀ q ∈ tb_d20, decode prog_14_method_7_code q.1 = .ok (q.2, mm_ln q.2) := by decide +kernel
-- 21 IndexedCompilerModel.tokens()V
def tb_d21_0 : List (Nat × Instr) := [(0, .iconst 0), (1, .istore_n 1), (2, .iconst 0), (3, .istore_n 2), (4, .iload_n 2), (5, .aload_n 0), (6, .getfield 305), (9, .if_icmp .ge 314), (12, .aload_n 0), (13, .getfield 7), (16, .iload_n 2), (17, .caload), (18, .istore_n 3), (19, .iload_n 3), (20, .bipush 32), (22, .if_icmp .ne 9), (25, .iinc 2 1), (28, .goto (-24)), (31, .iload_n 2), (32, .istore 4), (34, .aload_n 0), (35, .getfield 17), (38, .iload_n 1), (39, .iload 4), (41, .iastore), (42, .iconst 0), (43, .istore 5), (45, .iload_n 3), (46, .invokestatic 316), (49, .ifCond .eq 76), (52, .aload_n 0), (53, .iload_n 2), (54, .invokevirtual 320)]
set_option maxRecDepth 20000 in
theorem tb_e21_0 : ∀ q ∈ tb_d21_0, decode prog_14_method_12_code q.1 = .ok (q.2, mm_ln q.2) := by decide +kernel
def tb_d21_1 : List (Nat × Instr) := [(57, .invokestatic 316), (60, .ifCond .eq 42), (63, .iload_n 2), (64, .iload 4), (66, .isub), (67, .bipush 6), (69, .if_icmp .ge 23), (72, .bipush 27), (74, .iload 5), (76, .imul), (77, .aload_n 0), (78, .getfield 7), (81, .iload_n 2), (82, .caload), (83, .iadd), (84, .bipush 97), (86, .isub), (87, .iconst 1), (88, .iadd), (89, .goto 5), (92, .iload 5), (94, .istore 5), (96, .iinc 2 1), (99, .goto (-47)), (102, .aload_n 0), (103, .getfield 13), (106, .iload_n 1), (107, .iload_n 2), (108, .iload 4), (110, .isub), (111, .bipush 6), (113, .if_icmp .le 7), (116, .iconst 4)]
set_option maxRecDepth 20000 in
theorem tb_e21_1 : ∀ q ∈ tb_d21_1, decode prog_14_method_12_code q.1 = .ok (q.2, mm_ln q.2) := by decide +kernel
def tb_d21_2 : List (Nat × Instr) := [(117, .goto 4), (120, .iconst 1), (121, .iastore), (122, .goto 187), (125, .iload_n 3), (126, .invokestatic 324), (129, .ifCond .eq 72), (132, .aload_n 0), (133, .iload_n 2), (134, .invokevirtual 320), (137, .invokestatic 324), (140, .ifCond .eq 39), (143, .iload_n 2), (144, .iload 4), (146, .isub), (147, .iconst 3), (148, .if_icmp .ge 21), (151, .bipush 10), (153, .iload 5), (155, .imul), (156, .aload_n 0), (157, .getfield 7), (160, .iload_n 2), (161, .caload), (162, .iadd), (163, .bipush 48), (165, .isub), (166, .goto 5), (169, .iload 5), (171, .istore 5), (173, .iinc 2 1), (176, .goto (-44)), (179, .aload_n 0)]
set_option maxRecDepth 20000 in
theorem tb_e21_2 : ∀ q ∈ tb_d21_2, decode prog_14_method_12_code q.1 = .ok (q.2, mm_ln q.2) := by decide +kernel
def tb_d21_3 : List (Nat × Instr) := [(180, .getfield 13), (183, .iload_n 1), (184, .iload_n 2), (185, .iload 4), (187, .isub), (188, .iconst 3), (189, .if_icmp .le 7), (192, .iconst 4), (193, .goto 4), (196, .iconst 2), (197, .iastore), (198, .goto 111), (201, .iload_n 3), (202, .bipush 58), (204, .if_icmp .eq 15), (207, .iload_n 3), (208, .bipush 60), (210, .if_icmp .eq 9), (213, .iload_n 3), (214, .bipush 62), (216, .if_icmp .ne 19), (219, .aload_n 0), (220, .iload_n 2), (221, .iconst 1), (222, .iadd), (223, .invokevirtual 320), (226, .bipush 61), (228, .if_icmp .ne 7), (231, .iconst 1), (232, .goto 4), (235, .iconst 0), (236, .istore 6), (238, .iload 6)]
set_option maxRecDepth 20000 in
theorem tb_e21_3 : ∀ q ∈ tb_d21_3, decode prog_14_method_12_code q.1 = .ok (q.2, mm_ln q.2) := by decide +kernel
def tb_d21_4 : List (Nat × Instr) := [(240, .ifCond .ne 7), (243, .iload_n 3), (244, .goto 30), (247, .iload_n 3), (248, .bipush 58), (250, .if_icmp .ne 9), (253, .sipush 130), (256, .goto 18), (259, .iload_n 3), (260, .bipush 60), (262, .if_icmp .ne 9), (265, .sipush 128), (268, .goto 6), (271, .sipush 129), (274, .istore 5), (276, .iload 6), (278, .ifCond .eq 9), (281, .iload_n 2), (282, .iconst 2), (283, .iadd), (284, .goto 6), (287, .iload_n 2), (288, .iconst 1), (289, .iadd), (290, .istore_n 2), (291, .aload_n 0), (292, .getfield 13), (295, .iload_n 1), (296, .iload_n 3), (297, .invokestatic 327), (300, .ifCond .eq 7), (303, .iconst 3), (304, .goto 4)]
set_option maxRecDepth 20000 in
theorem tb_e21_4 : ∀ q ∈ tb_d21_4, decode prog_14_method_12_code q.1 = .ok (q.2, mm_ln q.2) := by decide +kernel
def tb_d21_5 : List (Nat × Instr) := [(307, .iconst 4), (308, .iastore), (309, .aload_n 0), (310, .getfield 20), (313, .iload_n 1), (314, .iload 5), (316, .iastore), (317, .iinc 1 1), (320, .goto (-316)), (323, .aload_n 0), (324, .getfield 13), (327, .iload_n 1), (328, .iconst 0), (329, .iastore), (330, .aload_n 0), (331, .getfield 17), (334, .iload_n 1), (335, .aload_n 0), (336, .getfield 305), (339, .iastore), (340, .aload_n 0), (341, .getfield 20), (344, .iload_n 1), (345, .iconst 0), (346, .iastore), (347, .aload_n 0), (348, .iconst 0), (349, .putfield 330), (352, .aload_n 0), (353, .iconst 0), (354, .putfield 333), (357, .return_)]
set_option maxRecDepth 20000 in
theorem tb_e21_5 : ∀ q ∈ tb_d21_5, decode prog_14_method_12_code q.1 = .ok (q.2, mm_ln q.2) := by decide +kernel
def tb_d21 : List (Nat × Instr) := tb_d21_0 ++ (tb_d21_1 ++ (tb_d21_2 ++ (tb_d21_3 ++ (tb_d21_4 ++ (tb_d21_5)))))
theorem tb_e21 : ∀ q ∈ tb_d21, decode prog_14_method_12_code q.1 = .ok (q.2, mm_ln q.2) := List.forall_mem_append.mpr ⟨tb_e21_0, List.forall_mem_append.mpr ⟨tb_e21_1, List.forall_mem_append.mpr ⟨tb_e21_2, List.forall_mem_append.mpr ⟨tb_e21_3, List.forall_mem_append.mpr ⟨tb_e21_4, tb_e21_5⟩⟩⟩⟩⟩
-- 22 IndexedCompilerModel.wrong()V
def tb_d22 : List (Nat × Instr) := [(0, .aload_n 0), (1, .getfield 333), (4, .ifCond .ne 16), (7, .aload_n 0), (8, .aload_n 0), (9, .getfield 17), (12, .aload_n 0), (13, .getfield 330), (16, .iaload), (17, .putfield 339), (20, .aload_n 0), (21, .iconst 1), (22, .putfield 333), (25, .return_)]
set_option maxRecDepth 20000 in
theorem tb_e22 : ∀ q ∈ tb_d22, decode prog_14_method_14_code q.1 = .ok (q.2, mm_ln q.2) := by decide +kernel
-- 23 IndexedCompilerModel.isMarkHere(I)Z
def tb_d23 : List (Nat × Instr) := [(0, .aload_n 0), (1, .getfield 13), (4, .aload_n 0), (5, .getfield 330), (8, .iaload), (9, .iconst 3), (10, .if_icmp .ne 20), (13, .aload_n 0), (14, .getfield 20), (17, .aload_n 0), (18, .getfield 330), (21, .iaload), (22, .iload_n 1), (23, .if_icmp .ne 7), (26, .iconst 1), (27, .goto 4), (30, .iconst 0), (31, .ireturn)]
set_option maxRecDepth 20000 in
theorem tb_e23 : ∀ q ∈ tb_d23, decode prog_14_method_15_code q.1 = .ok (q.2, mm_ln q.2) := by decide +kernel
-- 24 IndexedCompilerModel.isWordHere(I)Z
def tb_d24 : List (Nat × Instr) := [(0, .aload_n 0), (1, .getfield 13), (4, .aload_n 0), (5, .getfield 330), (8, .iaload), (9, .iconst 1), (10, .if_icmp .ne 20), (13, .aload_n 0), (14, .getfield 20), (17, .aload_n 0), (18, .getfield 330), (21, .iaload), (22, .iload_n 1), (23, .if_icmp .ne 7), (26, .iconst 1), (27, .goto 4), (30, .iconst 0), (31, .ireturn)]
set_option maxRecDepth 20000 in
theorem tb_e24 : ∀ q ∈ tb_d24, decode prog_14_method_16_code q.1 = .ok (q.2, mm_ln q.2) := by decide +kernel
-- 25 IndexedCompilerModel.isNameHere()Z
def tb_d25 : List (Nat × Instr) := [(0, .aload_n 0), (1, .getfield 13), (4, .aload_n 0), (5, .getfield 330), (8, .iaload), (9, .iconst 1), (10, .if_icmp .ne 22), (13, .aload_n 0), (14, .getfield 20), (17, .aload_n 0), (18, .getfield 330), (21, .iaload), (22, .invokestatic 342), (25, .ifCond .ne 7), (28, .iconst 1), (29, .goto 4), (32, .iconst 0), (33, .ireturn)]
set_option maxRecDepth 20000 in
theorem tb_e25 : ∀ q ∈ tb_d25, decode prog_14_method_17_code q.1 = .ok (q.2, mm_ln q.2) := by decide +kernel
-- 26 IndexedCompilerModel.wantMark(I)V
def tb_d26 : List (Nat × Instr) := [(0, .aload_n 0), (1, .getfield 333), (4, .ifCond .eq 4), (7, .return_), (8, .aload_n 0), (9, .iload_n 1), (10, .invokevirtual 345), (13, .ifCond .eq 16), (16, .aload_n 0), (17, .dup), (18, .getfield 330), (21, .iconst 1), (22, .iadd), (23, .putfield 330), (26, .goto 7), (29, .aload_n 0), (30, .invokevirtual 348), (33, .return_)]
set_option maxRecDepth 20000 in
theorem tb_e26 : ∀ q ∈ tb_d26, decode prog_14_method_18_code q.1 = .ok (q.2, mm_ln q.2) := by decide +kernel
-- 27 IndexedCompilerModel.wantWord(I)V
def tb_d27 : List (Nat × Instr) := [(0, .aload_n 0), (1, .getfield 333), (4, .ifCond .eq 4), (7, .return_), (8, .aload_n 0), (9, .iload_n 1), (10, .invokevirtual 351), (13, .ifCond .eq 16), (16, .aload_n 0), (17, .dup), (18, .getfield 330), (21, .iconst 1), (22, .iadd), (23, .putfield 330), (26, .goto 7), (29, .aload_n 0), (30, .invokevirtual 348), (33, .return_)]
set_option maxRecDepth 20000 in
theorem tb_e27 : ∀ q ∈ tb_d27, decode prog_14_method_19_code q.1 = .ok (q.2, mm_ln q.2) := by decide +kernel
-- 28 IndexedCompilerModel.wantName()I
def tb_d28 : List (Nat × Instr) := [(0, .aload_n 0), (1, .getfield 333), (4, .ifCond .ne 10), (7, .aload_n 0), (8, .invokevirtual 354), (11, .ifCond .ne 9), (14, .aload_n 0), (15, .invokevirtual 348), (18, .iconst 0), (19, .ireturn), (20, .aload_n 0), (21, .dup), (22, .getfield 330), (25, .iconst 1), (26, .iadd), (27, .putfield 330), (30, .aload_n 0), (31, .getfield 20), (34, .aload_n 0), (35, .getfield 330), (38, .iconst 1), (39, .isub), (40, .iaload), (41, .ireturn)]
set_option maxRecDepth 20000 in
theorem tb_e28 : ∀ q ∈ tb_d28, decode prog_14_method_20_code q.1 = .ok (q.2, mm_ln q.2) := by decide +kernel
-- 29 IndexedCompilerModel.readFunction(I)Z
def tb_d29_0 : List (Nat × Instr) := [(0, .aload_n 0), (1, .invokevirtual 409), (4, .aload_n 0), (5, .sipush 700), (8, .iload_n 1), (9, .imul), (10, .putfield 358), (13, .aload_n 0), (14, .sipush 500), (17, .iload_n 1), (18, .imul), (19, .putfield 368), (22, .aload_n 0), (23, .sipush 260), (26, .iload_n 1), (27, .imul), (28, .putfield 371), (31, .aload_n 0), (32, .sipush 200), (35, .iload_n 1), (36, .imul), (37, .putfield 384), (40, .aload_n 0), (41, .sipush 160), (44, .iload_n 1), (45, .imul), (46, .putfield 387), (49, .aload_n 0), (50, .sipush 300), (53, .iload_n 1), (54, .imul), (55, .putfield 412), (58, .aload_n 0), (59, .getfield 33), (62, .iload_n 1), (63, .iconst 0), (64, .iastore), (65, .aload_n 0), (66, .getfield 48), (69, .iload_n 1)]
set_option maxRecDepth 20000 in
theorem tb_e29_0 : ∀ q ∈ tb_d29_0, decode prog_14_method_32_code q.1 = .ok (q.2, mm_ln q.2) := by decide +kernel
def tb_d29_1 : List (Nat × Instr) := [(70, .iconst 0), (71, .iastore), (72, .aload_n 0), (73, .getfield 39), (76, .iload_n 1), (77, .iconst 0), (78, .iastore), (79, .aload_n 0), (80, .getfield 36), (83, .iload_n 1), (84, .aload_n 0), (85, .getfield 384), (88, .iastore), (89, .aload_n 0), (90, .iconst (-1)), (91, .putfield 396), (94, .aload_n 0), (95, .sipush 4955), (98, .invokevirtual 415), (101, .aload_n 0), (102, .getfield 17), (105, .aload_n 0), (106, .getfield 330), (109, .iaload), (110, .istore_n 2), (111, .aload_n 0), (112, .getfield 27), (115, .iload_n 1), (116, .aload_n 0), (117, .invokevirtual 364), (120, .iastore), (121, .aload_n 0), (122, .getfield 333), (125, .ifCond .ne 27), (128, .aload_n 0), (129, .bipush 123), (131, .invokevirtual 345), (134, .ifCond .eq 18), (137, .aload_n 0), (138, .dup)]
set_option maxRecDepth 20000 in
theorem tb_e29_1 : ∀ q ∈ tb_d29_1, decode prog_14_method_32_code q.1 = .ok (q.2, mm_ln q.2) := by decide +kernel
def tb_d29_2 : List (Nat × Instr) := [(139, .getfield 330), (142, .iconst 1), (143, .iadd), (144, .putfield 330), (147, .aload_n 0), (148, .iload_n 1), (149, .invokevirtual 418), (152, .aload_n 0), (153, .bipush 40), (155, .invokevirtual 390), (158, .aload_n 0), (159, .getfield 333), (162, .ifCond .ne 8), (165, .aload_n 0), (166, .iload_n 1), (167, .invokevirtual 421), (170, .aload_n 0), (171, .bipush 58), (173, .invokevirtual 390), (176, .aload_n 0), (177, .getfield 51), (180, .iload_n 1), (181, .aload_n 0), (182, .getfield 333), (185, .ifCond .eq 7), (188, .iconst 0), (189, .goto 7), (192, .aload_n 0), (193, .invokevirtual 406), (196, .iastore), (197, .aload_n 0), (198, .bipush 61), (200, .invokevirtual 390), (203, .aload_n 0), (204, .getfield 333), (207, .ifCond .ne 13), (210, .aload_n 0), (211, .getfield 54), (214, .iload_n 1), (215, .aload_n 0)]
set_option maxRecDepth 20000 in
theorem tb_e29_2 : ∀ q ∈ tb_d29_2, decode prog_14_method_32_code q.1 = .ok (q.2, mm_ln q.2) := by decide +kernel
def tb_d29_3 : List (Nat × Instr) := [(216, .invokevirtual 424), (219, .iastore), (220, .aload_n 0), (221, .getfield 333), (224, .ifCond .ne 19), (227, .aload_n 0), (228, .getfield 13), (231, .aload_n 0), (232, .getfield 330), (235, .iaload), (236, .ifCond .eq 7), (239, .aload_n 0), (240, .invokevirtual 348), (243, .iconst 0), (244, .istore_n 3), (245, .iload_n 3), (246, .iload_n 1), (247, .if_icmp .ge 36), (250, .aload_n 0), (251, .getfield 396), (254, .ifCond .ge 29), (257, .aload_n 0), (258, .getfield 27), (261, .iload_n 3), (262, .iaload), (263, .aload_n 0), (264, .getfield 27), (267, .iload_n 1), (268, .iaload), (269, .if_icmp .ne 8), (272, .aload_n 0), (273, .iload_n 2), (274, .putfield 396), (277, .iinc 3 1), (280, .goto (-35)), (283, .aload_n 0), (284, .getfield 333), (287, .ifCond .ne 7), (290, .iconst 1), (291, .goto 4)]
set_option maxRecDepth 20000 in
theorem tb_e29_3 : ∀ q ∈ tb_d29_3, decode prog_14_method_32_code q.1 = .ok (q.2, mm_ln q.2) := by decide +kernel
def tb_d29_4 : List (Nat × Instr) := [(294, .iconst 0), (295, .ireturn)]
set_option maxRecDepth 20000 in
theorem tb_e29_4 : ∀ q ∈ tb_d29_4, decode prog_14_method_32_code q.1 = .ok (q.2, mm_ln q.2) := by decide +kernel
def tb_d29 : List (Nat × Instr) := tb_d29_0 ++ (tb_d29_1 ++ (tb_d29_2 ++ (tb_d29_3 ++ (tb_d29_4))))
theorem tb_e29 : ∀ q ∈ tb_d29, decode prog_14_method_32_code q.1 = .ok (q.2, mm_ln q.2) := List.forall_mem_append.mpr ⟨tb_e29_0, List.forall_mem_append.mpr ⟨tb_e29_1, List.forall_mem_append.mpr ⟨tb_e29_2, List.forall_mem_append.mpr ⟨tb_e29_3, tb_e29_4⟩⟩⟩⟩
-- 30 IndexedCompilerModel.define()I
def tb_d30 : List (Nat × Instr) := [(0, .aload_n 0), (1, .iconst 0), (2, .putfield 302), (5, .aload_n 0), (6, .aload_n 0), (7, .getfield 470), (10, .invokevirtual 473), (13, .istore_n 1), (14, .aload_n 0), (15, .aload_n 0), (16, .getfield 333), (19, .ifCond .eq 10), (22, .aload_n 0), (23, .getfield 339), (26, .goto 7), (29, .aload_n 0), (30, .getfield 396), (33, .putfield 23), (36, .iload_n 1), (37, .ifCond .ne 6), (40, .bipush (-2)), (42, .ireturn), (43, .aload_n 0), (44, .getfield 396), (47, .ifCond .lt 6), (50, .bipush (-3)), (52, .ireturn), (53, .aload_n 0), (54, .getfield 470), (57, .bipush 8), (59, .if_icmp .ne 6), (62, .bipush (-4)), (64, .ireturn), (65, .aload_n 0), (66, .dup), (67, .getfield 470), (70, .iconst 1), (71, .iadd), (72, .putfield 470), (75, .aload_n 0), (76, .invokevirtual 476), (79, .aload_n 0), (80, .getfield 470), (83, .iconst 1), (84, .isub), (85, .ireturn)]
set_option maxRecDepth 20000 in
theorem tb_e30 : ∀ q ∈ tb_d30, decode prog_14_method_45_code q.1 = .ok (q.2, mm_ln q.2) := by decide +kernel
-- 31 IndexedCompilerModel.clear()I
def tb_d31 : List (Nat × Instr) := [(0, .aload_n 0), (1, .iconst 0), (2, .putfield 302), (5, .aload_n 0), (6, .getfield 470), (9, .istore_n 1), (10, .aload_n 0), (11, .iconst 0), (12, .putfield 470), (15, .aload_n 0), (16, .invokevirtual 476), (19, .iload_n 1), (20, .ireturn)]
set_option maxRecDepth 20000 in
theorem tb_e31 : ∀ q ∈ tb_d31, decode prog_14_method_46_code q.1 = .ok (q.2, mm_ln q.2) := by decide +kernel
-- 32 IndexedCompilerModel.uncheck()V
def tb_d32 : List (Nat × Instr) := [(0, .aload_n 0), (1, .iconst 0), (2, .putfield 479), (5, .aload_n 0), (6, .iconst 0), (7, .putfield 482), (10, .aload_n 0), (11, .iconst 0), (12, .putfield 485), (15, .aload_n 0), (16, .iconst 0), (17, .putfield 488), (20, .aload_n 0), (21, .iconst (-1)), (22, .putfield 154), (25, .aload_n 0), (26, .iconst 0), (27, .putfield 491), (30, .return_)]
set_option maxRecDepth 20000 in
theorem tb_e32 : ∀ q ∈ tb_d32, decode prog_14_method_47_code q.1 = .ok (q.2, mm_ln q.2) := by decide +kernel
-- 33 IndexedCompilerModel.place()I
def tb_d33 : List (Nat × Instr) := [(0, .aload_n 0), (1, .iconst 0), (2, .putfield 302), (5, .aload_n 0), (6, .getfield 23), (9, .ireturn)]
set_option maxRecDepth 20000 in
theorem tb_e33 : ∀ q ∈ tb_d33, decode prog_14_method_48_code q.1 = .ok (q.2, mm_ln q.2) := by decide +kernel
-- 34 IndexedCompilerModel.check()I
def tb_d34 : List (Nat × Instr) := [(0, .aload_n 0), (1, .iconst 0), (2, .putfield 302), (5, .aload_n 0), (6, .invokevirtual 476), (9, .aload_n 0), (10, .iconst 0), (11, .putfield 494), (14, .aload_n 0), (15, .iconst (-1)), (16, .putfield 23), (19, .iconst 0), (20, .istore_n 1), (21, .iload_n 1), (22, .aload_n 0), (23, .getfield 470), (26, .if_icmp .ge 21), (29, .aload_n 0), (30, .getfield 494), (33, .ifCond .ne 14), (36, .aload_n 0), (37, .iload_n 1), (38, .invokevirtual 725), (41, .iinc 1 1), (44, .goto (-23)), (47, .iconst 0), (48, .istore_n 1), (49, .iload_n 1), (50, .aload_n 0), (51, .getfield 470), (54, .if_icmp .ge 46), (57, .aload_n 0), (58, .getfield 494), (61, .ifCond .ne 39), (64, .aload_n 0), (65, .iload_n 1), (66, .invokevirtual 725), (69, .aload_n 0), (70, .aload_n 0), (71, .getfield 520), (74, .putfield 619), (77, .aload_n 0), (78, .aload_n 0), (79, .getfield 54), (82, .iload_n 1), (83, .iaload), (84, .iconst 1), (85, .aload_n 0), (86, .getfield 51), (89, .iload_n 1), (90, .iaload), (91, .invokevirtual 728), (94, .iinc 1 1), (97, .goto (-48)), (100, .aload_n 0), (101, .getfield 494), (104, .ifCond .eq 22), (107, .aload_n 0), (108, .getfield 154), (111, .istore_n 1), (112, .aload_n 0), (113, .invokevirtual 476), (116, .aload_n 0), (117, .iload_n 1), (118, .putfield 154), (121, .aload_n 0), (122, .getfield 494), (125, .ireturn), (126, .aload_n 0), (127, .iconst 1), (128, .putfield 491), (131, .iconst 0), (132, .istore_n 1), (133, .iload_n 1), (134, .aload_n 0), (135, .getfield 479), (138, .if_icmp .ge 70), (141, .aload_n 0), (142, .aload_n 0), (143, .getfield 166), (146, .iload_n 1), (147, .baload), (148, .ifCond .eq 12), (151, .aload_n 0), (152, .getfield 482), (155, .iconst 1), (156, .iadd), (157, .goto 7), (160, .aload_n 0), (161, .getfield 482), (164, .putfield 482), (167, .aload_n 0), (168, .aload_n 0), (169, .getfield 491), (172, .ifCond .eq 26), (175, .aload_n 0), (176, .getfield 166), (179, .iload_n 1), (180, .baload), (181, .ifCond .ne 13), (184, .aload_n 0), (185, .getfield 163), (188, .iload_n 1), (189, .iaload), (190, .iconst 2), (191, .if_icmp .ge 7), (194, .iconst 1), (195, .goto 4), (198, .iconst 0), (199, .putfield 491), (202, .iinc 1 1), (205, .goto (-72)), (208, .iconst 0), (209, .istore_n 1), (210, .iload_n 1), (211, .aload_n 0), (212, .getfield 470), (215, .if_icmp .ge 21), (218, .aload_n 0), (219, .getfield 491), (222, .ifCond .eq 14), (225, .aload_n 0), (226, .iload_n 1), (227, .invokevirtual 731), (230, .iinc 1 1), (233, .goto (-23)), (236, .aload_n 0), (237, .getfield 491), (240, .ifCond .eq 7), (243, .iconst 1), (244, .goto 4), (247, .iconst 0), (248, .ireturn)]
set_option maxRecDepth 20000 in
theorem tb_e34 : ∀ q ∈ tb_d34, decode prog_14_method_101_code q.1 = .ok (q.2, mm_ln q.2) := by decide +kernel
-- 35 IndexedCompilerModel.count(I)I
def tb_d35 : List (Nat × Instr) := [(0, .aload_n 0), (1, .iload_n 1), (2, .i2l), (3, .lconst 0), (4, .ldc2_w 734), (7, .invokestatic 736), (10, .ifCond .eq 7), (13, .iconst 0), (14, .goto 4), (17, .iconst 1), (18, .invokevirtual 312), (21, .ifCond .eq 5), (24, .iconst 0), (25, .ireturn), (26, .iload_n 1), (60, .aload_n 0), (61, .getfield 470), (64, .ireturn), (65, .aload_n 0), (66, .getfield 479), (69, .ireturn), (70, .aload_n 0), (71, .getfield 482), (74, .ireturn), (75, .aload_n 0), (76, .getfield 485), (79, .ireturn), (80, .aload_n 0), (81, .getfield 488), (84, .ireturn), (85, .aload_n 0), (86, .getfield 154), (89, .ireturn)]
set_option maxRecDepth 20000 in
theorem tb_e35 : ∀ q ∈ tb_d35, decode prog_14_method_102_code q.1 = .ok (q.2, mm_ln q.2) := by decide +kernel
-- 36 IndexedCompilerModel.goal(II)I
def tb_d36 : List (Nat × Instr) := [(0, .aload_n 0), (1, .iload_n 2), (2, .i2l), (3, .lconst 0), (4, .ldc2_w 734), (7, .invokestatic 736), (10, .ifCond .ne 7), (13, .iconst 1), (14, .goto 24), (17, .iload_n 1), (18, .i2l), (19, .lconst 0), (20, .aload_n 0), (21, .getfield 479), (24, .iconst 1), (25, .isub), (26, .i2l), (27, .invokestatic 736), (30, .ifCond .ne 7), (33, .iconst 2), (34, .goto 4), (37, .iconst 0), (38, .invokevirtual 312), (41, .ifCond .eq 5), (44, .iconst 0), (45, .ireturn), (46, .iload_n 2), (80, .aload_n 0), (81, .getfield 157), (84, .iload_n 1), (85, .iaload), (86, .ireturn), (87, .aload_n 0), (88, .getfield 160), (91, .iload_n 1), (92, .iaload), (93, .ireturn), (94, .aload_n 0), (95, .getfield 163), (98, .iload_n 1), (99, .iaload), (100, .ireturn), (101, .aload_n 0), (102, .getfield 166), (105, .iload_n 1), (106, .baload), (107, .ifCond .eq 7), (110, .iconst 1), (111, .goto 4), (114, .iconst 0), (115, .ireturn), (116, .aload_n 0), (117, .getfield 169), (120, .iload_n 1), (121, .iaload), (122, .ireturn), (123, .aload_n 0), (124, .getfield 172), (127, .iload_n 1), (128, .iaload), (129, .ireturn)]
set_option maxRecDepth 20000 in
theorem tb_e36 : ∀ q ∈ tb_d36, decode prog_14_method_103_code q.1 = .ok (q.2, mm_ln q.2) := by decide +kernel
-- 37 IndexedCompilerModel.code(III)I
def tb_d37 : List (Nat × Instr) := [(0, .aload_n 0), (1, .iload_n 2), (2, .i2l), (3, .lconst 0), (4, .lconst 1), (5, .invokestatic 736), (8, .ifCond .eq 7), (11, .iload_n 3), (12, .ifCond .ge 7), (15, .iconst 1), (16, .goto 16), (19, .aload_n 0), (20, .iload_n 1), (21, .invokevirtual 771), (24, .ifCond .ne 7), (27, .iconst 2), (28, .goto 4), (31, .iconst 0), (32, .invokevirtual 312), (35, .ifCond .eq 5), (38, .iconst 0), (39, .ireturn), (40, .iload_n 3), (41, .iconst 2), (42, .idiv), (43, .aload_n 0), (44, .getfield 248), (47, .iload_n 1), (48, .iaload), (49, .if_icmp .lt 5), (52, .iconst (-1)), (53, .ireturn), (54, .sipush 1200), (57, .iload_n 1), (58, .imul), (59, .iload_n 3), (60, .iconst 2), (61, .idiv), (62, .iadd), (63, .istore 4), (65, .iload_n 3), (66, .iconst 2), (67, .irem), (68, .ifCond .ne 13), (71, .aload_n 0), (72, .iload 4), (74, .iload_n 2), (75, .invokevirtual 774), (78, .goto 10), (81, .aload_n 0), (82, .getfield 254), (85, .iload 4), (87, .iaload), (88, .ireturn)]
set_option maxRecDepth 20000 in
theorem tb_e37 : ∀ q ∈ tb_d37, decode prog_14_method_115_code q.1 = .ok (q.2, mm_ln q.2) := by decide +kernel
-- 38 IndexedCompilerModel.isRunnable(I)Z
def tb_d38 : List (Nat × Instr) := [(0, .aload_n 0), (1, .getfield 491), (4, .ifCond .eq 23), (7, .iload_n 1), (8, .i2l), (9, .lconst 0), (10, .aload_n 0), (11, .getfield 470), (14, .iconst 1), (15, .isub), (16, .i2l), (17, .invokestatic 736), (20, .ifCond .eq 7), (23, .iconst 1), (24, .goto 4), (27, .iconst 0), (28, .ireturn)]
set_option maxRecDepth 20000 in
theorem tb_e38 : ∀ q ∈ tb_d38, decode prog_14_method_113_code q.1 = .ok (q.2, mm_ln q.2) := by decide +kernel
-- 39 IndexedCompilerModel.isNumber(I)Z
def tb_d39 : List (Nat × Instr) := [(0, .iload_n 0), (1, .i2l), (2, .ldc2_w 593), (5, .ldc2_w 591), (8, .invokestatic 736), (11, .ireturn)]
set_option maxRecDepth 20000 in
theorem tb_e39 : ∀ q ∈ tb_d39, decode prog_14_method_116_code q.1 = .ok (q.2, mm_ln q.2) := by decide +kernel
-- 40 IndexedCompilerModel.isSlot(I)Z
def tb_d40 : List (Nat × Instr) := [(0, .iload_n 0), (1, .i2l), (2, .lconst 0), (3, .ldc2_w 734), (6, .invokestatic 736), (9, .ireturn)]
set_option maxRecDepth 20000 in
theorem tb_e40 : ∀ q ∈ tb_d40, decode prog_14_method_117_code q.1 = .ok (q.2, mm_ln q.2) := by decide +kernel
-- 41 IndexedCompilerModel.set(II)V
def tb_d41 : List (Nat × Instr) := [(0, .aload_n 0), (1, .iload_n 1), (2, .invokestatic 778), (5, .ifCond .eq 14), (8, .iload_n 2), (9, .invokestatic 781), (12, .ifCond .eq 7), (15, .iconst 0), (16, .goto 4), (19, .iconst 1), (20, .invokevirtual 312), (23, .ifCond .ne 17), (26, .aload_n 0), (27, .getfield 263), (30, .iload_n 1), (31, .iconst 0), (32, .bastore), (33, .aload_n 0), (34, .getfield 266), (37, .iload_n 1), (38, .iload_n 2), (39, .iastore), (40, .return_)]
set_option maxRecDepth 20000 in
theorem tb_e41 : ∀ q ∈ tb_d41, decode prog_14_method_118_code q.1 = .ok (q.2, mm_ln q.2) := by decide +kernel
-- 42 IndexedCompilerModel.make(II)V
def tb_d42 : List (Nat × Instr) := [(0, .aload_n 0), (1, .iload_n 1), (2, .invokestatic 778), (5, .ifCond .eq 19), (8, .iload_n 2), (9, .i2l), (10, .lconst 0), (11, .ldc2_w 784), (14, .invokestatic 736), (17, .ifCond .eq 7), (20, .iconst 0), (21, .goto 4), (24, .iconst 1), (25, .invokevirtual 312), (28, .ifCond .ne 43), (31, .aload_n 0), (32, .getfield 263), (35, .iload_n 1), (36, .iconst 1), (37, .bastore), (38, .aload_n 0), (39, .getfield 266), (42, .iload_n 1), (43, .iload_n 2), (44, .iastore), (45, .iconst 0), (46, .istore_n 3), (47, .iload_n 3), (48, .bipush 40), (50, .if_icmp .ge 21), (53, .aload_n 0), (54, .getfield 269), (57, .bipush 40), (59, .iload_n 1), (60, .imul), (61, .iload_n 3), (62, .iadd), (63, .iconst 0), (64, .iastore), (65, .iinc 3 1), (68, .goto (-21)), (71, .return_)]
set_option maxRecDepth 20000 in
theorem tb_e42 : ∀ q ∈ tb_d42, decode prog_14_method_119_code q.1 = .ok (q.2, mm_ln q.2) := by decide +kernel
-- 43 IndexedCompilerModel.hasNumber(II)Z
def tb_d43 : List (Nat × Instr) := [(0, .aload_n 0), (1, .getfield 263), (4, .iload_n 1), (5, .baload), (6, .ifCond .eq 25), (9, .iload_n 2), (10, .i2l), (11, .lconst 0), (12, .aload_n 0), (13, .getfield 266), (16, .iload_n 1), (17, .iaload), (18, .iconst 1), (19, .isub), (20, .i2l), (21, .invokestatic 736), (24, .ifCond .eq 7), (27, .iconst 1), (28, .goto 4), (31, .iconst 0), (32, .ireturn)]
set_option maxRecDepth 20000 in
theorem tb_e43 : ∀ q ∈ tb_d43, decode prog_14_method_120_code q.1 = .ok (q.2, mm_ln q.2) := by decide +kernel
-- 44 IndexedCompilerModel.put(III)V
def tb_d44 : List (Nat × Instr) := [(0, .iload_n 1), (1, .invokestatic 778), (4, .ifCond .eq 14), (7, .iload_n 3), (8, .invokestatic 781), (11, .ifCond .eq 7), (14, .iconst 1), (15, .goto 4), (18, .iconst 0), (19, .istore 4), (21, .aload_n 0), (22, .iload 4), (24, .ifCond .ne 7), (27, .iconst 1), (28, .goto 17), (31, .aload_n 0), (32, .iload_n 1), (33, .iload_n 2), (34, .invokevirtual 786), (37, .ifCond .ne 7), (40, .iconst 2), (41, .goto 4), (44, .iconst 0), (45, .invokevirtual 312), (48, .ifCond .ne 15), (51, .aload_n 0), (52, .getfield 269), (55, .bipush 40), (57, .iload_n 1), (58, .imul), (59, .iload_n 2), (60, .iadd), (61, .iload_n 3), (62, .iastore), (63, .return_)]
set_option maxRecDepth 20000 in
theorem tb_e44 : ∀ q ∈ tb_d44, decode prog_14_method_121_code q.1 = .ok (q.2, mm_ln q.2) := by decide +kernel
-- 45 IndexedCompilerModel.get(II)I
def tb_d45 : List (Nat × Instr) := [(0, .iload_n 1), (1, .invokestatic 778), (4, .istore_n 3), (5, .aload_n 0), (6, .iload_n 3), (7, .ifCond .ne 7), (10, .iconst 1), (11, .goto 22), (14, .iload_n 2), (15, .iconst (-1)), (16, .if_icmp .eq 16), (19, .aload_n 0), (20, .iload_n 1), (21, .iload_n 2), (22, .invokevirtual 786), (25, .ifCond .ne 7), (28, .iconst 2), (29, .goto 4), (32, .iconst 0), (33, .invokevirtual 312), (36, .ifCond .eq 5), (39, .iconst 0), (40, .ireturn), (41, .iload_n 2), (42, .iconst (-1)), (43, .if_icmp .ne 12), (46, .aload_n 0), (47, .getfield 266), (50, .iload_n 1), (51, .iaload), (52, .goto 14), (55, .aload_n 0), (56, .getfield 269), (59, .bipush 40), (61, .iload_n 1), (62, .imul), (63, .iload_n 2), (64, .iadd), (65, .iaload), (66, .ireturn)]
set_option maxRecDepth 20000 in
theorem tb_e45 : ∀ q ∈ tb_d45, decode prog_14_method_122_code q.1 = .ok (q.2, mm_ln q.2) := by decide +kernel
-- 46 IndexedCompilerModel.value(II)I
def tb_d46 : List (Nat × Instr) := [(0, .aload_n 0), (1, .iload_n 1), (2, .i2l), (3, .lconst 0), (4, .ldc2_w 789), (7, .invokestatic 736), (10, .ifCond .eq 14), (13, .iload_n 2), (14, .invokestatic 781), (17, .ifCond .eq 7), (20, .iconst 0), (21, .goto 4), (24, .iconst 1), (25, .invokevirtual 312), (28, .ifCond .eq 5), (31, .iconst 0), (32, .ireturn), (33, .aload_n 0), (34, .getfield 272), (37, .iload_n 1), (38, .iaload), (39, .istore_n 3), (40, .aload_n 0), (41, .getfield 272), (44, .iload_n 1), (45, .iload_n 2), (46, .iastore), (47, .iload_n 3), (48, .ireturn)]
set_option maxRecDepth 20000 in
theorem tb_e46 : ∀ q ∈ tb_d46, decode prog_14_method_123_code q.1 = .ok (q.2, mm_ln q.2) := by decide +kernel
-- 47 IndexedCompilerModel.run(III)I
def tb_d47_0 : List (Nat × Instr) := [(0, .aload_n 0), (1, .iload_n 2), (2, .i2l), (3, .lconst 0), (4, .lconst 1), (5, .invokestatic 736), (8, .ifCond .eq 15), (11, .iload_n 3), (12, .i2l), (13, .lconst 1), (14, .ldc2_w 853), (17, .invokestatic 736), (20, .ifCond .ne 7), (23, .iconst 1), (24, .goto 16), (27, .aload_n 0), (28, .iload_n 1), (29, .invokevirtual 771), (32, .ifCond .ne 7), (35, .iconst 2), (36, .goto 4), (39, .iconst 0), (40, .invokevirtual 312), (43, .ifCond .eq 5), (46, .iconst 0), (47, .ireturn), (48, .aload_n 0), (49, .iload_n 1), (50, .invokevirtual 855), (53, .ifCond .ne 6), (56, .bipush (-9)), (58, .ireturn), (59, .aload_n 0), (60, .iload_n 1), (61, .invokevirtual 858), (64, .iconst 0), (65, .istore 4), (67, .iload 4), (69, .ifCond .ne 38), (72, .aload_n 0), (73, .getfield 818), (76, .iload_n 3), (77, .if_icmp .ne 10), (80, .bipush (-10))]
set_option maxRecDepth 20000 in
theorem tb_e47_0 : ∀ q ∈ tb_d47_0, decode prog_14_method_136_code q.1 = .ok (q.2, mm_ln q.2) := by decide +kernel
def tb_d47_1 : List (Nat × Instr) := [(82, .istore 4), (84, .goto (-17)), (87, .aload_n 0), (88, .dup), (89, .getfield 818), (92, .iconst 1), (93, .iadd), (94, .putfield 818), (97, .aload_n 0), (98, .iload_n 2), (99, .invokevirtual 861), (102, .istore 4), (104, .goto (-37)), (107, .aload_n 0), (108, .iload 4), (110, .putfield 864), (113, .iload 4), (115, .iconst 1), (116, .if_icmp .ne 67), (119, .aload_n 0), (120, .getfield 109), (123, .aload_n 0), (124, .getfield 51), (127, .iload_n 1), (128, .iaload), (129, .iaload), (130, .iconst 3), (131, .if_icmp .ne 7), (134, .iconst 1), (135, .goto 4), (138, .iconst 0), (139, .istore 5), (141, .aload_n 0), (142, .invokevirtual 830), (145, .istore 6), (147, .aload_n 0), (148, .iload 5), (150, .ifCond .eq 8), (153, .iload 6), (155, .goto 4), (158, .iconst (-1)), (159, .putfield 293), (162, .aload_n 0), (163, .iload 5)]
set_option maxRecDepth 20000 in
theorem tb_e47_1 : ∀ q ∈ tb_d47_1, decode prog_14_method_136_code q.1 = .ok (q.2, mm_ln q.2) := by decide +kernel
def tb_d47_2 : List (Nat × Instr) := [(165, .ifCond .eq 13), (168, .aload_n 0), (169, .getfield 275), (172, .iload 6), (174, .iaload), (175, .goto 5), (178, .iload 6), (180, .putfield 815), (183, .iconst 0), (184, .istore 5), (186, .iload 5), (188, .aload_n 0), (189, .getfield 48), (192, .iload_n 1), (193, .iaload), (194, .if_icmp .ge 70), (197, .iconst 0), (198, .istore 6), (200, .iload 6), (202, .aload_n 0), (203, .getfield 266), (206, .iload 5), (208, .iaload), (209, .if_icmp .ge 49), (212, .aload_n 0), (213, .getfield 263), (216, .iload 5), (218, .baload), (219, .ifCond .eq 39), (222, .aload_n 0), (223, .getfield 269), (226, .bipush 40), (228, .iload 5), (230, .imul), (231, .iload 6), (233, .iadd), (234, .aload_n 0), (235, .getfield 275), (238, .aload_n 0), (239, .getfield 296), (242, .iload 5), (244, .iaload), (245, .iconst 1), (246, .iadd)]
set_option maxRecDepth 20000 in
theorem tb_e47_2 : ∀ q ∈ tb_d47_2, decode prog_14_method_136_code q.1 = .ok (q.2, mm_ln q.2) := by decide +kernel
def tb_d47_3 : List (Nat × Instr) := [(247, .iload 6), (249, .iadd), (250, .iaload), (251, .iastore), (252, .iinc 6 1), (255, .goto (-55)), (258, .iinc 5 1), (261, .goto (-75)), (264, .iload 4), (266, .ireturn)]
set_option maxRecDepth 20000 in
theorem tb_e47_3 : ∀ q ∈ tb_d47_3, decode prog_14_method_136_code q.1 = .ok (q.2, mm_ln q.2) := by decide +kernel
def tb_d47 : List (Nat × Instr) := tb_d47_0 ++ (tb_d47_1 ++ (tb_d47_2 ++ (tb_d47_3)))
theorem tb_e47 : ∀ q ∈ tb_d47, decode prog_14_method_136_code q.1 = .ok (q.2, mm_ln q.2) := List.forall_mem_append.mpr ⟨tb_e47_0, List.forall_mem_append.mpr ⟨tb_e47_1, List.forall_mem_append.mpr ⟨tb_e47_2, tb_e47_3⟩⟩⟩
-- 48 IndexedCompilerModel.told(I)I
def tb_d48 : List (Nat × Instr) := [(0, .aload_n 0), (1, .iload_n 1), (2, .i2l), (3, .lconst 0), (4, .ldc2_w 867), (7, .invokestatic 736), (10, .ifCond .eq 7), (13, .iconst 0), (14, .goto 4), (17, .iconst 1), (18, .invokevirtual 312), (21, .ifCond .eq 5), (24, .iconst 0), (25, .ireturn), (26, .iload_n 1), (68, .aload_n 0), (69, .getfield 864), (72, .ireturn), (73, .aload_n 0), (74, .getfield 815), (77, .ireturn), (78, .aload_n 0), (79, .getfield 818), (82, .ireturn), (83, .aload_n 0), (84, .getfield 821), (87, .ireturn), (88, .aload_n 0), (89, .getfield 824), (92, .ireturn), (93, .aload_n 0), (94, .getfield 812), (97, .ireturn), (98, .aload_n 0), (99, .getfield 827), (102, .ireturn), (103, .aload_n 0), (104, .getfield 803), (107, .ireturn)]
set_option maxRecDepth 20000 in
theorem tb_e48 : ∀ q ∈ tb_d48, decode prog_14_method_137_code q.1 = .ok (q.2, mm_ln q.2) := by decide +kernel
-- 49 IndexedCompilerModel.printed(IZ)I
def tb_d49 : List (Nat × Instr) := [(0, .aload_n 0), (1, .iconst 0), (2, .putfield 302), (5, .iload_n 2), (6, .ifCond .eq 49), (9, .aload_n 0), (10, .getfield 293), (13, .ifCond .lt 40), (16, .iload_n 1), (17, .i2l), (18, .lconst 0), (19, .aload_n 0), (20, .getfield 275), (23, .aload_n 0), (24, .getfield 293), (27, .iaload), (28, .iconst 1), (29, .isub), (30, .i2l), (31, .invokestatic 736), (34, .ifCond .eq 19), (37, .aload_n 0), (38, .getfield 275), (41, .aload_n 0), (42, .getfield 293), (45, .iconst 1), (46, .iadd), (47, .iload_n 1), (48, .iadd), (49, .iaload), (50, .goto 4), (53, .iconst (-1)), (54, .ireturn), (55, .iload_n 1), (56, .i2l), (57, .lconst 0), (58, .aload_n 0), (59, .getfield 812), (62, .bipush 100), (64, .invokestatic 869), (67, .iconst 1), (68, .isub), (69, .i2l), (70, .invokestatic 736), (73, .ifCond .eq 12), (76, .aload_n 0), (77, .getfield 290), (80, .iload_n 1), (81, .iaload), (82, .goto 4), (85, .iconst (-1)), (86, .ireturn)]
set_option maxRecDepth 20000 in
theorem tb_e49 : ∀ q ∈ tb_d49, decode prog_14_method_138_code q.1 = .ok (q.2, mm_ln q.2) := by decide +kernel
-- 50 IndexedCompilerModel.isDesk(IIII)Z
def tb_d50 : List (Nat × Instr) := [(0, .iload_n 0), (1, .i2l), (2, .ldc2_w 871), (5, .ldc2_w 873), (8, .invokestatic 736), (11, .ifCond .eq 49), (14, .iload_n 1), (15, .i2l), (16, .ldc2_w 871), (19, .ldc2_w 873), (22, .invokestatic 736), (25, .ifCond .eq 35), (28, .iload_n 2), (29, .i2l), (30, .ldc2_w 871), (33, .ldc2_w 873), (36, .invokestatic 736), (39, .ifCond .eq 21), (42, .iload_n 3), (43, .i2l), (44, .ldc2_w 511), (47, .ldc2_w 509), (50, .invokestatic 736), (53, .ifCond .eq 7), (56, .iconst 1), (57, .goto 4), (60, .iconst 0), (61, .ireturn)]
set_option maxRecDepth 20000 in
theorem tb_e50 : ∀ q ∈ tb_d50, decode prog_14_method_139_code q.1 = .ok (q.2, mm_ln q.2) := by decide +kernel
-- 51 IndexedCompilerModel.putDesk([JIIIII)V
def tb_d51 : List (Nat × Instr) := [(0, .iconst 0), (1, .istore 6), (3, .iload 6), (5, .bipush 25), (7, .if_icmp .ge 16), (10, .aload_n 0), (11, .iload_n 1), (12, .iload 6), (14, .iadd), (15, .lconst 0), (16, .lastore), (17, .iinc 6 1), (20, .goto (-17)), (23, .aload_n 0), (24, .iload_n 1), (25, .iload_n 2), (26, .i2l), (27, .lastore), (28, .aload_n 0), (29, .iload_n 1), (30, .iconst 1), (31, .iadd), (32, .iload_n 3), (33, .i2l), (34, .lastore), (35, .aload_n 0), (36, .iload_n 1), (37, .iconst 2), (38, .iadd), (39, .iload 4), (41, .i2l), (42, .lastore), (43, .aload_n 0), (44, .iload_n 1), (45, .bipush 24), (47, .iadd), (48, .iload 5), (50, .i2l), (51, .lastore), (52, .return_)]
set_option maxRecDepth 20000 in
theorem tb_e51 : ∀ q ∈ tb_d51, decode prog_14_method_140_code q.1 = .ok (q.2, mm_ln q.2) := by decide +kernel
-- 52 IndexedCompilerModel.fact(IIII)I
def tb_d52 : List (Nat × Instr) := [(0, .aload_n 0), (1, .iload_n 1), (2, .iload_n 2), (3, .iload_n 3), (4, .iload 4), (6, .invokestatic 875), (9, .ifCond .ne 7), (12, .iconst 1), (13, .goto 17), (16, .aload_n 0), (17, .getfield 879), (20, .bipush 40), (22, .if_icmp .ne 7), (25, .iconst 2), (26, .goto 4), (29, .iconst 0), (30, .invokevirtual 312), (33, .ifCond .eq 5), (36, .iconst 0), (37, .ireturn), (38, .aload_n 0), (39, .getfield 299), (42, .bipush 25), (44, .aload_n 0), (45, .getfield 879), (48, .imul), (49, .iload_n 1), (50, .iload_n 2), (51, .iload_n 3), (52, .iload 4), (54, .invokestatic 882), (57, .aload_n 0), (58, .dup), (59, .getfield 879), (62, .iconst 1), (63, .iadd), (64, .putfield 879), (67, .aload_n 0), (68, .getfield 879), (71, .ireturn)]
set_option maxRecDepth 20000 in
theorem tb_e52 : ∀ q ∈ tb_d52, decode prog_14_method_141_code q.1 = .ok (q.2, mm_ln q.2) := by decide +kernel
-- 53 IndexedCompilerModel.ask(IIII)Z
def tb_d53 : List (Nat × Instr) := [(0, .aload_n 0), (1, .iload_n 1), (2, .iload_n 2), (3, .iload_n 3), (4, .iload 4), (6, .invokestatic 875), (9, .ifCond .eq 7), (12, .iconst 0), (13, .goto 4), (16, .iconst 1), (17, .invokevirtual 312), (20, .ifCond .eq 5), (23, .iconst 0), (24, .ireturn), (25, .aload_n 0), (26, .getfield 203), (29, .iconst 0), (30, .iload_n 1), (31, .iload_n 2), (32, .iload_n 3), (33, .iload 4), (35, .invokestatic 882), (38, .aload_n 0), (39, .aload_n 0), (40, .getfield 299), (43, .aload_n 0), (44, .getfield 879), (47, .invokevirtual 579), (50, .ireturn)]
set_option maxRecDepth 20000 in
theorem tb_e53 : ∀ q ∈ tb_d53, decode prog_14_method_142_code q.1 = .ok (q.2, mm_ln q.2) := by decide +kernel
-- 54 IndexedCompilerModel.forget()I
def tb_d54 : List (Nat × Instr) := [(0, .aload_n 0), (1, .iconst 0), (2, .putfield 302), (5, .aload_n 0), (6, .getfield 879), (9, .istore_n 1), (10, .aload_n 0), (11, .iconst 0), (12, .putfield 879), (15, .iload_n 1), (16, .ireturn)]
set_option maxRecDepth 20000 in
theorem tb_e54 : ∀ q ∈ tb_d54, decode prog_14_method_143_code q.1 = .ok (q.2, mm_ln q.2) := by decide +kernel
-- 55 IndexedCompilerModel.gcd(JJ)J
def tb_d55 : List (Nat × Instr) := [(0, .lload_n 0), (1, .lconst 0), (2, .lcmp), (3, .ifCond .ge 8), (6, .lload_n 0), (7, .lneg), (8, .goto 4), (11, .lload_n 0), (12, .lstore 4), (14, .lload_n 2), (15, .lconst 0), (16, .lcmp), (17, .ifCond .ge 8), (20, .lload_n 2), (21, .lneg), (22, .goto 4), (25, .lload_n 2), (26, .lstore 6), (28, .lload 6), (30, .lconst 0), (31, .lcmp), (32, .ifCond .eq 21), (35, .lload 4), (37, .lload 6), (39, .lrem), (40, .lstore 8), (42, .lload 6), (44, .lstore 4), (46, .lload 8), (48, .lstore 6), (50, .goto (-22)), (53, .lload 4), (55, .lreturn)]
set_option maxRecDepth 20000 in
theorem tb_e55 : ∀ q ∈ tb_d55, decode prog_14_method_68_code q.1 = .ok (q.2, mm_ln q.2) := by decide +kernel
-- 56 IndexedCompilerModel.keep()Z
def tb_d56_0 : List (Nat × Instr) := [(0, .lconst 0), (1, .lstore_n 1), (2, .iconst 0), (3, .istore_n 3), (4, .iload_n 3), (5, .bipush 24), (7, .if_icmp .ge 20), (10, .lload_n 1), (11, .aload_n 0), (12, .getfield 218), (15, .iload_n 3), (16, .laload), (17, .invokestatic 582), (20, .lstore_n 1), (21, .iinc 3 1), (24, .goto (-20)), (27, .lload_n 1), (28, .lconst 0), (29, .lcmp), (30, .ifCond .le 49), (33, .iconst 0), (34, .istore_n 3), (35, .iload_n 3), (36, .bipush 24), (38, .if_icmp .ge 23), (41, .aload_n 0), (42, .getfield 218), (45, .iload_n 3), (46, .aload_n 0), (47, .getfield 218), (50, .iload_n 3), (51, .laload), (52, .lload_n 1), (53, .ldiv), (54, .lastore), (55, .iinc 3 1)]
set_option maxRecDepth 20000 in
theorem tb_e56_0 : ∀ q ∈ tb_d56_0, decode prog_14_method_69_code q.1 = .ok (q.2, mm_ln q.2) := by decide +kernel
def tb_d56_1 : List (Nat × Instr) := [(58, .goto (-23)), (61, .aload_n 0), (62, .getfield 218), (65, .bipush 24), (67, .aload_n 0), (68, .getfield 218), (71, .bipush 24), (73, .laload), (74, .lload_n 1), (75, .invokestatic 586), (78, .lastore), (79, .iconst 0), (80, .istore_n 3), (81, .iload_n 3), (82, .bipush 25), (84, .if_icmp .ge 37), (87, .aload_n 0), (88, .getfield 218), (91, .iload_n 3), (92, .laload), (93, .ldc2_w 591), (96, .lcmp), (97, .ifCond .gt 16), (100, .aload_n 0), (101, .getfield 218), (104, .iload_n 3), (105, .laload), (106, .ldc2_w 593), (109, .lcmp), (110, .ifCond .ge 5), (113, .iconst 0), (114, .ireturn), (115, .iinc 3 1), (118, .goto (-37)), (121, .lload_n 1), (122, .lconst 0)]
set_option maxRecDepth 20000 in
theorem tb_e56_1 : ∀ q ∈ tb_d56_1, decode prog_14_method_69_code q.1 = .ok (q.2, mm_ln q.2) := by decide +kernel
def tb_d56_2 : List (Nat × Instr) := [(123, .lcmp), (124, .ifCond .ne 33), (127, .aload_n 0), (128, .aload_n 0), (129, .getfield 595), (132, .ifCond .ne 15), (135, .aload_n 0), (136, .getfield 218), (139, .bipush 24), (141, .laload), (142, .lconst 0), (143, .lcmp), (144, .ifCond .ge 7), (147, .iconst 1), (148, .goto 4), (151, .iconst 0), (152, .putfield 595), (155, .iconst 1), (156, .ireturn), (157, .iconst 0), (158, .istore_n 3), (159, .iload_n 3), (160, .aload_n 0), (161, .getfield 598), (164, .if_icmp .ge 104), (167, .iconst 1), (168, .istore 4), (170, .iconst 0), (171, .istore 5), (173, .iload 5), (175, .bipush 24), (177, .if_icmp .ge 44), (180, .iload 4), (182, .ifCond .eq 39), (185, .aload_n 0), (186, .getfield 215)]
set_option maxRecDepth 20000 in
theorem tb_e56_2 : ∀ q ∈ tb_d56_2, decode prog_14_method_69_code q.1 = .ok (q.2, mm_ln q.2) := by decide +kernel
def tb_d56_3 : List (Nat × Instr) := [(189, .bipush 25), (191, .iload_n 3), (192, .imul), (193, .iload 5), (195, .iadd), (196, .laload), (197, .aload_n 0), (198, .getfield 218), (201, .iload 5), (203, .laload), (204, .lcmp), (205, .ifCond .ne 7), (208, .iconst 1), (209, .goto 4), (212, .iconst 0), (213, .istore 4), (215, .iinc 5 1), (218, .goto (-45)), (221, .iload 4), (223, .ifCond .eq 39), (226, .aload_n 0), (227, .getfield 215), (230, .bipush 25), (232, .iload_n 3), (233, .imul), (234, .bipush 24), (236, .iadd), (237, .aload_n 0), (238, .getfield 215), (241, .bipush 25), (243, .iload_n 3), (244, .imul), (245, .bipush 24), (247, .iadd), (248, .laload), (249, .aload_n 0)]
set_option maxRecDepth 20000 in
theorem tb_e56_3 : ∀ q ∈ tb_d56_3, decode prog_14_method_69_code q.1 = .ok (q.2, mm_ln q.2) := by decide +kernel
def tb_d56_4 : List (Nat × Instr) := [(250, .getfield 218), (253, .bipush 24), (255, .laload), (256, .invokestatic 601), (259, .lastore), (260, .iconst 1), (261, .ireturn), (262, .iinc 3 1), (265, .goto (-106)), (268, .aload_n 0), (269, .getfield 598), (272, .bipush 80), (274, .if_icmp .ne 5), (277, .iconst 0), (278, .ireturn), (279, .iconst 0), (280, .istore_n 3), (281, .iload_n 3), (282, .bipush 25), (284, .if_icmp .ge 29), (287, .aload_n 0), (288, .getfield 215), (291, .bipush 25), (293, .aload_n 0), (294, .getfield 598), (297, .imul), (298, .iload_n 3), (299, .iadd), (300, .aload_n 0), (301, .getfield 218), (304, .iload_n 3), (305, .laload), (306, .lastore), (307, .iinc 3 1), (310, .goto (-29)), (313, .aload_n 0)]
set_option maxRecDepth 20000 in
theorem tb_e56_4 : ∀ q ∈ tb_d56_4, decode prog_14_method_69_code q.1 = .ok (q.2, mm_ln q.2) := by decide +kernel
def tb_d56_5 : List (Nat × Instr) := [(314, .dup), (315, .getfield 598), (318, .iconst 1), (319, .iadd), (320, .putfield 598), (323, .iconst 1), (324, .ireturn)]
set_option maxRecDepth 20000 in
theorem tb_e56_5 : ∀ q ∈ tb_d56_5, decode prog_14_method_69_code q.1 = .ok (q.2, mm_ln q.2) := by decide +kernel
def tb_d56 : List (Nat × Instr) := tb_d56_0 ++ (tb_d56_1 ++ (tb_d56_2 ++ (tb_d56_3 ++ (tb_d56_4 ++ (tb_d56_5)))))
theorem tb_e56 : ∀ q ∈ tb_d56, decode prog_14_method_69_code q.1 = .ok (q.2, mm_ln q.2) := List.forall_mem_append.mpr ⟨tb_e56_0, List.forall_mem_append.mpr ⟨tb_e56_1, List.forall_mem_append.mpr ⟨tb_e56_2, List.forall_mem_append.mpr ⟨tb_e56_3, List.forall_mem_append.mpr ⟨tb_e56_4, tb_e56_5⟩⟩⟩⟩⟩
-- 57 IndexedCompilerModel.without(I)Z
def tb_d57 : List (Nat × Instr) := [(0, .iconst 0), (1, .istore_n 2), (2, .iload_n 2), (3, .aload_n 0), (4, .getfield 604), (7, .if_icmp .ge 180), (10, .aload_n 0), (11, .getfield 212), (14, .bipush 25), (16, .iload_n 2), (17, .imul), (18, .iload_n 1), (19, .iadd), (20, .laload), (21, .lstore_n 3), (22, .lload_n 3), (23, .lconst 0), (24, .lcmp), (25, .ifCond .ne 47), (28, .iconst 0), (29, .istore 5), (31, .iload 5), (33, .bipush 25), (35, .if_icmp .ge 28), (38, .aload_n 0), (39, .getfield 218), (42, .iload 5), (44, .aload_n 0), (45, .getfield 212), (48, .bipush 25), (50, .iload_n 2), (51, .imul), (52, .iload 5), (54, .iadd), (55, .laload), (56, .lastore), (57, .iinc 5 1), (60, .goto (-29)), (63, .aload_n 0), (64, .invokevirtual 607), (67, .ifCond .ne 5), (70, .iconst 0), (71, .ireturn), (72, .iconst 0), (73, .istore 5), (75, .iload 5), (77, .aload_n 0), (78, .getfield 604), (81, .if_icmp .ge 100), (84, .lload_n 3), (85, .lconst 0), (86, .lcmp), (87, .ifCond .le 94), (90, .aload_n 0), (91, .getfield 212), (94, .bipush 25), (96, .iload 5), (98, .imul), (99, .iload_n 1), (100, .iadd), (101, .laload), (102, .lneg), (103, .lstore 6), (105, .lload 6), (107, .lconst 0), (108, .lcmp), (109, .ifCond .le 66), (112, .iconst 0), (113, .istore 8), (115, .iload 8), (117, .bipush 25), (119, .if_icmp .ge 47), (122, .aload_n 0), (123, .getfield 218), (126, .iload 8), (128, .lload 6), (130, .aload_n 0), (131, .getfield 212), (134, .bipush 25), (136, .iload_n 2), (137, .imul), (138, .iload 8), (140, .iadd), (141, .laload), (142, .lmul), (143, .lload_n 3), (144, .aload_n 0), (145, .getfield 212), (148, .bipush 25), (150, .iload 5), (152, .imul), (153, .iload 8), (155, .iadd), (156, .laload), (157, .lmul), (158, .ladd), (159, .lastore), (160, .iinc 8 1), (163, .goto (-48)), (166, .aload_n 0), (167, .invokevirtual 607), (170, .ifCond .ne 5), (173, .iconst 0), (174, .ireturn), (175, .iinc 5 1), (178, .goto (-103)), (181, .iinc 2 1), (184, .goto (-182)), (187, .iconst 1), (188, .ireturn)]
set_option maxRecDepth 20000 in
theorem tb_e57 : ∀ q ∈ tb_d57, decode prog_14_method_70_code q.1 = .ok (q.2, mm_ln q.2) := by decide +kernel
-- 58 IndexedCompilerModel.takeFresh()V
def tb_d58 : List (Nat × Instr) := [(0, .aload_n 0), (1, .aload_n 0), (2, .getfield 598), (5, .putfield 604), (8, .iconst 0), (9, .istore_n 1), (10, .iload_n 1), (11, .bipush 25), (13, .aload_n 0), (14, .getfield 598), (17, .imul), (18, .if_icmp .ge 21), (21, .aload_n 0), (22, .getfield 212), (25, .iload_n 1), (26, .aload_n 0), (27, .getfield 215), (30, .iload_n 1), (31, .laload), (32, .lastore), (33, .iinc 1 1), (36, .goto (-26)), (39, .aload_n 0), (40, .iconst 0), (41, .putfield 598), (44, .return_)]
set_option maxRecDepth 20000 in
theorem tb_e58 : ∀ q ∈ tb_d58, decode prog_14_method_71_code q.1 = .ok (q.2, mm_ln q.2) := by decide +kernel
-- 59 IndexedCompilerModel.isProved([JI)Z
def tb_d59 : List (Nat × Instr) := [(0, .aload_n 0), (1, .iconst 0), (2, .putfield 598), (5, .aload_n 0), (6, .iconst 0), (7, .putfield 595), (10, .iconst 0), (11, .istore_n 3), (12, .iload_n 3), (13, .iload_n 2), (14, .if_icmp .ge 50), (17, .iconst 0), (18, .istore 4), (20, .iload 4), (22, .bipush 25), (24, .if_icmp .ge 25), (27, .aload_n 0), (28, .getfield 218), (31, .iload 4), (33, .aload_n 1), (34, .bipush 25), (36, .iload_n 3), (37, .imul), (38, .iload 4), (40, .iadd), (41, .laload), (42, .lastore), (43, .iinc 4 1), (46, .goto (-26)), (49, .aload_n 0), (50, .invokevirtual 607), (53, .ifCond .ne 5), (56, .iconst 0), (57, .ireturn), (58, .iinc 3 1), (61, .goto (-49)), (64, .iconst 0), (65, .istore_n 3), (66, .iload_n 3), (67, .bipush 25), (69, .if_icmp .ge 22), (72, .aload_n 0), (73, .getfield 218), (76, .iload_n 3), (77, .aload_n 0), (78, .getfield 203), (81, .iload_n 3), (82, .laload), (83, .lneg), (84, .lastore), (85, .iinc 3 1), (88, .goto (-22)), (91, .aload_n 0), (92, .getfield 218), (95, .bipush 24), (97, .aload_n 0), (98, .getfield 218), (101, .bipush 24), (103, .laload), (104, .lconst 1), (105, .lsub), (106, .lastore), (107, .aload_n 0), (108, .invokevirtual 607), (111, .ifCond .ne 5), (114, .iconst 0), (115, .ireturn), (116, .bipush 23), (118, .istore_n 3), (119, .iload_n 3), (120, .ifCond .lt 30), (123, .aload_n 0), (124, .getfield 595), (127, .ifCond .ne 23), (130, .aload_n 0), (131, .invokevirtual 610), (134, .aload_n 0), (135, .iload_n 3), (136, .invokevirtual 613), (139, .ifCond .ne 5), (142, .iconst 0), (143, .ireturn), (144, .iinc 3 (-1)), (147, .goto (-28)), (150, .aload_n 0), (151, .getfield 595), (154, .ireturn)]
set_option maxRecDepth 20000 in
theorem tb_e59 : ∀ q ∈ tb_d59, decode prog_14_method_72_code q.1 = .ok (q.2, mm_ln q.2) := by decide +kernel
-- 60 IndexedCompiler.<init>()V
def tb_d60 : List (Nat × Instr) := [(0, .aload_n 0), (1, .invokespecial 1), (4, .aload_n 0), (5, .new 7), (8, .dup), (9, .invokespecial 9), (12, .putfield 10), (15, .aload_n 0), (16, .new 16), (19, .dup), (20, .invokespecial 18), (23, .putfield 19), (26, .aload_n 0), (27, .bipush 9), (29, .anewarray 23), (32, .putfield 25), (35, .aload_n 0), (36, .new 29), (39, .dup), (40, .invokespecial 31), (43, .putfield 32), (46, .aload_n 0), (47, .new 36), (50, .dup), (51, .invokespecial 38), (54, .putfield 39), (57, .aload_n 0), (58, .new 43), (61, .dup), (62, .invokespecial 45), (65, .putfield 46), (68, .aload_n 0), (69, .new 50), (72, .dup), (73, .invokespecial 52), (76, .putfield 53), (79, .aload_n 0), (80, .new 57), (83, .dup), (84, .bipush 40), (86, .iconst 0), (87, .invokespecial 59), (90, .putfield 62), (93, .aload_n 0), (94, .new 66), (97, .dup), (98, .invokespecial 68), (101, .putfield 69), (104, .aload_n 0), (105, .iconst 0), (106, .putfield 73), (109, .aload_n 0), (110, .iconst (-1)), (111, .putfield 77), (114, .aload_n 0), (115, .iconst 0), (116, .putfield 80), (119, .return_)]
set_option maxRecDepth 20000 in
theorem tb_e60 : ∀ q ∈ tb_d60, decode prog_1_method_1_code q.1 = .ok (q.2, mm_ln q.2) := by decide +kernel
-- 61 IndexedCompiler.type(IIIII)I
def tb_d61 : List (Nat × Instr) := [(0, .iload_n 1), (1, .invokestatic 84), (4, .iload_n 2), (5, .invokestatic 84), (8, .iadd), (9, .iload_n 3), (10, .invokestatic 84), (13, .iadd), (14, .iload 4), (16, .invokestatic 84), (19, .iadd), (20, .iload 5), (22, .invokestatic 84), (25, .iadd), (26, .istore 6), (28, .aload_n 0), (29, .getfield 10), (32, .getfield 88), (35, .iload 6), (37, .iadd), (38, .sipush 480), (41, .if_icmp .le 13), (54, .aload_n 0), (55, .getfield 10), (58, .iload_n 1), (59, .invokevirtual 98), (62, .aload_n 0), (63, .getfield 10), (66, .iload_n 2), (67, .invokevirtual 98), (70, .aload_n 0), (71, .getfield 10), (74, .iload_n 3), (75, .invokevirtual 98), (78, .aload_n 0), (79, .getfield 10), (82, .iload 4), (84, .invokevirtual 98), (87, .aload_n 0), (88, .getfield 10), (91, .iload 5), (93, .invokevirtual 98), (96, .aload_n 0), (97, .getfield 10), (100, .getfield 88), (103, .ireturn)]
set_option maxRecDepth 20000 in
theorem tb_e61 : ∀ q ∈ tb_d61, decode prog_1_method_2_code q.1 = .ok (q.2, mm_ln q.2) := by decide +kernel
-- 62 IndexedCompiler.erase()I
def tb_d62 : List (Nat × Instr) := [(0, .aload_n 0), (1, .getfield 10), (4, .getfield 88), (7, .istore_n 1), (8, .aload_n 0), (9, .getfield 10), (12, .iconst 0), (13, .putfield 88), (16, .iload_n 1), (17, .ireturn)]
set_option maxRecDepth 20000 in
theorem tb_e62 : ∀ q ∈ tb_d62, decode prog_1_method_3_code q.1 = .ok (q.2, mm_ln q.2) := by decide +kernel
-- 63 IndexedCompiler.define()I
def tb_d63 : List (Nat × Instr) := [(0, .aload_n 0), (1, .aload_n 0), (2, .getfield 73), (5, .invokevirtual 102), (8, .astore_n 1), (9, .aload_n 0), (10, .getfield 19), (13, .aload_n 0), (14, .getfield 10), (17, .aload_n 1), (18, .invokevirtual 106), (21, .ifCond .ne 17), (24, .aload_n 0), (25, .aload_n 0), (26, .getfield 19), (29, .getfield 110), (32, .putfield 77), (35, .bipush (-2)), (37, .ireturn), (38, .aload_n 0), (39, .aload_n 1), (40, .invokevirtual 113), (43, .istore_n 2), (44, .iload_n 2), (45, .ifCond .lt 11), (48, .aload_n 0), (49, .iload_n 2), (50, .putfield 77), (53, .bipush (-3)), (55, .ireturn), (56, .aload_n 0), (57, .iconst (-1)), (58, .putfield 77), (61, .aload_n 0), (62, .getfield 73), (65, .bipush 8), (67, .if_icmp .lt 6), (70, .bipush (-4)), (72, .ireturn), (73, .aload_n 0), (74, .dup), (75, .getfield 73), (78, .iconst 1), (79, .iadd), (80, .putfield 73), (83, .aload_n 0), (84, .iconst 0), (85, .putfield 80), (88, .aload_n 0), (89, .getfield 73), (92, .iconst 1), (93, .isub), (94, .ireturn)]
set_option maxRecDepth 20000 in
theorem tb_e63 : ∀ q ∈ tb_d63, decode prog_1_method_4_code q.1 = .ok (q.2, mm_ln q.2) := by decide +kernel
-- 64 IndexedCompiler.clear()I
def tb_d64 : List (Nat × Instr) := [(0, .aload_n 0), (1, .getfield 73), (4, .istore_n 1), (5, .aload_n 0), (6, .iconst 0), (7, .putfield 73), (10, .aload_n 0), (11, .iconst 0), (12, .putfield 80), (15, .iload_n 1), (16, .ireturn)]
set_option maxRecDepth 20000 in
theorem tb_e64 : ∀ q ∈ tb_d64, decode prog_1_method_5_code q.1 = .ok (q.2, mm_ln q.2) := by decide +kernel
-- 65 IndexedCompiler.check()I
def tb_d65 : List (Nat × Instr) := [(0, .aload_n 0), (1, .getfield 32), (4, .aload_n 0), (5, .getfield 25), (8, .aload_n 0), (9, .getfield 73), (12, .invokevirtual 117), (15, .istore_n 1), (16, .aload_n 0), (17, .iconst 1), (18, .putfield 80), (21, .aload_n 0), (22, .aload_n 0), (23, .getfield 32), (26, .invokevirtual 121), (29, .putfield 77), (32, .iload_n 1), (33, .iconst 1), (34, .if_icmp .ne 18), (37, .aload_n 0), (38, .getfield 39), (41, .aload_n 0), (42, .getfield 25), (45, .aload_n 0), (46, .getfield 73), (49, .invokevirtual 125), (52, .iload_n 1), (53, .ireturn)]
set_option maxRecDepth 20000 in
theorem tb_e65 : ∀ q ∈ tb_d65, decode prog_1_method_6_code q.1 = .ok (q.2, mm_ln q.2) := by decide +kernel
-- 66 IndexedCompiler.place()I
def tb_d66 : List (Nat × Instr) := [(0, .aload_n 0), (1, .getfield 77), (4, .ireturn)]
set_option maxRecDepth 20000 in
theorem tb_e66 : ∀ q ∈ tb_d66, decode prog_1_method_7_code q.1 = .ok (q.2, mm_ln q.2) := by decide +kernel
-- 67 IndexedCompiler.count(I)I
def tb_d67 : List (Nat × Instr) := [(0, .iload_n 1), (1, .ifCond .lt 8), (4, .iload_n 1), (5, .iconst 5), (6, .if_icmp .le 13), (19, .iload_n 1), (20, .ifCond .ne 8), (23, .aload_n 0), (24, .getfield 73), (27, .ireturn), (28, .aload_n 0), (29, .getfield 80), (32, .ifCond .ne 14), (35, .iload_n 1), (36, .iconst 5), (37, .if_icmp .ne 7), (40, .iconst (-1)), (41, .goto 4), (44, .iconst 0), (45, .ireturn), (46, .aload_n 0), (47, .getfield 32), (50, .iload_n 1), (51, .invokevirtual 134), (54, .ireturn)]
set_option maxRecDepth 20000 in
theorem tb_e67 : ∀ q ∈ tb_d67, decode prog_1_method_8_code q.1 = .ok (q.2, mm_ln q.2) := by decide +kernel
-- 68 IndexedCompiler.goal(II)I
def tb_d68 : List (Nat × Instr) := [(0, .iload_n 2), (1, .ifCond .lt 8), (4, .iload_n 2), (5, .iconst 5), (6, .if_icmp .le 13), (19, .aload_n 0), (20, .getfield 80), (23, .ifCond .eq 19), (26, .iload_n 1), (27, .ifCond .lt 15), (30, .iload_n 1), (31, .aload_n 0), (32, .getfield 32), (35, .iconst 1), (36, .invokevirtual 134), (39, .if_icmp .lt 13), (52, .aload_n 0), (53, .getfield 32), (56, .iload_n 1), (57, .iload_n 2), (58, .invokevirtual 139), (61, .ireturn)]
set_option maxRecDepth 20000 in
theorem tb_e68 : ∀ q ∈ tb_d68, decode prog_1_method_9_code q.1 = .ok (q.2, mm_ln q.2) := by decide +kernel
-- 69 IndexedCompiler.code(III)I
def tb_d69 : List (Nat × Instr) := [(0, .iload_n 2), (1, .ifCond .lt 12), (4, .iload_n 2), (5, .iconst 1), (6, .if_icmp .gt 7), (9, .iload_n 3), (10, .ifCond .ge 13), (23, .aload_n 0), (24, .iload_n 1), (25, .invokevirtual 145), (28, .ifCond .ne 13), (41, .aload_n 0), (42, .getfield 39), (45, .iload_n 1), (46, .iload_n 2), (47, .iload_n 3), (48, .invokevirtual 151), (51, .ireturn)]
set_option maxRecDepth 20000 in
theorem tb_e69 : ∀ q ∈ tb_d69, decode prog_1_method_10_code q.1 = .ok (q.2, mm_ln q.2) := by decide +kernel
-- 70 IndexedCompiler.set(II)V
def tb_d70 : List (Nat × Instr) := [(0, .iload_n 1), (1, .invokestatic 155), (4, .ifCond .eq 10), (7, .iload_n 2), (8, .invokestatic 158), (11, .ifCond .ne 13), (24, .aload_n 0), (25, .getfield 46), (28, .iload_n 1), (29, .iload_n 2), (30, .invokevirtual 163), (33, .return_)]
set_option maxRecDepth 20000 in
theorem tb_e70 : ∀ q ∈ tb_d70, decode prog_1_method_11_code q.1 = .ok (q.2, mm_ln q.2) := by decide +kernel
-- 71 IndexedCompiler.make(II)V
def tb_d71 : List (Nat × Instr) := [(0, .iload_n 1), (1, .invokestatic 155), (4, .ifCond .eq 13), (7, .iload_n 2), (8, .ifCond .lt 9), (11, .iload_n 2), (12, .bipush 40), (14, .if_icmp .le 13), (27, .aload_n 0), (28, .getfield 46), (31, .iload_n 1), (32, .iload_n 2), (33, .invokevirtual 168), (36, .return_)]
set_option maxRecDepth 20000 in
theorem tb_e71 : ∀ q ∈ tb_d71, decode prog_1_method_12_code q.1 = .ok (q.2, mm_ln q.2) := by decide +kernel
-- 72 IndexedCompiler.put(III)V
def tb_d72 : List (Nat × Instr) := [(0, .iload_n 1), (1, .invokestatic 155), (4, .ifCond .eq 10), (7, .iload_n 3), (8, .invokestatic 158), (11, .ifCond .ne 13), (24, .aload_n 0), (25, .getfield 46), (28, .iload_n 1), (29, .iload_n 2), (30, .invokevirtual 171), (33, .ifCond .ne 13), (46, .aload_n 0), (47, .getfield 46), (50, .iload_n 1), (51, .iload_n 2), (52, .iload_n 3), (53, .invokevirtual 177), (56, .return_)]
set_option maxRecDepth 20000 in
theorem tb_e72 : ∀ q ∈ tb_d72, decode prog_1_method_13_code q.1 = .ok (q.2, mm_ln q.2) := by decide +kernel
-- 73 IndexedCompiler.get(II)I
def tb_d73 : List (Nat × Instr) := [(0, .iload_n 1), (1, .invokestatic 155), (4, .ifCond .ne 13), (17, .iload_n 2), (18, .iconst (-1)), (19, .if_icmp .ne 12), (22, .aload_n 0), (23, .getfield 46), (26, .iload_n 1), (27, .invokevirtual 183), (30, .ireturn), (31, .aload_n 0), (32, .getfield 46), (35, .iload_n 1), (36, .iload_n 2), (37, .invokevirtual 171), (40, .ifCond .ne 13), (53, .aload_n 0), (54, .getfield 46), (57, .iload_n 1), (58, .iload_n 2), (59, .invokevirtual 186), (62, .ireturn)]
set_option maxRecDepth 20000 in
theorem tb_e73 : ∀ q ∈ tb_d73, decode prog_1_method_14_code q.1 = .ok (q.2, mm_ln q.2) := by decide +kernel
-- 74 IndexedCompiler.value(II)I
def tb_d74 : List (Nat × Instr) := [(0, .iload_n 1), (1, .ifCond .lt 15), (4, .iload_n 1), (5, .iconst 4), (6, .if_icmp .ge 10), (9, .iload_n 2), (10, .invokestatic 158), (13, .ifCond .ne 13), (26, .aload_n 0), (27, .getfield 46), (30, .iload_n 1), (31, .iload_n 2), (32, .invokevirtual 191), (35, .ireturn)]
set_option maxRecDepth 20000 in
theorem tb_e74 : ∀ q ∈ tb_d74, decode prog_1_method_15_code q.1 = .ok (q.2, mm_ln q.2) := by decide +kernel
-- 75 IndexedCompiler.run(III)I
def tb_d75 : List (Nat × Instr) := [(0, .iload_n 2), (1, .ifCond .lt 20), (4, .iload_n 2), (5, .iconst 1), (6, .if_icmp .gt 15), (9, .iload_n 3), (10, .iconst 1), (11, .if_icmp .lt 10), (14, .iload_n 3), (15, .sipush 20000), (18, .if_icmp .le 13), (31, .aload_n 0), (32, .iload_n 1), (33, .invokevirtual 145), (36, .ifCond .ne 13), (49, .aload_n 0), (50, .getfield 46), (53, .aload_n 0), (54, .getfield 25), (57, .iload_n 1), (58, .aaload), (59, .invokevirtual 196), (62, .ifCond .ne 6), (65, .bipush (-9)), (67, .ireturn), (68, .aload_n 0), (69, .getfield 53), (72, .aload_n 0), (73, .getfield 39), (76, .aload_n 0), (77, .getfield 46), (80, .iload_n 1), (81, .iload_n 2), (82, .iload_n 3), (83, .invokevirtual 200), (86, .ireturn)]
set_option maxRecDepth 20000 in
theorem tb_e75 : ∀ q ∈ tb_d75, decode prog_1_method_16_code q.1 = .ok (q.2, mm_ln q.2) := by decide +kernel
-- 76 IndexedCompiler.told(I)I
def tb_d76 : List (Nat × Instr) := [(0, .iload_n 1), (1, .ifCond .lt 9), (4, .iload_n 1), (5, .bipush 7), (7, .if_icmp .le 13), (20, .aload_n 0), (21, .getfield 53), (24, .iload_n 1), (25, .invokevirtual 206), (28, .ireturn)]
set_option maxRecDepth 20000 in
theorem tb_e76 : ∀ q ∈ tb_d76, decode prog_1_method_17_code q.1 = .ok (q.2, mm_ln q.2) := by decide +kernel
-- 77 IndexedCompiler.printed(IZ)I
def tb_d77 : List (Nat × Instr) := [(0, .iload_n 2), (1, .ifCond .eq 14), (4, .aload_n 0), (5, .getfield 53), (8, .iload_n 1), (9, .invokevirtual 209), (12, .goto 11), (15, .aload_n 0), (16, .getfield 53), (19, .iload_n 1), (20, .invokevirtual 212), (23, .ireturn)]
set_option maxRecDepth 20000 in
theorem tb_e77 : ∀ q ∈ tb_d77, decode prog_1_method_18_code q.1 = .ok (q.2, mm_ln q.2) := by decide +kernel
-- 78 IndexedCompiler.fact(IIII)I
def tb_d78 : List (Nat × Instr) := [(0, .iload_n 1), (1, .iload_n 2), (2, .iload_n 3), (3, .iload 4), (5, .invokestatic 215), (8, .ifCond .ne 13), (21, .aload_n 0), (22, .getfield 62), (25, .getfield 221), (28, .bipush 40), (30, .if_icmp .lt 13), (43, .aload_n 0), (44, .getfield 69), (47, .iload_n 1), (48, .iload_n 2), (49, .iload_n 3), (50, .iload 4), (52, .invokevirtual 226), (55, .aload_n 0), (56, .getfield 62), (59, .aload_n 0), (60, .getfield 69), (63, .iconst 0), (64, .invokevirtual 230), (67, .aload_n 0), (68, .getfield 62), (71, .getfield 221), (74, .ireturn)]
set_option maxRecDepth 20000 in
theorem tb_e78 : ∀ q ∈ tb_d78, decode prog_1_method_19_code q.1 = .ok (q.2, mm_ln q.2) := by decide +kernel
-- 79 IndexedCompiler.ask(IIII)Z
def tb_d79 : List (Nat × Instr) := [(0, .iload_n 1), (1, .iload_n 2), (2, .iload_n 3), (3, .iload 4), (5, .invokestatic 215), (8, .ifCond .ne 13), (21, .aload_n 0), (22, .getfield 69), (25, .iload_n 1), (26, .iload_n 2), (27, .iload_n 3), (28, .iload 4), (30, .invokevirtual 226), (33, .aload_n 0), (34, .getfield 62), (37, .iconst 3), (38, .putfield 234), (41, .aload_n 0), (42, .getfield 62), (45, .aload_n 0), (46, .getfield 69), (49, .invokevirtual 237), (52, .ireturn)]
set_option maxRecDepth 20000 in
theorem tb_e79 : ∀ q ∈ tb_d79, decode prog_1_method_20_code q.1 = .ok (q.2, mm_ln q.2) := by decide +kernel
-- 80 IndexedCompiler.forget()I
def tb_d80 : List (Nat × Instr) := [(0, .aload_n 0), (1, .getfield 62), (4, .getfield 221), (7, .istore_n 1), (8, .aload_n 0), (9, .getfield 62), (12, .iconst 0), (13, .putfield 221), (16, .iload_n 1), (17, .ireturn)]
set_option maxRecDepth 20000 in
theorem tb_e80 : ∀ q ∈ tb_d80, decode prog_1_method_21_code q.1 = .ok (q.2, mm_ln q.2) := by decide +kernel
-- 81 IndexedCompiler.isSlot(I)Z
def tb_d81 : List (Nat × Instr) := [(0, .iload_n 0), (1, .ifCond .lt 13), (4, .iload_n 0), (5, .bipush 6), (7, .if_icmp .ge 7), (10, .iconst 1), (11, .goto 4), (14, .iconst 0), (15, .ireturn)]
set_option maxRecDepth 20000 in
theorem tb_e81 : ∀ q ∈ tb_d81, decode prog_1_method_22_code q.1 = .ok (q.2, mm_ln q.2) := by decide +kernel
-- 82 IndexedCompiler.isNumber(I)Z
def tb_d82 : List (Nat × Instr) := [(0, .iload_n 0), (1, .ldc 241), (3, .if_icmp .lt 13), (6, .iload_n 0), (7, .ldc 242), (9, .if_icmp .gt 7), (12, .iconst 1), (13, .goto 4), (16, .iconst 0), (17, .ireturn)]
set_option maxRecDepth 20000 in
theorem tb_e82 : ∀ q ∈ tb_d82, decode prog_1_method_23_code q.1 = .ok (q.2, mm_ln q.2) := by decide +kernel
-- 83 IndexedCompiler.isDeskExpression(IIII)Z
def tb_d83 : List (Nat × Instr) := [(0, .iload_n 0), (1, .sipush 1000), (4, .invokestatic 243), (7, .ifCond .eq 36), (10, .iload_n 1), (11, .sipush 1000), (14, .invokestatic 243), (17, .ifCond .eq 26), (20, .iload_n 2), (21, .sipush 1000), (24, .invokestatic 243), (27, .ifCond .eq 16), (30, .iload_n 3), (31, .ldc 246), (33, .invokestatic 243), (36, .ifCond .eq 7), (39, .iconst 1), (40, .goto 4), (43, .iconst 0), (44, .ireturn)]
set_option maxRecDepth 20000 in
theorem tb_e83 : ∀ q ∈ tb_d83, decode prog_1_method_24_code q.1 = .ok (q.2, mm_ln q.2) := by decide +kernel
-- 84 IndexedCompiler.within(II)Z
def tb_d84 : List (Nat × Instr) := [(0, .iload_n 0), (1, .iload_n 1), (2, .ineg), (3, .if_icmp .lt 12), (6, .iload_n 0), (7, .iload_n 1), (8, .if_icmp .gt 7), (11, .iconst 1), (12, .goto 4), (15, .iconst 0), (16, .ireturn)]
set_option maxRecDepth 20000 in
theorem tb_e84 : ∀ q ∈ tb_d84, decode prog_1_method_25_code q.1 = .ok (q.2, mm_ln q.2) := by decide +kernel
-- 85 IndexedCompiler.bytesIn(I)I
def tb_d85 : List (Nat × Instr) := [(0, .iconst 0), (1, .istore_n 1), (2, .bipush 24), (4, .istore_n 2), (5, .iload_n 2), (6, .ifCond .lt 22), (9, .iload_n 0), (10, .iload_n 2), (11, .iushr), (12, .sipush 255), (15, .iand), (16, .ifCond .eq 6), (19, .iinc 1 1), (22, .iinc 2 (-8)), (25, .goto (-20)), (28, .iload_n 1), (29, .ireturn)]
set_option maxRecDepth 20000 in
theorem tb_e85 : ∀ q ∈ tb_d85, decode prog_1_method_26_code q.1 = .ok (q.2, mm_ln q.2) := by decide +kernel
-- 86 IndexedCompiler.canRun(I)Z
def tb_d86 : List (Nat × Instr) := [(0, .aload_n 0), (1, .getfield 80), (4, .ifCond .eq 38), (7, .aload_n 0), (8, .getfield 32), (11, .getfield 247), (14, .ifCond .eq 28), (17, .iload_n 1), (18, .ifCond .lt 24), (21, .iload_n 1), (22, .aload_n 0), (23, .getfield 73), (26, .if_icmp .ge 16), (29, .aload_n 0), (30, .getfield 25), (33, .iload_n 1), (34, .aaload), (35, .ifnull 7), (38, .iconst 1), (39, .goto 4), (42, .iconst 0), (43, .ireturn)]
set_option maxRecDepth 20000 in
theorem tb_e86 : ∀ q ∈ tb_d86, decode prog_1_method_27_code q.1 = .ok (q.2, mm_ln q.2) := by decide +kernel
-- 87 IndexedCompiler.treeFor(I)LIndexedCompiler$Tree;
def tb_d87 : List (Nat × Instr) := [(0, .iconst 0), (1, .iload_n 1), (2, .bipush 8), (4, .invokestatic 250), (7, .invokestatic 255), (10, .istore_n 2), (11, .aload_n 0), (12, .getfield 25), (15, .iload_n 2), (16, .aaload), (17, .ifnonnull 16), (20, .aload_n 0), (21, .getfield 25), (24, .iload_n 2), (25, .new 23), (28, .dup), (29, .invokespecial 258), (32, .aastore), (33, .aload_n 0), (34, .getfield 25), (37, .iload_n 2), (38, .aaload), (39, .areturn)]
set_option maxRecDepth 20000 in
theorem tb_e87 : ∀ q ∈ tb_d87, decode prog_1_method_28_code q.1 = .ok (q.2, mm_ln q.2) := by decide +kernel
-- 88 IndexedCompiler$Line.<init>()V
def tb_d88 : List (Nat × Instr) := [(0, .aload_n 0), (1, .invokespecial 3), (4, .aload_n 0), (5, .sipush 480), (8, .newarray .char), (10, .putfield 11), (13, .aload_n 0), (14, .iconst 0), (15, .putfield 15), (18, .aload_n 0), (19, .sipush 481), (22, .newarray .int), (24, .putfield 19), (27, .aload_n 0), (28, .sipush 481), (31, .newarray .int), (33, .putfield 23), (36, .aload_n 0), (37, .sipush 481), (40, .newarray .int), (42, .putfield 26), (45, .aload_n 0), (46, .iconst 0), (47, .putfield 29), (50, .aload_n 0), (51, .iconst 0), (52, .putfield 32), (55, .aload_n 0), (56, .iconst 0), (57, .putfield 35), (60, .aload_n 0), (61, .iconst 0), (62, .putfield 38), (65, .aload_n 0), (66, .iconst 0), (67, .putfield 41), (70, .return_)]
set_option maxRecDepth 20000 in
theorem tb_e88 : ∀ q ∈ tb_d88, decode prog_6_method_1_code q.1 = .ok (q.2, mm_ln q.2) := by decide +kernel
-- 89 IndexedCompiler$Line.append(I)V
def tb_d89 : List (Nat × Instr) := [(0, .bipush 24), (2, .istore_n 2), (3, .iload_n 2), (4, .ifCond .lt 59), (7, .iload_n 1), (8, .iload_n 2), (9, .iushr), (10, .sipush 255), (13, .iand), (14, .istore_n 3), (15, .iload_n 3), (16, .ifCond .eq 41), (19, .aload_n 0), (20, .getfield 15), (23, .ifCond .lt 34), (26, .aload_n 0), (27, .getfield 15), (30, .sipush 480), (33, .if_icmp .ge 24), (36, .aload_n 0), (37, .getfield 11), (40, .aload_n 0), (41, .getfield 15), (44, .iload_n 3), (45, .i2c), (46, .castore), (47, .aload_n 0), (48, .dup), (49, .getfield 15), (52, .iconst 1), (53, .iadd), (54, .putfield 15), (57, .iinc 2 (-8)), (60, .goto (-57)), (63, .return_)]
set_option maxRecDepth 20000 in
theorem tb_e89 : ∀ q ∈ tb_d89, decode prog_6_method_2_code q.1 = .ok (q.2, mm_ln q.2) := by decide +kernel
-- 90 IndexedCompiler$Line.split()V
def tb_d90 : List (Nat × Instr) := [(0, .aload_n 0), (1, .iconst 0), (2, .putfield 29), (5, .iconst 0), (6, .istore_n 1), (7, .iload_n 1), (8, .aload_n 0), (9, .getfield 15), (12, .if_icmp .ge 72), (15, .aload_n 0), (16, .getfield 29), (19, .sipush 480), (22, .if_icmp .ge 62), (25, .aload_n 0), (26, .iload_n 1), (27, .invokevirtual 44), (30, .istore_n 2), (31, .iload_n 2), (32, .bipush 32), (34, .if_icmp .ne 9), (37, .iinc 1 1), (40, .goto 41), (43, .iload_n 2), (44, .invokestatic 48), (47, .ifCond .eq 12), (50, .aload_n 0), (51, .iload_n 1), (52, .invokevirtual 52), (55, .istore_n 1), (56, .goto 25), (59, .iload_n 2), (60, .invokestatic 56), (63, .ifCond .eq 12), (66, .aload_n 0), (67, .iload_n 1), (68, .invokevirtual 59), (71, .istore_n 1), (72, .goto 9), (75, .aload_n 0), (76, .iload_n 1), (77, .invokevirtual 62), (80, .istore_n 1), (81, .goto (-74)), (84, .aload_n 0), (85, .iconst 0), (86, .aload_n 0), (87, .getfield 15), (90, .iconst 0), (91, .invokevirtual 65), (94, .aload_n 0), (95, .iconst 0), (96, .putfield 32), (99, .aload_n 0), (100, .invokevirtual 69), (103, .return_)]
set_option maxRecDepth 20000 in
theorem tb_e90 : ∀ q ∈ tb_d90, decode prog_6_method_3_code q.1 = .ok (q.2, mm_ln q.2) := by decide +kernel
-- 91 IndexedCompiler$Line.advance()V
def tb_d91 : List (Nat × Instr) := [(0, .aload_n 0), (1, .getfield 32), (4, .aload_n 0), (5, .getfield 29), (8, .if_icmp .ge 10), (11, .aload_n 0), (12, .getfield 32), (15, .goto 9), (18, .aload_n 0), (19, .getfield 29), (22, .iconst 1), (23, .isub), (24, .istore_n 1), (25, .iload_n 1), (26, .ifCond .lt 40), (29, .iload_n 1), (30, .sipush 480), (33, .if_icmp .gt 33), (36, .aload_n 0), (37, .aload_n 0), (38, .getfield 19), (41, .iload_n 1), (42, .iaload), (43, .putfield 35), (46, .aload_n 0), (47, .aload_n 0), (48, .getfield 23), (51, .iload_n 1), (52, .iaload), (53, .putfield 38), (56, .aload_n 0), (57, .aload_n 0), (58, .getfield 26), (61, .iload_n 1), (62, .iaload), (63, .putfield 41), (66, .aload_n 0), (67, .iload_n 1), (68, .iconst 1), (69, .iadd), (70, .putfield 32), (73, .return_)]
set_option maxRecDepth 20000 in
theorem tb_e91 : ∀ q ∈ tb_d91, decode prog_6_method_4_code q.1 = .ok (q.2, mm_ln q.2) := by decide +kernel
-- 92 IndexedCompiler$Line.isWord(I)Z
def tb_d92 : List (Nat × Instr) := [(0, .aload_n 0), (1, .getfield 35), (4, .iconst 2), (5, .if_icmp .ne 15), (8, .aload_n 0), (9, .getfield 41), (12, .iload_n 1), (13, .if_icmp .ne 7), (16, .iconst 1), (17, .goto 4), (20, .iconst 0), (21, .ireturn)]
set_option maxRecDepth 20000 in
theorem tb_e92 : ∀ q ∈ tb_d92, decode prog_6_method_6_code q.1 = .ok (q.2, mm_ln q.2) := by decide +kernel
-- 93 IndexedCompiler$Line.note(III)V
def tb_d93 : List (Nat × Instr) := [(0, .aload_n 0), (1, .getfield 29), (4, .ifCond .lt 53), (7, .aload_n 0), (8, .getfield 29), (11, .sipush 480), (14, .if_icmp .gt 43), (17, .aload_n 0), (18, .getfield 19), (21, .aload_n 0), (22, .getfield 29), (25, .iload_n 1), (26, .iastore), (27, .aload_n 0), (28, .getfield 23), (31, .aload_n 0), (32, .getfield 29), (35, .iload_n 2), (36, .iastore), (37, .aload_n 0), (38, .getfield 26), (41, .aload_n 0), (42, .getfield 29), (45, .iload_n 3), (46, .iastore), (47, .aload_n 0), (48, .dup), (49, .getfield 29), (52, .iconst 1), (53, .iadd), (54, .putfield 29), (57, .return_)]
set_option maxRecDepth 20000 in
theorem tb_e93 : ∀ q ∈ tb_d93, decode prog_6_method_8_code q.1 = .ok (q.2, mm_ln q.2) := by decide +kernel
-- 94 IndexedCompiler$Reader.<init>()V
def tb_d94 : List (Nat × Instr) := [(0, .aload_n 0), (1, .invokespecial 3), (4, .aload_n 0), (5, .aconst_null), (6, .putfield 9), (9, .aload_n 0), (10, .aconst_null), (11, .putfield 15), (14, .aload_n 0), (15, .iconst (-1)), (16, .putfield 19), (19, .return_)]
set_option maxRecDepth 20000 in
theorem tb_e94 : ∀ q ∈ tb_d94, decode prog_8_method_1_code q.1 = .ok (q.2, mm_ln q.2) := by decide +kernel
-- 95 IndexedCompiler$Reader.read(LIndexedCompiler$Line;LIndexedCompiler$Tree;)Z
def tb_d95 : List (Nat × Instr) := [(0, .aload_n 1), (1, .ifnull 7), (4, .aload_n 2), (5, .ifnonnull 5), (8, .iconst 0), (9, .ireturn), (10, .aload_n 0), (11, .aload_n 1), (12, .putfield 9), (15, .aload_n 0), (16, .aload_n 2), (17, .putfield 15), (20, .aload_n 0), (21, .iconst (-1)), (22, .putfield 19), (25, .aload_n 0), (26, .getfield 15), (29, .invokevirtual 23), (32, .aload_n 0), (33, .getfield 9), (36, .invokevirtual 28), (39, .aload_n 0), (40, .sipush 6830), (43, .invokevirtual 33), (46, .aload_n 0), (47, .getfield 15), (50, .aload_n 0), (51, .getfield 9), (54, .getfield 37), (57, .putfield 40), (60, .aload_n 0), (61, .getfield 15), (64, .aload_n 0), (65, .invokevirtual 43), (68, .putfield 47), (71, .aload_n 0), (72, .getfield 9), (75, .bipush 123), (77, .invokevirtual 50), (80, .ifCond .eq 7), (83, .aload_n 0), (84, .invokevirtual 54), (87, .aload_n 0), (88, .bipush 40), (90, .invokevirtual 57), (93, .aload_n 0), (94, .getfield 9), (97, .bipush 41), (99, .invokevirtual 50), (102, .ifCond .ne 7), (105, .aload_n 0), (106, .invokevirtual 60), (109, .aload_n 0), (110, .bipush 41), (112, .invokevirtual 57), (115, .aload_n 0), (116, .bipush 58), (118, .invokevirtual 57), (121, .aload_n 0), (122, .getfield 15), (125, .aload_n 0), (126, .invokevirtual 63), (129, .putfield 66), (132, .aload_n 0), (133, .bipush 61), (135, .invokevirtual 57), (138, .aload_n 0), (139, .getfield 15), (142, .aload_n 0), (143, .iconst 1), (144, .invokevirtual 69), (147, .putfield 73), (150, .aload_n 0), (151, .getfield 9), (154, .getfield 76), (157, .ifCond .eq 7), (160, .aload_n 0), (161, .invokevirtual 79), (164, .goto 6), (167, .astore_n 3), (168, .iconst 0), (169, .ireturn), (170, .iconst 1), (171, .ireturn)]
set_option maxRecDepth 20000 in
theorem tb_e95 : ∀ q ∈ tb_d95, decode prog_8_method_2_code q.1 = .ok (q.2, mm_ln q.2) := by decide +kernel
-- 96 IndexedCompiler$Reader.takeWord(I)V
def tb_d96 : List (Nat × Instr) := [(0, .aload_n 0), (1, .getfield 9), (4, .iload_n 1), (5, .invokevirtual 119), (8, .ifCond .ne 7), (11, .aload_n 0), (12, .invokevirtual 79), (15, .aload_n 0), (16, .getfield 9), (19, .invokevirtual 93), (22, .return_)]
set_option maxRecDepth 20000 in
theorem tb_e96 : ∀ q ∈ tb_d96, decode prog_8_method_26_code q.1 = .ok (q.2, mm_ln q.2) := by decide +kernel
-- 97 IndexedCompiler$Reader.refuse()V
def tb_d97 : List (Nat × Instr) := [(0, .aload_n 0), (1, .aload_n 0), (2, .getfield 9), (5, .getfield 37), (8, .putfield 19)]
set_option maxRecDepth 20000 in
theorem tb_e97 : ∀ q ∈ tb_d97, decode prog_8_method_30_code q.1 = .ok (q.2, mm_ln q.2) := by decide +kernel
-- 98 IndexedCompiler$Solver.<init>()V
def tb_d98 : List (Nat × Instr) := [(0, .aload_n 0), (1, .invokespecial 5), (4, .aload_n 0), (5, .sipush 2000), (8, .newarray .long), (10, .putfield 13), (13, .aload_n 0), (14, .sipush 2000), (17, .newarray .long), (19, .putfield 17), (22, .aload_n 0), (23, .bipush 25), (25, .newarray .long), (27, .putfield 20), (30, .aload_n 0), (31, .iconst 0), (32, .putfield 23), (35, .aload_n 0), (36, .bipush 25), (38, .putfield 27), (41, .aload_n 0), (42, .iconst 0), (43, .putfield 30), (46, .aload_n 0), (47, .iconst 0), (48, .putfield 34), (51, .return_)]
set_option maxRecDepth 20000 in
theorem tb_e98 : ∀ q ∈ tb_d98, decode prog_11_method_1_code q.1 = .ok (q.2, mm_ln q.2) := by decide +kernel
-- 99 IndexedCompiler$Solver.proves([JIILIndexedCompiler$Expression;)Z
def tb_d99 : List (Nat × Instr) := [(0, .iconst 0), (1, .iload_n 3), (2, .bipush 24), (4, .invokestatic 37), (7, .invokestatic 43), (10, .istore 5), (12, .aload_n 0), (13, .iconst 0), (14, .putfield 23), (17, .aload_n 0), (18, .iload 5), (20, .iconst 1), (21, .iadd), (22, .putfield 27), (25, .aload_n 0), (26, .iconst 0), (27, .putfield 30), (30, .aload_n 0), (31, .iconst 0), (32, .putfield 34), (35, .iconst 0), (36, .istore 6), (38, .iload 6), (40, .iload_n 2), (41, .if_icmp .ge 48), (44, .iload 6), (46, .iconst 1), (47, .iadd), (48, .bipush 25), (50, .imul), (51, .aload_n 1), (52, .arraylength), (53, .if_icmp .gt 36), (56, .aload_n 0), (57, .getfield 30), (60, .ifCond .ne 29), (63, .aload_n 1), (64, .iload 6), (66, .bipush 25), (68, .imul), (69, .aload_n 0), (70, .getfield 20), (73, .iconst 0), (74, .bipush 25), (76, .invokestatic 46), (79, .aload_n 0), (80, .invokevirtual 52), (83, .iinc 6 1), (86, .goto (-48)), (89, .iconst 0), (90, .istore 6), (92, .iload 6), (94, .bipush 25), (96, .if_icmp .ge 25), (99, .aload_n 0), (100, .getfield 20), (103, .iload 6), (105, .aload 4), (107, .getfield 55), (110, .iload 6), (112, .laload), (113, .lneg), (114, .lastore), (115, .iinc 6 1), (118, .goto (-26)), (121, .aload_n 0), (122, .getfield 20), (125, .iconst 0), (126, .dup2), (127, .laload), (128, .lconst 1), (129, .lsub), (130, .lastore), (131, .aload_n 0), (132, .invokevirtual 52), (135, .iload 5), (137, .istore 6), (139, .iload 6), (141, .ifCond .le 29), (144, .aload_n 0), (145, .getfield 30), (148, .ifCond .ne 22), (151, .aload_n 0), (152, .getfield 34), (155, .ifCond .ne 15), (158, .aload_n 0), (159, .iload 6), (161, .invokevirtual 58), (164, .iinc 6 (-1)), (167, .goto (-28)), (170, .aload_n 0), (171, .getfield 34), (174, .ifCond .eq 14), (177, .aload_n 0), (178, .getfield 30), (181, .ifCond .ne 7), (184, .iconst 1), (185, .goto 4), (188, .iconst 0), (189, .ireturn)]
set_option maxRecDepth 20000 in
theorem tb_e99 : ∀ q ∈ tb_d99, decode prog_11_method_2_code q.1 = .ok (q.2, mm_ln q.2) := by decide +kernel
-- 100 IndexedCompiler$Solver.takeAway(I)V
def tb_d100 : List (Nat × Instr) := [(0, .aload_n 0), (1, .getfield 13), (4, .astore_n 2), (5, .aload_n 0), (6, .getfield 23), (9, .istore_n 3), (10, .aload_n 0), (11, .aload_n 0), (12, .getfield 17), (15, .putfield 13), (18, .aload_n 0), (19, .aload_n 2), (20, .putfield 17), (23, .aload_n 0), (24, .iconst 0), (25, .putfield 23), (28, .aload_n 0), (29, .iload_n 1), (30, .putfield 27), (33, .iconst 0), (34, .istore 4), (36, .iload 4), (38, .iload_n 3), (39, .if_icmp .ge 159), (42, .aload_n 0), (43, .getfield 30), (46, .ifCond .ne 152), (49, .iload 4), (51, .bipush 25), (53, .imul), (54, .istore 5), (56, .aload_n 2), (57, .iload 5), (59, .iload_n 1), (60, .iadd), (61, .laload), (62, .lstore 6), (64, .lload 6), (66, .lconst 0), (67, .lcmp), (68, .ifCond .ne 22), (71, .aload_n 2), (72, .iload 5), (74, .aload_n 0), (75, .getfield 20), (78, .iconst 0), (79, .aload_n 0), (80, .getfield 27), (83, .invokestatic 46), (86, .aload_n 0), (87, .invokevirtual 52), (90, .iconst 0), (91, .istore 8), (93, .lload 6), (95, .lconst 0), (96, .lcmp), (97, .ifCond .le 95), (100, .iload 8), (102, .iload_n 3), (103, .if_icmp .ge 89), (106, .aload_n 0), (107, .getfield 30), (110, .ifCond .ne 82), (113, .iload 8), (115, .bipush 25), (117, .imul), (118, .istore 9), (120, .aload_n 2), (121, .iload 9), (123, .iload_n 1), (124, .iadd), (125, .laload), (126, .lneg), (127, .lstore 10), (129, .lload 10), (131, .lconst 0), (132, .lcmp), (133, .ifCond .le 53), (136, .iconst 0), (137, .istore 12), (139, .iload 12), (141, .aload_n 0), (142, .getfield 27), (145, .if_icmp .ge 37), (148, .aload_n 0), (149, .getfield 20), (152, .iload 12), (154, .lload 10), (156, .aload_n 2), (157, .iload 5), (159, .iload 12), (161, .iadd), (162, .laload), (163, .lmul), (164, .lload 6), (166, .aload_n 2), (167, .iload 9), (169, .iload 12), (171, .iadd), (172, .laload), (173, .lmul), (174, .ladd), (175, .lastore), (176, .iinc 12 1), (179, .goto (-40)), (182, .aload_n 0), (183, .invokevirtual 52), (186, .iinc 8 1), (189, .goto (-96)), (192, .iinc 4 1), (195, .goto (-159)), (198, .return_)]
set_option maxRecDepth 20000 in
theorem tb_e100 : ∀ q ∈ tb_d100, decode prog_11_method_3_code q.1 = .ok (q.2, mm_ln q.2) := by decide +kernel
-- 101 IndexedCompiler$Solver.keepWork()V
def tb_d101_0 : List (Nat × Instr) := [(0, .lconst 0), (1, .lstore_n 1), (2, .iconst 1), (3, .istore_n 3), (4, .iload_n 3), (5, .aload_n 0), (6, .getfield 27), (9, .if_icmp .ge 63), (12, .lload_n 1), (13, .lconst 1), (14, .lcmp), (15, .ifCond .eq 57), (18, .aload_n 0), (19, .getfield 20), (22, .iload_n 3), (23, .laload), (24, .invokestatic 62), (27, .lstore 4), (29, .iconst 0), (30, .istore 6), (32, .iload 6), (34, .sipush 200), (37, .if_icmp .ge 29), (40, .lload 4), (42, .lconst 0), (43, .lcmp), (44, .ifCond .eq 22), (47, .lload_n 1), (48, .lload 4), (50, .lrem), (51, .lstore 7), (53, .lload 4), (55, .lstore_n 1), (56, .lload 7)]
set_option maxRecDepth 20000 in
theorem tb_e101_0 : ∀ q ∈ tb_d101_0, decode prog_11_method_4_code q.1 = .ok (q.2, mm_ln q.2) := by decide +kernel
def tb_d101_1 : List (Nat × Instr) := [(58, .lstore 4), (60, .iinc 6 1), (63, .goto (-31)), (66, .iinc 3 1), (69, .goto (-65)), (72, .lload_n 1), (73, .lconst 1), (74, .lcmp), (75, .ifCond .le 45), (78, .iconst 1), (79, .istore_n 3), (80, .iload_n 3), (81, .aload_n 0), (82, .getfield 27), (85, .if_icmp .ge 19), (88, .aload_n 0), (89, .getfield 20), (92, .iload_n 3), (93, .dup2), (94, .laload), (95, .lload_n 1), (96, .ldiv), (97, .lastore), (98, .iinc 3 1), (101, .goto (-21)), (104, .aload_n 0), (105, .getfield 20), (108, .iconst 0), (109, .aload_n 0), (110, .getfield 20), (113, .iconst 0), (114, .laload), (115, .lload_n 1), (116, .invokestatic 66)]
set_option maxRecDepth 20000 in
theorem tb_e101_1 : ∀ q ∈ tb_d101_1, decode prog_11_method_4_code q.1 = .ok (q.2, mm_ln q.2) := by decide +kernel
def tb_d101_2 : List (Nat × Instr) := [(119, .lastore), (120, .iconst 0), (121, .istore_n 3), (122, .iload_n 3), (123, .aload_n 0), (124, .getfield 27), (127, .if_icmp .ge 49), (130, .aload_n 0), (131, .dup), (132, .getfield 30), (135, .aload_n 0), (136, .getfield 20), (139, .iload_n 3), (140, .laload), (141, .ldc2_w 70), (144, .lcmp), (145, .ifCond .gt 16), (148, .aload_n 0), (149, .getfield 20), (152, .iload_n 3), (153, .laload), (154, .ldc2_w 72), (157, .lcmp), (158, .ifCond .ge 7), (161, .iconst 1), (162, .goto 4), (165, .iconst 0), (166, .ior), (167, .putfield 30), (170, .iinc 3 1), (173, .goto (-51)), (176, .lload_n 1), (177, .lconst 0), (178, .lcmp)]
set_option maxRecDepth 20000 in
theorem tb_e101_2 : ∀ q ∈ tb_d101_2, decode prog_11_method_4_code q.1 = .ok (q.2, mm_ln q.2) := by decide +kernel
def tb_d101_3 : List (Nat × Instr) := [(179, .ifCond .ne 29), (182, .aload_n 0), (183, .dup), (184, .getfield 34), (187, .aload_n 0), (188, .getfield 20), (191, .iconst 0), (192, .laload), (193, .lconst 0), (194, .lcmp), (195, .ifCond .ge 7), (198, .iconst 1), (199, .goto 4), (202, .iconst 0), (203, .ior), (204, .putfield 34), (207, .return_), (208, .iconst 0), (209, .istore_n 3), (210, .iload_n 3), (211, .aload_n 0), (212, .getfield 23), (215, .if_icmp .ge 87), (218, .iload_n 3), (219, .bipush 25), (221, .imul), (222, .istore 4), (224, .iconst 1), (225, .istore 5), (227, .iload 5), (229, .aload_n 0), (230, .getfield 27), (233, .if_icmp .ge 30), (236, .aload_n 0)]
set_option maxRecDepth 20000 in
theorem tb_e101_3 : ∀ q ∈ tb_d101_3, decode prog_11_method_4_code q.1 = .ok (q.2, mm_ln q.2) := by decide +kernel
def tb_d101_4 : List (Nat × Instr) := [(237, .getfield 13), (240, .iload 4), (242, .iload 5), (244, .iadd), (245, .laload), (246, .aload_n 0), (247, .getfield 20), (250, .iload 5), (252, .laload), (253, .lcmp), (254, .ifCond .ne 9), (257, .iinc 5 1), (260, .goto (-33)), (263, .iload 5), (265, .aload_n 0), (266, .getfield 27), (269, .if_icmp .ne 27), (272, .aload_n 0), (273, .getfield 13), (276, .iload 4), (278, .aload_n 0), (279, .getfield 13), (282, .iload 4), (284, .laload), (285, .aload_n 0), (286, .getfield 20), (289, .iconst 0), (290, .laload), (291, .invokestatic 74), (294, .lastore), (295, .return_), (296, .iinc 3 1), (299, .goto (-89)), (302, .aload_n 0)]
set_option maxRecDepth 20000 in
theorem tb_e101_4 : ∀ q ∈ tb_d101_4, decode prog_11_method_4_code q.1 = .ok (q.2, mm_ln q.2) := by decide +kernel
def tb_d101_5 : List (Nat × Instr) := [(303, .getfield 23), (306, .bipush 80), (308, .if_icmp .lt 9), (311, .aload_n 0), (312, .iconst 1), (313, .putfield 30), (316, .return_), (317, .aload_n 0), (318, .getfield 20), (321, .iconst 0), (322, .aload_n 0), (323, .getfield 13), (326, .aload_n 0), (327, .getfield 23), (330, .bipush 25), (332, .imul), (333, .aload_n 0), (334, .getfield 27), (337, .invokestatic 46), (340, .aload_n 0), (341, .dup), (342, .getfield 23), (345, .iconst 1), (346, .iadd), (347, .putfield 23), (350, .return_)]
set_option maxRecDepth 20000 in
theorem tb_e101_5 : ∀ q ∈ tb_d101_5, decode prog_11_method_4_code q.1 = .ok (q.2, mm_ln q.2) := by decide +kernel
def tb_d101 : List (Nat × Instr) := tb_d101_0 ++ (tb_d101_1 ++ (tb_d101_2 ++ (tb_d101_3 ++ (tb_d101_4 ++ (tb_d101_5)))))
theorem tb_e101 : ∀ q ∈ tb_d101, decode prog_11_method_4_code q.1 = .ok (q.2, mm_ln q.2) := List.forall_mem_append.mpr ⟨tb_e101_0, List.forall_mem_append.mpr ⟨tb_e101_1, List.forall_mem_append.mpr ⟨tb_e101_2, List.forall_mem_append.mpr ⟨tb_e101_3, List.forall_mem_append.mpr ⟨tb_e101_4, tb_e101_5⟩⟩⟩⟩⟩
-- 102 IndexedCompiler$Expression.<init>()V
def tb_d102 : List (Nat × Instr) := [(0, .aload_n 0), (1, .invokespecial 3), (4, .aload_n 0), (5, .bipush 26), (7, .newarray .long), (9, .putfield 9), (12, .aload_n 0), (13, .iconst 0), (14, .putfield 13), (17, .return_)]
set_option maxRecDepth 20000 in
theorem tb_e102 : ∀ q ∈ tb_d102, decode prog_4_method_1_code q.1 = .ok (q.2, mm_ln q.2) := by decide +kernel
-- 103 IndexedCompiler$Expression.becomeNumber(J)V
def tb_d103 : List (Nat × Instr) := [(0, .aload_n 0), (1, .getfield 9), (4, .lconst 0), (5, .invokestatic 17), (8, .aload_n 0), (9, .getfield 9), (12, .iconst 0), (13, .lload_n 1), (14, .lastore), (15, .aload_n 0), (16, .iconst 0), (17, .putfield 13), (20, .return_)]
set_option maxRecDepth 20000 in
theorem tb_e103 : ∀ q ∈ tb_d103, decode prog_4_method_2_code q.1 = .ok (q.2, mm_ln q.2) := by decide +kernel
-- 104 IndexedCompiler$Expression.becomeDesk(IIII)V
def tb_d104 : List (Nat × Instr) := [(0, .aload_n 0), (1, .iload 4), (3, .i2l), (4, .invokevirtual 23), (7, .aload_n 0), (8, .getfield 9), (11, .iconst 1), (12, .iload_n 1), (13, .i2l), (14, .lastore), (15, .aload_n 0), (16, .getfield 9), (19, .iconst 2), (20, .iload_n 2), (21, .i2l), (22, .lastore), (23, .aload_n 0), (24, .getfield 9), (27, .iconst 3), (28, .iload_n 3), (29, .i2l), (30, .lastore), (31, .return_)]
set_option maxRecDepth 20000 in
theorem tb_e104 : ∀ q ∈ tb_d104, decode prog_4_method_5_code q.1 = .ok (q.2, mm_ln q.2) := by decide +kernel
-- 105 IndexedCompiler$Ground.<init>(II)V
def tb_d105 : List (Nat × Instr) := [(0, .aload_n 0), (1, .invokespecial 3), (4, .aload_n 0), (5, .new 9), (8, .dup), (9, .invokespecial 11), (12, .putfield 12), (15, .aload_n 0), (16, .iload_n 1), (17, .iconst 0), (18, .invokestatic 18), (21, .putfield 24), (24, .aload_n 0), (25, .aload_n 0), (26, .getfield 24), (29, .bipush 25), (31, .imul), (32, .newarray .long), (34, .putfield 28), (37, .aload_n 0), (38, .iload_n 2), (39, .iconst 0), (40, .invokestatic 18), (43, .putfield 32), (46, .aload_n 0), (47, .aload_n 0), (48, .getfield 32), (51, .bipush 6), (53, .imul), (54, .newarray .int), (56, .putfield 35), (59, .aload_n 0), (60, .bipush 8), (62, .anewarray 39), (65, .putfield 41), (68, .iconst 0), (69, .istore_n 3), (70, .iload_n 3), (71, .bipush 8), (73, .if_icmp .ge 22), (76, .aload_n 0), (77, .getfield 41), (80, .iload_n 3), (81, .new 39), (84, .dup), (85, .invokespecial 45), (88, .aastore), (89, .iinc 3 1), (92, .goto (-22)), (95, .aload_n 0), (96, .iconst 0), (97, .putfield 46), (100, .aload_n 0), (101, .iconst 0), (102, .putfield 49), (105, .aload_n 0), (106, .iconst 0), (107, .putfield 52), (110, .aload_n 0), (111, .iconst 0), (112, .putfield 55), (115, .aload_n 0), (116, .iconst 0), (117, .putfield 58), (120, .aload_n 0), (121, .iconst 1), (122, .putfield 61), (125, .aload_n 0), (126, .iconst 0), (127, .putfield 65), (130, .aload_n 0), (131, .iconst (-1)), (132, .putfield 68), (135, .return_)]
set_option maxRecDepth 20000 in
theorem tb_e105 : ∀ q ∈ tb_d105, decode prog_5_method_1_code q.1 = .ok (q.2, mm_ln q.2) := by decide +kernel
-- 106 IndexedCompiler$Ground.begin()V
def tb_d106 : List (Nat × Instr) := [(0, .aload_n 0), (1, .iconst 0), (2, .putfield 46), (5, .aload_n 0), (6, .iconst 0), (7, .putfield 49), (10, .aload_n 0), (11, .iconst 0), (12, .putfield 52), (15, .aload_n 0), (16, .iconst 0), (17, .putfield 55), (20, .aload_n 0), (21, .iconst 0), (22, .putfield 58), (25, .aload_n 0), (26, .iconst 1), (27, .putfield 61), (30, .aload_n 0), (31, .iconst 0), (32, .putfield 65), (35, .aload_n 0), (36, .iconst (-1)), (37, .putfield 68), (40, .return_)]
set_option maxRecDepth 20000 in
theorem tb_e106 : ∀ q ∈ tb_d106, decode prog_5_method_2_code q.1 = .ok (q.2, mm_ln q.2) := by decide +kernel
-- 107 IndexedCompiler$Ground.addFact(LIndexedCompiler$Expression;I)V
def tb_d107 : List (Nat × Instr) := [(0, .aload_n 0), (1, .getfield 49), (4, .ifCond .lt 14), (7, .aload_n 0), (8, .getfield 49), (11, .aload_n 0), (12, .getfield 24), (15, .if_icmp .lt 10), (18, .aload_n 0), (19, .bipush (-8)), (21, .iload_n 2), (22, .invokevirtual 78), (25, .aload_n 1), (26, .getfield 82), (29, .iconst 0), (30, .aload_n 0), (31, .getfield 28), (34, .aload_n 0), (35, .getfield 49), (38, .bipush 25), (40, .imul), (41, .bipush 25), (43, .invokestatic 85), (46, .aload_n 0), (47, .dup), (48, .getfield 49), (51, .iconst 1), (52, .iadd), (53, .putfield 49), (56, .return_)]
set_option maxRecDepth 20000 in
theorem tb_e107 : ∀ q ∈ tb_d107, decode prog_5_method_6_code q.1 = .ok (q.2, mm_ln q.2) := by decide +kernel
-- 108 IndexedCompiler$Ground.proves(LIndexedCompiler$Expression;)Z
def tb_d108 : List (Nat × Instr) := [(0, .aload_n 0), (1, .getfield 12), (4, .aload_n 0), (5, .getfield 28), (8, .aload_n 0), (9, .getfield 49), (12, .aload_n 0), (13, .getfield 52), (16, .aload_n 1), (17, .invokevirtual 105), (20, .ireturn)]
set_option maxRecDepth 20000 in
theorem tb_e108 : ∀ q ∈ tb_d108, decode prog_5_method_11_code q.1 = .ok (q.2, mm_ln q.2) := by decide +kernel
-- 109 IndexedCompiler$Checker.<init>()V
def tb_d109 : List (Nat × Instr) := [(0, .aload_n 0), (1, .invokespecial 3), (4, .aload_n 0), (5, .new 9), (8, .dup), (9, .bipush 48), (11, .sipush 200), (14, .invokespecial 13), (17, .putfield 16), (20, .aload_n 0), (21, .aconst_null), (22, .putfield 20), (25, .aload_n 0), (26, .aconst_null), (27, .putfield 24), (30, .aload_n 0), (31, .sipush 300), (34, .anewarray 28), (37, .putfield 30), (40, .aload_n 0), (41, .bipush 20), (43, .anewarray 34), (46, .putfield 36), (49, .aload_n 0), (50, .bipush 24), (52, .newarray .int), (54, .putfield 40), (57, .aload_n 0), (58, .bipush 24), (60, .anewarray 28), (63, .putfield 44), (66, .aload_n 0), (67, .iconst (-1)), (68, .putfield 47), (71, .aload_n 0), (72, .iconst 0), (73, .putfield 51), (76, .return_)]
set_option maxRecDepth 20000 in
theorem tb_e109 : ∀ q ∈ tb_d109, decode prog_2_method_1_code q.1 = .ok (q.2, mm_ln q.2) := by decide +kernel
-- 110 IndexedCompiler$Checker.judge([LIndexedCompiler$Tree;I)I
def tb_d110 : List (Nat × Instr) := [(0, .aload_n 1), (1, .ifnonnull 5), (4, .iconst 0), (5, .ireturn), (6, .aload_n 0), (7, .aload_n 1), (8, .putfield 20), (11, .aload_n 0), (12, .iload_n 2), (13, .iconst 0), (14, .invokestatic 55), (17, .aload_n 1), (18, .arraylength), (19, .invokestatic 61), (22, .putfield 64), (25, .aload_n 0), (26, .iconst 0), (27, .putfield 67), (30, .aload_n 0), (31, .iconst 0), (32, .putfield 70), (35, .aload_n 0), (36, .iconst 0), (37, .putfield 51), (40, .aload_n 0), (41, .getfield 16), (44, .invokevirtual 73), (47, .aload_n 0), (48, .iconst 0), (49, .putfield 47), (52, .aload_n 0), (53, .getfield 47), (56, .aload_n 0), (57, .getfield 64), (60, .if_icmp .ge 28), (63, .aload_n 0), (64, .invokevirtual 76), (67, .aload_n 0), (68, .aload_n 0), (69, .invokevirtual 79), (72, .invokevirtual 83), (75, .aload_n 0), (76, .dup), (77, .getfield 47), (80, .iconst 1), (81, .iadd), (82, .putfield 47), (85, .goto (-33)), (88, .aload_n 0), (89, .iconst 0), (90, .putfield 47), (93, .aload_n 0), (94, .getfield 47), (97, .aload_n 0), (98, .getfield 64), (101, .if_icmp .ge 42), (104, .aload_n 0), (105, .invokevirtual 76), (108, .aload_n 0), (109, .invokevirtual 79), (112, .astore_n 3), (113, .aload_n 0), (114, .aload_n 3), (115, .invokevirtual 83), (118, .aload_n 0), (119, .aload_n 0), (120, .getfield 24), (123, .getfield 87), (126, .aload_n 3), (127, .invokevirtual 92), (130, .aload_n 0), (131, .dup), (132, .getfield 47), (135, .iconst 1), (136, .iadd), (137, .putfield 47), (140, .goto (-47)), (143, .goto 38), (146, .astore_n 3), (147, .aload_n 0), (148, .getfield 16), (151, .iconst 0), (152, .putfield 98), (155, .aload_n 0), (156, .getfield 16), (159, .iconst 0), (160, .putfield 101), (163, .aload_n 0), (164, .iconst 0), (165, .putfield 67), (168, .aload_n 0), (169, .iconst 0), (170, .putfield 70), (173, .aload_n 0), (174, .getfield 16), (177, .getfield 104), (180, .ireturn), (181, .aload_n 0), (182, .iconst (-1)), (183, .putfield 47), (186, .aload_n 0), (187, .aload_n 0), (188, .getfield 16), (191, .getfield 107), (194, .putfield 51), (197, .aload_n 0), (198, .getfield 51), (201, .ifCond .eq 7), (204, .iconst 1), (205, .goto 4), (208, .iconst 0), (209, .ireturn)]
set_option maxRecDepth 20000 in
theorem tb_e110 : ∀ q ∈ tb_d110, decode prog_2_method_2_code q.1 = .ok (q.2, mm_ln q.2) := by decide +kernel
-- 111 IndexedCompiler$Checker.faultPlace()I
def tb_d111 : List (Nat × Instr) := [(0, .aload_n 0), (1, .getfield 16), (4, .getfield 110), (7, .ireturn)]
set_option maxRecDepth 20000 in
theorem tb_e111 : ∀ q ∈ tb_d111, decode prog_2_method_3_code q.1 = .ok (q.2, mm_ln q.2) := by decide +kernel
-- 112 IndexedCompiler$Checker.tally(I)I
def tb_d112 : List (Nat × Instr) := [(0, .iload_n 1), (32, .aload_n 0), (33, .getfield 16), (36, .getfield 98), (39, .ireturn), (40, .aload_n 0), (41, .getfield 16), (44, .getfield 101), (47, .ireturn), (48, .aload_n 0), (49, .getfield 67), (52, .ireturn), (53, .aload_n 0), (54, .getfield 70), (57, .ireturn), (58, .aload_n 0), (59, .getfield 47), (62, .ireturn)]
set_option maxRecDepth 20000 in
theorem tb_e112 : ∀ q ∈ tb_d112, decode prog_2_method_5_code q.1 = .ok (q.2, mm_ln q.2) := by decide +kernel
-- 113 IndexedCompiler$Coder.<init>()V
def tb_d113 : List (Nat × Instr) := [(0, .aload_n 0), (1, .invokespecial 5), (4, .aload_n 0), (5, .bipush 8), (7, .anewarray 11), (10, .putfield 13), (13, .aload_n 0), (14, .bipush 8), (16, .newarray .int), (18, .putfield 19), (21, .aload_n 0), (22, .bipush 8), (24, .newarray .int), (26, .putfield 22), (29, .aload_n 0), (30, .bipush 8), (32, .newarray .boolean), (34, .putfield 25), (37, .aload_n 0), (38, .aconst_null), (39, .putfield 29), (42, .aload_n 0), (43, .aconst_null), (44, .putfield 33), (47, .aload_n 0), (48, .iconst 0), (49, .putfield 36), (52, .return_)]
set_option maxRecDepth 20000 in
theorem tb_e113 : ∀ q ∈ tb_d113, decode prog_3_method_1_code q.1 = .ok (q.2, mm_ln q.2) := by decide +kernel
-- 114 IndexedCompiler$Coder.compile([LIndexedCompiler$Tree;I)V
def tb_d114 : List (Nat × Instr) := [(0, .aload_n 1), (1, .ifnonnull 4), (4, .return_), (5, .iconst 0), (6, .istore_n 3), (7, .iload_n 3), (8, .iload_n 2), (9, .if_icmp .ge 142), (12, .iload_n 3), (13, .bipush 8), (15, .if_icmp .ge 136), (18, .iload_n 3), (19, .aload_n 1), (20, .arraylength), (21, .if_icmp .ge 130), (24, .aload_n 0), (25, .getfield 13), (28, .iload_n 3), (29, .aaload), (30, .ifnonnull 14), (33, .aload_n 0), (34, .getfield 13), (37, .iload_n 3), (38, .sipush 1000), (41, .newarray .int), (43, .aastore), (44, .aload_n 0), (45, .aload_n 0), (46, .getfield 13), (49, .iload_n 3), (50, .aaload), (51, .putfield 33), (54, .aload_n 0), (55, .aload_n 1), (56, .iload_n 3), (57, .aaload), (58, .putfield 29), (61, .aload_n 0), (62, .iconst 0), (63, .putfield 36), (66, .aload_n 0), (67, .getfield 29), (70, .ifnull 65), (73, .aload_n 0), (74, .aload_n 0), (75, .getfield 29), (78, .getfield 40), (81, .invokevirtual 45), (84, .aload_n 0), (85, .bipush 22), (87, .iconst 0), (88, .invokevirtual 49), (91, .aload_n 0), (92, .getfield 22), (95, .iload_n 3), (96, .aload_n 0), (97, .getfield 29), (100, .getfield 53), (103, .iastore), (104, .aload_n 0), (105, .getfield 25), (108, .iload_n 3), (109, .aload_n 0), (110, .getfield 29), (113, .aload_n 0), (114, .getfield 29), (117, .getfield 56), (120, .iconst 0), (121, .invokevirtual 59), (124, .bipush 22), (126, .if_icmp .ne 7), (129, .iconst 1), (130, .goto 4), (133, .iconst 0), (134, .bastore), (135, .aload_n 0), (136, .getfield 19), (139, .iload_n 3), (140, .aload_n 0), (141, .getfield 36), (144, .iastore), (145, .iinc 3 1), (148, .goto (-141)), (151, .return_)]
set_option maxRecDepth 20000 in
theorem tb_e114 : ∀ q ∈ tb_d114, decode prog_3_method_2_code q.1 = .ok (q.2, mm_ln q.2) := by decide +kernel
-- 115 IndexedCompiler$Slots.<init>()V
def tb_d115 : List (Nat × Instr) := [(0, .aload_n 0), (1, .invokespecial 3), (4, .aload_n 0), (5, .bipush 6), (7, .newarray .boolean), (9, .putfield 9), (12, .aload_n 0), (13, .bipush 6), (15, .newarray .int), (17, .putfield 15), (20, .aload_n 0), (21, .sipush 240), (24, .newarray .int), (26, .putfield 19), (29, .aload_n 0), (30, .iconst 4), (31, .newarray .int), (33, .putfield 22), (36, .return_)]
set_option maxRecDepth 20000 in
theorem tb_e115 : ∀ q ∈ tb_d115, decode prog_10_method_1_code q.1 = .ok (q.2, mm_ln q.2) := by decide +kernel
-- 116 IndexedCompiler$Slots.becomeNumber(II)V
def tb_d116 : List (Nat × Instr) := [(0, .iload_n 1), (1, .invokestatic 25), (4, .ifCond .eq 17), (7, .aload_n 0), (8, .getfield 9), (11, .iload_n 1), (12, .iconst 0), (13, .bastore), (14, .aload_n 0), (15, .getfield 15), (18, .iload_n 1), (19, .iload_n 2), (20, .iastore), (21, .return_)]
set_option maxRecDepth 20000 in
theorem tb_e116 : ∀ q ∈ tb_d116, decode prog_10_method_2_code q.1 = .ok (q.2, mm_ln q.2) := by decide +kernel
-- 117 IndexedCompiler$Slots.becomeRow(II)V
def tb_d117 : List (Nat × Instr) := [(0, .iload_n 1), (1, .invokestatic 25), (4, .ifCond .eq 52), (7, .iload_n 2), (8, .ifCond .lt 48), (11, .iload_n 2), (12, .bipush 40), (14, .if_icmp .gt 42), (17, .aload_n 0), (18, .getfield 9), (21, .iload_n 1), (22, .iconst 1), (23, .bastore), (24, .aload_n 0), (25, .getfield 15), (28, .iload_n 1), (29, .iload_n 2), (30, .iastore), (31, .iconst 0), (32, .istore_n 3), (33, .iload_n 3), (34, .iload_n 2), (35, .if_icmp .ge 21), (38, .aload_n 0), (39, .getfield 19), (42, .iload_n 1), (43, .bipush 40), (45, .imul), (46, .iload_n 3), (47, .iadd), (48, .iconst 0), (49, .iastore), (50, .iinc 3 1), (53, .goto (-20)), (56, .return_)]
set_option maxRecDepth 20000 in
theorem tb_e117 : ∀ q ∈ tb_d117, decode prog_10_method_3_code q.1 = .ok (q.2, mm_ln q.2) := by decide +kernel
-- 118 IndexedCompiler$Slots.isRowAt(I)Z
def tb_d118 : List (Nat × Instr) := [(0, .iload_n 1), (1, .invokestatic 25), (4, .ifCond .eq 16), (7, .aload_n 0), (8, .getfield 9), (11, .iload_n 1), (12, .baload), (13, .ifCond .eq 7), (16, .iconst 1), (17, .goto 4), (20, .iconst 0), (21, .ireturn)]
set_option maxRecDepth 20000 in
theorem tb_e118 : ∀ q ∈ tb_d118, decode prog_10_method_4_code q.1 = .ok (q.2, mm_ln q.2) := by decide +kernel
-- 119 IndexedCompiler$Slots.has(II)Z
def tb_d119 : List (Nat × Instr) := [(0, .aload_n 0), (1, .iload_n 1), (2, .invokevirtual 29), (5, .ifCond .eq 27), (8, .iload_n 2), (9, .ifCond .lt 23), (12, .iload_n 2), (13, .aload_n 0), (14, .getfield 15), (17, .iload_n 1), (18, .iaload), (19, .if_icmp .ge 13), (22, .iload_n 2), (23, .bipush 40), (25, .if_icmp .ge 7), (28, .iconst 1), (29, .goto 4), (32, .iconst 0), (33, .ireturn)]
set_option maxRecDepth 20000 in
theorem tb_e119 : ∀ q ∈ tb_d119, decode prog_10_method_5_code q.1 = .ok (q.2, mm_ln q.2) := by decide +kernel
-- 120 IndexedCompiler$Slots.size(I)I
def tb_d120 : List (Nat × Instr) := [(0, .iload_n 1), (1, .invokestatic 25), (4, .ifCond .eq 12), (7, .aload_n 0), (8, .getfield 15), (11, .iload_n 1), (12, .iaload), (13, .goto 4), (16, .iconst 0), (17, .ireturn)]
set_option maxRecDepth 20000 in
theorem tb_e120 : ∀ q ∈ tb_d120, decode prog_10_method_6_code q.1 = .ok (q.2, mm_ln q.2) := by decide +kernel
-- 121 IndexedCompiler$Slots.cell(II)I
def tb_d121 : List (Nat × Instr) := [(0, .aload_n 0), (1, .iload_n 1), (2, .iload_n 2), (3, .invokevirtual 32), (6, .ifCond .eq 17), (9, .aload_n 0), (10, .getfield 19), (13, .iload_n 1), (14, .bipush 40), (16, .imul), (17, .iload_n 2), (18, .iadd), (19, .iaload), (20, .goto 4), (23, .iconst 0), (24, .ireturn)]
set_option maxRecDepth 20000 in
theorem tb_e121 : ∀ q ∈ tb_d121, decode prog_10_method_7_code q.1 = .ok (q.2, mm_ln q.2) := by decide +kernel
-- 122 IndexedCompiler$Slots.change(III)V
def tb_d122 : List (Nat × Instr) := [(0, .aload_n 0), (1, .iload_n 1), (2, .iload_n 2), (3, .invokevirtual 32), (6, .ifCond .eq 15), (9, .aload_n 0), (10, .getfield 19), (13, .iload_n 1), (14, .bipush 40), (16, .imul), (17, .iload_n 2), (18, .iadd), (19, .iload_n 3), (20, .iastore), (21, .return_)]
set_option maxRecDepth 20000 in
theorem tb_e122 : ∀ q ∈ tb_d122, decode prog_10_method_8_code q.1 = .ok (q.2, mm_ln q.2) := by decide +kernel
-- 123 IndexedCompiler$Slots.exchange(II)I
def tb_d123 : List (Nat × Instr) := [(0, .iload_n 1), (1, .ifCond .lt 8), (4, .iload_n 1), (5, .iconst 4), (6, .if_icmp .lt 5), (9, .iconst 0), (10, .ireturn), (11, .aload_n 0), (12, .getfield 22), (15, .iload_n 1), (16, .iaload), (17, .istore_n 3), (18, .aload_n 0), (19, .getfield 22), (22, .iload_n 1), (23, .iload_n 2), (24, .iastore), (25, .iload_n 3), (26, .ireturn)]
set_option maxRecDepth 20000 in
theorem tb_e123 : ∀ q ∈ tb_d123, decode prog_10_method_9_code q.1 = .ok (q.2, mm_ln q.2) := by decide +kernel
-- 124 IndexedCompiler$Machine.<init>()V
def tb_d124 : List (Nat × Instr) := [(0, .aload_n 0), (1, .invokespecial 5), (4, .aload_n 0), (5, .sipush 600), (8, .newarray .int), (10, .putfield 13), (13, .aload_n 0), (14, .sipush 200), (17, .newarray .int), (19, .putfield 17), (22, .aload_n 0), (23, .sipush 600), (26, .newarray .int), (28, .putfield 20), (31, .aload_n 0), (32, .bipush 60), (34, .newarray .int), (36, .putfield 23), (39, .aload_n 0), (40, .bipush 60), (42, .newarray .int), (44, .putfield 26), (47, .aload_n 0), (48, .bipush 100), (50, .newarray .int), (52, .putfield 29), (55, .aload_n 0), (56, .bipush 8), (58, .newarray .int), (60, .putfield 32), (63, .aload_n 0), (64, .iconst (-1)), (65, .putfield 35), (68, .aload_n 0), (69, .aconst_null), (70, .putfield 39), (73, .return_)]
set_option maxRecDepth 20000 in
theorem tb_e124 : ∀ q ∈ tb_d124, decode prog_7_method_1_code q.1 = .ok (q.2, mm_ln q.2) := by decide +kernel
-- 125 IndexedCompiler$Machine.report(I)I
def tb_d125 : List (Nat × Instr) := [(0, .iload_n 1), (1, .ifCond .lt 18), (4, .iload_n 1), (5, .bipush 8), (7, .if_icmp .ge 12), (10, .aload_n 0), (11, .getfield 32), (14, .iload_n 1), (15, .iaload), (16, .goto 4), (19, .iconst 0), (20, .ireturn)]
set_option maxRecDepth 20000 in
theorem tb_e125 : ∀ q ∈ tb_d125, decode prog_7_method_2_code q.1 = .ok (q.2, mm_ln q.2) := by decide +kernel
-- 126 IndexedCompiler$Machine.print(I)I
def tb_d126 : List (Nat × Instr) := [(0, .iload_n 1), (1, .ifCond .lt 28), (4, .iload_n 1), (5, .bipush 100), (7, .if_icmp .ge 22), (10, .iload_n 1), (11, .aload_n 0), (12, .getfield 32), (15, .iconst 5), (16, .iaload), (17, .if_icmp .ge 12), (20, .aload_n 0), (21, .getfield 29), (24, .iload_n 1), (25, .iaload), (26, .goto 4), (29, .iconst (-1)), (30, .ireturn)]
set_option maxRecDepth 20000 in
theorem tb_e126 : ∀ q ∈ tb_d126, decode prog_7_method_3_code q.1 = .ok (q.2, mm_ln q.2) := by decide +kernel
-- 127 IndexedCompiler$Machine.answered(I)I
def tb_d127 : List (Nat × Instr) := [(0, .aload_n 0), (1, .getfield 35), (4, .ifCond .lt 19), (7, .iload_n 1), (8, .ifCond .lt 15), (11, .iload_n 1), (12, .aload_n 0), (13, .aload_n 0), (14, .getfield 35), (17, .invokevirtual 43), (20, .if_icmp .lt 5), (23, .iconst (-1)), (24, .ireturn), (25, .aload_n 0), (26, .aload_n 0), (27, .getfield 35), (30, .iconst 1), (31, .iadd), (32, .iload_n 1), (33, .iadd), (34, .invokevirtual 47), (37, .ireturn)]
set_option maxRecDepth 20000 in
theorem tb_e127 : ∀ q ∈ tb_d127, decode prog_7_method_4_code q.1 = .ok (q.2, mm_ln q.2) := by decide +kernel
-- 128 IndexedCompiler$Tree.<init>()V
def tb_d128 : List (Nat × Instr) := [(0, .aload_n 0), (1, .invokespecial 3), (4, .aload_n 0), (5, .sipush 4500), (8, .newarray .int), (10, .putfield 11), (13, .aload_n 0), (14, .iconst 1), (15, .putfield 15), (18, .return_)]
set_option maxRecDepth 20000 in
theorem tb_e128 : ∀ q ∈ tb_d128, decode prog_12_method_1_code q.1 = .ok (q.2, mm_ln q.2) := by decide +kernel
-- 129 IndexedCompiler$Tree.empty()V
def tb_d129 : List (Nat × Instr) := [(0, .aload_n 0), (1, .iconst 1), (2, .putfield 15), (5, .aload_n 0), (6, .iconst 0), (7, .putfield 19), (10, .aload_n 0), (11, .iconst 0), (12, .putfield 22), (15, .aload_n 0), (16, .iconst 0), (17, .putfield 25), (20, .aload_n 0), (21, .iconst 0), (22, .putfield 28), (25, .aload_n 0), (26, .iconst 0), (27, .putfield 31), (30, .aload_n 0), (31, .iconst 0), (32, .putfield 34), (35, .aload_n 0), (36, .iconst 0), (37, .putfield 37), (40, .aload_n 0), (41, .iconst 0), (42, .putfield 40), (45, .aload_n 0), (46, .iconst 0), (47, .putfield 43), (50, .return_)]
set_option maxRecDepth 20000 in
theorem tb_e129 : ∀ q ∈ tb_d129, decode prog_12_method_2_code q.1 = .ok (q.2, mm_ln q.2) := by decide +kernel
-- 130 java/lang/Math.max(II)I
def tb_d130 : List (Nat × Instr) := [(0, .iload_n 0), (1, .iload_n 1), (2, .if_icmp .lt 7), (5, .iload_n 0), (6, .goto 4), (9, .iload_n 1), (10, .ireturn)]
set_option maxRecDepth 20000 in
theorem tb_e130 : ∀ q ∈ tb_d130, decode prog_19_method_65_code q.1 = .ok (q.2, mm_ln q.2) := by decide +kernel
-- 131 java/lang/Math.min(II)I
def tb_d131 : List (Nat × Instr) := [(0, .iload_n 0), (1, .iload_n 1), (2, .if_icmp .gt 7), (5, .iload_n 0), (6, .goto 4), (9, .iload_n 1), (10, .ireturn)]
set_option maxRecDepth 20000 in
theorem tb_e131 : ∀ q ∈ tb_d131, decode prog_19_method_69_code q.1 = .ok (q.2, mm_ln q.2) := by decide +kernel
-- 132 java/lang/Math.abs(J)J
def tb_d132 : List (Nat × Instr) := [(0, .lload_n 0), (1, .lconst 0), (2, .lcmp), (3, .ifCond .ge 8), (6, .lload_n 0), (7, .lneg), (8, .goto 4), (11, .lload_n 0), (12, .lreturn)]
set_option maxRecDepth 20000 in
theorem tb_e132 : ∀ q ∈ tb_d132, decode prog_19_method_61_code q.1 = .ok (q.2, mm_ln q.2) := by decide +kernel
-- 133 java/lang/Math.floorDiv(JJ)J
def tb_d133 : List (Nat × Instr) := [(0, .lload_n 0), (1, .lload_n 2), (2, .ldiv), (3, .lstore 4), (5, .lload_n 0), (6, .lload_n 2), (7, .lxor), (8, .lconst 0), (9, .lcmp), (10, .ifCond .ge 17), (13, .lload 4), (15, .lload_n 2), (16, .lmul), (17, .lload_n 0), (18, .lcmp), (19, .ifCond .eq 8), (22, .lload 4), (24, .lconst 1), (25, .lsub), (26, .lreturn), (27, .lload 4), (29, .lreturn)]
set_option maxRecDepth 20000 in
theorem tb_e133 : ∀ q ∈ tb_d133, decode prog_19_method_49_code q.1 = .ok (q.2, mm_ln q.2) := by decide +kernel
-- 134 java/lang/Math.min(JJ)J
def tb_d134 : List (Nat × Instr) := [(0, .lload_n 0), (1, .lload_n 2), (2, .lcmp), (3, .ifCond .gt 7), (6, .lload_n 0), (7, .goto 4), (10, .lload_n 2), (11, .lreturn)]
set_option maxRecDepth 20000 in
theorem tb_e134 : ∀ q ∈ tb_d134, decode prog_19_method_70_code q.1 = .ok (q.2, mm_ln q.2) := by decide +kernel
-- 135 java/util/Arrays.fill([JJ)V
def tb_d135 : List (Nat × Instr) := [(0, .iconst 0), (1, .istore_n 3), (2, .aload_n 0), (3, .arraylength), (4, .istore 4), (6, .iload_n 3), (7, .iload 4), (9, .if_icmp .ge 13), (12, .aload_n 0), (13, .iload_n 3), (14, .lload_n 1), (15, .lastore), (16, .iinc 3 1), (19, .goto (-13)), (22, .return_)]
set_option maxRecDepth 20000 in
theorem tb_e135 : ∀ q ∈ tb_d135, decode prog_26_method_101_code q.1 = .ok (q.2, mm_ln q.2) := by decide +kernel
