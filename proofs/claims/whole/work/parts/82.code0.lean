/-! THE CODE of the methods, by wip/gen.py. Methods by number: -/
-- 0 IndexedCompilerLaw.law([I)Z
def tb_d0_0 : List (Nat × Instr) := [(0, .new 8), (3, .dup), (4, .invokespecial 60), (7, .astore_n 1), (8, .new 61), (11, .dup), (12, .invokespecial 63), (15, .astore_n 2), (16, .iconst 1), (17, .newarray .long), (19, .astore_n 3), (20, .iconst 0)]
set_option maxRecDepth 20000 in
theorem tb_e0_0 : ∀ q ∈ tb_d0_0, decode code q.1 = .ok (q.2, mm_ln q.2) := by decide +kernel
def tb_d0_1 : List (Nat × Instr) := [(21, .istore 4), (23, .iload 4), (25, .aload_n 0), (26, .arraylength), (27, .bipush 6), (29, .isub), (30, .if_icmp .gt 1170), (33, .aload_n 0), (34, .iload 4), (36, .iaload), (37, .bipush 31), (39, .iand)]
set_option maxRecDepth 20000 in
theorem tb_e0_1 : ∀ q ∈ tb_d0_1, decode code q.1 = .ok (q.2, mm_ln q.2) := by decide +kernel
def tb_d0_2 : List (Nat × Instr) := [(136, .aload_n 1), (137, .aload_n 0), (138, .iload 4), (140, .iconst 1), (141, .iadd), (142, .iaload), (143, .aload_n 0), (144, .iload 4), (146, .iconst 2), (147, .iadd), (148, .iaload), (149, .aload_n 0)]
set_option maxRecDepth 20000 in
theorem tb_e0_2 : ∀ q ∈ tb_d0_2, decode code q.1 = .ok (q.2, mm_ln q.2) := by decide +kernel
def tb_d0_3 : List (Nat × Instr) := [(150, .iload 4), (152, .iconst 3), (153, .iadd), (154, .iaload), (155, .aload_n 0), (156, .iload 4), (158, .iconst 4), (159, .iadd), (160, .iaload), (161, .aload_n 0), (162, .iload 4), (164, .iconst 5)]
set_option maxRecDepth 20000 in
theorem tb_e0_3 : ∀ q ∈ tb_d0_3, decode code q.1 = .ok (q.2, mm_ln q.2) := by decide +kernel
def tb_d0_4 : List (Nat × Instr) := [(165, .iadd), (166, .iaload), (167, .aload_n 3), (168, .invokestatic 64), (171, .istore 5), (173, .aload_n 2), (174, .aload_n 0), (175, .iload 4), (177, .iconst 1), (178, .iadd), (179, .iaload), (180, .aload_n 0)]
set_option maxRecDepth 20000 in
theorem tb_e0_4 : ∀ q ∈ tb_d0_4, decode code q.1 = .ok (q.2, mm_ln q.2) := by decide +kernel
def tb_d0_5 : List (Nat × Instr) := [(181, .iload 4), (183, .iconst 2), (184, .iadd), (185, .iaload), (186, .aload_n 0), (187, .iload 4), (189, .iconst 3), (190, .iadd), (191, .iaload), (192, .aload_n 0), (193, .iload 4), (195, .iconst 4)]
set_option maxRecDepth 20000 in
theorem tb_e0_5 : ∀ q ∈ tb_d0_5, decode code q.1 = .ok (q.2, mm_ln q.2) := by decide +kernel
def tb_d0_6 : List (Nat × Instr) := [(196, .iadd), (197, .iaload), (198, .aload_n 0), (199, .iload 4), (201, .iconst 5), (202, .iadd), (203, .iaload), (204, .invokevirtual 69), (207, .istore 6), (209, .aload_n 2), (210, .invokevirtual 70), (213, .iload 5)]
set_option maxRecDepth 20000 in
theorem tb_e0_6 : ∀ q ∈ tb_d0_6, decode code q.1 = .ok (q.2, mm_ln q.2) := by decide +kernel
def tb_d0_7 : List (Nat × Instr) := [(215, .if_icmp .eq 5), (218, .iconst 0), (219, .ireturn), (220, .iload 5), (222, .ifCond .ne 15), (225, .aload_n 3), (226, .iconst 0), (227, .laload), (228, .iload 6), (230, .i2l), (231, .lcmp), (232, .ifCond .eq 5)]
set_option maxRecDepth 20000 in
theorem tb_e0_7 : ∀ q ∈ tb_d0_7, decode code q.1 = .ok (q.2, mm_ln q.2) := by decide +kernel
def tb_d0_8 : List (Nat × Instr) := [(235, .iconst 0), (236, .ireturn), (237, .goto 957), (240, .aload_n 1), (241, .invokevirtual 74), (244, .aload_n 2), (245, .invokevirtual 77), (248, .if_icmp .eq 946), (251, .iconst 0), (252, .ireturn), (253, .aload_n 1), (254, .invokevirtual 78)]
set_option maxRecDepth 20000 in
theorem tb_e0_8 : ∀ q ∈ tb_d0_8, decode code q.1 = .ok (q.2, mm_ln q.2) := by decide +kernel
def tb_d0_9 : List (Nat × Instr) := [(257, .aload_n 2), (258, .invokevirtual 81), (261, .if_icmp .eq 933), (264, .iconst 0), (265, .ireturn), (266, .aload_n 1), (267, .invokevirtual 82), (270, .aload_n 2), (271, .invokevirtual 85), (274, .if_icmp .eq 920), (277, .iconst 0), (278, .ireturn)]
set_option maxRecDepth 20000 in
theorem tb_e0_9 : ∀ q ∈ tb_d0_9, decode code q.1 = .ok (q.2, mm_ln q.2) := by decide +kernel
def tb_d0_10 : List (Nat × Instr) := [(279, .aload_n 1), (280, .invokevirtual 86), (283, .aload_n 2), (284, .invokevirtual 89), (287, .if_icmp .eq 907), (290, .iconst 0), (291, .ireturn), (292, .aload_n 1), (293, .invokevirtual 90), (296, .aload_n 2), (297, .invokevirtual 93), (300, .if_icmp .eq 894)]
set_option maxRecDepth 20000 in
theorem tb_e0_10 : ∀ q ∈ tb_d0_10, decode code q.1 = .ok (q.2, mm_ln q.2) := by decide +kernel
def tb_d0_11 : List (Nat × Instr) := [(303, .iconst 0), (304, .ireturn), (305, .aload_n 1), (306, .aload_n 0), (307, .iload 4), (309, .iconst 1), (310, .iadd), (311, .iaload), (312, .aload_n 3), (313, .invokestatic 94), (316, .istore 5), (318, .aload_n 2)]
set_option maxRecDepth 20000 in
theorem tb_e0_11 : ∀ q ∈ tb_d0_11, decode code q.1 = .ok (q.2, mm_ln q.2) := by decide +kernel
def tb_d0_12 : List (Nat × Instr) := [(319, .aload_n 0), (320, .iload 4), (322, .iconst 1), (323, .iadd), (324, .iaload), (325, .invokevirtual 97), (328, .istore 6), (330, .aload_n 2), (331, .invokevirtual 70), (334, .iload 5), (336, .if_icmp .eq 5), (339, .iconst 0)]
set_option maxRecDepth 20000 in
theorem tb_e0_12 : ∀ q ∈ tb_d0_12, decode code q.1 = .ok (q.2, mm_ln q.2) := by decide +kernel
def tb_d0_13 : List (Nat × Instr) := [(340, .ireturn), (341, .iload 5), (343, .ifCond .ne 15), (346, .aload_n 3), (347, .iconst 0), (348, .laload), (349, .iload 6), (351, .i2l), (352, .lcmp), (353, .ifCond .eq 5), (356, .iconst 0), (357, .ireturn)]
set_option maxRecDepth 20000 in
theorem tb_e0_13 : ∀ q ∈ tb_d0_13, decode code q.1 = .ok (q.2, mm_ln q.2) := by decide +kernel
def tb_d0_14 : List (Nat × Instr) := [(358, .goto 836), (361, .aload_n 1), (362, .aload_n 0), (363, .iload 4), (365, .iconst 1), (366, .iadd), (367, .iaload), (368, .aload_n 0), (369, .iload 4), (371, .iconst 2), (372, .iadd), (373, .iaload)]
set_option maxRecDepth 20000 in
theorem tb_e0_14 : ∀ q ∈ tb_d0_14, decode code q.1 = .ok (q.2, mm_ln q.2) := by decide +kernel
def tb_d0_15 : List (Nat × Instr) := [(374, .aload_n 3), (375, .invokestatic 98), (378, .istore 5), (380, .aload_n 2), (381, .aload_n 0), (382, .iload 4), (384, .iconst 1), (385, .iadd), (386, .iaload), (387, .aload_n 0), (388, .iload 4), (390, .iconst 2)]
set_option maxRecDepth 20000 in
theorem tb_e0_15 : ∀ q ∈ tb_d0_15, decode code q.1 = .ok (q.2, mm_ln q.2) := by decide +kernel
def tb_d0_16 : List (Nat × Instr) := [(391, .iadd), (392, .iaload), (393, .invokevirtual 101), (396, .istore 6), (398, .aload_n 2), (399, .invokevirtual 70), (402, .iload 5), (404, .if_icmp .eq 5), (407, .iconst 0), (408, .ireturn), (409, .iload 5), (411, .ifCond .ne 15)]
set_option maxRecDepth 20000 in
theorem tb_e0_16 : ∀ q ∈ tb_d0_16, decode code q.1 = .ok (q.2, mm_ln q.2) := by decide +kernel
def tb_d0_17 : List (Nat × Instr) := [(414, .aload_n 3), (415, .iconst 0), (416, .laload), (417, .iload 6), (419, .i2l), (420, .lcmp), (421, .ifCond .eq 5), (424, .iconst 0), (425, .ireturn), (426, .goto 768), (429, .aload_n 1), (430, .aload_n 0)]
set_option maxRecDepth 20000 in
theorem tb_e0_17 : ∀ q ∈ tb_d0_17, decode code q.1 = .ok (q.2, mm_ln q.2) := by decide +kernel
def tb_d0_18 : List (Nat × Instr) := [(431, .iload 4), (433, .iconst 1), (434, .iadd), (435, .iaload), (436, .aload_n 0), (437, .iload 4), (439, .iconst 2), (440, .iadd), (441, .iaload), (442, .aload_n 0), (443, .iload 4), (445, .iconst 3)]
set_option maxRecDepth 20000 in
theorem tb_e0_18 : ∀ q ∈ tb_d0_18, decode code q.1 = .ok (q.2, mm_ln q.2) := by decide +kernel
def tb_d0_19 : List (Nat × Instr) := [(446, .iadd), (447, .iaload), (448, .aload_n 3), (449, .invokestatic 102), (452, .istore 5), (454, .aload_n 2), (455, .aload_n 0), (456, .iload 4), (458, .iconst 1), (459, .iadd), (460, .iaload), (461, .aload_n 0)]
set_option maxRecDepth 20000 in
theorem tb_e0_19 : ∀ q ∈ tb_d0_19, decode code q.1 = .ok (q.2, mm_ln q.2) := by decide +kernel
def tb_d0_20 : List (Nat × Instr) := [(462, .iload 4), (464, .iconst 2), (465, .iadd), (466, .iaload), (467, .aload_n 0), (468, .iload 4), (470, .iconst 3), (471, .iadd), (472, .iaload), (473, .invokevirtual 105), (476, .istore 6), (478, .aload_n 2)]
set_option maxRecDepth 20000 in
theorem tb_e0_20 : ∀ q ∈ tb_d0_20, decode code q.1 = .ok (q.2, mm_ln q.2) := by decide +kernel
def tb_d0_21 : List (Nat × Instr) := [(479, .invokevirtual 70), (482, .iload 5), (484, .if_icmp .eq 5), (487, .iconst 0), (488, .ireturn), (489, .iload 5), (491, .ifCond .ne 15), (494, .aload_n 3), (495, .iconst 0), (496, .laload), (497, .iload 6), (499, .i2l)]
set_option maxRecDepth 20000 in
theorem tb_e0_21 : ∀ q ∈ tb_d0_21, decode code q.1 = .ok (q.2, mm_ln q.2) := by decide +kernel
def tb_d0_22 : List (Nat × Instr) := [(500, .lcmp), (501, .ifCond .eq 5), (504, .iconst 0), (505, .ireturn), (506, .goto 688), (509, .aload_n 1), (510, .aload_n 0), (511, .iload 4), (513, .iconst 1), (514, .iadd), (515, .iaload), (516, .aload_n 0)]
set_option maxRecDepth 20000 in
theorem tb_e0_22 : ∀ q ∈ tb_d0_22, decode code q.1 = .ok (q.2, mm_ln q.2) := by decide +kernel
def tb_d0_23 : List (Nat × Instr) := [(517, .iload 4), (519, .iconst 2), (520, .iadd), (521, .iaload), (522, .invokestatic 106), (525, .istore 5), (527, .aload_n 2), (528, .aload_n 0), (529, .iload 4), (531, .iconst 1), (532, .iadd), (533, .iaload)]
set_option maxRecDepth 20000 in
theorem tb_e0_23 : ∀ q ∈ tb_d0_23, decode code q.1 = .ok (q.2, mm_ln q.2) := by decide +kernel
def tb_d0_24 : List (Nat × Instr) := [(534, .aload_n 0), (535, .iload 4), (537, .iconst 2), (538, .iadd), (539, .iaload), (540, .invokevirtual 109), (543, .aload_n 2), (544, .invokevirtual 70), (547, .iload 5), (549, .if_icmp .eq 5), (552, .iconst 0), (553, .ireturn)]
set_option maxRecDepth 20000 in
theorem tb_e0_24 : ∀ q ∈ tb_d0_24, decode code q.1 = .ok (q.2, mm_ln q.2) := by decide +kernel
def tb_d0_25 : List (Nat × Instr) := [(554, .goto 640), (557, .aload_n 1), (558, .aload_n 0), (559, .iload 4), (561, .iconst 1), (562, .iadd), (563, .iaload), (564, .aload_n 0), (565, .iload 4), (567, .iconst 2), (568, .iadd), (569, .iaload)]
set_option maxRecDepth 20000 in
theorem tb_e0_25 : ∀ q ∈ tb_d0_25, decode code q.1 = .ok (q.2, mm_ln q.2) := by decide +kernel
def tb_d0_26 : List (Nat × Instr) := [(570, .invokestatic 110), (573, .istore 5), (575, .aload_n 2), (576, .aload_n 0), (577, .iload 4), (579, .iconst 1), (580, .iadd), (581, .iaload), (582, .aload_n 0), (583, .iload 4), (585, .iconst 2), (586, .iadd)]
set_option maxRecDepth 20000 in
theorem tb_e0_26 : ∀ q ∈ tb_d0_26, decode code q.1 = .ok (q.2, mm_ln q.2) := by decide +kernel
def tb_d0_27 : List (Nat × Instr) := [(587, .iaload), (588, .invokevirtual 112), (591, .aload_n 2), (592, .invokevirtual 70), (595, .iload 5), (597, .if_icmp .eq 5), (600, .iconst 0), (601, .ireturn), (602, .goto 592), (605, .aload_n 1), (606, .aload_n 0), (607, .iload 4)]
set_option maxRecDepth 20000 in
theorem tb_e0_27 : ∀ q ∈ tb_d0_27, decode code q.1 = .ok (q.2, mm_ln q.2) := by decide +kernel
def tb_d0_28 : List (Nat × Instr) := [(609, .iconst 1), (610, .iadd), (611, .iaload), (612, .aload_n 0), (613, .iload 4), (615, .iconst 2), (616, .iadd), (617, .iaload), (618, .aload_n 0), (619, .iload 4), (621, .iconst 3), (622, .iadd)]
set_option maxRecDepth 20000 in
theorem tb_e0_28 : ∀ q ∈ tb_d0_28, decode code q.1 = .ok (q.2, mm_ln q.2) := by decide +kernel
def tb_d0_29 : List (Nat × Instr) := [(623, .iaload), (624, .invokestatic 113), (627, .istore 5), (629, .aload_n 2), (630, .aload_n 0), (631, .iload 4), (633, .iconst 1), (634, .iadd), (635, .iaload), (636, .aload_n 0), (637, .iload 4), (639, .iconst 2)]
set_option maxRecDepth 20000 in
theorem tb_e0_29 : ∀ q ∈ tb_d0_29, decode code q.1 = .ok (q.2, mm_ln q.2) := by decide +kernel
def tb_d0_30 : List (Nat × Instr) := [(640, .iadd), (641, .iaload), (642, .aload_n 0), (643, .iload 4), (645, .iconst 3), (646, .iadd), (647, .iaload), (648, .invokevirtual 116), (651, .aload_n 2), (652, .invokevirtual 70), (655, .iload 5), (657, .if_icmp .eq 5)]
set_option maxRecDepth 20000 in
theorem tb_e0_30 : ∀ q ∈ tb_d0_30, decode code q.1 = .ok (q.2, mm_ln q.2) := by decide +kernel
def tb_d0_31 : List (Nat × Instr) := [(660, .iconst 0), (661, .ireturn), (662, .goto 532), (665, .aload_n 1), (666, .aload_n 0), (667, .iload 4), (669, .iconst 1), (670, .iadd), (671, .iaload), (672, .aload_n 0), (673, .iload 4), (675, .iconst 2)]
set_option maxRecDepth 20000 in
theorem tb_e0_31 : ∀ q ∈ tb_d0_31, decode code q.1 = .ok (q.2, mm_ln q.2) := by decide +kernel
def tb_d0_32 : List (Nat × Instr) := [(676, .iadd), (677, .iaload), (678, .aload_n 3), (679, .invokestatic 117), (682, .istore 5), (684, .aload_n 2), (685, .aload_n 0), (686, .iload 4), (688, .iconst 1), (689, .iadd), (690, .iaload), (691, .aload_n 0)]
set_option maxRecDepth 20000 in
theorem tb_e0_32 : ∀ q ∈ tb_d0_32, decode code q.1 = .ok (q.2, mm_ln q.2) := by decide +kernel
def tb_d0_33 : List (Nat × Instr) := [(692, .iload 4), (694, .iconst 2), (695, .iadd), (696, .iaload), (697, .invokevirtual 119), (700, .istore 6), (702, .aload_n 2), (703, .invokevirtual 70), (706, .iload 5), (708, .if_icmp .eq 5), (711, .iconst 0), (712, .ireturn)]
set_option maxRecDepth 20000 in
theorem tb_e0_33 : ∀ q ∈ tb_d0_33, decode code q.1 = .ok (q.2, mm_ln q.2) := by decide +kernel
def tb_d0_34 : List (Nat × Instr) := [(713, .iload 5), (715, .ifCond .ne 15), (718, .aload_n 3), (719, .iconst 0), (720, .laload), (721, .iload 6), (723, .i2l), (724, .lcmp), (725, .ifCond .eq 5), (728, .iconst 0), (729, .ireturn), (730, .goto 464)]
set_option maxRecDepth 20000 in
theorem tb_e0_34 : ∀ q ∈ tb_d0_34, decode code q.1 = .ok (q.2, mm_ln q.2) := by decide +kernel
def tb_d0_35 : List (Nat × Instr) := [(733, .aload_n 1), (734, .aload_n 0), (735, .iload 4), (737, .iconst 1), (738, .iadd), (739, .iaload), (740, .aload_n 0), (741, .iload 4), (743, .iconst 2), (744, .iadd), (745, .iaload), (746, .aload_n 3)]
set_option maxRecDepth 20000 in
theorem tb_e0_35 : ∀ q ∈ tb_d0_35, decode code q.1 = .ok (q.2, mm_ln q.2) := by decide +kernel
def tb_d0_36 : List (Nat × Instr) := [(747, .invokestatic 120), (750, .istore 5), (752, .aload_n 2), (753, .aload_n 0), (754, .iload 4), (756, .iconst 1), (757, .iadd), (758, .iaload), (759, .aload_n 0), (760, .iload 4), (762, .iconst 2), (763, .iadd)]
set_option maxRecDepth 20000 in
theorem tb_e0_36 : ∀ q ∈ tb_d0_36, decode code q.1 = .ok (q.2, mm_ln q.2) := by decide +kernel
def tb_d0_37 : List (Nat × Instr) := [(764, .iaload), (765, .invokevirtual 122), (768, .istore 6), (770, .aload_n 2), (771, .invokevirtual 70), (774, .iload 5), (776, .if_icmp .eq 5), (779, .iconst 0), (780, .ireturn), (781, .iload 5), (783, .ifCond .ne 15), (786, .aload_n 3)]
set_option maxRecDepth 20000 in
theorem tb_e0_37 : ∀ q ∈ tb_d0_37, decode code q.1 = .ok (q.2, mm_ln q.2) := by decide +kernel
def tb_d0_38 : List (Nat × Instr) := [(787, .iconst 0), (788, .laload), (789, .iload 6), (791, .i2l), (792, .lcmp), (793, .ifCond .eq 5), (796, .iconst 0), (797, .ireturn), (798, .goto 396), (801, .aload_n 1), (802, .aload_n 0), (803, .iload 4)]
set_option maxRecDepth 20000 in
theorem tb_e0_38 : ∀ q ∈ tb_d0_38, decode code q.1 = .ok (q.2, mm_ln q.2) := by decide +kernel
def tb_d0_39 : List (Nat × Instr) := [(805, .iconst 1), (806, .iadd), (807, .iaload), (808, .aload_n 0), (809, .iload 4), (811, .iconst 2), (812, .iadd), (813, .iaload), (814, .aload_n 0), (815, .iload 4), (817, .iconst 3), (818, .iadd)]
set_option maxRecDepth 20000 in
theorem tb_e0_39 : ∀ q ∈ tb_d0_39, decode code q.1 = .ok (q.2, mm_ln q.2) := by decide +kernel
def tb_d0_40 : List (Nat × Instr) := [(819, .iaload), (820, .aload_n 3), (821, .invokestatic 123), (824, .istore 5), (826, .aload_n 2), (827, .aload_n 0), (828, .iload 4), (830, .iconst 1), (831, .iadd), (832, .iaload), (833, .aload_n 0), (834, .iload 4)]
set_option maxRecDepth 20000 in
theorem tb_e0_40 : ∀ q ∈ tb_d0_40, decode code q.1 = .ok (q.2, mm_ln q.2) := by decide +kernel
def tb_d0_41 : List (Nat × Instr) := [(836, .iconst 2), (837, .iadd), (838, .iaload), (839, .aload_n 0), (840, .iload 4), (842, .iconst 3), (843, .iadd), (844, .iaload), (845, .invokevirtual 125), (848, .istore 6), (850, .aload_n 2), (851, .invokevirtual 70)]
set_option maxRecDepth 20000 in
theorem tb_e0_41 : ∀ q ∈ tb_d0_41, decode code q.1 = .ok (q.2, mm_ln q.2) := by decide +kernel
def tb_d0_42 : List (Nat × Instr) := [(854, .iload 5), (856, .if_icmp .eq 5), (859, .iconst 0), (860, .ireturn), (861, .iload 5), (863, .ifCond .ne 15), (866, .aload_n 3), (867, .iconst 0), (868, .laload), (869, .iload 6), (871, .i2l), (872, .lcmp)]
set_option maxRecDepth 20000 in
theorem tb_e0_42 : ∀ q ∈ tb_d0_42, decode code q.1 = .ok (q.2, mm_ln q.2) := by decide +kernel
def tb_d0_43 : List (Nat × Instr) := [(873, .ifCond .eq 5), (876, .iconst 0), (877, .ireturn), (878, .goto 316), (881, .aload_n 1), (882, .aload_n 0), (883, .iload 4), (885, .iconst 1), (886, .iadd), (887, .iaload), (888, .aload_n 3), (889, .invokestatic 126)]
set_option maxRecDepth 20000 in
theorem tb_e0_43 : ∀ q ∈ tb_d0_43, decode code q.1 = .ok (q.2, mm_ln q.2) := by decide +kernel
def tb_d0_44 : List (Nat × Instr) := [(892, .istore 5), (894, .aload_n 2), (895, .aload_n 0), (896, .iload 4), (898, .iconst 1), (899, .iadd), (900, .iaload), (901, .invokevirtual 128), (904, .istore 6), (906, .aload_n 2), (907, .invokevirtual 70), (910, .iload 5)]
set_option maxRecDepth 20000 in
theorem tb_e0_44 : ∀ q ∈ tb_d0_44, decode code q.1 = .ok (q.2, mm_ln q.2) := by decide +kernel
def tb_d0_45 : List (Nat × Instr) := [(912, .if_icmp .eq 5), (915, .iconst 0), (916, .ireturn), (917, .iload 5), (919, .ifCond .ne 15), (922, .aload_n 3), (923, .iconst 0), (924, .laload), (925, .iload 6), (927, .i2l), (928, .lcmp), (929, .ifCond .eq 5)]
set_option maxRecDepth 20000 in
theorem tb_e0_45 : ∀ q ∈ tb_d0_45, decode code q.1 = .ok (q.2, mm_ln q.2) := by decide +kernel
def tb_d0_46 : List (Nat × Instr) := [(932, .iconst 0), (933, .ireturn), (934, .goto 260), (937, .aload_n 1), (938, .aload_n 0), (939, .iload 4), (941, .iconst 1), (942, .iadd), (943, .iaload), (944, .aload_n 0), (945, .iload 4), (947, .iconst 2)]
set_option maxRecDepth 20000 in
theorem tb_e0_46 : ∀ q ∈ tb_d0_46, decode code q.1 = .ok (q.2, mm_ln q.2) := by decide +kernel
def tb_d0_47 : List (Nat × Instr) := [(948, .iadd), (949, .iaload), (950, .ifCond .eq 7), (953, .iconst 1), (954, .goto 4), (957, .iconst 0), (958, .invokevirtual 129), (961, .aload_n 2), (962, .aload_n 0), (963, .iload 4), (965, .iconst 1), (966, .iadd)]
set_option maxRecDepth 20000 in
theorem tb_e0_47 : ∀ q ∈ tb_d0_47, decode code q.1 = .ok (q.2, mm_ln q.2) := by decide +kernel
def tb_d0_48 : List (Nat × Instr) := [(967, .iaload), (968, .aload_n 0), (969, .iload 4), (971, .iconst 2), (972, .iadd), (973, .iaload), (974, .ifCond .eq 7), (977, .iconst 1), (978, .goto 4), (981, .iconst 0), (982, .invokevirtual 133), (985, .if_icmp .eq 209)]
set_option maxRecDepth 20000 in
theorem tb_e0_48 : ∀ q ∈ tb_d0_48, decode code q.1 = .ok (q.2, mm_ln q.2) := by decide +kernel
def tb_d0_49 : List (Nat × Instr) := [(988, .iconst 0), (989, .ireturn), (990, .aload_n 1), (991, .aload_n 0), (992, .iload 4), (994, .iconst 1), (995, .iadd), (996, .iaload), (997, .aload_n 0), (998, .iload 4), (1000, .iconst 2), (1001, .iadd)]
set_option maxRecDepth 20000 in
theorem tb_e0_49 : ∀ q ∈ tb_d0_49, decode code q.1 = .ok (q.2, mm_ln q.2) := by decide +kernel
def tb_d0_50 : List (Nat × Instr) := [(1002, .iaload), (1003, .aload_n 0), (1004, .iload 4), (1006, .iconst 3), (1007, .iadd), (1008, .iaload), (1009, .aload_n 0), (1010, .iload 4), (1012, .iconst 4), (1013, .iadd), (1014, .iaload), (1015, .aload_n 3)]
set_option maxRecDepth 20000 in
theorem tb_e0_50 : ∀ q ∈ tb_d0_50, decode code q.1 = .ok (q.2, mm_ln q.2) := by decide +kernel
def tb_d0_51 : List (Nat × Instr) := [(1016, .invokestatic 134), (1019, .istore 5), (1021, .aload_n 2), (1022, .aload_n 0), (1023, .iload 4), (1025, .iconst 1), (1026, .iadd), (1027, .iaload), (1028, .aload_n 0), (1029, .iload 4), (1031, .iconst 2), (1032, .iadd)]
set_option maxRecDepth 20000 in
theorem tb_e0_51 : ∀ q ∈ tb_d0_51, decode code q.1 = .ok (q.2, mm_ln q.2) := by decide +kernel
def tb_d0_52 : List (Nat × Instr) := [(1033, .iaload), (1034, .aload_n 0), (1035, .iload 4), (1037, .iconst 3), (1038, .iadd), (1039, .iaload), (1040, .aload_n 0), (1041, .iload 4), (1043, .iconst 4), (1044, .iadd), (1045, .iaload), (1046, .invokevirtual 137)]
set_option maxRecDepth 20000 in
theorem tb_e0_52 : ∀ q ∈ tb_d0_52, decode code q.1 = .ok (q.2, mm_ln q.2) := by decide +kernel
def tb_d0_53 : List (Nat × Instr) := [(1049, .istore 6), (1051, .aload_n 2), (1052, .invokevirtual 70), (1055, .iload 5), (1057, .if_icmp .eq 5), (1060, .iconst 0), (1061, .ireturn), (1062, .iload 5), (1064, .ifCond .ne 15), (1067, .aload_n 3), (1068, .iconst 0), (1069, .laload)]
set_option maxRecDepth 20000 in
theorem tb_e0_53 : ∀ q ∈ tb_d0_53, decode code q.1 = .ok (q.2, mm_ln q.2) := by decide +kernel
def tb_d0_54 : List (Nat × Instr) := [(1070, .iload 6), (1072, .i2l), (1073, .lcmp), (1074, .ifCond .eq 5), (1077, .iconst 0), (1078, .ireturn), (1079, .goto 115), (1082, .aload_n 1), (1083, .aload_n 0), (1084, .iload 4), (1086, .iconst 1), (1087, .iadd)]
set_option maxRecDepth 20000 in
theorem tb_e0_54 : ∀ q ∈ tb_d0_54, decode code q.1 = .ok (q.2, mm_ln q.2) := by decide +kernel
def tb_d0_55 : List (Nat × Instr) := [(1088, .iaload), (1089, .aload_n 0), (1090, .iload 4), (1092, .iconst 2), (1093, .iadd), (1094, .iaload), (1095, .aload_n 0), (1096, .iload 4), (1098, .iconst 3), (1099, .iadd), (1100, .iaload), (1101, .aload_n 0)]
set_option maxRecDepth 20000 in
theorem tb_e0_55 : ∀ q ∈ tb_d0_55, decode code q.1 = .ok (q.2, mm_ln q.2) := by decide +kernel
def tb_d0_56 : List (Nat × Instr) := [(1102, .iload 4), (1104, .iconst 4), (1105, .iadd), (1106, .iaload), (1107, .aload_n 3), (1108, .invokestatic 138), (1111, .istore 5), (1113, .aload_n 2), (1114, .aload_n 0), (1115, .iload 4), (1117, .iconst 1), (1118, .iadd)]
set_option maxRecDepth 20000 in
theorem tb_e0_56 : ∀ q ∈ tb_d0_56, decode code q.1 = .ok (q.2, mm_ln q.2) := by decide +kernel
def tb_d0_57 : List (Nat × Instr) := [(1119, .iaload), (1120, .aload_n 0), (1121, .iload 4), (1123, .iconst 2), (1124, .iadd), (1125, .iaload), (1126, .aload_n 0), (1127, .iload 4), (1129, .iconst 3), (1130, .iadd), (1131, .iaload), (1132, .aload_n 0)]
set_option maxRecDepth 20000 in
theorem tb_e0_57 : ∀ q ∈ tb_d0_57, decode code q.1 = .ok (q.2, mm_ln q.2) := by decide +kernel
def tb_d0_58 : List (Nat × Instr) := [(1133, .iload 4), (1135, .iconst 4), (1136, .iadd), (1137, .iaload), (1138, .invokevirtual 140), (1141, .istore 6), (1143, .aload_n 2), (1144, .invokevirtual 70), (1147, .iload 5), (1149, .if_icmp .eq 5), (1152, .iconst 0), (1153, .ireturn)]
set_option maxRecDepth 20000 in
theorem tb_e0_58 : ∀ q ∈ tb_d0_58, decode code q.1 = .ok (q.2, mm_ln q.2) := by decide +kernel
def tb_d0_59 : List (Nat × Instr) := [(1154, .iload 5), (1156, .ifCond .ne 22), (1159, .aload_n 3), (1160, .iconst 0), (1161, .laload), (1162, .iload 6), (1164, .ifCond .eq 7), (1167, .lconst 1), (1168, .goto 4), (1171, .lconst 0), (1172, .lcmp), (1173, .ifCond .eq 5)]
set_option maxRecDepth 20000 in
theorem tb_e0_59 : ∀ q ∈ tb_d0_59, decode code q.1 = .ok (q.2, mm_ln q.2) := by decide +kernel
def tb_d0_60 : List (Nat × Instr) := [(1176, .iconst 0), (1177, .ireturn), (1178, .goto 16), (1181, .aload_n 1), (1182, .invokevirtual 141), (1185, .aload_n 2), (1186, .invokevirtual 144), (1189, .if_icmp .eq 5), (1192, .iconst 0), (1193, .ireturn), (1194, .iinc 4 6), (1197, .goto (-1174))]
set_option maxRecDepth 20000 in
theorem tb_e0_60 : ∀ q ∈ tb_d0_60, decode code q.1 = .ok (q.2, mm_ln q.2) := by decide +kernel
def tb_d0_61 : List (Nat × Instr) := [(1200, .iconst 1), (1201, .ireturn)]
set_option maxRecDepth 20000 in
theorem tb_e0_61 : ∀ q ∈ tb_d0_61, decode code q.1 = .ok (q.2, mm_ln q.2) := by decide +kernel
def tb_d0 : List (Nat × Instr) := tb_d0_0 ++ (tb_d0_1 ++ (tb_d0_2 ++ (tb_d0_3 ++ (tb_d0_4 ++ (tb_d0_5 ++ (tb_d0_6 ++ (tb_d0_7 ++ (tb_d0_8 ++ (tb_d0_9 ++ (tb_d0_10 ++ (tb_d0_11 ++ (tb_d0_12 ++ (tb_d0_13 ++ (tb_d0_14 ++ (tb_d0_15 ++ (tb_d0_16 ++ (tb_d0_17 ++ (tb_d0_18 ++ (tb_d0_19 ++ (tb_d0_20 ++ (tb_d0_21 ++ (tb_d0_22 ++ (tb_d0_23 ++ (tb_d0_24 ++ (tb_d0_25 ++ (tb_d0_26 ++ (tb_d0_27 ++ (tb_d0_28 ++ (tb_d0_29 ++ (tb_d0_30 ++ (tb_d0_31 ++ (tb_d0_32 ++ (tb_d0_33 ++ (tb_d0_34 ++ (tb_d0_35 ++ (tb_d0_36 ++ (tb_d0_37 ++ (tb_d0_38 ++ (tb_d0_39 ++ (tb_d0_40 ++ (tb_d0_41 ++ (tb_d0_42 ++ (tb_d0_43 ++ (tb_d0_44 ++ (tb_d0_45 ++ (tb_d0_46 ++ (tb_d0_47 ++ (tb_d0_48 ++ (tb_d0_49 ++ (tb_d0_50 ++ (tb_d0_51 ++ (tb_d0_52 ++ (tb_d0_53 ++ (tb_d0_54 ++ (tb_d0_55 ++ (tb_d0_56 ++ (tb_d0_57 ++ (tb_d0_58 ++ (tb_d0_59 ++ (tb_d0_60 ++ (tb_d0_61)))))))))))))))))))))))))))))))))))))))))))))))))))))))))))))
theorem tb_e0 : ∀ q ∈ tb_d0, decode code q.1 = .ok (q.2, mm_ln q.2) := List.forall_mem_append.mpr ⟨tb_e0_0, List.forall_mem_append.mpr ⟨tb_e0_1, List.forall_mem_append.mpr ⟨tb_e0_2, List.forall_mem_append.mpr ⟨tb_e0_3, List.forall_mem_append.mpr ⟨tb_e0_4, List.forall_mem_append.mpr ⟨tb_e0_5, List.forall_mem_append.mpr ⟨tb_e0_6, List.forall_mem_append.mpr ⟨tb_e0_7, List.forall_mem_append.mpr ⟨tb_e0_8, List.forall_mem_append.mpr ⟨tb_e0_9, List.forall_mem_append.mpr ⟨tb_e0_10, List.forall_mem_append.mpr ⟨tb_e0_11, List.forall_mem_append.mpr ⟨tb_e0_12, List.forall_mem_append.mpr ⟨tb_e0_13, List.forall_mem_append.mpr ⟨tb_e0_14, List.forall_mem_append.mpr ⟨tb_e0_15, List.forall_mem_append.mpr ⟨tb_e0_16, List.forall_mem_append.mpr ⟨tb_e0_17, List.forall_mem_append.mpr ⟨tb_e0_18, List.forall_mem_append.mpr ⟨tb_e0_19, List.forall_mem_append.mpr ⟨tb_e0_20, List.forall_mem_append.mpr ⟨tb_e0_21, List.forall_mem_append.mpr ⟨tb_e0_22, List.forall_mem_append.mpr ⟨tb_e0_23, List.forall_mem_append.mpr ⟨tb_e0_24, List.forall_mem_append.mpr ⟨tb_e0_25, List.forall_mem_append.mpr ⟨tb_e0_26, List.forall_mem_append.mpr ⟨tb_e0_27, List.forall_mem_append.mpr ⟨tb_e0_28, List.forall_mem_append.mpr ⟨tb_e0_29, List.forall_mem_append.mpr ⟨tb_e0_30, List.forall_mem_append.mpr ⟨tb_e0_31, List.forall_mem_append.mpr ⟨tb_e0_32, List.forall_mem_append.mpr ⟨tb_e0_33, List.forall_mem_append.mpr ⟨tb_e0_34, List.forall_mem_append.mpr ⟨tb_e0_35, List.forall_mem_append.mpr ⟨tb_e0_36, List.forall_mem_append.mpr ⟨tb_e0_37, List.forall_mem_append.mpr ⟨tb_e0_38, List.forall_mem_append.mpr ⟨tb_e0_39, List.forall_mem_append.mpr ⟨tb_e0_40, List.forall_mem_append.mpr ⟨tb_e0_41, List.forall_mem_append.mpr ⟨tb_e0_42, List.forall_mem_append.mpr ⟨tb_e0_43, List.forall_mem_append.mpr ⟨tb_e0_44, List.forall_mem_append.mpr ⟨tb_e0_45, List.forall_mem_append.mpr ⟨tb_e0_46, List.forall_mem_append.mpr ⟨tb_e0_47, List.forall_mem_append.mpr ⟨tb_e0_48, List.forall_mem_append.mpr ⟨tb_e0_49, List.forall_mem_append.mpr ⟨tb_e0_50, List.forall_mem_append.mpr ⟨tb_e0_51, List.forall_mem_append.mpr ⟨tb_e0_52, List.forall_mem_append.mpr ⟨tb_e0_53, List.forall_mem_append.mpr ⟨tb_e0_54, List.forall_mem_append.mpr ⟨tb_e0_55, List.forall_mem_append.mpr ⟨tb_e0_56, List.forall_mem_append.mpr ⟨tb_e0_57, List.forall_mem_append.mpr ⟨tb_e0_58, List.forall_mem_append.mpr ⟨tb_e0_59, List.forall_mem_append.mpr ⟨tb_e0_60, tb_e0_61⟩⟩⟩⟩⟩⟩⟩⟩⟩⟩⟩⟩⟩⟩⟩⟩⟩⟩⟩⟩⟩⟩⟩⟩⟩⟩⟩⟩⟩⟩⟩⟩⟩⟩⟩⟩⟩⟩⟩⟩⟩⟩⟩⟩⟩⟩⟩⟩⟩⟩⟩⟩⟩⟩⟩⟩⟩⟩⟩⟩⟩
-- 1 IndexedCompilerLaw.type(LIndexedCompiler;IIIII[J)I
def tb_d1 : List (Nat × Instr) := [(0, .aload 6), (2, .iconst 0), (3, .aload_n 0), (4, .iload_n 1), (5, .iload_n 2), (6, .iload_n 3), (7, .iload 4), (9, .iload 5), (11, .invokevirtual 7), (14, .i2l), (15, .lastore), (16, .goto 7), (19, .astore 7), (21, .iconst 1), (22, .ireturn), (23, .iconst 0), (24, .ireturn)]
set_option maxRecDepth 20000 in
theorem tb_e1 : ∀ q ∈ tb_d1, decode method_3_code q.1 = .ok (q.2, mm_ln q.2) := by decide +kernel
-- 2 IndexedCompilerLaw.count(LIndexedCompiler;I[J)I
def tb_d2 : List (Nat × Instr) := [(0, .aload_n 2), (1, .iconst 0), (2, .aload_n 0), (3, .iload_n 1), (4, .invokevirtual 15), (7, .i2l), (8, .lastore), (9, .goto 6), (12, .astore_n 3), (13, .iconst 1), (14, .ireturn), (15, .iconst 0), (16, .ireturn)]
set_option maxRecDepth 20000 in
theorem tb_e2 : ∀ q ∈ tb_d2, decode method_4_code q.1 = .ok (q.2, mm_ln q.2) := by decide +kernel
-- 3 IndexedCompilerLaw.goal(LIndexedCompiler;II[J)I
def tb_d3 : List (Nat × Instr) := [(0, .aload_n 3), (1, .iconst 0), (2, .aload_n 0), (3, .iload_n 1), (4, .iload_n 2), (5, .invokevirtual 21), (8, .i2l), (9, .lastore), (10, .goto 11), (13, .astore 4), (15, .iconst 1), (16, .ireturn), (17, .astore 4), (19, .iconst 2), (20, .ireturn), (21, .iconst 0), (22, .ireturn)]
set_option maxRecDepth 20000 in
theorem tb_e3 : ∀ q ∈ tb_d3, decode method_5_code q.1 = .ok (q.2, mm_ln q.2) := by decide +kernel
-- 4 IndexedCompilerLaw.code(LIndexedCompiler;III[J)I
def tb_d4 : List (Nat × Instr) := [(0, .aload 4), (2, .iconst 0), (3, .aload_n 0), (4, .iload_n 1), (5, .iload_n 2), (6, .iload_n 3), (7, .invokevirtual 25), (10, .i2l), (11, .lastore), (12, .goto 11), (15, .astore 5), (17, .iconst 1), (18, .ireturn), (19, .astore 5), (21, .iconst 2), (22, .ireturn), (23, .iconst 0), (24, .ireturn)]
set_option maxRecDepth 20000 in
theorem tb_e4 : ∀ q ∈ tb_d4, decode method_6_code q.1 = .ok (q.2, mm_ln q.2) := by decide +kernel
-- 5 IndexedCompilerLaw.set(LIndexedCompiler;II)I
def tb_d5 : List (Nat × Instr) := [(0, .aload_n 0), (1, .iload_n 1), (2, .iload_n 2), (3, .invokevirtual 29), (6, .goto 6), (9, .astore_n 3), (10, .iconst 1), (11, .ireturn), (12, .iconst 0), (13, .ireturn)]
set_option maxRecDepth 20000 in
theorem tb_e5 : ∀ q ∈ tb_d5, decode method_7_code q.1 = .ok (q.2, mm_ln q.2) := by decide +kernel
-- 6 IndexedCompilerLaw.make(LIndexedCompiler;II)I
def tb_d6 : List (Nat × Instr) := [(0, .aload_n 0), (1, .iload_n 1), (2, .iload_n 2), (3, .invokevirtual 33), (6, .goto 6), (9, .astore_n 3), (10, .iconst 1), (11, .ireturn), (12, .iconst 0), (13, .ireturn)]
set_option maxRecDepth 20000 in
theorem tb_e6 : ∀ q ∈ tb_d6, decode method_8_code q.1 = .ok (q.2, mm_ln q.2) := by decide +kernel
-- 7 IndexedCompilerLaw.put(LIndexedCompiler;III)I
def tb_d7 : List (Nat × Instr) := [(0, .aload_n 0), (1, .iload_n 1), (2, .iload_n 2), (3, .iload_n 3), (4, .invokevirtual 36), (7, .goto 11), (10, .astore 4), (12, .iconst 1), (13, .ireturn), (14, .astore 4), (16, .iconst 2), (17, .ireturn), (18, .iconst 0), (19, .ireturn)]
set_option maxRecDepth 20000 in
theorem tb_e7 : ∀ q ∈ tb_d7, decode method_9_code q.1 = .ok (q.2, mm_ln q.2) := by decide +kernel
-- 8 IndexedCompilerLaw.get(LIndexedCompiler;II[J)I
def tb_d8 : List (Nat × Instr) := [(0, .aload_n 3), (1, .iconst 0), (2, .aload_n 0), (3, .iload_n 1), (4, .iload_n 2), (5, .invokevirtual 40), (8, .i2l), (9, .lastore), (10, .goto 11), (13, .astore 4), (15, .iconst 1), (16, .ireturn), (17, .astore 4), (19, .iconst 2), (20, .ireturn), (21, .iconst 0), (22, .ireturn)]
set_option maxRecDepth 20000 in
theorem tb_e8 : ∀ q ∈ tb_d8, decode method_10_code q.1 = .ok (q.2, mm_ln q.2) := by decide +kernel
-- 9 IndexedCompilerLaw.value(LIndexedCompiler;II[J)I
def tb_d9 : List (Nat × Instr) := [(0, .aload_n 3), (1, .iconst 0), (2, .aload_n 0), (3, .iload_n 1), (4, .iload_n 2), (5, .invokevirtual 43), (8, .i2l), (9, .lastore), (10, .goto 7), (13, .astore 4), (15, .iconst 1), (16, .ireturn), (17, .iconst 0), (18, .ireturn)]
set_option maxRecDepth 20000 in
theorem tb_e9 : ∀ q ∈ tb_d9, decode method_11_code q.1 = .ok (q.2, mm_ln q.2) := by decide +kernel
-- 10 IndexedCompilerLaw.run(LIndexedCompiler;III[J)I
def tb_d10 : List (Nat × Instr) := [(0, .aload 4), (2, .iconst 0), (3, .aload_n 0), (4, .iload_n 1), (5, .iload_n 2), (6, .iload_n 3), (7, .invokevirtual 46), (10, .i2l), (11, .lastore), (12, .goto 11), (15, .astore 5), (17, .iconst 1), (18, .ireturn), (19, .astore 5), (21, .iconst 2), (22, .ireturn), (23, .iconst 0), (24, .ireturn)]
set_option maxRecDepth 20000 in
theorem tb_e10 : ∀ q ∈ tb_d10, decode method_12_code q.1 = .ok (q.2, mm_ln q.2) := by decide +kernel
-- 11 IndexedCompilerLaw.told(LIndexedCompiler;I[J)I
def tb_d11 : List (Nat × Instr) := [(0, .aload_n 2), (1, .iconst 0), (2, .aload_n 0), (3, .iload_n 1), (4, .invokevirtual 49), (7, .i2l), (8, .lastore), (9, .goto 6), (12, .astore_n 3), (13, .iconst 1), (14, .ireturn), (15, .iconst 0), (16, .ireturn)]
set_option maxRecDepth 20000 in
theorem tb_e11 : ∀ q ∈ tb_d11, decode method_13_code q.1 = .ok (q.2, mm_ln q.2) := by decide +kernel
-- 12 IndexedCompilerLaw.fact(LIndexedCompiler;IIII[J)I
def tb_d12 : List (Nat × Instr) := [(0, .aload 5), (2, .iconst 0), (3, .aload_n 0), (4, .iload_n 1), (5, .iload_n 2), (6, .iload_n 3), (7, .iload 4), (9, .invokevirtual 52), (12, .i2l), (13, .lastore), (14, .goto 11), (17, .astore 6), (19, .iconst 1), (20, .ireturn), (21, .astore 6), (23, .iconst 2), (24, .ireturn), (25, .iconst 0), (26, .ireturn)]
set_option maxRecDepth 20000 in
theorem tb_e12 : ∀ q ∈ tb_d12, decode method_14_code q.1 = .ok (q.2, mm_ln q.2) := by decide +kernel
-- 13 IndexedCompilerLaw.ask(LIndexedCompiler;IIII[J)I
def tb_d13 : List (Nat × Instr) := [(0, .aload 5), (2, .iconst 0), (3, .aload_n 0), (4, .iload_n 1), (5, .iload_n 2), (6, .iload_n 3), (7, .iload 4), (9, .invokevirtual 56), (12, .ifCond .eq 7), (15, .lconst 1), (16, .goto 4), (19, .lconst 0), (20, .lastore), (21, .goto 7), (24, .astore 6), (26, .iconst 1), (27, .ireturn), (28, .iconst 0), (29, .ireturn)]
set_option maxRecDepth 20000 in
theorem tb_e13 : ∀ q ∈ tb_d13, decode method_15_code q.1 = .ok (q.2, mm_ln q.2) := by decide +kernel
-- 14 IndexedCompilerModel.<init>()V
def tb_d14_0 : List (Nat × Instr) := [(0, .aload_n 0), (1, .invokespecial 1), (4, .aload_n 0), (5, .sipush 480), (8, .newarray .char), (10, .putfield 7), (13, .aload_n 0), (14, .sipush 482), (17, .newarray .int), (19, .putfield 13), (22, .aload_n 0), (23, .sipush 482), (26, .newarray .int), (28, .putfield 17)]
set_option maxRecDepth 20000 in
theorem tb_e14_0 : ∀ q ∈ tb_d14_0, decode prog_14_method_1_code q.1 = .ok (q.2, mm_ln q.2) := by decide +kernel
def tb_d14_1 : List (Nat × Instr) := [(31, .aload_n 0), (32, .sipush 482), (35, .newarray .int), (37, .putfield 20), (40, .aload_n 0), (41, .iconst (-1)), (42, .putfield 23), (45, .aload_n 0), (46, .bipush 9), (48, .newarray .int), (50, .putfield 27), (53, .aload_n 0), (54, .bipush 36), (56, .newarray .int)]
set_option maxRecDepth 20000 in
theorem tb_e14_1 : ∀ q ∈ tb_d14_1, decode prog_14_method_1_code q.1 = .ok (q.2, mm_ln q.2) := by decide +kernel
def tb_d14_2 : List (Nat × Instr) := [(58, .putfield 30), (61, .aload_n 0), (62, .bipush 9), (64, .newarray .int), (66, .putfield 33), (69, .aload_n 0), (70, .bipush 9), (72, .newarray .int), (74, .putfield 36), (77, .aload_n 0), (78, .bipush 9), (80, .newarray .int), (82, .putfield 39), (85, .aload_n 0)]
set_option maxRecDepth 20000 in
theorem tb_e14_2 : ∀ q ∈ tb_d14_2, decode prog_14_method_1_code q.1 = .ok (q.2, mm_ln q.2) := by decide +kernel
def tb_d14_3 : List (Nat × Instr) := [(86, .bipush 45), (88, .newarray .int), (90, .putfield 42), (93, .aload_n 0), (94, .bipush 45), (96, .newarray .int), (98, .putfield 45), (101, .aload_n 0), (102, .bipush 9), (104, .newarray .int), (106, .putfield 48), (109, .aload_n 0), (110, .bipush 9), (112, .newarray .int)]
set_option maxRecDepth 20000 in
theorem tb_e14_3 : ∀ q ∈ tb_d14_3, decode prog_14_method_1_code q.1 = .ok (q.2, mm_ln q.2) := by decide +kernel
def tb_d14_4 : List (Nat × Instr) := [(114, .putfield 51), (117, .aload_n 0), (118, .bipush 9), (120, .newarray .int), (122, .putfield 54), (125, .aload_n 0), (126, .sipush 6300), (129, .newarray .int), (131, .putfield 57), (134, .aload_n 0), (135, .sipush 6300), (138, .newarray .int), (140, .putfield 60), (143, .aload_n 0)]
set_option maxRecDepth 20000 in
theorem tb_e14_4 : ∀ q ∈ tb_d14_4, decode prog_14_method_1_code q.1 = .ok (q.2, mm_ln q.2) := by decide +kernel
def tb_d14_5 : List (Nat × Instr) := [(144, .sipush 6300), (147, .newarray .int), (149, .putfield 63), (152, .aload_n 0), (153, .sipush 6300), (156, .newarray .int), (158, .putfield 66), (161, .aload_n 0), (162, .sipush 6300), (165, .newarray .int), (167, .putfield 69), (170, .aload_n 0), (171, .sipush 6300), (174, .newarray .int)]
set_option maxRecDepth 20000 in
theorem tb_e14_5 : ∀ q ∈ tb_d14_5, decode prog_14_method_1_code q.1 = .ok (q.2, mm_ln q.2) := by decide +kernel
def tb_d14_6 : List (Nat × Instr) := [(176, .putfield 72), (179, .aload_n 0), (180, .sipush 6300), (183, .newarray .int), (185, .putfield 75), (188, .aload_n 0), (189, .sipush 6300), (192, .newarray .boolean), (194, .putfield 78), (197, .aload_n 0), (198, .sipush 4500), (201, .newarray .int), (203, .putfield 82), (206, .aload_n 0)]
set_option maxRecDepth 20000 in
theorem tb_e14_6 : ∀ q ∈ tb_d14_6, decode prog_14_method_1_code q.1 = .ok (q.2, mm_ln q.2) := by decide +kernel
def tb_d14_7 : List (Nat × Instr) := [(207, .sipush 4500), (210, .newarray .int), (212, .putfield 85), (215, .aload_n 0), (216, .sipush 4500), (219, .newarray .int), (221, .putfield 88), (224, .aload_n 0), (225, .sipush 2340), (228, .newarray .int), (230, .putfield 91), (233, .aload_n 0), (234, .sipush 2340), (237, .newarray .int)]
set_option maxRecDepth 20000 in
theorem tb_e14_7 : ∀ q ∈ tb_d14_7, decode prog_14_method_1_code q.1 = .ok (q.2, mm_ln q.2) := by decide +kernel
def tb_d14_8 : List (Nat × Instr) := [(239, .putfield 94), (242, .aload_n 0), (243, .sipush 2340), (246, .newarray .int), (248, .putfield 97), (251, .aload_n 0), (252, .sipush 1800), (255, .newarray .int), (257, .putfield 100), (260, .aload_n 0), (261, .sipush 1800), (264, .newarray .int), (266, .putfield 103), (269, .aload_n 0)]
set_option maxRecDepth 20000 in
theorem tb_e14_8 : ∀ q ∈ tb_d14_8, decode prog_14_method_1_code q.1 = .ok (q.2, mm_ln q.2) := by decide +kernel
def tb_d14_9 : List (Nat × Instr) := [(270, .sipush 1800), (273, .newarray .int), (275, .putfield 106), (278, .aload_n 0), (279, .sipush 1440), (282, .newarray .int), (284, .putfield 109), (287, .aload_n 0), (288, .sipush 1440), (291, .newarray .int), (293, .putfield 112), (296, .aload_n 0), (297, .sipush 1440), (300, .newarray .int)]
set_option maxRecDepth 20000 in
theorem tb_e14_9 : ∀ q ∈ tb_d14_9, decode prog_14_method_1_code q.1 = .ok (q.2, mm_ln q.2) := by decide +kernel
def tb_d14_10 : List (Nat × Instr) := [(302, .putfield 115), (305, .aload_n 0), (306, .sipush 1440), (309, .newarray .int), (311, .putfield 118), (314, .aload_n 0), (315, .sipush 1440), (318, .newarray .int), (320, .putfield 121), (323, .aload_n 0), (324, .sipush 2700), (327, .newarray .int), (329, .putfield 124), (332, .aload_n 0)]
set_option maxRecDepth 20000 in
theorem tb_e14_10 : ∀ q ∈ tb_d14_10, decode prog_14_method_1_code q.1 = .ok (q.2, mm_ln q.2) := by decide +kernel
def tb_d14_11 : List (Nat × Instr) := [(333, .bipush 100), (335, .newarray .int), (337, .putfield 127), (340, .aload_n 0), (341, .bipush 100), (343, .newarray .int), (345, .putfield 130), (348, .aload_n 0), (349, .bipush 100), (351, .newarray .int), (353, .putfield 133), (356, .aload_n 0), (357, .bipush 100), (359, .newarray .int)]
set_option maxRecDepth 20000 in
theorem tb_e14_11 : ∀ q ∈ tb_d14_11, decode prog_14_method_1_code q.1 = .ok (q.2, mm_ln q.2) := by decide +kernel
def tb_d14_12 : List (Nat × Instr) := [(361, .putfield 136), (364, .aload_n 0), (365, .bipush 100), (367, .newarray .int), (369, .putfield 139), (372, .aload_n 0), (373, .bipush 100), (375, .newarray .int), (377, .putfield 142), (380, .aload_n 0), (381, .bipush 100), (383, .newarray .int), (385, .putfield 145), (388, .aload_n 0)]
set_option maxRecDepth 20000 in
theorem tb_e14_12 : ∀ q ∈ tb_d14_12, decode prog_14_method_1_code q.1 = .ok (q.2, mm_ln q.2) := by decide +kernel
def tb_d14_13 : List (Nat × Instr) := [(389, .bipush 100), (391, .newarray .int), (393, .putfield 148), (396, .aload_n 0), (397, .sipush 500), (400, .newarray .int), (402, .putfield 151), (405, .aload_n 0), (406, .iconst (-1)), (407, .putfield 154), (410, .aload_n 0), (411, .sipush 200), (414, .newarray .int), (416, .putfield 157)]
set_option maxRecDepth 20000 in
theorem tb_e14_13 : ∀ q ∈ tb_d14_13, decode prog_14_method_1_code q.1 = .ok (q.2, mm_ln q.2) := by decide +kernel
def tb_d14_14 : List (Nat × Instr) := [(419, .aload_n 0), (420, .sipush 200), (423, .newarray .int), (425, .putfield 160), (428, .aload_n 0), (429, .sipush 200), (432, .newarray .int), (434, .putfield 163), (437, .aload_n 0), (438, .sipush 200), (441, .newarray .boolean), (443, .putfield 166), (446, .aload_n 0), (447, .sipush 200)]
set_option maxRecDepth 20000 in
theorem tb_e14_14 : ∀ q ∈ tb_d14_14, decode prog_14_method_1_code q.1 = .ok (q.2, mm_ln q.2) := by decide +kernel
def tb_d14_15 : List (Nat × Instr) := [(450, .newarray .int), (452, .putfield 169), (455, .aload_n 0), (456, .sipush 200), (459, .newarray .int), (461, .putfield 172), (464, .aload_n 0), (465, .sipush 1200), (468, .newarray .long), (470, .putfield 175), (473, .aload_n 0), (474, .bipush 24), (476, .newarray .int), (478, .putfield 179)]
set_option maxRecDepth 20000 in
theorem tb_e14_15 : ∀ q ∈ tb_d14_15, decode prog_14_method_1_code q.1 = .ok (q.2, mm_ln q.2) := by decide +kernel
def tb_d14_16 : List (Nat × Instr) := [(481, .aload_n 0), (482, .bipush 24), (484, .newarray .int), (486, .putfield 182), (489, .aload_n 0), (490, .sipush 600), (493, .newarray .long), (495, .putfield 185), (498, .aload_n 0), (499, .sipush 7500), (502, .newarray .long), (504, .putfield 188), (507, .aload_n 0), (508, .sipush 300)]
set_option maxRecDepth 20000 in
theorem tb_e14_16 : ∀ q ∈ tb_d14_16, decode prog_14_method_1_code q.1 = .ok (q.2, mm_ln q.2) := by decide +kernel
def tb_d14_17 : List (Nat × Instr) := [(511, .newarray .boolean), (513, .putfield 191), (516, .aload_n 0), (517, .bipush 25), (519, .newarray .long), (521, .putfield 194), (524, .aload_n 0), (525, .bipush 25), (527, .newarray .long), (529, .putfield 197), (532, .aload_n 0), (533, .bipush 25), (535, .newarray .long), (537, .putfield 200)]
set_option maxRecDepth 20000 in
theorem tb_e14_17 : ∀ q ∈ tb_d14_17, decode prog_14_method_1_code q.1 = .ok (q.2, mm_ln q.2) := by decide +kernel
def tb_d14_18 : List (Nat × Instr) := [(540, .aload_n 0), (541, .bipush 25), (543, .newarray .long), (545, .putfield 203), (548, .aload_n 0), (549, .iconst (-1)), (550, .putfield 206), (553, .aload_n 0), (554, .iconst (-1)), (555, .putfield 209), (558, .aload_n 0), (559, .sipush 2100), (562, .newarray .long), (564, .putfield 212)]
set_option maxRecDepth 20000 in
theorem tb_e14_18 : ∀ q ∈ tb_d14_18, decode prog_14_method_1_code q.1 = .ok (q.2, mm_ln q.2) := by decide +kernel
def tb_d14_19 : List (Nat × Instr) := [(567, .aload_n 0), (568, .sipush 2100), (571, .newarray .long), (573, .putfield 215), (576, .aload_n 0), (577, .bipush 25), (579, .newarray .long), (581, .putfield 218), (584, .aload_n 0), (585, .sipush 700), (588, .newarray .int), (590, .putfield 221), (593, .aload_n 0), (594, .sipush 700)]
set_option maxRecDepth 20000 in
theorem tb_e14_19 : ∀ q ∈ tb_d14_19, decode prog_14_method_1_code q.1 = .ok (q.2, mm_ln q.2) := by decide +kernel
def tb_d14_20 : List (Nat × Instr) := [(597, .newarray .int), (599, .putfield 224), (602, .aload_n 0), (603, .sipush 700), (606, .newarray .int), (608, .putfield 227), (611, .aload_n 0), (612, .sipush 700), (615, .newarray .int), (617, .putfield 230), (620, .aload_n 0), (621, .sipush 700), (624, .newarray .int), (626, .putfield 233)]
set_option maxRecDepth 20000 in
theorem tb_e14_20 : ∀ q ∈ tb_d14_20, decode prog_14_method_1_code q.1 = .ok (q.2, mm_ln q.2) := by decide +kernel
def tb_d14_21 : List (Nat × Instr) := [(629, .aload_n 0), (630, .sipush 700), (633, .newarray .int), (635, .putfield 236), (638, .aload_n 0), (639, .sipush 700), (642, .newarray .int), (644, .putfield 239), (647, .aload_n 0), (648, .sipush 700), (651, .newarray .int), (653, .putfield 242), (656, .aload_n 0), (657, .sipush 700)]
set_option maxRecDepth 20000 in
theorem tb_e14_21 : ∀ q ∈ tb_d14_21, decode prog_14_method_1_code q.1 = .ok (q.2, mm_ln q.2) := by decide +kernel
def tb_d14_22 : List (Nat × Instr) := [(660, .newarray .int), (662, .putfield 245), (665, .aload_n 0), (666, .bipush 8), (668, .newarray .int), (670, .putfield 248), (673, .aload_n 0), (674, .sipush 9600), (677, .newarray .int), (679, .putfield 251), (682, .aload_n 0), (683, .sipush 9600), (686, .newarray .int), (688, .putfield 254)]
set_option maxRecDepth 20000 in
theorem tb_e14_22 : ∀ q ∈ tb_d14_22, decode prog_14_method_1_code q.1 = .ok (q.2, mm_ln q.2) := by decide +kernel
def tb_d14_23 : List (Nat × Instr) := [(691, .aload_n 0), (692, .sipush 9600), (695, .newarray .boolean), (697, .putfield 257), (700, .aload_n 0), (701, .bipush 16), (703, .newarray .int), (705, .putfield 260), (708, .aload_n 0), (709, .bipush 6), (711, .newarray .boolean), (713, .putfield 263), (716, .aload_n 0), (717, .bipush 6)]
set_option maxRecDepth 20000 in
theorem tb_e14_23 : ∀ q ∈ tb_d14_23, decode prog_14_method_1_code q.1 = .ok (q.2, mm_ln q.2) := by decide +kernel
def tb_d14_24 : List (Nat × Instr) := [(719, .newarray .int), (721, .putfield 266), (724, .aload_n 0), (725, .sipush 240), (728, .newarray .int), (730, .putfield 269), (733, .aload_n 0), (734, .iconst 4), (735, .newarray .int), (737, .putfield 272), (740, .aload_n 0), (741, .sipush 600), (744, .newarray .int), (746, .putfield 275)]
set_option maxRecDepth 20000 in
theorem tb_e14_24 : ∀ q ∈ tb_d14_24, decode prog_14_method_1_code q.1 = .ok (q.2, mm_ln q.2) := by decide +kernel
def tb_d14_25 : List (Nat × Instr) := [(749, .aload_n 0), (750, .sipush 200), (753, .newarray .int), (755, .putfield 278), (758, .aload_n 0), (759, .bipush 60), (761, .newarray .int), (763, .putfield 281), (766, .aload_n 0), (767, .bipush 60), (769, .newarray .int), (771, .putfield 284), (774, .aload_n 0), (775, .sipush 960)]
set_option maxRecDepth 20000 in
theorem tb_e14_25 : ∀ q ∈ tb_d14_25, decode prog_14_method_1_code q.1 = .ok (q.2, mm_ln q.2) := by decide +kernel
def tb_d14_26 : List (Nat × Instr) := [(778, .newarray .int), (780, .putfield 287), (783, .aload_n 0), (784, .bipush 100), (786, .newarray .int), (788, .putfield 290), (791, .aload_n 0), (792, .iconst (-1)), (793, .putfield 293), (796, .aload_n 0), (797, .iconst 5), (798, .newarray .int), (800, .putfield 296), (803, .aload_n 0)]
set_option maxRecDepth 20000 in
theorem tb_e14_26 : ∀ q ∈ tb_d14_26, decode prog_14_method_1_code q.1 = .ok (q.2, mm_ln q.2) := by decide +kernel
def tb_d14_27 : List (Nat × Instr) := [(804, .sipush 1000), (807, .newarray .long), (809, .putfield 299), (812, .return_)]
set_option maxRecDepth 20000 in
theorem tb_e14_27 : ∀ q ∈ tb_d14_27, decode prog_14_method_1_code q.1 = .ok (q.2, mm_ln q.2) := by decide +kernel
def tb_d14 : List (Nat × Instr) := tb_d14_0 ++ (tb_d14_1 ++ (tb_d14_2 ++ (tb_d14_3 ++ (tb_d14_4 ++ (tb_d14_5 ++ (tb_d14_6 ++ (tb_d14_7 ++ (tb_d14_8 ++ (tb_d14_9 ++ (tb_d14_10 ++ (tb_d14_11 ++ (tb_d14_12 ++ (tb_d14_13 ++ (tb_d14_14 ++ (tb_d14_15 ++ (tb_d14_16 ++ (tb_d14_17 ++ (tb_d14_18 ++ (tb_d14_19 ++ (tb_d14_20 ++ (tb_d14_21 ++ (tb_d14_22 ++ (tb_d14_23 ++ (tb_d14_24 ++ (tb_d14_25 ++ (tb_d14_26 ++ (tb_d14_27)))))))))))))))))))))))))))
theorem tb_e14 : ∀ q ∈ tb_d14, decode prog_14_method_1_code q.1 = .ok (q.2, mm_ln q.2) := List.forall_mem_append.mpr ⟨tb_e14_0, List.forall_mem_append.mpr ⟨tb_e14_1, List.forall_mem_append.mpr ⟨tb_e14_2, List.forall_mem_append.mpr ⟨tb_e14_3, List.forall_mem_append.mpr ⟨tb_e14_4, List.forall_mem_append.mpr ⟨tb_e14_5, List.forall_mem_append.mpr ⟨tb_e14_6, List.forall_mem_append.mpr ⟨tb_e14_7, List.forall_mem_append.mpr ⟨tb_e14_8, List.forall_mem_append.mpr ⟨tb_e14_9, List.forall_mem_append.mpr ⟨tb_e14_10, List.forall_mem_append.mpr ⟨tb_e14_11, List.forall_mem_append.mpr ⟨tb_e14_12, List.forall_mem_append.mpr ⟨tb_e14_13, List.forall_mem_append.mpr ⟨tb_e14_14, List.forall_mem_append.mpr ⟨tb_e14_15, List.forall_mem_append.mpr ⟨tb_e14_16, List.forall_mem_append.mpr ⟨tb_e14_17, List.forall_mem_append.mpr ⟨tb_e14_18, List.forall_mem_append.mpr ⟨tb_e14_19, List.forall_mem_append.mpr ⟨tb_e14_20, List.forall_mem_append.mpr ⟨tb_e14_21, List.forall_mem_append.mpr ⟨tb_e14_22, List.forall_mem_append.mpr ⟨tb_e14_23, List.forall_mem_append.mpr ⟨tb_e14_24, List.forall_mem_append.mpr ⟨tb_e14_25, List.forall_mem_append.mpr ⟨tb_e14_26, tb_e14_27⟩⟩⟩⟩⟩⟩⟩⟩⟩⟩⟩⟩⟩⟩⟩⟩⟩⟩⟩⟩⟩⟩⟩⟩⟩⟩⟩
-- 15 IndexedCompilerModel.thrown()I
def tb_d15 : List (Nat × Instr) := [(0, .aload_n 0), (1, .getfield 302), (4, .ireturn)]
set_option maxRecDepth 20000 in
theorem tb_e15 : ∀ q ∈ tb_d15, decode prog_14_method_2_code q.1 = .ok (q.2, mm_ln q.2) := by decide +kernel
-- 16 IndexedCompilerModel.type(IIIII)I
def tb_d16 : List (Nat × Instr) := [(0, .aload_n 0), (1, .getfield 305), (4, .istore 6), (6, .iconst 0), (7, .istore 7), (9, .iload 7), (11, .iconst 5), (12, .if_icmp .ge 80), (15, .iload 7), (17, .ifCond .ne 7), (20, .iload_n 1), (21, .goto 36), (24, .iload 7), (26, .iconst 1), (27, .if_icmp .ne 7), (30, .iload_n 2), (31, .goto 26), (34, .iload 7), (36, .iconst 2), (37, .if_icmp .ne 7), (40, .iload_n 3), (41, .goto 16), (44, .iload 7), (46, .iconst 3), (47, .if_icmp .ne 8), (50, .iload 4), (52, .goto 5), (55, .iload 5), (57, .istore 8), (59, .bipush 24), (61, .istore 9), (63, .iload 9), (65, .ifCond .lt 21), (68, .aload_n 0), (69, .iload 8), (71, .iload 9), (73, .invokevirtual 308), (76, .iload 9), (78, .bipush 8), (80, .isub), (81, .istore 9), (83, .goto (-20)), (86, .iinc 7 1), (89, .goto (-80)), (92, .aload_n 0), (93, .aload_n 0), (94, .getfield 305), (97, .sipush 480), (100, .if_icmp .le 7), (103, .iconst 1), (104, .goto 4), (107, .iconst 0), (108, .invokevirtual 312), (111, .ifCond .eq 11), (114, .aload_n 0), (115, .iload 6), (117, .putfield 305), (120, .iconst 0), (121, .ireturn), (122, .aload_n 0), (123, .getfield 305), (126, .ireturn)]
set_option maxRecDepth 20000 in
theorem tb_e16 : ∀ q ∈ tb_d16, decode prog_14_method_6_code q.1 = .ok (q.2, mm_ln q.2) := by decide +kernel
-- 17 IndexedCompilerModel.put(II)V
def tb_d17 : List (Nat × Instr) := [(0, .iload_n 1), (1, .iload_n 2), (2, .ishr), (3, .sipush 255), (6, .iand), (7, .istore_n 3), (8, .iload_n 3), (9, .ifCond .le 34), (12, .aload_n 0), (13, .getfield 305), (16, .sipush 480), (19, .if_icmp .ge 14), (22, .aload_n 0), (23, .getfield 7), (26, .aload_n 0), (27, .getfield 305), (30, .iload_n 3), (31, .i2c), (32, .castore), (33, .aload_n 0), (34, .dup), (35, .getfield 305), (38, .iconst 1), (39, .iadd), (40, .putfield 305), (43, .return_)]
set_option maxRecDepth 20000 in
theorem tb_e17 : ∀ q ∈ tb_d17, decode prog_14_method_5_code q.1 = .ok (q.2, mm_ln q.2) := by decide +kernel
-- 18 IndexedCompilerModel.refused(I)Z
def tb_d18 : List (Nat × Instr) := [(0, .aload_n 0), (1, .iload_n 1), (2, .putfield 302), (5, .iload_n 1), (6, .ifCond .le 7), (9, .iconst 1), (10, .goto 4), (13, .iconst 0), (14, .ireturn)]
set_option maxRecDepth 20000 in
theorem tb_e18 : ∀ q ∈ tb_d18, decode prog_14_method_3_code q.1 = .ok (q.2, mm_ln q.2) := by decide +kernel
-- 19 IndexedCompilerModel.erase()I
def tb_d19 : List (Nat × Instr) := [(0, .aload_n 0), (1, .iconst 0), (2, .putfield 302), (5, .aload_n 0), (6, .getfield 305), (9, .istore_n 1), (10, .aload_n 0), (11, .iconst 0), (12, .putfield 305), (15, .iload_n 1), (16, .ireturn)]
set_option maxRecDepth 20000 in
theorem tb_e19 : ∀ q ∈ tb_d19, decode prog_14_method_7_code q.1 = .ok (q.2, mm_ln q.2) := by decide +kernel
-- 20 IndexedCompilerModel.define()I
def tb_d20 : List (Nat × Instr) := [(0, .aload_n 0), (1, .iconst 0), (2, .putfield 302), (5, .aload_n 0), (6, .aload_n 0), (7, .getfield 470), (10, .invokevirtual 473), (13, .istore_n 1), (14, .aload_n 0), (15, .aload_n 0), (16, .getfield 333), (19, .ifCond .eq 10), (22, .aload_n 0), (23, .getfield 339), (26, .goto 7), (29, .aload_n 0), (30, .getfield 396), (33, .putfield 23), (36, .iload_n 1), (37, .ifCond .ne 6), (40, .bipush (-2)), (42, .ireturn), (43, .aload_n 0), (44, .getfield 396), (47, .ifCond .lt 6), (50, .bipush (-3)), (52, .ireturn), (53, .aload_n 0), (54, .getfield 470), (57, .bipush 8), (59, .if_icmp .ne 6), (62, .bipush (-4)), (64, .ireturn), (65, .aload_n 0), (66, .dup), (67, .getfield 470), (70, .iconst 1), (71, .iadd), (72, .putfield 470), (75, .aload_n 0), (76, .invokevirtual 476), (79, .aload_n 0), (80, .getfield 470), (83, .iconst 1), (84, .isub), (85, .ireturn)]
set_option maxRecDepth 20000 in
theorem tb_e20 : ∀ q ∈ tb_d20, decode prog_14_method_45_code q.1 = .ok (q.2, mm_ln q.2) := by decide +kernel
-- 21 IndexedCompilerModel.readFunction(I)Z
def tb_d21_0 : List (Nat × Instr) := [(0, .aload_n 0), (1, .invokevirtual 409), (4, .aload_n 0), (5, .sipush 700), (8, .iload_n 1), (9, .imul), (10, .putfield 358), (13, .aload_n 0), (14, .sipush 500), (17, .iload_n 1), (18, .imul), (19, .putfield 368), (22, .aload_n 0), (23, .sipush 260), (26, .iload_n 1), (27, .imul), (28, .putfield 371), (31, .aload_n 0), (32, .sipush 200), (35, .iload_n 1), (36, .imul), (37, .putfield 384), (40, .aload_n 0), (41, .sipush 160), (44, .iload_n 1), (45, .imul), (46, .putfield 387), (49, .aload_n 0), (50, .sipush 300), (53, .iload_n 1), (54, .imul), (55, .putfield 412), (58, .aload_n 0), (59, .getfield 33), (62, .iload_n 1), (63, .iconst 0), (64, .iastore), (65, .aload_n 0), (66, .getfield 48), (69, .iload_n 1)]
set_option maxRecDepth 20000 in
theorem tb_e21_0 : ∀ q ∈ tb_d21_0, decode prog_14_method_32_code q.1 = .ok (q.2, mm_ln q.2) := by decide +kernel
def tb_d21_1 : List (Nat × Instr) := [(70, .iconst 0), (71, .iastore), (72, .aload_n 0), (73, .getfield 39), (76, .iload_n 1), (77, .iconst 0), (78, .iastore), (79, .aload_n 0), (80, .getfield 36), (83, .iload_n 1), (84, .aload_n 0), (85, .getfield 384), (88, .iastore), (89, .aload_n 0), (90, .iconst (-1)), (91, .putfield 396), (94, .aload_n 0), (95, .sipush 4955), (98, .invokevirtual 415), (101, .aload_n 0), (102, .getfield 17), (105, .aload_n 0), (106, .getfield 330), (109, .iaload), (110, .istore_n 2), (111, .aload_n 0), (112, .getfield 27), (115, .iload_n 1), (116, .aload_n 0), (117, .invokevirtual 364), (120, .iastore), (121, .aload_n 0), (122, .getfield 333), (125, .ifCond .ne 27), (128, .aload_n 0), (129, .bipush 123), (131, .invokevirtual 345), (134, .ifCond .eq 18), (137, .aload_n 0), (138, .dup)]
set_option maxRecDepth 20000 in
theorem tb_e21_1 : ∀ q ∈ tb_d21_1, decode prog_14_method_32_code q.1 = .ok (q.2, mm_ln q.2) := by decide +kernel
def tb_d21_2 : List (Nat × Instr) := [(139, .getfield 330), (142, .iconst 1), (143, .iadd), (144, .putfield 330), (147, .aload_n 0), (148, .iload_n 1), (149, .invokevirtual 418), (152, .aload_n 0), (153, .bipush 40), (155, .invokevirtual 390), (158, .aload_n 0), (159, .getfield 333), (162, .ifCond .ne 8), (165, .aload_n 0), (166, .iload_n 1), (167, .invokevirtual 421), (170, .aload_n 0), (171, .bipush 58), (173, .invokevirtual 390), (176, .aload_n 0), (177, .getfield 51), (180, .iload_n 1), (181, .aload_n 0), (182, .getfield 333), (185, .ifCond .eq 7), (188, .iconst 0), (189, .goto 7), (192, .aload_n 0), (193, .invokevirtual 406), (196, .iastore), (197, .aload_n 0), (198, .bipush 61), (200, .invokevirtual 390), (203, .aload_n 0), (204, .getfield 333), (207, .ifCond .ne 13), (210, .aload_n 0), (211, .getfield 54), (214, .iload_n 1), (215, .aload_n 0)]
set_option maxRecDepth 20000 in
theorem tb_e21_2 : ∀ q ∈ tb_d21_2, decode prog_14_method_32_code q.1 = .ok (q.2, mm_ln q.2) := by decide +kernel
def tb_d21_3 : List (Nat × Instr) := [(216, .invokevirtual 424), (219, .iastore), (220, .aload_n 0), (221, .getfield 333), (224, .ifCond .ne 19), (227, .aload_n 0), (228, .getfield 13), (231, .aload_n 0), (232, .getfield 330), (235, .iaload), (236, .ifCond .eq 7), (239, .aload_n 0), (240, .invokevirtual 348), (243, .iconst 0), (244, .istore_n 3), (245, .iload_n 3), (246, .iload_n 1), (247, .if_icmp .ge 36), (250, .aload_n 0), (251, .getfield 396), (254, .ifCond .ge 29), (257, .aload_n 0), (258, .getfield 27), (261, .iload_n 3), (262, .iaload), (263, .aload_n 0), (264, .getfield 27), (267, .iload_n 1), (268, .iaload), (269, .if_icmp .ne 8), (272, .aload_n 0), (273, .iload_n 2), (274, .putfield 396), (277, .iinc 3 1), (280, .goto (-35)), (283, .aload_n 0), (284, .getfield 333), (287, .ifCond .ne 7), (290, .iconst 1), (291, .goto 4)]
set_option maxRecDepth 20000 in
theorem tb_e21_3 : ∀ q ∈ tb_d21_3, decode prog_14_method_32_code q.1 = .ok (q.2, mm_ln q.2) := by decide +kernel
def tb_d21_4 : List (Nat × Instr) := [(294, .iconst 0), (295, .ireturn)]
set_option maxRecDepth 20000 in
theorem tb_e21_4 : ∀ q ∈ tb_d21_4, decode prog_14_method_32_code q.1 = .ok (q.2, mm_ln q.2) := by decide +kernel
def tb_d21 : List (Nat × Instr) := tb_d21_0 ++ (tb_d21_1 ++ (tb_d21_2 ++ (tb_d21_3 ++ (tb_d21_4))))
theorem tb_e21 : ∀ q ∈ tb_d21, decode prog_14_method_32_code q.1 = .ok (q.2, mm_ln q.2) := List.forall_mem_append.mpr ⟨tb_e21_0, List.forall_mem_append.mpr ⟨tb_e21_1, List.forall_mem_append.mpr ⟨tb_e21_2, List.forall_mem_append.mpr ⟨tb_e21_3, tb_e21_4⟩⟩⟩⟩
-- 22 IndexedCompilerModel.tokens()V
def tb_d22_0 : List (Nat × Instr) := [(0, .iconst 0), (1, .istore_n 1), (2, .iconst 0), (3, .istore_n 2), (4, .iload_n 2), (5, .aload_n 0), (6, .getfield 305), (9, .if_icmp .ge 314), (12, .aload_n 0), (13, .getfield 7), (16, .iload_n 2), (17, .caload), (18, .istore_n 3), (19, .iload_n 3), (20, .bipush 32), (22, .if_icmp .ne 9), (25, .iinc 2 1), (28, .goto (-24)), (31, .iload_n 2), (32, .istore 4), (34, .aload_n 0), (35, .getfield 17), (38, .iload_n 1), (39, .iload 4), (41, .iastore), (42, .iconst 0), (43, .istore 5), (45, .iload_n 3), (46, .invokestatic 316), (49, .ifCond .eq 76), (52, .aload_n 0), (53, .iload_n 2), (54, .invokevirtual 320)]
set_option maxRecDepth 20000 in
theorem tb_e22_0 : ∀ q ∈ tb_d22_0, decode prog_14_method_12_code q.1 = .ok (q.2, mm_ln q.2) := by decide +kernel
def tb_d22_1 : List (Nat × Instr) := [(57, .invokestatic 316), (60, .ifCond .eq 42), (63, .iload_n 2), (64, .iload 4), (66, .isub), (67, .bipush 6), (69, .if_icmp .ge 23), (72, .bipush 27), (74, .iload 5), (76, .imul), (77, .aload_n 0), (78, .getfield 7), (81, .iload_n 2), (82, .caload), (83, .iadd), (84, .bipush 97), (86, .isub), (87, .iconst 1), (88, .iadd), (89, .goto 5), (92, .iload 5), (94, .istore 5), (96, .iinc 2 1), (99, .goto (-47)), (102, .aload_n 0), (103, .getfield 13), (106, .iload_n 1), (107, .iload_n 2), (108, .iload 4), (110, .isub), (111, .bipush 6), (113, .if_icmp .le 7), (116, .iconst 4)]
set_option maxRecDepth 20000 in
theorem tb_e22_1 : ∀ q ∈ tb_d22_1, decode prog_14_method_12_code q.1 = .ok (q.2, mm_ln q.2) := by decide +kernel
def tb_d22_2 : List (Nat × Instr) := [(117, .goto 4), (120, .iconst 1), (121, .iastore), (122, .goto 187), (125, .iload_n 3), (126, .invokestatic 324), (129, .ifCond .eq 72), (132, .aload_n 0), (133, .iload_n 2), (134, .invokevirtual 320), (137, .invokestatic 324), (140, .ifCond .eq 39), (143, .iload_n 2), (144, .iload 4), (146, .isub), (147, .iconst 3), (148, .if_icmp .ge 21), (151, .bipush 10), (153, .iload 5), (155, .imul), (156, .aload_n 0), (157, .getfield 7), (160, .iload_n 2), (161, .caload), (162, .iadd), (163, .bipush 48), (165, .isub), (166, .goto 5), (169, .iload 5), (171, .istore 5), (173, .iinc 2 1), (176, .goto (-44)), (179, .aload_n 0)]
set_option maxRecDepth 20000 in
theorem tb_e22_2 : ∀ q ∈ tb_d22_2, decode prog_14_method_12_code q.1 = .ok (q.2, mm_ln q.2) := by decide +kernel
def tb_d22_3 : List (Nat × Instr) := [(180, .getfield 13), (183, .iload_n 1), (184, .iload_n 2), (185, .iload 4), (187, .isub), (188, .iconst 3), (189, .if_icmp .le 7), (192, .iconst 4), (193, .goto 4), (196, .iconst 2), (197, .iastore), (198, .goto 111), (201, .iload_n 3), (202, .bipush 58), (204, .if_icmp .eq 15), (207, .iload_n 3), (208, .bipush 60), (210, .if_icmp .eq 9), (213, .iload_n 3), (214, .bipush 62), (216, .if_icmp .ne 19), (219, .aload_n 0), (220, .iload_n 2), (221, .iconst 1), (222, .iadd), (223, .invokevirtual 320), (226, .bipush 61), (228, .if_icmp .ne 7), (231, .iconst 1), (232, .goto 4), (235, .iconst 0), (236, .istore 6), (238, .iload 6)]
set_option maxRecDepth 20000 in
theorem tb_e22_3 : ∀ q ∈ tb_d22_3, decode prog_14_method_12_code q.1 = .ok (q.2, mm_ln q.2) := by decide +kernel
def tb_d22_4 : List (Nat × Instr) := [(240, .ifCond .ne 7), (243, .iload_n 3), (244, .goto 30), (247, .iload_n 3), (248, .bipush 58), (250, .if_icmp .ne 9), (253, .sipush 130), (256, .goto 18), (259, .iload_n 3), (260, .bipush 60), (262, .if_icmp .ne 9), (265, .sipush 128), (268, .goto 6), (271, .sipush 129), (274, .istore 5), (276, .iload 6), (278, .ifCond .eq 9), (281, .iload_n 2), (282, .iconst 2), (283, .iadd), (284, .goto 6), (287, .iload_n 2), (288, .iconst 1), (289, .iadd), (290, .istore_n 2), (291, .aload_n 0), (292, .getfield 13), (295, .iload_n 1), (296, .iload_n 3), (297, .invokestatic 327), (300, .ifCond .eq 7), (303, .iconst 3), (304, .goto 4)]
set_option maxRecDepth 20000 in
theorem tb_e22_4 : ∀ q ∈ tb_d22_4, decode prog_14_method_12_code q.1 = .ok (q.2, mm_ln q.2) := by decide +kernel
def tb_d22_5 : List (Nat × Instr) := [(307, .iconst 4), (308, .iastore), (309, .aload_n 0), (310, .getfield 20), (313, .iload_n 1), (314, .iload 5), (316, .iastore), (317, .iinc 1 1), (320, .goto (-316)), (323, .aload_n 0), (324, .getfield 13), (327, .iload_n 1), (328, .iconst 0), (329, .iastore), (330, .aload_n 0), (331, .getfield 17), (334, .iload_n 1), (335, .aload_n 0), (336, .getfield 305), (339, .iastore), (340, .aload_n 0), (341, .getfield 20), (344, .iload_n 1), (345, .iconst 0), (346, .iastore), (347, .aload_n 0), (348, .iconst 0), (349, .putfield 330), (352, .aload_n 0), (353, .iconst 0), (354, .putfield 333), (357, .return_)]
set_option maxRecDepth 20000 in
theorem tb_e22_5 : ∀ q ∈ tb_d22_5, decode prog_14_method_12_code q.1 = .ok (q.2, mm_ln q.2) := by decide +kernel
def tb_d22 : List (Nat × Instr) := tb_d22_0 ++ (tb_d22_1 ++ (tb_d22_2 ++ (tb_d22_3 ++ (tb_d22_4 ++ (tb_d22_5)))))
theorem tb_e22 : ∀ q ∈ tb_d22, decode prog_14_method_12_code q.1 = .ok (q.2, mm_ln q.2) := List.forall_mem_append.mpr ⟨tb_e22_0, List.forall_mem_append.mpr ⟨tb_e22_1, List.forall_mem_append.mpr ⟨tb_e22_2, List.forall_mem_append.mpr ⟨tb_e22_3, List.forall_mem_append.mpr ⟨tb_e22_4, tb_e22_5⟩⟩⟩⟩⟩
-- 23 IndexedCompilerModel.isLetter(C)Z
def tb_d23 : List (Nat × Instr) := [(0, .iload_n 0), (1, .bipush 97), (3, .if_icmp .lt 13), (6, .iload_n 0), (7, .bipush 122), (9, .if_icmp .gt 7), (12, .iconst 1), (13, .goto 4), (16, .iconst 0), (17, .ireturn)]
set_option maxRecDepth 20000 in
theorem tb_e23 : ∀ q ∈ tb_d23, decode prog_14_method_9_code q.1 = .ok (q.2, mm_ln q.2) := by decide +kernel
-- 24 IndexedCompilerModel.at(I)C
def tb_d24 : List (Nat × Instr) := [(0, .iload_n 1), (1, .aload_n 0), (2, .getfield 305), (5, .if_icmp .ge 12), (8, .aload_n 0), (9, .getfield 7), (12, .iload_n 1), (13, .caload), (14, .goto 4), (17, .iconst 0), (18, .ireturn)]
set_option maxRecDepth 20000 in
theorem tb_e24 : ∀ q ∈ tb_d24, decode prog_14_method_8_code q.1 = .ok (q.2, mm_ln q.2) := by decide +kernel
-- 25 IndexedCompilerModel.isDigit(C)Z
def tb_d25 : List (Nat × Instr) := [(0, .iload_n 0), (1, .bipush 48), (3, .if_icmp .lt 13), (6, .iload_n 0), (7, .bipush 57), (9, .if_icmp .gt 7), (12, .iconst 1), (13, .goto 4), (16, .iconst 0), (17, .ireturn)]
set_option maxRecDepth 20000 in
theorem tb_e25 : ∀ q ∈ tb_d25, decode prog_14_method_10_code q.1 = .ok (q.2, mm_ln q.2) := by decide +kernel
-- 26 IndexedCompilerModel.isMark(C)Z
def tb_d26 : List (Nat × Instr) := [(0, .iload_n 0), (156, .iconst 1), (157, .ireturn), (158, .iconst 0), (159, .ireturn)]
set_option maxRecDepth 20000 in
theorem tb_e26 : ∀ q ∈ tb_d26, decode prog_14_method_11_code q.1 = .ok (q.2, mm_ln q.2) := by decide +kernel
-- 27 IndexedCompilerModel.wantWord(I)V
def tb_d27 : List (Nat × Instr) := [(0, .aload_n 0), (1, .getfield 333), (4, .ifCond .eq 4), (7, .return_), (8, .aload_n 0), (9, .iload_n 1), (10, .invokevirtual 351), (13, .ifCond .eq 16), (16, .aload_n 0), (17, .dup), (18, .getfield 330), (21, .iconst 1), (22, .iadd), (23, .putfield 330), (26, .goto 7), (29, .aload_n 0), (30, .invokevirtual 348), (33, .return_)]
set_option maxRecDepth 20000 in
theorem tb_e27 : ∀ q ∈ tb_d27, decode prog_14_method_19_code q.1 = .ok (q.2, mm_ln q.2) := by decide +kernel
-- 28 IndexedCompilerModel.isWordHere(I)Z
def tb_d28 : List (Nat × Instr) := [(0, .aload_n 0), (1, .getfield 13), (4, .aload_n 0), (5, .getfield 330), (8, .iaload), (9, .iconst 1), (10, .if_icmp .ne 20), (13, .aload_n 0), (14, .getfield 20), (17, .aload_n 0), (18, .getfield 330), (21, .iaload), (22, .iload_n 1), (23, .if_icmp .ne 7), (26, .iconst 1), (27, .goto 4), (30, .iconst 0), (31, .ireturn)]
set_option maxRecDepth 20000 in
theorem tb_e28 : ∀ q ∈ tb_d28, decode prog_14_method_16_code q.1 = .ok (q.2, mm_ln q.2) := by decide +kernel
-- 29 IndexedCompilerModel.wrong()V
def tb_d29 : List (Nat × Instr) := [(0, .aload_n 0), (1, .getfield 333), (4, .ifCond .ne 16), (7, .aload_n 0), (8, .aload_n 0), (9, .getfield 17), (12, .aload_n 0), (13, .getfield 330), (16, .iaload), (17, .putfield 339), (20, .aload_n 0), (21, .iconst 1), (22, .putfield 333), (25, .return_)]
set_option maxRecDepth 20000 in
theorem tb_e29 : ∀ q ∈ tb_d29, decode prog_14_method_14_code q.1 = .ok (q.2, mm_ln q.2) := by decide +kernel
-- 30 IndexedCompilerModel.wantName()I
def tb_d30 : List (Nat × Instr) := [(0, .aload_n 0), (1, .getfield 333), (4, .ifCond .ne 10), (7, .aload_n 0), (8, .invokevirtual 354), (11, .ifCond .ne 9), (14, .aload_n 0), (15, .invokevirtual 348), (18, .iconst 0), (19, .ireturn), (20, .aload_n 0), (21, .dup), (22, .getfield 330), (25, .iconst 1), (26, .iadd), (27, .putfield 330), (30, .aload_n 0), (31, .getfield 20), (34, .aload_n 0), (35, .getfield 330), (38, .iconst 1), (39, .isub), (40, .iaload), (41, .ireturn)]
set_option maxRecDepth 20000 in
theorem tb_e30 : ∀ q ∈ tb_d30, decode prog_14_method_20_code q.1 = .ok (q.2, mm_ln q.2) := by decide +kernel
-- 31 IndexedCompilerModel.isNameHere()Z
def tb_d31 : List (Nat × Instr) := [(0, .aload_n 0), (1, .getfield 13), (4, .aload_n 0), (5, .getfield 330), (8, .iaload), (9, .iconst 1), (10, .if_icmp .ne 22), (13, .aload_n 0), (14, .getfield 20), (17, .aload_n 0), (18, .getfield 330), (21, .iaload), (22, .invokestatic 342), (25, .ifCond .ne 7), (28, .iconst 1), (29, .goto 4), (32, .iconst 0), (33, .ireturn)]
set_option maxRecDepth 20000 in
theorem tb_e31 : ∀ q ∈ tb_d31, decode prog_14_method_17_code q.1 = .ok (q.2, mm_ln q.2) := by decide +kernel
-- 32 IndexedCompilerModel.isKept(I)Z
def tb_d32 : List (Nat × Instr) := [(0, .iload_n 0), (1, .sipush 4955), (4, .if_icmp .eq 80), (7, .iload_n 0), (8, .sipush 6959), (11, .if_icmp .eq 73), (14, .iload_n 0), (15, .sipush 13550), (18, .if_icmp .eq 66), (21, .iload_n 0), (22, .sipush 8903), (25, .if_icmp .eq 59), (28, .iload_n 0), (29, .sipush 257), (32, .if_icmp .eq 52), (35, .iload_n 0), (36, .sipush 249), (39, .if_icmp .eq 45), (42, .iload_n 0), (43, .ldc_w 337), (46, .if_icmp .eq 38), (49, .iload_n 0), (50, .ldc_w 338), (53, .if_icmp .eq 31), (56, .iload_n 0), (57, .sipush 4027), (60, .if_icmp .eq 24), (63, .iload_n 0), (64, .sipush 8897), (67, .if_icmp .eq 17), (70, .iload_n 0), (71, .sipush 10364), (74, .if_icmp .eq 10), (77, .iload_n 0), (78, .sipush 11522), (81, .if_icmp .ne 7), (84, .iconst 1), (85, .goto 4), (88, .iconst 0), (89, .ireturn)]
set_option maxRecDepth 20000 in
theorem tb_e32 : ∀ q ∈ tb_d32, decode prog_14_method_13_code q.1 = .ok (q.2, mm_ln q.2) := by decide +kernel
-- 33 IndexedCompilerModel.isMarkHere(I)Z
def tb_d33 : List (Nat × Instr) := [(0, .aload_n 0), (1, .getfield 13), (4, .aload_n 0), (5, .getfield 330), (8, .iaload), (9, .iconst 3), (10, .if_icmp .ne 20), (13, .aload_n 0), (14, .getfield 20), (17, .aload_n 0), (18, .getfield 330), (21, .iaload), (22, .iload_n 1), (23, .if_icmp .ne 7), (26, .iconst 1), (27, .goto 4), (30, .iconst 0), (31, .ireturn)]
set_option maxRecDepth 20000 in
theorem tb_e33 : ∀ q ∈ tb_d33, decode prog_14_method_15_code q.1 = .ok (q.2, mm_ln q.2) := by decide +kernel
-- 34 IndexedCompilerModel.readIndexNames(I)V
def tb_d34 : List (Nat × Instr) := [(0, .iconst 1), (1, .istore_n 2), (2, .iload_n 2), (3, .ifCond .eq 124), (6, .aload_n 0), (7, .getfield 333), (10, .ifCond .ne 117), (13, .aload_n 0), (14, .getfield 17), (17, .aload_n 0), (18, .getfield 330), (21, .iaload), (22, .istore_n 3), (23, .aload_n 0), (24, .invokevirtual 364), (27, .istore 4), (29, .aload_n 0), (30, .getfield 333), (33, .ifCond .ne 18), (36, .aload_n 0), (37, .iload_n 1), (38, .iload 4), (40, .invokevirtual 399), (43, .ifCond .eq 8), (46, .aload_n 0), (47, .iload_n 3), (48, .invokevirtual 403), (51, .aload_n 0), (52, .getfield 30), (55, .iconst 4), (56, .iload_n 1), (57, .imul), (58, .aload_n 0), (59, .getfield 33), (62, .iload_n 1), (63, .iaload), (64, .iadd), (65, .iload 4), (67, .iastore), (68, .aload_n 0), (69, .getfield 33), (72, .iload_n 1), (73, .dup2), (74, .iaload), (75, .iconst 1), (76, .iadd), (77, .iastore), (78, .aload_n 0), (79, .bipush 44), (81, .invokevirtual 345), (84, .ifCond .eq 17), (87, .aload_n 0), (88, .getfield 33), (91, .iload_n 1), (92, .iaload), (93, .iconst 4), (94, .if_icmp .ge 7), (97, .iconst 1), (98, .goto 4), (101, .iconst 0), (102, .istore_n 2), (103, .iload_n 2), (104, .ifCond .eq 20), (107, .aload_n 0), (108, .getfield 333), (111, .ifCond .ne 13), (114, .aload_n 0), (115, .dup), (116, .getfield 330), (119, .iconst 1), (120, .iadd), (121, .putfield 330), (124, .goto (-122)), (127, .aload_n 0), (128, .getfield 333), (131, .ifCond .ne 32), (134, .aload_n 0), (135, .bipush 124), (137, .invokevirtual 345), (140, .ifCond .eq 23), (143, .aload_n 0), (144, .dup), (145, .getfield 330), (148, .iconst 1), (149, .iadd), (150, .putfield 330), (153, .aload_n 0), (154, .getfield 39), (157, .iload_n 1), (158, .aload_n 0), (159, .invokevirtual 393), (162, .iastore), (163, .aload_n 0), (164, .bipush 125), (166, .invokevirtual 390), (169, .return_)]
set_option maxRecDepth 20000 in
theorem tb_e34 : ∀ q ∈ tb_d34, decode prog_14_method_30_code q.1 = .ok (q.2, mm_ln q.2) := by decide +kernel
-- 35 IndexedCompilerModel.isTold(II)Z
def tb_d35 : List (Nat × Instr) := [(0, .iconst 0), (1, .istore_n 3), (2, .iconst 0), (3, .istore 4), (5, .iload 4), (7, .aload_n 0), (8, .getfield 33), (11, .iload_n 1), (12, .iaload), (13, .if_icmp .ge 34), (16, .iload_n 3), (17, .ifCond .ne 18), (20, .aload_n 0), (21, .getfield 30), (24, .iconst 4), (25, .iload_n 1), (26, .imul), (27, .iload 4), (29, .iadd), (30, .iaload), (31, .iload_n 2), (32, .if_icmp .ne 7), (35, .iconst 1), (36, .goto 4), (39, .iconst 0), (40, .istore_n 3), (41, .iinc 4 1), (44, .goto (-39)), (47, .iconst 0), (48, .istore 4), (50, .iload 4), (52, .aload_n 0), (53, .getfield 48), (56, .iload_n 1), (57, .iaload), (58, .if_icmp .ge 34), (61, .iload_n 3), (62, .ifCond .ne 18), (65, .aload_n 0), (66, .getfield 42), (69, .iconst 5), (70, .iload_n 1), (71, .imul), (72, .iload 4), (74, .iadd), (75, .iaload), (76, .iload_n 2), (77, .if_icmp .ne 7), (80, .iconst 1), (81, .goto 4), (84, .iconst 0), (85, .istore_n 3), (86, .iinc 4 1), (89, .goto (-39)), (92, .iload_n 3), (93, .ireturn)]
set_option maxRecDepth 20000 in
theorem tb_e35 : ∀ q ∈ tb_d35, decode prog_14_method_29_code q.1 = .ok (q.2, mm_ln q.2) := by decide +kernel
-- 36 IndexedCompilerModel.tellSame(I)V
def tb_d36 : List (Nat × Instr) := [(0, .aload_n 0), (1, .aload_n 0), (2, .getfield 396), (5, .ifCond .ge 7), (8, .iload_n 1), (9, .goto 7), (12, .aload_n 0), (13, .getfield 396), (16, .putfield 396), (19, .return_)]
set_option maxRecDepth 20000 in
theorem tb_e36 : ∀ q ∈ tb_d36, decode prog_14_method_28_code q.1 = .ok (q.2, mm_ln q.2) := by decide +kernel
-- 37 IndexedCompilerModel.readProps()I
def tb_d37 : List (Nat × Instr) := [(0, .iconst 0), (1, .istore_n 1), (2, .iconst 1), (3, .istore_n 2), (4, .iload_n 2), (5, .ifCond .eq 127), (8, .aload_n 0), (9, .getfield 333), (12, .ifCond .ne 120), (15, .aload_n 0), (16, .invokevirtual 378), (19, .istore_n 3), (20, .aload_n 0), (21, .invokevirtual 381), (24, .istore 4), (26, .aload_n 0), (27, .getfield 333), (30, .ifCond .eq 7), (33, .iconst 0), (34, .goto 7), (37, .aload_n 0), (38, .invokevirtual 378), (41, .istore 5), (43, .aload_n 0), (44, .getfield 100), (47, .aload_n 0), (48, .getfield 384), (51, .iload_n 3), (52, .iastore), (53, .aload_n 0), (54, .getfield 103), (57, .aload_n 0), (58, .getfield 384), (61, .iload 4), (63, .iastore), (64, .aload_n 0), (65, .getfield 106), (68, .aload_n 0), (69, .getfield 384), (72, .iload 5), (74, .iastore), (75, .aload_n 0), (76, .dup), (77, .getfield 384), (80, .iconst 1), (81, .iadd), (82, .putfield 384), (85, .iinc 1 1), (88, .aload_n 0), (89, .bipush 38), (91, .invokevirtual 345), (94, .ifCond .eq 12), (97, .iload_n 1), (98, .iconst 4), (99, .if_icmp .ge 7), (102, .iconst 1), (103, .goto 4), (106, .iconst 0), (107, .istore_n 2), (108, .iload_n 2), (109, .ifCond .eq 20), (112, .aload_n 0), (113, .getfield 333), (116, .ifCond .ne 13), (119, .aload_n 0), (120, .dup), (121, .getfield 330), (124, .iconst 1), (125, .iadd), (126, .putfield 330), (129, .goto (-125)), (132, .iload_n 1), (133, .ireturn)]
set_option maxRecDepth 20000 in
theorem tb_e37 : ∀ q ∈ tb_d37, decode prog_14_method_26_code q.1 = .ok (q.2, mm_ln q.2) := by decide +kernel
-- 38 IndexedCompilerModel.readIndex()I
def tb_d38 : List (Nat × Instr) := [(0, .aload_n 0), (1, .getfield 371), (4, .istore_n 1), (5, .aload_n 0), (6, .dup), (7, .getfield 371), (10, .iconst 1), (11, .iadd), (12, .putfield 371), (15, .aload_n 0), (16, .getfield 91), (19, .iload_n 1), (20, .aload_n 0), (21, .getfield 368), (24, .iastore), (25, .aload_n 0), (26, .getfield 97), (29, .iload_n 1), (30, .aload_n 0), (31, .getfield 17), (34, .aload_n 0), (35, .getfield 330), (38, .iaload), (39, .iastore), (40, .iconst 1), (41, .istore_n 2), (42, .iconst 1), (43, .istore_n 3), (44, .iload_n 3), (45, .ifCond .eq 78), (48, .aload_n 0), (49, .getfield 333), (52, .ifCond .ne 71), (55, .aload_n 0), (56, .iload_n 2), (57, .invokevirtual 374), (60, .aload_n 0), (61, .bipush 43), (63, .invokevirtual 345), (66, .ifCond .ne 12), (69, .aload_n 0), (70, .bipush 45), (72, .invokevirtual 345), (75, .ifCond .eq 7), (78, .iconst 1), (79, .goto 4), (82, .iconst 0), (83, .istore_n 3), (84, .iload_n 3), (85, .ifCond .eq (-41)), (88, .aload_n 0), (89, .getfield 333), (92, .ifCond .ne (-48)), (95, .aload_n 0), (96, .bipush 43), (98, .invokevirtual 345), (101, .ifCond .eq 7), (104, .iconst 1), (105, .goto 4), (108, .iconst (-1)), (109, .istore_n 2), (110, .aload_n 0), (111, .dup), (112, .getfield 330), (115, .iconst 1), (116, .iadd), (117, .putfield 330), (120, .goto (-76)), (123, .aload_n 0), (124, .getfield 94), (127, .iload_n 1), (128, .aload_n 0), (129, .getfield 368), (132, .aload_n 0), (133, .getfield 91), (136, .iload_n 1), (137, .iaload), (138, .isub), (139, .iastore), (140, .iload_n 1), (141, .ireturn)]
set_option maxRecDepth 20000 in
theorem tb_e38 : ∀ q ∈ tb_d38, decode prog_14_method_25_code q.1 = .ok (q.2, mm_ln q.2) := by decide +kernel
-- 39 IndexedCompilerModel.readTerm(I)V
def tb_d39 : List (Nat × Instr) := [(0, .iconst 1), (1, .istore_n 2), (2, .aload_n 0), (3, .getfield 13), (6, .aload_n 0), (7, .getfield 330), (10, .iaload), (11, .iconst 2), (12, .if_icmp .ne 58), (15, .aload_n 0), (16, .getfield 333), (19, .ifCond .ne 51), (22, .aload_n 0), (23, .getfield 20), (26, .aload_n 0), (27, .getfield 330), (30, .iaload), (31, .istore_n 2), (32, .aload_n 0), (33, .dup), (34, .getfield 330), (37, .iconst 1), (38, .iadd), (39, .putfield 330), (42, .aload_n 0), (43, .bipush 42), (45, .invokevirtual 345), (48, .ifCond .ne 12), (51, .aload_n 0), (52, .iload_n 1), (53, .iload_n 2), (54, .imul), (55, .iconst 0), (56, .invokevirtual 361), (59, .return_), (60, .aload_n 0), (61, .dup), (62, .getfield 330), (65, .iconst 1), (66, .iadd), (67, .putfield 330), (70, .aload_n 0), (71, .getfield 330), (74, .istore_n 3), (75, .aload_n 0), (76, .invokevirtual 364), (79, .istore 4), (81, .aload_n 0), (82, .iload_n 1), (83, .iload_n 2), (84, .imul), (85, .iload 4), (87, .invokevirtual 361), (90, .aload_n 0), (91, .getfield 88), (94, .aload_n 0), (95, .getfield 368), (98, .iconst 1), (99, .isub), (100, .aload_n 0), (101, .getfield 17), (104, .iload_n 3), (105, .iaload), (106, .iastore), (107, .return_)]
set_option maxRecDepth 20000 in
theorem tb_e39 : ∀ q ∈ tb_d39, decode prog_14_method_23_code q.1 = .ok (q.2, mm_ln q.2) := by decide +kernel
-- 40 IndexedCompilerModel.addTerm(II)V
def tb_d40 : List (Nat × Instr) := [(0, .aload_n 0), (1, .getfield 82), (4, .aload_n 0), (5, .getfield 368), (8, .iload_n 1), (9, .iastore), (10, .aload_n 0), (11, .getfield 85), (14, .aload_n 0), (15, .getfield 368), (18, .iload_n 2), (19, .iastore), (20, .aload_n 0), (21, .getfield 88), (24, .aload_n 0), (25, .getfield 368), (28, .iconst 0), (29, .iastore), (30, .aload_n 0), (31, .dup), (32, .getfield 368), (35, .iconst 1), (36, .iadd), (37, .putfield 368), (40, .return_)]
set_option maxRecDepth 20000 in
theorem tb_e40 : ∀ q ∈ tb_d40, decode prog_14_method_24_code q.1 = .ok (q.2, mm_ln q.2) := by decide +kernel
-- 41 IndexedCompilerModel.wantRelation()I
def tb_d41 : List (Nat × Instr) := [(0, .aload_n 0), (1, .bipush 60), (3, .invokevirtual 345), (6, .ifCond .eq 7), (9, .iconst 0), (10, .goto 58), (13, .aload_n 0), (14, .sipush 128), (17, .invokevirtual 345), (20, .ifCond .eq 7), (23, .iconst 1), (24, .goto 44), (27, .aload_n 0), (28, .bipush 61), (30, .invokevirtual 345), (33, .ifCond .eq 7), (36, .iconst 2), (37, .goto 31), (40, .aload_n 0), (41, .sipush 129), (44, .invokevirtual 345), (47, .ifCond .eq 7), (50, .iconst 3), (51, .goto 17), (54, .aload_n 0), (55, .bipush 62), (57, .invokevirtual 345), (60, .ifCond .eq 7), (63, .iconst 4), (64, .goto 4), (67, .iconst (-1)), (68, .istore_n 1), (69, .aload_n 0), (70, .getfield 333), (73, .ifCond .ne 7), (76, .iload_n 1), (77, .ifCond .ge 9), (80, .aload_n 0), (81, .invokevirtual 348), (84, .iconst 0), (85, .ireturn), (86, .aload_n 0), (87, .dup), (88, .getfield 330), (91, .iconst 1), (92, .iadd), (93, .putfield 330), (96, .iload_n 1), (97, .ireturn)]
set_option maxRecDepth 20000 in
theorem tb_e41 : ∀ q ∈ tb_d41, decode prog_14_method_21_code q.1 = .ok (q.2, mm_ln q.2) := by decide +kernel
-- 42 IndexedCompilerModel.wantMark(I)V
def tb_d42 : List (Nat × Instr) := [(0, .aload_n 0), (1, .getfield 333), (4, .ifCond .eq 4), (7, .return_), (8, .aload_n 0), (9, .iload_n 1), (10, .invokevirtual 345), (13, .ifCond .eq 16), (16, .aload_n 0), (17, .dup), (18, .getfield 330), (21, .iconst 1), (22, .iadd), (23, .putfield 330), (26, .goto 7), (29, .aload_n 0), (30, .invokevirtual 348), (33, .return_)]
set_option maxRecDepth 20000 in
theorem tb_e42 : ∀ q ∈ tb_d42, decode prog_14_method_18_code q.1 = .ok (q.2, mm_ln q.2) := by decide +kernel
-- 43 IndexedCompilerModel.readParams(I)V
def tb_d43 : List (Nat × Instr) := [(0, .aload_n 0), (1, .bipush 41), (3, .invokevirtual 345), (6, .ifCond .ne 7), (9, .iconst 1), (10, .goto 4), (13, .iconst 0), (14, .istore_n 2), (15, .iload_n 2), (16, .ifCond .eq 176), (19, .aload_n 0), (20, .getfield 333), (23, .ifCond .ne 169), (26, .aload_n 0), (27, .getfield 17), (30, .aload_n 0), (31, .getfield 330), (34, .iaload), (35, .istore_n 3), (36, .aload_n 0), (37, .invokevirtual 364), (40, .istore 4), (42, .aload_n 0), (43, .getfield 333), (46, .ifCond .ne 17), (49, .aload_n 0), (50, .iload_n 1), (51, .iload 4), (53, .invokevirtual 399), (56, .ifCond .eq 7), (59, .iconst 1), (60, .goto 4), (63, .iconst 0), (64, .istore 5), (66, .aload_n 0), (67, .bipush 58), (69, .invokevirtual 390), (72, .aload_n 0), (73, .getfield 333), (76, .ifCond .eq 7), (79, .iconst 0), (80, .goto 7), (83, .aload_n 0), (84, .invokevirtual 406), (87, .istore 6), (89, .iload 5), (91, .ifCond .eq 8), (94, .aload_n 0), (95, .iload_n 3), (96, .invokevirtual 403), (99, .aload_n 0), (100, .getfield 42), (103, .iconst 5), (104, .iload_n 1), (105, .imul), (106, .aload_n 0), (107, .getfield 48), (110, .iload_n 1), (111, .iaload), (112, .iadd), (113, .iload 4), (115, .iastore), (116, .aload_n 0), (117, .getfield 45), (120, .iconst 5), (121, .iload_n 1), (122, .imul), (123, .aload_n 0), (124, .getfield 48), (127, .iload_n 1), (128, .iaload), (129, .iadd), (130, .iload 6), (132, .iastore), (133, .aload_n 0), (134, .getfield 48), (137, .iload_n 1), (138, .dup2), (139, .iaload), (140, .iconst 1), (141, .iadd), (142, .iastore), (143, .aload_n 0), (144, .bipush 44), (146, .invokevirtual 345), (149, .ifCond .eq 17), (152, .aload_n 0), (153, .getfield 48), (156, .iload_n 1), (157, .iaload), (158, .iconst 5), (159, .if_icmp .ge 7), (162, .iconst 1), (163, .goto 4), (166, .iconst 0), (167, .istore_n 2), (168, .iload_n 2), (169, .ifCond .eq 20), (172, .aload_n 0), (173, .getfield 333), (176, .ifCond .ne 13), (179, .aload_n 0), (180, .dup), (181, .getfield 330), (184, .iconst 1), (185, .iadd), (186, .putfield 330), (189, .goto (-174)), (192, .aload_n 0), (193, .bipush 41), (195, .invokevirtual 390), (198, .return_)]
set_option maxRecDepth 20000 in
theorem tb_e43 : ∀ q ∈ tb_d43, decode prog_14_method_31_code q.1 = .ok (q.2, mm_ln q.2) := by decide +kernel
-- 44 IndexedCompilerModel.readType()I
def tb_d44 : List (Nat × Instr) := [(0, .aload_n 0), (1, .getfield 387), (4, .istore_n 1), (5, .aload_n 0), (6, .dup), (7, .getfield 387), (10, .iconst 1), (11, .iadd), (12, .putfield 387), (15, .aload_n 0), (16, .getfield 109), (19, .iload_n 1), (20, .iconst 0), (21, .iastore), (22, .aload_n 0), (23, .getfield 121), (26, .iload_n 1), (27, .iconst 0), (28, .iastore), (29, .aload_n 0), (30, .getfield 333), (33, .ifCond .ne 23), (36, .aload_n 0), (37, .sipush 6959), (40, .invokevirtual 351), (43, .ifCond .ne 19), (46, .aload_n 0), (47, .sipush 13550), (50, .invokevirtual 351), (53, .ifCond .ne 9), (56, .aload_n 0), (57, .invokevirtual 348), (60, .iload_n 1), (61, .ireturn), (62, .aload_n 0), (63, .sipush 13550), (66, .invokevirtual 351), (69, .istore_n 2), (70, .aload_n 0), (71, .dup), (72, .getfield 330), (75, .iconst 1), (76, .iadd), (77, .putfield 330), (80, .iload_n 2), (81, .ifCond .ne 12), (84, .aload_n 0), (85, .bipush 40), (87, .invokevirtual 345), (90, .ifCond .eq 54), (93, .aload_n 0), (94, .bipush 40), (96, .invokevirtual 390), (99, .aload_n 0), (100, .getfield 109), (103, .iload_n 1), (104, .iload_n 2), (105, .ifCond .eq 7), (108, .iconst 3), (109, .goto 4), (112, .iconst 1), (113, .iastore), (114, .aload_n 0), (115, .getfield 112), (118, .iload_n 1), (119, .aload_n 0), (120, .getfield 333), (123, .ifCond .eq 7), (126, .iconst 0), (127, .goto 7), (130, .aload_n 0), (131, .invokevirtual 378), (134, .iastore), (135, .aload_n 0), (136, .bipush 41), (138, .invokevirtual 390), (141, .goto 82), (144, .aload_n 0), (145, .bipush 123), (147, .invokevirtual 345), (150, .ifCond .eq 73), (153, .aload_n 0), (154, .dup), (155, .getfield 330), (158, .iconst 1), (159, .iadd), (160, .putfield 330), (163, .aload_n 0), (164, .getfield 109), (167, .iload_n 1), (168, .iconst 2), (169, .iastore), (170, .aload_n 0), (171, .getfield 115), (174, .iload_n 1), (175, .aload_n 0), (176, .invokevirtual 364), (179, .iastore), (180, .aload_n 0), (181, .bipush 124), (183, .invokevirtual 390), (186, .aload_n 0), (187, .getfield 118), (190, .iload_n 1), (191, .aload_n 0), (192, .getfield 384), (195, .iastore), (196, .aload_n 0), (197, .getfield 121), (200, .iload_n 1), (201, .aload_n 0), (202, .getfield 333), (205, .ifCond .eq 7), (208, .iconst 0), (209, .goto 7), (212, .aload_n 0), (213, .invokevirtual 393), (216, .iastore), (217, .aload_n 0), (218, .bipush 125), (220, .invokevirtual 390), (223, .iload_n 1), (224, .ireturn)]
set_option maxRecDepth 20000 in
theorem tb_e44 : ∀ q ∈ tb_d44, decode prog_14_method_27_code q.1 = .ok (q.2, mm_ln q.2) := by decide +kernel
-- 45 IndexedCompilerModel.readSteps()I
def tb_d45 : List (Nat × Instr) := [(0, .aload_n 0), (1, .iconst 0), (2, .putfield 427), (5, .aload_n 0), (6, .iconst 0), (7, .iconst 1), (8, .invokevirtual 433), (11, .aload_n 0), (12, .getfield 427), (15, .ifCond .le 93), (18, .aload_n 0), (19, .getfield 333), (22, .ifCond .ne 86), (25, .aload_n 0), (26, .getfield 427), (29, .iconst 1), (30, .isub), (31, .istore_n 1), (32, .aload_n 0), (33, .getfield 127), (36, .iload_n 1), (37, .iaload), (68, .aload_n 0), (69, .iload_n 1), (70, .invokevirtual 436), (73, .goto 32), (76, .aload_n 0), (77, .iload_n 1), (78, .invokevirtual 439), (81, .goto 24), (84, .aload_n 0), (85, .iload_n 1), (86, .invokevirtual 442), (89, .goto 16), (92, .aload_n 0), (93, .iload_n 1), (94, .invokevirtual 445), (97, .goto 8), (100, .aload_n 0), (101, .iload_n 1), (102, .invokevirtual 448), (105, .goto (-94)), (108, .aload_n 0), (109, .getfield 430), (112, .ireturn)]
set_option maxRecDepth 20000 in
theorem tb_e45 : ∀ q ∈ tb_d45, decode prog_14_method_35_code q.1 = .ok (q.2, mm_ln q.2) := by decide +kernel
-- 46 IndexedCompilerModel.enter(II)V
def tb_d46 : List (Nat × Instr) := [(0, .aload_n 0), (1, .getfield 333), (4, .ifCond .eq 4), (7, .return_), (8, .iload_n 2), (9, .bipush 12), (11, .if_icmp .le 8), (14, .aload_n 0), (15, .invokevirtual 348), (18, .return_), (19, .aload_n 0), (20, .getfield 427), (23, .istore_n 3), (24, .aload_n 0), (25, .dup), (26, .getfield 427), (29, .iconst 1), (30, .iadd), (31, .putfield 427), (34, .aload_n 0), (35, .getfield 127), (38, .iload_n 3), (39, .iload_n 1), (40, .iastore), (41, .aload_n 0), (42, .getfield 130), (45, .iload_n 3), (46, .iconst 0), (47, .iastore), (48, .aload_n 0), (49, .getfield 133), (52, .iload_n 3), (53, .iload_n 2), (54, .iastore), (55, .aload_n 0), (56, .getfield 136), (59, .iload_n 3), (60, .iconst (-1)), (61, .iastore), (62, .aload_n 0), (63, .getfield 148), (66, .iload_n 3), (67, .aload_n 0), (68, .getfield 17), (71, .aload_n 0), (72, .getfield 330), (75, .iaload), (76, .iastore), (77, .return_)]
set_option maxRecDepth 20000 in
theorem tb_e46 : ∀ q ∈ tb_d46, decode prog_14_method_33_code q.1 = .ok (q.2, mm_ln q.2) := by decide +kernel
-- 47 IndexedCompilerModel.goSteps(I)V
def tb_d47 : List (Nat × Instr) := [(0, .aload_n 0), (1, .getfield 130), (4, .iload_n 1), (5, .iaload), (6, .ifCond .ne 22), (9, .aload_n 0), (10, .getfield 130), (13, .iload_n 1), (14, .iconst 1), (15, .iastore), (16, .aload_n 0), (17, .iconst 1), (18, .aload_n 0), (19, .getfield 133), (22, .iload_n 1), (23, .iaload), (24, .invokevirtual 433), (27, .return_), (28, .aload_n 0), (29, .getfield 136), (32, .iload_n 1), (33, .aload_n 0), (34, .getfield 136), (37, .iload_n 1), (38, .iaload), (39, .ifCond .ge 10), (42, .aload_n 0), (43, .getfield 430), (46, .goto 31), (49, .aload_n 0), (50, .bipush 12), (52, .aload_n 0), (53, .getfield 136), (56, .iload_n 1), (57, .iaload), (58, .aload_n 0), (59, .getfield 430), (62, .iconst 0), (63, .aload_n 0), (64, .getfield 75), (67, .aload_n 0), (68, .getfield 136), (71, .iload_n 1), (72, .iaload), (73, .iaload), (74, .invokevirtual 451), (77, .iastore), (78, .aload_n 0), (79, .bipush 59), (81, .invokevirtual 345), (84, .ifCond .eq 27), (87, .aload_n 0), (88, .dup), (89, .getfield 330), (92, .iconst 1), (93, .iadd), (94, .putfield 330), (97, .aload_n 0), (98, .iconst 1), (99, .aload_n 0), (100, .getfield 133), (103, .iload_n 1), (104, .iaload), (105, .invokevirtual 433), (108, .goto 13), (111, .aload_n 0), (112, .aload_n 0), (113, .getfield 136), (116, .iload_n 1), (117, .iaload), (118, .invokevirtual 455), (121, .return_)]
set_option maxRecDepth 20000 in
theorem tb_e47 : ∀ q ∈ tb_d47, decode prog_14_method_36_code q.1 = .ok (q.2, mm_ln q.2) := by decide +kernel
-- 48 IndexedCompilerModel.newNode(IIIII)I
def tb_d48 : List (Nat × Instr) := [(0, .aload_n 0), (1, .getfield 358), (4, .istore 6), (6, .aload_n 0), (7, .dup), (8, .getfield 358), (11, .iconst 1), (12, .iadd), (13, .putfield 358), (16, .aload_n 0), (17, .getfield 57), (20, .iload 6), (22, .iload_n 1), (23, .iastore), (24, .aload_n 0), (25, .getfield 60), (28, .iload 6), (30, .iload_n 2), (31, .iastore), (32, .aload_n 0), (33, .getfield 63), (36, .iload 6), (38, .iload_n 3), (39, .iastore), (40, .aload_n 0), (41, .getfield 66), (44, .iload 6), (46, .iload 4), (48, .iastore), (49, .aload_n 0), (50, .getfield 69), (53, .iload 6), (55, .iconst 0), (56, .iastore), (57, .aload_n 0), (58, .getfield 72), (61, .iload 6), (63, .iconst 0), (64, .iastore), (65, .aload_n 0), (66, .getfield 75), (69, .iload 6), (71, .iload 5), (73, .iastore), (74, .aload_n 0), (75, .getfield 78), (78, .iload 6), (80, .iconst 0), (81, .bastore), (82, .iload 6), (84, .ireturn)]
set_option maxRecDepth 20000 in
theorem tb_e48 : ∀ q ∈ tb_d48, decode prog_14_method_22_code q.1 = .ok (q.2, mm_ln q.2) := by decide +kernel
-- 49 IndexedCompilerModel.give(I)V
def tb_d49 : List (Nat × Instr) := [(0, .aload_n 0), (1, .iload_n 1), (2, .putfield 430), (5, .aload_n 0), (6, .dup), (7, .getfield 427), (10, .iconst 1), (11, .isub), (12, .putfield 427), (15, .return_)]
set_option maxRecDepth 20000 in
theorem tb_e49 : ∀ q ∈ tb_d49, decode prog_14_method_34_code q.1 = .ok (q.2, mm_ln q.2) := by decide +kernel
-- 50 IndexedCompilerModel.goStep(I)V
def tb_d50_0 : List (Nat × Instr) := [(0, .aload_n 0), (1, .getfield 133), (4, .iload_n 1), (5, .iaload), (6, .istore_n 2), (7, .aload_n 0), (8, .getfield 130), (11, .iload_n 1), (12, .iaload), (60, .aload_n 0), (61, .sipush 8903), (64, .invokevirtual 351), (67, .ifCond .eq 62), (70, .aload_n 0), (71, .dup), (72, .getfield 330), (75, .iconst 1), (76, .iadd), (77, .putfield 330), (80, .aload_n 0), (81, .getfield 142)]
set_option maxRecDepth 20000 in
theorem tb_e50_0 : ∀ q ∈ tb_d50_0, decode prog_14_method_37_code q.1 = .ok (q.2, mm_ln q.2) := by decide +kernel
def tb_d50_1 : List (Nat × Instr) := [(84, .iload_n 1), (85, .aload_n 0), (86, .getfield 17), (89, .aload_n 0), (90, .getfield 330), (93, .iaload), (94, .iastore), (95, .aload_n 0), (96, .getfield 139), (99, .iload_n 1), (100, .aload_n 0), (101, .invokevirtual 364), (104, .iastore), (105, .aload_n 0), (106, .bipush 61), (108, .invokevirtual 390), (111, .aload_n 0), (112, .getfield 130), (115, .iload_n 1), (116, .iconst 1), (117, .iastore)]
set_option maxRecDepth 20000 in
theorem tb_e50_1 : ∀ q ∈ tb_d50_1, decode prog_14_method_37_code q.1 = .ok (q.2, mm_ln q.2) := by decide +kernel
def tb_d50_2 : List (Nat × Instr) := [(118, .aload_n 0), (119, .iconst 1), (120, .iload_n 2), (121, .iconst 1), (122, .iadd), (123, .invokevirtual 433), (126, .goto 433), (129, .aload_n 0), (130, .sipush 249), (133, .invokevirtual 351), (136, .ifCond .eq 29), (139, .aload_n 0), (140, .dup), (141, .getfield 330), (144, .iconst 1), (145, .iadd), (146, .putfield 330), (149, .aload_n 0), (150, .getfield 130), (153, .iload_n 1), (154, .iconst 3)]
set_option maxRecDepth 20000 in
theorem tb_e50_2 : ∀ q ∈ tb_d50_2, decode prog_14_method_37_code q.1 = .ok (q.2, mm_ln q.2) := by decide +kernel
def tb_d50_3 : List (Nat × Instr) := [(155, .iastore), (156, .aload_n 0), (157, .iconst 2), (158, .iload_n 2), (159, .invokevirtual 433), (162, .goto 397), (165, .aload_n 0), (166, .getfield 130), (169, .iload_n 1), (170, .bipush 7), (172, .iastore), (173, .aload_n 0), (174, .iconst 2), (175, .iload_n 2), (176, .invokevirtual 433), (179, .goto 380), (182, .aload_n 0), (183, .getfield 136), (186, .iload_n 1), (187, .aload_n 0), (188, .getfield 430)]
set_option maxRecDepth 20000 in
theorem tb_e50_3 : ∀ q ∈ tb_d50_3, decode prog_14_method_37_code q.1 = .ok (q.2, mm_ln q.2) := by decide +kernel
def tb_d50_4 : List (Nat × Instr) := [(191, .iastore), (192, .aload_n 0), (193, .sipush 257), (196, .invokevirtual 415), (199, .aload_n 0), (200, .getfield 130), (203, .iload_n 1), (204, .iconst 2), (205, .iastore), (206, .aload_n 0), (207, .iconst 0), (208, .iload_n 2), (209, .iconst 1), (210, .iadd), (211, .invokevirtual 433), (214, .goto 345), (217, .aload_n 0), (218, .bipush 13), (220, .aload_n 0), (221, .getfield 139), (224, .iload_n 1)]
set_option maxRecDepth 20000 in
theorem tb_e50_4 : ∀ q ∈ tb_d50_4, decode prog_14_method_37_code q.1 = .ok (q.2, mm_ln q.2) := by decide +kernel
def tb_d50_5 : List (Nat × Instr) := [(225, .iaload), (226, .aload_n 0), (227, .getfield 136), (230, .iload_n 1), (231, .iaload), (232, .aload_n 0), (233, .getfield 430), (236, .aload_n 0), (237, .getfield 148), (240, .iload_n 1), (241, .iaload), (242, .invokevirtual 451), (245, .istore_n 3), (246, .aload_n 0), (247, .getfield 69), (250, .iload_n 3), (251, .aload_n 0), (252, .getfield 142), (255, .iload_n 1), (256, .iaload), (257, .iastore)]
set_option maxRecDepth 20000 in
theorem tb_e50_5 : ∀ q ∈ tb_d50_5, decode prog_14_method_37_code q.1 = .ok (q.2, mm_ln q.2) := by decide +kernel
def tb_d50_6 : List (Nat × Instr) := [(258, .aload_n 0), (259, .iload_n 3), (260, .invokevirtual 455), (263, .goto 296), (266, .aload_n 0), (267, .getfield 136), (270, .iload_n 1), (271, .aload_n 0), (272, .getfield 430), (275, .iastore), (276, .aload_n 0), (277, .getfield 139), (280, .iload_n 1), (281, .aload_n 0), (282, .invokevirtual 381), (285, .iastore), (286, .aload_n 0), (287, .getfield 130), (290, .iload_n 1), (291, .iconst 4), (292, .iastore)]
set_option maxRecDepth 20000 in
theorem tb_e50_6 : ∀ q ∈ tb_d50_6, decode prog_14_method_37_code q.1 = .ok (q.2, mm_ln q.2) := by decide +kernel
def tb_d50_7 : List (Nat × Instr) := [(293, .aload_n 0), (294, .iconst 2), (295, .iload_n 2), (296, .invokevirtual 433), (299, .goto 260), (302, .aload_n 0), (303, .getfield 142), (306, .iload_n 1), (307, .aload_n 0), (308, .getfield 430), (311, .iastore), (312, .aload_n 0), (313, .ldc_w 337), (316, .invokevirtual 415), (319, .aload_n 0), (320, .getfield 130), (323, .iload_n 1), (324, .iconst 5), (325, .iastore), (326, .aload_n 0), (327, .iconst 0)]
set_option maxRecDepth 20000 in
theorem tb_e50_7 : ∀ q ∈ tb_d50_7, decode prog_14_method_37_code q.1 = .ok (q.2, mm_ln q.2) := by decide +kernel
def tb_d50_8 : List (Nat × Instr) := [(328, .iload_n 2), (329, .iconst 1), (330, .iadd), (331, .invokevirtual 433), (334, .goto 225), (337, .aload_n 0), (338, .getfield 145), (341, .iload_n 1), (342, .aload_n 0), (343, .getfield 430), (346, .iastore), (347, .aload_n 0), (348, .ldc_w 338), (351, .invokevirtual 415), (354, .aload_n 0), (355, .getfield 130), (358, .iload_n 1), (359, .bipush 6), (361, .iastore), (362, .aload_n 0), (363, .iconst 0)]
set_option maxRecDepth 20000 in
theorem tb_e50_8 : ∀ q ∈ tb_d50_8, decode prog_14_method_37_code q.1 = .ok (q.2, mm_ln q.2) := by decide +kernel
def tb_d50_9 : List (Nat × Instr) := [(364, .iload_n 2), (365, .iconst 1), (366, .iadd), (367, .invokevirtual 433), (370, .goto 189), (373, .aload_n 0), (374, .sipush 4027), (377, .invokevirtual 415), (380, .aload_n 0), (381, .bipush 14), (383, .aload_n 0), (384, .getfield 139), (387, .iload_n 1), (388, .iaload), (389, .aload_n 0), (390, .getfield 136), (393, .iload_n 1), (394, .iaload), (395, .aload_n 0), (396, .getfield 142), (399, .iload_n 1)]
set_option maxRecDepth 20000 in
theorem tb_e50_9 : ∀ q ∈ tb_d50_9, decode prog_14_method_37_code q.1 = .ok (q.2, mm_ln q.2) := by decide +kernel
def tb_d50_10 : List (Nat × Instr) := [(400, .iaload), (401, .aload_n 0), (402, .getfield 148), (405, .iload_n 1), (406, .iaload), (407, .invokevirtual 451), (410, .istore 4), (412, .aload_n 0), (413, .getfield 69), (416, .iload 4), (418, .aload_n 0), (419, .getfield 145), (422, .iload_n 1), (423, .iaload), (424, .iastore), (425, .aload_n 0), (426, .getfield 72), (429, .iload 4), (431, .aload_n 0), (432, .getfield 430), (435, .iastore)]
set_option maxRecDepth 20000 in
theorem tb_e50_10 : ∀ q ∈ tb_d50_10, decode prog_14_method_37_code q.1 = .ok (q.2, mm_ln q.2) := by decide +kernel
def tb_d50_11 : List (Nat × Instr) := [(436, .aload_n 0), (437, .iload 4), (439, .invokevirtual 455), (442, .goto 117), (445, .aload_n 0), (446, .sipush 130), (449, .invokevirtual 345), (452, .ifCond .eq 55), (455, .aload_n 0), (456, .getfield 57), (459, .aload_n 0), (460, .getfield 430), (463, .iaload), (464, .iconst 2), (465, .if_icmp .ne 42), (468, .aload_n 0), (469, .dup), (470, .getfield 330), (473, .iconst 1), (474, .iadd), (475, .putfield 330)]
set_option maxRecDepth 20000 in
theorem tb_e50_11 : ∀ q ∈ tb_d50_11, decode prog_14_method_37_code q.1 = .ok (q.2, mm_ln q.2) := by decide +kernel
def tb_d50_12 : List (Nat × Instr) := [(478, .aload_n 0), (479, .getfield 136), (482, .iload_n 1), (483, .aload_n 0), (484, .getfield 430), (487, .iastore), (488, .aload_n 0), (489, .getfield 130), (492, .iload_n 1), (493, .bipush 8), (495, .iastore), (496, .aload_n 0), (497, .iconst 1), (498, .iload_n 2), (499, .iconst 1), (500, .iadd), (501, .invokevirtual 433), (504, .goto 55), (507, .aload_n 0), (508, .aload_n 0), (509, .getfield 430)]
set_option maxRecDepth 20000 in
theorem tb_e50_12 : ∀ q ∈ tb_d50_12, decode prog_14_method_37_code q.1 = .ok (q.2, mm_ln q.2) := by decide +kernel
def tb_d50_13 : List (Nat × Instr) := [(512, .invokevirtual 455), (515, .goto 44), (518, .aload_n 0), (519, .aload_n 0), (520, .iconst 3), (521, .aload_n 0), (522, .getfield 60), (525, .aload_n 0), (526, .getfield 136), (529, .iload_n 1), (530, .iaload), (531, .iaload), (532, .aload_n 0), (533, .getfield 63), (536, .aload_n 0), (537, .getfield 136), (540, .iload_n 1), (541, .iaload), (542, .iaload), (543, .aload_n 0), (544, .getfield 430)]
set_option maxRecDepth 20000 in
theorem tb_e50_13 : ∀ q ∈ tb_d50_13, decode prog_14_method_37_code q.1 = .ok (q.2, mm_ln q.2) := by decide +kernel
def tb_d50_14 : List (Nat × Instr) := [(547, .aload_n 0), (548, .getfield 148), (551, .iload_n 1), (552, .iaload), (553, .invokevirtual 451), (556, .invokevirtual 455), (559, .return_)]
set_option maxRecDepth 20000 in
theorem tb_e50_14 : ∀ q ∈ tb_d50_14, decode prog_14_method_37_code q.1 = .ok (q.2, mm_ln q.2) := by decide +kernel
def tb_d50 : List (Nat × Instr) := tb_d50_0 ++ (tb_d50_1 ++ (tb_d50_2 ++ (tb_d50_3 ++ (tb_d50_4 ++ (tb_d50_5 ++ (tb_d50_6 ++ (tb_d50_7 ++ (tb_d50_8 ++ (tb_d50_9 ++ (tb_d50_10 ++ (tb_d50_11 ++ (tb_d50_12 ++ (tb_d50_13 ++ (tb_d50_14))))))))))))))
theorem tb_e50 : ∀ q ∈ tb_d50, decode prog_14_method_37_code q.1 = .ok (q.2, mm_ln q.2) := List.forall_mem_append.mpr ⟨tb_e50_0, List.forall_mem_append.mpr ⟨tb_e50_1, List.forall_mem_append.mpr ⟨tb_e50_2, List.forall_mem_append.mpr ⟨tb_e50_3, List.forall_mem_append.mpr ⟨tb_e50_4, List.forall_mem_append.mpr ⟨tb_e50_5, List.forall_mem_append.mpr ⟨tb_e50_6, List.forall_mem_append.mpr ⟨tb_e50_7, List.forall_mem_append.mpr ⟨tb_e50_8, List.forall_mem_append.mpr ⟨tb_e50_9, List.forall_mem_append.mpr ⟨tb_e50_10, List.forall_mem_append.mpr ⟨tb_e50_11, List.forall_mem_append.mpr ⟨tb_e50_12, List.forall_mem_append.mpr ⟨tb_e50_13, tb_e50_14⟩⟩⟩⟩⟩⟩⟩⟩⟩⟩⟩⟩⟩⟩
