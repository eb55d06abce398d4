/-! THE LAW, as a method of the abstract machine -/
section LEQ
variable {G : vm_G} {d : Nat} {M : vm_Me} {pc : Nat} {al : List (Option vm_V)} {st : List vm_V} {mem : vm_M} {Q : vm_M → Option vm_V → Prop}
theorem ex_icmp_eqT {x_ : List Nat} {off : Int} {a b : Int} (tgt : Nat) (i_ : Nat) (hc : vm_nth M.code i_ = some (pc, .if_icmp .eq off, 3, x_)) (ht : (pc : Int) + off = (tgt : Int)) (he : a = b) (kt : vm_ex G d M tgt al st mem Q) : vm_ex G d M pc al (.inl b :: .inl a :: st) mem Q := by
  intro ok p e R s m args below meth c A cells slots Z Cx H locs ls hH hl hret
  obtain ⟨hx, hb, hml, hown, hts, hnn, hR, hK, hA, hO⟩ := id Cx
  have hdg := vm_dec ok hc
  simp only [List.map_cons, vm_cv]
  refine lv_icmp_eq hx hb hdg ht (fun h1 => ?_) (fun h1 => ?_)
  · exact kt ok p e R s m args below meth c A cells slots Z Cx H locs ls hH hl hret
  · exact absurd (by rw [he]) h1
end LEQ
def lwR0 : List vm_En := [(0, .new 7, 3, []), (3, .dup, 1, []), (4, .invokespecial 9, 3, []), (7, .astore_n 1, 1, []), (8, .new 10, 3, []), (11, .dup, 1, []), (12, .invokespecial 12, 3, []), (15, .astore_n 2, 1, []), (16, .iconst 0, 1, []), (17, .istore_n 3, 1, []), (18, .iload_n 3, 1, []), (19, .aload_n 0, 1, []), (20, .arraylength, 1, []), (21, .bipush 7, 2, []), (23, .isub, 1, []), (24, .if_icmp .gt 731, 3, []), (27, .aload_n 0, 1, []), (28, .iload_n 3, 1, []), (29, .iaload, 1, []), (30, .bipush 31, 2, []), (32, .iand, 1, []), (33, .tableswitch 716 0 20 #[99, 122, 197, 220, 253, 276, 289, 332, 365, 398, 421, 496, 509, 552, 565, 618, 631, 644, 657, 670, 693], 99, []), (132, .aload_n 1, 1, []), (133, .aload_n 0, 1, []), (134, .iload_n 3, 1, []), (135, .iconst 1, 1, []), (136, .iadd, 1, []), (137, .iaload, 1, []), (138, .invokevirtual 13, 3, []), (141, .aload_n 2, 1, []), (142, .aload_n 0, 1, []), (143, .iload_n 3, 1, []), (144, .iconst 1, 1, []), (145, .iadd, 1, []), (146, .iaload, 1, []), (147, .invokevirtual 17, 3, []), (150, .if_icmp .eq 599, 3, []), (153, .iconst 0, 1, []), (154, .ireturn, 1, []), (155, .aload_n 1, 1, []), (156, .aload_n 0, 1, []), (157, .iload_n 3, 1, []), (158, .iconst 1, 1, []), (159, .iadd, 1, []), (160, .iaload, 1, []), (161, .aload_n 0, 1, []), (162, .iload_n 3, 1, []), (163, .iconst 2, 1, []), (164, .iadd, 1, []), (165, .iaload, 1, []), (166, .aload_n 0, 1, []), (167, .iload_n 3, 1, []), (168, .iconst 3, 1, []), (169, .iadd, 1, []), (170, .iaload, 1, []), (171, .aload_n 0, 1, []), (172, .iload_n 3, 1, []), (173, .iconst 4, 1, []), (174, .iadd, 1, []), (175, .iaload, 1, [])]
def lwR1 : List vm_En := [(176, .aload_n 0, 1, []), (177, .iload_n 3, 1, []), (178, .iconst 5, 1, []), (179, .iadd, 1, []), (180, .iaload, 1, []), (181, .aload_n 0, 1, []), (182, .iload_n 3, 1, []), (183, .bipush 6, 2, []), (185, .iadd, 1, []), (186, .iaload, 1, []), (187, .invokevirtual 18, 3, []), (190, .aload_n 2, 1, []), (191, .aload_n 0, 1, []), (192, .iload_n 3, 1, []), (193, .iconst 1, 1, []), (194, .iadd, 1, []), (195, .iaload, 1, []), (196, .aload_n 0, 1, []), (197, .iload_n 3, 1, []), (198, .iconst 2, 1, []), (199, .iadd, 1, []), (200, .iaload, 1, []), (201, .aload_n 0, 1, []), (202, .iload_n 3, 1, []), (203, .iconst 3, 1, []), (204, .iadd, 1, []), (205, .iaload, 1, []), (206, .aload_n 0, 1, []), (207, .iload_n 3, 1, []), (208, .iconst 4, 1, []), (209, .iadd, 1, []), (210, .iaload, 1, []), (211, .aload_n 0, 1, []), (212, .iload_n 3, 1, []), (213, .iconst 5, 1, []), (214, .iadd, 1, []), (215, .iaload, 1, []), (216, .aload_n 0, 1, []), (217, .iload_n 3, 1, []), (218, .bipush 6, 2, []), (220, .iadd, 1, []), (221, .iaload, 1, []), (222, .invokevirtual 22, 3, []), (225, .if_icmp .eq 524, 3, []), (228, .iconst 0, 1, []), (229, .ireturn, 1, []), (230, .aload_n 1, 1, []), (231, .aload_n 0, 1, []), (232, .iload_n 3, 1, []), (233, .iconst 1, 1, []), (234, .iadd, 1, []), (235, .iaload, 1, []), (236, .invokevirtual 23, 3, []), (239, .aload_n 2, 1, []), (240, .aload_n 0, 1, []), (241, .iload_n 3, 1, []), (242, .iconst 1, 1, []), (243, .iadd, 1, []), (244, .iaload, 1, []), (245, .invokevirtual 26, 3, [])]
def lwR2 : List vm_En := [(248, .if_icmp .eq 501, 3, []), (251, .iconst 0, 1, []), (252, .ireturn, 1, []), (253, .aload_n 1, 1, []), (254, .aload_n 0, 1, []), (255, .iload_n 3, 1, []), (256, .iconst 1, 1, []), (257, .iadd, 1, []), (258, .iaload, 1, []), (259, .aload_n 0, 1, []), (260, .iload_n 3, 1, []), (261, .iconst 2, 1, []), (262, .iadd, 1, []), (263, .iaload, 1, []), (264, .invokevirtual 27, 3, []), (267, .aload_n 2, 1, []), (268, .aload_n 0, 1, []), (269, .iload_n 3, 1, []), (270, .iconst 1, 1, []), (271, .iadd, 1, []), (272, .iaload, 1, []), (273, .aload_n 0, 1, []), (274, .iload_n 3, 1, []), (275, .iconst 2, 1, []), (276, .iadd, 1, []), (277, .iaload, 1, []), (278, .invokevirtual 31, 3, []), (281, .if_icmp .eq 468, 3, []), (284, .iconst 0, 1, []), (285, .ireturn, 1, []), (286, .aload_n 1, 1, []), (287, .aload_n 0, 1, []), (288, .iload_n 3, 1, []), (289, .iconst 1, 1, []), (290, .iadd, 1, []), (291, .iaload, 1, []), (292, .invokevirtual 32, 3, []), (295, .aload_n 2, 1, []), (296, .aload_n 0, 1, []), (297, .iload_n 3, 1, []), (298, .iconst 1, 1, []), (299, .iadd, 1, []), (300, .iaload, 1, []), (301, .invokevirtual 35, 3, []), (304, .if_icmp .eq 445, 3, []), (307, .iconst 0, 1, []), (308, .ireturn, 1, []), (309, .aload_n 1, 1, []), (310, .invokevirtual 36, 3, []), (313, .aload_n 2, 1, []), (314, .invokevirtual 40, 3, []), (317, .if_icmp .eq 432, 3, []), (320, .iconst 0, 1, []), (321, .ireturn, 1, []), (322, .aload_n 1, 1, []), (323, .aload_n 0, 1, []), (324, .iload_n 3, 1, []), (325, .iconst 1, 1, []), (326, .iadd, 1, []), (327, .iaload, 1, [])]
def lwR3 : List vm_En := [(328, .aload_n 0, 1, []), (329, .iload_n 3, 1, []), (330, .iconst 2, 1, []), (331, .iadd, 1, []), (332, .iaload, 1, []), (333, .aload_n 0, 1, []), (334, .iload_n 3, 1, []), (335, .iconst 3, 1, []), (336, .iadd, 1, []), (337, .iaload, 1, []), (338, .invokevirtual 41, 3, []), (341, .aload_n 2, 1, []), (342, .aload_n 0, 1, []), (343, .iload_n 3, 1, []), (344, .iconst 1, 1, []), (345, .iadd, 1, []), (346, .iaload, 1, []), (347, .aload_n 0, 1, []), (348, .iload_n 3, 1, []), (349, .iconst 2, 1, []), (350, .iadd, 1, []), (351, .iaload, 1, []), (352, .aload_n 0, 1, []), (353, .iload_n 3, 1, []), (354, .iconst 3, 1, []), (355, .iadd, 1, []), (356, .iaload, 1, []), (357, .invokevirtual 45, 3, []), (360, .if_icmp .eq 389, 3, []), (363, .iconst 0, 1, []), (364, .ireturn, 1, []), (365, .aload_n 1, 1, []), (366, .aload_n 0, 1, []), (367, .iload_n 3, 1, []), (368, .iconst 1, 1, []), (369, .iadd, 1, []), (370, .iaload, 1, []), (371, .aload_n 0, 1, []), (372, .iload_n 3, 1, []), (373, .iconst 2, 1, []), (374, .iadd, 1, []), (375, .iaload, 1, []), (376, .invokevirtual 46, 3, []), (379, .aload_n 2, 1, []), (380, .aload_n 0, 1, []), (381, .iload_n 3, 1, []), (382, .iconst 1, 1, []), (383, .iadd, 1, []), (384, .iaload, 1, []), (385, .aload_n 0, 1, []), (386, .iload_n 3, 1, []), (387, .iconst 2, 1, []), (388, .iadd, 1, []), (389, .iaload, 1, []), (390, .invokevirtual 49, 3, []), (393, .if_icmp .eq 356, 3, []), (396, .iconst 0, 1, []), (397, .ireturn, 1, []), (398, .aload_n 1, 1, []), (399, .aload_n 0, 1, [])]
def lwR4 : List vm_En := [(400, .iload_n 3, 1, []), (401, .iconst 1, 1, []), (402, .iadd, 1, []), (403, .iaload, 1, []), (404, .aload_n 0, 1, []), (405, .iload_n 3, 1, []), (406, .iconst 2, 1, []), (407, .iadd, 1, []), (408, .iaload, 1, []), (409, .invokevirtual 50, 3, []), (412, .aload_n 2, 1, []), (413, .aload_n 0, 1, []), (414, .iload_n 3, 1, []), (415, .iconst 1, 1, []), (416, .iadd, 1, []), (417, .iaload, 1, []), (418, .aload_n 0, 1, []), (419, .iload_n 3, 1, []), (420, .iconst 2, 1, []), (421, .iadd, 1, []), (422, .iaload, 1, []), (423, .invokevirtual 53, 3, []), (426, .if_icmp .eq 323, 3, []), (429, .iconst 0, 1, []), (430, .ireturn, 1, []), (431, .aload_n 1, 1, []), (432, .aload_n 0, 1, []), (433, .iload_n 3, 1, []), (434, .iconst 1, 1, []), (435, .iadd, 1, []), (436, .iaload, 1, []), (437, .invokevirtual 54, 3, []), (440, .aload_n 2, 1, []), (441, .aload_n 0, 1, []), (442, .iload_n 3, 1, []), (443, .iconst 1, 1, []), (444, .iadd, 1, []), (445, .iaload, 1, []), (446, .invokevirtual 57, 3, []), (449, .if_icmp .eq 300, 3, []), (452, .iconst 0, 1, []), (453, .ireturn, 1, []), (454, .aload_n 1, 1, []), (455, .aload_n 0, 1, []), (456, .iload_n 3, 1, []), (457, .iconst 1, 1, []), (458, .iadd, 1, []), (459, .iaload, 1, []), (460, .aload_n 0, 1, []), (461, .iload_n 3, 1, []), (462, .iconst 2, 1, []), (463, .iadd, 1, []), (464, .iaload, 1, []), (465, .aload_n 0, 1, []), (466, .iload_n 3, 1, []), (467, .iconst 3, 1, []), (468, .iadd, 1, []), (469, .iaload, 1, []), (470, .aload_n 0, 1, []), (471, .iload_n 3, 1, [])]
def lwR5 : List vm_En := [(472, .iconst 4, 1, []), (473, .iadd, 1, []), (474, .iaload, 1, []), (475, .aload_n 0, 1, []), (476, .iload_n 3, 1, []), (477, .iconst 5, 1, []), (478, .iadd, 1, []), (479, .iaload, 1, []), (480, .aload_n 0, 1, []), (481, .iload_n 3, 1, []), (482, .bipush 6, 2, []), (484, .iadd, 1, []), (485, .iaload, 1, []), (486, .invokevirtual 58, 3, []), (489, .aload_n 2, 1, []), (490, .aload_n 0, 1, []), (491, .iload_n 3, 1, []), (492, .iconst 1, 1, []), (493, .iadd, 1, []), (494, .iaload, 1, []), (495, .aload_n 0, 1, []), (496, .iload_n 3, 1, []), (497, .iconst 2, 1, []), (498, .iadd, 1, []), (499, .iaload, 1, []), (500, .aload_n 0, 1, []), (501, .iload_n 3, 1, []), (502, .iconst 3, 1, []), (503, .iadd, 1, []), (504, .iaload, 1, []), (505, .aload_n 0, 1, []), (506, .iload_n 3, 1, []), (507, .iconst 4, 1, []), (508, .iadd, 1, []), (509, .iaload, 1, []), (510, .aload_n 0, 1, []), (511, .iload_n 3, 1, []), (512, .iconst 5, 1, []), (513, .iadd, 1, []), (514, .iaload, 1, []), (515, .aload_n 0, 1, []), (516, .iload_n 3, 1, []), (517, .bipush 6, 2, []), (519, .iadd, 1, []), (520, .iaload, 1, []), (521, .invokevirtual 61, 3, []), (524, .if_icmp .eq 225, 3, []), (527, .iconst 0, 1, []), (528, .ireturn, 1, []), (529, .aload_n 1, 1, []), (530, .invokevirtual 62, 3, []), (533, .aload_n 2, 1, []), (534, .invokevirtual 65, 3, []), (537, .if_icmp .eq 212, 3, []), (540, .iconst 0, 1, []), (541, .ireturn, 1, []), (542, .aload_n 1, 1, []), (543, .aload_n 0, 1, []), (544, .iload_n 3, 1, []), (545, .iconst 1, 1, [])]
def lwR6 : List vm_En := [(546, .iadd, 1, []), (547, .iaload, 1, []), (548, .aload_n 0, 1, []), (549, .iload_n 3, 1, []), (550, .iconst 2, 1, []), (551, .iadd, 1, []), (552, .iaload, 1, []), (553, .aload_n 0, 1, []), (554, .iload_n 3, 1, []), (555, .iconst 3, 1, []), (556, .iadd, 1, []), (557, .iaload, 1, []), (558, .invokevirtual 66, 3, []), (561, .aload_n 2, 1, []), (562, .aload_n 0, 1, []), (563, .iload_n 3, 1, []), (564, .iconst 1, 1, []), (565, .iadd, 1, []), (566, .iaload, 1, []), (567, .aload_n 0, 1, []), (568, .iload_n 3, 1, []), (569, .iconst 2, 1, []), (570, .iadd, 1, []), (571, .iaload, 1, []), (572, .aload_n 0, 1, []), (573, .iload_n 3, 1, []), (574, .iconst 3, 1, []), (575, .iadd, 1, []), (576, .iaload, 1, []), (577, .invokevirtual 69, 3, []), (580, .if_icmp .eq 169, 3, []), (583, .iconst 0, 1, []), (584, .ireturn, 1, []), (585, .aload_n 1, 1, []), (586, .invokevirtual 70, 3, []), (589, .aload_n 2, 1, []), (590, .invokevirtual 73, 3, []), (593, .if_icmp .eq 156, 3, []), (596, .iconst 0, 1, []), (597, .ireturn, 1, []), (598, .aload_n 1, 1, []), (599, .aload_n 0, 1, []), (600, .iload_n 3, 1, []), (601, .iconst 1, 1, []), (602, .iadd, 1, []), (603, .iaload, 1, []), (604, .i2l, 1, []), (605, .bipush 32, 2, []), (607, .lshl, 1, []), (608, .aload_n 0, 1, []), (609, .iload_n 3, 1, []), (610, .iconst 2, 1, []), (611, .iadd, 1, []), (612, .iaload, 1, []), (613, .i2l, 1, []), (614, .ldc2_w 74, 3, []), (617, .land, 1, []), (618, .lor, 1, []), (619, .invokevirtual 76, 3, []), (622, .aload_n 2, 1, [])]
def lwR7 : List vm_En := [(623, .aload_n 0, 1, []), (624, .iload_n 3, 1, []), (625, .iconst 1, 1, []), (626, .iadd, 1, []), (627, .iaload, 1, []), (628, .i2l, 1, []), (629, .bipush 32, 2, []), (631, .lshl, 1, []), (632, .aload_n 0, 1, []), (633, .iload_n 3, 1, []), (634, .iconst 2, 1, []), (635, .iadd, 1, []), (636, .iaload, 1, []), (637, .i2l, 1, []), (638, .ldc2_w 74, 3, []), (641, .land, 1, []), (642, .lor, 1, []), (643, .invokevirtual 80, 3, []), (646, .if_icmp .eq 103, 3, []), (649, .iconst 0, 1, []), (650, .ireturn, 1, []), (651, .aload_n 1, 1, []), (652, .invokevirtual 81, 3, []), (655, .aload_n 2, 1, []), (656, .invokevirtual 84, 3, []), (659, .if_icmp .eq 90, 3, []), (662, .iconst 0, 1, []), (663, .ireturn, 1, []), (664, .aload_n 1, 1, []), (665, .invokevirtual 85, 3, []), (668, .aload_n 2, 1, []), (669, .invokevirtual 88, 3, []), (672, .if_icmp .eq 77, 3, []), (675, .iconst 0, 1, []), (676, .ireturn, 1, []), (677, .aload_n 1, 1, []), (678, .invokevirtual 89, 3, []), (681, .aload_n 2, 1, []), (682, .invokevirtual 92, 3, []), (685, .if_icmp .eq 64, 3, []), (688, .iconst 0, 1, []), (689, .ireturn, 1, []), (690, .aload_n 1, 1, []), (691, .invokevirtual 93, 3, []), (694, .aload_n 2, 1, []), (695, .invokevirtual 96, 3, []), (698, .if_icmp .eq 51, 3, []), (701, .iconst 0, 1, []), (702, .ireturn, 1, []), (703, .aload_n 1, 1, []), (704, .aload_n 0, 1, []), (705, .iload_n 3, 1, []), (706, .iconst 1, 1, []), (707, .iadd, 1, []), (708, .iaload, 1, []), (709, .invokevirtual 97, 3, []), (712, .aload_n 2, 1, []), (713, .aload_n 0, 1, []), (714, .iload_n 3, 1, []), (715, .iconst 1, 1, [])]
def lwR8 : List vm_En := [(716, .iadd, 1, []), (717, .iaload, 1, []), (718, .invokevirtual 100, 3, []), (721, .if_icmp .eq 28, 3, []), (724, .iconst 0, 1, []), (725, .ireturn, 1, []), (726, .aload_n 1, 1, []), (727, .aload_n 0, 1, []), (728, .iload_n 3, 1, []), (729, .iconst 1, 1, []), (730, .iadd, 1, []), (731, .iaload, 1, []), (732, .invokevirtual 101, 3, []), (735, .aload_n 2, 1, []), (736, .aload_n 0, 1, []), (737, .iload_n 3, 1, []), (738, .iconst 1, 1, []), (739, .iadd, 1, []), (740, .iaload, 1, []), (741, .invokevirtual 104, 3, []), (744, .if_icmp .eq 5, 3, []), (747, .iconst 0, 1, []), (748, .ireturn, 1, []), (749, .iinc 3 7, 3, []), (752, .goto (-734), 3, []), (755, .iconst 1, 1, []), (756, .ireturn, 1, [])]
def mL_law : vm_Me := (yL_law, cL_law, 4, (some .boolean), lwR0 ++ (lwR1 ++ (lwR2 ++ (lwR3 ++ (lwR4 ++ (lwR5 ++ (lwR6 ++ (lwR7 ++ (lwR8)))))))))
theorem ok_lwR0 : lwR0.all (fun e => decide (decode cL_law e.1 = .ok (e.2.1, e.2.2.1))) = true := by decide +kernel
theorem ok_lwR1 : lwR1.all (fun e => decide (decode cL_law e.1 = .ok (e.2.1, e.2.2.1))) = true := by decide +kernel
theorem ok_lwR2 : lwR2.all (fun e => decide (decode cL_law e.1 = .ok (e.2.1, e.2.2.1))) = true := by decide +kernel
theorem ok_lwR3 : lwR3.all (fun e => decide (decode cL_law e.1 = .ok (e.2.1, e.2.2.1))) = true := by decide +kernel
theorem ok_lwR4 : lwR4.all (fun e => decide (decode cL_law e.1 = .ok (e.2.1, e.2.2.1))) = true := by decide +kernel
theorem ok_lwR5 : lwR5.all (fun e => decide (decode cL_law e.1 = .ok (e.2.1, e.2.2.1))) = true := by decide +kernel
theorem ok_lwR6 : lwR6.all (fun e => decide (decode cL_law e.1 = .ok (e.2.1, e.2.2.1))) = true := by decide +kernel
theorem ok_lwR7 : lwR7.all (fun e => decide (decode cL_law e.1 = .ok (e.2.1, e.2.2.1))) = true := by decide +kernel
theorem ok_lwR8 : lwR8.all (fun e => decide (decode cL_law e.1 = .ok (e.2.1, e.2.2.1))) = true := by decide +kernel
theorem okL_law : vm_okM mL_law := vm_okM_of (by
  show (lwR0 ++ (lwR1 ++ (lwR2 ++ (lwR3 ++ (lwR4 ++ (lwR5 ++ (lwR6 ++ (lwR7 ++ (lwR8))))))))).all (fun e => decide (decode cL_law e.1 = .ok (e.2.1, e.2.2.1))) = true
  simp only [List.all_append, ok_lwR0, ok_lwR1, ok_lwR2, ok_lwR3, ok_lwR4, ok_lwR5, ok_lwR6, ok_lwR7, ok_lwR8, Bool.and_self])
set_option maxRecDepth 20000 in
set_option maxHeartbeats 4000000 in
theorem qL_law_18 {G : vm_G} {d : Nat} {v3 : Int} {mem : vm_M} {Q : vm_M → Bool → Prop} (h : (vm_R v3) ∧ (vm_R ((G.len 39 : Int) - 7)) ∧ ((((G.len 39 : Int) - 7) < v3 → Q mem true) ∧ (¬ ((G.len 39 : Int) - 7) < v3 → (0 ≤ v3 ∧ v3 < (G.len 39 : Int)) ∧ (vm_R (vm_and (G.rom 39 v3) 31)) ∧ (((vm_and (G.rom 39 v3) 31) = 0 → (0 ≤ (v3 + 1) ∧ (v3 + 1) < (G.len 39 : Int)) ∧ vm_ci G d mX7_most [.inr (.inr 0), .inl (G.rom 39 (v3 + 1))] mem (fun m6 r7 => vm_ci G d mX8_most [.inr (.inr 24), .inl (G.rom 39 (v3 + 1))] m6 (fun m8 r9 => (r7 = r9 ∧ vm_ex G (d + 1) mL_law 18 [some (.inr (.inr 39)), some (.inr (.inr 0)), some (.inr (.inr 24)), some (.inl (v3 + 7))] [] m8 (vm_qb Q))))) ∧ ((vm_and (G.rom 39 v3) 31) = 1 → (0 ≤ (v3 + 1) ∧ (v3 + 1) < (G.len 39 : Int)) ∧ (0 ≤ (v3 + 2) ∧ (v3 + 2) < (G.len 39 : Int)) ∧ (0 ≤ (v3 + 3) ∧ (v3 + 3) < (G.len 39 : Int)) ∧ (0 ≤ (v3 + 4) ∧ (v3 + 4) < (G.len 39 : Int)) ∧ (0 ≤ (v3 + 5) ∧ (v3 + 5) < (G.len 39 : Int)) ∧ (0 ≤ (v3 + 6) ∧ (v3 + 6) < (G.len 39 : Int)) ∧ vm_ci G d mX7_fact [.inr (.inr 0), .inl (G.rom 39 (v3 + 1)), .inl (G.rom 39 (v3 + 2)), .inl (G.rom 39 (v3 + 3)), .inl (G.rom 39 (v3 + 4)), .inl (G.rom 39 (v3 + 5)), .inl (G.rom 39 (v3 + 6))] mem (fun m16 r17 => vm_ci G d mX8_fact [.inr (.inr 24), .inl (G.rom 39 (v3 + 1)), .inl (G.rom 39 (v3 + 2)), .inl (G.rom 39 (v3 + 3)), .inl (G.rom 39 (v3 + 4)), .inl (G.rom 39 (v3 + 5)), .inl (G.rom 39 (v3 + 6))] m16 (fun m18 r19 => (r17 = r19 ∧ vm_ex G (d + 1) mL_law 18 [some (.inr (.inr 39)), some (.inr (.inr 0)), some (.inr (.inr 24)), some (.inl (v3 + 7))] [] m18 (vm_qb Q))))) ∧ ((vm_and (G.rom 39 v3) 31) = 2 → (0 ≤ (v3 + 1) ∧ (v3 + 1) < (G.len 39 : Int)) ∧ vm_ci G d mX7_drop [.inr (.inr 0), .inl (G.rom 39 (v3 + 1))] mem (fun m21 r22 => vm_ci G d mX8_drop [.inr (.inr 24), .inl (G.rom 39 (v3 + 1))] m21 (fun m23 r24 => (r22 = r24 ∧ vm_ex G (d + 1) mL_law 18 [some (.inr (.inr 39)), some (.inr (.inr 0)), some (.inr (.inr 24)), some (.inl (v3 + 7))] [] m23 (vm_qb Q))))) ∧ ((vm_and (G.rom 39 v3) 31) = 3 → (0 ≤ (v3 + 1) ∧ (v3 + 1) < (G.len 39 : Int)) ∧ (0 ≤ (v3 + 2) ∧ (v3 + 2) < (G.len 39 : Int)) ∧ vm_ci G d mX7_ofFact [.inr (.inr 0), .inl (G.rom 39 (v3 + 1)), .inl (G.rom 39 (v3 + 2))] mem (fun m27 r28 => vm_ci G d mX8_ofFact [.inr (.inr 24), .inl (G.rom 39 (v3 + 1)), .inl (G.rom 39 (v3 + 2))] m27 (fun m29 r30 => (r28 = r30 ∧ vm_ex G (d + 1) mL_law 18 [some (.inr (.inr 39)), some (.inr (.inr 0)), some (.inr (.inr 24)), some (.inl (v3 + 7))] [] m29 (vm_qb Q))))) ∧ ((vm_and (G.rom 39 v3) 31) = 4 → (0 ≤ (v3 + 1) ∧ (v3 + 1) < (G.len 39 : Int)) ∧ vm_ci G d mX7_count [.inr (.inr 0), .inl (G.rom 39 (v3 + 1))] mem (fun m32 r33 => vm_ci G d mX8_count [.inr (.inr 24), .inl (G.rom 39 (v3 + 1))] m32 (fun m34 r35 => (r33 = r35 ∧ vm_ex G (d + 1) mL_law 18 [some (.inr (.inr 39)), some (.inr (.inr 0)), some (.inr (.inr 24)), some (.inl (v3 + 7))] [] m34 (vm_qb Q))))) ∧ ((vm_and (G.rom 39 v3) 31) = 5 → vm_ci G d mX7_isPossible [.inr (.inr 0)] mem (fun m36 r37 => vm_ci G d mX8_isPossible [.inr (.inr 24)] m36 (fun m38 r39 => (r37 = r39 ∧ vm_ex G (d + 1) mL_law 18 [some (.inr (.inr 39)), some (.inr (.inr 0)), some (.inr (.inr 24)), some (.inl (v3 + 7))] [] m38 (vm_qb Q))))) ∧ ((vm_and (G.rom 39 v3) 31) = 6 → (0 ≤ (v3 + 1) ∧ (v3 + 1) < (G.len 39 : Int)) ∧ (0 ≤ (v3 + 2) ∧ (v3 + 2) < (G.len 39 : Int)) ∧ (0 ≤ (v3 + 3) ∧ (v3 + 3) < (G.len 39 : Int)) ∧ vm_ci G d mX7_bound [.inr (.inr 0), .inl (G.rom 39 (v3 + 1)), .inl (G.rom 39 (v3 + 2)), .inl (G.rom 39 (v3 + 3))] mem (fun m43 r44 => vm_ci G d mX8_bound [.inr (.inr 24), .inl (G.rom 39 (v3 + 1)), .inl (G.rom 39 (v3 + 2)), .inl (G.rom 39 (v3 + 3))] m43 (fun m45 r46 => (r44 = r46 ∧ vm_ex G (d + 1) mL_law 18 [some (.inr (.inr 39)), some (.inr (.inr 0)), some (.inr (.inr 24)), some (.inl (v3 + 7))] [] m45 (vm_qb Q))))) ∧ ((vm_and (G.rom 39 v3) 31) = 7 → (0 ≤ (v3 + 1) ∧ (v3 + 1) < (G.len 39 : Int)) ∧ (0 ≤ (v3 + 2) ∧ (v3 + 2) < (G.len 39 : Int)) ∧ vm_ci G d mX7_sizeOf [.inr (.inr 0), .inl (G.rom 39 (v3 + 1)), .inl (G.rom 39 (v3 + 2))] mem (fun m49 r50 => vm_ci G d mX8_sizeOf [.inr (.inr 24), .inl (G.rom 39 (v3 + 1)), .inl (G.rom 39 (v3 + 2))] m49 (fun m51 r52 => (r50 = r52 ∧ vm_ex G (d + 1) mL_law 18 [some (.inr (.inr 39)), some (.inr (.inr 0)), some (.inr (.inr 24)), some (.inl (v3 + 7))] [] m51 (vm_qb Q))))) ∧ ((vm_and (G.rom 39 v3) 31) = 8 → (0 ≤ (v3 + 1) ∧ (v3 + 1) < (G.len 39 : Int)) ∧ (0 ≤ (v3 + 2) ∧ (v3 + 2) < (G.len 39 : Int)) ∧ vm_ci G d mX7_least [.inr (.inr 0), .inl (G.rom 39 (v3 + 1)), .inl (G.rom 39 (v3 + 2))] mem (fun m55 r56 => vm_ci G d mX8_least [.inr (.inr 24), .inl (G.rom 39 (v3 + 1)), .inl (G.rom 39 (v3 + 2))] m55 (fun m57 r58 => (r56 = r58 ∧ vm_ex G (d + 1) mL_law 18 [some (.inr (.inr 39)), some (.inr (.inr 0)), some (.inr (.inr 24)), some (.inl (v3 + 7))] [] m57 (vm_qb Q))))) ∧ ((vm_and (G.rom 39 v3) 31) = 9 → (0 ≤ (v3 + 1) ∧ (v3 + 1) < (G.len 39 : Int)) ∧ vm_ci G d mX7_solutions [.inr (.inr 0), .inl (G.rom 39 (v3 + 1))] mem (fun m60 r61 => vm_ci G d mX8_solutions [.inr (.inr 24), .inl (G.rom 39 (v3 + 1))] m60 (fun m62 r63 => (r61 = r63 ∧ vm_ex G (d + 1) mL_law 18 [some (.inr (.inr 39)), some (.inr (.inr 0)), some (.inr (.inr 24)), some (.inl (v3 + 7))] [] m62 (vm_qb Q))))) ∧ ((vm_and (G.rom 39 v3) 31) = 10 → (0 ≤ (v3 + 1) ∧ (v3 + 1) < (G.len 39 : Int)) ∧ (0 ≤ (v3 + 2) ∧ (v3 + 2) < (G.len 39 : Int)) ∧ (0 ≤ (v3 + 3) ∧ (v3 + 3) < (G.len 39 : Int)) ∧ (0 ≤ (v3 + 4) ∧ (v3 + 4) < (G.len 39 : Int)) ∧ (0 ≤ (v3 + 5) ∧ (v3 + 5) < (G.len 39 : Int)) ∧ (0 ≤ (v3 + 6) ∧ (v3 + 6) < (G.len 39 : Int)) ∧ vm_ci G d mX7_follows [.inr (.inr 0), .inl (G.rom 39 (v3 + 1)), .inl (G.rom 39 (v3 + 2)), .inl (G.rom 39 (v3 + 3)), .inl (G.rom 39 (v3 + 4)), .inl (G.rom 39 (v3 + 5)), .inl (G.rom 39 (v3 + 6))] mem (fun m70 r71 => vm_ci G d mX8_follows [.inr (.inr 24), .inl (G.rom 39 (v3 + 1)), .inl (G.rom 39 (v3 + 2)), .inl (G.rom 39 (v3 + 3)), .inl (G.rom 39 (v3 + 4)), .inl (G.rom 39 (v3 + 5)), .inl (G.rom 39 (v3 + 6))] m70 (fun m72 r73 => (r71 = r73 ∧ vm_ex G (d + 1) mL_law 18 [some (.inr (.inr 39)), some (.inr (.inr 0)), some (.inr (.inr 24)), some (.inl (v3 + 7))] [] m72 (vm_qb Q))))) ∧ ((vm_and (G.rom 39 v3) 31) = 11 → vm_ci G d mX7_contradiction [.inr (.inr 0)] mem (fun m74 r75 => vm_ci G d mX8_contradiction [.inr (.inr 24)] m74 (fun m76 r77 => (r75 = r77 ∧ vm_ex G (d + 1) mL_law 18 [some (.inr (.inr 39)), some (.inr (.inr 0)), some (.inr (.inr 24)), some (.inl (v3 + 7))] [] m76 (vm_qb Q))))) ∧ ((vm_and (G.rom 39 v3) 31) = 12 → (0 ≤ (v3 + 1) ∧ (v3 + 1) < (G.len 39 : Int)) ∧ (0 ≤ (v3 + 2) ∧ (v3 + 2) < (G.len 39 : Int)) ∧ (0 ≤ (v3 + 3) ∧ (v3 + 3) < (G.len 39 : Int)) ∧ vm_ci G d mX7_reason [.inr (.inr 0), .inl (G.rom 39 (v3 + 1)), .inl (G.rom 39 (v3 + 2)), .inl (G.rom 39 (v3 + 3))] mem (fun m81 r82 => vm_ci G d mX8_reason [.inr (.inr 24), .inl (G.rom 39 (v3 + 1)), .inl (G.rom 39 (v3 + 2)), .inl (G.rom 39 (v3 + 3))] m81 (fun m83 r84 => (r82 = r84 ∧ vm_ex G (d + 1) mL_law 18 [some (.inr (.inr 39)), some (.inr (.inr 0)), some (.inr (.inr 24)), some (.inl (v3 + 7))] [] m83 (vm_qb Q))))) ∧ ((vm_and (G.rom 39 v3) 31) = 13 → vm_ci G d mX7_needless [.inr (.inr 0)] mem (fun m85 r86 => vm_ci G d mX8_needless [.inr (.inr 24)] m85 (fun m87 r88 => (r86 = r88 ∧ vm_ex G (d + 1) mL_law 18 [some (.inr (.inr 39)), some (.inr (.inr 0)), some (.inr (.inr 24)), some (.inl (v3 + 7))] [] m87 (vm_qb Q))))) ∧ ((vm_and (G.rom 39 v3) 31) = 14 → (0 ≤ (v3 + 1) ∧ (v3 + 1) < (G.len 39 : Int)) ∧ (vm_R (G.rom 39 (v3 + 1))) ∧ (0 ≤ (v3 + 2) ∧ (v3 + 2) < (G.len 39 : Int)) ∧ (vm_R (G.rom 39 (v3 + 2))) ∧ vm_ci G d mX7_put [.inr (.inr 0), .inr (.inl (vm_lor (vm_lshl (G.rom 39 (v3 + 1)) 32) (vm_land (G.rom 39 (v3 + 2)) 4294967295)))] mem (fun m93 r94 => vm_ci G d mX8_put [.inr (.inr 24), .inr (.inl (vm_lor (vm_lshl (G.rom 39 (v3 + 1)) 32) (vm_land (G.rom 39 (v3 + 2)) 4294967295)))] m93 (fun m95 r96 => (r94 = r96 ∧ vm_ex G (d + 1) mL_law 18 [some (.inr (.inr 39)), some (.inr (.inr 0)), some (.inr (.inr 24)), some (.inl (v3 + 7))] [] m95 (vm_qb Q))))) ∧ ((vm_and (G.rom 39 v3) 31) = 15 → vm_ci G d mX7_wipe [.inr (.inr 0)] mem (fun m97 r98 => vm_ci G d mX8_wipe [.inr (.inr 24)] m97 (fun m99 r100 => (r98 = r100 ∧ vm_ex G (d + 1) mL_law 18 [some (.inr (.inr 39)), some (.inr (.inr 0)), some (.inr (.inr 24)), some (.inl (v3 + 7))] [] m99 (vm_qb Q))))) ∧ ((vm_and (G.rom 39 v3) 31) = 16 → vm_ci G d mX7_fault [.inr (.inr 0)] mem (fun m101 r102 => vm_ci G d mX8_fault [.inr (.inr 24)] m101 (fun m103 r104 => (r102 = r104 ∧ vm_ex G (d + 1) mL_law 18 [some (.inr (.inr 39)), some (.inr (.inr 0)), some (.inr (.inr 24)), some (.inl (v3 + 7))] [] m103 (vm_qb Q))))) ∧ ((vm_and (G.rom 39 v3) 31) = 17 → vm_ci G d mX7_tell [.inr (.inr 0)] mem (fun m105 r106 => vm_ci G d mX8_tell [.inr (.inr 24)] m105 (fun m107 r108 => (r106 = r108 ∧ vm_ex G (d + 1) mL_law 18 [some (.inr (.inr 39)), some (.inr (.inr 0)), some (.inr (.inr 24)), some (.inl (v3 + 7))] [] m107 (vm_qb Q))))) ∧ ((vm_and (G.rom 39 v3) 31) = 18 → vm_ci G d mX7_undo [.inr (.inr 0)] mem (fun m109 r110 => vm_ci G d mX8_undo [.inr (.inr 24)] m109 (fun m111 r112 => (r110 = r112 ∧ vm_ex G (d + 1) mL_law 18 [some (.inr (.inr 39)), some (.inr (.inr 0)), some (.inr (.inr 24)), some (.inl (v3 + 7))] [] m111 (vm_qb Q))))) ∧ ((vm_and (G.rom 39 v3) 31) = 19 → (0 ≤ (v3 + 1) ∧ (v3 + 1) < (G.len 39 : Int)) ∧ vm_ci G d mX7_save [.inr (.inr 0), .inl (G.rom 39 (v3 + 1))] mem (fun m114 r115 => vm_ci G d mX8_save [.inr (.inr 24), .inl (G.rom 39 (v3 + 1))] m114 (fun m116 r117 => (r115 = r117 ∧ vm_ex G (d + 1) mL_law 18 [some (.inr (.inr 39)), some (.inr (.inr 0)), some (.inr (.inr 24)), some (.inl (v3 + 7))] [] m116 (vm_qb Q))))) ∧ ((vm_and (G.rom 39 v3) 31) = 20 → (0 ≤ (v3 + 1) ∧ (v3 + 1) < (G.len 39 : Int)) ∧ vm_ci G d mX7_restore [.inr (.inr 0), .inl (G.rom 39 (v3 + 1))] mem (fun m119 r120 => vm_ci G d mX8_restore [.inr (.inr 24), .inl (G.rom 39 (v3 + 1))] m119 (fun m121 r122 => (r120 = r122 ∧ vm_ex G (d + 1) mL_law 18 [some (.inr (.inr 39)), some (.inr (.inr 0)), some (.inr (.inr 24)), some (.inl (v3 + 7))] [] m121 (vm_qb Q))))) ∧ ((vm_and (G.rom 39 v3) 31) < 0 ∨ 20 < (vm_and (G.rom 39 v3) 31) → vm_ex G (d + 1) mL_law 18 [some (.inr (.inr 39)), some (.inr (.inr 0)), some (.inr (.inr 24)), some (.inl (v3 + 7))] [] mem (vm_qb Q)))))) : vm_ex G (d + 1) mL_law 18 [some (.inr (.inr 39)), some (.inr (.inr 0)), some (.inr (.inr 24)), some (.inl v3)] [] mem (vm_qb Q) := by
  refine ex_iload_n (pc := 18) 10 rfl rfl ?_
  refine ex_aload_n (pc := 19) 11 rfl rfl ?_
  refine ex_rolen (pc := 20) 12 rfl (Or.inr rfl) ?_
  refine ex_bipush (pc := 21) 13 rfl (by decide) ?_
  refine ex_isub (pc := 23) 14 rfl ?_
  obtain ⟨hs1, h⟩ := h
  obtain ⟨hs2, h⟩ := h
  refine ex_icmp_gt (pc := 24) 755 15 rfl (by decide) hs1 hs2 (fun hb => ?_) (fun hb => ?_)
  · have h := h.1 hb
    refine ex_iconst (pc := 755) 505 rfl ?_
    exact ex_iret (pc := 756) 506 rfl (Or.inr ⟨rfl, by decide⟩) ⟨true, rfl, h⟩
  · have h := h.2 hb
    refine ex_aload_n (pc := 27) 16 rfl rfl ?_
    refine ex_iload_n (pc := 28) 17 rfl rfl ?_
    obtain ⟨hs3, h⟩ := h
    refine ex_roload (pc := 29) 18 rfl (Or.inr rfl) hs3 ?_
    refine ex_bipush (pc := 30) 19 rfl (by decide) ?_
    refine ex_iand (pc := 32) 20 rfl ?_
    obtain ⟨hs4, h⟩ := h
    obtain ⟨h0, h1, h2, h3, h4, h5, h6, h7, h8, h9, h10, h11, h12, h13, h14, h15, h16, h17, h18, h19, h20, h21⟩ := h
    refine ex_tsw (pc := 33) 21 rfl hs4 rfl ⟨fun hb => ⟨?_, by decide⟩, fun hb => ⟨?_, by decide⟩, fun hb => ⟨?_, by decide⟩, fun hb => ⟨?_, by decide⟩, fun hb => ⟨?_, by decide⟩, fun hb => ⟨?_, by decide⟩, fun hb => ⟨?_, by decide⟩, fun hb => ⟨?_, by decide⟩, fun hb => ⟨?_, by decide⟩, fun hb => ⟨?_, by decide⟩, fun hb => ⟨?_, by decide⟩, fun hb => ⟨?_, by decide⟩, fun hb => ⟨?_, by decide⟩, fun hb => ⟨?_, by decide⟩, fun hb => ⟨?_, by decide⟩, fun hb => ⟨?_, by decide⟩, fun hb => ⟨?_, by decide⟩, fun hb => ⟨?_, by decide⟩, fun hb => ⟨?_, by decide⟩, fun hb => ⟨?_, by decide⟩, fun hb => ⟨?_, by decide⟩, trivial⟩ (fun hb => ?_) (by decide)
    · have h := h0 hb
      refine ex_aload_n (pc := 132) 22 rfl rfl ?_
      refine ex_aload_n (pc := 133) 23 rfl rfl ?_
      refine ex_iload_n (pc := 134) 24 rfl rfl ?_
      refine ex_iconst (pc := 135) 25 rfl ?_
      refine ex_iadd (pc := 136) 26 rfl ?_
      obtain ⟨hs5, h⟩ := h
      refine ex_roload (pc := 137) 27 rfl (Or.inr rfl) hs5 ?_
      refine ex_invV (pc := 138) (M' := mX7_most) (As := [.inl (G.rom 39 (v3 + 1))]) (st := []) 28 rfl clk7 rfl rfl calX7_most (Or.inl ww_297) rfl rfl ?_
      refine vm_call.mono h ?_
      rintro m6 _ ⟨r7, rfl, h⟩
      refine ex_aload_n (pc := 141) 29 rfl rfl ?_
      refine ex_aload_n (pc := 142) 30 rfl rfl ?_
      refine ex_iload_n (pc := 143) 31 rfl rfl ?_
      refine ex_iconst (pc := 144) 32 rfl ?_
      refine ex_iadd (pc := 145) 33 rfl ?_
      refine ex_roload (pc := 146) 34 rfl (Or.inr rfl) hs5 ?_
      refine ex_invV (pc := 147) (M' := mX8_most) (As := [.inl (G.rom 39 (v3 + 1))]) (st := [.inl r7]) 35 rfl clk8 rfl rfl calX8_most (Or.inl ww_811) rfl rfl ?_
      refine vm_call.mono h ?_
      rintro m8 _ ⟨r9, rfl, h⟩
      refine ex_icmp_eqT (pc := 150) 749 36 rfl (by decide) h.1 ?_
      have h := h.2
      refine ex_iinc (pc := 749) 503 rfl rfl rfl rfl ?_
      refine ex_goto (pc := 752) 18 504 rfl (by decide) ?_
      exact h
    · have h := h1 hb
      refine ex_aload_n (pc := 155) 39 rfl rfl ?_
      refine ex_aload_n (pc := 156) 40 rfl rfl ?_
      refine ex_iload_n (pc := 157) 41 rfl rfl ?_
      refine ex_iconst (pc := 158) 42 rfl ?_
      refine ex_iadd (pc := 159) 43 rfl ?_
      obtain ⟨hs10, h⟩ := h
      refine ex_roload (pc := 160) 44 rfl (Or.inr rfl) hs10 ?_
      refine ex_aload_n (pc := 161) 45 rfl rfl ?_
      refine ex_iload_n (pc := 162) 46 rfl rfl ?_
      refine ex_iconst (pc := 163) 47 rfl ?_
      refine ex_iadd (pc := 164) 48 rfl ?_
      obtain ⟨hs11, h⟩ := h
      refine ex_roload (pc := 165) 49 rfl (Or.inr rfl) hs11 ?_
      refine ex_aload_n (pc := 166) 50 rfl rfl ?_
      refine ex_iload_n (pc := 167) 51 rfl rfl ?_
      refine ex_iconst (pc := 168) 52 rfl ?_
      refine ex_iadd (pc := 169) 53 rfl ?_
      obtain ⟨hs12, h⟩ := h
      refine ex_roload (pc := 170) 54 rfl (Or.inr rfl) hs12 ?_
      refine ex_aload_n (pc := 171) 55 rfl rfl ?_
      refine ex_iload_n (pc := 172) 56 rfl rfl ?_
      refine ex_iconst (pc := 173) 57 rfl ?_
      refine ex_iadd (pc := 174) 58 rfl ?_
      obtain ⟨hs13, h⟩ := h
      refine ex_roload (pc := 175) 59 rfl (Or.inr rfl) hs13 ?_
      refine ex_aload_n (pc := 176) 60 rfl rfl ?_
      refine ex_iload_n (pc := 177) 61 rfl rfl ?_
      refine ex_iconst (pc := 178) 62 rfl ?_
      refine ex_iadd (pc := 179) 63 rfl ?_
      obtain ⟨hs14, h⟩ := h
      refine ex_roload (pc := 180) 64 rfl (Or.inr rfl) hs14 ?_
      refine ex_aload_n (pc := 181) 65 rfl rfl ?_
      refine ex_iload_n (pc := 182) 66 rfl rfl ?_
      refine ex_bipush (pc := 183) 67 rfl (by decide) ?_
      refine ex_iadd (pc := 185) 68 rfl ?_
      obtain ⟨hs15, h⟩ := h
      refine ex_roload (pc := 186) 69 rfl (Or.inr rfl) hs15 ?_
      refine ex_invV (pc := 187) (M' := mX7_fact) (As := [.inl (G.rom 39 (v3 + 1)), .inl (G.rom 39 (v3 + 2)), .inl (G.rom 39 (v3 + 3)), .inl (G.rom 39 (v3 + 4)), .inl (G.rom 39 (v3 + 5)), .inl (G.rom 39 (v3 + 6))]) (st := []) 70 rfl clk7 rfl rfl calX7_fact (Or.inl ww_325) rfl rfl ?_
      refine vm_call.mono h ?_
      rintro m16 _ ⟨r17, rfl, h⟩
      refine ex_aload_n (pc := 190) 71 rfl rfl ?_
      refine ex_aload_n (pc := 191) 72 rfl rfl ?_
      refine ex_iload_n (pc := 192) 73 rfl rfl ?_
      refine ex_iconst (pc := 193) 74 rfl ?_
      refine ex_iadd (pc := 194) 75 rfl ?_
      refine ex_roload (pc := 195) 76 rfl (Or.inr rfl) hs10 ?_
      refine ex_aload_n (pc := 196) 77 rfl rfl ?_
      refine ex_iload_n (pc := 197) 78 rfl rfl ?_
      refine ex_iconst (pc := 198) 79 rfl ?_
      refine ex_iadd (pc := 199) 80 rfl ?_
      refine ex_roload (pc := 200) 81 rfl (Or.inr rfl) hs11 ?_
      refine ex_aload_n (pc := 201) 82 rfl rfl ?_
      refine ex_iload_n (pc := 202) 83 rfl rfl ?_
      refine ex_iconst (pc := 203) 84 rfl ?_
      refine ex_iadd (pc := 204) 85 rfl ?_
      refine ex_roload (pc := 205) 86 rfl (Or.inr rfl) hs12 ?_
      refine ex_aload_n (pc := 206) 87 rfl rfl ?_
      refine ex_iload_n (pc := 207) 88 rfl rfl ?_
      refine ex_iconst (pc := 208) 89 rfl ?_
      refine ex_iadd (pc := 209) 90 rfl ?_
      refine ex_roload (pc := 210) 91 rfl (Or.inr rfl) hs13 ?_
      refine ex_aload_n (pc := 211) 92 rfl rfl ?_
      refine ex_iload_n (pc := 212) 93 rfl rfl ?_
      refine ex_iconst (pc := 213) 94 rfl ?_
      refine ex_iadd (pc := 214) 95 rfl ?_
      refine ex_roload (pc := 215) 96 rfl (Or.inr rfl) hs14 ?_
      refine ex_aload_n (pc := 216) 97 rfl rfl ?_
      refine ex_iload_n (pc := 217) 98 rfl rfl ?_
      refine ex_bipush (pc := 218) 99 rfl (by decide) ?_
      refine ex_iadd (pc := 220) 100 rfl ?_
      refine ex_roload (pc := 221) 101 rfl (Or.inr rfl) hs15 ?_
      refine ex_invV (pc := 222) (M' := mX8_fact) (As := [.inl (G.rom 39 (v3 + 1)), .inl (G.rom 39 (v3 + 2)), .inl (G.rom 39 (v3 + 3)), .inl (G.rom 39 (v3 + 4)), .inl (G.rom 39 (v3 + 5)), .inl (G.rom 39 (v3 + 6))]) (st := [.inl r17]) 102 rfl clk8 rfl rfl calX8_fact (Or.inl ww_822) rfl rfl ?_
      refine vm_call.mono h ?_
      rintro m18 _ ⟨r19, rfl, h⟩
      refine ex_icmp_eqT (pc := 225) 749 103 rfl (by decide) h.1 ?_
      have h := h.2
      refine ex_iinc (pc := 749) 503 rfl rfl rfl rfl ?_
      refine ex_goto (pc := 752) 18 504 rfl (by decide) ?_
      exact h
    · have h := h2 hb
      refine ex_aload_n (pc := 230) 106 rfl rfl ?_
      refine ex_aload_n (pc := 231) 107 rfl rfl ?_
      refine ex_iload_n (pc := 232) 108 rfl rfl ?_
      refine ex_iconst (pc := 233) 109 rfl ?_
      refine ex_iadd (pc := 234) 110 rfl ?_
      obtain ⟨hs20, h⟩ := h
      refine ex_roload (pc := 235) 111 rfl (Or.inr rfl) hs20 ?_
      refine ex_invV (pc := 236) (M' := mX7_drop) (As := [.inl (G.rom 39 (v3 + 1))]) (st := []) 112 rfl clk7 rfl rfl calX7_drop (Or.inl ww_355) rfl rfl ?_
      refine vm_call.mono h ?_
      rintro m21 _ ⟨r22, rfl, h⟩
      refine ex_aload_n (pc := 239) 113 rfl rfl ?_
      refine ex_aload_n (pc := 240) 114 rfl rfl ?_
      refine ex_iload_n (pc := 241) 115 rfl rfl ?_
      refine ex_iconst (pc := 242) 116 rfl ?_
      refine ex_iadd (pc := 243) 117 rfl ?_
      refine ex_roload (pc := 244) 118 rfl (Or.inr rfl) hs20 ?_
      refine ex_invV (pc := 245) (M' := mX8_drop) (As := [.inl (G.rom 39 (v3 + 1))]) (st := [.inl r22]) 119 rfl clk8 rfl rfl calX8_drop (Or.inl ww_843) rfl rfl ?_
      refine vm_call.mono h ?_
      rintro m23 _ ⟨r24, rfl, h⟩
      refine ex_icmp_eqT (pc := 248) 749 120 rfl (by decide) h.1 ?_
      have h := h.2
      refine ex_iinc (pc := 749) 503 rfl rfl rfl rfl ?_
      refine ex_goto (pc := 752) 18 504 rfl (by decide) ?_
      exact h
    · have h := h3 hb
      refine ex_aload_n (pc := 253) 123 rfl rfl ?_
      refine ex_aload_n (pc := 254) 124 rfl rfl ?_
      refine ex_iload_n (pc := 255) 125 rfl rfl ?_
      refine ex_iconst (pc := 256) 126 rfl ?_
      refine ex_iadd (pc := 257) 127 rfl ?_
      obtain ⟨hs25, h⟩ := h
      refine ex_roload (pc := 258) 128 rfl (Or.inr rfl) hs25 ?_
      refine ex_aload_n (pc := 259) 129 rfl rfl ?_
      refine ex_iload_n (pc := 260) 130 rfl rfl ?_
      refine ex_iconst (pc := 261) 131 rfl ?_
      refine ex_iadd (pc := 262) 132 rfl ?_
      obtain ⟨hs26, h⟩ := h
      refine ex_roload (pc := 263) 133 rfl (Or.inr rfl) hs26 ?_
      refine ex_invV (pc := 264) (M' := mX7_ofFact) (As := [.inl (G.rom 39 (v3 + 1)), .inl (G.rom 39 (v3 + 2))]) (st := []) 134 rfl clk7 rfl rfl calX7_ofFact (Or.inl ww_368) rfl rfl ?_
      refine vm_call.mono h ?_
      rintro m27 _ ⟨r28, rfl, h⟩
      refine ex_aload_n (pc := 267) 135 rfl rfl ?_
      refine ex_aload_n (pc := 268) 136 rfl rfl ?_
      refine ex_iload_n (pc := 269) 137 rfl rfl ?_
      refine ex_iconst (pc := 270) 138 rfl ?_
      refine ex_iadd (pc := 271) 139 rfl ?_
      refine ex_roload (pc := 272) 140 rfl (Or.inr rfl) hs25 ?_
      refine ex_aload_n (pc := 273) 141 rfl rfl ?_
      refine ex_iload_n (pc := 274) 142 rfl rfl ?_
      refine ex_iconst (pc := 275) 143 rfl ?_
      refine ex_iadd (pc := 276) 144 rfl ?_
      refine ex_roload (pc := 277) 145 rfl (Or.inr rfl) hs26 ?_
      refine ex_invV (pc := 278) (M' := mX8_ofFact) (As := [.inl (G.rom 39 (v3 + 1)), .inl (G.rom 39 (v3 + 2))]) (st := [.inl r28]) 146 rfl clk8 rfl rfl calX8_ofFact (Or.inl ww_851) rfl rfl ?_
      refine vm_call.mono h ?_
      rintro m29 _ ⟨r30, rfl, h⟩
      refine ex_icmp_eqT (pc := 281) 749 147 rfl (by decide) h.1 ?_
      have h := h.2
      refine ex_iinc (pc := 749) 503 rfl rfl rfl rfl ?_
      refine ex_goto (pc := 752) 18 504 rfl (by decide) ?_
      exact h
    · have h := h4 hb
      refine ex_aload_n (pc := 286) 150 rfl rfl ?_
      refine ex_aload_n (pc := 287) 151 rfl rfl ?_
      refine ex_iload_n (pc := 288) 152 rfl rfl ?_
      refine ex_iconst (pc := 289) 153 rfl ?_
      refine ex_iadd (pc := 290) 154 rfl ?_
      obtain ⟨hs31, h⟩ := h
      refine ex_roload (pc := 291) 155 rfl (Or.inr rfl) hs31 ?_
      refine ex_invV (pc := 292) (M' := mX7_count) (As := [.inl (G.rom 39 (v3 + 1))]) (st := []) 156 rfl clk7 rfl rfl calX7_count (Or.inl ww_376) rfl rfl ?_
      refine vm_call.mono h ?_
      rintro m32 _ ⟨r33, rfl, h⟩
      refine ex_aload_n (pc := 295) 157 rfl rfl ?_
      refine ex_aload_n (pc := 296) 158 rfl rfl ?_
      refine ex_iload_n (pc := 297) 159 rfl rfl ?_
      refine ex_iconst (pc := 298) 160 rfl ?_
      refine ex_iadd (pc := 299) 161 rfl ?_
      refine ex_roload (pc := 300) 162 rfl (Or.inr rfl) hs31 ?_
      refine ex_invV (pc := 301) (M' := mX8_count) (As := [.inl (G.rom 39 (v3 + 1))]) (st := [.inl r33]) 163 rfl clk8 rfl rfl calX8_count (Or.inl ww_859) rfl rfl ?_
      refine vm_call.mono h ?_
      rintro m34 _ ⟨r35, rfl, h⟩
      refine ex_icmp_eqT (pc := 304) 749 164 rfl (by decide) h.1 ?_
      have h := h.2
      refine ex_iinc (pc := 749) 503 rfl rfl rfl rfl ?_
      refine ex_goto (pc := 752) 18 504 rfl (by decide) ?_
      exact h
    · have h := h5 hb
      refine ex_aload_n (pc := 309) 167 rfl rfl ?_
      refine ex_invV (pc := 310) (M' := mX7_isPossible) (As := []) (st := []) 168 rfl clk7 rfl rfl calX7_isPossible (Or.inl ww_380) rfl rfl ?_
      refine vm_call.mono h ?_
      rintro m36 _ ⟨r37, rfl, h⟩
      refine ex_aload_n (pc := 313) 169 rfl rfl ?_
      refine ex_invV (pc := 314) (M' := mX8_isPossible) (As := []) (st := [.inl r37]) 170 rfl clk8 rfl rfl calX8_isPossible (Or.inl ww_863) rfl rfl ?_
      refine vm_call.mono h ?_
      rintro m38 _ ⟨r39, rfl, h⟩
      refine ex_icmp_eqT (pc := 317) 749 171 rfl (by decide) h.1 ?_
      have h := h.2
      refine ex_iinc (pc := 749) 503 rfl rfl rfl rfl ?_
      refine ex_goto (pc := 752) 18 504 rfl (by decide) ?_
      exact h
    · have h := h6 hb
      refine ex_aload_n (pc := 322) 174 rfl rfl ?_
      refine ex_aload_n (pc := 323) 175 rfl rfl ?_
      refine ex_iload_n (pc := 324) 176 rfl rfl ?_
      refine ex_iconst (pc := 325) 177 rfl ?_
      refine ex_iadd (pc := 326) 178 rfl ?_
      obtain ⟨hs40, h⟩ := h
      refine ex_roload (pc := 327) 179 rfl (Or.inr rfl) hs40 ?_
      refine ex_aload_n (pc := 328) 180 rfl rfl ?_
      refine ex_iload_n (pc := 329) 181 rfl rfl ?_
      refine ex_iconst (pc := 330) 182 rfl ?_
      refine ex_iadd (pc := 331) 183 rfl ?_
      obtain ⟨hs41, h⟩ := h
      refine ex_roload (pc := 332) 184 rfl (Or.inr rfl) hs41 ?_
      refine ex_aload_n (pc := 333) 185 rfl rfl ?_
      refine ex_iload_n (pc := 334) 186 rfl rfl ?_
      refine ex_iconst (pc := 335) 187 rfl ?_
      refine ex_iadd (pc := 336) 188 rfl ?_
      obtain ⟨hs42, h⟩ := h
      refine ex_roload (pc := 337) 189 rfl (Or.inr rfl) hs42 ?_
      refine ex_invV (pc := 338) (M' := mX7_bound) (As := [.inl (G.rom 39 (v3 + 1)), .inl (G.rom 39 (v3 + 2)), .inl (G.rom 39 (v3 + 3))]) (st := []) 190 rfl clk7 rfl rfl calX7_bound (Or.inl ww_549) rfl rfl ?_
      refine vm_call.mono h ?_
      rintro m43 _ ⟨r44, rfl, h⟩
      refine ex_aload_n (pc := 341) 191 rfl rfl ?_
      refine ex_aload_n (pc := 342) 192 rfl rfl ?_
      refine ex_iload_n (pc := 343) 193 rfl rfl ?_
      refine ex_iconst (pc := 344) 194 rfl ?_
      refine ex_iadd (pc := 345) 195 rfl ?_
      refine ex_roload (pc := 346) 196 rfl (Or.inr rfl) hs40 ?_
      refine ex_aload_n (pc := 347) 197 rfl rfl ?_
      refine ex_iload_n (pc := 348) 198 rfl rfl ?_
      refine ex_iconst (pc := 349) 199 rfl ?_
      refine ex_iadd (pc := 350) 200 rfl ?_
      refine ex_roload (pc := 351) 201 rfl (Or.inr rfl) hs41 ?_
      refine ex_aload_n (pc := 352) 202 rfl rfl ?_
      refine ex_iload_n (pc := 353) 203 rfl rfl ?_
      refine ex_iconst (pc := 354) 204 rfl ?_
      refine ex_iadd (pc := 355) 205 rfl ?_
      refine ex_roload (pc := 356) 206 rfl (Or.inr rfl) hs42 ?_
      refine ex_invV (pc := 357) (M' := mX8_bound) (As := [.inl (G.rom 39 (v3 + 1)), .inl (G.rom 39 (v3 + 2)), .inl (G.rom 39 (v3 + 3))]) (st := [.inl r44]) 207 rfl clk8 rfl rfl calX8_bound (Or.inl ww_979) rfl rfl ?_
      refine vm_call.mono h ?_
      rintro m45 _ ⟨r46, rfl, h⟩
      refine ex_icmp_eqT (pc := 360) 749 208 rfl (by decide) h.1 ?_
      have h := h.2
      refine ex_iinc (pc := 749) 503 rfl rfl rfl rfl ?_
      refine ex_goto (pc := 752) 18 504 rfl (by decide) ?_
      exact h
    · have h := h7 hb
      refine ex_aload_n (pc := 365) 211 rfl rfl ?_
      refine ex_aload_n (pc := 366) 212 rfl rfl ?_
      refine ex_iload_n (pc := 367) 213 rfl rfl ?_
      refine ex_iconst (pc := 368) 214 rfl ?_
      refine ex_iadd (pc := 369) 215 rfl ?_
      obtain ⟨hs47, h⟩ := h
      refine ex_roload (pc := 370) 216 rfl (Or.inr rfl) hs47 ?_
      refine ex_aload_n (pc := 371) 217 rfl rfl ?_
      refine ex_iload_n (pc := 372) 218 rfl rfl ?_
      refine ex_iconst (pc := 373) 219 rfl ?_
      refine ex_iadd (pc := 374) 220 rfl ?_
      obtain ⟨hs48, h⟩ := h
      refine ex_roload (pc := 375) 221 rfl (Or.inr rfl) hs48 ?_
      refine ex_invV (pc := 376) (M' := mX7_sizeOf) (As := [.inl (G.rom 39 (v3 + 1)), .inl (G.rom 39 (v3 + 2))]) (st := []) 222 rfl clk7 rfl rfl calX7_sizeOf (Or.inl ww_568) rfl rfl ?_
      refine vm_call.mono h ?_
      rintro m49 _ ⟨r50, rfl, h⟩
      refine ex_aload_n (pc := 379) 223 rfl rfl ?_
      refine ex_aload_n (pc := 380) 224 rfl rfl ?_
      refine ex_iload_n (pc := 381) 225 rfl rfl ?_
      refine ex_iconst (pc := 382) 226 rfl ?_
      refine ex_iadd (pc := 383) 227 rfl ?_
      refine ex_roload (pc := 384) 228 rfl (Or.inr rfl) hs47 ?_
      refine ex_aload_n (pc := 385) 229 rfl rfl ?_
      refine ex_iload_n (pc := 386) 230 rfl rfl ?_
      refine ex_iconst (pc := 387) 231 rfl ?_
      refine ex_iadd (pc := 388) 232 rfl ?_
      refine ex_roload (pc := 389) 233 rfl (Or.inr rfl) hs48 ?_
      refine ex_invV (pc := 390) (M' := mX8_sizeOf) (As := [.inl (G.rom 39 (v3 + 1)), .inl (G.rom 39 (v3 + 2))]) (st := [.inl r50]) 234 rfl clk8 rfl rfl calX8_sizeOf (Or.inl ww_998) rfl rfl ?_
      refine vm_call.mono h ?_
      rintro m51 _ ⟨r52, rfl, h⟩
      refine ex_icmp_eqT (pc := 393) 749 235 rfl (by decide) h.1 ?_
      have h := h.2
      refine ex_iinc (pc := 749) 503 rfl rfl rfl rfl ?_
      refine ex_goto (pc := 752) 18 504 rfl (by decide) ?_
      exact h
    · have h := h8 hb
      refine ex_aload_n (pc := 398) 238 rfl rfl ?_
      refine ex_aload_n (pc := 399) 239 rfl rfl ?_
      refine ex_iload_n (pc := 400) 240 rfl rfl ?_
      refine ex_iconst (pc := 401) 241 rfl ?_
      refine ex_iadd (pc := 402) 242 rfl ?_
      obtain ⟨hs53, h⟩ := h
      refine ex_roload (pc := 403) 243 rfl (Or.inr rfl) hs53 ?_
      refine ex_aload_n (pc := 404) 244 rfl rfl ?_
      refine ex_iload_n (pc := 405) 245 rfl rfl ?_
      refine ex_iconst (pc := 406) 246 rfl ?_
      refine ex_iadd (pc := 407) 247 rfl ?_
      obtain ⟨hs54, h⟩ := h
      refine ex_roload (pc := 408) 248 rfl (Or.inr rfl) hs54 ?_
      refine ex_invV (pc := 409) (M' := mX7_least) (As := [.inl (G.rom 39 (v3 + 1)), .inl (G.rom 39 (v3 + 2))]) (st := []) 249 rfl clk7 rfl rfl calX7_least (Or.inl ww_572) rfl rfl ?_
      refine vm_call.mono h ?_
      rintro m55 _ ⟨r56, rfl, h⟩
      refine ex_aload_n (pc := 412) 250 rfl rfl ?_
      refine ex_aload_n (pc := 413) 251 rfl rfl ?_
      refine ex_iload_n (pc := 414) 252 rfl rfl ?_
      refine ex_iconst (pc := 415) 253 rfl ?_
      refine ex_iadd (pc := 416) 254 rfl ?_
      refine ex_roload (pc := 417) 255 rfl (Or.inr rfl) hs53 ?_
      refine ex_aload_n (pc := 418) 256 rfl rfl ?_
      refine ex_iload_n (pc := 419) 257 rfl rfl ?_
      refine ex_iconst (pc := 420) 258 rfl ?_
      refine ex_iadd (pc := 421) 259 rfl ?_
      refine ex_roload (pc := 422) 260 rfl (Or.inr rfl) hs54 ?_
      refine ex_invV (pc := 423) (M' := mX8_least) (As := [.inl (G.rom 39 (v3 + 1)), .inl (G.rom 39 (v3 + 2))]) (st := [.inl r56]) 261 rfl clk8 rfl rfl calX8_least (Or.inl ww_1002) rfl rfl ?_
      refine vm_call.mono h ?_
      rintro m57 _ ⟨r58, rfl, h⟩
      refine ex_icmp_eqT (pc := 426) 749 262 rfl (by decide) h.1 ?_
      have h := h.2
      refine ex_iinc (pc := 749) 503 rfl rfl rfl rfl ?_
      refine ex_goto (pc := 752) 18 504 rfl (by decide) ?_
      exact h
    · have h := h9 hb
      refine ex_aload_n (pc := 431) 265 rfl rfl ?_
      refine ex_aload_n (pc := 432) 266 rfl rfl ?_
      refine ex_iload_n (pc := 433) 267 rfl rfl ?_
      refine ex_iconst (pc := 434) 268 rfl ?_
      refine ex_iadd (pc := 435) 269 rfl ?_
      obtain ⟨hs59, h⟩ := h
      refine ex_roload (pc := 436) 270 rfl (Or.inr rfl) hs59 ?_
      refine ex_invV (pc := 437) (M' := mX7_solutions) (As := [.inl (G.rom 39 (v3 + 1))]) (st := []) 271 rfl clk7 rfl rfl calX7_solutions (Or.inl ww_586) rfl rfl ?_
      refine vm_call.mono h ?_
      rintro m60 _ ⟨r61, rfl, h⟩
      refine ex_aload_n (pc := 440) 272 rfl rfl ?_
      refine ex_aload_n (pc := 441) 273 rfl rfl ?_
      refine ex_iload_n (pc := 442) 274 rfl rfl ?_
      refine ex_iconst (pc := 443) 275 rfl ?_
      refine ex_iadd (pc := 444) 276 rfl ?_
      refine ex_roload (pc := 445) 277 rfl (Or.inr rfl) hs59 ?_
      refine ex_invV (pc := 446) (M' := mX8_solutions) (As := [.inl (G.rom 39 (v3 + 1))]) (st := [.inl r61]) 278 rfl clk8 rfl rfl calX8_solutions (Or.inl ww_1014) rfl rfl ?_
      refine vm_call.mono h ?_
      rintro m62 _ ⟨r63, rfl, h⟩
      refine ex_icmp_eqT (pc := 449) 749 279 rfl (by decide) h.1 ?_
      have h := h.2
      refine ex_iinc (pc := 749) 503 rfl rfl rfl rfl ?_
      refine ex_goto (pc := 752) 18 504 rfl (by decide) ?_
      exact h
    · have h := h10 hb
      refine ex_aload_n (pc := 454) 282 rfl rfl ?_
      refine ex_aload_n (pc := 455) 283 rfl rfl ?_
      refine ex_iload_n (pc := 456) 284 rfl rfl ?_
      refine ex_iconst (pc := 457) 285 rfl ?_
      refine ex_iadd (pc := 458) 286 rfl ?_
      obtain ⟨hs64, h⟩ := h
      refine ex_roload (pc := 459) 287 rfl (Or.inr rfl) hs64 ?_
      refine ex_aload_n (pc := 460) 288 rfl rfl ?_
      refine ex_iload_n (pc := 461) 289 rfl rfl ?_
      refine ex_iconst (pc := 462) 290 rfl ?_
      refine ex_iadd (pc := 463) 291 rfl ?_
      obtain ⟨hs65, h⟩ := h
      refine ex_roload (pc := 464) 292 rfl (Or.inr rfl) hs65 ?_
      refine ex_aload_n (pc := 465) 293 rfl rfl ?_
      refine ex_iload_n (pc := 466) 294 rfl rfl ?_
      refine ex_iconst (pc := 467) 295 rfl ?_
      refine ex_iadd (pc := 468) 296 rfl ?_
      obtain ⟨hs66, h⟩ := h
      refine ex_roload (pc := 469) 297 rfl (Or.inr rfl) hs66 ?_
      refine ex_aload_n (pc := 470) 298 rfl rfl ?_
      refine ex_iload_n (pc := 471) 299 rfl rfl ?_
      refine ex_iconst (pc := 472) 300 rfl ?_
      refine ex_iadd (pc := 473) 301 rfl ?_
      obtain ⟨hs67, h⟩ := h
      refine ex_roload (pc := 474) 302 rfl (Or.inr rfl) hs67 ?_
      refine ex_aload_n (pc := 475) 303 rfl rfl ?_
      refine ex_iload_n (pc := 476) 304 rfl rfl ?_
      refine ex_iconst (pc := 477) 305 rfl ?_
      refine ex_iadd (pc := 478) 306 rfl ?_
      obtain ⟨hs68, h⟩ := h
      refine ex_roload (pc := 479) 307 rfl (Or.inr rfl) hs68 ?_
      refine ex_aload_n (pc := 480) 308 rfl rfl ?_
      refine ex_iload_n (pc := 481) 309 rfl rfl ?_
      refine ex_bipush (pc := 482) 310 rfl (by decide) ?_
      refine ex_iadd (pc := 484) 311 rfl ?_
      obtain ⟨hs69, h⟩ := h
      refine ex_roload (pc := 485) 312 rfl (Or.inr rfl) hs69 ?_
      refine ex_invV (pc := 486) (M' := mX7_follows) (As := [.inl (G.rom 39 (v3 + 1)), .inl (G.rom 39 (v3 + 2)), .inl (G.rom 39 (v3 + 3)), .inl (G.rom 39 (v3 + 4)), .inl (G.rom 39 (v3 + 5)), .inl (G.rom 39 (v3 + 6))]) (st := []) 313 rfl clk7 rfl rfl calX7_follows (Or.inl ww_594) rfl rfl ?_
      refine vm_call.mono h ?_
      rintro m70 _ ⟨r71, rfl, h⟩
      refine ex_aload_n (pc := 489) 314 rfl rfl ?_
      refine ex_aload_n (pc := 490) 315 rfl rfl ?_
      refine ex_iload_n (pc := 491) 316 rfl rfl ?_
      refine ex_iconst (pc := 492) 317 rfl ?_
      refine ex_iadd (pc := 493) 318 rfl ?_
      refine ex_roload (pc := 494) 319 rfl (Or.inr rfl) hs64 ?_
      refine ex_aload_n (pc := 495) 320 rfl rfl ?_
      refine ex_iload_n (pc := 496) 321 rfl rfl ?_
      refine ex_iconst (pc := 497) 322 rfl ?_
      refine ex_iadd (pc := 498) 323 rfl ?_
      refine ex_roload (pc := 499) 324 rfl (Or.inr rfl) hs65 ?_
      refine ex_aload_n (pc := 500) 325 rfl rfl ?_
      refine ex_iload_n (pc := 501) 326 rfl rfl ?_
      refine ex_iconst (pc := 502) 327 rfl ?_
      refine ex_iadd (pc := 503) 328 rfl ?_
      refine ex_roload (pc := 504) 329 rfl (Or.inr rfl) hs66 ?_
      refine ex_aload_n (pc := 505) 330 rfl rfl ?_
      refine ex_iload_n (pc := 506) 331 rfl rfl ?_
      refine ex_iconst (pc := 507) 332 rfl ?_
      refine ex_iadd (pc := 508) 333 rfl ?_
      refine ex_roload (pc := 509) 334 rfl (Or.inr rfl) hs67 ?_
      refine ex_aload_n (pc := 510) 335 rfl rfl ?_
      refine ex_iload_n (pc := 511) 336 rfl rfl ?_
      refine ex_iconst (pc := 512) 337 rfl ?_
      refine ex_iadd (pc := 513) 338 rfl ?_
      refine ex_roload (pc := 514) 339 rfl (Or.inr rfl) hs68 ?_
      refine ex_aload_n (pc := 515) 340 rfl rfl ?_
      refine ex_iload_n (pc := 516) 341 rfl rfl ?_
      refine ex_bipush (pc := 517) 342 rfl (by decide) ?_
      refine ex_iadd (pc := 519) 343 rfl ?_
      refine ex_roload (pc := 520) 344 rfl (Or.inr rfl) hs69 ?_
      refine ex_invV (pc := 521) (M' := mX8_follows) (As := [.inl (G.rom 39 (v3 + 1)), .inl (G.rom 39 (v3 + 2)), .inl (G.rom 39 (v3 + 3)), .inl (G.rom 39 (v3 + 4)), .inl (G.rom 39 (v3 + 5)), .inl (G.rom 39 (v3 + 6))]) (st := [.inl r71]) 345 rfl clk8 rfl rfl calX8_follows (Or.inl ww_1022) rfl rfl ?_
      refine vm_call.mono h ?_
      rintro m72 _ ⟨r73, rfl, h⟩
      refine ex_icmp_eqT (pc := 524) 749 346 rfl (by decide) h.1 ?_
      have h := h.2
      refine ex_iinc (pc := 749) 503 rfl rfl rfl rfl ?_
      refine ex_goto (pc := 752) 18 504 rfl (by decide) ?_
      exact h
    · have h := h11 hb
      refine ex_aload_n (pc := 529) 349 rfl rfl ?_
      refine ex_invV (pc := 530) (M' := mX7_contradiction) (As := []) (st := []) 350 rfl clk7 rfl rfl calX7_contradiction (Or.inl ww_617) rfl rfl ?_
      refine vm_call.mono h ?_
      rintro m74 _ ⟨r75, rfl, h⟩
      refine ex_aload_n (pc := 533) 351 rfl rfl ?_
      refine ex_invV (pc := 534) (M' := mX8_contradiction) (As := []) (st := [.inl r75]) 352 rfl clk8 rfl rfl calX8_contradiction (Or.inl ww_1038) rfl rfl ?_
      refine vm_call.mono h ?_
      rintro m76 _ ⟨r77, rfl, h⟩
      refine ex_icmp_eqT (pc := 537) 749 353 rfl (by decide) h.1 ?_
      have h := h.2
      refine ex_iinc (pc := 749) 503 rfl rfl rfl rfl ?_
      refine ex_goto (pc := 752) 18 504 rfl (by decide) ?_
      exact h
    · have h := h12 hb
      refine ex_aload_n (pc := 542) 356 rfl rfl ?_
      refine ex_aload_n (pc := 543) 357 rfl rfl ?_
      refine ex_iload_n (pc := 544) 358 rfl rfl ?_
      refine ex_iconst (pc := 545) 359 rfl ?_
      refine ex_iadd (pc := 546) 360 rfl ?_
      obtain ⟨hs78, h⟩ := h
      refine ex_roload (pc := 547) 361 rfl (Or.inr rfl) hs78 ?_
      refine ex_aload_n (pc := 548) 362 rfl rfl ?_
      refine ex_iload_n (pc := 549) 363 rfl rfl ?_
      refine ex_iconst (pc := 550) 364 rfl ?_
      refine ex_iadd (pc := 551) 365 rfl ?_
      obtain ⟨hs79, h⟩ := h
      refine ex_roload (pc := 552) 366 rfl (Or.inr rfl) hs79 ?_
      refine ex_aload_n (pc := 553) 367 rfl rfl ?_
      refine ex_iload_n (pc := 554) 368 rfl rfl ?_
      refine ex_iconst (pc := 555) 369 rfl ?_
      refine ex_iadd (pc := 556) 370 rfl ?_
      obtain ⟨hs80, h⟩ := h
      refine ex_roload (pc := 557) 371 rfl (Or.inr rfl) hs80 ?_
      refine ex_invV (pc := 558) (M' := mX7_reason) (As := [.inl (G.rom 39 (v3 + 1)), .inl (G.rom 39 (v3 + 2)), .inl (G.rom 39 (v3 + 3))]) (st := []) 372 rfl clk7 rfl rfl calX7_reason (Or.inl ww_621) rfl rfl ?_
      refine vm_call.mono h ?_
      rintro m81 _ ⟨r82, rfl, h⟩
      refine ex_aload_n (pc := 561) 373 rfl rfl ?_
      refine ex_aload_n (pc := 562) 374 rfl rfl ?_
      refine ex_iload_n (pc := 563) 375 rfl rfl ?_
      refine ex_iconst (pc := 564) 376 rfl ?_
      refine ex_iadd (pc := 565) 377 rfl ?_
      refine ex_roload (pc := 566) 378 rfl (Or.inr rfl) hs78 ?_
      refine ex_aload_n (pc := 567) 379 rfl rfl ?_
      refine ex_iload_n (pc := 568) 380 rfl rfl ?_
      refine ex_iconst (pc := 569) 381 rfl ?_
      refine ex_iadd (pc := 570) 382 rfl ?_
      refine ex_roload (pc := 571) 383 rfl (Or.inr rfl) hs79 ?_
      refine ex_aload_n (pc := 572) 384 rfl rfl ?_
      refine ex_iload_n (pc := 573) 385 rfl rfl ?_
      refine ex_iconst (pc := 574) 386 rfl ?_
      refine ex_iadd (pc := 575) 387 rfl ?_
      refine ex_roload (pc := 576) 388 rfl (Or.inr rfl) hs80 ?_
      refine ex_invV (pc := 577) (M' := mX8_reason) (As := [.inl (G.rom 39 (v3 + 1)), .inl (G.rom 39 (v3 + 2)), .inl (G.rom 39 (v3 + 3))]) (st := [.inl r82]) 389 rfl clk8 rfl rfl calX8_reason (Or.inl ww_1042) rfl rfl ?_
      refine vm_call.mono h ?_
      rintro m83 _ ⟨r84, rfl, h⟩
      refine ex_icmp_eqT (pc := 580) 749 390 rfl (by decide) h.1 ?_
      have h := h.2
      refine ex_iinc (pc := 749) 503 rfl rfl rfl rfl ?_
      refine ex_goto (pc := 752) 18 504 rfl (by decide) ?_
      exact h
    · have h := h13 hb
      refine ex_aload_n (pc := 585) 393 rfl rfl ?_
      refine ex_invV (pc := 586) (M' := mX7_needless) (As := []) (st := []) 394 rfl clk7 rfl rfl calX7_needless (Or.inl ww_625) rfl rfl ?_
      refine vm_call.mono h ?_
      rintro m85 _ ⟨r86, rfl, h⟩
      refine ex_aload_n (pc := 589) 395 rfl rfl ?_
      refine ex_invV (pc := 590) (M' := mX8_needless) (As := []) (st := [.inl r86]) 396 rfl clk8 rfl rfl calX8_needless (Or.inl ww_1046) rfl rfl ?_
      refine vm_call.mono h ?_
      rintro m87 _ ⟨r88, rfl, h⟩
      refine ex_icmp_eqT (pc := 593) 749 397 rfl (by decide) h.1 ?_
      have h := h.2
      refine ex_iinc (pc := 749) 503 rfl rfl rfl rfl ?_
      refine ex_goto (pc := 752) 18 504 rfl (by decide) ?_
      exact h
    · have h := h14 hb
      refine ex_aload_n (pc := 598) 400 rfl rfl ?_
      refine ex_aload_n (pc := 599) 401 rfl rfl ?_
      refine ex_iload_n (pc := 600) 402 rfl rfl ?_
      refine ex_iconst (pc := 601) 403 rfl ?_
      refine ex_iadd (pc := 602) 404 rfl ?_
      obtain ⟨hs89, h⟩ := h
      refine ex_roload (pc := 603) 405 rfl (Or.inr rfl) hs89 ?_
      obtain ⟨hs90, h⟩ := h
      refine ex_i2l (pc := 604) 406 rfl hs90 ?_
      refine ex_bipush (pc := 605) 407 rfl (by decide) ?_
      refine ex_lshl (pc := 607) 408 rfl ?_
      refine ex_aload_n (pc := 608) 409 rfl rfl ?_
      refine ex_iload_n (pc := 609) 410 rfl rfl ?_
      refine ex_iconst (pc := 610) 411 rfl ?_
      refine ex_iadd (pc := 611) 412 rfl ?_
      obtain ⟨hs91, h⟩ := h
      refine ex_roload (pc := 612) 413 rfl (Or.inr rfl) hs91 ?_
      obtain ⟨hs92, h⟩ := h
      refine ex_i2l (pc := 613) 414 rfl hs92 ?_
      refine ex_ldc2 (n := 4294967295) (pc := 614) 415 rfl ww_1128 (by decide) ?_
      refine ex_land (pc := 617) 416 rfl ?_
      refine ex_lor (pc := 618) 417 rfl ?_
      refine ex_invV (pc := 619) (M' := mX7_put) (As := [.inr (.inl (vm_lor (vm_lshl (G.rom 39 (v3 + 1)) 32) (vm_land (G.rom 39 (v3 + 2)) 4294967295)))]) (st := []) 418 rfl clk7 rfl rfl calX7_put (Or.inl ww_629) rfl rfl ?_
      refine vm_call.mono h ?_
      rintro m93 _ ⟨r94, rfl, h⟩
      refine ex_aload_n (pc := 622) 419 rfl rfl ?_
      refine ex_aload_n (pc := 623) 420 rfl rfl ?_
      refine ex_iload_n (pc := 624) 421 rfl rfl ?_
      refine ex_iconst (pc := 625) 422 rfl ?_
      refine ex_iadd (pc := 626) 423 rfl ?_
      refine ex_roload (pc := 627) 424 rfl (Or.inr rfl) hs89 ?_
      refine ex_i2l (pc := 628) 425 rfl hs90 ?_
      refine ex_bipush (pc := 629) 426 rfl (by decide) ?_
      refine ex_lshl (pc := 631) 427 rfl ?_
      refine ex_aload_n (pc := 632) 428 rfl rfl ?_
      refine ex_iload_n (pc := 633) 429 rfl rfl ?_
      refine ex_iconst (pc := 634) 430 rfl ?_
      refine ex_iadd (pc := 635) 431 rfl ?_
      refine ex_roload (pc := 636) 432 rfl (Or.inr rfl) hs91 ?_
      refine ex_i2l (pc := 637) 433 rfl hs92 ?_
      refine ex_ldc2 (n := 4294967295) (pc := 638) 434 rfl ww_1128 (by decide) ?_
      refine ex_land (pc := 641) 435 rfl ?_
      refine ex_lor (pc := 642) 436 rfl ?_
      refine ex_invV (pc := 643) (M' := mX8_put) (As := [.inr (.inl (vm_lor (vm_lshl (G.rom 39 (v3 + 1)) 32) (vm_land (G.rom 39 (v3 + 2)) 4294967295)))]) (st := [.inl r94]) 437 rfl clk8 rfl rfl calX8_put (Or.inl ww_1050) rfl rfl ?_
      refine vm_call.mono h ?_
      rintro m95 _ ⟨r96, rfl, h⟩
      refine ex_icmp_eqT (pc := 646) 749 438 rfl (by decide) h.1 ?_
      have h := h.2
      refine ex_iinc (pc := 749) 503 rfl rfl rfl rfl ?_
      refine ex_goto (pc := 752) 18 504 rfl (by decide) ?_
      exact h
    · have h := h15 hb
      refine ex_aload_n (pc := 651) 441 rfl rfl ?_
      refine ex_invV (pc := 652) (M' := mX7_wipe) (As := []) (st := []) 442 rfl clk7 rfl rfl calX7_wipe (Or.inl ww_647) rfl rfl ?_
      refine vm_call.mono h ?_
      rintro m97 _ ⟨r98, rfl, h⟩
      refine ex_aload_n (pc := 655) 443 rfl rfl ?_
      refine ex_invV (pc := 656) (M' := mX8_wipe) (As := []) (st := [.inl r98]) 444 rfl clk8 rfl rfl calX8_wipe (Or.inl ww_1055) rfl rfl ?_
      refine vm_call.mono h ?_
      rintro m99 _ ⟨r100, rfl, h⟩
      refine ex_icmp_eqT (pc := 659) 749 445 rfl (by decide) h.1 ?_
      have h := h.2
      refine ex_iinc (pc := 749) 503 rfl rfl rfl rfl ?_
      refine ex_goto (pc := 752) 18 504 rfl (by decide) ?_
      exact h
    · have h := h16 hb
      refine ex_aload_n (pc := 664) 448 rfl rfl ?_
      refine ex_invV (pc := 665) (M' := mX7_fault) (As := []) (st := []) 449 rfl clk7 rfl rfl calX7_fault (Or.inl ww_655) rfl rfl ?_
      refine vm_call.mono h ?_
      rintro m101 _ ⟨r102, rfl, h⟩
      refine ex_aload_n (pc := 668) 450 rfl rfl ?_
      refine ex_invV (pc := 669) (M' := mX8_fault) (As := []) (st := [.inl r102]) 451 rfl clk8 rfl rfl calX8_fault (Or.inl ww_1059) rfl rfl ?_
      refine vm_call.mono h ?_
      rintro m103 _ ⟨r104, rfl, h⟩
      refine ex_icmp_eqT (pc := 672) 749 452 rfl (by decide) h.1 ?_
      have h := h.2
      refine ex_iinc (pc := 749) 503 rfl rfl rfl rfl ?_
      refine ex_goto (pc := 752) 18 504 rfl (by decide) ?_
      exact h
    · have h := h17 hb
      refine ex_aload_n (pc := 677) 455 rfl rfl ?_
      refine ex_invV (pc := 678) (M' := mX7_tell) (As := []) (st := []) 456 rfl clk7 rfl rfl calX7_tell (Or.inl ww_703) rfl rfl ?_
      refine vm_call.mono h ?_
      rintro m105 _ ⟨r106, rfl, h⟩
      refine ex_aload_n (pc := 681) 457 rfl rfl ?_
      refine ex_invV (pc := 682) (M' := mX8_tell) (As := []) (st := [.inl r106]) 458 rfl clk8 rfl rfl calX8_tell (Or.inl ww_1107) rfl rfl ?_
      refine vm_call.mono h ?_
      rintro m107 _ ⟨r108, rfl, h⟩
      refine ex_icmp_eqT (pc := 685) 749 459 rfl (by decide) h.1 ?_
      have h := h.2
      refine ex_iinc (pc := 749) 503 rfl rfl rfl rfl ?_
      refine ex_goto (pc := 752) 18 504 rfl (by decide) ?_
      exact h
    · have h := h18 hb
      refine ex_aload_n (pc := 690) 462 rfl rfl ?_
      refine ex_invV (pc := 691) (M' := mX7_undo) (As := []) (st := []) 463 rfl clk7 rfl rfl calX7_undo (Or.inl ww_714) rfl rfl ?_
      refine vm_call.mono h ?_
      rintro m109 _ ⟨r110, rfl, h⟩
      refine ex_aload_n (pc := 694) 464 rfl rfl ?_
      refine ex_invV (pc := 695) (M' := mX8_undo) (As := []) (st := [.inl r110]) 465 rfl clk8 rfl rfl calX8_undo (Or.inl ww_1116) rfl rfl ?_
      refine vm_call.mono h ?_
      rintro m111 _ ⟨r112, rfl, h⟩
      refine ex_icmp_eqT (pc := 698) 749 466 rfl (by decide) h.1 ?_
      have h := h.2
      refine ex_iinc (pc := 749) 503 rfl rfl rfl rfl ?_
      refine ex_goto (pc := 752) 18 504 rfl (by decide) ?_
      exact h
    · have h := h19 hb
      refine ex_aload_n (pc := 703) 469 rfl rfl ?_
      refine ex_aload_n (pc := 704) 470 rfl rfl ?_
      refine ex_iload_n (pc := 705) 471 rfl rfl ?_
      refine ex_iconst (pc := 706) 472 rfl ?_
      refine ex_iadd (pc := 707) 473 rfl ?_
      obtain ⟨hs113, h⟩ := h
      refine ex_roload (pc := 708) 474 rfl (Or.inr rfl) hs113 ?_
      refine ex_invV (pc := 709) (M' := mX7_save) (As := [.inl (G.rom 39 (v3 + 1))]) (st := []) 475 rfl clk7 rfl rfl calX7_save (Or.inl ww_726) rfl rfl ?_
      refine vm_call.mono h ?_
      rintro m114 _ ⟨r115, rfl, h⟩
      refine ex_aload_n (pc := 712) 476 rfl rfl ?_
      refine ex_aload_n (pc := 713) 477 rfl rfl ?_
      refine ex_iload_n (pc := 714) 478 rfl rfl ?_
      refine ex_iconst (pc := 715) 479 rfl ?_
      refine ex_iadd (pc := 716) 480 rfl ?_
      refine ex_roload (pc := 717) 481 rfl (Or.inr rfl) hs113 ?_
      refine ex_invV (pc := 718) (M' := mX8_save) (As := [.inl (G.rom 39 (v3 + 1))]) (st := [.inl r115]) 482 rfl clk8 rfl rfl calX8_save (Or.inl ww_1120) rfl rfl ?_
      refine vm_call.mono h ?_
      rintro m116 _ ⟨r117, rfl, h⟩
      refine ex_icmp_eqT (pc := 721) 749 483 rfl (by decide) h.1 ?_
      have h := h.2
      refine ex_iinc (pc := 749) 503 rfl rfl rfl rfl ?_
      refine ex_goto (pc := 752) 18 504 rfl (by decide) ?_
      exact h
    · have h := h20 hb
      refine ex_aload_n (pc := 726) 486 rfl rfl ?_
      refine ex_aload_n (pc := 727) 487 rfl rfl ?_
      refine ex_iload_n (pc := 728) 488 rfl rfl ?_
      refine ex_iconst (pc := 729) 489 rfl ?_
      refine ex_iadd (pc := 730) 490 rfl ?_
      obtain ⟨hs118, h⟩ := h
      refine ex_roload (pc := 731) 491 rfl (Or.inr rfl) hs118 ?_
      refine ex_invV (pc := 732) (M' := mX7_restore) (As := [.inl (G.rom 39 (v3 + 1))]) (st := []) 492 rfl clk7 rfl rfl calX7_restore (Or.inl ww_730) rfl rfl ?_
      refine vm_call.mono h ?_
      rintro m119 _ ⟨r120, rfl, h⟩
      refine ex_aload_n (pc := 735) 493 rfl rfl ?_
      refine ex_aload_n (pc := 736) 494 rfl rfl ?_
      refine ex_iload_n (pc := 737) 495 rfl rfl ?_
      refine ex_iconst (pc := 738) 496 rfl ?_
      refine ex_iadd (pc := 739) 497 rfl ?_
      refine ex_roload (pc := 740) 498 rfl (Or.inr rfl) hs118 ?_
      refine ex_invV (pc := 741) (M' := mX8_restore) (As := [.inl (G.rom 39 (v3 + 1))]) (st := [.inl r120]) 499 rfl clk8 rfl rfl calX8_restore (Or.inl ww_1124) rfl rfl ?_
      refine vm_call.mono h ?_
      rintro m121 _ ⟨r122, rfl, h⟩
      refine ex_icmp_eqT (pc := 744) 749 500 rfl (by decide) h.1 ?_
      have h := h.2
      refine ex_iinc (pc := 749) 503 rfl rfl rfl rfl ?_
      refine ex_goto (pc := 752) 18 504 rfl (by decide) ?_
      exact h
    · have h := h21 hb
      refine ex_iinc (pc := 749) 503 rfl rfl rfl rfl ?_
      refine ex_goto (pc := 752) 18 504 rfl (by decide) ?_
      exact h
