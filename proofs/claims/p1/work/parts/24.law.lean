/-! The law's own rows and equations (by program, wip/whole/gen20.py) -/
noncomputable def cd_L : AC := [(0, .new 7, 3, 11, 0, 0, 0), (3, .dup, 1, 0, 0, 0, 0), (4, .invokespecial 9, 3, 98, 1, 0, 0), (7, .astore_n 1, 1, 0, 0, 0, 0), (8, .new 10, 3, 12, 0, 0, 0), (11, .dup, 1, 0, 0, 0, 0), (12, .invokespecial 12, 3, 155, 1, 0, 0), (15, .astore_n 2, 1, 0, 0, 0, 0), (16, .iconst 0, 1, 0, 0, 0, 0), (17, .istore_n 3, 1, 0, 0, 0, 0), (18, .iload_n 3, 1, 0, 0, 0, 0), (19, .aload_n 0, 1, 0, 0, 0, 0), (20, .arraylength, 1, 0, 0, 0, 0), (21, .bipush 6, 2, 0, 0, 0, 0), (23, .isub, 1, 0, 0, 0, 0), (24, .if_icmp .gt 1228, 3, 0, 0, 0, 0), (27, .aload_n 0, 1, 0, 0, 0, 0), (28, .iload_n 3, 1, 0, 0, 0, 0), (29, .iaload, 1, 0, 0, 0, 0), (30, .bipush 63, 2, 0, 0, 0, 0), (32, .iand, 1, 0, 0, 0, 0), (33, .tableswitch 1213 0 40 #[179, 212, 245, 278, 321, 364, 397, 460, 483, 496, 509, 522, 535, 548, 561, 584, 617, 660, 693, 706, 719, 742, 755, 778, 801, 814, 837, 860, 883, 906, 939, 952, 965, 988, 1022, 1065, 1098, 1131, 1154, 1177, 1200], 179, 0, 0, 0, 0), (212, .aload_n 1, 1, 0, 0, 0, 0), (213, .aload_n 0, 1, 0, 0, 0, 0), (214, .iload_n 3, 1, 0, 0, 0, 0), (215, .iconst 1, 1, 0, 0, 0, 0), (216, .iadd, 1, 0, 0, 0, 0), (217, .iaload, 1, 0, 0, 0, 0), (218, .aload_n 0, 1, 0, 0, 0, 0), (219, .iload_n 3, 1, 0, 0, 0, 0), (220, .iconst 2, 1, 0, 0, 0, 0), (221, .iadd, 1, 0, 0, 0, 0), (222, .iaload, 1, 0, 0, 0, 0), (223, .invokevirtual 13, 3, 99, 3, 1, 11), (226, .aload_n 2, 1, 0, 0, 0, 0), (227, .aload_n 0, 1, 0, 0, 0, 0), (228, .iload_n 3, 1, 0, 0, 0, 0), (229, .iconst 1, 1, 0, 0, 0, 0), (230, .iadd, 1, 0, 0, 0, 0), (231, .iaload, 1, 0, 0, 0, 0), (232, .aload_n 0, 1, 0, 0, 0, 0), (233, .iload_n 3, 1, 0, 0, 0, 0), (234, .iconst 2, 1, 0, 0, 0, 0), (235, .iadd, 1, 0, 0, 0, 0), (236, .iaload, 1, 0, 0, 0, 0), (237, .invokevirtual 17, 3, 164, 3, 1, 12), (240, .if_icmp .eq 1006, 3, 0, 0, 0, 0), (243, .iconst 0, 1, 0, 0, 0, 0), (244, .ireturn, 1, 0, 0, 0, 0), (245, .aload_n 1, 1, 0, 0, 0, 0), (246, .aload_n 0, 1, 0, 0, 0, 0), (247, .iload_n 3, 1, 0, 0, 0, 0), (248, .iconst 1, 1, 0, 0, 0, 0), (249, .iadd, 1, 0, 0, 0, 0), (250, .iaload, 1, 0, 0, 0, 0), (251, .aload_n 0, 1, 0, 0, 0, 0), (252, .iload_n 3, 1, 0, 0, 0, 0), (253, .iconst 2, 1, 0, 0, 0, 0), (254, .iadd, 1, 0, 0, 0, 0), (255, .iaload, 1, 0, 0, 0, 0), (256, .invokevirtual 18, 3, 100, 3, 1, 11), (259, .aload_n 2, 1, 0, 0, 0, 0), (260, .aload_n 0, 1, 0, 0, 0, 0), (261, .iload_n 3, 1, 0, 0, 0, 0), (262, .iconst 1, 1, 0, 0, 0, 0), (263, .iadd, 1, 0, 0, 0, 0), (264, .iaload, 1, 0, 0, 0, 0), (265, .aload_n 0, 1, 0, 0, 0, 0), (266, .iload_n 3, 1, 0, 0, 0, 0), (267, .iconst 2, 1, 0, 0, 0, 0), (268, .iadd, 1, 0, 0, 0, 0), (269, .iaload, 1, 0, 0, 0, 0), (270, .invokevirtual 21, 3, 165, 3, 1, 12), (273, .if_icmp .eq 973, 3, 0, 0, 0, 0), (276, .iconst 0, 1, 0, 0, 0, 0), (277, .ireturn, 1, 0, 0, 0, 0), (278, .aload_n 1, 1, 0, 0, 0, 0), (279, .aload_n 0, 1, 0, 0, 0, 0), (280, .iload_n 3, 1, 0, 0, 0, 0), (281, .iconst 1, 1, 0, 0, 0, 0), (282, .iadd, 1, 0, 0, 0, 0), (283, .iaload, 1, 0, 0, 0, 0), (284, .aload_n 0, 1, 0, 0, 0, 0), (285, .iload_n 3, 1, 0, 0, 0, 0), (286, .iconst 2, 1, 0, 0, 0, 0), (287, .iadd, 1, 0, 0, 0, 0), (288, .iaload, 1, 0, 0, 0, 0), (289, .invokevirtual 22, 3, 101, 3, 1, 11), (292, .aload_n 2, 1, 0, 0, 0, 0), (293, .aload_n 0, 1, 0, 0, 0, 0), (294, .iload_n 3, 1, 0, 0, 0, 0), (295, .iconst 1, 1, 0, 0, 0, 0), (296, .iadd, 1, 0, 0, 0, 0), (297, .iaload, 1, 0, 0, 0, 0), (298, .aload_n 0, 1, 0, 0, 0, 0), (299, .iload_n 3, 1, 0, 0, 0, 0), (300, .iconst 2, 1, 0, 0, 0, 0), (301, .iadd, 1, 0, 0, 0, 0), (302, .iaload, 1, 0, 0, 0, 0), (303, .invokevirtual 25, 3, 166, 3, 1, 12), (306, .if_icmp .eq 940, 3, 0, 0, 0, 0), (309, .iconst 0, 1, 0, 0, 0, 0), (310, .ireturn, 1, 0, 0, 0, 0), (311, .aload_n 1, 1, 0, 0, 0, 0), (312, .aload_n 0, 1, 0, 0, 0, 0), (313, .iload_n 3, 1, 0, 0, 0, 0), (314, .iconst 1, 1, 0, 0, 0, 0), (315, .iadd, 1, 0, 0, 0, 0), (316, .iaload, 1, 0, 0, 0, 0), (317, .aload_n 0, 1, 0, 0, 0, 0), (318, .iload_n 3, 1, 0, 0, 0, 0), (319, .iconst 2, 1, 0, 0, 0, 0), (320, .iadd, 1, 0, 0, 0, 0), (321, .iaload, 1, 0, 0, 0, 0), (322, .aload_n 0, 1, 0, 0, 0, 0), (323, .iload_n 3, 1, 0, 0, 0, 0), (324, .iconst 3, 1, 0, 0, 0, 0), (325, .iadd, 1, 0, 0, 0, 0), (326, .iaload, 1, 0, 0, 0, 0), (327, .invokevirtual 26, 3, 102, 4, 1, 11), (330, .aload_n 2, 1, 0, 0, 0, 0), (331, .aload_n 0, 1, 0, 0, 0, 0), (332, .iload_n 3, 1, 0, 0, 0, 0), (333, .iconst 1, 1, 0, 0, 0, 0), (334, .iadd, 1, 0, 0, 0, 0), (335, .iaload, 1, 0, 0, 0, 0), (336, .aload_n 0, 1, 0, 0, 0, 0), (337, .iload_n 3, 1, 0, 0, 0, 0), (338, .iconst 2, 1, 0, 0, 0, 0), (339, .iadd, 1, 0, 0, 0, 0), (340, .iaload, 1, 0, 0, 0, 0), (341, .aload_n 0, 1, 0, 0, 0, 0), (342, .iload_n 3, 1, 0, 0, 0, 0), (343, .iconst 3, 1, 0, 0, 0, 0), (344, .iadd, 1, 0, 0, 0, 0), (345, .iaload, 1, 0, 0, 0, 0), (346, .invokevirtual 30, 3, 170, 4, 1, 12), (349, .if_icmp .eq 897, 3, 0, 0, 0, 0), (352, .iconst 0, 1, 0, 0, 0, 0), (353, .ireturn, 1, 0, 0, 0, 0), (354, .aload_n 1, 1, 0, 0, 0, 0), (355, .aload_n 0, 1, 0, 0, 0, 0), (356, .iload_n 3, 1, 0, 0, 0, 0), (357, .iconst 1, 1, 0, 0, 0, 0), (358, .iadd, 1, 0, 0, 0, 0), (359, .iaload, 1, 0, 0, 0, 0), (360, .aload_n 0, 1, 0, 0, 0, 0), (361, .iload_n 3, 1, 0, 0, 0, 0), (362, .iconst 2, 1, 0, 0, 0, 0), (363, .iadd, 1, 0, 0, 0, 0), (364, .iaload, 1, 0, 0, 0, 0), (365, .aload_n 0, 1, 0, 0, 0, 0), (366, .iload_n 3, 1, 0, 0, 0, 0), (367, .iconst 3, 1, 0, 0, 0, 0), (368, .iadd, 1, 0, 0, 0, 0), (369, .iaload, 1, 0, 0, 0, 0), (370, .invokevirtual 31, 3, 103, 4, 1, 11), (373, .aload_n 2, 1, 0, 0, 0, 0), (374, .aload_n 0, 1, 0, 0, 0, 0), (375, .iload_n 3, 1, 0, 0, 0, 0), (376, .iconst 1, 1, 0, 0, 0, 0), (377, .iadd, 1, 0, 0, 0, 0), (378, .iaload, 1, 0, 0, 0, 0), (379, .aload_n 0, 1, 0, 0, 0, 0), (380, .iload_n 3, 1, 0, 0, 0, 0), (381, .iconst 2, 1, 0, 0, 0, 0), (382, .iadd, 1, 0, 0, 0, 0), (383, .iaload, 1, 0, 0, 0, 0), (384, .aload_n 0, 1, 0, 0, 0, 0), (385, .iload_n 3, 1, 0, 0, 0, 0), (386, .iconst 3, 1, 0, 0, 0, 0), (387, .iadd, 1, 0, 0, 0, 0), (388, .iaload, 1, 0, 0, 0, 0), (389, .invokevirtual 34, 3, 171, 4, 1, 12), (392, .if_icmp .eq 854, 3, 0, 0, 0, 0), (395, .iconst 0, 1, 0, 0, 0, 0), (396, .ireturn, 1, 0, 0, 0, 0), (397, .aload_n 1, 1, 0, 0, 0, 0), (398, .aload_n 0, 1, 0, 0, 0, 0), (399, .iload_n 3, 1, 0, 0, 0, 0), (400, .iconst 1, 1, 0, 0, 0, 0), (401, .iadd, 1, 0, 0, 0, 0), (402, .iaload, 1, 0, 0, 0, 0), (403, .aload_n 0, 1, 0, 0, 0, 0), (404, .iload_n 3, 1, 0, 0, 0, 0), (405, .iconst 2, 1, 0, 0, 0, 0), (406, .iadd, 1, 0, 0, 0, 0), (407, .iaload, 1, 0, 0, 0, 0), (408, .invokevirtual 35, 3, 104, 3, 1, 11), (411, .aload_n 2, 1, 0, 0, 0, 0), (412, .aload_n 0, 1, 0, 0, 0, 0), (413, .iload_n 3, 1, 0, 0, 0, 0), (414, .iconst 1, 1, 0, 0, 0, 0), (415, .iadd, 1, 0, 0, 0, 0), (416, .iaload, 1, 0, 0, 0, 0), (417, .aload_n 0, 1, 0, 0, 0, 0), (418, .iload_n 3, 1, 0, 0, 0, 0), (419, .iconst 2, 1, 0, 0, 0, 0), (420, .iadd, 1, 0, 0, 0, 0), (421, .iaload, 1, 0, 0, 0, 0), (422, .invokevirtual 38, 3, 174, 3, 1, 12), (425, .if_icmp .eq 821, 3, 0, 0, 0, 0), (428, .iconst 0, 1, 0, 0, 0, 0), (429, .ireturn, 1, 0, 0, 0, 0), (430, .aload_n 1, 1, 0, 0, 0, 0), (431, .aload_n 0, 1, 0, 0, 0, 0), (432, .iload_n 3, 1, 0, 0, 0, 0), (433, .iconst 1, 1, 0, 0, 0, 0), (434, .iadd, 1, 0, 0, 0, 0), (435, .iaload, 1, 0, 0, 0, 0), (436, .aload_n 0, 1, 0, 0, 0, 0), (437, .iload_n 3, 1, 0, 0, 0, 0), (438, .iconst 2, 1, 0, 0, 0, 0), (439, .iadd, 1, 0, 0, 0, 0), (440, .iaload, 1, 0, 0, 0, 0), (441, .aload_n 0, 1, 0, 0, 0, 0), (442, .iload_n 3, 1, 0, 0, 0, 0), (443, .iconst 3, 1, 0, 0, 0, 0), (444, .iadd, 1, 0, 0, 0, 0), (445, .iaload, 1, 0, 0, 0, 0), (446, .aload_n 0, 1, 0, 0, 0, 0), (447, .iload_n 3, 1, 0, 0, 0, 0), (448, .iconst 4, 1, 0, 0, 0, 0), (449, .iadd, 1, 0, 0, 0, 0), (450, .iaload, 1, 0, 0, 0, 0), (451, .aload_n 0, 1, 0, 0, 0, 0), (452, .iload_n 3, 1, 0, 0, 0, 0), (453, .iconst 5, 1, 0, 0, 0, 0), (454, .iadd, 1, 0, 0, 0, 0), (455, .iaload, 1, 0, 0, 0, 0), (456, .invokevirtual 39, 3, 105, 6, 1, 11), (459, .aload_n 2, 1, 0, 0, 0, 0), (460, .aload_n 0, 1, 0, 0, 0, 0), (461, .iload_n 3, 1, 0, 0, 0, 0), (462, .iconst 1, 1, 0, 0, 0, 0), (463, .iadd, 1, 0, 0, 0, 0), (464, .iaload, 1, 0, 0, 0, 0), (465, .aload_n 0, 1, 0, 0, 0, 0), (466, .iload_n 3, 1, 0, 0, 0, 0), (467, .iconst 2, 1, 0, 0, 0, 0), (468, .iadd, 1, 0, 0, 0, 0), (469, .iaload, 1, 0, 0, 0, 0), (470, .aload_n 0, 1, 0, 0, 0, 0), (471, .iload_n 3, 1, 0, 0, 0, 0), (472, .iconst 3, 1, 0, 0, 0, 0), (473, .iadd, 1, 0, 0, 0, 0), (474, .iaload, 1, 0, 0, 0, 0), (475, .aload_n 0, 1, 0, 0, 0, 0), (476, .iload_n 3, 1, 0, 0, 0, 0), (477, .iconst 4, 1, 0, 0, 0, 0), (478, .iadd, 1, 0, 0, 0, 0), (479, .iaload, 1, 0, 0, 0, 0), (480, .aload_n 0, 1, 0, 0, 0, 0), (481, .iload_n 3, 1, 0, 0, 0, 0), (482, .iconst 5, 1, 0, 0, 0, 0), (483, .iadd, 1, 0, 0, 0, 0), (484, .iaload, 1, 0, 0, 0, 0), (485, .invokevirtual 43, 3, 177, 6, 1, 12), (488, .if_icmp .eq 758, 3, 0, 0, 0, 0), (491, .iconst 0, 1, 0, 0, 0, 0), (492, .ireturn, 1, 0, 0, 0, 0), (493, .aload_n 1, 1, 0, 0, 0, 0), (494, .aload_n 0, 1, 0, 0, 0, 0), (495, .iload_n 3, 1, 0, 0, 0, 0), (496, .iconst 1, 1, 0, 0, 0, 0), (497, .iadd, 1, 0, 0, 0, 0), (498, .iaload, 1, 0, 0, 0, 0), (499, .invokevirtual 44, 3, 106, 2, 1, 11), (502, .aload_n 2, 1, 0, 0, 0, 0), (503, .aload_n 0, 1, 0, 0, 0, 0), (504, .iload_n 3, 1, 0, 0, 0, 0), (505, .iconst 1, 1, 0, 0, 0, 0), (506, .iadd, 1, 0, 0, 0, 0), (507, .iaload, 1, 0, 0, 0, 0), (508, .invokevirtual 48, 3, 178, 2, 1, 12), (511, .if_icmp .eq 735, 3, 0, 0, 0, 0), (514, .iconst 0, 1, 0, 0, 0, 0), (515, .ireturn, 1, 0, 0, 0, 0), (516, .aload_n 1, 1, 0, 0, 0, 0), (517, .invokevirtual 49, 3, 107, 1, 1, 11), (520, .aload_n 2, 1, 0, 0, 0, 0), (521, .invokevirtual 53, 3, 175, 1, 1, 12), (524, .if_icmp .eq 722, 3, 0, 0, 0, 0), (527, .iconst 0, 1, 0, 0, 0, 0), (528, .ireturn, 1, 0, 0, 0, 0), (529, .aload_n 1, 1, 0, 0, 0, 0), (530, .invokevirtual 54, 3, 108, 1, 1, 11), (533, .aload_n 2, 1, 0, 0, 0, 0), (534, .invokevirtual 57, 3, 176, 1, 1, 12), (537, .if_icmp .eq 709, 3, 0, 0, 0, 0), (540, .iconst 0, 1, 0, 0, 0, 0), (541, .ireturn, 1, 0, 0, 0, 0), (542, .aload_n 1, 1, 0, 0, 0, 0), (543, .invokevirtual 58, 3, 109, 1, 1, 11), (546, .aload_n 2, 1, 0, 0, 0, 0), (547, .invokevirtual 61, 3, 203, 1, 1, 12), (550, .if_icmp .eq 696, 3, 0, 0, 0, 0), (553, .iconst 0, 1, 0, 0, 0, 0), (554, .ireturn, 1, 0, 0, 0, 0), (555, .aload_n 1, 1, 0, 0, 0, 0), (556, .invokevirtual 62, 3, 110, 1, 1, 11), (559, .aload_n 2, 1, 0, 0, 0, 0), (560, .invokevirtual 65, 3, 279, 1, 1, 12), (563, .if_icmp .eq 683, 3, 0, 0, 0, 0), (566, .iconst 0, 1, 0, 0, 0, 0), (567, .ireturn, 1, 0, 0, 0, 0), (568, .aload_n 1, 1, 0, 0, 0, 0), (569, .invokevirtual 66, 3, 111, 1, 1, 11), (572, .aload_n 2, 1, 0, 0, 0, 0), (573, .invokevirtual 69, 3, 204, 1, 1, 12), (576, .if_icmp .eq 670, 3, 0, 0, 0, 0), (579, .iconst 0, 1, 0, 0, 0, 0), (580, .ireturn, 1, 0, 0, 0, 0), (581, .aload_n 1, 1, 0, 0, 0, 0), (582, .invokevirtual 70, 3, 112, 1, 1, 11), (585, .aload_n 2, 1, 0, 0, 0, 0), (586, .invokevirtual 73, 3, 278, 1, 1, 12), (589, .if_icmp .eq 657, 3, 0, 0, 0, 0), (592, .iconst 0, 1, 0, 0, 0, 0), (593, .ireturn, 1, 0, 0, 0, 0), (594, .aload_n 1, 1, 0, 0, 0, 0), (595, .aload_n 0, 1, 0, 0, 0, 0), (596, .iload_n 3, 1, 0, 0, 0, 0), (597, .iconst 1, 1, 0, 0, 0, 0), (598, .iadd, 1, 0, 0, 0, 0), (599, .iaload, 1, 0, 0, 0, 0), (600, .invokevirtual 74, 3, 113, 2, 1, 11), (603, .aload_n 2, 1, 0, 0, 0, 0), (604, .aload_n 0, 1, 0, 0, 0, 0), (605, .iload_n 3, 1, 0, 0, 0, 0), (606, .iconst 1, 1, 0, 0, 0, 0), (607, .iadd, 1, 0, 0, 0, 0), (608, .iaload, 1, 0, 0, 0, 0), (609, .invokevirtual 77, 3, 206, 2, 1, 12), (612, .if_icmp .eq 634, 3, 0, 0, 0, 0), (615, .iconst 0, 1, 0, 0, 0, 0), (616, .ireturn, 1, 0, 0, 0, 0), (617, .aload_n 1, 1, 0, 0, 0, 0), (618, .aload_n 0, 1, 0, 0, 0, 0), (619, .iload_n 3, 1, 0, 0, 0, 0), (620, .iconst 1, 1, 0, 0, 0, 0), (621, .iadd, 1, 0, 0, 0, 0), (622, .iaload, 1, 0, 0, 0, 0), (623, .aload_n 0, 1, 0, 0, 0, 0), (624, .iload_n 3, 1, 0, 0, 0, 0), (625, .iconst 2, 1, 0, 0, 0, 0), (626, .iadd, 1, 0, 0, 0, 0), (627, .iaload, 1, 0, 0, 0, 0), (628, .invokevirtual 78, 3, 114, 3, 1, 11), (631, .aload_n 2, 1, 0, 0, 0, 0), (632, .aload_n 0, 1, 0, 0, 0, 0), (633, .iload_n 3, 1, 0, 0, 0, 0), (634, .iconst 1, 1, 0, 0, 0, 0), (635, .iadd, 1, 0, 0, 0, 0), (636, .iaload, 1, 0, 0, 0, 0), (637, .aload_n 0, 1, 0, 0, 0, 0), (638, .iload_n 3, 1, 0, 0, 0, 0), (639, .iconst 2, 1, 0, 0, 0, 0), (640, .iadd, 1, 0, 0, 0, 0), (641, .iaload, 1, 0, 0, 0, 0), (642, .invokevirtual 81, 3, 240, 3, 1, 12), (645, .if_icmp .eq 601, 3, 0, 0, 0, 0), (648, .iconst 0, 1, 0, 0, 0, 0), (649, .ireturn, 1, 0, 0, 0, 0), (650, .aload_n 1, 1, 0, 0, 0, 0), (651, .aload_n 0, 1, 0, 0, 0, 0), (652, .iload_n 3, 1, 0, 0, 0, 0), (653, .iconst 1, 1, 0, 0, 0, 0), (654, .iadd, 1, 0, 0, 0, 0), (655, .iaload, 1, 0, 0, 0, 0), (656, .aload_n 0, 1, 0, 0, 0, 0), (657, .iload_n 3, 1, 0, 0, 0, 0), (658, .iconst 2, 1, 0, 0, 0, 0), (659, .iadd, 1, 0, 0, 0, 0), (660, .iaload, 1, 0, 0, 0, 0), (661, .aload_n 0, 1, 0, 0, 0, 0), (662, .iload_n 3, 1, 0, 0, 0, 0), (663, .iconst 3, 1, 0, 0, 0, 0), (664, .iadd, 1, 0, 0, 0, 0), (665, .iaload, 1, 0, 0, 0, 0), (666, .invokevirtual 82, 3, 115, 4, 1, 11), (669, .aload_n 2, 1, 0, 0, 0, 0), (670, .aload_n 0, 1, 0, 0, 0, 0), (671, .iload_n 3, 1, 0, 0, 0, 0), (672, .iconst 1, 1, 0, 0, 0, 0), (673, .iadd, 1, 0, 0, 0, 0), (674, .iaload, 1, 0, 0, 0, 0), (675, .aload_n 0, 1, 0, 0, 0, 0), (676, .iload_n 3, 1, 0, 0, 0, 0), (677, .iconst 2, 1, 0, 0, 0, 0), (678, .iadd, 1, 0, 0, 0, 0), (679, .iaload, 1, 0, 0, 0, 0), (680, .aload_n 0, 1, 0, 0, 0, 0), (681, .iload_n 3, 1, 0, 0, 0, 0), (682, .iconst 3, 1, 0, 0, 0, 0), (683, .iadd, 1, 0, 0, 0, 0), (684, .iaload, 1, 0, 0, 0, 0), (685, .invokevirtual 85, 3, 241, 4, 1, 12), (688, .if_icmp .eq 558, 3, 0, 0, 0, 0), (691, .iconst 0, 1, 0, 0, 0, 0), (692, .ireturn, 1, 0, 0, 0, 0), (693, .aload_n 1, 1, 0, 0, 0, 0), (694, .aload_n 0, 1, 0, 0, 0, 0), (695, .iload_n 3, 1, 0, 0, 0, 0), (696, .iconst 1, 1, 0, 0, 0, 0), (697, .iadd, 1, 0, 0, 0, 0), (698, .iaload, 1, 0, 0, 0, 0), (699, .aload_n 0, 1, 0, 0, 0, 0), (700, .iload_n 3, 1, 0, 0, 0, 0), (701, .iconst 2, 1, 0, 0, 0, 0), (702, .iadd, 1, 0, 0, 0, 0), (703, .iaload, 1, 0, 0, 0, 0), (704, .invokevirtual 86, 3, 116, 3, 1, 11), (707, .aload_n 2, 1, 0, 0, 0, 0), (708, .aload_n 0, 1, 0, 0, 0, 0), (709, .iload_n 3, 1, 0, 0, 0, 0), (710, .iconst 1, 1, 0, 0, 0, 0), (711, .iadd, 1, 0, 0, 0, 0), (712, .iaload, 1, 0, 0, 0, 0), (713, .aload_n 0, 1, 0, 0, 0, 0), (714, .iload_n 3, 1, 0, 0, 0, 0), (715, .iconst 2, 1, 0, 0, 0, 0), (716, .iadd, 1, 0, 0, 0, 0), (717, .iaload, 1, 0, 0, 0, 0), (718, .invokevirtual 89, 3, 242, 3, 1, 12), (721, .if_icmp .eq 525, 3, 0, 0, 0, 0), (724, .iconst 0, 1, 0, 0, 0, 0), (725, .ireturn, 1, 0, 0, 0, 0), (726, .aload_n 1, 1, 0, 0, 0, 0), (727, .invokevirtual 90, 3, 117, 1, 1, 11), (730, .aload_n 2, 1, 0, 0, 0, 0), (731, .invokevirtual 93, 3, 243, 1, 1, 12), (734, .if_icmp .eq 512, 3, 0, 0, 0, 0), (737, .iconst 0, 1, 0, 0, 0, 0), (738, .ireturn, 1, 0, 0, 0, 0), (739, .aload_n 1, 1, 0, 0, 0, 0), (740, .invokevirtual 94, 3, 118, 1, 1, 11), (743, .aload_n 2, 1, 0, 0, 0, 0), (744, .invokevirtual 97, 3, 228, 1, 1, 12), (747, .if_icmp .eq 499, 3, 0, 0, 0, 0), (750, .iconst 0, 1, 0, 0, 0, 0), (751, .ireturn, 1, 0, 0, 0, 0), (752, .aload_n 1, 1, 0, 0, 0, 0), (753, .aload_n 0, 1, 0, 0, 0, 0), (754, .iload_n 3, 1, 0, 0, 0, 0), (755, .iconst 1, 1, 0, 0, 0, 0), (756, .iadd, 1, 0, 0, 0, 0), (757, .iaload, 1, 0, 0, 0, 0), (758, .invokevirtual 98, 3, 119, 2, 1, 11), (761, .aload_n 2, 1, 0, 0, 0, 0), (762, .aload_n 0, 1, 0, 0, 0, 0), (763, .iload_n 3, 1, 0, 0, 0, 0), (764, .iconst 1, 1, 0, 0, 0, 0), (765, .iadd, 1, 0, 0, 0, 0), (766, .iaload, 1, 0, 0, 0, 0), (767, .invokevirtual 101, 3, 246, 2, 1, 12), (770, .if_icmp .eq 476, 3, 0, 0, 0, 0), (773, .iconst 0, 1, 0, 0, 0, 0), (774, .ireturn, 1, 0, 0, 0, 0), (775, .aload_n 1, 1, 0, 0, 0, 0), (776, .invokevirtual 102, 3, 120, 1, 1, 11), (779, .aload_n 2, 1, 0, 0, 0, 0), (780, .invokevirtual 105, 3, 248, 1, 1, 12), (783, .if_icmp .eq 463, 3, 0, 0, 0, 0), (786, .iconst 0, 1, 0, 0, 0, 0), (787, .ireturn, 1, 0, 0, 0, 0), (788, .aload_n 1, 1, 0, 0, 0, 0), (789, .aload_n 0, 1, 0, 0, 0, 0), (790, .iload_n 3, 1, 0, 0, 0, 0), (791, .iconst 1, 1, 0, 0, 0, 0), (792, .iadd, 1, 0, 0, 0, 0), (793, .iaload, 1, 0, 0, 0, 0), (794, .invokevirtual 106, 3, 121, 2, 1, 11), (797, .aload_n 2, 1, 0, 0, 0, 0), (798, .aload_n 0, 1, 0, 0, 0, 0), (799, .iload_n 3, 1, 0, 0, 0, 0), (800, .iconst 1, 1, 0, 0, 0, 0), (801, .iadd, 1, 0, 0, 0, 0), (802, .iaload, 1, 0, 0, 0, 0), (803, .invokevirtual 109, 3, 253, 2, 1, 12), (806, .if_icmp .eq 440, 3, 0, 0, 0, 0), (809, .iconst 0, 1, 0, 0, 0, 0), (810, .ireturn, 1, 0, 0, 0, 0), (811, .aload_n 1, 1, 0, 0, 0, 0), (812, .aload_n 0, 1, 0, 0, 0, 0), (813, .iload_n 3, 1, 0, 0, 0, 0), (814, .iconst 1, 1, 0, 0, 0, 0), (815, .iadd, 1, 0, 0, 0, 0), (816, .iaload, 1, 0, 0, 0, 0), (817, .invokevirtual 110, 3, 122, 2, 1, 11), (820, .aload_n 2, 1, 0, 0, 0, 0), (821, .aload_n 0, 1, 0, 0, 0, 0), (822, .iload_n 3, 1, 0, 0, 0, 0), (823, .iconst 1, 1, 0, 0, 0, 0), (824, .iadd, 1, 0, 0, 0, 0), (825, .iaload, 1, 0, 0, 0, 0), (826, .invokevirtual 113, 3, 254, 2, 1, 12), (829, .if_icmp .eq 417, 3, 0, 0, 0, 0), (832, .iconst 0, 1, 0, 0, 0, 0), (833, .ireturn, 1, 0, 0, 0, 0), (834, .aload_n 1, 1, 0, 0, 0, 0), (835, .invokevirtual 114, 3, 123, 1, 1, 11), (838, .aload_n 2, 1, 0, 0, 0, 0), (839, .invokevirtual 117, 3, 255, 1, 1, 12), (842, .if_icmp .eq 404, 3, 0, 0, 0, 0), (845, .iconst 0, 1, 0, 0, 0, 0), (846, .ireturn, 1, 0, 0, 0, 0), (847, .aload_n 1, 1, 0, 0, 0, 0), (848, .aload_n 0, 1, 0, 0, 0, 0), (849, .iload_n 3, 1, 0, 0, 0, 0), (850, .iconst 1, 1, 0, 0, 0, 0), (851, .iadd, 1, 0, 0, 0, 0), (852, .iaload, 1, 0, 0, 0, 0), (853, .invokevirtual 118, 3, 124, 2, 1, 11), (856, .aload_n 2, 1, 0, 0, 0, 0), (857, .aload_n 0, 1, 0, 0, 0, 0), (858, .iload_n 3, 1, 0, 0, 0, 0), (859, .iconst 1, 1, 0, 0, 0, 0), (860, .iadd, 1, 0, 0, 0, 0), (861, .iaload, 1, 0, 0, 0, 0), (862, .invokevirtual 121, 3, 263, 2, 1, 12), (865, .if_icmp .eq 381, 3, 0, 0, 0, 0), (868, .iconst 0, 1, 0, 0, 0, 0), (869, .ireturn, 1, 0, 0, 0, 0), (870, .aload_n 1, 1, 0, 0, 0, 0), (871, .aload_n 0, 1, 0, 0, 0, 0), (872, .iload_n 3, 1, 0, 0, 0, 0), (873, .iconst 1, 1, 0, 0, 0, 0), (874, .iadd, 1, 0, 0, 0, 0), (875, .iaload, 1, 0, 0, 0, 0), (876, .invokevirtual 122, 3, 125, 2, 1, 11), (879, .aload_n 2, 1, 0, 0, 0, 0), (880, .aload_n 0, 1, 0, 0, 0, 0), (881, .iload_n 3, 1, 0, 0, 0, 0), (882, .iconst 1, 1, 0, 0, 0, 0), (883, .iadd, 1, 0, 0, 0, 0), (884, .iaload, 1, 0, 0, 0, 0), (885, .invokevirtual 125, 3, 266, 2, 1, 12), (888, .if_icmp .eq 358, 3, 0, 0, 0, 0), (891, .iconst 0, 1, 0, 0, 0, 0), (892, .ireturn, 1, 0, 0, 0, 0), (893, .aload_n 1, 1, 0, 0, 0, 0), (894, .aload_n 0, 1, 0, 0, 0, 0), (895, .iload_n 3, 1, 0, 0, 0, 0), (896, .iconst 1, 1, 0, 0, 0, 0), (897, .iadd, 1, 0, 0, 0, 0), (898, .iaload, 1, 0, 0, 0, 0), (899, .invokevirtual 126, 3, 126, 2, 1, 11), (902, .aload_n 2, 1, 0, 0, 0, 0), (903, .aload_n 0, 1, 0, 0, 0, 0), (904, .iload_n 3, 1, 0, 0, 0, 0), (905, .iconst 1, 1, 0, 0, 0, 0), (906, .iadd, 1, 0, 0, 0, 0), (907, .iaload, 1, 0, 0, 0, 0), (908, .invokevirtual 129, 3, 268, 2, 1, 12), (911, .if_icmp .eq 335, 3, 0, 0, 0, 0), (914, .iconst 0, 1, 0, 0, 0, 0), (915, .ireturn, 1, 0, 0, 0, 0), (916, .aload_n 1, 1, 0, 0, 0, 0), (917, .aload_n 0, 1, 0, 0, 0, 0), (918, .iload_n 3, 1, 0, 0, 0, 0), (919, .iconst 1, 1, 0, 0, 0, 0), (920, .iadd, 1, 0, 0, 0, 0), (921, .iaload, 1, 0, 0, 0, 0), (922, .invokevirtual 130, 3, 127, 2, 1, 11), (925, .aload_n 2, 1, 0, 0, 0, 0), (926, .aload_n 0, 1, 0, 0, 0, 0), (927, .iload_n 3, 1, 0, 0, 0, 0), (928, .iconst 1, 1, 0, 0, 0, 0), (929, .iadd, 1, 0, 0, 0, 0), (930, .iaload, 1, 0, 0, 0, 0), (931, .invokevirtual 133, 3, 269, 2, 1, 12), (934, .if_icmp .eq 312, 3, 0, 0, 0, 0), (937, .iconst 0, 1, 0, 0, 0, 0), (938, .ireturn, 1, 0, 0, 0, 0), (939, .aload_n 1, 1, 0, 0, 0, 0), (940, .aload_n 0, 1, 0, 0, 0, 0), (941, .iload_n 3, 1, 0, 0, 0, 0), (942, .iconst 1, 1, 0, 0, 0, 0), (943, .iadd, 1, 0, 0, 0, 0), (944, .iaload, 1, 0, 0, 0, 0), (945, .aload_n 0, 1, 0, 0, 0, 0), (946, .iload_n 3, 1, 0, 0, 0, 0), (947, .iconst 2, 1, 0, 0, 0, 0), (948, .iadd, 1, 0, 0, 0, 0), (949, .iaload, 1, 0, 0, 0, 0), (950, .invokevirtual 134, 3, 128, 3, 1, 11), (953, .aload_n 2, 1, 0, 0, 0, 0), (954, .aload_n 0, 1, 0, 0, 0, 0), (955, .iload_n 3, 1, 0, 0, 0, 0), (956, .iconst 1, 1, 0, 0, 0, 0), (957, .iadd, 1, 0, 0, 0, 0), (958, .iaload, 1, 0, 0, 0, 0), (959, .aload_n 0, 1, 0, 0, 0, 0), (960, .iload_n 3, 1, 0, 0, 0, 0), (961, .iconst 2, 1, 0, 0, 0, 0), (962, .iadd, 1, 0, 0, 0, 0), (963, .iaload, 1, 0, 0, 0, 0), (964, .invokevirtual 137, 3, 270, 3, 1, 12), (967, .if_icmp .eq 279, 3, 0, 0, 0, 0), (970, .iconst 0, 1, 0, 0, 0, 0), (971, .ireturn, 1, 0, 0, 0, 0), (972, .aload_n 1, 1, 0, 0, 0, 0), (973, .invokevirtual 138, 3, 129, 1, 1, 11), (976, .aload_n 2, 1, 0, 0, 0, 0), (977, .invokevirtual 141, 3, 271, 1, 1, 12), (980, .if_icmp .eq 266, 3, 0, 0, 0, 0), (983, .iconst 0, 1, 0, 0, 0, 0), (984, .ireturn, 1, 0, 0, 0, 0), (985, .aload_n 1, 1, 0, 0, 0, 0), (986, .invokevirtual 142, 3, 130, 1, 1, 11), (989, .aload_n 2, 1, 0, 0, 0, 0), (990, .invokevirtual 145, 3, 273, 1, 1, 12), (993, .if_icmp .eq 253, 3, 0, 0, 0, 0), (996, .iconst 0, 1, 0, 0, 0, 0), (997, .ireturn, 1, 0, 0, 0, 0), (998, .aload_n 1, 1, 0, 0, 0, 0), (999, .aload_n 0, 1, 0, 0, 0, 0), (1000, .iload_n 3, 1, 0, 0, 0, 0), (1001, .iconst 1, 1, 0, 0, 0, 0), (1002, .iadd, 1, 0, 0, 0, 0), (1003, .iaload, 1, 0, 0, 0, 0), (1004, .invokevirtual 146, 3, 131, 2, 1, 11), (1007, .aload_n 2, 1, 0, 0, 0, 0), (1008, .aload_n 0, 1, 0, 0, 0, 0), (1009, .iload_n 3, 1, 0, 0, 0, 0), (1010, .iconst 1, 1, 0, 0, 0, 0), (1011, .iadd, 1, 0, 0, 0, 0), (1012, .iaload, 1, 0, 0, 0, 0), (1013, .invokevirtual 149, 3, 275, 2, 1, 12), (1016, .if_icmp .eq 230, 3, 0, 0, 0, 0), (1019, .iconst 0, 1, 0, 0, 0, 0), (1020, .ireturn, 1, 0, 0, 0, 0), (1021, .aload_n 1, 1, 0, 0, 0, 0), (1022, .aload_n 0, 1, 0, 0, 0, 0), (1023, .iload_n 3, 1, 0, 0, 0, 0), (1024, .iconst 1, 1, 0, 0, 0, 0), (1025, .iadd, 1, 0, 0, 0, 0), (1026, .iaload, 1, 0, 0, 0, 0), (1027, .aload_n 0, 1, 0, 0, 0, 0), (1028, .iload_n 3, 1, 0, 0, 0, 0), (1029, .iconst 2, 1, 0, 0, 0, 0), (1030, .iadd, 1, 0, 0, 0, 0), (1031, .iaload, 1, 0, 0, 0, 0), (1032, .invokevirtual 150, 3, 132, 3, 2, 11), (1035, .aload_n 2, 1, 0, 0, 0, 0), (1036, .aload_n 0, 1, 0, 0, 0, 0), (1037, .iload_n 3, 1, 0, 0, 0, 0), (1038, .iconst 1, 1, 0, 0, 0, 0), (1039, .iadd, 1, 0, 0, 0, 0), (1040, .iaload, 1, 0, 0, 0, 0), (1041, .aload_n 0, 1, 0, 0, 0, 0), (1042, .iload_n 3, 1, 0, 0, 0, 0), (1043, .iconst 2, 1, 0, 0, 0, 0), (1044, .iadd, 1, 0, 0, 0, 0), (1045, .iaload, 1, 0, 0, 0, 0), (1046, .invokevirtual 154, 3, 276, 3, 2, 12), (1049, .lcmp, 1, 0, 0, 0, 0), (1050, .ifCond .eq 196, 3, 0, 0, 0, 0), (1053, .iconst 0, 1, 0, 0, 0, 0), (1054, .ireturn, 1, 0, 0, 0, 0), (1055, .aload_n 1, 1, 0, 0, 0, 0), (1056, .aload_n 0, 1, 0, 0, 0, 0), (1057, .iload_n 3, 1, 0, 0, 0, 0), (1058, .iconst 1, 1, 0, 0, 0, 0), (1059, .iadd, 1, 0, 0, 0, 0), (1060, .iaload, 1, 0, 0, 0, 0), (1061, .aload_n 0, 1, 0, 0, 0, 0), (1062, .iload_n 3, 1, 0, 0, 0, 0), (1063, .iconst 2, 1, 0, 0, 0, 0), (1064, .iadd, 1, 0, 0, 0, 0), (1065, .iaload, 1, 0, 0, 0, 0), (1066, .aload_n 0, 1, 0, 0, 0, 0), (1067, .iload_n 3, 1, 0, 0, 0, 0), (1068, .iconst 3, 1, 0, 0, 0, 0), (1069, .iadd, 1, 0, 0, 0, 0), (1070, .iaload, 1, 0, 0, 0, 0), (1071, .invokevirtual 155, 3, 133, 4, 1, 11), (1074, .aload_n 2, 1, 0, 0, 0, 0), (1075, .aload_n 0, 1, 0, 0, 0, 0), (1076, .iload_n 3, 1, 0, 0, 0, 0), (1077, .iconst 1, 1, 0, 0, 0, 0), (1078, .iadd, 1, 0, 0, 0, 0), (1079, .iaload, 1, 0, 0, 0, 0), (1080, .aload_n 0, 1, 0, 0, 0, 0), (1081, .iload_n 3, 1, 0, 0, 0, 0), (1082, .iconst 2, 1, 0, 0, 0, 0), (1083, .iadd, 1, 0, 0, 0, 0), (1084, .iaload, 1, 0, 0, 0, 0), (1085, .aload_n 0, 1, 0, 0, 0, 0), (1086, .iload_n 3, 1, 0, 0, 0, 0), (1087, .iconst 3, 1, 0, 0, 0, 0), (1088, .iadd, 1, 0, 0, 0, 0), (1089, .iaload, 1, 0, 0, 0, 0), (1090, .invokevirtual 158, 3, 277, 4, 1, 12), (1093, .if_icmp .eq 153, 3, 0, 0, 0, 0), (1096, .iconst 0, 1, 0, 0, 0, 0), (1097, .ireturn, 1, 0, 0, 0, 0), (1098, .aload_n 1, 1, 0, 0, 0, 0), (1099, .aload_n 0, 1, 0, 0, 0, 0), (1100, .iload_n 3, 1, 0, 0, 0, 0), (1101, .iconst 1, 1, 0, 0, 0, 0), (1102, .iadd, 1, 0, 0, 0, 0), (1103, .iaload, 1, 0, 0, 0, 0), (1104, .aload_n 0, 1, 0, 0, 0, 0), (1105, .iload_n 3, 1, 0, 0, 0, 0), (1106, .iconst 2, 1, 0, 0, 0, 0), (1107, .iadd, 1, 0, 0, 0, 0), (1108, .iaload, 1, 0, 0, 0, 0), (1109, .invokevirtual 159, 3, 134, 3, 1, 11), (1112, .aload_n 2, 1, 0, 0, 0, 0), (1113, .aload_n 0, 1, 0, 0, 0, 0), (1114, .iload_n 3, 1, 0, 0, 0, 0), (1115, .iconst 1, 1, 0, 0, 0, 0), (1116, .iadd, 1, 0, 0, 0, 0), (1117, .iaload, 1, 0, 0, 0, 0), (1118, .aload_n 0, 1, 0, 0, 0, 0), (1119, .iload_n 3, 1, 0, 0, 0, 0), (1120, .iconst 2, 1, 0, 0, 0, 0), (1121, .iadd, 1, 0, 0, 0, 0), (1122, .iaload, 1, 0, 0, 0, 0), (1123, .invokevirtual 162, 3, 286, 3, 1, 12), (1126, .if_icmp .eq 120, 3, 0, 0, 0, 0), (1129, .iconst 0, 1, 0, 0, 0, 0), (1130, .ireturn, 1, 0, 0, 0, 0), (1131, .aload_n 1, 1, 0, 0, 0, 0), (1132, .aload_n 0, 1, 0, 0, 0, 0), (1133, .iload_n 3, 1, 0, 0, 0, 0), (1134, .iconst 1, 1, 0, 0, 0, 0), (1135, .iadd, 1, 0, 0, 0, 0), (1136, .iaload, 1, 0, 0, 0, 0), (1137, .aload_n 0, 1, 0, 0, 0, 0), (1138, .iload_n 3, 1, 0, 0, 0, 0), (1139, .iconst 2, 1, 0, 0, 0, 0), (1140, .iadd, 1, 0, 0, 0, 0), (1141, .iaload, 1, 0, 0, 0, 0), (1142, .invokevirtual 163, 3, 135, 3, 1, 11), (1145, .aload_n 2, 1, 0, 0, 0, 0), (1146, .aload_n 0, 1, 0, 0, 0, 0), (1147, .iload_n 3, 1, 0, 0, 0, 0), (1148, .iconst 1, 1, 0, 0, 0, 0), (1149, .iadd, 1, 0, 0, 0, 0), (1150, .iaload, 1, 0, 0, 0, 0), (1151, .aload_n 0, 1, 0, 0, 0, 0), (1152, .iload_n 3, 1, 0, 0, 0, 0), (1153, .iconst 2, 1, 0, 0, 0, 0), (1154, .iadd, 1, 0, 0, 0, 0), (1155, .iaload, 1, 0, 0, 0, 0), (1156, .invokevirtual 166, 3, 287, 3, 1, 12), (1159, .if_icmp .eq 87, 3, 0, 0, 0, 0), (1162, .iconst 0, 1, 0, 0, 0, 0), (1163, .ireturn, 1, 0, 0, 0, 0), (1164, .aload_n 1, 1, 0, 0, 0, 0), (1165, .aload_n 0, 1, 0, 0, 0, 0), (1166, .iload_n 3, 1, 0, 0, 0, 0), (1167, .iconst 1, 1, 0, 0, 0, 0), (1168, .iadd, 1, 0, 0, 0, 0), (1169, .iaload, 1, 0, 0, 0, 0), (1170, .invokevirtual 167, 3, 136, 2, 1, 11), (1173, .aload_n 2, 1, 0, 0, 0, 0), (1174, .aload_n 0, 1, 0, 0, 0, 0), (1175, .iload_n 3, 1, 0, 0, 0, 0), (1176, .iconst 1, 1, 0, 0, 0, 0), (1177, .iadd, 1, 0, 0, 0, 0), (1178, .iaload, 1, 0, 0, 0, 0), (1179, .invokevirtual 170, 3, 158, 2, 1, 12), (1182, .if_icmp .eq 64, 3, 0, 0, 0, 0), (1185, .iconst 0, 1, 0, 0, 0, 0), (1186, .ireturn, 1, 0, 0, 0, 0), (1187, .aload_n 1, 1, 0, 0, 0, 0), (1188, .aload_n 0, 1, 0, 0, 0, 0), (1189, .iload_n 3, 1, 0, 0, 0, 0), (1190, .iconst 1, 1, 0, 0, 0, 0), (1191, .iadd, 1, 0, 0, 0, 0), (1192, .iaload, 1, 0, 0, 0, 0), (1193, .invokevirtual 171, 3, 137, 2, 1, 11), (1196, .aload_n 2, 1, 0, 0, 0, 0), (1197, .aload_n 0, 1, 0, 0, 0, 0), (1198, .iload_n 3, 1, 0, 0, 0, 0), (1199, .iconst 1, 1, 0, 0, 0, 0), (1200, .iadd, 1, 0, 0, 0, 0), (1201, .iaload, 1, 0, 0, 0, 0), (1202, .invokevirtual 174, 3, 159, 2, 1, 12), (1205, .if_icmp .eq 41, 3, 0, 0, 0, 0), (1208, .iconst 0, 1, 0, 0, 0, 0), (1209, .ireturn, 1, 0, 0, 0, 0), (1210, .aload_n 1, 1, 0, 0, 0, 0), (1211, .aload_n 0, 1, 0, 0, 0, 0), (1212, .iload_n 3, 1, 0, 0, 0, 0), (1213, .iconst 1, 1, 0, 0, 0, 0), (1214, .iadd, 1, 0, 0, 0, 0), (1215, .iaload, 1, 0, 0, 0, 0), (1216, .invokevirtual 175, 3, 138, 2, 1, 11), (1219, .aload_n 2, 1, 0, 0, 0, 0), (1220, .aload_n 0, 1, 0, 0, 0, 0), (1221, .iload_n 3, 1, 0, 0, 0, 0), (1222, .iconst 1, 1, 0, 0, 0, 0), (1223, .iadd, 1, 0, 0, 0, 0), (1224, .iaload, 1, 0, 0, 0, 0), (1225, .invokevirtual 178, 3, 289, 2, 1, 12), (1228, .if_icmp .eq 18, 3, 0, 0, 0, 0), (1231, .iconst 0, 1, 0, 0, 0, 0), (1232, .ireturn, 1, 0, 0, 0, 0), (1233, .aload_n 1, 1, 0, 0, 0, 0), (1234, .invokevirtual 179, 3, 139, 1, 1, 11), (1237, .aload_n 2, 1, 0, 0, 0, 0), (1238, .invokevirtual 182, 3, 290, 1, 1, 12), (1241, .if_icmp .eq 5, 3, 0, 0, 0, 0), (1244, .iconst 0, 1, 0, 0, 0, 0), (1245, .ireturn, 1, 0, 0, 0, 0), (1246, .iinc 3 6, 3, 0, 0, 0, 0), (1249, .goto (-1231), 3, 0, 0, 0, 0), (1252, .iconst 1, 1, 0, 0, 0, 0), (1253, .ireturn, 1, 0, 0, 0, 0)]
noncomputable def ct_L : List (Nat × List Nat) := [(18, []), (276, [0, 1, 2, 3]), (352, [0, 1, 2, 3]), (428, [0, 1, 2, 3]), (494, []), (615, [0, 1, 2, 3]), (691, [0, 1, 2, 3]), (775, []), (868, [0, 1, 2, 3]), (970, [0, 1, 2, 3]), (1055, []), (1129, [0, 1, 2, 3]), (1208, [0, 1, 2, 3]), (1246, [])]
noncomputable def lpL (d n : Nat) : IK := im_lp (rn d) 4 cd_L ct_L n
set_option maxRecDepth 100000 in
theorem chkL : (chPs (mBy 307) 0 (mBy 307).data.toList cd_L && cd_L.all (fun e => (Nat.beq (am_len e.2.1) 0 || Nat.beq (am_len e.2.1) e.2.2.1) && am_lk 307 e.1 e.2.1 e.2.2.2.1 e.2.2.2.2.1 e.2.2.2.2.2.1 e.2.2.2.2.2.2 && okN e) && am_wf cd_L && Nat.beq (am_rt 307) 4 && Nat.beq (mMl 307) 4) = true := by decide +kernel
set_option maxRecDepth 20000 in
set_option maxHeartbeats 4000000 in
theorem e_Law_law (d n : Nat) (l0 : Option Nat) (h : IH) :
 lpL d (n + 1) 0 [some (iR l0), none, none, none] [] h =
 (xnO h 11 fun a1 h2 =>
 kV (rn d 98 [iR (some a1)] h2) fun h3 =>
 xnO h3 12 fun a4 h5 =>
 kV (rn d 155 [iR (some a4)] h5) fun h6 =>
 lpL d n 18 [some (iR l0), some (iR (some a1)), some (iR (some a4)), some (iI 0)] [] h6) := rfl
set_option maxRecDepth 20000 in
set_option maxHeartbeats 4000000 in
theorem e_Law_law_18 (d n : Nat) (l0 : Option Nat) (l1 : Nat) (l2 : Nat) (l3 : Int) (h : IH) :
 lpL d (n + 1) 18 [some (iR l0), some (iR (some l1)), some (iR (some l2)), some (iI l3)] [] h =
 (xB l0 fun a2 =>
 xle h a2 fun x1 =>
 (if l3 ≤ (wr (x1 - 6)) then
 xB l0 fun a4 =>
 xaI h a4 l3 fun x3 =>
 (if (iand x3 63) = 0 then
 xB l0 fun a330 =>
 xaI h a330 (wr (l3 + 1)) fun x329 =>
 xB l0 fun a332 =>
 xaI h a332 (wr (l3 + 2)) fun x331 =>
 xck h l1 21 <|
 kI (rn d 99 [iR (some l1), iI x329, iI x331] h) fun x334 h333 =>
 xB l0 fun a336 =>
 xaI h333 a336 (wr (l3 + 1)) fun x335 =>
 xB l0 fun a338 =>
 xaI h333 a338 (wr (l3 + 2)) fun x337 =>
 xck h333 l2 22 <|
 kI (rn d 164 [iR (some l2), iI x335, iI x337] h333) fun x340 h339 =>
 (if x334 = x340 then
 lpL d n 1246 [some (iR l0), some (iR (some l1)), some (iR (some l2)), some (iI l3)] [] h339
 else
 xZ 0 h339)
 else
 (if (iand x3 63) = 1 then
 xB l0 fun a318 =>
 xaI h a318 (wr (l3 + 1)) fun x317 =>
 xB l0 fun a320 =>
 xaI h a320 (wr (l3 + 2)) fun x319 =>
 xck h l1 21 <|
 kI (rn d 100 [iR (some l1), iI x317, iI x319] h) fun x322 h321 =>
 xB l0 fun a324 =>
 xaI h321 a324 (wr (l3 + 1)) fun x323 =>
 xB l0 fun a326 =>
 xaI h321 a326 (wr (l3 + 2)) fun x325 =>
 xck h321 l2 22 <|
 kI (rn d 165 [iR (some l2), iI x323, iI x325] h321) fun x328 h327 =>
 (if x322 = x328 then
 lpL d n 1246 [some (iR l0), some (iR (some l1)), some (iR (some l2)), some (iI l3)] [] h327
 else
 lpL d n 276 [none, none, none, none] [] h327)
 else
 (if (iand x3 63) = 2 then
 xB l0 fun a306 =>
 xaI h a306 (wr (l3 + 1)) fun x305 =>
 xB l0 fun a308 =>
 xaI h a308 (wr (l3 + 2)) fun x307 =>
 xck h l1 21 <|
 kI (rn d 101 [iR (some l1), iI x305, iI x307] h) fun x310 h309 =>
 xB l0 fun a312 =>
 xaI h309 a312 (wr (l3 + 1)) fun x311 =>
 xB l0 fun a314 =>
 xaI h309 a314 (wr (l3 + 2)) fun x313 =>
 xck h309 l2 22 <|
 kI (rn d 166 [iR (some l2), iI x311, iI x313] h309) fun x316 h315 =>
 (if x310 = x316 then
 lpL d n 1246 [some (iR l0), some (iR (some l1)), some (iR (some l2)), some (iI l3)] [] h315
 else
 xZ 0 h315)
 else
 (if (iand x3 63) = 3 then
 xB l0 fun a290 =>
 xaI h a290 (wr (l3 + 1)) fun x289 =>
 xB l0 fun a292 =>
 xaI h a292 (wr (l3 + 2)) fun x291 =>
 xB l0 fun a294 =>
 xaI h a294 (wr (l3 + 3)) fun x293 =>
 xck h l1 21 <|
 kI (rn d 102 [iR (some l1), iI x289, iI x291, iI x293] h) fun x296 h295 =>
 xB l0 fun a298 =>
 xaI h295 a298 (wr (l3 + 1)) fun x297 =>
 xB l0 fun a300 =>
 xaI h295 a300 (wr (l3 + 2)) fun x299 =>
 xB l0 fun a302 =>
 xaI h295 a302 (wr (l3 + 3)) fun x301 =>
 xck h295 l2 22 <|
 kI (rn d 170 [iR (some l2), iI x297, iI x299, iI x301] h295) fun x304 h303 =>
 (if x296 = x304 then
 lpL d n 1246 [some (iR l0), some (iR (some l1)), some (iR (some l2)), some (iI l3)] [] h303
 else
 lpL d n 352 [none, none, none, none] [] h303)
 else
 (if (iand x3 63) = 4 then
 xB l0 fun a274 =>
 xaI h a274 (wr (l3 + 1)) fun x273 =>
 xB l0 fun a276 =>
 xaI h a276 (wr (l3 + 2)) fun x275 =>
 xB l0 fun a278 =>
 xaI h a278 (wr (l3 + 3)) fun x277 =>
 xck h l1 21 <|
 kI (rn d 103 [iR (some l1), iI x273, iI x275, iI x277] h) fun x280 h279 =>
 xB l0 fun a282 =>
 xaI h279 a282 (wr (l3 + 1)) fun x281 =>
 xB l0 fun a284 =>
 xaI h279 a284 (wr (l3 + 2)) fun x283 =>
 xB l0 fun a286 =>
 xaI h279 a286 (wr (l3 + 3)) fun x285 =>
 xck h279 l2 22 <|
 kI (rn d 171 [iR (some l2), iI x281, iI x283, iI x285] h279) fun x288 h287 =>
 (if x280 = x288 then
 lpL d n 1246 [some (iR l0), some (iR (some l1)), some (iR (some l2)), some (iI l3)] [] h287
 else
 xZ 0 h287)
 else
 (if (iand x3 63) = 5 then
 xB l0 fun a262 =>
 xaI h a262 (wr (l3 + 1)) fun x261 =>
 xB l0 fun a264 =>
 xaI h a264 (wr (l3 + 2)) fun x263 =>
 xck h l1 21 <|
 kI (rn d 104 [iR (some l1), iI x261, iI x263] h) fun x266 h265 =>
 xB l0 fun a268 =>
 xaI h265 a268 (wr (l3 + 1)) fun x267 =>
 xB l0 fun a270 =>
 xaI h265 a270 (wr (l3 + 2)) fun x269 =>
 xck h265 l2 22 <|
 kI (rn d 174 [iR (some l2), iI x267, iI x269] h265) fun x272 h271 =>
 (if x266 = x272 then
 lpL d n 1246 [some (iR l0), some (iR (some l1)), some (iR (some l2)), some (iI l3)] [] h271
 else
 lpL d n 428 [none, none, none, none] [] h271)
 else
 (if (iand x3 63) = 6 then
 xB l0 fun a238 =>
 xaI h a238 (wr (l3 + 1)) fun x237 =>
 xB l0 fun a240 =>
 xaI h a240 (wr (l3 + 2)) fun x239 =>
 xB l0 fun a242 =>
 xaI h a242 (wr (l3 + 3)) fun x241 =>
 xB l0 fun a244 =>
 xaI h a244 (wr (l3 + 4)) fun x243 =>
 xB l0 fun a246 =>
 xaI h a246 (wr (l3 + 5)) fun x245 =>
 xck h l1 21 <|
 kI (rn d 105 [iR (some l1), iI x237, iI x239, iI x241, iI x243, iI x245] h) fun x248 h247 =>
 xB l0 fun a250 =>
 xaI h247 a250 (wr (l3 + 1)) fun x249 =>
 xB l0 fun a252 =>
 xaI h247 a252 (wr (l3 + 2)) fun x251 =>
 xB l0 fun a254 =>
 xaI h247 a254 (wr (l3 + 3)) fun x253 =>
 xB l0 fun a256 =>
 xaI h247 a256 (wr (l3 + 4)) fun x255 =>
 xB l0 fun a258 =>
 xaI h247 a258 (wr (l3 + 5)) fun x257 =>
 xck h247 l2 22 <|
 kI (rn d 177 [iR (some l2), iI x249, iI x251, iI x253, iI x255, iI x257] h247) fun x260 h259 =>
 (if x248 = x260 then
 lpL d n 1246 [some (iR l0), some (iR (some l1)), some (iR (some l2)), some (iI l3)] [] h259
 else
 xZ 0 h259)
 else
 (if (iand x3 63) = 7 then
 lpL d n 494 [some (iR l0), some (iR (some l1)), some (iR (some l2)), some (iI l3)] [iR (some l1)] h
 else
 (if (iand x3 63) = 8 then
 xck h l1 21 <|
 kI (rn d 107 [iR (some l1)] h) fun x234 h233 =>
 xck h233 l2 22 <|
 kI (rn d 175 [iR (some l2)] h233) fun x236 h235 =>
 (if x234 = x236 then
 lpL d n 1246 [some (iR l0), some (iR (some l1)), some (iR (some l2)), some (iI l3)] [] h235
 else
 xZ 0 h235)
 else
 (if (iand x3 63) = 9 then
 xck h l1 21 <|
 kI (rn d 108 [iR (some l1)] h) fun x230 h229 =>
 xck h229 l2 22 <|
 kI (rn d 176 [iR (some l2)] h229) fun x232 h231 =>
 (if x230 = x232 then
 lpL d n 1246 [some (iR l0), some (iR (some l1)), some (iR (some l2)), some (iI l3)] [] h231
 else
 xZ 0 h231)
 else
 (if (iand x3 63) = 10 then
 xck h l1 21 <|
 kI (rn d 109 [iR (some l1)] h) fun x226 h225 =>
 xck h225 l2 22 <|
 kI (rn d 203 [iR (some l2)] h225) fun x228 h227 =>
 (if x226 = x228 then
 lpL d n 1246 [some (iR l0), some (iR (some l1)), some (iR (some l2)), some (iI l3)] [] h227
 else
 xZ 0 h227)
 else
 (if (iand x3 63) = 11 then
 xck h l1 21 <|
 kI (rn d 110 [iR (some l1)] h) fun x222 h221 =>
 xck h221 l2 22 <|
 kI (rn d 279 [iR (some l2)] h221) fun x224 h223 =>
 (if x222 = x224 then
 lpL d n 1246 [some (iR l0), some (iR (some l1)), some (iR (some l2)), some (iI l3)] [] h223
 else
 xZ 0 h223)
 else
 (if (iand x3 63) = 12 then
 xck h l1 21 <|
 kI (rn d 111 [iR (some l1)] h) fun x218 h217 =>
 xck h217 l2 22 <|
 kI (rn d 204 [iR (some l2)] h217) fun x220 h219 =>
 (if x218 = x220 then
 lpL d n 1246 [some (iR l0), some (iR (some l1)), some (iR (some l2)), some (iI l3)] [] h219
 else
 xZ 0 h219)
 else
 (if (iand x3 63) = 13 then
 xck h l1 21 <|
 kI (rn d 112 [iR (some l1)] h) fun x214 h213 =>
 xck h213 l2 22 <|
 kI (rn d 278 [iR (some l2)] h213) fun x216 h215 =>
 (if x214 = x216 then
 lpL d n 1246 [some (iR l0), some (iR (some l1)), some (iR (some l2)), some (iI l3)] [] h215
 else
 xZ 0 h215)
 else
 (if (iand x3 63) = 14 then
 xB l0 fun a206 =>
 xaI h a206 (wr (l3 + 1)) fun x205 =>
 xck h l1 21 <|
 kI (rn d 113 [iR (some l1), iI x205] h) fun x208 h207 =>
 xB l0 fun a210 =>
 xaI h207 a210 (wr (l3 + 1)) fun x209 =>
 xck h207 l2 22 <|
 kI (rn d 206 [iR (some l2), iI x209] h207) fun x212 h211 =>
 (if x208 = x212 then
 lpL d n 1246 [some (iR l0), some (iR (some l1)), some (iR (some l2)), some (iI l3)] [] h211
 else
 lpL d n 615 [none, none, none, none] [] h211)
 else
 (if (iand x3 63) = 15 then
 xB l0 fun a194 =>
 xaI h a194 (wr (l3 + 1)) fun x193 =>
 xB l0 fun a196 =>
 xaI h a196 (wr (l3 + 2)) fun x195 =>
 xck h l1 21 <|
 kI (rn d 114 [iR (some l1), iI x193, iI x195] h) fun x198 h197 =>
 xB l0 fun a200 =>
 xaI h197 a200 (wr (l3 + 1)) fun x199 =>
 xB l0 fun a202 =>
 xaI h197 a202 (wr (l3 + 2)) fun x201 =>
 xck h197 l2 22 <|
 kI (rn d 240 [iR (some l2), iI x199, iI x201] h197) fun x204 h203 =>
 (if x198 = x204 then
 lpL d n 1246 [some (iR l0), some (iR (some l1)), some (iR (some l2)), some (iI l3)] [] h203
 else
 xZ 0 h203)
 else
 (if (iand x3 63) = 16 then
 xB l0 fun a178 =>
 xaI h a178 (wr (l3 + 1)) fun x177 =>
 xB l0 fun a180 =>
 xaI h a180 (wr (l3 + 2)) fun x179 =>
 xB l0 fun a182 =>
 xaI h a182 (wr (l3 + 3)) fun x181 =>
 xck h l1 21 <|
 kI (rn d 115 [iR (some l1), iI x177, iI x179, iI x181] h) fun x184 h183 =>
 xB l0 fun a186 =>
 xaI h183 a186 (wr (l3 + 1)) fun x185 =>
 xB l0 fun a188 =>
 xaI h183 a188 (wr (l3 + 2)) fun x187 =>
 xB l0 fun a190 =>
 xaI h183 a190 (wr (l3 + 3)) fun x189 =>
 xck h183 l2 22 <|
 kI (rn d 241 [iR (some l2), iI x185, iI x187, iI x189] h183) fun x192 h191 =>
 (if x184 = x192 then
 lpL d n 1246 [some (iR l0), some (iR (some l1)), some (iR (some l2)), some (iI l3)] [] h191
 else
 lpL d n 691 [none, none, none, none] [] h191)
 else
 (if (iand x3 63) = 17 then
 xB l0 fun a166 =>
 xaI h a166 (wr (l3 + 1)) fun x165 =>
 xB l0 fun a168 =>
 xaI h a168 (wr (l3 + 2)) fun x167 =>
 xck h l1 21 <|
 kI (rn d 116 [iR (some l1), iI x165, iI x167] h) fun x170 h169 =>
 xB l0 fun a172 =>
 xaI h169 a172 (wr (l3 + 1)) fun x171 =>
 xB l0 fun a174 =>
 xaI h169 a174 (wr (l3 + 2)) fun x173 =>
 xck h169 l2 22 <|
 kI (rn d 242 [iR (some l2), iI x171, iI x173] h169) fun x176 h175 =>
 (if x170 = x176 then
 lpL d n 1246 [some (iR l0), some (iR (some l1)), some (iR (some l2)), some (iI l3)] [] h175
 else
 xZ 0 h175)
 else
 (if (iand x3 63) = 18 then
 xck h l1 21 <|
 kI (rn d 117 [iR (some l1)] h) fun x162 h161 =>
 xck h161 l2 22 <|
 kI (rn d 243 [iR (some l2)] h161) fun x164 h163 =>
 (if x162 = x164 then
 lpL d n 1246 [some (iR l0), some (iR (some l1)), some (iR (some l2)), some (iI l3)] [] h163
 else
 xZ 0 h163)
 else
 (if (iand x3 63) = 19 then
 xck h l1 21 <|
 kI (rn d 118 [iR (some l1)] h) fun x158 h157 =>
 xck h157 l2 22 <|
 kI (rn d 228 [iR (some l2)] h157) fun x160 h159 =>
 (if x158 = x160 then
 lpL d n 1246 [some (iR l0), some (iR (some l1)), some (iR (some l2)), some (iI l3)] [] h159
 else
 xZ 0 h159)
 else
 (if (iand x3 63) = 20 then
 xB l0 fun a150 =>
 xaI h a150 (wr (l3 + 1)) fun x149 =>
 xck h l1 21 <|
 kI (rn d 119 [iR (some l1), iI x149] h) fun x152 h151 =>
 xB l0 fun a154 =>
 xaI h151 a154 (wr (l3 + 1)) fun x153 =>
 xck h151 l2 22 <|
 kI (rn d 246 [iR (some l2), iI x153] h151) fun x156 h155 =>
 (if x152 = x156 then
 lpL d n 1246 [some (iR l0), some (iR (some l1)), some (iR (some l2)), some (iI l3)] [] h155
 else
 xZ 0 h155)
 else
 (if (iand x3 63) = 21 then
 lpL d n 775 [some (iR l0), some (iR (some l1)), some (iR (some l2)), some (iI l3)] [] h
 else
 (if (iand x3 63) = 22 then
 xB l0 fun a142 =>
 xaI h a142 (wr (l3 + 1)) fun x141 =>
 xck h l1 21 <|
 kI (rn d 121 [iR (some l1), iI x141] h) fun x144 h143 =>
 xB l0 fun a146 =>
 xaI h143 a146 (wr (l3 + 1)) fun x145 =>
 xck h143 l2 22 <|
 kI (rn d 253 [iR (some l2), iI x145] h143) fun x148 h147 =>
 (if x144 = x148 then
 lpL d n 1246 [some (iR l0), some (iR (some l1)), some (iR (some l2)), some (iI l3)] [] h147
 else
 xZ 0 h147)
 else
 (if (iand x3 63) = 23 then
 xB l0 fun a134 =>
 xaI h a134 (wr (l3 + 1)) fun x133 =>
 xck h l1 21 <|
 kI (rn d 122 [iR (some l1), iI x133] h) fun x136 h135 =>
 xB l0 fun a138 =>
 xaI h135 a138 (wr (l3 + 1)) fun x137 =>
 xck h135 l2 22 <|
 kI (rn d 254 [iR (some l2), iI x137] h135) fun x140 h139 =>
 (if x136 = x140 then
 lpL d n 1246 [some (iR l0), some (iR (some l1)), some (iR (some l2)), some (iI l3)] [] h139
 else
 xZ 0 h139)
 else
 (if (iand x3 63) = 24 then
 xck h l1 21 <|
 kI (rn d 123 [iR (some l1)] h) fun x130 h129 =>
 xck h129 l2 22 <|
 kI (rn d 255 [iR (some l2)] h129) fun x132 h131 =>
 (if x130 = x132 then
 lpL d n 1246 [some (iR l0), some (iR (some l1)), some (iR (some l2)), some (iI l3)] [] h131
 else
 xZ 0 h131)
 else
 (if (iand x3 63) = 25 then
 xB l0 fun a122 =>
 xaI h a122 (wr (l3 + 1)) fun x121 =>
 xck h l1 21 <|
 kI (rn d 124 [iR (some l1), iI x121] h) fun x124 h123 =>
 xB l0 fun a126 =>
 xaI h123 a126 (wr (l3 + 1)) fun x125 =>
 xck h123 l2 22 <|
 kI (rn d 263 [iR (some l2), iI x125] h123) fun x128 h127 =>
 (if x124 = x128 then
 lpL d n 1246 [some (iR l0), some (iR (some l1)), some (iR (some l2)), some (iI l3)] [] h127
 else
 lpL d n 868 [none, none, none, none] [] h127)
 else
 (if (iand x3 63) = 26 then
 xB l0 fun a114 =>
 xaI h a114 (wr (l3 + 1)) fun x113 =>
 xck h l1 21 <|
 kI (rn d 125 [iR (some l1), iI x113] h) fun x116 h115 =>
 xB l0 fun a118 =>
 xaI h115 a118 (wr (l3 + 1)) fun x117 =>
 xck h115 l2 22 <|
 kI (rn d 266 [iR (some l2), iI x117] h115) fun x120 h119 =>
 (if x116 = x120 then
 lpL d n 1246 [some (iR l0), some (iR (some l1)), some (iR (some l2)), some (iI l3)] [] h119
 else
 xZ 0 h119)
 else
 (if (iand x3 63) = 27 then
 xB l0 fun a106 =>
 xaI h a106 (wr (l3 + 1)) fun x105 =>
 xck h l1 21 <|
 kI (rn d 126 [iR (some l1), iI x105] h) fun x108 h107 =>
 xB l0 fun a110 =>
 xaI h107 a110 (wr (l3 + 1)) fun x109 =>
 xck h107 l2 22 <|
 kI (rn d 268 [iR (some l2), iI x109] h107) fun x112 h111 =>
 (if x108 = x112 then
 lpL d n 1246 [some (iR l0), some (iR (some l1)), some (iR (some l2)), some (iI l3)] [] h111
 else
 xZ 0 h111)
 else
 (if (iand x3 63) = 28 then
 xB l0 fun a98 =>
 xaI h a98 (wr (l3 + 1)) fun x97 =>
 xck h l1 21 <|
 kI (rn d 127 [iR (some l1), iI x97] h) fun x100 h99 =>
 xB l0 fun a102 =>
 xaI h99 a102 (wr (l3 + 1)) fun x101 =>
 xck h99 l2 22 <|
 kI (rn d 269 [iR (some l2), iI x101] h99) fun x104 h103 =>
 (if x100 = x104 then
 lpL d n 1246 [some (iR l0), some (iR (some l1)), some (iR (some l2)), some (iI l3)] [] h103
 else
 xZ 0 h103)
 else
 (if (iand x3 63) = 29 then
 xB l0 fun a86 =>
 xaI h a86 (wr (l3 + 1)) fun x85 =>
 xB l0 fun a88 =>
 xaI h a88 (wr (l3 + 2)) fun x87 =>
 xck h l1 21 <|
 kI (rn d 128 [iR (some l1), iI x85, iI x87] h) fun x90 h89 =>
 xB l0 fun a92 =>
 xaI h89 a92 (wr (l3 + 1)) fun x91 =>
 xB l0 fun a94 =>
 xaI h89 a94 (wr (l3 + 2)) fun x93 =>
 xck h89 l2 22 <|
 kI (rn d 270 [iR (some l2), iI x91, iI x93] h89) fun x96 h95 =>
 (if x90 = x96 then
 lpL d n 1246 [some (iR l0), some (iR (some l1)), some (iR (some l2)), some (iI l3)] [] h95
 else
 lpL d n 970 [none, none, none, none] [] h95)
 else
 (if (iand x3 63) = 30 then
 xck h l1 21 <|
 kI (rn d 129 [iR (some l1)] h) fun x82 h81 =>
 xck h81 l2 22 <|
 kI (rn d 271 [iR (some l2)] h81) fun x84 h83 =>
 (if x82 = x84 then
 lpL d n 1246 [some (iR l0), some (iR (some l1)), some (iR (some l2)), some (iI l3)] [] h83
 else
 xZ 0 h83)
 else
 (if (iand x3 63) = 31 then
 xck h l1 21 <|
 kI (rn d 130 [iR (some l1)] h) fun x78 h77 =>
 xck h77 l2 22 <|
 kI (rn d 273 [iR (some l2)] h77) fun x80 h79 =>
 (if x78 = x80 then
 lpL d n 1246 [some (iR l0), some (iR (some l1)), some (iR (some l2)), some (iI l3)] [] h79
 else
 xZ 0 h79)
 else
 (if (iand x3 63) = 32 then
 xB l0 fun a70 =>
 xaI h a70 (wr (l3 + 1)) fun x69 =>
 xck h l1 21 <|
 kI (rn d 131 [iR (some l1), iI x69] h) fun x72 h71 =>
 xB l0 fun a74 =>
 xaI h71 a74 (wr (l3 + 1)) fun x73 =>
 xck h71 l2 22 <|
 kI (rn d 275 [iR (some l2), iI x73] h71) fun x76 h75 =>
 (if x72 = x76 then
 lpL d n 1246 [some (iR l0), some (iR (some l1)), some (iR (some l2)), some (iI l3)] [] h75
 else
 xZ 0 h75)
 else
 (if (iand x3 63) = 33 then
 xB l0 fun a58 =>
 xaI h a58 (wr (l3 + 1)) fun x57 =>
 xB l0 fun a60 =>
 xaI h a60 (wr (l3 + 2)) fun x59 =>
 xck h l1 21 <|
 kJ (rn d 132 [iR (some l1), iI x57, iI x59] h) fun x62 h61 =>
 xB l0 fun a64 =>
 xaI h61 a64 (wr (l3 + 1)) fun x63 =>
 xB l0 fun a66 =>
 xaI h61 a66 (wr (l3 + 2)) fun x65 =>
 xck h61 l2 22 <|
 kJ (rn d 276 [iR (some l2), iI x63, iI x65] h61) fun x68 h67 =>
 (if (lcmp x62 x68) = 0 then
 lpL d n 1246 [some (iR l0), some (iR (some l1)), some (iR (some l2)), some (iI l3)] [] h67
 else
 xZ 0 h67)
 else
 (if (iand x3 63) = 34 then
 lpL d n 1055 [some (iR l0), some (iR (some l1)), some (iR (some l2)), some (iI l3)] [] h
 else
 (if (iand x3 63) = 35 then
 xB l0 fun a46 =>
 xaI h a46 (wr (l3 + 1)) fun x45 =>
 xB l0 fun a48 =>
 xaI h a48 (wr (l3 + 2)) fun x47 =>
 xck h l1 21 <|
 kI (rn d 134 [iR (some l1), iI x45, iI x47] h) fun x50 h49 =>
 xB l0 fun a52 =>
 xaI h49 a52 (wr (l3 + 1)) fun x51 =>
 xB l0 fun a54 =>
 xaI h49 a54 (wr (l3 + 2)) fun x53 =>
 xck h49 l2 22 <|
 kI (rn d 286 [iR (some l2), iI x51, iI x53] h49) fun x56 h55 =>
 (if x50 = x56 then
 lpL d n 1246 [some (iR l0), some (iR (some l1)), some (iR (some l2)), some (iI l3)] [] h55
 else
 lpL d n 1129 [none, none, none, none] [] h55)
 else
 (if (iand x3 63) = 36 then
 xB l0 fun a34 =>
 xaI h a34 (wr (l3 + 1)) fun x33 =>
 xB l0 fun a36 =>
 xaI h a36 (wr (l3 + 2)) fun x35 =>
 xck h l1 21 <|
 kI (rn d 135 [iR (some l1), iI x33, iI x35] h) fun x38 h37 =>
 xB l0 fun a40 =>
 xaI h37 a40 (wr (l3 + 1)) fun x39 =>
 xB l0 fun a42 =>
 xaI h37 a42 (wr (l3 + 2)) fun x41 =>
 xck h37 l2 22 <|
 kI (rn d 287 [iR (some l2), iI x39, iI x41] h37) fun x44 h43 =>
 (if x38 = x44 then
 lpL d n 1246 [some (iR l0), some (iR (some l1)), some (iR (some l2)), some (iI l3)] [] h43
 else
 xZ 0 h43)
 else
 (if (iand x3 63) = 37 then
 xB l0 fun a26 =>
 xaI h a26 (wr (l3 + 1)) fun x25 =>
 xck h l1 21 <|
 kI (rn d 136 [iR (some l1), iI x25] h) fun x28 h27 =>
 xB l0 fun a30 =>
 xaI h27 a30 (wr (l3 + 1)) fun x29 =>
 xck h27 l2 22 <|
 kI (rn d 158 [iR (some l2), iI x29] h27) fun x32 h31 =>
 (if x28 = x32 then
 lpL d n 1246 [some (iR l0), some (iR (some l1)), some (iR (some l2)), some (iI l3)] [] h31
 else
 xZ 0 h31)
 else
 (if (iand x3 63) = 38 then
 xB l0 fun a18 =>
 xaI h a18 (wr (l3 + 1)) fun x17 =>
 xck h l1 21 <|
 kI (rn d 137 [iR (some l1), iI x17] h) fun x20 h19 =>
 xB l0 fun a22 =>
 xaI h19 a22 (wr (l3 + 1)) fun x21 =>
 xck h19 l2 22 <|
 kI (rn d 159 [iR (some l2), iI x21] h19) fun x24 h23 =>
 (if x20 = x24 then
 lpL d n 1246 [some (iR l0), some (iR (some l1)), some (iR (some l2)), some (iI l3)] [] h23
 else
 lpL d n 1208 [none, none, none, none] [] h23)
 else
 (if (iand x3 63) = 39 then
 xB l0 fun a10 =>
 xaI h a10 (wr (l3 + 1)) fun x9 =>
 xck h l1 21 <|
 kI (rn d 138 [iR (some l1), iI x9] h) fun x12 h11 =>
 xB l0 fun a14 =>
 xaI h11 a14 (wr (l3 + 1)) fun x13 =>
 xck h11 l2 22 <|
 kI (rn d 289 [iR (some l2), iI x13] h11) fun x16 h15 =>
 (if x12 = x16 then
 lpL d n 1246 [some (iR l0), some (iR (some l1)), some (iR (some l2)), some (iI l3)] [] h15
 else
 xZ 0 h15)
 else
 (if (iand x3 63) = 40 then
 xck h l1 21 <|
 kI (rn d 139 [iR (some l1)] h) fun x6 h5 =>
 xck h5 l2 22 <|
 kI (rn d 290 [iR (some l2)] h5) fun x8 h7 =>
 (if x6 = x8 then
 lpL d n 1246 [some (iR l0), some (iR (some l1)), some (iR (some l2)), some (iI l3)] [] h7
 else
 xZ 0 h7)
 else
 lpL d n 1246 [some (iR l0), some (iR (some l1)), some (iR (some l2)), some (iI l3)] [] h)))))))))))))))))))))))))))))))))))))))))
 else
 xZ 1 h)) := rfl
set_option maxRecDepth 20000 in
set_option maxHeartbeats 4000000 in
theorem e_Law_law_276 (d n : Nat)  (h : IH) :
 lpL d (n + 1) 276 [none, none, none, none] [] h =
 (xZ 0 h) := rfl
set_option maxRecDepth 20000 in
set_option maxHeartbeats 4000000 in
theorem e_Law_law_352 (d n : Nat)  (h : IH) :
 lpL d (n + 1) 352 [none, none, none, none] [] h =
 (xZ 0 h) := rfl
set_option maxRecDepth 20000 in
set_option maxHeartbeats 4000000 in
theorem e_Law_law_428 (d n : Nat)  (h : IH) :
 lpL d (n + 1) 428 [none, none, none, none] [] h =
 (xZ 0 h) := rfl
set_option maxRecDepth 20000 in
set_option maxHeartbeats 4000000 in
theorem e_Law_law_494 (d n : Nat) (l0 : Option Nat) (l1 : Nat) (l2 : Nat) (l3 : Int) (s0 : Nat) (h : IH) :
 lpL d (n + 1) 494 [some (iR l0), some (iR (some l1)), some (iR (some l2)), some (iI l3)] [iR (some s0)] h =
 (xB l0 fun a2 =>
 xaI h a2 (wr (l3 + 1)) fun x1 =>
 xck h s0 21 <|
 kI (rn d 106 [iR (some s0), iI x1] h) fun x4 h3 =>
 xB l0 fun a6 =>
 xaI h3 a6 (wr (l3 + 1)) fun x5 =>
 xck h3 l2 22 <|
 kI (rn d 178 [iR (some l2), iI x5] h3) fun x8 h7 =>
 (if x4 = x8 then
 lpL d n 1246 [some (iR l0), some (iR (some l1)), some (iR (some l2)), some (iI l3)] [] h7
 else
 xZ 0 h7)) := rfl
set_option maxRecDepth 20000 in
set_option maxHeartbeats 4000000 in
theorem e_Law_law_615 (d n : Nat)  (h : IH) :
 lpL d (n + 1) 615 [none, none, none, none] [] h =
 (xZ 0 h) := rfl
set_option maxRecDepth 20000 in
set_option maxHeartbeats 4000000 in
theorem e_Law_law_691 (d n : Nat)  (h : IH) :
 lpL d (n + 1) 691 [none, none, none, none] [] h =
 (xZ 0 h) := rfl
set_option maxRecDepth 20000 in
set_option maxHeartbeats 4000000 in
theorem e_Law_law_775 (d n : Nat) (l0 : Option Nat) (l1 : Nat) (l2 : Nat) (l3 : Int) (h : IH) :
 lpL d (n + 1) 775 [some (iR l0), some (iR (some l1)), some (iR (some l2)), some (iI l3)] [] h =
 (xck h l1 21 <|
 kI (rn d 120 [iR (some l1)] h) fun x2 h1 =>
 xck h1 l2 22 <|
 kI (rn d 248 [iR (some l2)] h1) fun x4 h3 =>
 (if x2 = x4 then
 lpL d n 1246 [some (iR l0), some (iR (some l1)), some (iR (some l2)), some (iI l3)] [] h3
 else
 xZ 0 h3)) := rfl
set_option maxRecDepth 20000 in
set_option maxHeartbeats 4000000 in
theorem e_Law_law_868 (d n : Nat)  (h : IH) :
 lpL d (n + 1) 868 [none, none, none, none] [] h =
 (xZ 0 h) := rfl
set_option maxRecDepth 20000 in
set_option maxHeartbeats 4000000 in
theorem e_Law_law_970 (d n : Nat)  (h : IH) :
 lpL d (n + 1) 970 [none, none, none, none] [] h =
 (xZ 0 h) := rfl
set_option maxRecDepth 20000 in
set_option maxHeartbeats 4000000 in
theorem e_Law_law_1055 (d n : Nat) (l0 : Option Nat) (l1 : Nat) (l2 : Nat) (l3 : Int) (h : IH) :
 lpL d (n + 1) 1055 [some (iR l0), some (iR (some l1)), some (iR (some l2)), some (iI l3)] [] h =
 (xB l0 fun a2 =>
 xaI h a2 (wr (l3 + 1)) fun x1 =>
 xB l0 fun a4 =>
 xaI h a4 (wr (l3 + 2)) fun x3 =>
 xB l0 fun a6 =>
 xaI h a6 (wr (l3 + 3)) fun x5 =>
 xck h l1 21 <|
 kI (rn d 133 [iR (some l1), iI x1, iI x3, iI x5] h) fun x8 h7 =>
 xB l0 fun a10 =>
 xaI h7 a10 (wr (l3 + 1)) fun x9 =>
 xB l0 fun a12 =>
 xaI h7 a12 (wr (l3 + 2)) fun x11 =>
 xB l0 fun a14 =>
 xaI h7 a14 (wr (l3 + 3)) fun x13 =>
 xck h7 l2 22 <|
 kI (rn d 277 [iR (some l2), iI x9, iI x11, iI x13] h7) fun x16 h15 =>
 (if x8 = x16 then
 lpL d n 1246 [some (iR l0), some (iR (some l1)), some (iR (some l2)), some (iI l3)] [] h15
 else
 xZ 0 h15)) := rfl
set_option maxRecDepth 20000 in
set_option maxHeartbeats 4000000 in
theorem e_Law_law_1129 (d n : Nat)  (h : IH) :
 lpL d (n + 1) 1129 [none, none, none, none] [] h =
 (xZ 0 h) := rfl
set_option maxRecDepth 20000 in
set_option maxHeartbeats 4000000 in
theorem e_Law_law_1208 (d n : Nat)  (h : IH) :
 lpL d (n + 1) 1208 [none, none, none, none] [] h =
 (xZ 0 h) := rfl
set_option maxRecDepth 20000 in
set_option maxHeartbeats 4000000 in
theorem e_Law_law_1246 (d n : Nat) (l0 : Option Nat) (l1 : Nat) (l2 : Nat) (l3 : Int) (h : IH) :
 lpL d (n + 1) 1246 [some (iR l0), some (iR (some l1)), some (iR (some l2)), some (iI l3)] [] h =
 (lpL d n 18 [some (iR l0), some (iR (some l1)), some (iR (some l2)), some (iI (wr (l3 + 6)))] [] h) := rfl
