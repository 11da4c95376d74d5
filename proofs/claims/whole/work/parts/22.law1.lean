/-! THE LAW'S OWN CODE: a step, a block; the script is the constant reference 60 -/
def qcL_law : qC := [(0, 3, .new 710), (3, 1, .dup), (4, 3, .invokestatic 8710), (7, 1, .astore 1), (8, 3, .new 831), (11, 1, .dup), (12, 3, .invokestatic 17010), (15, 1, .astore 2), (16, 1, .iconst 1), (17, 2, .anewarray 21), (19, 1, .astore 3), (20, 1, .iconst 0), (21, 2, .istore 4), (23, 2, .iload 4), (25, 1, .aload 0), (26, 1, .arraylength), (27, 1, .iconst 4), (28, 1, .isub), (29, 3, .if_icmp .gt 837), (32, 1, .aload 0), (33, 2, .iload 4), (35, 1, .iaload), (36, 2, .iconst 63), (38, 1, .iand), (39, 177, .lookupswitch 835 #[(0, 25), (1, 42), (2, 59), (3, 66), (4, 93), (5, 100), (6, 145), (7, 190), (8, 207), (9, 234), (10, 271), (11, 298), (12, 315), (13, 342), (14, 359), (15, 366), (16, 373), (17, 380), (18, 397), (19, 414), (20, 431), (21, 458), (22, 495), (23, 532), (24, 549), (25, 566), (26, 573), (27, 590), (28, 597), (29, 614), (30, 621), (31, 648), (32, 675), (33, 702), (34, 709), (35, 716), (36, 723), (37, 750), (38, 767), (39, 784), (40, 801)]), (216, 1, .aload 1), (217, 1, .aload 0), (218, 2, .iload 4), (220, 1, .iconst 1), (221, 1, .iadd), (222, 1, .iaload), (223, 3, .invokestatic 8821), (226, 1, .aload 2), (227, 1, .aload 0), (228, 2, .iload 4), (230, 1, .iconst 1), (231, 1, .iadd), (232, 1, .iaload), (233, 3, .invokestatic 15221), (236, 3, .if_icmp .eq 835), (239, 1, .iconst 0), (240, 1, .freturn), (241, 1, .aload 1), (242, 1, .aload 0), (243, 2, .iload 4), (245, 1, .iconst 1), (246, 1, .iadd), (247, 1, .iaload), (248, 3, .invokestatic 8921), (251, 1, .aload 2), (252, 1, .aload 0), (253, 2, .iload 4), (255, 1, .iconst 1), (256, 1, .iadd), (257, 1, .iaload), (258, 3, .invokestatic 15321), (261, 3, .if_icmp .eq 835), (264, 1, .iconst 0), (265, 1, .freturn), (266, 1, .aload 1), (267, 3, .invokestatic 9011), (270, 1, .aload 2), (271, 3, .invokestatic 16711), (274, 3, .if_icmp .eq 835), (277, 1, .iconst 0), (278, 1, .freturn), (279, 1, .aload 1), (280, 1, .aload 0), (281, 2, .iload 4), (283, 1, .iconst 1), (284, 1, .iadd), (285, 1, .iaload), (286, 1, .aload 0), (287, 2, .iload 4), (289, 1, .iconst 2), (290, 1, .iadd), (291, 1, .iaload), (292, 3, .invokestatic 9131), (295, 1, .aload 2), (296, 1, .aload 0), (297, 2, .iload 4), (299, 1, .iconst 1), (300, 1, .iadd), (301, 1, .iaload), (302, 1, .aload 0), (303, 2, .iload 4), (305, 1, .iconst 2), (306, 1, .iadd), (307, 1, .iaload), (308, 3, .invokestatic 15131), (311, 3, .if_icmp .eq 835), (314, 1, .iconst 0), (315, 1, .freturn), (316, 1, .aload 1), (317, 3, .invokestatic 9211), (320, 1, .aload 2), (321, 3, .invokestatic 16111), (324, 3, .if_icmp .eq 835), (327, 1, .iconst 0), (328, 1, .freturn), (329, 1, .aload 1), (330, 1, .aload 0), (331, 2, .iload 4), (333, 1, .iconst 1), (334, 1, .iadd), (335, 1, .iaload), (336, 1, .aload 0), (337, 2, .iload 4), (339, 1, .iconst 2), (340, 1, .iadd), (341, 1, .iaload), (342, 1, .aload 3), (343, 3, .invokestatic 1000041), (346, 2, .istore 5), (348, 1, .aload 2), (349, 1, .aload 0), (350, 2, .iload 4), (352, 1, .iconst 1), (353, 1, .iadd), (354, 1, .iaload), (355, 1, .aload 0), (356, 2, .iload 4), (358, 1, .iconst 2), (359, 1, .iadd), (360, 1, .iaload), (361, 3, .invokestatic 22031), (364, 2, .istore 6), (366, 1, .aload 2), (367, 3, .invokestatic 13911), (370, 2, .iload 5), (372, 3, .if_icmp .eq 133), (375, 1, .iconst 0), (376, 1, .freturn), (377, 2, .iload 5), (379, 3, .ifCond .ne 144), (382, 1, .aload 3), (383, 1, .iconst 0), (384, 1, .laload), (385, 2, .iload 6), (387, 1, .i2l), (388, 1, .lcmp), (389, 3, .ifCond .eq 144), (392, 1, .iconst 0), (393, 1, .freturn), (394, 3, .goto 835), (397, 1, .aload 1), (398, 1, .aload 0), (399, 2, .iload 4), (401, 1, .iconst 1), (402, 1, .iadd), (403, 1, .iaload), (404, 1, .aload 0), (405, 2, .iload 4), (407, 1, .iconst 2), (408, 1, .iadd), (409, 1, .iaload), (410, 1, .aload 3), (411, 3, .invokestatic 1000141), (414, 2, .istore 5), (416, 1, .aload 2), (417, 1, .aload 0), (418, 2, .iload 4), (420, 1, .iconst 1), (421, 1, .iadd), (422, 1, .iaload), (423, 1, .aload 0), (424, 2, .iload 4), (426, 1, .iconst 2), (427, 1, .iadd), (428, 1, .iaload), (429, 3, .invokestatic 22131), (432, 2, .istore 6), (434, 1, .aload 2), (435, 3, .invokestatic 13911), (438, 2, .iload 5), (440, 3, .if_icmp .eq 178), (443, 1, .iconst 0), (444, 1, .freturn), (445, 2, .iload 5), (447, 3, .ifCond .ne 189), (450, 1, .aload 3), (451, 1, .iconst 0), (452, 1, .laload), (453, 2, .iload 6), (455, 1, .i2l), (456, 1, .lcmp), (457, 3, .ifCond .eq 189), (460, 1, .iconst 0), (461, 1, .freturn), (462, 3, .goto 835), (465, 1, .aload 1), (466, 1, .aload 0), (467, 2, .iload 4), (469, 1, .iconst 1), (470, 1, .iadd), (471, 1, .iaload), (472, 3, .invokestatic 9521), (475, 1, .aload 2), (476, 1, .aload 0), (477, 2, .iload 4), (479, 1, .iconst 1), (480, 1, .iadd), (481, 1, .iaload), (482, 3, .invokestatic 22221), (485, 3, .if_icmp .eq 835), (488, 1, .iconst 0), (489, 1, .freturn), (490, 1, .aload 1), (491, 1, .aload 0), (492, 2, .iload 4), (494, 1, .iconst 1), (495, 1, .iadd), (496, 1, .iaload), (497, 1, .aload 0), (498, 2, .iload 4), (500, 1, .iconst 2), (501, 1, .iadd), (502, 1, .iaload), (503, 3, .invokestatic 9631), (506, 1, .aload 2), (507, 1, .aload 0), (508, 2, .iload 4), (510, 1, .iconst 1), (511, 1, .iadd), (512, 1, .iaload), (513, 1, .aload 0), (514, 2, .iload 4), (516, 1, .iconst 2), (517, 1, .iadd), (518, 1, .iaload), (519, 3, .invokestatic 22331), (522, 3, .if_icmp .eq 835), (525, 1, .iconst 0), (526, 1, .freturn), (527, 1, .aload 1), (528, 1, .aload 0), (529, 2, .iload 4), (531, 1, .iconst 1), (532, 1, .iadd), (533, 1, .iaload), (534, 1, .aload 0), (535, 2, .iload 4), (537, 1, .iconst 2), (538, 1, .iadd), (539, 1, .iaload), (540, 1, .aload 0), (541, 2, .iload 4), (543, 1, .iconst 3), (544, 1, .iadd), (545, 1, .iaload), (546, 3, .invokestatic 9741), (549, 1, .aload 2), (550, 1, .aload 0), (551, 2, .iload 4), (553, 1, .iconst 1), (554, 1, .iadd), (555, 1, .iaload), (556, 1, .aload 0), (557, 2, .iload 4), (559, 1, .iconst 2), (560, 1, .iadd), (561, 1, .iaload), (562, 1, .aload 0), (563, 2, .iload 4), (565, 1, .iconst 3), (566, 1, .iadd), (567, 1, .iaload), (568, 3, .invokestatic 22441), (571, 3, .if_icmp .eq 835), (574, 1, .iconst 0), (575, 1, .freturn), (576, 1, .aload 1), (577, 1, .aload 0), (578, 2, .iload 4), (580, 1, .iconst 1), (581, 1, .iadd), (582, 1, .iaload), (583, 1, .aload 0), (584, 2, .iload 4), (586, 1, .iconst 2), (587, 1, .iadd), (588, 1, .iaload), (589, 3, .invokestatic 9831), (592, 1, .aload 2), (593, 1, .aload 0), (594, 2, .iload 4), (596, 1, .iconst 1), (597, 1, .iadd), (598, 1, .iaload), (599, 1, .aload 0), (600, 2, .iload 4), (602, 1, .iconst 2), (603, 1, .iadd), (604, 1, .iaload), (605, 3, .invokestatic 22531), (608, 3, .if_icmp .eq 835), (611, 1, .iconst 0), (612, 1, .freturn), (613, 1, .aload 1), (614, 1, .aload 0), (615, 2, .iload 4), (617, 1, .iconst 1), (618, 1, .iadd), (619, 1, .iaload), (620, 3, .invokestatic 9921), (623, 1, .aload 2), (624, 1, .aload 0), (625, 2, .iload 4), (627, 1, .iconst 1), (628, 1, .iadd), (629, 1, .iaload), (630, 3, .invokestatic 22621), (633, 3, .if_icmp .eq 835), (636, 1, .iconst 0), (637, 1, .freturn), (638, 1, .aload 1), (639, 1, .aload 0), (640, 2, .iload 4), (642, 1, .iconst 1), (643, 1, .iadd), (644, 1, .iaload), (645, 1, .aload 0), (646, 2, .iload 4), (648, 1, .iconst 2), (649, 1, .iadd), (650, 1, .iaload), (651, 3, .invokestatic 10031), (654, 1, .aload 2), (655, 1, .aload 0), (656, 2, .iload 4), (658, 1, .iconst 1), (659, 1, .iadd), (660, 1, .iaload), (661, 1, .aload 0), (662, 2, .iload 4), (664, 1, .iconst 2), (665, 1, .iadd), (666, 1, .iaload), (667, 3, .invokestatic 22731), (670, 3, .if_icmp .eq 835), (673, 1, .iconst 0), (674, 1, .freturn), (675, 1, .aload 1), (676, 1, .aload 0), (677, 2, .iload 4), (679, 1, .iconst 1), (680, 1, .iadd), (681, 1, .iaload), (682, 3, .invokestatic 10121), (685, 1, .aload 2), (686, 1, .aload 0), (687, 2, .iload 4), (689, 1, .iconst 1), (690, 1, .iadd), (691, 1, .iaload), (692, 3, .invokestatic 22821), (695, 3, .if_icmp .eq 835), (698, 1, .iconst 0), (699, 1, .freturn), (700, 1, .aload 1), (701, 3, .invokestatic 10211), (704, 1, .aload 2), (705, 3, .invokestatic 22911), (708, 3, .if_icmp .eq 835), (711, 1, .iconst 0), (712, 1, .freturn), (713, 1, .aload 1), (714, 3, .invokestatic 10311), (717, 1, .aload 2), (718, 3, .invokestatic 23211), (721, 3, .if_icmp .eq 835), (724, 1, .iconst 0), (725, 1, .freturn), (726, 1, .aload 1), (727, 3, .invokestatic 10411), (730, 1, .aload 2), (731, 3, .invokestatic 21911), (734, 3, .if_icmp .eq 835), (737, 1, .iconst 0), (738, 1, .freturn), (739, 1, .aload 1), (740, 1, .aload 0), (741, 2, .iload 4), (743, 1, .iconst 1), (744, 1, .iadd), (745, 1, .iaload), (746, 3, .invokestatic 10521), (749, 1, .aload 2), (750, 1, .aload 0), (751, 2, .iload 4), (753, 1, .iconst 1), (754, 1, .iadd), (755, 1, .iaload), (756, 3, .invokestatic 23321), (759, 3, .if_icmp .eq 835), (762, 1, .iconst 0), (763, 1, .freturn), (764, 1, .aload 1), (765, 1, .aload 0), (766, 2, .iload 4), (768, 1, .iconst 1), (769, 1, .iadd), (770, 1, .iaload), (771, 3, .invokestatic 10621), (774, 1, .aload 2), (775, 1, .aload 0), (776, 2, .iload 4), (778, 1, .iconst 1), (779, 1, .iadd), (780, 1, .iaload), (781, 3, .invokestatic 23421), (784, 3, .if_icmp .eq 835), (787, 1, .iconst 0), (788, 1, .freturn), (789, 1, .aload 1), (790, 1, .aload 0), (791, 2, .iload 4), (793, 1, .iconst 1), (794, 1, .iadd), (795, 1, .iaload), (796, 3, .invokestatic 10721), (799, 1, .aload 2), (800, 1, .aload 0), (801, 2, .iload 4), (803, 1, .iconst 1), (804, 1, .iadd), (805, 1, .iaload), (806, 3, .invokestatic 23521), (809, 3, .if_icmp .eq 835), (812, 1, .iconst 0), (813, 1, .freturn), (814, 1, .aload 1), (815, 1, .aload 0), (816, 2, .iload 4), (818, 1, .iconst 1), (819, 1, .iadd), (820, 1, .iaload), (821, 1, .aload 0), (822, 2, .iload 4), (824, 1, .iconst 2), (825, 1, .iadd), (826, 1, .iaload), (827, 3, .invokestatic 10831), (830, 1, .aload 2), (831, 1, .aload 0), (832, 2, .iload 4), (834, 1, .iconst 1), (835, 1, .iadd), (836, 1, .iaload), (837, 1, .aload 0), (838, 2, .iload 4), (840, 1, .iconst 2), (841, 1, .iadd), (842, 1, .iaload), (843, 3, .invokestatic 23731), (846, 3, .if_icmp .eq 835), (849, 1, .iconst 0), (850, 1, .freturn), (851, 1, .aload 1), (852, 1, .aload 0), (853, 2, .iload 4), (855, 1, .iconst 1), (856, 1, .iadd), (857, 1, .iaload), (858, 1, .aload 0), (859, 2, .iload 4), (861, 1, .iconst 2), (862, 1, .iadd), (863, 1, .iaload), (864, 1, .aload 0), (865, 2, .iload 4), (867, 1, .iconst 3), (868, 1, .iadd), (869, 1, .iaload), (870, 3, .invokestatic 10941), (873, 1, .aload 2), (874, 1, .aload 0), (875, 2, .iload 4), (877, 1, .iconst 1), (878, 1, .iadd), (879, 1, .iaload), (880, 1, .aload 0), (881, 2, .iload 4), (883, 1, .iconst 2), (884, 1, .iadd), (885, 1, .iaload), (886, 1, .aload 0), (887, 2, .iload 4), (889, 1, .iconst 3), (890, 1, .iadd), (891, 1, .iaload), (892, 3, .invokestatic 23941), (895, 3, .if_icmp .eq 835), (898, 1, .iconst 0), (899, 1, .freturn), (900, 1, .aload 1), (901, 1, .aload 0), (902, 2, .iload 4), (904, 1, .iconst 1), (905, 1, .iadd), (906, 1, .iaload), (907, 1, .aload 0), (908, 2, .iload 4), (910, 1, .iconst 2), (911, 1, .iadd), (912, 1, .iaload), (913, 1, .aload 0), (914, 2, .iload 4), (916, 1, .iconst 3), (917, 1, .iadd), (918, 1, .iaload), (919, 3, .invokestatic 11041), (922, 1, .aload 2), (923, 1, .aload 0), (924, 2, .iload 4), (926, 1, .iconst 1), (927, 1, .iadd), (928, 1, .iaload), (929, 1, .aload 0), (930, 2, .iload 4), (932, 1, .iconst 2), (933, 1, .iadd), (934, 1, .iaload), (935, 1, .aload 0), (936, 2, .iload 4), (938, 1, .iconst 3), (939, 1, .iadd), (940, 1, .iaload), (941, 3, .invokestatic 24041), (944, 3, .if_icmp .eq 835), (947, 1, .iconst 0), (948, 1, .freturn), (949, 1, .aload 1), (950, 1, .aload 0), (951, 2, .iload 4), (953, 1, .iconst 1), (954, 1, .iadd), (955, 1, .iaload), (956, 3, .invokestatic 11121), (959, 1, .aload 2), (960, 1, .aload 0), (961, 2, .iload 4), (963, 1, .iconst 1), (964, 1, .iadd), (965, 1, .iaload), (966, 3, .invokestatic 24121), (969, 3, .if_icmp .eq 835), (972, 1, .iconst 0), (973, 1, .freturn), (974, 1, .aload 1), (975, 1, .aload 0), (976, 2, .iload 4), (978, 1, .iconst 1), (979, 1, .iadd), (980, 1, .iaload), (981, 3, .invokestatic 11221), (984, 1, .aload 2), (985, 1, .aload 0), (986, 2, .iload 4), (988, 1, .iconst 1), (989, 1, .iadd), (990, 1, .iaload), (991, 3, .invokestatic 24221), (994, 3, .if_icmp .eq 835), (997, 1, .iconst 0), (998, 1, .freturn), (999, 1, .aload 1), (1000, 3, .invokestatic 11311), (1003, 1, .aload 2), (1004, 3, .invokestatic 24311), (1007, 3, .if_icmp .eq 835), (1010, 1, .iconst 0), (1011, 1, .freturn), (1012, 1, .aload 1), (1013, 1, .aload 0), (1014, 2, .iload 4), (1016, 1, .iconst 1), (1017, 1, .iadd), (1018, 1, .iaload), (1019, 3, .invokestatic 11421), (1022, 1, .aload 2), (1023, 1, .aload 0), (1024, 2, .iload 4), (1026, 1, .iconst 1), (1027, 1, .iadd), (1028, 1, .iaload), (1029, 3, .invokestatic 24521), (1032, 3, .if_icmp .eq 835), (1035, 1, .iconst 0), (1036, 1, .freturn), (1037, 1, .aload 1), (1038, 3, .invokestatic 11511), (1041, 1, .aload 2), (1042, 3, .invokestatic 24611), (1045, 3, .if_icmp .eq 835), (1048, 1, .iconst 0), (1049, 1, .freturn), (1050, 1, .aload 1), (1051, 1, .aload 0), (1052, 2, .iload 4), (1054, 1, .iconst 1), (1055, 1, .iadd), (1056, 1, .iaload), (1057, 3, .invokestatic 11621), (1060, 1, .aload 2), (1061, 1, .aload 0), (1062, 2, .iload 4), (1064, 1, .iconst 1), (1065, 1, .iadd), (1066, 1, .iaload), (1067, 3, .invokestatic 24821), (1070, 3, .if_icmp .eq 835), (1073, 1, .iconst 0), (1074, 1, .freturn), (1075, 1, .aload 1), (1076, 3, .invokestatic 11711), (1079, 1, .aload 2), (1080, 3, .invokestatic 24911), (1083, 3, .if_icmp .eq 835), (1086, 1, .iconst 0), (1087, 1, .freturn), (1088, 1, .aload 1), (1089, 1, .aload 0), (1090, 2, .iload 4), (1092, 1, .iconst 1), (1093, 1, .iadd), (1094, 1, .iaload), (1095, 1, .aload 0), (1096, 2, .iload 4), (1098, 1, .iconst 2), (1099, 1, .iadd), (1100, 1, .iaload), (1101, 3, .invokestatic 11831), (1104, 1, .aload 2), (1105, 1, .aload 0), (1106, 2, .iload 4), (1108, 1, .iconst 1), (1109, 1, .iadd), (1110, 1, .iaload), (1111, 1, .aload 0), (1112, 2, .iload 4), (1114, 1, .iconst 2), (1115, 1, .iadd), (1116, 1, .iaload), (1117, 3, .invokestatic 25031), (1120, 3, .if_icmp .eq 835), (1123, 1, .iconst 0), (1124, 1, .freturn), (1125, 1, .aload 1), (1126, 1, .aload 0), (1127, 2, .iload 4), (1129, 1, .iconst 1), (1130, 1, .iadd), (1131, 1, .iaload), (1132, 1, .aload 0), (1133, 2, .iload 4), (1135, 1, .iconst 2), (1136, 1, .iadd), (1137, 1, .iaload), (1138, 3, .invokestatic 11931), (1141, 1, .aload 2), (1142, 1, .aload 0), (1143, 2, .iload 4), (1145, 1, .iconst 1), (1146, 1, .iadd), (1147, 1, .iaload), (1148, 1, .aload 0), (1149, 2, .iload 4), (1151, 1, .iconst 2), (1152, 1, .iadd), (1153, 1, .iaload), (1154, 3, .invokestatic 25131), (1157, 3, .if_icmp .eq 835), (1160, 1, .iconst 0), (1161, 1, .freturn), (1162, 1, .aload 1), (1163, 1, .aload 0), (1164, 2, .iload 4), (1166, 1, .iconst 1), (1167, 1, .iadd), (1168, 1, .iaload), (1169, 1, .aload 0), (1170, 2, .iload 4), (1172, 1, .iconst 2), (1173, 1, .iadd), (1174, 1, .iaload), (1175, 3, .invokestatic 12031), (1178, 1, .aload 2), (1179, 1, .aload 0), (1180, 2, .iload 4), (1182, 1, .iconst 1), (1183, 1, .iadd), (1184, 1, .iaload), (1185, 1, .aload 0), (1186, 2, .iload 4), (1188, 1, .iconst 2), (1189, 1, .iadd), (1190, 1, .iaload), (1191, 3, .invokestatic 25231), (1194, 3, .if_icmp .eq 835), (1197, 1, .iconst 0), (1198, 1, .freturn), (1199, 1, .aload 1), (1200, 3, .invokestatic 12111), (1203, 1, .aload 2), (1204, 3, .invokestatic 25311), (1207, 3, .if_icmp .eq 835), (1210, 1, .iconst 0), (1211, 1, .freturn), (1212, 1, .aload 1), (1213, 3, .invokestatic 12211), (1216, 1, .aload 2), (1217, 3, .invokestatic 25511), (1220, 3, .if_icmp .eq 835), (1223, 1, .iconst 0), (1224, 1, .freturn), (1225, 1, .aload 1), (1226, 3, .invokestatic 12311), (1229, 1, .aload 2), (1230, 3, .invokestatic 25611), (1233, 3, .if_icmp .eq 835), (1236, 1, .iconst 0), (1237, 1, .freturn), (1238, 1, .aload 1), (1239, 1, .aload 0), (1240, 2, .iload 4), (1242, 1, .iconst 1), (1243, 1, .iadd), (1244, 1, .iaload), (1245, 1, .aload 0), (1246, 2, .iload 4), (1248, 1, .iconst 2), (1249, 1, .iadd), (1250, 1, .iaload), (1251, 3, .invokestatic 12431), (1254, 1, .aload 2), (1255, 1, .aload 0), (1256, 2, .iload 4), (1258, 1, .iconst 1), (1259, 1, .iadd), (1260, 1, .iaload), (1261, 1, .aload 0), (1262, 2, .iload 4), (1264, 1, .iconst 2), (1265, 1, .iadd), (1266, 1, .iaload), (1267, 3, .invokestatic 26031), (1270, 3, .if_icmp .eq 835), (1273, 1, .iconst 0), (1274, 1, .freturn), (1275, 1, .aload 1), (1276, 1, .aload 0), (1277, 2, .iload 4), (1279, 1, .iconst 1), (1280, 1, .iadd), (1281, 1, .iaload), (1282, 3, .invokestatic 12521), (1285, 1, .aload 2), (1286, 1, .aload 0), (1287, 2, .iload 4), (1289, 1, .iconst 1), (1290, 1, .iadd), (1291, 1, .iaload), (1292, 3, .invokestatic 26121), (1295, 3, .if_icmp .eq 835), (1298, 1, .iconst 0), (1299, 1, .freturn), (1300, 1, .aload 1), (1301, 1, .aload 0), (1302, 2, .iload 4), (1304, 1, .iconst 1), (1305, 1, .iadd), (1306, 1, .iaload), (1307, 3, .invokestatic 12621), (1310, 1, .aload 2), (1311, 1, .aload 0), (1312, 2, .iload 4), (1314, 1, .iconst 1), (1315, 1, .iadd), (1316, 1, .iaload), (1317, 3, .invokestatic 26221), (1320, 3, .if_icmp .eq 835), (1323, 1, .iconst 0), (1324, 1, .freturn), (1325, 1, .aload 1), (1326, 1, .aload 0), (1327, 2, .iload 4), (1329, 1, .iconst 1), (1330, 1, .iadd), (1331, 1, .iaload), (1332, 3, .invokestatic 12721), (1335, 1, .aload 2), (1336, 1, .aload 0), (1337, 2, .iload 4), (1339, 1, .iconst 1), (1340, 1, .iadd), (1341, 1, .iaload), (1342, 3, .invokestatic 26321), (1345, 3, .if_icmp .eq 835), (1348, 1, .iconst 0), (1349, 1, .freturn), (1350, 1, .aload 1), (1351, 1, .aload 0), (1352, 2, .iload 4), (1354, 1, .iconst 1), (1355, 1, .iadd), (1356, 1, .iaload), (1357, 1, .aload 3), (1358, 3, .invokestatic 1000231), (1361, 2, .istore 5), (1363, 1, .aload 2), (1364, 1, .aload 0), (1365, 2, .iload 4), (1367, 1, .iconst 1), (1368, 1, .iadd), (1369, 1, .iaload), (1370, 3, .invokestatic 26422), (1373, 2, .lstore 6), (1375, 1, .aload 2), (1376, 3, .invokestatic 13911), (1379, 2, .iload 5), (1381, 3, .if_icmp .eq 824), (1384, 1, .iconst 0), (1385, 1, .freturn), (1386, 2, .iload 5), (1388, 3, .ifCond .ne 834), (1391, 1, .aload 3), (1392, 1, .iconst 0), (1393, 1, .laload), (1394, 2, .lload 6), (1396, 1, .lcmp), (1397, 3, .ifCond .eq 834), (1400, 1, .iconst 0), (1401, 1, .freturn), (1402, 3, .goto 835), (1405, 3, .iinc 4 4), (1408, 3, .goto 13), (1411, 1, .iconst 1), (1412, 1, .freturn)]
def lld (xs : List Int32) (i : Int32) : Option Int32 := if ¬ (i < 0 ∨ xs.length ≤ i.toNatClampNeg) then some (xs.getD i.toNatClampNeg 0) else none
/-- the law's three instructions about its script and its end -/
def lsp : Instr → Bool
  | .arraylength => true
  | .iaload => true
  | .freturn => true
  | _ => false
def lwr : Instr → Bool
  | .invokestatic n => decide (1000000 ≤ n)
  | _ => false
def lopS (xs : List Int32) (i : Instr) (pc : Nat) (L S : List Value) (μ : qM) (k : qK) : Option qR := match i with
  | .arraylength => (match S with
      | .retAddr j :: S => if j = 60 then k (pc + 1) L (.int (Int32.ofNat xs.length) :: S) μ else none
      | _ => none)
  | .iaload => (match S with
      | .int i :: .retAddr j :: S => if j = 60 then qbnd (lld xs i) fun x => k (pc + 1) L (.int x :: S) μ else none
      | _ => none)
  | .freturn => (match S with
      | [.int x] => if x = 1 then some (1, 0, μ) else none
      | _ => none)
  | _ => none
/-- wf: the law's own static methods owner, held, row, by 0, 1, 2 -/
def lop (al : Bool) (xs : List Int32) (wf cf : qF) (i : Instr) (pc : Nat) (L S : List Value) (μ : qM) (k : qK) : Option qR :=
  if lsp i = true then lopS xs i pc L S μ k else if lwr i = true then (match i with
    | .invokestatic n => qcall (fun M l μ => wf (M - 10000) l μ) n pc L S μ k
    | _ => none) else qop al cf i pc L S μ k
def lblk (al : Bool) (xs : List Int32) (wf cf : qF) (cd : qC) (st : Nat → Bool) (K : qK) : Nat → qK
  | 0 => fun _ _ _ _ => none
  | n + 1 => fun pc L S μ => match qnth cd pc with
    | some (_, _, i) => lop al xs wf cf i pc L S μ fun pc' L' S' μ' => if st pc' = true then K pc' L' S' μ' else lblk al xs wf cf cd st K n pc' L' S' μ'
    | none => none
/-- the wrappers' entries: which one the pool's entry is -/
def lwj (j : Nat) : Option Nat := if j = 49 then some 0 else if j = 58 then some 1 else if j = 194 then some 2 else none
def lrel (b : Nat) (di i : Instr) : Bool := match di with
  | .invokestatic j => (match i with
      | .invokestatic n => decide (1000000 ≤ n) && decide (lwj j = some (n / 100 - 10000)) && decide (n % 10 = 1 ∧ n % 100 / 10 = (if n / 100 - 10000 = 2 then 3 else 4))
      | _ => false)
  | _ => false
def ldi : Instr → Instr
  | .freturn => .ireturn
  | i => i
def lnext (k n : Nat) : Bool := match qnth qcL_law (k + 1) with
  | some nx => decide (nx.1 = n)
  | none => false
def lrowok (k : Nat) (row : Nat × Nat × Instr) : Bool :=
  if lsp row.2.2 = true then (match decode code row.1 with
    | .ok (di, len) => decide (di = ldi row.2.2) && decide (len = 1) && (decide (row.2.2 = .freturn) || lnext k (row.1 + 1))
    | .error _ => false)
  else if lwr row.2.2 = true then (match decode code row.1 with
    | .ok (di, len) => lrel row.1 di row.2.2 && decide (len = 3) && lnext k (row.1 + 3)
    | .error _ => false)
  else qrowok 9 (some .boolean) false 8 code qcL_law k row
def lcodes : Nat → List (Nat × Nat × Instr) → Bool
  | _, [] => true
  | k, row :: l => lrowok k row && lcodes (k + 1) l
def qcL_law_0 : List (Nat × Nat × Instr) := [(0, 3, .new 710), (3, 1, .dup), (4, 3, .invokestatic 8710), (7, 1, .astore 1), (8, 3, .new 831), (11, 1, .dup), (12, 3, .invokestatic 17010), (15, 1, .astore 2), (16, 1, .iconst 1), (17, 2, .anewarray 21), (19, 1, .astore 3), (20, 1, .iconst 0), (21, 2, .istore 4), (23, 2, .iload 4), (25, 1, .aload 0), (26, 1, .arraylength), (27, 1, .iconst 4), (28, 1, .isub), (29, 3, .if_icmp .gt 837), (32, 1, .aload 0), (33, 2, .iload 4), (35, 1, .iaload), (36, 2, .iconst 63), (38, 1, .iand), (39, 177, .lookupswitch 835 #[(0, 25), (1, 42), (2, 59), (3, 66), (4, 93), (5, 100), (6, 145), (7, 190), (8, 207), (9, 234), (10, 271), (11, 298), (12, 315), (13, 342), (14, 359), (15, 366), (16, 373), (17, 380), (18, 397), (19, 414), (20, 431), (21, 458), (22, 495), (23, 532), (24, 549), (25, 566), (26, 573), (27, 590), (28, 597), (29, 614), (30, 621), (31, 648), (32, 675), (33, 702), (34, 709), (35, 716), (36, 723), (37, 750), (38, 767), (39, 784), (40, 801)]), (216, 1, .aload 1), (217, 1, .aload 0), (218, 2, .iload 4), (220, 1, .iconst 1), (221, 1, .iadd), (222, 1, .iaload), (223, 3, .invokestatic 8821), (226, 1, .aload 2), (227, 1, .aload 0), (228, 2, .iload 4), (230, 1, .iconst 1), (231, 1, .iadd), (232, 1, .iaload), (233, 3, .invokestatic 15221), (236, 3, .if_icmp .eq 835), (239, 1, .iconst 0), (240, 1, .freturn), (241, 1, .aload 1), (242, 1, .aload 0), (243, 2, .iload 4), (245, 1, .iconst 1), (246, 1, .iadd), (247, 1, .iaload), (248, 3, .invokestatic 8921), (251, 1, .aload 2), (252, 1, .aload 0), (253, 2, .iload 4), (255, 1, .iconst 1), (256, 1, .iadd), (257, 1, .iaload), (258, 3, .invokestatic 15321), (261, 3, .if_icmp .eq 835), (264, 1, .iconst 0), (265, 1, .freturn), (266, 1, .aload 1)]
set_option maxRecDepth 100000 in
theorem lchk_0 : lcodes 0 qcL_law_0 = true := by decide +kernel
def qcL_law_1 : List (Nat × Nat × Instr) := [(267, 3, .invokestatic 9011), (270, 1, .aload 2), (271, 3, .invokestatic 16711), (274, 3, .if_icmp .eq 835), (277, 1, .iconst 0), (278, 1, .freturn), (279, 1, .aload 1), (280, 1, .aload 0), (281, 2, .iload 4), (283, 1, .iconst 1), (284, 1, .iadd), (285, 1, .iaload), (286, 1, .aload 0), (287, 2, .iload 4), (289, 1, .iconst 2), (290, 1, .iadd), (291, 1, .iaload), (292, 3, .invokestatic 9131), (295, 1, .aload 2), (296, 1, .aload 0), (297, 2, .iload 4), (299, 1, .iconst 1), (300, 1, .iadd), (301, 1, .iaload), (302, 1, .aload 0), (303, 2, .iload 4), (305, 1, .iconst 2), (306, 1, .iadd), (307, 1, .iaload), (308, 3, .invokestatic 15131), (311, 3, .if_icmp .eq 835), (314, 1, .iconst 0), (315, 1, .freturn), (316, 1, .aload 1), (317, 3, .invokestatic 9211), (320, 1, .aload 2), (321, 3, .invokestatic 16111), (324, 3, .if_icmp .eq 835), (327, 1, .iconst 0), (328, 1, .freturn), (329, 1, .aload 1), (330, 1, .aload 0), (331, 2, .iload 4), (333, 1, .iconst 1), (334, 1, .iadd), (335, 1, .iaload), (336, 1, .aload 0), (337, 2, .iload 4), (339, 1, .iconst 2), (340, 1, .iadd), (341, 1, .iaload), (342, 1, .aload 3), (343, 3, .invokestatic 1000041), (346, 2, .istore 5), (348, 1, .aload 2), (349, 1, .aload 0), (350, 2, .iload 4), (352, 1, .iconst 1), (353, 1, .iadd), (354, 1, .iaload)]
set_option maxRecDepth 100000 in
theorem lchk_1 : lcodes 60 qcL_law_1 = true := by decide +kernel
def qcL_law_2 : List (Nat × Nat × Instr) := [(355, 1, .aload 0), (356, 2, .iload 4), (358, 1, .iconst 2), (359, 1, .iadd), (360, 1, .iaload), (361, 3, .invokestatic 22031), (364, 2, .istore 6), (366, 1, .aload 2), (367, 3, .invokestatic 13911), (370, 2, .iload 5), (372, 3, .if_icmp .eq 133), (375, 1, .iconst 0), (376, 1, .freturn), (377, 2, .iload 5), (379, 3, .ifCond .ne 144), (382, 1, .aload 3), (383, 1, .iconst 0), (384, 1, .laload), (385, 2, .iload 6), (387, 1, .i2l), (388, 1, .lcmp), (389, 3, .ifCond .eq 144), (392, 1, .iconst 0), (393, 1, .freturn), (394, 3, .goto 835), (397, 1, .aload 1), (398, 1, .aload 0), (399, 2, .iload 4), (401, 1, .iconst 1), (402, 1, .iadd), (403, 1, .iaload), (404, 1, .aload 0), (405, 2, .iload 4), (407, 1, .iconst 2), (408, 1, .iadd), (409, 1, .iaload), (410, 1, .aload 3), (411, 3, .invokestatic 1000141), (414, 2, .istore 5), (416, 1, .aload 2), (417, 1, .aload 0), (418, 2, .iload 4), (420, 1, .iconst 1), (421, 1, .iadd), (422, 1, .iaload), (423, 1, .aload 0), (424, 2, .iload 4), (426, 1, .iconst 2), (427, 1, .iadd), (428, 1, .iaload), (429, 3, .invokestatic 22131), (432, 2, .istore 6), (434, 1, .aload 2), (435, 3, .invokestatic 13911), (438, 2, .iload 5), (440, 3, .if_icmp .eq 178), (443, 1, .iconst 0), (444, 1, .freturn), (445, 2, .iload 5), (447, 3, .ifCond .ne 189)]
set_option maxRecDepth 100000 in
theorem lchk_2 : lcodes 120 qcL_law_2 = true := by decide +kernel
def qcL_law_3 : List (Nat × Nat × Instr) := [(450, 1, .aload 3), (451, 1, .iconst 0), (452, 1, .laload), (453, 2, .iload 6), (455, 1, .i2l), (456, 1, .lcmp), (457, 3, .ifCond .eq 189), (460, 1, .iconst 0), (461, 1, .freturn), (462, 3, .goto 835), (465, 1, .aload 1), (466, 1, .aload 0), (467, 2, .iload 4), (469, 1, .iconst 1), (470, 1, .iadd), (471, 1, .iaload), (472, 3, .invokestatic 9521), (475, 1, .aload 2), (476, 1, .aload 0), (477, 2, .iload 4), (479, 1, .iconst 1), (480, 1, .iadd), (481, 1, .iaload), (482, 3, .invokestatic 22221), (485, 3, .if_icmp .eq 835), (488, 1, .iconst 0), (489, 1, .freturn), (490, 1, .aload 1), (491, 1, .aload 0), (492, 2, .iload 4), (494, 1, .iconst 1), (495, 1, .iadd), (496, 1, .iaload), (497, 1, .aload 0), (498, 2, .iload 4), (500, 1, .iconst 2), (501, 1, .iadd), (502, 1, .iaload), (503, 3, .invokestatic 9631), (506, 1, .aload 2), (507, 1, .aload 0), (508, 2, .iload 4), (510, 1, .iconst 1), (511, 1, .iadd), (512, 1, .iaload), (513, 1, .aload 0), (514, 2, .iload 4), (516, 1, .iconst 2), (517, 1, .iadd), (518, 1, .iaload), (519, 3, .invokestatic 22331), (522, 3, .if_icmp .eq 835), (525, 1, .iconst 0), (526, 1, .freturn), (527, 1, .aload 1), (528, 1, .aload 0), (529, 2, .iload 4), (531, 1, .iconst 1), (532, 1, .iadd), (533, 1, .iaload)]
set_option maxRecDepth 100000 in
theorem lchk_3 : lcodes 180 qcL_law_3 = true := by decide +kernel
def qcL_law_4 : List (Nat × Nat × Instr) := [(534, 1, .aload 0), (535, 2, .iload 4), (537, 1, .iconst 2), (538, 1, .iadd), (539, 1, .iaload), (540, 1, .aload 0), (541, 2, .iload 4), (543, 1, .iconst 3), (544, 1, .iadd), (545, 1, .iaload), (546, 3, .invokestatic 9741), (549, 1, .aload 2), (550, 1, .aload 0), (551, 2, .iload 4), (553, 1, .iconst 1), (554, 1, .iadd), (555, 1, .iaload), (556, 1, .aload 0), (557, 2, .iload 4), (559, 1, .iconst 2), (560, 1, .iadd), (561, 1, .iaload), (562, 1, .aload 0), (563, 2, .iload 4), (565, 1, .iconst 3), (566, 1, .iadd), (567, 1, .iaload), (568, 3, .invokestatic 22441), (571, 3, .if_icmp .eq 835), (574, 1, .iconst 0), (575, 1, .freturn), (576, 1, .aload 1), (577, 1, .aload 0), (578, 2, .iload 4), (580, 1, .iconst 1), (581, 1, .iadd), (582, 1, .iaload), (583, 1, .aload 0), (584, 2, .iload 4), (586, 1, .iconst 2), (587, 1, .iadd), (588, 1, .iaload), (589, 3, .invokestatic 9831), (592, 1, .aload 2), (593, 1, .aload 0), (594, 2, .iload 4), (596, 1, .iconst 1), (597, 1, .iadd), (598, 1, .iaload), (599, 1, .aload 0), (600, 2, .iload 4), (602, 1, .iconst 2), (603, 1, .iadd), (604, 1, .iaload), (605, 3, .invokestatic 22531), (608, 3, .if_icmp .eq 835), (611, 1, .iconst 0), (612, 1, .freturn), (613, 1, .aload 1), (614, 1, .aload 0)]
set_option maxRecDepth 100000 in
theorem lchk_4 : lcodes 240 qcL_law_4 = true := by decide +kernel
def qcL_law_5 : List (Nat × Nat × Instr) := [(615, 2, .iload 4), (617, 1, .iconst 1), (618, 1, .iadd), (619, 1, .iaload), (620, 3, .invokestatic 9921), (623, 1, .aload 2), (624, 1, .aload 0), (625, 2, .iload 4), (627, 1, .iconst 1), (628, 1, .iadd), (629, 1, .iaload), (630, 3, .invokestatic 22621), (633, 3, .if_icmp .eq 835), (636, 1, .iconst 0), (637, 1, .freturn), (638, 1, .aload 1), (639, 1, .aload 0), (640, 2, .iload 4), (642, 1, .iconst 1), (643, 1, .iadd), (644, 1, .iaload), (645, 1, .aload 0), (646, 2, .iload 4), (648, 1, .iconst 2), (649, 1, .iadd), (650, 1, .iaload), (651, 3, .invokestatic 10031), (654, 1, .aload 2), (655, 1, .aload 0), (656, 2, .iload 4), (658, 1, .iconst 1), (659, 1, .iadd), (660, 1, .iaload), (661, 1, .aload 0), (662, 2, .iload 4), (664, 1, .iconst 2), (665, 1, .iadd), (666, 1, .iaload), (667, 3, .invokestatic 22731), (670, 3, .if_icmp .eq 835), (673, 1, .iconst 0), (674, 1, .freturn), (675, 1, .aload 1), (676, 1, .aload 0), (677, 2, .iload 4), (679, 1, .iconst 1), (680, 1, .iadd), (681, 1, .iaload), (682, 3, .invokestatic 10121), (685, 1, .aload 2), (686, 1, .aload 0), (687, 2, .iload 4), (689, 1, .iconst 1), (690, 1, .iadd), (691, 1, .iaload), (692, 3, .invokestatic 22821), (695, 3, .if_icmp .eq 835), (698, 1, .iconst 0), (699, 1, .freturn), (700, 1, .aload 1)]
set_option maxRecDepth 100000 in
theorem lchk_5 : lcodes 300 qcL_law_5 = true := by decide +kernel
def qcL_law_6 : List (Nat × Nat × Instr) := [(701, 3, .invokestatic 10211), (704, 1, .aload 2), (705, 3, .invokestatic 22911), (708, 3, .if_icmp .eq 835), (711, 1, .iconst 0), (712, 1, .freturn), (713, 1, .aload 1), (714, 3, .invokestatic 10311), (717, 1, .aload 2), (718, 3, .invokestatic 23211), (721, 3, .if_icmp .eq 835), (724, 1, .iconst 0), (725, 1, .freturn), (726, 1, .aload 1), (727, 3, .invokestatic 10411), (730, 1, .aload 2), (731, 3, .invokestatic 21911), (734, 3, .if_icmp .eq 835), (737, 1, .iconst 0), (738, 1, .freturn), (739, 1, .aload 1), (740, 1, .aload 0), (741, 2, .iload 4), (743, 1, .iconst 1), (744, 1, .iadd), (745, 1, .iaload), (746, 3, .invokestatic 10521), (749, 1, .aload 2), (750, 1, .aload 0), (751, 2, .iload 4), (753, 1, .iconst 1), (754, 1, .iadd), (755, 1, .iaload), (756, 3, .invokestatic 23321), (759, 3, .if_icmp .eq 835), (762, 1, .iconst 0), (763, 1, .freturn), (764, 1, .aload 1), (765, 1, .aload 0), (766, 2, .iload 4), (768, 1, .iconst 1), (769, 1, .iadd), (770, 1, .iaload), (771, 3, .invokestatic 10621), (774, 1, .aload 2), (775, 1, .aload 0), (776, 2, .iload 4), (778, 1, .iconst 1), (779, 1, .iadd), (780, 1, .iaload), (781, 3, .invokestatic 23421), (784, 3, .if_icmp .eq 835), (787, 1, .iconst 0), (788, 1, .freturn), (789, 1, .aload 1), (790, 1, .aload 0), (791, 2, .iload 4), (793, 1, .iconst 1), (794, 1, .iadd), (795, 1, .iaload)]
set_option maxRecDepth 100000 in
theorem lchk_6 : lcodes 360 qcL_law_6 = true := by decide +kernel
def qcL_law_7 : List (Nat × Nat × Instr) := [(796, 3, .invokestatic 10721), (799, 1, .aload 2), (800, 1, .aload 0), (801, 2, .iload 4), (803, 1, .iconst 1), (804, 1, .iadd), (805, 1, .iaload), (806, 3, .invokestatic 23521), (809, 3, .if_icmp .eq 835), (812, 1, .iconst 0), (813, 1, .freturn), (814, 1, .aload 1), (815, 1, .aload 0), (816, 2, .iload 4), (818, 1, .iconst 1), (819, 1, .iadd), (820, 1, .iaload), (821, 1, .aload 0), (822, 2, .iload 4), (824, 1, .iconst 2), (825, 1, .iadd), (826, 1, .iaload), (827, 3, .invokestatic 10831), (830, 1, .aload 2), (831, 1, .aload 0), (832, 2, .iload 4), (834, 1, .iconst 1), (835, 1, .iadd), (836, 1, .iaload), (837, 1, .aload 0), (838, 2, .iload 4), (840, 1, .iconst 2), (841, 1, .iadd), (842, 1, .iaload), (843, 3, .invokestatic 23731), (846, 3, .if_icmp .eq 835), (849, 1, .iconst 0), (850, 1, .freturn), (851, 1, .aload 1), (852, 1, .aload 0), (853, 2, .iload 4), (855, 1, .iconst 1), (856, 1, .iadd), (857, 1, .iaload), (858, 1, .aload 0), (859, 2, .iload 4), (861, 1, .iconst 2), (862, 1, .iadd), (863, 1, .iaload), (864, 1, .aload 0), (865, 2, .iload 4), (867, 1, .iconst 3), (868, 1, .iadd), (869, 1, .iaload), (870, 3, .invokestatic 10941), (873, 1, .aload 2), (874, 1, .aload 0), (875, 2, .iload 4), (877, 1, .iconst 1), (878, 1, .iadd)]
set_option maxRecDepth 100000 in
theorem lchk_7 : lcodes 420 qcL_law_7 = true := by decide +kernel
def qcL_law_8 : List (Nat × Nat × Instr) := [(879, 1, .iaload), (880, 1, .aload 0), (881, 2, .iload 4), (883, 1, .iconst 2), (884, 1, .iadd), (885, 1, .iaload), (886, 1, .aload 0), (887, 2, .iload 4), (889, 1, .iconst 3), (890, 1, .iadd), (891, 1, .iaload), (892, 3, .invokestatic 23941), (895, 3, .if_icmp .eq 835), (898, 1, .iconst 0), (899, 1, .freturn), (900, 1, .aload 1), (901, 1, .aload 0), (902, 2, .iload 4), (904, 1, .iconst 1), (905, 1, .iadd), (906, 1, .iaload), (907, 1, .aload 0), (908, 2, .iload 4), (910, 1, .iconst 2), (911, 1, .iadd), (912, 1, .iaload), (913, 1, .aload 0), (914, 2, .iload 4), (916, 1, .iconst 3), (917, 1, .iadd), (918, 1, .iaload), (919, 3, .invokestatic 11041), (922, 1, .aload 2), (923, 1, .aload 0), (924, 2, .iload 4), (926, 1, .iconst 1), (927, 1, .iadd), (928, 1, .iaload), (929, 1, .aload 0), (930, 2, .iload 4), (932, 1, .iconst 2), (933, 1, .iadd), (934, 1, .iaload), (935, 1, .aload 0), (936, 2, .iload 4), (938, 1, .iconst 3), (939, 1, .iadd), (940, 1, .iaload), (941, 3, .invokestatic 24041), (944, 3, .if_icmp .eq 835), (947, 1, .iconst 0), (948, 1, .freturn), (949, 1, .aload 1), (950, 1, .aload 0), (951, 2, .iload 4), (953, 1, .iconst 1), (954, 1, .iadd), (955, 1, .iaload), (956, 3, .invokestatic 11121), (959, 1, .aload 2)]
set_option maxRecDepth 100000 in
theorem lchk_8 : lcodes 480 qcL_law_8 = true := by decide +kernel
def qcL_law_9 : List (Nat × Nat × Instr) := [(960, 1, .aload 0), (961, 2, .iload 4), (963, 1, .iconst 1), (964, 1, .iadd), (965, 1, .iaload), (966, 3, .invokestatic 24121), (969, 3, .if_icmp .eq 835), (972, 1, .iconst 0), (973, 1, .freturn), (974, 1, .aload 1), (975, 1, .aload 0), (976, 2, .iload 4), (978, 1, .iconst 1), (979, 1, .iadd), (980, 1, .iaload), (981, 3, .invokestatic 11221), (984, 1, .aload 2), (985, 1, .aload 0), (986, 2, .iload 4), (988, 1, .iconst 1), (989, 1, .iadd), (990, 1, .iaload), (991, 3, .invokestatic 24221), (994, 3, .if_icmp .eq 835), (997, 1, .iconst 0), (998, 1, .freturn), (999, 1, .aload 1), (1000, 3, .invokestatic 11311), (1003, 1, .aload 2), (1004, 3, .invokestatic 24311), (1007, 3, .if_icmp .eq 835), (1010, 1, .iconst 0), (1011, 1, .freturn), (1012, 1, .aload 1), (1013, 1, .aload 0), (1014, 2, .iload 4), (1016, 1, .iconst 1), (1017, 1, .iadd), (1018, 1, .iaload), (1019, 3, .invokestatic 11421), (1022, 1, .aload 2), (1023, 1, .aload 0), (1024, 2, .iload 4), (1026, 1, .iconst 1), (1027, 1, .iadd), (1028, 1, .iaload), (1029, 3, .invokestatic 24521), (1032, 3, .if_icmp .eq 835), (1035, 1, .iconst 0), (1036, 1, .freturn), (1037, 1, .aload 1), (1038, 3, .invokestatic 11511), (1041, 1, .aload 2), (1042, 3, .invokestatic 24611), (1045, 3, .if_icmp .eq 835), (1048, 1, .iconst 0), (1049, 1, .freturn), (1050, 1, .aload 1), (1051, 1, .aload 0), (1052, 2, .iload 4)]
set_option maxRecDepth 100000 in
theorem lchk_9 : lcodes 540 qcL_law_9 = true := by decide +kernel
def qcL_law_10 : List (Nat × Nat × Instr) := [(1054, 1, .iconst 1), (1055, 1, .iadd), (1056, 1, .iaload), (1057, 3, .invokestatic 11621), (1060, 1, .aload 2), (1061, 1, .aload 0), (1062, 2, .iload 4), (1064, 1, .iconst 1), (1065, 1, .iadd), (1066, 1, .iaload), (1067, 3, .invokestatic 24821), (1070, 3, .if_icmp .eq 835), (1073, 1, .iconst 0), (1074, 1, .freturn), (1075, 1, .aload 1), (1076, 3, .invokestatic 11711), (1079, 1, .aload 2), (1080, 3, .invokestatic 24911), (1083, 3, .if_icmp .eq 835), (1086, 1, .iconst 0), (1087, 1, .freturn), (1088, 1, .aload 1), (1089, 1, .aload 0), (1090, 2, .iload 4), (1092, 1, .iconst 1), (1093, 1, .iadd), (1094, 1, .iaload), (1095, 1, .aload 0), (1096, 2, .iload 4), (1098, 1, .iconst 2), (1099, 1, .iadd), (1100, 1, .iaload), (1101, 3, .invokestatic 11831), (1104, 1, .aload 2), (1105, 1, .aload 0), (1106, 2, .iload 4), (1108, 1, .iconst 1), (1109, 1, .iadd), (1110, 1, .iaload), (1111, 1, .aload 0), (1112, 2, .iload 4), (1114, 1, .iconst 2), (1115, 1, .iadd), (1116, 1, .iaload), (1117, 3, .invokestatic 25031), (1120, 3, .if_icmp .eq 835), (1123, 1, .iconst 0), (1124, 1, .freturn), (1125, 1, .aload 1), (1126, 1, .aload 0), (1127, 2, .iload 4), (1129, 1, .iconst 1), (1130, 1, .iadd), (1131, 1, .iaload), (1132, 1, .aload 0), (1133, 2, .iload 4), (1135, 1, .iconst 2), (1136, 1, .iadd), (1137, 1, .iaload), (1138, 3, .invokestatic 11931)]
set_option maxRecDepth 100000 in
theorem lchk_10 : lcodes 600 qcL_law_10 = true := by decide +kernel
def qcL_law_11 : List (Nat × Nat × Instr) := [(1141, 1, .aload 2), (1142, 1, .aload 0), (1143, 2, .iload 4), (1145, 1, .iconst 1), (1146, 1, .iadd), (1147, 1, .iaload), (1148, 1, .aload 0), (1149, 2, .iload 4), (1151, 1, .iconst 2), (1152, 1, .iadd), (1153, 1, .iaload), (1154, 3, .invokestatic 25131), (1157, 3, .if_icmp .eq 835), (1160, 1, .iconst 0), (1161, 1, .freturn), (1162, 1, .aload 1), (1163, 1, .aload 0), (1164, 2, .iload 4), (1166, 1, .iconst 1), (1167, 1, .iadd), (1168, 1, .iaload), (1169, 1, .aload 0), (1170, 2, .iload 4), (1172, 1, .iconst 2), (1173, 1, .iadd), (1174, 1, .iaload), (1175, 3, .invokestatic 12031), (1178, 1, .aload 2), (1179, 1, .aload 0), (1180, 2, .iload 4), (1182, 1, .iconst 1), (1183, 1, .iadd), (1184, 1, .iaload), (1185, 1, .aload 0), (1186, 2, .iload 4), (1188, 1, .iconst 2), (1189, 1, .iadd), (1190, 1, .iaload), (1191, 3, .invokestatic 25231), (1194, 3, .if_icmp .eq 835), (1197, 1, .iconst 0), (1198, 1, .freturn), (1199, 1, .aload 1), (1200, 3, .invokestatic 12111), (1203, 1, .aload 2), (1204, 3, .invokestatic 25311), (1207, 3, .if_icmp .eq 835), (1210, 1, .iconst 0), (1211, 1, .freturn), (1212, 1, .aload 1), (1213, 3, .invokestatic 12211), (1216, 1, .aload 2), (1217, 3, .invokestatic 25511), (1220, 3, .if_icmp .eq 835), (1223, 1, .iconst 0), (1224, 1, .freturn), (1225, 1, .aload 1), (1226, 3, .invokestatic 12311), (1229, 1, .aload 2), (1230, 3, .invokestatic 25611)]
set_option maxRecDepth 100000 in
theorem lchk_11 : lcodes 660 qcL_law_11 = true := by decide +kernel
def qcL_law_12 : List (Nat × Nat × Instr) := [(1233, 3, .if_icmp .eq 835), (1236, 1, .iconst 0), (1237, 1, .freturn), (1238, 1, .aload 1), (1239, 1, .aload 0), (1240, 2, .iload 4), (1242, 1, .iconst 1), (1243, 1, .iadd), (1244, 1, .iaload), (1245, 1, .aload 0), (1246, 2, .iload 4), (1248, 1, .iconst 2), (1249, 1, .iadd), (1250, 1, .iaload), (1251, 3, .invokestatic 12431), (1254, 1, .aload 2), (1255, 1, .aload 0), (1256, 2, .iload 4), (1258, 1, .iconst 1), (1259, 1, .iadd), (1260, 1, .iaload), (1261, 1, .aload 0), (1262, 2, .iload 4), (1264, 1, .iconst 2), (1265, 1, .iadd), (1266, 1, .iaload), (1267, 3, .invokestatic 26031), (1270, 3, .if_icmp .eq 835), (1273, 1, .iconst 0), (1274, 1, .freturn), (1275, 1, .aload 1), (1276, 1, .aload 0), (1277, 2, .iload 4), (1279, 1, .iconst 1), (1280, 1, .iadd), (1281, 1, .iaload), (1282, 3, .invokestatic 12521), (1285, 1, .aload 2), (1286, 1, .aload 0), (1287, 2, .iload 4), (1289, 1, .iconst 1), (1290, 1, .iadd), (1291, 1, .iaload), (1292, 3, .invokestatic 26121), (1295, 3, .if_icmp .eq 835), (1298, 1, .iconst 0), (1299, 1, .freturn), (1300, 1, .aload 1), (1301, 1, .aload 0), (1302, 2, .iload 4), (1304, 1, .iconst 1), (1305, 1, .iadd), (1306, 1, .iaload), (1307, 3, .invokestatic 12621), (1310, 1, .aload 2), (1311, 1, .aload 0), (1312, 2, .iload 4), (1314, 1, .iconst 1), (1315, 1, .iadd), (1316, 1, .iaload)]
set_option maxRecDepth 100000 in
theorem lchk_12 : lcodes 720 qcL_law_12 = true := by decide +kernel
def qcL_law_13 : List (Nat × Nat × Instr) := [(1317, 3, .invokestatic 26221), (1320, 3, .if_icmp .eq 835), (1323, 1, .iconst 0), (1324, 1, .freturn), (1325, 1, .aload 1), (1326, 1, .aload 0), (1327, 2, .iload 4), (1329, 1, .iconst 1), (1330, 1, .iadd), (1331, 1, .iaload), (1332, 3, .invokestatic 12721), (1335, 1, .aload 2), (1336, 1, .aload 0), (1337, 2, .iload 4), (1339, 1, .iconst 1), (1340, 1, .iadd), (1341, 1, .iaload), (1342, 3, .invokestatic 26321), (1345, 3, .if_icmp .eq 835), (1348, 1, .iconst 0), (1349, 1, .freturn), (1350, 1, .aload 1), (1351, 1, .aload 0), (1352, 2, .iload 4), (1354, 1, .iconst 1), (1355, 1, .iadd), (1356, 1, .iaload), (1357, 1, .aload 3), (1358, 3, .invokestatic 1000231), (1361, 2, .istore 5), (1363, 1, .aload 2), (1364, 1, .aload 0), (1365, 2, .iload 4), (1367, 1, .iconst 1), (1368, 1, .iadd), (1369, 1, .iaload), (1370, 3, .invokestatic 26422), (1373, 2, .lstore 6), (1375, 1, .aload 2), (1376, 3, .invokestatic 13911), (1379, 2, .iload 5), (1381, 3, .if_icmp .eq 824), (1384, 1, .iconst 0), (1385, 1, .freturn), (1386, 2, .iload 5), (1388, 3, .ifCond .ne 834), (1391, 1, .aload 3), (1392, 1, .iconst 0), (1393, 1, .laload), (1394, 2, .lload 6), (1396, 1, .lcmp), (1397, 3, .ifCond .eq 834), (1400, 1, .iconst 0), (1401, 1, .freturn), (1402, 3, .goto 835), (1405, 3, .iinc 4 4), (1408, 3, .goto 13), (1411, 1, .iconst 1), (1412, 1, .freturn)]
set_option maxRecDepth 100000 in
theorem lchk_13 : lcodes 780 qcL_law_13 = true := by decide +kernel
theorem lcodes_app : ∀ {a b : List (Nat × Nat × Instr)} {k : Nat}, lcodes k a = true → lcodes (k + a.length) b = true → lcodes k (a ++ b) = true := by
  intro a
  induction a with
  | nil => intro b k _ h; exact h
  | cons x a ih =>
    intro b k h1 h2
    simp only [lcodes, Bool.and_eq_true, List.cons_append] at h1 ⊢
    refine ⟨h1.1, ih h1.2 ?_⟩
    rw [List.length_cons] at h2
    rw [show k + 1 + a.length = k + (a.length + 1) by omega]
    exact h2
set_option maxRecDepth 100000 in
theorem qcL_law_app : qcL_law = qcL_law_0 ++ (qcL_law_1 ++ (qcL_law_2 ++ (qcL_law_3 ++ (qcL_law_4 ++ (qcL_law_5 ++ (qcL_law_6 ++ (qcL_law_7 ++ (qcL_law_8 ++ (qcL_law_9 ++ (qcL_law_10 ++ (qcL_law_11 ++ (qcL_law_12 ++ (qcL_law_13))))))))))))) := by decide +kernel
set_option maxRecDepth 100000 in
theorem lchk : lcodes 0 qcL_law = true := by
  rw [qcL_law_app]
  exact lcodes_app lchk_0 (lcodes_app lchk_1 (lcodes_app lchk_2 (lcodes_app lchk_3 (lcodes_app lchk_4 (lcodes_app lchk_5 (lcodes_app lchk_6 (lcodes_app lchk_7 (lcodes_app lchk_8 (lcodes_app lchk_9 (lcodes_app lchk_10 (lcodes_app lchk_11 (lcodes_app lchk_12 (lchk_13)))))))))))))
theorem lcodes_at : ∀ {l : List (Nat × Nat × Instr)} {k i : Nat} {row : Nat × Nat × Instr}, lcodes k l = true → qnth l i = some row → lrowok (k + i) row = true := by
  intro l
  induction l with
  | nil => intro k i row h hi; cases i <;> cases hi
  | cons a l ih =>
    intro k i row h hi
    simp only [lcodes, Bool.and_eq_true] at h
    cases i with
    | zero => simp only [qnth, Option.some.injEq] at hi; rw [← hi]; exact h.1
    | succ i =>
      have := ih h.2 (show qnth l i = some row from hi)
      rw [show k + (i + 1) = k + 1 + i by omega]
      exact this
def lwy (w : Nat) : MethodName := if w = 0 then yL_owner else if w = 1 then yL_held else yL_row
def lwb (w : Nat) : ByteArray := if w = 0 then cL_owner else if w = 1 then cL_held else cL_row
def lwL (w : Nat) : Nat := if w = 2 then 4 else 5
def lwh (w : Nat) : List (Nat × Nat × Nat × Nat) := if w = 0 then [((0 : Nat), (10 : Nat), (13 : Nat), (13 : Nat))] else if w = 1 then [((0 : Nat), (10 : Nat), (13 : Nat), (13 : Nat))] else [((0 : Nat), (8 : Nat), (11 : Nat), (13 : Nat))]
abbrev lww (w : Nat) : List Cond := .codeWith (lwy w) (lwb w) (lwL w) (some .int) (lwh w) :: qG
/-- the words of the wrappers -/
theorem lw_words : ∀ w, w < 3 → .codeWith (lwy w) (lwb w) (lwL w) (some .int) (lwh w) ∈ qG ∧ .static (lwy w) ∈ qG ∧ .initialized (lwy w).cls ∈ qG ∧ ((lwy w).cls ≠ "java/lang/invoke/MethodHandle" ∧ (lwy w).cls ≠ "java/lang/invoke/VarHandle" ∧ (parseMethodDescriptor (lwy w).desc).map (fun d => d.parameters.length) = some (if w = 2 then 3 else 4)) := by
  intro w hw
  match w, hw with
  | 0, _ => exact ⟨(qt4 172 rfl rfl), (qt4 171 rfl rfl), (qt1 0 rfl rfl), by decide +kernel⟩
  | 1, _ => exact ⟨(qt5 2 rfl rfl), (qt5 1 rfl rfl), (qt1 0 rfl rfl), by decide +kernel⟩
  | 2, _ => exact ⟨(qt5 9 rfl rfl), (qt5 8 rfl rfl), (qt1 0 rfl rfl), by decide +kernel⟩
  | n + 3, h => exact absurd h (by omega)
theorem lwj_words {j w : Nat} (h : lwj j = some w) : w < 3 ∧ .methodLink "LockLadderLaw" j (lwy w) ∈ qG := by
  unfold lwj at h
  split at h
  · rename_i hj; subst hj; cases h; exact ⟨by decide, (qt4 170 rfl rfl)⟩
  split at h
  · rename_i hj; subst hj; cases h; exact ⟨by decide, (qt5 0 rfl rfl)⟩
  split at h
  · rename_i hj; subst hj; cases h; exact ⟨by decide, (qt5 7 rfl rfl)⟩
  cases h
/-- a wrapper's contract -/
def lGood (base : Nat) (D : va_G) (ca : Nat → ClassId) (cv : Nat → Value) (d w : Nat) (as : List Value) (μ : qM) (r : qR) : Prop :=
  qcnt μ r.2.2 ∧ as.length = (if w = 2 then 3 else 4) ∧ ∃ d', d' ≤ d ∧ ∀ l : Launch, l.stackTraces = false → Met l (lwy w) (lww w) (qrm d' (r.2.2.2.2.2.2.1 - μ.2.2.2.2.1) (r.2.2.2.2.2.2.2 - μ.2.2.2.2.2)) (va_Pc (as.map (qtr base cv)) (qRep false base D ca cv μ)) (qQ false base D ca cv (some .int) r) (r.2.2.2.2.2.2.1 - μ.2.2.2.2.1) (r.2.2.2.2.2.2.2 - μ.2.2.2.2.2) (qA base)
section LAW
variable {p : Program} {l : Launch} {e : Env} {s : State} {m : MethodId} {below : List Frame} {meth : Method} {c : Code} {b : Nat} {xs : List Int32}
variable {al : Bool} {D : va_G} {ca : Nat → ClassId} {cv : Nat → Value} {mc ms d : Nat}
variable {k : qK} {cf wf : qF} {r : qR} {pc : Nat} {L S : List Value} {μ : qM}
/-- from here on the law comes to its end with true -/
abbrev lGo (al : Bool) (p : Program) (l : Launch) (e : Env) (s : State) (m : MethodId) (below : List Frame) (meth : Method) (c : Code) (b : Nat) (D : va_G) (ca : Nat → ClassId) (cv : Nat → Value) (r : qR) (mc ms : Nat) : Nat → List Value → List Value → qM → Prop :=
  qGo al p l e room_1 s m #[Value.ref b] below meth c (lw_Z below #[Value.ref b] s) s.heap.size D ca cv qcL_law 8 r.2.2.2.2.2.2.1 r.2.2.2.2.2.2.2 mc ms
theorem lq_call (C : qCtx p room_1 s m #[Value.ref b] meth c s.heap.size D ca cv 9 false code 8 mc ms d) (hst : l.stackTraces = false) {n j : Nat} (hj : lwj j = some (n / 100 - 10000)) (hn10 : n % 10 = 1 ∧ n % 100 / 10 = (if n / 100 - 10000 = 2 then 3 else 4))
    (hd : decode code (qbpc qcL_law pc) = .ok (.invokestatic j, 3)) (hn : qbpc qcL_law (pc + 1) = qbpc qcL_law pc + 3) {d0 : Nat} (hd0 : d0 + 1 ≤ d) (hwf : ∀ w as μ r1, wf w as μ = some r1 → lGood s.heap.size D ca cv d0 w as μ r1)
    (hk : ∀ pc L S μ, k pc L S μ = some r → lGo false p l e s m below meth c b D ca cv r mc ms pc L S μ) (h : qcall (fun M l μ => wf (M - 10000) l μ) n pc L S μ k = some r) : lGo false p l e s m below meth c b D ca cv r mc ms pc L S μ := by
  simp only [qcall] at h
  split at h
  · rename_i hcat
    obtain ⟨r1, e1, e2⟩ := qbnd_some h
    rw [hn10.1] at e2
    obtain ⟨hcnt, hlen, d', hd', hMet⟩ := hwf _ _ _ _ e1
    obtain ⟨hx, hb, hml, hown, hts, hK, hSt, hbs, hcv, hini, hd1, hfr, hlo, hmc, hms⟩ := C
    have hcat2 := Nat.le_trans (qcats_tr (base := s.heap.size) hcv (S.drop (n % 100 / 10))) hcat
    have hstk : ((((S.take (n % 100 / 10)).reverse).map (qtr s.heap.size cv)).reverse ++ (S.drop (n % 100 / 10)).map (qtr s.heap.size cv)) = S.map (qtr s.heap.size cv) := by
      rw [← List.map_reverse, List.reverse_reverse, ← List.map_append, List.take_append_drop]
    obtain ⟨⟨b1, b2⟩, hgo⟩ := hk _ _ _ _ e2
    obtain ⟨g1, g2⟩ := hcnt
    obtain ⟨hw3, hlink⟩ := lwj_words hj
    obtain ⟨w1, w2, w3, w4⟩ := lw_words _ hw3
    refine ⟨⟨by omega, by omega⟩, fun H locs cells slots ls hP hS hz hl q1 q2 => ?_⟩
    have hPc : ∀ U : State, U.heap = H → s.WarmedH U.vm → va_Pc (((S.take (n % 100 / 10)).reverse).map (qtr s.heap.size cv)) (qRep false s.heap.size D ca cv μ) (((S.take (n % 100 / 10)).reverse).map (qtr s.heap.size cv)).toArray U := fun U hU hW => ⟨rfl, qrep_of hK hSt hbs hP hS hz hU hW⟩
    have hT : GoodIn qG (va_wsS "LockLadderLaw" j (lwy (n / 100 - 10000)) (lww (n / 100 - 10000))) := qG_sub _ (fun w hw2 => by
      unfold va_wsS at hw2
      rcases List.mem_append.mp hw2 with z | z
      · rcases List.mem_cons.mp z with rfl | z
        · exact hlink
        · rcases List.mem_cons.mp z with rfl | z
          · exact w2
          · rcases List.mem_cons.mp z with rfl | z
            · exact w3
            · cases z
      · rcases List.mem_cons.mp z with rfl | z
        · exact w1
        · exact z)
    have hlL : lwL (n / 100 - 10000) ≤ 5 := by unfold lwL; split <;> omega
    have hrun : va_Run p l e room_1 s m #[Value.ref b] below meth c H locs cells slots (r1.2.2.2.2.2.2.1 - μ.2.2.2.2.1) (r1.2.2.2.2.2.2.2 - μ.2.2.2.2.2) (F0 m (qbpc qcL_law pc) ls (S.map (qtr s.heap.size cv))) ((S.drop (n % 100 / 10)).map (qtr s.heap.size cv)) (va_Qi (S := Unit) (fun x _ => x = r1.1) (fun _ t => qRep false s.heap.size D ca cv r1.2.2 t) (qA s.heap.size) (((S.take (n % 100 / 10)).reverse).map (qtr s.heap.size cv)).toArray) (qA s.heap.size) :=
      vx_runSW (Ts := qG) (own := "LockLadderLaw") (hh := lwh (n / 100 - 10000)) ⟨hx, hb, hml, hown, hts⟩ (hMet l hst) (vx_cwSW (if n / 100 - 10000 = 2 then 3 else 4) hts hT rfl rfl rfl w4 ⟨by show d' + 1 ≤ _; omega, by show 8 + (lwL _ + 11) + 40 * d' ≤ _; omega⟩) ⟨qblind, hPc⟩ rfl (by rw [List.length_map]; exact hlen) hl.1 hstk.symm (by show 2 * 0 + _ ≤ 8; omega) hd ⟨by omega, by omega⟩
    refine va_calli hrun hS (fun q _ h => h) (fun q h => h) (fun rr u t H1 locs1 ht hvm hpo hB hz1 hk1 hS1 => ?_)
    subst hpo
    rw [← hn]
    exact hgo H1 locs1 _ _ ls (by rw [← ht]; exact hB.1) hS1 (fun ha => by cases ha) hl (by omega) (by omega)
  · cases h
/-- a step of the law -/
theorem lq_op (C : qCtx p room_1 s m #[Value.ref b] meth c s.heap.size D ca cv 9 false code 8 mc ms d) (hst : l.stackTraces = false) (hX : va_X b xs.length (fun j => xs.getD j 0) s s.heap) (hbl : b < s.heap.size) (h60 : cv 60 = .ref b) (hrt : meth.sig.returnType = ret) (hlk : meth.locks = false) (hmm : mc ≤ 601024 ∧ ms ≤ 7293033)
    {i : Instr} {b0 ln : Nat} (hrow : qnth qcL_law pc = some (b0, ln, i)) (hok : lrowok pc (b0, ln, i) = true) {d0 : Nat} (hd0 : d0 + 1 ≤ d) (hcf : ∀ M as μ r1, cf M as μ = some r1 → qGood al s.heap.size D ca cv d0 M as μ r1) (hwf : ∀ w as μ r1, wf w as μ = some r1 → al = false ∧ lGood s.heap.size D ca cv d0 w as μ r1)
    (hk : ∀ pc L S μ, k pc L S μ = some r → lGo al p l e s m below meth c b D ca cv r mc ms pc L S μ) (h : lop al xs wf cf i pc L S μ k = some r) : lGo al p l e s m below meth c b D ca cv r mc ms pc L S μ := by
  have hb0 : b0 = qbpc qcL_law pc := by unfold qbpc; rw [hrow]
  subst hb0
  have hbA : ¬ qA s.heap.size b := fun h => absurd (show s.heap.size ≤ b from h) (by omega)
  obtain ⟨hx, hb, -⟩ := id C
  unfold lop at h
  unfold lrowok at hok
  by_cases hs : lsp i = true
  · rw [if_pos hs] at h
    rw [if_pos hs] at hok
    split at hok
    · rename_i di len hdec
      simp only [Bool.and_eq_true, Bool.or_eq_true, decide_eq_true_eq] at hok
      obtain ⟨⟨rfl, rfl⟩, hnx⟩ := hok
      have hn : i ≠ .freturn → qbpc qcL_law (pc + 1) = qbpc qcL_law pc + 1 := fun hi => by
        rcases hnx with z | z
        · exact absurd z hi
        · unfold lnext at z
          split at z
          · rename_i nx hnx2
            have := of_decide_eq_true z
            rw [← this]
            unfold qbpc
            rw [hnx2]
          · cases z
      unfold lopS at h
      split at h
      · -- the script's length
        have hn := hn (fun z => by cases z)
        split at h
        · split at h
          · rename_i S' j hj
            subst hj
            refine qGo.same (hk _ _ _ _ h) (fun H locs cells slots ls hP hS hl e1 e2 kk => ?_)
            rw [List.map_cons, show qtr s.heap.size cv (.retAddr 60) = .ref b from h60]
            refine va_slen (A := qA s.heap.size) (H0 := s.heap) hx hb hX hbl hbA hS hdec ?_
            rw [← hn]
            exact kk ls hl
          · cases h
        · cases h
      · have hn := hn (fun z => by cases z)
        split at h
        · split at h
          · rename_i S' ii j hj
            subst hj
            obtain ⟨v, e1, e2⟩ := qbnd_some h
            unfold lld at e1
            split at e1
            · rename_i hin
              cases e1
              refine qGo.same (hk _ _ _ _ e2) (fun H locs cells slots ls hP hS hl e1 e2 kk => ?_)
              rw [List.map_cons, List.map_cons, show qtr s.heap.size cv (.retAddr 60) = .ref b from h60]
              refine va_sld (A := qA s.heap.size) (H0 := s.heap) hx hb hX hbl hbA hS hin hdec ?_
              rw [← hn]
              exact kk ls hl
            · cases e1
          · cases h
        · cases h
      · split at h
        · split at h
          · rename_i hx1
            subst hx1
            cases h
            refine ⟨⟨Nat.le_refl _, Nat.le_refl _⟩, fun H locs cells slots ls hP hS hz hl e1 e2 => ?_⟩
            exact va_forget (fun q hq => hS.2.2 q hq) (W.widen (by omega) (by omega) (lw_ret hx hb hrt hlk hdec))
          · cases h
        · cases h
      · cases h
    · cases hok
  rw [if_neg hs] at h hok
  by_cases hw : lwr i = true
  · rw [if_pos hw] at h hok
    split at h
    · rename_i n
      split at hok
      · rename_i di len hdec
        simp only [Bool.and_eq_true, decide_eq_true_eq] at hok
        obtain ⟨⟨hrel, rfl⟩, hnx⟩ := hok
        unfold lrel at hrel
        split at hrel
        · rename_i j
          simp only [Bool.and_eq_true, decide_eq_true_eq] at hrel
          obtain ⟨⟨h1, h2⟩, h3⟩ := hrel
          have hn : qbpc qcL_law (pc + 1) = qbpc qcL_law pc + 3 := by
            unfold lnext at hnx
            split at hnx
            · rename_i nx hnx2
              have := of_decide_eq_true hnx
              rw [← this]
              unfold qbpc
              rw [hnx2]
            · cases hnx
          cases al with
          | true =>
            exfalso
            unfold qcall at h
            split at h
            · obtain ⟨r1, z1, -⟩ := qbnd_some h
              cases (hwf _ _ _ _ z1).1
            · cases h
          | false => exact lq_call C hst h2 h3 hdec hn hd0 (fun w as μ r1 z => (hwf w as μ r1 z).2) hk h
        · cases hrel
      · cases hok
    · cases h
  rw [if_neg hw] at h hok
  refine qs_op C hrow hok hd0 hcf hk (fun di hdi hdd hrel => ?_) h
  exfalso
  rcases hdd with rfl | rfl | rfl
  · cases i <;> first | exact hs rfl | cases hrel
  · simp only [qrel, decide_eq_true_eq] at hrel
    cases hrel.2
  · simp only [qrel, decide_eq_true_eq] at hrel
    cases hrel.2
/-- a block of the law -/
theorem lblk_go (C : qCtx p room_1 s m #[Value.ref b] meth c s.heap.size D ca cv 9 false code 8 mc ms d) (hst : l.stackTraces = false) (hX : va_X b xs.length (fun j => xs.getD j 0) s s.heap) (hbl : b < s.heap.size) (h60 : cv 60 = .ref b) (hrt : meth.sig.returnType = ret) (hlk : meth.locks = false) (hmm : mc ≤ 601024 ∧ ms ≤ 7293033)
    {d0 : Nat} (hd0 : d0 + 1 ≤ d) (hcf : ∀ M as μ r1, cf M as μ = some r1 → qGood al s.heap.size D ca cv d0 M as μ r1) (hwf : ∀ w as μ r1, wf w as μ = some r1 → al = false ∧ lGood s.heap.size D ca cv d0 w as μ r1) {st : Nat → Bool} {K : qK}
    (hK : ∀ pc L S μ, K pc L S μ = some r → lGo al p l e s m below meth c b D ca cv r mc ms pc L S μ) : ∀ (n : Nat) {pc : Nat} {L S : List Value} {μ : qM}, lblk al xs wf cf qcL_law st K n pc L S μ = some r → lGo al p l e s m below meth c b D ca cv r mc ms pc L S μ := by
  intro n
  induction n with
  | zero => intro pc L S μ h; cases h
  | succ n ih =>
    intro pc L S μ h
    simp only [lblk] at h
    split at h
    · rename_i b1 ln i hrow
      have hrk := lcodes_at (i := pc) lchk hrow
      rw [Nat.zero_add] at hrk
      refine lq_op C hst hX hbl h60 hrt hlk hmm hrow hrk hd0 hcf hwf (fun pc' L' S' μ' h' => ?_) h
      split at h'
      · exact hK _ _ _ _ h'
      · exact ih h'
    · cases h
end LAW
