/-! tables of the class, and of the JDK -/
def fr_X11 : px_FR := [(12, 11, 0, .object "CircuitDesk$SetupReader", 1), (19, 11, 1, .object "CircuitDesk$Finder", 1), (26, 11, 2, .object "CircuitDesk$Way", 1), (32, 11, 3, .array (.object "CircuitDesk$State"), 1), (36, 11, 4, .array .boolean, 1), (41, 11, 5, .object "CircuitDesk$State", 0), (45, 11, 6, .object "CircuitDesk$State", 0), (48, 11, 7, .int, 0), (52, 11, 8, .int, 0), (55, 6, 0, .object "CircuitDesk$Tokens", 2), (72, 8, 1, .int, 0), (88, 6, 1, .int, 0), (91, 6, 2, .int, 0), (97, 7, 5, .int, 0), (102, 7, 0, .object "CircuitDesk$Net", 2), (106, 4, 0, .int, 0), (129, 4, 1, .int, 0), (152, 7, 7, .int, 0), (155, 7, 8, .int, 0), (165, 7, 9, .int, 0), (168, 7, 6, .int, 0), (171, 7, 2, .object "CircuitDesk$Totals", 2), (175, 9, 0, .int, 0), (180, 9, 1, .int, 0), (183, 9, 2, .int, 0), (186, 9, 3, .int, 0), (189, 9, 4, .int, 0), (192, 7, 1, .object "CircuitDesk$Labels", 2), (205, 9, 5, .int, 0), (208, 9, 6, .int, 0), (211, 10, 0, .int, 0), (250, 4, 2, .array (.object "CircuitDesk$Link"), 2), (254, 3, 0, .int, 0), (259, 3, 1, .int, 0), (262, 3, 2, .int, 0), (265, 3, 3, .int, 0), (268, 3, 4, .boolean, 0), (300, 1, 0, .object "CircuitDesk$Way", 2), (341, 7, 3, .array (.object "CircuitDesk$Circuit"), 2), (349, 0, 3, .int, 0), (360, 0, 13, .object "CircuitDesk$Way", 0), (363, 0, 0, .int, 0), (366, 0, 1, .int, 0), (369, 0, 2, .int, 0), (380, 0, 4, .int, 0), (381, 0, 5, .int, 0), (382, 0, 6, .int, 0), (383, 0, 7, .int, 0), (384, 0, 8, .int, 0), (386, 0, 9, .int, 0), (392, 0, 10, .int, 0), (395, 0, 14, .object "CircuitDesk$Way", 0), (409, 7, 4, .array (.object "CircuitDesk$Packet"), 2), (413, 5, 0, .int, 0), (418, 5, 1, .int, 0), (421, 5, 3, .int, 0), (424, 5, 4, .int, 0), (427, 5, 5, .int, 0), (430, 5, 6, .int, 0), (435, 0, 11, .int, 0)]
def fx_X11 : List ((Nat × Nat × Nat × FieldType × Nat) × Nat) := [((12, 11, 0, .object "CircuitDesk$SetupReader", 1), 566), ((19, 11, 1, .object "CircuitDesk$Finder", 1), 567), ((26, 11, 2, .object "CircuitDesk$Way", 1), 568), ((32, 11, 3, .array (.object "CircuitDesk$State"), 1), 569), ((36, 11, 4, .array .boolean, 1), 570), ((41, 11, 5, .object "CircuitDesk$State", 0), 571), ((45, 11, 6, .object "CircuitDesk$State", 0), 572), ((48, 11, 7, .int, 0), 573), ((52, 11, 8, .int, 0), 574), ((55, 6, 0, .object "CircuitDesk$Tokens", 2), 185), ((72, 8, 1, .int, 0), 162), ((88, 6, 1, .int, 0), 187), ((91, 6, 2, .int, 0), 189), ((97, 7, 5, .int, 0), 533), ((102, 7, 0, .object "CircuitDesk$Net", 2), 519), ((106, 4, 0, .int, 0), 307), ((129, 4, 1, .int, 0), 311), ((152, 7, 7, .int, 0), 540), ((155, 7, 8, .int, 0), 542), ((165, 7, 9, .int, 0), 544), ((168, 7, 6, .int, 0), 537), ((171, 7, 2, .object "CircuitDesk$Totals", 2), 525), ((175, 9, 0, .int, 0), 353), ((180, 9, 1, .int, 0), 356), ((183, 9, 2, .int, 0), 359), ((186, 9, 3, .int, 0), 362), ((189, 9, 4, .int, 0), 365), ((192, 7, 1, .object "CircuitDesk$Labels", 2), 523), ((205, 9, 5, .int, 0), 368), ((208, 9, 6, .int, 0), 371), ((211, 10, 0, .int, 0), 214), ((250, 4, 2, .array (.object "CircuitDesk$Link"), 2), 315), ((254, 3, 0, .int, 0), 274), ((259, 3, 1, .int, 0), 277), ((262, 3, 2, .int, 0), 280), ((265, 3, 3, .int, 0), 284), ((268, 3, 4, .boolean, 0), 288), ((300, 1, 0, .object "CircuitDesk$Way", 2), 230), ((341, 7, 3, .array (.object "CircuitDesk$Circuit"), 2), 529), ((349, 0, 3, .int, 0), 412), ((360, 0, 13, .object "CircuitDesk$Way", 0), 442), ((363, 0, 0, .int, 0), 403), ((366, 0, 1, .int, 0), 405), ((369, 0, 2, .int, 0), 409), ((380, 0, 4, .int, 0), 414), ((381, 0, 5, .int, 0), 417), ((382, 0, 6, .int, 0), 420), ((383, 0, 7, .int, 0), 423), ((384, 0, 8, .int, 0), 426), ((386, 0, 9, .int, 0), 430), ((392, 0, 10, .int, 0), 433), ((395, 0, 14, .object "CircuitDesk$Way", 0), 445), ((409, 7, 4, .array (.object "CircuitDesk$Packet"), 2), 531), ((413, 5, 0, .int, 0), 484), ((418, 5, 1, .int, 0), 486), ((421, 5, 3, .int, 0), 492), ((424, 5, 4, .int, 0), 495), ((427, 5, 5, .int, 0), 498), ((430, 5, 6, .int, 0), 501), ((435, 0, 11, .int, 0), 435)]
def mr_X11 : px_MR := [(3, 3, 0, objectInit, 0, 0, false), (11, 2, 6, yX6_init, 0, 0, false), (18, 2, 1, yX1_init, 0, 0, false), (25, 2, 10, yX10_init, 0, 0, false), (40, 2, 7, yX7_init, 0, 0, false), (59, 0, 8, yX8_appendFour, 1, 1, false), (75, 1, 11, yX11_isOutside, 3, 1, false), (84, 0, 6, yX6_readSetup, 1, 1, false), (94, 0, 10, yX10_erase, 0, 0, false), (113, 0, 7, yX7_appendNode, 1, 1, false), (117, 0, 11, yX11_checkNode, 1, 0, true), (125, 0, 4, yX4_linkBetween, 2, 1, false), (134, 0, 4, yX4_appendLink, 4, 1, false), (138, 0, 11, yX11_checkLink, 1, 0, true), (141, 0, 4, yX4_isUp, 1, 1, false), (144, 0, 7, yX7_putUp, 2, 0, false), (158, 0, 7, yX7_putSetting, 2, 0, false), (162, 1, 11, yX11_checkWhat, 2, 0, true), (196, 0, 2, yX2_lentByAll, 0, 1, false), (202, 0, 7, yX7_movedCircuits, 0, 1, false), (214, 0, 2, yX2_spaceOf, 1, 1, false), (217, 0, 2, yX2_held, 2, 1, false), (220, 0, 2, yX2_lentBy, 1, 1, false), (223, 0, 2, yX2_borrowedBy, 1, 1, false), (226, 0, 2, yX2_madeEntries, 1, 1, false), (229, 0, 4, yX4_linksAt, 1, 1, false), (237, 0, 2, yX2_holderOf, 1, 1, false), (240, 0, 2, yX2_circuitOf, 1, 1, false), (243, 0, 7, yX7_isOfNewWay, 1, 1, false), (246, 0, 2, yX2_hasMadeEntry, 2, 1, false), (271, 0, 7, yX7_reservedOn, 2, 1, false), (274, 0, 7, yX7_packetsOn, 1, 1, false), (277, 0, 10, yX10_lastNode, 0, 1, false), (280, 0, 10, yX10_hasNode, 1, 1, false), (287, 0, 10, yX10_append, 2, 0, false), (292, 0, 1, yX1_prepare, 3, 0, false), (296, 0, 1, yX1_search, 4, 1, false), (303, 0, 10, yX10_copyNodes, 1, 0, false), (307, 1, 11, yX11_checkIndex, 1, 0, true), (310, 0, 10, yX10_nodeAt, 1, 1, false), (315, 0, 7, yX7_openAlong, 3, 1, false), (319, 0, 11, yX11_checkCircuit, 1, 0, true), (322, 0, 7, yX7_closeCircuit, 1, 1, false), (325, 0, 7, yX7_moveAlong, 2, 1, false), (329, 0, 11, yX11_checkLinkOrNone, 1, 0, true), (332, 0, 11, yX11_moveToBest, 3, 1, false), (336, 0, 7, yX7_abortMove, 1, 1, false), (345, 0, 7, yX7_addToBacklog, 2, 0, false), (354, 1, 11, yX11_checkTicks, 1, 0, true), (357, 0, 7, yX7_tick, 0, 0, false), (372, 0, 0, yX0_activeWay, 0, 2, false), (376, 0, 4, yX4_delayOf, 1, 1, false), (389, 0, 7, yX7_packetsOf, 1, 1, false), (398, 0, 10, yX10_slotAt, 1, 1, false), (401, 1, 11, yX11_spaceOfSlot, 1, 1, false), (404, 1, 11, yX11_labelOfSlot, 1, 1, false), (438, 0, 4, yX4_allCapacities, 0, 1, false), (441, 0, 7, yX7_reservedOnAll, 0, 1, false), (444, 0, 7, yX7_copyFrom, 1, 0, false), (448, 0, 7, yX7_ticksUntilMoved, 1, 1, false), (452, 1, 11, yX11_fateTotal, 2, 1, false), (456, 0, 1, yX1_weakestLink, 1, 1, false), (460, 1, 11, yX11_checkSavedSlot, 1, 0, true), (465, 0, 4, yX4_isNode, 1, 1, false), (470, 0, 4, yX4_isLink, 1, 1, false), (475, 0, 7, yX7_isCircuit, 1, 1, false)]
def mx_X11 : List ((Nat × Nat × Nat × MethodName × Nat × Nat × Bool) × Nat × Nat × Nat × String) := [((3, 3, 0, objectInit, 0, 0, false), 145, 146, 147, ""), ((11, 2, 6, yX6_init, 0, 0, false), 150, 151, 0, "CircuitDesk"), ((18, 2, 1, yX1_init, 0, 0, false), 199, 200, 0, "CircuitDesk"), ((25, 2, 10, yX10_init, 0, 0, false), 251, 206, 0, "CircuitDesk"), ((40, 2, 7, yX7_init, 0, 0, false), 255, 256, 0, ""), ((59, 0, 8, yX8_appendFour, 1, 1, false), 955, 956, 957, ""), ((75, 1, 11, yX11_isOutside, 3, 1, false), 1034, 718, 0, ""), ((84, 0, 6, yX6_readSetup, 1, 1, false), 598, 599, 600, ""), ((94, 0, 10, yX10_erase, 0, 0, false), 863, 755, 756, ""), ((113, 0, 7, yX7_appendNode, 1, 1, false), 1060, 721, 722, ""), ((117, 0, 11, yX11_checkNode, 1, 0, true), 1069, 1071, 19, ""), ((125, 0, 4, yX4_linkBetween, 2, 1, false), 1092, 734, 735, ""), ((134, 0, 4, yX4_appendLink, 4, 1, false), 1094, 738, 739, ""), ((138, 0, 11, yX11_checkLink, 1, 0, true), 1102, 1104, 20, ""), ((141, 0, 4, yX4_isUp, 1, 1, false), 1108, 787, 788, ""), ((144, 0, 7, yX7_putUp, 2, 0, false), 1109, 1110, 1111, ""), ((158, 0, 7, yX7_putSetting, 2, 0, false), 1135, 856, 857, ""), ((162, 1, 11, yX11_checkWhat, 2, 0, true), 1143, 1144, 0, ""), ((196, 0, 2, yX2_lentByAll, 0, 1, false), 1146, 1147, 1148, ""), ((202, 0, 7, yX7_movedCircuits, 0, 1, false), 1154, 1155, 1156, ""), ((214, 0, 2, yX2_spaceOf, 1, 1, false), 1165, 811, 812, ""), ((217, 0, 2, yX2_held, 2, 1, false), 1166, 819, 820, ""), ((220, 0, 2, yX2_lentBy, 1, 1, false), 1167, 1151, 1152, ""), ((223, 0, 2, yX2_borrowedBy, 1, 1, false), 1168, 815, 816, ""), ((226, 0, 2, yX2_madeEntries, 1, 1, false), 1169, 1170, 1171, ""), ((229, 0, 4, yX4_linksAt, 1, 1, false), 1173, 1174, 1175, ""), ((237, 0, 2, yX2_holderOf, 1, 1, false), 1186, 1187, 1188, ""), ((240, 0, 2, yX2_circuitOf, 1, 1, false), 1190, 1191, 1192, ""), ((243, 0, 7, yX7_isOfNewWay, 1, 1, false), 1194, 1195, 1196, ""), ((246, 0, 2, yX2_hasMadeEntry, 2, 1, false), 1203, 1204, 1205, ""), ((271, 0, 7, yX7_reservedOn, 2, 1, false), 1214, 795, 796, ""), ((274, 0, 7, yX7_packetsOn, 1, 1, false), 1215, 1216, 1217, ""), ((277, 0, 10, yX10_lastNode, 0, 1, false), 1226, 771, 772, ""), ((280, 0, 10, yX10_hasNode, 1, 1, false), 1227, 779, 780, ""), ((287, 0, 10, yX10_append, 2, 0, false), 1230, 759, 760, ""), ((292, 0, 1, yX1_prepare, 3, 0, false), 1239, 906, 907, ""), ((296, 0, 1, yX1_search, 4, 1, false), 1240, 917, 918, ""), ((303, 0, 10, yX10_copyNodes, 1, 0, false), 1241, 930, 931, ""), ((307, 1, 11, yX11_checkIndex, 1, 0, true), 1249, 1250, 0, ""), ((310, 0, 10, yX10_nodeAt, 1, 1, false), 1253, 775, 776, ""), ((315, 0, 7, yX7_openAlong, 3, 1, false), 1262, 1263, 1264, ""), ((319, 0, 11, yX11_checkCircuit, 1, 0, true), 1297, 1299, 26, ""), ((322, 0, 7, yX7_closeCircuit, 1, 1, false), 1303, 1304, 1305, ""), ((325, 0, 7, yX7_moveAlong, 2, 1, false), 1322, 1323, 1324, ""), ((329, 0, 11, yX11_checkLinkOrNone, 1, 0, true), 1344, 1346, 27, ""), ((332, 0, 11, yX11_moveToBest, 3, 1, false), 1348, 1350, 28, ""), ((336, 0, 7, yX7_abortMove, 1, 1, false), 1359, 1360, 1361, ""), ((345, 0, 7, yX7_addToBacklog, 2, 0, false), 1371, 1372, 1373, ""), ((354, 1, 11, yX11_checkTicks, 1, 0, true), 1383, 1384, 0, ""), ((357, 0, 7, yX7_tick, 0, 0, false), 1387, 1388, 1389, ""), ((372, 0, 0, yX0_activeWay, 0, 2, false), 1467, 902, 903, ""), ((376, 0, 4, yX4_delayOf, 1, 1, false), 1468, 1430, 1431, ""), ((389, 0, 7, yX7_packetsOf, 1, 1, false), 1469, 1308, 1309, ""), ((398, 0, 10, yX10_slotAt, 1, 1, false), 1477, 840, 841, ""), ((401, 1, 11, yX11_spaceOfSlot, 1, 1, false), 1478, 1479, 0, ""), ((404, 1, 11, yX11_labelOfSlot, 1, 1, false), 1481, 1482, 0, ""), ((438, 0, 4, yX4_allCapacities, 0, 1, false), 880, 881, 882, ""), ((441, 0, 7, yX7_reservedOnAll, 0, 1, false), 884, 885, 886, ""), ((444, 0, 7, yX7_copyFrom, 1, 0, false), 1507, 1508, 1509, ""), ((448, 0, 7, yX7_ticksUntilMoved, 1, 1, false), 1551, 1552, 1553, ""), ((452, 1, 11, yX11_fateTotal, 2, 1, false), 1562, 1563, 0, ""), ((456, 0, 1, yX1_weakestLink, 1, 1, false), 892, 893, 894, ""), ((460, 1, 11, yX11_checkSavedSlot, 1, 0, true), 1572, 1573, 0, ""), ((465, 0, 4, yX4_isNode, 1, 1, false), 1073, 742, 743, ""), ((470, 0, 4, yX4_isLink, 1, 1, false), 1106, 791, 792, ""), ((475, 0, 7, yX7_isCircuit, 1, 1, false), 1301, 1119, 1120, "")]
def cr_X11 : px_CR := [(9, .inl 6), (16, .inl 1), (23, .inl 10), (30, .inl 7), (65, .inr (69, pm_xI)), (79, .inr (83, pm_xA)), (232, .inr (236, pm_xB))]
def cx_X11 : List ((Nat × (Nat ⊕ (Nat × String))) × Nat × Nat × Nat × Nat) := [((9, .inl 6), 148, 149, 117, 0), ((16, .inl 1), 197, 198, 119, 0), ((23, .inl 10), 250, 204, 120, 0), ((30, .inl 7), 252, 254, 121, 253), ((65, .inr (69, pm_xI)), 959, 132, 0, 0), ((79, .inr (83, pm_xA)), 1035, 133, 0, 0), ((232, .inr (236, pm_xB)), 1074, 139, 0, 0)]
def lr_X11 : px_LR := [(67, .inl none), (81, .inl none), (100, .inl none), (111, .inl none), (121, .inl none), (123, .inl none), (132, .inl none), (148, .inl none), (150, .inl none), (234, .inl none), (283, .inl none), (285, .inl none), (290, .inl none), (313, .inl none), (339, .inl none), (407, .inl none), (463, .inl none), (468, .inl none), (473, .inl none), (478, .inl none), (480, .inl none), (482, .inl none), (484, .inl none)]
def lx_X11 : List ((Nat × (Option Int32 ⊕ Int64)) × Nat × String) := [((67, .inl none), 1000, "the text would be too long"), ((81, .inl none), 1044, "length is out of range"), ((100, .inl none), 1058, "space is out of range"), ((111, .inl none), 1059, "there are 10 nodes"), ((121, .inl none), 1090, "both nodes are the same"), ((123, .inl none), 1091, "capacity or delay is out of range"), ((132, .inl none), 1093, "there is such a link, or there are 16 links"), ((148, .inl none), 1133, "what is out of range"), ((150, .inl none), 1134, "value is out of the range of the setting"), ((234, .inl none), 1185, "there is no such label"), ((283, .inl none), 1228, "the draft has 6 nodes, or the node already"), ((285, .inl none), 1229, "the node has no link to the last one"), ((290, .inl none), 1238, "both nodes are the same, or band is out of range"), ((313, .inl none), 1261, "band or period is out of range"), ((339, .inl none), 1370, "many is out of range"), ((407, .inl none), 1491, "there is no such packet"), ((463, .inl none), 1583, "nothing is saved there"), ((468, .inl none), 1083, "there is no such node"), ((473, .inl none), 1107, "there is no such link"), ((478, .inl none), 1302, "there is no such circuit"), ((480, .inl none), 1252, "index is negative"), ((482, .inl none), 1386, "ticks is out of range"), ((484, .inl none), 1575, "slot is out of range")]
set_option maxRecDepth 100000 in
theorem tok_X11 : px_tok RX11 fr_X11 mr_X11 cr_X11 lr_X11 := by
  have h1 : fx_X11.all (pt_fr RX11) = true := by decide +kernel
  have h2 : mx_X11.all (pt_mr RX11) = true := by decide +kernel
  have h3 : cx_X11.all (pt_cr RX11) = true := by decide +kernel
  have h4 : lx_X11.all (pt_lr RX11) = true := by decide +kernel
  exact ⟨pt_fr_ok h1, pt_mr_ok h2, pt_cr_ok h3, pt_lr_ok h4⟩
def tc_X11_init : px_TC := [(0, .aload_n 0, 1), (1, .invokespecial 3, 3), (4, .aload_n 0, 1), (5, .new 9, 3), (8, .dup, 1), (9, .invokespecial 11, 3), (12, .putfield 12, 3), (15, .aload_n 0, 1), (16, .new 16, 3), (19, .dup, 1), (20, .invokespecial 18, 3), (23, .putfield 19, 3), (26, .aload_n 0, 1), (27, .new 23, 3), (30, .dup, 1), (31, .invokespecial 25, 3), (34, .putfield 26, 3), (37, .aload_n 0, 1), (38, .iconst 2, 1), (39, .anewarray 30, 3), (42, .putfield 32, 3), (45, .aload_n 0, 1), (46, .iconst 2, 1), (47, .newarray .boolean, 2), (49, .putfield 36, 3), (52, .aload_n 0, 1), (53, .new 30, 3), (56, .dup, 1), (57, .invokespecial 40, 3), (60, .putfield 41, 3), (63, .aload_n 0, 1), (64, .new 30, 3), (67, .dup, 1), (68, .invokespecial 40, 3), (71, .putfield 45, 3), (74, .aload_n 0, 1), (75, .iconst 0, 1), (76, .putfield 48, 3), (79, .aload_n 0, 1), (80, .iconst (-1), 1), (81, .putfield 52, 3), (84, .iconst 0, 1), (85, .istore_n 1, 1), (86, .iload_n 1, 1), (87, .iconst 2, 1), (88, .if_icmp .ge 22, 3), (91, .aload_n 0, 1), (92, .getfield 32, 3), (95, .iload_n 1, 1), (96, .new 30, 3), (99, .dup, 1), (100, .invokespecial 40, 3), (103, .aastore, 1), (104, .iinc 1 1, 3), (107, .goto (-21), 3), (110, .return_, 1)]
set_option maxRecDepth 100000 in
theorem dc_X11_init : px_dc cX11_init tc_X11_init = true := by decide +kernel
set_option maxRecDepth 100000 in
theorem mt_X11_init : pm_mt yX11_init cX11_init 2 none := pt_m_ok 144 116 (by decide +kernel)
def tc_X11_appendText : px_TC := [(0, .aload_n 0, 1), (1, .getfield 12, 3), (4, .getfield 55, 3), (7, .iload_n 1, 1), (8, .invokevirtual 59, 3), (11, .ifCond .ne 13, 3), (14, .new 65, 3), (17, .dup, 1), (18, .ldc 67, 2), (20, .invokespecial 69, 3), (23, .athrow, 1), (24, .aload_n 0, 1), (25, .getfield 12, 3), (28, .getfield 55, 3), (31, .getfield 72, 3), (34, .ireturn, 1)]
set_option maxRecDepth 100000 in
theorem dc_X11_appendText : px_dc cX11_appendText tc_X11_appendText = true := by decide +kernel
set_option maxRecDepth 100000 in
theorem mt_X11_appendText : pm_mt yX11_appendText cX11_appendText 2 (some (.int)) := pt_m_ok 954 116 (by decide +kernel)
def tc_X11_truncateText : px_TC := [(0, .iload_n 1, 1), (1, .iconst 0, 1), (2, .aload_n 0, 1), (3, .getfield 12, 3), (6, .getfield 55, 3), (9, .getfield 72, 3), (12, .invokestatic 75, 3), (15, .ifCond .eq 13, 3), (18, .new 79, 3), (21, .dup, 1), (22, .ldc 81, 2), (24, .invokespecial 83, 3), (27, .athrow, 1), (28, .aload_n 0, 1), (29, .getfield 12, 3), (32, .getfield 55, 3), (35, .iload_n 1, 1), (36, .putfield 72, 3), (39, .iload_n 1, 1), (40, .ireturn, 1)]
set_option maxRecDepth 100000 in
theorem dc_X11_truncateText : px_dc cX11_truncateText tc_X11_truncateText = true := by decide +kernel
set_option maxRecDepth 100000 in
theorem mt_X11_truncateText : pm_mt yX11_truncateText cX11_truncateText 2 (some (.int)) := pt_m_ok 1033 116 (by decide +kernel)
def tc_X11_load : px_TC := [(0, .aload_n 0, 1), (1, .getfield 12, 3), (4, .aload_n 0, 1), (5, .getfield 45, 3), (8, .invokevirtual 84, 3), (11, .istore_n 1, 1), (12, .aload_n 0, 1), (13, .aload_n 0, 1), (14, .getfield 12, 3), (17, .getfield 88, 3), (20, .putfield 48, 3), (23, .aload_n 0, 1), (24, .aload_n 0, 1), (25, .getfield 12, 3), (28, .getfield 91, 3), (31, .putfield 52, 3), (34, .aload_n 0, 1), (35, .getfield 12, 3), (38, .getfield 55, 3), (41, .iconst 0, 1), (42, .putfield 72, 3), (45, .iload_n 1, 1), (46, .ifCond .ne 5, 3), (49, .iconst (-1), 1), (50, .ireturn, 1), (51, .aload_n 0, 1), (52, .getfield 41, 3), (55, .astore_n 2, 1), (56, .aload_n 0, 1), (57, .aload_n 0, 1), (58, .getfield 45, 3), (61, .putfield 41, 3), (64, .aload_n 0, 1), (65, .aload_n 2, 1), (66, .putfield 45, 3), (69, .aload_n 0, 1), (70, .getfield 26, 3), (73, .invokevirtual 94, 3), (76, .aload_n 0, 1), (77, .getfield 41, 3), (80, .getfield 97, 3), (83, .ireturn, 1)]
set_option maxRecDepth 100000 in
theorem dc_X11_load : px_dc cX11_load tc_X11_load = true := by decide +kernel
set_option maxRecDepth 100000 in
theorem mt_X11_load : pm_mt yX11_load cX11_load 3 (some (.int)) := pt_m_ok 597 116 (by decide +kernel)
def tc_X11_errorCode : px_TC := [(0, .aload_n 0, 1), (1, .getfield 48, 3), (4, .ireturn, 1)]
set_option maxRecDepth 100000 in
theorem dc_X11_errorCode : px_dc cX11_errorCode tc_X11_errorCode = true := by decide +kernel
set_option maxRecDepth 100000 in
theorem mt_X11_errorCode : pm_mt yX11_errorCode cX11_errorCode 1 (some (.int)) := pt_m_ok 867 116 (by decide +kernel)
def tc_X11_errorPosition : px_TC := [(0, .aload_n 0, 1), (1, .getfield 52, 3), (4, .ireturn, 1)]
set_option maxRecDepth 100000 in
theorem dc_X11_errorPosition : px_dc cX11_errorPosition tc_X11_errorPosition = true := by decide +kernel
set_option maxRecDepth 100000 in
theorem mt_X11_errorPosition : pm_mt yX11_errorPosition cX11_errorPosition 1 (some (.int)) := pt_m_ok 871 116 (by decide +kernel)
def tc_X11_addNode : px_TC := [(0, .iload_n 1, 1), (1, .iconst 1, 1), (2, .bipush 12, 2), (4, .invokestatic 75, 3), (7, .ifCond .eq 13, 3), (10, .new 79, 3), (13, .dup, 1), (14, .ldc 100, 2), (16, .invokespecial 83, 3), (19, .athrow, 1), (20, .aload_n 0, 1), (21, .getfield 41, 3), (24, .getfield 102, 3), (27, .getfield 106, 3), (30, .bipush 10, 2), (32, .if_icmp .lt 13, 3), (35, .new 65, 3), (38, .dup, 1), (39, .ldc 111, 2), (41, .invokespecial 69, 3), (44, .athrow, 1), (45, .aload_n 0, 1), (46, .getfield 41, 3), (49, .iload_n 1, 1), (50, .invokevirtual 113, 3), (53, .ireturn, 1)]
set_option maxRecDepth 100000 in
theorem dc_X11_addNode : px_dc cX11_addNode tc_X11_addNode = true := by decide +kernel
set_option maxRecDepth 100000 in
theorem mt_X11_addNode : pm_mt yX11_addNode cX11_addNode 2 (some (.int)) := pt_m_ok 1057 116 (by decide +kernel)
def tc_X11_addLink : px_TC := [(0, .aload_n 0, 1), (1, .iload_n 1, 1), (2, .invokevirtual 117, 3), (5, .aload_n 0, 1), (6, .iload_n 2, 1), (7, .invokevirtual 117, 3), (10, .iload_n 1, 1), (11, .iload_n 2, 1), (12, .if_icmp .ne 13, 3), (15, .new 79, 3), (18, .dup, 1), (19, .ldc 121, 2), (21, .invokespecial 83, 3), (24, .athrow, 1), (25, .iload_n 3, 1), (26, .iconst 1, 1), (27, .bipush 99, 2), (29, .invokestatic 75, 3), (32, .ifCond .ne 14, 3), (35, .iload 4, 2), (37, .iconst 1, 1), (38, .bipush 9, 2), (40, .invokestatic 75, 3), (43, .ifCond .eq 13, 3), (46, .new 79, 3), (49, .dup, 1), (50, .ldc 123, 2), (52, .invokespecial 83, 3), (55, .athrow, 1), (56, .aload_n 0, 1), (57, .getfield 41, 3), (60, .getfield 102, 3), (63, .iload_n 1, 1), (64, .iload_n 2, 1), (65, .invokevirtual 125, 3), (68, .iconst (-1), 1), (69, .if_icmp .ne 18, 3), (72, .aload_n 0, 1), (73, .getfield 41, 3), (76, .getfield 102, 3), (79, .getfield 129, 3), (82, .bipush 16, 2), (84, .if_icmp .lt 13, 3), (87, .new 65, 3), (90, .dup, 1), (91, .ldc 132, 2), (93, .invokespecial 69, 3), (96, .athrow, 1), (97, .aload_n 0, 1), (98, .getfield 41, 3), (101, .getfield 102, 3), (104, .iload_n 1, 1), (105, .iload_n 2, 1), (106, .iload_n 3, 1), (107, .iload 4, 2), (109, .invokevirtual 134, 3), (112, .ireturn, 1)]
set_option maxRecDepth 100000 in
theorem dc_X11_addLink : px_dc cX11_addLink tc_X11_addLink = true := by decide +kernel
set_option maxRecDepth 100000 in
theorem mt_X11_addLink : pm_mt yX11_addLink cX11_addLink 5 (some (.int)) := pt_m_ok 1068 116 (by decide +kernel)
def tc_X11_setUp : px_TC := [(0, .aload_n 0, 1), (1, .iload_n 1, 1), (2, .invokevirtual 138, 3), (5, .aload_n 0, 1), (6, .getfield 41, 3), (9, .getfield 102, 3), (12, .iload_n 1, 1), (13, .invokevirtual 141, 3), (16, .istore_n 3, 1), (17, .aload_n 0, 1), (18, .getfield 41, 3), (21, .iload_n 1, 1), (22, .iload_n 2, 1), (23, .invokevirtual 144, 3), (26, .iload_n 3, 1), (27, .ireturn, 1)]
set_option maxRecDepth 100000 in
theorem dc_X11_setUp : px_dc cX11_setUp tc_X11_setUp = true := by decide +kernel
set_option maxRecDepth 100000 in
theorem mt_X11_setUp : pm_mt yX11_setUp cX11_setUp 4 (some (.boolean)) := pt_m_ok 1101 116 (by decide +kernel)
def tc_X11_set : px_TC := [(0, .iload_n 1, 1), (1, .iconst 0, 1), (2, .iconst 1, 1), (3, .invokestatic 75, 3), (6, .ifCond .eq 13, 3), (9, .new 79, 3), (12, .dup, 1), (13, .ldc 148, 2), (15, .invokespecial 83, 3), (18, .athrow, 1), (19, .iload_n 2, 1), (20, .iconst 0, 1), (21, .iload_n 1, 1), (22, .ifCond .ne 7, 3), (25, .iconst 4, 1), (26, .goto 4, 3), (29, .iconst 1, 1), (30, .invokestatic 75, 3), (33, .ifCond .eq 13, 3), (36, .new 79, 3), (39, .dup, 1), (40, .ldc 150, 2), (42, .invokespecial 83, 3), (45, .athrow, 1), (46, .iload_n 1, 1), (47, .ifCond .ne 13, 3), (50, .aload_n 0, 1), (51, .getfield 41, 3), (54, .getfield 152, 3), (57, .goto 10, 3), (60, .aload_n 0, 1), (61, .getfield 41, 3), (64, .getfield 155, 3), (67, .istore_n 3, 1), (68, .aload_n 0, 1), (69, .getfield 41, 3), (72, .iload_n 1, 1), (73, .iload_n 2, 1), (74, .invokevirtual 158, 3), (77, .iload_n 3, 1), (78, .ireturn, 1)]
set_option maxRecDepth 100000 in
theorem dc_X11_set : px_dc cX11_set tc_X11_set = true := by decide +kernel
set_option maxRecDepth 100000 in
theorem mt_X11_set : pm_mt yX11_set cX11_set 4 (some (.int)) := pt_m_ok 1132 116 (by decide +kernel)
def tc_X11_count : px_TC := [(0, .iload_n 1, 1), (1, .bipush 16, 2), (3, .invokestatic 162, 3), (6, .iload_n 1, 1), (7, .tableswitch 235 0 15 #[77, 85, 93, 104, 115, 123, 131, 139, 150, 161, 172, 183, 194, 205, 213, 224], 77), (84, .aload_n 0, 1), (85, .getfield 41, 3), (88, .getfield 152, 3), (91, .ireturn, 1), (92, .aload_n 0, 1), (93, .getfield 41, 3), (96, .getfield 155, 3), (99, .ireturn, 1), (100, .aload_n 0, 1), (101, .getfield 41, 3), (104, .getfield 102, 3), (107, .getfield 106, 3), (110, .ireturn, 1), (111, .aload_n 0, 1), (112, .getfield 41, 3), (115, .getfield 102, 3), (118, .getfield 129, 3), (121, .ireturn, 1), (122, .aload_n 0, 1), (123, .getfield 41, 3), (126, .getfield 97, 3), (129, .ireturn, 1), (130, .aload_n 0, 1), (131, .getfield 41, 3), (134, .getfield 165, 3), (137, .ireturn, 1), (138, .aload_n 0, 1), (139, .getfield 41, 3), (142, .getfield 168, 3), (145, .ireturn, 1), (146, .aload_n 0, 1), (147, .getfield 41, 3), (150, .getfield 171, 3), (153, .getfield 175, 3), (156, .ireturn, 1), (157, .aload_n 0, 1), (158, .getfield 41, 3), (161, .getfield 171, 3), (164, .getfield 180, 3), (167, .ireturn, 1), (168, .aload_n 0, 1), (169, .getfield 41, 3), (172, .getfield 171, 3), (175, .getfield 183, 3), (178, .ireturn, 1), (179, .aload_n 0, 1), (180, .getfield 41, 3), (183, .getfield 171, 3), (186, .getfield 186, 3), (189, .ireturn, 1), (190, .aload_n 0, 1), (191, .getfield 41, 3), (194, .getfield 171, 3), (197, .getfield 189, 3), (200, .ireturn, 1), (201, .aload_n 0, 1), (202, .getfield 41, 3), (205, .getfield 192, 3), (208, .invokevirtual 196, 3), (211, .ireturn, 1), (212, .aload_n 0, 1), (213, .getfield 41, 3), (216, .invokevirtual 202, 3), (219, .ireturn, 1), (220, .aload_n 0, 1), (221, .getfield 41, 3), (224, .getfield 171, 3), (227, .getfield 205, 3), (230, .ireturn, 1), (231, .aload_n 0, 1), (232, .getfield 41, 3), (235, .getfield 171, 3), (238, .getfield 208, 3), (241, .ireturn, 1), (242, .aload_n 0, 1), (243, .getfield 26, 3), (246, .getfield 211, 3), (249, .ireturn, 1)]
set_option maxRecDepth 100000 in
theorem dc_X11_count : px_dc cX11_count tc_X11_count = true := by decide +kernel
set_option maxRecDepth 100000 in
theorem mt_X11_count : pm_mt yX11_count cX11_count 2 (some (.int)) := pt_m_ok 1142 116 (by decide +kernel)
def tc_X11_node : px_TC := [(0, .aload_n 0, 1), (1, .iload_n 1, 1), (2, .invokevirtual 117, 3), (5, .iload_n 2, 1), (6, .bipush 6, 2), (8, .invokestatic 162, 3), (11, .iload_n 2, 1), (12, .tableswitch 114 0 5 #[40, 52, 65, 78, 90, 102], 40), (52, .aload_n 0, 1), (53, .getfield 41, 3), (56, .getfield 192, 3), (59, .iload_n 1, 1), (60, .invokevirtual 214, 3), (63, .ireturn, 1), (64, .aload_n 0, 1), (65, .getfield 41, 3), (68, .getfield 192, 3), (71, .iload_n 1, 1), (72, .iconst (-1), 1), (73, .invokevirtual 217, 3), (76, .ireturn, 1), (77, .aload_n 0, 1), (78, .getfield 41, 3), (81, .getfield 192, 3), (84, .iload_n 1, 1), (85, .iload_n 1, 1), (86, .invokevirtual 217, 3), (89, .ireturn, 1), (90, .aload_n 0, 1), (91, .getfield 41, 3), (94, .getfield 192, 3), (97, .iload_n 1, 1), (98, .invokevirtual 220, 3), (101, .ireturn, 1), (102, .aload_n 0, 1), (103, .getfield 41, 3), (106, .getfield 192, 3), (109, .iload_n 1, 1), (110, .invokevirtual 223, 3), (113, .ireturn, 1), (114, .aload_n 0, 1), (115, .getfield 41, 3), (118, .getfield 192, 3), (121, .iload_n 1, 1), (122, .invokevirtual 226, 3), (125, .ireturn, 1), (126, .aload_n 0, 1), (127, .getfield 41, 3), (130, .getfield 102, 3), (133, .iload_n 1, 1), (134, .invokevirtual 229, 3), (137, .ireturn, 1)]
set_option maxRecDepth 100000 in
theorem dc_X11_node : px_dc cX11_node tc_X11_node = true := by decide +kernel
set_option maxRecDepth 100000 in
theorem mt_X11_node : pm_mt yX11_node cX11_node 3 (some (.int)) := pt_m_ok 1164 116 (by decide +kernel)
def tc_X11_label : px_TC := [(0, .aload_n 0, 1), (1, .iload_n 1, 1), (2, .invokevirtual 117, 3), (5, .iload_n 2, 1), (6, .iconst 0, 1), (7, .aload_n 0, 1), (8, .getfield 41, 3), (11, .getfield 192, 3), (14, .iload_n 1, 1), (15, .invokevirtual 214, 3), (18, .iconst 1, 1), (19, .isub, 1), (20, .invokestatic 75, 3), (23, .ifCond .eq 13, 3), (26, .new 232, 3), (29, .dup, 1), (30, .ldc 234, 2), (32, .invokespecial 236, 3), (35, .athrow, 1), (36, .iload_n 3, 1), (37, .iconst 3, 1), (38, .invokestatic 162, 3), (41, .iload_n 1, 1), (42, .bipush 12, 2), (44, .imul, 1), (45, .iload_n 2, 1), (46, .iadd, 1), (47, .istore 4, 2), (49, .aload_n 0, 1), (50, .getfield 41, 3), (53, .getfield 192, 3), (56, .iload 4, 2), (58, .invokevirtual 237, 3), (61, .istore 5, 2), (63, .iload_n 3, 1), (64, .ifCond .eq 9, 3), (67, .iload 5, 2), (69, .iconst (-1), 1), (70, .if_icmp .ne 6, 3), (73, .iload 5, 2), (75, .ireturn, 1), (76, .iload_n 3, 1), (77, .lookupswitch 58 #[(1, 27), (2, 40)], 27), (104, .aload_n 0, 1), (105, .getfield 41, 3), (108, .getfield 192, 3), (111, .iload 4, 2), (113, .invokevirtual 240, 3), (116, .ireturn, 1), (117, .aload_n 0, 1), (118, .getfield 41, 3), (121, .iload 4, 2), (123, .invokevirtual 243, 3), (126, .ifCond .eq 7, 3), (129, .iconst 1, 1), (130, .goto 4, 3), (133, .iconst 0, 1), (134, .ireturn, 1), (135, .aload_n 0, 1), (136, .getfield 41, 3), (139, .getfield 192, 3), (142, .iload 4, 2), (144, .iload 5, 2), (146, .invokevirtual 246, 3), (149, .ifCond .eq 7, 3), (152, .iconst 1, 1), (153, .goto 4, 3), (156, .iconst 0, 1), (157, .ireturn, 1)]
set_option maxRecDepth 100000 in
theorem dc_X11_label : px_dc cX11_label tc_X11_label = true := by decide +kernel
set_option maxRecDepth 100000 in
theorem mt_X11_label : pm_mt yX11_label cX11_label 6 (some (.int)) := pt_m_ok 1184 116 (by decide +kernel)
def tc_X11_link : px_TC := [(0, .aload_n 0, 1), (1, .iload_n 1, 1), (2, .invokevirtual 138, 3), (5, .iload_n 2, 1), (6, .bipush 6, 2), (8, .invokestatic 162, 3), (11, .aload_n 0, 1), (12, .getfield 41, 3), (15, .getfield 102, 3), (18, .getfield 250, 3), (21, .iload_n 1, 1), (22, .aaload, 1), (23, .astore_n 3, 1), (24, .iload_n 2, 1), (25, .tableswitch 82 0 5 #[39, 44, 49, 54, 59, 72], 39), (64, .aload_n 3, 1), (65, .getfield 254, 3), (68, .ireturn, 1), (69, .aload_n 3, 1), (70, .getfield 259, 3), (73, .ireturn, 1), (74, .aload_n 3, 1), (75, .getfield 262, 3), (78, .ireturn, 1), (79, .aload_n 3, 1), (80, .getfield 265, 3), (83, .ireturn, 1), (84, .aload_n 3, 1), (85, .getfield 268, 3), (88, .ifCond .eq 7, 3), (91, .iconst 1, 1), (92, .goto 4, 3), (95, .iconst 0, 1), (96, .ireturn, 1), (97, .aload_n 0, 1), (98, .getfield 41, 3), (101, .iload_n 1, 1), (102, .iconst (-1), 1), (103, .invokevirtual 271, 3), (106, .ireturn, 1), (107, .aload_n 0, 1), (108, .getfield 41, 3), (111, .iload_n 1, 1), (112, .invokevirtual 274, 3), (115, .ireturn, 1)]
set_option maxRecDepth 100000 in
theorem dc_X11_link : px_dc cX11_link tc_X11_link = true := by decide +kernel
set_option maxRecDepth 100000 in
theorem mt_X11_link : pm_mt yX11_link cX11_link 4 (some (.int)) := pt_m_ok 1213 116 (by decide +kernel)
def tc_X11_draft : px_TC := [(0, .aload_n 0, 1), (1, .iload_n 1, 1), (2, .invokevirtual 117, 3), (5, .aload_n 0, 1), (6, .getfield 41, 3), (9, .getfield 102, 3), (12, .aload_n 0, 1), (13, .getfield 26, 3), (16, .invokevirtual 277, 3), (19, .iload_n 1, 1), (20, .invokevirtual 125, 3), (23, .istore_n 2, 1), (24, .aload_n 0, 1), (25, .getfield 26, 3), (28, .getfield 211, 3), (31, .bipush 6, 2), (33, .if_icmp .ge 14, 3), (36, .aload_n 0, 1), (37, .getfield 26, 3), (40, .iload_n 1, 1), (41, .invokevirtual 280, 3), (44, .ifCond .eq 14, 3), (47, .new 65, 3), (50, .dup, 1), (51, .ldc_w 283, 3), (54, .invokespecial 69, 3), (57, .athrow, 1), (58, .aload_n 0, 1), (59, .getfield 26, 3), (62, .getfield 211, 3), (65, .ifCond .le 19, 3), (68, .iload_n 2, 1), (69, .iconst (-1), 1), (70, .if_icmp .ne 14, 3), (73, .new 65, 3), (76, .dup, 1), (77, .ldc_w 285, 3), (80, .invokespecial 69, 3), (83, .athrow, 1), (84, .aload_n 0, 1), (85, .getfield 26, 3), (88, .iload_n 1, 1), (89, .iload_n 2, 1), (90, .invokevirtual 287, 3), (93, .aload_n 0, 1), (94, .getfield 26, 3), (97, .getfield 211, 3), (100, .ireturn, 1)]
set_option maxRecDepth 100000 in
theorem dc_X11_draft : px_dc cX11_draft tc_X11_draft = true := by decide +kernel
set_option maxRecDepth 100000 in
theorem mt_X11_draft : pm_mt yX11_draft cX11_draft 3 (some (.int)) := pt_m_ok 1225 116 (by decide +kernel)
def tc_X11_clearDraft : px_TC := [(0, .aload_n 0, 1), (1, .getfield 26, 3), (4, .getfield 211, 3), (7, .istore_n 1, 1), (8, .aload_n 0, 1), (9, .getfield 26, 3), (12, .invokevirtual 94, 3), (15, .iload_n 1, 1), (16, .ireturn, 1)]
set_option maxRecDepth 100000 in
theorem dc_X11_clearDraft : px_dc cX11_clearDraft tc_X11_clearDraft = true := by decide +kernel
set_option maxRecDepth 100000 in
theorem mt_X11_clearDraft : pm_mt yX11_clearDraft cX11_clearDraft 2 (some (.int)) := pt_m_ok 875 116 (by decide +kernel)
def tc_X11_draftBest : px_TC := [(0, .aload_n 0, 1), (1, .iload_n 1, 1), (2, .invokevirtual 117, 3), (5, .aload_n 0, 1), (6, .iload_n 2, 1), (7, .invokevirtual 117, 3), (10, .iload_n 1, 1), (11, .iload_n 2, 1), (12, .if_icmp .eq 13, 3), (15, .iload_n 3, 1), (16, .iconst 1, 1), (17, .bipush 20, 2), (19, .invokestatic 75, 3), (22, .ifCond .eq 14, 3), (25, .new 79, 3), (28, .dup, 1), (29, .ldc_w 290, 3), (32, .invokespecial 83, 3), (35, .athrow, 1), (36, .aload_n 0, 1), (37, .getfield 19, 3), (40, .aload_n 0, 1), (41, .getfield 41, 3), (44, .iload_n 3, 1), (45, .iconst (-1), 1), (46, .invokevirtual 292, 3), (49, .aload_n 0, 1), (50, .getfield 19, 3), (53, .aload_n 0, 1), (54, .getfield 41, 3), (57, .getfield 102, 3), (60, .iload_n 1, 1), (61, .iload_n 2, 1), (62, .iconst (-1), 1), (63, .invokevirtual 296, 3), (66, .ifCond .ne 5, 3), (69, .iconst (-1), 1), (70, .ireturn, 1), (71, .aload_n 0, 1), (72, .getfield 26, 3), (75, .aload_n 0, 1), (76, .getfield 19, 3), (79, .getfield 300, 3), (82, .invokevirtual 303, 3), (85, .aload_n 0, 1), (86, .getfield 26, 3), (89, .getfield 211, 3), (92, .ireturn, 1)]
set_option maxRecDepth 100000 in
theorem dc_X11_draftBest : px_dc cX11_draftBest tc_X11_draftBest = true := by decide +kernel
set_option maxRecDepth 100000 in
theorem mt_X11_draftBest : pm_mt yX11_draftBest cX11_draftBest 4 (some (.int)) := pt_m_ok 1237 116 (by decide +kernel)
def tc_X11_draftNode : px_TC := [(0, .iload_n 1, 1), (1, .invokestatic 307, 3), (4, .aload_n 0, 1), (5, .getfield 26, 3), (8, .iload_n 1, 1), (9, .invokevirtual 310, 3), (12, .ireturn, 1)]
set_option maxRecDepth 100000 in
theorem dc_X11_draftNode : px_dc cX11_draftNode tc_X11_draftNode = true := by decide +kernel
set_option maxRecDepth 100000 in
theorem mt_X11_draftNode : pm_mt yX11_draftNode cX11_draftNode 2 (some (.int)) := pt_m_ok 1248 116 (by decide +kernel)
def tc_X11_open : px_TC := [(0, .iload_n 1, 1), (1, .iconst 1, 1), (2, .bipush 20, 2), (4, .invokestatic 75, 3), (7, .ifCond .ne 13, 3), (10, .iload_n 2, 1), (11, .iconst 0, 1), (12, .bipush 9, 2), (14, .invokestatic 75, 3), (17, .ifCond .eq 14, 3), (20, .new 79, 3), (23, .dup, 1), (24, .ldc_w 313, 3), (27, .invokespecial 83, 3), (30, .athrow, 1), (31, .aload_n 0, 1), (32, .getfield 41, 3), (35, .aload_n 0, 1), (36, .getfield 26, 3), (39, .iload_n 1, 1), (40, .iload_n 2, 1), (41, .invokevirtual 315, 3), (44, .istore_n 3, 1), (45, .iload_n 3, 1), (46, .ifCond .ne 10, 3), (49, .aload_n 0, 1), (50, .getfield 26, 3), (53, .invokevirtual 94, 3), (56, .iload_n 3, 1), (57, .ireturn, 1)]
set_option maxRecDepth 100000 in
theorem dc_X11_open : px_dc cX11_open tc_X11_open = true := by decide +kernel
set_option maxRecDepth 100000 in
theorem mt_X11_open : pm_mt yX11_open cX11_open 4 (some (.int)) := pt_m_ok 1260 116 (by decide +kernel)
def tc_X11_close : px_TC := [(0, .aload_n 0, 1), (1, .iload_n 1, 1), (2, .invokevirtual 319, 3), (5, .aload_n 0, 1), (6, .getfield 41, 3), (9, .iload_n 1, 1), (10, .invokevirtual 322, 3), (13, .ireturn, 1)]
set_option maxRecDepth 100000 in
theorem dc_X11_close : px_dc cX11_close tc_X11_close = true := by decide +kernel
set_option maxRecDepth 100000 in
theorem mt_X11_close : pm_mt yX11_close cX11_close 2 (some (.int)) := pt_m_ok 1296 116 (by decide +kernel)
def tc_X11_move : px_TC := [(0, .aload_n 0, 1), (1, .iload_n 1, 1), (2, .invokevirtual 319, 3), (5, .aload_n 0, 1), (6, .getfield 41, 3), (9, .iload_n 1, 1), (10, .aload_n 0, 1), (11, .getfield 26, 3), (14, .invokevirtual 325, 3), (17, .istore_n 2, 1), (18, .iload_n 2, 1), (19, .ifCond .ne 10, 3), (22, .aload_n 0, 1), (23, .getfield 26, 3), (26, .invokevirtual 94, 3), (29, .iload_n 2, 1), (30, .ireturn, 1)]
set_option maxRecDepth 100000 in
theorem dc_X11_move : px_dc cX11_move tc_X11_move = true := by decide +kernel
set_option maxRecDepth 100000 in
theorem mt_X11_move : pm_mt yX11_move cX11_move 3 (some (.int)) := pt_m_ok 1321 116 (by decide +kernel)
def tc_X11_moveBest : px_TC := [(0, .aload_n 0, 1), (1, .iload_n 1, 1), (2, .invokevirtual 319, 3), (5, .aload_n 0, 1), (6, .iload_n 2, 1), (7, .invokevirtual 329, 3), (10, .aload_n 0, 1), (11, .aload_n 0, 1), (12, .getfield 41, 3), (15, .iload_n 1, 1), (16, .iload_n 2, 1), (17, .invokevirtual 332, 3), (20, .ireturn, 1)]
set_option maxRecDepth 100000 in
theorem dc_X11_moveBest : px_dc cX11_moveBest tc_X11_moveBest = true := by decide +kernel
set_option maxRecDepth 100000 in
theorem mt_X11_moveBest : pm_mt yX11_moveBest cX11_moveBest 3 (some (.int)) := pt_m_ok 1343 116 (by decide +kernel)
def tc_X11_abort : px_TC := [(0, .aload_n 0, 1), (1, .iload_n 1, 1), (2, .invokevirtual 319, 3), (5, .aload_n 0, 1), (6, .getfield 41, 3), (9, .iload_n 1, 1), (10, .invokevirtual 336, 3), (13, .ireturn, 1)]
set_option maxRecDepth 100000 in
theorem dc_X11_abort : px_dc cX11_abort tc_X11_abort = true := by decide +kernel
set_option maxRecDepth 100000 in
theorem mt_X11_abort : pm_mt yX11_abort cX11_abort 2 (some (.int)) := pt_m_ok 1358 116 (by decide +kernel)
def tc_X11_offer : px_TC := [(0, .aload_n 0, 1), (1, .iload_n 1, 1), (2, .invokevirtual 319, 3), (5, .iload_n 2, 1), (6, .iconst 1, 1), (7, .bipush 9, 2), (9, .invokestatic 75, 3), (12, .ifCond .eq 14, 3), (15, .new 79, 3), (18, .dup, 1), (19, .ldc_w 339, 3), (22, .invokespecial 83, 3), (25, .athrow, 1), (26, .aload_n 0, 1), (27, .getfield 41, 3), (30, .getfield 341, 3), (33, .iload_n 1, 1), (34, .aaload, 1), (35, .astore_n 3, 1), (36, .aload_n 0, 1), (37, .getfield 41, 3), (40, .aload_n 3, 1), (41, .iload_n 2, 1), (42, .invokevirtual 345, 3), (45, .aload_n 3, 1), (46, .getfield 349, 3), (49, .ireturn, 1)]
set_option maxRecDepth 100000 in
theorem dc_X11_offer : px_dc cX11_offer tc_X11_offer = true := by decide +kernel
set_option maxRecDepth 100000 in
theorem mt_X11_offer : pm_mt yX11_offer cX11_offer 4 (some (.int)) := pt_m_ok 1369 116 (by decide +kernel)
def tc_X11_run : px_TC := [(0, .iload_n 1, 1), (1, .invokestatic 354, 3), (4, .aload_n 0, 1), (5, .getfield 41, 3), (8, .getfield 171, 3), (11, .getfield 180, 3), (14, .istore_n 2, 1), (15, .iconst 0, 1), (16, .istore_n 3, 1), (17, .iload_n 3, 1), (18, .iload_n 1, 1), (19, .if_icmp .ge 16, 3), (22, .aload_n 0, 1), (23, .getfield 41, 3), (26, .invokevirtual 357, 3), (29, .iinc 3 1, 3), (32, .goto (-15), 3), (35, .aload_n 0, 1), (36, .getfield 41, 3), (39, .getfield 171, 3), (42, .getfield 180, 3), (45, .iload_n 2, 1), (46, .isub, 1), (47, .ireturn, 1)]
set_option maxRecDepth 100000 in
theorem dc_X11_run : px_dc cX11_run tc_X11_run = true := by decide +kernel
set_option maxRecDepth 100000 in
theorem mt_X11_run : pm_mt yX11_run cX11_run 4 (some (.int)) := pt_m_ok 1382 116 (by decide +kernel)
def tc_X11_circuit : px_TC := [(0, .aload_n 0, 1), (1, .iload_n 1, 1), (2, .invokevirtual 319, 3), (5, .iload_n 2, 1), (6, .bipush 14, 2), (8, .invokestatic 162, 3), (11, .aload_n 0, 1), (12, .getfield 41, 3), (15, .getfield 341, 3), (18, .iload_n 1, 1), (19, .aaload, 1), (20, .astore_n 3, 1), (21, .iload_n 2, 1), (22, .tableswitch 161 0 13 #[70, 79, 87, 92, 97, 102, 117, 122, 127, 132, 137, 142, 147, 152], 70), (92, .aload_n 3, 1), (93, .getfield 360, 3), (96, .iconst 0, 1), (97, .invokevirtual 310, 3), (100, .ireturn, 1), (101, .aload_n 3, 1), (102, .getfield 360, 3), (105, .invokevirtual 277, 3), (108, .ireturn, 1), (109, .aload_n 3, 1), (110, .getfield 363, 3), (113, .ireturn, 1), (114, .aload_n 3, 1), (115, .getfield 366, 3), (118, .ireturn, 1), (119, .aload_n 3, 1), (120, .getfield 369, 3), (123, .ireturn, 1), (124, .aload_n 0, 1), (125, .getfield 41, 3), (128, .getfield 102, 3), (131, .aload_n 3, 1), (132, .invokevirtual 372, 3), (135, .invokevirtual 376, 3), (138, .ireturn, 1), (139, .aload_n 3, 1), (140, .getfield 349, 3), (143, .ireturn, 1), (144, .aload_n 3, 1), (145, .getfield 380, 3), (148, .ireturn, 1), (149, .aload_n 3, 1), (150, .getfield 381, 3), (153, .ireturn, 1), (154, .aload_n 3, 1), (155, .getfield 382, 3), (158, .ireturn, 1), (159, .aload_n 3, 1), (160, .getfield 383, 3), (163, .ireturn, 1), (164, .aload_n 3, 1), (165, .getfield 384, 3), (168, .ireturn, 1), (169, .aload_n 3, 1), (170, .getfield 386, 3), (173, .ireturn, 1), (174, .aload_n 0, 1), (175, .getfield 41, 3), (178, .iload_n 1, 1), (179, .invokevirtual 389, 3), (182, .ireturn, 1), (183, .aload_n 3, 1), (184, .getfield 392, 3), (187, .ireturn, 1)]
set_option maxRecDepth 100000 in
theorem dc_X11_circuit : px_dc cX11_circuit tc_X11_circuit = true := by decide +kernel
set_option maxRecDepth 100000 in
theorem mt_X11_circuit : pm_mt yX11_circuit cX11_circuit 4 (some (.int)) := pt_m_ok 1466 116 (by decide +kernel)
def tc_X11_way : px_TC := [(0, .aload_n 0, 1), (1, .iload_n 1, 1), (2, .invokevirtual 319, 3), (5, .iload_n 3, 1), (6, .invokestatic 307, 3), (9, .iload 4, 2), (11, .iconst 2, 1), (12, .invokestatic 162, 3), (15, .iload_n 2, 1), (16, .ifCond .eq 18, 3), (19, .aload_n 0, 1), (20, .getfield 41, 3), (23, .getfield 341, 3), (26, .iload_n 1, 1), (27, .aaload, 1), (28, .getfield 395, 3), (31, .goto 15, 3), (34, .aload_n 0, 1), (35, .getfield 41, 3), (38, .getfield 341, 3), (41, .iload_n 1, 1), (42, .aaload, 1), (43, .getfield 360, 3), (46, .astore 5, 2), (48, .iload 4, 2), (50, .ifCond .ne 10, 3), (53, .aload 5, 2), (55, .iload_n 3, 1), (56, .invokevirtual 310, 3), (59, .ireturn, 1), (60, .aload 5, 2), (62, .iload_n 3, 1), (63, .invokevirtual 398, 3), (66, .istore 6, 2), (68, .iload 4, 2), (70, .iconst 1, 1), (71, .if_icmp .ne 11, 3), (74, .iload 6, 2), (76, .invokestatic 401, 3), (79, .goto 8, 3), (82, .iload 6, 2), (84, .invokestatic 404, 3), (87, .ireturn, 1)]
set_option maxRecDepth 100000 in
theorem dc_X11_way : px_dc cX11_way tc_X11_way = true := by decide +kernel
set_option maxRecDepth 100000 in
theorem mt_X11_way : pm_mt yX11_way cX11_way 7 (some (.int)) := pt_m_ok 1476 116 (by decide +kernel)
def tc_X11_packet : px_TC := [(0, .iload_n 1, 1), (1, .iconst 0, 1), (2, .aload_n 0, 1), (3, .getfield 41, 3), (6, .getfield 168, 3), (9, .iconst 1, 1), (10, .isub, 1), (11, .invokestatic 75, 3), (14, .ifCond .eq 14, 3), (17, .new 232, 3), (20, .dup, 1), (21, .ldc_w 407, 3), (24, .invokespecial 236, 3), (27, .athrow, 1), (28, .iload_n 2, 1), (29, .bipush 6, 2), (31, .invokestatic 162, 3), (34, .aload_n 0, 1), (35, .getfield 41, 3), (38, .getfield 409, 3), (41, .iload_n 1, 1), (42, .aaload, 1), (43, .astore_n 3, 1), (44, .iload_n 2, 1), (45, .tableswitch 75 0 5 #[39, 44, 49, 54, 59, 67], 39), (84, .aload_n 3, 1), (85, .getfield 413, 3), (88, .ireturn, 1), (89, .aload_n 3, 1), (90, .getfield 418, 3), (93, .ireturn, 1), (94, .aload_n 3, 1), (95, .getfield 421, 3), (98, .ireturn, 1), (99, .aload_n 3, 1), (100, .getfield 424, 3), (103, .ireturn, 1), (104, .aload_n 3, 1), (105, .getfield 427, 3), (108, .invokestatic 401, 3), (111, .ireturn, 1), (112, .aload_n 3, 1), (113, .getfield 427, 3), (116, .invokestatic 404, 3), (119, .ireturn, 1), (120, .aload_n 3, 1), (121, .getfield 430, 3), (124, .ireturn, 1)]
set_option maxRecDepth 100000 in
theorem dc_X11_packet : px_dc cX11_packet tc_X11_packet = true := by decide +kernel
set_option maxRecDepth 100000 in
theorem mt_X11_packet : pm_mt yX11_packet cX11_packet 4 (some (.int)) := pt_m_ok 1490 116 (by decide +kernel)
def tc_X11_meanDelay : px_TC := [(0, .aload_n 0, 1), (1, .iload_n 1, 1), (2, .invokevirtual 319, 3), (5, .aload_n 0, 1), (6, .getfield 41, 3), (9, .getfield 341, 3), (12, .iload_n 1, 1), (13, .aaload, 1), (14, .astore_n 2, 1), (15, .aload_n 2, 1), (16, .getfield 381, 3), (19, .ifCond .gt 7, 3), (22, .ldc2_w 433, 3), (25, .dreturn, 1), (26, .aload_n 2, 1), (27, .getfield 435, 3), (30, .i2d, 1), (31, .aload_n 2, 1), (32, .getfield 381, 3), (35, .i2d, 1), (36, .ddiv, 1), (37, .dreturn, 1)]
set_option maxRecDepth 100000 in
theorem dc_X11_meanDelay : px_dc cX11_meanDelay tc_X11_meanDelay = true := by decide +kernel
set_option maxRecDepth 100000 in
theorem mt_X11_meanDelay : pm_mt yX11_meanDelay cX11_meanDelay 3 (some (.double)) := pt_m_ok 1498 116 (by decide +kernel)
def tc_X11_usage : px_TC := [(0, .aload_n 0, 1), (1, .getfield 41, 3), (4, .getfield 102, 3), (7, .invokevirtual 438, 3), (10, .istore_n 1, 1), (11, .iload_n 1, 1), (12, .ifCond .gt 5, 3), (15, .fconst 0, 1), (16, .freturn, 1), (17, .aload_n 0, 1), (18, .getfield 41, 3), (21, .invokevirtual 441, 3), (24, .i2f, 1), (25, .iload_n 1, 1), (26, .i2f, 1), (27, .fdiv, 1), (28, .freturn, 1)]
set_option maxRecDepth 100000 in
theorem dc_X11_usage : px_dc cX11_usage tc_X11_usage = true := by decide +kernel
set_option maxRecDepth 100000 in
theorem mt_X11_usage : pm_mt yX11_usage cX11_usage 2 (some (.float)) := pt_m_ok 879 116 (by decide +kernel)
def tc_X11_canMove : px_TC := [(0, .aload_n 0, 1), (1, .iload_n 1, 1), (2, .invokevirtual 319, 3), (5, .aload_n 0, 1), (6, .iload_n 2, 1), (7, .invokevirtual 329, 3), (10, .aload_n 0, 1), (11, .getfield 45, 3), (14, .aload_n 0, 1), (15, .getfield 41, 3), (18, .invokevirtual 444, 3), (21, .aload_n 0, 1), (22, .aload_n 0, 1), (23, .getfield 45, 3), (26, .iload_n 1, 1), (27, .iload_n 2, 1), (28, .invokevirtual 332, 3), (31, .ireturn, 1)]
set_option maxRecDepth 100000 in
theorem dc_X11_canMove : px_dc cX11_canMove tc_X11_canMove = true := by decide +kernel
set_option maxRecDepth 100000 in
theorem mt_X11_canMove : pm_mt yX11_canMove cX11_canMove 3 (some (.int)) := pt_m_ok 1506 116 (by decide +kernel)
def tc_X11_movedIn : px_TC := [(0, .aload_n 0, 1), (1, .iload_n 1, 1), (2, .invokevirtual 319, 3), (5, .aload_n 0, 1), (6, .getfield 41, 3), (9, .aload_n 0, 1), (10, .getfield 41, 3), (13, .getfield 341, 3), (16, .iload_n 1, 1), (17, .aaload, 1), (18, .invokevirtual 448, 3), (21, .ireturn, 1)]
set_option maxRecDepth 100000 in
theorem dc_X11_movedIn : px_dc cX11_movedIn tc_X11_movedIn = true := by decide +kernel
set_option maxRecDepth 100000 in
theorem mt_X11_movedIn : pm_mt yX11_movedIn cX11_movedIn 2 (some (.int)) := pt_m_ok 1550 116 (by decide +kernel)
def tc_X11_ahead : px_TC := [(0, .iload_n 1, 1), (1, .invokestatic 354, 3), (4, .iload_n 2, 1), (5, .iconst 3, 1), (6, .invokestatic 162, 3), (9, .aload_n 0, 1), (10, .getfield 45, 3), (13, .aload_n 0, 1), (14, .getfield 41, 3), (17, .invokevirtual 444, 3), (20, .iconst 0, 1), (21, .istore_n 3, 1), (22, .iload_n 3, 1), (23, .iload_n 1, 1), (24, .if_icmp .ge 16, 3), (27, .aload_n 0, 1), (28, .getfield 45, 3), (31, .invokevirtual 357, 3), (34, .iinc 3 1, 3), (37, .goto (-15), 3), (40, .aload_n 0, 1), (41, .getfield 45, 3), (44, .getfield 171, 3), (47, .iload_n 2, 1), (48, .invokestatic 452, 3), (51, .aload_n 0, 1), (52, .getfield 41, 3), (55, .getfield 171, 3), (58, .iload_n 2, 1), (59, .invokestatic 452, 3), (62, .isub, 1), (63, .ireturn, 1)]
set_option maxRecDepth 100000 in
theorem dc_X11_ahead : px_dc cX11_ahead tc_X11_ahead = true := by decide +kernel
set_option maxRecDepth 100000 in
theorem mt_X11_ahead : pm_mt yX11_ahead cX11_ahead 4 (some (.int)) := pt_m_ok 1561 116 (by decide +kernel)
def tc_X11_weakLink : px_TC := [(0, .aload_n 0, 1), (1, .getfield 19, 3), (4, .aload_n 0, 1), (5, .getfield 41, 3), (8, .invokevirtual 456, 3), (11, .ireturn, 1)]
set_option maxRecDepth 100000 in
theorem dc_X11_weakLink : px_dc cX11_weakLink tc_X11_weakLink = true := by decide +kernel
set_option maxRecDepth 100000 in
theorem mt_X11_weakLink : pm_mt yX11_weakLink cX11_weakLink 1 (some (.int)) := pt_m_ok 891 116 (by decide +kernel)
def tc_X11_save : px_TC := [(0, .iload_n 1, 1), (1, .invokestatic 460, 3), (4, .aload_n 0, 1), (5, .getfield 32, 3), (8, .iload_n 1, 1), (9, .aaload, 1), (10, .aload_n 0, 1), (11, .getfield 41, 3), (14, .invokevirtual 444, 3), (17, .aload_n 0, 1), (18, .getfield 36, 3), (21, .iload_n 1, 1), (22, .iconst 1, 1), (23, .bastore, 1), (24, .return_, 1)]
set_option maxRecDepth 100000 in
theorem dc_X11_save : px_dc cX11_save tc_X11_save = true := by decide +kernel
set_option maxRecDepth 100000 in
theorem mt_X11_save : pm_mt yX11_save cX11_save 2 none := pt_m_ok 1571 116 (by decide +kernel)
def tc_X11_restore : px_TC := [(0, .iload_n 1, 1), (1, .invokestatic 460, 3), (4, .aload_n 0, 1), (5, .getfield 36, 3), (8, .iload_n 1, 1), (9, .baload, 1), (10, .ifCond .ne 14, 3), (13, .new 65, 3), (16, .dup, 1), (17, .ldc_w 463, 3), (20, .invokespecial 69, 3), (23, .athrow, 1), (24, .aload_n 0, 1), (25, .getfield 41, 3), (28, .aload_n 0, 1), (29, .getfield 32, 3), (32, .iload_n 1, 1), (33, .aaload, 1), (34, .invokevirtual 444, 3), (37, .aload_n 0, 1), (38, .getfield 26, 3), (41, .invokevirtual 94, 3), (44, .return_, 1)]
set_option maxRecDepth 100000 in
theorem dc_X11_restore : px_dc cX11_restore tc_X11_restore = true := by decide +kernel
set_option maxRecDepth 100000 in
theorem mt_X11_restore : pm_mt yX11_restore cX11_restore 2 none := pt_m_ok 1582 116 (by decide +kernel)
def tc_X11_moveToBest : px_TC := [(0, .aload_n 1, 1), (1, .getfield 341, 3), (4, .iload_n 2, 1), (5, .aaload, 1), (6, .astore 4, 2), (8, .aload 4, 2), (10, .getfield 369, 3), (13, .ifCond .eq 5, 3), (16, .iconst 2, 1), (17, .ireturn, 1), (18, .aload_n 0, 1), (19, .getfield 19, 3), (22, .aload_n 1, 1), (23, .aload 4, 2), (25, .getfield 363, 3), (28, .iload_n 2, 1), (29, .invokevirtual 292, 3), (32, .aload_n 0, 1), (33, .getfield 19, 3), (36, .aload_n 1, 1), (37, .getfield 102, 3), (40, .aload 4, 2), (42, .getfield 360, 3), (45, .iconst 0, 1), (46, .invokevirtual 310, 3), (49, .aload 4, 2), (51, .getfield 360, 3), (54, .invokevirtual 277, 3), (57, .iload_n 3, 1), (58, .invokevirtual 296, 3), (61, .ifCond .ne 5, 3), (64, .iconst 3, 1), (65, .ireturn, 1), (66, .aload_n 1, 1), (67, .iload_n 2, 1), (68, .aload_n 0, 1), (69, .getfield 19, 3), (72, .getfield 300, 3), (75, .invokevirtual 325, 3), (78, .ireturn, 1)]
set_option maxRecDepth 100000 in
theorem dc_X11_moveToBest : px_dc cX11_moveToBest tc_X11_moveToBest = true := by decide +kernel
set_option maxRecDepth 100000 in
theorem mt_X11_moveToBest : pm_mt yX11_moveToBest cX11_moveToBest 5 (some (.int)) := pt_m_ok 1351 116 (by decide +kernel)
def tc_X11_checkNode : px_TC := [(0, .aload_n 0, 1), (1, .getfield 41, 3), (4, .getfield 102, 3), (7, .iload_n 1, 1), (8, .invokevirtual 465, 3), (11, .ifCond .ne 14, 3), (14, .new 232, 3), (17, .dup, 1), (18, .ldc_w 468, 3), (21, .invokespecial 236, 3), (24, .athrow, 1), (25, .return_, 1)]
set_option maxRecDepth 100000 in
theorem dc_X11_checkNode : px_dc cX11_checkNode tc_X11_checkNode = true := by decide +kernel
set_option maxRecDepth 100000 in
theorem mt_X11_checkNode : pm_mt yX11_checkNode cX11_checkNode 2 none := pt_m_ok 1072 116 (by decide +kernel)
def tc_X11_checkLink : px_TC := [(0, .aload_n 0, 1), (1, .getfield 41, 3), (4, .getfield 102, 3), (7, .iload_n 1, 1), (8, .invokevirtual 470, 3), (11, .ifCond .ne 14, 3), (14, .new 232, 3), (17, .dup, 1), (18, .ldc_w 473, 3), (21, .invokespecial 236, 3), (24, .athrow, 1), (25, .return_, 1)]
set_option maxRecDepth 100000 in
theorem dc_X11_checkLink : px_dc cX11_checkLink tc_X11_checkLink = true := by decide +kernel
set_option maxRecDepth 100000 in
theorem mt_X11_checkLink : pm_mt yX11_checkLink cX11_checkLink 2 none := pt_m_ok 1105 116 (by decide +kernel)
def tc_X11_checkLinkOrNone : px_TC := [(0, .iload_n 1, 1), (1, .iconst (-1), 1), (2, .if_icmp .eq 8, 3), (5, .aload_n 0, 1), (6, .iload_n 1, 1), (7, .invokevirtual 138, 3), (10, .return_, 1)]
set_option maxRecDepth 100000 in
theorem dc_X11_checkLinkOrNone : px_dc cX11_checkLinkOrNone tc_X11_checkLinkOrNone = true := by decide +kernel
set_option maxRecDepth 100000 in
theorem mt_X11_checkLinkOrNone : pm_mt yX11_checkLinkOrNone cX11_checkLinkOrNone 2 none := pt_m_ok 1347 116 (by decide +kernel)
def tc_X11_checkCircuit : px_TC := [(0, .aload_n 0, 1), (1, .getfield 41, 3), (4, .iload_n 1, 1), (5, .invokevirtual 475, 3), (8, .ifCond .ne 14, 3), (11, .new 232, 3), (14, .dup, 1), (15, .ldc_w 478, 3), (18, .invokespecial 236, 3), (21, .athrow, 1), (22, .return_, 1)]
set_option maxRecDepth 100000 in
theorem dc_X11_checkCircuit : px_dc cX11_checkCircuit tc_X11_checkCircuit = true := by decide +kernel
set_option maxRecDepth 100000 in
theorem mt_X11_checkCircuit : pm_mt yX11_checkCircuit cX11_checkCircuit 2 none := pt_m_ok 1300 116 (by decide +kernel)
def tc_X11_checkIndex : px_TC := [(0, .iload_n 0, 1), (1, .ifCond .ge 14, 3), (4, .new 232, 3), (7, .dup, 1), (8, .ldc_w 480, 3), (11, .invokespecial 236, 3), (14, .athrow, 1), (15, .return_, 1)]
set_option maxRecDepth 100000 in
theorem dc_X11_checkIndex : px_dc cX11_checkIndex tc_X11_checkIndex = true := by decide +kernel
set_option maxRecDepth 100000 in
theorem mt_X11_checkIndex : pm_mt yX11_checkIndex cX11_checkIndex 1 none := pt_m_ok 1251 116 (by decide +kernel)
def tc_X11_checkWhat : px_TC := [(0, .iload_n 0, 1), (1, .iconst 0, 1), (2, .iload_n 1, 1), (3, .invokestatic 75, 3), (6, .ifCond .eq 13, 3), (9, .new 79, 3), (12, .dup, 1), (13, .ldc 148, 2), (15, .invokespecial 83, 3), (18, .athrow, 1), (19, .return_, 1)]
set_option maxRecDepth 100000 in
theorem dc_X11_checkWhat : px_dc cX11_checkWhat tc_X11_checkWhat = true := by decide +kernel
set_option maxRecDepth 100000 in
theorem mt_X11_checkWhat : pm_mt yX11_checkWhat cX11_checkWhat 2 none := pt_m_ok 1145 116 (by decide +kernel)
def tc_X11_checkTicks : px_TC := [(0, .iload_n 0, 1), (1, .iconst 1, 1), (2, .sipush 200, 3), (5, .invokestatic 75, 3), (8, .ifCond .eq 14, 3), (11, .new 79, 3), (14, .dup, 1), (15, .ldc_w 482, 3), (18, .invokespecial 83, 3), (21, .athrow, 1), (22, .return_, 1)]
set_option maxRecDepth 100000 in
theorem dc_X11_checkTicks : px_dc cX11_checkTicks tc_X11_checkTicks = true := by decide +kernel
set_option maxRecDepth 100000 in
theorem mt_X11_checkTicks : pm_mt yX11_checkTicks cX11_checkTicks 1 none := pt_m_ok 1385 116 (by decide +kernel)
def tc_X11_checkSavedSlot : px_TC := [(0, .iload_n 0, 1), (1, .iconst 0, 1), (2, .iconst 1, 1), (3, .invokestatic 75, 3), (6, .ifCond .eq 14, 3), (9, .new 79, 3), (12, .dup, 1), (13, .ldc_w 484, 3), (16, .invokespecial 83, 3), (19, .athrow, 1), (20, .return_, 1)]
set_option maxRecDepth 100000 in
theorem dc_X11_checkSavedSlot : px_dc cX11_checkSavedSlot tc_X11_checkSavedSlot = true := by decide +kernel
set_option maxRecDepth 100000 in
theorem mt_X11_checkSavedSlot : pm_mt yX11_checkSavedSlot cX11_checkSavedSlot 1 none := pt_m_ok 1574 116 (by decide +kernel)
def tc_X11_isOutside : px_TC := [(0, .iload_n 0, 1), (1, .iload_n 1, 1), (2, .if_icmp .lt 8, 3), (5, .iload_n 0, 1), (6, .iload_n 2, 1), (7, .if_icmp .le 7, 3), (10, .iconst 1, 1), (11, .goto 4, 3), (14, .iconst 0, 1), (15, .ireturn, 1)]
set_option maxRecDepth 100000 in
theorem dc_X11_isOutside : px_dc cX11_isOutside tc_X11_isOutside = true := by decide +kernel
set_option maxRecDepth 100000 in
theorem mt_X11_isOutside : pm_mt yX11_isOutside cX11_isOutside 3 (some (.boolean)) := pt_m_ok 719 116 (by decide +kernel)
def tc_X11_fateTotal : px_TC := [(0, .iload_n 1, 1), (1, .tableswitch 42 0 2 #[27, 32, 37], 27), (28, .aload_n 0, 1), (29, .getfield 180, 3), (32, .ireturn, 1), (33, .aload_n 0, 1), (34, .getfield 183, 3), (37, .ireturn, 1), (38, .aload_n 0, 1), (39, .getfield 189, 3), (42, .ireturn, 1), (43, .aload_n 0, 1), (44, .getfield 186, 3), (47, .ireturn, 1)]
set_option maxRecDepth 100000 in
theorem dc_X11_fateTotal : px_dc cX11_fateTotal tc_X11_fateTotal = true := by decide +kernel
set_option maxRecDepth 100000 in
theorem mt_X11_fateTotal : pm_mt yX11_fateTotal cX11_fateTotal 2 (some (.int)) := pt_m_ok 1564 116 (by decide +kernel)
def tc_X11_spaceOfSlot : px_TC := [(0, .iload_n 0, 1), (1, .ifCond .ge 7, 3), (4, .iconst (-1), 1), (5, .goto 7, 3), (8, .iload_n 0, 1), (9, .bipush 12, 2), (11, .idiv, 1), (12, .ireturn, 1)]
set_option maxRecDepth 100000 in
theorem dc_X11_spaceOfSlot : px_dc cX11_spaceOfSlot tc_X11_spaceOfSlot = true := by decide +kernel
set_option maxRecDepth 100000 in
theorem mt_X11_spaceOfSlot : pm_mt yX11_spaceOfSlot cX11_spaceOfSlot 1 (some (.int)) := pt_m_ok 1480 116 (by decide +kernel)
def tc_X11_labelOfSlot : px_TC := [(0, .iload_n 0, 1), (1, .ifCond .ge 7, 3), (4, .iconst (-1), 1), (5, .goto 7, 3), (8, .iload_n 0, 1), (9, .bipush 12, 2), (11, .irem, 1), (12, .ireturn, 1)]
set_option maxRecDepth 100000 in
theorem dc_X11_labelOfSlot : px_dc cX11_labelOfSlot tc_X11_labelOfSlot = true := by decide +kernel
set_option maxRecDepth 100000 in
theorem mt_X11_labelOfSlot : pm_mt yX11_labelOfSlot cX11_labelOfSlot 1 (some (.int)) := pt_m_ok 1483 116 (by decide +kernel)
def tc_X11_copyNumbers : px_TC := [(0, .iconst 0, 1), (1, .istore_n 2, 1), (2, .iload_n 2, 1), (3, .aload_n 0, 1), (4, .arraylength, 1), (5, .if_icmp .ge 21, 3), (8, .iload_n 2, 1), (9, .aload_n 1, 1), (10, .arraylength, 1), (11, .if_icmp .ge 15, 3), (14, .aload_n 1, 1), (15, .iload_n 2, 1), (16, .aload_n 0, 1), (17, .iload_n 2, 1), (18, .iaload, 1), (19, .iastore, 1), (20, .iinc 2 1, 3), (23, .goto (-21), 3), (26, .return_, 1)]
set_option maxRecDepth 100000 in
theorem dc_X11_copyNumbers : px_dc cX11_copyNumbers tc_X11_copyNumbers = true := by decide +kernel
set_option maxRecDepth 100000 in
theorem mt_X11_copyNumbers : pm_mt yX11_copyNumbers cX11_copyNumbers 3 none := pt_m_ok 1517 116 (by decide +kernel)
def tc_X11_fillNumbers : px_TC := [(0, .iconst 0, 1), (1, .istore_n 2, 1), (2, .iload_n 2, 1), (3, .aload_n 0, 1), (4, .arraylength, 1), (5, .if_icmp .ge 13, 3), (8, .aload_n 0, 1), (9, .iload_n 2, 1), (10, .iload_n 1, 1), (11, .iastore, 1), (12, .iinc 2 1, 3), (15, .goto (-13), 3), (18, .return_, 1)]
set_option maxRecDepth 100000 in
theorem dc_X11_fillNumbers : px_dc cX11_fillNumbers tc_X11_fillNumbers = true := by decide +kernel
set_option maxRecDepth 100000 in
theorem mt_X11_fillNumbers : pm_mt yX11_fillNumbers cX11_fillNumbers 3 none := pt_m_ok 302 116 (by decide +kernel)
def fr_J0 : px_FR := [(9, 13, 0, .array .byte, 2), (15, 13, 1, .byte, 2)]
def fx_J0 : List ((Nat × Nat × Nat × FieldType × Nat) × Nat) := [((9, 13, 0, .array .byte, 2), 2160), ((15, 13, 1, .byte, 2), 2161)]
def mr_J0 : px_MR := [(335, 0, 13, yJ0_coder_7d493, 0, 1, false), (492, 0, 13, yJ0_isLatin1_aae02, 0, 1, false), (495, 1, 99, yJ1_charAt_3b067, 2, 1, false), (498, 1, 99, yJ2_charAt_3b067, 2, 1, false), (1059, 1, 99, yJ3_checkIndex_8e157, 3, 1, false)]
def mx_J0 : List ((Nat × Nat × Nat × MethodName × Nat × Nat × Bool) × Nat × Nat × Nat × String) := [((335, 0, 13, yJ0_coder_7d493, 0, 1, false), 648, 649, 650, ""), ((492, 0, 13, yJ0_isLatin1_aae02, 0, 1, false), 658, 659, 660, ""), ((495, 1, 99, yJ1_charAt_3b067, 2, 1, false), 662, 663, 0, ""), ((498, 1, 99, yJ2_charAt_3b067, 2, 1, false), 673, 674, 0, ""), ((1059, 1, 99, yJ3_checkIndex_8e157, 3, 1, false), 670, 671, 0, "")]
def cr_J0 : px_CR := []
def cx_J0 : List ((Nat × (Nat ⊕ (Nat × String))) × Nat × Nat × Nat × Nat) := []
def lr_J0 : px_LR := []
def lx_J0 : List ((Nat × (Option Int32 ⊕ Int64)) × Nat × String) := []
set_option maxRecDepth 100000 in
theorem tok_J0 : px_tok RJ0 fr_J0 mr_J0 cr_J0 lr_J0 := by
  have h1 : fx_J0.all (pt_fr RJ0) = true := by decide +kernel
  have h2 : mx_J0.all (pt_mr RJ0) = true := by decide +kernel
  have h3 : cx_J0.all (pt_cr RJ0) = true := by decide +kernel
  have h4 : lx_J0.all (pt_lr RJ0) = true := by decide +kernel
  exact ⟨pt_fr_ok h1, pt_mr_ok h2, pt_cr_ok h3, pt_lr_ok h4⟩
def tc_J0_length_8abf5 : px_TC := [(0, .aload_n 0, 1), (1, .getfield 9, 3), (4, .arraylength, 1), (5, .aload_n 0, 1), (6, .invokevirtual 335, 3), (9, .ishr, 1), (10, .ireturn, 1)]
set_option maxRecDepth 100000 in
theorem dc_J0_length_8abf5 : px_dc cJ0_length_8abf5 tc_J0_length_8abf5 = true := by decide +kernel
set_option maxRecDepth 100000 in
theorem mt_J0_length_8abf5 : pm_mt yJ0_length_8abf5 cJ0_length_8abf5 1 (some (.int)) := pt_m_ok 647 135 (by decide +kernel)
def tc_J0_charAt_5068e : px_TC := [(0, .aload_n 0, 1), (1, .invokevirtual 492, 3), (4, .ifCond .eq 12, 3), (7, .aload_n 0, 1), (8, .getfield 9, 3), (11, .iload_n 1, 1), (12, .invokestatic 495, 3), (15, .ireturn, 1), (16, .aload_n 0, 1), (17, .getfield 9, 3), (20, .iload_n 1, 1), (21, .invokestatic 498, 3), (24, .ireturn, 1)]
set_option maxRecDepth 100000 in
theorem dc_J0_charAt_5068e : px_dc cJ0_charAt_5068e tc_J0_charAt_5068e = true := by decide +kernel
set_option maxRecDepth 100000 in
theorem mt_J0_charAt_5068e : pm_mt yJ0_charAt_5068e cJ0_charAt_5068e 2 (some (.char)) := pt_m_ok 657 135 (by decide +kernel)
def tc_J0_coder_7d493 : px_TC := [(0, .getstatic 38, 3), (3, .ifCond .eq 10, 3), (6, .aload_n 0, 1), (7, .getfield 15, 3), (10, .goto 4, 3), (13, .iconst 1, 1), (14, .ireturn, 1)]
set_option maxRecDepth 100000 in
theorem dc_J0_coder_7d493 : px_dc cJ0_coder_7d493 tc_J0_coder_7d493 = true := by decide +kernel
set_option maxRecDepth 100000 in
theorem mt_J0_coder_7d493 : pm_mt yJ0_coder_7d493 cJ0_coder_7d493 1 (some (.byte)) := pt_m_ok 651 135 (by decide +kernel)
def tc_J0_isLatin1_aae02 : px_TC := [(0, .getstatic 38, 3), (3, .ifCond .eq 14, 3), (6, .aload_n 0, 1), (7, .getfield 15, 3), (10, .ifCond .ne 7, 3), (13, .iconst 1, 1), (14, .goto 4, 3), (17, .iconst 0, 1), (18, .ireturn, 1)]
set_option maxRecDepth 100000 in
theorem dc_J0_isLatin1_aae02 : px_dc cJ0_isLatin1_aae02 tc_J0_isLatin1_aae02 = true := by decide +kernel
set_option maxRecDepth 100000 in
theorem mt_J0_isLatin1_aae02 : pm_mt yJ0_isLatin1_aae02 cJ0_isLatin1_aae02 1 (some (.boolean)) := pt_m_ok 661 135 (by decide +kernel)
def tc_J0_checkIndex_df160 : px_TC := [(0, .iload_n 0, 1), (1, .iload_n 1, 1), (2, .getstatic 1053, 3), (5, .invokestatic 1059, 3), (8, .pop, 1), (9, .return_, 1)]
set_option maxRecDepth 100000 in
theorem dc_J0_checkIndex_df160 : px_dc cJ0_checkIndex_df160 tc_J0_checkIndex_df160 = true := by decide +kernel
set_option maxRecDepth 100000 in
theorem mt_J0_checkIndex_df160 : pm_mt yJ0_checkIndex_df160 cJ0_checkIndex_df160 2 none := pt_m_ok 667 135 (by decide +kernel)
def fr_J1 : px_FR := []
def fx_J1 : List ((Nat × Nat × Nat × FieldType × Nat) × Nat) := []
def mr_J1 : px_MR := [(9, 1, 13, yJ0_checkIndex_df160, 2, 0, false)]
def mx_J1 : List ((Nat × Nat × Nat × MethodName × Nat × Nat × Bool) × Nat × Nat × Nat × String) := [((9, 1, 13, yJ0_checkIndex_df160, 2, 0, false), 665, 666, 0, "")]
def cr_J1 : px_CR := []
def cx_J1 : List ((Nat × (Nat ⊕ (Nat × String))) × Nat × Nat × Nat × Nat) := []
def lr_J1 : px_LR := []
def lx_J1 : List ((Nat × (Option Int32 ⊕ Int64)) × Nat × String) := []
set_option maxRecDepth 100000 in
theorem tok_J1 : px_tok RJ1 fr_J1 mr_J1 cr_J1 lr_J1 := by
  have h1 : fx_J1.all (pt_fr RJ1) = true := by decide +kernel
  have h2 : mx_J1.all (pt_mr RJ1) = true := by decide +kernel
  have h3 : cx_J1.all (pt_cr RJ1) = true := by decide +kernel
  have h4 : lx_J1.all (pt_lr RJ1) = true := by decide +kernel
  exact ⟨pt_fr_ok h1, pt_mr_ok h2, pt_cr_ok h3, pt_lr_ok h4⟩
def tc_J1_charAt_3b067 : px_TC := [(0, .iload_n 1, 1), (1, .aload_n 0, 1), (2, .arraylength, 1), (3, .invokestatic 9, 3), (6, .aload_n 0, 1), (7, .iload_n 1, 1), (8, .baload, 1), (9, .sipush 255, 3), (12, .iand, 1), (13, .i2c, 1), (14, .ireturn, 1)]
set_option maxRecDepth 100000 in
theorem dc_J1_charAt_3b067 : px_dc cJ1_charAt_3b067 tc_J1_charAt_3b067 = true := by decide +kernel
set_option maxRecDepth 100000 in
theorem mt_J1_charAt_3b067 : pm_mt yJ1_charAt_3b067 cJ1_charAt_3b067 2 (some (.char)) := pt_m_ok 664 136 (by decide +kernel)
def fr_J3 : px_FR := []
def fx_J3 : List ((Nat × Nat × Nat × FieldType × Nat) × Nat) := []
def mr_J3 : px_MR := []
def mx_J3 : List ((Nat × Nat × Nat × MethodName × Nat × Nat × Bool) × Nat × Nat × Nat × String) := []
def cr_J3 : px_CR := []
def cx_J3 : List ((Nat × (Nat ⊕ (Nat × String))) × Nat × Nat × Nat × Nat) := []
def lr_J3 : px_LR := []
def lx_J3 : List ((Nat × (Option Int32 ⊕ Int64)) × Nat × String) := []
set_option maxRecDepth 100000 in
theorem tok_J3 : px_tok RJ3 fr_J3 mr_J3 cr_J3 lr_J3 := by
  have h1 : fx_J3.all (pt_fr RJ3) = true := by decide +kernel
  have h2 : mx_J3.all (pt_mr RJ3) = true := by decide +kernel
  have h3 : cx_J3.all (pt_cr RJ3) = true := by decide +kernel
  have h4 : lx_J3.all (pt_lr RJ3) = true := by decide +kernel
  exact ⟨pt_fr_ok h1, pt_mr_ok h2, pt_cr_ok h3, pt_lr_ok h4⟩
def tc_J3_checkIndex_8e157 : px_TC := [(0, .iload_n 0, 1), (1, .ifCond .lt 8, 3), (4, .iload_n 0, 1), (5, .iload_n 1, 1), (6, .if_icmp .lt 10, 3), (9, .aload_n 2, 1), (10, .iload_n 0, 1), (11, .iload_n 1, 1), (12, .invokestatic 95, 3), (15, .athrow, 1), (16, .iload_n 0, 1), (17, .ireturn, 1)]
set_option maxRecDepth 100000 in
theorem dc_J3_checkIndex_8e157 : px_dc cJ3_checkIndex_8e157 tc_J3_checkIndex_8e157 = true := by decide +kernel
set_option maxRecDepth 100000 in
theorem mt_J3_checkIndex_8e157 : pm_mt yJ3_checkIndex_8e157 cJ3_checkIndex_8e157 3 (some (.int)) := pt_m_ok 672 137 (by decide +kernel)
