/-! tables of the inner classes -/
def fr_X0 : px_FR := [(12, 0, 13, .object "CircuitDesk$Way", 0), (18, 0, 14, .object "CircuitDesk$Way", 0), (21, 0, 0, .int, 0), (25, 0, 1, .int, 0), (28, 0, 2, .int, 0), (31, 0, 3, .int, 0), (34, 0, 4, .int, 0), (37, 0, 5, .int, 0), (40, 0, 6, .int, 0), (43, 0, 7, .int, 0), (46, 0, 8, .int, 0), (49, 0, 9, .int, 0), (52, 0, 10, .int, 0), (55, 0, 11, .int, 0), (58, 0, 12, .int, 0), (72, 10, 0, .int, 0)]
def fx_X0 : List ((Nat × Nat × Nat × FieldType × Nat) × Nat) := [((12, 0, 13, .object "CircuitDesk$Way", 0), 350), ((18, 0, 14, .object "CircuitDesk$Way", 0), 353), ((21, 0, 0, .int, 0), 311), ((25, 0, 1, .int, 0), 315), ((28, 0, 2, .int, 0), 318), ((31, 0, 3, .int, 0), 321), ((34, 0, 4, .int, 0), 324), ((37, 0, 5, .int, 0), 327), ((40, 0, 6, .int, 0), 330), ((43, 0, 7, .int, 0), 333), ((46, 0, 8, .int, 0), 336), ((49, 0, 9, .int, 0), 339), ((52, 0, 10, .int, 0), 342), ((55, 0, 11, .int, 0), 345), ((58, 0, 12, .int, 0), 348), ((72, 10, 0, .int, 0), 126)]
def mr_X0 : px_MR := [(3, 3, 0, objectInit, 0, 0, false), (11, 2, 10, yX10_init, 0, 0, false), (61, 0, 10, yX10_erase, 0, 0, false), (64, 0, 10, yX10_copyFrom, 1, 0, false), (68, 0, 10, yX10_indexOfSlot, 1, 1, false), (75, 0, 10, yX10_nodeAt, 1, 1, false), (78, 0, 10, yX10_lastNode, 0, 1, false)]
def mx_X0 : List ((Nat × Nat × Nat × MethodName × Nat × Nat × Bool) × Nat × Nat × Nat × String) := [((3, 3, 0, objectInit, 0, 0, false), 308, 62, 63, ""), ((11, 2, 10, yX10_init, 0, 0, false), 310, 121, 0, "CircuitDesk"), ((61, 0, 10, yX10_erase, 0, 0, false), 840, 759, 760, ""), ((64, 0, 10, yX10_copyFrom, 1, 0, false), 1001, 1002, 1003, ""), ((68, 0, 10, yX10_indexOfSlot, 1, 1, false), 1126, 1127, 1128, ""), ((75, 0, 10, yX10_nodeAt, 1, 1, false), 1022, 774, 775, ""), ((78, 0, 10, yX10_lastNode, 0, 1, false), 1023, 770, 771, "")]
def cr_X0 : px_CR := [(9, .inl 10)]
def cx_X0 : List ((Nat × (Nat ⊕ (Nat × String))) × Nat × Nat × Nat × Nat) := [((9, .inl 10), 309, 119, 41, 0)]
def lr_X0 : px_LR := []
def lx_X0 : List ((Nat × (Option Int32 ⊕ Int64)) × Nat × String) := []
set_option maxRecDepth 100000 in
theorem tok_X0 : px_tok RX0 fr_X0 mr_X0 cr_X0 lr_X0 := by
  have h1 : fx_X0.all (pt_fr RX0) = true := by decide +kernel
  have h2 : mx_X0.all (pt_mr RX0) = true := by decide +kernel
  have h3 : cx_X0.all (pt_cr RX0) = true := by decide +kernel
  have h4 : lx_X0.all (pt_lr RX0) = true := by decide +kernel
  exact ⟨pt_fr_ok h1, pt_mr_ok h2, pt_cr_ok h3, pt_lr_ok h4⟩
def tc_X0_init : px_TC := [(0, .aload_n 0, 1), (1, .invokespecial 3, 3), (4, .aload_n 0, 1), (5, .new 9, 3), (8, .dup, 1), (9, .invokespecial 11, 3), (12, .putfield 12, 3), (15, .aload_n 0, 1), (16, .new 9, 3), (19, .dup, 1), (20, .invokespecial 11, 3), (23, .putfield 18, 3), (26, .return_, 1)]
set_option maxRecDepth 100000 in
theorem dc_X0_init : px_dc cX0_init tc_X0_init = true := by decide +kernel
set_option maxRecDepth 100000 in
theorem mt_X0_init : pm_mt yX0_init cX0_init 1 none := pt_m_ok 307 47 (by decide +kernel)
def tc_X0_begin : px_TC := [(0, .aload_n 0, 1), (1, .iload_n 1, 1), (2, .putfield 21, 3), (5, .aload_n 0, 1), (6, .iload_n 2, 1), (7, .putfield 25, 3), (10, .aload_n 0, 1), (11, .iconst 0, 1), (12, .putfield 28, 3), (15, .aload_n 0, 1), (16, .iconst 0, 1), (17, .putfield 31, 3), (20, .aload_n 0, 1), (21, .iconst 0, 1), (22, .putfield 34, 3), (25, .aload_n 0, 1), (26, .iconst 0, 1), (27, .putfield 37, 3), (30, .aload_n 0, 1), (31, .iconst 0, 1), (32, .putfield 40, 3), (35, .aload_n 0, 1), (36, .iconst 0, 1), (37, .putfield 43, 3), (40, .aload_n 0, 1), (41, .iconst 0, 1), (42, .putfield 46, 3), (45, .aload_n 0, 1), (46, .iconst 0, 1), (47, .putfield 49, 3), (50, .aload_n 0, 1), (51, .iconst 0, 1), (52, .putfield 52, 3), (55, .aload_n 0, 1), (56, .iconst 0, 1), (57, .putfield 55, 3), (60, .aload_n 0, 1), (61, .iconst (-1), 1), (62, .putfield 58, 3), (65, .aload_n 0, 1), (66, .getfield 12, 3), (69, .invokevirtual 61, 3), (72, .aload_n 0, 1), (73, .getfield 18, 3), (76, .invokevirtual 61, 3), (79, .return_, 1)]
set_option maxRecDepth 100000 in
theorem dc_X0_begin : px_dc cX0_begin tc_X0_begin = true := by decide +kernel
set_option maxRecDepth 100000 in
theorem mt_X0_begin : pm_mt yX0_begin cX0_begin 3 none := pt_m_ok 839 47 (by decide +kernel)
def tc_X0_copyFrom : px_TC := [(0, .aload_n 0, 1), (1, .aload_n 1, 1), (2, .getfield 21, 3), (5, .putfield 21, 3), (8, .aload_n 0, 1), (9, .aload_n 1, 1), (10, .getfield 25, 3), (13, .putfield 25, 3), (16, .aload_n 0, 1), (17, .aload_n 1, 1), (18, .getfield 28, 3), (21, .putfield 28, 3), (24, .aload_n 0, 1), (25, .aload_n 1, 1), (26, .getfield 31, 3), (29, .putfield 31, 3), (32, .aload_n 0, 1), (33, .aload_n 1, 1), (34, .getfield 34, 3), (37, .putfield 34, 3), (40, .aload_n 0, 1), (41, .aload_n 1, 1), (42, .getfield 37, 3), (45, .putfield 37, 3), (48, .aload_n 0, 1), (49, .aload_n 1, 1), (50, .getfield 40, 3), (53, .putfield 40, 3), (56, .aload_n 0, 1), (57, .aload_n 1, 1), (58, .getfield 43, 3), (61, .putfield 43, 3), (64, .aload_n 0, 1), (65, .aload_n 1, 1), (66, .getfield 46, 3), (69, .putfield 46, 3), (72, .aload_n 0, 1), (73, .aload_n 1, 1), (74, .getfield 49, 3), (77, .putfield 49, 3), (80, .aload_n 0, 1), (81, .aload_n 1, 1), (82, .getfield 52, 3), (85, .putfield 52, 3), (88, .aload_n 0, 1), (89, .aload_n 1, 1), (90, .getfield 55, 3), (93, .putfield 55, 3), (96, .aload_n 0, 1), (97, .aload_n 1, 1), (98, .getfield 58, 3), (101, .putfield 58, 3), (104, .aload_n 0, 1), (105, .getfield 12, 3), (108, .aload_n 1, 1), (109, .getfield 12, 3), (112, .invokevirtual 64, 3), (115, .aload_n 0, 1), (116, .getfield 18, 3), (119, .aload_n 1, 1), (120, .getfield 18, 3), (123, .invokevirtual 64, 3), (126, .return_, 1)]
set_option maxRecDepth 100000 in
theorem dc_X0_copyFrom : px_dc cX0_copyFrom tc_X0_copyFrom = true := by decide +kernel
set_option maxRecDepth 100000 in
theorem mt_X0_copyFrom : pm_mt yX0_copyFrom cX0_copyFrom 2 none := pt_m_ok 1000 47 (by decide +kernel)
def tc_X0_activeWay : px_TC := [(0, .aload_n 0, 1), (1, .getfield 28, 3), (4, .iconst 2, 1), (5, .if_icmp .eq 11, 3), (8, .aload_n 0, 1), (9, .getfield 28, 3), (12, .iconst 3, 1), (13, .if_icmp .ne 10, 3), (16, .aload_n 0, 1), (17, .getfield 18, 3), (20, .goto 7, 3), (23, .aload_n 0, 1), (24, .getfield 12, 3), (27, .areturn, 1)]
set_option maxRecDepth 100000 in
theorem dc_X0_activeWay : px_dc cX0_activeWay tc_X0_activeWay = true := by decide +kernel
set_option maxRecDepth 100000 in
theorem mt_X0_activeWay : pm_mt yX0_activeWay cX0_activeWay 1 (some (.object "CircuitDesk$Way")) := pt_m_ok 916 47 (by decide +kernel)
def tc_X0_wayWithSlot : px_TC := [(0, .aload_n 0, 1), (1, .getfield 18, 3), (4, .iload_n 1, 1), (5, .invokevirtual 68, 3), (8, .iconst (-1), 1), (9, .if_icmp .eq 10, 3), (12, .aload_n 0, 1), (13, .getfield 18, 3), (16, .goto 7, 3), (19, .aload_n 0, 1), (20, .getfield 12, 3), (23, .areturn, 1)]
set_option maxRecDepth 100000 in
theorem dc_X0_wayWithSlot : px_dc cX0_wayWithSlot tc_X0_wayWithSlot = true := by decide +kernel
set_option maxRecDepth 100000 in
theorem mt_X0_wayWithSlot : pm_mt yX0_wayWithSlot cX0_wayWithSlot 2 (some (.object "CircuitDesk$Way")) := pt_m_ok 1125 47 (by decide +kernel)
def tc_X0_hasEndsOf : px_TC := [(0, .aload_n 1, 1), (1, .getfield 72, 3), (4, .iconst 2, 1), (5, .if_icmp .lt 37, 3), (8, .aload_n 1, 1), (9, .iconst 0, 1), (10, .invokevirtual 75, 3), (13, .aload_n 0, 1), (14, .getfield 12, 3), (17, .iconst 0, 1), (18, .invokevirtual 75, 3), (21, .if_icmp .ne 21, 3), (24, .aload_n 1, 1), (25, .invokevirtual 78, 3), (28, .aload_n 0, 1), (29, .getfield 12, 3), (32, .invokevirtual 78, 3), (35, .if_icmp .ne 7, 3), (38, .iconst 1, 1), (39, .goto 4, 3), (42, .iconst 0, 1), (43, .ireturn, 1)]
set_option maxRecDepth 100000 in
theorem dc_X0_hasEndsOf : px_dc cX0_hasEndsOf tc_X0_hasEndsOf = true := by decide +kernel
set_option maxRecDepth 100000 in
theorem mt_X0_hasEndsOf : pm_mt yX0_hasEndsOf cX0_hasEndsOf 2 (some (.boolean)) := pt_m_ok 1021 47 (by decide +kernel)
def tc_X0_takeNewWay : px_TC := [(0, .aload_n 0, 1), (1, .getfield 12, 3), (4, .astore_n 1, 1), (5, .aload_n 0, 1), (6, .aload_n 0, 1), (7, .getfield 18, 3), (10, .putfield 12, 3), (13, .aload_n 0, 1), (14, .aload_n 1, 1), (15, .putfield 18, 3), (18, .aload_n 0, 1), (19, .getfield 18, 3), (22, .invokevirtual 61, 3), (25, .aload_n 0, 1), (26, .iconst 0, 1), (27, .putfield 28, 3), (30, .return_, 1)]
set_option maxRecDepth 100000 in
theorem dc_X0_takeNewWay : px_dc cX0_takeNewWay tc_X0_takeNewWay = true := by decide +kernel
set_option maxRecDepth 100000 in
theorem mt_X0_takeNewWay : pm_mt yX0_takeNewWay cX0_takeNewWay 2 none := pt_m_ok 1168 47 (by decide +kernel)
def fr_X1 : px_FR := [(12, 1, 0, .object "CircuitDesk$Way", 1), (18, 1, 1, .object "CircuitDesk$Way", 1), (21, 1, 2, .array .boolean, 1), (25, 1, 3, .array .int, 1), (29, 1, 4, .int, 0), (33, 1, 5, .int, 0), (53, 10, 0, .int, 0), (64, 4, 0, .int, 0), (95, 7, 5, .int, 0), (102, 7, 3, .array (.object "CircuitDesk$Circuit"), 2), (112, 0, 0, .int, 0), (122, 7, 0, .object "CircuitDesk$Net", 2)]
def fx_X1 : List ((Nat × Nat × Nat × FieldType × Nat) × Nat) := [((12, 1, 0, .object "CircuitDesk$Way", 1), 143), ((18, 1, 1, .object "CircuitDesk$Way", 1), 145), ((21, 1, 2, .array .boolean, 1), 146), ((25, 1, 3, .array .int, 1), 147), ((29, 1, 4, .int, 0), 148), ((33, 1, 5, .int, 0), 149), ((53, 10, 0, .int, 0), 125), ((64, 4, 0, .int, 0), 218), ((95, 7, 5, .int, 0), 433), ((102, 7, 3, .array (.object "CircuitDesk$Circuit"), 2), 429), ((112, 0, 0, .int, 0), 312), ((122, 7, 0, .object "CircuitDesk$Net", 2), 423)]
def mr_X1 : px_MR := [(3, 3, 0, objectInit, 0, 0, false), (11, 2, 10, yX10_init, 0, 0, false), (36, 0, 7, yX7_hasRoom, 3, 1, false), (42, 0, 10, yX10_erase, 0, 0, false), (45, 0, 10, yX10_append, 2, 0, false), (49, 1, 1, yX1_visit, 5, 0, false), (56, 0, 10, yX10_lastNode, 0, 1, false), (60, 0, 1, yX1_keepIfBetter, 1, 0, false), (69, 0, 4, yX4_linkBetween, 2, 1, false), (73, 0, 1, yX1_isOpen, 1, 1, false), (77, 0, 10, yX10_hasNode, 1, 1, false), (80, 0, 4, yX4_delayOn, 1, 1, false), (84, 0, 10, yX10_dropLast, 0, 0, false), (87, 0, 10, yX10_copyNodes, 1, 0, false), (91, 1, 11, yX11_fillNumbers, 2, 0, false), (98, 0, 1, yX1_countCuts, 2, 0, false), (106, 0, 0, yX0_activeWay, 0, 2, false), (115, 0, 1, yX1_prepare, 3, 0, false), (119, 0, 10, yX10_linkAt, 1, 1, false), (126, 0, 10, yX10_nodeAt, 1, 1, false), (129, 0, 1, yX1_search, 4, 1, false)]
def mx_X1 : List ((Nat × Nat × Nat × MethodName × Nat × Nat × Bool) × Nat × Nat × Nat × String) := [((3, 3, 0, objectInit, 0, 0, false), 117, 62, 63, ""), ((11, 2, 10, yX10_init, 0, 0, false), 120, 121, 0, "CircuitDesk"), ((36, 0, 7, yX7_hasRoom, 3, 1, false), 734, 735, 736, ""), ((42, 0, 10, yX10_erase, 0, 0, false), 758, 759, 760, ""), ((45, 0, 10, yX10_append, 2, 0, false), 762, 763, 764, ""), ((49, 1, 1, yX1_visit, 5, 0, false), 766, 767, 0, ""), ((56, 0, 10, yX10_lastNode, 0, 1, false), 769, 770, 771, ""), ((60, 0, 1, yX1_keepIfBetter, 1, 0, false), 777, 779, 6, ""), ((69, 0, 4, yX4_linkBetween, 2, 1, false), 785, 697, 698, ""), ((73, 0, 1, yX1_isOpen, 1, 1, false), 786, 788, 7, ""), ((77, 0, 10, yX10_hasNode, 1, 1, false), 790, 791, 792, ""), ((80, 0, 4, yX4_delayOn, 1, 1, false), 794, 795, 796, ""), ((84, 0, 10, yX10_dropLast, 0, 0, false), 798, 799, 800, ""), ((87, 0, 10, yX10_copyNodes, 1, 0, false), 781, 782, 783, ""), ((91, 1, 11, yX11_fillNumbers, 2, 0, false), 1317, 215, 0, "CircuitDesk"), ((98, 0, 1, yX1_countCuts, 2, 0, false), 1318, 1320, 35, ""), ((106, 0, 0, yX0_activeWay, 0, 2, false), 1322, 914, 915, ""), ((115, 0, 1, yX1_prepare, 3, 0, false), 1323, 731, 732, ""), ((119, 0, 10, yX10_linkAt, 1, 1, false), 1324, 832, 833, ""), ((126, 0, 10, yX10_nodeAt, 1, 1, false), 1325, 774, 775, ""), ((129, 0, 1, yX1_search, 4, 1, false), 1326, 755, 756, "")]
def cr_X1 : px_CR := [(9, .inl 10)]
def cx_X1 : List ((Nat × (Nat ⊕ (Nat × String))) × Nat × Nat × Nat × Nat) := [((9, .inl 10), 118, 119, 41, 0)]
def lr_X1 : px_LR := []
def lx_X1 : List ((Nat × (Option Int32 ⊕ Int64)) × Nat × String) := []
set_option maxRecDepth 100000 in
theorem tok_X1 : px_tok RX1 fr_X1 mr_X1 cr_X1 lr_X1 := by
  have h1 : fx_X1.all (pt_fr RX1) = true := by decide +kernel
  have h2 : mx_X1.all (pt_mr RX1) = true := by decide +kernel
  have h3 : cx_X1.all (pt_cr RX1) = true := by decide +kernel
  have h4 : lx_X1.all (pt_lr RX1) = true := by decide +kernel
  exact ⟨pt_fr_ok h1, pt_mr_ok h2, pt_cr_ok h3, pt_lr_ok h4⟩
def tc_X1_init : px_TC := [(0, .aload_n 0, 1), (1, .invokespecial 3, 3), (4, .aload_n 0, 1), (5, .new 9, 3), (8, .dup, 1), (9, .invokespecial 11, 3), (12, .putfield 12, 3), (15, .aload_n 0, 1), (16, .new 9, 3), (19, .dup, 1), (20, .invokespecial 11, 3), (23, .putfield 18, 3), (26, .aload_n 0, 1), (27, .bipush 16, 2), (29, .newarray .boolean, 2), (31, .putfield 21, 3), (34, .aload_n 0, 1), (35, .bipush 16, 2), (37, .newarray .int, 2), (39, .putfield 25, 3), (42, .aload_n 0, 1), (43, .iconst 0, 1), (44, .putfield 29, 3), (47, .aload_n 0, 1), (48, .iconst (-1), 1), (49, .putfield 33, 3), (52, .return_, 1)]
set_option maxRecDepth 100000 in
theorem dc_X1_init : px_dc cX1_init tc_X1_init = true := by decide +kernel
set_option maxRecDepth 100000 in
theorem mt_X1_init : pm_mt yX1_init cX1_init 1 none := pt_m_ok 116 40 (by decide +kernel)
def tc_X1_prepare : px_TC := [(0, .iconst 0, 1), (1, .istore 4, 2), (3, .iload 4, 2), (5, .bipush 16, 2), (7, .if_icmp .ge 24, 3), (10, .aload_n 0, 1), (11, .getfield 21, 3), (14, .iload 4, 2), (16, .aload_n 1, 1), (17, .iload 4, 2), (19, .iload_n 2, 1), (20, .iload_n 3, 1), (21, .invokevirtual 36, 3), (24, .bastore, 1), (25, .iinc 4 1, 3), (28, .goto (-25), 3), (31, .return_, 1)]
set_option maxRecDepth 100000 in
theorem dc_X1_prepare : px_dc cX1_prepare tc_X1_prepare = true := by decide +kernel
set_option maxRecDepth 100000 in
theorem mt_X1_prepare : pm_mt yX1_prepare cX1_prepare 5 none := pt_m_ok 733 40 (by decide +kernel)
def tc_X1_search : px_TC := [(0, .aload_n 0, 1), (1, .iload 4, 2), (3, .putfield 33, 3), (6, .aload_n 0, 1), (7, .iconst 0, 1), (8, .putfield 29, 3), (11, .aload_n 0, 1), (12, .getfield 12, 3), (15, .invokevirtual 42, 3), (18, .aload_n 0, 1), (19, .getfield 18, 3), (22, .invokevirtual 42, 3), (25, .aload_n 0, 1), (26, .getfield 18, 3), (29, .iload_n 2, 1), (30, .iconst (-1), 1), (31, .invokevirtual 45, 3), (34, .aload_n 0, 1), (35, .aload_n 1, 1), (36, .iload_n 3, 1), (37, .iconst 0, 1), (38, .iconst 1, 1), (39, .invokestatic 49, 3), (42, .aload_n 0, 1), (43, .getfield 12, 3), (46, .getfield 53, 3), (49, .ifCond .le 7, 3), (52, .iconst 1, 1), (53, .goto 4, 3), (56, .iconst 0, 1), (57, .ireturn, 1)]
set_option maxRecDepth 100000 in
theorem dc_X1_search : px_dc cX1_search tc_X1_search = true := by decide +kernel
set_option maxRecDepth 100000 in
theorem mt_X1_search : pm_mt yX1_search cX1_search 5 (some (.boolean)) := pt_m_ok 757 40 (by decide +kernel)
def tc_X1_visit : px_TC := [(0, .aload_n 0, 1), (1, .getfield 18, 3), (4, .invokevirtual 56, 3), (7, .istore 5, 2), (9, .iload 5, 2), (11, .iload_n 2, 1), (12, .if_icmp .ne 9, 3), (15, .aload_n 0, 1), (16, .iload_n 3, 1), (17, .invokevirtual 60, 3), (20, .return_, 1), (21, .iload 4, 2), (23, .bipush 6, 2), (25, .if_icmp .ge 21, 3), (28, .aload_n 0, 1), (29, .getfield 12, 3), (32, .getfield 53, 3), (35, .ifCond .le 12, 3), (38, .iload_n 3, 1), (39, .aload_n 0, 1), (40, .getfield 29, 3), (43, .if_icmp .lt 4, 3), (46, .return_, 1), (47, .iconst 0, 1), (48, .istore 6, 2), (50, .iload 6, 2), (52, .aload_n 1, 1), (53, .getfield 64, 3), (56, .if_icmp .ge 76, 3), (59, .aload_n 1, 1), (60, .iload 5, 2), (62, .iload 6, 2), (64, .invokevirtual 69, 3), (67, .istore 7, 2), (69, .aload_n 0, 1), (70, .iload 7, 2), (72, .invokevirtual 73, 3), (75, .ifCond .eq 51, 3), (78, .aload_n 0, 1), (79, .getfield 18, 3), (82, .iload 6, 2), (84, .invokevirtual 77, 3), (87, .ifCond .ne 39, 3), (90, .aload_n 0, 1), (91, .getfield 18, 3), (94, .iload 6, 2), (96, .iload 7, 2), (98, .invokevirtual 45, 3), (101, .aload_n 0, 1), (102, .aload_n 1, 1), (103, .iload_n 2, 1), (104, .iload_n 3, 1), (105, .aload_n 1, 1), (106, .iload 7, 2), (108, .invokevirtual 80, 3), (111, .iadd, 1), (112, .iload 4, 2), (114, .iconst 1, 1), (115, .iadd, 1), (116, .invokestatic 49, 3), (119, .aload_n 0, 1), (120, .getfield 18, 3), (123, .invokevirtual 84, 3), (126, .iinc 6 1, 3), (129, .goto (-79), 3), (132, .return_, 1)]
set_option maxRecDepth 100000 in
theorem dc_X1_visit : px_dc cX1_visit tc_X1_visit = true := by decide +kernel
set_option maxRecDepth 100000 in
theorem mt_X1_visit : pm_mt yX1_visit cX1_visit 8 none := pt_m_ok 768 40 (by decide +kernel)
def tc_X1_isOpen : px_TC := [(0, .iload_n 1, 1), (1, .ifCond .lt 30, 3), (4, .iload_n 1, 1), (5, .bipush 16, 2), (7, .if_icmp .ge 24, 3), (10, .iload_n 1, 1), (11, .aload_n 0, 1), (12, .getfield 33, 3), (15, .if_icmp .eq 16, 3), (18, .aload_n 0, 1), (19, .getfield 21, 3), (22, .iload_n 1, 1), (23, .baload, 1), (24, .ifCond .eq 7, 3), (27, .iconst 1, 1), (28, .goto 4, 3), (31, .iconst 0, 1), (32, .ireturn, 1)]
set_option maxRecDepth 100000 in
theorem dc_X1_isOpen : px_dc cX1_isOpen tc_X1_isOpen = true := by decide +kernel
set_option maxRecDepth 100000 in
theorem mt_X1_isOpen : pm_mt yX1_isOpen cX1_isOpen 2 (some (.boolean)) := pt_m_ok 789 40 (by decide +kernel)
def tc_X1_keepIfBetter : px_TC := [(0, .aload_n 0, 1), (1, .getfield 12, 3), (4, .getfield 53, 3), (7, .ifCond .eq 36, 3), (10, .iload_n 1, 1), (11, .aload_n 0, 1), (12, .getfield 29, 3), (15, .if_icmp .lt 28, 3), (18, .iload_n 1, 1), (19, .aload_n 0, 1), (20, .getfield 29, 3), (23, .if_icmp .ne 24, 3), (26, .aload_n 0, 1), (27, .getfield 18, 3), (30, .getfield 53, 3), (33, .aload_n 0, 1), (34, .getfield 12, 3), (37, .getfield 53, 3), (40, .if_icmp .ge 7, 3), (43, .iconst 1, 1), (44, .goto 4, 3), (47, .iconst 0, 1), (48, .istore_n 2, 1), (49, .iload_n 2, 1), (50, .ifCond .eq 19, 3), (53, .aload_n 0, 1), (54, .getfield 12, 3), (57, .aload_n 0, 1), (58, .getfield 18, 3), (61, .invokevirtual 87, 3), (64, .aload_n 0, 1), (65, .iload_n 1, 1), (66, .putfield 29, 3), (69, .return_, 1)]
set_option maxRecDepth 100000 in
theorem dc_X1_keepIfBetter : px_dc cX1_keepIfBetter tc_X1_keepIfBetter = true := by decide +kernel
set_option maxRecDepth 100000 in
theorem mt_X1_keepIfBetter : pm_mt yX1_keepIfBetter cX1_keepIfBetter 3 none := pt_m_ok 780 40 (by decide +kernel)
def tc_X1_weakestLink : px_TC := [(0, .aload_n 0, 1), (1, .getfield 25, 3), (4, .iconst 0, 1), (5, .invokestatic 91, 3), (8, .iconst 0, 1), (9, .istore_n 2, 1), (10, .iload_n 2, 1), (11, .aload_n 1, 1), (12, .getfield 95, 3), (15, .if_icmp .ge 15, 3), (18, .aload_n 0, 1), (19, .aload_n 1, 1), (20, .iload_n 2, 1), (21, .invokevirtual 98, 3), (24, .iinc 2 1, 3), (27, .goto (-17), 3), (30, .iconst (-1), 1), (31, .istore_n 2, 1), (32, .iconst 0, 1), (33, .istore_n 3, 1), (34, .iconst 0, 1), (35, .istore 4, 2), (37, .iload 4, 2), (39, .bipush 16, 2), (41, .if_icmp .ge 31, 3), (44, .aload_n 0, 1), (45, .getfield 25, 3), (48, .iload 4, 2), (50, .iaload, 1), (51, .iload_n 3, 1), (52, .if_icmp .le 14, 3), (55, .iload 4, 2), (57, .istore_n 2, 1), (58, .aload_n 0, 1), (59, .getfield 25, 3), (62, .iload 4, 2), (64, .iaload, 1), (65, .istore_n 3, 1), (66, .iinc 4 1, 3), (69, .goto (-32), 3), (72, .iload_n 2, 1), (73, .ireturn, 1)]
set_option maxRecDepth 100000 in
theorem dc_X1_weakestLink : px_dc cX1_weakestLink tc_X1_weakestLink = true := by decide +kernel
set_option maxRecDepth 100000 in
theorem mt_X1_weakestLink : pm_mt yX1_weakestLink cX1_weakestLink 5 (some (.int)) := pt_m_ok 1316 40 (by decide +kernel)
def tc_X1_countCuts : px_TC := [(0, .aload_n 1, 1), (1, .getfield 102, 3), (4, .iload_n 2, 1), (5, .aaload, 1), (6, .astore_n 3, 1), (7, .aload_n 3, 1), (8, .invokevirtual 106, 3), (11, .astore 4, 2), (13, .aload_n 0, 1), (14, .aload_n 1, 1), (15, .aload_n 3, 1), (16, .getfield 112, 3), (19, .iload_n 2, 1), (20, .invokevirtual 115, 3), (23, .iconst 1, 1), (24, .istore 5, 2), (26, .iload 5, 2), (28, .aload 4, 2), (30, .getfield 53, 3), (33, .if_icmp .ge 65, 3), (36, .aload 4, 2), (38, .iload 5, 2), (40, .invokevirtual 119, 3), (43, .istore 6, 2), (45, .iload 6, 2), (47, .ifCond .lt 45, 3), (50, .iload 6, 2), (52, .bipush 16, 2), (54, .if_icmp .ge 38, 3), (57, .aload_n 0, 1), (58, .aload_n 1, 1), (59, .getfield 122, 3), (62, .aload 4, 2), (64, .iconst 0, 1), (65, .invokevirtual 126, 3), (68, .aload 4, 2), (70, .invokevirtual 56, 3), (73, .iload 6, 2), (75, .invokevirtual 129, 3), (78, .ifCond .ne 14, 3), (81, .aload_n 0, 1), (82, .getfield 25, 3), (85, .iload 6, 2), (87, .dup2, 1), (88, .iaload, 1), (89, .iconst 1, 1), (90, .iadd, 1), (91, .iastore, 1), (92, .iinc 5 1, 3), (95, .goto (-69), 3), (98, .return_, 1)]
set_option maxRecDepth 100000 in
theorem dc_X1_countCuts : px_dc cX1_countCuts tc_X1_countCuts = true := by decide +kernel
set_option maxRecDepth 100000 in
theorem mt_X1_countCuts : pm_mt yX1_countCuts cX1_countCuts 7 none := pt_m_ok 1321 40 (by decide +kernel)
def fr_X2 : px_FR := [(9, 2, 0, .array .int, 1), (15, 2, 1, .array .int, 1), (18, 2, 2, .array .int, 1), (21, 2, 3, .array .int, 1), (60, 4, 0, .int, 0)]
def fx_X2 : List ((Nat × Nat × Nat × FieldType × Nat) × Nat) := [((9, 2, 0, .array .int, 1), 245), ((15, 2, 1, .array .int, 1), 246), ((18, 2, 2, .array .int, 1), 247), ((21, 2, 3, .array .int, 1), 248), ((60, 4, 0, .int, 0), 221)]
def mr_X2 : px_MR := [(3, 3, 0, objectInit, 0, 0, false), (24, 1, 11, yX11_fillNumbers, 2, 0, false), (28, 1, 11, yX11_copyNumbers, 2, 0, false), (32, 1, 2, yX2_isSlot, 1, 1, false), (36, 0, 2, yX2_spaceOf, 1, 1, false), (40, 0, 2, yX2_held, 2, 1, false), (44, 0, 2, yX2_lentBy, 1, 1, false), (47, 0, 2, yX2_lowestFree, 1, 1, false), (50, 0, 2, yX2_borrowedBy, 1, 1, false), (53, 0, 2, yX2_lenderFor, 2, 1, false), (57, 0, 2, yX2_highestFree, 1, 1, false), (66, 0, 4, yX4_linkBetween, 2, 1, false)]
def mx_X2 : List ((Nat × Nat × Nat × MethodName × Nat × Nat × Bool) × Nat × Nat × Nat × String) := [((3, 3, 0, objectInit, 0, 0, false), 243, 62, 63, ""), ((24, 1, 11, yX11_fillNumbers, 2, 0, false), 244, 215, 0, "CircuitDesk"), ((28, 1, 11, yX11_copyNumbers, 2, 0, false), 992, 982, 0, "CircuitDesk"), ((32, 1, 2, yX2_isSlot, 1, 1, false), 880, 881, 0, ""), ((36, 0, 2, yX2_spaceOf, 1, 1, false), 650, 651, 652, ""), ((40, 0, 2, yX2_held, 2, 1, false), 654, 655, 656, ""), ((44, 0, 2, yX2_lentBy, 1, 1, false), 646, 647, 648, ""), ((47, 0, 2, yX2_lowestFree, 1, 1, false), 851, 853, 10, ""), ((50, 0, 2, yX2_borrowedBy, 1, 1, false), 855, 856, 857, ""), ((53, 0, 2, yX2_lenderFor, 2, 1, false), 859, 861, 11, ""), ((57, 0, 2, yX2_highestFree, 1, 1, false), 864, 866, 12, ""), ((66, 0, 4, yX4_linkBetween, 2, 1, false), 863, 697, 698, "")]
def cr_X2 : px_CR := []
def cx_X2 : List ((Nat × (Nat ⊕ (Nat × String))) × Nat × Nat × Nat × Nat) := []
def lr_X2 : px_LR := []
def lx_X2 : List ((Nat × (Option Int32 ⊕ Int64)) × Nat × String) := []
set_option maxRecDepth 100000 in
theorem tok_X2 : px_tok RX2 fr_X2 mr_X2 cr_X2 lr_X2 := by
  have h1 : fx_X2.all (pt_fr RX2) = true := by decide +kernel
  have h2 : mx_X2.all (pt_mr RX2) = true := by decide +kernel
  have h3 : cx_X2.all (pt_cr RX2) = true := by decide +kernel
  have h4 : lx_X2.all (pt_lr RX2) = true := by decide +kernel
  exact ⟨pt_fr_ok h1, pt_mr_ok h2, pt_cr_ok h3, pt_lr_ok h4⟩
def tc_X2_init : px_TC := [(0, .aload_n 0, 1), (1, .invokespecial 3, 3), (4, .aload_n 0, 1), (5, .bipush 10, 2), (7, .newarray .int, 2), (9, .putfield 9, 3), (12, .aload_n 0, 1), (13, .bipush 120, 2), (15, .newarray .int, 2), (17, .putfield 15, 3), (20, .aload_n 0, 1), (21, .bipush 120, 2), (23, .newarray .int, 2), (25, .putfield 18, 3), (28, .aload_n 0, 1), (29, .bipush 120, 2), (31, .newarray .int, 2), (33, .putfield 21, 3), (36, .aload_n 0, 1), (37, .getfield 15, 3), (40, .iconst (-1), 1), (41, .invokestatic 24, 3), (44, .return_, 1)]
set_option maxRecDepth 100000 in
theorem dc_X2_init : px_dc cX2_init tc_X2_init = true := by decide +kernel
set_option maxRecDepth 100000 in
theorem mt_X2_init : pm_mt yX2_init cX2_init 1 none := pt_m_ok 242 45 (by decide +kernel)
def tc_X2_copyFrom : px_TC := [(0, .aload_n 1, 1), (1, .getfield 9, 3), (4, .aload_n 0, 1), (5, .getfield 9, 3), (8, .invokestatic 28, 3), (11, .aload_n 1, 1), (12, .getfield 15, 3), (15, .aload_n 0, 1), (16, .getfield 15, 3), (19, .invokestatic 28, 3), (22, .aload_n 1, 1), (23, .getfield 18, 3), (26, .aload_n 0, 1), (27, .getfield 18, 3), (30, .invokestatic 28, 3), (33, .aload_n 1, 1), (34, .getfield 21, 3), (37, .aload_n 0, 1), (38, .getfield 21, 3), (41, .invokestatic 28, 3), (44, .return_, 1)]
set_option maxRecDepth 100000 in
theorem dc_X2_copyFrom : px_dc cX2_copyFrom tc_X2_copyFrom = true := by decide +kernel
set_option maxRecDepth 100000 in
theorem mt_X2_copyFrom : pm_mt yX2_copyFrom cX2_copyFrom 2 none := pt_m_ok 991 45 (by decide +kernel)
def tc_X2_putSpace : px_TC := [(0, .iload_n 1, 1), (1, .ifCond .lt 16, 3), (4, .iload_n 1, 1), (5, .bipush 10, 2), (7, .if_icmp .ge 10, 3), (10, .aload_n 0, 1), (11, .getfield 9, 3), (14, .iload_n 1, 1), (15, .iload_n 2, 1), (16, .iastore, 1), (17, .return_, 1)]
set_option maxRecDepth 100000 in
theorem dc_X2_putSpace : px_dc cX2_putSpace tc_X2_putSpace = true := by decide +kernel
set_option maxRecDepth 100000 in
theorem mt_X2_putSpace : pm_mt yX2_putSpace cX2_putSpace 3 none := pt_m_ok 630 45 (by decide +kernel)
def tc_X2_spaceOf : px_TC := [(0, .iload_n 1, 1), (1, .ifCond .lt 18, 3), (4, .iload_n 1, 1), (5, .bipush 10, 2), (7, .if_icmp .ge 12, 3), (10, .aload_n 0, 1), (11, .getfield 9, 3), (14, .iload_n 1, 1), (15, .iaload, 1), (16, .goto 4, 3), (19, .iconst 0, 1), (20, .ireturn, 1)]
set_option maxRecDepth 100000 in
theorem dc_X2_spaceOf : px_dc cX2_spaceOf tc_X2_spaceOf = true := by decide +kernel
set_option maxRecDepth 100000 in
theorem mt_X2_spaceOf : pm_mt yX2_spaceOf cX2_spaceOf 2 (some (.int)) := pt_m_ok 653 45 (by decide +kernel)
def tc_X2_isSlot : px_TC := [(0, .iload_n 0, 1), (1, .ifCond .lt 13, 3), (4, .iload_n 0, 1), (5, .bipush 120, 2), (7, .if_icmp .ge 7, 3), (10, .iconst 1, 1), (11, .goto 4, 3), (14, .iconst 0, 1), (15, .ireturn, 1)]
set_option maxRecDepth 100000 in
theorem dc_X2_isSlot : px_dc cX2_isSlot tc_X2_isSlot = true := by decide +kernel
set_option maxRecDepth 100000 in
theorem mt_X2_isSlot : pm_mt yX2_isSlot cX2_isSlot 1 (some (.boolean)) := pt_m_ok 882 45 (by decide +kernel)
def tc_X2_holderOf : px_TC := [(0, .iload_n 1, 1), (1, .invokestatic 32, 3), (4, .ifCond .eq 12, 3), (7, .aload_n 0, 1), (8, .getfield 15, 3), (11, .iload_n 1, 1), (12, .iaload, 1), (13, .goto 4, 3), (16, .iconst (-1), 1), (17, .ireturn, 1)]
set_option maxRecDepth 100000 in
theorem dc_X2_holderOf : px_dc cX2_holderOf tc_X2_holderOf = true := by decide +kernel
set_option maxRecDepth 100000 in
theorem mt_X2_holderOf : pm_mt yX2_holderOf cX2_holderOf 2 (some (.int)) := pt_m_ok 1214 45 (by decide +kernel)
def tc_X2_circuitOf : px_TC := [(0, .iload_n 1, 1), (1, .invokestatic 32, 3), (4, .ifCond .eq 22, 3), (7, .aload_n 0, 1), (8, .getfield 15, 3), (11, .iload_n 1, 1), (12, .iaload, 1), (13, .iconst (-1), 1), (14, .if_icmp .eq 12, 3), (17, .aload_n 0, 1), (18, .getfield 18, 3), (21, .iload_n 1, 1), (22, .iaload, 1), (23, .goto 4, 3), (26, .iconst (-1), 1), (27, .ireturn, 1)]
set_option maxRecDepth 100000 in
theorem dc_X2_circuitOf : px_dc cX2_circuitOf tc_X2_circuitOf = true := by decide +kernel
set_option maxRecDepth 100000 in
theorem mt_X2_circuitOf : pm_mt yX2_circuitOf cX2_circuitOf 2 (some (.int)) := pt_m_ok 1117 45 (by decide +kernel)
def tc_X2_hasMadeEntry : px_TC := [(0, .iload_n 1, 1), (1, .invokestatic 32, 3), (4, .ifCond .eq 27, 3), (7, .aload_n 0, 1), (8, .getfield 15, 3), (11, .iload_n 1, 1), (12, .iaload, 1), (13, .iload_n 2, 1), (14, .if_icmp .ne 17, 3), (17, .aload_n 0, 1), (18, .getfield 21, 3), (21, .iload_n 1, 1), (22, .iaload, 1), (23, .iconst 1, 1), (24, .if_icmp .ne 7, 3), (27, .iconst 1, 1), (28, .goto 4, 3), (31, .iconst 0, 1), (32, .ireturn, 1)]
set_option maxRecDepth 100000 in
theorem dc_X2_hasMadeEntry : px_dc cX2_hasMadeEntry tc_X2_hasMadeEntry = true := by decide +kernel
set_option maxRecDepth 100000 in
theorem mt_X2_hasMadeEntry : pm_mt yX2_hasMadeEntry cX2_hasMadeEntry 3 (some (.boolean)) := pt_m_ok 1121 45 (by decide +kernel)
def tc_X2_held : px_TC := [(0, .iconst 0, 1), (1, .istore_n 3, 1), (2, .iload_n 1, 1), (3, .ifCond .lt 9, 3), (6, .iload_n 1, 1), (7, .bipush 10, 2), (9, .if_icmp .lt 5, 3), (12, .iload_n 3, 1), (13, .ireturn, 1), (14, .iconst 0, 1), (15, .istore 4, 2), (17, .iload 4, 2), (19, .aload_n 0, 1), (20, .getfield 9, 3), (23, .iload_n 1, 1), (24, .iaload, 1), (25, .if_icmp .ge 35, 3), (28, .iload 4, 2), (30, .bipush 12, 2), (32, .if_icmp .ge 28, 3), (35, .aload_n 0, 1), (36, .getfield 15, 3), (39, .iload_n 1, 1), (40, .bipush 12, 2), (42, .imul, 1), (43, .iload 4, 2), (45, .iadd, 1), (46, .iaload, 1), (47, .iload_n 2, 1), (48, .if_icmp .ne 6, 3), (51, .iinc 3 1, 3), (54, .iinc 4 1, 3), (57, .goto (-40), 3), (60, .iload_n 3, 1), (61, .ireturn, 1)]
set_option maxRecDepth 100000 in
theorem dc_X2_held : px_dc cX2_held tc_X2_held = true := by decide +kernel
set_option maxRecDepth 100000 in
theorem mt_X2_held : pm_mt yX2_held cX2_held 5 (some (.int)) := pt_m_ok 657 45 (by decide +kernel)
def tc_X2_lentBy : px_TC := [(0, .aload_n 0, 1), (1, .iload_n 1, 1), (2, .invokevirtual 36, 3), (5, .aload_n 0, 1), (6, .iload_n 1, 1), (7, .iconst (-1), 1), (8, .invokevirtual 40, 3), (11, .isub, 1), (12, .aload_n 0, 1), (13, .iload_n 1, 1), (14, .iload_n 1, 1), (15, .invokevirtual 40, 3), (18, .isub, 1), (19, .ireturn, 1)]
set_option maxRecDepth 100000 in
theorem dc_X2_lentBy : px_dc cX2_lentBy tc_X2_lentBy = true := by decide +kernel
set_option maxRecDepth 100000 in
theorem mt_X2_lentBy : pm_mt yX2_lentBy cX2_lentBy 2 (some (.int)) := pt_m_ok 649 45 (by decide +kernel)
def tc_X2_lentByAll : px_TC := [(0, .iconst 0, 1), (1, .istore_n 1, 1), (2, .iconst 0, 1), (3, .istore_n 2, 1), (4, .iload_n 2, 1), (5, .bipush 10, 2), (7, .if_icmp .ge 17, 3), (10, .iload_n 1, 1), (11, .aload_n 0, 1), (12, .iload_n 2, 1), (13, .invokevirtual 44, 3), (16, .iadd, 1), (17, .istore_n 1, 1), (18, .iinc 2 1, 3), (21, .goto (-17), 3), (24, .iload_n 1, 1), (25, .ireturn, 1)]
set_option maxRecDepth 100000 in
theorem dc_X2_lentByAll : px_dc cX2_lentByAll tc_X2_lentByAll = true := by decide +kernel
set_option maxRecDepth 100000 in
theorem mt_X2_lentByAll : pm_mt yX2_lentByAll cX2_lentByAll 3 (some (.int)) := pt_m_ok 645 45 (by decide +kernel)
def tc_X2_borrowedBy : px_TC := [(0, .iconst 0, 1), (1, .istore_n 2, 1), (2, .iconst 0, 1), (3, .istore_n 3, 1), (4, .iload_n 3, 1), (5, .bipush 10, 2), (7, .if_icmp .ge 23, 3), (10, .iload_n 3, 1), (11, .iload_n 1, 1), (12, .if_icmp .eq 12, 3), (15, .iload_n 2, 1), (16, .aload_n 0, 1), (17, .iload_n 3, 1), (18, .iload_n 1, 1), (19, .invokevirtual 40, 3), (22, .iadd, 1), (23, .istore_n 2, 1), (24, .iinc 3 1, 3), (27, .goto (-23), 3), (30, .iload_n 2, 1), (31, .ireturn, 1)]
set_option maxRecDepth 100000 in
theorem dc_X2_borrowedBy : px_dc cX2_borrowedBy tc_X2_borrowedBy = true := by decide +kernel
set_option maxRecDepth 100000 in
theorem mt_X2_borrowedBy : pm_mt yX2_borrowedBy cX2_borrowedBy 4 (some (.int)) := pt_m_ok 858 45 (by decide +kernel)
def tc_X2_madeEntries : px_TC := [(0, .iconst 0, 1), (1, .istore_n 2, 1), (2, .iconst 0, 1), (3, .istore_n 3, 1), (4, .iload_n 3, 1), (5, .bipush 120, 2), (7, .if_icmp .ge 32, 3), (10, .aload_n 0, 1), (11, .getfield 15, 3), (14, .iload_n 3, 1), (15, .iaload, 1), (16, .iload_n 1, 1), (17, .if_icmp .ne 16, 3), (20, .aload_n 0, 1), (21, .getfield 21, 3), (24, .iload_n 3, 1), (25, .iaload, 1), (26, .iconst 1, 1), (27, .if_icmp .ne 6, 3), (30, .iinc 2 1, 3), (33, .iinc 3 1, 3), (36, .goto (-32), 3), (39, .iload_n 2, 1), (40, .ireturn, 1)]
set_option maxRecDepth 100000 in
theorem dc_X2_madeEntries : px_dc cX2_madeEntries tc_X2_madeEntries = true := by decide +kernel
set_option maxRecDepth 100000 in
theorem mt_X2_madeEntries : pm_mt yX2_madeEntries cX2_madeEntries 4 (some (.int)) := pt_m_ok 1197 45 (by decide +kernel)
def tc_X2_take : px_TC := [(0, .aload_n 0, 1), (1, .iload_n 2, 1), (2, .invokevirtual 47, 3), (5, .istore 5, 2), (7, .iload 5, 2), (9, .iconst (-1), 1), (10, .if_icmp .ne 25, 3), (13, .aload_n 0, 1), (14, .iload_n 2, 1), (15, .invokevirtual 50, 3), (18, .iload 4, 2), (20, .if_icmp .ge 15, 3), (23, .aload_n 0, 1), (24, .aload_n 0, 1), (25, .aload_n 1, 1), (26, .iload_n 2, 1), (27, .invokevirtual 53, 3), (30, .invokevirtual 57, 3), (33, .istore 5, 2), (35, .iload 5, 2), (37, .iconst (-1), 1), (38, .if_icmp .eq 27, 3), (41, .aload_n 0, 1), (42, .getfield 15, 3), (45, .iload 5, 2), (47, .iload_n 2, 1), (48, .iastore, 1), (49, .aload_n 0, 1), (50, .getfield 18, 3), (53, .iload 5, 2), (55, .iload_n 3, 1), (56, .iastore, 1), (57, .aload_n 0, 1), (58, .getfield 21, 3), (61, .iload 5, 2), (63, .iconst 0, 1), (64, .iastore, 1), (65, .iload 5, 2), (67, .ireturn, 1)]
set_option maxRecDepth 100000 in
theorem dc_X2_take : px_dc cX2_take tc_X2_take = true := by decide +kernel
set_option maxRecDepth 100000 in
theorem mt_X2_take : pm_mt yX2_take cX2_take 6 (some (.int)) := pt_m_ok 850 45 (by decide +kernel)
def tc_X2_lowestFree : px_TC := [(0, .aload_n 0, 1), (1, .iload_n 1, 1), (2, .invokevirtual 36, 3), (5, .istore_n 2, 1), (6, .iconst 0, 1), (7, .istore_n 3, 1), (8, .iload_n 3, 1), (9, .iload_n 2, 1), (10, .if_icmp .ge 31, 3), (13, .aload_n 0, 1), (14, .getfield 15, 3), (17, .iload_n 1, 1), (18, .bipush 12, 2), (20, .imul, 1), (21, .iload_n 3, 1), (22, .iadd, 1), (23, .iaload, 1), (24, .iconst (-1), 1), (25, .if_icmp .ne 10, 3), (28, .iload_n 1, 1), (29, .bipush 12, 2), (31, .imul, 1), (32, .iload_n 3, 1), (33, .iadd, 1), (34, .ireturn, 1), (35, .iinc 3 1, 3), (38, .goto (-30), 3), (41, .iconst (-1), 1), (42, .ireturn, 1)]
set_option maxRecDepth 100000 in
theorem dc_X2_lowestFree : px_dc cX2_lowestFree tc_X2_lowestFree = true := by decide +kernel
set_option maxRecDepth 100000 in
theorem mt_X2_lowestFree : pm_mt yX2_lowestFree cX2_lowestFree 4 (some (.int)) := pt_m_ok 854 45 (by decide +kernel)
def tc_X2_highestFree : px_TC := [(0, .aload_n 0, 1), (1, .iload_n 1, 1), (2, .invokevirtual 36, 3), (5, .iconst 1, 1), (6, .isub, 1), (7, .istore_n 2, 1), (8, .iload_n 2, 1), (9, .ifCond .lt 31, 3), (12, .aload_n 0, 1), (13, .getfield 15, 3), (16, .iload_n 1, 1), (17, .bipush 12, 2), (19, .imul, 1), (20, .iload_n 2, 1), (21, .iadd, 1), (22, .iaload, 1), (23, .iconst (-1), 1), (24, .if_icmp .ne 10, 3), (27, .iload_n 1, 1), (28, .bipush 12, 2), (30, .imul, 1), (31, .iload_n 2, 1), (32, .iadd, 1), (33, .ireturn, 1), (34, .iinc 2 (-1), 3), (37, .goto (-29), 3), (40, .iconst (-1), 1), (41, .ireturn, 1)]
set_option maxRecDepth 100000 in
theorem dc_X2_highestFree : px_dc cX2_highestFree tc_X2_highestFree = true := by decide +kernel
set_option maxRecDepth 100000 in
theorem mt_X2_highestFree : pm_mt yX2_highestFree cX2_highestFree 3 (some (.int)) := pt_m_ok 867 45 (by decide +kernel)
def tc_X2_lenderFor : px_TC := [(0, .iconst (-1), 1), (1, .istore_n 3, 1), (2, .iconst 0, 1), (3, .istore 4, 2), (5, .iconst 0, 1), (6, .istore 5, 2), (8, .iload 5, 2), (10, .aload_n 1, 1), (11, .getfield 60, 3), (14, .if_icmp .ge 47, 3), (17, .aload_n 1, 1), (18, .iload_n 2, 1), (19, .iload 5, 2), (21, .invokevirtual 66, 3), (24, .iconst (-1), 1), (25, .if_icmp .ne 7, 3), (28, .iconst 0, 1), (29, .goto 10, 3), (32, .aload_n 0, 1), (33, .iload 5, 2), (35, .iconst (-1), 1), (36, .invokevirtual 40, 3), (39, .istore 6, 2), (41, .iload 6, 2), (43, .iload 4, 2), (45, .if_icmp .le 10, 3), (48, .iload 5, 2), (50, .istore_n 3, 1), (51, .iload 6, 2), (53, .istore 4, 2), (55, .iinc 5 1, 3), (58, .goto (-50), 3), (61, .iload_n 3, 1), (62, .ireturn, 1)]
set_option maxRecDepth 100000 in
theorem dc_X2_lenderFor : px_dc cX2_lenderFor tc_X2_lenderFor = true := by decide +kernel
set_option maxRecDepth 100000 in
theorem mt_X2_lenderFor : pm_mt yX2_lenderFor cX2_lenderFor 7 (some (.int)) := pt_m_ok 862 45 (by decide +kernel)
def tc_X2_makeEntry : px_TC := [(0, .iload_n 1, 1), (1, .invokestatic 32, 3), (4, .ifCond .eq 10, 3), (7, .aload_n 0, 1), (8, .getfield 21, 3), (11, .iload_n 1, 1), (12, .iconst 1, 1), (13, .iastore, 1), (14, .return_, 1)]
set_option maxRecDepth 100000 in
theorem dc_X2_makeEntry : px_dc cX2_makeEntry tc_X2_makeEntry = true := by decide +kernel
set_option maxRecDepth 100000 in
theorem mt_X2_makeEntry : pm_mt yX2_makeEntry cX2_makeEntry 2 none := pt_m_ok 894 45 (by decide +kernel)
def tc_X2_giveUp : px_TC := [(0, .iload_n 1, 1), (1, .invokestatic 32, 3), (4, .ifCond .eq 10, 3), (7, .aload_n 0, 1), (8, .getfield 15, 3), (11, .iload_n 1, 1), (12, .iconst (-1), 1), (13, .iastore, 1), (14, .return_, 1)]
set_option maxRecDepth 100000 in
theorem dc_X2_giveUp : px_dc cX2_giveUp tc_X2_giveUp = true := by decide +kernel
set_option maxRecDepth 100000 in
theorem mt_X2_giveUp : pm_mt yX2_giveUp cX2_giveUp 2 none := pt_m_ok 879 45 (by decide +kernel)
def tc_X2_renumberBehind : px_TC := [(0, .iconst 0, 1), (1, .istore_n 2, 1), (2, .iload_n 2, 1), (3, .bipush 120, 2), (5, .if_icmp .ge 29, 3), (8, .aload_n 0, 1), (9, .getfield 18, 3), (12, .iload_n 2, 1), (13, .iaload, 1), (14, .iload_n 1, 1), (15, .if_icmp .le 13, 3), (18, .aload_n 0, 1), (19, .getfield 18, 3), (22, .iload_n 2, 1), (23, .dup2, 1), (24, .iaload, 1), (25, .iconst 1, 1), (26, .isub, 1), (27, .iastore, 1), (28, .iinc 2 1, 3), (31, .goto (-29), 3), (34, .return_, 1)]
set_option maxRecDepth 100000 in
theorem dc_X2_renumberBehind : px_dc cX2_renumberBehind tc_X2_renumberBehind = true := by decide +kernel
set_option maxRecDepth 100000 in
theorem mt_X2_renumberBehind : pm_mt yX2_renumberBehind cX2_renumberBehind 3 none := pt_m_ok 1065 45 (by decide +kernel)
def fr_X3 : px_FR := [(7, 3, 0, .int, 0), (13, 3, 1, .int, 0), (16, 3, 2, .int, 0), (19, 3, 3, .int, 0), (22, 3, 4, .boolean, 0)]
def fx_X3 : List ((Nat × Nat × Nat × FieldType × Nat) × Nat) := [((7, 3, 0, .int, 0), 186), ((13, 3, 1, .int, 0), 189), ((16, 3, 2, .int, 0), 192), ((19, 3, 3, .int, 0), 196), ((22, 3, 4, .boolean, 0), 199)]
def mr_X3 : px_MR := [(1, 3, 0, objectInit, 0, 0, false)]
def mx_X3 : List ((Nat × Nat × Nat × MethodName × Nat × Nat × Bool) × Nat × Nat × Nat × String) := [((1, 3, 0, objectInit, 0, 0, false), 185, 62, 63, "")]
def cr_X3 : px_CR := []
def cx_X3 : List ((Nat × (Nat ⊕ (Nat × String))) × Nat × Nat × Nat × Nat) := []
def lr_X3 : px_LR := []
def lx_X3 : List ((Nat × (Option Int32 ⊕ Int64)) × Nat × String) := []
set_option maxRecDepth 100000 in
theorem tok_X3 : px_tok RX3 fr_X3 mr_X3 cr_X3 lr_X3 := by
  have h1 : fx_X3.all (pt_fr RX3) = true := by decide +kernel
  have h2 : mx_X3.all (pt_mr RX3) = true := by decide +kernel
  have h3 : cx_X3.all (pt_cr RX3) = true := by decide +kernel
  have h4 : lx_X3.all (pt_lr RX3) = true := by decide +kernel
  exact ⟨pt_fr_ok h1, pt_mr_ok h2, pt_cr_ok h3, pt_lr_ok h4⟩
def tc_X3_init : px_TC := [(0, .aload_n 0, 1), (1, .invokespecial 1, 3), (4, .return_, 1)]
set_option maxRecDepth 100000 in
theorem dc_X3_init : px_dc cX3_init tc_X3_init = true := by decide +kernel
set_option maxRecDepth 100000 in
theorem mt_X3_init : pm_mt yX3_init cX3_init 1 none := pt_m_ok 184 44 (by decide +kernel)
def tc_X3_copyFrom : px_TC := [(0, .aload_n 0, 1), (1, .aload_n 1, 1), (2, .getfield 7, 3), (5, .putfield 7, 3), (8, .aload_n 0, 1), (9, .aload_n 1, 1), (10, .getfield 13, 3), (13, .putfield 13, 3), (16, .aload_n 0, 1), (17, .aload_n 1, 1), (18, .getfield 16, 3), (21, .putfield 16, 3), (24, .aload_n 0, 1), (25, .aload_n 1, 1), (26, .getfield 19, 3), (29, .putfield 19, 3), (32, .aload_n 0, 1), (33, .aload_n 1, 1), (34, .getfield 22, 3), (37, .putfield 22, 3), (40, .return_, 1)]
set_option maxRecDepth 100000 in
theorem dc_X3_copyFrom : px_dc cX3_copyFrom tc_X3_copyFrom = true := by decide +kernel
set_option maxRecDepth 100000 in
theorem mt_X3_copyFrom : pm_mt yX3_copyFrom cX3_copyFrom 2 none := pt_m_ok 987 44 (by decide +kernel)
def fr_X4 : px_FR := [(11, 4, 2, .array (.object "CircuitDesk$Link"), 1), (17, 4, 3, .array .int, 1), (26, 4, 0, .int, 0), (30, 4, 1, .int, 0), (45, 3, 0, .int, 0), (48, 3, 1, .int, 0), (51, 3, 2, .int, 0), (54, 3, 3, .int, 0), (57, 3, 4, .boolean, 0), (68, 10, 0, .int, 0)]
def fx_X4 : List ((Nat × Nat × Nat × FieldType × Nat) × Nat) := [((11, 4, 2, .array (.object "CircuitDesk$Link"), 1), 225), ((17, 4, 3, .array .int, 1), 228), ((26, 4, 0, .int, 0), 217), ((30, 4, 1, .int, 0), 222), ((45, 3, 0, .int, 0), 187), ((48, 3, 1, .int, 0), 190), ((51, 3, 2, .int, 0), 193), ((54, 3, 3, .int, 0), 197), ((57, 3, 4, .boolean, 0), 200), ((68, 10, 0, .int, 0), 127)]
def mr_X4 : px_MR := [(3, 3, 0, objectInit, 0, 0, false), (21, 2, 3, yX3_init, 0, 0, false), (22, 1, 11, yX11_fillNumbers, 2, 0, false), (33, 1, 11, yX11_copyNumbers, 2, 0, false), (37, 0, 3, yX3_copyFrom, 1, 0, false), (41, 0, 4, yX4_isNode, 1, 1, false), (61, 0, 4, yX4_linkBetween, 2, 1, false), (65, 0, 4, yX4_isLink, 1, 1, false), (73, 0, 10, yX10_linkAt, 1, 1, false), (77, 0, 4, yX4_delayOn, 1, 1, false)]
def mx_X4 : List ((Nat × Nat × Nat × MethodName × Nat × Nat × Bool) × Nat × Nat × Nat × String) := [((3, 3, 0, objectInit, 0, 0, false), 178, 62, 63, ""), ((21, 2, 3, yX3_init, 0, 0, false), 182, 183, 0, "CircuitDesk"), ((22, 1, 11, yX11_fillNumbers, 2, 0, false), 214, 215, 0, "CircuitDesk"), ((33, 1, 11, yX11_copyNumbers, 2, 0, false), 981, 982, 0, "CircuitDesk"), ((37, 0, 3, yX3_copyFrom, 1, 0, false), 984, 985, 986, ""), ((41, 0, 4, yX4_isNode, 1, 1, false), 705, 675, 676, ""), ((61, 0, 4, yX4_linkBetween, 2, 1, false), 1202, 697, 698, ""), ((65, 0, 4, yX4_isLink, 1, 1, false), 742, 743, 744, ""), ((73, 0, 10, yX10_linkAt, 1, 1, false), 921, 832, 833, ""), ((77, 0, 4, yX4_delayOn, 1, 1, false), 922, 795, 796, "")]
def cr_X4 : px_CR := [(9, .inl 3)]
def cx_X4 : List ((Nat × (Nat ⊕ (Nat × String))) × Nat × Nat × Nat × Nat) := [((9, .inl 3), 179, 181, 44, 180)]
def lr_X4 : px_LR := []
def lx_X4 : List ((Nat × (Option Int32 ⊕ Int64)) × Nat × String) := []
set_option maxRecDepth 100000 in
theorem tok_X4 : px_tok RX4 fr_X4 mr_X4 cr_X4 lr_X4 := by
  have h1 : fx_X4.all (pt_fr RX4) = true := by decide +kernel
  have h2 : mx_X4.all (pt_mr RX4) = true := by decide +kernel
  have h3 : cx_X4.all (pt_cr RX4) = true := by decide +kernel
  have h4 : lx_X4.all (pt_lr RX4) = true := by decide +kernel
  exact ⟨pt_fr_ok h1, pt_mr_ok h2, pt_cr_ok h3, pt_lr_ok h4⟩
def tc_X4_init : px_TC := [(0, .aload_n 0, 1), (1, .invokespecial 3, 3), (4, .aload_n 0, 1), (5, .bipush 16, 2), (7, .anewarray 9, 3), (10, .putfield 11, 3), (13, .aload_n 0, 1), (14, .bipush 100, 2), (16, .newarray .int, 2), (18, .putfield 17, 3), (21, .iconst 0, 1), (22, .istore_n 1, 1), (23, .iload_n 1, 1), (24, .bipush 16, 2), (26, .if_icmp .ge 22, 3), (29, .aload_n 0, 1), (30, .getfield 11, 3), (33, .iload_n 1, 1), (34, .new 9, 3), (37, .dup, 1), (38, .invokespecial 21, 3), (41, .aastore, 1), (42, .iinc 1 1, 3), (45, .goto (-22), 3), (48, .aload_n 0, 1), (49, .getfield 17, 3), (52, .iconst (-1), 1), (53, .invokestatic 22, 3), (56, .return_, 1)]
set_option maxRecDepth 100000 in
theorem dc_X4_init : px_dc cX4_init tc_X4_init = true := by decide +kernel
set_option maxRecDepth 100000 in
theorem mt_X4_init : pm_mt yX4_init cX4_init 2 none := pt_m_ok 177 43 (by decide +kernel)
def tc_X4_copyFrom : px_TC := [(0, .aload_n 0, 1), (1, .aload_n 1, 1), (2, .getfield 26, 3), (5, .putfield 26, 3), (8, .aload_n 0, 1), (9, .aload_n 1, 1), (10, .getfield 30, 3), (13, .putfield 30, 3), (16, .aload_n 1, 1), (17, .getfield 17, 3), (20, .aload_n 0, 1), (21, .getfield 17, 3), (24, .invokestatic 33, 3), (27, .iconst 0, 1), (28, .istore_n 2, 1), (29, .iload_n 2, 1), (30, .aload_n 0, 1), (31, .getfield 30, 3), (34, .if_icmp .ge 30, 3), (37, .iload_n 2, 1), (38, .bipush 16, 2), (40, .if_icmp .ge 24, 3), (43, .aload_n 0, 1), (44, .getfield 11, 3), (47, .iload_n 2, 1), (48, .aaload, 1), (49, .aload_n 1, 1), (50, .getfield 11, 3), (53, .iload_n 2, 1), (54, .aaload, 1), (55, .invokevirtual 37, 3), (58, .iinc 2 1, 3), (61, .goto (-32), 3), (64, .return_, 1)]
set_option maxRecDepth 100000 in
theorem dc_X4_copyFrom : px_dc cX4_copyFrom tc_X4_copyFrom = true := by decide +kernel
set_option maxRecDepth 100000 in
theorem mt_X4_copyFrom : pm_mt yX4_copyFrom cX4_copyFrom 3 none := pt_m_ok 980 43 (by decide +kernel)
def tc_X4_isNode : px_TC := [(0, .iload_n 1, 1), (1, .ifCond .lt 15, 3), (4, .iload_n 1, 1), (5, .aload_n 0, 1), (6, .getfield 26, 3), (9, .if_icmp .ge 7, 3), (12, .iconst 1, 1), (13, .goto 4, 3), (16, .iconst 0, 1), (17, .ireturn, 1)]
set_option maxRecDepth 100000 in
theorem dc_X4_isNode : px_dc cX4_isNode tc_X4_isNode = true := by decide +kernel
set_option maxRecDepth 100000 in
theorem mt_X4_isNode : pm_mt yX4_isNode cX4_isNode 2 (some (.boolean)) := pt_m_ok 677 43 (by decide +kernel)
def tc_X4_isLink : px_TC := [(0, .iload_n 1, 1), (1, .ifCond .lt 15, 3), (4, .iload_n 1, 1), (5, .aload_n 0, 1), (6, .getfield 30, 3), (9, .if_icmp .ge 7, 3), (12, .iconst 1, 1), (13, .goto 4, 3), (16, .iconst 0, 1), (17, .ireturn, 1)]
set_option maxRecDepth 100000 in
theorem dc_X4_isLink : px_dc cX4_isLink tc_X4_isLink = true := by decide +kernel
set_option maxRecDepth 100000 in
theorem mt_X4_isLink : pm_mt yX4_isLink cX4_isLink 2 (some (.boolean)) := pt_m_ok 745 43 (by decide +kernel)
def tc_X4_appendLink : px_TC := [(0, .aload_n 0, 1), (1, .iload_n 1, 1), (2, .invokevirtual 41, 3), (5, .ifCond .eq 20, 3), (8, .aload_n 0, 1), (9, .iload_n 2, 1), (10, .invokevirtual 41, 3), (13, .ifCond .eq 12, 3), (16, .aload_n 0, 1), (17, .getfield 30, 3), (20, .bipush 16, 2), (22, .if_icmp .lt 5, 3), (25, .iconst (-1), 1), (26, .ireturn, 1), (27, .aload_n 0, 1), (28, .getfield 11, 3), (31, .aload_n 0, 1), (32, .getfield 30, 3), (35, .aaload, 1), (36, .astore 5, 2), (38, .aload 5, 2), (40, .iload_n 1, 1), (41, .putfield 45, 3), (44, .aload 5, 2), (46, .iload_n 2, 1), (47, .putfield 48, 3), (50, .aload 5, 2), (52, .iload_n 3, 1), (53, .putfield 51, 3), (56, .aload 5, 2), (58, .iload 4, 2), (60, .putfield 54, 3), (63, .aload 5, 2), (65, .iconst 1, 1), (66, .putfield 57, 3), (69, .aload_n 0, 1), (70, .getfield 17, 3), (73, .iload_n 1, 1), (74, .bipush 10, 2), (76, .imul, 1), (77, .iload_n 2, 1), (78, .iadd, 1), (79, .aload_n 0, 1), (80, .getfield 30, 3), (83, .iastore, 1), (84, .aload_n 0, 1), (85, .getfield 17, 3), (88, .iload_n 2, 1), (89, .bipush 10, 2), (91, .imul, 1), (92, .iload_n 1, 1), (93, .iadd, 1), (94, .aload_n 0, 1), (95, .getfield 30, 3), (98, .iastore, 1), (99, .aload_n 0, 1), (100, .dup, 1), (101, .getfield 30, 3), (104, .iconst 1, 1), (105, .iadd, 1), (106, .putfield 30, 3), (109, .aload_n 0, 1), (110, .getfield 30, 3), (113, .iconst 1, 1), (114, .isub, 1), (115, .ireturn, 1)]
set_option maxRecDepth 100000 in
theorem dc_X4_appendLink : px_dc cX4_appendLink tc_X4_appendLink = true := by decide +kernel
set_option maxRecDepth 100000 in
theorem mt_X4_appendLink : pm_mt yX4_appendLink cX4_appendLink 6 (some (.int)) := pt_m_ok 704 43 (by decide +kernel)
def tc_X4_linkBetween : px_TC := [(0, .iload_n 1, 1), (1, .ifCond .lt 23, 3), (4, .iload_n 1, 1), (5, .aload_n 0, 1), (6, .getfield 26, 3), (9, .if_icmp .ge 15, 3), (12, .iload_n 2, 1), (13, .ifCond .lt 11, 3), (16, .iload_n 2, 1), (17, .aload_n 0, 1), (18, .getfield 26, 3), (21, .if_icmp .lt 5, 3), (24, .iconst (-1), 1), (25, .ireturn, 1), (26, .aload_n 0, 1), (27, .getfield 17, 3), (30, .iload_n 1, 1), (31, .bipush 10, 2), (33, .imul, 1), (34, .iload_n 2, 1), (35, .iadd, 1), (36, .iaload, 1), (37, .ireturn, 1)]
set_option maxRecDepth 100000 in
theorem dc_X4_linkBetween : px_dc cX4_linkBetween tc_X4_linkBetween = true := by decide +kernel
set_option maxRecDepth 100000 in
theorem mt_X4_linkBetween : pm_mt yX4_linkBetween cX4_linkBetween 3 (some (.int)) := pt_m_ok 699 43 (by decide +kernel)
def tc_X4_linksAt : px_TC := [(0, .iconst 0, 1), (1, .istore_n 2, 1), (2, .iconst 0, 1), (3, .istore_n 3, 1), (4, .iload_n 3, 1), (5, .aload_n 0, 1), (6, .getfield 26, 3), (9, .if_icmp .ge 22, 3), (12, .aload_n 0, 1), (13, .iload_n 1, 1), (14, .iload_n 3, 1), (15, .invokevirtual 61, 3), (18, .iconst (-1), 1), (19, .if_icmp .eq 6, 3), (22, .iinc 2 1, 3), (25, .iinc 3 1, 3), (28, .goto (-24), 3), (31, .iload_n 2, 1), (32, .ireturn, 1)]
set_option maxRecDepth 100000 in
theorem dc_X4_linksAt : px_dc cX4_linksAt tc_X4_linksAt = true := by decide +kernel
set_option maxRecDepth 100000 in
theorem mt_X4_linksAt : pm_mt yX4_linksAt cX4_linksAt 4 (some (.int)) := pt_m_ok 1201 43 (by decide +kernel)
def tc_X4_isUp : px_TC := [(0, .aload_n 0, 1), (1, .iload_n 1, 1), (2, .invokevirtual 65, 3), (5, .ifCond .eq 19, 3), (8, .aload_n 0, 1), (9, .getfield 11, 3), (12, .iload_n 1, 1), (13, .aaload, 1), (14, .getfield 57, 3), (17, .ifCond .eq 7, 3), (20, .iconst 1, 1), (21, .goto 4, 3), (24, .iconst 0, 1), (25, .ireturn, 1)]
set_option maxRecDepth 100000 in
theorem dc_X4_isUp : px_dc cX4_isUp tc_X4_isUp = true := by decide +kernel
set_option maxRecDepth 100000 in
theorem mt_X4_isUp : pm_mt yX4_isUp cX4_isUp 2 (some (.boolean)) := pt_m_ok 741 43 (by decide +kernel)
def tc_X4_delayOn : px_TC := [(0, .aload_n 0, 1), (1, .iload_n 1, 1), (2, .invokevirtual 65, 3), (5, .ifCond .eq 15, 3), (8, .aload_n 0, 1), (9, .getfield 11, 3), (12, .iload_n 1, 1), (13, .aaload, 1), (14, .getfield 54, 3), (17, .goto 4, 3), (20, .iconst 0, 1), (21, .ireturn, 1)]
set_option maxRecDepth 100000 in
theorem dc_X4_delayOn : px_dc cX4_delayOn tc_X4_delayOn = true := by decide +kernel
set_option maxRecDepth 100000 in
theorem mt_X4_delayOn : pm_mt yX4_delayOn cX4_delayOn 2 (some (.int)) := pt_m_ok 797 43 (by decide +kernel)
def tc_X4_delayOf : px_TC := [(0, .iconst 0, 1), (1, .istore_n 2, 1), (2, .iconst 1, 1), (3, .istore_n 3, 1), (4, .iload_n 3, 1), (5, .aload_n 1, 1), (6, .getfield 68, 3), (9, .if_icmp .ge 21, 3), (12, .iload_n 2, 1), (13, .aload_n 0, 1), (14, .aload_n 1, 1), (15, .iload_n 3, 1), (16, .invokevirtual 73, 3), (19, .invokevirtual 77, 3), (22, .iadd, 1), (23, .istore_n 2, 1), (24, .iinc 3 1, 3), (27, .goto (-23), 3), (30, .iload_n 2, 1), (31, .ireturn, 1)]
set_option maxRecDepth 100000 in
theorem dc_X4_delayOf : px_dc cX4_delayOf tc_X4_delayOf = true := by decide +kernel
set_option maxRecDepth 100000 in
theorem mt_X4_delayOf : pm_mt yX4_delayOf cX4_delayOf 4 (some (.int)) := pt_m_ok 920 43 (by decide +kernel)
def tc_X4_allCapacities : px_TC := [(0, .iconst 0, 1), (1, .istore_n 1, 1), (2, .iconst 0, 1), (3, .istore_n 2, 1), (4, .iload_n 2, 1), (5, .aload_n 0, 1), (6, .getfield 30, 3), (9, .if_icmp .ge 21, 3), (12, .iload_n 1, 1), (13, .aload_n 0, 1), (14, .getfield 11, 3), (17, .iload_n 2, 1), (18, .aaload, 1), (19, .getfield 51, 3), (22, .iadd, 1), (23, .istore_n 1, 1), (24, .iinc 2 1, 3), (27, .goto (-23), 3), (30, .iload_n 1, 1), (31, .ireturn, 1)]
set_option maxRecDepth 100000 in
theorem dc_X4_allCapacities : px_dc cX4_allCapacities tc_X4_allCapacities = true := by decide +kernel
set_option maxRecDepth 100000 in
theorem mt_X4_allCapacities : pm_mt yX4_allCapacities cX4_allCapacities 3 (some (.int)) := pt_m_ok 1271 43 (by decide +kernel)
def fr_X5 : px_FR := [(7, 5, 0, .int, 0), (13, 5, 1, .int, 0), (16, 5, 2, .int, 0), (19, 5, 3, .int, 0), (22, 5, 4, .int, 0), (25, 5, 5, .int, 0), (28, 5, 6, .int, 0)]
def fx_X5 : List ((Nat × Nat × Nat × FieldType × Nat) × Nat) := [((7, 5, 0, .int, 0), 392), ((13, 5, 1, .int, 0), 394), ((16, 5, 2, .int, 0), 396), ((19, 5, 3, .int, 0), 398), ((22, 5, 4, .int, 0), 400), ((25, 5, 5, .int, 0), 402), ((28, 5, 6, .int, 0), 404)]
def mr_X5 : px_MR := [(1, 3, 0, objectInit, 0, 0, false), (31, 0, 10, yX10_linkAt, 1, 1, false), (37, 0, 10, yX10_nodeAt, 1, 1, false), (40, 0, 10, yX10_slotAt, 1, 1, false), (43, 0, 4, yX4_delayOn, 1, 1, false)]
def mx_X5 : List ((Nat × Nat × Nat × MethodName × Nat × Nat × Bool) × Nat × Nat × Nat × String) := [((1, 3, 0, objectInit, 0, 0, false), 391, 62, 63, ""), ((31, 0, 10, yX10_linkAt, 1, 1, false), 1139, 832, 833, ""), ((37, 0, 10, yX10_nodeAt, 1, 1, false), 1140, 774, 775, ""), ((40, 0, 10, yX10_slotAt, 1, 1, false), 1141, 873, 874, ""), ((43, 0, 4, yX4_delayOn, 1, 1, false), 1142, 795, 796, "")]
def cr_X5 : px_CR := []
def cx_X5 : List ((Nat × (Nat ⊕ (Nat × String))) × Nat × Nat × Nat × Nat) := []
def lr_X5 : px_LR := []
def lx_X5 : List ((Nat × (Option Int32 ⊕ Int64)) × Nat × String) := []
set_option maxRecDepth 100000 in
theorem tok_X5 : px_tok RX5 fr_X5 mr_X5 cr_X5 lr_X5 := by
  have h1 : fx_X5.all (pt_fr RX5) = true := by decide +kernel
  have h2 : mx_X5.all (pt_mr RX5) = true := by decide +kernel
  have h3 : cx_X5.all (pt_cr RX5) = true := by decide +kernel
  have h4 : lx_X5.all (pt_lr RX5) = true := by decide +kernel
  exact ⟨pt_fr_ok h1, pt_mr_ok h2, pt_cr_ok h3, pt_lr_ok h4⟩
def tc_X5_init : px_TC := [(0, .aload_n 0, 1), (1, .invokespecial 1, 3), (4, .return_, 1)]
set_option maxRecDepth 100000 in
theorem dc_X5_init : px_dc cX5_init tc_X5_init = true := by decide +kernel
set_option maxRecDepth 100000 in
theorem mt_X5_init : pm_mt yX5_init cX5_init 1 none := pt_m_ok 390 48 (by decide +kernel)
def tc_X5_copyFrom : px_TC := [(0, .aload_n 0, 1), (1, .aload_n 1, 1), (2, .getfield 7, 3), (5, .putfield 7, 3), (8, .aload_n 0, 1), (9, .aload_n 1, 1), (10, .getfield 13, 3), (13, .putfield 13, 3), (16, .aload_n 0, 1), (17, .aload_n 1, 1), (18, .getfield 16, 3), (21, .putfield 16, 3), (24, .aload_n 0, 1), (25, .aload_n 1, 1), (26, .getfield 19, 3), (29, .putfield 19, 3), (32, .aload_n 0, 1), (33, .aload_n 1, 1), (34, .getfield 22, 3), (37, .putfield 22, 3), (40, .aload_n 0, 1), (41, .aload_n 1, 1), (42, .getfield 25, 3), (45, .putfield 25, 3), (48, .aload_n 0, 1), (49, .aload_n 1, 1), (50, .getfield 28, 3), (53, .putfield 28, 3), (56, .return_, 1)]
set_option maxRecDepth 100000 in
theorem dc_X5_copyFrom : px_dc cX5_copyFrom tc_X5_copyFrom = true := by decide +kernel
set_option maxRecDepth 100000 in
theorem mt_X5_copyFrom : pm_mt yX5_copyFrom cX5_copyFrom 2 none := pt_m_ok 1009 48 (by decide +kernel)
def tc_X5_putOnLinkTo : px_TC := [(0, .aload_n 0, 1), (1, .aload_n 1, 1), (2, .iload_n 2, 1), (3, .invokevirtual 31, 3), (6, .putfield 19, 3), (9, .aload_n 0, 1), (10, .aload_n 1, 1), (11, .iload_n 2, 1), (12, .invokevirtual 37, 3), (15, .putfield 22, 3), (18, .aload_n 0, 1), (19, .aload_n 1, 1), (20, .iload_n 2, 1), (21, .invokevirtual 40, 3), (24, .putfield 25, 3), (27, .aload_n 0, 1), (28, .aload_n 3, 1), (29, .aload_n 0, 1), (30, .getfield 19, 3), (33, .invokevirtual 43, 3), (36, .putfield 28, 3), (39, .return_, 1)]
set_option maxRecDepth 100000 in
theorem dc_X5_putOnLinkTo : px_dc cX5_putOnLinkTo tc_X5_putOnLinkTo = true := by decide +kernel
set_option maxRecDepth 100000 in
theorem mt_X5_putOnLinkTo : pm_mt yX5_putOnLinkTo cX5_putOnLinkTo 4 none := pt_m_ok 1138 48 (by decide +kernel)
def fr_X6 : px_FR := [(12, 6, 0, .object "CircuitDesk$Tokens", 1), (18, 6, 1, .int, 0), (22, 6, 2, .int, 0)]
def fx_X6 : List ((Nat × Nat × Nat × FieldType × Nat) × Nat) := [((12, 6, 0, .object "CircuitDesk$Tokens", 1), 102), ((18, 6, 1, .int, 0), 103), ((22, 6, 2, .int, 0), 104)]
def mr_X6 : px_MR := [(3, 3, 0, objectInit, 0, 0, false), (11, 2, 8, yX8_init, 0, 0, false)]
def mx_X6 : List ((Nat × Nat × Nat × MethodName × Nat × Nat × Bool) × Nat × Nat × Nat × String) := [((3, 3, 0, objectInit, 0, 0, false), 75, 62, 63, ""), ((11, 2, 8, yX8_init, 0, 0, false), 78, 79, 0, "CircuitDesk")]
def cr_X6 : px_CR := [(9, .inl 8)]
def cx_X6 : List ((Nat × (Nat ⊕ (Nat × String))) × Nat × Nat × Nat × Nat) := [((9, .inl 8), 76, 77, 39, 0)]
def lr_X6 : px_LR := []
def lx_X6 : List ((Nat × (Option Int32 ⊕ Int64)) × Nat × String) := []
set_option maxRecDepth 100000 in
theorem tok_X6 : px_tok RX6 fr_X6 mr_X6 cr_X6 lr_X6 := by
  have h1 : fx_X6.all (pt_fr RX6) = true := by decide +kernel
  have h2 : mx_X6.all (pt_mr RX6) = true := by decide +kernel
  have h3 : cx_X6.all (pt_cr RX6) = true := by decide +kernel
  have h4 : lx_X6.all (pt_lr RX6) = true := by decide +kernel
  exact ⟨pt_fr_ok h1, pt_mr_ok h2, pt_cr_ok h3, pt_lr_ok h4⟩
def tc_X6_init : px_TC := [(0, .aload_n 0, 1), (1, .invokespecial 3, 3), (4, .aload_n 0, 1), (5, .new 9, 3), (8, .dup, 1), (9, .invokespecial 11, 3), (12, .putfield 12, 3), (15, .aload_n 0, 1), (16, .iconst 0, 1), (17, .putfield 18, 3), (20, .aload_n 0, 1), (21, .iconst (-1), 1), (22, .putfield 22, 3), (25, .return_, 1)]
set_option maxRecDepth 100000 in
theorem dc_X6_init : px_dc cX6_init tc_X6_init = true := by decide +kernel
set_option maxRecDepth 100000 in
theorem mt_X6_init : pm_mt yX6_init cX6_init 1 none := pt_m_ok 74 38 (by decide +kernel)
def fr_X7 : px_FR := [(12, 7, 0, .object "CircuitDesk$Net", 1), (21, 7, 1, .object "CircuitDesk$Labels", 1), (28, 7, 2, .object "CircuitDesk$Totals", 1), (34, 7, 3, .array (.object "CircuitDesk$Circuit"), 1), (40, 7, 4, .array (.object "CircuitDesk$Packet"), 1), (44, 7, 5, .int, 0), (48, 7, 6, .int, 0), (51, 7, 7, .int, 0), (54, 7, 8, .int, 0), (57, 7, 9, .int, 0), (83, 4, 0, .int, 0), (94, 4, 2, .array (.object "CircuitDesk$Link"), 2), (98, 3, 4, .boolean, 0), (104, 5, 3, .int, 0), (113, 5, 0, .int, 0), (116, 0, 2, .int, 0), (126, 0, 14, .object "CircuitDesk$Way", 0), (135, 0, 13, .object "CircuitDesk$Way", 0), (141, 0, 0, .int, 0), (144, 4, 1, .int, 0), (153, 3, 2, .int, 0), (156, 10, 0, .int, 0), (207, 0, 3, .int, 0), (224, 0, 10, .int, 0), (227, 9, 6, .int, 0), (235, 9, 3, .int, 0), (246, 0, 9, .int, 0), (258, 5, 6, .int, 0), (265, 5, 5, .int, 0), (268, 5, 4, .int, 0), (289, 9, 2, .int, 0), (292, 0, 6, .int, 0), (293, 9, 1, .int, 0), (296, 0, 5, .int, 0), (297, 0, 11, .int, 0), (300, 5, 2, .int, 0), (303, 5, 1, .int, 0), (306, 0, 12, .int, 0), (309, 0, 7, .int, 0), (312, 9, 4, .int, 0), (322, 0, 8, .int, 0), (328, 9, 5, .int, 0), (331, 0, 1, .int, 0), (341, 0, 4, .int, 0), (348, 9, 0, .int, 0)]
def fx_X7 : List ((Nat × Nat × Nat × FieldType × Nat) × Nat) := [((12, 7, 0, .object "CircuitDesk$Net", 1), 421), ((21, 7, 1, .object "CircuitDesk$Labels", 1), 424), ((28, 7, 2, .object "CircuitDesk$Totals", 1), 426), ((34, 7, 3, .array (.object "CircuitDesk$Circuit"), 1), 428), ((40, 7, 4, .array (.object "CircuitDesk$Packet"), 1), 431), ((44, 7, 5, .int, 0), 432), ((48, 7, 6, .int, 0), 435), ((51, 7, 7, .int, 0), 437), ((54, 7, 8, .int, 0), 439), ((57, 7, 9, .int, 0), 441), ((83, 4, 0, .int, 0), 219), ((94, 4, 2, .array (.object "CircuitDesk$Link"), 2), 226), ((98, 3, 4, .boolean, 0), 201), ((104, 5, 3, .int, 0), 399), ((113, 5, 0, .int, 0), 393), ((116, 0, 2, .int, 0), 319), ((126, 0, 14, .object "CircuitDesk$Way", 0), 354), ((135, 0, 13, .object "CircuitDesk$Way", 0), 351), ((141, 0, 0, .int, 0), 313), ((144, 4, 1, .int, 0), 224), ((153, 3, 2, .int, 0), 195), ((156, 10, 0, .int, 0), 129), ((207, 0, 3, .int, 0), 322), ((224, 0, 10, .int, 0), 343), ((227, 9, 6, .int, 0), 284), ((235, 9, 3, .int, 0), 275), ((246, 0, 9, .int, 0), 340), ((258, 5, 6, .int, 0), 405), ((265, 5, 5, .int, 0), 403), ((268, 5, 4, .int, 0), 401), ((289, 9, 2, .int, 0), 272), ((292, 0, 6, .int, 0), 332), ((293, 9, 1, .int, 0), 269), ((296, 0, 5, .int, 0), 329), ((297, 0, 11, .int, 0), 347), ((300, 5, 2, .int, 0), 397), ((303, 5, 1, .int, 0), 395), ((306, 0, 12, .int, 0), 349), ((309, 0, 7, .int, 0), 335), ((312, 9, 4, .int, 0), 278), ((322, 0, 8, .int, 0), 338), ((328, 9, 5, .int, 0), 281), ((331, 0, 1, .int, 0), 317), ((341, 0, 4, .int, 0), 326), ((348, 9, 0, .int, 0), 266)]
def mr_X7 : px_MR := [(3, 3, 0, objectInit, 0, 0, false), (11, 2, 4, yX4_init, 0, 0, false), (20, 2, 2, yX2_init, 0, 0, false), (27, 2, 9, yX9_init, 0, 0, false), (60, 2, 0, yX0_init, 0, 0, false), (61, 2, 5, yX5_init, 0, 0, false), (67, 0, 4, yX4_copyFrom, 1, 0, false), (71, 0, 2, yX2_copyFrom, 1, 0, false), (74, 0, 9, yX9_copyFrom, 1, 0, false), (77, 0, 0, yX0_copyFrom, 1, 0, false), (80, 0, 5, yX5_copyFrom, 1, 0, false), (86, 0, 2, yX2_putSpace, 2, 0, false), (90, 0, 4, yX4_isLink, 1, 1, false), (107, 0, 7, yX7_lose, 1, 0, false), (110, 0, 7, yX7_keepPacket, 2, 0, false), (119, 0, 2, yX2_circuitOf, 1, 1, false), (123, 0, 7, yX7_isCircuit, 1, 1, false), (130, 0, 10, yX10_indexOfSlot, 1, 1, false), (138, 0, 10, yX10_usesLink, 1, 1, false), (147, 0, 7, yX7_reservedOn, 2, 1, false), (151, 0, 4, yX4_isUp, 1, 1, false), (159, 0, 10, yX10_linkAt, 1, 1, false), (162, 0, 7, yX7_hasRoom, 3, 1, false), (166, 0, 7, yX7_hasRoomAlong, 3, 1, false), (170, 0, 0, yX0_begin, 2, 0, false), (173, 0, 10, yX10_copyNodes, 1, 0, false), (177, 0, 7, yX7_takeLabels, 2, 1, false), (181, 0, 7, yX7_makeEntries, 1, 0, false), (184, 0, 10, yX10_slotAt, 1, 1, false), (187, 0, 2, yX2_makeEntry, 1, 0, false), (191, 0, 10, yX10_nodeAt, 1, 1, false), (194, 0, 2, yX2_take, 4, 1, false), (198, 0, 7, yX7_giveUpLabels, 1, 0, false), (201, 0, 10, yX10_putSlot, 2, 0, false), (204, 0, 2, yX2_giveUp, 1, 0, false), (210, 0, 7, yX7_packetsOf, 1, 1, false), (213, 0, 2, yX2_renumberBehind, 1, 0, false), (216, 0, 0, yX0_hasEndsOf, 1, 1, false), (220, 0, 10, yX10_isSameAs, 1, 1, false), (223, 0, 10, yX10_erase, 0, 0, false), (230, 1, 99, yJ9_min_7cf53, 2, 1, false), (238, 0, 10, yX10_heldSlots, 0, 1, false), (242, 0, 4, yX4_delayOf, 1, 1, false), (249, 0, 7, yX7_movePackets, 0, 0, false), (252, 0, 7, yX7_moveCircuit, 1, 0, false), (255, 0, 7, yX7_sendFrom, 1, 0, false), (261, 0, 7, yX7_goesOn, 1, 1, false), (271, 0, 2, yX2_hasMadeEntry, 2, 1, false), (275, 0, 0, yX0_wayWithSlot, 1, 2, false), (279, 0, 7, yX7_deliver, 1, 0, false), (282, 0, 5, yX5_putOnLinkTo, 3, 0, false), (286, 0, 7, yX7_isOnUpLink, 1, 1, false), (313, 0, 7, yX7_build, 1, 0, false), (316, 0, 7, yX7_clearOne, 1, 0, false), (319, 1, 99, yJ9_max_7cf53, 2, 1, false), (325, 0, 0, yX0_takeNewWay, 0, 0, false), (334, 0, 7, yX7_addToBacklog, 2, 0, false), (338, 0, 7, yX7_sendPacket, 2, 0, false), (344, 0, 0, yX0_activeWay, 0, 2, false)]
def mx_X7 : List ((Nat × Nat × Nat × MethodName × Nat × Nat × Bool) × Nat × Nat × Nat × String) := [((3, 3, 0, objectInit, 0, 0, false), 172, 62, 63, ""), ((11, 2, 4, yX4_init, 0, 0, false), 175, 176, 0, ""), ((20, 2, 2, yX2_init, 0, 0, false), 240, 241, 0, ""), ((27, 2, 9, yX9_init, 0, 0, false), 260, 261, 0, "CircuitDesk"), ((60, 2, 0, yX0_init, 0, 0, false), 305, 306, 0, "CircuitDesk"), ((61, 2, 5, yX5_init, 0, 0, false), 388, 389, 0, "CircuitDesk"), ((67, 0, 4, yX4_copyFrom, 1, 0, false), 977, 978, 979, ""), ((71, 0, 2, yX2_copyFrom, 1, 0, false), 988, 989, 990, ""), ((74, 0, 9, yX9_copyFrom, 1, 0, false), 993, 994, 995, ""), ((77, 0, 0, yX0_copyFrom, 1, 0, false), 997, 998, 999, ""), ((80, 0, 5, yX5_copyFrom, 1, 0, false), 1006, 1007, 1008, ""), ((86, 0, 2, yX2_putSpace, 2, 0, false), 627, 628, 629, ""), ((90, 0, 4, yX4_isLink, 1, 1, false), 1078, 743, 744, ""), ((107, 0, 7, yX7_lose, 1, 0, false), 1079, 1081, 19, ""), ((110, 0, 7, yX7_keepPacket, 2, 0, false), 1083, 1085, 20, ""), ((119, 0, 2, yX2_circuitOf, 1, 1, false), 1114, 1115, 1116, ""), ((123, 0, 7, yX7_isCircuit, 1, 1, false), 942, 908, 909, ""), ((130, 0, 10, yX10_indexOfSlot, 1, 1, false), 1130, 1127, 1128, ""), ((138, 0, 10, yX10_usesLink, 1, 1, false), 750, 751, 752, ""), ((147, 0, 7, yX7_reservedOn, 2, 1, false), 746, 747, 748, ""), ((151, 0, 4, yX4_isUp, 1, 1, false), 738, 739, 740, ""), ((159, 0, 10, yX10_linkAt, 1, 1, false), 831, 832, 833, ""), ((162, 0, 7, yX7_hasRoom, 3, 1, false), 835, 735, 736, ""), ((166, 0, 7, yX7_hasRoomAlong, 3, 1, false), 827, 829, 8, ""), ((170, 0, 0, yX0_begin, 2, 0, false), 836, 837, 838, ""), ((173, 0, 10, yX10_copyNodes, 1, 0, false), 841, 782, 783, ""), ((177, 0, 7, yX7_takeLabels, 2, 1, false), 842, 844, 9, ""), ((181, 0, 7, yX7_makeEntries, 1, 0, false), 887, 888, 889, ""), ((184, 0, 10, yX10_slotAt, 1, 1, false), 872, 873, 874, ""), ((187, 0, 2, yX2_makeEntry, 1, 0, false), 891, 892, 893, ""), ((191, 0, 10, yX10_nodeAt, 1, 1, false), 846, 774, 775, ""), ((194, 0, 2, yX2_take, 4, 1, false), 847, 848, 849, ""), ((198, 0, 7, yX7_giveUpLabels, 1, 0, false), 868, 870, 13, ""), ((201, 0, 10, yX10_putSlot, 2, 0, false), 883, 884, 885, ""), ((204, 0, 2, yX2_giveUp, 1, 0, false), 876, 877, 878, ""), ((210, 0, 7, yX7_packetsOf, 1, 1, false), 1061, 924, 925, ""), ((213, 0, 2, yX2_renumberBehind, 1, 0, false), 1062, 1063, 1064, ""), ((216, 0, 0, yX0_hasEndsOf, 1, 1, false), 1018, 1019, 1020, ""), ((220, 0, 10, yX10_isSameAs, 1, 1, false), 1024, 1025, 1026, ""), ((223, 0, 10, yX10_erase, 0, 0, false), 943, 759, 760, ""), ((230, 1, 99, yJ9_min_7cf53, 2, 1, false), 1047, 1048, 0, ""), ((238, 0, 10, yX10_heldSlots, 0, 1, false), 1161, 1162, 1163, ""), ((242, 0, 4, yX4_delayOf, 1, 1, false), 1155, 918, 919, ""), ((249, 0, 7, yX7_movePackets, 0, 0, false), 1106, 1108, 22, ""), ((252, 0, 7, yX7_moveCircuit, 1, 0, false), 1147, 1149, 26, ""), ((255, 0, 7, yX7_sendFrom, 1, 0, false), 1169, 1171, 29, ""), ((261, 0, 7, yX7_goesOn, 1, 1, false), 1110, 1112, 23, ""), ((271, 0, 2, yX2_hasMadeEntry, 2, 1, false), 1118, 1119, 1120, ""), ((275, 0, 0, yX0_wayWithSlot, 1, 2, false), 1122, 1123, 1124, ""), ((279, 0, 7, yX7_deliver, 1, 0, false), 1131, 1133, 24, ""), ((282, 0, 5, yX5_putOnLinkTo, 3, 0, false), 1135, 1136, 1137, ""), ((286, 0, 7, yX7_isOnUpLink, 1, 1, false), 1143, 1145, 25, ""), ((313, 0, 7, yX7_build, 1, 0, false), 1151, 1153, 27, ""), ((316, 0, 7, yX7_clearOne, 1, 0, false), 1157, 1159, 28, ""), ((319, 1, 99, yJ9_max_7cf53, 2, 1, false), 1156, 518, 0, ""), ((325, 0, 0, yX0_takeNewWay, 0, 0, false), 1165, 1166, 1167, ""), ((334, 0, 7, yX7_addToBacklog, 2, 0, false), 1173, 1044, 1045, ""), ((338, 0, 7, yX7_sendPacket, 2, 0, false), 1174, 1176, 30, ""), ((344, 0, 0, yX0_activeWay, 0, 2, false), 1178, 914, 915, "")]
def cr_X7 : px_CR := [(9, .inl 4), (18, .inl 2), (25, .inl 9), (32, .inl 0), (38, .inl 5)]
def cx_X7 : List ((Nat × (Nat ⊕ (Nat × String))) × Nat × Nat × Nat × Nat) := [((9, .inl 4), 173, 174, 43, 0), ((18, .inl 2), 238, 239, 45, 0), ((25, .inl 9), 258, 259, 46, 0), ((32, .inl 0), 300, 304, 47, 301), ((38, .inl 5), 302, 387, 48, 303)]
def lr_X7 : px_LR := []
def lx_X7 : List ((Nat × (Option Int32 ⊕ Int64)) × Nat × String) := []
set_option maxRecDepth 100000 in
theorem tok_X7 : px_tok RX7 fr_X7 mr_X7 cr_X7 lr_X7 := by
  have h1 : fx_X7.all (pt_fr RX7) = true := by decide +kernel
  have h2 : mx_X7.all (pt_mr RX7) = true := by decide +kernel
  have h3 : cx_X7.all (pt_cr RX7) = true := by decide +kernel
  have h4 : lx_X7.all (pt_lr RX7) = true := by decide +kernel
  exact ⟨pt_fr_ok h1, pt_mr_ok h2, pt_cr_ok h3, pt_lr_ok h4⟩
def tc_X7_init : px_TC := [(0, .aload_n 0, 1), (1, .invokespecial 3, 3), (4, .aload_n 0, 1), (5, .new 9, 3), (8, .dup, 1), (9, .invokespecial 11, 3), (12, .putfield 12, 3), (15, .aload_n 0, 1), (16, .new 18, 3), (19, .dup, 1), (20, .invokespecial 20, 3), (23, .putfield 21, 3), (26, .aload_n 0, 1), (27, .new 25, 3), (30, .dup, 1), (31, .invokespecial 27, 3), (34, .putfield 28, 3), (37, .aload_n 0, 1), (38, .bipush 8, 2), (40, .anewarray 32, 3), (43, .putfield 34, 3), (46, .aload_n 0, 1), (47, .bipush 60, 2), (49, .anewarray 38, 3), (52, .putfield 40, 3), (55, .aload_n 0, 1), (56, .iconst 0, 1), (57, .putfield 44, 3), (60, .aload_n 0, 1), (61, .iconst 0, 1), (62, .putfield 48, 3), (65, .aload_n 0, 1), (66, .iconst 1, 1), (67, .putfield 51, 3), (70, .aload_n 0, 1), (71, .iconst 0, 1), (72, .putfield 54, 3), (75, .aload_n 0, 1), (76, .iconst 0, 1), (77, .putfield 57, 3), (80, .iconst 0, 1), (81, .istore_n 1, 1), (82, .iload_n 1, 1), (83, .bipush 8, 2), (85, .if_icmp .ge 22, 3), (88, .aload_n 0, 1), (89, .getfield 34, 3), (92, .iload_n 1, 1), (93, .new 32, 3), (96, .dup, 1), (97, .invokespecial 60, 3), (100, .aastore, 1), (101, .iinc 1 1, 3), (104, .goto (-22), 3), (107, .iconst 0, 1), (108, .istore_n 1, 1), (109, .iload_n 1, 1), (110, .bipush 60, 2), (112, .if_icmp .ge 22, 3), (115, .aload_n 0, 1), (116, .getfield 40, 3), (119, .iload_n 1, 1), (120, .new 38, 3), (123, .dup, 1), (124, .invokespecial 61, 3), (127, .aastore, 1), (128, .iinc 1 1, 3), (131, .goto (-22), 3), (134, .return_, 1)]
set_option maxRecDepth 100000 in
theorem dc_X7_init : px_dc cX7_init tc_X7_init = true := by decide +kernel
set_option maxRecDepth 100000 in
theorem mt_X7_init : pm_mt yX7_init cX7_init 2 none := pt_m_ok 171 42 (by decide +kernel)
def tc_X7_copyFrom : px_TC := [(0, .aload_n 0, 1), (1, .getfield 12, 3), (4, .aload_n 1, 1), (5, .getfield 12, 3), (8, .invokevirtual 67, 3), (11, .aload_n 0, 1), (12, .getfield 21, 3), (15, .aload_n 1, 1), (16, .getfield 21, 3), (19, .invokevirtual 71, 3), (22, .aload_n 0, 1), (23, .getfield 28, 3), (26, .aload_n 1, 1), (27, .getfield 28, 3), (30, .invokevirtual 74, 3), (33, .aload_n 0, 1), (34, .aload_n 1, 1), (35, .getfield 44, 3), (38, .putfield 44, 3), (41, .aload_n 0, 1), (42, .aload_n 1, 1), (43, .getfield 48, 3), (46, .putfield 48, 3), (49, .aload_n 0, 1), (50, .aload_n 1, 1), (51, .getfield 51, 3), (54, .putfield 51, 3), (57, .aload_n 0, 1), (58, .aload_n 1, 1), (59, .getfield 54, 3), (62, .putfield 54, 3), (65, .aload_n 0, 1), (66, .aload_n 1, 1), (67, .getfield 57, 3), (70, .putfield 57, 3), (73, .iconst 0, 1), (74, .istore_n 2, 1), (75, .iload_n 2, 1), (76, .aload_n 0, 1), (77, .getfield 44, 3), (80, .if_icmp .ge 30, 3), (83, .iload_n 2, 1), (84, .bipush 8, 2), (86, .if_icmp .ge 24, 3), (89, .aload_n 0, 1), (90, .getfield 34, 3), (93, .iload_n 2, 1), (94, .aaload, 1), (95, .aload_n 1, 1), (96, .getfield 34, 3), (99, .iload_n 2, 1), (100, .aaload, 1), (101, .invokevirtual 77, 3), (104, .iinc 2 1, 3), (107, .goto (-32), 3), (110, .iconst 0, 1), (111, .istore_n 2, 1), (112, .iload_n 2, 1), (113, .aload_n 0, 1), (114, .getfield 48, 3), (117, .if_icmp .ge 30, 3), (120, .iload_n 2, 1), (121, .bipush 60, 2), (123, .if_icmp .ge 24, 3), (126, .aload_n 0, 1), (127, .getfield 40, 3), (130, .iload_n 2, 1), (131, .aaload, 1), (132, .aload_n 1, 1), (133, .getfield 40, 3), (136, .iload_n 2, 1), (137, .aaload, 1), (138, .invokevirtual 80, 3), (141, .iinc 2 1, 3), (144, .goto (-32), 3), (147, .return_, 1)]
set_option maxRecDepth 100000 in
theorem dc_X7_copyFrom : px_dc cX7_copyFrom tc_X7_copyFrom = true := by decide +kernel
set_option maxRecDepth 100000 in
theorem mt_X7_copyFrom : pm_mt yX7_copyFrom cX7_copyFrom 3 none := pt_m_ok 976 42 (by decide +kernel)
def tc_X7_isCircuit : px_TC := [(0, .iload_n 1, 1), (1, .ifCond .lt 15, 3), (4, .iload_n 1, 1), (5, .aload_n 0, 1), (6, .getfield 44, 3), (9, .if_icmp .ge 7, 3), (12, .iconst 1, 1), (13, .goto 4, 3), (16, .iconst 0, 1), (17, .ireturn, 1)]
set_option maxRecDepth 100000 in
theorem dc_X7_isCircuit : px_dc cX7_isCircuit tc_X7_isCircuit = true := by decide +kernel
set_option maxRecDepth 100000 in
theorem mt_X7_isCircuit : pm_mt yX7_isCircuit cX7_isCircuit 2 (some (.boolean)) := pt_m_ok 910 42 (by decide +kernel)
def tc_X7_appendNode : px_TC := [(0, .aload_n 0, 1), (1, .getfield 21, 3), (4, .aload_n 0, 1), (5, .getfield 12, 3), (8, .getfield 83, 3), (11, .iload_n 1, 1), (12, .invokevirtual 86, 3), (15, .aload_n 0, 1), (16, .getfield 12, 3), (19, .dup, 1), (20, .getfield 83, 3), (23, .iconst 1, 1), (24, .iadd, 1), (25, .putfield 83, 3), (28, .aload_n 0, 1), (29, .getfield 12, 3), (32, .getfield 83, 3), (35, .iconst 1, 1), (36, .isub, 1), (37, .ireturn, 1)]
set_option maxRecDepth 100000 in
theorem dc_X7_appendNode : px_dc cX7_appendNode tc_X7_appendNode = true := by decide +kernel
set_option maxRecDepth 100000 in
theorem mt_X7_appendNode : pm_mt yX7_appendNode cX7_appendNode 2 (some (.int)) := pt_m_ok 626 42 (by decide +kernel)
def tc_X7_putSetting : px_TC := [(0, .iload_n 1, 1), (1, .ifCond .ne 11, 3), (4, .aload_n 0, 1), (5, .iload_n 2, 1), (6, .putfield 51, 3), (9, .goto 8, 3), (12, .aload_n 0, 1), (13, .iload_n 2, 1), (14, .putfield 54, 3), (17, .return_, 1)]
set_option maxRecDepth 100000 in
theorem dc_X7_putSetting : px_dc cX7_putSetting tc_X7_putSetting = true := by decide +kernel
set_option maxRecDepth 100000 in
theorem mt_X7_putSetting : pm_mt yX7_putSetting cX7_putSetting 3 none := pt_m_ok 717 42 (by decide +kernel)
def tc_X7_putUp : px_TC := [(0, .aload_n 0, 1), (1, .getfield 12, 3), (4, .iload_n 1, 1), (5, .invokevirtual 90, 3), (8, .ifCond .eq 16, 3), (11, .aload_n 0, 1), (12, .getfield 12, 3), (15, .getfield 94, 3), (18, .iload_n 1, 1), (19, .aaload, 1), (20, .iload_n 2, 1), (21, .putfield 98, 3), (24, .iconst 0, 1), (25, .istore_n 3, 1), (26, .iconst 0, 1), (27, .istore 4, 2), (29, .iload 4, 2), (31, .aload_n 0, 1), (32, .getfield 48, 3), (35, .if_icmp .ge 51, 3), (38, .iload_n 2, 1), (39, .ifCond .ne 31, 3), (42, .aload_n 0, 1), (43, .getfield 40, 3), (46, .iload 4, 2), (48, .aaload, 1), (49, .getfield 104, 3), (52, .iload_n 1, 1), (53, .if_icmp .ne 17, 3), (56, .aload_n 0, 1), (57, .aload_n 0, 1), (58, .getfield 40, 3), (61, .iload 4, 2), (63, .aaload, 1), (64, .invokevirtual 107, 3), (67, .goto 13, 3), (70, .aload_n 0, 1), (71, .iload 4, 2), (73, .iload_n 3, 1), (74, .invokevirtual 110, 3), (77, .iinc 3 1, 3), (80, .iinc 4 1, 3), (83, .goto (-54), 3), (86, .aload_n 0, 1), (87, .iload_n 3, 1), (88, .putfield 48, 3), (91, .return_, 1)]
set_option maxRecDepth 100000 in
theorem dc_X7_putUp : px_dc cX7_putUp tc_X7_putUp = true := by decide +kernel
set_option maxRecDepth 100000 in
theorem mt_X7_putUp : pm_mt yX7_putUp cX7_putUp 5 none := pt_m_ok 1077 42 (by decide +kernel)
def tc_X7_keepPacket : px_TC := [(0, .aload_n 0, 1), (1, .getfield 40, 3), (4, .iload_n 1, 1), (5, .aaload, 1), (6, .astore_n 3, 1), (7, .aload_n 0, 1), (8, .getfield 40, 3), (11, .iload_n 1, 1), (12, .aload_n 0, 1), (13, .getfield 40, 3), (16, .iload_n 2, 1), (17, .aaload, 1), (18, .aastore, 1), (19, .aload_n 0, 1), (20, .getfield 40, 3), (23, .iload_n 2, 1), (24, .aload_n 3, 1), (25, .aastore, 1), (26, .return_, 1)]
set_option maxRecDepth 100000 in
theorem dc_X7_keepPacket : px_dc cX7_keepPacket tc_X7_keepPacket = true := by decide +kernel
set_option maxRecDepth 100000 in
theorem mt_X7_keepPacket : pm_mt yX7_keepPacket cX7_keepPacket 4 none := pt_m_ok 1086 42 (by decide +kernel)
def tc_X7_packetsOn : px_TC := [(0, .iconst 0, 1), (1, .istore_n 2, 1), (2, .iconst 0, 1), (3, .istore_n 3, 1), (4, .iload_n 3, 1), (5, .aload_n 0, 1), (6, .getfield 48, 3), (9, .if_icmp .ge 25, 3), (12, .aload_n 0, 1), (13, .getfield 40, 3), (16, .iload_n 3, 1), (17, .aaload, 1), (18, .getfield 104, 3), (21, .iload_n 1, 1), (22, .if_icmp .ne 6, 3), (25, .iinc 2 1, 3), (28, .iinc 3 1, 3), (31, .goto (-27), 3), (34, .iload_n 2, 1), (35, .ireturn, 1)]
set_option maxRecDepth 100000 in
theorem dc_X7_packetsOn : px_dc cX7_packetsOn tc_X7_packetsOn = true := by decide +kernel
set_option maxRecDepth 100000 in
theorem mt_X7_packetsOn : pm_mt yX7_packetsOn cX7_packetsOn 4 (some (.int)) := pt_m_ok 961 42 (by decide +kernel)
def tc_X7_packetsOf : px_TC := [(0, .iconst 0, 1), (1, .istore_n 2, 1), (2, .iconst 0, 1), (3, .istore_n 3, 1), (4, .iload_n 3, 1), (5, .aload_n 0, 1), (6, .getfield 48, 3), (9, .if_icmp .ge 25, 3), (12, .aload_n 0, 1), (13, .getfield 40, 3), (16, .iload_n 3, 1), (17, .aaload, 1), (18, .getfield 113, 3), (21, .iload_n 1, 1), (22, .if_icmp .ne 6, 3), (25, .iinc 2 1, 3), (28, .iinc 3 1, 3), (31, .goto (-27), 3), (34, .iload_n 2, 1), (35, .ireturn, 1)]
set_option maxRecDepth 100000 in
theorem dc_X7_packetsOf : px_dc cX7_packetsOf tc_X7_packetsOf = true := by decide +kernel
set_option maxRecDepth 100000 in
theorem mt_X7_packetsOf : pm_mt yX7_packetsOf cX7_packetsOf 4 (some (.int)) := pt_m_ok 926 42 (by decide +kernel)
def tc_X7_movedCircuits : px_TC := [(0, .iconst 0, 1), (1, .istore_n 1, 1), (2, .iconst 0, 1), (3, .istore_n 2, 1), (4, .iload_n 2, 1), (5, .aload_n 0, 1), (6, .getfield 44, 3), (9, .if_icmp .ge 24, 3), (12, .aload_n 0, 1), (13, .getfield 34, 3), (16, .iload_n 2, 1), (17, .aaload, 1), (18, .getfield 116, 3), (21, .ifCond .eq 6, 3), (24, .iinc 1 1, 3), (27, .iinc 2 1, 3), (30, .goto (-26), 3), (33, .iload_n 1, 1), (34, .ireturn, 1)]
set_option maxRecDepth 100000 in
theorem dc_X7_movedCircuits : px_dc cX7_movedCircuits tc_X7_movedCircuits = true := by decide +kernel
set_option maxRecDepth 100000 in
theorem mt_X7_movedCircuits : pm_mt yX7_movedCircuits cX7_movedCircuits 3 (some (.int)) := pt_m_ok 661 42 (by decide +kernel)
def tc_X7_isOfNewWay : px_TC := [(0, .aload_n 0, 1), (1, .getfield 21, 3), (4, .iload_n 1, 1), (5, .invokevirtual 119, 3), (8, .istore_n 2, 1), (9, .aload_n 0, 1), (10, .iload_n 2, 1), (11, .invokevirtual 123, 3), (14, .ifCond .eq 24, 3), (17, .aload_n 0, 1), (18, .getfield 34, 3), (21, .iload_n 2, 1), (22, .aaload, 1), (23, .getfield 126, 3), (26, .iload_n 1, 1), (27, .invokevirtual 130, 3), (30, .iconst (-1), 1), (31, .if_icmp .eq 7, 3), (34, .iconst 1, 1), (35, .goto 4, 3), (38, .iconst 0, 1), (39, .ireturn, 1)]
set_option maxRecDepth 100000 in
theorem dc_X7_isOfNewWay : px_dc cX7_isOfNewWay tc_X7_isOfNewWay = true := by decide +kernel
set_option maxRecDepth 100000 in
theorem mt_X7_isOfNewWay : pm_mt yX7_isOfNewWay cX7_isOfNewWay 3 (some (.boolean)) := pt_m_ok 1219 42 (by decide +kernel)
def tc_X7_reservedOn : px_TC := [(0, .iconst 0, 1), (1, .istore_n 3, 1), (2, .iconst 0, 1), (3, .istore 4, 2), (5, .iload 4, 2), (7, .aload_n 0, 1), (8, .getfield 44, 3), (11, .if_icmp .ge 56, 3), (14, .aload_n 0, 1), (15, .getfield 34, 3), (18, .iload 4, 2), (20, .aaload, 1), (21, .astore 5, 2), (23, .iload 4, 2), (25, .iload_n 2, 1), (26, .if_icmp .eq 35, 3), (29, .aload 5, 2), (31, .getfield 135, 3), (34, .iload_n 1, 1), (35, .invokevirtual 138, 3), (38, .ifCond .ne 15, 3), (41, .aload 5, 2), (43, .getfield 126, 3), (46, .iload_n 1, 1), (47, .invokevirtual 138, 3), (50, .ifCond .eq 11, 3), (53, .iload_n 3, 1), (54, .aload 5, 2), (56, .getfield 141, 3), (59, .iadd, 1), (60, .istore_n 3, 1), (61, .iinc 4 1, 3), (64, .goto (-59), 3), (67, .iload_n 3, 1), (68, .ireturn, 1)]
set_option maxRecDepth 100000 in
theorem dc_X7_reservedOn : px_dc cX7_reservedOn tc_X7_reservedOn = true := by decide +kernel
set_option maxRecDepth 100000 in
theorem mt_X7_reservedOn : pm_mt yX7_reservedOn cX7_reservedOn 6 (some (.int)) := pt_m_ok 749 42 (by decide +kernel)
def tc_X7_reservedOnAll : px_TC := [(0, .iconst 0, 1), (1, .istore_n 1, 1), (2, .iconst 0, 1), (3, .istore_n 2, 1), (4, .iload_n 2, 1), (5, .aload_n 0, 1), (6, .getfield 12, 3), (9, .getfield 144, 3), (12, .if_icmp .ge 18, 3), (15, .iload_n 1, 1), (16, .aload_n 0, 1), (17, .iload_n 2, 1), (18, .iconst (-1), 1), (19, .invokevirtual 147, 3), (22, .iadd, 1), (23, .istore_n 1, 1), (24, .iinc 2 1, 3), (27, .goto (-23), 3), (30, .iload_n 1, 1), (31, .ireturn, 1)]
set_option maxRecDepth 100000 in
theorem dc_X7_reservedOnAll : px_dc cX7_reservedOnAll tc_X7_reservedOnAll = true := by decide +kernel
set_option maxRecDepth 100000 in
theorem mt_X7_reservedOnAll : pm_mt yX7_reservedOnAll cX7_reservedOnAll 3 (some (.int)) := pt_m_ok 1275 42 (by decide +kernel)
def tc_X7_hasRoom : px_TC := [(0, .aload_n 0, 1), (1, .getfield 12, 3), (4, .iload_n 1, 1), (5, .invokevirtual 151, 3), (8, .ifCond .eq 30, 3), (11, .aload_n 0, 1), (12, .iload_n 1, 1), (13, .iload_n 3, 1), (14, .invokevirtual 147, 3), (17, .iload_n 2, 1), (18, .iadd, 1), (19, .aload_n 0, 1), (20, .getfield 12, 3), (23, .getfield 94, 3), (26, .iload_n 1, 1), (27, .aaload, 1), (28, .getfield 153, 3), (31, .if_icmp .gt 7, 3), (34, .iconst 1, 1), (35, .goto 4, 3), (38, .iconst 0, 1), (39, .ireturn, 1)]
set_option maxRecDepth 100000 in
theorem dc_X7_hasRoom : px_dc cX7_hasRoom tc_X7_hasRoom = true := by decide +kernel
set_option maxRecDepth 100000 in
theorem mt_X7_hasRoom : pm_mt yX7_hasRoom cX7_hasRoom 4 (some (.boolean)) := pt_m_ok 737 42 (by decide +kernel)
def tc_X7_hasRoomAlong : px_TC := [(0, .iconst 1, 1), (1, .istore 4, 2), (3, .iload 4, 2), (5, .aload_n 1, 1), (6, .getfield 156, 3), (9, .if_icmp .ge 26, 3), (12, .aload_n 0, 1), (13, .aload_n 1, 1), (14, .iload 4, 2), (16, .invokevirtual 159, 3), (19, .iload_n 2, 1), (20, .iload_n 3, 1), (21, .invokevirtual 162, 3), (24, .ifCond .ne 5, 3), (27, .iconst 0, 1), (28, .ireturn, 1), (29, .iinc 4 1, 3), (32, .goto (-29), 3), (35, .iconst 1, 1), (36, .ireturn, 1)]
set_option maxRecDepth 100000 in
theorem dc_X7_hasRoomAlong : px_dc cX7_hasRoomAlong tc_X7_hasRoomAlong = true := by decide +kernel
set_option maxRecDepth 100000 in
theorem mt_X7_hasRoomAlong : pm_mt yX7_hasRoomAlong cX7_hasRoomAlong 5 (some (.boolean)) := pt_m_ok 830 42 (by decide +kernel)
def tc_X7_openAlong : px_TC := [(0, .aload_n 0, 1), (1, .getfield 44, 3), (4, .bipush 8, 2), (6, .if_icmp .lt 5, 3), (9, .iconst 1, 1), (10, .ireturn, 1), (11, .aload_n 1, 1), (12, .getfield 156, 3), (15, .iconst 2, 1), (16, .if_icmp .ge 5, 3), (19, .iconst 3, 1), (20, .ireturn, 1), (21, .aload_n 0, 1), (22, .aload_n 1, 1), (23, .iload_n 2, 1), (24, .iconst (-1), 1), (25, .invokevirtual 166, 3), (28, .ifCond .ne 5, 3), (31, .iconst 5, 1), (32, .ireturn, 1), (33, .aload_n 0, 1), (34, .getfield 34, 3), (37, .aload_n 0, 1), (38, .getfield 44, 3), (41, .aaload, 1), (42, .astore 4, 2), (44, .aload 4, 2), (46, .iload_n 2, 1), (47, .iload_n 3, 1), (48, .invokevirtual 170, 3), (51, .aload 4, 2), (53, .getfield 135, 3), (56, .aload_n 1, 1), (57, .invokevirtual 173, 3), (60, .aload_n 0, 1), (61, .aload 4, 2), (63, .getfield 135, 3), (66, .aload_n 0, 1), (67, .getfield 44, 3), (70, .invokevirtual 177, 3), (73, .ifCond .ne 6, 3), (76, .bipush 6, 2), (78, .ireturn, 1), (79, .aload_n 0, 1), (80, .aload 4, 2), (82, .getfield 135, 3), (85, .invokevirtual 181, 3), (88, .aload_n 0, 1), (89, .dup, 1), (90, .getfield 44, 3), (93, .iconst 1, 1), (94, .iadd, 1), (95, .putfield 44, 3), (98, .iconst 0, 1), (99, .ireturn, 1)]
set_option maxRecDepth 100000 in
theorem dc_X7_openAlong : px_dc cX7_openAlong tc_X7_openAlong = true := by decide +kernel
set_option maxRecDepth 100000 in
theorem mt_X7_openAlong : pm_mt yX7_openAlong cX7_openAlong 5 (some (.int)) := pt_m_ok 826 42 (by decide +kernel)
def tc_X7_makeEntries : px_TC := [(0, .iconst 1, 1), (1, .istore_n 2, 1), (2, .iload_n 2, 1), (3, .aload_n 1, 1), (4, .getfield 156, 3), (7, .if_icmp .ge 21, 3), (10, .aload_n 0, 1), (11, .getfield 21, 3), (14, .aload_n 1, 1), (15, .iload_n 2, 1), (16, .invokevirtual 184, 3), (19, .invokevirtual 187, 3), (22, .iinc 2 1, 3), (25, .goto (-23), 3), (28, .return_, 1)]
set_option maxRecDepth 100000 in
theorem dc_X7_makeEntries : px_dc cX7_makeEntries tc_X7_makeEntries = true := by decide +kernel
set_option maxRecDepth 100000 in
theorem mt_X7_makeEntries : pm_mt yX7_makeEntries cX7_makeEntries 3 none := pt_m_ok 890 42 (by decide +kernel)
def tc_X7_takeLabels : px_TC := [(0, .iconst 1, 1), (1, .istore_n 3, 1), (2, .iload_n 3, 1), (3, .aload_n 1, 1), (4, .getfield 156, 3), (7, .if_icmp .ge 52, 3), (10, .aload_n 0, 1), (11, .getfield 21, 3), (14, .aload_n 0, 1), (15, .getfield 12, 3), (18, .aload_n 1, 1), (19, .iload_n 3, 1), (20, .invokevirtual 191, 3), (23, .iload_n 2, 1), (24, .aload_n 0, 1), (25, .getfield 51, 3), (28, .invokevirtual 194, 3), (31, .istore 4, 2), (33, .iload 4, 2), (35, .iconst (-1), 1), (36, .if_icmp .ne 10, 3), (39, .aload_n 0, 1), (40, .aload_n 1, 1), (41, .invokevirtual 198, 3), (44, .iconst 0, 1), (45, .ireturn, 1), (46, .aload_n 1, 1), (47, .iload_n 3, 1), (48, .iload 4, 2), (50, .invokevirtual 201, 3), (53, .iinc 3 1, 3), (56, .goto (-54), 3), (59, .iconst 1, 1), (60, .ireturn, 1)]
set_option maxRecDepth 100000 in
theorem dc_X7_takeLabels : px_dc cX7_takeLabels tc_X7_takeLabels = true := by decide +kernel
set_option maxRecDepth 100000 in
theorem mt_X7_takeLabels : pm_mt yX7_takeLabels cX7_takeLabels 5 (some (.boolean)) := pt_m_ok 845 42 (by decide +kernel)
def tc_X7_giveUpLabels : px_TC := [(0, .iconst 1, 1), (1, .istore_n 2, 1), (2, .iload_n 2, 1), (3, .aload_n 1, 1), (4, .getfield 156, 3), (7, .if_icmp .ge 27, 3), (10, .aload_n 0, 1), (11, .getfield 21, 3), (14, .aload_n 1, 1), (15, .iload_n 2, 1), (16, .invokevirtual 184, 3), (19, .invokevirtual 204, 3), (22, .aload_n 1, 1), (23, .iload_n 2, 1), (24, .iconst (-1), 1), (25, .invokevirtual 201, 3), (28, .iinc 2 1, 3), (31, .goto (-29), 3), (34, .return_, 1)]
set_option maxRecDepth 100000 in
theorem dc_X7_giveUpLabels : px_dc cX7_giveUpLabels tc_X7_giveUpLabels = true := by decide +kernel
set_option maxRecDepth 100000 in
theorem mt_X7_giveUpLabels : pm_mt yX7_giveUpLabels cX7_giveUpLabels 3 none := pt_m_ok 871 42 (by decide +kernel)
def tc_X7_closeCircuit : px_TC := [(0, .aload_n 0, 1), (1, .iload_n 1, 1), (2, .invokevirtual 123, 3), (5, .ifCond .ne 5, 3), (8, .iconst 3, 1), (9, .ireturn, 1), (10, .aload_n 0, 1), (11, .getfield 34, 3), (14, .iload_n 1, 1), (15, .aaload, 1), (16, .astore_n 2, 1), (17, .aload_n 2, 1), (18, .getfield 116, 3), (21, .ifCond .eq 5, 3), (24, .iconst 2, 1), (25, .ireturn, 1), (26, .aload_n 2, 1), (27, .getfield 207, 3), (30, .ifCond .gt 11, 3), (33, .aload_n 0, 1), (34, .iload_n 1, 1), (35, .invokevirtual 210, 3), (38, .ifCond .le 6, 3), (41, .bipush 8, 2), (43, .ireturn, 1), (44, .aload_n 0, 1), (45, .aload_n 2, 1), (46, .getfield 135, 3), (49, .invokevirtual 198, 3), (52, .aload_n 0, 1), (53, .getfield 21, 3), (56, .iload_n 1, 1), (57, .invokevirtual 213, 3), (60, .iconst 0, 1), (61, .istore_n 3, 1), (62, .iload_n 3, 1), (63, .aload_n 0, 1), (64, .getfield 48, 3), (67, .if_icmp .ge 37, 3), (70, .aload_n 0, 1), (71, .getfield 40, 3), (74, .iload_n 3, 1), (75, .aaload, 1), (76, .getfield 113, 3), (79, .iload_n 1, 1), (80, .if_icmp .le 18, 3), (83, .aload_n 0, 1), (84, .getfield 40, 3), (87, .iload_n 3, 1), (88, .aaload, 1), (89, .dup, 1), (90, .getfield 113, 3), (93, .iconst 1, 1), (94, .isub, 1), (95, .putfield 113, 3), (98, .iinc 3 1, 3), (101, .goto (-39), 3), (104, .aload_n 0, 1), (105, .dup, 1), (106, .getfield 44, 3), (109, .iconst 1, 1), (110, .isub, 1), (111, .putfield 44, 3), (114, .iload_n 1, 1), (115, .istore_n 3, 1), (116, .iload_n 3, 1), (117, .aload_n 0, 1), (118, .getfield 44, 3), (121, .if_icmp .ge 23, 3), (124, .aload_n 0, 1), (125, .getfield 34, 3), (128, .iload_n 3, 1), (129, .aload_n 0, 1), (130, .getfield 34, 3), (133, .iload_n 3, 1), (134, .iconst 1, 1), (135, .iadd, 1), (136, .aaload, 1), (137, .aastore, 1), (138, .iinc 3 1, 3), (141, .goto (-25), 3), (144, .aload_n 0, 1), (145, .getfield 34, 3), (148, .aload_n 0, 1), (149, .getfield 44, 3), (152, .aload_n 2, 1), (153, .aastore, 1), (154, .iconst 0, 1), (155, .ireturn, 1)]
set_option maxRecDepth 100000 in
theorem dc_X7_closeCircuit : px_dc cX7_closeCircuit tc_X7_closeCircuit = true := by decide +kernel
set_option maxRecDepth 100000 in
theorem mt_X7_closeCircuit : pm_mt yX7_closeCircuit cX7_closeCircuit 4 (some (.int)) := pt_m_ok 1060 42 (by decide +kernel)
def tc_X7_moveAlong : px_TC := [(0, .aload_n 0, 1), (1, .iload_n 1, 1), (2, .invokevirtual 123, 3), (5, .ifCond .ne 5, 3), (8, .iconst 3, 1), (9, .ireturn, 1), (10, .aload_n 0, 1), (11, .getfield 34, 3), (14, .iload_n 1, 1), (15, .aaload, 1), (16, .astore_n 3, 1), (17, .aload_n 3, 1), (18, .getfield 116, 3), (21, .ifCond .eq 5, 3), (24, .iconst 2, 1), (25, .ireturn, 1), (26, .aload_n 3, 1), (27, .aload_n 2, 1), (28, .invokevirtual 216, 3), (31, .ifCond .ne 5, 3), (34, .iconst 3, 1), (35, .ireturn, 1), (36, .aload_n 3, 1), (37, .getfield 135, 3), (40, .aload_n 2, 1), (41, .invokevirtual 220, 3), (44, .ifCond .eq 5, 3), (47, .iconst 4, 1), (48, .ireturn, 1), (49, .aload_n 0, 1), (50, .aload_n 2, 1), (51, .aload_n 3, 1), (52, .getfield 141, 3), (55, .iload_n 1, 1), (56, .invokevirtual 166, 3), (59, .ifCond .ne 5, 3), (62, .iconst 5, 1), (63, .ireturn, 1), (64, .aload_n 3, 1), (65, .getfield 126, 3), (68, .aload_n 2, 1), (69, .invokevirtual 173, 3), (72, .aload_n 0, 1), (73, .aload_n 3, 1), (74, .getfield 126, 3), (77, .iload_n 1, 1), (78, .invokevirtual 177, 3), (81, .ifCond .ne 13, 3), (84, .aload_n 3, 1), (85, .getfield 126, 3), (88, .invokevirtual 223, 3), (91, .bipush 6, 2), (93, .ireturn, 1), (94, .aload_n 3, 1), (95, .iconst 1, 1), (96, .putfield 116, 3), (99, .aload_n 3, 1), (100, .aload_n 3, 1), (101, .getfield 126, 3), (104, .getfield 156, 3), (107, .iconst 1, 1), (108, .isub, 1), (109, .putfield 224, 3), (112, .iconst 0, 1), (113, .ireturn, 1)]
set_option maxRecDepth 100000 in
theorem dc_X7_moveAlong : px_dc cX7_moveAlong tc_X7_moveAlong = true := by decide +kernel
set_option maxRecDepth 100000 in
theorem mt_X7_moveAlong : pm_mt yX7_moveAlong cX7_moveAlong 4 (some (.int)) := pt_m_ok 1017 42 (by decide +kernel)
def tc_X7_abortMove : px_TC := [(0, .aload_n 0, 1), (1, .iload_n 1, 1), (2, .invokevirtual 123, 3), (5, .ifCond .eq 16, 3), (8, .aload_n 0, 1), (9, .getfield 34, 3), (12, .iload_n 1, 1), (13, .aaload, 1), (14, .getfield 116, 3), (17, .iconst 1, 1), (18, .if_icmp .eq 6, 3), (21, .bipush 7, 2), (23, .ireturn, 1), (24, .aload_n 0, 1), (25, .getfield 34, 3), (28, .iload_n 1, 1), (29, .aaload, 1), (30, .astore_n 2, 1), (31, .aload_n 0, 1), (32, .aload_n 2, 1), (33, .getfield 126, 3), (36, .invokevirtual 198, 3), (39, .aload_n 2, 1), (40, .getfield 126, 3), (43, .invokevirtual 223, 3), (46, .aload_n 2, 1), (47, .iconst 0, 1), (48, .putfield 116, 3), (51, .aload_n 2, 1), (52, .iconst 0, 1), (53, .putfield 224, 3), (56, .aload_n 0, 1), (57, .getfield 28, 3), (60, .dup, 1), (61, .getfield 227, 3), (64, .iconst 1, 1), (65, .iadd, 1), (66, .putfield 227, 3), (69, .iconst 0, 1), (70, .ireturn, 1)]
set_option maxRecDepth 100000 in
theorem dc_X7_abortMove : px_dc cX7_abortMove tc_X7_abortMove = true := by decide +kernel
set_option maxRecDepth 100000 in
theorem mt_X7_abortMove : pm_mt yX7_abortMove cX7_abortMove 3 (some (.int)) := pt_m_ok 941 42 (by decide +kernel)
def tc_X7_addToBacklog : px_TC := [(0, .aload_n 1, 1), (1, .getfield 207, 3), (4, .iload_n 2, 1), (5, .iadd, 1), (6, .istore_n 3, 1), (7, .aload_n 1, 1), (8, .iload_n 3, 1), (9, .bipush 9, 2), (11, .invokestatic 230, 3), (14, .putfield 207, 3), (17, .aload_n 0, 1), (18, .getfield 28, 3), (21, .dup, 1), (22, .getfield 235, 3), (25, .iload_n 3, 1), (26, .aload_n 1, 1), (27, .getfield 207, 3), (30, .isub, 1), (31, .iadd, 1), (32, .putfield 235, 3), (35, .return_, 1)]
set_option maxRecDepth 100000 in
theorem dc_X7_addToBacklog : px_dc cX7_addToBacklog tc_X7_addToBacklog = true := by decide +kernel
set_option maxRecDepth 100000 in
theorem mt_X7_addToBacklog : pm_mt yX7_addToBacklog cX7_addToBacklog 4 none := pt_m_ok 1046 42 (by decide +kernel)
def tc_X7_ticksUntilMoved : px_TC := [(0, .aload_n 1, 1), (1, .getfield 135, 3), (4, .invokevirtual 238, 3), (7, .istore_n 2, 1), (8, .aload_n 1, 1), (9, .getfield 116, 3), (12, .tableswitch 58 1 3 #[28, 49, 56], 28), (40, .aload_n 1, 1), (41, .getfield 224, 3), (44, .iconst 1, 1), (45, .iadd, 1), (46, .aload_n 0, 1), (47, .getfield 12, 3), (50, .aload_n 1, 1), (51, .getfield 135, 3), (54, .invokevirtual 242, 3), (57, .iadd, 1), (58, .iload_n 2, 1), (59, .iadd, 1), (60, .ireturn, 1), (61, .aload_n 1, 1), (62, .getfield 246, 3), (65, .iload_n 2, 1), (66, .iadd, 1), (67, .ireturn, 1), (68, .iload_n 2, 1), (69, .ireturn, 1), (70, .iconst 0, 1), (71, .ireturn, 1)]
set_option maxRecDepth 100000 in
theorem dc_X7_ticksUntilMoved : px_dc cX7_ticksUntilMoved tc_X7_ticksUntilMoved = true := by decide +kernel
set_option maxRecDepth 100000 in
theorem mt_X7_ticksUntilMoved : pm_mt yX7_ticksUntilMoved cX7_ticksUntilMoved 3 (some (.int)) := pt_m_ok 1263 42 (by decide +kernel)
def tc_X7_tick : px_TC := [(0, .aload_n 0, 1), (1, .invokevirtual 249, 3), (4, .iconst 0, 1), (5, .istore_n 1, 1), (6, .iload_n 1, 1), (7, .aload_n 0, 1), (8, .getfield 44, 3), (11, .if_icmp .ge 19, 3), (14, .aload_n 0, 1), (15, .aload_n 0, 1), (16, .getfield 34, 3), (19, .iload_n 1, 1), (20, .aaload, 1), (21, .invokevirtual 252, 3), (24, .iinc 1 1, 3), (27, .goto (-21), 3), (30, .iconst 0, 1), (31, .istore_n 1, 1), (32, .iload_n 1, 1), (33, .aload_n 0, 1), (34, .getfield 44, 3), (37, .if_icmp .ge 14, 3), (40, .aload_n 0, 1), (41, .iload_n 1, 1), (42, .invokevirtual 255, 3), (45, .iinc 1 1, 3), (48, .goto (-16), 3), (51, .aload_n 0, 1), (52, .dup, 1), (53, .getfield 57, 3), (56, .iconst 1, 1), (57, .iadd, 1), (58, .putfield 57, 3), (61, .return_, 1)]
set_option maxRecDepth 100000 in
theorem dc_X7_tick : px_dc cX7_tick tc_X7_tick = true := by decide +kernel
set_option maxRecDepth 100000 in
theorem mt_X7_tick : pm_mt yX7_tick cX7_tick 2 none := pt_m_ok 1105 42 (by decide +kernel)
def tc_X7_movePackets : px_TC := [(0, .iconst 0, 1), (1, .istore_n 1, 1), (2, .iconst 0, 1), (3, .istore_n 2, 1), (4, .iload_n 2, 1), (5, .aload_n 0, 1), (6, .getfield 48, 3), (9, .if_icmp .ge 50, 3), (12, .aload_n 0, 1), (13, .getfield 40, 3), (16, .iload_n 2, 1), (17, .aaload, 1), (18, .astore_n 3, 1), (19, .aload_n 3, 1), (20, .dup, 1), (21, .getfield 258, 3), (24, .iconst 1, 1), (25, .isub, 1), (26, .putfield 258, 3), (29, .aload_n 3, 1), (30, .getfield 258, 3), (33, .ifCond .gt 11, 3), (36, .aload_n 0, 1), (37, .aload_n 3, 1), (38, .invokevirtual 261, 3), (41, .ifCond .eq 12, 3), (44, .aload_n 0, 1), (45, .iload_n 2, 1), (46, .iload_n 1, 1), (47, .invokevirtual 110, 3), (50, .iinc 1 1, 3), (53, .iinc 2 1, 3), (56, .goto (-52), 3), (59, .aload_n 0, 1), (60, .iload_n 1, 1), (61, .putfield 48, 3), (64, .return_, 1)]
set_option maxRecDepth 100000 in
theorem dc_X7_movePackets : px_dc cX7_movePackets tc_X7_movePackets = true := by decide +kernel
set_option maxRecDepth 100000 in
theorem mt_X7_movePackets : pm_mt yX7_movePackets cX7_movePackets 4 none := pt_m_ok 1109 42 (by decide +kernel)
def tc_X7_goesOn : px_TC := [(0, .aload_n 0, 1), (1, .getfield 21, 3), (4, .aload_n 1, 1), (5, .getfield 265, 3), (8, .invokevirtual 119, 3), (11, .istore_n 2, 1), (12, .aload_n 0, 1), (13, .iload_n 2, 1), (14, .invokevirtual 123, 3), (17, .ifCond .eq 21, 3), (20, .aload_n 0, 1), (21, .getfield 21, 3), (24, .aload_n 1, 1), (25, .getfield 265, 3), (28, .aload_n 1, 1), (29, .getfield 268, 3), (32, .invokevirtual 271, 3), (35, .ifCond .ne 10, 3), (38, .aload_n 0, 1), (39, .aload_n 1, 1), (40, .invokevirtual 107, 3), (43, .iconst 0, 1), (44, .ireturn, 1), (45, .aload_n 0, 1), (46, .getfield 34, 3), (49, .iload_n 2, 1), (50, .aaload, 1), (51, .aload_n 1, 1), (52, .getfield 265, 3), (55, .invokevirtual 275, 3), (58, .astore_n 3, 1), (59, .aload_n 3, 1), (60, .aload_n 1, 1), (61, .getfield 265, 3), (64, .invokevirtual 130, 3), (67, .iconst 1, 1), (68, .iadd, 1), (69, .istore 4, 2), (71, .iload 4, 2), (73, .aload_n 3, 1), (74, .getfield 156, 3), (77, .if_icmp .lt 10, 3), (80, .aload_n 0, 1), (81, .aload_n 1, 1), (82, .invokevirtual 279, 3), (85, .iconst 0, 1), (86, .ireturn, 1), (87, .aload_n 1, 1), (88, .aload_n 3, 1), (89, .iload 4, 2), (91, .aload_n 0, 1), (92, .getfield 12, 3), (95, .invokevirtual 282, 3), (98, .aload_n 0, 1), (99, .aload_n 1, 1), (100, .invokevirtual 286, 3), (103, .ireturn, 1)]
set_option maxRecDepth 100000 in
theorem dc_X7_goesOn : px_dc cX7_goesOn tc_X7_goesOn = true := by decide +kernel
set_option maxRecDepth 100000 in
theorem mt_X7_goesOn : pm_mt yX7_goesOn cX7_goesOn 5 (some (.boolean)) := pt_m_ok 1113 42 (by decide +kernel)
def tc_X7_isOnUpLink : px_TC := [(0, .aload_n 0, 1), (1, .getfield 12, 3), (4, .aload_n 1, 1), (5, .getfield 104, 3), (8, .invokevirtual 151, 3), (11, .ifCond .eq 5, 3), (14, .iconst 1, 1), (15, .ireturn, 1), (16, .aload_n 0, 1), (17, .aload_n 1, 1), (18, .invokevirtual 107, 3), (21, .iconst 0, 1), (22, .ireturn, 1)]
set_option maxRecDepth 100000 in
theorem dc_X7_isOnUpLink : px_dc cX7_isOnUpLink tc_X7_isOnUpLink = true := by decide +kernel
set_option maxRecDepth 100000 in
theorem mt_X7_isOnUpLink : pm_mt yX7_isOnUpLink cX7_isOnUpLink 2 (some (.boolean)) := pt_m_ok 1146 42 (by decide +kernel)
def tc_X7_lose : px_TC := [(0, .aload_n 0, 1), (1, .getfield 28, 3), (4, .dup, 1), (5, .getfield 289, 3), (8, .iconst 1, 1), (9, .iadd, 1), (10, .putfield 289, 3), (13, .aload_n 0, 1), (14, .aload_n 1, 1), (15, .getfield 113, 3), (18, .invokevirtual 123, 3), (21, .ifCond .eq 21, 3), (24, .aload_n 0, 1), (25, .getfield 34, 3), (28, .aload_n 1, 1), (29, .getfield 113, 3), (32, .aaload, 1), (33, .dup, 1), (34, .getfield 292, 3), (37, .iconst 1, 1), (38, .iadd, 1), (39, .putfield 292, 3), (42, .return_, 1)]
set_option maxRecDepth 100000 in
theorem dc_X7_lose : px_dc cX7_lose tc_X7_lose = true := by decide +kernel
set_option maxRecDepth 100000 in
theorem mt_X7_lose : pm_mt yX7_lose cX7_lose 2 none := pt_m_ok 1082 42 (by decide +kernel)
def tc_X7_deliver : px_TC := [(0, .aload_n 0, 1), (1, .getfield 28, 3), (4, .dup, 1), (5, .getfield 293, 3), (8, .iconst 1, 1), (9, .iadd, 1), (10, .putfield 293, 3), (13, .aload_n 0, 1), (14, .aload_n 1, 1), (15, .getfield 113, 3), (18, .invokevirtual 123, 3), (21, .ifCond .ne 4, 3), (24, .return_, 1), (25, .aload_n 0, 1), (26, .getfield 34, 3), (29, .aload_n 1, 1), (30, .getfield 113, 3), (33, .aaload, 1), (34, .astore_n 2, 1), (35, .aload_n 2, 1), (36, .dup, 1), (37, .getfield 296, 3), (40, .iconst 1, 1), (41, .iadd, 1), (42, .putfield 296, 3), (45, .aload_n 2, 1), (46, .dup, 1), (47, .getfield 297, 3), (50, .aload_n 0, 1), (51, .getfield 57, 3), (54, .iconst 1, 1), (55, .iadd, 1), (56, .aload_n 1, 1), (57, .getfield 300, 3), (60, .isub, 1), (61, .iadd, 1), (62, .putfield 297, 3), (65, .aload_n 1, 1), (66, .getfield 303, 3), (69, .aload_n 2, 1), (70, .getfield 306, 3), (73, .if_icmp .ge 29, 3), (76, .aload_n 2, 1), (77, .dup, 1), (78, .getfield 309, 3), (81, .iconst 1, 1), (82, .iadd, 1), (83, .putfield 309, 3), (86, .aload_n 0, 1), (87, .getfield 28, 3), (90, .dup, 1), (91, .getfield 312, 3), (94, .iconst 1, 1), (95, .iadd, 1), (96, .putfield 312, 3), (99, .goto 11, 3), (102, .aload_n 2, 1), (103, .aload_n 1, 1), (104, .getfield 303, 3), (107, .putfield 306, 3), (110, .return_, 1)]
set_option maxRecDepth 100000 in
theorem dc_X7_deliver : px_dc cX7_deliver tc_X7_deliver = true := by decide +kernel
set_option maxRecDepth 100000 in
theorem mt_X7_deliver : pm_mt yX7_deliver cX7_deliver 3 none := pt_m_ok 1134 42 (by decide +kernel)
def tc_X7_moveCircuit : px_TC := [(0, .aload_n 1, 1), (1, .getfield 116, 3), (4, .tableswitch 69 1 3 #[28, 36, 61], 28), (32, .aload_n 0, 1), (33, .aload_n 1, 1), (34, .invokevirtual 313, 3), (37, .goto 36, 3), (40, .aload_n 1, 1), (41, .dup, 1), (42, .getfield 246, 3), (45, .iconst 1, 1), (46, .isub, 1), (47, .putfield 246, 3), (50, .aload_n 1, 1), (51, .getfield 246, 3), (54, .ifCond .gt 19, 3), (57, .aload_n 1, 1), (58, .iconst 3, 1), (59, .putfield 116, 3), (62, .goto 11, 3), (65, .aload_n 0, 1), (66, .aload_n 1, 1), (67, .invokevirtual 316, 3), (70, .goto 3, 3), (73, .return_, 1)]
set_option maxRecDepth 100000 in
theorem dc_X7_moveCircuit : px_dc cX7_moveCircuit tc_X7_moveCircuit = true := by decide +kernel
set_option maxRecDepth 100000 in
theorem mt_X7_moveCircuit : pm_mt yX7_moveCircuit cX7_moveCircuit 2 none := pt_m_ok 1150 42 (by decide +kernel)
def tc_X7_build : px_TC := [(0, .aload_n 1, 1), (1, .getfield 224, 3), (4, .ifCond .le 32, 3), (7, .aload_n 0, 1), (8, .getfield 21, 3), (11, .aload_n 1, 1), (12, .getfield 126, 3), (15, .aload_n 1, 1), (16, .getfield 224, 3), (19, .invokevirtual 184, 3), (22, .invokevirtual 187, 3), (25, .aload_n 1, 1), (26, .dup, 1), (27, .getfield 224, 3), (30, .iconst 1, 1), (31, .isub, 1), (32, .putfield 224, 3), (35, .return_, 1), (36, .aload_n 1, 1), (37, .iconst 2, 1), (38, .putfield 116, 3), (41, .aload_n 1, 1), (42, .aload_n 0, 1), (43, .getfield 12, 3), (46, .aload_n 1, 1), (47, .getfield 135, 3), (50, .invokevirtual 242, 3), (53, .putfield 246, 3), (56, .aload_n 0, 1), (57, .getfield 54, 3), (60, .iconst 1, 1), (61, .if_icmp .ne 27, 3), (64, .aload_n 1, 1), (65, .iconst 0, 1), (66, .aload_n 1, 1), (67, .getfield 246, 3), (70, .aload_n 0, 1), (71, .getfield 12, 3), (74, .aload_n 1, 1), (75, .getfield 126, 3), (78, .invokevirtual 242, 3), (81, .isub, 1), (82, .invokestatic 319, 3), (85, .putfield 322, 3), (88, .return_, 1)]
set_option maxRecDepth 100000 in
theorem dc_X7_build : px_dc cX7_build tc_X7_build = true := by decide +kernel
set_option maxRecDepth 100000 in
theorem mt_X7_build : pm_mt yX7_build cX7_build 2 none := pt_m_ok 1154 42 (by decide +kernel)
def tc_X7_clearOne : px_TC := [(0, .aload_n 1, 1), (1, .getfield 135, 3), (4, .getfield 156, 3), (7, .aload_n 1, 1), (8, .getfield 135, 3), (11, .invokevirtual 238, 3), (14, .isub, 1), (15, .istore_n 2, 1), (16, .aload_n 0, 1), (17, .getfield 21, 3), (20, .aload_n 1, 1), (21, .getfield 135, 3), (24, .iload_n 2, 1), (25, .invokevirtual 184, 3), (28, .invokevirtual 204, 3), (31, .aload_n 1, 1), (32, .getfield 135, 3), (35, .iload_n 2, 1), (36, .iconst (-1), 1), (37, .invokevirtual 201, 3), (40, .iload_n 2, 1), (41, .aload_n 1, 1), (42, .getfield 135, 3), (45, .getfield 156, 3), (48, .iconst 1, 1), (49, .isub, 1), (50, .if_icmp .lt 20, 3), (53, .aload_n 1, 1), (54, .invokevirtual 325, 3), (57, .aload_n 0, 1), (58, .getfield 28, 3), (61, .dup, 1), (62, .getfield 328, 3), (65, .iconst 1, 1), (66, .iadd, 1), (67, .putfield 328, 3), (70, .return_, 1)]
set_option maxRecDepth 100000 in
theorem dc_X7_clearOne : px_dc cX7_clearOne tc_X7_clearOne = true := by decide +kernel
set_option maxRecDepth 100000 in
theorem mt_X7_clearOne : pm_mt yX7_clearOne cX7_clearOne 3 none := pt_m_ok 1160 42 (by decide +kernel)
def tc_X7_sendFrom : px_TC := [(0, .aload_n 0, 1), (1, .getfield 34, 3), (4, .iload_n 1, 1), (5, .aaload, 1), (6, .astore_n 2, 1), (7, .aload_n 2, 1), (8, .getfield 331, 3), (11, .ifCond .le 23, 3), (14, .aload_n 0, 1), (15, .getfield 57, 3), (18, .iconst 1, 1), (19, .iadd, 1), (20, .aload_n 2, 1), (21, .getfield 331, 3), (24, .irem, 1), (25, .ifCond .ne 9, 3), (28, .aload_n 0, 1), (29, .aload_n 2, 1), (30, .iconst 1, 1), (31, .invokevirtual 334, 3), (34, .aload_n 2, 1), (35, .getfield 322, 3), (38, .ifCond .le 16, 3), (41, .aload_n 2, 1), (42, .dup, 1), (43, .getfield 322, 3), (46, .iconst 1, 1), (47, .isub, 1), (48, .putfield 322, 3), (51, .goto 25, 3), (54, .aload_n 2, 1), (55, .getfield 207, 3), (58, .ifCond .le 18, 3), (61, .aload_n 0, 1), (62, .getfield 48, 3), (65, .bipush 60, 2), (67, .if_icmp .ge 9, 3), (70, .aload_n 0, 1), (71, .aload_n 2, 1), (72, .iload_n 1, 1), (73, .invokevirtual 338, 3), (76, .return_, 1)]
set_option maxRecDepth 100000 in
theorem dc_X7_sendFrom : px_dc cX7_sendFrom tc_X7_sendFrom = true := by decide +kernel
set_option maxRecDepth 100000 in
theorem mt_X7_sendFrom : pm_mt yX7_sendFrom cX7_sendFrom 3 none := pt_m_ok 1172 42 (by decide +kernel)
def tc_X7_sendPacket : px_TC := [(0, .aload_n 0, 1), (1, .getfield 40, 3), (4, .aload_n 0, 1), (5, .getfield 48, 3), (8, .aaload, 1), (9, .astore_n 3, 1), (10, .aload_n 3, 1), (11, .iload_n 2, 1), (12, .putfield 113, 3), (15, .aload_n 3, 1), (16, .aload_n 1, 1), (17, .getfield 341, 3), (20, .putfield 303, 3), (23, .aload_n 3, 1), (24, .aload_n 0, 1), (25, .getfield 57, 3), (28, .iconst 1, 1), (29, .iadd, 1), (30, .putfield 300, 3), (33, .aload_n 3, 1), (34, .aload_n 1, 1), (35, .invokevirtual 344, 3), (38, .iconst 1, 1), (39, .aload_n 0, 1), (40, .getfield 12, 3), (43, .invokevirtual 282, 3), (46, .aload_n 1, 1), (47, .dup, 1), (48, .getfield 207, 3), (51, .iconst 1, 1), (52, .isub, 1), (53, .putfield 207, 3), (56, .aload_n 1, 1), (57, .dup, 1), (58, .getfield 341, 3), (61, .iconst 1, 1), (62, .iadd, 1), (63, .putfield 341, 3), (66, .aload_n 0, 1), (67, .getfield 28, 3), (70, .dup, 1), (71, .getfield 348, 3), (74, .iconst 1, 1), (75, .iadd, 1), (76, .putfield 348, 3), (79, .aload_n 0, 1), (80, .aload_n 3, 1), (81, .invokevirtual 286, 3), (84, .ifCond .eq 13, 3), (87, .aload_n 0, 1), (88, .dup, 1), (89, .getfield 48, 3), (92, .iconst 1, 1), (93, .iadd, 1), (94, .putfield 48, 3), (97, .return_, 1)]
set_option maxRecDepth 100000 in
theorem dc_X7_sendPacket : px_dc cX7_sendPacket tc_X7_sendPacket = true := by decide +kernel
set_option maxRecDepth 100000 in
theorem mt_X7_sendPacket : pm_mt yX7_sendPacket cX7_sendPacket 4 none := pt_m_ok 1177 42 (by decide +kernel)
def fr_X8 : px_FR := [(9, 8, 0, .array .byte, 1), (15, 8, 1, .int, 0), (19, 8, 2, .int, 0), (22, 8, 3, .int, 0), (25, 8, 4, .int, 0), (28, 8, 5, .int, 0)]
def fx_X8 : List ((Nat × Nat × Nat × FieldType × Nat) × Nat) := [((9, 8, 0, .array .byte, 1), 82), ((15, 8, 1, .int, 0), 83), ((19, 8, 2, .int, 0), 84), ((22, 8, 3, .int, 0), 85), ((25, 8, 4, .int, 0), 86), ((28, 8, 5, .int, 0), 87)]
def mr_X8 : px_MR := [(3, 3, 0, objectInit, 0, 0, false)]
def mx_X8 : List ((Nat × Nat × Nat × MethodName × Nat × Nat × Bool) × Nat × Nat × Nat × String) := [((3, 3, 0, objectInit, 0, 0, false), 81, 62, 63, "")]
def cr_X8 : px_CR := []
def cx_X8 : List ((Nat × (Nat ⊕ (Nat × String))) × Nat × Nat × Nat × Nat) := []
def lr_X8 : px_LR := []
def lx_X8 : List ((Nat × (Option Int32 ⊕ Int64)) × Nat × String) := []
set_option maxRecDepth 100000 in
theorem tok_X8 : px_tok RX8 fr_X8 mr_X8 cr_X8 lr_X8 := by
  have h1 : fx_X8.all (pt_fr RX8) = true := by decide +kernel
  have h2 : mx_X8.all (pt_mr RX8) = true := by decide +kernel
  have h3 : cx_X8.all (pt_cr RX8) = true := by decide +kernel
  have h4 : lx_X8.all (pt_lr RX8) = true := by decide +kernel
  exact ⟨pt_fr_ok h1, pt_mr_ok h2, pt_cr_ok h3, pt_lr_ok h4⟩
def tc_X8_init : px_TC := [(0, .aload_n 0, 1), (1, .invokespecial 3, 3), (4, .aload_n 0, 1), (5, .sipush 800, 3), (8, .newarray .byte, 2), (10, .putfield 9, 3), (13, .aload_n 0, 1), (14, .iconst 0, 1), (15, .putfield 15, 3), (18, .aload_n 0, 1), (19, .iconst 0, 1), (20, .putfield 19, 3), (23, .aload_n 0, 1), (24, .iconst 0, 1), (25, .putfield 22, 3), (28, .aload_n 0, 1), (29, .iconst 0, 1), (30, .putfield 25, 3), (33, .aload_n 0, 1), (34, .iconst 0, 1), (35, .putfield 28, 3), (38, .return_, 1)]
set_option maxRecDepth 100000 in
theorem dc_X8_init : px_dc cX8_init tc_X8_init = true := by decide +kernel
set_option maxRecDepth 100000 in
theorem mt_X8_init : pm_mt yX8_init cX8_init 1 none := pt_m_ok 80 39 (by decide +kernel)
def fr_X9 : px_FR := [(7, 9, 0, .int, 0), (13, 9, 1, .int, 0), (16, 9, 2, .int, 0), (19, 9, 3, .int, 0), (22, 9, 4, .int, 0), (25, 9, 5, .int, 0), (28, 9, 6, .int, 0)]
def fx_X9 : List ((Nat × Nat × Nat × FieldType × Nat) × Nat) := [((7, 9, 0, .int, 0), 264), ((13, 9, 1, .int, 0), 267), ((16, 9, 2, .int, 0), 270), ((19, 9, 3, .int, 0), 273), ((22, 9, 4, .int, 0), 276), ((25, 9, 5, .int, 0), 279), ((28, 9, 6, .int, 0), 282)]
def mr_X9 : px_MR := [(1, 3, 0, objectInit, 0, 0, false)]
def mx_X9 : List ((Nat × Nat × Nat × MethodName × Nat × Nat × Bool) × Nat × Nat × Nat × String) := [((1, 3, 0, objectInit, 0, 0, false), 263, 62, 63, "")]
def cr_X9 : px_CR := []
def cx_X9 : List ((Nat × (Nat ⊕ (Nat × String))) × Nat × Nat × Nat × Nat) := []
def lr_X9 : px_LR := []
def lx_X9 : List ((Nat × (Option Int32 ⊕ Int64)) × Nat × String) := []
set_option maxRecDepth 100000 in
theorem tok_X9 : px_tok RX9 fr_X9 mr_X9 cr_X9 lr_X9 := by
  have h1 : fx_X9.all (pt_fr RX9) = true := by decide +kernel
  have h2 : mx_X9.all (pt_mr RX9) = true := by decide +kernel
  have h3 : cx_X9.all (pt_cr RX9) = true := by decide +kernel
  have h4 : lx_X9.all (pt_lr RX9) = true := by decide +kernel
  exact ⟨pt_fr_ok h1, pt_mr_ok h2, pt_cr_ok h3, pt_lr_ok h4⟩
def tc_X9_init : px_TC := [(0, .aload_n 0, 1), (1, .invokespecial 1, 3), (4, .return_, 1)]
set_option maxRecDepth 100000 in
theorem dc_X9_init : px_dc cX9_init tc_X9_init = true := by decide +kernel
set_option maxRecDepth 100000 in
theorem mt_X9_init : pm_mt yX9_init cX9_init 1 none := pt_m_ok 262 46 (by decide +kernel)
def tc_X9_copyFrom : px_TC := [(0, .aload_n 0, 1), (1, .aload_n 1, 1), (2, .getfield 7, 3), (5, .putfield 7, 3), (8, .aload_n 0, 1), (9, .aload_n 1, 1), (10, .getfield 13, 3), (13, .putfield 13, 3), (16, .aload_n 0, 1), (17, .aload_n 1, 1), (18, .getfield 16, 3), (21, .putfield 16, 3), (24, .aload_n 0, 1), (25, .aload_n 1, 1), (26, .getfield 19, 3), (29, .putfield 19, 3), (32, .aload_n 0, 1), (33, .aload_n 1, 1), (34, .getfield 22, 3), (37, .putfield 22, 3), (40, .aload_n 0, 1), (41, .aload_n 1, 1), (42, .getfield 25, 3), (45, .putfield 25, 3), (48, .aload_n 0, 1), (49, .aload_n 1, 1), (50, .getfield 28, 3), (53, .putfield 28, 3), (56, .return_, 1)]
set_option maxRecDepth 100000 in
theorem dc_X9_copyFrom : px_dc cX9_copyFrom tc_X9_copyFrom = true := by decide +kernel
set_option maxRecDepth 100000 in
theorem mt_X9_copyFrom : pm_mt yX9_copyFrom cX9_copyFrom 2 none := pt_m_ok 996 46 (by decide +kernel)
def fr_X10 : px_FR := [(9, 10, 1, .array .int, 1), (15, 10, 2, .array .int, 1), (18, 10, 3, .array .int, 1), (21, 10, 0, .int, 0)]
def fx_X10 : List ((Nat × Nat × Nat × FieldType × Nat) × Nat) := [((9, 10, 1, .array .int, 1), 130), ((15, 10, 2, .array .int, 1), 131), ((18, 10, 3, .array .int, 1), 132), ((21, 10, 0, .int, 0), 124)]
def mr_X10 : px_MR := [(3, 3, 0, objectInit, 0, 0, false), (25, 1, 11, yX11_copyNumbers, 2, 0, false), (29, 0, 10, yX10_nodeAt, 1, 1, false)]
def mx_X10 : List ((Nat × Nat × Nat × MethodName × Nat × Nat × Bool) × Nat × Nat × Nat × String) := [((3, 3, 0, objectInit, 0, 0, false), 123, 62, 63, ""), ((25, 1, 11, yX11_copyNumbers, 2, 0, false), 1005, 982, 0, "CircuitDesk"), ((29, 0, 10, yX10_nodeAt, 1, 1, false), 773, 774, 775, "")]
def cr_X10 : px_CR := []
def cx_X10 : List ((Nat × (Nat ⊕ (Nat × String))) × Nat × Nat × Nat × Nat) := []
def lr_X10 : px_LR := []
def lx_X10 : List ((Nat × (Option Int32 ⊕ Int64)) × Nat × String) := []
set_option maxRecDepth 100000 in
theorem tok_X10 : px_tok RX10 fr_X10 mr_X10 cr_X10 lr_X10 := by
  have h1 : fx_X10.all (pt_fr RX10) = true := by decide +kernel
  have h2 : mx_X10.all (pt_mr RX10) = true := by decide +kernel
  have h3 : cx_X10.all (pt_cr RX10) = true := by decide +kernel
  have h4 : lx_X10.all (pt_lr RX10) = true := by decide +kernel
  exact ⟨pt_fr_ok h1, pt_mr_ok h2, pt_cr_ok h3, pt_lr_ok h4⟩
def tc_X10_init : px_TC := [(0, .aload_n 0, 1), (1, .invokespecial 3, 3), (4, .aload_n 0, 1), (5, .bipush 6, 2), (7, .newarray .int, 2), (9, .putfield 9, 3), (12, .aload_n 0, 1), (13, .bipush 6, 2), (15, .newarray .int, 2), (17, .putfield 15, 3), (20, .aload_n 0, 1), (21, .bipush 6, 2), (23, .newarray .int, 2), (25, .putfield 18, 3), (28, .return_, 1)]
set_option maxRecDepth 100000 in
theorem dc_X10_init : px_dc cX10_init tc_X10_init = true := by decide +kernel
set_option maxRecDepth 100000 in
theorem mt_X10_init : pm_mt yX10_init cX10_init 1 none := pt_m_ok 122 41 (by decide +kernel)
def tc_X10_erase : px_TC := [(0, .aload_n 0, 1), (1, .iconst 0, 1), (2, .putfield 21, 3), (5, .return_, 1)]
set_option maxRecDepth 100000 in
theorem dc_X10_erase : px_dc cX10_erase tc_X10_erase = true := by decide +kernel
set_option maxRecDepth 100000 in
theorem mt_X10_erase : pm_mt yX10_erase cX10_erase 1 none := pt_m_ok 761 41 (by decide +kernel)
def tc_X10_append : px_TC := [(0, .aload_n 0, 1), (1, .getfield 21, 3), (4, .ifCond .lt 52, 3), (7, .aload_n 0, 1), (8, .getfield 21, 3), (11, .bipush 6, 2), (13, .if_icmp .ge 43, 3), (16, .aload_n 0, 1), (17, .getfield 9, 3), (20, .aload_n 0, 1), (21, .getfield 21, 3), (24, .iload_n 1, 1), (25, .iastore, 1), (26, .aload_n 0, 1), (27, .getfield 15, 3), (30, .aload_n 0, 1), (31, .getfield 21, 3), (34, .iload_n 2, 1), (35, .iastore, 1), (36, .aload_n 0, 1), (37, .getfield 18, 3), (40, .aload_n 0, 1), (41, .getfield 21, 3), (44, .iconst (-1), 1), (45, .iastore, 1), (46, .aload_n 0, 1), (47, .dup, 1), (48, .getfield 21, 3), (51, .iconst 1, 1), (52, .iadd, 1), (53, .putfield 21, 3), (56, .return_, 1)]
set_option maxRecDepth 100000 in
theorem dc_X10_append : px_dc cX10_append tc_X10_append = true := by decide +kernel
set_option maxRecDepth 100000 in
theorem mt_X10_append : pm_mt yX10_append cX10_append 3 none := pt_m_ok 765 41 (by decide +kernel)
def tc_X10_dropLast : px_TC := [(0, .aload_n 0, 1), (1, .getfield 21, 3), (4, .ifCond .le 13, 3), (7, .aload_n 0, 1), (8, .dup, 1), (9, .getfield 21, 3), (12, .iconst 1, 1), (13, .isub, 1), (14, .putfield 21, 3), (17, .return_, 1)]
set_option maxRecDepth 100000 in
theorem dc_X10_dropLast : px_dc cX10_dropLast tc_X10_dropLast = true := by decide +kernel
set_option maxRecDepth 100000 in
theorem mt_X10_dropLast : pm_mt yX10_dropLast cX10_dropLast 1 none := pt_m_ok 801 41 (by decide +kernel)
def tc_X10_copyNodes : px_TC := [(0, .aload_n 0, 1), (1, .aload_n 1, 1), (2, .getfield 21, 3), (5, .putfield 21, 3), (8, .iconst 0, 1), (9, .istore_n 2, 1), (10, .iload_n 2, 1), (11, .bipush 6, 2), (13, .if_icmp .ge 40, 3), (16, .aload_n 0, 1), (17, .getfield 9, 3), (20, .iload_n 2, 1), (21, .aload_n 1, 1), (22, .getfield 9, 3), (25, .iload_n 2, 1), (26, .iaload, 1), (27, .iastore, 1), (28, .aload_n 0, 1), (29, .getfield 15, 3), (32, .iload_n 2, 1), (33, .aload_n 1, 1), (34, .getfield 15, 3), (37, .iload_n 2, 1), (38, .iaload, 1), (39, .iastore, 1), (40, .aload_n 0, 1), (41, .getfield 18, 3), (44, .iload_n 2, 1), (45, .iconst (-1), 1), (46, .iastore, 1), (47, .iinc 2 1, 3), (50, .goto (-40), 3), (53, .return_, 1)]
set_option maxRecDepth 100000 in
theorem dc_X10_copyNodes : px_dc cX10_copyNodes tc_X10_copyNodes = true := by decide +kernel
set_option maxRecDepth 100000 in
theorem mt_X10_copyNodes : pm_mt yX10_copyNodes cX10_copyNodes 3 none := pt_m_ok 784 41 (by decide +kernel)
def tc_X10_copyFrom : px_TC := [(0, .aload_n 0, 1), (1, .aload_n 1, 1), (2, .getfield 21, 3), (5, .putfield 21, 3), (8, .aload_n 1, 1), (9, .getfield 9, 3), (12, .aload_n 0, 1), (13, .getfield 9, 3), (16, .invokestatic 25, 3), (19, .aload_n 1, 1), (20, .getfield 15, 3), (23, .aload_n 0, 1), (24, .getfield 15, 3), (27, .invokestatic 25, 3), (30, .aload_n 1, 1), (31, .getfield 18, 3), (34, .aload_n 0, 1), (35, .getfield 18, 3), (38, .invokestatic 25, 3), (41, .return_, 1)]
set_option maxRecDepth 100000 in
theorem dc_X10_copyFrom : px_dc cX10_copyFrom tc_X10_copyFrom = true := by decide +kernel
set_option maxRecDepth 100000 in
theorem mt_X10_copyFrom : pm_mt yX10_copyFrom cX10_copyFrom 2 none := pt_m_ok 1004 41 (by decide +kernel)
def tc_X10_nodeAt : px_TC := [(0, .iload_n 1, 1), (1, .ifCond .lt 20, 3), (4, .iload_n 1, 1), (5, .aload_n 0, 1), (6, .getfield 21, 3), (9, .if_icmp .ge 12, 3), (12, .aload_n 0, 1), (13, .getfield 9, 3), (16, .iload_n 1, 1), (17, .iaload, 1), (18, .goto 4, 3), (21, .iconst (-1), 1), (22, .ireturn, 1)]
set_option maxRecDepth 100000 in
theorem dc_X10_nodeAt : px_dc cX10_nodeAt tc_X10_nodeAt = true := by decide +kernel
set_option maxRecDepth 100000 in
theorem mt_X10_nodeAt : pm_mt yX10_nodeAt cX10_nodeAt 2 (some (.int)) := pt_m_ok 776 41 (by decide +kernel)
def tc_X10_linkAt : px_TC := [(0, .iload_n 1, 1), (1, .ifCond .lt 20, 3), (4, .iload_n 1, 1), (5, .aload_n 0, 1), (6, .getfield 21, 3), (9, .if_icmp .ge 12, 3), (12, .aload_n 0, 1), (13, .getfield 15, 3), (16, .iload_n 1, 1), (17, .iaload, 1), (18, .goto 4, 3), (21, .iconst (-1), 1), (22, .ireturn, 1)]
set_option maxRecDepth 100000 in
theorem dc_X10_linkAt : px_dc cX10_linkAt tc_X10_linkAt = true := by decide +kernel
set_option maxRecDepth 100000 in
theorem mt_X10_linkAt : pm_mt yX10_linkAt cX10_linkAt 2 (some (.int)) := pt_m_ok 834 41 (by decide +kernel)
def tc_X10_slotAt : px_TC := [(0, .iload_n 1, 1), (1, .ifCond .lt 20, 3), (4, .iload_n 1, 1), (5, .aload_n 0, 1), (6, .getfield 21, 3), (9, .if_icmp .ge 12, 3), (12, .aload_n 0, 1), (13, .getfield 18, 3), (16, .iload_n 1, 1), (17, .iaload, 1), (18, .goto 4, 3), (21, .iconst (-1), 1), (22, .ireturn, 1)]
set_option maxRecDepth 100000 in
theorem dc_X10_slotAt : px_dc cX10_slotAt tc_X10_slotAt = true := by decide +kernel
set_option maxRecDepth 100000 in
theorem mt_X10_slotAt : pm_mt yX10_slotAt cX10_slotAt 2 (some (.int)) := pt_m_ok 875 41 (by decide +kernel)
def tc_X10_putSlot : px_TC := [(0, .iload_n 1, 1), (1, .ifCond .lt 18, 3), (4, .iload_n 1, 1), (5, .aload_n 0, 1), (6, .getfield 21, 3), (9, .if_icmp .ge 10, 3), (12, .aload_n 0, 1), (13, .getfield 18, 3), (16, .iload_n 1, 1), (17, .iload_n 2, 1), (18, .iastore, 1), (19, .return_, 1)]
set_option maxRecDepth 100000 in
theorem dc_X10_putSlot : px_dc cX10_putSlot tc_X10_putSlot = true := by decide +kernel
set_option maxRecDepth 100000 in
theorem mt_X10_putSlot : pm_mt yX10_putSlot cX10_putSlot 3 none := pt_m_ok 886 41 (by decide +kernel)
def tc_X10_lastNode : px_TC := [(0, .aload_n 0, 1), (1, .aload_n 0, 1), (2, .getfield 21, 3), (5, .iconst 1, 1), (6, .isub, 1), (7, .invokevirtual 29, 3), (10, .ireturn, 1)]
set_option maxRecDepth 100000 in
theorem dc_X10_lastNode : px_dc cX10_lastNode tc_X10_lastNode = true := by decide +kernel
set_option maxRecDepth 100000 in
theorem mt_X10_lastNode : pm_mt yX10_lastNode cX10_lastNode 1 (some (.int)) := pt_m_ok 772 41 (by decide +kernel)
def tc_X10_hasNode : px_TC := [(0, .iconst 0, 1), (1, .istore_n 2, 1), (2, .iload_n 2, 1), (3, .aload_n 0, 1), (4, .getfield 21, 3), (7, .if_icmp .ge 21, 3), (10, .aload_n 0, 1), (11, .getfield 9, 3), (14, .iload_n 2, 1), (15, .iaload, 1), (16, .iload_n 1, 1), (17, .if_icmp .ne 5, 3), (20, .iconst 1, 1), (21, .ireturn, 1), (22, .iinc 2 1, 3), (25, .goto (-23), 3), (28, .iconst 0, 1), (29, .ireturn, 1)]
set_option maxRecDepth 100000 in
theorem dc_X10_hasNode : px_dc cX10_hasNode tc_X10_hasNode = true := by decide +kernel
set_option maxRecDepth 100000 in
theorem mt_X10_hasNode : pm_mt yX10_hasNode cX10_hasNode 3 (some (.boolean)) := pt_m_ok 793 41 (by decide +kernel)
def tc_X10_usesLink : px_TC := [(0, .iconst 1, 1), (1, .istore_n 2, 1), (2, .iload_n 2, 1), (3, .aload_n 0, 1), (4, .getfield 21, 3), (7, .if_icmp .ge 21, 3), (10, .aload_n 0, 1), (11, .getfield 15, 3), (14, .iload_n 2, 1), (15, .iaload, 1), (16, .iload_n 1, 1), (17, .if_icmp .ne 5, 3), (20, .iconst 1, 1), (21, .ireturn, 1), (22, .iinc 2 1, 3), (25, .goto (-23), 3), (28, .iconst 0, 1), (29, .ireturn, 1)]
set_option maxRecDepth 100000 in
theorem dc_X10_usesLink : px_dc cX10_usesLink tc_X10_usesLink = true := by decide +kernel
set_option maxRecDepth 100000 in
theorem mt_X10_usesLink : pm_mt yX10_usesLink cX10_usesLink 3 (some (.boolean)) := pt_m_ok 753 41 (by decide +kernel)
def tc_X10_indexOfSlot : px_TC := [(0, .iconst 1, 1), (1, .istore_n 2, 1), (2, .iload_n 2, 1), (3, .aload_n 0, 1), (4, .getfield 21, 3), (7, .if_icmp .ge 21, 3), (10, .aload_n 0, 1), (11, .getfield 18, 3), (14, .iload_n 2, 1), (15, .iaload, 1), (16, .iload_n 1, 1), (17, .if_icmp .ne 5, 3), (20, .iload_n 2, 1), (21, .ireturn, 1), (22, .iinc 2 1, 3), (25, .goto (-23), 3), (28, .iconst (-1), 1), (29, .ireturn, 1)]
set_option maxRecDepth 100000 in
theorem dc_X10_indexOfSlot : px_dc cX10_indexOfSlot tc_X10_indexOfSlot = true := by decide +kernel
set_option maxRecDepth 100000 in
theorem mt_X10_indexOfSlot : pm_mt yX10_indexOfSlot cX10_indexOfSlot 3 (some (.int)) := pt_m_ok 1129 41 (by decide +kernel)
def tc_X10_heldSlots : px_TC := [(0, .iconst 0, 1), (1, .istore_n 1, 1), (2, .iconst 1, 1), (3, .istore_n 2, 1), (4, .iload_n 2, 1), (5, .aload_n 0, 1), (6, .getfield 21, 3), (9, .if_icmp .ge 22, 3), (12, .aload_n 0, 1), (13, .getfield 18, 3), (16, .iload_n 2, 1), (17, .iaload, 1), (18, .iconst (-1), 1), (19, .if_icmp .eq 6, 3), (22, .iinc 1 1, 3), (25, .iinc 2 1, 3), (28, .goto (-24), 3), (31, .iload_n 1, 1), (32, .ireturn, 1)]
set_option maxRecDepth 100000 in
theorem dc_X10_heldSlots : px_dc cX10_heldSlots tc_X10_heldSlots = true := by decide +kernel
set_option maxRecDepth 100000 in
theorem mt_X10_heldSlots : pm_mt yX10_heldSlots cX10_heldSlots 3 (some (.int)) := pt_m_ok 1164 41 (by decide +kernel)
def tc_X10_isSameAs : px_TC := [(0, .aload_n 0, 1), (1, .getfield 21, 3), (4, .aload_n 1, 1), (5, .getfield 21, 3), (8, .if_icmp .eq 5, 3), (11, .iconst 0, 1), (12, .ireturn, 1), (13, .iconst 0, 1), (14, .istore_n 2, 1), (15, .iload_n 2, 1), (16, .aload_n 0, 1), (17, .getfield 21, 3), (20, .if_icmp .ge 26, 3), (23, .aload_n 0, 1), (24, .getfield 9, 3), (27, .iload_n 2, 1), (28, .iaload, 1), (29, .aload_n 1, 1), (30, .getfield 9, 3), (33, .iload_n 2, 1), (34, .iaload, 1), (35, .if_icmp .eq 5, 3), (38, .iconst 0, 1), (39, .ireturn, 1), (40, .iinc 2 1, 3), (43, .goto (-28), 3), (46, .iconst 1, 1), (47, .ireturn, 1)]
set_option maxRecDepth 100000 in
theorem dc_X10_isSameAs : px_dc cX10_isSameAs tc_X10_isSameAs = true := by decide +kernel
set_option maxRecDepth 100000 in
theorem mt_X10_isSameAs : pm_mt yX10_isSameAs cX10_isSameAs 3 (some (.boolean)) := pt_m_ok 1027 41 (by decide +kernel)
