/-! tables of the law: methods -/
def tc_L_init : px_TC := [(0, .aload_n 0, 1), (1, .invokespecial 1, 3), (4, .aload_n 0, 1), (5, .new 7, 3), (8, .dup, 1), (9, .invokespecial 9, 3), (12, .putfield 10, 3), (15, .return_, 1)]
set_option maxRecDepth 100000 in
theorem dc_L_init : px_dc cL_init tc_L_init = true := by decide +kernel
set_option maxRecDepth 100000 in
theorem mt_L_init : pm_mt yL_init cL_init 1 none := pt_m_ok 60 36 (by decide +kernel)
def tc_L_at : px_TC := [(0, .iload_n 1, 1), (1, .aload_n 0, 1), (2, .arraylength, 1), (3, .if_icmp .ge 9, 3), (6, .aload_n 0, 1), (7, .iload_n 1, 1), (8, .iaload, 1), (9, .goto 4, 3), (12, .iconst 0, 1), (13, .istore_n 2, 1), (14, .iload_n 2, 1), (15, .ifCond .le 22, 3), (18, .iload_n 2, 1), (19, .sipush 512, 3), (22, .if_icmp .ge 15, 3), (25, .iload_n 2, 1), (26, .ldc 16, 2), (28, .imul, 1), (29, .iload_n 1, 1), (30, .ldc 17, 2), (32, .imul, 1), (33, .ixor, 1), (34, .goto 4, 3), (37, .iload_n 2, 1), (38, .ireturn, 1)]
set_option maxRecDepth 100000 in
theorem dc_L_at : px_dc cL_at tc_L_at = true := by decide +kernel
set_option maxRecDepth 100000 in
theorem mt_L_at : pm_mt yL_at cL_at 3 (some (.int)) := pt_m_ok 522 36 (by decide +kernel)
def tc_L_draw : px_TC := [(0, .aload_n 0, 1), (1, .getfield 18, 3), (4, .aload_n 0, 1), (5, .getfield 22, 3), (8, .iconst 1, 1), (9, .aload_n 0, 1), (10, .getfield 18, 3), (13, .arraylength, 1), (14, .invokestatic 26, 3), (17, .irem, 1), (18, .invokestatic 32, 3), (21, .aload_n 0, 1), (22, .getfield 22, 3), (25, .ldc 36, 2), (27, .imul, 1), (28, .iadd, 1), (29, .istore_n 2, 1), (30, .aload_n 0, 1), (31, .dup, 1), (32, .getfield 22, 3), (35, .iconst 1, 1), (36, .iadd, 1), (37, .putfield 22, 3), (40, .iload_n 2, 1), (41, .iload_n 2, 1), (42, .bipush 15, 2), (44, .iushr, 1), (45, .ixor, 1), (46, .istore_n 2, 1), (47, .iload_n 2, 1), (48, .ldc 37, 2), (50, .imul, 1), (51, .istore_n 2, 1), (52, .iload_n 2, 1), (53, .iload_n 2, 1), (54, .bipush 13, 2), (56, .iushr, 1), (57, .ixor, 1), (58, .istore_n 2, 1), (59, .iload_n 2, 1), (60, .ldc 38, 2), (62, .iand, 1), (63, .iload_n 1, 1), (64, .irem, 1), (65, .ireturn, 1)]
set_option maxRecDepth 100000 in
theorem dc_L_draw : px_dc cL_draw tc_L_draw = true := by decide +kernel
set_option maxRecDepth 100000 in
theorem mt_L_draw : pm_mt yL_draw cL_draw 3 (some (.int)) := pt_m_ok 516 36 (by decide +kernel)
def tc_L_addNode : px_TC := [(0, .aload_n 0, 1), (1, .iload_n 1, 1), (2, .invokevirtual 39, 3), (5, .ireturn, 1), (6, .astore_n 2, 1), (7, .bipush (-102), 2), (9, .ireturn, 1), (10, .astore_n 2, 1), (11, .bipush (-103), 2), (13, .ireturn, 1)]
set_option maxRecDepth 100000 in
theorem dc_L_addNode : px_dc cL_addNode tc_L_addNode = true := by decide +kernel
set_option maxRecDepth 100000 in
theorem mh_L_addNode : pm_mh yL_addNode cL_addNode 3 (some (.int)) [(0, 5, 6, 43), (0, 5, 10, 45)] := pt_h_ok 530 36 (by decide +kernel)
def tc_L_addLink : px_TC := [(0, .aload_n 0, 1), (1, .iload_n 1, 1), (2, .iload_n 2, 1), (3, .iload_n 3, 1), (4, .iload 4, 2), (6, .invokevirtual 47, 3), (9, .ireturn, 1), (10, .astore 5, 2), (12, .bipush (-101), 2), (14, .ireturn, 1), (15, .astore 5, 2), (17, .bipush (-102), 2), (19, .ireturn, 1), (20, .astore 5, 2), (22, .bipush (-103), 2), (24, .ireturn, 1)]
set_option maxRecDepth 100000 in
theorem dc_L_addLink : px_dc cL_addLink tc_L_addLink = true := by decide +kernel
set_option maxRecDepth 100000 in
theorem mh_L_addLink : pm_mh yL_addLink cL_addLink 6 (some (.int)) [(0, 9, 10, 51), (0, 9, 15, 43), (0, 9, 20, 45)] := pt_h_ok 664 36 (by decide +kernel)
def tc_L_setUp : px_TC := [(0, .aload_n 0, 1), (1, .iload_n 1, 1), (2, .iload_n 2, 1), (3, .invokevirtual 53, 3), (6, .ifCond .eq 7, 3), (9, .iconst 1, 1), (10, .goto 4, 3), (13, .iconst 0, 1), (14, .ireturn, 1), (15, .astore_n 3, 1), (16, .bipush (-101), 2), (18, .ireturn, 1)]
set_option maxRecDepth 100000 in
theorem dc_L_setUp : px_dc cL_setUp tc_L_setUp = true := by decide +kernel
set_option maxRecDepth 100000 in
theorem mh_L_setUp : pm_mh yL_setUp cL_setUp 4 (some (.int)) [(0, 14, 15, 51)] := pt_h_ok 1068 36 (by decide +kernel)
def tc_L_set : px_TC := [(0, .aload_n 0, 1), (1, .iload_n 1, 1), (2, .iload_n 2, 1), (3, .invokevirtual 57, 3), (6, .ireturn, 1), (7, .astore_n 3, 1), (8, .bipush (-102), 2), (10, .ireturn, 1)]
set_option maxRecDepth 100000 in
theorem dc_L_set : px_dc cL_set tc_L_set = true := by decide +kernel
set_option maxRecDepth 100000 in
theorem mh_L_set : pm_mh yL_set cL_set 4 (some (.int)) [(0, 6, 7, 43)] := pt_h_ok 708 36 (by decide +kernel)
def tc_L_count : px_TC := [(0, .aload_n 0, 1), (1, .iload_n 1, 1), (2, .invokevirtual 60, 3), (5, .ireturn, 1), (6, .astore_n 2, 1), (7, .bipush (-102), 2), (9, .ireturn, 1)]
set_option maxRecDepth 100000 in
theorem dc_L_count : px_dc cL_count tc_L_count = true := by decide +kernel
set_option maxRecDepth 100000 in
theorem mh_L_count : pm_mh yL_count cL_count 3 (some (.int)) [(0, 5, 6, 43)] := pt_h_ok 633 36 (by decide +kernel)
