/-! tables of the law: methods -/
def tc_L_node : px_TC := [(0, .aload_n 0, 1), (1, .iload_n 1, 1), (2, .iload_n 2, 1), (3, .invokevirtual 63, 3), (6, .ireturn, 1), (7, .astore_n 3, 1), (8, .bipush (-101), 2), (10, .ireturn, 1), (11, .astore_n 3, 1), (12, .bipush (-102), 2), (14, .ireturn, 1)]
set_option maxRecDepth 100000 in
theorem dc_L_node : px_dc cL_node tc_L_node = true := by decide +kernel
set_option maxRecDepth 100000 in
theorem mh_L_node : pm_mh yL_node cL_node 4 (some (.int)) [(0, 6, 7, 51), (0, 6, 11, 43)] := pt_h_ok 1185 36 (by decide +kernel)
def tc_L_label : px_TC := [(0, .aload_n 0, 1), (1, .iload_n 1, 1), (2, .iload_n 2, 1), (3, .iload_n 3, 1), (4, .invokevirtual 66, 3), (7, .ireturn, 1), (8, .astore 4, 2), (10, .bipush (-101), 2), (12, .ireturn, 1), (13, .astore 4, 2), (15, .bipush (-102), 2), (17, .ireturn, 1)]
set_option maxRecDepth 100000 in
theorem dc_L_label : px_dc cL_label tc_L_label = true := by decide +kernel
set_option maxRecDepth 100000 in
theorem mh_L_label : pm_mh yL_label cL_label 5 (some (.int)) [(0, 7, 8, 51), (0, 7, 13, 43)] := pt_h_ok 1205 36 (by decide +kernel)
def tc_L_link : px_TC := [(0, .aload_n 0, 1), (1, .iload_n 1, 1), (2, .iload_n 2, 1), (3, .invokevirtual 70, 3), (6, .ireturn, 1), (7, .astore_n 3, 1), (8, .bipush (-101), 2), (10, .ireturn, 1), (11, .astore_n 3, 1), (12, .bipush (-102), 2), (14, .ireturn, 1)]
set_option maxRecDepth 100000 in
theorem dc_L_link : px_dc cL_link tc_L_link = true := by decide +kernel
set_option maxRecDepth 100000 in
theorem mh_L_link : pm_mh yL_link cL_link 4 (some (.int)) [(0, 6, 7, 51), (0, 6, 11, 43)] := pt_h_ok 946 36 (by decide +kernel)
def tc_L_draftBest : px_TC := [(0, .aload_n 0, 1), (1, .iload_n 1, 1), (2, .iload_n 2, 1), (3, .iload_n 3, 1), (4, .invokevirtual 76, 3), (7, .ireturn, 1), (8, .astore 4, 2), (10, .bipush (-101), 2), (12, .ireturn, 1), (13, .astore 4, 2), (15, .bipush (-102), 2), (17, .ireturn, 1)]
set_option maxRecDepth 100000 in
theorem dc_L_draftBest : px_dc cL_draftBest tc_L_draftBest = true := by decide +kernel
set_option maxRecDepth 100000 in
theorem mh_L_draftBest : pm_mh yL_draftBest cL_draftBest 5 (some (.int)) [(0, 7, 8, 51), (0, 7, 13, 43)] := pt_h_ok 724 36 (by decide +kernel)
def tc_L_draftNode : px_TC := [(0, .aload_n 0, 1), (1, .iload_n 1, 1), (2, .invokevirtual 79, 3), (5, .ireturn, 1), (6, .astore_n 2, 1), (7, .bipush (-101), 2), (9, .ireturn, 1)]
set_option maxRecDepth 100000 in
theorem dc_L_draftNode : px_dc cL_draftNode tc_L_draftNode = true := by decide +kernel
set_option maxRecDepth 100000 in
theorem mh_L_draftNode : pm_mh yL_draftNode cL_draftNode 3 (some (.int)) [(0, 5, 6, 51)] := pt_h_ok 805 36 (by decide +kernel)
def tc_L_open : px_TC := [(0, .aload_n 0, 1), (1, .iload_n 1, 1), (2, .iload_n 2, 1), (3, .invokevirtual 82, 3), (6, .ireturn, 1), (7, .astore_n 3, 1), (8, .bipush (-102), 2), (10, .ireturn, 1)]
set_option maxRecDepth 100000 in
theorem dc_L_open : px_dc cL_open tc_L_open = true := by decide +kernel
set_option maxRecDepth 100000 in
theorem mh_L_open : pm_mh yL_open cL_open 4 (some (.int)) [(0, 6, 7, 43)] := pt_h_ok 817 36 (by decide +kernel)
def tc_L_close : px_TC := [(0, .aload_n 0, 1), (1, .iload_n 1, 1), (2, .invokevirtual 85, 3), (5, .ireturn, 1), (6, .astore_n 2, 1), (7, .bipush (-101), 2), (9, .ireturn, 1)]
set_option maxRecDepth 100000 in
theorem dc_L_close : px_dc cL_close tc_L_close = true := by decide +kernel
set_option maxRecDepth 100000 in
theorem mh_L_close : pm_mh yL_close cL_close 3 (some (.int)) [(0, 5, 6, 51)] := pt_h_ok 1052 36 (by decide +kernel)
def tc_L_moveBest : px_TC := [(0, .aload_n 0, 1), (1, .iload_n 1, 1), (2, .iload_n 2, 1), (3, .invokevirtual 91, 3), (6, .ireturn, 1), (7, .astore_n 3, 1), (8, .bipush (-101), 2), (10, .ireturn, 1)]
set_option maxRecDepth 100000 in
theorem dc_L_moveBest : px_dc cL_moveBest tc_L_moveBest = true := by decide +kernel
set_option maxRecDepth 100000 in
theorem mh_L_moveBest : pm_mh yL_moveBest cL_moveBest 4 (some (.int)) [(0, 6, 7, 51)] := pt_h_ok 1030 36 (by decide +kernel)
