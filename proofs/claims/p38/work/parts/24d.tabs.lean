/-! tables of the law: methods -/
def tc_L_abort : px_TC := [(0, .aload_n 0, 1), (1, .iload_n 1, 1), (2, .invokevirtual 94, 3), (5, .ireturn, 1), (6, .astore_n 2, 1), (7, .bipush (-101), 2), (9, .ireturn, 1)]
set_option maxRecDepth 100000 in
theorem dc_L_abort : px_dc cL_abort tc_L_abort = true := by decide +kernel
set_option maxRecDepth 100000 in
theorem mh_L_abort : pm_mh yL_abort cL_abort 3 (some (.int)) [(0, 5, 6, 51)] := pt_h_ok 933 36 (by decide +kernel)
def tc_L_offer : px_TC := [(0, .aload_n 0, 1), (1, .iload_n 1, 1), (2, .iload_n 2, 1), (3, .invokevirtual 97, 3), (6, .ireturn, 1), (7, .astore_n 3, 1), (8, .bipush (-101), 2), (10, .ireturn, 1), (11, .astore_n 3, 1), (12, .bipush (-102), 2), (14, .ireturn, 1)]
set_option maxRecDepth 100000 in
theorem dc_L_offer : px_dc cL_offer tc_L_offer = true := by decide +kernel
set_option maxRecDepth 100000 in
theorem mh_L_offer : pm_mh yL_offer cL_offer 4 (some (.int)) [(0, 6, 7, 51), (0, 6, 11, 43)] := pt_h_ok 1037 36 (by decide +kernel)
def tc_L_run : px_TC := [(0, .aload_n 0, 1), (1, .iload_n 1, 1), (2, .invokevirtual 100, 3), (5, .ireturn, 1), (6, .astore_n 2, 1), (7, .bipush (-102), 2), (9, .ireturn, 1)]
set_option maxRecDepth 100000 in
theorem dc_L_run : px_dc cL_run tc_L_run = true := by decide +kernel
set_option maxRecDepth 100000 in
theorem mh_L_run : pm_mh yL_run cL_run 3 (some (.int)) [(0, 5, 6, 43)] := pt_h_ok 1093 36 (by decide +kernel)
def tc_L_circuit : px_TC := [(0, .aload_n 0, 1), (1, .iload_n 1, 1), (2, .iload_n 2, 1), (3, .invokevirtual 103, 3), (6, .ireturn, 1), (7, .astore_n 3, 1), (8, .bipush (-101), 2), (10, .ireturn, 1), (11, .astore_n 3, 1), (12, .bipush (-102), 2), (14, .ireturn, 1)]
set_option maxRecDepth 100000 in
theorem dc_L_circuit : px_dc cL_circuit tc_L_circuit = true := by decide +kernel
set_option maxRecDepth 100000 in
theorem mh_L_circuit : pm_mh yL_circuit cL_circuit 4 (some (.int)) [(0, 6, 7, 51), (0, 6, 11, 43)] := pt_h_ok 898 36 (by decide +kernel)
def tc_L_way : px_TC := [(0, .aload_n 0, 1), (1, .iload_n 1, 1), (2, .iload_n 2, 1), (3, .iload_n 3, 1), (4, .iload 4, 2), (6, .invokevirtual 106, 3), (9, .ireturn, 1), (10, .astore 5, 2), (12, .bipush (-101), 2), (14, .ireturn, 1), (15, .astore 5, 2), (17, .bipush (-102), 2), (19, .ireturn, 1)]
set_option maxRecDepth 100000 in
theorem dc_L_way : px_dc cL_way tc_L_way = true := by decide +kernel
set_option maxRecDepth 100000 in
theorem mh_L_way : pm_mh yL_way cL_way 6 (some (.int)) [(0, 9, 10, 51), (0, 9, 15, 43)] := pt_h_ok 1223 36 (by decide +kernel)
def tc_L_meanDelay : px_TC := [(0, .aload_n 0, 1), (1, .iload_n 1, 1), (2, .invokevirtual 113, 3), (5, .dreturn, 1), (6, .astore_n 2, 1), (7, .ldc2_w 117, 3), (10, .dreturn, 1)]
set_option maxRecDepth 100000 in
theorem dc_L_meanDelay : px_dc cL_meanDelay tc_L_meanDelay = true := by decide +kernel
set_option maxRecDepth 100000 in
theorem mh_L_meanDelay : pm_mh yL_meanDelay cL_meanDelay 3 (some (.double)) [(0, 5, 6, 51)] := pt_h_ok 1245 36 (by decide +kernel)
def tc_L_canMove : px_TC := [(0, .aload_n 0, 1), (1, .iload_n 1, 1), (2, .iload_n 2, 1), (3, .invokevirtual 119, 3), (6, .ireturn, 1), (7, .astore_n 3, 1), (8, .bipush (-101), 2), (10, .ireturn, 1)]
set_option maxRecDepth 100000 in
theorem dc_L_canMove : px_dc cL_canMove tc_L_canMove = true := by decide +kernel
set_option maxRecDepth 100000 in
theorem mh_L_canMove : pm_mh yL_canMove cL_canMove 4 (some (.int)) [(0, 6, 7, 51)] := pt_h_ok 964 36 (by decide +kernel)
def tc_L_movedIn : px_TC := [(0, .aload_n 0, 1), (1, .iload_n 1, 1), (2, .invokevirtual 122, 3), (5, .ireturn, 1), (6, .astore_n 2, 1), (7, .bipush (-101), 2), (9, .ireturn, 1)]
set_option maxRecDepth 100000 in
theorem dc_L_movedIn : px_dc cL_movedIn tc_L_movedIn = true := by decide +kernel
set_option maxRecDepth 100000 in
theorem mh_L_movedIn : pm_mh yL_movedIn cL_movedIn 3 (some (.int)) [(0, 5, 6, 51)] := pt_h_ok 1255 36 (by decide +kernel)
