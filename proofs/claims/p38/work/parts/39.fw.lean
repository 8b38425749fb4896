/-! functions out of the code -/
theorem lk_L_43 : Cond.classLink RL 43 pm_xA ∈ pm_W := pt_w_in (i := 531) (by decide +kernel)
theorem lk_L_45 : Cond.classLink RL 45 pm_xI ∈ pm_W := pt_w_in (i := 532) (by decide +kernel)
theorem lk_L_51 : Cond.classLink RL 51 pm_xB ∈ pm_W := pt_w_in (i := 665) (by decide +kernel)
theorem cb_pm_xI : Cond.castable pm_xI pm_xI ∈ lw_tbl := pt_in (i := 609) (by decide +kernel)
theorem cb_pm_xA : Cond.castable pm_xA pm_xA ∈ lw_tbl := pt_in (i := 542) (by decide +kernel)
theorem cb_pm_xB : Cond.castable pm_xB pm_xB ∈ lw_tbl := pt_in (i := 680) (by decide +kernel)
theorem ml_L_32 : Cond.methodLink RL 32 yL_at ∈ pm_W := pt_w_in (i := 520) (by decide +kernel)
theorem ml_L_142 : Cond.methodLink RL 142 yL_addNode ∈ pm_W := pt_w_in (i := 528) (by decide +kernel)
theorem ml_L_145 : Cond.methodLink RL 145 yL_count ∈ pm_W := pt_w_in (i := 631) (by decide +kernel)
theorem ml_L_147 : Cond.methodLink RL 147 yL_addLink ∈ pm_W := pt_w_in (i := 662) (by decide +kernel)
theorem ml_L_150 : Cond.methodLink RL 150 yL_set ∈ pm_W := pt_w_in (i := 706) (by decide +kernel)
theorem ml_L_153 : Cond.methodLink RL 153 yL_node ∈ pm_W := pt_w_in (i := 1183) (by decide +kernel)
theorem ml_L_155 : Cond.methodLink RL 155 yL_label ∈ pm_W := pt_w_in (i := 1203) (by decide +kernel)
theorem ml_L_158 : Cond.methodLink RL 158 yL_way ∈ pm_W := pt_w_in (i := 1221) (by decide +kernel)
theorem ml_L_161 : Cond.methodLink RL 161 yL_circuit ∈ pm_W := pt_w_in (i := 896) (by decide +kernel)
theorem ml_L_167 : Cond.methodLink RL 167 yL_meanDelay ∈ pm_W := pt_w_in (i := 1243) (by decide +kernel)
theorem ml_L_172 : Cond.methodLink RL 172 yL_movedIn ∈ pm_W := pt_w_in (i := 1253) (by decide +kernel)
theorem ml_L_174 : Cond.methodLink RL 174 yL_link ∈ pm_W := pt_w_in (i := 944) (by decide +kernel)
theorem ml_L_180 : Cond.methodLink RL 180 yL_draftBest ∈ pm_W := pt_w_in (i := 722) (by decide +kernel)
theorem ml_L_182 : Cond.methodLink RL 182 yL_draftNode ∈ pm_W := pt_w_in (i := 803) (by decide +kernel)
theorem ml_L_184 : Cond.methodLink RL 184 yL_open ∈ pm_W := pt_w_in (i := 815) (by decide +kernel)
theorem ml_L_186 : Cond.methodLink RL 186 yL_abort ∈ pm_W := pt_w_in (i := 931) (by decide +kernel)
theorem ml_L_188 : Cond.methodLink RL 188 yL_canMove ∈ pm_W := pt_w_in (i := 962) (by decide +kernel)
theorem ml_L_190 : Cond.methodLink RL 190 yL_moveBest ∈ pm_W := pt_w_in (i := 1028) (by decide +kernel)
theorem ml_L_192 : Cond.methodLink RL 192 yL_offer ∈ pm_W := pt_w_in (i := 1035) (by decide +kernel)
theorem ml_L_194 : Cond.methodLink RL 194 yL_close ∈ pm_W := pt_w_in (i := 1050) (by decide +kernel)
theorem ml_L_196 : Cond.methodLink RL 196 yL_setUp ∈ pm_W := pt_w_in (i := 1066) (by decide +kernel)
theorem ml_L_199 : Cond.methodLink RL 199 yL_run ∈ pm_W := pt_w_in (i := 1091) (by decide +kernel)
theorem ml_L_201 : Cond.methodLink RL 201 yL_save ∈ pm_W := pt_w_in (i := 1280) (by decide +kernel)
theorem ml_L_203 : Cond.methodLink RL 203 yL_ahead ∈ pm_W := pt_w_in (i := 1291) (by decide +kernel)
theorem ml_L_205 : Cond.methodLink RL 205 yL_restore ∈ pm_W := pt_w_in (i := 1301) (by decide +kernel)
def h_L_addNode (E : String) : Option Int32 := if E = pm_xA then some ((Int8.ofInt (-102)).toInt32) else if E = pm_xI then some ((Int8.ofInt (-103)).toInt32) else none
def f_L_addNode (H : fm_H) (v0 : Nat) (v1 : Int32) (m : fm_M) : Option (Int32 × fm_M) := fl_w H (f_X11_addNode H v0 v1 m) (fun x => x) h_L_addNode
set_option maxRecDepth 100000 in
theorem q_L_addNode {G : pm_G} {H : fm_H} {d : Nat} {z0 : Nat × Nat × Nat} {v0 : Nat} {v1 : Int32} {m : fm_M} (hE : fm_E G H) (h0 : fm_is H v0 11) : fl_cal G H (d + 4) yL_addNode [.ref v0, .int v1] (fl_z H z0) m fm_rI (f_L_addNode H v0 v1 m) := by
  have T : fm_T RL cL_addNode tc_L_addNode fr_L mr_L cr_L lr_L := ⟨tok_L, dc_L_addNode⟩
  refine fl_wr (d := d + 3) T mh_L_addNode rfl rfl rfl rfl hE (n0 := 2) (pcc := 2) (ls1 := [some (.ref v0), some (.int v1), none]) (st1 := [.int v1, .ref v0]) rfl (idx := 39) rfl rfl rfl rfl h0 (q_X11_addNode (d := d) hE h0) ?_ ?_
  · intro x KR S hk
    exact xw_iret (px_dc_at T.2 (pc := 5) rfl) rfl rfl hk
  · intro E v KR S hv hk
    unfold h_L_addNode at hv
    refine Classical.byCases (p := E = pm_xA) (fun e0 => ?_) (fun e0 => ?_)
    · subst e0
      rw [if_pos rfl] at hv
      cases hv
      exact Or.inr ⟨[], [(0, 5, 10, 45)], (0, 5, 6, 43), pm_xA, -102, rfl, (fun q hq => by cases hq), by decide, by decide, lk_L_43, cb_pm_xA, by decide, Or.inl ⟨2, Nat.le_of_ble_eq_true rfl, px_dc_at T.2 (pc := 6) rfl, px_dc_at T.2 (pc := 7) rfl, px_dc_at T.2 (pc := 9) rfl⟩, ⟨_, _, rfl, rfl, rfl, hk⟩⟩
    refine Classical.byCases (p := E = pm_xI) (fun e1 => ?_) (fun e1 => ?_)
    · subst e1
      rw [if_neg (by decide)] at hv
      rw [if_pos rfl] at hv
      cases hv
      exact Or.inr ⟨[(0, 5, 6, 43)], [], (0, 5, 10, 45), pm_xI, -103, rfl, List.forall_mem_cons.mpr ⟨Or.inr ⟨by decide, pm_xA, lk_L_43, by decide, by decide⟩, (fun q hq => by cases hq)⟩, by decide, by decide, lk_L_45, cb_pm_xI, by decide, Or.inl ⟨2, Nat.le_of_ble_eq_true rfl, px_dc_at T.2 (pc := 10) rfl, px_dc_at T.2 (pc := 11) rfl, px_dc_at T.2 (pc := 13) rfl⟩, ⟨_, _, rfl, rfl, rfl, hk⟩⟩
    rw [if_neg e0, if_neg e1] at hv
    cases hv

def h_L_addLink (E : String) : Option Int32 := if E = pm_xB then some ((Int8.ofInt (-101)).toInt32) else if E = pm_xA then some ((Int8.ofInt (-102)).toInt32) else if E = pm_xI then some ((Int8.ofInt (-103)).toInt32) else none
def f_L_addLink (H : fm_H) (v0 : Nat) (v1 : Int32) (v2 : Int32) (v3 : Int32) (v4 : Int32) (m : fm_M) : Option (Int32 × fm_M) := fl_w H (f_X11_addLink H v0 v1 v2 v3 v4 m) (fun x => x) h_L_addLink
set_option maxRecDepth 100000 in
theorem q_L_addLink {G : pm_G} {H : fm_H} {d : Nat} {z0 : Nat × Nat × Nat} {v0 : Nat} {v1 : Int32} {v2 : Int32} {v3 : Int32} {v4 : Int32} {m : fm_M} (hE : fm_E G H) (h0 : fm_is H v0 11) : fl_cal G H (d + 4) yL_addLink [.ref v0, .int v1, .int v2, .int v3, .int v4] (fl_z H z0) m fm_rI (f_L_addLink H v0 v1 v2 v3 v4 m) := by
  have T : fm_T RL cL_addLink tc_L_addLink fr_L mr_L cr_L lr_L := ⟨tok_L, dc_L_addLink⟩
  refine fl_wr (d := d + 3) T mh_L_addLink rfl rfl rfl rfl hE (n0 := 5) (pcc := 6) (ls1 := [some (.ref v0), some (.int v1), some (.int v2), some (.int v3), some (.int v4), none]) (st1 := [.int v4, .int v3, .int v2, .int v1, .ref v0]) rfl (idx := 47) rfl rfl rfl rfl h0 (q_X11_addLink (d := d) hE h0) ?_ ?_
  · intro x KR S hk
    exact xw_iret (px_dc_at T.2 (pc := 9) rfl) rfl rfl hk
  · intro E v KR S hv hk
    unfold h_L_addLink at hv
    refine Classical.byCases (p := E = pm_xB) (fun e0 => ?_) (fun e0 => ?_)
    · subst e0
      rw [if_pos rfl] at hv
      cases hv
      exact Or.inr ⟨[], [(0, 9, 15, 43), (0, 9, 20, 45)], (0, 9, 10, 51), pm_xB, -101, rfl, (fun q hq => by cases hq), by decide, by decide, lk_L_51, cb_pm_xB, by decide, Or.inr ⟨5, Nat.le_of_ble_eq_true rfl, px_dc_at T.2 (pc := 10) rfl, px_dc_at T.2 (pc := 12) rfl, px_dc_at T.2 (pc := 14) rfl⟩, ⟨_, _, rfl, rfl, rfl, hk⟩⟩
    refine Classical.byCases (p := E = pm_xA) (fun e1 => ?_) (fun e1 => ?_)
    · subst e1
      rw [if_neg (by decide)] at hv
      rw [if_pos rfl] at hv
      cases hv
      exact Or.inr ⟨[(0, 9, 10, 51)], [(0, 9, 20, 45)], (0, 9, 15, 43), pm_xA, -102, rfl, List.forall_mem_cons.mpr ⟨Or.inr ⟨by decide, pm_xB, lk_L_51, by decide, by decide⟩, (fun q hq => by cases hq)⟩, by decide, by decide, lk_L_43, cb_pm_xA, by decide, Or.inr ⟨5, Nat.le_of_ble_eq_true rfl, px_dc_at T.2 (pc := 15) rfl, px_dc_at T.2 (pc := 17) rfl, px_dc_at T.2 (pc := 19) rfl⟩, ⟨_, _, rfl, rfl, rfl, hk⟩⟩
    refine Classical.byCases (p := E = pm_xI) (fun e2 => ?_) (fun e2 => ?_)
    · subst e2
      rw [if_neg (by decide)] at hv
      rw [if_neg (by decide)] at hv
      rw [if_pos rfl] at hv
      cases hv
      exact Or.inr ⟨[(0, 9, 10, 51), (0, 9, 15, 43)], [], (0, 9, 20, 45), pm_xI, -103, rfl, List.forall_mem_cons.mpr ⟨Or.inr ⟨by decide, pm_xB, lk_L_51, by decide, by decide⟩, List.forall_mem_cons.mpr ⟨Or.inr ⟨by decide, pm_xA, lk_L_43, by decide, by decide⟩, (fun q hq => by cases hq)⟩⟩, by decide, by decide, lk_L_45, cb_pm_xI, by decide, Or.inr ⟨5, Nat.le_of_ble_eq_true rfl, px_dc_at T.2 (pc := 20) rfl, px_dc_at T.2 (pc := 22) rfl, px_dc_at T.2 (pc := 24) rfl⟩, ⟨_, _, rfl, rfl, rfl, hk⟩⟩
    rw [if_neg e0, if_neg e1, if_neg e2] at hv
    cases hv

def h_L_setUp (E : String) : Option Int32 := if E = pm_xB then some ((Int8.ofInt (-101)).toInt32) else none
def f_L_setUp (H : fm_H) (v0 : Nat) (v1 : Int32) (v2 : Int32) (m : fm_M) : Option (Int32 × fm_M) := fl_w H (f_X11_setUp H v0 v1 v2 m) (fun x => if x = 0 then 0 else 1) h_L_setUp
set_option maxRecDepth 100000 in
theorem q_L_setUp {G : pm_G} {H : fm_H} {d : Nat} {z0 : Nat × Nat × Nat} {v0 : Nat} {v1 : Int32} {v2 : Int32} {m : fm_M} (hE : fm_E G H) (h0 : fm_is H v0 11) : fl_cal G H (d + 5) yL_setUp [.ref v0, .int v1, .int v2] (fl_z H z0) m fm_rI (f_L_setUp H v0 v1 v2 m) := by
  have T : fm_T RL cL_setUp tc_L_setUp fr_L mr_L cr_L lr_L := ⟨tok_L, dc_L_setUp⟩
  refine fl_wr (d := d + 4) T mh_L_setUp rfl rfl rfl rfl hE (n0 := 3) (pcc := 3) (ls1 := [some (.ref v0), some (.int v1), some (.int v2), none]) (st1 := [.int v2, .int v1, .ref v0]) rfl (idx := 53) rfl rfl rfl rfl h0 (q_X11_setUp (d := d) hE h0) ?_ ?_
  · intro x KR S hk
    by_cases e : x = 0
    · subst e
      refine xw_eq_t 13 (px_dc_at T.2 (pc := 6) rfl) rfl rfl ?_
      refine xw_ru T 1 13 14 [some (.ref v0), some (.int v1), some (.int v2), none] [.int 0] rfl ?_
      exact xw_iret (px_dc_at T.2 (pc := 14) rfl) rfl rfl hk
    · rw [if_neg e] at hk
      refine xw_eq_f 9 13 (px_dc_at T.2 (pc := 6) rfl) rfl rfl e ?_
      refine xw_ru T 2 9 14 [some (.ref v0), some (.int v1), some (.int v2), none] [.int 1] rfl ?_
      exact xw_iret (px_dc_at T.2 (pc := 14) rfl) rfl rfl hk
  · intro E v KR S hv hk
    unfold h_L_setUp at hv
    refine Classical.byCases (p := E = pm_xB) (fun e0 => ?_) (fun e0 => ?_)
    · subst e0
      rw [if_pos rfl] at hv
      cases hv
      exact Or.inr ⟨[], [], (0, 14, 15, 51), pm_xB, -101, rfl, (fun q hq => by cases hq), by decide, by decide, lk_L_51, cb_pm_xB, by decide, Or.inl ⟨3, Nat.le_of_ble_eq_true rfl, px_dc_at T.2 (pc := 15) rfl, px_dc_at T.2 (pc := 16) rfl, px_dc_at T.2 (pc := 18) rfl⟩, ⟨_, _, rfl, rfl, rfl, hk⟩⟩
    rw [if_neg e0] at hv
    cases hv

def h_L_set (E : String) : Option Int32 := if E = pm_xA then some ((Int8.ofInt (-102)).toInt32) else none
def f_L_set (H : fm_H) (v0 : Nat) (v1 : Int32) (v2 : Int32) (m : fm_M) : Option (Int32 × fm_M) := fl_w H (f_X11_set H v0 v1 v2 m) (fun x => x) h_L_set
set_option maxRecDepth 100000 in
theorem q_L_set {G : pm_G} {H : fm_H} {d : Nat} {z0 : Nat × Nat × Nat} {v0 : Nat} {v1 : Int32} {v2 : Int32} {m : fm_M} (hE : fm_E G H) (h0 : fm_is H v0 11) : fl_cal G H (d + 3) yL_set [.ref v0, .int v1, .int v2] (fl_z H z0) m fm_rI (f_L_set H v0 v1 v2 m) := by
  have T : fm_T RL cL_set tc_L_set fr_L mr_L cr_L lr_L := ⟨tok_L, dc_L_set⟩
  refine fl_wr (d := d + 2) T mh_L_set rfl rfl rfl rfl hE (n0 := 3) (pcc := 3) (ls1 := [some (.ref v0), some (.int v1), some (.int v2), none]) (st1 := [.int v2, .int v1, .ref v0]) rfl (idx := 57) rfl rfl rfl rfl h0 (q_X11_set (d := d) hE h0) ?_ ?_
  · intro x KR S hk
    exact xw_iret (px_dc_at T.2 (pc := 6) rfl) rfl rfl hk
  · intro E v KR S hv hk
    unfold h_L_set at hv
    refine Classical.byCases (p := E = pm_xA) (fun e0 => ?_) (fun e0 => ?_)
    · subst e0
      rw [if_pos rfl] at hv
      cases hv
      exact Or.inr ⟨[], [], (0, 6, 7, 43), pm_xA, -102, rfl, (fun q hq => by cases hq), by decide, by decide, lk_L_43, cb_pm_xA, by decide, Or.inl ⟨3, Nat.le_of_ble_eq_true rfl, px_dc_at T.2 (pc := 7) rfl, px_dc_at T.2 (pc := 8) rfl, px_dc_at T.2 (pc := 10) rfl⟩, ⟨_, _, rfl, rfl, rfl, hk⟩⟩
    rw [if_neg e0] at hv
    cases hv

def h_L_count (E : String) : Option Int32 := if E = pm_xA then some ((Int8.ofInt (-102)).toInt32) else none
def f_L_count (H : fm_H) (v0 : Nat) (v1 : Int32) (m : fm_M) : Option (Int32 × fm_M) := fl_w H (f_X11_count H v0 v1 m) (fun x => x) h_L_count
set_option maxRecDepth 100000 in
theorem q_L_count {G : pm_G} {H : fm_H} {d : Nat} {z0 : Nat × Nat × Nat} {v0 : Nat} {v1 : Int32} {m : fm_M} (hE : fm_E G H) (h0 : fm_is H v0 11) : fl_cal G H (d + 5) yL_count [.ref v0, .int v1] (fl_z H z0) m fm_rI (f_L_count H v0 v1 m) := by
  have T : fm_T RL cL_count tc_L_count fr_L mr_L cr_L lr_L := ⟨tok_L, dc_L_count⟩
  refine fl_wr (d := d + 4) T mh_L_count rfl rfl rfl rfl hE (n0 := 2) (pcc := 2) (ls1 := [some (.ref v0), some (.int v1), none]) (st1 := [.int v1, .ref v0]) rfl (idx := 60) rfl rfl rfl rfl h0 (q_X11_count (d := d) hE h0) ?_ ?_
  · intro x KR S hk
    exact xw_iret (px_dc_at T.2 (pc := 5) rfl) rfl rfl hk
  · intro E v KR S hv hk
    unfold h_L_count at hv
    refine Classical.byCases (p := E = pm_xA) (fun e0 => ?_) (fun e0 => ?_)
    · subst e0
      rw [if_pos rfl] at hv
      cases hv
      exact Or.inr ⟨[], [], (0, 5, 6, 43), pm_xA, -102, rfl, (fun q hq => by cases hq), by decide, by decide, lk_L_43, cb_pm_xA, by decide, Or.inl ⟨2, Nat.le_of_ble_eq_true rfl, px_dc_at T.2 (pc := 6) rfl, px_dc_at T.2 (pc := 7) rfl, px_dc_at T.2 (pc := 9) rfl⟩, ⟨_, _, rfl, rfl, rfl, hk⟩⟩
    rw [if_neg e0] at hv
    cases hv

def h_L_node (E : String) : Option Int32 := if E = pm_xB then some ((Int8.ofInt (-101)).toInt32) else if E = pm_xA then some ((Int8.ofInt (-102)).toInt32) else none
def f_L_node (H : fm_H) (v0 : Nat) (v1 : Int32) (v2 : Int32) (m : fm_M) : Option (Int32 × fm_M) := fl_w H (f_X11_node H v0 v1 v2 m) (fun x => x) h_L_node
set_option maxRecDepth 100000 in
theorem q_L_node {G : pm_G} {H : fm_H} {d : Nat} {z0 : Nat × Nat × Nat} {v0 : Nat} {v1 : Int32} {v2 : Int32} {m : fm_M} (hE : fm_E G H) (h0 : fm_is H v0 11) : fl_cal G H (d + 4) yL_node [.ref v0, .int v1, .int v2] (fl_z H z0) m fm_rI (f_L_node H v0 v1 v2 m) := by
  have T : fm_T RL cL_node tc_L_node fr_L mr_L cr_L lr_L := ⟨tok_L, dc_L_node⟩
  refine fl_wr (d := d + 3) T mh_L_node rfl rfl rfl rfl hE (n0 := 3) (pcc := 3) (ls1 := [some (.ref v0), some (.int v1), some (.int v2), none]) (st1 := [.int v2, .int v1, .ref v0]) rfl (idx := 63) rfl rfl rfl rfl h0 (q_X11_node (d := d) hE h0) ?_ ?_
  · intro x KR S hk
    exact xw_iret (px_dc_at T.2 (pc := 6) rfl) rfl rfl hk
  · intro E v KR S hv hk
    unfold h_L_node at hv
    refine Classical.byCases (p := E = pm_xB) (fun e0 => ?_) (fun e0 => ?_)
    · subst e0
      rw [if_pos rfl] at hv
      cases hv
      exact Or.inr ⟨[], [(0, 6, 11, 43)], (0, 6, 7, 51), pm_xB, -101, rfl, (fun q hq => by cases hq), by decide, by decide, lk_L_51, cb_pm_xB, by decide, Or.inl ⟨3, Nat.le_of_ble_eq_true rfl, px_dc_at T.2 (pc := 7) rfl, px_dc_at T.2 (pc := 8) rfl, px_dc_at T.2 (pc := 10) rfl⟩, ⟨_, _, rfl, rfl, rfl, hk⟩⟩
    refine Classical.byCases (p := E = pm_xA) (fun e1 => ?_) (fun e1 => ?_)
    · subst e1
      rw [if_neg (by decide)] at hv
      rw [if_pos rfl] at hv
      cases hv
      exact Or.inr ⟨[(0, 6, 7, 51)], [], (0, 6, 11, 43), pm_xA, -102, rfl, List.forall_mem_cons.mpr ⟨Or.inr ⟨by decide, pm_xB, lk_L_51, by decide, by decide⟩, (fun q hq => by cases hq)⟩, by decide, by decide, lk_L_43, cb_pm_xA, by decide, Or.inl ⟨3, Nat.le_of_ble_eq_true rfl, px_dc_at T.2 (pc := 11) rfl, px_dc_at T.2 (pc := 12) rfl, px_dc_at T.2 (pc := 14) rfl⟩, ⟨_, _, rfl, rfl, rfl, hk⟩⟩
    rw [if_neg e0, if_neg e1] at hv
    cases hv

def h_L_label (E : String) : Option Int32 := if E = pm_xB then some ((Int8.ofInt (-101)).toInt32) else if E = pm_xA then some ((Int8.ofInt (-102)).toInt32) else none
def f_L_label (H : fm_H) (v0 : Nat) (v1 : Int32) (v2 : Int32) (v3 : Int32) (m : fm_M) : Option (Int32 × fm_M) := fl_w H (f_X11_label H v0 v1 v2 v3 m) (fun x => x) h_L_label
set_option maxRecDepth 100000 in
theorem q_L_label {G : pm_G} {H : fm_H} {d : Nat} {z0 : Nat × Nat × Nat} {v0 : Nat} {v1 : Int32} {v2 : Int32} {v3 : Int32} {m : fm_M} (hE : fm_E G H) (h0 : fm_is H v0 11) : fl_cal G H (d + 5) yL_label [.ref v0, .int v1, .int v2, .int v3] (fl_z H z0) m fm_rI (f_L_label H v0 v1 v2 v3 m) := by
  have T : fm_T RL cL_label tc_L_label fr_L mr_L cr_L lr_L := ⟨tok_L, dc_L_label⟩
  refine fl_wr (d := d + 4) T mh_L_label rfl rfl rfl rfl hE (n0 := 4) (pcc := 4) (ls1 := [some (.ref v0), some (.int v1), some (.int v2), some (.int v3), none]) (st1 := [.int v3, .int v2, .int v1, .ref v0]) rfl (idx := 66) rfl rfl rfl rfl h0 (q_X11_label (d := d) hE h0) ?_ ?_
  · intro x KR S hk
    exact xw_iret (px_dc_at T.2 (pc := 7) rfl) rfl rfl hk
  · intro E v KR S hv hk
    unfold h_L_label at hv
    refine Classical.byCases (p := E = pm_xB) (fun e0 => ?_) (fun e0 => ?_)
    · subst e0
      rw [if_pos rfl] at hv
      cases hv
      exact Or.inr ⟨[], [(0, 7, 13, 43)], (0, 7, 8, 51), pm_xB, -101, rfl, (fun q hq => by cases hq), by decide, by decide, lk_L_51, cb_pm_xB, by decide, Or.inr ⟨4, Nat.le_of_ble_eq_true rfl, px_dc_at T.2 (pc := 8) rfl, px_dc_at T.2 (pc := 10) rfl, px_dc_at T.2 (pc := 12) rfl⟩, ⟨_, _, rfl, rfl, rfl, hk⟩⟩
    refine Classical.byCases (p := E = pm_xA) (fun e1 => ?_) (fun e1 => ?_)
    · subst e1
      rw [if_neg (by decide)] at hv
      rw [if_pos rfl] at hv
      cases hv
      exact Or.inr ⟨[(0, 7, 8, 51)], [], (0, 7, 13, 43), pm_xA, -102, rfl, List.forall_mem_cons.mpr ⟨Or.inr ⟨by decide, pm_xB, lk_L_51, by decide, by decide⟩, (fun q hq => by cases hq)⟩, by decide, by decide, lk_L_43, cb_pm_xA, by decide, Or.inr ⟨4, Nat.le_of_ble_eq_true rfl, px_dc_at T.2 (pc := 13) rfl, px_dc_at T.2 (pc := 15) rfl, px_dc_at T.2 (pc := 17) rfl⟩, ⟨_, _, rfl, rfl, rfl, hk⟩⟩
    rw [if_neg e0, if_neg e1] at hv
    cases hv

def h_L_link (E : String) : Option Int32 := if E = pm_xB then some ((Int8.ofInt (-101)).toInt32) else if E = pm_xA then some ((Int8.ofInt (-102)).toInt32) else none
def f_L_link (H : fm_H) (v0 : Nat) (v1 : Int32) (v2 : Int32) (m : fm_M) : Option (Int32 × fm_M) := fl_w H (f_X11_link H v0 v1 v2 m) (fun x => x) h_L_link
set_option maxRecDepth 100000 in
theorem q_L_link {G : pm_G} {H : fm_H} {d : Nat} {z0 : Nat × Nat × Nat} {v0 : Nat} {v1 : Int32} {v2 : Int32} {m : fm_M} (hE : fm_E G H) (h0 : fm_is H v0 11) : fl_cal G H (d + 4) yL_link [.ref v0, .int v1, .int v2] (fl_z H z0) m fm_rI (f_L_link H v0 v1 v2 m) := by
  have T : fm_T RL cL_link tc_L_link fr_L mr_L cr_L lr_L := ⟨tok_L, dc_L_link⟩
  refine fl_wr (d := d + 3) T mh_L_link rfl rfl rfl rfl hE (n0 := 3) (pcc := 3) (ls1 := [some (.ref v0), some (.int v1), some (.int v2), none]) (st1 := [.int v2, .int v1, .ref v0]) rfl (idx := 70) rfl rfl rfl rfl h0 (q_X11_link (d := d) hE h0) ?_ ?_
  · intro x KR S hk
    exact xw_iret (px_dc_at T.2 (pc := 6) rfl) rfl rfl hk
  · intro E v KR S hv hk
    unfold h_L_link at hv
    refine Classical.byCases (p := E = pm_xB) (fun e0 => ?_) (fun e0 => ?_)
    · subst e0
      rw [if_pos rfl] at hv
      cases hv
      exact Or.inr ⟨[], [(0, 6, 11, 43)], (0, 6, 7, 51), pm_xB, -101, rfl, (fun q hq => by cases hq), by decide, by decide, lk_L_51, cb_pm_xB, by decide, Or.inl ⟨3, Nat.le_of_ble_eq_true rfl, px_dc_at T.2 (pc := 7) rfl, px_dc_at T.2 (pc := 8) rfl, px_dc_at T.2 (pc := 10) rfl⟩, ⟨_, _, rfl, rfl, rfl, hk⟩⟩
    refine Classical.byCases (p := E = pm_xA) (fun e1 => ?_) (fun e1 => ?_)
    · subst e1
      rw [if_neg (by decide)] at hv
      rw [if_pos rfl] at hv
      cases hv
      exact Or.inr ⟨[(0, 6, 7, 51)], [], (0, 6, 11, 43), pm_xA, -102, rfl, List.forall_mem_cons.mpr ⟨Or.inr ⟨by decide, pm_xB, lk_L_51, by decide, by decide⟩, (fun q hq => by cases hq)⟩, by decide, by decide, lk_L_43, cb_pm_xA, by decide, Or.inl ⟨3, Nat.le_of_ble_eq_true rfl, px_dc_at T.2 (pc := 11) rfl, px_dc_at T.2 (pc := 12) rfl, px_dc_at T.2 (pc := 14) rfl⟩, ⟨_, _, rfl, rfl, rfl, hk⟩⟩
    rw [if_neg e0, if_neg e1] at hv
    cases hv

def h_L_draftBest (E : String) : Option Int32 := if E = pm_xB then some ((Int8.ofInt (-101)).toInt32) else if E = pm_xA then some ((Int8.ofInt (-102)).toInt32) else none
def f_L_draftBest (H : fm_H) (v0 : Nat) (v1 : Int32) (v2 : Int32) (v3 : Int32) (m : fm_M) : Option (Int32 × fm_M) := fl_w H (f_X11_draftBest H v0 v1 v2 v3 m) (fun x => x) h_L_draftBest
set_option maxRecDepth 100000 in
theorem q_L_draftBest {G : pm_G} {H : fm_H} {d : Nat} {z0 : Nat × Nat × Nat} {v0 : Nat} {v1 : Int32} {v2 : Int32} {v3 : Int32} {m : fm_M} (hE : fm_E G H) (h0 : fm_is H v0 11) : fl_cal G H (d + 14) yL_draftBest [.ref v0, .int v1, .int v2, .int v3] (fl_z H z0) m fm_rI (f_L_draftBest H v0 v1 v2 v3 m) := by
  have T : fm_T RL cL_draftBest tc_L_draftBest fr_L mr_L cr_L lr_L := ⟨tok_L, dc_L_draftBest⟩
  refine fl_wr (d := d + 13) T mh_L_draftBest rfl rfl rfl rfl hE (n0 := 4) (pcc := 4) (ls1 := [some (.ref v0), some (.int v1), some (.int v2), some (.int v3), none]) (st1 := [.int v3, .int v2, .int v1, .ref v0]) rfl (idx := 76) rfl rfl rfl rfl h0 (q_X11_draftBest (d := d) hE h0) ?_ ?_
  · intro x KR S hk
    exact xw_iret (px_dc_at T.2 (pc := 7) rfl) rfl rfl hk
  · intro E v KR S hv hk
    unfold h_L_draftBest at hv
    refine Classical.byCases (p := E = pm_xB) (fun e0 => ?_) (fun e0 => ?_)
    · subst e0
      rw [if_pos rfl] at hv
      cases hv
      exact Or.inr ⟨[], [(0, 7, 13, 43)], (0, 7, 8, 51), pm_xB, -101, rfl, (fun q hq => by cases hq), by decide, by decide, lk_L_51, cb_pm_xB, by decide, Or.inr ⟨4, Nat.le_of_ble_eq_true rfl, px_dc_at T.2 (pc := 8) rfl, px_dc_at T.2 (pc := 10) rfl, px_dc_at T.2 (pc := 12) rfl⟩, ⟨_, _, rfl, rfl, rfl, hk⟩⟩
    refine Classical.byCases (p := E = pm_xA) (fun e1 => ?_) (fun e1 => ?_)
    · subst e1
      rw [if_neg (by decide)] at hv
      rw [if_pos rfl] at hv
      cases hv
      exact Or.inr ⟨[(0, 7, 8, 51)], [], (0, 7, 13, 43), pm_xA, -102, rfl, List.forall_mem_cons.mpr ⟨Or.inr ⟨by decide, pm_xB, lk_L_51, by decide, by decide⟩, (fun q hq => by cases hq)⟩, by decide, by decide, lk_L_43, cb_pm_xA, by decide, Or.inr ⟨4, Nat.le_of_ble_eq_true rfl, px_dc_at T.2 (pc := 13) rfl, px_dc_at T.2 (pc := 15) rfl, px_dc_at T.2 (pc := 17) rfl⟩, ⟨_, _, rfl, rfl, rfl, hk⟩⟩
    rw [if_neg e0, if_neg e1] at hv
    cases hv

def h_L_draftNode (E : String) : Option Int32 := if E = pm_xB then some ((Int8.ofInt (-101)).toInt32) else none
def f_L_draftNode (H : fm_H) (v0 : Nat) (v1 : Int32) (m : fm_M) : Option (Int32 × fm_M) := fl_w H (f_X11_draftNode H v0 v1 m) (fun x => x) h_L_draftNode
set_option maxRecDepth 100000 in
theorem q_L_draftNode {G : pm_G} {H : fm_H} {d : Nat} {z0 : Nat × Nat × Nat} {v0 : Nat} {v1 : Int32} {m : fm_M} (hE : fm_E G H) (h0 : fm_is H v0 11) : fl_cal G H (d + 3) yL_draftNode [.ref v0, .int v1] (fl_z H z0) m fm_rI (f_L_draftNode H v0 v1 m) := by
  have T : fm_T RL cL_draftNode tc_L_draftNode fr_L mr_L cr_L lr_L := ⟨tok_L, dc_L_draftNode⟩
  refine fl_wr (d := d + 2) T mh_L_draftNode rfl rfl rfl rfl hE (n0 := 2) (pcc := 2) (ls1 := [some (.ref v0), some (.int v1), none]) (st1 := [.int v1, .ref v0]) rfl (idx := 79) rfl rfl rfl rfl h0 (q_X11_draftNode (d := d) hE h0) ?_ ?_
  · intro x KR S hk
    exact xw_iret (px_dc_at T.2 (pc := 5) rfl) rfl rfl hk
  · intro E v KR S hv hk
    unfold h_L_draftNode at hv
    refine Classical.byCases (p := E = pm_xB) (fun e0 => ?_) (fun e0 => ?_)
    · subst e0
      rw [if_pos rfl] at hv
      cases hv
      exact Or.inr ⟨[], [], (0, 5, 6, 51), pm_xB, -101, rfl, (fun q hq => by cases hq), by decide, by decide, lk_L_51, cb_pm_xB, by decide, Or.inl ⟨2, Nat.le_of_ble_eq_true rfl, px_dc_at T.2 (pc := 6) rfl, px_dc_at T.2 (pc := 7) rfl, px_dc_at T.2 (pc := 9) rfl⟩, ⟨_, _, rfl, rfl, rfl, hk⟩⟩
    rw [if_neg e0] at hv
    cases hv

def h_L_open (E : String) : Option Int32 := if E = pm_xA then some ((Int8.ofInt (-102)).toInt32) else none
def f_L_open (H : fm_H) (v0 : Nat) (v1 : Int32) (v2 : Int32) (m : fm_M) : Option (Int32 × fm_M) := fl_w H (f_X11_open H v0 v1 v2 m) (fun x => x) h_L_open
set_option maxRecDepth 100000 in
theorem q_L_open {G : pm_G} {H : fm_H} {d : Nat} {z0 : Nat × Nat × Nat} {v0 : Nat} {v1 : Int32} {v2 : Int32} {m : fm_M} (hE : fm_E G H) (h0 : fm_is H v0 11) : fl_cal G H (d + 7) yL_open [.ref v0, .int v1, .int v2] (fl_z H z0) m fm_rI (f_L_open H v0 v1 v2 m) := by
  have T : fm_T RL cL_open tc_L_open fr_L mr_L cr_L lr_L := ⟨tok_L, dc_L_open⟩
  refine fl_wr (d := d + 6) T mh_L_open rfl rfl rfl rfl hE (n0 := 3) (pcc := 3) (ls1 := [some (.ref v0), some (.int v1), some (.int v2), none]) (st1 := [.int v2, .int v1, .ref v0]) rfl (idx := 82) rfl rfl rfl rfl h0 (q_X11_open (d := d) hE h0) ?_ ?_
  · intro x KR S hk
    exact xw_iret (px_dc_at T.2 (pc := 6) rfl) rfl rfl hk
  · intro E v KR S hv hk
    unfold h_L_open at hv
    refine Classical.byCases (p := E = pm_xA) (fun e0 => ?_) (fun e0 => ?_)
    · subst e0
      rw [if_pos rfl] at hv
      cases hv
      exact Or.inr ⟨[], [], (0, 6, 7, 43), pm_xA, -102, rfl, (fun q hq => by cases hq), by decide, by decide, lk_L_43, cb_pm_xA, by decide, Or.inl ⟨3, Nat.le_of_ble_eq_true rfl, px_dc_at T.2 (pc := 7) rfl, px_dc_at T.2 (pc := 8) rfl, px_dc_at T.2 (pc := 10) rfl⟩, ⟨_, _, rfl, rfl, rfl, hk⟩⟩
    rw [if_neg e0] at hv
    cases hv

def h_L_close (E : String) : Option Int32 := if E = pm_xB then some ((Int8.ofInt (-101)).toInt32) else none
def f_L_close (H : fm_H) (v0 : Nat) (v1 : Int32) (m : fm_M) : Option (Int32 × fm_M) := fl_w H (f_X11_close H v0 v1 m) (fun x => x) h_L_close
set_option maxRecDepth 100000 in
theorem q_L_close {G : pm_G} {H : fm_H} {d : Nat} {z0 : Nat × Nat × Nat} {v0 : Nat} {v1 : Int32} {m : fm_M} (hE : fm_E G H) (h0 : fm_is H v0 11) : fl_cal G H (d + 6) yL_close [.ref v0, .int v1] (fl_z H z0) m fm_rI (f_L_close H v0 v1 m) := by
  have T : fm_T RL cL_close tc_L_close fr_L mr_L cr_L lr_L := ⟨tok_L, dc_L_close⟩
  refine fl_wr (d := d + 5) T mh_L_close rfl rfl rfl rfl hE (n0 := 2) (pcc := 2) (ls1 := [some (.ref v0), some (.int v1), none]) (st1 := [.int v1, .ref v0]) rfl (idx := 85) rfl rfl rfl rfl h0 (q_X11_close (d := d) hE h0) ?_ ?_
  · intro x KR S hk
    exact xw_iret (px_dc_at T.2 (pc := 5) rfl) rfl rfl hk
  · intro E v KR S hv hk
    unfold h_L_close at hv
    refine Classical.byCases (p := E = pm_xB) (fun e0 => ?_) (fun e0 => ?_)
    · subst e0
      rw [if_pos rfl] at hv
      cases hv
      exact Or.inr ⟨[], [], (0, 5, 6, 51), pm_xB, -101, rfl, (fun q hq => by cases hq), by decide, by decide, lk_L_51, cb_pm_xB, by decide, Or.inl ⟨2, Nat.le_of_ble_eq_true rfl, px_dc_at T.2 (pc := 6) rfl, px_dc_at T.2 (pc := 7) rfl, px_dc_at T.2 (pc := 9) rfl⟩, ⟨_, _, rfl, rfl, rfl, hk⟩⟩
    rw [if_neg e0] at hv
    cases hv

def h_L_moveBest (E : String) : Option Int32 := if E = pm_xB then some ((Int8.ofInt (-101)).toInt32) else none
def f_L_moveBest (H : fm_H) (v0 : Nat) (v1 : Int32) (v2 : Int32) (m : fm_M) : Option (Int32 × fm_M) := fl_w H (f_X11_moveBest H v0 v1 v2 m) (fun x => x) h_L_moveBest
set_option maxRecDepth 100000 in
theorem q_L_moveBest {G : pm_G} {H : fm_H} {d : Nat} {z0 : Nat × Nat × Nat} {v0 : Nat} {v1 : Int32} {v2 : Int32} {m : fm_M} (hE : fm_E G H) (h0 : fm_is H v0 11) : fl_cal G H (d + 15) yL_moveBest [.ref v0, .int v1, .int v2] (fl_z H z0) m fm_rI (f_L_moveBest H v0 v1 v2 m) := by
  have T : fm_T RL cL_moveBest tc_L_moveBest fr_L mr_L cr_L lr_L := ⟨tok_L, dc_L_moveBest⟩
  refine fl_wr (d := d + 14) T mh_L_moveBest rfl rfl rfl rfl hE (n0 := 3) (pcc := 3) (ls1 := [some (.ref v0), some (.int v1), some (.int v2), none]) (st1 := [.int v2, .int v1, .ref v0]) rfl (idx := 91) rfl rfl rfl rfl h0 (q_X11_moveBest (d := d) hE h0) ?_ ?_
  · intro x KR S hk
    exact xw_iret (px_dc_at T.2 (pc := 6) rfl) rfl rfl hk
  · intro E v KR S hv hk
    unfold h_L_moveBest at hv
    refine Classical.byCases (p := E = pm_xB) (fun e0 => ?_) (fun e0 => ?_)
    · subst e0
      rw [if_pos rfl] at hv
      cases hv
      exact Or.inr ⟨[], [], (0, 6, 7, 51), pm_xB, -101, rfl, (fun q hq => by cases hq), by decide, by decide, lk_L_51, cb_pm_xB, by decide, Or.inl ⟨3, Nat.le_of_ble_eq_true rfl, px_dc_at T.2 (pc := 7) rfl, px_dc_at T.2 (pc := 8) rfl, px_dc_at T.2 (pc := 10) rfl⟩, ⟨_, _, rfl, rfl, rfl, hk⟩⟩
    rw [if_neg e0] at hv
    cases hv

def h_L_abort (E : String) : Option Int32 := if E = pm_xB then some ((Int8.ofInt (-101)).toInt32) else none
def f_L_abort (H : fm_H) (v0 : Nat) (v1 : Int32) (m : fm_M) : Option (Int32 × fm_M) := fl_w H (f_X11_abort H v0 v1 m) (fun x => x) h_L_abort
set_option maxRecDepth 100000 in
theorem q_L_abort {G : pm_G} {H : fm_H} {d : Nat} {z0 : Nat × Nat × Nat} {v0 : Nat} {v1 : Int32} {m : fm_M} (hE : fm_E G H) (h0 : fm_is H v0 11) : fl_cal G H (d + 6) yL_abort [.ref v0, .int v1] (fl_z H z0) m fm_rI (f_L_abort H v0 v1 m) := by
  have T : fm_T RL cL_abort tc_L_abort fr_L mr_L cr_L lr_L := ⟨tok_L, dc_L_abort⟩
  refine fl_wr (d := d + 5) T mh_L_abort rfl rfl rfl rfl hE (n0 := 2) (pcc := 2) (ls1 := [some (.ref v0), some (.int v1), none]) (st1 := [.int v1, .ref v0]) rfl (idx := 94) rfl rfl rfl rfl h0 (q_X11_abort (d := d) hE h0) ?_ ?_
  · intro x KR S hk
    exact xw_iret (px_dc_at T.2 (pc := 5) rfl) rfl rfl hk
  · intro E v KR S hv hk
    unfold h_L_abort at hv
    refine Classical.byCases (p := E = pm_xB) (fun e0 => ?_) (fun e0 => ?_)
    · subst e0
      rw [if_pos rfl] at hv
      cases hv
      exact Or.inr ⟨[], [], (0, 5, 6, 51), pm_xB, -101, rfl, (fun q hq => by cases hq), by decide, by decide, lk_L_51, cb_pm_xB, by decide, Or.inl ⟨2, Nat.le_of_ble_eq_true rfl, px_dc_at T.2 (pc := 6) rfl, px_dc_at T.2 (pc := 7) rfl, px_dc_at T.2 (pc := 9) rfl⟩, ⟨_, _, rfl, rfl, rfl, hk⟩⟩
    rw [if_neg e0] at hv
    cases hv

def h_L_offer (E : String) : Option Int32 := if E = pm_xB then some ((Int8.ofInt (-101)).toInt32) else if E = pm_xA then some ((Int8.ofInt (-102)).toInt32) else none
def f_L_offer (H : fm_H) (v0 : Nat) (v1 : Int32) (v2 : Int32) (m : fm_M) : Option (Int32 × fm_M) := fl_w H (f_X11_offer H v0 v1 v2 m) (fun x => x) h_L_offer
set_option maxRecDepth 100000 in
theorem q_L_offer {G : pm_G} {H : fm_H} {d : Nat} {z0 : Nat × Nat × Nat} {v0 : Nat} {v1 : Int32} {v2 : Int32} {m : fm_M} (hE : fm_E G H) (h0 : fm_is H v0 11) : fl_cal G H (d + 4) yL_offer [.ref v0, .int v1, .int v2] (fl_z H z0) m fm_rI (f_L_offer H v0 v1 v2 m) := by
  have T : fm_T RL cL_offer tc_L_offer fr_L mr_L cr_L lr_L := ⟨tok_L, dc_L_offer⟩
  refine fl_wr (d := d + 3) T mh_L_offer rfl rfl rfl rfl hE (n0 := 3) (pcc := 3) (ls1 := [some (.ref v0), some (.int v1), some (.int v2), none]) (st1 := [.int v2, .int v1, .ref v0]) rfl (idx := 97) rfl rfl rfl rfl h0 (q_X11_offer (d := d) hE h0) ?_ ?_
  · intro x KR S hk
    exact xw_iret (px_dc_at T.2 (pc := 6) rfl) rfl rfl hk
  · intro E v KR S hv hk
    unfold h_L_offer at hv
    refine Classical.byCases (p := E = pm_xB) (fun e0 => ?_) (fun e0 => ?_)
    · subst e0
      rw [if_pos rfl] at hv
      cases hv
      exact Or.inr ⟨[], [(0, 6, 11, 43)], (0, 6, 7, 51), pm_xB, -101, rfl, (fun q hq => by cases hq), by decide, by decide, lk_L_51, cb_pm_xB, by decide, Or.inl ⟨3, Nat.le_of_ble_eq_true rfl, px_dc_at T.2 (pc := 7) rfl, px_dc_at T.2 (pc := 8) rfl, px_dc_at T.2 (pc := 10) rfl⟩, ⟨_, _, rfl, rfl, rfl, hk⟩⟩
    refine Classical.byCases (p := E = pm_xA) (fun e1 => ?_) (fun e1 => ?_)
    · subst e1
      rw [if_neg (by decide)] at hv
      rw [if_pos rfl] at hv
      cases hv
      exact Or.inr ⟨[(0, 6, 7, 51)], [], (0, 6, 11, 43), pm_xA, -102, rfl, List.forall_mem_cons.mpr ⟨Or.inr ⟨by decide, pm_xB, lk_L_51, by decide, by decide⟩, (fun q hq => by cases hq)⟩, by decide, by decide, lk_L_43, cb_pm_xA, by decide, Or.inl ⟨3, Nat.le_of_ble_eq_true rfl, px_dc_at T.2 (pc := 11) rfl, px_dc_at T.2 (pc := 12) rfl, px_dc_at T.2 (pc := 14) rfl⟩, ⟨_, _, rfl, rfl, rfl, hk⟩⟩
    rw [if_neg e0, if_neg e1] at hv
    cases hv

def h_L_run (E : String) : Option Int32 := if E = pm_xA then some ((Int8.ofInt (-102)).toInt32) else none
def f_L_run (H : fm_H) (v0 : Nat) (v1 : Int32) (m : fm_M) : Option (Int32 × fm_M) := fl_w H (f_X11_run H v0 v1 m) (fun x => x) h_L_run
set_option maxRecDepth 100000 in
theorem q_L_run {G : pm_G} {H : fm_H} {d : Nat} {z0 : Nat × Nat × Nat} {v0 : Nat} {v1 : Int32} {m : fm_M} (hE : fm_E G H) (h0 : fm_is H v0 11) : fl_cal G H (d + 8) yL_run [.ref v0, .int v1] (fl_z H z0) m fm_rI (f_L_run H v0 v1 m) := by
  have T : fm_T RL cL_run tc_L_run fr_L mr_L cr_L lr_L := ⟨tok_L, dc_L_run⟩
  refine fl_wr (d := d + 7) T mh_L_run rfl rfl rfl rfl hE (n0 := 2) (pcc := 2) (ls1 := [some (.ref v0), some (.int v1), none]) (st1 := [.int v1, .ref v0]) rfl (idx := 100) rfl rfl rfl rfl h0 (q_X11_run (d := d) hE h0) ?_ ?_
  · intro x KR S hk
    exact xw_iret (px_dc_at T.2 (pc := 5) rfl) rfl rfl hk
  · intro E v KR S hv hk
    unfold h_L_run at hv
    refine Classical.byCases (p := E = pm_xA) (fun e0 => ?_) (fun e0 => ?_)
    · subst e0
      rw [if_pos rfl] at hv
      cases hv
      exact Or.inr ⟨[], [], (0, 5, 6, 43), pm_xA, -102, rfl, (fun q hq => by cases hq), by decide, by decide, lk_L_43, cb_pm_xA, by decide, Or.inl ⟨2, Nat.le_of_ble_eq_true rfl, px_dc_at T.2 (pc := 6) rfl, px_dc_at T.2 (pc := 7) rfl, px_dc_at T.2 (pc := 9) rfl⟩, ⟨_, _, rfl, rfl, rfl, hk⟩⟩
    rw [if_neg e0] at hv
    cases hv

def h_L_circuit (E : String) : Option Int32 := if E = pm_xB then some ((Int8.ofInt (-101)).toInt32) else if E = pm_xA then some ((Int8.ofInt (-102)).toInt32) else none
def f_L_circuit (H : fm_H) (v0 : Nat) (v1 : Int32) (v2 : Int32) (m : fm_M) : Option (Int32 × fm_M) := fl_w H (f_X11_circuit H v0 v1 v2 m) (fun x => x) h_L_circuit
set_option maxRecDepth 100000 in
theorem q_L_circuit {G : pm_G} {H : fm_H} {d : Nat} {z0 : Nat × Nat × Nat} {v0 : Nat} {v1 : Int32} {v2 : Int32} {m : fm_M} (hE : fm_E G H) (h0 : fm_is H v0 11) : fl_cal G H (d + 5) yL_circuit [.ref v0, .int v1, .int v2] (fl_z H z0) m fm_rI (f_L_circuit H v0 v1 v2 m) := by
  have T : fm_T RL cL_circuit tc_L_circuit fr_L mr_L cr_L lr_L := ⟨tok_L, dc_L_circuit⟩
  refine fl_wr (d := d + 4) T mh_L_circuit rfl rfl rfl rfl hE (n0 := 3) (pcc := 3) (ls1 := [some (.ref v0), some (.int v1), some (.int v2), none]) (st1 := [.int v2, .int v1, .ref v0]) rfl (idx := 103) rfl rfl rfl rfl h0 (q_X11_circuit (d := d) hE h0) ?_ ?_
  · intro x KR S hk
    exact xw_iret (px_dc_at T.2 (pc := 6) rfl) rfl rfl hk
  · intro E v KR S hv hk
    unfold h_L_circuit at hv
    refine Classical.byCases (p := E = pm_xB) (fun e0 => ?_) (fun e0 => ?_)
    · subst e0
      rw [if_pos rfl] at hv
      cases hv
      exact Or.inr ⟨[], [(0, 6, 11, 43)], (0, 6, 7, 51), pm_xB, -101, rfl, (fun q hq => by cases hq), by decide, by decide, lk_L_51, cb_pm_xB, by decide, Or.inl ⟨3, Nat.le_of_ble_eq_true rfl, px_dc_at T.2 (pc := 7) rfl, px_dc_at T.2 (pc := 8) rfl, px_dc_at T.2 (pc := 10) rfl⟩, ⟨_, _, rfl, rfl, rfl, hk⟩⟩
    refine Classical.byCases (p := E = pm_xA) (fun e1 => ?_) (fun e1 => ?_)
    · subst e1
      rw [if_neg (by decide)] at hv
      rw [if_pos rfl] at hv
      cases hv
      exact Or.inr ⟨[(0, 6, 7, 51)], [], (0, 6, 11, 43), pm_xA, -102, rfl, List.forall_mem_cons.mpr ⟨Or.inr ⟨by decide, pm_xB, lk_L_51, by decide, by decide⟩, (fun q hq => by cases hq)⟩, by decide, by decide, lk_L_43, cb_pm_xA, by decide, Or.inl ⟨3, Nat.le_of_ble_eq_true rfl, px_dc_at T.2 (pc := 11) rfl, px_dc_at T.2 (pc := 12) rfl, px_dc_at T.2 (pc := 14) rfl⟩, ⟨_, _, rfl, rfl, rfl, hk⟩⟩
    rw [if_neg e0, if_neg e1] at hv
    cases hv

def h_L_way (E : String) : Option Int32 := if E = pm_xB then some ((Int8.ofInt (-101)).toInt32) else if E = pm_xA then some ((Int8.ofInt (-102)).toInt32) else none
def f_L_way (H : fm_H) (v0 : Nat) (v1 : Int32) (v2 : Int32) (v3 : Int32) (v4 : Int32) (m : fm_M) : Option (Int32 × fm_M) := fl_w H (f_X11_way H v0 v1 v2 v3 v4 m) (fun x => x) h_L_way
set_option maxRecDepth 100000 in
theorem q_L_way {G : pm_G} {H : fm_H} {d : Nat} {z0 : Nat × Nat × Nat} {v0 : Nat} {v1 : Int32} {v2 : Int32} {v3 : Int32} {v4 : Int32} {m : fm_M} (hE : fm_E G H) (h0 : fm_is H v0 11) : fl_cal G H (d + 4) yL_way [.ref v0, .int v1, .int v2, .int v3, .int v4] (fl_z H z0) m fm_rI (f_L_way H v0 v1 v2 v3 v4 m) := by
  have T : fm_T RL cL_way tc_L_way fr_L mr_L cr_L lr_L := ⟨tok_L, dc_L_way⟩
  refine fl_wr (d := d + 3) T mh_L_way rfl rfl rfl rfl hE (n0 := 5) (pcc := 6) (ls1 := [some (.ref v0), some (.int v1), some (.int v2), some (.int v3), some (.int v4), none]) (st1 := [.int v4, .int v3, .int v2, .int v1, .ref v0]) rfl (idx := 106) rfl rfl rfl rfl h0 (q_X11_way (d := d) hE h0) ?_ ?_
  · intro x KR S hk
    exact xw_iret (px_dc_at T.2 (pc := 9) rfl) rfl rfl hk
  · intro E v KR S hv hk
    unfold h_L_way at hv
    refine Classical.byCases (p := E = pm_xB) (fun e0 => ?_) (fun e0 => ?_)
    · subst e0
      rw [if_pos rfl] at hv
      cases hv
      exact Or.inr ⟨[], [(0, 9, 15, 43)], (0, 9, 10, 51), pm_xB, -101, rfl, (fun q hq => by cases hq), by decide, by decide, lk_L_51, cb_pm_xB, by decide, Or.inr ⟨5, Nat.le_of_ble_eq_true rfl, px_dc_at T.2 (pc := 10) rfl, px_dc_at T.2 (pc := 12) rfl, px_dc_at T.2 (pc := 14) rfl⟩, ⟨_, _, rfl, rfl, rfl, hk⟩⟩
    refine Classical.byCases (p := E = pm_xA) (fun e1 => ?_) (fun e1 => ?_)
    · subst e1
      rw [if_neg (by decide)] at hv
      rw [if_pos rfl] at hv
      cases hv
      exact Or.inr ⟨[(0, 9, 10, 51)], [], (0, 9, 15, 43), pm_xA, -102, rfl, List.forall_mem_cons.mpr ⟨Or.inr ⟨by decide, pm_xB, lk_L_51, by decide, by decide⟩, (fun q hq => by cases hq)⟩, by decide, by decide, lk_L_43, cb_pm_xA, by decide, Or.inr ⟨5, Nat.le_of_ble_eq_true rfl, px_dc_at T.2 (pc := 15) rfl, px_dc_at T.2 (pc := 17) rfl, px_dc_at T.2 (pc := 19) rfl⟩, ⟨_, _, rfl, rfl, rfl, hk⟩⟩
    rw [if_neg e0, if_neg e1] at hv
    cases hv

def f_L_meanDelay (H : fm_H) (v0 : Nat) (v1 : Int32) (m : fm_M) : Option (UInt64 × fm_M) := fl_wd (f_X11_meanDelay H v0 v1 m)
set_option maxRecDepth 100000 in
theorem q_L_meanDelay {G : pm_G} {H : fm_H} {d : Nat} {z0 : Nat × Nat × Nat} {v0 : Nat} {v1 : Int32} {m : fm_M} (hE : fm_E G H) (h0 : fm_is H v0 11) : fl_cal G H (d + 4) yL_meanDelay [.ref v0, .int v1] (fl_z H z0) m fm_rD (f_L_meanDelay H v0 v1 m) := by
  have T : fm_T RL cL_meanDelay tc_L_meanDelay fr_L mr_L cr_L lr_L := ⟨tok_L, dc_L_meanDelay⟩
  refine fl_wrD (d := d + 3) T mh_L_meanDelay rfl rfl rfl rfl hE (n0 := 2) (pcc := 2) (ls1 := [some (.ref v0), some (.int v1), none]) (st1 := [.int v1, .ref v0]) rfl (idx := 113) rfl rfl rfl rfl h0 (q_X11_meanDelay (d := d) hE h0) ?_
  · intro x KR S hk
    exact xw_dret (px_dc_at T.2 (pc := 5) rfl) rfl hk

def h_L_canMove (E : String) : Option Int32 := if E = pm_xB then some ((Int8.ofInt (-101)).toInt32) else none
def f_L_canMove (H : fm_H) (v0 : Nat) (v1 : Int32) (v2 : Int32) (m : fm_M) : Option (Int32 × fm_M) := fl_w H (f_X11_canMove H v0 v1 v2 m) (fun x => x) h_L_canMove
set_option maxRecDepth 100000 in
theorem q_L_canMove {G : pm_G} {H : fm_H} {d : Nat} {z0 : Nat × Nat × Nat} {v0 : Nat} {v1 : Int32} {v2 : Int32} {m : fm_M} (hE : fm_E G H) (h0 : fm_is H v0 11) : fl_cal G H (d + 15) yL_canMove [.ref v0, .int v1, .int v2] (fl_z H z0) m fm_rI (f_L_canMove H v0 v1 v2 m) := by
  have T : fm_T RL cL_canMove tc_L_canMove fr_L mr_L cr_L lr_L := ⟨tok_L, dc_L_canMove⟩
  refine fl_wr (d := d + 14) T mh_L_canMove rfl rfl rfl rfl hE (n0 := 3) (pcc := 3) (ls1 := [some (.ref v0), some (.int v1), some (.int v2), none]) (st1 := [.int v2, .int v1, .ref v0]) rfl (idx := 119) rfl rfl rfl rfl h0 (q_X11_canMove (d := d) hE h0) ?_ ?_
  · intro x KR S hk
    exact xw_iret (px_dc_at T.2 (pc := 6) rfl) rfl rfl hk
  · intro E v KR S hv hk
    unfold h_L_canMove at hv
    refine Classical.byCases (p := E = pm_xB) (fun e0 => ?_) (fun e0 => ?_)
    · subst e0
      rw [if_pos rfl] at hv
      cases hv
      exact Or.inr ⟨[], [], (0, 6, 7, 51), pm_xB, -101, rfl, (fun q hq => by cases hq), by decide, by decide, lk_L_51, cb_pm_xB, by decide, Or.inl ⟨3, Nat.le_of_ble_eq_true rfl, px_dc_at T.2 (pc := 7) rfl, px_dc_at T.2 (pc := 8) rfl, px_dc_at T.2 (pc := 10) rfl⟩, ⟨_, _, rfl, rfl, rfl, hk⟩⟩
    rw [if_neg e0] at hv
    cases hv

def h_L_movedIn (E : String) : Option Int32 := if E = pm_xB then some ((Int8.ofInt (-101)).toInt32) else none
def f_L_movedIn (H : fm_H) (v0 : Nat) (v1 : Int32) (m : fm_M) : Option (Int32 × fm_M) := fl_w H (f_X11_movedIn H v0 v1 m) (fun x => x) h_L_movedIn
set_option maxRecDepth 100000 in
theorem q_L_movedIn {G : pm_G} {H : fm_H} {d : Nat} {z0 : Nat × Nat × Nat} {v0 : Nat} {v1 : Int32} {m : fm_M} (hE : fm_E G H) (h0 : fm_is H v0 11) : fl_cal G H (d + 6) yL_movedIn [.ref v0, .int v1] (fl_z H z0) m fm_rI (f_L_movedIn H v0 v1 m) := by
  have T : fm_T RL cL_movedIn tc_L_movedIn fr_L mr_L cr_L lr_L := ⟨tok_L, dc_L_movedIn⟩
  refine fl_wr (d := d + 5) T mh_L_movedIn rfl rfl rfl rfl hE (n0 := 2) (pcc := 2) (ls1 := [some (.ref v0), some (.int v1), none]) (st1 := [.int v1, .ref v0]) rfl (idx := 122) rfl rfl rfl rfl h0 (q_X11_movedIn (d := d) hE h0) ?_ ?_
  · intro x KR S hk
    exact xw_iret (px_dc_at T.2 (pc := 5) rfl) rfl rfl hk
  · intro E v KR S hv hk
    unfold h_L_movedIn at hv
    refine Classical.byCases (p := E = pm_xB) (fun e0 => ?_) (fun e0 => ?_)
    · subst e0
      rw [if_pos rfl] at hv
      cases hv
      exact Or.inr ⟨[], [], (0, 5, 6, 51), pm_xB, -101, rfl, (fun q hq => by cases hq), by decide, by decide, lk_L_51, cb_pm_xB, by decide, Or.inl ⟨2, Nat.le_of_ble_eq_true rfl, px_dc_at T.2 (pc := 6) rfl, px_dc_at T.2 (pc := 7) rfl, px_dc_at T.2 (pc := 9) rfl⟩, ⟨_, _, rfl, rfl, rfl, hk⟩⟩
    rw [if_neg e0] at hv
    cases hv

def h_L_ahead (E : String) : Option Int32 := if E = pm_xA then some ((Int8.ofInt (-102)).toInt32) else none
def f_L_ahead (H : fm_H) (v0 : Nat) (v1 : Int32) (v2 : Int32) (m : fm_M) : Option (Int32 × fm_M) := fl_w H (f_X11_ahead H v0 v1 v2 m) (fun x => x) h_L_ahead
set_option maxRecDepth 100000 in
theorem q_L_ahead {G : pm_G} {H : fm_H} {d : Nat} {z0 : Nat × Nat × Nat} {v0 : Nat} {v1 : Int32} {v2 : Int32} {m : fm_M} (hE : fm_E G H) (h0 : fm_is H v0 11) : fl_cal G H (d + 8) yL_ahead [.ref v0, .int v1, .int v2] (fl_z H z0) m fm_rI (f_L_ahead H v0 v1 v2 m) := by
  have T : fm_T RL cL_ahead tc_L_ahead fr_L mr_L cr_L lr_L := ⟨tok_L, dc_L_ahead⟩
  refine fl_wr (d := d + 7) T mh_L_ahead rfl rfl rfl rfl hE (n0 := 3) (pcc := 3) (ls1 := [some (.ref v0), some (.int v1), some (.int v2), none]) (st1 := [.int v2, .int v1, .ref v0]) rfl (idx := 125) rfl rfl rfl rfl h0 (q_X11_ahead (d := d) hE h0) ?_ ?_
  · intro x KR S hk
    exact xw_iret (px_dc_at T.2 (pc := 6) rfl) rfl rfl hk
  · intro E v KR S hv hk
    unfold h_L_ahead at hv
    refine Classical.byCases (p := E = pm_xA) (fun e0 => ?_) (fun e0 => ?_)
    · subst e0
      rw [if_pos rfl] at hv
      cases hv
      exact Or.inr ⟨[], [], (0, 6, 7, 43), pm_xA, -102, rfl, (fun q hq => by cases hq), by decide, by decide, lk_L_43, cb_pm_xA, by decide, Or.inl ⟨3, Nat.le_of_ble_eq_true rfl, px_dc_at T.2 (pc := 7) rfl, px_dc_at T.2 (pc := 8) rfl, px_dc_at T.2 (pc := 10) rfl⟩, ⟨_, _, rfl, rfl, rfl, hk⟩⟩
    rw [if_neg e0] at hv
    cases hv

def h_L_save (E : String) : Option Int32 := if E = pm_xA then some ((Int8.ofInt (-102)).toInt32) else none
def f_L_save (H : fm_H) (v0 : Nat) (v1 : Int32) (m : fm_M) : Option (Int32 × fm_M) := fl_w H (f_X11_save H v0 v1 m) (fun _ => 0) h_L_save
set_option maxRecDepth 100000 in
theorem q_L_save {G : pm_G} {H : fm_H} {d : Nat} {z0 : Nat × Nat × Nat} {v0 : Nat} {v1 : Int32} {m : fm_M} (hE : fm_E G H) (h0 : fm_is H v0 11) : fl_cal G H (d + 6) yL_save [.ref v0, .int v1] (fl_z H z0) m fm_rI (f_L_save H v0 v1 m) := by
  have T : fm_T RL cL_save tc_L_save fr_L mr_L cr_L lr_L := ⟨tok_L, dc_L_save⟩
  refine fl_wrV (d := d + 5) T mh_L_save rfl rfl rfl rfl hE (n0 := 2) (pcc := 2) (ls1 := [some (.ref v0), some (.int v1), none]) (st1 := [.int v1, .ref v0]) rfl (idx := 128) rfl rfl rfl rfl h0 (q_X11_save (d := d) hE h0) ?_ ?_
  · intro KR S hk
    refine xw_ru T 1 5 6 [some (.ref v0), some (.int v1), none] [.int 0] rfl ?_
    exact xw_iret (px_dc_at T.2 (pc := 6) rfl) rfl rfl hk
  · intro E v KR S hv hk
    unfold h_L_save at hv
    refine Classical.byCases (p := E = pm_xA) (fun e0 => ?_) (fun e0 => ?_)
    · subst e0
      rw [if_pos rfl] at hv
      cases hv
      exact Or.inr ⟨[], [], (0, 6, 7, 43), pm_xA, -102, rfl, (fun q hq => by cases hq), by decide, by decide, lk_L_43, cb_pm_xA, by decide, Or.inl ⟨2, Nat.le_of_ble_eq_true rfl, px_dc_at T.2 (pc := 7) rfl, px_dc_at T.2 (pc := 8) rfl, px_dc_at T.2 (pc := 10) rfl⟩, ⟨_, _, rfl, rfl, rfl, hk⟩⟩
    rw [if_neg e0] at hv
    cases hv

def h_L_restore (E : String) : Option Int32 := if E = pm_xA then some ((Int8.ofInt (-102)).toInt32) else if E = pm_xI then some ((Int8.ofInt (-103)).toInt32) else none
def f_L_restore (H : fm_H) (v0 : Nat) (v1 : Int32) (m : fm_M) : Option (Int32 × fm_M) := fl_w H (f_X11_restore H v0 v1 m) (fun _ => 0) h_L_restore
set_option maxRecDepth 100000 in
theorem q_L_restore {G : pm_G} {H : fm_H} {d : Nat} {z0 : Nat × Nat × Nat} {v0 : Nat} {v1 : Int32} {m : fm_M} (hE : fm_E G H) (h0 : fm_is H v0 11) : fl_cal G H (d + 6) yL_restore [.ref v0, .int v1] (fl_z H z0) m fm_rI (f_L_restore H v0 v1 m) := by
  have T : fm_T RL cL_restore tc_L_restore fr_L mr_L cr_L lr_L := ⟨tok_L, dc_L_restore⟩
  refine fl_wrV (d := d + 5) T mh_L_restore rfl rfl rfl rfl hE (n0 := 2) (pcc := 2) (ls1 := [some (.ref v0), some (.int v1), none]) (st1 := [.int v1, .ref v0]) rfl (idx := 132) rfl rfl rfl rfl h0 (q_X11_restore (d := d) hE h0) ?_ ?_
  · intro KR S hk
    refine xw_ru T 1 5 6 [some (.ref v0), some (.int v1), none] [.int 0] rfl ?_
    exact xw_iret (px_dc_at T.2 (pc := 6) rfl) rfl rfl hk
  · intro E v KR S hv hk
    unfold h_L_restore at hv
    refine Classical.byCases (p := E = pm_xA) (fun e0 => ?_) (fun e0 => ?_)
    · subst e0
      rw [if_pos rfl] at hv
      cases hv
      exact Or.inr ⟨[], [(0, 6, 11, 45)], (0, 6, 7, 43), pm_xA, -102, rfl, (fun q hq => by cases hq), by decide, by decide, lk_L_43, cb_pm_xA, by decide, Or.inl ⟨2, Nat.le_of_ble_eq_true rfl, px_dc_at T.2 (pc := 7) rfl, px_dc_at T.2 (pc := 8) rfl, px_dc_at T.2 (pc := 10) rfl⟩, ⟨_, _, rfl, rfl, rfl, hk⟩⟩
    refine Classical.byCases (p := E = pm_xI) (fun e1 => ?_) (fun e1 => ?_)
    · subst e1
      rw [if_neg (by decide)] at hv
      rw [if_pos rfl] at hv
      cases hv
      exact Or.inr ⟨[(0, 6, 7, 43)], [], (0, 6, 11, 45), pm_xI, -103, rfl, List.forall_mem_cons.mpr ⟨Or.inr ⟨by decide, pm_xA, lk_L_43, by decide, by decide⟩, (fun q hq => by cases hq)⟩, by decide, by decide, lk_L_45, cb_pm_xI, by decide, Or.inl ⟨2, Nat.le_of_ble_eq_true rfl, px_dc_at T.2 (pc := 11) rfl, px_dc_at T.2 (pc := 12) rfl, px_dc_at T.2 (pc := 14) rfl⟩, ⟨_, _, rfl, rfl, rfl, hk⟩⟩
    rw [if_neg e0, if_neg e1] at hv
    cases hv

