/-! THE LAW'S CALLS, EACH -/
section LAWK
variable {G : pm_G} {H : fm_H} {Lo : Nat → Nat → Int32} {T x b o od sb L : Nat} {xs : Nat → Int32} {F Fd : Nat → Value} {m : fm_M} {z : Option Nat × Nat × Nat}
theorem kc_appendText (h : LW G H Lo x b o od sb L) (hT : TOP Lo T x b m) (v1 : Int32) : KA G H Lo T x b o od sb L xs F Fd m z (fun r => .long r.toInt64) yL_appendText yX12_appendText [.int v1] := by
  obtain ⟨n, f, hx⟩ := fc_i (m := m) h.hX.1
  exact k_an (cs := [pm_xI]) h (Nat.le_of_ble_eq_true rfl) (t_appendText h.hX h.hM h.hb hT v1) (q_X11_appendText (d := 38) h.hE h.hX.1) (fun z1 m1 => q_X12_appendText (d := 39) h.hE h.hM.1) (fun m1 r c => wL_appendText_n hx lwX_o (fm_c_n h.no) c) (fun m1 k e hk c => wL_appendText_x hx hk c)
theorem kc_truncateText (h : LW G H Lo x b o od sb L) (hT : TOP Lo T x b m) (v1 : Int32) : KA G H Lo T x b o od sb L xs F Fd m z (fun r => .long r.toInt64) yL_truncateText yX12_truncateText [.int v1] := by
  obtain ⟨n, f, hx⟩ := fc_i (m := m) h.hX.1
  exact k_an (cs := [pm_xA]) h (Nat.le_of_ble_eq_true rfl) (t_truncateText h.hX h.hM h.hb hT v1) (q_X11_truncateText (d := 38) h.hE h.hX.1) (fun z1 m1 => q_X12_truncateText (d := 39) h.hE h.hM.1) (fun m1 r c => wL_truncateText_n hx lwX_o (fm_c_n h.no) c) (fun m1 k e hk c => wL_truncateText_x hx hk c)
theorem kc_load (h : LW G H Lo x b o od sb L) (hT : TOP Lo T x b m) : KE fm_rI G H Lo T x b o od sb L xs F Fd m z yX11_load yX12_load := k_eq (fun _ _ => rfl) (t_load h.hX h.hM h.hb h.wd hT) (q_X11_load (d := 34) h.hE h.hX.1) (fun m1 => q_X12_load (d := 32) h.hE h.hM.1)
theorem kc_errorCode (h : LW G H Lo x b o od sb L) (hT : TOP Lo T x b m) : KE fm_rI G H Lo T x b o od sb L xs F Fd m z yX11_errorCode yX12_errorCode := k_eq (fun _ _ => rfl) (t_errorCode h.hM h.hb hT) (q_X11_errorCode (d := 40) h.hE h.hX.1) (fun m1 => q_X12_errorCode (d := 40) h.hE h.hM.1)
theorem kc_errorPosition (h : LW G H Lo x b o od sb L) (hT : TOP Lo T x b m) : KE fm_rI G H Lo T x b o od sb L xs F Fd m z yX11_errorPosition yX12_errorPosition := k_eq (fun _ _ => rfl) (t_errorPosition h.hM h.hb hT) (q_X11_errorPosition (d := 40) h.hE h.hX.1) (fun m1 => q_X12_errorPosition (d := 40) h.hE h.hM.1)
theorem kc_addNode (h : LW G H Lo x b o od sb L) (hT : TOP Lo T x b m) (v1 : Int32) : KA G H Lo T x b o od sb L xs F Fd m z (fun r => .long r.toInt64) yL_addNode yX12_addNode [.int v1] := by
  obtain ⟨n, f, hx⟩ := fc_i (m := m) h.hX.1
  exact k_an (cs := [pm_xA, pm_xI]) h (Nat.le_of_ble_eq_true rfl) (t_addNode h.hX h.hM h.hb hT v1) (q_X11_addNode (d := 37) h.hE h.hX.1) (fun z1 m1 => q_X12_addNode (d := 39) h.hE h.hM.1) (fun m1 r c => wL_addNode_n hx lwX_o (fm_c_n h.no) c) (fun m1 k e hk c => wL_addNode_x hx hk c)
theorem kc_addLink (h : LW G H Lo x b o od sb L) (hT : TOP Lo T x b m) (v1 : Int32) (v2 : Int32) (v3 : Int32) (v4 : Int32) : KA G H Lo T x b o od sb L xs F Fd m z (fun r => .long r.toInt64) yL_addLink yX12_addLink [.int v1, .int v2, .int v3, .int v4] := by
  obtain ⟨n, f, hx⟩ := fc_i (m := m) h.hX.1
  exact k_an (cs := [pm_xB, pm_xA, pm_xI]) h (Nat.le_of_ble_eq_true rfl) (t_addLink h.hX h.hM h.hb hT v1 v2 v3 v4) (q_X11_addLink (d := 37) h.hE h.hX.1) (fun z1 m1 => q_X12_addLink (d := 38) h.hE h.hM.1) (fun m1 r c => wL_addLink_n hx lwX_o (fm_c_n h.no) c) (fun m1 k e hk c => wL_addLink_x hx hk c)
theorem kc_setUp (h : LW G H Lo x b o od sb L) (hT : TOP Lo T x b m) (v1 : Int32) (v2 : Bool) : KA G H Lo T x b o od sb L xs F Fd m z (fun r => .long (if r = 0 then 0 else 1)) yL_setUp yX12_setUp [.int v1, .int (bi v2)] := by
  obtain ⟨n, f, hx⟩ := fc_i (m := m) h.hX.1
  exact k_an (cs := [pm_xB]) h (Nat.le_of_ble_eq_true rfl) (t_setUp h.hX h.hM h.hb hT v1 v2) (q_X11_setUp (d := 36) h.hE h.hX.1) (fun z1 m1 => q_X12_setUp (d := 38) h.hE h.hM.1) (fun m1 r c => wL_setUp_n hx lwX_o (fm_c_n h.no) c) (fun m1 k e hk c => wL_setUp_x hx hk c)
theorem kc_set (h : LW G H Lo x b o od sb L) (hT : TOP Lo T x b m) (v1 : Int32) (v2 : Int32) : KA G H Lo T x b o od sb L xs F Fd m z (fun r => .long r.toInt64) yL_set yX12_set [.int v1, .int v2] := by
  obtain ⟨n, f, hx⟩ := fc_i (m := m) h.hX.1
  exact k_an (cs := [pm_xA]) h (Nat.le_of_ble_eq_true rfl) (t_setg h.hX h.hM h.hb hT v1 v2) (q_X11_set (d := 38) h.hE h.hX.1) (fun z1 m1 => q_X12_set (d := 39) h.hE h.hM.1) (fun m1 r c => wL_set_n hx lwX_o (fm_c_n h.no) c) (fun m1 k e hk c => wL_set_x hx hk c)
theorem kc_count (h : LW G H Lo x b o od sb L) (hT : TOP Lo T x b m) (v1 : Int32) : KA G H Lo T x b o od sb L xs F Fd m z (fun r => .long r.toInt64) yL_count yX12_count [.int v1] := by
  obtain ⟨n, f, hx⟩ := fc_i (m := m) h.hX.1
  exact k_an (cs := [pm_xA]) h (Nat.le_of_ble_eq_true rfl) (t_count h.hX h.hM h.hb hT v1) (q_X11_count (d := 36) h.hE h.hX.1) (fun z1 m1 => q_X12_count (d := 37) h.hE h.hM.1) (fun m1 r c => wL_count_n hx lwX_o (fm_c_n h.no) c) (fun m1 k e hk c => wL_count_x hx hk c)
theorem kc_node (h : LW G H Lo x b o od sb L) (hT : TOP Lo T x b m) (v1 : Int32) (v2 : Int32) : KA G H Lo T x b o od sb L xs F Fd m z (fun r => .long r.toInt64) yL_node yX12_node [.int v1, .int v2] := by
  obtain ⟨n, f, hx⟩ := fc_i (m := m) h.hX.1
  exact k_an (cs := [pm_xB, pm_xA]) h (Nat.le_of_ble_eq_true rfl) (t_node h.hX h.hM h.hb hT v1 v2) (q_X11_node (d := 37) h.hE h.hX.1) (fun z1 m1 => q_X12_node (d := 37) h.hE h.hM.1) (fun m1 r c => wL_node_n hx lwX_o (fm_c_n h.no) c) (fun m1 k e hk c => wL_node_x hx hk c)
theorem kc_label (h : LW G H Lo x b o od sb L) (hT : TOP Lo T x b m) (v1 : Int32) (v2 : Int32) (v3 : Int32) : KA G H Lo T x b o od sb L xs F Fd m z (fun r => .long r.toInt64) yL_label yX12_label [.int v1, .int v2, .int v3] := by
  obtain ⟨n, f, hx⟩ := fc_i (m := m) h.hX.1
  exact k_an (cs := [pm_xB, pm_xA]) h (Nat.le_of_ble_eq_true rfl) (t_label h.hX h.hM h.hb hT v1 v2 v3) (q_X11_label (d := 36) h.hE h.hX.1) (fun z1 m1 => q_X12_label (d := 38) h.hE h.hM.1) (fun m1 r c => wL_label_n hx lwX_o (fm_c_n h.no) c) (fun m1 k e hk c => wL_label_x hx hk c)
theorem kc_link (h : LW G H Lo x b o od sb L) (hT : TOP Lo T x b m) (v1 : Int32) (v2 : Int32) : KA G H Lo T x b o od sb L xs F Fd m z (fun r => .long r.toInt64) yL_link yX12_link [.int v1, .int v2] := by
  obtain ⟨n, f, hx⟩ := fc_i (m := m) h.hX.1
  exact k_an (cs := [pm_xB, pm_xA]) h (Nat.le_of_ble_eq_true rfl) (t_linkg h.hX h.hM h.hb hT v1 v2) (q_X11_link (d := 37) h.hE h.hX.1) (fun z1 m1 => q_X12_link (d := 36) h.hE h.hM.1) (fun m1 r c => wL_link_n hx lwX_o (fm_c_n h.no) c) (fun m1 k e hk c => wL_link_x hx hk c)
theorem kc_draft (h : LW G H Lo x b o od sb L) (hT : TOP Lo T x b m) (v1 : Int32) : KA G H Lo T x b o od sb L xs F Fd m z (fun r => .long r.toInt64) yL_draft yX12_draft [.int v1] := by
  obtain ⟨n, f, hx⟩ := fc_i (m := m) h.hX.1
  exact k_an (cs := [pm_xB, pm_xI]) h (Nat.le_of_ble_eq_true rfl) (t_draft h.hX h.hM h.hb hT v1) (q_X11_draft (d := 37) h.hE h.hX.1) (fun z1 m1 => q_X12_draft (d := 38) h.hE h.hM.1) (fun m1 r c => wL_draft_n hx lwX_o (fm_c_n h.no) c) (fun m1 k e hk c => wL_draft_x hx hk c)
theorem kc_clearDraft (h : LW G H Lo x b o od sb L) (hT : TOP Lo T x b m) : KE fm_rI G H Lo T x b o od sb L xs F Fd m z yX11_clearDraft yX12_clearDraft := k_eq (fun _ _ => rfl) (t_clearDraft h.hX h.hM h.hb hT) (q_X11_clearDraft (d := 39) h.hE h.hX.1) (fun m1 => q_X12_clearDraft (d := 40) h.hE h.hM.1)
theorem kc_draftBest (h : LW G H Lo x b o od sb L) (hT : TOP Lo T x b m) (v1 : Int32) (v2 : Int32) (v3 : Int32) : KA G H Lo T x b o od sb L xs F Fd m z (fun r => .long r.toInt64) yL_draftBest yX12_draftBest [.int v1, .int v2, .int v3] := by
  obtain ⟨n, f, hx⟩ := fc_i (m := m) h.hX.1
  exact k_an (cs := [pm_xB, pm_xA]) h (Nat.le_of_ble_eq_true rfl) (t_draftBest h.hX h.hM h.hb hT v1 v2 v3) (q_X11_draftBest (d := 27) h.hE h.hX.1) (fun z1 m1 => q_X12_draftBest (d := 34) h.hE h.hM.1) (fun m1 r c => wL_draftBest_n hx lwX_o (fm_c_n h.no) c) (fun m1 k e hk c => wL_draftBest_x hx hk c)
theorem kc_draftNode (h : LW G H Lo x b o od sb L) (hT : TOP Lo T x b m) (v1 : Int32) : KA G H Lo T x b o od sb L xs F Fd m z (fun r => .long r.toInt64) yL_draftNode yX12_draftNode [.int v1] := by
  obtain ⟨n, f, hx⟩ := fc_i (m := m) h.hX.1
  exact k_an (cs := [pm_xB]) h (Nat.le_of_ble_eq_true rfl) (t_draftNode h.hX h.hM h.hb hT v1) (q_X11_draftNode (d := 38) h.hE h.hX.1) (fun z1 m1 => q_X12_draftNode (d := 39) h.hE h.hM.1) (fun m1 r c => wL_draftNode_n hx lwX_o (fm_c_n h.no) c) (fun m1 k e hk c => wL_draftNode_x hx hk c)
theorem kc_open (h : LW G H Lo x b o od sb L) (hT : TOP Lo T x b m) (v1 : Int32) (v2 : Int32) : KA G H Lo T x b o od sb L xs F Fd m z (fun r => .long r.toInt64) yL_open yX12_open [.int v1, .int v2] := by
  obtain ⟨n, f, hx⟩ := fc_i (m := m) h.hX.1
  exact k_an (cs := [pm_xA]) h (Nat.le_of_ble_eq_true rfl) (t_open h.hX h.hM h.hb hT v1 v2) (q_X11_open (d := 34) h.hE h.hX.1) (fun z1 m1 => q_X12_open (d := 34) h.hE h.hM.1) (fun m1 r c => wL_open_n hx lwX_o (fm_c_n h.no) c) (fun m1 k e hk c => wL_open_x hx hk c)
theorem kc_close (h : LW G H Lo x b o od sb L) (hT : TOP Lo T x b m) (v1 : Int32) : KA G H Lo T x b o od sb L xs F Fd m z (fun r => .long r.toInt64) yL_close yX12_close [.int v1] := by
  obtain ⟨n, f, hx⟩ := fc_i (m := m) h.hX.1
  exact k_an (cs := [pm_xB]) h (Nat.le_of_ble_eq_true rfl) (t_close h.hX h.hM h.hb hT v1) (q_X11_close (d := 35) h.hE h.hX.1) (fun z1 m1 => q_X12_close (d := 38) h.hE h.hM.1) (fun m1 r c => wL_close_n hx lwX_o (fm_c_n h.no) c) (fun m1 k e hk c => wL_close_x hx hk c)
theorem kc_move (h : LW G H Lo x b o od sb L) (hT : TOP Lo T x b m) (v1 : Int32) : KA G H Lo T x b o od sb L xs F Fd m z (fun r => .long r.toInt64) yL_move yX12_move [.int v1] := by
  obtain ⟨n, f, hx⟩ := fc_i (m := m) h.hX.1
  exact k_an (cs := [pm_xB]) h (Nat.le_of_ble_eq_true rfl) (t_move h.hX h.hM h.hb hT v1) (q_X11_move (d := 34) h.hE h.hX.1) (fun z1 m1 => q_X12_move (d := 33) h.hE h.hM.1) (fun m1 r c => wL_move_n hx lwX_o (fm_c_n h.no) c) (fun m1 k e hk c => wL_move_x hx hk c)
theorem kc_moveBest (h : LW G H Lo x b o od sb L) (hT : TOP Lo T x b m) (v1 : Int32) (v2 : Int32) : KA G H Lo T x b o od sb L xs F Fd m z (fun r => .long r.toInt64) yL_moveBest yX12_moveBest [.int v1, .int v2] := by
  obtain ⟨n, f, hx⟩ := fc_i (m := m) h.hX.1
  exact k_an (cs := [pm_xB]) h (Nat.le_of_ble_eq_true rfl) (t_moveBest h.hX h.hM h.hb hT v1 v2) (q_X11_moveBest (d := 26) h.hE h.hX.1) (fun z1 m1 => q_X12_moveBest (d := 32) h.hE h.hM.1) (fun m1 r c => wL_moveBest_n hx lwX_o (fm_c_n h.no) c) (fun m1 k e hk c => wL_moveBest_x hx hk c)
theorem kc_abort (h : LW G H Lo x b o od sb L) (hT : TOP Lo T x b m) (v1 : Int32) : KA G H Lo T x b o od sb L xs F Fd m z (fun r => .long r.toInt64) yL_abort yX12_abort [.int v1] := by
  obtain ⟨n, f, hx⟩ := fc_i (m := m) h.hX.1
  exact k_an (cs := [pm_xB]) h (Nat.le_of_ble_eq_true rfl) (t_abort h.hX h.hM h.hb hT v1) (q_X11_abort (d := 35) h.hE h.hX.1) (fun z1 m1 => q_X12_abort (d := 38) h.hE h.hM.1) (fun m1 r c => wL_abort_n hx lwX_o (fm_c_n h.no) c) (fun m1 k e hk c => wL_abort_x hx hk c)
theorem kc_offer (h : LW G H Lo x b o od sb L) (hT : TOP Lo T x b m) (v1 : Int32) (v2 : Int32) : KA G H Lo T x b o od sb L xs F Fd m z (fun r => .long r.toInt64) yL_offer yX12_offer [.int v1, .int v2] := by
  obtain ⟨n, f, hx⟩ := fc_i (m := m) h.hX.1
  exact k_an (cs := [pm_xB, pm_xA]) h (Nat.le_of_ble_eq_true rfl) (t_offer h.hX h.hM h.hb hT v1 v2) (q_X11_offer (d := 37) h.hE h.hX.1) (fun z1 m1 => q_X12_offer (d := 38) h.hE h.hM.1) (fun m1 r c => wL_offer_n hx lwX_o (fm_c_n h.no) c) (fun m1 k e hk c => wL_offer_x hx hk c)
theorem kc_run (h : LW G H Lo x b o od sb L) (hT : TOP Lo T x b m) (v1 : Int32) : KA G H Lo (T + 200) x b o od sb L xs F Fd m z (fun r => .long r.toInt64) yL_run yX12_run [.int v1] := by
  obtain ⟨n, f, hx⟩ := fc_i (m := m) h.hX.1
  exact k_an (cs := [pm_xA]) h (Nat.le_of_ble_eq_true rfl) (t_run h.hX h.hM h.hb hT v1) (q_X11_run (d := 33) h.hE h.hX.1) (fun z1 m1 => q_X12_run (d := 33) h.hE h.hM.1) (fun m1 r c => wL_run_n hx lwX_o (fm_c_n h.no) c) (fun m1 k e hk c => wL_run_x hx hk c)
theorem kc_circuit (h : LW G H Lo x b o od sb L) (hT : TOP Lo T x b m) (v1 : Int32) (v2 : Int32) : KA G H Lo T x b o od sb L xs F Fd m z (fun r => .long r.toInt64) yL_circuit yX12_circuit [.int v1, .int v2] := by
  obtain ⟨n, f, hx⟩ := fc_i (m := m) h.hX.1
  exact k_an (cs := [pm_xB, pm_xA]) h (Nat.le_of_ble_eq_true rfl) (t_circuit h.hX h.hM h.hb hT v1 v2) (q_X11_circuit (d := 36) h.hE h.hX.1) (fun z1 m1 => q_X12_circuit (d := 37) h.hE h.hM.1) (fun m1 r c => wL_circuit_n hx lwX_o (fm_c_n h.no) c) (fun m1 k e hk c => wL_circuit_x hx hk c)
theorem kc_way (h : LW G H Lo x b o od sb L) (hT : TOP Lo T x b m) (v1 : Int32) (v2 : Bool) (v3 : Int32) (v4 : Int32) : KA G H Lo T x b o od sb L xs F Fd m z (fun r => .long r.toInt64) yL_way yX12_way [.int v1, .int (bi v2), .int v3, .int v4] := by
  obtain ⟨n, f, hx⟩ := fc_i (m := m) h.hX.1
  exact k_an (cs := [pm_xB, pm_xA]) h (Nat.le_of_ble_eq_true rfl) (t_way h.hX h.hM h.hb hT v1 v2 v3 v4) (q_X11_way (d := 37) h.hE h.hX.1) (fun z1 m1 => q_X12_way (d := 38) h.hE h.hM.1) (fun m1 r c => wL_way_n hx lwX_o (fm_c_n h.no) c) (fun m1 k e hk c => wL_way_x hx hk c)
theorem kc_packet (h : LW G H Lo x b o od sb L) (hT : TOP Lo T x b m) (v1 : Int32) (v2 : Int32) : KA G H Lo T x b o od sb L xs F Fd m z (fun r => .long r.toInt64) yL_packet yX12_packet [.int v1, .int v2] := by
  obtain ⟨n, f, hx⟩ := fc_i (m := m) h.hX.1
  exact k_an (cs := [pm_xB, pm_xA]) h (Nat.le_of_ble_eq_true rfl) (t_packet h.hX h.hM h.hb hT v1 v2) (q_X11_packet (d := 37) h.hE h.hX.1) (fun z1 m1 => q_X12_packet (d := 39) h.hE h.hM.1) (fun m1 r c => wL_packet_n hx lwX_o (fm_c_n h.no) c) (fun m1 k e hk c => wL_packet_x hx hk c)
theorem kc_usage (h : LW G H Lo x b o od sb L) (hT : TOP Lo T x b m) : ∃ (m1 : fm_M) (m2 : fm_M) (r : UInt32), pm_lca G 40 false yX11_usage [.ref x] (lwS H sb o od L xs F Fd m z) (.inl (some (.float r))) (lwS H sb o od L xs F Fd m1 z) ∧ pm_lca G 40 false yX12_usage [.ref b] (lwS H sb o od L xs F Fd m1 z) (.inl (some (.float r))) (lwS H sb o od L xs F Fd m2 z) ∧ TOP Lo T x b m2 ∧ vf_n64 (FP.f2d r) := by
  obtain ⟨r, m1, ho, r', m2, hg, e, hT2⟩ := t_usage h.hX h.hM h.hb hT
  cases e
  exact ⟨m1, m2, r, lca_run (q_X11_usage (d := 37) (z := z) h.hE h.hX.1 _ _ ho), lca_run (q_X12_usage (d := 36) (z := z) h.hE h.hM.1 _ _ hg), hT2, us_ok ho⟩
theorem kc_canMove (h : LW G H Lo x b o od sb L) (hT : TOP Lo T x b m) (v1 : Int32) (v2 : Int32) : KA G H Lo T x b o od sb L xs F Fd m z (fun r => .long r.toInt64) yL_canMove yX12_canMove [.int v1, .int v2] := by
  obtain ⟨n, f, hx⟩ := fc_i (m := m) h.hX.1
  exact k_an (cs := [pm_xB]) h (Nat.le_of_ble_eq_true rfl) (t_canMove h.hX h.hM h.hb hT v1 v2) (q_X11_canMove (d := 26) h.hE h.hX.1) (fun z1 m1 => q_X12_canMove (d := 32) h.hE h.hM.1) (fun m1 r c => wL_canMove_n hx lwX_o (fm_c_n h.no) c) (fun m1 k e hk c => wL_canMove_x hx hk c)
theorem kc_movedIn (h : LW G H Lo x b o od sb L) (hT : TOP Lo T x b m) (v1 : Int32) : KA G H Lo T x b o od sb L xs F Fd m z (fun r => .long r.toInt64) yL_movedIn yX12_movedIn [.int v1] := by
  obtain ⟨n, f, hx⟩ := fc_i (m := m) h.hX.1
  exact k_an (cs := [pm_xB]) h (Nat.le_of_ble_eq_true rfl) (t_movedIn h.hX h.hM h.hb hT v1) (q_X11_movedIn (d := 35) h.hE h.hX.1) (fun z1 m1 => q_X12_movedIn (d := 34) h.hE h.hM.1) (fun m1 r c => wL_movedIn_n hx lwX_o (fm_c_n h.no) c) (fun m1 k e hk c => wL_movedIn_x hx hk c)
theorem kc_ahead (h : LW G H Lo x b o od sb L) (hT : TOP Lo T x b m) (v1 : Int32) (v2 : Int32) : KA G H Lo T x b o od sb L xs F Fd m z (fun r => .long r.toInt64) yL_ahead yX12_ahead [.int v1, .int v2] := by
  obtain ⟨n, f, hx⟩ := fc_i (m := m) h.hX.1
  exact k_an (cs := [pm_xA]) h (Nat.le_of_ble_eq_true rfl) (t_ahead h.hX h.hM h.hb hT v1 v2) (q_X11_ahead (d := 33) h.hE h.hX.1) (fun z1 m1 => q_X12_ahead (d := 33) h.hE h.hM.1) (fun m1 r c => wL_ahead_n hx lwX_o (fm_c_n h.no) c) (fun m1 k e hk c => wL_ahead_x hx hk c)
theorem kc_weakLink (h : LW G H Lo x b o od sb L) (hT : TOP Lo T x b m) : KE fm_rI G H Lo T x b o od sb L xs F Fd m z yX11_weakLink yX12_weakLink := k_eq (fun _ _ => rfl) (t_weakLink h.hX h.hM h.hb hT) (q_X11_weakLink (d := 26) h.hE h.hX.1) (fun m1 => q_X12_weakLink (d := 33) h.hE h.hM.1)
theorem kc_save (h : LW G H Lo x b o od sb L) (hT : TOP Lo T x b m) (v1 : Int32) : KV G H Lo T x b o od sb L xs F Fd m z yL_save yX12_save [.int v1] := by
  obtain ⟨n, f, hx⟩ := fc_i (m := m) h.hX.1
  exact k_av (cs := [pm_xA]) h (t_save h.hX h.hM h.hb hT v1) (q_X11_save (d := 35) h.hE h.hX.1) (fun z1 m1 => q_X12_save (d := 39) h.hE h.hM.1) (fun m1 c => wL_save_n hx c) (fun m1 k e hk c => wL_save_x hx hk c)
theorem kc_restore (h : LW G H Lo x b o od sb L) (hT : TOP Lo T x b m) (v1 : Int32) : KV G H Lo T x b o od sb L xs F Fd m z yL_restore yX12_restore [.int v1] := by
  obtain ⟨n, f, hx⟩ := fc_i (m := m) h.hX.1
  exact k_av (cs := [pm_xA, pm_xI]) h (t_restore h.hX h.hM h.hb hT v1) (q_X11_restore (d := 35) h.hE h.hX.1) (fun z1 m1 => q_X12_restore (d := 39) h.hE h.hM.1) (fun m1 c => wL_restore_n hx c) (fun m1 k e hk c => wL_restore_x hx hk c)
end LAWK
