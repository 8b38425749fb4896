/-! functions out of the code -/
def f_X11_moveBest (H : fm_H) (v0 : Nat) (v1 : Int32) (v2 : Int32) (m : fm_M) : Option ((Int32 ⊕ String) × fm_M) :=
  fm_bx (f_X11_checkCircuit H v0 v1 m) fun _ m1 =>
  fm_bx (f_X11_checkLinkOrNone H v0 v2 m1) fun _ m2 =>
  if fm_isb H (m2.2.1 v0 5) 7 = true then
    fm_bn (f_X11_moveToBest H v0 (m2.2.1 v0 5) v1 v2 m2) fun x3 m3 =>
    some (.inl x3, m3)
  else none
set_option maxRecDepth 10000 in
theorem q_X11_moveBest {G : pm_G} {H : fm_H} {d : Nat} {z : fm_Z H} {v0 : Nat} {v1 : Int32} {v2 : Int32} {m : fm_M} (hE : fm_E G H) (h0 : fm_is H v0 11) : fm_cal G H (d + 14) yX11_moveBest [.ref v0, .int v1, .int v2] z m (fm_rX fm_rI) (f_X11_moveBest H v0 v1 v2 m) := fm_mth (d := d + 13) mt_X11_moveBest rfl rfl rfl (fun K => by
  show fm_o (fm_rX fm_rI) (f_X11_moveBest H v0 v1 v2 m) K → fm_V G H (d + 13) RX11 cX11_moveBest (some (.int)) z K 0 [some (.ref v0), some (.int v1), some (.int v2)] [] m
  have T : fm_T RX11 cX11_moveBest tc_X11_moveBest fr_X11 mr_X11 cr_X11 lr_X11 := ⟨tok_X11, dc_X11_moveBest⟩
  unfold f_X11_moveBest
  refine fs_r T 2 2 [some (.ref v0), some (.int v1), some (.int v2)] [.int v1, .ref v0] rfl ?_
  refine fs_vVx T 5 rfl rfl rfl rfl rfl rfl h0 (q_X11_checkCircuit (d := d + 11) hE h0) ?_
  intro x1 m1
  refine fs_r T 2 7 [some (.ref v0), some (.int v1), some (.int v2)] [.int v2, .ref v0] rfl ?_
  refine fs_vVx T 10 rfl rfl rfl rfl rfl rfl h0 (q_X11_checkLinkOrNone (d := d + 10) hE h0) ?_
  intro x2 m2
  refine fs_r T 2 12 [some (.ref v0), some (.int v1), some (.int v2)] [.ref v0, .ref v0] rfl ?_
  refine fs_gp T 15 11 5 v0 7 rfl rfl rfl rfl h0 ?_
  intro e1
  refine fs_r T 2 17 [some (.ref v0), some (.int v1), some (.int v2)] [.int v2, .int v1, .ref (m2.2.1 v0 5), .ref v0] rfl ?_
  refine fs_vI T 20 rfl rfl rfl rfl rfl rfl h0 (q_X11_moveToBest (d := d) hE h0 e1) ?_
  intro x3 m3
  exact fs_reti T rfl rfl rfl)
def f_X11_abort (H : fm_H) (v0 : Nat) (v1 : Int32) (m : fm_M) : Option ((Int32 ⊕ String) × fm_M) :=
  fm_bx (f_X11_checkCircuit H v0 v1 m) fun _ m1 =>
  if fm_isb H (m1.2.1 v0 5) 7 = true then
    fm_bn (f_X7_abortMove H (m1.2.1 v0 5) v1 m1) fun x2 m2 =>
    some (.inl x2, m2)
  else none
set_option maxRecDepth 10000 in
theorem q_X11_abort {G : pm_G} {H : fm_H} {d : Nat} {z : fm_Z H} {v0 : Nat} {v1 : Int32} {m : fm_M} (hE : fm_E G H) (h0 : fm_is H v0 11) : fm_cal G H (d + 5) yX11_abort [.ref v0, .int v1] z m (fm_rX fm_rI) (f_X11_abort H v0 v1 m) := fm_mth (d := d + 4) mt_X11_abort rfl rfl rfl (fun K => by
  show fm_o (fm_rX fm_rI) (f_X11_abort H v0 v1 m) K → fm_V G H (d + 4) RX11 cX11_abort (some (.int)) z K 0 [some (.ref v0), some (.int v1)] [] m
  have T : fm_T RX11 cX11_abort tc_X11_abort fr_X11 mr_X11 cr_X11 lr_X11 := ⟨tok_X11, dc_X11_abort⟩
  unfold f_X11_abort
  refine fs_r T 2 2 [some (.ref v0), some (.int v1)] [.int v1, .ref v0] rfl ?_
  refine fs_vVx T 5 rfl rfl rfl rfl rfl rfl h0 (q_X11_checkCircuit (d := d + 2) hE h0) ?_
  intro x1 m1
  refine fs_r T 1 6 [some (.ref v0), some (.int v1)] [.ref v0] rfl ?_
  refine fs_gp T 9 11 5 v0 7 rfl rfl rfl rfl h0 ?_
  intro e1
  refine fs_r T 1 10 [some (.ref v0), some (.int v1)] [.int v1, .ref (m1.2.1 v0 5)] rfl ?_
  refine fs_vI T 13 rfl rfl rfl rfl rfl rfl e1 (q_X7_abortMove (d := d) hE e1) ?_
  intro x2 m2
  exact fs_reti T rfl rfl rfl)
def f_X11_offer (H : fm_H) (v0 : Nat) (v1 : Int32) (v2 : Int32) (m : fm_M) : Option ((Int32 ⊕ String) × fm_M) :=
  fm_bx (f_X11_checkCircuit H v0 v1 m) fun _ m1 =>
  fm_bn (f_X11_isOutside H v2 (1 : Int32) (9 : Int32) m1) fun x2 m2 =>
  if x2 = 0 then
    if fm_isb H (m2.2.1 v0 5) 7 = true then
      if px_inb v1 (fm_sz H (H.2.1 (m2.2.1 v0 5) 3)) = true then
        (if fm_isb H (m2.2.1 (H.2.1 (m2.2.1 v0 5) 3) v1.toNatClampNeg) 0 = true then
          if fm_isb H (m2.2.1 v0 5) 7 = true then
            fm_bn (f_X7_addToBacklog H (m2.2.1 v0 5) (m2.2.1 (H.2.1 (m2.2.1 v0 5) 3) v1.toNatClampNeg) v2 m2) fun _ m3 =>
            some (.inl (m3.1 (m2.2.1 (H.2.1 (m2.2.1 v0 5) 3) v1.toNatClampNeg) 3), m3)
          else none
        else none)
      else none
    else none
  else
  some (.inr pm_xA, m2)
set_option maxRecDepth 10000 in
theorem q_X11_offer {G : pm_G} {H : fm_H} {d : Nat} {z : fm_Z H} {v0 : Nat} {v1 : Int32} {v2 : Int32} {m : fm_M} (hE : fm_E G H) (h0 : fm_is H v0 11) : fm_cal G H (d + 3) yX11_offer [.ref v0, .int v1, .int v2] z m (fm_rX fm_rI) (f_X11_offer H v0 v1 v2 m) := fm_mth (d := d + 2) mt_X11_offer rfl rfl rfl (fun K => by
  show fm_o (fm_rX fm_rI) (f_X11_offer H v0 v1 v2 m) K → fm_V G H (d + 2) RX11 cX11_offer (some (.int)) z K 0 [some (.ref v0), some (.int v1), some (.int v2), none] [] m
  have T : fm_T RX11 cX11_offer tc_X11_offer fr_X11 mr_X11 cr_X11 lr_X11 := ⟨tok_X11, dc_X11_offer⟩
  unfold f_X11_offer
  refine fs_r T 2 2 [some (.ref v0), some (.int v1), some (.int v2), none] [.int v1, .ref v0] rfl ?_
  refine fs_vVx T 5 rfl rfl rfl rfl rfl rfl h0 (q_X11_checkCircuit (d := d) hE h0) ?_
  intro x1 m1
  refine fs_r T 3 9 [some (.ref v0), some (.int v1), some (.int v2), none] [.int (9 : Int32), .int (1 : Int32), .int v2] rfl ?_
  refine fs_sI T 12 rfl rfl rfl rfl rfl rfl rfl (q_X11_isOutside (d := d + 1) hE ) ?_
  intro x2 m2
  refine fs_if_eq T 26 15 rfl rfl rfl (fun _ => ?_) (fun _ => ?_)
  · refine fs_r T 1 27 [some (.ref v0), some (.int v1), some (.int v2), none] [.ref v0] rfl ?_
    refine fs_gp T 30 11 5 v0 7 rfl rfl rfl rfl h0 ?_
    intro e1
    refine fs_gs T 33 7 3 (m2.2.1 v0 5) rfl rfl rfl rfl e1 ?_
    refine fs_r T 1 34 [some (.ref v0), some (.int v1), some (.int v2), none] [.int v1, .ref (H.2.1 (m2.2.1 v0 5) 3)] rfl ?_
    refine fs_aa T 35 (H.2.1 (m2.2.1 v0 5) 3) 0 rfl rfl (hE.1 _ 7 3 e1) ?_
    intro e2
    refine fs_r T 2 37 [some (.ref v0), some (.int v1), some (.int v2), some (.ref (m2.2.1 (H.2.1 (m2.2.1 v0 5) 3) v1.toNatClampNeg))] [.ref v0] rfl ?_
    refine fs_gp T 40 11 5 v0 7 rfl rfl rfl rfl h0 ?_
    intro e3
    refine fs_r T 2 42 [some (.ref v0), some (.int v1), some (.int v2), some (.ref (m2.2.1 (H.2.1 (m2.2.1 v0 5) 3) v1.toNatClampNeg))] [.int v2, .ref (m2.2.1 (H.2.1 (m2.2.1 v0 5) 3) v1.toNatClampNeg), .ref (m2.2.1 v0 5)] rfl ?_
    refine fs_vV T 45 rfl rfl rfl rfl rfl rfl e3 (q_X7_addToBacklog (d := d + 1) hE e3 e2) ?_
    intro x3 m3
    refine fs_r T 1 46 [some (.ref v0), some (.int v1), some (.int v2), some (.ref (m2.2.1 (H.2.1 (m2.2.1 v0 5) 3) v1.toNatClampNeg))] [.ref (m2.2.1 (H.2.1 (m2.2.1 v0 5) 3) v1.toNatClampNeg)] rfl ?_
    refine fs_gi T 49 0 3 (m2.2.1 (H.2.1 (m2.2.1 v0 5) 3) v1.toNatClampNeg) rfl rfl rfl rfl e2 ?_
    exact fs_reti T rfl rfl rfl
  · exact fs_thr T rfl rfl rfl rfl rfl)
def f_X11_checkTicks (H : fm_H) (v0 : Int32) (m : fm_M) : Option ((Unit ⊕ String) × fm_M) :=
  fm_bn (f_X11_isOutside H v0 (1 : Int32) (200 : Int32) m) fun x1 m1 =>
  if x1 = 0 then
    some (.inl (), m1)
  else
  some (.inr pm_xA, m1)
set_option maxRecDepth 10000 in
theorem q_X11_checkTicks {G : pm_G} {H : fm_H} {d : Nat} {z : fm_Z H} {v0 : Int32} {m : fm_M} (hE : fm_E G H) : fm_cal G H (d + 2) yX11_checkTicks [.int v0] z m (fm_rX fm_rV) (f_X11_checkTicks H v0 m) := fm_mth (d := d + 1) mt_X11_checkTicks rfl rfl rfl (fun K => by
  show fm_o (fm_rX fm_rV) (f_X11_checkTicks H v0 m) K → fm_V G H (d + 1) RX11 cX11_checkTicks none z K 0 [some (.int v0)] [] m
  have T : fm_T RX11 cX11_checkTicks tc_X11_checkTicks fr_X11 mr_X11 cr_X11 lr_X11 := ⟨tok_X11, dc_X11_checkTicks⟩
  unfold f_X11_checkTicks
  refine fs_r T 3 5 [some (.int v0)] [.int (200 : Int32), .int (1 : Int32), .int v0] rfl ?_
  refine fs_sI T 8 rfl rfl rfl rfl rfl rfl rfl (q_X11_isOutside (d := d) hE ) ?_
  intro x1 m1
  refine fs_if_eq T 22 11 rfl rfl rfl (fun _ => ?_) (fun _ => ?_)
  · exact fs_retv T rfl rfl rfl
  · exact fs_thr T rfl rfl rfl rfl rfl)
def f_X11_run_17 (H : fm_H) (v0 : Nat) (v1 : Int32) (v2 : Int32) : Nat → Int32 → fm_M → Option ((Int32 ⊕ String) × fm_M)
  | 0, _, _ => none
  | n + 1, v3, m =>
    if v1 ≤ v3 then
      if fm_isb H (m.2.1 v0 5) 7 = true then
        some (.inl (m.1 (H.2.1 (m.2.1 v0 5) 2) 1 - v2), m)
      else none
    else
    if fm_isb H (m.2.1 v0 5) 7 = true then
      fm_bn (f_X7_tick H (m.2.1 v0 5) m) fun _ m1 =>
      f_X11_run_17 H v0 v1 v2 n (v3 + 1) m1
    else none
set_option maxRecDepth 10000 in
theorem w_X11_run_17 {G : pm_G} {H : fm_H} {d : Nat} {z : fm_Z H} {K : pm_R → fm_M → Prop} (hE : fm_E G H) {v0 : Nat} {v1 : Int32} {v2 : Int32} (h0 : fm_is H v0 11) : ∀ (n : Nat) (v3 : Int32) (m : fm_M), fm_o (fm_rX fm_rI) (f_X11_run_17 H v0 v1 v2 n v3 m) K → fm_V G H (d + 6) RX11 cX11_run (some (.int)) z K 17 [some (.ref v0), some (.int v1), some (.int v2), some (.int v3)] [] m := by
  have T : fm_T RX11 cX11_run tc_X11_run fr_X11 mr_X11 cr_X11 lr_X11 := ⟨tok_X11, dc_X11_run⟩
  intro n
  induction n with
  | zero =>
    intro v3 m 
    exact fs_none
  | succ n ih =>
    intro v3 m 
    unfold f_X11_run_17
    refine fs_r T 2 19 [some (.ref v0), some (.int v1), some (.int v2), some (.int v3)] [.int v1, .int v3] rfl ?_
    refine fs_ic_ge T 35 22 rfl rfl rfl (fun _ => ?_) (fun _ => ?_)
    · refine fs_r T 1 36 [some (.ref v0), some (.int v1), some (.int v2), some (.int v3)] [.ref v0] rfl ?_
      refine fs_gp T 39 11 5 v0 7 rfl rfl rfl rfl h0 ?_
      intro e1
      refine fs_gs T 42 7 2 (m.2.1 v0 5) rfl rfl rfl rfl e1 ?_
      refine fs_gi T 45 9 1 (H.2.1 (m.2.1 v0 5) 2) rfl rfl rfl rfl (hE.1 _ 7 2 e1) ?_
      refine fs_r T 2 47 [some (.ref v0), some (.int v1), some (.int v2), some (.int v3)] [.int (m.1 (H.2.1 (m.2.1 v0 5) 2) 1 - v2)] rfl ?_
      exact fs_reti T rfl rfl rfl
    · refine fs_r T 1 23 [some (.ref v0), some (.int v1), some (.int v2), some (.int v3)] [.ref v0] rfl ?_
      refine fs_gp T 26 11 5 v0 7 rfl rfl rfl rfl h0 ?_
      intro e2
      refine fs_vV T 29 rfl rfl rfl rfl rfl rfl e2 (q_X7_tick (d := d) hE e2) ?_
      intro x1 m1
      refine fs_r T 2 17 [some (.ref v0), some (.int v1), some (.int v2), some (.int (v3 + 1))] [] rfl ?_
      exact ih _ _
def f_X11_run (H : fm_H) (v0 : Nat) (v1 : Int32) (m : fm_M) : Option ((Int32 ⊕ String) × fm_M) :=
  fm_bx (f_X11_checkTicks H v1 m) fun _ m1 =>
  if fm_isb H (m1.2.1 v0 5) 7 = true then
    f_X11_run_17 H v0 v1 (m1.1 (H.2.1 (m1.2.1 v0 5) 2) 1) fm_N (0 : Int32) m1
  else none
set_option maxRecDepth 10000 in
theorem q_X11_run {G : pm_G} {H : fm_H} {d : Nat} {z : fm_Z H} {v0 : Nat} {v1 : Int32} {m : fm_M} (hE : fm_E G H) (h0 : fm_is H v0 11) : fm_cal G H (d + 7) yX11_run [.ref v0, .int v1] z m (fm_rX fm_rI) (f_X11_run H v0 v1 m) := fm_mth (d := d + 6) mt_X11_run rfl rfl rfl (fun K => by
  show fm_o (fm_rX fm_rI) (f_X11_run H v0 v1 m) K → fm_V G H (d + 6) RX11 cX11_run (some (.int)) z K 0 [some (.ref v0), some (.int v1), none, none] [] m
  have T : fm_T RX11 cX11_run tc_X11_run fr_X11 mr_X11 cr_X11 lr_X11 := ⟨tok_X11, dc_X11_run⟩
  unfold f_X11_run
  refine fs_r T 1 1 [some (.ref v0), some (.int v1), none, none] [.int v1] rfl ?_
  refine fs_sVx T 4 rfl rfl rfl rfl rfl rfl rfl (q_X11_checkTicks (d := d + 4) hE ) ?_
  intro x1 m1
  refine fs_r T 1 5 [some (.ref v0), some (.int v1), none, none] [.ref v0] rfl ?_
  refine fs_gp T 8 11 5 v0 7 rfl rfl rfl rfl h0 ?_
  intro e3
  refine fs_gs T 11 7 2 (m1.2.1 v0 5) rfl rfl rfl rfl e3 ?_
  refine fs_gi T 14 9 1 (H.2.1 (m1.2.1 v0 5) 2) rfl rfl rfl rfl (hE.1 _ 7 2 e3) ?_
  refine fs_r T 3 17 [some (.ref v0), some (.int v1), some (.int (m1.1 (H.2.1 (m1.2.1 v0 5) 2) 1)), some (.int (0 : Int32))] [] rfl ?_
  exact w_X11_run_17 hE h0 _ _ _)
def f_X11_circuit (H : fm_H) (v0 : Nat) (v1 : Int32) (v2 : Int32) (m : fm_M) : Option ((Int32 ⊕ String) × fm_M) :=
  fm_bx (f_X11_checkCircuit H v0 v1 m) fun _ m1 =>
  fm_bx (f_X11_checkWhat H v2 (14 : Int32) m1) fun _ m2 =>
  if fm_isb H (m2.2.1 v0 5) 7 = true then
    if px_inb v1 (fm_sz H (H.2.1 (m2.2.1 v0 5) 3)) = true then
      (if fm_isb H (m2.2.1 (H.2.1 (m2.2.1 v0 5) 3) v1.toNatClampNeg) 0 = true then
        fm_sw v2 0 [  if fm_isb H (m2.2.1 (m2.2.1 (H.2.1 (m2.2.1 v0 5) 3) v1.toNatClampNeg) 13) 10 = true then
            fm_bn (f_X10_nodeAt H (m2.2.1 (m2.2.1 (H.2.1 (m2.2.1 v0 5) 3) v1.toNatClampNeg) 13) (0 : Int32) m2) fun x3 m3 =>
            some (.inl x3, m3)
          else none,
          if fm_isb H (m2.2.1 (m2.2.1 (H.2.1 (m2.2.1 v0 5) 3) v1.toNatClampNeg) 13) 10 = true then
            fm_bn (f_X10_lastNode H (m2.2.1 (m2.2.1 (H.2.1 (m2.2.1 v0 5) 3) v1.toNatClampNeg) 13) m2) fun x4 m4 =>
            some (.inl x4, m4)
          else none,
          some (.inl (m2.1 (m2.2.1 (H.2.1 (m2.2.1 v0 5) 3) v1.toNatClampNeg) 0), m2),
          some (.inl (m2.1 (m2.2.1 (H.2.1 (m2.2.1 v0 5) 3) v1.toNatClampNeg) 1), m2),
          some (.inl (m2.1 (m2.2.1 (H.2.1 (m2.2.1 v0 5) 3) v1.toNatClampNeg) 2), m2),
          if fm_isb H (m2.2.1 v0 5) 7 = true then
            fm_bn (f_X0_activeWay H (m2.2.1 (H.2.1 (m2.2.1 v0 5) 3) v1.toNatClampNeg) m2) fun x5 m5 => if fm_isb H x5 10 = true then
              fm_bn (f_X4_delayOf H (H.2.1 (m2.2.1 v0 5) 0) x5 m5) fun x6 m6 =>
              some (.inl x6, m6)
            else none
          else none,
          some (.inl (m2.1 (m2.2.1 (H.2.1 (m2.2.1 v0 5) 3) v1.toNatClampNeg) 3), m2),
          some (.inl (m2.1 (m2.2.1 (H.2.1 (m2.2.1 v0 5) 3) v1.toNatClampNeg) 4), m2),
          some (.inl (m2.1 (m2.2.1 (H.2.1 (m2.2.1 v0 5) 3) v1.toNatClampNeg) 5), m2),
          some (.inl (m2.1 (m2.2.1 (H.2.1 (m2.2.1 v0 5) 3) v1.toNatClampNeg) 6), m2),
          some (.inl (m2.1 (m2.2.1 (H.2.1 (m2.2.1 v0 5) 3) v1.toNatClampNeg) 7), m2),
          some (.inl (m2.1 (m2.2.1 (H.2.1 (m2.2.1 v0 5) 3) v1.toNatClampNeg) 8), m2),
          some (.inl (m2.1 (m2.2.1 (H.2.1 (m2.2.1 v0 5) 3) v1.toNatClampNeg) 9), m2),
          if fm_isb H (m2.2.1 v0 5) 7 = true then
            fm_bn (f_X7_packetsOf H (m2.2.1 v0 5) v1 m2) fun x7 m7 =>
            some (.inl x7, m7)
          else none]
          (some (.inl (m2.1 (m2.2.1 (H.2.1 (m2.2.1 v0 5) 3) v1.toNatClampNeg) 10), m2))
      else none)
    else none
  else none
set_option maxRecDepth 10000 in
theorem q_X11_circuit {G : pm_G} {H : fm_H} {d : Nat} {z : fm_Z H} {v0 : Nat} {v1 : Int32} {v2 : Int32} {m : fm_M} (hE : fm_E G H) (h0 : fm_is H v0 11) : fm_cal G H (d + 4) yX11_circuit [.ref v0, .int v1, .int v2] z m (fm_rX fm_rI) (f_X11_circuit H v0 v1 v2 m) := fm_mth (d := d + 3) mt_X11_circuit rfl rfl rfl (fun K => by
  show fm_o (fm_rX fm_rI) (f_X11_circuit H v0 v1 v2 m) K → fm_V G H (d + 3) RX11 cX11_circuit (some (.int)) z K 0 [some (.ref v0), some (.int v1), some (.int v2), none] [] m
  have T : fm_T RX11 cX11_circuit tc_X11_circuit fr_X11 mr_X11 cr_X11 lr_X11 := ⟨tok_X11, dc_X11_circuit⟩
  unfold f_X11_circuit
  refine fs_r T 2 2 [some (.ref v0), some (.int v1), some (.int v2), none] [.int v1, .ref v0] rfl ?_
  refine fs_vVx T 5 rfl rfl rfl rfl rfl rfl h0 (q_X11_checkCircuit (d := d + 1) hE h0) ?_
  intro x1 m1
  refine fs_r T 2 8 [some (.ref v0), some (.int v1), some (.int v2), none] [.int (14 : Int32), .int v2] rfl ?_
  refine fs_sVx T 11 rfl rfl rfl rfl rfl rfl rfl (q_X11_checkWhat (d := d + 1) hE ) ?_
  intro x2 m2
  refine fs_r T 1 12 [some (.ref v0), some (.int v1), some (.int v2), none] [.ref v0] rfl ?_
  refine fs_gp T 15 11 5 v0 7 rfl rfl rfl rfl h0 ?_
  intro e1
  refine fs_gs T 18 7 3 (m2.2.1 v0 5) rfl rfl rfl rfl e1 ?_
  refine fs_r T 1 19 [some (.ref v0), some (.int v1), some (.int v2), none] [.int v1, .ref (H.2.1 (m2.2.1 v0 5) 3)] rfl ?_
  refine fs_aa T 20 (H.2.1 (m2.2.1 v0 5) 3) 0 rfl rfl (hE.1 _ 7 3 e1) ?_
  intro e2
  refine fs_r T 2 22 [some (.ref v0), some (.int v1), some (.int v2), some (.ref (m2.2.1 (H.2.1 (m2.2.1 v0 5) 3) v1.toNatClampNeg))] [.int v2] rfl ?_
  refine fs_tsw T (dflt := 161) (lo := 0) (hi := 13) (offs := #[70, 79, 87, 92, 97, 102, 117, 122, 127, 132, 137, 142, 147, 152]) (t := 183) rfl rfl rfl rfl ⟨⟨92, rfl, ?_⟩, ⟨101, rfl, ?_⟩, ⟨109, rfl, ?_⟩, ⟨114, rfl, ?_⟩, ⟨119, rfl, ?_⟩, ⟨124, rfl, ?_⟩, ⟨139, rfl, ?_⟩, ⟨144, rfl, ?_⟩, ⟨149, rfl, ?_⟩, ⟨154, rfl, ?_⟩, ⟨159, rfl, ?_⟩, ⟨164, rfl, ?_⟩, ⟨169, rfl, ?_⟩, ⟨174, rfl, ?_⟩, trivial⟩ ?_
  · refine fs_r T 1 93 [some (.ref v0), some (.int v1), some (.int v2), some (.ref (m2.2.1 (H.2.1 (m2.2.1 v0 5) 3) v1.toNatClampNeg))] [.ref (m2.2.1 (H.2.1 (m2.2.1 v0 5) 3) v1.toNatClampNeg)] rfl ?_
    refine fs_gp T 96 0 13 (m2.2.1 (H.2.1 (m2.2.1 v0 5) 3) v1.toNatClampNeg) 10 rfl rfl rfl rfl e2 ?_
    intro e3
    refine fs_r T 1 97 [some (.ref v0), some (.int v1), some (.int v2), some (.ref (m2.2.1 (H.2.1 (m2.2.1 v0 5) 3) v1.toNatClampNeg))] [.int (0 : Int32), .ref (m2.2.1 (m2.2.1 (H.2.1 (m2.2.1 v0 5) 3) v1.toNatClampNeg) 13)] rfl ?_
    refine fs_vI T 100 rfl rfl rfl rfl rfl rfl e3 (q_X10_nodeAt (d := d + 2) hE e3) ?_
    intro x3 m3
    exact fs_reti T rfl rfl rfl
  · refine fs_r T 1 102 [some (.ref v0), some (.int v1), some (.int v2), some (.ref (m2.2.1 (H.2.1 (m2.2.1 v0 5) 3) v1.toNatClampNeg))] [.ref (m2.2.1 (H.2.1 (m2.2.1 v0 5) 3) v1.toNatClampNeg)] rfl ?_
    refine fs_gp T 105 0 13 (m2.2.1 (H.2.1 (m2.2.1 v0 5) 3) v1.toNatClampNeg) 10 rfl rfl rfl rfl e2 ?_
    intro e4
    refine fs_vI T 108 rfl rfl rfl rfl rfl rfl e4 (q_X10_lastNode (d := d + 1) hE e4) ?_
    intro x4 m4
    exact fs_reti T rfl rfl rfl
  · refine fs_r T 1 110 [some (.ref v0), some (.int v1), some (.int v2), some (.ref (m2.2.1 (H.2.1 (m2.2.1 v0 5) 3) v1.toNatClampNeg))] [.ref (m2.2.1 (H.2.1 (m2.2.1 v0 5) 3) v1.toNatClampNeg)] rfl ?_
    refine fs_gi T 113 0 0 (m2.2.1 (H.2.1 (m2.2.1 v0 5) 3) v1.toNatClampNeg) rfl rfl rfl rfl e2 ?_
    exact fs_reti T rfl rfl rfl
  · refine fs_r T 1 115 [some (.ref v0), some (.int v1), some (.int v2), some (.ref (m2.2.1 (H.2.1 (m2.2.1 v0 5) 3) v1.toNatClampNeg))] [.ref (m2.2.1 (H.2.1 (m2.2.1 v0 5) 3) v1.toNatClampNeg)] rfl ?_
    refine fs_gi T 118 0 1 (m2.2.1 (H.2.1 (m2.2.1 v0 5) 3) v1.toNatClampNeg) rfl rfl rfl rfl e2 ?_
    exact fs_reti T rfl rfl rfl
  · refine fs_r T 1 120 [some (.ref v0), some (.int v1), some (.int v2), some (.ref (m2.2.1 (H.2.1 (m2.2.1 v0 5) 3) v1.toNatClampNeg))] [.ref (m2.2.1 (H.2.1 (m2.2.1 v0 5) 3) v1.toNatClampNeg)] rfl ?_
    refine fs_gi T 123 0 2 (m2.2.1 (H.2.1 (m2.2.1 v0 5) 3) v1.toNatClampNeg) rfl rfl rfl rfl e2 ?_
    exact fs_reti T rfl rfl rfl
  · refine fs_r T 1 125 [some (.ref v0), some (.int v1), some (.int v2), some (.ref (m2.2.1 (H.2.1 (m2.2.1 v0 5) 3) v1.toNatClampNeg))] [.ref v0] rfl ?_
    refine fs_gp T 128 11 5 v0 7 rfl rfl rfl rfl h0 ?_
    intro e5
    refine fs_gs T 131 7 0 (m2.2.1 v0 5) rfl rfl rfl rfl e5 ?_
    refine fs_r T 1 132 [some (.ref v0), some (.int v1), some (.int v2), some (.ref (m2.2.1 (H.2.1 (m2.2.1 v0 5) 3) v1.toNatClampNeg))] [.ref (m2.2.1 (H.2.1 (m2.2.1 v0 5) 3) v1.toNatClampNeg), .ref (H.2.1 (m2.2.1 v0 5) 0)] rfl ?_
    refine fs_vA T 135 rfl rfl rfl rfl rfl rfl e2 (q_X0_activeWay (d := d + 2) hE e2) 10 ?_
    intro x5 m5 e6
    refine fs_vI T 138 rfl rfl rfl rfl rfl rfl (hE.1 _ 7 0 e5) (q_X4_delayOf (d := d) hE (hE.1 _ 7 0 e5) e6) ?_
    intro x6 m6
    exact fs_reti T rfl rfl rfl
  · refine fs_r T 1 140 [some (.ref v0), some (.int v1), some (.int v2), some (.ref (m2.2.1 (H.2.1 (m2.2.1 v0 5) 3) v1.toNatClampNeg))] [.ref (m2.2.1 (H.2.1 (m2.2.1 v0 5) 3) v1.toNatClampNeg)] rfl ?_
    refine fs_gi T 143 0 3 (m2.2.1 (H.2.1 (m2.2.1 v0 5) 3) v1.toNatClampNeg) rfl rfl rfl rfl e2 ?_
    exact fs_reti T rfl rfl rfl
  · refine fs_r T 1 145 [some (.ref v0), some (.int v1), some (.int v2), some (.ref (m2.2.1 (H.2.1 (m2.2.1 v0 5) 3) v1.toNatClampNeg))] [.ref (m2.2.1 (H.2.1 (m2.2.1 v0 5) 3) v1.toNatClampNeg)] rfl ?_
    refine fs_gi T 148 0 4 (m2.2.1 (H.2.1 (m2.2.1 v0 5) 3) v1.toNatClampNeg) rfl rfl rfl rfl e2 ?_
    exact fs_reti T rfl rfl rfl
  · refine fs_r T 1 150 [some (.ref v0), some (.int v1), some (.int v2), some (.ref (m2.2.1 (H.2.1 (m2.2.1 v0 5) 3) v1.toNatClampNeg))] [.ref (m2.2.1 (H.2.1 (m2.2.1 v0 5) 3) v1.toNatClampNeg)] rfl ?_
    refine fs_gi T 153 0 5 (m2.2.1 (H.2.1 (m2.2.1 v0 5) 3) v1.toNatClampNeg) rfl rfl rfl rfl e2 ?_
    exact fs_reti T rfl rfl rfl
  · refine fs_r T 1 155 [some (.ref v0), some (.int v1), some (.int v2), some (.ref (m2.2.1 (H.2.1 (m2.2.1 v0 5) 3) v1.toNatClampNeg))] [.ref (m2.2.1 (H.2.1 (m2.2.1 v0 5) 3) v1.toNatClampNeg)] rfl ?_
    refine fs_gi T 158 0 6 (m2.2.1 (H.2.1 (m2.2.1 v0 5) 3) v1.toNatClampNeg) rfl rfl rfl rfl e2 ?_
    exact fs_reti T rfl rfl rfl
  · refine fs_r T 1 160 [some (.ref v0), some (.int v1), some (.int v2), some (.ref (m2.2.1 (H.2.1 (m2.2.1 v0 5) 3) v1.toNatClampNeg))] [.ref (m2.2.1 (H.2.1 (m2.2.1 v0 5) 3) v1.toNatClampNeg)] rfl ?_
    refine fs_gi T 163 0 7 (m2.2.1 (H.2.1 (m2.2.1 v0 5) 3) v1.toNatClampNeg) rfl rfl rfl rfl e2 ?_
    exact fs_reti T rfl rfl rfl
  · refine fs_r T 1 165 [some (.ref v0), some (.int v1), some (.int v2), some (.ref (m2.2.1 (H.2.1 (m2.2.1 v0 5) 3) v1.toNatClampNeg))] [.ref (m2.2.1 (H.2.1 (m2.2.1 v0 5) 3) v1.toNatClampNeg)] rfl ?_
    refine fs_gi T 168 0 8 (m2.2.1 (H.2.1 (m2.2.1 v0 5) 3) v1.toNatClampNeg) rfl rfl rfl rfl e2 ?_
    exact fs_reti T rfl rfl rfl
  · refine fs_r T 1 170 [some (.ref v0), some (.int v1), some (.int v2), some (.ref (m2.2.1 (H.2.1 (m2.2.1 v0 5) 3) v1.toNatClampNeg))] [.ref (m2.2.1 (H.2.1 (m2.2.1 v0 5) 3) v1.toNatClampNeg)] rfl ?_
    refine fs_gi T 173 0 9 (m2.2.1 (H.2.1 (m2.2.1 v0 5) 3) v1.toNatClampNeg) rfl rfl rfl rfl e2 ?_
    exact fs_reti T rfl rfl rfl
  · refine fs_r T 1 175 [some (.ref v0), some (.int v1), some (.int v2), some (.ref (m2.2.1 (H.2.1 (m2.2.1 v0 5) 3) v1.toNatClampNeg))] [.ref v0] rfl ?_
    refine fs_gp T 178 11 5 v0 7 rfl rfl rfl rfl h0 ?_
    intro e7
    refine fs_r T 1 179 [some (.ref v0), some (.int v1), some (.int v2), some (.ref (m2.2.1 (H.2.1 (m2.2.1 v0 5) 3) v1.toNatClampNeg))] [.int v1, .ref (m2.2.1 v0 5)] rfl ?_
    refine fs_vI T 182 rfl rfl rfl rfl rfl rfl e7 (q_X7_packetsOf (d := d + 2) hE e7) ?_
    intro x7 m7
    exact fs_reti T rfl rfl rfl
  · refine fs_r T 1 184 [some (.ref v0), some (.int v1), some (.int v2), some (.ref (m2.2.1 (H.2.1 (m2.2.1 v0 5) 3) v1.toNatClampNeg))] [.ref (m2.2.1 (H.2.1 (m2.2.1 v0 5) 3) v1.toNatClampNeg)] rfl ?_
    refine fs_gi T 187 0 10 (m2.2.1 (H.2.1 (m2.2.1 v0 5) 3) v1.toNatClampNeg) rfl rfl rfl rfl e2 ?_
    exact fs_reti T rfl rfl rfl)
def f_X11_labelOfSlot (H : fm_H) (v0 : Int32) (m : fm_M) : Option (Int32 × fm_M) :=
  if 0 ≤ v0 then
    if (12 : Int32) = 0 then none else
    some ((v0 - v0 / (12 : Int32) * (12 : Int32)), m)
  else
  some ((-1 : Int32), m)
set_option maxRecDepth 10000 in
theorem q_X11_labelOfSlot {G : pm_G} {H : fm_H} {d : Nat} {z : fm_Z H} {v0 : Int32} {m : fm_M} (hE : fm_E G H) : fm_cal G H (d + 1) yX11_labelOfSlot [.int v0] z m fm_rI (f_X11_labelOfSlot H v0 m) := fm_mth (d := d + 0) mt_X11_labelOfSlot rfl rfl rfl (fun K => by
  show fm_o fm_rI (f_X11_labelOfSlot H v0 m) K → fm_V G H (d + 0) RX11 cX11_labelOfSlot (some (.int)) z K 0 [some (.int v0)] [] m
  have T : fm_T RX11 cX11_labelOfSlot tc_X11_labelOfSlot fr_X11 mr_X11 cr_X11 lr_X11 := ⟨tok_X11, dc_X11_labelOfSlot⟩
  unfold f_X11_labelOfSlot
  refine fs_r T 1 1 [some (.int v0)] [.int v0] rfl ?_
  refine fs_if_ge T 8 4 rfl rfl rfl (fun _ => ?_) (fun _ => ?_)
  · refine fs_r T 2 11 [some (.int v0)] [.int (12 : Int32), .int v0] rfl ?_
    refine fs_rem T 12 rfl rfl ?_
    exact fs_reti T rfl rfl rfl
  · refine fs_r T 2 12 [some (.int v0)] [.int (-1 : Int32)] rfl ?_
    exact fs_reti T rfl rfl rfl)
def f_X11_spaceOfSlot (H : fm_H) (v0 : Int32) (m : fm_M) : Option (Int32 × fm_M) :=
  if 0 ≤ v0 then
    if (12 : Int32) = 0 then none else
    some ((v0 / (12 : Int32)), m)
  else
  some ((-1 : Int32), m)
set_option maxRecDepth 10000 in
theorem q_X11_spaceOfSlot {G : pm_G} {H : fm_H} {d : Nat} {z : fm_Z H} {v0 : Int32} {m : fm_M} (hE : fm_E G H) : fm_cal G H (d + 1) yX11_spaceOfSlot [.int v0] z m fm_rI (f_X11_spaceOfSlot H v0 m) := fm_mth (d := d + 0) mt_X11_spaceOfSlot rfl rfl rfl (fun K => by
  show fm_o fm_rI (f_X11_spaceOfSlot H v0 m) K → fm_V G H (d + 0) RX11 cX11_spaceOfSlot (some (.int)) z K 0 [some (.int v0)] [] m
  have T : fm_T RX11 cX11_spaceOfSlot tc_X11_spaceOfSlot fr_X11 mr_X11 cr_X11 lr_X11 := ⟨tok_X11, dc_X11_spaceOfSlot⟩
  unfold f_X11_spaceOfSlot
  refine fs_r T 1 1 [some (.int v0)] [.int v0] rfl ?_
  refine fs_if_ge T 8 4 rfl rfl rfl (fun _ => ?_) (fun _ => ?_)
  · refine fs_r T 2 11 [some (.int v0)] [.int (12 : Int32), .int v0] rfl ?_
    refine fs_div T 12 rfl rfl ?_
    exact fs_reti T rfl rfl rfl
  · refine fs_r T 2 12 [some (.int v0)] [.int (-1 : Int32)] rfl ?_
    exact fs_reti T rfl rfl rfl)
def f_X11_way_46 (H : fm_H) (v3 : Int32) (v4 : Int32) (s0 : Nat) (m : fm_M) : Option ((Int32 ⊕ String) × fm_M) :=
  if v4 = 0 then
    fm_bn (f_X10_nodeAt H s0 v3 m) fun x4 m4 =>
    some (.inl x4, m4)
  else
  fm_bn (f_X10_slotAt H s0 v3 m) fun x1 m1 =>
  if v4 = (1 : Int32) then
    fm_bn (f_X11_spaceOfSlot H x1 m1) fun x3 m3 =>
    some (.inl x3, m3)
  else
  fm_bn (f_X11_labelOfSlot H x1 m1) fun x2 m2 =>
  some (.inl x2, m2)
set_option maxRecDepth 10000 in
theorem w_X11_way_46 {G : pm_G} {H : fm_H} {d : Nat} {z : fm_Z H} {K : pm_R → fm_M → Prop} (hE : fm_E G H) {v3 : Int32} {v4 : Int32} : ∀ (s0 : Nat) (m : fm_M), fm_is H s0 10 → fm_o (fm_rX fm_rI) (f_X11_way_46 H v3 v4 s0 m) K → fm_V G H (d + 2) RX11 cX11_way (some (.int)) z K 46 [none, none, none, some (.int v3), some (.int v4), none, none] [.ref s0] m := by
  have T : fm_T RX11 cX11_way tc_X11_way fr_X11 mr_X11 cr_X11 lr_X11 := ⟨tok_X11, dc_X11_way⟩
  intro s0 m hs0
  unfold f_X11_way_46
  refine fs_r T 2 50 [none, none, none, some (.int v3), some (.int v4), some (.ref s0), none] [.int v4] rfl ?_
  refine fs_if_ne T 60 53 rfl rfl rfl (fun _ => ?_) (fun _ => ?_)
  · refine fs_r T 2 56 [none, none, none, some (.int v3), some (.int v4), some (.ref s0), none] [.int v3, .ref s0] rfl ?_
    refine fs_vI T 59 rfl rfl rfl rfl rfl rfl hs0 (q_X10_nodeAt (d := d + 1) hE hs0) ?_
    intro x4 m4
    exact fs_reti T rfl rfl rfl
  · refine fs_r T 2 63 [none, none, none, some (.int v3), some (.int v4), some (.ref s0), none] [.int v3, .ref s0] rfl ?_
    refine fs_vI T 66 rfl rfl rfl rfl rfl rfl hs0 (q_X10_slotAt (d := d + 1) hE hs0) ?_
    intro x1 m1
    refine fs_r T 3 71 [none, none, none, some (.int v3), some (.int v4), some (.ref s0), some (.int x1)] [.int (1 : Int32), .int v4] rfl ?_
    refine fs_ic_ne T 82 74 rfl rfl rfl (fun _ => ?_) (fun _ => ?_)
    · refine fs_r T 1 76 [none, none, none, some (.int v3), some (.int v4), some (.ref s0), some (.int x1)] [.int x1] rfl ?_
      refine fs_sI T 79 rfl rfl rfl rfl rfl rfl rfl (q_X11_spaceOfSlot (d := d + 1) hE ) ?_
      intro x3 m3
      refine fs_r T 1 87 [none, none, none, some (.int v3), some (.int v4), some (.ref s0), some (.int x1)] [.int x3] rfl ?_
      exact fs_reti T rfl rfl rfl
    · refine fs_r T 1 84 [none, none, none, some (.int v3), some (.int v4), some (.ref s0), some (.int x1)] [.int x1] rfl ?_
      refine fs_sI T 87 rfl rfl rfl rfl rfl rfl rfl (q_X11_labelOfSlot (d := d + 1) hE ) ?_
      intro x2 m2
      exact fs_reti T rfl rfl rfl
def f_X11_way (H : fm_H) (v0 : Nat) (v1 : Int32) (v2 : Int32) (v3 : Int32) (v4 : Int32) (m : fm_M) : Option ((Int32 ⊕ String) × fm_M) :=
  fm_bx (f_X11_checkCircuit H v0 v1 m) fun _ m1 =>
  fm_bx (f_X11_checkIndex H v3 m1) fun _ m2 =>
  fm_bx (f_X11_checkWhat H v4 (2 : Int32) m2) fun _ m3 =>
  if v2 = 0 then
    if fm_isb H (m3.2.1 v0 5) 7 = true then
      if px_inb v1 (fm_sz H (H.2.1 (m3.2.1 v0 5) 3)) = true then
        (if fm_isb H (m3.2.1 (H.2.1 (m3.2.1 v0 5) 3) v1.toNatClampNeg) 0 = true then
          if fm_isb H (m3.2.1 (m3.2.1 (H.2.1 (m3.2.1 v0 5) 3) v1.toNatClampNeg) 13) 10 = true then
            f_X11_way_46 H v3 v4 (m3.2.1 (m3.2.1 (H.2.1 (m3.2.1 v0 5) 3) v1.toNatClampNeg) 13) m3
          else none
        else none)
      else none
    else none
  else
  if fm_isb H (m3.2.1 v0 5) 7 = true then
    if px_inb v1 (fm_sz H (H.2.1 (m3.2.1 v0 5) 3)) = true then
      (if fm_isb H (m3.2.1 (H.2.1 (m3.2.1 v0 5) 3) v1.toNatClampNeg) 0 = true then
        if fm_isb H (m3.2.1 (m3.2.1 (H.2.1 (m3.2.1 v0 5) 3) v1.toNatClampNeg) 14) 10 = true then
          f_X11_way_46 H v3 v4 (m3.2.1 (m3.2.1 (H.2.1 (m3.2.1 v0 5) 3) v1.toNatClampNeg) 14) m3
        else none
      else none)
    else none
  else none
set_option maxRecDepth 10000 in
theorem q_X11_way {G : pm_G} {H : fm_H} {d : Nat} {z : fm_Z H} {v0 : Nat} {v1 : Int32} {v2 : Int32} {v3 : Int32} {v4 : Int32} {m : fm_M} (hE : fm_E G H) (h0 : fm_is H v0 11) : fm_cal G H (d + 3) yX11_way [.ref v0, .int v1, .int v2, .int v3, .int v4] z m (fm_rX fm_rI) (f_X11_way H v0 v1 v2 v3 v4 m) := fm_mth (d := d + 2) mt_X11_way rfl rfl rfl (fun K => by
  show fm_o (fm_rX fm_rI) (f_X11_way H v0 v1 v2 v3 v4 m) K → fm_V G H (d + 2) RX11 cX11_way (some (.int)) z K 0 [some (.ref v0), some (.int v1), some (.int v2), some (.int v3), some (.int v4), none, none] [] m
  have T : fm_T RX11 cX11_way tc_X11_way fr_X11 mr_X11 cr_X11 lr_X11 := ⟨tok_X11, dc_X11_way⟩
  unfold f_X11_way
  refine fs_r T 2 2 [some (.ref v0), some (.int v1), some (.int v2), some (.int v3), some (.int v4), none, none] [.int v1, .ref v0] rfl ?_
  refine fs_vVx T 5 rfl rfl rfl rfl rfl rfl h0 (q_X11_checkCircuit (d := d) hE h0) ?_
  intro x1 m1
  refine fs_r T 1 6 [some (.ref v0), some (.int v1), some (.int v2), some (.int v3), some (.int v4), none, none] [.int v3] rfl ?_
  refine fs_sVx T 9 rfl rfl rfl rfl rfl rfl rfl (q_X11_checkIndex (d := d + 1) hE ) ?_
  intro x2 m2
  refine fs_r T 2 12 [some (.ref v0), some (.int v1), some (.int v2), some (.int v3), some (.int v4), none, none] [.int (2 : Int32), .int v4] rfl ?_
  refine fs_sVx T 15 rfl rfl rfl rfl rfl rfl rfl (q_X11_checkWhat (d := d) hE ) ?_
  intro x3 m3
  refine fs_r T 1 16 [some (.ref v0), some (.int v1), some (.int v2), some (.int v3), some (.int v4), none, none] [.int v2] rfl ?_
  refine fs_if_eq T 34 19 rfl rfl rfl (fun _ => ?_) (fun _ => ?_)
  · refine fs_r T 1 35 [some (.ref v0), some (.int v1), some (.int v2), some (.int v3), some (.int v4), none, none] [.ref v0] rfl ?_
    refine fs_gp T 38 11 5 v0 7 rfl rfl rfl rfl h0 ?_
    intro e1
    refine fs_gs T 41 7 3 (m3.2.1 v0 5) rfl rfl rfl rfl e1 ?_
    refine fs_r T 1 42 [some (.ref v0), some (.int v1), some (.int v2), some (.int v3), some (.int v4), none, none] [.int v1, .ref (H.2.1 (m3.2.1 v0 5) 3)] rfl ?_
    refine fs_aa T 43 (H.2.1 (m3.2.1 v0 5) 3) 0 rfl rfl (hE.1 _ 7 3 e1) ?_
    intro e2
    refine fs_gp T 46 0 13 (m3.2.1 (H.2.1 (m3.2.1 v0 5) 3) v1.toNatClampNeg) 10 rfl rfl rfl rfl e2 ?_
    intro e3
    refine fs_wk (ls' := [none, none, none, some (.int v3), some (.int v4), none, none]) ⟨rfl, rfl, trivial⟩ ?_
    exact w_X11_way_46 hE  _ _ e3
  · refine fs_r T 1 20 [some (.ref v0), some (.int v1), some (.int v2), some (.int v3), some (.int v4), none, none] [.ref v0] rfl ?_
    refine fs_gp T 23 11 5 v0 7 rfl rfl rfl rfl h0 ?_
    intro e4
    refine fs_gs T 26 7 3 (m3.2.1 v0 5) rfl rfl rfl rfl e4 ?_
    refine fs_r T 1 27 [some (.ref v0), some (.int v1), some (.int v2), some (.int v3), some (.int v4), none, none] [.int v1, .ref (H.2.1 (m3.2.1 v0 5) 3)] rfl ?_
    refine fs_aa T 28 (H.2.1 (m3.2.1 v0 5) 3) 0 rfl rfl (hE.1 _ 7 3 e4) ?_
    intro e5
    refine fs_gp T 31 0 14 (m3.2.1 (H.2.1 (m3.2.1 v0 5) 3) v1.toNatClampNeg) 10 rfl rfl rfl rfl e5 ?_
    intro e6
    refine fs_r T 1 46 [some (.ref v0), some (.int v1), some (.int v2), some (.int v3), some (.int v4), none, none] [.ref (m3.2.1 (m3.2.1 (H.2.1 (m3.2.1 v0 5) 3) v1.toNatClampNeg) 14)] rfl ?_
    refine fs_wk (ls' := [none, none, none, some (.int v3), some (.int v4), none, none]) ⟨rfl, rfl, trivial⟩ ?_
    exact w_X11_way_46 hE  _ _ e6)
def f_X11_meanDelay (H : fm_H) (v0 : Nat) (v1 : Int32) (m : fm_M) : Option ((UInt64 ⊕ String) × fm_M) :=
  fm_bx (f_X11_checkCircuit H v0 v1 m) fun _ m1 =>
  if fm_isb H (m1.2.1 v0 5) 7 = true then
    if px_inb v1 (fm_sz H (H.2.1 (m1.2.1 v0 5) 3)) = true then
      (if fm_isb H (m1.2.1 (H.2.1 (m1.2.1 v0 5) 3) v1.toNatClampNeg) 0 = true then
        if 0 < m1.1 (m1.2.1 (H.2.1 (m1.2.1 v0 5) 3) v1.toNatClampNeg) 5 then
          if fm_n64 (FP.ddiv (FP.i2d (m1.1 (m1.2.1 (H.2.1 (m1.2.1 v0 5) 3) v1.toNatClampNeg) 11)) (FP.i2d (m1.1 (m1.2.1 (H.2.1 (m1.2.1 v0 5) 3) v1.toNatClampNeg) 5))) = true then
            some (.inl (FP.ddiv (FP.i2d (m1.1 (m1.2.1 (H.2.1 (m1.2.1 v0 5) 3) v1.toNatClampNeg) 11)) (FP.i2d (m1.1 (m1.2.1 (H.2.1 (m1.2.1 v0 5) 3) v1.toNatClampNeg) 5))), m1)
          else none
        else
        some (.inl (13830554455654793216 : UInt64), m1)
      else none)
    else none
  else none
set_option maxRecDepth 10000 in
theorem q_X11_meanDelay {G : pm_G} {H : fm_H} {d : Nat} {z : fm_Z H} {v0 : Nat} {v1 : Int32} {m : fm_M} (hE : fm_E G H) (h0 : fm_is H v0 11) : fm_cal G H (d + 3) yX11_meanDelay [.ref v0, .int v1] z m (fm_rX fm_rD) (f_X11_meanDelay H v0 v1 m) := fm_mth (d := d + 2) mt_X11_meanDelay rfl rfl rfl (fun K => by
  show fm_o (fm_rX fm_rD) (f_X11_meanDelay H v0 v1 m) K → fm_V G H (d + 2) RX11 cX11_meanDelay (some (.double)) z K 0 [some (.ref v0), some (.int v1), none] [] m
  have T : fm_T RX11 cX11_meanDelay tc_X11_meanDelay fr_X11 mr_X11 cr_X11 lr_X11 := ⟨tok_X11, dc_X11_meanDelay⟩
  unfold f_X11_meanDelay
  refine fs_r T 2 2 [some (.ref v0), some (.int v1), none] [.int v1, .ref v0] rfl ?_
  refine fs_vVx T 5 rfl rfl rfl rfl rfl rfl h0 (q_X11_checkCircuit (d := d) hE h0) ?_
  intro x1 m1
  refine fs_r T 1 6 [some (.ref v0), some (.int v1), none] [.ref v0] rfl ?_
  refine fs_gp T 9 11 5 v0 7 rfl rfl rfl rfl h0 ?_
  intro e1
  refine fs_gs T 12 7 3 (m1.2.1 v0 5) rfl rfl rfl rfl e1 ?_
  refine fs_r T 1 13 [some (.ref v0), some (.int v1), none] [.int v1, .ref (H.2.1 (m1.2.1 v0 5) 3)] rfl ?_
  refine fs_aa T 14 (H.2.1 (m1.2.1 v0 5) 3) 0 rfl rfl (hE.1 _ 7 3 e1) ?_
  intro e2
  refine fs_r T 2 16 [some (.ref v0), some (.int v1), some (.ref (m1.2.1 (H.2.1 (m1.2.1 v0 5) 3) v1.toNatClampNeg))] [.ref (m1.2.1 (H.2.1 (m1.2.1 v0 5) 3) v1.toNatClampNeg)] rfl ?_
  refine fs_gi T 19 0 5 (m1.2.1 (H.2.1 (m1.2.1 v0 5) 3) v1.toNatClampNeg) rfl rfl rfl rfl e2 ?_
  refine fs_if_gt T 26 22 rfl rfl rfl (fun _ => ?_) (fun _ => ?_)
  · refine fs_r T 1 27 [some (.ref v0), some (.int v1), some (.ref (m1.2.1 (H.2.1 (m1.2.1 v0 5) 3) v1.toNatClampNeg))] [.ref (m1.2.1 (H.2.1 (m1.2.1 v0 5) 3) v1.toNatClampNeg)] rfl ?_
    refine fs_gi T 30 0 11 (m1.2.1 (H.2.1 (m1.2.1 v0 5) 3) v1.toNatClampNeg) rfl rfl rfl rfl e2 ?_
    refine fs_r T 2 32 [some (.ref v0), some (.int v1), some (.ref (m1.2.1 (H.2.1 (m1.2.1 v0 5) 3) v1.toNatClampNeg))] [.ref (m1.2.1 (H.2.1 (m1.2.1 v0 5) 3) v1.toNatClampNeg), .double (FP.i2d (m1.1 (m1.2.1 (H.2.1 (m1.2.1 v0 5) 3) v1.toNatClampNeg) 11))] rfl ?_
    refine fs_gi T 35 0 5 (m1.2.1 (H.2.1 (m1.2.1 v0 5) 3) v1.toNatClampNeg) rfl rfl rfl rfl e2 ?_
    refine fs_r T 1 36 [some (.ref v0), some (.int v1), some (.ref (m1.2.1 (H.2.1 (m1.2.1 v0 5) 3) v1.toNatClampNeg))] [.double (FP.i2d (m1.1 (m1.2.1 (H.2.1 (m1.2.1 v0 5) 3) v1.toNatClampNeg) 5)), .double (FP.i2d (m1.1 (m1.2.1 (H.2.1 (m1.2.1 v0 5) 3) v1.toNatClampNeg) 11))] rfl ?_
    refine fs_ddiv T 37 rfl rfl ?_
    exact fs_retd T rfl rfl rfl
  · refine fs_ldcD T 25 (idx := 433) (v := 13830554455654793216) rfl (pt_w_in (i := 1250) (by decide +kernel)) rfl ?_
    exact fs_retd T rfl rfl rfl)
def f_X11_usage (H : fm_H) (v0 : Nat) (m : fm_M) : Option (UInt32 × fm_M) :=
  if fm_isb H (m.2.1 v0 5) 7 = true then
    fm_bn (f_X4_allCapacities H (H.2.1 (m.2.1 v0 5) 0) m) fun x1 m1 =>
    if 0 < x1 then
      if fm_isb H (m1.2.1 v0 5) 7 = true then
        fm_bn (f_X7_reservedOnAll H (m1.2.1 v0 5) m1) fun x2 m2 =>
        if fm_n32 (FP.fdiv (FP.i2f x2) (FP.i2f x1)) = true then
          some (FP.fdiv (FP.i2f x2) (FP.i2f x1), m2)
        else none
      else none
    else
    some (FP.fconst0, m1)
  else none
set_option maxRecDepth 10000 in
theorem q_X11_usage {G : pm_G} {H : fm_H} {d : Nat} {z : fm_Z H} {v0 : Nat} {m : fm_M} (hE : fm_E G H) (h0 : fm_is H v0 11) : fm_cal G H (d + 4) yX11_usage [.ref v0] z m fm_rF (f_X11_usage H v0 m) := fm_mth (d := d + 3) mt_X11_usage rfl rfl rfl (fun K => by
  show fm_o fm_rF (f_X11_usage H v0 m) K → fm_V G H (d + 3) RX11 cX11_usage (some (.float)) z K 0 [some (.ref v0), none] [] m
  have T : fm_T RX11 cX11_usage tc_X11_usage fr_X11 mr_X11 cr_X11 lr_X11 := ⟨tok_X11, dc_X11_usage⟩
  unfold f_X11_usage
  refine fs_r T 1 1 [some (.ref v0), none] [.ref v0] rfl ?_
  refine fs_gp T 4 11 5 v0 7 rfl rfl rfl rfl h0 ?_
  intro e1
  refine fs_gs T 7 7 0 (m.2.1 v0 5) rfl rfl rfl rfl e1 ?_
  refine fs_vI T 10 rfl rfl rfl rfl rfl rfl (hE.1 _ 7 0 e1) (q_X4_allCapacities (d := d + 2) hE (hE.1 _ 7 0 e1)) ?_
  intro x1 m1
  refine fs_r T 2 12 [some (.ref v0), some (.int x1)] [.int x1] rfl ?_
  refine fs_if_gt T 17 15 rfl rfl rfl (fun _ => ?_) (fun _ => ?_)
  · refine fs_r T 1 18 [some (.ref v0), some (.int x1)] [.ref v0] rfl ?_
    refine fs_gp T 21 11 5 v0 7 rfl rfl rfl rfl h0 ?_
    intro e2
    refine fs_vI T 24 rfl rfl rfl rfl rfl rfl e2 (q_X7_reservedOnAll (d := d) hE e2) ?_
    intro x2 m2
    refine fs_r T 3 27 [some (.ref v0), some (.int x1)] [.float (FP.i2f x1), .float (FP.i2f x2)] rfl ?_
    refine fs_fdiv T 28 rfl rfl ?_
    exact fs_retf T rfl rfl rfl
  · refine fs_r T 1 16 [some (.ref v0), some (.int x1)] [.float FP.fconst0] rfl ?_
    exact fs_retf T rfl rfl rfl)
def f_X11_canMove (H : fm_H) (v0 : Nat) (v1 : Int32) (v2 : Int32) (m : fm_M) : Option ((Int32 ⊕ String) × fm_M) :=
  fm_bx (f_X11_checkCircuit H v0 v1 m) fun _ m1 =>
  fm_bx (f_X11_checkLinkOrNone H v0 v2 m1) fun _ m2 =>
  if fm_isb H (m2.2.1 v0 6) 7 = true then
    if fm_isb H (m2.2.1 v0 5) 7 = true then
      fm_bn (f_X7_copyFrom H (m2.2.1 v0 6) (m2.2.1 v0 5) m2) fun _ m3 =>
      if fm_isb H (m3.2.1 v0 6) 7 = true then
        fm_bn (f_X11_moveToBest H v0 (m3.2.1 v0 6) v1 v2 m3) fun x4 m4 =>
        some (.inl x4, m4)
      else none
    else none
  else none
set_option maxRecDepth 10000 in
theorem q_X11_canMove {G : pm_G} {H : fm_H} {d : Nat} {z : fm_Z H} {v0 : Nat} {v1 : Int32} {v2 : Int32} {m : fm_M} (hE : fm_E G H) (h0 : fm_is H v0 11) : fm_cal G H (d + 14) yX11_canMove [.ref v0, .int v1, .int v2] z m (fm_rX fm_rI) (f_X11_canMove H v0 v1 v2 m) := fm_mth (d := d + 13) mt_X11_canMove rfl rfl rfl (fun K => by
  show fm_o (fm_rX fm_rI) (f_X11_canMove H v0 v1 v2 m) K → fm_V G H (d + 13) RX11 cX11_canMove (some (.int)) z K 0 [some (.ref v0), some (.int v1), some (.int v2)] [] m
  have T : fm_T RX11 cX11_canMove tc_X11_canMove fr_X11 mr_X11 cr_X11 lr_X11 := ⟨tok_X11, dc_X11_canMove⟩
  unfold f_X11_canMove
  refine fs_r T 2 2 [some (.ref v0), some (.int v1), some (.int v2)] [.int v1, .ref v0] rfl ?_
  refine fs_vVx T 5 rfl rfl rfl rfl rfl rfl h0 (q_X11_checkCircuit (d := d + 11) hE h0) ?_
  intro x1 m1
  refine fs_r T 2 7 [some (.ref v0), some (.int v1), some (.int v2)] [.int v2, .ref v0] rfl ?_
  refine fs_vVx T 10 rfl rfl rfl rfl rfl rfl h0 (q_X11_checkLinkOrNone (d := d + 10) hE h0) ?_
  intro x2 m2
  refine fs_r T 1 11 [some (.ref v0), some (.int v1), some (.int v2)] [.ref v0] rfl ?_
  refine fs_gp T 14 11 6 v0 7 rfl rfl rfl rfl h0 ?_
  intro e1
  refine fs_r T 1 15 [some (.ref v0), some (.int v1), some (.int v2)] [.ref v0, .ref (m2.2.1 v0 6)] rfl ?_
  refine fs_gp T 18 11 5 v0 7 rfl rfl rfl rfl h0 ?_
  intro e2
  refine fs_vV T 21 rfl rfl rfl rfl rfl rfl e1 (q_X7_copyFrom (d := d + 9) hE e1 e2) ?_
  intro x3 m3
  refine fs_r T 2 23 [some (.ref v0), some (.int v1), some (.int v2)] [.ref v0, .ref v0] rfl ?_
  refine fs_gp T 26 11 6 v0 7 rfl rfl rfl rfl h0 ?_
  intro e3
  refine fs_r T 2 28 [some (.ref v0), some (.int v1), some (.int v2)] [.int v2, .int v1, .ref (m3.2.1 v0 6), .ref v0] rfl ?_
  refine fs_vI T 31 rfl rfl rfl rfl rfl rfl h0 (q_X11_moveToBest (d := d) hE h0 e3) ?_
  intro x4 m4
  exact fs_reti T rfl rfl rfl)
def f_X11_movedIn (H : fm_H) (v0 : Nat) (v1 : Int32) (m : fm_M) : Option ((Int32 ⊕ String) × fm_M) :=
  fm_bx (f_X11_checkCircuit H v0 v1 m) fun _ m1 =>
  if fm_isb H (m1.2.1 v0 5) 7 = true then
    if fm_isb H (m1.2.1 v0 5) 7 = true then
      if px_inb v1 (fm_sz H (H.2.1 (m1.2.1 v0 5) 3)) = true then
        (if fm_isb H (m1.2.1 (H.2.1 (m1.2.1 v0 5) 3) v1.toNatClampNeg) 0 = true then
          fm_bn (f_X7_ticksUntilMoved H (m1.2.1 v0 5) (m1.2.1 (H.2.1 (m1.2.1 v0 5) 3) v1.toNatClampNeg) m1) fun x2 m2 =>
          some (.inl x2, m2)
        else none)
      else none
    else none
  else none
set_option maxRecDepth 10000 in
theorem q_X11_movedIn {G : pm_G} {H : fm_H} {d : Nat} {z : fm_Z H} {v0 : Nat} {v1 : Int32} {m : fm_M} (hE : fm_E G H) (h0 : fm_is H v0 11) : fm_cal G H (d + 5) yX11_movedIn [.ref v0, .int v1] z m (fm_rX fm_rI) (f_X11_movedIn H v0 v1 m) := fm_mth (d := d + 4) mt_X11_movedIn rfl rfl rfl (fun K => by
  show fm_o (fm_rX fm_rI) (f_X11_movedIn H v0 v1 m) K → fm_V G H (d + 4) RX11 cX11_movedIn (some (.int)) z K 0 [some (.ref v0), some (.int v1)] [] m
  have T : fm_T RX11 cX11_movedIn tc_X11_movedIn fr_X11 mr_X11 cr_X11 lr_X11 := ⟨tok_X11, dc_X11_movedIn⟩
  unfold f_X11_movedIn
  refine fs_r T 2 2 [some (.ref v0), some (.int v1)] [.int v1, .ref v0] rfl ?_
  refine fs_vVx T 5 rfl rfl rfl rfl rfl rfl h0 (q_X11_checkCircuit (d := d + 2) hE h0) ?_
  intro x1 m1
  refine fs_r T 1 6 [some (.ref v0), some (.int v1)] [.ref v0] rfl ?_
  refine fs_gp T 9 11 5 v0 7 rfl rfl rfl rfl h0 ?_
  intro e1
  refine fs_r T 1 10 [some (.ref v0), some (.int v1)] [.ref v0, .ref (m1.2.1 v0 5)] rfl ?_
  refine fs_gp T 13 11 5 v0 7 rfl rfl rfl rfl h0 ?_
  intro e2
  refine fs_gs T 16 7 3 (m1.2.1 v0 5) rfl rfl rfl rfl e2 ?_
  refine fs_r T 1 17 [some (.ref v0), some (.int v1)] [.int v1, .ref (H.2.1 (m1.2.1 v0 5) 3), .ref (m1.2.1 v0 5)] rfl ?_
  refine fs_aa T 18 (H.2.1 (m1.2.1 v0 5) 3) 0 rfl rfl (hE.1 _ 7 3 e2) ?_
  intro e3
  refine fs_vI T 21 rfl rfl rfl rfl rfl rfl e1 (q_X7_ticksUntilMoved (d := d) hE e1 e3) ?_
  intro x2 m2
  exact fs_reti T rfl rfl rfl)
def f_X11_fateTotal (H : fm_H) (v0 : Nat) (v1 : Int32) (m : fm_M) : Option (Int32 × fm_M) :=
  fm_sw v1 0 [  some (m.1 v0 1, m),
    some (m.1 v0 2, m),
    some (m.1 v0 4, m)]
    (some (m.1 v0 3, m))
set_option maxRecDepth 10000 in
theorem q_X11_fateTotal {G : pm_G} {H : fm_H} {d : Nat} {z : fm_Z H} {v0 : Nat} {v1 : Int32} {m : fm_M} (hE : fm_E G H) (h0 : fm_is H v0 9) : fm_cal G H (d + 1) yX11_fateTotal [.ref v0, .int v1] z m fm_rI (f_X11_fateTotal H v0 v1 m) := fm_mth (d := d + 0) mt_X11_fateTotal rfl rfl rfl (fun K => by
  show fm_o fm_rI (f_X11_fateTotal H v0 v1 m) K → fm_V G H (d + 0) RX11 cX11_fateTotal (some (.int)) z K 0 [some (.ref v0), some (.int v1)] [] m
  have T : fm_T RX11 cX11_fateTotal tc_X11_fateTotal fr_X11 mr_X11 cr_X11 lr_X11 := ⟨tok_X11, dc_X11_fateTotal⟩
  unfold f_X11_fateTotal
  refine fs_r T 1 1 [some (.ref v0), some (.int v1)] [.int v1] rfl ?_
  refine fs_tsw T (dflt := 42) (lo := 0) (hi := 2) (offs := #[27, 32, 37]) (t := 43) rfl rfl rfl rfl ⟨⟨28, rfl, ?_⟩, ⟨33, rfl, ?_⟩, ⟨38, rfl, ?_⟩, trivial⟩ ?_
  · refine fs_r T 1 29 [some (.ref v0), some (.int v1)] [.ref v0] rfl ?_
    refine fs_gi T 32 9 1 v0 rfl rfl rfl rfl h0 ?_
    exact fs_reti T rfl rfl rfl
  · refine fs_r T 1 34 [some (.ref v0), some (.int v1)] [.ref v0] rfl ?_
    refine fs_gi T 37 9 2 v0 rfl rfl rfl rfl h0 ?_
    exact fs_reti T rfl rfl rfl
  · refine fs_r T 1 39 [some (.ref v0), some (.int v1)] [.ref v0] rfl ?_
    refine fs_gi T 42 9 4 v0 rfl rfl rfl rfl h0 ?_
    exact fs_reti T rfl rfl rfl
  · refine fs_r T 1 44 [some (.ref v0), some (.int v1)] [.ref v0] rfl ?_
    refine fs_gi T 47 9 3 v0 rfl rfl rfl rfl h0 ?_
    exact fs_reti T rfl rfl rfl)
def f_X11_ahead_22 (H : fm_H) (v0 : Nat) (v1 : Int32) (v2 : Int32) : Nat → Int32 → fm_M → Option ((Int32 ⊕ String) × fm_M)
  | 0, _, _ => none
  | n + 1, v3, m =>
    if v1 ≤ v3 then
      if fm_isb H (m.2.1 v0 6) 7 = true then
        fm_bn (f_X11_fateTotal H (H.2.1 (m.2.1 v0 6) 2) v2 m) fun x1 m1 =>
        if fm_isb H (m1.2.1 v0 5) 7 = true then
          fm_bn (f_X11_fateTotal H (H.2.1 (m1.2.1 v0 5) 2) v2 m1) fun x2 m2 =>
          some (.inl (x1 - x2), m2)
        else none
      else none
    else
    if fm_isb H (m.2.1 v0 6) 7 = true then
      fm_bn (f_X7_tick H (m.2.1 v0 6) m) fun _ m3 =>
      f_X11_ahead_22 H v0 v1 v2 n (v3 + 1) m3
    else none
set_option maxRecDepth 10000 in
theorem w_X11_ahead_22 {G : pm_G} {H : fm_H} {d : Nat} {z : fm_Z H} {K : pm_R → fm_M → Prop} (hE : fm_E G H) {v0 : Nat} {v1 : Int32} {v2 : Int32} (h0 : fm_is H v0 11) : ∀ (n : Nat) (v3 : Int32) (m : fm_M), fm_o (fm_rX fm_rI) (f_X11_ahead_22 H v0 v1 v2 n v3 m) K → fm_V G H (d + 6) RX11 cX11_ahead (some (.int)) z K 22 [some (.ref v0), some (.int v1), some (.int v2), some (.int v3)] [] m := by
  have T : fm_T RX11 cX11_ahead tc_X11_ahead fr_X11 mr_X11 cr_X11 lr_X11 := ⟨tok_X11, dc_X11_ahead⟩
  intro n
  induction n with
  | zero =>
    intro v3 m 
    exact fs_none
  | succ n ih =>
    intro v3 m 
    unfold f_X11_ahead_22
    refine fs_r T 2 24 [some (.ref v0), some (.int v1), some (.int v2), some (.int v3)] [.int v1, .int v3] rfl ?_
    refine fs_ic_ge T 40 27 rfl rfl rfl (fun _ => ?_) (fun _ => ?_)
    · refine fs_r T 1 41 [some (.ref v0), some (.int v1), some (.int v2), some (.int v3)] [.ref v0] rfl ?_
      refine fs_gp T 44 11 6 v0 7 rfl rfl rfl rfl h0 ?_
      intro e1
      refine fs_gs T 47 7 2 (m.2.1 v0 6) rfl rfl rfl rfl e1 ?_
      refine fs_r T 1 48 [some (.ref v0), some (.int v1), some (.int v2), some (.int v3)] [.int v2, .ref (H.2.1 (m.2.1 v0 6) 2)] rfl ?_
      refine fs_sI T 51 rfl rfl rfl rfl rfl rfl rfl (q_X11_fateTotal (d := d + 5) hE (hE.1 _ 7 2 e1)) ?_
      intro x1 m1
      refine fs_r T 1 52 [some (.ref v0), some (.int v1), some (.int v2), some (.int v3)] [.ref v0, .int x1] rfl ?_
      refine fs_gp T 55 11 5 v0 7 rfl rfl rfl rfl h0 ?_
      intro e2
      refine fs_gs T 58 7 2 (m1.2.1 v0 5) rfl rfl rfl rfl e2 ?_
      refine fs_r T 1 59 [some (.ref v0), some (.int v1), some (.int v2), some (.int v3)] [.int v2, .ref (H.2.1 (m1.2.1 v0 5) 2), .int x1] rfl ?_
      refine fs_sI T 62 rfl rfl rfl rfl rfl rfl rfl (q_X11_fateTotal (d := d + 5) hE (hE.1 _ 7 2 e2)) ?_
      intro x2 m2
      refine fs_r T 1 63 [some (.ref v0), some (.int v1), some (.int v2), some (.int v3)] [.int (x1 - x2)] rfl ?_
      exact fs_reti T rfl rfl rfl
    · refine fs_r T 1 28 [some (.ref v0), some (.int v1), some (.int v2), some (.int v3)] [.ref v0] rfl ?_
      refine fs_gp T 31 11 6 v0 7 rfl rfl rfl rfl h0 ?_
      intro e3
      refine fs_vV T 34 rfl rfl rfl rfl rfl rfl e3 (q_X7_tick (d := d) hE e3) ?_
      intro x3 m3
      refine fs_r T 2 22 [some (.ref v0), some (.int v1), some (.int v2), some (.int (v3 + 1))] [] rfl ?_
      exact ih _ _
def f_X11_ahead (H : fm_H) (v0 : Nat) (v1 : Int32) (v2 : Int32) (m : fm_M) : Option ((Int32 ⊕ String) × fm_M) :=
  fm_bx (f_X11_checkTicks H v1 m) fun _ m1 =>
  fm_bx (f_X11_checkWhat H v2 (3 : Int32) m1) fun _ m2 =>
  if fm_isb H (m2.2.1 v0 6) 7 = true then
    if fm_isb H (m2.2.1 v0 5) 7 = true then
      fm_bn (f_X7_copyFrom H (m2.2.1 v0 6) (m2.2.1 v0 5) m2) fun _ m3 =>
      f_X11_ahead_22 H v0 v1 v2 fm_N (0 : Int32) m3
    else none
  else none
set_option maxRecDepth 10000 in
theorem q_X11_ahead {G : pm_G} {H : fm_H} {d : Nat} {z : fm_Z H} {v0 : Nat} {v1 : Int32} {v2 : Int32} {m : fm_M} (hE : fm_E G H) (h0 : fm_is H v0 11) : fm_cal G H (d + 7) yX11_ahead [.ref v0, .int v1, .int v2] z m (fm_rX fm_rI) (f_X11_ahead H v0 v1 v2 m) := fm_mth (d := d + 6) mt_X11_ahead rfl rfl rfl (fun K => by
  show fm_o (fm_rX fm_rI) (f_X11_ahead H v0 v1 v2 m) K → fm_V G H (d + 6) RX11 cX11_ahead (some (.int)) z K 0 [some (.ref v0), some (.int v1), some (.int v2), none] [] m
  have T : fm_T RX11 cX11_ahead tc_X11_ahead fr_X11 mr_X11 cr_X11 lr_X11 := ⟨tok_X11, dc_X11_ahead⟩
  unfold f_X11_ahead
  refine fs_r T 1 1 [some (.ref v0), some (.int v1), some (.int v2), none] [.int v1] rfl ?_
  refine fs_sVx T 4 rfl rfl rfl rfl rfl rfl rfl (q_X11_checkTicks (d := d + 4) hE ) ?_
  intro x1 m1
  refine fs_r T 2 6 [some (.ref v0), some (.int v1), some (.int v2), none] [.int (3 : Int32), .int v2] rfl ?_
  refine fs_sVx T 9 rfl rfl rfl rfl rfl rfl rfl (q_X11_checkWhat (d := d + 4) hE ) ?_
  intro x2 m2
  refine fs_r T 1 10 [some (.ref v0), some (.int v1), some (.int v2), none] [.ref v0] rfl ?_
  refine fs_gp T 13 11 6 v0 7 rfl rfl rfl rfl h0 ?_
  intro e4
  refine fs_r T 1 14 [some (.ref v0), some (.int v1), some (.int v2), none] [.ref v0, .ref (m2.2.1 v0 6)] rfl ?_
  refine fs_gp T 17 11 5 v0 7 rfl rfl rfl rfl h0 ?_
  intro e5
  refine fs_vV T 20 rfl rfl rfl rfl rfl rfl e4 (q_X7_copyFrom (d := d + 2) hE e4 e5) ?_
  intro x3 m3
  refine fs_r T 2 22 [some (.ref v0), some (.int v1), some (.int v2), some (.int (0 : Int32))] [] rfl ?_
  exact w_X11_ahead_22 hE h0 _ _ _)
def f_X11_weakLink (H : fm_H) (v0 : Nat) (m : fm_M) : Option (Int32 × fm_M) :=
  if fm_isb H (m.2.1 v0 5) 7 = true then
    fm_bn (f_X1_weakestLink H (H.2.1 v0 1) (m.2.1 v0 5) m) fun x1 m1 =>
    some (x1, m1)
  else none
set_option maxRecDepth 10000 in
theorem q_X11_weakLink {G : pm_G} {H : fm_H} {d : Nat} {z : fm_Z H} {v0 : Nat} {m : fm_M} (hE : fm_E G H) (h0 : fm_is H v0 11) : fm_cal G H (d + 15) yX11_weakLink [.ref v0] z m fm_rI (f_X11_weakLink H v0 m) := fm_mth (d := d + 14) mt_X11_weakLink rfl rfl rfl (fun K => by
  show fm_o fm_rI (f_X11_weakLink H v0 m) K → fm_V G H (d + 14) RX11 cX11_weakLink (some (.int)) z K 0 [some (.ref v0)] [] m
  have T : fm_T RX11 cX11_weakLink tc_X11_weakLink fr_X11 mr_X11 cr_X11 lr_X11 := ⟨tok_X11, dc_X11_weakLink⟩
  unfold f_X11_weakLink
  refine fs_r T 1 1 [some (.ref v0)] [.ref v0] rfl ?_
  refine fs_gs T 4 11 1 v0 rfl rfl rfl rfl h0 ?_
  refine fs_r T 1 5 [some (.ref v0)] [.ref v0, .ref (H.2.1 v0 1)] rfl ?_
  refine fs_gp T 8 11 5 v0 7 rfl rfl rfl rfl h0 ?_
  intro e1
  refine fs_vI T 11 rfl rfl rfl rfl rfl rfl (hE.1 _ 11 1 h0) (q_X1_weakestLink (d := d) hE (hE.1 _ 11 1 h0) e1) ?_
  intro x1 m1
  exact fs_reti T rfl rfl rfl)
def f_X11_checkSavedSlot (H : fm_H) (v0 : Int32) (m : fm_M) : Option ((Unit ⊕ String) × fm_M) :=
  fm_bn (f_X11_isOutside H v0 (0 : Int32) (1 : Int32) m) fun x1 m1 =>
  if x1 = 0 then
    some (.inl (), m1)
  else
  some (.inr pm_xA, m1)
set_option maxRecDepth 10000 in
theorem q_X11_checkSavedSlot {G : pm_G} {H : fm_H} {d : Nat} {z : fm_Z H} {v0 : Int32} {m : fm_M} (hE : fm_E G H) : fm_cal G H (d + 2) yX11_checkSavedSlot [.int v0] z m (fm_rX fm_rV) (f_X11_checkSavedSlot H v0 m) := fm_mth (d := d + 1) mt_X11_checkSavedSlot rfl rfl rfl (fun K => by
  show fm_o (fm_rX fm_rV) (f_X11_checkSavedSlot H v0 m) K → fm_V G H (d + 1) RX11 cX11_checkSavedSlot none z K 0 [some (.int v0)] [] m
  have T : fm_T RX11 cX11_checkSavedSlot tc_X11_checkSavedSlot fr_X11 mr_X11 cr_X11 lr_X11 := ⟨tok_X11, dc_X11_checkSavedSlot⟩
  unfold f_X11_checkSavedSlot
  refine fs_r T 3 3 [some (.int v0)] [.int (1 : Int32), .int (0 : Int32), .int v0] rfl ?_
  refine fs_sI T 6 rfl rfl rfl rfl rfl rfl rfl (q_X11_isOutside (d := d) hE ) ?_
  intro x1 m1
  refine fs_if_eq T 20 9 rfl rfl rfl (fun _ => ?_) (fun _ => ?_)
  · exact fs_retv T rfl rfl rfl
  · exact fs_thr T rfl rfl rfl rfl rfl)
def f_X11_save (H : fm_H) (v0 : Nat) (v1 : Int32) (m : fm_M) : Option ((Unit ⊕ String) × fm_M) :=
  fm_bx (f_X11_checkSavedSlot H v1 m) fun _ m1 =>
  if px_inb v1 (fm_sz H (H.2.1 v0 3)) = true then
    (if fm_isb H (m1.2.1 (H.2.1 v0 3) v1.toNatClampNeg) 7 = true then
      if fm_isb H (m1.2.1 v0 5) 7 = true then
        fm_bn (f_X7_copyFrom H (m1.2.1 (H.2.1 v0 3) v1.toNatClampNeg) (m1.2.1 v0 5) m1) fun _ m2 =>
        if px_inb v1 (fm_sz H (H.2.1 v0 4)) = true then
          (fm_bd (fm_si m2 (H.2.1 v0 4) v1.toNatClampNeg (fm_nw .boolean (1 : Int32))) fun m3 =>
          some (.inl (), m3))
        else none
      else none
    else none)
  else none
set_option maxRecDepth 10000 in
theorem q_X11_save {G : pm_G} {H : fm_H} {d : Nat} {z : fm_Z H} {v0 : Nat} {v1 : Int32} {m : fm_M} (hE : fm_E G H) (h0 : fm_is H v0 11) : fm_cal G H (d + 5) yX11_save [.ref v0, .int v1] z m (fm_rX fm_rV) (f_X11_save H v0 v1 m) := fm_mth (d := d + 4) mt_X11_save rfl rfl rfl (fun K => by
  show fm_o (fm_rX fm_rV) (f_X11_save H v0 v1 m) K → fm_V G H (d + 4) RX11 cX11_save none z K 0 [some (.ref v0), some (.int v1)] [] m
  have T : fm_T RX11 cX11_save tc_X11_save fr_X11 mr_X11 cr_X11 lr_X11 := ⟨tok_X11, dc_X11_save⟩
  unfold f_X11_save
  refine fs_r T 1 1 [some (.ref v0), some (.int v1)] [.int v1] rfl ?_
  refine fs_sVx T 4 rfl rfl rfl rfl rfl rfl rfl (q_X11_checkSavedSlot (d := d + 2) hE ) ?_
  intro x1 m1
  refine fs_r T 1 5 [some (.ref v0), some (.int v1)] [.ref v0] rfl ?_
  refine fs_gs T 8 11 3 v0 rfl rfl rfl rfl h0 ?_
  refine fs_r T 1 9 [some (.ref v0), some (.int v1)] [.int v1, .ref (H.2.1 v0 3)] rfl ?_
  refine fs_aa T 10 (H.2.1 v0 3) 7 rfl rfl (hE.1 _ 11 3 h0) ?_
  intro e1
  refine fs_r T 1 11 [some (.ref v0), some (.int v1)] [.ref v0, .ref (m1.2.1 (H.2.1 v0 3) v1.toNatClampNeg)] rfl ?_
  refine fs_gp T 14 11 5 v0 7 rfl rfl rfl rfl h0 ?_
  intro e2
  refine fs_vV T 17 rfl rfl rfl rfl rfl rfl e1 (q_X7_copyFrom (d := d) hE e1 e2) ?_
  intro x2 m2
  refine fs_r T 1 18 [some (.ref v0), some (.int v1)] [.ref v0] rfl ?_
  refine fs_gs T 21 11 4 v0 rfl rfl rfl rfl h0 ?_
  refine fs_r T 2 23 [some (.ref v0), some (.int v1)] [.int (1 : Int32), .int v1, .ref (H.2.1 v0 4)] rfl ?_
  refine fs_sb T 24 (H.2.1 v0 4) rfl rfl (Or.inr rfl) (hE.1 _ 11 4 h0) ?_
  intro m3
  exact fs_retv T rfl rfl rfl)
def f_X11_restore (H : fm_H) (v0 : Nat) (v1 : Int32) (m : fm_M) : Option ((Unit ⊕ String) × fm_M) :=
  fm_bx (f_X11_checkSavedSlot H v1 m) fun _ m1 =>
  if px_inb v1 (fm_sz H (H.2.1 v0 4)) = true then
    if m1.1 (H.2.1 v0 4) v1.toNatClampNeg = 0 then
      some (.inr pm_xI, m1)
    else
    if fm_isb H (m1.2.1 v0 5) 7 = true then
      if px_inb v1 (fm_sz H (H.2.1 v0 3)) = true then
        (if fm_isb H (m1.2.1 (H.2.1 v0 3) v1.toNatClampNeg) 7 = true then
          fm_bn (f_X7_copyFrom H (m1.2.1 v0 5) (m1.2.1 (H.2.1 v0 3) v1.toNatClampNeg) m1) fun _ m2 =>
          fm_bn (f_X10_erase H (H.2.1 v0 2) m2) fun _ m3 =>
          some (.inl (), m3)
        else none)
      else none
    else none
  else none
set_option maxRecDepth 10000 in
theorem q_X11_restore {G : pm_G} {H : fm_H} {d : Nat} {z : fm_Z H} {v0 : Nat} {v1 : Int32} {m : fm_M} (hE : fm_E G H) (h0 : fm_is H v0 11) : fm_cal G H (d + 5) yX11_restore [.ref v0, .int v1] z m (fm_rX fm_rV) (f_X11_restore H v0 v1 m) := fm_mth (d := d + 4) mt_X11_restore rfl rfl rfl (fun K => by
  show fm_o (fm_rX fm_rV) (f_X11_restore H v0 v1 m) K → fm_V G H (d + 4) RX11 cX11_restore none z K 0 [some (.ref v0), some (.int v1)] [] m
  have T : fm_T RX11 cX11_restore tc_X11_restore fr_X11 mr_X11 cr_X11 lr_X11 := ⟨tok_X11, dc_X11_restore⟩
  unfold f_X11_restore
  refine fs_r T 1 1 [some (.ref v0), some (.int v1)] [.int v1] rfl ?_
  refine fs_sVx T 4 rfl rfl rfl rfl rfl rfl rfl (q_X11_checkSavedSlot (d := d + 2) hE ) ?_
  intro x1 m1
  refine fs_r T 1 5 [some (.ref v0), some (.int v1)] [.ref v0] rfl ?_
  refine fs_gs T 8 11 4 v0 rfl rfl rfl rfl h0 ?_
  refine fs_r T 1 9 [some (.ref v0), some (.int v1)] [.int v1, .ref (H.2.1 v0 4)] rfl ?_
  refine fs_ab T 10 (H.2.1 v0 4) rfl rfl (Or.inr rfl) (hE.1 _ 11 4 h0) ?_
  refine fs_if_ne T 24 13 rfl rfl rfl (fun _ => ?_) (fun _ => ?_)
  · exact fs_thr T rfl rfl rfl rfl rfl
  · refine fs_r T 1 25 [some (.ref v0), some (.int v1)] [.ref v0] rfl ?_
    refine fs_gp T 28 11 5 v0 7 rfl rfl rfl rfl h0 ?_
    intro e1
    refine fs_r T 1 29 [some (.ref v0), some (.int v1)] [.ref v0, .ref (m1.2.1 v0 5)] rfl ?_
    refine fs_gs T 32 11 3 v0 rfl rfl rfl rfl h0 ?_
    refine fs_r T 1 33 [some (.ref v0), some (.int v1)] [.int v1, .ref (H.2.1 v0 3), .ref (m1.2.1 v0 5)] rfl ?_
    refine fs_aa T 34 (H.2.1 v0 3) 7 rfl rfl (hE.1 _ 11 3 h0) ?_
    intro e2
    refine fs_vV T 37 rfl rfl rfl rfl rfl rfl e1 (q_X7_copyFrom (d := d) hE e1 e2) ?_
    intro x2 m2
    refine fs_r T 1 38 [some (.ref v0), some (.int v1)] [.ref v0] rfl ?_
    refine fs_gs T 41 11 2 v0 rfl rfl rfl rfl h0 ?_
    refine fs_vV T 44 rfl rfl rfl rfl rfl rfl (hE.1 _ 11 2 h0) (q_X10_erase (d := d + 3) hE (hE.1 _ 11 2 h0)) ?_
    intro x3 m3
    exact fs_retv T rfl rfl rfl)
