/-! functions out of the code -/
def f_X7_ticksUntilMoved (H : fm_H) (v0 : Nat) (v1 : Nat) (m : fm_M) : Option (Int32 × fm_M) :=
  if fm_isb H (m.2.1 v1 13) 10 = true then
    fm_bn (f_X10_heldSlots H (m.2.1 v1 13) m) fun x1 m1 =>
    fm_sw (m1.1 v1 2) 1 [  if fm_isb H (m1.2.1 v1 13) 10 = true then
        fm_bn (f_X4_delayOf H (H.2.1 v0 0) (m1.2.1 v1 13) m1) fun x2 m2 =>
        some ((((m1.1 v1 10 + (1 : Int32)) + x2) + x1), m2)
      else none,
      some ((m1.1 v1 9 + x1), m1),
      some (x1, m1)]
      (some ((0 : Int32), m1))
  else none
set_option maxRecDepth 10000 in
theorem q_X7_ticksUntilMoved {G : pm_G} {H : fm_H} {d : Nat} {z : fm_Z H} {v0 : Nat} {v1 : Nat} {m : fm_M} (hE : fm_E G H) (h0 : fm_is H v0 7) (h1 : fm_is H v1 0) : fm_cal G H (d + 4) yX7_ticksUntilMoved [.ref v0, .ref v1] z m fm_rI (f_X7_ticksUntilMoved H v0 v1 m) := fm_mth (d := d + 3) mt_X7_ticksUntilMoved rfl rfl rfl (fun K => by
  show fm_o fm_rI (f_X7_ticksUntilMoved H v0 v1 m) K → fm_V G H (d + 3) RX7 cX7_ticksUntilMoved (some (.int)) z K 0 [some (.ref v0), some (.ref v1), none] [] m
  have T : fm_T RX7 cX7_ticksUntilMoved tc_X7_ticksUntilMoved fr_X7 mr_X7 cr_X7 lr_X7 := ⟨tok_X7, dc_X7_ticksUntilMoved⟩
  unfold f_X7_ticksUntilMoved
  refine fs_r T 1 1 [some (.ref v0), some (.ref v1), none] [.ref v1] rfl ?_
  refine fs_gp T 4 0 13 v1 10 rfl rfl rfl rfl h1 ?_
  intro e1
  refine fs_vI T 7 rfl rfl rfl rfl rfl rfl e1 (q_X10_heldSlots (d := d + 2) hE e1) ?_
  intro x1 m1
  refine fs_r T 2 9 [some (.ref v0), some (.ref v1), some (.int x1)] [.ref v1] rfl ?_
  refine fs_gi T 12 0 2 v1 rfl rfl rfl rfl h1 ?_
  refine fs_tsw T (dflt := 58) (lo := 1) (hi := 3) (offs := #[28, 49, 56]) (t := 70) rfl rfl rfl rfl ⟨⟨40, rfl, ?_⟩, ⟨61, rfl, ?_⟩, ⟨68, rfl, ?_⟩, trivial⟩ ?_
  · refine fs_r T 1 41 [some (.ref v0), some (.ref v1), some (.int x1)] [.ref v1] rfl ?_
    refine fs_gi T 44 0 10 v1 rfl rfl rfl rfl h1 ?_
    refine fs_r T 3 47 [some (.ref v0), some (.ref v1), some (.int x1)] [.ref v0, .int (m1.1 v1 10 + (1 : Int32))] rfl ?_
    refine fs_gs T 50 7 0 v0 rfl rfl rfl rfl h0 ?_
    refine fs_r T 1 51 [some (.ref v0), some (.ref v1), some (.int x1)] [.ref v1, .ref (H.2.1 v0 0), .int (m1.1 v1 10 + (1 : Int32))] rfl ?_
    refine fs_gp T 54 0 13 v1 10 rfl rfl rfl rfl h1 ?_
    intro e2
    refine fs_vI T 57 rfl rfl rfl rfl rfl rfl (hE.1 _ 7 0 h0) (q_X4_delayOf (d := d) hE (hE.1 _ 7 0 h0) e2) ?_
    intro x2 m2
    refine fs_r T 3 60 [some (.ref v0), some (.ref v1), some (.int x1)] [.int (((m1.1 v1 10 + (1 : Int32)) + x2) + x1)] rfl ?_
    exact fs_reti T rfl rfl rfl
  · refine fs_r T 1 62 [some (.ref v0), some (.ref v1), some (.int x1)] [.ref v1] rfl ?_
    refine fs_gi T 65 0 9 v1 rfl rfl rfl rfl h1 ?_
    refine fs_r T 2 67 [some (.ref v0), some (.ref v1), some (.int x1)] [.int (m1.1 v1 9 + x1)] rfl ?_
    exact fs_reti T rfl rfl rfl
  · refine fs_r T 1 69 [some (.ref v0), some (.ref v1), some (.int x1)] [.int x1] rfl ?_
    exact fs_reti T rfl rfl rfl
  · refine fs_r T 1 71 [some (.ref v0), some (.ref v1), some (.int x1)] [.int (0 : Int32)] rfl ?_
    exact fs_reti T rfl rfl rfl)
def f_X7_build (H : fm_H) (v0 : Nat) (v1 : Nat) (m : fm_M) : Option (Unit × fm_M) :=
  if m.1 v1 10 ≤ 0 then
    fm_bd (fm_si m v1 2 (2 : Int32)) fun m1 =>
    if fm_isb H (m1.2.1 v1 13) 10 = true then
      fm_bn (f_X4_delayOf H (H.2.1 v0 0) (m1.2.1 v1 13) m1) fun x1 m2 =>
      fm_bd (fm_si m2 v1 9 x1) fun m3 =>
      if m3.1 v0 8 = (1 : Int32) then
        if fm_isb H (m3.2.1 v1 14) 10 = true then
          fm_bn (f_X4_delayOf H (H.2.1 v0 0) (m3.2.1 v1 14) m3) fun x2 m4 =>
          fm_bd (fm_si m4 v1 8 (pm_mm true (0 : Int32) (m3.1 v1 9 - x2))) fun m5 =>
          some ((), m5)
        else none
      else
      some ((), m3)
    else none
  else
  if fm_isb H (m.2.1 v1 14) 10 = true then
    fm_bn (f_X10_slotAt H (m.2.1 v1 14) (m.1 v1 10) m) fun x3 m6 =>
    fm_bn (f_X2_makeEntry H (H.2.1 v0 1) x3 m6) fun _ m7 =>
    fm_bd (fm_si m7 v1 10 (m7.1 v1 10 - (1 : Int32))) fun m8 =>
    some ((), m8)
  else none
set_option maxRecDepth 10000 in
theorem q_X7_build {G : pm_G} {H : fm_H} {d : Nat} {z : fm_Z H} {v0 : Nat} {v1 : Nat} {m : fm_M} (hE : fm_E G H) (h0 : fm_is H v0 7) (h1 : fm_is H v1 0) : fm_cal G H (d + 4) yX7_build [.ref v0, .ref v1] z m fm_rV (f_X7_build H v0 v1 m) := fm_mth (d := d + 3) mt_X7_build rfl rfl rfl (fun K => by
  show fm_o fm_rV (f_X7_build H v0 v1 m) K → fm_V G H (d + 3) RX7 cX7_build none z K 0 [some (.ref v0), some (.ref v1)] [] m
  have T : fm_T RX7 cX7_build tc_X7_build fr_X7 mr_X7 cr_X7 lr_X7 := ⟨tok_X7, dc_X7_build⟩
  unfold f_X7_build
  refine fs_r T 1 1 [some (.ref v0), some (.ref v1)] [.ref v1] rfl ?_
  refine fs_gi T 4 0 10 v1 rfl rfl rfl rfl h1 ?_
  refine fs_if_le T 36 7 rfl rfl rfl (fun _ => ?_) (fun _ => ?_)
  · refine fs_r T 2 38 [some (.ref v0), some (.ref v1)] [.int (2 : Int32), .ref v1] rfl ?_
    refine fs_pi T 41 0 2 v1 rfl rfl rfl rfl h1 ?_
    intro m1
    refine fs_r T 2 43 [some (.ref v0), some (.ref v1)] [.ref v0, .ref v1] rfl ?_
    refine fs_gs T 46 7 0 v0 rfl rfl rfl rfl h0 ?_
    refine fs_r T 1 47 [some (.ref v0), some (.ref v1)] [.ref v1, .ref (H.2.1 v0 0), .ref v1] rfl ?_
    refine fs_gp T 50 0 13 v1 10 rfl rfl rfl rfl h1 ?_
    intro e1
    refine fs_vI T 53 rfl rfl rfl rfl rfl rfl (hE.1 _ 7 0 h0) (q_X4_delayOf (d := d) hE (hE.1 _ 7 0 h0) e1) ?_
    intro x1 m2
    refine fs_pi T 56 0 9 v1 rfl rfl rfl rfl h1 ?_
    intro m3
    refine fs_r T 1 57 [some (.ref v0), some (.ref v1)] [.ref v0] rfl ?_
    refine fs_gi T 60 7 8 v0 rfl rfl rfl rfl h0 ?_
    refine fs_r T 1 61 [some (.ref v0), some (.ref v1)] [.int (1 : Int32), .int (m3.1 v0 8)] rfl ?_
    refine fs_ic_ne T 88 64 rfl rfl rfl (fun _ => ?_) (fun _ => ?_)
    · refine fs_r T 3 67 [some (.ref v0), some (.ref v1)] [.ref v1, .int (0 : Int32), .ref v1] rfl ?_
      refine fs_gi T 70 0 9 v1 rfl rfl rfl rfl h1 ?_
      refine fs_r T 1 71 [some (.ref v0), some (.ref v1)] [.ref v0, .int (m3.1 v1 9), .int (0 : Int32), .ref v1] rfl ?_
      refine fs_gs T 74 7 0 v0 rfl rfl rfl rfl h0 ?_
      refine fs_r T 1 75 [some (.ref v0), some (.ref v1)] [.ref v1, .ref (H.2.1 v0 0), .int (m3.1 v1 9), .int (0 : Int32), .ref v1] rfl ?_
      refine fs_gp T 78 0 14 v1 10 rfl rfl rfl rfl h1 ?_
      intro e2
      refine fs_vI T 81 rfl rfl rfl rfl rfl rfl (hE.1 _ 7 0 h0) (q_X4_delayOf (d := d) hE (hE.1 _ 7 0 h0) e2) ?_
      intro x2 m4
      refine fs_r T 1 82 [some (.ref v0), some (.ref v1)] [.int (m3.1 v1 9 - x2), .int (0 : Int32), .ref v1] rfl ?_
      refine fs_mm T 85 rfl ma_X7_319 rfl rfl ?_
      refine fs_pi T 88 0 8 v1 rfl rfl rfl rfl h1 ?_
      intro m5
      exact fs_retv T rfl rfl rfl
    · exact fs_retv T rfl rfl rfl
  · refine fs_r T 1 8 [some (.ref v0), some (.ref v1)] [.ref v0] rfl ?_
    refine fs_gs T 11 7 1 v0 rfl rfl rfl rfl h0 ?_
    refine fs_r T 1 12 [some (.ref v0), some (.ref v1)] [.ref v1, .ref (H.2.1 v0 1)] rfl ?_
    refine fs_gp T 15 0 14 v1 10 rfl rfl rfl rfl h1 ?_
    intro e3
    refine fs_r T 1 16 [some (.ref v0), some (.ref v1)] [.ref v1, .ref (m.2.1 v1 14), .ref (H.2.1 v0 1)] rfl ?_
    refine fs_gi T 19 0 10 v1 rfl rfl rfl rfl h1 ?_
    refine fs_vI T 22 rfl rfl rfl rfl rfl rfl e3 (q_X10_slotAt (d := d + 2) hE e3) ?_
    intro x3 m6
    refine fs_vV T 25 rfl rfl rfl rfl rfl rfl (hE.1 _ 7 1 h0) (q_X2_makeEntry (d := d + 1) hE (hE.1 _ 7 1 h0)) ?_
    intro x4 m7
    refine fs_r T 2 27 [some (.ref v0), some (.ref v1)] [.ref v1, .ref v1] rfl ?_
    refine fs_gi T 30 0 10 v1 rfl rfl rfl rfl h1 ?_
    refine fs_r T 2 32 [some (.ref v0), some (.ref v1)] [.int (m7.1 v1 10 - (1 : Int32)), .ref v1] rfl ?_
    refine fs_pi T 35 0 10 v1 rfl rfl rfl rfl h1 ?_
    intro m8
    exact fs_retv T rfl rfl rfl)
def f_X7_clearOne (H : fm_H) (v0 : Nat) (v1 : Nat) (m : fm_M) : Option (Unit × fm_M) :=
  if fm_isb H (m.2.1 v1 13) 10 = true then
    if fm_isb H (m.2.1 v1 13) 10 = true then
      fm_bn (f_X10_heldSlots H (m.2.1 v1 13) m) fun x1 m1 =>
      if fm_isb H (m1.2.1 v1 13) 10 = true then
        fm_bn (f_X10_slotAt H (m1.2.1 v1 13) (m.1 (m.2.1 v1 13) 0 - x1) m1) fun x2 m2 =>
        fm_bn (f_X2_giveUp H (H.2.1 v0 1) x2 m2) fun _ m3 =>
        if fm_isb H (m3.2.1 v1 13) 10 = true then
          fm_bn (f_X10_putSlot H (m3.2.1 v1 13) (m.1 (m.2.1 v1 13) 0 - x1) (-1 : Int32) m3) fun _ m4 =>
          if fm_isb H (m4.2.1 v1 13) 10 = true then
            if (m.1 (m.2.1 v1 13) 0 - x1) < (m4.1 (m4.2.1 v1 13) 0 - (1 : Int32)) then
              some ((), m4)
            else
            fm_bn (f_X0_takeNewWay H v1 m4) fun _ m5 =>
            fm_bd (fm_si m5 (H.2.1 v0 2) 5 (m5.1 (H.2.1 v0 2) 5 + (1 : Int32))) fun m6 =>
            some ((), m6)
          else none
        else none
      else none
    else none
  else none
set_option maxRecDepth 10000 in
theorem q_X7_clearOne {G : pm_G} {H : fm_H} {d : Nat} {z : fm_Z H} {v0 : Nat} {v1 : Nat} {m : fm_M} (hE : fm_E G H) (h0 : fm_is H v0 7) (h1 : fm_is H v1 0) : fm_cal G H (d + 3) yX7_clearOne [.ref v0, .ref v1] z m fm_rV (f_X7_clearOne H v0 v1 m) := fm_mth (d := d + 2) mt_X7_clearOne rfl rfl rfl (fun K => by
  show fm_o fm_rV (f_X7_clearOne H v0 v1 m) K → fm_V G H (d + 2) RX7 cX7_clearOne none z K 0 [some (.ref v0), some (.ref v1), none] [] m
  have T : fm_T RX7 cX7_clearOne tc_X7_clearOne fr_X7 mr_X7 cr_X7 lr_X7 := ⟨tok_X7, dc_X7_clearOne⟩
  unfold f_X7_clearOne
  refine fs_r T 1 1 [some (.ref v0), some (.ref v1), none] [.ref v1] rfl ?_
  refine fs_gp T 4 0 13 v1 10 rfl rfl rfl rfl h1 ?_
  intro e1
  refine fs_gi T 7 10 0 (m.2.1 v1 13) rfl rfl rfl rfl e1 ?_
  refine fs_r T 1 8 [some (.ref v0), some (.ref v1), none] [.ref v1, .int (m.1 (m.2.1 v1 13) 0)] rfl ?_
  refine fs_gp T 11 0 13 v1 10 rfl rfl rfl rfl h1 ?_
  intro e2
  refine fs_vI T 14 rfl rfl rfl rfl rfl rfl e2 (q_X10_heldSlots (d := d + 1) hE e2) ?_
  intro x1 m1
  refine fs_r T 3 17 [some (.ref v0), some (.ref v1), some (.int (m.1 (m.2.1 v1 13) 0 - x1))] [.ref v0] rfl ?_
  refine fs_gs T 20 7 1 v0 rfl rfl rfl rfl h0 ?_
  refine fs_r T 1 21 [some (.ref v0), some (.ref v1), some (.int (m.1 (m.2.1 v1 13) 0 - x1))] [.ref v1, .ref (H.2.1 v0 1)] rfl ?_
  refine fs_gp T 24 0 13 v1 10 rfl rfl rfl rfl h1 ?_
  intro e3
  refine fs_r T 1 25 [some (.ref v0), some (.ref v1), some (.int (m.1 (m.2.1 v1 13) 0 - x1))] [.int (m.1 (m.2.1 v1 13) 0 - x1), .ref (m1.2.1 v1 13), .ref (H.2.1 v0 1)] rfl ?_
  refine fs_vI T 28 rfl rfl rfl rfl rfl rfl e3 (q_X10_slotAt (d := d + 1) hE e3) ?_
  intro x2 m2
  refine fs_vV T 31 rfl rfl rfl rfl rfl rfl (hE.1 _ 7 1 h0) (q_X2_giveUp (d := d) hE (hE.1 _ 7 1 h0)) ?_
  intro x3 m3
  refine fs_r T 1 32 [some (.ref v0), some (.ref v1), some (.int (m.1 (m.2.1 v1 13) 0 - x1))] [.ref v1] rfl ?_
  refine fs_gp T 35 0 13 v1 10 rfl rfl rfl rfl h1 ?_
  intro e4
  refine fs_r T 2 37 [some (.ref v0), some (.ref v1), some (.int (m.1 (m.2.1 v1 13) 0 - x1))] [.int (-1 : Int32), .int (m.1 (m.2.1 v1 13) 0 - x1), .ref (m3.2.1 v1 13)] rfl ?_
  refine fs_vV T 40 rfl rfl rfl rfl rfl rfl e4 (q_X10_putSlot (d := d + 1) hE e4) ?_
  intro x4 m4
  refine fs_r T 2 42 [some (.ref v0), some (.ref v1), some (.int (m.1 (m.2.1 v1 13) 0 - x1))] [.ref v1, .int (m.1 (m.2.1 v1 13) 0 - x1)] rfl ?_
  refine fs_gp T 45 0 13 v1 10 rfl rfl rfl rfl h1 ?_
  intro e5
  refine fs_gi T 48 10 0 (m4.2.1 v1 13) rfl rfl rfl rfl e5 ?_
  refine fs_r T 2 50 [some (.ref v0), some (.ref v1), some (.int (m.1 (m.2.1 v1 13) 0 - x1))] [.int (m4.1 (m4.2.1 v1 13) 0 - (1 : Int32)), .int (m.1 (m.2.1 v1 13) 0 - x1)] rfl ?_
  refine fs_ic_lt T 70 53 rfl rfl rfl (fun _ => ?_) (fun _ => ?_)
  · exact fs_retv T rfl rfl rfl
  · refine fs_r T 1 54 [some (.ref v0), some (.ref v1), some (.int (m.1 (m.2.1 v1 13) 0 - x1))] [.ref v1] rfl ?_
    refine fs_vV T 57 rfl rfl rfl rfl rfl rfl h1 (q_X0_takeNewWay (d := d) hE h1) ?_
    intro x5 m5
    refine fs_r T 1 58 [some (.ref v0), some (.ref v1), some (.int (m.1 (m.2.1 v1 13) 0 - x1))] [.ref v0] rfl ?_
    refine fs_gs T 61 7 2 v0 rfl rfl rfl rfl h0 ?_
    refine fs_r T 1 62 [some (.ref v0), some (.ref v1), some (.int (m.1 (m.2.1 v1 13) 0 - x1))] [.ref (H.2.1 v0 2), .ref (H.2.1 v0 2)] rfl ?_
    refine fs_gi T 65 9 5 (H.2.1 v0 2) rfl rfl rfl rfl (hE.1 _ 7 2 h0) ?_
    refine fs_r T 2 67 [some (.ref v0), some (.ref v1), some (.int (m.1 (m.2.1 v1 13) 0 - x1))] [.int (m5.1 (H.2.1 v0 2) 5 + (1 : Int32)), .ref (H.2.1 v0 2)] rfl ?_
    refine fs_pi T 70 9 5 (H.2.1 v0 2) rfl rfl rfl rfl (hE.1 _ 7 2 h0) ?_
    intro m6
    exact fs_retv T rfl rfl rfl)
def f_X7_moveCircuit (H : fm_H) (v0 : Nat) (v1 : Nat) (m : fm_M) : Option (Unit × fm_M) :=
  fm_sw (m.1 v1 2) 1 [  fm_bn (f_X7_build H v0 v1 m) fun _ m1 =>
    some ((), m1),
    fm_bd (fm_si m v1 9 (m.1 v1 9 - (1 : Int32))) fun m2 =>
    if 0 < m2.1 v1 9 then
      some ((), m2)
    else
    fm_bd (fm_si m2 v1 2 (3 : Int32)) fun m3 =>
    some ((), m3),
    fm_bn (f_X7_clearOne H v0 v1 m) fun _ m4 =>
    some ((), m4)]
    (some ((), m))
set_option maxRecDepth 10000 in
theorem q_X7_moveCircuit {G : pm_G} {H : fm_H} {d : Nat} {z : fm_Z H} {v0 : Nat} {v1 : Nat} {m : fm_M} (hE : fm_E G H) (h0 : fm_is H v0 7) (h1 : fm_is H v1 0) : fm_cal G H (d + 5) yX7_moveCircuit [.ref v0, .ref v1] z m fm_rV (f_X7_moveCircuit H v0 v1 m) := fm_mth (d := d + 4) mt_X7_moveCircuit rfl rfl rfl (fun K => by
  show fm_o fm_rV (f_X7_moveCircuit H v0 v1 m) K → fm_V G H (d + 4) RX7 cX7_moveCircuit none z K 0 [some (.ref v0), some (.ref v1)] [] m
  have T : fm_T RX7 cX7_moveCircuit tc_X7_moveCircuit fr_X7 mr_X7 cr_X7 lr_X7 := ⟨tok_X7, dc_X7_moveCircuit⟩
  unfold f_X7_moveCircuit
  refine fs_r T 1 1 [some (.ref v0), some (.ref v1)] [.ref v1] rfl ?_
  refine fs_gi T 4 0 2 v1 rfl rfl rfl rfl h1 ?_
  refine fs_tsw T (dflt := 69) (lo := 1) (hi := 3) (offs := #[28, 36, 61]) (t := 73) rfl rfl rfl rfl ⟨⟨32, rfl, ?_⟩, ⟨40, rfl, ?_⟩, ⟨65, rfl, ?_⟩, trivial⟩ ?_
  · refine fs_r T 2 34 [some (.ref v0), some (.ref v1)] [.ref v1, .ref v0] rfl ?_
    refine fs_vV T 37 rfl rfl rfl rfl rfl rfl h0 (q_X7_build (d := d) hE h0 h1) ?_
    intro x1 m1
    refine fs_r T 1 73 [some (.ref v0), some (.ref v1)] [] rfl ?_
    exact fs_retv T rfl rfl rfl
  · refine fs_r T 2 42 [some (.ref v0), some (.ref v1)] [.ref v1, .ref v1] rfl ?_
    refine fs_gi T 45 0 9 v1 rfl rfl rfl rfl h1 ?_
    refine fs_r T 2 47 [some (.ref v0), some (.ref v1)] [.int (m.1 v1 9 - (1 : Int32)), .ref v1] rfl ?_
    refine fs_pi T 50 0 9 v1 rfl rfl rfl rfl h1 ?_
    intro m2
    refine fs_r T 1 51 [some (.ref v0), some (.ref v1)] [.ref v1] rfl ?_
    refine fs_gi T 54 0 9 v1 rfl rfl rfl rfl h1 ?_
    refine fs_if_gt T 73 57 rfl rfl rfl (fun _ => ?_) (fun _ => ?_)
    · exact fs_retv T rfl rfl rfl
    · refine fs_r T 2 59 [some (.ref v0), some (.ref v1)] [.int (3 : Int32), .ref v1] rfl ?_
      refine fs_pi T 62 0 2 v1 rfl rfl rfl rfl h1 ?_
      intro m3
      refine fs_r T 1 73 [some (.ref v0), some (.ref v1)] [] rfl ?_
      exact fs_retv T rfl rfl rfl
  · refine fs_r T 2 67 [some (.ref v0), some (.ref v1)] [.ref v1, .ref v0] rfl ?_
    refine fs_vV T 70 rfl rfl rfl rfl rfl rfl h0 (q_X7_clearOne (d := d + 1) hE h0 h1) ?_
    intro x2 m4
    refine fs_r T 1 73 [some (.ref v0), some (.ref v1)] [] rfl ?_
    exact fs_retv T rfl rfl rfl
  · exact fs_retv T rfl rfl rfl)
def f_X7_deliver (H : fm_H) (v0 : Nat) (v1 : Nat) (m : fm_M) : Option (Unit × fm_M) :=
  fm_bd (fm_si m (H.2.1 v0 2) 1 (m.1 (H.2.1 v0 2) 1 + (1 : Int32))) fun m1 =>
  fm_bn (f_X7_isCircuit H v0 (m1.1 v1 0) m1) fun x1 m2 =>
  if x1 = 0 then
    some ((), m2)
  else
  if px_inb (m2.1 v1 0) (fm_sz H (H.2.1 v0 3)) = true then
    (if fm_isb H (m2.2.1 (H.2.1 v0 3) (m2.1 v1 0).toNatClampNeg) 0 = true then
      fm_bd (fm_si m2 (m2.2.1 (H.2.1 v0 3) (m2.1 v1 0).toNatClampNeg) 5 (m2.1 (m2.2.1 (H.2.1 v0 3) (m2.1 v1 0).toNatClampNeg) 5 + (1 : Int32))) fun m3 =>
      fm_bd (fm_si m3 (m2.2.1 (H.2.1 v0 3) (m2.1 v1 0).toNatClampNeg) 11 (m3.1 (m2.2.1 (H.2.1 v0 3) (m2.1 v1 0).toNatClampNeg) 11 + ((m3.1 v0 9 + (1 : Int32)) - m3.1 v1 2))) fun m4 =>
      if m4.1 (m2.2.1 (H.2.1 v0 3) (m2.1 v1 0).toNatClampNeg) 12 ≤ m4.1 v1 1 then
        fm_bd (fm_si m4 (m2.2.1 (H.2.1 v0 3) (m2.1 v1 0).toNatClampNeg) 12 (m4.1 v1 1)) fun m5 =>
        some ((), m5)
      else
      fm_bd (fm_si m4 (m2.2.1 (H.2.1 v0 3) (m2.1 v1 0).toNatClampNeg) 7 (m4.1 (m2.2.1 (H.2.1 v0 3) (m2.1 v1 0).toNatClampNeg) 7 + (1 : Int32))) fun m6 =>
      fm_bd (fm_si m6 (H.2.1 v0 2) 4 (m6.1 (H.2.1 v0 2) 4 + (1 : Int32))) fun m7 =>
      some ((), m7)
    else none)
  else none
set_option maxRecDepth 10000 in
theorem q_X7_deliver {G : pm_G} {H : fm_H} {d : Nat} {z : fm_Z H} {v0 : Nat} {v1 : Nat} {m : fm_M} (hE : fm_E G H) (h0 : fm_is H v0 7) (h1 : fm_is H v1 5) : fm_cal G H (d + 2) yX7_deliver [.ref v0, .ref v1] z m fm_rV (f_X7_deliver H v0 v1 m) := fm_mth (d := d + 1) mt_X7_deliver rfl rfl rfl (fun K => by
  show fm_o fm_rV (f_X7_deliver H v0 v1 m) K → fm_V G H (d + 1) RX7 cX7_deliver none z K 0 [some (.ref v0), some (.ref v1), none] [] m
  have T : fm_T RX7 cX7_deliver tc_X7_deliver fr_X7 mr_X7 cr_X7 lr_X7 := ⟨tok_X7, dc_X7_deliver⟩
  unfold f_X7_deliver
  refine fs_r T 1 1 [some (.ref v0), some (.ref v1), none] [.ref v0] rfl ?_
  refine fs_gs T 4 7 2 v0 rfl rfl rfl rfl h0 ?_
  refine fs_r T 1 5 [some (.ref v0), some (.ref v1), none] [.ref (H.2.1 v0 2), .ref (H.2.1 v0 2)] rfl ?_
  refine fs_gi T 8 9 1 (H.2.1 v0 2) rfl rfl rfl rfl (hE.1 _ 7 2 h0) ?_
  refine fs_r T 2 10 [some (.ref v0), some (.ref v1), none] [.int (m.1 (H.2.1 v0 2) 1 + (1 : Int32)), .ref (H.2.1 v0 2)] rfl ?_
  refine fs_pi T 13 9 1 (H.2.1 v0 2) rfl rfl rfl rfl (hE.1 _ 7 2 h0) ?_
  intro m1
  refine fs_r T 2 15 [some (.ref v0), some (.ref v1), none] [.ref v1, .ref v0] rfl ?_
  refine fs_gi T 18 5 0 v1 rfl rfl rfl rfl h1 ?_
  refine fs_vI T 21 rfl rfl rfl rfl rfl rfl h0 (q_X7_isCircuit (d := d) hE h0) ?_
  intro x1 m2
  refine fs_if_ne T 25 24 rfl rfl rfl (fun _ => ?_) (fun _ => ?_)
  · exact fs_retv T rfl rfl rfl
  · refine fs_r T 1 26 [some (.ref v0), some (.ref v1), none] [.ref v0] rfl ?_
    refine fs_gs T 29 7 3 v0 rfl rfl rfl rfl h0 ?_
    refine fs_r T 1 30 [some (.ref v0), some (.ref v1), none] [.ref v1, .ref (H.2.1 v0 3)] rfl ?_
    refine fs_gi T 33 5 0 v1 rfl rfl rfl rfl h1 ?_
    refine fs_aa T 34 (H.2.1 v0 3) 0 rfl rfl (hE.1 _ 7 3 h0) ?_
    intro e1
    refine fs_r T 3 37 [some (.ref v0), some (.ref v1), some (.ref (m2.2.1 (H.2.1 v0 3) (m2.1 v1 0).toNatClampNeg))] [.ref (m2.2.1 (H.2.1 v0 3) (m2.1 v1 0).toNatClampNeg), .ref (m2.2.1 (H.2.1 v0 3) (m2.1 v1 0).toNatClampNeg)] rfl ?_
    refine fs_gi T 40 0 5 (m2.2.1 (H.2.1 v0 3) (m2.1 v1 0).toNatClampNeg) rfl rfl rfl rfl e1 ?_
    refine fs_r T 2 42 [some (.ref v0), some (.ref v1), some (.ref (m2.2.1 (H.2.1 v0 3) (m2.1 v1 0).toNatClampNeg))] [.int (m2.1 (m2.2.1 (H.2.1 v0 3) (m2.1 v1 0).toNatClampNeg) 5 + (1 : Int32)), .ref (m2.2.1 (H.2.1 v0 3) (m2.1 v1 0).toNatClampNeg)] rfl ?_
    refine fs_pi T 45 0 5 (m2.2.1 (H.2.1 v0 3) (m2.1 v1 0).toNatClampNeg) rfl rfl rfl rfl e1 ?_
    intro m3
    refine fs_r T 2 47 [some (.ref v0), some (.ref v1), some (.ref (m2.2.1 (H.2.1 v0 3) (m2.1 v1 0).toNatClampNeg))] [.ref (m2.2.1 (H.2.1 v0 3) (m2.1 v1 0).toNatClampNeg), .ref (m2.2.1 (H.2.1 v0 3) (m2.1 v1 0).toNatClampNeg)] rfl ?_
    refine fs_gi T 50 0 11 (m2.2.1 (H.2.1 v0 3) (m2.1 v1 0).toNatClampNeg) rfl rfl rfl rfl e1 ?_
    refine fs_r T 1 51 [some (.ref v0), some (.ref v1), some (.ref (m2.2.1 (H.2.1 v0 3) (m2.1 v1 0).toNatClampNeg))] [.ref v0, .int (m3.1 (m2.2.1 (H.2.1 v0 3) (m2.1 v1 0).toNatClampNeg) 11), .ref (m2.2.1 (H.2.1 v0 3) (m2.1 v1 0).toNatClampNeg)] rfl ?_
    refine fs_gi T 54 7 9 v0 rfl rfl rfl rfl h0 ?_
    refine fs_r T 3 57 [some (.ref v0), some (.ref v1), some (.ref (m2.2.1 (H.2.1 v0 3) (m2.1 v1 0).toNatClampNeg))] [.ref v1, .int (m3.1 v0 9 + (1 : Int32)), .int (m3.1 (m2.2.1 (H.2.1 v0 3) (m2.1 v1 0).toNatClampNeg) 11), .ref (m2.2.1 (H.2.1 v0 3) (m2.1 v1 0).toNatClampNeg)] rfl ?_
    refine fs_gi T 60 5 2 v1 rfl rfl rfl rfl h1 ?_
    refine fs_r T 2 62 [some (.ref v0), some (.ref v1), some (.ref (m2.2.1 (H.2.1 v0 3) (m2.1 v1 0).toNatClampNeg))] [.int (m3.1 (m2.2.1 (H.2.1 v0 3) (m2.1 v1 0).toNatClampNeg) 11 + ((m3.1 v0 9 + (1 : Int32)) - m3.1 v1 2)), .ref (m2.2.1 (H.2.1 v0 3) (m2.1 v1 0).toNatClampNeg)] rfl ?_
    refine fs_pi T 65 0 11 (m2.2.1 (H.2.1 v0 3) (m2.1 v1 0).toNatClampNeg) rfl rfl rfl rfl e1 ?_
    intro m4
    refine fs_r T 1 66 [some (.ref v0), some (.ref v1), some (.ref (m2.2.1 (H.2.1 v0 3) (m2.1 v1 0).toNatClampNeg))] [.ref v1] rfl ?_
    refine fs_gi T 69 5 1 v1 rfl rfl rfl rfl h1 ?_
    refine fs_r T 1 70 [some (.ref v0), some (.ref v1), some (.ref (m2.2.1 (H.2.1 v0 3) (m2.1 v1 0).toNatClampNeg))] [.ref (m2.2.1 (H.2.1 v0 3) (m2.1 v1 0).toNatClampNeg), .int (m4.1 v1 1)] rfl ?_
    refine fs_gi T 73 0 12 (m2.2.1 (H.2.1 v0 3) (m2.1 v1 0).toNatClampNeg) rfl rfl rfl rfl e1 ?_
    refine fs_ic_ge T 102 76 rfl rfl rfl (fun _ => ?_) (fun _ => ?_)
    · refine fs_r T 2 104 [some (.ref v0), some (.ref v1), some (.ref (m2.2.1 (H.2.1 v0 3) (m2.1 v1 0).toNatClampNeg))] [.ref v1, .ref (m2.2.1 (H.2.1 v0 3) (m2.1 v1 0).toNatClampNeg)] rfl ?_
      refine fs_gi T 107 5 1 v1 rfl rfl rfl rfl h1 ?_
      refine fs_pi T 110 0 12 (m2.2.1 (H.2.1 v0 3) (m2.1 v1 0).toNatClampNeg) rfl rfl rfl rfl e1 ?_
      intro m5
      exact fs_retv T rfl rfl rfl
    · refine fs_r T 2 78 [some (.ref v0), some (.ref v1), some (.ref (m2.2.1 (H.2.1 v0 3) (m2.1 v1 0).toNatClampNeg))] [.ref (m2.2.1 (H.2.1 v0 3) (m2.1 v1 0).toNatClampNeg), .ref (m2.2.1 (H.2.1 v0 3) (m2.1 v1 0).toNatClampNeg)] rfl ?_
      refine fs_gi T 81 0 7 (m2.2.1 (H.2.1 v0 3) (m2.1 v1 0).toNatClampNeg) rfl rfl rfl rfl e1 ?_
      refine fs_r T 2 83 [some (.ref v0), some (.ref v1), some (.ref (m2.2.1 (H.2.1 v0 3) (m2.1 v1 0).toNatClampNeg))] [.int (m4.1 (m2.2.1 (H.2.1 v0 3) (m2.1 v1 0).toNatClampNeg) 7 + (1 : Int32)), .ref (m2.2.1 (H.2.1 v0 3) (m2.1 v1 0).toNatClampNeg)] rfl ?_
      refine fs_pi T 86 0 7 (m2.2.1 (H.2.1 v0 3) (m2.1 v1 0).toNatClampNeg) rfl rfl rfl rfl e1 ?_
      intro m6
      refine fs_r T 1 87 [some (.ref v0), some (.ref v1), some (.ref (m2.2.1 (H.2.1 v0 3) (m2.1 v1 0).toNatClampNeg))] [.ref v0] rfl ?_
      refine fs_gs T 90 7 2 v0 rfl rfl rfl rfl h0 ?_
      refine fs_r T 1 91 [some (.ref v0), some (.ref v1), some (.ref (m2.2.1 (H.2.1 v0 3) (m2.1 v1 0).toNatClampNeg))] [.ref (H.2.1 v0 2), .ref (H.2.1 v0 2)] rfl ?_
      refine fs_gi T 94 9 4 (H.2.1 v0 2) rfl rfl rfl rfl (hE.1 _ 7 2 h0) ?_
      refine fs_r T 2 96 [some (.ref v0), some (.ref v1), some (.ref (m2.2.1 (H.2.1 v0 3) (m2.1 v1 0).toNatClampNeg))] [.int (m6.1 (H.2.1 v0 2) 4 + (1 : Int32)), .ref (H.2.1 v0 2)] rfl ?_
      refine fs_pi T 99 9 4 (H.2.1 v0 2) rfl rfl rfl rfl (hE.1 _ 7 2 h0) ?_
      intro m7
      refine fs_r T 1 110 [some (.ref v0), some (.ref v1), some (.ref (m2.2.1 (H.2.1 v0 3) (m2.1 v1 0).toNatClampNeg))] [] rfl ?_
      exact fs_retv T rfl rfl rfl)
def f_X7_isOnUpLink (H : fm_H) (v0 : Nat) (v1 : Nat) (m : fm_M) : Option (Int32 × fm_M) :=
  fm_bn (f_X4_isUp H (H.2.1 v0 0) (m.1 v1 3) m) fun x1 m1 =>
  if x1 = 0 then
    fm_bn (f_X7_lose H v0 v1 m1) fun _ m2 =>
    some ((0 : Int32), m2)
  else
  some ((1 : Int32), m1)
set_option maxRecDepth 10000 in
theorem q_X7_isOnUpLink {G : pm_G} {H : fm_H} {d : Nat} {z : fm_Z H} {v0 : Nat} {v1 : Nat} {m : fm_M} (hE : fm_E G H) (h0 : fm_is H v0 7) (h1 : fm_is H v1 5) : fm_cal G H (d + 3) yX7_isOnUpLink [.ref v0, .ref v1] z m fm_rI (f_X7_isOnUpLink H v0 v1 m) := fm_mth (d := d + 2) mt_X7_isOnUpLink rfl rfl rfl (fun K => by
  show fm_o fm_rI (f_X7_isOnUpLink H v0 v1 m) K → fm_V G H (d + 2) RX7 cX7_isOnUpLink (some (.boolean)) z K 0 [some (.ref v0), some (.ref v1)] [] m
  have T : fm_T RX7 cX7_isOnUpLink tc_X7_isOnUpLink fr_X7 mr_X7 cr_X7 lr_X7 := ⟨tok_X7, dc_X7_isOnUpLink⟩
  unfold f_X7_isOnUpLink
  refine fs_r T 1 1 [some (.ref v0), some (.ref v1)] [.ref v0] rfl ?_
  refine fs_gs T 4 7 0 v0 rfl rfl rfl rfl h0 ?_
  refine fs_r T 1 5 [some (.ref v0), some (.ref v1)] [.ref v1, .ref (H.2.1 v0 0)] rfl ?_
  refine fs_gi T 8 5 3 v1 rfl rfl rfl rfl h1 ?_
  refine fs_vI T 11 rfl rfl rfl rfl rfl rfl (hE.1 _ 7 0 h0) (q_X4_isUp (d := d) hE (hE.1 _ 7 0 h0)) ?_
  intro x1 m1
  refine fs_if_eq T 16 14 rfl rfl rfl (fun _ => ?_) (fun _ => ?_)
  · refine fs_r T 2 18 [some (.ref v0), some (.ref v1)] [.ref v1, .ref v0] rfl ?_
    refine fs_vV T 21 rfl rfl rfl rfl rfl rfl h0 (q_X7_lose (d := d) hE h0 h1) ?_
    intro x2 m2
    refine fs_r T 1 22 [some (.ref v0), some (.ref v1)] [.int (0 : Int32)] rfl ?_
    exact fs_retc T rfl rfl rfl rfl
  · refine fs_r T 1 15 [some (.ref v0), some (.ref v1)] [.int (1 : Int32)] rfl ?_
    exact fs_retc T rfl rfl rfl rfl)
def f_X7_goesOn (H : fm_H) (v0 : Nat) (v1 : Nat) (m : fm_M) : Option (Int32 × fm_M) :=
  fm_bn (f_X2_circuitOf H (H.2.1 v0 1) (m.1 v1 5) m) fun x1 m1 =>
  fm_bn (f_X7_isCircuit H v0 x1 m1) fun x2 m2 =>
  if x2 = 0 then
    fm_bn (f_X7_lose H v0 v1 m2) fun _ m3 =>
    some ((0 : Int32), m3)
  else
  fm_bn (f_X2_hasMadeEntry H (H.2.1 v0 1) (m2.1 v1 5) (m2.1 v1 4) m2) fun x4 m4 =>
  if x4 = 0 then
    fm_bn (f_X7_lose H v0 v1 m4) fun _ m10 =>
    some ((0 : Int32), m10)
  else
  if px_inb x1 (fm_sz H (H.2.1 v0 3)) = true then
    (if fm_isb H (m4.2.1 (H.2.1 v0 3) x1.toNatClampNeg) 0 = true then
      fm_bn (f_X0_wayWithSlot H (m4.2.1 (H.2.1 v0 3) x1.toNatClampNeg) (m4.1 v1 5) m4) fun x5 m5 => if fm_isb H x5 10 = true then
        fm_bn (f_X10_indexOfSlot H x5 (m5.1 v1 5) m5) fun x6 m6 =>
        if (x6 + (1 : Int32)) < m6.1 x5 0 then
          fm_bn (f_X5_putOnLinkTo H v1 x5 (x6 + (1 : Int32)) (H.2.1 v0 0) m6) fun _ m7 =>
          fm_bn (f_X7_isOnUpLink H v0 v1 m7) fun x8 m8 =>
          if fm_b01 x8 = true then some (x8, m8) else none
        else
        fm_bn (f_X7_deliver H v0 v1 m6) fun _ m9 =>
        some ((0 : Int32), m9)
      else none
    else none)
  else none
set_option maxRecDepth 10000 in
theorem q_X7_goesOn {G : pm_G} {H : fm_H} {d : Nat} {z : fm_Z H} {v0 : Nat} {v1 : Nat} {m : fm_M} (hE : fm_E G H) (h0 : fm_is H v0 7) (h1 : fm_is H v1 5) : fm_cal G H (d + 4) yX7_goesOn [.ref v0, .ref v1] z m fm_rI (f_X7_goesOn H v0 v1 m) := fm_mth (d := d + 3) mt_X7_goesOn rfl rfl rfl (fun K => by
  show fm_o fm_rI (f_X7_goesOn H v0 v1 m) K → fm_V G H (d + 3) RX7 cX7_goesOn (some (.boolean)) z K 0 [some (.ref v0), some (.ref v1), none, none, none] [] m
  have T : fm_T RX7 cX7_goesOn tc_X7_goesOn fr_X7 mr_X7 cr_X7 lr_X7 := ⟨tok_X7, dc_X7_goesOn⟩
  unfold f_X7_goesOn
  refine fs_r T 1 1 [some (.ref v0), some (.ref v1), none, none, none] [.ref v0] rfl ?_
  refine fs_gs T 4 7 1 v0 rfl rfl rfl rfl h0 ?_
  refine fs_r T 1 5 [some (.ref v0), some (.ref v1), none, none, none] [.ref v1, .ref (H.2.1 v0 1)] rfl ?_
  refine fs_gi T 8 5 5 v1 rfl rfl rfl rfl h1 ?_
  refine fs_vI T 11 rfl rfl rfl rfl rfl rfl (hE.1 _ 7 1 h0) (q_X2_circuitOf (d := d + 1) hE (hE.1 _ 7 1 h0)) ?_
  intro x1 m1
  refine fs_r T 3 14 [some (.ref v0), some (.ref v1), some (.int x1), none, none] [.int x1, .ref v0] rfl ?_
  refine fs_vI T 17 rfl rfl rfl rfl rfl rfl h0 (q_X7_isCircuit (d := d + 2) hE h0) ?_
  intro x2 m2
  refine fs_if_eq T 38 20 rfl rfl rfl (fun _ => ?_) (fun _ => ?_)
  · refine fs_r T 2 40 [some (.ref v0), some (.ref v1), some (.int x1), none, none] [.ref v1, .ref v0] rfl ?_
    refine fs_vV T 43 rfl rfl rfl rfl rfl rfl h0 (q_X7_lose (d := d + 1) hE h0 h1) ?_
    intro x3 m3
    refine fs_r T 1 44 [some (.ref v0), some (.ref v1), some (.int x1), none, none] [.int (0 : Int32)] rfl ?_
    exact fs_retc T rfl rfl rfl rfl
  · refine fs_r T 1 21 [some (.ref v0), some (.ref v1), some (.int x1), none, none] [.ref v0] rfl ?_
    refine fs_gs T 24 7 1 v0 rfl rfl rfl rfl h0 ?_
    refine fs_r T 1 25 [some (.ref v0), some (.ref v1), some (.int x1), none, none] [.ref v1, .ref (H.2.1 v0 1)] rfl ?_
    refine fs_gi T 28 5 5 v1 rfl rfl rfl rfl h1 ?_
    refine fs_r T 1 29 [some (.ref v0), some (.ref v1), some (.int x1), none, none] [.ref v1, .int (m2.1 v1 5), .ref (H.2.1 v0 1)] rfl ?_
    refine fs_gi T 32 5 4 v1 rfl rfl rfl rfl h1 ?_
    refine fs_vI T 35 rfl rfl rfl rfl rfl rfl (hE.1 _ 7 1 h0) (q_X2_hasMadeEntry (d := d + 1) hE (hE.1 _ 7 1 h0)) ?_
    intro x4 m4
    refine fs_if_ne T 45 38 rfl rfl rfl (fun _ => ?_) (fun _ => ?_)
    · refine fs_r T 2 40 [some (.ref v0), some (.ref v1), some (.int x1), none, none] [.ref v1, .ref v0] rfl ?_
      refine fs_vV T 43 rfl rfl rfl rfl rfl rfl h0 (q_X7_lose (d := d + 1) hE h0 h1) ?_
      intro x10 m10
      refine fs_r T 1 44 [some (.ref v0), some (.ref v1), some (.int x1), none, none] [.int (0 : Int32)] rfl ?_
      exact fs_retc T rfl rfl rfl rfl
    · refine fs_r T 1 46 [some (.ref v0), some (.ref v1), some (.int x1), none, none] [.ref v0] rfl ?_
      refine fs_gs T 49 7 3 v0 rfl rfl rfl rfl h0 ?_
      refine fs_r T 1 50 [some (.ref v0), some (.ref v1), some (.int x1), none, none] [.int x1, .ref (H.2.1 v0 3)] rfl ?_
      refine fs_aa T 51 (H.2.1 v0 3) 0 rfl rfl (hE.1 _ 7 3 h0) ?_
      intro e1
      refine fs_r T 1 52 [some (.ref v0), some (.ref v1), some (.int x1), none, none] [.ref v1, .ref (m4.2.1 (H.2.1 v0 3) x1.toNatClampNeg)] rfl ?_
      refine fs_gi T 55 5 5 v1 rfl rfl rfl rfl h1 ?_
      refine fs_vA T 58 rfl rfl rfl rfl rfl rfl e1 (q_X0_wayWithSlot (d := d + 1) hE e1) 10 ?_
      intro x5 m5 e2
      refine fs_r T 3 61 [some (.ref v0), some (.ref v1), some (.int x1), some (.ref x5), none] [.ref v1, .ref x5] rfl ?_
      refine fs_gi T 64 5 5 v1 rfl rfl rfl rfl h1 ?_
      refine fs_vI T 67 rfl rfl rfl rfl rfl rfl e2 (q_X10_indexOfSlot (d := d + 2) hE e2) ?_
      intro x6 m6
      refine fs_r T 5 74 [some (.ref v0), some (.ref v1), some (.int x1), some (.ref x5), some (.int (x6 + (1 : Int32)))] [.ref x5, .int (x6 + (1 : Int32))] rfl ?_
      refine fs_gi T 77 10 0 x5 rfl rfl rfl rfl e2 ?_
      refine fs_ic_lt T 87 80 rfl rfl rfl (fun _ => ?_) (fun _ => ?_)
      · refine fs_r T 4 92 [some (.ref v0), some (.ref v1), some (.int x1), some (.ref x5), some (.int (x6 + (1 : Int32)))] [.ref v0, .int (x6 + (1 : Int32)), .ref x5, .ref v1] rfl ?_
        refine fs_gs T 95 7 0 v0 rfl rfl rfl rfl h0 ?_
        refine fs_vV T 98 rfl rfl rfl rfl rfl rfl h1 (q_X5_putOnLinkTo (d := d) hE h1 e2 (hE.1 _ 7 0 h0)) ?_
        intro x7 m7
        refine fs_r T 2 100 [some (.ref v0), some (.ref v1), some (.int x1), some (.ref x5), some (.int (x6 + (1 : Int32)))] [.ref v1, .ref v0] rfl ?_
        refine fs_vI T 103 rfl rfl rfl rfl rfl rfl h0 (q_X7_isOnUpLink (d := d) hE h0 h1) ?_
        intro x8 m8
        exact fs_retz T rfl rfl rfl
      · refine fs_r T 2 82 [some (.ref v0), some (.ref v1), some (.int x1), some (.ref x5), some (.int (x6 + (1 : Int32)))] [.ref v1, .ref v0] rfl ?_
        refine fs_vV T 85 rfl rfl rfl rfl rfl rfl h0 (q_X7_deliver (d := d + 1) hE h0 h1) ?_
        intro x9 m9
        refine fs_r T 1 86 [some (.ref v0), some (.ref v1), some (.int x1), some (.ref x5), some (.int (x6 + (1 : Int32)))] [.int (0 : Int32)] rfl ?_
        exact fs_retc T rfl rfl rfl rfl)
def f_X7_movePackets_4 (H : fm_H) (v0 : Nat) : Nat → Int32 → Int32 → fm_M → Option (Unit × fm_M)
  | 0, _, _, _ => none
  | n + 1, v1, v2, m =>
    if m.1 v0 6 ≤ v2 then
      fm_bd (fm_si m v0 6 v1) fun m1 =>
      some ((), m1)
    else
    if px_inb v2 (fm_sz H (H.2.1 v0 4)) = true then
      (if fm_isb H (m.2.1 (H.2.1 v0 4) v2.toNatClampNeg) 5 = true then
        fm_bd (fm_si m (m.2.1 (H.2.1 v0 4) v2.toNatClampNeg) 6 (m.1 (m.2.1 (H.2.1 v0 4) v2.toNatClampNeg) 6 - (1 : Int32))) fun m2 =>
        if 0 < m2.1 (m.2.1 (H.2.1 v0 4) v2.toNatClampNeg) 6 then
          fm_bn (f_X7_keepPacket H v0 v2 v1 m2) fun _ m3 =>
          f_X7_movePackets_4 H v0 n (v1 + 1) (v2 + 1) m3
        else
        fm_bn (f_X7_goesOn H v0 (m.2.1 (H.2.1 v0 4) v2.toNatClampNeg) m2) fun x2 m4 =>
        if x2 = 0 then
          f_X7_movePackets_4 H v0 n v1 (v2 + 1) m4
        else
        fm_bn (f_X7_keepPacket H v0 v2 v1 m4) fun _ m5 =>
        f_X7_movePackets_4 H v0 n (v1 + 1) (v2 + 1) m5
      else none)
    else none
set_option maxRecDepth 10000 in
theorem w_X7_movePackets_4 {G : pm_G} {H : fm_H} {d : Nat} {z : fm_Z H} {K : pm_R → fm_M → Prop} (hE : fm_E G H) {v0 : Nat} (h0 : fm_is H v0 7) : ∀ (n : Nat) (v1 : Int32) (v2 : Int32) (m : fm_M), fm_o fm_rV (f_X7_movePackets_4 H v0 n v1 v2 m) K → fm_V G H (d + 4) RX7 cX7_movePackets none z K 4 [some (.ref v0), some (.int v1), some (.int v2), none] [] m := by
  have T : fm_T RX7 cX7_movePackets tc_X7_movePackets fr_X7 mr_X7 cr_X7 lr_X7 := ⟨tok_X7, dc_X7_movePackets⟩
  intro n
  induction n with
  | zero =>
    intro v1 v2 m 
    exact fs_none
  | succ n ih =>
    intro v1 v2 m 
    unfold f_X7_movePackets_4
    refine fs_r T 2 6 [some (.ref v0), some (.int v1), some (.int v2), none] [.ref v0, .int v2] rfl ?_
    refine fs_gi T 9 7 6 v0 rfl rfl rfl rfl h0 ?_
    refine fs_ic_ge T 59 12 rfl rfl rfl (fun _ => ?_) (fun _ => ?_)
    · refine fs_r T 2 61 [some (.ref v0), some (.int v1), some (.int v2), none] [.int v1, .ref v0] rfl ?_
      refine fs_pi T 64 7 6 v0 rfl rfl rfl rfl h0 ?_
      intro m1
      exact fs_retv T rfl rfl rfl
    · refine fs_r T 1 13 [some (.ref v0), some (.int v1), some (.int v2), none] [.ref v0] rfl ?_
      refine fs_gs T 16 7 4 v0 rfl rfl rfl rfl h0 ?_
      refine fs_r T 1 17 [some (.ref v0), some (.int v1), some (.int v2), none] [.int v2, .ref (H.2.1 v0 4)] rfl ?_
      refine fs_aa T 18 (H.2.1 v0 4) 5 rfl rfl (hE.1 _ 7 4 h0) ?_
      intro e1
      refine fs_r T 3 21 [some (.ref v0), some (.int v1), some (.int v2), some (.ref (m.2.1 (H.2.1 v0 4) v2.toNatClampNeg))] [.ref (m.2.1 (H.2.1 v0 4) v2.toNatClampNeg), .ref (m.2.1 (H.2.1 v0 4) v2.toNatClampNeg)] rfl ?_
      refine fs_gi T 24 5 6 (m.2.1 (H.2.1 v0 4) v2.toNatClampNeg) rfl rfl rfl rfl e1 ?_
      refine fs_r T 2 26 [some (.ref v0), some (.int v1), some (.int v2), some (.ref (m.2.1 (H.2.1 v0 4) v2.toNatClampNeg))] [.int (m.1 (m.2.1 (H.2.1 v0 4) v2.toNatClampNeg) 6 - (1 : Int32)), .ref (m.2.1 (H.2.1 v0 4) v2.toNatClampNeg)] rfl ?_
      refine fs_pi T 29 5 6 (m.2.1 (H.2.1 v0 4) v2.toNatClampNeg) rfl rfl rfl rfl e1 ?_
      intro m2
      refine fs_r T 1 30 [some (.ref v0), some (.int v1), some (.int v2), some (.ref (m.2.1 (H.2.1 v0 4) v2.toNatClampNeg))] [.ref (m.2.1 (H.2.1 v0 4) v2.toNatClampNeg)] rfl ?_
      refine fs_gi T 33 5 6 (m.2.1 (H.2.1 v0 4) v2.toNatClampNeg) rfl rfl rfl rfl e1 ?_
      refine fs_if_gt T 44 36 rfl rfl rfl (fun _ => ?_) (fun _ => ?_)
      · refine fs_r T 3 47 [some (.ref v0), some (.int v1), some (.int v2), some (.ref (m.2.1 (H.2.1 v0 4) v2.toNatClampNeg))] [.int v1, .int v2, .ref v0] rfl ?_
        refine fs_vV T 50 rfl rfl rfl rfl rfl rfl h0 (q_X7_keepPacket (d := d + 3) hE h0) ?_
        intro x1 m3
        refine fs_r T 3 4 [some (.ref v0), some (.int (v1 + 1)), some (.int (v2 + 1)), some (.ref (m.2.1 (H.2.1 v0 4) v2.toNatClampNeg))] [] rfl ?_
        refine fs_wk (ls' := [some (.ref v0), some (.int (v1 + 1)), some (.int (v2 + 1)), none]) ⟨rfl, rfl, rfl, trivial⟩ ?_
        exact ih _ _ _
      · refine fs_r T 2 38 [some (.ref v0), some (.int v1), some (.int v2), some (.ref (m.2.1 (H.2.1 v0 4) v2.toNatClampNeg))] [.ref (m.2.1 (H.2.1 v0 4) v2.toNatClampNeg), .ref v0] rfl ?_
        refine fs_vI T 41 rfl rfl rfl rfl rfl rfl h0 (q_X7_goesOn (d := d) hE h0 e1) ?_
        intro x2 m4
        refine fs_if_eq T 53 44 rfl rfl rfl (fun _ => ?_) (fun _ => ?_)
        · refine fs_r T 2 4 [some (.ref v0), some (.int v1), some (.int (v2 + 1)), some (.ref (m.2.1 (H.2.1 v0 4) v2.toNatClampNeg))] [] rfl ?_
          refine fs_wk (ls' := [some (.ref v0), some (.int v1), some (.int (v2 + 1)), none]) ⟨rfl, rfl, rfl, trivial⟩ ?_
          exact ih _ _ _
        · refine fs_r T 3 47 [some (.ref v0), some (.int v1), some (.int v2), some (.ref (m.2.1 (H.2.1 v0 4) v2.toNatClampNeg))] [.int v1, .int v2, .ref v0] rfl ?_
          refine fs_vV T 50 rfl rfl rfl rfl rfl rfl h0 (q_X7_keepPacket (d := d + 3) hE h0) ?_
          intro x3 m5
          refine fs_r T 3 4 [some (.ref v0), some (.int (v1 + 1)), some (.int (v2 + 1)), some (.ref (m.2.1 (H.2.1 v0 4) v2.toNatClampNeg))] [] rfl ?_
          refine fs_wk (ls' := [some (.ref v0), some (.int (v1 + 1)), some (.int (v2 + 1)), none]) ⟨rfl, rfl, rfl, trivial⟩ ?_
          exact ih _ _ _
def f_X7_movePackets (H : fm_H) (v0 : Nat) (m : fm_M) : Option (Unit × fm_M) :=
  f_X7_movePackets_4 H v0 fm_N (0 : Int32) (0 : Int32) m
set_option maxRecDepth 10000 in
theorem q_X7_movePackets {G : pm_G} {H : fm_H} {d : Nat} {z : fm_Z H} {v0 : Nat} {m : fm_M} (hE : fm_E G H) (h0 : fm_is H v0 7) : fm_cal G H (d + 5) yX7_movePackets [.ref v0] z m fm_rV (f_X7_movePackets H v0 m) := fm_mth (d := d + 4) mt_X7_movePackets rfl rfl rfl (fun K => by
  show fm_o fm_rV (f_X7_movePackets H v0 m) K → fm_V G H (d + 4) RX7 cX7_movePackets none z K 0 [some (.ref v0), none, none, none] [] m
  have T : fm_T RX7 cX7_movePackets tc_X7_movePackets fr_X7 mr_X7 cr_X7 lr_X7 := ⟨tok_X7, dc_X7_movePackets⟩
  unfold f_X7_movePackets
  refine fs_r T 4 4 [some (.ref v0), some (.int (0 : Int32)), some (.int (0 : Int32)), none] [] rfl ?_
  exact w_X7_movePackets_4 hE h0 _ _ _ _)
def f_X7_sendPacket (H : fm_H) (v0 : Nat) (v1 : Nat) (v2 : Int32) (m : fm_M) : Option (Unit × fm_M) :=
  if px_inb (m.1 v0 6) (fm_sz H (H.2.1 v0 4)) = true then
    (if fm_isb H (m.2.1 (H.2.1 v0 4) (m.1 v0 6).toNatClampNeg) 5 = true then
      fm_bd (fm_si m (m.2.1 (H.2.1 v0 4) (m.1 v0 6).toNatClampNeg) 0 v2) fun m1 =>
      fm_bd (fm_si m1 (m.2.1 (H.2.1 v0 4) (m.1 v0 6).toNatClampNeg) 1 (m1.1 v1 4)) fun m2 =>
      fm_bd (fm_si m2 (m.2.1 (H.2.1 v0 4) (m.1 v0 6).toNatClampNeg) 2 (m2.1 v0 9 + (1 : Int32))) fun m3 =>
      fm_bn (f_X0_activeWay H v1 m3) fun x1 m4 => if fm_isb H x1 10 = true then
        fm_bn (f_X5_putOnLinkTo H (m.2.1 (H.2.1 v0 4) (m.1 v0 6).toNatClampNeg) x1 (1 : Int32) (H.2.1 v0 0) m4) fun _ m5 =>
        fm_bd (fm_si m5 v1 3 (m5.1 v1 3 - (1 : Int32))) fun m6 =>
        fm_bd (fm_si m6 v1 4 (m6.1 v1 4 + (1 : Int32))) fun m7 =>
        fm_bd (fm_si m7 (H.2.1 v0 2) 0 (m7.1 (H.2.1 v0 2) 0 + (1 : Int32))) fun m8 =>
        fm_bn (f_X7_isOnUpLink H v0 (m.2.1 (H.2.1 v0 4) (m.1 v0 6).toNatClampNeg) m8) fun x3 m9 =>
        if x3 = 0 then
          some ((), m9)
        else
        fm_bd (fm_si m9 v0 6 (m9.1 v0 6 + (1 : Int32))) fun m10 =>
        some ((), m10)
      else none
    else none)
  else none
set_option maxRecDepth 10000 in
theorem q_X7_sendPacket {G : pm_G} {H : fm_H} {d : Nat} {z : fm_Z H} {v0 : Nat} {v1 : Nat} {v2 : Int32} {m : fm_M} (hE : fm_E G H) (h0 : fm_is H v0 7) (h1 : fm_is H v1 0) : fm_cal G H (d + 4) yX7_sendPacket [.ref v0, .ref v1, .int v2] z m fm_rV (f_X7_sendPacket H v0 v1 v2 m) := fm_mth (d := d + 3) mt_X7_sendPacket rfl rfl rfl (fun K => by
  show fm_o fm_rV (f_X7_sendPacket H v0 v1 v2 m) K → fm_V G H (d + 3) RX7 cX7_sendPacket none z K 0 [some (.ref v0), some (.ref v1), some (.int v2), none] [] m
  have T : fm_T RX7 cX7_sendPacket tc_X7_sendPacket fr_X7 mr_X7 cr_X7 lr_X7 := ⟨tok_X7, dc_X7_sendPacket⟩
  unfold f_X7_sendPacket
  refine fs_r T 1 1 [some (.ref v0), some (.ref v1), some (.int v2), none] [.ref v0] rfl ?_
  refine fs_gs T 4 7 4 v0 rfl rfl rfl rfl h0 ?_
  refine fs_r T 1 5 [some (.ref v0), some (.ref v1), some (.int v2), none] [.ref v0, .ref (H.2.1 v0 4)] rfl ?_
  refine fs_gi T 8 7 6 v0 rfl rfl rfl rfl h0 ?_
  refine fs_aa T 9 (H.2.1 v0 4) 5 rfl rfl (hE.1 _ 7 4 h0) ?_
  intro e1
  refine fs_r T 3 12 [some (.ref v0), some (.ref v1), some (.int v2), some (.ref (m.2.1 (H.2.1 v0 4) (m.1 v0 6).toNatClampNeg))] [.int v2, .ref (m.2.1 (H.2.1 v0 4) (m.1 v0 6).toNatClampNeg)] rfl ?_
  refine fs_pi T 15 5 0 (m.2.1 (H.2.1 v0 4) (m.1 v0 6).toNatClampNeg) rfl rfl rfl rfl e1 ?_
  intro m1
  refine fs_r T 2 17 [some (.ref v0), some (.ref v1), some (.int v2), some (.ref (m.2.1 (H.2.1 v0 4) (m.1 v0 6).toNatClampNeg))] [.ref v1, .ref (m.2.1 (H.2.1 v0 4) (m.1 v0 6).toNatClampNeg)] rfl ?_
  refine fs_gi T 20 0 4 v1 rfl rfl rfl rfl h1 ?_
  refine fs_pi T 23 5 1 (m.2.1 (H.2.1 v0 4) (m.1 v0 6).toNatClampNeg) rfl rfl rfl rfl e1 ?_
  intro m2
  refine fs_r T 2 25 [some (.ref v0), some (.ref v1), some (.int v2), some (.ref (m.2.1 (H.2.1 v0 4) (m.1 v0 6).toNatClampNeg))] [.ref v0, .ref (m.2.1 (H.2.1 v0 4) (m.1 v0 6).toNatClampNeg)] rfl ?_
  refine fs_gi T 28 7 9 v0 rfl rfl rfl rfl h0 ?_
  refine fs_r T 2 30 [some (.ref v0), some (.ref v1), some (.int v2), some (.ref (m.2.1 (H.2.1 v0 4) (m.1 v0 6).toNatClampNeg))] [.int (m2.1 v0 9 + (1 : Int32)), .ref (m.2.1 (H.2.1 v0 4) (m.1 v0 6).toNatClampNeg)] rfl ?_
  refine fs_pi T 33 5 2 (m.2.1 (H.2.1 v0 4) (m.1 v0 6).toNatClampNeg) rfl rfl rfl rfl e1 ?_
  intro m3
  refine fs_r T 2 35 [some (.ref v0), some (.ref v1), some (.int v2), some (.ref (m.2.1 (H.2.1 v0 4) (m.1 v0 6).toNatClampNeg))] [.ref v1, .ref (m.2.1 (H.2.1 v0 4) (m.1 v0 6).toNatClampNeg)] rfl ?_
  refine fs_vA T 38 rfl rfl rfl rfl rfl rfl h1 (q_X0_activeWay (d := d + 2) hE h1) 10 ?_
  intro x1 m4 e2
  refine fs_r T 2 40 [some (.ref v0), some (.ref v1), some (.int v2), some (.ref (m.2.1 (H.2.1 v0 4) (m.1 v0 6).toNatClampNeg))] [.ref v0, .int (1 : Int32), .ref x1, .ref (m.2.1 (H.2.1 v0 4) (m.1 v0 6).toNatClampNeg)] rfl ?_
  refine fs_gs T 43 7 0 v0 rfl rfl rfl rfl h0 ?_
  refine fs_vV T 46 rfl rfl rfl rfl rfl rfl e1 (q_X5_putOnLinkTo (d := d) hE e1 e2 (hE.1 _ 7 0 h0)) ?_
  intro x2 m5
  refine fs_r T 2 48 [some (.ref v0), some (.ref v1), some (.int v2), some (.ref (m.2.1 (H.2.1 v0 4) (m.1 v0 6).toNatClampNeg))] [.ref v1, .ref v1] rfl ?_
  refine fs_gi T 51 0 3 v1 rfl rfl rfl rfl h1 ?_
  refine fs_r T 2 53 [some (.ref v0), some (.ref v1), some (.int v2), some (.ref (m.2.1 (H.2.1 v0 4) (m.1 v0 6).toNatClampNeg))] [.int (m5.1 v1 3 - (1 : Int32)), .ref v1] rfl ?_
  refine fs_pi T 56 0 3 v1 rfl rfl rfl rfl h1 ?_
  intro m6
  refine fs_r T 2 58 [some (.ref v0), some (.ref v1), some (.int v2), some (.ref (m.2.1 (H.2.1 v0 4) (m.1 v0 6).toNatClampNeg))] [.ref v1, .ref v1] rfl ?_
  refine fs_gi T 61 0 4 v1 rfl rfl rfl rfl h1 ?_
  refine fs_r T 2 63 [some (.ref v0), some (.ref v1), some (.int v2), some (.ref (m.2.1 (H.2.1 v0 4) (m.1 v0 6).toNatClampNeg))] [.int (m6.1 v1 4 + (1 : Int32)), .ref v1] rfl ?_
  refine fs_pi T 66 0 4 v1 rfl rfl rfl rfl h1 ?_
  intro m7
  refine fs_r T 1 67 [some (.ref v0), some (.ref v1), some (.int v2), some (.ref (m.2.1 (H.2.1 v0 4) (m.1 v0 6).toNatClampNeg))] [.ref v0] rfl ?_
  refine fs_gs T 70 7 2 v0 rfl rfl rfl rfl h0 ?_
  refine fs_r T 1 71 [some (.ref v0), some (.ref v1), some (.int v2), some (.ref (m.2.1 (H.2.1 v0 4) (m.1 v0 6).toNatClampNeg))] [.ref (H.2.1 v0 2), .ref (H.2.1 v0 2)] rfl ?_
  refine fs_gi T 74 9 0 (H.2.1 v0 2) rfl rfl rfl rfl (hE.1 _ 7 2 h0) ?_
  refine fs_r T 2 76 [some (.ref v0), some (.ref v1), some (.int v2), some (.ref (m.2.1 (H.2.1 v0 4) (m.1 v0 6).toNatClampNeg))] [.int (m7.1 (H.2.1 v0 2) 0 + (1 : Int32)), .ref (H.2.1 v0 2)] rfl ?_
  refine fs_pi T 79 9 0 (H.2.1 v0 2) rfl rfl rfl rfl (hE.1 _ 7 2 h0) ?_
  intro m8
  refine fs_r T 2 81 [some (.ref v0), some (.ref v1), some (.int v2), some (.ref (m.2.1 (H.2.1 v0 4) (m.1 v0 6).toNatClampNeg))] [.ref (m.2.1 (H.2.1 v0 4) (m.1 v0 6).toNatClampNeg), .ref v0] rfl ?_
  refine fs_vI T 84 rfl rfl rfl rfl rfl rfl h0 (q_X7_isOnUpLink (d := d) hE h0 e1) ?_
  intro x3 m9
  refine fs_if_eq T 97 87 rfl rfl rfl (fun _ => ?_) (fun _ => ?_)
  · exact fs_retv T rfl rfl rfl
  · refine fs_r T 2 89 [some (.ref v0), some (.ref v1), some (.int v2), some (.ref (m.2.1 (H.2.1 v0 4) (m.1 v0 6).toNatClampNeg))] [.ref v0, .ref v0] rfl ?_
    refine fs_gi T 92 7 6 v0 rfl rfl rfl rfl h0 ?_
    refine fs_r T 2 94 [some (.ref v0), some (.ref v1), some (.int v2), some (.ref (m.2.1 (H.2.1 v0 4) (m.1 v0 6).toNatClampNeg))] [.int (m9.1 v0 6 + (1 : Int32)), .ref v0] rfl ?_
    refine fs_pi T 97 7 6 v0 rfl rfl rfl rfl h0 ?_
    intro m10
    exact fs_retv T rfl rfl rfl)
def f_X7_sendFrom_34 (H : fm_H) (v0 : Nat) (v1 : Int32) (v2 : Nat) (m : fm_M) : Option (Unit × fm_M) :=
  if m.1 v2 8 ≤ 0 then
    if m.1 v2 3 ≤ 0 then
      some ((), m)
    else
    if (60 : Int32) ≤ m.1 v0 6 then
      some ((), m)
    else
    fm_bn (f_X7_sendPacket H v0 v2 v1 m) fun _ m1 =>
    some ((), m1)
  else
  fm_bd (fm_si m v2 8 (m.1 v2 8 - (1 : Int32))) fun m2 =>
  some ((), m2)
set_option maxRecDepth 10000 in
theorem w_X7_sendFrom_34 {G : pm_G} {H : fm_H} {d : Nat} {z : fm_Z H} {K : pm_R → fm_M → Prop} (hE : fm_E G H) {v0 : Nat} {v1 : Int32} {v2 : Nat} (h0 : fm_is H v0 7) (h2 : fm_is H v2 0) : ∀ (m : fm_M), fm_o fm_rV (f_X7_sendFrom_34 H v0 v1 v2 m) K → fm_V G H (d + 4) RX7 cX7_sendFrom none z K 34 [some (.ref v0), some (.int v1), some (.ref v2)] [] m := by
  have T : fm_T RX7 cX7_sendFrom tc_X7_sendFrom fr_X7 mr_X7 cr_X7 lr_X7 := ⟨tok_X7, dc_X7_sendFrom⟩
  intro m
  unfold f_X7_sendFrom_34
  refine fs_r T 1 35 [some (.ref v0), some (.int v1), some (.ref v2)] [.ref v2] rfl ?_
  refine fs_gi T 38 0 8 v2 rfl rfl rfl rfl h2 ?_
  refine fs_if_le T 54 41 rfl rfl rfl (fun _ => ?_) (fun _ => ?_)
  · refine fs_r T 1 55 [some (.ref v0), some (.int v1), some (.ref v2)] [.ref v2] rfl ?_
    refine fs_gi T 58 0 3 v2 rfl rfl rfl rfl h2 ?_
    refine fs_if_le T 76 61 rfl rfl rfl (fun _ => ?_) (fun _ => ?_)
    · exact fs_retv T rfl rfl rfl
    · refine fs_r T 1 62 [some (.ref v0), some (.int v1), some (.ref v2)] [.ref v0] rfl ?_
      refine fs_gi T 65 7 6 v0 rfl rfl rfl rfl h0 ?_
      refine fs_r T 1 67 [some (.ref v0), some (.int v1), some (.ref v2)] [.int (60 : Int32), .int (m.1 v0 6)] rfl ?_
      refine fs_ic_ge T 76 70 rfl rfl rfl (fun _ => ?_) (fun _ => ?_)
      · exact fs_retv T rfl rfl rfl
      · refine fs_r T 3 73 [some (.ref v0), some (.int v1), some (.ref v2)] [.int v1, .ref v2, .ref v0] rfl ?_
        refine fs_vV T 76 rfl rfl rfl rfl rfl rfl h0 (q_X7_sendPacket (d := d) hE h0 h2) ?_
        intro x1 m1
        exact fs_retv T rfl rfl rfl
  · refine fs_r T 2 43 [some (.ref v0), some (.int v1), some (.ref v2)] [.ref v2, .ref v2] rfl ?_
    refine fs_gi T 46 0 8 v2 rfl rfl rfl rfl h2 ?_
    refine fs_r T 2 48 [some (.ref v0), some (.int v1), some (.ref v2)] [.int (m.1 v2 8 - (1 : Int32)), .ref v2] rfl ?_
    refine fs_pi T 51 0 8 v2 rfl rfl rfl rfl h2 ?_
    intro m2
    refine fs_r T 1 76 [some (.ref v0), some (.int v1), some (.ref v2)] [] rfl ?_
    exact fs_retv T rfl rfl rfl
def f_X7_sendFrom (H : fm_H) (v0 : Nat) (v1 : Int32) (m : fm_M) : Option (Unit × fm_M) :=
  if px_inb v1 (fm_sz H (H.2.1 v0 3)) = true then
    (if fm_isb H (m.2.1 (H.2.1 v0 3) v1.toNatClampNeg) 0 = true then
      if m.1 (m.2.1 (H.2.1 v0 3) v1.toNatClampNeg) 1 ≤ 0 then
        f_X7_sendFrom_34 H v0 v1 (m.2.1 (H.2.1 v0 3) v1.toNatClampNeg) m
      else
      if m.1 (m.2.1 (H.2.1 v0 3) v1.toNatClampNeg) 1 = 0 then none else
      if ((m.1 v0 9 + (1 : Int32)) - (m.1 v0 9 + (1 : Int32)) / m.1 (m.2.1 (H.2.1 v0 3) v1.toNatClampNeg) 1 * m.1 (m.2.1 (H.2.1 v0 3) v1.toNatClampNeg) 1) = 0 then
        fm_bn (f_X7_addToBacklog H v0 (m.2.1 (H.2.1 v0 3) v1.toNatClampNeg) (1 : Int32) m) fun _ m1 =>
        f_X7_sendFrom_34 H v0 v1 (m.2.1 (H.2.1 v0 3) v1.toNatClampNeg) m1
      else
      f_X7_sendFrom_34 H v0 v1 (m.2.1 (H.2.1 v0 3) v1.toNatClampNeg) m
    else none)
  else none
set_option maxRecDepth 10000 in
theorem q_X7_sendFrom {G : pm_G} {H : fm_H} {d : Nat} {z : fm_Z H} {v0 : Nat} {v1 : Int32} {m : fm_M} (hE : fm_E G H) (h0 : fm_is H v0 7) : fm_cal G H (d + 5) yX7_sendFrom [.ref v0, .int v1] z m fm_rV (f_X7_sendFrom H v0 v1 m) := fm_mth (d := d + 4) mt_X7_sendFrom rfl rfl rfl (fun K => by
  show fm_o fm_rV (f_X7_sendFrom H v0 v1 m) K → fm_V G H (d + 4) RX7 cX7_sendFrom none z K 0 [some (.ref v0), some (.int v1), none] [] m
  have T : fm_T RX7 cX7_sendFrom tc_X7_sendFrom fr_X7 mr_X7 cr_X7 lr_X7 := ⟨tok_X7, dc_X7_sendFrom⟩
  unfold f_X7_sendFrom
  refine fs_r T 1 1 [some (.ref v0), some (.int v1), none] [.ref v0] rfl ?_
  refine fs_gs T 4 7 3 v0 rfl rfl rfl rfl h0 ?_
  refine fs_r T 1 5 [some (.ref v0), some (.int v1), none] [.int v1, .ref (H.2.1 v0 3)] rfl ?_
  refine fs_aa T 6 (H.2.1 v0 3) 0 rfl rfl (hE.1 _ 7 3 h0) ?_
  intro e1
  refine fs_r T 2 8 [some (.ref v0), some (.int v1), some (.ref (m.2.1 (H.2.1 v0 3) v1.toNatClampNeg))] [.ref (m.2.1 (H.2.1 v0 3) v1.toNatClampNeg)] rfl ?_
  refine fs_gi T 11 0 1 (m.2.1 (H.2.1 v0 3) v1.toNatClampNeg) rfl rfl rfl rfl e1 ?_
  refine fs_if_le T 34 14 rfl rfl rfl (fun _ => ?_) (fun _ => ?_)
  · exact w_X7_sendFrom_34 hE h0 e1 _
  · refine fs_r T 1 15 [some (.ref v0), some (.int v1), some (.ref (m.2.1 (H.2.1 v0 3) v1.toNatClampNeg))] [.ref v0] rfl ?_
    refine fs_gi T 18 7 9 v0 rfl rfl rfl rfl h0 ?_
    refine fs_r T 3 21 [some (.ref v0), some (.int v1), some (.ref (m.2.1 (H.2.1 v0 3) v1.toNatClampNeg))] [.ref (m.2.1 (H.2.1 v0 3) v1.toNatClampNeg), .int (m.1 v0 9 + (1 : Int32))] rfl ?_
    refine fs_gi T 24 0 1 (m.2.1 (H.2.1 v0 3) v1.toNatClampNeg) rfl rfl rfl rfl e1 ?_
    refine fs_rem T 25 rfl rfl ?_
    refine fs_if_ne T 34 28 rfl rfl rfl (fun _ => ?_) (fun _ => ?_)
    · refine fs_r T 3 31 [some (.ref v0), some (.int v1), some (.ref (m.2.1 (H.2.1 v0 3) v1.toNatClampNeg))] [.int (1 : Int32), .ref (m.2.1 (H.2.1 v0 3) v1.toNatClampNeg), .ref v0] rfl ?_
      refine fs_vV T 34 rfl rfl rfl rfl rfl rfl h0 (q_X7_addToBacklog (d := d + 3) hE h0 e1) ?_
      intro x1 m1
      exact w_X7_sendFrom_34 hE h0 e1 _
    · exact w_X7_sendFrom_34 hE h0 e1 _)
def f_X7_tick_32 (H : fm_H) (v0 : Nat) : Nat → Int32 → fm_M → Option (Unit × fm_M)
  | 0, _, _ => none
  | n + 1, v1, m =>
    if m.1 v0 5 ≤ v1 then
      fm_bd (fm_si m v0 9 (m.1 v0 9 + (1 : Int32))) fun m1 =>
      some ((), m1)
    else
    fm_bn (f_X7_sendFrom H v0 v1 m) fun _ m2 =>
    f_X7_tick_32 H v0 n (v1 + 1) m2
set_option maxRecDepth 10000 in
theorem w_X7_tick_32 {G : pm_G} {H : fm_H} {d : Nat} {z : fm_Z H} {K : pm_R → fm_M → Prop} (hE : fm_E G H) {v0 : Nat} (h0 : fm_is H v0 7) : ∀ (n : Nat) (v1 : Int32) (m : fm_M), fm_o fm_rV (f_X7_tick_32 H v0 n v1 m) K → fm_V G H (d + 5) RX7 cX7_tick none z K 32 [some (.ref v0), some (.int v1)] [] m := by
  have T : fm_T RX7 cX7_tick tc_X7_tick fr_X7 mr_X7 cr_X7 lr_X7 := ⟨tok_X7, dc_X7_tick⟩
  intro n
  induction n with
  | zero =>
    intro v1 m 
    exact fs_none
  | succ n ih =>
    intro v1 m 
    unfold f_X7_tick_32
    refine fs_r T 2 34 [some (.ref v0), some (.int v1)] [.ref v0, .int v1] rfl ?_
    refine fs_gi T 37 7 5 v0 rfl rfl rfl rfl h0 ?_
    refine fs_ic_ge T 51 40 rfl rfl rfl (fun _ => ?_) (fun _ => ?_)
    · refine fs_r T 2 53 [some (.ref v0), some (.int v1)] [.ref v0, .ref v0] rfl ?_
      refine fs_gi T 56 7 9 v0 rfl rfl rfl rfl h0 ?_
      refine fs_r T 2 58 [some (.ref v0), some (.int v1)] [.int (m.1 v0 9 + (1 : Int32)), .ref v0] rfl ?_
      refine fs_pi T 61 7 9 v0 rfl rfl rfl rfl h0 ?_
      intro m1
      exact fs_retv T rfl rfl rfl
    · refine fs_r T 2 42 [some (.ref v0), some (.int v1)] [.int v1, .ref v0] rfl ?_
      refine fs_vV T 45 rfl rfl rfl rfl rfl rfl h0 (q_X7_sendFrom (d := d) hE h0) ?_
      intro x1 m2
      refine fs_r T 2 32 [some (.ref v0), some (.int (v1 + 1))] [] rfl ?_
      exact ih _ _
def f_X7_tick_6 (H : fm_H) (v0 : Nat) : Nat → Int32 → fm_M → Option (Unit × fm_M)
  | 0, _, _ => none
  | n + 1, v1, m =>
    if m.1 v0 5 ≤ v1 then
      f_X7_tick_32 H v0 fm_N (0 : Int32) m
    else
    if px_inb v1 (fm_sz H (H.2.1 v0 3)) = true then
      (if fm_isb H (m.2.1 (H.2.1 v0 3) v1.toNatClampNeg) 0 = true then
        fm_bn (f_X7_moveCircuit H v0 (m.2.1 (H.2.1 v0 3) v1.toNatClampNeg) m) fun _ m1 =>
        f_X7_tick_6 H v0 n (v1 + 1) m1
      else none)
    else none
set_option maxRecDepth 10000 in
theorem w_X7_tick_6 {G : pm_G} {H : fm_H} {d : Nat} {z : fm_Z H} {K : pm_R → fm_M → Prop} (hE : fm_E G H) {v0 : Nat} (h0 : fm_is H v0 7) : ∀ (n : Nat) (v1 : Int32) (m : fm_M), fm_o fm_rV (f_X7_tick_6 H v0 n v1 m) K → fm_V G H (d + 5) RX7 cX7_tick none z K 6 [some (.ref v0), some (.int v1)] [] m := by
  have T : fm_T RX7 cX7_tick tc_X7_tick fr_X7 mr_X7 cr_X7 lr_X7 := ⟨tok_X7, dc_X7_tick⟩
  intro n
  induction n with
  | zero =>
    intro v1 m 
    exact fs_none
  | succ n ih =>
    intro v1 m 
    unfold f_X7_tick_6
    refine fs_r T 2 8 [some (.ref v0), some (.int v1)] [.ref v0, .int v1] rfl ?_
    refine fs_gi T 11 7 5 v0 rfl rfl rfl rfl h0 ?_
    refine fs_ic_ge T 30 14 rfl rfl rfl (fun _ => ?_) (fun _ => ?_)
    · refine fs_r T 2 32 [some (.ref v0), some (.int (0 : Int32))] [] rfl ?_
      exact w_X7_tick_32 hE h0 _ _ _
    · refine fs_r T 2 16 [some (.ref v0), some (.int v1)] [.ref v0, .ref v0] rfl ?_
      refine fs_gs T 19 7 3 v0 rfl rfl rfl rfl h0 ?_
      refine fs_r T 1 20 [some (.ref v0), some (.int v1)] [.int v1, .ref (H.2.1 v0 3), .ref v0] rfl ?_
      refine fs_aa T 21 (H.2.1 v0 3) 0 rfl rfl (hE.1 _ 7 3 h0) ?_
      intro e1
      refine fs_vV T 24 rfl rfl rfl rfl rfl rfl h0 (q_X7_moveCircuit (d := d) hE h0 e1) ?_
      intro x1 m1
      refine fs_r T 2 6 [some (.ref v0), some (.int (v1 + 1))] [] rfl ?_
      exact ih _ _
def f_X7_tick (H : fm_H) (v0 : Nat) (m : fm_M) : Option (Unit × fm_M) :=
  fm_bn (f_X7_movePackets H v0 m) fun _ m1 =>
  f_X7_tick_6 H v0 fm_N (0 : Int32) m1
set_option maxRecDepth 10000 in
theorem q_X7_tick {G : pm_G} {H : fm_H} {d : Nat} {z : fm_Z H} {v0 : Nat} {m : fm_M} (hE : fm_E G H) (h0 : fm_is H v0 7) : fm_cal G H (d + 6) yX7_tick [.ref v0] z m fm_rV (f_X7_tick H v0 m) := fm_mth (d := d + 5) mt_X7_tick rfl rfl rfl (fun K => by
  show fm_o fm_rV (f_X7_tick H v0 m) K → fm_V G H (d + 5) RX7 cX7_tick none z K 0 [some (.ref v0), none] [] m
  have T : fm_T RX7 cX7_tick tc_X7_tick fr_X7 mr_X7 cr_X7 lr_X7 := ⟨tok_X7, dc_X7_tick⟩
  unfold f_X7_tick
  refine fs_r T 1 1 [some (.ref v0), none] [.ref v0] rfl ?_
  refine fs_vV T 4 rfl rfl rfl rfl rfl rfl h0 (q_X7_movePackets (d := d) hE h0) ?_
  intro x1 m1
  refine fs_r T 2 6 [some (.ref v0), some (.int (0 : Int32))] [] rfl ?_
  exact w_X7_tick_6 hE h0 _ _ _)
def f_X11_isOutside (H : fm_H) (v0 : Int32) (v1 : Int32) (v2 : Int32) (m : fm_M) : Option (Int32 × fm_M) :=
  if v0 < v1 then
    some ((1 : Int32), m)
  else
  if v0 ≤ v2 then
    some ((0 : Int32), m)
  else
  some ((1 : Int32), m)
set_option maxRecDepth 10000 in
theorem q_X11_isOutside {G : pm_G} {H : fm_H} {d : Nat} {z : fm_Z H} {v0 : Int32} {v1 : Int32} {v2 : Int32} {m : fm_M} (hE : fm_E G H) : fm_cal G H (d + 1) yX11_isOutside [.int v0, .int v1, .int v2] z m fm_rI (f_X11_isOutside H v0 v1 v2 m) := fm_mth (d := d + 0) mt_X11_isOutside rfl rfl rfl (fun K => by
  show fm_o fm_rI (f_X11_isOutside H v0 v1 v2 m) K → fm_V G H (d + 0) RX11 cX11_isOutside (some (.boolean)) z K 0 [some (.int v0), some (.int v1), some (.int v2)] [] m
  have T : fm_T RX11 cX11_isOutside tc_X11_isOutside fr_X11 mr_X11 cr_X11 lr_X11 := ⟨tok_X11, dc_X11_isOutside⟩
  unfold f_X11_isOutside
  refine fs_r T 2 2 [some (.int v0), some (.int v1), some (.int v2)] [.int v1, .int v0] rfl ?_
  refine fs_ic_lt T 10 5 rfl rfl rfl (fun _ => ?_) (fun _ => ?_)
  · refine fs_r T 2 15 [some (.int v0), some (.int v1), some (.int v2)] [.int (1 : Int32)] rfl ?_
    exact fs_retc T rfl rfl rfl rfl
  · refine fs_r T 2 7 [some (.int v0), some (.int v1), some (.int v2)] [.int v2, .int v0] rfl ?_
    refine fs_ic_le T 14 10 rfl rfl rfl (fun _ => ?_) (fun _ => ?_)
    · refine fs_r T 1 15 [some (.int v0), some (.int v1), some (.int v2)] [.int (0 : Int32)] rfl ?_
      exact fs_retc T rfl rfl rfl rfl
    · refine fs_r T 2 15 [some (.int v0), some (.int v1), some (.int v2)] [.int (1 : Int32)] rfl ?_
      exact fs_retc T rfl rfl rfl rfl)
def f_X11_addNode (H : fm_H) (v0 : Nat) (v1 : Int32) (m : fm_M) : Option ((Int32 ⊕ String) × fm_M) :=
  fm_bn (f_X11_isOutside H v1 (1 : Int32) (12 : Int32) m) fun x1 m1 =>
  if x1 = 0 then
    if fm_isb H (m1.2.1 v0 5) 7 = true then
      if m1.1 (H.2.1 (m1.2.1 v0 5) 0) 0 < (10 : Int32) then
        if fm_isb H (m1.2.1 v0 5) 7 = true then
          fm_bn (f_X7_appendNode H (m1.2.1 v0 5) v1 m1) fun x2 m2 =>
          some (.inl x2, m2)
        else none
      else
      some (.inr pm_xI, m1)
    else none
  else
  some (.inr pm_xA, m1)
set_option maxRecDepth 10000 in
theorem q_X11_addNode {G : pm_G} {H : fm_H} {d : Nat} {z : fm_Z H} {v0 : Nat} {v1 : Int32} {m : fm_M} (hE : fm_E G H) (h0 : fm_is H v0 11) : fm_cal G H (d + 3) yX11_addNode [.ref v0, .int v1] z m (fm_rX fm_rI) (f_X11_addNode H v0 v1 m) := fm_mth (d := d + 2) mt_X11_addNode rfl rfl rfl (fun K => by
  show fm_o (fm_rX fm_rI) (f_X11_addNode H v0 v1 m) K → fm_V G H (d + 2) RX11 cX11_addNode (some (.int)) z K 0 [some (.ref v0), some (.int v1)] [] m
  have T : fm_T RX11 cX11_addNode tc_X11_addNode fr_X11 mr_X11 cr_X11 lr_X11 := ⟨tok_X11, dc_X11_addNode⟩
  unfold f_X11_addNode
  refine fs_r T 3 4 [some (.ref v0), some (.int v1)] [.int (12 : Int32), .int (1 : Int32), .int v1] rfl ?_
  refine fs_sI T 7 rfl rfl rfl rfl rfl rfl rfl (q_X11_isOutside (d := d + 1) hE ) ?_
  intro x1 m1
  refine fs_if_eq T 20 10 rfl rfl rfl (fun _ => ?_) (fun _ => ?_)
  · refine fs_r T 1 21 [some (.ref v0), some (.int v1)] [.ref v0] rfl ?_
    refine fs_gp T 24 11 5 v0 7 rfl rfl rfl rfl h0 ?_
    intro e1
    refine fs_gs T 27 7 0 (m1.2.1 v0 5) rfl rfl rfl rfl e1 ?_
    refine fs_gi T 30 4 0 (H.2.1 (m1.2.1 v0 5) 0) rfl rfl rfl rfl (hE.1 _ 7 0 e1) ?_
    refine fs_r T 1 32 [some (.ref v0), some (.int v1)] [.int (10 : Int32), .int (m1.1 (H.2.1 (m1.2.1 v0 5) 0) 0)] rfl ?_
    refine fs_ic_lt T 45 35 rfl rfl rfl (fun _ => ?_) (fun _ => ?_)
    · refine fs_r T 1 46 [some (.ref v0), some (.int v1)] [.ref v0] rfl ?_
      refine fs_gp T 49 11 5 v0 7 rfl rfl rfl rfl h0 ?_
      intro e2
      refine fs_r T 1 50 [some (.ref v0), some (.int v1)] [.int v1, .ref (m1.2.1 v0 5)] rfl ?_
      refine fs_vI T 53 rfl rfl rfl rfl rfl rfl e2 (q_X7_appendNode (d := d) hE e2) ?_
      intro x2 m2
      exact fs_reti T rfl rfl rfl
    · exact fs_thr T rfl rfl rfl rfl rfl
  · exact fs_thr T rfl rfl rfl rfl rfl)
def f_X11_checkNode (H : fm_H) (v0 : Nat) (v1 : Int32) (m : fm_M) : Option ((Unit ⊕ String) × fm_M) :=
  if fm_isb H (m.2.1 v0 5) 7 = true then
    fm_bn (f_X4_isNode H (H.2.1 (m.2.1 v0 5) 0) v1 m) fun x1 m1 =>
    if x1 = 0 then
      some (.inr pm_xB, m1)
    else
    some (.inl (), m1)
  else none
set_option maxRecDepth 10000 in
theorem q_X11_checkNode {G : pm_G} {H : fm_H} {d : Nat} {z : fm_Z H} {v0 : Nat} {v1 : Int32} {m : fm_M} (hE : fm_E G H) (h0 : fm_is H v0 11) : fm_cal G H (d + 2) yX11_checkNode [.ref v0, .int v1] z m (fm_rX fm_rV) (f_X11_checkNode H v0 v1 m) := fm_mth (d := d + 1) mt_X11_checkNode rfl rfl rfl (fun K => by
  show fm_o (fm_rX fm_rV) (f_X11_checkNode H v0 v1 m) K → fm_V G H (d + 1) RX11 cX11_checkNode none z K 0 [some (.ref v0), some (.int v1)] [] m
  have T : fm_T RX11 cX11_checkNode tc_X11_checkNode fr_X11 mr_X11 cr_X11 lr_X11 := ⟨tok_X11, dc_X11_checkNode⟩
  unfold f_X11_checkNode
  refine fs_r T 1 1 [some (.ref v0), some (.int v1)] [.ref v0] rfl ?_
  refine fs_gp T 4 11 5 v0 7 rfl rfl rfl rfl h0 ?_
  intro e1
  refine fs_gs T 7 7 0 (m.2.1 v0 5) rfl rfl rfl rfl e1 ?_
  refine fs_r T 1 8 [some (.ref v0), some (.int v1)] [.int v1, .ref (H.2.1 (m.2.1 v0 5) 0)] rfl ?_
  refine fs_vI T 11 rfl rfl rfl rfl rfl rfl (hE.1 _ 7 0 e1) (q_X4_isNode (d := d) hE (hE.1 _ 7 0 e1)) ?_
  intro x1 m1
  refine fs_if_ne T 25 14 rfl rfl rfl (fun _ => ?_) (fun _ => ?_)
  · exact fs_thr T rfl rfl rfl rfl rfl
  · exact fs_retv T rfl rfl rfl)
def f_X11_addLink (H : fm_H) (v0 : Nat) (v1 : Int32) (v2 : Int32) (v3 : Int32) (v4 : Int32) (m : fm_M) : Option ((Int32 ⊕ String) × fm_M) :=
  fm_bx (f_X11_checkNode H v0 v1 m) fun _ m1 =>
  fm_bx (f_X11_checkNode H v0 v2 m1) fun _ m2 =>
  if v1 = v2 then
    some (.inr pm_xA, m2)
  else
  fm_bn (f_X11_isOutside H v3 (1 : Int32) (99 : Int32) m2) fun x3 m3 =>
  if x3 = 0 then
    fm_bn (f_X11_isOutside H v4 (1 : Int32) (9 : Int32) m3) fun x4 m4 =>
    if x4 = 0 then
      if fm_isb H (m4.2.1 v0 5) 7 = true then
        fm_bn (f_X4_linkBetween H (H.2.1 (m4.2.1 v0 5) 0) v1 v2 m4) fun x5 m5 =>
        if x5 = (-1 : Int32) then
          if fm_isb H (m5.2.1 v0 5) 7 = true then
            if m5.1 (H.2.1 (m5.2.1 v0 5) 0) 1 < (16 : Int32) then
              if fm_isb H (m5.2.1 v0 5) 7 = true then
                fm_bn (f_X4_appendLink H (H.2.1 (m5.2.1 v0 5) 0) v1 v2 v3 v4 m5) fun x6 m6 =>
                some (.inl x6, m6)
              else none
            else
            some (.inr pm_xI, m5)
          else none
        else
        some (.inr pm_xI, m5)
      else none
    else
    some (.inr pm_xA, m4)
  else
  some (.inr pm_xA, m3)
set_option maxRecDepth 10000 in
theorem q_X11_addLink {G : pm_G} {H : fm_H} {d : Nat} {z : fm_Z H} {v0 : Nat} {v1 : Int32} {v2 : Int32} {v3 : Int32} {v4 : Int32} {m : fm_M} (hE : fm_E G H) (h0 : fm_is H v0 11) : fm_cal G H (d + 3) yX11_addLink [.ref v0, .int v1, .int v2, .int v3, .int v4] z m (fm_rX fm_rI) (f_X11_addLink H v0 v1 v2 v3 v4 m) := fm_mth (d := d + 2) mt_X11_addLink rfl rfl rfl (fun K => by
  show fm_o (fm_rX fm_rI) (f_X11_addLink H v0 v1 v2 v3 v4 m) K → fm_V G H (d + 2) RX11 cX11_addLink (some (.int)) z K 0 [some (.ref v0), some (.int v1), some (.int v2), some (.int v3), some (.int v4)] [] m
  have T : fm_T RX11 cX11_addLink tc_X11_addLink fr_X11 mr_X11 cr_X11 lr_X11 := ⟨tok_X11, dc_X11_addLink⟩
  unfold f_X11_addLink
  refine fs_r T 2 2 [some (.ref v0), some (.int v1), some (.int v2), some (.int v3), some (.int v4)] [.int v1, .ref v0] rfl ?_
  refine fs_vVx T 5 rfl rfl rfl rfl rfl rfl h0 (q_X11_checkNode (d := d) hE h0) ?_
  intro x1 m1
  refine fs_r T 2 7 [some (.ref v0), some (.int v1), some (.int v2), some (.int v3), some (.int v4)] [.int v2, .ref v0] rfl ?_
  refine fs_vVx T 10 rfl rfl rfl rfl rfl rfl h0 (q_X11_checkNode (d := d) hE h0) ?_
  intro x2 m2
  refine fs_r T 2 12 [some (.ref v0), some (.int v1), some (.int v2), some (.int v3), some (.int v4)] [.int v2, .int v1] rfl ?_
  refine fs_ic_ne T 25 15 rfl rfl rfl (fun _ => ?_) (fun _ => ?_)
  · exact fs_thr T rfl rfl rfl rfl rfl
  · refine fs_r T 3 29 [some (.ref v0), some (.int v1), some (.int v2), some (.int v3), some (.int v4)] [.int (99 : Int32), .int (1 : Int32), .int v3] rfl ?_
    refine fs_sI T 32 rfl rfl rfl rfl rfl rfl rfl (q_X11_isOutside (d := d + 1) hE ) ?_
    intro x3 m3
    refine fs_if_ne T 46 35 rfl rfl rfl (fun _ => ?_) (fun _ => ?_)
    · refine fs_r T 3 40 [some (.ref v0), some (.int v1), some (.int v2), some (.int v3), some (.int v4)] [.int (9 : Int32), .int (1 : Int32), .int v4] rfl ?_
      refine fs_sI T 43 rfl rfl rfl rfl rfl rfl rfl (q_X11_isOutside (d := d + 1) hE ) ?_
      intro x4 m4
      refine fs_if_eq T 56 46 rfl rfl rfl (fun _ => ?_) (fun _ => ?_)
      · refine fs_r T 1 57 [some (.ref v0), some (.int v1), some (.int v2), some (.int v3), some (.int v4)] [.ref v0] rfl ?_
        refine fs_gp T 60 11 5 v0 7 rfl rfl rfl rfl h0 ?_
        intro e1
        refine fs_gs T 63 7 0 (m4.2.1 v0 5) rfl rfl rfl rfl e1 ?_
        refine fs_r T 2 65 [some (.ref v0), some (.int v1), some (.int v2), some (.int v3), some (.int v4)] [.int v2, .int v1, .ref (H.2.1 (m4.2.1 v0 5) 0)] rfl ?_
        refine fs_vI T 68 rfl rfl rfl rfl rfl rfl (hE.1 _ 7 0 e1) (q_X4_linkBetween (d := d + 1) hE (hE.1 _ 7 0 e1)) ?_
        intro x5 m5
        refine fs_r T 1 69 [some (.ref v0), some (.int v1), some (.int v2), some (.int v3), some (.int v4)] [.int (-1 : Int32), .int x5] rfl ?_
        refine fs_ic_ne T 87 72 rfl rfl rfl (fun _ => ?_) (fun _ => ?_)
        · refine fs_r T 1 73 [some (.ref v0), some (.int v1), some (.int v2), some (.int v3), some (.int v4)] [.ref v0] rfl ?_
          refine fs_gp T 76 11 5 v0 7 rfl rfl rfl rfl h0 ?_
          intro e2
          refine fs_gs T 79 7 0 (m5.2.1 v0 5) rfl rfl rfl rfl e2 ?_
          refine fs_gi T 82 4 1 (H.2.1 (m5.2.1 v0 5) 0) rfl rfl rfl rfl (hE.1 _ 7 0 e2) ?_
          refine fs_r T 1 84 [some (.ref v0), some (.int v1), some (.int v2), some (.int v3), some (.int v4)] [.int (16 : Int32), .int (m5.1 (H.2.1 (m5.2.1 v0 5) 0) 1)] rfl ?_
          refine fs_ic_lt T 97 87 rfl rfl rfl (fun _ => ?_) (fun _ => ?_)
          · refine fs_r T 1 98 [some (.ref v0), some (.int v1), some (.int v2), some (.int v3), some (.int v4)] [.ref v0] rfl ?_
            refine fs_gp T 101 11 5 v0 7 rfl rfl rfl rfl h0 ?_
            intro e3
            refine fs_gs T 104 7 0 (m5.2.1 v0 5) rfl rfl rfl rfl e3 ?_
            refine fs_r T 4 109 [some (.ref v0), some (.int v1), some (.int v2), some (.int v3), some (.int v4)] [.int v4, .int v3, .int v2, .int v1, .ref (H.2.1 (m5.2.1 v0 5) 0)] rfl ?_
            refine fs_vI T 112 rfl rfl rfl rfl rfl rfl (hE.1 _ 7 0 e3) (q_X4_appendLink (d := d) hE (hE.1 _ 7 0 e3)) ?_
            intro x6 m6
            exact fs_reti T rfl rfl rfl
          · exact fs_thr T rfl rfl rfl rfl rfl
        · exact fs_thr T rfl rfl rfl rfl rfl
      · exact fs_thr T rfl rfl rfl rfl rfl
    · exact fs_thr T rfl rfl rfl rfl rfl)
