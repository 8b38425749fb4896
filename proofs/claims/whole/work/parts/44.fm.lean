/-! functions out of the code -/
def f_X12_sendFrom_33 (H : fm_H) (v0 : Nat) (v1 : Int32) (m : fm_M) : Option (Unit × fm_M) :=
  fm_bn (f_X12_of H v0 v1 (4 : Int32) m) fun x1 m1 =>
  if x1 ≤ 0 then
    fm_bn (f_X12_of H v0 v1 (5 : Int32) m1) fun x2 m2 =>
    if x2 ≤ 0 then
      some ((), m2)
    else
    if px_inb (6 : Int32) (fm_sz H (H.2.1 v0 0)) = true then
      if (60 : Int32) ≤ m2.1 (H.2.1 v0 0) (6 : Int32).toNatClampNeg then
        some ((), m2)
      else
      fm_bn (f_X12_sendPacket H v0 v1 m2) fun _ m3 =>
      some ((), m3)
    else none
  else
  fm_bn (f_X12_grow H v0 v1 (4 : Int32) (-1 : Int32) m1) fun _ m4 =>
  some ((), m4)
set_option maxRecDepth 10000 in
theorem w_X12_sendFrom_33 {G : pm_G} {H : fm_H} {d : Nat} {z : Option Nat × Nat × Nat} {K : pm_R → fm_M → Prop} (hE : fm_E G H) {v0 : Nat} {v1 : Int32} (h0 : fm_is H v0 12) : ∀ (m : fm_M), fm_o fm_rV (f_X12_sendFrom_33 H v0 v1 m) K → fm_V G H (d + 4) RX12 cX12_sendFrom none z K 33 [some (.ref v0), some (.int v1)] [] m := by
  have T : fm_T RX12 cX12_sendFrom tc_X12_sendFrom fr_X12 mr_X12 cr_X12 lr_X12 := ⟨tok_X12, dc_X12_sendFrom⟩
  intro m
  unfold f_X12_sendFrom_33
  refine fs_r T 3 36 [some (.ref v0), some (.int v1)] [.int (4 : Int32), .int v1, .ref v0] rfl ?_
  refine fs_vI T 39 rfl rfl rfl rfl rfl rfl h0 (q_X12_of (d := d + 3) hE h0) ?_
  intro x1 m1
  refine fs_if_le T 52 42 rfl rfl rfl (fun _ => ?_) (fun _ => ?_)
  · refine fs_r T 3 55 [some (.ref v0), some (.int v1)] [.int (5 : Int32), .int v1, .ref v0] rfl ?_
    refine fs_vI T 58 rfl rfl rfl rfl rfl rfl h0 (q_X12_of (d := d + 3) hE h0) ?_
    intro x2 m2
    refine fs_if_le T 78 61 rfl rfl rfl (fun _ => ?_) (fun _ => ?_)
    · exact fs_retv T rfl rfl rfl
    · refine fs_r T 1 62 [some (.ref v0), some (.int v1)] [.ref v0] rfl ?_
      refine fs_gs T 65 12 0 v0 rfl rfl rfl rfl h0 ?_
      refine fs_r T 1 67 [some (.ref v0), some (.int v1)] [.int (6 : Int32), .ref (H.2.1 v0 0)] rfl ?_
      refine fs_ai T 68 (H.2.1 v0 0) rfl rfl (hE.1 _ 12 0 h0) ?_
      refine fs_r T 1 70 [some (.ref v0), some (.int v1)] [.int (60 : Int32), .int (m2.1 (H.2.1 v0 0) (6 : Int32).toNatClampNeg)] rfl ?_
      refine fs_ic_ge T 78 73 rfl rfl rfl (fun _ => ?_) (fun _ => ?_)
      · exact fs_retv T rfl rfl rfl
      · refine fs_r T 2 75 [some (.ref v0), some (.int v1)] [.int v1, .ref v0] rfl ?_
        refine fs_vV T 78 rfl rfl rfl rfl rfl rfl h0 (q_X12_sendPacket (d := d) hE h0) ?_
        intro x3 m3
        exact fs_retv T rfl rfl rfl
  · refine fs_r T 4 46 [some (.ref v0), some (.int v1)] [.int (-1 : Int32), .int (4 : Int32), .int v1, .ref v0] rfl ?_
    refine fs_vV T 49 rfl rfl rfl rfl rfl rfl h0 (q_X12_grow (d := d + 3) hE h0) ?_
    intro x4 m4
    refine fs_r T 1 78 [some (.ref v0), some (.int v1)] [] rfl ?_
    exact fs_retv T rfl rfl rfl
def f_X12_sendFrom (H : fm_H) (v0 : Nat) (v1 : Int32) (m : fm_M) : Option (Unit × fm_M) :=
  fm_bn (f_X12_of H v0 v1 (1 : Int32) m) fun x1 m1 =>
  if x1 ≤ 0 then
    f_X12_sendFrom_33 H v0 v1 m1
  else
  if px_inb (5 : Int32) (fm_sz H (H.2.1 v0 0)) = true then
    fm_bn (f_X12_of H v0 v1 (1 : Int32) m1) fun x2 m2 =>
    if x2 = 0 then none else
    if ((m1.1 (H.2.1 v0 0) (5 : Int32).toNatClampNeg + (1 : Int32)) - (m1.1 (H.2.1 v0 0) (5 : Int32).toNatClampNeg + (1 : Int32)) / x2 * x2) = 0 then
      fm_bn (f_X12_growBacklog H v0 v1 (1 : Int32) m2) fun _ m3 =>
      f_X12_sendFrom_33 H v0 v1 m3
    else
    f_X12_sendFrom_33 H v0 v1 m2
  else none
set_option maxRecDepth 10000 in
theorem q_X12_sendFrom {G : pm_G} {H : fm_H} {d : Nat} {z : Option Nat × Nat × Nat} {v0 : Nat} {v1 : Int32} {m : fm_M} (hE : fm_E G H) (h0 : fm_is H v0 12) : fm_cal G H (d + 5) yX12_sendFrom [.ref v0, .int v1] z m fm_rV (f_X12_sendFrom H v0 v1 m) := fm_mth (d := d + 4) mt_X12_sendFrom rfl rfl rfl (fun K => by
  show fm_o fm_rV (f_X12_sendFrom H v0 v1 m) K → fm_V G H (d + 4) RX12 cX12_sendFrom none z K 0 [some (.ref v0), some (.int v1)] [] m
  have T : fm_T RX12 cX12_sendFrom tc_X12_sendFrom fr_X12 mr_X12 cr_X12 lr_X12 := ⟨tok_X12, dc_X12_sendFrom⟩
  unfold f_X12_sendFrom
  refine fs_r T 3 3 [some (.ref v0), some (.int v1)] [.int (1 : Int32), .int v1, .ref v0] rfl ?_
  refine fs_vI T 6 rfl rfl rfl rfl rfl rfl h0 (q_X12_of (d := d + 3) hE h0) ?_
  intro x1 m1
  refine fs_if_le T 33 9 rfl rfl rfl (fun _ => ?_) (fun _ => ?_)
  · exact w_X12_sendFrom_33 hE h0 _
  · refine fs_r T 1 10 [some (.ref v0), some (.int v1)] [.ref v0] rfl ?_
    refine fs_gs T 13 12 0 v0 rfl rfl rfl rfl h0 ?_
    refine fs_r T 1 14 [some (.ref v0), some (.int v1)] [.int (5 : Int32), .ref (H.2.1 v0 0)] rfl ?_
    refine fs_ai T 15 (H.2.1 v0 0) rfl rfl (hE.1 _ 12 0 h0) ?_
    refine fs_r T 5 20 [some (.ref v0), some (.int v1)] [.int (1 : Int32), .int v1, .ref v0, .int (m1.1 (H.2.1 v0 0) (5 : Int32).toNatClampNeg + (1 : Int32))] rfl ?_
    refine fs_vI T 23 rfl rfl rfl rfl rfl rfl h0 (q_X12_of (d := d + 3) hE h0) ?_
    intro x2 m2
    refine fs_rem T 24 rfl rfl ?_
    refine fs_if_ne T 33 27 rfl rfl rfl (fun _ => ?_) (fun _ => ?_)
    · refine fs_r T 3 30 [some (.ref v0), some (.int v1)] [.int (1 : Int32), .int v1, .ref v0] rfl ?_
      refine fs_vV T 33 rfl rfl rfl rfl rfl rfl h0 (q_X12_growBacklog (d := d + 2) hE h0) ?_
      intro x3 m3
      exact w_X12_sendFrom_33 hE h0 _
    · exact w_X12_sendFrom_33 hE h0 _)
def f_X12_passTick_10 (H : fm_H) (v0 : Nat) : Nat → Int32 → fm_M → Option (Unit × fm_M)
  | 0, _, _ => none
  | n + 1, v1, m =>
    if px_inb (4 : Int32) (fm_sz H (H.2.1 v0 0)) = true then
      if m.1 (H.2.1 v0 0) (4 : Int32).toNatClampNeg ≤ v1 then
        if px_inb (5 : Int32) (fm_sz H (H.2.1 v0 0)) = true then
          if px_inb (5 : Int32) (fm_sz H (H.2.1 v0 0)) = true then
            (fm_bd (fm_si m (H.2.1 v0 0) (5 : Int32).toNatClampNeg (m.1 (H.2.1 v0 0) (5 : Int32).toNatClampNeg + (1 : Int32))) fun m1 =>
            some ((), m1))
          else none
        else none
      else
      fm_bn (f_X12_sendFrom H v0 v1 m) fun _ m2 =>
      f_X12_passTick_10 H v0 n (v1 + 1) m2
    else none
set_option maxRecDepth 10000 in
theorem w_X12_passTick_10 {G : pm_G} {H : fm_H} {d : Nat} {z : Option Nat × Nat × Nat} {K : pm_R → fm_M → Prop} (hE : fm_E G H) {v0 : Nat} (h0 : fm_is H v0 12) : ∀ (n : Nat) (v1 : Int32) (m : fm_M), fm_o fm_rV (f_X12_passTick_10 H v0 n v1 m) K → fm_V G H (d + 5) RX12 cX12_passTick none z K 10 [some (.ref v0), some (.int v1)] [] m := by
  have T : fm_T RX12 cX12_passTick tc_X12_passTick fr_X12 mr_X12 cr_X12 lr_X12 := ⟨tok_X12, dc_X12_passTick⟩
  intro n
  induction n with
  | zero =>
    intro v1 m 
    exact fs_none
  | succ n ih =>
    intro v1 m 
    unfold f_X12_passTick_10
    refine fs_r T 2 12 [some (.ref v0), some (.int v1)] [.ref v0, .int v1] rfl ?_
    refine fs_gs T 15 12 0 v0 rfl rfl rfl rfl h0 ?_
    refine fs_r T 1 16 [some (.ref v0), some (.int v1)] [.int (4 : Int32), .ref (H.2.1 v0 0), .int v1] rfl ?_
    refine fs_ai T 17 (H.2.1 v0 0) rfl rfl (hE.1 _ 12 0 h0) ?_
    refine fs_ic_ge T 31 20 rfl rfl rfl (fun _ => ?_) (fun _ => ?_)
    · refine fs_r T 1 32 [some (.ref v0), some (.int v1)] [.ref v0] rfl ?_
      refine fs_gs T 35 12 0 v0 rfl rfl rfl rfl h0 ?_
      refine fs_r T 2 37 [some (.ref v0), some (.int v1)] [.int (5 : Int32), .ref (H.2.1 v0 0), .int (5 : Int32), .ref (H.2.1 v0 0)] rfl ?_
      refine fs_ai T 38 (H.2.1 v0 0) rfl rfl (hE.1 _ 12 0 h0) ?_
      refine fs_r T 2 40 [some (.ref v0), some (.int v1)] [.int (m.1 (H.2.1 v0 0) (5 : Int32).toNatClampNeg + (1 : Int32)), .int (5 : Int32), .ref (H.2.1 v0 0)] rfl ?_
      refine fs_si T 41 (H.2.1 v0 0) rfl rfl (hE.1 _ 12 0 h0) ?_
      intro m1
      exact fs_retv T rfl rfl rfl
    · refine fs_r T 2 22 [some (.ref v0), some (.int v1)] [.int v1, .ref v0] rfl ?_
      refine fs_vV T 25 rfl rfl rfl rfl rfl rfl h0 (q_X12_sendFrom (d := d) hE h0) ?_
      intro x1 m2
      refine fs_r T 2 10 [some (.ref v0), some (.int (v1 + 1))] [] rfl ?_
      exact ih _ _
def f_X12_passTick (H : fm_H) (v0 : Nat) (m : fm_M) : Option (Unit × fm_M) :=
  fm_bn (f_X12_movePackets H v0 m) fun _ m1 =>
  fm_bn (f_X12_moveCircuits H v0 m1) fun _ m2 =>
  f_X12_passTick_10 H v0 fm_N (0 : Int32) m2
set_option maxRecDepth 10000 in
theorem q_X12_passTick {G : pm_G} {H : fm_H} {d : Nat} {z : Option Nat × Nat × Nat} {v0 : Nat} {m : fm_M} (hE : fm_E G H) (h0 : fm_is H v0 12) : fm_cal G H (d + 6) yX12_passTick [.ref v0] z m fm_rV (f_X12_passTick H v0 m) := fm_mth (d := d + 5) mt_X12_passTick rfl rfl rfl (fun K => by
  show fm_o fm_rV (f_X12_passTick H v0 m) K → fm_V G H (d + 5) RX12 cX12_passTick none z K 0 [some (.ref v0), none] [] m
  have T : fm_T RX12 cX12_passTick tc_X12_passTick fr_X12 mr_X12 cr_X12 lr_X12 := ⟨tok_X12, dc_X12_passTick⟩
  unfold f_X12_passTick
  refine fs_r T 1 1 [some (.ref v0), none] [.ref v0] rfl ?_
  refine fs_vV T 4 rfl rfl rfl rfl rfl rfl h0 (q_X12_movePackets (d := d) hE h0) ?_
  intro x1 m1
  refine fs_r T 1 5 [some (.ref v0), none] [.ref v0] rfl ?_
  refine fs_vV T 8 rfl rfl rfl rfl rfl rfl h0 (q_X12_moveCircuits (d := d) hE h0) ?_
  intro x2 m2
  refine fs_r T 2 10 [some (.ref v0), some (.int (0 : Int32))] [] rfl ?_
  exact w_X12_passTick_10 hE h0 _ _ _)
def f_X12_passTicks_2 (H : fm_H) (v0 : Nat) (v1 : Int32) : Nat → Int32 → fm_M → Option (Unit × fm_M)
  | 0, _, _ => none
  | n + 1, v2, m =>
    if v1 ≤ v2 then
      some ((), m)
    else
    fm_bn (f_X12_passTick H v0 m) fun _ m1 =>
    f_X12_passTicks_2 H v0 v1 n (v2 + 1) m1
set_option maxRecDepth 10000 in
theorem w_X12_passTicks_2 {G : pm_G} {H : fm_H} {d : Nat} {z : Option Nat × Nat × Nat} {K : pm_R → fm_M → Prop} (hE : fm_E G H) {v0 : Nat} {v1 : Int32} (h0 : fm_is H v0 12) : ∀ (n : Nat) (v2 : Int32) (m : fm_M), fm_o fm_rV (f_X12_passTicks_2 H v0 v1 n v2 m) K → fm_V G H (d + 6) RX12 cX12_passTicks none z K 2 [some (.ref v0), some (.int v1), some (.int v2)] [] m := by
  have T : fm_T RX12 cX12_passTicks tc_X12_passTicks fr_X12 mr_X12 cr_X12 lr_X12 := ⟨tok_X12, dc_X12_passTicks⟩
  intro n
  induction n with
  | zero =>
    intro v2 m 
    exact fs_none
  | succ n ih =>
    intro v2 m 
    unfold f_X12_passTicks_2
    refine fs_r T 2 4 [some (.ref v0), some (.int v1), some (.int v2)] [.int v1, .int v2] rfl ?_
    refine fs_ic_ge T 17 7 rfl rfl rfl (fun _ => ?_) (fun _ => ?_)
    · exact fs_retv T rfl rfl rfl
    · refine fs_r T 1 8 [some (.ref v0), some (.int v1), some (.int v2)] [.ref v0] rfl ?_
      refine fs_vV T 11 rfl rfl rfl rfl rfl rfl h0 (q_X12_passTick (d := d) hE h0) ?_
      intro x1 m1
      refine fs_r T 2 2 [some (.ref v0), some (.int v1), some (.int (v2 + 1))] [] rfl ?_
      exact ih _ _
def f_X12_passTicks (H : fm_H) (v0 : Nat) (v1 : Int32) (m : fm_M) : Option (Unit × fm_M) :=
  f_X12_passTicks_2 H v0 v1 fm_N (0 : Int32) m
set_option maxRecDepth 10000 in
theorem q_X12_passTicks {G : pm_G} {H : fm_H} {d : Nat} {z : Option Nat × Nat × Nat} {v0 : Nat} {v1 : Int32} {m : fm_M} (hE : fm_E G H) (h0 : fm_is H v0 12) : fm_cal G H (d + 7) yX12_passTicks [.ref v0, .int v1] z m fm_rV (f_X12_passTicks H v0 v1 m) := fm_mth (d := d + 6) mt_X12_passTicks rfl rfl rfl (fun K => by
  show fm_o fm_rV (f_X12_passTicks H v0 v1 m) K → fm_V G H (d + 6) RX12 cX12_passTicks none z K 0 [some (.ref v0), some (.int v1), none] [] m
  have T : fm_T RX12 cX12_passTicks tc_X12_passTicks fr_X12 mr_X12 cr_X12 lr_X12 := ⟨tok_X12, dc_X12_passTicks⟩
  unfold f_X12_passTicks
  refine fs_r T 2 2 [some (.ref v0), some (.int v1), some (.int (0 : Int32))] [] rfl ?_
  exact w_X12_passTicks_2 hE h0 _ _ _)
def f_X12_run (H : fm_H) (v0 : Nat) (v1 : Int32) (m : fm_M) : Option (Int32 × fm_M) :=
  fm_bd (fm_si m v0 7 (0 : Int32)) fun m1 =>
  fm_bn (f_X12_isBetween H v1 (1 : Int32) (200 : Int32) m1) fun x1 m2 =>
  if x1 = 0 then
    fm_bn (f_X12_fail H v0 (1 : Int32) m2) fun x3 m4 =>
    some (x3, m4)
  else
  if px_inb (8 : Int32) (fm_sz H (H.2.1 v0 0)) = true then
    fm_bn (f_X12_passTicks H v0 v1 m2) fun _ m3 =>
    if px_inb (8 : Int32) (fm_sz H (H.2.1 v0 0)) = true then
      some ((m3.1 (H.2.1 v0 0) (8 : Int32).toNatClampNeg - m2.1 (H.2.1 v0 0) (8 : Int32).toNatClampNeg), m3)
    else none
  else none
set_option maxRecDepth 10000 in
theorem q_X12_run {G : pm_G} {H : fm_H} {d : Nat} {z : Option Nat × Nat × Nat} {v0 : Nat} {v1 : Int32} {m : fm_M} (hE : fm_E G H) (h0 : fm_is H v0 12) : fm_cal G H (d + 8) yX12_run [.ref v0, .int v1] z m fm_rI (f_X12_run H v0 v1 m) := fm_mth (d := d + 7) mt_X12_run rfl rfl rfl (fun K => by
  show fm_o fm_rI (f_X12_run H v0 v1 m) K → fm_V G H (d + 7) RX12 cX12_run (some (.int)) z K 0 [some (.ref v0), some (.int v1), none] [] m
  have T : fm_T RX12 cX12_run tc_X12_run fr_X12 mr_X12 cr_X12 lr_X12 := ⟨tok_X12, dc_X12_run⟩
  unfold f_X12_run
  refine fs_r T 2 2 [some (.ref v0), some (.int v1), none] [.int (0 : Int32), .ref v0] rfl ?_
  refine fs_pi T 5 12 7 v0 rfl rfl rfl rfl h0 ?_
  intro m1
  refine fs_r T 3 10 [some (.ref v0), some (.int v1), none] [.int (200 : Int32), .int (1 : Int32), .int v1] rfl ?_
  refine fs_sI T 13 rfl rfl rfl rfl rfl rfl rfl (q_X12_isBetween (d := d + 6) hE ) ?_
  intro x1 m2
  refine fs_if_ne T 22 16 rfl rfl rfl (fun _ => ?_) (fun _ => ?_)
  · refine fs_r T 2 18 [some (.ref v0), some (.int v1), none] [.int (1 : Int32), .ref v0] rfl ?_
    refine fs_vI T 21 rfl rfl rfl rfl rfl rfl h0 (q_X12_fail (d := d + 6) hE h0) ?_
    intro x3 m4
    exact fs_reti T rfl rfl rfl
  · refine fs_r T 1 23 [some (.ref v0), some (.int v1), none] [.ref v0] rfl ?_
    refine fs_gs T 26 12 0 v0 rfl rfl rfl rfl h0 ?_
    refine fs_r T 1 28 [some (.ref v0), some (.int v1), none] [.int (8 : Int32), .ref (H.2.1 v0 0)] rfl ?_
    refine fs_ai T 29 (H.2.1 v0 0) rfl rfl (hE.1 _ 12 0 h0) ?_
    refine fs_r T 3 32 [some (.ref v0), some (.int v1), some (.int (m2.1 (H.2.1 v0 0) (8 : Int32).toNatClampNeg))] [.int v1, .ref v0] rfl ?_
    refine fs_vV T 35 rfl rfl rfl rfl rfl rfl h0 (q_X12_passTicks (d := d) hE h0) ?_
    intro x2 m3
    refine fs_r T 1 36 [some (.ref v0), some (.int v1), some (.int (m2.1 (H.2.1 v0 0) (8 : Int32).toNatClampNeg))] [.ref v0] rfl ?_
    refine fs_gs T 39 12 0 v0 rfl rfl rfl rfl h0 ?_
    refine fs_r T 1 41 [some (.ref v0), some (.int v1), some (.int (m2.1 (H.2.1 v0 0) (8 : Int32).toNatClampNeg))] [.int (8 : Int32), .ref (H.2.1 v0 0)] rfl ?_
    refine fs_ai T 42 (H.2.1 v0 0) rfl rfl (hE.1 _ 12 0 h0) ?_
    refine fs_r T 2 44 [some (.ref v0), some (.int v1), some (.int (m2.1 (H.2.1 v0 0) (8 : Int32).toNatClampNeg))] [.int (m3.1 (H.2.1 v0 0) (8 : Int32).toNatClampNeg - m2.1 (H.2.1 v0 0) (8 : Int32).toNatClampNeg)] rfl ?_
    exact fs_reti T rfl rfl rfl)
def f_X12_circuit (H : fm_H) (v0 : Nat) (v1 : Int32) (v2 : Int32) (m : fm_M) : Option (Int32 × fm_M) :=
  fm_bd (fm_si m v0 7 (0 : Int32)) fun m1 =>
  fm_bn (f_X12_isCircuit H v0 v1 m1) fun x1 m2 =>
  if x1 = 0 then
    fm_bn (f_X12_fail H v0 (1 : Int32) m2) fun x21 m22 =>
    some (x21, m22)
  else
  fm_sw v2 0 [  fm_bn (f_X12_firstOf H v0 v1 m2) fun x2 m3 =>
    some (x2, m3),
    fm_bn (f_X12_lastOf H v0 v1 m2) fun x3 m4 =>
    some (x3, m4),
    fm_bn (f_X12_of H v0 v1 (v2 - (2 : Int32)) m2) fun x4 m5 =>
    some (x4, m5),
    fm_bn (f_X12_of H v0 v1 (v2 - (2 : Int32)) m2) fun x5 m6 =>
    some (x5, m6),
    fm_bn (f_X12_of H v0 v1 (v2 - (2 : Int32)) m2) fun x6 m7 =>
    some (x6, m7),
    fm_bn (f_X12_activePlace H v0 v1 m2) fun x7 m8 =>
    fm_bn (f_X12_delayOf H v0 x7 m8) fun x8 m9 =>
    some (x8, m9),
    fm_bn (f_X12_of H v0 v1 (((5 : Int32) + v2) - (6 : Int32)) m2) fun x9 m10 =>
    some (x9, m10),
    fm_bn (f_X12_of H v0 v1 (((5 : Int32) + v2) - (6 : Int32)) m2) fun x10 m11 =>
    some (x10, m11),
    fm_bn (f_X12_of H v0 v1 (((5 : Int32) + v2) - (6 : Int32)) m2) fun x11 m12 =>
    some (x11, m12),
    fm_bn (f_X12_of H v0 v1 (((5 : Int32) + v2) - (6 : Int32)) m2) fun x12 m13 =>
    some (x12, m13),
    fm_bn (f_X12_of H v0 v1 (((5 : Int32) + v2) - (6 : Int32)) m2) fun x13 m14 =>
    some (x13, m14),
    fm_bn (f_X12_of H v0 v1 (4 : Int32) m2) fun x14 m15 =>
    some (x14, m15),
    fm_bn (f_X12_of H v0 v1 (2 : Int32) m2) fun x15 m16 =>
    if x15 = (2 : Int32) then
      fm_bn (f_X12_of H v0 v1 (3 : Int32) m16) fun x16 m17 =>
      some (x16, m17)
    else
    some ((0 : Int32), m16),
    fm_bn (f_X12_packetsOf H v0 v1 m2) fun x17 m18 =>
    some (x17, m18),
    fm_bn (f_X12_of H v0 v1 (2 : Int32) m2) fun x18 m19 =>
    if x18 = (1 : Int32) then
      fm_bn (f_X12_of H v0 v1 (3 : Int32) m19) fun x19 m20 =>
      some (x19, m20)
    else
    some ((0 : Int32), m19)]
    (fm_bn (f_X12_fail H v0 (2 : Int32) m2) fun x20 m21 =>
    some (x20, m21))
set_option maxRecDepth 10000 in
theorem q_X12_circuit {G : pm_G} {H : fm_H} {d : Nat} {z : Option Nat × Nat × Nat} {v0 : Nat} {v1 : Int32} {v2 : Int32} {m : fm_M} (hE : fm_E G H) (h0 : fm_is H v0 12) : fm_cal G H (d + 4) yX12_circuit [.ref v0, .int v1, .int v2] z m fm_rI (f_X12_circuit H v0 v1 v2 m) := fm_mth (d := d + 3) mt_X12_circuit rfl rfl rfl (fun K => by
  show fm_o fm_rI (f_X12_circuit H v0 v1 v2 m) K → fm_V G H (d + 3) RX12 cX12_circuit (some (.int)) z K 0 [some (.ref v0), some (.int v1), some (.int v2)] [] m
  have T : fm_T RX12 cX12_circuit tc_X12_circuit fr_X12 mr_X12 cr_X12 lr_X12 := ⟨tok_X12, dc_X12_circuit⟩
  unfold f_X12_circuit
  refine fs_r T 2 2 [some (.ref v0), some (.int v1), some (.int v2)] [.int (0 : Int32), .ref v0] rfl ?_
  refine fs_pi T 5 12 7 v0 rfl rfl rfl rfl h0 ?_
  intro m1
  refine fs_r T 2 7 [some (.ref v0), some (.int v1), some (.int v2)] [.int v1, .ref v0] rfl ?_
  refine fs_vI T 10 rfl rfl rfl rfl rfl rfl h0 (q_X12_isCircuit (d := d + 1) hE h0) ?_
  intro x1 m2
  refine fs_if_ne T 19 13 rfl rfl rfl (fun _ => ?_) (fun _ => ?_)
  · refine fs_r T 2 15 [some (.ref v0), some (.int v1), some (.int v2)] [.int (1 : Int32), .ref v0] rfl ?_
    refine fs_vI T 18 rfl rfl rfl rfl rfl rfl h0 (q_X12_fail (d := d + 2) hE h0) ?_
    intro x21 m22
    exact fs_reti T rfl rfl rfl
  · refine fs_r T 1 20 [some (.ref v0), some (.int v1), some (.int v2)] [.int v2] rfl ?_
    refine fs_tsw T (dflt := 174) (lo := 0) (hi := 14) (offs := #[76, 82, 88, 88, 88, 97, 107, 107, 107, 107, 107, 119, 126, 147, 153]) (t := 194) rfl rfl rfl rfl ⟨⟨96, rfl, ?_⟩, ⟨102, rfl, ?_⟩, ⟨108, rfl, ?_⟩, ⟨108, rfl, ?_⟩, ⟨108, rfl, ?_⟩, ⟨117, rfl, ?_⟩, ⟨127, rfl, ?_⟩, ⟨127, rfl, ?_⟩, ⟨127, rfl, ?_⟩, ⟨127, rfl, ?_⟩, ⟨127, rfl, ?_⟩, ⟨139, rfl, ?_⟩, ⟨146, rfl, ?_⟩, ⟨167, rfl, ?_⟩, ⟨173, rfl, ?_⟩, trivial⟩ ?_
    · refine fs_r T 2 98 [some (.ref v0), some (.int v1), some (.int v2)] [.int v1, .ref v0] rfl ?_
      refine fs_vI T 101 rfl rfl rfl rfl rfl rfl h0 (q_X12_firstOf (d := d + 1) hE h0) ?_
      intro x2 m3
      exact fs_reti T rfl rfl rfl
    · refine fs_r T 2 104 [some (.ref v0), some (.int v1), some (.int v2)] [.int v1, .ref v0] rfl ?_
      refine fs_vI T 107 rfl rfl rfl rfl rfl rfl h0 (q_X12_lastOf (d := d + 1) hE h0) ?_
      intro x3 m4
      exact fs_reti T rfl rfl rfl
    · refine fs_r T 5 113 [some (.ref v0), some (.int v1), some (.int v2)] [.int (v2 - (2 : Int32)), .int v1, .ref v0] rfl ?_
      refine fs_vI T 116 rfl rfl rfl rfl rfl rfl h0 (q_X12_of (d := d + 2) hE h0) ?_
      intro x4 m5
      exact fs_reti T rfl rfl rfl
    · refine fs_r T 5 113 [some (.ref v0), some (.int v1), some (.int v2)] [.int (v2 - (2 : Int32)), .int v1, .ref v0] rfl ?_
      refine fs_vI T 116 rfl rfl rfl rfl rfl rfl h0 (q_X12_of (d := d + 2) hE h0) ?_
      intro x5 m6
      exact fs_reti T rfl rfl rfl
    · refine fs_r T 5 113 [some (.ref v0), some (.int v1), some (.int v2)] [.int (v2 - (2 : Int32)), .int v1, .ref v0] rfl ?_
      refine fs_vI T 116 rfl rfl rfl rfl rfl rfl h0 (q_X12_of (d := d + 2) hE h0) ?_
      intro x6 m7
      exact fs_reti T rfl rfl rfl
    · refine fs_r T 3 120 [some (.ref v0), some (.int v1), some (.int v2)] [.int v1, .ref v0, .ref v0] rfl ?_
      refine fs_vI T 123 rfl rfl rfl rfl rfl rfl h0 (q_X12_activePlace (d := d + 1) hE h0) ?_
      intro x7 m8
      refine fs_vI T 126 rfl rfl rfl rfl rfl rfl h0 (q_X12_delayOf (d := d) hE h0) ?_
      intro x8 m9
      exact fs_reti T rfl rfl rfl
    · refine fs_r T 7 135 [some (.ref v0), some (.int v1), some (.int v2)] [.int (((5 : Int32) + v2) - (6 : Int32)), .int v1, .ref v0] rfl ?_
      refine fs_vI T 138 rfl rfl rfl rfl rfl rfl h0 (q_X12_of (d := d + 2) hE h0) ?_
      intro x9 m10
      exact fs_reti T rfl rfl rfl
    · refine fs_r T 7 135 [some (.ref v0), some (.int v1), some (.int v2)] [.int (((5 : Int32) + v2) - (6 : Int32)), .int v1, .ref v0] rfl ?_
      refine fs_vI T 138 rfl rfl rfl rfl rfl rfl h0 (q_X12_of (d := d + 2) hE h0) ?_
      intro x10 m11
      exact fs_reti T rfl rfl rfl
    · refine fs_r T 7 135 [some (.ref v0), some (.int v1), some (.int v2)] [.int (((5 : Int32) + v2) - (6 : Int32)), .int v1, .ref v0] rfl ?_
      refine fs_vI T 138 rfl rfl rfl rfl rfl rfl h0 (q_X12_of (d := d + 2) hE h0) ?_
      intro x11 m12
      exact fs_reti T rfl rfl rfl
    · refine fs_r T 7 135 [some (.ref v0), some (.int v1), some (.int v2)] [.int (((5 : Int32) + v2) - (6 : Int32)), .int v1, .ref v0] rfl ?_
      refine fs_vI T 138 rfl rfl rfl rfl rfl rfl h0 (q_X12_of (d := d + 2) hE h0) ?_
      intro x12 m13
      exact fs_reti T rfl rfl rfl
    · refine fs_r T 7 135 [some (.ref v0), some (.int v1), some (.int v2)] [.int (((5 : Int32) + v2) - (6 : Int32)), .int v1, .ref v0] rfl ?_
      refine fs_vI T 138 rfl rfl rfl rfl rfl rfl h0 (q_X12_of (d := d + 2) hE h0) ?_
      intro x13 m14
      exact fs_reti T rfl rfl rfl
    · refine fs_r T 3 142 [some (.ref v0), some (.int v1), some (.int v2)] [.int (4 : Int32), .int v1, .ref v0] rfl ?_
      refine fs_vI T 145 rfl rfl rfl rfl rfl rfl h0 (q_X12_of (d := d + 2) hE h0) ?_
      intro x14 m15
      exact fs_reti T rfl rfl rfl
    · refine fs_r T 3 149 [some (.ref v0), some (.int v1), some (.int v2)] [.int (2 : Int32), .int v1, .ref v0] rfl ?_
      refine fs_vI T 152 rfl rfl rfl rfl rfl rfl h0 (q_X12_of (d := d + 2) hE h0) ?_
      intro x15 m16
      refine fs_r T 1 153 [some (.ref v0), some (.int v1), some (.int v2)] [.int (2 : Int32), .int x15] rfl ?_
      refine fs_ic_ne T 165 156 rfl rfl rfl (fun _ => ?_) (fun _ => ?_)
      · refine fs_r T 3 159 [some (.ref v0), some (.int v1), some (.int v2)] [.int (3 : Int32), .int v1, .ref v0] rfl ?_
        refine fs_vI T 162 rfl rfl rfl rfl rfl rfl h0 (q_X12_of (d := d + 2) hE h0) ?_
        intro x16 m17
        refine fs_r T 1 166 [some (.ref v0), some (.int v1), some (.int v2)] [.int x16] rfl ?_
        exact fs_reti T rfl rfl rfl
      · refine fs_r T 1 166 [some (.ref v0), some (.int v1), some (.int v2)] [.int (0 : Int32)] rfl ?_
        exact fs_reti T rfl rfl rfl
    · refine fs_r T 2 169 [some (.ref v0), some (.int v1), some (.int v2)] [.int v1, .ref v0] rfl ?_
      refine fs_vI T 172 rfl rfl rfl rfl rfl rfl h0 (q_X12_packetsOf (d := d + 1) hE h0) ?_
      intro x17 m18
      exact fs_reti T rfl rfl rfl
    · refine fs_r T 3 176 [some (.ref v0), some (.int v1), some (.int v2)] [.int (2 : Int32), .int v1, .ref v0] rfl ?_
      refine fs_vI T 179 rfl rfl rfl rfl rfl rfl h0 (q_X12_of (d := d + 2) hE h0) ?_
      intro x18 m19
      refine fs_r T 1 180 [some (.ref v0), some (.int v1), some (.int v2)] [.int (1 : Int32), .int x18] rfl ?_
      refine fs_ic_ne T 192 183 rfl rfl rfl (fun _ => ?_) (fun _ => ?_)
      · refine fs_r T 3 186 [some (.ref v0), some (.int v1), some (.int v2)] [.int (3 : Int32), .int v1, .ref v0] rfl ?_
        refine fs_vI T 189 rfl rfl rfl rfl rfl rfl h0 (q_X12_of (d := d + 2) hE h0) ?_
        intro x19 m20
        refine fs_r T 1 193 [some (.ref v0), some (.int v1), some (.int v2)] [.int x19] rfl ?_
        exact fs_reti T rfl rfl rfl
      · refine fs_r T 1 193 [some (.ref v0), some (.int v1), some (.int v2)] [.int (0 : Int32)] rfl ?_
        exact fs_reti T rfl rfl rfl
    · refine fs_r T 2 196 [some (.ref v0), some (.int v1), some (.int v2)] [.int (2 : Int32), .ref v0] rfl ?_
      refine fs_vI T 199 rfl rfl rfl rfl rfl rfl h0 (q_X12_fail (d := d + 2) hE h0) ?_
      intro x20 m21
      exact fs_reti T rfl rfl rfl)
def f_X12_way_49 (H : fm_H) (v0 : Nat) (v3 : Int32) (v4 : Int32) (s0 : Int32) (s1 : Int32) (m : fm_M) : Option (Int32 × fm_M) :=
  fm_bn (f_X12_wayPlace H s1 s0 m) fun x1 m1 =>
  if px_inb x1 (fm_sz H (H.2.1 v0 0)) = true then
    if v3 < m1.1 (H.2.1 v0 0) x1.toNatClampNeg then
      if v4 = 0 then
        if px_inb ((x1 + (1 : Int32)) + v3) (fm_sz H (H.2.1 v0 0)) = true then
          some (m1.1 (H.2.1 v0 0) ((x1 + (1 : Int32)) + v3).toNatClampNeg, m1)
        else none
      else
      if v4 = (1 : Int32) then
        if px_inb ((x1 + (7 : Int32)) + v3) (fm_sz H (H.2.1 v0 0)) = true then
          some (m1.1 (H.2.1 v0 0) ((x1 + (7 : Int32)) + v3).toNatClampNeg, m1)
        else none
      else
      if px_inb ((x1 + (13 : Int32)) + v3) (fm_sz H (H.2.1 v0 0)) = true then
        some (m1.1 (H.2.1 v0 0) ((x1 + (13 : Int32)) + v3).toNatClampNeg, m1)
      else none
    else
    some ((-1 : Int32), m1)
  else none
set_option maxRecDepth 10000 in
theorem w_X12_way_49 {G : pm_G} {H : fm_H} {d : Nat} {z : Option Nat × Nat × Nat} {K : pm_R → fm_M → Prop} (hE : fm_E G H) {v0 : Nat} {v3 : Int32} {v4 : Int32} (h0 : fm_is H v0 12) : ∀ (s0 : Int32) (s1 : Int32) (m : fm_M), fm_o fm_rI (f_X12_way_49 H v0 v3 v4 s0 s1 m) K → fm_V G H (d + 2) RX12 cX12_way (some (.int)) z K 49 [some (.ref v0), none, none, some (.int v3), some (.int v4), none] [.int s0, .int s1] m := by
  have T : fm_T RX12 cX12_way tc_X12_way fr_X12 mr_X12 cr_X12 lr_X12 := ⟨tok_X12, dc_X12_way⟩
  intro s0 s1 m
  unfold f_X12_way_49
  refine fs_sI T 52 rfl rfl rfl rfl rfl rfl rfl (q_X12_wayPlace (d := d + 1) hE ) ?_
  intro x1 m1
  refine fs_r T 3 56 [some (.ref v0), none, none, some (.int v3), some (.int v4), some (.int x1)] [.ref v0, .int v3] rfl ?_
  refine fs_gs T 59 12 0 v0 rfl rfl rfl rfl h0 ?_
  refine fs_r T 1 61 [some (.ref v0), none, none, some (.int v3), some (.int v4), some (.int x1)] [.int x1, .ref (H.2.1 v0 0), .int v3] rfl ?_
  refine fs_ai T 62 (H.2.1 v0 0) rfl rfl (hE.1 _ 12 0 h0) ?_
  refine fs_ic_lt T 67 65 rfl rfl rfl (fun _ => ?_) (fun _ => ?_)
  · refine fs_r T 1 68 [some (.ref v0), none, none, some (.int v3), some (.int v4), some (.int x1)] [.ref v0] rfl ?_
    refine fs_gs T 71 12 0 v0 rfl rfl rfl rfl h0 ?_
    refine fs_r T 2 75 [some (.ref v0), none, none, some (.int v3), some (.int v4), some (.int x1)] [.int v4, .int x1, .ref (H.2.1 v0 0)] rfl ?_
    refine fs_if_ne T 82 78 rfl rfl rfl (fun _ => ?_) (fun _ => ?_)
    · refine fs_r T 5 98 [some (.ref v0), none, none, some (.int v3), some (.int v4), some (.int x1)] [.int ((x1 + (1 : Int32)) + v3), .ref (H.2.1 v0 0)] rfl ?_
      refine fs_ai T 99 (H.2.1 v0 0) rfl rfl (hE.1 _ 12 0 h0) ?_
      exact fs_reti T rfl rfl rfl
    · refine fs_r T 2 85 [some (.ref v0), none, none, some (.int v3), some (.int v4), some (.int x1)] [.int (1 : Int32), .int v4, .int x1, .ref (H.2.1 v0 0)] rfl ?_
      refine fs_ic_ne T 93 88 rfl rfl rfl (fun _ => ?_) (fun _ => ?_)
      · refine fs_r T 5 98 [some (.ref v0), none, none, some (.int v3), some (.int v4), some (.int x1)] [.int ((x1 + (7 : Int32)) + v3), .ref (H.2.1 v0 0)] rfl ?_
        refine fs_ai T 99 (H.2.1 v0 0) rfl rfl (hE.1 _ 12 0 h0) ?_
        exact fs_reti T rfl rfl rfl
      · refine fs_r T 4 98 [some (.ref v0), none, none, some (.int v3), some (.int v4), some (.int x1)] [.int ((x1 + (13 : Int32)) + v3), .ref (H.2.1 v0 0)] rfl ?_
        refine fs_ai T 99 (H.2.1 v0 0) rfl rfl (hE.1 _ 12 0 h0) ?_
        exact fs_reti T rfl rfl rfl
  · refine fs_r T 1 66 [some (.ref v0), none, none, some (.int v3), some (.int v4), some (.int x1)] [.int (-1 : Int32)] rfl ?_
    exact fs_reti T rfl rfl rfl
def f_X12_way (H : fm_H) (v0 : Nat) (v1 : Int32) (v2 : Int32) (v3 : Int32) (v4 : Int32) (m : fm_M) : Option (Int32 × fm_M) :=
  fm_bd (fm_si m v0 7 (0 : Int32)) fun m1 =>
  fm_bn (f_X12_isCircuit H v0 v1 m1) fun x1 m2 =>
  if x1 = 0 then
    fm_bn (f_X12_fail H v0 (1 : Int32) m2) fun x2 m3 =>
    some (x2, m3)
  else
  if 0 ≤ v3 then
    fm_bn (f_X12_isBetween H v4 (0 : Int32) (2 : Int32) m2) fun x3 m4 =>
    if x3 = 0 then
      fm_bn (f_X12_fail H v0 (2 : Int32) m4) fun x4 m5 =>
      some (x4, m5)
    else
    if v2 = 0 then
      f_X12_way_49 H v0 v3 v4 (0 : Int32) v1 m4
    else
    f_X12_way_49 H v0 v3 v4 (1 : Int32) v1 m4
  else
  fm_bn (f_X12_fail H v0 (1 : Int32) m2) fun x5 m6 =>
  some (x5, m6)
set_option maxRecDepth 10000 in
theorem q_X12_way {G : pm_G} {H : fm_H} {d : Nat} {z : Option Nat × Nat × Nat} {v0 : Nat} {v1 : Int32} {v2 : Int32} {v3 : Int32} {v4 : Int32} {m : fm_M} (hE : fm_E G H) (h0 : fm_is H v0 12) : fm_cal G H (d + 3) yX12_way [.ref v0, .int v1, .int v2, .int v3, .int v4] z m fm_rI (f_X12_way H v0 v1 v2 v3 v4 m) := fm_mth (d := d + 2) mt_X12_way rfl rfl rfl (fun K => by
  show fm_o fm_rI (f_X12_way H v0 v1 v2 v3 v4 m) K → fm_V G H (d + 2) RX12 cX12_way (some (.int)) z K 0 [some (.ref v0), some (.int v1), some (.int v2), some (.int v3), some (.int v4), none] [] m
  have T : fm_T RX12 cX12_way tc_X12_way fr_X12 mr_X12 cr_X12 lr_X12 := ⟨tok_X12, dc_X12_way⟩
  unfold f_X12_way
  refine fs_r T 2 2 [some (.ref v0), some (.int v1), some (.int v2), some (.int v3), some (.int v4), none] [.int (0 : Int32), .ref v0] rfl ?_
  refine fs_pi T 5 12 7 v0 rfl rfl rfl rfl h0 ?_
  intro m1
  refine fs_r T 2 7 [some (.ref v0), some (.int v1), some (.int v2), some (.int v3), some (.int v4), none] [.int v1, .ref v0] rfl ?_
  refine fs_vI T 10 rfl rfl rfl rfl rfl rfl h0 (q_X12_isCircuit (d := d) hE h0) ?_
  intro x1 m2
  refine fs_if_eq T 17 13 rfl rfl rfl (fun _ => ?_) (fun _ => ?_)
  · refine fs_r T 2 19 [some (.ref v0), some (.int v1), some (.int v2), some (.int v3), some (.int v4), none] [.int (1 : Int32), .ref v0] rfl ?_
    refine fs_vI T 22 rfl rfl rfl rfl rfl rfl h0 (q_X12_fail (d := d + 1) hE h0) ?_
    intro x2 m3
    exact fs_reti T rfl rfl rfl
  · refine fs_r T 1 14 [some (.ref v0), some (.int v1), some (.int v2), some (.int v3), some (.int v4), none] [.int v3] rfl ?_
    refine fs_if_ge T 23 17 rfl rfl rfl (fun _ => ?_) (fun _ => ?_)
    · refine fs_r T 3 27 [some (.ref v0), some (.int v1), some (.int v2), some (.int v3), some (.int v4), none] [.int (2 : Int32), .int (0 : Int32), .int v4] rfl ?_
      refine fs_sI T 30 rfl rfl rfl rfl rfl rfl rfl (q_X12_isBetween (d := d + 1) hE ) ?_
      intro x3 m4
      refine fs_if_ne T 39 33 rfl rfl rfl (fun _ => ?_) (fun _ => ?_)
      · refine fs_r T 2 35 [some (.ref v0), some (.int v1), some (.int v2), some (.int v3), some (.int v4), none] [.int (2 : Int32), .ref v0] rfl ?_
        refine fs_vI T 38 rfl rfl rfl rfl rfl rfl h0 (q_X12_fail (d := d + 1) hE h0) ?_
        intro x4 m5
        exact fs_reti T rfl rfl rfl
      · refine fs_r T 2 41 [some (.ref v0), some (.int v1), some (.int v2), some (.int v3), some (.int v4), none] [.int v2, .int v1] rfl ?_
        refine fs_if_eq T 48 44 rfl rfl rfl (fun _ => ?_) (fun _ => ?_)
        · refine fs_r T 1 49 [some (.ref v0), some (.int v1), some (.int v2), some (.int v3), some (.int v4), none] [.int (0 : Int32), .int v1] rfl ?_
          refine fs_wk (ls' := [some (.ref v0), none, none, some (.int v3), some (.int v4), none]) ⟨rfl, rfl, rfl, trivial⟩ ?_
          exact w_X12_way_49 hE h0 _ _ _
        · refine fs_r T 2 49 [some (.ref v0), some (.int v1), some (.int v2), some (.int v3), some (.int v4), none] [.int (1 : Int32), .int v1] rfl ?_
          refine fs_wk (ls' := [some (.ref v0), none, none, some (.int v3), some (.int v4), none]) ⟨rfl, rfl, rfl, trivial⟩ ?_
          exact w_X12_way_49 hE h0 _ _ _
    · refine fs_r T 2 19 [some (.ref v0), some (.int v1), some (.int v2), some (.int v3), some (.int v4), none] [.int (1 : Int32), .ref v0] rfl ?_
      refine fs_vI T 22 rfl rfl rfl rfl rfl rfl h0 (q_X12_fail (d := d + 1) hE h0) ?_
      intro x5 m6
      exact fs_reti T rfl rfl rfl)
def f_X12_packet (H : fm_H) (v0 : Nat) (v1 : Int32) (v2 : Int32) (m : fm_M) : Option (Int32 × fm_M) :=
  fm_bd (fm_si m v0 7 (0 : Int32)) fun m1 =>
  if px_inb (6 : Int32) (fm_sz H (H.2.1 v0 0)) = true then
    fm_bn (f_X12_isBetween H v1 (0 : Int32) (m1.1 (H.2.1 v0 0) (6 : Int32).toNatClampNeg - (1 : Int32)) m1) fun x1 m2 =>
    if x1 = 0 then
      fm_bn (f_X12_fail H v0 (1 : Int32) m2) fun x5 m6 =>
      some (x5, m6)
    else
    fm_bn (f_X12_isBetween H v2 (0 : Int32) (6 : Int32) m2) fun x2 m3 =>
    if x2 = 0 then
      fm_bn (f_X12_fail H v0 (2 : Int32) m3) fun x3 m4 =>
      some (x3, m4)
    else
    fm_bn (f_X12_ofPacket H v0 v1 v2 m3) fun x4 m5 =>
    some (x4, m5)
  else none
set_option maxRecDepth 10000 in
theorem q_X12_packet {G : pm_G} {H : fm_H} {d : Nat} {z : Option Nat × Nat × Nat} {v0 : Nat} {v1 : Int32} {v2 : Int32} {m : fm_M} (hE : fm_E G H) (h0 : fm_is H v0 12) : fm_cal G H (d + 2) yX12_packet [.ref v0, .int v1, .int v2] z m fm_rI (f_X12_packet H v0 v1 v2 m) := fm_mth (d := d + 1) mt_X12_packet rfl rfl rfl (fun K => by
  show fm_o fm_rI (f_X12_packet H v0 v1 v2 m) K → fm_V G H (d + 1) RX12 cX12_packet (some (.int)) z K 0 [some (.ref v0), some (.int v1), some (.int v2)] [] m
  have T : fm_T RX12 cX12_packet tc_X12_packet fr_X12 mr_X12 cr_X12 lr_X12 := ⟨tok_X12, dc_X12_packet⟩
  unfold f_X12_packet
  refine fs_r T 2 2 [some (.ref v0), some (.int v1), some (.int v2)] [.int (0 : Int32), .ref v0] rfl ?_
  refine fs_pi T 5 12 7 v0 rfl rfl rfl rfl h0 ?_
  intro m1
  refine fs_r T 3 8 [some (.ref v0), some (.int v1), some (.int v2)] [.ref v0, .int (0 : Int32), .int v1] rfl ?_
  refine fs_gs T 11 12 0 v0 rfl rfl rfl rfl h0 ?_
  refine fs_r T 1 13 [some (.ref v0), some (.int v1), some (.int v2)] [.int (6 : Int32), .ref (H.2.1 v0 0), .int (0 : Int32), .int v1] rfl ?_
  refine fs_ai T 14 (H.2.1 v0 0) rfl rfl (hE.1 _ 12 0 h0) ?_
  refine fs_r T 2 16 [some (.ref v0), some (.int v1), some (.int v2)] [.int (m1.1 (H.2.1 v0 0) (6 : Int32).toNatClampNeg - (1 : Int32)), .int (0 : Int32), .int v1] rfl ?_
  refine fs_sI T 19 rfl rfl rfl rfl rfl rfl rfl (q_X12_isBetween (d := d) hE ) ?_
  intro x1 m2
  refine fs_if_ne T 28 22 rfl rfl rfl (fun _ => ?_) (fun _ => ?_)
  · refine fs_r T 2 24 [some (.ref v0), some (.int v1), some (.int v2)] [.int (1 : Int32), .ref v0] rfl ?_
    refine fs_vI T 27 rfl rfl rfl rfl rfl rfl h0 (q_X12_fail (d := d) hE h0) ?_
    intro x5 m6
    exact fs_reti T rfl rfl rfl
  · refine fs_r T 3 32 [some (.ref v0), some (.int v1), some (.int v2)] [.int (6 : Int32), .int (0 : Int32), .int v2] rfl ?_
    refine fs_sI T 35 rfl rfl rfl rfl rfl rfl rfl (q_X12_isBetween (d := d) hE ) ?_
    intro x2 m3
    refine fs_if_eq T 47 38 rfl rfl rfl (fun _ => ?_) (fun _ => ?_)
    · refine fs_r T 2 49 [some (.ref v0), some (.int v1), some (.int v2)] [.int (2 : Int32), .ref v0] rfl ?_
      refine fs_vI T 52 rfl rfl rfl rfl rfl rfl h0 (q_X12_fail (d := d) hE h0) ?_
      intro x3 m4
      exact fs_reti T rfl rfl rfl
    · refine fs_r T 3 41 [some (.ref v0), some (.int v1), some (.int v2)] [.int v2, .int v1, .ref v0] rfl ?_
      refine fs_vI T 44 rfl rfl rfl rfl rfl rfl h0 (q_X12_ofPacket (d := d) hE h0) ?_
      intro x4 m5
      refine fs_r T 1 52 [some (.ref v0), some (.int v1), some (.int v2)] [.int x4] rfl ?_
      exact fs_reti T rfl rfl rfl)
def f_X12_meanDelay_14 (H : fm_H) (v0 : Nat) (v1 : Int32) (s0 : Int32) (s1 : Nat) (m : fm_M) : Option (UInt64 × fm_M) :=
  fm_bd (fm_si m s1 7 s0) fun m1 =>
  if m1.1 v0 7 = 0 then
    fm_bn (f_X12_of H v0 v1 (7 : Int32) m1) fun x1 m2 =>
    if x1 = 0 then
      some ((13830554455654793216 : UInt64), m2)
    else
    fm_bn (f_X12_of H v0 v1 (11 : Int32) m2) fun x2 m3 =>
    if fm_n64 (FP.ddiv (FP.i2d x2) (FP.i2d x1)) = true then
      some (FP.ddiv (FP.i2d x2) (FP.i2d x1), m3)
    else none
  else
  some (FP.dconst0, m1)
set_option maxRecDepth 10000 in
theorem w_X12_meanDelay_14 {G : pm_G} {H : fm_H} {d : Nat} {z : Option Nat × Nat × Nat} {K : pm_R → fm_M → Prop} (hE : fm_E G H) {v0 : Nat} {v1 : Int32} (h0 : fm_is H v0 12) : ∀ (s0 : Int32) (s1 : Nat) (m : fm_M), fm_is H s1 12 → fm_o fm_rD (f_X12_meanDelay_14 H v0 v1 s0 s1 m) K → fm_V G H (d + 2) RX12 cX12_meanDelay (some (.double)) z K 14 [some (.ref v0), some (.int v1), none] [.int s0, .ref s1] m := by
  have T : fm_T RX12 cX12_meanDelay tc_X12_meanDelay fr_X12 mr_X12 cr_X12 lr_X12 := ⟨tok_X12, dc_X12_meanDelay⟩
  intro s0 s1 m hs1
  unfold f_X12_meanDelay_14
  refine fs_pi T 17 12 7 s1 rfl rfl rfl rfl hs1 ?_
  intro m1
  refine fs_r T 1 18 [some (.ref v0), some (.int v1), none] [.ref v0] rfl ?_
  refine fs_gi T 21 12 7 v0 rfl rfl rfl rfl h0 ?_
  refine fs_if_eq T 26 24 rfl rfl rfl (fun _ => ?_) (fun _ => ?_)
  · refine fs_r T 3 30 [some (.ref v0), some (.int v1), none] [.int (7 : Int32), .int v1, .ref v0] rfl ?_
    refine fs_vI T 33 rfl rfl rfl rfl rfl rfl h0 (q_X12_of (d := d + 1) hE h0) ?_
    intro x1 m2
    refine fs_r T 2 35 [some (.ref v0), some (.int v1), some (.int x1)] [.int x1] rfl ?_
    refine fs_if_ne T 44 38 rfl rfl rfl (fun _ => ?_) (fun _ => ?_)
    · refine fs_ldcD T 41 (idx := 389) (v := 13830554455654793216) rfl (pt_w_in (i := 2124) (by decide +kernel)) rfl ?_
      refine fs_r T 1 55 [some (.ref v0), some (.int v1), some (.int x1)] [.double (13830554455654793216 : UInt64)] rfl ?_
      exact fs_retd T rfl rfl rfl
    · refine fs_r T 3 48 [some (.ref v0), some (.int v1), some (.int x1)] [.int (11 : Int32), .int v1, .ref v0] rfl ?_
      refine fs_vI T 51 rfl rfl rfl rfl rfl rfl h0 (q_X12_of (d := d + 1) hE h0) ?_
      intro x2 m3
      refine fs_r T 3 54 [some (.ref v0), some (.int v1), some (.int x1)] [.double (FP.i2d x1), .double (FP.i2d x2)] rfl ?_
      refine fs_ddiv T 55 rfl rfl ?_
      exact fs_retd T rfl rfl rfl
  · refine fs_r T 1 25 [some (.ref v0), some (.int v1), none] [.double FP.dconst0] rfl ?_
    exact fs_retd T rfl rfl rfl
def f_X12_meanDelay (H : fm_H) (v0 : Nat) (v1 : Int32) (m : fm_M) : Option (UInt64 × fm_M) :=
  fm_bn (f_X12_isCircuit H v0 v1 m) fun x1 m1 =>
  if x1 = 0 then
    f_X12_meanDelay_14 H v0 v1 (1 : Int32) v0 m1
  else
  f_X12_meanDelay_14 H v0 v1 (0 : Int32) v0 m1
set_option maxRecDepth 10000 in
theorem q_X12_meanDelay {G : pm_G} {H : fm_H} {d : Nat} {z : Option Nat × Nat × Nat} {v0 : Nat} {v1 : Int32} {m : fm_M} (hE : fm_E G H) (h0 : fm_is H v0 12) : fm_cal G H (d + 3) yX12_meanDelay [.ref v0, .int v1] z m fm_rD (f_X12_meanDelay H v0 v1 m) := fm_mth (d := d + 2) mt_X12_meanDelay rfl rfl rfl (fun K => by
  show fm_o fm_rD (f_X12_meanDelay H v0 v1 m) K → fm_V G H (d + 2) RX12 cX12_meanDelay (some (.double)) z K 0 [some (.ref v0), some (.int v1), none] [] m
  have T : fm_T RX12 cX12_meanDelay tc_X12_meanDelay fr_X12 mr_X12 cr_X12 lr_X12 := ⟨tok_X12, dc_X12_meanDelay⟩
  unfold f_X12_meanDelay
  refine fs_r T 3 3 [some (.ref v0), some (.int v1), none] [.int v1, .ref v0, .ref v0] rfl ?_
  refine fs_vI T 6 rfl rfl rfl rfl rfl rfl h0 (q_X12_isCircuit (d := d) hE h0) ?_
  intro x1 m1
  refine fs_if_eq T 13 9 rfl rfl rfl (fun _ => ?_) (fun _ => ?_)
  · refine fs_r T 1 14 [some (.ref v0), some (.int v1), none] [.int (1 : Int32), .ref v0] rfl ?_
    exact w_X12_meanDelay_14 hE h0 _ _ _ h0
  · refine fs_r T 2 14 [some (.ref v0), some (.int v1), none] [.int (0 : Int32), .ref v0] rfl ?_
    exact w_X12_meanDelay_14 hE h0 _ _ _ h0)
def f_X12_usage_11 (H : fm_H) (v0 : Nat) : Nat → Int32 → Int32 → Int32 → fm_M → Option (UInt32 × fm_M)
  | 0, _, _, _, _ => none
  | n + 1, v1, v2, v3, m =>
    if px_inb (3 : Int32) (fm_sz H (H.2.1 v0 0)) = true then
      if m.1 (H.2.1 v0 0) (3 : Int32).toNatClampNeg ≤ v3 then
        if v2 = 0 then
          some (FP.fconst0, m)
        else
        if fm_n32 (FP.fdiv (FP.i2f v1) (FP.i2f v2)) = true then
          some (FP.fdiv (FP.i2f v1) (FP.i2f v2), m)
        else none
      else
      fm_bn (f_X12_reserved H v0 v3 (-1 : Int32) m) fun x1 m1 =>
      fm_bn (f_X12_ofLink H v0 v3 (2 : Int32) m1) fun x2 m2 =>
      f_X12_usage_11 H v0 n (v1 + x1) (v2 + x2) (v3 + 1) m2
    else none
set_option maxRecDepth 10000 in
theorem w_X12_usage_11 {G : pm_G} {H : fm_H} {d : Nat} {z : Option Nat × Nat × Nat} {K : pm_R → fm_M → Prop} (hE : fm_E G H) {v0 : Nat} (h0 : fm_is H v0 12) : ∀ (n : Nat) (v1 : Int32) (v2 : Int32) (v3 : Int32) (m : fm_M), fm_o fm_rF (f_X12_usage_11 H v0 n v1 v2 v3 m) K → fm_V G H (d + 4) RX12 cX12_usage (some (.float)) z K 11 [some (.ref v0), some (.int v1), some (.int v2), some (.int v3)] [] m := by
  have T : fm_T RX12 cX12_usage tc_X12_usage fr_X12 mr_X12 cr_X12 lr_X12 := ⟨tok_X12, dc_X12_usage⟩
  intro n
  induction n with
  | zero =>
    intro v1 v2 v3 m 
    exact fs_none
  | succ n ih =>
    intro v1 v2 v3 m 
    unfold f_X12_usage_11
    refine fs_r T 2 13 [some (.ref v0), some (.int v1), some (.int v2), some (.int v3)] [.ref v0, .int v3] rfl ?_
    refine fs_gs T 16 12 0 v0 rfl rfl rfl rfl h0 ?_
    refine fs_r T 1 17 [some (.ref v0), some (.int v1), some (.int v2), some (.int v3)] [.int (3 : Int32), .ref (H.2.1 v0 0), .int v3] rfl ?_
    refine fs_ai T 18 (H.2.1 v0 0) rfl rfl (hE.1 _ 12 0 h0) ?_
    refine fs_ic_ge T 45 21 rfl rfl rfl (fun _ => ?_) (fun _ => ?_)
    · refine fs_r T 1 46 [some (.ref v0), some (.int v1), some (.int v2), some (.int v3)] [.int v2] rfl ?_
      refine fs_if_ne T 53 49 rfl rfl rfl (fun _ => ?_) (fun _ => ?_)
      · refine fs_r T 2 58 [some (.ref v0), some (.int v1), some (.int v2), some (.int v3)] [.float FP.fconst0] rfl ?_
        exact fs_retf T rfl rfl rfl
      · refine fs_r T 4 57 [some (.ref v0), some (.int v1), some (.int v2), some (.int v3)] [.float (FP.i2f v2), .float (FP.i2f v1)] rfl ?_
        refine fs_fdiv T 58 rfl rfl ?_
        exact fs_retf T rfl rfl rfl
    · refine fs_r T 4 25 [some (.ref v0), some (.int v1), some (.int v2), some (.int v3)] [.int (-1 : Int32), .int v3, .ref v0, .int v1] rfl ?_
      refine fs_vI T 28 rfl rfl rfl rfl rfl rfl h0 (q_X12_reserved (d := d) hE h0) ?_
      intro x1 m1
      refine fs_r T 6 34 [some (.ref v0), some (.int (v1 + x1)), some (.int v2), some (.int v3)] [.int (2 : Int32), .int v3, .ref v0, .int v2] rfl ?_
      refine fs_vI T 37 rfl rfl rfl rfl rfl rfl h0 (q_X12_ofLink (d := d + 3) hE h0) ?_
      intro x2 m2
      refine fs_r T 4 11 [some (.ref v0), some (.int (v1 + x1)), some (.int (v2 + x2)), some (.int (v3 + 1))] [] rfl ?_
      exact ih _ _ _ _
def f_X12_usage (H : fm_H) (v0 : Nat) (m : fm_M) : Option (UInt32 × fm_M) :=
  fm_bd (fm_si m v0 7 (0 : Int32)) fun m1 =>
  f_X12_usage_11 H v0 fm_N (0 : Int32) (0 : Int32) (0 : Int32) m1
set_option maxRecDepth 10000 in
theorem q_X12_usage {G : pm_G} {H : fm_H} {d : Nat} {z : Option Nat × Nat × Nat} {v0 : Nat} {m : fm_M} (hE : fm_E G H) (h0 : fm_is H v0 12) : fm_cal G H (d + 5) yX12_usage [.ref v0] z m fm_rF (f_X12_usage H v0 m) := fm_mth (d := d + 4) mt_X12_usage rfl rfl rfl (fun K => by
  show fm_o fm_rF (f_X12_usage H v0 m) K → fm_V G H (d + 4) RX12 cX12_usage (some (.float)) z K 0 [some (.ref v0), none, none, none] [] m
  have T : fm_T RX12 cX12_usage tc_X12_usage fr_X12 mr_X12 cr_X12 lr_X12 := ⟨tok_X12, dc_X12_usage⟩
  unfold f_X12_usage
  refine fs_r T 2 2 [some (.ref v0), none, none, none] [.int (0 : Int32), .ref v0] rfl ?_
  refine fs_pi T 5 12 7 v0 rfl rfl rfl rfl h0 ?_
  intro m1
  refine fs_r T 6 11 [some (.ref v0), some (.int (0 : Int32)), some (.int (0 : Int32)), some (.int (0 : Int32))] [] rfl ?_
  exact w_X12_usage_11 hE h0 _ _ _ _ _)
def f_X12_canMove_32 (H : fm_H) (v0 : Nat) (v1 : Int32) (v2 : Int32) (m : fm_M) : Option (Int32 × fm_M) :=
  fm_bn (f_X12_copy H (H.2.1 v0 0) (0 : Int32) (H.2.1 v0 2) (0 : Int32) m) fun _ m1 =>
  fm_bn (f_X12_moveToBest H v0 v1 v2 m1) fun x2 m2 =>
  fm_bn (f_X12_copy H (H.2.1 v0 2) (0 : Int32) (H.2.1 v0 0) (0 : Int32) m2) fun _ m3 =>
  some (x2, m3)
set_option maxRecDepth 10000 in
theorem w_X12_canMove_32 {G : pm_G} {H : fm_H} {d : Nat} {z : Option Nat × Nat × Nat} {K : pm_R → fm_M → Prop} (hE : fm_E G H) {v0 : Nat} {v1 : Int32} {v2 : Int32} (h0 : fm_is H v0 12) : ∀ (m : fm_M), fm_o fm_rI (f_X12_canMove_32 H v0 v1 v2 m) K → fm_V G H (d + 8) RX12 cX12_canMove (some (.int)) z K 32 [some (.ref v0), some (.int v1), some (.int v2), none] [] m := by
  have T : fm_T RX12 cX12_canMove tc_X12_canMove fr_X12 mr_X12 cr_X12 lr_X12 := ⟨tok_X12, dc_X12_canMove⟩
  intro m
  unfold f_X12_canMove_32
  refine fs_r T 1 33 [some (.ref v0), some (.int v1), some (.int v2), none] [.ref v0] rfl ?_
  refine fs_gs T 36 12 0 v0 rfl rfl rfl rfl h0 ?_
  refine fs_r T 2 38 [some (.ref v0), some (.int v1), some (.int v2), none] [.ref v0, .int (0 : Int32), .ref (H.2.1 v0 0)] rfl ?_
  refine fs_gs T 41 12 2 v0 rfl rfl rfl rfl h0 ?_
  refine fs_r T 1 42 [some (.ref v0), some (.int v1), some (.int v2), none] [.int (0 : Int32), .ref (H.2.1 v0 2), .int (0 : Int32), .ref (H.2.1 v0 0)] rfl ?_
  refine fs_sV T 45 rfl rfl rfl rfl rfl rfl rfl (q_X12_copy (d := d + 7) hE (hE.1 _ 12 0 h0) (hE.1 _ 12 2 h0)) ?_
  intro x1 m1
  refine fs_r T 3 48 [some (.ref v0), some (.int v1), some (.int v2), none] [.int v2, .int v1, .ref v0] rfl ?_
  refine fs_vI T 51 rfl rfl rfl rfl rfl rfl h0 (q_X12_moveToBest (d := d) hE h0) ?_
  intro x2 m2
  refine fs_r T 2 53 [some (.ref v0), some (.int v1), some (.int v2), some (.int x2)] [.ref v0] rfl ?_
  refine fs_gs T 56 12 2 v0 rfl rfl rfl rfl h0 ?_
  refine fs_r T 2 58 [some (.ref v0), some (.int v1), some (.int v2), some (.int x2)] [.ref v0, .int (0 : Int32), .ref (H.2.1 v0 2)] rfl ?_
  refine fs_gs T 61 12 0 v0 rfl rfl rfl rfl h0 ?_
  refine fs_r T 1 62 [some (.ref v0), some (.int v1), some (.int v2), some (.int x2)] [.int (0 : Int32), .ref (H.2.1 v0 0), .int (0 : Int32), .ref (H.2.1 v0 2)] rfl ?_
  refine fs_sV T 65 rfl rfl rfl rfl rfl rfl rfl (q_X12_copy (d := d + 7) hE (hE.1 _ 12 2 h0) (hE.1 _ 12 0 h0)) ?_
  intro x3 m3
  refine fs_r T 1 66 [some (.ref v0), some (.int v1), some (.int v2), some (.int x2)] [.int x2] rfl ?_
  exact fs_reti T rfl rfl rfl
def f_X12_canMove (H : fm_H) (v0 : Nat) (v1 : Int32) (v2 : Int32) (m : fm_M) : Option (Int32 × fm_M) :=
  fm_bd (fm_si m v0 7 (0 : Int32)) fun m1 =>
  fm_bn (f_X12_isCircuit H v0 v1 m1) fun x1 m2 =>
  if x1 = 0 then
    fm_bn (f_X12_fail H v0 (1 : Int32) m2) fun x2 m3 =>
    some (x2, m3)
  else
  if v2 = (-1 : Int32) then
    f_X12_canMove_32 H v0 v1 v2 m2
  else
  fm_bn (f_X12_isLink H v0 v2 m2) fun x3 m4 =>
  if x3 = 0 then
    fm_bn (f_X12_fail H v0 (1 : Int32) m4) fun x4 m5 =>
    some (x4, m5)
  else
  f_X12_canMove_32 H v0 v1 v2 m4
set_option maxRecDepth 10000 in
theorem q_X12_canMove {G : pm_G} {H : fm_H} {d : Nat} {z : Option Nat × Nat × Nat} {v0 : Nat} {v1 : Int32} {v2 : Int32} {m : fm_M} (hE : fm_E G H) (h0 : fm_is H v0 12) : fm_cal G H (d + 9) yX12_canMove [.ref v0, .int v1, .int v2] z m fm_rI (f_X12_canMove H v0 v1 v2 m) := fm_mth (d := d + 8) mt_X12_canMove rfl rfl rfl (fun K => by
  show fm_o fm_rI (f_X12_canMove H v0 v1 v2 m) K → fm_V G H (d + 8) RX12 cX12_canMove (some (.int)) z K 0 [some (.ref v0), some (.int v1), some (.int v2), none] [] m
  have T : fm_T RX12 cX12_canMove tc_X12_canMove fr_X12 mr_X12 cr_X12 lr_X12 := ⟨tok_X12, dc_X12_canMove⟩
  unfold f_X12_canMove
  refine fs_r T 2 2 [some (.ref v0), some (.int v1), some (.int v2), none] [.int (0 : Int32), .ref v0] rfl ?_
  refine fs_pi T 5 12 7 v0 rfl rfl rfl rfl h0 ?_
  intro m1
  refine fs_r T 2 7 [some (.ref v0), some (.int v1), some (.int v2), none] [.int v1, .ref v0] rfl ?_
  refine fs_vI T 10 rfl rfl rfl rfl rfl rfl h0 (q_X12_isCircuit (d := d + 6) hE h0) ?_
  intro x1 m2
  refine fs_if_eq T 26 13 rfl rfl rfl (fun _ => ?_) (fun _ => ?_)
  · refine fs_r T 2 28 [some (.ref v0), some (.int v1), some (.int v2), none] [.int (1 : Int32), .ref v0] rfl ?_
    refine fs_vI T 31 rfl rfl rfl rfl rfl rfl h0 (q_X12_fail (d := d + 7) hE h0) ?_
    intro x2 m3
    exact fs_reti T rfl rfl rfl
  · refine fs_r T 2 15 [some (.ref v0), some (.int v1), some (.int v2), none] [.int (-1 : Int32), .int v2] rfl ?_
    refine fs_ic_eq T 32 18 rfl rfl rfl (fun _ => ?_) (fun _ => ?_)
    · exact w_X12_canMove_32 hE h0 _
    · refine fs_r T 2 20 [some (.ref v0), some (.int v1), some (.int v2), none] [.int v2, .ref v0] rfl ?_
      refine fs_vI T 23 rfl rfl rfl rfl rfl rfl h0 (q_X12_isLink (d := d + 6) hE h0) ?_
      intro x3 m4
      refine fs_if_ne T 32 26 rfl rfl rfl (fun _ => ?_) (fun _ => ?_)
      · refine fs_r T 2 28 [some (.ref v0), some (.int v1), some (.int v2), none] [.int (1 : Int32), .ref v0] rfl ?_
        refine fs_vI T 31 rfl rfl rfl rfl rfl rfl h0 (q_X12_fail (d := d + 7) hE h0) ?_
        intro x4 m5
        exact fs_reti T rfl rfl rfl
      · exact w_X12_canMove_32 hE h0 _)
def f_X12_movedIn_34 (H : fm_H) (v0 : Nat) (v1 : Int32) : Nat → Int32 → fm_M → Option (Int32 × fm_M)
  | 0, _, _ => none
  | n + 1, v2, m =>
    fm_bn (f_X12_of H v0 v1 (2 : Int32) m) fun x1 m1 =>
    if x1 ≤ 0 then
      fm_bn (f_X12_copy H (H.2.1 v0 2) (0 : Int32) (H.2.1 v0 0) (0 : Int32) m1) fun _ m2 =>
      some (v2, m2)
    else
    fm_bn (f_X12_passTick H v0 m1) fun _ m3 =>
    f_X12_movedIn_34 H v0 v1 n (v2 + 1) m3
set_option maxRecDepth 10000 in
theorem w_X12_movedIn_34 {G : pm_G} {H : fm_H} {d : Nat} {z : Option Nat × Nat × Nat} {K : pm_R → fm_M → Prop} (hE : fm_E G H) {v0 : Nat} {v1 : Int32} (h0 : fm_is H v0 12) : ∀ (n : Nat) (v2 : Int32) (m : fm_M), fm_o fm_rI (f_X12_movedIn_34 H v0 v1 n v2 m) K → fm_V G H (d + 6) RX12 cX12_movedIn (some (.int)) z K 34 [some (.ref v0), some (.int v1), some (.int v2)] [] m := by
  have T : fm_T RX12 cX12_movedIn tc_X12_movedIn fr_X12 mr_X12 cr_X12 lr_X12 := ⟨tok_X12, dc_X12_movedIn⟩
  intro n
  induction n with
  | zero =>
    intro v2 m 
    exact fs_none
  | succ n ih =>
    intro v2 m 
    unfold f_X12_movedIn_34
    refine fs_r T 3 37 [some (.ref v0), some (.int v1), some (.int v2)] [.int (2 : Int32), .int v1, .ref v0] rfl ?_
    refine fs_vI T 40 rfl rfl rfl rfl rfl rfl h0 (q_X12_of (d := d + 5) hE h0) ?_
    intro x1 m1
    refine fs_if_le T 53 43 rfl rfl rfl (fun _ => ?_) (fun _ => ?_)
    · refine fs_r T 1 54 [some (.ref v0), some (.int v1), some (.int v2)] [.ref v0] rfl ?_
      refine fs_gs T 57 12 2 v0 rfl rfl rfl rfl h0 ?_
      refine fs_r T 2 59 [some (.ref v0), some (.int v1), some (.int v2)] [.ref v0, .int (0 : Int32), .ref (H.2.1 v0 2)] rfl ?_
      refine fs_gs T 62 12 0 v0 rfl rfl rfl rfl h0 ?_
      refine fs_r T 1 63 [some (.ref v0), some (.int v1), some (.int v2)] [.int (0 : Int32), .ref (H.2.1 v0 0), .int (0 : Int32), .ref (H.2.1 v0 2)] rfl ?_
      refine fs_sV T 66 rfl rfl rfl rfl rfl rfl rfl (q_X12_copy (d := d + 5) hE (hE.1 _ 12 2 h0) (hE.1 _ 12 0 h0)) ?_
      intro x2 m2
      refine fs_r T 1 67 [some (.ref v0), some (.int v1), some (.int v2)] [.int v2] rfl ?_
      exact fs_reti T rfl rfl rfl
    · refine fs_r T 1 44 [some (.ref v0), some (.int v1), some (.int v2)] [.ref v0] rfl ?_
      refine fs_vV T 47 rfl rfl rfl rfl rfl rfl h0 (q_X12_passTick (d := d) hE h0) ?_
      intro x3 m3
      refine fs_r T 2 34 [some (.ref v0), some (.int v1), some (.int (v2 + 1))] [] rfl ?_
      exact ih _ _
def f_X12_movedIn (H : fm_H) (v0 : Nat) (v1 : Int32) (m : fm_M) : Option (Int32 × fm_M) :=
  fm_bd (fm_si m v0 7 (0 : Int32)) fun m1 =>
  fm_bn (f_X12_isCircuit H v0 v1 m1) fun x1 m2 =>
  if x1 = 0 then
    fm_bn (f_X12_fail H v0 (1 : Int32) m2) fun x3 m4 =>
    some (x3, m4)
  else
  fm_bn (f_X12_copy H (H.2.1 v0 0) (0 : Int32) (H.2.1 v0 2) (0 : Int32) m2) fun _ m3 =>
  f_X12_movedIn_34 H v0 v1 fm_N (0 : Int32) m3
set_option maxRecDepth 10000 in
theorem q_X12_movedIn {G : pm_G} {H : fm_H} {d : Nat} {z : Option Nat × Nat × Nat} {v0 : Nat} {v1 : Int32} {m : fm_M} (hE : fm_E G H) (h0 : fm_is H v0 12) : fm_cal G H (d + 7) yX12_movedIn [.ref v0, .int v1] z m fm_rI (f_X12_movedIn H v0 v1 m) := fm_mth (d := d + 6) mt_X12_movedIn rfl rfl rfl (fun K => by
  show fm_o fm_rI (f_X12_movedIn H v0 v1 m) K → fm_V G H (d + 6) RX12 cX12_movedIn (some (.int)) z K 0 [some (.ref v0), some (.int v1), none] [] m
  have T : fm_T RX12 cX12_movedIn tc_X12_movedIn fr_X12 mr_X12 cr_X12 lr_X12 := ⟨tok_X12, dc_X12_movedIn⟩
  unfold f_X12_movedIn
  refine fs_r T 2 2 [some (.ref v0), some (.int v1), none] [.int (0 : Int32), .ref v0] rfl ?_
  refine fs_pi T 5 12 7 v0 rfl rfl rfl rfl h0 ?_
  intro m1
  refine fs_r T 2 7 [some (.ref v0), some (.int v1), none] [.int v1, .ref v0] rfl ?_
  refine fs_vI T 10 rfl rfl rfl rfl rfl rfl h0 (q_X12_isCircuit (d := d + 4) hE h0) ?_
  intro x1 m2
  refine fs_if_ne T 19 13 rfl rfl rfl (fun _ => ?_) (fun _ => ?_)
  · refine fs_r T 2 15 [some (.ref v0), some (.int v1), none] [.int (1 : Int32), .ref v0] rfl ?_
    refine fs_vI T 18 rfl rfl rfl rfl rfl rfl h0 (q_X12_fail (d := d + 5) hE h0) ?_
    intro x3 m4
    exact fs_reti T rfl rfl rfl
  · refine fs_r T 1 20 [some (.ref v0), some (.int v1), none] [.ref v0] rfl ?_
    refine fs_gs T 23 12 0 v0 rfl rfl rfl rfl h0 ?_
    refine fs_r T 2 25 [some (.ref v0), some (.int v1), none] [.ref v0, .int (0 : Int32), .ref (H.2.1 v0 0)] rfl ?_
    refine fs_gs T 28 12 2 v0 rfl rfl rfl rfl h0 ?_
    refine fs_r T 1 29 [some (.ref v0), some (.int v1), none] [.int (0 : Int32), .ref (H.2.1 v0 2), .int (0 : Int32), .ref (H.2.1 v0 0)] rfl ?_
    refine fs_sV T 32 rfl rfl rfl rfl rfl rfl rfl (q_X12_copy (d := d + 5) hE (hE.1 _ 12 0 h0) (hE.1 _ 12 2 h0)) ?_
    intro x2 m3
    refine fs_r T 2 34 [some (.ref v0), some (.int v1), some (.int (0 : Int32))] [] rfl ?_
    exact w_X12_movedIn_34 hE h0 _ _ _)
def f_X12_ahead_62 (H : fm_H) (v0 : Nat) (v1 : Int32) (s0 : Int32) (m : fm_M) : Option (Int32 × fm_M) :=
  fm_bn (f_X12_copy H (H.2.1 v0 0) (0 : Int32) (H.2.1 v0 2) (0 : Int32) m) fun _ m1 =>
  if px_inb s0 (fm_sz H (H.2.1 v0 0)) = true then
    fm_bn (f_X12_passTicks H v0 v1 m1) fun _ m2 =>
    if px_inb s0 (fm_sz H (H.2.1 v0 0)) = true then
      fm_bn (f_X12_copy H (H.2.1 v0 2) (0 : Int32) (H.2.1 v0 0) (0 : Int32) m2) fun _ m3 =>
      some ((m2.1 (H.2.1 v0 0) s0.toNatClampNeg - m1.1 (H.2.1 v0 0) s0.toNatClampNeg), m3)
    else none
  else none
set_option maxRecDepth 10000 in
theorem w_X12_ahead_62 {G : pm_G} {H : fm_H} {d : Nat} {z : Option Nat × Nat × Nat} {K : pm_R → fm_M → Prop} (hE : fm_E G H) {v0 : Nat} {v1 : Int32} (h0 : fm_is H v0 12) : ∀ (s0 : Int32) (m : fm_M), fm_o fm_rI (f_X12_ahead_62 H v0 v1 s0 m) K → fm_V G H (d + 7) RX12 cX12_ahead (some (.int)) z K 62 [some (.ref v0), some (.int v1), none, none, none, none] [.int s0] m := by
  have T : fm_T RX12 cX12_ahead tc_X12_ahead fr_X12 mr_X12 cr_X12 lr_X12 := ⟨tok_X12, dc_X12_ahead⟩
  intro s0 m
  unfold f_X12_ahead_62
  refine fs_r T 2 64 [some (.ref v0), some (.int v1), none, some (.int s0), none, none] [.ref v0] rfl ?_
  refine fs_gs T 67 12 0 v0 rfl rfl rfl rfl h0 ?_
  refine fs_r T 2 69 [some (.ref v0), some (.int v1), none, some (.int s0), none, none] [.ref v0, .int (0 : Int32), .ref (H.2.1 v0 0)] rfl ?_
  refine fs_gs T 72 12 2 v0 rfl rfl rfl rfl h0 ?_
  refine fs_r T 1 73 [some (.ref v0), some (.int v1), none, some (.int s0), none, none] [.int (0 : Int32), .ref (H.2.1 v0 2), .int (0 : Int32), .ref (H.2.1 v0 0)] rfl ?_
  refine fs_sV T 76 rfl rfl rfl rfl rfl rfl rfl (q_X12_copy (d := d + 6) hE (hE.1 _ 12 0 h0) (hE.1 _ 12 2 h0)) ?_
  intro x1 m1
  refine fs_r T 1 77 [some (.ref v0), some (.int v1), none, some (.int s0), none, none] [.ref v0] rfl ?_
  refine fs_gs T 80 12 0 v0 rfl rfl rfl rfl h0 ?_
  refine fs_r T 1 81 [some (.ref v0), some (.int v1), none, some (.int s0), none, none] [.int s0, .ref (H.2.1 v0 0)] rfl ?_
  refine fs_ai T 82 (H.2.1 v0 0) rfl rfl (hE.1 _ 12 0 h0) ?_
  refine fs_r T 3 86 [some (.ref v0), some (.int v1), none, some (.int s0), some (.int (m1.1 (H.2.1 v0 0) s0.toNatClampNeg)), none] [.int v1, .ref v0] rfl ?_
  refine fs_vV T 89 rfl rfl rfl rfl rfl rfl h0 (q_X12_passTicks (d := d) hE h0) ?_
  intro x2 m2
  refine fs_r T 1 90 [some (.ref v0), some (.int v1), none, some (.int s0), some (.int (m1.1 (H.2.1 v0 0) s0.toNatClampNeg)), none] [.ref v0] rfl ?_
  refine fs_gs T 93 12 0 v0 rfl rfl rfl rfl h0 ?_
  refine fs_r T 1 94 [some (.ref v0), some (.int v1), none, some (.int s0), some (.int (m1.1 (H.2.1 v0 0) s0.toNatClampNeg)), none] [.int s0, .ref (H.2.1 v0 0)] rfl ?_
  refine fs_ai T 95 (H.2.1 v0 0) rfl rfl (hE.1 _ 12 0 h0) ?_
  refine fs_r T 4 101 [some (.ref v0), some (.int v1), none, some (.int s0), some (.int (m1.1 (H.2.1 v0 0) s0.toNatClampNeg)), some (.int (m2.1 (H.2.1 v0 0) s0.toNatClampNeg - m1.1 (H.2.1 v0 0) s0.toNatClampNeg))] [.ref v0] rfl ?_
  refine fs_gs T 104 12 2 v0 rfl rfl rfl rfl h0 ?_
  refine fs_r T 2 106 [some (.ref v0), some (.int v1), none, some (.int s0), some (.int (m1.1 (H.2.1 v0 0) s0.toNatClampNeg)), some (.int (m2.1 (H.2.1 v0 0) s0.toNatClampNeg - m1.1 (H.2.1 v0 0) s0.toNatClampNeg))] [.ref v0, .int (0 : Int32), .ref (H.2.1 v0 2)] rfl ?_
  refine fs_gs T 109 12 0 v0 rfl rfl rfl rfl h0 ?_
  refine fs_r T 1 110 [some (.ref v0), some (.int v1), none, some (.int s0), some (.int (m1.1 (H.2.1 v0 0) s0.toNatClampNeg)), some (.int (m2.1 (H.2.1 v0 0) s0.toNatClampNeg - m1.1 (H.2.1 v0 0) s0.toNatClampNeg))] [.int (0 : Int32), .ref (H.2.1 v0 0), .int (0 : Int32), .ref (H.2.1 v0 2)] rfl ?_
  refine fs_sV T 113 rfl rfl rfl rfl rfl rfl rfl (q_X12_copy (d := d + 6) hE (hE.1 _ 12 2 h0) (hE.1 _ 12 0 h0)) ?_
  intro x3 m3
  refine fs_r T 1 115 [some (.ref v0), some (.int v1), none, some (.int s0), some (.int (m1.1 (H.2.1 v0 0) s0.toNatClampNeg)), some (.int (m2.1 (H.2.1 v0 0) s0.toNatClampNeg - m1.1 (H.2.1 v0 0) s0.toNatClampNeg))] [.int (m2.1 (H.2.1 v0 0) s0.toNatClampNeg - m1.1 (H.2.1 v0 0) s0.toNatClampNeg)] rfl ?_
  exact fs_reti T rfl rfl rfl
def f_X12_ahead (H : fm_H) (v0 : Nat) (v1 : Int32) (v2 : Int32) (m : fm_M) : Option (Int32 × fm_M) :=
  fm_bd (fm_si m v0 7 (0 : Int32)) fun m1 =>
  fm_bn (f_X12_isBetween H v1 (1 : Int32) (200 : Int32) m1) fun x1 m2 =>
  if x1 = 0 then
    fm_bn (f_X12_fail H v0 (1 : Int32) m2) fun x2 m3 =>
    some (x2, m3)
  else
  fm_bn (f_X12_isBetween H v2 (0 : Int32) (3 : Int32) m2) fun x3 m4 =>
  if x3 = 0 then
    fm_bn (f_X12_fail H v0 (1 : Int32) m4) fun x4 m5 =>
    some (x4, m5)
  else
  if v2 = 0 then
    f_X12_ahead_62 H v0 v1 (8 : Int32) m4
  else
  if v2 = (1 : Int32) then
    f_X12_ahead_62 H v0 v1 (9 : Int32) m4
  else
  if v2 = (2 : Int32) then
    f_X12_ahead_62 H v0 v1 (11 : Int32) m4
  else
  f_X12_ahead_62 H v0 v1 (10 : Int32) m4
set_option maxRecDepth 10000 in
theorem q_X12_ahead {G : pm_G} {H : fm_H} {d : Nat} {z : Option Nat × Nat × Nat} {v0 : Nat} {v1 : Int32} {v2 : Int32} {m : fm_M} (hE : fm_E G H) (h0 : fm_is H v0 12) : fm_cal G H (d + 8) yX12_ahead [.ref v0, .int v1, .int v2] z m fm_rI (f_X12_ahead H v0 v1 v2 m) := fm_mth (d := d + 7) mt_X12_ahead rfl rfl rfl (fun K => by
  show fm_o fm_rI (f_X12_ahead H v0 v1 v2 m) K → fm_V G H (d + 7) RX12 cX12_ahead (some (.int)) z K 0 [some (.ref v0), some (.int v1), some (.int v2), none, none, none] [] m
  have T : fm_T RX12 cX12_ahead tc_X12_ahead fr_X12 mr_X12 cr_X12 lr_X12 := ⟨tok_X12, dc_X12_ahead⟩
  unfold f_X12_ahead
  refine fs_r T 2 2 [some (.ref v0), some (.int v1), some (.int v2), none, none, none] [.int (0 : Int32), .ref v0] rfl ?_
  refine fs_pi T 5 12 7 v0 rfl rfl rfl rfl h0 ?_
  intro m1
  refine fs_r T 3 10 [some (.ref v0), some (.int v1), some (.int v2), none, none, none] [.int (200 : Int32), .int (1 : Int32), .int v1] rfl ?_
  refine fs_sI T 13 rfl rfl rfl rfl rfl rfl rfl (q_X12_isBetween (d := d + 6) hE ) ?_
  intro x1 m2
  refine fs_if_eq T 25 16 rfl rfl rfl (fun _ => ?_) (fun _ => ?_)
  · refine fs_r T 2 27 [some (.ref v0), some (.int v1), some (.int v2), none, none, none] [.int (1 : Int32), .ref v0] rfl ?_
    refine fs_vI T 30 rfl rfl rfl rfl rfl rfl h0 (q_X12_fail (d := d + 6) hE h0) ?_
    intro x2 m3
    exact fs_reti T rfl rfl rfl
  · refine fs_r T 3 19 [some (.ref v0), some (.int v1), some (.int v2), none, none, none] [.int (3 : Int32), .int (0 : Int32), .int v2] rfl ?_
    refine fs_sI T 22 rfl rfl rfl rfl rfl rfl rfl (q_X12_isBetween (d := d + 6) hE ) ?_
    intro x3 m4
    refine fs_if_ne T 31 25 rfl rfl rfl (fun _ => ?_) (fun _ => ?_)
    · refine fs_r T 2 27 [some (.ref v0), some (.int v1), some (.int v2), none, none, none] [.int (1 : Int32), .ref v0] rfl ?_
      refine fs_vI T 30 rfl rfl rfl rfl rfl rfl h0 (q_X12_fail (d := d + 6) hE h0) ?_
      intro x4 m5
      exact fs_reti T rfl rfl rfl
    · refine fs_r T 1 32 [some (.ref v0), some (.int v1), some (.int v2), none, none, none] [.int v2] rfl ?_
      refine fs_if_ne T 40 35 rfl rfl rfl (fun _ => ?_) (fun _ => ?_)
      · refine fs_r T 2 62 [some (.ref v0), some (.int v1), some (.int v2), none, none, none] [.int (8 : Int32)] rfl ?_
        refine fs_wk (ls' := [some (.ref v0), some (.int v1), none, none, none, none]) ⟨rfl, rfl, trivial⟩ ?_
        exact w_X12_ahead_62 hE h0 _ _
      · refine fs_r T 2 42 [some (.ref v0), some (.int v1), some (.int v2), none, none, none] [.int (1 : Int32), .int v2] rfl ?_
        refine fs_ic_ne T 50 45 rfl rfl rfl (fun _ => ?_) (fun _ => ?_)
        · refine fs_r T 2 62 [some (.ref v0), some (.int v1), some (.int v2), none, none, none] [.int (9 : Int32)] rfl ?_
          refine fs_wk (ls' := [some (.ref v0), some (.int v1), none, none, none, none]) ⟨rfl, rfl, trivial⟩ ?_
          exact w_X12_ahead_62 hE h0 _ _
        · refine fs_r T 2 52 [some (.ref v0), some (.int v1), some (.int v2), none, none, none] [.int (2 : Int32), .int v2] rfl ?_
          refine fs_ic_ne T 60 55 rfl rfl rfl (fun _ => ?_) (fun _ => ?_)
          · refine fs_r T 2 62 [some (.ref v0), some (.int v1), some (.int v2), none, none, none] [.int (11 : Int32)] rfl ?_
            refine fs_wk (ls' := [some (.ref v0), some (.int v1), none, none, none, none]) ⟨rfl, rfl, trivial⟩ ?_
            exact w_X12_ahead_62 hE h0 _ _
          · refine fs_r T 1 62 [some (.ref v0), some (.int v1), some (.int v2), none, none, none] [.int (10 : Int32)] rfl ?_
            refine fs_wk (ls' := [some (.ref v0), some (.int v1), none, none, none, none]) ⟨rfl, rfl, trivial⟩ ?_
            exact w_X12_ahead_62 hE h0 _ _)
