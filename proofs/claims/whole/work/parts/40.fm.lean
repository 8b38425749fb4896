/-! functions out of the code -/
def f_X12_losePacket (H : fm_H) (v0 : Nat) (v1 : Int32) (m : fm_M) : Option (Unit × fm_M) :=
  if px_inb (9 : Int32) (fm_sz H (H.2.1 v0 0)) = true then
    if px_inb (9 : Int32) (fm_sz H (H.2.1 v0 0)) = true then
      (fm_bd (fm_si m (H.2.1 v0 0) (9 : Int32).toNatClampNeg (m.1 (H.2.1 v0 0) (9 : Int32).toNatClampNeg + (1 : Int32))) fun m1 =>
      fm_bn (f_X12_ofPacket H v0 v1 (0 : Int32) m1) fun x1 m2 =>
      fm_bn (f_X12_grow H v0 x1 (8 : Int32) (1 : Int32) m2) fun _ m3 =>
      fm_bn (f_X12_removePacket H v0 v1 m3) fun _ m4 =>
      some ((), m4))
    else none
  else none
set_option maxRecDepth 10000 in
theorem q_X12_losePacket {G : pm_G} {H : fm_H} {d : Nat} {z : Option Nat × Nat × Nat} {v0 : Nat} {v1 : Int32} {m : fm_M} (hE : fm_E G H) (h0 : fm_is H v0 12) : fm_cal G H (d + 2) yX12_losePacket [.ref v0, .int v1] z m fm_rV (f_X12_losePacket H v0 v1 m) := fm_mth (d := d + 1) mt_X12_losePacket rfl rfl rfl (fun K => by
  show fm_o fm_rV (f_X12_losePacket H v0 v1 m) K → fm_V G H (d + 1) RX12 cX12_losePacket none z K 0 [some (.ref v0), some (.int v1)] [] m
  have T : fm_T RX12 cX12_losePacket tc_X12_losePacket fr_X12 mr_X12 cr_X12 lr_X12 := ⟨tok_X12, dc_X12_losePacket⟩
  unfold f_X12_losePacket
  refine fs_r T 1 1 [some (.ref v0), some (.int v1)] [.ref v0] rfl ?_
  refine fs_gs T 4 12 0 v0 rfl rfl rfl rfl h0 ?_
  refine fs_r T 2 7 [some (.ref v0), some (.int v1)] [.int (9 : Int32), .ref (H.2.1 v0 0), .int (9 : Int32), .ref (H.2.1 v0 0)] rfl ?_
  refine fs_ai T 8 (H.2.1 v0 0) rfl rfl (hE.1 _ 12 0 h0) ?_
  refine fs_r T 2 10 [some (.ref v0), some (.int v1)] [.int (m.1 (H.2.1 v0 0) (9 : Int32).toNatClampNeg + (1 : Int32)), .int (9 : Int32), .ref (H.2.1 v0 0)] rfl ?_
  refine fs_si T 11 (H.2.1 v0 0) rfl rfl (hE.1 _ 12 0 h0) ?_
  intro m1
  refine fs_r T 4 15 [some (.ref v0), some (.int v1)] [.int (0 : Int32), .int v1, .ref v0, .ref v0] rfl ?_
  refine fs_vI T 18 rfl rfl rfl rfl rfl rfl h0 (q_X12_ofPacket (d := d) hE h0) ?_
  intro x1 m2
  refine fs_r T 2 21 [some (.ref v0), some (.int v1)] [.int (1 : Int32), .int (8 : Int32), .int x1, .ref v0] rfl ?_
  refine fs_vV T 24 rfl rfl rfl rfl rfl rfl h0 (q_X12_grow (d := d) hE h0) ?_
  intro x2 m3
  refine fs_r T 2 26 [some (.ref v0), some (.int v1)] [.int v1, .ref v0] rfl ?_
  refine fs_vV T 29 rfl rfl rfl rfl rfl rfl h0 (q_X12_removePacket (d := d) hE h0) ?_
  intro x3 m4
  exact fs_retv T rfl rfl rfl)
def f_X12_setUp_75 (H : fm_H) (v0 : Nat) (v1 : Int32) (v2 : Int32) (v3 : Int32) : Nat → Int32 → fm_M → Option (Int32 × fm_M)
  | 0, _, _ => none
  | n + 1, v4, m =>
    if v4 < 0 then
      if fm_b01 v3 = true then some (v3, m) else none
    else
    if v2 = 0 then
      fm_bn (f_X12_ofPacket H v0 v4 (2 : Int32) m) fun x1 m1 =>
      if x1 = v1 then
        fm_bn (f_X12_losePacket H v0 v4 m1) fun _ m2 =>
        f_X12_setUp_75 H v0 v1 v2 v3 n (v4 + (-1)) m2
      else
      f_X12_setUp_75 H v0 v1 v2 v3 n (v4 + (-1)) m1
    else
    if fm_b01 v3 = true then some (v3, m) else none
set_option maxRecDepth 10000 in
theorem w_X12_setUp_75 {G : pm_G} {H : fm_H} {d : Nat} {z : Option Nat × Nat × Nat} {K : pm_R → fm_M → Prop} (hE : fm_E G H) {v0 : Nat} {v1 : Int32} {v2 : Int32} {v3 : Int32} (h0 : fm_is H v0 12) : ∀ (n : Nat) (v4 : Int32) (m : fm_M), fm_o fm_rI (f_X12_setUp_75 H v0 v1 v2 v3 n v4 m) K → fm_V G H (d + 2) RX12 cX12_setUp (some (.boolean)) z K 75 [some (.ref v0), some (.int v1), some (.int v2), some (.int v3), some (.int v4)] [] m := by
  have T : fm_T RX12 cX12_setUp tc_X12_setUp fr_X12 mr_X12 cr_X12 lr_X12 := ⟨tok_X12, dc_X12_setUp⟩
  intro n
  induction n with
  | zero =>
    intro v4 m 
    exact fs_none
  | succ n ih =>
    intro v4 m 
    unfold f_X12_setUp_75
    refine fs_r T 1 77 [some (.ref v0), some (.int v1), some (.int v2), some (.int v3), some (.int v4)] [.int v4] rfl ?_
    refine fs_if_lt T 107 80 rfl rfl rfl (fun _ => ?_) (fun _ => ?_)
    · refine fs_r T 1 108 [some (.ref v0), some (.int v1), some (.int v2), some (.int v3), some (.int v4)] [.int v3] rfl ?_
      exact fs_retz T rfl rfl rfl
    · refine fs_r T 1 81 [some (.ref v0), some (.int v1), some (.int v2), some (.int v3), some (.int v4)] [.int v2] rfl ?_
      refine fs_if_ne T 107 84 rfl rfl rfl (fun _ => ?_) (fun _ => ?_)
      · refine fs_r T 3 88 [some (.ref v0), some (.int v1), some (.int v2), some (.int v3), some (.int v4)] [.int (2 : Int32), .int v4, .ref v0] rfl ?_
        refine fs_vI T 91 rfl rfl rfl rfl rfl rfl h0 (q_X12_ofPacket (d := d + 1) hE h0) ?_
        intro x1 m1
        refine fs_r T 1 92 [some (.ref v0), some (.int v1), some (.int v2), some (.int v3), some (.int v4)] [.int v1, .int x1] rfl ?_
        refine fs_ic_ne T 101 95 rfl rfl rfl (fun _ => ?_) (fun _ => ?_)
        · refine fs_r T 2 98 [some (.ref v0), some (.int v1), some (.int v2), some (.int v3), some (.int v4)] [.int v4, .ref v0] rfl ?_
          refine fs_vV T 101 rfl rfl rfl rfl rfl rfl h0 (q_X12_losePacket (d := d) hE h0) ?_
          intro x2 m2
          refine fs_r T 2 75 [some (.ref v0), some (.int v1), some (.int v2), some (.int v3), some (.int (v4 + (-1)))] [] rfl ?_
          exact ih _ _
        · refine fs_r T 2 75 [some (.ref v0), some (.int v1), some (.int v2), some (.int v3), some (.int (v4 + (-1)))] [] rfl ?_
          exact ih _ _
      · refine fs_r T 1 108 [some (.ref v0), some (.int v1), some (.int v2), some (.int v3), some (.int v4)] [.int v3] rfl ?_
        exact fs_retz T rfl rfl rfl
def f_X12_setUp_41 (H : fm_H) (v0 : Nat) (v1 : Int32) (v2 : Int32) (s0 : Int32) (m : fm_M) : Option (Int32 × fm_M) :=
  if v2 = 0 then
    if px_inb (((24 : Int32) + ((5 : Int32) * v1)) + (4 : Int32)) (fm_sz H (H.2.1 v0 0)) = true then
      (fm_bd (fm_si m (H.2.1 v0 0) (((24 : Int32) + ((5 : Int32) * v1)) + (4 : Int32)).toNatClampNeg (0 : Int32)) fun m1 =>
      if px_inb (6 : Int32) (fm_sz H (H.2.1 v0 0)) = true then
        f_X12_setUp_75 H v0 v1 v2 s0 fm_N (m1.1 (H.2.1 v0 0) (6 : Int32).toNatClampNeg - (1 : Int32)) m1
      else none)
    else none
  else
  if px_inb (((24 : Int32) + ((5 : Int32) * v1)) + (4 : Int32)) (fm_sz H (H.2.1 v0 0)) = true then
    (fm_bd (fm_si m (H.2.1 v0 0) (((24 : Int32) + ((5 : Int32) * v1)) + (4 : Int32)).toNatClampNeg (1 : Int32)) fun m2 =>
    if px_inb (6 : Int32) (fm_sz H (H.2.1 v0 0)) = true then
      f_X12_setUp_75 H v0 v1 v2 s0 fm_N (m2.1 (H.2.1 v0 0) (6 : Int32).toNatClampNeg - (1 : Int32)) m2
    else none)
  else none
set_option maxRecDepth 10000 in
theorem w_X12_setUp_41 {G : pm_G} {H : fm_H} {d : Nat} {z : Option Nat × Nat × Nat} {K : pm_R → fm_M → Prop} (hE : fm_E G H) {v0 : Nat} {v1 : Int32} {v2 : Int32} (h0 : fm_is H v0 12) : ∀ (s0 : Int32) (m : fm_M), fm_o fm_rI (f_X12_setUp_41 H v0 v1 v2 s0 m) K → fm_V G H (d + 2) RX12 cX12_setUp (some (.boolean)) z K 41 [some (.ref v0), some (.int v1), some (.int v2), none, none] [.int s0] m := by
  have T : fm_T RX12 cX12_setUp tc_X12_setUp fr_X12 mr_X12 cr_X12 lr_X12 := ⟨tok_X12, dc_X12_setUp⟩
  intro s0 m
  unfold f_X12_setUp_41
  refine fs_r T 2 43 [some (.ref v0), some (.int v1), some (.int v2), some (.int s0), none] [.ref v0] rfl ?_
  refine fs_gs T 46 12 0 v0 rfl rfl rfl rfl h0 ?_
  refine fs_r T 8 55 [some (.ref v0), some (.int v1), some (.int v2), some (.int s0), none] [.int v2, .int (((24 : Int32) + ((5 : Int32) * v1)) + (4 : Int32)), .ref (H.2.1 v0 0)] rfl ?_
  refine fs_if_eq T 62 58 rfl rfl rfl (fun _ => ?_) (fun _ => ?_)
  · refine fs_r T 1 63 [some (.ref v0), some (.int v1), some (.int v2), some (.int s0), none] [.int (0 : Int32), .int (((24 : Int32) + ((5 : Int32) * v1)) + (4 : Int32)), .ref (H.2.1 v0 0)] rfl ?_
    refine fs_si T 64 (H.2.1 v0 0) rfl rfl (hE.1 _ 12 0 h0) ?_
    intro m1
    refine fs_r T 1 65 [some (.ref v0), some (.int v1), some (.int v2), some (.int s0), none] [.ref v0] rfl ?_
    refine fs_gs T 68 12 0 v0 rfl rfl rfl rfl h0 ?_
    refine fs_r T 1 70 [some (.ref v0), some (.int v1), some (.int v2), some (.int s0), none] [.int (6 : Int32), .ref (H.2.1 v0 0)] rfl ?_
    refine fs_ai T 71 (H.2.1 v0 0) rfl rfl (hE.1 _ 12 0 h0) ?_
    refine fs_r T 3 75 [some (.ref v0), some (.int v1), some (.int v2), some (.int s0), some (.int (m1.1 (H.2.1 v0 0) (6 : Int32).toNatClampNeg - (1 : Int32)))] [] rfl ?_
    exact w_X12_setUp_75 hE h0 _ _ _
  · refine fs_r T 2 63 [some (.ref v0), some (.int v1), some (.int v2), some (.int s0), none] [.int (1 : Int32), .int (((24 : Int32) + ((5 : Int32) * v1)) + (4 : Int32)), .ref (H.2.1 v0 0)] rfl ?_
    refine fs_si T 64 (H.2.1 v0 0) rfl rfl (hE.1 _ 12 0 h0) ?_
    intro m2
    refine fs_r T 1 65 [some (.ref v0), some (.int v1), some (.int v2), some (.int s0), none] [.ref v0] rfl ?_
    refine fs_gs T 68 12 0 v0 rfl rfl rfl rfl h0 ?_
    refine fs_r T 1 70 [some (.ref v0), some (.int v1), some (.int v2), some (.int s0), none] [.int (6 : Int32), .ref (H.2.1 v0 0)] rfl ?_
    refine fs_ai T 71 (H.2.1 v0 0) rfl rfl (hE.1 _ 12 0 h0) ?_
    refine fs_r T 3 75 [some (.ref v0), some (.int v1), some (.int v2), some (.int s0), some (.int (m2.1 (H.2.1 v0 0) (6 : Int32).toNatClampNeg - (1 : Int32)))] [] rfl ?_
    exact w_X12_setUp_75 hE h0 _ _ _
def f_X12_setUp_14 (H : fm_H) (v0 : Nat) (v1 : Int32) (v2 : Int32) (s0 : Int32) (s1 : Nat) (m : fm_M) : Option (Int32 × fm_M) :=
  fm_bd (fm_si m s1 7 s0) fun m1 =>
  if m1.1 v0 7 = 0 then
    fm_bn (f_X12_ofLink H v0 v1 (4 : Int32) m1) fun x1 m2 =>
    if x1 = (1 : Int32) then
      f_X12_setUp_41 H v0 v1 v2 (1 : Int32) m2
    else
    f_X12_setUp_41 H v0 v1 v2 (0 : Int32) m2
  else
  some ((0 : Int32), m1)
set_option maxRecDepth 10000 in
theorem w_X12_setUp_14 {G : pm_G} {H : fm_H} {d : Nat} {z : Option Nat × Nat × Nat} {K : pm_R → fm_M → Prop} (hE : fm_E G H) {v0 : Nat} {v1 : Int32} {v2 : Int32} (h0 : fm_is H v0 12) : ∀ (s0 : Int32) (s1 : Nat) (m : fm_M), fm_is H s1 12 → fm_o fm_rI (f_X12_setUp_14 H v0 v1 v2 s0 s1 m) K → fm_V G H (d + 2) RX12 cX12_setUp (some (.boolean)) z K 14 [some (.ref v0), some (.int v1), some (.int v2), none, none] [.int s0, .ref s1] m := by
  have T : fm_T RX12 cX12_setUp tc_X12_setUp fr_X12 mr_X12 cr_X12 lr_X12 := ⟨tok_X12, dc_X12_setUp⟩
  intro s0 s1 m hs1
  unfold f_X12_setUp_14
  refine fs_pi T 17 12 7 s1 rfl rfl rfl rfl hs1 ?_
  intro m1
  refine fs_r T 1 18 [some (.ref v0), some (.int v1), some (.int v2), none, none] [.ref v0] rfl ?_
  refine fs_gi T 21 12 7 v0 rfl rfl rfl rfl h0 ?_
  refine fs_if_eq T 26 24 rfl rfl rfl (fun _ => ?_) (fun _ => ?_)
  · refine fs_r T 3 29 [some (.ref v0), some (.int v1), some (.int v2), none, none] [.int (4 : Int32), .int v1, .ref v0] rfl ?_
    refine fs_vI T 32 rfl rfl rfl rfl rfl rfl h0 (q_X12_ofLink (d := d + 1) hE h0) ?_
    intro x1 m2
    refine fs_r T 1 33 [some (.ref v0), some (.int v1), some (.int v2), none, none] [.int (1 : Int32), .int x1] rfl ?_
    refine fs_ic_ne T 40 36 rfl rfl rfl (fun _ => ?_) (fun _ => ?_)
    · refine fs_r T 2 41 [some (.ref v0), some (.int v1), some (.int v2), none, none] [.int (1 : Int32)] rfl ?_
      exact w_X12_setUp_41 hE h0 _ _
    · refine fs_r T 1 41 [some (.ref v0), some (.int v1), some (.int v2), none, none] [.int (0 : Int32)] rfl ?_
      exact w_X12_setUp_41 hE h0 _ _
  · refine fs_r T 1 25 [some (.ref v0), some (.int v1), some (.int v2), none, none] [.int (0 : Int32)] rfl ?_
    exact fs_retc T rfl rfl rfl rfl
def f_X12_setUp (H : fm_H) (v0 : Nat) (v1 : Int32) (v2 : Int32) (m : fm_M) : Option (Int32 × fm_M) :=
  fm_bn (f_X12_isLink H v0 v1 m) fun x1 m1 =>
  if x1 = 0 then
    f_X12_setUp_14 H v0 v1 v2 (1 : Int32) v0 m1
  else
  f_X12_setUp_14 H v0 v1 v2 (0 : Int32) v0 m1
set_option maxRecDepth 10000 in
theorem q_X12_setUp {G : pm_G} {H : fm_H} {d : Nat} {z : Option Nat × Nat × Nat} {v0 : Nat} {v1 : Int32} {v2 : Int32} {m : fm_M} (hE : fm_E G H) (h0 : fm_is H v0 12) : fm_cal G H (d + 3) yX12_setUp [.ref v0, .int v1, .int v2] z m fm_rI (f_X12_setUp H v0 v1 v2 m) := fm_mth (d := d + 2) mt_X12_setUp rfl rfl rfl (fun K => by
  show fm_o fm_rI (f_X12_setUp H v0 v1 v2 m) K → fm_V G H (d + 2) RX12 cX12_setUp (some (.boolean)) z K 0 [some (.ref v0), some (.int v1), some (.int v2), none, none] [] m
  have T : fm_T RX12 cX12_setUp tc_X12_setUp fr_X12 mr_X12 cr_X12 lr_X12 := ⟨tok_X12, dc_X12_setUp⟩
  unfold f_X12_setUp
  refine fs_r T 3 3 [some (.ref v0), some (.int v1), some (.int v2), none, none] [.int v1, .ref v0, .ref v0] rfl ?_
  refine fs_vI T 6 rfl rfl rfl rfl rfl rfl h0 (q_X12_isLink (d := d) hE h0) ?_
  intro x1 m1
  refine fs_if_eq T 13 9 rfl rfl rfl (fun _ => ?_) (fun _ => ?_)
  · refine fs_r T 1 14 [some (.ref v0), some (.int v1), some (.int v2), none, none] [.int (1 : Int32), .ref v0] rfl ?_
    exact w_X12_setUp_14 hE h0 _ _ _ h0
  · refine fs_r T 2 14 [some (.ref v0), some (.int v1), some (.int v2), none, none] [.int (0 : Int32), .ref v0] rfl ?_
    exact w_X12_setUp_14 hE h0 _ _ _ h0)
def f_X12_set_25 (H : fm_H) (v0 : Nat) (v1 : Int32) (v2 : Int32) (s0 : Int32) (s1 : Int32) (s2 : Int32) (m : fm_M) : Option (Int32 × fm_M) :=
  fm_bn (f_X12_isBetween H s2 s1 s0 m) fun x1 m1 =>
  if x1 = 0 then
    fm_bn (f_X12_fail H v0 (1 : Int32) m1) fun x2 m3 =>
    some (x2, m3)
  else
  if px_inb v1 (fm_sz H (H.2.1 v0 0)) = true then
    if px_inb v1 (fm_sz H (H.2.1 v0 0)) = true then
      (fm_bd (fm_si m1 (H.2.1 v0 0) v1.toNatClampNeg v2) fun m2 =>
      some (m1.1 (H.2.1 v0 0) v1.toNatClampNeg, m2))
    else none
  else none
set_option maxRecDepth 10000 in
theorem w_X12_set_25 {G : pm_G} {H : fm_H} {d : Nat} {z : Option Nat × Nat × Nat} {K : pm_R → fm_M → Prop} (hE : fm_E G H) {v0 : Nat} {v1 : Int32} {v2 : Int32} (h0 : fm_is H v0 12) : ∀ (s0 : Int32) (s1 : Int32) (s2 : Int32) (m : fm_M), fm_o fm_rI (f_X12_set_25 H v0 v1 v2 s0 s1 s2 m) K → fm_V G H (d + 1) RX12 cX12_set (some (.int)) z K 25 [some (.ref v0), some (.int v1), some (.int v2), none] [.int s0, .int s1, .int s2] m := by
  have T : fm_T RX12 cX12_set tc_X12_set fr_X12 mr_X12 cr_X12 lr_X12 := ⟨tok_X12, dc_X12_set⟩
  intro s0 s1 s2 m
  unfold f_X12_set_25
  refine fs_sI T 28 rfl rfl rfl rfl rfl rfl rfl (q_X12_isBetween (d := d) hE ) ?_
  intro x1 m1
  refine fs_if_ne T 37 31 rfl rfl rfl (fun _ => ?_) (fun _ => ?_)
  · refine fs_r T 2 33 [some (.ref v0), some (.int v1), some (.int v2), none] [.int (1 : Int32), .ref v0] rfl ?_
    refine fs_vI T 36 rfl rfl rfl rfl rfl rfl h0 (q_X12_fail (d := d) hE h0) ?_
    intro x2 m3
    exact fs_reti T rfl rfl rfl
  · refine fs_r T 1 38 [some (.ref v0), some (.int v1), some (.int v2), none] [.ref v0] rfl ?_
    refine fs_gs T 41 12 0 v0 rfl rfl rfl rfl h0 ?_
    refine fs_r T 1 42 [some (.ref v0), some (.int v1), some (.int v2), none] [.int v1, .ref (H.2.1 v0 0)] rfl ?_
    refine fs_ai T 43 (H.2.1 v0 0) rfl rfl (hE.1 _ 12 0 h0) ?_
    refine fs_r T 2 45 [some (.ref v0), some (.int v1), some (.int v2), some (.int (m1.1 (H.2.1 v0 0) v1.toNatClampNeg))] [.ref v0] rfl ?_
    refine fs_gs T 48 12 0 v0 rfl rfl rfl rfl h0 ?_
    refine fs_r T 2 50 [some (.ref v0), some (.int v1), some (.int v2), some (.int (m1.1 (H.2.1 v0 0) v1.toNatClampNeg))] [.int v2, .int v1, .ref (H.2.1 v0 0)] rfl ?_
    refine fs_si T 51 (H.2.1 v0 0) rfl rfl (hE.1 _ 12 0 h0) ?_
    intro m2
    refine fs_r T 1 52 [some (.ref v0), some (.int v1), some (.int v2), some (.int (m1.1 (H.2.1 v0 0) v1.toNatClampNeg))] [.int (m1.1 (H.2.1 v0 0) v1.toNatClampNeg)] rfl ?_
    exact fs_reti T rfl rfl rfl
def f_X12_set (H : fm_H) (v0 : Nat) (v1 : Int32) (v2 : Int32) (m : fm_M) : Option (Int32 × fm_M) :=
  fm_bd (fm_si m v0 7 (0 : Int32)) fun m1 =>
  fm_bn (f_X12_isBetween H v1 (0 : Int32) (1 : Int32) m1) fun x1 m2 =>
  if x1 = 0 then
    fm_bn (f_X12_fail H v0 (1 : Int32) m2) fun x2 m3 =>
    some (x2, m3)
  else
  if v1 = 0 then
    f_X12_set_25 H v0 v1 v2 (4 : Int32) (0 : Int32) v2 m2
  else
  f_X12_set_25 H v0 v1 v2 (1 : Int32) (0 : Int32) v2 m2
set_option maxRecDepth 10000 in
theorem q_X12_set {G : pm_G} {H : fm_H} {d : Nat} {z : Option Nat × Nat × Nat} {v0 : Nat} {v1 : Int32} {v2 : Int32} {m : fm_M} (hE : fm_E G H) (h0 : fm_is H v0 12) : fm_cal G H (d + 2) yX12_set [.ref v0, .int v1, .int v2] z m fm_rI (f_X12_set H v0 v1 v2 m) := fm_mth (d := d + 1) mt_X12_set rfl rfl rfl (fun K => by
  show fm_o fm_rI (f_X12_set H v0 v1 v2 m) K → fm_V G H (d + 1) RX12 cX12_set (some (.int)) z K 0 [some (.ref v0), some (.int v1), some (.int v2), none] [] m
  have T : fm_T RX12 cX12_set tc_X12_set fr_X12 mr_X12 cr_X12 lr_X12 := ⟨tok_X12, dc_X12_set⟩
  unfold f_X12_set
  refine fs_r T 2 2 [some (.ref v0), some (.int v1), some (.int v2), none] [.int (0 : Int32), .ref v0] rfl ?_
  refine fs_pi T 5 12 7 v0 rfl rfl rfl rfl h0 ?_
  intro m1
  refine fs_r T 3 8 [some (.ref v0), some (.int v1), some (.int v2), none] [.int (1 : Int32), .int (0 : Int32), .int v1] rfl ?_
  refine fs_sI T 11 rfl rfl rfl rfl rfl rfl rfl (q_X12_isBetween (d := d) hE ) ?_
  intro x1 m2
  refine fs_if_eq T 31 14 rfl rfl rfl (fun _ => ?_) (fun _ => ?_)
  · refine fs_r T 2 33 [some (.ref v0), some (.int v1), some (.int v2), none] [.int (1 : Int32), .ref v0] rfl ?_
    refine fs_vI T 36 rfl rfl rfl rfl rfl rfl h0 (q_X12_fail (d := d) hE h0) ?_
    intro x2 m3
    exact fs_reti T rfl rfl rfl
  · refine fs_r T 3 17 [some (.ref v0), some (.int v1), some (.int v2), none] [.int v1, .int (0 : Int32), .int v2] rfl ?_
    refine fs_if_ne T 24 20 rfl rfl rfl (fun _ => ?_) (fun _ => ?_)
    · refine fs_r T 2 25 [some (.ref v0), some (.int v1), some (.int v2), none] [.int (4 : Int32), .int (0 : Int32), .int v2] rfl ?_
      exact w_X12_set_25 hE h0 _ _ _ _
    · refine fs_r T 1 25 [some (.ref v0), some (.int v1), some (.int v2), none] [.int (1 : Int32), .int (0 : Int32), .int v2] rfl ?_
      exact w_X12_set_25 hE h0 _ _ _ _)
def f_X12_giveUp (H : fm_H) (v0 : Nat) (v1 : Int32) (v2 : Int32) (m : fm_M) : Option (Unit × fm_M) :=
  if px_inb ((v1 + (7 : Int32)) + v2) (fm_sz H (H.2.1 v0 0)) = true then
    (fm_bd (fm_si m (H.2.1 v0 0) ((v1 + (7 : Int32)) + v2).toNatClampNeg (-1 : Int32)) fun m1 =>
    if px_inb ((v1 + (13 : Int32)) + v2) (fm_sz H (H.2.1 v0 0)) = true then
      (fm_bd (fm_si m1 (H.2.1 v0 0) ((v1 + (13 : Int32)) + v2).toNatClampNeg (-1 : Int32)) fun m2 =>
      if px_inb ((v1 + (19 : Int32)) + v2) (fm_sz H (H.2.1 v0 0)) = true then
        (fm_bd (fm_si m2 (H.2.1 v0 0) ((v1 + (19 : Int32)) + v2).toNatClampNeg (0 : Int32)) fun m3 =>
        some ((), m3))
      else none)
    else none)
  else none
set_option maxRecDepth 10000 in
theorem q_X12_giveUp {G : pm_G} {H : fm_H} {d : Nat} {z : Option Nat × Nat × Nat} {v0 : Nat} {v1 : Int32} {v2 : Int32} {m : fm_M} (hE : fm_E G H) (h0 : fm_is H v0 12) : fm_cal G H (d + 1) yX12_giveUp [.ref v0, .int v1, .int v2] z m fm_rV (f_X12_giveUp H v0 v1 v2 m) := fm_mth (d := d + 0) mt_X12_giveUp rfl rfl rfl (fun K => by
  show fm_o fm_rV (f_X12_giveUp H v0 v1 v2 m) K → fm_V G H (d + 0) RX12 cX12_giveUp none z K 0 [some (.ref v0), some (.int v1), some (.int v2)] [] m
  have T : fm_T RX12 cX12_giveUp tc_X12_giveUp fr_X12 mr_X12 cr_X12 lr_X12 := ⟨tok_X12, dc_X12_giveUp⟩
  unfold f_X12_giveUp
  refine fs_r T 1 1 [some (.ref v0), some (.int v1), some (.int v2)] [.ref v0] rfl ?_
  refine fs_gs T 4 12 0 v0 rfl rfl rfl rfl h0 ?_
  refine fs_r T 6 11 [some (.ref v0), some (.int v1), some (.int v2)] [.int (-1 : Int32), .int ((v1 + (7 : Int32)) + v2), .ref (H.2.1 v0 0)] rfl ?_
  refine fs_si T 12 (H.2.1 v0 0) rfl rfl (hE.1 _ 12 0 h0) ?_
  intro m1
  refine fs_r T 1 13 [some (.ref v0), some (.int v1), some (.int v2)] [.ref v0] rfl ?_
  refine fs_gs T 16 12 0 v0 rfl rfl rfl rfl h0 ?_
  refine fs_r T 6 23 [some (.ref v0), some (.int v1), some (.int v2)] [.int (-1 : Int32), .int ((v1 + (13 : Int32)) + v2), .ref (H.2.1 v0 0)] rfl ?_
  refine fs_si T 24 (H.2.1 v0 0) rfl rfl (hE.1 _ 12 0 h0) ?_
  intro m2
  refine fs_r T 1 25 [some (.ref v0), some (.int v1), some (.int v2)] [.ref v0] rfl ?_
  refine fs_gs T 28 12 0 v0 rfl rfl rfl rfl h0 ?_
  refine fs_r T 6 35 [some (.ref v0), some (.int v1), some (.int v2)] [.int (0 : Int32), .int ((v1 + (19 : Int32)) + v2), .ref (H.2.1 v0 0)] rfl ?_
  refine fs_si T 36 (H.2.1 v0 0) rfl rfl (hE.1 _ 12 0 h0) ?_
  intro m3
  exact fs_retv T rfl rfl rfl)
def f_X12_lent_4 (H : fm_H) (v0 : Nat) : Nat → Int32 → Int32 → fm_M → Option (Int32 × fm_M)
  | 0, _, _, _ => none
  | n + 1, v1, v2, m =>
    if px_inb (2 : Int32) (fm_sz H (H.2.1 v0 0)) = true then
      if m.1 (H.2.1 v0 0) (2 : Int32).toNatClampNeg ≤ v2 then
        some (v1, m)
      else
      fm_bn (f_X12_countLabels H v0 v2 (1 : Int32) m) fun x1 m1 =>
      f_X12_lent_4 H v0 n (v1 + x1) (v2 + 1) m1
    else none
set_option maxRecDepth 10000 in
theorem w_X12_lent_4 {G : pm_G} {H : fm_H} {d : Nat} {z : Option Nat × Nat × Nat} {K : pm_R → fm_M → Prop} (hE : fm_E G H) {v0 : Nat} (h0 : fm_is H v0 12) : ∀ (n : Nat) (v1 : Int32) (v2 : Int32) (m : fm_M), fm_o fm_rI (f_X12_lent_4 H v0 n v1 v2 m) K → fm_V G H (d + 2) RX12 cX12_lent (some (.int)) z K 4 [some (.ref v0), some (.int v1), some (.int v2)] [] m := by
  have T : fm_T RX12 cX12_lent tc_X12_lent fr_X12 mr_X12 cr_X12 lr_X12 := ⟨tok_X12, dc_X12_lent⟩
  intro n
  induction n with
  | zero =>
    intro v1 v2 m 
    exact fs_none
  | succ n ih =>
    intro v1 v2 m 
    unfold f_X12_lent_4
    refine fs_r T 2 6 [some (.ref v0), some (.int v1), some (.int v2)] [.ref v0, .int v2] rfl ?_
    refine fs_gs T 9 12 0 v0 rfl rfl rfl rfl h0 ?_
    refine fs_r T 1 10 [some (.ref v0), some (.int v1), some (.int v2)] [.int (2 : Int32), .ref (H.2.1 v0 0), .int v2] rfl ?_
    refine fs_ai T 11 (H.2.1 v0 0) rfl rfl (hE.1 _ 12 0 h0) ?_
    refine fs_ic_ge T 29 14 rfl rfl rfl (fun _ => ?_) (fun _ => ?_)
    · refine fs_r T 1 30 [some (.ref v0), some (.int v1), some (.int v2)] [.int v1] rfl ?_
      exact fs_reti T rfl rfl rfl
    · refine fs_r T 4 18 [some (.ref v0), some (.int v1), some (.int v2)] [.int (1 : Int32), .int v2, .ref v0, .int v1] rfl ?_
      refine fs_vI T 21 rfl rfl rfl rfl rfl rfl h0 (q_X12_countLabels (d := d) hE h0) ?_
      intro x1 m1
      refine fs_r T 4 4 [some (.ref v0), some (.int (v1 + x1)), some (.int (v2 + 1))] [] rfl ?_
      exact ih _ _ _
def f_X12_lent (H : fm_H) (v0 : Nat) (m : fm_M) : Option (Int32 × fm_M) :=
  f_X12_lent_4 H v0 fm_N (0 : Int32) (0 : Int32) m
set_option maxRecDepth 10000 in
theorem q_X12_lent {G : pm_G} {H : fm_H} {d : Nat} {z : Option Nat × Nat × Nat} {v0 : Nat} {m : fm_M} (hE : fm_E G H) (h0 : fm_is H v0 12) : fm_cal G H (d + 3) yX12_lent [.ref v0] z m fm_rI (f_X12_lent H v0 m) := fm_mth (d := d + 2) mt_X12_lent rfl rfl rfl (fun K => by
  show fm_o fm_rI (f_X12_lent H v0 m) K → fm_V G H (d + 2) RX12 cX12_lent (some (.int)) z K 0 [some (.ref v0), none, none] [] m
  have T : fm_T RX12 cX12_lent tc_X12_lent fr_X12 mr_X12 cr_X12 lr_X12 := ⟨tok_X12, dc_X12_lent⟩
  unfold f_X12_lent
  refine fs_r T 4 4 [some (.ref v0), some (.int (0 : Int32)), some (.int (0 : Int32))] [] rfl ?_
  exact w_X12_lent_4 hE h0 _ _ _ _)
def f_X12_movedCircuits_4 (H : fm_H) (v0 : Nat) : Nat → Int32 → Int32 → fm_M → Option (Int32 × fm_M)
  | 0, _, _, _ => none
  | n + 1, v1, v2, m =>
    if px_inb (4 : Int32) (fm_sz H (H.2.1 v0 0)) = true then
      if m.1 (H.2.1 v0 0) (4 : Int32).toNatClampNeg ≤ v2 then
        some (v1, m)
      else
      fm_bn (f_X12_of H v0 v2 (2 : Int32) m) fun x1 m1 =>
      if x1 ≤ 0 then
        f_X12_movedCircuits_4 H v0 n (v1 + (0 : Int32)) (v2 + 1) m1
      else
      f_X12_movedCircuits_4 H v0 n (v1 + (1 : Int32)) (v2 + 1) m1
    else none
set_option maxRecDepth 10000 in
theorem w_X12_movedCircuits_4 {G : pm_G} {H : fm_H} {d : Nat} {z : Option Nat × Nat × Nat} {K : pm_R → fm_M → Prop} (hE : fm_E G H) {v0 : Nat} (h0 : fm_is H v0 12) : ∀ (n : Nat) (v1 : Int32) (v2 : Int32) (m : fm_M), fm_o fm_rI (f_X12_movedCircuits_4 H v0 n v1 v2 m) K → fm_V G H (d + 1) RX12 cX12_movedCircuits (some (.int)) z K 4 [some (.ref v0), some (.int v1), some (.int v2)] [] m := by
  have T : fm_T RX12 cX12_movedCircuits tc_X12_movedCircuits fr_X12 mr_X12 cr_X12 lr_X12 := ⟨tok_X12, dc_X12_movedCircuits⟩
  intro n
  induction n with
  | zero =>
    intro v1 v2 m 
    exact fs_none
  | succ n ih =>
    intro v1 v2 m 
    unfold f_X12_movedCircuits_4
    refine fs_r T 2 6 [some (.ref v0), some (.int v1), some (.int v2)] [.ref v0, .int v2] rfl ?_
    refine fs_gs T 9 12 0 v0 rfl rfl rfl rfl h0 ?_
    refine fs_r T 1 10 [some (.ref v0), some (.int v1), some (.int v2)] [.int (4 : Int32), .ref (H.2.1 v0 0), .int v2] rfl ?_
    refine fs_ai T 11 (H.2.1 v0 0) rfl rfl (hE.1 _ 12 0 h0) ?_
    refine fs_ic_ge T 37 14 rfl rfl rfl (fun _ => ?_) (fun _ => ?_)
    · refine fs_r T 1 38 [some (.ref v0), some (.int v1), some (.int v2)] [.int v1] rfl ?_
      exact fs_reti T rfl rfl rfl
    · refine fs_r T 4 18 [some (.ref v0), some (.int v1), some (.int v2)] [.int (2 : Int32), .int v2, .ref v0, .int v1] rfl ?_
      refine fs_vI T 21 rfl rfl rfl rfl rfl rfl h0 (q_X12_of (d := d) hE h0) ?_
      intro x1 m1
      refine fs_if_le T 28 24 rfl rfl rfl (fun _ => ?_) (fun _ => ?_)
      · refine fs_r T 5 4 [some (.ref v0), some (.int (v1 + (0 : Int32))), some (.int (v2 + 1))] [] rfl ?_
        exact ih _ _ _
      · refine fs_r T 6 4 [some (.ref v0), some (.int (v1 + (1 : Int32))), some (.int (v2 + 1))] [] rfl ?_
        exact ih _ _ _
def f_X12_movedCircuits (H : fm_H) (v0 : Nat) (m : fm_M) : Option (Int32 × fm_M) :=
  f_X12_movedCircuits_4 H v0 fm_N (0 : Int32) (0 : Int32) m
set_option maxRecDepth 10000 in
theorem q_X12_movedCircuits {G : pm_G} {H : fm_H} {d : Nat} {z : Option Nat × Nat × Nat} {v0 : Nat} {m : fm_M} (hE : fm_E G H) (h0 : fm_is H v0 12) : fm_cal G H (d + 2) yX12_movedCircuits [.ref v0] z m fm_rI (f_X12_movedCircuits H v0 m) := fm_mth (d := d + 1) mt_X12_movedCircuits rfl rfl rfl (fun K => by
  show fm_o fm_rI (f_X12_movedCircuits H v0 m) K → fm_V G H (d + 1) RX12 cX12_movedCircuits (some (.int)) z K 0 [some (.ref v0), none, none] [] m
  have T : fm_T RX12 cX12_movedCircuits tc_X12_movedCircuits fr_X12 mr_X12 cr_X12 lr_X12 := ⟨tok_X12, dc_X12_movedCircuits⟩
  unfold f_X12_movedCircuits
  refine fs_r T 4 4 [some (.ref v0), some (.int (0 : Int32)), some (.int (0 : Int32))] [] rfl ?_
  exact w_X12_movedCircuits_4 hE h0 _ _ _ _)
def f_X12_count (H : fm_H) (v0 : Nat) (v1 : Int32) (m : fm_M) : Option (Int32 × fm_M) :=
  fm_bd (fm_si m v0 7 (0 : Int32)) fun m1 =>
  fm_sw v1 12 [  fm_bn (f_X12_lent H v0 m1) fun x1 m2 =>
    some (x1, m2),
    fm_bn (f_X12_movedCircuits H v0 m1) fun x2 m3 =>
    some (x2, m3),
    if px_inb (((12 : Int32) + v1) - (14 : Int32)) (fm_sz H (H.2.1 v0 0)) = true then
      some (m1.1 (H.2.1 v0 0) (((12 : Int32) + v1) - (14 : Int32)).toNatClampNeg, m1)
    else none,
    if px_inb (((12 : Int32) + v1) - (14 : Int32)) (fm_sz H (H.2.1 v0 0)) = true then
      some (m1.1 (H.2.1 v0 0) (((12 : Int32) + v1) - (14 : Int32)).toNatClampNeg, m1)
    else none,
    some (m1.1 v0 6, m1)]
    (fm_bn (f_X12_isBetween H v1 (0 : Int32) (11 : Int32) m1) fun x3 m4 =>
    if x3 = 0 then
      fm_bn (f_X12_fail H v0 (1 : Int32) m4) fun x4 m5 =>
      some (x4, m5)
    else
    if px_inb v1 (fm_sz H (H.2.1 v0 0)) = true then
      some (m4.1 (H.2.1 v0 0) v1.toNatClampNeg, m4)
    else none)
set_option maxRecDepth 10000 in
theorem q_X12_count {G : pm_G} {H : fm_H} {d : Nat} {z : Option Nat × Nat × Nat} {v0 : Nat} {v1 : Int32} {m : fm_M} (hE : fm_E G H) (h0 : fm_is H v0 12) : fm_cal G H (d + 4) yX12_count [.ref v0, .int v1] z m fm_rI (f_X12_count H v0 v1 m) := fm_mth (d := d + 3) mt_X12_count rfl rfl rfl (fun K => by
  show fm_o fm_rI (f_X12_count H v0 v1 m) K → fm_V G H (d + 3) RX12 cX12_count (some (.int)) z K 0 [some (.ref v0), some (.int v1)] [] m
  have T : fm_T RX12 cX12_count tc_X12_count fr_X12 mr_X12 cr_X12 lr_X12 := ⟨tok_X12, dc_X12_count⟩
  unfold f_X12_count
  refine fs_r T 2 2 [some (.ref v0), some (.int v1)] [.int (0 : Int32), .ref v0] rfl ?_
  refine fs_pi T 5 12 7 v0 rfl rfl rfl rfl h0 ?_
  intro m1
  refine fs_r T 1 6 [some (.ref v0), some (.int v1)] [.int v1] rfl ?_
  refine fs_tsw T (dflt := 62) (lo := 12) (hi := 16) (offs := #[34, 39, 44, 44, 57]) (t := 68) rfl rfl rfl rfl ⟨⟨40, rfl, ?_⟩, ⟨45, rfl, ?_⟩, ⟨50, rfl, ?_⟩, ⟨50, rfl, ?_⟩, ⟨63, rfl, ?_⟩, trivial⟩ ?_
  · refine fs_r T 1 41 [some (.ref v0), some (.int v1)] [.ref v0] rfl ?_
    refine fs_vI T 44 rfl rfl rfl rfl rfl rfl h0 (q_X12_lent (d := d) hE h0) ?_
    intro x1 m2
    exact fs_reti T rfl rfl rfl
  · refine fs_r T 1 46 [some (.ref v0), some (.int v1)] [.ref v0] rfl ?_
    refine fs_vI T 49 rfl rfl rfl rfl rfl rfl h0 (q_X12_movedCircuits (d := d + 1) hE h0) ?_
    intro x2 m3
    exact fs_reti T rfl rfl rfl
  · refine fs_r T 1 51 [some (.ref v0), some (.int v1)] [.ref v0] rfl ?_
    refine fs_gs T 54 12 0 v0 rfl rfl rfl rfl h0 ?_
    refine fs_r T 5 61 [some (.ref v0), some (.int v1)] [.int (((12 : Int32) + v1) - (14 : Int32)), .ref (H.2.1 v0 0)] rfl ?_
    refine fs_ai T 62 (H.2.1 v0 0) rfl rfl (hE.1 _ 12 0 h0) ?_
    exact fs_reti T rfl rfl rfl
  · refine fs_r T 1 51 [some (.ref v0), some (.int v1)] [.ref v0] rfl ?_
    refine fs_gs T 54 12 0 v0 rfl rfl rfl rfl h0 ?_
    refine fs_r T 5 61 [some (.ref v0), some (.int v1)] [.int (((12 : Int32) + v1) - (14 : Int32)), .ref (H.2.1 v0 0)] rfl ?_
    refine fs_ai T 62 (H.2.1 v0 0) rfl rfl (hE.1 _ 12 0 h0) ?_
    exact fs_reti T rfl rfl rfl
  · refine fs_r T 1 64 [some (.ref v0), some (.int v1)] [.ref v0] rfl ?_
    refine fs_gi T 67 12 6 v0 rfl rfl rfl rfl h0 ?_
    exact fs_reti T rfl rfl rfl
  · refine fs_r T 3 72 [some (.ref v0), some (.int v1)] [.int (11 : Int32), .int (0 : Int32), .int v1] rfl ?_
    refine fs_sI T 75 rfl rfl rfl rfl rfl rfl rfl (q_X12_isBetween (d := d + 2) hE ) ?_
    intro x3 m4
    refine fs_if_eq T 87 78 rfl rfl rfl (fun _ => ?_) (fun _ => ?_)
    · refine fs_r T 2 89 [some (.ref v0), some (.int v1)] [.int (1 : Int32), .ref v0] rfl ?_
      refine fs_vI T 92 rfl rfl rfl rfl rfl rfl h0 (q_X12_fail (d := d + 2) hE h0) ?_
      intro x4 m5
      exact fs_reti T rfl rfl rfl
    · refine fs_r T 1 79 [some (.ref v0), some (.int v1)] [.ref v0] rfl ?_
      refine fs_gs T 82 12 0 v0 rfl rfl rfl rfl h0 ?_
      refine fs_r T 1 83 [some (.ref v0), some (.int v1)] [.int v1, .ref (H.2.1 v0 0)] rfl ?_
      refine fs_ai T 84 (H.2.1 v0 0) rfl rfl (hE.1 _ 12 0 h0) ?_
      refine fs_r T 1 92 [some (.ref v0), some (.int v1)] [.int (m4.1 (H.2.1 v0 0) v1.toNatClampNeg)] rfl ?_
      exact fs_reti T rfl rfl rfl)
def f_X12_linksAt_4 (H : fm_H) (v0 : Nat) (v1 : Int32) : Nat → Int32 → Int32 → fm_M → Option (Int32 × fm_M)
  | 0, _, _, _ => none
  | n + 1, v2, v3, m =>
    if px_inb (3 : Int32) (fm_sz H (H.2.1 v0 0)) = true then
      if m.1 (H.2.1 v0 0) (3 : Int32).toNatClampNeg ≤ v3 then
        some (v2, m)
      else
      fm_bn (f_X12_ofLink H v0 v3 (0 : Int32) m) fun x1 m1 =>
      if x1 = v1 then
        f_X12_linksAt_4 H v0 v1 n (v2 + (1 : Int32)) (v3 + 1) m1
      else
      fm_bn (f_X12_ofLink H v0 v3 (1 : Int32) m1) fun x2 m2 =>
      if x2 = v1 then
        f_X12_linksAt_4 H v0 v1 n (v2 + (1 : Int32)) (v3 + 1) m2
      else
      f_X12_linksAt_4 H v0 v1 n (v2 + (0 : Int32)) (v3 + 1) m2
    else none
set_option maxRecDepth 10000 in
theorem w_X12_linksAt_4 {G : pm_G} {H : fm_H} {d : Nat} {z : Option Nat × Nat × Nat} {K : pm_R → fm_M → Prop} (hE : fm_E G H) {v0 : Nat} {v1 : Int32} (h0 : fm_is H v0 12) : ∀ (n : Nat) (v2 : Int32) (v3 : Int32) (m : fm_M), fm_o fm_rI (f_X12_linksAt_4 H v0 v1 n v2 v3 m) K → fm_V G H (d + 1) RX12 cX12_linksAt (some (.int)) z K 4 [some (.ref v0), some (.int v1), some (.int v2), some (.int v3)] [] m := by
  have T : fm_T RX12 cX12_linksAt tc_X12_linksAt fr_X12 mr_X12 cr_X12 lr_X12 := ⟨tok_X12, dc_X12_linksAt⟩
  intro n
  induction n with
  | zero =>
    intro v2 v3 m 
    exact fs_none
  | succ n ih =>
    intro v2 v3 m 
    unfold f_X12_linksAt_4
    refine fs_r T 2 6 [some (.ref v0), some (.int v1), some (.int v2), some (.int v3)] [.ref v0, .int v3] rfl ?_
    refine fs_gs T 9 12 0 v0 rfl rfl rfl rfl h0 ?_
    refine fs_r T 1 10 [some (.ref v0), some (.int v1), some (.int v2), some (.int v3)] [.int (3 : Int32), .ref (H.2.1 v0 0), .int v3] rfl ?_
    refine fs_ai T 11 (H.2.1 v0 0) rfl rfl (hE.1 _ 12 0 h0) ?_
    refine fs_ic_ge T 48 14 rfl rfl rfl (fun _ => ?_) (fun _ => ?_)
    · refine fs_r T 1 49 [some (.ref v0), some (.int v1), some (.int v2), some (.int v3)] [.int v2] rfl ?_
      exact fs_reti T rfl rfl rfl
    · refine fs_r T 4 18 [some (.ref v0), some (.int v1), some (.int v2), some (.int v3)] [.int (0 : Int32), .int v3, .ref v0, .int v2] rfl ?_
      refine fs_vI T 21 rfl rfl rfl rfl rfl rfl h0 (q_X12_ofLink (d := d) hE h0) ?_
      intro x1 m1
      refine fs_r T 1 22 [some (.ref v0), some (.int v1), some (.int v2), some (.int v3)] [.int v1, .int x1, .int v2] rfl ?_
      refine fs_ic_eq T 35 25 rfl rfl rfl (fun _ => ?_) (fun _ => ?_)
      · refine fs_r T 6 4 [some (.ref v0), some (.int v1), some (.int (v2 + (1 : Int32))), some (.int (v3 + 1))] [] rfl ?_
        exact ih _ _ _
      · refine fs_r T 3 28 [some (.ref v0), some (.int v1), some (.int v2), some (.int v3)] [.int (1 : Int32), .int v3, .ref v0, .int v2] rfl ?_
        refine fs_vI T 31 rfl rfl rfl rfl rfl rfl h0 (q_X12_ofLink (d := d) hE h0) ?_
        intro x2 m2
        refine fs_r T 1 32 [some (.ref v0), some (.int v1), some (.int v2), some (.int v3)] [.int v1, .int x2, .int v2] rfl ?_
        refine fs_ic_ne T 39 35 rfl rfl rfl (fun _ => ?_) (fun _ => ?_)
        · refine fs_r T 6 4 [some (.ref v0), some (.int v1), some (.int (v2 + (1 : Int32))), some (.int (v3 + 1))] [] rfl ?_
          exact ih _ _ _
        · refine fs_r T 5 4 [some (.ref v0), some (.int v1), some (.int (v2 + (0 : Int32))), some (.int (v3 + 1))] [] rfl ?_
          exact ih _ _ _
def f_X12_linksAt (H : fm_H) (v0 : Nat) (v1 : Int32) (m : fm_M) : Option (Int32 × fm_M) :=
  f_X12_linksAt_4 H v0 v1 fm_N (0 : Int32) (0 : Int32) m
set_option maxRecDepth 10000 in
theorem q_X12_linksAt {G : pm_G} {H : fm_H} {d : Nat} {z : Option Nat × Nat × Nat} {v0 : Nat} {v1 : Int32} {m : fm_M} (hE : fm_E G H) (h0 : fm_is H v0 12) : fm_cal G H (d + 2) yX12_linksAt [.ref v0, .int v1] z m fm_rI (f_X12_linksAt H v0 v1 m) := fm_mth (d := d + 1) mt_X12_linksAt rfl rfl rfl (fun K => by
  show fm_o fm_rI (f_X12_linksAt H v0 v1 m) K → fm_V G H (d + 1) RX12 cX12_linksAt (some (.int)) z K 0 [some (.ref v0), some (.int v1), none, none] [] m
  have T : fm_T RX12 cX12_linksAt tc_X12_linksAt fr_X12 mr_X12 cr_X12 lr_X12 := ⟨tok_X12, dc_X12_linksAt⟩
  unfold f_X12_linksAt
  refine fs_r T 4 4 [some (.ref v0), some (.int v1), some (.int (0 : Int32)), some (.int (0 : Int32))] [] rfl ?_
  exact w_X12_linksAt_4 hE h0 _ _ _ _)
def f_X12_node (H : fm_H) (v0 : Nat) (v1 : Int32) (v2 : Int32) (m : fm_M) : Option (Int32 × fm_M) :=
  fm_bd (fm_si m v0 7 (0 : Int32)) fun m1 =>
  fm_bn (f_X12_isNode H v0 v1 m1) fun x1 m2 =>
  if x1 = 0 then
    fm_bn (f_X12_fail H v0 (1 : Int32) m2) fun x9 m10 =>
    some (x9, m10)
  else
  fm_sw v2 0 [  if px_inb ((14 : Int32) + v1) (fm_sz H (H.2.1 v0 0)) = true then
      some (m2.1 (H.2.1 v0 0) ((14 : Int32) + v1).toNatClampNeg, m2)
    else none,
    fm_bn (f_X12_freeLabels H v0 v1 m2) fun x2 m3 =>
    some (x2, m3),
    fm_bn (f_X12_countLabels H v0 v1 (0 : Int32) m2) fun x3 m4 =>
    some (x3, m4),
    fm_bn (f_X12_countLabels H v0 v1 (3 : Int32) m2) fun x4 m5 =>
    some (x4, m5),
    fm_bn (f_X12_countLabels H v0 v1 (1 : Int32) m2) fun x5 m6 =>
    some (x5, m6),
    fm_bn (f_X12_countLabels H v0 v1 (2 : Int32) m2) fun x6 m7 =>
    some (x6, m7),
    fm_bn (f_X12_linksAt H v0 v1 m2) fun x7 m8 =>
    some (x7, m8)]
    (fm_bn (f_X12_fail H v0 (2 : Int32) m2) fun x8 m9 =>
    some (x8, m9))
set_option maxRecDepth 10000 in
theorem q_X12_node {G : pm_G} {H : fm_H} {d : Nat} {z : Option Nat × Nat × Nat} {v0 : Nat} {v1 : Int32} {v2 : Int32} {m : fm_M} (hE : fm_E G H) (h0 : fm_is H v0 12) : fm_cal G H (d + 4) yX12_node [.ref v0, .int v1, .int v2] z m fm_rI (f_X12_node H v0 v1 v2 m) := fm_mth (d := d + 3) mt_X12_node rfl rfl rfl (fun K => by
  show fm_o fm_rI (f_X12_node H v0 v1 v2 m) K → fm_V G H (d + 3) RX12 cX12_node (some (.int)) z K 0 [some (.ref v0), some (.int v1), some (.int v2)] [] m
  have T : fm_T RX12 cX12_node tc_X12_node fr_X12 mr_X12 cr_X12 lr_X12 := ⟨tok_X12, dc_X12_node⟩
  unfold f_X12_node
  refine fs_r T 2 2 [some (.ref v0), some (.int v1), some (.int v2)] [.int (0 : Int32), .ref v0] rfl ?_
  refine fs_pi T 5 12 7 v0 rfl rfl rfl rfl h0 ?_
  intro m1
  refine fs_r T 2 7 [some (.ref v0), some (.int v1), some (.int v2)] [.int v1, .ref v0] rfl ?_
  refine fs_vI T 10 rfl rfl rfl rfl rfl rfl h0 (q_X12_isNode (d := d + 1) hE h0) ?_
  intro x1 m2
  refine fs_if_ne T 19 13 rfl rfl rfl (fun _ => ?_) (fun _ => ?_)
  · refine fs_r T 2 15 [some (.ref v0), some (.int v1), some (.int v2)] [.int (1 : Int32), .ref v0] rfl ?_
    refine fs_vI T 18 rfl rfl rfl rfl rfl rfl h0 (q_X12_fail (d := d + 2) hE h0) ?_
    intro x9 m10
    exact fs_reti T rfl rfl rfl
  · refine fs_r T 1 20 [some (.ref v0), some (.int v1), some (.int v2)] [.int v2] rfl ?_
    refine fs_tsw T (dflt := 94) (lo := 0) (hi := 6) (offs := #[44, 54, 60, 67, 74, 81, 88]) (t := 114) rfl rfl rfl rfl ⟨⟨64, rfl, ?_⟩, ⟨74, rfl, ?_⟩, ⟨80, rfl, ?_⟩, ⟨87, rfl, ?_⟩, ⟨94, rfl, ?_⟩, ⟨101, rfl, ?_⟩, ⟨108, rfl, ?_⟩, trivial⟩ ?_
    · refine fs_r T 1 65 [some (.ref v0), some (.int v1), some (.int v2)] [.ref v0] rfl ?_
      refine fs_gs T 68 12 0 v0 rfl rfl rfl rfl h0 ?_
      refine fs_r T 3 72 [some (.ref v0), some (.int v1), some (.int v2)] [.int ((14 : Int32) + v1), .ref (H.2.1 v0 0)] rfl ?_
      refine fs_ai T 73 (H.2.1 v0 0) rfl rfl (hE.1 _ 12 0 h0) ?_
      exact fs_reti T rfl rfl rfl
    · refine fs_r T 2 76 [some (.ref v0), some (.int v1), some (.int v2)] [.int v1, .ref v0] rfl ?_
      refine fs_vI T 79 rfl rfl rfl rfl rfl rfl h0 (q_X12_freeLabels (d := d) hE h0) ?_
      intro x2 m3
      exact fs_reti T rfl rfl rfl
    · refine fs_r T 3 83 [some (.ref v0), some (.int v1), some (.int v2)] [.int (0 : Int32), .int v1, .ref v0] rfl ?_
      refine fs_vI T 86 rfl rfl rfl rfl rfl rfl h0 (q_X12_countLabels (d := d + 1) hE h0) ?_
      intro x3 m4
      exact fs_reti T rfl rfl rfl
    · refine fs_r T 3 90 [some (.ref v0), some (.int v1), some (.int v2)] [.int (3 : Int32), .int v1, .ref v0] rfl ?_
      refine fs_vI T 93 rfl rfl rfl rfl rfl rfl h0 (q_X12_countLabels (d := d + 1) hE h0) ?_
      intro x4 m5
      exact fs_reti T rfl rfl rfl
    · refine fs_r T 3 97 [some (.ref v0), some (.int v1), some (.int v2)] [.int (1 : Int32), .int v1, .ref v0] rfl ?_
      refine fs_vI T 100 rfl rfl rfl rfl rfl rfl h0 (q_X12_countLabels (d := d + 1) hE h0) ?_
      intro x5 m6
      exact fs_reti T rfl rfl rfl
    · refine fs_r T 3 104 [some (.ref v0), some (.int v1), some (.int v2)] [.int (2 : Int32), .int v1, .ref v0] rfl ?_
      refine fs_vI T 107 rfl rfl rfl rfl rfl rfl h0 (q_X12_countLabels (d := d + 1) hE h0) ?_
      intro x6 m7
      exact fs_reti T rfl rfl rfl
    · refine fs_r T 2 110 [some (.ref v0), some (.int v1), some (.int v2)] [.int v1, .ref v0] rfl ?_
      refine fs_vI T 113 rfl rfl rfl rfl rfl rfl h0 (q_X12_linksAt (d := d + 1) hE h0) ?_
      intro x7 m8
      exact fs_reti T rfl rfl rfl
    · refine fs_r T 2 116 [some (.ref v0), some (.int v1), some (.int v2)] [.int (2 : Int32), .ref v0] rfl ?_
      refine fs_vI T 119 rfl rfl rfl rfl rfl rfl h0 (q_X12_fail (d := d + 2) hE h0) ?_
      intro x8 m9
      exact fs_reti T rfl rfl rfl)
def f_X12_label (H : fm_H) (v0 : Nat) (v1 : Int32) (v2 : Int32) (v3 : Int32) (m : fm_M) : Option (Int32 × fm_M) :=
  fm_bd (fm_si m v0 7 (0 : Int32)) fun m1 =>
  fm_bn (f_X12_isNode H v0 v1 m1) fun x1 m2 =>
  if x1 = 0 then
    fm_bn (f_X12_fail H v0 (1 : Int32) m2) fun x2 m3 =>
    some (x2, m3)
  else
  if px_inb ((14 : Int32) + v1) (fm_sz H (H.2.1 v0 0)) = true then
    fm_bn (f_X12_isBetween H v2 (0 : Int32) (m2.1 (H.2.1 v0 0) ((14 : Int32) + v1).toNatClampNeg - (1 : Int32)) m2) fun x3 m4 =>
    if x3 = 0 then
      fm_bn (f_X12_fail H v0 (1 : Int32) m4) fun x8 m9 =>
      some (x8, m9)
    else
    fm_bn (f_X12_isBetween H v3 (0 : Int32) (3 : Int32) m4) fun x4 m5 =>
    if x4 = 0 then
      fm_bn (f_X12_fail H v0 (2 : Int32) m5) fun x7 m8 =>
      some (x7, m8)
    else
    fm_bn (f_X12_findHolder H v0 v1 v2 m5) fun x5 m6 =>
    if x5 = 0 then
      some ((-1 : Int32), m6)
    else
    fm_bn (f_X12_wayPlace H (m6.1 v0 18) (m6.1 v0 19) m6) fun x6 m7 =>
    if v3 = 0 then
      if px_inb ((x6 + (1 : Int32)) + m7.1 v0 20) (fm_sz H (H.2.1 v0 0)) = true then
        some (m7.1 (H.2.1 v0 0) ((x6 + (1 : Int32)) + m7.1 v0 20).toNatClampNeg, m7)
      else none
    else
    if v3 = (1 : Int32) then
      some (m7.1 v0 18, m7)
    else
    if v3 = (2 : Int32) then
      some (m7.1 v0 19, m7)
    else
    if px_inb ((x6 + (19 : Int32)) + m7.1 v0 20) (fm_sz H (H.2.1 v0 0)) = true then
      some (m7.1 (H.2.1 v0 0) ((x6 + (19 : Int32)) + m7.1 v0 20).toNatClampNeg, m7)
    else none
  else none
set_option maxRecDepth 10000 in
theorem q_X12_label {G : pm_G} {H : fm_H} {d : Nat} {z : Option Nat × Nat × Nat} {v0 : Nat} {v1 : Int32} {v2 : Int32} {v3 : Int32} {m : fm_M} (hE : fm_E G H) (h0 : fm_is H v0 12) : fm_cal G H (d + 3) yX12_label [.ref v0, .int v1, .int v2, .int v3] z m fm_rI (f_X12_label H v0 v1 v2 v3 m) := fm_mth (d := d + 2) mt_X12_label rfl rfl rfl (fun K => by
  show fm_o fm_rI (f_X12_label H v0 v1 v2 v3 m) K → fm_V G H (d + 2) RX12 cX12_label (some (.int)) z K 0 [some (.ref v0), some (.int v1), some (.int v2), some (.int v3), none] [] m
  have T : fm_T RX12 cX12_label tc_X12_label fr_X12 mr_X12 cr_X12 lr_X12 := ⟨tok_X12, dc_X12_label⟩
  unfold f_X12_label
  refine fs_r T 2 2 [some (.ref v0), some (.int v1), some (.int v2), some (.int v3), none] [.int (0 : Int32), .ref v0] rfl ?_
  refine fs_pi T 5 12 7 v0 rfl rfl rfl rfl h0 ?_
  intro m1
  refine fs_r T 2 7 [some (.ref v0), some (.int v1), some (.int v2), some (.int v3), none] [.int v1, .ref v0] rfl ?_
  refine fs_vI T 10 rfl rfl rfl rfl rfl rfl h0 (q_X12_isNode (d := d) hE h0) ?_
  intro x1 m2
  refine fs_if_eq T 32 13 rfl rfl rfl (fun _ => ?_) (fun _ => ?_)
  · refine fs_r T 2 34 [some (.ref v0), some (.int v1), some (.int v2), some (.int v3), none] [.int (1 : Int32), .ref v0] rfl ?_
    refine fs_vI T 37 rfl rfl rfl rfl rfl rfl h0 (q_X12_fail (d := d + 1) hE h0) ?_
    intro x2 m3
    exact fs_reti T rfl rfl rfl
  · refine fs_r T 3 16 [some (.ref v0), some (.int v1), some (.int v2), some (.int v3), none] [.ref v0, .int (0 : Int32), .int v2] rfl ?_
    refine fs_gs T 19 12 0 v0 rfl rfl rfl rfl h0 ?_
    refine fs_r T 3 23 [some (.ref v0), some (.int v1), some (.int v2), some (.int v3), none] [.int ((14 : Int32) + v1), .ref (H.2.1 v0 0), .int (0 : Int32), .int v2] rfl ?_
    refine fs_ai T 24 (H.2.1 v0 0) rfl rfl (hE.1 _ 12 0 h0) ?_
    refine fs_r T 2 26 [some (.ref v0), some (.int v1), some (.int v2), some (.int v3), none] [.int (m2.1 (H.2.1 v0 0) ((14 : Int32) + v1).toNatClampNeg - (1 : Int32)), .int (0 : Int32), .int v2] rfl ?_
    refine fs_sI T 29 rfl rfl rfl rfl rfl rfl rfl (q_X12_isBetween (d := d + 1) hE ) ?_
    intro x3 m4
    refine fs_if_ne T 38 32 rfl rfl rfl (fun _ => ?_) (fun _ => ?_)
    · refine fs_r T 2 34 [some (.ref v0), some (.int v1), some (.int v2), some (.int v3), none] [.int (1 : Int32), .ref v0] rfl ?_
      refine fs_vI T 37 rfl rfl rfl rfl rfl rfl h0 (q_X12_fail (d := d + 1) hE h0) ?_
      intro x8 m9
      exact fs_reti T rfl rfl rfl
    · refine fs_r T 3 41 [some (.ref v0), some (.int v1), some (.int v2), some (.int v3), none] [.int (3 : Int32), .int (0 : Int32), .int v3] rfl ?_
      refine fs_sI T 44 rfl rfl rfl rfl rfl rfl rfl (q_X12_isBetween (d := d + 1) hE ) ?_
      intro x4 m5
      refine fs_if_ne T 53 47 rfl rfl rfl (fun _ => ?_) (fun _ => ?_)
      · refine fs_r T 2 49 [some (.ref v0), some (.int v1), some (.int v2), some (.int v3), none] [.int (2 : Int32), .ref v0] rfl ?_
        refine fs_vI T 52 rfl rfl rfl rfl rfl rfl h0 (q_X12_fail (d := d + 1) hE h0) ?_
        intro x7 m8
        exact fs_reti T rfl rfl rfl
      · refine fs_r T 3 56 [some (.ref v0), some (.int v1), some (.int v2), some (.int v3), none] [.int v2, .int v1, .ref v0] rfl ?_
        refine fs_vI T 59 rfl rfl rfl rfl rfl rfl h0 (q_X12_findHolder (d := d) hE h0) ?_
        intro x5 m6
        refine fs_if_ne T 64 62 rfl rfl rfl (fun _ => ?_) (fun _ => ?_)
        · refine fs_r T 1 63 [some (.ref v0), some (.int v1), some (.int v2), some (.int v3), none] [.int (-1 : Int32)] rfl ?_
          exact fs_reti T rfl rfl rfl
        · refine fs_r T 1 65 [some (.ref v0), some (.int v1), some (.int v2), some (.int v3), none] [.ref v0] rfl ?_
          refine fs_gi T 68 12 18 v0 rfl rfl rfl rfl h0 ?_
          refine fs_r T 1 69 [some (.ref v0), some (.int v1), some (.int v2), some (.int v3), none] [.ref v0, .int (m6.1 v0 18)] rfl ?_
          refine fs_gi T 72 12 19 v0 rfl rfl rfl rfl h0 ?_
          refine fs_sI T 75 rfl rfl rfl rfl rfl rfl rfl (q_X12_wayPlace (d := d + 1) hE ) ?_
          intro x6 m7
          refine fs_r T 2 78 [some (.ref v0), some (.int v1), some (.int v2), some (.int v3), some (.int x6)] [.int v3] rfl ?_
          refine fs_if_ne T 98 81 rfl rfl rfl (fun _ => ?_) (fun _ => ?_)
          · refine fs_r T 1 82 [some (.ref v0), some (.int v1), some (.int v2), some (.int v3), some (.int x6)] [.ref v0] rfl ?_
            refine fs_gs T 85 12 0 v0 rfl rfl rfl rfl h0 ?_
            refine fs_r T 4 90 [some (.ref v0), some (.int v1), some (.int v2), some (.int v3), some (.int x6)] [.ref v0, .int (x6 + (1 : Int32)), .ref (H.2.1 v0 0)] rfl ?_
            refine fs_gi T 93 12 20 v0 rfl rfl rfl rfl h0 ?_
            refine fs_r T 1 94 [some (.ref v0), some (.int v1), some (.int v2), some (.int v3), some (.int x6)] [.int ((x6 + (1 : Int32)) + m7.1 v0 20), .ref (H.2.1 v0 0)] rfl ?_
            refine fs_ai T 95 (H.2.1 v0 0) rfl rfl (hE.1 _ 12 0 h0) ?_
            refine fs_r T 1 137 [some (.ref v0), some (.int v1), some (.int v2), some (.int v3), some (.int x6)] [.int (m7.1 (H.2.1 v0 0) ((x6 + (1 : Int32)) + m7.1 v0 20).toNatClampNeg)] rfl ?_
            exact fs_reti T rfl rfl rfl
          · refine fs_r T 2 100 [some (.ref v0), some (.int v1), some (.int v2), some (.int v3), some (.int x6)] [.int (1 : Int32), .int v3] rfl ?_
            refine fs_ic_ne T 110 103 rfl rfl rfl (fun _ => ?_) (fun _ => ?_)
            · refine fs_r T 1 104 [some (.ref v0), some (.int v1), some (.int v2), some (.int v3), some (.int x6)] [.ref v0] rfl ?_
              refine fs_gi T 107 12 18 v0 rfl rfl rfl rfl h0 ?_
              refine fs_r T 1 137 [some (.ref v0), some (.int v1), some (.int v2), some (.int v3), some (.int x6)] [.int (m7.1 v0 18)] rfl ?_
              exact fs_reti T rfl rfl rfl
            · refine fs_r T 2 112 [some (.ref v0), some (.int v1), some (.int v2), some (.int v3), some (.int x6)] [.int (2 : Int32), .int v3] rfl ?_
              refine fs_ic_ne T 122 115 rfl rfl rfl (fun _ => ?_) (fun _ => ?_)
              · refine fs_r T 1 116 [some (.ref v0), some (.int v1), some (.int v2), some (.int v3), some (.int x6)] [.ref v0] rfl ?_
                refine fs_gi T 119 12 19 v0 rfl rfl rfl rfl h0 ?_
                refine fs_r T 1 137 [some (.ref v0), some (.int v1), some (.int v2), some (.int v3), some (.int x6)] [.int (m7.1 v0 19)] rfl ?_
                exact fs_reti T rfl rfl rfl
              · refine fs_r T 1 123 [some (.ref v0), some (.int v1), some (.int v2), some (.int v3), some (.int x6)] [.ref v0] rfl ?_
                refine fs_gs T 126 12 0 v0 rfl rfl rfl rfl h0 ?_
                refine fs_r T 4 132 [some (.ref v0), some (.int v1), some (.int v2), some (.int v3), some (.int x6)] [.ref v0, .int (x6 + (19 : Int32)), .ref (H.2.1 v0 0)] rfl ?_
                refine fs_gi T 135 12 20 v0 rfl rfl rfl rfl h0 ?_
                refine fs_r T 1 136 [some (.ref v0), some (.int v1), some (.int v2), some (.int v3), some (.int x6)] [.int ((x6 + (19 : Int32)) + m7.1 v0 20), .ref (H.2.1 v0 0)] rfl ?_
                refine fs_ai T 137 (H.2.1 v0 0) rfl rfl (hE.1 _ 12 0 h0) ?_
                exact fs_reti T rfl rfl rfl)
def f_X12_packetsOn_4 (H : fm_H) (v0 : Nat) (v1 : Int32) : Nat → Int32 → Int32 → fm_M → Option (Int32 × fm_M)
  | 0, _, _, _ => none
  | n + 1, v2, v3, m =>
    if px_inb (6 : Int32) (fm_sz H (H.2.1 v0 0)) = true then
      if m.1 (H.2.1 v0 0) (6 : Int32).toNatClampNeg ≤ v3 then
        some (v2, m)
      else
      fm_bn (f_X12_ofPacket H v0 v3 (2 : Int32) m) fun x1 m1 =>
      if x1 = v1 then
        f_X12_packetsOn_4 H v0 v1 n (v2 + (1 : Int32)) (v3 + 1) m1
      else
      f_X12_packetsOn_4 H v0 v1 n (v2 + (0 : Int32)) (v3 + 1) m1
    else none
set_option maxRecDepth 10000 in
theorem w_X12_packetsOn_4 {G : pm_G} {H : fm_H} {d : Nat} {z : Option Nat × Nat × Nat} {K : pm_R → fm_M → Prop} (hE : fm_E G H) {v0 : Nat} {v1 : Int32} (h0 : fm_is H v0 12) : ∀ (n : Nat) (v2 : Int32) (v3 : Int32) (m : fm_M), fm_o fm_rI (f_X12_packetsOn_4 H v0 v1 n v2 v3 m) K → fm_V G H (d + 1) RX12 cX12_packetsOn (some (.int)) z K 4 [some (.ref v0), some (.int v1), some (.int v2), some (.int v3)] [] m := by
  have T : fm_T RX12 cX12_packetsOn tc_X12_packetsOn fr_X12 mr_X12 cr_X12 lr_X12 := ⟨tok_X12, dc_X12_packetsOn⟩
  intro n
  induction n with
  | zero =>
    intro v2 v3 m 
    exact fs_none
  | succ n ih =>
    intro v2 v3 m 
    unfold f_X12_packetsOn_4
    refine fs_r T 2 6 [some (.ref v0), some (.int v1), some (.int v2), some (.int v3)] [.ref v0, .int v3] rfl ?_
    refine fs_gs T 9 12 0 v0 rfl rfl rfl rfl h0 ?_
    refine fs_r T 1 11 [some (.ref v0), some (.int v1), some (.int v2), some (.int v3)] [.int (6 : Int32), .ref (H.2.1 v0 0), .int v3] rfl ?_
    refine fs_ai T 12 (H.2.1 v0 0) rfl rfl (hE.1 _ 12 0 h0) ?_
    refine fs_ic_ge T 39 15 rfl rfl rfl (fun _ => ?_) (fun _ => ?_)
    · refine fs_r T 1 40 [some (.ref v0), some (.int v1), some (.int v2), some (.int v3)] [.int v2] rfl ?_
      exact fs_reti T rfl rfl rfl
    · refine fs_r T 4 19 [some (.ref v0), some (.int v1), some (.int v2), some (.int v3)] [.int (2 : Int32), .int v3, .ref v0, .int v2] rfl ?_
      refine fs_vI T 22 rfl rfl rfl rfl rfl rfl h0 (q_X12_ofPacket (d := d) hE h0) ?_
      intro x1 m1
      refine fs_r T 1 23 [some (.ref v0), some (.int v1), some (.int v2), some (.int v3)] [.int v1, .int x1, .int v2] rfl ?_
      refine fs_ic_ne T 30 26 rfl rfl rfl (fun _ => ?_) (fun _ => ?_)
      · refine fs_r T 6 4 [some (.ref v0), some (.int v1), some (.int (v2 + (1 : Int32))), some (.int (v3 + 1))] [] rfl ?_
        exact ih _ _ _
      · refine fs_r T 5 4 [some (.ref v0), some (.int v1), some (.int (v2 + (0 : Int32))), some (.int (v3 + 1))] [] rfl ?_
        exact ih _ _ _
def f_X12_packetsOn (H : fm_H) (v0 : Nat) (v1 : Int32) (m : fm_M) : Option (Int32 × fm_M) :=
  f_X12_packetsOn_4 H v0 v1 fm_N (0 : Int32) (0 : Int32) m
set_option maxRecDepth 10000 in
theorem q_X12_packetsOn {G : pm_G} {H : fm_H} {d : Nat} {z : Option Nat × Nat × Nat} {v0 : Nat} {v1 : Int32} {m : fm_M} (hE : fm_E G H) (h0 : fm_is H v0 12) : fm_cal G H (d + 2) yX12_packetsOn [.ref v0, .int v1] z m fm_rI (f_X12_packetsOn H v0 v1 m) := fm_mth (d := d + 1) mt_X12_packetsOn rfl rfl rfl (fun K => by
  show fm_o fm_rI (f_X12_packetsOn H v0 v1 m) K → fm_V G H (d + 1) RX12 cX12_packetsOn (some (.int)) z K 0 [some (.ref v0), some (.int v1), none, none] [] m
  have T : fm_T RX12 cX12_packetsOn tc_X12_packetsOn fr_X12 mr_X12 cr_X12 lr_X12 := ⟨tok_X12, dc_X12_packetsOn⟩
  unfold f_X12_packetsOn
  refine fs_r T 4 4 [some (.ref v0), some (.int v1), some (.int (0 : Int32)), some (.int (0 : Int32))] [] rfl ?_
  exact w_X12_packetsOn_4 hE h0 _ _ _ _)
def f_X12_link (H : fm_H) (v0 : Nat) (v1 : Int32) (v2 : Int32) (m : fm_M) : Option (Int32 × fm_M) :=
  fm_bd (fm_si m v0 7 (0 : Int32)) fun m1 =>
  fm_bn (f_X12_isLink H v0 v1 m1) fun x1 m2 =>
  if x1 = 0 then
    fm_bn (f_X12_fail H v0 (1 : Int32) m2) fun x7 m8 =>
    some (x7, m8)
  else
  if v2.toInt = 5 then
    fm_bn (f_X12_reserved H v0 v1 (-1 : Int32) m2) fun x2 m3 =>
    some (x2, m3)
  else if v2.toInt = 6 then
    fm_bn (f_X12_packetsOn H v0 v1 m2) fun x3 m4 =>
    some (x3, m4)
  else
  fm_bn (f_X12_isBetween H v2 (0 : Int32) (4 : Int32) m2) fun x4 m5 =>
  if x4 = 0 then
    fm_bn (f_X12_fail H v0 (2 : Int32) m5) fun x5 m6 =>
    some (x5, m6)
  else
  fm_bn (f_X12_ofLink H v0 v1 v2 m5) fun x6 m7 =>
  some (x6, m7)
set_option maxRecDepth 10000 in
theorem q_X12_link {G : pm_G} {H : fm_H} {d : Nat} {z : Option Nat × Nat × Nat} {v0 : Nat} {v1 : Int32} {v2 : Int32} {m : fm_M} (hE : fm_E G H) (h0 : fm_is H v0 12) : fm_cal G H (d + 5) yX12_link [.ref v0, .int v1, .int v2] z m fm_rI (f_X12_link H v0 v1 v2 m) := fm_mth (d := d + 4) mt_X12_link rfl rfl rfl (fun K => by
  show fm_o fm_rI (f_X12_link H v0 v1 v2 m) K → fm_V G H (d + 4) RX12 cX12_link (some (.int)) z K 0 [some (.ref v0), some (.int v1), some (.int v2)] [] m
  have T : fm_T RX12 cX12_link tc_X12_link fr_X12 mr_X12 cr_X12 lr_X12 := ⟨tok_X12, dc_X12_link⟩
  unfold f_X12_link
  refine fs_r T 2 2 [some (.ref v0), some (.int v1), some (.int v2)] [.int (0 : Int32), .ref v0] rfl ?_
  refine fs_pi T 5 12 7 v0 rfl rfl rfl rfl h0 ?_
  intro m1
  refine fs_r T 2 7 [some (.ref v0), some (.int v1), some (.int v2)] [.int v1, .ref v0] rfl ?_
  refine fs_vI T 10 rfl rfl rfl rfl rfl rfl h0 (q_X12_isLink (d := d + 2) hE h0) ?_
  intro x1 m2
  refine fs_if_ne T 19 13 rfl rfl rfl (fun _ => ?_) (fun _ => ?_)
  · refine fs_r T 2 15 [some (.ref v0), some (.int v1), some (.int v2)] [.int (1 : Int32), .ref v0] rfl ?_
    refine fs_vI T 18 rfl rfl rfl rfl rfl rfl h0 (q_X12_fail (d := d + 3) hE h0) ?_
    intro x7 m8
    exact fs_reti T rfl rfl rfl
  · refine fs_r T 1 20 [some (.ref v0), some (.int v1), some (.int v2)] [.int v2] rfl ?_
    refine fs_lsw T (t := 61) (t1 := 48) (t2 := 55) rfl (by decide) rfl rfl rfl ?_ ?_ ?_
    · refine fs_r T 3 51 [some (.ref v0), some (.int v1), some (.int v2)] [.int (-1 : Int32), .int v1, .ref v0] rfl ?_
      refine fs_vI T 54 rfl rfl rfl rfl rfl rfl h0 (q_X12_reserved (d := d) hE h0) ?_
      intro x2 m3
      exact fs_reti T rfl rfl rfl
    · refine fs_r T 2 57 [some (.ref v0), some (.int v1), some (.int v2)] [.int v1, .ref v0] rfl ?_
      refine fs_vI T 60 rfl rfl rfl rfl rfl rfl h0 (q_X12_packetsOn (d := d + 2) hE h0) ?_
      intro x3 m4
      exact fs_reti T rfl rfl rfl
    · refine fs_r T 3 64 [some (.ref v0), some (.int v1), some (.int v2)] [.int (4 : Int32), .int (0 : Int32), .int v2] rfl ?_
      refine fs_sI T 67 rfl rfl rfl rfl rfl rfl rfl (q_X12_isBetween (d := d + 3) hE ) ?_
      intro x4 m5
      refine fs_if_eq T 79 70 rfl rfl rfl (fun _ => ?_) (fun _ => ?_)
      · refine fs_r T 2 81 [some (.ref v0), some (.int v1), some (.int v2)] [.int (2 : Int32), .ref v0] rfl ?_
        refine fs_vI T 84 rfl rfl rfl rfl rfl rfl h0 (q_X12_fail (d := d + 3) hE h0) ?_
        intro x5 m6
        exact fs_reti T rfl rfl rfl
      · refine fs_r T 3 73 [some (.ref v0), some (.int v1), some (.int v2)] [.int v2, .int v1, .ref v0] rfl ?_
        refine fs_vI T 76 rfl rfl rfl rfl rfl rfl h0 (q_X12_ofLink (d := d + 3) hE h0) ?_
        intro x6 m7
        refine fs_r T 1 84 [some (.ref v0), some (.int v1), some (.int v2)] [.int x6] rfl ?_
        exact fs_reti T rfl rfl rfl)
def f_X12_isInDraft_2 (H : fm_H) (v0 : Nat) (v1 : Int32) : Nat → Int32 → fm_M → Option (Int32 × fm_M)
  | 0, _, _ => none
  | n + 1, v2, m =>
    if m.1 v0 6 ≤ v2 then
      some ((0 : Int32), m)
    else
    if px_inb v2 (fm_sz H (H.2.1 v0 5)) = true then
      if m.1 (H.2.1 v0 5) v2.toNatClampNeg = v1 then
        some ((1 : Int32), m)
      else
      f_X12_isInDraft_2 H v0 v1 n (v2 + 1) m
    else none
set_option maxRecDepth 10000 in
theorem w_X12_isInDraft_2 {G : pm_G} {H : fm_H} {d : Nat} {z : Option Nat × Nat × Nat} {K : pm_R → fm_M → Prop} (hE : fm_E G H) {v0 : Nat} {v1 : Int32} (h0 : fm_is H v0 12) : ∀ (n : Nat) (v2 : Int32) (m : fm_M), fm_o fm_rI (f_X12_isInDraft_2 H v0 v1 n v2 m) K → fm_V G H (d + 0) RX12 cX12_isInDraft (some (.boolean)) z K 2 [some (.ref v0), some (.int v1), some (.int v2)] [] m := by
  have T : fm_T RX12 cX12_isInDraft tc_X12_isInDraft fr_X12 mr_X12 cr_X12 lr_X12 := ⟨tok_X12, dc_X12_isInDraft⟩
  intro n
  induction n with
  | zero =>
    intro v2 m 
    exact fs_none
  | succ n ih =>
    intro v2 m 
    unfold f_X12_isInDraft_2
    refine fs_r T 2 4 [some (.ref v0), some (.int v1), some (.int v2)] [.ref v0, .int v2] rfl ?_
    refine fs_gi T 7 12 6 v0 rfl rfl rfl rfl h0 ?_
    refine fs_ic_ge T 28 10 rfl rfl rfl (fun _ => ?_) (fun _ => ?_)
    · refine fs_r T 1 29 [some (.ref v0), some (.int v1), some (.int v2)] [.int (0 : Int32)] rfl ?_
      exact fs_retc T rfl rfl rfl rfl
    · refine fs_r T 1 11 [some (.ref v0), some (.int v1), some (.int v2)] [.ref v0] rfl ?_
      refine fs_gs T 14 12 5 v0 rfl rfl rfl rfl h0 ?_
      refine fs_r T 1 15 [some (.ref v0), some (.int v1), some (.int v2)] [.int v2, .ref (H.2.1 v0 5)] rfl ?_
      refine fs_ai T 16 (H.2.1 v0 5) rfl rfl (hE.1 _ 12 5 h0) ?_
      refine fs_r T 1 17 [some (.ref v0), some (.int v1), some (.int v2)] [.int v1, .int (m.1 (H.2.1 v0 5) v2.toNatClampNeg)] rfl ?_
      refine fs_ic_ne T 22 20 rfl rfl rfl (fun _ => ?_) (fun _ => ?_)
      · refine fs_r T 1 21 [some (.ref v0), some (.int v1), some (.int v2)] [.int (1 : Int32)] rfl ?_
        exact fs_retc T rfl rfl rfl rfl
      · refine fs_r T 2 2 [some (.ref v0), some (.int v1), some (.int (v2 + 1))] [] rfl ?_
        exact ih _ _
def f_X12_isInDraft (H : fm_H) (v0 : Nat) (v1 : Int32) (m : fm_M) : Option (Int32 × fm_M) :=
  f_X12_isInDraft_2 H v0 v1 fm_N (0 : Int32) m
set_option maxRecDepth 10000 in
theorem q_X12_isInDraft {G : pm_G} {H : fm_H} {d : Nat} {z : Option Nat × Nat × Nat} {v0 : Nat} {v1 : Int32} {m : fm_M} (hE : fm_E G H) (h0 : fm_is H v0 12) : fm_cal G H (d + 1) yX12_isInDraft [.ref v0, .int v1] z m fm_rI (f_X12_isInDraft H v0 v1 m) := fm_mth (d := d + 0) mt_X12_isInDraft rfl rfl rfl (fun K => by
  show fm_o fm_rI (f_X12_isInDraft H v0 v1 m) K → fm_V G H (d + 0) RX12 cX12_isInDraft (some (.boolean)) z K 0 [some (.ref v0), some (.int v1), none] [] m
  have T : fm_T RX12 cX12_isInDraft tc_X12_isInDraft fr_X12 mr_X12 cr_X12 lr_X12 := ⟨tok_X12, dc_X12_isInDraft⟩
  unfold f_X12_isInDraft
  refine fs_r T 2 2 [some (.ref v0), some (.int v1), some (.int (0 : Int32))] [] rfl ?_
  exact w_X12_isInDraft_2 hE h0 _ _ _)
def f_X12_draft_69 (H : fm_H) (v0 : Nat) (v1 : Int32) (m : fm_M) : Option (Int32 × fm_M) :=
  if px_inb (m.1 v0 6) (fm_sz H (H.2.1 v0 5)) = true then
    (fm_bd (fm_si m (H.2.1 v0 5) (m.1 v0 6).toNatClampNeg v1) fun m1 =>
    fm_bd (fm_si m1 v0 6 (m1.1 v0 6 + (1 : Int32))) fun m2 =>
    some (m2.1 v0 6, m2))
  else none
set_option maxRecDepth 10000 in
theorem w_X12_draft_69 {G : pm_G} {H : fm_H} {d : Nat} {z : Option Nat × Nat × Nat} {K : pm_R → fm_M → Prop} (hE : fm_E G H) {v0 : Nat} {v1 : Int32} (h0 : fm_is H v0 12) : ∀ (m : fm_M), fm_o fm_rI (f_X12_draft_69 H v0 v1 m) K → fm_V G H (d + 2) RX12 cX12_draft (some (.int)) z K 69 [some (.ref v0), some (.int v1)] [] m := by
  have T : fm_T RX12 cX12_draft tc_X12_draft fr_X12 mr_X12 cr_X12 lr_X12 := ⟨tok_X12, dc_X12_draft⟩
  intro m
  unfold f_X12_draft_69
  refine fs_r T 1 70 [some (.ref v0), some (.int v1)] [.ref v0] rfl ?_
  refine fs_gs T 73 12 5 v0 rfl rfl rfl rfl h0 ?_
  refine fs_r T 1 74 [some (.ref v0), some (.int v1)] [.ref v0, .ref (H.2.1 v0 5)] rfl ?_
  refine fs_gi T 77 12 6 v0 rfl rfl rfl rfl h0 ?_
  refine fs_r T 1 78 [some (.ref v0), some (.int v1)] [.int v1, .int (m.1 v0 6), .ref (H.2.1 v0 5)] rfl ?_
  refine fs_si T 79 (H.2.1 v0 5) rfl rfl (hE.1 _ 12 5 h0) ?_
  intro m1
  refine fs_r T 2 81 [some (.ref v0), some (.int v1)] [.ref v0, .ref v0] rfl ?_
  refine fs_gi T 84 12 6 v0 rfl rfl rfl rfl h0 ?_
  refine fs_r T 2 86 [some (.ref v0), some (.int v1)] [.int (m1.1 v0 6 + (1 : Int32)), .ref v0] rfl ?_
  refine fs_pi T 89 12 6 v0 rfl rfl rfl rfl h0 ?_
  intro m2
  refine fs_r T 1 90 [some (.ref v0), some (.int v1)] [.ref v0] rfl ?_
  refine fs_gi T 93 12 6 v0 rfl rfl rfl rfl h0 ?_
  exact fs_reti T rfl rfl rfl
def f_X12_draft (H : fm_H) (v0 : Nat) (v1 : Int32) (m : fm_M) : Option (Int32 × fm_M) :=
  fm_bd (fm_si m v0 7 (0 : Int32)) fun m1 =>
  fm_bn (f_X12_isNode H v0 v1 m1) fun x1 m2 =>
  if x1 = 0 then
    fm_bn (f_X12_fail H v0 (1 : Int32) m2) fun x7 m8 =>
    some (x7, m8)
  else
  if m2.1 v0 6 = (6 : Int32) then
    fm_bn (f_X12_fail H v0 (2 : Int32) m2) fun x2 m3 =>
    some (x2, m3)
  else
  fm_bn (f_X12_isInDraft H v0 v1 m2) fun x3 m4 =>
  if x3 = 0 then
    if m4.1 v0 6 ≤ 0 then
      f_X12_draft_69 H v0 v1 m4
    else
    if px_inb (m4.1 v0 6 - (1 : Int32)) (fm_sz H (H.2.1 v0 5)) = true then
      fm_bn (f_X12_linkOf H v0 (m4.1 (H.2.1 v0 5) (m4.1 v0 6 - (1 : Int32)).toNatClampNeg) v1 m4) fun x5 m6 =>
      if x5 = (-1 : Int32) then
        fm_bn (f_X12_fail H v0 (2 : Int32) m6) fun x6 m7 =>
        some (x6, m7)
      else
      f_X12_draft_69 H v0 v1 m6
    else none
  else
  fm_bn (f_X12_fail H v0 (2 : Int32) m4) fun x4 m5 =>
  some (x4, m5)
set_option maxRecDepth 10000 in
theorem q_X12_draft {G : pm_G} {H : fm_H} {d : Nat} {z : Option Nat × Nat × Nat} {v0 : Nat} {v1 : Int32} {m : fm_M} (hE : fm_E G H) (h0 : fm_is H v0 12) : fm_cal G H (d + 3) yX12_draft [.ref v0, .int v1] z m fm_rI (f_X12_draft H v0 v1 m) := fm_mth (d := d + 2) mt_X12_draft rfl rfl rfl (fun K => by
  show fm_o fm_rI (f_X12_draft H v0 v1 m) K → fm_V G H (d + 2) RX12 cX12_draft (some (.int)) z K 0 [some (.ref v0), some (.int v1)] [] m
  have T : fm_T RX12 cX12_draft tc_X12_draft fr_X12 mr_X12 cr_X12 lr_X12 := ⟨tok_X12, dc_X12_draft⟩
  unfold f_X12_draft
  refine fs_r T 2 2 [some (.ref v0), some (.int v1)] [.int (0 : Int32), .ref v0] rfl ?_
  refine fs_pi T 5 12 7 v0 rfl rfl rfl rfl h0 ?_
  intro m1
  refine fs_r T 2 7 [some (.ref v0), some (.int v1)] [.int v1, .ref v0] rfl ?_
  refine fs_vI T 10 rfl rfl rfl rfl rfl rfl h0 (q_X12_isNode (d := d) hE h0) ?_
  intro x1 m2
  refine fs_if_ne T 19 13 rfl rfl rfl (fun _ => ?_) (fun _ => ?_)
  · refine fs_r T 2 15 [some (.ref v0), some (.int v1)] [.int (1 : Int32), .ref v0] rfl ?_
    refine fs_vI T 18 rfl rfl rfl rfl rfl rfl h0 (q_X12_fail (d := d + 1) hE h0) ?_
    intro x7 m8
    exact fs_reti T rfl rfl rfl
  · refine fs_r T 1 20 [some (.ref v0), some (.int v1)] [.ref v0] rfl ?_
    refine fs_gi T 23 12 6 v0 rfl rfl rfl rfl h0 ?_
    refine fs_r T 1 25 [some (.ref v0), some (.int v1)] [.int (6 : Int32), .int (m2.1 v0 6)] rfl ?_
    refine fs_ic_eq T 63 28 rfl rfl rfl (fun _ => ?_) (fun _ => ?_)
    · refine fs_r T 2 65 [some (.ref v0), some (.int v1)] [.int (2 : Int32), .ref v0] rfl ?_
      refine fs_vI T 68 rfl rfl rfl rfl rfl rfl h0 (q_X12_fail (d := d + 1) hE h0) ?_
      intro x2 m3
      exact fs_reti T rfl rfl rfl
    · refine fs_r T 2 30 [some (.ref v0), some (.int v1)] [.int v1, .ref v0] rfl ?_
      refine fs_vI T 33 rfl rfl rfl rfl rfl rfl h0 (q_X12_isInDraft (d := d + 1) hE h0) ?_
      intro x3 m4
      refine fs_if_ne T 63 36 rfl rfl rfl (fun _ => ?_) (fun _ => ?_)
      · refine fs_r T 1 37 [some (.ref v0), some (.int v1)] [.ref v0] rfl ?_
        refine fs_gi T 40 12 6 v0 rfl rfl rfl rfl h0 ?_
        refine fs_if_le T 69 43 rfl rfl rfl (fun _ => ?_) (fun _ => ?_)
        · exact w_X12_draft_69 hE h0 _
        · refine fs_r T 2 45 [some (.ref v0), some (.int v1)] [.ref v0, .ref v0] rfl ?_
          refine fs_gs T 48 12 5 v0 rfl rfl rfl rfl h0 ?_
          refine fs_r T 1 49 [some (.ref v0), some (.int v1)] [.ref v0, .ref (H.2.1 v0 5), .ref v0] rfl ?_
          refine fs_gi T 52 12 6 v0 rfl rfl rfl rfl h0 ?_
          refine fs_r T 2 54 [some (.ref v0), some (.int v1)] [.int (m4.1 v0 6 - (1 : Int32)), .ref (H.2.1 v0 5), .ref v0] rfl ?_
          refine fs_ai T 55 (H.2.1 v0 5) rfl rfl (hE.1 _ 12 5 h0) ?_
          refine fs_r T 1 56 [some (.ref v0), some (.int v1)] [.int v1, .int (m4.1 (H.2.1 v0 5) (m4.1 v0 6 - (1 : Int32)).toNatClampNeg), .ref v0] rfl ?_
          refine fs_vI T 59 rfl rfl rfl rfl rfl rfl h0 (q_X12_linkOf (d := d) hE h0) ?_
          intro x5 m6
          refine fs_r T 1 60 [some (.ref v0), some (.int v1)] [.int (-1 : Int32), .int x5] rfl ?_
          refine fs_ic_ne T 69 63 rfl rfl rfl (fun _ => ?_) (fun _ => ?_)
          · refine fs_r T 2 65 [some (.ref v0), some (.int v1)] [.int (2 : Int32), .ref v0] rfl ?_
            refine fs_vI T 68 rfl rfl rfl rfl rfl rfl h0 (q_X12_fail (d := d + 1) hE h0) ?_
            intro x6 m7
            exact fs_reti T rfl rfl rfl
          · exact w_X12_draft_69 hE h0 _
      · refine fs_r T 2 65 [some (.ref v0), some (.int v1)] [.int (2 : Int32), .ref v0] rfl ?_
        refine fs_vI T 68 rfl rfl rfl rfl rfl rfl h0 (q_X12_fail (d := d + 1) hE h0) ?_
        intro x4 m5
        exact fs_reti T rfl rfl rfl)
