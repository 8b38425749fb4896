/-! functions out of the code -/
def f_X12_packetsOf_4 (H : fm_H) (v0 : Nat) (v1 : Int32) : Nat → Int32 → Int32 → fm_M → Option (Int32 × fm_M)
  | 0, _, _, _ => none
  | n + 1, v2, v3, m =>
    if px_inb (6 : Int32) (fm_sz H (H.2.1 v0 0)) = true then
      if m.1 (H.2.1 v0 0) (6 : Int32).toNatClampNeg ≤ v3 then
        some (v2, m)
      else
      fm_bn (f_X12_ofPacket H v0 v3 (0 : Int32) m) fun x1 m1 =>
      if x1 = v1 then
        f_X12_packetsOf_4 H v0 v1 n (v2 + (1 : Int32)) (v3 + 1) m1
      else
      f_X12_packetsOf_4 H v0 v1 n (v2 + (0 : Int32)) (v3 + 1) m1
    else none
set_option maxRecDepth 10000 in
theorem w_X12_packetsOf_4 {G : pm_G} {H : fm_H} {d : Nat} {z : Option Nat × Nat × Nat} {K : pm_R → fm_M → Prop} (hE : fm_E G H) {v0 : Nat} {v1 : Int32} (h0 : fm_is H v0 12) : ∀ (n : Nat) (v2 : Int32) (v3 : Int32) (m : fm_M), fm_o fm_rI (f_X12_packetsOf_4 H v0 v1 n v2 v3 m) K → fm_V G H (d + 1) RX12 cX12_packetsOf (some (.int)) z K 4 [some (.ref v0), some (.int v1), some (.int v2), some (.int v3)] [] m := by
  have T : fm_T RX12 cX12_packetsOf tc_X12_packetsOf fr_X12 mr_X12 cr_X12 lr_X12 := ⟨tok_X12, dc_X12_packetsOf⟩
  intro n
  induction n with
  | zero =>
    intro v2 v3 m 
    exact fs_none
  | succ n ih =>
    intro v2 v3 m 
    unfold f_X12_packetsOf_4
    refine fs_r T 2 6 [some (.ref v0), some (.int v1), some (.int v2), some (.int v3)] [.ref v0, .int v3] rfl ?_
    refine fs_gs T 9 12 0 v0 rfl rfl rfl rfl h0 ?_
    refine fs_r T 1 11 [some (.ref v0), some (.int v1), some (.int v2), some (.int v3)] [.int (6 : Int32), .ref (H.2.1 v0 0), .int v3] rfl ?_
    refine fs_ai T 12 (H.2.1 v0 0) rfl rfl (hE.1 _ 12 0 h0) ?_
    refine fs_ic_ge T 39 15 rfl rfl rfl (fun _ => ?_) (fun _ => ?_)
    · refine fs_r T 1 40 [some (.ref v0), some (.int v1), some (.int v2), some (.int v3)] [.int v2] rfl ?_
      exact fs_reti T rfl rfl rfl
    · refine fs_r T 4 19 [some (.ref v0), some (.int v1), some (.int v2), some (.int v3)] [.int (0 : Int32), .int v3, .ref v0, .int v2] rfl ?_
      refine fs_vI T 22 rfl rfl rfl rfl rfl rfl h0 (q_X12_ofPacket (d := d) hE h0) ?_
      intro x1 m1
      refine fs_r T 1 23 [some (.ref v0), some (.int v1), some (.int v2), some (.int v3)] [.int v1, .int x1, .int v2] rfl ?_
      refine fs_ic_ne T 30 26 rfl rfl rfl (fun _ => ?_) (fun _ => ?_)
      · refine fs_r T 6 4 [some (.ref v0), some (.int v1), some (.int (v2 + (1 : Int32))), some (.int (v3 + 1))] [] rfl ?_
        exact ih _ _ _
      · refine fs_r T 5 4 [some (.ref v0), some (.int v1), some (.int (v2 + (0 : Int32))), some (.int (v3 + 1))] [] rfl ?_
        exact ih _ _ _
def f_X12_packetsOf (H : fm_H) (v0 : Nat) (v1 : Int32) (m : fm_M) : Option (Int32 × fm_M) :=
  f_X12_packetsOf_4 H v0 v1 fm_N (0 : Int32) (0 : Int32) m
set_option maxRecDepth 10000 in
theorem q_X12_packetsOf {G : pm_G} {H : fm_H} {d : Nat} {z : Option Nat × Nat × Nat} {v0 : Nat} {v1 : Int32} {m : fm_M} (hE : fm_E G H) (h0 : fm_is H v0 12) : fm_cal G H (d + 2) yX12_packetsOf [.ref v0, .int v1] z m fm_rI (f_X12_packetsOf H v0 v1 m) := fm_mth (d := d + 1) mt_X12_packetsOf rfl rfl rfl (fun K => by
  show fm_o fm_rI (f_X12_packetsOf H v0 v1 m) K → fm_V G H (d + 1) RX12 cX12_packetsOf (some (.int)) z K 0 [some (.ref v0), some (.int v1), none, none] [] m
  have T : fm_T RX12 cX12_packetsOf tc_X12_packetsOf fr_X12 mr_X12 cr_X12 lr_X12 := ⟨tok_X12, dc_X12_packetsOf⟩
  unfold f_X12_packetsOf
  refine fs_r T 4 4 [some (.ref v0), some (.int v1), some (.int (0 : Int32)), some (.int (0 : Int32))] [] rfl ?_
  exact w_X12_packetsOf_4 hE h0 _ _ _ _)
def f_X12_close_107 (H : fm_H) (v0 : Nat) (v1 : Int32) : Nat → Int32 → fm_M → Option (Int32 × fm_M)
  | 0, _, _ => none
  | n + 1, v2, m =>
    if px_inb (6 : Int32) (fm_sz H (H.2.1 v0 0)) = true then
      if m.1 (H.2.1 v0 0) (6 : Int32).toNatClampNeg ≤ v2 then
        some ((0 : Int32), m)
      else
      if px_inb ((632 : Int32) + ((8 : Int32) * v2)) (fm_sz H (H.2.1 v0 0)) = true then
        fm_bn (f_X12_ofPacket H v0 v2 (0 : Int32) m) fun x1 m1 =>
        if x1 ≤ v1 then
          if px_inb ((632 : Int32) + ((8 : Int32) * v2)) (fm_sz H (H.2.1 v0 0)) = true then
            (fm_bd (fm_si m1 (H.2.1 v0 0) ((632 : Int32) + ((8 : Int32) * v2)).toNatClampNeg (m.1 (H.2.1 v0 0) ((632 : Int32) + ((8 : Int32) * v2)).toNatClampNeg - (0 : Int32))) fun m2 =>
            f_X12_close_107 H v0 v1 n (v2 + 1) m2)
          else none
        else
        if px_inb ((632 : Int32) + ((8 : Int32) * v2)) (fm_sz H (H.2.1 v0 0)) = true then
          (fm_bd (fm_si m1 (H.2.1 v0 0) ((632 : Int32) + ((8 : Int32) * v2)).toNatClampNeg (m.1 (H.2.1 v0 0) ((632 : Int32) + ((8 : Int32) * v2)).toNatClampNeg - (1 : Int32))) fun m3 =>
          f_X12_close_107 H v0 v1 n (v2 + 1) m3)
        else none
      else none
    else none
set_option maxRecDepth 10000 in
theorem w_X12_close_107 {G : pm_G} {H : fm_H} {d : Nat} {z : Option Nat × Nat × Nat} {K : pm_R → fm_M → Prop} (hE : fm_E G H) {v0 : Nat} {v1 : Int32} (h0 : fm_is H v0 12) : ∀ (n : Nat) (v2 : Int32) (m : fm_M), fm_o fm_rI (f_X12_close_107 H v0 v1 n v2 m) K → fm_V G H (d + 2) RX12 cX12_close (some (.int)) z K 107 [some (.ref v0), some (.int v1), some (.int v2)] [] m := by
  have T : fm_T RX12 cX12_close tc_X12_close fr_X12 mr_X12 cr_X12 lr_X12 := ⟨tok_X12, dc_X12_close⟩
  intro n
  induction n with
  | zero =>
    intro v2 m 
    exact fs_none
  | succ n ih =>
    intro v2 m 
    unfold f_X12_close_107
    refine fs_r T 2 109 [some (.ref v0), some (.int v1), some (.int v2)] [.ref v0, .int v2] rfl ?_
    refine fs_gs T 112 12 0 v0 rfl rfl rfl rfl h0 ?_
    refine fs_r T 1 114 [some (.ref v0), some (.int v1), some (.int v2)] [.int (6 : Int32), .ref (H.2.1 v0 0), .int v2] rfl ?_
    refine fs_ai T 115 (H.2.1 v0 0) rfl rfl (hE.1 _ 12 0 h0) ?_
    refine fs_ic_ge T 155 118 rfl rfl rfl (fun _ => ?_) (fun _ => ?_)
    · refine fs_r T 1 156 [some (.ref v0), some (.int v1), some (.int v2)] [.int (0 : Int32)] rfl ?_
      exact fs_reti T rfl rfl rfl
    · refine fs_r T 1 119 [some (.ref v0), some (.int v1), some (.int v2)] [.ref v0] rfl ?_
      refine fs_gs T 122 12 0 v0 rfl rfl rfl rfl h0 ?_
      refine fs_r T 6 131 [some (.ref v0), some (.int v1), some (.int v2)] [.int ((632 : Int32) + ((8 : Int32) * v2)), .ref (H.2.1 v0 0), .int ((632 : Int32) + ((8 : Int32) * v2)), .ref (H.2.1 v0 0)] rfl ?_
      refine fs_ai T 132 (H.2.1 v0 0) rfl rfl (hE.1 _ 12 0 h0) ?_
      refine fs_r T 3 135 [some (.ref v0), some (.int v1), some (.int v2)] [.int (0 : Int32), .int v2, .ref v0, .int (m.1 (H.2.1 v0 0) ((632 : Int32) + ((8 : Int32) * v2)).toNatClampNeg), .int ((632 : Int32) + ((8 : Int32) * v2)), .ref (H.2.1 v0 0)] rfl ?_
      refine fs_vI T 138 rfl rfl rfl rfl rfl rfl h0 (q_X12_ofPacket (d := d + 1) hE h0) ?_
      intro x1 m1
      refine fs_r T 1 139 [some (.ref v0), some (.int v1), some (.int v2)] [.int v1, .int x1, .int (m.1 (H.2.1 v0 0) ((632 : Int32) + ((8 : Int32) * v2)).toNatClampNeg), .int ((632 : Int32) + ((8 : Int32) * v2)), .ref (H.2.1 v0 0)] rfl ?_
      refine fs_ic_le T 146 142 rfl rfl rfl (fun _ => ?_) (fun _ => ?_)
      · refine fs_r T 2 148 [some (.ref v0), some (.int v1), some (.int v2)] [.int (m.1 (H.2.1 v0 0) ((632 : Int32) + ((8 : Int32) * v2)).toNatClampNeg - (0 : Int32)), .int ((632 : Int32) + ((8 : Int32) * v2)), .ref (H.2.1 v0 0)] rfl ?_
        refine fs_si T 149 (H.2.1 v0 0) rfl rfl (hE.1 _ 12 0 h0) ?_
        intro m2
        refine fs_r T 2 107 [some (.ref v0), some (.int v1), some (.int (v2 + 1))] [] rfl ?_
        exact ih _ _
      · refine fs_r T 3 148 [some (.ref v0), some (.int v1), some (.int v2)] [.int (m.1 (H.2.1 v0 0) ((632 : Int32) + ((8 : Int32) * v2)).toNatClampNeg - (1 : Int32)), .int ((632 : Int32) + ((8 : Int32) * v2)), .ref (H.2.1 v0 0)] rfl ?_
        refine fs_si T 149 (H.2.1 v0 0) rfl rfl (hE.1 _ 12 0 h0) ?_
        intro m3
        refine fs_r T 2 107 [some (.ref v0), some (.int v1), some (.int (v2 + 1))] [] rfl ?_
        exact ih _ _
def f_X12_close_68 (H : fm_H) (v0 : Nat) (v1 : Int32) : Nat → Int32 → fm_M → Option (Int32 × fm_M)
  | 0, _, _ => none
  | n + 1, v2, m =>
    if px_inb (4 : Int32) (fm_sz H (H.2.1 v0 0)) = true then
      if ((104 : Int32) + ((66 : Int32) * m.1 (H.2.1 v0 0) (4 : Int32).toNatClampNeg)) ≤ v2 then
        f_X12_close_107 H v0 v1 fm_N (0 : Int32) m
      else
      if px_inb (v2 + (66 : Int32)) (fm_sz H (H.2.1 v0 0)) = true then
        if px_inb v2 (fm_sz H (H.2.1 v0 0)) = true then
          (fm_bd (fm_si m (H.2.1 v0 0) v2.toNatClampNeg (m.1 (H.2.1 v0 0) (v2 + (66 : Int32)).toNatClampNeg)) fun m1 =>
          f_X12_close_68 H v0 v1 n (v2 + 1) m1)
        else none
      else none
    else none
set_option maxRecDepth 10000 in
theorem w_X12_close_68 {G : pm_G} {H : fm_H} {d : Nat} {z : Option Nat × Nat × Nat} {K : pm_R → fm_M → Prop} (hE : fm_E G H) {v0 : Nat} {v1 : Int32} (h0 : fm_is H v0 12) : ∀ (n : Nat) (v2 : Int32) (m : fm_M), fm_o fm_rI (f_X12_close_68 H v0 v1 n v2 m) K → fm_V G H (d + 2) RX12 cX12_close (some (.int)) z K 68 [some (.ref v0), some (.int v1), some (.int v2)] [] m := by
  have T : fm_T RX12 cX12_close tc_X12_close fr_X12 mr_X12 cr_X12 lr_X12 := ⟨tok_X12, dc_X12_close⟩
  intro n
  induction n with
  | zero =>
    intro v2 m 
    exact fs_none
  | succ n ih =>
    intro v2 m 
    unfold f_X12_close_68
    refine fs_r T 4 74 [some (.ref v0), some (.int v1), some (.int v2)] [.ref v0, .int (66 : Int32), .int (104 : Int32), .int v2] rfl ?_
    refine fs_gs T 77 12 0 v0 rfl rfl rfl rfl h0 ?_
    refine fs_r T 1 78 [some (.ref v0), some (.int v1), some (.int v2)] [.int (4 : Int32), .ref (H.2.1 v0 0), .int (66 : Int32), .int (104 : Int32), .int v2] rfl ?_
    refine fs_ai T 79 (H.2.1 v0 0) rfl rfl (hE.1 _ 12 0 h0) ?_
    refine fs_r T 2 81 [some (.ref v0), some (.int v1), some (.int v2)] [.int ((104 : Int32) + ((66 : Int32) * m.1 (H.2.1 v0 0) (4 : Int32).toNatClampNeg)), .int v2] rfl ?_
    refine fs_ic_ge T 105 84 rfl rfl rfl (fun _ => ?_) (fun _ => ?_)
    · refine fs_r T 2 107 [some (.ref v0), some (.int v1), some (.int (0 : Int32))] [] rfl ?_
      exact w_X12_close_107 hE h0 _ _ _
    · refine fs_r T 1 85 [some (.ref v0), some (.int v1), some (.int v2)] [.ref v0] rfl ?_
      refine fs_gs T 88 12 0 v0 rfl rfl rfl rfl h0 ?_
      refine fs_r T 2 90 [some (.ref v0), some (.int v1), some (.int v2)] [.ref v0, .int v2, .ref (H.2.1 v0 0)] rfl ?_
      refine fs_gs T 93 12 0 v0 rfl rfl rfl rfl h0 ?_
      refine fs_r T 3 97 [some (.ref v0), some (.int v1), some (.int v2)] [.int (v2 + (66 : Int32)), .ref (H.2.1 v0 0), .int v2, .ref (H.2.1 v0 0)] rfl ?_
      refine fs_ai T 98 (H.2.1 v0 0) rfl rfl (hE.1 _ 12 0 h0) ?_
      refine fs_si T 99 (H.2.1 v0 0) rfl rfl (hE.1 _ 12 0 h0) ?_
      intro m1
      refine fs_r T 2 68 [some (.ref v0), some (.int v1), some (.int (v2 + 1))] [] rfl ?_
      exact ih _ _
def f_X12_close (H : fm_H) (v0 : Nat) (v1 : Int32) (m : fm_M) : Option (Int32 × fm_M) :=
  fm_bd (fm_si m v0 7 (0 : Int32)) fun m1 =>
  fm_bn (f_X12_isCircuit H v0 v1 m1) fun x1 m2 =>
  if x1 = 0 then
    fm_bn (f_X12_fail H v0 (1 : Int32) m2) fun x5 m7 =>
    some (x5, m7)
  else
  fm_bn (f_X12_of H v0 v1 (2 : Int32) m2) fun x2 m3 =>
  if x2 ≤ 0 then
    fm_bn (f_X12_packetsOf H v0 v1 m3) fun x3 m4 =>
    if 0 < x3 then
      some ((8 : Int32), m4)
    else
    fm_bn (f_X12_of H v0 v1 (5 : Int32) m4) fun x4 m5 =>
    if x4 ≤ 0 then
      if px_inb (4 : Int32) (fm_sz H (H.2.1 v0 0)) = true then
        if px_inb (4 : Int32) (fm_sz H (H.2.1 v0 0)) = true then
          (fm_bd (fm_si m5 (H.2.1 v0 0) (4 : Int32).toNatClampNeg (m5.1 (H.2.1 v0 0) (4 : Int32).toNatClampNeg - (1 : Int32))) fun m6 =>
          f_X12_close_68 H v0 v1 fm_N ((104 : Int32) + ((66 : Int32) * v1)) m6)
        else none
      else none
    else
    some ((8 : Int32), m5)
  else
  some ((2 : Int32), m3)
set_option maxRecDepth 10000 in
theorem q_X12_close {G : pm_G} {H : fm_H} {d : Nat} {z : Option Nat × Nat × Nat} {v0 : Nat} {v1 : Int32} {m : fm_M} (hE : fm_E G H) (h0 : fm_is H v0 12) : fm_cal G H (d + 3) yX12_close [.ref v0, .int v1] z m fm_rI (f_X12_close H v0 v1 m) := fm_mth (d := d + 2) mt_X12_close rfl rfl rfl (fun K => by
  show fm_o fm_rI (f_X12_close H v0 v1 m) K → fm_V G H (d + 2) RX12 cX12_close (some (.int)) z K 0 [some (.ref v0), some (.int v1), none] [] m
  have T : fm_T RX12 cX12_close tc_X12_close fr_X12 mr_X12 cr_X12 lr_X12 := ⟨tok_X12, dc_X12_close⟩
  unfold f_X12_close
  refine fs_r T 2 2 [some (.ref v0), some (.int v1), none] [.int (0 : Int32), .ref v0] rfl ?_
  refine fs_pi T 5 12 7 v0 rfl rfl rfl rfl h0 ?_
  intro m1
  refine fs_r T 2 7 [some (.ref v0), some (.int v1), none] [.int v1, .ref v0] rfl ?_
  refine fs_vI T 10 rfl rfl rfl rfl rfl rfl h0 (q_X12_isCircuit (d := d) hE h0) ?_
  intro x1 m2
  refine fs_if_ne T 19 13 rfl rfl rfl (fun _ => ?_) (fun _ => ?_)
  · refine fs_r T 2 15 [some (.ref v0), some (.int v1), none] [.int (1 : Int32), .ref v0] rfl ?_
    refine fs_vI T 18 rfl rfl rfl rfl rfl rfl h0 (q_X12_fail (d := d + 1) hE h0) ?_
    intro x5 m7
    exact fs_reti T rfl rfl rfl
  · refine fs_r T 3 22 [some (.ref v0), some (.int v1), none] [.int (2 : Int32), .int v1, .ref v0] rfl ?_
    refine fs_vI T 25 rfl rfl rfl rfl rfl rfl h0 (q_X12_of (d := d + 1) hE h0) ?_
    intro x2 m3
    refine fs_if_le T 30 28 rfl rfl rfl (fun _ => ?_) (fun _ => ?_)
    · refine fs_r T 2 32 [some (.ref v0), some (.int v1), none] [.int v1, .ref v0] rfl ?_
      refine fs_vI T 35 rfl rfl rfl rfl rfl rfl h0 (q_X12_packetsOf (d := d) hE h0) ?_
      intro x3 m4
      refine fs_if_gt T 47 38 rfl rfl rfl (fun _ => ?_) (fun _ => ?_)
      · refine fs_r T 1 49 [some (.ref v0), some (.int v1), none] [.int (8 : Int32)] rfl ?_
        exact fs_reti T rfl rfl rfl
      · refine fs_r T 3 41 [some (.ref v0), some (.int v1), none] [.int (5 : Int32), .int v1, .ref v0] rfl ?_
        refine fs_vI T 44 rfl rfl rfl rfl rfl rfl h0 (q_X12_of (d := d + 1) hE h0) ?_
        intro x4 m5
        refine fs_if_le T 50 47 rfl rfl rfl (fun _ => ?_) (fun _ => ?_)
        · refine fs_r T 1 51 [some (.ref v0), some (.int v1), none] [.ref v0] rfl ?_
          refine fs_gs T 54 12 0 v0 rfl rfl rfl rfl h0 ?_
          refine fs_r T 2 56 [some (.ref v0), some (.int v1), none] [.int (4 : Int32), .ref (H.2.1 v0 0), .int (4 : Int32), .ref (H.2.1 v0 0)] rfl ?_
          refine fs_ai T 57 (H.2.1 v0 0) rfl rfl (hE.1 _ 12 0 h0) ?_
          refine fs_r T 2 59 [some (.ref v0), some (.int v1), none] [.int (m5.1 (H.2.1 v0 0) (4 : Int32).toNatClampNeg - (1 : Int32)), .int (4 : Int32), .ref (H.2.1 v0 0)] rfl ?_
          refine fs_si T 60 (H.2.1 v0 0) rfl rfl (hE.1 _ 12 0 h0) ?_
          intro m6
          refine fs_r T 6 68 [some (.ref v0), some (.int v1), some (.int ((104 : Int32) + ((66 : Int32) * v1)))] [] rfl ?_
          exact w_X12_close_68 hE h0 _ _ _
        · refine fs_r T 1 49 [some (.ref v0), some (.int v1), none] [.int (8 : Int32)] rfl ?_
          exact fs_reti T rfl rfl rfl
    · refine fs_r T 1 29 [some (.ref v0), some (.int v1), none] [.int (2 : Int32)] rfl ?_
      exact fs_reti T rfl rfl rfl)
def f_X12_firstOf (H : fm_H) (v0 : Nat) (v1 : Int32) (m : fm_M) : Option (Int32 × fm_M) :=
  fm_bn (f_X12_wayPlace H v1 (0 : Int32) m) fun x1 m1 =>
  if px_inb (x1 + (1 : Int32)) (fm_sz H (H.2.1 v0 0)) = true then
    some (m1.1 (H.2.1 v0 0) (x1 + (1 : Int32)).toNatClampNeg, m1)
  else none
set_option maxRecDepth 10000 in
theorem q_X12_firstOf {G : pm_G} {H : fm_H} {d : Nat} {z : Option Nat × Nat × Nat} {v0 : Nat} {v1 : Int32} {m : fm_M} (hE : fm_E G H) (h0 : fm_is H v0 12) : fm_cal G H (d + 2) yX12_firstOf [.ref v0, .int v1] z m fm_rI (f_X12_firstOf H v0 v1 m) := fm_mth (d := d + 1) mt_X12_firstOf rfl rfl rfl (fun K => by
  show fm_o fm_rI (f_X12_firstOf H v0 v1 m) K → fm_V G H (d + 1) RX12 cX12_firstOf (some (.int)) z K 0 [some (.ref v0), some (.int v1)] [] m
  have T : fm_T RX12 cX12_firstOf tc_X12_firstOf fr_X12 mr_X12 cr_X12 lr_X12 := ⟨tok_X12, dc_X12_firstOf⟩
  unfold f_X12_firstOf
  refine fs_r T 1 1 [some (.ref v0), some (.int v1)] [.ref v0] rfl ?_
  refine fs_gs T 4 12 0 v0 rfl rfl rfl rfl h0 ?_
  refine fs_r T 2 6 [some (.ref v0), some (.int v1)] [.int (0 : Int32), .int v1, .ref (H.2.1 v0 0)] rfl ?_
  refine fs_sI T 9 rfl rfl rfl rfl rfl rfl rfl (q_X12_wayPlace (d := d) hE ) ?_
  intro x1 m1
  refine fs_r T 2 11 [some (.ref v0), some (.int v1)] [.int (x1 + (1 : Int32)), .ref (H.2.1 v0 0)] rfl ?_
  refine fs_ai T 12 (H.2.1 v0 0) rfl rfl (hE.1 _ 12 0 h0) ?_
  exact fs_reti T rfl rfl rfl)
def f_X12_lastOf (H : fm_H) (v0 : Nat) (v1 : Int32) (m : fm_M) : Option (Int32 × fm_M) :=
  fm_bn (f_X12_wayPlace H v1 (0 : Int32) m) fun x1 m1 =>
  if px_inb x1 (fm_sz H (H.2.1 v0 0)) = true then
    if px_inb (((x1 + (1 : Int32)) + m1.1 (H.2.1 v0 0) x1.toNatClampNeg) - (1 : Int32)) (fm_sz H (H.2.1 v0 0)) = true then
      some (m1.1 (H.2.1 v0 0) (((x1 + (1 : Int32)) + m1.1 (H.2.1 v0 0) x1.toNatClampNeg) - (1 : Int32)).toNatClampNeg, m1)
    else none
  else none
set_option maxRecDepth 10000 in
theorem q_X12_lastOf {G : pm_G} {H : fm_H} {d : Nat} {z : Option Nat × Nat × Nat} {v0 : Nat} {v1 : Int32} {m : fm_M} (hE : fm_E G H) (h0 : fm_is H v0 12) : fm_cal G H (d + 2) yX12_lastOf [.ref v0, .int v1] z m fm_rI (f_X12_lastOf H v0 v1 m) := fm_mth (d := d + 1) mt_X12_lastOf rfl rfl rfl (fun K => by
  show fm_o fm_rI (f_X12_lastOf H v0 v1 m) K → fm_V G H (d + 1) RX12 cX12_lastOf (some (.int)) z K 0 [some (.ref v0), some (.int v1), none] [] m
  have T : fm_T RX12 cX12_lastOf tc_X12_lastOf fr_X12 mr_X12 cr_X12 lr_X12 := ⟨tok_X12, dc_X12_lastOf⟩
  unfold f_X12_lastOf
  refine fs_r T 2 2 [some (.ref v0), some (.int v1), none] [.int (0 : Int32), .int v1] rfl ?_
  refine fs_sI T 5 rfl rfl rfl rfl rfl rfl rfl (q_X12_wayPlace (d := d) hE ) ?_
  intro x1 m1
  refine fs_r T 2 7 [some (.ref v0), some (.int v1), some (.int x1)] [.ref v0] rfl ?_
  refine fs_gs T 10 12 0 v0 rfl rfl rfl rfl h0 ?_
  refine fs_r T 4 14 [some (.ref v0), some (.int v1), some (.int x1)] [.ref v0, .int (x1 + (1 : Int32)), .ref (H.2.1 v0 0)] rfl ?_
  refine fs_gs T 17 12 0 v0 rfl rfl rfl rfl h0 ?_
  refine fs_r T 1 18 [some (.ref v0), some (.int v1), some (.int x1)] [.int x1, .ref (H.2.1 v0 0), .int (x1 + (1 : Int32)), .ref (H.2.1 v0 0)] rfl ?_
  refine fs_ai T 19 (H.2.1 v0 0) rfl rfl (hE.1 _ 12 0 h0) ?_
  refine fs_r T 3 22 [some (.ref v0), some (.int v1), some (.int x1)] [.int (((x1 + (1 : Int32)) + m1.1 (H.2.1 v0 0) x1.toNatClampNeg) - (1 : Int32)), .ref (H.2.1 v0 0)] rfl ?_
  refine fs_ai T 23 (H.2.1 v0 0) rfl rfl (hE.1 _ 12 0 h0) ?_
  exact fs_reti T rfl rfl rfl)
def f_X12_isDraftWay_28 (H : fm_H) (v0 : Nat) (v2 : Int32) : Nat → Int32 → Int32 → fm_M → Option (Int32 × fm_M)
  | 0, _, _, _ => none
  | n + 1, v3, v4, m =>
    if m.1 v0 6 ≤ v4 then
      if fm_b01 v3 = true then some (v3, m) else none
    else
    if v3 = 0 then
      if fm_b01 v3 = true then some (v3, m) else none
    else
    if px_inb ((v2 + (1 : Int32)) + v4) (fm_sz H (H.2.1 v0 0)) = true then
      if px_inb v4 (fm_sz H (H.2.1 v0 5)) = true then
        if m.1 (H.2.1 v0 0) ((v2 + (1 : Int32)) + v4).toNatClampNeg = m.1 (H.2.1 v0 5) v4.toNatClampNeg then
          f_X12_isDraftWay_28 H v0 v2 n (1 : Int32) (v4 + 1) m
        else
        f_X12_isDraftWay_28 H v0 v2 n (0 : Int32) (v4 + 1) m
      else none
    else none
set_option maxRecDepth 10000 in
theorem w_X12_isDraftWay_28 {G : pm_G} {H : fm_H} {d : Nat} {z : Option Nat × Nat × Nat} {K : pm_R → fm_M → Prop} (hE : fm_E G H) {v0 : Nat} {v2 : Int32} (h0 : fm_is H v0 12) : ∀ (n : Nat) (v3 : Int32) (v4 : Int32) (m : fm_M), fm_o fm_rI (f_X12_isDraftWay_28 H v0 v2 n v3 v4 m) K → fm_V G H (d + 1) RX12 cX12_isDraftWay (some (.boolean)) z K 28 [some (.ref v0), none, some (.int v2), some (.int v3), some (.int v4)] [] m := by
  have T : fm_T RX12 cX12_isDraftWay tc_X12_isDraftWay fr_X12 mr_X12 cr_X12 lr_X12 := ⟨tok_X12, dc_X12_isDraftWay⟩
  intro n
  induction n with
  | zero =>
    intro v3 v4 m 
    exact fs_none
  | succ n ih =>
    intro v3 v4 m 
    unfold f_X12_isDraftWay_28
    refine fs_r T 2 31 [some (.ref v0), none, some (.int v2), some (.int v3), some (.int v4)] [.ref v0, .int v4] rfl ?_
    refine fs_gi T 34 12 6 v0 rfl rfl rfl rfl h0 ?_
    refine fs_ic_ge T 74 37 rfl rfl rfl (fun _ => ?_) (fun _ => ?_)
    · refine fs_r T 1 75 [some (.ref v0), none, some (.int v2), some (.int v3), some (.int v4)] [.int v3] rfl ?_
      exact fs_retz T rfl rfl rfl
    · refine fs_r T 1 38 [some (.ref v0), none, some (.int v2), some (.int v3), some (.int v4)] [.int v3] rfl ?_
      refine fs_if_eq T 74 41 rfl rfl rfl (fun _ => ?_) (fun _ => ?_)
      · refine fs_r T 1 75 [some (.ref v0), none, some (.int v2), some (.int v3), some (.int v4)] [.int v3] rfl ?_
        exact fs_retz T rfl rfl rfl
      · refine fs_r T 1 42 [some (.ref v0), none, some (.int v2), some (.int v3), some (.int v4)] [.ref v0] rfl ?_
        refine fs_gs T 45 12 0 v0 rfl rfl rfl rfl h0 ?_
        refine fs_r T 5 51 [some (.ref v0), none, some (.int v2), some (.int v3), some (.int v4)] [.int ((v2 + (1 : Int32)) + v4), .ref (H.2.1 v0 0)] rfl ?_
        refine fs_ai T 52 (H.2.1 v0 0) rfl rfl (hE.1 _ 12 0 h0) ?_
        refine fs_r T 1 53 [some (.ref v0), none, some (.int v2), some (.int v3), some (.int v4)] [.ref v0, .int (m.1 (H.2.1 v0 0) ((v2 + (1 : Int32)) + v4).toNatClampNeg)] rfl ?_
        refine fs_gs T 56 12 5 v0 rfl rfl rfl rfl h0 ?_
        refine fs_r T 1 58 [some (.ref v0), none, some (.int v2), some (.int v3), some (.int v4)] [.int v4, .ref (H.2.1 v0 5), .int (m.1 (H.2.1 v0 0) ((v2 + (1 : Int32)) + v4).toNatClampNeg)] rfl ?_
        refine fs_ai T 59 (H.2.1 v0 5) rfl rfl (hE.1 _ 12 5 h0) ?_
        refine fs_ic_ne T 66 62 rfl rfl rfl (fun _ => ?_) (fun _ => ?_)
        · refine fs_r T 5 28 [some (.ref v0), none, some (.int v2), some (.int (1 : Int32)), some (.int (v4 + 1))] [] rfl ?_
          exact ih _ _ _
        · refine fs_r T 4 28 [some (.ref v0), none, some (.int v2), some (.int (0 : Int32)), some (.int (v4 + 1))] [] rfl ?_
          exact ih _ _ _
def f_X12_isDraftWay (H : fm_H) (v0 : Nat) (v1 : Int32) (m : fm_M) : Option (Int32 × fm_M) :=
  fm_bn (f_X12_wayPlace H v1 (0 : Int32) m) fun x1 m1 =>
  if px_inb x1 (fm_sz H (H.2.1 v0 0)) = true then
    if m1.1 (H.2.1 v0 0) x1.toNatClampNeg = m1.1 v0 6 then
      f_X12_isDraftWay_28 H v0 x1 fm_N (1 : Int32) (0 : Int32) m1
    else
    f_X12_isDraftWay_28 H v0 x1 fm_N (0 : Int32) (0 : Int32) m1
  else none
set_option maxRecDepth 10000 in
theorem q_X12_isDraftWay {G : pm_G} {H : fm_H} {d : Nat} {z : Option Nat × Nat × Nat} {v0 : Nat} {v1 : Int32} {m : fm_M} (hE : fm_E G H) (h0 : fm_is H v0 12) : fm_cal G H (d + 2) yX12_isDraftWay [.ref v0, .int v1] z m fm_rI (f_X12_isDraftWay H v0 v1 m) := fm_mth (d := d + 1) mt_X12_isDraftWay rfl rfl rfl (fun K => by
  show fm_o fm_rI (f_X12_isDraftWay H v0 v1 m) K → fm_V G H (d + 1) RX12 cX12_isDraftWay (some (.boolean)) z K 0 [some (.ref v0), some (.int v1), none, none, none] [] m
  have T : fm_T RX12 cX12_isDraftWay tc_X12_isDraftWay fr_X12 mr_X12 cr_X12 lr_X12 := ⟨tok_X12, dc_X12_isDraftWay⟩
  unfold f_X12_isDraftWay
  refine fs_r T 2 2 [some (.ref v0), some (.int v1), none, none, none] [.int (0 : Int32), .int v1] rfl ?_
  refine fs_sI T 5 rfl rfl rfl rfl rfl rfl rfl (q_X12_wayPlace (d := d) hE ) ?_
  intro x1 m1
  refine fs_r T 2 7 [some (.ref v0), some (.int v1), some (.int x1), none, none] [.ref v0] rfl ?_
  refine fs_gs T 10 12 0 v0 rfl rfl rfl rfl h0 ?_
  refine fs_r T 1 11 [some (.ref v0), some (.int v1), some (.int x1), none, none] [.int x1, .ref (H.2.1 v0 0)] rfl ?_
  refine fs_ai T 12 (H.2.1 v0 0) rfl rfl (hE.1 _ 12 0 h0) ?_
  refine fs_r T 1 13 [some (.ref v0), some (.int v1), some (.int x1), none, none] [.ref v0, .int (m1.1 (H.2.1 v0 0) x1.toNatClampNeg)] rfl ?_
  refine fs_gi T 16 12 6 v0 rfl rfl rfl rfl h0 ?_
  refine fs_ic_ne T 23 19 rfl rfl rfl (fun _ => ?_) (fun _ => ?_)
  · refine fs_r T 5 28 [some (.ref v0), some (.int v1), some (.int x1), some (.int (1 : Int32)), some (.int (0 : Int32))] [] rfl ?_
    refine fs_wk (ls' := [some (.ref v0), none, some (.int x1), some (.int (1 : Int32)), some (.int (0 : Int32))]) ⟨rfl, rfl, rfl, rfl, trivial⟩ ?_
    exact w_X12_isDraftWay_28 hE h0 _ _ _ _
  · refine fs_r T 4 28 [some (.ref v0), some (.int v1), some (.int x1), some (.int (0 : Int32)), some (.int (0 : Int32))] [] rfl ?_
    refine fs_wk (ls' := [some (.ref v0), none, some (.int x1), some (.int (0 : Int32)), some (.int (0 : Int32))]) ⟨rfl, rfl, rfl, rfl, trivial⟩ ?_
    exact w_X12_isDraftWay_28 hE h0 _ _ _ _)
def f_X12_moveToDraft (H : fm_H) (v0 : Nat) (v1 : Int32) (m : fm_M) : Option (Int32 × fm_M) :=
  fm_bn (f_X12_isDraftWay H v0 v1 m) fun x1 m1 =>
  if x1 = 0 then
    fm_bn (f_X12_of H v0 v1 (0 : Int32) m1) fun x2 m2 =>
    fm_bn (f_X12_draftHasRoom H v0 v1 x2 m2) fun x3 m3 =>
    if x3 = 0 then
      some ((5 : Int32), m3)
    else
    fm_bn (f_X12_layDraft H v0 v1 (1 : Int32) (0 : Int32) m3) fun x4 m4 =>
    if x4 = 0 then
      some ((6 : Int32), m4)
    else
    fm_bn (f_X12_put H v0 v1 (2 : Int32) (1 : Int32) m4) fun _ m5 =>
    fm_bn (f_X12_put H v0 v1 (3 : Int32) (m5.1 v0 6 - (1 : Int32)) m5) fun _ m6 =>
    some ((0 : Int32), m6)
  else
  some ((4 : Int32), m1)
set_option maxRecDepth 10000 in
theorem q_X12_moveToDraft {G : pm_G} {H : fm_H} {d : Nat} {z : Option Nat × Nat × Nat} {v0 : Nat} {v1 : Int32} {m : fm_M} (hE : fm_E G H) (h0 : fm_is H v0 12) : fm_cal G H (d + 7) yX12_moveToDraft [.ref v0, .int v1] z m fm_rI (f_X12_moveToDraft H v0 v1 m) := fm_mth (d := d + 6) mt_X12_moveToDraft rfl rfl rfl (fun K => by
  show fm_o fm_rI (f_X12_moveToDraft H v0 v1 m) K → fm_V G H (d + 6) RX12 cX12_moveToDraft (some (.int)) z K 0 [some (.ref v0), some (.int v1)] [] m
  have T : fm_T RX12 cX12_moveToDraft tc_X12_moveToDraft fr_X12 mr_X12 cr_X12 lr_X12 := ⟨tok_X12, dc_X12_moveToDraft⟩
  unfold f_X12_moveToDraft
  refine fs_r T 2 2 [some (.ref v0), some (.int v1)] [.int v1, .ref v0] rfl ?_
  refine fs_vI T 5 rfl rfl rfl rfl rfl rfl h0 (q_X12_isDraftWay (d := d + 4) hE h0) ?_
  intro x1 m1
  refine fs_if_eq T 10 8 rfl rfl rfl (fun _ => ?_) (fun _ => ?_)
  · refine fs_r T 5 15 [some (.ref v0), some (.int v1)] [.int (0 : Int32), .int v1, .ref v0, .int v1, .ref v0] rfl ?_
    refine fs_vI T 18 rfl rfl rfl rfl rfl rfl h0 (q_X12_of (d := d + 5) hE h0) ?_
    intro x2 m2
    refine fs_vI T 21 rfl rfl rfl rfl rfl rfl h0 (q_X12_draftHasRoom (d := d) hE h0) ?_
    intro x3 m3
    refine fs_if_ne T 26 24 rfl rfl rfl (fun _ => ?_) (fun _ => ?_)
    · refine fs_r T 1 25 [some (.ref v0), some (.int v1)] [.int (5 : Int32)] rfl ?_
      exact fs_reti T rfl rfl rfl
    · refine fs_r T 4 30 [some (.ref v0), some (.int v1)] [.int (0 : Int32), .int (1 : Int32), .int v1, .ref v0] rfl ?_
      refine fs_vI T 33 rfl rfl rfl rfl rfl rfl h0 (q_X12_layDraft (d := d) hE h0) ?_
      intro x4 m4
      refine fs_if_ne T 39 36 rfl rfl rfl (fun _ => ?_) (fun _ => ?_)
      · refine fs_r T 1 38 [some (.ref v0), some (.int v1)] [.int (6 : Int32)] rfl ?_
        exact fs_reti T rfl rfl rfl
      · refine fs_r T 4 43 [some (.ref v0), some (.int v1)] [.int (1 : Int32), .int (2 : Int32), .int v1, .ref v0] rfl ?_
        refine fs_vV T 46 rfl rfl rfl rfl rfl rfl h0 (q_X12_put (d := d + 5) hE h0) ?_
        intro x5 m5
        refine fs_r T 4 50 [some (.ref v0), some (.int v1)] [.ref v0, .int (3 : Int32), .int v1, .ref v0] rfl ?_
        refine fs_gi T 53 12 6 v0 rfl rfl rfl rfl h0 ?_
        refine fs_r T 2 55 [some (.ref v0), some (.int v1)] [.int (m5.1 v0 6 - (1 : Int32)), .int (3 : Int32), .int v1, .ref v0] rfl ?_
        refine fs_vV T 58 rfl rfl rfl rfl rfl rfl h0 (q_X12_put (d := d + 5) hE h0) ?_
        intro x6 m6
        refine fs_r T 1 59 [some (.ref v0), some (.int v1)] [.int (0 : Int32)] rfl ?_
        exact fs_reti T rfl rfl rfl
  · refine fs_r T 1 9 [some (.ref v0), some (.int v1)] [.int (4 : Int32)] rfl ?_
    exact fs_reti T rfl rfl rfl)
def f_X12_move (H : fm_H) (v0 : Nat) (v1 : Int32) (m : fm_M) : Option (Int32 × fm_M) :=
  fm_bd (fm_si m v0 7 (0 : Int32)) fun m1 =>
  fm_bn (f_X12_isCircuit H v0 v1 m1) fun x1 m2 =>
  if x1 = 0 then
    fm_bn (f_X12_fail H v0 (1 : Int32) m2) fun x6 m9 =>
    some (x6, m9)
  else
  fm_bn (f_X12_of H v0 v1 (2 : Int32) m2) fun x2 m3 =>
  if x2 ≤ 0 then
    if m3.1 v0 6 < (2 : Int32) then
      some ((3 : Int32), m3)
    else
    if px_inb (0 : Int32) (fm_sz H (H.2.1 v0 5)) = true then
      fm_bn (f_X12_firstOf H v0 v1 m3) fun x3 m4 =>
      if m3.1 (H.2.1 v0 5) (0 : Int32).toNatClampNeg = x3 then
        if px_inb (m4.1 v0 6 - (1 : Int32)) (fm_sz H (H.2.1 v0 5)) = true then
          fm_bn (f_X12_lastOf H v0 v1 m4) fun x4 m5 =>
          if m4.1 (H.2.1 v0 5) (m4.1 v0 6 - (1 : Int32)).toNatClampNeg = x4 then
            fm_bn (f_X12_moveToDraft H v0 v1 m5) fun x5 m6 =>
            if x5 = 0 then
              fm_bd (fm_si m6 v0 6 (0 : Int32)) fun m8 =>
              some (x5, m8)
            else
            fm_bd (fm_si m6 v0 6 (m6.1 v0 6)) fun m7 =>
            some (x5, m7)
          else
          some ((3 : Int32), m5)
        else none
      else
      some ((3 : Int32), m4)
    else none
  else
  some ((2 : Int32), m3)
set_option maxRecDepth 10000 in
theorem q_X12_move {G : pm_G} {H : fm_H} {d : Nat} {z : Option Nat × Nat × Nat} {v0 : Nat} {v1 : Int32} {m : fm_M} (hE : fm_E G H) (h0 : fm_is H v0 12) : fm_cal G H (d + 8) yX12_move [.ref v0, .int v1] z m fm_rI (f_X12_move H v0 v1 m) := fm_mth (d := d + 7) mt_X12_move rfl rfl rfl (fun K => by
  show fm_o fm_rI (f_X12_move H v0 v1 m) K → fm_V G H (d + 7) RX12 cX12_move (some (.int)) z K 0 [some (.ref v0), some (.int v1), none] [] m
  have T : fm_T RX12 cX12_move tc_X12_move fr_X12 mr_X12 cr_X12 lr_X12 := ⟨tok_X12, dc_X12_move⟩
  unfold f_X12_move
  refine fs_r T 2 2 [some (.ref v0), some (.int v1), none] [.int (0 : Int32), .ref v0] rfl ?_
  refine fs_pi T 5 12 7 v0 rfl rfl rfl rfl h0 ?_
  intro m1
  refine fs_r T 2 7 [some (.ref v0), some (.int v1), none] [.int v1, .ref v0] rfl ?_
  refine fs_vI T 10 rfl rfl rfl rfl rfl rfl h0 (q_X12_isCircuit (d := d + 5) hE h0) ?_
  intro x1 m2
  refine fs_if_ne T 19 13 rfl rfl rfl (fun _ => ?_) (fun _ => ?_)
  · refine fs_r T 2 15 [some (.ref v0), some (.int v1), none] [.int (1 : Int32), .ref v0] rfl ?_
    refine fs_vI T 18 rfl rfl rfl rfl rfl rfl h0 (q_X12_fail (d := d + 6) hE h0) ?_
    intro x6 m9
    exact fs_reti T rfl rfl rfl
  · refine fs_r T 3 22 [some (.ref v0), some (.int v1), none] [.int (2 : Int32), .int v1, .ref v0] rfl ?_
    refine fs_vI T 25 rfl rfl rfl rfl rfl rfl h0 (q_X12_of (d := d + 6) hE h0) ?_
    intro x2 m3
    refine fs_if_le T 30 28 rfl rfl rfl (fun _ => ?_) (fun _ => ?_)
    · refine fs_r T 1 31 [some (.ref v0), some (.int v1), none] [.ref v0] rfl ?_
      refine fs_gi T 34 12 6 v0 rfl rfl rfl rfl h0 ?_
      refine fs_r T 1 35 [some (.ref v0), some (.int v1), none] [.int (2 : Int32), .int (m3.1 v0 6)] rfl ?_
      refine fs_ic_lt T 71 38 rfl rfl rfl (fun _ => ?_) (fun _ => ?_)
      · refine fs_r T 1 72 [some (.ref v0), some (.int v1), none] [.int (3 : Int32)] rfl ?_
        exact fs_reti T rfl rfl rfl
      · refine fs_r T 1 39 [some (.ref v0), some (.int v1), none] [.ref v0] rfl ?_
        refine fs_gs T 42 12 5 v0 rfl rfl rfl rfl h0 ?_
        refine fs_r T 1 43 [some (.ref v0), some (.int v1), none] [.int (0 : Int32), .ref (H.2.1 v0 5)] rfl ?_
        refine fs_ai T 44 (H.2.1 v0 5) rfl rfl (hE.1 _ 12 5 h0) ?_
        refine fs_r T 2 46 [some (.ref v0), some (.int v1), none] [.int v1, .ref v0, .int (m3.1 (H.2.1 v0 5) (0 : Int32).toNatClampNeg)] rfl ?_
        refine fs_vI T 49 rfl rfl rfl rfl rfl rfl h0 (q_X12_firstOf (d := d + 5) hE h0) ?_
        intro x3 m4
        refine fs_ic_ne T 71 52 rfl rfl rfl (fun _ => ?_) (fun _ => ?_)
        · refine fs_r T 1 53 [some (.ref v0), some (.int v1), none] [.ref v0] rfl ?_
          refine fs_gs T 56 12 5 v0 rfl rfl rfl rfl h0 ?_
          refine fs_r T 1 57 [some (.ref v0), some (.int v1), none] [.ref v0, .ref (H.2.1 v0 5)] rfl ?_
          refine fs_gi T 60 12 6 v0 rfl rfl rfl rfl h0 ?_
          refine fs_r T 2 62 [some (.ref v0), some (.int v1), none] [.int (m4.1 v0 6 - (1 : Int32)), .ref (H.2.1 v0 5)] rfl ?_
          refine fs_ai T 63 (H.2.1 v0 5) rfl rfl (hE.1 _ 12 5 h0) ?_
          refine fs_r T 2 65 [some (.ref v0), some (.int v1), none] [.int v1, .ref v0, .int (m4.1 (H.2.1 v0 5) (m4.1 v0 6 - (1 : Int32)).toNatClampNeg)] rfl ?_
          refine fs_vI T 68 rfl rfl rfl rfl rfl rfl h0 (q_X12_lastOf (d := d + 5) hE h0) ?_
          intro x4 m5
          refine fs_ic_eq T 73 71 rfl rfl rfl (fun _ => ?_) (fun _ => ?_)
          · refine fs_r T 2 75 [some (.ref v0), some (.int v1), none] [.int v1, .ref v0] rfl ?_
            refine fs_vI T 78 rfl rfl rfl rfl rfl rfl h0 (q_X12_moveToDraft (d := d) hE h0) ?_
            intro x5 m6
            refine fs_r T 3 81 [some (.ref v0), some (.int v1), some (.int x5)] [.int x5, .ref v0] rfl ?_
            refine fs_if_ne T 88 84 rfl rfl rfl (fun _ => ?_) (fun _ => ?_)
            · refine fs_r T 2 92 [some (.ref v0), some (.int v1), some (.int x5)] [.int (0 : Int32), .ref v0] rfl ?_
              refine fs_pi T 95 12 6 v0 rfl rfl rfl rfl h0 ?_
              intro m8
              refine fs_r T 1 96 [some (.ref v0), some (.int v1), some (.int x5)] [.int x5] rfl ?_
              exact fs_reti T rfl rfl rfl
            · refine fs_r T 1 89 [some (.ref v0), some (.int v1), some (.int x5)] [.ref v0, .ref v0] rfl ?_
              refine fs_gi T 92 12 6 v0 rfl rfl rfl rfl h0 ?_
              refine fs_pi T 95 12 6 v0 rfl rfl rfl rfl h0 ?_
              intro m7
              refine fs_r T 1 96 [some (.ref v0), some (.int v1), some (.int x5)] [.int x5] rfl ?_
              exact fs_reti T rfl rfl rfl
          · refine fs_r T 1 72 [some (.ref v0), some (.int v1), none] [.int (3 : Int32)] rfl ?_
            exact fs_reti T rfl rfl rfl
        · refine fs_r T 1 72 [some (.ref v0), some (.int v1), none] [.int (3 : Int32)] rfl ?_
          exact fs_reti T rfl rfl rfl
    · refine fs_r T 1 29 [some (.ref v0), some (.int v1), none] [.int (2 : Int32)] rfl ?_
      exact fs_reti T rfl rfl rfl)
def f_X12_moveToBest_86 (H : fm_H) (v0 : Nat) (v3 : Int32) (v4 : Int32) : Nat → Int32 → fm_M → Option (Int32 × fm_M)
  | 0, _, _ => none
  | n + 1, v5, m =>
    if v3 ≤ v5 then
      fm_bd (fm_si m v0 6 v3) fun m1 =>
      some (v4, m1)
    else
    if px_inb v5 (fm_sz H (H.2.1 v0 28)) = true then
      if px_inb v5 (fm_sz H (H.2.1 v0 5)) = true then
        (fm_bd (fm_si m (H.2.1 v0 5) v5.toNatClampNeg (m.1 (H.2.1 v0 28) v5.toNatClampNeg)) fun m2 =>
        f_X12_moveToBest_86 H v0 v3 v4 n (v5 + 1) m2)
      else none
    else none
set_option maxRecDepth 10000 in
theorem w_X12_moveToBest_86 {G : pm_G} {H : fm_H} {d : Nat} {z : Option Nat × Nat × Nat} {K : pm_R → fm_M → Prop} (hE : fm_E G H) {v0 : Nat} {v3 : Int32} {v4 : Int32} (h0 : fm_is H v0 12) : ∀ (n : Nat) (v5 : Int32) (m : fm_M), fm_o fm_rI (f_X12_moveToBest_86 H v0 v3 v4 n v5 m) K → fm_V G H (d + 7) RX12 cX12_moveToBest (some (.int)) z K 86 [some (.ref v0), none, none, some (.int v3), some (.int v4), some (.int v5)] [] m := by
  have T : fm_T RX12 cX12_moveToBest tc_X12_moveToBest fr_X12 mr_X12 cr_X12 lr_X12 := ⟨tok_X12, dc_X12_moveToBest⟩
  intro n
  induction n with
  | zero =>
    intro v5 m 
    exact fs_none
  | succ n ih =>
    intro v5 m 
    unfold f_X12_moveToBest_86
    refine fs_r T 2 89 [some (.ref v0), none, none, some (.int v3), some (.int v4), some (.int v5)] [.int v3, .int v5] rfl ?_
    refine fs_ic_ge T 112 92 rfl rfl rfl (fun _ => ?_) (fun _ => ?_)
    · refine fs_r T 2 114 [some (.ref v0), none, none, some (.int v3), some (.int v4), some (.int v5)] [.int v3, .ref v0] rfl ?_
      refine fs_pi T 117 12 6 v0 rfl rfl rfl rfl h0 ?_
      intro m1
      refine fs_r T 1 119 [some (.ref v0), none, none, some (.int v3), some (.int v4), some (.int v5)] [.int v4] rfl ?_
      exact fs_reti T rfl rfl rfl
    · refine fs_r T 1 93 [some (.ref v0), none, none, some (.int v3), some (.int v4), some (.int v5)] [.ref v0] rfl ?_
      refine fs_gs T 96 12 5 v0 rfl rfl rfl rfl h0 ?_
      refine fs_r T 2 99 [some (.ref v0), none, none, some (.int v3), some (.int v4), some (.int v5)] [.ref v0, .int v5, .ref (H.2.1 v0 5)] rfl ?_
      refine fs_gs T 102 12 28 v0 rfl rfl rfl rfl h0 ?_
      refine fs_r T 1 104 [some (.ref v0), none, none, some (.int v3), some (.int v4), some (.int v5)] [.int v5, .ref (H.2.1 v0 28), .int v5, .ref (H.2.1 v0 5)] rfl ?_
      refine fs_ai T 105 (H.2.1 v0 28) rfl rfl (hE.1 _ 12 28 h0) ?_
      refine fs_si T 106 (H.2.1 v0 5) rfl rfl (hE.1 _ 12 5 h0) ?_
      intro m2
      refine fs_r T 2 86 [some (.ref v0), none, none, some (.int v3), some (.int v4), some (.int (v5 + 1))] [] rfl ?_
      exact ih _ _
def f_X12_moveToBest_46 (H : fm_H) (v0 : Nat) (v1 : Int32) (v3 : Int32) : Nat → Int32 → fm_M → Option (Int32 × fm_M)
  | 0, _, _ => none
  | n + 1, v4, m =>
    if v3 ≤ v4 then
      fm_bn (f_X12_takeBest H v0 m) fun _ m1 =>
      fm_bn (f_X12_moveToDraft H v0 v1 m1) fun x2 m2 =>
      f_X12_moveToBest_86 H v0 v3 x2 fm_N (0 : Int32) m2
    else
    if px_inb v4 (fm_sz H (H.2.1 v0 5)) = true then
      if px_inb v4 (fm_sz H (H.2.1 v0 28)) = true then
        (fm_bd (fm_si m (H.2.1 v0 28) v4.toNatClampNeg (m.1 (H.2.1 v0 5) v4.toNatClampNeg)) fun m3 =>
        f_X12_moveToBest_46 H v0 v1 v3 n (v4 + 1) m3)
      else none
    else none
set_option maxRecDepth 10000 in
theorem w_X12_moveToBest_46 {G : pm_G} {H : fm_H} {d : Nat} {z : Option Nat × Nat × Nat} {K : pm_R → fm_M → Prop} (hE : fm_E G H) {v0 : Nat} {v1 : Int32} {v3 : Int32} (h0 : fm_is H v0 12) : ∀ (n : Nat) (v4 : Int32) (m : fm_M), fm_o fm_rI (f_X12_moveToBest_46 H v0 v1 v3 n v4 m) K → fm_V G H (d + 7) RX12 cX12_moveToBest (some (.int)) z K 46 [some (.ref v0), some (.int v1), none, some (.int v3), some (.int v4), none] [] m := by
  have T : fm_T RX12 cX12_moveToBest tc_X12_moveToBest fr_X12 mr_X12 cr_X12 lr_X12 := ⟨tok_X12, dc_X12_moveToBest⟩
  intro n
  induction n with
  | zero =>
    intro v4 m 
    exact fs_none
  | succ n ih =>
    intro v4 m 
    unfold f_X12_moveToBest_46
    refine fs_r T 2 49 [some (.ref v0), some (.int v1), none, some (.int v3), some (.int v4), none] [.int v3, .int v4] rfl ?_
    refine fs_ic_ge T 72 52 rfl rfl rfl (fun _ => ?_) (fun _ => ?_)
    · refine fs_r T 1 73 [some (.ref v0), some (.int v1), none, some (.int v3), some (.int v4), none] [.ref v0] rfl ?_
      refine fs_vV T 76 rfl rfl rfl rfl rfl rfl h0 (q_X12_takeBest (d := d + 6) hE h0) ?_
      intro x1 m1
      refine fs_r T 2 78 [some (.ref v0), some (.int v1), none, some (.int v3), some (.int v4), none] [.int v1, .ref v0] rfl ?_
      refine fs_vI T 81 rfl rfl rfl rfl rfl rfl h0 (q_X12_moveToDraft (d := d) hE h0) ?_
      intro x2 m2
      refine fs_r T 3 86 [some (.ref v0), some (.int v1), none, some (.int v3), some (.int x2), some (.int (0 : Int32))] [] rfl ?_
      refine fs_wk (ls' := [some (.ref v0), none, none, some (.int v3), some (.int x2), some (.int (0 : Int32))]) ⟨rfl, rfl, rfl, rfl, trivial⟩ ?_
      exact w_X12_moveToBest_86 hE h0 _ _ _
    · refine fs_r T 1 53 [some (.ref v0), some (.int v1), none, some (.int v3), some (.int v4), none] [.ref v0] rfl ?_
      refine fs_gs T 56 12 28 v0 rfl rfl rfl rfl h0 ?_
      refine fs_r T 2 59 [some (.ref v0), some (.int v1), none, some (.int v3), some (.int v4), none] [.ref v0, .int v4, .ref (H.2.1 v0 28)] rfl ?_
      refine fs_gs T 62 12 5 v0 rfl rfl rfl rfl h0 ?_
      refine fs_r T 1 64 [some (.ref v0), some (.int v1), none, some (.int v3), some (.int v4), none] [.int v4, .ref (H.2.1 v0 5), .int v4, .ref (H.2.1 v0 28)] rfl ?_
      refine fs_ai T 65 (H.2.1 v0 5) rfl rfl (hE.1 _ 12 5 h0) ?_
      refine fs_si T 66 (H.2.1 v0 28) rfl rfl (hE.1 _ 12 28 h0) ?_
      intro m3
      refine fs_r T 2 46 [some (.ref v0), some (.int v1), none, some (.int v3), some (.int (v4 + 1)), none] [] rfl ?_
      exact ih _ _
def f_X12_moveToBest (H : fm_H) (v0 : Nat) (v1 : Int32) (v2 : Int32) (m : fm_M) : Option (Int32 × fm_M) :=
  fm_bn (f_X12_of H v0 v1 (2 : Int32) m) fun x1 m1 =>
  if x1 ≤ 0 then
    fm_bn (f_X12_firstOf H v0 v1 m1) fun x2 m2 =>
    fm_bn (f_X12_lastOf H v0 v1 m2) fun x3 m3 =>
    fm_bn (f_X12_of H v0 v1 (0 : Int32) m3) fun x4 m4 =>
    fm_bn (f_X12_layBest H v0 x2 x3 v1 x4 v2 m4) fun x5 m5 =>
    if x5 = 0 then
      some ((3 : Int32), m5)
    else
    f_X12_moveToBest_46 H v0 v1 (m5.1 v0 6) fm_N (0 : Int32) m5
  else
  some ((2 : Int32), m1)
set_option maxRecDepth 10000 in
theorem q_X12_moveToBest {G : pm_G} {H : fm_H} {d : Nat} {z : Option Nat × Nat × Nat} {v0 : Nat} {v1 : Int32} {v2 : Int32} {m : fm_M} (hE : fm_E G H) (h0 : fm_is H v0 12) : fm_cal G H (d + 8) yX12_moveToBest [.ref v0, .int v1, .int v2] z m fm_rI (f_X12_moveToBest H v0 v1 v2 m) := fm_mth (d := d + 7) mt_X12_moveToBest rfl rfl rfl (fun K => by
  show fm_o fm_rI (f_X12_moveToBest H v0 v1 v2 m) K → fm_V G H (d + 7) RX12 cX12_moveToBest (some (.int)) z K 0 [some (.ref v0), some (.int v1), some (.int v2), none, none, none] [] m
  have T : fm_T RX12 cX12_moveToBest tc_X12_moveToBest fr_X12 mr_X12 cr_X12 lr_X12 := ⟨tok_X12, dc_X12_moveToBest⟩
  unfold f_X12_moveToBest
  refine fs_r T 3 3 [some (.ref v0), some (.int v1), some (.int v2), none, none, none] [.int (2 : Int32), .int v1, .ref v0] rfl ?_
  refine fs_vI T 6 rfl rfl rfl rfl rfl rfl h0 (q_X12_of (d := d + 6) hE h0) ?_
  intro x1 m1
  refine fs_if_le T 11 9 rfl rfl rfl (fun _ => ?_) (fun _ => ?_)
  · refine fs_r T 3 14 [some (.ref v0), some (.int v1), some (.int v2), none, none, none] [.int v1, .ref v0, .ref v0] rfl ?_
    refine fs_vI T 17 rfl rfl rfl rfl rfl rfl h0 (q_X12_firstOf (d := d + 5) hE h0) ?_
    intro x2 m2
    refine fs_r T 2 19 [some (.ref v0), some (.int v1), some (.int v2), none, none, none] [.int v1, .ref v0, .int x2, .ref v0] rfl ?_
    refine fs_vI T 22 rfl rfl rfl rfl rfl rfl h0 (q_X12_lastOf (d := d + 5) hE h0) ?_
    intro x3 m3
    refine fs_r T 4 26 [some (.ref v0), some (.int v1), some (.int v2), none, none, none] [.int (0 : Int32), .int v1, .ref v0, .int v1, .int x3, .int x2, .ref v0] rfl ?_
    refine fs_vI T 29 rfl rfl rfl rfl rfl rfl h0 (q_X12_of (d := d + 6) hE h0) ?_
    intro x4 m4
    refine fs_r T 1 30 [some (.ref v0), some (.int v1), some (.int v2), none, none, none] [.int v2, .int x4, .int v1, .int x3, .int x2, .ref v0] rfl ?_
    refine fs_vI T 33 rfl rfl rfl rfl rfl rfl h0 (q_X12_layBest (d := d + 1) hE h0) ?_
    intro x5 m5
    refine fs_if_ne T 38 36 rfl rfl rfl (fun _ => ?_) (fun _ => ?_)
    · refine fs_r T 1 37 [some (.ref v0), some (.int v1), some (.int v2), none, none, none] [.int (3 : Int32)] rfl ?_
      exact fs_reti T rfl rfl rfl
    · refine fs_r T 1 39 [some (.ref v0), some (.int v1), some (.int v2), none, none, none] [.ref v0] rfl ?_
      refine fs_gi T 42 12 6 v0 rfl rfl rfl rfl h0 ?_
      refine fs_r T 3 46 [some (.ref v0), some (.int v1), some (.int v2), some (.int (m5.1 v0 6)), some (.int (0 : Int32)), none] [] rfl ?_
      refine fs_wk (ls' := [some (.ref v0), some (.int v1), none, some (.int (m5.1 v0 6)), some (.int (0 : Int32)), none]) ⟨rfl, rfl, rfl, rfl, trivial⟩ ?_
      exact w_X12_moveToBest_46 hE h0 _ _ _
  · refine fs_r T 1 10 [some (.ref v0), some (.int v1), some (.int v2), none, none, none] [.int (2 : Int32)] rfl ?_
    exact fs_reti T rfl rfl rfl)
def f_X12_moveBest (H : fm_H) (v0 : Nat) (v1 : Int32) (v2 : Int32) (m : fm_M) : Option (Int32 × fm_M) :=
  fm_bd (fm_si m v0 7 (0 : Int32)) fun m1 =>
  fm_bn (f_X12_isCircuit H v0 v1 m1) fun x1 m2 =>
  if x1 = 0 then
    fm_bn (f_X12_fail H v0 (1 : Int32) m2) fun x2 m3 =>
    some (x2, m3)
  else
  if v2 = (-1 : Int32) then
    fm_bn (f_X12_moveToBest H v0 v1 v2 m2) fun x3 m4 =>
    some (x3, m4)
  else
  fm_bn (f_X12_isLink H v0 v2 m2) fun x4 m5 =>
  if x4 = 0 then
    fm_bn (f_X12_fail H v0 (1 : Int32) m5) fun x6 m7 =>
    some (x6, m7)
  else
  fm_bn (f_X12_moveToBest H v0 v1 v2 m5) fun x5 m6 =>
  some (x5, m6)
set_option maxRecDepth 10000 in
theorem q_X12_moveBest {G : pm_G} {H : fm_H} {d : Nat} {z : Option Nat × Nat × Nat} {v0 : Nat} {v1 : Int32} {v2 : Int32} {m : fm_M} (hE : fm_E G H) (h0 : fm_is H v0 12) : fm_cal G H (d + 9) yX12_moveBest [.ref v0, .int v1, .int v2] z m fm_rI (f_X12_moveBest H v0 v1 v2 m) := fm_mth (d := d + 8) mt_X12_moveBest rfl rfl rfl (fun K => by
  show fm_o fm_rI (f_X12_moveBest H v0 v1 v2 m) K → fm_V G H (d + 8) RX12 cX12_moveBest (some (.int)) z K 0 [some (.ref v0), some (.int v1), some (.int v2)] [] m
  have T : fm_T RX12 cX12_moveBest tc_X12_moveBest fr_X12 mr_X12 cr_X12 lr_X12 := ⟨tok_X12, dc_X12_moveBest⟩
  unfold f_X12_moveBest
  refine fs_r T 2 2 [some (.ref v0), some (.int v1), some (.int v2)] [.int (0 : Int32), .ref v0] rfl ?_
  refine fs_pi T 5 12 7 v0 rfl rfl rfl rfl h0 ?_
  intro m1
  refine fs_r T 2 7 [some (.ref v0), some (.int v1), some (.int v2)] [.int v1, .ref v0] rfl ?_
  refine fs_vI T 10 rfl rfl rfl rfl rfl rfl h0 (q_X12_isCircuit (d := d + 6) hE h0) ?_
  intro x1 m2
  refine fs_if_eq T 26 13 rfl rfl rfl (fun _ => ?_) (fun _ => ?_)
  · refine fs_r T 2 28 [some (.ref v0), some (.int v1), some (.int v2)] [.int (1 : Int32), .ref v0] rfl ?_
    refine fs_vI T 31 rfl rfl rfl rfl rfl rfl h0 (q_X12_fail (d := d + 7) hE h0) ?_
    intro x2 m3
    exact fs_reti T rfl rfl rfl
  · refine fs_r T 2 15 [some (.ref v0), some (.int v1), some (.int v2)] [.int (-1 : Int32), .int v2] rfl ?_
    refine fs_ic_eq T 32 18 rfl rfl rfl (fun _ => ?_) (fun _ => ?_)
    · refine fs_r T 3 35 [some (.ref v0), some (.int v1), some (.int v2)] [.int v2, .int v1, .ref v0] rfl ?_
      refine fs_vI T 38 rfl rfl rfl rfl rfl rfl h0 (q_X12_moveToBest (d := d) hE h0) ?_
      intro x3 m4
      exact fs_reti T rfl rfl rfl
    · refine fs_r T 2 20 [some (.ref v0), some (.int v1), some (.int v2)] [.int v2, .ref v0] rfl ?_
      refine fs_vI T 23 rfl rfl rfl rfl rfl rfl h0 (q_X12_isLink (d := d + 6) hE h0) ?_
      intro x4 m5
      refine fs_if_ne T 32 26 rfl rfl rfl (fun _ => ?_) (fun _ => ?_)
      · refine fs_r T 2 28 [some (.ref v0), some (.int v1), some (.int v2)] [.int (1 : Int32), .ref v0] rfl ?_
        refine fs_vI T 31 rfl rfl rfl rfl rfl rfl h0 (q_X12_fail (d := d + 7) hE h0) ?_
        intro x6 m7
        exact fs_reti T rfl rfl rfl
      · refine fs_r T 3 35 [some (.ref v0), some (.int v1), some (.int v2)] [.int v2, .int v1, .ref v0] rfl ?_
        refine fs_vI T 38 rfl rfl rfl rfl rfl rfl h0 (q_X12_moveToBest (d := d) hE h0) ?_
        intro x5 m6
        exact fs_reti T rfl rfl rfl)
def f_X12_abort (H : fm_H) (v0 : Nat) (v1 : Int32) (m : fm_M) : Option (Int32 × fm_M) :=
  fm_bd (fm_si m v0 7 (0 : Int32)) fun m1 =>
  fm_bn (f_X12_isCircuit H v0 v1 m1) fun x1 m2 =>
  if x1 = 0 then
    fm_bn (f_X12_fail H v0 (1 : Int32) m2) fun x6 m9 =>
    some (x6, m9)
  else
  fm_bn (f_X12_of H v0 v1 (2 : Int32) m2) fun x2 m3 =>
  if x2 = (1 : Int32) then
    fm_bn (f_X12_wayPlace H v1 (1 : Int32) m3) fun x3 m4 =>
    if px_inb x3 (fm_sz H (H.2.1 v0 0)) = true then
      (fm_bd (fm_si m4 (H.2.1 v0 0) x3.toNatClampNeg (0 : Int32)) fun m5 =>
      fm_bn (f_X12_put H v0 v1 (2 : Int32) (0 : Int32) m5) fun _ m6 =>
      fm_bn (f_X12_put H v0 v1 (3 : Int32) (0 : Int32) m6) fun _ m7 =>
      if px_inb (13 : Int32) (fm_sz H (H.2.1 v0 0)) = true then
        if px_inb (13 : Int32) (fm_sz H (H.2.1 v0 0)) = true then
          (fm_bd (fm_si m7 (H.2.1 v0 0) (13 : Int32).toNatClampNeg (m7.1 (H.2.1 v0 0) (13 : Int32).toNatClampNeg + (1 : Int32))) fun m8 =>
          some ((0 : Int32), m8))
        else none
      else none)
    else none
  else
  some ((7 : Int32), m3)
set_option maxRecDepth 10000 in
theorem q_X12_abort {G : pm_G} {H : fm_H} {d : Nat} {z : Option Nat × Nat × Nat} {v0 : Nat} {v1 : Int32} {m : fm_M} (hE : fm_E G H) (h0 : fm_is H v0 12) : fm_cal G H (d + 3) yX12_abort [.ref v0, .int v1] z m fm_rI (f_X12_abort H v0 v1 m) := fm_mth (d := d + 2) mt_X12_abort rfl rfl rfl (fun K => by
  show fm_o fm_rI (f_X12_abort H v0 v1 m) K → fm_V G H (d + 2) RX12 cX12_abort (some (.int)) z K 0 [some (.ref v0), some (.int v1)] [] m
  have T : fm_T RX12 cX12_abort tc_X12_abort fr_X12 mr_X12 cr_X12 lr_X12 := ⟨tok_X12, dc_X12_abort⟩
  unfold f_X12_abort
  refine fs_r T 2 2 [some (.ref v0), some (.int v1)] [.int (0 : Int32), .ref v0] rfl ?_
  refine fs_pi T 5 12 7 v0 rfl rfl rfl rfl h0 ?_
  intro m1
  refine fs_r T 2 7 [some (.ref v0), some (.int v1)] [.int v1, .ref v0] rfl ?_
  refine fs_vI T 10 rfl rfl rfl rfl rfl rfl h0 (q_X12_isCircuit (d := d) hE h0) ?_
  intro x1 m2
  refine fs_if_ne T 19 13 rfl rfl rfl (fun _ => ?_) (fun _ => ?_)
  · refine fs_r T 2 15 [some (.ref v0), some (.int v1)] [.int (1 : Int32), .ref v0] rfl ?_
    refine fs_vI T 18 rfl rfl rfl rfl rfl rfl h0 (q_X12_fail (d := d + 1) hE h0) ?_
    intro x6 m9
    exact fs_reti T rfl rfl rfl
  · refine fs_r T 3 22 [some (.ref v0), some (.int v1)] [.int (2 : Int32), .int v1, .ref v0] rfl ?_
    refine fs_vI T 25 rfl rfl rfl rfl rfl rfl h0 (q_X12_of (d := d + 1) hE h0) ?_
    intro x2 m3
    refine fs_r T 1 26 [some (.ref v0), some (.int v1)] [.int (1 : Int32), .int x2] rfl ?_
    refine fs_ic_eq T 32 29 rfl rfl rfl (fun _ => ?_) (fun _ => ?_)
    · refine fs_r T 1 33 [some (.ref v0), some (.int v1)] [.ref v0] rfl ?_
      refine fs_gs T 36 12 0 v0 rfl rfl rfl rfl h0 ?_
      refine fs_r T 2 38 [some (.ref v0), some (.int v1)] [.int (1 : Int32), .int v1, .ref (H.2.1 v0 0)] rfl ?_
      refine fs_sI T 41 rfl rfl rfl rfl rfl rfl rfl (q_X12_wayPlace (d := d + 1) hE ) ?_
      intro x3 m4
      refine fs_r T 1 42 [some (.ref v0), some (.int v1)] [.int (0 : Int32), .int x3, .ref (H.2.1 v0 0)] rfl ?_
      refine fs_si T 43 (H.2.1 v0 0) rfl rfl (hE.1 _ 12 0 h0) ?_
      intro m5
      refine fs_r T 4 47 [some (.ref v0), some (.int v1)] [.int (0 : Int32), .int (2 : Int32), .int v1, .ref v0] rfl ?_
      refine fs_vV T 50 rfl rfl rfl rfl rfl rfl h0 (q_X12_put (d := d + 1) hE h0) ?_
      intro x4 m6
      refine fs_r T 4 54 [some (.ref v0), some (.int v1)] [.int (0 : Int32), .int (3 : Int32), .int v1, .ref v0] rfl ?_
      refine fs_vV T 57 rfl rfl rfl rfl rfl rfl h0 (q_X12_put (d := d + 1) hE h0) ?_
      intro x5 m7
      refine fs_r T 1 58 [some (.ref v0), some (.int v1)] [.ref v0] rfl ?_
      refine fs_gs T 61 12 0 v0 rfl rfl rfl rfl h0 ?_
      refine fs_r T 2 64 [some (.ref v0), some (.int v1)] [.int (13 : Int32), .ref (H.2.1 v0 0), .int (13 : Int32), .ref (H.2.1 v0 0)] rfl ?_
      refine fs_ai T 65 (H.2.1 v0 0) rfl rfl (hE.1 _ 12 0 h0) ?_
      refine fs_r T 2 67 [some (.ref v0), some (.int v1)] [.int (m7.1 (H.2.1 v0 0) (13 : Int32).toNatClampNeg + (1 : Int32)), .int (13 : Int32), .ref (H.2.1 v0 0)] rfl ?_
      refine fs_si T 68 (H.2.1 v0 0) rfl rfl (hE.1 _ 12 0 h0) ?_
      intro m8
      refine fs_r T 1 69 [some (.ref v0), some (.int v1)] [.int (0 : Int32)] rfl ?_
      exact fs_reti T rfl rfl rfl
    · refine fs_r T 1 31 [some (.ref v0), some (.int v1)] [.int (7 : Int32)] rfl ?_
      exact fs_reti T rfl rfl rfl)
def f_X12_growBacklog (H : fm_H) (v0 : Nat) (v1 : Int32) (v2 : Int32) (m : fm_M) : Option (Unit × fm_M) :=
  fm_bn (f_X12_of H v0 v1 (5 : Int32) m) fun x1 m1 =>
  if px_inb (10 : Int32) (fm_sz H (H.2.1 v0 0)) = true then
    if px_inb (10 : Int32) (fm_sz H (H.2.1 v0 0)) = true then
      (fm_bd (fm_si m1 (H.2.1 v0 0) (10 : Int32).toNatClampNeg (m1.1 (H.2.1 v0 0) (10 : Int32).toNatClampNeg + (pm_mm true (0 : Int32) ((x1 + v2) - (9 : Int32))))) fun m2 =>
      fm_bn (f_X12_put H v0 v1 (5 : Int32) (pm_mm false (x1 + v2) (9 : Int32)) m2) fun _ m3 =>
      some ((), m3))
    else none
  else none
set_option maxRecDepth 10000 in
theorem q_X12_growBacklog {G : pm_G} {H : fm_H} {d : Nat} {z : Option Nat × Nat × Nat} {v0 : Nat} {v1 : Int32} {v2 : Int32} {m : fm_M} (hE : fm_E G H) (h0 : fm_is H v0 12) : fm_cal G H (d + 2) yX12_growBacklog [.ref v0, .int v1, .int v2] z m fm_rV (f_X12_growBacklog H v0 v1 v2 m) := fm_mth (d := d + 1) mt_X12_growBacklog rfl rfl rfl (fun K => by
  show fm_o fm_rV (f_X12_growBacklog H v0 v1 v2 m) K → fm_V G H (d + 1) RX12 cX12_growBacklog none z K 0 [some (.ref v0), some (.int v1), some (.int v2), none] [] m
  have T : fm_T RX12 cX12_growBacklog tc_X12_growBacklog fr_X12 mr_X12 cr_X12 lr_X12 := ⟨tok_X12, dc_X12_growBacklog⟩
  unfold f_X12_growBacklog
  refine fs_r T 3 3 [some (.ref v0), some (.int v1), some (.int v2), none] [.int (5 : Int32), .int v1, .ref v0] rfl ?_
  refine fs_vI T 6 rfl rfl rfl rfl rfl rfl h0 (q_X12_of (d := d) hE h0) ?_
  intro x1 m1
  refine fs_r T 4 10 [some (.ref v0), some (.int v1), some (.int v2), some (.int (x1 + v2))] [.ref v0] rfl ?_
  refine fs_gs T 13 12 0 v0 rfl rfl rfl rfl h0 ?_
  refine fs_r T 2 16 [some (.ref v0), some (.int v1), some (.int v2), some (.int (x1 + v2))] [.int (10 : Int32), .ref (H.2.1 v0 0), .int (10 : Int32), .ref (H.2.1 v0 0)] rfl ?_
  refine fs_ai T 17 (H.2.1 v0 0) rfl rfl (hE.1 _ 12 0 h0) ?_
  refine fs_r T 4 22 [some (.ref v0), some (.int v1), some (.int v2), some (.int (x1 + v2))] [.int ((x1 + v2) - (9 : Int32)), .int (0 : Int32), .int (m1.1 (H.2.1 v0 0) (10 : Int32).toNatClampNeg), .int (10 : Int32), .ref (H.2.1 v0 0)] rfl ?_
  refine fs_mm T 25 rfl ma_X12_327 rfl rfl ?_
  refine fs_r T 1 26 [some (.ref v0), some (.int v1), some (.int v2), some (.int (x1 + v2))] [.int (m1.1 (H.2.1 v0 0) (10 : Int32).toNatClampNeg + (pm_mm true (0 : Int32) ((x1 + v2) - (9 : Int32)))), .int (10 : Int32), .ref (H.2.1 v0 0)] rfl ?_
  refine fs_si T 27 (H.2.1 v0 0) rfl rfl (hE.1 _ 12 0 h0) ?_
  intro m2
  refine fs_r T 5 33 [some (.ref v0), some (.int v1), some (.int v2), some (.int (x1 + v2))] [.int (9 : Int32), .int (x1 + v2), .int (5 : Int32), .int v1, .ref v0] rfl ?_
  refine fs_mm T 36 rfl ma_X12_332 rfl rfl ?_
  refine fs_vV T 39 rfl rfl rfl rfl rfl rfl h0 (q_X12_put (d := d) hE h0) ?_
  intro x2 m3
  exact fs_retv T rfl rfl rfl)
def f_X12_offer (H : fm_H) (v0 : Nat) (v1 : Int32) (v2 : Int32) (m : fm_M) : Option (Int32 × fm_M) :=
  fm_bd (fm_si m v0 7 (0 : Int32)) fun m1 =>
  fm_bn (f_X12_isCircuit H v0 v1 m1) fun x1 m2 =>
  if x1 = 0 then
    fm_bn (f_X12_fail H v0 (1 : Int32) m2) fun x6 m7 =>
    some (x6, m7)
  else
  fm_bn (f_X12_isBetween H v2 (1 : Int32) (9 : Int32) m2) fun x2 m3 =>
  if x2 = 0 then
    fm_bn (f_X12_fail H v0 (2 : Int32) m3) fun x5 m6 =>
    some (x5, m6)
  else
  fm_bn (f_X12_growBacklog H v0 v1 v2 m3) fun _ m4 =>
  fm_bn (f_X12_of H v0 v1 (5 : Int32) m4) fun x4 m5 =>
  some (x4, m5)
set_option maxRecDepth 10000 in
theorem q_X12_offer {G : pm_G} {H : fm_H} {d : Nat} {z : Option Nat × Nat × Nat} {v0 : Nat} {v1 : Int32} {v2 : Int32} {m : fm_M} (hE : fm_E G H) (h0 : fm_is H v0 12) : fm_cal G H (d + 3) yX12_offer [.ref v0, .int v1, .int v2] z m fm_rI (f_X12_offer H v0 v1 v2 m) := fm_mth (d := d + 2) mt_X12_offer rfl rfl rfl (fun K => by
  show fm_o fm_rI (f_X12_offer H v0 v1 v2 m) K → fm_V G H (d + 2) RX12 cX12_offer (some (.int)) z K 0 [some (.ref v0), some (.int v1), some (.int v2)] [] m
  have T : fm_T RX12 cX12_offer tc_X12_offer fr_X12 mr_X12 cr_X12 lr_X12 := ⟨tok_X12, dc_X12_offer⟩
  unfold f_X12_offer
  refine fs_r T 2 2 [some (.ref v0), some (.int v1), some (.int v2)] [.int (0 : Int32), .ref v0] rfl ?_
  refine fs_pi T 5 12 7 v0 rfl rfl rfl rfl h0 ?_
  intro m1
  refine fs_r T 2 7 [some (.ref v0), some (.int v1), some (.int v2)] [.int v1, .ref v0] rfl ?_
  refine fs_vI T 10 rfl rfl rfl rfl rfl rfl h0 (q_X12_isCircuit (d := d) hE h0) ?_
  intro x1 m2
  refine fs_if_ne T 19 13 rfl rfl rfl (fun _ => ?_) (fun _ => ?_)
  · refine fs_r T 2 15 [some (.ref v0), some (.int v1), some (.int v2)] [.int (1 : Int32), .ref v0] rfl ?_
    refine fs_vI T 18 rfl rfl rfl rfl rfl rfl h0 (q_X12_fail (d := d + 1) hE h0) ?_
    intro x6 m7
    exact fs_reti T rfl rfl rfl
  · refine fs_r T 3 23 [some (.ref v0), some (.int v1), some (.int v2)] [.int (9 : Int32), .int (1 : Int32), .int v2] rfl ?_
    refine fs_sI T 26 rfl rfl rfl rfl rfl rfl rfl (q_X12_isBetween (d := d + 1) hE ) ?_
    intro x2 m3
    refine fs_if_ne T 35 29 rfl rfl rfl (fun _ => ?_) (fun _ => ?_)
    · refine fs_r T 2 31 [some (.ref v0), some (.int v1), some (.int v2)] [.int (2 : Int32), .ref v0] rfl ?_
      refine fs_vI T 34 rfl rfl rfl rfl rfl rfl h0 (q_X12_fail (d := d + 1) hE h0) ?_
      intro x5 m6
      exact fs_reti T rfl rfl rfl
    · refine fs_r T 3 38 [some (.ref v0), some (.int v1), some (.int v2)] [.int v2, .int v1, .ref v0] rfl ?_
      refine fs_vV T 41 rfl rfl rfl rfl rfl rfl h0 (q_X12_growBacklog (d := d) hE h0) ?_
      intro x3 m4
      refine fs_r T 3 44 [some (.ref v0), some (.int v1), some (.int v2)] [.int (5 : Int32), .int v1, .ref v0] rfl ?_
      refine fs_vI T 47 rfl rfl rfl rfl rfl rfl h0 (q_X12_of (d := d + 1) hE h0) ?_
      intro x4 m5
      exact fs_reti T rfl rfl rfl)
def f_X12_deliverPacket (H : fm_H) (v0 : Nat) (v1 : Int32) (m : fm_M) : Option (Unit × fm_M) :=
  fm_bn (f_X12_ofPacket H v0 v1 (0 : Int32) m) fun x1 m1 =>
  fm_bn (f_X12_ofPacket H v0 v1 (1 : Int32) m1) fun x2 m2 =>
  if px_inb (8 : Int32) (fm_sz H (H.2.1 v0 0)) = true then
    if px_inb (8 : Int32) (fm_sz H (H.2.1 v0 0)) = true then
      (fm_bd (fm_si m2 (H.2.1 v0 0) (8 : Int32).toNatClampNeg (m2.1 (H.2.1 v0 0) (8 : Int32).toNatClampNeg + (1 : Int32))) fun m3 =>
      fm_bn (f_X12_grow H v0 x1 (7 : Int32) (1 : Int32) m3) fun _ m4 =>
      if px_inb (5 : Int32) (fm_sz H (H.2.1 v0 0)) = true then
        fm_bn (f_X12_ofPacket H v0 v1 (7 : Int32) m4) fun x4 m5 =>
        fm_bn (f_X12_grow H v0 x1 (11 : Int32) ((m4.1 (H.2.1 v0 0) (5 : Int32).toNatClampNeg + (1 : Int32)) - x4) m5) fun _ m6 =>
        fm_bn (f_X12_of H v0 x1 (10 : Int32) m6) fun x6 m7 =>
        if x6 ≤ x2 then
          fm_bn (f_X12_of H v0 x1 (10 : Int32) m7) fun x7 m8 =>
          fm_bn (f_X12_put H v0 x1 (10 : Int32) (pm_mm true x2 x7) m8) fun _ m9 =>
          fm_bn (f_X12_removePacket H v0 v1 m9) fun _ m10 =>
          some ((), m10)
        else
        if px_inb (11 : Int32) (fm_sz H (H.2.1 v0 0)) = true then
          if px_inb (11 : Int32) (fm_sz H (H.2.1 v0 0)) = true then
            (fm_bd (fm_si m7 (H.2.1 v0 0) (11 : Int32).toNatClampNeg (m7.1 (H.2.1 v0 0) (11 : Int32).toNatClampNeg + (1 : Int32))) fun m11 =>
            fm_bn (f_X12_grow H v0 x1 (9 : Int32) (1 : Int32) m11) fun _ m12 =>
            fm_bn (f_X12_of H v0 x1 (10 : Int32) m12) fun x11 m13 =>
            fm_bn (f_X12_put H v0 x1 (10 : Int32) (pm_mm true x2 x11) m13) fun _ m14 =>
            fm_bn (f_X12_removePacket H v0 v1 m14) fun _ m15 =>
            some ((), m15))
          else none
        else none
      else none)
    else none
  else none
set_option maxRecDepth 10000 in
theorem q_X12_deliverPacket {G : pm_G} {H : fm_H} {d : Nat} {z : Option Nat × Nat × Nat} {v0 : Nat} {v1 : Int32} {m : fm_M} (hE : fm_E G H) (h0 : fm_is H v0 12) : fm_cal G H (d + 2) yX12_deliverPacket [.ref v0, .int v1] z m fm_rV (f_X12_deliverPacket H v0 v1 m) := fm_mth (d := d + 1) mt_X12_deliverPacket rfl rfl rfl (fun K => by
  show fm_o fm_rV (f_X12_deliverPacket H v0 v1 m) K → fm_V G H (d + 1) RX12 cX12_deliverPacket none z K 0 [some (.ref v0), some (.int v1), none, none] [] m
  have T : fm_T RX12 cX12_deliverPacket tc_X12_deliverPacket fr_X12 mr_X12 cr_X12 lr_X12 := ⟨tok_X12, dc_X12_deliverPacket⟩
  unfold f_X12_deliverPacket
  refine fs_r T 3 3 [some (.ref v0), some (.int v1), none, none] [.int (0 : Int32), .int v1, .ref v0] rfl ?_
  refine fs_vI T 6 rfl rfl rfl rfl rfl rfl h0 (q_X12_ofPacket (d := d) hE h0) ?_
  intro x1 m1
  refine fs_r T 4 10 [some (.ref v0), some (.int v1), some (.int x1), none] [.int (1 : Int32), .int v1, .ref v0] rfl ?_
  refine fs_vI T 13 rfl rfl rfl rfl rfl rfl h0 (q_X12_ofPacket (d := d) hE h0) ?_
  intro x2 m2
  refine fs_r T 2 15 [some (.ref v0), some (.int v1), some (.int x1), some (.int x2)] [.ref v0] rfl ?_
  refine fs_gs T 18 12 0 v0 rfl rfl rfl rfl h0 ?_
  refine fs_r T 2 21 [some (.ref v0), some (.int v1), some (.int x1), some (.int x2)] [.int (8 : Int32), .ref (H.2.1 v0 0), .int (8 : Int32), .ref (H.2.1 v0 0)] rfl ?_
  refine fs_ai T 22 (H.2.1 v0 0) rfl rfl (hE.1 _ 12 0 h0) ?_
  refine fs_r T 2 24 [some (.ref v0), some (.int v1), some (.int x1), some (.int x2)] [.int (m2.1 (H.2.1 v0 0) (8 : Int32).toNatClampNeg + (1 : Int32)), .int (8 : Int32), .ref (H.2.1 v0 0)] rfl ?_
  refine fs_si T 25 (H.2.1 v0 0) rfl rfl (hE.1 _ 12 0 h0) ?_
  intro m3
  refine fs_r T 4 30 [some (.ref v0), some (.int v1), some (.int x1), some (.int x2)] [.int (1 : Int32), .int (7 : Int32), .int x1, .ref v0] rfl ?_
  refine fs_vV T 33 rfl rfl rfl rfl rfl rfl h0 (q_X12_grow (d := d) hE h0) ?_
  intro x3 m4
  refine fs_r T 4 38 [some (.ref v0), some (.int v1), some (.int x1), some (.int x2)] [.ref v0, .int (11 : Int32), .int x1, .ref v0] rfl ?_
  refine fs_gs T 41 12 0 v0 rfl rfl rfl rfl h0 ?_
  refine fs_r T 1 42 [some (.ref v0), some (.int v1), some (.int x1), some (.int x2)] [.int (5 : Int32), .ref (H.2.1 v0 0), .int (11 : Int32), .int x1, .ref v0] rfl ?_
  refine fs_ai T 43 (H.2.1 v0 0) rfl rfl (hE.1 _ 12 0 h0) ?_
  refine fs_r T 5 49 [some (.ref v0), some (.int v1), some (.int x1), some (.int x2)] [.int (7 : Int32), .int v1, .ref v0, .int (m4.1 (H.2.1 v0 0) (5 : Int32).toNatClampNeg + (1 : Int32)), .int (11 : Int32), .int x1, .ref v0] rfl ?_
  refine fs_vI T 52 rfl rfl rfl rfl rfl rfl h0 (q_X12_ofPacket (d := d) hE h0) ?_
  intro x4 m5
  refine fs_r T 1 53 [some (.ref v0), some (.int v1), some (.int x1), some (.int x2)] [.int ((m4.1 (H.2.1 v0 0) (5 : Int32).toNatClampNeg + (1 : Int32)) - x4), .int (11 : Int32), .int x1, .ref v0] rfl ?_
  refine fs_vV T 56 rfl rfl rfl rfl rfl rfl h0 (q_X12_grow (d := d) hE h0) ?_
  intro x5 m6
  refine fs_r T 4 61 [some (.ref v0), some (.int v1), some (.int x1), some (.int x2)] [.int (10 : Int32), .int x1, .ref v0, .int x2] rfl ?_
  refine fs_vI T 64 rfl rfl rfl rfl rfl rfl h0 (q_X12_of (d := d) hE h0) ?_
  intro x6 m7
  refine fs_ic_ge T 86 67 rfl rfl rfl (fun _ => ?_) (fun _ => ?_)
  · refine fs_r T 7 95 [some (.ref v0), some (.int v1), some (.int x1), some (.int x2)] [.int (10 : Int32), .int x1, .ref v0, .int x2, .int (10 : Int32), .int x1, .ref v0] rfl ?_
    refine fs_vI T 98 rfl rfl rfl rfl rfl rfl h0 (q_X12_of (d := d) hE h0) ?_
    intro x7 m8
    refine fs_mm T 101 rfl ma_X12_327 rfl rfl ?_
    refine fs_vV T 104 rfl rfl rfl rfl rfl rfl h0 (q_X12_put (d := d) hE h0) ?_
    intro x8 m9
    refine fs_r T 2 106 [some (.ref v0), some (.int v1), some (.int x1), some (.int x2)] [.int v1, .ref v0] rfl ?_
    refine fs_vV T 109 rfl rfl rfl rfl rfl rfl h0 (q_X12_removePacket (d := d) hE h0) ?_
    intro x9 m10
    exact fs_retv T rfl rfl rfl
  · refine fs_r T 1 68 [some (.ref v0), some (.int v1), some (.int x1), some (.int x2)] [.ref v0] rfl ?_
    refine fs_gs T 71 12 0 v0 rfl rfl rfl rfl h0 ?_
    refine fs_r T 2 74 [some (.ref v0), some (.int v1), some (.int x1), some (.int x2)] [.int (11 : Int32), .ref (H.2.1 v0 0), .int (11 : Int32), .ref (H.2.1 v0 0)] rfl ?_
    refine fs_ai T 75 (H.2.1 v0 0) rfl rfl (hE.1 _ 12 0 h0) ?_
    refine fs_r T 2 77 [some (.ref v0), some (.int v1), some (.int x1), some (.int x2)] [.int (m7.1 (H.2.1 v0 0) (11 : Int32).toNatClampNeg + (1 : Int32)), .int (11 : Int32), .ref (H.2.1 v0 0)] rfl ?_
    refine fs_si T 78 (H.2.1 v0 0) rfl rfl (hE.1 _ 12 0 h0) ?_
    intro m11
    refine fs_r T 4 83 [some (.ref v0), some (.int v1), some (.int x1), some (.int x2)] [.int (1 : Int32), .int (9 : Int32), .int x1, .ref v0] rfl ?_
    refine fs_vV T 86 rfl rfl rfl rfl rfl rfl h0 (q_X12_grow (d := d) hE h0) ?_
    intro x10 m12
    refine fs_r T 7 95 [some (.ref v0), some (.int v1), some (.int x1), some (.int x2)] [.int (10 : Int32), .int x1, .ref v0, .int x2, .int (10 : Int32), .int x1, .ref v0] rfl ?_
    refine fs_vI T 98 rfl rfl rfl rfl rfl rfl h0 (q_X12_of (d := d) hE h0) ?_
    intro x11 m13
    refine fs_mm T 101 rfl ma_X12_327 rfl rfl ?_
    refine fs_vV T 104 rfl rfl rfl rfl rfl rfl h0 (q_X12_put (d := d) hE h0) ?_
    intro x12 m14
    refine fs_r T 2 106 [some (.ref v0), some (.int v1), some (.int x1), some (.int x2)] [.int v1, .ref v0] rfl ?_
    refine fs_vV T 109 rfl rfl rfl rfl rfl rfl h0 (q_X12_removePacket (d := d) hE h0) ?_
    intro x13 m15
    exact fs_retv T rfl rfl rfl)
