/-! functions out of the code -/
def f_X12_setOut (H : fm_H) (v0 : Nat) (v1 : Int32) (v2 : Int32) (v3 : Int32) (m : fm_M) : Option (Unit × fm_M) :=
  if px_inb (((v2 + (1 : Int32)) + v3) - (1 : Int32)) (fm_sz H (H.2.1 v0 0)) = true then
    if px_inb ((v2 + (1 : Int32)) + v3) (fm_sz H (H.2.1 v0 0)) = true then
      fm_bn (f_X12_linkOf H v0 (m.1 (H.2.1 v0 0) (((v2 + (1 : Int32)) + v3) - (1 : Int32)).toNatClampNeg) (m.1 (H.2.1 v0 0) ((v2 + (1 : Int32)) + v3).toNatClampNeg) m) fun x1 m1 =>
      if px_inb (((632 : Int32) + ((8 : Int32) * v1)) + (2 : Int32)) (fm_sz H (H.2.1 v0 0)) = true then
        (fm_bd (fm_si m1 (H.2.1 v0 0) (((632 : Int32) + ((8 : Int32) * v1)) + (2 : Int32)).toNatClampNeg x1) fun m2 =>
        if px_inb ((v2 + (1 : Int32)) + v3) (fm_sz H (H.2.1 v0 0)) = true then
          if px_inb (((632 : Int32) + ((8 : Int32) * v1)) + (3 : Int32)) (fm_sz H (H.2.1 v0 0)) = true then
            (fm_bd (fm_si m2 (H.2.1 v0 0) (((632 : Int32) + ((8 : Int32) * v1)) + (3 : Int32)).toNatClampNeg (m2.1 (H.2.1 v0 0) ((v2 + (1 : Int32)) + v3).toNatClampNeg)) fun m3 =>
            if px_inb ((v2 + (7 : Int32)) + v3) (fm_sz H (H.2.1 v0 0)) = true then
              if px_inb (((632 : Int32) + ((8 : Int32) * v1)) + (4 : Int32)) (fm_sz H (H.2.1 v0 0)) = true then
                (fm_bd (fm_si m3 (H.2.1 v0 0) (((632 : Int32) + ((8 : Int32) * v1)) + (4 : Int32)).toNatClampNeg (m3.1 (H.2.1 v0 0) ((v2 + (7 : Int32)) + v3).toNatClampNeg)) fun m4 =>
                if px_inb ((v2 + (13 : Int32)) + v3) (fm_sz H (H.2.1 v0 0)) = true then
                  if px_inb (((632 : Int32) + ((8 : Int32) * v1)) + (5 : Int32)) (fm_sz H (H.2.1 v0 0)) = true then
                    (fm_bd (fm_si m4 (H.2.1 v0 0) (((632 : Int32) + ((8 : Int32) * v1)) + (5 : Int32)).toNatClampNeg (m4.1 (H.2.1 v0 0) ((v2 + (13 : Int32)) + v3).toNatClampNeg)) fun m5 =>
                    fm_bn (f_X12_ofLink H v0 x1 (3 : Int32) m5) fun x2 m6 =>
                    if px_inb (((632 : Int32) + ((8 : Int32) * v1)) + (6 : Int32)) (fm_sz H (H.2.1 v0 0)) = true then
                      (fm_bd (fm_si m6 (H.2.1 v0 0) (((632 : Int32) + ((8 : Int32) * v1)) + (6 : Int32)).toNatClampNeg x2) fun m7 =>
                      some ((), m7))
                    else none)
                  else none
                else none)
              else none
            else none)
          else none
        else none)
      else none
    else none
  else none
set_option maxRecDepth 10000 in
theorem q_X12_setOut {G : pm_G} {H : fm_H} {d : Nat} {z : Option Nat × Nat × Nat} {v0 : Nat} {v1 : Int32} {v2 : Int32} {v3 : Int32} {m : fm_M} (hE : fm_E G H) (h0 : fm_is H v0 12) : fm_cal G H (d + 3) yX12_setOut [.ref v0, .int v1, .int v2, .int v3] z m fm_rV (f_X12_setOut H v0 v1 v2 v3 m) := fm_mth (d := d + 2) mt_X12_setOut rfl rfl rfl (fun K => by
  show fm_o fm_rV (f_X12_setOut H v0 v1 v2 v3 m) K → fm_V G H (d + 2) RX12 cX12_setOut none z K 0 [some (.ref v0), some (.int v1), some (.int v2), some (.int v3), none, none] [] m
  have T : fm_T RX12 cX12_setOut tc_X12_setOut fr_X12 mr_X12 cr_X12 lr_X12 := ⟨tok_X12, dc_X12_setOut⟩
  unfold f_X12_setOut
  refine fs_r T 8 12 [some (.ref v0), some (.int v1), some (.int v2), some (.int v3), some (.int ((632 : Int32) + ((8 : Int32) * v1))), none] [.ref v0, .ref v0] rfl ?_
  refine fs_gs T 15 12 0 v0 rfl rfl rfl rfl h0 ?_
  refine fs_r T 7 22 [some (.ref v0), some (.int v1), some (.int v2), some (.int v3), some (.int ((632 : Int32) + ((8 : Int32) * v1))), none] [.int (((v2 + (1 : Int32)) + v3) - (1 : Int32)), .ref (H.2.1 v0 0), .ref v0] rfl ?_
  refine fs_ai T 23 (H.2.1 v0 0) rfl rfl (hE.1 _ 12 0 h0) ?_
  refine fs_r T 1 24 [some (.ref v0), some (.int v1), some (.int v2), some (.int v3), some (.int ((632 : Int32) + ((8 : Int32) * v1))), none] [.ref v0, .int (m.1 (H.2.1 v0 0) (((v2 + (1 : Int32)) + v3) - (1 : Int32)).toNatClampNeg), .ref v0] rfl ?_
  refine fs_gs T 27 12 0 v0 rfl rfl rfl rfl h0 ?_
  refine fs_r T 5 32 [some (.ref v0), some (.int v1), some (.int v2), some (.int v3), some (.int ((632 : Int32) + ((8 : Int32) * v1))), none] [.int ((v2 + (1 : Int32)) + v3), .ref (H.2.1 v0 0), .int (m.1 (H.2.1 v0 0) (((v2 + (1 : Int32)) + v3) - (1 : Int32)).toNatClampNeg), .ref v0] rfl ?_
  refine fs_ai T 33 (H.2.1 v0 0) rfl rfl (hE.1 _ 12 0 h0) ?_
  refine fs_vI T 36 rfl rfl rfl rfl rfl rfl h0 (q_X12_linkOf (d := d) hE h0) ?_
  intro x1 m1
  refine fs_r T 2 39 [some (.ref v0), some (.int v1), some (.int v2), some (.int v3), some (.int ((632 : Int32) + ((8 : Int32) * v1))), some (.int x1)] [.ref v0] rfl ?_
  refine fs_gs T 42 12 0 v0 rfl rfl rfl rfl h0 ?_
  refine fs_r T 4 48 [some (.ref v0), some (.int v1), some (.int v2), some (.int v3), some (.int ((632 : Int32) + ((8 : Int32) * v1))), some (.int x1)] [.int x1, .int (((632 : Int32) + ((8 : Int32) * v1)) + (2 : Int32)), .ref (H.2.1 v0 0)] rfl ?_
  refine fs_si T 49 (H.2.1 v0 0) rfl rfl (hE.1 _ 12 0 h0) ?_
  intro m2
  refine fs_r T 1 50 [some (.ref v0), some (.int v1), some (.int v2), some (.int v3), some (.int ((632 : Int32) + ((8 : Int32) * v1))), some (.int x1)] [.ref v0] rfl ?_
  refine fs_gs T 53 12 0 v0 rfl rfl rfl rfl h0 ?_
  refine fs_r T 4 58 [some (.ref v0), some (.int v1), some (.int v2), some (.int v3), some (.int ((632 : Int32) + ((8 : Int32) * v1))), some (.int x1)] [.ref v0, .int (((632 : Int32) + ((8 : Int32) * v1)) + (3 : Int32)), .ref (H.2.1 v0 0)] rfl ?_
  refine fs_gs T 61 12 0 v0 rfl rfl rfl rfl h0 ?_
  refine fs_r T 5 66 [some (.ref v0), some (.int v1), some (.int v2), some (.int v3), some (.int ((632 : Int32) + ((8 : Int32) * v1))), some (.int x1)] [.int ((v2 + (1 : Int32)) + v3), .ref (H.2.1 v0 0), .int (((632 : Int32) + ((8 : Int32) * v1)) + (3 : Int32)), .ref (H.2.1 v0 0)] rfl ?_
  refine fs_ai T 67 (H.2.1 v0 0) rfl rfl (hE.1 _ 12 0 h0) ?_
  refine fs_si T 68 (H.2.1 v0 0) rfl rfl (hE.1 _ 12 0 h0) ?_
  intro m3
  refine fs_r T 1 69 [some (.ref v0), some (.int v1), some (.int v2), some (.int v3), some (.int ((632 : Int32) + ((8 : Int32) * v1))), some (.int x1)] [.ref v0] rfl ?_
  refine fs_gs T 72 12 0 v0 rfl rfl rfl rfl h0 ?_
  refine fs_r T 4 77 [some (.ref v0), some (.int v1), some (.int v2), some (.int v3), some (.int ((632 : Int32) + ((8 : Int32) * v1))), some (.int x1)] [.ref v0, .int (((632 : Int32) + ((8 : Int32) * v1)) + (4 : Int32)), .ref (H.2.1 v0 0)] rfl ?_
  refine fs_gs T 80 12 0 v0 rfl rfl rfl rfl h0 ?_
  refine fs_r T 5 86 [some (.ref v0), some (.int v1), some (.int v2), some (.int v3), some (.int ((632 : Int32) + ((8 : Int32) * v1))), some (.int x1)] [.int ((v2 + (7 : Int32)) + v3), .ref (H.2.1 v0 0), .int (((632 : Int32) + ((8 : Int32) * v1)) + (4 : Int32)), .ref (H.2.1 v0 0)] rfl ?_
  refine fs_ai T 87 (H.2.1 v0 0) rfl rfl (hE.1 _ 12 0 h0) ?_
  refine fs_si T 88 (H.2.1 v0 0) rfl rfl (hE.1 _ 12 0 h0) ?_
  intro m4
  refine fs_r T 1 89 [some (.ref v0), some (.int v1), some (.int v2), some (.int v3), some (.int ((632 : Int32) + ((8 : Int32) * v1))), some (.int x1)] [.ref v0] rfl ?_
  refine fs_gs T 92 12 0 v0 rfl rfl rfl rfl h0 ?_
  refine fs_r T 4 97 [some (.ref v0), some (.int v1), some (.int v2), some (.int v3), some (.int ((632 : Int32) + ((8 : Int32) * v1))), some (.int x1)] [.ref v0, .int (((632 : Int32) + ((8 : Int32) * v1)) + (5 : Int32)), .ref (H.2.1 v0 0)] rfl ?_
  refine fs_gs T 100 12 0 v0 rfl rfl rfl rfl h0 ?_
  refine fs_r T 5 106 [some (.ref v0), some (.int v1), some (.int v2), some (.int v3), some (.int ((632 : Int32) + ((8 : Int32) * v1))), some (.int x1)] [.int ((v2 + (13 : Int32)) + v3), .ref (H.2.1 v0 0), .int (((632 : Int32) + ((8 : Int32) * v1)) + (5 : Int32)), .ref (H.2.1 v0 0)] rfl ?_
  refine fs_ai T 107 (H.2.1 v0 0) rfl rfl (hE.1 _ 12 0 h0) ?_
  refine fs_si T 108 (H.2.1 v0 0) rfl rfl (hE.1 _ 12 0 h0) ?_
  intro m5
  refine fs_r T 1 109 [some (.ref v0), some (.int v1), some (.int v2), some (.int v3), some (.int ((632 : Int32) + ((8 : Int32) * v1))), some (.int x1)] [.ref v0] rfl ?_
  refine fs_gs T 112 12 0 v0 rfl rfl rfl rfl h0 ?_
  refine fs_r T 6 121 [some (.ref v0), some (.int v1), some (.int v2), some (.int v3), some (.int ((632 : Int32) + ((8 : Int32) * v1))), some (.int x1)] [.int (3 : Int32), .int x1, .ref v0, .int (((632 : Int32) + ((8 : Int32) * v1)) + (6 : Int32)), .ref (H.2.1 v0 0)] rfl ?_
  refine fs_vI T 124 rfl rfl rfl rfl rfl rfl h0 (q_X12_ofLink (d := d + 1) hE h0) ?_
  intro x2 m6
  refine fs_si T 125 (H.2.1 v0 0) rfl rfl (hE.1 _ 12 0 h0) ?_
  intro m7
  exact fs_retv T rfl rfl rfl)
def f_X12_arrive_36 (H : fm_H) (v0 : Nat) (v1 : Int32) (v2 : Int32) (s0 : Int32) (m : fm_M) : Option (Int32 × fm_M) :=
  if v2 = 0 then
    fm_bn (f_X12_losePacket H v0 v1 m) fun _ m1 =>
    some ((0 : Int32), m1)
  else
  if px_inb ((s0 + (1 : Int32)) + m.1 v0 20) (fm_sz H (H.2.1 v0 0)) = true then
    fm_bn (f_X12_ofPacket H v0 v1 (3 : Int32) m) fun x2 m2 =>
    if m.1 (H.2.1 v0 0) ((s0 + (1 : Int32)) + m.1 v0 20).toNatClampNeg = x2 then
      if px_inb ((s0 + (19 : Int32)) + m.1 v0 20) (fm_sz H (H.2.1 v0 0)) = true then
        if m2.1 (H.2.1 v0 0) ((s0 + (19 : Int32)) + m.1 v0 20).toNatClampNeg = 0 then
          fm_bn (f_X12_losePacket H v0 v1 m2) fun _ m9 =>
          some ((0 : Int32), m9)
        else
        if px_inb s0 (fm_sz H (H.2.1 v0 0)) = true then
          if (m.1 v0 20 + (1 : Int32)) = m2.1 (H.2.1 v0 0) s0.toNatClampNeg then
            fm_bn (f_X12_deliverPacket H v0 v1 m2) fun _ m8 =>
            some ((0 : Int32), m8)
          else
          fm_bn (f_X12_setOut H v0 v1 s0 (m.1 v0 20 + (1 : Int32)) m2) fun _ m4 =>
          fm_bn (f_X12_ofPacket H v0 v1 (2 : Int32) m4) fun x5 m5 =>
          fm_bn (f_X12_ofLink H v0 x5 (4 : Int32) m5) fun x6 m6 =>
          if x6 = 0 then
            fm_bn (f_X12_losePacket H v0 v1 m6) fun _ m7 =>
            some ((0 : Int32), m7)
          else
          some ((1 : Int32), m6)
        else none
      else none
    else
    fm_bn (f_X12_losePacket H v0 v1 m2) fun _ m3 =>
    some ((0 : Int32), m3)
  else none
set_option maxRecDepth 10000 in
theorem w_X12_arrive_36 {G : pm_G} {H : fm_H} {d : Nat} {z : Option Nat × Nat × Nat} {K : pm_R → fm_M → Prop} (hE : fm_E G H) {v0 : Nat} {v1 : Int32} {v2 : Int32} (h0 : fm_is H v0 12) : ∀ (s0 : Int32) (m : fm_M), fm_o fm_rI (f_X12_arrive_36 H v0 v1 v2 s0 m) K → fm_V G H (d + 3) RX12 cX12_arrive (some (.boolean)) z K 36 [some (.ref v0), some (.int v1), some (.int v2), none, none] [.int s0] m := by
  have T : fm_T RX12 cX12_arrive tc_X12_arrive fr_X12 mr_X12 cr_X12 lr_X12 := ⟨tok_X12, dc_X12_arrive⟩
  intro s0 m
  unfold f_X12_arrive_36
  refine fs_r T 2 38 [some (.ref v0), some (.int v1), some (.int v2), some (.int s0), none] [.ref v0] rfl ?_
  refine fs_gi T 41 12 20 v0 rfl rfl rfl rfl h0 ?_
  refine fs_r T 2 44 [some (.ref v0), some (.int v1), some (.int v2), some (.int s0), some (.int (m.1 v0 20))] [.int v2] rfl ?_
  refine fs_if_eq T 82 47 rfl rfl rfl (fun _ => ?_) (fun _ => ?_)
  · refine fs_r T 2 84 [some (.ref v0), some (.int v1), some (.int v2), some (.int s0), some (.int (m.1 v0 20))] [.int v1, .ref v0] rfl ?_
    refine fs_vV T 87 rfl rfl rfl rfl rfl rfl h0 (q_X12_losePacket (d := d + 1) hE h0) ?_
    intro x1 m1
    refine fs_r T 1 88 [some (.ref v0), some (.int v1), some (.int v2), some (.int s0), some (.int (m.1 v0 20))] [.int (0 : Int32)] rfl ?_
    exact fs_retc T rfl rfl rfl rfl
  · refine fs_r T 1 48 [some (.ref v0), some (.int v1), some (.int v2), some (.int s0), some (.int (m.1 v0 20))] [.ref v0] rfl ?_
    refine fs_gs T 51 12 0 v0 rfl rfl rfl rfl h0 ?_
    refine fs_r T 5 57 [some (.ref v0), some (.int v1), some (.int v2), some (.int s0), some (.int (m.1 v0 20))] [.int ((s0 + (1 : Int32)) + m.1 v0 20), .ref (H.2.1 v0 0)] rfl ?_
    refine fs_ai T 58 (H.2.1 v0 0) rfl rfl (hE.1 _ 12 0 h0) ?_
    refine fs_r T 3 61 [some (.ref v0), some (.int v1), some (.int v2), some (.int s0), some (.int (m.1 v0 20))] [.int (3 : Int32), .int v1, .ref v0, .int (m.1 (H.2.1 v0 0) ((s0 + (1 : Int32)) + m.1 v0 20).toNatClampNeg)] rfl ?_
    refine fs_vI T 64 rfl rfl rfl rfl rfl rfl h0 (q_X12_ofPacket (d := d + 2) hE h0) ?_
    intro x2 m2
    refine fs_ic_ne T 82 67 rfl rfl rfl (fun _ => ?_) (fun _ => ?_)
    · refine fs_r T 1 68 [some (.ref v0), some (.int v1), some (.int v2), some (.int s0), some (.int (m.1 v0 20))] [.ref v0] rfl ?_
      refine fs_gs T 71 12 0 v0 rfl rfl rfl rfl h0 ?_
      refine fs_r T 5 78 [some (.ref v0), some (.int v1), some (.int v2), some (.int s0), some (.int (m.1 v0 20))] [.int ((s0 + (19 : Int32)) + m.1 v0 20), .ref (H.2.1 v0 0)] rfl ?_
      refine fs_ai T 79 (H.2.1 v0 0) rfl rfl (hE.1 _ 12 0 h0) ?_
      refine fs_if_ne T 89 82 rfl rfl rfl (fun _ => ?_) (fun _ => ?_)
      · refine fs_r T 2 84 [some (.ref v0), some (.int v1), some (.int v2), some (.int s0), some (.int (m.1 v0 20))] [.int v1, .ref v0] rfl ?_
        refine fs_vV T 87 rfl rfl rfl rfl rfl rfl h0 (q_X12_losePacket (d := d + 1) hE h0) ?_
        intro x9 m9
        refine fs_r T 1 88 [some (.ref v0), some (.int v1), some (.int v2), some (.int s0), some (.int (m.1 v0 20))] [.int (0 : Int32)] rfl ?_
        exact fs_retc T rfl rfl rfl rfl
      · refine fs_r T 4 94 [some (.ref v0), some (.int v1), some (.int v2), some (.int s0), some (.int (m.1 v0 20))] [.ref v0, .int (m.1 v0 20 + (1 : Int32))] rfl ?_
        refine fs_gs T 97 12 0 v0 rfl rfl rfl rfl h0 ?_
        refine fs_r T 1 98 [some (.ref v0), some (.int v1), some (.int v2), some (.int s0), some (.int (m.1 v0 20))] [.int s0, .ref (H.2.1 v0 0), .int (m.1 v0 20 + (1 : Int32))] rfl ?_
        refine fs_ai T 99 (H.2.1 v0 0) rfl rfl (hE.1 _ 12 0 h0) ?_
        refine fs_ic_ne T 109 102 rfl rfl rfl (fun _ => ?_) (fun _ => ?_)
        · refine fs_r T 2 104 [some (.ref v0), some (.int v1), some (.int v2), some (.int s0), some (.int (m.1 v0 20))] [.int v1, .ref v0] rfl ?_
          refine fs_vV T 107 rfl rfl rfl rfl rfl rfl h0 (q_X12_deliverPacket (d := d + 1) hE h0) ?_
          intro x8 m8
          refine fs_r T 1 108 [some (.ref v0), some (.int v1), some (.int v2), some (.int s0), some (.int (m.1 v0 20))] [.int (0 : Int32)] rfl ?_
          exact fs_retc T rfl rfl rfl rfl
        · refine fs_r T 6 116 [some (.ref v0), some (.int v1), some (.int v2), some (.int s0), some (.int (m.1 v0 20))] [.int (m.1 v0 20 + (1 : Int32)), .int s0, .int v1, .ref v0] rfl ?_
          refine fs_vV T 119 rfl rfl rfl rfl rfl rfl h0 (q_X12_setOut (d := d) hE h0) ?_
          intro x4 m4
          refine fs_r T 4 123 [some (.ref v0), some (.int v1), some (.int v2), some (.int s0), some (.int (m.1 v0 20))] [.int (2 : Int32), .int v1, .ref v0, .ref v0] rfl ?_
          refine fs_vI T 126 rfl rfl rfl rfl rfl rfl h0 (q_X12_ofPacket (d := d + 2) hE h0) ?_
          intro x5 m5
          refine fs_r T 1 127 [some (.ref v0), some (.int v1), some (.int v2), some (.int s0), some (.int (m.1 v0 20))] [.int (4 : Int32), .int x5, .ref v0] rfl ?_
          refine fs_vI T 130 rfl rfl rfl rfl rfl rfl h0 (q_X12_ofLink (d := d + 2) hE h0) ?_
          intro x6 m6
          refine fs_if_ne T 140 133 rfl rfl rfl (fun _ => ?_) (fun _ => ?_)
          · refine fs_r T 2 135 [some (.ref v0), some (.int v1), some (.int v2), some (.int s0), some (.int (m.1 v0 20))] [.int v1, .ref v0] rfl ?_
            refine fs_vV T 138 rfl rfl rfl rfl rfl rfl h0 (q_X12_losePacket (d := d + 1) hE h0) ?_
            intro x7 m7
            refine fs_r T 1 139 [some (.ref v0), some (.int v1), some (.int v2), some (.int s0), some (.int (m.1 v0 20))] [.int (0 : Int32)] rfl ?_
            exact fs_retc T rfl rfl rfl rfl
          · refine fs_r T 1 141 [some (.ref v0), some (.int v1), some (.int v2), some (.int s0), some (.int (m.1 v0 20))] [.int (1 : Int32)] rfl ?_
            exact fs_retc T rfl rfl rfl rfl
    · refine fs_r T 2 84 [some (.ref v0), some (.int v1), some (.int v2), some (.int s0), some (.int (m.1 v0 20))] [.int v1, .ref v0] rfl ?_
      refine fs_vV T 87 rfl rfl rfl rfl rfl rfl h0 (q_X12_losePacket (d := d + 1) hE h0) ?_
      intro x3 m3
      refine fs_r T 1 88 [some (.ref v0), some (.int v1), some (.int v2), some (.int s0), some (.int (m.1 v0 20))] [.int (0 : Int32)] rfl ?_
      exact fs_retc T rfl rfl rfl rfl
def f_X12_arrive (H : fm_H) (v0 : Nat) (v1 : Int32) (m : fm_M) : Option (Int32 × fm_M) :=
  fm_bn (f_X12_ofPacket H v0 v1 (4 : Int32) m) fun x1 m1 =>
  fm_bn (f_X12_ofPacket H v0 v1 (5 : Int32) m1) fun x2 m2 =>
  fm_bn (f_X12_findHolder H v0 x1 x2 m2) fun x3 m3 =>
  if x3 = 0 then
    f_X12_arrive_36 H v0 v1 x3 (0 : Int32) m3
  else
  fm_bn (f_X12_wayPlace H (m3.1 v0 18) (m3.1 v0 19) m3) fun x4 m4 =>
  f_X12_arrive_36 H v0 v1 x3 x4 m4
set_option maxRecDepth 10000 in
theorem q_X12_arrive {G : pm_G} {H : fm_H} {d : Nat} {z : Option Nat × Nat × Nat} {v0 : Nat} {v1 : Int32} {m : fm_M} (hE : fm_E G H) (h0 : fm_is H v0 12) : fm_cal G H (d + 4) yX12_arrive [.ref v0, .int v1] z m fm_rI (f_X12_arrive H v0 v1 m) := fm_mth (d := d + 3) mt_X12_arrive rfl rfl rfl (fun K => by
  show fm_o fm_rI (f_X12_arrive H v0 v1 m) K → fm_V G H (d + 3) RX12 cX12_arrive (some (.boolean)) z K 0 [some (.ref v0), some (.int v1), none, none, none] [] m
  have T : fm_T RX12 cX12_arrive tc_X12_arrive fr_X12 mr_X12 cr_X12 lr_X12 := ⟨tok_X12, dc_X12_arrive⟩
  unfold f_X12_arrive
  refine fs_r T 4 4 [some (.ref v0), some (.int v1), none, none, none] [.int (4 : Int32), .int v1, .ref v0, .ref v0] rfl ?_
  refine fs_vI T 7 rfl rfl rfl rfl rfl rfl h0 (q_X12_ofPacket (d := d + 2) hE h0) ?_
  intro x1 m1
  refine fs_r T 3 10 [some (.ref v0), some (.int v1), none, none, none] [.int (5 : Int32), .int v1, .ref v0, .int x1, .ref v0] rfl ?_
  refine fs_vI T 13 rfl rfl rfl rfl rfl rfl h0 (q_X12_ofPacket (d := d + 2) hE h0) ?_
  intro x2 m2
  refine fs_vI T 16 rfl rfl rfl rfl rfl rfl h0 (q_X12_findHolder (d := d + 1) hE h0) ?_
  intro x3 m3
  refine fs_r T 2 18 [some (.ref v0), some (.int v1), some (.int x3), none, none] [.int x3] rfl ?_
  refine fs_if_eq T 35 21 rfl rfl rfl (fun _ => ?_) (fun _ => ?_)
  · refine fs_r T 1 36 [some (.ref v0), some (.int v1), some (.int x3), none, none] [.int (0 : Int32)] rfl ?_
    exact w_X12_arrive_36 hE h0 _ _
  · refine fs_r T 1 22 [some (.ref v0), some (.int v1), some (.int x3), none, none] [.ref v0] rfl ?_
    refine fs_gi T 25 12 18 v0 rfl rfl rfl rfl h0 ?_
    refine fs_r T 1 26 [some (.ref v0), some (.int v1), some (.int x3), none, none] [.ref v0, .int (m3.1 v0 18)] rfl ?_
    refine fs_gi T 29 12 19 v0 rfl rfl rfl rfl h0 ?_
    refine fs_sI T 32 rfl rfl rfl rfl rfl rfl rfl (q_X12_wayPlace (d := d + 2) hE ) ?_
    intro x4 m4
    refine fs_r T 1 36 [some (.ref v0), some (.int v1), some (.int x3), none, none] [.int x4] rfl ?_
    exact w_X12_arrive_36 hE h0 _ _)
def f_X12_movePackets_2 (H : fm_H) (v0 : Nat) : Nat → Int32 → fm_M → Option (Unit × fm_M)
  | 0, _, _ => none
  | n + 1, v1, m =>
    if px_inb (6 : Int32) (fm_sz H (H.2.1 v0 0)) = true then
      if m.1 (H.2.1 v0 0) (6 : Int32).toNatClampNeg ≤ v1 then
        some ((), m)
      else
      if px_inb (((632 : Int32) + ((8 : Int32) * v1)) + (6 : Int32)) (fm_sz H (H.2.1 v0 0)) = true then
        if px_inb (((632 : Int32) + ((8 : Int32) * v1)) + (6 : Int32)) (fm_sz H (H.2.1 v0 0)) = true then
          (fm_bd (fm_si m (H.2.1 v0 0) (((632 : Int32) + ((8 : Int32) * v1)) + (6 : Int32)).toNatClampNeg (m.1 (H.2.1 v0 0) (((632 : Int32) + ((8 : Int32) * v1)) + (6 : Int32)).toNatClampNeg - (1 : Int32))) fun m1 =>
          if px_inb (((632 : Int32) + ((8 : Int32) * v1)) + (6 : Int32)) (fm_sz H (H.2.1 v0 0)) = true then
            if 0 < m1.1 (H.2.1 v0 0) (((632 : Int32) + ((8 : Int32) * v1)) + (6 : Int32)).toNatClampNeg then
              f_X12_movePackets_2 H v0 n (v1 + (1 : Int32)) m1
            else
            fm_bn (f_X12_arrive H v0 v1 m1) fun x1 m2 =>
            if x1 = 0 then
              f_X12_movePackets_2 H v0 n (v1 + (0 : Int32)) m2
            else
            f_X12_movePackets_2 H v0 n (v1 + (1 : Int32)) m2
          else none)
        else none
      else none
    else none
set_option maxRecDepth 10000 in
theorem w_X12_movePackets_2 {G : pm_G} {H : fm_H} {d : Nat} {z : Option Nat × Nat × Nat} {K : pm_R → fm_M → Prop} (hE : fm_E G H) {v0 : Nat} (h0 : fm_is H v0 12) : ∀ (n : Nat) (v1 : Int32) (m : fm_M), fm_o fm_rV (f_X12_movePackets_2 H v0 n v1 m) K → fm_V G H (d + 4) RX12 cX12_movePackets none z K 2 [some (.ref v0), some (.int v1), none] [] m := by
  have T : fm_T RX12 cX12_movePackets tc_X12_movePackets fr_X12 mr_X12 cr_X12 lr_X12 := ⟨tok_X12, dc_X12_movePackets⟩
  intro n
  induction n with
  | zero =>
    intro v1 m 
    exact fs_none
  | succ n ih =>
    intro v1 m 
    unfold f_X12_movePackets_2
    refine fs_r T 2 4 [some (.ref v0), some (.int v1), none] [.ref v0, .int v1] rfl ?_
    refine fs_gs T 7 12 0 v0 rfl rfl rfl rfl h0 ?_
    refine fs_r T 1 9 [some (.ref v0), some (.int v1), none] [.int (6 : Int32), .ref (H.2.1 v0 0), .int v1] rfl ?_
    refine fs_ai T 10 (H.2.1 v0 0) rfl rfl (hE.1 _ 12 0 h0) ?_
    refine fs_ic_ge T 63 13 rfl rfl rfl (fun _ => ?_) (fun _ => ?_)
    · exact fs_retv T rfl rfl rfl
    · refine fs_r T 9 26 [some (.ref v0), some (.int v1), some (.int (((632 : Int32) + ((8 : Int32) * v1)) + (6 : Int32)))] [.ref v0] rfl ?_
      refine fs_gs T 29 12 0 v0 rfl rfl rfl rfl h0 ?_
      refine fs_r T 2 31 [some (.ref v0), some (.int v1), some (.int (((632 : Int32) + ((8 : Int32) * v1)) + (6 : Int32)))] [.int (((632 : Int32) + ((8 : Int32) * v1)) + (6 : Int32)), .ref (H.2.1 v0 0), .int (((632 : Int32) + ((8 : Int32) * v1)) + (6 : Int32)), .ref (H.2.1 v0 0)] rfl ?_
      refine fs_ai T 32 (H.2.1 v0 0) rfl rfl (hE.1 _ 12 0 h0) ?_
      refine fs_r T 2 34 [some (.ref v0), some (.int v1), some (.int (((632 : Int32) + ((8 : Int32) * v1)) + (6 : Int32)))] [.int (m.1 (H.2.1 v0 0) (((632 : Int32) + ((8 : Int32) * v1)) + (6 : Int32)).toNatClampNeg - (1 : Int32)), .int (((632 : Int32) + ((8 : Int32) * v1)) + (6 : Int32)), .ref (H.2.1 v0 0)] rfl ?_
      refine fs_si T 35 (H.2.1 v0 0) rfl rfl (hE.1 _ 12 0 h0) ?_
      intro m1
      refine fs_r T 2 37 [some (.ref v0), some (.int v1), some (.int (((632 : Int32) + ((8 : Int32) * v1)) + (6 : Int32)))] [.ref v0, .int v1] rfl ?_
      refine fs_gs T 40 12 0 v0 rfl rfl rfl rfl h0 ?_
      refine fs_r T 1 41 [some (.ref v0), some (.int v1), some (.int (((632 : Int32) + ((8 : Int32) * v1)) + (6 : Int32)))] [.int (((632 : Int32) + ((8 : Int32) * v1)) + (6 : Int32)), .ref (H.2.1 v0 0), .int v1] rfl ?_
      refine fs_ai T 42 (H.2.1 v0 0) rfl rfl (hE.1 _ 12 0 h0) ?_
      refine fs_if_gt T 53 45 rfl rfl rfl (fun _ => ?_) (fun _ => ?_)
      · refine fs_r T 5 2 [some (.ref v0), some (.int (v1 + (1 : Int32))), some (.int (((632 : Int32) + ((8 : Int32) * v1)) + (6 : Int32)))] [] rfl ?_
        refine fs_wk (ls' := [some (.ref v0), some (.int (v1 + (1 : Int32))), none]) ⟨rfl, rfl, trivial⟩ ?_
        exact ih _ _
      · refine fs_r T 2 47 [some (.ref v0), some (.int v1), some (.int (((632 : Int32) + ((8 : Int32) * v1)) + (6 : Int32)))] [.int v1, .ref v0, .int v1] rfl ?_
        refine fs_vI T 50 rfl rfl rfl rfl rfl rfl h0 (q_X12_arrive (d := d) hE h0) ?_
        intro x1 m2
        refine fs_if_eq T 57 53 rfl rfl rfl (fun _ => ?_) (fun _ => ?_)
        · refine fs_r T 4 2 [some (.ref v0), some (.int (v1 + (0 : Int32))), some (.int (((632 : Int32) + ((8 : Int32) * v1)) + (6 : Int32)))] [] rfl ?_
          refine fs_wk (ls' := [some (.ref v0), some (.int (v1 + (0 : Int32))), none]) ⟨rfl, rfl, trivial⟩ ?_
          exact ih _ _
        · refine fs_r T 5 2 [some (.ref v0), some (.int (v1 + (1 : Int32))), some (.int (((632 : Int32) + ((8 : Int32) * v1)) + (6 : Int32)))] [] rfl ?_
          refine fs_wk (ls' := [some (.ref v0), some (.int (v1 + (1 : Int32))), none]) ⟨rfl, rfl, trivial⟩ ?_
          exact ih _ _
def f_X12_movePackets (H : fm_H) (v0 : Nat) (m : fm_M) : Option (Unit × fm_M) :=
  f_X12_movePackets_2 H v0 fm_N (0 : Int32) m
set_option maxRecDepth 10000 in
theorem q_X12_movePackets {G : pm_G} {H : fm_H} {d : Nat} {z : Option Nat × Nat × Nat} {v0 : Nat} {m : fm_M} (hE : fm_E G H) (h0 : fm_is H v0 12) : fm_cal G H (d + 5) yX12_movePackets [.ref v0] z m fm_rV (f_X12_movePackets H v0 m) := fm_mth (d := d + 4) mt_X12_movePackets rfl rfl rfl (fun K => by
  show fm_o fm_rV (f_X12_movePackets H v0 m) K → fm_V G H (d + 4) RX12 cX12_movePackets none z K 0 [some (.ref v0), none, none] [] m
  have T : fm_T RX12 cX12_movePackets tc_X12_movePackets fr_X12 mr_X12 cr_X12 lr_X12 := ⟨tok_X12, dc_X12_movePackets⟩
  unfold f_X12_movePackets
  refine fs_r T 2 2 [some (.ref v0), some (.int (0 : Int32)), none] [] rfl ?_
  exact w_X12_movePackets_2 hE h0 _ _ _)
def f_X12_delayOf_4 (H : fm_H) (v0 : Nat) (v1 : Int32) : Nat → Int32 → Int32 → fm_M → Option (Int32 × fm_M)
  | 0, _, _, _ => none
  | n + 1, v2, v3, m =>
    if px_inb v1 (fm_sz H (H.2.1 v0 0)) = true then
      if m.1 (H.2.1 v0 0) v1.toNatClampNeg ≤ v3 then
        some (v2, m)
      else
      if px_inb (((v1 + (1 : Int32)) + v3) - (1 : Int32)) (fm_sz H (H.2.1 v0 0)) = true then
        if px_inb ((v1 + (1 : Int32)) + v3) (fm_sz H (H.2.1 v0 0)) = true then
          fm_bn (f_X12_linkOf H v0 (m.1 (H.2.1 v0 0) (((v1 + (1 : Int32)) + v3) - (1 : Int32)).toNatClampNeg) (m.1 (H.2.1 v0 0) ((v1 + (1 : Int32)) + v3).toNatClampNeg) m) fun x1 m1 =>
          fm_bn (f_X12_ofLink H v0 x1 (3 : Int32) m1) fun x2 m2 =>
          f_X12_delayOf_4 H v0 v1 n (v2 + x2) (v3 + 1) m2
        else none
      else none
    else none
set_option maxRecDepth 10000 in
theorem w_X12_delayOf_4 {G : pm_G} {H : fm_H} {d : Nat} {z : Option Nat × Nat × Nat} {K : pm_R → fm_M → Prop} (hE : fm_E G H) {v0 : Nat} {v1 : Int32} (h0 : fm_is H v0 12) : ∀ (n : Nat) (v2 : Int32) (v3 : Int32) (m : fm_M), fm_o fm_rI (f_X12_delayOf_4 H v0 v1 n v2 v3 m) K → fm_V G H (d + 2) RX12 cX12_delayOf (some (.int)) z K 4 [some (.ref v0), some (.int v1), some (.int v2), some (.int v3)] [] m := by
  have T : fm_T RX12 cX12_delayOf tc_X12_delayOf fr_X12 mr_X12 cr_X12 lr_X12 := ⟨tok_X12, dc_X12_delayOf⟩
  intro n
  induction n with
  | zero =>
    intro v2 v3 m 
    exact fs_none
  | succ n ih =>
    intro v2 v3 m 
    unfold f_X12_delayOf_4
    refine fs_r T 2 6 [some (.ref v0), some (.int v1), some (.int v2), some (.int v3)] [.ref v0, .int v3] rfl ?_
    refine fs_gs T 9 12 0 v0 rfl rfl rfl rfl h0 ?_
    refine fs_r T 1 10 [some (.ref v0), some (.int v1), some (.int v2), some (.int v3)] [.int v1, .ref (H.2.1 v0 0), .int v3] rfl ?_
    refine fs_ai T 11 (H.2.1 v0 0) rfl rfl (hE.1 _ 12 0 h0) ?_
    refine fs_ic_ge T 54 14 rfl rfl rfl (fun _ => ?_) (fun _ => ?_)
    · refine fs_r T 1 55 [some (.ref v0), some (.int v1), some (.int v2), some (.int v3)] [.int v2] rfl ?_
      exact fs_reti T rfl rfl rfl
    · refine fs_r T 4 18 [some (.ref v0), some (.int v1), some (.int v2), some (.int v3)] [.ref v0, .ref v0, .ref v0, .int v2] rfl ?_
      refine fs_gs T 21 12 0 v0 rfl rfl rfl rfl h0 ?_
      refine fs_r T 7 28 [some (.ref v0), some (.int v1), some (.int v2), some (.int v3)] [.int (((v1 + (1 : Int32)) + v3) - (1 : Int32)), .ref (H.2.1 v0 0), .ref v0, .ref v0, .int v2] rfl ?_
      refine fs_ai T 29 (H.2.1 v0 0) rfl rfl (hE.1 _ 12 0 h0) ?_
      refine fs_r T 1 30 [some (.ref v0), some (.int v1), some (.int v2), some (.int v3)] [.ref v0, .int (m.1 (H.2.1 v0 0) (((v1 + (1 : Int32)) + v3) - (1 : Int32)).toNatClampNeg), .ref v0, .ref v0, .int v2] rfl ?_
      refine fs_gs T 33 12 0 v0 rfl rfl rfl rfl h0 ?_
      refine fs_r T 5 38 [some (.ref v0), some (.int v1), some (.int v2), some (.int v3)] [.int ((v1 + (1 : Int32)) + v3), .ref (H.2.1 v0 0), .int (m.1 (H.2.1 v0 0) (((v1 + (1 : Int32)) + v3) - (1 : Int32)).toNatClampNeg), .ref v0, .ref v0, .int v2] rfl ?_
      refine fs_ai T 39 (H.2.1 v0 0) rfl rfl (hE.1 _ 12 0 h0) ?_
      refine fs_vI T 42 rfl rfl rfl rfl rfl rfl h0 (q_X12_linkOf (d := d) hE h0) ?_
      intro x1 m1
      refine fs_r T 1 43 [some (.ref v0), some (.int v1), some (.int v2), some (.int v3)] [.int (3 : Int32), .int x1, .ref v0, .int v2] rfl ?_
      refine fs_vI T 46 rfl rfl rfl rfl rfl rfl h0 (q_X12_ofLink (d := d + 1) hE h0) ?_
      intro x2 m2
      refine fs_r T 4 4 [some (.ref v0), some (.int v1), some (.int (v2 + x2)), some (.int (v3 + 1))] [] rfl ?_
      exact ih _ _ _
def f_X12_delayOf (H : fm_H) (v0 : Nat) (v1 : Int32) (m : fm_M) : Option (Int32 × fm_M) :=
  f_X12_delayOf_4 H v0 v1 fm_N (0 : Int32) (1 : Int32) m
set_option maxRecDepth 10000 in
theorem q_X12_delayOf {G : pm_G} {H : fm_H} {d : Nat} {z : Option Nat × Nat × Nat} {v0 : Nat} {v1 : Int32} {m : fm_M} (hE : fm_E G H) (h0 : fm_is H v0 12) : fm_cal G H (d + 3) yX12_delayOf [.ref v0, .int v1] z m fm_rI (f_X12_delayOf H v0 v1 m) := fm_mth (d := d + 2) mt_X12_delayOf rfl rfl rfl (fun K => by
  show fm_o fm_rI (f_X12_delayOf H v0 v1 m) K → fm_V G H (d + 2) RX12 cX12_delayOf (some (.int)) z K 0 [some (.ref v0), some (.int v1), none, none] [] m
  have T : fm_T RX12 cX12_delayOf tc_X12_delayOf fr_X12 mr_X12 cr_X12 lr_X12 := ⟨tok_X12, dc_X12_delayOf⟩
  unfold f_X12_delayOf
  refine fs_r T 4 4 [some (.ref v0), some (.int v1), some (.int (0 : Int32)), some (.int (1 : Int32))] [] rfl ?_
  exact w_X12_delayOf_4 hE h0 _ _ _ _)
def f_X12_build (H : fm_H) (v0 : Nat) (v1 : Int32) (m : fm_M) : Option (Unit × fm_M) :=
  fm_bn (f_X12_of H v0 v1 (3 : Int32) m) fun x1 m1 =>
  if x1 ≤ 0 then
    fm_bn (f_X12_wayPlace H v1 (0 : Int32) m1) fun x2 m2 =>
    fm_bn (f_X12_delayOf H v0 x2 m2) fun x3 m3 =>
    fm_bn (f_X12_wayPlace H v1 (1 : Int32) m3) fun x4 m4 =>
    fm_bn (f_X12_delayOf H v0 x4 m4) fun x5 m5 =>
    fm_bn (f_X12_put H v0 v1 (2 : Int32) (2 : Int32) m5) fun _ m6 =>
    fm_bn (f_X12_put H v0 v1 (3 : Int32) x3 m6) fun _ m7 =>
    if px_inb (1 : Int32) (fm_sz H (H.2.1 v0 0)) = true then
      if m7.1 (H.2.1 v0 0) (1 : Int32).toNatClampNeg = (1 : Int32) then
        fm_bn (f_X12_put H v0 v1 (4 : Int32) (pm_mm true (0 : Int32) (x3 - x5)) m7) fun _ m9 =>
        some ((), m9)
      else
      fm_bn (f_X12_put H v0 v1 (4 : Int32) (0 : Int32) m7) fun _ m8 =>
      some ((), m8)
    else none
  else
  fm_bn (f_X12_wayPlace H v1 (1 : Int32) m1) fun x10 m10 =>
  if px_inb ((x10 + (19 : Int32)) + x1) (fm_sz H (H.2.1 v0 0)) = true then
    (fm_bd (fm_si m10 (H.2.1 v0 0) ((x10 + (19 : Int32)) + x1).toNatClampNeg (1 : Int32)) fun m11 =>
    fm_bn (f_X12_put H v0 v1 (3 : Int32) (x1 - (1 : Int32)) m11) fun _ m12 =>
    some ((), m12))
  else none
set_option maxRecDepth 10000 in
theorem q_X12_build {G : pm_G} {H : fm_H} {d : Nat} {z : Option Nat × Nat × Nat} {v0 : Nat} {v1 : Int32} {m : fm_M} (hE : fm_E G H) (h0 : fm_is H v0 12) : fm_cal G H (d + 4) yX12_build [.ref v0, .int v1] z m fm_rV (f_X12_build H v0 v1 m) := fm_mth (d := d + 3) mt_X12_build rfl rfl rfl (fun K => by
  show fm_o fm_rV (f_X12_build H v0 v1 m) K → fm_V G H (d + 3) RX12 cX12_build none z K 0 [some (.ref v0), some (.int v1), none, none, none] [] m
  have T : fm_T RX12 cX12_build tc_X12_build fr_X12 mr_X12 cr_X12 lr_X12 := ⟨tok_X12, dc_X12_build⟩
  unfold f_X12_build
  refine fs_r T 3 3 [some (.ref v0), some (.int v1), none, none, none] [.int (3 : Int32), .int v1, .ref v0] rfl ?_
  refine fs_vI T 6 rfl rfl rfl rfl rfl rfl h0 (q_X12_of (d := d + 2) hE h0) ?_
  intro x1 m1
  refine fs_r T 2 8 [some (.ref v0), some (.int v1), some (.int x1), none, none] [.int x1] rfl ?_
  refine fs_if_le T 37 11 rfl rfl rfl (fun _ => ?_) (fun _ => ?_)
  · refine fs_r T 3 40 [some (.ref v0), some (.int v1), some (.int x1), none, none] [.int (0 : Int32), .int v1, .ref v0] rfl ?_
    refine fs_sI T 43 rfl rfl rfl rfl rfl rfl rfl (q_X12_wayPlace (d := d + 2) hE ) ?_
    intro x2 m2
    refine fs_vI T 46 rfl rfl rfl rfl rfl rfl h0 (q_X12_delayOf (d := d) hE h0) ?_
    intro x3 m3
    refine fs_r T 4 50 [some (.ref v0), some (.int v1), some (.int x1), some (.int x3), none] [.int (1 : Int32), .int v1, .ref v0] rfl ?_
    refine fs_sI T 53 rfl rfl rfl rfl rfl rfl rfl (q_X12_wayPlace (d := d + 2) hE ) ?_
    intro x4 m4
    refine fs_vI T 56 rfl rfl rfl rfl rfl rfl h0 (q_X12_delayOf (d := d) hE h0) ?_
    intro x5 m5
    refine fs_r T 5 62 [some (.ref v0), some (.int v1), some (.int x1), some (.int x3), some (.int x5)] [.int (2 : Int32), .int (2 : Int32), .int v1, .ref v0] rfl ?_
    refine fs_vV T 65 rfl rfl rfl rfl rfl rfl h0 (q_X12_put (d := d + 2) hE h0) ?_
    intro x6 m6
    refine fs_r T 4 69 [some (.ref v0), some (.int v1), some (.int x1), some (.int x3), some (.int x5)] [.int x3, .int (3 : Int32), .int v1, .ref v0] rfl ?_
    refine fs_vV T 72 rfl rfl rfl rfl rfl rfl h0 (q_X12_put (d := d + 2) hE h0) ?_
    intro x7 m7
    refine fs_r T 4 76 [some (.ref v0), some (.int v1), some (.int x1), some (.int x3), some (.int x5)] [.ref v0, .int (4 : Int32), .int v1, .ref v0] rfl ?_
    refine fs_gs T 79 12 0 v0 rfl rfl rfl rfl h0 ?_
    refine fs_r T 1 80 [some (.ref v0), some (.int v1), some (.int x1), some (.int x3), some (.int x5)] [.int (1 : Int32), .ref (H.2.1 v0 0), .int (4 : Int32), .int v1, .ref v0] rfl ?_
    refine fs_ai T 81 (H.2.1 v0 0) rfl rfl (hE.1 _ 12 0 h0) ?_
    refine fs_r T 1 82 [some (.ref v0), some (.int v1), some (.int x1), some (.int x3), some (.int x5)] [.int (1 : Int32), .int (m7.1 (H.2.1 v0 0) (1 : Int32).toNatClampNeg), .int (4 : Int32), .int v1, .ref v0] rfl ?_
    refine fs_ic_ne T 96 85 rfl rfl rfl (fun _ => ?_) (fun _ => ?_)
    · refine fs_r T 4 90 [some (.ref v0), some (.int v1), some (.int x1), some (.int x3), some (.int x5)] [.int (x3 - x5), .int (0 : Int32), .int (4 : Int32), .int v1, .ref v0] rfl ?_
      refine fs_mm T 93 rfl ma_X12_327 rfl rfl ?_
      refine fs_r T 1 97 [some (.ref v0), some (.int v1), some (.int x1), some (.int x3), some (.int x5)] [.int (pm_mm true (0 : Int32) (x3 - x5)), .int (4 : Int32), .int v1, .ref v0] rfl ?_
      refine fs_vV T 100 rfl rfl rfl rfl rfl rfl h0 (q_X12_put (d := d + 2) hE h0) ?_
      intro x9 m9
      exact fs_retv T rfl rfl rfl
    · refine fs_r T 1 97 [some (.ref v0), some (.int v1), some (.int x1), some (.int x3), some (.int x5)] [.int (0 : Int32), .int (4 : Int32), .int v1, .ref v0] rfl ?_
      refine fs_vV T 100 rfl rfl rfl rfl rfl rfl h0 (q_X12_put (d := d + 2) hE h0) ?_
      intro x8 m8
      exact fs_retv T rfl rfl rfl
  · refine fs_r T 1 12 [some (.ref v0), some (.int v1), some (.int x1), none, none] [.ref v0] rfl ?_
    refine fs_gs T 15 12 0 v0 rfl rfl rfl rfl h0 ?_
    refine fs_r T 2 17 [some (.ref v0), some (.int v1), some (.int x1), none, none] [.int (1 : Int32), .int v1, .ref (H.2.1 v0 0)] rfl ?_
    refine fs_sI T 20 rfl rfl rfl rfl rfl rfl rfl (q_X12_wayPlace (d := d + 2) hE ) ?_
    intro x10 m10
    refine fs_r T 5 26 [some (.ref v0), some (.int v1), some (.int x1), none, none] [.int (1 : Int32), .int ((x10 + (19 : Int32)) + x1), .ref (H.2.1 v0 0)] rfl ?_
    refine fs_si T 27 (H.2.1 v0 0) rfl rfl (hE.1 _ 12 0 h0) ?_
    intro m11
    refine fs_r T 6 33 [some (.ref v0), some (.int v1), some (.int x1), none, none] [.int (x1 - (1 : Int32)), .int (3 : Int32), .int v1, .ref v0] rfl ?_
    refine fs_vV T 36 rfl rfl rfl rfl rfl rfl h0 (q_X12_put (d := d + 2) hE h0) ?_
    intro x11 m12
    exact fs_retv T rfl rfl rfl)
def f_X12_drain (H : fm_H) (v0 : Nat) (v1 : Int32) (m : fm_M) : Option (Unit × fm_M) :=
  fm_bn (f_X12_of H v0 v1 (3 : Int32) m) fun x1 m1 =>
  fm_bn (f_X12_put H v0 v1 (3 : Int32) (x1 - (1 : Int32)) m1) fun _ m2 =>
  fm_bn (f_X12_of H v0 v1 (3 : Int32) m2) fun x3 m3 =>
  if x3 = 0 then
    fm_bn (f_X12_put H v0 v1 (2 : Int32) (3 : Int32) m3) fun _ m4 =>
    fm_bn (f_X12_put H v0 v1 (3 : Int32) (1 : Int32) m4) fun _ m5 =>
    some ((), m5)
  else
  some ((), m3)
set_option maxRecDepth 10000 in
theorem q_X12_drain {G : pm_G} {H : fm_H} {d : Nat} {z : Option Nat × Nat × Nat} {v0 : Nat} {v1 : Int32} {m : fm_M} (hE : fm_E G H) (h0 : fm_is H v0 12) : fm_cal G H (d + 2) yX12_drain [.ref v0, .int v1] z m fm_rV (f_X12_drain H v0 v1 m) := fm_mth (d := d + 1) mt_X12_drain rfl rfl rfl (fun K => by
  show fm_o fm_rV (f_X12_drain H v0 v1 m) K → fm_V G H (d + 1) RX12 cX12_drain none z K 0 [some (.ref v0), some (.int v1)] [] m
  have T : fm_T RX12 cX12_drain tc_X12_drain fr_X12 mr_X12 cr_X12 lr_X12 := ⟨tok_X12, dc_X12_drain⟩
  unfold f_X12_drain
  refine fs_r T 6 6 [some (.ref v0), some (.int v1)] [.int (3 : Int32), .int v1, .ref v0, .int (3 : Int32), .int v1, .ref v0] rfl ?_
  refine fs_vI T 9 rfl rfl rfl rfl rfl rfl h0 (q_X12_of (d := d) hE h0) ?_
  intro x1 m1
  refine fs_r T 2 11 [some (.ref v0), some (.int v1)] [.int (x1 - (1 : Int32)), .int (3 : Int32), .int v1, .ref v0] rfl ?_
  refine fs_vV T 14 rfl rfl rfl rfl rfl rfl h0 (q_X12_put (d := d) hE h0) ?_
  intro x2 m2
  refine fs_r T 3 17 [some (.ref v0), some (.int v1)] [.int (3 : Int32), .int v1, .ref v0] rfl ?_
  refine fs_vI T 20 rfl rfl rfl rfl rfl rfl h0 (q_X12_of (d := d) hE h0) ?_
  intro x3 m3
  refine fs_if_ne T 37 23 rfl rfl rfl (fun _ => ?_) (fun _ => ?_)
  · refine fs_r T 4 27 [some (.ref v0), some (.int v1)] [.int (3 : Int32), .int (2 : Int32), .int v1, .ref v0] rfl ?_
    refine fs_vV T 30 rfl rfl rfl rfl rfl rfl h0 (q_X12_put (d := d) hE h0) ?_
    intro x4 m4
    refine fs_r T 4 34 [some (.ref v0), some (.int v1)] [.int (1 : Int32), .int (3 : Int32), .int v1, .ref v0] rfl ?_
    refine fs_vV T 37 rfl rfl rfl rfl rfl rfl h0 (q_X12_put (d := d) hE h0) ?_
    intro x5 m5
    exact fs_retv T rfl rfl rfl
  · exact fs_retv T rfl rfl rfl)
def f_X12_clearWay_44 (H : fm_H) (v0 : Nat) (v1 : Int32) (v2 : Int32) : Nat → Int32 → fm_M → Option (Unit × fm_M)
  | 0, _, _ => none
  | n + 1, v4, m =>
    if (25 : Int32) ≤ v4 then
      if px_inb (v2 + (25 : Int32)) (fm_sz H (H.2.1 v0 0)) = true then
        (fm_bd (fm_si m (H.2.1 v0 0) (v2 + (25 : Int32)).toNatClampNeg (0 : Int32)) fun m1 =>
        fm_bn (f_X12_put H v0 v1 (2 : Int32) (0 : Int32) m1) fun _ m2 =>
        fm_bn (f_X12_put H v0 v1 (3 : Int32) (0 : Int32) m2) fun _ m3 =>
        if px_inb (12 : Int32) (fm_sz H (H.2.1 v0 0)) = true then
          if px_inb (12 : Int32) (fm_sz H (H.2.1 v0 0)) = true then
            (fm_bd (fm_si m3 (H.2.1 v0 0) (12 : Int32).toNatClampNeg (m3.1 (H.2.1 v0 0) (12 : Int32).toNatClampNeg + (1 : Int32))) fun m4 =>
            some ((), m4))
          else none
        else none)
      else none
    else
    if px_inb ((v2 + (25 : Int32)) + v4) (fm_sz H (H.2.1 v0 0)) = true then
      if px_inb (v2 + v4) (fm_sz H (H.2.1 v0 0)) = true then
        (fm_bd (fm_si m (H.2.1 v0 0) (v2 + v4).toNatClampNeg (m.1 (H.2.1 v0 0) ((v2 + (25 : Int32)) + v4).toNatClampNeg)) fun m5 =>
        f_X12_clearWay_44 H v0 v1 v2 n (v4 + 1) m5)
      else none
    else none
set_option maxRecDepth 10000 in
theorem w_X12_clearWay_44 {G : pm_G} {H : fm_H} {d : Nat} {z : Option Nat × Nat × Nat} {K : pm_R → fm_M → Prop} (hE : fm_E G H) {v0 : Nat} {v1 : Int32} {v2 : Int32} (h0 : fm_is H v0 12) : ∀ (n : Nat) (v4 : Int32) (m : fm_M), fm_o fm_rV (f_X12_clearWay_44 H v0 v1 v2 n v4 m) K → fm_V G H (d + 1) RX12 cX12_clearWay none z K 44 [some (.ref v0), some (.int v1), some (.int v2), none, some (.int v4)] [] m := by
  have T : fm_T RX12 cX12_clearWay tc_X12_clearWay fr_X12 mr_X12 cr_X12 lr_X12 := ⟨tok_X12, dc_X12_clearWay⟩
  intro n
  induction n with
  | zero =>
    intro v4 m 
    exact fs_none
  | succ n ih =>
    intro v4 m 
    unfold f_X12_clearWay_44
    refine fs_r T 2 48 [some (.ref v0), some (.int v1), some (.int v2), none, some (.int v4)] [.int (25 : Int32), .int v4] rfl ?_
    refine fs_ic_ge T 78 51 rfl rfl rfl (fun _ => ?_) (fun _ => ?_)
    · refine fs_r T 1 79 [some (.ref v0), some (.int v1), some (.int v2), none, some (.int v4)] [.ref v0] rfl ?_
      refine fs_gs T 82 12 0 v0 rfl rfl rfl rfl h0 ?_
      refine fs_r T 4 87 [some (.ref v0), some (.int v1), some (.int v2), none, some (.int v4)] [.int (0 : Int32), .int (v2 + (25 : Int32)), .ref (H.2.1 v0 0)] rfl ?_
      refine fs_si T 88 (H.2.1 v0 0) rfl rfl (hE.1 _ 12 0 h0) ?_
      intro m1
      refine fs_r T 4 92 [some (.ref v0), some (.int v1), some (.int v2), none, some (.int v4)] [.int (0 : Int32), .int (2 : Int32), .int v1, .ref v0] rfl ?_
      refine fs_vV T 95 rfl rfl rfl rfl rfl rfl h0 (q_X12_put (d := d) hE h0) ?_
      intro x1 m2
      refine fs_r T 4 99 [some (.ref v0), some (.int v1), some (.int v2), none, some (.int v4)] [.int (0 : Int32), .int (3 : Int32), .int v1, .ref v0] rfl ?_
      refine fs_vV T 102 rfl rfl rfl rfl rfl rfl h0 (q_X12_put (d := d) hE h0) ?_
      intro x2 m3
      refine fs_r T 1 103 [some (.ref v0), some (.int v1), some (.int v2), none, some (.int v4)] [.ref v0] rfl ?_
      refine fs_gs T 106 12 0 v0 rfl rfl rfl rfl h0 ?_
      refine fs_r T 2 109 [some (.ref v0), some (.int v1), some (.int v2), none, some (.int v4)] [.int (12 : Int32), .ref (H.2.1 v0 0), .int (12 : Int32), .ref (H.2.1 v0 0)] rfl ?_
      refine fs_ai T 110 (H.2.1 v0 0) rfl rfl (hE.1 _ 12 0 h0) ?_
      refine fs_r T 2 112 [some (.ref v0), some (.int v1), some (.int v2), none, some (.int v4)] [.int (m3.1 (H.2.1 v0 0) (12 : Int32).toNatClampNeg + (1 : Int32)), .int (12 : Int32), .ref (H.2.1 v0 0)] rfl ?_
      refine fs_si T 113 (H.2.1 v0 0) rfl rfl (hE.1 _ 12 0 h0) ?_
      intro m4
      exact fs_retv T rfl rfl rfl
    · refine fs_r T 1 52 [some (.ref v0), some (.int v1), some (.int v2), none, some (.int v4)] [.ref v0] rfl ?_
      refine fs_gs T 55 12 0 v0 rfl rfl rfl rfl h0 ?_
      refine fs_r T 4 60 [some (.ref v0), some (.int v1), some (.int v2), none, some (.int v4)] [.ref v0, .int (v2 + v4), .ref (H.2.1 v0 0)] rfl ?_
      refine fs_gs T 63 12 0 v0 rfl rfl rfl rfl h0 ?_
      refine fs_r T 5 70 [some (.ref v0), some (.int v1), some (.int v2), none, some (.int v4)] [.int ((v2 + (25 : Int32)) + v4), .ref (H.2.1 v0 0), .int (v2 + v4), .ref (H.2.1 v0 0)] rfl ?_
      refine fs_ai T 71 (H.2.1 v0 0) rfl rfl (hE.1 _ 12 0 h0) ?_
      refine fs_si T 72 (H.2.1 v0 0) rfl rfl (hE.1 _ 12 0 h0) ?_
      intro m5
      refine fs_r T 2 44 [some (.ref v0), some (.int v1), some (.int v2), none, some (.int (v4 + 1))] [] rfl ?_
      exact ih _ _
def f_X12_clearWay (H : fm_H) (v0 : Nat) (v1 : Int32) (m : fm_M) : Option (Unit × fm_M) :=
  fm_bn (f_X12_wayPlace H v1 (0 : Int32) m) fun x1 m1 =>
  fm_bn (f_X12_of H v0 v1 (3 : Int32) m1) fun x2 m2 =>
  fm_bn (f_X12_giveUp H v0 x1 x2 m2) fun _ m3 =>
  fm_bn (f_X12_put H v0 v1 (3 : Int32) (x2 + (1 : Int32)) m3) fun _ m4 =>
  if px_inb x1 (fm_sz H (H.2.1 v0 0)) = true then
    if m4.1 (H.2.1 v0 0) x1.toNatClampNeg ≤ (x2 + (1 : Int32)) then
      f_X12_clearWay_44 H v0 v1 x1 fm_N (0 : Int32) m4
    else
    some ((), m4)
  else none
set_option maxRecDepth 10000 in
theorem q_X12_clearWay {G : pm_G} {H : fm_H} {d : Nat} {z : Option Nat × Nat × Nat} {v0 : Nat} {v1 : Int32} {m : fm_M} (hE : fm_E G H) (h0 : fm_is H v0 12) : fm_cal G H (d + 2) yX12_clearWay [.ref v0, .int v1] z m fm_rV (f_X12_clearWay H v0 v1 m) := fm_mth (d := d + 1) mt_X12_clearWay rfl rfl rfl (fun K => by
  show fm_o fm_rV (f_X12_clearWay H v0 v1 m) K → fm_V G H (d + 1) RX12 cX12_clearWay none z K 0 [some (.ref v0), some (.int v1), none, none, none] [] m
  have T : fm_T RX12 cX12_clearWay tc_X12_clearWay fr_X12 mr_X12 cr_X12 lr_X12 := ⟨tok_X12, dc_X12_clearWay⟩
  unfold f_X12_clearWay
  refine fs_r T 2 2 [some (.ref v0), some (.int v1), none, none, none] [.int (0 : Int32), .int v1] rfl ?_
  refine fs_sI T 5 rfl rfl rfl rfl rfl rfl rfl (q_X12_wayPlace (d := d) hE ) ?_
  intro x1 m1
  refine fs_r T 4 9 [some (.ref v0), some (.int v1), some (.int x1), none, none] [.int (3 : Int32), .int v1, .ref v0] rfl ?_
  refine fs_vI T 12 rfl rfl rfl rfl rfl rfl h0 (q_X12_of (d := d) hE h0) ?_
  intro x2 m2
  refine fs_r T 4 16 [some (.ref v0), some (.int v1), some (.int x1), some (.int x2), none] [.int x2, .int x1, .ref v0] rfl ?_
  refine fs_vV T 19 rfl rfl rfl rfl rfl rfl h0 (q_X12_giveUp (d := d) hE h0) ?_
  intro x3 m3
  refine fs_r T 6 25 [some (.ref v0), some (.int v1), some (.int x1), some (.int x2), none] [.int (x2 + (1 : Int32)), .int (3 : Int32), .int v1, .ref v0] rfl ?_
  refine fs_vV T 28 rfl rfl rfl rfl rfl rfl h0 (q_X12_put (d := d) hE h0) ?_
  intro x4 m4
  refine fs_r T 4 32 [some (.ref v0), some (.int v1), some (.int x1), some (.int x2), none] [.ref v0, .int (x2 + (1 : Int32))] rfl ?_
  refine fs_gs T 35 12 0 v0 rfl rfl rfl rfl h0 ?_
  refine fs_r T 1 36 [some (.ref v0), some (.int v1), some (.int x1), some (.int x2), none] [.int x1, .ref (H.2.1 v0 0), .int (x2 + (1 : Int32))] rfl ?_
  refine fs_ai T 37 (H.2.1 v0 0) rfl rfl (hE.1 _ 12 0 h0) ?_
  refine fs_ic_ge T 41 40 rfl rfl rfl (fun _ => ?_) (fun _ => ?_)
  · refine fs_r T 2 44 [some (.ref v0), some (.int v1), some (.int x1), some (.int x2), some (.int (0 : Int32))] [] rfl ?_
    refine fs_wk (ls' := [some (.ref v0), some (.int v1), some (.int x1), none, some (.int (0 : Int32))]) ⟨rfl, rfl, rfl, rfl, trivial⟩ ?_
    exact w_X12_clearWay_44 hE h0 _ _ _
  · exact fs_retv T rfl rfl rfl)
def f_X12_moveCircuits_2 (H : fm_H) (v0 : Nat) : Nat → Int32 → fm_M → Option (Unit × fm_M)
  | 0, _, _ => none
  | n + 1, v1, m =>
    if px_inb (4 : Int32) (fm_sz H (H.2.1 v0 0)) = true then
      if m.1 (H.2.1 v0 0) (4 : Int32).toNatClampNeg ≤ v1 then
        some ((), m)
      else
      fm_bn (f_X12_of H v0 v1 (2 : Int32) m) fun x1 m1 =>
      fm_sw x1 1 [  fm_bn (f_X12_build H v0 v1 m1) fun _ m2 =>
        f_X12_moveCircuits_2 H v0 n (v1 + 1) m2,
        fm_bn (f_X12_drain H v0 v1 m1) fun _ m3 =>
        f_X12_moveCircuits_2 H v0 n (v1 + 1) m3,
        fm_bn (f_X12_clearWay H v0 v1 m1) fun _ m4 =>
        f_X12_moveCircuits_2 H v0 n (v1 + 1) m4]
        (f_X12_moveCircuits_2 H v0 n (v1 + 1) m1)
    else none
set_option maxRecDepth 10000 in
theorem w_X12_moveCircuits_2 {G : pm_G} {H : fm_H} {d : Nat} {z : Option Nat × Nat × Nat} {K : pm_R → fm_M → Prop} (hE : fm_E G H) {v0 : Nat} (h0 : fm_is H v0 12) : ∀ (n : Nat) (v1 : Int32) (m : fm_M), fm_o fm_rV (f_X12_moveCircuits_2 H v0 n v1 m) K → fm_V G H (d + 4) RX12 cX12_moveCircuits none z K 2 [some (.ref v0), some (.int v1)] [] m := by
  have T : fm_T RX12 cX12_moveCircuits tc_X12_moveCircuits fr_X12 mr_X12 cr_X12 lr_X12 := ⟨tok_X12, dc_X12_moveCircuits⟩
  intro n
  induction n with
  | zero =>
    intro v1 m 
    exact fs_none
  | succ n ih =>
    intro v1 m 
    unfold f_X12_moveCircuits_2
    refine fs_r T 2 4 [some (.ref v0), some (.int v1)] [.ref v0, .int v1] rfl ?_
    refine fs_gs T 7 12 0 v0 rfl rfl rfl rfl h0 ?_
    refine fs_r T 1 8 [some (.ref v0), some (.int v1)] [.int (4 : Int32), .ref (H.2.1 v0 0), .int v1] rfl ?_
    refine fs_ai T 9 (H.2.1 v0 0) rfl rfl (hE.1 _ 12 0 h0) ?_
    refine fs_ic_ge T 74 12 rfl rfl rfl (fun _ => ?_) (fun _ => ?_)
    · exact fs_retv T rfl rfl rfl
    · refine fs_r T 3 15 [some (.ref v0), some (.int v1)] [.int (2 : Int32), .int v1, .ref v0] rfl ?_
      refine fs_vI T 18 rfl rfl rfl rfl rfl rfl h0 (q_X12_of (d := d + 3) hE h0) ?_
      intro x1 m1
      refine fs_tsw T (dflt := 50) (lo := 1) (hi := 3) (offs := #[26, 34, 42]) (t := 68) rfl rfl rfl rfl ⟨⟨44, rfl, ?_⟩, ⟨52, rfl, ?_⟩, ⟨60, rfl, ?_⟩, trivial⟩ ?_
      · refine fs_r T 2 46 [some (.ref v0), some (.int v1)] [.int v1, .ref v0] rfl ?_
        refine fs_vV T 49 rfl rfl rfl rfl rfl rfl h0 (q_X12_build (d := d) hE h0) ?_
        intro x2 m2
        refine fs_r T 3 2 [some (.ref v0), some (.int (v1 + 1))] [] rfl ?_
        exact ih _ _
      · refine fs_r T 2 54 [some (.ref v0), some (.int v1)] [.int v1, .ref v0] rfl ?_
        refine fs_vV T 57 rfl rfl rfl rfl rfl rfl h0 (q_X12_drain (d := d + 2) hE h0) ?_
        intro x3 m3
        refine fs_r T 3 2 [some (.ref v0), some (.int (v1 + 1))] [] rfl ?_
        exact ih _ _
      · refine fs_r T 2 62 [some (.ref v0), some (.int v1)] [.int v1, .ref v0] rfl ?_
        refine fs_vV T 65 rfl rfl rfl rfl rfl rfl h0 (q_X12_clearWay (d := d + 2) hE h0) ?_
        intro x4 m4
        refine fs_r T 3 2 [some (.ref v0), some (.int (v1 + 1))] [] rfl ?_
        exact ih _ _
      · refine fs_r T 2 2 [some (.ref v0), some (.int (v1 + 1))] [] rfl ?_
        exact ih _ _
def f_X12_moveCircuits (H : fm_H) (v0 : Nat) (m : fm_M) : Option (Unit × fm_M) :=
  f_X12_moveCircuits_2 H v0 fm_N (0 : Int32) m
set_option maxRecDepth 10000 in
theorem q_X12_moveCircuits {G : pm_G} {H : fm_H} {d : Nat} {z : Option Nat × Nat × Nat} {v0 : Nat} {m : fm_M} (hE : fm_E G H) (h0 : fm_is H v0 12) : fm_cal G H (d + 5) yX12_moveCircuits [.ref v0] z m fm_rV (f_X12_moveCircuits H v0 m) := fm_mth (d := d + 4) mt_X12_moveCircuits rfl rfl rfl (fun K => by
  show fm_o fm_rV (f_X12_moveCircuits H v0 m) K → fm_V G H (d + 4) RX12 cX12_moveCircuits none z K 0 [some (.ref v0), none] [] m
  have T : fm_T RX12 cX12_moveCircuits tc_X12_moveCircuits fr_X12 mr_X12 cr_X12 lr_X12 := ⟨tok_X12, dc_X12_moveCircuits⟩
  unfold f_X12_moveCircuits
  refine fs_r T 2 2 [some (.ref v0), some (.int (0 : Int32))] [] rfl ?_
  exact w_X12_moveCircuits_2 hE h0 _ _ _)
def f_X12_activePlace (H : fm_H) (v0 : Nat) (v1 : Int32) (m : fm_M) : Option (Int32 × fm_M) :=
  fm_bn (f_X12_of H v0 v1 (2 : Int32) m) fun x1 m1 =>
  if x1 ≤ (1 : Int32) then
    fm_bn (f_X12_wayPlace H v1 (0 : Int32) m1) fun x2 m2 =>
    some (x2, m2)
  else
  fm_bn (f_X12_wayPlace H v1 (1 : Int32) m1) fun x3 m3 =>
  some (x3, m3)
set_option maxRecDepth 10000 in
theorem q_X12_activePlace {G : pm_G} {H : fm_H} {d : Nat} {z : Option Nat × Nat × Nat} {v0 : Nat} {v1 : Int32} {m : fm_M} (hE : fm_E G H) (h0 : fm_is H v0 12) : fm_cal G H (d + 2) yX12_activePlace [.ref v0, .int v1] z m fm_rI (f_X12_activePlace H v0 v1 m) := fm_mth (d := d + 1) mt_X12_activePlace rfl rfl rfl (fun K => by
  show fm_o fm_rI (f_X12_activePlace H v0 v1 m) K → fm_V G H (d + 1) RX12 cX12_activePlace (some (.int)) z K 0 [some (.ref v0), some (.int v1)] [] m
  have T : fm_T RX12 cX12_activePlace tc_X12_activePlace fr_X12 mr_X12 cr_X12 lr_X12 := ⟨tok_X12, dc_X12_activePlace⟩
  unfold f_X12_activePlace
  refine fs_r T 4 4 [some (.ref v0), some (.int v1)] [.int (2 : Int32), .int v1, .ref v0, .int v1] rfl ?_
  refine fs_vI T 7 rfl rfl rfl rfl rfl rfl h0 (q_X12_of (d := d) hE h0) ?_
  intro x1 m1
  refine fs_r T 1 8 [some (.ref v0), some (.int v1)] [.int (1 : Int32), .int x1, .int v1] rfl ?_
  refine fs_ic_le T 15 11 rfl rfl rfl (fun _ => ?_) (fun _ => ?_)
  · refine fs_r T 1 16 [some (.ref v0), some (.int v1)] [.int (0 : Int32), .int v1] rfl ?_
    refine fs_sI T 19 rfl rfl rfl rfl rfl rfl rfl (q_X12_wayPlace (d := d) hE ) ?_
    intro x2 m2
    exact fs_reti T rfl rfl rfl
  · refine fs_r T 2 16 [some (.ref v0), some (.int v1)] [.int (1 : Int32), .int v1] rfl ?_
    refine fs_sI T 19 rfl rfl rfl rfl rfl rfl rfl (q_X12_wayPlace (d := d) hE ) ?_
    intro x3 m3
    exact fs_reti T rfl rfl rfl)
def f_X12_sendPacket (H : fm_H) (v0 : Nat) (v1 : Int32) (m : fm_M) : Option (Unit × fm_M) :=
  if px_inb (6 : Int32) (fm_sz H (H.2.1 v0 0)) = true then
    if px_inb (((632 : Int32) + ((8 : Int32) * m.1 (H.2.1 v0 0) (6 : Int32).toNatClampNeg)) + (0 : Int32)) (fm_sz H (H.2.1 v0 0)) = true then
      (fm_bd (fm_si m (H.2.1 v0 0) (((632 : Int32) + ((8 : Int32) * m.1 (H.2.1 v0 0) (6 : Int32).toNatClampNeg)) + (0 : Int32)).toNatClampNeg v1) fun m1 =>
      fm_bn (f_X12_of H v0 v1 (6 : Int32) m1) fun x1 m2 =>
      if px_inb (((632 : Int32) + ((8 : Int32) * m.1 (H.2.1 v0 0) (6 : Int32).toNatClampNeg)) + (1 : Int32)) (fm_sz H (H.2.1 v0 0)) = true then
        (fm_bd (fm_si m2 (H.2.1 v0 0) (((632 : Int32) + ((8 : Int32) * m.1 (H.2.1 v0 0) (6 : Int32).toNatClampNeg)) + (1 : Int32)).toNatClampNeg x1) fun m3 =>
        if px_inb (5 : Int32) (fm_sz H (H.2.1 v0 0)) = true then
          if px_inb (((632 : Int32) + ((8 : Int32) * m.1 (H.2.1 v0 0) (6 : Int32).toNatClampNeg)) + (7 : Int32)) (fm_sz H (H.2.1 v0 0)) = true then
            (fm_bd (fm_si m3 (H.2.1 v0 0) (((632 : Int32) + ((8 : Int32) * m.1 (H.2.1 v0 0) (6 : Int32).toNatClampNeg)) + (7 : Int32)).toNatClampNeg (m3.1 (H.2.1 v0 0) (5 : Int32).toNatClampNeg + (1 : Int32))) fun m4 =>
            if px_inb (6 : Int32) (fm_sz H (H.2.1 v0 0)) = true then
              if px_inb (6 : Int32) (fm_sz H (H.2.1 v0 0)) = true then
                (fm_bd (fm_si m4 (H.2.1 v0 0) (6 : Int32).toNatClampNeg (m4.1 (H.2.1 v0 0) (6 : Int32).toNatClampNeg + (1 : Int32))) fun m5 =>
                if px_inb (7 : Int32) (fm_sz H (H.2.1 v0 0)) = true then
                  if px_inb (7 : Int32) (fm_sz H (H.2.1 v0 0)) = true then
                    (fm_bd (fm_si m5 (H.2.1 v0 0) (7 : Int32).toNatClampNeg (m5.1 (H.2.1 v0 0) (7 : Int32).toNatClampNeg + (1 : Int32))) fun m6 =>
                    fm_bn (f_X12_grow H v0 v1 (6 : Int32) (1 : Int32) m6) fun _ m7 =>
                    fm_bn (f_X12_grow H v0 v1 (5 : Int32) (-1 : Int32) m7) fun _ m8 =>
                    fm_bn (f_X12_activePlace H v0 v1 m8) fun x4 m9 =>
                    fm_bn (f_X12_setOut H v0 (m.1 (H.2.1 v0 0) (6 : Int32).toNatClampNeg) x4 (1 : Int32) m9) fun _ m10 =>
                    fm_bn (f_X12_ofPacket H v0 (m.1 (H.2.1 v0 0) (6 : Int32).toNatClampNeg) (2 : Int32) m10) fun x6 m11 =>
                    fm_bn (f_X12_ofLink H v0 x6 (4 : Int32) m11) fun x7 m12 =>
                    if x7 = 0 then
                      fm_bn (f_X12_losePacket H v0 (m.1 (H.2.1 v0 0) (6 : Int32).toNatClampNeg) m12) fun _ m13 =>
                      some ((), m13)
                    else
                    some ((), m12))
                  else none
                else none)
              else none
            else none)
          else none
        else none)
      else none)
    else none
  else none
set_option maxRecDepth 10000 in
theorem q_X12_sendPacket {G : pm_G} {H : fm_H} {d : Nat} {z : Option Nat × Nat × Nat} {v0 : Nat} {v1 : Int32} {m : fm_M} (hE : fm_E G H) (h0 : fm_is H v0 12) : fm_cal G H (d + 4) yX12_sendPacket [.ref v0, .int v1] z m fm_rV (f_X12_sendPacket H v0 v1 m) := fm_mth (d := d + 3) mt_X12_sendPacket rfl rfl rfl (fun K => by
  show fm_o fm_rV (f_X12_sendPacket H v0 v1 m) K → fm_V G H (d + 3) RX12 cX12_sendPacket none z K 0 [some (.ref v0), some (.int v1), none, none] [] m
  have T : fm_T RX12 cX12_sendPacket tc_X12_sendPacket fr_X12 mr_X12 cr_X12 lr_X12 := ⟨tok_X12, dc_X12_sendPacket⟩
  unfold f_X12_sendPacket
  refine fs_r T 1 1 [some (.ref v0), some (.int v1), none, none] [.ref v0] rfl ?_
  refine fs_gs T 4 12 0 v0 rfl rfl rfl rfl h0 ?_
  refine fs_r T 1 6 [some (.ref v0), some (.int v1), none, none] [.int (6 : Int32), .ref (H.2.1 v0 0)] rfl ?_
  refine fs_ai T 7 (H.2.1 v0 0) rfl rfl (hE.1 _ 12 0 h0) ?_
  refine fs_r T 8 18 [some (.ref v0), some (.int v1), some (.int (m.1 (H.2.1 v0 0) (6 : Int32).toNatClampNeg)), some (.int ((632 : Int32) + ((8 : Int32) * m.1 (H.2.1 v0 0) (6 : Int32).toNatClampNeg)))] [.ref v0] rfl ?_
  refine fs_gs T 21 12 0 v0 rfl rfl rfl rfl h0 ?_
  refine fs_r T 4 25 [some (.ref v0), some (.int v1), some (.int (m.1 (H.2.1 v0 0) (6 : Int32).toNatClampNeg)), some (.int ((632 : Int32) + ((8 : Int32) * m.1 (H.2.1 v0 0) (6 : Int32).toNatClampNeg)))] [.int v1, .int (((632 : Int32) + ((8 : Int32) * m.1 (H.2.1 v0 0) (6 : Int32).toNatClampNeg)) + (0 : Int32)), .ref (H.2.1 v0 0)] rfl ?_
  refine fs_si T 26 (H.2.1 v0 0) rfl rfl (hE.1 _ 12 0 h0) ?_
  intro m1
  refine fs_r T 1 27 [some (.ref v0), some (.int v1), some (.int (m.1 (H.2.1 v0 0) (6 : Int32).toNatClampNeg)), some (.int ((632 : Int32) + ((8 : Int32) * m.1 (H.2.1 v0 0) (6 : Int32).toNatClampNeg)))] [.ref v0] rfl ?_
  refine fs_gs T 30 12 0 v0 rfl rfl rfl rfl h0 ?_
  refine fs_r T 6 37 [some (.ref v0), some (.int v1), some (.int (m.1 (H.2.1 v0 0) (6 : Int32).toNatClampNeg)), some (.int ((632 : Int32) + ((8 : Int32) * m.1 (H.2.1 v0 0) (6 : Int32).toNatClampNeg)))] [.int (6 : Int32), .int v1, .ref v0, .int (((632 : Int32) + ((8 : Int32) * m.1 (H.2.1 v0 0) (6 : Int32).toNatClampNeg)) + (1 : Int32)), .ref (H.2.1 v0 0)] rfl ?_
  refine fs_vI T 40 rfl rfl rfl rfl rfl rfl h0 (q_X12_of (d := d + 2) hE h0) ?_
  intro x1 m2
  refine fs_si T 41 (H.2.1 v0 0) rfl rfl (hE.1 _ 12 0 h0) ?_
  intro m3
  refine fs_r T 1 42 [some (.ref v0), some (.int v1), some (.int (m.1 (H.2.1 v0 0) (6 : Int32).toNatClampNeg)), some (.int ((632 : Int32) + ((8 : Int32) * m.1 (H.2.1 v0 0) (6 : Int32).toNatClampNeg)))] [.ref v0] rfl ?_
  refine fs_gs T 45 12 0 v0 rfl rfl rfl rfl h0 ?_
  refine fs_r T 4 50 [some (.ref v0), some (.int v1), some (.int (m.1 (H.2.1 v0 0) (6 : Int32).toNatClampNeg)), some (.int ((632 : Int32) + ((8 : Int32) * m.1 (H.2.1 v0 0) (6 : Int32).toNatClampNeg)))] [.ref v0, .int (((632 : Int32) + ((8 : Int32) * m.1 (H.2.1 v0 0) (6 : Int32).toNatClampNeg)) + (7 : Int32)), .ref (H.2.1 v0 0)] rfl ?_
  refine fs_gs T 53 12 0 v0 rfl rfl rfl rfl h0 ?_
  refine fs_r T 1 54 [some (.ref v0), some (.int v1), some (.int (m.1 (H.2.1 v0 0) (6 : Int32).toNatClampNeg)), some (.int ((632 : Int32) + ((8 : Int32) * m.1 (H.2.1 v0 0) (6 : Int32).toNatClampNeg)))] [.int (5 : Int32), .ref (H.2.1 v0 0), .int (((632 : Int32) + ((8 : Int32) * m.1 (H.2.1 v0 0) (6 : Int32).toNatClampNeg)) + (7 : Int32)), .ref (H.2.1 v0 0)] rfl ?_
  refine fs_ai T 55 (H.2.1 v0 0) rfl rfl (hE.1 _ 12 0 h0) ?_
  refine fs_r T 2 57 [some (.ref v0), some (.int v1), some (.int (m.1 (H.2.1 v0 0) (6 : Int32).toNatClampNeg)), some (.int ((632 : Int32) + ((8 : Int32) * m.1 (H.2.1 v0 0) (6 : Int32).toNatClampNeg)))] [.int (m3.1 (H.2.1 v0 0) (5 : Int32).toNatClampNeg + (1 : Int32)), .int (((632 : Int32) + ((8 : Int32) * m.1 (H.2.1 v0 0) (6 : Int32).toNatClampNeg)) + (7 : Int32)), .ref (H.2.1 v0 0)] rfl ?_
  refine fs_si T 58 (H.2.1 v0 0) rfl rfl (hE.1 _ 12 0 h0) ?_
  intro m4
  refine fs_r T 1 59 [some (.ref v0), some (.int v1), some (.int (m.1 (H.2.1 v0 0) (6 : Int32).toNatClampNeg)), some (.int ((632 : Int32) + ((8 : Int32) * m.1 (H.2.1 v0 0) (6 : Int32).toNatClampNeg)))] [.ref v0] rfl ?_
  refine fs_gs T 62 12 0 v0 rfl rfl rfl rfl h0 ?_
  refine fs_r T 2 65 [some (.ref v0), some (.int v1), some (.int (m.1 (H.2.1 v0 0) (6 : Int32).toNatClampNeg)), some (.int ((632 : Int32) + ((8 : Int32) * m.1 (H.2.1 v0 0) (6 : Int32).toNatClampNeg)))] [.int (6 : Int32), .ref (H.2.1 v0 0), .int (6 : Int32), .ref (H.2.1 v0 0)] rfl ?_
  refine fs_ai T 66 (H.2.1 v0 0) rfl rfl (hE.1 _ 12 0 h0) ?_
  refine fs_r T 2 68 [some (.ref v0), some (.int v1), some (.int (m.1 (H.2.1 v0 0) (6 : Int32).toNatClampNeg)), some (.int ((632 : Int32) + ((8 : Int32) * m.1 (H.2.1 v0 0) (6 : Int32).toNatClampNeg)))] [.int (m4.1 (H.2.1 v0 0) (6 : Int32).toNatClampNeg + (1 : Int32)), .int (6 : Int32), .ref (H.2.1 v0 0)] rfl ?_
  refine fs_si T 69 (H.2.1 v0 0) rfl rfl (hE.1 _ 12 0 h0) ?_
  intro m5
  refine fs_r T 1 70 [some (.ref v0), some (.int v1), some (.int (m.1 (H.2.1 v0 0) (6 : Int32).toNatClampNeg)), some (.int ((632 : Int32) + ((8 : Int32) * m.1 (H.2.1 v0 0) (6 : Int32).toNatClampNeg)))] [.ref v0] rfl ?_
  refine fs_gs T 73 12 0 v0 rfl rfl rfl rfl h0 ?_
  refine fs_r T 2 76 [some (.ref v0), some (.int v1), some (.int (m.1 (H.2.1 v0 0) (6 : Int32).toNatClampNeg)), some (.int ((632 : Int32) + ((8 : Int32) * m.1 (H.2.1 v0 0) (6 : Int32).toNatClampNeg)))] [.int (7 : Int32), .ref (H.2.1 v0 0), .int (7 : Int32), .ref (H.2.1 v0 0)] rfl ?_
  refine fs_ai T 77 (H.2.1 v0 0) rfl rfl (hE.1 _ 12 0 h0) ?_
  refine fs_r T 2 79 [some (.ref v0), some (.int v1), some (.int (m.1 (H.2.1 v0 0) (6 : Int32).toNatClampNeg)), some (.int ((632 : Int32) + ((8 : Int32) * m.1 (H.2.1 v0 0) (6 : Int32).toNatClampNeg)))] [.int (m5.1 (H.2.1 v0 0) (7 : Int32).toNatClampNeg + (1 : Int32)), .int (7 : Int32), .ref (H.2.1 v0 0)] rfl ?_
  refine fs_si T 80 (H.2.1 v0 0) rfl rfl (hE.1 _ 12 0 h0) ?_
  intro m6
  refine fs_r T 4 85 [some (.ref v0), some (.int v1), some (.int (m.1 (H.2.1 v0 0) (6 : Int32).toNatClampNeg)), some (.int ((632 : Int32) + ((8 : Int32) * m.1 (H.2.1 v0 0) (6 : Int32).toNatClampNeg)))] [.int (1 : Int32), .int (6 : Int32), .int v1, .ref v0] rfl ?_
  refine fs_vV T 88 rfl rfl rfl rfl rfl rfl h0 (q_X12_grow (d := d + 2) hE h0) ?_
  intro x2 m7
  refine fs_r T 4 92 [some (.ref v0), some (.int v1), some (.int (m.1 (H.2.1 v0 0) (6 : Int32).toNatClampNeg)), some (.int ((632 : Int32) + ((8 : Int32) * m.1 (H.2.1 v0 0) (6 : Int32).toNatClampNeg)))] [.int (-1 : Int32), .int (5 : Int32), .int v1, .ref v0] rfl ?_
  refine fs_vV T 95 rfl rfl rfl rfl rfl rfl h0 (q_X12_grow (d := d + 2) hE h0) ?_
  intro x3 m8
  refine fs_r T 4 99 [some (.ref v0), some (.int v1), some (.int (m.1 (H.2.1 v0 0) (6 : Int32).toNatClampNeg)), some (.int ((632 : Int32) + ((8 : Int32) * m.1 (H.2.1 v0 0) (6 : Int32).toNatClampNeg)))] [.int v1, .ref v0, .int (m.1 (H.2.1 v0 0) (6 : Int32).toNatClampNeg), .ref v0] rfl ?_
  refine fs_vI T 102 rfl rfl rfl rfl rfl rfl h0 (q_X12_activePlace (d := d + 1) hE h0) ?_
  intro x4 m9
  refine fs_r T 1 103 [some (.ref v0), some (.int v1), some (.int (m.1 (H.2.1 v0 0) (6 : Int32).toNatClampNeg)), some (.int ((632 : Int32) + ((8 : Int32) * m.1 (H.2.1 v0 0) (6 : Int32).toNatClampNeg)))] [.int (1 : Int32), .int x4, .int (m.1 (H.2.1 v0 0) (6 : Int32).toNatClampNeg), .ref v0] rfl ?_
  refine fs_vV T 106 rfl rfl rfl rfl rfl rfl h0 (q_X12_setOut (d := d) hE h0) ?_
  intro x5 m10
  refine fs_r T 4 110 [some (.ref v0), some (.int v1), some (.int (m.1 (H.2.1 v0 0) (6 : Int32).toNatClampNeg)), some (.int ((632 : Int32) + ((8 : Int32) * m.1 (H.2.1 v0 0) (6 : Int32).toNatClampNeg)))] [.int (2 : Int32), .int (m.1 (H.2.1 v0 0) (6 : Int32).toNatClampNeg), .ref v0, .ref v0] rfl ?_
  refine fs_vI T 113 rfl rfl rfl rfl rfl rfl h0 (q_X12_ofPacket (d := d + 2) hE h0) ?_
  intro x6 m11
  refine fs_r T 1 114 [some (.ref v0), some (.int v1), some (.int (m.1 (H.2.1 v0 0) (6 : Int32).toNatClampNeg)), some (.int ((632 : Int32) + ((8 : Int32) * m.1 (H.2.1 v0 0) (6 : Int32).toNatClampNeg)))] [.int (4 : Int32), .int x6, .ref v0] rfl ?_
  refine fs_vI T 117 rfl rfl rfl rfl rfl rfl h0 (q_X12_ofLink (d := d + 2) hE h0) ?_
  intro x7 m12
  refine fs_if_ne T 125 120 rfl rfl rfl (fun _ => ?_) (fun _ => ?_)
  · refine fs_r T 2 122 [some (.ref v0), some (.int v1), some (.int (m.1 (H.2.1 v0 0) (6 : Int32).toNatClampNeg)), some (.int ((632 : Int32) + ((8 : Int32) * m.1 (H.2.1 v0 0) (6 : Int32).toNatClampNeg)))] [.int (m.1 (H.2.1 v0 0) (6 : Int32).toNatClampNeg), .ref v0] rfl ?_
    refine fs_vV T 125 rfl rfl rfl rfl rfl rfl h0 (q_X12_losePacket (d := d + 1) hE h0) ?_
    intro x8 m13
    exact fs_retv T rfl rfl rfl
  · exact fs_retv T rfl rfl rfl)
