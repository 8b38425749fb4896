/-! functions out of the code -/
def f_X12_parseNumber (H : fm_H) (v0 : Nat) (v1 : Int32) (v2 : Int32) (m : fm_M) : Option (Int32 × fm_M) :=
  fm_bn (f_X12_look H v0 v1 v2 m) fun _ m1 =>
  fm_bn (f_X12_advance H v0 m1) fun _ m2 =>
  some (m1.1 v0 14, m2)
set_option maxRecDepth 10000 in
theorem q_X12_parseNumber {G : pm_G} {H : fm_H} {d : Nat} {z : Option Nat × Nat × Nat} {v0 : Nat} {v1 : Int32} {v2 : Int32} {m : fm_M} (hE : fm_E G H) (h0 : fm_is H v0 12) : fm_cal G H (d + 5) yX12_parseNumber [.ref v0, .int v1, .int v2] z m fm_rI (f_X12_parseNumber H v0 v1 v2 m) := fm_mth (d := d + 4) mt_X12_parseNumber rfl rfl rfl (fun K => by
  show fm_o fm_rI (f_X12_parseNumber H v0 v1 v2 m) K → fm_V G H (d + 4) RX12 cX12_parseNumber (some (.int)) z K 0 [some (.ref v0), some (.int v1), some (.int v2), none] [] m
  have T : fm_T RX12 cX12_parseNumber tc_X12_parseNumber fr_X12 mr_X12 cr_X12 lr_X12 := ⟨tok_X12, dc_X12_parseNumber⟩
  unfold f_X12_parseNumber
  refine fs_r T 3 3 [some (.ref v0), some (.int v1), some (.int v2), none] [.int v2, .int v1, .ref v0] rfl ?_
  refine fs_vV T 6 rfl rfl rfl rfl rfl rfl h0 (q_X12_look (d := d + 2) hE h0) ?_
  intro x1 m1
  refine fs_r T 1 7 [some (.ref v0), some (.int v1), some (.int v2), none] [.ref v0] rfl ?_
  refine fs_gi T 10 12 14 v0 rfl rfl rfl rfl h0 ?_
  refine fs_r T 2 12 [some (.ref v0), some (.int v1), some (.int v2), some (.int (m1.1 v0 14))] [.ref v0] rfl ?_
  refine fs_vV T 15 rfl rfl rfl rfl rfl rfl h0 (q_X12_advance (d := d) hE h0) ?_
  intro x2 m2
  refine fs_r T 1 16 [some (.ref v0), some (.int v1), some (.int v2), some (.int (m1.1 v0 14))] [.int (m1.1 v0 14)] rfl ?_
  exact fs_reti T rfl rfl rfl)
def f_X12_appendNode (H : fm_H) (v0 : Nat) (v1 : Int32) (m : fm_M) : Option (Int32 × fm_M) :=
  if px_inb (2 : Int32) (fm_sz H (H.2.1 v0 0)) = true then
    if px_inb ((14 : Int32) + m.1 (H.2.1 v0 0) (2 : Int32).toNatClampNeg) (fm_sz H (H.2.1 v0 0)) = true then
      (fm_bd (fm_si m (H.2.1 v0 0) ((14 : Int32) + m.1 (H.2.1 v0 0) (2 : Int32).toNatClampNeg).toNatClampNeg v1) fun m1 =>
      if px_inb (2 : Int32) (fm_sz H (H.2.1 v0 0)) = true then
        if px_inb (2 : Int32) (fm_sz H (H.2.1 v0 0)) = true then
          (fm_bd (fm_si m1 (H.2.1 v0 0) (2 : Int32).toNatClampNeg (m1.1 (H.2.1 v0 0) (2 : Int32).toNatClampNeg + (1 : Int32))) fun m2 =>
          if px_inb (2 : Int32) (fm_sz H (H.2.1 v0 0)) = true then
            some ((m2.1 (H.2.1 v0 0) (2 : Int32).toNatClampNeg - (1 : Int32)), m2)
          else none)
        else none
      else none)
    else none
  else none
set_option maxRecDepth 10000 in
theorem q_X12_appendNode {G : pm_G} {H : fm_H} {d : Nat} {z : Option Nat × Nat × Nat} {v0 : Nat} {v1 : Int32} {m : fm_M} (hE : fm_E G H) (h0 : fm_is H v0 12) : fm_cal G H (d + 1) yX12_appendNode [.ref v0, .int v1] z m fm_rI (f_X12_appendNode H v0 v1 m) := fm_mth (d := d + 0) mt_X12_appendNode rfl rfl rfl (fun K => by
  show fm_o fm_rI (f_X12_appendNode H v0 v1 m) K → fm_V G H (d + 0) RX12 cX12_appendNode (some (.int)) z K 0 [some (.ref v0), some (.int v1)] [] m
  have T : fm_T RX12 cX12_appendNode tc_X12_appendNode fr_X12 mr_X12 cr_X12 lr_X12 := ⟨tok_X12, dc_X12_appendNode⟩
  unfold f_X12_appendNode
  refine fs_r T 1 1 [some (.ref v0), some (.int v1)] [.ref v0] rfl ?_
  refine fs_gs T 4 12 0 v0 rfl rfl rfl rfl h0 ?_
  refine fs_r T 2 7 [some (.ref v0), some (.int v1)] [.ref v0, .int (14 : Int32), .ref (H.2.1 v0 0)] rfl ?_
  refine fs_gs T 10 12 0 v0 rfl rfl rfl rfl h0 ?_
  refine fs_r T 1 11 [some (.ref v0), some (.int v1)] [.int (2 : Int32), .ref (H.2.1 v0 0), .int (14 : Int32), .ref (H.2.1 v0 0)] rfl ?_
  refine fs_ai T 12 (H.2.1 v0 0) rfl rfl (hE.1 _ 12 0 h0) ?_
  refine fs_r T 2 14 [some (.ref v0), some (.int v1)] [.int v1, .int ((14 : Int32) + m.1 (H.2.1 v0 0) (2 : Int32).toNatClampNeg), .ref (H.2.1 v0 0)] rfl ?_
  refine fs_si T 15 (H.2.1 v0 0) rfl rfl (hE.1 _ 12 0 h0) ?_
  intro m1
  refine fs_r T 1 16 [some (.ref v0), some (.int v1)] [.ref v0] rfl ?_
  refine fs_gs T 19 12 0 v0 rfl rfl rfl rfl h0 ?_
  refine fs_r T 2 21 [some (.ref v0), some (.int v1)] [.int (2 : Int32), .ref (H.2.1 v0 0), .int (2 : Int32), .ref (H.2.1 v0 0)] rfl ?_
  refine fs_ai T 22 (H.2.1 v0 0) rfl rfl (hE.1 _ 12 0 h0) ?_
  refine fs_r T 2 24 [some (.ref v0), some (.int v1)] [.int (m1.1 (H.2.1 v0 0) (2 : Int32).toNatClampNeg + (1 : Int32)), .int (2 : Int32), .ref (H.2.1 v0 0)] rfl ?_
  refine fs_si T 25 (H.2.1 v0 0) rfl rfl (hE.1 _ 12 0 h0) ?_
  intro m2
  refine fs_r T 1 26 [some (.ref v0), some (.int v1)] [.ref v0] rfl ?_
  refine fs_gs T 29 12 0 v0 rfl rfl rfl rfl h0 ?_
  refine fs_r T 1 30 [some (.ref v0), some (.int v1)] [.int (2 : Int32), .ref (H.2.1 v0 0)] rfl ?_
  refine fs_ai T 31 (H.2.1 v0 0) rfl rfl (hE.1 _ 12 0 h0) ?_
  refine fs_r T 2 33 [some (.ref v0), some (.int v1)] [.int (m2.1 (H.2.1 v0 0) (2 : Int32).toNatClampNeg - (1 : Int32))] rfl ?_
  exact fs_reti T rfl rfl rfl)
def f_X12_parseNode_17 (H : fm_H) (v0 : Nat) (s0 : Int32) (s1 : Nat) (m : fm_M) : Option (Unit × fm_M) :=
  fm_bn (f_X12_require H s1 s0 (3 : Int32) m) fun _ m1 =>
  fm_bn (f_X12_advance H v0 m1) fun _ m2 =>
  fm_bn (f_X12_parseNumber H v0 (1 : Int32) (12 : Int32) m2) fun x3 m3 =>
  fm_bn (f_X12_isFine H v0 m3) fun x4 m4 =>
  if x4 = 0 then
    some ((), m4)
  else
  fm_bn (f_X12_appendNode H v0 x3 m4) fun x5 m5 =>
  some ((), m5)
set_option maxRecDepth 10000 in
theorem w_X12_parseNode_17 {G : pm_G} {H : fm_H} {d : Nat} {z : Option Nat × Nat × Nat} {K : pm_R → fm_M → Prop} (hE : fm_E G H) {v0 : Nat} (h0 : fm_is H v0 12) : ∀ (s0 : Int32) (s1 : Nat) (m : fm_M), fm_is H s1 12 → fm_o fm_rV (f_X12_parseNode_17 H v0 s0 s1 m) K → fm_V G H (d + 5) RX12 cX12_parseNode none z K 17 [some (.ref v0), none, none] [.int s0, .ref s1] m := by
  have T : fm_T RX12 cX12_parseNode tc_X12_parseNode fr_X12 mr_X12 cr_X12 lr_X12 := ⟨tok_X12, dc_X12_parseNode⟩
  intro s0 s1 m hs1
  unfold f_X12_parseNode_17
  refine fs_r T 1 18 [some (.ref v0), none, none] [.int (3 : Int32), .int s0, .ref s1] rfl ?_
  refine fs_vV T 21 rfl rfl rfl rfl rfl rfl hs1 (q_X12_require (d := d + 4) hE hs1) ?_
  intro x1 m1
  refine fs_r T 1 22 [some (.ref v0), none, none] [.ref v0] rfl ?_
  refine fs_vV T 25 rfl rfl rfl rfl rfl rfl h0 (q_X12_advance (d := d + 1) hE h0) ?_
  intro x2 m2
  refine fs_r T 3 29 [some (.ref v0), none, none] [.int (12 : Int32), .int (1 : Int32), .ref v0] rfl ?_
  refine fs_vI T 32 rfl rfl rfl rfl rfl rfl h0 (q_X12_parseNumber (d := d) hE h0) ?_
  intro x3 m3
  refine fs_r T 2 34 [some (.ref v0), some (.int x3), none] [.ref v0] rfl ?_
  refine fs_vI T 37 rfl rfl rfl rfl rfl rfl h0 (q_X12_isFine (d := d + 4) hE h0) ?_
  intro x4 m4
  refine fs_if_eq T 46 40 rfl rfl rfl (fun _ => ?_) (fun _ => ?_)
  · exact fs_retv T rfl rfl rfl
  · refine fs_r T 2 42 [some (.ref v0), some (.int x3), none] [.int x3, .ref v0] rfl ?_
    refine fs_vI T 45 rfl rfl rfl rfl rfl rfl h0 (q_X12_appendNode (d := d + 4) hE h0) ?_
    intro x5 m5
    refine fs_r T 1 46 [some (.ref v0), some (.int x3), some (.int x5)] [] rfl ?_
    exact fs_retv T rfl rfl rfl
def f_X12_parseNode (H : fm_H) (v0 : Nat) (m : fm_M) : Option (Unit × fm_M) :=
  if px_inb (2 : Int32) (fm_sz H (H.2.1 v0 0)) = true then
    if (10 : Int32) ≤ m.1 (H.2.1 v0 0) (2 : Int32).toNatClampNeg then
      f_X12_parseNode_17 H v0 (0 : Int32) v0 m
    else
    f_X12_parseNode_17 H v0 (1 : Int32) v0 m
  else none
set_option maxRecDepth 10000 in
theorem q_X12_parseNode {G : pm_G} {H : fm_H} {d : Nat} {z : Option Nat × Nat × Nat} {v0 : Nat} {m : fm_M} (hE : fm_E G H) (h0 : fm_is H v0 12) : fm_cal G H (d + 6) yX12_parseNode [.ref v0] z m fm_rV (f_X12_parseNode H v0 m) := fm_mth (d := d + 5) mt_X12_parseNode rfl rfl rfl (fun K => by
  show fm_o fm_rV (f_X12_parseNode H v0 m) K → fm_V G H (d + 5) RX12 cX12_parseNode none z K 0 [some (.ref v0), none, none] [] m
  have T : fm_T RX12 cX12_parseNode tc_X12_parseNode fr_X12 mr_X12 cr_X12 lr_X12 := ⟨tok_X12, dc_X12_parseNode⟩
  unfold f_X12_parseNode
  refine fs_r T 2 2 [some (.ref v0), none, none] [.ref v0, .ref v0] rfl ?_
  refine fs_gs T 5 12 0 v0 rfl rfl rfl rfl h0 ?_
  refine fs_r T 1 6 [some (.ref v0), none, none] [.int (2 : Int32), .ref (H.2.1 v0 0), .ref v0] rfl ?_
  refine fs_ai T 7 (H.2.1 v0 0) rfl rfl (hE.1 _ 12 0 h0) ?_
  refine fs_r T 1 9 [some (.ref v0), none, none] [.int (10 : Int32), .int (m.1 (H.2.1 v0 0) (2 : Int32).toNatClampNeg), .ref v0] rfl ?_
  refine fs_ic_ge T 16 12 rfl rfl rfl (fun _ => ?_) (fun _ => ?_)
  · refine fs_r T 1 17 [some (.ref v0), none, none] [.int (0 : Int32), .ref v0] rfl ?_
    exact w_X12_parseNode_17 hE h0 _ _ _ h0
  · refine fs_r T 2 17 [some (.ref v0), none, none] [.int (1 : Int32), .ref v0] rfl ?_
    exact w_X12_parseNode_17 hE h0 _ _ _ h0)
def f_X12_appendLink (H : fm_H) (v0 : Nat) (v1 : Int32) (v2 : Int32) (v3 : Int32) (v4 : Int32) (m : fm_M) : Option (Int32 × fm_M) :=
  if px_inb (3 : Int32) (fm_sz H (H.2.1 v0 0)) = true then
    if px_inb (((24 : Int32) + ((5 : Int32) * m.1 (H.2.1 v0 0) (3 : Int32).toNatClampNeg)) + (0 : Int32)) (fm_sz H (H.2.1 v0 0)) = true then
      (fm_bd (fm_si m (H.2.1 v0 0) (((24 : Int32) + ((5 : Int32) * m.1 (H.2.1 v0 0) (3 : Int32).toNatClampNeg)) + (0 : Int32)).toNatClampNeg v1) fun m1 =>
      if px_inb (((24 : Int32) + ((5 : Int32) * m.1 (H.2.1 v0 0) (3 : Int32).toNatClampNeg)) + (1 : Int32)) (fm_sz H (H.2.1 v0 0)) = true then
        (fm_bd (fm_si m1 (H.2.1 v0 0) (((24 : Int32) + ((5 : Int32) * m.1 (H.2.1 v0 0) (3 : Int32).toNatClampNeg)) + (1 : Int32)).toNatClampNeg v2) fun m2 =>
        if px_inb (((24 : Int32) + ((5 : Int32) * m.1 (H.2.1 v0 0) (3 : Int32).toNatClampNeg)) + (2 : Int32)) (fm_sz H (H.2.1 v0 0)) = true then
          (fm_bd (fm_si m2 (H.2.1 v0 0) (((24 : Int32) + ((5 : Int32) * m.1 (H.2.1 v0 0) (3 : Int32).toNatClampNeg)) + (2 : Int32)).toNatClampNeg v3) fun m3 =>
          if px_inb (((24 : Int32) + ((5 : Int32) * m.1 (H.2.1 v0 0) (3 : Int32).toNatClampNeg)) + (3 : Int32)) (fm_sz H (H.2.1 v0 0)) = true then
            (fm_bd (fm_si m3 (H.2.1 v0 0) (((24 : Int32) + ((5 : Int32) * m.1 (H.2.1 v0 0) (3 : Int32).toNatClampNeg)) + (3 : Int32)).toNatClampNeg v4) fun m4 =>
            if px_inb (((24 : Int32) + ((5 : Int32) * m.1 (H.2.1 v0 0) (3 : Int32).toNatClampNeg)) + (4 : Int32)) (fm_sz H (H.2.1 v0 0)) = true then
              (fm_bd (fm_si m4 (H.2.1 v0 0) (((24 : Int32) + ((5 : Int32) * m.1 (H.2.1 v0 0) (3 : Int32).toNatClampNeg)) + (4 : Int32)).toNatClampNeg (1 : Int32)) fun m5 =>
              if px_inb (3 : Int32) (fm_sz H (H.2.1 v0 0)) = true then
                if px_inb (3 : Int32) (fm_sz H (H.2.1 v0 0)) = true then
                  (fm_bd (fm_si m5 (H.2.1 v0 0) (3 : Int32).toNatClampNeg (m5.1 (H.2.1 v0 0) (3 : Int32).toNatClampNeg + (1 : Int32))) fun m6 =>
                  if px_inb (3 : Int32) (fm_sz H (H.2.1 v0 0)) = true then
                    some ((m6.1 (H.2.1 v0 0) (3 : Int32).toNatClampNeg - (1 : Int32)), m6)
                  else none)
                else none
              else none)
            else none)
          else none)
        else none)
      else none)
    else none
  else none
set_option maxRecDepth 10000 in
theorem q_X12_appendLink {G : pm_G} {H : fm_H} {d : Nat} {z : Option Nat × Nat × Nat} {v0 : Nat} {v1 : Int32} {v2 : Int32} {v3 : Int32} {v4 : Int32} {m : fm_M} (hE : fm_E G H) (h0 : fm_is H v0 12) : fm_cal G H (d + 1) yX12_appendLink [.ref v0, .int v1, .int v2, .int v3, .int v4] z m fm_rI (f_X12_appendLink H v0 v1 v2 v3 v4 m) := fm_mth (d := d + 0) mt_X12_appendLink rfl rfl rfl (fun K => by
  show fm_o fm_rI (f_X12_appendLink H v0 v1 v2 v3 v4 m) K → fm_V G H (d + 0) RX12 cX12_appendLink (some (.int)) z K 0 [some (.ref v0), some (.int v1), some (.int v2), some (.int v3), some (.int v4), none] [] m
  have T : fm_T RX12 cX12_appendLink tc_X12_appendLink fr_X12 mr_X12 cr_X12 lr_X12 := ⟨tok_X12, dc_X12_appendLink⟩
  unfold f_X12_appendLink
  refine fs_r T 3 4 [some (.ref v0), some (.int v1), some (.int v2), some (.int v3), some (.int v4), none] [.ref v0, .int (5 : Int32), .int (24 : Int32)] rfl ?_
  refine fs_gs T 7 12 0 v0 rfl rfl rfl rfl h0 ?_
  refine fs_r T 1 8 [some (.ref v0), some (.int v1), some (.int v2), some (.int v3), some (.int v4), none] [.int (3 : Int32), .ref (H.2.1 v0 0), .int (5 : Int32), .int (24 : Int32)] rfl ?_
  refine fs_ai T 9 (H.2.1 v0 0) rfl rfl (hE.1 _ 12 0 h0) ?_
  refine fs_r T 4 14 [some (.ref v0), some (.int v1), some (.int v2), some (.int v3), some (.int v4), some (.int ((24 : Int32) + ((5 : Int32) * m.1 (H.2.1 v0 0) (3 : Int32).toNatClampNeg)))] [.ref v0] rfl ?_
  refine fs_gs T 17 12 0 v0 rfl rfl rfl rfl h0 ?_
  refine fs_r T 4 22 [some (.ref v0), some (.int v1), some (.int v2), some (.int v3), some (.int v4), some (.int ((24 : Int32) + ((5 : Int32) * m.1 (H.2.1 v0 0) (3 : Int32).toNatClampNeg)))] [.int v1, .int (((24 : Int32) + ((5 : Int32) * m.1 (H.2.1 v0 0) (3 : Int32).toNatClampNeg)) + (0 : Int32)), .ref (H.2.1 v0 0)] rfl ?_
  refine fs_si T 23 (H.2.1 v0 0) rfl rfl (hE.1 _ 12 0 h0) ?_
  intro m1
  refine fs_r T 1 24 [some (.ref v0), some (.int v1), some (.int v2), some (.int v3), some (.int v4), some (.int ((24 : Int32) + ((5 : Int32) * m.1 (H.2.1 v0 0) (3 : Int32).toNatClampNeg)))] [.ref v0] rfl ?_
  refine fs_gs T 27 12 0 v0 rfl rfl rfl rfl h0 ?_
  refine fs_r T 4 32 [some (.ref v0), some (.int v1), some (.int v2), some (.int v3), some (.int v4), some (.int ((24 : Int32) + ((5 : Int32) * m.1 (H.2.1 v0 0) (3 : Int32).toNatClampNeg)))] [.int v2, .int (((24 : Int32) + ((5 : Int32) * m.1 (H.2.1 v0 0) (3 : Int32).toNatClampNeg)) + (1 : Int32)), .ref (H.2.1 v0 0)] rfl ?_
  refine fs_si T 33 (H.2.1 v0 0) rfl rfl (hE.1 _ 12 0 h0) ?_
  intro m2
  refine fs_r T 1 34 [some (.ref v0), some (.int v1), some (.int v2), some (.int v3), some (.int v4), some (.int ((24 : Int32) + ((5 : Int32) * m.1 (H.2.1 v0 0) (3 : Int32).toNatClampNeg)))] [.ref v0] rfl ?_
  refine fs_gs T 37 12 0 v0 rfl rfl rfl rfl h0 ?_
  refine fs_r T 4 42 [some (.ref v0), some (.int v1), some (.int v2), some (.int v3), some (.int v4), some (.int ((24 : Int32) + ((5 : Int32) * m.1 (H.2.1 v0 0) (3 : Int32).toNatClampNeg)))] [.int v3, .int (((24 : Int32) + ((5 : Int32) * m.1 (H.2.1 v0 0) (3 : Int32).toNatClampNeg)) + (2 : Int32)), .ref (H.2.1 v0 0)] rfl ?_
  refine fs_si T 43 (H.2.1 v0 0) rfl rfl (hE.1 _ 12 0 h0) ?_
  intro m3
  refine fs_r T 1 44 [some (.ref v0), some (.int v1), some (.int v2), some (.int v3), some (.int v4), some (.int ((24 : Int32) + ((5 : Int32) * m.1 (H.2.1 v0 0) (3 : Int32).toNatClampNeg)))] [.ref v0] rfl ?_
  refine fs_gs T 47 12 0 v0 rfl rfl rfl rfl h0 ?_
  refine fs_r T 4 53 [some (.ref v0), some (.int v1), some (.int v2), some (.int v3), some (.int v4), some (.int ((24 : Int32) + ((5 : Int32) * m.1 (H.2.1 v0 0) (3 : Int32).toNatClampNeg)))] [.int v4, .int (((24 : Int32) + ((5 : Int32) * m.1 (H.2.1 v0 0) (3 : Int32).toNatClampNeg)) + (3 : Int32)), .ref (H.2.1 v0 0)] rfl ?_
  refine fs_si T 54 (H.2.1 v0 0) rfl rfl (hE.1 _ 12 0 h0) ?_
  intro m4
  refine fs_r T 1 55 [some (.ref v0), some (.int v1), some (.int v2), some (.int v3), some (.int v4), some (.int ((24 : Int32) + ((5 : Int32) * m.1 (H.2.1 v0 0) (3 : Int32).toNatClampNeg)))] [.ref v0] rfl ?_
  refine fs_gs T 58 12 0 v0 rfl rfl rfl rfl h0 ?_
  refine fs_r T 4 63 [some (.ref v0), some (.int v1), some (.int v2), some (.int v3), some (.int v4), some (.int ((24 : Int32) + ((5 : Int32) * m.1 (H.2.1 v0 0) (3 : Int32).toNatClampNeg)))] [.int (1 : Int32), .int (((24 : Int32) + ((5 : Int32) * m.1 (H.2.1 v0 0) (3 : Int32).toNatClampNeg)) + (4 : Int32)), .ref (H.2.1 v0 0)] rfl ?_
  refine fs_si T 64 (H.2.1 v0 0) rfl rfl (hE.1 _ 12 0 h0) ?_
  intro m5
  refine fs_r T 1 65 [some (.ref v0), some (.int v1), some (.int v2), some (.int v3), some (.int v4), some (.int ((24 : Int32) + ((5 : Int32) * m.1 (H.2.1 v0 0) (3 : Int32).toNatClampNeg)))] [.ref v0] rfl ?_
  refine fs_gs T 68 12 0 v0 rfl rfl rfl rfl h0 ?_
  refine fs_r T 2 70 [some (.ref v0), some (.int v1), some (.int v2), some (.int v3), some (.int v4), some (.int ((24 : Int32) + ((5 : Int32) * m.1 (H.2.1 v0 0) (3 : Int32).toNatClampNeg)))] [.int (3 : Int32), .ref (H.2.1 v0 0), .int (3 : Int32), .ref (H.2.1 v0 0)] rfl ?_
  refine fs_ai T 71 (H.2.1 v0 0) rfl rfl (hE.1 _ 12 0 h0) ?_
  refine fs_r T 2 73 [some (.ref v0), some (.int v1), some (.int v2), some (.int v3), some (.int v4), some (.int ((24 : Int32) + ((5 : Int32) * m.1 (H.2.1 v0 0) (3 : Int32).toNatClampNeg)))] [.int (m5.1 (H.2.1 v0 0) (3 : Int32).toNatClampNeg + (1 : Int32)), .int (3 : Int32), .ref (H.2.1 v0 0)] rfl ?_
  refine fs_si T 74 (H.2.1 v0 0) rfl rfl (hE.1 _ 12 0 h0) ?_
  intro m6
  refine fs_r T 1 75 [some (.ref v0), some (.int v1), some (.int v2), some (.int v3), some (.int v4), some (.int ((24 : Int32) + ((5 : Int32) * m.1 (H.2.1 v0 0) (3 : Int32).toNatClampNeg)))] [.ref v0] rfl ?_
  refine fs_gs T 78 12 0 v0 rfl rfl rfl rfl h0 ?_
  refine fs_r T 1 79 [some (.ref v0), some (.int v1), some (.int v2), some (.int v3), some (.int v4), some (.int ((24 : Int32) + ((5 : Int32) * m.1 (H.2.1 v0 0) (3 : Int32).toNatClampNeg)))] [.int (3 : Int32), .ref (H.2.1 v0 0)] rfl ?_
  refine fs_ai T 80 (H.2.1 v0 0) rfl rfl (hE.1 _ 12 0 h0) ?_
  refine fs_r T 2 82 [some (.ref v0), some (.int v1), some (.int v2), some (.int v3), some (.int v4), some (.int ((24 : Int32) + ((5 : Int32) * m.1 (H.2.1 v0 0) (3 : Int32).toNatClampNeg)))] [.int (m6.1 (H.2.1 v0 0) (3 : Int32).toNatClampNeg - (1 : Int32))] rfl ?_
  exact fs_reti T rfl rfl rfl)
def f_X12_linkOf_2 (H : fm_H) (v0 : Nat) (v1 : Int32) (v2 : Int32) : Nat → Int32 → fm_M → Option (Int32 × fm_M)
  | 0, _, _ => none
  | n + 1, v3, m =>
    if px_inb (3 : Int32) (fm_sz H (H.2.1 v0 0)) = true then
      if m.1 (H.2.1 v0 0) (3 : Int32).toNatClampNeg ≤ v3 then
        some ((-1 : Int32), m)
      else
      fm_bn (f_X12_ofLink H v0 v3 (0 : Int32) m) fun x1 m1 =>
      fm_bn (f_X12_ofLink H v0 v3 (1 : Int32) m1) fun x2 m2 =>
      if x1 = v1 then
        if x2 = v2 then
          some (v3, m2)
        else
        if x1 = v2 then
          if x2 = v1 then
            some (v3, m2)
          else
          f_X12_linkOf_2 H v0 v1 v2 n (v3 + 1) m2
        else
        f_X12_linkOf_2 H v0 v1 v2 n (v3 + 1) m2
      else
      if x1 = v2 then
        if x2 = v1 then
          some (v3, m2)
        else
        f_X12_linkOf_2 H v0 v1 v2 n (v3 + 1) m2
      else
      f_X12_linkOf_2 H v0 v1 v2 n (v3 + 1) m2
    else none
set_option maxRecDepth 10000 in
theorem w_X12_linkOf_2 {G : pm_G} {H : fm_H} {d : Nat} {z : Option Nat × Nat × Nat} {K : pm_R → fm_M → Prop} (hE : fm_E G H) {v0 : Nat} {v1 : Int32} {v2 : Int32} (h0 : fm_is H v0 12) : ∀ (n : Nat) (v3 : Int32) (m : fm_M), fm_o fm_rI (f_X12_linkOf_2 H v0 v1 v2 n v3 m) K → fm_V G H (d + 1) RX12 cX12_linkOf (some (.int)) z K 2 [some (.ref v0), some (.int v1), some (.int v2), some (.int v3), none, none] [] m := by
  have T : fm_T RX12 cX12_linkOf tc_X12_linkOf fr_X12 mr_X12 cr_X12 lr_X12 := ⟨tok_X12, dc_X12_linkOf⟩
  intro n
  induction n with
  | zero =>
    intro v3 m 
    exact fs_none
  | succ n ih =>
    intro v3 m 
    unfold f_X12_linkOf_2
    refine fs_r T 2 4 [some (.ref v0), some (.int v1), some (.int v2), some (.int v3), none, none] [.ref v0, .int v3] rfl ?_
    refine fs_gs T 7 12 0 v0 rfl rfl rfl rfl h0 ?_
    refine fs_r T 1 8 [some (.ref v0), some (.int v1), some (.int v2), some (.int v3), none, none] [.int (3 : Int32), .ref (H.2.1 v0 0), .int v3] rfl ?_
    refine fs_ai T 9 (H.2.1 v0 0) rfl rfl (hE.1 _ 12 0 h0) ?_
    refine fs_ic_ge T 60 12 rfl rfl rfl (fun _ => ?_) (fun _ => ?_)
    · refine fs_r T 1 61 [some (.ref v0), some (.int v1), some (.int v2), some (.int v3), none, none] [.int (-1 : Int32)] rfl ?_
      exact fs_reti T rfl rfl rfl
    · refine fs_r T 3 15 [some (.ref v0), some (.int v1), some (.int v2), some (.int v3), none, none] [.int (0 : Int32), .int v3, .ref v0] rfl ?_
      refine fs_vI T 18 rfl rfl rfl rfl rfl rfl h0 (q_X12_ofLink (d := d) hE h0) ?_
      intro x1 m1
      refine fs_r T 4 23 [some (.ref v0), some (.int v1), some (.int v2), some (.int v3), some (.int x1), none] [.int (1 : Int32), .int v3, .ref v0] rfl ?_
      refine fs_vI T 26 rfl rfl rfl rfl rfl rfl h0 (q_X12_ofLink (d := d) hE h0) ?_
      intro x2 m2
      refine fs_r T 3 31 [some (.ref v0), some (.int v1), some (.int v2), some (.int v3), some (.int x1), some (.int x2)] [.int v1, .int x1] rfl ?_
      refine fs_ic_ne T 40 34 rfl rfl rfl (fun _ => ?_) (fun _ => ?_)
      · refine fs_r T 2 37 [some (.ref v0), some (.int v1), some (.int v2), some (.int v3), some (.int x1), some (.int x2)] [.int v2, .int x2] rfl ?_
        refine fs_ic_eq T 52 40 rfl rfl rfl (fun _ => ?_) (fun _ => ?_)
        · refine fs_r T 1 53 [some (.ref v0), some (.int v1), some (.int v2), some (.int v3), some (.int x1), some (.int x2)] [.int v3] rfl ?_
          exact fs_reti T rfl rfl rfl
        · refine fs_r T 2 43 [some (.ref v0), some (.int v1), some (.int v2), some (.int v3), some (.int x1), some (.int x2)] [.int v2, .int x1] rfl ?_
          refine fs_ic_ne T 54 46 rfl rfl rfl (fun _ => ?_) (fun _ => ?_)
          · refine fs_r T 2 49 [some (.ref v0), some (.int v1), some (.int v2), some (.int v3), some (.int x1), some (.int x2)] [.int v1, .int x2] rfl ?_
            refine fs_ic_ne T 54 52 rfl rfl rfl (fun _ => ?_) (fun _ => ?_)
            · refine fs_r T 1 53 [some (.ref v0), some (.int v1), some (.int v2), some (.int v3), some (.int x1), some (.int x2)] [.int v3] rfl ?_
              exact fs_reti T rfl rfl rfl
            · refine fs_r T 2 2 [some (.ref v0), some (.int v1), some (.int v2), some (.int (v3 + 1)), some (.int x1), some (.int x2)] [] rfl ?_
              refine fs_wk (ls' := [some (.ref v0), some (.int v1), some (.int v2), some (.int (v3 + 1)), none, none]) ⟨rfl, rfl, rfl, rfl, trivial⟩ ?_
              exact ih _ _
          · refine fs_r T 2 2 [some (.ref v0), some (.int v1), some (.int v2), some (.int (v3 + 1)), some (.int x1), some (.int x2)] [] rfl ?_
            refine fs_wk (ls' := [some (.ref v0), some (.int v1), some (.int v2), some (.int (v3 + 1)), none, none]) ⟨rfl, rfl, rfl, rfl, trivial⟩ ?_
            exact ih _ _
      · refine fs_r T 2 43 [some (.ref v0), some (.int v1), some (.int v2), some (.int v3), some (.int x1), some (.int x2)] [.int v2, .int x1] rfl ?_
        refine fs_ic_ne T 54 46 rfl rfl rfl (fun _ => ?_) (fun _ => ?_)
        · refine fs_r T 2 49 [some (.ref v0), some (.int v1), some (.int v2), some (.int v3), some (.int x1), some (.int x2)] [.int v1, .int x2] rfl ?_
          refine fs_ic_ne T 54 52 rfl rfl rfl (fun _ => ?_) (fun _ => ?_)
          · refine fs_r T 1 53 [some (.ref v0), some (.int v1), some (.int v2), some (.int v3), some (.int x1), some (.int x2)] [.int v3] rfl ?_
            exact fs_reti T rfl rfl rfl
          · refine fs_r T 2 2 [some (.ref v0), some (.int v1), some (.int v2), some (.int (v3 + 1)), some (.int x1), some (.int x2)] [] rfl ?_
            refine fs_wk (ls' := [some (.ref v0), some (.int v1), some (.int v2), some (.int (v3 + 1)), none, none]) ⟨rfl, rfl, rfl, rfl, trivial⟩ ?_
            exact ih _ _
        · refine fs_r T 2 2 [some (.ref v0), some (.int v1), some (.int v2), some (.int (v3 + 1)), some (.int x1), some (.int x2)] [] rfl ?_
          refine fs_wk (ls' := [some (.ref v0), some (.int v1), some (.int v2), some (.int (v3 + 1)), none, none]) ⟨rfl, rfl, rfl, rfl, trivial⟩ ?_
          exact ih _ _
def f_X12_linkOf (H : fm_H) (v0 : Nat) (v1 : Int32) (v2 : Int32) (m : fm_M) : Option (Int32 × fm_M) :=
  f_X12_linkOf_2 H v0 v1 v2 fm_N (0 : Int32) m
set_option maxRecDepth 10000 in
theorem q_X12_linkOf {G : pm_G} {H : fm_H} {d : Nat} {z : Option Nat × Nat × Nat} {v0 : Nat} {v1 : Int32} {v2 : Int32} {m : fm_M} (hE : fm_E G H) (h0 : fm_is H v0 12) : fm_cal G H (d + 2) yX12_linkOf [.ref v0, .int v1, .int v2] z m fm_rI (f_X12_linkOf H v0 v1 v2 m) := fm_mth (d := d + 1) mt_X12_linkOf rfl rfl rfl (fun K => by
  show fm_o fm_rI (f_X12_linkOf H v0 v1 v2 m) K → fm_V G H (d + 1) RX12 cX12_linkOf (some (.int)) z K 0 [some (.ref v0), some (.int v1), some (.int v2), none, none, none] [] m
  have T : fm_T RX12 cX12_linkOf tc_X12_linkOf fr_X12 mr_X12 cr_X12 lr_X12 := ⟨tok_X12, dc_X12_linkOf⟩
  unfold f_X12_linkOf
  refine fs_r T 2 2 [some (.ref v0), some (.int v1), some (.int v2), some (.int (0 : Int32)), none, none] [] rfl ?_
  exact w_X12_linkOf_2 hE h0 _ _ _)
def f_X12_parseLink_78 (H : fm_H) (v0 : Nat) (v1 : Int32) (v2 : Int32) (s0 : Int32) (s1 : Nat) (m : fm_M) : Option (Unit × fm_M) :=
  fm_bn (f_X12_require H s1 s0 (4 : Int32) m) fun _ m1 =>
  fm_bn (f_X12_advance H v0 m1) fun _ m2 =>
  fm_bn (f_X12_parseNumber H v0 (1 : Int32) (99 : Int32) m2) fun x3 m3 =>
  fm_bn (f_X12_parseNumber H v0 (1 : Int32) (9 : Int32) m3) fun x4 m4 =>
  fm_bn (f_X12_isFine H v0 m4) fun x5 m5 =>
  if x5 = 0 then
    some ((), m5)
  else
  fm_bn (f_X12_appendLink H v0 v1 v2 x3 x4 m5) fun x6 m6 =>
  some ((), m6)
set_option maxRecDepth 10000 in
theorem w_X12_parseLink_78 {G : pm_G} {H : fm_H} {d : Nat} {z : Option Nat × Nat × Nat} {K : pm_R → fm_M → Prop} (hE : fm_E G H) {v0 : Nat} {v1 : Int32} {v2 : Int32} (h0 : fm_is H v0 12) : ∀ (s0 : Int32) (s1 : Nat) (m : fm_M), fm_is H s1 12 → fm_o fm_rV (f_X12_parseLink_78 H v0 v1 v2 s0 s1 m) K → fm_V G H (d + 5) RX12 cX12_parseLink none z K 78 [some (.ref v0), some (.int v1), some (.int v2), none, none, none] [.int s0, .ref s1] m := by
  have T : fm_T RX12 cX12_parseLink tc_X12_parseLink fr_X12 mr_X12 cr_X12 lr_X12 := ⟨tok_X12, dc_X12_parseLink⟩
  intro s0 s1 m hs1
  unfold f_X12_parseLink_78
  refine fs_r T 1 79 [some (.ref v0), some (.int v1), some (.int v2), none, none, none] [.int (4 : Int32), .int s0, .ref s1] rfl ?_
  refine fs_vV T 82 rfl rfl rfl rfl rfl rfl hs1 (q_X12_require (d := d + 4) hE hs1) ?_
  intro x1 m1
  refine fs_r T 1 83 [some (.ref v0), some (.int v1), some (.int v2), none, none, none] [.ref v0] rfl ?_
  refine fs_vV T 86 rfl rfl rfl rfl rfl rfl h0 (q_X12_advance (d := d + 1) hE h0) ?_
  intro x2 m2
  refine fs_r T 3 90 [some (.ref v0), some (.int v1), some (.int v2), none, none, none] [.int (99 : Int32), .int (1 : Int32), .ref v0] rfl ?_
  refine fs_vI T 93 rfl rfl rfl rfl rfl rfl h0 (q_X12_parseNumber (d := d) hE h0) ?_
  intro x3 m3
  refine fs_r T 4 98 [some (.ref v0), some (.int v1), some (.int v2), some (.int x3), none, none] [.int (9 : Int32), .int (1 : Int32), .ref v0] rfl ?_
  refine fs_vI T 101 rfl rfl rfl rfl rfl rfl h0 (q_X12_parseNumber (d := d) hE h0) ?_
  intro x4 m4
  refine fs_r T 2 104 [some (.ref v0), some (.int v1), some (.int v2), some (.int x3), some (.int x4), none] [.ref v0] rfl ?_
  refine fs_vI T 107 rfl rfl rfl rfl rfl rfl h0 (q_X12_isFine (d := d + 4) hE h0) ?_
  intro x5 m5
  refine fs_if_eq T 121 110 rfl rfl rfl (fun _ => ?_) (fun _ => ?_)
  · exact fs_retv T rfl rfl rfl
  · refine fs_r T 5 116 [some (.ref v0), some (.int v1), some (.int v2), some (.int x3), some (.int x4), none] [.int x4, .int x3, .int v2, .int v1, .ref v0] rfl ?_
    refine fs_vI T 119 rfl rfl rfl rfl rfl rfl h0 (q_X12_appendLink (d := d + 4) hE h0) ?_
    intro x6 m6
    refine fs_r T 1 121 [some (.ref v0), some (.int v1), some (.int v2), some (.int x3), some (.int x4), some (.int x6)] [] rfl ?_
    exact fs_retv T rfl rfl rfl
def f_X12_parseLink_17 (H : fm_H) (v0 : Nat) (s0 : Int32) (s1 : Nat) (m : fm_M) : Option (Unit × fm_M) :=
  fm_bn (f_X12_require H s1 s0 (3 : Int32) m) fun _ m1 =>
  fm_bn (f_X12_advance H v0 m1) fun _ m2 =>
  if px_inb (2 : Int32) (fm_sz H (H.2.1 v0 0)) = true then
    fm_bn (f_X12_parseNumber H v0 (0 : Int32) (m2.1 (H.2.1 v0 0) (2 : Int32).toNatClampNeg - (1 : Int32)) m2) fun x3 m3 =>
    if px_inb (2 : Int32) (fm_sz H (H.2.1 v0 0)) = true then
      fm_bn (f_X12_look H v0 (0 : Int32) (m3.1 (H.2.1 v0 0) (2 : Int32).toNatClampNeg - (1 : Int32)) m3) fun _ m4 =>
      if x3 = m4.1 v0 14 then
        f_X12_parseLink_78 H v0 x3 (m4.1 v0 14) (0 : Int32) v0 m4
      else
      fm_bn (f_X12_linkOf H v0 x3 (m4.1 v0 14) m4) fun x5 m5 =>
      if x5 = (-1 : Int32) then
        f_X12_parseLink_78 H v0 x3 (m4.1 v0 14) (1 : Int32) v0 m5
      else
      f_X12_parseLink_78 H v0 x3 (m4.1 v0 14) (0 : Int32) v0 m5
    else none
  else none
set_option maxRecDepth 10000 in
theorem w_X12_parseLink_17 {G : pm_G} {H : fm_H} {d : Nat} {z : Option Nat × Nat × Nat} {K : pm_R → fm_M → Prop} (hE : fm_E G H) {v0 : Nat} (h0 : fm_is H v0 12) : ∀ (s0 : Int32) (s1 : Nat) (m : fm_M), fm_is H s1 12 → fm_o fm_rV (f_X12_parseLink_17 H v0 s0 s1 m) K → fm_V G H (d + 5) RX12 cX12_parseLink none z K 17 [some (.ref v0), none, none, none, none, none] [.int s0, .ref s1] m := by
  have T : fm_T RX12 cX12_parseLink tc_X12_parseLink fr_X12 mr_X12 cr_X12 lr_X12 := ⟨tok_X12, dc_X12_parseLink⟩
  intro s0 s1 m hs1
  unfold f_X12_parseLink_17
  refine fs_r T 1 18 [some (.ref v0), none, none, none, none, none] [.int (3 : Int32), .int s0, .ref s1] rfl ?_
  refine fs_vV T 21 rfl rfl rfl rfl rfl rfl hs1 (q_X12_require (d := d + 4) hE hs1) ?_
  intro x1 m1
  refine fs_r T 1 22 [some (.ref v0), none, none, none, none, none] [.ref v0] rfl ?_
  refine fs_vV T 25 rfl rfl rfl rfl rfl rfl h0 (q_X12_advance (d := d + 1) hE h0) ?_
  intro x2 m2
  refine fs_r T 3 28 [some (.ref v0), none, none, none, none, none] [.ref v0, .int (0 : Int32), .ref v0] rfl ?_
  refine fs_gs T 31 12 0 v0 rfl rfl rfl rfl h0 ?_
  refine fs_r T 1 32 [some (.ref v0), none, none, none, none, none] [.int (2 : Int32), .ref (H.2.1 v0 0), .int (0 : Int32), .ref v0] rfl ?_
  refine fs_ai T 33 (H.2.1 v0 0) rfl rfl (hE.1 _ 12 0 h0) ?_
  refine fs_r T 2 35 [some (.ref v0), none, none, none, none, none] [.int (m2.1 (H.2.1 v0 0) (2 : Int32).toNatClampNeg - (1 : Int32)), .int (0 : Int32), .ref v0] rfl ?_
  refine fs_vI T 38 rfl rfl rfl rfl rfl rfl h0 (q_X12_parseNumber (d := d) hE h0) ?_
  intro x3 m3
  refine fs_r T 4 42 [some (.ref v0), some (.int x3), none, none, none, none] [.ref v0, .int (0 : Int32), .ref v0] rfl ?_
  refine fs_gs T 45 12 0 v0 rfl rfl rfl rfl h0 ?_
  refine fs_r T 1 46 [some (.ref v0), some (.int x3), none, none, none, none] [.int (2 : Int32), .ref (H.2.1 v0 0), .int (0 : Int32), .ref v0] rfl ?_
  refine fs_ai T 47 (H.2.1 v0 0) rfl rfl (hE.1 _ 12 0 h0) ?_
  refine fs_r T 2 49 [some (.ref v0), some (.int x3), none, none, none, none] [.int (m3.1 (H.2.1 v0 0) (2 : Int32).toNatClampNeg - (1 : Int32)), .int (0 : Int32), .ref v0] rfl ?_
  refine fs_vV T 52 rfl rfl rfl rfl rfl rfl h0 (q_X12_look (d := d + 3) hE h0) ?_
  intro x4 m4
  refine fs_r T 1 53 [some (.ref v0), some (.int x3), none, none, none, none] [.ref v0] rfl ?_
  refine fs_gi T 56 12 14 v0 rfl rfl rfl rfl h0 ?_
  refine fs_r T 4 60 [some (.ref v0), some (.int x3), some (.int (m4.1 v0 14)), none, none, none] [.int (m4.1 v0 14), .int x3, .ref v0] rfl ?_
  refine fs_ic_eq T 77 63 rfl rfl rfl (fun _ => ?_) (fun _ => ?_)
  · refine fs_r T 1 78 [some (.ref v0), some (.int x3), some (.int (m4.1 v0 14)), none, none, none] [.int (0 : Int32), .ref v0] rfl ?_
    exact w_X12_parseLink_78 hE h0 _ _ _ h0
  · refine fs_r T 3 66 [some (.ref v0), some (.int x3), some (.int (m4.1 v0 14)), none, none, none] [.int (m4.1 v0 14), .int x3, .ref v0, .ref v0] rfl ?_
    refine fs_vI T 69 rfl rfl rfl rfl rfl rfl h0 (q_X12_linkOf (d := d + 3) hE h0) ?_
    intro x5 m5
    refine fs_r T 1 70 [some (.ref v0), some (.int x3), some (.int (m4.1 v0 14)), none, none, none] [.int (-1 : Int32), .int x5, .ref v0] rfl ?_
    refine fs_ic_ne T 77 73 rfl rfl rfl (fun _ => ?_) (fun _ => ?_)
    · refine fs_r T 2 78 [some (.ref v0), some (.int x3), some (.int (m4.1 v0 14)), none, none, none] [.int (1 : Int32), .ref v0] rfl ?_
      exact w_X12_parseLink_78 hE h0 _ _ _ h0
    · refine fs_r T 1 78 [some (.ref v0), some (.int x3), some (.int (m4.1 v0 14)), none, none, none] [.int (0 : Int32), .ref v0] rfl ?_
      exact w_X12_parseLink_78 hE h0 _ _ _ h0
def f_X12_parseLink (H : fm_H) (v0 : Nat) (m : fm_M) : Option (Unit × fm_M) :=
  if px_inb (3 : Int32) (fm_sz H (H.2.1 v0 0)) = true then
    if (16 : Int32) ≤ m.1 (H.2.1 v0 0) (3 : Int32).toNatClampNeg then
      f_X12_parseLink_17 H v0 (0 : Int32) v0 m
    else
    f_X12_parseLink_17 H v0 (1 : Int32) v0 m
  else none
set_option maxRecDepth 10000 in
theorem q_X12_parseLink {G : pm_G} {H : fm_H} {d : Nat} {z : Option Nat × Nat × Nat} {v0 : Nat} {m : fm_M} (hE : fm_E G H) (h0 : fm_is H v0 12) : fm_cal G H (d + 6) yX12_parseLink [.ref v0] z m fm_rV (f_X12_parseLink H v0 m) := fm_mth (d := d + 5) mt_X12_parseLink rfl rfl rfl (fun K => by
  show fm_o fm_rV (f_X12_parseLink H v0 m) K → fm_V G H (d + 5) RX12 cX12_parseLink none z K 0 [some (.ref v0), none, none, none, none, none] [] m
  have T : fm_T RX12 cX12_parseLink tc_X12_parseLink fr_X12 mr_X12 cr_X12 lr_X12 := ⟨tok_X12, dc_X12_parseLink⟩
  unfold f_X12_parseLink
  refine fs_r T 2 2 [some (.ref v0), none, none, none, none, none] [.ref v0, .ref v0] rfl ?_
  refine fs_gs T 5 12 0 v0 rfl rfl rfl rfl h0 ?_
  refine fs_r T 1 6 [some (.ref v0), none, none, none, none, none] [.int (3 : Int32), .ref (H.2.1 v0 0), .ref v0] rfl ?_
  refine fs_ai T 7 (H.2.1 v0 0) rfl rfl (hE.1 _ 12 0 h0) ?_
  refine fs_r T 1 9 [some (.ref v0), none, none, none, none, none] [.int (16 : Int32), .int (m.1 (H.2.1 v0 0) (3 : Int32).toNatClampNeg), .ref v0] rfl ?_
  refine fs_ic_ge T 16 12 rfl rfl rfl (fun _ => ?_) (fun _ => ?_)
  · refine fs_r T 1 17 [some (.ref v0), none, none, none, none, none] [.int (0 : Int32), .ref v0] rfl ?_
    exact w_X12_parseLink_17 hE h0 _ _ _ h0
  · refine fs_r T 2 17 [some (.ref v0), none, none, none, none, none] [.int (1 : Int32), .ref v0] rfl ?_
    exact w_X12_parseLink_17 hE h0 _ _ _ h0)
def f_X12_countLabels_197 (H : fm_H) (k5 : Int32 → Int32 → fm_M → Option (Int32 × fm_M)) (k19 : Int32 → Int32 → fm_M → Option (Int32 × fm_M)) (k37 : Int32 → Int32 → fm_M → Option (Int32 × fm_M)) (v0 : Nat) (v1 : Int32) (v2 : Int32) (v3 : Int32) (v4 : Int32) (v5 : Int32) (v6 : Int32) (v7 : Int32) (s0 : Int32) (m : fm_M) : Option (Int32 × fm_M) :=
  if s0 = 0 then
    k37 (v3 + (0 : Int32)) (v7 + 1) m
  else
  k37 (v3 + (1 : Int32)) (v7 + 1) m
set_option maxRecDepth 10000 in
theorem w_X12_countLabels_197 {G : pm_G} {H : fm_H} {d : Nat} {z : Option Nat × Nat × Nat} {K : pm_R → fm_M → Prop} (hE : fm_E G H) {k5 : Int32 → Int32 → fm_M → Option (Int32 × fm_M)} {k19 : Int32 → Int32 → fm_M → Option (Int32 × fm_M)} {k37 : Int32 → Int32 → fm_M → Option (Int32 × fm_M)} {v0 : Nat} {v1 : Int32} {v2 : Int32} {v3 : Int32} {v4 : Int32} {v5 : Int32} {v6 : Int32} {v7 : Int32} (Hk5 : ∀ (v3 : Int32) (v4 : Int32) (m : fm_M), fm_o fm_rI (k5 v3 v4 m) K → fm_V G H (d + 1) RX12 cX12_countLabels (some (.int)) z K 5 [some (.ref v0), some (.int v1), some (.int v2), some (.int v3), some (.int v4), none, none, none, none, none, none] [] m) (Hk19 : ∀ (v3 : Int32) (v5 : Int32) (m : fm_M), fm_o fm_rI (k19 v3 v5 m) K → fm_V G H (d + 1) RX12 cX12_countLabels (some (.int)) z K 19 [some (.ref v0), some (.int v1), some (.int v2), some (.int v3), some (.int v4), some (.int v5), none, none, none, none, none] [] m) (Hk37 : ∀ (v3 : Int32) (v7 : Int32) (m : fm_M), fm_o fm_rI (k37 v3 v7 m) K → fm_V G H (d + 1) RX12 cX12_countLabels (some (.int)) z K 37 [some (.ref v0), some (.int v1), some (.int v2), some (.int v3), some (.int v4), some (.int v5), some (.int v6), some (.int v7), none, none, none] [] m) (h0 : fm_is H v0 12) : ∀ (s0 : Int32) (m : fm_M), fm_o fm_rI (f_X12_countLabels_197 H k5 k19 k37 v0 v1 v2 v3 v4 v5 v6 v7 s0 m) K → fm_V G H (d + 1) RX12 cX12_countLabels (some (.int)) z K 197 [some (.ref v0), some (.int v1), some (.int v2), some (.int v3), some (.int v4), some (.int v5), some (.int v6), some (.int v7), none, none, none] [.int s0] m := by
  have T : fm_T RX12 cX12_countLabels tc_X12_countLabels fr_X12 mr_X12 cr_X12 lr_X12 := ⟨tok_X12, dc_X12_countLabels⟩
  intro s0 m
  unfold f_X12_countLabels_197
  refine fs_r T 3 202 [some (.ref v0), some (.int v1), some (.int v2), some (.int v3), some (.int v4), some (.int v5), some (.int v6), some (.int v7), none, none, some (.int s0)] [.int s0, .int v3] rfl ?_
  refine fs_if_eq T 209 205 rfl rfl rfl (fun _ => ?_) (fun _ => ?_)
  · refine fs_r T 5 37 [some (.ref v0), some (.int v1), some (.int v2), some (.int (v3 + (0 : Int32))), some (.int v4), some (.int v5), some (.int v6), some (.int (v7 + 1)), none, none, some (.int s0)] [] rfl ?_
    refine fs_wk (ls' := [some (.ref v0), some (.int v1), some (.int v2), some (.int (v3 + (0 : Int32))), some (.int v4), some (.int v5), some (.int v6), some (.int (v7 + 1)), none, none, none]) ⟨rfl, rfl, rfl, rfl, rfl, rfl, rfl, rfl, trivial⟩ ?_
    exact Hk37 _ _ _
  · refine fs_r T 6 37 [some (.ref v0), some (.int v1), some (.int v2), some (.int (v3 + (1 : Int32))), some (.int v4), some (.int v5), some (.int v6), some (.int (v7 + 1)), none, none, some (.int s0)] [] rfl ?_
    refine fs_wk (ls' := [some (.ref v0), some (.int v1), some (.int v2), some (.int (v3 + (1 : Int32))), some (.int v4), some (.int v5), some (.int v6), some (.int (v7 + 1)), none, none, none]) ⟨rfl, rfl, rfl, rfl, rfl, rfl, rfl, rfl, trivial⟩ ?_
    exact Hk37 _ _ _
def f_X12_countLabels_70 (H : fm_H) (k5 : Int32 → Int32 → fm_M → Option (Int32 × fm_M)) (k19 : Int32 → Int32 → fm_M → Option (Int32 × fm_M)) (k37 : Int32 → Int32 → fm_M → Option (Int32 × fm_M)) (v0 : Nat) (v1 : Int32) (v2 : Int32) (v3 : Int32) (v4 : Int32) (v5 : Int32) (v6 : Int32) (v7 : Int32) (s0 : Int32) (m : fm_M) : Option (Int32 × fm_M) :=
  if px_inb ((v6 + (7 : Int32)) + v7) (fm_sz H (H.2.1 v0 0)) = true then
    if v2 = 0 then
      if s0 = 0 then
        f_X12_countLabels_197 H k5 k19 k37 v0 v1 v2 v3 v4 v5 v6 v7 (0 : Int32) m
      else
      if m.1 (H.2.1 v0 0) ((v6 + (7 : Int32)) + v7).toNatClampNeg = v1 then
        f_X12_countLabels_197 H k5 k19 k37 v0 v1 v2 v3 v4 v5 v6 v7 (1 : Int32) m
      else
      f_X12_countLabels_197 H k5 k19 k37 v0 v1 v2 v3 v4 v5 v6 v7 (0 : Int32) m
    else
    if v2 = (1 : Int32) then
      if s0 = 0 then
        f_X12_countLabels_197 H k5 k19 k37 v0 v1 v2 v3 v4 v5 v6 v7 (0 : Int32) m
      else
      if m.1 (H.2.1 v0 0) ((v6 + (7 : Int32)) + v7).toNatClampNeg = v1 then
        f_X12_countLabels_197 H k5 k19 k37 v0 v1 v2 v3 v4 v5 v6 v7 (0 : Int32) m
      else
      if m.1 (H.2.1 v0 0) ((v6 + (7 : Int32)) + v7).toNatClampNeg = (-1 : Int32) then
        f_X12_countLabels_197 H k5 k19 k37 v0 v1 v2 v3 v4 v5 v6 v7 (0 : Int32) m
      else
      f_X12_countLabels_197 H k5 k19 k37 v0 v1 v2 v3 v4 v5 v6 v7 (1 : Int32) m
    else
    if v2 = (2 : Int32) then
      if s0 = 0 then
        f_X12_countLabels_197 H k5 k19 k37 v0 v1 v2 v3 v4 v5 v6 v7 (0 : Int32) m
      else
      if m.1 (H.2.1 v0 0) ((v6 + (7 : Int32)) + v7).toNatClampNeg = (-1 : Int32) then
        f_X12_countLabels_197 H k5 k19 k37 v0 v1 v2 v3 v4 v5 v6 v7 (0 : Int32) m
      else
      if px_inb ((v6 + (19 : Int32)) + v7) (fm_sz H (H.2.1 v0 0)) = true then
        if m.1 (H.2.1 v0 0) ((v6 + (19 : Int32)) + v7).toNatClampNeg = (1 : Int32) then
          f_X12_countLabels_197 H k5 k19 k37 v0 v1 v2 v3 v4 v5 v6 v7 (1 : Int32) m
        else
        f_X12_countLabels_197 H k5 k19 k37 v0 v1 v2 v3 v4 v5 v6 v7 (0 : Int32) m
      else none
    else
    if s0 = 0 then
      if m.1 (H.2.1 v0 0) ((v6 + (7 : Int32)) + v7).toNatClampNeg = v1 then
        f_X12_countLabels_197 H k5 k19 k37 v0 v1 v2 v3 v4 v5 v6 v7 (1 : Int32) m
      else
      f_X12_countLabels_197 H k5 k19 k37 v0 v1 v2 v3 v4 v5 v6 v7 (0 : Int32) m
    else
    f_X12_countLabels_197 H k5 k19 k37 v0 v1 v2 v3 v4 v5 v6 v7 (0 : Int32) m
  else none
set_option maxRecDepth 10000 in
theorem w_X12_countLabels_70 {G : pm_G} {H : fm_H} {d : Nat} {z : Option Nat × Nat × Nat} {K : pm_R → fm_M → Prop} (hE : fm_E G H) {k5 : Int32 → Int32 → fm_M → Option (Int32 × fm_M)} {k19 : Int32 → Int32 → fm_M → Option (Int32 × fm_M)} {k37 : Int32 → Int32 → fm_M → Option (Int32 × fm_M)} {v0 : Nat} {v1 : Int32} {v2 : Int32} {v3 : Int32} {v4 : Int32} {v5 : Int32} {v6 : Int32} {v7 : Int32} (Hk5 : ∀ (v3 : Int32) (v4 : Int32) (m : fm_M), fm_o fm_rI (k5 v3 v4 m) K → fm_V G H (d + 1) RX12 cX12_countLabels (some (.int)) z K 5 [some (.ref v0), some (.int v1), some (.int v2), some (.int v3), some (.int v4), none, none, none, none, none, none] [] m) (Hk19 : ∀ (v3 : Int32) (v5 : Int32) (m : fm_M), fm_o fm_rI (k19 v3 v5 m) K → fm_V G H (d + 1) RX12 cX12_countLabels (some (.int)) z K 19 [some (.ref v0), some (.int v1), some (.int v2), some (.int v3), some (.int v4), some (.int v5), none, none, none, none, none] [] m) (Hk37 : ∀ (v3 : Int32) (v7 : Int32) (m : fm_M), fm_o fm_rI (k37 v3 v7 m) K → fm_V G H (d + 1) RX12 cX12_countLabels (some (.int)) z K 37 [some (.ref v0), some (.int v1), some (.int v2), some (.int v3), some (.int v4), some (.int v5), some (.int v6), some (.int v7), none, none, none] [] m) (h0 : fm_is H v0 12) : ∀ (s0 : Int32) (m : fm_M), fm_o fm_rI (f_X12_countLabels_70 H k5 k19 k37 v0 v1 v2 v3 v4 v5 v6 v7 s0 m) K → fm_V G H (d + 1) RX12 cX12_countLabels (some (.int)) z K 70 [some (.ref v0), some (.int v1), some (.int v2), some (.int v3), some (.int v4), some (.int v5), some (.int v6), some (.int v7), none, none, none] [.int s0] m := by
  have T : fm_T RX12 cX12_countLabels tc_X12_countLabels fr_X12 mr_X12 cr_X12 lr_X12 := ⟨tok_X12, dc_X12_countLabels⟩
  intro s0 m
  unfold f_X12_countLabels_70
  refine fs_r T 2 73 [some (.ref v0), some (.int v1), some (.int v2), some (.int v3), some (.int v4), some (.int v5), some (.int v6), some (.int v7), some (.int s0), none, none] [.ref v0] rfl ?_
  refine fs_gs T 76 12 0 v0 rfl rfl rfl rfl h0 ?_
  refine fs_r T 5 84 [some (.ref v0), some (.int v1), some (.int v2), some (.int v3), some (.int v4), some (.int v5), some (.int v6), some (.int v7), some (.int s0), none, none] [.int ((v6 + (7 : Int32)) + v7), .ref (H.2.1 v0 0)] rfl ?_
  refine fs_ai T 85 (H.2.1 v0 0) rfl rfl (hE.1 _ 12 0 h0) ?_
  refine fs_r T 2 88 [some (.ref v0), some (.int v1), some (.int v2), some (.int v3), some (.int v4), some (.int v5), some (.int v6), some (.int v7), some (.int s0), some (.int (m.1 (H.2.1 v0 0) ((v6 + (7 : Int32)) + v7).toNatClampNeg)), none] [.int v2] rfl ?_
  refine fs_if_ne T 110 91 rfl rfl rfl (fun _ => ?_) (fun _ => ?_)
  · refine fs_r T 1 93 [some (.ref v0), some (.int v1), some (.int v2), some (.int v3), some (.int v4), some (.int v5), some (.int v6), some (.int v7), some (.int s0), some (.int (m.1 (H.2.1 v0 0) ((v6 + (7 : Int32)) + v7).toNatClampNeg)), none] [.int s0] rfl ?_
    refine fs_if_eq T 106 96 rfl rfl rfl (fun _ => ?_) (fun _ => ?_)
    · refine fs_r T 2 197 [some (.ref v0), some (.int v1), some (.int v2), some (.int v3), some (.int v4), some (.int v5), some (.int v6), some (.int v7), some (.int s0), some (.int (m.1 (H.2.1 v0 0) ((v6 + (7 : Int32)) + v7).toNatClampNeg)), none] [.int (0 : Int32)] rfl ?_
      refine fs_wk (ls' := [some (.ref v0), some (.int v1), some (.int v2), some (.int v3), some (.int v4), some (.int v5), some (.int v6), some (.int v7), none, none, none]) ⟨rfl, rfl, rfl, rfl, rfl, rfl, rfl, rfl, trivial⟩ ?_
      exact w_X12_countLabels_197 hE Hk5 Hk19 Hk37 h0 _ _
    · refine fs_r T 2 99 [some (.ref v0), some (.int v1), some (.int v2), some (.int v3), some (.int v4), some (.int v5), some (.int v6), some (.int v7), some (.int s0), some (.int (m.1 (H.2.1 v0 0) ((v6 + (7 : Int32)) + v7).toNatClampNeg)), none] [.int v1, .int (m.1 (H.2.1 v0 0) ((v6 + (7 : Int32)) + v7).toNatClampNeg)] rfl ?_
      refine fs_ic_ne T 106 102 rfl rfl rfl (fun _ => ?_) (fun _ => ?_)
      · refine fs_r T 2 197 [some (.ref v0), some (.int v1), some (.int v2), some (.int v3), some (.int v4), some (.int v5), some (.int v6), some (.int v7), some (.int s0), some (.int (m.1 (H.2.1 v0 0) ((v6 + (7 : Int32)) + v7).toNatClampNeg)), none] [.int (1 : Int32)] rfl ?_
        refine fs_wk (ls' := [some (.ref v0), some (.int v1), some (.int v2), some (.int v3), some (.int v4), some (.int v5), some (.int v6), some (.int v7), none, none, none]) ⟨rfl, rfl, rfl, rfl, rfl, rfl, rfl, rfl, trivial⟩ ?_
        exact w_X12_countLabels_197 hE Hk5 Hk19 Hk37 h0 _ _
      · refine fs_r T 2 197 [some (.ref v0), some (.int v1), some (.int v2), some (.int v3), some (.int v4), some (.int v5), some (.int v6), some (.int v7), some (.int s0), some (.int (m.1 (H.2.1 v0 0) ((v6 + (7 : Int32)) + v7).toNatClampNeg)), none] [.int (0 : Int32)] rfl ?_
        refine fs_wk (ls' := [some (.ref v0), some (.int v1), some (.int v2), some (.int v3), some (.int v4), some (.int v5), some (.int v6), some (.int v7), none, none, none]) ⟨rfl, rfl, rfl, rfl, rfl, rfl, rfl, rfl, trivial⟩ ?_
        exact w_X12_countLabels_197 hE Hk5 Hk19 Hk37 h0 _ _
  · refine fs_r T 2 112 [some (.ref v0), some (.int v1), some (.int v2), some (.int v3), some (.int v4), some (.int v5), some (.int v6), some (.int v7), some (.int s0), some (.int (m.1 (H.2.1 v0 0) ((v6 + (7 : Int32)) + v7).toNatClampNeg)), none] [.int (1 : Int32), .int v2] rfl ?_
    refine fs_ic_ne T 140 115 rfl rfl rfl (fun _ => ?_) (fun _ => ?_)
    · refine fs_r T 1 117 [some (.ref v0), some (.int v1), some (.int v2), some (.int v3), some (.int v4), some (.int v5), some (.int v6), some (.int v7), some (.int s0), some (.int (m.1 (H.2.1 v0 0) ((v6 + (7 : Int32)) + v7).toNatClampNeg)), none] [.int s0] rfl ?_
      refine fs_if_eq T 136 120 rfl rfl rfl (fun _ => ?_) (fun _ => ?_)
      · refine fs_r T 2 197 [some (.ref v0), some (.int v1), some (.int v2), some (.int v3), some (.int v4), some (.int v5), some (.int v6), some (.int v7), some (.int s0), some (.int (m.1 (H.2.1 v0 0) ((v6 + (7 : Int32)) + v7).toNatClampNeg)), none] [.int (0 : Int32)] rfl ?_
        refine fs_wk (ls' := [some (.ref v0), some (.int v1), some (.int v2), some (.int v3), some (.int v4), some (.int v5), some (.int v6), some (.int v7), none, none, none]) ⟨rfl, rfl, rfl, rfl, rfl, rfl, rfl, rfl, trivial⟩ ?_
        exact w_X12_countLabels_197 hE Hk5 Hk19 Hk37 h0 _ _
      · refine fs_r T 2 123 [some (.ref v0), some (.int v1), some (.int v2), some (.int v3), some (.int v4), some (.int v5), some (.int v6), some (.int v7), some (.int s0), some (.int (m.1 (H.2.1 v0 0) ((v6 + (7 : Int32)) + v7).toNatClampNeg)), none] [.int v1, .int (m.1 (H.2.1 v0 0) ((v6 + (7 : Int32)) + v7).toNatClampNeg)] rfl ?_
        refine fs_ic_eq T 136 126 rfl rfl rfl (fun _ => ?_) (fun _ => ?_)
        · refine fs_r T 2 197 [some (.ref v0), some (.int v1), some (.int v2), some (.int v3), some (.int v4), some (.int v5), some (.int v6), some (.int v7), some (.int s0), some (.int (m.1 (H.2.1 v0 0) ((v6 + (7 : Int32)) + v7).toNatClampNeg)), none] [.int (0 : Int32)] rfl ?_
          refine fs_wk (ls' := [some (.ref v0), some (.int v1), some (.int v2), some (.int v3), some (.int v4), some (.int v5), some (.int v6), some (.int v7), none, none, none]) ⟨rfl, rfl, rfl, rfl, rfl, rfl, rfl, rfl, trivial⟩ ?_
          exact w_X12_countLabels_197 hE Hk5 Hk19 Hk37 h0 _ _
        · refine fs_r T 2 129 [some (.ref v0), some (.int v1), some (.int v2), some (.int v3), some (.int v4), some (.int v5), some (.int v6), some (.int v7), some (.int s0), some (.int (m.1 (H.2.1 v0 0) ((v6 + (7 : Int32)) + v7).toNatClampNeg)), none] [.int (-1 : Int32), .int (m.1 (H.2.1 v0 0) ((v6 + (7 : Int32)) + v7).toNatClampNeg)] rfl ?_
          refine fs_ic_eq T 136 132 rfl rfl rfl (fun _ => ?_) (fun _ => ?_)
          · refine fs_r T 2 197 [some (.ref v0), some (.int v1), some (.int v2), some (.int v3), some (.int v4), some (.int v5), some (.int v6), some (.int v7), some (.int s0), some (.int (m.1 (H.2.1 v0 0) ((v6 + (7 : Int32)) + v7).toNatClampNeg)), none] [.int (0 : Int32)] rfl ?_
            refine fs_wk (ls' := [some (.ref v0), some (.int v1), some (.int v2), some (.int v3), some (.int v4), some (.int v5), some (.int v6), some (.int v7), none, none, none]) ⟨rfl, rfl, rfl, rfl, rfl, rfl, rfl, rfl, trivial⟩ ?_
            exact w_X12_countLabels_197 hE Hk5 Hk19 Hk37 h0 _ _
          · refine fs_r T 2 197 [some (.ref v0), some (.int v1), some (.int v2), some (.int v3), some (.int v4), some (.int v5), some (.int v6), some (.int v7), some (.int s0), some (.int (m.1 (H.2.1 v0 0) ((v6 + (7 : Int32)) + v7).toNatClampNeg)), none] [.int (1 : Int32)] rfl ?_
            refine fs_wk (ls' := [some (.ref v0), some (.int v1), some (.int v2), some (.int v3), some (.int v4), some (.int v5), some (.int v6), some (.int v7), none, none, none]) ⟨rfl, rfl, rfl, rfl, rfl, rfl, rfl, rfl, trivial⟩ ?_
            exact w_X12_countLabels_197 hE Hk5 Hk19 Hk37 h0 _ _
    · refine fs_r T 2 142 [some (.ref v0), some (.int v1), some (.int v2), some (.int v3), some (.int v4), some (.int v5), some (.int v6), some (.int v7), some (.int s0), some (.int (m.1 (H.2.1 v0 0) ((v6 + (7 : Int32)) + v7).toNatClampNeg)), none] [.int (2 : Int32), .int v2] rfl ?_
      refine fs_ic_ne T 181 145 rfl rfl rfl (fun _ => ?_) (fun _ => ?_)
      · refine fs_r T 1 147 [some (.ref v0), some (.int v1), some (.int v2), some (.int v3), some (.int v4), some (.int v5), some (.int v6), some (.int v7), some (.int s0), some (.int (m.1 (H.2.1 v0 0) ((v6 + (7 : Int32)) + v7).toNatClampNeg)), none] [.int s0] rfl ?_
        refine fs_if_eq T 177 150 rfl rfl rfl (fun _ => ?_) (fun _ => ?_)
        · refine fs_r T 2 197 [some (.ref v0), some (.int v1), some (.int v2), some (.int v3), some (.int v4), some (.int v5), some (.int v6), some (.int v7), some (.int s0), some (.int (m.1 (H.2.1 v0 0) ((v6 + (7 : Int32)) + v7).toNatClampNeg)), none] [.int (0 : Int32)] rfl ?_
          refine fs_wk (ls' := [some (.ref v0), some (.int v1), some (.int v2), some (.int v3), some (.int v4), some (.int v5), some (.int v6), some (.int v7), none, none, none]) ⟨rfl, rfl, rfl, rfl, rfl, rfl, rfl, rfl, trivial⟩ ?_
          exact w_X12_countLabels_197 hE Hk5 Hk19 Hk37 h0 _ _
        · refine fs_r T 2 153 [some (.ref v0), some (.int v1), some (.int v2), some (.int v3), some (.int v4), some (.int v5), some (.int v6), some (.int v7), some (.int s0), some (.int (m.1 (H.2.1 v0 0) ((v6 + (7 : Int32)) + v7).toNatClampNeg)), none] [.int (-1 : Int32), .int (m.1 (H.2.1 v0 0) ((v6 + (7 : Int32)) + v7).toNatClampNeg)] rfl ?_
          refine fs_ic_eq T 177 156 rfl rfl rfl (fun _ => ?_) (fun _ => ?_)
          · refine fs_r T 2 197 [some (.ref v0), some (.int v1), some (.int v2), some (.int v3), some (.int v4), some (.int v5), some (.int v6), some (.int v7), some (.int s0), some (.int (m.1 (H.2.1 v0 0) ((v6 + (7 : Int32)) + v7).toNatClampNeg)), none] [.int (0 : Int32)] rfl ?_
            refine fs_wk (ls' := [some (.ref v0), some (.int v1), some (.int v2), some (.int v3), some (.int v4), some (.int v5), some (.int v6), some (.int v7), none, none, none]) ⟨rfl, rfl, rfl, rfl, rfl, rfl, rfl, rfl, trivial⟩ ?_
            exact w_X12_countLabels_197 hE Hk5 Hk19 Hk37 h0 _ _
          · refine fs_r T 1 157 [some (.ref v0), some (.int v1), some (.int v2), some (.int v3), some (.int v4), some (.int v5), some (.int v6), some (.int v7), some (.int s0), some (.int (m.1 (H.2.1 v0 0) ((v6 + (7 : Int32)) + v7).toNatClampNeg)), none] [.ref v0] rfl ?_
            refine fs_gs T 160 12 0 v0 rfl rfl rfl rfl h0 ?_
            refine fs_r T 5 168 [some (.ref v0), some (.int v1), some (.int v2), some (.int v3), some (.int v4), some (.int v5), some (.int v6), some (.int v7), some (.int s0), some (.int (m.1 (H.2.1 v0 0) ((v6 + (7 : Int32)) + v7).toNatClampNeg)), none] [.int ((v6 + (19 : Int32)) + v7), .ref (H.2.1 v0 0)] rfl ?_
            refine fs_ai T 169 (H.2.1 v0 0) rfl rfl (hE.1 _ 12 0 h0) ?_
            refine fs_r T 1 170 [some (.ref v0), some (.int v1), some (.int v2), some (.int v3), some (.int v4), some (.int v5), some (.int v6), some (.int v7), some (.int s0), some (.int (m.1 (H.2.1 v0 0) ((v6 + (7 : Int32)) + v7).toNatClampNeg)), none] [.int (1 : Int32), .int (m.1 (H.2.1 v0 0) ((v6 + (19 : Int32)) + v7).toNatClampNeg)] rfl ?_
            refine fs_ic_ne T 177 173 rfl rfl rfl (fun _ => ?_) (fun _ => ?_)
            · refine fs_r T 2 197 [some (.ref v0), some (.int v1), some (.int v2), some (.int v3), some (.int v4), some (.int v5), some (.int v6), some (.int v7), some (.int s0), some (.int (m.1 (H.2.1 v0 0) ((v6 + (7 : Int32)) + v7).toNatClampNeg)), none] [.int (1 : Int32)] rfl ?_
              refine fs_wk (ls' := [some (.ref v0), some (.int v1), some (.int v2), some (.int v3), some (.int v4), some (.int v5), some (.int v6), some (.int v7), none, none, none]) ⟨rfl, rfl, rfl, rfl, rfl, rfl, rfl, rfl, trivial⟩ ?_
              exact w_X12_countLabels_197 hE Hk5 Hk19 Hk37 h0 _ _
            · refine fs_r T 2 197 [some (.ref v0), some (.int v1), some (.int v2), some (.int v3), some (.int v4), some (.int v5), some (.int v6), some (.int v7), some (.int s0), some (.int (m.1 (H.2.1 v0 0) ((v6 + (7 : Int32)) + v7).toNatClampNeg)), none] [.int (0 : Int32)] rfl ?_
              refine fs_wk (ls' := [some (.ref v0), some (.int v1), some (.int v2), some (.int v3), some (.int v4), some (.int v5), some (.int v6), some (.int v7), none, none, none]) ⟨rfl, rfl, rfl, rfl, rfl, rfl, rfl, rfl, trivial⟩ ?_
              exact w_X12_countLabels_197 hE Hk5 Hk19 Hk37 h0 _ _
      · refine fs_r T 1 183 [some (.ref v0), some (.int v1), some (.int v2), some (.int v3), some (.int v4), some (.int v5), some (.int v6), some (.int v7), some (.int s0), some (.int (m.1 (H.2.1 v0 0) ((v6 + (7 : Int32)) + v7).toNatClampNeg)), none] [.int s0] rfl ?_
        refine fs_if_ne T 196 186 rfl rfl rfl (fun _ => ?_) (fun _ => ?_)
        · refine fs_r T 2 189 [some (.ref v0), some (.int v1), some (.int v2), some (.int v3), some (.int v4), some (.int v5), some (.int v6), some (.int v7), some (.int s0), some (.int (m.1 (H.2.1 v0 0) ((v6 + (7 : Int32)) + v7).toNatClampNeg)), none] [.int v1, .int (m.1 (H.2.1 v0 0) ((v6 + (7 : Int32)) + v7).toNatClampNeg)] rfl ?_
          refine fs_ic_ne T 196 192 rfl rfl rfl (fun _ => ?_) (fun _ => ?_)
          · refine fs_r T 2 197 [some (.ref v0), some (.int v1), some (.int v2), some (.int v3), some (.int v4), some (.int v5), some (.int v6), some (.int v7), some (.int s0), some (.int (m.1 (H.2.1 v0 0) ((v6 + (7 : Int32)) + v7).toNatClampNeg)), none] [.int (1 : Int32)] rfl ?_
            refine fs_wk (ls' := [some (.ref v0), some (.int v1), some (.int v2), some (.int v3), some (.int v4), some (.int v5), some (.int v6), some (.int v7), none, none, none]) ⟨rfl, rfl, rfl, rfl, rfl, rfl, rfl, rfl, trivial⟩ ?_
            exact w_X12_countLabels_197 hE Hk5 Hk19 Hk37 h0 _ _
          · refine fs_r T 1 197 [some (.ref v0), some (.int v1), some (.int v2), some (.int v3), some (.int v4), some (.int v5), some (.int v6), some (.int v7), some (.int s0), some (.int (m.1 (H.2.1 v0 0) ((v6 + (7 : Int32)) + v7).toNatClampNeg)), none] [.int (0 : Int32)] rfl ?_
            refine fs_wk (ls' := [some (.ref v0), some (.int v1), some (.int v2), some (.int v3), some (.int v4), some (.int v5), some (.int v6), some (.int v7), none, none, none]) ⟨rfl, rfl, rfl, rfl, rfl, rfl, rfl, rfl, trivial⟩ ?_
            exact w_X12_countLabels_197 hE Hk5 Hk19 Hk37 h0 _ _
        · refine fs_r T 1 197 [some (.ref v0), some (.int v1), some (.int v2), some (.int v3), some (.int v4), some (.int v5), some (.int v6), some (.int v7), some (.int s0), some (.int (m.1 (H.2.1 v0 0) ((v6 + (7 : Int32)) + v7).toNatClampNeg)), none] [.int (0 : Int32)] rfl ?_
          refine fs_wk (ls' := [some (.ref v0), some (.int v1), some (.int v2), some (.int v3), some (.int v4), some (.int v5), some (.int v6), some (.int v7), none, none, none]) ⟨rfl, rfl, rfl, rfl, rfl, rfl, rfl, rfl, trivial⟩ ?_
          exact w_X12_countLabels_197 hE Hk5 Hk19 Hk37 h0 _ _
def f_X12_countLabels_37 (H : fm_H) (k5 : Int32 → Int32 → fm_M → Option (Int32 × fm_M)) (k19 : Int32 → Int32 → fm_M → Option (Int32 × fm_M)) (v0 : Nat) (v1 : Int32) (v2 : Int32) (v4 : Int32) (v5 : Int32) (v6 : Int32) : Nat → Int32 → Int32 → fm_M → Option (Int32 × fm_M)
  | 0, _, _, _ => none
  | n + 1, v3, v7, m =>
    if px_inb v6 (fm_sz H (H.2.1 v0 0)) = true then
      if m.1 (H.2.1 v0 0) v6.toNatClampNeg ≤ v7 then
        k19 v3 (v5 + 1) m
      else
      if px_inb ((v6 + (1 : Int32)) + v7) (fm_sz H (H.2.1 v0 0)) = true then
        if m.1 (H.2.1 v0 0) ((v6 + (1 : Int32)) + v7).toNatClampNeg = v1 then
          f_X12_countLabels_70 H k5 k19 (f_X12_countLabels_37 H k5 k19 v0 v1 v2 v4 v5 v6 n) v0 v1 v2 v3 v4 v5 v6 v7 (1 : Int32) m
        else
        f_X12_countLabels_70 H k5 k19 (f_X12_countLabels_37 H k5 k19 v0 v1 v2 v4 v5 v6 n) v0 v1 v2 v3 v4 v5 v6 v7 (0 : Int32) m
      else none
    else none
set_option maxRecDepth 10000 in
theorem w_X12_countLabels_37 {G : pm_G} {H : fm_H} {d : Nat} {z : Option Nat × Nat × Nat} {K : pm_R → fm_M → Prop} (hE : fm_E G H) {k5 : Int32 → Int32 → fm_M → Option (Int32 × fm_M)} {k19 : Int32 → Int32 → fm_M → Option (Int32 × fm_M)} {v0 : Nat} {v1 : Int32} {v2 : Int32} {v4 : Int32} {v5 : Int32} {v6 : Int32} (Hk5 : ∀ (v3 : Int32) (v4 : Int32) (m : fm_M), fm_o fm_rI (k5 v3 v4 m) K → fm_V G H (d + 1) RX12 cX12_countLabels (some (.int)) z K 5 [some (.ref v0), some (.int v1), some (.int v2), some (.int v3), some (.int v4), none, none, none, none, none, none] [] m) (Hk19 : ∀ (v3 : Int32) (v5 : Int32) (m : fm_M), fm_o fm_rI (k19 v3 v5 m) K → fm_V G H (d + 1) RX12 cX12_countLabels (some (.int)) z K 19 [some (.ref v0), some (.int v1), some (.int v2), some (.int v3), some (.int v4), some (.int v5), none, none, none, none, none] [] m) (h0 : fm_is H v0 12) : ∀ (n : Nat) (v3 : Int32) (v7 : Int32) (m : fm_M), fm_o fm_rI (f_X12_countLabels_37 H k5 k19 v0 v1 v2 v4 v5 v6 n v3 v7 m) K → fm_V G H (d + 1) RX12 cX12_countLabels (some (.int)) z K 37 [some (.ref v0), some (.int v1), some (.int v2), some (.int v3), some (.int v4), some (.int v5), some (.int v6), some (.int v7), none, none, none] [] m := by
  have T : fm_T RX12 cX12_countLabels tc_X12_countLabels fr_X12 mr_X12 cr_X12 lr_X12 := ⟨tok_X12, dc_X12_countLabels⟩
  intro n
  induction n with
  | zero =>
    intro v3 v7 m 
    exact fs_none
  | succ n ih =>
    intro v3 v7 m 
    unfold f_X12_countLabels_37
    refine fs_r T 2 40 [some (.ref v0), some (.int v1), some (.int v2), some (.int v3), some (.int v4), some (.int v5), some (.int v6), some (.int v7), none, none, none] [.ref v0, .int v7] rfl ?_
    refine fs_gs T 43 12 0 v0 rfl rfl rfl rfl h0 ?_
    refine fs_r T 1 45 [some (.ref v0), some (.int v1), some (.int v2), some (.int v3), some (.int v4), some (.int v5), some (.int v6), some (.int v7), none, none, none] [.int v6, .ref (H.2.1 v0 0), .int v7] rfl ?_
    refine fs_ai T 46 (H.2.1 v0 0) rfl rfl (hE.1 _ 12 0 h0) ?_
    refine fs_ic_ge T 218 49 rfl rfl rfl (fun _ => ?_) (fun _ => ?_)
    · refine fs_r T 2 19 [some (.ref v0), some (.int v1), some (.int v2), some (.int v3), some (.int v4), some (.int (v5 + 1)), some (.int v6), some (.int v7), none, none, none] [] rfl ?_
      refine fs_wk (ls' := [some (.ref v0), some (.int v1), some (.int v2), some (.int v3), some (.int v4), some (.int (v5 + 1)), none, none, none, none, none]) ⟨rfl, rfl, rfl, rfl, rfl, rfl, trivial⟩ ?_
      exact Hk19 _ _ _
    · refine fs_r T 1 50 [some (.ref v0), some (.int v1), some (.int v2), some (.int v3), some (.int v4), some (.int v5), some (.int v6), some (.int v7), none, none, none] [.ref v0] rfl ?_
      refine fs_gs T 53 12 0 v0 rfl rfl rfl rfl h0 ?_
      refine fs_r T 5 60 [some (.ref v0), some (.int v1), some (.int v2), some (.int v3), some (.int v4), some (.int v5), some (.int v6), some (.int v7), none, none, none] [.int ((v6 + (1 : Int32)) + v7), .ref (H.2.1 v0 0)] rfl ?_
      refine fs_ai T 61 (H.2.1 v0 0) rfl rfl (hE.1 _ 12 0 h0) ?_
      refine fs_r T 1 62 [some (.ref v0), some (.int v1), some (.int v2), some (.int v3), some (.int v4), some (.int v5), some (.int v6), some (.int v7), none, none, none] [.int v1, .int (m.1 (H.2.1 v0 0) ((v6 + (1 : Int32)) + v7).toNatClampNeg)] rfl ?_
      refine fs_ic_ne T 69 65 rfl rfl rfl (fun _ => ?_) (fun _ => ?_)
      · refine fs_r T 2 70 [some (.ref v0), some (.int v1), some (.int v2), some (.int v3), some (.int v4), some (.int v5), some (.int v6), some (.int v7), none, none, none] [.int (1 : Int32)] rfl ?_
        exact w_X12_countLabels_70 hE Hk5 Hk19 ih h0 _ _
      · refine fs_r T 1 70 [some (.ref v0), some (.int v1), some (.int v2), some (.int v3), some (.int v4), some (.int v5), some (.int v6), some (.int v7), none, none, none] [.int (0 : Int32)] rfl ?_
        exact w_X12_countLabels_70 hE Hk5 Hk19 ih h0 _ _
def f_X12_countLabels_19 (H : fm_H) (k5 : Int32 → Int32 → fm_M → Option (Int32 × fm_M)) (v0 : Nat) (v1 : Int32) (v2 : Int32) (v4 : Int32) : Nat → Int32 → Int32 → fm_M → Option (Int32 × fm_M)
  | 0, _, _, _ => none
  | n + 1, v3, v5, m =>
    if (2 : Int32) ≤ v5 then
      k5 v3 (v4 + 1) m
    else
    fm_bn (f_X12_wayPlace H v4 v5 m) fun x1 m1 =>
    f_X12_countLabels_37 H k5 (f_X12_countLabels_19 H k5 v0 v1 v2 v4 n) v0 v1 v2 v4 v5 x1 fm_N v3 (1 : Int32) m1
set_option maxRecDepth 10000 in
theorem w_X12_countLabels_19 {G : pm_G} {H : fm_H} {d : Nat} {z : Option Nat × Nat × Nat} {K : pm_R → fm_M → Prop} (hE : fm_E G H) {k5 : Int32 → Int32 → fm_M → Option (Int32 × fm_M)} {v0 : Nat} {v1 : Int32} {v2 : Int32} {v4 : Int32} (Hk5 : ∀ (v3 : Int32) (v4 : Int32) (m : fm_M), fm_o fm_rI (k5 v3 v4 m) K → fm_V G H (d + 1) RX12 cX12_countLabels (some (.int)) z K 5 [some (.ref v0), some (.int v1), some (.int v2), some (.int v3), some (.int v4), none, none, none, none, none, none] [] m) (h0 : fm_is H v0 12) : ∀ (n : Nat) (v3 : Int32) (v5 : Int32) (m : fm_M), fm_o fm_rI (f_X12_countLabels_19 H k5 v0 v1 v2 v4 n v3 v5 m) K → fm_V G H (d + 1) RX12 cX12_countLabels (some (.int)) z K 19 [some (.ref v0), some (.int v1), some (.int v2), some (.int v3), some (.int v4), some (.int v5), none, none, none, none, none] [] m := by
  have T : fm_T RX12 cX12_countLabels tc_X12_countLabels fr_X12 mr_X12 cr_X12 lr_X12 := ⟨tok_X12, dc_X12_countLabels⟩
  intro n
  induction n with
  | zero =>
    intro v3 v5 m 
    exact fs_none
  | succ n ih =>
    intro v3 v5 m 
    unfold f_X12_countLabels_19
    refine fs_r T 2 22 [some (.ref v0), some (.int v1), some (.int v2), some (.int v3), some (.int v4), some (.int v5), none, none, none, none, none] [.int (2 : Int32), .int v5] rfl ?_
    refine fs_ic_ge T 224 25 rfl rfl rfl (fun _ => ?_) (fun _ => ?_)
    · refine fs_r T 2 5 [some (.ref v0), some (.int v1), some (.int v2), some (.int v3), some (.int (v4 + 1)), some (.int v5), none, none, none, none, none] [] rfl ?_
      refine fs_wk (ls' := [some (.ref v0), some (.int v1), some (.int v2), some (.int v3), some (.int (v4 + 1)), none, none, none, none, none, none]) ⟨rfl, rfl, rfl, rfl, rfl, trivial⟩ ?_
      exact Hk5 _ _ _
    · refine fs_r T 2 29 [some (.ref v0), some (.int v1), some (.int v2), some (.int v3), some (.int v4), some (.int v5), none, none, none, none, none] [.int v5, .int v4] rfl ?_
      refine fs_sI T 32 rfl rfl rfl rfl rfl rfl rfl (q_X12_wayPlace (d := d) hE ) ?_
      intro x1 m1
      refine fs_r T 3 37 [some (.ref v0), some (.int v1), some (.int v2), some (.int v3), some (.int v4), some (.int v5), some (.int x1), some (.int (1 : Int32)), none, none, none] [] rfl ?_
      exact w_X12_countLabels_37 hE Hk5 ih h0 _ _ _ _
def f_X12_countLabels_5 (H : fm_H) (v0 : Nat) (v1 : Int32) (v2 : Int32) : Nat → Int32 → Int32 → fm_M → Option (Int32 × fm_M)
  | 0, _, _, _ => none
  | n + 1, v3, v4, m =>
    if px_inb (4 : Int32) (fm_sz H (H.2.1 v0 0)) = true then
      if m.1 (H.2.1 v0 0) (4 : Int32).toNatClampNeg ≤ v4 then
        some (v3, m)
      else
      f_X12_countLabels_19 H (f_X12_countLabels_5 H v0 v1 v2 n) v0 v1 v2 v4 fm_N v3 (0 : Int32) m
    else none
set_option maxRecDepth 10000 in
theorem w_X12_countLabels_5 {G : pm_G} {H : fm_H} {d : Nat} {z : Option Nat × Nat × Nat} {K : pm_R → fm_M → Prop} (hE : fm_E G H) {v0 : Nat} {v1 : Int32} {v2 : Int32} (h0 : fm_is H v0 12) : ∀ (n : Nat) (v3 : Int32) (v4 : Int32) (m : fm_M), fm_o fm_rI (f_X12_countLabels_5 H v0 v1 v2 n v3 v4 m) K → fm_V G H (d + 1) RX12 cX12_countLabels (some (.int)) z K 5 [some (.ref v0), some (.int v1), some (.int v2), some (.int v3), some (.int v4), none, none, none, none, none, none] [] m := by
  have T : fm_T RX12 cX12_countLabels tc_X12_countLabels fr_X12 mr_X12 cr_X12 lr_X12 := ⟨tok_X12, dc_X12_countLabels⟩
  intro n
  induction n with
  | zero =>
    intro v3 v4 m 
    exact fs_none
  | succ n ih =>
    intro v3 v4 m 
    unfold f_X12_countLabels_5
    refine fs_r T 2 8 [some (.ref v0), some (.int v1), some (.int v2), some (.int v3), some (.int v4), none, none, none, none, none, none] [.ref v0, .int v4] rfl ?_
    refine fs_gs T 11 12 0 v0 rfl rfl rfl rfl h0 ?_
    refine fs_r T 1 12 [some (.ref v0), some (.int v1), some (.int v2), some (.int v3), some (.int v4), none, none, none, none, none, none] [.int (4 : Int32), .ref (H.2.1 v0 0), .int v4] rfl ?_
    refine fs_ai T 13 (H.2.1 v0 0) rfl rfl (hE.1 _ 12 0 h0) ?_
    refine fs_ic_ge T 230 16 rfl rfl rfl (fun _ => ?_) (fun _ => ?_)
    · refine fs_r T 1 231 [some (.ref v0), some (.int v1), some (.int v2), some (.int v3), some (.int v4), none, none, none, none, none, none] [.int v3] rfl ?_
      exact fs_reti T rfl rfl rfl
    · refine fs_r T 2 19 [some (.ref v0), some (.int v1), some (.int v2), some (.int v3), some (.int v4), some (.int (0 : Int32)), none, none, none, none, none] [] rfl ?_
      exact w_X12_countLabels_19 hE ih h0 _ _ _ _
def f_X12_countLabels (H : fm_H) (v0 : Nat) (v1 : Int32) (v2 : Int32) (m : fm_M) : Option (Int32 × fm_M) :=
  f_X12_countLabels_5 H v0 v1 v2 fm_N (0 : Int32) (0 : Int32) m
set_option maxRecDepth 10000 in
theorem q_X12_countLabels {G : pm_G} {H : fm_H} {d : Nat} {z : Option Nat × Nat × Nat} {v0 : Nat} {v1 : Int32} {v2 : Int32} {m : fm_M} (hE : fm_E G H) (h0 : fm_is H v0 12) : fm_cal G H (d + 2) yX12_countLabels [.ref v0, .int v1, .int v2] z m fm_rI (f_X12_countLabels H v0 v1 v2 m) := fm_mth (d := d + 1) mt_X12_countLabels rfl rfl rfl (fun K => by
  show fm_o fm_rI (f_X12_countLabels H v0 v1 v2 m) K → fm_V G H (d + 1) RX12 cX12_countLabels (some (.int)) z K 0 [some (.ref v0), some (.int v1), some (.int v2), none, none, none, none, none, none, none, none] [] m
  have T : fm_T RX12 cX12_countLabels tc_X12_countLabels fr_X12 mr_X12 cr_X12 lr_X12 := ⟨tok_X12, dc_X12_countLabels⟩
  unfold f_X12_countLabels
  refine fs_r T 4 5 [some (.ref v0), some (.int v1), some (.int v2), some (.int (0 : Int32)), some (.int (0 : Int32)), none, none, none, none, none, none] [] rfl ?_
  exact w_X12_countLabels_5 hE h0 _ _ _ _)
