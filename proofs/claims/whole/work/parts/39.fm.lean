/-! functions out of the code -/
def f_X12_hasRoom (H : fm_H) (v0 : Nat) (v1 : Int32) (v2 : Int32) (v3 : Int32) (m : fm_M) : Option (Int32 × fm_M) :=
  fm_bn (f_X12_ofLink H v0 v1 (4 : Int32) m) fun x1 m1 =>
  if x1 = (1 : Int32) then
    fm_bn (f_X12_reserved H v0 v1 v2 m1) fun x2 m2 =>
    fm_bn (f_X12_ofLink H v0 v1 (2 : Int32) m2) fun x3 m3 =>
    if x3 < (x2 + v3) then
      some ((0 : Int32), m3)
    else
    some ((1 : Int32), m3)
  else
  some ((0 : Int32), m1)
set_option maxRecDepth 10000 in
theorem q_X12_hasRoom {G : pm_G} {H : fm_H} {d : Nat} {z : Option Nat × Nat × Nat} {v0 : Nat} {v1 : Int32} {v2 : Int32} {v3 : Int32} {m : fm_M} (hE : fm_E G H) (h0 : fm_is H v0 12) : fm_cal G H (d + 5) yX12_hasRoom [.ref v0, .int v1, .int v2, .int v3] z m fm_rI (f_X12_hasRoom H v0 v1 v2 v3 m) := fm_mth (d := d + 4) mt_X12_hasRoom rfl rfl rfl (fun K => by
  show fm_o fm_rI (f_X12_hasRoom H v0 v1 v2 v3 m) K → fm_V G H (d + 4) RX12 cX12_hasRoom (some (.boolean)) z K 0 [some (.ref v0), some (.int v1), some (.int v2), some (.int v3)] [] m
  have T : fm_T RX12 cX12_hasRoom tc_X12_hasRoom fr_X12 mr_X12 cr_X12 lr_X12 := ⟨tok_X12, dc_X12_hasRoom⟩
  unfold f_X12_hasRoom
  refine fs_r T 3 3 [some (.ref v0), some (.int v1), some (.int v2), some (.int v3)] [.int (4 : Int32), .int v1, .ref v0] rfl ?_
  refine fs_vI T 6 rfl rfl rfl rfl rfl rfl h0 (q_X12_ofLink (d := d + 3) hE h0) ?_
  intro x1 m1
  refine fs_r T 1 7 [some (.ref v0), some (.int v1), some (.int v2), some (.int v3)] [.int (1 : Int32), .int x1] rfl ?_
  refine fs_ic_ne T 31 10 rfl rfl rfl (fun _ => ?_) (fun _ => ?_)
  · refine fs_r T 3 13 [some (.ref v0), some (.int v1), some (.int v2), some (.int v3)] [.int v2, .int v1, .ref v0] rfl ?_
    refine fs_vI T 16 rfl rfl rfl rfl rfl rfl h0 (q_X12_reserved (d := d) hE h0) ?_
    intro x2 m2
    refine fs_r T 5 21 [some (.ref v0), some (.int v1), some (.int v2), some (.int v3)] [.int (2 : Int32), .int v1, .ref v0, .int (x2 + v3)] rfl ?_
    refine fs_vI T 24 rfl rfl rfl rfl rfl rfl h0 (q_X12_ofLink (d := d + 3) hE h0) ?_
    intro x3 m3
    refine fs_ic_gt T 31 27 rfl rfl rfl (fun _ => ?_) (fun _ => ?_)
    · refine fs_r T 1 32 [some (.ref v0), some (.int v1), some (.int v2), some (.int v3)] [.int (0 : Int32)] rfl ?_
      exact fs_retc T rfl rfl rfl rfl
    · refine fs_r T 2 32 [some (.ref v0), some (.int v1), some (.int v2), some (.int v3)] [.int (1 : Int32)] rfl ?_
      exact fs_retc T rfl rfl rfl rfl
  · refine fs_r T 1 32 [some (.ref v0), some (.int v1), some (.int v2), some (.int v3)] [.int (0 : Int32)] rfl ?_
    exact fs_retc T rfl rfl rfl rfl)
def f_X12_parseWayNode_125 (H : fm_H) (v0 : Nat) (v1 : Int32) (v4 : Int32) (s0 : Int32) (s1 : Nat) (m : fm_M) : Option (Unit × fm_M) :=
  fm_bn (f_X12_require H s1 s0 (5 : Int32) m) fun _ m1 =>
  fm_bn (f_X12_isFine H v0 m1) fun x2 m2 =>
  if x2 = 0 then
    fm_bn (f_X12_require H v0 (1 : Int32) (5 : Int32) m2) fun _ m3 =>
    fm_bn (f_X12_advance H v0 m3) fun _ m4 =>
    some ((), m4)
  else
  fm_bn (f_X12_appendToWay H v0 v1 (0 : Int32) v4 (1 : Int32) m2) fun x5 m5 =>
  if x5 = 0 then
    fm_bn (f_X12_require H v0 (0 : Int32) (5 : Int32) m5) fun _ m6 =>
    fm_bn (f_X12_advance H v0 m6) fun _ m7 =>
    some ((), m7)
  else
  fm_bn (f_X12_require H v0 (1 : Int32) (5 : Int32) m5) fun _ m8 =>
  fm_bn (f_X12_advance H v0 m8) fun _ m9 =>
  some ((), m9)
set_option maxRecDepth 10000 in
theorem w_X12_parseWayNode_125 {G : pm_G} {H : fm_H} {d : Nat} {z : Option Nat × Nat × Nat} {K : pm_R → fm_M → Prop} (hE : fm_E G H) {v0 : Nat} {v1 : Int32} {v4 : Int32} (h0 : fm_is H v0 12) : ∀ (s0 : Int32) (s1 : Nat) (m : fm_M), fm_is H s1 12 → fm_o fm_rV (f_X12_parseWayNode_125 H v0 v1 v4 s0 s1 m) K → fm_V G H (d + 5) RX12 cX12_parseWayNode none z K 125 [some (.ref v0), some (.int v1), none, none, some (.int v4)] [.int s0, .ref s1] m := by
  have T : fm_T RX12 cX12_parseWayNode tc_X12_parseWayNode fr_X12 mr_X12 cr_X12 lr_X12 := ⟨tok_X12, dc_X12_parseWayNode⟩
  intro s0 s1 m hs1
  unfold f_X12_parseWayNode_125
  refine fs_r T 1 126 [some (.ref v0), some (.int v1), none, none, some (.int v4)] [.int (5 : Int32), .int s0, .ref s1] rfl ?_
  refine fs_vV T 129 rfl rfl rfl rfl rfl rfl hs1 (q_X12_require (d := d + 4) hE hs1) ?_
  intro x1 m1
  refine fs_r T 2 131 [some (.ref v0), some (.int v1), none, none, some (.int v4)] [.ref v0, .ref v0] rfl ?_
  refine fs_vI T 134 rfl rfl rfl rfl rfl rfl h0 (q_X12_isFine (d := d + 4) hE h0) ?_
  intro x2 m2
  refine fs_if_eq T 149 137 rfl rfl rfl (fun _ => ?_) (fun _ => ?_)
  · refine fs_r T 3 155 [some (.ref v0), some (.int v1), none, none, some (.int v4)] [.int (5 : Int32), .int (1 : Int32), .ref v0] rfl ?_
    refine fs_vV T 158 rfl rfl rfl rfl rfl rfl h0 (q_X12_require (d := d + 4) hE h0) ?_
    intro x3 m3
    refine fs_r T 1 159 [some (.ref v0), some (.int v1), none, none, some (.int v4)] [.ref v0] rfl ?_
    refine fs_vV T 162 rfl rfl rfl rfl rfl rfl h0 (q_X12_advance (d := d + 1) hE h0) ?_
    intro x4 m4
    exact fs_retv T rfl rfl rfl
  · refine fs_r T 5 143 [some (.ref v0), some (.int v1), none, none, some (.int v4)] [.int (1 : Int32), .int v4, .int (0 : Int32), .int v1, .ref v0, .ref v0] rfl ?_
    refine fs_vI T 146 rfl rfl rfl rfl rfl rfl h0 (q_X12_appendToWay (d := d) hE h0) ?_
    intro x5 m5
    refine fs_if_eq T 153 149 rfl rfl rfl (fun _ => ?_) (fun _ => ?_)
    · refine fs_r T 2 155 [some (.ref v0), some (.int v1), none, none, some (.int v4)] [.int (5 : Int32), .int (0 : Int32), .ref v0] rfl ?_
      refine fs_vV T 158 rfl rfl rfl rfl rfl rfl h0 (q_X12_require (d := d + 4) hE h0) ?_
      intro x6 m6
      refine fs_r T 1 159 [some (.ref v0), some (.int v1), none, none, some (.int v4)] [.ref v0] rfl ?_
      refine fs_vV T 162 rfl rfl rfl rfl rfl rfl h0 (q_X12_advance (d := d + 1) hE h0) ?_
      intro x7 m7
      exact fs_retv T rfl rfl rfl
    · refine fs_r T 3 155 [some (.ref v0), some (.int v1), none, none, some (.int v4)] [.int (5 : Int32), .int (1 : Int32), .ref v0] rfl ?_
      refine fs_vV T 158 rfl rfl rfl rfl rfl rfl h0 (q_X12_require (d := d + 4) hE h0) ?_
      intro x8 m8
      refine fs_r T 1 159 [some (.ref v0), some (.int v1), none, none, some (.int v4)] [.ref v0] rfl ?_
      refine fs_vV T 162 rfl rfl rfl rfl rfl rfl h0 (q_X12_advance (d := d + 1) hE h0) ?_
      intro x9 m9
      exact fs_retv T rfl rfl rfl
def f_X12_parseWayNode_72 (H : fm_H) (v0 : Nat) (v1 : Int32) (v2 : Int32) (v3 : Int32) (v4 : Int32) (s0 : Int32) (s1 : Nat) (m : fm_M) : Option (Unit × fm_M) :=
  fm_bn (f_X12_require H s1 s0 (4 : Int32) m) fun _ m1 =>
  fm_bn (f_X12_isFine H v0 m1) fun x2 m2 =>
  if x2 = 0 then
    f_X12_parseWayNode_125 H v0 v1 v4 (1 : Int32) v0 m2
  else
  if v3 = 0 then
    f_X12_parseWayNode_125 H v0 v1 v4 (1 : Int32) v0 m2
  else
  if px_inb (((v2 + (1 : Int32)) + v3) - (1 : Int32)) (fm_sz H (H.2.1 v0 0)) = true then
    fm_bn (f_X12_linkOf H v0 (m2.1 (H.2.1 v0 0) (((v2 + (1 : Int32)) + v3) - (1 : Int32)).toNatClampNeg) v4 m2) fun x3 m3 =>
    fm_bn (f_X12_of H v0 v1 (0 : Int32) m3) fun x4 m4 =>
    fm_bn (f_X12_hasRoom H v0 x3 v1 x4 m4) fun x5 m5 =>
    if x5 = 0 then
      f_X12_parseWayNode_125 H v0 v1 v4 (0 : Int32) v0 m5
    else
    f_X12_parseWayNode_125 H v0 v1 v4 (1 : Int32) v0 m5
  else none
set_option maxRecDepth 10000 in
theorem w_X12_parseWayNode_72 {G : pm_G} {H : fm_H} {d : Nat} {z : Option Nat × Nat × Nat} {K : pm_R → fm_M → Prop} (hE : fm_E G H) {v0 : Nat} {v1 : Int32} {v2 : Int32} {v3 : Int32} {v4 : Int32} (h0 : fm_is H v0 12) : ∀ (s0 : Int32) (s1 : Nat) (m : fm_M), fm_is H s1 12 → fm_o fm_rV (f_X12_parseWayNode_72 H v0 v1 v2 v3 v4 s0 s1 m) K → fm_V G H (d + 5) RX12 cX12_parseWayNode none z K 72 [some (.ref v0), some (.int v1), some (.int v2), some (.int v3), some (.int v4)] [.int s0, .ref s1] m := by
  have T : fm_T RX12 cX12_parseWayNode tc_X12_parseWayNode fr_X12 mr_X12 cr_X12 lr_X12 := ⟨tok_X12, dc_X12_parseWayNode⟩
  intro s0 s1 m hs1
  unfold f_X12_parseWayNode_72
  refine fs_r T 1 73 [some (.ref v0), some (.int v1), some (.int v2), some (.int v3), some (.int v4)] [.int (4 : Int32), .int s0, .ref s1] rfl ?_
  refine fs_vV T 76 rfl rfl rfl rfl rfl rfl hs1 (q_X12_require (d := d + 4) hE hs1) ?_
  intro x1 m1
  refine fs_r T 2 78 [some (.ref v0), some (.int v1), some (.int v2), some (.int v3), some (.int v4)] [.ref v0, .ref v0] rfl ?_
  refine fs_vI T 81 rfl rfl rfl rfl rfl rfl h0 (q_X12_isFine (d := d + 4) hE h0) ?_
  intro x2 m2
  refine fs_if_eq T 120 84 rfl rfl rfl (fun _ => ?_) (fun _ => ?_)
  · refine fs_r T 2 125 [some (.ref v0), some (.int v1), some (.int v2), some (.int v3), some (.int v4)] [.int (1 : Int32), .ref v0] rfl ?_
    refine fs_wk (ls' := [some (.ref v0), some (.int v1), none, none, some (.int v4)]) ⟨rfl, rfl, rfl, trivial⟩ ?_
    exact w_X12_parseWayNode_125 hE h0 _ _ _ h0
  · refine fs_r T 1 85 [some (.ref v0), some (.int v1), some (.int v2), some (.int v3), some (.int v4)] [.int v3, .ref v0] rfl ?_
    refine fs_if_eq T 120 88 rfl rfl rfl (fun _ => ?_) (fun _ => ?_)
    · refine fs_r T 2 125 [some (.ref v0), some (.int v1), some (.int v2), some (.int v3), some (.int v4)] [.int (1 : Int32), .ref v0] rfl ?_
      refine fs_wk (ls' := [some (.ref v0), some (.int v1), none, none, some (.int v4)]) ⟨rfl, rfl, rfl, trivial⟩ ?_
      exact w_X12_parseWayNode_125 hE h0 _ _ _ h0
    · refine fs_r T 3 91 [some (.ref v0), some (.int v1), some (.int v2), some (.int v3), some (.int v4)] [.ref v0, .ref v0, .ref v0, .ref v0] rfl ?_
      refine fs_gs T 94 12 0 v0 rfl rfl rfl rfl h0 ?_
      refine fs_r T 7 101 [some (.ref v0), some (.int v1), some (.int v2), some (.int v3), some (.int v4)] [.int (((v2 + (1 : Int32)) + v3) - (1 : Int32)), .ref (H.2.1 v0 0), .ref v0, .ref v0, .ref v0] rfl ?_
      refine fs_ai T 102 (H.2.1 v0 0) rfl rfl (hE.1 _ 12 0 h0) ?_
      refine fs_r T 1 104 [some (.ref v0), some (.int v1), some (.int v2), some (.int v3), some (.int v4)] [.int v4, .int (m2.1 (H.2.1 v0 0) (((v2 + (1 : Int32)) + v3) - (1 : Int32)).toNatClampNeg), .ref v0, .ref v0, .ref v0] rfl ?_
      refine fs_vI T 107 rfl rfl rfl rfl rfl rfl h0 (q_X12_linkOf (d := d + 3) hE h0) ?_
      intro x3 m3
      refine fs_r T 4 111 [some (.ref v0), some (.int v1), some (.int v2), some (.int v3), some (.int v4)] [.int (0 : Int32), .int v1, .ref v0, .int v1, .int x3, .ref v0, .ref v0] rfl ?_
      refine fs_vI T 114 rfl rfl rfl rfl rfl rfl h0 (q_X12_of (d := d + 4) hE h0) ?_
      intro x4 m4
      refine fs_vI T 117 rfl rfl rfl rfl rfl rfl h0 (q_X12_hasRoom (d := d) hE h0) ?_
      intro x5 m5
      refine fs_if_eq T 124 120 rfl rfl rfl (fun _ => ?_) (fun _ => ?_)
      · refine fs_r T 1 125 [some (.ref v0), some (.int v1), some (.int v2), some (.int v3), some (.int v4)] [.int (0 : Int32), .ref v0] rfl ?_
        refine fs_wk (ls' := [some (.ref v0), some (.int v1), none, none, some (.int v4)]) ⟨rfl, rfl, rfl, trivial⟩ ?_
        exact w_X12_parseWayNode_125 hE h0 _ _ _ h0
      · refine fs_r T 2 125 [some (.ref v0), some (.int v1), some (.int v2), some (.int v3), some (.int v4)] [.int (1 : Int32), .ref v0] rfl ?_
        refine fs_wk (ls' := [some (.ref v0), some (.int v1), none, none, some (.int v4)]) ⟨rfl, rfl, rfl, trivial⟩ ?_
        exact w_X12_parseWayNode_125 hE h0 _ _ _ h0
def f_X12_parseWayNode_38 (H : fm_H) (v0 : Nat) (v1 : Int32) (v2 : Int32) (v3 : Int32) (s0 : Int32) (s1 : Nat) (m : fm_M) : Option (Unit × fm_M) :=
  fm_bn (f_X12_require H s1 s0 (3 : Int32) m) fun _ m1 =>
  fm_bn (f_X12_isFine H v0 m1) fun x2 m2 =>
  if x2 = 0 then
    f_X12_parseWayNode_72 H v0 v1 v2 v3 (m1.1 v0 14) (1 : Int32) v0 m2
  else
  fm_bn (f_X12_canFollow H v0 v2 v3 (m1.1 v0 14) m2) fun x3 m3 =>
  if x3 = 0 then
    f_X12_parseWayNode_72 H v0 v1 v2 v3 (m1.1 v0 14) (0 : Int32) v0 m3
  else
  f_X12_parseWayNode_72 H v0 v1 v2 v3 (m1.1 v0 14) (1 : Int32) v0 m3
set_option maxRecDepth 10000 in
theorem w_X12_parseWayNode_38 {G : pm_G} {H : fm_H} {d : Nat} {z : Option Nat × Nat × Nat} {K : pm_R → fm_M → Prop} (hE : fm_E G H) {v0 : Nat} {v1 : Int32} {v2 : Int32} {v3 : Int32} (h0 : fm_is H v0 12) : ∀ (s0 : Int32) (s1 : Nat) (m : fm_M), fm_is H s1 12 → fm_o fm_rV (f_X12_parseWayNode_38 H v0 v1 v2 v3 s0 s1 m) K → fm_V G H (d + 5) RX12 cX12_parseWayNode none z K 38 [some (.ref v0), some (.int v1), some (.int v2), some (.int v3), none] [.int s0, .ref s1] m := by
  have T : fm_T RX12 cX12_parseWayNode tc_X12_parseWayNode fr_X12 mr_X12 cr_X12 lr_X12 := ⟨tok_X12, dc_X12_parseWayNode⟩
  intro s0 s1 m hs1
  unfold f_X12_parseWayNode_38
  refine fs_r T 1 39 [some (.ref v0), some (.int v1), some (.int v2), some (.int v3), none] [.int (3 : Int32), .int s0, .ref s1] rfl ?_
  refine fs_vV T 42 rfl rfl rfl rfl rfl rfl hs1 (q_X12_require (d := d + 4) hE hs1) ?_
  intro x1 m1
  refine fs_r T 1 43 [some (.ref v0), some (.int v1), some (.int v2), some (.int v3), none] [.ref v0] rfl ?_
  refine fs_gi T 46 12 14 v0 rfl rfl rfl rfl h0 ?_
  refine fs_r T 3 50 [some (.ref v0), some (.int v1), some (.int v2), some (.int v3), some (.int (m1.1 v0 14))] [.ref v0, .ref v0] rfl ?_
  refine fs_vI T 53 rfl rfl rfl rfl rfl rfl h0 (q_X12_isFine (d := d + 4) hE h0) ?_
  intro x2 m2
  refine fs_if_eq T 67 56 rfl rfl rfl (fun _ => ?_) (fun _ => ?_)
  · refine fs_r T 2 72 [some (.ref v0), some (.int v1), some (.int v2), some (.int v3), some (.int (m1.1 v0 14))] [.int (1 : Int32), .ref v0] rfl ?_
    exact w_X12_parseWayNode_72 hE h0 _ _ _ h0
  · refine fs_r T 4 61 [some (.ref v0), some (.int v1), some (.int v2), some (.int v3), some (.int (m1.1 v0 14))] [.int (m1.1 v0 14), .int v3, .int v2, .ref v0, .ref v0] rfl ?_
    refine fs_vI T 64 rfl rfl rfl rfl rfl rfl h0 (q_X12_canFollow (d := d + 2) hE h0) ?_
    intro x3 m3
    refine fs_if_eq T 71 67 rfl rfl rfl (fun _ => ?_) (fun _ => ?_)
    · refine fs_r T 1 72 [some (.ref v0), some (.int v1), some (.int v2), some (.int v3), some (.int (m1.1 v0 14))] [.int (0 : Int32), .ref v0] rfl ?_
      exact w_X12_parseWayNode_72 hE h0 _ _ _ h0
    · refine fs_r T 2 72 [some (.ref v0), some (.int v1), some (.int v2), some (.int v3), some (.int (m1.1 v0 14))] [.int (1 : Int32), .ref v0] rfl ?_
      exact w_X12_parseWayNode_72 hE h0 _ _ _ h0
def f_X12_parseWayNode (H : fm_H) (v0 : Nat) (v1 : Int32) (m : fm_M) : Option (Unit × fm_M) :=
  fm_bn (f_X12_wayPlace H v1 (0 : Int32) m) fun x1 m1 =>
  if px_inb x1 (fm_sz H (H.2.1 v0 0)) = true then
    if px_inb (2 : Int32) (fm_sz H (H.2.1 v0 0)) = true then
      fm_bn (f_X12_look H v0 (0 : Int32) (m1.1 (H.2.1 v0 0) (2 : Int32).toNatClampNeg - (1 : Int32)) m1) fun _ m2 =>
      if (6 : Int32) ≤ m1.1 (H.2.1 v0 0) x1.toNatClampNeg then
        f_X12_parseWayNode_38 H v0 v1 x1 (m1.1 (H.2.1 v0 0) x1.toNatClampNeg) (0 : Int32) v0 m2
      else
      f_X12_parseWayNode_38 H v0 v1 x1 (m1.1 (H.2.1 v0 0) x1.toNatClampNeg) (1 : Int32) v0 m2
    else none
  else none
set_option maxRecDepth 10000 in
theorem q_X12_parseWayNode {G : pm_G} {H : fm_H} {d : Nat} {z : Option Nat × Nat × Nat} {v0 : Nat} {v1 : Int32} {m : fm_M} (hE : fm_E G H) (h0 : fm_is H v0 12) : fm_cal G H (d + 6) yX12_parseWayNode [.ref v0, .int v1] z m fm_rV (f_X12_parseWayNode H v0 v1 m) := fm_mth (d := d + 5) mt_X12_parseWayNode rfl rfl rfl (fun K => by
  show fm_o fm_rV (f_X12_parseWayNode H v0 v1 m) K → fm_V G H (d + 5) RX12 cX12_parseWayNode none z K 0 [some (.ref v0), some (.int v1), none, none, none] [] m
  have T : fm_T RX12 cX12_parseWayNode tc_X12_parseWayNode fr_X12 mr_X12 cr_X12 lr_X12 := ⟨tok_X12, dc_X12_parseWayNode⟩
  unfold f_X12_parseWayNode
  refine fs_r T 2 2 [some (.ref v0), some (.int v1), none, none, none] [.int (0 : Int32), .int v1] rfl ?_
  refine fs_sI T 5 rfl rfl rfl rfl rfl rfl rfl (q_X12_wayPlace (d := d + 4) hE ) ?_
  intro x1 m1
  refine fs_r T 2 7 [some (.ref v0), some (.int v1), some (.int x1), none, none] [.ref v0] rfl ?_
  refine fs_gs T 10 12 0 v0 rfl rfl rfl rfl h0 ?_
  refine fs_r T 1 11 [some (.ref v0), some (.int v1), some (.int x1), none, none] [.int x1, .ref (H.2.1 v0 0)] rfl ?_
  refine fs_ai T 12 (H.2.1 v0 0) rfl rfl (hE.1 _ 12 0 h0) ?_
  refine fs_r T 4 16 [some (.ref v0), some (.int v1), some (.int x1), some (.int (m1.1 (H.2.1 v0 0) x1.toNatClampNeg)), none] [.ref v0, .int (0 : Int32), .ref v0] rfl ?_
  refine fs_gs T 19 12 0 v0 rfl rfl rfl rfl h0 ?_
  refine fs_r T 1 20 [some (.ref v0), some (.int v1), some (.int x1), some (.int (m1.1 (H.2.1 v0 0) x1.toNatClampNeg)), none] [.int (2 : Int32), .ref (H.2.1 v0 0), .int (0 : Int32), .ref v0] rfl ?_
  refine fs_ai T 21 (H.2.1 v0 0) rfl rfl (hE.1 _ 12 0 h0) ?_
  refine fs_r T 2 23 [some (.ref v0), some (.int v1), some (.int x1), some (.int (m1.1 (H.2.1 v0 0) x1.toNatClampNeg)), none] [.int (m1.1 (H.2.1 v0 0) (2 : Int32).toNatClampNeg - (1 : Int32)), .int (0 : Int32), .ref v0] rfl ?_
  refine fs_vV T 26 rfl rfl rfl rfl rfl rfl h0 (q_X12_look (d := d + 3) hE h0) ?_
  intro x2 m2
  refine fs_r T 3 30 [some (.ref v0), some (.int v1), some (.int x1), some (.int (m1.1 (H.2.1 v0 0) x1.toNatClampNeg)), none] [.int (6 : Int32), .int (m1.1 (H.2.1 v0 0) x1.toNatClampNeg), .ref v0] rfl ?_
  refine fs_ic_ge T 37 33 rfl rfl rfl (fun _ => ?_) (fun _ => ?_)
  · refine fs_r T 1 38 [some (.ref v0), some (.int v1), some (.int x1), some (.int (m1.1 (H.2.1 v0 0) x1.toNatClampNeg)), none] [.int (0 : Int32), .ref v0] rfl ?_
    exact w_X12_parseWayNode_38 hE h0 _ _ _ h0
  · refine fs_r T 2 38 [some (.ref v0), some (.int v1), some (.int x1), some (.int (m1.1 (H.2.1 v0 0) x1.toNatClampNeg)), none] [.int (1 : Int32), .ref v0] rfl ?_
    exact w_X12_parseWayNode_38 hE h0 _ _ _ h0)
def f_X12_appendCircuit_10 (H : fm_H) (v0 : Nat) (v1 : Int32) (v2 : Int32) (v3 : Int32) : Nat → Int32 → fm_M → Option (Int32 × fm_M)
  | 0, _, _ => none
  | n + 1, v4, m =>
    if (66 : Int32) ≤ v4 then
      fm_bn (f_X12_put H v0 v3 (0 : Int32) v1 m) fun _ m1 =>
      fm_bn (f_X12_put H v0 v3 (1 : Int32) v2 m1) fun _ m2 =>
      fm_bn (f_X12_put H v0 v3 (10 : Int32) (-1 : Int32) m2) fun _ m3 =>
      if px_inb (4 : Int32) (fm_sz H (H.2.1 v0 0)) = true then
        if px_inb (4 : Int32) (fm_sz H (H.2.1 v0 0)) = true then
          (fm_bd (fm_si m3 (H.2.1 v0 0) (4 : Int32).toNatClampNeg (m3.1 (H.2.1 v0 0) (4 : Int32).toNatClampNeg + (1 : Int32))) fun m4 =>
          some (v3, m4))
        else none
      else none
    else
    fm_bn (f_X12_put H v0 v3 v4 (0 : Int32) m) fun _ m5 =>
    f_X12_appendCircuit_10 H v0 v1 v2 v3 n (v4 + 1) m5
set_option maxRecDepth 10000 in
theorem w_X12_appendCircuit_10 {G : pm_G} {H : fm_H} {d : Nat} {z : Option Nat × Nat × Nat} {K : pm_R → fm_M → Prop} (hE : fm_E G H) {v0 : Nat} {v1 : Int32} {v2 : Int32} {v3 : Int32} (h0 : fm_is H v0 12) : ∀ (n : Nat) (v4 : Int32) (m : fm_M), fm_o fm_rI (f_X12_appendCircuit_10 H v0 v1 v2 v3 n v4 m) K → fm_V G H (d + 1) RX12 cX12_appendCircuit (some (.int)) z K 10 [some (.ref v0), some (.int v1), some (.int v2), some (.int v3), some (.int v4)] [] m := by
  have T : fm_T RX12 cX12_appendCircuit tc_X12_appendCircuit fr_X12 mr_X12 cr_X12 lr_X12 := ⟨tok_X12, dc_X12_appendCircuit⟩
  intro n
  induction n with
  | zero =>
    intro v4 m 
    exact fs_none
  | succ n ih =>
    intro v4 m 
    unfold f_X12_appendCircuit_10
    refine fs_r T 2 14 [some (.ref v0), some (.int v1), some (.int v2), some (.int v3), some (.int v4)] [.int (66 : Int32), .int v4] rfl ?_
    refine fs_ic_ge T 31 17 rfl rfl rfl (fun _ => ?_) (fun _ => ?_)
    · refine fs_r T 4 35 [some (.ref v0), some (.int v1), some (.int v2), some (.int v3), some (.int v4)] [.int v1, .int (0 : Int32), .int v3, .ref v0] rfl ?_
      refine fs_vV T 38 rfl rfl rfl rfl rfl rfl h0 (q_X12_put (d := d) hE h0) ?_
      intro x1 m1
      refine fs_r T 4 42 [some (.ref v0), some (.int v1), some (.int v2), some (.int v3), some (.int v4)] [.int v2, .int (1 : Int32), .int v3, .ref v0] rfl ?_
      refine fs_vV T 45 rfl rfl rfl rfl rfl rfl h0 (q_X12_put (d := d) hE h0) ?_
      intro x2 m2
      refine fs_r T 4 50 [some (.ref v0), some (.int v1), some (.int v2), some (.int v3), some (.int v4)] [.int (-1 : Int32), .int (10 : Int32), .int v3, .ref v0] rfl ?_
      refine fs_vV T 53 rfl rfl rfl rfl rfl rfl h0 (q_X12_put (d := d) hE h0) ?_
      intro x3 m3
      refine fs_r T 1 54 [some (.ref v0), some (.int v1), some (.int v2), some (.int v3), some (.int v4)] [.ref v0] rfl ?_
      refine fs_gs T 57 12 0 v0 rfl rfl rfl rfl h0 ?_
      refine fs_r T 2 59 [some (.ref v0), some (.int v1), some (.int v2), some (.int v3), some (.int v4)] [.int (4 : Int32), .ref (H.2.1 v0 0), .int (4 : Int32), .ref (H.2.1 v0 0)] rfl ?_
      refine fs_ai T 60 (H.2.1 v0 0) rfl rfl (hE.1 _ 12 0 h0) ?_
      refine fs_r T 2 62 [some (.ref v0), some (.int v1), some (.int v2), some (.int v3), some (.int v4)] [.int (m3.1 (H.2.1 v0 0) (4 : Int32).toNatClampNeg + (1 : Int32)), .int (4 : Int32), .ref (H.2.1 v0 0)] rfl ?_
      refine fs_si T 63 (H.2.1 v0 0) rfl rfl (hE.1 _ 12 0 h0) ?_
      intro m4
      refine fs_r T 1 64 [some (.ref v0), some (.int v1), some (.int v2), some (.int v3), some (.int v4)] [.int v3] rfl ?_
      exact fs_reti T rfl rfl rfl
    · refine fs_r T 4 22 [some (.ref v0), some (.int v1), some (.int v2), some (.int v3), some (.int v4)] [.int (0 : Int32), .int v4, .int v3, .ref v0] rfl ?_
      refine fs_vV T 25 rfl rfl rfl rfl rfl rfl h0 (q_X12_put (d := d) hE h0) ?_
      intro x4 m5
      refine fs_r T 2 10 [some (.ref v0), some (.int v1), some (.int v2), some (.int v3), some (.int (v4 + 1))] [] rfl ?_
      exact ih _ _
def f_X12_appendCircuit (H : fm_H) (v0 : Nat) (v1 : Int32) (v2 : Int32) (m : fm_M) : Option (Int32 × fm_M) :=
  if px_inb (4 : Int32) (fm_sz H (H.2.1 v0 0)) = true then
    f_X12_appendCircuit_10 H v0 v1 v2 (m.1 (H.2.1 v0 0) (4 : Int32).toNatClampNeg) fm_N (0 : Int32) m
  else none
set_option maxRecDepth 10000 in
theorem q_X12_appendCircuit {G : pm_G} {H : fm_H} {d : Nat} {z : Option Nat × Nat × Nat} {v0 : Nat} {v1 : Int32} {v2 : Int32} {m : fm_M} (hE : fm_E G H) (h0 : fm_is H v0 12) : fm_cal G H (d + 2) yX12_appendCircuit [.ref v0, .int v1, .int v2] z m fm_rI (f_X12_appendCircuit H v0 v1 v2 m) := fm_mth (d := d + 1) mt_X12_appendCircuit rfl rfl rfl (fun K => by
  show fm_o fm_rI (f_X12_appendCircuit H v0 v1 v2 m) K → fm_V G H (d + 1) RX12 cX12_appendCircuit (some (.int)) z K 0 [some (.ref v0), some (.int v1), some (.int v2), none, none] [] m
  have T : fm_T RX12 cX12_appendCircuit tc_X12_appendCircuit fr_X12 mr_X12 cr_X12 lr_X12 := ⟨tok_X12, dc_X12_appendCircuit⟩
  unfold f_X12_appendCircuit
  refine fs_r T 1 1 [some (.ref v0), some (.int v1), some (.int v2), none, none] [.ref v0] rfl ?_
  refine fs_gs T 4 12 0 v0 rfl rfl rfl rfl h0 ?_
  refine fs_r T 1 5 [some (.ref v0), some (.int v1), some (.int v2), none, none] [.int (4 : Int32), .ref (H.2.1 v0 0)] rfl ?_
  refine fs_ai T 6 (H.2.1 v0 0) rfl rfl (hE.1 _ 12 0 h0) ?_
  refine fs_r T 3 10 [some (.ref v0), some (.int v1), some (.int v2), some (.int (m.1 (H.2.1 v0 0) (4 : Int32).toNatClampNeg)), some (.int (0 : Int32))] [] rfl ?_
  exact w_X12_appendCircuit_10 hE h0 _ _ _)
def f_X12_parseCircuit_73 (H : fm_H) (v0 : Nat) (v3 : Int32) : Nat → fm_M → Option (Unit × fm_M)
  | 0, _ => none
  | n + 1, m =>
    fm_bn (f_X12_isFine H v0 m) fun x1 m1 =>
    if x1 = 0 then
      some ((), m1)
    else
    if m1.1 v0 12 = (3 : Int32) then
      fm_bn (f_X12_parseWayNode H v0 v3 m1) fun _ m2 =>
      f_X12_parseCircuit_73 H v0 v3 n m2
    else
    some ((), m1)
set_option maxRecDepth 10000 in
theorem w_X12_parseCircuit_73 {G : pm_G} {H : fm_H} {d : Nat} {z : Option Nat × Nat × Nat} {K : pm_R → fm_M → Prop} (hE : fm_E G H) {v0 : Nat} {v3 : Int32} (h0 : fm_is H v0 12) : ∀ (n : Nat) (m : fm_M), fm_o fm_rV (f_X12_parseCircuit_73 H v0 v3 n m) K → fm_V G H (d + 6) RX12 cX12_parseCircuit none z K 73 [some (.ref v0), none, none, some (.int v3)] [] m := by
  have T : fm_T RX12 cX12_parseCircuit tc_X12_parseCircuit fr_X12 mr_X12 cr_X12 lr_X12 := ⟨tok_X12, dc_X12_parseCircuit⟩
  intro n
  induction n with
  | zero =>
    intro  m 
    exact fs_none
  | succ n ih =>
    intro  m 
    unfold f_X12_parseCircuit_73
    refine fs_r T 1 74 [some (.ref v0), none, none, some (.int v3)] [.ref v0] rfl ?_
    refine fs_vI T 77 rfl rfl rfl rfl rfl rfl h0 (q_X12_isFine (d := d + 5) hE h0) ?_
    intro x1 m1
    refine fs_if_eq T 96 80 rfl rfl rfl (fun _ => ?_) (fun _ => ?_)
    · exact fs_retv T rfl rfl rfl
    · refine fs_r T 1 81 [some (.ref v0), none, none, some (.int v3)] [.ref v0] rfl ?_
      refine fs_gi T 84 12 12 v0 rfl rfl rfl rfl h0 ?_
      refine fs_r T 1 85 [some (.ref v0), none, none, some (.int v3)] [.int (3 : Int32), .int (m1.1 v0 12)] rfl ?_
      refine fs_ic_ne T 96 88 rfl rfl rfl (fun _ => ?_) (fun _ => ?_)
      · refine fs_r T 2 90 [some (.ref v0), none, none, some (.int v3)] [.int v3, .ref v0] rfl ?_
        refine fs_vV T 93 rfl rfl rfl rfl rfl rfl h0 (q_X12_parseWayNode (d := d) hE h0) ?_
        intro x2 m2
        refine fs_r T 1 73 [some (.ref v0), none, none, some (.int v3)] [] rfl ?_
        exact ih _
      · exact fs_retv T rfl rfl rfl
def f_X12_parseCircuit_17 (H : fm_H) (v0 : Nat) (s0 : Int32) (s1 : Nat) (m : fm_M) : Option (Unit × fm_M) :=
  fm_bn (f_X12_require H s1 s0 (3 : Int32) m) fun _ m1 =>
  fm_bn (f_X12_advance H v0 m1) fun _ m2 =>
  fm_bn (f_X12_parseNumber H v0 (1 : Int32) (20 : Int32) m2) fun x3 m3 =>
  fm_bn (f_X12_parseNumber H v0 (0 : Int32) (9 : Int32) m3) fun x4 m4 =>
  fm_bn (f_X12_isFine H v0 m4) fun x5 m5 =>
  if x5 = 0 then
    some ((), m5)
  else
  fm_bn (f_X12_appendCircuit H v0 x3 x4 m5) fun x6 m6 =>
  fm_bn (f_X12_parseWayNode H v0 x6 m6) fun _ m7 =>
  fm_bn (f_X12_isFine H v0 m7) fun x8 m8 =>
  if x8 = 0 then
    f_X12_parseCircuit_73 H v0 x6 fm_N m8
  else
  fm_bn (f_X12_parseWayNode H v0 x6 m8) fun _ m9 =>
  f_X12_parseCircuit_73 H v0 x6 fm_N m9
set_option maxRecDepth 10000 in
theorem w_X12_parseCircuit_17 {G : pm_G} {H : fm_H} {d : Nat} {z : Option Nat × Nat × Nat} {K : pm_R → fm_M → Prop} (hE : fm_E G H) {v0 : Nat} (h0 : fm_is H v0 12) : ∀ (s0 : Int32) (s1 : Nat) (m : fm_M), fm_is H s1 12 → fm_o fm_rV (f_X12_parseCircuit_17 H v0 s0 s1 m) K → fm_V G H (d + 6) RX12 cX12_parseCircuit none z K 17 [some (.ref v0), none, none, none] [.int s0, .ref s1] m := by
  have T : fm_T RX12 cX12_parseCircuit tc_X12_parseCircuit fr_X12 mr_X12 cr_X12 lr_X12 := ⟨tok_X12, dc_X12_parseCircuit⟩
  intro s0 s1 m hs1
  unfold f_X12_parseCircuit_17
  refine fs_r T 1 18 [some (.ref v0), none, none, none] [.int (3 : Int32), .int s0, .ref s1] rfl ?_
  refine fs_vV T 21 rfl rfl rfl rfl rfl rfl hs1 (q_X12_require (d := d + 5) hE hs1) ?_
  intro x1 m1
  refine fs_r T 1 22 [some (.ref v0), none, none, none] [.ref v0] rfl ?_
  refine fs_vV T 25 rfl rfl rfl rfl rfl rfl h0 (q_X12_advance (d := d + 2) hE h0) ?_
  intro x2 m2
  refine fs_r T 3 29 [some (.ref v0), none, none, none] [.int (20 : Int32), .int (1 : Int32), .ref v0] rfl ?_
  refine fs_vI T 32 rfl rfl rfl rfl rfl rfl h0 (q_X12_parseNumber (d := d + 1) hE h0) ?_
  intro x3 m3
  refine fs_r T 4 37 [some (.ref v0), some (.int x3), none, none] [.int (9 : Int32), .int (0 : Int32), .ref v0] rfl ?_
  refine fs_vI T 40 rfl rfl rfl rfl rfl rfl h0 (q_X12_parseNumber (d := d + 1) hE h0) ?_
  intro x4 m4
  refine fs_r T 2 42 [some (.ref v0), some (.int x3), some (.int x4), none] [.ref v0] rfl ?_
  refine fs_vI T 45 rfl rfl rfl rfl rfl rfl h0 (q_X12_isFine (d := d + 5) hE h0) ?_
  intro x5 m5
  refine fs_if_ne T 49 48 rfl rfl rfl (fun _ => ?_) (fun _ => ?_)
  · exact fs_retv T rfl rfl rfl
  · refine fs_r T 3 52 [some (.ref v0), some (.int x3), some (.int x4), none] [.int x4, .int x3, .ref v0] rfl ?_
    refine fs_vI T 55 rfl rfl rfl rfl rfl rfl h0 (q_X12_appendCircuit (d := d + 4) hE h0) ?_
    intro x6 m6
    refine fs_r T 3 58 [some (.ref v0), some (.int x3), some (.int x4), some (.int x6)] [.int x6, .ref v0] rfl ?_
    refine fs_vV T 61 rfl rfl rfl rfl rfl rfl h0 (q_X12_parseWayNode (d := d) hE h0) ?_
    intro x7 m7
    refine fs_r T 1 62 [some (.ref v0), some (.int x3), some (.int x4), some (.int x6)] [.ref v0] rfl ?_
    refine fs_vI T 65 rfl rfl rfl rfl rfl rfl h0 (q_X12_isFine (d := d + 5) hE h0) ?_
    intro x8 m8
    refine fs_if_eq T 73 68 rfl rfl rfl (fun _ => ?_) (fun _ => ?_)
    · refine fs_wk (ls' := [some (.ref v0), none, none, some (.int x6)]) ⟨rfl, rfl, trivial⟩ ?_
      exact w_X12_parseCircuit_73 hE h0 _ _
    · refine fs_r T 2 70 [some (.ref v0), some (.int x3), some (.int x4), some (.int x6)] [.int x6, .ref v0] rfl ?_
      refine fs_vV T 73 rfl rfl rfl rfl rfl rfl h0 (q_X12_parseWayNode (d := d) hE h0) ?_
      intro x9 m9
      refine fs_wk (ls' := [some (.ref v0), none, none, some (.int x6)]) ⟨rfl, rfl, trivial⟩ ?_
      exact w_X12_parseCircuit_73 hE h0 _ _
def f_X12_parseCircuit (H : fm_H) (v0 : Nat) (m : fm_M) : Option (Unit × fm_M) :=
  if px_inb (4 : Int32) (fm_sz H (H.2.1 v0 0)) = true then
    if (8 : Int32) ≤ m.1 (H.2.1 v0 0) (4 : Int32).toNatClampNeg then
      f_X12_parseCircuit_17 H v0 (0 : Int32) v0 m
    else
    f_X12_parseCircuit_17 H v0 (1 : Int32) v0 m
  else none
set_option maxRecDepth 10000 in
theorem q_X12_parseCircuit {G : pm_G} {H : fm_H} {d : Nat} {z : Option Nat × Nat × Nat} {v0 : Nat} {m : fm_M} (hE : fm_E G H) (h0 : fm_is H v0 12) : fm_cal G H (d + 7) yX12_parseCircuit [.ref v0] z m fm_rV (f_X12_parseCircuit H v0 m) := fm_mth (d := d + 6) mt_X12_parseCircuit rfl rfl rfl (fun K => by
  show fm_o fm_rV (f_X12_parseCircuit H v0 m) K → fm_V G H (d + 6) RX12 cX12_parseCircuit none z K 0 [some (.ref v0), none, none, none] [] m
  have T : fm_T RX12 cX12_parseCircuit tc_X12_parseCircuit fr_X12 mr_X12 cr_X12 lr_X12 := ⟨tok_X12, dc_X12_parseCircuit⟩
  unfold f_X12_parseCircuit
  refine fs_r T 2 2 [some (.ref v0), none, none, none] [.ref v0, .ref v0] rfl ?_
  refine fs_gs T 5 12 0 v0 rfl rfl rfl rfl h0 ?_
  refine fs_r T 1 6 [some (.ref v0), none, none, none] [.int (4 : Int32), .ref (H.2.1 v0 0), .ref v0] rfl ?_
  refine fs_ai T 7 (H.2.1 v0 0) rfl rfl (hE.1 _ 12 0 h0) ?_
  refine fs_r T 1 9 [some (.ref v0), none, none, none] [.int (8 : Int32), .int (m.1 (H.2.1 v0 0) (4 : Int32).toNatClampNeg), .ref v0] rfl ?_
  refine fs_ic_ge T 16 12 rfl rfl rfl (fun _ => ?_) (fun _ => ?_)
  · refine fs_r T 1 17 [some (.ref v0), none, none, none] [.int (0 : Int32), .ref v0] rfl ?_
    exact w_X12_parseCircuit_17 hE h0 _ _ _ h0
  · refine fs_r T 2 17 [some (.ref v0), none, none, none] [.int (1 : Int32), .ref v0] rfl ?_
    exact w_X12_parseCircuit_17 hE h0 _ _ _ h0)
def f_X12_parseSet (H : fm_H) (v0 : Nat) (m : fm_M) : Option (Unit × fm_M) :=
  fm_bn (f_X12_isWord H v0 (H.2.2 RX12 167) m) fun x1 m1 =>
  fm_bn (f_X12_require H v0 x1 (1 : Int32) m1) fun _ m2 =>
  fm_bn (f_X12_advance H v0 m2) fun _ m3 =>
  fm_bn (f_X12_parseNumber H v0 (0 : Int32) (1 : Int32) m3) fun x4 m4 =>
  if x4 = 0 then
    fm_bn (f_X12_parseNumber H v0 (0 : Int32) (4 : Int32) m4) fun x7 m8 =>
    fm_bn (f_X12_isFine H v0 m8) fun x8 m9 =>
    if x8 = 0 then
      some ((), m9)
    else
    if px_inb x4 (fm_sz H (H.2.1 v0 0)) = true then
      (fm_bd (fm_si m9 (H.2.1 v0 0) x4.toNatClampNeg x7) fun m10 =>
      some ((), m10))
    else none
  else
  fm_bn (f_X12_parseNumber H v0 (0 : Int32) (1 : Int32) m4) fun x5 m5 =>
  fm_bn (f_X12_isFine H v0 m5) fun x6 m6 =>
  if x6 = 0 then
    some ((), m6)
  else
  if px_inb x4 (fm_sz H (H.2.1 v0 0)) = true then
    (fm_bd (fm_si m6 (H.2.1 v0 0) x4.toNatClampNeg x5) fun m7 =>
    some ((), m7))
  else none
set_option maxRecDepth 10000 in
theorem q_X12_parseSet {G : pm_G} {H : fm_H} {d : Nat} {z : Option Nat × Nat × Nat} {v0 : Nat} {m : fm_M} (hE : fm_E G H) (h0 : fm_is H v0 12) : fm_cal G H (d + 6) yX12_parseSet [.ref v0] z m fm_rV (f_X12_parseSet H v0 m) := fm_mth (d := d + 5) mt_X12_parseSet rfl rfl rfl (fun K => by
  show fm_o fm_rV (f_X12_parseSet H v0 m) K → fm_V G H (d + 5) RX12 cX12_parseSet none z K 0 [some (.ref v0), none, none] [] m
  have T : fm_T RX12 cX12_parseSet tc_X12_parseSet fr_X12 mr_X12 cr_X12 lr_X12 := ⟨tok_X12, dc_X12_parseSet⟩
  unfold f_X12_parseSet
  refine fs_r T 2 2 [some (.ref v0), none, none] [.ref v0, .ref v0] rfl ?_
  refine fs_ldcS T hE 4 167 rfl rfl rfl ?_
  intro e1
  refine fs_vI T 7 rfl rfl rfl rfl rfl rfl h0 (q_X12_isWord (d := d) hE h0 e1) ?_
  intro x1 m1
  refine fs_r T 1 8 [some (.ref v0), none, none] [.int (1 : Int32), .int x1, .ref v0] rfl ?_
  refine fs_vV T 11 rfl rfl rfl rfl rfl rfl h0 (q_X12_require (d := d + 4) hE h0) ?_
  intro x2 m2
  refine fs_r T 1 12 [some (.ref v0), none, none] [.ref v0] rfl ?_
  refine fs_vV T 15 rfl rfl rfl rfl rfl rfl h0 (q_X12_advance (d := d + 1) hE h0) ?_
  intro x3 m3
  refine fs_r T 3 18 [some (.ref v0), none, none] [.int (1 : Int32), .int (0 : Int32), .ref v0] rfl ?_
  refine fs_vI T 21 rfl rfl rfl rfl rfl rfl h0 (q_X12_parseNumber (d := d) hE h0) ?_
  intro x4 m4
  refine fs_r T 4 25 [some (.ref v0), some (.int x4), none] [.int x4, .int (0 : Int32), .ref v0] rfl ?_
  refine fs_if_ne T 32 28 rfl rfl rfl (fun _ => ?_) (fun _ => ?_)
  · refine fs_r T 2 33 [some (.ref v0), some (.int x4), none] [.int (4 : Int32), .int (0 : Int32), .ref v0] rfl ?_
    refine fs_vI T 36 rfl rfl rfl rfl rfl rfl h0 (q_X12_parseNumber (d := d) hE h0) ?_
    intro x7 m8
    refine fs_r T 2 38 [some (.ref v0), some (.int x4), some (.int x7)] [.ref v0] rfl ?_
    refine fs_vI T 41 rfl rfl rfl rfl rfl rfl h0 (q_X12_isFine (d := d + 4) hE h0) ?_
    intro x8 m9
    refine fs_if_eq T 51 44 rfl rfl rfl (fun _ => ?_) (fun _ => ?_)
    · exact fs_retv T rfl rfl rfl
    · refine fs_r T 1 45 [some (.ref v0), some (.int x4), some (.int x7)] [.ref v0] rfl ?_
      refine fs_gs T 48 12 0 v0 rfl rfl rfl rfl h0 ?_
      refine fs_r T 2 50 [some (.ref v0), some (.int x4), some (.int x7)] [.int x7, .int x4, .ref (H.2.1 v0 0)] rfl ?_
      refine fs_si T 51 (H.2.1 v0 0) rfl rfl (hE.1 _ 12 0 h0) ?_
      intro m10
      exact fs_retv T rfl rfl rfl
  · refine fs_r T 1 33 [some (.ref v0), some (.int x4), none] [.int (1 : Int32), .int (0 : Int32), .ref v0] rfl ?_
    refine fs_vI T 36 rfl rfl rfl rfl rfl rfl h0 (q_X12_parseNumber (d := d) hE h0) ?_
    intro x5 m5
    refine fs_r T 2 38 [some (.ref v0), some (.int x4), some (.int x5)] [.ref v0] rfl ?_
    refine fs_vI T 41 rfl rfl rfl rfl rfl rfl h0 (q_X12_isFine (d := d + 4) hE h0) ?_
    intro x6 m6
    refine fs_if_eq T 51 44 rfl rfl rfl (fun _ => ?_) (fun _ => ?_)
    · exact fs_retv T rfl rfl rfl
    · refine fs_r T 1 45 [some (.ref v0), some (.int x4), some (.int x5)] [.ref v0] rfl ?_
      refine fs_gs T 48 12 0 v0 rfl rfl rfl rfl h0 ?_
      refine fs_r T 2 50 [some (.ref v0), some (.int x4), some (.int x5)] [.int x5, .int x4, .ref (H.2.1 v0 0)] rfl ?_
      refine fs_si T 51 (H.2.1 v0 0) rfl rfl (hE.1 _ 12 0 h0) ?_
      intro m7
      exact fs_retv T rfl rfl rfl)
def f_X12_parseStatement_52 (H : fm_H) (v0 : Nat) (m : fm_M) : Option (Unit × fm_M) :=
  if m.1 v0 12 = (4 : Int32) then
    fm_bn (f_X12_require H v0 (1 : Int32) (1 : Int32) m) fun _ m3 =>
    fm_bn (f_X12_advance H v0 m3) fun _ m4 =>
    some ((), m4)
  else
  fm_bn (f_X12_require H v0 (0 : Int32) (1 : Int32) m) fun _ m1 =>
  fm_bn (f_X12_advance H v0 m1) fun _ m2 =>
  some ((), m2)
set_option maxRecDepth 10000 in
theorem w_X12_parseStatement_52 {G : pm_G} {H : fm_H} {d : Nat} {z : Option Nat × Nat × Nat} {K : pm_R → fm_M → Prop} (hE : fm_E G H) {v0 : Nat} (h0 : fm_is H v0 12) : ∀ (m : fm_M), fm_o fm_rV (f_X12_parseStatement_52 H v0 m) K → fm_V G H (d + 7) RX12 cX12_parseStatement none z K 52 [some (.ref v0)] [] m := by
  have T : fm_T RX12 cX12_parseStatement tc_X12_parseStatement fr_X12 mr_X12 cr_X12 lr_X12 := ⟨tok_X12, dc_X12_parseStatement⟩
  intro m
  unfold f_X12_parseStatement_52
  refine fs_r T 2 54 [some (.ref v0)] [.ref v0, .ref v0] rfl ?_
  refine fs_gi T 57 12 12 v0 rfl rfl rfl rfl h0 ?_
  refine fs_r T 1 58 [some (.ref v0)] [.int (4 : Int32), .int (m.1 v0 12), .ref v0] rfl ?_
  refine fs_ic_ne T 65 61 rfl rfl rfl (fun _ => ?_) (fun _ => ?_)
  · refine fs_r T 3 67 [some (.ref v0)] [.int (1 : Int32), .int (1 : Int32), .ref v0] rfl ?_
    refine fs_vV T 70 rfl rfl rfl rfl rfl rfl h0 (q_X12_require (d := d + 6) hE h0) ?_
    intro x3 m3
    refine fs_r T 1 71 [some (.ref v0)] [.ref v0] rfl ?_
    refine fs_vV T 74 rfl rfl rfl rfl rfl rfl h0 (q_X12_advance (d := d + 3) hE h0) ?_
    intro x4 m4
    exact fs_retv T rfl rfl rfl
  · refine fs_r T 2 67 [some (.ref v0)] [.int (1 : Int32), .int (0 : Int32), .ref v0] rfl ?_
    refine fs_vV T 70 rfl rfl rfl rfl rfl rfl h0 (q_X12_require (d := d + 6) hE h0) ?_
    intro x1 m1
    refine fs_r T 1 71 [some (.ref v0)] [.ref v0] rfl ?_
    refine fs_vV T 74 rfl rfl rfl rfl rfl rfl h0 (q_X12_advance (d := d + 3) hE h0) ?_
    intro x2 m2
    exact fs_retv T rfl rfl rfl
def f_X12_parseStatement (H : fm_H) (v0 : Nat) (m : fm_M) : Option (Unit × fm_M) :=
  fm_bn (f_X12_isWord H v0 (H.2.2 RX12 173) m) fun x1 m1 =>
  if x1 = 0 then
    fm_bn (f_X12_isWord H v0 (H.2.2 RX12 178) m1) fun x2 m2 =>
    if x2 = 0 then
      fm_bn (f_X12_isWord H v0 (H.2.2 RX12 183) m2) fun x3 m3 =>
      if x3 = 0 then
        fm_bn (f_X12_parseSet H v0 m3) fun _ m4 =>
        f_X12_parseStatement_52 H v0 m4
      else
      fm_bn (f_X12_parseCircuit H v0 m3) fun _ m5 =>
      f_X12_parseStatement_52 H v0 m5
    else
    fm_bn (f_X12_parseLink H v0 m2) fun _ m6 =>
    f_X12_parseStatement_52 H v0 m6
  else
  fm_bn (f_X12_parseNode H v0 m1) fun _ m7 =>
  f_X12_parseStatement_52 H v0 m7
set_option maxRecDepth 10000 in
theorem q_X12_parseStatement {G : pm_G} {H : fm_H} {d : Nat} {z : Option Nat × Nat × Nat} {v0 : Nat} {m : fm_M} (hE : fm_E G H) (h0 : fm_is H v0 12) : fm_cal G H (d + 8) yX12_parseStatement [.ref v0] z m fm_rV (f_X12_parseStatement H v0 m) := fm_mth (d := d + 7) mt_X12_parseStatement rfl rfl rfl (fun K => by
  show fm_o fm_rV (f_X12_parseStatement H v0 m) K → fm_V G H (d + 7) RX12 cX12_parseStatement none z K 0 [some (.ref v0)] [] m
  have T : fm_T RX12 cX12_parseStatement tc_X12_parseStatement fr_X12 mr_X12 cr_X12 lr_X12 := ⟨tok_X12, dc_X12_parseStatement⟩
  unfold f_X12_parseStatement
  refine fs_r T 1 1 [some (.ref v0)] [.ref v0] rfl ?_
  refine fs_ldcS T hE 3 173 rfl rfl rfl ?_
  intro e1
  refine fs_vI T 6 rfl rfl rfl rfl rfl rfl h0 (q_X12_isWord (d := d + 2) hE h0 e1) ?_
  intro x1 m1
  refine fs_if_eq T 16 9 rfl rfl rfl (fun _ => ?_) (fun _ => ?_)
  · refine fs_r T 1 17 [some (.ref v0)] [.ref v0] rfl ?_
    refine fs_ldcS T hE 19 178 rfl rfl rfl ?_
    intro e2
    refine fs_vI T 22 rfl rfl rfl rfl rfl rfl h0 (q_X12_isWord (d := d + 2) hE h0 e2) ?_
    intro x2 m2
    refine fs_if_eq T 32 25 rfl rfl rfl (fun _ => ?_) (fun _ => ?_)
    · refine fs_r T 1 33 [some (.ref v0)] [.ref v0] rfl ?_
      refine fs_ldcS T hE 35 183 rfl rfl rfl ?_
      intro e3
      refine fs_vI T 38 rfl rfl rfl rfl rfl rfl h0 (q_X12_isWord (d := d + 2) hE h0 e3) ?_
      intro x3 m3
      refine fs_if_eq T 48 41 rfl rfl rfl (fun _ => ?_) (fun _ => ?_)
      · refine fs_r T 1 49 [some (.ref v0)] [.ref v0] rfl ?_
        refine fs_vV T 52 rfl rfl rfl rfl rfl rfl h0 (q_X12_parseSet (d := d + 1) hE h0) ?_
        intro x4 m4
        exact w_X12_parseStatement_52 hE h0 _
      · refine fs_r T 1 42 [some (.ref v0)] [.ref v0] rfl ?_
        refine fs_vV T 45 rfl rfl rfl rfl rfl rfl h0 (q_X12_parseCircuit (d := d) hE h0) ?_
        intro x5 m5
        refine fs_r T 1 52 [some (.ref v0)] [] rfl ?_
        exact w_X12_parseStatement_52 hE h0 _
    · refine fs_r T 1 26 [some (.ref v0)] [.ref v0] rfl ?_
      refine fs_vV T 29 rfl rfl rfl rfl rfl rfl h0 (q_X12_parseLink (d := d + 1) hE h0) ?_
      intro x6 m6
      refine fs_r T 1 52 [some (.ref v0)] [] rfl ?_
      exact w_X12_parseStatement_52 hE h0 _
  · refine fs_r T 1 10 [some (.ref v0)] [.ref v0] rfl ?_
    refine fs_vV T 13 rfl rfl rfl rfl rfl rfl h0 (q_X12_parseNode (d := d + 1) hE h0) ?_
    intro x7 m7
    refine fs_r T 1 52 [some (.ref v0)] [] rfl ?_
    exact w_X12_parseStatement_52 hE h0 _)
def f_X12_load_62 (H : fm_H) (v0 : Nat) (m : fm_M) : Option (Int32 × fm_M) :=
  fm_bd (fm_si m v0 9 (0 : Int32)) fun m1 =>
  fm_bn (f_X12_isFine H v0 m1) fun x1 m2 =>
  if x1 = 0 then
    fm_bn (f_X12_copy H (H.2.1 v0 1) (0 : Int32) (H.2.1 v0 0) (0 : Int32) m2) fun _ m4 =>
    some ((-1 : Int32), m4)
  else
  fm_bd (fm_si m2 v0 6 (0 : Int32)) fun m3 =>
  if px_inb (4 : Int32) (fm_sz H (H.2.1 v0 0)) = true then
    some (m3.1 (H.2.1 v0 0) (4 : Int32).toNatClampNeg, m3)
  else none
set_option maxRecDepth 10000 in
theorem w_X12_load_62 {G : pm_G} {H : fm_H} {d : Nat} {z : Option Nat × Nat × Nat} {K : pm_R → fm_M → Prop} (hE : fm_E G H) {v0 : Nat} (h0 : fm_is H v0 12) : ∀ (m : fm_M), fm_o fm_rI (f_X12_load_62 H v0 m) K → fm_V G H (d + 8) RX12 cX12_load (some (.int)) z K 62 [some (.ref v0)] [] m := by
  have T : fm_T RX12 cX12_load tc_X12_load fr_X12 mr_X12 cr_X12 lr_X12 := ⟨tok_X12, dc_X12_load⟩
  intro m
  unfold f_X12_load_62
  refine fs_r T 2 64 [some (.ref v0)] [.int (0 : Int32), .ref v0] rfl ?_
  refine fs_pi T 67 12 9 v0 rfl rfl rfl rfl h0 ?_
  intro m1
  refine fs_r T 1 68 [some (.ref v0)] [.ref v0] rfl ?_
  refine fs_vI T 71 rfl rfl rfl rfl rfl rfl h0 (q_X12_isFine (d := d + 7) hE h0) ?_
  intro x1 m2
  refine fs_if_ne T 89 74 rfl rfl rfl (fun _ => ?_) (fun _ => ?_)
  · refine fs_r T 1 75 [some (.ref v0)] [.ref v0] rfl ?_
    refine fs_gs T 78 12 1 v0 rfl rfl rfl rfl h0 ?_
    refine fs_r T 2 80 [some (.ref v0)] [.ref v0, .int (0 : Int32), .ref (H.2.1 v0 1)] rfl ?_
    refine fs_gs T 83 12 0 v0 rfl rfl rfl rfl h0 ?_
    refine fs_r T 1 84 [some (.ref v0)] [.int (0 : Int32), .ref (H.2.1 v0 0), .int (0 : Int32), .ref (H.2.1 v0 1)] rfl ?_
    refine fs_sV T 87 rfl rfl rfl rfl rfl rfl rfl (q_X12_copy (d := d + 7) hE (hE.1 _ 12 1 h0) (hE.1 _ 12 0 h0)) ?_
    intro x2 m4
    refine fs_r T 1 88 [some (.ref v0)] [.int (-1 : Int32)] rfl ?_
    exact fs_reti T rfl rfl rfl
  · refine fs_r T 2 91 [some (.ref v0)] [.int (0 : Int32), .ref v0] rfl ?_
    refine fs_pi T 94 12 6 v0 rfl rfl rfl rfl h0 ?_
    intro m3
    refine fs_r T 1 95 [some (.ref v0)] [.ref v0] rfl ?_
    refine fs_gs T 98 12 0 v0 rfl rfl rfl rfl h0 ?_
    refine fs_r T 1 99 [some (.ref v0)] [.int (4 : Int32), .ref (H.2.1 v0 0)] rfl ?_
    refine fs_ai T 100 (H.2.1 v0 0) rfl rfl (hE.1 _ 12 0 h0) ?_
    exact fs_reti T rfl rfl rfl
def f_X12_load_41 (H : fm_H) (v0 : Nat) : Nat → fm_M → Option (Int32 × fm_M)
  | 0, _ => none
  | n + 1, m =>
    fm_bn (f_X12_isFine H v0 m) fun x1 m1 =>
    if x1 = 0 then
      f_X12_load_62 H v0 m1
    else
    if m1.1 v0 12 = 0 then
      f_X12_load_62 H v0 m1
    else
    fm_bn (f_X12_parseStatement H v0 m1) fun _ m2 =>
    f_X12_load_41 H v0 n m2
set_option maxRecDepth 10000 in
theorem w_X12_load_41 {G : pm_G} {H : fm_H} {d : Nat} {z : Option Nat × Nat × Nat} {K : pm_R → fm_M → Prop} (hE : fm_E G H) {v0 : Nat} (h0 : fm_is H v0 12) : ∀ (n : Nat) (m : fm_M), fm_o fm_rI (f_X12_load_41 H v0 n m) K → fm_V G H (d + 8) RX12 cX12_load (some (.int)) z K 41 [some (.ref v0)] [] m := by
  have T : fm_T RX12 cX12_load tc_X12_load fr_X12 mr_X12 cr_X12 lr_X12 := ⟨tok_X12, dc_X12_load⟩
  intro n
  induction n with
  | zero =>
    intro  m 
    exact fs_none
  | succ n ih =>
    intro  m 
    unfold f_X12_load_41
    refine fs_r T 1 42 [some (.ref v0)] [.ref v0] rfl ?_
    refine fs_vI T 45 rfl rfl rfl rfl rfl rfl h0 (q_X12_isFine (d := d + 7) hE h0) ?_
    intro x1 m1
    refine fs_if_eq T 62 48 rfl rfl rfl (fun _ => ?_) (fun _ => ?_)
    · exact w_X12_load_62 hE h0 _
    · refine fs_r T 1 49 [some (.ref v0)] [.ref v0] rfl ?_
      refine fs_gi T 52 12 12 v0 rfl rfl rfl rfl h0 ?_
      refine fs_if_eq T 62 55 rfl rfl rfl (fun _ => ?_) (fun _ => ?_)
      · exact w_X12_load_62 hE h0 _
      · refine fs_r T 1 56 [some (.ref v0)] [.ref v0] rfl ?_
        refine fs_vV T 59 rfl rfl rfl rfl rfl rfl h0 (q_X12_parseStatement (d := d) hE h0) ?_
        intro x2 m2
        refine fs_r T 1 41 [some (.ref v0)] [] rfl ?_
        exact ih _
def f_X12_load (H : fm_H) (v0 : Nat) (m : fm_M) : Option (Int32 × fm_M) :=
  fm_bd (fm_si m v0 7 (0 : Int32)) fun m1 =>
  fm_bn (f_X12_copy H (H.2.1 v0 0) (0 : Int32) (H.2.1 v0 1) (0 : Int32) m1) fun _ m2 =>
  fm_bn (f_X12_clear H v0 m2) fun _ m3 =>
  fm_bd (fm_si m3 v0 15 (0 : Int32)) fun m4 =>
  fm_bd (fm_si m4 v0 16 (-1 : Int32)) fun m5 =>
  fm_bd (fm_si m5 v0 10 (0 : Int32)) fun m6 =>
  fm_bn (f_X12_nextToken H v0 m6) fun _ m7 =>
  f_X12_load_41 H v0 fm_N m7
set_option maxRecDepth 10000 in
theorem q_X12_load {G : pm_G} {H : fm_H} {d : Nat} {z : Option Nat × Nat × Nat} {v0 : Nat} {m : fm_M} (hE : fm_E G H) (h0 : fm_is H v0 12) : fm_cal G H (d + 9) yX12_load [.ref v0] z m fm_rI (f_X12_load H v0 m) := fm_mth (d := d + 8) mt_X12_load rfl rfl rfl (fun K => by
  show fm_o fm_rI (f_X12_load H v0 m) K → fm_V G H (d + 8) RX12 cX12_load (some (.int)) z K 0 [some (.ref v0)] [] m
  have T : fm_T RX12 cX12_load tc_X12_load fr_X12 mr_X12 cr_X12 lr_X12 := ⟨tok_X12, dc_X12_load⟩
  unfold f_X12_load
  refine fs_r T 2 2 [some (.ref v0)] [.int (0 : Int32), .ref v0] rfl ?_
  refine fs_pi T 5 12 7 v0 rfl rfl rfl rfl h0 ?_
  intro m1
  refine fs_r T 1 6 [some (.ref v0)] [.ref v0] rfl ?_
  refine fs_gs T 9 12 0 v0 rfl rfl rfl rfl h0 ?_
  refine fs_r T 2 11 [some (.ref v0)] [.ref v0, .int (0 : Int32), .ref (H.2.1 v0 0)] rfl ?_
  refine fs_gs T 14 12 1 v0 rfl rfl rfl rfl h0 ?_
  refine fs_r T 1 15 [some (.ref v0)] [.int (0 : Int32), .ref (H.2.1 v0 1), .int (0 : Int32), .ref (H.2.1 v0 0)] rfl ?_
  refine fs_sV T 18 rfl rfl rfl rfl rfl rfl rfl (q_X12_copy (d := d + 7) hE (hE.1 _ 12 0 h0) (hE.1 _ 12 1 h0)) ?_
  intro x1 m2
  refine fs_r T 1 19 [some (.ref v0)] [.ref v0] rfl ?_
  refine fs_vV T 22 rfl rfl rfl rfl rfl rfl h0 (q_X12_clear (d := d + 7) hE h0) ?_
  intro x2 m3
  refine fs_r T 2 24 [some (.ref v0)] [.int (0 : Int32), .ref v0] rfl ?_
  refine fs_pi T 27 12 15 v0 rfl rfl rfl rfl h0 ?_
  intro m4
  refine fs_r T 2 29 [some (.ref v0)] [.int (-1 : Int32), .ref v0] rfl ?_
  refine fs_pi T 32 12 16 v0 rfl rfl rfl rfl h0 ?_
  intro m5
  refine fs_r T 2 34 [some (.ref v0)] [.int (0 : Int32), .ref v0] rfl ?_
  refine fs_pi T 37 12 10 v0 rfl rfl rfl rfl h0 ?_
  intro m6
  refine fs_r T 1 38 [some (.ref v0)] [.ref v0] rfl ?_
  refine fs_vV T 41 rfl rfl rfl rfl rfl rfl h0 (q_X12_nextToken (d := d + 5) hE h0) ?_
  intro x3 m7
  exact w_X12_load_41 hE h0 _ _)
def f_X12_errorCode (H : fm_H) (v0 : Nat) (m : fm_M) : Option (Int32 × fm_M) :=
  fm_bd (fm_si m v0 7 (0 : Int32)) fun m1 =>
  some (m1.1 v0 15, m1)
set_option maxRecDepth 10000 in
theorem q_X12_errorCode {G : pm_G} {H : fm_H} {d : Nat} {z : Option Nat × Nat × Nat} {v0 : Nat} {m : fm_M} (hE : fm_E G H) (h0 : fm_is H v0 12) : fm_cal G H (d + 1) yX12_errorCode [.ref v0] z m fm_rI (f_X12_errorCode H v0 m) := fm_mth (d := d + 0) mt_X12_errorCode rfl rfl rfl (fun K => by
  show fm_o fm_rI (f_X12_errorCode H v0 m) K → fm_V G H (d + 0) RX12 cX12_errorCode (some (.int)) z K 0 [some (.ref v0)] [] m
  have T : fm_T RX12 cX12_errorCode tc_X12_errorCode fr_X12 mr_X12 cr_X12 lr_X12 := ⟨tok_X12, dc_X12_errorCode⟩
  unfold f_X12_errorCode
  refine fs_r T 2 2 [some (.ref v0)] [.int (0 : Int32), .ref v0] rfl ?_
  refine fs_pi T 5 12 7 v0 rfl rfl rfl rfl h0 ?_
  intro m1
  refine fs_r T 1 6 [some (.ref v0)] [.ref v0] rfl ?_
  refine fs_gi T 9 12 15 v0 rfl rfl rfl rfl h0 ?_
  exact fs_reti T rfl rfl rfl)
def f_X12_errorPosition (H : fm_H) (v0 : Nat) (m : fm_M) : Option (Int32 × fm_M) :=
  fm_bd (fm_si m v0 7 (0 : Int32)) fun m1 =>
  some (m1.1 v0 16, m1)
set_option maxRecDepth 10000 in
theorem q_X12_errorPosition {G : pm_G} {H : fm_H} {d : Nat} {z : Option Nat × Nat × Nat} {v0 : Nat} {m : fm_M} (hE : fm_E G H) (h0 : fm_is H v0 12) : fm_cal G H (d + 1) yX12_errorPosition [.ref v0] z m fm_rI (f_X12_errorPosition H v0 m) := fm_mth (d := d + 0) mt_X12_errorPosition rfl rfl rfl (fun K => by
  show fm_o fm_rI (f_X12_errorPosition H v0 m) K → fm_V G H (d + 0) RX12 cX12_errorPosition (some (.int)) z K 0 [some (.ref v0)] [] m
  have T : fm_T RX12 cX12_errorPosition tc_X12_errorPosition fr_X12 mr_X12 cr_X12 lr_X12 := ⟨tok_X12, dc_X12_errorPosition⟩
  unfold f_X12_errorPosition
  refine fs_r T 2 2 [some (.ref v0)] [.int (0 : Int32), .ref v0] rfl ?_
  refine fs_pi T 5 12 7 v0 rfl rfl rfl rfl h0 ?_
  intro m1
  refine fs_r T 1 6 [some (.ref v0)] [.ref v0] rfl ?_
  refine fs_gi T 9 12 16 v0 rfl rfl rfl rfl h0 ?_
  exact fs_reti T rfl rfl rfl)
def f_X12_addNode (H : fm_H) (v0 : Nat) (v1 : Int32) (m : fm_M) : Option (Int32 × fm_M) :=
  fm_bd (fm_si m v0 7 (0 : Int32)) fun m1 =>
  fm_bn (f_X12_isBetween H v1 (1 : Int32) (12 : Int32) m1) fun x1 m2 =>
  if x1 = 0 then
    fm_bn (f_X12_fail H v0 (1 : Int32) m2) fun x4 m5 =>
    some (x4, m5)
  else
  if px_inb (2 : Int32) (fm_sz H (H.2.1 v0 0)) = true then
    if m2.1 (H.2.1 v0 0) (2 : Int32).toNatClampNeg = (10 : Int32) then
      fm_bn (f_X12_fail H v0 (2 : Int32) m2) fun x3 m4 =>
      some (x3, m4)
    else
    fm_bn (f_X12_appendNode H v0 v1 m2) fun x2 m3 =>
    some (x2, m3)
  else none
set_option maxRecDepth 10000 in
theorem q_X12_addNode {G : pm_G} {H : fm_H} {d : Nat} {z : Option Nat × Nat × Nat} {v0 : Nat} {v1 : Int32} {m : fm_M} (hE : fm_E G H) (h0 : fm_is H v0 12) : fm_cal G H (d + 2) yX12_addNode [.ref v0, .int v1] z m fm_rI (f_X12_addNode H v0 v1 m) := fm_mth (d := d + 1) mt_X12_addNode rfl rfl rfl (fun K => by
  show fm_o fm_rI (f_X12_addNode H v0 v1 m) K → fm_V G H (d + 1) RX12 cX12_addNode (some (.int)) z K 0 [some (.ref v0), some (.int v1)] [] m
  have T : fm_T RX12 cX12_addNode tc_X12_addNode fr_X12 mr_X12 cr_X12 lr_X12 := ⟨tok_X12, dc_X12_addNode⟩
  unfold f_X12_addNode
  refine fs_r T 2 2 [some (.ref v0), some (.int v1)] [.int (0 : Int32), .ref v0] rfl ?_
  refine fs_pi T 5 12 7 v0 rfl rfl rfl rfl h0 ?_
  intro m1
  refine fs_r T 3 9 [some (.ref v0), some (.int v1)] [.int (12 : Int32), .int (1 : Int32), .int v1] rfl ?_
  refine fs_sI T 12 rfl rfl rfl rfl rfl rfl rfl (q_X12_isBetween (d := d) hE ) ?_
  intro x1 m2
  refine fs_if_ne T 21 15 rfl rfl rfl (fun _ => ?_) (fun _ => ?_)
  · refine fs_r T 2 17 [some (.ref v0), some (.int v1)] [.int (1 : Int32), .ref v0] rfl ?_
    refine fs_vI T 20 rfl rfl rfl rfl rfl rfl h0 (q_X12_fail (d := d) hE h0) ?_
    intro x4 m5
    exact fs_reti T rfl rfl rfl
  · refine fs_r T 1 22 [some (.ref v0), some (.int v1)] [.ref v0] rfl ?_
    refine fs_gs T 25 12 0 v0 rfl rfl rfl rfl h0 ?_
    refine fs_r T 1 26 [some (.ref v0), some (.int v1)] [.int (2 : Int32), .ref (H.2.1 v0 0)] rfl ?_
    refine fs_ai T 27 (H.2.1 v0 0) rfl rfl (hE.1 _ 12 0 h0) ?_
    refine fs_r T 1 29 [some (.ref v0), some (.int v1)] [.int (10 : Int32), .int (m2.1 (H.2.1 v0 0) (2 : Int32).toNatClampNeg)] rfl ?_
    refine fs_ic_ne T 40 32 rfl rfl rfl (fun _ => ?_) (fun _ => ?_)
    · refine fs_r T 2 34 [some (.ref v0), some (.int v1)] [.int (2 : Int32), .ref v0] rfl ?_
      refine fs_vI T 37 rfl rfl rfl rfl rfl rfl h0 (q_X12_fail (d := d) hE h0) ?_
      intro x3 m4
      refine fs_r T 1 45 [some (.ref v0), some (.int v1)] [.int x3] rfl ?_
      exact fs_reti T rfl rfl rfl
    · refine fs_r T 2 42 [some (.ref v0), some (.int v1)] [.int v1, .ref v0] rfl ?_
      refine fs_vI T 45 rfl rfl rfl rfl rfl rfl h0 (q_X12_appendNode (d := d) hE h0) ?_
      intro x2 m3
      exact fs_reti T rfl rfl rfl)
def f_X12_addLink (H : fm_H) (v0 : Nat) (v1 : Int32) (v2 : Int32) (v3 : Int32) (v4 : Int32) (m : fm_M) : Option (Int32 × fm_M) :=
  fm_bd (fm_si m v0 7 (0 : Int32)) fun m1 =>
  fm_bn (f_X12_isNode H v0 v1 m1) fun x1 m2 =>
  if x1 = 0 then
    fm_bn (f_X12_fail H v0 (1 : Int32) m2) fun x2 m3 =>
    some (x2, m3)
  else
  fm_bn (f_X12_isNode H v0 v2 m2) fun x3 m4 =>
  if x3 = 0 then
    fm_bn (f_X12_fail H v0 (1 : Int32) m4) fun x13 m14 =>
    some (x13, m14)
  else
  if v1 = v2 then
    fm_bn (f_X12_fail H v0 (2 : Int32) m4) fun x4 m5 =>
    some (x4, m5)
  else
  fm_bn (f_X12_isBetween H v3 (1 : Int32) (99 : Int32) m4) fun x5 m6 =>
  if x5 = 0 then
    fm_bn (f_X12_fail H v0 (2 : Int32) m6) fun x6 m7 =>
    some (x6, m7)
  else
  fm_bn (f_X12_isBetween H v4 (1 : Int32) (9 : Int32) m6) fun x7 m8 =>
  if x7 = 0 then
    fm_bn (f_X12_fail H v0 (2 : Int32) m8) fun x12 m13 =>
    some (x12, m13)
  else
  fm_bn (f_X12_linkOf H v0 v1 v2 m8) fun x8 m9 =>
  if x8 = (-1 : Int32) then
    if px_inb (3 : Int32) (fm_sz H (H.2.1 v0 0)) = true then
      if m9.1 (H.2.1 v0 0) (3 : Int32).toNatClampNeg = (16 : Int32) then
        fm_bn (f_X12_fail H v0 (3 : Int32) m9) fun x11 m12 =>
        some (x11, m12)
      else
      fm_bn (f_X12_appendLink H v0 v1 v2 v3 v4 m9) fun x10 m11 =>
      some (x10, m11)
    else none
  else
  fm_bn (f_X12_fail H v0 (3 : Int32) m9) fun x9 m10 =>
  some (x9, m10)
set_option maxRecDepth 10000 in
theorem q_X12_addLink {G : pm_G} {H : fm_H} {d : Nat} {z : Option Nat × Nat × Nat} {v0 : Nat} {v1 : Int32} {v2 : Int32} {v3 : Int32} {v4 : Int32} {m : fm_M} (hE : fm_E G H) (h0 : fm_is H v0 12) : fm_cal G H (d + 3) yX12_addLink [.ref v0, .int v1, .int v2, .int v3, .int v4] z m fm_rI (f_X12_addLink H v0 v1 v2 v3 v4 m) := fm_mth (d := d + 2) mt_X12_addLink rfl rfl rfl (fun K => by
  show fm_o fm_rI (f_X12_addLink H v0 v1 v2 v3 v4 m) K → fm_V G H (d + 2) RX12 cX12_addLink (some (.int)) z K 0 [some (.ref v0), some (.int v1), some (.int v2), some (.int v3), some (.int v4)] [] m
  have T : fm_T RX12 cX12_addLink tc_X12_addLink fr_X12 mr_X12 cr_X12 lr_X12 := ⟨tok_X12, dc_X12_addLink⟩
  unfold f_X12_addLink
  refine fs_r T 2 2 [some (.ref v0), some (.int v1), some (.int v2), some (.int v3), some (.int v4)] [.int (0 : Int32), .ref v0] rfl ?_
  refine fs_pi T 5 12 7 v0 rfl rfl rfl rfl h0 ?_
  intro m1
  refine fs_r T 2 7 [some (.ref v0), some (.int v1), some (.int v2), some (.int v3), some (.int v4)] [.int v1, .ref v0] rfl ?_
  refine fs_vI T 10 rfl rfl rfl rfl rfl rfl h0 (q_X12_isNode (d := d) hE h0) ?_
  intro x1 m2
  refine fs_if_eq T 21 13 rfl rfl rfl (fun _ => ?_) (fun _ => ?_)
  · refine fs_r T 2 23 [some (.ref v0), some (.int v1), some (.int v2), some (.int v3), some (.int v4)] [.int (1 : Int32), .ref v0] rfl ?_
    refine fs_vI T 26 rfl rfl rfl rfl rfl rfl h0 (q_X12_fail (d := d + 1) hE h0) ?_
    intro x2 m3
    exact fs_reti T rfl rfl rfl
  · refine fs_r T 2 15 [some (.ref v0), some (.int v1), some (.int v2), some (.int v3), some (.int v4)] [.int v2, .ref v0] rfl ?_
    refine fs_vI T 18 rfl rfl rfl rfl rfl rfl h0 (q_X12_isNode (d := d) hE h0) ?_
    intro x3 m4
    refine fs_if_ne T 27 21 rfl rfl rfl (fun _ => ?_) (fun _ => ?_)
    · refine fs_r T 2 23 [some (.ref v0), some (.int v1), some (.int v2), some (.int v3), some (.int v4)] [.int (1 : Int32), .ref v0] rfl ?_
      refine fs_vI T 26 rfl rfl rfl rfl rfl rfl h0 (q_X12_fail (d := d + 1) hE h0) ?_
      intro x13 m14
      exact fs_reti T rfl rfl rfl
    · refine fs_r T 2 29 [some (.ref v0), some (.int v1), some (.int v2), some (.int v3), some (.int v4)] [.int v2, .int v1] rfl ?_
      refine fs_ic_eq T 53 32 rfl rfl rfl (fun _ => ?_) (fun _ => ?_)
      · refine fs_r T 2 55 [some (.ref v0), some (.int v1), some (.int v2), some (.int v3), some (.int v4)] [.int (2 : Int32), .ref v0] rfl ?_
        refine fs_vI T 58 rfl rfl rfl rfl rfl rfl h0 (q_X12_fail (d := d + 1) hE h0) ?_
        intro x4 m5
        exact fs_reti T rfl rfl rfl
      · refine fs_r T 3 36 [some (.ref v0), some (.int v1), some (.int v2), some (.int v3), some (.int v4)] [.int (99 : Int32), .int (1 : Int32), .int v3] rfl ?_
        refine fs_sI T 39 rfl rfl rfl rfl rfl rfl rfl (q_X12_isBetween (d := d + 1) hE ) ?_
        intro x5 m6
        refine fs_if_eq T 53 42 rfl rfl rfl (fun _ => ?_) (fun _ => ?_)
        · refine fs_r T 2 55 [some (.ref v0), some (.int v1), some (.int v2), some (.int v3), some (.int v4)] [.int (2 : Int32), .ref v0] rfl ?_
          refine fs_vI T 58 rfl rfl rfl rfl rfl rfl h0 (q_X12_fail (d := d + 1) hE h0) ?_
          intro x6 m7
          exact fs_reti T rfl rfl rfl
        · refine fs_r T 3 47 [some (.ref v0), some (.int v1), some (.int v2), some (.int v3), some (.int v4)] [.int (9 : Int32), .int (1 : Int32), .int v4] rfl ?_
          refine fs_sI T 50 rfl rfl rfl rfl rfl rfl rfl (q_X12_isBetween (d := d + 1) hE ) ?_
          intro x7 m8
          refine fs_if_ne T 59 53 rfl rfl rfl (fun _ => ?_) (fun _ => ?_)
          · refine fs_r T 2 55 [some (.ref v0), some (.int v1), some (.int v2), some (.int v3), some (.int v4)] [.int (2 : Int32), .ref v0] rfl ?_
            refine fs_vI T 58 rfl rfl rfl rfl rfl rfl h0 (q_X12_fail (d := d + 1) hE h0) ?_
            intro x12 m13
            exact fs_reti T rfl rfl rfl
          · refine fs_r T 3 62 [some (.ref v0), some (.int v1), some (.int v2), some (.int v3), some (.int v4)] [.int v2, .int v1, .ref v0] rfl ?_
            refine fs_vI T 65 rfl rfl rfl rfl rfl rfl h0 (q_X12_linkOf (d := d) hE h0) ?_
            intro x8 m9
            refine fs_r T 1 66 [some (.ref v0), some (.int v1), some (.int v2), some (.int v3), some (.int v4)] [.int (-1 : Int32), .int x8] rfl ?_
            refine fs_ic_ne T 80 69 rfl rfl rfl (fun _ => ?_) (fun _ => ?_)
            · refine fs_r T 1 70 [some (.ref v0), some (.int v1), some (.int v2), some (.int v3), some (.int v4)] [.ref v0] rfl ?_
              refine fs_gs T 73 12 0 v0 rfl rfl rfl rfl h0 ?_
              refine fs_r T 1 74 [some (.ref v0), some (.int v1), some (.int v2), some (.int v3), some (.int v4)] [.int (3 : Int32), .ref (H.2.1 v0 0)] rfl ?_
              refine fs_ai T 75 (H.2.1 v0 0) rfl rfl (hE.1 _ 12 0 h0) ?_
              refine fs_r T 1 77 [some (.ref v0), some (.int v1), some (.int v2), some (.int v3), some (.int v4)] [.int (16 : Int32), .int (m9.1 (H.2.1 v0 0) (3 : Int32).toNatClampNeg)] rfl ?_
              refine fs_ic_ne T 88 80 rfl rfl rfl (fun _ => ?_) (fun _ => ?_)
              · refine fs_r T 2 82 [some (.ref v0), some (.int v1), some (.int v2), some (.int v3), some (.int v4)] [.int (3 : Int32), .ref v0] rfl ?_
                refine fs_vI T 85 rfl rfl rfl rfl rfl rfl h0 (q_X12_fail (d := d + 1) hE h0) ?_
                intro x11 m12
                refine fs_r T 1 97 [some (.ref v0), some (.int v1), some (.int v2), some (.int v3), some (.int v4)] [.int x11] rfl ?_
                exact fs_reti T rfl rfl rfl
              · refine fs_r T 5 94 [some (.ref v0), some (.int v1), some (.int v2), some (.int v3), some (.int v4)] [.int v4, .int v3, .int v2, .int v1, .ref v0] rfl ?_
                refine fs_vI T 97 rfl rfl rfl rfl rfl rfl h0 (q_X12_appendLink (d := d + 1) hE h0) ?_
                intro x10 m11
                exact fs_reti T rfl rfl rfl
            · refine fs_r T 2 82 [some (.ref v0), some (.int v1), some (.int v2), some (.int v3), some (.int v4)] [.int (3 : Int32), .ref v0] rfl ?_
              refine fs_vI T 85 rfl rfl rfl rfl rfl rfl h0 (q_X12_fail (d := d + 1) hE h0) ?_
              intro x9 m10
              refine fs_r T 1 97 [some (.ref v0), some (.int v1), some (.int v2), some (.int v3), some (.int v4)] [.int x9] rfl ?_
              exact fs_reti T rfl rfl rfl)
def f_X12_removePacket_20 (H : fm_H) (v0 : Nat) : Nat → Int32 → fm_M → Option (Unit × fm_M)
  | 0, _, _ => none
  | n + 1, v2, m =>
    if px_inb (6 : Int32) (fm_sz H (H.2.1 v0 0)) = true then
      if ((632 : Int32) + ((8 : Int32) * m.1 (H.2.1 v0 0) (6 : Int32).toNatClampNeg)) ≤ v2 then
        some ((), m)
      else
      if px_inb (v2 + (8 : Int32)) (fm_sz H (H.2.1 v0 0)) = true then
        if px_inb v2 (fm_sz H (H.2.1 v0 0)) = true then
          (fm_bd (fm_si m (H.2.1 v0 0) v2.toNatClampNeg (m.1 (H.2.1 v0 0) (v2 + (8 : Int32)).toNatClampNeg)) fun m1 =>
          f_X12_removePacket_20 H v0 n (v2 + 1) m1)
        else none
      else none
    else none
set_option maxRecDepth 10000 in
theorem w_X12_removePacket_20 {G : pm_G} {H : fm_H} {d : Nat} {z : Option Nat × Nat × Nat} {K : pm_R → fm_M → Prop} (hE : fm_E G H) {v0 : Nat} (h0 : fm_is H v0 12) : ∀ (n : Nat) (v2 : Int32) (m : fm_M), fm_o fm_rV (f_X12_removePacket_20 H v0 n v2 m) K → fm_V G H (d + 0) RX12 cX12_removePacket none z K 20 [some (.ref v0), none, some (.int v2)] [] m := by
  have T : fm_T RX12 cX12_removePacket tc_X12_removePacket fr_X12 mr_X12 cr_X12 lr_X12 := ⟨tok_X12, dc_X12_removePacket⟩
  intro n
  induction n with
  | zero =>
    intro v2 m 
    exact fs_none
  | succ n ih =>
    intro v2 m 
    unfold f_X12_removePacket_20
    refine fs_r T 4 27 [some (.ref v0), none, some (.int v2)] [.ref v0, .int (8 : Int32), .int (632 : Int32), .int v2] rfl ?_
    refine fs_gs T 30 12 0 v0 rfl rfl rfl rfl h0 ?_
    refine fs_r T 1 32 [some (.ref v0), none, some (.int v2)] [.int (6 : Int32), .ref (H.2.1 v0 0), .int (8 : Int32), .int (632 : Int32), .int v2] rfl ?_
    refine fs_ai T 33 (H.2.1 v0 0) rfl rfl (hE.1 _ 12 0 h0) ?_
    refine fs_r T 2 35 [some (.ref v0), none, some (.int v2)] [.int ((632 : Int32) + ((8 : Int32) * m.1 (H.2.1 v0 0) (6 : Int32).toNatClampNeg)), .int v2] rfl ?_
    refine fs_ic_ge T 59 38 rfl rfl rfl (fun _ => ?_) (fun _ => ?_)
    · exact fs_retv T rfl rfl rfl
    · refine fs_r T 1 39 [some (.ref v0), none, some (.int v2)] [.ref v0] rfl ?_
      refine fs_gs T 42 12 0 v0 rfl rfl rfl rfl h0 ?_
      refine fs_r T 2 44 [some (.ref v0), none, some (.int v2)] [.ref v0, .int v2, .ref (H.2.1 v0 0)] rfl ?_
      refine fs_gs T 47 12 0 v0 rfl rfl rfl rfl h0 ?_
      refine fs_r T 3 51 [some (.ref v0), none, some (.int v2)] [.int (v2 + (8 : Int32)), .ref (H.2.1 v0 0), .int v2, .ref (H.2.1 v0 0)] rfl ?_
      refine fs_ai T 52 (H.2.1 v0 0) rfl rfl (hE.1 _ 12 0 h0) ?_
      refine fs_si T 53 (H.2.1 v0 0) rfl rfl (hE.1 _ 12 0 h0) ?_
      intro m1
      refine fs_r T 2 20 [some (.ref v0), none, some (.int (v2 + 1))] [] rfl ?_
      exact ih _ _
def f_X12_removePacket (H : fm_H) (v0 : Nat) (v1 : Int32) (m : fm_M) : Option (Unit × fm_M) :=
  if px_inb (6 : Int32) (fm_sz H (H.2.1 v0 0)) = true then
    if px_inb (6 : Int32) (fm_sz H (H.2.1 v0 0)) = true then
      (fm_bd (fm_si m (H.2.1 v0 0) (6 : Int32).toNatClampNeg (m.1 (H.2.1 v0 0) (6 : Int32).toNatClampNeg - (1 : Int32))) fun m1 =>
      f_X12_removePacket_20 H v0 fm_N ((632 : Int32) + ((8 : Int32) * v1)) m1)
    else none
  else none
set_option maxRecDepth 10000 in
theorem q_X12_removePacket {G : pm_G} {H : fm_H} {d : Nat} {z : Option Nat × Nat × Nat} {v0 : Nat} {v1 : Int32} {m : fm_M} (hE : fm_E G H) (h0 : fm_is H v0 12) : fm_cal G H (d + 1) yX12_removePacket [.ref v0, .int v1] z m fm_rV (f_X12_removePacket H v0 v1 m) := fm_mth (d := d + 0) mt_X12_removePacket rfl rfl rfl (fun K => by
  show fm_o fm_rV (f_X12_removePacket H v0 v1 m) K → fm_V G H (d + 0) RX12 cX12_removePacket none z K 0 [some (.ref v0), some (.int v1), none] [] m
  have T : fm_T RX12 cX12_removePacket tc_X12_removePacket fr_X12 mr_X12 cr_X12 lr_X12 := ⟨tok_X12, dc_X12_removePacket⟩
  unfold f_X12_removePacket
  refine fs_r T 1 1 [some (.ref v0), some (.int v1), none] [.ref v0] rfl ?_
  refine fs_gs T 4 12 0 v0 rfl rfl rfl rfl h0 ?_
  refine fs_r T 2 7 [some (.ref v0), some (.int v1), none] [.int (6 : Int32), .ref (H.2.1 v0 0), .int (6 : Int32), .ref (H.2.1 v0 0)] rfl ?_
  refine fs_ai T 8 (H.2.1 v0 0) rfl rfl (hE.1 _ 12 0 h0) ?_
  refine fs_r T 2 10 [some (.ref v0), some (.int v1), none] [.int (m.1 (H.2.1 v0 0) (6 : Int32).toNatClampNeg - (1 : Int32)), .int (6 : Int32), .ref (H.2.1 v0 0)] rfl ?_
  refine fs_si T 11 (H.2.1 v0 0) rfl rfl (hE.1 _ 12 0 h0) ?_
  intro m1
  refine fs_r T 6 20 [some (.ref v0), some (.int v1), some (.int ((632 : Int32) + ((8 : Int32) * v1)))] [] rfl ?_
  refine fs_wk (ls' := [some (.ref v0), none, some (.int ((632 : Int32) + ((8 : Int32) * v1)))]) ⟨rfl, rfl, trivial⟩ ?_
  exact w_X12_removePacket_20 hE h0 _ _ _)
