/-! functions out of the code -/
def f_X7_makeEntries_2 (H : fm_H) (v0 : Nat) (v1 : Nat) : Nat → Int32 → fm_M → Option (Unit × fm_M)
  | 0, _, _ => none
  | n + 1, v2, m =>
    if m.1 v1 0 ≤ v2 then
      some ((), m)
    else
    fm_bn (f_X10_slotAt H v1 v2 m) fun x1 m1 =>
    fm_bn (f_X2_makeEntry H (H.2.1 v0 1) x1 m1) fun _ m2 =>
    f_X7_makeEntries_2 H v0 v1 n (v2 + 1) m2
set_option maxRecDepth 10000 in
theorem w_X7_makeEntries_2 {G : pm_G} {H : fm_H} {d : Nat} {z : Option Nat × Nat × Nat} {K : pm_R → fm_M → Prop} (hE : fm_E G H) {v0 : Nat} {v1 : Nat} (h0 : fm_is H v0 7) (h1 : fm_is H v1 10) : ∀ (n : Nat) (v2 : Int32) (m : fm_M), fm_o fm_rV (f_X7_makeEntries_2 H v0 v1 n v2 m) K → fm_V G H (d + 2) RX7 cX7_makeEntries none z K 2 [some (.ref v0), some (.ref v1), some (.int v2)] [] m := by
  have T : fm_T RX7 cX7_makeEntries tc_X7_makeEntries fr_X7 mr_X7 cr_X7 lr_X7 := ⟨tok_X7, dc_X7_makeEntries⟩
  intro n
  induction n with
  | zero =>
    intro v2 m 
    exact fs_none
  | succ n ih =>
    intro v2 m 
    unfold f_X7_makeEntries_2
    refine fs_r T 2 4 [some (.ref v0), some (.ref v1), some (.int v2)] [.ref v1, .int v2] rfl ?_
    refine fs_gi T 7 10 0 v1 rfl rfl rfl rfl h1 ?_
    refine fs_ic_ge T 28 10 rfl rfl rfl (fun _ => ?_) (fun _ => ?_)
    · exact fs_retv T rfl rfl rfl
    · refine fs_r T 1 11 [some (.ref v0), some (.ref v1), some (.int v2)] [.ref v0] rfl ?_
      refine fs_gs T 14 7 1 v0 rfl rfl rfl rfl h0 ?_
      refine fs_r T 2 16 [some (.ref v0), some (.ref v1), some (.int v2)] [.int v2, .ref v1, .ref (H.2.1 v0 1)] rfl ?_
      refine fs_vI T 19 rfl rfl rfl rfl rfl rfl h1 (q_X10_slotAt (d := d + 1) hE h1) ?_
      intro x1 m1
      refine fs_vV T 22 rfl rfl rfl rfl rfl rfl (hE.1 _ 7 1 h0) (q_X2_makeEntry (d := d) hE (hE.1 _ 7 1 h0)) ?_
      intro x2 m2
      refine fs_r T 2 2 [some (.ref v0), some (.ref v1), some (.int (v2 + 1))] [] rfl ?_
      exact ih _ _
def f_X7_makeEntries (H : fm_H) (v0 : Nat) (v1 : Nat) (m : fm_M) : Option (Unit × fm_M) :=
  f_X7_makeEntries_2 H v0 v1 fm_N (1 : Int32) m
set_option maxRecDepth 10000 in
theorem q_X7_makeEntries {G : pm_G} {H : fm_H} {d : Nat} {z : Option Nat × Nat × Nat} {v0 : Nat} {v1 : Nat} {m : fm_M} (hE : fm_E G H) (h0 : fm_is H v0 7) (h1 : fm_is H v1 10) : fm_cal G H (d + 3) yX7_makeEntries [.ref v0, .ref v1] z m fm_rV (f_X7_makeEntries H v0 v1 m) := fm_mth (d := d + 2) mt_X7_makeEntries rfl rfl rfl (fun K => by
  show fm_o fm_rV (f_X7_makeEntries H v0 v1 m) K → fm_V G H (d + 2) RX7 cX7_makeEntries none z K 0 [some (.ref v0), some (.ref v1), none] [] m
  have T : fm_T RX7 cX7_makeEntries tc_X7_makeEntries fr_X7 mr_X7 cr_X7 lr_X7 := ⟨tok_X7, dc_X7_makeEntries⟩
  unfold f_X7_makeEntries
  refine fs_r T 2 2 [some (.ref v0), some (.ref v1), some (.int (1 : Int32))] [] rfl ?_
  exact w_X7_makeEntries_2 hE h0 h1 _ _ _)
def f_X6_readCircuit_118 (H : fm_H) (v0 : Nat) (v1 : Nat) (v5 : Nat) (m : fm_M) : Option (Unit × fm_M) :=
  if m.1 v0 1 = 0 then
    if fm_isb H (m.2.1 v5 13) 10 = true then
      fm_bn (f_X7_makeEntries H v1 (m.2.1 v5 13) m) fun _ m1 =>
      fm_bd (fm_si m1 v1 5 (m1.1 v1 5 + (1 : Int32))) fun m2 =>
      some ((), m2)
    else none
  else
  some ((), m)
set_option maxRecDepth 10000 in
theorem w_X6_readCircuit_118 {G : pm_G} {H : fm_H} {d : Nat} {z : Option Nat × Nat × Nat} {K : pm_R → fm_M → Prop} (hE : fm_E G H) {v0 : Nat} {v1 : Nat} {v5 : Nat} (h0 : fm_is H v0 6) (h1 : fm_is H v1 7) (h5 : fm_is H v5 0) : ∀ (m : fm_M), fm_o fm_rV (f_X6_readCircuit_118 H v0 v1 v5 m) K → fm_V G H (d + 4) RX6 cX6_readCircuit none z K 118 [some (.ref v0), some (.ref v1), none, none, none, some (.ref v5), none] [] m := by
  have T : fm_T RX6 cX6_readCircuit tc_X6_readCircuit fr_X6 mr_X6 cr_X6 lr_X6 := ⟨tok_X6, dc_X6_readCircuit⟩
  intro m
  unfold f_X6_readCircuit_118
  refine fs_r T 1 119 [some (.ref v0), some (.ref v1), none, none, none, some (.ref v5), none] [.ref v0] rfl ?_
  refine fs_gi T 122 6 1 v0 rfl rfl rfl rfl h0 ?_
  refine fs_if_ne T 144 125 rfl rfl rfl (fun _ => ?_) (fun _ => ?_)
  · refine fs_r T 2 128 [some (.ref v0), some (.ref v1), none, none, none, some (.ref v5), none] [.ref v5, .ref v1] rfl ?_
    refine fs_gp T 131 0 13 v5 10 rfl rfl rfl rfl h5 ?_
    intro e1
    refine fs_vV T 134 rfl rfl rfl rfl rfl rfl h1 (q_X7_makeEntries (d := d + 1) hE h1 e1) ?_
    intro x1 m1
    refine fs_r T 2 136 [some (.ref v0), some (.ref v1), none, none, none, some (.ref v5), none] [.ref v1, .ref v1] rfl ?_
    refine fs_gi T 139 7 5 v1 rfl rfl rfl rfl h1 ?_
    refine fs_r T 2 141 [some (.ref v0), some (.ref v1), none, none, none, some (.ref v5), none] [.int (m1.1 v1 5 + (1 : Int32)), .ref v1] rfl ?_
    refine fs_pi T 144 7 5 v1 rfl rfl rfl rfl h1 ?_
    intro m2
    exact fs_retv T rfl rfl rfl
  · exact fs_retv T rfl rfl rfl
def f_X6_readCircuit_86 (H : fm_H) (v0 : Nat) (v1 : Nat) (v5 : Nat) : Nat → Int32 → fm_M → Option (Unit × fm_M)
  | 0, _, _ => none
  | n + 1, v6, m =>
    if (6 : Int32) < v6 then
      f_X6_readCircuit_118 H v0 v1 v5 m
    else
    if fm_isb H (m.2.1 v5 13) 10 = true then
      fm_bn (f_X6_isWayRead H v0 (m.2.1 v5 13) m) fun x1 m1 =>
      if x1 = 0 then
        fm_bn (f_X6_readWayNode H v0 v1 v5 m1) fun _ m2 =>
        f_X6_readCircuit_86 H v0 v1 v5 n (v6 + 1) m2
      else
      f_X6_readCircuit_118 H v0 v1 v5 m1
    else none
set_option maxRecDepth 10000 in
theorem w_X6_readCircuit_86 {G : pm_G} {H : fm_H} {d : Nat} {z : Option Nat × Nat × Nat} {K : pm_R → fm_M → Prop} (hE : fm_E G H) {v0 : Nat} {v1 : Nat} {v5 : Nat} (h0 : fm_is H v0 6) (h1 : fm_is H v1 7) (h5 : fm_is H v5 0) : ∀ (n : Nat) (v6 : Int32) (m : fm_M), fm_o fm_rV (f_X6_readCircuit_86 H v0 v1 v5 n v6 m) K → fm_V G H (d + 4) RX6 cX6_readCircuit none z K 86 [some (.ref v0), some (.ref v1), none, none, none, some (.ref v5), some (.int v6)] [] m := by
  have T : fm_T RX6 cX6_readCircuit tc_X6_readCircuit fr_X6 mr_X6 cr_X6 lr_X6 := ⟨tok_X6, dc_X6_readCircuit⟩
  intro n
  induction n with
  | zero =>
    intro v6 m 
    exact fs_none
  | succ n ih =>
    intro v6 m 
    unfold f_X6_readCircuit_86
    refine fs_r T 2 90 [some (.ref v0), some (.ref v1), none, none, none, some (.ref v5), some (.int v6)] [.int (6 : Int32), .int v6] rfl ?_
    refine fs_ic_gt T 118 93 rfl rfl rfl (fun _ => ?_) (fun _ => ?_)
    · refine fs_wk (ls' := [some (.ref v0), some (.ref v1), none, none, none, some (.ref v5), none]) ⟨rfl, rfl, rfl, trivial⟩ ?_
      exact w_X6_readCircuit_118 hE h0 h1 h5 _
    · refine fs_r T 2 96 [some (.ref v0), some (.ref v1), none, none, none, some (.ref v5), some (.int v6)] [.ref v5, .ref v0] rfl ?_
      refine fs_gp T 99 0 13 v5 10 rfl rfl rfl rfl h5 ?_
      intro e2
      refine fs_vI T 102 rfl rfl rfl rfl rfl rfl h0 (q_X6_isWayRead (d := d + 3) hE h0 e2) ?_
      intro x1 m1
      refine fs_if_ne T 118 105 rfl rfl rfl (fun _ => ?_) (fun _ => ?_)
      · refine fs_r T 3 109 [some (.ref v0), some (.ref v1), none, none, none, some (.ref v5), some (.int v6)] [.ref v5, .ref v1, .ref v0] rfl ?_
        refine fs_vV T 112 rfl rfl rfl rfl rfl rfl h0 (q_X6_readWayNode (d := d) hE h0 h1 h5) ?_
        intro x2 m2
        refine fs_r T 2 86 [some (.ref v0), some (.ref v1), none, none, none, some (.ref v5), some (.int (v6 + 1))] [] rfl ?_
        exact ih _ _
      · refine fs_wk (ls' := [some (.ref v0), some (.ref v1), none, none, none, some (.ref v5), none]) ⟨rfl, rfl, rfl, trivial⟩ ?_
        exact w_X6_readCircuit_118 hE h0 h1 h5 _
def f_X6_readCircuit (H : fm_H) (v0 : Nat) (v1 : Nat) (m : fm_M) : Option (Unit × fm_M) :=
  fm_bn (f_X6_passFirstWord H v0 (m.1 v1 5) (8 : Int32) m) fun x1 m1 =>
  if x1 = 0 then
    some ((), m1)
  else
  fm_bn (f_X6_passNumber H v0 (1 : Int32) (20 : Int32) m1) fun x2 m2 =>
  fm_bn (f_X6_passNumber H v0 (0 : Int32) (9 : Int32) m2) fun x3 m3 =>
  fm_bn (f_X6_passNumber H v0 (0 : Int32) (m3.1 (H.2.1 v1 0) 0 - (1 : Int32)) m3) fun x4 m4 =>
  if m4.1 v0 1 = 0 then
    if px_inb (m4.1 v1 5) (fm_sz H (H.2.1 v1 3)) = true then
      (if fm_isb H (m4.2.1 (H.2.1 v1 3) (m4.1 v1 5).toNatClampNeg) 0 = true then
        fm_bn (f_X0_begin H (m4.2.1 (H.2.1 v1 3) (m4.1 v1 5).toNatClampNeg) x2 x3 m4) fun _ m5 =>
        if fm_isb H (m5.2.1 (m4.2.1 (H.2.1 v1 3) (m4.1 v1 5).toNatClampNeg) 13) 10 = true then
          fm_bn (f_X10_append H (m5.2.1 (m4.2.1 (H.2.1 v1 3) (m4.1 v1 5).toNatClampNeg) 13) x4 (-1 : Int32) m5) fun _ m6 =>
          f_X6_readCircuit_86 H v0 v1 (m4.2.1 (H.2.1 v1 3) (m4.1 v1 5).toNatClampNeg) fm_N (1 : Int32) m6
        else none
      else none)
    else none
  else
  some ((), m4)
set_option maxRecDepth 10000 in
theorem q_X6_readCircuit {G : pm_G} {H : fm_H} {d : Nat} {z : Option Nat × Nat × Nat} {v0 : Nat} {v1 : Nat} {m : fm_M} (hE : fm_E G H) (h0 : fm_is H v0 6) (h1 : fm_is H v1 7) : fm_cal G H (d + 5) yX6_readCircuit [.ref v0, .ref v1] z m fm_rV (f_X6_readCircuit H v0 v1 m) := fm_mth (d := d + 4) mt_X6_readCircuit rfl rfl rfl (fun K => by
  show fm_o fm_rV (f_X6_readCircuit H v0 v1 m) K → fm_V G H (d + 4) RX6 cX6_readCircuit none z K 0 [some (.ref v0), some (.ref v1), none, none, none, none, none] [] m
  have T : fm_T RX6 cX6_readCircuit tc_X6_readCircuit fr_X6 mr_X6 cr_X6 lr_X6 := ⟨tok_X6, dc_X6_readCircuit⟩
  unfold f_X6_readCircuit
  refine fs_r T 2 2 [some (.ref v0), some (.ref v1), none, none, none, none, none] [.ref v1, .ref v0] rfl ?_
  refine fs_gi T 5 7 5 v1 rfl rfl rfl rfl h1 ?_
  refine fs_r T 1 7 [some (.ref v0), some (.ref v1), none, none, none, none, none] [.int (8 : Int32), .int (m.1 v1 5), .ref v0] rfl ?_
  refine fs_vI T 10 rfl rfl rfl rfl rfl rfl h0 (q_X6_passFirstWord (d := d) hE h0) ?_
  intro x1 m1
  refine fs_if_ne T 14 13 rfl rfl rfl (fun _ => ?_) (fun _ => ?_)
  · exact fs_retv T rfl rfl rfl
  · refine fs_r T 3 18 [some (.ref v0), some (.ref v1), none, none, none, none, none] [.int (20 : Int32), .int (1 : Int32), .ref v0] rfl ?_
    refine fs_vI T 21 rfl rfl rfl rfl rfl rfl h0 (q_X6_passNumber (d := d) hE h0) ?_
    intro x2 m2
    refine fs_r T 4 26 [some (.ref v0), some (.ref v1), some (.int x2), none, none, none, none] [.int (9 : Int32), .int (0 : Int32), .ref v0] rfl ?_
    refine fs_vI T 29 rfl rfl rfl rfl rfl rfl h0 (q_X6_passNumber (d := d) hE h0) ?_
    intro x3 m3
    refine fs_r T 4 33 [some (.ref v0), some (.ref v1), some (.int x2), some (.int x3), none, none, none] [.ref v1, .int (0 : Int32), .ref v0] rfl ?_
    refine fs_gs T 36 7 0 v1 rfl rfl rfl rfl h1 ?_
    refine fs_gi T 39 4 0 (H.2.1 v1 0) rfl rfl rfl rfl (hE.1 _ 7 0 h1) ?_
    refine fs_r T 2 41 [some (.ref v0), some (.ref v1), some (.int x2), some (.int x3), none, none, none] [.int (m3.1 (H.2.1 v1 0) 0 - (1 : Int32)), .int (0 : Int32), .ref v0] rfl ?_
    refine fs_vI T 44 rfl rfl rfl rfl rfl rfl h0 (q_X6_passNumber (d := d) hE h0) ?_
    intro x4 m4
    refine fs_r T 2 47 [some (.ref v0), some (.ref v1), some (.int x2), some (.int x3), some (.int x4), none, none] [.ref v0] rfl ?_
    refine fs_gi T 50 6 1 v0 rfl rfl rfl rfl h0 ?_
    refine fs_if_eq T 54 53 rfl rfl rfl (fun _ => ?_) (fun _ => ?_)
    · refine fs_r T 1 55 [some (.ref v0), some (.ref v1), some (.int x2), some (.int x3), some (.int x4), none, none] [.ref v1] rfl ?_
      refine fs_gs T 58 7 3 v1 rfl rfl rfl rfl h1 ?_
      refine fs_r T 1 59 [some (.ref v0), some (.ref v1), some (.int x2), some (.int x3), some (.int x4), none, none] [.ref v1, .ref (H.2.1 v1 3)] rfl ?_
      refine fs_gi T 62 7 5 v1 rfl rfl rfl rfl h1 ?_
      refine fs_aa T 63 (H.2.1 v1 3) 0 rfl rfl (hE.1 _ 7 3 h1) ?_
      intro e3
      refine fs_r T 4 69 [some (.ref v0), some (.ref v1), some (.int x2), some (.int x3), some (.int x4), some (.ref (m4.2.1 (H.2.1 v1 3) (m4.1 v1 5).toNatClampNeg)), none] [.int x3, .int x2, .ref (m4.2.1 (H.2.1 v1 3) (m4.1 v1 5).toNatClampNeg)] rfl ?_
      refine fs_vV T 72 rfl rfl rfl rfl rfl rfl e3 (q_X0_begin (d := d + 2) hE e3) ?_
      intro x5 m5
      refine fs_r T 1 74 [some (.ref v0), some (.ref v1), some (.int x2), some (.int x3), some (.int x4), some (.ref (m4.2.1 (H.2.1 v1 3) (m4.1 v1 5).toNatClampNeg)), none] [.ref (m4.2.1 (H.2.1 v1 3) (m4.1 v1 5).toNatClampNeg)] rfl ?_
      refine fs_gp T 77 0 13 (m4.2.1 (H.2.1 v1 3) (m4.1 v1 5).toNatClampNeg) 10 rfl rfl rfl rfl e3 ?_
      intro e4
      refine fs_r T 2 80 [some (.ref v0), some (.ref v1), some (.int x2), some (.int x3), some (.int x4), some (.ref (m4.2.1 (H.2.1 v1 3) (m4.1 v1 5).toNatClampNeg)), none] [.int (-1 : Int32), .int x4, .ref (m5.2.1 (m4.2.1 (H.2.1 v1 3) (m4.1 v1 5).toNatClampNeg) 13)] rfl ?_
      refine fs_vV T 83 rfl rfl rfl rfl rfl rfl e4 (q_X10_append (d := d + 3) hE e4) ?_
      intro x6 m6
      refine fs_r T 2 86 [some (.ref v0), some (.ref v1), some (.int x2), some (.int x3), some (.int x4), some (.ref (m4.2.1 (H.2.1 v1 3) (m4.1 v1 5).toNatClampNeg)), some (.int (1 : Int32))] [] rfl ?_
      refine fs_wk (ls' := [some (.ref v0), some (.ref v1), none, none, none, some (.ref (m4.2.1 (H.2.1 v1 3) (m4.1 v1 5).toNatClampNeg)), some (.int (1 : Int32))]) ⟨rfl, rfl, rfl, rfl, trivial⟩ ?_
      exact w_X6_readCircuit_86 hE h0 h1 e3 _ _ _
    · exact fs_retv T rfl rfl rfl)
def f_X6_readLink_74 (H : fm_H) (v0 : Nat) (v1 : Nat) (v3 : Int32) (v4 : Int32) (m : fm_M) : Option (Unit × fm_M) :=
  fm_bn (f_X6_passToken H v0 m) fun _ m1 =>
  fm_bn (f_X6_passNumber H v0 (1 : Int32) (99 : Int32) m1) fun x2 m2 =>
  fm_bn (f_X6_passNumber H v0 (1 : Int32) (9 : Int32) m2) fun x3 m3 =>
  if m3.1 v0 1 = 0 then
    fm_bn (f_X4_appendLink H (H.2.1 v1 0) v3 v4 x2 x3 m3) fun x4 m4 =>
    some ((), m4)
  else
  some ((), m3)
set_option maxRecDepth 10000 in
theorem w_X6_readLink_74 {G : pm_G} {H : fm_H} {d : Nat} {z : Option Nat × Nat × Nat} {K : pm_R → fm_M → Prop} (hE : fm_E G H) {v0 : Nat} {v1 : Nat} {v3 : Int32} {v4 : Int32} (h0 : fm_is H v0 6) (h1 : fm_is H v1 7) : ∀ (m : fm_M), fm_o fm_rV (f_X6_readLink_74 H v0 v1 v3 v4 m) K → fm_V G H (d + 4) RX6 cX6_readLink none z K 74 [some (.ref v0), some (.ref v1), none, some (.int v3), some (.int v4), none, none] [] m := by
  have T : fm_T RX6 cX6_readLink tc_X6_readLink fr_X6 mr_X6 cr_X6 lr_X6 := ⟨tok_X6, dc_X6_readLink⟩
  intro m
  unfold f_X6_readLink_74
  refine fs_r T 1 75 [some (.ref v0), some (.ref v1), none, some (.int v3), some (.int v4), none, none] [.ref v0] rfl ?_
  refine fs_vV T 78 rfl rfl rfl rfl rfl rfl h0 (q_X6_passToken (d := d + 1) hE h0) ?_
  intro x1 m1
  refine fs_r T 3 82 [some (.ref v0), some (.ref v1), none, some (.int v3), some (.int v4), none, none] [.int (99 : Int32), .int (1 : Int32), .ref v0] rfl ?_
  refine fs_vI T 85 rfl rfl rfl rfl rfl rfl h0 (q_X6_passNumber (d := d) hE h0) ?_
  intro x2 m2
  refine fs_r T 4 91 [some (.ref v0), some (.ref v1), none, some (.int v3), some (.int v4), some (.int x2), none] [.int (9 : Int32), .int (1 : Int32), .ref v0] rfl ?_
  refine fs_vI T 94 rfl rfl rfl rfl rfl rfl h0 (q_X6_passNumber (d := d) hE h0) ?_
  intro x3 m3
  refine fs_r T 2 97 [some (.ref v0), some (.ref v1), none, some (.int v3), some (.int v4), some (.int x2), some (.int x3)] [.ref v0] rfl ?_
  refine fs_gi T 100 6 1 v0 rfl rfl rfl rfl h0 ?_
  refine fs_if_ne T 118 103 rfl rfl rfl (fun _ => ?_) (fun _ => ?_)
  · refine fs_r T 1 104 [some (.ref v0), some (.ref v1), none, some (.int v3), some (.int v4), some (.int x2), some (.int x3)] [.ref v1] rfl ?_
    refine fs_gs T 107 7 0 v1 rfl rfl rfl rfl h1 ?_
    refine fs_r T 4 114 [some (.ref v0), some (.ref v1), none, some (.int v3), some (.int v4), some (.int x2), some (.int x3)] [.int x3, .int x2, .int v4, .int v3, .ref (H.2.1 v1 0)] rfl ?_
    refine fs_vI T 117 rfl rfl rfl rfl rfl rfl (hE.1 _ 7 0 h1) (q_X4_appendLink (d := d + 2) hE (hE.1 _ 7 0 h1)) ?_
    intro x4 m4
    refine fs_r T 1 118 [some (.ref v0), some (.ref v1), none, some (.int v3), some (.int v4), some (.int x2), some (.int x3)] [] rfl ?_
    exact fs_retv T rfl rfl rfl
  · exact fs_retv T rfl rfl rfl
def f_X6_readLink (H : fm_H) (v0 : Nat) (v1 : Nat) (m : fm_M) : Option (Unit × fm_M) :=
  fm_bn (f_X6_passFirstWord H v0 (m.1 (H.2.1 v1 0) 1) (16 : Int32) m) fun x1 m1 =>
  if x1 = 0 then
    some ((), m1)
  else
  fm_bn (f_X6_passNumber H v0 (0 : Int32) (m1.1 (H.2.1 v1 0) 0 - (1 : Int32)) m1) fun x2 m2 =>
  fm_bn (f_X6_checkedNumber H v0 (0 : Int32) (m1.1 (H.2.1 v1 0) 0 - (1 : Int32)) m2) fun x3 m3 =>
  if m3.1 v0 1 = 0 then
    if x2 = x3 then
      fm_bn (f_X6_fail H v0 (4 : Int32) m3) fun _ m4 =>
      f_X6_readLink_74 H v0 v1 x2 x3 m4
    else
    fm_bn (f_X4_linkBetween H (H.2.1 v1 0) x2 x3 m3) fun x5 m5 =>
    if x5 = (-1 : Int32) then
      f_X6_readLink_74 H v0 v1 x2 x3 m5
    else
    fm_bn (f_X6_fail H v0 (4 : Int32) m5) fun _ m6 =>
    f_X6_readLink_74 H v0 v1 x2 x3 m6
  else
  f_X6_readLink_74 H v0 v1 x2 x3 m3
set_option maxRecDepth 10000 in
theorem q_X6_readLink {G : pm_G} {H : fm_H} {d : Nat} {z : Option Nat × Nat × Nat} {v0 : Nat} {v1 : Nat} {m : fm_M} (hE : fm_E G H) (h0 : fm_is H v0 6) (h1 : fm_is H v1 7) : fm_cal G H (d + 5) yX6_readLink [.ref v0, .ref v1] z m fm_rV (f_X6_readLink H v0 v1 m) := fm_mth (d := d + 4) mt_X6_readLink rfl rfl rfl (fun K => by
  show fm_o fm_rV (f_X6_readLink H v0 v1 m) K → fm_V G H (d + 4) RX6 cX6_readLink none z K 0 [some (.ref v0), some (.ref v1), none, none, none, none, none] [] m
  have T : fm_T RX6 cX6_readLink tc_X6_readLink fr_X6 mr_X6 cr_X6 lr_X6 := ⟨tok_X6, dc_X6_readLink⟩
  unfold f_X6_readLink
  refine fs_r T 2 2 [some (.ref v0), some (.ref v1), none, none, none, none, none] [.ref v1, .ref v0] rfl ?_
  refine fs_gs T 5 7 0 v1 rfl rfl rfl rfl h1 ?_
  refine fs_gi T 8 4 1 (H.2.1 v1 0) rfl rfl rfl rfl (hE.1 _ 7 0 h1) ?_
  refine fs_r T 1 10 [some (.ref v0), some (.ref v1), none, none, none, none, none] [.int (16 : Int32), .int (m.1 (H.2.1 v1 0) 1), .ref v0] rfl ?_
  refine fs_vI T 13 rfl rfl rfl rfl rfl rfl h0 (q_X6_passFirstWord (d := d) hE h0) ?_
  intro x1 m1
  refine fs_if_ne T 17 16 rfl rfl rfl (fun _ => ?_) (fun _ => ?_)
  · exact fs_retv T rfl rfl rfl
  · refine fs_r T 1 18 [some (.ref v0), some (.ref v1), none, none, none, none, none] [.ref v1] rfl ?_
    refine fs_gs T 21 7 0 v1 rfl rfl rfl rfl h1 ?_
    refine fs_gi T 24 4 0 (H.2.1 v1 0) rfl rfl rfl rfl (hE.1 _ 7 0 h1) ?_
    refine fs_r T 6 30 [some (.ref v0), some (.ref v1), some (.int (m1.1 (H.2.1 v1 0) 0 - (1 : Int32))), none, none, none, none] [.int (m1.1 (H.2.1 v1 0) 0 - (1 : Int32)), .int (0 : Int32), .ref v0] rfl ?_
    refine fs_vI T 33 rfl rfl rfl rfl rfl rfl h0 (q_X6_passNumber (d := d) hE h0) ?_
    intro x2 m2
    refine fs_r T 4 37 [some (.ref v0), some (.ref v1), some (.int (m1.1 (H.2.1 v1 0) 0 - (1 : Int32))), some (.int x2), none, none, none] [.int (m1.1 (H.2.1 v1 0) 0 - (1 : Int32)), .int (0 : Int32), .ref v0] rfl ?_
    refine fs_vI T 40 rfl rfl rfl rfl rfl rfl h0 (q_X6_checkedNumber (d := d + 2) hE h0) ?_
    intro x3 m3
    refine fs_r T 2 43 [some (.ref v0), some (.ref v1), some (.int (m1.1 (H.2.1 v1 0) 0 - (1 : Int32))), some (.int x2), some (.int x3), none, none] [.ref v0] rfl ?_
    refine fs_gi T 46 6 1 v0 rfl rfl rfl rfl h0 ?_
    refine fs_if_ne T 74 49 rfl rfl rfl (fun _ => ?_) (fun _ => ?_)
    · refine fs_r T 2 52 [some (.ref v0), some (.ref v1), some (.int (m1.1 (H.2.1 v1 0) 0 - (1 : Int32))), some (.int x2), some (.int x3), none, none] [.int x3, .int x2] rfl ?_
      refine fs_ic_eq T 69 55 rfl rfl rfl (fun _ => ?_) (fun _ => ?_)
      · refine fs_r T 2 71 [some (.ref v0), some (.ref v1), some (.int (m1.1 (H.2.1 v1 0) 0 - (1 : Int32))), some (.int x2), some (.int x3), none, none] [.int (4 : Int32), .ref v0] rfl ?_
        refine fs_vV T 74 rfl rfl rfl rfl rfl rfl h0 (q_X6_fail (d := d + 3) hE h0) ?_
        intro x4 m4
        refine fs_wk (ls' := [some (.ref v0), some (.ref v1), none, some (.int x2), some (.int x3), none, none]) ⟨rfl, rfl, rfl, rfl, trivial⟩ ?_
        exact w_X6_readLink_74 hE h0 h1 _
      · refine fs_r T 1 56 [some (.ref v0), some (.ref v1), some (.int (m1.1 (H.2.1 v1 0) 0 - (1 : Int32))), some (.int x2), some (.int x3), none, none] [.ref v1] rfl ?_
        refine fs_gs T 59 7 0 v1 rfl rfl rfl rfl h1 ?_
        refine fs_r T 2 62 [some (.ref v0), some (.ref v1), some (.int (m1.1 (H.2.1 v1 0) 0 - (1 : Int32))), some (.int x2), some (.int x3), none, none] [.int x3, .int x2, .ref (H.2.1 v1 0)] rfl ?_
        refine fs_vI T 65 rfl rfl rfl rfl rfl rfl (hE.1 _ 7 0 h1) (q_X4_linkBetween (d := d + 3) hE (hE.1 _ 7 0 h1)) ?_
        intro x5 m5
        refine fs_r T 1 66 [some (.ref v0), some (.ref v1), some (.int (m1.1 (H.2.1 v1 0) 0 - (1 : Int32))), some (.int x2), some (.int x3), none, none] [.int (-1 : Int32), .int x5] rfl ?_
        refine fs_ic_eq T 74 69 rfl rfl rfl (fun _ => ?_) (fun _ => ?_)
        · refine fs_wk (ls' := [some (.ref v0), some (.ref v1), none, some (.int x2), some (.int x3), none, none]) ⟨rfl, rfl, rfl, rfl, trivial⟩ ?_
          exact w_X6_readLink_74 hE h0 h1 _
        · refine fs_r T 2 71 [some (.ref v0), some (.ref v1), some (.int (m1.1 (H.2.1 v1 0) 0 - (1 : Int32))), some (.int x2), some (.int x3), none, none] [.int (4 : Int32), .ref v0] rfl ?_
          refine fs_vV T 74 rfl rfl rfl rfl rfl rfl h0 (q_X6_fail (d := d + 3) hE h0) ?_
          intro x6 m6
          refine fs_wk (ls' := [some (.ref v0), some (.ref v1), none, some (.int x2), some (.int x3), none, none]) ⟨rfl, rfl, rfl, rfl, trivial⟩ ?_
          exact w_X6_readLink_74 hE h0 h1 _
    · refine fs_wk (ls' := [some (.ref v0), some (.ref v1), none, some (.int x2), some (.int x3), none, none]) ⟨rfl, rfl, rfl, rfl, trivial⟩ ?_
      exact w_X6_readLink_74 hE h0 h1 _)
def f_X7_appendNode (H : fm_H) (v0 : Nat) (v1 : Int32) (m : fm_M) : Option (Int32 × fm_M) :=
  fm_bn (f_X2_putSpace H (H.2.1 v0 1) (m.1 (H.2.1 v0 0) 0) v1 m) fun _ m1 =>
  fm_bd (fm_si m1 (H.2.1 v0 0) 0 (m1.1 (H.2.1 v0 0) 0 + (1 : Int32))) fun m2 =>
  some ((m2.1 (H.2.1 v0 0) 0 - (1 : Int32)), m2)
set_option maxRecDepth 10000 in
theorem q_X7_appendNode {G : pm_G} {H : fm_H} {d : Nat} {z : Option Nat × Nat × Nat} {v0 : Nat} {v1 : Int32} {m : fm_M} (hE : fm_E G H) (h0 : fm_is H v0 7) : fm_cal G H (d + 2) yX7_appendNode [.ref v0, .int v1] z m fm_rI (f_X7_appendNode H v0 v1 m) := fm_mth (d := d + 1) mt_X7_appendNode rfl rfl rfl (fun K => by
  show fm_o fm_rI (f_X7_appendNode H v0 v1 m) K → fm_V G H (d + 1) RX7 cX7_appendNode (some (.int)) z K 0 [some (.ref v0), some (.int v1)] [] m
  have T : fm_T RX7 cX7_appendNode tc_X7_appendNode fr_X7 mr_X7 cr_X7 lr_X7 := ⟨tok_X7, dc_X7_appendNode⟩
  unfold f_X7_appendNode
  refine fs_r T 1 1 [some (.ref v0), some (.int v1)] [.ref v0] rfl ?_
  refine fs_gs T 4 7 1 v0 rfl rfl rfl rfl h0 ?_
  refine fs_r T 1 5 [some (.ref v0), some (.int v1)] [.ref v0, .ref (H.2.1 v0 1)] rfl ?_
  refine fs_gs T 8 7 0 v0 rfl rfl rfl rfl h0 ?_
  refine fs_gi T 11 4 0 (H.2.1 v0 0) rfl rfl rfl rfl (hE.1 _ 7 0 h0) ?_
  refine fs_r T 1 12 [some (.ref v0), some (.int v1)] [.int v1, .int (m.1 (H.2.1 v0 0) 0), .ref (H.2.1 v0 1)] rfl ?_
  refine fs_vV T 15 rfl rfl rfl rfl rfl rfl (hE.1 _ 7 1 h0) (q_X2_putSpace (d := d) hE (hE.1 _ 7 1 h0)) ?_
  intro x1 m1
  refine fs_r T 1 16 [some (.ref v0), some (.int v1)] [.ref v0] rfl ?_
  refine fs_gs T 19 7 0 v0 rfl rfl rfl rfl h0 ?_
  refine fs_r T 1 20 [some (.ref v0), some (.int v1)] [.ref (H.2.1 v0 0), .ref (H.2.1 v0 0)] rfl ?_
  refine fs_gi T 23 4 0 (H.2.1 v0 0) rfl rfl rfl rfl (hE.1 _ 7 0 h0) ?_
  refine fs_r T 2 25 [some (.ref v0), some (.int v1)] [.int (m1.1 (H.2.1 v0 0) 0 + (1 : Int32)), .ref (H.2.1 v0 0)] rfl ?_
  refine fs_pi T 28 4 0 (H.2.1 v0 0) rfl rfl rfl rfl (hE.1 _ 7 0 h0) ?_
  intro m2
  refine fs_r T 1 29 [some (.ref v0), some (.int v1)] [.ref v0] rfl ?_
  refine fs_gs T 32 7 0 v0 rfl rfl rfl rfl h0 ?_
  refine fs_gi T 35 4 0 (H.2.1 v0 0) rfl rfl rfl rfl (hE.1 _ 7 0 h0) ?_
  refine fs_r T 2 37 [some (.ref v0), some (.int v1)] [.int (m2.1 (H.2.1 v0 0) 0 - (1 : Int32))] rfl ?_
  exact fs_reti T rfl rfl rfl)
def f_X6_readNode (H : fm_H) (v0 : Nat) (v1 : Nat) (m : fm_M) : Option (Unit × fm_M) :=
  fm_bn (f_X6_passFirstWord H v0 (m.1 (H.2.1 v1 0) 0) (10 : Int32) m) fun x1 m1 =>
  if x1 = 0 then
    some ((), m1)
  else
  fm_bn (f_X6_passNumber H v0 (1 : Int32) (12 : Int32) m1) fun x2 m2 =>
  if m2.1 v0 1 = 0 then
    fm_bn (f_X7_appendNode H v1 x2 m2) fun x3 m3 =>
    some ((), m3)
  else
  some ((), m2)
set_option maxRecDepth 10000 in
theorem q_X6_readNode {G : pm_G} {H : fm_H} {d : Nat} {z : Option Nat × Nat × Nat} {v0 : Nat} {v1 : Nat} {m : fm_M} (hE : fm_E G H) (h0 : fm_is H v0 6) (h1 : fm_is H v1 7) : fm_cal G H (d + 5) yX6_readNode [.ref v0, .ref v1] z m fm_rV (f_X6_readNode H v0 v1 m) := fm_mth (d := d + 4) mt_X6_readNode rfl rfl rfl (fun K => by
  show fm_o fm_rV (f_X6_readNode H v0 v1 m) K → fm_V G H (d + 4) RX6 cX6_readNode none z K 0 [some (.ref v0), some (.ref v1), none] [] m
  have T : fm_T RX6 cX6_readNode tc_X6_readNode fr_X6 mr_X6 cr_X6 lr_X6 := ⟨tok_X6, dc_X6_readNode⟩
  unfold f_X6_readNode
  refine fs_r T 2 2 [some (.ref v0), some (.ref v1), none] [.ref v1, .ref v0] rfl ?_
  refine fs_gs T 5 7 0 v1 rfl rfl rfl rfl h1 ?_
  refine fs_gi T 8 4 0 (H.2.1 v1 0) rfl rfl rfl rfl (hE.1 _ 7 0 h1) ?_
  refine fs_r T 1 10 [some (.ref v0), some (.ref v1), none] [.int (10 : Int32), .int (m.1 (H.2.1 v1 0) 0), .ref v0] rfl ?_
  refine fs_vI T 13 rfl rfl rfl rfl rfl rfl h0 (q_X6_passFirstWord (d := d) hE h0) ?_
  intro x1 m1
  refine fs_if_ne T 17 16 rfl rfl rfl (fun _ => ?_) (fun _ => ?_)
  · exact fs_retv T rfl rfl rfl
  · refine fs_r T 3 21 [some (.ref v0), some (.ref v1), none] [.int (12 : Int32), .int (1 : Int32), .ref v0] rfl ?_
    refine fs_vI T 24 rfl rfl rfl rfl rfl rfl h0 (q_X6_passNumber (d := d) hE h0) ?_
    intro x2 m2
    refine fs_r T 2 26 [some (.ref v0), some (.ref v1), some (.int x2)] [.ref v0] rfl ?_
    refine fs_gi T 29 6 1 v0 rfl rfl rfl rfl h0 ?_
    refine fs_if_ne T 38 32 rfl rfl rfl (fun _ => ?_) (fun _ => ?_)
    · refine fs_r T 2 34 [some (.ref v0), some (.ref v1), some (.int x2)] [.int x2, .ref v1] rfl ?_
      refine fs_vI T 37 rfl rfl rfl rfl rfl rfl h1 (q_X7_appendNode (d := d + 2) hE h1) ?_
      intro x3 m3
      refine fs_r T 1 38 [some (.ref v0), some (.ref v1), some (.int x2)] [] rfl ?_
      exact fs_retv T rfl rfl rfl
    · exact fs_retv T rfl rfl rfl)
def f_X7_putSetting (H : fm_H) (v0 : Nat) (v1 : Int32) (v2 : Int32) (m : fm_M) : Option (Unit × fm_M) :=
  if v1 = 0 then
    fm_bd (fm_si m v0 7 v2) fun m2 =>
    some ((), m2)
  else
  fm_bd (fm_si m v0 8 v2) fun m1 =>
  some ((), m1)
set_option maxRecDepth 10000 in
theorem q_X7_putSetting {G : pm_G} {H : fm_H} {d : Nat} {z : Option Nat × Nat × Nat} {v0 : Nat} {v1 : Int32} {v2 : Int32} {m : fm_M} (hE : fm_E G H) (h0 : fm_is H v0 7) : fm_cal G H (d + 1) yX7_putSetting [.ref v0, .int v1, .int v2] z m fm_rV (f_X7_putSetting H v0 v1 v2 m) := fm_mth (d := d + 0) mt_X7_putSetting rfl rfl rfl (fun K => by
  show fm_o fm_rV (f_X7_putSetting H v0 v1 v2 m) K → fm_V G H (d + 0) RX7 cX7_putSetting none z K 0 [some (.ref v0), some (.int v1), some (.int v2)] [] m
  have T : fm_T RX7 cX7_putSetting tc_X7_putSetting fr_X7 mr_X7 cr_X7 lr_X7 := ⟨tok_X7, dc_X7_putSetting⟩
  unfold f_X7_putSetting
  refine fs_r T 1 1 [some (.ref v0), some (.int v1), some (.int v2)] [.int v1] rfl ?_
  refine fs_if_ne T 12 4 rfl rfl rfl (fun _ => ?_) (fun _ => ?_)
  · refine fs_r T 2 6 [some (.ref v0), some (.int v1), some (.int v2)] [.int v2, .ref v0] rfl ?_
    refine fs_pi T 9 7 7 v0 rfl rfl rfl rfl h0 ?_
    intro m2
    refine fs_r T 1 17 [some (.ref v0), some (.int v1), some (.int v2)] [] rfl ?_
    exact fs_retv T rfl rfl rfl
  · refine fs_r T 2 14 [some (.ref v0), some (.int v1), some (.int v2)] [.int v2, .ref v0] rfl ?_
    refine fs_pi T 17 7 8 v0 rfl rfl rfl rfl h0 ?_
    intro m1
    exact fs_retv T rfl rfl rfl)
def f_X6_readSetting (H : fm_H) (v0 : Nat) (v1 : Nat) (m : fm_M) : Option (Unit × fm_M) :=
  fm_bn (f_X6_passToken H v0 m) fun _ m1 =>
  fm_bn (f_X6_passNumber H v0 (0 : Int32) (1 : Int32) m1) fun x2 m2 =>
  if x2 = 0 then
    fm_bn (f_X6_passNumber H v0 (0 : Int32) (4 : Int32) m2) fun x5 m5 =>
    if m5.1 v0 1 = 0 then
      fm_bn (f_X7_putSetting H v1 x2 x5 m5) fun _ m6 =>
      some ((), m6)
    else
    some ((), m5)
  else
  fm_bn (f_X6_passNumber H v0 (0 : Int32) (1 : Int32) m2) fun x3 m3 =>
  if m3.1 v0 1 = 0 then
    fm_bn (f_X7_putSetting H v1 x2 x3 m3) fun _ m4 =>
    some ((), m4)
  else
  some ((), m3)
set_option maxRecDepth 10000 in
theorem q_X6_readSetting {G : pm_G} {H : fm_H} {d : Nat} {z : Option Nat × Nat × Nat} {v0 : Nat} {v1 : Nat} {m : fm_M} (hE : fm_E G H) (h0 : fm_is H v0 6) (h1 : fm_is H v1 7) : fm_cal G H (d + 5) yX6_readSetting [.ref v0, .ref v1] z m fm_rV (f_X6_readSetting H v0 v1 m) := fm_mth (d := d + 4) mt_X6_readSetting rfl rfl rfl (fun K => by
  show fm_o fm_rV (f_X6_readSetting H v0 v1 m) K → fm_V G H (d + 4) RX6 cX6_readSetting none z K 0 [some (.ref v0), some (.ref v1), none, none] [] m
  have T : fm_T RX6 cX6_readSetting tc_X6_readSetting fr_X6 mr_X6 cr_X6 lr_X6 := ⟨tok_X6, dc_X6_readSetting⟩
  unfold f_X6_readSetting
  refine fs_r T 1 1 [some (.ref v0), some (.ref v1), none, none] [.ref v0] rfl ?_
  refine fs_vV T 4 rfl rfl rfl rfl rfl rfl h0 (q_X6_passToken (d := d + 1) hE h0) ?_
  intro x1 m1
  refine fs_r T 3 7 [some (.ref v0), some (.ref v1), none, none] [.int (1 : Int32), .int (0 : Int32), .ref v0] rfl ?_
  refine fs_vI T 10 rfl rfl rfl rfl rfl rfl h0 (q_X6_passNumber (d := d) hE h0) ?_
  intro x2 m2
  refine fs_r T 4 14 [some (.ref v0), some (.ref v1), some (.int x2), none] [.int x2, .int (0 : Int32), .ref v0] rfl ?_
  refine fs_if_ne T 21 17 rfl rfl rfl (fun _ => ?_) (fun _ => ?_)
  · refine fs_r T 2 22 [some (.ref v0), some (.ref v1), some (.int x2), none] [.int (4 : Int32), .int (0 : Int32), .ref v0] rfl ?_
    refine fs_vI T 25 rfl rfl rfl rfl rfl rfl h0 (q_X6_passNumber (d := d) hE h0) ?_
    intro x5 m5
    refine fs_r T 2 27 [some (.ref v0), some (.ref v1), some (.int x2), some (.int x5)] [.ref v0] rfl ?_
    refine fs_gi T 30 6 1 v0 rfl rfl rfl rfl h0 ?_
    refine fs_if_ne T 39 33 rfl rfl rfl (fun _ => ?_) (fun _ => ?_)
    · refine fs_r T 3 36 [some (.ref v0), some (.ref v1), some (.int x2), some (.int x5)] [.int x5, .int x2, .ref v1] rfl ?_
      refine fs_vV T 39 rfl rfl rfl rfl rfl rfl h1 (q_X7_putSetting (d := d + 3) hE h1) ?_
      intro x6 m6
      exact fs_retv T rfl rfl rfl
    · exact fs_retv T rfl rfl rfl
  · refine fs_r T 1 22 [some (.ref v0), some (.ref v1), some (.int x2), none] [.int (1 : Int32), .int (0 : Int32), .ref v0] rfl ?_
    refine fs_vI T 25 rfl rfl rfl rfl rfl rfl h0 (q_X6_passNumber (d := d) hE h0) ?_
    intro x3 m3
    refine fs_r T 2 27 [some (.ref v0), some (.ref v1), some (.int x2), some (.int x3)] [.ref v0] rfl ?_
    refine fs_gi T 30 6 1 v0 rfl rfl rfl rfl h0 ?_
    refine fs_if_ne T 39 33 rfl rfl rfl (fun _ => ?_) (fun _ => ?_)
    · refine fs_r T 3 36 [some (.ref v0), some (.ref v1), some (.int x2), some (.int x3)] [.int x3, .int x2, .ref v1] rfl ?_
      refine fs_vV T 39 rfl rfl rfl rfl rfl rfl h1 (q_X7_putSetting (d := d + 3) hE h1) ?_
      intro x4 m4
      exact fs_retv T rfl rfl rfl
    · exact fs_retv T rfl rfl rfl)
def f_X9_erase (H : fm_H) (v0 : Nat) (m : fm_M) : Option (Unit × fm_M) :=
  fm_bd (fm_si m v0 0 (0 : Int32)) fun m1 =>
  fm_bd (fm_si m1 v0 1 (0 : Int32)) fun m2 =>
  fm_bd (fm_si m2 v0 2 (0 : Int32)) fun m3 =>
  fm_bd (fm_si m3 v0 3 (0 : Int32)) fun m4 =>
  fm_bd (fm_si m4 v0 4 (0 : Int32)) fun m5 =>
  fm_bd (fm_si m5 v0 5 (0 : Int32)) fun m6 =>
  fm_bd (fm_si m6 v0 6 (0 : Int32)) fun m7 =>
  some ((), m7)
set_option maxRecDepth 10000 in
theorem q_X9_erase {G : pm_G} {H : fm_H} {d : Nat} {z : Option Nat × Nat × Nat} {v0 : Nat} {m : fm_M} (hE : fm_E G H) (h0 : fm_is H v0 9) : fm_cal G H (d + 1) yX9_erase [.ref v0] z m fm_rV (f_X9_erase H v0 m) := fm_mth (d := d + 0) mt_X9_erase rfl rfl rfl (fun K => by
  show fm_o fm_rV (f_X9_erase H v0 m) K → fm_V G H (d + 0) RX9 cX9_erase none z K 0 [some (.ref v0)] [] m
  have T : fm_T RX9 cX9_erase tc_X9_erase fr_X9 mr_X9 cr_X9 lr_X9 := ⟨tok_X9, dc_X9_erase⟩
  unfold f_X9_erase
  refine fs_r T 2 2 [some (.ref v0)] [.int (0 : Int32), .ref v0] rfl ?_
  refine fs_pi T 5 9 0 v0 rfl rfl rfl rfl h0 ?_
  intro m1
  refine fs_r T 2 7 [some (.ref v0)] [.int (0 : Int32), .ref v0] rfl ?_
  refine fs_pi T 10 9 1 v0 rfl rfl rfl rfl h0 ?_
  intro m2
  refine fs_r T 2 12 [some (.ref v0)] [.int (0 : Int32), .ref v0] rfl ?_
  refine fs_pi T 15 9 2 v0 rfl rfl rfl rfl h0 ?_
  intro m3
  refine fs_r T 2 17 [some (.ref v0)] [.int (0 : Int32), .ref v0] rfl ?_
  refine fs_pi T 20 9 3 v0 rfl rfl rfl rfl h0 ?_
  intro m4
  refine fs_r T 2 22 [some (.ref v0)] [.int (0 : Int32), .ref v0] rfl ?_
  refine fs_pi T 25 9 4 v0 rfl rfl rfl rfl h0 ?_
  intro m5
  refine fs_r T 2 27 [some (.ref v0)] [.int (0 : Int32), .ref v0] rfl ?_
  refine fs_pi T 30 9 5 v0 rfl rfl rfl rfl h0 ?_
  intro m6
  refine fs_r T 2 32 [some (.ref v0)] [.int (0 : Int32), .ref v0] rfl ?_
  refine fs_pi T 35 9 6 v0 rfl rfl rfl rfl h0 ?_
  intro m7
  exact fs_retv T rfl rfl rfl)
def f_X7_erase (H : fm_H) (v0 : Nat) (m : fm_M) : Option (Unit × fm_M) :=
  fm_bn (f_X4_erase H (H.2.1 v0 0) m) fun _ m1 =>
  fm_bn (f_X2_erase H (H.2.1 v0 1) m1) fun _ m2 =>
  fm_bn (f_X9_erase H (H.2.1 v0 2) m2) fun _ m3 =>
  fm_bd (fm_si m3 v0 5 (0 : Int32)) fun m4 =>
  fm_bd (fm_si m4 v0 6 (0 : Int32)) fun m5 =>
  fm_bd (fm_si m5 v0 7 (1 : Int32)) fun m6 =>
  fm_bd (fm_si m6 v0 8 (0 : Int32)) fun m7 =>
  fm_bd (fm_si m7 v0 9 (0 : Int32)) fun m8 =>
  some ((), m8)
set_option maxRecDepth 10000 in
theorem q_X7_erase {G : pm_G} {H : fm_H} {d : Nat} {z : Option Nat × Nat × Nat} {v0 : Nat} {m : fm_M} (hE : fm_E G H) (h0 : fm_is H v0 7) : fm_cal G H (d + 3) yX7_erase [.ref v0] z m fm_rV (f_X7_erase H v0 m) := fm_mth (d := d + 2) mt_X7_erase rfl rfl rfl (fun K => by
  show fm_o fm_rV (f_X7_erase H v0 m) K → fm_V G H (d + 2) RX7 cX7_erase none z K 0 [some (.ref v0)] [] m
  have T : fm_T RX7 cX7_erase tc_X7_erase fr_X7 mr_X7 cr_X7 lr_X7 := ⟨tok_X7, dc_X7_erase⟩
  unfold f_X7_erase
  refine fs_r T 1 1 [some (.ref v0)] [.ref v0] rfl ?_
  refine fs_gs T 4 7 0 v0 rfl rfl rfl rfl h0 ?_
  refine fs_vV T 7 rfl rfl rfl rfl rfl rfl (hE.1 _ 7 0 h0) (q_X4_erase (d := d) hE (hE.1 _ 7 0 h0)) ?_
  intro x1 m1
  refine fs_r T 1 8 [some (.ref v0)] [.ref v0] rfl ?_
  refine fs_gs T 11 7 1 v0 rfl rfl rfl rfl h0 ?_
  refine fs_vV T 14 rfl rfl rfl rfl rfl rfl (hE.1 _ 7 1 h0) (q_X2_erase (d := d) hE (hE.1 _ 7 1 h0)) ?_
  intro x2 m2
  refine fs_r T 1 15 [some (.ref v0)] [.ref v0] rfl ?_
  refine fs_gs T 18 7 2 v0 rfl rfl rfl rfl h0 ?_
  refine fs_vV T 21 rfl rfl rfl rfl rfl rfl (hE.1 _ 7 2 h0) (q_X9_erase (d := d + 1) hE (hE.1 _ 7 2 h0)) ?_
  intro x3 m3
  refine fs_r T 2 23 [some (.ref v0)] [.int (0 : Int32), .ref v0] rfl ?_
  refine fs_pi T 26 7 5 v0 rfl rfl rfl rfl h0 ?_
  intro m4
  refine fs_r T 2 28 [some (.ref v0)] [.int (0 : Int32), .ref v0] rfl ?_
  refine fs_pi T 31 7 6 v0 rfl rfl rfl rfl h0 ?_
  intro m5
  refine fs_r T 2 33 [some (.ref v0)] [.int (1 : Int32), .ref v0] rfl ?_
  refine fs_pi T 36 7 7 v0 rfl rfl rfl rfl h0 ?_
  intro m6
  refine fs_r T 2 38 [some (.ref v0)] [.int (0 : Int32), .ref v0] rfl ?_
  refine fs_pi T 41 7 8 v0 rfl rfl rfl rfl h0 ?_
  intro m7
  refine fs_r T 2 43 [some (.ref v0)] [.int (0 : Int32), .ref v0] rfl ?_
  refine fs_pi T 46 7 9 v0 rfl rfl rfl rfl h0 ?_
  intro m8
  exact fs_retv T rfl rfl rfl)
def f_J0_isLatin1_aae02 (H : fm_H) (v0 : Nat) (m : fm_M) : Option (Int32 × fm_M) :=
  if (1 : Int32) = 0 then
    some ((0 : Int32), m)
  else
  if m.1 v0 1 = 0 then
    some ((1 : Int32), m)
  else
  some ((0 : Int32), m)
set_option maxRecDepth 10000 in
theorem q_J0_isLatin1_aae02 {G : pm_G} {H : fm_H} {d : Nat} {z : Option Nat × Nat × Nat} {v0 : Nat} {m : fm_M} (hE : fm_E G H) (h0 : fm_is H v0 13) : fm_cal G H (d + 1) yJ0_isLatin1_aae02 [.ref v0] z m fm_rI (f_J0_isLatin1_aae02 H v0 m) := fm_mth (d := d + 0) mt_J0_isLatin1_aae02 rfl rfl rfl (fun K => by
  show fm_o fm_rI (f_J0_isLatin1_aae02 H v0 m) K → fm_V G H (d + 0) RJ0 cJ0_isLatin1_aae02 (some (.boolean)) z K 0 [some (.ref v0)] [] m
  have T : fm_T RJ0 cJ0_isLatin1_aae02 tc_J0_isLatin1_aae02 fr_J0 mr_J0 cr_J0 lr_J0 := ⟨tok_J0, dc_J0_isLatin1_aae02⟩
  unfold f_J0_isLatin1_aae02
  refine fs_gst T hE 3 rfl (pt_w_in (i := 652) (by decide +kernel)) rfl ?_
  refine fs_if_eq T 17 6 rfl rfl rfl (fun _ => ?_) (fun _ => ?_)
  · refine fs_r T 1 18 [some (.ref v0)] [.int (0 : Int32)] rfl ?_
    exact fs_retc T rfl rfl rfl rfl
  · refine fs_r T 1 7 [some (.ref v0)] [.ref v0] rfl ?_
    refine fs_gi T 10 13 1 v0 rfl rfl rfl rfl h0 ?_
    refine fs_if_ne T 17 13 rfl rfl rfl (fun _ => ?_) (fun _ => ?_)
    · refine fs_r T 2 18 [some (.ref v0)] [.int (1 : Int32)] rfl ?_
      exact fs_retc T rfl rfl rfl rfl
    · refine fs_r T 1 18 [some (.ref v0)] [.int (0 : Int32)] rfl ?_
      exact fs_retc T rfl rfl rfl rfl)
def f_J3_checkIndex_8e157 (H : fm_H) (v0 : Int32) (v1 : Int32) (v2 : Nat) (m : fm_M) : Option (Int32 × fm_M) :=
  if v0 < 0 then
    none
  else
  if v0 < v1 then
    some (v0, m)
  else
  none
set_option maxRecDepth 10000 in
theorem q_J3_checkIndex_8e157 {G : pm_G} {H : fm_H} {d : Nat} {z : Option Nat × Nat × Nat} {v0 : Int32} {v1 : Int32} {v2 : Nat} {m : fm_M} (hE : fm_E G H) : fm_cal G H (d + 1) yJ3_checkIndex_8e157 [.int v0, .int v1, .ref v2] z m fm_rI (f_J3_checkIndex_8e157 H v0 v1 v2 m) := fm_mth (d := d + 0) mt_J3_checkIndex_8e157 rfl rfl rfl (fun K => by
  show fm_o fm_rI (f_J3_checkIndex_8e157 H v0 v1 v2 m) K → fm_V G H (d + 0) RJ3 cJ3_checkIndex_8e157 (some (.int)) z K 0 [some (.int v0), some (.int v1), some (.ref v2)] [] m
  have T : fm_T RJ3 cJ3_checkIndex_8e157 tc_J3_checkIndex_8e157 fr_J3 mr_J3 cr_J3 lr_J3 := ⟨tok_J3, dc_J3_checkIndex_8e157⟩
  unfold f_J3_checkIndex_8e157
  refine fs_r T 1 1 [some (.int v0), some (.int v1), some (.ref v2)] [.int v0] rfl ?_
  refine fs_if_lt T 9 4 rfl rfl rfl (fun _ => ?_) (fun _ => ?_)
  · refine fs_r T 3 12 [some (.int v0), some (.int v1), some (.ref v2)] [.int v1, .int v0, .ref v2] rfl ?_
    exact fs_none
  · refine fs_r T 2 6 [some (.int v0), some (.int v1), some (.ref v2)] [.int v1, .int v0] rfl ?_
    refine fs_ic_lt T 16 9 rfl rfl rfl (fun _ => ?_) (fun _ => ?_)
    · refine fs_r T 1 17 [some (.int v0), some (.int v1), some (.ref v2)] [.int v0] rfl ?_
      exact fs_reti T rfl rfl rfl
    · refine fs_r T 3 12 [some (.int v0), some (.int v1), some (.ref v2)] [.int v1, .int v0, .ref v2] rfl ?_
      exact fs_none)
set_option maxRecDepth 10000 in
theorem q_J3_checkIndex_null {G : pm_G} {H : fm_H} {d : Nat} {z : Option Nat × Nat × Nat} {v0 : Int32} {v1 : Int32} {v2 : Nat} {m : fm_M} : fm_cal G H (d + 1) yJ3_checkIndex_8e157 [.int v0, .int v1, .null] z m fm_rI (f_J3_checkIndex_8e157 H v0 v1 v2 m) := fm_mth (d := d + 0) mt_J3_checkIndex_8e157 rfl rfl rfl (fun K => by
  show fm_o fm_rI (f_J3_checkIndex_8e157 H v0 v1 v2 m) K → fm_V G H (d + 0) RJ3 cJ3_checkIndex_8e157 (some (.int)) z K 0 [some (.int v0), some (.int v1), some .null] [] m
  have T : fm_T RJ3 cJ3_checkIndex_8e157 tc_J3_checkIndex_8e157 fr_J3 mr_J3 cr_J3 lr_J3 := ⟨tok_J3, dc_J3_checkIndex_8e157⟩
  unfold f_J3_checkIndex_8e157
  refine fs_r T 1 1 [some (.int v0), some (.int v1), some .null] [.int v0] rfl ?_
  refine fs_if_lt T 9 4 rfl rfl rfl (fun _ => ?_) (fun _ => ?_)
  · exact fs_none
  · refine fs_r T 2 6 [some (.int v0), some (.int v1), some .null] [.int v1, .int v0] rfl ?_
    refine fs_ic_lt T 16 9 rfl rfl rfl (fun _ => ?_) (fun _ => ?_)
    · refine fs_r T 1 17 [some (.int v0), some (.int v1), some .null] [.int v0] rfl ?_
      exact fs_reti T rfl rfl rfl
    · exact fs_none)
def f_J0_checkIndex_df160 (H : fm_H) (v0 : Int32) (v1 : Int32) (m : fm_M) : Option (Unit × fm_M) :=
  fm_bn (f_J3_checkIndex_8e157 H v0 v1 (H.2.2 "SIOOBE_FORMATTER" 0) m) fun x1 m1 =>
  some ((), m1)
set_option maxRecDepth 10000 in
theorem q_J0_checkIndex_df160 {G : pm_G} {H : fm_H} {d : Nat} {z : Option Nat × Nat × Nat} {v0 : Int32} {v1 : Int32} {m : fm_M} (hE : fm_E G H) : fm_cal G H (d + 2) yJ0_checkIndex_df160 [.int v0, .int v1] z m fm_rV (f_J0_checkIndex_df160 H v0 v1 m) := fm_mth (d := d + 1) mt_J0_checkIndex_df160 rfl rfl rfl (fun K => by
  show fm_o fm_rV (f_J0_checkIndex_df160 H v0 v1 m) K → fm_V G H (d + 1) RJ0 cJ0_checkIndex_df160 none z K 0 [some (.int v0), some (.int v1)] [] m
  have T : fm_T RJ0 cJ0_checkIndex_df160 tc_J0_checkIndex_df160 fr_J0 mr_J0 cr_J0 lr_J0 := ⟨tok_J0, dc_J0_checkIndex_df160⟩
  unfold f_J0_checkIndex_df160
  refine fs_r T 2 2 [some (.int v0), some (.int v1)] [.int v1, .int v0] rfl ?_
  refine fs_gst2 T 5 rfl (pt_w_in (i := 668) (by decide +kernel)) rfl ?_
  rcases hE.2.2.2.2 with e | e
  · rw [e]
    refine fs_sI T 8 rfl rfl rfl rfl rfl rfl rfl (q_J3_checkIndex_8e157 (d := d) hE ) ?_
    intro x1 m1
    refine fs_r T 1 9 [some (.int v0), some (.int v1)] [] rfl ?_
    exact fs_retv T rfl rfl rfl
  · rw [e]
    refine fs_sI T 8 rfl rfl rfl rfl rfl rfl rfl (q_J3_checkIndex_null (d := d)) ?_
    intro x1 m1
    refine fs_r T 1 9 [some (.int v0), some (.int v1)] [] rfl ?_
    exact fs_retv T rfl rfl rfl)
def f_J1_charAt_3b067 (H : fm_H) (v0 : Nat) (v1 : Int32) (m : fm_M) : Option (Int32 × fm_M) :=
  fm_bn (f_J0_checkIndex_df160 H v1 (Int32.ofNat (fm_sz H v0)) m) fun _ m1 =>
  if px_inb v1 (fm_sz H v0) = true then
    if fm_nr .char (((m1.1 v0 v1.toNatClampNeg &&& (255 : Int32)).toUInt32 % 65536).toInt32) = true then some (((m1.1 v0 v1.toNatClampNeg &&& (255 : Int32)).toUInt32 % 65536).toInt32, m1) else none
  else none
set_option maxRecDepth 10000 in
theorem q_J1_charAt_3b067 {G : pm_G} {H : fm_H} {d : Nat} {z : Option Nat × Nat × Nat} {v0 : Nat} {v1 : Int32} {m : fm_M} (hE : fm_E G H) (h0 : fm_ia H v0 .byte false) : fm_cal G H (d + 3) yJ1_charAt_3b067 [.ref v0, .int v1] z m fm_rI (f_J1_charAt_3b067 H v0 v1 m) := fm_mth (d := d + 2) mt_J1_charAt_3b067 rfl rfl rfl (fun K => by
  show fm_o fm_rI (f_J1_charAt_3b067 H v0 v1 m) K → fm_V G H (d + 2) RJ1 cJ1_charAt_3b067 (some (.char)) z K 0 [some (.ref v0), some (.int v1)] [] m
  have T : fm_T RJ1 cJ1_charAt_3b067 tc_J1_charAt_3b067 fr_J1 mr_J1 cr_J1 lr_J1 := ⟨tok_J1, dc_J1_charAt_3b067⟩
  unfold f_J1_charAt_3b067
  refine fs_r T 2 2 [some (.ref v0), some (.int v1)] [.ref v0, .int v1] rfl ?_
  refine fs_al T 3 v0 rfl rfl h0 ?_
  refine fs_sV T 6 rfl rfl rfl rfl rfl rfl rfl (q_J0_checkIndex_df160 (d := d) hE ) ?_
  intro x1 m1
  refine fs_r T 2 8 [some (.ref v0), some (.int v1)] [.int v1, .ref v0] rfl ?_
  refine fs_ab T 9 v0 rfl rfl (Or.inl rfl) h0 ?_
  refine fs_r T 3 14 [some (.ref v0), some (.int v1)] [.int (((m1.1 v0 v1.toNatClampNeg &&& (255 : Int32)).toUInt32 % 65536).toInt32)] rfl ?_
  exact fs_retn T rfl rfl rfl)
def f_J0_charAt_5068e (H : fm_H) (v0 : Nat) (v1 : Int32) (m : fm_M) : Option (Int32 × fm_M) :=
  fm_bn (f_J0_isLatin1_aae02 H v0 m) fun x1 m1 =>
  if x1 = 0 then
    none
  else
  fm_bn (f_J1_charAt_3b067 H (H.2.1 v0 0) v1 m1) fun x2 m2 =>
  if fm_nr .char x2 = true then some (x2, m2) else none
set_option maxRecDepth 10000 in
theorem q_J0_charAt_5068e {G : pm_G} {H : fm_H} {d : Nat} {z : Option Nat × Nat × Nat} {v0 : Nat} {v1 : Int32} {m : fm_M} (hE : fm_E G H) (h0 : fm_is H v0 13) : fm_cal G H (d + 4) yJ0_charAt_5068e [.ref v0, .int v1] z m fm_rI (f_J0_charAt_5068e H v0 v1 m) := fm_mth (d := d + 3) mt_J0_charAt_5068e rfl rfl rfl (fun K => by
  show fm_o fm_rI (f_J0_charAt_5068e H v0 v1 m) K → fm_V G H (d + 3) RJ0 cJ0_charAt_5068e (some (.char)) z K 0 [some (.ref v0), some (.int v1)] [] m
  have T : fm_T RJ0 cJ0_charAt_5068e tc_J0_charAt_5068e fr_J0 mr_J0 cr_J0 lr_J0 := ⟨tok_J0, dc_J0_charAt_5068e⟩
  unfold f_J0_charAt_5068e
  refine fs_r T 1 1 [some (.ref v0), some (.int v1)] [.ref v0] rfl ?_
  refine fs_vI T 4 rfl rfl rfl rfl rfl rfl h0 (q_J0_isLatin1_aae02 (d := d + 2) hE h0) ?_
  intro x1 m1
  refine fs_if_eq T 16 7 rfl rfl rfl (fun _ => ?_) (fun _ => ?_)
  · refine fs_r T 1 17 [some (.ref v0), some (.int v1)] [.ref v0] rfl ?_
    refine fs_gs T 20 13 0 v0 rfl rfl rfl rfl h0 ?_
    refine fs_r T 1 21 [some (.ref v0), some (.int v1)] [.int v1, .ref (H.2.1 v0 0)] rfl ?_
    exact fs_none
  · refine fs_r T 1 8 [some (.ref v0), some (.int v1)] [.ref v0] rfl ?_
    refine fs_gs T 11 13 0 v0 rfl rfl rfl rfl h0 ?_
    refine fs_r T 1 12 [some (.ref v0), some (.int v1)] [.int v1, .ref (H.2.1 v0 0)] rfl ?_
    refine fs_sI T 15 rfl rfl rfl rfl rfl rfl rfl (q_J1_charAt_3b067 (d := d) hE (hE.1 _ 13 0 h0)) ?_
    intro x2 m2
    exact fs_retn T rfl rfl rfl)
def f_J0_coder_7d493 (H : fm_H) (v0 : Nat) (m : fm_M) : Option (Int32 × fm_M) :=
  if (1 : Int32) = 0 then
    if fm_nr .byte (1 : Int32) = true then some ((1 : Int32), m) else none
  else
  if fm_nr .byte (m.1 v0 1) = true then some (m.1 v0 1, m) else none
set_option maxRecDepth 10000 in
theorem q_J0_coder_7d493 {G : pm_G} {H : fm_H} {d : Nat} {z : Option Nat × Nat × Nat} {v0 : Nat} {m : fm_M} (hE : fm_E G H) (h0 : fm_is H v0 13) : fm_cal G H (d + 1) yJ0_coder_7d493 [.ref v0] z m fm_rI (f_J0_coder_7d493 H v0 m) := fm_mth (d := d + 0) mt_J0_coder_7d493 rfl rfl rfl (fun K => by
  show fm_o fm_rI (f_J0_coder_7d493 H v0 m) K → fm_V G H (d + 0) RJ0 cJ0_coder_7d493 (some (.byte)) z K 0 [some (.ref v0)] [] m
  have T : fm_T RJ0 cJ0_coder_7d493 tc_J0_coder_7d493 fr_J0 mr_J0 cr_J0 lr_J0 := ⟨tok_J0, dc_J0_coder_7d493⟩
  unfold f_J0_coder_7d493
  refine fs_gst T hE 3 rfl (pt_w_in (i := 652) (by decide +kernel)) rfl ?_
  refine fs_if_eq T 13 6 rfl rfl rfl (fun _ => ?_) (fun _ => ?_)
  · refine fs_r T 1 14 [some (.ref v0)] [.int (1 : Int32)] rfl ?_
    exact fs_retn T rfl rfl rfl
  · refine fs_r T 1 7 [some (.ref v0)] [.ref v0] rfl ?_
    refine fs_gi T 10 13 1 v0 rfl rfl rfl rfl h0 ?_
    refine fs_r T 1 14 [some (.ref v0)] [.int (m.1 v0 1)] rfl ?_
    exact fs_retn T rfl rfl rfl)
def f_J0_length_8abf5 (H : fm_H) (v0 : Nat) (m : fm_M) : Option (Int32 × fm_M) :=
  fm_bn (f_J0_coder_7d493 H v0 m) fun x1 m1 =>
  some ((Int32.ofNat (fm_sz H (H.2.1 v0 0)) >>> (x1 &&& 31)), m1)
set_option maxRecDepth 10000 in
theorem q_J0_length_8abf5 {G : pm_G} {H : fm_H} {d : Nat} {z : Option Nat × Nat × Nat} {v0 : Nat} {m : fm_M} (hE : fm_E G H) (h0 : fm_is H v0 13) : fm_cal G H (d + 2) yJ0_length_8abf5 [.ref v0] z m fm_rI (f_J0_length_8abf5 H v0 m) := fm_mth (d := d + 1) mt_J0_length_8abf5 rfl rfl rfl (fun K => by
  show fm_o fm_rI (f_J0_length_8abf5 H v0 m) K → fm_V G H (d + 1) RJ0 cJ0_length_8abf5 (some (.int)) z K 0 [some (.ref v0)] [] m
  have T : fm_T RJ0 cJ0_length_8abf5 tc_J0_length_8abf5 fr_J0 mr_J0 cr_J0 lr_J0 := ⟨tok_J0, dc_J0_length_8abf5⟩
  unfold f_J0_length_8abf5
  refine fs_r T 1 1 [some (.ref v0)] [.ref v0] rfl ?_
  refine fs_gs T 4 13 0 v0 rfl rfl rfl rfl h0 ?_
  refine fs_al T 5 (H.2.1 v0 0) rfl rfl (hE.1 _ 13 0 h0) ?_
  refine fs_r T 1 6 [some (.ref v0)] [.ref v0, .int (Int32.ofNat (fm_sz H (H.2.1 v0 0)))] rfl ?_
  refine fs_vI T 9 rfl rfl rfl rfl rfl rfl h0 (q_J0_coder_7d493 (d := d) hE h0) ?_
  intro x1 m1
  refine fs_r T 1 10 [some (.ref v0)] [.int (Int32.ofNat (fm_sz H (H.2.1 v0 0)) >>> (x1 &&& 31))] rfl ?_
  exact fs_reti T rfl rfl rfl)
def f_X8_isWord_28 (H : fm_H) (v0 : Nat) (v1 : Nat) : Nat → Int32 → fm_M → Option (Int32 × fm_M)
  | 0, _, _ => none
  | n + 1, v2, m =>
    fm_bn (f_J0_length_8abf5 H v1 m) fun x1 m1 =>
    if x1 ≤ v2 then
      some ((1 : Int32), m1)
    else
    if px_inb (m1.1 v0 3 + v2) (fm_sz H (H.2.1 v0 0)) = true then
      fm_bn (f_J0_charAt_5068e H v1 v2 m1) fun x2 m2 =>
      if m1.1 (H.2.1 v0 0) (m1.1 v0 3 + v2).toNatClampNeg = x2 then
        f_X8_isWord_28 H v0 v1 n (v2 + 1) m2
      else
      some ((0 : Int32), m2)
    else none
set_option maxRecDepth 10000 in
theorem w_X8_isWord_28 {G : pm_G} {H : fm_H} {d : Nat} {z : Option Nat × Nat × Nat} {K : pm_R → fm_M → Prop} (hE : fm_E G H) {v0 : Nat} {v1 : Nat} (h0 : fm_is H v0 8) (h1 : fm_is H v1 13) : ∀ (n : Nat) (v2 : Int32) (m : fm_M), fm_o fm_rI (f_X8_isWord_28 H v0 v1 n v2 m) K → fm_V G H (d + 4) RX8 cX8_isWord (some (.boolean)) z K 28 [some (.ref v0), some (.ref v1), some (.int v2)] [] m := by
  have T : fm_T RX8 cX8_isWord tc_X8_isWord fr_X8 mr_X8 cr_X8 lr_X8 := ⟨tok_X8, dc_X8_isWord⟩
  intro n
  induction n with
  | zero =>
    intro v2 m 
    exact fs_none
  | succ n ih =>
    intro v2 m 
    unfold f_X8_isWord_28
    refine fs_r T 2 30 [some (.ref v0), some (.ref v1), some (.int v2)] [.ref v1, .int v2] rfl ?_
    refine fs_vI T 33 rfl rfl rfl rfl rfl rfl h1 (q_J0_length_8abf5 (d := d + 2) hE h1) ?_
    intro x1 m1
    refine fs_ic_ge T 63 36 rfl rfl rfl (fun _ => ?_) (fun _ => ?_)
    · refine fs_r T 1 64 [some (.ref v0), some (.ref v1), some (.int v2)] [.int (1 : Int32)] rfl ?_
      exact fs_retc T rfl rfl rfl rfl
    · refine fs_r T 1 37 [some (.ref v0), some (.ref v1), some (.int v2)] [.ref v0] rfl ?_
      refine fs_gs T 40 8 0 v0 rfl rfl rfl rfl h0 ?_
      refine fs_r T 1 41 [some (.ref v0), some (.ref v1), some (.int v2)] [.ref v0, .ref (H.2.1 v0 0)] rfl ?_
      refine fs_gi T 44 8 3 v0 rfl rfl rfl rfl h0 ?_
      refine fs_r T 2 46 [some (.ref v0), some (.ref v1), some (.int v2)] [.int (m1.1 v0 3 + v2), .ref (H.2.1 v0 0)] rfl ?_
      refine fs_ab T 47 (H.2.1 v0 0) rfl rfl (Or.inl rfl) (hE.1 _ 8 0 h0) ?_
      refine fs_r T 2 49 [some (.ref v0), some (.ref v1), some (.int v2)] [.int v2, .ref v1, .int (m1.1 (H.2.1 v0 0) (m1.1 v0 3 + v2).toNatClampNeg)] rfl ?_
      refine fs_vI T 52 rfl rfl rfl rfl rfl rfl h1 (q_J0_charAt_5068e (d := d) hE h1) ?_
      intro x2 m2
      refine fs_ic_eq T 57 55 rfl rfl rfl (fun _ => ?_) (fun _ => ?_)
      · refine fs_r T 2 28 [some (.ref v0), some (.ref v1), some (.int (v2 + 1))] [] rfl ?_
        exact ih _ _
      · refine fs_r T 1 56 [some (.ref v0), some (.ref v1), some (.int v2)] [.int (0 : Int32)] rfl ?_
        exact fs_retc T rfl rfl rfl rfl
def f_X8_isWord (H : fm_H) (v0 : Nat) (v1 : Nat) (m : fm_M) : Option (Int32 × fm_M) :=
  if m.1 v0 2 = (1 : Int32) then
    fm_bn (f_J0_length_8abf5 H v1 m) fun x1 m1 =>
    if (m.1 v0 5 - m.1 v0 3) = x1 then
      f_X8_isWord_28 H v0 v1 fm_N (0 : Int32) m1
    else
    some ((0 : Int32), m1)
  else
  some ((0 : Int32), m)
set_option maxRecDepth 10000 in
theorem q_X8_isWord {G : pm_G} {H : fm_H} {d : Nat} {z : Option Nat × Nat × Nat} {v0 : Nat} {v1 : Nat} {m : fm_M} (hE : fm_E G H) (h0 : fm_is H v0 8) (h1 : fm_is H v1 13) : fm_cal G H (d + 5) yX8_isWord [.ref v0, .ref v1] z m fm_rI (f_X8_isWord H v0 v1 m) := fm_mth (d := d + 4) mt_X8_isWord rfl rfl rfl (fun K => by
  show fm_o fm_rI (f_X8_isWord H v0 v1 m) K → fm_V G H (d + 4) RX8 cX8_isWord (some (.boolean)) z K 0 [some (.ref v0), some (.ref v1), none] [] m
  have T : fm_T RX8 cX8_isWord tc_X8_isWord fr_X8 mr_X8 cr_X8 lr_X8 := ⟨tok_X8, dc_X8_isWord⟩
  unfold f_X8_isWord
  refine fs_r T 1 1 [some (.ref v0), some (.ref v1), none] [.ref v0] rfl ?_
  refine fs_gi T 4 8 2 v0 rfl rfl rfl rfl h0 ?_
  refine fs_r T 1 5 [some (.ref v0), some (.ref v1), none] [.int (1 : Int32), .int (m.1 v0 2)] rfl ?_
  refine fs_ic_ne T 24 8 rfl rfl rfl (fun _ => ?_) (fun _ => ?_)
  · refine fs_r T 1 9 [some (.ref v0), some (.ref v1), none] [.ref v0] rfl ?_
    refine fs_gi T 12 8 5 v0 rfl rfl rfl rfl h0 ?_
    refine fs_r T 1 13 [some (.ref v0), some (.ref v1), none] [.ref v0, .int (m.1 v0 5)] rfl ?_
    refine fs_gi T 16 8 3 v0 rfl rfl rfl rfl h0 ?_
    refine fs_r T 2 18 [some (.ref v0), some (.ref v1), none] [.ref v1, .int (m.1 v0 5 - m.1 v0 3)] rfl ?_
    refine fs_vI T 21 rfl rfl rfl rfl rfl rfl h1 (q_J0_length_8abf5 (d := d + 2) hE h1) ?_
    intro x1 m1
    refine fs_ic_eq T 26 24 rfl rfl rfl (fun _ => ?_) (fun _ => ?_)
    · refine fs_r T 2 28 [some (.ref v0), some (.ref v1), some (.int (0 : Int32))] [] rfl ?_
      exact w_X8_isWord_28 hE h0 h1 _ _ _
    · refine fs_r T 1 25 [some (.ref v0), some (.ref v1), none] [.int (0 : Int32)] rfl ?_
      exact fs_retc T rfl rfl rfl rfl
  · refine fs_r T 1 25 [some (.ref v0), some (.ref v1), none] [.int (0 : Int32)] rfl ?_
    exact fs_retc T rfl rfl rfl rfl)
def f_X8_toFirst (H : fm_H) (v0 : Nat) (m : fm_M) : Option (Unit × fm_M) :=
  fm_bd (fm_si m v0 5 (0 : Int32)) fun m1 =>
  fm_bn (f_X8_toNext H v0 m1) fun _ m2 =>
  some ((), m2)
set_option maxRecDepth 10000 in
theorem q_X8_toFirst {G : pm_G} {H : fm_H} {d : Nat} {z : Option Nat × Nat × Nat} {v0 : Nat} {m : fm_M} (hE : fm_E G H) (h0 : fm_is H v0 8) : fm_cal G H (d + 3) yX8_toFirst [.ref v0] z m fm_rV (f_X8_toFirst H v0 m) := fm_mth (d := d + 2) mt_X8_toFirst rfl rfl rfl (fun K => by
  show fm_o fm_rV (f_X8_toFirst H v0 m) K → fm_V G H (d + 2) RX8 cX8_toFirst none z K 0 [some (.ref v0)] [] m
  have T : fm_T RX8 cX8_toFirst tc_X8_toFirst fr_X8 mr_X8 cr_X8 lr_X8 := ⟨tok_X8, dc_X8_toFirst⟩
  unfold f_X8_toFirst
  refine fs_r T 2 2 [some (.ref v0)] [.int (0 : Int32), .ref v0] rfl ?_
  refine fs_pi T 5 8 5 v0 rfl rfl rfl rfl h0 ?_
  intro m1
  refine fs_r T 1 6 [some (.ref v0)] [.ref v0] rfl ?_
  refine fs_vV T 9 rfl rfl rfl rfl rfl rfl h0 (q_X8_toNext (d := d) hE h0) ?_
  intro x1 m2
  exact fs_retv T rfl rfl rfl)
def f_X6_readSetup_142 (H : fm_H) (v0 : Nat) (m : fm_M) : Option (Int32 × fm_M) :=
  if m.1 v0 1 = 0 then
    some ((1 : Int32), m)
  else
  some ((0 : Int32), m)
set_option maxRecDepth 10000 in
theorem w_X6_readSetup_142 {G : pm_G} {H : fm_H} {d : Nat} {z : Option Nat × Nat × Nat} {K : pm_R → fm_M → Prop} (hE : fm_E G H) {v0 : Nat} (h0 : fm_is H v0 6) : ∀ (m : fm_M), fm_o fm_rI (f_X6_readSetup_142 H v0 m) K → fm_V G H (d + 5) RX6 cX6_readSetup (some (.boolean)) z K 142 [some (.ref v0), none, none] [] m := by
  have T : fm_T RX6 cX6_readSetup tc_X6_readSetup fr_X6 mr_X6 cr_X6 lr_X6 := ⟨tok_X6, dc_X6_readSetup⟩
  intro m
  unfold f_X6_readSetup_142
  refine fs_r T 1 143 [some (.ref v0), none, none] [.ref v0] rfl ?_
  refine fs_gi T 146 6 1 v0 rfl rfl rfl rfl h0 ?_
  refine fs_if_ne T 153 149 rfl rfl rfl (fun _ => ?_) (fun _ => ?_)
  · refine fs_r T 2 154 [some (.ref v0), none, none] [.int (1 : Int32)] rfl ?_
    exact fs_retc T rfl rfl rfl rfl
  · refine fs_r T 1 154 [some (.ref v0), none, none] [.int (0 : Int32)] rfl ?_
    exact fs_retc T rfl rfl rfl rfl
def f_X6_readSetup_132 (H : fm_H) (k23 : Int32 → fm_M → Option (Int32 × fm_M)) (v0 : Nat) (v1 : Nat) (v2 : Int32) (m : fm_M) : Option (Int32 × fm_M) :=
  fm_bn (f_X6_passSemicolon H v0 m) fun _ m1 =>
  k23 (v2 + 1) m1
set_option maxRecDepth 10000 in
theorem w_X6_readSetup_132 {G : pm_G} {H : fm_H} {d : Nat} {z : Option Nat × Nat × Nat} {K : pm_R → fm_M → Prop} (hE : fm_E G H) {k23 : Int32 → fm_M → Option (Int32 × fm_M)} {v0 : Nat} {v1 : Nat} {v2 : Int32} (Hk23 : ∀ (v2 : Int32) (m : fm_M), fm_o fm_rI (k23 v2 m) K → fm_V G H (d + 5) RX6 cX6_readSetup (some (.boolean)) z K 23 [some (.ref v0), some (.ref v1), some (.int v2)] [] m) (h0 : fm_is H v0 6) (h1 : fm_is H v1 7) : ∀ (m : fm_M), fm_o fm_rI (f_X6_readSetup_132 H k23 v0 v1 v2 m) K → fm_V G H (d + 5) RX6 cX6_readSetup (some (.boolean)) z K 132 [some (.ref v0), some (.ref v1), some (.int v2)] [] m := by
  have T : fm_T RX6 cX6_readSetup tc_X6_readSetup fr_X6 mr_X6 cr_X6 lr_X6 := ⟨tok_X6, dc_X6_readSetup⟩
  intro m
  unfold f_X6_readSetup_132
  refine fs_r T 1 133 [some (.ref v0), some (.ref v1), some (.int v2)] [.ref v0] rfl ?_
  refine fs_vV T 136 rfl rfl rfl rfl rfl rfl h0 (q_X6_passSemicolon (d := d + 1) hE h0) ?_
  intro x1 m1
  refine fs_r T 2 23 [some (.ref v0), some (.ref v1), some (.int (v2 + 1))] [] rfl ?_
  exact Hk23 _ _
def f_X6_readSetup_23 (H : fm_H) (v0 : Nat) (v1 : Nat) : Nat → Int32 → fm_M → Option (Int32 × fm_M)
  | 0, _, _ => none
  | n + 1, v2, m =>
    if (800 : Int32) ≤ v2 then
      f_X6_readSetup_142 H v0 m
    else
    if m.1 v0 1 = 0 then
      if m.1 (H.2.1 v0 0) 2 = 0 then
        f_X6_readSetup_142 H v0 m
      else
      fm_bn (f_X8_isWord H (H.2.1 v0 0) (H.2.2 RX6 36) m) fun x1 m1 =>
      if x1 = 0 then
        fm_bn (f_X8_isWord H (H.2.1 v0 0) (H.2.2 RX6 46) m1) fun x2 m2 =>
        if x2 = 0 then
          fm_bn (f_X8_isWord H (H.2.1 v0 0) (H.2.2 RX6 51) m2) fun x3 m3 =>
          if x3 = 0 then
            fm_bn (f_X8_isWord H (H.2.1 v0 0) (H.2.2 RX6 56) m3) fun x4 m4 =>
            if x4 = 0 then
              fm_bn (f_X6_fail H v0 (1 : Int32) m4) fun _ m5 =>
              f_X6_readSetup_132 H (f_X6_readSetup_23 H v0 v1 n) v0 v1 v2 m5
            else
            fm_bn (f_X6_readSetting H v0 v1 m4) fun _ m6 =>
            f_X6_readSetup_132 H (f_X6_readSetup_23 H v0 v1 n) v0 v1 v2 m6
          else
          fm_bn (f_X6_readCircuit H v0 v1 m3) fun _ m7 =>
          f_X6_readSetup_132 H (f_X6_readSetup_23 H v0 v1 n) v0 v1 v2 m7
        else
        fm_bn (f_X6_readLink H v0 v1 m2) fun _ m8 =>
        f_X6_readSetup_132 H (f_X6_readSetup_23 H v0 v1 n) v0 v1 v2 m8
      else
      fm_bn (f_X6_readNode H v0 v1 m1) fun _ m9 =>
      f_X6_readSetup_132 H (f_X6_readSetup_23 H v0 v1 n) v0 v1 v2 m9
    else
    f_X6_readSetup_142 H v0 m
set_option maxRecDepth 10000 in
theorem w_X6_readSetup_23 {G : pm_G} {H : fm_H} {d : Nat} {z : Option Nat × Nat × Nat} {K : pm_R → fm_M → Prop} (hE : fm_E G H) {v0 : Nat} {v1 : Nat} (h0 : fm_is H v0 6) (h1 : fm_is H v1 7) : ∀ (n : Nat) (v2 : Int32) (m : fm_M), fm_o fm_rI (f_X6_readSetup_23 H v0 v1 n v2 m) K → fm_V G H (d + 5) RX6 cX6_readSetup (some (.boolean)) z K 23 [some (.ref v0), some (.ref v1), some (.int v2)] [] m := by
  have T : fm_T RX6 cX6_readSetup tc_X6_readSetup fr_X6 mr_X6 cr_X6 lr_X6 := ⟨tok_X6, dc_X6_readSetup⟩
  intro n
  induction n with
  | zero =>
    intro v2 m 
    exact fs_none
  | succ n ih =>
    intro v2 m 
    unfold f_X6_readSetup_23
    refine fs_r T 2 27 [some (.ref v0), some (.ref v1), some (.int v2)] [.int (800 : Int32), .int v2] rfl ?_
    refine fs_ic_ge T 142 30 rfl rfl rfl (fun _ => ?_) (fun _ => ?_)
    · refine fs_wk (ls' := [some (.ref v0), none, none]) ⟨rfl, trivial⟩ ?_
      exact w_X6_readSetup_142 hE h0 _
    · refine fs_r T 1 31 [some (.ref v0), some (.ref v1), some (.int v2)] [.ref v0] rfl ?_
      refine fs_gi T 34 6 1 v0 rfl rfl rfl rfl h0 ?_
      refine fs_if_ne T 142 37 rfl rfl rfl (fun _ => ?_) (fun _ => ?_)
      · refine fs_r T 1 38 [some (.ref v0), some (.ref v1), some (.int v2)] [.ref v0] rfl ?_
        refine fs_gs T 41 6 0 v0 rfl rfl rfl rfl h0 ?_
        refine fs_gi T 44 8 2 (H.2.1 v0 0) rfl rfl rfl rfl (hE.1 _ 6 0 h0) ?_
        refine fs_if_eq T 142 47 rfl rfl rfl (fun _ => ?_) (fun _ => ?_)
        · refine fs_wk (ls' := [some (.ref v0), none, none]) ⟨rfl, trivial⟩ ?_
          exact w_X6_readSetup_142 hE h0 _
        · refine fs_r T 1 48 [some (.ref v0), some (.ref v1), some (.int v2)] [.ref v0] rfl ?_
          refine fs_gs T 51 6 0 v0 rfl rfl rfl rfl h0 ?_
          refine fs_ldcS T hE 53 36 rfl rfl rfl ?_
          intro e1
          refine fs_vI T 56 rfl rfl rfl rfl rfl rfl (hE.1 _ 6 0 h0) (q_X8_isWord (d := d) hE (hE.1 _ 6 0 h0) e1) ?_
          intro x1 m1
          refine fs_if_eq T 67 59 rfl rfl rfl (fun _ => ?_) (fun _ => ?_)
          · refine fs_r T 1 68 [some (.ref v0), some (.ref v1), some (.int v2)] [.ref v0] rfl ?_
            refine fs_gs T 71 6 0 v0 rfl rfl rfl rfl h0 ?_
            refine fs_ldcS T hE 73 46 rfl rfl rfl ?_
            intro e2
            refine fs_vI T 76 rfl rfl rfl rfl rfl rfl (hE.1 _ 6 0 h0) (q_X8_isWord (d := d) hE (hE.1 _ 6 0 h0) e2) ?_
            intro x2 m2
            refine fs_if_eq T 87 79 rfl rfl rfl (fun _ => ?_) (fun _ => ?_)
            · refine fs_r T 1 88 [some (.ref v0), some (.ref v1), some (.int v2)] [.ref v0] rfl ?_
              refine fs_gs T 91 6 0 v0 rfl rfl rfl rfl h0 ?_
              refine fs_ldcS T hE 93 51 rfl rfl rfl ?_
              intro e3
              refine fs_vI T 96 rfl rfl rfl rfl rfl rfl (hE.1 _ 6 0 h0) (q_X8_isWord (d := d) hE (hE.1 _ 6 0 h0) e3) ?_
              intro x3 m3
              refine fs_if_eq T 107 99 rfl rfl rfl (fun _ => ?_) (fun _ => ?_)
              · refine fs_r T 1 108 [some (.ref v0), some (.ref v1), some (.int v2)] [.ref v0] rfl ?_
                refine fs_gs T 111 6 0 v0 rfl rfl rfl rfl h0 ?_
                refine fs_ldcS T hE 113 56 rfl rfl rfl ?_
                intro e4
                refine fs_vI T 116 rfl rfl rfl rfl rfl rfl (hE.1 _ 6 0 h0) (q_X8_isWord (d := d) hE (hE.1 _ 6 0 h0) e4) ?_
                intro x4 m4
                refine fs_if_eq T 127 119 rfl rfl rfl (fun _ => ?_) (fun _ => ?_)
                · refine fs_r T 2 129 [some (.ref v0), some (.ref v1), some (.int v2)] [.int (1 : Int32), .ref v0] rfl ?_
                  refine fs_vV T 132 rfl rfl rfl rfl rfl rfl h0 (q_X6_fail (d := d + 4) hE h0) ?_
                  intro x5 m5
                  exact w_X6_readSetup_132 hE ih h0 h1 _
                · refine fs_r T 2 121 [some (.ref v0), some (.ref v1), some (.int v2)] [.ref v1, .ref v0] rfl ?_
                  refine fs_vV T 124 rfl rfl rfl rfl rfl rfl h0 (q_X6_readSetting (d := d) hE h0 h1) ?_
                  intro x6 m6
                  refine fs_r T 1 132 [some (.ref v0), some (.ref v1), some (.int v2)] [] rfl ?_
                  exact w_X6_readSetup_132 hE ih h0 h1 _
              · refine fs_r T 2 101 [some (.ref v0), some (.ref v1), some (.int v2)] [.ref v1, .ref v0] rfl ?_
                refine fs_vV T 104 rfl rfl rfl rfl rfl rfl h0 (q_X6_readCircuit (d := d) hE h0 h1) ?_
                intro x7 m7
                refine fs_r T 1 132 [some (.ref v0), some (.ref v1), some (.int v2)] [] rfl ?_
                exact w_X6_readSetup_132 hE ih h0 h1 _
            · refine fs_r T 2 81 [some (.ref v0), some (.ref v1), some (.int v2)] [.ref v1, .ref v0] rfl ?_
              refine fs_vV T 84 rfl rfl rfl rfl rfl rfl h0 (q_X6_readLink (d := d) hE h0 h1) ?_
              intro x8 m8
              refine fs_r T 1 132 [some (.ref v0), some (.ref v1), some (.int v2)] [] rfl ?_
              exact w_X6_readSetup_132 hE ih h0 h1 _
          · refine fs_r T 2 61 [some (.ref v0), some (.ref v1), some (.int v2)] [.ref v1, .ref v0] rfl ?_
            refine fs_vV T 64 rfl rfl rfl rfl rfl rfl h0 (q_X6_readNode (d := d) hE h0 h1) ?_
            intro x9 m9
            refine fs_r T 1 132 [some (.ref v0), some (.ref v1), some (.int v2)] [] rfl ?_
            exact w_X6_readSetup_132 hE ih h0 h1 _
      · refine fs_wk (ls' := [some (.ref v0), none, none]) ⟨rfl, trivial⟩ ?_
        exact w_X6_readSetup_142 hE h0 _
def f_X6_readSetup (H : fm_H) (v0 : Nat) (v1 : Nat) (m : fm_M) : Option (Int32 × fm_M) :=
  fm_bd (fm_si m v0 1 (0 : Int32)) fun m1 =>
  fm_bd (fm_si m1 v0 2 (-1 : Int32)) fun m2 =>
  fm_bn (f_X7_erase H v1 m2) fun _ m3 =>
  fm_bn (f_X8_toFirst H (H.2.1 v0 0) m3) fun _ m4 =>
  f_X6_readSetup_23 H v0 v1 fm_N (0 : Int32) m4
set_option maxRecDepth 10000 in
theorem q_X6_readSetup {G : pm_G} {H : fm_H} {d : Nat} {z : Option Nat × Nat × Nat} {v0 : Nat} {v1 : Nat} {m : fm_M} (hE : fm_E G H) (h0 : fm_is H v0 6) (h1 : fm_is H v1 7) : fm_cal G H (d + 6) yX6_readSetup [.ref v0, .ref v1] z m fm_rI (f_X6_readSetup H v0 v1 m) := fm_mth (d := d + 5) mt_X6_readSetup rfl rfl rfl (fun K => by
  show fm_o fm_rI (f_X6_readSetup H v0 v1 m) K → fm_V G H (d + 5) RX6 cX6_readSetup (some (.boolean)) z K 0 [some (.ref v0), some (.ref v1), none] [] m
  have T : fm_T RX6 cX6_readSetup tc_X6_readSetup fr_X6 mr_X6 cr_X6 lr_X6 := ⟨tok_X6, dc_X6_readSetup⟩
  unfold f_X6_readSetup
  refine fs_r T 2 2 [some (.ref v0), some (.ref v1), none] [.int (0 : Int32), .ref v0] rfl ?_
  refine fs_pi T 5 6 1 v0 rfl rfl rfl rfl h0 ?_
  intro m1
  refine fs_r T 2 7 [some (.ref v0), some (.ref v1), none] [.int (-1 : Int32), .ref v0] rfl ?_
  refine fs_pi T 10 6 2 v0 rfl rfl rfl rfl h0 ?_
  intro m2
  refine fs_r T 1 11 [some (.ref v0), some (.ref v1), none] [.ref v1] rfl ?_
  refine fs_vV T 14 rfl rfl rfl rfl rfl rfl h1 (q_X7_erase (d := d + 2) hE h1) ?_
  intro x1 m3
  refine fs_r T 1 15 [some (.ref v0), some (.ref v1), none] [.ref v0] rfl ?_
  refine fs_gs T 18 6 0 v0 rfl rfl rfl rfl h0 ?_
  refine fs_vV T 21 rfl rfl rfl rfl rfl rfl (hE.1 _ 6 0 h0) (q_X8_toFirst (d := d + 2) hE (hE.1 _ 6 0 h0)) ?_
  intro x2 m4
  refine fs_r T 2 23 [some (.ref v0), some (.ref v1), some (.int (0 : Int32))] [] rfl ?_
  exact w_X6_readSetup_23 hE h0 h1 _ _ _)
