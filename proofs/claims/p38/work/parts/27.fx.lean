/-! functions out of the code -/
def f_X10_copyNodes_10 (H : fm_H) (v0 : Nat) (v1 : Nat) : Nat → Int32 → fm_M → Option (Unit × fm_M)
  | 0, _, _ => none
  | n + 1, v2, m =>
    if (6 : Int32) ≤ v2 then
      some ((), m)
    else
    if px_inb v2 (fm_sz H (H.2.1 v1 1)) = true then
      if px_inb v2 (fm_sz H (H.2.1 v0 1)) = true then
        (fm_bd (fm_si m (H.2.1 v0 1) v2.toNatClampNeg (m.1 (H.2.1 v1 1) v2.toNatClampNeg)) fun m1 =>
        if px_inb v2 (fm_sz H (H.2.1 v1 2)) = true then
          if px_inb v2 (fm_sz H (H.2.1 v0 2)) = true then
            (fm_bd (fm_si m1 (H.2.1 v0 2) v2.toNatClampNeg (m1.1 (H.2.1 v1 2) v2.toNatClampNeg)) fun m2 =>
            if px_inb v2 (fm_sz H (H.2.1 v0 3)) = true then
              (fm_bd (fm_si m2 (H.2.1 v0 3) v2.toNatClampNeg (-1 : Int32)) fun m3 =>
              f_X10_copyNodes_10 H v0 v1 n (v2 + 1) m3)
            else none)
          else none
        else none)
      else none
    else none
set_option maxRecDepth 10000 in
theorem w_X10_copyNodes_10 {G : pm_G} {H : fm_H} {d : Nat} {z : fm_Z H} {K : pm_R → fm_M → Prop} (hE : fm_E G H) {v0 : Nat} {v1 : Nat} (h0 : fm_is H v0 10) (h1 : fm_is H v1 10) : ∀ (n : Nat) (v2 : Int32) (m : fm_M), fm_o fm_rV (f_X10_copyNodes_10 H v0 v1 n v2 m) K → fm_V G H (d + 0) RX10 cX10_copyNodes none z K 10 [some (.ref v0), some (.ref v1), some (.int v2)] [] m := by
  have T : fm_T RX10 cX10_copyNodes tc_X10_copyNodes fr_X10 mr_X10 cr_X10 lr_X10 := ⟨tok_X10, dc_X10_copyNodes⟩
  intro n
  induction n with
  | zero =>
    intro v2 m 
    exact fs_none
  | succ n ih =>
    intro v2 m 
    unfold f_X10_copyNodes_10
    refine fs_r T 2 13 [some (.ref v0), some (.ref v1), some (.int v2)] [.int (6 : Int32), .int v2] rfl ?_
    refine fs_ic_ge T 53 16 rfl rfl rfl (fun _ => ?_) (fun _ => ?_)
    · exact fs_retv T rfl rfl rfl
    · refine fs_r T 1 17 [some (.ref v0), some (.ref v1), some (.int v2)] [.ref v0] rfl ?_
      refine fs_gs T 20 10 1 v0 rfl rfl rfl rfl h0 ?_
      refine fs_r T 2 22 [some (.ref v0), some (.ref v1), some (.int v2)] [.ref v1, .int v2, .ref (H.2.1 v0 1)] rfl ?_
      refine fs_gs T 25 10 1 v1 rfl rfl rfl rfl h1 ?_
      refine fs_r T 1 26 [some (.ref v0), some (.ref v1), some (.int v2)] [.int v2, .ref (H.2.1 v1 1), .int v2, .ref (H.2.1 v0 1)] rfl ?_
      refine fs_ai T 27 (H.2.1 v1 1) rfl rfl (hE.1 _ 10 1 h1) ?_
      refine fs_si T 28 (H.2.1 v0 1) rfl rfl (hE.1 _ 10 1 h0) ?_
      intro m1
      refine fs_r T 1 29 [some (.ref v0), some (.ref v1), some (.int v2)] [.ref v0] rfl ?_
      refine fs_gs T 32 10 2 v0 rfl rfl rfl rfl h0 ?_
      refine fs_r T 2 34 [some (.ref v0), some (.ref v1), some (.int v2)] [.ref v1, .int v2, .ref (H.2.1 v0 2)] rfl ?_
      refine fs_gs T 37 10 2 v1 rfl rfl rfl rfl h1 ?_
      refine fs_r T 1 38 [some (.ref v0), some (.ref v1), some (.int v2)] [.int v2, .ref (H.2.1 v1 2), .int v2, .ref (H.2.1 v0 2)] rfl ?_
      refine fs_ai T 39 (H.2.1 v1 2) rfl rfl (hE.1 _ 10 2 h1) ?_
      refine fs_si T 40 (H.2.1 v0 2) rfl rfl (hE.1 _ 10 2 h0) ?_
      intro m2
      refine fs_r T 1 41 [some (.ref v0), some (.ref v1), some (.int v2)] [.ref v0] rfl ?_
      refine fs_gs T 44 10 3 v0 rfl rfl rfl rfl h0 ?_
      refine fs_r T 2 46 [some (.ref v0), some (.ref v1), some (.int v2)] [.int (-1 : Int32), .int v2, .ref (H.2.1 v0 3)] rfl ?_
      refine fs_si T 47 (H.2.1 v0 3) rfl rfl (hE.1 _ 10 3 h0) ?_
      intro m3
      refine fs_r T 2 10 [some (.ref v0), some (.ref v1), some (.int (v2 + 1))] [] rfl ?_
      exact ih _ _
def f_X10_copyNodes (H : fm_H) (v0 : Nat) (v1 : Nat) (m : fm_M) : Option (Unit × fm_M) :=
  fm_bd (fm_si m v0 0 (m.1 v1 0)) fun m1 =>
  f_X10_copyNodes_10 H v0 v1 fm_N (0 : Int32) m1
set_option maxRecDepth 10000 in
theorem q_X10_copyNodes {G : pm_G} {H : fm_H} {d : Nat} {z : fm_Z H} {v0 : Nat} {v1 : Nat} {m : fm_M} (hE : fm_E G H) (h0 : fm_is H v0 10) (h1 : fm_is H v1 10) : fm_cal G H (d + 1) yX10_copyNodes [.ref v0, .ref v1] z m fm_rV (f_X10_copyNodes H v0 v1 m) := fm_mth (d := d + 0) mt_X10_copyNodes rfl rfl rfl (fun K => by
  show fm_o fm_rV (f_X10_copyNodes H v0 v1 m) K → fm_V G H (d + 0) RX10 cX10_copyNodes none z K 0 [some (.ref v0), some (.ref v1), none] [] m
  have T : fm_T RX10 cX10_copyNodes tc_X10_copyNodes fr_X10 mr_X10 cr_X10 lr_X10 := ⟨tok_X10, dc_X10_copyNodes⟩
  unfold f_X10_copyNodes
  refine fs_r T 2 2 [some (.ref v0), some (.ref v1), none] [.ref v1, .ref v0] rfl ?_
  refine fs_gi T 5 10 0 v1 rfl rfl rfl rfl h1 ?_
  refine fs_pi T 8 10 0 v0 rfl rfl rfl rfl h0 ?_
  intro m1
  refine fs_r T 2 10 [some (.ref v0), some (.ref v1), some (.int (0 : Int32))] [] rfl ?_
  exact w_X10_copyNodes_10 hE h0 h1 _ _ _)
def f_X1_keepIfBetter_43 (H : fm_H) (v0 : Nat) (v1 : Int32) (m : fm_M) : Option (Unit × fm_M) :=
  if (1 : Int32) = 0 then
    some ((), m)
  else
  fm_bn (f_X10_copyNodes H (H.2.1 v0 0) (H.2.1 v0 1) m) fun _ m1 =>
  fm_bd (fm_si m1 v0 4 v1) fun m2 =>
  some ((), m2)
set_option maxRecDepth 10000 in
theorem w_X1_keepIfBetter_43 {G : pm_G} {H : fm_H} {d : Nat} {z : fm_Z H} {K : pm_R → fm_M → Prop} (hE : fm_E G H) {v0 : Nat} {v1 : Int32} (h0 : fm_is H v0 1) : ∀ (m : fm_M), fm_o fm_rV (f_X1_keepIfBetter_43 H v0 v1 m) K → fm_V G H (d + 1) RX1 cX1_keepIfBetter none z K 43 [some (.ref v0), some (.int v1), none] [] m := by
  have T : fm_T RX1 cX1_keepIfBetter tc_X1_keepIfBetter fr_X1 mr_X1 cr_X1 lr_X1 := ⟨tok_X1, dc_X1_keepIfBetter⟩
  intro m
  unfold f_X1_keepIfBetter_43
  refine fs_r T 4 50 [some (.ref v0), some (.int v1), some (.int (1 : Int32))] [.int (1 : Int32)] rfl ?_
  refine fs_if_eq T 69 53 rfl rfl rfl (fun _ => ?_) (fun _ => ?_)
  · exact fs_retv T rfl rfl rfl
  · refine fs_r T 1 54 [some (.ref v0), some (.int v1), some (.int (1 : Int32))] [.ref v0] rfl ?_
    refine fs_gs T 57 1 0 v0 rfl rfl rfl rfl h0 ?_
    refine fs_r T 1 58 [some (.ref v0), some (.int v1), some (.int (1 : Int32))] [.ref v0, .ref (H.2.1 v0 0)] rfl ?_
    refine fs_gs T 61 1 1 v0 rfl rfl rfl rfl h0 ?_
    refine fs_vV T 64 rfl rfl rfl rfl rfl rfl (hE.1 _ 1 0 h0) (q_X10_copyNodes (d := d) hE (hE.1 _ 1 0 h0) (hE.1 _ 1 1 h0)) ?_
    intro x1 m1
    refine fs_r T 2 66 [some (.ref v0), some (.int v1), some (.int (1 : Int32))] [.int v1, .ref v0] rfl ?_
    refine fs_pi T 69 1 4 v0 rfl rfl rfl rfl h0 ?_
    intro m2
    exact fs_retv T rfl rfl rfl
def f_X1_keepIfBetter (H : fm_H) (v0 : Nat) (v1 : Int32) (m : fm_M) : Option (Unit × fm_M) :=
  if m.1 (H.2.1 v0 0) 0 = 0 then
    f_X1_keepIfBetter_43 H v0 v1 m
  else
  if v1 < m.1 v0 4 then
    f_X1_keepIfBetter_43 H v0 v1 m
  else
  if v1 = m.1 v0 4 then
    if m.1 (H.2.1 v0 0) 0 ≤ m.1 (H.2.1 v0 1) 0 then
      if (0 : Int32) = 0 then
        some ((), m)
      else
      fm_bn (f_X10_copyNodes H (H.2.1 v0 0) (H.2.1 v0 1) m) fun _ m3 =>
      fm_bd (fm_si m3 v0 4 v1) fun m4 =>
      some ((), m4)
    else
    f_X1_keepIfBetter_43 H v0 v1 m
  else
  if (0 : Int32) = 0 then
    some ((), m)
  else
  fm_bn (f_X10_copyNodes H (H.2.1 v0 0) (H.2.1 v0 1) m) fun _ m1 =>
  fm_bd (fm_si m1 v0 4 v1) fun m2 =>
  some ((), m2)
set_option maxRecDepth 10000 in
theorem q_X1_keepIfBetter {G : pm_G} {H : fm_H} {d : Nat} {z : fm_Z H} {v0 : Nat} {v1 : Int32} {m : fm_M} (hE : fm_E G H) (h0 : fm_is H v0 1) : fm_cal G H (d + 2) yX1_keepIfBetter [.ref v0, .int v1] z m fm_rV (f_X1_keepIfBetter H v0 v1 m) := fm_mth (d := d + 1) mt_X1_keepIfBetter rfl rfl rfl (fun K => by
  show fm_o fm_rV (f_X1_keepIfBetter H v0 v1 m) K → fm_V G H (d + 1) RX1 cX1_keepIfBetter none z K 0 [some (.ref v0), some (.int v1), none] [] m
  have T : fm_T RX1 cX1_keepIfBetter tc_X1_keepIfBetter fr_X1 mr_X1 cr_X1 lr_X1 := ⟨tok_X1, dc_X1_keepIfBetter⟩
  unfold f_X1_keepIfBetter
  refine fs_r T 1 1 [some (.ref v0), some (.int v1), none] [.ref v0] rfl ?_
  refine fs_gs T 4 1 0 v0 rfl rfl rfl rfl h0 ?_
  refine fs_gi T 7 10 0 (H.2.1 v0 0) rfl rfl rfl rfl (hE.1 _ 1 0 h0) ?_
  refine fs_if_eq T 43 10 rfl rfl rfl (fun _ => ?_) (fun _ => ?_)
  · exact w_X1_keepIfBetter_43 hE h0 _
  · refine fs_r T 2 12 [some (.ref v0), some (.int v1), none] [.ref v0, .int v1] rfl ?_
    refine fs_gi T 15 1 4 v0 rfl rfl rfl rfl h0 ?_
    refine fs_ic_lt T 43 18 rfl rfl rfl (fun _ => ?_) (fun _ => ?_)
    · exact w_X1_keepIfBetter_43 hE h0 _
    · refine fs_r T 2 20 [some (.ref v0), some (.int v1), none] [.ref v0, .int v1] rfl ?_
      refine fs_gi T 23 1 4 v0 rfl rfl rfl rfl h0 ?_
      refine fs_ic_ne T 47 26 rfl rfl rfl (fun _ => ?_) (fun _ => ?_)
      · refine fs_r T 1 27 [some (.ref v0), some (.int v1), none] [.ref v0] rfl ?_
        refine fs_gs T 30 1 1 v0 rfl rfl rfl rfl h0 ?_
        refine fs_gi T 33 10 0 (H.2.1 v0 1) rfl rfl rfl rfl (hE.1 _ 1 1 h0) ?_
        refine fs_r T 1 34 [some (.ref v0), some (.int v1), none] [.ref v0, .int (m.1 (H.2.1 v0 1) 0)] rfl ?_
        refine fs_gs T 37 1 0 v0 rfl rfl rfl rfl h0 ?_
        refine fs_gi T 40 10 0 (H.2.1 v0 0) rfl rfl rfl rfl (hE.1 _ 1 0 h0) ?_
        refine fs_ic_ge T 47 43 rfl rfl rfl (fun _ => ?_) (fun _ => ?_)
        · refine fs_r T 3 50 [some (.ref v0), some (.int v1), some (.int (0 : Int32))] [.int (0 : Int32)] rfl ?_
          refine fs_if_eq T 69 53 rfl rfl rfl (fun _ => ?_) (fun _ => ?_)
          · exact fs_retv T rfl rfl rfl
          · refine fs_r T 1 54 [some (.ref v0), some (.int v1), some (.int (0 : Int32))] [.ref v0] rfl ?_
            refine fs_gs T 57 1 0 v0 rfl rfl rfl rfl h0 ?_
            refine fs_r T 1 58 [some (.ref v0), some (.int v1), some (.int (0 : Int32))] [.ref v0, .ref (H.2.1 v0 0)] rfl ?_
            refine fs_gs T 61 1 1 v0 rfl rfl rfl rfl h0 ?_
            refine fs_vV T 64 rfl rfl rfl rfl rfl rfl (hE.1 _ 1 0 h0) (q_X10_copyNodes (d := d) hE (hE.1 _ 1 0 h0) (hE.1 _ 1 1 h0)) ?_
            intro x2 m3
            refine fs_r T 2 66 [some (.ref v0), some (.int v1), some (.int (0 : Int32))] [.int v1, .ref v0] rfl ?_
            refine fs_pi T 69 1 4 v0 rfl rfl rfl rfl h0 ?_
            intro m4
            exact fs_retv T rfl rfl rfl
        · exact w_X1_keepIfBetter_43 hE h0 _
      · refine fs_r T 3 50 [some (.ref v0), some (.int v1), some (.int (0 : Int32))] [.int (0 : Int32)] rfl ?_
        refine fs_if_eq T 69 53 rfl rfl rfl (fun _ => ?_) (fun _ => ?_)
        · exact fs_retv T rfl rfl rfl
        · refine fs_r T 1 54 [some (.ref v0), some (.int v1), some (.int (0 : Int32))] [.ref v0] rfl ?_
          refine fs_gs T 57 1 0 v0 rfl rfl rfl rfl h0 ?_
          refine fs_r T 1 58 [some (.ref v0), some (.int v1), some (.int (0 : Int32))] [.ref v0, .ref (H.2.1 v0 0)] rfl ?_
          refine fs_gs T 61 1 1 v0 rfl rfl rfl rfl h0 ?_
          refine fs_vV T 64 rfl rfl rfl rfl rfl rfl (hE.1 _ 1 0 h0) (q_X10_copyNodes (d := d) hE (hE.1 _ 1 0 h0) (hE.1 _ 1 1 h0)) ?_
          intro x1 m1
          refine fs_r T 2 66 [some (.ref v0), some (.int v1), some (.int (0 : Int32))] [.int v1, .ref v0] rfl ?_
          refine fs_pi T 69 1 4 v0 rfl rfl rfl rfl h0 ?_
          intro m2
          exact fs_retv T rfl rfl rfl)
def f_X4_delayOn (H : fm_H) (v0 : Nat) (v1 : Int32) (m : fm_M) : Option (Int32 × fm_M) :=
  fm_bn (f_X4_isLink H v0 v1 m) fun x1 m1 =>
  if x1 = 0 then
    some ((0 : Int32), m1)
  else
  if px_inb v1 (fm_sz H (H.2.1 v0 2)) = true then
    (if fm_isb H (m1.2.1 (H.2.1 v0 2) v1.toNatClampNeg) 3 = true then
      some (m1.1 (m1.2.1 (H.2.1 v0 2) v1.toNatClampNeg) 3, m1)
    else none)
  else none
set_option maxRecDepth 10000 in
theorem q_X4_delayOn {G : pm_G} {H : fm_H} {d : Nat} {z : fm_Z H} {v0 : Nat} {v1 : Int32} {m : fm_M} (hE : fm_E G H) (h0 : fm_is H v0 4) : fm_cal G H (d + 2) yX4_delayOn [.ref v0, .int v1] z m fm_rI (f_X4_delayOn H v0 v1 m) := fm_mth (d := d + 1) mt_X4_delayOn rfl rfl rfl (fun K => by
  show fm_o fm_rI (f_X4_delayOn H v0 v1 m) K → fm_V G H (d + 1) RX4 cX4_delayOn (some (.int)) z K 0 [some (.ref v0), some (.int v1)] [] m
  have T : fm_T RX4 cX4_delayOn tc_X4_delayOn fr_X4 mr_X4 cr_X4 lr_X4 := ⟨tok_X4, dc_X4_delayOn⟩
  unfold f_X4_delayOn
  refine fs_r T 2 2 [some (.ref v0), some (.int v1)] [.int v1, .ref v0] rfl ?_
  refine fs_vI T 5 rfl rfl rfl rfl rfl rfl h0 (q_X4_isLink (d := d) hE h0) ?_
  intro x1 m1
  refine fs_if_eq T 20 8 rfl rfl rfl (fun _ => ?_) (fun _ => ?_)
  · refine fs_r T 1 21 [some (.ref v0), some (.int v1)] [.int (0 : Int32)] rfl ?_
    exact fs_reti T rfl rfl rfl
  · refine fs_r T 1 9 [some (.ref v0), some (.int v1)] [.ref v0] rfl ?_
    refine fs_gs T 12 4 2 v0 rfl rfl rfl rfl h0 ?_
    refine fs_r T 1 13 [some (.ref v0), some (.int v1)] [.int v1, .ref (H.2.1 v0 2)] rfl ?_
    refine fs_aa T 14 (H.2.1 v0 2) 3 rfl rfl (hE.1 _ 4 2 h0) ?_
    intro e1
    refine fs_gi T 17 3 3 (m1.2.1 (H.2.1 v0 2) v1.toNatClampNeg) rfl rfl rfl rfl e1 ?_
    refine fs_r T 1 21 [some (.ref v0), some (.int v1)] [.int (m1.1 (m1.2.1 (H.2.1 v0 2) v1.toNatClampNeg) 3)] rfl ?_
    exact fs_reti T rfl rfl rfl)
def f_X4_linkBetween (H : fm_H) (v0 : Nat) (v1 : Int32) (v2 : Int32) (m : fm_M) : Option (Int32 × fm_M) :=
  if v1 < 0 then
    some ((-1 : Int32), m)
  else
  if m.1 v0 0 ≤ v1 then
    some ((-1 : Int32), m)
  else
  if v2 < 0 then
    some ((-1 : Int32), m)
  else
  if v2 < m.1 v0 0 then
    if px_inb ((v1 * (10 : Int32)) + v2) (fm_sz H (H.2.1 v0 3)) = true then
      some (m.1 (H.2.1 v0 3) ((v1 * (10 : Int32)) + v2).toNatClampNeg, m)
    else none
  else
  some ((-1 : Int32), m)
set_option maxRecDepth 10000 in
theorem q_X4_linkBetween {G : pm_G} {H : fm_H} {d : Nat} {z : fm_Z H} {v0 : Nat} {v1 : Int32} {v2 : Int32} {m : fm_M} (hE : fm_E G H) (h0 : fm_is H v0 4) : fm_cal G H (d + 1) yX4_linkBetween [.ref v0, .int v1, .int v2] z m fm_rI (f_X4_linkBetween H v0 v1 v2 m) := fm_mth (d := d + 0) mt_X4_linkBetween rfl rfl rfl (fun K => by
  show fm_o fm_rI (f_X4_linkBetween H v0 v1 v2 m) K → fm_V G H (d + 0) RX4 cX4_linkBetween (some (.int)) z K 0 [some (.ref v0), some (.int v1), some (.int v2)] [] m
  have T : fm_T RX4 cX4_linkBetween tc_X4_linkBetween fr_X4 mr_X4 cr_X4 lr_X4 := ⟨tok_X4, dc_X4_linkBetween⟩
  unfold f_X4_linkBetween
  refine fs_r T 1 1 [some (.ref v0), some (.int v1), some (.int v2)] [.int v1] rfl ?_
  refine fs_if_lt T 24 4 rfl rfl rfl (fun _ => ?_) (fun _ => ?_)
  · refine fs_r T 1 25 [some (.ref v0), some (.int v1), some (.int v2)] [.int (-1 : Int32)] rfl ?_
    exact fs_reti T rfl rfl rfl
  · refine fs_r T 2 6 [some (.ref v0), some (.int v1), some (.int v2)] [.ref v0, .int v1] rfl ?_
    refine fs_gi T 9 4 0 v0 rfl rfl rfl rfl h0 ?_
    refine fs_ic_ge T 24 12 rfl rfl rfl (fun _ => ?_) (fun _ => ?_)
    · refine fs_r T 1 25 [some (.ref v0), some (.int v1), some (.int v2)] [.int (-1 : Int32)] rfl ?_
      exact fs_reti T rfl rfl rfl
    · refine fs_r T 1 13 [some (.ref v0), some (.int v1), some (.int v2)] [.int v2] rfl ?_
      refine fs_if_lt T 24 16 rfl rfl rfl (fun _ => ?_) (fun _ => ?_)
      · refine fs_r T 1 25 [some (.ref v0), some (.int v1), some (.int v2)] [.int (-1 : Int32)] rfl ?_
        exact fs_reti T rfl rfl rfl
      · refine fs_r T 2 18 [some (.ref v0), some (.int v1), some (.int v2)] [.ref v0, .int v2] rfl ?_
        refine fs_gi T 21 4 0 v0 rfl rfl rfl rfl h0 ?_
        refine fs_ic_lt T 26 24 rfl rfl rfl (fun _ => ?_) (fun _ => ?_)
        · refine fs_r T 1 27 [some (.ref v0), some (.int v1), some (.int v2)] [.ref v0] rfl ?_
          refine fs_gs T 30 4 3 v0 rfl rfl rfl rfl h0 ?_
          refine fs_r T 5 36 [some (.ref v0), some (.int v1), some (.int v2)] [.int ((v1 * (10 : Int32)) + v2), .ref (H.2.1 v0 3)] rfl ?_
          refine fs_ai T 37 (H.2.1 v0 3) rfl rfl (hE.1 _ 4 3 h0) ?_
          exact fs_reti T rfl rfl rfl
        · refine fs_r T 1 25 [some (.ref v0), some (.int v1), some (.int v2)] [.int (-1 : Int32)] rfl ?_
          exact fs_reti T rfl rfl rfl)
def f_X1_visit_50 (H : fm_H) (rec : Nat → Nat → Int32 → Int32 → Int32 → fm_M → Option (Unit × fm_M)) (v0 : Nat) (v1 : Nat) (v2 : Int32) (v3 : Int32) (v4 : Int32) (v5 : Int32) : Nat → Int32 → fm_M → Option (Unit × fm_M)
  | 0, _, _ => none
  | n + 1, v6, m =>
    if m.1 v1 0 ≤ v6 then
      some ((), m)
    else
    fm_bn (f_X4_linkBetween H v1 v5 v6 m) fun x1 m1 =>
    fm_bn (f_X1_isOpen H v0 x1 m1) fun x2 m2 =>
    if x2 = 0 then
      f_X1_visit_50 H rec v0 v1 v2 v3 v4 v5 n (v6 + 1) m2
    else
    fm_bn (f_X10_hasNode H (H.2.1 v0 1) v6 m2) fun x3 m3 =>
    if x3 = 0 then
      fm_bn (f_X10_append H (H.2.1 v0 1) v6 x1 m3) fun _ m4 =>
      fm_bn (f_X4_delayOn H v1 x1 m4) fun x5 m5 =>
      fm_bn (rec v0 v1 v2 (v3 + x5) (v4 + (1 : Int32)) m5) fun _ m6 =>
      fm_bn (f_X10_dropLast H (H.2.1 v0 1) m6) fun _ m7 =>
      f_X1_visit_50 H rec v0 v1 v2 v3 v4 v5 n (v6 + 1) m7
    else
    f_X1_visit_50 H rec v0 v1 v2 v3 v4 v5 n (v6 + 1) m3
set_option maxRecDepth 10000 in
theorem w_X1_visit_50 {G : pm_G} {H : fm_H} {d n9 : Nat} {z : fm_Z H} {K : pm_R → fm_M → Prop} (hE : fm_E G H) {rec : Nat → Nat → Int32 → Int32 → Int32 → fm_M → Option (Unit × fm_M)} {v0 : Nat} {v1 : Nat} {v2 : Int32} {v3 : Int32} {v4 : Int32} {v5 : Int32} (Hrec : ∀ (u0 : Nat) (u1 : Nat) (u2 : Int32) (u3 : Int32) (u4 : Int32) (m : fm_M), fm_is H u0 1 → fm_is H u1 4 → fm_cal G H (d + n9 + 3) yX1_visit [.ref u0, .ref u1, .int u2, .int u3, .int u4] z m fm_rV (rec u0 u1 u2 u3 u4 m)) (h0 : fm_is H v0 1) (h1 : fm_is H v1 4) : ∀ (n : Nat) (v6 : Int32) (m : fm_M), fm_o fm_rV (f_X1_visit_50 H rec v0 v1 v2 v3 v4 v5 n v6 m) K → fm_V G H (d + n9 + 3) RX1 cX1_visit none z K 50 [some (.ref v0), some (.ref v1), some (.int v2), some (.int v3), some (.int v4), some (.int v5), some (.int v6), none] [] m := by
  have T : fm_T RX1 cX1_visit tc_X1_visit fr_X1 mr_X1 cr_X1 lr_X1 := ⟨tok_X1, dc_X1_visit⟩
  intro n
  induction n with
  | zero =>
    intro v6 m 
    exact fs_none
  | succ n ih =>
    intro v6 m 
    unfold f_X1_visit_50
    refine fs_r T 2 53 [some (.ref v0), some (.ref v1), some (.int v2), some (.int v3), some (.int v4), some (.int v5), some (.int v6), none] [.ref v1, .int v6] rfl ?_
    refine fs_gi T 56 4 0 v1 rfl rfl rfl rfl h1 ?_
    refine fs_ic_ge T 132 59 rfl rfl rfl (fun _ => ?_) (fun _ => ?_)
    · exact fs_retv T rfl rfl rfl
    · refine fs_r T 3 64 [some (.ref v0), some (.ref v1), some (.int v2), some (.int v3), some (.int v4), some (.int v5), some (.int v6), none] [.int v6, .int v5, .ref v1] rfl ?_
      refine fs_vI T 67 rfl rfl rfl rfl rfl rfl h1 (q_X4_linkBetween (d := d + n9 + 2) hE h1) ?_
      intro x1 m1
      refine fs_r T 3 72 [some (.ref v0), some (.ref v1), some (.int v2), some (.int v3), some (.int v4), some (.int v5), some (.int v6), some (.int x1)] [.int x1, .ref v0] rfl ?_
      refine fs_vI T 75 rfl rfl rfl rfl rfl rfl h0 (q_X1_isOpen (d := d + n9 + 2) hE h0) ?_
      intro x2 m2
      refine fs_if_eq T 126 78 rfl rfl rfl (fun _ => ?_) (fun _ => ?_)
      · refine fs_r T 2 50 [some (.ref v0), some (.ref v1), some (.int v2), some (.int v3), some (.int v4), some (.int v5), some (.int (v6 + 1)), some (.int x1)] [] rfl ?_
        refine fs_wk (ls' := [some (.ref v0), some (.ref v1), some (.int v2), some (.int v3), some (.int v4), some (.int v5), some (.int (v6 + 1)), none]) ⟨rfl, rfl, rfl, rfl, rfl, rfl, rfl, trivial⟩ ?_
        exact ih _ _
      · refine fs_r T 1 79 [some (.ref v0), some (.ref v1), some (.int v2), some (.int v3), some (.int v4), some (.int v5), some (.int v6), some (.int x1)] [.ref v0] rfl ?_
        refine fs_gs T 82 1 1 v0 rfl rfl rfl rfl h0 ?_
        refine fs_r T 1 84 [some (.ref v0), some (.ref v1), some (.int v2), some (.int v3), some (.int v4), some (.int v5), some (.int v6), some (.int x1)] [.int v6, .ref (H.2.1 v0 1)] rfl ?_
        refine fs_vI T 87 rfl rfl rfl rfl rfl rfl (hE.1 _ 1 1 h0) (q_X10_hasNode (d := d + n9 + 2) hE (hE.1 _ 1 1 h0)) ?_
        intro x3 m3
        refine fs_if_ne T 126 90 rfl rfl rfl (fun _ => ?_) (fun _ => ?_)
        · refine fs_r T 1 91 [some (.ref v0), some (.ref v1), some (.int v2), some (.int v3), some (.int v4), some (.int v5), some (.int v6), some (.int x1)] [.ref v0] rfl ?_
          refine fs_gs T 94 1 1 v0 rfl rfl rfl rfl h0 ?_
          refine fs_r T 2 98 [some (.ref v0), some (.ref v1), some (.int v2), some (.int v3), some (.int v4), some (.int v5), some (.int v6), some (.int x1)] [.int x1, .int v6, .ref (H.2.1 v0 1)] rfl ?_
          refine fs_vV T 101 rfl rfl rfl rfl rfl rfl (hE.1 _ 1 1 h0) (q_X10_append (d := d + n9 + 2) hE (hE.1 _ 1 1 h0)) ?_
          intro x4 m4
          refine fs_r T 6 108 [some (.ref v0), some (.ref v1), some (.int v2), some (.int v3), some (.int v4), some (.int v5), some (.int v6), some (.int x1)] [.int x1, .ref v1, .int v3, .int v2, .ref v1, .ref v0] rfl ?_
          refine fs_vI T 111 rfl rfl rfl rfl rfl rfl h1 (q_X4_delayOn (d := d + n9 + 1) hE h1) ?_
          intro x5 m5
          refine fs_r T 4 116 [some (.ref v0), some (.ref v1), some (.int v2), some (.int v3), some (.int v4), some (.int v5), some (.int v6), some (.int x1)] [.int (v4 + (1 : Int32)), .int (v3 + x5), .int v2, .ref v1, .ref v0] rfl ?_
          refine fs_sV T 119 rfl rfl rfl rfl rfl rfl rfl (Hrec _ _ _ _ _ _ h0 h1) ?_
          intro x6 m6
          refine fs_r T 1 120 [some (.ref v0), some (.ref v1), some (.int v2), some (.int v3), some (.int v4), some (.int v5), some (.int v6), some (.int x1)] [.ref v0] rfl ?_
          refine fs_gs T 123 1 1 v0 rfl rfl rfl rfl h0 ?_
          refine fs_vV T 126 rfl rfl rfl rfl rfl rfl (hE.1 _ 1 1 h0) (q_X10_dropLast (d := d + n9 + 2) hE (hE.1 _ 1 1 h0)) ?_
          intro x7 m7
          refine fs_r T 2 50 [some (.ref v0), some (.ref v1), some (.int v2), some (.int v3), some (.int v4), some (.int v5), some (.int (v6 + 1)), some (.int x1)] [] rfl ?_
          refine fs_wk (ls' := [some (.ref v0), some (.ref v1), some (.int v2), some (.int v3), some (.int v4), some (.int v5), some (.int (v6 + 1)), none]) ⟨rfl, rfl, rfl, rfl, rfl, rfl, rfl, trivial⟩ ?_
          exact ih _ _
        · refine fs_r T 2 50 [some (.ref v0), some (.ref v1), some (.int v2), some (.int v3), some (.int v4), some (.int v5), some (.int (v6 + 1)), some (.int x1)] [] rfl ?_
          refine fs_wk (ls' := [some (.ref v0), some (.ref v1), some (.int v2), some (.int v3), some (.int v4), some (.int v5), some (.int (v6 + 1)), none]) ⟨rfl, rfl, rfl, rfl, rfl, rfl, rfl, trivial⟩ ?_
          exact ih _ _
def f_X1_visit (H : fm_H) : Nat → Nat → Nat → Int32 → Int32 → Int32 → fm_M → Option (Unit × fm_M)
  | 0, _, _, _, _, _, _ => none
  | n + 1, v0, v1, v2, v3, v4, m =>
    fm_bn (f_X10_lastNode H (H.2.1 v0 1) m) fun x1 m1 =>
    if x1 = v2 then
      fm_bn (f_X1_keepIfBetter H v0 v3 m1) fun _ m2 =>
      some ((), m2)
    else
    if (6 : Int32) ≤ v4 then
      some ((), m1)
    else
    if m1.1 (H.2.1 v0 0) 0 ≤ 0 then
      f_X1_visit_50 H (f_X1_visit H n) v0 v1 v2 v3 v4 x1 fm_N (0 : Int32) m1
    else
    if v3 < m1.1 v0 4 then
      f_X1_visit_50 H (f_X1_visit H n) v0 v1 v2 v3 v4 x1 fm_N (0 : Int32) m1
    else
    some ((), m1)
set_option maxRecDepth 10000 in
theorem q_X1_visit {G : pm_G} {H : fm_H} {d : Nat} {z : fm_Z H} (hE : fm_E G H) : ∀ (n9 : Nat) (v0 : Nat) (v1 : Nat) (v2 : Int32) (v3 : Int32) (v4 : Int32) (m : fm_M), fm_is H v0 1 → fm_is H v1 4 → fm_cal G H (d + n9 + 3) yX1_visit [.ref v0, .ref v1, .int v2, .int v3, .int v4] z m fm_rV (f_X1_visit H n9 v0 v1 v2 v3 v4 m) := by
  intro n9
  induction n9 with
  | zero =>
    intro v0 v1 v2 v3 v4 m h0 h1 x m1 h
    cases h
  | succ n9 Hrec =>
    intro v0 v1 v2 v3 v4 m h0 h1
    rw [show d + (n9 + 1) + 3 = d + n9 + 3 + 1 from by omega]
    refine fm_mth (d := d + n9 + 3) mt_X1_visit rfl rfl rfl (fun K => ?_)
    show fm_o fm_rV (f_X1_visit H (n9 + 1) v0 v1 v2 v3 v4 m) K → fm_V G H (d + n9 + 3) RX1 cX1_visit none z K 0 [some (.ref v0), some (.ref v1), some (.int v2), some (.int v3), some (.int v4), none, none, none] [] m
    have T : fm_T RX1 cX1_visit tc_X1_visit fr_X1 mr_X1 cr_X1 lr_X1 := ⟨tok_X1, dc_X1_visit⟩
    unfold f_X1_visit
    refine fs_r T 1 1 [some (.ref v0), some (.ref v1), some (.int v2), some (.int v3), some (.int v4), none, none, none] [.ref v0] rfl ?_
    refine fs_gs T 4 1 1 v0 rfl rfl rfl rfl h0 ?_
    refine fs_vI T 7 rfl rfl rfl rfl rfl rfl (hE.1 _ 1 1 h0) (q_X10_lastNode (d := d + n9 + 1) hE (hE.1 _ 1 1 h0)) ?_
    intro x1 m1
    refine fs_r T 3 12 [some (.ref v0), some (.ref v1), some (.int v2), some (.int v3), some (.int v4), some (.int x1), none, none] [.int v2, .int x1] rfl ?_
    refine fs_ic_ne T 21 15 rfl rfl rfl (fun _ => ?_) (fun _ => ?_)
    · refine fs_r T 2 17 [some (.ref v0), some (.ref v1), some (.int v2), some (.int v3), some (.int v4), some (.int x1), none, none] [.int v3, .ref v0] rfl ?_
      refine fs_vV T 20 rfl rfl rfl rfl rfl rfl h0 (q_X1_keepIfBetter (d := d + n9 + 1) hE h0) ?_
      intro x2 m2
      exact fs_retv T rfl rfl rfl
    · refine fs_r T 2 25 [some (.ref v0), some (.ref v1), some (.int v2), some (.int v3), some (.int v4), some (.int x1), none, none] [.int (6 : Int32), .int v4] rfl ?_
      refine fs_ic_ge T 46 28 rfl rfl rfl (fun _ => ?_) (fun _ => ?_)
      · exact fs_retv T rfl rfl rfl
      · refine fs_r T 1 29 [some (.ref v0), some (.ref v1), some (.int v2), some (.int v3), some (.int v4), some (.int x1), none, none] [.ref v0] rfl ?_
        refine fs_gs T 32 1 0 v0 rfl rfl rfl rfl h0 ?_
        refine fs_gi T 35 10 0 (H.2.1 v0 0) rfl rfl rfl rfl (hE.1 _ 1 0 h0) ?_
        refine fs_if_le T 47 38 rfl rfl rfl (fun _ => ?_) (fun _ => ?_)
        · refine fs_r T 2 50 [some (.ref v0), some (.ref v1), some (.int v2), some (.int v3), some (.int v4), some (.int x1), some (.int (0 : Int32)), none] [] rfl ?_
          exact w_X1_visit_50 hE Hrec h0 h1 _ _ _
        · refine fs_r T 2 40 [some (.ref v0), some (.ref v1), some (.int v2), some (.int v3), some (.int v4), some (.int x1), none, none] [.ref v0, .int v3] rfl ?_
          refine fs_gi T 43 1 4 v0 rfl rfl rfl rfl h0 ?_
          refine fs_ic_lt T 47 46 rfl rfl rfl (fun _ => ?_) (fun _ => ?_)
          · refine fs_r T 2 50 [some (.ref v0), some (.ref v1), some (.int v2), some (.int v3), some (.int v4), some (.int x1), some (.int (0 : Int32)), none] [] rfl ?_
            exact w_X1_visit_50 hE Hrec h0 h1 _ _ _
          · exact fs_retv T rfl rfl rfl
def f_X1_search (H : fm_H) (v0 : Nat) (v1 : Nat) (v2 : Int32) (v3 : Int32) (v4 : Int32) (m : fm_M) : Option (Int32 × fm_M) :=
  fm_bd (fm_si m v0 5 v4) fun m1 =>
  fm_bd (fm_si m1 v0 4 (0 : Int32)) fun m2 =>
  fm_bn (f_X10_erase H (H.2.1 v0 0) m2) fun _ m3 =>
  fm_bn (f_X10_erase H (H.2.1 v0 1) m3) fun _ m4 =>
  fm_bn (f_X10_append H (H.2.1 v0 1) v2 (-1 : Int32) m4) fun _ m5 =>
  fm_bn (f_X1_visit H 8 v0 v1 v3 (0 : Int32) (1 : Int32) m5) fun _ m6 =>
  if m6.1 (H.2.1 v0 0) 0 ≤ 0 then
    some ((0 : Int32), m6)
  else
  some ((1 : Int32), m6)
set_option maxRecDepth 10000 in
theorem q_X1_search {G : pm_G} {H : fm_H} {d : Nat} {z : fm_Z H} {v0 : Nat} {v1 : Nat} {v2 : Int32} {v3 : Int32} {v4 : Int32} {m : fm_M} (hE : fm_E G H) (h0 : fm_is H v0 1) (h1 : fm_is H v1 4) : fm_cal G H (d + 12) yX1_search [.ref v0, .ref v1, .int v2, .int v3, .int v4] z m fm_rI (f_X1_search H v0 v1 v2 v3 v4 m) := fm_mth (d := d + 11) mt_X1_search rfl rfl rfl (fun K => by
  show fm_o fm_rI (f_X1_search H v0 v1 v2 v3 v4 m) K → fm_V G H (d + 11) RX1 cX1_search (some (.boolean)) z K 0 [some (.ref v0), some (.ref v1), some (.int v2), some (.int v3), some (.int v4)] [] m
  have T : fm_T RX1 cX1_search tc_X1_search fr_X1 mr_X1 cr_X1 lr_X1 := ⟨tok_X1, dc_X1_search⟩
  unfold f_X1_search
  refine fs_r T 2 3 [some (.ref v0), some (.ref v1), some (.int v2), some (.int v3), some (.int v4)] [.int v4, .ref v0] rfl ?_
  refine fs_pi T 6 1 5 v0 rfl rfl rfl rfl h0 ?_
  intro m1
  refine fs_r T 2 8 [some (.ref v0), some (.ref v1), some (.int v2), some (.int v3), some (.int v4)] [.int (0 : Int32), .ref v0] rfl ?_
  refine fs_pi T 11 1 4 v0 rfl rfl rfl rfl h0 ?_
  intro m2
  refine fs_r T 1 12 [some (.ref v0), some (.ref v1), some (.int v2), some (.int v3), some (.int v4)] [.ref v0] rfl ?_
  refine fs_gs T 15 1 0 v0 rfl rfl rfl rfl h0 ?_
  refine fs_vV T 18 rfl rfl rfl rfl rfl rfl (hE.1 _ 1 0 h0) (q_X10_erase (d := d + 10) hE (hE.1 _ 1 0 h0)) ?_
  intro x1 m3
  refine fs_r T 1 19 [some (.ref v0), some (.ref v1), some (.int v2), some (.int v3), some (.int v4)] [.ref v0] rfl ?_
  refine fs_gs T 22 1 1 v0 rfl rfl rfl rfl h0 ?_
  refine fs_vV T 25 rfl rfl rfl rfl rfl rfl (hE.1 _ 1 1 h0) (q_X10_erase (d := d + 10) hE (hE.1 _ 1 1 h0)) ?_
  intro x2 m4
  refine fs_r T 1 26 [some (.ref v0), some (.ref v1), some (.int v2), some (.int v3), some (.int v4)] [.ref v0] rfl ?_
  refine fs_gs T 29 1 1 v0 rfl rfl rfl rfl h0 ?_
  refine fs_r T 2 31 [some (.ref v0), some (.ref v1), some (.int v2), some (.int v3), some (.int v4)] [.int (-1 : Int32), .int v2, .ref (H.2.1 v0 1)] rfl ?_
  refine fs_vV T 34 rfl rfl rfl rfl rfl rfl (hE.1 _ 1 1 h0) (q_X10_append (d := d + 10) hE (hE.1 _ 1 1 h0)) ?_
  intro x3 m5
  refine fs_r T 5 39 [some (.ref v0), some (.ref v1), some (.int v2), some (.int v3), some (.int v4)] [.int (1 : Int32), .int (0 : Int32), .int v3, .ref v1, .ref v0] rfl ?_
  refine fs_sV T 42 rfl rfl rfl rfl rfl rfl rfl (q_X1_visit (d := d + 0) hE 8 _ _ _ _ _ _ h0 h1) ?_
  intro x4 m6
  refine fs_r T 1 43 [some (.ref v0), some (.ref v1), some (.int v2), some (.int v3), some (.int v4)] [.ref v0] rfl ?_
  refine fs_gs T 46 1 0 v0 rfl rfl rfl rfl h0 ?_
  refine fs_gi T 49 10 0 (H.2.1 v0 0) rfl rfl rfl rfl (hE.1 _ 1 0 h0) ?_
  refine fs_if_le T 56 52 rfl rfl rfl (fun _ => ?_) (fun _ => ?_)
  · refine fs_r T 1 57 [some (.ref v0), some (.ref v1), some (.int v2), some (.int v3), some (.int v4)] [.int (0 : Int32)] rfl ?_
    exact fs_retc T rfl rfl rfl rfl
  · refine fs_r T 2 57 [some (.ref v0), some (.ref v1), some (.int v2), some (.int v3), some (.int v4)] [.int (1 : Int32)] rfl ?_
    exact fs_retc T rfl rfl rfl rfl)
def f_X11_fillNumbers_2 (H : fm_H) (v0 : Nat) (v1 : Int32) : Nat → Int32 → fm_M → Option (Unit × fm_M)
  | 0, _, _ => none
  | n + 1, v2, m =>
    if Int32.ofNat (fm_sz H v0) ≤ v2 then
      some ((), m)
    else
    if px_inb v2 (fm_sz H v0) = true then
      (fm_bd (fm_si m v0 v2.toNatClampNeg v1) fun m1 =>
      f_X11_fillNumbers_2 H v0 v1 n (v2 + 1) m1)
    else none
set_option maxRecDepth 10000 in
theorem w_X11_fillNumbers_2 {G : pm_G} {H : fm_H} {d : Nat} {z : fm_Z H} {K : pm_R → fm_M → Prop} (hE : fm_E G H) {v0 : Nat} {v1 : Int32} (h0 : fm_ia H v0 .int true) : ∀ (n : Nat) (v2 : Int32) (m : fm_M), fm_o fm_rV (f_X11_fillNumbers_2 H v0 v1 n v2 m) K → fm_V G H (d + 0) RX11 cX11_fillNumbers none z K 2 [some (.ref v0), some (.int v1), some (.int v2)] [] m := by
  have T : fm_T RX11 cX11_fillNumbers tc_X11_fillNumbers fr_X11 mr_X11 cr_X11 lr_X11 := ⟨tok_X11, dc_X11_fillNumbers⟩
  intro n
  induction n with
  | zero =>
    intro v2 m 
    exact fs_none
  | succ n ih =>
    intro v2 m 
    unfold f_X11_fillNumbers_2
    refine fs_r T 2 4 [some (.ref v0), some (.int v1), some (.int v2)] [.ref v0, .int v2] rfl ?_
    refine fs_al T 5 v0 rfl rfl h0 ?_
    refine fs_ic_ge T 18 8 rfl rfl rfl (fun _ => ?_) (fun _ => ?_)
    · exact fs_retv T rfl rfl rfl
    · refine fs_r T 3 11 [some (.ref v0), some (.int v1), some (.int v2)] [.int v1, .int v2, .ref v0] rfl ?_
      refine fs_si T 12 v0 rfl rfl h0 ?_
      intro m1
      refine fs_r T 2 2 [some (.ref v0), some (.int v1), some (.int (v2 + 1))] [] rfl ?_
      exact ih _ _
def f_X11_fillNumbers (H : fm_H) (v0 : Nat) (v1 : Int32) (m : fm_M) : Option (Unit × fm_M) :=
  f_X11_fillNumbers_2 H v0 v1 fm_N (0 : Int32) m
set_option maxRecDepth 10000 in
theorem q_X11_fillNumbers {G : pm_G} {H : fm_H} {d : Nat} {z : fm_Z H} {v0 : Nat} {v1 : Int32} {m : fm_M} (hE : fm_E G H) (h0 : fm_ia H v0 .int true) : fm_cal G H (d + 1) yX11_fillNumbers [.ref v0, .int v1] z m fm_rV (f_X11_fillNumbers H v0 v1 m) := fm_mth (d := d + 0) mt_X11_fillNumbers rfl rfl rfl (fun K => by
  show fm_o fm_rV (f_X11_fillNumbers H v0 v1 m) K → fm_V G H (d + 0) RX11 cX11_fillNumbers none z K 0 [some (.ref v0), some (.int v1), none] [] m
  have T : fm_T RX11 cX11_fillNumbers tc_X11_fillNumbers fr_X11 mr_X11 cr_X11 lr_X11 := ⟨tok_X11, dc_X11_fillNumbers⟩
  unfold f_X11_fillNumbers
  refine fs_r T 2 2 [some (.ref v0), some (.int v1), some (.int (0 : Int32))] [] rfl ?_
  exact w_X11_fillNumbers_2 hE h0 _ _ _)
def f_X10_linkAt (H : fm_H) (v0 : Nat) (v1 : Int32) (m : fm_M) : Option (Int32 × fm_M) :=
  if v1 < 0 then
    some ((-1 : Int32), m)
  else
  if m.1 v0 0 ≤ v1 then
    some ((-1 : Int32), m)
  else
  if px_inb v1 (fm_sz H (H.2.1 v0 2)) = true then
    some (m.1 (H.2.1 v0 2) v1.toNatClampNeg, m)
  else none
set_option maxRecDepth 10000 in
theorem q_X10_linkAt {G : pm_G} {H : fm_H} {d : Nat} {z : fm_Z H} {v0 : Nat} {v1 : Int32} {m : fm_M} (hE : fm_E G H) (h0 : fm_is H v0 10) : fm_cal G H (d + 1) yX10_linkAt [.ref v0, .int v1] z m fm_rI (f_X10_linkAt H v0 v1 m) := fm_mth (d := d + 0) mt_X10_linkAt rfl rfl rfl (fun K => by
  show fm_o fm_rI (f_X10_linkAt H v0 v1 m) K → fm_V G H (d + 0) RX10 cX10_linkAt (some (.int)) z K 0 [some (.ref v0), some (.int v1)] [] m
  have T : fm_T RX10 cX10_linkAt tc_X10_linkAt fr_X10 mr_X10 cr_X10 lr_X10 := ⟨tok_X10, dc_X10_linkAt⟩
  unfold f_X10_linkAt
  refine fs_r T 1 1 [some (.ref v0), some (.int v1)] [.int v1] rfl ?_
  refine fs_if_lt T 21 4 rfl rfl rfl (fun _ => ?_) (fun _ => ?_)
  · refine fs_r T 1 22 [some (.ref v0), some (.int v1)] [.int (-1 : Int32)] rfl ?_
    exact fs_reti T rfl rfl rfl
  · refine fs_r T 2 6 [some (.ref v0), some (.int v1)] [.ref v0, .int v1] rfl ?_
    refine fs_gi T 9 10 0 v0 rfl rfl rfl rfl h0 ?_
    refine fs_ic_ge T 21 12 rfl rfl rfl (fun _ => ?_) (fun _ => ?_)
    · refine fs_r T 1 22 [some (.ref v0), some (.int v1)] [.int (-1 : Int32)] rfl ?_
      exact fs_reti T rfl rfl rfl
    · refine fs_r T 1 13 [some (.ref v0), some (.int v1)] [.ref v0] rfl ?_
      refine fs_gs T 16 10 2 v0 rfl rfl rfl rfl h0 ?_
      refine fs_r T 1 17 [some (.ref v0), some (.int v1)] [.int v1, .ref (H.2.1 v0 2)] rfl ?_
      refine fs_ai T 18 (H.2.1 v0 2) rfl rfl (hE.1 _ 10 2 h0) ?_
      refine fs_r T 1 22 [some (.ref v0), some (.int v1)] [.int (m.1 (H.2.1 v0 2) v1.toNatClampNeg)] rfl ?_
      exact fs_reti T rfl rfl rfl)
def f_X1_countCuts_26 (H : fm_H) (v0 : Nat) (v1 : Nat) (v4 : Nat) : Nat → Int32 → fm_M → Option (Unit × fm_M)
  | 0, _, _ => none
  | n + 1, v5, m =>
    if m.1 v4 0 ≤ v5 then
      some ((), m)
    else
    fm_bn (f_X10_linkAt H v4 v5 m) fun x1 m1 =>
    if x1 < 0 then
      f_X1_countCuts_26 H v0 v1 v4 n (v5 + 1) m1
    else
    if (16 : Int32) ≤ x1 then
      f_X1_countCuts_26 H v0 v1 v4 n (v5 + 1) m1
    else
    fm_bn (f_X10_nodeAt H v4 (0 : Int32) m1) fun x2 m2 =>
    fm_bn (f_X10_lastNode H v4 m2) fun x3 m3 =>
    fm_bn (f_X1_search H v0 (H.2.1 v1 0) x2 x3 x1 m3) fun x4 m4 =>
    if x4 = 0 then
      if px_inb x1 (fm_sz H (H.2.1 v0 3)) = true then
        if px_inb x1 (fm_sz H (H.2.1 v0 3)) = true then
          (fm_bd (fm_si m4 (H.2.1 v0 3) x1.toNatClampNeg (m4.1 (H.2.1 v0 3) x1.toNatClampNeg + (1 : Int32))) fun m5 =>
          f_X1_countCuts_26 H v0 v1 v4 n (v5 + 1) m5)
        else none
      else none
    else
    f_X1_countCuts_26 H v0 v1 v4 n (v5 + 1) m4
set_option maxRecDepth 10000 in
theorem w_X1_countCuts_26 {G : pm_G} {H : fm_H} {d : Nat} {z : fm_Z H} {K : pm_R → fm_M → Prop} (hE : fm_E G H) {v0 : Nat} {v1 : Nat} {v4 : Nat} (h0 : fm_is H v0 1) (h1 : fm_is H v1 7) (h4 : fm_is H v4 10) : ∀ (n : Nat) (v5 : Int32) (m : fm_M), fm_o fm_rV (f_X1_countCuts_26 H v0 v1 v4 n v5 m) K → fm_V G H (d + 12) RX1 cX1_countCuts none z K 26 [some (.ref v0), some (.ref v1), none, none, some (.ref v4), some (.int v5), none] [] m := by
  have T : fm_T RX1 cX1_countCuts tc_X1_countCuts fr_X1 mr_X1 cr_X1 lr_X1 := ⟨tok_X1, dc_X1_countCuts⟩
  intro n
  induction n with
  | zero =>
    intro v5 m 
    exact fs_none
  | succ n ih =>
    intro v5 m 
    unfold f_X1_countCuts_26
    refine fs_r T 2 30 [some (.ref v0), some (.ref v1), none, none, some (.ref v4), some (.int v5), none] [.ref v4, .int v5] rfl ?_
    refine fs_gi T 33 10 0 v4 rfl rfl rfl rfl h4 ?_
    refine fs_ic_ge T 98 36 rfl rfl rfl (fun _ => ?_) (fun _ => ?_)
    · exact fs_retv T rfl rfl rfl
    · refine fs_r T 2 40 [some (.ref v0), some (.ref v1), none, none, some (.ref v4), some (.int v5), none] [.int v5, .ref v4] rfl ?_
      refine fs_vI T 43 rfl rfl rfl rfl rfl rfl h4 (q_X10_linkAt (d := d + 11) hE h4) ?_
      intro x1 m1
      refine fs_r T 2 47 [some (.ref v0), some (.ref v1), none, none, some (.ref v4), some (.int v5), some (.int x1)] [.int x1] rfl ?_
      refine fs_if_lt T 92 50 rfl rfl rfl (fun _ => ?_) (fun _ => ?_)
      · refine fs_r T 2 26 [some (.ref v0), some (.ref v1), none, none, some (.ref v4), some (.int (v5 + 1)), some (.int x1)] [] rfl ?_
        refine fs_wk (ls' := [some (.ref v0), some (.ref v1), none, none, some (.ref v4), some (.int (v5 + 1)), none]) ⟨rfl, rfl, rfl, rfl, trivial⟩ ?_
        exact ih _ _
      · refine fs_r T 2 54 [some (.ref v0), some (.ref v1), none, none, some (.ref v4), some (.int v5), some (.int x1)] [.int (16 : Int32), .int x1] rfl ?_
        refine fs_ic_ge T 92 57 rfl rfl rfl (fun _ => ?_) (fun _ => ?_)
        · refine fs_r T 2 26 [some (.ref v0), some (.ref v1), none, none, some (.ref v4), some (.int (v5 + 1)), some (.int x1)] [] rfl ?_
          refine fs_wk (ls' := [some (.ref v0), some (.ref v1), none, none, some (.ref v4), some (.int (v5 + 1)), none]) ⟨rfl, rfl, rfl, rfl, trivial⟩ ?_
          exact ih _ _
        · refine fs_r T 2 59 [some (.ref v0), some (.ref v1), none, none, some (.ref v4), some (.int v5), some (.int x1)] [.ref v1, .ref v0] rfl ?_
          refine fs_gs T 62 7 0 v1 rfl rfl rfl rfl h1 ?_
          refine fs_r T 2 65 [some (.ref v0), some (.ref v1), none, none, some (.ref v4), some (.int v5), some (.int x1)] [.int (0 : Int32), .ref v4, .ref (H.2.1 v1 0), .ref v0] rfl ?_
          refine fs_vI T 68 rfl rfl rfl rfl rfl rfl h4 (q_X10_nodeAt (d := d + 11) hE h4) ?_
          intro x2 m2
          refine fs_r T 1 70 [some (.ref v0), some (.ref v1), none, none, some (.ref v4), some (.int v5), some (.int x1)] [.ref v4, .int x2, .ref (H.2.1 v1 0), .ref v0] rfl ?_
          refine fs_vI T 73 rfl rfl rfl rfl rfl rfl h4 (q_X10_lastNode (d := d + 10) hE h4) ?_
          intro x3 m3
          refine fs_r T 1 75 [some (.ref v0), some (.ref v1), none, none, some (.ref v4), some (.int v5), some (.int x1)] [.int x1, .int x3, .int x2, .ref (H.2.1 v1 0), .ref v0] rfl ?_
          refine fs_vI T 78 rfl rfl rfl rfl rfl rfl h0 (q_X1_search (d := d) hE h0 (hE.1 _ 7 0 h1)) ?_
          intro x4 m4
          refine fs_if_ne T 92 81 rfl rfl rfl (fun _ => ?_) (fun _ => ?_)
          · refine fs_r T 1 82 [some (.ref v0), some (.ref v1), none, none, some (.ref v4), some (.int v5), some (.int x1)] [.ref v0] rfl ?_
            refine fs_gs T 85 1 3 v0 rfl rfl rfl rfl h0 ?_
            refine fs_r T 2 88 [some (.ref v0), some (.ref v1), none, none, some (.ref v4), some (.int v5), some (.int x1)] [.int x1, .ref (H.2.1 v0 3), .int x1, .ref (H.2.1 v0 3)] rfl ?_
            refine fs_ai T 89 (H.2.1 v0 3) rfl rfl (hE.1 _ 1 3 h0) ?_
            refine fs_r T 2 91 [some (.ref v0), some (.ref v1), none, none, some (.ref v4), some (.int v5), some (.int x1)] [.int (m4.1 (H.2.1 v0 3) x1.toNatClampNeg + (1 : Int32)), .int x1, .ref (H.2.1 v0 3)] rfl ?_
            refine fs_si T 92 (H.2.1 v0 3) rfl rfl (hE.1 _ 1 3 h0) ?_
            intro m5
            refine fs_r T 2 26 [some (.ref v0), some (.ref v1), none, none, some (.ref v4), some (.int (v5 + 1)), some (.int x1)] [] rfl ?_
            refine fs_wk (ls' := [some (.ref v0), some (.ref v1), none, none, some (.ref v4), some (.int (v5 + 1)), none]) ⟨rfl, rfl, rfl, rfl, trivial⟩ ?_
            exact ih _ _
          · refine fs_r T 2 26 [some (.ref v0), some (.ref v1), none, none, some (.ref v4), some (.int (v5 + 1)), some (.int x1)] [] rfl ?_
            refine fs_wk (ls' := [some (.ref v0), some (.ref v1), none, none, some (.ref v4), some (.int (v5 + 1)), none]) ⟨rfl, rfl, rfl, rfl, trivial⟩ ?_
            exact ih _ _
def f_X1_countCuts (H : fm_H) (v0 : Nat) (v1 : Nat) (v2 : Int32) (m : fm_M) : Option (Unit × fm_M) :=
  if px_inb v2 (fm_sz H (H.2.1 v1 3)) = true then
    (if fm_isb H (m.2.1 (H.2.1 v1 3) v2.toNatClampNeg) 0 = true then
      fm_bn (f_X0_activeWay H (m.2.1 (H.2.1 v1 3) v2.toNatClampNeg) m) fun x1 m1 => if fm_isb H x1 10 = true then
        fm_bn (f_X1_prepare H v0 v1 (m1.1 (m.2.1 (H.2.1 v1 3) v2.toNatClampNeg) 0) v2 m1) fun _ m2 =>
        f_X1_countCuts_26 H v0 v1 x1 fm_N (1 : Int32) m2
      else none
    else none)
  else none
set_option maxRecDepth 10000 in
theorem q_X1_countCuts {G : pm_G} {H : fm_H} {d : Nat} {z : fm_Z H} {v0 : Nat} {v1 : Nat} {v2 : Int32} {m : fm_M} (hE : fm_E G H) (h0 : fm_is H v0 1) (h1 : fm_is H v1 7) : fm_cal G H (d + 13) yX1_countCuts [.ref v0, .ref v1, .int v2] z m fm_rV (f_X1_countCuts H v0 v1 v2 m) := fm_mth (d := d + 12) mt_X1_countCuts rfl rfl rfl (fun K => by
  show fm_o fm_rV (f_X1_countCuts H v0 v1 v2 m) K → fm_V G H (d + 12) RX1 cX1_countCuts none z K 0 [some (.ref v0), some (.ref v1), some (.int v2), none, none, none, none] [] m
  have T : fm_T RX1 cX1_countCuts tc_X1_countCuts fr_X1 mr_X1 cr_X1 lr_X1 := ⟨tok_X1, dc_X1_countCuts⟩
  unfold f_X1_countCuts
  refine fs_r T 1 1 [some (.ref v0), some (.ref v1), some (.int v2), none, none, none, none] [.ref v1] rfl ?_
  refine fs_gs T 4 7 3 v1 rfl rfl rfl rfl h1 ?_
  refine fs_r T 1 5 [some (.ref v0), some (.ref v1), some (.int v2), none, none, none, none] [.int v2, .ref (H.2.1 v1 3)] rfl ?_
  refine fs_aa T 6 (H.2.1 v1 3) 0 rfl rfl (hE.1 _ 7 3 h1) ?_
  intro e1
  refine fs_r T 2 8 [some (.ref v0), some (.ref v1), some (.int v2), some (.ref (m.2.1 (H.2.1 v1 3) v2.toNatClampNeg)), none, none, none] [.ref (m.2.1 (H.2.1 v1 3) v2.toNatClampNeg)] rfl ?_
  refine fs_vA T 11 rfl rfl rfl rfl rfl rfl e1 (q_X0_activeWay (d := d + 11) hE e1) 10 ?_
  intro x1 m1 e2
  refine fs_r T 4 16 [some (.ref v0), some (.ref v1), some (.int v2), some (.ref (m.2.1 (H.2.1 v1 3) v2.toNatClampNeg)), some (.ref x1), none, none] [.ref (m.2.1 (H.2.1 v1 3) v2.toNatClampNeg), .ref v1, .ref v0] rfl ?_
  refine fs_gi T 19 0 0 (m.2.1 (H.2.1 v1 3) v2.toNatClampNeg) rfl rfl rfl rfl e1 ?_
  refine fs_r T 1 20 [some (.ref v0), some (.ref v1), some (.int v2), some (.ref (m.2.1 (H.2.1 v1 3) v2.toNatClampNeg)), some (.ref x1), none, none] [.int v2, .int (m1.1 (m.2.1 (H.2.1 v1 3) v2.toNatClampNeg) 0), .ref v1, .ref v0] rfl ?_
  refine fs_vV T 23 rfl rfl rfl rfl rfl rfl h0 (q_X1_prepare (d := d + 8) hE h0 h1) ?_
  intro x2 m2
  refine fs_r T 2 26 [some (.ref v0), some (.ref v1), some (.int v2), some (.ref (m.2.1 (H.2.1 v1 3) v2.toNatClampNeg)), some (.ref x1), some (.int (1 : Int32)), none] [] rfl ?_
  refine fs_wk (ls' := [some (.ref v0), some (.ref v1), none, none, some (.ref x1), some (.int (1 : Int32)), none]) ⟨rfl, rfl, rfl, rfl, trivial⟩ ?_
  exact w_X1_countCuts_26 hE h0 h1 e2 _ _ _)
def f_X1_weakestLink_37 (H : fm_H) (v0 : Nat) : Nat → Int32 → Int32 → Int32 → fm_M → Option (Int32 × fm_M)
  | 0, _, _, _, _ => none
  | n + 1, v2, v3, v4, m =>
    if (16 : Int32) ≤ v4 then
      some (v2, m)
    else
    if px_inb v4 (fm_sz H (H.2.1 v0 3)) = true then
      if m.1 (H.2.1 v0 3) v4.toNatClampNeg ≤ v3 then
        f_X1_weakestLink_37 H v0 n v2 v3 (v4 + 1) m
      else
      if px_inb v4 (fm_sz H (H.2.1 v0 3)) = true then
        f_X1_weakestLink_37 H v0 n v4 (m.1 (H.2.1 v0 3) v4.toNatClampNeg) (v4 + 1) m
      else none
    else none
set_option maxRecDepth 10000 in
theorem w_X1_weakestLink_37 {G : pm_G} {H : fm_H} {d : Nat} {z : fm_Z H} {K : pm_R → fm_M → Prop} (hE : fm_E G H) {v0 : Nat} (h0 : fm_is H v0 1) : ∀ (n : Nat) (v2 : Int32) (v3 : Int32) (v4 : Int32) (m : fm_M), fm_o fm_rI (f_X1_weakestLink_37 H v0 n v2 v3 v4 m) K → fm_V G H (d + 13) RX1 cX1_weakestLink (some (.int)) z K 37 [some (.ref v0), none, some (.int v2), some (.int v3), some (.int v4)] [] m := by
  have T : fm_T RX1 cX1_weakestLink tc_X1_weakestLink fr_X1 mr_X1 cr_X1 lr_X1 := ⟨tok_X1, dc_X1_weakestLink⟩
  intro n
  induction n with
  | zero =>
    intro v2 v3 v4 m 
    exact fs_none
  | succ n ih =>
    intro v2 v3 v4 m 
    unfold f_X1_weakestLink_37
    refine fs_r T 2 41 [some (.ref v0), none, some (.int v2), some (.int v3), some (.int v4)] [.int (16 : Int32), .int v4] rfl ?_
    refine fs_ic_ge T 72 44 rfl rfl rfl (fun _ => ?_) (fun _ => ?_)
    · refine fs_r T 1 73 [some (.ref v0), none, some (.int v2), some (.int v3), some (.int v4)] [.int v2] rfl ?_
      exact fs_reti T rfl rfl rfl
    · refine fs_r T 1 45 [some (.ref v0), none, some (.int v2), some (.int v3), some (.int v4)] [.ref v0] rfl ?_
      refine fs_gs T 48 1 3 v0 rfl rfl rfl rfl h0 ?_
      refine fs_r T 1 50 [some (.ref v0), none, some (.int v2), some (.int v3), some (.int v4)] [.int v4, .ref (H.2.1 v0 3)] rfl ?_
      refine fs_ai T 51 (H.2.1 v0 3) rfl rfl (hE.1 _ 1 3 h0) ?_
      refine fs_r T 1 52 [some (.ref v0), none, some (.int v2), some (.int v3), some (.int v4)] [.int v3, .int (m.1 (H.2.1 v0 3) v4.toNatClampNeg)] rfl ?_
      refine fs_ic_le T 66 55 rfl rfl rfl (fun _ => ?_) (fun _ => ?_)
      · refine fs_r T 2 37 [some (.ref v0), none, some (.int v2), some (.int v3), some (.int (v4 + 1))] [] rfl ?_
        exact ih _ _ _ _
      · refine fs_r T 3 59 [some (.ref v0), none, some (.int v4), some (.int v3), some (.int v4)] [.ref v0] rfl ?_
        refine fs_gs T 62 1 3 v0 rfl rfl rfl rfl h0 ?_
        refine fs_r T 1 64 [some (.ref v0), none, some (.int v4), some (.int v3), some (.int v4)] [.int v4, .ref (H.2.1 v0 3)] rfl ?_
        refine fs_ai T 65 (H.2.1 v0 3) rfl rfl (hE.1 _ 1 3 h0) ?_
        refine fs_r T 3 37 [some (.ref v0), none, some (.int v4), some (.int (m.1 (H.2.1 v0 3) v4.toNatClampNeg)), some (.int (v4 + 1))] [] rfl ?_
        exact ih _ _ _ _
def f_X1_weakestLink_10 (H : fm_H) (v0 : Nat) (v1 : Nat) : Nat → Int32 → fm_M → Option (Int32 × fm_M)
  | 0, _, _ => none
  | n + 1, v2, m =>
    if m.1 v1 5 ≤ v2 then
      f_X1_weakestLink_37 H v0 fm_N (-1 : Int32) (0 : Int32) (0 : Int32) m
    else
    fm_bn (f_X1_countCuts H v0 v1 v2 m) fun _ m1 =>
    f_X1_weakestLink_10 H v0 v1 n (v2 + 1) m1
set_option maxRecDepth 10000 in
theorem w_X1_weakestLink_10 {G : pm_G} {H : fm_H} {d : Nat} {z : fm_Z H} {K : pm_R → fm_M → Prop} (hE : fm_E G H) {v0 : Nat} {v1 : Nat} (h0 : fm_is H v0 1) (h1 : fm_is H v1 7) : ∀ (n : Nat) (v2 : Int32) (m : fm_M), fm_o fm_rI (f_X1_weakestLink_10 H v0 v1 n v2 m) K → fm_V G H (d + 13) RX1 cX1_weakestLink (some (.int)) z K 10 [some (.ref v0), some (.ref v1), some (.int v2), none, none] [] m := by
  have T : fm_T RX1 cX1_weakestLink tc_X1_weakestLink fr_X1 mr_X1 cr_X1 lr_X1 := ⟨tok_X1, dc_X1_weakestLink⟩
  intro n
  induction n with
  | zero =>
    intro v2 m 
    exact fs_none
  | succ n ih =>
    intro v2 m 
    unfold f_X1_weakestLink_10
    refine fs_r T 2 12 [some (.ref v0), some (.ref v1), some (.int v2), none, none] [.ref v1, .int v2] rfl ?_
    refine fs_gi T 15 7 5 v1 rfl rfl rfl rfl h1 ?_
    refine fs_ic_ge T 30 18 rfl rfl rfl (fun _ => ?_) (fun _ => ?_)
    · refine fs_r T 6 37 [some (.ref v0), some (.ref v1), some (.int (-1 : Int32)), some (.int (0 : Int32)), some (.int (0 : Int32))] [] rfl ?_
      refine fs_wk (ls' := [some (.ref v0), none, some (.int (-1 : Int32)), some (.int (0 : Int32)), some (.int (0 : Int32))]) ⟨rfl, rfl, rfl, rfl, trivial⟩ ?_
      exact w_X1_weakestLink_37 hE h0 _ _ _ _ _
    · refine fs_r T 3 21 [some (.ref v0), some (.ref v1), some (.int v2), none, none] [.int v2, .ref v1, .ref v0] rfl ?_
      refine fs_vV T 24 rfl rfl rfl rfl rfl rfl h0 (q_X1_countCuts (d := d) hE h0 h1) ?_
      intro x1 m1
      refine fs_r T 2 10 [some (.ref v0), some (.ref v1), some (.int (v2 + 1)), none, none] [] rfl ?_
      exact ih _ _
def f_X1_weakestLink (H : fm_H) (v0 : Nat) (v1 : Nat) (m : fm_M) : Option (Int32 × fm_M) :=
  fm_bn (f_X11_fillNumbers H (H.2.1 v0 3) (0 : Int32) m) fun _ m1 =>
  f_X1_weakestLink_10 H v0 v1 fm_N (0 : Int32) m1
set_option maxRecDepth 10000 in
theorem q_X1_weakestLink {G : pm_G} {H : fm_H} {d : Nat} {z : fm_Z H} {v0 : Nat} {v1 : Nat} {m : fm_M} (hE : fm_E G H) (h0 : fm_is H v0 1) (h1 : fm_is H v1 7) : fm_cal G H (d + 14) yX1_weakestLink [.ref v0, .ref v1] z m fm_rI (f_X1_weakestLink H v0 v1 m) := fm_mth (d := d + 13) mt_X1_weakestLink rfl rfl rfl (fun K => by
  show fm_o fm_rI (f_X1_weakestLink H v0 v1 m) K → fm_V G H (d + 13) RX1 cX1_weakestLink (some (.int)) z K 0 [some (.ref v0), some (.ref v1), none, none, none] [] m
  have T : fm_T RX1 cX1_weakestLink tc_X1_weakestLink fr_X1 mr_X1 cr_X1 lr_X1 := ⟨tok_X1, dc_X1_weakestLink⟩
  unfold f_X1_weakestLink
  refine fs_r T 1 1 [some (.ref v0), some (.ref v1), none, none, none] [.ref v0] rfl ?_
  refine fs_gs T 4 1 3 v0 rfl rfl rfl rfl h0 ?_
  refine fs_r T 1 5 [some (.ref v0), some (.ref v1), none, none, none] [.int (0 : Int32), .ref (H.2.1 v0 3)] rfl ?_
  refine fs_sV T 8 rfl rfl rfl rfl rfl rfl rfl (q_X11_fillNumbers (d := d + 12) hE (hE.1 _ 1 3 h0)) ?_
  intro x1 m1
  refine fs_r T 2 10 [some (.ref v0), some (.ref v1), some (.int (0 : Int32)), none, none] [] rfl ?_
  exact w_X1_weakestLink_10 hE h0 h1 _ _ _)
def f_X2_copyFrom (H : fm_H) (v0 : Nat) (v1 : Nat) (m : fm_M) : Option (Unit × fm_M) :=
  fm_bn (f_X11_copyNumbers H (H.2.1 v1 0) (H.2.1 v0 0) m) fun _ m1 =>
  fm_bn (f_X11_copyNumbers H (H.2.1 v1 1) (H.2.1 v0 1) m1) fun _ m2 =>
  fm_bn (f_X11_copyNumbers H (H.2.1 v1 2) (H.2.1 v0 2) m2) fun _ m3 =>
  fm_bn (f_X11_copyNumbers H (H.2.1 v1 3) (H.2.1 v0 3) m3) fun _ m4 =>
  some ((), m4)
set_option maxRecDepth 10000 in
theorem q_X2_copyFrom {G : pm_G} {H : fm_H} {d : Nat} {z : fm_Z H} {v0 : Nat} {v1 : Nat} {m : fm_M} (hE : fm_E G H) (h0 : fm_is H v0 2) (h1 : fm_is H v1 2) : fm_cal G H (d + 2) yX2_copyFrom [.ref v0, .ref v1] z m fm_rV (f_X2_copyFrom H v0 v1 m) := fm_mth (d := d + 1) mt_X2_copyFrom rfl rfl rfl (fun K => by
  show fm_o fm_rV (f_X2_copyFrom H v0 v1 m) K → fm_V G H (d + 1) RX2 cX2_copyFrom none z K 0 [some (.ref v0), some (.ref v1)] [] m
  have T : fm_T RX2 cX2_copyFrom tc_X2_copyFrom fr_X2 mr_X2 cr_X2 lr_X2 := ⟨tok_X2, dc_X2_copyFrom⟩
  unfold f_X2_copyFrom
  refine fs_r T 1 1 [some (.ref v0), some (.ref v1)] [.ref v1] rfl ?_
  refine fs_gs T 4 2 0 v1 rfl rfl rfl rfl h1 ?_
  refine fs_r T 1 5 [some (.ref v0), some (.ref v1)] [.ref v0, .ref (H.2.1 v1 0)] rfl ?_
  refine fs_gs T 8 2 0 v0 rfl rfl rfl rfl h0 ?_
  refine fs_sV T 11 rfl rfl rfl rfl rfl rfl rfl (q_X11_copyNumbers (d := d) hE (hE.1 _ 2 0 h1) (hE.1 _ 2 0 h0)) ?_
  intro x1 m1
  refine fs_r T 1 12 [some (.ref v0), some (.ref v1)] [.ref v1] rfl ?_
  refine fs_gs T 15 2 1 v1 rfl rfl rfl rfl h1 ?_
  refine fs_r T 1 16 [some (.ref v0), some (.ref v1)] [.ref v0, .ref (H.2.1 v1 1)] rfl ?_
  refine fs_gs T 19 2 1 v0 rfl rfl rfl rfl h0 ?_
  refine fs_sV T 22 rfl rfl rfl rfl rfl rfl rfl (q_X11_copyNumbers (d := d) hE (hE.1 _ 2 1 h1) (hE.1 _ 2 1 h0)) ?_
  intro x2 m2
  refine fs_r T 1 23 [some (.ref v0), some (.ref v1)] [.ref v1] rfl ?_
  refine fs_gs T 26 2 2 v1 rfl rfl rfl rfl h1 ?_
  refine fs_r T 1 27 [some (.ref v0), some (.ref v1)] [.ref v0, .ref (H.2.1 v1 2)] rfl ?_
  refine fs_gs T 30 2 2 v0 rfl rfl rfl rfl h0 ?_
  refine fs_sV T 33 rfl rfl rfl rfl rfl rfl rfl (q_X11_copyNumbers (d := d) hE (hE.1 _ 2 2 h1) (hE.1 _ 2 2 h0)) ?_
  intro x3 m3
  refine fs_r T 1 34 [some (.ref v0), some (.ref v1)] [.ref v1] rfl ?_
  refine fs_gs T 37 2 3 v1 rfl rfl rfl rfl h1 ?_
  refine fs_r T 1 38 [some (.ref v0), some (.ref v1)] [.ref v0, .ref (H.2.1 v1 3)] rfl ?_
  refine fs_gs T 41 2 3 v0 rfl rfl rfl rfl h0 ?_
  refine fs_sV T 44 rfl rfl rfl rfl rfl rfl rfl (q_X11_copyNumbers (d := d) hE (hE.1 _ 2 3 h1) (hE.1 _ 2 3 h0)) ?_
  intro x4 m4
  exact fs_retv T rfl rfl rfl)
def f_X2_putSpace (H : fm_H) (v0 : Nat) (v1 : Int32) (v2 : Int32) (m : fm_M) : Option (Unit × fm_M) :=
  if v1 < 0 then
    some ((), m)
  else
  if (10 : Int32) ≤ v1 then
    some ((), m)
  else
  if px_inb v1 (fm_sz H (H.2.1 v0 0)) = true then
    (fm_bd (fm_si m (H.2.1 v0 0) v1.toNatClampNeg v2) fun m1 =>
    some ((), m1))
  else none
set_option maxRecDepth 10000 in
theorem q_X2_putSpace {G : pm_G} {H : fm_H} {d : Nat} {z : fm_Z H} {v0 : Nat} {v1 : Int32} {v2 : Int32} {m : fm_M} (hE : fm_E G H) (h0 : fm_is H v0 2) : fm_cal G H (d + 1) yX2_putSpace [.ref v0, .int v1, .int v2] z m fm_rV (f_X2_putSpace H v0 v1 v2 m) := fm_mth (d := d + 0) mt_X2_putSpace rfl rfl rfl (fun K => by
  show fm_o fm_rV (f_X2_putSpace H v0 v1 v2 m) K → fm_V G H (d + 0) RX2 cX2_putSpace none z K 0 [some (.ref v0), some (.int v1), some (.int v2)] [] m
  have T : fm_T RX2 cX2_putSpace tc_X2_putSpace fr_X2 mr_X2 cr_X2 lr_X2 := ⟨tok_X2, dc_X2_putSpace⟩
  unfold f_X2_putSpace
  refine fs_r T 1 1 [some (.ref v0), some (.int v1), some (.int v2)] [.int v1] rfl ?_
  refine fs_if_lt T 17 4 rfl rfl rfl (fun _ => ?_) (fun _ => ?_)
  · exact fs_retv T rfl rfl rfl
  · refine fs_r T 2 7 [some (.ref v0), some (.int v1), some (.int v2)] [.int (10 : Int32), .int v1] rfl ?_
    refine fs_ic_ge T 17 10 rfl rfl rfl (fun _ => ?_) (fun _ => ?_)
    · exact fs_retv T rfl rfl rfl
    · refine fs_r T 1 11 [some (.ref v0), some (.int v1), some (.int v2)] [.ref v0] rfl ?_
      refine fs_gs T 14 2 0 v0 rfl rfl rfl rfl h0 ?_
      refine fs_r T 2 16 [some (.ref v0), some (.int v1), some (.int v2)] [.int v2, .int v1, .ref (H.2.1 v0 0)] rfl ?_
      refine fs_si T 17 (H.2.1 v0 0) rfl rfl (hE.1 _ 2 0 h0) ?_
      intro m1
      exact fs_retv T rfl rfl rfl)
def f_X2_spaceOf (H : fm_H) (v0 : Nat) (v1 : Int32) (m : fm_M) : Option (Int32 × fm_M) :=
  if v1 < 0 then
    some ((0 : Int32), m)
  else
  if (10 : Int32) ≤ v1 then
    some ((0 : Int32), m)
  else
  if px_inb v1 (fm_sz H (H.2.1 v0 0)) = true then
    some (m.1 (H.2.1 v0 0) v1.toNatClampNeg, m)
  else none
set_option maxRecDepth 10000 in
theorem q_X2_spaceOf {G : pm_G} {H : fm_H} {d : Nat} {z : fm_Z H} {v0 : Nat} {v1 : Int32} {m : fm_M} (hE : fm_E G H) (h0 : fm_is H v0 2) : fm_cal G H (d + 1) yX2_spaceOf [.ref v0, .int v1] z m fm_rI (f_X2_spaceOf H v0 v1 m) := fm_mth (d := d + 0) mt_X2_spaceOf rfl rfl rfl (fun K => by
  show fm_o fm_rI (f_X2_spaceOf H v0 v1 m) K → fm_V G H (d + 0) RX2 cX2_spaceOf (some (.int)) z K 0 [some (.ref v0), some (.int v1)] [] m
  have T : fm_T RX2 cX2_spaceOf tc_X2_spaceOf fr_X2 mr_X2 cr_X2 lr_X2 := ⟨tok_X2, dc_X2_spaceOf⟩
  unfold f_X2_spaceOf
  refine fs_r T 1 1 [some (.ref v0), some (.int v1)] [.int v1] rfl ?_
  refine fs_if_lt T 19 4 rfl rfl rfl (fun _ => ?_) (fun _ => ?_)
  · refine fs_r T 1 20 [some (.ref v0), some (.int v1)] [.int (0 : Int32)] rfl ?_
    exact fs_reti T rfl rfl rfl
  · refine fs_r T 2 7 [some (.ref v0), some (.int v1)] [.int (10 : Int32), .int v1] rfl ?_
    refine fs_ic_ge T 19 10 rfl rfl rfl (fun _ => ?_) (fun _ => ?_)
    · refine fs_r T 1 20 [some (.ref v0), some (.int v1)] [.int (0 : Int32)] rfl ?_
      exact fs_reti T rfl rfl rfl
    · refine fs_r T 1 11 [some (.ref v0), some (.int v1)] [.ref v0] rfl ?_
      refine fs_gs T 14 2 0 v0 rfl rfl rfl rfl h0 ?_
      refine fs_r T 1 15 [some (.ref v0), some (.int v1)] [.int v1, .ref (H.2.1 v0 0)] rfl ?_
      refine fs_ai T 16 (H.2.1 v0 0) rfl rfl (hE.1 _ 2 0 h0) ?_
      refine fs_r T 1 20 [some (.ref v0), some (.int v1)] [.int (m.1 (H.2.1 v0 0) v1.toNatClampNeg)] rfl ?_
      exact fs_reti T rfl rfl rfl)
def f_X2_isSlot (H : fm_H) (v0 : Int32) (m : fm_M) : Option (Int32 × fm_M) :=
  if v0 < 0 then
    some ((0 : Int32), m)
  else
  if (120 : Int32) ≤ v0 then
    some ((0 : Int32), m)
  else
  some ((1 : Int32), m)
set_option maxRecDepth 10000 in
theorem q_X2_isSlot {G : pm_G} {H : fm_H} {d : Nat} {z : fm_Z H} {v0 : Int32} {m : fm_M} (hE : fm_E G H) : fm_cal G H (d + 1) yX2_isSlot [.int v0] z m fm_rI (f_X2_isSlot H v0 m) := fm_mth (d := d + 0) mt_X2_isSlot rfl rfl rfl (fun K => by
  show fm_o fm_rI (f_X2_isSlot H v0 m) K → fm_V G H (d + 0) RX2 cX2_isSlot (some (.boolean)) z K 0 [some (.int v0)] [] m
  have T : fm_T RX2 cX2_isSlot tc_X2_isSlot fr_X2 mr_X2 cr_X2 lr_X2 := ⟨tok_X2, dc_X2_isSlot⟩
  unfold f_X2_isSlot
  refine fs_r T 1 1 [some (.int v0)] [.int v0] rfl ?_
  refine fs_if_lt T 14 4 rfl rfl rfl (fun _ => ?_) (fun _ => ?_)
  · refine fs_r T 1 15 [some (.int v0)] [.int (0 : Int32)] rfl ?_
    exact fs_retc T rfl rfl rfl rfl
  · refine fs_r T 2 7 [some (.int v0)] [.int (120 : Int32), .int v0] rfl ?_
    refine fs_ic_ge T 14 10 rfl rfl rfl (fun _ => ?_) (fun _ => ?_)
    · refine fs_r T 1 15 [some (.int v0)] [.int (0 : Int32)] rfl ?_
      exact fs_retc T rfl rfl rfl rfl
    · refine fs_r T 2 15 [some (.int v0)] [.int (1 : Int32)] rfl ?_
      exact fs_retc T rfl rfl rfl rfl)
def f_X2_holderOf (H : fm_H) (v0 : Nat) (v1 : Int32) (m : fm_M) : Option (Int32 × fm_M) :=
  fm_bn (f_X2_isSlot H v1 m) fun x1 m1 =>
  if x1 = 0 then
    some ((-1 : Int32), m1)
  else
  if px_inb v1 (fm_sz H (H.2.1 v0 1)) = true then
    some (m1.1 (H.2.1 v0 1) v1.toNatClampNeg, m1)
  else none
set_option maxRecDepth 10000 in
theorem q_X2_holderOf {G : pm_G} {H : fm_H} {d : Nat} {z : fm_Z H} {v0 : Nat} {v1 : Int32} {m : fm_M} (hE : fm_E G H) (h0 : fm_is H v0 2) : fm_cal G H (d + 2) yX2_holderOf [.ref v0, .int v1] z m fm_rI (f_X2_holderOf H v0 v1 m) := fm_mth (d := d + 1) mt_X2_holderOf rfl rfl rfl (fun K => by
  show fm_o fm_rI (f_X2_holderOf H v0 v1 m) K → fm_V G H (d + 1) RX2 cX2_holderOf (some (.int)) z K 0 [some (.ref v0), some (.int v1)] [] m
  have T : fm_T RX2 cX2_holderOf tc_X2_holderOf fr_X2 mr_X2 cr_X2 lr_X2 := ⟨tok_X2, dc_X2_holderOf⟩
  unfold f_X2_holderOf
  refine fs_r T 1 1 [some (.ref v0), some (.int v1)] [.int v1] rfl ?_
  refine fs_sI T 4 rfl rfl rfl rfl rfl rfl rfl (q_X2_isSlot (d := d) hE ) ?_
  intro x1 m1
  refine fs_if_eq T 16 7 rfl rfl rfl (fun _ => ?_) (fun _ => ?_)
  · refine fs_r T 1 17 [some (.ref v0), some (.int v1)] [.int (-1 : Int32)] rfl ?_
    exact fs_reti T rfl rfl rfl
  · refine fs_r T 1 8 [some (.ref v0), some (.int v1)] [.ref v0] rfl ?_
    refine fs_gs T 11 2 1 v0 rfl rfl rfl rfl h0 ?_
    refine fs_r T 1 12 [some (.ref v0), some (.int v1)] [.int v1, .ref (H.2.1 v0 1)] rfl ?_
    refine fs_ai T 13 (H.2.1 v0 1) rfl rfl (hE.1 _ 2 1 h0) ?_
    refine fs_r T 1 17 [some (.ref v0), some (.int v1)] [.int (m1.1 (H.2.1 v0 1) v1.toNatClampNeg)] rfl ?_
    exact fs_reti T rfl rfl rfl)
def f_X2_circuitOf (H : fm_H) (v0 : Nat) (v1 : Int32) (m : fm_M) : Option (Int32 × fm_M) :=
  fm_bn (f_X2_isSlot H v1 m) fun x1 m1 =>
  if x1 = 0 then
    some ((-1 : Int32), m1)
  else
  if px_inb v1 (fm_sz H (H.2.1 v0 1)) = true then
    if m1.1 (H.2.1 v0 1) v1.toNatClampNeg = (-1 : Int32) then
      some ((-1 : Int32), m1)
    else
    if px_inb v1 (fm_sz H (H.2.1 v0 2)) = true then
      some (m1.1 (H.2.1 v0 2) v1.toNatClampNeg, m1)
    else none
  else none
set_option maxRecDepth 10000 in
theorem q_X2_circuitOf {G : pm_G} {H : fm_H} {d : Nat} {z : fm_Z H} {v0 : Nat} {v1 : Int32} {m : fm_M} (hE : fm_E G H) (h0 : fm_is H v0 2) : fm_cal G H (d + 2) yX2_circuitOf [.ref v0, .int v1] z m fm_rI (f_X2_circuitOf H v0 v1 m) := fm_mth (d := d + 1) mt_X2_circuitOf rfl rfl rfl (fun K => by
  show fm_o fm_rI (f_X2_circuitOf H v0 v1 m) K → fm_V G H (d + 1) RX2 cX2_circuitOf (some (.int)) z K 0 [some (.ref v0), some (.int v1)] [] m
  have T : fm_T RX2 cX2_circuitOf tc_X2_circuitOf fr_X2 mr_X2 cr_X2 lr_X2 := ⟨tok_X2, dc_X2_circuitOf⟩
  unfold f_X2_circuitOf
  refine fs_r T 1 1 [some (.ref v0), some (.int v1)] [.int v1] rfl ?_
  refine fs_sI T 4 rfl rfl rfl rfl rfl rfl rfl (q_X2_isSlot (d := d) hE ) ?_
  intro x1 m1
  refine fs_if_eq T 26 7 rfl rfl rfl (fun _ => ?_) (fun _ => ?_)
  · refine fs_r T 1 27 [some (.ref v0), some (.int v1)] [.int (-1 : Int32)] rfl ?_
    exact fs_reti T rfl rfl rfl
  · refine fs_r T 1 8 [some (.ref v0), some (.int v1)] [.ref v0] rfl ?_
    refine fs_gs T 11 2 1 v0 rfl rfl rfl rfl h0 ?_
    refine fs_r T 1 12 [some (.ref v0), some (.int v1)] [.int v1, .ref (H.2.1 v0 1)] rfl ?_
    refine fs_ai T 13 (H.2.1 v0 1) rfl rfl (hE.1 _ 2 1 h0) ?_
    refine fs_r T 1 14 [some (.ref v0), some (.int v1)] [.int (-1 : Int32), .int (m1.1 (H.2.1 v0 1) v1.toNatClampNeg)] rfl ?_
    refine fs_ic_eq T 26 17 rfl rfl rfl (fun _ => ?_) (fun _ => ?_)
    · refine fs_r T 1 27 [some (.ref v0), some (.int v1)] [.int (-1 : Int32)] rfl ?_
      exact fs_reti T rfl rfl rfl
    · refine fs_r T 1 18 [some (.ref v0), some (.int v1)] [.ref v0] rfl ?_
      refine fs_gs T 21 2 2 v0 rfl rfl rfl rfl h0 ?_
      refine fs_r T 1 22 [some (.ref v0), some (.int v1)] [.int v1, .ref (H.2.1 v0 2)] rfl ?_
      refine fs_ai T 23 (H.2.1 v0 2) rfl rfl (hE.1 _ 2 2 h0) ?_
      refine fs_r T 1 27 [some (.ref v0), some (.int v1)] [.int (m1.1 (H.2.1 v0 2) v1.toNatClampNeg)] rfl ?_
      exact fs_reti T rfl rfl rfl)
