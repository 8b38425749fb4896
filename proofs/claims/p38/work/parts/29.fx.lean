/-! functions out of the code -/
def f_X4_linksAt_4 (H : fm_H) (v0 : Nat) (v1 : Int32) : Nat → Int32 → Int32 → fm_M → Option (Int32 × fm_M)
  | 0, _, _, _ => none
  | n + 1, v2, v3, m =>
    if m.1 v0 0 ≤ v3 then
      some (v2, m)
    else
    fm_bn (f_X4_linkBetween H v0 v1 v3 m) fun x1 m1 =>
    if x1 = (-1 : Int32) then
      f_X4_linksAt_4 H v0 v1 n v2 (v3 + 1) m1
    else
    f_X4_linksAt_4 H v0 v1 n (v2 + 1) (v3 + 1) m1
set_option maxRecDepth 10000 in
theorem w_X4_linksAt_4 {G : pm_G} {H : fm_H} {d : Nat} {z : fm_Z H} {K : pm_R → fm_M → Prop} (hE : fm_E G H) {v0 : Nat} {v1 : Int32} (h0 : fm_is H v0 4) : ∀ (n : Nat) (v2 : Int32) (v3 : Int32) (m : fm_M), fm_o fm_rI (f_X4_linksAt_4 H v0 v1 n v2 v3 m) K → fm_V G H (d + 1) RX4 cX4_linksAt (some (.int)) z K 4 [some (.ref v0), some (.int v1), some (.int v2), some (.int v3)] [] m := by
  have T : fm_T RX4 cX4_linksAt tc_X4_linksAt fr_X4 mr_X4 cr_X4 lr_X4 := ⟨tok_X4, dc_X4_linksAt⟩
  intro n
  induction n with
  | zero =>
    intro v2 v3 m 
    exact fs_none
  | succ n ih =>
    intro v2 v3 m 
    unfold f_X4_linksAt_4
    refine fs_r T 2 6 [some (.ref v0), some (.int v1), some (.int v2), some (.int v3)] [.ref v0, .int v3] rfl ?_
    refine fs_gi T 9 4 0 v0 rfl rfl rfl rfl h0 ?_
    refine fs_ic_ge T 31 12 rfl rfl rfl (fun _ => ?_) (fun _ => ?_)
    · refine fs_r T 1 32 [some (.ref v0), some (.int v1), some (.int v2), some (.int v3)] [.int v2] rfl ?_
      exact fs_reti T rfl rfl rfl
    · refine fs_r T 3 15 [some (.ref v0), some (.int v1), some (.int v2), some (.int v3)] [.int v3, .int v1, .ref v0] rfl ?_
      refine fs_vI T 18 rfl rfl rfl rfl rfl rfl h0 (q_X4_linkBetween (d := d) hE h0) ?_
      intro x1 m1
      refine fs_r T 1 19 [some (.ref v0), some (.int v1), some (.int v2), some (.int v3)] [.int (-1 : Int32), .int x1] rfl ?_
      refine fs_ic_eq T 25 22 rfl rfl rfl (fun _ => ?_) (fun _ => ?_)
      · refine fs_r T 2 4 [some (.ref v0), some (.int v1), some (.int v2), some (.int (v3 + 1))] [] rfl ?_
        exact ih _ _ _
      · refine fs_r T 3 4 [some (.ref v0), some (.int v1), some (.int (v2 + 1)), some (.int (v3 + 1))] [] rfl ?_
        exact ih _ _ _
def f_X4_linksAt (H : fm_H) (v0 : Nat) (v1 : Int32) (m : fm_M) : Option (Int32 × fm_M) :=
  f_X4_linksAt_4 H v0 v1 fm_N (0 : Int32) (0 : Int32) m
set_option maxRecDepth 10000 in
theorem q_X4_linksAt {G : pm_G} {H : fm_H} {d : Nat} {z : fm_Z H} {v0 : Nat} {v1 : Int32} {m : fm_M} (hE : fm_E G H) (h0 : fm_is H v0 4) : fm_cal G H (d + 2) yX4_linksAt [.ref v0, .int v1] z m fm_rI (f_X4_linksAt H v0 v1 m) := fm_mth (d := d + 1) mt_X4_linksAt rfl rfl rfl (fun K => by
  show fm_o fm_rI (f_X4_linksAt H v0 v1 m) K → fm_V G H (d + 1) RX4 cX4_linksAt (some (.int)) z K 0 [some (.ref v0), some (.int v1), none, none] [] m
  have T : fm_T RX4 cX4_linksAt tc_X4_linksAt fr_X4 mr_X4 cr_X4 lr_X4 := ⟨tok_X4, dc_X4_linksAt⟩
  unfold f_X4_linksAt
  refine fs_r T 4 4 [some (.ref v0), some (.int v1), some (.int (0 : Int32)), some (.int (0 : Int32))] [] rfl ?_
  exact w_X4_linksAt_4 hE h0 _ _ _ _)
def f_X4_delayOf_4 (H : fm_H) (v0 : Nat) (v1 : Nat) : Nat → Int32 → Int32 → fm_M → Option (Int32 × fm_M)
  | 0, _, _, _ => none
  | n + 1, v2, v3, m =>
    if m.1 v1 0 ≤ v3 then
      some (v2, m)
    else
    fm_bn (f_X10_linkAt H v1 v3 m) fun x1 m1 =>
    fm_bn (f_X4_delayOn H v0 x1 m1) fun x2 m2 =>
    f_X4_delayOf_4 H v0 v1 n (v2 + x2) (v3 + 1) m2
set_option maxRecDepth 10000 in
theorem w_X4_delayOf_4 {G : pm_G} {H : fm_H} {d : Nat} {z : fm_Z H} {K : pm_R → fm_M → Prop} (hE : fm_E G H) {v0 : Nat} {v1 : Nat} (h0 : fm_is H v0 4) (h1 : fm_is H v1 10) : ∀ (n : Nat) (v2 : Int32) (v3 : Int32) (m : fm_M), fm_o fm_rI (f_X4_delayOf_4 H v0 v1 n v2 v3 m) K → fm_V G H (d + 2) RX4 cX4_delayOf (some (.int)) z K 4 [some (.ref v0), some (.ref v1), some (.int v2), some (.int v3)] [] m := by
  have T : fm_T RX4 cX4_delayOf tc_X4_delayOf fr_X4 mr_X4 cr_X4 lr_X4 := ⟨tok_X4, dc_X4_delayOf⟩
  intro n
  induction n with
  | zero =>
    intro v2 v3 m 
    exact fs_none
  | succ n ih =>
    intro v2 v3 m 
    unfold f_X4_delayOf_4
    refine fs_r T 2 6 [some (.ref v0), some (.ref v1), some (.int v2), some (.int v3)] [.ref v1, .int v3] rfl ?_
    refine fs_gi T 9 10 0 v1 rfl rfl rfl rfl h1 ?_
    refine fs_ic_ge T 30 12 rfl rfl rfl (fun _ => ?_) (fun _ => ?_)
    · refine fs_r T 1 31 [some (.ref v0), some (.ref v1), some (.int v2), some (.int v3)] [.int v2] rfl ?_
      exact fs_reti T rfl rfl rfl
    · refine fs_r T 4 16 [some (.ref v0), some (.ref v1), some (.int v2), some (.int v3)] [.int v3, .ref v1, .ref v0, .int v2] rfl ?_
      refine fs_vI T 19 rfl rfl rfl rfl rfl rfl h1 (q_X10_linkAt (d := d + 1) hE h1) ?_
      intro x1 m1
      refine fs_vI T 22 rfl rfl rfl rfl rfl rfl h0 (q_X4_delayOn (d := d) hE h0) ?_
      intro x2 m2
      refine fs_r T 4 4 [some (.ref v0), some (.ref v1), some (.int (v2 + x2)), some (.int (v3 + 1))] [] rfl ?_
      exact ih _ _ _
def f_X4_delayOf (H : fm_H) (v0 : Nat) (v1 : Nat) (m : fm_M) : Option (Int32 × fm_M) :=
  f_X4_delayOf_4 H v0 v1 fm_N (0 : Int32) (1 : Int32) m
set_option maxRecDepth 10000 in
theorem q_X4_delayOf {G : pm_G} {H : fm_H} {d : Nat} {z : fm_Z H} {v0 : Nat} {v1 : Nat} {m : fm_M} (hE : fm_E G H) (h0 : fm_is H v0 4) (h1 : fm_is H v1 10) : fm_cal G H (d + 3) yX4_delayOf [.ref v0, .ref v1] z m fm_rI (f_X4_delayOf H v0 v1 m) := fm_mth (d := d + 2) mt_X4_delayOf rfl rfl rfl (fun K => by
  show fm_o fm_rI (f_X4_delayOf H v0 v1 m) K → fm_V G H (d + 2) RX4 cX4_delayOf (some (.int)) z K 0 [some (.ref v0), some (.ref v1), none, none] [] m
  have T : fm_T RX4 cX4_delayOf tc_X4_delayOf fr_X4 mr_X4 cr_X4 lr_X4 := ⟨tok_X4, dc_X4_delayOf⟩
  unfold f_X4_delayOf
  refine fs_r T 4 4 [some (.ref v0), some (.ref v1), some (.int (0 : Int32)), some (.int (1 : Int32))] [] rfl ?_
  exact w_X4_delayOf_4 hE h0 h1 _ _ _ _)
def f_X4_allCapacities_4 (H : fm_H) (v0 : Nat) : Nat → Int32 → Int32 → fm_M → Option (Int32 × fm_M)
  | 0, _, _, _ => none
  | n + 1, v1, v2, m =>
    if m.1 v0 1 ≤ v2 then
      some (v1, m)
    else
    if px_inb v2 (fm_sz H (H.2.1 v0 2)) = true then
      (if fm_isb H (m.2.1 (H.2.1 v0 2) v2.toNatClampNeg) 3 = true then
        f_X4_allCapacities_4 H v0 n (v1 + m.1 (m.2.1 (H.2.1 v0 2) v2.toNatClampNeg) 2) (v2 + 1) m
      else none)
    else none
set_option maxRecDepth 10000 in
theorem w_X4_allCapacities_4 {G : pm_G} {H : fm_H} {d : Nat} {z : fm_Z H} {K : pm_R → fm_M → Prop} (hE : fm_E G H) {v0 : Nat} (h0 : fm_is H v0 4) : ∀ (n : Nat) (v1 : Int32) (v2 : Int32) (m : fm_M), fm_o fm_rI (f_X4_allCapacities_4 H v0 n v1 v2 m) K → fm_V G H (d + 0) RX4 cX4_allCapacities (some (.int)) z K 4 [some (.ref v0), some (.int v1), some (.int v2)] [] m := by
  have T : fm_T RX4 cX4_allCapacities tc_X4_allCapacities fr_X4 mr_X4 cr_X4 lr_X4 := ⟨tok_X4, dc_X4_allCapacities⟩
  intro n
  induction n with
  | zero =>
    intro v1 v2 m 
    exact fs_none
  | succ n ih =>
    intro v1 v2 m 
    unfold f_X4_allCapacities_4
    refine fs_r T 2 6 [some (.ref v0), some (.int v1), some (.int v2)] [.ref v0, .int v2] rfl ?_
    refine fs_gi T 9 4 1 v0 rfl rfl rfl rfl h0 ?_
    refine fs_ic_ge T 30 12 rfl rfl rfl (fun _ => ?_) (fun _ => ?_)
    · refine fs_r T 1 31 [some (.ref v0), some (.int v1), some (.int v2)] [.int v1] rfl ?_
      exact fs_reti T rfl rfl rfl
    · refine fs_r T 2 14 [some (.ref v0), some (.int v1), some (.int v2)] [.ref v0, .int v1] rfl ?_
      refine fs_gs T 17 4 2 v0 rfl rfl rfl rfl h0 ?_
      refine fs_r T 1 18 [some (.ref v0), some (.int v1), some (.int v2)] [.int v2, .ref (H.2.1 v0 2), .int v1] rfl ?_
      refine fs_aa T 19 (H.2.1 v0 2) 3 rfl rfl (hE.1 _ 4 2 h0) ?_
      intro e1
      refine fs_gi T 22 3 2 (m.2.1 (H.2.1 v0 2) v2.toNatClampNeg) rfl rfl rfl rfl e1 ?_
      refine fs_r T 4 4 [some (.ref v0), some (.int (v1 + m.1 (m.2.1 (H.2.1 v0 2) v2.toNatClampNeg) 2)), some (.int (v2 + 1))] [] rfl ?_
      exact ih _ _ _
def f_X4_allCapacities (H : fm_H) (v0 : Nat) (m : fm_M) : Option (Int32 × fm_M) :=
  f_X4_allCapacities_4 H v0 fm_N (0 : Int32) (0 : Int32) m
set_option maxRecDepth 10000 in
theorem q_X4_allCapacities {G : pm_G} {H : fm_H} {d : Nat} {z : fm_Z H} {v0 : Nat} {m : fm_M} (hE : fm_E G H) (h0 : fm_is H v0 4) : fm_cal G H (d + 1) yX4_allCapacities [.ref v0] z m fm_rI (f_X4_allCapacities H v0 m) := fm_mth (d := d + 0) mt_X4_allCapacities rfl rfl rfl (fun K => by
  show fm_o fm_rI (f_X4_allCapacities H v0 m) K → fm_V G H (d + 0) RX4 cX4_allCapacities (some (.int)) z K 0 [some (.ref v0), none, none] [] m
  have T : fm_T RX4 cX4_allCapacities tc_X4_allCapacities fr_X4 mr_X4 cr_X4 lr_X4 := ⟨tok_X4, dc_X4_allCapacities⟩
  unfold f_X4_allCapacities
  refine fs_r T 4 4 [some (.ref v0), some (.int (0 : Int32)), some (.int (0 : Int32))] [] rfl ?_
  exact w_X4_allCapacities_4 hE h0 _ _ _ _)
def f_X5_copyFrom (H : fm_H) (v0 : Nat) (v1 : Nat) (m : fm_M) : Option (Unit × fm_M) :=
  fm_bd (fm_si m v0 0 (m.1 v1 0)) fun m1 =>
  fm_bd (fm_si m1 v0 1 (m1.1 v1 1)) fun m2 =>
  fm_bd (fm_si m2 v0 2 (m2.1 v1 2)) fun m3 =>
  fm_bd (fm_si m3 v0 3 (m3.1 v1 3)) fun m4 =>
  fm_bd (fm_si m4 v0 4 (m4.1 v1 4)) fun m5 =>
  fm_bd (fm_si m5 v0 5 (m5.1 v1 5)) fun m6 =>
  fm_bd (fm_si m6 v0 6 (m6.1 v1 6)) fun m7 =>
  some ((), m7)
set_option maxRecDepth 10000 in
theorem q_X5_copyFrom {G : pm_G} {H : fm_H} {d : Nat} {z : fm_Z H} {v0 : Nat} {v1 : Nat} {m : fm_M} (hE : fm_E G H) (h0 : fm_is H v0 5) (h1 : fm_is H v1 5) : fm_cal G H (d + 1) yX5_copyFrom [.ref v0, .ref v1] z m fm_rV (f_X5_copyFrom H v0 v1 m) := fm_mth (d := d + 0) mt_X5_copyFrom rfl rfl rfl (fun K => by
  show fm_o fm_rV (f_X5_copyFrom H v0 v1 m) K → fm_V G H (d + 0) RX5 cX5_copyFrom none z K 0 [some (.ref v0), some (.ref v1)] [] m
  have T : fm_T RX5 cX5_copyFrom tc_X5_copyFrom fr_X5 mr_X5 cr_X5 lr_X5 := ⟨tok_X5, dc_X5_copyFrom⟩
  unfold f_X5_copyFrom
  refine fs_r T 2 2 [some (.ref v0), some (.ref v1)] [.ref v1, .ref v0] rfl ?_
  refine fs_gi T 5 5 0 v1 rfl rfl rfl rfl h1 ?_
  refine fs_pi T 8 5 0 v0 rfl rfl rfl rfl h0 ?_
  intro m1
  refine fs_r T 2 10 [some (.ref v0), some (.ref v1)] [.ref v1, .ref v0] rfl ?_
  refine fs_gi T 13 5 1 v1 rfl rfl rfl rfl h1 ?_
  refine fs_pi T 16 5 1 v0 rfl rfl rfl rfl h0 ?_
  intro m2
  refine fs_r T 2 18 [some (.ref v0), some (.ref v1)] [.ref v1, .ref v0] rfl ?_
  refine fs_gi T 21 5 2 v1 rfl rfl rfl rfl h1 ?_
  refine fs_pi T 24 5 2 v0 rfl rfl rfl rfl h0 ?_
  intro m3
  refine fs_r T 2 26 [some (.ref v0), some (.ref v1)] [.ref v1, .ref v0] rfl ?_
  refine fs_gi T 29 5 3 v1 rfl rfl rfl rfl h1 ?_
  refine fs_pi T 32 5 3 v0 rfl rfl rfl rfl h0 ?_
  intro m4
  refine fs_r T 2 34 [some (.ref v0), some (.ref v1)] [.ref v1, .ref v0] rfl ?_
  refine fs_gi T 37 5 4 v1 rfl rfl rfl rfl h1 ?_
  refine fs_pi T 40 5 4 v0 rfl rfl rfl rfl h0 ?_
  intro m5
  refine fs_r T 2 42 [some (.ref v0), some (.ref v1)] [.ref v1, .ref v0] rfl ?_
  refine fs_gi T 45 5 5 v1 rfl rfl rfl rfl h1 ?_
  refine fs_pi T 48 5 5 v0 rfl rfl rfl rfl h0 ?_
  intro m6
  refine fs_r T 2 50 [some (.ref v0), some (.ref v1)] [.ref v1, .ref v0] rfl ?_
  refine fs_gi T 53 5 6 v1 rfl rfl rfl rfl h1 ?_
  refine fs_pi T 56 5 6 v0 rfl rfl rfl rfl h0 ?_
  intro m7
  exact fs_retv T rfl rfl rfl)
def f_X10_slotAt (H : fm_H) (v0 : Nat) (v1 : Int32) (m : fm_M) : Option (Int32 × fm_M) :=
  if v1 < 0 then
    some ((-1 : Int32), m)
  else
  if m.1 v0 0 ≤ v1 then
    some ((-1 : Int32), m)
  else
  if px_inb v1 (fm_sz H (H.2.1 v0 3)) = true then
    some (m.1 (H.2.1 v0 3) v1.toNatClampNeg, m)
  else none
set_option maxRecDepth 10000 in
theorem q_X10_slotAt {G : pm_G} {H : fm_H} {d : Nat} {z : fm_Z H} {v0 : Nat} {v1 : Int32} {m : fm_M} (hE : fm_E G H) (h0 : fm_is H v0 10) : fm_cal G H (d + 1) yX10_slotAt [.ref v0, .int v1] z m fm_rI (f_X10_slotAt H v0 v1 m) := fm_mth (d := d + 0) mt_X10_slotAt rfl rfl rfl (fun K => by
  show fm_o fm_rI (f_X10_slotAt H v0 v1 m) K → fm_V G H (d + 0) RX10 cX10_slotAt (some (.int)) z K 0 [some (.ref v0), some (.int v1)] [] m
  have T : fm_T RX10 cX10_slotAt tc_X10_slotAt fr_X10 mr_X10 cr_X10 lr_X10 := ⟨tok_X10, dc_X10_slotAt⟩
  unfold f_X10_slotAt
  refine fs_r T 1 1 [some (.ref v0), some (.int v1)] [.int v1] rfl ?_
  refine fs_if_lt T 21 4 rfl rfl rfl (fun _ => ?_) (fun _ => ?_)
  · refine fs_r T 1 22 [some (.ref v0), some (.int v1)] [.int (-1 : Int32)] rfl ?_
    exact fs_reti T rfl rfl rfl
  · refine fs_r T 2 6 [some (.ref v0), some (.int v1)] [.ref v0, .int v1] rfl ?_
    refine fs_gi T 9 10 0 v0 rfl rfl rfl rfl h0 ?_
    refine fs_ic_ge T 21 12 rfl rfl rfl (fun _ => ?_) (fun _ => ?_)
    · refine fs_r T 1 22 [some (.ref v0), some (.int v1)] [.int (-1 : Int32)] rfl ?_
      exact fs_reti T rfl rfl rfl
    · refine fs_r T 1 13 [some (.ref v0), some (.int v1)] [.ref v0] rfl ?_
      refine fs_gs T 16 10 3 v0 rfl rfl rfl rfl h0 ?_
      refine fs_r T 1 17 [some (.ref v0), some (.int v1)] [.int v1, .ref (H.2.1 v0 3)] rfl ?_
      refine fs_ai T 18 (H.2.1 v0 3) rfl rfl (hE.1 _ 10 3 h0) ?_
      refine fs_r T 1 22 [some (.ref v0), some (.int v1)] [.int (m.1 (H.2.1 v0 3) v1.toNatClampNeg)] rfl ?_
      exact fs_reti T rfl rfl rfl)
def f_X5_putOnLinkTo (H : fm_H) (v0 : Nat) (v1 : Nat) (v2 : Int32) (v3 : Nat) (m : fm_M) : Option (Unit × fm_M) :=
  fm_bn (f_X10_linkAt H v1 v2 m) fun x1 m1 =>
  fm_bd (fm_si m1 v0 3 x1) fun m2 =>
  fm_bn (f_X10_nodeAt H v1 v2 m2) fun x2 m3 =>
  fm_bd (fm_si m3 v0 4 x2) fun m4 =>
  fm_bn (f_X10_slotAt H v1 v2 m4) fun x3 m5 =>
  fm_bd (fm_si m5 v0 5 x3) fun m6 =>
  fm_bn (f_X4_delayOn H v3 (m6.1 v0 3) m6) fun x4 m7 =>
  fm_bd (fm_si m7 v0 6 x4) fun m8 =>
  some ((), m8)
set_option maxRecDepth 10000 in
theorem q_X5_putOnLinkTo {G : pm_G} {H : fm_H} {d : Nat} {z : fm_Z H} {v0 : Nat} {v1 : Nat} {v2 : Int32} {v3 : Nat} {m : fm_M} (hE : fm_E G H) (h0 : fm_is H v0 5) (h1 : fm_is H v1 10) (h3 : fm_is H v3 4) : fm_cal G H (d + 3) yX5_putOnLinkTo [.ref v0, .ref v1, .int v2, .ref v3] z m fm_rV (f_X5_putOnLinkTo H v0 v1 v2 v3 m) := fm_mth (d := d + 2) mt_X5_putOnLinkTo rfl rfl rfl (fun K => by
  show fm_o fm_rV (f_X5_putOnLinkTo H v0 v1 v2 v3 m) K → fm_V G H (d + 2) RX5 cX5_putOnLinkTo none z K 0 [some (.ref v0), some (.ref v1), some (.int v2), some (.ref v3)] [] m
  have T : fm_T RX5 cX5_putOnLinkTo tc_X5_putOnLinkTo fr_X5 mr_X5 cr_X5 lr_X5 := ⟨tok_X5, dc_X5_putOnLinkTo⟩
  unfold f_X5_putOnLinkTo
  refine fs_r T 3 3 [some (.ref v0), some (.ref v1), some (.int v2), some (.ref v3)] [.int v2, .ref v1, .ref v0] rfl ?_
  refine fs_vI T 6 rfl rfl rfl rfl rfl rfl h1 (q_X10_linkAt (d := d + 1) hE h1) ?_
  intro x1 m1
  refine fs_pi T 9 5 3 v0 rfl rfl rfl rfl h0 ?_
  intro m2
  refine fs_r T 3 12 [some (.ref v0), some (.ref v1), some (.int v2), some (.ref v3)] [.int v2, .ref v1, .ref v0] rfl ?_
  refine fs_vI T 15 rfl rfl rfl rfl rfl rfl h1 (q_X10_nodeAt (d := d + 1) hE h1) ?_
  intro x2 m3
  refine fs_pi T 18 5 4 v0 rfl rfl rfl rfl h0 ?_
  intro m4
  refine fs_r T 3 21 [some (.ref v0), some (.ref v1), some (.int v2), some (.ref v3)] [.int v2, .ref v1, .ref v0] rfl ?_
  refine fs_vI T 24 rfl rfl rfl rfl rfl rfl h1 (q_X10_slotAt (d := d + 1) hE h1) ?_
  intro x3 m5
  refine fs_pi T 27 5 5 v0 rfl rfl rfl rfl h0 ?_
  intro m6
  refine fs_r T 3 30 [some (.ref v0), some (.ref v1), some (.int v2), some (.ref v3)] [.ref v0, .ref v3, .ref v0] rfl ?_
  refine fs_gi T 33 5 3 v0 rfl rfl rfl rfl h0 ?_
  refine fs_vI T 36 rfl rfl rfl rfl rfl rfl h3 (q_X4_delayOn (d := d) hE h3) ?_
  intro x4 m7
  refine fs_pi T 39 5 6 v0 rfl rfl rfl rfl h0 ?_
  intro m8
  exact fs_retv T rfl rfl rfl)
def f_X9_copyFrom (H : fm_H) (v0 : Nat) (v1 : Nat) (m : fm_M) : Option (Unit × fm_M) :=
  fm_bd (fm_si m v0 0 (m.1 v1 0)) fun m1 =>
  fm_bd (fm_si m1 v0 1 (m1.1 v1 1)) fun m2 =>
  fm_bd (fm_si m2 v0 2 (m2.1 v1 2)) fun m3 =>
  fm_bd (fm_si m3 v0 3 (m3.1 v1 3)) fun m4 =>
  fm_bd (fm_si m4 v0 4 (m4.1 v1 4)) fun m5 =>
  fm_bd (fm_si m5 v0 5 (m5.1 v1 5)) fun m6 =>
  fm_bd (fm_si m6 v0 6 (m6.1 v1 6)) fun m7 =>
  some ((), m7)
set_option maxRecDepth 10000 in
theorem q_X9_copyFrom {G : pm_G} {H : fm_H} {d : Nat} {z : fm_Z H} {v0 : Nat} {v1 : Nat} {m : fm_M} (hE : fm_E G H) (h0 : fm_is H v0 9) (h1 : fm_is H v1 9) : fm_cal G H (d + 1) yX9_copyFrom [.ref v0, .ref v1] z m fm_rV (f_X9_copyFrom H v0 v1 m) := fm_mth (d := d + 0) mt_X9_copyFrom rfl rfl rfl (fun K => by
  show fm_o fm_rV (f_X9_copyFrom H v0 v1 m) K → fm_V G H (d + 0) RX9 cX9_copyFrom none z K 0 [some (.ref v0), some (.ref v1)] [] m
  have T : fm_T RX9 cX9_copyFrom tc_X9_copyFrom fr_X9 mr_X9 cr_X9 lr_X9 := ⟨tok_X9, dc_X9_copyFrom⟩
  unfold f_X9_copyFrom
  refine fs_r T 2 2 [some (.ref v0), some (.ref v1)] [.ref v1, .ref v0] rfl ?_
  refine fs_gi T 5 9 0 v1 rfl rfl rfl rfl h1 ?_
  refine fs_pi T 8 9 0 v0 rfl rfl rfl rfl h0 ?_
  intro m1
  refine fs_r T 2 10 [some (.ref v0), some (.ref v1)] [.ref v1, .ref v0] rfl ?_
  refine fs_gi T 13 9 1 v1 rfl rfl rfl rfl h1 ?_
  refine fs_pi T 16 9 1 v0 rfl rfl rfl rfl h0 ?_
  intro m2
  refine fs_r T 2 18 [some (.ref v0), some (.ref v1)] [.ref v1, .ref v0] rfl ?_
  refine fs_gi T 21 9 2 v1 rfl rfl rfl rfl h1 ?_
  refine fs_pi T 24 9 2 v0 rfl rfl rfl rfl h0 ?_
  intro m3
  refine fs_r T 2 26 [some (.ref v0), some (.ref v1)] [.ref v1, .ref v0] rfl ?_
  refine fs_gi T 29 9 3 v1 rfl rfl rfl rfl h1 ?_
  refine fs_pi T 32 9 3 v0 rfl rfl rfl rfl h0 ?_
  intro m4
  refine fs_r T 2 34 [some (.ref v0), some (.ref v1)] [.ref v1, .ref v0] rfl ?_
  refine fs_gi T 37 9 4 v1 rfl rfl rfl rfl h1 ?_
  refine fs_pi T 40 9 4 v0 rfl rfl rfl rfl h0 ?_
  intro m5
  refine fs_r T 2 42 [some (.ref v0), some (.ref v1)] [.ref v1, .ref v0] rfl ?_
  refine fs_gi T 45 9 5 v1 rfl rfl rfl rfl h1 ?_
  refine fs_pi T 48 9 5 v0 rfl rfl rfl rfl h0 ?_
  intro m6
  refine fs_r T 2 50 [some (.ref v0), some (.ref v1)] [.ref v1, .ref v0] rfl ?_
  refine fs_gi T 53 9 6 v1 rfl rfl rfl rfl h1 ?_
  refine fs_pi T 56 9 6 v0 rfl rfl rfl rfl h0 ?_
  intro m7
  exact fs_retv T rfl rfl rfl)
def f_X7_copyFrom_112 (H : fm_H) (v0 : Nat) (v1 : Nat) : Nat → Int32 → fm_M → Option (Unit × fm_M)
  | 0, _, _ => none
  | n + 1, v2, m =>
    if m.1 v0 6 ≤ v2 then
      some ((), m)
    else
    if (60 : Int32) ≤ v2 then
      some ((), m)
    else
    if px_inb v2 (fm_sz H (H.2.1 v0 4)) = true then
      (if fm_isb H (m.2.1 (H.2.1 v0 4) v2.toNatClampNeg) 5 = true then
        if px_inb v2 (fm_sz H (H.2.1 v1 4)) = true then
          (if fm_isb H (m.2.1 (H.2.1 v1 4) v2.toNatClampNeg) 5 = true then
            fm_bn (f_X5_copyFrom H (m.2.1 (H.2.1 v0 4) v2.toNatClampNeg) (m.2.1 (H.2.1 v1 4) v2.toNatClampNeg) m) fun _ m1 =>
            f_X7_copyFrom_112 H v0 v1 n (v2 + 1) m1
          else none)
        else none
      else none)
    else none
set_option maxRecDepth 10000 in
theorem w_X7_copyFrom_112 {G : pm_G} {H : fm_H} {d : Nat} {z : fm_Z H} {K : pm_R → fm_M → Prop} (hE : fm_E G H) {v0 : Nat} {v1 : Nat} (h0 : fm_is H v0 7) (h1 : fm_is H v1 7) : ∀ (n : Nat) (v2 : Int32) (m : fm_M), fm_o fm_rV (f_X7_copyFrom_112 H v0 v1 n v2 m) K → fm_V G H (d + 3) RX7 cX7_copyFrom none z K 112 [some (.ref v0), some (.ref v1), some (.int v2)] [] m := by
  have T : fm_T RX7 cX7_copyFrom tc_X7_copyFrom fr_X7 mr_X7 cr_X7 lr_X7 := ⟨tok_X7, dc_X7_copyFrom⟩
  intro n
  induction n with
  | zero =>
    intro v2 m 
    exact fs_none
  | succ n ih =>
    intro v2 m 
    unfold f_X7_copyFrom_112
    refine fs_r T 2 114 [some (.ref v0), some (.ref v1), some (.int v2)] [.ref v0, .int v2] rfl ?_
    refine fs_gi T 117 7 6 v0 rfl rfl rfl rfl h0 ?_
    refine fs_ic_ge T 147 120 rfl rfl rfl (fun _ => ?_) (fun _ => ?_)
    · exact fs_retv T rfl rfl rfl
    · refine fs_r T 2 123 [some (.ref v0), some (.ref v1), some (.int v2)] [.int (60 : Int32), .int v2] rfl ?_
      refine fs_ic_ge T 147 126 rfl rfl rfl (fun _ => ?_) (fun _ => ?_)
      · exact fs_retv T rfl rfl rfl
      · refine fs_r T 1 127 [some (.ref v0), some (.ref v1), some (.int v2)] [.ref v0] rfl ?_
        refine fs_gs T 130 7 4 v0 rfl rfl rfl rfl h0 ?_
        refine fs_r T 1 131 [some (.ref v0), some (.ref v1), some (.int v2)] [.int v2, .ref (H.2.1 v0 4)] rfl ?_
        refine fs_aa T 132 (H.2.1 v0 4) 5 rfl rfl (hE.1 _ 7 4 h0) ?_
        intro e1
        refine fs_r T 1 133 [some (.ref v0), some (.ref v1), some (.int v2)] [.ref v1, .ref (m.2.1 (H.2.1 v0 4) v2.toNatClampNeg)] rfl ?_
        refine fs_gs T 136 7 4 v1 rfl rfl rfl rfl h1 ?_
        refine fs_r T 1 137 [some (.ref v0), some (.ref v1), some (.int v2)] [.int v2, .ref (H.2.1 v1 4), .ref (m.2.1 (H.2.1 v0 4) v2.toNatClampNeg)] rfl ?_
        refine fs_aa T 138 (H.2.1 v1 4) 5 rfl rfl (hE.1 _ 7 4 h1) ?_
        intro e2
        refine fs_vV T 141 rfl rfl rfl rfl rfl rfl e1 (q_X5_copyFrom (d := d + 2) hE e1 e2) ?_
        intro x1 m1
        refine fs_r T 2 112 [some (.ref v0), some (.ref v1), some (.int (v2 + 1))] [] rfl ?_
        exact ih _ _
def f_X7_copyFrom_75 (H : fm_H) (v0 : Nat) (v1 : Nat) : Nat → Int32 → fm_M → Option (Unit × fm_M)
  | 0, _, _ => none
  | n + 1, v2, m =>
    if m.1 v0 5 ≤ v2 then
      f_X7_copyFrom_112 H v0 v1 fm_N (0 : Int32) m
    else
    if (8 : Int32) ≤ v2 then
      f_X7_copyFrom_112 H v0 v1 fm_N (0 : Int32) m
    else
    if px_inb v2 (fm_sz H (H.2.1 v0 3)) = true then
      (if fm_isb H (m.2.1 (H.2.1 v0 3) v2.toNatClampNeg) 0 = true then
        if px_inb v2 (fm_sz H (H.2.1 v1 3)) = true then
          (if fm_isb H (m.2.1 (H.2.1 v1 3) v2.toNatClampNeg) 0 = true then
            fm_bn (f_X0_copyFrom H (m.2.1 (H.2.1 v0 3) v2.toNatClampNeg) (m.2.1 (H.2.1 v1 3) v2.toNatClampNeg) m) fun _ m1 =>
            f_X7_copyFrom_75 H v0 v1 n (v2 + 1) m1
          else none)
        else none
      else none)
    else none
set_option maxRecDepth 10000 in
theorem w_X7_copyFrom_75 {G : pm_G} {H : fm_H} {d : Nat} {z : fm_Z H} {K : pm_R → fm_M → Prop} (hE : fm_E G H) {v0 : Nat} {v1 : Nat} (h0 : fm_is H v0 7) (h1 : fm_is H v1 7) : ∀ (n : Nat) (v2 : Int32) (m : fm_M), fm_o fm_rV (f_X7_copyFrom_75 H v0 v1 n v2 m) K → fm_V G H (d + 3) RX7 cX7_copyFrom none z K 75 [some (.ref v0), some (.ref v1), some (.int v2)] [] m := by
  have T : fm_T RX7 cX7_copyFrom tc_X7_copyFrom fr_X7 mr_X7 cr_X7 lr_X7 := ⟨tok_X7, dc_X7_copyFrom⟩
  intro n
  induction n with
  | zero =>
    intro v2 m 
    exact fs_none
  | succ n ih =>
    intro v2 m 
    unfold f_X7_copyFrom_75
    refine fs_r T 2 77 [some (.ref v0), some (.ref v1), some (.int v2)] [.ref v0, .int v2] rfl ?_
    refine fs_gi T 80 7 5 v0 rfl rfl rfl rfl h0 ?_
    refine fs_ic_ge T 110 83 rfl rfl rfl (fun _ => ?_) (fun _ => ?_)
    · refine fs_r T 2 112 [some (.ref v0), some (.ref v1), some (.int (0 : Int32))] [] rfl ?_
      exact w_X7_copyFrom_112 hE h0 h1 _ _ _
    · refine fs_r T 2 86 [some (.ref v0), some (.ref v1), some (.int v2)] [.int (8 : Int32), .int v2] rfl ?_
      refine fs_ic_ge T 110 89 rfl rfl rfl (fun _ => ?_) (fun _ => ?_)
      · refine fs_r T 2 112 [some (.ref v0), some (.ref v1), some (.int (0 : Int32))] [] rfl ?_
        exact w_X7_copyFrom_112 hE h0 h1 _ _ _
      · refine fs_r T 1 90 [some (.ref v0), some (.ref v1), some (.int v2)] [.ref v0] rfl ?_
        refine fs_gs T 93 7 3 v0 rfl rfl rfl rfl h0 ?_
        refine fs_r T 1 94 [some (.ref v0), some (.ref v1), some (.int v2)] [.int v2, .ref (H.2.1 v0 3)] rfl ?_
        refine fs_aa T 95 (H.2.1 v0 3) 0 rfl rfl (hE.1 _ 7 3 h0) ?_
        intro e3
        refine fs_r T 1 96 [some (.ref v0), some (.ref v1), some (.int v2)] [.ref v1, .ref (m.2.1 (H.2.1 v0 3) v2.toNatClampNeg)] rfl ?_
        refine fs_gs T 99 7 3 v1 rfl rfl rfl rfl h1 ?_
        refine fs_r T 1 100 [some (.ref v0), some (.ref v1), some (.int v2)] [.int v2, .ref (H.2.1 v1 3), .ref (m.2.1 (H.2.1 v0 3) v2.toNatClampNeg)] rfl ?_
        refine fs_aa T 101 (H.2.1 v1 3) 0 rfl rfl (hE.1 _ 7 3 h1) ?_
        intro e4
        refine fs_vV T 104 rfl rfl rfl rfl rfl rfl e3 (q_X0_copyFrom (d := d) hE e3 e4) ?_
        intro x1 m1
        refine fs_r T 2 75 [some (.ref v0), some (.ref v1), some (.int (v2 + 1))] [] rfl ?_
        exact ih _ _
def f_X7_copyFrom (H : fm_H) (v0 : Nat) (v1 : Nat) (m : fm_M) : Option (Unit × fm_M) :=
  fm_bn (f_X4_copyFrom H (H.2.1 v0 0) (H.2.1 v1 0) m) fun _ m1 =>
  fm_bn (f_X2_copyFrom H (H.2.1 v0 1) (H.2.1 v1 1) m1) fun _ m2 =>
  fm_bn (f_X9_copyFrom H (H.2.1 v0 2) (H.2.1 v1 2) m2) fun _ m3 =>
  fm_bd (fm_si m3 v0 5 (m3.1 v1 5)) fun m4 =>
  fm_bd (fm_si m4 v0 6 (m4.1 v1 6)) fun m5 =>
  fm_bd (fm_si m5 v0 7 (m5.1 v1 7)) fun m6 =>
  fm_bd (fm_si m6 v0 8 (m6.1 v1 8)) fun m7 =>
  fm_bd (fm_si m7 v0 9 (m7.1 v1 9)) fun m8 =>
  f_X7_copyFrom_75 H v0 v1 fm_N (0 : Int32) m8
set_option maxRecDepth 10000 in
theorem q_X7_copyFrom {G : pm_G} {H : fm_H} {d : Nat} {z : fm_Z H} {v0 : Nat} {v1 : Nat} {m : fm_M} (hE : fm_E G H) (h0 : fm_is H v0 7) (h1 : fm_is H v1 7) : fm_cal G H (d + 4) yX7_copyFrom [.ref v0, .ref v1] z m fm_rV (f_X7_copyFrom H v0 v1 m) := fm_mth (d := d + 3) mt_X7_copyFrom rfl rfl rfl (fun K => by
  show fm_o fm_rV (f_X7_copyFrom H v0 v1 m) K → fm_V G H (d + 3) RX7 cX7_copyFrom none z K 0 [some (.ref v0), some (.ref v1), none] [] m
  have T : fm_T RX7 cX7_copyFrom tc_X7_copyFrom fr_X7 mr_X7 cr_X7 lr_X7 := ⟨tok_X7, dc_X7_copyFrom⟩
  unfold f_X7_copyFrom
  refine fs_r T 1 1 [some (.ref v0), some (.ref v1), none] [.ref v0] rfl ?_
  refine fs_gs T 4 7 0 v0 rfl rfl rfl rfl h0 ?_
  refine fs_r T 1 5 [some (.ref v0), some (.ref v1), none] [.ref v1, .ref (H.2.1 v0 0)] rfl ?_
  refine fs_gs T 8 7 0 v1 rfl rfl rfl rfl h1 ?_
  refine fs_vV T 11 rfl rfl rfl rfl rfl rfl (hE.1 _ 7 0 h0) (q_X4_copyFrom (d := d + 1) hE (hE.1 _ 7 0 h0) (hE.1 _ 7 0 h1)) ?_
  intro x1 m1
  refine fs_r T 1 12 [some (.ref v0), some (.ref v1), none] [.ref v0] rfl ?_
  refine fs_gs T 15 7 1 v0 rfl rfl rfl rfl h0 ?_
  refine fs_r T 1 16 [some (.ref v0), some (.ref v1), none] [.ref v1, .ref (H.2.1 v0 1)] rfl ?_
  refine fs_gs T 19 7 1 v1 rfl rfl rfl rfl h1 ?_
  refine fs_vV T 22 rfl rfl rfl rfl rfl rfl (hE.1 _ 7 1 h0) (q_X2_copyFrom (d := d + 1) hE (hE.1 _ 7 1 h0) (hE.1 _ 7 1 h1)) ?_
  intro x2 m2
  refine fs_r T 1 23 [some (.ref v0), some (.ref v1), none] [.ref v0] rfl ?_
  refine fs_gs T 26 7 2 v0 rfl rfl rfl rfl h0 ?_
  refine fs_r T 1 27 [some (.ref v0), some (.ref v1), none] [.ref v1, .ref (H.2.1 v0 2)] rfl ?_
  refine fs_gs T 30 7 2 v1 rfl rfl rfl rfl h1 ?_
  refine fs_vV T 33 rfl rfl rfl rfl rfl rfl (hE.1 _ 7 2 h0) (q_X9_copyFrom (d := d + 2) hE (hE.1 _ 7 2 h0) (hE.1 _ 7 2 h1)) ?_
  intro x3 m3
  refine fs_r T 2 35 [some (.ref v0), some (.ref v1), none] [.ref v1, .ref v0] rfl ?_
  refine fs_gi T 38 7 5 v1 rfl rfl rfl rfl h1 ?_
  refine fs_pi T 41 7 5 v0 rfl rfl rfl rfl h0 ?_
  intro m4
  refine fs_r T 2 43 [some (.ref v0), some (.ref v1), none] [.ref v1, .ref v0] rfl ?_
  refine fs_gi T 46 7 6 v1 rfl rfl rfl rfl h1 ?_
  refine fs_pi T 49 7 6 v0 rfl rfl rfl rfl h0 ?_
  intro m5
  refine fs_r T 2 51 [some (.ref v0), some (.ref v1), none] [.ref v1, .ref v0] rfl ?_
  refine fs_gi T 54 7 7 v1 rfl rfl rfl rfl h1 ?_
  refine fs_pi T 57 7 7 v0 rfl rfl rfl rfl h0 ?_
  intro m6
  refine fs_r T 2 59 [some (.ref v0), some (.ref v1), none] [.ref v1, .ref v0] rfl ?_
  refine fs_gi T 62 7 8 v1 rfl rfl rfl rfl h1 ?_
  refine fs_pi T 65 7 8 v0 rfl rfl rfl rfl h0 ?_
  intro m7
  refine fs_r T 2 67 [some (.ref v0), some (.ref v1), none] [.ref v1, .ref v0] rfl ?_
  refine fs_gi T 70 7 9 v1 rfl rfl rfl rfl h1 ?_
  refine fs_pi T 73 7 9 v0 rfl rfl rfl rfl h0 ?_
  intro m8
  refine fs_r T 2 75 [some (.ref v0), some (.ref v1), some (.int (0 : Int32))] [] rfl ?_
  exact w_X7_copyFrom_75 hE h0 h1 _ _ _)
def f_X7_isCircuit (H : fm_H) (v0 : Nat) (v1 : Int32) (m : fm_M) : Option (Int32 × fm_M) :=
  if v1 < 0 then
    some ((0 : Int32), m)
  else
  if m.1 v0 5 ≤ v1 then
    some ((0 : Int32), m)
  else
  some ((1 : Int32), m)
set_option maxRecDepth 10000 in
theorem q_X7_isCircuit {G : pm_G} {H : fm_H} {d : Nat} {z : fm_Z H} {v0 : Nat} {v1 : Int32} {m : fm_M} (hE : fm_E G H) (h0 : fm_is H v0 7) : fm_cal G H (d + 1) yX7_isCircuit [.ref v0, .int v1] z m fm_rI (f_X7_isCircuit H v0 v1 m) := fm_mth (d := d + 0) mt_X7_isCircuit rfl rfl rfl (fun K => by
  show fm_o fm_rI (f_X7_isCircuit H v0 v1 m) K → fm_V G H (d + 0) RX7 cX7_isCircuit (some (.boolean)) z K 0 [some (.ref v0), some (.int v1)] [] m
  have T : fm_T RX7 cX7_isCircuit tc_X7_isCircuit fr_X7 mr_X7 cr_X7 lr_X7 := ⟨tok_X7, dc_X7_isCircuit⟩
  unfold f_X7_isCircuit
  refine fs_r T 1 1 [some (.ref v0), some (.int v1)] [.int v1] rfl ?_
  refine fs_if_lt T 16 4 rfl rfl rfl (fun _ => ?_) (fun _ => ?_)
  · refine fs_r T 1 17 [some (.ref v0), some (.int v1)] [.int (0 : Int32)] rfl ?_
    exact fs_retc T rfl rfl rfl rfl
  · refine fs_r T 2 6 [some (.ref v0), some (.int v1)] [.ref v0, .int v1] rfl ?_
    refine fs_gi T 9 7 5 v0 rfl rfl rfl rfl h0 ?_
    refine fs_ic_ge T 16 12 rfl rfl rfl (fun _ => ?_) (fun _ => ?_)
    · refine fs_r T 1 17 [some (.ref v0), some (.int v1)] [.int (0 : Int32)] rfl ?_
      exact fs_retc T rfl rfl rfl rfl
    · refine fs_r T 2 17 [some (.ref v0), some (.int v1)] [.int (1 : Int32)] rfl ?_
      exact fs_retc T rfl rfl rfl rfl)
def f_X7_appendNode (H : fm_H) (v0 : Nat) (v1 : Int32) (m : fm_M) : Option (Int32 × fm_M) :=
  fm_bn (f_X2_putSpace H (H.2.1 v0 1) (m.1 (H.2.1 v0 0) 0) v1 m) fun _ m1 =>
  fm_bd (fm_si m1 (H.2.1 v0 0) 0 (m1.1 (H.2.1 v0 0) 0 + (1 : Int32))) fun m2 =>
  some ((m2.1 (H.2.1 v0 0) 0 - (1 : Int32)), m2)
set_option maxRecDepth 10000 in
theorem q_X7_appendNode {G : pm_G} {H : fm_H} {d : Nat} {z : fm_Z H} {v0 : Nat} {v1 : Int32} {m : fm_M} (hE : fm_E G H) (h0 : fm_is H v0 7) : fm_cal G H (d + 2) yX7_appendNode [.ref v0, .int v1] z m fm_rI (f_X7_appendNode H v0 v1 m) := fm_mth (d := d + 1) mt_X7_appendNode rfl rfl rfl (fun K => by
  show fm_o fm_rI (f_X7_appendNode H v0 v1 m) K → fm_V G H (d + 1) RX7 cX7_appendNode (some (.int)) z K 0 [some (.ref v0), some (.int v1)] [] m
  have T : fm_T RX7 cX7_appendNode tc_X7_appendNode fr_X7 mr_X7 cr_X7 lr_X7 := ⟨tok_X7, dc_X7_appendNode⟩
  unfold f_X7_appendNode
  refine fs_r T 1 1 [some (.ref v0), some (.int v1)] [.ref v0] rfl ?_
  refine fs_gs T 4 7 1 v0 rfl rfl rfl rfl h0 ?_
  refine fs_r T 1 5 [some (.ref v0), some (.int v1)] [.ref v0, .ref (H.2.1 v0 1)] rfl ?_
  refine fs_gs T 8 7 0 v0 rfl rfl rfl rfl h0 ?_
  refine fs_gi T 11 4 0 (H.2.1 v0 0) rfl rfl rfl rfl (hE.1 _ 7 0 h0) ?_
  refine fs_r T 1 12 [some (.ref v0), some (.int v1)] [.int v1, .int (m.1 (H.2.1 v0 0) 0), .ref (H.2.1 v0 1)] rfl ?_
  refine fs_vV T 15 rfl rfl rfl rfl rfl rfl (hE.1 _ 7 1 h0) (q_X2_putSpace (d := d) hE (hE.1 _ 7 1 h0)) ?_
  intro x1 m1
  refine fs_r T 1 16 [some (.ref v0), some (.int v1)] [.ref v0] rfl ?_
  refine fs_gs T 19 7 0 v0 rfl rfl rfl rfl h0 ?_
  refine fs_r T 1 20 [some (.ref v0), some (.int v1)] [.ref (H.2.1 v0 0), .ref (H.2.1 v0 0)] rfl ?_
  refine fs_gi T 23 4 0 (H.2.1 v0 0) rfl rfl rfl rfl (hE.1 _ 7 0 h0) ?_
  refine fs_r T 2 25 [some (.ref v0), some (.int v1)] [.int (m1.1 (H.2.1 v0 0) 0 + (1 : Int32)), .ref (H.2.1 v0 0)] rfl ?_
  refine fs_pi T 28 4 0 (H.2.1 v0 0) rfl rfl rfl rfl (hE.1 _ 7 0 h0) ?_
  intro m2
  refine fs_r T 1 29 [some (.ref v0), some (.int v1)] [.ref v0] rfl ?_
  refine fs_gs T 32 7 0 v0 rfl rfl rfl rfl h0 ?_
  refine fs_gi T 35 4 0 (H.2.1 v0 0) rfl rfl rfl rfl (hE.1 _ 7 0 h0) ?_
  refine fs_r T 2 37 [some (.ref v0), some (.int v1)] [.int (m2.1 (H.2.1 v0 0) 0 - (1 : Int32))] rfl ?_
  exact fs_reti T rfl rfl rfl)
def f_X7_putSetting (H : fm_H) (v0 : Nat) (v1 : Int32) (v2 : Int32) (m : fm_M) : Option (Unit × fm_M) :=
  if v1 = 0 then
    fm_bd (fm_si m v0 7 v2) fun m2 =>
    some ((), m2)
  else
  fm_bd (fm_si m v0 8 v2) fun m1 =>
  some ((), m1)
set_option maxRecDepth 10000 in
theorem q_X7_putSetting {G : pm_G} {H : fm_H} {d : Nat} {z : fm_Z H} {v0 : Nat} {v1 : Int32} {v2 : Int32} {m : fm_M} (hE : fm_E G H) (h0 : fm_is H v0 7) : fm_cal G H (d + 1) yX7_putSetting [.ref v0, .int v1, .int v2] z m fm_rV (f_X7_putSetting H v0 v1 v2 m) := fm_mth (d := d + 0) mt_X7_putSetting rfl rfl rfl (fun K => by
  show fm_o fm_rV (f_X7_putSetting H v0 v1 v2 m) K → fm_V G H (d + 0) RX7 cX7_putSetting none z K 0 [some (.ref v0), some (.int v1), some (.int v2)] [] m
  have T : fm_T RX7 cX7_putSetting tc_X7_putSetting fr_X7 mr_X7 cr_X7 lr_X7 := ⟨tok_X7, dc_X7_putSetting⟩
  unfold f_X7_putSetting
  refine fs_r T 1 1 [some (.ref v0), some (.int v1), some (.int v2)] [.int v1] rfl ?_
  refine fs_if_ne T 12 4 rfl rfl rfl (fun _ => ?_) (fun _ => ?_)
  · refine fs_r T 2 6 [some (.ref v0), some (.int v1), some (.int v2)] [.int v2, .ref v0] rfl ?_
    refine fs_pi T 9 7 7 v0 rfl rfl rfl rfl h0 ?_
    intro m2
    refine fs_r T 1 17 [some (.ref v0), some (.int v1), some (.int v2)] [] rfl ?_
    exact fs_retv T rfl rfl rfl
  · refine fs_r T 2 14 [some (.ref v0), some (.int v1), some (.int v2)] [.int v2, .ref v0] rfl ?_
    refine fs_pi T 17 7 8 v0 rfl rfl rfl rfl h0 ?_
    intro m1
    exact fs_retv T rfl rfl rfl)
def f_X7_keepPacket (H : fm_H) (v0 : Nat) (v1 : Int32) (v2 : Int32) (m : fm_M) : Option (Unit × fm_M) :=
  if px_inb v1 (fm_sz H (H.2.1 v0 4)) = true then
    (if fm_isb H (m.2.1 (H.2.1 v0 4) v1.toNatClampNeg) 5 = true then
      if px_inb v2 (fm_sz H (H.2.1 v0 4)) = true then
        (if fm_isb H (m.2.1 (H.2.1 v0 4) v2.toNatClampNeg) 5 = true then
          if px_inb v1 (fm_sz H (H.2.1 v0 4)) = true then
            (fm_bd (fm_sr m (H.2.1 v0 4) v1.toNatClampNeg (m.2.1 (H.2.1 v0 4) v2.toNatClampNeg)) fun m1 =>
            if px_inb v2 (fm_sz H (H.2.1 v0 4)) = true then
              (fm_bd (fm_sr m1 (H.2.1 v0 4) v2.toNatClampNeg (m.2.1 (H.2.1 v0 4) v1.toNatClampNeg)) fun m2 =>
              some ((), m2))
            else none)
          else none
        else none)
      else none
    else none)
  else none
set_option maxRecDepth 10000 in
theorem q_X7_keepPacket {G : pm_G} {H : fm_H} {d : Nat} {z : fm_Z H} {v0 : Nat} {v1 : Int32} {v2 : Int32} {m : fm_M} (hE : fm_E G H) (h0 : fm_is H v0 7) : fm_cal G H (d + 1) yX7_keepPacket [.ref v0, .int v1, .int v2] z m fm_rV (f_X7_keepPacket H v0 v1 v2 m) := fm_mth (d := d + 0) mt_X7_keepPacket rfl rfl rfl (fun K => by
  show fm_o fm_rV (f_X7_keepPacket H v0 v1 v2 m) K → fm_V G H (d + 0) RX7 cX7_keepPacket none z K 0 [some (.ref v0), some (.int v1), some (.int v2), none] [] m
  have T : fm_T RX7 cX7_keepPacket tc_X7_keepPacket fr_X7 mr_X7 cr_X7 lr_X7 := ⟨tok_X7, dc_X7_keepPacket⟩
  unfold f_X7_keepPacket
  refine fs_r T 1 1 [some (.ref v0), some (.int v1), some (.int v2), none] [.ref v0] rfl ?_
  refine fs_gs T 4 7 4 v0 rfl rfl rfl rfl h0 ?_
  refine fs_r T 1 5 [some (.ref v0), some (.int v1), some (.int v2), none] [.int v1, .ref (H.2.1 v0 4)] rfl ?_
  refine fs_aa T 6 (H.2.1 v0 4) 5 rfl rfl (hE.1 _ 7 4 h0) ?_
  intro e1
  refine fs_r T 2 8 [some (.ref v0), some (.int v1), some (.int v2), some (.ref (m.2.1 (H.2.1 v0 4) v1.toNatClampNeg))] [.ref v0] rfl ?_
  refine fs_gs T 11 7 4 v0 rfl rfl rfl rfl h0 ?_
  refine fs_r T 2 13 [some (.ref v0), some (.int v1), some (.int v2), some (.ref (m.2.1 (H.2.1 v0 4) v1.toNatClampNeg))] [.ref v0, .int v1, .ref (H.2.1 v0 4)] rfl ?_
  refine fs_gs T 16 7 4 v0 rfl rfl rfl rfl h0 ?_
  refine fs_r T 1 17 [some (.ref v0), some (.int v1), some (.int v2), some (.ref (m.2.1 (H.2.1 v0 4) v1.toNatClampNeg))] [.int v2, .ref (H.2.1 v0 4), .int v1, .ref (H.2.1 v0 4)] rfl ?_
  refine fs_aa T 18 (H.2.1 v0 4) 5 rfl rfl (hE.1 _ 7 4 h0) ?_
  intro e2
  refine fs_sa T 19 (H.2.1 v0 4) 5 rfl rfl (hE.1 _ 7 4 h0) e2 rfl ?_
  intro m1
  refine fs_r T 1 20 [some (.ref v0), some (.int v1), some (.int v2), some (.ref (m.2.1 (H.2.1 v0 4) v1.toNatClampNeg))] [.ref v0] rfl ?_
  refine fs_gs T 23 7 4 v0 rfl rfl rfl rfl h0 ?_
  refine fs_r T 2 25 [some (.ref v0), some (.int v1), some (.int v2), some (.ref (m.2.1 (H.2.1 v0 4) v1.toNatClampNeg))] [.ref (m.2.1 (H.2.1 v0 4) v1.toNatClampNeg), .int v2, .ref (H.2.1 v0 4)] rfl ?_
  refine fs_sa T 26 (H.2.1 v0 4) 5 rfl rfl (hE.1 _ 7 4 h0) e1 rfl ?_
  intro m2
  exact fs_retv T rfl rfl rfl)
def f_X7_lose (H : fm_H) (v0 : Nat) (v1 : Nat) (m : fm_M) : Option (Unit × fm_M) :=
  fm_bd (fm_si m (H.2.1 v0 2) 2 (m.1 (H.2.1 v0 2) 2 + (1 : Int32))) fun m1 =>
  fm_bn (f_X7_isCircuit H v0 (m1.1 v1 0) m1) fun x1 m2 =>
  if x1 = 0 then
    some ((), m2)
  else
  if px_inb (m2.1 v1 0) (fm_sz H (H.2.1 v0 3)) = true then
    (if fm_isb H (m2.2.1 (H.2.1 v0 3) (m2.1 v1 0).toNatClampNeg) 0 = true then
      fm_bd (fm_si m2 (m2.2.1 (H.2.1 v0 3) (m2.1 v1 0).toNatClampNeg) 6 (m2.1 (m2.2.1 (H.2.1 v0 3) (m2.1 v1 0).toNatClampNeg) 6 + (1 : Int32))) fun m3 =>
      some ((), m3)
    else none)
  else none
set_option maxRecDepth 10000 in
theorem q_X7_lose {G : pm_G} {H : fm_H} {d : Nat} {z : fm_Z H} {v0 : Nat} {v1 : Nat} {m : fm_M} (hE : fm_E G H) (h0 : fm_is H v0 7) (h1 : fm_is H v1 5) : fm_cal G H (d + 2) yX7_lose [.ref v0, .ref v1] z m fm_rV (f_X7_lose H v0 v1 m) := fm_mth (d := d + 1) mt_X7_lose rfl rfl rfl (fun K => by
  show fm_o fm_rV (f_X7_lose H v0 v1 m) K → fm_V G H (d + 1) RX7 cX7_lose none z K 0 [some (.ref v0), some (.ref v1)] [] m
  have T : fm_T RX7 cX7_lose tc_X7_lose fr_X7 mr_X7 cr_X7 lr_X7 := ⟨tok_X7, dc_X7_lose⟩
  unfold f_X7_lose
  refine fs_r T 1 1 [some (.ref v0), some (.ref v1)] [.ref v0] rfl ?_
  refine fs_gs T 4 7 2 v0 rfl rfl rfl rfl h0 ?_
  refine fs_r T 1 5 [some (.ref v0), some (.ref v1)] [.ref (H.2.1 v0 2), .ref (H.2.1 v0 2)] rfl ?_
  refine fs_gi T 8 9 2 (H.2.1 v0 2) rfl rfl rfl rfl (hE.1 _ 7 2 h0) ?_
  refine fs_r T 2 10 [some (.ref v0), some (.ref v1)] [.int (m.1 (H.2.1 v0 2) 2 + (1 : Int32)), .ref (H.2.1 v0 2)] rfl ?_
  refine fs_pi T 13 9 2 (H.2.1 v0 2) rfl rfl rfl rfl (hE.1 _ 7 2 h0) ?_
  intro m1
  refine fs_r T 2 15 [some (.ref v0), some (.ref v1)] [.ref v1, .ref v0] rfl ?_
  refine fs_gi T 18 5 0 v1 rfl rfl rfl rfl h1 ?_
  refine fs_vI T 21 rfl rfl rfl rfl rfl rfl h0 (q_X7_isCircuit (d := d) hE h0) ?_
  intro x1 m2
  refine fs_if_eq T 42 24 rfl rfl rfl (fun _ => ?_) (fun _ => ?_)
  · exact fs_retv T rfl rfl rfl
  · refine fs_r T 1 25 [some (.ref v0), some (.ref v1)] [.ref v0] rfl ?_
    refine fs_gs T 28 7 3 v0 rfl rfl rfl rfl h0 ?_
    refine fs_r T 1 29 [some (.ref v0), some (.ref v1)] [.ref v1, .ref (H.2.1 v0 3)] rfl ?_
    refine fs_gi T 32 5 0 v1 rfl rfl rfl rfl h1 ?_
    refine fs_aa T 33 (H.2.1 v0 3) 0 rfl rfl (hE.1 _ 7 3 h0) ?_
    intro e1
    refine fs_r T 1 34 [some (.ref v0), some (.ref v1)] [.ref (m2.2.1 (H.2.1 v0 3) (m2.1 v1 0).toNatClampNeg), .ref (m2.2.1 (H.2.1 v0 3) (m2.1 v1 0).toNatClampNeg)] rfl ?_
    refine fs_gi T 37 0 6 (m2.2.1 (H.2.1 v0 3) (m2.1 v1 0).toNatClampNeg) rfl rfl rfl rfl e1 ?_
    refine fs_r T 2 39 [some (.ref v0), some (.ref v1)] [.int (m2.1 (m2.2.1 (H.2.1 v0 3) (m2.1 v1 0).toNatClampNeg) 6 + (1 : Int32)), .ref (m2.2.1 (H.2.1 v0 3) (m2.1 v1 0).toNatClampNeg)] rfl ?_
    refine fs_pi T 42 0 6 (m2.2.1 (H.2.1 v0 3) (m2.1 v1 0).toNatClampNeg) rfl rfl rfl rfl e1 ?_
    intro m3
    exact fs_retv T rfl rfl rfl)
def f_X7_putUp_29 (H : fm_H) (v0 : Nat) (v1 : Int32) (v2 : Int32) : Nat → Int32 → Int32 → fm_M → Option (Unit × fm_M)
  | 0, _, _, _ => none
  | n + 1, v3, v4, m =>
    if m.1 v0 6 ≤ v4 then
      fm_bd (fm_si m v0 6 v3) fun m1 =>
      some ((), m1)
    else
    if v2 = 0 then
      if px_inb v4 (fm_sz H (H.2.1 v0 4)) = true then
        (if fm_isb H (m.2.1 (H.2.1 v0 4) v4.toNatClampNeg) 5 = true then
          if m.1 (m.2.1 (H.2.1 v0 4) v4.toNatClampNeg) 3 = v1 then
            if px_inb v4 (fm_sz H (H.2.1 v0 4)) = true then
              (if fm_isb H (m.2.1 (H.2.1 v0 4) v4.toNatClampNeg) 5 = true then
                fm_bn (f_X7_lose H v0 (m.2.1 (H.2.1 v0 4) v4.toNatClampNeg) m) fun _ m4 =>
                f_X7_putUp_29 H v0 v1 v2 n v3 (v4 + 1) m4
              else none)
            else none
          else
          fm_bn (f_X7_keepPacket H v0 v4 v3 m) fun _ m3 =>
          f_X7_putUp_29 H v0 v1 v2 n (v3 + 1) (v4 + 1) m3
        else none)
      else none
    else
    fm_bn (f_X7_keepPacket H v0 v4 v3 m) fun _ m2 =>
    f_X7_putUp_29 H v0 v1 v2 n (v3 + 1) (v4 + 1) m2
set_option maxRecDepth 10000 in
theorem w_X7_putUp_29 {G : pm_G} {H : fm_H} {d : Nat} {z : fm_Z H} {K : pm_R → fm_M → Prop} (hE : fm_E G H) {v0 : Nat} {v1 : Int32} {v2 : Int32} (h0 : fm_is H v0 7) : ∀ (n : Nat) (v3 : Int32) (v4 : Int32) (m : fm_M), fm_o fm_rV (f_X7_putUp_29 H v0 v1 v2 n v3 v4 m) K → fm_V G H (d + 2) RX7 cX7_putUp none z K 29 [some (.ref v0), some (.int v1), some (.int v2), some (.int v3), some (.int v4)] [] m := by
  have T : fm_T RX7 cX7_putUp tc_X7_putUp fr_X7 mr_X7 cr_X7 lr_X7 := ⟨tok_X7, dc_X7_putUp⟩
  intro n
  induction n with
  | zero =>
    intro v3 v4 m 
    exact fs_none
  | succ n ih =>
    intro v3 v4 m 
    unfold f_X7_putUp_29
    refine fs_r T 2 32 [some (.ref v0), some (.int v1), some (.int v2), some (.int v3), some (.int v4)] [.ref v0, .int v4] rfl ?_
    refine fs_gi T 35 7 6 v0 rfl rfl rfl rfl h0 ?_
    refine fs_ic_ge T 86 38 rfl rfl rfl (fun _ => ?_) (fun _ => ?_)
    · refine fs_r T 2 88 [some (.ref v0), some (.int v1), some (.int v2), some (.int v3), some (.int v4)] [.int v3, .ref v0] rfl ?_
      refine fs_pi T 91 7 6 v0 rfl rfl rfl rfl h0 ?_
      intro m1
      exact fs_retv T rfl rfl rfl
    · refine fs_r T 1 39 [some (.ref v0), some (.int v1), some (.int v2), some (.int v3), some (.int v4)] [.int v2] rfl ?_
      refine fs_if_ne T 70 42 rfl rfl rfl (fun _ => ?_) (fun _ => ?_)
      · refine fs_r T 1 43 [some (.ref v0), some (.int v1), some (.int v2), some (.int v3), some (.int v4)] [.ref v0] rfl ?_
        refine fs_gs T 46 7 4 v0 rfl rfl rfl rfl h0 ?_
        refine fs_r T 1 48 [some (.ref v0), some (.int v1), some (.int v2), some (.int v3), some (.int v4)] [.int v4, .ref (H.2.1 v0 4)] rfl ?_
        refine fs_aa T 49 (H.2.1 v0 4) 5 rfl rfl (hE.1 _ 7 4 h0) ?_
        intro e1
        refine fs_gi T 52 5 3 (m.2.1 (H.2.1 v0 4) v4.toNatClampNeg) rfl rfl rfl rfl e1 ?_
        refine fs_r T 1 53 [some (.ref v0), some (.int v1), some (.int v2), some (.int v3), some (.int v4)] [.int v1, .int (m.1 (m.2.1 (H.2.1 v0 4) v4.toNatClampNeg) 3)] rfl ?_
        refine fs_ic_ne T 70 56 rfl rfl rfl (fun _ => ?_) (fun _ => ?_)
        · refine fs_r T 2 58 [some (.ref v0), some (.int v1), some (.int v2), some (.int v3), some (.int v4)] [.ref v0, .ref v0] rfl ?_
          refine fs_gs T 61 7 4 v0 rfl rfl rfl rfl h0 ?_
          refine fs_r T 1 63 [some (.ref v0), some (.int v1), some (.int v2), some (.int v3), some (.int v4)] [.int v4, .ref (H.2.1 v0 4), .ref v0] rfl ?_
          refine fs_aa T 64 (H.2.1 v0 4) 5 rfl rfl (hE.1 _ 7 4 h0) ?_
          intro e2
          refine fs_vV T 67 rfl rfl rfl rfl rfl rfl h0 (q_X7_lose (d := d) hE h0 e2) ?_
          intro x3 m4
          refine fs_r T 3 29 [some (.ref v0), some (.int v1), some (.int v2), some (.int v3), some (.int (v4 + 1))] [] rfl ?_
          exact ih _ _ _
        · refine fs_r T 3 74 [some (.ref v0), some (.int v1), some (.int v2), some (.int v3), some (.int v4)] [.int v3, .int v4, .ref v0] rfl ?_
          refine fs_vV T 77 rfl rfl rfl rfl rfl rfl h0 (q_X7_keepPacket (d := d + 1) hE h0) ?_
          intro x2 m3
          refine fs_r T 3 29 [some (.ref v0), some (.int v1), some (.int v2), some (.int (v3 + 1)), some (.int (v4 + 1))] [] rfl ?_
          exact ih _ _ _
      · refine fs_r T 3 74 [some (.ref v0), some (.int v1), some (.int v2), some (.int v3), some (.int v4)] [.int v3, .int v4, .ref v0] rfl ?_
        refine fs_vV T 77 rfl rfl rfl rfl rfl rfl h0 (q_X7_keepPacket (d := d + 1) hE h0) ?_
        intro x1 m2
        refine fs_r T 3 29 [some (.ref v0), some (.int v1), some (.int v2), some (.int (v3 + 1)), some (.int (v4 + 1))] [] rfl ?_
        exact ih _ _ _
def f_X7_putUp (H : fm_H) (v0 : Nat) (v1 : Int32) (v2 : Int32) (m : fm_M) : Option (Unit × fm_M) :=
  fm_bn (f_X4_isLink H (H.2.1 v0 0) v1 m) fun x1 m1 =>
  if x1 = 0 then
    f_X7_putUp_29 H v0 v1 v2 fm_N (0 : Int32) (0 : Int32) m1
  else
  if px_inb v1 (fm_sz H (H.2.1 (H.2.1 v0 0) 2)) = true then
    (if fm_isb H (m1.2.1 (H.2.1 (H.2.1 v0 0) 2) v1.toNatClampNeg) 3 = true then
      if fm_b01 v2 = true then
        fm_bd (fm_si m1 (m1.2.1 (H.2.1 (H.2.1 v0 0) 2) v1.toNatClampNeg) 4 v2) fun m2 =>
        f_X7_putUp_29 H v0 v1 v2 fm_N (0 : Int32) (0 : Int32) m2
      else none
    else none)
  else none
set_option maxRecDepth 10000 in
theorem q_X7_putUp {G : pm_G} {H : fm_H} {d : Nat} {z : fm_Z H} {v0 : Nat} {v1 : Int32} {v2 : Int32} {m : fm_M} (hE : fm_E G H) (h0 : fm_is H v0 7) : fm_cal G H (d + 3) yX7_putUp [.ref v0, .int v1, .int v2] z m fm_rV (f_X7_putUp H v0 v1 v2 m) := fm_mth (d := d + 2) mt_X7_putUp rfl rfl rfl (fun K => by
  show fm_o fm_rV (f_X7_putUp H v0 v1 v2 m) K → fm_V G H (d + 2) RX7 cX7_putUp none z K 0 [some (.ref v0), some (.int v1), some (.int v2), none, none] [] m
  have T : fm_T RX7 cX7_putUp tc_X7_putUp fr_X7 mr_X7 cr_X7 lr_X7 := ⟨tok_X7, dc_X7_putUp⟩
  unfold f_X7_putUp
  refine fs_r T 1 1 [some (.ref v0), some (.int v1), some (.int v2), none, none] [.ref v0] rfl ?_
  refine fs_gs T 4 7 0 v0 rfl rfl rfl rfl h0 ?_
  refine fs_r T 1 5 [some (.ref v0), some (.int v1), some (.int v2), none, none] [.int v1, .ref (H.2.1 v0 0)] rfl ?_
  refine fs_vI T 8 rfl rfl rfl rfl rfl rfl (hE.1 _ 7 0 h0) (q_X4_isLink (d := d + 1) hE (hE.1 _ 7 0 h0)) ?_
  intro x1 m1
  refine fs_if_eq T 24 11 rfl rfl rfl (fun _ => ?_) (fun _ => ?_)
  · refine fs_r T 4 29 [some (.ref v0), some (.int v1), some (.int v2), some (.int (0 : Int32)), some (.int (0 : Int32))] [] rfl ?_
    exact w_X7_putUp_29 hE h0 _ _ _ _
  · refine fs_r T 1 12 [some (.ref v0), some (.int v1), some (.int v2), none, none] [.ref v0] rfl ?_
    refine fs_gs T 15 7 0 v0 rfl rfl rfl rfl h0 ?_
    refine fs_gs T 18 4 2 (H.2.1 v0 0) rfl rfl rfl rfl (hE.1 _ 7 0 h0) ?_
    refine fs_r T 1 19 [some (.ref v0), some (.int v1), some (.int v2), none, none] [.int v1, .ref (H.2.1 (H.2.1 v0 0) 2)] rfl ?_
    refine fs_aa T 20 (H.2.1 (H.2.1 v0 0) 2) 3 rfl rfl (hE.1 _ 4 2 (hE.1 _ 7 0 h0)) ?_
    intro e3
    refine fs_r T 1 21 [some (.ref v0), some (.int v1), some (.int v2), none, none] [.int v2, .ref (m1.2.1 (H.2.1 (H.2.1 v0 0) 2) v1.toNatClampNeg)] rfl ?_
    refine fs_pz T 24 3 4 (m1.2.1 (H.2.1 (H.2.1 v0 0) 2) v1.toNatClampNeg) rfl rfl rfl rfl e3 ?_
    intro m2
    refine fs_r T 4 29 [some (.ref v0), some (.int v1), some (.int v2), some (.int (0 : Int32)), some (.int (0 : Int32))] [] rfl ?_
    exact w_X7_putUp_29 hE h0 _ _ _ _)
def f_X7_packetsOn_4 (H : fm_H) (v0 : Nat) (v1 : Int32) : Nat → Int32 → Int32 → fm_M → Option (Int32 × fm_M)
  | 0, _, _, _ => none
  | n + 1, v2, v3, m =>
    if m.1 v0 6 ≤ v3 then
      some (v2, m)
    else
    if px_inb v3 (fm_sz H (H.2.1 v0 4)) = true then
      (if fm_isb H (m.2.1 (H.2.1 v0 4) v3.toNatClampNeg) 5 = true then
        if m.1 (m.2.1 (H.2.1 v0 4) v3.toNatClampNeg) 3 = v1 then
          f_X7_packetsOn_4 H v0 v1 n (v2 + 1) (v3 + 1) m
        else
        f_X7_packetsOn_4 H v0 v1 n v2 (v3 + 1) m
      else none)
    else none
set_option maxRecDepth 10000 in
theorem w_X7_packetsOn_4 {G : pm_G} {H : fm_H} {d : Nat} {z : fm_Z H} {K : pm_R → fm_M → Prop} (hE : fm_E G H) {v0 : Nat} {v1 : Int32} (h0 : fm_is H v0 7) : ∀ (n : Nat) (v2 : Int32) (v3 : Int32) (m : fm_M), fm_o fm_rI (f_X7_packetsOn_4 H v0 v1 n v2 v3 m) K → fm_V G H (d + 0) RX7 cX7_packetsOn (some (.int)) z K 4 [some (.ref v0), some (.int v1), some (.int v2), some (.int v3)] [] m := by
  have T : fm_T RX7 cX7_packetsOn tc_X7_packetsOn fr_X7 mr_X7 cr_X7 lr_X7 := ⟨tok_X7, dc_X7_packetsOn⟩
  intro n
  induction n with
  | zero =>
    intro v2 v3 m 
    exact fs_none
  | succ n ih =>
    intro v2 v3 m 
    unfold f_X7_packetsOn_4
    refine fs_r T 2 6 [some (.ref v0), some (.int v1), some (.int v2), some (.int v3)] [.ref v0, .int v3] rfl ?_
    refine fs_gi T 9 7 6 v0 rfl rfl rfl rfl h0 ?_
    refine fs_ic_ge T 34 12 rfl rfl rfl (fun _ => ?_) (fun _ => ?_)
    · refine fs_r T 1 35 [some (.ref v0), some (.int v1), some (.int v2), some (.int v3)] [.int v2] rfl ?_
      exact fs_reti T rfl rfl rfl
    · refine fs_r T 1 13 [some (.ref v0), some (.int v1), some (.int v2), some (.int v3)] [.ref v0] rfl ?_
      refine fs_gs T 16 7 4 v0 rfl rfl rfl rfl h0 ?_
      refine fs_r T 1 17 [some (.ref v0), some (.int v1), some (.int v2), some (.int v3)] [.int v3, .ref (H.2.1 v0 4)] rfl ?_
      refine fs_aa T 18 (H.2.1 v0 4) 5 rfl rfl (hE.1 _ 7 4 h0) ?_
      intro e1
      refine fs_gi T 21 5 3 (m.2.1 (H.2.1 v0 4) v3.toNatClampNeg) rfl rfl rfl rfl e1 ?_
      refine fs_r T 1 22 [some (.ref v0), some (.int v1), some (.int v2), some (.int v3)] [.int v1, .int (m.1 (m.2.1 (H.2.1 v0 4) v3.toNatClampNeg) 3)] rfl ?_
      refine fs_ic_ne T 28 25 rfl rfl rfl (fun _ => ?_) (fun _ => ?_)
      · refine fs_r T 3 4 [some (.ref v0), some (.int v1), some (.int (v2 + 1)), some (.int (v3 + 1))] [] rfl ?_
        exact ih _ _ _
      · refine fs_r T 2 4 [some (.ref v0), some (.int v1), some (.int v2), some (.int (v3 + 1))] [] rfl ?_
        exact ih _ _ _
def f_X7_packetsOn (H : fm_H) (v0 : Nat) (v1 : Int32) (m : fm_M) : Option (Int32 × fm_M) :=
  f_X7_packetsOn_4 H v0 v1 fm_N (0 : Int32) (0 : Int32) m
set_option maxRecDepth 10000 in
theorem q_X7_packetsOn {G : pm_G} {H : fm_H} {d : Nat} {z : fm_Z H} {v0 : Nat} {v1 : Int32} {m : fm_M} (hE : fm_E G H) (h0 : fm_is H v0 7) : fm_cal G H (d + 1) yX7_packetsOn [.ref v0, .int v1] z m fm_rI (f_X7_packetsOn H v0 v1 m) := fm_mth (d := d + 0) mt_X7_packetsOn rfl rfl rfl (fun K => by
  show fm_o fm_rI (f_X7_packetsOn H v0 v1 m) K → fm_V G H (d + 0) RX7 cX7_packetsOn (some (.int)) z K 0 [some (.ref v0), some (.int v1), none, none] [] m
  have T : fm_T RX7 cX7_packetsOn tc_X7_packetsOn fr_X7 mr_X7 cr_X7 lr_X7 := ⟨tok_X7, dc_X7_packetsOn⟩
  unfold f_X7_packetsOn
  refine fs_r T 4 4 [some (.ref v0), some (.int v1), some (.int (0 : Int32)), some (.int (0 : Int32))] [] rfl ?_
  exact w_X7_packetsOn_4 hE h0 _ _ _ _)
def f_X7_packetsOf_4 (H : fm_H) (v0 : Nat) (v1 : Int32) : Nat → Int32 → Int32 → fm_M → Option (Int32 × fm_M)
  | 0, _, _, _ => none
  | n + 1, v2, v3, m =>
    if m.1 v0 6 ≤ v3 then
      some (v2, m)
    else
    if px_inb v3 (fm_sz H (H.2.1 v0 4)) = true then
      (if fm_isb H (m.2.1 (H.2.1 v0 4) v3.toNatClampNeg) 5 = true then
        if m.1 (m.2.1 (H.2.1 v0 4) v3.toNatClampNeg) 0 = v1 then
          f_X7_packetsOf_4 H v0 v1 n (v2 + 1) (v3 + 1) m
        else
        f_X7_packetsOf_4 H v0 v1 n v2 (v3 + 1) m
      else none)
    else none
set_option maxRecDepth 10000 in
theorem w_X7_packetsOf_4 {G : pm_G} {H : fm_H} {d : Nat} {z : fm_Z H} {K : pm_R → fm_M → Prop} (hE : fm_E G H) {v0 : Nat} {v1 : Int32} (h0 : fm_is H v0 7) : ∀ (n : Nat) (v2 : Int32) (v3 : Int32) (m : fm_M), fm_o fm_rI (f_X7_packetsOf_4 H v0 v1 n v2 v3 m) K → fm_V G H (d + 0) RX7 cX7_packetsOf (some (.int)) z K 4 [some (.ref v0), some (.int v1), some (.int v2), some (.int v3)] [] m := by
  have T : fm_T RX7 cX7_packetsOf tc_X7_packetsOf fr_X7 mr_X7 cr_X7 lr_X7 := ⟨tok_X7, dc_X7_packetsOf⟩
  intro n
  induction n with
  | zero =>
    intro v2 v3 m 
    exact fs_none
  | succ n ih =>
    intro v2 v3 m 
    unfold f_X7_packetsOf_4
    refine fs_r T 2 6 [some (.ref v0), some (.int v1), some (.int v2), some (.int v3)] [.ref v0, .int v3] rfl ?_
    refine fs_gi T 9 7 6 v0 rfl rfl rfl rfl h0 ?_
    refine fs_ic_ge T 34 12 rfl rfl rfl (fun _ => ?_) (fun _ => ?_)
    · refine fs_r T 1 35 [some (.ref v0), some (.int v1), some (.int v2), some (.int v3)] [.int v2] rfl ?_
      exact fs_reti T rfl rfl rfl
    · refine fs_r T 1 13 [some (.ref v0), some (.int v1), some (.int v2), some (.int v3)] [.ref v0] rfl ?_
      refine fs_gs T 16 7 4 v0 rfl rfl rfl rfl h0 ?_
      refine fs_r T 1 17 [some (.ref v0), some (.int v1), some (.int v2), some (.int v3)] [.int v3, .ref (H.2.1 v0 4)] rfl ?_
      refine fs_aa T 18 (H.2.1 v0 4) 5 rfl rfl (hE.1 _ 7 4 h0) ?_
      intro e1
      refine fs_gi T 21 5 0 (m.2.1 (H.2.1 v0 4) v3.toNatClampNeg) rfl rfl rfl rfl e1 ?_
      refine fs_r T 1 22 [some (.ref v0), some (.int v1), some (.int v2), some (.int v3)] [.int v1, .int (m.1 (m.2.1 (H.2.1 v0 4) v3.toNatClampNeg) 0)] rfl ?_
      refine fs_ic_ne T 28 25 rfl rfl rfl (fun _ => ?_) (fun _ => ?_)
      · refine fs_r T 3 4 [some (.ref v0), some (.int v1), some (.int (v2 + 1)), some (.int (v3 + 1))] [] rfl ?_
        exact ih _ _ _
      · refine fs_r T 2 4 [some (.ref v0), some (.int v1), some (.int v2), some (.int (v3 + 1))] [] rfl ?_
        exact ih _ _ _
def f_X7_packetsOf (H : fm_H) (v0 : Nat) (v1 : Int32) (m : fm_M) : Option (Int32 × fm_M) :=
  f_X7_packetsOf_4 H v0 v1 fm_N (0 : Int32) (0 : Int32) m
set_option maxRecDepth 10000 in
theorem q_X7_packetsOf {G : pm_G} {H : fm_H} {d : Nat} {z : fm_Z H} {v0 : Nat} {v1 : Int32} {m : fm_M} (hE : fm_E G H) (h0 : fm_is H v0 7) : fm_cal G H (d + 1) yX7_packetsOf [.ref v0, .int v1] z m fm_rI (f_X7_packetsOf H v0 v1 m) := fm_mth (d := d + 0) mt_X7_packetsOf rfl rfl rfl (fun K => by
  show fm_o fm_rI (f_X7_packetsOf H v0 v1 m) K → fm_V G H (d + 0) RX7 cX7_packetsOf (some (.int)) z K 0 [some (.ref v0), some (.int v1), none, none] [] m
  have T : fm_T RX7 cX7_packetsOf tc_X7_packetsOf fr_X7 mr_X7 cr_X7 lr_X7 := ⟨tok_X7, dc_X7_packetsOf⟩
  unfold f_X7_packetsOf
  refine fs_r T 4 4 [some (.ref v0), some (.int v1), some (.int (0 : Int32)), some (.int (0 : Int32))] [] rfl ?_
  exact w_X7_packetsOf_4 hE h0 _ _ _ _)
def f_X7_movedCircuits_4 (H : fm_H) (v0 : Nat) : Nat → Int32 → Int32 → fm_M → Option (Int32 × fm_M)
  | 0, _, _, _ => none
  | n + 1, v1, v2, m =>
    if m.1 v0 5 ≤ v2 then
      some (v1, m)
    else
    if px_inb v2 (fm_sz H (H.2.1 v0 3)) = true then
      (if fm_isb H (m.2.1 (H.2.1 v0 3) v2.toNatClampNeg) 0 = true then
        if m.1 (m.2.1 (H.2.1 v0 3) v2.toNatClampNeg) 2 = 0 then
          f_X7_movedCircuits_4 H v0 n v1 (v2 + 1) m
        else
        f_X7_movedCircuits_4 H v0 n (v1 + 1) (v2 + 1) m
      else none)
    else none
set_option maxRecDepth 10000 in
theorem w_X7_movedCircuits_4 {G : pm_G} {H : fm_H} {d : Nat} {z : fm_Z H} {K : pm_R → fm_M → Prop} (hE : fm_E G H) {v0 : Nat} (h0 : fm_is H v0 7) : ∀ (n : Nat) (v1 : Int32) (v2 : Int32) (m : fm_M), fm_o fm_rI (f_X7_movedCircuits_4 H v0 n v1 v2 m) K → fm_V G H (d + 0) RX7 cX7_movedCircuits (some (.int)) z K 4 [some (.ref v0), some (.int v1), some (.int v2)] [] m := by
  have T : fm_T RX7 cX7_movedCircuits tc_X7_movedCircuits fr_X7 mr_X7 cr_X7 lr_X7 := ⟨tok_X7, dc_X7_movedCircuits⟩
  intro n
  induction n with
  | zero =>
    intro v1 v2 m 
    exact fs_none
  | succ n ih =>
    intro v1 v2 m 
    unfold f_X7_movedCircuits_4
    refine fs_r T 2 6 [some (.ref v0), some (.int v1), some (.int v2)] [.ref v0, .int v2] rfl ?_
    refine fs_gi T 9 7 5 v0 rfl rfl rfl rfl h0 ?_
    refine fs_ic_ge T 33 12 rfl rfl rfl (fun _ => ?_) (fun _ => ?_)
    · refine fs_r T 1 34 [some (.ref v0), some (.int v1), some (.int v2)] [.int v1] rfl ?_
      exact fs_reti T rfl rfl rfl
    · refine fs_r T 1 13 [some (.ref v0), some (.int v1), some (.int v2)] [.ref v0] rfl ?_
      refine fs_gs T 16 7 3 v0 rfl rfl rfl rfl h0 ?_
      refine fs_r T 1 17 [some (.ref v0), some (.int v1), some (.int v2)] [.int v2, .ref (H.2.1 v0 3)] rfl ?_
      refine fs_aa T 18 (H.2.1 v0 3) 0 rfl rfl (hE.1 _ 7 3 h0) ?_
      intro e1
      refine fs_gi T 21 0 2 (m.2.1 (H.2.1 v0 3) v2.toNatClampNeg) rfl rfl rfl rfl e1 ?_
      refine fs_if_eq T 27 24 rfl rfl rfl (fun _ => ?_) (fun _ => ?_)
      · refine fs_r T 2 4 [some (.ref v0), some (.int v1), some (.int (v2 + 1))] [] rfl ?_
        exact ih _ _ _
      · refine fs_r T 3 4 [some (.ref v0), some (.int (v1 + 1)), some (.int (v2 + 1))] [] rfl ?_
        exact ih _ _ _
def f_X7_movedCircuits (H : fm_H) (v0 : Nat) (m : fm_M) : Option (Int32 × fm_M) :=
  f_X7_movedCircuits_4 H v0 fm_N (0 : Int32) (0 : Int32) m
set_option maxRecDepth 10000 in
theorem q_X7_movedCircuits {G : pm_G} {H : fm_H} {d : Nat} {z : fm_Z H} {v0 : Nat} {m : fm_M} (hE : fm_E G H) (h0 : fm_is H v0 7) : fm_cal G H (d + 1) yX7_movedCircuits [.ref v0] z m fm_rI (f_X7_movedCircuits H v0 m) := fm_mth (d := d + 0) mt_X7_movedCircuits rfl rfl rfl (fun K => by
  show fm_o fm_rI (f_X7_movedCircuits H v0 m) K → fm_V G H (d + 0) RX7 cX7_movedCircuits (some (.int)) z K 0 [some (.ref v0), none, none] [] m
  have T : fm_T RX7 cX7_movedCircuits tc_X7_movedCircuits fr_X7 mr_X7 cr_X7 lr_X7 := ⟨tok_X7, dc_X7_movedCircuits⟩
  unfold f_X7_movedCircuits
  refine fs_r T 4 4 [some (.ref v0), some (.int (0 : Int32)), some (.int (0 : Int32))] [] rfl ?_
  exact w_X7_movedCircuits_4 hE h0 _ _ _ _)
def f_X7_isOfNewWay (H : fm_H) (v0 : Nat) (v1 : Int32) (m : fm_M) : Option (Int32 × fm_M) :=
  fm_bn (f_X2_circuitOf H (H.2.1 v0 1) v1 m) fun x1 m1 =>
  fm_bn (f_X7_isCircuit H v0 x1 m1) fun x2 m2 =>
  if x2 = 0 then
    some ((0 : Int32), m2)
  else
  if px_inb x1 (fm_sz H (H.2.1 v0 3)) = true then
    (if fm_isb H (m2.2.1 (H.2.1 v0 3) x1.toNatClampNeg) 0 = true then
      if fm_isb H (m2.2.1 (m2.2.1 (H.2.1 v0 3) x1.toNatClampNeg) 14) 10 = true then
        fm_bn (f_X10_indexOfSlot H (m2.2.1 (m2.2.1 (H.2.1 v0 3) x1.toNatClampNeg) 14) v1 m2) fun x3 m3 =>
        if x3 = (-1 : Int32) then
          some ((0 : Int32), m3)
        else
        some ((1 : Int32), m3)
      else none
    else none)
  else none
set_option maxRecDepth 10000 in
theorem q_X7_isOfNewWay {G : pm_G} {H : fm_H} {d : Nat} {z : fm_Z H} {v0 : Nat} {v1 : Int32} {m : fm_M} (hE : fm_E G H) (h0 : fm_is H v0 7) : fm_cal G H (d + 3) yX7_isOfNewWay [.ref v0, .int v1] z m fm_rI (f_X7_isOfNewWay H v0 v1 m) := fm_mth (d := d + 2) mt_X7_isOfNewWay rfl rfl rfl (fun K => by
  show fm_o fm_rI (f_X7_isOfNewWay H v0 v1 m) K → fm_V G H (d + 2) RX7 cX7_isOfNewWay (some (.boolean)) z K 0 [some (.ref v0), some (.int v1), none] [] m
  have T : fm_T RX7 cX7_isOfNewWay tc_X7_isOfNewWay fr_X7 mr_X7 cr_X7 lr_X7 := ⟨tok_X7, dc_X7_isOfNewWay⟩
  unfold f_X7_isOfNewWay
  refine fs_r T 1 1 [some (.ref v0), some (.int v1), none] [.ref v0] rfl ?_
  refine fs_gs T 4 7 1 v0 rfl rfl rfl rfl h0 ?_
  refine fs_r T 1 5 [some (.ref v0), some (.int v1), none] [.int v1, .ref (H.2.1 v0 1)] rfl ?_
  refine fs_vI T 8 rfl rfl rfl rfl rfl rfl (hE.1 _ 7 1 h0) (q_X2_circuitOf (d := d) hE (hE.1 _ 7 1 h0)) ?_
  intro x1 m1
  refine fs_r T 3 11 [some (.ref v0), some (.int v1), some (.int x1)] [.int x1, .ref v0] rfl ?_
  refine fs_vI T 14 rfl rfl rfl rfl rfl rfl h0 (q_X7_isCircuit (d := d + 1) hE h0) ?_
  intro x2 m2
  refine fs_if_eq T 38 17 rfl rfl rfl (fun _ => ?_) (fun _ => ?_)
  · refine fs_r T 1 39 [some (.ref v0), some (.int v1), some (.int x1)] [.int (0 : Int32)] rfl ?_
    exact fs_retc T rfl rfl rfl rfl
  · refine fs_r T 1 18 [some (.ref v0), some (.int v1), some (.int x1)] [.ref v0] rfl ?_
    refine fs_gs T 21 7 3 v0 rfl rfl rfl rfl h0 ?_
    refine fs_r T 1 22 [some (.ref v0), some (.int v1), some (.int x1)] [.int x1, .ref (H.2.1 v0 3)] rfl ?_
    refine fs_aa T 23 (H.2.1 v0 3) 0 rfl rfl (hE.1 _ 7 3 h0) ?_
    intro e1
    refine fs_gp T 26 0 14 (m2.2.1 (H.2.1 v0 3) x1.toNatClampNeg) 10 rfl rfl rfl rfl e1 ?_
    intro e2
    refine fs_r T 1 27 [some (.ref v0), some (.int v1), some (.int x1)] [.int v1, .ref (m2.2.1 (m2.2.1 (H.2.1 v0 3) x1.toNatClampNeg) 14)] rfl ?_
    refine fs_vI T 30 rfl rfl rfl rfl rfl rfl e2 (q_X10_indexOfSlot (d := d + 1) hE e2) ?_
    intro x3 m3
    refine fs_r T 1 31 [some (.ref v0), some (.int v1), some (.int x1)] [.int (-1 : Int32), .int x3] rfl ?_
    refine fs_ic_eq T 38 34 rfl rfl rfl (fun _ => ?_) (fun _ => ?_)
    · refine fs_r T 1 39 [some (.ref v0), some (.int v1), some (.int x1)] [.int (0 : Int32)] rfl ?_
      exact fs_retc T rfl rfl rfl rfl
    · refine fs_r T 2 39 [some (.ref v0), some (.int v1), some (.int x1)] [.int (1 : Int32)] rfl ?_
      exact fs_retc T rfl rfl rfl rfl)
def f_X7_reservedOnAll_4 (H : fm_H) (v0 : Nat) : Nat → Int32 → Int32 → fm_M → Option (Int32 × fm_M)
  | 0, _, _, _ => none
  | n + 1, v1, v2, m =>
    if m.1 (H.2.1 v0 0) 1 ≤ v2 then
      some (v1, m)
    else
    fm_bn (f_X7_reservedOn H v0 v2 (-1 : Int32) m) fun x1 m1 =>
    f_X7_reservedOnAll_4 H v0 n (v1 + x1) (v2 + 1) m1
set_option maxRecDepth 10000 in
theorem w_X7_reservedOnAll_4 {G : pm_G} {H : fm_H} {d : Nat} {z : fm_Z H} {K : pm_R → fm_M → Prop} (hE : fm_E G H) {v0 : Nat} (h0 : fm_is H v0 7) : ∀ (n : Nat) (v1 : Int32) (v2 : Int32) (m : fm_M), fm_o fm_rI (f_X7_reservedOnAll_4 H v0 n v1 v2 m) K → fm_V G H (d + 2) RX7 cX7_reservedOnAll (some (.int)) z K 4 [some (.ref v0), some (.int v1), some (.int v2)] [] m := by
  have T : fm_T RX7 cX7_reservedOnAll tc_X7_reservedOnAll fr_X7 mr_X7 cr_X7 lr_X7 := ⟨tok_X7, dc_X7_reservedOnAll⟩
  intro n
  induction n with
  | zero =>
    intro v1 v2 m 
    exact fs_none
  | succ n ih =>
    intro v1 v2 m 
    unfold f_X7_reservedOnAll_4
    refine fs_r T 2 6 [some (.ref v0), some (.int v1), some (.int v2)] [.ref v0, .int v2] rfl ?_
    refine fs_gs T 9 7 0 v0 rfl rfl rfl rfl h0 ?_
    refine fs_gi T 12 4 1 (H.2.1 v0 0) rfl rfl rfl rfl (hE.1 _ 7 0 h0) ?_
    refine fs_ic_ge T 30 15 rfl rfl rfl (fun _ => ?_) (fun _ => ?_)
    · refine fs_r T 1 31 [some (.ref v0), some (.int v1), some (.int v2)] [.int v1] rfl ?_
      exact fs_reti T rfl rfl rfl
    · refine fs_r T 4 19 [some (.ref v0), some (.int v1), some (.int v2)] [.int (-1 : Int32), .int v2, .ref v0, .int v1] rfl ?_
      refine fs_vI T 22 rfl rfl rfl rfl rfl rfl h0 (q_X7_reservedOn (d := d) hE h0) ?_
      intro x1 m1
      refine fs_r T 4 4 [some (.ref v0), some (.int (v1 + x1)), some (.int (v2 + 1))] [] rfl ?_
      exact ih _ _ _
def f_X7_reservedOnAll (H : fm_H) (v0 : Nat) (m : fm_M) : Option (Int32 × fm_M) :=
  f_X7_reservedOnAll_4 H v0 fm_N (0 : Int32) (0 : Int32) m
set_option maxRecDepth 10000 in
theorem q_X7_reservedOnAll {G : pm_G} {H : fm_H} {d : Nat} {z : fm_Z H} {v0 : Nat} {m : fm_M} (hE : fm_E G H) (h0 : fm_is H v0 7) : fm_cal G H (d + 3) yX7_reservedOnAll [.ref v0] z m fm_rI (f_X7_reservedOnAll H v0 m) := fm_mth (d := d + 2) mt_X7_reservedOnAll rfl rfl rfl (fun K => by
  show fm_o fm_rI (f_X7_reservedOnAll H v0 m) K → fm_V G H (d + 2) RX7 cX7_reservedOnAll (some (.int)) z K 0 [some (.ref v0), none, none] [] m
  have T : fm_T RX7 cX7_reservedOnAll tc_X7_reservedOnAll fr_X7 mr_X7 cr_X7 lr_X7 := ⟨tok_X7, dc_X7_reservedOnAll⟩
  unfold f_X7_reservedOnAll
  refine fs_r T 4 4 [some (.ref v0), some (.int (0 : Int32)), some (.int (0 : Int32))] [] rfl ?_
  exact w_X7_reservedOnAll_4 hE h0 _ _ _ _)
