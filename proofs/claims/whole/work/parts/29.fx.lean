/-! functions out of the code -/
def f_X4_linksAt_4 (H : fm_H) (v0 : Nat) (v1 : Int32) : Nat → Int32 → Int32 → fm_M → Option (Int32 × fm_M)
  | 0, _, _, _ => none
  | n + 1, v2, v3, m =>
    if m.1 v0 0 ≤ v3 then
      some (v2, m)
    else
    fm_bn (f_X4_linkBetween H v0 v1 v3 m) fun x1 m1 =>
    if x1 = (-1 : Int32) then
      f_X4_linksAt_4 H v0 v1 n v2 (v3 + 1) m1
    else
    f_X4_linksAt_4 H v0 v1 n (v2 + 1) (v3 + 1) m1
set_option maxRecDepth 10000 in
theorem w_X4_linksAt_4 {G : pm_G} {H : fm_H} {d : Nat} {z : Option Nat × Nat × Nat} {K : pm_R → fm_M → Prop} (hE : fm_E G H) {v0 : Nat} {v1 : Int32} (h0 : fm_is H v0 4) : ∀ (n : Nat) (v2 : Int32) (v3 : Int32) (m : fm_M), fm_o fm_rI (f_X4_linksAt_4 H v0 v1 n v2 v3 m) K → fm_V G H (d + 1) RX4 cX4_linksAt (some (.int)) z K 4 [some (.ref v0), some (.int v1), some (.int v2), some (.int v3)] [] m := by
  have T : fm_T RX4 cX4_linksAt tc_X4_linksAt fr_X4 mr_X4 cr_X4 lr_X4 := ⟨tok_X4, dc_X4_linksAt⟩
  intro n
  induction n with
  | zero =>
    intro v2 v3 m 
    exact fs_none
  | succ n ih =>
    intro v2 v3 m 
    unfold f_X4_linksAt_4
    refine fs_r T 2 6 [some (.ref v0), some (.int v1), some (.int v2), some (.int v3)] [.ref v0, .int v3] rfl ?_
    refine fs_gi T 9 4 0 v0 rfl rfl rfl rfl h0 ?_
    refine fs_ic_ge T 31 12 rfl rfl rfl (fun _ => ?_) (fun _ => ?_)
    · refine fs_r T 1 32 [some (.ref v0), some (.int v1), some (.int v2), some (.int v3)] [.int v2] rfl ?_
      exact fs_reti T rfl rfl rfl
    · refine fs_r T 3 15 [some (.ref v0), some (.int v1), some (.int v2), some (.int v3)] [.int v3, .int v1, .ref v0] rfl ?_
      refine fs_vI T 18 rfl rfl rfl rfl rfl rfl h0 (q_X4_linkBetween (d := d) hE h0) ?_
      intro x1 m1
      refine fs_r T 1 19 [some (.ref v0), some (.int v1), some (.int v2), some (.int v3)] [.int (-1 : Int32), .int x1] rfl ?_
      refine fs_ic_eq T 25 22 rfl rfl rfl (fun _ => ?_) (fun _ => ?_)
      · refine fs_r T 2 4 [some (.ref v0), some (.int v1), some (.int v2), some (.int (v3 + 1))] [] rfl ?_
        exact ih _ _ _
      · refine fs_r T 3 4 [some (.ref v0), some (.int v1), some (.int (v2 + 1)), some (.int (v3 + 1))] [] rfl ?_
        exact ih _ _ _
def f_X4_linksAt (H : fm_H) (v0 : Nat) (v1 : Int32) (m : fm_M) : Option (Int32 × fm_M) :=
  f_X4_linksAt_4 H v0 v1 fm_N (0 : Int32) (0 : Int32) m
set_option maxRecDepth 10000 in
theorem q_X4_linksAt {G : pm_G} {H : fm_H} {d : Nat} {z : Option Nat × Nat × Nat} {v0 : Nat} {v1 : Int32} {m : fm_M} (hE : fm_E G H) (h0 : fm_is H v0 4) : fm_cal G H (d + 2) yX4_linksAt [.ref v0, .int v1] z m fm_rI (f_X4_linksAt H v0 v1 m) := fm_mth (d := d + 1) mt_X4_linksAt rfl rfl rfl (fun K => by
  show fm_o fm_rI (f_X4_linksAt H v0 v1 m) K → fm_V G H (d + 1) RX4 cX4_linksAt (some (.int)) z K 0 [some (.ref v0), some (.int v1), none, none] [] m
  have T : fm_T RX4 cX4_linksAt tc_X4_linksAt fr_X4 mr_X4 cr_X4 lr_X4 := ⟨tok_X4, dc_X4_linksAt⟩
  unfold f_X4_linksAt
  refine fs_r T 4 4 [some (.ref v0), some (.int v1), some (.int (0 : Int32)), some (.int (0 : Int32))] [] rfl ?_
  exact w_X4_linksAt_4 hE h0 _ _ _ _)
def f_X4_delayOf_4 (H : fm_H) (v0 : Nat) (v1 : Nat) : Nat → Int32 → Int32 → fm_M → Option (Int32 × fm_M)
  | 0, _, _, _ => none
  | n + 1, v2, v3, m =>
    if m.1 v1 0 ≤ v3 then
      some (v2, m)
    else
    fm_bn (f_X10_linkAt H v1 v3 m) fun x1 m1 =>
    fm_bn (f_X4_delayOn H v0 x1 m1) fun x2 m2 =>
    f_X4_delayOf_4 H v0 v1 n (v2 + x2) (v3 + 1) m2
set_option maxRecDepth 10000 in
theorem w_X4_delayOf_4 {G : pm_G} {H : fm_H} {d : Nat} {z : Option Nat × Nat × Nat} {K : pm_R → fm_M → Prop} (hE : fm_E G H) {v0 : Nat} {v1 : Nat} (h0 : fm_is H v0 4) (h1 : fm_is H v1 10) : ∀ (n : Nat) (v2 : Int32) (v3 : Int32) (m : fm_M), fm_o fm_rI (f_X4_delayOf_4 H v0 v1 n v2 v3 m) K → fm_V G H (d + 2) RX4 cX4_delayOf (some (.int)) z K 4 [some (.ref v0), some (.ref v1), some (.int v2), some (.int v3)] [] m := by
  have T : fm_T RX4 cX4_delayOf tc_X4_delayOf fr_X4 mr_X4 cr_X4 lr_X4 := ⟨tok_X4, dc_X4_delayOf⟩
  intro n
  induction n with
  | zero =>
    intro v2 v3 m 
    exact fs_none
  | succ n ih =>
    intro v2 v3 m 
    unfold f_X4_delayOf_4
    refine fs_r T 2 6 [some (.ref v0), some (.ref v1), some (.int v2), some (.int v3)] [.ref v1, .int v3] rfl ?_
    refine fs_gi T 9 10 0 v1 rfl rfl rfl rfl h1 ?_
    refine fs_ic_ge T 30 12 rfl rfl rfl (fun _ => ?_) (fun _ => ?_)
    · refine fs_r T 1 31 [some (.ref v0), some (.ref v1), some (.int v2), some (.int v3)] [.int v2] rfl ?_
      exact fs_reti T rfl rfl rfl
    · refine fs_r T 4 16 [some (.ref v0), some (.ref v1), some (.int v2), some (.int v3)] [.int v3, .ref v1, .ref v0, .int v2] rfl ?_
      refine fs_vI T 19 rfl rfl rfl rfl rfl rfl h1 (q_X10_linkAt (d := d + 1) hE h1) ?_
      intro x1 m1
      refine fs_vI T 22 rfl rfl rfl rfl rfl rfl h0 (q_X4_delayOn (d := d) hE h0) ?_
      intro x2 m2
      refine fs_r T 4 4 [some (.ref v0), some (.ref v1), some (.int (v2 + x2)), some (.int (v3 + 1))] [] rfl ?_
      exact ih _ _ _
def f_X4_delayOf (H : fm_H) (v0 : Nat) (v1 : Nat) (m : fm_M) : Option (Int32 × fm_M) :=
  f_X4_delayOf_4 H v0 v1 fm_N (0 : Int32) (1 : Int32) m
set_option maxRecDepth 10000 in
theorem q_X4_delayOf {G : pm_G} {H : fm_H} {d : Nat} {z : Option Nat × Nat × Nat} {v0 : Nat} {v1 : Nat} {m : fm_M} (hE : fm_E G H) (h0 : fm_is H v0 4) (h1 : fm_is H v1 10) : fm_cal G H (d + 3) yX4_delayOf [.ref v0, .ref v1] z m fm_rI (f_X4_delayOf H v0 v1 m) := fm_mth (d := d + 2) mt_X4_delayOf rfl rfl rfl (fun K => by
  show fm_o fm_rI (f_X4_delayOf H v0 v1 m) K → fm_V G H (d + 2) RX4 cX4_delayOf (some (.int)) z K 0 [some (.ref v0), some (.ref v1), none, none] [] m
  have T : fm_T RX4 cX4_delayOf tc_X4_delayOf fr_X4 mr_X4 cr_X4 lr_X4 := ⟨tok_X4, dc_X4_delayOf⟩
  unfold f_X4_delayOf
  refine fs_r T 4 4 [some (.ref v0), some (.ref v1), some (.int (0 : Int32)), some (.int (1 : Int32))] [] rfl ?_
  exact w_X4_delayOf_4 hE h0 h1 _ _ _ _)
def f_X4_allCapacities_4 (H : fm_H) (v0 : Nat) : Nat → Int32 → Int32 → fm_M → Option (Int32 × fm_M)
  | 0, _, _, _ => none
  | n + 1, v1, v2, m =>
    if m.1 v0 1 ≤ v2 then
      some (v1, m)
    else
    if px_inb v2 (fm_sz H (H.2.1 v0 2)) = true then
      (if fm_isb H (m.2.1 (H.2.1 v0 2) v2.toNatClampNeg) 3 = true then
        f_X4_allCapacities_4 H v0 n (v1 + m.1 (m.2.1 (H.2.1 v0 2) v2.toNatClampNeg) 2) (v2 + 1) m
      else none)
    else none
set_option maxRecDepth 10000 in
theorem w_X4_allCapacities_4 {G : pm_G} {H : fm_H} {d : Nat} {z : Option Nat × Nat × Nat} {K : pm_R → fm_M → Prop} (hE : fm_E G H) {v0 : Nat} (h0 : fm_is H v0 4) : ∀ (n : Nat) (v1 : Int32) (v2 : Int32) (m : fm_M), fm_o fm_rI (f_X4_allCapacities_4 H v0 n v1 v2 m) K → fm_V G H (d + 0) RX4 cX4_allCapacities (some (.int)) z K 4 [some (.ref v0), some (.int v1), some (.int v2)] [] m := by
  have T : fm_T RX4 cX4_allCapacities tc_X4_allCapacities fr_X4 mr_X4 cr_X4 lr_X4 := ⟨tok_X4, dc_X4_allCapacities⟩
  intro n
  induction n with
  | zero =>
    intro v1 v2 m 
    exact fs_none
  | succ n ih =>
    intro v1 v2 m 
    unfold f_X4_allCapacities_4
    refine fs_r T 2 6 [some (.ref v0), some (.int v1), some (.int v2)] [.ref v0, .int v2] rfl ?_
    refine fs_gi T 9 4 1 v0 rfl rfl rfl rfl h0 ?_
    refine fs_ic_ge T 30 12 rfl rfl rfl (fun _ => ?_) (fun _ => ?_)
    · refine fs_r T 1 31 [some (.ref v0), some (.int v1), some (.int v2)] [.int v1] rfl ?_
      exact fs_reti T rfl rfl rfl
    · refine fs_r T 2 14 [some (.ref v0), some (.int v1), some (.int v2)] [.ref v0, .int v1] rfl ?_
      refine fs_gs T 17 4 2 v0 rfl rfl rfl rfl h0 ?_
      refine fs_r T 1 18 [some (.ref v0), some (.int v1), some (.int v2)] [.int v2, .ref (H.2.1 v0 2), .int v1] rfl ?_
      refine fs_aa T 19 (H.2.1 v0 2) 3 rfl rfl (hE.1 _ 4 2 h0) ?_
      intro e1
      refine fs_gi T 22 3 2 (m.2.1 (H.2.1 v0 2) v2.toNatClampNeg) rfl rfl rfl rfl e1 ?_
      refine fs_r T 4 4 [some (.ref v0), some (.int (v1 + m.1 (m.2.1 (H.2.1 v0 2) v2.toNatClampNeg) 2)), some (.int (v2 + 1))] [] rfl ?_
      exact ih _ _ _
def f_X4_allCapacities (H : fm_H) (v0 : Nat) (m : fm_M) : Option (Int32 × fm_M) :=
  f_X4_allCapacities_4 H v0 fm_N (0 : Int32) (0 : Int32) m
set_option maxRecDepth 10000 in
theorem q_X4_allCapacities {G : pm_G} {H : fm_H} {d : Nat} {z : Option Nat × Nat × Nat} {v0 : Nat} {m : fm_M} (hE : fm_E G H) (h0 : fm_is H v0 4) : fm_cal G H (d + 1) yX4_allCapacities [.ref v0] z m fm_rI (f_X4_allCapacities H v0 m) := fm_mth (d := d + 0) mt_X4_allCapacities rfl rfl rfl (fun K => by
  show fm_o fm_rI (f_X4_allCapacities H v0 m) K → fm_V G H (d + 0) RX4 cX4_allCapacities (some (.int)) z K 0 [some (.ref v0), none, none] [] m
  have T : fm_T RX4 cX4_allCapacities tc_X4_allCapacities fr_X4 mr_X4 cr_X4 lr_X4 := ⟨tok_X4, dc_X4_allCapacities⟩
  unfold f_X4_allCapacities
  refine fs_r T 4 4 [some (.ref v0), some (.int (0 : Int32)), some (.int (0 : Int32))] [] rfl ?_
  exact w_X4_allCapacities_4 hE h0 _ _ _ _)
def f_X5_copyFrom (H : fm_H) (v0 : Nat) (v1 : Nat) (m : fm_M) : Option (Unit × fm_M) :=
  fm_bd (fm_si m v0 0 (m.1 v1 0)) fun m1 =>
  fm_bd (fm_si m1 v0 1 (m1.1 v1 1)) fun m2 =>
  fm_bd (fm_si m2 v0 2 (m2.1 v1 2)) fun m3 =>
  fm_bd (fm_si m3 v0 3 (m3.1 v1 3)) fun m4 =>
  fm_bd (fm_si m4 v0 4 (m4.1 v1 4)) fun m5 =>
  fm_bd (fm_si m5 v0 5 (m5.1 v1 5)) fun m6 =>
  fm_bd (fm_si m6 v0 6 (m6.1 v1 6)) fun m7 =>
  some ((), m7)
set_option maxRecDepth 10000 in
theorem q_X5_copyFrom {G : pm_G} {H : fm_H} {d : Nat} {z : Option Nat × Nat × Nat} {v0 : Nat} {v1 : Nat} {m : fm_M} (hE : fm_E G H) (h0 : fm_is H v0 5) (h1 : fm_is H v1 5) : fm_cal G H (d + 1) yX5_copyFrom [.ref v0, .ref v1] z m fm_rV (f_X5_copyFrom H v0 v1 m) := fm_mth (d := d + 0) mt_X5_copyFrom rfl rfl rfl (fun K => by
  show fm_o fm_rV (f_X5_copyFrom H v0 v1 m) K → fm_V G H (d + 0) RX5 cX5_copyFrom none z K 0 [some (.ref v0), some (.ref v1)] [] m
  have T : fm_T RX5 cX5_copyFrom tc_X5_copyFrom fr_X5 mr_X5 cr_X5 lr_X5 := ⟨tok_X5, dc_X5_copyFrom⟩
  unfold f_X5_copyFrom
  refine fs_r T 2 2 [some (.ref v0), some (.ref v1)] [.ref v1, .ref v0] rfl ?_
  refine fs_gi T 5 5 0 v1 rfl rfl rfl rfl h1 ?_
  refine fs_pi T 8 5 0 v0 rfl rfl rfl rfl h0 ?_
  intro m1
  refine fs_r T 2 10 [some (.ref v0), some (.ref v1)] [.ref v1, .ref v0] rfl ?_
  refine fs_gi T 13 5 1 v1 rfl rfl rfl rfl h1 ?_
  refine fs_pi T 16 5 1 v0 rfl rfl rfl rfl h0 ?_
  intro m2
  refine fs_r T 2 18 [some (.ref v0), some (.ref v1)] [.ref v1, .ref v0] rfl ?_
  refine fs_gi T 21 5 2 v1 rfl rfl rfl rfl h1 ?_
  refine fs_pi T 24 5 2 v0 rfl rfl rfl rfl h0 ?_
  intro m3
  refine fs_r T 2 26 [some (.ref v0), some (.ref v1)] [.ref v1, .ref v0] rfl ?_
  refine fs_gi T 29 5 3 v1 rfl rfl rfl rfl h1 ?_
  refine fs_pi T 32 5 3 v0 rfl rfl rfl rfl h0 ?_
  intro m4
  refine fs_r T 2 34 [some (.ref v0), some (.ref v1)] [.ref v1, .ref v0] rfl ?_
  refine fs_gi T 37 5 4 v1 rfl rfl rfl rfl h1 ?_
  refine fs_pi T 40 5 4 v0 rfl rfl rfl rfl h0 ?_
  intro m5
  refine fs_r T 2 42 [some (.ref v0), some (.ref v1)] [.ref v1, .ref v0] rfl ?_
  refine fs_gi T 45 5 5 v1 rfl rfl rfl rfl h1 ?_
  refine fs_pi T 48 5 5 v0 rfl rfl rfl rfl h0 ?_
  intro m6
  refine fs_r T 2 50 [some (.ref v0), some (.ref v1)] [.ref v1, .ref v0] rfl ?_
  refine fs_gi T 53 5 6 v1 rfl rfl rfl rfl h1 ?_
  refine fs_pi T 56 5 6 v0 rfl rfl rfl rfl h0 ?_
  intro m7
  exact fs_retv T rfl rfl rfl)
def f_X10_slotAt (H : fm_H) (v0 : Nat) (v1 : Int32) (m : fm_M) : Option (Int32 × fm_M) :=
  if v1 < 0 then
    some ((-1 : Int32), m)
  else
  if m.1 v0 0 ≤ v1 then
    some ((-1 : Int32), m)
  else
  if px_inb v1 (fm_sz H (H.2.1 v0 3)) = true then
    some (m.1 (H.2.1 v0 3) v1.toNatClampNeg, m)
  else none
set_option maxRecDepth 10000 in
theorem q_X10_slotAt {G : pm_G} {H : fm_H} {d : Nat} {z : Option Nat × Nat × Nat} {v0 : Nat} {v1 : Int32} {m : fm_M} (hE : fm_E G H) (h0 : fm_is H v0 10) : fm_cal G H (d + 1) yX10_slotAt [.ref v0, .int v1] z m fm_rI (f_X10_slotAt H v0 v1 m) := fm_mth (d := d + 0) mt_X10_slotAt rfl rfl rfl (fun K => by
  show fm_o fm_rI (f_X10_slotAt H v0 v1 m) K → fm_V G H (d + 0) RX10 cX10_slotAt (some (.int)) z K 0 [some (.ref v0), some (.int v1)] [] m
  have T : fm_T RX10 cX10_slotAt tc_X10_slotAt fr_X10 mr_X10 cr_X10 lr_X10 := ⟨tok_X10, dc_X10_slotAt⟩
  unfold f_X10_slotAt
  refine fs_r T 1 1 [some (.ref v0), some (.int v1)] [.int v1] rfl ?_
  refine fs_if_lt T 21 4 rfl rfl rfl (fun _ => ?_) (fun _ => ?_)
  · refine fs_r T 1 22 [some (.ref v0), some (.int v1)] [.int (-1 : Int32)] rfl ?_
    exact fs_reti T rfl rfl rfl
  · refine fs_r T 2 6 [some (.ref v0), some (.int v1)] [.ref v0, .int v1] rfl ?_
    refine fs_gi T 9 10 0 v0 rfl rfl rfl rfl h0 ?_
    refine fs_ic_ge T 21 12 rfl rfl rfl (fun _ => ?_) (fun _ => ?_)
    · refine fs_r T 1 22 [some (.ref v0), some (.int v1)] [.int (-1 : Int32)] rfl ?_
      exact fs_reti T rfl rfl rfl
    · refine fs_r T 1 13 [some (.ref v0), some (.int v1)] [.ref v0] rfl ?_
      refine fs_gs T 16 10 3 v0 rfl rfl rfl rfl h0 ?_
      refine fs_r T 1 17 [some (.ref v0), some (.int v1)] [.int v1, .ref (H.2.1 v0 3)] rfl ?_
      refine fs_ai T 18 (H.2.1 v0 3) rfl rfl (hE.1 _ 10 3 h0) ?_
      refine fs_r T 1 22 [some (.ref v0), some (.int v1)] [.int (m.1 (H.2.1 v0 3) v1.toNatClampNeg)] rfl ?_
      exact fs_reti T rfl rfl rfl)
def f_X5_putOnLinkTo (H : fm_H) (v0 : Nat) (v1 : Nat) (v2 : Int32) (v3 : Nat) (m : fm_M) : Option (Unit × fm_M) :=
  fm_bn (f_X10_linkAt H v1 v2 m) fun x1 m1 =>
  fm_bd (fm_si m1 v0 3 x1) fun m2 =>
  fm_bn (f_X10_nodeAt H v1 v2 m2) fun x2 m3 =>
  fm_bd (fm_si m3 v0 4 x2) fun m4 =>
  fm_bn (f_X10_slotAt H v1 v2 m4) fun x3 m5 =>
  fm_bd (fm_si m5 v0 5 x3) fun m6 =>
  fm_bn (f_X4_delayOn H v3 (m6.1 v0 3) m6) fun x4 m7 =>
  fm_bd (fm_si m7 v0 6 x4) fun m8 =>
  some ((), m8)
set_option maxRecDepth 10000 in
theorem q_X5_putOnLinkTo {G : pm_G} {H : fm_H} {d : Nat} {z : Option Nat × Nat × Nat} {v0 : Nat} {v1 : Nat} {v2 : Int32} {v3 : Nat} {m : fm_M} (hE : fm_E G H) (h0 : fm_is H v0 5) (h1 : fm_is H v1 10) (h3 : fm_is H v3 4) : fm_cal G H (d + 3) yX5_putOnLinkTo [.ref v0, .ref v1, .int v2, .ref v3] z m fm_rV (f_X5_putOnLinkTo H v0 v1 v2 v3 m) := fm_mth (d := d + 2) mt_X5_putOnLinkTo rfl rfl rfl (fun K => by
  show fm_o fm_rV (f_X5_putOnLinkTo H v0 v1 v2 v3 m) K → fm_V G H (d + 2) RX5 cX5_putOnLinkTo none z K 0 [some (.ref v0), some (.ref v1), some (.int v2), some (.ref v3)] [] m
  have T : fm_T RX5 cX5_putOnLinkTo tc_X5_putOnLinkTo fr_X5 mr_X5 cr_X5 lr_X5 := ⟨tok_X5, dc_X5_putOnLinkTo⟩
  unfold f_X5_putOnLinkTo
  refine fs_r T 3 3 [some (.ref v0), some (.ref v1), some (.int v2), some (.ref v3)] [.int v2, .ref v1, .ref v0] rfl ?_
  refine fs_vI T 6 rfl rfl rfl rfl rfl rfl h1 (q_X10_linkAt (d := d + 1) hE h1) ?_
  intro x1 m1
  refine fs_pi T 9 5 3 v0 rfl rfl rfl rfl h0 ?_
  intro m2
  refine fs_r T 3 12 [some (.ref v0), some (.ref v1), some (.int v2), some (.ref v3)] [.int v2, .ref v1, .ref v0] rfl ?_
  refine fs_vI T 15 rfl rfl rfl rfl rfl rfl h1 (q_X10_nodeAt (d := d + 1) hE h1) ?_
  intro x2 m3
  refine fs_pi T 18 5 4 v0 rfl rfl rfl rfl h0 ?_
  intro m4
  refine fs_r T 3 21 [some (.ref v0), some (.ref v1), some (.int v2), some (.ref v3)] [.int v2, .ref v1, .ref v0] rfl ?_
  refine fs_vI T 24 rfl rfl rfl rfl rfl rfl h1 (q_X10_slotAt (d := d + 1) hE h1) ?_
  intro x3 m5
  refine fs_pi T 27 5 5 v0 rfl rfl rfl rfl h0 ?_
  intro m6
  refine fs_r T 3 30 [some (.ref v0), some (.ref v1), some (.int v2), some (.ref v3)] [.ref v0, .ref v3, .ref v0] rfl ?_
  refine fs_gi T 33 5 3 v0 rfl rfl rfl rfl h0 ?_
  refine fs_vI T 36 rfl rfl rfl rfl rfl rfl h3 (q_X4_delayOn (d := d) hE h3) ?_
  intro x4 m7
  refine fs_pi T 39 5 6 v0 rfl rfl rfl rfl h0 ?_
  intro m8
  exact fs_retv T rfl rfl rfl)
def f_X6_fail (H : fm_H) (v0 : Nat) (v1 : Int32) (m : fm_M) : Option (Unit × fm_M) :=
  if m.1 v0 1 = 0 then
    fm_bd (fm_si m v0 1 v1) fun m1 =>
    fm_bd (fm_si m1 v0 2 (m1.1 (H.2.1 v0 0) 3)) fun m2 =>
    some ((), m2)
  else
  some ((), m)
set_option maxRecDepth 10000 in
theorem q_X6_fail {G : pm_G} {H : fm_H} {d : Nat} {z : Option Nat × Nat × Nat} {v0 : Nat} {v1 : Int32} {m : fm_M} (hE : fm_E G H) (h0 : fm_is H v0 6) : fm_cal G H (d + 1) yX6_fail [.ref v0, .int v1] z m fm_rV (f_X6_fail H v0 v1 m) := fm_mth (d := d + 0) mt_X6_fail rfl rfl rfl (fun K => by
  show fm_o fm_rV (f_X6_fail H v0 v1 m) K → fm_V G H (d + 0) RX6 cX6_fail none z K 0 [some (.ref v0), some (.int v1)] [] m
  have T : fm_T RX6 cX6_fail tc_X6_fail fr_X6 mr_X6 cr_X6 lr_X6 := ⟨tok_X6, dc_X6_fail⟩
  unfold f_X6_fail
  refine fs_r T 1 1 [some (.ref v0), some (.int v1)] [.ref v0] rfl ?_
  refine fs_gi T 4 6 1 v0 rfl rfl rfl rfl h0 ?_
  refine fs_if_ne T 23 7 rfl rfl rfl (fun _ => ?_) (fun _ => ?_)
  · refine fs_r T 2 9 [some (.ref v0), some (.int v1)] [.int v1, .ref v0] rfl ?_
    refine fs_pi T 12 6 1 v0 rfl rfl rfl rfl h0 ?_
    intro m1
    refine fs_r T 2 14 [some (.ref v0), some (.int v1)] [.ref v0, .ref v0] rfl ?_
    refine fs_gs T 17 6 0 v0 rfl rfl rfl rfl h0 ?_
    refine fs_gi T 20 8 3 (H.2.1 v0 0) rfl rfl rfl rfl (hE.1 _ 6 0 h0) ?_
    refine fs_pi T 23 6 2 v0 rfl rfl rfl rfl h0 ?_
    intro m2
    exact fs_retv T rfl rfl rfl
  · exact fs_retv T rfl rfl rfl)
def f_X8_isBlank (H : fm_H) (v0 : Int32) (m : fm_M) : Option (Int32 × fm_M) :=
  if v0 = (32 : Int32) then
    some ((1 : Int32), m)
  else
  if v0 = (10 : Int32) then
    some ((1 : Int32), m)
  else
  some ((0 : Int32), m)
set_option maxRecDepth 10000 in
theorem q_X8_isBlank {G : pm_G} {H : fm_H} {d : Nat} {z : Option Nat × Nat × Nat} {v0 : Int32} {m : fm_M} (hE : fm_E G H) : fm_cal G H (d + 1) yX8_isBlank [.int v0] z m fm_rI (f_X8_isBlank H v0 m) := fm_mth (d := d + 0) mt_X8_isBlank rfl rfl rfl (fun K => by
  show fm_o fm_rI (f_X8_isBlank H v0 m) K → fm_V G H (d + 0) RX8 cX8_isBlank (some (.boolean)) z K 0 [some (.int v0)] [] m
  have T : fm_T RX8 cX8_isBlank tc_X8_isBlank fr_X8 mr_X8 cr_X8 lr_X8 := ⟨tok_X8, dc_X8_isBlank⟩
  unfold f_X8_isBlank
  refine fs_r T 2 3 [some (.int v0)] [.int (32 : Int32), .int v0] rfl ?_
  refine fs_ic_eq T 12 6 rfl rfl rfl (fun _ => ?_) (fun _ => ?_)
  · refine fs_r T 2 17 [some (.int v0)] [.int (1 : Int32)] rfl ?_
    exact fs_retc T rfl rfl rfl rfl
  · refine fs_r T 2 9 [some (.int v0)] [.int (10 : Int32), .int v0] rfl ?_
    refine fs_ic_ne T 16 12 rfl rfl rfl (fun _ => ?_) (fun _ => ?_)
    · refine fs_r T 2 17 [some (.int v0)] [.int (1 : Int32)] rfl ?_
      exact fs_retc T rfl rfl rfl rfl
    · refine fs_r T 1 17 [some (.int v0)] [.int (0 : Int32)] rfl ?_
      exact fs_retc T rfl rfl rfl rfl)
def f_X8_isDigit (H : fm_H) (v0 : Int32) (m : fm_M) : Option (Int32 × fm_M) :=
  if v0 < (48 : Int32) then
    some ((0 : Int32), m)
  else
  if (57 : Int32) < v0 then
    some ((0 : Int32), m)
  else
  some ((1 : Int32), m)
set_option maxRecDepth 10000 in
theorem q_X8_isDigit {G : pm_G} {H : fm_H} {d : Nat} {z : Option Nat × Nat × Nat} {v0 : Int32} {m : fm_M} (hE : fm_E G H) : fm_cal G H (d + 1) yX8_isDigit [.int v0] z m fm_rI (f_X8_isDigit H v0 m) := fm_mth (d := d + 0) mt_X8_isDigit rfl rfl rfl (fun K => by
  show fm_o fm_rI (f_X8_isDigit H v0 m) K → fm_V G H (d + 0) RX8 cX8_isDigit (some (.boolean)) z K 0 [some (.int v0)] [] m
  have T : fm_T RX8 cX8_isDigit tc_X8_isDigit fr_X8 mr_X8 cr_X8 lr_X8 := ⟨tok_X8, dc_X8_isDigit⟩
  unfold f_X8_isDigit
  refine fs_r T 2 3 [some (.int v0)] [.int (48 : Int32), .int v0] rfl ?_
  refine fs_ic_lt T 16 6 rfl rfl rfl (fun _ => ?_) (fun _ => ?_)
  · refine fs_r T 1 17 [some (.int v0)] [.int (0 : Int32)] rfl ?_
    exact fs_retc T rfl rfl rfl rfl
  · refine fs_r T 2 9 [some (.int v0)] [.int (57 : Int32), .int v0] rfl ?_
    refine fs_ic_gt T 16 12 rfl rfl rfl (fun _ => ?_) (fun _ => ?_)
    · refine fs_r T 1 17 [some (.int v0)] [.int (0 : Int32)] rfl ?_
      exact fs_retc T rfl rfl rfl rfl
    · refine fs_r T 2 17 [some (.int v0)] [.int (1 : Int32)] rfl ?_
      exact fs_retc T rfl rfl rfl rfl)
def f_X8_isLetter (H : fm_H) (v0 : Int32) (m : fm_M) : Option (Int32 × fm_M) :=
  if v0 < (97 : Int32) then
    some ((0 : Int32), m)
  else
  if (122 : Int32) < v0 then
    some ((0 : Int32), m)
  else
  some ((1 : Int32), m)
set_option maxRecDepth 10000 in
theorem q_X8_isLetter {G : pm_G} {H : fm_H} {d : Nat} {z : Option Nat × Nat × Nat} {v0 : Int32} {m : fm_M} (hE : fm_E G H) : fm_cal G H (d + 1) yX8_isLetter [.int v0] z m fm_rI (f_X8_isLetter H v0 m) := fm_mth (d := d + 0) mt_X8_isLetter rfl rfl rfl (fun K => by
  show fm_o fm_rI (f_X8_isLetter H v0 m) K → fm_V G H (d + 0) RX8 cX8_isLetter (some (.boolean)) z K 0 [some (.int v0)] [] m
  have T : fm_T RX8 cX8_isLetter tc_X8_isLetter fr_X8 mr_X8 cr_X8 lr_X8 := ⟨tok_X8, dc_X8_isLetter⟩
  unfold f_X8_isLetter
  refine fs_r T 2 3 [some (.int v0)] [.int (97 : Int32), .int v0] rfl ?_
  refine fs_ic_lt T 16 6 rfl rfl rfl (fun _ => ?_) (fun _ => ?_)
  · refine fs_r T 1 17 [some (.int v0)] [.int (0 : Int32)] rfl ?_
    exact fs_retc T rfl rfl rfl rfl
  · refine fs_r T 2 9 [some (.int v0)] [.int (122 : Int32), .int v0] rfl ?_
    refine fs_ic_gt T 16 12 rfl rfl rfl (fun _ => ?_) (fun _ => ?_)
    · refine fs_r T 1 17 [some (.int v0)] [.int (0 : Int32)] rfl ?_
      exact fs_retc T rfl rfl rfl rfl
    · refine fs_r T 2 17 [some (.int v0)] [.int (1 : Int32)] rfl ?_
      exact fs_retc T rfl rfl rfl rfl)
def f_X8_toNext_158 (H : fm_H) (v0 : Nat) : Nat → fm_M → Option (Unit × fm_M)
  | 0, _ => none
  | n + 1, m =>
    if m.1 v0 1 ≤ m.1 v0 5 then
      some ((), m)
    else
    if px_inb (m.1 v0 5) (fm_sz H (H.2.1 v0 0)) = true then
      fm_bn (f_X8_isDigit H (m.1 (H.2.1 v0 0) (m.1 v0 5).toNatClampNeg) m) fun x1 m1 =>
      if x1 = 0 then
        some ((), m1)
      else
      if px_inb (m1.1 v0 5) (fm_sz H (H.2.1 v0 0)) = true then
        fm_bd (fm_si m1 v0 4 (pm_mm false ((m1.1 v0 4 * (10 : Int32)) + (m1.1 (H.2.1 v0 0) (m1.1 v0 5).toNatClampNeg - (48 : Int32))) (1000000 : Int32))) fun m2 =>
        fm_bd (fm_si m2 v0 5 (m2.1 v0 5 + (1 : Int32))) fun m3 =>
        f_X8_toNext_158 H v0 n m3
      else none
    else none
set_option maxRecDepth 10000 in
theorem w_X8_toNext_158 {G : pm_G} {H : fm_H} {d : Nat} {z : Option Nat × Nat × Nat} {K : pm_R → fm_M → Prop} (hE : fm_E G H) {v0 : Nat} (h0 : fm_is H v0 8) : ∀ (n : Nat) (m : fm_M), fm_o fm_rV (f_X8_toNext_158 H v0 n m) K → fm_V G H (d + 1) RX8 cX8_toNext none z K 158 [some (.ref v0)] [] m := by
  have T : fm_T RX8 cX8_toNext tc_X8_toNext fr_X8 mr_X8 cr_X8 lr_X8 := ⟨tok_X8, dc_X8_toNext⟩
  intro n
  induction n with
  | zero =>
    intro  m 
    exact fs_none
  | succ n ih =>
    intro  m 
    unfold f_X8_toNext_158
    refine fs_r T 1 159 [some (.ref v0)] [.ref v0] rfl ?_
    refine fs_gi T 162 8 5 v0 rfl rfl rfl rfl h0 ?_
    refine fs_r T 1 163 [some (.ref v0)] [.ref v0, .int (m.1 v0 5)] rfl ?_
    refine fs_gi T 166 8 1 v0 rfl rfl rfl rfl h0 ?_
    refine fs_ic_ge T 259 169 rfl rfl rfl (fun _ => ?_) (fun _ => ?_)
    · exact fs_retv T rfl rfl rfl
    · refine fs_r T 1 170 [some (.ref v0)] [.ref v0] rfl ?_
      refine fs_gs T 173 8 0 v0 rfl rfl rfl rfl h0 ?_
      refine fs_r T 1 174 [some (.ref v0)] [.ref v0, .ref (H.2.1 v0 0)] rfl ?_
      refine fs_gi T 177 8 5 v0 rfl rfl rfl rfl h0 ?_
      refine fs_ab T 178 (H.2.1 v0 0) rfl rfl (Or.inl rfl) (hE.1 _ 8 0 h0) ?_
      refine fs_sI T 181 rfl rfl rfl rfl rfl rfl rfl (q_X8_isDigit (d := d) hE ) ?_
      intro x1 m1
      refine fs_if_eq T 259 184 rfl rfl rfl (fun _ => ?_) (fun _ => ?_)
      · exact fs_retv T rfl rfl rfl
      · refine fs_r T 2 186 [some (.ref v0)] [.ref v0, .ref v0] rfl ?_
        refine fs_gi T 189 8 4 v0 rfl rfl rfl rfl h0 ?_
        refine fs_r T 3 193 [some (.ref v0)] [.ref v0, .int (m1.1 v0 4 * (10 : Int32)), .ref v0] rfl ?_
        refine fs_gs T 196 8 0 v0 rfl rfl rfl rfl h0 ?_
        refine fs_r T 1 197 [some (.ref v0)] [.ref v0, .ref (H.2.1 v0 0), .int (m1.1 v0 4 * (10 : Int32)), .ref v0] rfl ?_
        refine fs_gi T 200 8 5 v0 rfl rfl rfl rfl h0 ?_
        refine fs_ab T 201 (H.2.1 v0 0) rfl rfl (Or.inl rfl) (hE.1 _ 8 0 h0) ?_
        refine fs_r T 3 205 [some (.ref v0)] [.int ((m1.1 v0 4 * (10 : Int32)) + (m1.1 (H.2.1 v0 0) (m1.1 v0 5).toNatClampNeg - (48 : Int32))), .ref v0] rfl ?_
        refine fs_ldc T 207 rfl rfl rfl ?_
        refine fs_mm T 210 rfl ma_X8_45 rfl rfl ?_
        refine fs_pi T 213 8 4 v0 rfl rfl rfl rfl h0 ?_
        intro m2
        refine fs_r T 2 215 [some (.ref v0)] [.ref v0, .ref v0] rfl ?_
        refine fs_gi T 218 8 5 v0 rfl rfl rfl rfl h0 ?_
        refine fs_r T 2 220 [some (.ref v0)] [.int (m2.1 v0 5 + (1 : Int32)), .ref v0] rfl ?_
        refine fs_pi T 223 8 5 v0 rfl rfl rfl rfl h0 ?_
        intro m3
        refine fs_r T 1 158 [some (.ref v0)] [] rfl ?_
        exact ih _
def f_X8_toNext_94 (H : fm_H) (v0 : Nat) : Nat → fm_M → Option (Unit × fm_M)
  | 0, _ => none
  | n + 1, m =>
    if m.1 v0 1 ≤ m.1 v0 5 then
      some ((), m)
    else
    if px_inb (m.1 v0 5) (fm_sz H (H.2.1 v0 0)) = true then
      fm_bn (f_X8_isLetter H (m.1 (H.2.1 v0 0) (m.1 v0 5).toNatClampNeg) m) fun x1 m1 =>
      if x1 = 0 then
        some ((), m1)
      else
      fm_bd (fm_si m1 v0 5 (m1.1 v0 5 + (1 : Int32))) fun m2 =>
      f_X8_toNext_94 H v0 n m2
    else none
set_option maxRecDepth 10000 in
theorem w_X8_toNext_94 {G : pm_G} {H : fm_H} {d : Nat} {z : Option Nat × Nat × Nat} {K : pm_R → fm_M → Prop} (hE : fm_E G H) {v0 : Nat} (h0 : fm_is H v0 8) : ∀ (n : Nat) (m : fm_M), fm_o fm_rV (f_X8_toNext_94 H v0 n m) K → fm_V G H (d + 1) RX8 cX8_toNext none z K 94 [some (.ref v0)] [] m := by
  have T : fm_T RX8 cX8_toNext tc_X8_toNext fr_X8 mr_X8 cr_X8 lr_X8 := ⟨tok_X8, dc_X8_toNext⟩
  intro n
  induction n with
  | zero =>
    intro  m 
    exact fs_none
  | succ n ih =>
    intro  m 
    unfold f_X8_toNext_94
    refine fs_r T 1 95 [some (.ref v0)] [.ref v0] rfl ?_
    refine fs_gi T 98 8 5 v0 rfl rfl rfl rfl h0 ?_
    refine fs_r T 1 99 [some (.ref v0)] [.ref v0, .int (m.1 v0 5)] rfl ?_
    refine fs_gi T 102 8 1 v0 rfl rfl rfl rfl h0 ?_
    refine fs_ic_ge T 259 105 rfl rfl rfl (fun _ => ?_) (fun _ => ?_)
    · exact fs_retv T rfl rfl rfl
    · refine fs_r T 1 106 [some (.ref v0)] [.ref v0] rfl ?_
      refine fs_gs T 109 8 0 v0 rfl rfl rfl rfl h0 ?_
      refine fs_r T 1 110 [some (.ref v0)] [.ref v0, .ref (H.2.1 v0 0)] rfl ?_
      refine fs_gi T 113 8 5 v0 rfl rfl rfl rfl h0 ?_
      refine fs_ab T 114 (H.2.1 v0 0) rfl rfl (Or.inl rfl) (hE.1 _ 8 0 h0) ?_
      refine fs_sI T 117 rfl rfl rfl rfl rfl rfl rfl (q_X8_isLetter (d := d) hE ) ?_
      intro x1 m1
      refine fs_if_eq T 259 120 rfl rfl rfl (fun _ => ?_) (fun _ => ?_)
      · exact fs_retv T rfl rfl rfl
      · refine fs_r T 2 122 [some (.ref v0)] [.ref v0, .ref v0] rfl ?_
        refine fs_gi T 125 8 5 v0 rfl rfl rfl rfl h0 ?_
        refine fs_r T 2 127 [some (.ref v0)] [.int (m1.1 v0 5 + (1 : Int32)), .ref v0] rfl ?_
        refine fs_pi T 130 8 5 v0 rfl rfl rfl rfl h0 ?_
        intro m2
        refine fs_r T 1 94 [some (.ref v0)] [] rfl ?_
        exact ih _
def f_X8_toNext_47 (H : fm_H) (v0 : Nat) (m : fm_M) : Option (Unit × fm_M) :=
  fm_bd (fm_si m v0 5 (m.1 v0 3)) fun m1 =>
  if m1.1 v0 3 < m1.1 v0 1 then
    if px_inb (m1.1 v0 3) (fm_sz H (H.2.1 v0 0)) = true then
      fm_bn (f_X8_isLetter H (m1.1 (H.2.1 v0 0) (m1.1 v0 3).toNatClampNeg) m1) fun x1 m2 =>
      if x1 = 0 then
        if px_inb (m2.1 v0 3) (fm_sz H (H.2.1 v0 0)) = true then
          fm_bn (f_X8_isDigit H (m2.1 (H.2.1 v0 0) (m2.1 v0 3).toNatClampNeg) m2) fun x2 m3 =>
          if x2 = 0 then
            if px_inb (m3.1 v0 3) (fm_sz H (H.2.1 v0 0)) = true then
              if m3.1 (H.2.1 v0 0) (m3.1 v0 3).toNatClampNeg = (59 : Int32) then
                fm_bd (fm_si m3 v0 2 (3 : Int32)) fun m6 =>
                fm_bd (fm_si m6 v0 5 (m6.1 v0 3 + (1 : Int32))) fun m7 =>
                some ((), m7)
              else
              fm_bd (fm_si m3 v0 2 (4 : Int32)) fun m4 =>
              fm_bd (fm_si m4 v0 5 (m4.1 v0 3 + (1 : Int32))) fun m5 =>
              some ((), m5)
            else none
          else
          fm_bd (fm_si m3 v0 2 (2 : Int32)) fun m8 =>
          fm_bd (fm_si m8 v0 4 (0 : Int32)) fun m9 =>
          f_X8_toNext_158 H v0 fm_N m9
        else none
      else
      fm_bd (fm_si m2 v0 2 (1 : Int32)) fun m10 =>
      f_X8_toNext_94 H v0 fm_N m10
    else none
  else
  fm_bd (fm_si m1 v0 2 (0 : Int32)) fun m11 =>
  some ((), m11)
set_option maxRecDepth 10000 in
theorem w_X8_toNext_47 {G : pm_G} {H : fm_H} {d : Nat} {z : Option Nat × Nat × Nat} {K : pm_R → fm_M → Prop} (hE : fm_E G H) {v0 : Nat} (h0 : fm_is H v0 8) : ∀ (m : fm_M), fm_o fm_rV (f_X8_toNext_47 H v0 m) K → fm_V G H (d + 1) RX8 cX8_toNext none z K 47 [some (.ref v0)] [] m := by
  have T : fm_T RX8 cX8_toNext tc_X8_toNext fr_X8 mr_X8 cr_X8 lr_X8 := ⟨tok_X8, dc_X8_toNext⟩
  intro m
  unfold f_X8_toNext_47
  refine fs_r T 2 49 [some (.ref v0)] [.ref v0, .ref v0] rfl ?_
  refine fs_gi T 52 8 3 v0 rfl rfl rfl rfl h0 ?_
  refine fs_pi T 55 8 5 v0 rfl rfl rfl rfl h0 ?_
  intro m1
  refine fs_r T 1 56 [some (.ref v0)] [.ref v0] rfl ?_
  refine fs_gi T 59 8 3 v0 rfl rfl rfl rfl h0 ?_
  refine fs_r T 1 60 [some (.ref v0)] [.ref v0, .int (m1.1 v0 3)] rfl ?_
  refine fs_gi T 63 8 1 v0 rfl rfl rfl rfl h0 ?_
  refine fs_ic_lt T 74 66 rfl rfl rfl (fun _ => ?_) (fun _ => ?_)
  · refine fs_r T 1 75 [some (.ref v0)] [.ref v0] rfl ?_
    refine fs_gs T 78 8 0 v0 rfl rfl rfl rfl h0 ?_
    refine fs_r T 1 79 [some (.ref v0)] [.ref v0, .ref (H.2.1 v0 0)] rfl ?_
    refine fs_gi T 82 8 3 v0 rfl rfl rfl rfl h0 ?_
    refine fs_ab T 83 (H.2.1 v0 0) rfl rfl (Or.inl rfl) (hE.1 _ 8 0 h0) ?_
    refine fs_sI T 86 rfl rfl rfl rfl rfl rfl rfl (q_X8_isLetter (d := d) hE ) ?_
    intro x1 m2
    refine fs_if_eq T 133 89 rfl rfl rfl (fun _ => ?_) (fun _ => ?_)
    · refine fs_r T 1 134 [some (.ref v0)] [.ref v0] rfl ?_
      refine fs_gs T 137 8 0 v0 rfl rfl rfl rfl h0 ?_
      refine fs_r T 1 138 [some (.ref v0)] [.ref v0, .ref (H.2.1 v0 0)] rfl ?_
      refine fs_gi T 141 8 3 v0 rfl rfl rfl rfl h0 ?_
      refine fs_ab T 142 (H.2.1 v0 0) rfl rfl (Or.inl rfl) (hE.1 _ 8 0 h0) ?_
      refine fs_sI T 145 rfl rfl rfl rfl rfl rfl rfl (q_X8_isDigit (d := d) hE ) ?_
      intro x2 m3
      refine fs_if_eq T 226 148 rfl rfl rfl (fun _ => ?_) (fun _ => ?_)
      · refine fs_r T 2 228 [some (.ref v0)] [.ref v0, .ref v0] rfl ?_
        refine fs_gs T 231 8 0 v0 rfl rfl rfl rfl h0 ?_
        refine fs_r T 1 232 [some (.ref v0)] [.ref v0, .ref (H.2.1 v0 0), .ref v0] rfl ?_
        refine fs_gi T 235 8 3 v0 rfl rfl rfl rfl h0 ?_
        refine fs_ab T 236 (H.2.1 v0 0) rfl rfl (Or.inl rfl) (hE.1 _ 8 0 h0) ?_
        refine fs_r T 1 238 [some (.ref v0)] [.int (59 : Int32), .int (m3.1 (H.2.1 v0 0) (m3.1 v0 3).toNatClampNeg), .ref v0] rfl ?_
        refine fs_ic_ne T 245 241 rfl rfl rfl (fun _ => ?_) (fun _ => ?_)
        · refine fs_r T 2 246 [some (.ref v0)] [.int (3 : Int32), .ref v0] rfl ?_
          refine fs_pi T 249 8 2 v0 rfl rfl rfl rfl h0 ?_
          intro m6
          refine fs_r T 2 251 [some (.ref v0)] [.ref v0, .ref v0] rfl ?_
          refine fs_gi T 254 8 3 v0 rfl rfl rfl rfl h0 ?_
          refine fs_r T 2 256 [some (.ref v0)] [.int (m6.1 v0 3 + (1 : Int32)), .ref v0] rfl ?_
          refine fs_pi T 259 8 5 v0 rfl rfl rfl rfl h0 ?_
          intro m7
          exact fs_retv T rfl rfl rfl
        · refine fs_r T 1 246 [some (.ref v0)] [.int (4 : Int32), .ref v0] rfl ?_
          refine fs_pi T 249 8 2 v0 rfl rfl rfl rfl h0 ?_
          intro m4
          refine fs_r T 2 251 [some (.ref v0)] [.ref v0, .ref v0] rfl ?_
          refine fs_gi T 254 8 3 v0 rfl rfl rfl rfl h0 ?_
          refine fs_r T 2 256 [some (.ref v0)] [.int (m4.1 v0 3 + (1 : Int32)), .ref v0] rfl ?_
          refine fs_pi T 259 8 5 v0 rfl rfl rfl rfl h0 ?_
          intro m5
          exact fs_retv T rfl rfl rfl
      · refine fs_r T 2 150 [some (.ref v0)] [.int (2 : Int32), .ref v0] rfl ?_
        refine fs_pi T 153 8 2 v0 rfl rfl rfl rfl h0 ?_
        intro m8
        refine fs_r T 2 155 [some (.ref v0)] [.int (0 : Int32), .ref v0] rfl ?_
        refine fs_pi T 158 8 4 v0 rfl rfl rfl rfl h0 ?_
        intro m9
        exact w_X8_toNext_158 hE h0 _ _
    · refine fs_r T 2 91 [some (.ref v0)] [.int (1 : Int32), .ref v0] rfl ?_
      refine fs_pi T 94 8 2 v0 rfl rfl rfl rfl h0 ?_
      intro m10
      exact w_X8_toNext_94 hE h0 _ _
  · refine fs_r T 2 68 [some (.ref v0)] [.int (0 : Int32), .ref v0] rfl ?_
    refine fs_pi T 71 8 2 v0 rfl rfl rfl rfl h0 ?_
    intro m11
    refine fs_r T 1 259 [some (.ref v0)] [] rfl ?_
    exact fs_retv T rfl rfl rfl
def f_X8_toNext_8 (H : fm_H) (v0 : Nat) : Nat → fm_M → Option (Unit × fm_M)
  | 0, _ => none
  | n + 1, m =>
    if m.1 v0 1 ≤ m.1 v0 3 then
      f_X8_toNext_47 H v0 m
    else
    if px_inb (m.1 v0 3) (fm_sz H (H.2.1 v0 0)) = true then
      fm_bn (f_X8_isBlank H (m.1 (H.2.1 v0 0) (m.1 v0 3).toNatClampNeg) m) fun x1 m1 =>
      if x1 = 0 then
        f_X8_toNext_47 H v0 m1
      else
      fm_bd (fm_si m1 v0 3 (m1.1 v0 3 + (1 : Int32))) fun m2 =>
      f_X8_toNext_8 H v0 n m2
    else none
set_option maxRecDepth 10000 in
theorem w_X8_toNext_8 {G : pm_G} {H : fm_H} {d : Nat} {z : Option Nat × Nat × Nat} {K : pm_R → fm_M → Prop} (hE : fm_E G H) {v0 : Nat} (h0 : fm_is H v0 8) : ∀ (n : Nat) (m : fm_M), fm_o fm_rV (f_X8_toNext_8 H v0 n m) K → fm_V G H (d + 1) RX8 cX8_toNext none z K 8 [some (.ref v0)] [] m := by
  have T : fm_T RX8 cX8_toNext tc_X8_toNext fr_X8 mr_X8 cr_X8 lr_X8 := ⟨tok_X8, dc_X8_toNext⟩
  intro n
  induction n with
  | zero =>
    intro  m 
    exact fs_none
  | succ n ih =>
    intro  m 
    unfold f_X8_toNext_8
    refine fs_r T 1 9 [some (.ref v0)] [.ref v0] rfl ?_
    refine fs_gi T 12 8 3 v0 rfl rfl rfl rfl h0 ?_
    refine fs_r T 1 13 [some (.ref v0)] [.ref v0, .int (m.1 v0 3)] rfl ?_
    refine fs_gi T 16 8 1 v0 rfl rfl rfl rfl h0 ?_
    refine fs_ic_ge T 47 19 rfl rfl rfl (fun _ => ?_) (fun _ => ?_)
    · exact w_X8_toNext_47 hE h0 _
    · refine fs_r T 1 20 [some (.ref v0)] [.ref v0] rfl ?_
      refine fs_gs T 23 8 0 v0 rfl rfl rfl rfl h0 ?_
      refine fs_r T 1 24 [some (.ref v0)] [.ref v0, .ref (H.2.1 v0 0)] rfl ?_
      refine fs_gi T 27 8 3 v0 rfl rfl rfl rfl h0 ?_
      refine fs_ab T 28 (H.2.1 v0 0) rfl rfl (Or.inl rfl) (hE.1 _ 8 0 h0) ?_
      refine fs_sI T 31 rfl rfl rfl rfl rfl rfl rfl (q_X8_isBlank (d := d) hE ) ?_
      intro x1 m1
      refine fs_if_eq T 47 34 rfl rfl rfl (fun _ => ?_) (fun _ => ?_)
      · exact w_X8_toNext_47 hE h0 _
      · refine fs_r T 2 36 [some (.ref v0)] [.ref v0, .ref v0] rfl ?_
        refine fs_gi T 39 8 3 v0 rfl rfl rfl rfl h0 ?_
        refine fs_r T 2 41 [some (.ref v0)] [.int (m1.1 v0 3 + (1 : Int32)), .ref v0] rfl ?_
        refine fs_pi T 44 8 3 v0 rfl rfl rfl rfl h0 ?_
        intro m2
        refine fs_r T 1 8 [some (.ref v0)] [] rfl ?_
        exact ih _
def f_X8_toNext (H : fm_H) (v0 : Nat) (m : fm_M) : Option (Unit × fm_M) :=
  fm_bd (fm_si m v0 3 (m.1 v0 5)) fun m1 =>
  f_X8_toNext_8 H v0 fm_N m1
set_option maxRecDepth 10000 in
theorem q_X8_toNext {G : pm_G} {H : fm_H} {d : Nat} {z : Option Nat × Nat × Nat} {v0 : Nat} {m : fm_M} (hE : fm_E G H) (h0 : fm_is H v0 8) : fm_cal G H (d + 2) yX8_toNext [.ref v0] z m fm_rV (f_X8_toNext H v0 m) := fm_mth (d := d + 1) mt_X8_toNext rfl rfl rfl (fun K => by
  show fm_o fm_rV (f_X8_toNext H v0 m) K → fm_V G H (d + 1) RX8 cX8_toNext none z K 0 [some (.ref v0)] [] m
  have T : fm_T RX8 cX8_toNext tc_X8_toNext fr_X8 mr_X8 cr_X8 lr_X8 := ⟨tok_X8, dc_X8_toNext⟩
  unfold f_X8_toNext
  refine fs_r T 2 2 [some (.ref v0)] [.ref v0, .ref v0] rfl ?_
  refine fs_gi T 5 8 5 v0 rfl rfl rfl rfl h0 ?_
  refine fs_pi T 8 8 3 v0 rfl rfl rfl rfl h0 ?_
  intro m1
  exact w_X8_toNext_8 hE h0 _ _)
def f_X6_passToken (H : fm_H) (v0 : Nat) (m : fm_M) : Option (Unit × fm_M) :=
  if m.1 v0 1 = 0 then
    fm_bn (f_X8_toNext H (H.2.1 v0 0) m) fun _ m1 =>
    some ((), m1)
  else
  some ((), m)
set_option maxRecDepth 10000 in
theorem q_X6_passToken {G : pm_G} {H : fm_H} {d : Nat} {z : Option Nat × Nat × Nat} {v0 : Nat} {m : fm_M} (hE : fm_E G H) (h0 : fm_is H v0 6) : fm_cal G H (d + 3) yX6_passToken [.ref v0] z m fm_rV (f_X6_passToken H v0 m) := fm_mth (d := d + 2) mt_X6_passToken rfl rfl rfl (fun K => by
  show fm_o fm_rV (f_X6_passToken H v0 m) K → fm_V G H (d + 2) RX6 cX6_passToken none z K 0 [some (.ref v0)] [] m
  have T : fm_T RX6 cX6_passToken tc_X6_passToken fr_X6 mr_X6 cr_X6 lr_X6 := ⟨tok_X6, dc_X6_passToken⟩
  unfold f_X6_passToken
  refine fs_r T 1 1 [some (.ref v0)] [.ref v0] rfl ?_
  refine fs_gi T 4 6 1 v0 rfl rfl rfl rfl h0 ?_
  refine fs_if_ne T 14 7 rfl rfl rfl (fun _ => ?_) (fun _ => ?_)
  · refine fs_r T 1 8 [some (.ref v0)] [.ref v0] rfl ?_
    refine fs_gs T 11 6 0 v0 rfl rfl rfl rfl h0 ?_
    refine fs_vV T 14 rfl rfl rfl rfl rfl rfl (hE.1 _ 6 0 h0) (q_X8_toNext (d := d) hE (hE.1 _ 6 0 h0)) ?_
    intro x1 m1
    exact fs_retv T rfl rfl rfl
  · exact fs_retv T rfl rfl rfl)
def f_X6_passSemicolon (H : fm_H) (v0 : Nat) (m : fm_M) : Option (Unit × fm_M) :=
  if m.1 (H.2.1 v0 0) 2 = (3 : Int32) then
    fm_bn (f_X6_passToken H v0 m) fun _ m1 =>
    some ((), m1)
  else
  fm_bn (f_X6_fail H v0 (1 : Int32) m) fun _ m2 =>
  fm_bn (f_X6_passToken H v0 m2) fun _ m3 =>
  some ((), m3)
set_option maxRecDepth 10000 in
theorem q_X6_passSemicolon {G : pm_G} {H : fm_H} {d : Nat} {z : Option Nat × Nat × Nat} {v0 : Nat} {m : fm_M} (hE : fm_E G H) (h0 : fm_is H v0 6) : fm_cal G H (d + 4) yX6_passSemicolon [.ref v0] z m fm_rV (f_X6_passSemicolon H v0 m) := fm_mth (d := d + 3) mt_X6_passSemicolon rfl rfl rfl (fun K => by
  show fm_o fm_rV (f_X6_passSemicolon H v0 m) K → fm_V G H (d + 3) RX6 cX6_passSemicolon none z K 0 [some (.ref v0)] [] m
  have T : fm_T RX6 cX6_passSemicolon tc_X6_passSemicolon fr_X6 mr_X6 cr_X6 lr_X6 := ⟨tok_X6, dc_X6_passSemicolon⟩
  unfold f_X6_passSemicolon
  refine fs_r T 1 1 [some (.ref v0)] [.ref v0] rfl ?_
  refine fs_gs T 4 6 0 v0 rfl rfl rfl rfl h0 ?_
  refine fs_gi T 7 8 2 (H.2.1 v0 0) rfl rfl rfl rfl (hE.1 _ 6 0 h0) ?_
  refine fs_r T 1 8 [some (.ref v0)] [.int (3 : Int32), .int (m.1 (H.2.1 v0 0) 2)] rfl ?_
  refine fs_ic_eq T 16 11 rfl rfl rfl (fun _ => ?_) (fun _ => ?_)
  · refine fs_r T 1 17 [some (.ref v0)] [.ref v0] rfl ?_
    refine fs_vV T 20 rfl rfl rfl rfl rfl rfl h0 (q_X6_passToken (d := d) hE h0) ?_
    intro x1 m1
    exact fs_retv T rfl rfl rfl
  · refine fs_r T 2 13 [some (.ref v0)] [.int (1 : Int32), .ref v0] rfl ?_
    refine fs_vV T 16 rfl rfl rfl rfl rfl rfl h0 (q_X6_fail (d := d + 2) hE h0) ?_
    intro x2 m2
    refine fs_r T 1 17 [some (.ref v0)] [.ref v0] rfl ?_
    refine fs_vV T 20 rfl rfl rfl rfl rfl rfl h0 (q_X6_passToken (d := d) hE h0) ?_
    intro x3 m3
    exact fs_retv T rfl rfl rfl)
def f_X6_isWayRead (H : fm_H) (v0 : Nat) (v1 : Nat) (m : fm_M) : Option (Int32 × fm_M) :=
  if m.1 v0 1 = 0 then
    if m.1 v1 0 < (2 : Int32) then
      some ((0 : Int32), m)
    else
    if m.1 (H.2.1 v0 0) 2 = (3 : Int32) then
      some ((1 : Int32), m)
    else
    some ((0 : Int32), m)
  else
  some ((1 : Int32), m)
set_option maxRecDepth 10000 in
theorem q_X6_isWayRead {G : pm_G} {H : fm_H} {d : Nat} {z : Option Nat × Nat × Nat} {v0 : Nat} {v1 : Nat} {m : fm_M} (hE : fm_E G H) (h0 : fm_is H v0 6) (h1 : fm_is H v1 10) : fm_cal G H (d + 1) yX6_isWayRead [.ref v0, .ref v1] z m fm_rI (f_X6_isWayRead H v0 v1 m) := fm_mth (d := d + 0) mt_X6_isWayRead rfl rfl rfl (fun K => by
  show fm_o fm_rI (f_X6_isWayRead H v0 v1 m) K → fm_V G H (d + 0) RX6 cX6_isWayRead (some (.boolean)) z K 0 [some (.ref v0), some (.ref v1)] [] m
  have T : fm_T RX6 cX6_isWayRead tc_X6_isWayRead fr_X6 mr_X6 cr_X6 lr_X6 := ⟨tok_X6, dc_X6_isWayRead⟩
  unfold f_X6_isWayRead
  refine fs_r T 1 1 [some (.ref v0), some (.ref v1)] [.ref v0] rfl ?_
  refine fs_gi T 4 6 1 v0 rfl rfl rfl rfl h0 ?_
  refine fs_if_ne T 26 7 rfl rfl rfl (fun _ => ?_) (fun _ => ?_)
  · refine fs_r T 1 8 [some (.ref v0), some (.ref v1)] [.ref v1] rfl ?_
    refine fs_gi T 11 10 0 v1 rfl rfl rfl rfl h1 ?_
    refine fs_r T 1 12 [some (.ref v0), some (.ref v1)] [.int (2 : Int32), .int (m.1 v1 0)] rfl ?_
    refine fs_ic_lt T 30 15 rfl rfl rfl (fun _ => ?_) (fun _ => ?_)
    · refine fs_r T 1 31 [some (.ref v0), some (.ref v1)] [.int (0 : Int32)] rfl ?_
      exact fs_retc T rfl rfl rfl rfl
    · refine fs_r T 1 16 [some (.ref v0), some (.ref v1)] [.ref v0] rfl ?_
      refine fs_gs T 19 6 0 v0 rfl rfl rfl rfl h0 ?_
      refine fs_gi T 22 8 2 (H.2.1 v0 0) rfl rfl rfl rfl (hE.1 _ 6 0 h0) ?_
      refine fs_r T 1 23 [some (.ref v0), some (.ref v1)] [.int (3 : Int32), .int (m.1 (H.2.1 v0 0) 2)] rfl ?_
      refine fs_ic_ne T 30 26 rfl rfl rfl (fun _ => ?_) (fun _ => ?_)
      · refine fs_r T 2 31 [some (.ref v0), some (.ref v1)] [.int (1 : Int32)] rfl ?_
        exact fs_retc T rfl rfl rfl rfl
      · refine fs_r T 1 31 [some (.ref v0), some (.ref v1)] [.int (0 : Int32)] rfl ?_
        exact fs_retc T rfl rfl rfl rfl
  · refine fs_r T 2 31 [some (.ref v0), some (.ref v1)] [.int (1 : Int32)] rfl ?_
    exact fs_retc T rfl rfl rfl rfl)
def f_X6_passFirstWord (H : fm_H) (v0 : Nat) (v1 : Int32) (v2 : Int32) (m : fm_M) : Option (Int32 × fm_M) :=
  if v1 < v2 then
    fm_bn (f_X6_passToken H v0 m) fun _ m1 =>
    if m1.1 v0 1 = 0 then
      some ((1 : Int32), m1)
    else
    some ((0 : Int32), m1)
  else
  fm_bn (f_X6_fail H v0 (3 : Int32) m) fun _ m2 =>
  fm_bn (f_X6_passToken H v0 m2) fun _ m3 =>
  if m3.1 v0 1 = 0 then
    some ((1 : Int32), m3)
  else
  some ((0 : Int32), m3)
set_option maxRecDepth 10000 in
theorem q_X6_passFirstWord {G : pm_G} {H : fm_H} {d : Nat} {z : Option Nat × Nat × Nat} {v0 : Nat} {v1 : Int32} {v2 : Int32} {m : fm_M} (hE : fm_E G H) (h0 : fm_is H v0 6) : fm_cal G H (d + 4) yX6_passFirstWord [.ref v0, .int v1, .int v2] z m fm_rI (f_X6_passFirstWord H v0 v1 v2 m) := fm_mth (d := d + 3) mt_X6_passFirstWord rfl rfl rfl (fun K => by
  show fm_o fm_rI (f_X6_passFirstWord H v0 v1 v2 m) K → fm_V G H (d + 3) RX6 cX6_passFirstWord (some (.boolean)) z K 0 [some (.ref v0), some (.int v1), some (.int v2)] [] m
  have T : fm_T RX6 cX6_passFirstWord tc_X6_passFirstWord fr_X6 mr_X6 cr_X6 lr_X6 := ⟨tok_X6, dc_X6_passFirstWord⟩
  unfold f_X6_passFirstWord
  refine fs_r T 2 2 [some (.ref v0), some (.int v1), some (.int v2)] [.int v2, .int v1] rfl ?_
  refine fs_ic_lt T 10 5 rfl rfl rfl (fun _ => ?_) (fun _ => ?_)
  · refine fs_r T 1 11 [some (.ref v0), some (.int v1), some (.int v2)] [.ref v0] rfl ?_
    refine fs_vV T 14 rfl rfl rfl rfl rfl rfl h0 (q_X6_passToken (d := d) hE h0) ?_
    intro x1 m1
    refine fs_r T 1 15 [some (.ref v0), some (.int v1), some (.int v2)] [.ref v0] rfl ?_
    refine fs_gi T 18 6 1 v0 rfl rfl rfl rfl h0 ?_
    refine fs_if_ne T 25 21 rfl rfl rfl (fun _ => ?_) (fun _ => ?_)
    · refine fs_r T 2 26 [some (.ref v0), some (.int v1), some (.int v2)] [.int (1 : Int32)] rfl ?_
      exact fs_retc T rfl rfl rfl rfl
    · refine fs_r T 1 26 [some (.ref v0), some (.int v1), some (.int v2)] [.int (0 : Int32)] rfl ?_
      exact fs_retc T rfl rfl rfl rfl
  · refine fs_r T 2 7 [some (.ref v0), some (.int v1), some (.int v2)] [.int (3 : Int32), .ref v0] rfl ?_
    refine fs_vV T 10 rfl rfl rfl rfl rfl rfl h0 (q_X6_fail (d := d + 2) hE h0) ?_
    intro x2 m2
    refine fs_r T 1 11 [some (.ref v0), some (.int v1), some (.int v2)] [.ref v0] rfl ?_
    refine fs_vV T 14 rfl rfl rfl rfl rfl rfl h0 (q_X6_passToken (d := d) hE h0) ?_
    intro x3 m3
    refine fs_r T 1 15 [some (.ref v0), some (.int v1), some (.int v2)] [.ref v0] rfl ?_
    refine fs_gi T 18 6 1 v0 rfl rfl rfl rfl h0 ?_
    refine fs_if_ne T 25 21 rfl rfl rfl (fun _ => ?_) (fun _ => ?_)
    · refine fs_r T 2 26 [some (.ref v0), some (.int v1), some (.int v2)] [.int (1 : Int32)] rfl ?_
      exact fs_retc T rfl rfl rfl rfl
    · refine fs_r T 1 26 [some (.ref v0), some (.int v1), some (.int v2)] [.int (0 : Int32)] rfl ?_
      exact fs_retc T rfl rfl rfl rfl)
def f_X11_isOutside (H : fm_H) (v0 : Int32) (v1 : Int32) (v2 : Int32) (m : fm_M) : Option (Int32 × fm_M) :=
  if v0 < v1 then
    some ((1 : Int32), m)
  else
  if v0 ≤ v2 then
    some ((0 : Int32), m)
  else
  some ((1 : Int32), m)
set_option maxRecDepth 10000 in
theorem q_X11_isOutside {G : pm_G} {H : fm_H} {d : Nat} {z : Option Nat × Nat × Nat} {v0 : Int32} {v1 : Int32} {v2 : Int32} {m : fm_M} (hE : fm_E G H) : fm_cal G H (d + 1) yX11_isOutside [.int v0, .int v1, .int v2] z m fm_rI (f_X11_isOutside H v0 v1 v2 m) := fm_mth (d := d + 0) mt_X11_isOutside rfl rfl rfl (fun K => by
  show fm_o fm_rI (f_X11_isOutside H v0 v1 v2 m) K → fm_V G H (d + 0) RX11 cX11_isOutside (some (.boolean)) z K 0 [some (.int v0), some (.int v1), some (.int v2)] [] m
  have T : fm_T RX11 cX11_isOutside tc_X11_isOutside fr_X11 mr_X11 cr_X11 lr_X11 := ⟨tok_X11, dc_X11_isOutside⟩
  unfold f_X11_isOutside
  refine fs_r T 2 2 [some (.int v0), some (.int v1), some (.int v2)] [.int v1, .int v0] rfl ?_
  refine fs_ic_lt T 10 5 rfl rfl rfl (fun _ => ?_) (fun _ => ?_)
  · refine fs_r T 2 15 [some (.int v0), some (.int v1), some (.int v2)] [.int (1 : Int32)] rfl ?_
    exact fs_retc T rfl rfl rfl rfl
  · refine fs_r T 2 7 [some (.int v0), some (.int v1), some (.int v2)] [.int v2, .int v0] rfl ?_
    refine fs_ic_le T 14 10 rfl rfl rfl (fun _ => ?_) (fun _ => ?_)
    · refine fs_r T 1 15 [some (.int v0), some (.int v1), some (.int v2)] [.int (0 : Int32)] rfl ?_
      exact fs_retc T rfl rfl rfl rfl
    · refine fs_r T 2 15 [some (.int v0), some (.int v1), some (.int v2)] [.int (1 : Int32)] rfl ?_
      exact fs_retc T rfl rfl rfl rfl)
def f_X6_checkedNumber_39 (H : fm_H) (v0 : Nat) (m : fm_M) : Option (Int32 × fm_M) :=
  if m.1 v0 1 = 0 then
    some (m.1 (H.2.1 v0 0) 4, m)
  else
  some ((-1 : Int32), m)
set_option maxRecDepth 10000 in
theorem w_X6_checkedNumber_39 {G : pm_G} {H : fm_H} {d : Nat} {z : Option Nat × Nat × Nat} {K : pm_R → fm_M → Prop} (hE : fm_E G H) {v0 : Nat} (h0 : fm_is H v0 6) : ∀ (m : fm_M), fm_o fm_rI (f_X6_checkedNumber_39 H v0 m) K → fm_V G H (d + 1) RX6 cX6_checkedNumber (some (.int)) z K 39 [some (.ref v0), none, none] [] m := by
  have T : fm_T RX6 cX6_checkedNumber tc_X6_checkedNumber fr_X6 mr_X6 cr_X6 lr_X6 := ⟨tok_X6, dc_X6_checkedNumber⟩
  intro m
  unfold f_X6_checkedNumber_39
  refine fs_r T 1 40 [some (.ref v0), none, none] [.ref v0] rfl ?_
  refine fs_gi T 43 6 1 v0 rfl rfl rfl rfl h0 ?_
  refine fs_if_ne T 56 46 rfl rfl rfl (fun _ => ?_) (fun _ => ?_)
  · refine fs_r T 1 47 [some (.ref v0), none, none] [.ref v0] rfl ?_
    refine fs_gs T 50 6 0 v0 rfl rfl rfl rfl h0 ?_
    refine fs_gi T 53 8 4 (H.2.1 v0 0) rfl rfl rfl rfl (hE.1 _ 6 0 h0) ?_
    refine fs_r T 1 57 [some (.ref v0), none, none] [.int (m.1 (H.2.1 v0 0) 4)] rfl ?_
    exact fs_reti T rfl rfl rfl
  · refine fs_r T 1 57 [some (.ref v0), none, none] [.int (-1 : Int32)] rfl ?_
    exact fs_reti T rfl rfl rfl
def f_X6_checkedNumber (H : fm_H) (v0 : Nat) (v1 : Int32) (v2 : Int32) (m : fm_M) : Option (Int32 × fm_M) :=
  if m.1 (H.2.1 v0 0) 2 = (2 : Int32) then
    fm_bn (f_X11_isOutside H (m.1 (H.2.1 v0 0) 4) v1 v2 m) fun x1 m1 =>
    if x1 = 0 then
      f_X6_checkedNumber_39 H v0 m1
    else
    fm_bn (f_X6_fail H v0 (2 : Int32) m1) fun _ m2 =>
    f_X6_checkedNumber_39 H v0 m2
  else
  fm_bn (f_X6_fail H v0 (1 : Int32) m) fun _ m3 =>
  f_X6_checkedNumber_39 H v0 m3
set_option maxRecDepth 10000 in
theorem q_X6_checkedNumber {G : pm_G} {H : fm_H} {d : Nat} {z : Option Nat × Nat × Nat} {v0 : Nat} {v1 : Int32} {v2 : Int32} {m : fm_M} (hE : fm_E G H) (h0 : fm_is H v0 6) : fm_cal G H (d + 2) yX6_checkedNumber [.ref v0, .int v1, .int v2] z m fm_rI (f_X6_checkedNumber H v0 v1 v2 m) := fm_mth (d := d + 1) mt_X6_checkedNumber rfl rfl rfl (fun K => by
  show fm_o fm_rI (f_X6_checkedNumber H v0 v1 v2 m) K → fm_V G H (d + 1) RX6 cX6_checkedNumber (some (.int)) z K 0 [some (.ref v0), some (.int v1), some (.int v2)] [] m
  have T : fm_T RX6 cX6_checkedNumber tc_X6_checkedNumber fr_X6 mr_X6 cr_X6 lr_X6 := ⟨tok_X6, dc_X6_checkedNumber⟩
  unfold f_X6_checkedNumber
  refine fs_r T 1 1 [some (.ref v0), some (.int v1), some (.int v2)] [.ref v0] rfl ?_
  refine fs_gs T 4 6 0 v0 rfl rfl rfl rfl h0 ?_
  refine fs_gi T 7 8 2 (H.2.1 v0 0) rfl rfl rfl rfl (hE.1 _ 6 0 h0) ?_
  refine fs_r T 1 8 [some (.ref v0), some (.int v1), some (.int v2)] [.int (2 : Int32), .int (m.1 (H.2.1 v0 0) 2)] rfl ?_
  refine fs_ic_eq T 19 11 rfl rfl rfl (fun _ => ?_) (fun _ => ?_)
  · refine fs_r T 1 20 [some (.ref v0), some (.int v1), some (.int v2)] [.ref v0] rfl ?_
    refine fs_gs T 23 6 0 v0 rfl rfl rfl rfl h0 ?_
    refine fs_gi T 26 8 4 (H.2.1 v0 0) rfl rfl rfl rfl (hE.1 _ 6 0 h0) ?_
    refine fs_r T 2 28 [some (.ref v0), some (.int v1), some (.int v2)] [.int v2, .int v1, .int (m.1 (H.2.1 v0 0) 4)] rfl ?_
    refine fs_sI T 31 rfl rfl rfl rfl rfl rfl rfl (q_X11_isOutside (d := d) hE ) ?_
    intro x1 m1
    refine fs_if_eq T 39 34 rfl rfl rfl (fun _ => ?_) (fun _ => ?_)
    · refine fs_wk (ls' := [some (.ref v0), none, none]) ⟨rfl, trivial⟩ ?_
      exact w_X6_checkedNumber_39 hE h0 _
    · refine fs_r T 2 36 [some (.ref v0), some (.int v1), some (.int v2)] [.int (2 : Int32), .ref v0] rfl ?_
      refine fs_vV T 39 rfl rfl rfl rfl rfl rfl h0 (q_X6_fail (d := d) hE h0) ?_
      intro x2 m2
      refine fs_wk (ls' := [some (.ref v0), none, none]) ⟨rfl, trivial⟩ ?_
      exact w_X6_checkedNumber_39 hE h0 _
  · refine fs_r T 2 13 [some (.ref v0), some (.int v1), some (.int v2)] [.int (1 : Int32), .ref v0] rfl ?_
    refine fs_vV T 16 rfl rfl rfl rfl rfl rfl h0 (q_X6_fail (d := d) hE h0) ?_
    intro x3 m3
    refine fs_r T 1 39 [some (.ref v0), some (.int v1), some (.int v2)] [] rfl ?_
    refine fs_wk (ls' := [some (.ref v0), none, none]) ⟨rfl, trivial⟩ ?_
    exact w_X6_checkedNumber_39 hE h0 _)
def f_X6_passNumber (H : fm_H) (v0 : Nat) (v1 : Int32) (v2 : Int32) (m : fm_M) : Option (Int32 × fm_M) :=
  fm_bn (f_X6_checkedNumber H v0 v1 v2 m) fun x1 m1 =>
  fm_bn (f_X6_passToken H v0 m1) fun _ m2 =>
  some (x1, m2)
set_option maxRecDepth 10000 in
theorem q_X6_passNumber {G : pm_G} {H : fm_H} {d : Nat} {z : Option Nat × Nat × Nat} {v0 : Nat} {v1 : Int32} {v2 : Int32} {m : fm_M} (hE : fm_E G H) (h0 : fm_is H v0 6) : fm_cal G H (d + 4) yX6_passNumber [.ref v0, .int v1, .int v2] z m fm_rI (f_X6_passNumber H v0 v1 v2 m) := fm_mth (d := d + 3) mt_X6_passNumber rfl rfl rfl (fun K => by
  show fm_o fm_rI (f_X6_passNumber H v0 v1 v2 m) K → fm_V G H (d + 3) RX6 cX6_passNumber (some (.int)) z K 0 [some (.ref v0), some (.int v1), some (.int v2), none] [] m
  have T : fm_T RX6 cX6_passNumber tc_X6_passNumber fr_X6 mr_X6 cr_X6 lr_X6 := ⟨tok_X6, dc_X6_passNumber⟩
  unfold f_X6_passNumber
  refine fs_r T 3 3 [some (.ref v0), some (.int v1), some (.int v2), none] [.int v2, .int v1, .ref v0] rfl ?_
  refine fs_vI T 6 rfl rfl rfl rfl rfl rfl h0 (q_X6_checkedNumber (d := d + 1) hE h0) ?_
  intro x1 m1
  refine fs_r T 2 8 [some (.ref v0), some (.int v1), some (.int v2), some (.int x1)] [.ref v0] rfl ?_
  refine fs_vV T 11 rfl rfl rfl rfl rfl rfl h0 (q_X6_passToken (d := d) hE h0) ?_
  intro x2 m2
  refine fs_r T 1 12 [some (.ref v0), some (.int v1), some (.int v2), some (.int x1)] [.int x1] rfl ?_
  exact fs_reti T rfl rfl rfl)
def f_X10_putSlot (H : fm_H) (v0 : Nat) (v1 : Int32) (v2 : Int32) (m : fm_M) : Option (Unit × fm_M) :=
  if v1 < 0 then
    some ((), m)
  else
  if m.1 v0 0 ≤ v1 then
    some ((), m)
  else
  if px_inb v1 (fm_sz H (H.2.1 v0 3)) = true then
    (fm_bd (fm_si m (H.2.1 v0 3) v1.toNatClampNeg v2) fun m1 =>
    some ((), m1))
  else none
set_option maxRecDepth 10000 in
theorem q_X10_putSlot {G : pm_G} {H : fm_H} {d : Nat} {z : Option Nat × Nat × Nat} {v0 : Nat} {v1 : Int32} {v2 : Int32} {m : fm_M} (hE : fm_E G H) (h0 : fm_is H v0 10) : fm_cal G H (d + 1) yX10_putSlot [.ref v0, .int v1, .int v2] z m fm_rV (f_X10_putSlot H v0 v1 v2 m) := fm_mth (d := d + 0) mt_X10_putSlot rfl rfl rfl (fun K => by
  show fm_o fm_rV (f_X10_putSlot H v0 v1 v2 m) K → fm_V G H (d + 0) RX10 cX10_putSlot none z K 0 [some (.ref v0), some (.int v1), some (.int v2)] [] m
  have T : fm_T RX10 cX10_putSlot tc_X10_putSlot fr_X10 mr_X10 cr_X10 lr_X10 := ⟨tok_X10, dc_X10_putSlot⟩
  unfold f_X10_putSlot
  refine fs_r T 1 1 [some (.ref v0), some (.int v1), some (.int v2)] [.int v1] rfl ?_
  refine fs_if_lt T 19 4 rfl rfl rfl (fun _ => ?_) (fun _ => ?_)
  · exact fs_retv T rfl rfl rfl
  · refine fs_r T 2 6 [some (.ref v0), some (.int v1), some (.int v2)] [.ref v0, .int v1] rfl ?_
    refine fs_gi T 9 10 0 v0 rfl rfl rfl rfl h0 ?_
    refine fs_ic_ge T 19 12 rfl rfl rfl (fun _ => ?_) (fun _ => ?_)
    · exact fs_retv T rfl rfl rfl
    · refine fs_r T 1 13 [some (.ref v0), some (.int v1), some (.int v2)] [.ref v0] rfl ?_
      refine fs_gs T 16 10 3 v0 rfl rfl rfl rfl h0 ?_
      refine fs_r T 2 18 [some (.ref v0), some (.int v1), some (.int v2)] [.int v2, .int v1, .ref (H.2.1 v0 3)] rfl ?_
      refine fs_si T 19 (H.2.1 v0 3) rfl rfl (hE.1 _ 10 3 h0) ?_
      intro m1
      exact fs_retv T rfl rfl rfl)
def f_X6_readWayNode_132 (H : fm_H) (v0 : Nat) (v3 : Int32) (v4 : Nat) (v5 : Int32) (v6 : Int32) (m : fm_M) : Option (Unit × fm_M) :=
  if v6 = (-1 : Int32) then
    fm_bn (f_X6_fail H v0 (5 : Int32) m) fun _ m4 =>
    fm_bn (f_X10_append H v4 v3 v5 m4) fun _ m5 =>
    fm_bn (f_X10_putSlot H v4 (m5.1 v4 0 - (1 : Int32)) v6 m5) fun _ m6 =>
    fm_bn (f_X6_passToken H v0 m6) fun _ m7 =>
    some ((), m7)
  else
  fm_bn (f_X10_append H v4 v3 v5 m) fun _ m1 =>
  fm_bn (f_X10_putSlot H v4 (m1.1 v4 0 - (1 : Int32)) v6 m1) fun _ m2 =>
  fm_bn (f_X6_passToken H v0 m2) fun _ m3 =>
  some ((), m3)
set_option maxRecDepth 10000 in
theorem w_X6_readWayNode_132 {G : pm_G} {H : fm_H} {d : Nat} {z : Option Nat × Nat × Nat} {K : pm_R → fm_M → Prop} (hE : fm_E G H) {v0 : Nat} {v3 : Int32} {v4 : Nat} {v5 : Int32} {v6 : Int32} (h0 : fm_is H v0 6) (h4 : fm_is H v4 10) : ∀ (m : fm_M), fm_o fm_rV (f_X6_readWayNode_132 H v0 v3 v4 v5 v6 m) K → fm_V G H (d + 3) RX6 cX6_readWayNode none z K 132 [some (.ref v0), none, none, some (.int v3), some (.ref v4), some (.int v5), some (.int v6)] [] m := by
  have T : fm_T RX6 cX6_readWayNode tc_X6_readWayNode fr_X6 mr_X6 cr_X6 lr_X6 := ⟨tok_X6, dc_X6_readWayNode⟩
  intro m
  unfold f_X6_readWayNode_132
  refine fs_r T 2 135 [some (.ref v0), none, none, some (.int v3), some (.ref v4), some (.int v5), some (.int v6)] [.int (-1 : Int32), .int v6] rfl ?_
  refine fs_ic_ne T 143 138 rfl rfl rfl (fun _ => ?_) (fun _ => ?_)
  · refine fs_r T 2 140 [some (.ref v0), none, none, some (.int v3), some (.ref v4), some (.int v5), some (.int v6)] [.int (5 : Int32), .ref v0] rfl ?_
    refine fs_vV T 143 rfl rfl rfl rfl rfl rfl h0 (q_X6_fail (d := d + 2) hE h0) ?_
    intro x4 m4
    refine fs_r T 3 148 [some (.ref v0), none, none, some (.int v3), some (.ref v4), some (.int v5), some (.int v6)] [.int v5, .int v3, .ref v4] rfl ?_
    refine fs_vV T 151 rfl rfl rfl rfl rfl rfl h4 (q_X10_append (d := d + 2) hE h4) ?_
    intro x5 m5
    refine fs_r T 2 155 [some (.ref v0), none, none, some (.int v3), some (.ref v4), some (.int v5), some (.int v6)] [.ref v4, .ref v4] rfl ?_
    refine fs_gi T 158 10 0 v4 rfl rfl rfl rfl h4 ?_
    refine fs_r T 3 162 [some (.ref v0), none, none, some (.int v3), some (.ref v4), some (.int v5), some (.int v6)] [.int v6, .int (m5.1 v4 0 - (1 : Int32)), .ref v4] rfl ?_
    refine fs_vV T 165 rfl rfl rfl rfl rfl rfl h4 (q_X10_putSlot (d := d + 2) hE h4) ?_
    intro x6 m6
    refine fs_r T 1 166 [some (.ref v0), none, none, some (.int v3), some (.ref v4), some (.int v5), some (.int v6)] [.ref v0] rfl ?_
    refine fs_vV T 169 rfl rfl rfl rfl rfl rfl h0 (q_X6_passToken (d := d) hE h0) ?_
    intro x7 m7
    exact fs_retv T rfl rfl rfl
  · refine fs_r T 3 148 [some (.ref v0), none, none, some (.int v3), some (.ref v4), some (.int v5), some (.int v6)] [.int v5, .int v3, .ref v4] rfl ?_
    refine fs_vV T 151 rfl rfl rfl rfl rfl rfl h4 (q_X10_append (d := d + 2) hE h4) ?_
    intro x1 m1
    refine fs_r T 2 155 [some (.ref v0), none, none, some (.int v3), some (.ref v4), some (.int v5), some (.int v6)] [.ref v4, .ref v4] rfl ?_
    refine fs_gi T 158 10 0 v4 rfl rfl rfl rfl h4 ?_
    refine fs_r T 3 162 [some (.ref v0), none, none, some (.int v3), some (.ref v4), some (.int v5), some (.int v6)] [.int v6, .int (m1.1 v4 0 - (1 : Int32)), .ref v4] rfl ?_
    refine fs_vV T 165 rfl rfl rfl rfl rfl rfl h4 (q_X10_putSlot (d := d + 2) hE h4) ?_
    intro x2 m2
    refine fs_r T 1 166 [some (.ref v0), none, none, some (.int v3), some (.ref v4), some (.int v5), some (.int v6)] [.ref v0] rfl ?_
    refine fs_vV T 169 rfl rfl rfl rfl rfl rfl h0 (q_X6_passToken (d := d) hE h0) ?_
    intro x3 m3
    exact fs_retv T rfl rfl rfl
def f_X6_readWayNode (H : fm_H) (v0 : Nat) (v1 : Nat) (v2 : Nat) (m : fm_M) : Option (Unit × fm_M) :=
  fm_bn (f_X6_checkedNumber H v0 (0 : Int32) (m.1 (H.2.1 v1 0) 0 - (1 : Int32)) m) fun x1 m1 =>
  if m1.1 v0 1 = 0 then
    if fm_isb H (m1.2.1 v2 13) 10 = true then
      fm_bn (f_X10_lastNode H (m1.2.1 v2 13) m1) fun x2 m2 =>
      fm_bn (f_X4_linkBetween H (H.2.1 v1 0) x2 x1 m2) fun x3 m3 =>
      if m3.1 (m1.2.1 v2 13) 0 < (6 : Int32) then
        fm_bn (f_X10_hasNode H (m1.2.1 v2 13) x1 m3) fun x4 m4 =>
        if x4 = 0 then
          if x3 = (-1 : Int32) then
            fm_bn (f_X6_fail H v0 (4 : Int32) m4) fun _ m9 =>
            f_X6_readWayNode_132 H v0 x1 (m1.2.1 v2 13) x3 (-1 : Int32) m9
          else
          fm_bn (f_X7_hasRoom H v1 x3 (m4.1 v2 0) (-1 : Int32) m4) fun x6 m6 =>
          if x6 = 0 then
            fm_bn (f_X6_fail H v0 (5 : Int32) m6) fun _ m8 =>
            f_X6_readWayNode_132 H v0 x1 (m1.2.1 v2 13) x3 (-1 : Int32) m8
          else
          fm_bn (f_X2_take H (H.2.1 v1 1) (H.2.1 v1 0) x1 (m6.1 v1 5) (m6.1 v1 7) m6) fun x7 m7 =>
          f_X6_readWayNode_132 H v0 x1 (m1.2.1 v2 13) x3 x7 m7
        else
        fm_bn (f_X6_fail H v0 (4 : Int32) m4) fun _ m5 =>
        f_X6_readWayNode_132 H v0 x1 (m1.2.1 v2 13) x3 (-1 : Int32) m5
      else
      fm_bn (f_X6_fail H v0 (3 : Int32) m3) fun _ m10 =>
      f_X6_readWayNode_132 H v0 x1 (m1.2.1 v2 13) x3 (-1 : Int32) m10
    else none
  else
  some ((), m1)
set_option maxRecDepth 10000 in
theorem q_X6_readWayNode {G : pm_G} {H : fm_H} {d : Nat} {z : Option Nat × Nat × Nat} {v0 : Nat} {v1 : Nat} {v2 : Nat} {m : fm_M} (hE : fm_E G H) (h0 : fm_is H v0 6) (h1 : fm_is H v1 7) (h2 : fm_is H v2 0) : fm_cal G H (d + 4) yX6_readWayNode [.ref v0, .ref v1, .ref v2] z m fm_rV (f_X6_readWayNode H v0 v1 v2 m) := fm_mth (d := d + 3) mt_X6_readWayNode rfl rfl rfl (fun K => by
  show fm_o fm_rV (f_X6_readWayNode H v0 v1 v2 m) K → fm_V G H (d + 3) RX6 cX6_readWayNode none z K 0 [some (.ref v0), some (.ref v1), some (.ref v2), none, none, none, none] [] m
  have T : fm_T RX6 cX6_readWayNode tc_X6_readWayNode fr_X6 mr_X6 cr_X6 lr_X6 := ⟨tok_X6, dc_X6_readWayNode⟩
  unfold f_X6_readWayNode
  refine fs_r T 3 3 [some (.ref v0), some (.ref v1), some (.ref v2), none, none, none, none] [.ref v1, .int (0 : Int32), .ref v0] rfl ?_
  refine fs_gs T 6 7 0 v1 rfl rfl rfl rfl h1 ?_
  refine fs_gi T 9 4 0 (H.2.1 v1 0) rfl rfl rfl rfl (hE.1 _ 7 0 h1) ?_
  refine fs_r T 2 11 [some (.ref v0), some (.ref v1), some (.ref v2), none, none, none, none] [.int (m.1 (H.2.1 v1 0) 0 - (1 : Int32)), .int (0 : Int32), .ref v0] rfl ?_
  refine fs_vI T 14 rfl rfl rfl rfl rfl rfl h0 (q_X6_checkedNumber (d := d + 1) hE h0) ?_
  intro x1 m1
  refine fs_r T 2 16 [some (.ref v0), some (.ref v1), some (.ref v2), some (.int x1), none, none, none] [.ref v0] rfl ?_
  refine fs_gi T 19 6 1 v0 rfl rfl rfl rfl h0 ?_
  refine fs_if_eq T 23 22 rfl rfl rfl (fun _ => ?_) (fun _ => ?_)
  · refine fs_r T 1 24 [some (.ref v0), some (.ref v1), some (.ref v2), some (.int x1), none, none, none] [.ref v2] rfl ?_
    refine fs_gp T 27 0 13 v2 10 rfl rfl rfl rfl h2 ?_
    intro e1
    refine fs_r T 2 30 [some (.ref v0), some (.ref v1), some (.ref v2), some (.int x1), some (.ref (m1.2.1 v2 13)), none, none] [.ref v1] rfl ?_
    refine fs_gs T 33 7 0 v1 rfl rfl rfl rfl h1 ?_
    refine fs_r T 1 35 [some (.ref v0), some (.ref v1), some (.ref v2), some (.int x1), some (.ref (m1.2.1 v2 13)), none, none] [.ref (m1.2.1 v2 13), .ref (H.2.1 v1 0)] rfl ?_
    refine fs_vI T 38 rfl rfl rfl rfl rfl rfl e1 (q_X10_lastNode (d := d + 1) hE e1) ?_
    intro x2 m2
    refine fs_r T 1 39 [some (.ref v0), some (.ref v1), some (.ref v2), some (.int x1), some (.ref (m1.2.1 v2 13)), none, none] [.int x1, .int x2, .ref (H.2.1 v1 0)] rfl ?_
    refine fs_vI T 42 rfl rfl rfl rfl rfl rfl (hE.1 _ 7 0 h1) (q_X4_linkBetween (d := d + 2) hE (hE.1 _ 7 0 h1)) ?_
    intro x3 m3
    refine fs_r T 4 49 [some (.ref v0), some (.ref v1), some (.ref v2), some (.int x1), some (.ref (m1.2.1 v2 13)), some (.int x3), some (.int (-1 : Int32))] [.ref (m1.2.1 v2 13)] rfl ?_
    refine fs_gi T 52 10 0 (m1.2.1 v2 13) rfl rfl rfl rfl e1 ?_
    refine fs_r T 1 54 [some (.ref v0), some (.ref v1), some (.ref v2), some (.int x1), some (.ref (m1.2.1 v2 13)), some (.int x3), some (.int (-1 : Int32))] [.int (6 : Int32), .int (m3.1 (m1.2.1 v2 13) 0)] rfl ?_
    refine fs_ic_lt T 65 57 rfl rfl rfl (fun _ => ?_) (fun _ => ?_)
    · refine fs_r T 2 68 [some (.ref v0), some (.ref v1), some (.ref v2), some (.int x1), some (.ref (m1.2.1 v2 13)), some (.int x3), some (.int (-1 : Int32))] [.int x1, .ref (m1.2.1 v2 13)] rfl ?_
      refine fs_vI T 71 rfl rfl rfl rfl rfl rfl e1 (q_X10_hasNode (d := d + 2) hE e1) ?_
      intro x4 m4
      refine fs_if_ne T 80 74 rfl rfl rfl (fun _ => ?_) (fun _ => ?_)
      · refine fs_r T 2 77 [some (.ref v0), some (.ref v1), some (.ref v2), some (.int x1), some (.ref (m1.2.1 v2 13)), some (.int x3), some (.int (-1 : Int32))] [.int (-1 : Int32), .int x3] rfl ?_
        refine fs_ic_ne T 88 80 rfl rfl rfl (fun _ => ?_) (fun _ => ?_)
        · refine fs_r T 2 82 [some (.ref v0), some (.ref v1), some (.ref v2), some (.int x1), some (.ref (m1.2.1 v2 13)), some (.int x3), some (.int (-1 : Int32))] [.int (4 : Int32), .ref v0] rfl ?_
          refine fs_vV T 85 rfl rfl rfl rfl rfl rfl h0 (q_X6_fail (d := d + 2) hE h0) ?_
          intro x9 m9
          refine fs_r T 1 132 [some (.ref v0), some (.ref v1), some (.ref v2), some (.int x1), some (.ref (m1.2.1 v2 13)), some (.int x3), some (.int (-1 : Int32))] [] rfl ?_
          refine fs_wk (ls' := [some (.ref v0), none, none, some (.int x1), some (.ref (m1.2.1 v2 13)), some (.int x3), some (.int (-1 : Int32))]) ⟨rfl, rfl, rfl, rfl, rfl, trivial⟩ ?_
          exact w_X6_readWayNode_132 hE h0 e1 _
        · refine fs_r T 3 92 [some (.ref v0), some (.ref v1), some (.ref v2), some (.int x1), some (.ref (m1.2.1 v2 13)), some (.int x3), some (.int (-1 : Int32))] [.ref v2, .int x3, .ref v1] rfl ?_
          refine fs_gi T 95 0 0 v2 rfl rfl rfl rfl h2 ?_
          refine fs_r T 1 96 [some (.ref v0), some (.ref v1), some (.ref v2), some (.int x1), some (.ref (m1.2.1 v2 13)), some (.int x3), some (.int (-1 : Int32))] [.int (-1 : Int32), .int (m4.1 v2 0), .int x3, .ref v1] rfl ?_
          refine fs_vI T 99 rfl rfl rfl rfl rfl rfl h1 (q_X7_hasRoom (d := d) hE h1) ?_
          intro x6 m6
          refine fs_if_ne T 110 102 rfl rfl rfl (fun _ => ?_) (fun _ => ?_)
          · refine fs_r T 2 104 [some (.ref v0), some (.ref v1), some (.ref v2), some (.int x1), some (.ref (m1.2.1 v2 13)), some (.int x3), some (.int (-1 : Int32))] [.int (5 : Int32), .ref v0] rfl ?_
            refine fs_vV T 107 rfl rfl rfl rfl rfl rfl h0 (q_X6_fail (d := d + 2) hE h0) ?_
            intro x8 m8
            refine fs_r T 1 132 [some (.ref v0), some (.ref v1), some (.ref v2), some (.int x1), some (.ref (m1.2.1 v2 13)), some (.int x3), some (.int (-1 : Int32))] [] rfl ?_
            refine fs_wk (ls' := [some (.ref v0), none, none, some (.int x1), some (.ref (m1.2.1 v2 13)), some (.int x3), some (.int (-1 : Int32))]) ⟨rfl, rfl, rfl, rfl, rfl, trivial⟩ ?_
            exact w_X6_readWayNode_132 hE h0 e1 _
          · refine fs_r T 1 111 [some (.ref v0), some (.ref v1), some (.ref v2), some (.int x1), some (.ref (m1.2.1 v2 13)), some (.int x3), some (.int (-1 : Int32))] [.ref v1] rfl ?_
            refine fs_gs T 114 7 1 v1 rfl rfl rfl rfl h1 ?_
            refine fs_r T 1 115 [some (.ref v0), some (.ref v1), some (.ref v2), some (.int x1), some (.ref (m1.2.1 v2 13)), some (.int x3), some (.int (-1 : Int32))] [.ref v1, .ref (H.2.1 v1 1)] rfl ?_
            refine fs_gs T 118 7 0 v1 rfl rfl rfl rfl h1 ?_
            refine fs_r T 2 120 [some (.ref v0), some (.ref v1), some (.ref v2), some (.int x1), some (.ref (m1.2.1 v2 13)), some (.int x3), some (.int (-1 : Int32))] [.ref v1, .int x1, .ref (H.2.1 v1 0), .ref (H.2.1 v1 1)] rfl ?_
            refine fs_gi T 123 7 5 v1 rfl rfl rfl rfl h1 ?_
            refine fs_r T 1 124 [some (.ref v0), some (.ref v1), some (.ref v2), some (.int x1), some (.ref (m1.2.1 v2 13)), some (.int x3), some (.int (-1 : Int32))] [.ref v1, .int (m6.1 v1 5), .int x1, .ref (H.2.1 v1 0), .ref (H.2.1 v1 1)] rfl ?_
            refine fs_gi T 127 7 7 v1 rfl rfl rfl rfl h1 ?_
            refine fs_vI T 130 rfl rfl rfl rfl rfl rfl (hE.1 _ 7 1 h1) (q_X2_take (d := d) hE (hE.1 _ 7 1 h1) (hE.1 _ 7 0 h1)) ?_
            intro x7 m7
            refine fs_r T 1 132 [some (.ref v0), some (.ref v1), some (.ref v2), some (.int x1), some (.ref (m1.2.1 v2 13)), some (.int x3), some (.int x7)] [] rfl ?_
            refine fs_wk (ls' := [some (.ref v0), none, none, some (.int x1), some (.ref (m1.2.1 v2 13)), some (.int x3), some (.int x7)]) ⟨rfl, rfl, rfl, rfl, rfl, trivial⟩ ?_
            exact w_X6_readWayNode_132 hE h0 e1 _
      · refine fs_r T 2 82 [some (.ref v0), some (.ref v1), some (.ref v2), some (.int x1), some (.ref (m1.2.1 v2 13)), some (.int x3), some (.int (-1 : Int32))] [.int (4 : Int32), .ref v0] rfl ?_
        refine fs_vV T 85 rfl rfl rfl rfl rfl rfl h0 (q_X6_fail (d := d + 2) hE h0) ?_
        intro x5 m5
        refine fs_r T 1 132 [some (.ref v0), some (.ref v1), some (.ref v2), some (.int x1), some (.ref (m1.2.1 v2 13)), some (.int x3), some (.int (-1 : Int32))] [] rfl ?_
        refine fs_wk (ls' := [some (.ref v0), none, none, some (.int x1), some (.ref (m1.2.1 v2 13)), some (.int x3), some (.int (-1 : Int32))]) ⟨rfl, rfl, rfl, rfl, rfl, trivial⟩ ?_
        exact w_X6_readWayNode_132 hE h0 e1 _
    · refine fs_r T 2 59 [some (.ref v0), some (.ref v1), some (.ref v2), some (.int x1), some (.ref (m1.2.1 v2 13)), some (.int x3), some (.int (-1 : Int32))] [.int (3 : Int32), .ref v0] rfl ?_
      refine fs_vV T 62 rfl rfl rfl rfl rfl rfl h0 (q_X6_fail (d := d + 2) hE h0) ?_
      intro x10 m10
      refine fs_r T 1 132 [some (.ref v0), some (.ref v1), some (.ref v2), some (.int x1), some (.ref (m1.2.1 v2 13)), some (.int x3), some (.int (-1 : Int32))] [] rfl ?_
      refine fs_wk (ls' := [some (.ref v0), none, none, some (.int x1), some (.ref (m1.2.1 v2 13)), some (.int x3), some (.int (-1 : Int32))]) ⟨rfl, rfl, rfl, rfl, rfl, trivial⟩ ?_
      exact w_X6_readWayNode_132 hE h0 e1 _
  · exact fs_retv T rfl rfl rfl)
