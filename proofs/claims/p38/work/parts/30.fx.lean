/-! functions out of the code -/
def f_X7_hasRoomAlong_3 (H : fm_H) (v0 : Nat) (v1 : Nat) (v2 : Int32) (v3 : Int32) : Nat → Int32 → fm_M → Option (Int32 × fm_M)
  | 0, _, _ => none
  | n + 1, v4, m =>
    if m.1 v1 0 ≤ v4 then
      some ((1 : Int32), m)
    else
    fm_bn (f_X10_linkAt H v1 v4 m) fun x1 m1 =>
    fm_bn (f_X7_hasRoom H v0 x1 v2 v3 m1) fun x2 m2 =>
    if x2 = 0 then
      some ((0 : Int32), m2)
    else
    f_X7_hasRoomAlong_3 H v0 v1 v2 v3 n (v4 + 1) m2
set_option maxRecDepth 10000 in
theorem w_X7_hasRoomAlong_3 {G : pm_G} {H : fm_H} {d : Nat} {z : fm_Z H} {K : pm_R → fm_M → Prop} (hE : fm_E G H) {v0 : Nat} {v1 : Nat} {v2 : Int32} {v3 : Int32} (h0 : fm_is H v0 7) (h1 : fm_is H v1 10) : ∀ (n : Nat) (v4 : Int32) (m : fm_M), fm_o fm_rI (f_X7_hasRoomAlong_3 H v0 v1 v2 v3 n v4 m) K → fm_V G H (d + 3) RX7 cX7_hasRoomAlong (some (.boolean)) z K 3 [some (.ref v0), some (.ref v1), some (.int v2), some (.int v3), some (.int v4)] [] m := by
  have T : fm_T RX7 cX7_hasRoomAlong tc_X7_hasRoomAlong fr_X7 mr_X7 cr_X7 lr_X7 := ⟨tok_X7, dc_X7_hasRoomAlong⟩
  intro n
  induction n with
  | zero =>
    intro v4 m 
    exact fs_none
  | succ n ih =>
    intro v4 m 
    unfold f_X7_hasRoomAlong_3
    refine fs_r T 2 6 [some (.ref v0), some (.ref v1), some (.int v2), some (.int v3), some (.int v4)] [.ref v1, .int v4] rfl ?_
    refine fs_gi T 9 10 0 v1 rfl rfl rfl rfl h1 ?_
    refine fs_ic_ge T 35 12 rfl rfl rfl (fun _ => ?_) (fun _ => ?_)
    · refine fs_r T 1 36 [some (.ref v0), some (.ref v1), some (.int v2), some (.int v3), some (.int v4)] [.int (1 : Int32)] rfl ?_
      exact fs_retc T rfl rfl rfl rfl
    · refine fs_r T 3 16 [some (.ref v0), some (.ref v1), some (.int v2), some (.int v3), some (.int v4)] [.int v4, .ref v1, .ref v0] rfl ?_
      refine fs_vI T 19 rfl rfl rfl rfl rfl rfl h1 (q_X10_linkAt (d := d + 2) hE h1) ?_
      intro x1 m1
      refine fs_r T 2 21 [some (.ref v0), some (.ref v1), some (.int v2), some (.int v3), some (.int v4)] [.int v3, .int v2, .int x1, .ref v0] rfl ?_
      refine fs_vI T 24 rfl rfl rfl rfl rfl rfl h0 (q_X7_hasRoom (d := d) hE h0) ?_
      intro x2 m2
      refine fs_if_ne T 29 27 rfl rfl rfl (fun _ => ?_) (fun _ => ?_)
      · refine fs_r T 1 28 [some (.ref v0), some (.ref v1), some (.int v2), some (.int v3), some (.int v4)] [.int (0 : Int32)] rfl ?_
        exact fs_retc T rfl rfl rfl rfl
      · refine fs_r T 2 3 [some (.ref v0), some (.ref v1), some (.int v2), some (.int v3), some (.int (v4 + 1))] [] rfl ?_
        exact ih _ _
def f_X7_hasRoomAlong (H : fm_H) (v0 : Nat) (v1 : Nat) (v2 : Int32) (v3 : Int32) (m : fm_M) : Option (Int32 × fm_M) :=
  f_X7_hasRoomAlong_3 H v0 v1 v2 v3 fm_N (1 : Int32) m
set_option maxRecDepth 10000 in
theorem q_X7_hasRoomAlong {G : pm_G} {H : fm_H} {d : Nat} {z : fm_Z H} {v0 : Nat} {v1 : Nat} {v2 : Int32} {v3 : Int32} {m : fm_M} (hE : fm_E G H) (h0 : fm_is H v0 7) (h1 : fm_is H v1 10) : fm_cal G H (d + 4) yX7_hasRoomAlong [.ref v0, .ref v1, .int v2, .int v3] z m fm_rI (f_X7_hasRoomAlong H v0 v1 v2 v3 m) := fm_mth (d := d + 3) mt_X7_hasRoomAlong rfl rfl rfl (fun K => by
  show fm_o fm_rI (f_X7_hasRoomAlong H v0 v1 v2 v3 m) K → fm_V G H (d + 3) RX7 cX7_hasRoomAlong (some (.boolean)) z K 0 [some (.ref v0), some (.ref v1), some (.int v2), some (.int v3), none] [] m
  have T : fm_T RX7 cX7_hasRoomAlong tc_X7_hasRoomAlong fr_X7 mr_X7 cr_X7 lr_X7 := ⟨tok_X7, dc_X7_hasRoomAlong⟩
  unfold f_X7_hasRoomAlong
  refine fs_r T 2 3 [some (.ref v0), some (.ref v1), some (.int v2), some (.int v3), some (.int (1 : Int32))] [] rfl ?_
  exact w_X7_hasRoomAlong_3 hE h0 h1 _ _ _)
def f_X7_makeEntries_2 (H : fm_H) (v0 : Nat) (v1 : Nat) : Nat → Int32 → fm_M → Option (Unit × fm_M)
  | 0, _, _ => none
  | n + 1, v2, m =>
    if m.1 v1 0 ≤ v2 then
      some ((), m)
    else
    fm_bn (f_X10_slotAt H v1 v2 m) fun x1 m1 =>
    fm_bn (f_X2_makeEntry H (H.2.1 v0 1) x1 m1) fun _ m2 =>
    f_X7_makeEntries_2 H v0 v1 n (v2 + 1) m2
set_option maxRecDepth 10000 in
theorem w_X7_makeEntries_2 {G : pm_G} {H : fm_H} {d : Nat} {z : fm_Z H} {K : pm_R → fm_M → Prop} (hE : fm_E G H) {v0 : Nat} {v1 : Nat} (h0 : fm_is H v0 7) (h1 : fm_is H v1 10) : ∀ (n : Nat) (v2 : Int32) (m : fm_M), fm_o fm_rV (f_X7_makeEntries_2 H v0 v1 n v2 m) K → fm_V G H (d + 2) RX7 cX7_makeEntries none z K 2 [some (.ref v0), some (.ref v1), some (.int v2)] [] m := by
  have T : fm_T RX7 cX7_makeEntries tc_X7_makeEntries fr_X7 mr_X7 cr_X7 lr_X7 := ⟨tok_X7, dc_X7_makeEntries⟩
  intro n
  induction n with
  | zero =>
    intro v2 m 
    exact fs_none
  | succ n ih =>
    intro v2 m 
    unfold f_X7_makeEntries_2
    refine fs_r T 2 4 [some (.ref v0), some (.ref v1), some (.int v2)] [.ref v1, .int v2] rfl ?_
    refine fs_gi T 7 10 0 v1 rfl rfl rfl rfl h1 ?_
    refine fs_ic_ge T 28 10 rfl rfl rfl (fun _ => ?_) (fun _ => ?_)
    · exact fs_retv T rfl rfl rfl
    · refine fs_r T 1 11 [some (.ref v0), some (.ref v1), some (.int v2)] [.ref v0] rfl ?_
      refine fs_gs T 14 7 1 v0 rfl rfl rfl rfl h0 ?_
      refine fs_r T 2 16 [some (.ref v0), some (.ref v1), some (.int v2)] [.int v2, .ref v1, .ref (H.2.1 v0 1)] rfl ?_
      refine fs_vI T 19 rfl rfl rfl rfl rfl rfl h1 (q_X10_slotAt (d := d + 1) hE h1) ?_
      intro x1 m1
      refine fs_vV T 22 rfl rfl rfl rfl rfl rfl (hE.1 _ 7 1 h0) (q_X2_makeEntry (d := d) hE (hE.1 _ 7 1 h0)) ?_
      intro x2 m2
      refine fs_r T 2 2 [some (.ref v0), some (.ref v1), some (.int (v2 + 1))] [] rfl ?_
      exact ih _ _
def f_X7_makeEntries (H : fm_H) (v0 : Nat) (v1 : Nat) (m : fm_M) : Option (Unit × fm_M) :=
  f_X7_makeEntries_2 H v0 v1 fm_N (1 : Int32) m
set_option maxRecDepth 10000 in
theorem q_X7_makeEntries {G : pm_G} {H : fm_H} {d : Nat} {z : fm_Z H} {v0 : Nat} {v1 : Nat} {m : fm_M} (hE : fm_E G H) (h0 : fm_is H v0 7) (h1 : fm_is H v1 10) : fm_cal G H (d + 3) yX7_makeEntries [.ref v0, .ref v1] z m fm_rV (f_X7_makeEntries H v0 v1 m) := fm_mth (d := d + 2) mt_X7_makeEntries rfl rfl rfl (fun K => by
  show fm_o fm_rV (f_X7_makeEntries H v0 v1 m) K → fm_V G H (d + 2) RX7 cX7_makeEntries none z K 0 [some (.ref v0), some (.ref v1), none] [] m
  have T : fm_T RX7 cX7_makeEntries tc_X7_makeEntries fr_X7 mr_X7 cr_X7 lr_X7 := ⟨tok_X7, dc_X7_makeEntries⟩
  unfold f_X7_makeEntries
  refine fs_r T 2 2 [some (.ref v0), some (.ref v1), some (.int (1 : Int32))] [] rfl ?_
  exact w_X7_makeEntries_2 hE h0 h1 _ _ _)
def f_X10_putSlot (H : fm_H) (v0 : Nat) (v1 : Int32) (v2 : Int32) (m : fm_M) : Option (Unit × fm_M) :=
  if v1 < 0 then
    some ((), m)
  else
  if m.1 v0 0 ≤ v1 then
    some ((), m)
  else
  if px_inb v1 (fm_sz H (H.2.1 v0 3)) = true then
    (fm_bd (fm_si m (H.2.1 v0 3) v1.toNatClampNeg v2) fun m1 =>
    some ((), m1))
  else none
set_option maxRecDepth 10000 in
theorem q_X10_putSlot {G : pm_G} {H : fm_H} {d : Nat} {z : fm_Z H} {v0 : Nat} {v1 : Int32} {v2 : Int32} {m : fm_M} (hE : fm_E G H) (h0 : fm_is H v0 10) : fm_cal G H (d + 1) yX10_putSlot [.ref v0, .int v1, .int v2] z m fm_rV (f_X10_putSlot H v0 v1 v2 m) := fm_mth (d := d + 0) mt_X10_putSlot rfl rfl rfl (fun K => by
  show fm_o fm_rV (f_X10_putSlot H v0 v1 v2 m) K → fm_V G H (d + 0) RX10 cX10_putSlot none z K 0 [some (.ref v0), some (.int v1), some (.int v2)] [] m
  have T : fm_T RX10 cX10_putSlot tc_X10_putSlot fr_X10 mr_X10 cr_X10 lr_X10 := ⟨tok_X10, dc_X10_putSlot⟩
  unfold f_X10_putSlot
  refine fs_r T 1 1 [some (.ref v0), some (.int v1), some (.int v2)] [.int v1] rfl ?_
  refine fs_if_lt T 19 4 rfl rfl rfl (fun _ => ?_) (fun _ => ?_)
  · exact fs_retv T rfl rfl rfl
  · refine fs_r T 2 6 [some (.ref v0), some (.int v1), some (.int v2)] [.ref v0, .int v1] rfl ?_
    refine fs_gi T 9 10 0 v0 rfl rfl rfl rfl h0 ?_
    refine fs_ic_ge T 19 12 rfl rfl rfl (fun _ => ?_) (fun _ => ?_)
    · exact fs_retv T rfl rfl rfl
    · refine fs_r T 1 13 [some (.ref v0), some (.int v1), some (.int v2)] [.ref v0] rfl ?_
      refine fs_gs T 16 10 3 v0 rfl rfl rfl rfl h0 ?_
      refine fs_r T 2 18 [some (.ref v0), some (.int v1), some (.int v2)] [.int v2, .int v1, .ref (H.2.1 v0 3)] rfl ?_
      refine fs_si T 19 (H.2.1 v0 3) rfl rfl (hE.1 _ 10 3 h0) ?_
      intro m1
      exact fs_retv T rfl rfl rfl)
def f_X7_giveUpLabels_2 (H : fm_H) (v0 : Nat) (v1 : Nat) : Nat → Int32 → fm_M → Option (Unit × fm_M)
  | 0, _, _ => none
  | n + 1, v2, m =>
    if m.1 v1 0 ≤ v2 then
      some ((), m)
    else
    fm_bn (f_X10_slotAt H v1 v2 m) fun x1 m1 =>
    fm_bn (f_X2_giveUp H (H.2.1 v0 1) x1 m1) fun _ m2 =>
    fm_bn (f_X10_putSlot H v1 v2 (-1 : Int32) m2) fun _ m3 =>
    f_X7_giveUpLabels_2 H v0 v1 n (v2 + 1) m3
set_option maxRecDepth 10000 in
theorem w_X7_giveUpLabels_2 {G : pm_G} {H : fm_H} {d : Nat} {z : fm_Z H} {K : pm_R → fm_M → Prop} (hE : fm_E G H) {v0 : Nat} {v1 : Nat} (h0 : fm_is H v0 7) (h1 : fm_is H v1 10) : ∀ (n : Nat) (v2 : Int32) (m : fm_M), fm_o fm_rV (f_X7_giveUpLabels_2 H v0 v1 n v2 m) K → fm_V G H (d + 2) RX7 cX7_giveUpLabels none z K 2 [some (.ref v0), some (.ref v1), some (.int v2)] [] m := by
  have T : fm_T RX7 cX7_giveUpLabels tc_X7_giveUpLabels fr_X7 mr_X7 cr_X7 lr_X7 := ⟨tok_X7, dc_X7_giveUpLabels⟩
  intro n
  induction n with
  | zero =>
    intro v2 m 
    exact fs_none
  | succ n ih =>
    intro v2 m 
    unfold f_X7_giveUpLabels_2
    refine fs_r T 2 4 [some (.ref v0), some (.ref v1), some (.int v2)] [.ref v1, .int v2] rfl ?_
    refine fs_gi T 7 10 0 v1 rfl rfl rfl rfl h1 ?_
    refine fs_ic_ge T 34 10 rfl rfl rfl (fun _ => ?_) (fun _ => ?_)
    · exact fs_retv T rfl rfl rfl
    · refine fs_r T 1 11 [some (.ref v0), some (.ref v1), some (.int v2)] [.ref v0] rfl ?_
      refine fs_gs T 14 7 1 v0 rfl rfl rfl rfl h0 ?_
      refine fs_r T 2 16 [some (.ref v0), some (.ref v1), some (.int v2)] [.int v2, .ref v1, .ref (H.2.1 v0 1)] rfl ?_
      refine fs_vI T 19 rfl rfl rfl rfl rfl rfl h1 (q_X10_slotAt (d := d + 1) hE h1) ?_
      intro x1 m1
      refine fs_vV T 22 rfl rfl rfl rfl rfl rfl (hE.1 _ 7 1 h0) (q_X2_giveUp (d := d) hE (hE.1 _ 7 1 h0)) ?_
      intro x2 m2
      refine fs_r T 3 25 [some (.ref v0), some (.ref v1), some (.int v2)] [.int (-1 : Int32), .int v2, .ref v1] rfl ?_
      refine fs_vV T 28 rfl rfl rfl rfl rfl rfl h1 (q_X10_putSlot (d := d + 1) hE h1) ?_
      intro x3 m3
      refine fs_r T 2 2 [some (.ref v0), some (.ref v1), some (.int (v2 + 1))] [] rfl ?_
      exact ih _ _
def f_X7_giveUpLabels (H : fm_H) (v0 : Nat) (v1 : Nat) (m : fm_M) : Option (Unit × fm_M) :=
  f_X7_giveUpLabels_2 H v0 v1 fm_N (1 : Int32) m
set_option maxRecDepth 10000 in
theorem q_X7_giveUpLabels {G : pm_G} {H : fm_H} {d : Nat} {z : fm_Z H} {v0 : Nat} {v1 : Nat} {m : fm_M} (hE : fm_E G H) (h0 : fm_is H v0 7) (h1 : fm_is H v1 10) : fm_cal G H (d + 3) yX7_giveUpLabels [.ref v0, .ref v1] z m fm_rV (f_X7_giveUpLabels H v0 v1 m) := fm_mth (d := d + 2) mt_X7_giveUpLabels rfl rfl rfl (fun K => by
  show fm_o fm_rV (f_X7_giveUpLabels H v0 v1 m) K → fm_V G H (d + 2) RX7 cX7_giveUpLabels none z K 0 [some (.ref v0), some (.ref v1), none] [] m
  have T : fm_T RX7 cX7_giveUpLabels tc_X7_giveUpLabels fr_X7 mr_X7 cr_X7 lr_X7 := ⟨tok_X7, dc_X7_giveUpLabels⟩
  unfold f_X7_giveUpLabels
  refine fs_r T 2 2 [some (.ref v0), some (.ref v1), some (.int (1 : Int32))] [] rfl ?_
  exact w_X7_giveUpLabels_2 hE h0 h1 _ _ _)
def f_X7_takeLabels_2 (H : fm_H) (v0 : Nat) (v1 : Nat) (v2 : Int32) : Nat → Int32 → fm_M → Option (Int32 × fm_M)
  | 0, _, _ => none
  | n + 1, v3, m =>
    if m.1 v1 0 ≤ v3 then
      some ((1 : Int32), m)
    else
    fm_bn (f_X10_nodeAt H v1 v3 m) fun x1 m1 =>
    fm_bn (f_X2_take H (H.2.1 v0 1) (H.2.1 v0 0) x1 v2 (m1.1 v0 7) m1) fun x2 m2 =>
    if x2 = (-1 : Int32) then
      fm_bn (f_X7_giveUpLabels H v0 v1 m2) fun _ m4 =>
      some ((0 : Int32), m4)
    else
    fm_bn (f_X10_putSlot H v1 v3 x2 m2) fun _ m3 =>
    f_X7_takeLabels_2 H v0 v1 v2 n (v3 + 1) m3
set_option maxRecDepth 10000 in
theorem w_X7_takeLabels_2 {G : pm_G} {H : fm_H} {d : Nat} {z : fm_Z H} {K : pm_R → fm_M → Prop} (hE : fm_E G H) {v0 : Nat} {v1 : Nat} {v2 : Int32} (h0 : fm_is H v0 7) (h1 : fm_is H v1 10) : ∀ (n : Nat) (v3 : Int32) (m : fm_M), fm_o fm_rI (f_X7_takeLabels_2 H v0 v1 v2 n v3 m) K → fm_V G H (d + 3) RX7 cX7_takeLabels (some (.boolean)) z K 2 [some (.ref v0), some (.ref v1), some (.int v2), some (.int v3), none] [] m := by
  have T : fm_T RX7 cX7_takeLabels tc_X7_takeLabels fr_X7 mr_X7 cr_X7 lr_X7 := ⟨tok_X7, dc_X7_takeLabels⟩
  intro n
  induction n with
  | zero =>
    intro v3 m 
    exact fs_none
  | succ n ih =>
    intro v3 m 
    unfold f_X7_takeLabels_2
    refine fs_r T 2 4 [some (.ref v0), some (.ref v1), some (.int v2), some (.int v3), none] [.ref v1, .int v3] rfl ?_
    refine fs_gi T 7 10 0 v1 rfl rfl rfl rfl h1 ?_
    refine fs_ic_ge T 59 10 rfl rfl rfl (fun _ => ?_) (fun _ => ?_)
    · refine fs_r T 1 60 [some (.ref v0), some (.ref v1), some (.int v2), some (.int v3), none] [.int (1 : Int32)] rfl ?_
      exact fs_retc T rfl rfl rfl rfl
    · refine fs_r T 1 11 [some (.ref v0), some (.ref v1), some (.int v2), some (.int v3), none] [.ref v0] rfl ?_
      refine fs_gs T 14 7 1 v0 rfl rfl rfl rfl h0 ?_
      refine fs_r T 1 15 [some (.ref v0), some (.ref v1), some (.int v2), some (.int v3), none] [.ref v0, .ref (H.2.1 v0 1)] rfl ?_
      refine fs_gs T 18 7 0 v0 rfl rfl rfl rfl h0 ?_
      refine fs_r T 2 20 [some (.ref v0), some (.ref v1), some (.int v2), some (.int v3), none] [.int v3, .ref v1, .ref (H.2.1 v0 0), .ref (H.2.1 v0 1)] rfl ?_
      refine fs_vI T 23 rfl rfl rfl rfl rfl rfl h1 (q_X10_nodeAt (d := d + 2) hE h1) ?_
      intro x1 m1
      refine fs_r T 2 25 [some (.ref v0), some (.ref v1), some (.int v2), some (.int v3), none] [.ref v0, .int v2, .int x1, .ref (H.2.1 v0 0), .ref (H.2.1 v0 1)] rfl ?_
      refine fs_gi T 28 7 7 v0 rfl rfl rfl rfl h0 ?_
      refine fs_vI T 31 rfl rfl rfl rfl rfl rfl (hE.1 _ 7 1 h0) (q_X2_take (d := d) hE (hE.1 _ 7 1 h0) (hE.1 _ 7 0 h0)) ?_
      intro x2 m2
      refine fs_r T 3 36 [some (.ref v0), some (.ref v1), some (.int v2), some (.int v3), some (.int x2)] [.int (-1 : Int32), .int x2] rfl ?_
      refine fs_ic_ne T 46 39 rfl rfl rfl (fun _ => ?_) (fun _ => ?_)
      · refine fs_r T 2 41 [some (.ref v0), some (.ref v1), some (.int v2), some (.int v3), some (.int x2)] [.ref v1, .ref v0] rfl ?_
        refine fs_vV T 44 rfl rfl rfl rfl rfl rfl h0 (q_X7_giveUpLabels (d := d) hE h0 h1) ?_
        intro x4 m4
        refine fs_r T 1 45 [some (.ref v0), some (.ref v1), some (.int v2), some (.int v3), some (.int x2)] [.int (0 : Int32)] rfl ?_
        exact fs_retc T rfl rfl rfl rfl
      · refine fs_r T 3 50 [some (.ref v0), some (.ref v1), some (.int v2), some (.int v3), some (.int x2)] [.int x2, .int v3, .ref v1] rfl ?_
        refine fs_vV T 53 rfl rfl rfl rfl rfl rfl h1 (q_X10_putSlot (d := d + 2) hE h1) ?_
        intro x3 m3
        refine fs_r T 2 2 [some (.ref v0), some (.ref v1), some (.int v2), some (.int (v3 + 1)), some (.int x2)] [] rfl ?_
        refine fs_wk (ls' := [some (.ref v0), some (.ref v1), some (.int v2), some (.int (v3 + 1)), none]) ⟨rfl, rfl, rfl, rfl, trivial⟩ ?_
        exact ih _ _
def f_X7_takeLabels (H : fm_H) (v0 : Nat) (v1 : Nat) (v2 : Int32) (m : fm_M) : Option (Int32 × fm_M) :=
  f_X7_takeLabels_2 H v0 v1 v2 fm_N (1 : Int32) m
set_option maxRecDepth 10000 in
theorem q_X7_takeLabels {G : pm_G} {H : fm_H} {d : Nat} {z : fm_Z H} {v0 : Nat} {v1 : Nat} {v2 : Int32} {m : fm_M} (hE : fm_E G H) (h0 : fm_is H v0 7) (h1 : fm_is H v1 10) : fm_cal G H (d + 4) yX7_takeLabels [.ref v0, .ref v1, .int v2] z m fm_rI (f_X7_takeLabels H v0 v1 v2 m) := fm_mth (d := d + 3) mt_X7_takeLabels rfl rfl rfl (fun K => by
  show fm_o fm_rI (f_X7_takeLabels H v0 v1 v2 m) K → fm_V G H (d + 3) RX7 cX7_takeLabels (some (.boolean)) z K 0 [some (.ref v0), some (.ref v1), some (.int v2), none, none] [] m
  have T : fm_T RX7 cX7_takeLabels tc_X7_takeLabels fr_X7 mr_X7 cr_X7 lr_X7 := ⟨tok_X7, dc_X7_takeLabels⟩
  unfold f_X7_takeLabels
  refine fs_r T 2 2 [some (.ref v0), some (.ref v1), some (.int v2), some (.int (1 : Int32)), none] [] rfl ?_
  exact w_X7_takeLabels_2 hE h0 h1 _ _ _)
def f_X7_openAlong (H : fm_H) (v0 : Nat) (v1 : Nat) (v2 : Int32) (v3 : Int32) (m : fm_M) : Option (Int32 × fm_M) :=
  if m.1 v0 5 < (8 : Int32) then
    if (2 : Int32) ≤ m.1 v1 0 then
      fm_bn (f_X7_hasRoomAlong H v0 v1 v2 (-1 : Int32) m) fun x1 m1 =>
      if x1 = 0 then
        some ((5 : Int32), m1)
      else
      if px_inb (m1.1 v0 5) (fm_sz H (H.2.1 v0 3)) = true then
        (if fm_isb H (m1.2.1 (H.2.1 v0 3) (m1.1 v0 5).toNatClampNeg) 0 = true then
          fm_bn (f_X0_begin H (m1.2.1 (H.2.1 v0 3) (m1.1 v0 5).toNatClampNeg) v2 v3 m1) fun _ m2 =>
          if fm_isb H (m2.2.1 (m1.2.1 (H.2.1 v0 3) (m1.1 v0 5).toNatClampNeg) 13) 10 = true then
            fm_bn (f_X10_copyNodes H (m2.2.1 (m1.2.1 (H.2.1 v0 3) (m1.1 v0 5).toNatClampNeg) 13) v1 m2) fun _ m3 =>
            if fm_isb H (m3.2.1 (m1.2.1 (H.2.1 v0 3) (m1.1 v0 5).toNatClampNeg) 13) 10 = true then
              fm_bn (f_X7_takeLabels H v0 (m3.2.1 (m1.2.1 (H.2.1 v0 3) (m1.1 v0 5).toNatClampNeg) 13) (m3.1 v0 5) m3) fun x4 m4 =>
              if x4 = 0 then
                some ((6 : Int32), m4)
              else
              if fm_isb H (m4.2.1 (m1.2.1 (H.2.1 v0 3) (m1.1 v0 5).toNatClampNeg) 13) 10 = true then
                fm_bn (f_X7_makeEntries H v0 (m4.2.1 (m1.2.1 (H.2.1 v0 3) (m1.1 v0 5).toNatClampNeg) 13) m4) fun _ m5 =>
                fm_bd (fm_si m5 v0 5 (m5.1 v0 5 + (1 : Int32))) fun m6 =>
                some ((0 : Int32), m6)
              else none
            else none
          else none
        else none)
      else none
    else
    some ((3 : Int32), m)
  else
  some ((1 : Int32), m)
set_option maxRecDepth 10000 in
theorem q_X7_openAlong {G : pm_G} {H : fm_H} {d : Nat} {z : fm_Z H} {v0 : Nat} {v1 : Nat} {v2 : Int32} {v3 : Int32} {m : fm_M} (hE : fm_E G H) (h0 : fm_is H v0 7) (h1 : fm_is H v1 10) : fm_cal G H (d + 5) yX7_openAlong [.ref v0, .ref v1, .int v2, .int v3] z m fm_rI (f_X7_openAlong H v0 v1 v2 v3 m) := fm_mth (d := d + 4) mt_X7_openAlong rfl rfl rfl (fun K => by
  show fm_o fm_rI (f_X7_openAlong H v0 v1 v2 v3 m) K → fm_V G H (d + 4) RX7 cX7_openAlong (some (.int)) z K 0 [some (.ref v0), some (.ref v1), some (.int v2), some (.int v3), none] [] m
  have T : fm_T RX7 cX7_openAlong tc_X7_openAlong fr_X7 mr_X7 cr_X7 lr_X7 := ⟨tok_X7, dc_X7_openAlong⟩
  unfold f_X7_openAlong
  refine fs_r T 1 1 [some (.ref v0), some (.ref v1), some (.int v2), some (.int v3), none] [.ref v0] rfl ?_
  refine fs_gi T 4 7 5 v0 rfl rfl rfl rfl h0 ?_
  refine fs_r T 1 6 [some (.ref v0), some (.ref v1), some (.int v2), some (.int v3), none] [.int (8 : Int32), .int (m.1 v0 5)] rfl ?_
  refine fs_ic_lt T 11 9 rfl rfl rfl (fun _ => ?_) (fun _ => ?_)
  · refine fs_r T 1 12 [some (.ref v0), some (.ref v1), some (.int v2), some (.int v3), none] [.ref v1] rfl ?_
    refine fs_gi T 15 10 0 v1 rfl rfl rfl rfl h1 ?_
    refine fs_r T 1 16 [some (.ref v0), some (.ref v1), some (.int v2), some (.int v3), none] [.int (2 : Int32), .int (m.1 v1 0)] rfl ?_
    refine fs_ic_ge T 21 19 rfl rfl rfl (fun _ => ?_) (fun _ => ?_)
    · refine fs_r T 4 25 [some (.ref v0), some (.ref v1), some (.int v2), some (.int v3), none] [.int (-1 : Int32), .int v2, .ref v1, .ref v0] rfl ?_
      refine fs_vI T 28 rfl rfl rfl rfl rfl rfl h0 (q_X7_hasRoomAlong (d := d) hE h0 h1) ?_
      intro x1 m1
      refine fs_if_ne T 33 31 rfl rfl rfl (fun _ => ?_) (fun _ => ?_)
      · refine fs_r T 1 32 [some (.ref v0), some (.ref v1), some (.int v2), some (.int v3), none] [.int (5 : Int32)] rfl ?_
        exact fs_reti T rfl rfl rfl
      · refine fs_r T 1 34 [some (.ref v0), some (.ref v1), some (.int v2), some (.int v3), none] [.ref v0] rfl ?_
        refine fs_gs T 37 7 3 v0 rfl rfl rfl rfl h0 ?_
        refine fs_r T 1 38 [some (.ref v0), some (.ref v1), some (.int v2), some (.int v3), none] [.ref v0, .ref (H.2.1 v0 3)] rfl ?_
        refine fs_gi T 41 7 5 v0 rfl rfl rfl rfl h0 ?_
        refine fs_aa T 42 (H.2.1 v0 3) 0 rfl rfl (hE.1 _ 7 3 h0) ?_
        intro e1
        refine fs_r T 4 48 [some (.ref v0), some (.ref v1), some (.int v2), some (.int v3), some (.ref (m1.2.1 (H.2.1 v0 3) (m1.1 v0 5).toNatClampNeg))] [.int v3, .int v2, .ref (m1.2.1 (H.2.1 v0 3) (m1.1 v0 5).toNatClampNeg)] rfl ?_
        refine fs_vV T 51 rfl rfl rfl rfl rfl rfl e1 (q_X0_begin (d := d + 2) hE e1) ?_
        intro x2 m2
        refine fs_r T 1 53 [some (.ref v0), some (.ref v1), some (.int v2), some (.int v3), some (.ref (m1.2.1 (H.2.1 v0 3) (m1.1 v0 5).toNatClampNeg))] [.ref (m1.2.1 (H.2.1 v0 3) (m1.1 v0 5).toNatClampNeg)] rfl ?_
        refine fs_gp T 56 0 13 (m1.2.1 (H.2.1 v0 3) (m1.1 v0 5).toNatClampNeg) 10 rfl rfl rfl rfl e1 ?_
        intro e2
        refine fs_r T 1 57 [some (.ref v0), some (.ref v1), some (.int v2), some (.int v3), some (.ref (m1.2.1 (H.2.1 v0 3) (m1.1 v0 5).toNatClampNeg))] [.ref v1, .ref (m2.2.1 (m1.2.1 (H.2.1 v0 3) (m1.1 v0 5).toNatClampNeg) 13)] rfl ?_
        refine fs_vV T 60 rfl rfl rfl rfl rfl rfl e2 (q_X10_copyNodes (d := d + 3) hE e2 h1) ?_
        intro x3 m3
        refine fs_r T 2 63 [some (.ref v0), some (.ref v1), some (.int v2), some (.int v3), some (.ref (m1.2.1 (H.2.1 v0 3) (m1.1 v0 5).toNatClampNeg))] [.ref (m1.2.1 (H.2.1 v0 3) (m1.1 v0 5).toNatClampNeg), .ref v0] rfl ?_
        refine fs_gp T 66 0 13 (m1.2.1 (H.2.1 v0 3) (m1.1 v0 5).toNatClampNeg) 10 rfl rfl rfl rfl e1 ?_
        intro e3
        refine fs_r T 1 67 [some (.ref v0), some (.ref v1), some (.int v2), some (.int v3), some (.ref (m1.2.1 (H.2.1 v0 3) (m1.1 v0 5).toNatClampNeg))] [.ref v0, .ref (m3.2.1 (m1.2.1 (H.2.1 v0 3) (m1.1 v0 5).toNatClampNeg) 13), .ref v0] rfl ?_
        refine fs_gi T 70 7 5 v0 rfl rfl rfl rfl h0 ?_
        refine fs_vI T 73 rfl rfl rfl rfl rfl rfl h0 (q_X7_takeLabels (d := d) hE h0 e3) ?_
        intro x4 m4
        refine fs_if_ne T 79 76 rfl rfl rfl (fun _ => ?_) (fun _ => ?_)
        · refine fs_r T 1 78 [some (.ref v0), some (.ref v1), some (.int v2), some (.int v3), some (.ref (m1.2.1 (H.2.1 v0 3) (m1.1 v0 5).toNatClampNeg))] [.int (6 : Int32)] rfl ?_
          exact fs_reti T rfl rfl rfl
        · refine fs_r T 2 82 [some (.ref v0), some (.ref v1), some (.int v2), some (.int v3), some (.ref (m1.2.1 (H.2.1 v0 3) (m1.1 v0 5).toNatClampNeg))] [.ref (m1.2.1 (H.2.1 v0 3) (m1.1 v0 5).toNatClampNeg), .ref v0] rfl ?_
          refine fs_gp T 85 0 13 (m1.2.1 (H.2.1 v0 3) (m1.1 v0 5).toNatClampNeg) 10 rfl rfl rfl rfl e1 ?_
          intro e4
          refine fs_vV T 88 rfl rfl rfl rfl rfl rfl h0 (q_X7_makeEntries (d := d + 1) hE h0 e4) ?_
          intro x5 m5
          refine fs_r T 2 90 [some (.ref v0), some (.ref v1), some (.int v2), some (.int v3), some (.ref (m1.2.1 (H.2.1 v0 3) (m1.1 v0 5).toNatClampNeg))] [.ref v0, .ref v0] rfl ?_
          refine fs_gi T 93 7 5 v0 rfl rfl rfl rfl h0 ?_
          refine fs_r T 2 95 [some (.ref v0), some (.ref v1), some (.int v2), some (.int v3), some (.ref (m1.2.1 (H.2.1 v0 3) (m1.1 v0 5).toNatClampNeg))] [.int (m5.1 v0 5 + (1 : Int32)), .ref v0] rfl ?_
          refine fs_pi T 98 7 5 v0 rfl rfl rfl rfl h0 ?_
          intro m6
          refine fs_r T 1 99 [some (.ref v0), some (.ref v1), some (.int v2), some (.int v3), some (.ref (m1.2.1 (H.2.1 v0 3) (m1.1 v0 5).toNatClampNeg))] [.int (0 : Int32)] rfl ?_
          exact fs_reti T rfl rfl rfl
    · refine fs_r T 1 20 [some (.ref v0), some (.ref v1), some (.int v2), some (.int v3), none] [.int (3 : Int32)] rfl ?_
      exact fs_reti T rfl rfl rfl
  · refine fs_r T 1 10 [some (.ref v0), some (.ref v1), some (.int v2), some (.int v3), none] [.int (1 : Int32)] rfl ?_
    exact fs_reti T rfl rfl rfl)
def f_X7_closeCircuit_116 (H : fm_H) (v0 : Nat) (v2 : Nat) : Nat → Int32 → fm_M → Option (Int32 × fm_M)
  | 0, _, _ => none
  | n + 1, v3, m =>
    if m.1 v0 5 ≤ v3 then
      if px_inb (m.1 v0 5) (fm_sz H (H.2.1 v0 3)) = true then
        (fm_bd (fm_sr m (H.2.1 v0 3) (m.1 v0 5).toNatClampNeg v2) fun m1 =>
        some ((0 : Int32), m1))
      else none
    else
    if px_inb (v3 + (1 : Int32)) (fm_sz H (H.2.1 v0 3)) = true then
      (if fm_isb H (m.2.1 (H.2.1 v0 3) (v3 + (1 : Int32)).toNatClampNeg) 0 = true then
        if px_inb v3 (fm_sz H (H.2.1 v0 3)) = true then
          (fm_bd (fm_sr m (H.2.1 v0 3) v3.toNatClampNeg (m.2.1 (H.2.1 v0 3) (v3 + (1 : Int32)).toNatClampNeg)) fun m2 =>
          f_X7_closeCircuit_116 H v0 v2 n (v3 + 1) m2)
        else none
      else none)
    else none
set_option maxRecDepth 10000 in
theorem w_X7_closeCircuit_116 {G : pm_G} {H : fm_H} {d : Nat} {z : fm_Z H} {K : pm_R → fm_M → Prop} (hE : fm_E G H) {v0 : Nat} {v2 : Nat} (h0 : fm_is H v0 7) (h2 : fm_is H v2 0) : ∀ (n : Nat) (v3 : Int32) (m : fm_M), fm_o fm_rI (f_X7_closeCircuit_116 H v0 v2 n v3 m) K → fm_V G H (d + 3) RX7 cX7_closeCircuit (some (.int)) z K 116 [some (.ref v0), none, some (.ref v2), some (.int v3)] [] m := by
  have T : fm_T RX7 cX7_closeCircuit tc_X7_closeCircuit fr_X7 mr_X7 cr_X7 lr_X7 := ⟨tok_X7, dc_X7_closeCircuit⟩
  intro n
  induction n with
  | zero =>
    intro v3 m 
    exact fs_none
  | succ n ih =>
    intro v3 m 
    unfold f_X7_closeCircuit_116
    refine fs_r T 2 118 [some (.ref v0), none, some (.ref v2), some (.int v3)] [.ref v0, .int v3] rfl ?_
    refine fs_gi T 121 7 5 v0 rfl rfl rfl rfl h0 ?_
    refine fs_ic_ge T 144 124 rfl rfl rfl (fun _ => ?_) (fun _ => ?_)
    · refine fs_r T 1 145 [some (.ref v0), none, some (.ref v2), some (.int v3)] [.ref v0] rfl ?_
      refine fs_gs T 148 7 3 v0 rfl rfl rfl rfl h0 ?_
      refine fs_r T 1 149 [some (.ref v0), none, some (.ref v2), some (.int v3)] [.ref v0, .ref (H.2.1 v0 3)] rfl ?_
      refine fs_gi T 152 7 5 v0 rfl rfl rfl rfl h0 ?_
      refine fs_r T 1 153 [some (.ref v0), none, some (.ref v2), some (.int v3)] [.ref v2, .int (m.1 v0 5), .ref (H.2.1 v0 3)] rfl ?_
      refine fs_sa T 154 (H.2.1 v0 3) 0 rfl rfl (hE.1 _ 7 3 h0) h2 rfl ?_
      intro m1
      refine fs_r T 1 155 [some (.ref v0), none, some (.ref v2), some (.int v3)] [.int (0 : Int32)] rfl ?_
      exact fs_reti T rfl rfl rfl
    · refine fs_r T 1 125 [some (.ref v0), none, some (.ref v2), some (.int v3)] [.ref v0] rfl ?_
      refine fs_gs T 128 7 3 v0 rfl rfl rfl rfl h0 ?_
      refine fs_r T 2 130 [some (.ref v0), none, some (.ref v2), some (.int v3)] [.ref v0, .int v3, .ref (H.2.1 v0 3)] rfl ?_
      refine fs_gs T 133 7 3 v0 rfl rfl rfl rfl h0 ?_
      refine fs_r T 3 136 [some (.ref v0), none, some (.ref v2), some (.int v3)] [.int (v3 + (1 : Int32)), .ref (H.2.1 v0 3), .int v3, .ref (H.2.1 v0 3)] rfl ?_
      refine fs_aa T 137 (H.2.1 v0 3) 0 rfl rfl (hE.1 _ 7 3 h0) ?_
      intro e1
      refine fs_sa T 138 (H.2.1 v0 3) 0 rfl rfl (hE.1 _ 7 3 h0) e1 rfl ?_
      intro m2
      refine fs_r T 2 116 [some (.ref v0), none, some (.ref v2), some (.int (v3 + 1))] [] rfl ?_
      exact ih _ _
def f_X7_closeCircuit_62 (H : fm_H) (v0 : Nat) (v1 : Int32) (v2 : Nat) : Nat → Int32 → fm_M → Option (Int32 × fm_M)
  | 0, _, _ => none
  | n + 1, v3, m =>
    if m.1 v0 6 ≤ v3 then
      fm_bd (fm_si m v0 5 (m.1 v0 5 - (1 : Int32))) fun m1 =>
      f_X7_closeCircuit_116 H v0 v2 fm_N v1 m1
    else
    if px_inb v3 (fm_sz H (H.2.1 v0 4)) = true then
      (if fm_isb H (m.2.1 (H.2.1 v0 4) v3.toNatClampNeg) 5 = true then
        if m.1 (m.2.1 (H.2.1 v0 4) v3.toNatClampNeg) 0 ≤ v1 then
          f_X7_closeCircuit_62 H v0 v1 v2 n (v3 + 1) m
        else
        if px_inb v3 (fm_sz H (H.2.1 v0 4)) = true then
          (if fm_isb H (m.2.1 (H.2.1 v0 4) v3.toNatClampNeg) 5 = true then
            fm_bd (fm_si m (m.2.1 (H.2.1 v0 4) v3.toNatClampNeg) 0 (m.1 (m.2.1 (H.2.1 v0 4) v3.toNatClampNeg) 0 - (1 : Int32))) fun m2 =>
            f_X7_closeCircuit_62 H v0 v1 v2 n (v3 + 1) m2
          else none)
        else none
      else none)
    else none
set_option maxRecDepth 10000 in
theorem w_X7_closeCircuit_62 {G : pm_G} {H : fm_H} {d : Nat} {z : fm_Z H} {K : pm_R → fm_M → Prop} (hE : fm_E G H) {v0 : Nat} {v1 : Int32} {v2 : Nat} (h0 : fm_is H v0 7) (h2 : fm_is H v2 0) : ∀ (n : Nat) (v3 : Int32) (m : fm_M), fm_o fm_rI (f_X7_closeCircuit_62 H v0 v1 v2 n v3 m) K → fm_V G H (d + 3) RX7 cX7_closeCircuit (some (.int)) z K 62 [some (.ref v0), some (.int v1), some (.ref v2), some (.int v3)] [] m := by
  have T : fm_T RX7 cX7_closeCircuit tc_X7_closeCircuit fr_X7 mr_X7 cr_X7 lr_X7 := ⟨tok_X7, dc_X7_closeCircuit⟩
  intro n
  induction n with
  | zero =>
    intro v3 m 
    exact fs_none
  | succ n ih =>
    intro v3 m 
    unfold f_X7_closeCircuit_62
    refine fs_r T 2 64 [some (.ref v0), some (.int v1), some (.ref v2), some (.int v3)] [.ref v0, .int v3] rfl ?_
    refine fs_gi T 67 7 6 v0 rfl rfl rfl rfl h0 ?_
    refine fs_ic_ge T 104 70 rfl rfl rfl (fun _ => ?_) (fun _ => ?_)
    · refine fs_r T 2 106 [some (.ref v0), some (.int v1), some (.ref v2), some (.int v3)] [.ref v0, .ref v0] rfl ?_
      refine fs_gi T 109 7 5 v0 rfl rfl rfl rfl h0 ?_
      refine fs_r T 2 111 [some (.ref v0), some (.int v1), some (.ref v2), some (.int v3)] [.int (m.1 v0 5 - (1 : Int32)), .ref v0] rfl ?_
      refine fs_pi T 114 7 5 v0 rfl rfl rfl rfl h0 ?_
      intro m1
      refine fs_r T 2 116 [some (.ref v0), some (.int v1), some (.ref v2), some (.int v1)] [] rfl ?_
      refine fs_wk (ls' := [some (.ref v0), none, some (.ref v2), some (.int v1)]) ⟨rfl, rfl, rfl, trivial⟩ ?_
      exact w_X7_closeCircuit_116 hE h0 h2 _ _ _
    · refine fs_r T 1 71 [some (.ref v0), some (.int v1), some (.ref v2), some (.int v3)] [.ref v0] rfl ?_
      refine fs_gs T 74 7 4 v0 rfl rfl rfl rfl h0 ?_
      refine fs_r T 1 75 [some (.ref v0), some (.int v1), some (.ref v2), some (.int v3)] [.int v3, .ref (H.2.1 v0 4)] rfl ?_
      refine fs_aa T 76 (H.2.1 v0 4) 5 rfl rfl (hE.1 _ 7 4 h0) ?_
      intro e2
      refine fs_gi T 79 5 0 (m.2.1 (H.2.1 v0 4) v3.toNatClampNeg) rfl rfl rfl rfl e2 ?_
      refine fs_r T 1 80 [some (.ref v0), some (.int v1), some (.ref v2), some (.int v3)] [.int v1, .int (m.1 (m.2.1 (H.2.1 v0 4) v3.toNatClampNeg) 0)] rfl ?_
      refine fs_ic_le T 98 83 rfl rfl rfl (fun _ => ?_) (fun _ => ?_)
      · refine fs_r T 2 62 [some (.ref v0), some (.int v1), some (.ref v2), some (.int (v3 + 1))] [] rfl ?_
        exact ih _ _
      · refine fs_r T 1 84 [some (.ref v0), some (.int v1), some (.ref v2), some (.int v3)] [.ref v0] rfl ?_
        refine fs_gs T 87 7 4 v0 rfl rfl rfl rfl h0 ?_
        refine fs_r T 1 88 [some (.ref v0), some (.int v1), some (.ref v2), some (.int v3)] [.int v3, .ref (H.2.1 v0 4)] rfl ?_
        refine fs_aa T 89 (H.2.1 v0 4) 5 rfl rfl (hE.1 _ 7 4 h0) ?_
        intro e3
        refine fs_r T 1 90 [some (.ref v0), some (.int v1), some (.ref v2), some (.int v3)] [.ref (m.2.1 (H.2.1 v0 4) v3.toNatClampNeg), .ref (m.2.1 (H.2.1 v0 4) v3.toNatClampNeg)] rfl ?_
        refine fs_gi T 93 5 0 (m.2.1 (H.2.1 v0 4) v3.toNatClampNeg) rfl rfl rfl rfl e3 ?_
        refine fs_r T 2 95 [some (.ref v0), some (.int v1), some (.ref v2), some (.int v3)] [.int (m.1 (m.2.1 (H.2.1 v0 4) v3.toNatClampNeg) 0 - (1 : Int32)), .ref (m.2.1 (H.2.1 v0 4) v3.toNatClampNeg)] rfl ?_
        refine fs_pi T 98 5 0 (m.2.1 (H.2.1 v0 4) v3.toNatClampNeg) rfl rfl rfl rfl e3 ?_
        intro m2
        refine fs_r T 2 62 [some (.ref v0), some (.int v1), some (.ref v2), some (.int (v3 + 1))] [] rfl ?_
        exact ih _ _
def f_X7_closeCircuit (H : fm_H) (v0 : Nat) (v1 : Int32) (m : fm_M) : Option (Int32 × fm_M) :=
  fm_bn (f_X7_isCircuit H v0 v1 m) fun x1 m1 =>
  if x1 = 0 then
    some ((3 : Int32), m1)
  else
  if px_inb v1 (fm_sz H (H.2.1 v0 3)) = true then
    (if fm_isb H (m1.2.1 (H.2.1 v0 3) v1.toNatClampNeg) 0 = true then
      if m1.1 (m1.2.1 (H.2.1 v0 3) v1.toNatClampNeg) 2 = 0 then
        if 0 < m1.1 (m1.2.1 (H.2.1 v0 3) v1.toNatClampNeg) 3 then
          some ((8 : Int32), m1)
        else
        fm_bn (f_X7_packetsOf H v0 v1 m1) fun x2 m2 =>
        if x2 ≤ 0 then
          if fm_isb H (m2.2.1 (m1.2.1 (H.2.1 v0 3) v1.toNatClampNeg) 13) 10 = true then
            fm_bn (f_X7_giveUpLabels H v0 (m2.2.1 (m1.2.1 (H.2.1 v0 3) v1.toNatClampNeg) 13) m2) fun _ m3 =>
            fm_bn (f_X2_renumberBehind H (H.2.1 v0 1) v1 m3) fun _ m4 =>
            f_X7_closeCircuit_62 H v0 v1 (m1.2.1 (H.2.1 v0 3) v1.toNatClampNeg) fm_N (0 : Int32) m4
          else none
        else
        some ((8 : Int32), m2)
      else
      some ((2 : Int32), m1)
    else none)
  else none
set_option maxRecDepth 10000 in
theorem q_X7_closeCircuit {G : pm_G} {H : fm_H} {d : Nat} {z : fm_Z H} {v0 : Nat} {v1 : Int32} {m : fm_M} (hE : fm_E G H) (h0 : fm_is H v0 7) : fm_cal G H (d + 4) yX7_closeCircuit [.ref v0, .int v1] z m fm_rI (f_X7_closeCircuit H v0 v1 m) := fm_mth (d := d + 3) mt_X7_closeCircuit rfl rfl rfl (fun K => by
  show fm_o fm_rI (f_X7_closeCircuit H v0 v1 m) K → fm_V G H (d + 3) RX7 cX7_closeCircuit (some (.int)) z K 0 [some (.ref v0), some (.int v1), none, none] [] m
  have T : fm_T RX7 cX7_closeCircuit tc_X7_closeCircuit fr_X7 mr_X7 cr_X7 lr_X7 := ⟨tok_X7, dc_X7_closeCircuit⟩
  unfold f_X7_closeCircuit
  refine fs_r T 2 2 [some (.ref v0), some (.int v1), none, none] [.int v1, .ref v0] rfl ?_
  refine fs_vI T 5 rfl rfl rfl rfl rfl rfl h0 (q_X7_isCircuit (d := d + 2) hE h0) ?_
  intro x1 m1
  refine fs_if_ne T 10 8 rfl rfl rfl (fun _ => ?_) (fun _ => ?_)
  · refine fs_r T 1 9 [some (.ref v0), some (.int v1), none, none] [.int (3 : Int32)] rfl ?_
    exact fs_reti T rfl rfl rfl
  · refine fs_r T 1 11 [some (.ref v0), some (.int v1), none, none] [.ref v0] rfl ?_
    refine fs_gs T 14 7 3 v0 rfl rfl rfl rfl h0 ?_
    refine fs_r T 1 15 [some (.ref v0), some (.int v1), none, none] [.int v1, .ref (H.2.1 v0 3)] rfl ?_
    refine fs_aa T 16 (H.2.1 v0 3) 0 rfl rfl (hE.1 _ 7 3 h0) ?_
    intro e4
    refine fs_r T 2 18 [some (.ref v0), some (.int v1), some (.ref (m1.2.1 (H.2.1 v0 3) v1.toNatClampNeg)), none] [.ref (m1.2.1 (H.2.1 v0 3) v1.toNatClampNeg)] rfl ?_
    refine fs_gi T 21 0 2 (m1.2.1 (H.2.1 v0 3) v1.toNatClampNeg) rfl rfl rfl rfl e4 ?_
    refine fs_if_eq T 26 24 rfl rfl rfl (fun _ => ?_) (fun _ => ?_)
    · refine fs_r T 1 27 [some (.ref v0), some (.int v1), some (.ref (m1.2.1 (H.2.1 v0 3) v1.toNatClampNeg)), none] [.ref (m1.2.1 (H.2.1 v0 3) v1.toNatClampNeg)] rfl ?_
      refine fs_gi T 30 0 3 (m1.2.1 (H.2.1 v0 3) v1.toNatClampNeg) rfl rfl rfl rfl e4 ?_
      refine fs_if_gt T 41 33 rfl rfl rfl (fun _ => ?_) (fun _ => ?_)
      · refine fs_r T 1 43 [some (.ref v0), some (.int v1), some (.ref (m1.2.1 (H.2.1 v0 3) v1.toNatClampNeg)), none] [.int (8 : Int32)] rfl ?_
        exact fs_reti T rfl rfl rfl
      · refine fs_r T 2 35 [some (.ref v0), some (.int v1), some (.ref (m1.2.1 (H.2.1 v0 3) v1.toNatClampNeg)), none] [.int v1, .ref v0] rfl ?_
        refine fs_vI T 38 rfl rfl rfl rfl rfl rfl h0 (q_X7_packetsOf (d := d + 2) hE h0) ?_
        intro x2 m2
        refine fs_if_le T 44 41 rfl rfl rfl (fun _ => ?_) (fun _ => ?_)
        · refine fs_r T 2 46 [some (.ref v0), some (.int v1), some (.ref (m1.2.1 (H.2.1 v0 3) v1.toNatClampNeg)), none] [.ref (m1.2.1 (H.2.1 v0 3) v1.toNatClampNeg), .ref v0] rfl ?_
          refine fs_gp T 49 0 13 (m1.2.1 (H.2.1 v0 3) v1.toNatClampNeg) 10 rfl rfl rfl rfl e4 ?_
          intro e5
          refine fs_vV T 52 rfl rfl rfl rfl rfl rfl h0 (q_X7_giveUpLabels (d := d) hE h0 e5) ?_
          intro x3 m3
          refine fs_r T 1 53 [some (.ref v0), some (.int v1), some (.ref (m1.2.1 (H.2.1 v0 3) v1.toNatClampNeg)), none] [.ref v0] rfl ?_
          refine fs_gs T 56 7 1 v0 rfl rfl rfl rfl h0 ?_
          refine fs_r T 1 57 [some (.ref v0), some (.int v1), some (.ref (m1.2.1 (H.2.1 v0 3) v1.toNatClampNeg)), none] [.int v1, .ref (H.2.1 v0 1)] rfl ?_
          refine fs_vV T 60 rfl rfl rfl rfl rfl rfl (hE.1 _ 7 1 h0) (q_X2_renumberBehind (d := d + 2) hE (hE.1 _ 7 1 h0)) ?_
          intro x4 m4
          refine fs_r T 2 62 [some (.ref v0), some (.int v1), some (.ref (m1.2.1 (H.2.1 v0 3) v1.toNatClampNeg)), some (.int (0 : Int32))] [] rfl ?_
          exact w_X7_closeCircuit_62 hE h0 e4 _ _ _
        · refine fs_r T 1 43 [some (.ref v0), some (.int v1), some (.ref (m1.2.1 (H.2.1 v0 3) v1.toNatClampNeg)), none] [.int (8 : Int32)] rfl ?_
          exact fs_reti T rfl rfl rfl
    · refine fs_r T 1 25 [some (.ref v0), some (.int v1), some (.ref (m1.2.1 (H.2.1 v0 3) v1.toNatClampNeg)), none] [.int (2 : Int32)] rfl ?_
      exact fs_reti T rfl rfl rfl)
def f_X10_isSameAs_15 (H : fm_H) (v0 : Nat) (v1 : Nat) : Nat → Int32 → fm_M → Option (Int32 × fm_M)
  | 0, _, _ => none
  | n + 1, v2, m =>
    if m.1 v0 0 ≤ v2 then
      some ((1 : Int32), m)
    else
    if px_inb v2 (fm_sz H (H.2.1 v0 1)) = true then
      if px_inb v2 (fm_sz H (H.2.1 v1 1)) = true then
        if m.1 (H.2.1 v0 1) v2.toNatClampNeg = m.1 (H.2.1 v1 1) v2.toNatClampNeg then
          f_X10_isSameAs_15 H v0 v1 n (v2 + 1) m
        else
        some ((0 : Int32), m)
      else none
    else none
set_option maxRecDepth 10000 in
theorem w_X10_isSameAs_15 {G : pm_G} {H : fm_H} {d : Nat} {z : fm_Z H} {K : pm_R → fm_M → Prop} (hE : fm_E G H) {v0 : Nat} {v1 : Nat} (h0 : fm_is H v0 10) (h1 : fm_is H v1 10) : ∀ (n : Nat) (v2 : Int32) (m : fm_M), fm_o fm_rI (f_X10_isSameAs_15 H v0 v1 n v2 m) K → fm_V G H (d + 0) RX10 cX10_isSameAs (some (.boolean)) z K 15 [some (.ref v0), some (.ref v1), some (.int v2)] [] m := by
  have T : fm_T RX10 cX10_isSameAs tc_X10_isSameAs fr_X10 mr_X10 cr_X10 lr_X10 := ⟨tok_X10, dc_X10_isSameAs⟩
  intro n
  induction n with
  | zero =>
    intro v2 m 
    exact fs_none
  | succ n ih =>
    intro v2 m 
    unfold f_X10_isSameAs_15
    refine fs_r T 2 17 [some (.ref v0), some (.ref v1), some (.int v2)] [.ref v0, .int v2] rfl ?_
    refine fs_gi T 20 10 0 v0 rfl rfl rfl rfl h0 ?_
    refine fs_ic_ge T 46 23 rfl rfl rfl (fun _ => ?_) (fun _ => ?_)
    · refine fs_r T 1 47 [some (.ref v0), some (.ref v1), some (.int v2)] [.int (1 : Int32)] rfl ?_
      exact fs_retc T rfl rfl rfl rfl
    · refine fs_r T 1 24 [some (.ref v0), some (.ref v1), some (.int v2)] [.ref v0] rfl ?_
      refine fs_gs T 27 10 1 v0 rfl rfl rfl rfl h0 ?_
      refine fs_r T 1 28 [some (.ref v0), some (.ref v1), some (.int v2)] [.int v2, .ref (H.2.1 v0 1)] rfl ?_
      refine fs_ai T 29 (H.2.1 v0 1) rfl rfl (hE.1 _ 10 1 h0) ?_
      refine fs_r T 1 30 [some (.ref v0), some (.ref v1), some (.int v2)] [.ref v1, .int (m.1 (H.2.1 v0 1) v2.toNatClampNeg)] rfl ?_
      refine fs_gs T 33 10 1 v1 rfl rfl rfl rfl h1 ?_
      refine fs_r T 1 34 [some (.ref v0), some (.ref v1), some (.int v2)] [.int v2, .ref (H.2.1 v1 1), .int (m.1 (H.2.1 v0 1) v2.toNatClampNeg)] rfl ?_
      refine fs_ai T 35 (H.2.1 v1 1) rfl rfl (hE.1 _ 10 1 h1) ?_
      refine fs_ic_eq T 40 38 rfl rfl rfl (fun _ => ?_) (fun _ => ?_)
      · refine fs_r T 2 15 [some (.ref v0), some (.ref v1), some (.int (v2 + 1))] [] rfl ?_
        exact ih _ _
      · refine fs_r T 1 39 [some (.ref v0), some (.ref v1), some (.int v2)] [.int (0 : Int32)] rfl ?_
        exact fs_retc T rfl rfl rfl rfl
def f_X10_isSameAs (H : fm_H) (v0 : Nat) (v1 : Nat) (m : fm_M) : Option (Int32 × fm_M) :=
  if m.1 v0 0 = m.1 v1 0 then
    f_X10_isSameAs_15 H v0 v1 fm_N (0 : Int32) m
  else
  some ((0 : Int32), m)
set_option maxRecDepth 10000 in
theorem q_X10_isSameAs {G : pm_G} {H : fm_H} {d : Nat} {z : fm_Z H} {v0 : Nat} {v1 : Nat} {m : fm_M} (hE : fm_E G H) (h0 : fm_is H v0 10) (h1 : fm_is H v1 10) : fm_cal G H (d + 1) yX10_isSameAs [.ref v0, .ref v1] z m fm_rI (f_X10_isSameAs H v0 v1 m) := fm_mth (d := d + 0) mt_X10_isSameAs rfl rfl rfl (fun K => by
  show fm_o fm_rI (f_X10_isSameAs H v0 v1 m) K → fm_V G H (d + 0) RX10 cX10_isSameAs (some (.boolean)) z K 0 [some (.ref v0), some (.ref v1), none] [] m
  have T : fm_T RX10 cX10_isSameAs tc_X10_isSameAs fr_X10 mr_X10 cr_X10 lr_X10 := ⟨tok_X10, dc_X10_isSameAs⟩
  unfold f_X10_isSameAs
  refine fs_r T 1 1 [some (.ref v0), some (.ref v1), none] [.ref v0] rfl ?_
  refine fs_gi T 4 10 0 v0 rfl rfl rfl rfl h0 ?_
  refine fs_r T 1 5 [some (.ref v0), some (.ref v1), none] [.ref v1, .int (m.1 v0 0)] rfl ?_
  refine fs_gi T 8 10 0 v1 rfl rfl rfl rfl h1 ?_
  refine fs_ic_eq T 13 11 rfl rfl rfl (fun _ => ?_) (fun _ => ?_)
  · refine fs_r T 2 15 [some (.ref v0), some (.ref v1), some (.int (0 : Int32))] [] rfl ?_
    exact w_X10_isSameAs_15 hE h0 h1 _ _ _
  · refine fs_r T 1 12 [some (.ref v0), some (.ref v1), none] [.int (0 : Int32)] rfl ?_
    exact fs_retc T rfl rfl rfl rfl)
def f_X7_moveAlong (H : fm_H) (v0 : Nat) (v1 : Int32) (v2 : Nat) (m : fm_M) : Option (Int32 × fm_M) :=
  fm_bn (f_X7_isCircuit H v0 v1 m) fun x1 m1 =>
  if x1 = 0 then
    some ((3 : Int32), m1)
  else
  if px_inb v1 (fm_sz H (H.2.1 v0 3)) = true then
    (if fm_isb H (m1.2.1 (H.2.1 v0 3) v1.toNatClampNeg) 0 = true then
      if m1.1 (m1.2.1 (H.2.1 v0 3) v1.toNatClampNeg) 2 = 0 then
        fm_bn (f_X0_hasEndsOf H (m1.2.1 (H.2.1 v0 3) v1.toNatClampNeg) v2 m1) fun x2 m2 =>
        if x2 = 0 then
          some ((3 : Int32), m2)
        else
        if fm_isb H (m2.2.1 (m1.2.1 (H.2.1 v0 3) v1.toNatClampNeg) 13) 10 = true then
          fm_bn (f_X10_isSameAs H (m2.2.1 (m1.2.1 (H.2.1 v0 3) v1.toNatClampNeg) 13) v2 m2) fun x3 m3 =>
          if x3 = 0 then
            fm_bn (f_X7_hasRoomAlong H v0 v2 (m3.1 (m1.2.1 (H.2.1 v0 3) v1.toNatClampNeg) 0) v1 m3) fun x4 m4 =>
            if x4 = 0 then
              some ((5 : Int32), m4)
            else
            if fm_isb H (m4.2.1 (m1.2.1 (H.2.1 v0 3) v1.toNatClampNeg) 14) 10 = true then
              fm_bn (f_X10_copyNodes H (m4.2.1 (m1.2.1 (H.2.1 v0 3) v1.toNatClampNeg) 14) v2 m4) fun _ m5 =>
              if fm_isb H (m5.2.1 (m1.2.1 (H.2.1 v0 3) v1.toNatClampNeg) 14) 10 = true then
                fm_bn (f_X7_takeLabels H v0 (m5.2.1 (m1.2.1 (H.2.1 v0 3) v1.toNatClampNeg) 14) v1 m5) fun x6 m6 =>
                if x6 = 0 then
                  if fm_isb H (m6.2.1 (m1.2.1 (H.2.1 v0 3) v1.toNatClampNeg) 14) 10 = true then
                    fm_bn (f_X10_erase H (m6.2.1 (m1.2.1 (H.2.1 v0 3) v1.toNatClampNeg) 14) m6) fun _ m9 =>
                    some ((6 : Int32), m9)
                  else none
                else
                fm_bd (fm_si m6 (m1.2.1 (H.2.1 v0 3) v1.toNatClampNeg) 2 (1 : Int32)) fun m7 =>
                if fm_isb H (m7.2.1 (m1.2.1 (H.2.1 v0 3) v1.toNatClampNeg) 14) 10 = true then
                  fm_bd (fm_si m7 (m1.2.1 (H.2.1 v0 3) v1.toNatClampNeg) 10 (m7.1 (m7.2.1 (m1.2.1 (H.2.1 v0 3) v1.toNatClampNeg) 14) 0 - (1 : Int32))) fun m8 =>
                  some ((0 : Int32), m8)
                else none
              else none
            else none
          else
          some ((4 : Int32), m3)
        else none
      else
      some ((2 : Int32), m1)
    else none)
  else none
set_option maxRecDepth 10000 in
theorem q_X7_moveAlong {G : pm_G} {H : fm_H} {d : Nat} {z : fm_Z H} {v0 : Nat} {v1 : Int32} {v2 : Nat} {m : fm_M} (hE : fm_E G H) (h0 : fm_is H v0 7) (h2 : fm_is H v2 10) : fm_cal G H (d + 5) yX7_moveAlong [.ref v0, .int v1, .ref v2] z m fm_rI (f_X7_moveAlong H v0 v1 v2 m) := fm_mth (d := d + 4) mt_X7_moveAlong rfl rfl rfl (fun K => by
  show fm_o fm_rI (f_X7_moveAlong H v0 v1 v2 m) K → fm_V G H (d + 4) RX7 cX7_moveAlong (some (.int)) z K 0 [some (.ref v0), some (.int v1), some (.ref v2), none] [] m
  have T : fm_T RX7 cX7_moveAlong tc_X7_moveAlong fr_X7 mr_X7 cr_X7 lr_X7 := ⟨tok_X7, dc_X7_moveAlong⟩
  unfold f_X7_moveAlong
  refine fs_r T 2 2 [some (.ref v0), some (.int v1), some (.ref v2), none] [.int v1, .ref v0] rfl ?_
  refine fs_vI T 5 rfl rfl rfl rfl rfl rfl h0 (q_X7_isCircuit (d := d + 3) hE h0) ?_
  intro x1 m1
  refine fs_if_ne T 10 8 rfl rfl rfl (fun _ => ?_) (fun _ => ?_)
  · refine fs_r T 1 9 [some (.ref v0), some (.int v1), some (.ref v2), none] [.int (3 : Int32)] rfl ?_
    exact fs_reti T rfl rfl rfl
  · refine fs_r T 1 11 [some (.ref v0), some (.int v1), some (.ref v2), none] [.ref v0] rfl ?_
    refine fs_gs T 14 7 3 v0 rfl rfl rfl rfl h0 ?_
    refine fs_r T 1 15 [some (.ref v0), some (.int v1), some (.ref v2), none] [.int v1, .ref (H.2.1 v0 3)] rfl ?_
    refine fs_aa T 16 (H.2.1 v0 3) 0 rfl rfl (hE.1 _ 7 3 h0) ?_
    intro e1
    refine fs_r T 2 18 [some (.ref v0), some (.int v1), some (.ref v2), some (.ref (m1.2.1 (H.2.1 v0 3) v1.toNatClampNeg))] [.ref (m1.2.1 (H.2.1 v0 3) v1.toNatClampNeg)] rfl ?_
    refine fs_gi T 21 0 2 (m1.2.1 (H.2.1 v0 3) v1.toNatClampNeg) rfl rfl rfl rfl e1 ?_
    refine fs_if_eq T 26 24 rfl rfl rfl (fun _ => ?_) (fun _ => ?_)
    · refine fs_r T 2 28 [some (.ref v0), some (.int v1), some (.ref v2), some (.ref (m1.2.1 (H.2.1 v0 3) v1.toNatClampNeg))] [.ref v2, .ref (m1.2.1 (H.2.1 v0 3) v1.toNatClampNeg)] rfl ?_
      refine fs_vI T 31 rfl rfl rfl rfl rfl rfl e1 (q_X0_hasEndsOf (d := d + 1) hE e1 h2) ?_
      intro x2 m2
      refine fs_if_ne T 36 34 rfl rfl rfl (fun _ => ?_) (fun _ => ?_)
      · refine fs_r T 1 35 [some (.ref v0), some (.int v1), some (.ref v2), some (.ref (m1.2.1 (H.2.1 v0 3) v1.toNatClampNeg))] [.int (3 : Int32)] rfl ?_
        exact fs_reti T rfl rfl rfl
      · refine fs_r T 1 37 [some (.ref v0), some (.int v1), some (.ref v2), some (.ref (m1.2.1 (H.2.1 v0 3) v1.toNatClampNeg))] [.ref (m1.2.1 (H.2.1 v0 3) v1.toNatClampNeg)] rfl ?_
        refine fs_gp T 40 0 13 (m1.2.1 (H.2.1 v0 3) v1.toNatClampNeg) 10 rfl rfl rfl rfl e1 ?_
        intro e2
        refine fs_r T 1 41 [some (.ref v0), some (.int v1), some (.ref v2), some (.ref (m1.2.1 (H.2.1 v0 3) v1.toNatClampNeg))] [.ref v2, .ref (m2.2.1 (m1.2.1 (H.2.1 v0 3) v1.toNatClampNeg) 13)] rfl ?_
        refine fs_vI T 44 rfl rfl rfl rfl rfl rfl e2 (q_X10_isSameAs (d := d + 3) hE e2 h2) ?_
        intro x3 m3
        refine fs_if_eq T 49 47 rfl rfl rfl (fun _ => ?_) (fun _ => ?_)
        · refine fs_r T 3 52 [some (.ref v0), some (.int v1), some (.ref v2), some (.ref (m1.2.1 (H.2.1 v0 3) v1.toNatClampNeg))] [.ref (m1.2.1 (H.2.1 v0 3) v1.toNatClampNeg), .ref v2, .ref v0] rfl ?_
          refine fs_gi T 55 0 0 (m1.2.1 (H.2.1 v0 3) v1.toNatClampNeg) rfl rfl rfl rfl e1 ?_
          refine fs_r T 1 56 [some (.ref v0), some (.int v1), some (.ref v2), some (.ref (m1.2.1 (H.2.1 v0 3) v1.toNatClampNeg))] [.int v1, .int (m3.1 (m1.2.1 (H.2.1 v0 3) v1.toNatClampNeg) 0), .ref v2, .ref v0] rfl ?_
          refine fs_vI T 59 rfl rfl rfl rfl rfl rfl h0 (q_X7_hasRoomAlong (d := d) hE h0 h2) ?_
          intro x4 m4
          refine fs_if_ne T 64 62 rfl rfl rfl (fun _ => ?_) (fun _ => ?_)
          · refine fs_r T 1 63 [some (.ref v0), some (.int v1), some (.ref v2), some (.ref (m1.2.1 (H.2.1 v0 3) v1.toNatClampNeg))] [.int (5 : Int32)] rfl ?_
            exact fs_reti T rfl rfl rfl
          · refine fs_r T 1 65 [some (.ref v0), some (.int v1), some (.ref v2), some (.ref (m1.2.1 (H.2.1 v0 3) v1.toNatClampNeg))] [.ref (m1.2.1 (H.2.1 v0 3) v1.toNatClampNeg)] rfl ?_
            refine fs_gp T 68 0 14 (m1.2.1 (H.2.1 v0 3) v1.toNatClampNeg) 10 rfl rfl rfl rfl e1 ?_
            intro e3
            refine fs_r T 1 69 [some (.ref v0), some (.int v1), some (.ref v2), some (.ref (m1.2.1 (H.2.1 v0 3) v1.toNatClampNeg))] [.ref v2, .ref (m4.2.1 (m1.2.1 (H.2.1 v0 3) v1.toNatClampNeg) 14)] rfl ?_
            refine fs_vV T 72 rfl rfl rfl rfl rfl rfl e3 (q_X10_copyNodes (d := d + 3) hE e3 h2) ?_
            intro x5 m5
            refine fs_r T 2 74 [some (.ref v0), some (.int v1), some (.ref v2), some (.ref (m1.2.1 (H.2.1 v0 3) v1.toNatClampNeg))] [.ref (m1.2.1 (H.2.1 v0 3) v1.toNatClampNeg), .ref v0] rfl ?_
            refine fs_gp T 77 0 14 (m1.2.1 (H.2.1 v0 3) v1.toNatClampNeg) 10 rfl rfl rfl rfl e1 ?_
            intro e4
            refine fs_r T 1 78 [some (.ref v0), some (.int v1), some (.ref v2), some (.ref (m1.2.1 (H.2.1 v0 3) v1.toNatClampNeg))] [.int v1, .ref (m5.2.1 (m1.2.1 (H.2.1 v0 3) v1.toNatClampNeg) 14), .ref v0] rfl ?_
            refine fs_vI T 81 rfl rfl rfl rfl rfl rfl h0 (q_X7_takeLabels (d := d) hE h0 e4) ?_
            intro x6 m6
            refine fs_if_ne T 94 84 rfl rfl rfl (fun _ => ?_) (fun _ => ?_)
            · refine fs_r T 1 85 [some (.ref v0), some (.int v1), some (.ref v2), some (.ref (m1.2.1 (H.2.1 v0 3) v1.toNatClampNeg))] [.ref (m1.2.1 (H.2.1 v0 3) v1.toNatClampNeg)] rfl ?_
              refine fs_gp T 88 0 14 (m1.2.1 (H.2.1 v0 3) v1.toNatClampNeg) 10 rfl rfl rfl rfl e1 ?_
              intro e6
              refine fs_vV T 91 rfl rfl rfl rfl rfl rfl e6 (q_X10_erase (d := d + 3) hE e6) ?_
              intro x7 m9
              refine fs_r T 1 93 [some (.ref v0), some (.int v1), some (.ref v2), some (.ref (m1.2.1 (H.2.1 v0 3) v1.toNatClampNeg))] [.int (6 : Int32)] rfl ?_
              exact fs_reti T rfl rfl rfl
            · refine fs_r T 2 96 [some (.ref v0), some (.int v1), some (.ref v2), some (.ref (m1.2.1 (H.2.1 v0 3) v1.toNatClampNeg))] [.int (1 : Int32), .ref (m1.2.1 (H.2.1 v0 3) v1.toNatClampNeg)] rfl ?_
              refine fs_pi T 99 0 2 (m1.2.1 (H.2.1 v0 3) v1.toNatClampNeg) rfl rfl rfl rfl e1 ?_
              intro m7
              refine fs_r T 2 101 [some (.ref v0), some (.int v1), some (.ref v2), some (.ref (m1.2.1 (H.2.1 v0 3) v1.toNatClampNeg))] [.ref (m1.2.1 (H.2.1 v0 3) v1.toNatClampNeg), .ref (m1.2.1 (H.2.1 v0 3) v1.toNatClampNeg)] rfl ?_
              refine fs_gp T 104 0 14 (m1.2.1 (H.2.1 v0 3) v1.toNatClampNeg) 10 rfl rfl rfl rfl e1 ?_
              intro e5
              refine fs_gi T 107 10 0 (m7.2.1 (m1.2.1 (H.2.1 v0 3) v1.toNatClampNeg) 14) rfl rfl rfl rfl e5 ?_
              refine fs_r T 2 109 [some (.ref v0), some (.int v1), some (.ref v2), some (.ref (m1.2.1 (H.2.1 v0 3) v1.toNatClampNeg))] [.int (m7.1 (m7.2.1 (m1.2.1 (H.2.1 v0 3) v1.toNatClampNeg) 14) 0 - (1 : Int32)), .ref (m1.2.1 (H.2.1 v0 3) v1.toNatClampNeg)] rfl ?_
              refine fs_pi T 112 0 10 (m1.2.1 (H.2.1 v0 3) v1.toNatClampNeg) rfl rfl rfl rfl e1 ?_
              intro m8
              refine fs_r T 1 113 [some (.ref v0), some (.int v1), some (.ref v2), some (.ref (m1.2.1 (H.2.1 v0 3) v1.toNatClampNeg))] [.int (0 : Int32)] rfl ?_
              exact fs_reti T rfl rfl rfl
        · refine fs_r T 1 48 [some (.ref v0), some (.int v1), some (.ref v2), some (.ref (m1.2.1 (H.2.1 v0 3) v1.toNatClampNeg))] [.int (4 : Int32)] rfl ?_
          exact fs_reti T rfl rfl rfl
    · refine fs_r T 1 25 [some (.ref v0), some (.int v1), some (.ref v2), some (.ref (m1.2.1 (H.2.1 v0 3) v1.toNatClampNeg))] [.int (2 : Int32)] rfl ?_
      exact fs_reti T rfl rfl rfl)
def f_X7_abortMove (H : fm_H) (v0 : Nat) (v1 : Int32) (m : fm_M) : Option (Int32 × fm_M) :=
  fm_bn (f_X7_isCircuit H v0 v1 m) fun x1 m1 =>
  if x1 = 0 then
    some ((7 : Int32), m1)
  else
  if px_inb v1 (fm_sz H (H.2.1 v0 3)) = true then
    (if fm_isb H (m1.2.1 (H.2.1 v0 3) v1.toNatClampNeg) 0 = true then
      if m1.1 (m1.2.1 (H.2.1 v0 3) v1.toNatClampNeg) 2 = (1 : Int32) then
        if px_inb v1 (fm_sz H (H.2.1 v0 3)) = true then
          (if fm_isb H (m1.2.1 (H.2.1 v0 3) v1.toNatClampNeg) 0 = true then
            if fm_isb H (m1.2.1 (m1.2.1 (H.2.1 v0 3) v1.toNatClampNeg) 14) 10 = true then
              fm_bn (f_X7_giveUpLabels H v0 (m1.2.1 (m1.2.1 (H.2.1 v0 3) v1.toNatClampNeg) 14) m1) fun _ m2 =>
              if fm_isb H (m2.2.1 (m1.2.1 (H.2.1 v0 3) v1.toNatClampNeg) 14) 10 = true then
                fm_bn (f_X10_erase H (m2.2.1 (m1.2.1 (H.2.1 v0 3) v1.toNatClampNeg) 14) m2) fun _ m3 =>
                fm_bd (fm_si m3 (m1.2.1 (H.2.1 v0 3) v1.toNatClampNeg) 2 (0 : Int32)) fun m4 =>
                fm_bd (fm_si m4 (m1.2.1 (H.2.1 v0 3) v1.toNatClampNeg) 10 (0 : Int32)) fun m5 =>
                fm_bd (fm_si m5 (H.2.1 v0 2) 6 (m5.1 (H.2.1 v0 2) 6 + (1 : Int32))) fun m6 =>
                some ((0 : Int32), m6)
              else none
            else none
          else none)
        else none
      else
      some ((7 : Int32), m1)
    else none)
  else none
set_option maxRecDepth 10000 in
theorem q_X7_abortMove {G : pm_G} {H : fm_H} {d : Nat} {z : fm_Z H} {v0 : Nat} {v1 : Int32} {m : fm_M} (hE : fm_E G H) (h0 : fm_is H v0 7) : fm_cal G H (d + 4) yX7_abortMove [.ref v0, .int v1] z m fm_rI (f_X7_abortMove H v0 v1 m) := fm_mth (d := d + 3) mt_X7_abortMove rfl rfl rfl (fun K => by
  show fm_o fm_rI (f_X7_abortMove H v0 v1 m) K → fm_V G H (d + 3) RX7 cX7_abortMove (some (.int)) z K 0 [some (.ref v0), some (.int v1), none] [] m
  have T : fm_T RX7 cX7_abortMove tc_X7_abortMove fr_X7 mr_X7 cr_X7 lr_X7 := ⟨tok_X7, dc_X7_abortMove⟩
  unfold f_X7_abortMove
  refine fs_r T 2 2 [some (.ref v0), some (.int v1), none] [.int v1, .ref v0] rfl ?_
  refine fs_vI T 5 rfl rfl rfl rfl rfl rfl h0 (q_X7_isCircuit (d := d + 2) hE h0) ?_
  intro x1 m1
  refine fs_if_eq T 21 8 rfl rfl rfl (fun _ => ?_) (fun _ => ?_)
  · refine fs_r T 1 23 [some (.ref v0), some (.int v1), none] [.int (7 : Int32)] rfl ?_
    exact fs_reti T rfl rfl rfl
  · refine fs_r T 1 9 [some (.ref v0), some (.int v1), none] [.ref v0] rfl ?_
    refine fs_gs T 12 7 3 v0 rfl rfl rfl rfl h0 ?_
    refine fs_r T 1 13 [some (.ref v0), some (.int v1), none] [.int v1, .ref (H.2.1 v0 3)] rfl ?_
    refine fs_aa T 14 (H.2.1 v0 3) 0 rfl rfl (hE.1 _ 7 3 h0) ?_
    intro e1
    refine fs_gi T 17 0 2 (m1.2.1 (H.2.1 v0 3) v1.toNatClampNeg) rfl rfl rfl rfl e1 ?_
    refine fs_r T 1 18 [some (.ref v0), some (.int v1), none] [.int (1 : Int32), .int (m1.1 (m1.2.1 (H.2.1 v0 3) v1.toNatClampNeg) 2)] rfl ?_
    refine fs_ic_eq T 24 21 rfl rfl rfl (fun _ => ?_) (fun _ => ?_)
    · refine fs_r T 1 25 [some (.ref v0), some (.int v1), none] [.ref v0] rfl ?_
      refine fs_gs T 28 7 3 v0 rfl rfl rfl rfl h0 ?_
      refine fs_r T 1 29 [some (.ref v0), some (.int v1), none] [.int v1, .ref (H.2.1 v0 3)] rfl ?_
      refine fs_aa T 30 (H.2.1 v0 3) 0 rfl rfl (hE.1 _ 7 3 h0) ?_
      intro e2
      refine fs_r T 3 33 [some (.ref v0), some (.int v1), some (.ref (m1.2.1 (H.2.1 v0 3) v1.toNatClampNeg))] [.ref (m1.2.1 (H.2.1 v0 3) v1.toNatClampNeg), .ref v0] rfl ?_
      refine fs_gp T 36 0 14 (m1.2.1 (H.2.1 v0 3) v1.toNatClampNeg) 10 rfl rfl rfl rfl e2 ?_
      intro e3
      refine fs_vV T 39 rfl rfl rfl rfl rfl rfl h0 (q_X7_giveUpLabels (d := d) hE h0 e3) ?_
      intro x2 m2
      refine fs_r T 1 40 [some (.ref v0), some (.int v1), some (.ref (m1.2.1 (H.2.1 v0 3) v1.toNatClampNeg))] [.ref (m1.2.1 (H.2.1 v0 3) v1.toNatClampNeg)] rfl ?_
      refine fs_gp T 43 0 14 (m1.2.1 (H.2.1 v0 3) v1.toNatClampNeg) 10 rfl rfl rfl rfl e2 ?_
      intro e4
      refine fs_vV T 46 rfl rfl rfl rfl rfl rfl e4 (q_X10_erase (d := d + 2) hE e4) ?_
      intro x3 m3
      refine fs_r T 2 48 [some (.ref v0), some (.int v1), some (.ref (m1.2.1 (H.2.1 v0 3) v1.toNatClampNeg))] [.int (0 : Int32), .ref (m1.2.1 (H.2.1 v0 3) v1.toNatClampNeg)] rfl ?_
      refine fs_pi T 51 0 2 (m1.2.1 (H.2.1 v0 3) v1.toNatClampNeg) rfl rfl rfl rfl e2 ?_
      intro m4
      refine fs_r T 2 53 [some (.ref v0), some (.int v1), some (.ref (m1.2.1 (H.2.1 v0 3) v1.toNatClampNeg))] [.int (0 : Int32), .ref (m1.2.1 (H.2.1 v0 3) v1.toNatClampNeg)] rfl ?_
      refine fs_pi T 56 0 10 (m1.2.1 (H.2.1 v0 3) v1.toNatClampNeg) rfl rfl rfl rfl e2 ?_
      intro m5
      refine fs_r T 1 57 [some (.ref v0), some (.int v1), some (.ref (m1.2.1 (H.2.1 v0 3) v1.toNatClampNeg))] [.ref v0] rfl ?_
      refine fs_gs T 60 7 2 v0 rfl rfl rfl rfl h0 ?_
      refine fs_r T 1 61 [some (.ref v0), some (.int v1), some (.ref (m1.2.1 (H.2.1 v0 3) v1.toNatClampNeg))] [.ref (H.2.1 v0 2), .ref (H.2.1 v0 2)] rfl ?_
      refine fs_gi T 64 9 6 (H.2.1 v0 2) rfl rfl rfl rfl (hE.1 _ 7 2 h0) ?_
      refine fs_r T 2 66 [some (.ref v0), some (.int v1), some (.ref (m1.2.1 (H.2.1 v0 3) v1.toNatClampNeg))] [.int (m5.1 (H.2.1 v0 2) 6 + (1 : Int32)), .ref (H.2.1 v0 2)] rfl ?_
      refine fs_pi T 69 9 6 (H.2.1 v0 2) rfl rfl rfl rfl (hE.1 _ 7 2 h0) ?_
      intro m6
      refine fs_r T 1 70 [some (.ref v0), some (.int v1), some (.ref (m1.2.1 (H.2.1 v0 3) v1.toNatClampNeg))] [.int (0 : Int32)] rfl ?_
      exact fs_reti T rfl rfl rfl
    · refine fs_r T 1 23 [some (.ref v0), some (.int v1), none] [.int (7 : Int32)] rfl ?_
      exact fs_reti T rfl rfl rfl)
def f_X7_addToBacklog (H : fm_H) (v0 : Nat) (v1 : Nat) (v2 : Int32) (m : fm_M) : Option (Unit × fm_M) :=
  fm_bd (fm_si m v1 3 (pm_mm false (m.1 v1 3 + v2) (9 : Int32))) fun m1 =>
  fm_bd (fm_si m1 (H.2.1 v0 2) 3 (m1.1 (H.2.1 v0 2) 3 + ((m.1 v1 3 + v2) - m1.1 v1 3))) fun m2 =>
  some ((), m2)
set_option maxRecDepth 10000 in
theorem q_X7_addToBacklog {G : pm_G} {H : fm_H} {d : Nat} {z : fm_Z H} {v0 : Nat} {v1 : Nat} {v2 : Int32} {m : fm_M} (hE : fm_E G H) (h0 : fm_is H v0 7) (h1 : fm_is H v1 0) : fm_cal G H (d + 1) yX7_addToBacklog [.ref v0, .ref v1, .int v2] z m fm_rV (f_X7_addToBacklog H v0 v1 v2 m) := fm_mth (d := d + 0) mt_X7_addToBacklog rfl rfl rfl (fun K => by
  show fm_o fm_rV (f_X7_addToBacklog H v0 v1 v2 m) K → fm_V G H (d + 0) RX7 cX7_addToBacklog none z K 0 [some (.ref v0), some (.ref v1), some (.int v2), none] [] m
  have T : fm_T RX7 cX7_addToBacklog tc_X7_addToBacklog fr_X7 mr_X7 cr_X7 lr_X7 := ⟨tok_X7, dc_X7_addToBacklog⟩
  unfold f_X7_addToBacklog
  refine fs_r T 1 1 [some (.ref v0), some (.ref v1), some (.int v2), none] [.ref v1] rfl ?_
  refine fs_gi T 4 0 3 v1 rfl rfl rfl rfl h1 ?_
  refine fs_r T 6 11 [some (.ref v0), some (.ref v1), some (.int v2), some (.int (m.1 v1 3 + v2))] [.int (9 : Int32), .int (m.1 v1 3 + v2), .ref v1] rfl ?_
  refine fs_mm T 14 rfl ma_X7_230 rfl rfl ?_
  refine fs_pi T 17 0 3 v1 rfl rfl rfl rfl h1 ?_
  intro m1
  refine fs_r T 1 18 [some (.ref v0), some (.ref v1), some (.int v2), some (.int (m.1 v1 3 + v2))] [.ref v0] rfl ?_
  refine fs_gs T 21 7 2 v0 rfl rfl rfl rfl h0 ?_
  refine fs_r T 1 22 [some (.ref v0), some (.ref v1), some (.int v2), some (.int (m.1 v1 3 + v2))] [.ref (H.2.1 v0 2), .ref (H.2.1 v0 2)] rfl ?_
  refine fs_gi T 25 9 3 (H.2.1 v0 2) rfl rfl rfl rfl (hE.1 _ 7 2 h0) ?_
  refine fs_r T 2 27 [some (.ref v0), some (.ref v1), some (.int v2), some (.int (m.1 v1 3 + v2))] [.ref v1, .int (m.1 v1 3 + v2), .int (m1.1 (H.2.1 v0 2) 3), .ref (H.2.1 v0 2)] rfl ?_
  refine fs_gi T 30 0 3 v1 rfl rfl rfl rfl h1 ?_
  refine fs_r T 2 32 [some (.ref v0), some (.ref v1), some (.int v2), some (.int (m.1 v1 3 + v2))] [.int (m1.1 (H.2.1 v0 2) 3 + ((m.1 v1 3 + v2) - m1.1 v1 3)), .ref (H.2.1 v0 2)] rfl ?_
  refine fs_pi T 35 9 3 (H.2.1 v0 2) rfl rfl rfl rfl (hE.1 _ 7 2 h0) ?_
  intro m2
  exact fs_retv T rfl rfl rfl)
def f_X10_heldSlots_4 (H : fm_H) (v0 : Nat) : Nat → Int32 → Int32 → fm_M → Option (Int32 × fm_M)
  | 0, _, _, _ => none
  | n + 1, v1, v2, m =>
    if m.1 v0 0 ≤ v2 then
      some (v1, m)
    else
    if px_inb v2 (fm_sz H (H.2.1 v0 3)) = true then
      if m.1 (H.2.1 v0 3) v2.toNatClampNeg = (-1 : Int32) then
        f_X10_heldSlots_4 H v0 n v1 (v2 + 1) m
      else
      f_X10_heldSlots_4 H v0 n (v1 + 1) (v2 + 1) m
    else none
set_option maxRecDepth 10000 in
theorem w_X10_heldSlots_4 {G : pm_G} {H : fm_H} {d : Nat} {z : fm_Z H} {K : pm_R → fm_M → Prop} (hE : fm_E G H) {v0 : Nat} (h0 : fm_is H v0 10) : ∀ (n : Nat) (v1 : Int32) (v2 : Int32) (m : fm_M), fm_o fm_rI (f_X10_heldSlots_4 H v0 n v1 v2 m) K → fm_V G H (d + 0) RX10 cX10_heldSlots (some (.int)) z K 4 [some (.ref v0), some (.int v1), some (.int v2)] [] m := by
  have T : fm_T RX10 cX10_heldSlots tc_X10_heldSlots fr_X10 mr_X10 cr_X10 lr_X10 := ⟨tok_X10, dc_X10_heldSlots⟩
  intro n
  induction n with
  | zero =>
    intro v1 v2 m 
    exact fs_none
  | succ n ih =>
    intro v1 v2 m 
    unfold f_X10_heldSlots_4
    refine fs_r T 2 6 [some (.ref v0), some (.int v1), some (.int v2)] [.ref v0, .int v2] rfl ?_
    refine fs_gi T 9 10 0 v0 rfl rfl rfl rfl h0 ?_
    refine fs_ic_ge T 31 12 rfl rfl rfl (fun _ => ?_) (fun _ => ?_)
    · refine fs_r T 1 32 [some (.ref v0), some (.int v1), some (.int v2)] [.int v1] rfl ?_
      exact fs_reti T rfl rfl rfl
    · refine fs_r T 1 13 [some (.ref v0), some (.int v1), some (.int v2)] [.ref v0] rfl ?_
      refine fs_gs T 16 10 3 v0 rfl rfl rfl rfl h0 ?_
      refine fs_r T 1 17 [some (.ref v0), some (.int v1), some (.int v2)] [.int v2, .ref (H.2.1 v0 3)] rfl ?_
      refine fs_ai T 18 (H.2.1 v0 3) rfl rfl (hE.1 _ 10 3 h0) ?_
      refine fs_r T 1 19 [some (.ref v0), some (.int v1), some (.int v2)] [.int (-1 : Int32), .int (m.1 (H.2.1 v0 3) v2.toNatClampNeg)] rfl ?_
      refine fs_ic_eq T 25 22 rfl rfl rfl (fun _ => ?_) (fun _ => ?_)
      · refine fs_r T 2 4 [some (.ref v0), some (.int v1), some (.int (v2 + 1))] [] rfl ?_
        exact ih _ _ _
      · refine fs_r T 3 4 [some (.ref v0), some (.int (v1 + 1)), some (.int (v2 + 1))] [] rfl ?_
        exact ih _ _ _
def f_X10_heldSlots (H : fm_H) (v0 : Nat) (m : fm_M) : Option (Int32 × fm_M) :=
  f_X10_heldSlots_4 H v0 fm_N (0 : Int32) (1 : Int32) m
set_option maxRecDepth 10000 in
theorem q_X10_heldSlots {G : pm_G} {H : fm_H} {d : Nat} {z : fm_Z H} {v0 : Nat} {m : fm_M} (hE : fm_E G H) (h0 : fm_is H v0 10) : fm_cal G H (d + 1) yX10_heldSlots [.ref v0] z m fm_rI (f_X10_heldSlots H v0 m) := fm_mth (d := d + 0) mt_X10_heldSlots rfl rfl rfl (fun K => by
  show fm_o fm_rI (f_X10_heldSlots H v0 m) K → fm_V G H (d + 0) RX10 cX10_heldSlots (some (.int)) z K 0 [some (.ref v0), none, none] [] m
  have T : fm_T RX10 cX10_heldSlots tc_X10_heldSlots fr_X10 mr_X10 cr_X10 lr_X10 := ⟨tok_X10, dc_X10_heldSlots⟩
  unfold f_X10_heldSlots
  refine fs_r T 4 4 [some (.ref v0), some (.int (0 : Int32)), some (.int (1 : Int32))] [] rfl ?_
  exact w_X10_heldSlots_4 hE h0 _ _ _ _)
