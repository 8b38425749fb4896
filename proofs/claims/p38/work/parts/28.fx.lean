/-! functions out of the code -/
def f_X2_hasMadeEntry (H : fm_H) (v0 : Nat) (v1 : Int32) (v2 : Int32) (m : fm_M) : Option (Int32 × fm_M) :=
  fm_bn (f_X2_isSlot H v1 m) fun x1 m1 =>
  if x1 = 0 then
    some ((0 : Int32), m1)
  else
  if px_inb v1 (fm_sz H (H.2.1 v0 1)) = true then
    if m1.1 (H.2.1 v0 1) v1.toNatClampNeg = v2 then
      if px_inb v1 (fm_sz H (H.2.1 v0 3)) = true then
        if m1.1 (H.2.1 v0 3) v1.toNatClampNeg = (1 : Int32) then
          some ((1 : Int32), m1)
        else
        some ((0 : Int32), m1)
      else none
    else
    some ((0 : Int32), m1)
  else none
set_option maxRecDepth 10000 in
theorem q_X2_hasMadeEntry {G : pm_G} {H : fm_H} {d : Nat} {z : fm_Z H} {v0 : Nat} {v1 : Int32} {v2 : Int32} {m : fm_M} (hE : fm_E G H) (h0 : fm_is H v0 2) : fm_cal G H (d + 2) yX2_hasMadeEntry [.ref v0, .int v1, .int v2] z m fm_rI (f_X2_hasMadeEntry H v0 v1 v2 m) := fm_mth (d := d + 1) mt_X2_hasMadeEntry rfl rfl rfl (fun K => by
  show fm_o fm_rI (f_X2_hasMadeEntry H v0 v1 v2 m) K → fm_V G H (d + 1) RX2 cX2_hasMadeEntry (some (.boolean)) z K 0 [some (.ref v0), some (.int v1), some (.int v2)] [] m
  have T : fm_T RX2 cX2_hasMadeEntry tc_X2_hasMadeEntry fr_X2 mr_X2 cr_X2 lr_X2 := ⟨tok_X2, dc_X2_hasMadeEntry⟩
  unfold f_X2_hasMadeEntry
  refine fs_r T 1 1 [some (.ref v0), some (.int v1), some (.int v2)] [.int v1] rfl ?_
  refine fs_sI T 4 rfl rfl rfl rfl rfl rfl rfl (q_X2_isSlot (d := d) hE ) ?_
  intro x1 m1
  refine fs_if_eq T 31 7 rfl rfl rfl (fun _ => ?_) (fun _ => ?_)
  · refine fs_r T 1 32 [some (.ref v0), some (.int v1), some (.int v2)] [.int (0 : Int32)] rfl ?_
    exact fs_retc T rfl rfl rfl rfl
  · refine fs_r T 1 8 [some (.ref v0), some (.int v1), some (.int v2)] [.ref v0] rfl ?_
    refine fs_gs T 11 2 1 v0 rfl rfl rfl rfl h0 ?_
    refine fs_r T 1 12 [some (.ref v0), some (.int v1), some (.int v2)] [.int v1, .ref (H.2.1 v0 1)] rfl ?_
    refine fs_ai T 13 (H.2.1 v0 1) rfl rfl (hE.1 _ 2 1 h0) ?_
    refine fs_r T 1 14 [some (.ref v0), some (.int v1), some (.int v2)] [.int v2, .int (m1.1 (H.2.1 v0 1) v1.toNatClampNeg)] rfl ?_
    refine fs_ic_ne T 31 17 rfl rfl rfl (fun _ => ?_) (fun _ => ?_)
    · refine fs_r T 1 18 [some (.ref v0), some (.int v1), some (.int v2)] [.ref v0] rfl ?_
      refine fs_gs T 21 2 3 v0 rfl rfl rfl rfl h0 ?_
      refine fs_r T 1 22 [some (.ref v0), some (.int v1), some (.int v2)] [.int v1, .ref (H.2.1 v0 3)] rfl ?_
      refine fs_ai T 23 (H.2.1 v0 3) rfl rfl (hE.1 _ 2 3 h0) ?_
      refine fs_r T 1 24 [some (.ref v0), some (.int v1), some (.int v2)] [.int (1 : Int32), .int (m1.1 (H.2.1 v0 3) v1.toNatClampNeg)] rfl ?_
      refine fs_ic_ne T 31 27 rfl rfl rfl (fun _ => ?_) (fun _ => ?_)
      · refine fs_r T 2 32 [some (.ref v0), some (.int v1), some (.int v2)] [.int (1 : Int32)] rfl ?_
        exact fs_retc T rfl rfl rfl rfl
      · refine fs_r T 1 32 [some (.ref v0), some (.int v1), some (.int v2)] [.int (0 : Int32)] rfl ?_
        exact fs_retc T rfl rfl rfl rfl
    · refine fs_r T 1 32 [some (.ref v0), some (.int v1), some (.int v2)] [.int (0 : Int32)] rfl ?_
      exact fs_retc T rfl rfl rfl rfl)
def f_X2_held_17 (H : fm_H) (v0 : Nat) (v1 : Int32) (v2 : Int32) : Nat → Int32 → Int32 → fm_M → Option (Int32 × fm_M)
  | 0, _, _, _ => none
  | n + 1, v3, v4, m =>
    if px_inb v1 (fm_sz H (H.2.1 v0 0)) = true then
      if m.1 (H.2.1 v0 0) v1.toNatClampNeg ≤ v4 then
        some (v3, m)
      else
      if (12 : Int32) ≤ v4 then
        some (v3, m)
      else
      if px_inb ((v1 * (12 : Int32)) + v4) (fm_sz H (H.2.1 v0 1)) = true then
        if m.1 (H.2.1 v0 1) ((v1 * (12 : Int32)) + v4).toNatClampNeg = v2 then
          f_X2_held_17 H v0 v1 v2 n (v3 + 1) (v4 + 1) m
        else
        f_X2_held_17 H v0 v1 v2 n v3 (v4 + 1) m
      else none
    else none
set_option maxRecDepth 10000 in
theorem w_X2_held_17 {G : pm_G} {H : fm_H} {d : Nat} {z : fm_Z H} {K : pm_R → fm_M → Prop} (hE : fm_E G H) {v0 : Nat} {v1 : Int32} {v2 : Int32} (h0 : fm_is H v0 2) : ∀ (n : Nat) (v3 : Int32) (v4 : Int32) (m : fm_M), fm_o fm_rI (f_X2_held_17 H v0 v1 v2 n v3 v4 m) K → fm_V G H (d + 0) RX2 cX2_held (some (.int)) z K 17 [some (.ref v0), some (.int v1), some (.int v2), some (.int v3), some (.int v4)] [] m := by
  have T : fm_T RX2 cX2_held tc_X2_held fr_X2 mr_X2 cr_X2 lr_X2 := ⟨tok_X2, dc_X2_held⟩
  intro n
  induction n with
  | zero =>
    intro v3 v4 m 
    exact fs_none
  | succ n ih =>
    intro v3 v4 m 
    unfold f_X2_held_17
    refine fs_r T 2 20 [some (.ref v0), some (.int v1), some (.int v2), some (.int v3), some (.int v4)] [.ref v0, .int v4] rfl ?_
    refine fs_gs T 23 2 0 v0 rfl rfl rfl rfl h0 ?_
    refine fs_r T 1 24 [some (.ref v0), some (.int v1), some (.int v2), some (.int v3), some (.int v4)] [.int v1, .ref (H.2.1 v0 0), .int v4] rfl ?_
    refine fs_ai T 25 (H.2.1 v0 0) rfl rfl (hE.1 _ 2 0 h0) ?_
    refine fs_ic_ge T 60 28 rfl rfl rfl (fun _ => ?_) (fun _ => ?_)
    · refine fs_r T 1 61 [some (.ref v0), some (.int v1), some (.int v2), some (.int v3), some (.int v4)] [.int v3] rfl ?_
      exact fs_reti T rfl rfl rfl
    · refine fs_r T 2 32 [some (.ref v0), some (.int v1), some (.int v2), some (.int v3), some (.int v4)] [.int (12 : Int32), .int v4] rfl ?_
      refine fs_ic_ge T 60 35 rfl rfl rfl (fun _ => ?_) (fun _ => ?_)
      · refine fs_r T 1 61 [some (.ref v0), some (.int v1), some (.int v2), some (.int v3), some (.int v4)] [.int v3] rfl ?_
        exact fs_reti T rfl rfl rfl
      · refine fs_r T 1 36 [some (.ref v0), some (.int v1), some (.int v2), some (.int v3), some (.int v4)] [.ref v0] rfl ?_
        refine fs_gs T 39 2 1 v0 rfl rfl rfl rfl h0 ?_
        refine fs_r T 5 46 [some (.ref v0), some (.int v1), some (.int v2), some (.int v3), some (.int v4)] [.int ((v1 * (12 : Int32)) + v4), .ref (H.2.1 v0 1)] rfl ?_
        refine fs_ai T 47 (H.2.1 v0 1) rfl rfl (hE.1 _ 2 1 h0) ?_
        refine fs_r T 1 48 [some (.ref v0), some (.int v1), some (.int v2), some (.int v3), some (.int v4)] [.int v2, .int (m.1 (H.2.1 v0 1) ((v1 * (12 : Int32)) + v4).toNatClampNeg)] rfl ?_
        refine fs_ic_ne T 54 51 rfl rfl rfl (fun _ => ?_) (fun _ => ?_)
        · refine fs_r T 3 17 [some (.ref v0), some (.int v1), some (.int v2), some (.int (v3 + 1)), some (.int (v4 + 1))] [] rfl ?_
          exact ih _ _ _
        · refine fs_r T 2 17 [some (.ref v0), some (.int v1), some (.int v2), some (.int v3), some (.int (v4 + 1))] [] rfl ?_
          exact ih _ _ _
def f_X2_held (H : fm_H) (v0 : Nat) (v1 : Int32) (v2 : Int32) (m : fm_M) : Option (Int32 × fm_M) :=
  if v1 < 0 then
    some ((0 : Int32), m)
  else
  if v1 < (10 : Int32) then
    f_X2_held_17 H v0 v1 v2 fm_N (0 : Int32) (0 : Int32) m
  else
  some ((0 : Int32), m)
set_option maxRecDepth 10000 in
theorem q_X2_held {G : pm_G} {H : fm_H} {d : Nat} {z : fm_Z H} {v0 : Nat} {v1 : Int32} {v2 : Int32} {m : fm_M} (hE : fm_E G H) (h0 : fm_is H v0 2) : fm_cal G H (d + 1) yX2_held [.ref v0, .int v1, .int v2] z m fm_rI (f_X2_held H v0 v1 v2 m) := fm_mth (d := d + 0) mt_X2_held rfl rfl rfl (fun K => by
  show fm_o fm_rI (f_X2_held H v0 v1 v2 m) K → fm_V G H (d + 0) RX2 cX2_held (some (.int)) z K 0 [some (.ref v0), some (.int v1), some (.int v2), none, none] [] m
  have T : fm_T RX2 cX2_held tc_X2_held fr_X2 mr_X2 cr_X2 lr_X2 := ⟨tok_X2, dc_X2_held⟩
  unfold f_X2_held
  refine fs_r T 3 3 [some (.ref v0), some (.int v1), some (.int v2), some (.int (0 : Int32)), none] [.int v1] rfl ?_
  refine fs_if_lt T 12 6 rfl rfl rfl (fun _ => ?_) (fun _ => ?_)
  · refine fs_r T 1 13 [some (.ref v0), some (.int v1), some (.int v2), some (.int (0 : Int32)), none] [.int (0 : Int32)] rfl ?_
    exact fs_reti T rfl rfl rfl
  · refine fs_r T 2 9 [some (.ref v0), some (.int v1), some (.int v2), some (.int (0 : Int32)), none] [.int (10 : Int32), .int v1] rfl ?_
    refine fs_ic_lt T 14 12 rfl rfl rfl (fun _ => ?_) (fun _ => ?_)
    · refine fs_r T 2 17 [some (.ref v0), some (.int v1), some (.int v2), some (.int (0 : Int32)), some (.int (0 : Int32))] [] rfl ?_
      exact w_X2_held_17 hE h0 _ _ _ _
    · refine fs_r T 1 13 [some (.ref v0), some (.int v1), some (.int v2), some (.int (0 : Int32)), none] [.int (0 : Int32)] rfl ?_
      exact fs_reti T rfl rfl rfl)
def f_X2_lentBy (H : fm_H) (v0 : Nat) (v1 : Int32) (m : fm_M) : Option (Int32 × fm_M) :=
  fm_bn (f_X2_spaceOf H v0 v1 m) fun x1 m1 =>
  fm_bn (f_X2_held H v0 v1 (-1 : Int32) m1) fun x2 m2 =>
  fm_bn (f_X2_held H v0 v1 v1 m2) fun x3 m3 =>
  some (((x1 - x2) - x3), m3)
set_option maxRecDepth 10000 in
theorem q_X2_lentBy {G : pm_G} {H : fm_H} {d : Nat} {z : fm_Z H} {v0 : Nat} {v1 : Int32} {m : fm_M} (hE : fm_E G H) (h0 : fm_is H v0 2) : fm_cal G H (d + 2) yX2_lentBy [.ref v0, .int v1] z m fm_rI (f_X2_lentBy H v0 v1 m) := fm_mth (d := d + 1) mt_X2_lentBy rfl rfl rfl (fun K => by
  show fm_o fm_rI (f_X2_lentBy H v0 v1 m) K → fm_V G H (d + 1) RX2 cX2_lentBy (some (.int)) z K 0 [some (.ref v0), some (.int v1)] [] m
  have T : fm_T RX2 cX2_lentBy tc_X2_lentBy fr_X2 mr_X2 cr_X2 lr_X2 := ⟨tok_X2, dc_X2_lentBy⟩
  unfold f_X2_lentBy
  refine fs_r T 2 2 [some (.ref v0), some (.int v1)] [.int v1, .ref v0] rfl ?_
  refine fs_vI T 5 rfl rfl rfl rfl rfl rfl h0 (q_X2_spaceOf (d := d) hE h0) ?_
  intro x1 m1
  refine fs_r T 3 8 [some (.ref v0), some (.int v1)] [.int (-1 : Int32), .int v1, .ref v0, .int x1] rfl ?_
  refine fs_vI T 11 rfl rfl rfl rfl rfl rfl h0 (q_X2_held (d := d) hE h0) ?_
  intro x2 m2
  refine fs_r T 4 15 [some (.ref v0), some (.int v1)] [.int v1, .int v1, .ref v0, .int (x1 - x2)] rfl ?_
  refine fs_vI T 18 rfl rfl rfl rfl rfl rfl h0 (q_X2_held (d := d) hE h0) ?_
  intro x3 m3
  refine fs_r T 1 19 [some (.ref v0), some (.int v1)] [.int ((x1 - x2) - x3)] rfl ?_
  exact fs_reti T rfl rfl rfl)
def f_X2_lentByAll_4 (H : fm_H) (v0 : Nat) : Nat → Int32 → Int32 → fm_M → Option (Int32 × fm_M)
  | 0, _, _, _ => none
  | n + 1, v1, v2, m =>
    if (10 : Int32) ≤ v2 then
      some (v1, m)
    else
    fm_bn (f_X2_lentBy H v0 v2 m) fun x1 m1 =>
    f_X2_lentByAll_4 H v0 n (v1 + x1) (v2 + 1) m1
set_option maxRecDepth 10000 in
theorem w_X2_lentByAll_4 {G : pm_G} {H : fm_H} {d : Nat} {z : fm_Z H} {K : pm_R → fm_M → Prop} (hE : fm_E G H) {v0 : Nat} (h0 : fm_is H v0 2) : ∀ (n : Nat) (v1 : Int32) (v2 : Int32) (m : fm_M), fm_o fm_rI (f_X2_lentByAll_4 H v0 n v1 v2 m) K → fm_V G H (d + 2) RX2 cX2_lentByAll (some (.int)) z K 4 [some (.ref v0), some (.int v1), some (.int v2)] [] m := by
  have T : fm_T RX2 cX2_lentByAll tc_X2_lentByAll fr_X2 mr_X2 cr_X2 lr_X2 := ⟨tok_X2, dc_X2_lentByAll⟩
  intro n
  induction n with
  | zero =>
    intro v1 v2 m 
    exact fs_none
  | succ n ih =>
    intro v1 v2 m 
    unfold f_X2_lentByAll_4
    refine fs_r T 2 7 [some (.ref v0), some (.int v1), some (.int v2)] [.int (10 : Int32), .int v2] rfl ?_
    refine fs_ic_ge T 24 10 rfl rfl rfl (fun _ => ?_) (fun _ => ?_)
    · refine fs_r T 1 25 [some (.ref v0), some (.int v1), some (.int v2)] [.int v1] rfl ?_
      exact fs_reti T rfl rfl rfl
    · refine fs_r T 3 13 [some (.ref v0), some (.int v1), some (.int v2)] [.int v2, .ref v0, .int v1] rfl ?_
      refine fs_vI T 16 rfl rfl rfl rfl rfl rfl h0 (q_X2_lentBy (d := d) hE h0) ?_
      intro x1 m1
      refine fs_r T 4 4 [some (.ref v0), some (.int (v1 + x1)), some (.int (v2 + 1))] [] rfl ?_
      exact ih _ _ _
def f_X2_lentByAll (H : fm_H) (v0 : Nat) (m : fm_M) : Option (Int32 × fm_M) :=
  f_X2_lentByAll_4 H v0 fm_N (0 : Int32) (0 : Int32) m
set_option maxRecDepth 10000 in
theorem q_X2_lentByAll {G : pm_G} {H : fm_H} {d : Nat} {z : fm_Z H} {v0 : Nat} {m : fm_M} (hE : fm_E G H) (h0 : fm_is H v0 2) : fm_cal G H (d + 3) yX2_lentByAll [.ref v0] z m fm_rI (f_X2_lentByAll H v0 m) := fm_mth (d := d + 2) mt_X2_lentByAll rfl rfl rfl (fun K => by
  show fm_o fm_rI (f_X2_lentByAll H v0 m) K → fm_V G H (d + 2) RX2 cX2_lentByAll (some (.int)) z K 0 [some (.ref v0), none, none] [] m
  have T : fm_T RX2 cX2_lentByAll tc_X2_lentByAll fr_X2 mr_X2 cr_X2 lr_X2 := ⟨tok_X2, dc_X2_lentByAll⟩
  unfold f_X2_lentByAll
  refine fs_r T 4 4 [some (.ref v0), some (.int (0 : Int32)), some (.int (0 : Int32))] [] rfl ?_
  exact w_X2_lentByAll_4 hE h0 _ _ _ _)
def f_X2_borrowedBy_4 (H : fm_H) (v0 : Nat) (v1 : Int32) : Nat → Int32 → Int32 → fm_M → Option (Int32 × fm_M)
  | 0, _, _, _ => none
  | n + 1, v2, v3, m =>
    if (10 : Int32) ≤ v3 then
      some (v2, m)
    else
    if v3 = v1 then
      f_X2_borrowedBy_4 H v0 v1 n v2 (v3 + 1) m
    else
    fm_bn (f_X2_held H v0 v3 v1 m) fun x1 m1 =>
    f_X2_borrowedBy_4 H v0 v1 n (v2 + x1) (v3 + 1) m1
set_option maxRecDepth 10000 in
theorem w_X2_borrowedBy_4 {G : pm_G} {H : fm_H} {d : Nat} {z : fm_Z H} {K : pm_R → fm_M → Prop} (hE : fm_E G H) {v0 : Nat} {v1 : Int32} (h0 : fm_is H v0 2) : ∀ (n : Nat) (v2 : Int32) (v3 : Int32) (m : fm_M), fm_o fm_rI (f_X2_borrowedBy_4 H v0 v1 n v2 v3 m) K → fm_V G H (d + 1) RX2 cX2_borrowedBy (some (.int)) z K 4 [some (.ref v0), some (.int v1), some (.int v2), some (.int v3)] [] m := by
  have T : fm_T RX2 cX2_borrowedBy tc_X2_borrowedBy fr_X2 mr_X2 cr_X2 lr_X2 := ⟨tok_X2, dc_X2_borrowedBy⟩
  intro n
  induction n with
  | zero =>
    intro v2 v3 m 
    exact fs_none
  | succ n ih =>
    intro v2 v3 m 
    unfold f_X2_borrowedBy_4
    refine fs_r T 2 7 [some (.ref v0), some (.int v1), some (.int v2), some (.int v3)] [.int (10 : Int32), .int v3] rfl ?_
    refine fs_ic_ge T 30 10 rfl rfl rfl (fun _ => ?_) (fun _ => ?_)
    · refine fs_r T 1 31 [some (.ref v0), some (.int v1), some (.int v2), some (.int v3)] [.int v2] rfl ?_
      exact fs_reti T rfl rfl rfl
    · refine fs_r T 2 12 [some (.ref v0), some (.int v1), some (.int v2), some (.int v3)] [.int v1, .int v3] rfl ?_
      refine fs_ic_eq T 24 15 rfl rfl rfl (fun _ => ?_) (fun _ => ?_)
      · refine fs_r T 2 4 [some (.ref v0), some (.int v1), some (.int v2), some (.int (v3 + 1))] [] rfl ?_
        exact ih _ _ _
      · refine fs_r T 4 19 [some (.ref v0), some (.int v1), some (.int v2), some (.int v3)] [.int v1, .int v3, .ref v0, .int v2] rfl ?_
        refine fs_vI T 22 rfl rfl rfl rfl rfl rfl h0 (q_X2_held (d := d) hE h0) ?_
        intro x1 m1
        refine fs_r T 4 4 [some (.ref v0), some (.int v1), some (.int (v2 + x1)), some (.int (v3 + 1))] [] rfl ?_
        exact ih _ _ _
def f_X2_borrowedBy (H : fm_H) (v0 : Nat) (v1 : Int32) (m : fm_M) : Option (Int32 × fm_M) :=
  f_X2_borrowedBy_4 H v0 v1 fm_N (0 : Int32) (0 : Int32) m
set_option maxRecDepth 10000 in
theorem q_X2_borrowedBy {G : pm_G} {H : fm_H} {d : Nat} {z : fm_Z H} {v0 : Nat} {v1 : Int32} {m : fm_M} (hE : fm_E G H) (h0 : fm_is H v0 2) : fm_cal G H (d + 2) yX2_borrowedBy [.ref v0, .int v1] z m fm_rI (f_X2_borrowedBy H v0 v1 m) := fm_mth (d := d + 1) mt_X2_borrowedBy rfl rfl rfl (fun K => by
  show fm_o fm_rI (f_X2_borrowedBy H v0 v1 m) K → fm_V G H (d + 1) RX2 cX2_borrowedBy (some (.int)) z K 0 [some (.ref v0), some (.int v1), none, none] [] m
  have T : fm_T RX2 cX2_borrowedBy tc_X2_borrowedBy fr_X2 mr_X2 cr_X2 lr_X2 := ⟨tok_X2, dc_X2_borrowedBy⟩
  unfold f_X2_borrowedBy
  refine fs_r T 4 4 [some (.ref v0), some (.int v1), some (.int (0 : Int32)), some (.int (0 : Int32))] [] rfl ?_
  exact w_X2_borrowedBy_4 hE h0 _ _ _ _)
def f_X2_madeEntries_4 (H : fm_H) (v0 : Nat) (v1 : Int32) : Nat → Int32 → Int32 → fm_M → Option (Int32 × fm_M)
  | 0, _, _, _ => none
  | n + 1, v2, v3, m =>
    if (120 : Int32) ≤ v3 then
      some (v2, m)
    else
    if px_inb v3 (fm_sz H (H.2.1 v0 1)) = true then
      if m.1 (H.2.1 v0 1) v3.toNatClampNeg = v1 then
        if px_inb v3 (fm_sz H (H.2.1 v0 3)) = true then
          if m.1 (H.2.1 v0 3) v3.toNatClampNeg = (1 : Int32) then
            f_X2_madeEntries_4 H v0 v1 n (v2 + 1) (v3 + 1) m
          else
          f_X2_madeEntries_4 H v0 v1 n v2 (v3 + 1) m
        else none
      else
      f_X2_madeEntries_4 H v0 v1 n v2 (v3 + 1) m
    else none
set_option maxRecDepth 10000 in
theorem w_X2_madeEntries_4 {G : pm_G} {H : fm_H} {d : Nat} {z : fm_Z H} {K : pm_R → fm_M → Prop} (hE : fm_E G H) {v0 : Nat} {v1 : Int32} (h0 : fm_is H v0 2) : ∀ (n : Nat) (v2 : Int32) (v3 : Int32) (m : fm_M), fm_o fm_rI (f_X2_madeEntries_4 H v0 v1 n v2 v3 m) K → fm_V G H (d + 0) RX2 cX2_madeEntries (some (.int)) z K 4 [some (.ref v0), some (.int v1), some (.int v2), some (.int v3)] [] m := by
  have T : fm_T RX2 cX2_madeEntries tc_X2_madeEntries fr_X2 mr_X2 cr_X2 lr_X2 := ⟨tok_X2, dc_X2_madeEntries⟩
  intro n
  induction n with
  | zero =>
    intro v2 v3 m 
    exact fs_none
  | succ n ih =>
    intro v2 v3 m 
    unfold f_X2_madeEntries_4
    refine fs_r T 2 7 [some (.ref v0), some (.int v1), some (.int v2), some (.int v3)] [.int (120 : Int32), .int v3] rfl ?_
    refine fs_ic_ge T 39 10 rfl rfl rfl (fun _ => ?_) (fun _ => ?_)
    · refine fs_r T 1 40 [some (.ref v0), some (.int v1), some (.int v2), some (.int v3)] [.int v2] rfl ?_
      exact fs_reti T rfl rfl rfl
    · refine fs_r T 1 11 [some (.ref v0), some (.int v1), some (.int v2), some (.int v3)] [.ref v0] rfl ?_
      refine fs_gs T 14 2 1 v0 rfl rfl rfl rfl h0 ?_
      refine fs_r T 1 15 [some (.ref v0), some (.int v1), some (.int v2), some (.int v3)] [.int v3, .ref (H.2.1 v0 1)] rfl ?_
      refine fs_ai T 16 (H.2.1 v0 1) rfl rfl (hE.1 _ 2 1 h0) ?_
      refine fs_r T 1 17 [some (.ref v0), some (.int v1), some (.int v2), some (.int v3)] [.int v1, .int (m.1 (H.2.1 v0 1) v3.toNatClampNeg)] rfl ?_
      refine fs_ic_ne T 33 20 rfl rfl rfl (fun _ => ?_) (fun _ => ?_)
      · refine fs_r T 1 21 [some (.ref v0), some (.int v1), some (.int v2), some (.int v3)] [.ref v0] rfl ?_
        refine fs_gs T 24 2 3 v0 rfl rfl rfl rfl h0 ?_
        refine fs_r T 1 25 [some (.ref v0), some (.int v1), some (.int v2), some (.int v3)] [.int v3, .ref (H.2.1 v0 3)] rfl ?_
        refine fs_ai T 26 (H.2.1 v0 3) rfl rfl (hE.1 _ 2 3 h0) ?_
        refine fs_r T 1 27 [some (.ref v0), some (.int v1), some (.int v2), some (.int v3)] [.int (1 : Int32), .int (m.1 (H.2.1 v0 3) v3.toNatClampNeg)] rfl ?_
        refine fs_ic_ne T 33 30 rfl rfl rfl (fun _ => ?_) (fun _ => ?_)
        · refine fs_r T 3 4 [some (.ref v0), some (.int v1), some (.int (v2 + 1)), some (.int (v3 + 1))] [] rfl ?_
          exact ih _ _ _
        · refine fs_r T 2 4 [some (.ref v0), some (.int v1), some (.int v2), some (.int (v3 + 1))] [] rfl ?_
          exact ih _ _ _
      · refine fs_r T 2 4 [some (.ref v0), some (.int v1), some (.int v2), some (.int (v3 + 1))] [] rfl ?_
        exact ih _ _ _
def f_X2_madeEntries (H : fm_H) (v0 : Nat) (v1 : Int32) (m : fm_M) : Option (Int32 × fm_M) :=
  f_X2_madeEntries_4 H v0 v1 fm_N (0 : Int32) (0 : Int32) m
set_option maxRecDepth 10000 in
theorem q_X2_madeEntries {G : pm_G} {H : fm_H} {d : Nat} {z : fm_Z H} {v0 : Nat} {v1 : Int32} {m : fm_M} (hE : fm_E G H) (h0 : fm_is H v0 2) : fm_cal G H (d + 1) yX2_madeEntries [.ref v0, .int v1] z m fm_rI (f_X2_madeEntries H v0 v1 m) := fm_mth (d := d + 0) mt_X2_madeEntries rfl rfl rfl (fun K => by
  show fm_o fm_rI (f_X2_madeEntries H v0 v1 m) K → fm_V G H (d + 0) RX2 cX2_madeEntries (some (.int)) z K 0 [some (.ref v0), some (.int v1), none, none] [] m
  have T : fm_T RX2 cX2_madeEntries tc_X2_madeEntries fr_X2 mr_X2 cr_X2 lr_X2 := ⟨tok_X2, dc_X2_madeEntries⟩
  unfold f_X2_madeEntries
  refine fs_r T 4 4 [some (.ref v0), some (.int v1), some (.int (0 : Int32)), some (.int (0 : Int32))] [] rfl ?_
  exact w_X2_madeEntries_4 hE h0 _ _ _ _)
def f_X2_highestFree_8 (H : fm_H) (v0 : Nat) (v1 : Int32) : Nat → Int32 → fm_M → Option (Int32 × fm_M)
  | 0, _, _ => none
  | n + 1, v2, m =>
    if v2 < 0 then
      some ((-1 : Int32), m)
    else
    if px_inb ((v1 * (12 : Int32)) + v2) (fm_sz H (H.2.1 v0 1)) = true then
      if m.1 (H.2.1 v0 1) ((v1 * (12 : Int32)) + v2).toNatClampNeg = (-1 : Int32) then
        some (((v1 * (12 : Int32)) + v2), m)
      else
      f_X2_highestFree_8 H v0 v1 n (v2 + (-1)) m
    else none
set_option maxRecDepth 10000 in
theorem w_X2_highestFree_8 {G : pm_G} {H : fm_H} {d : Nat} {z : fm_Z H} {K : pm_R → fm_M → Prop} (hE : fm_E G H) {v0 : Nat} {v1 : Int32} (h0 : fm_is H v0 2) : ∀ (n : Nat) (v2 : Int32) (m : fm_M), fm_o fm_rI (f_X2_highestFree_8 H v0 v1 n v2 m) K → fm_V G H (d + 1) RX2 cX2_highestFree (some (.int)) z K 8 [some (.ref v0), some (.int v1), some (.int v2)] [] m := by
  have T : fm_T RX2 cX2_highestFree tc_X2_highestFree fr_X2 mr_X2 cr_X2 lr_X2 := ⟨tok_X2, dc_X2_highestFree⟩
  intro n
  induction n with
  | zero =>
    intro v2 m 
    exact fs_none
  | succ n ih =>
    intro v2 m 
    unfold f_X2_highestFree_8
    refine fs_r T 1 9 [some (.ref v0), some (.int v1), some (.int v2)] [.int v2] rfl ?_
    refine fs_if_lt T 40 12 rfl rfl rfl (fun _ => ?_) (fun _ => ?_)
    · refine fs_r T 1 41 [some (.ref v0), some (.int v1), some (.int v2)] [.int (-1 : Int32)] rfl ?_
      exact fs_reti T rfl rfl rfl
    · refine fs_r T 1 13 [some (.ref v0), some (.int v1), some (.int v2)] [.ref v0] rfl ?_
      refine fs_gs T 16 2 1 v0 rfl rfl rfl rfl h0 ?_
      refine fs_r T 5 22 [some (.ref v0), some (.int v1), some (.int v2)] [.int ((v1 * (12 : Int32)) + v2), .ref (H.2.1 v0 1)] rfl ?_
      refine fs_ai T 23 (H.2.1 v0 1) rfl rfl (hE.1 _ 2 1 h0) ?_
      refine fs_r T 1 24 [some (.ref v0), some (.int v1), some (.int v2)] [.int (-1 : Int32), .int (m.1 (H.2.1 v0 1) ((v1 * (12 : Int32)) + v2).toNatClampNeg)] rfl ?_
      refine fs_ic_ne T 34 27 rfl rfl rfl (fun _ => ?_) (fun _ => ?_)
      · refine fs_r T 5 33 [some (.ref v0), some (.int v1), some (.int v2)] [.int ((v1 * (12 : Int32)) + v2)] rfl ?_
        exact fs_reti T rfl rfl rfl
      · refine fs_r T 2 8 [some (.ref v0), some (.int v1), some (.int (v2 + (-1)))] [] rfl ?_
        exact ih _ _
def f_X2_highestFree (H : fm_H) (v0 : Nat) (v1 : Int32) (m : fm_M) : Option (Int32 × fm_M) :=
  fm_bn (f_X2_spaceOf H v0 v1 m) fun x1 m1 =>
  f_X2_highestFree_8 H v0 v1 fm_N (x1 - (1 : Int32)) m1
set_option maxRecDepth 10000 in
theorem q_X2_highestFree {G : pm_G} {H : fm_H} {d : Nat} {z : fm_Z H} {v0 : Nat} {v1 : Int32} {m : fm_M} (hE : fm_E G H) (h0 : fm_is H v0 2) : fm_cal G H (d + 2) yX2_highestFree [.ref v0, .int v1] z m fm_rI (f_X2_highestFree H v0 v1 m) := fm_mth (d := d + 1) mt_X2_highestFree rfl rfl rfl (fun K => by
  show fm_o fm_rI (f_X2_highestFree H v0 v1 m) K → fm_V G H (d + 1) RX2 cX2_highestFree (some (.int)) z K 0 [some (.ref v0), some (.int v1), none] [] m
  have T : fm_T RX2 cX2_highestFree tc_X2_highestFree fr_X2 mr_X2 cr_X2 lr_X2 := ⟨tok_X2, dc_X2_highestFree⟩
  unfold f_X2_highestFree
  refine fs_r T 2 2 [some (.ref v0), some (.int v1), none] [.int v1, .ref v0] rfl ?_
  refine fs_vI T 5 rfl rfl rfl rfl rfl rfl h0 (q_X2_spaceOf (d := d) hE h0) ?_
  intro x1 m1
  refine fs_r T 3 8 [some (.ref v0), some (.int v1), some (.int (x1 - (1 : Int32)))] [] rfl ?_
  exact w_X2_highestFree_8 hE h0 _ _ _)
def f_X2_lenderFor_8 (H : fm_H) (v0 : Nat) (v1 : Nat) (v2 : Int32) : Nat → Int32 → Int32 → Int32 → fm_M → Option (Int32 × fm_M)
  | 0, _, _, _, _ => none
  | n + 1, v3, v4, v5, m =>
    if m.1 v1 0 ≤ v5 then
      some (v3, m)
    else
    fm_bn (f_X4_linkBetween H v1 v2 v5 m) fun x1 m1 =>
    if x1 = (-1 : Int32) then
      if (0 : Int32) ≤ v4 then
        f_X2_lenderFor_8 H v0 v1 v2 n v3 v4 (v5 + 1) m1
      else
      f_X2_lenderFor_8 H v0 v1 v2 n v5 (0 : Int32) (v5 + 1) m1
    else
    fm_bn (f_X2_held H v0 v5 (-1 : Int32) m1) fun x2 m2 =>
    if x2 ≤ v4 then
      f_X2_lenderFor_8 H v0 v1 v2 n v3 v4 (v5 + 1) m2
    else
    f_X2_lenderFor_8 H v0 v1 v2 n v5 x2 (v5 + 1) m2
set_option maxRecDepth 10000 in
theorem w_X2_lenderFor_8 {G : pm_G} {H : fm_H} {d : Nat} {z : fm_Z H} {K : pm_R → fm_M → Prop} (hE : fm_E G H) {v0 : Nat} {v1 : Nat} {v2 : Int32} (h0 : fm_is H v0 2) (h1 : fm_is H v1 4) : ∀ (n : Nat) (v3 : Int32) (v4 : Int32) (v5 : Int32) (m : fm_M), fm_o fm_rI (f_X2_lenderFor_8 H v0 v1 v2 n v3 v4 v5 m) K → fm_V G H (d + 1) RX2 cX2_lenderFor (some (.int)) z K 8 [some (.ref v0), some (.ref v1), some (.int v2), some (.int v3), some (.int v4), some (.int v5), none] [] m := by
  have T : fm_T RX2 cX2_lenderFor tc_X2_lenderFor fr_X2 mr_X2 cr_X2 lr_X2 := ⟨tok_X2, dc_X2_lenderFor⟩
  intro n
  induction n with
  | zero =>
    intro v3 v4 v5 m 
    exact fs_none
  | succ n ih =>
    intro v3 v4 v5 m 
    unfold f_X2_lenderFor_8
    refine fs_r T 2 11 [some (.ref v0), some (.ref v1), some (.int v2), some (.int v3), some (.int v4), some (.int v5), none] [.ref v1, .int v5] rfl ?_
    refine fs_gi T 14 4 0 v1 rfl rfl rfl rfl h1 ?_
    refine fs_ic_ge T 61 17 rfl rfl rfl (fun _ => ?_) (fun _ => ?_)
    · refine fs_r T 1 62 [some (.ref v0), some (.ref v1), some (.int v2), some (.int v3), some (.int v4), some (.int v5), none] [.int v3] rfl ?_
      exact fs_reti T rfl rfl rfl
    · refine fs_r T 3 21 [some (.ref v0), some (.ref v1), some (.int v2), some (.int v3), some (.int v4), some (.int v5), none] [.int v5, .int v2, .ref v1] rfl ?_
      refine fs_vI T 24 rfl rfl rfl rfl rfl rfl h1 (q_X4_linkBetween (d := d) hE h1) ?_
      intro x1 m1
      refine fs_r T 1 25 [some (.ref v0), some (.ref v1), some (.int v2), some (.int v3), some (.int v4), some (.int v5), none] [.int (-1 : Int32), .int x1] rfl ?_
      refine fs_ic_ne T 32 28 rfl rfl rfl (fun _ => ?_) (fun _ => ?_)
      · refine fs_r T 5 45 [some (.ref v0), some (.ref v1), some (.int v2), some (.int v3), some (.int v4), some (.int v5), some (.int (0 : Int32))] [.int v4, .int (0 : Int32)] rfl ?_
        refine fs_ic_le T 55 48 rfl rfl rfl (fun _ => ?_) (fun _ => ?_)
        · refine fs_r T 2 8 [some (.ref v0), some (.ref v1), some (.int v2), some (.int v3), some (.int v4), some (.int (v5 + 1)), some (.int (0 : Int32))] [] rfl ?_
          refine fs_wk (ls' := [some (.ref v0), some (.ref v1), some (.int v2), some (.int v3), some (.int v4), some (.int (v5 + 1)), none]) ⟨rfl, rfl, rfl, rfl, rfl, rfl, trivial⟩ ?_
          exact ih _ _ _ _
        · refine fs_r T 6 8 [some (.ref v0), some (.ref v1), some (.int v2), some (.int v5), some (.int (0 : Int32)), some (.int (v5 + 1)), some (.int (0 : Int32))] [] rfl ?_
          refine fs_wk (ls' := [some (.ref v0), some (.ref v1), some (.int v2), some (.int v5), some (.int (0 : Int32)), some (.int (v5 + 1)), none]) ⟨rfl, rfl, rfl, rfl, rfl, rfl, trivial⟩ ?_
          exact ih _ _ _ _
      · refine fs_r T 3 36 [some (.ref v0), some (.ref v1), some (.int v2), some (.int v3), some (.int v4), some (.int v5), none] [.int (-1 : Int32), .int v5, .ref v0] rfl ?_
        refine fs_vI T 39 rfl rfl rfl rfl rfl rfl h0 (q_X2_held (d := d) hE h0) ?_
        intro x2 m2
        refine fs_r T 3 45 [some (.ref v0), some (.ref v1), some (.int v2), some (.int v3), some (.int v4), some (.int v5), some (.int x2)] [.int v4, .int x2] rfl ?_
        refine fs_ic_le T 55 48 rfl rfl rfl (fun _ => ?_) (fun _ => ?_)
        · refine fs_r T 2 8 [some (.ref v0), some (.ref v1), some (.int v2), some (.int v3), some (.int v4), some (.int (v5 + 1)), some (.int x2)] [] rfl ?_
          refine fs_wk (ls' := [some (.ref v0), some (.ref v1), some (.int v2), some (.int v3), some (.int v4), some (.int (v5 + 1)), none]) ⟨rfl, rfl, rfl, rfl, rfl, rfl, trivial⟩ ?_
          exact ih _ _ _ _
        · refine fs_r T 6 8 [some (.ref v0), some (.ref v1), some (.int v2), some (.int v5), some (.int x2), some (.int (v5 + 1)), some (.int x2)] [] rfl ?_
          refine fs_wk (ls' := [some (.ref v0), some (.ref v1), some (.int v2), some (.int v5), some (.int x2), some (.int (v5 + 1)), none]) ⟨rfl, rfl, rfl, rfl, rfl, rfl, trivial⟩ ?_
          exact ih _ _ _ _
def f_X2_lenderFor (H : fm_H) (v0 : Nat) (v1 : Nat) (v2 : Int32) (m : fm_M) : Option (Int32 × fm_M) :=
  f_X2_lenderFor_8 H v0 v1 v2 fm_N (-1 : Int32) (0 : Int32) (0 : Int32) m
set_option maxRecDepth 10000 in
theorem q_X2_lenderFor {G : pm_G} {H : fm_H} {d : Nat} {z : fm_Z H} {v0 : Nat} {v1 : Nat} {v2 : Int32} {m : fm_M} (hE : fm_E G H) (h0 : fm_is H v0 2) (h1 : fm_is H v1 4) : fm_cal G H (d + 2) yX2_lenderFor [.ref v0, .ref v1, .int v2] z m fm_rI (f_X2_lenderFor H v0 v1 v2 m) := fm_mth (d := d + 1) mt_X2_lenderFor rfl rfl rfl (fun K => by
  show fm_o fm_rI (f_X2_lenderFor H v0 v1 v2 m) K → fm_V G H (d + 1) RX2 cX2_lenderFor (some (.int)) z K 0 [some (.ref v0), some (.ref v1), some (.int v2), none, none, none, none] [] m
  have T : fm_T RX2 cX2_lenderFor tc_X2_lenderFor fr_X2 mr_X2 cr_X2 lr_X2 := ⟨tok_X2, dc_X2_lenderFor⟩
  unfold f_X2_lenderFor
  refine fs_r T 6 8 [some (.ref v0), some (.ref v1), some (.int v2), some (.int (-1 : Int32)), some (.int (0 : Int32)), some (.int (0 : Int32)), none] [] rfl ?_
  exact w_X2_lenderFor_8 hE h0 h1 _ _ _ _ _)
def f_X2_lowestFree_8 (H : fm_H) (v0 : Nat) (v1 : Int32) (v2 : Int32) : Nat → Int32 → fm_M → Option (Int32 × fm_M)
  | 0, _, _ => none
  | n + 1, v3, m =>
    if v2 ≤ v3 then
      some ((-1 : Int32), m)
    else
    if px_inb ((v1 * (12 : Int32)) + v3) (fm_sz H (H.2.1 v0 1)) = true then
      if m.1 (H.2.1 v0 1) ((v1 * (12 : Int32)) + v3).toNatClampNeg = (-1 : Int32) then
        some (((v1 * (12 : Int32)) + v3), m)
      else
      f_X2_lowestFree_8 H v0 v1 v2 n (v3 + 1) m
    else none
set_option maxRecDepth 10000 in
theorem w_X2_lowestFree_8 {G : pm_G} {H : fm_H} {d : Nat} {z : fm_Z H} {K : pm_R → fm_M → Prop} (hE : fm_E G H) {v0 : Nat} {v1 : Int32} {v2 : Int32} (h0 : fm_is H v0 2) : ∀ (n : Nat) (v3 : Int32) (m : fm_M), fm_o fm_rI (f_X2_lowestFree_8 H v0 v1 v2 n v3 m) K → fm_V G H (d + 1) RX2 cX2_lowestFree (some (.int)) z K 8 [some (.ref v0), some (.int v1), some (.int v2), some (.int v3)] [] m := by
  have T : fm_T RX2 cX2_lowestFree tc_X2_lowestFree fr_X2 mr_X2 cr_X2 lr_X2 := ⟨tok_X2, dc_X2_lowestFree⟩
  intro n
  induction n with
  | zero =>
    intro v3 m 
    exact fs_none
  | succ n ih =>
    intro v3 m 
    unfold f_X2_lowestFree_8
    refine fs_r T 2 10 [some (.ref v0), some (.int v1), some (.int v2), some (.int v3)] [.int v2, .int v3] rfl ?_
    refine fs_ic_ge T 41 13 rfl rfl rfl (fun _ => ?_) (fun _ => ?_)
    · refine fs_r T 1 42 [some (.ref v0), some (.int v1), some (.int v2), some (.int v3)] [.int (-1 : Int32)] rfl ?_
      exact fs_reti T rfl rfl rfl
    · refine fs_r T 1 14 [some (.ref v0), some (.int v1), some (.int v2), some (.int v3)] [.ref v0] rfl ?_
      refine fs_gs T 17 2 1 v0 rfl rfl rfl rfl h0 ?_
      refine fs_r T 5 23 [some (.ref v0), some (.int v1), some (.int v2), some (.int v3)] [.int ((v1 * (12 : Int32)) + v3), .ref (H.2.1 v0 1)] rfl ?_
      refine fs_ai T 24 (H.2.1 v0 1) rfl rfl (hE.1 _ 2 1 h0) ?_
      refine fs_r T 1 25 [some (.ref v0), some (.int v1), some (.int v2), some (.int v3)] [.int (-1 : Int32), .int (m.1 (H.2.1 v0 1) ((v1 * (12 : Int32)) + v3).toNatClampNeg)] rfl ?_
      refine fs_ic_ne T 35 28 rfl rfl rfl (fun _ => ?_) (fun _ => ?_)
      · refine fs_r T 5 34 [some (.ref v0), some (.int v1), some (.int v2), some (.int v3)] [.int ((v1 * (12 : Int32)) + v3)] rfl ?_
        exact fs_reti T rfl rfl rfl
      · refine fs_r T 2 8 [some (.ref v0), some (.int v1), some (.int v2), some (.int (v3 + 1))] [] rfl ?_
        exact ih _ _
def f_X2_lowestFree (H : fm_H) (v0 : Nat) (v1 : Int32) (m : fm_M) : Option (Int32 × fm_M) :=
  fm_bn (f_X2_spaceOf H v0 v1 m) fun x1 m1 =>
  f_X2_lowestFree_8 H v0 v1 x1 fm_N (0 : Int32) m1
set_option maxRecDepth 10000 in
theorem q_X2_lowestFree {G : pm_G} {H : fm_H} {d : Nat} {z : fm_Z H} {v0 : Nat} {v1 : Int32} {m : fm_M} (hE : fm_E G H) (h0 : fm_is H v0 2) : fm_cal G H (d + 2) yX2_lowestFree [.ref v0, .int v1] z m fm_rI (f_X2_lowestFree H v0 v1 m) := fm_mth (d := d + 1) mt_X2_lowestFree rfl rfl rfl (fun K => by
  show fm_o fm_rI (f_X2_lowestFree H v0 v1 m) K → fm_V G H (d + 1) RX2 cX2_lowestFree (some (.int)) z K 0 [some (.ref v0), some (.int v1), none, none] [] m
  have T : fm_T RX2 cX2_lowestFree tc_X2_lowestFree fr_X2 mr_X2 cr_X2 lr_X2 := ⟨tok_X2, dc_X2_lowestFree⟩
  unfold f_X2_lowestFree
  refine fs_r T 2 2 [some (.ref v0), some (.int v1), none, none] [.int v1, .ref v0] rfl ?_
  refine fs_vI T 5 rfl rfl rfl rfl rfl rfl h0 (q_X2_spaceOf (d := d) hE h0) ?_
  intro x1 m1
  refine fs_r T 3 8 [some (.ref v0), some (.int v1), some (.int x1), some (.int (0 : Int32))] [] rfl ?_
  exact w_X2_lowestFree_8 hE h0 _ _ _)
def f_X2_take_35 (H : fm_H) (v0 : Nat) (v2 : Int32) (v3 : Int32) (v5 : Int32) (m : fm_M) : Option (Int32 × fm_M) :=
  if v5 = (-1 : Int32) then
    some (v5, m)
  else
  if px_inb v5 (fm_sz H (H.2.1 v0 1)) = true then
    (fm_bd (fm_si m (H.2.1 v0 1) v5.toNatClampNeg v2) fun m1 =>
    if px_inb v5 (fm_sz H (H.2.1 v0 2)) = true then
      (fm_bd (fm_si m1 (H.2.1 v0 2) v5.toNatClampNeg v3) fun m2 =>
      if px_inb v5 (fm_sz H (H.2.1 v0 3)) = true then
        (fm_bd (fm_si m2 (H.2.1 v0 3) v5.toNatClampNeg (0 : Int32)) fun m3 =>
        some (v5, m3))
      else none)
    else none)
  else none
set_option maxRecDepth 10000 in
theorem w_X2_take_35 {G : pm_G} {H : fm_H} {d : Nat} {z : fm_Z H} {K : pm_R → fm_M → Prop} (hE : fm_E G H) {v0 : Nat} {v2 : Int32} {v3 : Int32} {v5 : Int32} (h0 : fm_is H v0 2) : ∀ (m : fm_M), fm_o fm_rI (f_X2_take_35 H v0 v2 v3 v5 m) K → fm_V G H (d + 2) RX2 cX2_take (some (.int)) z K 35 [some (.ref v0), none, some (.int v2), some (.int v3), none, some (.int v5)] [] m := by
  have T : fm_T RX2 cX2_take tc_X2_take fr_X2 mr_X2 cr_X2 lr_X2 := ⟨tok_X2, dc_X2_take⟩
  intro m
  unfold f_X2_take_35
  refine fs_r T 2 38 [some (.ref v0), none, some (.int v2), some (.int v3), none, some (.int v5)] [.int (-1 : Int32), .int v5] rfl ?_
  refine fs_ic_eq T 65 41 rfl rfl rfl (fun _ => ?_) (fun _ => ?_)
  · refine fs_r T 1 67 [some (.ref v0), none, some (.int v2), some (.int v3), none, some (.int v5)] [.int v5] rfl ?_
    exact fs_reti T rfl rfl rfl
  · refine fs_r T 1 42 [some (.ref v0), none, some (.int v2), some (.int v3), none, some (.int v5)] [.ref v0] rfl ?_
    refine fs_gs T 45 2 1 v0 rfl rfl rfl rfl h0 ?_
    refine fs_r T 2 48 [some (.ref v0), none, some (.int v2), some (.int v3), none, some (.int v5)] [.int v2, .int v5, .ref (H.2.1 v0 1)] rfl ?_
    refine fs_si T 49 (H.2.1 v0 1) rfl rfl (hE.1 _ 2 1 h0) ?_
    intro m1
    refine fs_r T 1 50 [some (.ref v0), none, some (.int v2), some (.int v3), none, some (.int v5)] [.ref v0] rfl ?_
    refine fs_gs T 53 2 2 v0 rfl rfl rfl rfl h0 ?_
    refine fs_r T 2 56 [some (.ref v0), none, some (.int v2), some (.int v3), none, some (.int v5)] [.int v3, .int v5, .ref (H.2.1 v0 2)] rfl ?_
    refine fs_si T 57 (H.2.1 v0 2) rfl rfl (hE.1 _ 2 2 h0) ?_
    intro m2
    refine fs_r T 1 58 [some (.ref v0), none, some (.int v2), some (.int v3), none, some (.int v5)] [.ref v0] rfl ?_
    refine fs_gs T 61 2 3 v0 rfl rfl rfl rfl h0 ?_
    refine fs_r T 2 64 [some (.ref v0), none, some (.int v2), some (.int v3), none, some (.int v5)] [.int (0 : Int32), .int v5, .ref (H.2.1 v0 3)] rfl ?_
    refine fs_si T 65 (H.2.1 v0 3) rfl rfl (hE.1 _ 2 3 h0) ?_
    intro m3
    refine fs_r T 1 67 [some (.ref v0), none, some (.int v2), some (.int v3), none, some (.int v5)] [.int v5] rfl ?_
    exact fs_reti T rfl rfl rfl
def f_X2_take (H : fm_H) (v0 : Nat) (v1 : Nat) (v2 : Int32) (v3 : Int32) (v4 : Int32) (m : fm_M) : Option (Int32 × fm_M) :=
  fm_bn (f_X2_lowestFree H v0 v2 m) fun x1 m1 =>
  if x1 = (-1 : Int32) then
    fm_bn (f_X2_borrowedBy H v0 v2 m1) fun x2 m2 =>
    if v4 ≤ x2 then
      f_X2_take_35 H v0 v2 v3 x1 m2
    else
    fm_bn (f_X2_lenderFor H v0 v1 v2 m2) fun x3 m3 =>
    fm_bn (f_X2_highestFree H v0 x3 m3) fun x4 m4 =>
    f_X2_take_35 H v0 v2 v3 x4 m4
  else
  f_X2_take_35 H v0 v2 v3 x1 m1
set_option maxRecDepth 10000 in
theorem q_X2_take {G : pm_G} {H : fm_H} {d : Nat} {z : fm_Z H} {v0 : Nat} {v1 : Nat} {v2 : Int32} {v3 : Int32} {v4 : Int32} {m : fm_M} (hE : fm_E G H) (h0 : fm_is H v0 2) (h1 : fm_is H v1 4) : fm_cal G H (d + 3) yX2_take [.ref v0, .ref v1, .int v2, .int v3, .int v4] z m fm_rI (f_X2_take H v0 v1 v2 v3 v4 m) := fm_mth (d := d + 2) mt_X2_take rfl rfl rfl (fun K => by
  show fm_o fm_rI (f_X2_take H v0 v1 v2 v3 v4 m) K → fm_V G H (d + 2) RX2 cX2_take (some (.int)) z K 0 [some (.ref v0), some (.ref v1), some (.int v2), some (.int v3), some (.int v4), none] [] m
  have T : fm_T RX2 cX2_take tc_X2_take fr_X2 mr_X2 cr_X2 lr_X2 := ⟨tok_X2, dc_X2_take⟩
  unfold f_X2_take
  refine fs_r T 2 2 [some (.ref v0), some (.ref v1), some (.int v2), some (.int v3), some (.int v4), none] [.int v2, .ref v0] rfl ?_
  refine fs_vI T 5 rfl rfl rfl rfl rfl rfl h0 (q_X2_lowestFree (d := d) hE h0) ?_
  intro x1 m1
  refine fs_r T 3 10 [some (.ref v0), some (.ref v1), some (.int v2), some (.int v3), some (.int v4), some (.int x1)] [.int (-1 : Int32), .int x1] rfl ?_
  refine fs_ic_ne T 35 13 rfl rfl rfl (fun _ => ?_) (fun _ => ?_)
  · refine fs_r T 2 15 [some (.ref v0), some (.ref v1), some (.int v2), some (.int v3), some (.int v4), some (.int x1)] [.int v2, .ref v0] rfl ?_
    refine fs_vI T 18 rfl rfl rfl rfl rfl rfl h0 (q_X2_borrowedBy (d := d) hE h0) ?_
    intro x2 m2
    refine fs_r T 1 20 [some (.ref v0), some (.ref v1), some (.int v2), some (.int v3), some (.int v4), some (.int x1)] [.int v4, .int x2] rfl ?_
    refine fs_ic_ge T 35 23 rfl rfl rfl (fun _ => ?_) (fun _ => ?_)
    · refine fs_wk (ls' := [some (.ref v0), none, some (.int v2), some (.int v3), none, some (.int x1)]) ⟨rfl, rfl, rfl, rfl, trivial⟩ ?_
      exact w_X2_take_35 hE h0 _
    · refine fs_r T 4 27 [some (.ref v0), some (.ref v1), some (.int v2), some (.int v3), some (.int v4), some (.int x1)] [.int v2, .ref v1, .ref v0, .ref v0] rfl ?_
      refine fs_vI T 30 rfl rfl rfl rfl rfl rfl h0 (q_X2_lenderFor (d := d) hE h0 h1) ?_
      intro x3 m3
      refine fs_vI T 33 rfl rfl rfl rfl rfl rfl h0 (q_X2_highestFree (d := d) hE h0) ?_
      intro x4 m4
      refine fs_r T 1 35 [some (.ref v0), some (.ref v1), some (.int v2), some (.int v3), some (.int v4), some (.int x4)] [] rfl ?_
      refine fs_wk (ls' := [some (.ref v0), none, some (.int v2), some (.int v3), none, some (.int x4)]) ⟨rfl, rfl, rfl, rfl, trivial⟩ ?_
      exact w_X2_take_35 hE h0 _
  · refine fs_wk (ls' := [some (.ref v0), none, some (.int v2), some (.int v3), none, some (.int x1)]) ⟨rfl, rfl, rfl, rfl, trivial⟩ ?_
    exact w_X2_take_35 hE h0 _)
def f_X2_makeEntry (H : fm_H) (v0 : Nat) (v1 : Int32) (m : fm_M) : Option (Unit × fm_M) :=
  fm_bn (f_X2_isSlot H v1 m) fun x1 m1 =>
  if x1 = 0 then
    some ((), m1)
  else
  if px_inb v1 (fm_sz H (H.2.1 v0 3)) = true then
    (fm_bd (fm_si m1 (H.2.1 v0 3) v1.toNatClampNeg (1 : Int32)) fun m2 =>
    some ((), m2))
  else none
set_option maxRecDepth 10000 in
theorem q_X2_makeEntry {G : pm_G} {H : fm_H} {d : Nat} {z : fm_Z H} {v0 : Nat} {v1 : Int32} {m : fm_M} (hE : fm_E G H) (h0 : fm_is H v0 2) : fm_cal G H (d + 2) yX2_makeEntry [.ref v0, .int v1] z m fm_rV (f_X2_makeEntry H v0 v1 m) := fm_mth (d := d + 1) mt_X2_makeEntry rfl rfl rfl (fun K => by
  show fm_o fm_rV (f_X2_makeEntry H v0 v1 m) K → fm_V G H (d + 1) RX2 cX2_makeEntry none z K 0 [some (.ref v0), some (.int v1)] [] m
  have T : fm_T RX2 cX2_makeEntry tc_X2_makeEntry fr_X2 mr_X2 cr_X2 lr_X2 := ⟨tok_X2, dc_X2_makeEntry⟩
  unfold f_X2_makeEntry
  refine fs_r T 1 1 [some (.ref v0), some (.int v1)] [.int v1] rfl ?_
  refine fs_sI T 4 rfl rfl rfl rfl rfl rfl rfl (q_X2_isSlot (d := d) hE ) ?_
  intro x1 m1
  refine fs_if_eq T 14 7 rfl rfl rfl (fun _ => ?_) (fun _ => ?_)
  · exact fs_retv T rfl rfl rfl
  · refine fs_r T 1 8 [some (.ref v0), some (.int v1)] [.ref v0] rfl ?_
    refine fs_gs T 11 2 3 v0 rfl rfl rfl rfl h0 ?_
    refine fs_r T 2 13 [some (.ref v0), some (.int v1)] [.int (1 : Int32), .int v1, .ref (H.2.1 v0 3)] rfl ?_
    refine fs_si T 14 (H.2.1 v0 3) rfl rfl (hE.1 _ 2 3 h0) ?_
    intro m2
    exact fs_retv T rfl rfl rfl)
def f_X2_giveUp (H : fm_H) (v0 : Nat) (v1 : Int32) (m : fm_M) : Option (Unit × fm_M) :=
  fm_bn (f_X2_isSlot H v1 m) fun x1 m1 =>
  if x1 = 0 then
    some ((), m1)
  else
  if px_inb v1 (fm_sz H (H.2.1 v0 1)) = true then
    (fm_bd (fm_si m1 (H.2.1 v0 1) v1.toNatClampNeg (-1 : Int32)) fun m2 =>
    some ((), m2))
  else none
set_option maxRecDepth 10000 in
theorem q_X2_giveUp {G : pm_G} {H : fm_H} {d : Nat} {z : fm_Z H} {v0 : Nat} {v1 : Int32} {m : fm_M} (hE : fm_E G H) (h0 : fm_is H v0 2) : fm_cal G H (d + 2) yX2_giveUp [.ref v0, .int v1] z m fm_rV (f_X2_giveUp H v0 v1 m) := fm_mth (d := d + 1) mt_X2_giveUp rfl rfl rfl (fun K => by
  show fm_o fm_rV (f_X2_giveUp H v0 v1 m) K → fm_V G H (d + 1) RX2 cX2_giveUp none z K 0 [some (.ref v0), some (.int v1)] [] m
  have T : fm_T RX2 cX2_giveUp tc_X2_giveUp fr_X2 mr_X2 cr_X2 lr_X2 := ⟨tok_X2, dc_X2_giveUp⟩
  unfold f_X2_giveUp
  refine fs_r T 1 1 [some (.ref v0), some (.int v1)] [.int v1] rfl ?_
  refine fs_sI T 4 rfl rfl rfl rfl rfl rfl rfl (q_X2_isSlot (d := d) hE ) ?_
  intro x1 m1
  refine fs_if_eq T 14 7 rfl rfl rfl (fun _ => ?_) (fun _ => ?_)
  · exact fs_retv T rfl rfl rfl
  · refine fs_r T 1 8 [some (.ref v0), some (.int v1)] [.ref v0] rfl ?_
    refine fs_gs T 11 2 1 v0 rfl rfl rfl rfl h0 ?_
    refine fs_r T 2 13 [some (.ref v0), some (.int v1)] [.int (-1 : Int32), .int v1, .ref (H.2.1 v0 1)] rfl ?_
    refine fs_si T 14 (H.2.1 v0 1) rfl rfl (hE.1 _ 2 1 h0) ?_
    intro m2
    exact fs_retv T rfl rfl rfl)
def f_X2_renumberBehind_2 (H : fm_H) (v0 : Nat) (v1 : Int32) : Nat → Int32 → fm_M → Option (Unit × fm_M)
  | 0, _, _ => none
  | n + 1, v2, m =>
    if (120 : Int32) ≤ v2 then
      some ((), m)
    else
    if px_inb v2 (fm_sz H (H.2.1 v0 2)) = true then
      if m.1 (H.2.1 v0 2) v2.toNatClampNeg ≤ v1 then
        f_X2_renumberBehind_2 H v0 v1 n (v2 + 1) m
      else
      if px_inb v2 (fm_sz H (H.2.1 v0 2)) = true then
        if px_inb v2 (fm_sz H (H.2.1 v0 2)) = true then
          (fm_bd (fm_si m (H.2.1 v0 2) v2.toNatClampNeg (m.1 (H.2.1 v0 2) v2.toNatClampNeg - (1 : Int32))) fun m1 =>
          f_X2_renumberBehind_2 H v0 v1 n (v2 + 1) m1)
        else none
      else none
    else none
set_option maxRecDepth 10000 in
theorem w_X2_renumberBehind_2 {G : pm_G} {H : fm_H} {d : Nat} {z : fm_Z H} {K : pm_R → fm_M → Prop} (hE : fm_E G H) {v0 : Nat} {v1 : Int32} (h0 : fm_is H v0 2) : ∀ (n : Nat) (v2 : Int32) (m : fm_M), fm_o fm_rV (f_X2_renumberBehind_2 H v0 v1 n v2 m) K → fm_V G H (d + 0) RX2 cX2_renumberBehind none z K 2 [some (.ref v0), some (.int v1), some (.int v2)] [] m := by
  have T : fm_T RX2 cX2_renumberBehind tc_X2_renumberBehind fr_X2 mr_X2 cr_X2 lr_X2 := ⟨tok_X2, dc_X2_renumberBehind⟩
  intro n
  induction n with
  | zero =>
    intro v2 m 
    exact fs_none
  | succ n ih =>
    intro v2 m 
    unfold f_X2_renumberBehind_2
    refine fs_r T 2 5 [some (.ref v0), some (.int v1), some (.int v2)] [.int (120 : Int32), .int v2] rfl ?_
    refine fs_ic_ge T 34 8 rfl rfl rfl (fun _ => ?_) (fun _ => ?_)
    · exact fs_retv T rfl rfl rfl
    · refine fs_r T 1 9 [some (.ref v0), some (.int v1), some (.int v2)] [.ref v0] rfl ?_
      refine fs_gs T 12 2 2 v0 rfl rfl rfl rfl h0 ?_
      refine fs_r T 1 13 [some (.ref v0), some (.int v1), some (.int v2)] [.int v2, .ref (H.2.1 v0 2)] rfl ?_
      refine fs_ai T 14 (H.2.1 v0 2) rfl rfl (hE.1 _ 2 2 h0) ?_
      refine fs_r T 1 15 [some (.ref v0), some (.int v1), some (.int v2)] [.int v1, .int (m.1 (H.2.1 v0 2) v2.toNatClampNeg)] rfl ?_
      refine fs_ic_le T 28 18 rfl rfl rfl (fun _ => ?_) (fun _ => ?_)
      · refine fs_r T 2 2 [some (.ref v0), some (.int v1), some (.int (v2 + 1))] [] rfl ?_
        exact ih _ _
      · refine fs_r T 1 19 [some (.ref v0), some (.int v1), some (.int v2)] [.ref v0] rfl ?_
        refine fs_gs T 22 2 2 v0 rfl rfl rfl rfl h0 ?_
        refine fs_r T 2 24 [some (.ref v0), some (.int v1), some (.int v2)] [.int v2, .ref (H.2.1 v0 2), .int v2, .ref (H.2.1 v0 2)] rfl ?_
        refine fs_ai T 25 (H.2.1 v0 2) rfl rfl (hE.1 _ 2 2 h0) ?_
        refine fs_r T 2 27 [some (.ref v0), some (.int v1), some (.int v2)] [.int (m.1 (H.2.1 v0 2) v2.toNatClampNeg - (1 : Int32)), .int v2, .ref (H.2.1 v0 2)] rfl ?_
        refine fs_si T 28 (H.2.1 v0 2) rfl rfl (hE.1 _ 2 2 h0) ?_
        intro m1
        refine fs_r T 2 2 [some (.ref v0), some (.int v1), some (.int (v2 + 1))] [] rfl ?_
        exact ih _ _
def f_X2_renumberBehind (H : fm_H) (v0 : Nat) (v1 : Int32) (m : fm_M) : Option (Unit × fm_M) :=
  f_X2_renumberBehind_2 H v0 v1 fm_N (0 : Int32) m
set_option maxRecDepth 10000 in
theorem q_X2_renumberBehind {G : pm_G} {H : fm_H} {d : Nat} {z : fm_Z H} {v0 : Nat} {v1 : Int32} {m : fm_M} (hE : fm_E G H) (h0 : fm_is H v0 2) : fm_cal G H (d + 1) yX2_renumberBehind [.ref v0, .int v1] z m fm_rV (f_X2_renumberBehind H v0 v1 m) := fm_mth (d := d + 0) mt_X2_renumberBehind rfl rfl rfl (fun K => by
  show fm_o fm_rV (f_X2_renumberBehind H v0 v1 m) K → fm_V G H (d + 0) RX2 cX2_renumberBehind none z K 0 [some (.ref v0), some (.int v1), none] [] m
  have T : fm_T RX2 cX2_renumberBehind tc_X2_renumberBehind fr_X2 mr_X2 cr_X2 lr_X2 := ⟨tok_X2, dc_X2_renumberBehind⟩
  unfold f_X2_renumberBehind
  refine fs_r T 2 2 [some (.ref v0), some (.int v1), some (.int (0 : Int32))] [] rfl ?_
  exact w_X2_renumberBehind_2 hE h0 _ _ _)
def f_X3_copyFrom (H : fm_H) (v0 : Nat) (v1 : Nat) (m : fm_M) : Option (Unit × fm_M) :=
  fm_bd (fm_si m v0 0 (m.1 v1 0)) fun m1 =>
  fm_bd (fm_si m1 v0 1 (m1.1 v1 1)) fun m2 =>
  fm_bd (fm_si m2 v0 2 (m2.1 v1 2)) fun m3 =>
  fm_bd (fm_si m3 v0 3 (m3.1 v1 3)) fun m4 =>
  if fm_b01 (m4.1 v1 4) = true then
    fm_bd (fm_si m4 v0 4 (m4.1 v1 4)) fun m5 =>
    some ((), m5)
  else none
set_option maxRecDepth 10000 in
theorem q_X3_copyFrom {G : pm_G} {H : fm_H} {d : Nat} {z : fm_Z H} {v0 : Nat} {v1 : Nat} {m : fm_M} (hE : fm_E G H) (h0 : fm_is H v0 3) (h1 : fm_is H v1 3) : fm_cal G H (d + 1) yX3_copyFrom [.ref v0, .ref v1] z m fm_rV (f_X3_copyFrom H v0 v1 m) := fm_mth (d := d + 0) mt_X3_copyFrom rfl rfl rfl (fun K => by
  show fm_o fm_rV (f_X3_copyFrom H v0 v1 m) K → fm_V G H (d + 0) RX3 cX3_copyFrom none z K 0 [some (.ref v0), some (.ref v1)] [] m
  have T : fm_T RX3 cX3_copyFrom tc_X3_copyFrom fr_X3 mr_X3 cr_X3 lr_X3 := ⟨tok_X3, dc_X3_copyFrom⟩
  unfold f_X3_copyFrom
  refine fs_r T 2 2 [some (.ref v0), some (.ref v1)] [.ref v1, .ref v0] rfl ?_
  refine fs_gi T 5 3 0 v1 rfl rfl rfl rfl h1 ?_
  refine fs_pi T 8 3 0 v0 rfl rfl rfl rfl h0 ?_
  intro m1
  refine fs_r T 2 10 [some (.ref v0), some (.ref v1)] [.ref v1, .ref v0] rfl ?_
  refine fs_gi T 13 3 1 v1 rfl rfl rfl rfl h1 ?_
  refine fs_pi T 16 3 1 v0 rfl rfl rfl rfl h0 ?_
  intro m2
  refine fs_r T 2 18 [some (.ref v0), some (.ref v1)] [.ref v1, .ref v0] rfl ?_
  refine fs_gi T 21 3 2 v1 rfl rfl rfl rfl h1 ?_
  refine fs_pi T 24 3 2 v0 rfl rfl rfl rfl h0 ?_
  intro m3
  refine fs_r T 2 26 [some (.ref v0), some (.ref v1)] [.ref v1, .ref v0] rfl ?_
  refine fs_gi T 29 3 3 v1 rfl rfl rfl rfl h1 ?_
  refine fs_pi T 32 3 3 v0 rfl rfl rfl rfl h0 ?_
  intro m4
  refine fs_r T 2 34 [some (.ref v0), some (.ref v1)] [.ref v1, .ref v0] rfl ?_
  refine fs_gi T 37 3 4 v1 rfl rfl rfl rfl h1 ?_
  refine fs_pz T 40 3 4 v0 rfl rfl rfl rfl h0 ?_
  intro m5
  exact fs_retv T rfl rfl rfl)
def f_X4_copyFrom_29 (H : fm_H) (v0 : Nat) (v1 : Nat) : Nat → Int32 → fm_M → Option (Unit × fm_M)
  | 0, _, _ => none
  | n + 1, v2, m =>
    if m.1 v0 1 ≤ v2 then
      some ((), m)
    else
    if (16 : Int32) ≤ v2 then
      some ((), m)
    else
    if px_inb v2 (fm_sz H (H.2.1 v0 2)) = true then
      (if fm_isb H (m.2.1 (H.2.1 v0 2) v2.toNatClampNeg) 3 = true then
        if px_inb v2 (fm_sz H (H.2.1 v1 2)) = true then
          (if fm_isb H (m.2.1 (H.2.1 v1 2) v2.toNatClampNeg) 3 = true then
            fm_bn (f_X3_copyFrom H (m.2.1 (H.2.1 v0 2) v2.toNatClampNeg) (m.2.1 (H.2.1 v1 2) v2.toNatClampNeg) m) fun _ m1 =>
            f_X4_copyFrom_29 H v0 v1 n (v2 + 1) m1
          else none)
        else none
      else none)
    else none
set_option maxRecDepth 10000 in
theorem w_X4_copyFrom_29 {G : pm_G} {H : fm_H} {d : Nat} {z : fm_Z H} {K : pm_R → fm_M → Prop} (hE : fm_E G H) {v0 : Nat} {v1 : Nat} (h0 : fm_is H v0 4) (h1 : fm_is H v1 4) : ∀ (n : Nat) (v2 : Int32) (m : fm_M), fm_o fm_rV (f_X4_copyFrom_29 H v0 v1 n v2 m) K → fm_V G H (d + 1) RX4 cX4_copyFrom none z K 29 [some (.ref v0), some (.ref v1), some (.int v2)] [] m := by
  have T : fm_T RX4 cX4_copyFrom tc_X4_copyFrom fr_X4 mr_X4 cr_X4 lr_X4 := ⟨tok_X4, dc_X4_copyFrom⟩
  intro n
  induction n with
  | zero =>
    intro v2 m 
    exact fs_none
  | succ n ih =>
    intro v2 m 
    unfold f_X4_copyFrom_29
    refine fs_r T 2 31 [some (.ref v0), some (.ref v1), some (.int v2)] [.ref v0, .int v2] rfl ?_
    refine fs_gi T 34 4 1 v0 rfl rfl rfl rfl h0 ?_
    refine fs_ic_ge T 64 37 rfl rfl rfl (fun _ => ?_) (fun _ => ?_)
    · exact fs_retv T rfl rfl rfl
    · refine fs_r T 2 40 [some (.ref v0), some (.ref v1), some (.int v2)] [.int (16 : Int32), .int v2] rfl ?_
      refine fs_ic_ge T 64 43 rfl rfl rfl (fun _ => ?_) (fun _ => ?_)
      · exact fs_retv T rfl rfl rfl
      · refine fs_r T 1 44 [some (.ref v0), some (.ref v1), some (.int v2)] [.ref v0] rfl ?_
        refine fs_gs T 47 4 2 v0 rfl rfl rfl rfl h0 ?_
        refine fs_r T 1 48 [some (.ref v0), some (.ref v1), some (.int v2)] [.int v2, .ref (H.2.1 v0 2)] rfl ?_
        refine fs_aa T 49 (H.2.1 v0 2) 3 rfl rfl (hE.1 _ 4 2 h0) ?_
        intro e1
        refine fs_r T 1 50 [some (.ref v0), some (.ref v1), some (.int v2)] [.ref v1, .ref (m.2.1 (H.2.1 v0 2) v2.toNatClampNeg)] rfl ?_
        refine fs_gs T 53 4 2 v1 rfl rfl rfl rfl h1 ?_
        refine fs_r T 1 54 [some (.ref v0), some (.ref v1), some (.int v2)] [.int v2, .ref (H.2.1 v1 2), .ref (m.2.1 (H.2.1 v0 2) v2.toNatClampNeg)] rfl ?_
        refine fs_aa T 55 (H.2.1 v1 2) 3 rfl rfl (hE.1 _ 4 2 h1) ?_
        intro e2
        refine fs_vV T 58 rfl rfl rfl rfl rfl rfl e1 (q_X3_copyFrom (d := d) hE e1 e2) ?_
        intro x1 m1
        refine fs_r T 2 29 [some (.ref v0), some (.ref v1), some (.int (v2 + 1))] [] rfl ?_
        exact ih _ _
def f_X4_copyFrom (H : fm_H) (v0 : Nat) (v1 : Nat) (m : fm_M) : Option (Unit × fm_M) :=
  fm_bd (fm_si m v0 0 (m.1 v1 0)) fun m1 =>
  fm_bd (fm_si m1 v0 1 (m1.1 v1 1)) fun m2 =>
  fm_bn (f_X11_copyNumbers H (H.2.1 v1 3) (H.2.1 v0 3) m2) fun _ m3 =>
  f_X4_copyFrom_29 H v0 v1 fm_N (0 : Int32) m3
set_option maxRecDepth 10000 in
theorem q_X4_copyFrom {G : pm_G} {H : fm_H} {d : Nat} {z : fm_Z H} {v0 : Nat} {v1 : Nat} {m : fm_M} (hE : fm_E G H) (h0 : fm_is H v0 4) (h1 : fm_is H v1 4) : fm_cal G H (d + 2) yX4_copyFrom [.ref v0, .ref v1] z m fm_rV (f_X4_copyFrom H v0 v1 m) := fm_mth (d := d + 1) mt_X4_copyFrom rfl rfl rfl (fun K => by
  show fm_o fm_rV (f_X4_copyFrom H v0 v1 m) K → fm_V G H (d + 1) RX4 cX4_copyFrom none z K 0 [some (.ref v0), some (.ref v1), none] [] m
  have T : fm_T RX4 cX4_copyFrom tc_X4_copyFrom fr_X4 mr_X4 cr_X4 lr_X4 := ⟨tok_X4, dc_X4_copyFrom⟩
  unfold f_X4_copyFrom
  refine fs_r T 2 2 [some (.ref v0), some (.ref v1), none] [.ref v1, .ref v0] rfl ?_
  refine fs_gi T 5 4 0 v1 rfl rfl rfl rfl h1 ?_
  refine fs_pi T 8 4 0 v0 rfl rfl rfl rfl h0 ?_
  intro m1
  refine fs_r T 2 10 [some (.ref v0), some (.ref v1), none] [.ref v1, .ref v0] rfl ?_
  refine fs_gi T 13 4 1 v1 rfl rfl rfl rfl h1 ?_
  refine fs_pi T 16 4 1 v0 rfl rfl rfl rfl h0 ?_
  intro m2
  refine fs_r T 1 17 [some (.ref v0), some (.ref v1), none] [.ref v1] rfl ?_
  refine fs_gs T 20 4 3 v1 rfl rfl rfl rfl h1 ?_
  refine fs_r T 1 21 [some (.ref v0), some (.ref v1), none] [.ref v0, .ref (H.2.1 v1 3)] rfl ?_
  refine fs_gs T 24 4 3 v0 rfl rfl rfl rfl h0 ?_
  refine fs_sV T 27 rfl rfl rfl rfl rfl rfl rfl (q_X11_copyNumbers (d := d) hE (hE.1 _ 4 3 h1) (hE.1 _ 4 3 h0)) ?_
  intro x1 m3
  refine fs_r T 2 29 [some (.ref v0), some (.ref v1), some (.int (0 : Int32))] [] rfl ?_
  exact w_X4_copyFrom_29 hE h0 h1 _ _ _)
def f_X4_isNode (H : fm_H) (v0 : Nat) (v1 : Int32) (m : fm_M) : Option (Int32 × fm_M) :=
  if v1 < 0 then
    some ((0 : Int32), m)
  else
  if m.1 v0 0 ≤ v1 then
    some ((0 : Int32), m)
  else
  some ((1 : Int32), m)
set_option maxRecDepth 10000 in
theorem q_X4_isNode {G : pm_G} {H : fm_H} {d : Nat} {z : fm_Z H} {v0 : Nat} {v1 : Int32} {m : fm_M} (hE : fm_E G H) (h0 : fm_is H v0 4) : fm_cal G H (d + 1) yX4_isNode [.ref v0, .int v1] z m fm_rI (f_X4_isNode H v0 v1 m) := fm_mth (d := d + 0) mt_X4_isNode rfl rfl rfl (fun K => by
  show fm_o fm_rI (f_X4_isNode H v0 v1 m) K → fm_V G H (d + 0) RX4 cX4_isNode (some (.boolean)) z K 0 [some (.ref v0), some (.int v1)] [] m
  have T : fm_T RX4 cX4_isNode tc_X4_isNode fr_X4 mr_X4 cr_X4 lr_X4 := ⟨tok_X4, dc_X4_isNode⟩
  unfold f_X4_isNode
  refine fs_r T 1 1 [some (.ref v0), some (.int v1)] [.int v1] rfl ?_
  refine fs_if_lt T 16 4 rfl rfl rfl (fun _ => ?_) (fun _ => ?_)
  · refine fs_r T 1 17 [some (.ref v0), some (.int v1)] [.int (0 : Int32)] rfl ?_
    exact fs_retc T rfl rfl rfl rfl
  · refine fs_r T 2 6 [some (.ref v0), some (.int v1)] [.ref v0, .int v1] rfl ?_
    refine fs_gi T 9 4 0 v0 rfl rfl rfl rfl h0 ?_
    refine fs_ic_ge T 16 12 rfl rfl rfl (fun _ => ?_) (fun _ => ?_)
    · refine fs_r T 1 17 [some (.ref v0), some (.int v1)] [.int (0 : Int32)] rfl ?_
      exact fs_retc T rfl rfl rfl rfl
    · refine fs_r T 2 17 [some (.ref v0), some (.int v1)] [.int (1 : Int32)] rfl ?_
      exact fs_retc T rfl rfl rfl rfl)
def f_X4_appendLink (H : fm_H) (v0 : Nat) (v1 : Int32) (v2 : Int32) (v3 : Int32) (v4 : Int32) (m : fm_M) : Option (Int32 × fm_M) :=
  fm_bn (f_X4_isNode H v0 v1 m) fun x1 m1 =>
  if x1 = 0 then
    some ((-1 : Int32), m1)
  else
  fm_bn (f_X4_isNode H v0 v2 m1) fun x2 m2 =>
  if x2 = 0 then
    some ((-1 : Int32), m2)
  else
  if m2.1 v0 1 < (16 : Int32) then
    if px_inb (m2.1 v0 1) (fm_sz H (H.2.1 v0 2)) = true then
      (if fm_isb H (m2.2.1 (H.2.1 v0 2) (m2.1 v0 1).toNatClampNeg) 3 = true then
        fm_bd (fm_si m2 (m2.2.1 (H.2.1 v0 2) (m2.1 v0 1).toNatClampNeg) 0 v1) fun m3 =>
        fm_bd (fm_si m3 (m2.2.1 (H.2.1 v0 2) (m2.1 v0 1).toNatClampNeg) 1 v2) fun m4 =>
        fm_bd (fm_si m4 (m2.2.1 (H.2.1 v0 2) (m2.1 v0 1).toNatClampNeg) 2 v3) fun m5 =>
        fm_bd (fm_si m5 (m2.2.1 (H.2.1 v0 2) (m2.1 v0 1).toNatClampNeg) 3 v4) fun m6 =>
        if fm_b01 (1 : Int32) = true then
          fm_bd (fm_si m6 (m2.2.1 (H.2.1 v0 2) (m2.1 v0 1).toNatClampNeg) 4 (1 : Int32)) fun m7 =>
          if px_inb ((v1 * (10 : Int32)) + v2) (fm_sz H (H.2.1 v0 3)) = true then
            (fm_bd (fm_si m7 (H.2.1 v0 3) ((v1 * (10 : Int32)) + v2).toNatClampNeg (m7.1 v0 1)) fun m8 =>
            if px_inb ((v2 * (10 : Int32)) + v1) (fm_sz H (H.2.1 v0 3)) = true then
              (fm_bd (fm_si m8 (H.2.1 v0 3) ((v2 * (10 : Int32)) + v1).toNatClampNeg (m8.1 v0 1)) fun m9 =>
              fm_bd (fm_si m9 v0 1 (m9.1 v0 1 + (1 : Int32))) fun m10 =>
              some ((m10.1 v0 1 - (1 : Int32)), m10))
            else none)
          else none
        else none
      else none)
    else none
  else
  some ((-1 : Int32), m2)
set_option maxRecDepth 10000 in
theorem q_X4_appendLink {G : pm_G} {H : fm_H} {d : Nat} {z : fm_Z H} {v0 : Nat} {v1 : Int32} {v2 : Int32} {v3 : Int32} {v4 : Int32} {m : fm_M} (hE : fm_E G H) (h0 : fm_is H v0 4) : fm_cal G H (d + 2) yX4_appendLink [.ref v0, .int v1, .int v2, .int v3, .int v4] z m fm_rI (f_X4_appendLink H v0 v1 v2 v3 v4 m) := fm_mth (d := d + 1) mt_X4_appendLink rfl rfl rfl (fun K => by
  show fm_o fm_rI (f_X4_appendLink H v0 v1 v2 v3 v4 m) K → fm_V G H (d + 1) RX4 cX4_appendLink (some (.int)) z K 0 [some (.ref v0), some (.int v1), some (.int v2), some (.int v3), some (.int v4), none] [] m
  have T : fm_T RX4 cX4_appendLink tc_X4_appendLink fr_X4 mr_X4 cr_X4 lr_X4 := ⟨tok_X4, dc_X4_appendLink⟩
  unfold f_X4_appendLink
  refine fs_r T 2 2 [some (.ref v0), some (.int v1), some (.int v2), some (.int v3), some (.int v4), none] [.int v1, .ref v0] rfl ?_
  refine fs_vI T 5 rfl rfl rfl rfl rfl rfl h0 (q_X4_isNode (d := d) hE h0) ?_
  intro x1 m1
  refine fs_if_eq T 25 8 rfl rfl rfl (fun _ => ?_) (fun _ => ?_)
  · refine fs_r T 1 26 [some (.ref v0), some (.int v1), some (.int v2), some (.int v3), some (.int v4), none] [.int (-1 : Int32)] rfl ?_
    exact fs_reti T rfl rfl rfl
  · refine fs_r T 2 10 [some (.ref v0), some (.int v1), some (.int v2), some (.int v3), some (.int v4), none] [.int v2, .ref v0] rfl ?_
    refine fs_vI T 13 rfl rfl rfl rfl rfl rfl h0 (q_X4_isNode (d := d) hE h0) ?_
    intro x2 m2
    refine fs_if_eq T 25 16 rfl rfl rfl (fun _ => ?_) (fun _ => ?_)
    · refine fs_r T 1 26 [some (.ref v0), some (.int v1), some (.int v2), some (.int v3), some (.int v4), none] [.int (-1 : Int32)] rfl ?_
      exact fs_reti T rfl rfl rfl
    · refine fs_r T 1 17 [some (.ref v0), some (.int v1), some (.int v2), some (.int v3), some (.int v4), none] [.ref v0] rfl ?_
      refine fs_gi T 20 4 1 v0 rfl rfl rfl rfl h0 ?_
      refine fs_r T 1 22 [some (.ref v0), some (.int v1), some (.int v2), some (.int v3), some (.int v4), none] [.int (16 : Int32), .int (m2.1 v0 1)] rfl ?_
      refine fs_ic_lt T 27 25 rfl rfl rfl (fun _ => ?_) (fun _ => ?_)
      · refine fs_r T 1 28 [some (.ref v0), some (.int v1), some (.int v2), some (.int v3), some (.int v4), none] [.ref v0] rfl ?_
        refine fs_gs T 31 4 2 v0 rfl rfl rfl rfl h0 ?_
        refine fs_r T 1 32 [some (.ref v0), some (.int v1), some (.int v2), some (.int v3), some (.int v4), none] [.ref v0, .ref (H.2.1 v0 2)] rfl ?_
        refine fs_gi T 35 4 1 v0 rfl rfl rfl rfl h0 ?_
        refine fs_aa T 36 (H.2.1 v0 2) 3 rfl rfl (hE.1 _ 4 2 h0) ?_
        intro e1
        refine fs_r T 3 41 [some (.ref v0), some (.int v1), some (.int v2), some (.int v3), some (.int v4), some (.ref (m2.2.1 (H.2.1 v0 2) (m2.1 v0 1).toNatClampNeg))] [.int v1, .ref (m2.2.1 (H.2.1 v0 2) (m2.1 v0 1).toNatClampNeg)] rfl ?_
        refine fs_pi T 44 3 0 (m2.2.1 (H.2.1 v0 2) (m2.1 v0 1).toNatClampNeg) rfl rfl rfl rfl e1 ?_
        intro m3
        refine fs_r T 2 47 [some (.ref v0), some (.int v1), some (.int v2), some (.int v3), some (.int v4), some (.ref (m2.2.1 (H.2.1 v0 2) (m2.1 v0 1).toNatClampNeg))] [.int v2, .ref (m2.2.1 (H.2.1 v0 2) (m2.1 v0 1).toNatClampNeg)] rfl ?_
        refine fs_pi T 50 3 1 (m2.2.1 (H.2.1 v0 2) (m2.1 v0 1).toNatClampNeg) rfl rfl rfl rfl e1 ?_
        intro m4
        refine fs_r T 2 53 [some (.ref v0), some (.int v1), some (.int v2), some (.int v3), some (.int v4), some (.ref (m2.2.1 (H.2.1 v0 2) (m2.1 v0 1).toNatClampNeg))] [.int v3, .ref (m2.2.1 (H.2.1 v0 2) (m2.1 v0 1).toNatClampNeg)] rfl ?_
        refine fs_pi T 56 3 2 (m2.2.1 (H.2.1 v0 2) (m2.1 v0 1).toNatClampNeg) rfl rfl rfl rfl e1 ?_
        intro m5
        refine fs_r T 2 60 [some (.ref v0), some (.int v1), some (.int v2), some (.int v3), some (.int v4), some (.ref (m2.2.1 (H.2.1 v0 2) (m2.1 v0 1).toNatClampNeg))] [.int v4, .ref (m2.2.1 (H.2.1 v0 2) (m2.1 v0 1).toNatClampNeg)] rfl ?_
        refine fs_pi T 63 3 3 (m2.2.1 (H.2.1 v0 2) (m2.1 v0 1).toNatClampNeg) rfl rfl rfl rfl e1 ?_
        intro m6
        refine fs_r T 2 66 [some (.ref v0), some (.int v1), some (.int v2), some (.int v3), some (.int v4), some (.ref (m2.2.1 (H.2.1 v0 2) (m2.1 v0 1).toNatClampNeg))] [.int (1 : Int32), .ref (m2.2.1 (H.2.1 v0 2) (m2.1 v0 1).toNatClampNeg)] rfl ?_
        refine fs_pz T 69 3 4 (m2.2.1 (H.2.1 v0 2) (m2.1 v0 1).toNatClampNeg) rfl rfl rfl rfl e1 ?_
        intro m7
        refine fs_r T 1 70 [some (.ref v0), some (.int v1), some (.int v2), some (.int v3), some (.int v4), some (.ref (m2.2.1 (H.2.1 v0 2) (m2.1 v0 1).toNatClampNeg))] [.ref v0] rfl ?_
        refine fs_gs T 73 4 3 v0 rfl rfl rfl rfl h0 ?_
        refine fs_r T 6 80 [some (.ref v0), some (.int v1), some (.int v2), some (.int v3), some (.int v4), some (.ref (m2.2.1 (H.2.1 v0 2) (m2.1 v0 1).toNatClampNeg))] [.ref v0, .int ((v1 * (10 : Int32)) + v2), .ref (H.2.1 v0 3)] rfl ?_
        refine fs_gi T 83 4 1 v0 rfl rfl rfl rfl h0 ?_
        refine fs_si T 84 (H.2.1 v0 3) rfl rfl (hE.1 _ 4 3 h0) ?_
        intro m8
        refine fs_r T 1 85 [some (.ref v0), some (.int v1), some (.int v2), some (.int v3), some (.int v4), some (.ref (m2.2.1 (H.2.1 v0 2) (m2.1 v0 1).toNatClampNeg))] [.ref v0] rfl ?_
        refine fs_gs T 88 4 3 v0 rfl rfl rfl rfl h0 ?_
        refine fs_r T 6 95 [some (.ref v0), some (.int v1), some (.int v2), some (.int v3), some (.int v4), some (.ref (m2.2.1 (H.2.1 v0 2) (m2.1 v0 1).toNatClampNeg))] [.ref v0, .int ((v2 * (10 : Int32)) + v1), .ref (H.2.1 v0 3)] rfl ?_
        refine fs_gi T 98 4 1 v0 rfl rfl rfl rfl h0 ?_
        refine fs_si T 99 (H.2.1 v0 3) rfl rfl (hE.1 _ 4 3 h0) ?_
        intro m9
        refine fs_r T 2 101 [some (.ref v0), some (.int v1), some (.int v2), some (.int v3), some (.int v4), some (.ref (m2.2.1 (H.2.1 v0 2) (m2.1 v0 1).toNatClampNeg))] [.ref v0, .ref v0] rfl ?_
        refine fs_gi T 104 4 1 v0 rfl rfl rfl rfl h0 ?_
        refine fs_r T 2 106 [some (.ref v0), some (.int v1), some (.int v2), some (.int v3), some (.int v4), some (.ref (m2.2.1 (H.2.1 v0 2) (m2.1 v0 1).toNatClampNeg))] [.int (m9.1 v0 1 + (1 : Int32)), .ref v0] rfl ?_
        refine fs_pi T 109 4 1 v0 rfl rfl rfl rfl h0 ?_
        intro m10
        refine fs_r T 1 110 [some (.ref v0), some (.int v1), some (.int v2), some (.int v3), some (.int v4), some (.ref (m2.2.1 (H.2.1 v0 2) (m2.1 v0 1).toNatClampNeg))] [.ref v0] rfl ?_
        refine fs_gi T 113 4 1 v0 rfl rfl rfl rfl h0 ?_
        refine fs_r T 2 115 [some (.ref v0), some (.int v1), some (.int v2), some (.int v3), some (.int v4), some (.ref (m2.2.1 (H.2.1 v0 2) (m2.1 v0 1).toNatClampNeg))] [.int (m10.1 v0 1 - (1 : Int32))] rfl ?_
        exact fs_reti T rfl rfl rfl
      · refine fs_r T 1 26 [some (.ref v0), some (.int v1), some (.int v2), some (.int v3), some (.int v4), none] [.int (-1 : Int32)] rfl ?_
        exact fs_reti T rfl rfl rfl)
