/-! functions out of the code -/
def f_X12_thrown (H : fm_H) (v0 : Nat) (m : fm_M) : Option (Int32 × fm_M) :=
  some (m.1 v0 7, m)
set_option maxRecDepth 10000 in
theorem q_X12_thrown {G : pm_G} {H : fm_H} {d : Nat} {z : Option Nat × Nat × Nat} {v0 : Nat} {m : fm_M} (hE : fm_E G H) (h0 : fm_is H v0 12) : fm_cal G H (d + 1) yX12_thrown [.ref v0] z m fm_rI (f_X12_thrown H v0 m) := fm_mth (d := d + 0) mt_X12_thrown rfl rfl rfl (fun K => by
  show fm_o fm_rI (f_X12_thrown H v0 m) K → fm_V G H (d + 0) RX12 cX12_thrown (some (.int)) z K 0 [some (.ref v0)] [] m
  have T : fm_T RX12 cX12_thrown tc_X12_thrown fr_X12 mr_X12 cr_X12 lr_X12 := ⟨tok_X12, dc_X12_thrown⟩
  unfold f_X12_thrown
  refine fs_r T 1 1 [some (.ref v0)] [.ref v0] rfl ?_
  refine fs_gi T 4 12 7 v0 rfl rfl rfl rfl h0 ?_
  exact fs_reti T rfl rfl rfl)
def f_X12_fail (H : fm_H) (v0 : Nat) (v1 : Int32) (m : fm_M) : Option (Int32 × fm_M) :=
  fm_bd (fm_si m v0 7 v1) fun m1 =>
  some ((0 : Int32), m1)
set_option maxRecDepth 10000 in
theorem q_X12_fail {G : pm_G} {H : fm_H} {d : Nat} {z : Option Nat × Nat × Nat} {v0 : Nat} {v1 : Int32} {m : fm_M} (hE : fm_E G H) (h0 : fm_is H v0 12) : fm_cal G H (d + 1) yX12_fail [.ref v0, .int v1] z m fm_rI (f_X12_fail H v0 v1 m) := fm_mth (d := d + 0) mt_X12_fail rfl rfl rfl (fun K => by
  show fm_o fm_rI (f_X12_fail H v0 v1 m) K → fm_V G H (d + 0) RX12 cX12_fail (some (.int)) z K 0 [some (.ref v0), some (.int v1)] [] m
  have T : fm_T RX12 cX12_fail tc_X12_fail fr_X12 mr_X12 cr_X12 lr_X12 := ⟨tok_X12, dc_X12_fail⟩
  unfold f_X12_fail
  refine fs_r T 2 2 [some (.ref v0), some (.int v1)] [.int v1, .ref v0] rfl ?_
  refine fs_pi T 5 12 7 v0 rfl rfl rfl rfl h0 ?_
  intro m1
  refine fs_r T 1 6 [some (.ref v0), some (.int v1)] [.int (0 : Int32)] rfl ?_
  exact fs_reti T rfl rfl rfl)
def f_X12_isBetween (H : fm_H) (v0 : Int32) (v1 : Int32) (v2 : Int32) (m : fm_M) : Option (Int32 × fm_M) :=
  if v0 < v1 then
    some ((0 : Int32), m)
  else
  if v2 < v0 then
    some ((0 : Int32), m)
  else
  some ((1 : Int32), m)
set_option maxRecDepth 10000 in
theorem q_X12_isBetween {G : pm_G} {H : fm_H} {d : Nat} {z : Option Nat × Nat × Nat} {v0 : Int32} {v1 : Int32} {v2 : Int32} {m : fm_M} (hE : fm_E G H) : fm_cal G H (d + 1) yX12_isBetween [.int v0, .int v1, .int v2] z m fm_rI (f_X12_isBetween H v0 v1 v2 m) := fm_mth (d := d + 0) mt_X12_isBetween rfl rfl rfl (fun K => by
  show fm_o fm_rI (f_X12_isBetween H v0 v1 v2 m) K → fm_V G H (d + 0) RX12 cX12_isBetween (some (.boolean)) z K 0 [some (.int v0), some (.int v1), some (.int v2)] [] m
  have T : fm_T RX12 cX12_isBetween tc_X12_isBetween fr_X12 mr_X12 cr_X12 lr_X12 := ⟨tok_X12, dc_X12_isBetween⟩
  unfold f_X12_isBetween
  refine fs_r T 2 2 [some (.int v0), some (.int v1), some (.int v2)] [.int v1, .int v0] rfl ?_
  refine fs_ic_lt T 14 5 rfl rfl rfl (fun _ => ?_) (fun _ => ?_)
  · refine fs_r T 1 15 [some (.int v0), some (.int v1), some (.int v2)] [.int (0 : Int32)] rfl ?_
    exact fs_retc T rfl rfl rfl rfl
  · refine fs_r T 2 7 [some (.int v0), some (.int v1), some (.int v2)] [.int v2, .int v0] rfl ?_
    refine fs_ic_gt T 14 10 rfl rfl rfl (fun _ => ?_) (fun _ => ?_)
    · refine fs_r T 1 15 [some (.int v0), some (.int v1), some (.int v2)] [.int (0 : Int32)] rfl ?_
      exact fs_retc T rfl rfl rfl rfl
    · refine fs_r T 2 15 [some (.int v0), some (.int v1), some (.int v2)] [.int (1 : Int32)] rfl ?_
      exact fs_retc T rfl rfl rfl rfl)
def f_X12_clear_2 (H : fm_H) (v0 : Nat) : Nat → Int32 → fm_M → Option (Unit × fm_M)
  | 0, _, _ => none
  | n + 1, v1, m =>
    if (1112 : Int32) ≤ v1 then
      if px_inb (0 : Int32) (fm_sz H (H.2.1 v0 0)) = true then
        (fm_bd (fm_si m (H.2.1 v0 0) (0 : Int32).toNatClampNeg (1 : Int32)) fun m1 =>
        some ((), m1))
      else none
    else
    if px_inb v1 (fm_sz H (H.2.1 v0 0)) = true then
      (fm_bd (fm_si m (H.2.1 v0 0) v1.toNatClampNeg (0 : Int32)) fun m2 =>
      f_X12_clear_2 H v0 n (v1 + 1) m2)
    else none
set_option maxRecDepth 10000 in
theorem w_X12_clear_2 {G : pm_G} {H : fm_H} {d : Nat} {z : Option Nat × Nat × Nat} {K : pm_R → fm_M → Prop} (hE : fm_E G H) {v0 : Nat} (h0 : fm_is H v0 12) : ∀ (n : Nat) (v1 : Int32) (m : fm_M), fm_o fm_rV (f_X12_clear_2 H v0 n v1 m) K → fm_V G H (d + 0) RX12 cX12_clear none z K 2 [some (.ref v0), some (.int v1)] [] m := by
  have T : fm_T RX12 cX12_clear tc_X12_clear fr_X12 mr_X12 cr_X12 lr_X12 := ⟨tok_X12, dc_X12_clear⟩
  intro n
  induction n with
  | zero =>
    intro v1 m 
    exact fs_none
  | succ n ih =>
    intro v1 m 
    unfold f_X12_clear_2
    refine fs_r T 2 6 [some (.ref v0), some (.int v1)] [.int (1112 : Int32), .int v1] rfl ?_
    refine fs_ic_ge T 22 9 rfl rfl rfl (fun _ => ?_) (fun _ => ?_)
    · refine fs_r T 1 23 [some (.ref v0), some (.int v1)] [.ref v0] rfl ?_
      refine fs_gs T 26 12 0 v0 rfl rfl rfl rfl h0 ?_
      refine fs_r T 2 28 [some (.ref v0), some (.int v1)] [.int (1 : Int32), .int (0 : Int32), .ref (H.2.1 v0 0)] rfl ?_
      refine fs_si T 29 (H.2.1 v0 0) rfl rfl (hE.1 _ 12 0 h0) ?_
      intro m1
      exact fs_retv T rfl rfl rfl
    · refine fs_r T 1 10 [some (.ref v0), some (.int v1)] [.ref v0] rfl ?_
      refine fs_gs T 13 12 0 v0 rfl rfl rfl rfl h0 ?_
      refine fs_r T 2 15 [some (.ref v0), some (.int v1)] [.int (0 : Int32), .int v1, .ref (H.2.1 v0 0)] rfl ?_
      refine fs_si T 16 (H.2.1 v0 0) rfl rfl (hE.1 _ 12 0 h0) ?_
      intro m2
      refine fs_r T 2 2 [some (.ref v0), some (.int (v1 + 1))] [] rfl ?_
      exact ih _ _
def f_X12_clear (H : fm_H) (v0 : Nat) (m : fm_M) : Option (Unit × fm_M) :=
  f_X12_clear_2 H v0 fm_N (0 : Int32) m
set_option maxRecDepth 10000 in
theorem q_X12_clear {G : pm_G} {H : fm_H} {d : Nat} {z : Option Nat × Nat × Nat} {v0 : Nat} {m : fm_M} (hE : fm_E G H) (h0 : fm_is H v0 12) : fm_cal G H (d + 1) yX12_clear [.ref v0] z m fm_rV (f_X12_clear H v0 m) := fm_mth (d := d + 0) mt_X12_clear rfl rfl rfl (fun K => by
  show fm_o fm_rV (f_X12_clear H v0 m) K → fm_V G H (d + 0) RX12 cX12_clear none z K 0 [some (.ref v0), none] [] m
  have T : fm_T RX12 cX12_clear tc_X12_clear fr_X12 mr_X12 cr_X12 lr_X12 := ⟨tok_X12, dc_X12_clear⟩
  unfold f_X12_clear
  refine fs_r T 2 2 [some (.ref v0), some (.int (0 : Int32))] [] rfl ?_
  exact w_X12_clear_2 hE h0 _ _ _)
def f_X12_copy_3 (H : fm_H) (v0 : Nat) (v1 : Int32) (v2 : Nat) (v3 : Int32) : Nat → Int32 → fm_M → Option (Unit × fm_M)
  | 0, _, _ => none
  | n + 1, v4, m =>
    if (1112 : Int32) ≤ v4 then
      some ((), m)
    else
    if px_inb (v1 + v4) (fm_sz H v0) = true then
      if px_inb (v3 + v4) (fm_sz H v2) = true then
        (fm_bd (fm_si m v2 (v3 + v4).toNatClampNeg (m.1 v0 (v1 + v4).toNatClampNeg)) fun m1 =>
        f_X12_copy_3 H v0 v1 v2 v3 n (v4 + 1) m1)
      else none
    else none
set_option maxRecDepth 10000 in
theorem w_X12_copy_3 {G : pm_G} {H : fm_H} {d : Nat} {z : Option Nat × Nat × Nat} {K : pm_R → fm_M → Prop} (hE : fm_E G H) {v0 : Nat} {v1 : Int32} {v2 : Nat} {v3 : Int32} (h0 : fm_ia H v0 .int true) (h2 : fm_ia H v2 .int true) : ∀ (n : Nat) (v4 : Int32) (m : fm_M), fm_o fm_rV (f_X12_copy_3 H v0 v1 v2 v3 n v4 m) K → fm_V G H (d + 0) RX12 cX12_copy none z K 3 [some (.ref v0), some (.int v1), some (.ref v2), some (.int v3), some (.int v4)] [] m := by
  have T : fm_T RX12 cX12_copy tc_X12_copy fr_X12 mr_X12 cr_X12 lr_X12 := ⟨tok_X12, dc_X12_copy⟩
  intro n
  induction n with
  | zero =>
    intro v4 m 
    exact fs_none
  | succ n ih =>
    intro v4 m 
    unfold f_X12_copy_3
    refine fs_r T 2 8 [some (.ref v0), some (.int v1), some (.ref v2), some (.int v3), some (.int v4)] [.int (1112 : Int32), .int v4] rfl ?_
    refine fs_ic_ge T 29 11 rfl rfl rfl (fun _ => ?_) (fun _ => ?_)
    · exact fs_retv T rfl rfl rfl
    · refine fs_r T 8 21 [some (.ref v0), some (.int v1), some (.ref v2), some (.int v3), some (.int v4)] [.int (v1 + v4), .ref v0, .int (v3 + v4), .ref v2] rfl ?_
      refine fs_ai T 22 v0 rfl rfl h0 ?_
      refine fs_si T 23 v2 rfl rfl h2 ?_
      intro m1
      refine fs_r T 2 3 [some (.ref v0), some (.int v1), some (.ref v2), some (.int v3), some (.int (v4 + 1))] [] rfl ?_
      exact ih _ _
def f_X12_copy (H : fm_H) (v0 : Nat) (v1 : Int32) (v2 : Nat) (v3 : Int32) (m : fm_M) : Option (Unit × fm_M) :=
  f_X12_copy_3 H v0 v1 v2 v3 fm_N (0 : Int32) m
set_option maxRecDepth 10000 in
theorem q_X12_copy {G : pm_G} {H : fm_H} {d : Nat} {z : Option Nat × Nat × Nat} {v0 : Nat} {v1 : Int32} {v2 : Nat} {v3 : Int32} {m : fm_M} (hE : fm_E G H) (h0 : fm_ia H v0 .int true) (h2 : fm_ia H v2 .int true) : fm_cal G H (d + 1) yX12_copy [.ref v0, .int v1, .ref v2, .int v3] z m fm_rV (f_X12_copy H v0 v1 v2 v3 m) := fm_mth (d := d + 0) mt_X12_copy rfl rfl rfl (fun K => by
  show fm_o fm_rV (f_X12_copy H v0 v1 v2 v3 m) K → fm_V G H (d + 0) RX12 cX12_copy none z K 0 [some (.ref v0), some (.int v1), some (.ref v2), some (.int v3), none] [] m
  have T : fm_T RX12 cX12_copy tc_X12_copy fr_X12 mr_X12 cr_X12 lr_X12 := ⟨tok_X12, dc_X12_copy⟩
  unfold f_X12_copy
  refine fs_r T 2 3 [some (.ref v0), some (.int v1), some (.ref v2), some (.int v3), some (.int (0 : Int32))] [] rfl ?_
  exact w_X12_copy_3 hE h0 h2 _ _ _)
def f_X12_isNode (H : fm_H) (v0 : Nat) (v1 : Int32) (m : fm_M) : Option (Int32 × fm_M) :=
  if px_inb (2 : Int32) (fm_sz H (H.2.1 v0 0)) = true then
    fm_bn (f_X12_isBetween H v1 (0 : Int32) (m.1 (H.2.1 v0 0) (2 : Int32).toNatClampNeg - (1 : Int32)) m) fun x1 m1 =>
    if fm_b01 x1 = true then some (x1, m1) else none
  else none
set_option maxRecDepth 10000 in
theorem q_X12_isNode {G : pm_G} {H : fm_H} {d : Nat} {z : Option Nat × Nat × Nat} {v0 : Nat} {v1 : Int32} {m : fm_M} (hE : fm_E G H) (h0 : fm_is H v0 12) : fm_cal G H (d + 2) yX12_isNode [.ref v0, .int v1] z m fm_rI (f_X12_isNode H v0 v1 m) := fm_mth (d := d + 1) mt_X12_isNode rfl rfl rfl (fun K => by
  show fm_o fm_rI (f_X12_isNode H v0 v1 m) K → fm_V G H (d + 1) RX12 cX12_isNode (some (.boolean)) z K 0 [some (.ref v0), some (.int v1)] [] m
  have T : fm_T RX12 cX12_isNode tc_X12_isNode fr_X12 mr_X12 cr_X12 lr_X12 := ⟨tok_X12, dc_X12_isNode⟩
  unfold f_X12_isNode
  refine fs_r T 3 3 [some (.ref v0), some (.int v1)] [.ref v0, .int (0 : Int32), .int v1] rfl ?_
  refine fs_gs T 6 12 0 v0 rfl rfl rfl rfl h0 ?_
  refine fs_r T 1 7 [some (.ref v0), some (.int v1)] [.int (2 : Int32), .ref (H.2.1 v0 0), .int (0 : Int32), .int v1] rfl ?_
  refine fs_ai T 8 (H.2.1 v0 0) rfl rfl (hE.1 _ 12 0 h0) ?_
  refine fs_r T 2 10 [some (.ref v0), some (.int v1)] [.int (m.1 (H.2.1 v0 0) (2 : Int32).toNatClampNeg - (1 : Int32)), .int (0 : Int32), .int v1] rfl ?_
  refine fs_sI T 13 rfl rfl rfl rfl rfl rfl rfl (q_X12_isBetween (d := d) hE ) ?_
  intro x1 m1
  exact fs_retz T rfl rfl rfl)
def f_X12_isLink (H : fm_H) (v0 : Nat) (v1 : Int32) (m : fm_M) : Option (Int32 × fm_M) :=
  if px_inb (3 : Int32) (fm_sz H (H.2.1 v0 0)) = true then
    fm_bn (f_X12_isBetween H v1 (0 : Int32) (m.1 (H.2.1 v0 0) (3 : Int32).toNatClampNeg - (1 : Int32)) m) fun x1 m1 =>
    if fm_b01 x1 = true then some (x1, m1) else none
  else none
set_option maxRecDepth 10000 in
theorem q_X12_isLink {G : pm_G} {H : fm_H} {d : Nat} {z : Option Nat × Nat × Nat} {v0 : Nat} {v1 : Int32} {m : fm_M} (hE : fm_E G H) (h0 : fm_is H v0 12) : fm_cal G H (d + 2) yX12_isLink [.ref v0, .int v1] z m fm_rI (f_X12_isLink H v0 v1 m) := fm_mth (d := d + 1) mt_X12_isLink rfl rfl rfl (fun K => by
  show fm_o fm_rI (f_X12_isLink H v0 v1 m) K → fm_V G H (d + 1) RX12 cX12_isLink (some (.boolean)) z K 0 [some (.ref v0), some (.int v1)] [] m
  have T : fm_T RX12 cX12_isLink tc_X12_isLink fr_X12 mr_X12 cr_X12 lr_X12 := ⟨tok_X12, dc_X12_isLink⟩
  unfold f_X12_isLink
  refine fs_r T 3 3 [some (.ref v0), some (.int v1)] [.ref v0, .int (0 : Int32), .int v1] rfl ?_
  refine fs_gs T 6 12 0 v0 rfl rfl rfl rfl h0 ?_
  refine fs_r T 1 7 [some (.ref v0), some (.int v1)] [.int (3 : Int32), .ref (H.2.1 v0 0), .int (0 : Int32), .int v1] rfl ?_
  refine fs_ai T 8 (H.2.1 v0 0) rfl rfl (hE.1 _ 12 0 h0) ?_
  refine fs_r T 2 10 [some (.ref v0), some (.int v1)] [.int (m.1 (H.2.1 v0 0) (3 : Int32).toNatClampNeg - (1 : Int32)), .int (0 : Int32), .int v1] rfl ?_
  refine fs_sI T 13 rfl rfl rfl rfl rfl rfl rfl (q_X12_isBetween (d := d) hE ) ?_
  intro x1 m1
  exact fs_retz T rfl rfl rfl)
def f_X12_isCircuit (H : fm_H) (v0 : Nat) (v1 : Int32) (m : fm_M) : Option (Int32 × fm_M) :=
  if px_inb (4 : Int32) (fm_sz H (H.2.1 v0 0)) = true then
    fm_bn (f_X12_isBetween H v1 (0 : Int32) (m.1 (H.2.1 v0 0) (4 : Int32).toNatClampNeg - (1 : Int32)) m) fun x1 m1 =>
    if fm_b01 x1 = true then some (x1, m1) else none
  else none
set_option maxRecDepth 10000 in
theorem q_X12_isCircuit {G : pm_G} {H : fm_H} {d : Nat} {z : Option Nat × Nat × Nat} {v0 : Nat} {v1 : Int32} {m : fm_M} (hE : fm_E G H) (h0 : fm_is H v0 12) : fm_cal G H (d + 2) yX12_isCircuit [.ref v0, .int v1] z m fm_rI (f_X12_isCircuit H v0 v1 m) := fm_mth (d := d + 1) mt_X12_isCircuit rfl rfl rfl (fun K => by
  show fm_o fm_rI (f_X12_isCircuit H v0 v1 m) K → fm_V G H (d + 1) RX12 cX12_isCircuit (some (.boolean)) z K 0 [some (.ref v0), some (.int v1)] [] m
  have T : fm_T RX12 cX12_isCircuit tc_X12_isCircuit fr_X12 mr_X12 cr_X12 lr_X12 := ⟨tok_X12, dc_X12_isCircuit⟩
  unfold f_X12_isCircuit
  refine fs_r T 3 3 [some (.ref v0), some (.int v1)] [.ref v0, .int (0 : Int32), .int v1] rfl ?_
  refine fs_gs T 6 12 0 v0 rfl rfl rfl rfl h0 ?_
  refine fs_r T 1 7 [some (.ref v0), some (.int v1)] [.int (4 : Int32), .ref (H.2.1 v0 0), .int (0 : Int32), .int v1] rfl ?_
  refine fs_ai T 8 (H.2.1 v0 0) rfl rfl (hE.1 _ 12 0 h0) ?_
  refine fs_r T 2 10 [some (.ref v0), some (.int v1)] [.int (m.1 (H.2.1 v0 0) (4 : Int32).toNatClampNeg - (1 : Int32)), .int (0 : Int32), .int v1] rfl ?_
  refine fs_sI T 13 rfl rfl rfl rfl rfl rfl rfl (q_X12_isBetween (d := d) hE ) ?_
  intro x1 m1
  exact fs_retz T rfl rfl rfl)
def f_X12_ofLink (H : fm_H) (v0 : Nat) (v1 : Int32) (v2 : Int32) (m : fm_M) : Option (Int32 × fm_M) :=
  if px_inb (((24 : Int32) + ((5 : Int32) * v1)) + v2) (fm_sz H (H.2.1 v0 0)) = true then
    some (m.1 (H.2.1 v0 0) (((24 : Int32) + ((5 : Int32) * v1)) + v2).toNatClampNeg, m)
  else none
set_option maxRecDepth 10000 in
theorem q_X12_ofLink {G : pm_G} {H : fm_H} {d : Nat} {z : Option Nat × Nat × Nat} {v0 : Nat} {v1 : Int32} {v2 : Int32} {m : fm_M} (hE : fm_E G H) (h0 : fm_is H v0 12) : fm_cal G H (d + 1) yX12_ofLink [.ref v0, .int v1, .int v2] z m fm_rI (f_X12_ofLink H v0 v1 v2 m) := fm_mth (d := d + 0) mt_X12_ofLink rfl rfl rfl (fun K => by
  show fm_o fm_rI (f_X12_ofLink H v0 v1 v2 m) K → fm_V G H (d + 0) RX12 cX12_ofLink (some (.int)) z K 0 [some (.ref v0), some (.int v1), some (.int v2)] [] m
  have T : fm_T RX12 cX12_ofLink tc_X12_ofLink fr_X12 mr_X12 cr_X12 lr_X12 := ⟨tok_X12, dc_X12_ofLink⟩
  unfold f_X12_ofLink
  refine fs_r T 1 1 [some (.ref v0), some (.int v1), some (.int v2)] [.ref v0] rfl ?_
  refine fs_gs T 4 12 0 v0 rfl rfl rfl rfl h0 ?_
  refine fs_r T 7 12 [some (.ref v0), some (.int v1), some (.int v2)] [.int (((24 : Int32) + ((5 : Int32) * v1)) + v2), .ref (H.2.1 v0 0)] rfl ?_
  refine fs_ai T 13 (H.2.1 v0 0) rfl rfl (hE.1 _ 12 0 h0) ?_
  exact fs_reti T rfl rfl rfl)
def f_X12_of (H : fm_H) (v0 : Nat) (v1 : Int32) (v2 : Int32) (m : fm_M) : Option (Int32 × fm_M) :=
  if px_inb (((104 : Int32) + ((66 : Int32) * v1)) + v2) (fm_sz H (H.2.1 v0 0)) = true then
    some (m.1 (H.2.1 v0 0) (((104 : Int32) + ((66 : Int32) * v1)) + v2).toNatClampNeg, m)
  else none
set_option maxRecDepth 10000 in
theorem q_X12_of {G : pm_G} {H : fm_H} {d : Nat} {z : Option Nat × Nat × Nat} {v0 : Nat} {v1 : Int32} {v2 : Int32} {m : fm_M} (hE : fm_E G H) (h0 : fm_is H v0 12) : fm_cal G H (d + 1) yX12_of [.ref v0, .int v1, .int v2] z m fm_rI (f_X12_of H v0 v1 v2 m) := fm_mth (d := d + 0) mt_X12_of rfl rfl rfl (fun K => by
  show fm_o fm_rI (f_X12_of H v0 v1 v2 m) K → fm_V G H (d + 0) RX12 cX12_of (some (.int)) z K 0 [some (.ref v0), some (.int v1), some (.int v2)] [] m
  have T : fm_T RX12 cX12_of tc_X12_of fr_X12 mr_X12 cr_X12 lr_X12 := ⟨tok_X12, dc_X12_of⟩
  unfold f_X12_of
  refine fs_r T 1 1 [some (.ref v0), some (.int v1), some (.int v2)] [.ref v0] rfl ?_
  refine fs_gs T 4 12 0 v0 rfl rfl rfl rfl h0 ?_
  refine fs_r T 7 13 [some (.ref v0), some (.int v1), some (.int v2)] [.int (((104 : Int32) + ((66 : Int32) * v1)) + v2), .ref (H.2.1 v0 0)] rfl ?_
  refine fs_ai T 14 (H.2.1 v0 0) rfl rfl (hE.1 _ 12 0 h0) ?_
  exact fs_reti T rfl rfl rfl)
def f_X12_put (H : fm_H) (v0 : Nat) (v1 : Int32) (v2 : Int32) (v3 : Int32) (m : fm_M) : Option (Unit × fm_M) :=
  if px_inb (((104 : Int32) + ((66 : Int32) * v1)) + v2) (fm_sz H (H.2.1 v0 0)) = true then
    (fm_bd (fm_si m (H.2.1 v0 0) (((104 : Int32) + ((66 : Int32) * v1)) + v2).toNatClampNeg v3) fun m1 =>
    some ((), m1))
  else none
set_option maxRecDepth 10000 in
theorem q_X12_put {G : pm_G} {H : fm_H} {d : Nat} {z : Option Nat × Nat × Nat} {v0 : Nat} {v1 : Int32} {v2 : Int32} {v3 : Int32} {m : fm_M} (hE : fm_E G H) (h0 : fm_is H v0 12) : fm_cal G H (d + 1) yX12_put [.ref v0, .int v1, .int v2, .int v3] z m fm_rV (f_X12_put H v0 v1 v2 v3 m) := fm_mth (d := d + 0) mt_X12_put rfl rfl rfl (fun K => by
  show fm_o fm_rV (f_X12_put H v0 v1 v2 v3 m) K → fm_V G H (d + 0) RX12 cX12_put none z K 0 [some (.ref v0), some (.int v1), some (.int v2), some (.int v3)] [] m
  have T : fm_T RX12 cX12_put tc_X12_put fr_X12 mr_X12 cr_X12 lr_X12 := ⟨tok_X12, dc_X12_put⟩
  unfold f_X12_put
  refine fs_r T 1 1 [some (.ref v0), some (.int v1), some (.int v2), some (.int v3)] [.ref v0] rfl ?_
  refine fs_gs T 4 12 0 v0 rfl rfl rfl rfl h0 ?_
  refine fs_r T 8 14 [some (.ref v0), some (.int v1), some (.int v2), some (.int v3)] [.int v3, .int (((104 : Int32) + ((66 : Int32) * v1)) + v2), .ref (H.2.1 v0 0)] rfl ?_
  refine fs_si T 15 (H.2.1 v0 0) rfl rfl (hE.1 _ 12 0 h0) ?_
  intro m1
  exact fs_retv T rfl rfl rfl)
def f_X12_grow (H : fm_H) (v0 : Nat) (v1 : Int32) (v2 : Int32) (v3 : Int32) (m : fm_M) : Option (Unit × fm_M) :=
  if px_inb (((104 : Int32) + ((66 : Int32) * v1)) + v2) (fm_sz H (H.2.1 v0 0)) = true then
    if px_inb (((104 : Int32) + ((66 : Int32) * v1)) + v2) (fm_sz H (H.2.1 v0 0)) = true then
      (fm_bd (fm_si m (H.2.1 v0 0) (((104 : Int32) + ((66 : Int32) * v1)) + v2).toNatClampNeg (m.1 (H.2.1 v0 0) (((104 : Int32) + ((66 : Int32) * v1)) + v2).toNatClampNeg + v3)) fun m1 =>
      some ((), m1))
    else none
  else none
set_option maxRecDepth 10000 in
theorem q_X12_grow {G : pm_G} {H : fm_H} {d : Nat} {z : Option Nat × Nat × Nat} {v0 : Nat} {v1 : Int32} {v2 : Int32} {v3 : Int32} {m : fm_M} (hE : fm_E G H) (h0 : fm_is H v0 12) : fm_cal G H (d + 1) yX12_grow [.ref v0, .int v1, .int v2, .int v3] z m fm_rV (f_X12_grow H v0 v1 v2 v3 m) := fm_mth (d := d + 0) mt_X12_grow rfl rfl rfl (fun K => by
  show fm_o fm_rV (f_X12_grow H v0 v1 v2 v3 m) K → fm_V G H (d + 0) RX12 cX12_grow none z K 0 [some (.ref v0), some (.int v1), some (.int v2), some (.int v3)] [] m
  have T : fm_T RX12 cX12_grow tc_X12_grow fr_X12 mr_X12 cr_X12 lr_X12 := ⟨tok_X12, dc_X12_grow⟩
  unfold f_X12_grow
  refine fs_r T 1 1 [some (.ref v0), some (.int v1), some (.int v2), some (.int v3)] [.ref v0] rfl ?_
  refine fs_gs T 4 12 0 v0 rfl rfl rfl rfl h0 ?_
  refine fs_r T 8 14 [some (.ref v0), some (.int v1), some (.int v2), some (.int v3)] [.int (((104 : Int32) + ((66 : Int32) * v1)) + v2), .ref (H.2.1 v0 0), .int (((104 : Int32) + ((66 : Int32) * v1)) + v2), .ref (H.2.1 v0 0)] rfl ?_
  refine fs_ai T 15 (H.2.1 v0 0) rfl rfl (hE.1 _ 12 0 h0) ?_
  refine fs_r T 2 17 [some (.ref v0), some (.int v1), some (.int v2), some (.int v3)] [.int (m.1 (H.2.1 v0 0) (((104 : Int32) + ((66 : Int32) * v1)) + v2).toNatClampNeg + v3), .int (((104 : Int32) + ((66 : Int32) * v1)) + v2), .ref (H.2.1 v0 0)] rfl ?_
  refine fs_si T 18 (H.2.1 v0 0) rfl rfl (hE.1 _ 12 0 h0) ?_
  intro m1
  exact fs_retv T rfl rfl rfl)
def f_X12_wayPlace (H : fm_H) (v0 : Int32) (v1 : Int32) (m : fm_M) : Option (Int32 × fm_M) :=
  some (((((104 : Int32) + ((66 : Int32) * v0)) + (16 : Int32)) + ((25 : Int32) * v1)), m)
set_option maxRecDepth 10000 in
theorem q_X12_wayPlace {G : pm_G} {H : fm_H} {d : Nat} {z : Option Nat × Nat × Nat} {v0 : Int32} {v1 : Int32} {m : fm_M} (hE : fm_E G H) : fm_cal G H (d + 1) yX12_wayPlace [.int v0, .int v1] z m fm_rI (f_X12_wayPlace H v0 v1 m) := fm_mth (d := d + 0) mt_X12_wayPlace rfl rfl rfl (fun K => by
  show fm_o fm_rI (f_X12_wayPlace H v0 v1 m) K → fm_V G H (d + 0) RX12 cX12_wayPlace (some (.int)) z K 0 [some (.int v0), some (.int v1)] [] m
  have T : fm_T RX12 cX12_wayPlace tc_X12_wayPlace fr_X12 mr_X12 cr_X12 lr_X12 := ⟨tok_X12, dc_X12_wayPlace⟩
  unfold f_X12_wayPlace
  refine fs_r T 11 15 [some (.int v0), some (.int v1)] [.int ((((104 : Int32) + ((66 : Int32) * v0)) + (16 : Int32)) + ((25 : Int32) * v1))] rfl ?_
  exact fs_reti T rfl rfl rfl)
def f_X12_ofPacket (H : fm_H) (v0 : Nat) (v1 : Int32) (v2 : Int32) (m : fm_M) : Option (Int32 × fm_M) :=
  if px_inb (((632 : Int32) + ((8 : Int32) * v1)) + v2) (fm_sz H (H.2.1 v0 0)) = true then
    some (m.1 (H.2.1 v0 0) (((632 : Int32) + ((8 : Int32) * v1)) + v2).toNatClampNeg, m)
  else none
set_option maxRecDepth 10000 in
theorem q_X12_ofPacket {G : pm_G} {H : fm_H} {d : Nat} {z : Option Nat × Nat × Nat} {v0 : Nat} {v1 : Int32} {v2 : Int32} {m : fm_M} (hE : fm_E G H) (h0 : fm_is H v0 12) : fm_cal G H (d + 1) yX12_ofPacket [.ref v0, .int v1, .int v2] z m fm_rI (f_X12_ofPacket H v0 v1 v2 m) := fm_mth (d := d + 0) mt_X12_ofPacket rfl rfl rfl (fun K => by
  show fm_o fm_rI (f_X12_ofPacket H v0 v1 v2 m) K → fm_V G H (d + 0) RX12 cX12_ofPacket (some (.int)) z K 0 [some (.ref v0), some (.int v1), some (.int v2)] [] m
  have T : fm_T RX12 cX12_ofPacket tc_X12_ofPacket fr_X12 mr_X12 cr_X12 lr_X12 := ⟨tok_X12, dc_X12_ofPacket⟩
  unfold f_X12_ofPacket
  refine fs_r T 1 1 [some (.ref v0), some (.int v1), some (.int v2)] [.ref v0] rfl ?_
  refine fs_gs T 4 12 0 v0 rfl rfl rfl rfl h0 ?_
  refine fs_r T 7 14 [some (.ref v0), some (.int v1), some (.int v2)] [.int (((632 : Int32) + ((8 : Int32) * v1)) + v2), .ref (H.2.1 v0 0)] rfl ?_
  refine fs_ai T 15 (H.2.1 v0 0) rfl rfl (hE.1 _ 12 0 h0) ?_
  exact fs_reti T rfl rfl rfl)
def f_X12_appendText_26 (H : fm_H) (v0 : Nat) (v1 : Int32) : Nat → Int32 → fm_M → Option (Int32 × fm_M)
  | 0, _, _ => none
  | n + 1, v2, m =>
    if v2 < 0 then
      some (m.1 v0 9, m)
    else
    if px_inb (m.1 v0 9) (fm_sz H (H.2.1 v0 8)) = true then
      (fm_bd (fm_si m (H.2.1 v0 8) (m.1 v0 9).toNatClampNeg ((v1 >>> (v2 &&& 31)) &&& (255 : Int32))) fun m1 =>
      fm_bd (fm_si m1 v0 9 (m1.1 v0 9 + (1 : Int32))) fun m2 =>
      f_X12_appendText_26 H v0 v1 n (v2 + (-8)) m2)
    else none
set_option maxRecDepth 10000 in
theorem w_X12_appendText_26 {G : pm_G} {H : fm_H} {d : Nat} {z : Option Nat × Nat × Nat} {K : pm_R → fm_M → Prop} (hE : fm_E G H) {v0 : Nat} {v1 : Int32} (h0 : fm_is H v0 12) : ∀ (n : Nat) (v2 : Int32) (m : fm_M), fm_o fm_rI (f_X12_appendText_26 H v0 v1 n v2 m) K → fm_V G H (d + 1) RX12 cX12_appendText (some (.int)) z K 26 [some (.ref v0), some (.int v1), some (.int v2)] [] m := by
  have T : fm_T RX12 cX12_appendText tc_X12_appendText fr_X12 mr_X12 cr_X12 lr_X12 := ⟨tok_X12, dc_X12_appendText⟩
  intro n
  induction n with
  | zero =>
    intro v2 m 
    exact fs_none
  | succ n ih =>
    intro v2 m 
    unfold f_X12_appendText_26
    refine fs_r T 1 27 [some (.ref v0), some (.int v1), some (.int v2)] [.int v2] rfl ?_
    refine fs_if_lt T 62 30 rfl rfl rfl (fun _ => ?_) (fun _ => ?_)
    · refine fs_r T 1 63 [some (.ref v0), some (.int v1), some (.int v2)] [.ref v0] rfl ?_
      refine fs_gi T 66 12 9 v0 rfl rfl rfl rfl h0 ?_
      exact fs_reti T rfl rfl rfl
    · refine fs_r T 1 31 [some (.ref v0), some (.int v1), some (.int v2)] [.ref v0] rfl ?_
      refine fs_gs T 34 12 8 v0 rfl rfl rfl rfl h0 ?_
      refine fs_r T 1 35 [some (.ref v0), some (.int v1), some (.int v2)] [.ref v0, .ref (H.2.1 v0 8)] rfl ?_
      refine fs_gi T 38 12 9 v0 rfl rfl rfl rfl h0 ?_
      refine fs_r T 5 45 [some (.ref v0), some (.int v1), some (.int v2)] [.int ((v1 >>> (v2 &&& 31)) &&& (255 : Int32)), .int (m.1 v0 9), .ref (H.2.1 v0 8)] rfl ?_
      refine fs_si T 46 (H.2.1 v0 8) rfl rfl (hE.1 _ 12 8 h0) ?_
      intro m1
      refine fs_r T 2 48 [some (.ref v0), some (.int v1), some (.int v2)] [.ref v0, .ref v0] rfl ?_
      refine fs_gi T 51 12 9 v0 rfl rfl rfl rfl h0 ?_
      refine fs_r T 2 53 [some (.ref v0), some (.int v1), some (.int v2)] [.int (m1.1 v0 9 + (1 : Int32)), .ref v0] rfl ?_
      refine fs_pi T 56 12 9 v0 rfl rfl rfl rfl h0 ?_
      intro m2
      refine fs_r T 2 26 [some (.ref v0), some (.int v1), some (.int (v2 + (-8)))] [] rfl ?_
      exact ih _ _
def f_X12_appendText (H : fm_H) (v0 : Nat) (v1 : Int32) (m : fm_M) : Option (Int32 × fm_M) :=
  fm_bd (fm_si m v0 7 (0 : Int32)) fun m1 =>
  if (m1.1 v0 9 + (4 : Int32)) ≤ (800 : Int32) then
    f_X12_appendText_26 H v0 v1 fm_N (24 : Int32) m1
  else
  fm_bn (f_X12_fail H v0 (1 : Int32) m1) fun x1 m2 =>
  some (x1, m2)
set_option maxRecDepth 10000 in
theorem q_X12_appendText {G : pm_G} {H : fm_H} {d : Nat} {z : Option Nat × Nat × Nat} {v0 : Nat} {v1 : Int32} {m : fm_M} (hE : fm_E G H) (h0 : fm_is H v0 12) : fm_cal G H (d + 2) yX12_appendText [.ref v0, .int v1] z m fm_rI (f_X12_appendText H v0 v1 m) := fm_mth (d := d + 1) mt_X12_appendText rfl rfl rfl (fun K => by
  show fm_o fm_rI (f_X12_appendText H v0 v1 m) K → fm_V G H (d + 1) RX12 cX12_appendText (some (.int)) z K 0 [some (.ref v0), some (.int v1), none] [] m
  have T : fm_T RX12 cX12_appendText tc_X12_appendText fr_X12 mr_X12 cr_X12 lr_X12 := ⟨tok_X12, dc_X12_appendText⟩
  unfold f_X12_appendText
  refine fs_r T 2 2 [some (.ref v0), some (.int v1), none] [.int (0 : Int32), .ref v0] rfl ?_
  refine fs_pi T 5 12 7 v0 rfl rfl rfl rfl h0 ?_
  intro m1
  refine fs_r T 1 6 [some (.ref v0), some (.int v1), none] [.ref v0] rfl ?_
  refine fs_gi T 9 12 9 v0 rfl rfl rfl rfl h0 ?_
  refine fs_r T 3 14 [some (.ref v0), some (.int v1), none] [.int (800 : Int32), .int (m1.1 v0 9 + (4 : Int32))] rfl ?_
  refine fs_ic_le T 23 17 rfl rfl rfl (fun _ => ?_) (fun _ => ?_)
  · refine fs_r T 2 26 [some (.ref v0), some (.int v1), some (.int (24 : Int32))] [] rfl ?_
    exact w_X12_appendText_26 hE h0 _ _ _
  · refine fs_r T 2 19 [some (.ref v0), some (.int v1), none] [.int (1 : Int32), .ref v0] rfl ?_
    refine fs_vI T 22 rfl rfl rfl rfl rfl rfl h0 (q_X12_fail (d := d) hE h0) ?_
    intro x1 m2
    exact fs_reti T rfl rfl rfl)
def f_X12_truncateText (H : fm_H) (v0 : Nat) (v1 : Int32) (m : fm_M) : Option (Int32 × fm_M) :=
  fm_bd (fm_si m v0 7 (0 : Int32)) fun m1 =>
  fm_bn (f_X12_isBetween H v1 (0 : Int32) (m1.1 v0 9) m1) fun x1 m2 =>
  if x1 = 0 then
    fm_bn (f_X12_fail H v0 (1 : Int32) m2) fun x2 m4 =>
    some (x2, m4)
  else
  fm_bd (fm_si m2 v0 9 v1) fun m3 =>
  some (m3.1 v0 9, m3)
set_option maxRecDepth 10000 in
theorem q_X12_truncateText {G : pm_G} {H : fm_H} {d : Nat} {z : Option Nat × Nat × Nat} {v0 : Nat} {v1 : Int32} {m : fm_M} (hE : fm_E G H) (h0 : fm_is H v0 12) : fm_cal G H (d + 2) yX12_truncateText [.ref v0, .int v1] z m fm_rI (f_X12_truncateText H v0 v1 m) := fm_mth (d := d + 1) mt_X12_truncateText rfl rfl rfl (fun K => by
  show fm_o fm_rI (f_X12_truncateText H v0 v1 m) K → fm_V G H (d + 1) RX12 cX12_truncateText (some (.int)) z K 0 [some (.ref v0), some (.int v1)] [] m
  have T : fm_T RX12 cX12_truncateText tc_X12_truncateText fr_X12 mr_X12 cr_X12 lr_X12 := ⟨tok_X12, dc_X12_truncateText⟩
  unfold f_X12_truncateText
  refine fs_r T 2 2 [some (.ref v0), some (.int v1)] [.int (0 : Int32), .ref v0] rfl ?_
  refine fs_pi T 5 12 7 v0 rfl rfl rfl rfl h0 ?_
  intro m1
  refine fs_r T 3 8 [some (.ref v0), some (.int v1)] [.ref v0, .int (0 : Int32), .int v1] rfl ?_
  refine fs_gi T 11 12 9 v0 rfl rfl rfl rfl h0 ?_
  refine fs_sI T 14 rfl rfl rfl rfl rfl rfl rfl (q_X12_isBetween (d := d) hE ) ?_
  intro x1 m2
  refine fs_if_ne T 23 17 rfl rfl rfl (fun _ => ?_) (fun _ => ?_)
  · refine fs_r T 2 19 [some (.ref v0), some (.int v1)] [.int (1 : Int32), .ref v0] rfl ?_
    refine fs_vI T 22 rfl rfl rfl rfl rfl rfl h0 (q_X12_fail (d := d) hE h0) ?_
    intro x2 m4
    exact fs_reti T rfl rfl rfl
  · refine fs_r T 2 25 [some (.ref v0), some (.int v1)] [.int v1, .ref v0] rfl ?_
    refine fs_pi T 28 12 9 v0 rfl rfl rfl rfl h0 ?_
    intro m3
    refine fs_r T 1 29 [some (.ref v0), some (.int v1)] [.ref v0] rfl ?_
    refine fs_gi T 32 12 9 v0 rfl rfl rfl rfl h0 ?_
    exact fs_reti T rfl rfl rfl)
def f_X12_byteAt (H : fm_H) (v0 : Nat) (v1 : Int32) (m : fm_M) : Option (Int32 × fm_M) :=
  if m.1 v0 9 ≤ v1 then
    some ((-1 : Int32), m)
  else
  if px_inb v1 (fm_sz H (H.2.1 v0 8)) = true then
    some (m.1 (H.2.1 v0 8) v1.toNatClampNeg, m)
  else none
set_option maxRecDepth 10000 in
theorem q_X12_byteAt {G : pm_G} {H : fm_H} {d : Nat} {z : Option Nat × Nat × Nat} {v0 : Nat} {v1 : Int32} {m : fm_M} (hE : fm_E G H) (h0 : fm_is H v0 12) : fm_cal G H (d + 1) yX12_byteAt [.ref v0, .int v1] z m fm_rI (f_X12_byteAt H v0 v1 m) := fm_mth (d := d + 0) mt_X12_byteAt rfl rfl rfl (fun K => by
  show fm_o fm_rI (f_X12_byteAt H v0 v1 m) K → fm_V G H (d + 0) RX12 cX12_byteAt (some (.int)) z K 0 [some (.ref v0), some (.int v1)] [] m
  have T : fm_T RX12 cX12_byteAt tc_X12_byteAt fr_X12 mr_X12 cr_X12 lr_X12 := ⟨tok_X12, dc_X12_byteAt⟩
  unfold f_X12_byteAt
  refine fs_r T 2 2 [some (.ref v0), some (.int v1)] [.ref v0, .int v1] rfl ?_
  refine fs_gi T 5 12 9 v0 rfl rfl rfl rfl h0 ?_
  refine fs_ic_ge T 17 8 rfl rfl rfl (fun _ => ?_) (fun _ => ?_)
  · refine fs_r T 1 18 [some (.ref v0), some (.int v1)] [.int (-1 : Int32)] rfl ?_
    exact fs_reti T rfl rfl rfl
  · refine fs_r T 1 9 [some (.ref v0), some (.int v1)] [.ref v0] rfl ?_
    refine fs_gs T 12 12 8 v0 rfl rfl rfl rfl h0 ?_
    refine fs_r T 1 13 [some (.ref v0), some (.int v1)] [.int v1, .ref (H.2.1 v0 8)] rfl ?_
    refine fs_ai T 14 (H.2.1 v0 8) rfl rfl (hE.1 _ 12 8 h0) ?_
    refine fs_r T 1 18 [some (.ref v0), some (.int v1)] [.int (m.1 (H.2.1 v0 8) v1.toNatClampNeg)] rfl ?_
    exact fs_reti T rfl rfl rfl)
def f_X12_isLetter (H : fm_H) (v0 : Int32) (m : fm_M) : Option (Int32 × fm_M) :=
  fm_bn (f_X12_isBetween H v0 (97 : Int32) (122 : Int32) m) fun x1 m1 =>
  if fm_b01 x1 = true then some (x1, m1) else none
set_option maxRecDepth 10000 in
theorem q_X12_isLetter {G : pm_G} {H : fm_H} {d : Nat} {z : Option Nat × Nat × Nat} {v0 : Int32} {m : fm_M} (hE : fm_E G H) : fm_cal G H (d + 2) yX12_isLetter [.int v0] z m fm_rI (f_X12_isLetter H v0 m) := fm_mth (d := d + 1) mt_X12_isLetter rfl rfl rfl (fun K => by
  show fm_o fm_rI (f_X12_isLetter H v0 m) K → fm_V G H (d + 1) RX12 cX12_isLetter (some (.boolean)) z K 0 [some (.int v0)] [] m
  have T : fm_T RX12 cX12_isLetter tc_X12_isLetter fr_X12 mr_X12 cr_X12 lr_X12 := ⟨tok_X12, dc_X12_isLetter⟩
  unfold f_X12_isLetter
  refine fs_r T 3 5 [some (.int v0)] [.int (122 : Int32), .int (97 : Int32), .int v0] rfl ?_
  refine fs_sI T 8 rfl rfl rfl rfl rfl rfl rfl (q_X12_isBetween (d := d) hE ) ?_
  intro x1 m1
  exact fs_retz T rfl rfl rfl)
def f_X12_isDigit (H : fm_H) (v0 : Int32) (m : fm_M) : Option (Int32 × fm_M) :=
  fm_bn (f_X12_isBetween H v0 (48 : Int32) (57 : Int32) m) fun x1 m1 =>
  if fm_b01 x1 = true then some (x1, m1) else none
set_option maxRecDepth 10000 in
theorem q_X12_isDigit {G : pm_G} {H : fm_H} {d : Nat} {z : Option Nat × Nat × Nat} {v0 : Int32} {m : fm_M} (hE : fm_E G H) : fm_cal G H (d + 2) yX12_isDigit [.int v0] z m fm_rI (f_X12_isDigit H v0 m) := fm_mth (d := d + 1) mt_X12_isDigit rfl rfl rfl (fun K => by
  show fm_o fm_rI (f_X12_isDigit H v0 m) K → fm_V G H (d + 1) RX12 cX12_isDigit (some (.boolean)) z K 0 [some (.int v0)] [] m
  have T : fm_T RX12 cX12_isDigit tc_X12_isDigit fr_X12 mr_X12 cr_X12 lr_X12 := ⟨tok_X12, dc_X12_isDigit⟩
  unfold f_X12_isDigit
  refine fs_r T 3 5 [some (.int v0)] [.int (57 : Int32), .int (48 : Int32), .int v0] rfl ?_
  refine fs_sI T 8 rfl rfl rfl rfl rfl rfl rfl (q_X12_isBetween (d := d) hE ) ?_
  intro x1 m1
  exact fs_retz T rfl rfl rfl)
def f_X12_nextToken_187 (H : fm_H) (v0 : Nat) : Nat → fm_M → Option (Unit × fm_M)
  | 0, _ => none
  | n + 1, m =>
    fm_bn (f_X12_byteAt H v0 (m.1 v0 10) m) fun x1 m1 =>
    fm_bn (f_X12_isDigit H x1 m1) fun x2 m2 =>
    if x2 = 0 then
      some ((), m2)
    else
    if m2.1 v0 14 ≤ (10000000 : Int32) then
      fm_bn (f_X12_byteAt H v0 (m2.1 v0 10) m2) fun x3 m3 =>
      fm_bd (fm_si m3 v0 14 ((((10 : Int32) * m2.1 v0 14) + x3) - (48 : Int32))) fun m4 =>
      fm_bd (fm_si m4 v0 10 (m4.1 v0 10 + (1 : Int32))) fun m5 =>
      f_X12_nextToken_187 H v0 n m5
    else
    fm_bd (fm_si m2 v0 14 (m2.1 v0 14)) fun m6 =>
    fm_bd (fm_si m6 v0 10 (m6.1 v0 10 + (1 : Int32))) fun m7 =>
    f_X12_nextToken_187 H v0 n m7
set_option maxRecDepth 10000 in
theorem w_X12_nextToken_187 {G : pm_G} {H : fm_H} {d : Nat} {z : Option Nat × Nat × Nat} {K : pm_R → fm_M → Prop} (hE : fm_E G H) {v0 : Nat} (h0 : fm_is H v0 12) : ∀ (n : Nat) (m : fm_M), fm_o fm_rV (f_X12_nextToken_187 H v0 n m) K → fm_V G H (d + 2) RX12 cX12_nextToken none z K 187 [some (.ref v0), none] [] m := by
  have T : fm_T RX12 cX12_nextToken tc_X12_nextToken fr_X12 mr_X12 cr_X12 lr_X12 := ⟨tok_X12, dc_X12_nextToken⟩
  intro n
  induction n with
  | zero =>
    intro  m 
    exact fs_none
  | succ n ih =>
    intro  m 
    unfold f_X12_nextToken_187
    refine fs_r T 2 189 [some (.ref v0), none] [.ref v0, .ref v0] rfl ?_
    refine fs_gi T 192 12 10 v0 rfl rfl rfl rfl h0 ?_
    refine fs_vI T 195 rfl rfl rfl rfl rfl rfl h0 (q_X12_byteAt (d := d + 1) hE h0) ?_
    intro x1 m1
    refine fs_sI T 198 rfl rfl rfl rfl rfl rfl rfl (q_X12_isDigit (d := d) hE ) ?_
    intro x2 m2
    refine fs_if_eq T 278 201 rfl rfl rfl (fun _ => ?_) (fun _ => ?_)
    · exact fs_retv T rfl rfl rfl
    · refine fs_r T 2 203 [some (.ref v0), none] [.ref v0, .ref v0] rfl ?_
      refine fs_gi T 206 12 14 v0 rfl rfl rfl rfl h0 ?_
      refine fs_ldc T 208 rfl rfl rfl ?_
      refine fs_ic_le T 218 211 rfl rfl rfl (fun _ => ?_) (fun _ => ?_)
      · refine fs_r T 2 221 [some (.ref v0), none] [.ref v0, .int (10 : Int32), .ref v0] rfl ?_
        refine fs_gi T 224 12 14 v0 rfl rfl rfl rfl h0 ?_
        refine fs_r T 3 227 [some (.ref v0), none] [.ref v0, .ref v0, .int ((10 : Int32) * m2.1 v0 14), .ref v0] rfl ?_
        refine fs_gi T 230 12 10 v0 rfl rfl rfl rfl h0 ?_
        refine fs_vI T 233 rfl rfl rfl rfl rfl rfl h0 (q_X12_byteAt (d := d + 1) hE h0) ?_
        intro x3 m3
        refine fs_r T 3 237 [some (.ref v0), none] [.int ((((10 : Int32) * m2.1 v0 14) + x3) - (48 : Int32)), .ref v0] rfl ?_
        refine fs_pi T 240 12 14 v0 rfl rfl rfl rfl h0 ?_
        intro m4
        refine fs_r T 2 242 [some (.ref v0), none] [.ref v0, .ref v0] rfl ?_
        refine fs_gi T 245 12 10 v0 rfl rfl rfl rfl h0 ?_
        refine fs_r T 2 247 [some (.ref v0), none] [.int (m4.1 v0 10 + (1 : Int32)), .ref v0] rfl ?_
        refine fs_pi T 250 12 10 v0 rfl rfl rfl rfl h0 ?_
        intro m5
        refine fs_r T 1 187 [some (.ref v0), none] [] rfl ?_
        exact ih _
      · refine fs_r T 1 212 [some (.ref v0), none] [.ref v0, .ref v0] rfl ?_
        refine fs_gi T 215 12 14 v0 rfl rfl rfl rfl h0 ?_
        refine fs_r T 1 237 [some (.ref v0), none] [.int (m2.1 v0 14), .ref v0] rfl ?_
        refine fs_pi T 240 12 14 v0 rfl rfl rfl rfl h0 ?_
        intro m6
        refine fs_r T 2 242 [some (.ref v0), none] [.ref v0, .ref v0] rfl ?_
        refine fs_gi T 245 12 10 v0 rfl rfl rfl rfl h0 ?_
        refine fs_r T 2 247 [some (.ref v0), none] [.int (m6.1 v0 10 + (1 : Int32)), .ref v0] rfl ?_
        refine fs_pi T 250 12 10 v0 rfl rfl rfl rfl h0 ?_
        intro m7
        refine fs_r T 1 187 [some (.ref v0), none] [] rfl ?_
        exact ih _
def f_X12_nextToken_149 (H : fm_H) (k96 : fm_M → Option (Unit × fm_M)) (v0 : Nat) (s0 : Int64) (s1 : Nat) (m : fm_M) : Option (Unit × fm_M) :=
  fm_bd (fm_sl m s1 17 s0) fun m1 =>
  fm_bd (fm_si m1 v0 13 (m1.1 v0 13 + (1 : Int32))) fun m2 =>
  fm_bd (fm_si m2 v0 10 (m2.1 v0 10 + (1 : Int32))) fun m3 =>
  k96 m3
set_option maxRecDepth 10000 in
theorem w_X12_nextToken_149 {G : pm_G} {H : fm_H} {d : Nat} {z : Option Nat × Nat × Nat} {K : pm_R → fm_M → Prop} (hE : fm_E G H) {k96 : fm_M → Option (Unit × fm_M)} {v0 : Nat} (Hk96 : ∀  (m : fm_M), fm_o fm_rV (k96 m) K → fm_V G H (d + 2) RX12 cX12_nextToken none z K 96 [some (.ref v0), none] [] m) (h0 : fm_is H v0 12) : ∀ (s0 : Int64) (s1 : Nat) (m : fm_M), fm_is H s1 12 → fm_o fm_rV (f_X12_nextToken_149 H k96 v0 s0 s1 m) K → fm_V G H (d + 2) RX12 cX12_nextToken none z K 149 [some (.ref v0), none] [.long s0, .ref s1] m := by
  have T : fm_T RX12 cX12_nextToken tc_X12_nextToken fr_X12 mr_X12 cr_X12 lr_X12 := ⟨tok_X12, dc_X12_nextToken⟩
  intro s0 s1 m hs1
  unfold f_X12_nextToken_149
  refine fs_pl T 152 12 17 s1 rfl rfl rfl rfl hs1 ?_
  intro m1
  refine fs_r T 2 154 [some (.ref v0), none] [.ref v0, .ref v0] rfl ?_
  refine fs_gi T 157 12 13 v0 rfl rfl rfl rfl h0 ?_
  refine fs_r T 2 159 [some (.ref v0), none] [.int (m1.1 v0 13 + (1 : Int32)), .ref v0] rfl ?_
  refine fs_pi T 162 12 13 v0 rfl rfl rfl rfl h0 ?_
  intro m2
  refine fs_r T 2 164 [some (.ref v0), none] [.ref v0, .ref v0] rfl ?_
  refine fs_gi T 167 12 10 v0 rfl rfl rfl rfl h0 ?_
  refine fs_r T 2 169 [some (.ref v0), none] [.int (m2.1 v0 10 + (1 : Int32)), .ref v0] rfl ?_
  refine fs_pi T 172 12 10 v0 rfl rfl rfl rfl h0 ?_
  intro m3
  refine fs_r T 1 96 [some (.ref v0), none] [] rfl ?_
  exact Hk96 _
def f_X12_nextToken_96 (H : fm_H) (v0 : Nat) : Nat → fm_M → Option (Unit × fm_M)
  | 0, _ => none
  | n + 1, m =>
    fm_bn (f_X12_byteAt H v0 (m.1 v0 10) m) fun x1 m1 =>
    fm_bn (f_X12_isLetter H x1 m1) fun x2 m2 =>
    if x2 = 0 then
      some ((), m2)
    else
    if (11 : Int32) ≤ m2.1 v0 13 then
      f_X12_nextToken_149 H (f_X12_nextToken_96 H v0 n) v0 (m2.2.2 v0 17) v0 m2
    else
    fm_bn (f_X12_byteAt H v0 (m2.1 v0 10) m2) fun x3 m3 =>
    f_X12_nextToken_149 H (f_X12_nextToken_96 H v0 n) v0 ((((27 : Int64) * m2.2.2 v0 17) + x3.toInt64) - (96 : Int64)) v0 m3
set_option maxRecDepth 10000 in
theorem w_X12_nextToken_96 {G : pm_G} {H : fm_H} {d : Nat} {z : Option Nat × Nat × Nat} {K : pm_R → fm_M → Prop} (hE : fm_E G H) {v0 : Nat} (h0 : fm_is H v0 12) : ∀ (n : Nat) (m : fm_M), fm_o fm_rV (f_X12_nextToken_96 H v0 n m) K → fm_V G H (d + 2) RX12 cX12_nextToken none z K 96 [some (.ref v0), none] [] m := by
  have T : fm_T RX12 cX12_nextToken tc_X12_nextToken fr_X12 mr_X12 cr_X12 lr_X12 := ⟨tok_X12, dc_X12_nextToken⟩
  intro n
  induction n with
  | zero =>
    intro  m 
    exact fs_none
  | succ n ih =>
    intro  m 
    unfold f_X12_nextToken_96
    refine fs_r T 2 98 [some (.ref v0), none] [.ref v0, .ref v0] rfl ?_
    refine fs_gi T 101 12 10 v0 rfl rfl rfl rfl h0 ?_
    refine fs_vI T 104 rfl rfl rfl rfl rfl rfl h0 (q_X12_byteAt (d := d + 1) hE h0) ?_
    intro x1 m1
    refine fs_sI T 107 rfl rfl rfl rfl rfl rfl rfl (q_X12_isLetter (d := d) hE ) ?_
    intro x2 m2
    refine fs_if_eq T 278 110 rfl rfl rfl (fun _ => ?_) (fun _ => ?_)
    · exact fs_retv T rfl rfl rfl
    · refine fs_r T 2 112 [some (.ref v0), none] [.ref v0, .ref v0] rfl ?_
      refine fs_gi T 115 12 13 v0 rfl rfl rfl rfl h0 ?_
      refine fs_r T 1 117 [some (.ref v0), none] [.int (11 : Int32), .int (m2.1 v0 13), .ref v0] rfl ?_
      refine fs_ic_ge T 145 120 rfl rfl rfl (fun _ => ?_) (fun _ => ?_)
      · refine fs_r T 1 146 [some (.ref v0), none] [.ref v0, .ref v0] rfl ?_
        refine fs_gl T 149 12 17 v0 rfl rfl rfl rfl h0 ?_
        exact w_X12_nextToken_149 hE ih h0 _ _ _ h0
      · refine fs_ldcL T 123 rfl rfl rfl ?_
        refine fs_r T 1 124 [some (.ref v0), none] [.ref v0, .long (27 : Int64), .ref v0] rfl ?_
        refine fs_gl T 127 12 17 v0 rfl rfl rfl rfl h0 ?_
        refine fs_r T 3 130 [some (.ref v0), none] [.ref v0, .ref v0, .long ((27 : Int64) * m2.2.2 v0 17), .ref v0] rfl ?_
        refine fs_gi T 133 12 10 v0 rfl rfl rfl rfl h0 ?_
        refine fs_vI T 136 rfl rfl rfl rfl rfl rfl h0 (q_X12_byteAt (d := d + 1) hE h0) ?_
        intro x3 m3
        refine fs_r T 2 138 [some (.ref v0), none] [.long (((27 : Int64) * m2.2.2 v0 17) + x3.toInt64), .ref v0] rfl ?_
        refine fs_ldcL T 141 rfl rfl rfl ?_
        refine fs_r T 2 149 [some (.ref v0), none] [.long ((((27 : Int64) * m2.2.2 v0 17) + x3.toInt64) - (96 : Int64)), .ref v0] rfl ?_
        exact w_X12_nextToken_149 hE ih h0 _ _ _ h0
def f_X12_nextToken_0 (H : fm_H) (v0 : Nat) : Nat → fm_M → Option (Unit × fm_M)
  | 0, _ => none
  | n + 1, m =>
    fm_bn (f_X12_byteAt H v0 (m.1 v0 10) m) fun x1 m1 =>
    if x1 = (32 : Int32) then
      fm_bd (fm_si m1 v0 10 (m1.1 v0 10 + (1 : Int32))) fun m2 =>
      f_X12_nextToken_0 H v0 n m2
    else
    fm_bn (f_X12_byteAt H v0 (m1.1 v0 10) m1) fun x2 m3 =>
    if x2 = (10 : Int32) then
      fm_bd (fm_si m3 v0 10 (m3.1 v0 10 + (1 : Int32))) fun m18 =>
      f_X12_nextToken_0 H v0 n m18
    else
    fm_bd (fm_si m3 v0 11 (m3.1 v0 10)) fun m4 =>
    fm_bd (fm_si m4 v0 13 (0 : Int32)) fun m5 =>
    fm_bd (fm_sl m5 v0 17 (0 : Int64)) fun m6 =>
    fm_bd (fm_si m6 v0 14 (0 : Int32)) fun m7 =>
    fm_bn (f_X12_byteAt H v0 (m7.1 v0 10) m7) fun x3 m8 =>
    if x3 = (-1 : Int32) then
      fm_bd (fm_si m8 v0 12 (0 : Int32)) fun m17 =>
      some ((), m17)
    else
    fm_bn (f_X12_isLetter H x3 m8) fun x4 m9 =>
    if x4 = 0 then
      fm_bn (f_X12_isDigit H x3 m9) fun x5 m10 =>
      if x5 = 0 then
        if x3 = (59 : Int32) then
          fm_bd (fm_si m10 v0 12 (4 : Int32)) fun m13 =>
          fm_bd (fm_si m13 v0 10 (m13.1 v0 10 + (1 : Int32))) fun m14 =>
          some ((), m14)
        else
        fm_bd (fm_si m10 v0 12 (1 : Int32)) fun m11 =>
        fm_bd (fm_si m11 v0 10 (m11.1 v0 10 + (1 : Int32))) fun m12 =>
        some ((), m12)
      else
      fm_bd (fm_si m10 v0 12 (3 : Int32)) fun m15 =>
      f_X12_nextToken_187 H v0 fm_N m15
    else
    fm_bd (fm_si m9 v0 12 (2 : Int32)) fun m16 =>
    f_X12_nextToken_96 H v0 fm_N m16
set_option maxRecDepth 10000 in
theorem w_X12_nextToken_0 {G : pm_G} {H : fm_H} {d : Nat} {z : Option Nat × Nat × Nat} {K : pm_R → fm_M → Prop} (hE : fm_E G H) {v0 : Nat} (h0 : fm_is H v0 12) : ∀ (n : Nat) (m : fm_M), fm_o fm_rV (f_X12_nextToken_0 H v0 n m) K → fm_V G H (d + 2) RX12 cX12_nextToken none z K 0 [some (.ref v0), none] [] m := by
  have T : fm_T RX12 cX12_nextToken tc_X12_nextToken fr_X12 mr_X12 cr_X12 lr_X12 := ⟨tok_X12, dc_X12_nextToken⟩
  intro n
  induction n with
  | zero =>
    intro  m 
    exact fs_none
  | succ n ih =>
    intro  m 
    unfold f_X12_nextToken_0
    refine fs_r T 2 2 [some (.ref v0), none] [.ref v0, .ref v0] rfl ?_
    refine fs_gi T 5 12 10 v0 rfl rfl rfl rfl h0 ?_
    refine fs_vI T 8 rfl rfl rfl rfl rfl rfl h0 (q_X12_byteAt (d := d + 1) hE h0) ?_
    intro x1 m1
    refine fs_r T 1 10 [some (.ref v0), none] [.int (32 : Int32), .int x1] rfl ?_
    refine fs_ic_eq T 26 13 rfl rfl rfl (fun _ => ?_) (fun _ => ?_)
    · refine fs_r T 2 28 [some (.ref v0), none] [.ref v0, .ref v0] rfl ?_
      refine fs_gi T 31 12 10 v0 rfl rfl rfl rfl h0 ?_
      refine fs_r T 2 33 [some (.ref v0), none] [.int (m1.1 v0 10 + (1 : Int32)), .ref v0] rfl ?_
      refine fs_pi T 36 12 10 v0 rfl rfl rfl rfl h0 ?_
      intro m2
      refine fs_r T 1 0 [some (.ref v0), none] [] rfl ?_
      exact ih _
    · refine fs_r T 2 15 [some (.ref v0), none] [.ref v0, .ref v0] rfl ?_
      refine fs_gi T 18 12 10 v0 rfl rfl rfl rfl h0 ?_
      refine fs_vI T 21 rfl rfl rfl rfl rfl rfl h0 (q_X12_byteAt (d := d + 1) hE h0) ?_
      intro x2 m3
      refine fs_r T 1 23 [some (.ref v0), none] [.int (10 : Int32), .int x2] rfl ?_
      refine fs_ic_ne T 39 26 rfl rfl rfl (fun _ => ?_) (fun _ => ?_)
      · refine fs_r T 2 28 [some (.ref v0), none] [.ref v0, .ref v0] rfl ?_
        refine fs_gi T 31 12 10 v0 rfl rfl rfl rfl h0 ?_
        refine fs_r T 2 33 [some (.ref v0), none] [.int (m3.1 v0 10 + (1 : Int32)), .ref v0] rfl ?_
        refine fs_pi T 36 12 10 v0 rfl rfl rfl rfl h0 ?_
        intro m18
        refine fs_r T 1 0 [some (.ref v0), none] [] rfl ?_
        exact ih _
      · refine fs_r T 2 41 [some (.ref v0), none] [.ref v0, .ref v0] rfl ?_
        refine fs_gi T 44 12 10 v0 rfl rfl rfl rfl h0 ?_
        refine fs_pi T 47 12 11 v0 rfl rfl rfl rfl h0 ?_
        intro m4
        refine fs_r T 2 49 [some (.ref v0), none] [.int (0 : Int32), .ref v0] rfl ?_
        refine fs_pi T 52 12 13 v0 rfl rfl rfl rfl h0 ?_
        intro m5
        refine fs_r T 2 54 [some (.ref v0), none] [.long (0 : Int64), .ref v0] rfl ?_
        refine fs_pl T 57 12 17 v0 rfl rfl rfl rfl h0 ?_
        intro m6
        refine fs_r T 2 59 [some (.ref v0), none] [.int (0 : Int32), .ref v0] rfl ?_
        refine fs_pi T 62 12 14 v0 rfl rfl rfl rfl h0 ?_
        intro m7
        refine fs_r T 2 64 [some (.ref v0), none] [.ref v0, .ref v0] rfl ?_
        refine fs_gi T 67 12 10 v0 rfl rfl rfl rfl h0 ?_
        refine fs_vI T 70 rfl rfl rfl rfl rfl rfl h0 (q_X12_byteAt (d := d + 1) hE h0) ?_
        intro x3 m8
        refine fs_r T 3 73 [some (.ref v0), some (.int x3)] [.int (-1 : Int32), .int x3] rfl ?_
        refine fs_ic_ne T 84 76 rfl rfl rfl (fun _ => ?_) (fun _ => ?_)
        · refine fs_r T 2 78 [some (.ref v0), some (.int x3)] [.int (0 : Int32), .ref v0] rfl ?_
          refine fs_pi T 81 12 12 v0 rfl rfl rfl rfl h0 ?_
          intro m17
          refine fs_r T 1 278 [some (.ref v0), some (.int x3)] [] rfl ?_
          exact fs_retv T rfl rfl rfl
        · refine fs_r T 1 85 [some (.ref v0), some (.int x3)] [.int x3] rfl ?_
          refine fs_sI T 88 rfl rfl rfl rfl rfl rfl rfl (q_X12_isLetter (d := d) hE ) ?_
          intro x4 m9
          refine fs_if_eq T 175 91 rfl rfl rfl (fun _ => ?_) (fun _ => ?_)
          · refine fs_r T 1 176 [some (.ref v0), some (.int x3)] [.int x3] rfl ?_
            refine fs_sI T 179 rfl rfl rfl rfl rfl rfl rfl (q_X12_isDigit (d := d) hE ) ?_
            intro x5 m10
            refine fs_if_eq T 253 182 rfl rfl rfl (fun _ => ?_) (fun _ => ?_)
            · refine fs_r T 3 257 [some (.ref v0), some (.int x3)] [.int (59 : Int32), .int x3, .ref v0] rfl ?_
              refine fs_ic_ne T 264 260 rfl rfl rfl (fun _ => ?_) (fun _ => ?_)
              · refine fs_r T 2 265 [some (.ref v0), some (.int x3)] [.int (4 : Int32), .ref v0] rfl ?_
                refine fs_pi T 268 12 12 v0 rfl rfl rfl rfl h0 ?_
                intro m13
                refine fs_r T 2 270 [some (.ref v0), some (.int x3)] [.ref v0, .ref v0] rfl ?_
                refine fs_gi T 273 12 10 v0 rfl rfl rfl rfl h0 ?_
                refine fs_r T 2 275 [some (.ref v0), some (.int x3)] [.int (m13.1 v0 10 + (1 : Int32)), .ref v0] rfl ?_
                refine fs_pi T 278 12 10 v0 rfl rfl rfl rfl h0 ?_
                intro m14
                exact fs_retv T rfl rfl rfl
              · refine fs_r T 1 265 [some (.ref v0), some (.int x3)] [.int (1 : Int32), .ref v0] rfl ?_
                refine fs_pi T 268 12 12 v0 rfl rfl rfl rfl h0 ?_
                intro m11
                refine fs_r T 2 270 [some (.ref v0), some (.int x3)] [.ref v0, .ref v0] rfl ?_
                refine fs_gi T 273 12 10 v0 rfl rfl rfl rfl h0 ?_
                refine fs_r T 2 275 [some (.ref v0), some (.int x3)] [.int (m11.1 v0 10 + (1 : Int32)), .ref v0] rfl ?_
                refine fs_pi T 278 12 10 v0 rfl rfl rfl rfl h0 ?_
                intro m12
                exact fs_retv T rfl rfl rfl
            · refine fs_r T 2 184 [some (.ref v0), some (.int x3)] [.int (3 : Int32), .ref v0] rfl ?_
              refine fs_pi T 187 12 12 v0 rfl rfl rfl rfl h0 ?_
              intro m15
              refine fs_wk (ls' := [some (.ref v0), none]) ⟨rfl, trivial⟩ ?_
              exact w_X12_nextToken_187 hE h0 _ _
          · refine fs_r T 2 93 [some (.ref v0), some (.int x3)] [.int (2 : Int32), .ref v0] rfl ?_
            refine fs_pi T 96 12 12 v0 rfl rfl rfl rfl h0 ?_
            intro m16
            refine fs_wk (ls' := [some (.ref v0), none]) ⟨rfl, trivial⟩ ?_
            exact w_X12_nextToken_96 hE h0 _ _
def f_X12_nextToken (H : fm_H) (v0 : Nat) (m : fm_M) : Option (Unit × fm_M) :=
  f_X12_nextToken_0 H v0 fm_N m
set_option maxRecDepth 10000 in
theorem q_X12_nextToken {G : pm_G} {H : fm_H} {d : Nat} {z : Option Nat × Nat × Nat} {v0 : Nat} {m : fm_M} (hE : fm_E G H) (h0 : fm_is H v0 12) : fm_cal G H (d + 3) yX12_nextToken [.ref v0] z m fm_rV (f_X12_nextToken H v0 m) := fm_mth (d := d + 2) mt_X12_nextToken rfl rfl rfl (fun K => by
  show fm_o fm_rV (f_X12_nextToken H v0 m) K → fm_V G H (d + 2) RX12 cX12_nextToken none z K 0 [some (.ref v0), none] [] m
  have T : fm_T RX12 cX12_nextToken tc_X12_nextToken fr_X12 mr_X12 cr_X12 lr_X12 := ⟨tok_X12, dc_X12_nextToken⟩
  unfold f_X12_nextToken
  exact w_X12_nextToken_0 hE h0 _ _)
def f_X12_isWord_26 (H : fm_H) (v0 : Nat) (v1 : Nat) : Nat → Int64 → Int32 → fm_M → Option (Int32 × fm_M)
  | 0, _, _, _ => none
  | n + 1, v2, v4, m =>
    fm_bn (f_J0_length_8abf5 H v1 m) fun x1 m1 =>
    if x1 ≤ v4 then
      if lg_cmp (m1.2.2 v0 17) v2 = 0 then
        some ((1 : Int32), m1)
      else
      some ((0 : Int32), m1)
    else
    fm_bn (f_J0_charAt_5068e H v1 v4 m1) fun x2 m2 =>
    f_X12_isWord_26 H v0 v1 n ((((27 : Int64) * v2) + x2.toInt64) - (96 : Int64)) (v4 + 1) m2
set_option maxRecDepth 10000 in
theorem w_X12_isWord_26 {G : pm_G} {H : fm_H} {d : Nat} {z : Option Nat × Nat × Nat} {K : pm_R → fm_M → Prop} (hE : fm_E G H) {v0 : Nat} {v1 : Nat} (h0 : fm_is H v0 12) (h1 : fm_is H v1 13) : ∀ (n : Nat) (v2 : Int64) (v4 : Int32) (m : fm_M), fm_o fm_rI (f_X12_isWord_26 H v0 v1 n v2 v4 m) K → fm_V G H (d + 4) RX12 cX12_isWord (some (.boolean)) z K 26 [some (.ref v0), some (.ref v1), some (.long v2), none, some (.int v4)] [] m := by
  have T : fm_T RX12 cX12_isWord tc_X12_isWord fr_X12 mr_X12 cr_X12 lr_X12 := ⟨tok_X12, dc_X12_isWord⟩
  intro n
  induction n with
  | zero =>
    intro v2 v4 m 
    exact fs_none
  | succ n ih =>
    intro v2 v4 m 
    unfold f_X12_isWord_26
    refine fs_r T 2 29 [some (.ref v0), some (.ref v1), some (.long v2), none, some (.int v4)] [.ref v1, .int v4] rfl ?_
    refine fs_vI T 32 rfl rfl rfl rfl rfl rfl h1 (q_J0_length_8abf5 (d := d + 2) hE h1) ?_
    intro x1 m1
    refine fs_ic_ge T 59 35 rfl rfl rfl (fun _ => ?_) (fun _ => ?_)
    · refine fs_r T 1 60 [some (.ref v0), some (.ref v1), some (.long v2), none, some (.int v4)] [.ref v0] rfl ?_
      refine fs_gl T 63 12 17 v0 rfl rfl rfl rfl h0 ?_
      refine fs_r T 2 65 [some (.ref v0), some (.ref v1), some (.long v2), none, some (.int v4)] [.int (lg_cmp (m1.2.2 v0 17) v2)] rfl ?_
      refine fs_if_ne T 72 68 rfl rfl rfl (fun _ => ?_) (fun _ => ?_)
      · refine fs_r T 2 73 [some (.ref v0), some (.ref v1), some (.long v2), none, some (.int v4)] [.int (1 : Int32)] rfl ?_
        exact fs_retc T rfl rfl rfl rfl
      · refine fs_r T 1 73 [some (.ref v0), some (.ref v1), some (.long v2), none, some (.int v4)] [.int (0 : Int32)] rfl ?_
        exact fs_retc T rfl rfl rfl rfl
    · refine fs_ldcL T 38 rfl rfl rfl ?_
      refine fs_r T 4 43 [some (.ref v0), some (.ref v1), some (.long v2), none, some (.int v4)] [.int v4, .ref v1, .long ((27 : Int64) * v2)] rfl ?_
      refine fs_vI T 46 rfl rfl rfl rfl rfl rfl h1 (q_J0_charAt_5068e (d := d) hE h1) ?_
      intro x2 m2
      refine fs_r T 2 48 [some (.ref v0), some (.ref v1), some (.long v2), none, some (.int v4)] [.long (((27 : Int64) * v2) + x2.toInt64)] rfl ?_
      refine fs_ldcL T 51 rfl rfl rfl ?_
      refine fs_r T 4 26 [some (.ref v0), some (.ref v1), some (.long ((((27 : Int64) * v2) + x2.toInt64) - (96 : Int64))), none, some (.int (v4 + 1))] [] rfl ?_
      exact ih _ _ _
def f_X12_isWord (H : fm_H) (v0 : Nat) (v1 : Nat) (m : fm_M) : Option (Int32 × fm_M) :=
  if m.1 v0 12 = (2 : Int32) then
    fm_bn (f_J0_length_8abf5 H v1 m) fun x1 m1 =>
    if m.1 v0 13 = x1 then
      f_X12_isWord_26 H v0 v1 fm_N (0 : Int64) (0 : Int32) m1
    else
    some ((0 : Int32), m1)
  else
  some ((0 : Int32), m)
set_option maxRecDepth 10000 in
theorem q_X12_isWord {G : pm_G} {H : fm_H} {d : Nat} {z : Option Nat × Nat × Nat} {v0 : Nat} {v1 : Nat} {m : fm_M} (hE : fm_E G H) (h0 : fm_is H v0 12) (h1 : fm_is H v1 13) : fm_cal G H (d + 5) yX12_isWord [.ref v0, .ref v1] z m fm_rI (f_X12_isWord H v0 v1 m) := fm_mth (d := d + 4) mt_X12_isWord rfl rfl rfl (fun K => by
  show fm_o fm_rI (f_X12_isWord H v0 v1 m) K → fm_V G H (d + 4) RX12 cX12_isWord (some (.boolean)) z K 0 [some (.ref v0), some (.ref v1), none, none, none] [] m
  have T : fm_T RX12 cX12_isWord tc_X12_isWord fr_X12 mr_X12 cr_X12 lr_X12 := ⟨tok_X12, dc_X12_isWord⟩
  unfold f_X12_isWord
  refine fs_r T 1 1 [some (.ref v0), some (.ref v1), none, none, none] [.ref v0] rfl ?_
  refine fs_gi T 4 12 12 v0 rfl rfl rfl rfl h0 ?_
  refine fs_r T 1 5 [some (.ref v0), some (.ref v1), none, none, none] [.int (2 : Int32), .int (m.1 v0 12)] rfl ?_
  refine fs_ic_ne T 19 8 rfl rfl rfl (fun _ => ?_) (fun _ => ?_)
  · refine fs_r T 1 9 [some (.ref v0), some (.ref v1), none, none, none] [.ref v0] rfl ?_
    refine fs_gi T 12 12 13 v0 rfl rfl rfl rfl h0 ?_
    refine fs_r T 1 13 [some (.ref v0), some (.ref v1), none, none, none] [.ref v1, .int (m.1 v0 13)] rfl ?_
    refine fs_vI T 16 rfl rfl rfl rfl rfl rfl h1 (q_J0_length_8abf5 (d := d + 2) hE h1) ?_
    intro x1 m1
    refine fs_ic_eq T 21 19 rfl rfl rfl (fun _ => ?_) (fun _ => ?_)
    · refine fs_r T 4 26 [some (.ref v0), some (.ref v1), some (.long (0 : Int64)), none, some (.int (0 : Int32))] [] rfl ?_
      exact w_X12_isWord_26 hE h0 h1 _ _ _ _
    · refine fs_r T 1 20 [some (.ref v0), some (.ref v1), none, none, none] [.int (0 : Int32)] rfl ?_
      exact fs_retc T rfl rfl rfl rfl
  · refine fs_r T 1 20 [some (.ref v0), some (.ref v1), none, none, none] [.int (0 : Int32)] rfl ?_
    exact fs_retc T rfl rfl rfl rfl)
def f_X12_require (H : fm_H) (v0 : Nat) (v1 : Int32) (v2 : Int32) (m : fm_M) : Option (Unit × fm_M) :=
  if v1 = 0 then
    if m.1 v0 15 = 0 then
      fm_bd (fm_si m v0 15 v2) fun m1 =>
      fm_bd (fm_si m1 v0 16 (m1.1 v0 11)) fun m2 =>
      some ((), m2)
    else
    some ((), m)
  else
  some ((), m)
set_option maxRecDepth 10000 in
theorem q_X12_require {G : pm_G} {H : fm_H} {d : Nat} {z : Option Nat × Nat × Nat} {v0 : Nat} {v1 : Int32} {v2 : Int32} {m : fm_M} (hE : fm_E G H) (h0 : fm_is H v0 12) : fm_cal G H (d + 1) yX12_require [.ref v0, .int v1, .int v2] z m fm_rV (f_X12_require H v0 v1 v2 m) := fm_mth (d := d + 0) mt_X12_require rfl rfl rfl (fun K => by
  show fm_o fm_rV (f_X12_require H v0 v1 v2 m) K → fm_V G H (d + 0) RX12 cX12_require none z K 0 [some (.ref v0), some (.int v1), some (.int v2)] [] m
  have T : fm_T RX12 cX12_require tc_X12_require fr_X12 mr_X12 cr_X12 lr_X12 := ⟨tok_X12, dc_X12_require⟩
  unfold f_X12_require
  refine fs_r T 1 1 [some (.ref v0), some (.int v1), some (.int v2)] [.int v1] rfl ?_
  refine fs_if_ne T 24 4 rfl rfl rfl (fun _ => ?_) (fun _ => ?_)
  · refine fs_r T 1 5 [some (.ref v0), some (.int v1), some (.int v2)] [.ref v0] rfl ?_
    refine fs_gi T 8 12 15 v0 rfl rfl rfl rfl h0 ?_
    refine fs_if_ne T 24 11 rfl rfl rfl (fun _ => ?_) (fun _ => ?_)
    · refine fs_r T 2 13 [some (.ref v0), some (.int v1), some (.int v2)] [.int v2, .ref v0] rfl ?_
      refine fs_pi T 16 12 15 v0 rfl rfl rfl rfl h0 ?_
      intro m1
      refine fs_r T 2 18 [some (.ref v0), some (.int v1), some (.int v2)] [.ref v0, .ref v0] rfl ?_
      refine fs_gi T 21 12 11 v0 rfl rfl rfl rfl h0 ?_
      refine fs_pi T 24 12 16 v0 rfl rfl rfl rfl h0 ?_
      intro m2
      exact fs_retv T rfl rfl rfl
    · exact fs_retv T rfl rfl rfl
  · exact fs_retv T rfl rfl rfl)
def f_X12_isFine (H : fm_H) (v0 : Nat) (m : fm_M) : Option (Int32 × fm_M) :=
  if m.1 v0 15 = 0 then
    some ((1 : Int32), m)
  else
  some ((0 : Int32), m)
set_option maxRecDepth 10000 in
theorem q_X12_isFine {G : pm_G} {H : fm_H} {d : Nat} {z : Option Nat × Nat × Nat} {v0 : Nat} {m : fm_M} (hE : fm_E G H) (h0 : fm_is H v0 12) : fm_cal G H (d + 1) yX12_isFine [.ref v0] z m fm_rI (f_X12_isFine H v0 m) := fm_mth (d := d + 0) mt_X12_isFine rfl rfl rfl (fun K => by
  show fm_o fm_rI (f_X12_isFine H v0 m) K → fm_V G H (d + 0) RX12 cX12_isFine (some (.boolean)) z K 0 [some (.ref v0)] [] m
  have T : fm_T RX12 cX12_isFine tc_X12_isFine fr_X12 mr_X12 cr_X12 lr_X12 := ⟨tok_X12, dc_X12_isFine⟩
  unfold f_X12_isFine
  refine fs_r T 1 1 [some (.ref v0)] [.ref v0] rfl ?_
  refine fs_gi T 4 12 15 v0 rfl rfl rfl rfl h0 ?_
  refine fs_if_ne T 11 7 rfl rfl rfl (fun _ => ?_) (fun _ => ?_)
  · refine fs_r T 2 12 [some (.ref v0)] [.int (1 : Int32)] rfl ?_
    exact fs_retc T rfl rfl rfl rfl
  · refine fs_r T 1 12 [some (.ref v0)] [.int (0 : Int32)] rfl ?_
    exact fs_retc T rfl rfl rfl rfl)
def f_X12_advance (H : fm_H) (v0 : Nat) (m : fm_M) : Option (Unit × fm_M) :=
  fm_bn (f_X12_isFine H v0 m) fun x1 m1 =>
  if x1 = 0 then
    some ((), m1)
  else
  fm_bn (f_X12_nextToken H v0 m1) fun _ m2 =>
  some ((), m2)
set_option maxRecDepth 10000 in
theorem q_X12_advance {G : pm_G} {H : fm_H} {d : Nat} {z : Option Nat × Nat × Nat} {v0 : Nat} {m : fm_M} (hE : fm_E G H) (h0 : fm_is H v0 12) : fm_cal G H (d + 4) yX12_advance [.ref v0] z m fm_rV (f_X12_advance H v0 m) := fm_mth (d := d + 3) mt_X12_advance rfl rfl rfl (fun K => by
  show fm_o fm_rV (f_X12_advance H v0 m) K → fm_V G H (d + 3) RX12 cX12_advance none z K 0 [some (.ref v0)] [] m
  have T : fm_T RX12 cX12_advance tc_X12_advance fr_X12 mr_X12 cr_X12 lr_X12 := ⟨tok_X12, dc_X12_advance⟩
  unfold f_X12_advance
  refine fs_r T 1 1 [some (.ref v0)] [.ref v0] rfl ?_
  refine fs_vI T 4 rfl rfl rfl rfl rfl rfl h0 (q_X12_isFine (d := d + 2) hE h0) ?_
  intro x1 m1
  refine fs_if_eq T 11 7 rfl rfl rfl (fun _ => ?_) (fun _ => ?_)
  · exact fs_retv T rfl rfl rfl
  · refine fs_r T 1 8 [some (.ref v0)] [.ref v0] rfl ?_
    refine fs_vV T 11 rfl rfl rfl rfl rfl rfl h0 (q_X12_nextToken (d := d) hE h0) ?_
    intro x2 m2
    exact fs_retv T rfl rfl rfl)
def f_X12_look (H : fm_H) (v0 : Nat) (v1 : Int32) (v2 : Int32) (m : fm_M) : Option (Unit × fm_M) :=
  if m.1 v0 12 = (3 : Int32) then
    fm_bn (f_X12_require H v0 (1 : Int32) (1 : Int32) m) fun _ m4 =>
    fm_bn (f_X12_isBetween H (m4.1 v0 14) v1 v2 m4) fun x5 m5 =>
    fm_bn (f_X12_require H v0 x5 (2 : Int32) m5) fun _ m6 =>
    some ((), m6)
  else
  fm_bn (f_X12_require H v0 (0 : Int32) (1 : Int32) m) fun _ m1 =>
  fm_bn (f_X12_isBetween H (m1.1 v0 14) v1 v2 m1) fun x2 m2 =>
  fm_bn (f_X12_require H v0 x2 (2 : Int32) m2) fun _ m3 =>
  some ((), m3)
set_option maxRecDepth 10000 in
theorem q_X12_look {G : pm_G} {H : fm_H} {d : Nat} {z : Option Nat × Nat × Nat} {v0 : Nat} {v1 : Int32} {v2 : Int32} {m : fm_M} (hE : fm_E G H) (h0 : fm_is H v0 12) : fm_cal G H (d + 2) yX12_look [.ref v0, .int v1, .int v2] z m fm_rV (f_X12_look H v0 v1 v2 m) := fm_mth (d := d + 1) mt_X12_look rfl rfl rfl (fun K => by
  show fm_o fm_rV (f_X12_look H v0 v1 v2 m) K → fm_V G H (d + 1) RX12 cX12_look none z K 0 [some (.ref v0), some (.int v1), some (.int v2)] [] m
  have T : fm_T RX12 cX12_look tc_X12_look fr_X12 mr_X12 cr_X12 lr_X12 := ⟨tok_X12, dc_X12_look⟩
  unfold f_X12_look
  refine fs_r T 2 2 [some (.ref v0), some (.int v1), some (.int v2)] [.ref v0, .ref v0] rfl ?_
  refine fs_gi T 5 12 12 v0 rfl rfl rfl rfl h0 ?_
  refine fs_r T 1 6 [some (.ref v0), some (.int v1), some (.int v2)] [.int (3 : Int32), .int (m.1 v0 12), .ref v0] rfl ?_
  refine fs_ic_ne T 13 9 rfl rfl rfl (fun _ => ?_) (fun _ => ?_)
  · refine fs_r T 3 15 [some (.ref v0), some (.int v1), some (.int v2)] [.int (1 : Int32), .int (1 : Int32), .ref v0] rfl ?_
    refine fs_vV T 18 rfl rfl rfl rfl rfl rfl h0 (q_X12_require (d := d) hE h0) ?_
    intro x4 m4
    refine fs_r T 2 20 [some (.ref v0), some (.int v1), some (.int v2)] [.ref v0, .ref v0] rfl ?_
    refine fs_gi T 23 12 14 v0 rfl rfl rfl rfl h0 ?_
    refine fs_r T 2 25 [some (.ref v0), some (.int v1), some (.int v2)] [.int v2, .int v1, .int (m4.1 v0 14), .ref v0] rfl ?_
    refine fs_sI T 28 rfl rfl rfl rfl rfl rfl rfl (q_X12_isBetween (d := d) hE ) ?_
    intro x5 m5
    refine fs_r T 1 29 [some (.ref v0), some (.int v1), some (.int v2)] [.int (2 : Int32), .int x5, .ref v0] rfl ?_
    refine fs_vV T 32 rfl rfl rfl rfl rfl rfl h0 (q_X12_require (d := d) hE h0) ?_
    intro x6 m6
    exact fs_retv T rfl rfl rfl
  · refine fs_r T 2 15 [some (.ref v0), some (.int v1), some (.int v2)] [.int (1 : Int32), .int (0 : Int32), .ref v0] rfl ?_
    refine fs_vV T 18 rfl rfl rfl rfl rfl rfl h0 (q_X12_require (d := d) hE h0) ?_
    intro x1 m1
    refine fs_r T 2 20 [some (.ref v0), some (.int v1), some (.int v2)] [.ref v0, .ref v0] rfl ?_
    refine fs_gi T 23 12 14 v0 rfl rfl rfl rfl h0 ?_
    refine fs_r T 2 25 [some (.ref v0), some (.int v1), some (.int v2)] [.int v2, .int v1, .int (m1.1 v0 14), .ref v0] rfl ?_
    refine fs_sI T 28 rfl rfl rfl rfl rfl rfl rfl (q_X12_isBetween (d := d) hE ) ?_
    intro x2 m2
    refine fs_r T 1 29 [some (.ref v0), some (.int v1), some (.int v2)] [.int (2 : Int32), .int x2, .ref v0] rfl ?_
    refine fs_vV T 32 rfl rfl rfl rfl rfl rfl h0 (q_X12_require (d := d) hE h0) ?_
    intro x3 m3
    exact fs_retv T rfl rfl rfl)
