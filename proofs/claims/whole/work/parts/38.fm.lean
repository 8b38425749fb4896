/-! functions out of the code -/
def f_X12_findHolder_32 (H : fm_H) (k2 : Int32 → fm_M → Option (Int32 × fm_M)) (k15 : Int32 → fm_M → Option (Int32 × fm_M)) (v0 : Nat) (v1 : Int32) (v2 : Int32) (v3 : Int32) (v4 : Int32) (v5 : Int32) : Nat → Int32 → fm_M → Option (Int32 × fm_M)
  | 0, _, _ => none
  | n + 1, v6, m =>
    if px_inb v5 (fm_sz H (H.2.1 v0 0)) = true then
      if m.1 (H.2.1 v0 0) v5.toNatClampNeg ≤ v6 then
        k15 (v4 + 1) m
      else
      if px_inb ((v5 + (7 : Int32)) + v6) (fm_sz H (H.2.1 v0 0)) = true then
        if m.1 (H.2.1 v0 0) ((v5 + (7 : Int32)) + v6).toNatClampNeg = v1 then
          if px_inb ((v5 + (13 : Int32)) + v6) (fm_sz H (H.2.1 v0 0)) = true then
            if m.1 (H.2.1 v0 0) ((v5 + (13 : Int32)) + v6).toNatClampNeg = v2 then
              fm_bd (fm_si m v0 18 v3) fun m1 =>
              fm_bd (fm_si m1 v0 19 v4) fun m2 =>
              fm_bd (fm_si m2 v0 20 v6) fun m3 =>
              some ((1 : Int32), m3)
            else
            f_X12_findHolder_32 H k2 k15 v0 v1 v2 v3 v4 v5 n (v6 + 1) m
          else none
        else
        f_X12_findHolder_32 H k2 k15 v0 v1 v2 v3 v4 v5 n (v6 + 1) m
      else none
    else none
set_option maxRecDepth 10000 in
theorem w_X12_findHolder_32 {G : pm_G} {H : fm_H} {d : Nat} {z : Option Nat × Nat × Nat} {K : pm_R → fm_M → Prop} (hE : fm_E G H) {k2 : Int32 → fm_M → Option (Int32 × fm_M)} {k15 : Int32 → fm_M → Option (Int32 × fm_M)} {v0 : Nat} {v1 : Int32} {v2 : Int32} {v3 : Int32} {v4 : Int32} {v5 : Int32} (Hk2 : ∀ (v3 : Int32) (m : fm_M), fm_o fm_rI (k2 v3 m) K → fm_V G H (d + 1) RX12 cX12_findHolder (some (.boolean)) z K 2 [some (.ref v0), some (.int v1), some (.int v2), some (.int v3), none, none, none] [] m) (Hk15 : ∀ (v4 : Int32) (m : fm_M), fm_o fm_rI (k15 v4 m) K → fm_V G H (d + 1) RX12 cX12_findHolder (some (.boolean)) z K 15 [some (.ref v0), some (.int v1), some (.int v2), some (.int v3), some (.int v4), none, none] [] m) (h0 : fm_is H v0 12) : ∀ (n : Nat) (v6 : Int32) (m : fm_M), fm_o fm_rI (f_X12_findHolder_32 H k2 k15 v0 v1 v2 v3 v4 v5 n v6 m) K → fm_V G H (d + 1) RX12 cX12_findHolder (some (.boolean)) z K 32 [some (.ref v0), some (.int v1), some (.int v2), some (.int v3), some (.int v4), some (.int v5), some (.int v6)] [] m := by
  have T : fm_T RX12 cX12_findHolder tc_X12_findHolder fr_X12 mr_X12 cr_X12 lr_X12 := ⟨tok_X12, dc_X12_findHolder⟩
  intro n
  induction n with
  | zero =>
    intro v6 m 
    exact fs_none
  | succ n ih =>
    intro v6 m 
    unfold f_X12_findHolder_32
    refine fs_r T 2 35 [some (.ref v0), some (.int v1), some (.int v2), some (.int v3), some (.int v4), some (.int v5), some (.int v6)] [.ref v0, .int v6] rfl ?_
    refine fs_gs T 38 12 0 v0 rfl rfl rfl rfl h0 ?_
    refine fs_r T 1 40 [some (.ref v0), some (.int v1), some (.int v2), some (.int v3), some (.int v4), some (.int v5), some (.int v6)] [.int v5, .ref (H.2.1 v0 0), .int v6] rfl ?_
    refine fs_ai T 41 (H.2.1 v0 0) rfl rfl (hE.1 _ 12 0 h0) ?_
    refine fs_ic_ge T 103 44 rfl rfl rfl (fun _ => ?_) (fun _ => ?_)
    · refine fs_r T 2 15 [some (.ref v0), some (.int v1), some (.int v2), some (.int v3), some (.int (v4 + 1)), some (.int v5), some (.int v6)] [] rfl ?_
      refine fs_wk (ls' := [some (.ref v0), some (.int v1), some (.int v2), some (.int v3), some (.int (v4 + 1)), none, none]) ⟨rfl, rfl, rfl, rfl, rfl, trivial⟩ ?_
      exact Hk15 _ _
    · refine fs_r T 1 45 [some (.ref v0), some (.int v1), some (.int v2), some (.int v3), some (.int v4), some (.int v5), some (.int v6)] [.ref v0] rfl ?_
      refine fs_gs T 48 12 0 v0 rfl rfl rfl rfl h0 ?_
      refine fs_r T 5 56 [some (.ref v0), some (.int v1), some (.int v2), some (.int v3), some (.int v4), some (.int v5), some (.int v6)] [.int ((v5 + (7 : Int32)) + v6), .ref (H.2.1 v0 0)] rfl ?_
      refine fs_ai T 57 (H.2.1 v0 0) rfl rfl (hE.1 _ 12 0 h0) ?_
      refine fs_r T 1 58 [some (.ref v0), some (.int v1), some (.int v2), some (.int v3), some (.int v4), some (.int v5), some (.int v6)] [.int v1, .int (m.1 (H.2.1 v0 0) ((v5 + (7 : Int32)) + v6).toNatClampNeg)] rfl ?_
      refine fs_ic_ne T 97 61 rfl rfl rfl (fun _ => ?_) (fun _ => ?_)
      · refine fs_r T 1 62 [some (.ref v0), some (.int v1), some (.int v2), some (.int v3), some (.int v4), some (.int v5), some (.int v6)] [.ref v0] rfl ?_
        refine fs_gs T 65 12 0 v0 rfl rfl rfl rfl h0 ?_
        refine fs_r T 5 73 [some (.ref v0), some (.int v1), some (.int v2), some (.int v3), some (.int v4), some (.int v5), some (.int v6)] [.int ((v5 + (13 : Int32)) + v6), .ref (H.2.1 v0 0)] rfl ?_
        refine fs_ai T 74 (H.2.1 v0 0) rfl rfl (hE.1 _ 12 0 h0) ?_
        refine fs_r T 1 75 [some (.ref v0), some (.int v1), some (.int v2), some (.int v3), some (.int v4), some (.int v5), some (.int v6)] [.int v2, .int (m.1 (H.2.1 v0 0) ((v5 + (13 : Int32)) + v6).toNatClampNeg)] rfl ?_
        refine fs_ic_ne T 97 78 rfl rfl rfl (fun _ => ?_) (fun _ => ?_)
        · refine fs_r T 2 80 [some (.ref v0), some (.int v1), some (.int v2), some (.int v3), some (.int v4), some (.int v5), some (.int v6)] [.int v3, .ref v0] rfl ?_
          refine fs_pi T 83 12 18 v0 rfl rfl rfl rfl h0 ?_
          intro m1
          refine fs_r T 2 86 [some (.ref v0), some (.int v1), some (.int v2), some (.int v3), some (.int v4), some (.int v5), some (.int v6)] [.int v4, .ref v0] rfl ?_
          refine fs_pi T 89 12 19 v0 rfl rfl rfl rfl h0 ?_
          intro m2
          refine fs_r T 2 92 [some (.ref v0), some (.int v1), some (.int v2), some (.int v3), some (.int v4), some (.int v5), some (.int v6)] [.int v6, .ref v0] rfl ?_
          refine fs_pi T 95 12 20 v0 rfl rfl rfl rfl h0 ?_
          intro m3
          refine fs_r T 1 96 [some (.ref v0), some (.int v1), some (.int v2), some (.int v3), some (.int v4), some (.int v5), some (.int v6)] [.int (1 : Int32)] rfl ?_
          exact fs_retc T rfl rfl rfl rfl
        · refine fs_r T 2 32 [some (.ref v0), some (.int v1), some (.int v2), some (.int v3), some (.int v4), some (.int v5), some (.int (v6 + 1))] [] rfl ?_
          exact ih _ _
      · refine fs_r T 2 32 [some (.ref v0), some (.int v1), some (.int v2), some (.int v3), some (.int v4), some (.int v5), some (.int (v6 + 1))] [] rfl ?_
        exact ih _ _
def f_X12_findHolder_15 (H : fm_H) (k2 : Int32 → fm_M → Option (Int32 × fm_M)) (v0 : Nat) (v1 : Int32) (v2 : Int32) (v3 : Int32) : Nat → Int32 → fm_M → Option (Int32 × fm_M)
  | 0, _, _ => none
  | n + 1, v4, m =>
    if (2 : Int32) ≤ v4 then
      k2 (v3 + 1) m
    else
    fm_bn (f_X12_wayPlace H v3 v4 m) fun x1 m1 =>
    f_X12_findHolder_32 H k2 (f_X12_findHolder_15 H k2 v0 v1 v2 v3 n) v0 v1 v2 v3 v4 x1 fm_N (1 : Int32) m1
set_option maxRecDepth 10000 in
theorem w_X12_findHolder_15 {G : pm_G} {H : fm_H} {d : Nat} {z : Option Nat × Nat × Nat} {K : pm_R → fm_M → Prop} (hE : fm_E G H) {k2 : Int32 → fm_M → Option (Int32 × fm_M)} {v0 : Nat} {v1 : Int32} {v2 : Int32} {v3 : Int32} (Hk2 : ∀ (v3 : Int32) (m : fm_M), fm_o fm_rI (k2 v3 m) K → fm_V G H (d + 1) RX12 cX12_findHolder (some (.boolean)) z K 2 [some (.ref v0), some (.int v1), some (.int v2), some (.int v3), none, none, none] [] m) (h0 : fm_is H v0 12) : ∀ (n : Nat) (v4 : Int32) (m : fm_M), fm_o fm_rI (f_X12_findHolder_15 H k2 v0 v1 v2 v3 n v4 m) K → fm_V G H (d + 1) RX12 cX12_findHolder (some (.boolean)) z K 15 [some (.ref v0), some (.int v1), some (.int v2), some (.int v3), some (.int v4), none, none] [] m := by
  have T : fm_T RX12 cX12_findHolder tc_X12_findHolder fr_X12 mr_X12 cr_X12 lr_X12 := ⟨tok_X12, dc_X12_findHolder⟩
  intro n
  induction n with
  | zero =>
    intro v4 m 
    exact fs_none
  | succ n ih =>
    intro v4 m 
    unfold f_X12_findHolder_15
    refine fs_r T 2 18 [some (.ref v0), some (.int v1), some (.int v2), some (.int v3), some (.int v4), none, none] [.int (2 : Int32), .int v4] rfl ?_
    refine fs_ic_ge T 109 21 rfl rfl rfl (fun _ => ?_) (fun _ => ?_)
    · refine fs_r T 2 2 [some (.ref v0), some (.int v1), some (.int v2), some (.int (v3 + 1)), some (.int v4), none, none] [] rfl ?_
      refine fs_wk (ls' := [some (.ref v0), some (.int v1), some (.int v2), some (.int (v3 + 1)), none, none, none]) ⟨rfl, rfl, rfl, rfl, trivial⟩ ?_
      exact Hk2 _ _
    · refine fs_r T 2 24 [some (.ref v0), some (.int v1), some (.int v2), some (.int v3), some (.int v4), none, none] [.int v4, .int v3] rfl ?_
      refine fs_sI T 27 rfl rfl rfl rfl rfl rfl rfl (q_X12_wayPlace (d := d) hE ) ?_
      intro x1 m1
      refine fs_r T 3 32 [some (.ref v0), some (.int v1), some (.int v2), some (.int v3), some (.int v4), some (.int x1), some (.int (1 : Int32))] [] rfl ?_
      exact w_X12_findHolder_32 hE Hk2 ih h0 _ _ _
def f_X12_findHolder_2 (H : fm_H) (v0 : Nat) (v1 : Int32) (v2 : Int32) : Nat → Int32 → fm_M → Option (Int32 × fm_M)
  | 0, _, _ => none
  | n + 1, v3, m =>
    if px_inb (4 : Int32) (fm_sz H (H.2.1 v0 0)) = true then
      if m.1 (H.2.1 v0 0) (4 : Int32).toNatClampNeg ≤ v3 then
        some ((0 : Int32), m)
      else
      f_X12_findHolder_15 H (f_X12_findHolder_2 H v0 v1 v2 n) v0 v1 v2 v3 fm_N (0 : Int32) m
    else none
set_option maxRecDepth 10000 in
theorem w_X12_findHolder_2 {G : pm_G} {H : fm_H} {d : Nat} {z : Option Nat × Nat × Nat} {K : pm_R → fm_M → Prop} (hE : fm_E G H) {v0 : Nat} {v1 : Int32} {v2 : Int32} (h0 : fm_is H v0 12) : ∀ (n : Nat) (v3 : Int32) (m : fm_M), fm_o fm_rI (f_X12_findHolder_2 H v0 v1 v2 n v3 m) K → fm_V G H (d + 1) RX12 cX12_findHolder (some (.boolean)) z K 2 [some (.ref v0), some (.int v1), some (.int v2), some (.int v3), none, none, none] [] m := by
  have T : fm_T RX12 cX12_findHolder tc_X12_findHolder fr_X12 mr_X12 cr_X12 lr_X12 := ⟨tok_X12, dc_X12_findHolder⟩
  intro n
  induction n with
  | zero =>
    intro v3 m 
    exact fs_none
  | succ n ih =>
    intro v3 m 
    unfold f_X12_findHolder_2
    refine fs_r T 2 4 [some (.ref v0), some (.int v1), some (.int v2), some (.int v3), none, none, none] [.ref v0, .int v3] rfl ?_
    refine fs_gs T 7 12 0 v0 rfl rfl rfl rfl h0 ?_
    refine fs_r T 1 8 [some (.ref v0), some (.int v1), some (.int v2), some (.int v3), none, none, none] [.int (4 : Int32), .ref (H.2.1 v0 0), .int v3] rfl ?_
    refine fs_ai T 9 (H.2.1 v0 0) rfl rfl (hE.1 _ 12 0 h0) ?_
    refine fs_ic_ge T 115 12 rfl rfl rfl (fun _ => ?_) (fun _ => ?_)
    · refine fs_r T 1 116 [some (.ref v0), some (.int v1), some (.int v2), some (.int v3), none, none, none] [.int (0 : Int32)] rfl ?_
      exact fs_retc T rfl rfl rfl rfl
    · refine fs_r T 2 15 [some (.ref v0), some (.int v1), some (.int v2), some (.int v3), some (.int (0 : Int32)), none, none] [] rfl ?_
      exact w_X12_findHolder_15 hE ih h0 _ _ _
def f_X12_findHolder (H : fm_H) (v0 : Nat) (v1 : Int32) (v2 : Int32) (m : fm_M) : Option (Int32 × fm_M) :=
  f_X12_findHolder_2 H v0 v1 v2 fm_N (0 : Int32) m
set_option maxRecDepth 10000 in
theorem q_X12_findHolder {G : pm_G} {H : fm_H} {d : Nat} {z : Option Nat × Nat × Nat} {v0 : Nat} {v1 : Int32} {v2 : Int32} {m : fm_M} (hE : fm_E G H) (h0 : fm_is H v0 12) : fm_cal G H (d + 2) yX12_findHolder [.ref v0, .int v1, .int v2] z m fm_rI (f_X12_findHolder H v0 v1 v2 m) := fm_mth (d := d + 1) mt_X12_findHolder rfl rfl rfl (fun K => by
  show fm_o fm_rI (f_X12_findHolder H v0 v1 v2 m) K → fm_V G H (d + 1) RX12 cX12_findHolder (some (.boolean)) z K 0 [some (.ref v0), some (.int v1), some (.int v2), none, none, none, none] [] m
  have T : fm_T RX12 cX12_findHolder tc_X12_findHolder fr_X12 mr_X12 cr_X12 lr_X12 := ⟨tok_X12, dc_X12_findHolder⟩
  unfold f_X12_findHolder
  refine fs_r T 2 2 [some (.ref v0), some (.int v1), some (.int v2), some (.int (0 : Int32)), none, none, none] [] rfl ?_
  exact w_X12_findHolder_2 hE h0 _ _ _)
def f_X12_highestFree_12 (H : fm_H) (v0 : Nat) (v1 : Int32) : Nat → Int32 → fm_M → Option (Int32 × fm_M)
  | 0, _, _ => none
  | n + 1, v2, m =>
    if v2 < 0 then
      some ((-1 : Int32), m)
    else
    fm_bn (f_X12_findHolder H v0 v1 v2 m) fun x1 m1 =>
    if x1 = 0 then
      some (v2, m1)
    else
    f_X12_highestFree_12 H v0 v1 n (v2 + (-1)) m1
set_option maxRecDepth 10000 in
theorem w_X12_highestFree_12 {G : pm_G} {H : fm_H} {d : Nat} {z : Option Nat × Nat × Nat} {K : pm_R → fm_M → Prop} (hE : fm_E G H) {v0 : Nat} {v1 : Int32} (h0 : fm_is H v0 12) : ∀ (n : Nat) (v2 : Int32) (m : fm_M), fm_o fm_rI (f_X12_highestFree_12 H v0 v1 n v2 m) K → fm_V G H (d + 2) RX12 cX12_highestFree (some (.int)) z K 12 [some (.ref v0), some (.int v1), some (.int v2)] [] m := by
  have T : fm_T RX12 cX12_highestFree tc_X12_highestFree fr_X12 mr_X12 cr_X12 lr_X12 := ⟨tok_X12, dc_X12_highestFree⟩
  intro n
  induction n with
  | zero =>
    intro v2 m 
    exact fs_none
  | succ n ih =>
    intro v2 m 
    unfold f_X12_highestFree_12
    refine fs_r T 1 13 [some (.ref v0), some (.int v1), some (.int v2)] [.int v2] rfl ?_
    refine fs_if_lt T 33 16 rfl rfl rfl (fun _ => ?_) (fun _ => ?_)
    · refine fs_r T 1 34 [some (.ref v0), some (.int v1), some (.int v2)] [.int (-1 : Int32)] rfl ?_
      exact fs_reti T rfl rfl rfl
    · refine fs_r T 3 19 [some (.ref v0), some (.int v1), some (.int v2)] [.int v2, .int v1, .ref v0] rfl ?_
      refine fs_vI T 22 rfl rfl rfl rfl rfl rfl h0 (q_X12_findHolder (d := d) hE h0) ?_
      intro x1 m1
      refine fs_if_ne T 27 25 rfl rfl rfl (fun _ => ?_) (fun _ => ?_)
      · refine fs_r T 1 26 [some (.ref v0), some (.int v1), some (.int v2)] [.int v2] rfl ?_
        exact fs_reti T rfl rfl rfl
      · refine fs_r T 2 12 [some (.ref v0), some (.int v1), some (.int (v2 + (-1)))] [] rfl ?_
        exact ih _ _
def f_X12_highestFree (H : fm_H) (v0 : Nat) (v1 : Int32) (m : fm_M) : Option (Int32 × fm_M) :=
  if px_inb ((14 : Int32) + v1) (fm_sz H (H.2.1 v0 0)) = true then
    f_X12_highestFree_12 H v0 v1 fm_N (m.1 (H.2.1 v0 0) ((14 : Int32) + v1).toNatClampNeg - (1 : Int32)) m
  else none
set_option maxRecDepth 10000 in
theorem q_X12_highestFree {G : pm_G} {H : fm_H} {d : Nat} {z : Option Nat × Nat × Nat} {v0 : Nat} {v1 : Int32} {m : fm_M} (hE : fm_E G H) (h0 : fm_is H v0 12) : fm_cal G H (d + 3) yX12_highestFree [.ref v0, .int v1] z m fm_rI (f_X12_highestFree H v0 v1 m) := fm_mth (d := d + 2) mt_X12_highestFree rfl rfl rfl (fun K => by
  show fm_o fm_rI (f_X12_highestFree H v0 v1 m) K → fm_V G H (d + 2) RX12 cX12_highestFree (some (.int)) z K 0 [some (.ref v0), some (.int v1), none] [] m
  have T : fm_T RX12 cX12_highestFree tc_X12_highestFree fr_X12 mr_X12 cr_X12 lr_X12 := ⟨tok_X12, dc_X12_highestFree⟩
  unfold f_X12_highestFree
  refine fs_r T 1 1 [some (.ref v0), some (.int v1), none] [.ref v0] rfl ?_
  refine fs_gs T 4 12 0 v0 rfl rfl rfl rfl h0 ?_
  refine fs_r T 3 8 [some (.ref v0), some (.int v1), none] [.int ((14 : Int32) + v1), .ref (H.2.1 v0 0)] rfl ?_
  refine fs_ai T 9 (H.2.1 v0 0) rfl rfl (hE.1 _ 12 0 h0) ?_
  refine fs_r T 3 12 [some (.ref v0), some (.int v1), some (.int (m.1 (H.2.1 v0 0) ((14 : Int32) + v1).toNatClampNeg - (1 : Int32)))] [] rfl ?_
  exact w_X12_highestFree_12 hE h0 _ _ _)
def f_X12_freeLabels_4 (H : fm_H) (v0 : Nat) (v1 : Int32) : Nat → Int32 → Int32 → fm_M → Option (Int32 × fm_M)
  | 0, _, _, _ => none
  | n + 1, v2, v3, m =>
    if px_inb ((14 : Int32) + v1) (fm_sz H (H.2.1 v0 0)) = true then
      if m.1 (H.2.1 v0 0) ((14 : Int32) + v1).toNatClampNeg ≤ v3 then
        some (v2, m)
      else
      fm_bn (f_X12_findHolder H v0 v1 v3 m) fun x1 m1 =>
      if x1 = 0 then
        f_X12_freeLabels_4 H v0 v1 n (v2 + (1 : Int32)) (v3 + 1) m1
      else
      f_X12_freeLabels_4 H v0 v1 n (v2 + (0 : Int32)) (v3 + 1) m1
    else none
set_option maxRecDepth 10000 in
theorem w_X12_freeLabels_4 {G : pm_G} {H : fm_H} {d : Nat} {z : Option Nat × Nat × Nat} {K : pm_R → fm_M → Prop} (hE : fm_E G H) {v0 : Nat} {v1 : Int32} (h0 : fm_is H v0 12) : ∀ (n : Nat) (v2 : Int32) (v3 : Int32) (m : fm_M), fm_o fm_rI (f_X12_freeLabels_4 H v0 v1 n v2 v3 m) K → fm_V G H (d + 2) RX12 cX12_freeLabels (some (.int)) z K 4 [some (.ref v0), some (.int v1), some (.int v2), some (.int v3)] [] m := by
  have T : fm_T RX12 cX12_freeLabels tc_X12_freeLabels fr_X12 mr_X12 cr_X12 lr_X12 := ⟨tok_X12, dc_X12_freeLabels⟩
  intro n
  induction n with
  | zero =>
    intro v2 v3 m 
    exact fs_none
  | succ n ih =>
    intro v2 v3 m 
    unfold f_X12_freeLabels_4
    refine fs_r T 2 6 [some (.ref v0), some (.int v1), some (.int v2), some (.int v3)] [.ref v0, .int v3] rfl ?_
    refine fs_gs T 9 12 0 v0 rfl rfl rfl rfl h0 ?_
    refine fs_r T 3 13 [some (.ref v0), some (.int v1), some (.int v2), some (.int v3)] [.int ((14 : Int32) + v1), .ref (H.2.1 v0 0), .int v3] rfl ?_
    refine fs_ai T 14 (H.2.1 v0 0) rfl rfl (hE.1 _ 12 0 h0) ?_
    refine fs_ic_ge T 40 17 rfl rfl rfl (fun _ => ?_) (fun _ => ?_)
    · refine fs_r T 1 41 [some (.ref v0), some (.int v1), some (.int v2), some (.int v3)] [.int v2] rfl ?_
      exact fs_reti T rfl rfl rfl
    · refine fs_r T 4 21 [some (.ref v0), some (.int v1), some (.int v2), some (.int v3)] [.int v3, .int v1, .ref v0, .int v2] rfl ?_
      refine fs_vI T 24 rfl rfl rfl rfl rfl rfl h0 (q_X12_findHolder (d := d) hE h0) ?_
      intro x1 m1
      refine fs_if_eq T 31 27 rfl rfl rfl (fun _ => ?_) (fun _ => ?_)
      · refine fs_r T 5 4 [some (.ref v0), some (.int v1), some (.int (v2 + (1 : Int32))), some (.int (v3 + 1))] [] rfl ?_
        exact ih _ _ _
      · refine fs_r T 6 4 [some (.ref v0), some (.int v1), some (.int (v2 + (0 : Int32))), some (.int (v3 + 1))] [] rfl ?_
        exact ih _ _ _
def f_X12_freeLabels (H : fm_H) (v0 : Nat) (v1 : Int32) (m : fm_M) : Option (Int32 × fm_M) :=
  f_X12_freeLabels_4 H v0 v1 fm_N (0 : Int32) (0 : Int32) m
set_option maxRecDepth 10000 in
theorem q_X12_freeLabels {G : pm_G} {H : fm_H} {d : Nat} {z : Option Nat × Nat × Nat} {v0 : Nat} {v1 : Int32} {m : fm_M} (hE : fm_E G H) (h0 : fm_is H v0 12) : fm_cal G H (d + 3) yX12_freeLabels [.ref v0, .int v1] z m fm_rI (f_X12_freeLabels H v0 v1 m) := fm_mth (d := d + 2) mt_X12_freeLabels rfl rfl rfl (fun K => by
  show fm_o fm_rI (f_X12_freeLabels H v0 v1 m) K → fm_V G H (d + 2) RX12 cX12_freeLabels (some (.int)) z K 0 [some (.ref v0), some (.int v1), none, none] [] m
  have T : fm_T RX12 cX12_freeLabels tc_X12_freeLabels fr_X12 mr_X12 cr_X12 lr_X12 := ⟨tok_X12, dc_X12_freeLabels⟩
  unfold f_X12_freeLabels
  refine fs_r T 4 4 [some (.ref v0), some (.int v1), some (.int (0 : Int32)), some (.int (0 : Int32))] [] rfl ?_
  exact w_X12_freeLabels_4 hE h0 _ _ _ _)
def f_X12_lenderFor_7 (H : fm_H) (v0 : Nat) (v1 : Int32) : Nat → Int32 → Int32 → Int32 → fm_M → Option (Int32 × fm_M)
  | 0, _, _, _, _ => none
  | n + 1, v2, v3, v4, m =>
    if px_inb (2 : Int32) (fm_sz H (H.2.1 v0 0)) = true then
      if m.1 (H.2.1 v0 0) (2 : Int32).toNatClampNeg ≤ v4 then
        some (v2, m)
      else
      fm_bn (f_X12_linkOf H v0 v1 v4 m) fun x1 m1 =>
      if x1 = (-1 : Int32) then
        if (0 : Int32) ≤ v3 then
          f_X12_lenderFor_7 H v0 v1 n v2 v3 (v4 + 1) m1
        else
        f_X12_lenderFor_7 H v0 v1 n v4 (0 : Int32) (v4 + 1) m1
      else
      fm_bn (f_X12_freeLabels H v0 v4 m1) fun x2 m2 =>
      if x2 ≤ v3 then
        f_X12_lenderFor_7 H v0 v1 n v2 v3 (v4 + 1) m2
      else
      f_X12_lenderFor_7 H v0 v1 n v4 x2 (v4 + 1) m2
    else none
set_option maxRecDepth 10000 in
theorem w_X12_lenderFor_7 {G : pm_G} {H : fm_H} {d : Nat} {z : Option Nat × Nat × Nat} {K : pm_R → fm_M → Prop} (hE : fm_E G H) {v0 : Nat} {v1 : Int32} (h0 : fm_is H v0 12) : ∀ (n : Nat) (v2 : Int32) (v3 : Int32) (v4 : Int32) (m : fm_M), fm_o fm_rI (f_X12_lenderFor_7 H v0 v1 n v2 v3 v4 m) K → fm_V G H (d + 3) RX12 cX12_lenderFor (some (.int)) z K 7 [some (.ref v0), some (.int v1), some (.int v2), some (.int v3), some (.int v4), none] [] m := by
  have T : fm_T RX12 cX12_lenderFor tc_X12_lenderFor fr_X12 mr_X12 cr_X12 lr_X12 := ⟨tok_X12, dc_X12_lenderFor⟩
  intro n
  induction n with
  | zero =>
    intro v2 v3 v4 m 
    exact fs_none
  | succ n ih =>
    intro v2 v3 v4 m 
    unfold f_X12_lenderFor_7
    refine fs_r T 2 10 [some (.ref v0), some (.int v1), some (.int v2), some (.int v3), some (.int v4), none] [.ref v0, .int v4] rfl ?_
    refine fs_gs T 13 12 0 v0 rfl rfl rfl rfl h0 ?_
    refine fs_r T 1 14 [some (.ref v0), some (.int v1), some (.int v2), some (.int v3), some (.int v4), none] [.int (2 : Int32), .ref (H.2.1 v0 0), .int v4] rfl ?_
    refine fs_ai T 15 (H.2.1 v0 0) rfl rfl (hE.1 _ 12 0 h0) ?_
    refine fs_ic_ge T 59 18 rfl rfl rfl (fun _ => ?_) (fun _ => ?_)
    · refine fs_r T 1 60 [some (.ref v0), some (.int v1), some (.int v2), some (.int v3), some (.int v4), none] [.int v2] rfl ?_
      exact fs_reti T rfl rfl rfl
    · refine fs_r T 3 22 [some (.ref v0), some (.int v1), some (.int v2), some (.int v3), some (.int v4), none] [.int v4, .int v1, .ref v0] rfl ?_
      refine fs_vI T 25 rfl rfl rfl rfl rfl rfl h0 (q_X12_linkOf (d := d + 1) hE h0) ?_
      intro x1 m1
      refine fs_r T 1 26 [some (.ref v0), some (.int v1), some (.int v2), some (.int v3), some (.int v4), none] [.int (-1 : Int32), .int x1] rfl ?_
      refine fs_ic_ne T 33 29 rfl rfl rfl (fun _ => ?_) (fun _ => ?_)
      · refine fs_r T 5 44 [some (.ref v0), some (.int v1), some (.int v2), some (.int v3), some (.int v4), some (.int (0 : Int32))] [.int v3, .int (0 : Int32)] rfl ?_
        refine fs_ic_le T 53 47 rfl rfl rfl (fun _ => ?_) (fun _ => ?_)
        · refine fs_r T 2 7 [some (.ref v0), some (.int v1), some (.int v2), some (.int v3), some (.int (v4 + 1)), some (.int (0 : Int32))] [] rfl ?_
          refine fs_wk (ls' := [some (.ref v0), some (.int v1), some (.int v2), some (.int v3), some (.int (v4 + 1)), none]) ⟨rfl, rfl, rfl, rfl, rfl, trivial⟩ ?_
          exact ih _ _ _ _
        · refine fs_r T 6 7 [some (.ref v0), some (.int v1), some (.int v4), some (.int (0 : Int32)), some (.int (v4 + 1)), some (.int (0 : Int32))] [] rfl ?_
          refine fs_wk (ls' := [some (.ref v0), some (.int v1), some (.int v4), some (.int (0 : Int32)), some (.int (v4 + 1)), none]) ⟨rfl, rfl, rfl, rfl, rfl, trivial⟩ ?_
          exact ih _ _ _ _
      · refine fs_r T 2 36 [some (.ref v0), some (.int v1), some (.int v2), some (.int v3), some (.int v4), none] [.int v4, .ref v0] rfl ?_
        refine fs_vI T 39 rfl rfl rfl rfl rfl rfl h0 (q_X12_freeLabels (d := d) hE h0) ?_
        intro x2 m2
        refine fs_r T 3 44 [some (.ref v0), some (.int v1), some (.int v2), some (.int v3), some (.int v4), some (.int x2)] [.int v3, .int x2] rfl ?_
        refine fs_ic_le T 53 47 rfl rfl rfl (fun _ => ?_) (fun _ => ?_)
        · refine fs_r T 2 7 [some (.ref v0), some (.int v1), some (.int v2), some (.int v3), some (.int (v4 + 1)), some (.int x2)] [] rfl ?_
          refine fs_wk (ls' := [some (.ref v0), some (.int v1), some (.int v2), some (.int v3), some (.int (v4 + 1)), none]) ⟨rfl, rfl, rfl, rfl, rfl, trivial⟩ ?_
          exact ih _ _ _ _
        · refine fs_r T 6 7 [some (.ref v0), some (.int v1), some (.int v4), some (.int x2), some (.int (v4 + 1)), some (.int x2)] [] rfl ?_
          refine fs_wk (ls' := [some (.ref v0), some (.int v1), some (.int v4), some (.int x2), some (.int (v4 + 1)), none]) ⟨rfl, rfl, rfl, rfl, rfl, trivial⟩ ?_
          exact ih _ _ _ _
def f_X12_lenderFor (H : fm_H) (v0 : Nat) (v1 : Int32) (m : fm_M) : Option (Int32 × fm_M) :=
  f_X12_lenderFor_7 H v0 v1 fm_N (-1 : Int32) (0 : Int32) (0 : Int32) m
set_option maxRecDepth 10000 in
theorem q_X12_lenderFor {G : pm_G} {H : fm_H} {d : Nat} {z : Option Nat × Nat × Nat} {v0 : Nat} {v1 : Int32} {m : fm_M} (hE : fm_E G H) (h0 : fm_is H v0 12) : fm_cal G H (d + 4) yX12_lenderFor [.ref v0, .int v1] z m fm_rI (f_X12_lenderFor H v0 v1 m) := fm_mth (d := d + 3) mt_X12_lenderFor rfl rfl rfl (fun K => by
  show fm_o fm_rI (f_X12_lenderFor H v0 v1 m) K → fm_V G H (d + 3) RX12 cX12_lenderFor (some (.int)) z K 0 [some (.ref v0), some (.int v1), none, none, none, none] [] m
  have T : fm_T RX12 cX12_lenderFor tc_X12_lenderFor fr_X12 mr_X12 cr_X12 lr_X12 := ⟨tok_X12, dc_X12_lenderFor⟩
  unfold f_X12_lenderFor
  refine fs_r T 6 7 [some (.ref v0), some (.int v1), some (.int (-1 : Int32)), some (.int (0 : Int32)), some (.int (0 : Int32)), none] [] rfl ?_
  exact w_X12_lenderFor_7 hE h0 _ _ _ _ _)
def f_X12_lowestFree_2 (H : fm_H) (v0 : Nat) (v1 : Int32) : Nat → Int32 → fm_M → Option (Int32 × fm_M)
  | 0, _, _ => none
  | n + 1, v2, m =>
    if px_inb ((14 : Int32) + v1) (fm_sz H (H.2.1 v0 0)) = true then
      if m.1 (H.2.1 v0 0) ((14 : Int32) + v1).toNatClampNeg ≤ v2 then
        some ((-1 : Int32), m)
      else
      fm_bn (f_X12_findHolder H v0 v1 v2 m) fun x1 m1 =>
      if x1 = 0 then
        some (v2, m1)
      else
      f_X12_lowestFree_2 H v0 v1 n (v2 + 1) m1
    else none
set_option maxRecDepth 10000 in
theorem w_X12_lowestFree_2 {G : pm_G} {H : fm_H} {d : Nat} {z : Option Nat × Nat × Nat} {K : pm_R → fm_M → Prop} (hE : fm_E G H) {v0 : Nat} {v1 : Int32} (h0 : fm_is H v0 12) : ∀ (n : Nat) (v2 : Int32) (m : fm_M), fm_o fm_rI (f_X12_lowestFree_2 H v0 v1 n v2 m) K → fm_V G H (d + 2) RX12 cX12_lowestFree (some (.int)) z K 2 [some (.ref v0), some (.int v1), some (.int v2)] [] m := by
  have T : fm_T RX12 cX12_lowestFree tc_X12_lowestFree fr_X12 mr_X12 cr_X12 lr_X12 := ⟨tok_X12, dc_X12_lowestFree⟩
  intro n
  induction n with
  | zero =>
    intro v2 m 
    exact fs_none
  | succ n ih =>
    intro v2 m 
    unfold f_X12_lowestFree_2
    refine fs_r T 2 4 [some (.ref v0), some (.int v1), some (.int v2)] [.ref v0, .int v2] rfl ?_
    refine fs_gs T 7 12 0 v0 rfl rfl rfl rfl h0 ?_
    refine fs_r T 3 11 [some (.ref v0), some (.int v1), some (.int v2)] [.int ((14 : Int32) + v1), .ref (H.2.1 v0 0), .int v2] rfl ?_
    refine fs_ai T 12 (H.2.1 v0 0) rfl rfl (hE.1 _ 12 0 h0) ?_
    refine fs_ic_ge T 32 15 rfl rfl rfl (fun _ => ?_) (fun _ => ?_)
    · refine fs_r T 1 33 [some (.ref v0), some (.int v1), some (.int v2)] [.int (-1 : Int32)] rfl ?_
      exact fs_reti T rfl rfl rfl
    · refine fs_r T 3 18 [some (.ref v0), some (.int v1), some (.int v2)] [.int v2, .int v1, .ref v0] rfl ?_
      refine fs_vI T 21 rfl rfl rfl rfl rfl rfl h0 (q_X12_findHolder (d := d) hE h0) ?_
      intro x1 m1
      refine fs_if_ne T 26 24 rfl rfl rfl (fun _ => ?_) (fun _ => ?_)
      · refine fs_r T 1 25 [some (.ref v0), some (.int v1), some (.int v2)] [.int v2] rfl ?_
        exact fs_reti T rfl rfl rfl
      · refine fs_r T 2 2 [some (.ref v0), some (.int v1), some (.int (v2 + 1))] [] rfl ?_
        exact ih _ _
def f_X12_lowestFree (H : fm_H) (v0 : Nat) (v1 : Int32) (m : fm_M) : Option (Int32 × fm_M) :=
  f_X12_lowestFree_2 H v0 v1 fm_N (0 : Int32) m
set_option maxRecDepth 10000 in
theorem q_X12_lowestFree {G : pm_G} {H : fm_H} {d : Nat} {z : Option Nat × Nat × Nat} {v0 : Nat} {v1 : Int32} {m : fm_M} (hE : fm_E G H) (h0 : fm_is H v0 12) : fm_cal G H (d + 3) yX12_lowestFree [.ref v0, .int v1] z m fm_rI (f_X12_lowestFree H v0 v1 m) := fm_mth (d := d + 2) mt_X12_lowestFree rfl rfl rfl (fun K => by
  show fm_o fm_rI (f_X12_lowestFree H v0 v1 m) K → fm_V G H (d + 2) RX12 cX12_lowestFree (some (.int)) z K 0 [some (.ref v0), some (.int v1), none] [] m
  have T : fm_T RX12 cX12_lowestFree tc_X12_lowestFree fr_X12 mr_X12 cr_X12 lr_X12 := ⟨tok_X12, dc_X12_lowestFree⟩
  unfold f_X12_lowestFree
  refine fs_r T 2 2 [some (.ref v0), some (.int v1), some (.int (0 : Int32))] [] rfl ?_
  exact w_X12_lowestFree_2 hE h0 _ _ _)
def f_X12_appendToWay_97 (H : fm_H) (v0 : Nat) (v3 : Int32) (v4 : Int32) (v5 : Int32) (v6 : Int32) (v7 : Int32) (v8 : Int32) (m : fm_M) : Option (Int32 × fm_M) :=
  if px_inb ((v5 + (1 : Int32)) + v6) (fm_sz H (H.2.1 v0 0)) = true then
    (fm_bd (fm_si m (H.2.1 v0 0) ((v5 + (1 : Int32)) + v6).toNatClampNeg v3) fun m1 =>
    if px_inb ((v5 + (7 : Int32)) + v6) (fm_sz H (H.2.1 v0 0)) = true then
      (fm_bd (fm_si m1 (H.2.1 v0 0) ((v5 + (7 : Int32)) + v6).toNatClampNeg v7) fun m2 =>
      if px_inb ((v5 + (13 : Int32)) + v6) (fm_sz H (H.2.1 v0 0)) = true then
        (fm_bd (fm_si m2 (H.2.1 v0 0) ((v5 + (13 : Int32)) + v6).toNatClampNeg v8) fun m3 =>
        if px_inb ((v5 + (19 : Int32)) + v6) (fm_sz H (H.2.1 v0 0)) = true then
          (fm_bd (fm_si m3 (H.2.1 v0 0) ((v5 + (19 : Int32)) + v6).toNatClampNeg v4) fun m4 =>
          if px_inb v5 (fm_sz H (H.2.1 v0 0)) = true then
            if px_inb v5 (fm_sz H (H.2.1 v0 0)) = true then
              (fm_bd (fm_si m4 (H.2.1 v0 0) v5.toNatClampNeg (m4.1 (H.2.1 v0 0) v5.toNatClampNeg + (1 : Int32))) fun m5 =>
              some ((1 : Int32), m5))
            else none
          else none)
        else none)
      else none)
    else none)
  else none
set_option maxRecDepth 10000 in
theorem w_X12_appendToWay_97 {G : pm_G} {H : fm_H} {d : Nat} {z : Option Nat × Nat × Nat} {K : pm_R → fm_M → Prop} (hE : fm_E G H) {v0 : Nat} {v3 : Int32} {v4 : Int32} {v5 : Int32} {v6 : Int32} {v7 : Int32} {v8 : Int32} (h0 : fm_is H v0 12) : ∀ (m : fm_M), fm_o fm_rI (f_X12_appendToWay_97 H v0 v3 v4 v5 v6 v7 v8 m) K → fm_V G H (d + 4) RX12 cX12_appendToWay (some (.boolean)) z K 97 [some (.ref v0), none, none, some (.int v3), some (.int v4), some (.int v5), some (.int v6), some (.int v7), some (.int v8)] [] m := by
  have T : fm_T RX12 cX12_appendToWay tc_X12_appendToWay fr_X12 mr_X12 cr_X12 lr_X12 := ⟨tok_X12, dc_X12_appendToWay⟩
  intro m
  unfold f_X12_appendToWay_97
  refine fs_r T 1 98 [some (.ref v0), none, none, some (.int v3), some (.int v4), some (.int v5), some (.int v6), some (.int v7), some (.int v8)] [.ref v0] rfl ?_
  refine fs_gs T 101 12 0 v0 rfl rfl rfl rfl h0 ?_
  refine fs_r T 6 109 [some (.ref v0), none, none, some (.int v3), some (.int v4), some (.int v5), some (.int v6), some (.int v7), some (.int v8)] [.int v3, .int ((v5 + (1 : Int32)) + v6), .ref (H.2.1 v0 0)] rfl ?_
  refine fs_si T 110 (H.2.1 v0 0) rfl rfl (hE.1 _ 12 0 h0) ?_
  intro m1
  refine fs_r T 1 111 [some (.ref v0), none, none, some (.int v3), some (.int v4), some (.int v5), some (.int v6), some (.int v7), some (.int v8)] [.ref v0] rfl ?_
  refine fs_gs T 114 12 0 v0 rfl rfl rfl rfl h0 ?_
  refine fs_r T 6 124 [some (.ref v0), none, none, some (.int v3), some (.int v4), some (.int v5), some (.int v6), some (.int v7), some (.int v8)] [.int v7, .int ((v5 + (7 : Int32)) + v6), .ref (H.2.1 v0 0)] rfl ?_
  refine fs_si T 125 (H.2.1 v0 0) rfl rfl (hE.1 _ 12 0 h0) ?_
  intro m2
  refine fs_r T 1 126 [some (.ref v0), none, none, some (.int v3), some (.int v4), some (.int v5), some (.int v6), some (.int v7), some (.int v8)] [.ref v0] rfl ?_
  refine fs_gs T 129 12 0 v0 rfl rfl rfl rfl h0 ?_
  refine fs_r T 6 139 [some (.ref v0), none, none, some (.int v3), some (.int v4), some (.int v5), some (.int v6), some (.int v7), some (.int v8)] [.int v8, .int ((v5 + (13 : Int32)) + v6), .ref (H.2.1 v0 0)] rfl ?_
  refine fs_si T 140 (H.2.1 v0 0) rfl rfl (hE.1 _ 12 0 h0) ?_
  intro m3
  refine fs_r T 1 141 [some (.ref v0), none, none, some (.int v3), some (.int v4), some (.int v5), some (.int v6), some (.int v7), some (.int v8)] [.ref v0] rfl ?_
  refine fs_gs T 144 12 0 v0 rfl rfl rfl rfl h0 ?_
  refine fs_r T 6 154 [some (.ref v0), none, none, some (.int v3), some (.int v4), some (.int v5), some (.int v6), some (.int v7), some (.int v8)] [.int v4, .int ((v5 + (19 : Int32)) + v6), .ref (H.2.1 v0 0)] rfl ?_
  refine fs_si T 155 (H.2.1 v0 0) rfl rfl (hE.1 _ 12 0 h0) ?_
  intro m4
  refine fs_r T 1 156 [some (.ref v0), none, none, some (.int v3), some (.int v4), some (.int v5), some (.int v6), some (.int v7), some (.int v8)] [.ref v0] rfl ?_
  refine fs_gs T 159 12 0 v0 rfl rfl rfl rfl h0 ?_
  refine fs_r T 2 162 [some (.ref v0), none, none, some (.int v3), some (.int v4), some (.int v5), some (.int v6), some (.int v7), some (.int v8)] [.int v5, .ref (H.2.1 v0 0), .int v5, .ref (H.2.1 v0 0)] rfl ?_
  refine fs_ai T 163 (H.2.1 v0 0) rfl rfl (hE.1 _ 12 0 h0) ?_
  refine fs_r T 2 165 [some (.ref v0), none, none, some (.int v3), some (.int v4), some (.int v5), some (.int v6), some (.int v7), some (.int v8)] [.int (m4.1 (H.2.1 v0 0) v5.toNatClampNeg + (1 : Int32)), .int v5, .ref (H.2.1 v0 0)] rfl ?_
  refine fs_si T 166 (H.2.1 v0 0) rfl rfl (hE.1 _ 12 0 h0) ?_
  intro m5
  refine fs_r T 1 167 [some (.ref v0), none, none, some (.int v3), some (.int v4), some (.int v5), some (.int v6), some (.int v7), some (.int v8)] [.int (1 : Int32)] rfl ?_
  exact fs_retc T rfl rfl rfl rfl
def f_X12_appendToWay_68 (H : fm_H) (v0 : Nat) (v3 : Int32) (v4 : Int32) (v5 : Int32) (v6 : Int32) (v8 : Int32) (s0 : Int32) (m : fm_M) : Option (Int32 × fm_M) :=
  if s0 = (-1 : Int32) then
    some ((0 : Int32), m)
  else
  if v8 = (-1 : Int32) then
    fm_bn (f_X12_highestFree H v0 s0 m) fun x1 m1 =>
    f_X12_appendToWay_97 H v0 v3 v4 v5 v6 s0 x1 m1
  else
  f_X12_appendToWay_97 H v0 v3 v4 v5 v6 s0 v8 m
set_option maxRecDepth 10000 in
theorem w_X12_appendToWay_68 {G : pm_G} {H : fm_H} {d : Nat} {z : Option Nat × Nat × Nat} {K : pm_R → fm_M → Prop} (hE : fm_E G H) {v0 : Nat} {v3 : Int32} {v4 : Int32} {v5 : Int32} {v6 : Int32} {v8 : Int32} (h0 : fm_is H v0 12) : ∀ (s0 : Int32) (m : fm_M), fm_o fm_rI (f_X12_appendToWay_68 H v0 v3 v4 v5 v6 v8 s0 m) K → fm_V G H (d + 4) RX12 cX12_appendToWay (some (.boolean)) z K 68 [some (.ref v0), none, none, some (.int v3), some (.int v4), some (.int v5), some (.int v6), none, some (.int v8)] [.int s0] m := by
  have T : fm_T RX12 cX12_appendToWay tc_X12_appendToWay fr_X12 mr_X12 cr_X12 lr_X12 := ⟨tok_X12, dc_X12_appendToWay⟩
  intro s0 m
  unfold f_X12_appendToWay_68
  refine fs_r T 3 73 [some (.ref v0), none, none, some (.int v3), some (.int v4), some (.int v5), some (.int v6), some (.int s0), some (.int v8)] [.int (-1 : Int32), .int s0] rfl ?_
  refine fs_ic_ne T 78 76 rfl rfl rfl (fun _ => ?_) (fun _ => ?_)
  · refine fs_r T 1 77 [some (.ref v0), none, none, some (.int v3), some (.int v4), some (.int v5), some (.int v6), some (.int s0), some (.int v8)] [.int (0 : Int32)] rfl ?_
    exact fs_retc T rfl rfl rfl rfl
  · refine fs_r T 2 81 [some (.ref v0), none, none, some (.int v3), some (.int v4), some (.int v5), some (.int v6), some (.int s0), some (.int v8)] [.int (-1 : Int32), .int v8] rfl ?_
    refine fs_ic_eq T 89 84 rfl rfl rfl (fun _ => ?_) (fun _ => ?_)
    · refine fs_r T 2 92 [some (.ref v0), none, none, some (.int v3), some (.int v4), some (.int v5), some (.int v6), some (.int s0), some (.int v8)] [.int s0, .ref v0] rfl ?_
      refine fs_vI T 95 rfl rfl rfl rfl rfl rfl h0 (q_X12_highestFree (d := d + 1) hE h0) ?_
      intro x1 m1
      refine fs_r T 1 97 [some (.ref v0), none, none, some (.int v3), some (.int v4), some (.int v5), some (.int v6), some (.int s0), some (.int x1)] [] rfl ?_
      exact w_X12_appendToWay_97 hE h0 _
    · refine fs_r T 3 97 [some (.ref v0), none, none, some (.int v3), some (.int v4), some (.int v5), some (.int v6), some (.int s0), some (.int v8)] [] rfl ?_
      exact w_X12_appendToWay_97 hE h0 _
def f_X12_appendToWay (H : fm_H) (v0 : Nat) (v1 : Int32) (v2 : Int32) (v3 : Int32) (v4 : Int32) (m : fm_M) : Option (Int32 × fm_M) :=
  fm_bn (f_X12_wayPlace H v1 v2 m) fun x1 m1 =>
  if px_inb x1 (fm_sz H (H.2.1 v0 0)) = true then
    if m1.1 (H.2.1 v0 0) x1.toNatClampNeg ≤ 0 then
      f_X12_appendToWay_97 H v0 v3 v4 x1 (m1.1 (H.2.1 v0 0) x1.toNatClampNeg) (-1 : Int32) (-1 : Int32) m1
    else
    fm_bn (f_X12_lowestFree H v0 v3 m1) fun x2 m2 =>
    if x2 = (-1 : Int32) then
      fm_bn (f_X12_countLabels H v0 v3 (1 : Int32) m2) fun x3 m3 =>
      if px_inb (0 : Int32) (fm_sz H (H.2.1 v0 0)) = true then
        if m3.1 (H.2.1 v0 0) (0 : Int32).toNatClampNeg ≤ x3 then
          f_X12_appendToWay_68 H v0 v3 v4 x1 (m1.1 (H.2.1 v0 0) x1.toNatClampNeg) x2 (-1 : Int32) m3
        else
        fm_bn (f_X12_lenderFor H v0 v3 m3) fun x4 m4 =>
        f_X12_appendToWay_68 H v0 v3 v4 x1 (m1.1 (H.2.1 v0 0) x1.toNatClampNeg) x2 x4 m4
      else none
    else
    f_X12_appendToWay_68 H v0 v3 v4 x1 (m1.1 (H.2.1 v0 0) x1.toNatClampNeg) x2 v3 m2
  else none
set_option maxRecDepth 10000 in
theorem q_X12_appendToWay {G : pm_G} {H : fm_H} {d : Nat} {z : Option Nat × Nat × Nat} {v0 : Nat} {v1 : Int32} {v2 : Int32} {v3 : Int32} {v4 : Int32} {m : fm_M} (hE : fm_E G H) (h0 : fm_is H v0 12) : fm_cal G H (d + 5) yX12_appendToWay [.ref v0, .int v1, .int v2, .int v3, .int v4] z m fm_rI (f_X12_appendToWay H v0 v1 v2 v3 v4 m) := fm_mth (d := d + 4) mt_X12_appendToWay rfl rfl rfl (fun K => by
  show fm_o fm_rI (f_X12_appendToWay H v0 v1 v2 v3 v4 m) K → fm_V G H (d + 4) RX12 cX12_appendToWay (some (.boolean)) z K 0 [some (.ref v0), some (.int v1), some (.int v2), some (.int v3), some (.int v4), none, none, none, none] [] m
  have T : fm_T RX12 cX12_appendToWay tc_X12_appendToWay fr_X12 mr_X12 cr_X12 lr_X12 := ⟨tok_X12, dc_X12_appendToWay⟩
  unfold f_X12_appendToWay
  refine fs_r T 2 2 [some (.ref v0), some (.int v1), some (.int v2), some (.int v3), some (.int v4), none, none, none, none] [.int v2, .int v1] rfl ?_
  refine fs_sI T 5 rfl rfl rfl rfl rfl rfl rfl (q_X12_wayPlace (d := d + 3) hE ) ?_
  intro x1 m1
  refine fs_r T 2 8 [some (.ref v0), some (.int v1), some (.int v2), some (.int v3), some (.int v4), some (.int x1), none, none, none] [.ref v0] rfl ?_
  refine fs_gs T 11 12 0 v0 rfl rfl rfl rfl h0 ?_
  refine fs_r T 1 13 [some (.ref v0), some (.int v1), some (.int v2), some (.int v3), some (.int v4), some (.int x1), none, none, none] [.int x1, .ref (H.2.1 v0 0)] rfl ?_
  refine fs_ai T 14 (H.2.1 v0 0) rfl rfl (hE.1 _ 12 0 h0) ?_
  refine fs_r T 6 24 [some (.ref v0), some (.int v1), some (.int v2), some (.int v3), some (.int v4), some (.int x1), some (.int (m1.1 (H.2.1 v0 0) x1.toNatClampNeg)), some (.int (-1 : Int32)), some (.int (-1 : Int32))] [.int (m1.1 (H.2.1 v0 0) x1.toNatClampNeg)] rfl ?_
  refine fs_if_le T 97 27 rfl rfl rfl (fun _ => ?_) (fun _ => ?_)
  · refine fs_wk (ls' := [some (.ref v0), none, none, some (.int v3), some (.int v4), some (.int x1), some (.int (m1.1 (H.2.1 v0 0) x1.toNatClampNeg)), some (.int (-1 : Int32)), some (.int (-1 : Int32))]) ⟨rfl, rfl, rfl, rfl, rfl, rfl, rfl, trivial⟩ ?_
    exact w_X12_appendToWay_97 hE h0 _
  · refine fs_r T 2 29 [some (.ref v0), some (.int v1), some (.int v2), some (.int v3), some (.int v4), some (.int x1), some (.int (m1.1 (H.2.1 v0 0) x1.toNatClampNeg)), some (.int (-1 : Int32)), some (.int (-1 : Int32))] [.int v3, .ref v0] rfl ?_
    refine fs_vI T 32 rfl rfl rfl rfl rfl rfl h0 (q_X12_lowestFree (d := d + 1) hE h0) ?_
    intro x2 m2
    refine fs_r T 3 37 [some (.ref v0), some (.int v1), some (.int v2), some (.int v3), some (.int v4), some (.int x1), some (.int (m1.1 (H.2.1 v0 0) x1.toNatClampNeg)), some (.int (-1 : Int32)), some (.int x2)] [.int (-1 : Int32), .int x2] rfl ?_
    refine fs_ic_eq T 44 40 rfl rfl rfl (fun _ => ?_) (fun _ => ?_)
    · refine fs_r T 3 47 [some (.ref v0), some (.int v1), some (.int v2), some (.int v3), some (.int v4), some (.int x1), some (.int (m1.1 (H.2.1 v0 0) x1.toNatClampNeg)), some (.int (-1 : Int32)), some (.int x2)] [.int (1 : Int32), .int v3, .ref v0] rfl ?_
      refine fs_vI T 50 rfl rfl rfl rfl rfl rfl h0 (q_X12_countLabels (d := d + 2) hE h0) ?_
      intro x3 m3
      refine fs_r T 1 51 [some (.ref v0), some (.int v1), some (.int v2), some (.int v3), some (.int v4), some (.int x1), some (.int (m1.1 (H.2.1 v0 0) x1.toNatClampNeg)), some (.int (-1 : Int32)), some (.int x2)] [.ref v0, .int x3] rfl ?_
      refine fs_gs T 54 12 0 v0 rfl rfl rfl rfl h0 ?_
      refine fs_r T 1 55 [some (.ref v0), some (.int v1), some (.int v2), some (.int v3), some (.int v4), some (.int x1), some (.int (m1.1 (H.2.1 v0 0) x1.toNatClampNeg)), some (.int (-1 : Int32)), some (.int x2)] [.int (0 : Int32), .ref (H.2.1 v0 0), .int x3] rfl ?_
      refine fs_ai T 56 (H.2.1 v0 0) rfl rfl (hE.1 _ 12 0 h0) ?_
      refine fs_ic_ge T 67 59 rfl rfl rfl (fun _ => ?_) (fun _ => ?_)
      · refine fs_r T 1 68 [some (.ref v0), some (.int v1), some (.int v2), some (.int v3), some (.int v4), some (.int x1), some (.int (m1.1 (H.2.1 v0 0) x1.toNatClampNeg)), some (.int (-1 : Int32)), some (.int x2)] [.int (-1 : Int32)] rfl ?_
        refine fs_wk (ls' := [some (.ref v0), none, none, some (.int v3), some (.int v4), some (.int x1), some (.int (m1.1 (H.2.1 v0 0) x1.toNatClampNeg)), none, some (.int x2)]) ⟨rfl, rfl, rfl, rfl, rfl, rfl, trivial⟩ ?_
        exact w_X12_appendToWay_68 hE h0 _ _
      · refine fs_r T 2 61 [some (.ref v0), some (.int v1), some (.int v2), some (.int v3), some (.int v4), some (.int x1), some (.int (m1.1 (H.2.1 v0 0) x1.toNatClampNeg)), some (.int (-1 : Int32)), some (.int x2)] [.int v3, .ref v0] rfl ?_
        refine fs_vI T 64 rfl rfl rfl rfl rfl rfl h0 (q_X12_lenderFor (d := d) hE h0) ?_
        intro x4 m4
        refine fs_r T 1 68 [some (.ref v0), some (.int v1), some (.int v2), some (.int v3), some (.int v4), some (.int x1), some (.int (m1.1 (H.2.1 v0 0) x1.toNatClampNeg)), some (.int (-1 : Int32)), some (.int x2)] [.int x4] rfl ?_
        refine fs_wk (ls' := [some (.ref v0), none, none, some (.int v3), some (.int v4), some (.int x1), some (.int (m1.1 (H.2.1 v0 0) x1.toNatClampNeg)), none, some (.int x2)]) ⟨rfl, rfl, rfl, rfl, rfl, rfl, trivial⟩ ?_
        exact w_X12_appendToWay_68 hE h0 _ _
    · refine fs_r T 2 68 [some (.ref v0), some (.int v1), some (.int v2), some (.int v3), some (.int v4), some (.int x1), some (.int (m1.1 (H.2.1 v0 0) x1.toNatClampNeg)), some (.int (-1 : Int32)), some (.int x2)] [.int v3] rfl ?_
      refine fs_wk (ls' := [some (.ref v0), none, none, some (.int v3), some (.int v4), some (.int x1), some (.int (m1.1 (H.2.1 v0 0) x1.toNatClampNeg)), none, some (.int x2)]) ⟨rfl, rfl, rfl, rfl, rfl, rfl, trivial⟩ ?_
      exact w_X12_appendToWay_68 hE h0 _ _)
def f_X12_canFollow_3 (H : fm_H) (v0 : Nat) (v1 : Int32) (v2 : Int32) (v3 : Int32) : Nat → Int32 → fm_M → Option (Int32 × fm_M)
  | 0, _, _ => none
  | n + 1, v4, m =>
    if v2 ≤ v4 then
      if v2 = 0 then
        some ((1 : Int32), m)
      else
      if px_inb (((v1 + (1 : Int32)) + v2) - (1 : Int32)) (fm_sz H (H.2.1 v0 0)) = true then
        fm_bn (f_X12_linkOf H v0 (m.1 (H.2.1 v0 0) (((v1 + (1 : Int32)) + v2) - (1 : Int32)).toNatClampNeg) v3 m) fun x1 m1 =>
        if x1 = (-1 : Int32) then
          some ((0 : Int32), m1)
        else
        some ((1 : Int32), m1)
      else none
    else
    if px_inb ((v1 + (1 : Int32)) + v4) (fm_sz H (H.2.1 v0 0)) = true then
      if m.1 (H.2.1 v0 0) ((v1 + (1 : Int32)) + v4).toNatClampNeg = v3 then
        some ((0 : Int32), m)
      else
      f_X12_canFollow_3 H v0 v1 v2 v3 n (v4 + 1) m
    else none
set_option maxRecDepth 10000 in
theorem w_X12_canFollow_3 {G : pm_G} {H : fm_H} {d : Nat} {z : Option Nat × Nat × Nat} {K : pm_R → fm_M → Prop} (hE : fm_E G H) {v0 : Nat} {v1 : Int32} {v2 : Int32} {v3 : Int32} (h0 : fm_is H v0 12) : ∀ (n : Nat) (v4 : Int32) (m : fm_M), fm_o fm_rI (f_X12_canFollow_3 H v0 v1 v2 v3 n v4 m) K → fm_V G H (d + 2) RX12 cX12_canFollow (some (.boolean)) z K 3 [some (.ref v0), some (.int v1), some (.int v2), some (.int v3), some (.int v4)] [] m := by
  have T : fm_T RX12 cX12_canFollow tc_X12_canFollow fr_X12 mr_X12 cr_X12 lr_X12 := ⟨tok_X12, dc_X12_canFollow⟩
  intro n
  induction n with
  | zero =>
    intro v4 m 
    exact fs_none
  | succ n ih =>
    intro v4 m 
    unfold f_X12_canFollow_3
    refine fs_r T 2 6 [some (.ref v0), some (.int v1), some (.int v2), some (.int v3), some (.int v4)] [.int v2, .int v4] rfl ?_
    refine fs_ic_ge T 32 9 rfl rfl rfl (fun _ => ?_) (fun _ => ?_)
    · refine fs_r T 1 33 [some (.ref v0), some (.int v1), some (.int v2), some (.int v3), some (.int v4)] [.int v2] rfl ?_
      refine fs_if_eq T 57 36 rfl rfl rfl (fun _ => ?_) (fun _ => ?_)
      · refine fs_r T 2 62 [some (.ref v0), some (.int v1), some (.int v2), some (.int v3), some (.int v4)] [.int (1 : Int32)] rfl ?_
        exact fs_retc T rfl rfl rfl rfl
      · refine fs_r T 2 38 [some (.ref v0), some (.int v1), some (.int v2), some (.int v3), some (.int v4)] [.ref v0, .ref v0] rfl ?_
        refine fs_gs T 41 12 0 v0 rfl rfl rfl rfl h0 ?_
        refine fs_r T 7 48 [some (.ref v0), some (.int v1), some (.int v2), some (.int v3), some (.int v4)] [.int (((v1 + (1 : Int32)) + v2) - (1 : Int32)), .ref (H.2.1 v0 0), .ref v0] rfl ?_
        refine fs_ai T 49 (H.2.1 v0 0) rfl rfl (hE.1 _ 12 0 h0) ?_
        refine fs_r T 1 50 [some (.ref v0), some (.int v1), some (.int v2), some (.int v3), some (.int v4)] [.int v3, .int (m.1 (H.2.1 v0 0) (((v1 + (1 : Int32)) + v2) - (1 : Int32)).toNatClampNeg), .ref v0] rfl ?_
        refine fs_vI T 53 rfl rfl rfl rfl rfl rfl h0 (q_X12_linkOf (d := d) hE h0) ?_
        intro x1 m1
        refine fs_r T 1 54 [some (.ref v0), some (.int v1), some (.int v2), some (.int v3), some (.int v4)] [.int (-1 : Int32), .int x1] rfl ?_
        refine fs_ic_eq T 61 57 rfl rfl rfl (fun _ => ?_) (fun _ => ?_)
        · refine fs_r T 1 62 [some (.ref v0), some (.int v1), some (.int v2), some (.int v3), some (.int v4)] [.int (0 : Int32)] rfl ?_
          exact fs_retc T rfl rfl rfl rfl
        · refine fs_r T 2 62 [some (.ref v0), some (.int v1), some (.int v2), some (.int v3), some (.int v4)] [.int (1 : Int32)] rfl ?_
          exact fs_retc T rfl rfl rfl rfl
    · refine fs_r T 1 10 [some (.ref v0), some (.int v1), some (.int v2), some (.int v3), some (.int v4)] [.ref v0] rfl ?_
      refine fs_gs T 13 12 0 v0 rfl rfl rfl rfl h0 ?_
      refine fs_r T 5 19 [some (.ref v0), some (.int v1), some (.int v2), some (.int v3), some (.int v4)] [.int ((v1 + (1 : Int32)) + v4), .ref (H.2.1 v0 0)] rfl ?_
      refine fs_ai T 20 (H.2.1 v0 0) rfl rfl (hE.1 _ 12 0 h0) ?_
      refine fs_r T 1 21 [some (.ref v0), some (.int v1), some (.int v2), some (.int v3), some (.int v4)] [.int v3, .int (m.1 (H.2.1 v0 0) ((v1 + (1 : Int32)) + v4).toNatClampNeg)] rfl ?_
      refine fs_ic_ne T 26 24 rfl rfl rfl (fun _ => ?_) (fun _ => ?_)
      · refine fs_r T 1 25 [some (.ref v0), some (.int v1), some (.int v2), some (.int v3), some (.int v4)] [.int (0 : Int32)] rfl ?_
        exact fs_retc T rfl rfl rfl rfl
      · refine fs_r T 2 3 [some (.ref v0), some (.int v1), some (.int v2), some (.int v3), some (.int (v4 + 1))] [] rfl ?_
        exact ih _ _
def f_X12_canFollow (H : fm_H) (v0 : Nat) (v1 : Int32) (v2 : Int32) (v3 : Int32) (m : fm_M) : Option (Int32 × fm_M) :=
  f_X12_canFollow_3 H v0 v1 v2 v3 fm_N (0 : Int32) m
set_option maxRecDepth 10000 in
theorem q_X12_canFollow {G : pm_G} {H : fm_H} {d : Nat} {z : Option Nat × Nat × Nat} {v0 : Nat} {v1 : Int32} {v2 : Int32} {v3 : Int32} {m : fm_M} (hE : fm_E G H) (h0 : fm_is H v0 12) : fm_cal G H (d + 3) yX12_canFollow [.ref v0, .int v1, .int v2, .int v3] z m fm_rI (f_X12_canFollow H v0 v1 v2 v3 m) := fm_mth (d := d + 2) mt_X12_canFollow rfl rfl rfl (fun K => by
  show fm_o fm_rI (f_X12_canFollow H v0 v1 v2 v3 m) K → fm_V G H (d + 2) RX12 cX12_canFollow (some (.boolean)) z K 0 [some (.ref v0), some (.int v1), some (.int v2), some (.int v3), none] [] m
  have T : fm_T RX12 cX12_canFollow tc_X12_canFollow fr_X12 mr_X12 cr_X12 lr_X12 := ⟨tok_X12, dc_X12_canFollow⟩
  unfold f_X12_canFollow
  refine fs_r T 2 3 [some (.ref v0), some (.int v1), some (.int v2), some (.int v3), some (.int (0 : Int32))] [] rfl ?_
  exact w_X12_canFollow_3 hE h0 _ _ _)
def f_X12_usesLink_2 (H : fm_H) (v0 : Nat) (v1 : Int32) (v2 : Int32) : Nat → Int32 → fm_M → Option (Int32 × fm_M)
  | 0, _, _ => none
  | n + 1, v3, m =>
    if px_inb v1 (fm_sz H (H.2.1 v0 0)) = true then
      if m.1 (H.2.1 v0 0) v1.toNatClampNeg ≤ v3 then
        some ((0 : Int32), m)
      else
      if px_inb (((v1 + (1 : Int32)) + v3) - (1 : Int32)) (fm_sz H (H.2.1 v0 0)) = true then
        if px_inb ((v1 + (1 : Int32)) + v3) (fm_sz H (H.2.1 v0 0)) = true then
          fm_bn (f_X12_linkOf H v0 (m.1 (H.2.1 v0 0) (((v1 + (1 : Int32)) + v3) - (1 : Int32)).toNatClampNeg) (m.1 (H.2.1 v0 0) ((v1 + (1 : Int32)) + v3).toNatClampNeg) m) fun x1 m1 =>
          if x1 = v2 then
            some ((1 : Int32), m1)
          else
          f_X12_usesLink_2 H v0 v1 v2 n (v3 + 1) m1
        else none
      else none
    else none
set_option maxRecDepth 10000 in
theorem w_X12_usesLink_2 {G : pm_G} {H : fm_H} {d : Nat} {z : Option Nat × Nat × Nat} {K : pm_R → fm_M → Prop} (hE : fm_E G H) {v0 : Nat} {v1 : Int32} {v2 : Int32} (h0 : fm_is H v0 12) : ∀ (n : Nat) (v3 : Int32) (m : fm_M), fm_o fm_rI (f_X12_usesLink_2 H v0 v1 v2 n v3 m) K → fm_V G H (d + 2) RX12 cX12_usesLink (some (.boolean)) z K 2 [some (.ref v0), some (.int v1), some (.int v2), some (.int v3)] [] m := by
  have T : fm_T RX12 cX12_usesLink tc_X12_usesLink fr_X12 mr_X12 cr_X12 lr_X12 := ⟨tok_X12, dc_X12_usesLink⟩
  intro n
  induction n with
  | zero =>
    intro v3 m 
    exact fs_none
  | succ n ih =>
    intro v3 m 
    unfold f_X12_usesLink_2
    refine fs_r T 2 4 [some (.ref v0), some (.int v1), some (.int v2), some (.int v3)] [.ref v0, .int v3] rfl ?_
    refine fs_gs T 7 12 0 v0 rfl rfl rfl rfl h0 ?_
    refine fs_r T 1 8 [some (.ref v0), some (.int v1), some (.int v2), some (.int v3)] [.int v1, .ref (H.2.1 v0 0), .int v3] rfl ?_
    refine fs_ai T 9 (H.2.1 v0 0) rfl rfl (hE.1 _ 12 0 h0) ?_
    refine fs_ic_ge T 50 12 rfl rfl rfl (fun _ => ?_) (fun _ => ?_)
    · refine fs_r T 1 51 [some (.ref v0), some (.int v1), some (.int v2), some (.int v3)] [.int (0 : Int32)] rfl ?_
      exact fs_retc T rfl rfl rfl rfl
    · refine fs_r T 2 14 [some (.ref v0), some (.int v1), some (.int v2), some (.int v3)] [.ref v0, .ref v0] rfl ?_
      refine fs_gs T 17 12 0 v0 rfl rfl rfl rfl h0 ?_
      refine fs_r T 7 24 [some (.ref v0), some (.int v1), some (.int v2), some (.int v3)] [.int (((v1 + (1 : Int32)) + v3) - (1 : Int32)), .ref (H.2.1 v0 0), .ref v0] rfl ?_
      refine fs_ai T 25 (H.2.1 v0 0) rfl rfl (hE.1 _ 12 0 h0) ?_
      refine fs_r T 1 26 [some (.ref v0), some (.int v1), some (.int v2), some (.int v3)] [.ref v0, .int (m.1 (H.2.1 v0 0) (((v1 + (1 : Int32)) + v3) - (1 : Int32)).toNatClampNeg), .ref v0] rfl ?_
      refine fs_gs T 29 12 0 v0 rfl rfl rfl rfl h0 ?_
      refine fs_r T 5 34 [some (.ref v0), some (.int v1), some (.int v2), some (.int v3)] [.int ((v1 + (1 : Int32)) + v3), .ref (H.2.1 v0 0), .int (m.1 (H.2.1 v0 0) (((v1 + (1 : Int32)) + v3) - (1 : Int32)).toNatClampNeg), .ref v0] rfl ?_
      refine fs_ai T 35 (H.2.1 v0 0) rfl rfl (hE.1 _ 12 0 h0) ?_
      refine fs_vI T 38 rfl rfl rfl rfl rfl rfl h0 (q_X12_linkOf (d := d) hE h0) ?_
      intro x1 m1
      refine fs_r T 1 39 [some (.ref v0), some (.int v1), some (.int v2), some (.int v3)] [.int v2, .int x1] rfl ?_
      refine fs_ic_ne T 44 42 rfl rfl rfl (fun _ => ?_) (fun _ => ?_)
      · refine fs_r T 1 43 [some (.ref v0), some (.int v1), some (.int v2), some (.int v3)] [.int (1 : Int32)] rfl ?_
        exact fs_retc T rfl rfl rfl rfl
      · refine fs_r T 2 2 [some (.ref v0), some (.int v1), some (.int v2), some (.int (v3 + 1))] [] rfl ?_
        exact ih _ _
def f_X12_usesLink (H : fm_H) (v0 : Nat) (v1 : Int32) (v2 : Int32) (m : fm_M) : Option (Int32 × fm_M) :=
  f_X12_usesLink_2 H v0 v1 v2 fm_N (1 : Int32) m
set_option maxRecDepth 10000 in
theorem q_X12_usesLink {G : pm_G} {H : fm_H} {d : Nat} {z : Option Nat × Nat × Nat} {v0 : Nat} {v1 : Int32} {v2 : Int32} {m : fm_M} (hE : fm_E G H) (h0 : fm_is H v0 12) : fm_cal G H (d + 3) yX12_usesLink [.ref v0, .int v1, .int v2] z m fm_rI (f_X12_usesLink H v0 v1 v2 m) := fm_mth (d := d + 2) mt_X12_usesLink rfl rfl rfl (fun K => by
  show fm_o fm_rI (f_X12_usesLink H v0 v1 v2 m) K → fm_V G H (d + 2) RX12 cX12_usesLink (some (.boolean)) z K 0 [some (.ref v0), some (.int v1), some (.int v2), none] [] m
  have T : fm_T RX12 cX12_usesLink tc_X12_usesLink fr_X12 mr_X12 cr_X12 lr_X12 := ⟨tok_X12, dc_X12_usesLink⟩
  unfold f_X12_usesLink
  refine fs_r T 2 2 [some (.ref v0), some (.int v1), some (.int v2), some (.int (1 : Int32))] [] rfl ?_
  exact w_X12_usesLink_2 hE h0 _ _ _)
def f_X12_reserved_65 (H : fm_H) (k5 : Int32 → Int32 → fm_M → Option (Int32 × fm_M)) (v0 : Nat) (v1 : Int32) (v2 : Int32) (v3 : Int32) (v4 : Int32) (s0 : Int32) (m : fm_M) : Option (Int32 × fm_M) :=
  if s0 = 0 then
    k5 (v3 + (0 : Int32)) (v4 + 1) m
  else
  fm_bn (f_X12_of H v0 v4 (0 : Int32) m) fun x1 m1 =>
  k5 (v3 + x1) (v4 + 1) m1
set_option maxRecDepth 10000 in
theorem w_X12_reserved_65 {G : pm_G} {H : fm_H} {d : Nat} {z : Option Nat × Nat × Nat} {K : pm_R → fm_M → Prop} (hE : fm_E G H) {k5 : Int32 → Int32 → fm_M → Option (Int32 × fm_M)} {v0 : Nat} {v1 : Int32} {v2 : Int32} {v3 : Int32} {v4 : Int32} (Hk5 : ∀ (v3 : Int32) (v4 : Int32) (m : fm_M), fm_o fm_rI (k5 v3 v4 m) K → fm_V G H (d + 3) RX12 cX12_reserved (some (.int)) z K 5 [some (.ref v0), some (.int v1), some (.int v2), some (.int v3), some (.int v4), none] [] m) (h0 : fm_is H v0 12) : ∀ (s0 : Int32) (m : fm_M), fm_o fm_rI (f_X12_reserved_65 H k5 v0 v1 v2 v3 v4 s0 m) K → fm_V G H (d + 3) RX12 cX12_reserved (some (.int)) z K 65 [some (.ref v0), some (.int v1), some (.int v2), some (.int v3), some (.int v4), none] [.int s0] m := by
  have T : fm_T RX12 cX12_reserved tc_X12_reserved fr_X12 mr_X12 cr_X12 lr_X12 := ⟨tok_X12, dc_X12_reserved⟩
  intro s0 m
  unfold f_X12_reserved_65
  refine fs_r T 3 70 [some (.ref v0), some (.int v1), some (.int v2), some (.int v3), some (.int v4), some (.int s0)] [.int s0, .int v3] rfl ?_
  refine fs_if_eq T 83 73 rfl rfl rfl (fun _ => ?_) (fun _ => ?_)
  · refine fs_r T 5 5 [some (.ref v0), some (.int v1), some (.int v2), some (.int (v3 + (0 : Int32))), some (.int (v4 + 1)), some (.int s0)] [] rfl ?_
    refine fs_wk (ls' := [some (.ref v0), some (.int v1), some (.int v2), some (.int (v3 + (0 : Int32))), some (.int (v4 + 1)), none]) ⟨rfl, rfl, rfl, rfl, rfl, trivial⟩ ?_
    exact Hk5 _ _ _
  · refine fs_r T 3 77 [some (.ref v0), some (.int v1), some (.int v2), some (.int v3), some (.int v4), some (.int s0)] [.int (0 : Int32), .int v4, .ref v0, .int v3] rfl ?_
    refine fs_vI T 80 rfl rfl rfl rfl rfl rfl h0 (q_X12_of (d := d + 2) hE h0) ?_
    intro x1 m1
    refine fs_r T 5 5 [some (.ref v0), some (.int v1), some (.int v2), some (.int (v3 + x1)), some (.int (v4 + 1)), some (.int s0)] [] rfl ?_
    refine fs_wk (ls' := [some (.ref v0), some (.int v1), some (.int v2), some (.int (v3 + x1)), some (.int (v4 + 1)), none]) ⟨rfl, rfl, rfl, rfl, rfl, trivial⟩ ?_
    exact Hk5 _ _ _
def f_X12_reserved_5 (H : fm_H) (v0 : Nat) (v1 : Int32) (v2 : Int32) : Nat → Int32 → Int32 → fm_M → Option (Int32 × fm_M)
  | 0, _, _, _ => none
  | n + 1, v3, v4, m =>
    if px_inb (4 : Int32) (fm_sz H (H.2.1 v0 0)) = true then
      if m.1 (H.2.1 v0 0) (4 : Int32).toNatClampNeg ≤ v4 then
        some (v3, m)
      else
      if v4 = v2 then
        f_X12_reserved_65 H (f_X12_reserved_5 H v0 v1 v2 n) v0 v1 v2 v3 v4 (0 : Int32) m
      else
      fm_bn (f_X12_wayPlace H v4 (0 : Int32) m) fun x1 m1 =>
      fm_bn (f_X12_usesLink H v0 x1 v1 m1) fun x2 m2 =>
      if x2 = 0 then
        fm_bn (f_X12_of H v0 v4 (2 : Int32) m2) fun x3 m3 =>
        if x3 ≤ 0 then
          f_X12_reserved_65 H (f_X12_reserved_5 H v0 v1 v2 n) v0 v1 v2 v3 v4 (0 : Int32) m3
        else
        fm_bn (f_X12_wayPlace H v4 (1 : Int32) m3) fun x4 m4 =>
        fm_bn (f_X12_usesLink H v0 x4 v1 m4) fun x5 m5 =>
        if x5 = 0 then
          f_X12_reserved_65 H (f_X12_reserved_5 H v0 v1 v2 n) v0 v1 v2 v3 v4 (0 : Int32) m5
        else
        f_X12_reserved_65 H (f_X12_reserved_5 H v0 v1 v2 n) v0 v1 v2 v3 v4 (1 : Int32) m5
      else
      f_X12_reserved_65 H (f_X12_reserved_5 H v0 v1 v2 n) v0 v1 v2 v3 v4 (1 : Int32) m2
    else none
set_option maxRecDepth 10000 in
theorem w_X12_reserved_5 {G : pm_G} {H : fm_H} {d : Nat} {z : Option Nat × Nat × Nat} {K : pm_R → fm_M → Prop} (hE : fm_E G H) {v0 : Nat} {v1 : Int32} {v2 : Int32} (h0 : fm_is H v0 12) : ∀ (n : Nat) (v3 : Int32) (v4 : Int32) (m : fm_M), fm_o fm_rI (f_X12_reserved_5 H v0 v1 v2 n v3 v4 m) K → fm_V G H (d + 3) RX12 cX12_reserved (some (.int)) z K 5 [some (.ref v0), some (.int v1), some (.int v2), some (.int v3), some (.int v4), none] [] m := by
  have T : fm_T RX12 cX12_reserved tc_X12_reserved fr_X12 mr_X12 cr_X12 lr_X12 := ⟨tok_X12, dc_X12_reserved⟩
  intro n
  induction n with
  | zero =>
    intro v3 v4 m 
    exact fs_none
  | succ n ih =>
    intro v3 v4 m 
    unfold f_X12_reserved_5
    refine fs_r T 2 8 [some (.ref v0), some (.int v1), some (.int v2), some (.int v3), some (.int v4), none] [.ref v0, .int v4] rfl ?_
    refine fs_gs T 11 12 0 v0 rfl rfl rfl rfl h0 ?_
    refine fs_r T 1 12 [some (.ref v0), some (.int v1), some (.int v2), some (.int v3), some (.int v4), none] [.int (4 : Int32), .ref (H.2.1 v0 0), .int v4] rfl ?_
    refine fs_ai T 13 (H.2.1 v0 0) rfl rfl (hE.1 _ 12 0 h0) ?_
    refine fs_ic_ge T 92 16 rfl rfl rfl (fun _ => ?_) (fun _ => ?_)
    · refine fs_r T 1 93 [some (.ref v0), some (.int v1), some (.int v2), some (.int v3), some (.int v4), none] [.int v3] rfl ?_
      exact fs_reti T rfl rfl rfl
    · refine fs_r T 2 19 [some (.ref v0), some (.int v1), some (.int v2), some (.int v3), some (.int v4), none] [.int v2, .int v4] rfl ?_
      refine fs_ic_eq T 64 22 rfl rfl rfl (fun _ => ?_) (fun _ => ?_)
      · refine fs_r T 1 65 [some (.ref v0), some (.int v1), some (.int v2), some (.int v3), some (.int v4), none] [.int (0 : Int32)] rfl ?_
        exact w_X12_reserved_65 hE ih h0 _ _
      · refine fs_r T 3 26 [some (.ref v0), some (.int v1), some (.int v2), some (.int v3), some (.int v4), none] [.int (0 : Int32), .int v4, .ref v0] rfl ?_
        refine fs_sI T 29 rfl rfl rfl rfl rfl rfl rfl (q_X12_wayPlace (d := d + 2) hE ) ?_
        intro x1 m1
        refine fs_r T 1 30 [some (.ref v0), some (.int v1), some (.int v2), some (.int v3), some (.int v4), none] [.int v1, .int x1, .ref v0] rfl ?_
        refine fs_vI T 33 rfl rfl rfl rfl rfl rfl h0 (q_X12_usesLink (d := d) hE h0) ?_
        intro x2 m2
        refine fs_if_ne T 60 36 rfl rfl rfl (fun _ => ?_) (fun _ => ?_)
        · refine fs_r T 3 40 [some (.ref v0), some (.int v1), some (.int v2), some (.int v3), some (.int v4), none] [.int (2 : Int32), .int v4, .ref v0] rfl ?_
          refine fs_vI T 43 rfl rfl rfl rfl rfl rfl h0 (q_X12_of (d := d + 2) hE h0) ?_
          intro x3 m3
          refine fs_if_le T 64 46 rfl rfl rfl (fun _ => ?_) (fun _ => ?_)
          · refine fs_r T 1 65 [some (.ref v0), some (.int v1), some (.int v2), some (.int v3), some (.int v4), none] [.int (0 : Int32)] rfl ?_
            exact w_X12_reserved_65 hE ih h0 _ _
          · refine fs_r T 3 50 [some (.ref v0), some (.int v1), some (.int v2), some (.int v3), some (.int v4), none] [.int (1 : Int32), .int v4, .ref v0] rfl ?_
            refine fs_sI T 53 rfl rfl rfl rfl rfl rfl rfl (q_X12_wayPlace (d := d + 2) hE ) ?_
            intro x4 m4
            refine fs_r T 1 54 [some (.ref v0), some (.int v1), some (.int v2), some (.int v3), some (.int v4), none] [.int v1, .int x4, .ref v0] rfl ?_
            refine fs_vI T 57 rfl rfl rfl rfl rfl rfl h0 (q_X12_usesLink (d := d) hE h0) ?_
            intro x5 m5
            refine fs_if_eq T 64 60 rfl rfl rfl (fun _ => ?_) (fun _ => ?_)
            · refine fs_r T 1 65 [some (.ref v0), some (.int v1), some (.int v2), some (.int v3), some (.int v4), none] [.int (0 : Int32)] rfl ?_
              exact w_X12_reserved_65 hE ih h0 _ _
            · refine fs_r T 2 65 [some (.ref v0), some (.int v1), some (.int v2), some (.int v3), some (.int v4), none] [.int (1 : Int32)] rfl ?_
              exact w_X12_reserved_65 hE ih h0 _ _
        · refine fs_r T 2 65 [some (.ref v0), some (.int v1), some (.int v2), some (.int v3), some (.int v4), none] [.int (1 : Int32)] rfl ?_
          exact w_X12_reserved_65 hE ih h0 _ _
def f_X12_reserved (H : fm_H) (v0 : Nat) (v1 : Int32) (v2 : Int32) (m : fm_M) : Option (Int32 × fm_M) :=
  f_X12_reserved_5 H v0 v1 v2 fm_N (0 : Int32) (0 : Int32) m
set_option maxRecDepth 10000 in
theorem q_X12_reserved {G : pm_G} {H : fm_H} {d : Nat} {z : Option Nat × Nat × Nat} {v0 : Nat} {v1 : Int32} {v2 : Int32} {m : fm_M} (hE : fm_E G H) (h0 : fm_is H v0 12) : fm_cal G H (d + 4) yX12_reserved [.ref v0, .int v1, .int v2] z m fm_rI (f_X12_reserved H v0 v1 v2 m) := fm_mth (d := d + 3) mt_X12_reserved rfl rfl rfl (fun K => by
  show fm_o fm_rI (f_X12_reserved H v0 v1 v2 m) K → fm_V G H (d + 3) RX12 cX12_reserved (some (.int)) z K 0 [some (.ref v0), some (.int v1), some (.int v2), none, none, none] [] m
  have T : fm_T RX12 cX12_reserved tc_X12_reserved fr_X12 mr_X12 cr_X12 lr_X12 := ⟨tok_X12, dc_X12_reserved⟩
  unfold f_X12_reserved
  refine fs_r T 4 5 [some (.ref v0), some (.int v1), some (.int v2), some (.int (0 : Int32)), some (.int (0 : Int32)), none] [] rfl ?_
  exact w_X12_reserved_5 hE h0 _ _ _ _)
