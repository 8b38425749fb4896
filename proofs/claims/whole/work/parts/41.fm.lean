/-! functions out of the code -/
def f_X12_clearDraft (H : fm_H) (v0 : Nat) (m : fm_M) : Option (Int32 × fm_M) :=
  fm_bd (fm_si m v0 7 (0 : Int32)) fun m1 =>
  fm_bd (fm_si m1 v0 6 (0 : Int32)) fun m2 =>
  some (m1.1 v0 6, m2)
set_option maxRecDepth 10000 in
theorem q_X12_clearDraft {G : pm_G} {H : fm_H} {d : Nat} {z : Option Nat × Nat × Nat} {v0 : Nat} {m : fm_M} (hE : fm_E G H) (h0 : fm_is H v0 12) : fm_cal G H (d + 1) yX12_clearDraft [.ref v0] z m fm_rI (f_X12_clearDraft H v0 m) := fm_mth (d := d + 0) mt_X12_clearDraft rfl rfl rfl (fun K => by
  show fm_o fm_rI (f_X12_clearDraft H v0 m) K → fm_V G H (d + 0) RX12 cX12_clearDraft (some (.int)) z K 0 [some (.ref v0), none] [] m
  have T : fm_T RX12 cX12_clearDraft tc_X12_clearDraft fr_X12 mr_X12 cr_X12 lr_X12 := ⟨tok_X12, dc_X12_clearDraft⟩
  unfold f_X12_clearDraft
  refine fs_r T 2 2 [some (.ref v0), none] [.int (0 : Int32), .ref v0] rfl ?_
  refine fs_pi T 5 12 7 v0 rfl rfl rfl rfl h0 ?_
  intro m1
  refine fs_r T 1 6 [some (.ref v0), none] [.ref v0] rfl ?_
  refine fs_gi T 9 12 6 v0 rfl rfl rfl rfl h0 ?_
  refine fs_r T 3 12 [some (.ref v0), some (.int (m1.1 v0 6))] [.int (0 : Int32), .ref v0] rfl ?_
  refine fs_pi T 15 12 6 v0 rfl rfl rfl rfl h0 ?_
  intro m2
  refine fs_r T 1 16 [some (.ref v0), some (.int (m1.1 v0 6))] [.int (m1.1 v0 6)] rfl ?_
  exact fs_reti T rfl rfl rfl)
def f_X12_isTried_2 (H : fm_H) (v0 : Nat) (v1 : Int32) : Nat → Int32 → fm_M → Option (Int32 × fm_M)
  | 0, _, _ => none
  | n + 1, v2, m =>
    if m.1 v0 24 ≤ v2 then
      some ((0 : Int32), m)
    else
    if px_inb v2 (fm_sz H (H.2.1 v0 21)) = true then
      if m.1 (H.2.1 v0 21) v2.toNatClampNeg = v1 then
        some ((1 : Int32), m)
      else
      f_X12_isTried_2 H v0 v1 n (v2 + 1) m
    else none
set_option maxRecDepth 10000 in
theorem w_X12_isTried_2 {G : pm_G} {H : fm_H} {d : Nat} {z : Option Nat × Nat × Nat} {K : pm_R → fm_M → Prop} (hE : fm_E G H) {v0 : Nat} {v1 : Int32} (h0 : fm_is H v0 12) : ∀ (n : Nat) (v2 : Int32) (m : fm_M), fm_o fm_rI (f_X12_isTried_2 H v0 v1 n v2 m) K → fm_V G H (d + 0) RX12 cX12_isTried (some (.boolean)) z K 2 [some (.ref v0), some (.int v1), some (.int v2)] [] m := by
  have T : fm_T RX12 cX12_isTried tc_X12_isTried fr_X12 mr_X12 cr_X12 lr_X12 := ⟨tok_X12, dc_X12_isTried⟩
  intro n
  induction n with
  | zero =>
    intro v2 m 
    exact fs_none
  | succ n ih =>
    intro v2 m 
    unfold f_X12_isTried_2
    refine fs_r T 2 4 [some (.ref v0), some (.int v1), some (.int v2)] [.ref v0, .int v2] rfl ?_
    refine fs_gi T 7 12 24 v0 rfl rfl rfl rfl h0 ?_
    refine fs_ic_ge T 28 10 rfl rfl rfl (fun _ => ?_) (fun _ => ?_)
    · refine fs_r T 1 29 [some (.ref v0), some (.int v1), some (.int v2)] [.int (0 : Int32)] rfl ?_
      exact fs_retc T rfl rfl rfl rfl
    · refine fs_r T 1 11 [some (.ref v0), some (.int v1), some (.int v2)] [.ref v0] rfl ?_
      refine fs_gs T 14 12 21 v0 rfl rfl rfl rfl h0 ?_
      refine fs_r T 1 15 [some (.ref v0), some (.int v1), some (.int v2)] [.int v2, .ref (H.2.1 v0 21)] rfl ?_
      refine fs_ai T 16 (H.2.1 v0 21) rfl rfl (hE.1 _ 12 21 h0) ?_
      refine fs_r T 1 17 [some (.ref v0), some (.int v1), some (.int v2)] [.int v1, .int (m.1 (H.2.1 v0 21) v2.toNatClampNeg)] rfl ?_
      refine fs_ic_ne T 22 20 rfl rfl rfl (fun _ => ?_) (fun _ => ?_)
      · refine fs_r T 1 21 [some (.ref v0), some (.int v1), some (.int v2)] [.int (1 : Int32)] rfl ?_
        exact fs_retc T rfl rfl rfl rfl
      · refine fs_r T 2 2 [some (.ref v0), some (.int v1), some (.int (v2 + 1))] [] rfl ?_
        exact ih _ _
def f_X12_isTried (H : fm_H) (v0 : Nat) (v1 : Int32) (m : fm_M) : Option (Int32 × fm_M) :=
  f_X12_isTried_2 H v0 v1 fm_N (0 : Int32) m
set_option maxRecDepth 10000 in
theorem q_X12_isTried {G : pm_G} {H : fm_H} {d : Nat} {z : Option Nat × Nat × Nat} {v0 : Nat} {v1 : Int32} {m : fm_M} (hE : fm_E G H) (h0 : fm_is H v0 12) : fm_cal G H (d + 1) yX12_isTried [.ref v0, .int v1] z m fm_rI (f_X12_isTried H v0 v1 m) := fm_mth (d := d + 0) mt_X12_isTried rfl rfl rfl (fun K => by
  show fm_o fm_rI (f_X12_isTried H v0 v1 m) K → fm_V G H (d + 0) RX12 cX12_isTried (some (.boolean)) z K 0 [some (.ref v0), some (.int v1), none] [] m
  have T : fm_T RX12 cX12_isTried tc_X12_isTried fr_X12 mr_X12 cr_X12 lr_X12 := ⟨tok_X12, dc_X12_isTried⟩
  unfold f_X12_isTried
  refine fs_r T 2 2 [some (.ref v0), some (.int v1), some (.int (0 : Int32))] [] rfl ?_
  exact w_X12_isTried_2 hE h0 _ _ _)
def f_X12_dropTried (H : fm_H) (v0 : Nat) (m : fm_M) : Option (Unit × fm_M) :=
  fm_bd (fm_si m v0 24 (m.1 v0 24 - (1 : Int32))) fun m1 =>
  if m1.1 v0 24 ≤ 0 then
    some ((), m1)
  else
  if px_inb (m1.1 v0 24 - (1 : Int32)) (fm_sz H (H.2.1 v0 21)) = true then
    if px_inb (m1.1 v0 24) (fm_sz H (H.2.1 v0 21)) = true then
      fm_bn (f_X12_linkOf H v0 (m1.1 (H.2.1 v0 21) (m1.1 v0 24 - (1 : Int32)).toNatClampNeg) (m1.1 (H.2.1 v0 21) (m1.1 v0 24).toNatClampNeg) m1) fun x1 m2 =>
      fm_bn (f_X12_ofLink H v0 x1 (3 : Int32) m2) fun x2 m3 =>
      fm_bd (fm_si m3 v0 25 (m1.1 v0 25 - x2)) fun m4 =>
      some ((), m4)
    else none
  else none
set_option maxRecDepth 10000 in
theorem q_X12_dropTried {G : pm_G} {H : fm_H} {d : Nat} {z : Option Nat × Nat × Nat} {v0 : Nat} {m : fm_M} (hE : fm_E G H) (h0 : fm_is H v0 12) : fm_cal G H (d + 3) yX12_dropTried [.ref v0] z m fm_rV (f_X12_dropTried H v0 m) := fm_mth (d := d + 2) mt_X12_dropTried rfl rfl rfl (fun K => by
  show fm_o fm_rV (f_X12_dropTried H v0 m) K → fm_V G H (d + 2) RX12 cX12_dropTried none z K 0 [some (.ref v0)] [] m
  have T : fm_T RX12 cX12_dropTried tc_X12_dropTried fr_X12 mr_X12 cr_X12 lr_X12 := ⟨tok_X12, dc_X12_dropTried⟩
  unfold f_X12_dropTried
  refine fs_r T 2 2 [some (.ref v0)] [.ref v0, .ref v0] rfl ?_
  refine fs_gi T 5 12 24 v0 rfl rfl rfl rfl h0 ?_
  refine fs_r T 2 7 [some (.ref v0)] [.int (m.1 v0 24 - (1 : Int32)), .ref v0] rfl ?_
  refine fs_pi T 10 12 24 v0 rfl rfl rfl rfl h0 ?_
  intro m1
  refine fs_r T 1 11 [some (.ref v0)] [.ref v0] rfl ?_
  refine fs_gi T 14 12 24 v0 rfl rfl rfl rfl h0 ?_
  refine fs_if_le T 55 17 rfl rfl rfl (fun _ => ?_) (fun _ => ?_)
  · exact fs_retv T rfl rfl rfl
  · refine fs_r T 2 19 [some (.ref v0)] [.ref v0, .ref v0] rfl ?_
    refine fs_gi T 22 12 25 v0 rfl rfl rfl rfl h0 ?_
    refine fs_r T 3 25 [some (.ref v0)] [.ref v0, .ref v0, .ref v0, .int (m1.1 v0 25), .ref v0] rfl ?_
    refine fs_gs T 28 12 21 v0 rfl rfl rfl rfl h0 ?_
    refine fs_r T 1 29 [some (.ref v0)] [.ref v0, .ref (H.2.1 v0 21), .ref v0, .ref v0, .int (m1.1 v0 25), .ref v0] rfl ?_
    refine fs_gi T 32 12 24 v0 rfl rfl rfl rfl h0 ?_
    refine fs_r T 2 34 [some (.ref v0)] [.int (m1.1 v0 24 - (1 : Int32)), .ref (H.2.1 v0 21), .ref v0, .ref v0, .int (m1.1 v0 25), .ref v0] rfl ?_
    refine fs_ai T 35 (H.2.1 v0 21) rfl rfl (hE.1 _ 12 21 h0) ?_
    refine fs_r T 1 36 [some (.ref v0)] [.ref v0, .int (m1.1 (H.2.1 v0 21) (m1.1 v0 24 - (1 : Int32)).toNatClampNeg), .ref v0, .ref v0, .int (m1.1 v0 25), .ref v0] rfl ?_
    refine fs_gs T 39 12 21 v0 rfl rfl rfl rfl h0 ?_
    refine fs_r T 1 40 [some (.ref v0)] [.ref v0, .ref (H.2.1 v0 21), .int (m1.1 (H.2.1 v0 21) (m1.1 v0 24 - (1 : Int32)).toNatClampNeg), .ref v0, .ref v0, .int (m1.1 v0 25), .ref v0] rfl ?_
    refine fs_gi T 43 12 24 v0 rfl rfl rfl rfl h0 ?_
    refine fs_ai T 44 (H.2.1 v0 21) rfl rfl (hE.1 _ 12 21 h0) ?_
    refine fs_vI T 47 rfl rfl rfl rfl rfl rfl h0 (q_X12_linkOf (d := d) hE h0) ?_
    intro x1 m2
    refine fs_r T 1 48 [some (.ref v0)] [.int (3 : Int32), .int x1, .ref v0, .int (m1.1 v0 25), .ref v0] rfl ?_
    refine fs_vI T 51 rfl rfl rfl rfl rfl rfl h0 (q_X12_ofLink (d := d + 1) hE h0) ?_
    intro x2 m3
    refine fs_r T 1 52 [some (.ref v0)] [.int (m1.1 v0 25 - x2), .ref v0] rfl ?_
    refine fs_pi T 55 12 25 v0 rfl rfl rfl rfl h0 ?_
    intro m4
    exact fs_retv T rfl rfl rfl)
def f_X12_compareTried_52 (H : fm_H) (v0 : Nat) : Nat → Int32 → fm_M → Option (Unit × fm_M)
  | 0, _, _ => none
  | n + 1, v2, m =>
    if m.1 v0 24 ≤ v2 then
      fm_bd (fm_si m v0 26 (m.1 v0 24)) fun m1 =>
      fm_bd (fm_si m1 v0 27 (m1.1 v0 25)) fun m2 =>
      some ((), m2)
    else
    if px_inb v2 (fm_sz H (H.2.1 v0 21)) = true then
      if px_inb v2 (fm_sz H (H.2.1 v0 22)) = true then
        (fm_bd (fm_si m (H.2.1 v0 22) v2.toNatClampNeg (m.1 (H.2.1 v0 21) v2.toNatClampNeg)) fun m3 =>
        f_X12_compareTried_52 H v0 n (v2 + 1) m3)
      else none
    else none
set_option maxRecDepth 10000 in
theorem w_X12_compareTried_52 {G : pm_G} {H : fm_H} {d : Nat} {z : Option Nat × Nat × Nat} {K : pm_R → fm_M → Prop} (hE : fm_E G H) {v0 : Nat} (h0 : fm_is H v0 12) : ∀ (n : Nat) (v2 : Int32) (m : fm_M), fm_o fm_rV (f_X12_compareTried_52 H v0 n v2 m) K → fm_V G H (d + 0) RX12 cX12_compareTried none z K 52 [some (.ref v0), none, some (.int v2)] [] m := by
  have T : fm_T RX12 cX12_compareTried tc_X12_compareTried fr_X12 mr_X12 cr_X12 lr_X12 := ⟨tok_X12, dc_X12_compareTried⟩
  intro n
  induction n with
  | zero =>
    intro v2 m 
    exact fs_none
  | succ n ih =>
    intro v2 m 
    unfold f_X12_compareTried_52
    refine fs_r T 2 54 [some (.ref v0), none, some (.int v2)] [.ref v0, .int v2] rfl ?_
    refine fs_gi T 57 12 24 v0 rfl rfl rfl rfl h0 ?_
    refine fs_ic_ge T 78 60 rfl rfl rfl (fun _ => ?_) (fun _ => ?_)
    · refine fs_r T 2 80 [some (.ref v0), none, some (.int v2)] [.ref v0, .ref v0] rfl ?_
      refine fs_gi T 83 12 24 v0 rfl rfl rfl rfl h0 ?_
      refine fs_pi T 86 12 26 v0 rfl rfl rfl rfl h0 ?_
      intro m1
      refine fs_r T 2 88 [some (.ref v0), none, some (.int v2)] [.ref v0, .ref v0] rfl ?_
      refine fs_gi T 91 12 25 v0 rfl rfl rfl rfl h0 ?_
      refine fs_pi T 94 12 27 v0 rfl rfl rfl rfl h0 ?_
      intro m2
      exact fs_retv T rfl rfl rfl
    · refine fs_r T 1 61 [some (.ref v0), none, some (.int v2)] [.ref v0] rfl ?_
      refine fs_gs T 64 12 22 v0 rfl rfl rfl rfl h0 ?_
      refine fs_r T 2 66 [some (.ref v0), none, some (.int v2)] [.ref v0, .int v2, .ref (H.2.1 v0 22)] rfl ?_
      refine fs_gs T 69 12 21 v0 rfl rfl rfl rfl h0 ?_
      refine fs_r T 1 70 [some (.ref v0), none, some (.int v2)] [.int v2, .ref (H.2.1 v0 21), .int v2, .ref (H.2.1 v0 22)] rfl ?_
      refine fs_ai T 71 (H.2.1 v0 21) rfl rfl (hE.1 _ 12 21 h0) ?_
      refine fs_si T 72 (H.2.1 v0 22) rfl rfl (hE.1 _ 12 22 h0) ?_
      intro m3
      refine fs_r T 2 52 [some (.ref v0), none, some (.int (v2 + 1))] [] rfl ?_
      exact ih _ _
def f_X12_compareTried_40 (H : fm_H) (v0 : Nat) (m : fm_M) : Option (Unit × fm_M) :=
  if (1 : Int32) = 0 then
    some ((), m)
  else
  f_X12_compareTried_52 H v0 fm_N (0 : Int32) m
set_option maxRecDepth 10000 in
theorem w_X12_compareTried_40 {G : pm_G} {H : fm_H} {d : Nat} {z : Option Nat × Nat × Nat} {K : pm_R → fm_M → Prop} (hE : fm_E G H) {v0 : Nat} (h0 : fm_is H v0 12) : ∀ (m : fm_M), fm_o fm_rV (f_X12_compareTried_40 H v0 m) K → fm_V G H (d + 0) RX12 cX12_compareTried none z K 40 [some (.ref v0), none, none] [] m := by
  have T : fm_T RX12 cX12_compareTried tc_X12_compareTried fr_X12 mr_X12 cr_X12 lr_X12 := ⟨tok_X12, dc_X12_compareTried⟩
  intro m
  unfold f_X12_compareTried_40
  refine fs_r T 4 47 [some (.ref v0), some (.int (1 : Int32)), none] [.int (1 : Int32)] rfl ?_
  refine fs_if_eq T 94 50 rfl rfl rfl (fun _ => ?_) (fun _ => ?_)
  · exact fs_retv T rfl rfl rfl
  · refine fs_r T 2 52 [some (.ref v0), some (.int (1 : Int32)), some (.int (0 : Int32))] [] rfl ?_
    refine fs_wk (ls' := [some (.ref v0), none, some (.int (0 : Int32))]) ⟨rfl, rfl, trivial⟩ ?_
    exact w_X12_compareTried_52 hE h0 _ _ _
def f_X12_compareTried (H : fm_H) (v0 : Nat) (m : fm_M) : Option (Unit × fm_M) :=
  if m.1 v0 26 = 0 then
    f_X12_compareTried_40 H v0 m
  else
  if m.1 v0 25 < m.1 v0 27 then
    f_X12_compareTried_40 H v0 m
  else
  if m.1 v0 25 = m.1 v0 27 then
    if m.1 v0 26 ≤ m.1 v0 24 then
      if (0 : Int32) = 0 then
        some ((), m)
      else
      f_X12_compareTried_52 H v0 fm_N (0 : Int32) m
    else
    f_X12_compareTried_40 H v0 m
  else
  if (0 : Int32) = 0 then
    some ((), m)
  else
  f_X12_compareTried_52 H v0 fm_N (0 : Int32) m
set_option maxRecDepth 10000 in
theorem q_X12_compareTried {G : pm_G} {H : fm_H} {d : Nat} {z : Option Nat × Nat × Nat} {v0 : Nat} {m : fm_M} (hE : fm_E G H) (h0 : fm_is H v0 12) : fm_cal G H (d + 1) yX12_compareTried [.ref v0] z m fm_rV (f_X12_compareTried H v0 m) := fm_mth (d := d + 0) mt_X12_compareTried rfl rfl rfl (fun K => by
  show fm_o fm_rV (f_X12_compareTried H v0 m) K → fm_V G H (d + 0) RX12 cX12_compareTried none z K 0 [some (.ref v0), none, none] [] m
  have T : fm_T RX12 cX12_compareTried tc_X12_compareTried fr_X12 mr_X12 cr_X12 lr_X12 := ⟨tok_X12, dc_X12_compareTried⟩
  unfold f_X12_compareTried
  refine fs_r T 1 1 [some (.ref v0), none, none] [.ref v0] rfl ?_
  refine fs_gi T 4 12 26 v0 rfl rfl rfl rfl h0 ?_
  refine fs_if_eq T 40 7 rfl rfl rfl (fun _ => ?_) (fun _ => ?_)
  · exact w_X12_compareTried_40 hE h0 _
  · refine fs_r T 1 8 [some (.ref v0), none, none] [.ref v0] rfl ?_
    refine fs_gi T 11 12 25 v0 rfl rfl rfl rfl h0 ?_
    refine fs_r T 1 12 [some (.ref v0), none, none] [.ref v0, .int (m.1 v0 25)] rfl ?_
    refine fs_gi T 15 12 27 v0 rfl rfl rfl rfl h0 ?_
    refine fs_ic_lt T 40 18 rfl rfl rfl (fun _ => ?_) (fun _ => ?_)
    · exact w_X12_compareTried_40 hE h0 _
    · refine fs_r T 1 19 [some (.ref v0), none, none] [.ref v0] rfl ?_
      refine fs_gi T 22 12 25 v0 rfl rfl rfl rfl h0 ?_
      refine fs_r T 1 23 [some (.ref v0), none, none] [.ref v0, .int (m.1 v0 25)] rfl ?_
      refine fs_gi T 26 12 27 v0 rfl rfl rfl rfl h0 ?_
      refine fs_ic_ne T 44 29 rfl rfl rfl (fun _ => ?_) (fun _ => ?_)
      · refine fs_r T 1 30 [some (.ref v0), none, none] [.ref v0] rfl ?_
        refine fs_gi T 33 12 24 v0 rfl rfl rfl rfl h0 ?_
        refine fs_r T 1 34 [some (.ref v0), none, none] [.ref v0, .int (m.1 v0 24)] rfl ?_
        refine fs_gi T 37 12 26 v0 rfl rfl rfl rfl h0 ?_
        refine fs_ic_ge T 44 40 rfl rfl rfl (fun _ => ?_) (fun _ => ?_)
        · refine fs_r T 3 47 [some (.ref v0), some (.int (0 : Int32)), none] [.int (0 : Int32)] rfl ?_
          refine fs_if_eq T 94 50 rfl rfl rfl (fun _ => ?_) (fun _ => ?_)
          · exact fs_retv T rfl rfl rfl
          · refine fs_r T 2 52 [some (.ref v0), some (.int (0 : Int32)), some (.int (0 : Int32))] [] rfl ?_
            refine fs_wk (ls' := [some (.ref v0), none, some (.int (0 : Int32))]) ⟨rfl, rfl, trivial⟩ ?_
            exact w_X12_compareTried_52 hE h0 _ _ _
        · exact w_X12_compareTried_40 hE h0 _
      · refine fs_r T 3 47 [some (.ref v0), some (.int (0 : Int32)), none] [.int (0 : Int32)] rfl ?_
        refine fs_if_eq T 94 50 rfl rfl rfl (fun _ => ?_) (fun _ => ?_)
        · exact fs_retv T rfl rfl rfl
        · refine fs_r T 2 52 [some (.ref v0), some (.int (0 : Int32)), some (.int (0 : Int32))] [] rfl ?_
          refine fs_wk (ls' := [some (.ref v0), none, some (.int (0 : Int32))]) ⟨rfl, rfl, trivial⟩ ?_
          exact w_X12_compareTried_52 hE h0 _ _ _)
def f_X12_goOn_15 (H : fm_H) (v0 : Nat) (v2 : Int32) (v3 : Int32) : Nat → Int32 → fm_M → Option (Int32 × fm_M)
  | 0, _, _ => none
  | n + 1, v4, m =>
    if px_inb (2 : Int32) (fm_sz H (H.2.1 v0 0)) = true then
      if m.1 (H.2.1 v0 0) (2 : Int32).toNatClampNeg ≤ v4 then
        some ((0 : Int32), m)
      else
      if (6 : Int32) ≤ m.1 v0 24 then
        some ((0 : Int32), m)
      else
      if v3 = v2 then
        some ((0 : Int32), m)
      else
      fm_bn (f_X12_linkOf H v0 v3 v4 m) fun x1 m1 =>
      if x1 = (-1 : Int32) then
        f_X12_goOn_15 H v0 v2 v3 n (v4 + 1) m1
      else
      if px_inb x1 (fm_sz H (H.2.1 v0 23)) = true then
        if m1.1 (H.2.1 v0 23) x1.toNatClampNeg = 0 then
          f_X12_goOn_15 H v0 v2 v3 n (v4 + 1) m1
        else
        fm_bn (f_X12_isTried H v0 v4 m1) fun x2 m2 =>
        if x2 = 0 then
          if px_inb (m2.1 v0 24) (fm_sz H (H.2.1 v0 21)) = true then
            (fm_bd (fm_si m2 (H.2.1 v0 21) (m2.1 v0 24).toNatClampNeg v4) fun m3 =>
            fm_bd (fm_si m3 v0 24 (m3.1 v0 24 + (1 : Int32))) fun m4 =>
            fm_bn (f_X12_ofLink H v0 x1 (3 : Int32) m4) fun x3 m5 =>
            fm_bd (fm_si m5 v0 25 (m4.1 v0 25 + x3)) fun m6 =>
            some ((1 : Int32), m6))
          else none
        else
        f_X12_goOn_15 H v0 v2 v3 n (v4 + 1) m2
      else none
    else none
set_option maxRecDepth 10000 in
theorem w_X12_goOn_15 {G : pm_G} {H : fm_H} {d : Nat} {z : Option Nat × Nat × Nat} {K : pm_R → fm_M → Prop} (hE : fm_E G H) {v0 : Nat} {v2 : Int32} {v3 : Int32} (h0 : fm_is H v0 12) : ∀ (n : Nat) (v4 : Int32) (m : fm_M), fm_o fm_rI (f_X12_goOn_15 H v0 v2 v3 n v4 m) K → fm_V G H (d + 2) RX12 cX12_goOn (some (.boolean)) z K 15 [some (.ref v0), none, some (.int v2), some (.int v3), some (.int v4), none] [] m := by
  have T : fm_T RX12 cX12_goOn tc_X12_goOn fr_X12 mr_X12 cr_X12 lr_X12 := ⟨tok_X12, dc_X12_goOn⟩
  intro n
  induction n with
  | zero =>
    intro v4 m 
    exact fs_none
  | succ n ih =>
    intro v4 m 
    unfold f_X12_goOn_15
    refine fs_r T 2 18 [some (.ref v0), none, some (.int v2), some (.int v3), some (.int v4), none] [.ref v0, .int v4] rfl ?_
    refine fs_gs T 21 12 0 v0 rfl rfl rfl rfl h0 ?_
    refine fs_r T 1 22 [some (.ref v0), none, some (.int v2), some (.int v3), some (.int v4), none] [.int (2 : Int32), .ref (H.2.1 v0 0), .int v4] rfl ?_
    refine fs_ai T 23 (H.2.1 v0 0) rfl rfl (hE.1 _ 12 0 h0) ?_
    refine fs_ic_ge T 119 26 rfl rfl rfl (fun _ => ?_) (fun _ => ?_)
    · refine fs_r T 1 120 [some (.ref v0), none, some (.int v2), some (.int v3), some (.int v4), none] [.int (0 : Int32)] rfl ?_
      exact fs_retc T rfl rfl rfl rfl
    · refine fs_r T 1 27 [some (.ref v0), none, some (.int v2), some (.int v3), some (.int v4), none] [.ref v0] rfl ?_
      refine fs_gi T 30 12 24 v0 rfl rfl rfl rfl h0 ?_
      refine fs_r T 1 32 [some (.ref v0), none, some (.int v2), some (.int v3), some (.int v4), none] [.int (6 : Int32), .int (m.1 v0 24)] rfl ?_
      refine fs_ic_ge T 119 35 rfl rfl rfl (fun _ => ?_) (fun _ => ?_)
      · refine fs_r T 1 120 [some (.ref v0), none, some (.int v2), some (.int v3), some (.int v4), none] [.int (0 : Int32)] rfl ?_
        exact fs_retc T rfl rfl rfl rfl
      · refine fs_r T 2 37 [some (.ref v0), none, some (.int v2), some (.int v3), some (.int v4), none] [.int v2, .int v3] rfl ?_
        refine fs_ic_eq T 119 40 rfl rfl rfl (fun _ => ?_) (fun _ => ?_)
        · refine fs_r T 1 120 [some (.ref v0), none, some (.int v2), some (.int v3), some (.int v4), none] [.int (0 : Int32)] rfl ?_
          exact fs_retc T rfl rfl rfl rfl
        · refine fs_r T 3 44 [some (.ref v0), none, some (.int v2), some (.int v3), some (.int v4), none] [.int v4, .int v3, .ref v0] rfl ?_
          refine fs_vI T 47 rfl rfl rfl rfl rfl rfl h0 (q_X12_linkOf (d := d) hE h0) ?_
          intro x1 m1
          refine fs_r T 3 52 [some (.ref v0), none, some (.int v2), some (.int v3), some (.int v4), some (.int x1)] [.int (-1 : Int32), .int x1] rfl ?_
          refine fs_ic_eq T 113 55 rfl rfl rfl (fun _ => ?_) (fun _ => ?_)
          · refine fs_r T 2 15 [some (.ref v0), none, some (.int v2), some (.int v3), some (.int (v4 + 1)), some (.int x1)] [] rfl ?_
            refine fs_wk (ls' := [some (.ref v0), none, some (.int v2), some (.int v3), some (.int (v4 + 1)), none]) ⟨rfl, rfl, rfl, rfl, trivial⟩ ?_
            exact ih _ _
          · refine fs_r T 1 56 [some (.ref v0), none, some (.int v2), some (.int v3), some (.int v4), some (.int x1)] [.ref v0] rfl ?_
            refine fs_gs T 59 12 23 v0 rfl rfl rfl rfl h0 ?_
            refine fs_r T 1 61 [some (.ref v0), none, some (.int v2), some (.int v3), some (.int v4), some (.int x1)] [.int x1, .ref (H.2.1 v0 23)] rfl ?_
            refine fs_ab T 62 (H.2.1 v0 23) rfl rfl (Or.inr rfl) (hE.1 _ 12 23 h0) ?_
            refine fs_if_eq T 113 65 rfl rfl rfl (fun _ => ?_) (fun _ => ?_)
            · refine fs_r T 2 15 [some (.ref v0), none, some (.int v2), some (.int v3), some (.int (v4 + 1)), some (.int x1)] [] rfl ?_
              refine fs_wk (ls' := [some (.ref v0), none, some (.int v2), some (.int v3), some (.int (v4 + 1)), none]) ⟨rfl, rfl, rfl, rfl, trivial⟩ ?_
              exact ih _ _
            · refine fs_r T 2 68 [some (.ref v0), none, some (.int v2), some (.int v3), some (.int v4), some (.int x1)] [.int v4, .ref v0] rfl ?_
              refine fs_vI T 71 rfl rfl rfl rfl rfl rfl h0 (q_X12_isTried (d := d + 1) hE h0) ?_
              intro x2 m2
              refine fs_if_ne T 113 74 rfl rfl rfl (fun _ => ?_) (fun _ => ?_)
              · refine fs_r T 1 75 [some (.ref v0), none, some (.int v2), some (.int v3), some (.int v4), some (.int x1)] [.ref v0] rfl ?_
                refine fs_gs T 78 12 21 v0 rfl rfl rfl rfl h0 ?_
                refine fs_r T 1 79 [some (.ref v0), none, some (.int v2), some (.int v3), some (.int v4), some (.int x1)] [.ref v0, .ref (H.2.1 v0 21)] rfl ?_
                refine fs_gi T 82 12 24 v0 rfl rfl rfl rfl h0 ?_
                refine fs_r T 1 84 [some (.ref v0), none, some (.int v2), some (.int v3), some (.int v4), some (.int x1)] [.int v4, .int (m2.1 v0 24), .ref (H.2.1 v0 21)] rfl ?_
                refine fs_si T 85 (H.2.1 v0 21) rfl rfl (hE.1 _ 12 21 h0) ?_
                intro m3
                refine fs_r T 2 87 [some (.ref v0), none, some (.int v2), some (.int v3), some (.int v4), some (.int x1)] [.ref v0, .ref v0] rfl ?_
                refine fs_gi T 90 12 24 v0 rfl rfl rfl rfl h0 ?_
                refine fs_r T 2 92 [some (.ref v0), none, some (.int v2), some (.int v3), some (.int v4), some (.int x1)] [.int (m3.1 v0 24 + (1 : Int32)), .ref v0] rfl ?_
                refine fs_pi T 95 12 24 v0 rfl rfl rfl rfl h0 ?_
                intro m4
                refine fs_r T 2 97 [some (.ref v0), none, some (.int v2), some (.int v3), some (.int v4), some (.int x1)] [.ref v0, .ref v0] rfl ?_
                refine fs_gi T 100 12 25 v0 rfl rfl rfl rfl h0 ?_
                refine fs_r T 3 104 [some (.ref v0), none, some (.int v2), some (.int v3), some (.int v4), some (.int x1)] [.int (3 : Int32), .int x1, .ref v0, .int (m4.1 v0 25), .ref v0] rfl ?_
                refine fs_vI T 107 rfl rfl rfl rfl rfl rfl h0 (q_X12_ofLink (d := d + 1) hE h0) ?_
                intro x3 m5
                refine fs_r T 1 108 [some (.ref v0), none, some (.int v2), some (.int v3), some (.int v4), some (.int x1)] [.int (m4.1 v0 25 + x3), .ref v0] rfl ?_
                refine fs_pi T 111 12 25 v0 rfl rfl rfl rfl h0 ?_
                intro m6
                refine fs_r T 1 112 [some (.ref v0), none, some (.int v2), some (.int v3), some (.int v4), some (.int x1)] [.int (1 : Int32)] rfl ?_
                exact fs_retc T rfl rfl rfl rfl
              · refine fs_r T 2 15 [some (.ref v0), none, some (.int v2), some (.int v3), some (.int (v4 + 1)), some (.int x1)] [] rfl ?_
                refine fs_wk (ls' := [some (.ref v0), none, some (.int v2), some (.int v3), some (.int (v4 + 1)), none]) ⟨rfl, rfl, rfl, rfl, trivial⟩ ?_
                exact ih _ _
def f_X12_goOn (H : fm_H) (v0 : Nat) (v1 : Int32) (v2 : Int32) (m : fm_M) : Option (Int32 × fm_M) :=
  if px_inb (m.1 v0 24 - (1 : Int32)) (fm_sz H (H.2.1 v0 21)) = true then
    f_X12_goOn_15 H v0 v2 (m.1 (H.2.1 v0 21) (m.1 v0 24 - (1 : Int32)).toNatClampNeg) fm_N v1 m
  else none
set_option maxRecDepth 10000 in
theorem q_X12_goOn {G : pm_G} {H : fm_H} {d : Nat} {z : Option Nat × Nat × Nat} {v0 : Nat} {v1 : Int32} {v2 : Int32} {m : fm_M} (hE : fm_E G H) (h0 : fm_is H v0 12) : fm_cal G H (d + 3) yX12_goOn [.ref v0, .int v1, .int v2] z m fm_rI (f_X12_goOn H v0 v1 v2 m) := fm_mth (d := d + 2) mt_X12_goOn rfl rfl rfl (fun K => by
  show fm_o fm_rI (f_X12_goOn H v0 v1 v2 m) K → fm_V G H (d + 2) RX12 cX12_goOn (some (.boolean)) z K 0 [some (.ref v0), some (.int v1), some (.int v2), none, none, none] [] m
  have T : fm_T RX12 cX12_goOn tc_X12_goOn fr_X12 mr_X12 cr_X12 lr_X12 := ⟨tok_X12, dc_X12_goOn⟩
  unfold f_X12_goOn
  refine fs_r T 1 1 [some (.ref v0), some (.int v1), some (.int v2), none, none, none] [.ref v0] rfl ?_
  refine fs_gs T 4 12 21 v0 rfl rfl rfl rfl h0 ?_
  refine fs_r T 1 5 [some (.ref v0), some (.int v1), some (.int v2), none, none, none] [.ref v0, .ref (H.2.1 v0 21)] rfl ?_
  refine fs_gi T 8 12 24 v0 rfl rfl rfl rfl h0 ?_
  refine fs_r T 2 10 [some (.ref v0), some (.int v1), some (.int v2), none, none, none] [.int (m.1 v0 24 - (1 : Int32)), .ref (H.2.1 v0 21)] rfl ?_
  refine fs_ai T 11 (H.2.1 v0 21) rfl rfl (hE.1 _ 12 21 h0) ?_
  refine fs_r T 3 15 [some (.ref v0), some (.int v1), some (.int v2), some (.int (m.1 (H.2.1 v0 21) (m.1 v0 24 - (1 : Int32)).toNatClampNeg)), some (.int v1), none] [] rfl ?_
  refine fs_wk (ls' := [some (.ref v0), none, some (.int v2), some (.int (m.1 (H.2.1 v0 21) (m.1 v0 24 - (1 : Int32)).toNatClampNeg)), some (.int v1), none]) ⟨rfl, rfl, rfl, rfl, trivial⟩ ?_
  exact w_X12_goOn_15 hE h0 _ _ _)
def f_X12_layBest_81 (H : fm_H) (v0 : Nat) (v2 : Int32) : Nat → Int32 → fm_M → Option (Int32 × fm_M)
  | 0, _, _ => none
  | n + 1, v6, m =>
    if m.1 v0 24 ≤ 0 then
      some (m.1 v0 26, m)
    else
    fm_bn (f_X12_goOn H v0 v6 v2 m) fun x1 m1 =>
    if x1 = 0 then
      if px_inb (m1.1 v0 24 - (1 : Int32)) (fm_sz H (H.2.1 v0 21)) = true then
        fm_bn (f_X12_dropTried H v0 m1) fun _ m2 =>
        f_X12_layBest_81 H v0 v2 n (m1.1 (H.2.1 v0 21) (m1.1 v0 24 - (1 : Int32)).toNatClampNeg + (1 : Int32)) m2
      else none
    else
    if px_inb (m1.1 v0 24 - (1 : Int32)) (fm_sz H (H.2.1 v0 21)) = true then
      if m1.1 (H.2.1 v0 21) (m1.1 v0 24 - (1 : Int32)).toNatClampNeg = v2 then
        fm_bn (f_X12_compareTried H v0 m1) fun _ m3 =>
        f_X12_layBest_81 H v0 v2 n (0 : Int32) m3
      else
      f_X12_layBest_81 H v0 v2 n (0 : Int32) m1
    else none
set_option maxRecDepth 10000 in
theorem w_X12_layBest_81 {G : pm_G} {H : fm_H} {d : Nat} {z : Option Nat × Nat × Nat} {K : pm_R → fm_M → Prop} (hE : fm_E G H) {v0 : Nat} {v2 : Int32} (h0 : fm_is H v0 12) : ∀ (n : Nat) (v6 : Int32) (m : fm_M), fm_o fm_rI (f_X12_layBest_81 H v0 v2 n v6 m) K → fm_V G H (d + 5) RX12 cX12_layBest (some (.int)) z K 81 [some (.ref v0), none, some (.int v2), none, none, none, some (.int v6)] [] m := by
  have T : fm_T RX12 cX12_layBest tc_X12_layBest fr_X12 mr_X12 cr_X12 lr_X12 := ⟨tok_X12, dc_X12_layBest⟩
  intro n
  induction n with
  | zero =>
    intro v6 m 
    exact fs_none
  | succ n ih =>
    intro v6 m 
    unfold f_X12_layBest_81
    refine fs_r T 1 82 [some (.ref v0), none, some (.int v2), none, none, none, some (.int v6)] [.ref v0] rfl ?_
    refine fs_gi T 85 12 24 v0 rfl rfl rfl rfl h0 ?_
    refine fs_if_le T 145 88 rfl rfl rfl (fun _ => ?_) (fun _ => ?_)
    · refine fs_r T 1 146 [some (.ref v0), none, some (.int v2), none, none, none, some (.int v6)] [.ref v0] rfl ?_
      refine fs_gi T 149 12 26 v0 rfl rfl rfl rfl h0 ?_
      exact fs_reti T rfl rfl rfl
    · refine fs_r T 3 92 [some (.ref v0), none, some (.int v2), none, none, none, some (.int v6)] [.int v2, .int v6, .ref v0] rfl ?_
      refine fs_vI T 95 rfl rfl rfl rfl rfl rfl h0 (q_X12_goOn (d := d + 2) hE h0) ?_
      intro x1 m1
      refine fs_if_eq T 123 98 rfl rfl rfl (fun _ => ?_) (fun _ => ?_)
      · refine fs_r T 1 124 [some (.ref v0), none, some (.int v2), none, none, none, some (.int v6)] [.ref v0] rfl ?_
        refine fs_gs T 127 12 21 v0 rfl rfl rfl rfl h0 ?_
        refine fs_r T 1 128 [some (.ref v0), none, some (.int v2), none, none, none, some (.int v6)] [.ref v0, .ref (H.2.1 v0 21)] rfl ?_
        refine fs_gi T 131 12 24 v0 rfl rfl rfl rfl h0 ?_
        refine fs_r T 2 133 [some (.ref v0), none, some (.int v2), none, none, none, some (.int v6)] [.int (m1.1 v0 24 - (1 : Int32)), .ref (H.2.1 v0 21)] rfl ?_
        refine fs_ai T 134 (H.2.1 v0 21) rfl rfl (hE.1 _ 12 21 h0) ?_
        refine fs_r T 4 139 [some (.ref v0), none, some (.int v2), none, none, none, some (.int (m1.1 (H.2.1 v0 21) (m1.1 v0 24 - (1 : Int32)).toNatClampNeg + (1 : Int32)))] [.ref v0] rfl ?_
        refine fs_vV T 142 rfl rfl rfl rfl rfl rfl h0 (q_X12_dropTried (d := d + 2) hE h0) ?_
        intro x2 m2
        refine fs_r T 1 81 [some (.ref v0), none, some (.int v2), none, none, none, some (.int (m1.1 (H.2.1 v0 21) (m1.1 v0 24 - (1 : Int32)).toNatClampNeg + (1 : Int32)))] [] rfl ?_
        exact ih _ _
      · refine fs_r T 3 102 [some (.ref v0), none, some (.int v2), none, none, none, some (.int (0 : Int32))] [.ref v0] rfl ?_
        refine fs_gs T 105 12 21 v0 rfl rfl rfl rfl h0 ?_
        refine fs_r T 1 106 [some (.ref v0), none, some (.int v2), none, none, none, some (.int (0 : Int32))] [.ref v0, .ref (H.2.1 v0 21)] rfl ?_
        refine fs_gi T 109 12 24 v0 rfl rfl rfl rfl h0 ?_
        refine fs_r T 2 111 [some (.ref v0), none, some (.int v2), none, none, none, some (.int (0 : Int32))] [.int (m1.1 v0 24 - (1 : Int32)), .ref (H.2.1 v0 21)] rfl ?_
        refine fs_ai T 112 (H.2.1 v0 21) rfl rfl (hE.1 _ 12 21 h0) ?_
        refine fs_r T 1 113 [some (.ref v0), none, some (.int v2), none, none, none, some (.int (0 : Int32))] [.int v2, .int (m1.1 (H.2.1 v0 21) (m1.1 v0 24 - (1 : Int32)).toNatClampNeg)] rfl ?_
        refine fs_ic_ne T 81 116 rfl rfl rfl (fun _ => ?_) (fun _ => ?_)
        · refine fs_r T 1 117 [some (.ref v0), none, some (.int v2), none, none, none, some (.int (0 : Int32))] [.ref v0] rfl ?_
          refine fs_vV T 120 rfl rfl rfl rfl rfl rfl h0 (q_X12_compareTried (d := d + 4) hE h0) ?_
          intro x3 m3
          refine fs_r T 1 81 [some (.ref v0), none, some (.int v2), none, none, none, some (.int (0 : Int32))] [] rfl ?_
          exact ih _ _
        · exact ih _ _
def f_X12_layBest_3 (H : fm_H) (v0 : Nat) (v1 : Int32) (v2 : Int32) (v3 : Int32) (v4 : Int32) (v5 : Int32) : Nat → Int32 → fm_M → Option (Int32 × fm_M)
  | 0, _, _ => none
  | n + 1, v6, m =>
    if px_inb (3 : Int32) (fm_sz H (H.2.1 v0 0)) = true then
      if m.1 (H.2.1 v0 0) (3 : Int32).toNatClampNeg ≤ v6 then
        fm_bd (fm_si m v0 26 (0 : Int32)) fun m1 =>
        fm_bd (fm_si m1 v0 27 (0 : Int32)) fun m2 =>
        if px_inb (0 : Int32) (fm_sz H (H.2.1 v0 21)) = true then
          (fm_bd (fm_si m2 (H.2.1 v0 21) (0 : Int32).toNatClampNeg v1) fun m3 =>
          fm_bd (fm_si m3 v0 24 (1 : Int32)) fun m4 =>
          fm_bd (fm_si m4 v0 25 (0 : Int32)) fun m5 =>
          f_X12_layBest_81 H v0 v2 fm_N (0 : Int32) m5)
        else none
      else
      if v6 = v5 then
        if px_inb v6 (fm_sz H (H.2.1 v0 23)) = true then
          (fm_bd (fm_si m (H.2.1 v0 23) v6.toNatClampNeg (fm_nw .boolean (0 : Int32))) fun m6 =>
          f_X12_layBest_3 H v0 v1 v2 v3 v4 v5 n (v6 + 1) m6)
        else none
      else
      fm_bn (f_X12_hasRoom H v0 v6 v3 v4 m) fun x1 m7 =>
      if x1 = 0 then
        if px_inb v6 (fm_sz H (H.2.1 v0 23)) = true then
          (fm_bd (fm_si m7 (H.2.1 v0 23) v6.toNatClampNeg (fm_nw .boolean (0 : Int32))) fun m8 =>
          f_X12_layBest_3 H v0 v1 v2 v3 v4 v5 n (v6 + 1) m8)
        else none
      else
      if px_inb v6 (fm_sz H (H.2.1 v0 23)) = true then
        (fm_bd (fm_si m7 (H.2.1 v0 23) v6.toNatClampNeg (fm_nw .boolean (1 : Int32))) fun m9 =>
        f_X12_layBest_3 H v0 v1 v2 v3 v4 v5 n (v6 + 1) m9)
      else none
    else none
set_option maxRecDepth 10000 in
theorem w_X12_layBest_3 {G : pm_G} {H : fm_H} {d : Nat} {z : Option Nat × Nat × Nat} {K : pm_R → fm_M → Prop} (hE : fm_E G H) {v0 : Nat} {v1 : Int32} {v2 : Int32} {v3 : Int32} {v4 : Int32} {v5 : Int32} (h0 : fm_is H v0 12) : ∀ (n : Nat) (v6 : Int32) (m : fm_M), fm_o fm_rI (f_X12_layBest_3 H v0 v1 v2 v3 v4 v5 n v6 m) K → fm_V G H (d + 5) RX12 cX12_layBest (some (.int)) z K 3 [some (.ref v0), some (.int v1), some (.int v2), some (.int v3), some (.int v4), some (.int v5), some (.int v6)] [] m := by
  have T : fm_T RX12 cX12_layBest tc_X12_layBest fr_X12 mr_X12 cr_X12 lr_X12 := ⟨tok_X12, dc_X12_layBest⟩
  intro n
  induction n with
  | zero =>
    intro v6 m 
    exact fs_none
  | succ n ih =>
    intro v6 m 
    unfold f_X12_layBest_3
    refine fs_r T 2 6 [some (.ref v0), some (.int v1), some (.int v2), some (.int v3), some (.int v4), some (.int v5), some (.int v6)] [.ref v0, .int v6] rfl ?_
    refine fs_gs T 9 12 0 v0 rfl rfl rfl rfl h0 ?_
    refine fs_r T 1 10 [some (.ref v0), some (.int v1), some (.int v2), some (.int v3), some (.int v4), some (.int v5), some (.int v6)] [.int (3 : Int32), .ref (H.2.1 v0 0), .int v6] rfl ?_
    refine fs_ai T 11 (H.2.1 v0 0) rfl rfl (hE.1 _ 12 0 h0) ?_
    refine fs_ic_ge T 51 14 rfl rfl rfl (fun _ => ?_) (fun _ => ?_)
    · refine fs_r T 2 53 [some (.ref v0), some (.int v1), some (.int v2), some (.int v3), some (.int v4), some (.int v5), some (.int v6)] [.int (0 : Int32), .ref v0] rfl ?_
      refine fs_pi T 56 12 26 v0 rfl rfl rfl rfl h0 ?_
      intro m1
      refine fs_r T 2 58 [some (.ref v0), some (.int v1), some (.int v2), some (.int v3), some (.int v4), some (.int v5), some (.int v6)] [.int (0 : Int32), .ref v0] rfl ?_
      refine fs_pi T 61 12 27 v0 rfl rfl rfl rfl h0 ?_
      intro m2
      refine fs_r T 1 62 [some (.ref v0), some (.int v1), some (.int v2), some (.int v3), some (.int v4), some (.int v5), some (.int v6)] [.ref v0] rfl ?_
      refine fs_gs T 65 12 21 v0 rfl rfl rfl rfl h0 ?_
      refine fs_r T 2 67 [some (.ref v0), some (.int v1), some (.int v2), some (.int v3), some (.int v4), some (.int v5), some (.int v6)] [.int v1, .int (0 : Int32), .ref (H.2.1 v0 21)] rfl ?_
      refine fs_si T 68 (H.2.1 v0 21) rfl rfl (hE.1 _ 12 21 h0) ?_
      intro m3
      refine fs_r T 2 70 [some (.ref v0), some (.int v1), some (.int v2), some (.int v3), some (.int v4), some (.int v5), some (.int v6)] [.int (1 : Int32), .ref v0] rfl ?_
      refine fs_pi T 73 12 24 v0 rfl rfl rfl rfl h0 ?_
      intro m4
      refine fs_r T 2 75 [some (.ref v0), some (.int v1), some (.int v2), some (.int v3), some (.int v4), some (.int v5), some (.int v6)] [.int (0 : Int32), .ref v0] rfl ?_
      refine fs_pi T 78 12 25 v0 rfl rfl rfl rfl h0 ?_
      intro m5
      refine fs_r T 2 81 [some (.ref v0), some (.int v1), some (.int v2), some (.int v3), some (.int v4), some (.int v5), some (.int (0 : Int32))] [] rfl ?_
      refine fs_wk (ls' := [some (.ref v0), none, some (.int v2), none, none, none, some (.int (0 : Int32))]) ⟨rfl, rfl, rfl, trivial⟩ ?_
      exact w_X12_layBest_81 hE h0 _ _ _
    · refine fs_r T 1 15 [some (.ref v0), some (.int v1), some (.int v2), some (.int v3), some (.int v4), some (.int v5), some (.int v6)] [.ref v0] rfl ?_
      refine fs_gs T 18 12 23 v0 rfl rfl rfl rfl h0 ?_
      refine fs_r T 3 24 [some (.ref v0), some (.int v1), some (.int v2), some (.int v3), some (.int v4), some (.int v5), some (.int v6)] [.int v5, .int v6, .int v6, .ref (H.2.1 v0 23)] rfl ?_
      refine fs_ic_eq T 43 27 rfl rfl rfl (fun _ => ?_) (fun _ => ?_)
      · refine fs_r T 1 44 [some (.ref v0), some (.int v1), some (.int v2), some (.int v3), some (.int v4), some (.int v5), some (.int v6)] [.int (0 : Int32), .int v6, .ref (H.2.1 v0 23)] rfl ?_
        refine fs_sb T 45 (H.2.1 v0 23) rfl rfl (Or.inr rfl) (hE.1 _ 12 23 h0) ?_
        intro m6
        refine fs_r T 2 3 [some (.ref v0), some (.int v1), some (.int v2), some (.int v3), some (.int v4), some (.int v5), some (.int (v6 + 1))] [] rfl ?_
        exact ih _ _
      · refine fs_r T 4 33 [some (.ref v0), some (.int v1), some (.int v2), some (.int v3), some (.int v4), some (.int v5), some (.int v6)] [.int v4, .int v3, .int v6, .ref v0, .int v6, .ref (H.2.1 v0 23)] rfl ?_
        refine fs_vI T 36 rfl rfl rfl rfl rfl rfl h0 (q_X12_hasRoom (d := d) hE h0) ?_
        intro x1 m7
        refine fs_if_eq T 43 39 rfl rfl rfl (fun _ => ?_) (fun _ => ?_)
        · refine fs_r T 1 44 [some (.ref v0), some (.int v1), some (.int v2), some (.int v3), some (.int v4), some (.int v5), some (.int v6)] [.int (0 : Int32), .int v6, .ref (H.2.1 v0 23)] rfl ?_
          refine fs_sb T 45 (H.2.1 v0 23) rfl rfl (Or.inr rfl) (hE.1 _ 12 23 h0) ?_
          intro m8
          refine fs_r T 2 3 [some (.ref v0), some (.int v1), some (.int v2), some (.int v3), some (.int v4), some (.int v5), some (.int (v6 + 1))] [] rfl ?_
          exact ih _ _
        · refine fs_r T 2 44 [some (.ref v0), some (.int v1), some (.int v2), some (.int v3), some (.int v4), some (.int v5), some (.int v6)] [.int (1 : Int32), .int v6, .ref (H.2.1 v0 23)] rfl ?_
          refine fs_sb T 45 (H.2.1 v0 23) rfl rfl (Or.inr rfl) (hE.1 _ 12 23 h0) ?_
          intro m9
          refine fs_r T 2 3 [some (.ref v0), some (.int v1), some (.int v2), some (.int v3), some (.int v4), some (.int v5), some (.int (v6 + 1))] [] rfl ?_
          exact ih _ _
def f_X12_layBest (H : fm_H) (v0 : Nat) (v1 : Int32) (v2 : Int32) (v3 : Int32) (v4 : Int32) (v5 : Int32) (m : fm_M) : Option (Int32 × fm_M) :=
  f_X12_layBest_3 H v0 v1 v2 v3 v4 v5 fm_N (0 : Int32) m
set_option maxRecDepth 10000 in
theorem q_X12_layBest {G : pm_G} {H : fm_H} {d : Nat} {z : Option Nat × Nat × Nat} {v0 : Nat} {v1 : Int32} {v2 : Int32} {v3 : Int32} {v4 : Int32} {v5 : Int32} {m : fm_M} (hE : fm_E G H) (h0 : fm_is H v0 12) : fm_cal G H (d + 6) yX12_layBest [.ref v0, .int v1, .int v2, .int v3, .int v4, .int v5] z m fm_rI (f_X12_layBest H v0 v1 v2 v3 v4 v5 m) := fm_mth (d := d + 5) mt_X12_layBest rfl rfl rfl (fun K => by
  show fm_o fm_rI (f_X12_layBest H v0 v1 v2 v3 v4 v5 m) K → fm_V G H (d + 5) RX12 cX12_layBest (some (.int)) z K 0 [some (.ref v0), some (.int v1), some (.int v2), some (.int v3), some (.int v4), some (.int v5), none] [] m
  have T : fm_T RX12 cX12_layBest tc_X12_layBest fr_X12 mr_X12 cr_X12 lr_X12 := ⟨tok_X12, dc_X12_layBest⟩
  unfold f_X12_layBest
  refine fs_r T 2 3 [some (.ref v0), some (.int v1), some (.int v2), some (.int v3), some (.int v4), some (.int v5), some (.int (0 : Int32))] [] rfl ?_
  exact w_X12_layBest_3 hE h0 _ _ _)
def f_X12_takeBest_2 (H : fm_H) (v0 : Nat) : Nat → Int32 → fm_M → Option (Unit × fm_M)
  | 0, _, _ => none
  | n + 1, v1, m =>
    if m.1 v0 26 ≤ v1 then
      fm_bd (fm_si m v0 6 (m.1 v0 26)) fun m1 =>
      some ((), m1)
    else
    if px_inb v1 (fm_sz H (H.2.1 v0 22)) = true then
      if px_inb v1 (fm_sz H (H.2.1 v0 5)) = true then
        (fm_bd (fm_si m (H.2.1 v0 5) v1.toNatClampNeg (m.1 (H.2.1 v0 22) v1.toNatClampNeg)) fun m2 =>
        f_X12_takeBest_2 H v0 n (v1 + 1) m2)
      else none
    else none
set_option maxRecDepth 10000 in
theorem w_X12_takeBest_2 {G : pm_G} {H : fm_H} {d : Nat} {z : Option Nat × Nat × Nat} {K : pm_R → fm_M → Prop} (hE : fm_E G H) {v0 : Nat} (h0 : fm_is H v0 12) : ∀ (n : Nat) (v1 : Int32) (m : fm_M), fm_o fm_rV (f_X12_takeBest_2 H v0 n v1 m) K → fm_V G H (d + 0) RX12 cX12_takeBest none z K 2 [some (.ref v0), some (.int v1)] [] m := by
  have T : fm_T RX12 cX12_takeBest tc_X12_takeBest fr_X12 mr_X12 cr_X12 lr_X12 := ⟨tok_X12, dc_X12_takeBest⟩
  intro n
  induction n with
  | zero =>
    intro v1 m 
    exact fs_none
  | succ n ih =>
    intro v1 m 
    unfold f_X12_takeBest_2
    refine fs_r T 2 4 [some (.ref v0), some (.int v1)] [.ref v0, .int v1] rfl ?_
    refine fs_gi T 7 12 26 v0 rfl rfl rfl rfl h0 ?_
    refine fs_ic_ge T 28 10 rfl rfl rfl (fun _ => ?_) (fun _ => ?_)
    · refine fs_r T 2 30 [some (.ref v0), some (.int v1)] [.ref v0, .ref v0] rfl ?_
      refine fs_gi T 33 12 26 v0 rfl rfl rfl rfl h0 ?_
      refine fs_pi T 36 12 6 v0 rfl rfl rfl rfl h0 ?_
      intro m1
      exact fs_retv T rfl rfl rfl
    · refine fs_r T 1 11 [some (.ref v0), some (.int v1)] [.ref v0] rfl ?_
      refine fs_gs T 14 12 5 v0 rfl rfl rfl rfl h0 ?_
      refine fs_r T 2 16 [some (.ref v0), some (.int v1)] [.ref v0, .int v1, .ref (H.2.1 v0 5)] rfl ?_
      refine fs_gs T 19 12 22 v0 rfl rfl rfl rfl h0 ?_
      refine fs_r T 1 20 [some (.ref v0), some (.int v1)] [.int v1, .ref (H.2.1 v0 22), .int v1, .ref (H.2.1 v0 5)] rfl ?_
      refine fs_ai T 21 (H.2.1 v0 22) rfl rfl (hE.1 _ 12 22 h0) ?_
      refine fs_si T 22 (H.2.1 v0 5) rfl rfl (hE.1 _ 12 5 h0) ?_
      intro m2
      refine fs_r T 2 2 [some (.ref v0), some (.int (v1 + 1))] [] rfl ?_
      exact ih _ _
def f_X12_takeBest (H : fm_H) (v0 : Nat) (m : fm_M) : Option (Unit × fm_M) :=
  f_X12_takeBest_2 H v0 fm_N (0 : Int32) m
set_option maxRecDepth 10000 in
theorem q_X12_takeBest {G : pm_G} {H : fm_H} {d : Nat} {z : Option Nat × Nat × Nat} {v0 : Nat} {m : fm_M} (hE : fm_E G H) (h0 : fm_is H v0 12) : fm_cal G H (d + 1) yX12_takeBest [.ref v0] z m fm_rV (f_X12_takeBest H v0 m) := fm_mth (d := d + 0) mt_X12_takeBest rfl rfl rfl (fun K => by
  show fm_o fm_rV (f_X12_takeBest H v0 m) K → fm_V G H (d + 0) RX12 cX12_takeBest none z K 0 [some (.ref v0), none] [] m
  have T : fm_T RX12 cX12_takeBest tc_X12_takeBest fr_X12 mr_X12 cr_X12 lr_X12 := ⟨tok_X12, dc_X12_takeBest⟩
  unfold f_X12_takeBest
  refine fs_r T 2 2 [some (.ref v0), some (.int (0 : Int32))] [] rfl ?_
  exact w_X12_takeBest_2 hE h0 _ _ _)
def f_X12_draftBest (H : fm_H) (v0 : Nat) (v1 : Int32) (v2 : Int32) (v3 : Int32) (m : fm_M) : Option (Int32 × fm_M) :=
  fm_bd (fm_si m v0 7 (0 : Int32)) fun m1 =>
  fm_bn (f_X12_isNode H v0 v1 m1) fun x1 m2 =>
  if x1 = 0 then
    fm_bn (f_X12_fail H v0 (1 : Int32) m2) fun x2 m3 =>
    some (x2, m3)
  else
  fm_bn (f_X12_isNode H v0 v2 m2) fun x3 m4 =>
  if x3 = 0 then
    fm_bn (f_X12_fail H v0 (1 : Int32) m4) fun x9 m10 =>
    some (x9, m10)
  else
  if v1 = v2 then
    fm_bn (f_X12_fail H v0 (2 : Int32) m4) fun x4 m5 =>
    some (x4, m5)
  else
  fm_bn (f_X12_isBetween H v3 (1 : Int32) (20 : Int32) m4) fun x5 m6 =>
  if x5 = 0 then
    fm_bn (f_X12_fail H v0 (2 : Int32) m6) fun x8 m9 =>
    some (x8, m9)
  else
  fm_bn (f_X12_layBest H v0 v1 v2 (-1 : Int32) v3 (-1 : Int32) m6) fun x6 m7 =>
  if x6 = 0 then
    some ((-1 : Int32), m7)
  else
  fm_bn (f_X12_takeBest H v0 m7) fun _ m8 =>
  some (m8.1 v0 6, m8)
set_option maxRecDepth 10000 in
theorem q_X12_draftBest {G : pm_G} {H : fm_H} {d : Nat} {z : Option Nat × Nat × Nat} {v0 : Nat} {v1 : Int32} {v2 : Int32} {v3 : Int32} {m : fm_M} (hE : fm_E G H) (h0 : fm_is H v0 12) : fm_cal G H (d + 7) yX12_draftBest [.ref v0, .int v1, .int v2, .int v3] z m fm_rI (f_X12_draftBest H v0 v1 v2 v3 m) := fm_mth (d := d + 6) mt_X12_draftBest rfl rfl rfl (fun K => by
  show fm_o fm_rI (f_X12_draftBest H v0 v1 v2 v3 m) K → fm_V G H (d + 6) RX12 cX12_draftBest (some (.int)) z K 0 [some (.ref v0), some (.int v1), some (.int v2), some (.int v3)] [] m
  have T : fm_T RX12 cX12_draftBest tc_X12_draftBest fr_X12 mr_X12 cr_X12 lr_X12 := ⟨tok_X12, dc_X12_draftBest⟩
  unfold f_X12_draftBest
  refine fs_r T 2 2 [some (.ref v0), some (.int v1), some (.int v2), some (.int v3)] [.int (0 : Int32), .ref v0] rfl ?_
  refine fs_pi T 5 12 7 v0 rfl rfl rfl rfl h0 ?_
  intro m1
  refine fs_r T 2 7 [some (.ref v0), some (.int v1), some (.int v2), some (.int v3)] [.int v1, .ref v0] rfl ?_
  refine fs_vI T 10 rfl rfl rfl rfl rfl rfl h0 (q_X12_isNode (d := d + 4) hE h0) ?_
  intro x1 m2
  refine fs_if_eq T 21 13 rfl rfl rfl (fun _ => ?_) (fun _ => ?_)
  · refine fs_r T 2 23 [some (.ref v0), some (.int v1), some (.int v2), some (.int v3)] [.int (1 : Int32), .ref v0] rfl ?_
    refine fs_vI T 26 rfl rfl rfl rfl rfl rfl h0 (q_X12_fail (d := d + 5) hE h0) ?_
    intro x2 m3
    exact fs_reti T rfl rfl rfl
  · refine fs_r T 2 15 [some (.ref v0), some (.int v1), some (.int v2), some (.int v3)] [.int v2, .ref v0] rfl ?_
    refine fs_vI T 18 rfl rfl rfl rfl rfl rfl h0 (q_X12_isNode (d := d + 4) hE h0) ?_
    intro x3 m4
    refine fs_if_ne T 27 21 rfl rfl rfl (fun _ => ?_) (fun _ => ?_)
    · refine fs_r T 2 23 [some (.ref v0), some (.int v1), some (.int v2), some (.int v3)] [.int (1 : Int32), .ref v0] rfl ?_
      refine fs_vI T 26 rfl rfl rfl rfl rfl rfl h0 (q_X12_fail (d := d + 5) hE h0) ?_
      intro x9 m10
      exact fs_reti T rfl rfl rfl
    · refine fs_r T 2 29 [some (.ref v0), some (.int v1), some (.int v2), some (.int v3)] [.int v2, .int v1] rfl ?_
      refine fs_ic_eq T 42 32 rfl rfl rfl (fun _ => ?_) (fun _ => ?_)
      · refine fs_r T 2 44 [some (.ref v0), some (.int v1), some (.int v2), some (.int v3)] [.int (2 : Int32), .ref v0] rfl ?_
        refine fs_vI T 47 rfl rfl rfl rfl rfl rfl h0 (q_X12_fail (d := d + 5) hE h0) ?_
        intro x4 m5
        exact fs_reti T rfl rfl rfl
      · refine fs_r T 3 36 [some (.ref v0), some (.int v1), some (.int v2), some (.int v3)] [.int (20 : Int32), .int (1 : Int32), .int v3] rfl ?_
        refine fs_sI T 39 rfl rfl rfl rfl rfl rfl rfl (q_X12_isBetween (d := d + 5) hE ) ?_
        intro x5 m6
        refine fs_if_ne T 48 42 rfl rfl rfl (fun _ => ?_) (fun _ => ?_)
        · refine fs_r T 2 44 [some (.ref v0), some (.int v1), some (.int v2), some (.int v3)] [.int (2 : Int32), .ref v0] rfl ?_
          refine fs_vI T 47 rfl rfl rfl rfl rfl rfl h0 (q_X12_fail (d := d + 5) hE h0) ?_
          intro x8 m9
          exact fs_reti T rfl rfl rfl
        · refine fs_r T 6 54 [some (.ref v0), some (.int v1), some (.int v2), some (.int v3)] [.int (-1 : Int32), .int v3, .int (-1 : Int32), .int v2, .int v1, .ref v0] rfl ?_
          refine fs_vI T 57 rfl rfl rfl rfl rfl rfl h0 (q_X12_layBest (d := d) hE h0) ?_
          intro x6 m7
          refine fs_if_ne T 62 60 rfl rfl rfl (fun _ => ?_) (fun _ => ?_)
          · refine fs_r T 1 61 [some (.ref v0), some (.int v1), some (.int v2), some (.int v3)] [.int (-1 : Int32)] rfl ?_
            exact fs_reti T rfl rfl rfl
          · refine fs_r T 1 63 [some (.ref v0), some (.int v1), some (.int v2), some (.int v3)] [.ref v0] rfl ?_
            refine fs_vV T 66 rfl rfl rfl rfl rfl rfl h0 (q_X12_takeBest (d := d + 5) hE h0) ?_
            intro x7 m8
            refine fs_r T 1 67 [some (.ref v0), some (.int v1), some (.int v2), some (.int v3)] [.ref v0] rfl ?_
            refine fs_gi T 70 12 6 v0 rfl rfl rfl rfl h0 ?_
            exact fs_reti T rfl rfl rfl)
def f_X12_draftNode (H : fm_H) (v0 : Nat) (v1 : Int32) (m : fm_M) : Option (Int32 × fm_M) :=
  fm_bd (fm_si m v0 7 (0 : Int32)) fun m1 =>
  if 0 ≤ v1 then
    if m1.1 v0 6 ≤ v1 then
      some ((-1 : Int32), m1)
    else
    if px_inb v1 (fm_sz H (H.2.1 v0 5)) = true then
      some (m1.1 (H.2.1 v0 5) v1.toNatClampNeg, m1)
    else none
  else
  fm_bn (f_X12_fail H v0 (1 : Int32) m1) fun x1 m2 =>
  some (x1, m2)
set_option maxRecDepth 10000 in
theorem q_X12_draftNode {G : pm_G} {H : fm_H} {d : Nat} {z : Option Nat × Nat × Nat} {v0 : Nat} {v1 : Int32} {m : fm_M} (hE : fm_E G H) (h0 : fm_is H v0 12) : fm_cal G H (d + 2) yX12_draftNode [.ref v0, .int v1] z m fm_rI (f_X12_draftNode H v0 v1 m) := fm_mth (d := d + 1) mt_X12_draftNode rfl rfl rfl (fun K => by
  show fm_o fm_rI (f_X12_draftNode H v0 v1 m) K → fm_V G H (d + 1) RX12 cX12_draftNode (some (.int)) z K 0 [some (.ref v0), some (.int v1)] [] m
  have T : fm_T RX12 cX12_draftNode tc_X12_draftNode fr_X12 mr_X12 cr_X12 lr_X12 := ⟨tok_X12, dc_X12_draftNode⟩
  unfold f_X12_draftNode
  refine fs_r T 2 2 [some (.ref v0), some (.int v1)] [.int (0 : Int32), .ref v0] rfl ?_
  refine fs_pi T 5 12 7 v0 rfl rfl rfl rfl h0 ?_
  intro m1
  refine fs_r T 1 6 [some (.ref v0), some (.int v1)] [.int v1] rfl ?_
  refine fs_if_ge T 15 9 rfl rfl rfl (fun _ => ?_) (fun _ => ?_)
  · refine fs_r T 2 17 [some (.ref v0), some (.int v1)] [.ref v0, .int v1] rfl ?_
    refine fs_gi T 20 12 6 v0 rfl rfl rfl rfl h0 ?_
    refine fs_ic_ge T 32 23 rfl rfl rfl (fun _ => ?_) (fun _ => ?_)
    · refine fs_r T 1 33 [some (.ref v0), some (.int v1)] [.int (-1 : Int32)] rfl ?_
      exact fs_reti T rfl rfl rfl
    · refine fs_r T 1 24 [some (.ref v0), some (.int v1)] [.ref v0] rfl ?_
      refine fs_gs T 27 12 5 v0 rfl rfl rfl rfl h0 ?_
      refine fs_r T 1 28 [some (.ref v0), some (.int v1)] [.int v1, .ref (H.2.1 v0 5)] rfl ?_
      refine fs_ai T 29 (H.2.1 v0 5) rfl rfl (hE.1 _ 12 5 h0) ?_
      refine fs_r T 1 33 [some (.ref v0), some (.int v1)] [.int (m1.1 (H.2.1 v0 5) v1.toNatClampNeg)] rfl ?_
      exact fs_reti T rfl rfl rfl
  · refine fs_r T 2 11 [some (.ref v0), some (.int v1)] [.int (1 : Int32), .ref v0] rfl ?_
    refine fs_vI T 14 rfl rfl rfl rfl rfl rfl h0 (q_X12_fail (d := d) hE h0) ?_
    intro x1 m2
    exact fs_reti T rfl rfl rfl)
def f_X12_draftHasRoom_2 (H : fm_H) (v0 : Nat) (v1 : Int32) (v2 : Int32) : Nat → Int32 → fm_M → Option (Int32 × fm_M)
  | 0, _, _ => none
  | n + 1, v3, m =>
    if m.1 v0 6 ≤ v3 then
      some ((1 : Int32), m)
    else
    if px_inb (v3 - (1 : Int32)) (fm_sz H (H.2.1 v0 5)) = true then
      if px_inb v3 (fm_sz H (H.2.1 v0 5)) = true then
        fm_bn (f_X12_linkOf H v0 (m.1 (H.2.1 v0 5) (v3 - (1 : Int32)).toNatClampNeg) (m.1 (H.2.1 v0 5) v3.toNatClampNeg) m) fun x1 m1 =>
        fm_bn (f_X12_hasRoom H v0 x1 v1 v2 m1) fun x2 m2 =>
        if x2 = 0 then
          some ((0 : Int32), m2)
        else
        f_X12_draftHasRoom_2 H v0 v1 v2 n (v3 + 1) m2
      else none
    else none
set_option maxRecDepth 10000 in
theorem w_X12_draftHasRoom_2 {G : pm_G} {H : fm_H} {d : Nat} {z : Option Nat × Nat × Nat} {K : pm_R → fm_M → Prop} (hE : fm_E G H) {v0 : Nat} {v1 : Int32} {v2 : Int32} (h0 : fm_is H v0 12) : ∀ (n : Nat) (v3 : Int32) (m : fm_M), fm_o fm_rI (f_X12_draftHasRoom_2 H v0 v1 v2 n v3 m) K → fm_V G H (d + 5) RX12 cX12_draftHasRoom (some (.boolean)) z K 2 [some (.ref v0), some (.int v1), some (.int v2), some (.int v3)] [] m := by
  have T : fm_T RX12 cX12_draftHasRoom tc_X12_draftHasRoom fr_X12 mr_X12 cr_X12 lr_X12 := ⟨tok_X12, dc_X12_draftHasRoom⟩
  intro n
  induction n with
  | zero =>
    intro v3 m 
    exact fs_none
  | succ n ih =>
    intro v3 m 
    unfold f_X12_draftHasRoom_2
    refine fs_r T 2 4 [some (.ref v0), some (.int v1), some (.int v2), some (.int v3)] [.ref v0, .int v3] rfl ?_
    refine fs_gi T 7 12 6 v0 rfl rfl rfl rfl h0 ?_
    refine fs_ic_ge T 45 10 rfl rfl rfl (fun _ => ?_) (fun _ => ?_)
    · refine fs_r T 1 46 [some (.ref v0), some (.int v1), some (.int v2), some (.int v3)] [.int (1 : Int32)] rfl ?_
      exact fs_retc T rfl rfl rfl rfl
    · refine fs_r T 3 13 [some (.ref v0), some (.int v1), some (.int v2), some (.int v3)] [.ref v0, .ref v0, .ref v0] rfl ?_
      refine fs_gs T 16 12 5 v0 rfl rfl rfl rfl h0 ?_
      refine fs_r T 3 19 [some (.ref v0), some (.int v1), some (.int v2), some (.int v3)] [.int (v3 - (1 : Int32)), .ref (H.2.1 v0 5), .ref v0, .ref v0] rfl ?_
      refine fs_ai T 20 (H.2.1 v0 5) rfl rfl (hE.1 _ 12 5 h0) ?_
      refine fs_r T 1 21 [some (.ref v0), some (.int v1), some (.int v2), some (.int v3)] [.ref v0, .int (m.1 (H.2.1 v0 5) (v3 - (1 : Int32)).toNatClampNeg), .ref v0, .ref v0] rfl ?_
      refine fs_gs T 24 12 5 v0 rfl rfl rfl rfl h0 ?_
      refine fs_r T 1 25 [some (.ref v0), some (.int v1), some (.int v2), some (.int v3)] [.int v3, .ref (H.2.1 v0 5), .int (m.1 (H.2.1 v0 5) (v3 - (1 : Int32)).toNatClampNeg), .ref v0, .ref v0] rfl ?_
      refine fs_ai T 26 (H.2.1 v0 5) rfl rfl (hE.1 _ 12 5 h0) ?_
      refine fs_vI T 29 rfl rfl rfl rfl rfl rfl h0 (q_X12_linkOf (d := d + 3) hE h0) ?_
      intro x1 m1
      refine fs_r T 2 31 [some (.ref v0), some (.int v1), some (.int v2), some (.int v3)] [.int v2, .int v1, .int x1, .ref v0] rfl ?_
      refine fs_vI T 34 rfl rfl rfl rfl rfl rfl h0 (q_X12_hasRoom (d := d) hE h0) ?_
      intro x2 m2
      refine fs_if_ne T 39 37 rfl rfl rfl (fun _ => ?_) (fun _ => ?_)
      · refine fs_r T 1 38 [some (.ref v0), some (.int v1), some (.int v2), some (.int v3)] [.int (0 : Int32)] rfl ?_
        exact fs_retc T rfl rfl rfl rfl
      · refine fs_r T 2 2 [some (.ref v0), some (.int v1), some (.int v2), some (.int (v3 + 1))] [] rfl ?_
        exact ih _ _
def f_X12_draftHasRoom (H : fm_H) (v0 : Nat) (v1 : Int32) (v2 : Int32) (m : fm_M) : Option (Int32 × fm_M) :=
  f_X12_draftHasRoom_2 H v0 v1 v2 fm_N (1 : Int32) m
set_option maxRecDepth 10000 in
theorem q_X12_draftHasRoom {G : pm_G} {H : fm_H} {d : Nat} {z : Option Nat × Nat × Nat} {v0 : Nat} {v1 : Int32} {v2 : Int32} {m : fm_M} (hE : fm_E G H) (h0 : fm_is H v0 12) : fm_cal G H (d + 6) yX12_draftHasRoom [.ref v0, .int v1, .int v2] z m fm_rI (f_X12_draftHasRoom H v0 v1 v2 m) := fm_mth (d := d + 5) mt_X12_draftHasRoom rfl rfl rfl (fun K => by
  show fm_o fm_rI (f_X12_draftHasRoom H v0 v1 v2 m) K → fm_V G H (d + 5) RX12 cX12_draftHasRoom (some (.boolean)) z K 0 [some (.ref v0), some (.int v1), some (.int v2), none] [] m
  have T : fm_T RX12 cX12_draftHasRoom tc_X12_draftHasRoom fr_X12 mr_X12 cr_X12 lr_X12 := ⟨tok_X12, dc_X12_draftHasRoom⟩
  unfold f_X12_draftHasRoom
  refine fs_r T 2 2 [some (.ref v0), some (.int v1), some (.int v2), some (.int (1 : Int32))] [] rfl ?_
  exact w_X12_draftHasRoom_2 hE h0 _ _ _)
def f_X12_layDraft_14 (H : fm_H) (v0 : Nat) (v1 : Int32) (v2 : Int32) (v3 : Int32) : Nat → Int32 → fm_M → Option (Int32 × fm_M)
  | 0, _, _ => none
  | n + 1, v4, m =>
    if m.1 v0 6 ≤ v4 then
      some ((1 : Int32), m)
    else
    if px_inb v4 (fm_sz H (H.2.1 v0 5)) = true then
      fm_bn (f_X12_appendToWay H v0 v1 v2 (m.1 (H.2.1 v0 5) v4.toNatClampNeg) v3 m) fun x1 m1 =>
      if x1 = 0 then
        fm_bn (f_X12_wayPlace H v1 v2 m1) fun x2 m2 =>
        if px_inb x2 (fm_sz H (H.2.1 v0 0)) = true then
          (fm_bd (fm_si m2 (H.2.1 v0 0) x2.toNatClampNeg (0 : Int32)) fun m3 =>
          some ((0 : Int32), m3))
        else none
      else
      f_X12_layDraft_14 H v0 v1 v2 v3 n (v4 + 1) m1
    else none
set_option maxRecDepth 10000 in
theorem w_X12_layDraft_14 {G : pm_G} {H : fm_H} {d : Nat} {z : Option Nat × Nat × Nat} {K : pm_R → fm_M → Prop} (hE : fm_E G H) {v0 : Nat} {v1 : Int32} {v2 : Int32} {v3 : Int32} (h0 : fm_is H v0 12) : ∀ (n : Nat) (v4 : Int32) (m : fm_M), fm_o fm_rI (f_X12_layDraft_14 H v0 v1 v2 v3 n v4 m) K → fm_V G H (d + 5) RX12 cX12_layDraft (some (.boolean)) z K 14 [some (.ref v0), some (.int v1), some (.int v2), some (.int v3), some (.int v4)] [] m := by
  have T : fm_T RX12 cX12_layDraft tc_X12_layDraft fr_X12 mr_X12 cr_X12 lr_X12 := ⟨tok_X12, dc_X12_layDraft⟩
  intro n
  induction n with
  | zero =>
    intro v4 m 
    exact fs_none
  | succ n ih =>
    intro v4 m 
    unfold f_X12_layDraft_14
    refine fs_r T 2 17 [some (.ref v0), some (.int v1), some (.int v2), some (.int v3), some (.int v4)] [.ref v0, .int v4] rfl ?_
    refine fs_gi T 20 12 6 v0 rfl rfl rfl rfl h0 ?_
    refine fs_ic_ge T 59 23 rfl rfl rfl (fun _ => ?_) (fun _ => ?_)
    · refine fs_r T 1 60 [some (.ref v0), some (.int v1), some (.int v2), some (.int v3), some (.int v4)] [.int (1 : Int32)] rfl ?_
      exact fs_retc T rfl rfl rfl rfl
    · refine fs_r T 4 27 [some (.ref v0), some (.int v1), some (.int v2), some (.int v3), some (.int v4)] [.ref v0, .int v2, .int v1, .ref v0] rfl ?_
      refine fs_gs T 30 12 5 v0 rfl rfl rfl rfl h0 ?_
      refine fs_r T 1 32 [some (.ref v0), some (.int v1), some (.int v2), some (.int v3), some (.int v4)] [.int v4, .ref (H.2.1 v0 5), .int v2, .int v1, .ref v0] rfl ?_
      refine fs_ai T 33 (H.2.1 v0 5) rfl rfl (hE.1 _ 12 5 h0) ?_
      refine fs_r T 1 34 [some (.ref v0), some (.int v1), some (.int v2), some (.int v3), some (.int v4)] [.int v3, .int (m.1 (H.2.1 v0 5) v4.toNatClampNeg), .int v2, .int v1, .ref v0] rfl ?_
      refine fs_vI T 37 rfl rfl rfl rfl rfl rfl h0 (q_X12_appendToWay (d := d) hE h0) ?_
      intro x1 m1
      refine fs_if_ne T 53 40 rfl rfl rfl (fun _ => ?_) (fun _ => ?_)
      · refine fs_r T 1 41 [some (.ref v0), some (.int v1), some (.int v2), some (.int v3), some (.int v4)] [.ref v0] rfl ?_
        refine fs_gs T 44 12 0 v0 rfl rfl rfl rfl h0 ?_
        refine fs_r T 2 46 [some (.ref v0), some (.int v1), some (.int v2), some (.int v3), some (.int v4)] [.int v2, .int v1, .ref (H.2.1 v0 0)] rfl ?_
        refine fs_sI T 49 rfl rfl rfl rfl rfl rfl rfl (q_X12_wayPlace (d := d + 4) hE ) ?_
        intro x2 m2
        refine fs_r T 1 50 [some (.ref v0), some (.int v1), some (.int v2), some (.int v3), some (.int v4)] [.int (0 : Int32), .int x2, .ref (H.2.1 v0 0)] rfl ?_
        refine fs_si T 51 (H.2.1 v0 0) rfl rfl (hE.1 _ 12 0 h0) ?_
        intro m3
        refine fs_r T 1 52 [some (.ref v0), some (.int v1), some (.int v2), some (.int v3), some (.int v4)] [.int (0 : Int32)] rfl ?_
        exact fs_retc T rfl rfl rfl rfl
      · refine fs_r T 2 14 [some (.ref v0), some (.int v1), some (.int v2), some (.int v3), some (.int (v4 + 1))] [] rfl ?_
        exact ih _ _
def f_X12_layDraft (H : fm_H) (v0 : Nat) (v1 : Int32) (v2 : Int32) (v3 : Int32) (m : fm_M) : Option (Int32 × fm_M) :=
  fm_bn (f_X12_wayPlace H v1 v2 m) fun x1 m1 =>
  if px_inb x1 (fm_sz H (H.2.1 v0 0)) = true then
    (fm_bd (fm_si m1 (H.2.1 v0 0) x1.toNatClampNeg (0 : Int32)) fun m2 =>
    f_X12_layDraft_14 H v0 v1 v2 v3 fm_N (0 : Int32) m2)
  else none
set_option maxRecDepth 10000 in
theorem q_X12_layDraft {G : pm_G} {H : fm_H} {d : Nat} {z : Option Nat × Nat × Nat} {v0 : Nat} {v1 : Int32} {v2 : Int32} {v3 : Int32} {m : fm_M} (hE : fm_E G H) (h0 : fm_is H v0 12) : fm_cal G H (d + 6) yX12_layDraft [.ref v0, .int v1, .int v2, .int v3] z m fm_rI (f_X12_layDraft H v0 v1 v2 v3 m) := fm_mth (d := d + 5) mt_X12_layDraft rfl rfl rfl (fun K => by
  show fm_o fm_rI (f_X12_layDraft H v0 v1 v2 v3 m) K → fm_V G H (d + 5) RX12 cX12_layDraft (some (.boolean)) z K 0 [some (.ref v0), some (.int v1), some (.int v2), some (.int v3), none] [] m
  have T : fm_T RX12 cX12_layDraft tc_X12_layDraft fr_X12 mr_X12 cr_X12 lr_X12 := ⟨tok_X12, dc_X12_layDraft⟩
  unfold f_X12_layDraft
  refine fs_r T 1 1 [some (.ref v0), some (.int v1), some (.int v2), some (.int v3), none] [.ref v0] rfl ?_
  refine fs_gs T 4 12 0 v0 rfl rfl rfl rfl h0 ?_
  refine fs_r T 2 6 [some (.ref v0), some (.int v1), some (.int v2), some (.int v3), none] [.int v2, .int v1, .ref (H.2.1 v0 0)] rfl ?_
  refine fs_sI T 9 rfl rfl rfl rfl rfl rfl rfl (q_X12_wayPlace (d := d + 4) hE ) ?_
  intro x1 m1
  refine fs_r T 1 10 [some (.ref v0), some (.int v1), some (.int v2), some (.int v3), none] [.int (0 : Int32), .int x1, .ref (H.2.1 v0 0)] rfl ?_
  refine fs_si T 11 (H.2.1 v0 0) rfl rfl (hE.1 _ 12 0 h0) ?_
  intro m2
  refine fs_r T 2 14 [some (.ref v0), some (.int v1), some (.int v2), some (.int v3), some (.int (0 : Int32))] [] rfl ?_
  exact w_X12_layDraft_14 hE h0 _ _ _)
def f_X12_open (H : fm_H) (v0 : Nat) (v1 : Int32) (v2 : Int32) (m : fm_M) : Option (Int32 × fm_M) :=
  fm_bd (fm_si m v0 7 (0 : Int32)) fun m1 =>
  fm_bn (f_X12_isBetween H v1 (1 : Int32) (20 : Int32) m1) fun x1 m2 =>
  if x1 = 0 then
    fm_bn (f_X12_fail H v0 (1 : Int32) m2) fun x2 m3 =>
    some (x2, m3)
  else
  fm_bn (f_X12_isBetween H v2 (0 : Int32) (9 : Int32) m2) fun x3 m4 =>
  if x3 = 0 then
    fm_bn (f_X12_fail H v0 (1 : Int32) m4) fun x7 m10 =>
    some (x7, m10)
  else
  if px_inb (4 : Int32) (fm_sz H (H.2.1 v0 0)) = true then
    if m4.1 (H.2.1 v0 0) (4 : Int32).toNatClampNeg = (8 : Int32) then
      some ((1 : Int32), m4)
    else
    if (2 : Int32) ≤ m4.1 v0 6 then
      fm_bn (f_X12_draftHasRoom H v0 (-1 : Int32) v1 m4) fun x4 m5 =>
      if x4 = 0 then
        some ((5 : Int32), m5)
      else
      fm_bn (f_X12_appendCircuit H v0 v1 v2 m5) fun x5 m6 =>
      fm_bn (f_X12_layDraft H v0 x5 (0 : Int32) (1 : Int32) m6) fun x6 m7 =>
      if x6 = 0 then
        if px_inb (4 : Int32) (fm_sz H (H.2.1 v0 0)) = true then
          if px_inb (4 : Int32) (fm_sz H (H.2.1 v0 0)) = true then
            (fm_bd (fm_si m7 (H.2.1 v0 0) (4 : Int32).toNatClampNeg (m7.1 (H.2.1 v0 0) (4 : Int32).toNatClampNeg - (1 : Int32))) fun m9 =>
            some ((6 : Int32), m9))
          else none
        else none
      else
      fm_bd (fm_si m7 v0 6 (0 : Int32)) fun m8 =>
      some ((0 : Int32), m8)
    else
    some ((3 : Int32), m4)
  else none
set_option maxRecDepth 10000 in
theorem q_X12_open {G : pm_G} {H : fm_H} {d : Nat} {z : Option Nat × Nat × Nat} {v0 : Nat} {v1 : Int32} {v2 : Int32} {m : fm_M} (hE : fm_E G H) (h0 : fm_is H v0 12) : fm_cal G H (d + 7) yX12_open [.ref v0, .int v1, .int v2] z m fm_rI (f_X12_open H v0 v1 v2 m) := fm_mth (d := d + 6) mt_X12_open rfl rfl rfl (fun K => by
  show fm_o fm_rI (f_X12_open H v0 v1 v2 m) K → fm_V G H (d + 6) RX12 cX12_open (some (.int)) z K 0 [some (.ref v0), some (.int v1), some (.int v2), none] [] m
  have T : fm_T RX12 cX12_open tc_X12_open fr_X12 mr_X12 cr_X12 lr_X12 := ⟨tok_X12, dc_X12_open⟩
  unfold f_X12_open
  refine fs_r T 2 2 [some (.ref v0), some (.int v1), some (.int v2), none] [.int (0 : Int32), .ref v0] rfl ?_
  refine fs_pi T 5 12 7 v0 rfl rfl rfl rfl h0 ?_
  intro m1
  refine fs_r T 3 9 [some (.ref v0), some (.int v1), some (.int v2), none] [.int (20 : Int32), .int (1 : Int32), .int v1] rfl ?_
  refine fs_sI T 12 rfl rfl rfl rfl rfl rfl rfl (q_X12_isBetween (d := d + 5) hE ) ?_
  intro x1 m2
  refine fs_if_eq T 25 15 rfl rfl rfl (fun _ => ?_) (fun _ => ?_)
  · refine fs_r T 2 27 [some (.ref v0), some (.int v1), some (.int v2), none] [.int (1 : Int32), .ref v0] rfl ?_
    refine fs_vI T 30 rfl rfl rfl rfl rfl rfl h0 (q_X12_fail (d := d + 5) hE h0) ?_
    intro x2 m3
    exact fs_reti T rfl rfl rfl
  · refine fs_r T 3 19 [some (.ref v0), some (.int v1), some (.int v2), none] [.int (9 : Int32), .int (0 : Int32), .int v2] rfl ?_
    refine fs_sI T 22 rfl rfl rfl rfl rfl rfl rfl (q_X12_isBetween (d := d + 5) hE ) ?_
    intro x3 m4
    refine fs_if_ne T 31 25 rfl rfl rfl (fun _ => ?_) (fun _ => ?_)
    · refine fs_r T 2 27 [some (.ref v0), some (.int v1), some (.int v2), none] [.int (1 : Int32), .ref v0] rfl ?_
      refine fs_vI T 30 rfl rfl rfl rfl rfl rfl h0 (q_X12_fail (d := d + 5) hE h0) ?_
      intro x7 m10
      exact fs_reti T rfl rfl rfl
    · refine fs_r T 1 32 [some (.ref v0), some (.int v1), some (.int v2), none] [.ref v0] rfl ?_
      refine fs_gs T 35 12 0 v0 rfl rfl rfl rfl h0 ?_
      refine fs_r T 1 36 [some (.ref v0), some (.int v1), some (.int v2), none] [.int (4 : Int32), .ref (H.2.1 v0 0)] rfl ?_
      refine fs_ai T 37 (H.2.1 v0 0) rfl rfl (hE.1 _ 12 0 h0) ?_
      refine fs_r T 1 39 [some (.ref v0), some (.int v1), some (.int v2), none] [.int (8 : Int32), .int (m4.1 (H.2.1 v0 0) (4 : Int32).toNatClampNeg)] rfl ?_
      refine fs_ic_ne T 44 42 rfl rfl rfl (fun _ => ?_) (fun _ => ?_)
      · refine fs_r T 1 43 [some (.ref v0), some (.int v1), some (.int v2), none] [.int (1 : Int32)] rfl ?_
        exact fs_reti T rfl rfl rfl
      · refine fs_r T 1 45 [some (.ref v0), some (.int v1), some (.int v2), none] [.ref v0] rfl ?_
        refine fs_gi T 48 12 6 v0 rfl rfl rfl rfl h0 ?_
        refine fs_r T 1 49 [some (.ref v0), some (.int v1), some (.int v2), none] [.int (2 : Int32), .int (m4.1 v0 6)] rfl ?_
        refine fs_ic_ge T 54 52 rfl rfl rfl (fun _ => ?_) (fun _ => ?_)
        · refine fs_r T 3 57 [some (.ref v0), some (.int v1), some (.int v2), none] [.int v1, .int (-1 : Int32), .ref v0] rfl ?_
          refine fs_vI T 60 rfl rfl rfl rfl rfl rfl h0 (q_X12_draftHasRoom (d := d) hE h0) ?_
          intro x4 m5
          refine fs_if_ne T 65 63 rfl rfl rfl (fun _ => ?_) (fun _ => ?_)
          · refine fs_r T 1 64 [some (.ref v0), some (.int v1), some (.int v2), none] [.int (5 : Int32)] rfl ?_
            exact fs_reti T rfl rfl rfl
          · refine fs_r T 3 68 [some (.ref v0), some (.int v1), some (.int v2), none] [.int v2, .int v1, .ref v0] rfl ?_
            refine fs_vI T 71 rfl rfl rfl rfl rfl rfl h0 (q_X12_appendCircuit (d := d + 4) hE h0) ?_
            intro x5 m6
            refine fs_r T 5 76 [some (.ref v0), some (.int v1), some (.int v2), some (.int x5)] [.int (1 : Int32), .int (0 : Int32), .int x5, .ref v0] rfl ?_
            refine fs_vI T 79 rfl rfl rfl rfl rfl rfl h0 (q_X12_layDraft (d := d) hE h0) ?_
            intro x6 m7
            refine fs_if_ne T 95 82 rfl rfl rfl (fun _ => ?_) (fun _ => ?_)
            · refine fs_r T 1 83 [some (.ref v0), some (.int v1), some (.int v2), some (.int x5)] [.ref v0] rfl ?_
              refine fs_gs T 86 12 0 v0 rfl rfl rfl rfl h0 ?_
              refine fs_r T 2 88 [some (.ref v0), some (.int v1), some (.int v2), some (.int x5)] [.int (4 : Int32), .ref (H.2.1 v0 0), .int (4 : Int32), .ref (H.2.1 v0 0)] rfl ?_
              refine fs_ai T 89 (H.2.1 v0 0) rfl rfl (hE.1 _ 12 0 h0) ?_
              refine fs_r T 2 91 [some (.ref v0), some (.int v1), some (.int v2), some (.int x5)] [.int (m7.1 (H.2.1 v0 0) (4 : Int32).toNatClampNeg - (1 : Int32)), .int (4 : Int32), .ref (H.2.1 v0 0)] rfl ?_
              refine fs_si T 92 (H.2.1 v0 0) rfl rfl (hE.1 _ 12 0 h0) ?_
              intro m9
              refine fs_r T 1 94 [some (.ref v0), some (.int v1), some (.int v2), some (.int x5)] [.int (6 : Int32)] rfl ?_
              exact fs_reti T rfl rfl rfl
            · refine fs_r T 2 97 [some (.ref v0), some (.int v1), some (.int v2), some (.int x5)] [.int (0 : Int32), .ref v0] rfl ?_
              refine fs_pi T 100 12 6 v0 rfl rfl rfl rfl h0 ?_
              intro m8
              refine fs_r T 1 101 [some (.ref v0), some (.int v1), some (.int v2), some (.int x5)] [.int (0 : Int32)] rfl ?_
              exact fs_reti T rfl rfl rfl
        · refine fs_r T 1 53 [some (.ref v0), some (.int v1), some (.int v2), none] [.int (3 : Int32)] rfl ?_
          exact fs_reti T rfl rfl rfl)
