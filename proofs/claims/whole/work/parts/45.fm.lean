/-! functions out of the code -/
def f_X12_cutOff_57 (H : fm_H) (k4 : Int32 → Int32 → fm_M → Option (Int32 × fm_M)) (v0 : Nat) (v1 : Int32) (v2 : Int32) (v3 : Int32) (s0 : Int32) (m : fm_M) : Option (Int32 × fm_M) :=
  if s0 = 0 then
    k4 (v2 + (0 : Int32)) (v3 + 1) m
  else
  k4 (v2 + (1 : Int32)) (v3 + 1) m
set_option maxRecDepth 10000 in
theorem w_X12_cutOff_57 {G : pm_G} {H : fm_H} {d : Nat} {z : Option Nat × Nat × Nat} {K : pm_R → fm_M → Prop} (hE : fm_E G H) {k4 : Int32 → Int32 → fm_M → Option (Int32 × fm_M)} {v0 : Nat} {v1 : Int32} {v2 : Int32} {v3 : Int32} (Hk4 : ∀ (v2 : Int32) (v3 : Int32) (m : fm_M), fm_o fm_rI (k4 v2 v3 m) K → fm_V G H (d + 6) RX12 cX12_cutOff (some (.int)) z K 4 [some (.ref v0), some (.int v1), some (.int v2), some (.int v3), none] [] m) (h0 : fm_is H v0 12) : ∀ (s0 : Int32) (m : fm_M), fm_o fm_rI (f_X12_cutOff_57 H k4 v0 v1 v2 v3 s0 m) K → fm_V G H (d + 6) RX12 cX12_cutOff (some (.int)) z K 57 [some (.ref v0), some (.int v1), some (.int v2), some (.int v3), none] [.int s0] m := by
  have T : fm_T RX12 cX12_cutOff tc_X12_cutOff fr_X12 mr_X12 cr_X12 lr_X12 := ⟨tok_X12, dc_X12_cutOff⟩
  intro s0 m
  unfold f_X12_cutOff_57
  refine fs_r T 3 62 [some (.ref v0), some (.int v1), some (.int v2), some (.int v3), some (.int s0)] [.int s0, .int v2] rfl ?_
  refine fs_if_eq T 69 65 rfl rfl rfl (fun _ => ?_) (fun _ => ?_)
  · refine fs_r T 5 4 [some (.ref v0), some (.int v1), some (.int (v2 + (0 : Int32))), some (.int (v3 + 1)), some (.int s0)] [] rfl ?_
    refine fs_wk (ls' := [some (.ref v0), some (.int v1), some (.int (v2 + (0 : Int32))), some (.int (v3 + 1)), none]) ⟨rfl, rfl, rfl, rfl, trivial⟩ ?_
    exact Hk4 _ _ _
  · refine fs_r T 6 4 [some (.ref v0), some (.int v1), some (.int (v2 + (1 : Int32))), some (.int (v3 + 1)), some (.int s0)] [] rfl ?_
    refine fs_wk (ls' := [some (.ref v0), some (.int v1), some (.int (v2 + (1 : Int32))), some (.int (v3 + 1)), none]) ⟨rfl, rfl, rfl, rfl, trivial⟩ ?_
    exact Hk4 _ _ _
def f_X12_cutOff_4 (H : fm_H) (v0 : Nat) (v1 : Int32) : Nat → Int32 → Int32 → fm_M → Option (Int32 × fm_M)
  | 0, _, _, _ => none
  | n + 1, v2, v3, m =>
    if px_inb (4 : Int32) (fm_sz H (H.2.1 v0 0)) = true then
      if m.1 (H.2.1 v0 0) (4 : Int32).toNatClampNeg ≤ v3 then
        some (v2, m)
      else
      fm_bn (f_X12_activePlace H v0 v3 m) fun x1 m1 =>
      fm_bn (f_X12_usesLink H v0 x1 v1 m1) fun x2 m2 =>
      if x2 = 0 then
        f_X12_cutOff_57 H (f_X12_cutOff_4 H v0 v1 n) v0 v1 v2 v3 (0 : Int32) m2
      else
      fm_bn (f_X12_firstOf H v0 v3 m2) fun x3 m3 =>
      fm_bn (f_X12_lastOf H v0 v3 m3) fun x4 m4 =>
      fm_bn (f_X12_of H v0 v3 (0 : Int32) m4) fun x5 m5 =>
      fm_bn (f_X12_layBest H v0 x3 x4 v3 x5 v1 m5) fun x6 m6 =>
      if x6 = 0 then
        f_X12_cutOff_57 H (f_X12_cutOff_4 H v0 v1 n) v0 v1 v2 v3 (1 : Int32) m6
      else
      f_X12_cutOff_57 H (f_X12_cutOff_4 H v0 v1 n) v0 v1 v2 v3 (0 : Int32) m6
    else none
set_option maxRecDepth 10000 in
theorem w_X12_cutOff_4 {G : pm_G} {H : fm_H} {d : Nat} {z : Option Nat × Nat × Nat} {K : pm_R → fm_M → Prop} (hE : fm_E G H) {v0 : Nat} {v1 : Int32} (h0 : fm_is H v0 12) : ∀ (n : Nat) (v2 : Int32) (v3 : Int32) (m : fm_M), fm_o fm_rI (f_X12_cutOff_4 H v0 v1 n v2 v3 m) K → fm_V G H (d + 6) RX12 cX12_cutOff (some (.int)) z K 4 [some (.ref v0), some (.int v1), some (.int v2), some (.int v3), none] [] m := by
  have T : fm_T RX12 cX12_cutOff tc_X12_cutOff fr_X12 mr_X12 cr_X12 lr_X12 := ⟨tok_X12, dc_X12_cutOff⟩
  intro n
  induction n with
  | zero =>
    intro v2 v3 m 
    exact fs_none
  | succ n ih =>
    intro v2 v3 m 
    unfold f_X12_cutOff_4
    refine fs_r T 2 6 [some (.ref v0), some (.int v1), some (.int v2), some (.int v3), none] [.ref v0, .int v3] rfl ?_
    refine fs_gs T 9 12 0 v0 rfl rfl rfl rfl h0 ?_
    refine fs_r T 1 10 [some (.ref v0), some (.int v1), some (.int v2), some (.int v3), none] [.int (4 : Int32), .ref (H.2.1 v0 0), .int v3] rfl ?_
    refine fs_ai T 11 (H.2.1 v0 0) rfl rfl (hE.1 _ 12 0 h0) ?_
    refine fs_ic_ge T 78 14 rfl rfl rfl (fun _ => ?_) (fun _ => ?_)
    · refine fs_r T 1 79 [some (.ref v0), some (.int v1), some (.int v2), some (.int v3), none] [.int v2] rfl ?_
      exact fs_reti T rfl rfl rfl
    · refine fs_r T 3 17 [some (.ref v0), some (.int v1), some (.int v2), some (.int v3), none] [.int v3, .ref v0, .ref v0] rfl ?_
      refine fs_vI T 20 rfl rfl rfl rfl rfl rfl h0 (q_X12_activePlace (d := d + 4) hE h0) ?_
      intro x1 m1
      refine fs_r T 1 21 [some (.ref v0), some (.int v1), some (.int v2), some (.int v3), none] [.int v1, .int x1, .ref v0] rfl ?_
      refine fs_vI T 24 rfl rfl rfl rfl rfl rfl h0 (q_X12_usesLink (d := d + 3) hE h0) ?_
      intro x2 m2
      refine fs_if_eq T 56 27 rfl rfl rfl (fun _ => ?_) (fun _ => ?_)
      · refine fs_r T 1 57 [some (.ref v0), some (.int v1), some (.int v2), some (.int v3), none] [.int (0 : Int32)] rfl ?_
        exact w_X12_cutOff_57 hE ih h0 _ _
      · refine fs_r T 3 30 [some (.ref v0), some (.int v1), some (.int v2), some (.int v3), none] [.int v3, .ref v0, .ref v0] rfl ?_
        refine fs_vI T 33 rfl rfl rfl rfl rfl rfl h0 (q_X12_firstOf (d := d + 4) hE h0) ?_
        intro x3 m3
        refine fs_r T 2 35 [some (.ref v0), some (.int v1), some (.int v2), some (.int v3), none] [.int v3, .ref v0, .int x3, .ref v0] rfl ?_
        refine fs_vI T 38 rfl rfl rfl rfl rfl rfl h0 (q_X12_lastOf (d := d + 4) hE h0) ?_
        intro x4 m4
        refine fs_r T 4 42 [some (.ref v0), some (.int v1), some (.int v2), some (.int v3), none] [.int (0 : Int32), .int v3, .ref v0, .int v3, .int x4, .int x3, .ref v0] rfl ?_
        refine fs_vI T 45 rfl rfl rfl rfl rfl rfl h0 (q_X12_of (d := d + 5) hE h0) ?_
        intro x5 m5
        refine fs_r T 1 46 [some (.ref v0), some (.int v1), some (.int v2), some (.int v3), none] [.int v1, .int x5, .int v3, .int x4, .int x3, .ref v0] rfl ?_
        refine fs_vI T 49 rfl rfl rfl rfl rfl rfl h0 (q_X12_layBest (d := d) hE h0) ?_
        intro x6 m6
        refine fs_if_ne T 56 52 rfl rfl rfl (fun _ => ?_) (fun _ => ?_)
        · refine fs_r T 2 57 [some (.ref v0), some (.int v1), some (.int v2), some (.int v3), none] [.int (1 : Int32)] rfl ?_
          exact w_X12_cutOff_57 hE ih h0 _ _
        · refine fs_r T 1 57 [some (.ref v0), some (.int v1), some (.int v2), some (.int v3), none] [.int (0 : Int32)] rfl ?_
          exact w_X12_cutOff_57 hE ih h0 _ _
def f_X12_cutOff (H : fm_H) (v0 : Nat) (v1 : Int32) (m : fm_M) : Option (Int32 × fm_M) :=
  f_X12_cutOff_4 H v0 v1 fm_N (0 : Int32) (0 : Int32) m
set_option maxRecDepth 10000 in
theorem q_X12_cutOff {G : pm_G} {H : fm_H} {d : Nat} {z : Option Nat × Nat × Nat} {v0 : Nat} {v1 : Int32} {m : fm_M} (hE : fm_E G H) (h0 : fm_is H v0 12) : fm_cal G H (d + 7) yX12_cutOff [.ref v0, .int v1] z m fm_rI (f_X12_cutOff H v0 v1 m) := fm_mth (d := d + 6) mt_X12_cutOff rfl rfl rfl (fun K => by
  show fm_o fm_rI (f_X12_cutOff H v0 v1 m) K → fm_V G H (d + 6) RX12 cX12_cutOff (some (.int)) z K 0 [some (.ref v0), some (.int v1), none, none, none] [] m
  have T : fm_T RX12 cX12_cutOff tc_X12_cutOff fr_X12 mr_X12 cr_X12 lr_X12 := ⟨tok_X12, dc_X12_cutOff⟩
  unfold f_X12_cutOff
  refine fs_r T 4 4 [some (.ref v0), some (.int v1), some (.int (0 : Int32)), some (.int (0 : Int32)), none] [] rfl ?_
  exact w_X12_cutOff_4 hE h0 _ _ _ _)
def f_X12_weakLink_11 (H : fm_H) (v0 : Nat) : Nat → Int32 → Int32 → Int32 → fm_M → Option (Int32 × fm_M)
  | 0, _, _, _, _ => none
  | n + 1, v1, v2, v3, m =>
    if px_inb (3 : Int32) (fm_sz H (H.2.1 v0 0)) = true then
      if m.1 (H.2.1 v0 0) (3 : Int32).toNatClampNeg ≤ v3 then
        some (v1, m)
      else
      fm_bn (f_X12_cutOff H v0 v3 m) fun x1 m1 =>
      if x1 ≤ v2 then
        f_X12_weakLink_11 H v0 n v1 v2 (v3 + 1) m1
      else
      f_X12_weakLink_11 H v0 n v3 x1 (v3 + 1) m1
    else none
set_option maxRecDepth 10000 in
theorem w_X12_weakLink_11 {G : pm_G} {H : fm_H} {d : Nat} {z : Option Nat × Nat × Nat} {K : pm_R → fm_M → Prop} (hE : fm_E G H) {v0 : Nat} (h0 : fm_is H v0 12) : ∀ (n : Nat) (v1 : Int32) (v2 : Int32) (v3 : Int32) (m : fm_M), fm_o fm_rI (f_X12_weakLink_11 H v0 n v1 v2 v3 m) K → fm_V G H (d + 7) RX12 cX12_weakLink (some (.int)) z K 11 [some (.ref v0), some (.int v1), some (.int v2), some (.int v3), none] [] m := by
  have T : fm_T RX12 cX12_weakLink tc_X12_weakLink fr_X12 mr_X12 cr_X12 lr_X12 := ⟨tok_X12, dc_X12_weakLink⟩
  intro n
  induction n with
  | zero =>
    intro v1 v2 v3 m 
    exact fs_none
  | succ n ih =>
    intro v1 v2 v3 m 
    unfold f_X12_weakLink_11
    refine fs_r T 2 13 [some (.ref v0), some (.int v1), some (.int v2), some (.int v3), none] [.ref v0, .int v3] rfl ?_
    refine fs_gs T 16 12 0 v0 rfl rfl rfl rfl h0 ?_
    refine fs_r T 1 17 [some (.ref v0), some (.int v1), some (.int v2), some (.int v3), none] [.int (3 : Int32), .ref (H.2.1 v0 0), .int v3] rfl ?_
    refine fs_ai T 18 (H.2.1 v0 0) rfl rfl (hE.1 _ 12 0 h0) ?_
    refine fs_ic_ge T 45 21 rfl rfl rfl (fun _ => ?_) (fun _ => ?_)
    · refine fs_r T 1 46 [some (.ref v0), some (.int v1), some (.int v2), some (.int v3), none] [.int v1] rfl ?_
      exact fs_reti T rfl rfl rfl
    · refine fs_r T 2 23 [some (.ref v0), some (.int v1), some (.int v2), some (.int v3), none] [.int v3, .ref v0] rfl ?_
      refine fs_vI T 26 rfl rfl rfl rfl rfl rfl h0 (q_X12_cutOff (d := d) hE h0) ?_
      intro x1 m1
      refine fs_r T 3 31 [some (.ref v0), some (.int v1), some (.int v2), some (.int v3), some (.int x1)] [.int v2, .int x1] rfl ?_
      refine fs_ic_le T 39 34 rfl rfl rfl (fun _ => ?_) (fun _ => ?_)
      · refine fs_r T 2 11 [some (.ref v0), some (.int v1), some (.int v2), some (.int (v3 + 1)), some (.int x1)] [] rfl ?_
        refine fs_wk (ls' := [some (.ref v0), some (.int v1), some (.int v2), some (.int (v3 + 1)), none]) ⟨rfl, rfl, rfl, rfl, trivial⟩ ?_
        exact ih _ _ _ _
      · refine fs_r T 6 11 [some (.ref v0), some (.int v3), some (.int x1), some (.int (v3 + 1)), some (.int x1)] [] rfl ?_
        refine fs_wk (ls' := [some (.ref v0), some (.int v3), some (.int x1), some (.int (v3 + 1)), none]) ⟨rfl, rfl, rfl, rfl, trivial⟩ ?_
        exact ih _ _ _ _
def f_X12_weakLink (H : fm_H) (v0 : Nat) (m : fm_M) : Option (Int32 × fm_M) :=
  fm_bd (fm_si m v0 7 (0 : Int32)) fun m1 =>
  f_X12_weakLink_11 H v0 fm_N (-1 : Int32) (0 : Int32) (0 : Int32) m1
set_option maxRecDepth 10000 in
theorem q_X12_weakLink {G : pm_G} {H : fm_H} {d : Nat} {z : Option Nat × Nat × Nat} {v0 : Nat} {m : fm_M} (hE : fm_E G H) (h0 : fm_is H v0 12) : fm_cal G H (d + 8) yX12_weakLink [.ref v0] z m fm_rI (f_X12_weakLink H v0 m) := fm_mth (d := d + 7) mt_X12_weakLink rfl rfl rfl (fun K => by
  show fm_o fm_rI (f_X12_weakLink H v0 m) K → fm_V G H (d + 7) RX12 cX12_weakLink (some (.int)) z K 0 [some (.ref v0), none, none, none, none] [] m
  have T : fm_T RX12 cX12_weakLink tc_X12_weakLink fr_X12 mr_X12 cr_X12 lr_X12 := ⟨tok_X12, dc_X12_weakLink⟩
  unfold f_X12_weakLink
  refine fs_r T 2 2 [some (.ref v0), none, none, none, none] [.int (0 : Int32), .ref v0] rfl ?_
  refine fs_pi T 5 12 7 v0 rfl rfl rfl rfl h0 ?_
  intro m1
  refine fs_r T 6 11 [some (.ref v0), some (.int (-1 : Int32)), some (.int (0 : Int32)), some (.int (0 : Int32)), none] [] rfl ?_
  exact w_X12_weakLink_11 hE h0 _ _ _ _ _)
def f_X12_save_15 (H : fm_H) (v0 : Nat) (v1 : Int32) (s0 : Int32) (s1 : Nat) (m : fm_M) : Option (Unit × fm_M) :=
  fm_bd (fm_si m s1 7 s0) fun m1 =>
  if m1.1 v0 7 = 0 then
    fm_bn (f_X12_copy H (H.2.1 v0 0) (0 : Int32) (H.2.1 v0 3) ((1112 : Int32) * v1) m1) fun _ m2 =>
    if px_inb v1 (fm_sz H (H.2.1 v0 4)) = true then
      (fm_bd (fm_si m2 (H.2.1 v0 4) v1.toNatClampNeg (fm_nw .boolean (1 : Int32))) fun m3 =>
      some ((), m3))
    else none
  else
  some ((), m1)
set_option maxRecDepth 10000 in
theorem w_X12_save_15 {G : pm_G} {H : fm_H} {d : Nat} {z : Option Nat × Nat × Nat} {K : pm_R → fm_M → Prop} (hE : fm_E G H) {v0 : Nat} {v1 : Int32} (h0 : fm_is H v0 12) : ∀ (s0 : Int32) (s1 : Nat) (m : fm_M), fm_is H s1 12 → fm_o fm_rV (f_X12_save_15 H v0 v1 s0 s1 m) K → fm_V G H (d + 1) RX12 cX12_save none z K 15 [some (.ref v0), some (.int v1)] [.int s0, .ref s1] m := by
  have T : fm_T RX12 cX12_save tc_X12_save fr_X12 mr_X12 cr_X12 lr_X12 := ⟨tok_X12, dc_X12_save⟩
  intro s0 s1 m hs1
  unfold f_X12_save_15
  refine fs_pi T 18 12 7 s1 rfl rfl rfl rfl hs1 ?_
  intro m1
  refine fs_r T 1 19 [some (.ref v0), some (.int v1)] [.ref v0] rfl ?_
  refine fs_gi T 22 12 7 v0 rfl rfl rfl rfl h0 ?_
  refine fs_if_ne T 49 25 rfl rfl rfl (fun _ => ?_) (fun _ => ?_)
  · refine fs_r T 1 26 [some (.ref v0), some (.int v1)] [.ref v0] rfl ?_
    refine fs_gs T 29 12 0 v0 rfl rfl rfl rfl h0 ?_
    refine fs_r T 2 31 [some (.ref v0), some (.int v1)] [.ref v0, .int (0 : Int32), .ref (H.2.1 v0 0)] rfl ?_
    refine fs_gs T 34 12 3 v0 rfl rfl rfl rfl h0 ?_
    refine fs_r T 3 39 [some (.ref v0), some (.int v1)] [.int ((1112 : Int32) * v1), .ref (H.2.1 v0 3), .int (0 : Int32), .ref (H.2.1 v0 0)] rfl ?_
    refine fs_sV T 42 rfl rfl rfl rfl rfl rfl rfl (q_X12_copy (d := d) hE (hE.1 _ 12 0 h0) (hE.1 _ 12 3 h0)) ?_
    intro x1 m2
    refine fs_r T 1 43 [some (.ref v0), some (.int v1)] [.ref v0] rfl ?_
    refine fs_gs T 46 12 4 v0 rfl rfl rfl rfl h0 ?_
    refine fs_r T 2 48 [some (.ref v0), some (.int v1)] [.int (1 : Int32), .int v1, .ref (H.2.1 v0 4)] rfl ?_
    refine fs_sb T 49 (H.2.1 v0 4) rfl rfl (Or.inr rfl) (hE.1 _ 12 4 h0) ?_
    intro m3
    exact fs_retv T rfl rfl rfl
  · exact fs_retv T rfl rfl rfl
def f_X12_save (H : fm_H) (v0 : Nat) (v1 : Int32) (m : fm_M) : Option (Unit × fm_M) :=
  fm_bn (f_X12_isBetween H v1 (0 : Int32) (1 : Int32) m) fun x1 m1 =>
  if x1 = 0 then
    f_X12_save_15 H v0 v1 (1 : Int32) v0 m1
  else
  f_X12_save_15 H v0 v1 (0 : Int32) v0 m1
set_option maxRecDepth 10000 in
theorem q_X12_save {G : pm_G} {H : fm_H} {d : Nat} {z : Option Nat × Nat × Nat} {v0 : Nat} {v1 : Int32} {m : fm_M} (hE : fm_E G H) (h0 : fm_is H v0 12) : fm_cal G H (d + 2) yX12_save [.ref v0, .int v1] z m fm_rV (f_X12_save H v0 v1 m) := fm_mth (d := d + 1) mt_X12_save rfl rfl rfl (fun K => by
  show fm_o fm_rV (f_X12_save H v0 v1 m) K → fm_V G H (d + 1) RX12 cX12_save none z K 0 [some (.ref v0), some (.int v1)] [] m
  have T : fm_T RX12 cX12_save tc_X12_save fr_X12 mr_X12 cr_X12 lr_X12 := ⟨tok_X12, dc_X12_save⟩
  unfold f_X12_save
  refine fs_r T 4 4 [some (.ref v0), some (.int v1)] [.int (1 : Int32), .int (0 : Int32), .int v1, .ref v0] rfl ?_
  refine fs_sI T 7 rfl rfl rfl rfl rfl rfl rfl (q_X12_isBetween (d := d) hE ) ?_
  intro x1 m1
  refine fs_if_eq T 14 10 rfl rfl rfl (fun _ => ?_) (fun _ => ?_)
  · refine fs_r T 1 15 [some (.ref v0), some (.int v1)] [.int (1 : Int32), .ref v0] rfl ?_
    exact w_X12_save_15 hE h0 _ _ _ h0
  · refine fs_r T 2 15 [some (.ref v0), some (.int v1)] [.int (0 : Int32), .ref v0] rfl ?_
    exact w_X12_save_15 hE h0 _ _ _ h0)
def f_X12_restore_28 (H : fm_H) (v0 : Nat) (v1 : Int32) (s0 : Int32) (s1 : Nat) (m : fm_M) : Option (Unit × fm_M) :=
  fm_bd (fm_si m s1 7 s0) fun m1 =>
  if m1.1 v0 7 = 0 then
    fm_bn (f_X12_copy H (H.2.1 v0 3) ((1112 : Int32) * v1) (H.2.1 v0 0) (0 : Int32) m1) fun _ m2 =>
    fm_bd (fm_si m2 v0 6 (0 : Int32)) fun m3 =>
    some ((), m3)
  else
  some ((), m1)
set_option maxRecDepth 10000 in
theorem w_X12_restore_28 {G : pm_G} {H : fm_H} {d : Nat} {z : Option Nat × Nat × Nat} {K : pm_R → fm_M → Prop} (hE : fm_E G H) {v0 : Nat} {v1 : Int32} (h0 : fm_is H v0 12) : ∀ (s0 : Int32) (s1 : Nat) (m : fm_M), fm_is H s1 12 → fm_o fm_rV (f_X12_restore_28 H v0 v1 s0 s1 m) K → fm_V G H (d + 1) RX12 cX12_restore none z K 28 [some (.ref v0), some (.int v1)] [.int s0, .ref s1] m := by
  have T : fm_T RX12 cX12_restore tc_X12_restore fr_X12 mr_X12 cr_X12 lr_X12 := ⟨tok_X12, dc_X12_restore⟩
  intro s0 s1 m hs1
  unfold f_X12_restore_28
  refine fs_pi T 31 12 7 s1 rfl rfl rfl rfl hs1 ?_
  intro m1
  refine fs_r T 1 32 [some (.ref v0), some (.int v1)] [.ref v0] rfl ?_
  refine fs_gi T 35 12 7 v0 rfl rfl rfl rfl h0 ?_
  refine fs_if_ne T 60 38 rfl rfl rfl (fun _ => ?_) (fun _ => ?_)
  · refine fs_r T 1 39 [some (.ref v0), some (.int v1)] [.ref v0] rfl ?_
    refine fs_gs T 42 12 3 v0 rfl rfl rfl rfl h0 ?_
    refine fs_r T 4 48 [some (.ref v0), some (.int v1)] [.ref v0, .int ((1112 : Int32) * v1), .ref (H.2.1 v0 3)] rfl ?_
    refine fs_gs T 51 12 0 v0 rfl rfl rfl rfl h0 ?_
    refine fs_r T 1 52 [some (.ref v0), some (.int v1)] [.int (0 : Int32), .ref (H.2.1 v0 0), .int ((1112 : Int32) * v1), .ref (H.2.1 v0 3)] rfl ?_
    refine fs_sV T 55 rfl rfl rfl rfl rfl rfl rfl (q_X12_copy (d := d) hE (hE.1 _ 12 3 h0) (hE.1 _ 12 0 h0)) ?_
    intro x1 m2
    refine fs_r T 2 57 [some (.ref v0), some (.int v1)] [.int (0 : Int32), .ref v0] rfl ?_
    refine fs_pi T 60 12 6 v0 rfl rfl rfl rfl h0 ?_
    intro m3
    exact fs_retv T rfl rfl rfl
  · exact fs_retv T rfl rfl rfl
def f_X12_restore (H : fm_H) (v0 : Nat) (v1 : Int32) (m : fm_M) : Option (Unit × fm_M) :=
  fm_bn (f_X12_isBetween H v1 (0 : Int32) (1 : Int32) m) fun x1 m1 =>
  if x1 = 0 then
    f_X12_restore_28 H v0 v1 (1 : Int32) v0 m1
  else
  if px_inb v1 (fm_sz H (H.2.1 v0 4)) = true then
    if m1.1 (H.2.1 v0 4) v1.toNatClampNeg = 0 then
      f_X12_restore_28 H v0 v1 (2 : Int32) v0 m1
    else
    f_X12_restore_28 H v0 v1 (0 : Int32) v0 m1
  else none
set_option maxRecDepth 10000 in
theorem q_X12_restore {G : pm_G} {H : fm_H} {d : Nat} {z : Option Nat × Nat × Nat} {v0 : Nat} {v1 : Int32} {m : fm_M} (hE : fm_E G H) (h0 : fm_is H v0 12) : fm_cal G H (d + 2) yX12_restore [.ref v0, .int v1] z m fm_rV (f_X12_restore H v0 v1 m) := fm_mth (d := d + 1) mt_X12_restore rfl rfl rfl (fun K => by
  show fm_o fm_rV (f_X12_restore H v0 v1 m) K → fm_V G H (d + 1) RX12 cX12_restore none z K 0 [some (.ref v0), some (.int v1)] [] m
  have T : fm_T RX12 cX12_restore tc_X12_restore fr_X12 mr_X12 cr_X12 lr_X12 := ⟨tok_X12, dc_X12_restore⟩
  unfold f_X12_restore
  refine fs_r T 4 4 [some (.ref v0), some (.int v1)] [.int (1 : Int32), .int (0 : Int32), .int v1, .ref v0] rfl ?_
  refine fs_sI T 7 rfl rfl rfl rfl rfl rfl rfl (q_X12_isBetween (d := d) hE ) ?_
  intro x1 m1
  refine fs_if_ne T 14 10 rfl rfl rfl (fun _ => ?_) (fun _ => ?_)
  · refine fs_r T 2 28 [some (.ref v0), some (.int v1)] [.int (1 : Int32), .ref v0] rfl ?_
    exact w_X12_restore_28 hE h0 _ _ _ h0
  · refine fs_r T 1 15 [some (.ref v0), some (.int v1)] [.ref v0, .ref v0] rfl ?_
    refine fs_gs T 18 12 4 v0 rfl rfl rfl rfl h0 ?_
    refine fs_r T 1 19 [some (.ref v0), some (.int v1)] [.int v1, .ref (H.2.1 v0 4), .ref v0] rfl ?_
    refine fs_ab T 20 (H.2.1 v0 4) rfl rfl (Or.inr rfl) (hE.1 _ 12 4 h0) ?_
    refine fs_if_ne T 27 23 rfl rfl rfl (fun _ => ?_) (fun _ => ?_)
    · refine fs_r T 2 28 [some (.ref v0), some (.int v1)] [.int (2 : Int32), .ref v0] rfl ?_
      exact w_X12_restore_28 hE h0 _ _ _ h0
    · refine fs_r T 1 28 [some (.ref v0), some (.int v1)] [.int (0 : Int32), .ref v0] rfl ?_
      exact w_X12_restore_28 hE h0 _ _ _ h0)
