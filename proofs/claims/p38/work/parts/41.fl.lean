/-! functions out of the code -/
def f_L_at_13 (H : fm_H) (v1 : Int32) (s0 : Int32) (m : fm_M) : Option (Int32 × fm_M) :=
  if s0 ≤ 0 then
    some (s0, m)
  else
  if (512 : Int32) ≤ s0 then
    some (s0, m)
  else
  some (((s0 * (-1640531535 : Int32)) ^^^ (v1 * (-2048144789 : Int32))), m)
set_option maxRecDepth 10000 in
theorem w_L_at_13 {G : pm_G} {H : fm_H} {d : Nat} {z0 : Nat × Nat × Nat} {K : pm_R → fm_M → Prop} (hE : fm_E G H) {v1 : Int32} : ∀ (s0 : Int32) (m : fm_M), fm_o fm_rI (f_L_at_13 H v1 s0 m) K → fm_V G H (d + 0) RL cL_at (some (.int)) (fl_z H z0) K 13 [none, some (.int v1), none] [.int s0] m := by
  have T : fm_T RL cL_at tc_L_at fr_L mr_L cr_L lr_L := ⟨tok_L, dc_L_at⟩
  intro s0 m
  unfold f_L_at_13
  refine fs_r T 2 15 [none, some (.int v1), some (.int s0)] [.int s0] rfl ?_
  refine fs_if_le T 37 18 rfl rfl rfl (fun _ => ?_) (fun _ => ?_)
  · refine fs_r T 1 38 [none, some (.int v1), some (.int s0)] [.int s0] rfl ?_
    exact fs_reti T rfl rfl rfl
  · refine fs_r T 2 22 [none, some (.int v1), some (.int s0)] [.int (512 : Int32), .int s0] rfl ?_
    refine fs_ic_ge T 37 25 rfl rfl rfl (fun _ => ?_) (fun _ => ?_)
    · refine fs_r T 1 38 [none, some (.int v1), some (.int s0)] [.int s0] rfl ?_
      exact fs_reti T rfl rfl rfl
    · refine fs_r T 1 26 [none, some (.int v1), some (.int s0)] [.int s0] rfl ?_
      refine fs_ldc T 28 rfl rfl rfl ?_
      refine fs_r T 2 30 [none, some (.int v1), some (.int s0)] [.int v1, .int (s0 * (-1640531535 : Int32))] rfl ?_
      refine fs_ldc T 32 rfl rfl rfl ?_
      refine fs_r T 3 38 [none, some (.int v1), some (.int s0)] [.int ((s0 * (-1640531535 : Int32)) ^^^ (v1 * (-2048144789 : Int32)))] rfl ?_
      exact fs_reti T rfl rfl rfl
def f_L_at (H : fm_H) (v0 : Nat) (v1 : Int32) (m : fm_M) : Option (Int32 × fm_M) :=
  if Int32.ofNat (fm_sz H v0) ≤ v1 then
    f_L_at_13 H v1 (0 : Int32) m
  else
  if px_inb v1 (fm_sz H v0) = true then
    f_L_at_13 H v1 (m.1 v0 v1.toNatClampNeg) m
  else none
set_option maxRecDepth 10000 in
theorem q_L_at {G : pm_G} {H : fm_H} {d : Nat} {z0 : Nat × Nat × Nat} {v0 : Nat} {v1 : Int32} {m : fm_M} (hE : fm_E G H) (h0 : fm_ia H v0 .int false) : fm_cal G H (d + 1) yL_at [.ref v0, .int v1] (fl_z H z0) m fm_rI (f_L_at H v0 v1 m) := fm_mth (d := d + 0) mt_L_at rfl rfl rfl (fun K => by
  show fm_o fm_rI (f_L_at H v0 v1 m) K → fm_V G H (d + 0) RL cL_at (some (.int)) (fl_z H z0) K 0 [some (.ref v0), some (.int v1), none] [] m
  have T : fm_T RL cL_at tc_L_at fr_L mr_L cr_L lr_L := ⟨tok_L, dc_L_at⟩
  unfold f_L_at
  refine fs_r T 2 2 [some (.ref v0), some (.int v1), none] [.ref v0, .int v1] rfl ?_
  refine fs_al T 3 v0 rfl rfl h0 ?_
  refine fs_ic_ge T 12 6 rfl rfl rfl (fun _ => ?_) (fun _ => ?_)
  · refine fs_r T 1 13 [some (.ref v0), some (.int v1), none] [.int (0 : Int32)] rfl ?_
    refine fs_wk (ls' := [none, some (.int v1), none]) ⟨rfl, trivial⟩ ?_
    exact w_L_at_13 hE  _ _
  · refine fs_r T 2 8 [some (.ref v0), some (.int v1), none] [.int v1, .ref v0] rfl ?_
    refine fs_ai T 9 v0 rfl rfl h0 ?_
    refine fs_r T 1 13 [some (.ref v0), some (.int v1), none] [.int (m.1 v0 v1.toNatClampNeg)] rfl ?_
    refine fs_wk (ls' := [none, some (.int v1), none]) ⟨rfl, trivial⟩ ?_
    exact w_L_at_13 hE  _ _)
def f_L_draw (H : fm_H) (v0 : Nat) (v1 : Int32) (m : fm_M) : Option (Int32 × fm_M) :=
  if fm_iab H (m.2.1 v0 1) .int false = true then
    if fm_iab H (m.2.1 v0 1) .int false = true then
      if (pm_mm true (1 : Int32) (Int32.ofNat (fm_sz H (m.2.1 v0 1)))) = 0 then none else
      fm_bn (f_L_at H (m.2.1 v0 1) (m.1 v0 2 - m.1 v0 2 / (pm_mm true (1 : Int32) (Int32.ofNat (fm_sz H (m.2.1 v0 1)))) * (pm_mm true (1 : Int32) (Int32.ofNat (fm_sz H (m.2.1 v0 1))))) m) fun x1 m1 =>
      fm_bd (fm_si m1 v0 2 (m1.1 v0 2 + (1 : Int32))) fun m2 =>
      if v1 = 0 then none else
      some (((((((x1 + (m1.1 v0 2 * (668265263 : Int32))) ^^^ ((x1 + (m1.1 v0 2 * (668265263 : Int32))).toUInt32 >>> ((15 : Int32).toUInt32 &&& Int32.toUInt32 31)).toInt32) * (739982445 : Int32)) ^^^ ((((x1 + (m1.1 v0 2 * (668265263 : Int32))) ^^^ ((x1 + (m1.1 v0 2 * (668265263 : Int32))).toUInt32 >>> ((15 : Int32).toUInt32 &&& Int32.toUInt32 31)).toInt32) * (739982445 : Int32)).toUInt32 >>> ((13 : Int32).toUInt32 &&& Int32.toUInt32 31)).toInt32) &&& (2147483647 : Int32)) - (((((x1 + (m1.1 v0 2 * (668265263 : Int32))) ^^^ ((x1 + (m1.1 v0 2 * (668265263 : Int32))).toUInt32 >>> ((15 : Int32).toUInt32 &&& Int32.toUInt32 31)).toInt32) * (739982445 : Int32)) ^^^ ((((x1 + (m1.1 v0 2 * (668265263 : Int32))) ^^^ ((x1 + (m1.1 v0 2 * (668265263 : Int32))).toUInt32 >>> ((15 : Int32).toUInt32 &&& Int32.toUInt32 31)).toInt32) * (739982445 : Int32)).toUInt32 >>> ((13 : Int32).toUInt32 &&& Int32.toUInt32 31)).toInt32) &&& (2147483647 : Int32)) / v1 * v1), m2)
    else none
  else none
set_option maxRecDepth 10000 in
theorem q_L_draw {G : pm_G} {H : fm_H} {d : Nat} {z0 : Nat × Nat × Nat} {v0 : Nat} {v1 : Int32} {m : fm_M} (hE : fm_E G H) (h0 : fm_is H v0 12) : fm_cal G H (d + 2) yL_draw [.ref v0, .int v1] (fl_z H z0) m fm_rI (f_L_draw H v0 v1 m) := fm_mth (d := d + 1) mt_L_draw rfl rfl rfl (fun K => by
  show fm_o fm_rI (f_L_draw H v0 v1 m) K → fm_V G H (d + 1) RL cL_draw (some (.int)) (fl_z H z0) K 0 [some (.ref v0), some (.int v1), none] [] m
  have T : fm_T RL cL_draw tc_L_draw fr_L mr_L cr_L lr_L := ⟨tok_L, dc_L_draw⟩
  unfold f_L_draw
  refine fs_r T 1 1 [some (.ref v0), some (.int v1), none] [.ref v0] rfl ?_
  refine fs_gpa T 4 12 1 v0 rfl rfl rfl rfl h0 ?_
  intro e1
  refine fs_r T 1 5 [some (.ref v0), some (.int v1), none] [.ref v0, .ref (m.2.1 v0 1)] rfl ?_
  refine fs_gi T 8 12 2 v0 rfl rfl rfl rfl h0 ?_
  refine fs_r T 2 10 [some (.ref v0), some (.int v1), none] [.ref v0, .int (1 : Int32), .int (m.1 v0 2), .ref (m.2.1 v0 1)] rfl ?_
  refine fs_gpa T 13 12 1 v0 rfl rfl rfl rfl h0 ?_
  intro e2
  refine fs_al T 14 (m.2.1 v0 1) rfl rfl e2 ?_
  refine fs_mm T 17 rfl ma_L_26 rfl rfl ?_
  refine fs_rem T 18 rfl rfl ?_
  refine fs_sI T 21 rfl rfl rfl rfl rfl rfl rfl (q_L_at (d := d) hE e1) ?_
  intro x1 m1
  refine fs_r T 1 22 [some (.ref v0), some (.int v1), none] [.ref v0, .int x1] rfl ?_
  refine fs_gi T 25 12 2 v0 rfl rfl rfl rfl h0 ?_
  refine fs_ldc T 27 rfl rfl rfl ?_
  refine fs_r T 5 32 [some (.ref v0), some (.int v1), some (.int (x1 + (m1.1 v0 2 * (668265263 : Int32))))] [.ref v0, .ref v0] rfl ?_
  refine fs_gi T 35 12 2 v0 rfl rfl rfl rfl h0 ?_
  refine fs_r T 2 37 [some (.ref v0), some (.int v1), some (.int (x1 + (m1.1 v0 2 * (668265263 : Int32))))] [.int (m1.1 v0 2 + (1 : Int32)), .ref v0] rfl ?_
  refine fs_pi T 40 12 2 v0 rfl rfl rfl rfl h0 ?_
  intro m2
  refine fs_r T 7 48 [some (.ref v0), some (.int v1), some (.int ((x1 + (m1.1 v0 2 * (668265263 : Int32))) ^^^ ((x1 + (m1.1 v0 2 * (668265263 : Int32))).toUInt32 >>> ((15 : Int32).toUInt32 &&& Int32.toUInt32 31)).toInt32))] [.int ((x1 + (m1.1 v0 2 * (668265263 : Int32))) ^^^ ((x1 + (m1.1 v0 2 * (668265263 : Int32))).toUInt32 >>> ((15 : Int32).toUInt32 &&& Int32.toUInt32 31)).toInt32)] rfl ?_
  refine fs_ldc T 50 rfl rfl rfl ?_
  refine fs_r T 9 60 [some (.ref v0), some (.int v1), some (.int ((((x1 + (m1.1 v0 2 * (668265263 : Int32))) ^^^ ((x1 + (m1.1 v0 2 * (668265263 : Int32))).toUInt32 >>> ((15 : Int32).toUInt32 &&& Int32.toUInt32 31)).toInt32) * (739982445 : Int32)) ^^^ ((((x1 + (m1.1 v0 2 * (668265263 : Int32))) ^^^ ((x1 + (m1.1 v0 2 * (668265263 : Int32))).toUInt32 >>> ((15 : Int32).toUInt32 &&& Int32.toUInt32 31)).toInt32) * (739982445 : Int32)).toUInt32 >>> ((13 : Int32).toUInt32 &&& Int32.toUInt32 31)).toInt32))] [.int ((((x1 + (m1.1 v0 2 * (668265263 : Int32))) ^^^ ((x1 + (m1.1 v0 2 * (668265263 : Int32))).toUInt32 >>> ((15 : Int32).toUInt32 &&& Int32.toUInt32 31)).toInt32) * (739982445 : Int32)) ^^^ ((((x1 + (m1.1 v0 2 * (668265263 : Int32))) ^^^ ((x1 + (m1.1 v0 2 * (668265263 : Int32))).toUInt32 >>> ((15 : Int32).toUInt32 &&& Int32.toUInt32 31)).toInt32) * (739982445 : Int32)).toUInt32 >>> ((13 : Int32).toUInt32 &&& Int32.toUInt32 31)).toInt32)] rfl ?_
  refine fs_ldc T 62 rfl rfl rfl ?_
  refine fs_r T 2 64 [some (.ref v0), some (.int v1), some (.int ((((x1 + (m1.1 v0 2 * (668265263 : Int32))) ^^^ ((x1 + (m1.1 v0 2 * (668265263 : Int32))).toUInt32 >>> ((15 : Int32).toUInt32 &&& Int32.toUInt32 31)).toInt32) * (739982445 : Int32)) ^^^ ((((x1 + (m1.1 v0 2 * (668265263 : Int32))) ^^^ ((x1 + (m1.1 v0 2 * (668265263 : Int32))).toUInt32 >>> ((15 : Int32).toUInt32 &&& Int32.toUInt32 31)).toInt32) * (739982445 : Int32)).toUInt32 >>> ((13 : Int32).toUInt32 &&& Int32.toUInt32 31)).toInt32))] [.int v1, .int (((((x1 + (m1.1 v0 2 * (668265263 : Int32))) ^^^ ((x1 + (m1.1 v0 2 * (668265263 : Int32))).toUInt32 >>> ((15 : Int32).toUInt32 &&& Int32.toUInt32 31)).toInt32) * (739982445 : Int32)) ^^^ ((((x1 + (m1.1 v0 2 * (668265263 : Int32))) ^^^ ((x1 + (m1.1 v0 2 * (668265263 : Int32))).toUInt32 >>> ((15 : Int32).toUInt32 &&& Int32.toUInt32 31)).toInt32) * (739982445 : Int32)).toUInt32 >>> ((13 : Int32).toUInt32 &&& Int32.toUInt32 31)).toInt32) &&& (2147483647 : Int32))] rfl ?_
  refine fs_rem T 65 rfl rfl ?_
  exact fs_reti T rfl rfl rfl)
def f_L_builds_104 (H : fm_H) (k74 : Int32 → fm_M → Option (Int32 × fm_M)) (v0 : Nat) (v1 : Int32) (v2 : Int32) (v3 : Int32) (s0 : Int32) (m : fm_M) : Option (Int32 × fm_M) :=
  fm_bn (f_L_count H (H.2.1 v0 0) (3 : Int32) m) fun x1 m1 =>
  fm_bn (f_L_draw H v0 (80 : Int32) m1) fun x2 m2 =>
  fm_bn (f_L_draw H v0 (9 : Int32) m2) fun x3 m3 =>
  fm_bn (f_L_addLink H (H.2.1 v0 0) v3 s0 ((5 : Int32) + x2) ((1 : Int32) + x3) m3) fun x4 m4 =>
  if v3 = s0 then
    if x4 = (-102 : Int32) then
      k74 (v2 + 1) m4
    else
    some ((0 : Int32), m4)
  else
  if x4 = x1 then
    k74 (v2 + 1) m4
  else
  if x4 = (-103 : Int32) then
    k74 (v2 + 1) m4
  else
  some ((0 : Int32), m4)
set_option maxRecDepth 10000 in
theorem w_L_builds_104 {G : pm_G} {H : fm_H} {d : Nat} {z0 : Nat × Nat × Nat} {K : pm_R → fm_M → Prop} (hE : fm_E G H) {k74 : Int32 → fm_M → Option (Int32 × fm_M)} {v0 : Nat} {v1 : Int32} {v2 : Int32} {v3 : Int32} (Hk74 : ∀ (v2 : Int32) (m : fm_M), fm_o fm_rI (k74 v2 m) K → fm_V G H (d + 5) RL cL_builds (some (.boolean)) (fl_z H z0) K 74 [some (.ref v0), some (.int v1), some (.int v2), none, none, none, none] [] m) (h0 : fm_is H v0 12) : ∀ (s0 : Int32) (m : fm_M), fm_o fm_rI (f_L_builds_104 H k74 v0 v1 v2 v3 s0 m) K → fm_V G H (d + 5) RL cL_builds (some (.boolean)) (fl_z H z0) K 104 [some (.ref v0), some (.int v1), some (.int v2), some (.int v3), none, none, none] [.int s0] m := by
  have T : fm_T RL cL_builds tc_L_builds fr_L mr_L cr_L lr_L := ⟨tok_L, dc_L_builds⟩
  intro s0 m
  unfold f_L_builds_104
  refine fs_r T 2 107 [some (.ref v0), some (.int v1), some (.int v2), some (.int v3), some (.int s0), none, none] [.ref v0] rfl ?_
  refine fs_gs T 110 12 0 v0 rfl rfl rfl rfl h0 ?_
  refine fs_r T 1 111 [some (.ref v0), some (.int v1), some (.int v2), some (.int v3), some (.int s0), none, none] [.int (3 : Int32), .ref (H.2.1 v0 0)] rfl ?_
  refine fs_sIh T 114 rfl rfl ml_L_145 rfl rfl rfl rfl rfl (q_L_count (d := d) hE (hE.1 _ 12 0 h0)) ?_
  intro x1 m1
  refine fs_r T 2 117 [some (.ref v0), some (.int v1), some (.int v2), some (.int v3), some (.int s0), some (.int x1), none] [.ref v0] rfl ?_
  refine fs_gs T 120 12 0 v0 rfl rfl rfl rfl h0 ?_
  refine fs_r T 5 127 [some (.ref v0), some (.int v1), some (.int v2), some (.int v3), some (.int s0), some (.int x1), none] [.int (80 : Int32), .ref v0, .int (5 : Int32), .int s0, .int v3, .ref (H.2.1 v0 0)] rfl ?_
  refine fs_vI T 130 rfl rfl rfl rfl rfl rfl h0 (q_L_draw (d := d + 3) hE h0) ?_
  intro x2 m2
  refine fs_r T 4 135 [some (.ref v0), some (.int v1), some (.int v2), some (.int v3), some (.int s0), some (.int x1), none] [.int (9 : Int32), .ref v0, .int (1 : Int32), .int ((5 : Int32) + x2), .int s0, .int v3, .ref (H.2.1 v0 0)] rfl ?_
  refine fs_vI T 138 rfl rfl rfl rfl rfl rfl h0 (q_L_draw (d := d + 3) hE h0) ?_
  intro x3 m3
  refine fs_r T 1 139 [some (.ref v0), some (.int v1), some (.int v2), some (.int v3), some (.int s0), some (.int x1), none] [.int ((1 : Int32) + x3), .int ((5 : Int32) + x2), .int s0, .int v3, .ref (H.2.1 v0 0)] rfl ?_
  refine fs_sIh T 142 rfl rfl ml_L_147 rfl rfl rfl rfl rfl (q_L_addLink (d := d + 1) hE (hE.1 _ 12 0 h0)) ?_
  intro x4 m4
  refine fs_r T 3 147 [some (.ref v0), some (.int v1), some (.int v2), some (.int v3), some (.int s0), some (.int x1), some (.int x4)] [.int s0, .int v3] rfl ?_
  refine fs_ic_ne T 160 150 rfl rfl rfl (fun _ => ?_) (fun _ => ?_)
  · refine fs_r T 2 154 [some (.ref v0), some (.int v1), some (.int v2), some (.int v3), some (.int s0), some (.int x1), some (.int x4)] [.int (-102 : Int32), .int x4] rfl ?_
    refine fs_ic_eq T 176 157 rfl rfl rfl (fun _ => ?_) (fun _ => ?_)
    · refine fs_r T 2 74 [some (.ref v0), some (.int v1), some (.int (v2 + 1)), some (.int v3), some (.int s0), some (.int x1), some (.int x4)] [] rfl ?_
      refine fs_wk (ls' := [some (.ref v0), some (.int v1), some (.int (v2 + 1)), none, none, none, none]) ⟨rfl, rfl, rfl, trivial⟩ ?_
      exact Hk74 _ _
    · refine fs_r T 2 175 [some (.ref v0), some (.int v1), some (.int v2), some (.int v3), some (.int s0), some (.int x1), some (.int x4)] [.int (0 : Int32)] rfl ?_
      exact fs_retc T rfl rfl rfl rfl
  · refine fs_r T 2 164 [some (.ref v0), some (.int v1), some (.int v2), some (.int v3), some (.int s0), some (.int x1), some (.int x4)] [.int x1, .int x4] rfl ?_
    refine fs_ic_eq T 176 167 rfl rfl rfl (fun _ => ?_) (fun _ => ?_)
    · refine fs_r T 2 74 [some (.ref v0), some (.int v1), some (.int (v2 + 1)), some (.int v3), some (.int s0), some (.int x1), some (.int x4)] [] rfl ?_
      refine fs_wk (ls' := [some (.ref v0), some (.int v1), some (.int (v2 + 1)), none, none, none, none]) ⟨rfl, rfl, rfl, trivial⟩ ?_
      exact Hk74 _ _
    · refine fs_r T 2 171 [some (.ref v0), some (.int v1), some (.int v2), some (.int v3), some (.int s0), some (.int x1), some (.int x4)] [.int (-103 : Int32), .int x4] rfl ?_
      refine fs_ic_eq T 176 174 rfl rfl rfl (fun _ => ?_) (fun _ => ?_)
      · refine fs_r T 2 74 [some (.ref v0), some (.int v1), some (.int (v2 + 1)), some (.int v3), some (.int s0), some (.int x1), some (.int x4)] [] rfl ?_
        refine fs_wk (ls' := [some (.ref v0), some (.int v1), some (.int (v2 + 1)), none, none, none, none]) ⟨rfl, rfl, rfl, trivial⟩ ?_
        exact Hk74 _ _
      · refine fs_r T 1 175 [some (.ref v0), some (.int v1), some (.int v2), some (.int v3), some (.int s0), some (.int x1), some (.int x4)] [.int (0 : Int32)] rfl ?_
        exact fs_retc T rfl rfl rfl rfl
def f_L_builds_74 (H : fm_H) (v0 : Nat) (v1 : Int32) : Nat → Int32 → fm_M → Option (Int32 × fm_M)
  | 0, _, _ => none
  | n + 1, v2, m =>
    if (30 : Int32) ≤ v2 then
      fm_bn (f_L_draw H v0 (5 : Int32) m) fun x1 m1 =>
      fm_bn (f_L_set H (H.2.1 v0 0) (0 : Int32) x1 m1) fun x2 m2 =>
      if x2 = (1 : Int32) then
        fm_bn (f_L_draw H v0 (2 : Int32) m2) fun x3 m3 =>
        fm_bn (f_L_set H (H.2.1 v0 0) (1 : Int32) x3 m3) fun x4 m4 =>
        if x4 = 0 then
          some ((1 : Int32), m4)
        else
        some ((0 : Int32), m4)
      else
      some ((0 : Int32), m2)
    else
    fm_bn (f_L_draw H v0 v1 m) fun x5 m5 =>
    if v1 ≤ v2 then
      fm_bn (f_L_draw H v0 v1 m5) fun x6 m6 =>
      f_L_builds_104 H (f_L_builds_74 H v0 v1 n) v0 v1 v2 x5 x6 m6
    else
    if v1 = 0 then none else
    f_L_builds_104 H (f_L_builds_74 H v0 v1 n) v0 v1 v2 x5 ((x5 + (1 : Int32)) - (x5 + (1 : Int32)) / v1 * v1) m5
set_option maxRecDepth 10000 in
theorem w_L_builds_74 {G : pm_G} {H : fm_H} {d : Nat} {z0 : Nat × Nat × Nat} {K : pm_R → fm_M → Prop} (hE : fm_E G H) {v0 : Nat} {v1 : Int32} (h0 : fm_is H v0 12) : ∀ (n : Nat) (v2 : Int32) (m : fm_M), fm_o fm_rI (f_L_builds_74 H v0 v1 n v2 m) K → fm_V G H (d + 5) RL cL_builds (some (.boolean)) (fl_z H z0) K 74 [some (.ref v0), some (.int v1), some (.int v2), none, none, none, none] [] m := by
  have T : fm_T RL cL_builds tc_L_builds fr_L mr_L cr_L lr_L := ⟨tok_L, dc_L_builds⟩
  intro n
  induction n with
  | zero =>
    intro v2 m 
    exact fs_none
  | succ n ih =>
    intro v2 m 
    unfold f_L_builds_74
    refine fs_r T 2 77 [some (.ref v0), some (.int v1), some (.int v2), none, none, none, none] [.int (30 : Int32), .int v2] rfl ?_
    refine fs_ic_ge T 182 80 rfl rfl rfl (fun _ => ?_) (fun _ => ?_)
    · refine fs_r T 1 183 [some (.ref v0), some (.int v1), some (.int v2), none, none, none, none] [.ref v0] rfl ?_
      refine fs_gs T 186 12 0 v0 rfl rfl rfl rfl h0 ?_
      refine fs_r T 3 189 [some (.ref v0), some (.int v1), some (.int v2), none, none, none, none] [.int (5 : Int32), .ref v0, .int (0 : Int32), .ref (H.2.1 v0 0)] rfl ?_
      refine fs_vI T 192 rfl rfl rfl rfl rfl rfl h0 (q_L_draw (d := d + 3) hE h0) ?_
      intro x1 m1
      refine fs_sIh T 195 rfl rfl ml_L_150 rfl rfl rfl rfl rfl (q_L_set (d := d + 2) hE (hE.1 _ 12 0 h0)) ?_
      intro x2 m2
      refine fs_r T 1 196 [some (.ref v0), some (.int v1), some (.int v2), none, none, none, none] [.int (1 : Int32), .int x2] rfl ?_
      refine fs_ic_ne T 219 199 rfl rfl rfl (fun _ => ?_) (fun _ => ?_)
      · refine fs_r T 1 200 [some (.ref v0), some (.int v1), some (.int v2), none, none, none, none] [.ref v0] rfl ?_
        refine fs_gs T 203 12 0 v0 rfl rfl rfl rfl h0 ?_
        refine fs_r T 3 206 [some (.ref v0), some (.int v1), some (.int v2), none, none, none, none] [.int (2 : Int32), .ref v0, .int (1 : Int32), .ref (H.2.1 v0 0)] rfl ?_
        refine fs_vI T 209 rfl rfl rfl rfl rfl rfl h0 (q_L_draw (d := d + 3) hE h0) ?_
        intro x3 m3
        refine fs_sIh T 212 rfl rfl ml_L_150 rfl rfl rfl rfl rfl (q_L_set (d := d + 2) hE (hE.1 _ 12 0 h0)) ?_
        intro x4 m4
        refine fs_if_ne T 219 215 rfl rfl rfl (fun _ => ?_) (fun _ => ?_)
        · refine fs_r T 2 220 [some (.ref v0), some (.int v1), some (.int v2), none, none, none, none] [.int (1 : Int32)] rfl ?_
          exact fs_retc T rfl rfl rfl rfl
        · refine fs_r T 1 220 [some (.ref v0), some (.int v1), some (.int v2), none, none, none, none] [.int (0 : Int32)] rfl ?_
          exact fs_retc T rfl rfl rfl rfl
      · refine fs_r T 1 220 [some (.ref v0), some (.int v1), some (.int v2), none, none, none, none] [.int (0 : Int32)] rfl ?_
        exact fs_retc T rfl rfl rfl rfl
    · refine fs_r T 2 82 [some (.ref v0), some (.int v1), some (.int v2), none, none, none, none] [.int v1, .ref v0] rfl ?_
      refine fs_vI T 85 rfl rfl rfl rfl rfl rfl h0 (q_L_draw (d := d + 3) hE h0) ?_
      intro x5 m5
      refine fs_r T 3 88 [some (.ref v0), some (.int v1), some (.int v2), some (.int x5), none, none, none] [.int v1, .int v2] rfl ?_
      refine fs_ic_ge T 99 91 rfl rfl rfl (fun _ => ?_) (fun _ => ?_)
      · refine fs_r T 2 101 [some (.ref v0), some (.int v1), some (.int v2), some (.int x5), none, none, none] [.int v1, .ref v0] rfl ?_
        refine fs_vI T 104 rfl rfl rfl rfl rfl rfl h0 (q_L_draw (d := d + 3) hE h0) ?_
        intro x6 m6
        exact w_L_builds_104 hE ih h0 _ _
      · refine fs_r T 4 95 [some (.ref v0), some (.int v1), some (.int v2), some (.int x5), none, none, none] [.int v1, .int (x5 + (1 : Int32))] rfl ?_
        refine fs_rem T 96 rfl rfl ?_
        refine fs_r T 1 104 [some (.ref v0), some (.int v1), some (.int v2), some (.int x5), none, none, none] [.int ((x5 + (1 : Int32)) - (x5 + (1 : Int32)) / v1 * v1)] rfl ?_
        exact w_L_builds_104 hE ih h0 _ _
def f_L_builds_28 (H : fm_H) (v0 : Nat) (v1 : Int32) : Nat → Int32 → fm_M → Option (Int32 × fm_M)
  | 0, _, _ => none
  | n + 1, v2, m =>
    if v1 ≤ v2 then
      f_L_builds_74 H v0 v1 fm_N (0 : Int32) m
    else
    fm_bn (f_L_draw H v0 (2 : Int32) m) fun x1 m1 =>
    if x1 = 0 then
      fm_bn (f_L_draw H v0 (3 : Int32) m1) fun x4 m4 =>
      fm_bn (f_L_addNode H (H.2.1 v0 0) ((1 : Int32) + x4) m4) fun x5 m5 =>
      if x5 = v2 then
        f_L_builds_28 H v0 v1 n (v2 + 1) m5
      else
      some ((0 : Int32), m5)
    else
    fm_bn (f_L_draw H v0 (12 : Int32) m1) fun x2 m2 =>
    fm_bn (f_L_addNode H (H.2.1 v0 0) ((1 : Int32) + x2) m2) fun x3 m3 =>
    if x3 = v2 then
      f_L_builds_28 H v0 v1 n (v2 + 1) m3
    else
    some ((0 : Int32), m3)
set_option maxRecDepth 10000 in
theorem w_L_builds_28 {G : pm_G} {H : fm_H} {d : Nat} {z0 : Nat × Nat × Nat} {K : pm_R → fm_M → Prop} (hE : fm_E G H) {v0 : Nat} {v1 : Int32} (h0 : fm_is H v0 12) : ∀ (n : Nat) (v2 : Int32) (m : fm_M), fm_o fm_rI (f_L_builds_28 H v0 v1 n v2 m) K → fm_V G H (d + 5) RL cL_builds (some (.boolean)) (fl_z H z0) K 28 [some (.ref v0), some (.int v1), some (.int v2), none, none, none, none] [] m := by
  have T : fm_T RL cL_builds tc_L_builds fr_L mr_L cr_L lr_L := ⟨tok_L, dc_L_builds⟩
  intro n
  induction n with
  | zero =>
    intro v2 m 
    exact fs_none
  | succ n ih =>
    intro v2 m 
    unfold f_L_builds_28
    refine fs_r T 2 30 [some (.ref v0), some (.int v1), some (.int v2), none, none, none, none] [.int v1, .int v2] rfl ?_
    refine fs_ic_ge T 72 33 rfl rfl rfl (fun _ => ?_) (fun _ => ?_)
    · refine fs_r T 2 74 [some (.ref v0), some (.int v1), some (.int (0 : Int32)), none, none, none, none] [] rfl ?_
      exact w_L_builds_74 hE h0 _ _ _
    · refine fs_r T 1 34 [some (.ref v0), some (.int v1), some (.int v2), none, none, none, none] [.ref v0] rfl ?_
      refine fs_gs T 37 12 0 v0 rfl rfl rfl rfl h0 ?_
      refine fs_r T 4 41 [some (.ref v0), some (.int v1), some (.int v2), none, none, none, none] [.int (2 : Int32), .ref v0, .ref v0, .int (1 : Int32), .ref (H.2.1 v0 0)] rfl ?_
      refine fs_vI T 44 rfl rfl rfl rfl rfl rfl h0 (q_L_draw (d := d + 3) hE h0) ?_
      intro x1 m1
      refine fs_if_ne T 51 47 rfl rfl rfl (fun _ => ?_) (fun _ => ?_)
      · refine fs_r T 2 53 [some (.ref v0), some (.int v1), some (.int v2), none, none, none, none] [.int (3 : Int32), .ref v0, .int (1 : Int32), .ref (H.2.1 v0 0)] rfl ?_
        refine fs_vI T 56 rfl rfl rfl rfl rfl rfl h0 (q_L_draw (d := d + 3) hE h0) ?_
        intro x4 m4
        refine fs_r T 1 57 [some (.ref v0), some (.int v1), some (.int v2), none, none, none, none] [.int ((1 : Int32) + x4), .ref (H.2.1 v0 0)] rfl ?_
        refine fs_sIh T 60 rfl rfl ml_L_142 rfl rfl rfl rfl rfl (q_L_addNode (d := d + 1) hE (hE.1 _ 12 0 h0)) ?_
        intro x5 m5
        refine fs_r T 1 61 [some (.ref v0), some (.int v1), some (.int v2), none, none, none, none] [.int v2, .int x5] rfl ?_
        refine fs_ic_eq T 66 64 rfl rfl rfl (fun _ => ?_) (fun _ => ?_)
        · refine fs_r T 2 28 [some (.ref v0), some (.int v1), some (.int (v2 + 1)), none, none, none, none] [] rfl ?_
          exact ih _ _
        · refine fs_r T 1 65 [some (.ref v0), some (.int v1), some (.int v2), none, none, none, none] [.int (0 : Int32)] rfl ?_
          exact fs_retc T rfl rfl rfl rfl
      · refine fs_r T 1 53 [some (.ref v0), some (.int v1), some (.int v2), none, none, none, none] [.int (12 : Int32), .ref v0, .int (1 : Int32), .ref (H.2.1 v0 0)] rfl ?_
        refine fs_vI T 56 rfl rfl rfl rfl rfl rfl h0 (q_L_draw (d := d + 3) hE h0) ?_
        intro x2 m2
        refine fs_r T 1 57 [some (.ref v0), some (.int v1), some (.int v2), none, none, none, none] [.int ((1 : Int32) + x2), .ref (H.2.1 v0 0)] rfl ?_
        refine fs_sIh T 60 rfl rfl ml_L_142 rfl rfl rfl rfl rfl (q_L_addNode (d := d + 1) hE (hE.1 _ 12 0 h0)) ?_
        intro x3 m3
        refine fs_r T 1 61 [some (.ref v0), some (.int v1), some (.int v2), none, none, none, none] [.int v2, .int x3] rfl ?_
        refine fs_ic_eq T 66 64 rfl rfl rfl (fun _ => ?_) (fun _ => ?_)
        · refine fs_r T 2 28 [some (.ref v0), some (.int v1), some (.int (v2 + 1)), none, none, none, none] [] rfl ?_
          exact ih _ _
        · refine fs_r T 1 65 [some (.ref v0), some (.int v1), some (.int v2), none, none, none, none] [.int (0 : Int32)] rfl ?_
          exact fs_retc T rfl rfl rfl rfl
def f_L_builds (H : fm_H) (v0 : Nat) (m : fm_M) : Option (Int32 × fm_M) :=
  fm_bn (f_L_draw H v0 (7 : Int32) m) fun x1 m1 =>
  fm_bn (f_L_draw H v0 (2 : Int32) m1) fun x2 m2 =>
  if x2 = 0 then
    if fm_b01 (1 : Int32) = true then
      fm_bd (fm_si m2 v0 3 (1 : Int32)) fun m4 =>
      f_L_builds_28 H v0 ((4 : Int32) + x1) fm_N (0 : Int32) m4
    else none
  else
  if fm_b01 (0 : Int32) = true then
    fm_bd (fm_si m2 v0 3 (0 : Int32)) fun m3 =>
    f_L_builds_28 H v0 ((4 : Int32) + x1) fm_N (0 : Int32) m3
  else none
set_option maxRecDepth 10000 in
theorem q_L_builds {G : pm_G} {H : fm_H} {d : Nat} {z0 : Nat × Nat × Nat} {v0 : Nat} {m : fm_M} (hE : fm_E G H) (h0 : fm_is H v0 12) : fm_cal G H (d + 6) yL_builds [.ref v0] (fl_z H z0) m fm_rI (f_L_builds H v0 m) := fm_mth (d := d + 5) mt_L_builds rfl rfl rfl (fun K => by
  show fm_o fm_rI (f_L_builds H v0 m) K → fm_V G H (d + 5) RL cL_builds (some (.boolean)) (fl_z H z0) K 0 [some (.ref v0), none, none, none, none, none, none] [] m
  have T : fm_T RL cL_builds tc_L_builds fr_L mr_L cr_L lr_L := ⟨tok_L, dc_L_builds⟩
  unfold f_L_builds
  refine fs_r T 3 4 [some (.ref v0), none, none, none, none, none, none] [.int (7 : Int32), .ref v0, .int (4 : Int32)] rfl ?_
  refine fs_vI T 7 rfl rfl rfl rfl rfl rfl h0 (q_L_draw (d := d + 3) hE h0) ?_
  intro x1 m1
  refine fs_r T 5 12 [some (.ref v0), some (.int ((4 : Int32) + x1)), none, none, none, none, none] [.int (2 : Int32), .ref v0, .ref v0] rfl ?_
  refine fs_vI T 15 rfl rfl rfl rfl rfl rfl h0 (q_L_draw (d := d + 3) hE h0) ?_
  intro x2 m2
  refine fs_if_ne T 22 18 rfl rfl rfl (fun _ => ?_) (fun _ => ?_)
  · refine fs_r T 2 23 [some (.ref v0), some (.int ((4 : Int32) + x1)), none, none, none, none, none] [.int (1 : Int32), .ref v0] rfl ?_
    refine fs_pz T 26 12 3 v0 rfl rfl rfl rfl h0 ?_
    intro m4
    refine fs_r T 2 28 [some (.ref v0), some (.int ((4 : Int32) + x1)), some (.int (0 : Int32)), none, none, none, none] [] rfl ?_
    exact w_L_builds_28 hE h0 _ _ _
  · refine fs_r T 1 23 [some (.ref v0), some (.int ((4 : Int32) + x1)), none, none, none, none, none] [.int (0 : Int32), .ref v0] rfl ?_
    refine fs_pz T 26 12 3 v0 rfl rfl rfl rfl h0 ?_
    intro m3
    refine fs_r T 2 28 [some (.ref v0), some (.int ((4 : Int32) + x1)), some (.int (0 : Int32)), none, none, none, none] [] rfl ?_
    exact w_L_builds_28 hE h0 _ _ _)
def f_L_labelsAreSo_374 (H : fm_H) (v0 : Nat) (v1 : Int32) (v2 : Int32) : Nat → Int32 → Int32 → Int32 → fm_M → Option (Int32 × fm_M)
  | 0, _, _, _, _ => none
  | n + 1, v3, v4, v5, m =>
    fm_bn (f_L_count H (H.2.1 v0 0) (2 : Int32) m) fun x1 m1 =>
    if x1 ≤ v5 then
      if v2 = v3 then
        if v1 = v4 then
          fm_bn (f_L_count H (H.2.1 v0 0) (12 : Int32) m1) fun x2 m2 =>
          if v1 = x2 then
            some ((1 : Int32), m2)
          else
          some ((0 : Int32), m2)
        else
        some ((0 : Int32), m1)
      else
      some ((0 : Int32), m1)
    else
    fm_bn (f_L_node H (H.2.1 v0 0) v5 (5 : Int32) m1) fun x3 m3 =>
    fm_bn (f_L_node H (H.2.1 v0 0) v5 (4 : Int32) m3) fun x4 m4 =>
    f_L_labelsAreSo_374 H v0 v1 v2 n (v3 + x3) (v4 + x4) (v5 + 1) m4
set_option maxRecDepth 10000 in
theorem w_L_labelsAreSo_374 {G : pm_G} {H : fm_H} {d : Nat} {z0 : Nat × Nat × Nat} {K : pm_R → fm_M → Prop} (hE : fm_E G H) {v0 : Nat} {v1 : Int32} {v2 : Int32} (h0 : fm_is H v0 12) : ∀ (n : Nat) (v3 : Int32) (v4 : Int32) (v5 : Int32) (m : fm_M), fm_o fm_rI (f_L_labelsAreSo_374 H v0 v1 v2 n v3 v4 v5 m) K → fm_V G H (d + 5) RL cL_labelsAreSo (some (.boolean)) (fl_z H z0) K 374 [some (.ref v0), some (.int v1), some (.int v2), some (.int v3), some (.int v4), some (.int v5), none, none, none, none, none, none, none] [] m := by
  have T : fm_T RL cL_labelsAreSo tc_L_labelsAreSo fr_L mr_L cr_L lr_L := ⟨tok_L, dc_L_labelsAreSo⟩
  intro n
  induction n with
  | zero =>
    intro v3 v4 v5 m 
    exact fs_none
  | succ n ih =>
    intro v3 v4 v5 m 
    unfold f_L_labelsAreSo_374
    refine fs_r T 2 377 [some (.ref v0), some (.int v1), some (.int v2), some (.int v3), some (.int v4), some (.int v5), none, none, none, none, none, none, none] [.ref v0, .int v5] rfl ?_
    refine fs_gs T 380 12 0 v0 rfl rfl rfl rfl h0 ?_
    refine fs_r T 1 381 [some (.ref v0), some (.int v1), some (.int v2), some (.int v3), some (.int v4), some (.int v5), none, none, none, none, none, none, none] [.int (2 : Int32), .ref (H.2.1 v0 0), .int v5] rfl ?_
    refine fs_sIh T 384 rfl rfl ml_L_145 rfl rfl rfl rfl rfl (q_L_count (d := d) hE (hE.1 _ 12 0 h0)) ?_
    intro x1 m1
    refine fs_ic_ge T 421 387 rfl rfl rfl (fun _ => ?_) (fun _ => ?_)
    · refine fs_r T 2 423 [some (.ref v0), some (.int v1), some (.int v2), some (.int v3), some (.int v4), some (.int v5), none, none, none, none, none, none, none] [.int v3, .int v2] rfl ?_
      refine fs_ic_ne T 449 426 rfl rfl rfl (fun _ => ?_) (fun _ => ?_)
      · refine fs_r T 2 429 [some (.ref v0), some (.int v1), some (.int v2), some (.int v3), some (.int v4), some (.int v5), none, none, none, none, none, none, none] [.int v4, .int v1] rfl ?_
        refine fs_ic_ne T 449 432 rfl rfl rfl (fun _ => ?_) (fun _ => ?_)
        · refine fs_r T 2 434 [some (.ref v0), some (.int v1), some (.int v2), some (.int v3), some (.int v4), some (.int v5), none, none, none, none, none, none, none] [.ref v0, .int v1] rfl ?_
          refine fs_gs T 437 12 0 v0 rfl rfl rfl rfl h0 ?_
          refine fs_r T 1 439 [some (.ref v0), some (.int v1), some (.int v2), some (.int v3), some (.int v4), some (.int v5), none, none, none, none, none, none, none] [.int (12 : Int32), .ref (H.2.1 v0 0), .int v1] rfl ?_
          refine fs_sIh T 442 rfl rfl ml_L_145 rfl rfl rfl rfl rfl (q_L_count (d := d) hE (hE.1 _ 12 0 h0)) ?_
          intro x2 m2
          refine fs_ic_ne T 449 445 rfl rfl rfl (fun _ => ?_) (fun _ => ?_)
          · refine fs_r T 2 450 [some (.ref v0), some (.int v1), some (.int v2), some (.int v3), some (.int v4), some (.int v5), none, none, none, none, none, none, none] [.int (1 : Int32)] rfl ?_
            exact fs_retc T rfl rfl rfl rfl
          · refine fs_r T 1 450 [some (.ref v0), some (.int v1), some (.int v2), some (.int v3), some (.int v4), some (.int v5), none, none, none, none, none, none, none] [.int (0 : Int32)] rfl ?_
            exact fs_retc T rfl rfl rfl rfl
        · refine fs_r T 1 450 [some (.ref v0), some (.int v1), some (.int v2), some (.int v3), some (.int v4), some (.int v5), none, none, none, none, none, none, none] [.int (0 : Int32)] rfl ?_
          exact fs_retc T rfl rfl rfl rfl
      · refine fs_r T 1 450 [some (.ref v0), some (.int v1), some (.int v2), some (.int v3), some (.int v4), some (.int v5), none, none, none, none, none, none, none] [.int (0 : Int32)] rfl ?_
        exact fs_retc T rfl rfl rfl rfl
    · refine fs_r T 2 389 [some (.ref v0), some (.int v1), some (.int v2), some (.int v3), some (.int v4), some (.int v5), none, none, none, none, none, none, none] [.ref v0, .int v3] rfl ?_
      refine fs_gs T 392 12 0 v0 rfl rfl rfl rfl h0 ?_
      refine fs_r T 2 395 [some (.ref v0), some (.int v1), some (.int v2), some (.int v3), some (.int v4), some (.int v5), none, none, none, none, none, none, none] [.int (5 : Int32), .int v5, .ref (H.2.1 v0 0), .int v3] rfl ?_
      refine fs_sIh T 398 rfl rfl ml_L_153 rfl rfl rfl rfl rfl (q_L_node (d := d + 1) hE (hE.1 _ 12 0 h0)) ?_
      intro x3 m3
      refine fs_r T 4 403 [some (.ref v0), some (.int v1), some (.int v2), some (.int (v3 + x3)), some (.int v4), some (.int v5), none, none, none, none, none, none, none] [.ref v0, .int v4] rfl ?_
      refine fs_gs T 406 12 0 v0 rfl rfl rfl rfl h0 ?_
      refine fs_r T 2 409 [some (.ref v0), some (.int v1), some (.int v2), some (.int (v3 + x3)), some (.int v4), some (.int v5), none, none, none, none, none, none, none] [.int (4 : Int32), .int v5, .ref (H.2.1 v0 0), .int v4] rfl ?_
      refine fs_sIh T 412 rfl rfl ml_L_153 rfl rfl rfl rfl rfl (q_L_node (d := d + 1) hE (hE.1 _ 12 0 h0)) ?_
      intro x4 m4
      refine fs_r T 4 374 [some (.ref v0), some (.int v1), some (.int v2), some (.int (v3 + x3)), some (.int (v4 + x4)), some (.int (v5 + 1)), none, none, none, none, none, none, none] [] rfl ?_
      exact ih _ _ _ _
def f_L_labelsAreSo_253 (H : fm_H) (k6 : Int32 → Int32 → Int32 → fm_M → Option (Int32 × fm_M)) (k30 : Int32 → Int32 → Int32 → Int32 → Int32 → fm_M → Option (Int32 × fm_M)) (k172 : Int32 → Int32 → fm_M → Option (Int32 × fm_M)) (v0 : Nat) (v1 : Int32) (v2 : Int32) (v3 : Int32) (v4 : Int32) (v5 : Int32) (v6 : Int32) (v7 : Int32) (v8 : Int32) (v9 : Int32) (v10 : Int32) (v12 : Int32) (s0 : Int32) (s1 : Int32) (s2 : Nat) (s3 : Int32) (m : fm_M) : Option (Int32 × fm_M) :=
  fm_bn (f_L_way H s2 s1 s0 v12 (2 : Int32) m) fun x1 m1 =>
  if x1 = v7 then
    k172 (s3 ||| (1 : Int32)) (v12 + 1) m1
  else
  k172 (s3 ||| (0 : Int32)) (v12 + 1) m1
set_option maxRecDepth 10000 in
theorem w_L_labelsAreSo_253 {G : pm_G} {H : fm_H} {d : Nat} {z0 : Nat × Nat × Nat} {K : pm_R → fm_M → Prop} (hE : fm_E G H) {k6 : Int32 → Int32 → Int32 → fm_M → Option (Int32 × fm_M)} {k30 : Int32 → Int32 → Int32 → Int32 → Int32 → fm_M → Option (Int32 × fm_M)} {k172 : Int32 → Int32 → fm_M → Option (Int32 × fm_M)} {v0 : Nat} {v1 : Int32} {v2 : Int32} {v3 : Int32} {v4 : Int32} {v5 : Int32} {v6 : Int32} {v7 : Int32} {v8 : Int32} {v9 : Int32} {v10 : Int32} {v12 : Int32} (Hk6 : ∀ (v1 : Int32) (v2 : Int32) (v3 : Int32) (m : fm_M), fm_o fm_rI (k6 v1 v2 v3 m) K → fm_V G H (d + 5) RL cL_labelsAreSo (some (.boolean)) (fl_z H z0) K 6 [some (.ref v0), some (.int v1), some (.int v2), some (.int v3), none, none, none, none, none, none, none, none, none] [] m) (Hk30 : ∀ (v2 : Int32) (v4 : Int32) (v5 : Int32) (v6 : Int32) (v7 : Int32) (m : fm_M), fm_o fm_rI (k30 v2 v4 v5 v6 v7 m) K → fm_V G H (d + 5) RL cL_labelsAreSo (some (.boolean)) (fl_z H z0) K 30 [some (.ref v0), some (.int v1), some (.int v2), some (.int v3), some (.int v4), some (.int v5), some (.int v6), some (.int v7), none, none, none, none, none] [] m) (Hk172 : ∀ (v11 : Int32) (v12 : Int32) (m : fm_M), fm_o fm_rI (k172 v11 v12 m) K → fm_V G H (d + 5) RL cL_labelsAreSo (some (.boolean)) (fl_z H z0) K 172 [some (.ref v0), some (.int v1), some (.int v2), some (.int v3), some (.int v4), some (.int v5), some (.int v6), some (.int v7), some (.int v8), some (.int v9), some (.int v10), some (.int v11), some (.int v12)] [] m) (h0 : fm_is H v0 12) : ∀ (s0 : Int32) (s1 : Int32) (s2 : Nat) (s3 : Int32) (m : fm_M), fm_is H s2 11 → fm_o fm_rI (f_L_labelsAreSo_253 H k6 k30 k172 v0 v1 v2 v3 v4 v5 v6 v7 v8 v9 v10 v12 s0 s1 s2 s3 m) K → fm_V G H (d + 5) RL cL_labelsAreSo (some (.boolean)) (fl_z H z0) K 253 [some (.ref v0), some (.int v1), some (.int v2), some (.int v3), some (.int v4), some (.int v5), some (.int v6), some (.int v7), some (.int v8), some (.int v9), some (.int v10), none, some (.int v12)] [.int s0, .int s1, .ref s2, .int s3] m := by
  have T : fm_T RL cL_labelsAreSo tc_L_labelsAreSo fr_L mr_L cr_L lr_L := ⟨tok_L, dc_L_labelsAreSo⟩
  intro s0 s1 s2 s3 m hs2
  unfold f_L_labelsAreSo_253
  refine fs_r T 2 256 [some (.ref v0), some (.int v1), some (.int v2), some (.int v3), some (.int v4), some (.int v5), some (.int v6), some (.int v7), some (.int v8), some (.int v9), some (.int v10), none, some (.int v12)] [.int (2 : Int32), .int v12, .int s0, .int s1, .ref s2, .int s3] rfl ?_
  refine fs_sIh T 259 rfl rfl ml_L_158 rfl rfl rfl rfl rfl (q_L_way (d := d + 1) hE hs2) ?_
  intro x1 m1
  refine fs_r T 1 261 [some (.ref v0), some (.int v1), some (.int v2), some (.int v3), some (.int v4), some (.int v5), some (.int v6), some (.int v7), some (.int v8), some (.int v9), some (.int v10), none, some (.int v12)] [.int v7, .int x1, .int s3] rfl ?_
  refine fs_ic_ne T 268 264 rfl rfl rfl (fun _ => ?_) (fun _ => ?_)
  · refine fs_r T 6 172 [some (.ref v0), some (.int v1), some (.int v2), some (.int v3), some (.int v4), some (.int v5), some (.int v6), some (.int v7), some (.int v8), some (.int v9), some (.int v10), some (.int (s3 ||| (1 : Int32))), some (.int (v12 + 1))] [] rfl ?_
    exact Hk172 _ _ _
  · refine fs_r T 5 172 [some (.ref v0), some (.int v1), some (.int v2), some (.int v3), some (.int v4), some (.int v5), some (.int v6), some (.int v7), some (.int v8), some (.int v9), some (.int v10), some (.int (s3 ||| (0 : Int32))), some (.int (v12 + 1))] [] rfl ?_
    exact Hk172 _ _ _
def f_L_labelsAreSo_226 (H : fm_H) (k6 : Int32 → Int32 → Int32 → fm_M → Option (Int32 × fm_M)) (k30 : Int32 → Int32 → Int32 → Int32 → Int32 → fm_M → Option (Int32 × fm_M)) (k172 : Int32 → Int32 → fm_M → Option (Int32 × fm_M)) (v0 : Nat) (v1 : Int32) (v2 : Int32) (v3 : Int32) (v4 : Int32) (v5 : Int32) (v6 : Int32) (v7 : Int32) (v8 : Int32) (v9 : Int32) (v10 : Int32) (v12 : Int32) (s0 : Int32) (s1 : Int32) (s2 : Nat) (s3 : Int32) (m : fm_M) : Option (Int32 × fm_M) :=
  fm_bn (f_L_way H s2 s1 s0 v12 (1 : Int32) m) fun x1 m1 =>
  if x1 = v3 then
    if v10 = (1 : Int32) then
      f_L_labelsAreSo_253 H k6 k30 k172 v0 v1 v2 v3 v4 v5 v6 v7 v8 v9 v10 v12 (1 : Int32) v9 (H.2.1 v0 0) s3 m1
    else
    f_L_labelsAreSo_253 H k6 k30 k172 v0 v1 v2 v3 v4 v5 v6 v7 v8 v9 v10 v12 (0 : Int32) v9 (H.2.1 v0 0) s3 m1
  else
  k172 (s3 ||| (0 : Int32)) (v12 + 1) m1
set_option maxRecDepth 10000 in
theorem w_L_labelsAreSo_226 {G : pm_G} {H : fm_H} {d : Nat} {z0 : Nat × Nat × Nat} {K : pm_R → fm_M → Prop} (hE : fm_E G H) {k6 : Int32 → Int32 → Int32 → fm_M → Option (Int32 × fm_M)} {k30 : Int32 → Int32 → Int32 → Int32 → Int32 → fm_M → Option (Int32 × fm_M)} {k172 : Int32 → Int32 → fm_M → Option (Int32 × fm_M)} {v0 : Nat} {v1 : Int32} {v2 : Int32} {v3 : Int32} {v4 : Int32} {v5 : Int32} {v6 : Int32} {v7 : Int32} {v8 : Int32} {v9 : Int32} {v10 : Int32} {v12 : Int32} (Hk6 : ∀ (v1 : Int32) (v2 : Int32) (v3 : Int32) (m : fm_M), fm_o fm_rI (k6 v1 v2 v3 m) K → fm_V G H (d + 5) RL cL_labelsAreSo (some (.boolean)) (fl_z H z0) K 6 [some (.ref v0), some (.int v1), some (.int v2), some (.int v3), none, none, none, none, none, none, none, none, none] [] m) (Hk30 : ∀ (v2 : Int32) (v4 : Int32) (v5 : Int32) (v6 : Int32) (v7 : Int32) (m : fm_M), fm_o fm_rI (k30 v2 v4 v5 v6 v7 m) K → fm_V G H (d + 5) RL cL_labelsAreSo (some (.boolean)) (fl_z H z0) K 30 [some (.ref v0), some (.int v1), some (.int v2), some (.int v3), some (.int v4), some (.int v5), some (.int v6), some (.int v7), none, none, none, none, none] [] m) (Hk172 : ∀ (v11 : Int32) (v12 : Int32) (m : fm_M), fm_o fm_rI (k172 v11 v12 m) K → fm_V G H (d + 5) RL cL_labelsAreSo (some (.boolean)) (fl_z H z0) K 172 [some (.ref v0), some (.int v1), some (.int v2), some (.int v3), some (.int v4), some (.int v5), some (.int v6), some (.int v7), some (.int v8), some (.int v9), some (.int v10), some (.int v11), some (.int v12)] [] m) (h0 : fm_is H v0 12) : ∀ (s0 : Int32) (s1 : Int32) (s2 : Nat) (s3 : Int32) (m : fm_M), fm_is H s2 11 → fm_o fm_rI (f_L_labelsAreSo_226 H k6 k30 k172 v0 v1 v2 v3 v4 v5 v6 v7 v8 v9 v10 v12 s0 s1 s2 s3 m) K → fm_V G H (d + 5) RL cL_labelsAreSo (some (.boolean)) (fl_z H z0) K 226 [some (.ref v0), some (.int v1), some (.int v2), some (.int v3), some (.int v4), some (.int v5), some (.int v6), some (.int v7), some (.int v8), some (.int v9), some (.int v10), none, some (.int v12)] [.int s0, .int s1, .ref s2, .int s3] m := by
  have T : fm_T RL cL_labelsAreSo tc_L_labelsAreSo fr_L mr_L cr_L lr_L := ⟨tok_L, dc_L_labelsAreSo⟩
  intro s0 s1 s2 s3 m hs2
  unfold f_L_labelsAreSo_226
  refine fs_r T 2 229 [some (.ref v0), some (.int v1), some (.int v2), some (.int v3), some (.int v4), some (.int v5), some (.int v6), some (.int v7), some (.int v8), some (.int v9), some (.int v10), none, some (.int v12)] [.int (1 : Int32), .int v12, .int s0, .int s1, .ref s2, .int s3] rfl ?_
  refine fs_sIh T 232 rfl rfl ml_L_158 rfl rfl rfl rfl rfl (q_L_way (d := d + 1) hE hs2) ?_
  intro x1 m1
  refine fs_r T 1 233 [some (.ref v0), some (.int v1), some (.int v2), some (.int v3), some (.int v4), some (.int v5), some (.int v6), some (.int v7), some (.int v8), some (.int v9), some (.int v10), none, some (.int v12)] [.int v3, .int x1, .int s3] rfl ?_
  refine fs_ic_ne T 268 236 rfl rfl rfl (fun _ => ?_) (fun _ => ?_)
  · refine fs_r T 1 237 [some (.ref v0), some (.int v1), some (.int v2), some (.int v3), some (.int v4), some (.int v5), some (.int v6), some (.int v7), some (.int v8), some (.int v9), some (.int v10), none, some (.int v12)] [.ref v0, .int s3] rfl ?_
    refine fs_gs T 240 12 0 v0 rfl rfl rfl rfl h0 ?_
    refine fs_r T 3 245 [some (.ref v0), some (.int v1), some (.int v2), some (.int v3), some (.int v4), some (.int v5), some (.int v6), some (.int v7), some (.int v8), some (.int v9), some (.int v10), none, some (.int v12)] [.int (1 : Int32), .int v10, .int v9, .ref (H.2.1 v0 0), .int s3] rfl ?_
    refine fs_ic_ne T 252 248 rfl rfl rfl (fun _ => ?_) (fun _ => ?_)
    · refine fs_r T 2 253 [some (.ref v0), some (.int v1), some (.int v2), some (.int v3), some (.int v4), some (.int v5), some (.int v6), some (.int v7), some (.int v8), some (.int v9), some (.int v10), none, some (.int v12)] [.int (1 : Int32), .int v9, .ref (H.2.1 v0 0), .int s3] rfl ?_
      exact w_L_labelsAreSo_253 hE Hk6 Hk30 Hk172 h0 _ _ _ _ _ (hE.1 _ 12 0 h0)
    · refine fs_r T 1 253 [some (.ref v0), some (.int v1), some (.int v2), some (.int v3), some (.int v4), some (.int v5), some (.int v6), some (.int v7), some (.int v8), some (.int v9), some (.int v10), none, some (.int v12)] [.int (0 : Int32), .int v9, .ref (H.2.1 v0 0), .int s3] rfl ?_
      exact w_L_labelsAreSo_253 hE Hk6 Hk30 Hk172 h0 _ _ _ _ _ (hE.1 _ 12 0 h0)
  · refine fs_r T 5 172 [some (.ref v0), some (.int v1), some (.int v2), some (.int v3), some (.int v4), some (.int v5), some (.int v6), some (.int v7), some (.int v8), some (.int v9), some (.int v10), some (.int (s3 ||| (0 : Int32))), some (.int (v12 + 1))] [] rfl ?_
    exact Hk172 _ _ _
def f_L_labelsAreSo_198 (H : fm_H) (k6 : Int32 → Int32 → Int32 → fm_M → Option (Int32 × fm_M)) (k30 : Int32 → Int32 → Int32 → Int32 → Int32 → fm_M → Option (Int32 × fm_M)) (k172 : Int32 → Int32 → fm_M → Option (Int32 × fm_M)) (v0 : Nat) (v1 : Int32) (v2 : Int32) (v3 : Int32) (v4 : Int32) (v5 : Int32) (v6 : Int32) (v7 : Int32) (v8 : Int32) (v9 : Int32) (v10 : Int32) (v12 : Int32) (s0 : Int32) (s1 : Int32) (s2 : Nat) (s3 : Int32) (m : fm_M) : Option (Int32 × fm_M) :=
  fm_bn (f_L_way H s2 s1 s0 v12 (0 : Int32) m) fun x1 m1 =>
  if x1 = v8 then
    if v10 = (1 : Int32) then
      f_L_labelsAreSo_226 H k6 k30 k172 v0 v1 v2 v3 v4 v5 v6 v7 v8 v9 v10 v12 (1 : Int32) v9 (H.2.1 v0 0) s3 m1
    else
    f_L_labelsAreSo_226 H k6 k30 k172 v0 v1 v2 v3 v4 v5 v6 v7 v8 v9 v10 v12 (0 : Int32) v9 (H.2.1 v0 0) s3 m1
  else
  k172 (s3 ||| (0 : Int32)) (v12 + 1) m1
set_option maxRecDepth 10000 in
theorem w_L_labelsAreSo_198 {G : pm_G} {H : fm_H} {d : Nat} {z0 : Nat × Nat × Nat} {K : pm_R → fm_M → Prop} (hE : fm_E G H) {k6 : Int32 → Int32 → Int32 → fm_M → Option (Int32 × fm_M)} {k30 : Int32 → Int32 → Int32 → Int32 → Int32 → fm_M → Option (Int32 × fm_M)} {k172 : Int32 → Int32 → fm_M → Option (Int32 × fm_M)} {v0 : Nat} {v1 : Int32} {v2 : Int32} {v3 : Int32} {v4 : Int32} {v5 : Int32} {v6 : Int32} {v7 : Int32} {v8 : Int32} {v9 : Int32} {v10 : Int32} {v12 : Int32} (Hk6 : ∀ (v1 : Int32) (v2 : Int32) (v3 : Int32) (m : fm_M), fm_o fm_rI (k6 v1 v2 v3 m) K → fm_V G H (d + 5) RL cL_labelsAreSo (some (.boolean)) (fl_z H z0) K 6 [some (.ref v0), some (.int v1), some (.int v2), some (.int v3), none, none, none, none, none, none, none, none, none] [] m) (Hk30 : ∀ (v2 : Int32) (v4 : Int32) (v5 : Int32) (v6 : Int32) (v7 : Int32) (m : fm_M), fm_o fm_rI (k30 v2 v4 v5 v6 v7 m) K → fm_V G H (d + 5) RL cL_labelsAreSo (some (.boolean)) (fl_z H z0) K 30 [some (.ref v0), some (.int v1), some (.int v2), some (.int v3), some (.int v4), some (.int v5), some (.int v6), some (.int v7), none, none, none, none, none] [] m) (Hk172 : ∀ (v11 : Int32) (v12 : Int32) (m : fm_M), fm_o fm_rI (k172 v11 v12 m) K → fm_V G H (d + 5) RL cL_labelsAreSo (some (.boolean)) (fl_z H z0) K 172 [some (.ref v0), some (.int v1), some (.int v2), some (.int v3), some (.int v4), some (.int v5), some (.int v6), some (.int v7), some (.int v8), some (.int v9), some (.int v10), some (.int v11), some (.int v12)] [] m) (h0 : fm_is H v0 12) : ∀ (s0 : Int32) (s1 : Int32) (s2 : Nat) (s3 : Int32) (m : fm_M), fm_is H s2 11 → fm_o fm_rI (f_L_labelsAreSo_198 H k6 k30 k172 v0 v1 v2 v3 v4 v5 v6 v7 v8 v9 v10 v12 s0 s1 s2 s3 m) K → fm_V G H (d + 5) RL cL_labelsAreSo (some (.boolean)) (fl_z H z0) K 198 [some (.ref v0), some (.int v1), some (.int v2), some (.int v3), some (.int v4), some (.int v5), some (.int v6), some (.int v7), some (.int v8), some (.int v9), some (.int v10), none, some (.int v12)] [.int s0, .int s1, .ref s2, .int s3] m := by
  have T : fm_T RL cL_labelsAreSo tc_L_labelsAreSo fr_L mr_L cr_L lr_L := ⟨tok_L, dc_L_labelsAreSo⟩
  intro s0 s1 s2 s3 m hs2
  unfold f_L_labelsAreSo_198
  refine fs_r T 2 201 [some (.ref v0), some (.int v1), some (.int v2), some (.int v3), some (.int v4), some (.int v5), some (.int v6), some (.int v7), some (.int v8), some (.int v9), some (.int v10), none, some (.int v12)] [.int (0 : Int32), .int v12, .int s0, .int s1, .ref s2, .int s3] rfl ?_
  refine fs_sIh T 204 rfl rfl ml_L_158 rfl rfl rfl rfl rfl (q_L_way (d := d + 1) hE hs2) ?_
  intro x1 m1
  refine fs_r T 1 206 [some (.ref v0), some (.int v1), some (.int v2), some (.int v3), some (.int v4), some (.int v5), some (.int v6), some (.int v7), some (.int v8), some (.int v9), some (.int v10), none, some (.int v12)] [.int v8, .int x1, .int s3] rfl ?_
  refine fs_ic_ne T 268 209 rfl rfl rfl (fun _ => ?_) (fun _ => ?_)
  · refine fs_r T 1 210 [some (.ref v0), some (.int v1), some (.int v2), some (.int v3), some (.int v4), some (.int v5), some (.int v6), some (.int v7), some (.int v8), some (.int v9), some (.int v10), none, some (.int v12)] [.ref v0, .int s3] rfl ?_
    refine fs_gs T 213 12 0 v0 rfl rfl rfl rfl h0 ?_
    refine fs_r T 3 218 [some (.ref v0), some (.int v1), some (.int v2), some (.int v3), some (.int v4), some (.int v5), some (.int v6), some (.int v7), some (.int v8), some (.int v9), some (.int v10), none, some (.int v12)] [.int (1 : Int32), .int v10, .int v9, .ref (H.2.1 v0 0), .int s3] rfl ?_
    refine fs_ic_ne T 225 221 rfl rfl rfl (fun _ => ?_) (fun _ => ?_)
    · refine fs_r T 2 226 [some (.ref v0), some (.int v1), some (.int v2), some (.int v3), some (.int v4), some (.int v5), some (.int v6), some (.int v7), some (.int v8), some (.int v9), some (.int v10), none, some (.int v12)] [.int (1 : Int32), .int v9, .ref (H.2.1 v0 0), .int s3] rfl ?_
      exact w_L_labelsAreSo_226 hE Hk6 Hk30 Hk172 h0 _ _ _ _ _ (hE.1 _ 12 0 h0)
    · refine fs_r T 1 226 [some (.ref v0), some (.int v1), some (.int v2), some (.int v3), some (.int v4), some (.int v5), some (.int v6), some (.int v7), some (.int v8), some (.int v9), some (.int v10), none, some (.int v12)] [.int (0 : Int32), .int v9, .ref (H.2.1 v0 0), .int s3] rfl ?_
      exact w_L_labelsAreSo_226 hE Hk6 Hk30 Hk172 h0 _ _ _ _ _ (hE.1 _ 12 0 h0)
  · refine fs_r T 5 172 [some (.ref v0), some (.int v1), some (.int v2), some (.int v3), some (.int v4), some (.int v5), some (.int v6), some (.int v7), some (.int v8), some (.int v9), some (.int v10), some (.int (s3 ||| (0 : Int32))), some (.int (v12 + 1))] [] rfl ?_
    exact Hk172 _ _ _
def f_L_labelsAreSo_172 (H : fm_H) (k6 : Int32 → Int32 → Int32 → fm_M → Option (Int32 × fm_M)) (k30 : Int32 → Int32 → Int32 → Int32 → Int32 → fm_M → Option (Int32 × fm_M)) (v0 : Nat) (v1 : Int32) (v2 : Int32) (v3 : Int32) (v4 : Int32) (v5 : Int32) (v6 : Int32) (v7 : Int32) (v8 : Int32) (v9 : Int32) (v10 : Int32) : Nat → Int32 → Int32 → fm_M → Option (Int32 × fm_M)
  | 0, _, _, _ => none
  | n + 1, v11, v12, m =>
    if (6 : Int32) ≤ v12 then
      if v11 = 0 then
        some ((0 : Int32), m)
      else
      k30 v2 v4 v5 v6 (v7 + 1) m
    else
    if v10 = (1 : Int32) then
      f_L_labelsAreSo_198 H k6 k30 (f_L_labelsAreSo_172 H k6 k30 v0 v1 v2 v3 v4 v5 v6 v7 v8 v9 v10 n) v0 v1 v2 v3 v4 v5 v6 v7 v8 v9 v10 v12 (1 : Int32) v9 (H.2.1 v0 0) v11 m
    else
    f_L_labelsAreSo_198 H k6 k30 (f_L_labelsAreSo_172 H k6 k30 v0 v1 v2 v3 v4 v5 v6 v7 v8 v9 v10 n) v0 v1 v2 v3 v4 v5 v6 v7 v8 v9 v10 v12 (0 : Int32) v9 (H.2.1 v0 0) v11 m
set_option maxRecDepth 10000 in
theorem w_L_labelsAreSo_172 {G : pm_G} {H : fm_H} {d : Nat} {z0 : Nat × Nat × Nat} {K : pm_R → fm_M → Prop} (hE : fm_E G H) {k6 : Int32 → Int32 → Int32 → fm_M → Option (Int32 × fm_M)} {k30 : Int32 → Int32 → Int32 → Int32 → Int32 → fm_M → Option (Int32 × fm_M)} {v0 : Nat} {v1 : Int32} {v2 : Int32} {v3 : Int32} {v4 : Int32} {v5 : Int32} {v6 : Int32} {v7 : Int32} {v8 : Int32} {v9 : Int32} {v10 : Int32} (Hk6 : ∀ (v1 : Int32) (v2 : Int32) (v3 : Int32) (m : fm_M), fm_o fm_rI (k6 v1 v2 v3 m) K → fm_V G H (d + 5) RL cL_labelsAreSo (some (.boolean)) (fl_z H z0) K 6 [some (.ref v0), some (.int v1), some (.int v2), some (.int v3), none, none, none, none, none, none, none, none, none] [] m) (Hk30 : ∀ (v2 : Int32) (v4 : Int32) (v5 : Int32) (v6 : Int32) (v7 : Int32) (m : fm_M), fm_o fm_rI (k30 v2 v4 v5 v6 v7 m) K → fm_V G H (d + 5) RL cL_labelsAreSo (some (.boolean)) (fl_z H z0) K 30 [some (.ref v0), some (.int v1), some (.int v2), some (.int v3), some (.int v4), some (.int v5), some (.int v6), some (.int v7), none, none, none, none, none] [] m) (h0 : fm_is H v0 12) : ∀ (n : Nat) (v11 : Int32) (v12 : Int32) (m : fm_M), fm_o fm_rI (f_L_labelsAreSo_172 H k6 k30 v0 v1 v2 v3 v4 v5 v6 v7 v8 v9 v10 n v11 v12 m) K → fm_V G H (d + 5) RL cL_labelsAreSo (some (.boolean)) (fl_z H z0) K 172 [some (.ref v0), some (.int v1), some (.int v2), some (.int v3), some (.int v4), some (.int v5), some (.int v6), some (.int v7), some (.int v8), some (.int v9), some (.int v10), some (.int v11), some (.int v12)] [] m := by
  have T : fm_T RL cL_labelsAreSo tc_L_labelsAreSo fr_L mr_L cr_L lr_L := ⟨tok_L, dc_L_labelsAreSo⟩
  intro n
  induction n with
  | zero =>
    intro v11 v12 m 
    exact fs_none
  | succ n ih =>
    intro v11 v12 m 
    unfold f_L_labelsAreSo_172
    refine fs_r T 2 176 [some (.ref v0), some (.int v1), some (.int v2), some (.int v3), some (.int v4), some (.int v5), some (.int v6), some (.int v7), some (.int v8), some (.int v9), some (.int v10), some (.int v11), some (.int v12)] [.int (6 : Int32), .int v12] rfl ?_
    refine fs_ic_ge T 278 179 rfl rfl rfl (fun _ => ?_) (fun _ => ?_)
    · refine fs_r T 1 280 [some (.ref v0), some (.int v1), some (.int v2), some (.int v3), some (.int v4), some (.int v5), some (.int v6), some (.int v7), some (.int v8), some (.int v9), some (.int v10), some (.int v11), some (.int v12)] [.int v11] rfl ?_
      refine fs_if_ne T 285 283 rfl rfl rfl (fun _ => ?_) (fun _ => ?_)
      · refine fs_r T 1 284 [some (.ref v0), some (.int v1), some (.int v2), some (.int v3), some (.int v4), some (.int v5), some (.int v6), some (.int v7), some (.int v8), some (.int v9), some (.int v10), some (.int v11), some (.int v12)] [.int (0 : Int32)] rfl ?_
        exact fs_retc T rfl rfl rfl rfl
      · refine fs_r T 2 30 [some (.ref v0), some (.int v1), some (.int v2), some (.int v3), some (.int v4), some (.int v5), some (.int v6), some (.int (v7 + 1)), some (.int v8), some (.int v9), some (.int v10), some (.int v11), some (.int v12)] [] rfl ?_
        refine fs_wk (ls' := [some (.ref v0), some (.int v1), some (.int v2), some (.int v3), some (.int v4), some (.int v5), some (.int v6), some (.int (v7 + 1)), none, none, none, none, none]) ⟨rfl, rfl, rfl, rfl, rfl, rfl, rfl, rfl, trivial⟩ ?_
        exact Hk30 _ _ _ _ _ _
    · refine fs_r T 2 182 [some (.ref v0), some (.int v1), some (.int v2), some (.int v3), some (.int v4), some (.int v5), some (.int v6), some (.int v7), some (.int v8), some (.int v9), some (.int v10), some (.int v11), some (.int v12)] [.ref v0, .int v11] rfl ?_
      refine fs_gs T 185 12 0 v0 rfl rfl rfl rfl h0 ?_
      refine fs_r T 3 190 [some (.ref v0), some (.int v1), some (.int v2), some (.int v3), some (.int v4), some (.int v5), some (.int v6), some (.int v7), some (.int v8), some (.int v9), some (.int v10), some (.int v11), some (.int v12)] [.int (1 : Int32), .int v10, .int v9, .ref (H.2.1 v0 0), .int v11] rfl ?_
      refine fs_ic_ne T 197 193 rfl rfl rfl (fun _ => ?_) (fun _ => ?_)
      · refine fs_r T 2 198 [some (.ref v0), some (.int v1), some (.int v2), some (.int v3), some (.int v4), some (.int v5), some (.int v6), some (.int v7), some (.int v8), some (.int v9), some (.int v10), some (.int v11), some (.int v12)] [.int (1 : Int32), .int v9, .ref (H.2.1 v0 0), .int v11] rfl ?_
        refine fs_wk (ls' := [some (.ref v0), some (.int v1), some (.int v2), some (.int v3), some (.int v4), some (.int v5), some (.int v6), some (.int v7), some (.int v8), some (.int v9), some (.int v10), none, some (.int v12)]) ⟨rfl, rfl, rfl, rfl, rfl, rfl, rfl, rfl, rfl, rfl, rfl, rfl, trivial⟩ ?_
        exact w_L_labelsAreSo_198 hE Hk6 Hk30 ih h0 _ _ _ _ _ (hE.1 _ 12 0 h0)
      · refine fs_r T 1 198 [some (.ref v0), some (.int v1), some (.int v2), some (.int v3), some (.int v4), some (.int v5), some (.int v6), some (.int v7), some (.int v8), some (.int v9), some (.int v10), some (.int v11), some (.int v12)] [.int (0 : Int32), .int v9, .ref (H.2.1 v0 0), .int v11] rfl ?_
        refine fs_wk (ls' := [some (.ref v0), some (.int v1), some (.int v2), some (.int v3), some (.int v4), some (.int v5), some (.int v6), some (.int v7), some (.int v8), some (.int v9), some (.int v10), none, some (.int v12)]) ⟨rfl, rfl, rfl, rfl, rfl, rfl, rfl, rfl, rfl, rfl, rfl, rfl, trivial⟩ ?_
        exact w_L_labelsAreSo_198 hE Hk6 Hk30 ih h0 _ _ _ _ _ (hE.1 _ 12 0 h0)
def f_L_labelsAreSo_149 (H : fm_H) (k6 : Int32 → Int32 → Int32 → fm_M → Option (Int32 × fm_M)) (k30 : Int32 → Int32 → Int32 → Int32 → Int32 → fm_M → Option (Int32 × fm_M)) (v0 : Nat) (v1 : Int32) (v2 : Int32) (v3 : Int32) (v4 : Int32) (v5 : Int32) (v7 : Int32) (v8 : Int32) (v9 : Int32) (v10 : Int32) (s0 : Int32) (s1 : Int32) (m : fm_M) : Option (Int32 × fm_M) :=
  fm_bn (f_L_label H (H.2.1 v0 0) v3 v7 (3 : Int32) m) fun x1 m1 =>
  f_L_labelsAreSo_172 H k6 k30 v0 v1 (v2 + x1) v3 v4 v5 (s1 + s0) v7 v8 v9 v10 fm_N (0 : Int32) (1 : Int32) m1
set_option maxRecDepth 10000 in
theorem w_L_labelsAreSo_149 {G : pm_G} {H : fm_H} {d : Nat} {z0 : Nat × Nat × Nat} {K : pm_R → fm_M → Prop} (hE : fm_E G H) {k6 : Int32 → Int32 → Int32 → fm_M → Option (Int32 × fm_M)} {k30 : Int32 → Int32 → Int32 → Int32 → Int32 → fm_M → Option (Int32 × fm_M)} {v0 : Nat} {v1 : Int32} {v2 : Int32} {v3 : Int32} {v4 : Int32} {v5 : Int32} {v7 : Int32} {v8 : Int32} {v9 : Int32} {v10 : Int32} (Hk6 : ∀ (v1 : Int32) (v2 : Int32) (v3 : Int32) (m : fm_M), fm_o fm_rI (k6 v1 v2 v3 m) K → fm_V G H (d + 5) RL cL_labelsAreSo (some (.boolean)) (fl_z H z0) K 6 [some (.ref v0), some (.int v1), some (.int v2), some (.int v3), none, none, none, none, none, none, none, none, none] [] m) (Hk30 : ∀ (v2 : Int32) (v4 : Int32) (v5 : Int32) (v6 : Int32) (v7 : Int32) (m : fm_M), fm_o fm_rI (k30 v2 v4 v5 v6 v7 m) K → fm_V G H (d + 5) RL cL_labelsAreSo (some (.boolean)) (fl_z H z0) K 30 [some (.ref v0), some (.int v1), some (.int v2), some (.int v3), some (.int v4), some (.int v5), some (.int v6), some (.int v7), none, none, none, none, none] [] m) (h0 : fm_is H v0 12) : ∀ (s0 : Int32) (s1 : Int32) (m : fm_M), fm_o fm_rI (f_L_labelsAreSo_149 H k6 k30 v0 v1 v2 v3 v4 v5 v7 v8 v9 v10 s0 s1 m) K → fm_V G H (d + 5) RL cL_labelsAreSo (some (.boolean)) (fl_z H z0) K 149 [some (.ref v0), some (.int v1), some (.int v2), some (.int v3), some (.int v4), some (.int v5), none, some (.int v7), some (.int v8), some (.int v9), some (.int v10), none, none] [.int s0, .int s1] m := by
  have T : fm_T RL cL_labelsAreSo tc_L_labelsAreSo fr_L mr_L cr_L lr_L := ⟨tok_L, dc_L_labelsAreSo⟩
  intro s0 s1 m
  unfold f_L_labelsAreSo_149
  refine fs_r T 4 154 [some (.ref v0), some (.int v1), some (.int v2), some (.int v3), some (.int v4), some (.int v5), some (.int (s1 + s0)), some (.int v7), some (.int v8), some (.int v9), some (.int v10), none, none] [.ref v0, .int v2] rfl ?_
  refine fs_gs T 157 12 0 v0 rfl rfl rfl rfl h0 ?_
  refine fs_r T 3 161 [some (.ref v0), some (.int v1), some (.int v2), some (.int v3), some (.int v4), some (.int v5), some (.int (s1 + s0)), some (.int v7), some (.int v8), some (.int v9), some (.int v10), none, none] [.int (3 : Int32), .int v7, .int v3, .ref (H.2.1 v0 0), .int v2] rfl ?_
  refine fs_sIh T 164 rfl rfl ml_L_155 rfl rfl rfl rfl rfl (q_L_label (d := d) hE (hE.1 _ 12 0 h0)) ?_
  intro x1 m1
  refine fs_r T 6 172 [some (.ref v0), some (.int v1), some (.int (v2 + x1)), some (.int v3), some (.int v4), some (.int v5), some (.int (s1 + s0)), some (.int v7), some (.int v8), some (.int v9), some (.int v10), some (.int (0 : Int32)), some (.int (1 : Int32))] [] rfl ?_
  exact w_L_labelsAreSo_172 hE Hk6 Hk30 h0 _ _ _ _
def f_L_labelsAreSo_30 (H : fm_H) (k6 : Int32 → Int32 → Int32 → fm_M → Option (Int32 × fm_M)) (v0 : Nat) (v1 : Int32) (v3 : Int32) : Nat → Int32 → Int32 → Int32 → Int32 → Int32 → fm_M → Option (Int32 × fm_M)
  | 0, _, _, _, _, _, _ => none
  | n + 1, v2, v4, v5, v6, v7, m =>
    fm_bn (f_L_node H (H.2.1 v0 0) v3 (0 : Int32) m) fun x1 m1 =>
    if x1 ≤ v7 then
      fm_bn (f_L_node H (H.2.1 v0 0) v3 (1 : Int32) m1) fun x2 m2 =>
      if v4 = x2 then
        fm_bn (f_L_node H (H.2.1 v0 0) v3 (2 : Int32) m2) fun x3 m3 =>
        if v5 = x3 then
          fm_bn (f_L_node H (H.2.1 v0 0) v3 (3 : Int32) m3) fun x4 m4 =>
          if v6 = x4 then
            fm_bn (f_L_node H (H.2.1 v0 0) v3 (0 : Int32) m4) fun x5 m5 =>
            if ((v4 + v5) + v6) = x5 then
              k6 (v1 + v6) v2 (v3 + 1) m5
            else
            some ((0 : Int32), m5)
          else
          some ((0 : Int32), m4)
        else
        some ((0 : Int32), m3)
      else
      some ((0 : Int32), m2)
    else
    fm_bn (f_L_label H (H.2.1 v0 0) v3 v7 (0 : Int32) m1) fun x6 m6 =>
    fm_bn (f_L_label H (H.2.1 v0 0) v3 v7 (1 : Int32) m6) fun x7 m7 =>
    fm_bn (f_L_label H (H.2.1 v0 0) v3 v7 (2 : Int32) m7) fun x8 m8 =>
    if 0 ≤ x6 then
      if x6 = v3 then
        if x6 = v3 then
          f_L_labelsAreSo_149 H k6 (f_L_labelsAreSo_30 H k6 v0 v1 v3 n) v0 v1 v2 v3 v4 (v5 + (1 : Int32)) v7 x6 x7 x8 (0 : Int32) v6 m8
        else
        f_L_labelsAreSo_149 H k6 (f_L_labelsAreSo_30 H k6 v0 v1 v3 n) v0 v1 v2 v3 v4 (v5 + (1 : Int32)) v7 x6 x7 x8 (1 : Int32) v6 m8
      else
      if x6 = v3 then
        f_L_labelsAreSo_149 H k6 (f_L_labelsAreSo_30 H k6 v0 v1 v3 n) v0 v1 v2 v3 v4 (v5 + (0 : Int32)) v7 x6 x7 x8 (0 : Int32) v6 m8
      else
      f_L_labelsAreSo_149 H k6 (f_L_labelsAreSo_30 H k6 v0 v1 v3 n) v0 v1 v2 v3 v4 (v5 + (0 : Int32)) v7 x6 x7 x8 (1 : Int32) v6 m8
    else
    if x7 = (-1 : Int32) then
      if x8 = (-1 : Int32) then
        fm_bn (f_L_label H (H.2.1 v0 0) v3 v7 (3 : Int32) m8) fun x9 m9 =>
        if x9 = (-1 : Int32) then
          f_L_labelsAreSo_30 H k6 v0 v1 v3 n v2 (v4 + 1) v5 v6 (v7 + 1) m9
        else
        some ((0 : Int32), m9)
      else
      some ((0 : Int32), m8)
    else
    some ((0 : Int32), m8)
set_option maxRecDepth 10000 in
theorem w_L_labelsAreSo_30 {G : pm_G} {H : fm_H} {d : Nat} {z0 : Nat × Nat × Nat} {K : pm_R → fm_M → Prop} (hE : fm_E G H) {k6 : Int32 → Int32 → Int32 → fm_M → Option (Int32 × fm_M)} {v0 : Nat} {v1 : Int32} {v3 : Int32} (Hk6 : ∀ (v1 : Int32) (v2 : Int32) (v3 : Int32) (m : fm_M), fm_o fm_rI (k6 v1 v2 v3 m) K → fm_V G H (d + 5) RL cL_labelsAreSo (some (.boolean)) (fl_z H z0) K 6 [some (.ref v0), some (.int v1), some (.int v2), some (.int v3), none, none, none, none, none, none, none, none, none] [] m) (h0 : fm_is H v0 12) : ∀ (n : Nat) (v2 : Int32) (v4 : Int32) (v5 : Int32) (v6 : Int32) (v7 : Int32) (m : fm_M), fm_o fm_rI (f_L_labelsAreSo_30 H k6 v0 v1 v3 n v2 v4 v5 v6 v7 m) K → fm_V G H (d + 5) RL cL_labelsAreSo (some (.boolean)) (fl_z H z0) K 30 [some (.ref v0), some (.int v1), some (.int v2), some (.int v3), some (.int v4), some (.int v5), some (.int v6), some (.int v7), none, none, none, none, none] [] m := by
  have T : fm_T RL cL_labelsAreSo tc_L_labelsAreSo fr_L mr_L cr_L lr_L := ⟨tok_L, dc_L_labelsAreSo⟩
  intro n
  induction n with
  | zero =>
    intro v2 v4 v5 v6 v7 m 
    exact fs_none
  | succ n ih =>
    intro v2 v4 v5 v6 v7 m 
    unfold f_L_labelsAreSo_30
    refine fs_r T 2 33 [some (.ref v0), some (.int v1), some (.int v2), some (.int v3), some (.int v4), some (.int v5), some (.int v6), some (.int v7), none, none, none, none, none] [.ref v0, .int v7] rfl ?_
    refine fs_gs T 36 12 0 v0 rfl rfl rfl rfl h0 ?_
    refine fs_r T 2 38 [some (.ref v0), some (.int v1), some (.int v2), some (.int v3), some (.int v4), some (.int v5), some (.int v6), some (.int v7), none, none, none, none, none] [.int (0 : Int32), .int v3, .ref (H.2.1 v0 0), .int v7] rfl ?_
    refine fs_sIh T 41 rfl rfl ml_L_153 rfl rfl rfl rfl rfl (q_L_node (d := d + 1) hE (hE.1 _ 12 0 h0)) ?_
    intro x1 m1
    refine fs_ic_ge T 291 44 rfl rfl rfl (fun _ => ?_) (fun _ => ?_)
    · refine fs_r T 2 294 [some (.ref v0), some (.int v1), some (.int v2), some (.int v3), some (.int v4), some (.int v5), some (.int v6), some (.int v7), none, none, none, none, none] [.ref v0, .int v4] rfl ?_
      refine fs_gs T 297 12 0 v0 rfl rfl rfl rfl h0 ?_
      refine fs_r T 2 299 [some (.ref v0), some (.int v1), some (.int v2), some (.int v3), some (.int v4), some (.int v5), some (.int v6), some (.int v7), none, none, none, none, none] [.int (1 : Int32), .int v3, .ref (H.2.1 v0 0), .int v4] rfl ?_
      refine fs_sIh T 302 rfl rfl ml_L_153 rfl rfl rfl rfl rfl (q_L_node (d := d + 1) hE (hE.1 _ 12 0 h0)) ?_
      intro x2 m2
      refine fs_ic_ne T 353 305 rfl rfl rfl (fun _ => ?_) (fun _ => ?_)
      · refine fs_r T 2 308 [some (.ref v0), some (.int v1), some (.int v2), some (.int v3), some (.int v4), some (.int v5), some (.int v6), some (.int v7), none, none, none, none, none] [.ref v0, .int v5] rfl ?_
        refine fs_gs T 311 12 0 v0 rfl rfl rfl rfl h0 ?_
        refine fs_r T 2 313 [some (.ref v0), some (.int v1), some (.int v2), some (.int v3), some (.int v4), some (.int v5), some (.int v6), some (.int v7), none, none, none, none, none] [.int (2 : Int32), .int v3, .ref (H.2.1 v0 0), .int v5] rfl ?_
        refine fs_sIh T 316 rfl rfl ml_L_153 rfl rfl rfl rfl rfl (q_L_node (d := d + 1) hE (hE.1 _ 12 0 h0)) ?_
        intro x3 m3
        refine fs_ic_ne T 353 319 rfl rfl rfl (fun _ => ?_) (fun _ => ?_)
        · refine fs_r T 2 322 [some (.ref v0), some (.int v1), some (.int v2), some (.int v3), some (.int v4), some (.int v5), some (.int v6), some (.int v7), none, none, none, none, none] [.ref v0, .int v6] rfl ?_
          refine fs_gs T 325 12 0 v0 rfl rfl rfl rfl h0 ?_
          refine fs_r T 2 327 [some (.ref v0), some (.int v1), some (.int v2), some (.int v3), some (.int v4), some (.int v5), some (.int v6), some (.int v7), none, none, none, none, none] [.int (3 : Int32), .int v3, .ref (H.2.1 v0 0), .int v6] rfl ?_
          refine fs_sIh T 330 rfl rfl ml_L_153 rfl rfl rfl rfl rfl (q_L_node (d := d + 1) hE (hE.1 _ 12 0 h0)) ?_
          intro x4 m4
          refine fs_ic_ne T 353 333 rfl rfl rfl (fun _ => ?_) (fun _ => ?_)
          · refine fs_r T 6 342 [some (.ref v0), some (.int v1), some (.int v2), some (.int v3), some (.int v4), some (.int v5), some (.int v6), some (.int v7), none, none, none, none, none] [.ref v0, .int ((v4 + v5) + v6)] rfl ?_
            refine fs_gs T 345 12 0 v0 rfl rfl rfl rfl h0 ?_
            refine fs_r T 2 347 [some (.ref v0), some (.int v1), some (.int v2), some (.int v3), some (.int v4), some (.int v5), some (.int v6), some (.int v7), none, none, none, none, none] [.int (0 : Int32), .int v3, .ref (H.2.1 v0 0), .int ((v4 + v5) + v6)] rfl ?_
            refine fs_sIh T 350 rfl rfl ml_L_153 rfl rfl rfl rfl rfl (q_L_node (d := d + 1) hE (hE.1 _ 12 0 h0)) ?_
            intro x5 m5
            refine fs_ic_eq T 355 353 rfl rfl rfl (fun _ => ?_) (fun _ => ?_)
            · refine fs_r T 6 6 [some (.ref v0), some (.int (v1 + v6)), some (.int v2), some (.int (v3 + 1)), some (.int v4), some (.int v5), some (.int v6), some (.int v7), none, none, none, none, none] [] rfl ?_
              refine fs_wk (ls' := [some (.ref v0), some (.int (v1 + v6)), some (.int v2), some (.int (v3 + 1)), none, none, none, none, none, none, none, none, none]) ⟨rfl, rfl, rfl, rfl, trivial⟩ ?_
              exact Hk6 _ _ _ _
            · refine fs_r T 1 354 [some (.ref v0), some (.int v1), some (.int v2), some (.int v3), some (.int v4), some (.int v5), some (.int v6), some (.int v7), none, none, none, none, none] [.int (0 : Int32)] rfl ?_
              exact fs_retc T rfl rfl rfl rfl
          · refine fs_r T 1 354 [some (.ref v0), some (.int v1), some (.int v2), some (.int v3), some (.int v4), some (.int v5), some (.int v6), some (.int v7), none, none, none, none, none] [.int (0 : Int32)] rfl ?_
            exact fs_retc T rfl rfl rfl rfl
        · refine fs_r T 1 354 [some (.ref v0), some (.int v1), some (.int v2), some (.int v3), some (.int v4), some (.int v5), some (.int v6), some (.int v7), none, none, none, none, none] [.int (0 : Int32)] rfl ?_
          exact fs_retc T rfl rfl rfl rfl
      · refine fs_r T 1 354 [some (.ref v0), some (.int v1), some (.int v2), some (.int v3), some (.int v4), some (.int v5), some (.int v6), some (.int v7), none, none, none, none, none] [.int (0 : Int32)] rfl ?_
        exact fs_retc T rfl rfl rfl rfl
    · refine fs_r T 1 45 [some (.ref v0), some (.int v1), some (.int v2), some (.int v3), some (.int v4), some (.int v5), some (.int v6), some (.int v7), none, none, none, none, none] [.ref v0] rfl ?_
      refine fs_gs T 48 12 0 v0 rfl rfl rfl rfl h0 ?_
      refine fs_r T 3 52 [some (.ref v0), some (.int v1), some (.int v2), some (.int v3), some (.int v4), some (.int v5), some (.int v6), some (.int v7), none, none, none, none, none] [.int (0 : Int32), .int v7, .int v3, .ref (H.2.1 v0 0)] rfl ?_
      refine fs_sIh T 55 rfl rfl ml_L_155 rfl rfl rfl rfl rfl (q_L_label (d := d) hE (hE.1 _ 12 0 h0)) ?_
      intro x6 m6
      refine fs_r T 2 58 [some (.ref v0), some (.int v1), some (.int v2), some (.int v3), some (.int v4), some (.int v5), some (.int v6), some (.int v7), some (.int x6), none, none, none, none] [.ref v0] rfl ?_
      refine fs_gs T 61 12 0 v0 rfl rfl rfl rfl h0 ?_
      refine fs_r T 3 65 [some (.ref v0), some (.int v1), some (.int v2), some (.int v3), some (.int v4), some (.int v5), some (.int v6), some (.int v7), some (.int x6), none, none, none, none] [.int (1 : Int32), .int v7, .int v3, .ref (H.2.1 v0 0)] rfl ?_
      refine fs_sIh T 68 rfl rfl ml_L_155 rfl rfl rfl rfl rfl (q_L_label (d := d) hE (hE.1 _ 12 0 h0)) ?_
      intro x7 m7
      refine fs_r T 2 71 [some (.ref v0), some (.int v1), some (.int v2), some (.int v3), some (.int v4), some (.int v5), some (.int v6), some (.int v7), some (.int x6), some (.int x7), none, none, none] [.ref v0] rfl ?_
      refine fs_gs T 74 12 0 v0 rfl rfl rfl rfl h0 ?_
      refine fs_r T 3 78 [some (.ref v0), some (.int v1), some (.int v2), some (.int v3), some (.int v4), some (.int v5), some (.int v6), some (.int v7), some (.int x6), some (.int x7), none, none, none] [.int (2 : Int32), .int v7, .int v3, .ref (H.2.1 v0 0)] rfl ?_
      refine fs_sIh T 81 rfl rfl ml_L_155 rfl rfl rfl rfl rfl (q_L_label (d := d) hE (hE.1 _ 12 0 h0)) ?_
      intro x8 m8
      refine fs_r T 2 85 [some (.ref v0), some (.int v1), some (.int v2), some (.int v3), some (.int v4), some (.int v5), some (.int v6), some (.int v7), some (.int x6), some (.int x7), some (.int x8), none, none] [.int x6] rfl ?_
      refine fs_if_ge T 120 88 rfl rfl rfl (fun _ => ?_) (fun _ => ?_)
      · refine fs_r T 3 125 [some (.ref v0), some (.int v1), some (.int v2), some (.int v3), some (.int v4), some (.int v5), some (.int v6), some (.int v7), some (.int x6), some (.int x7), some (.int x8), none, none] [.int v3, .int x6, .int v5] rfl ?_
        refine fs_ic_ne T 132 128 rfl rfl rfl (fun _ => ?_) (fun _ => ?_)
        · refine fs_r T 7 141 [some (.ref v0), some (.int v1), some (.int v2), some (.int v3), some (.int v4), some (.int (v5 + (1 : Int32))), some (.int v6), some (.int v7), some (.int x6), some (.int x7), some (.int x8), none, none] [.int v3, .int x6, .int v6] rfl ?_
          refine fs_ic_ne T 148 144 rfl rfl rfl (fun _ => ?_) (fun _ => ?_)
          · refine fs_r T 2 149 [some (.ref v0), some (.int v1), some (.int v2), some (.int v3), some (.int v4), some (.int (v5 + (1 : Int32))), some (.int v6), some (.int v7), some (.int x6), some (.int x7), some (.int x8), none, none] [.int (0 : Int32), .int v6] rfl ?_
            refine fs_wk (ls' := [some (.ref v0), some (.int v1), some (.int v2), some (.int v3), some (.int v4), some (.int (v5 + (1 : Int32))), none, some (.int v7), some (.int x6), some (.int x7), some (.int x8), none, none]) ⟨rfl, rfl, rfl, rfl, rfl, rfl, rfl, rfl, rfl, rfl, trivial⟩ ?_
            exact w_L_labelsAreSo_149 hE Hk6 ih h0 _ _ _
          · refine fs_r T 1 149 [some (.ref v0), some (.int v1), some (.int v2), some (.int v3), some (.int v4), some (.int (v5 + (1 : Int32))), some (.int v6), some (.int v7), some (.int x6), some (.int x7), some (.int x8), none, none] [.int (1 : Int32), .int v6] rfl ?_
            refine fs_wk (ls' := [some (.ref v0), some (.int v1), some (.int v2), some (.int v3), some (.int v4), some (.int (v5 + (1 : Int32))), none, some (.int v7), some (.int x6), some (.int x7), some (.int x8), none, none]) ⟨rfl, rfl, rfl, rfl, rfl, rfl, rfl, rfl, rfl, rfl, trivial⟩ ?_
            exact w_L_labelsAreSo_149 hE Hk6 ih h0 _ _ _
        · refine fs_r T 6 141 [some (.ref v0), some (.int v1), some (.int v2), some (.int v3), some (.int v4), some (.int (v5 + (0 : Int32))), some (.int v6), some (.int v7), some (.int x6), some (.int x7), some (.int x8), none, none] [.int v3, .int x6, .int v6] rfl ?_
          refine fs_ic_ne T 148 144 rfl rfl rfl (fun _ => ?_) (fun _ => ?_)
          · refine fs_r T 2 149 [some (.ref v0), some (.int v1), some (.int v2), some (.int v3), some (.int v4), some (.int (v5 + (0 : Int32))), some (.int v6), some (.int v7), some (.int x6), some (.int x7), some (.int x8), none, none] [.int (0 : Int32), .int v6] rfl ?_
            refine fs_wk (ls' := [some (.ref v0), some (.int v1), some (.int v2), some (.int v3), some (.int v4), some (.int (v5 + (0 : Int32))), none, some (.int v7), some (.int x6), some (.int x7), some (.int x8), none, none]) ⟨rfl, rfl, rfl, rfl, rfl, rfl, rfl, rfl, rfl, rfl, trivial⟩ ?_
            exact w_L_labelsAreSo_149 hE Hk6 ih h0 _ _ _
          · refine fs_r T 1 149 [some (.ref v0), some (.int v1), some (.int v2), some (.int v3), some (.int v4), some (.int (v5 + (0 : Int32))), some (.int v6), some (.int v7), some (.int x6), some (.int x7), some (.int x8), none, none] [.int (1 : Int32), .int v6] rfl ?_
            refine fs_wk (ls' := [some (.ref v0), some (.int v1), some (.int v2), some (.int v3), some (.int v4), some (.int (v5 + (0 : Int32))), none, some (.int v7), some (.int x6), some (.int x7), some (.int x8), none, none]) ⟨rfl, rfl, rfl, rfl, rfl, rfl, rfl, rfl, rfl, rfl, trivial⟩ ?_
            exact w_L_labelsAreSo_149 hE Hk6 ih h0 _ _ _
      · refine fs_r T 3 94 [some (.ref v0), some (.int v1), some (.int v2), some (.int v3), some (.int (v4 + 1)), some (.int v5), some (.int v6), some (.int v7), some (.int x6), some (.int x7), some (.int x8), none, none] [.int (-1 : Int32), .int x7] rfl ?_
        refine fs_ic_ne T 118 97 rfl rfl rfl (fun _ => ?_) (fun _ => ?_)
        · refine fs_r T 2 100 [some (.ref v0), some (.int v1), some (.int v2), some (.int v3), some (.int (v4 + 1)), some (.int v5), some (.int v6), some (.int v7), some (.int x6), some (.int x7), some (.int x8), none, none] [.int (-1 : Int32), .int x8] rfl ?_
          refine fs_ic_ne T 118 103 rfl rfl rfl (fun _ => ?_) (fun _ => ?_)
          · refine fs_r T 1 104 [some (.ref v0), some (.int v1), some (.int v2), some (.int v3), some (.int (v4 + 1)), some (.int v5), some (.int v6), some (.int v7), some (.int x6), some (.int x7), some (.int x8), none, none] [.ref v0] rfl ?_
            refine fs_gs T 107 12 0 v0 rfl rfl rfl rfl h0 ?_
            refine fs_r T 3 111 [some (.ref v0), some (.int v1), some (.int v2), some (.int v3), some (.int (v4 + 1)), some (.int v5), some (.int v6), some (.int v7), some (.int x6), some (.int x7), some (.int x8), none, none] [.int (3 : Int32), .int v7, .int v3, .ref (H.2.1 v0 0)] rfl ?_
            refine fs_sIh T 114 rfl rfl ml_L_155 rfl rfl rfl rfl rfl (q_L_label (d := d) hE (hE.1 _ 12 0 h0)) ?_
            intro x9 m9
            refine fs_r T 1 115 [some (.ref v0), some (.int v1), some (.int v2), some (.int v3), some (.int (v4 + 1)), some (.int v5), some (.int v6), some (.int v7), some (.int x6), some (.int x7), some (.int x8), none, none] [.int (-1 : Int32), .int x9] rfl ?_
            refine fs_ic_eq T 285 118 rfl rfl rfl (fun _ => ?_) (fun _ => ?_)
            · refine fs_r T 2 30 [some (.ref v0), some (.int v1), some (.int v2), some (.int v3), some (.int (v4 + 1)), some (.int v5), some (.int v6), some (.int (v7 + 1)), some (.int x6), some (.int x7), some (.int x8), none, none] [] rfl ?_
              refine fs_wk (ls' := [some (.ref v0), some (.int v1), some (.int v2), some (.int v3), some (.int (v4 + 1)), some (.int v5), some (.int v6), some (.int (v7 + 1)), none, none, none, none, none]) ⟨rfl, rfl, rfl, rfl, rfl, rfl, rfl, rfl, trivial⟩ ?_
              exact ih _ _ _ _ _ _
            · refine fs_r T 1 119 [some (.ref v0), some (.int v1), some (.int v2), some (.int v3), some (.int (v4 + 1)), some (.int v5), some (.int v6), some (.int v7), some (.int x6), some (.int x7), some (.int x8), none, none] [.int (0 : Int32)] rfl ?_
              exact fs_retc T rfl rfl rfl rfl
          · refine fs_r T 1 119 [some (.ref v0), some (.int v1), some (.int v2), some (.int v3), some (.int (v4 + 1)), some (.int v5), some (.int v6), some (.int v7), some (.int x6), some (.int x7), some (.int x8), none, none] [.int (0 : Int32)] rfl ?_
            exact fs_retc T rfl rfl rfl rfl
        · refine fs_r T 1 119 [some (.ref v0), some (.int v1), some (.int v2), some (.int v3), some (.int (v4 + 1)), some (.int v5), some (.int v6), some (.int v7), some (.int x6), some (.int x7), some (.int x8), none, none] [.int (0 : Int32)] rfl ?_
          exact fs_retc T rfl rfl rfl rfl
def f_L_labelsAreSo_6 (H : fm_H) (v0 : Nat) : Nat → Int32 → Int32 → Int32 → fm_M → Option (Int32 × fm_M)
  | 0, _, _, _, _ => none
  | n + 1, v1, v2, v3, m =>
    fm_bn (f_L_count H (H.2.1 v0 0) (2 : Int32) m) fun x1 m1 =>
    if x1 ≤ v3 then
      f_L_labelsAreSo_374 H v0 v1 v2 fm_N (0 : Int32) (0 : Int32) (0 : Int32) m1
    else
    f_L_labelsAreSo_30 H (f_L_labelsAreSo_6 H v0 n) v0 v1 v3 fm_N v2 (0 : Int32) (0 : Int32) (0 : Int32) (0 : Int32) m1
set_option maxRecDepth 10000 in
theorem w_L_labelsAreSo_6 {G : pm_G} {H : fm_H} {d : Nat} {z0 : Nat × Nat × Nat} {K : pm_R → fm_M → Prop} (hE : fm_E G H) {v0 : Nat} (h0 : fm_is H v0 12) : ∀ (n : Nat) (v1 : Int32) (v2 : Int32) (v3 : Int32) (m : fm_M), fm_o fm_rI (f_L_labelsAreSo_6 H v0 n v1 v2 v3 m) K → fm_V G H (d + 5) RL cL_labelsAreSo (some (.boolean)) (fl_z H z0) K 6 [some (.ref v0), some (.int v1), some (.int v2), some (.int v3), none, none, none, none, none, none, none, none, none] [] m := by
  have T : fm_T RL cL_labelsAreSo tc_L_labelsAreSo fr_L mr_L cr_L lr_L := ⟨tok_L, dc_L_labelsAreSo⟩
  intro n
  induction n with
  | zero =>
    intro v1 v2 v3 m 
    exact fs_none
  | succ n ih =>
    intro v1 v2 v3 m 
    unfold f_L_labelsAreSo_6
    refine fs_r T 2 8 [some (.ref v0), some (.int v1), some (.int v2), some (.int v3), none, none, none, none, none, none, none, none, none] [.ref v0, .int v3] rfl ?_
    refine fs_gs T 11 12 0 v0 rfl rfl rfl rfl h0 ?_
    refine fs_r T 1 12 [some (.ref v0), some (.int v1), some (.int v2), some (.int v3), none, none, none, none, none, none, none, none, none] [.int (2 : Int32), .ref (H.2.1 v0 0), .int v3] rfl ?_
    refine fs_sIh T 15 rfl rfl ml_L_145 rfl rfl rfl rfl rfl (q_L_count (d := d) hE (hE.1 _ 12 0 h0)) ?_
    intro x1 m1
    refine fs_ic_ge T 366 18 rfl rfl rfl (fun _ => ?_) (fun _ => ?_)
    · refine fs_r T 6 374 [some (.ref v0), some (.int v1), some (.int v2), some (.int (0 : Int32)), some (.int (0 : Int32)), some (.int (0 : Int32)), none, none, none, none, none, none, none] [] rfl ?_
      exact w_L_labelsAreSo_374 hE h0 _ _ _ _ _
    · refine fs_r T 8 30 [some (.ref v0), some (.int v1), some (.int v2), some (.int v3), some (.int (0 : Int32)), some (.int (0 : Int32)), some (.int (0 : Int32)), some (.int (0 : Int32)), none, none, none, none, none] [] rfl ?_
      exact w_L_labelsAreSo_30 hE ih h0 _ _ _ _ _ _ _
def f_L_labelsAreSo (H : fm_H) (v0 : Nat) (m : fm_M) : Option (Int32 × fm_M) :=
  f_L_labelsAreSo_6 H v0 fm_N (0 : Int32) (0 : Int32) (0 : Int32) m
set_option maxRecDepth 10000 in
theorem q_L_labelsAreSo {G : pm_G} {H : fm_H} {d : Nat} {z0 : Nat × Nat × Nat} {v0 : Nat} {m : fm_M} (hE : fm_E G H) (h0 : fm_is H v0 12) : fm_cal G H (d + 6) yL_labelsAreSo [.ref v0] (fl_z H z0) m fm_rI (f_L_labelsAreSo H v0 m) := fm_mth (d := d + 5) mt_L_labelsAreSo rfl rfl rfl (fun K => by
  show fm_o fm_rI (f_L_labelsAreSo H v0 m) K → fm_V G H (d + 5) RL cL_labelsAreSo (some (.boolean)) (fl_z H z0) K 0 [some (.ref v0), none, none, none, none, none, none, none, none, none, none, none, none] [] m
  have T : fm_T RL cL_labelsAreSo tc_L_labelsAreSo fr_L mr_L cr_L lr_L := ⟨tok_L, dc_L_labelsAreSo⟩
  unfold f_L_labelsAreSo
  refine fs_r T 6 6 [some (.ref v0), some (.int (0 : Int32)), some (.int (0 : Int32)), some (.int (0 : Int32)), none, none, none, none, none, none, none, none, none] [] rfl ?_
  exact w_L_labelsAreSo_6 hE h0 _ _ _ _ _)
