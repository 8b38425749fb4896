/-! functions out of the code -/
def f_L_passes (H : fm_H) (v0 : Nat) (m : fm_M) : Option (Int32 × fm_M) :=
  fm_bn (f_L_draw H v0 (12 : Int32) m) fun x1 m1 =>
  fm_bn (f_L_count H (H.2.1 v0 0) (5 : Int32) m1) fun x2 m2 =>
  fm_bn (f_L_count H (H.2.1 v0 0) (9 : Int32) m2) fun x3 m3 =>
  fm_bn (f_L_count H (H.2.1 v0 0) (8 : Int32) m3) fun x4 m4 =>
  fm_bn (f_L_run H (H.2.1 v0 0) ((1 : Int32) + x1) m4) fun x5 m5 =>
  fm_bn (f_L_count H (H.2.1 v0 0) (5 : Int32) m5) fun x6 m6 =>
  if x6 = (x2 + ((1 : Int32) + x1)) then
    fm_bn (f_L_count H (H.2.1 v0 0) (8 : Int32) m6) fun x7 m7 =>
    if x7 = (x4 + x5) then
      if m7.1 v0 3 = 0 then
        some ((1 : Int32), m7)
      else
      fm_bn (f_L_count H (H.2.1 v0 0) (9 : Int32) m7) fun x8 m8 =>
      if x8 = x3 then
        some ((1 : Int32), m8)
      else
      some ((0 : Int32), m8)
    else
    some ((0 : Int32), m7)
  else
  some ((0 : Int32), m6)
set_option maxRecDepth 10000 in
theorem q_L_passes {G : pm_G} {H : fm_H} {d : Nat} {z0 : Nat × Nat × Nat} {v0 : Nat} {m : fm_M} (hE : fm_E G H) (h0 : fm_is H v0 12) : fm_cal G H (d + 9) yL_passes [.ref v0] (fl_z H z0) m fm_rI (f_L_passes H v0 m) := fm_mth (d := d + 8) mt_L_passes rfl rfl rfl (fun K => by
  show fm_o fm_rI (f_L_passes H v0 m) K → fm_V G H (d + 8) RL cL_passes (some (.boolean)) (fl_z H z0) K 0 [some (.ref v0), none, none, none, none, none] [] m
  have T : fm_T RL cL_passes tc_L_passes fr_L mr_L cr_L lr_L := ⟨tok_L, dc_L_passes⟩
  unfold f_L_passes
  refine fs_r T 3 4 [some (.ref v0), none, none, none, none, none] [.int (12 : Int32), .ref v0, .int (1 : Int32)] rfl ?_
  refine fs_vI T 7 rfl rfl rfl rfl rfl rfl h0 (q_L_draw (d := d + 6) hE h0) ?_
  intro x1 m1
  refine fs_r T 3 10 [some (.ref v0), some (.int ((1 : Int32) + x1)), none, none, none, none] [.ref v0] rfl ?_
  refine fs_gs T 13 12 0 v0 rfl rfl rfl rfl h0 ?_
  refine fs_r T 1 14 [some (.ref v0), some (.int ((1 : Int32) + x1)), none, none, none, none] [.int (5 : Int32), .ref (H.2.1 v0 0)] rfl ?_
  refine fs_sIh T 17 rfl rfl ml_L_145 rfl rfl rfl rfl rfl (q_L_count (d := d + 3) hE (hE.1 _ 12 0 h0)) ?_
  intro x2 m2
  refine fs_r T 2 19 [some (.ref v0), some (.int ((1 : Int32) + x1)), some (.int x2), none, none, none] [.ref v0] rfl ?_
  refine fs_gs T 22 12 0 v0 rfl rfl rfl rfl h0 ?_
  refine fs_r T 1 24 [some (.ref v0), some (.int ((1 : Int32) + x1)), some (.int x2), none, none, none] [.int (9 : Int32), .ref (H.2.1 v0 0)] rfl ?_
  refine fs_sIh T 27 rfl rfl ml_L_145 rfl rfl rfl rfl rfl (q_L_count (d := d + 3) hE (hE.1 _ 12 0 h0)) ?_
  intro x3 m3
  refine fs_r T 2 29 [some (.ref v0), some (.int ((1 : Int32) + x1)), some (.int x2), some (.int x3), none, none] [.ref v0] rfl ?_
  refine fs_gs T 32 12 0 v0 rfl rfl rfl rfl h0 ?_
  refine fs_r T 1 34 [some (.ref v0), some (.int ((1 : Int32) + x1)), some (.int x2), some (.int x3), none, none] [.int (8 : Int32), .ref (H.2.1 v0 0)] rfl ?_
  refine fs_sIh T 37 rfl rfl ml_L_145 rfl rfl rfl rfl rfl (q_L_count (d := d + 3) hE (hE.1 _ 12 0 h0)) ?_
  intro x4 m4
  refine fs_r T 2 40 [some (.ref v0), some (.int ((1 : Int32) + x1)), some (.int x2), some (.int x3), some (.int x4), none] [.ref v0] rfl ?_
  refine fs_gs T 43 12 0 v0 rfl rfl rfl rfl h0 ?_
  refine fs_r T 1 44 [some (.ref v0), some (.int ((1 : Int32) + x1)), some (.int x2), some (.int x3), some (.int x4), none] [.int ((1 : Int32) + x1), .ref (H.2.1 v0 0)] rfl ?_
  refine fs_sIh T 47 rfl rfl ml_L_199 rfl rfl rfl rfl rfl (q_L_run (d := d) hE (hE.1 _ 12 0 h0)) ?_
  intro x5 m5
  refine fs_r T 2 50 [some (.ref v0), some (.int ((1 : Int32) + x1)), some (.int x2), some (.int x3), some (.int x4), some (.int x5)] [.ref v0] rfl ?_
  refine fs_gs T 53 12 0 v0 rfl rfl rfl rfl h0 ?_
  refine fs_r T 1 54 [some (.ref v0), some (.int ((1 : Int32) + x1)), some (.int x2), some (.int x3), some (.int x4), some (.int x5)] [.int (5 : Int32), .ref (H.2.1 v0 0)] rfl ?_
  refine fs_sIh T 57 rfl rfl ml_L_145 rfl rfl rfl rfl rfl (q_L_count (d := d + 3) hE (hE.1 _ 12 0 h0)) ?_
  intro x6 m6
  refine fs_r T 3 60 [some (.ref v0), some (.int ((1 : Int32) + x1)), some (.int x2), some (.int x3), some (.int x4), some (.int x5)] [.int (x2 + ((1 : Int32) + x1)), .int x6] rfl ?_
  refine fs_ic_ne T 80 63 rfl rfl rfl (fun _ => ?_) (fun _ => ?_)
  · refine fs_r T 1 64 [some (.ref v0), some (.int ((1 : Int32) + x1)), some (.int x2), some (.int x3), some (.int x4), some (.int x5)] [.ref v0] rfl ?_
    refine fs_gs T 67 12 0 v0 rfl rfl rfl rfl h0 ?_
    refine fs_r T 1 69 [some (.ref v0), some (.int ((1 : Int32) + x1)), some (.int x2), some (.int x3), some (.int x4), some (.int x5)] [.int (8 : Int32), .ref (H.2.1 v0 0)] rfl ?_
    refine fs_sIh T 72 rfl rfl ml_L_145 rfl rfl rfl rfl rfl (q_L_count (d := d + 3) hE (hE.1 _ 12 0 h0)) ?_
    intro x7 m7
    refine fs_r T 3 77 [some (.ref v0), some (.int ((1 : Int32) + x1)), some (.int x2), some (.int x3), some (.int x4), some (.int x5)] [.int (x4 + x5), .int x7] rfl ?_
    refine fs_ic_eq T 82 80 rfl rfl rfl (fun _ => ?_) (fun _ => ?_)
    · refine fs_r T 1 83 [some (.ref v0), some (.int ((1 : Int32) + x1)), some (.int x2), some (.int x3), some (.int x4), some (.int x5)] [.ref v0] rfl ?_
      refine fs_gi T 86 12 3 v0 rfl rfl rfl rfl h0 ?_
      refine fs_if_eq T 102 89 rfl rfl rfl (fun _ => ?_) (fun _ => ?_)
      · refine fs_r T 2 107 [some (.ref v0), some (.int ((1 : Int32) + x1)), some (.int x2), some (.int x3), some (.int x4), some (.int x5)] [.int (1 : Int32)] rfl ?_
        exact fs_retc T rfl rfl rfl rfl
      · refine fs_r T 1 90 [some (.ref v0), some (.int ((1 : Int32) + x1)), some (.int x2), some (.int x3), some (.int x4), some (.int x5)] [.ref v0] rfl ?_
        refine fs_gs T 93 12 0 v0 rfl rfl rfl rfl h0 ?_
        refine fs_r T 1 95 [some (.ref v0), some (.int ((1 : Int32) + x1)), some (.int x2), some (.int x3), some (.int x4), some (.int x5)] [.int (9 : Int32), .ref (H.2.1 v0 0)] rfl ?_
        refine fs_sIh T 98 rfl rfl ml_L_145 rfl rfl rfl rfl rfl (q_L_count (d := d + 3) hE (hE.1 _ 12 0 h0)) ?_
        intro x8 m8
        refine fs_r T 1 99 [some (.ref v0), some (.int ((1 : Int32) + x1)), some (.int x2), some (.int x3), some (.int x4), some (.int x5)] [.int x3, .int x8] rfl ?_
        refine fs_ic_ne T 106 102 rfl rfl rfl (fun _ => ?_) (fun _ => ?_)
        · refine fs_r T 2 107 [some (.ref v0), some (.int ((1 : Int32) + x1)), some (.int x2), some (.int x3), some (.int x4), some (.int x5)] [.int (1 : Int32)] rfl ?_
          exact fs_retc T rfl rfl rfl rfl
        · refine fs_r T 1 107 [some (.ref v0), some (.int ((1 : Int32) + x1)), some (.int x2), some (.int x3), some (.int x4), some (.int x5)] [.int (0 : Int32)] rfl ?_
          exact fs_retc T rfl rfl rfl rfl
    · refine fs_r T 1 81 [some (.ref v0), some (.int ((1 : Int32) + x1)), some (.int x2), some (.int x3), some (.int x4), some (.int x5)] [.int (0 : Int32)] rfl ?_
      exact fs_retc T rfl rfl rfl rfl
  · refine fs_r T 1 81 [some (.ref v0), some (.int ((1 : Int32) + x1)), some (.int x2), some (.int x3), some (.int x4), some (.int x5)] [.int (0 : Int32)] rfl ?_
    exact fs_retc T rfl rfl rfl rfl)
def f_L_phasesFollow_211 (H : fm_H) (k154 : Int32 → Int32 → fm_M → Option (Int32 × fm_M)) (v0 : Nat) (v1 : Int32) (v2 : Int32) (v4 : Int32) (v5 : Int32) (v6 : Int32) (v7 : Int32) (v8 : Int32) (v9 : Int32) (v10 : Int32) (v11 : Int32) (v12 : Int32) (s0 : Int32) (m : fm_M) : Option (Int32 × fm_M) :=
  if v11 < v2 then
    if s0 = (0 : Int32) then
      k154 v12 (v11 + 1) m
    else
    some ((0 : Int32), m)
  else
  if s0 = (1 : Int32) then
    k154 v12 (v11 + 1) m
  else
  some ((0 : Int32), m)
set_option maxRecDepth 10000 in
theorem w_L_phasesFollow_211 {G : pm_G} {H : fm_H} {d : Nat} {z0 : Nat × Nat × Nat} {K : pm_R → fm_M → Prop} (hE : fm_E G H) {k154 : Int32 → Int32 → fm_M → Option (Int32 × fm_M)} {v0 : Nat} {v1 : Int32} {v2 : Int32} {v4 : Int32} {v5 : Int32} {v6 : Int32} {v7 : Int32} {v8 : Int32} {v9 : Int32} {v10 : Int32} {v11 : Int32} {v12 : Int32} (Hk154 : ∀ (v3 : Int32) (v11 : Int32) (m : fm_M), fm_o fm_rI (k154 v3 v11 m) K → fm_V G H (d + 8) RL cL_phasesFollow (some (.boolean)) (fl_z H z0) K 154 [some (.ref v0), some (.int v1), some (.int v2), some (.int v3), some (.int v4), some (.int v5), some (.int v6), some (.int v7), some (.int v8), some (.int v9), some (.int v10), some (.int v11), none] [] m) (h0 : fm_is H v0 12) : ∀ (s0 : Int32) (m : fm_M), fm_o fm_rI (f_L_phasesFollow_211 H k154 v0 v1 v2 v4 v5 v6 v7 v8 v9 v10 v11 v12 s0 m) K → fm_V G H (d + 8) RL cL_phasesFollow (some (.boolean)) (fl_z H z0) K 211 [some (.ref v0), some (.int v1), some (.int v2), none, some (.int v4), some (.int v5), some (.int v6), some (.int v7), some (.int v8), some (.int v9), some (.int v10), some (.int v11), some (.int v12)] [.int s0] m := by
  have T : fm_T RL cL_phasesFollow tc_L_phasesFollow fr_L mr_L cr_L lr_L := ⟨tok_L, dc_L_phasesFollow⟩
  intro s0 m
  unfold f_L_phasesFollow_211
  refine fs_r T 2 214 [some (.ref v0), some (.int v1), some (.int v2), none, some (.int v4), some (.int v5), some (.int v6), some (.int v7), some (.int v8), some (.int v9), some (.int v10), some (.int v11), some (.int v12)] [.int v2, .int v11, .int s0] rfl ?_
  refine fs_ic_lt T 221 217 rfl rfl rfl (fun _ => ?_) (fun _ => ?_)
  · refine fs_r T 1 222 [some (.ref v0), some (.int v1), some (.int v2), none, some (.int v4), some (.int v5), some (.int v6), some (.int v7), some (.int v8), some (.int v9), some (.int v10), some (.int v11), some (.int v12)] [.int (0 : Int32), .int s0] rfl ?_
    refine fs_ic_eq T 227 225 rfl rfl rfl (fun _ => ?_) (fun _ => ?_)
    · refine fs_r T 4 154 [some (.ref v0), some (.int v1), some (.int v2), some (.int v12), some (.int v4), some (.int v5), some (.int v6), some (.int v7), some (.int v8), some (.int v9), some (.int v10), some (.int (v11 + 1)), some (.int v12)] [] rfl ?_
      refine fs_wk (ls' := [some (.ref v0), some (.int v1), some (.int v2), some (.int v12), some (.int v4), some (.int v5), some (.int v6), some (.int v7), some (.int v8), some (.int v9), some (.int v10), some (.int (v11 + 1)), none]) ⟨rfl, rfl, rfl, rfl, rfl, rfl, rfl, rfl, rfl, rfl, rfl, rfl, trivial⟩ ?_
      exact Hk154 _ _ _
    · refine fs_r T 1 226 [some (.ref v0), some (.int v1), some (.int v2), none, some (.int v4), some (.int v5), some (.int v6), some (.int v7), some (.int v8), some (.int v9), some (.int v10), some (.int v11), some (.int v12)] [.int (0 : Int32)] rfl ?_
      exact fs_retc T rfl rfl rfl rfl
  · refine fs_r T 2 222 [some (.ref v0), some (.int v1), some (.int v2), none, some (.int v4), some (.int v5), some (.int v6), some (.int v7), some (.int v8), some (.int v9), some (.int v10), some (.int v11), some (.int v12)] [.int (1 : Int32), .int s0] rfl ?_
    refine fs_ic_eq T 227 225 rfl rfl rfl (fun _ => ?_) (fun _ => ?_)
    · refine fs_r T 4 154 [some (.ref v0), some (.int v1), some (.int v2), some (.int v12), some (.int v4), some (.int v5), some (.int v6), some (.int v7), some (.int v8), some (.int v9), some (.int v10), some (.int (v11 + 1)), some (.int v12)] [] rfl ?_
      refine fs_wk (ls' := [some (.ref v0), some (.int v1), some (.int v2), some (.int v12), some (.int v4), some (.int v5), some (.int v6), some (.int v7), some (.int v8), some (.int v9), some (.int v10), some (.int (v11 + 1)), none]) ⟨rfl, rfl, rfl, rfl, rfl, rfl, rfl, rfl, rfl, rfl, rfl, rfl, trivial⟩ ?_
      exact Hk154 _ _ _
    · refine fs_r T 1 226 [some (.ref v0), some (.int v1), some (.int v2), none, some (.int v4), some (.int v5), some (.int v6), some (.int v7), some (.int v8), some (.int v9), some (.int v10), some (.int v11), some (.int v12)] [.int (0 : Int32)] rfl ?_
      exact fs_retc T rfl rfl rfl rfl
def f_L_phasesFollow_154 (H : fm_H) (v0 : Nat) (v1 : Int32) (v2 : Int32) (v4 : Int32) (v5 : Int32) (v6 : Int32) (v7 : Int32) (v8 : Int32) (v9 : Int32) (v10 : Int32) : Nat → Int32 → Int32 → fm_M → Option (Int32 × fm_M)
  | 0, _, _, _ => none
  | n + 1, v3, v11, m =>
    if v4 < v11 then
      fm_bn (f_L_count H (H.2.1 v0 0) (8 : Int32) m) fun x1 m1 =>
      if x1 = (v8 + v5) then
        fm_bn (f_L_count H (H.2.1 v0 0) (9 : Int32) m1) fun x2 m2 =>
        if x2 = (v9 + v6) then
          fm_bn (f_L_count H (H.2.1 v0 0) (11 : Int32) m2) fun x3 m3 =>
          if x3 = (v10 + v7) then
            fm_bn (f_L_restore H (H.2.1 v0 0) (1 : Int32) m3) fun x4 m4 =>
            if x4 = 0 then
              fm_bn (f_L_movedIn H (H.2.1 v0 0) v1 m4) fun x5 m5 =>
              if x5 = v2 then
                some ((1 : Int32), m5)
              else
              some ((0 : Int32), m5)
            else
            some ((0 : Int32), m4)
          else
          some ((0 : Int32), m3)
        else
        some ((0 : Int32), m2)
      else
      some ((0 : Int32), m1)
    else
    fm_bn (f_L_run H (H.2.1 v0 0) (1 : Int32) m) fun x6 m6 =>
    if 0 ≤ x6 then
      fm_bn (f_L_circuit H (H.2.1 v0 0) v1 (4 : Int32) m6) fun x7 m7 =>
      if x7 = v3 then
        if x7 = 0 then
          f_L_phasesFollow_211 H (f_L_phasesFollow_154 H v0 v1 v2 v4 v5 v6 v7 v8 v9 v10 n) v0 v1 v2 v4 v5 v6 v7 v8 v9 v10 v11 x7 (1 : Int32) m7
        else
        f_L_phasesFollow_211 H (f_L_phasesFollow_154 H v0 v1 v2 v4 v5 v6 v7 v8 v9 v10 n) v0 v1 v2 v4 v5 v6 v7 v8 v9 v10 v11 x7 (0 : Int32) m7
      else
      if (4 : Int32) = 0 then none else
      if x7 = ((v3 + (1 : Int32)) - (v3 + (1 : Int32)) / (4 : Int32) * (4 : Int32)) then
        if x7 = 0 then
          f_L_phasesFollow_211 H (f_L_phasesFollow_154 H v0 v1 v2 v4 v5 v6 v7 v8 v9 v10 n) v0 v1 v2 v4 v5 v6 v7 v8 v9 v10 v11 x7 (1 : Int32) m7
        else
        f_L_phasesFollow_211 H (f_L_phasesFollow_154 H v0 v1 v2 v4 v5 v6 v7 v8 v9 v10 n) v0 v1 v2 v4 v5 v6 v7 v8 v9 v10 v11 x7 (0 : Int32) m7
      else
      some ((0 : Int32), m7)
    else
    some ((0 : Int32), m6)
set_option maxRecDepth 10000 in
theorem w_L_phasesFollow_154 {G : pm_G} {H : fm_H} {d : Nat} {z0 : Nat × Nat × Nat} {K : pm_R → fm_M → Prop} (hE : fm_E G H) {v0 : Nat} {v1 : Int32} {v2 : Int32} {v4 : Int32} {v5 : Int32} {v6 : Int32} {v7 : Int32} {v8 : Int32} {v9 : Int32} {v10 : Int32} (h0 : fm_is H v0 12) : ∀ (n : Nat) (v3 : Int32) (v11 : Int32) (m : fm_M), fm_o fm_rI (f_L_phasesFollow_154 H v0 v1 v2 v4 v5 v6 v7 v8 v9 v10 n v3 v11 m) K → fm_V G H (d + 8) RL cL_phasesFollow (some (.boolean)) (fl_z H z0) K 154 [some (.ref v0), some (.int v1), some (.int v2), some (.int v3), some (.int v4), some (.int v5), some (.int v6), some (.int v7), some (.int v8), some (.int v9), some (.int v10), some (.int v11), none] [] m := by
  have T : fm_T RL cL_phasesFollow tc_L_phasesFollow fr_L mr_L cr_L lr_L := ⟨tok_L, dc_L_phasesFollow⟩
  intro n
  induction n with
  | zero =>
    intro v3 v11 m 
    exact fs_none
  | succ n ih =>
    intro v3 v11 m 
    unfold f_L_phasesFollow_154
    refine fs_r T 2 158 [some (.ref v0), some (.int v1), some (.int v2), some (.int v3), some (.int v4), some (.int v5), some (.int v6), some (.int v7), some (.int v8), some (.int v9), some (.int v10), some (.int v11), none] [.int v4, .int v11] rfl ?_
    refine fs_ic_gt T 236 161 rfl rfl rfl (fun _ => ?_) (fun _ => ?_)
    · refine fs_r T 1 237 [some (.ref v0), some (.int v1), some (.int v2), some (.int v3), some (.int v4), some (.int v5), some (.int v6), some (.int v7), some (.int v8), some (.int v9), some (.int v10), some (.int v11), none] [.ref v0] rfl ?_
      refine fs_gs T 240 12 0 v0 rfl rfl rfl rfl h0 ?_
      refine fs_r T 1 242 [some (.ref v0), some (.int v1), some (.int v2), some (.int v3), some (.int v4), some (.int v5), some (.int v6), some (.int v7), some (.int v8), some (.int v9), some (.int v10), some (.int v11), none] [.int (8 : Int32), .ref (H.2.1 v0 0)] rfl ?_
      refine fs_sIh T 245 rfl rfl ml_L_145 rfl rfl rfl rfl rfl (q_L_count (d := d + 3) hE (hE.1 _ 12 0 h0)) ?_
      intro x1 m1
      refine fs_r T 3 250 [some (.ref v0), some (.int v1), some (.int v2), some (.int v3), some (.int v4), some (.int v5), some (.int v6), some (.int v7), some (.int v8), some (.int v9), some (.int v10), some (.int v11), none] [.int (v8 + v5), .int x1] rfl ?_
      refine fs_ic_ne T 314 253 rfl rfl rfl (fun _ => ?_) (fun _ => ?_)
      · refine fs_r T 1 254 [some (.ref v0), some (.int v1), some (.int v2), some (.int v3), some (.int v4), some (.int v5), some (.int v6), some (.int v7), some (.int v8), some (.int v9), some (.int v10), some (.int v11), none] [.ref v0] rfl ?_
        refine fs_gs T 257 12 0 v0 rfl rfl rfl rfl h0 ?_
        refine fs_r T 1 259 [some (.ref v0), some (.int v1), some (.int v2), some (.int v3), some (.int v4), some (.int v5), some (.int v6), some (.int v7), some (.int v8), some (.int v9), some (.int v10), some (.int v11), none] [.int (9 : Int32), .ref (H.2.1 v0 0)] rfl ?_
        refine fs_sIh T 262 rfl rfl ml_L_145 rfl rfl rfl rfl rfl (q_L_count (d := d + 3) hE (hE.1 _ 12 0 h0)) ?_
        intro x2 m2
        refine fs_r T 3 267 [some (.ref v0), some (.int v1), some (.int v2), some (.int v3), some (.int v4), some (.int v5), some (.int v6), some (.int v7), some (.int v8), some (.int v9), some (.int v10), some (.int v11), none] [.int (v9 + v6), .int x2] rfl ?_
        refine fs_ic_ne T 314 270 rfl rfl rfl (fun _ => ?_) (fun _ => ?_)
        · refine fs_r T 1 271 [some (.ref v0), some (.int v1), some (.int v2), some (.int v3), some (.int v4), some (.int v5), some (.int v6), some (.int v7), some (.int v8), some (.int v9), some (.int v10), some (.int v11), none] [.ref v0] rfl ?_
          refine fs_gs T 274 12 0 v0 rfl rfl rfl rfl h0 ?_
          refine fs_r T 1 276 [some (.ref v0), some (.int v1), some (.int v2), some (.int v3), some (.int v4), some (.int v5), some (.int v6), some (.int v7), some (.int v8), some (.int v9), some (.int v10), some (.int v11), none] [.int (11 : Int32), .ref (H.2.1 v0 0)] rfl ?_
          refine fs_sIh T 279 rfl rfl ml_L_145 rfl rfl rfl rfl rfl (q_L_count (d := d + 3) hE (hE.1 _ 12 0 h0)) ?_
          intro x3 m3
          refine fs_r T 3 284 [some (.ref v0), some (.int v1), some (.int v2), some (.int v3), some (.int v4), some (.int v5), some (.int v6), some (.int v7), some (.int v8), some (.int v9), some (.int v10), some (.int v11), none] [.int (v10 + v7), .int x3] rfl ?_
          refine fs_ic_ne T 314 287 rfl rfl rfl (fun _ => ?_) (fun _ => ?_)
          · refine fs_r T 1 288 [some (.ref v0), some (.int v1), some (.int v2), some (.int v3), some (.int v4), some (.int v5), some (.int v6), some (.int v7), some (.int v8), some (.int v9), some (.int v10), some (.int v11), none] [.ref v0] rfl ?_
            refine fs_gs T 291 12 0 v0 rfl rfl rfl rfl h0 ?_
            refine fs_r T 1 292 [some (.ref v0), some (.int v1), some (.int v2), some (.int v3), some (.int v4), some (.int v5), some (.int v6), some (.int v7), some (.int v8), some (.int v9), some (.int v10), some (.int v11), none] [.int (1 : Int32), .ref (H.2.1 v0 0)] rfl ?_
            refine fs_sIh T 295 rfl rfl ml_L_205 rfl rfl rfl rfl rfl (q_L_restore (d := d + 2) hE (hE.1 _ 12 0 h0)) ?_
            intro x4 m4
            refine fs_if_ne T 314 298 rfl rfl rfl (fun _ => ?_) (fun _ => ?_)
            · refine fs_r T 1 299 [some (.ref v0), some (.int v1), some (.int v2), some (.int v3), some (.int v4), some (.int v5), some (.int v6), some (.int v7), some (.int v8), some (.int v9), some (.int v10), some (.int v11), none] [.ref v0] rfl ?_
              refine fs_gs T 302 12 0 v0 rfl rfl rfl rfl h0 ?_
              refine fs_r T 1 303 [some (.ref v0), some (.int v1), some (.int v2), some (.int v3), some (.int v4), some (.int v5), some (.int v6), some (.int v7), some (.int v8), some (.int v9), some (.int v10), some (.int v11), none] [.int v1, .ref (H.2.1 v0 0)] rfl ?_
              refine fs_sIh T 306 rfl rfl ml_L_172 rfl rfl rfl rfl rfl (q_L_movedIn (d := d + 2) hE (hE.1 _ 12 0 h0)) ?_
              intro x5 m5
              refine fs_r T 1 307 [some (.ref v0), some (.int v1), some (.int v2), some (.int v3), some (.int v4), some (.int v5), some (.int v6), some (.int v7), some (.int v8), some (.int v9), some (.int v10), some (.int v11), none] [.int v2, .int x5] rfl ?_
              refine fs_ic_ne T 314 310 rfl rfl rfl (fun _ => ?_) (fun _ => ?_)
              · refine fs_r T 2 315 [some (.ref v0), some (.int v1), some (.int v2), some (.int v3), some (.int v4), some (.int v5), some (.int v6), some (.int v7), some (.int v8), some (.int v9), some (.int v10), some (.int v11), none] [.int (1 : Int32)] rfl ?_
                exact fs_retc T rfl rfl rfl rfl
              · refine fs_r T 1 315 [some (.ref v0), some (.int v1), some (.int v2), some (.int v3), some (.int v4), some (.int v5), some (.int v6), some (.int v7), some (.int v8), some (.int v9), some (.int v10), some (.int v11), none] [.int (0 : Int32)] rfl ?_
                exact fs_retc T rfl rfl rfl rfl
            · refine fs_r T 1 315 [some (.ref v0), some (.int v1), some (.int v2), some (.int v3), some (.int v4), some (.int v5), some (.int v6), some (.int v7), some (.int v8), some (.int v9), some (.int v10), some (.int v11), none] [.int (0 : Int32)] rfl ?_
              exact fs_retc T rfl rfl rfl rfl
          · refine fs_r T 1 315 [some (.ref v0), some (.int v1), some (.int v2), some (.int v3), some (.int v4), some (.int v5), some (.int v6), some (.int v7), some (.int v8), some (.int v9), some (.int v10), some (.int v11), none] [.int (0 : Int32)] rfl ?_
            exact fs_retc T rfl rfl rfl rfl
        · refine fs_r T 1 315 [some (.ref v0), some (.int v1), some (.int v2), some (.int v3), some (.int v4), some (.int v5), some (.int v6), some (.int v7), some (.int v8), some (.int v9), some (.int v10), some (.int v11), none] [.int (0 : Int32)] rfl ?_
          exact fs_retc T rfl rfl rfl rfl
      · refine fs_r T 1 315 [some (.ref v0), some (.int v1), some (.int v2), some (.int v3), some (.int v4), some (.int v5), some (.int v6), some (.int v7), some (.int v8), some (.int v9), some (.int v10), some (.int v11), none] [.int (0 : Int32)] rfl ?_
        exact fs_retc T rfl rfl rfl rfl
    · refine fs_r T 1 162 [some (.ref v0), some (.int v1), some (.int v2), some (.int v3), some (.int v4), some (.int v5), some (.int v6), some (.int v7), some (.int v8), some (.int v9), some (.int v10), some (.int v11), none] [.ref v0] rfl ?_
      refine fs_gs T 165 12 0 v0 rfl rfl rfl rfl h0 ?_
      refine fs_r T 1 166 [some (.ref v0), some (.int v1), some (.int v2), some (.int v3), some (.int v4), some (.int v5), some (.int v6), some (.int v7), some (.int v8), some (.int v9), some (.int v10), some (.int v11), none] [.int (1 : Int32), .ref (H.2.1 v0 0)] rfl ?_
      refine fs_sIh T 169 rfl rfl ml_L_199 rfl rfl rfl rfl rfl (q_L_run (d := d) hE (hE.1 _ 12 0 h0)) ?_
      intro x6 m6
      refine fs_if_ge T 174 172 rfl rfl rfl (fun _ => ?_) (fun _ => ?_)
      · refine fs_r T 1 175 [some (.ref v0), some (.int v1), some (.int v2), some (.int v3), some (.int v4), some (.int v5), some (.int v6), some (.int v7), some (.int v8), some (.int v9), some (.int v10), some (.int v11), none] [.ref v0] rfl ?_
        refine fs_gs T 178 12 0 v0 rfl rfl rfl rfl h0 ?_
        refine fs_r T 2 180 [some (.ref v0), some (.int v1), some (.int v2), some (.int v3), some (.int v4), some (.int v5), some (.int v6), some (.int v7), some (.int v8), some (.int v9), some (.int v10), some (.int v11), none] [.int (4 : Int32), .int v1, .ref (H.2.1 v0 0)] rfl ?_
        refine fs_sIh T 183 rfl rfl ml_L_161 rfl rfl rfl rfl rfl (q_L_circuit (d := d + 3) hE (hE.1 _ 12 0 h0)) ?_
        intro x7 m7
        refine fs_r T 3 188 [some (.ref v0), some (.int v1), some (.int v2), some (.int v3), some (.int v4), some (.int v5), some (.int v6), some (.int v7), some (.int v8), some (.int v9), some (.int v10), some (.int v11), some (.int x7)] [.int v3, .int x7] rfl ?_
        refine fs_ic_eq T 201 191 rfl rfl rfl (fun _ => ?_) (fun _ => ?_)
        · refine fs_r T 1 203 [some (.ref v0), some (.int v1), some (.int v2), some (.int v3), some (.int v4), some (.int v5), some (.int v6), some (.int v7), some (.int v8), some (.int v9), some (.int v10), some (.int v11), some (.int x7)] [.int x7] rfl ?_
          refine fs_if_ne T 210 206 rfl rfl rfl (fun _ => ?_) (fun _ => ?_)
          · refine fs_r T 2 211 [some (.ref v0), some (.int v1), some (.int v2), some (.int v3), some (.int v4), some (.int v5), some (.int v6), some (.int v7), some (.int v8), some (.int v9), some (.int v10), some (.int v11), some (.int x7)] [.int (1 : Int32)] rfl ?_
            refine fs_wk (ls' := [some (.ref v0), some (.int v1), some (.int v2), none, some (.int v4), some (.int v5), some (.int v6), some (.int v7), some (.int v8), some (.int v9), some (.int v10), some (.int v11), some (.int x7)]) ⟨rfl, rfl, rfl, rfl, rfl, rfl, rfl, rfl, rfl, rfl, rfl, rfl, trivial⟩ ?_
            exact w_L_phasesFollow_211 hE ih h0 _ _
          · refine fs_r T 1 211 [some (.ref v0), some (.int v1), some (.int v2), some (.int v3), some (.int v4), some (.int v5), some (.int v6), some (.int v7), some (.int v8), some (.int v9), some (.int v10), some (.int v11), some (.int x7)] [.int (0 : Int32)] rfl ?_
            refine fs_wk (ls' := [some (.ref v0), some (.int v1), some (.int v2), none, some (.int v4), some (.int v5), some (.int v6), some (.int v7), some (.int v8), some (.int v9), some (.int v10), some (.int v11), some (.int x7)]) ⟨rfl, rfl, rfl, rfl, rfl, rfl, rfl, rfl, rfl, rfl, rfl, rfl, trivial⟩ ?_
            exact w_L_phasesFollow_211 hE ih h0 _ _
        · refine fs_r T 5 197 [some (.ref v0), some (.int v1), some (.int v2), some (.int v3), some (.int v4), some (.int v5), some (.int v6), some (.int v7), some (.int v8), some (.int v9), some (.int v10), some (.int v11), some (.int x7)] [.int (4 : Int32), .int (v3 + (1 : Int32)), .int x7] rfl ?_
          refine fs_rem T 198 rfl rfl ?_
          refine fs_ic_ne T 225 201 rfl rfl rfl (fun _ => ?_) (fun _ => ?_)
          · refine fs_r T 1 203 [some (.ref v0), some (.int v1), some (.int v2), some (.int v3), some (.int v4), some (.int v5), some (.int v6), some (.int v7), some (.int v8), some (.int v9), some (.int v10), some (.int v11), some (.int x7)] [.int x7] rfl ?_
            refine fs_if_ne T 210 206 rfl rfl rfl (fun _ => ?_) (fun _ => ?_)
            · refine fs_r T 2 211 [some (.ref v0), some (.int v1), some (.int v2), some (.int v3), some (.int v4), some (.int v5), some (.int v6), some (.int v7), some (.int v8), some (.int v9), some (.int v10), some (.int v11), some (.int x7)] [.int (1 : Int32)] rfl ?_
              refine fs_wk (ls' := [some (.ref v0), some (.int v1), some (.int v2), none, some (.int v4), some (.int v5), some (.int v6), some (.int v7), some (.int v8), some (.int v9), some (.int v10), some (.int v11), some (.int x7)]) ⟨rfl, rfl, rfl, rfl, rfl, rfl, rfl, rfl, rfl, rfl, rfl, rfl, trivial⟩ ?_
              exact w_L_phasesFollow_211 hE ih h0 _ _
            · refine fs_r T 1 211 [some (.ref v0), some (.int v1), some (.int v2), some (.int v3), some (.int v4), some (.int v5), some (.int v6), some (.int v7), some (.int v8), some (.int v9), some (.int v10), some (.int v11), some (.int x7)] [.int (0 : Int32)] rfl ?_
              refine fs_wk (ls' := [some (.ref v0), some (.int v1), some (.int v2), none, some (.int v4), some (.int v5), some (.int v6), some (.int v7), some (.int v8), some (.int v9), some (.int v10), some (.int v11), some (.int x7)]) ⟨rfl, rfl, rfl, rfl, rfl, rfl, rfl, rfl, rfl, rfl, rfl, rfl, trivial⟩ ?_
              exact w_L_phasesFollow_211 hE ih h0 _ _
          · refine fs_r T 1 226 [some (.ref v0), some (.int v1), some (.int v2), some (.int v3), some (.int v4), some (.int v5), some (.int v6), some (.int v7), some (.int v8), some (.int v9), some (.int v10), some (.int v11), some (.int x7)] [.int (0 : Int32)] rfl ?_
            exact fs_retc T rfl rfl rfl rfl
      · refine fs_r T 1 173 [some (.ref v0), some (.int v1), some (.int v2), some (.int v3), some (.int v4), some (.int v5), some (.int v6), some (.int v7), some (.int v8), some (.int v9), some (.int v10), some (.int v11), none] [.int (0 : Int32)] rfl ?_
        exact fs_retc T rfl rfl rfl rfl
def f_L_phasesFollow_27 (H : fm_H) (v0 : Nat) (s0 : Int32) (m : fm_M) : Option (Int32 × fm_M) :=
  if s0 < 0 then
    if 0 ≤ s0 then
      some ((0 : Int32), m)
    else
    some ((1 : Int32), m)
  else
  fm_bn (f_L_save H (H.2.1 v0 0) (1 : Int32) m) fun x1 m1 =>
  if x1 = 0 then
    fm_bn (f_L_movedIn H (H.2.1 v0 0) s0 m1) fun x2 m2 =>
    fm_bn (f_L_circuit H (H.2.1 v0 0) s0 (4 : Int32) m2) fun x3 m3 =>
    fm_bn (f_L_draw H v0 (50 : Int32) m3) fun x4 m4 =>
    fm_bn (f_L_ahead H (H.2.1 v0 0) ((1 : Int32) + x4) (0 : Int32) m4) fun x5 m5 =>
    fm_bn (f_L_ahead H (H.2.1 v0 0) ((1 : Int32) + x4) (1 : Int32) m5) fun x6 m6 =>
    fm_bn (f_L_ahead H (H.2.1 v0 0) ((1 : Int32) + x4) (2 : Int32) m6) fun x7 m7 =>
    fm_bn (f_L_count H (H.2.1 v0 0) (8 : Int32) m7) fun x8 m8 =>
    fm_bn (f_L_count H (H.2.1 v0 0) (9 : Int32) m8) fun x9 m9 =>
    fm_bn (f_L_count H (H.2.1 v0 0) (11 : Int32) m9) fun x10 m10 =>
    f_L_phasesFollow_154 H v0 s0 x2 ((1 : Int32) + x4) x5 x6 x7 x8 x9 x10 fm_N x3 (1 : Int32) m10
  else
  if 0 ≤ s0 then
    some ((0 : Int32), m1)
  else
  some ((1 : Int32), m1)
set_option maxRecDepth 10000 in
theorem w_L_phasesFollow_27 {G : pm_G} {H : fm_H} {d : Nat} {z0 : Nat × Nat × Nat} {K : pm_R → fm_M → Prop} (hE : fm_E G H) {v0 : Nat} (h0 : fm_is H v0 12) : ∀ (s0 : Int32) (m : fm_M), fm_o fm_rI (f_L_phasesFollow_27 H v0 s0 m) K → fm_V G H (d + 8) RL cL_phasesFollow (some (.boolean)) (fl_z H z0) K 27 [some (.ref v0), none, none, none, none, none, none, none, none, none, none, none, none] [.int s0] m := by
  have T : fm_T RL cL_phasesFollow tc_L_phasesFollow fr_L mr_L cr_L lr_L := ⟨tok_L, dc_L_phasesFollow⟩
  intro s0 m
  unfold f_L_phasesFollow_27
  refine fs_r T 2 29 [some (.ref v0), some (.int s0), none, none, none, none, none, none, none, none, none, none, none] [.int s0] rfl ?_
  refine fs_if_lt T 43 32 rfl rfl rfl (fun _ => ?_) (fun _ => ?_)
  · refine fs_r T 1 44 [some (.ref v0), some (.int s0), none, none, none, none, none, none, none, none, none, none, none] [.int s0] rfl ?_
    refine fs_if_ge T 51 47 rfl rfl rfl (fun _ => ?_) (fun _ => ?_)
    · refine fs_r T 1 52 [some (.ref v0), some (.int s0), none, none, none, none, none, none, none, none, none, none, none] [.int (0 : Int32)] rfl ?_
      exact fs_retc T rfl rfl rfl rfl
    · refine fs_r T 2 52 [some (.ref v0), some (.int s0), none, none, none, none, none, none, none, none, none, none, none] [.int (1 : Int32)] rfl ?_
      exact fs_retc T rfl rfl rfl rfl
  · refine fs_r T 1 33 [some (.ref v0), some (.int s0), none, none, none, none, none, none, none, none, none, none, none] [.ref v0] rfl ?_
    refine fs_gs T 36 12 0 v0 rfl rfl rfl rfl h0 ?_
    refine fs_r T 1 37 [some (.ref v0), some (.int s0), none, none, none, none, none, none, none, none, none, none, none] [.int (1 : Int32), .ref (H.2.1 v0 0)] rfl ?_
    refine fs_sIh T 40 rfl rfl ml_L_201 rfl rfl rfl rfl rfl (q_L_save (d := d + 2) hE (hE.1 _ 12 0 h0)) ?_
    intro x1 m1
    refine fs_if_eq T 53 43 rfl rfl rfl (fun _ => ?_) (fun _ => ?_)
    · refine fs_r T 1 54 [some (.ref v0), some (.int s0), none, none, none, none, none, none, none, none, none, none, none] [.ref v0] rfl ?_
      refine fs_gs T 57 12 0 v0 rfl rfl rfl rfl h0 ?_
      refine fs_r T 1 58 [some (.ref v0), some (.int s0), none, none, none, none, none, none, none, none, none, none, none] [.int s0, .ref (H.2.1 v0 0)] rfl ?_
      refine fs_sIh T 61 rfl rfl ml_L_172 rfl rfl rfl rfl rfl (q_L_movedIn (d := d + 2) hE (hE.1 _ 12 0 h0)) ?_
      intro x2 m2
      refine fs_r T 2 63 [some (.ref v0), some (.int s0), some (.int x2), none, none, none, none, none, none, none, none, none, none] [.ref v0] rfl ?_
      refine fs_gs T 66 12 0 v0 rfl rfl rfl rfl h0 ?_
      refine fs_r T 2 68 [some (.ref v0), some (.int s0), some (.int x2), none, none, none, none, none, none, none, none, none, none] [.int (4 : Int32), .int s0, .ref (H.2.1 v0 0)] rfl ?_
      refine fs_sIh T 71 rfl rfl ml_L_161 rfl rfl rfl rfl rfl (q_L_circuit (d := d + 3) hE (hE.1 _ 12 0 h0)) ?_
      intro x3 m3
      refine fs_r T 4 76 [some (.ref v0), some (.int s0), some (.int x2), some (.int x3), none, none, none, none, none, none, none, none, none] [.int (50 : Int32), .ref v0, .int (1 : Int32)] rfl ?_
      refine fs_vI T 79 rfl rfl rfl rfl rfl rfl h0 (q_L_draw (d := d + 6) hE h0) ?_
      intro x4 m4
      refine fs_r T 3 83 [some (.ref v0), some (.int s0), some (.int x2), some (.int x3), some (.int ((1 : Int32) + x4)), none, none, none, none, none, none, none, none] [.ref v0] rfl ?_
      refine fs_gs T 86 12 0 v0 rfl rfl rfl rfl h0 ?_
      refine fs_r T 2 89 [some (.ref v0), some (.int s0), some (.int x2), some (.int x3), some (.int ((1 : Int32) + x4)), none, none, none, none, none, none, none, none] [.int (0 : Int32), .int ((1 : Int32) + x4), .ref (H.2.1 v0 0)] rfl ?_
      refine fs_sIh T 92 rfl rfl ml_L_203 rfl rfl rfl rfl rfl (q_L_ahead (d := d) hE (hE.1 _ 12 0 h0)) ?_
      intro x5 m5
      refine fs_r T 2 95 [some (.ref v0), some (.int s0), some (.int x2), some (.int x3), some (.int ((1 : Int32) + x4)), some (.int x5), none, none, none, none, none, none, none] [.ref v0] rfl ?_
      refine fs_gs T 98 12 0 v0 rfl rfl rfl rfl h0 ?_
      refine fs_r T 2 101 [some (.ref v0), some (.int s0), some (.int x2), some (.int x3), some (.int ((1 : Int32) + x4)), some (.int x5), none, none, none, none, none, none, none] [.int (1 : Int32), .int ((1 : Int32) + x4), .ref (H.2.1 v0 0)] rfl ?_
      refine fs_sIh T 104 rfl rfl ml_L_203 rfl rfl rfl rfl rfl (q_L_ahead (d := d) hE (hE.1 _ 12 0 h0)) ?_
      intro x6 m6
      refine fs_r T 2 107 [some (.ref v0), some (.int s0), some (.int x2), some (.int x3), some (.int ((1 : Int32) + x4)), some (.int x5), some (.int x6), none, none, none, none, none, none] [.ref v0] rfl ?_
      refine fs_gs T 110 12 0 v0 rfl rfl rfl rfl h0 ?_
      refine fs_r T 2 113 [some (.ref v0), some (.int s0), some (.int x2), some (.int x3), some (.int ((1 : Int32) + x4)), some (.int x5), some (.int x6), none, none, none, none, none, none] [.int (2 : Int32), .int ((1 : Int32) + x4), .ref (H.2.1 v0 0)] rfl ?_
      refine fs_sIh T 116 rfl rfl ml_L_203 rfl rfl rfl rfl rfl (q_L_ahead (d := d) hE (hE.1 _ 12 0 h0)) ?_
      intro x7 m7
      refine fs_r T 2 119 [some (.ref v0), some (.int s0), some (.int x2), some (.int x3), some (.int ((1 : Int32) + x4)), some (.int x5), some (.int x6), some (.int x7), none, none, none, none, none] [.ref v0] rfl ?_
      refine fs_gs T 122 12 0 v0 rfl rfl rfl rfl h0 ?_
      refine fs_r T 1 124 [some (.ref v0), some (.int s0), some (.int x2), some (.int x3), some (.int ((1 : Int32) + x4)), some (.int x5), some (.int x6), some (.int x7), none, none, none, none, none] [.int (8 : Int32), .ref (H.2.1 v0 0)] rfl ?_
      refine fs_sIh T 127 rfl rfl ml_L_145 rfl rfl rfl rfl rfl (q_L_count (d := d + 3) hE (hE.1 _ 12 0 h0)) ?_
      intro x8 m8
      refine fs_r T 2 130 [some (.ref v0), some (.int s0), some (.int x2), some (.int x3), some (.int ((1 : Int32) + x4)), some (.int x5), some (.int x6), some (.int x7), some (.int x8), none, none, none, none] [.ref v0] rfl ?_
      refine fs_gs T 133 12 0 v0 rfl rfl rfl rfl h0 ?_
      refine fs_r T 1 135 [some (.ref v0), some (.int s0), some (.int x2), some (.int x3), some (.int ((1 : Int32) + x4)), some (.int x5), some (.int x6), some (.int x7), some (.int x8), none, none, none, none] [.int (9 : Int32), .ref (H.2.1 v0 0)] rfl ?_
      refine fs_sIh T 138 rfl rfl ml_L_145 rfl rfl rfl rfl rfl (q_L_count (d := d + 3) hE (hE.1 _ 12 0 h0)) ?_
      intro x9 m9
      refine fs_r T 2 141 [some (.ref v0), some (.int s0), some (.int x2), some (.int x3), some (.int ((1 : Int32) + x4)), some (.int x5), some (.int x6), some (.int x7), some (.int x8), some (.int x9), none, none, none] [.ref v0] rfl ?_
      refine fs_gs T 144 12 0 v0 rfl rfl rfl rfl h0 ?_
      refine fs_r T 1 146 [some (.ref v0), some (.int s0), some (.int x2), some (.int x3), some (.int ((1 : Int32) + x4)), some (.int x5), some (.int x6), some (.int x7), some (.int x8), some (.int x9), none, none, none] [.int (11 : Int32), .ref (H.2.1 v0 0)] rfl ?_
      refine fs_sIh T 149 rfl rfl ml_L_145 rfl rfl rfl rfl rfl (q_L_count (d := d + 3) hE (hE.1 _ 12 0 h0)) ?_
      intro x10 m10
      refine fs_r T 3 154 [some (.ref v0), some (.int s0), some (.int x2), some (.int x3), some (.int ((1 : Int32) + x4)), some (.int x5), some (.int x6), some (.int x7), some (.int x8), some (.int x9), some (.int x10), some (.int (1 : Int32)), none] [] rfl ?_
      exact w_L_phasesFollow_154 hE h0 _ _ _ _
    · refine fs_r T 1 44 [some (.ref v0), some (.int s0), none, none, none, none, none, none, none, none, none, none, none] [.int s0] rfl ?_
      refine fs_if_ge T 51 47 rfl rfl rfl (fun _ => ?_) (fun _ => ?_)
      · refine fs_r T 1 52 [some (.ref v0), some (.int s0), none, none, none, none, none, none, none, none, none, none, none] [.int (0 : Int32)] rfl ?_
        exact fs_retc T rfl rfl rfl rfl
      · refine fs_r T 2 52 [some (.ref v0), some (.int s0), none, none, none, none, none, none, none, none, none, none, none] [.int (1 : Int32)] rfl ?_
        exact fs_retc T rfl rfl rfl rfl
def f_L_phasesFollow (H : fm_H) (v0 : Nat) (m : fm_M) : Option (Int32 × fm_M) :=
  fm_bn (f_L_count H (H.2.1 v0 0) (4 : Int32) m) fun x1 m1 =>
  if x1 = 0 then
    f_L_phasesFollow_27 H v0 (-1 : Int32) m1
  else
  fm_bn (f_L_count H (H.2.1 v0 0) (4 : Int32) m1) fun x2 m2 =>
  fm_bn (f_L_draw H v0 x2 m2) fun x3 m3 =>
  f_L_phasesFollow_27 H v0 x3 m3
set_option maxRecDepth 10000 in
theorem q_L_phasesFollow {G : pm_G} {H : fm_H} {d : Nat} {z0 : Nat × Nat × Nat} {v0 : Nat} {m : fm_M} (hE : fm_E G H) (h0 : fm_is H v0 12) : fm_cal G H (d + 9) yL_phasesFollow [.ref v0] (fl_z H z0) m fm_rI (f_L_phasesFollow H v0 m) := fm_mth (d := d + 8) mt_L_phasesFollow rfl rfl rfl (fun K => by
  show fm_o fm_rI (f_L_phasesFollow H v0 m) K → fm_V G H (d + 8) RL cL_phasesFollow (some (.boolean)) (fl_z H z0) K 0 [some (.ref v0), none, none, none, none, none, none, none, none, none, none, none, none] [] m
  have T : fm_T RL cL_phasesFollow tc_L_phasesFollow fr_L mr_L cr_L lr_L := ⟨tok_L, dc_L_phasesFollow⟩
  unfold f_L_phasesFollow
  refine fs_r T 1 1 [some (.ref v0), none, none, none, none, none, none, none, none, none, none, none, none] [.ref v0] rfl ?_
  refine fs_gs T 4 12 0 v0 rfl rfl rfl rfl h0 ?_
  refine fs_r T 1 5 [some (.ref v0), none, none, none, none, none, none, none, none, none, none, none, none] [.int (4 : Int32), .ref (H.2.1 v0 0)] rfl ?_
  refine fs_sIh T 8 rfl rfl ml_L_145 rfl rfl rfl rfl rfl (q_L_count (d := d + 3) hE (hE.1 _ 12 0 h0)) ?_
  intro x1 m1
  refine fs_if_ne T 15 11 rfl rfl rfl (fun _ => ?_) (fun _ => ?_)
  · refine fs_r T 2 27 [some (.ref v0), none, none, none, none, none, none, none, none, none, none, none, none] [.int (-1 : Int32)] rfl ?_
    exact w_L_phasesFollow_27 hE h0 _ _
  · refine fs_r T 2 17 [some (.ref v0), none, none, none, none, none, none, none, none, none, none, none, none] [.ref v0, .ref v0] rfl ?_
    refine fs_gs T 20 12 0 v0 rfl rfl rfl rfl h0 ?_
    refine fs_r T 1 21 [some (.ref v0), none, none, none, none, none, none, none, none, none, none, none, none] [.int (4 : Int32), .ref (H.2.1 v0 0), .ref v0] rfl ?_
    refine fs_sIh T 24 rfl rfl ml_L_145 rfl rfl rfl rfl rfl (q_L_count (d := d + 3) hE (hE.1 _ 12 0 h0)) ?_
    intro x2 m2
    refine fs_vI T 27 rfl rfl rfl rfl rfl rfl h0 (q_L_draw (d := d + 6) hE h0) ?_
    intro x3 m3
    exact w_L_phasesFollow_27 hE h0 _ _)
def f_L_holds_81 (H : fm_H) (k16 : Int32 → fm_M → Option (Int32 × fm_M)) (v0 : Nat) (v2 : Int32) (m : fm_M) : Option (Int32 × fm_M) :=
  if (13 : Int32) = 0 then none else
  if (v2 - v2 / (13 : Int32) * (13 : Int32)) = (9 : Int32) then
    fm_bn (f_L_phasesFollow H v0 m) fun x1 m1 =>
    if x1 = 0 then
      some ((0 : Int32), m1)
    else
    k16 (v2 + 1) m1
  else
  k16 (v2 + 1) m
set_option maxRecDepth 10000 in
theorem w_L_holds_81 {G : pm_G} {H : fm_H} {d : Nat} {z0 : Nat × Nat × Nat} {K : pm_R → fm_M → Prop} (hE : fm_E G H) {k16 : Int32 → fm_M → Option (Int32 × fm_M)} {v0 : Nat} {v2 : Int32} (Hk16 : ∀ (v2 : Int32) (m : fm_M), fm_o fm_rI (k16 v2 m) K → fm_V G H (d + 16) RL cL_holds (some (.boolean)) (fl_z H z0) K 16 [some (.ref v0), none, some (.int v2), none] [] m) (h0 : fm_is H v0 12) : ∀ (m : fm_M), fm_o fm_rI (f_L_holds_81 H k16 v0 v2 m) K → fm_V G H (d + 16) RL cL_holds (some (.boolean)) (fl_z H z0) K 81 [some (.ref v0), none, some (.int v2), none] [] m := by
  have T : fm_T RL cL_holds tc_L_holds fr_L mr_L cr_L lr_L := ⟨tok_L, dc_L_holds⟩
  intro m
  unfold f_L_holds_81
  refine fs_r T 2 84 [some (.ref v0), none, some (.int v2), none] [.int (13 : Int32), .int v2] rfl ?_
  refine fs_rem T 85 rfl rfl ?_
  refine fs_r T 1 87 [some (.ref v0), none, some (.int v2), none] [.int (9 : Int32), .int (v2 - v2 / (13 : Int32) * (13 : Int32))] rfl ?_
  refine fs_ic_ne T 99 90 rfl rfl rfl (fun _ => ?_) (fun _ => ?_)
  · refine fs_r T 1 91 [some (.ref v0), none, some (.int v2), none] [.ref v0] rfl ?_
    refine fs_vI T 94 rfl rfl rfl rfl rfl rfl h0 (q_L_phasesFollow (d := d + 7) hE h0) ?_
    intro x1 m1
    refine fs_if_ne T 99 97 rfl rfl rfl (fun _ => ?_) (fun _ => ?_)
    · refine fs_r T 1 98 [some (.ref v0), none, some (.int v2), none] [.int (0 : Int32)] rfl ?_
      exact fs_retc T rfl rfl rfl rfl
    · refine fs_r T 2 16 [some (.ref v0), none, some (.int (v2 + 1)), none] [] rfl ?_
      exact Hk16 _ _
  · refine fs_r T 2 16 [some (.ref v0), none, some (.int (v2 + 1)), none] [] rfl ?_
    exact Hk16 _ _
def f_L_holds_47 (H : fm_H) (k16 : Int32 → fm_M → Option (Int32 × fm_M)) (v0 : Nat) (v2 : Int32) (s0 : Int32) (m : fm_M) : Option (Int32 × fm_M) :=
  if s0 = 0 then
    some ((0 : Int32), m)
  else
  fm_bn (f_L_passes H v0 m) fun x1 m1 =>
  if x1 = 0 then
    some ((0 : Int32), m1)
  else
  if (7 : Int32) = 0 then none else
  if (v2 - v2 / (7 : Int32) * (7 : Int32)) = (3 : Int32) then
    fm_bn (f_L_labelsAreSo H v0 m1) fun x2 m2 =>
    if x2 = 0 then
      some ((0 : Int32), m2)
    else
    fm_bn (f_L_waysAreSo H v0 m2) fun x3 m3 =>
    if x3 = 0 then
      some ((0 : Int32), m3)
    else
    f_L_holds_81 H k16 v0 v2 m3
  else
  f_L_holds_81 H k16 v0 v2 m1
set_option maxRecDepth 10000 in
theorem w_L_holds_47 {G : pm_G} {H : fm_H} {d : Nat} {z0 : Nat × Nat × Nat} {K : pm_R → fm_M → Prop} (hE : fm_E G H) {k16 : Int32 → fm_M → Option (Int32 × fm_M)} {v0 : Nat} {v2 : Int32} (Hk16 : ∀ (v2 : Int32) (m : fm_M), fm_o fm_rI (k16 v2 m) K → fm_V G H (d + 16) RL cL_holds (some (.boolean)) (fl_z H z0) K 16 [some (.ref v0), none, some (.int v2), none] [] m) (h0 : fm_is H v0 12) : ∀ (s0 : Int32) (m : fm_M), fm_o fm_rI (f_L_holds_47 H k16 v0 v2 s0 m) K → fm_V G H (d + 16) RL cL_holds (some (.boolean)) (fl_z H z0) K 47 [some (.ref v0), none, some (.int v2), none] [.int s0] m := by
  have T : fm_T RL cL_holds tc_L_holds fr_L mr_L cr_L lr_L := ⟨tok_L, dc_L_holds⟩
  intro s0 m
  unfold f_L_holds_47
  refine fs_r T 2 49 [some (.ref v0), none, some (.int v2), some (.int s0)] [.int s0] rfl ?_
  refine fs_if_eq T 97 52 rfl rfl rfl (fun _ => ?_) (fun _ => ?_)
  · refine fs_r T 1 98 [some (.ref v0), none, some (.int v2), some (.int s0)] [.int (0 : Int32)] rfl ?_
    exact fs_retc T rfl rfl rfl rfl
  · refine fs_r T 1 53 [some (.ref v0), none, some (.int v2), some (.int s0)] [.ref v0] rfl ?_
    refine fs_vI T 56 rfl rfl rfl rfl rfl rfl h0 (q_L_passes (d := d + 7) hE h0) ?_
    intro x1 m1
    refine fs_if_eq T 97 59 rfl rfl rfl (fun _ => ?_) (fun _ => ?_)
    · refine fs_r T 1 98 [some (.ref v0), none, some (.int v2), some (.int s0)] [.int (0 : Int32)] rfl ?_
      exact fs_retc T rfl rfl rfl rfl
    · refine fs_r T 2 62 [some (.ref v0), none, some (.int v2), some (.int s0)] [.int (7 : Int32), .int v2] rfl ?_
      refine fs_rem T 63 rfl rfl ?_
      refine fs_r T 1 64 [some (.ref v0), none, some (.int v2), some (.int s0)] [.int (3 : Int32), .int (v2 - v2 / (7 : Int32) * (7 : Int32))] rfl ?_
      refine fs_ic_ne T 81 67 rfl rfl rfl (fun _ => ?_) (fun _ => ?_)
      · refine fs_r T 1 68 [some (.ref v0), none, some (.int v2), some (.int s0)] [.ref v0] rfl ?_
        refine fs_vI T 71 rfl rfl rfl rfl rfl rfl h0 (q_L_labelsAreSo (d := d + 10) hE h0) ?_
        intro x2 m2
        refine fs_if_eq T 97 74 rfl rfl rfl (fun _ => ?_) (fun _ => ?_)
        · refine fs_r T 1 98 [some (.ref v0), none, some (.int v2), some (.int s0)] [.int (0 : Int32)] rfl ?_
          exact fs_retc T rfl rfl rfl rfl
        · refine fs_r T 1 75 [some (.ref v0), none, some (.int v2), some (.int s0)] [.ref v0] rfl ?_
          refine fs_vI T 78 rfl rfl rfl rfl rfl rfl h0 (q_L_waysAreSo (d := d + 9) hE h0) ?_
          intro x3 m3
          refine fs_if_eq T 97 81 rfl rfl rfl (fun _ => ?_) (fun _ => ?_)
          · refine fs_r T 1 98 [some (.ref v0), none, some (.int v2), some (.int s0)] [.int (0 : Int32)] rfl ?_
            exact fs_retc T rfl rfl rfl rfl
          · refine fs_wk (ls' := [some (.ref v0), none, some (.int v2), none]) ⟨rfl, rfl, trivial⟩ ?_
            exact w_L_holds_81 hE Hk16 h0 _
      · refine fs_wk (ls' := [some (.ref v0), none, some (.int v2), none]) ⟨rfl, rfl, trivial⟩ ?_
        exact w_L_holds_81 hE Hk16 h0 _
def f_L_holds_16 (H : fm_H) (v0 : Nat) : Nat → Int32 → fm_M → Option (Int32 × fm_M)
  | 0, _, _ => none
  | n + 1, v2, m =>
    if (55 : Int32) ≤ v2 then
      fm_bn (f_L_labelsAreSo H v0 m) fun x1 m1 =>
      if x1 = 0 then
        some ((0 : Int32), m1)
      else
      fm_bn (f_L_waysAreSo H v0 m1) fun x2 m2 =>
      if x2 = 0 then
        some ((0 : Int32), m2)
      else
      fm_bn (f_L_phasesFollow H v0 m2) fun x3 m3 =>
      if x3 = 0 then
        some ((0 : Int32), m3)
      else
      fm_bn (f_X11_weakLink H (H.2.1 v0 0) m3) fun x4 m4 =>
      fm_bn (f_L_count H (H.2.1 v0 0) (3 : Int32) m4) fun x5 m5 =>
      if x5 ≤ x4 then
        some ((0 : Int32), m5)
      else
      fm_bn (f_L_run H (H.2.1 v0 0) (201 : Int32) m5) fun x6 m6 =>
      if x6 = (-102 : Int32) then
        some ((1 : Int32), m6)
      else
      some ((0 : Int32), m6)
    else
    if v2 < (8 : Int32) then
      fm_bn (f_L_opens H v0 m) fun x7 m7 =>
      f_L_holds_47 H (f_L_holds_16 H v0 n) v0 v2 x7 m7
    else
    fm_bn (f_L_draw H v0 (4 : Int32) m) fun x8 m8 =>
    if x8 = 0 then
      fm_bn (f_L_opens H v0 m8) fun x10 m10 =>
      f_L_holds_47 H (f_L_holds_16 H v0 n) v0 v2 x10 m10
    else
    fm_bn (f_L_acts H v0 m8) fun x9 m9 =>
    f_L_holds_47 H (f_L_holds_16 H v0 n) v0 v2 x9 m9
set_option maxRecDepth 10000 in
theorem w_L_holds_16 {G : pm_G} {H : fm_H} {d : Nat} {z0 : Nat × Nat × Nat} {K : pm_R → fm_M → Prop} (hE : fm_E G H) {v0 : Nat} (h0 : fm_is H v0 12) : ∀ (n : Nat) (v2 : Int32) (m : fm_M), fm_o fm_rI (f_L_holds_16 H v0 n v2 m) K → fm_V G H (d + 16) RL cL_holds (some (.boolean)) (fl_z H z0) K 16 [some (.ref v0), none, some (.int v2), none] [] m := by
  have T : fm_T RL cL_holds tc_L_holds fr_L mr_L cr_L lr_L := ⟨tok_L, dc_L_holds⟩
  intro n
  induction n with
  | zero =>
    intro v2 m 
    exact fs_none
  | succ n ih =>
    intro v2 m 
    unfold f_L_holds_16
    refine fs_r T 2 19 [some (.ref v0), none, some (.int v2), none] [.int (55 : Int32), .int v2] rfl ?_
    refine fs_ic_ge T 105 22 rfl rfl rfl (fun _ => ?_) (fun _ => ?_)
    · refine fs_r T 1 106 [some (.ref v0), none, some (.int v2), none] [.ref v0] rfl ?_
      refine fs_vI T 109 rfl rfl rfl rfl rfl rfl h0 (q_L_labelsAreSo (d := d + 10) hE h0) ?_
      intro x1 m1
      refine fs_if_eq T 163 112 rfl rfl rfl (fun _ => ?_) (fun _ => ?_)
      · refine fs_r T 1 164 [some (.ref v0), none, some (.int v2), none] [.int (0 : Int32)] rfl ?_
        exact fs_retc T rfl rfl rfl rfl
      · refine fs_r T 1 113 [some (.ref v0), none, some (.int v2), none] [.ref v0] rfl ?_
        refine fs_vI T 116 rfl rfl rfl rfl rfl rfl h0 (q_L_waysAreSo (d := d + 9) hE h0) ?_
        intro x2 m2
        refine fs_if_eq T 163 119 rfl rfl rfl (fun _ => ?_) (fun _ => ?_)
        · refine fs_r T 1 164 [some (.ref v0), none, some (.int v2), none] [.int (0 : Int32)] rfl ?_
          exact fs_retc T rfl rfl rfl rfl
        · refine fs_r T 1 120 [some (.ref v0), none, some (.int v2), none] [.ref v0] rfl ?_
          refine fs_vI T 123 rfl rfl rfl rfl rfl rfl h0 (q_L_phasesFollow (d := d + 7) hE h0) ?_
          intro x3 m3
          refine fs_if_eq T 163 126 rfl rfl rfl (fun _ => ?_) (fun _ => ?_)
          · refine fs_r T 1 164 [some (.ref v0), none, some (.int v2), none] [.int (0 : Int32)] rfl ?_
            exact fs_retc T rfl rfl rfl rfl
          · refine fs_r T 1 127 [some (.ref v0), none, some (.int v2), none] [.ref v0] rfl ?_
            refine fs_gs T 130 12 0 v0 rfl rfl rfl rfl h0 ?_
            refine fs_vI T 133 rfl rfl rfl rfl rfl rfl (hE.1 _ 12 0 h0) (q_X11_weakLink (d := d + 1) hE (hE.1 _ 12 0 h0)) ?_
            intro x4 m4
            refine fs_r T 1 134 [some (.ref v0), none, some (.int v2), none] [.ref v0, .int x4] rfl ?_
            refine fs_gs T 137 12 0 v0 rfl rfl rfl rfl h0 ?_
            refine fs_r T 1 138 [some (.ref v0), none, some (.int v2), none] [.int (3 : Int32), .ref (H.2.1 v0 0), .int x4] rfl ?_
            refine fs_sIh T 141 rfl rfl ml_L_145 rfl rfl rfl rfl rfl (q_L_count (d := d + 11) hE (hE.1 _ 12 0 h0)) ?_
            intro x5 m5
            refine fs_ic_ge T 163 144 rfl rfl rfl (fun _ => ?_) (fun _ => ?_)
            · refine fs_r T 1 164 [some (.ref v0), none, some (.int v2), none] [.int (0 : Int32)] rfl ?_
              exact fs_retc T rfl rfl rfl rfl
            · refine fs_r T 1 145 [some (.ref v0), none, some (.int v2), none] [.ref v0] rfl ?_
              refine fs_gs T 148 12 0 v0 rfl rfl rfl rfl h0 ?_
              refine fs_r T 1 151 [some (.ref v0), none, some (.int v2), none] [.int (201 : Int32), .ref (H.2.1 v0 0)] rfl ?_
              refine fs_sIh T 154 rfl rfl ml_L_199 rfl rfl rfl rfl rfl (q_L_run (d := d + 8) hE (hE.1 _ 12 0 h0)) ?_
              intro x6 m6
              refine fs_r T 1 156 [some (.ref v0), none, some (.int v2), none] [.int (-102 : Int32), .int x6] rfl ?_
              refine fs_ic_ne T 163 159 rfl rfl rfl (fun _ => ?_) (fun _ => ?_)
              · refine fs_r T 2 164 [some (.ref v0), none, some (.int v2), none] [.int (1 : Int32)] rfl ?_
                exact fs_retc T rfl rfl rfl rfl
              · refine fs_r T 1 164 [some (.ref v0), none, some (.int v2), none] [.int (0 : Int32)] rfl ?_
                exact fs_retc T rfl rfl rfl rfl
    · refine fs_r T 2 25 [some (.ref v0), none, some (.int v2), none] [.int (8 : Int32), .int v2] rfl ?_
      refine fs_ic_lt T 36 28 rfl rfl rfl (fun _ => ?_) (fun _ => ?_)
      · refine fs_r T 1 37 [some (.ref v0), none, some (.int v2), none] [.ref v0] rfl ?_
        refine fs_vI T 40 rfl rfl rfl rfl rfl rfl h0 (q_L_opens (d := d + 1) hE h0) ?_
        intro x7 m7
        refine fs_r T 1 47 [some (.ref v0), none, some (.int v2), none] [.int x7] rfl ?_
        exact w_L_holds_47 hE ih h0 _ _
      · refine fs_r T 2 30 [some (.ref v0), none, some (.int v2), none] [.int (4 : Int32), .ref v0] rfl ?_
        refine fs_vI T 33 rfl rfl rfl rfl rfl rfl h0 (q_L_draw (d := d + 14) hE h0) ?_
        intro x8 m8
        refine fs_if_ne T 43 36 rfl rfl rfl (fun _ => ?_) (fun _ => ?_)
        · refine fs_r T 1 37 [some (.ref v0), none, some (.int v2), none] [.ref v0] rfl ?_
          refine fs_vI T 40 rfl rfl rfl rfl rfl rfl h0 (q_L_opens (d := d + 1) hE h0) ?_
          intro x10 m10
          refine fs_r T 1 47 [some (.ref v0), none, some (.int v2), none] [.int x10] rfl ?_
          exact w_L_holds_47 hE ih h0 _ _
        · refine fs_r T 1 44 [some (.ref v0), none, some (.int v2), none] [.ref v0] rfl ?_
          refine fs_vI T 47 rfl rfl rfl rfl rfl rfl h0 (q_L_acts (d := d) hE h0) ?_
          intro x9 m9
          exact w_L_holds_47 hE ih h0 _ _
def f_L_holds (H : fm_H) (v0 : Nat) (v1 : Nat) (m : fm_M) : Option (Int32 × fm_M) :=
  fm_bd (fm_sr m v0 1 v1) fun m1 =>
  fm_bn (f_L_builds H v0 m1) fun x1 m2 =>
  if x1 = 0 then
    some ((0 : Int32), m2)
  else
  f_L_holds_16 H v0 fm_N (0 : Int32) m2
set_option maxRecDepth 10000 in
theorem q_L_holds {G : pm_G} {H : fm_H} {d : Nat} {z0 : Nat × Nat × Nat} {v0 : Nat} {v1 : Nat} {m : fm_M} (hE : fm_E G H) (h0 : fm_is H v0 12) (h1 : fm_ia H v1 .int false) : fm_cal G H (d + 17) yL_holds [.ref v0, .ref v1] (fl_z H z0) m fm_rI (f_L_holds H v0 v1 m) := fm_mth (d := d + 16) mt_L_holds rfl rfl rfl (fun K => by
  show fm_o fm_rI (f_L_holds H v0 v1 m) K → fm_V G H (d + 16) RL cL_holds (some (.boolean)) (fl_z H z0) K 0 [some (.ref v0), some (.ref v1), none, none] [] m
  have T : fm_T RL cL_holds tc_L_holds fr_L mr_L cr_L lr_L := ⟨tok_L, dc_L_holds⟩
  unfold f_L_holds
  refine fs_r T 2 2 [some (.ref v0), some (.ref v1), none, none] [.ref v1, .ref v0] rfl ?_
  refine fs_pra T 5 12 1 v0 rfl rfl rfl rfl h0 ?_
  intro m1
  refine fs_r T 1 6 [some (.ref v0), some (.ref v1), none, none] [.ref v0] rfl ?_
  refine fs_vI T 9 rfl rfl rfl rfl rfl rfl h0 (q_L_builds (d := d + 10) hE h0) ?_
  intro x1 m2
  refine fs_if_ne T 14 12 rfl rfl rfl (fun _ => ?_) (fun _ => ?_)
  · refine fs_r T 1 13 [some (.ref v0), some (.ref v1), none, none] [.int (0 : Int32)] rfl ?_
    exact fs_retc T rfl rfl rfl rfl
  · refine fs_r T 2 16 [some (.ref v0), some (.ref v1), some (.int (0 : Int32)), none] [] rfl ?_
    refine fs_wk (ls' := [some (.ref v0), none, some (.int (0 : Int32)), none]) ⟨rfl, rfl, trivial⟩ ?_
    exact w_L_holds_16 hE h0 _ _ _)
