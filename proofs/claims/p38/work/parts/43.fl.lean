/-! functions out of the code -/
def f_L_opens_261 (H : fm_H) (v0 : Nat) (v5 : Int32) (v6 : Int32) (m : fm_M) : Option (Int32 × fm_M) :=
  fm_bn (f_L_count H (H.2.1 v0 0) (4 : Int32) m) fun x1 m1 =>
  if x1 = v5 then
    fm_bn (f_L_count H (H.2.1 v0 0) (16 : Int32) m1) fun x2 m2 =>
    if x2 = v6 then
      some ((1 : Int32), m2)
    else
    some ((0 : Int32), m2)
  else
  some ((0 : Int32), m1)
set_option maxRecDepth 10000 in
theorem w_L_opens_261 {G : pm_G} {H : fm_H} {d : Nat} {z0 : Nat × Nat × Nat} {K : pm_R → fm_M → Prop} (hE : fm_E G H) {v0 : Nat} {v5 : Int32} {v6 : Int32} (h0 : fm_is H v0 12) : ∀ (m : fm_M), fm_o fm_rI (f_L_opens_261 H v0 v5 v6 m) K → fm_V G H (d + 14) RL cL_opens (some (.boolean)) (fl_z H z0) K 261 [some (.ref v0), none, none, none, none, some (.int v5), some (.int v6), none] [] m := by
  have T : fm_T RL cL_opens tc_L_opens fr_L mr_L cr_L lr_L := ⟨tok_L, dc_L_opens⟩
  intro m
  unfold f_L_opens_261
  refine fs_r T 1 262 [some (.ref v0), none, none, none, none, some (.int v5), some (.int v6), none] [.ref v0] rfl ?_
  refine fs_gs T 265 12 0 v0 rfl rfl rfl rfl h0 ?_
  refine fs_r T 1 266 [some (.ref v0), none, none, none, none, some (.int v5), some (.int v6), none] [.int (4 : Int32), .ref (H.2.1 v0 0)] rfl ?_
  refine fs_sIh T 269 rfl rfl ml_L_145 rfl rfl rfl rfl rfl (q_L_count (d := d + 9) hE (hE.1 _ 12 0 h0)) ?_
  intro x1 m1
  refine fs_r T 1 271 [some (.ref v0), none, none, none, none, some (.int v5), some (.int v6), none] [.int v5, .int x1] rfl ?_
  refine fs_ic_ne T 292 274 rfl rfl rfl (fun _ => ?_) (fun _ => ?_)
  · refine fs_r T 1 275 [some (.ref v0), none, none, none, none, some (.int v5), some (.int v6), none] [.ref v0] rfl ?_
    refine fs_gs T 278 12 0 v0 rfl rfl rfl rfl h0 ?_
    refine fs_r T 1 280 [some (.ref v0), none, none, none, none, some (.int v5), some (.int v6), none] [.int (16 : Int32), .ref (H.2.1 v0 0)] rfl ?_
    refine fs_sIh T 283 rfl rfl ml_L_145 rfl rfl rfl rfl rfl (q_L_count (d := d + 9) hE (hE.1 _ 12 0 h0)) ?_
    intro x2 m2
    refine fs_r T 1 285 [some (.ref v0), none, none, none, none, some (.int v5), some (.int v6), none] [.int v6, .int x2] rfl ?_
    refine fs_ic_ne T 292 288 rfl rfl rfl (fun _ => ?_) (fun _ => ?_)
    · refine fs_r T 2 293 [some (.ref v0), none, none, none, none, some (.int v5), some (.int v6), none] [.int (1 : Int32)] rfl ?_
      exact fs_retc T rfl rfl rfl rfl
    · refine fs_r T 1 293 [some (.ref v0), none, none, none, none, some (.int v5), some (.int v6), none] [.int (0 : Int32)] rfl ?_
      exact fs_retc T rfl rfl rfl rfl
  · refine fs_r T 1 293 [some (.ref v0), none, none, none, none, some (.int v5), some (.int v6), none] [.int (0 : Int32)] rfl ?_
    exact fs_retc T rfl rfl rfl rfl
def f_L_opens (H : fm_H) (v0 : Nat) (m : fm_M) : Option (Int32 × fm_M) :=
  fm_bn (f_L_count H (H.2.1 v0 0) (2 : Int32) m) fun x1 m1 =>
  fm_bn (f_L_draw H v0 x1 m1) fun x2 m2 =>
  fm_bn (f_L_draw H v0 x1 m2) fun x3 m3 =>
  fm_bn (f_L_draw H v0 (20 : Int32) m3) fun x4 m4 =>
  fm_bn (f_L_count H (H.2.1 v0 0) (4 : Int32) m4) fun x5 m5 =>
  fm_bn (f_L_draftBest H (H.2.1 v0 0) x2 x3 ((1 : Int32) + x4) m5) fun x6 m6 =>
  if x2 = x3 then
    if x6 = (-102 : Int32) then
      some ((1 : Int32), m6)
    else
    some ((0 : Int32), m6)
  else
  if 0 ≤ x6 then
    if x6 < (2 : Int32) then
      some ((0 : Int32), m6)
    else
    if (6 : Int32) < x6 then
      some ((0 : Int32), m6)
    else
    fm_bn (f_L_count H (H.2.1 v0 0) (16 : Int32) m6) fun x7 m7 =>
    if x7 = x6 then
      fm_bn (f_L_draftNode H (H.2.1 v0 0) (0 : Int32) m7) fun x8 m8 =>
      if x8 = x2 then
        fm_bn (f_L_draftNode H (H.2.1 v0 0) (x6 - (1 : Int32)) m8) fun x9 m9 =>
        if x9 = x3 then
          fm_bn (f_L_draftNode H (H.2.1 v0 0) x6 m9) fun x10 m10 =>
          if x10 = (-1 : Int32) then
            fm_bn (f_L_draw H v0 (10 : Int32) m10) fun x11 m11 =>
            fm_bn (f_L_open H (H.2.1 v0 0) ((1 : Int32) + x4) x11 m11) fun x12 m12 =>
            if x12 = 0 then
              fm_bn (f_L_count H (H.2.1 v0 0) (4 : Int32) m12) fun x13 m13 =>
              if x13 = (x5 + (1 : Int32)) then
                fm_bn (f_L_count H (H.2.1 v0 0) (16 : Int32) m13) fun x14 m14 =>
                if x14 = 0 then
                  fm_bn (f_L_circuit H (H.2.1 v0 0) x5 (2 : Int32) m14) fun x15 m15 =>
                  if x15 = ((1 : Int32) + x4) then
                    fm_bn (f_L_circuit H (H.2.1 v0 0) x5 (4 : Int32) m15) fun x16 m16 =>
                    if x16 = 0 then
                      some ((1 : Int32), m16)
                    else
                    some ((0 : Int32), m16)
                  else
                  some ((0 : Int32), m15)
                else
                some ((0 : Int32), m14)
              else
              some ((0 : Int32), m13)
            else
            if x12 = (1 : Int32) then
              if x5 = (8 : Int32) then
                f_L_opens_261 H v0 x5 x6 m12
              else
              if x12 = (6 : Int32) then
                f_L_opens_261 H v0 x5 x6 m12
              else
              some ((0 : Int32), m12)
            else
            if x12 = (6 : Int32) then
              f_L_opens_261 H v0 x5 x6 m12
            else
            some ((0 : Int32), m12)
          else
          some ((0 : Int32), m10)
        else
        some ((0 : Int32), m9)
      else
      some ((0 : Int32), m8)
    else
    some ((0 : Int32), m7)
  else
  if x6 = (-1 : Int32) then
    some ((1 : Int32), m6)
  else
  some ((0 : Int32), m6)
set_option maxRecDepth 10000 in
theorem q_L_opens {G : pm_G} {H : fm_H} {d : Nat} {z0 : Nat × Nat × Nat} {v0 : Nat} {m : fm_M} (hE : fm_E G H) (h0 : fm_is H v0 12) : fm_cal G H (d + 15) yL_opens [.ref v0] (fl_z H z0) m fm_rI (f_L_opens H v0 m) := fm_mth (d := d + 14) mt_L_opens rfl rfl rfl (fun K => by
  show fm_o fm_rI (f_L_opens H v0 m) K → fm_V G H (d + 14) RL cL_opens (some (.boolean)) (fl_z H z0) K 0 [some (.ref v0), none, none, none, none, none, none, none] [] m
  have T : fm_T RL cL_opens tc_L_opens fr_L mr_L cr_L lr_L := ⟨tok_L, dc_L_opens⟩
  unfold f_L_opens
  refine fs_r T 1 1 [some (.ref v0), none, none, none, none, none, none, none] [.ref v0] rfl ?_
  refine fs_gs T 4 12 0 v0 rfl rfl rfl rfl h0 ?_
  refine fs_r T 1 5 [some (.ref v0), none, none, none, none, none, none, none] [.int (2 : Int32), .ref (H.2.1 v0 0)] rfl ?_
  refine fs_sIh T 8 rfl rfl ml_L_145 rfl rfl rfl rfl rfl (q_L_count (d := d + 9) hE (hE.1 _ 12 0 h0)) ?_
  intro x1 m1
  refine fs_r T 3 11 [some (.ref v0), some (.int x1), none, none, none, none, none, none] [.int x1, .ref v0] rfl ?_
  refine fs_vI T 14 rfl rfl rfl rfl rfl rfl h0 (q_L_draw (d := d + 12) hE h0) ?_
  intro x2 m2
  refine fs_r T 3 17 [some (.ref v0), some (.int x1), some (.int x2), none, none, none, none, none] [.int x1, .ref v0] rfl ?_
  refine fs_vI T 20 rfl rfl rfl rfl rfl rfl h0 (q_L_draw (d := d + 12) hE h0) ?_
  intro x3 m3
  refine fs_r T 4 25 [some (.ref v0), some (.int x1), some (.int x2), some (.int x3), none, none, none, none] [.int (20 : Int32), .ref v0, .int (1 : Int32)] rfl ?_
  refine fs_vI T 28 rfl rfl rfl rfl rfl rfl h0 (q_L_draw (d := d + 12) hE h0) ?_
  intro x4 m4
  refine fs_r T 3 32 [some (.ref v0), some (.int x1), some (.int x2), some (.int x3), some (.int ((1 : Int32) + x4)), none, none, none] [.ref v0] rfl ?_
  refine fs_gs T 35 12 0 v0 rfl rfl rfl rfl h0 ?_
  refine fs_r T 1 36 [some (.ref v0), some (.int x1), some (.int x2), some (.int x3), some (.int ((1 : Int32) + x4)), none, none, none] [.int (4 : Int32), .ref (H.2.1 v0 0)] rfl ?_
  refine fs_sIh T 39 rfl rfl ml_L_145 rfl rfl rfl rfl rfl (q_L_count (d := d + 9) hE (hE.1 _ 12 0 h0)) ?_
  intro x5 m5
  refine fs_r T 2 42 [some (.ref v0), some (.int x1), some (.int x2), some (.int x3), some (.int ((1 : Int32) + x4)), some (.int x5), none, none] [.ref v0] rfl ?_
  refine fs_gs T 45 12 0 v0 rfl rfl rfl rfl h0 ?_
  refine fs_r T 3 49 [some (.ref v0), some (.int x1), some (.int x2), some (.int x3), some (.int ((1 : Int32) + x4)), some (.int x5), none, none] [.int ((1 : Int32) + x4), .int x3, .int x2, .ref (H.2.1 v0 0)] rfl ?_
  refine fs_sIh T 52 rfl rfl ml_L_180 rfl rfl rfl rfl rfl (q_L_draftBest (d := d) hE (hE.1 _ 12 0 h0)) ?_
  intro x6 m6
  refine fs_r T 3 56 [some (.ref v0), some (.int x1), some (.int x2), some (.int x3), some (.int ((1 : Int32) + x4)), some (.int x5), some (.int x6), none] [.int x3, .int x2] rfl ?_
  refine fs_ic_ne T 72 59 rfl rfl rfl (fun _ => ?_) (fun _ => ?_)
  · refine fs_r T 2 63 [some (.ref v0), some (.int x1), some (.int x2), some (.int x3), some (.int ((1 : Int32) + x4)), some (.int x5), some (.int x6), none] [.int (-102 : Int32), .int x6] rfl ?_
    refine fs_ic_ne T 70 66 rfl rfl rfl (fun _ => ?_) (fun _ => ?_)
    · refine fs_r T 2 71 [some (.ref v0), some (.int x1), some (.int x2), some (.int x3), some (.int ((1 : Int32) + x4)), some (.int x5), some (.int x6), none] [.int (1 : Int32)] rfl ?_
      exact fs_retc T rfl rfl rfl rfl
    · refine fs_r T 1 71 [some (.ref v0), some (.int x1), some (.int x2), some (.int x3), some (.int ((1 : Int32) + x4)), some (.int x5), some (.int x6), none] [.int (0 : Int32)] rfl ?_
      exact fs_retc T rfl rfl rfl rfl
  · refine fs_r T 1 74 [some (.ref v0), some (.int x1), some (.int x2), some (.int x3), some (.int ((1 : Int32) + x4)), some (.int x5), some (.int x6), none] [.int x6] rfl ?_
    refine fs_if_ge T 89 77 rfl rfl rfl (fun _ => ?_) (fun _ => ?_)
    · refine fs_r T 2 92 [some (.ref v0), some (.int x1), some (.int x2), some (.int x3), some (.int ((1 : Int32) + x4)), some (.int x5), some (.int x6), none] [.int (2 : Int32), .int x6] rfl ?_
      refine fs_ic_lt T 156 95 rfl rfl rfl (fun _ => ?_) (fun _ => ?_)
      · refine fs_r T 1 157 [some (.ref v0), some (.int x1), some (.int x2), some (.int x3), some (.int ((1 : Int32) + x4)), some (.int x5), some (.int x6), none] [.int (0 : Int32)] rfl ?_
        exact fs_retc T rfl rfl rfl rfl
      · refine fs_r T 2 99 [some (.ref v0), some (.int x1), some (.int x2), some (.int x3), some (.int ((1 : Int32) + x4)), some (.int x5), some (.int x6), none] [.int (6 : Int32), .int x6] rfl ?_
        refine fs_ic_gt T 156 102 rfl rfl rfl (fun _ => ?_) (fun _ => ?_)
        · refine fs_r T 1 157 [some (.ref v0), some (.int x1), some (.int x2), some (.int x3), some (.int ((1 : Int32) + x4)), some (.int x5), some (.int x6), none] [.int (0 : Int32)] rfl ?_
          exact fs_retc T rfl rfl rfl rfl
        · refine fs_r T 1 103 [some (.ref v0), some (.int x1), some (.int x2), some (.int x3), some (.int ((1 : Int32) + x4)), some (.int x5), some (.int x6), none] [.ref v0] rfl ?_
          refine fs_gs T 106 12 0 v0 rfl rfl rfl rfl h0 ?_
          refine fs_r T 1 108 [some (.ref v0), some (.int x1), some (.int x2), some (.int x3), some (.int ((1 : Int32) + x4)), some (.int x5), some (.int x6), none] [.int (16 : Int32), .ref (H.2.1 v0 0)] rfl ?_
          refine fs_sIh T 111 rfl rfl ml_L_145 rfl rfl rfl rfl rfl (q_L_count (d := d + 9) hE (hE.1 _ 12 0 h0)) ?_
          intro x7 m7
          refine fs_r T 1 113 [some (.ref v0), some (.int x1), some (.int x2), some (.int x3), some (.int ((1 : Int32) + x4)), some (.int x5), some (.int x6), none] [.int x6, .int x7] rfl ?_
          refine fs_ic_ne T 156 116 rfl rfl rfl (fun _ => ?_) (fun _ => ?_)
          · refine fs_r T 1 117 [some (.ref v0), some (.int x1), some (.int x2), some (.int x3), some (.int ((1 : Int32) + x4)), some (.int x5), some (.int x6), none] [.ref v0] rfl ?_
            refine fs_gs T 120 12 0 v0 rfl rfl rfl rfl h0 ?_
            refine fs_r T 1 121 [some (.ref v0), some (.int x1), some (.int x2), some (.int x3), some (.int ((1 : Int32) + x4)), some (.int x5), some (.int x6), none] [.int (0 : Int32), .ref (H.2.1 v0 0)] rfl ?_
            refine fs_sIh T 124 rfl rfl ml_L_182 rfl rfl rfl rfl rfl (q_L_draftNode (d := d + 11) hE (hE.1 _ 12 0 h0)) ?_
            intro x8 m8
            refine fs_r T 1 125 [some (.ref v0), some (.int x1), some (.int x2), some (.int x3), some (.int ((1 : Int32) + x4)), some (.int x5), some (.int x6), none] [.int x2, .int x8] rfl ?_
            refine fs_ic_ne T 156 128 rfl rfl rfl (fun _ => ?_) (fun _ => ?_)
            · refine fs_r T 1 129 [some (.ref v0), some (.int x1), some (.int x2), some (.int x3), some (.int ((1 : Int32) + x4)), some (.int x5), some (.int x6), none] [.ref v0] rfl ?_
              refine fs_gs T 132 12 0 v0 rfl rfl rfl rfl h0 ?_
              refine fs_r T 3 136 [some (.ref v0), some (.int x1), some (.int x2), some (.int x3), some (.int ((1 : Int32) + x4)), some (.int x5), some (.int x6), none] [.int (x6 - (1 : Int32)), .ref (H.2.1 v0 0)] rfl ?_
              refine fs_sIh T 139 rfl rfl ml_L_182 rfl rfl rfl rfl rfl (q_L_draftNode (d := d + 11) hE (hE.1 _ 12 0 h0)) ?_
              intro x9 m9
              refine fs_r T 1 140 [some (.ref v0), some (.int x1), some (.int x2), some (.int x3), some (.int ((1 : Int32) + x4)), some (.int x5), some (.int x6), none] [.int x3, .int x9] rfl ?_
              refine fs_ic_ne T 156 143 rfl rfl rfl (fun _ => ?_) (fun _ => ?_)
              · refine fs_r T 1 144 [some (.ref v0), some (.int x1), some (.int x2), some (.int x3), some (.int ((1 : Int32) + x4)), some (.int x5), some (.int x6), none] [.ref v0] rfl ?_
                refine fs_gs T 147 12 0 v0 rfl rfl rfl rfl h0 ?_
                refine fs_r T 1 149 [some (.ref v0), some (.int x1), some (.int x2), some (.int x3), some (.int ((1 : Int32) + x4)), some (.int x5), some (.int x6), none] [.int x6, .ref (H.2.1 v0 0)] rfl ?_
                refine fs_sIh T 152 rfl rfl ml_L_182 rfl rfl rfl rfl rfl (q_L_draftNode (d := d + 11) hE (hE.1 _ 12 0 h0)) ?_
                intro x10 m10
                refine fs_r T 1 153 [some (.ref v0), some (.int x1), some (.int x2), some (.int x3), some (.int ((1 : Int32) + x4)), some (.int x5), some (.int x6), none] [.int (-1 : Int32), .int x10] rfl ?_
                refine fs_ic_eq T 158 156 rfl rfl rfl (fun _ => ?_) (fun _ => ?_)
                · refine fs_r T 1 159 [some (.ref v0), some (.int x1), some (.int x2), some (.int x3), some (.int ((1 : Int32) + x4)), some (.int x5), some (.int x6), none] [.ref v0] rfl ?_
                  refine fs_gs T 162 12 0 v0 rfl rfl rfl rfl h0 ?_
                  refine fs_r T 3 167 [some (.ref v0), some (.int x1), some (.int x2), some (.int x3), some (.int ((1 : Int32) + x4)), some (.int x5), some (.int x6), none] [.int (10 : Int32), .ref v0, .int ((1 : Int32) + x4), .ref (H.2.1 v0 0)] rfl ?_
                  refine fs_vI T 170 rfl rfl rfl rfl rfl rfl h0 (q_L_draw (d := d + 12) hE h0) ?_
                  intro x11 m11
                  refine fs_sIh T 173 rfl rfl ml_L_184 rfl rfl rfl rfl rfl (q_L_open (d := d + 7) hE (hE.1 _ 12 0 h0)) ?_
                  intro x12 m12
                  refine fs_r T 2 177 [some (.ref v0), some (.int x1), some (.int x2), some (.int x3), some (.int ((1 : Int32) + x4)), some (.int x5), some (.int x6), some (.int x12)] [.int x12] rfl ?_
                  refine fs_if_ne T 241 180 rfl rfl rfl (fun _ => ?_) (fun _ => ?_)
                  · refine fs_r T 1 181 [some (.ref v0), some (.int x1), some (.int x2), some (.int x3), some (.int ((1 : Int32) + x4)), some (.int x5), some (.int x6), some (.int x12)] [.ref v0] rfl ?_
                    refine fs_gs T 184 12 0 v0 rfl rfl rfl rfl h0 ?_
                    refine fs_r T 1 185 [some (.ref v0), some (.int x1), some (.int x2), some (.int x3), some (.int ((1 : Int32) + x4)), some (.int x5), some (.int x6), some (.int x12)] [.int (4 : Int32), .ref (H.2.1 v0 0)] rfl ?_
                    refine fs_sIh T 188 rfl rfl ml_L_145 rfl rfl rfl rfl rfl (q_L_count (d := d + 9) hE (hE.1 _ 12 0 h0)) ?_
                    intro x13 m13
                    refine fs_r T 3 192 [some (.ref v0), some (.int x1), some (.int x2), some (.int x3), some (.int ((1 : Int32) + x4)), some (.int x5), some (.int x6), some (.int x12)] [.int (x5 + (1 : Int32)), .int x13] rfl ?_
                    refine fs_ic_ne T 239 195 rfl rfl rfl (fun _ => ?_) (fun _ => ?_)
                    · refine fs_r T 1 196 [some (.ref v0), some (.int x1), some (.int x2), some (.int x3), some (.int ((1 : Int32) + x4)), some (.int x5), some (.int x6), some (.int x12)] [.ref v0] rfl ?_
                      refine fs_gs T 199 12 0 v0 rfl rfl rfl rfl h0 ?_
                      refine fs_r T 1 201 [some (.ref v0), some (.int x1), some (.int x2), some (.int x3), some (.int ((1 : Int32) + x4)), some (.int x5), some (.int x6), some (.int x12)] [.int (16 : Int32), .ref (H.2.1 v0 0)] rfl ?_
                      refine fs_sIh T 204 rfl rfl ml_L_145 rfl rfl rfl rfl rfl (q_L_count (d := d + 9) hE (hE.1 _ 12 0 h0)) ?_
                      intro x14 m14
                      refine fs_if_ne T 239 207 rfl rfl rfl (fun _ => ?_) (fun _ => ?_)
                      · refine fs_r T 1 208 [some (.ref v0), some (.int x1), some (.int x2), some (.int x3), some (.int ((1 : Int32) + x4)), some (.int x5), some (.int x6), some (.int x12)] [.ref v0] rfl ?_
                        refine fs_gs T 211 12 0 v0 rfl rfl rfl rfl h0 ?_
                        refine fs_r T 2 214 [some (.ref v0), some (.int x1), some (.int x2), some (.int x3), some (.int ((1 : Int32) + x4)), some (.int x5), some (.int x6), some (.int x12)] [.int (2 : Int32), .int x5, .ref (H.2.1 v0 0)] rfl ?_
                        refine fs_sIh T 217 rfl rfl ml_L_161 rfl rfl rfl rfl rfl (q_L_circuit (d := d + 9) hE (hE.1 _ 12 0 h0)) ?_
                        intro x15 m15
                        refine fs_r T 1 219 [some (.ref v0), some (.int x1), some (.int x2), some (.int x3), some (.int ((1 : Int32) + x4)), some (.int x5), some (.int x6), some (.int x12)] [.int ((1 : Int32) + x4), .int x15] rfl ?_
                        refine fs_ic_ne T 239 222 rfl rfl rfl (fun _ => ?_) (fun _ => ?_)
                        · refine fs_r T 1 223 [some (.ref v0), some (.int x1), some (.int x2), some (.int x3), some (.int ((1 : Int32) + x4)), some (.int x5), some (.int x6), some (.int x12)] [.ref v0] rfl ?_
                          refine fs_gs T 226 12 0 v0 rfl rfl rfl rfl h0 ?_
                          refine fs_r T 2 229 [some (.ref v0), some (.int x1), some (.int x2), some (.int x3), some (.int ((1 : Int32) + x4)), some (.int x5), some (.int x6), some (.int x12)] [.int (4 : Int32), .int x5, .ref (H.2.1 v0 0)] rfl ?_
                          refine fs_sIh T 232 rfl rfl ml_L_161 rfl rfl rfl rfl rfl (q_L_circuit (d := d + 9) hE (hE.1 _ 12 0 h0)) ?_
                          intro x16 m16
                          refine fs_if_ne T 239 235 rfl rfl rfl (fun _ => ?_) (fun _ => ?_)
                          · refine fs_r T 2 240 [some (.ref v0), some (.int x1), some (.int x2), some (.int x3), some (.int ((1 : Int32) + x4)), some (.int x5), some (.int x6), some (.int x12)] [.int (1 : Int32)] rfl ?_
                            exact fs_retc T rfl rfl rfl rfl
                          · refine fs_r T 1 240 [some (.ref v0), some (.int x1), some (.int x2), some (.int x3), some (.int ((1 : Int32) + x4)), some (.int x5), some (.int x6), some (.int x12)] [.int (0 : Int32)] rfl ?_
                            exact fs_retc T rfl rfl rfl rfl
                        · refine fs_r T 1 240 [some (.ref v0), some (.int x1), some (.int x2), some (.int x3), some (.int ((1 : Int32) + x4)), some (.int x5), some (.int x6), some (.int x12)] [.int (0 : Int32)] rfl ?_
                          exact fs_retc T rfl rfl rfl rfl
                      · refine fs_r T 1 240 [some (.ref v0), some (.int x1), some (.int x2), some (.int x3), some (.int ((1 : Int32) + x4)), some (.int x5), some (.int x6), some (.int x12)] [.int (0 : Int32)] rfl ?_
                        exact fs_retc T rfl rfl rfl rfl
                    · refine fs_r T 1 240 [some (.ref v0), some (.int x1), some (.int x2), some (.int x3), some (.int ((1 : Int32) + x4)), some (.int x5), some (.int x6), some (.int x12)] [.int (0 : Int32)] rfl ?_
                      exact fs_retc T rfl rfl rfl rfl
                  · refine fs_r T 2 244 [some (.ref v0), some (.int x1), some (.int x2), some (.int x3), some (.int ((1 : Int32) + x4)), some (.int x5), some (.int x6), some (.int x12)] [.int (1 : Int32), .int x12] rfl ?_
                    refine fs_ic_ne T 254 247 rfl rfl rfl (fun _ => ?_) (fun _ => ?_)
                    · refine fs_r T 2 251 [some (.ref v0), some (.int x1), some (.int x2), some (.int x3), some (.int ((1 : Int32) + x4)), some (.int x5), some (.int x6), some (.int x12)] [.int (8 : Int32), .int x5] rfl ?_
                      refine fs_ic_eq T 261 254 rfl rfl rfl (fun _ => ?_) (fun _ => ?_)
                      · refine fs_wk (ls' := [some (.ref v0), none, none, none, none, some (.int x5), some (.int x6), none]) ⟨rfl, rfl, rfl, trivial⟩ ?_
                        exact w_L_opens_261 hE h0 _
                      · refine fs_r T 2 258 [some (.ref v0), some (.int x1), some (.int x2), some (.int x3), some (.int ((1 : Int32) + x4)), some (.int x5), some (.int x6), some (.int x12)] [.int (6 : Int32), .int x12] rfl ?_
                        refine fs_ic_ne T 292 261 rfl rfl rfl (fun _ => ?_) (fun _ => ?_)
                        · refine fs_wk (ls' := [some (.ref v0), none, none, none, none, some (.int x5), some (.int x6), none]) ⟨rfl, rfl, rfl, trivial⟩ ?_
                          exact w_L_opens_261 hE h0 _
                        · refine fs_r T 1 293 [some (.ref v0), some (.int x1), some (.int x2), some (.int x3), some (.int ((1 : Int32) + x4)), some (.int x5), some (.int x6), some (.int x12)] [.int (0 : Int32)] rfl ?_
                          exact fs_retc T rfl rfl rfl rfl
                    · refine fs_r T 2 258 [some (.ref v0), some (.int x1), some (.int x2), some (.int x3), some (.int ((1 : Int32) + x4)), some (.int x5), some (.int x6), some (.int x12)] [.int (6 : Int32), .int x12] rfl ?_
                      refine fs_ic_ne T 292 261 rfl rfl rfl (fun _ => ?_) (fun _ => ?_)
                      · refine fs_wk (ls' := [some (.ref v0), none, none, none, none, some (.int x5), some (.int x6), none]) ⟨rfl, rfl, rfl, trivial⟩ ?_
                        exact w_L_opens_261 hE h0 _
                      · refine fs_r T 1 293 [some (.ref v0), some (.int x1), some (.int x2), some (.int x3), some (.int ((1 : Int32) + x4)), some (.int x5), some (.int x6), some (.int x12)] [.int (0 : Int32)] rfl ?_
                        exact fs_retc T rfl rfl rfl rfl
                · refine fs_r T 1 157 [some (.ref v0), some (.int x1), some (.int x2), some (.int x3), some (.int ((1 : Int32) + x4)), some (.int x5), some (.int x6), none] [.int (0 : Int32)] rfl ?_
                  exact fs_retc T rfl rfl rfl rfl
              · refine fs_r T 1 157 [some (.ref v0), some (.int x1), some (.int x2), some (.int x3), some (.int ((1 : Int32) + x4)), some (.int x5), some (.int x6), none] [.int (0 : Int32)] rfl ?_
                exact fs_retc T rfl rfl rfl rfl
            · refine fs_r T 1 157 [some (.ref v0), some (.int x1), some (.int x2), some (.int x3), some (.int ((1 : Int32) + x4)), some (.int x5), some (.int x6), none] [.int (0 : Int32)] rfl ?_
              exact fs_retc T rfl rfl rfl rfl
          · refine fs_r T 1 157 [some (.ref v0), some (.int x1), some (.int x2), some (.int x3), some (.int ((1 : Int32) + x4)), some (.int x5), some (.int x6), none] [.int (0 : Int32)] rfl ?_
            exact fs_retc T rfl rfl rfl rfl
    · refine fs_r T 2 80 [some (.ref v0), some (.int x1), some (.int x2), some (.int x3), some (.int ((1 : Int32) + x4)), some (.int x5), some (.int x6), none] [.int (-1 : Int32), .int x6] rfl ?_
      refine fs_ic_ne T 87 83 rfl rfl rfl (fun _ => ?_) (fun _ => ?_)
      · refine fs_r T 2 88 [some (.ref v0), some (.int x1), some (.int x2), some (.int x3), some (.int ((1 : Int32) + x4)), some (.int x5), some (.int x6), none] [.int (1 : Int32)] rfl ?_
        exact fs_retc T rfl rfl rfl rfl
      · refine fs_r T 1 88 [some (.ref v0), some (.int x1), some (.int x2), some (.int x3), some (.int ((1 : Int32) + x4)), some (.int x5), some (.int x6), none] [.int (0 : Int32)] rfl ?_
        exact fs_retc T rfl rfl rfl rfl)
def f_L_acts_214 (H : fm_H) (v0 : Nat) (v2 : Int32) (v5 : Int32) (v6 : Int32) (v10 : Int32) (m : fm_M) : Option (Int32 × fm_M) :=
  if v10 = (1 : Int32) then
    some ((0 : Int32), m)
  else
  if v10 = (5 : Int32) then
    some ((0 : Int32), m)
  else
  if v10 ≤ (6 : Int32) then
    if v10 = 0 then
      fm_bn (f_L_circuit H (H.2.1 v0 0) v2 (4 : Int32) m) fun x3 m3 =>
      if x3 = (1 : Int32) then
        some ((1 : Int32), m3)
      else
      some ((0 : Int32), m3)
    else
    fm_bn (f_L_circuit H (H.2.1 v0 0) v2 (4 : Int32) m) fun x1 m1 =>
    if x1 = v5 then
      fm_bn (f_L_count H (H.2.1 v0 0) (12 : Int32) m1) fun x2 m2 =>
      if x2 = v6 then
        some ((1 : Int32), m2)
      else
      some ((0 : Int32), m2)
    else
    some ((0 : Int32), m1)
  else
  some ((0 : Int32), m)
set_option maxRecDepth 10000 in
theorem w_L_acts_214 {G : pm_G} {H : fm_H} {d : Nat} {z0 : Nat × Nat × Nat} {K : pm_R → fm_M → Prop} (hE : fm_E G H) {v0 : Nat} {v2 : Int32} {v5 : Int32} {v6 : Int32} {v10 : Int32} (h0 : fm_is H v0 12) : ∀ (m : fm_M), fm_o fm_rI (f_L_acts_214 H v0 v2 v5 v6 v10 m) K → fm_V G H (d + 15) RL cL_acts (some (.boolean)) (fl_z H z0) K 214 [some (.ref v0), none, some (.int v2), none, none, some (.int v5), some (.int v6), none, none, none, some (.int v10), none] [] m := by
  have T : fm_T RL cL_acts tc_L_acts fr_L mr_L cr_L lr_L := ⟨tok_L, dc_L_acts⟩
  intro m
  unfold f_L_acts_214
  refine fs_r T 2 217 [some (.ref v0), none, some (.int v2), none, none, some (.int v5), some (.int v6), none, none, none, some (.int v10), none] [.int (1 : Int32), .int v10] rfl ?_
  refine fs_ic_eq T 233 220 rfl rfl rfl (fun _ => ?_) (fun _ => ?_)
  · refine fs_r T 1 234 [some (.ref v0), none, some (.int v2), none, none, some (.int v5), some (.int v6), none, none, none, some (.int v10), none] [.int (0 : Int32)] rfl ?_
    exact fs_retc T rfl rfl rfl rfl
  · refine fs_r T 2 223 [some (.ref v0), none, some (.int v2), none, none, some (.int v5), some (.int v6), none, none, none, some (.int v10), none] [.int (5 : Int32), .int v10] rfl ?_
    refine fs_ic_eq T 233 226 rfl rfl rfl (fun _ => ?_) (fun _ => ?_)
    · refine fs_r T 1 234 [some (.ref v0), none, some (.int v2), none, none, some (.int v5), some (.int v6), none, none, none, some (.int v10), none] [.int (0 : Int32)] rfl ?_
      exact fs_retc T rfl rfl rfl rfl
    · refine fs_r T 2 230 [some (.ref v0), none, some (.int v2), none, none, some (.int v5), some (.int v6), none, none, none, some (.int v10), none] [.int (6 : Int32), .int v10] rfl ?_
      refine fs_ic_le T 235 233 rfl rfl rfl (fun _ => ?_) (fun _ => ?_)
      · refine fs_r T 1 237 [some (.ref v0), none, some (.int v2), none, none, some (.int v5), some (.int v6), none, none, none, some (.int v10), none] [.int v10] rfl ?_
        refine fs_if_ne T 261 240 rfl rfl rfl (fun _ => ?_) (fun _ => ?_)
        · refine fs_r T 1 241 [some (.ref v0), none, some (.int v2), none, none, some (.int v5), some (.int v6), none, none, none, some (.int v10), none] [.ref v0] rfl ?_
          refine fs_gs T 244 12 0 v0 rfl rfl rfl rfl h0 ?_
          refine fs_r T 2 246 [some (.ref v0), none, some (.int v2), none, none, some (.int v5), some (.int v6), none, none, none, some (.int v10), none] [.int (4 : Int32), .int v2, .ref (H.2.1 v0 0)] rfl ?_
          refine fs_sIh T 249 rfl rfl ml_L_161 rfl rfl rfl rfl rfl (q_L_circuit (d := d + 10) hE (hE.1 _ 12 0 h0)) ?_
          intro x3 m3
          refine fs_r T 1 250 [some (.ref v0), none, some (.int v2), none, none, some (.int v5), some (.int v6), none, none, none, some (.int v10), none] [.int (1 : Int32), .int x3] rfl ?_
          refine fs_ic_ne T 257 253 rfl rfl rfl (fun _ => ?_) (fun _ => ?_)
          · refine fs_r T 2 294 [some (.ref v0), none, some (.int v2), none, none, some (.int v5), some (.int v6), none, none, none, some (.int v10), none] [.int (1 : Int32)] rfl ?_
            exact fs_retc T rfl rfl rfl rfl
          · refine fs_r T 2 294 [some (.ref v0), none, some (.int v2), none, none, some (.int v5), some (.int v6), none, none, none, some (.int v10), none] [.int (0 : Int32)] rfl ?_
            exact fs_retc T rfl rfl rfl rfl
        · refine fs_r T 1 262 [some (.ref v0), none, some (.int v2), none, none, some (.int v5), some (.int v6), none, none, none, some (.int v10), none] [.ref v0] rfl ?_
          refine fs_gs T 265 12 0 v0 rfl rfl rfl rfl h0 ?_
          refine fs_r T 2 267 [some (.ref v0), none, some (.int v2), none, none, some (.int v5), some (.int v6), none, none, none, some (.int v10), none] [.int (4 : Int32), .int v2, .ref (H.2.1 v0 0)] rfl ?_
          refine fs_sIh T 270 rfl rfl ml_L_161 rfl rfl rfl rfl rfl (q_L_circuit (d := d + 10) hE (hE.1 _ 12 0 h0)) ?_
          intro x1 m1
          refine fs_r T 1 272 [some (.ref v0), none, some (.int v2), none, none, some (.int v5), some (.int v6), none, none, none, some (.int v10), none] [.int v5, .int x1] rfl ?_
          refine fs_ic_ne T 293 275 rfl rfl rfl (fun _ => ?_) (fun _ => ?_)
          · refine fs_r T 1 276 [some (.ref v0), none, some (.int v2), none, none, some (.int v5), some (.int v6), none, none, none, some (.int v10), none] [.ref v0] rfl ?_
            refine fs_gs T 279 12 0 v0 rfl rfl rfl rfl h0 ?_
            refine fs_r T 1 281 [some (.ref v0), none, some (.int v2), none, none, some (.int v5), some (.int v6), none, none, none, some (.int v10), none] [.int (12 : Int32), .ref (H.2.1 v0 0)] rfl ?_
            refine fs_sIh T 284 rfl rfl ml_L_145 rfl rfl rfl rfl rfl (q_L_count (d := d + 10) hE (hE.1 _ 12 0 h0)) ?_
            intro x2 m2
            refine fs_r T 1 286 [some (.ref v0), none, some (.int v2), none, none, some (.int v5), some (.int v6), none, none, none, some (.int v10), none] [.int v6, .int x2] rfl ?_
            refine fs_ic_ne T 293 289 rfl rfl rfl (fun _ => ?_) (fun _ => ?_)
            · refine fs_r T 2 294 [some (.ref v0), none, some (.int v2), none, none, some (.int v5), some (.int v6), none, none, none, some (.int v10), none] [.int (1 : Int32)] rfl ?_
              exact fs_retc T rfl rfl rfl rfl
            · refine fs_r T 1 294 [some (.ref v0), none, some (.int v2), none, none, some (.int v5), some (.int v6), none, none, none, some (.int v10), none] [.int (0 : Int32)] rfl ?_
              exact fs_retc T rfl rfl rfl rfl
          · refine fs_r T 1 294 [some (.ref v0), none, some (.int v2), none, none, some (.int v5), some (.int v6), none, none, none, some (.int v10), none] [.int (0 : Int32)] rfl ?_
            exact fs_retc T rfl rfl rfl rfl
      · refine fs_r T 1 234 [some (.ref v0), none, some (.int v2), none, none, some (.int v5), some (.int v6), none, none, none, some (.int v10), none] [.int (0 : Int32)] rfl ?_
        exact fs_retc T rfl rfl rfl rfl
def f_L_acts_380 (H : fm_H) (v0 : Nat) (v2 : Int32) (v9 : Int32) (s0 : Int32) (s1 : Int32) (s2 : Int32) (m : fm_M) : Option (Int32 × fm_M) :=
  if s2 = (s1 + s0) then
    if v9 = 0 then
      fm_bn (f_L_circuit H (H.2.1 v0 0) v2 (4 : Int32) m) fun x1 m1 =>
      if x1 = 0 then
        some ((1 : Int32), m1)
      else
      some ((0 : Int32), m1)
    else
    some ((1 : Int32), m)
  else
  some ((0 : Int32), m)
set_option maxRecDepth 10000 in
theorem w_L_acts_380 {G : pm_G} {H : fm_H} {d : Nat} {z0 : Nat × Nat × Nat} {K : pm_R → fm_M → Prop} (hE : fm_E G H) {v0 : Nat} {v2 : Int32} {v9 : Int32} (h0 : fm_is H v0 12) : ∀ (s0 : Int32) (s1 : Int32) (s2 : Int32) (m : fm_M), fm_o fm_rI (f_L_acts_380 H v0 v2 v9 s0 s1 s2 m) K → fm_V G H (d + 15) RL cL_acts (some (.boolean)) (fl_z H z0) K 380 [some (.ref v0), none, some (.int v2), none, none, none, none, none, none, some (.int v9), none, none] [.int s0, .int s1, .int s2] m := by
  have T : fm_T RL cL_acts tc_L_acts fr_L mr_L cr_L lr_L := ⟨tok_L, dc_L_acts⟩
  intro s0 s1 s2 m
  unfold f_L_acts_380
  refine fs_r T 1 381 [some (.ref v0), none, some (.int v2), none, none, none, none, none, none, some (.int v9), none, none] [.int (s1 + s0), .int s2] rfl ?_
  refine fs_ic_ne T 405 384 rfl rfl rfl (fun _ => ?_) (fun _ => ?_)
  · refine fs_r T 1 386 [some (.ref v0), none, some (.int v2), none, none, none, none, none, none, some (.int v9), none, none] [.int v9] rfl ?_
    refine fs_if_ne T 401 389 rfl rfl rfl (fun _ => ?_) (fun _ => ?_)
    · refine fs_r T 1 390 [some (.ref v0), none, some (.int v2), none, none, none, none, none, none, some (.int v9), none, none] [.ref v0] rfl ?_
      refine fs_gs T 393 12 0 v0 rfl rfl rfl rfl h0 ?_
      refine fs_r T 2 395 [some (.ref v0), none, some (.int v2), none, none, none, none, none, none, some (.int v9), none, none] [.int (4 : Int32), .int v2, .ref (H.2.1 v0 0)] rfl ?_
      refine fs_sIh T 398 rfl rfl ml_L_161 rfl rfl rfl rfl rfl (q_L_circuit (d := d + 10) hE (hE.1 _ 12 0 h0)) ?_
      intro x1 m1
      refine fs_if_ne T 405 401 rfl rfl rfl (fun _ => ?_) (fun _ => ?_)
      · refine fs_r T 2 406 [some (.ref v0), none, some (.int v2), none, none, none, none, none, none, some (.int v9), none, none] [.int (1 : Int32)] rfl ?_
        exact fs_retc T rfl rfl rfl rfl
      · refine fs_r T 1 406 [some (.ref v0), none, some (.int v2), none, none, none, none, none, none, some (.int v9), none, none] [.int (0 : Int32)] rfl ?_
        exact fs_retc T rfl rfl rfl rfl
    · refine fs_r T 2 406 [some (.ref v0), none, some (.int v2), none, none, none, none, none, none, some (.int v9), none, none] [.int (1 : Int32)] rfl ?_
      exact fs_retc T rfl rfl rfl rfl
  · refine fs_r T 1 406 [some (.ref v0), none, some (.int v2), none, none, none, none, none, none, some (.int v9), none, none] [.int (0 : Int32)] rfl ?_
    exact fs_retc T rfl rfl rfl rfl
def f_L_acts_356 (H : fm_H) (v0 : Nat) (v2 : Int32) (v7 : Int32) (v9 : Int32) (s0 : Int32) (s1 : Int32) (m : fm_M) : Option (Int32 × fm_M) :=
  if s1 = s0 then
    fm_bn (f_L_count H (H.2.1 v0 0) (15 : Int32) m) fun x1 m1 =>
    if v9 = 0 then
      f_L_acts_380 H v0 v2 v9 (1 : Int32) v7 x1 m1
    else
    f_L_acts_380 H v0 v2 v9 (0 : Int32) v7 x1 m1
  else
  some ((0 : Int32), m)
set_option maxRecDepth 10000 in
theorem w_L_acts_356 {G : pm_G} {H : fm_H} {d : Nat} {z0 : Nat × Nat × Nat} {K : pm_R → fm_M → Prop} (hE : fm_E G H) {v0 : Nat} {v2 : Int32} {v7 : Int32} {v9 : Int32} (h0 : fm_is H v0 12) : ∀ (s0 : Int32) (s1 : Int32) (m : fm_M), fm_o fm_rI (f_L_acts_356 H v0 v2 v7 v9 s0 s1 m) K → fm_V G H (d + 15) RL cL_acts (some (.boolean)) (fl_z H z0) K 356 [some (.ref v0), none, some (.int v2), none, none, none, none, some (.int v7), none, some (.int v9), none, none] [.int s0, .int s1] m := by
  have T : fm_T RL cL_acts tc_L_acts fr_L mr_L cr_L lr_L := ⟨tok_L, dc_L_acts⟩
  intro s0 s1 m
  unfold f_L_acts_356
  refine fs_ic_ne T 405 359 rfl rfl rfl (fun _ => ?_) (fun _ => ?_)
  · refine fs_r T 1 360 [some (.ref v0), none, some (.int v2), none, none, none, none, some (.int v7), none, some (.int v9), none, none] [.ref v0] rfl ?_
    refine fs_gs T 363 12 0 v0 rfl rfl rfl rfl h0 ?_
    refine fs_r T 1 365 [some (.ref v0), none, some (.int v2), none, none, none, none, some (.int v7), none, some (.int v9), none, none] [.int (15 : Int32), .ref (H.2.1 v0 0)] rfl ?_
    refine fs_sIh T 368 rfl rfl ml_L_145 rfl rfl rfl rfl rfl (q_L_count (d := d + 10) hE (hE.1 _ 12 0 h0)) ?_
    intro x1 m1
    refine fs_r T 2 372 [some (.ref v0), none, some (.int v2), none, none, none, none, some (.int v7), none, some (.int v9), none, none] [.int v9, .int v7, .int x1] rfl ?_
    refine fs_if_ne T 379 375 rfl rfl rfl (fun _ => ?_) (fun _ => ?_)
    · refine fs_r T 2 380 [some (.ref v0), none, some (.int v2), none, none, none, none, some (.int v7), none, some (.int v9), none, none] [.int (1 : Int32), .int v7, .int x1] rfl ?_
      refine fs_wk (ls' := [some (.ref v0), none, some (.int v2), none, none, none, none, none, none, some (.int v9), none, none]) ⟨rfl, rfl, rfl, trivial⟩ ?_
      exact w_L_acts_380 hE h0 _ _ _ _
    · refine fs_r T 1 380 [some (.ref v0), none, some (.int v2), none, none, none, none, some (.int v7), none, some (.int v9), none, none] [.int (0 : Int32), .int v7, .int x1] rfl ?_
      refine fs_wk (ls' := [some (.ref v0), none, some (.int v2), none, none, none, none, none, none, some (.int v9), none, none]) ⟨rfl, rfl, rfl, trivial⟩ ?_
      exact w_L_acts_380 hE h0 _ _ _ _
  · refine fs_r T 1 406 [some (.ref v0), none, some (.int v2), none, none, none, none, some (.int v7), none, some (.int v9), none, none] [.int (0 : Int32)] rfl ?_
    exact fs_retc T rfl rfl rfl rfl
def f_L_acts_462 (H : fm_H) (v0 : Nat) (v1 : Int32) (v10 : Int32) (s0 : Int32) (s1 : Int32) (m : fm_M) : Option (Int32 × fm_M) :=
  if s1 = s0 then
    fm_bn (f_L_count H (H.2.1 v0 0) (4 : Int32) m) fun x1 m1 =>
    if v10 = 0 then
      if x1 = (v1 - (1 : Int32)) then
        some ((1 : Int32), m1)
      else
      some ((0 : Int32), m1)
    else
    if x1 = (v1 - (0 : Int32)) then
      some ((1 : Int32), m1)
    else
    some ((0 : Int32), m1)
  else
  some ((0 : Int32), m)
set_option maxRecDepth 10000 in
theorem w_L_acts_462 {G : pm_G} {H : fm_H} {d : Nat} {z0 : Nat × Nat × Nat} {K : pm_R → fm_M → Prop} (hE : fm_E G H) {v0 : Nat} {v1 : Int32} {v10 : Int32} (h0 : fm_is H v0 12) : ∀ (s0 : Int32) (s1 : Int32) (m : fm_M), fm_o fm_rI (f_L_acts_462 H v0 v1 v10 s0 s1 m) K → fm_V G H (d + 15) RL cL_acts (some (.boolean)) (fl_z H z0) K 462 [some (.ref v0), some (.int v1), none, none, none, none, none, none, none, none, some (.int v10), none] [.int s0, .int s1] m := by
  have T : fm_T RL cL_acts tc_L_acts fr_L mr_L cr_L lr_L := ⟨tok_L, dc_L_acts⟩
  intro s0 s1 m
  unfold f_L_acts_462
  refine fs_ic_ne T 492 465 rfl rfl rfl (fun _ => ?_) (fun _ => ?_)
  · refine fs_r T 1 466 [some (.ref v0), some (.int v1), none, none, none, none, none, none, none, none, some (.int v10), none] [.ref v0] rfl ?_
    refine fs_gs T 469 12 0 v0 rfl rfl rfl rfl h0 ?_
    refine fs_r T 1 470 [some (.ref v0), some (.int v1), none, none, none, none, none, none, none, none, some (.int v10), none] [.int (4 : Int32), .ref (H.2.1 v0 0)] rfl ?_
    refine fs_sIh T 473 rfl rfl ml_L_145 rfl rfl rfl rfl rfl (q_L_count (d := d + 10) hE (hE.1 _ 12 0 h0)) ?_
    intro x1 m1
    refine fs_r T 2 476 [some (.ref v0), some (.int v1), none, none, none, none, none, none, none, none, some (.int v10), none] [.int v10, .int v1, .int x1] rfl ?_
    refine fs_if_ne T 483 479 rfl rfl rfl (fun _ => ?_) (fun _ => ?_)
    · refine fs_r T 3 485 [some (.ref v0), some (.int v1), none, none, none, none, none, none, none, none, some (.int v10), none] [.int (v1 - (1 : Int32)), .int x1] rfl ?_
      refine fs_ic_ne T 492 488 rfl rfl rfl (fun _ => ?_) (fun _ => ?_)
      · refine fs_r T 2 493 [some (.ref v0), some (.int v1), none, none, none, none, none, none, none, none, some (.int v10), none] [.int (1 : Int32)] rfl ?_
        exact fs_retc T rfl rfl rfl rfl
      · refine fs_r T 1 493 [some (.ref v0), some (.int v1), none, none, none, none, none, none, none, none, some (.int v10), none] [.int (0 : Int32)] rfl ?_
        exact fs_retc T rfl rfl rfl rfl
    · refine fs_r T 2 485 [some (.ref v0), some (.int v1), none, none, none, none, none, none, none, none, some (.int v10), none] [.int (v1 - (0 : Int32)), .int x1] rfl ?_
      refine fs_ic_ne T 492 488 rfl rfl rfl (fun _ => ?_) (fun _ => ?_)
      · refine fs_r T 2 493 [some (.ref v0), some (.int v1), none, none, none, none, none, none, none, none, some (.int v10), none] [.int (1 : Int32)] rfl ?_
        exact fs_retc T rfl rfl rfl rfl
      · refine fs_r T 1 493 [some (.ref v0), some (.int v1), none, none, none, none, none, none, none, none, some (.int v10), none] [.int (0 : Int32)] rfl ?_
        exact fs_retc T rfl rfl rfl rfl
  · refine fs_r T 1 493 [some (.ref v0), some (.int v1), none, none, none, none, none, none, none, none, some (.int v10), none] [.int (0 : Int32)] rfl ?_
    exact fs_retc T rfl rfl rfl rfl
def f_L_acts_574 (H : fm_H) (v0 : Nat) (v9 : Int32) (v10 : Int32) (v11 : Int32) (s0 : Int32) (s1 : Int32) (m : fm_M) : Option (Int32 × fm_M) :=
  if s1 = s0 then
    fm_bn (f_L_count H (H.2.1 v0 0) (9 : Int32) m) fun x1 m1 =>
    if v11 = 0 then
      if x1 = (v9 + v10) then
        some ((1 : Int32), m1)
      else
      some ((0 : Int32), m1)
    else
    if x1 = (v9 + (0 : Int32)) then
      some ((1 : Int32), m1)
    else
    some ((0 : Int32), m1)
  else
  some ((0 : Int32), m)
set_option maxRecDepth 10000 in
theorem w_L_acts_574 {G : pm_G} {H : fm_H} {d : Nat} {z0 : Nat × Nat × Nat} {K : pm_R → fm_M → Prop} (hE : fm_E G H) {v0 : Nat} {v9 : Int32} {v10 : Int32} {v11 : Int32} (h0 : fm_is H v0 12) : ∀ (s0 : Int32) (s1 : Int32) (m : fm_M), fm_o fm_rI (f_L_acts_574 H v0 v9 v10 v11 s0 s1 m) K → fm_V G H (d + 15) RL cL_acts (some (.boolean)) (fl_z H z0) K 574 [some (.ref v0), none, none, none, none, none, none, none, none, some (.int v9), some (.int v10), some (.int v11)] [.int s0, .int s1] m := by
  have T : fm_T RL cL_acts tc_L_acts fr_L mr_L cr_L lr_L := ⟨tok_L, dc_L_acts⟩
  intro s0 s1 m
  unfold f_L_acts_574
  refine fs_ic_ne T 607 577 rfl rfl rfl (fun _ => ?_) (fun _ => ?_)
  · refine fs_r T 1 578 [some (.ref v0), none, none, none, none, none, none, none, none, some (.int v9), some (.int v10), some (.int v11)] [.ref v0] rfl ?_
    refine fs_gs T 581 12 0 v0 rfl rfl rfl rfl h0 ?_
    refine fs_r T 1 583 [some (.ref v0), none, none, none, none, none, none, none, none, some (.int v9), some (.int v10), some (.int v11)] [.int (9 : Int32), .ref (H.2.1 v0 0)] rfl ?_
    refine fs_sIh T 586 rfl rfl ml_L_145 rfl rfl rfl rfl rfl (q_L_count (d := d + 10) hE (hE.1 _ 12 0 h0)) ?_
    intro x1 m1
    refine fs_r T 2 590 [some (.ref v0), none, none, none, none, none, none, none, none, some (.int v9), some (.int v10), some (.int v11)] [.int v11, .int v9, .int x1] rfl ?_
    refine fs_if_eq T 597 593 rfl rfl rfl (fun _ => ?_) (fun _ => ?_)
    · refine fs_r T 2 600 [some (.ref v0), none, none, none, none, none, none, none, none, some (.int v9), some (.int v10), some (.int v11)] [.int (v9 + v10), .int x1] rfl ?_
      refine fs_ic_ne T 607 603 rfl rfl rfl (fun _ => ?_) (fun _ => ?_)
      · refine fs_r T 2 608 [some (.ref v0), none, none, none, none, none, none, none, none, some (.int v9), some (.int v10), some (.int v11)] [.int (1 : Int32)] rfl ?_
        exact fs_retc T rfl rfl rfl rfl
      · refine fs_r T 1 608 [some (.ref v0), none, none, none, none, none, none, none, none, some (.int v9), some (.int v10), some (.int v11)] [.int (0 : Int32)] rfl ?_
        exact fs_retc T rfl rfl rfl rfl
    · refine fs_r T 3 600 [some (.ref v0), none, none, none, none, none, none, none, none, some (.int v9), some (.int v10), some (.int v11)] [.int (v9 + (0 : Int32)), .int x1] rfl ?_
      refine fs_ic_ne T 607 603 rfl rfl rfl (fun _ => ?_) (fun _ => ?_)
      · refine fs_r T 2 608 [some (.ref v0), none, none, none, none, none, none, none, none, some (.int v9), some (.int v10), some (.int v11)] [.int (1 : Int32)] rfl ?_
        exact fs_retc T rfl rfl rfl rfl
      · refine fs_r T 1 608 [some (.ref v0), none, none, none, none, none, none, none, none, some (.int v9), some (.int v10), some (.int v11)] [.int (0 : Int32)] rfl ?_
        exact fs_retc T rfl rfl rfl rfl
  · refine fs_r T 1 608 [some (.ref v0), none, none, none, none, none, none, none, none, some (.int v9), some (.int v10), some (.int v11)] [.int (0 : Int32)] rfl ?_
    exact fs_retc T rfl rfl rfl rfl
def f_L_acts_538 (H : fm_H) (v0 : Nat) (v4 : Int32) (v9 : Int32) (v10 : Int32) (s0 : Int32) (m : fm_M) : Option (Int32 × fm_M) :=
  fm_bn (f_L_setUp H (H.2.1 v0 0) v4 s0 m) fun x1 m1 =>
  if x1 < 0 then
    some ((0 : Int32), m1)
  else
  fm_bn (f_L_link H (H.2.1 v0 0) v4 (4 : Int32) m1) fun x2 m2 =>
  if s0 = 0 then
    f_L_acts_574 H v0 v9 v10 s0 (0 : Int32) x2 m2
  else
  f_L_acts_574 H v0 v9 v10 s0 (1 : Int32) x2 m2
set_option maxRecDepth 10000 in
theorem w_L_acts_538 {G : pm_G} {H : fm_H} {d : Nat} {z0 : Nat × Nat × Nat} {K : pm_R → fm_M → Prop} (hE : fm_E G H) {v0 : Nat} {v4 : Int32} {v9 : Int32} {v10 : Int32} (h0 : fm_is H v0 12) : ∀ (s0 : Int32) (m : fm_M), fm_o fm_rI (f_L_acts_538 H v0 v4 v9 v10 s0 m) K → fm_V G H (d + 15) RL cL_acts (some (.boolean)) (fl_z H z0) K 538 [some (.ref v0), none, none, none, some (.int v4), none, none, none, none, some (.int v9), some (.int v10), none] [.int s0] m := by
  have T : fm_T RL cL_acts tc_L_acts fr_L mr_L cr_L lr_L := ⟨tok_L, dc_L_acts⟩
  intro s0 m
  unfold f_L_acts_538
  refine fs_r T 2 541 [some (.ref v0), none, none, none, some (.int v4), none, none, none, none, some (.int v9), some (.int v10), some (.int s0)] [.ref v0] rfl ?_
  refine fs_gs T 544 12 0 v0 rfl rfl rfl rfl h0 ?_
  refine fs_r T 2 548 [some (.ref v0), none, none, none, some (.int v4), none, none, none, none, some (.int v9), some (.int v10), some (.int s0)] [.int s0, .int v4, .ref (H.2.1 v0 0)] rfl ?_
  refine fs_sIh T 551 rfl rfl ml_L_196 rfl rfl rfl rfl rfl (q_L_setUp (d := d + 10) hE (hE.1 _ 12 0 h0)) ?_
  intro x1 m1
  refine fs_if_lt T 607 554 rfl rfl rfl (fun _ => ?_) (fun _ => ?_)
  · refine fs_r T 1 608 [some (.ref v0), none, none, none, some (.int v4), none, none, none, none, some (.int v9), some (.int v10), some (.int s0)] [.int (0 : Int32)] rfl ?_
    exact fs_retc T rfl rfl rfl rfl
  · refine fs_r T 1 555 [some (.ref v0), none, none, none, some (.int v4), none, none, none, none, some (.int v9), some (.int v10), some (.int s0)] [.ref v0] rfl ?_
    refine fs_gs T 558 12 0 v0 rfl rfl rfl rfl h0 ?_
    refine fs_r T 2 561 [some (.ref v0), none, none, none, some (.int v4), none, none, none, none, some (.int v9), some (.int v10), some (.int s0)] [.int (4 : Int32), .int v4, .ref (H.2.1 v0 0)] rfl ?_
    refine fs_sIh T 564 rfl rfl ml_L_174 rfl rfl rfl rfl rfl (q_L_link (d := d + 11) hE (hE.1 _ 12 0 h0)) ?_
    intro x2 m2
    refine fs_r T 1 566 [some (.ref v0), none, none, none, some (.int v4), none, none, none, none, some (.int v9), some (.int v10), some (.int s0)] [.int s0, .int x2] rfl ?_
    refine fs_if_eq T 573 569 rfl rfl rfl (fun _ => ?_) (fun _ => ?_)
    · refine fs_r T 1 574 [some (.ref v0), none, none, none, some (.int v4), none, none, none, none, some (.int v9), some (.int v10), some (.int s0)] [.int (0 : Int32), .int x2] rfl ?_
      refine fs_wk (ls' := [some (.ref v0), none, none, none, none, none, none, none, none, some (.int v9), some (.int v10), some (.int s0)]) ⟨rfl, rfl, rfl, rfl, trivial⟩ ?_
      exact w_L_acts_574 hE h0 _ _ _
    · refine fs_r T 2 574 [some (.ref v0), none, none, none, some (.int v4), none, none, none, none, some (.int v9), some (.int v10), some (.int s0)] [.int (1 : Int32), .int x2] rfl ?_
      refine fs_wk (ls' := [some (.ref v0), none, none, none, none, none, none, none, none, some (.int v9), some (.int v10), some (.int s0)]) ⟨rfl, rfl, rfl, rfl, trivial⟩ ?_
      exact w_L_acts_574 hE h0 _ _ _
def f_L_acts_140 (H : fm_H) (v0 : Nat) (v1 : Int32) (v2 : Int32) (v4 : Int32) (v5 : Int32) (v6 : Int32) (v7 : Int32) (s0 : Int32) (s1 : Nat) (m : fm_M) : Option (Int32 × fm_M) :=
  fm_bn (f_L_draw H s1 s0 m) fun x1 m1 =>
  fm_sw x1 0 [  fm_bn (f_L_canMove H (H.2.1 v0 0) v2 v4 m1) fun x2 m2 =>
    fm_bn (f_L_moveBest H (H.2.1 v0 0) v2 v4 m2) fun x3 m3 =>
    if x3 = x2 then
      if v5 ≤ 0 then
        f_L_acts_214 H v0 v2 v5 v6 x3 m3
      else
      if x3 = (2 : Int32) then
        f_L_acts_214 H v0 v2 v5 v6 x3 m3
      else
      some ((0 : Int32), m3)
    else
    some ((0 : Int32), m3),
    fm_bn (f_L_draw H v0 (9 : Int32) m1) fun x4 m4 =>
    fm_bn (f_L_offer H (H.2.1 v0 0) v2 ((1 : Int32) + x4) m4) fun x5 m5 =>
    if (9 : Int32) < x5 then
      some ((0 : Int32), m5)
    else
    some ((1 : Int32), m5),
    fm_bn (f_L_draw H v0 (3 : Int32) m1) fun x6 m6 =>
    if x6 ≤ 0 then
      fm_bn (f_L_abort H (H.2.1 v0 0) v2 m6) fun x7 m7 =>
      if v5 = (1 : Int32) then
        f_L_acts_356 H v0 v2 v7 x7 (0 : Int32) x7 m7
      else
      f_L_acts_356 H v0 v2 v7 x7 (7 : Int32) x7 m7
    else
    some ((1 : Int32), m6),
    fm_bn (f_L_circuit H (H.2.1 v0 0) v2 (13 : Int32) m1) fun x8 m8 =>
    fm_bn (f_L_circuit H (H.2.1 v0 0) v2 (6 : Int32) m8) fun x9 m9 =>
    fm_bn (f_L_close H (H.2.1 v0 0) v2 m9) fun x10 m10 =>
    if v5 ≤ 0 then
      if (x8 + x9) ≤ 0 then
        f_L_acts_462 H v0 v1 x10 (0 : Int32) x10 m10
      else
      f_L_acts_462 H v0 v1 x10 (8 : Int32) x10 m10
    else
    f_L_acts_462 H v0 v1 x10 (2 : Int32) x10 m10]
    (if 0 ≤ v4 then
      fm_bn (f_L_count H (H.2.1 v0 0) (9 : Int32) m1) fun x11 m11 =>
      fm_bn (f_L_link H (H.2.1 v0 0) v4 (6 : Int32) m11) fun x12 m12 =>
      fm_bn (f_L_draw H v0 (3 : Int32) m12) fun x13 m13 =>
      if x13 ≤ 0 then
        f_L_acts_538 H v0 v4 x11 x12 (0 : Int32) m13
      else
      f_L_acts_538 H v0 v4 x11 x12 (1 : Int32) m13
    else
    some ((1 : Int32), m1))
set_option maxRecDepth 10000 in
theorem w_L_acts_140 {G : pm_G} {H : fm_H} {d : Nat} {z0 : Nat × Nat × Nat} {K : pm_R → fm_M → Prop} (hE : fm_E G H) {v0 : Nat} {v1 : Int32} {v2 : Int32} {v4 : Int32} {v5 : Int32} {v6 : Int32} {v7 : Int32} (h0 : fm_is H v0 12) : ∀ (s0 : Int32) (s1 : Nat) (m : fm_M), fm_is H s1 12 → fm_o fm_rI (f_L_acts_140 H v0 v1 v2 v4 v5 v6 v7 s0 s1 m) K → fm_V G H (d + 15) RL cL_acts (some (.boolean)) (fl_z H z0) K 140 [some (.ref v0), some (.int v1), some (.int v2), none, some (.int v4), some (.int v5), some (.int v6), some (.int v7), none, none, none, none] [.int s0, .ref s1] m := by
  have T : fm_T RL cL_acts tc_L_acts fr_L mr_L cr_L lr_L := ⟨tok_L, dc_L_acts⟩
  intro s0 s1 m hs1
  unfold f_L_acts_140
  refine fs_vI T 143 rfl rfl rfl rfl rfl rfl hs1 (q_L_draw (d := d + 13) hE hs1) ?_
  intro x1 m1
  refine fs_tsw T (dflt := 351) (lo := 0) (hi := 3) (offs := #[29, 152, 179, 264]) (t := 494) rfl rfl rfl rfl ⟨⟨172, rfl, ?_⟩, ⟨295, rfl, ?_⟩, ⟨322, rfl, ?_⟩, ⟨407, rfl, ?_⟩, trivial⟩ ?_
  · refine fs_r T 1 173 [some (.ref v0), some (.int v1), some (.int v2), none, some (.int v4), some (.int v5), some (.int v6), some (.int v7), none, none, none, none] [.ref v0] rfl ?_
    refine fs_gs T 176 12 0 v0 rfl rfl rfl rfl h0 ?_
    refine fs_r T 2 179 [some (.ref v0), some (.int v1), some (.int v2), none, some (.int v4), some (.int v5), some (.int v6), some (.int v7), none, none, none, none] [.int v4, .int v2, .ref (H.2.1 v0 0)] rfl ?_
    refine fs_sIh T 182 rfl rfl ml_L_188 rfl rfl rfl rfl rfl (q_L_canMove (d := d) hE (hE.1 _ 12 0 h0)) ?_
    intro x2 m2
    refine fs_r T 2 185 [some (.ref v0), some (.int v1), some (.int v2), none, some (.int v4), some (.int v5), some (.int v6), some (.int v7), none, some (.int x2), none, none] [.ref v0] rfl ?_
    refine fs_gs T 188 12 0 v0 rfl rfl rfl rfl h0 ?_
    refine fs_r T 2 191 [some (.ref v0), some (.int v1), some (.int v2), none, some (.int v4), some (.int v5), some (.int v6), some (.int v7), none, some (.int x2), none, none] [.int v4, .int v2, .ref (H.2.1 v0 0)] rfl ?_
    refine fs_sIh T 194 rfl rfl ml_L_190 rfl rfl rfl rfl rfl (q_L_moveBest (d := d) hE (hE.1 _ 12 0 h0)) ?_
    intro x3 m3
    refine fs_r T 3 200 [some (.ref v0), some (.int v1), some (.int v2), none, some (.int v4), some (.int v5), some (.int v6), some (.int v7), none, some (.int x2), some (.int x3), none] [.int x2, .int x3] rfl ?_
    refine fs_ic_ne T 233 203 rfl rfl rfl (fun _ => ?_) (fun _ => ?_)
    · refine fs_r T 1 205 [some (.ref v0), some (.int v1), some (.int v2), none, some (.int v4), some (.int v5), some (.int v6), some (.int v7), none, some (.int x2), some (.int x3), none] [.int v5] rfl ?_
      refine fs_if_le T 214 208 rfl rfl rfl (fun _ => ?_) (fun _ => ?_)
      · refine fs_wk (ls' := [some (.ref v0), none, some (.int v2), none, none, some (.int v5), some (.int v6), none, none, none, some (.int x3), none]) ⟨rfl, rfl, rfl, rfl, rfl, trivial⟩ ?_
        exact w_L_acts_214 hE h0 _
      · refine fs_r T 2 211 [some (.ref v0), some (.int v1), some (.int v2), none, some (.int v4), some (.int v5), some (.int v6), some (.int v7), none, some (.int x2), some (.int x3), none] [.int (2 : Int32), .int x3] rfl ?_
        refine fs_ic_ne T 233 214 rfl rfl rfl (fun _ => ?_) (fun _ => ?_)
        · refine fs_wk (ls' := [some (.ref v0), none, some (.int v2), none, none, some (.int v5), some (.int v6), none, none, none, some (.int x3), none]) ⟨rfl, rfl, rfl, rfl, rfl, trivial⟩ ?_
          exact w_L_acts_214 hE h0 _
        · refine fs_r T 1 234 [some (.ref v0), some (.int v1), some (.int v2), none, some (.int v4), some (.int v5), some (.int v6), some (.int v7), none, some (.int x2), some (.int x3), none] [.int (0 : Int32)] rfl ?_
          exact fs_retc T rfl rfl rfl rfl
    · refine fs_r T 1 234 [some (.ref v0), some (.int v1), some (.int v2), none, some (.int v4), some (.int v5), some (.int v6), some (.int v7), none, some (.int x2), some (.int x3), none] [.int (0 : Int32)] rfl ?_
      exact fs_retc T rfl rfl rfl rfl
  · refine fs_r T 1 296 [some (.ref v0), some (.int v1), some (.int v2), none, some (.int v4), some (.int v5), some (.int v6), some (.int v7), none, none, none, none] [.ref v0] rfl ?_
    refine fs_gs T 299 12 0 v0 rfl rfl rfl rfl h0 ?_
    refine fs_r T 4 304 [some (.ref v0), some (.int v1), some (.int v2), none, some (.int v4), some (.int v5), some (.int v6), some (.int v7), none, none, none, none] [.int (9 : Int32), .ref v0, .int (1 : Int32), .int v2, .ref (H.2.1 v0 0)] rfl ?_
    refine fs_vI T 307 rfl rfl rfl rfl rfl rfl h0 (q_L_draw (d := d + 13) hE h0) ?_
    intro x4 m4
    refine fs_r T 1 308 [some (.ref v0), some (.int v1), some (.int v2), none, some (.int v4), some (.int v5), some (.int v6), some (.int v7), none, none, none, none] [.int ((1 : Int32) + x4), .int v2, .ref (H.2.1 v0 0)] rfl ?_
    refine fs_sIh T 311 rfl rfl ml_L_192 rfl rfl rfl rfl rfl (q_L_offer (d := d + 11) hE (hE.1 _ 12 0 h0)) ?_
    intro x5 m5
    refine fs_r T 1 313 [some (.ref v0), some (.int v1), some (.int v2), none, some (.int v4), some (.int v5), some (.int v6), some (.int v7), none, none, none, none] [.int (9 : Int32), .int x5] rfl ?_
    refine fs_ic_gt T 320 316 rfl rfl rfl (fun _ => ?_) (fun _ => ?_)
    · refine fs_r T 1 321 [some (.ref v0), some (.int v1), some (.int v2), none, some (.int v4), some (.int v5), some (.int v6), some (.int v7), none, none, none, none] [.int (0 : Int32)] rfl ?_
      exact fs_retc T rfl rfl rfl rfl
    · refine fs_r T 2 321 [some (.ref v0), some (.int v1), some (.int v2), none, some (.int v4), some (.int v5), some (.int v6), some (.int v7), none, none, none, none] [.int (1 : Int32)] rfl ?_
      exact fs_retc T rfl rfl rfl rfl
  · refine fs_r T 2 324 [some (.ref v0), some (.int v1), some (.int v2), none, some (.int v4), some (.int v5), some (.int v6), some (.int v7), none, none, none, none] [.int (3 : Int32), .ref v0] rfl ?_
    refine fs_vI T 327 rfl rfl rfl rfl rfl rfl h0 (q_L_draw (d := d + 13) hE h0) ?_
    intro x6 m6
    refine fs_if_le T 332 330 rfl rfl rfl (fun _ => ?_) (fun _ => ?_)
    · refine fs_r T 1 333 [some (.ref v0), some (.int v1), some (.int v2), none, some (.int v4), some (.int v5), some (.int v6), some (.int v7), none, none, none, none] [.ref v0] rfl ?_
      refine fs_gs T 336 12 0 v0 rfl rfl rfl rfl h0 ?_
      refine fs_r T 1 337 [some (.ref v0), some (.int v1), some (.int v2), none, some (.int v4), some (.int v5), some (.int v6), some (.int v7), none, none, none, none] [.int v2, .ref (H.2.1 v0 0)] rfl ?_
      refine fs_sIh T 340 rfl rfl ml_L_186 rfl rfl rfl rfl rfl (q_L_abort (d := d + 9) hE (hE.1 _ 12 0 h0)) ?_
      intro x7 m7
      refine fs_r T 4 347 [some (.ref v0), some (.int v1), some (.int v2), none, some (.int v4), some (.int v5), some (.int v6), some (.int v7), none, some (.int x7), none, none] [.int (1 : Int32), .int v5, .int x7] rfl ?_
      refine fs_ic_ne T 354 350 rfl rfl rfl (fun _ => ?_) (fun _ => ?_)
      · refine fs_r T 2 356 [some (.ref v0), some (.int v1), some (.int v2), none, some (.int v4), some (.int v5), some (.int v6), some (.int v7), none, some (.int x7), none, none] [.int (0 : Int32), .int x7] rfl ?_
        refine fs_wk (ls' := [some (.ref v0), none, some (.int v2), none, none, none, none, some (.int v7), none, some (.int x7), none, none]) ⟨rfl, rfl, rfl, rfl, trivial⟩ ?_
        exact w_L_acts_356 hE h0 _ _ _
      · refine fs_r T 1 356 [some (.ref v0), some (.int v1), some (.int v2), none, some (.int v4), some (.int v5), some (.int v6), some (.int v7), none, some (.int x7), none, none] [.int (7 : Int32), .int x7] rfl ?_
        refine fs_wk (ls' := [some (.ref v0), none, some (.int v2), none, none, none, none, some (.int v7), none, some (.int x7), none, none]) ⟨rfl, rfl, rfl, rfl, trivial⟩ ?_
        exact w_L_acts_356 hE h0 _ _ _
    · refine fs_r T 1 331 [some (.ref v0), some (.int v1), some (.int v2), none, some (.int v4), some (.int v5), some (.int v6), some (.int v7), none, none, none, none] [.int (1 : Int32)] rfl ?_
      exact fs_retc T rfl rfl rfl rfl
  · refine fs_r T 1 408 [some (.ref v0), some (.int v1), some (.int v2), none, some (.int v4), some (.int v5), some (.int v6), some (.int v7), none, none, none, none] [.ref v0] rfl ?_
    refine fs_gs T 411 12 0 v0 rfl rfl rfl rfl h0 ?_
    refine fs_r T 2 414 [some (.ref v0), some (.int v1), some (.int v2), none, some (.int v4), some (.int v5), some (.int v6), some (.int v7), none, none, none, none] [.int (13 : Int32), .int v2, .ref (H.2.1 v0 0)] rfl ?_
    refine fs_sIh T 417 rfl rfl ml_L_161 rfl rfl rfl rfl rfl (q_L_circuit (d := d + 10) hE (hE.1 _ 12 0 h0)) ?_
    intro x8 m8
    refine fs_r T 1 418 [some (.ref v0), some (.int v1), some (.int v2), none, some (.int v4), some (.int v5), some (.int v6), some (.int v7), none, none, none, none] [.ref v0, .int x8] rfl ?_
    refine fs_gs T 421 12 0 v0 rfl rfl rfl rfl h0 ?_
    refine fs_r T 2 424 [some (.ref v0), some (.int v1), some (.int v2), none, some (.int v4), some (.int v5), some (.int v6), some (.int v7), none, none, none, none] [.int (6 : Int32), .int v2, .ref (H.2.1 v0 0), .int x8] rfl ?_
    refine fs_sIh T 427 rfl rfl ml_L_161 rfl rfl rfl rfl rfl (q_L_circuit (d := d + 10) hE (hE.1 _ 12 0 h0)) ?_
    intro x9 m9
    refine fs_r T 3 431 [some (.ref v0), some (.int v1), some (.int v2), none, some (.int v4), some (.int v5), some (.int v6), some (.int v7), none, some (.int (x8 + x9)), none, none] [.ref v0] rfl ?_
    refine fs_gs T 434 12 0 v0 rfl rfl rfl rfl h0 ?_
    refine fs_r T 1 435 [some (.ref v0), some (.int v1), some (.int v2), none, some (.int v4), some (.int v5), some (.int v6), some (.int v7), none, some (.int (x8 + x9)), none, none] [.int v2, .ref (H.2.1 v0 0)] rfl ?_
    refine fs_sIh T 438 rfl rfl ml_L_194 rfl rfl rfl rfl rfl (q_L_close (d := d + 9) hE (hE.1 _ 12 0 h0)) ?_
    intro x10 m10
    refine fs_r T 3 444 [some (.ref v0), some (.int v1), some (.int v2), none, some (.int v4), some (.int v5), some (.int v6), some (.int v7), none, some (.int (x8 + x9)), some (.int x10), none] [.int v5, .int x10] rfl ?_
    refine fs_if_le T 451 447 rfl rfl rfl (fun _ => ?_) (fun _ => ?_)
    · refine fs_r T 1 453 [some (.ref v0), some (.int v1), some (.int v2), none, some (.int v4), some (.int v5), some (.int v6), some (.int v7), none, some (.int (x8 + x9)), some (.int x10), none] [.int (x8 + x9), .int x10] rfl ?_
      refine fs_if_le T 461 456 rfl rfl rfl (fun _ => ?_) (fun _ => ?_)
      · refine fs_r T 1 462 [some (.ref v0), some (.int v1), some (.int v2), none, some (.int v4), some (.int v5), some (.int v6), some (.int v7), none, some (.int (x8 + x9)), some (.int x10), none] [.int (0 : Int32), .int x10] rfl ?_
        refine fs_wk (ls' := [some (.ref v0), some (.int v1), none, none, none, none, none, none, none, none, some (.int x10), none]) ⟨rfl, rfl, rfl, trivial⟩ ?_
        exact w_L_acts_462 hE h0 _ _ _
      · refine fs_r T 2 462 [some (.ref v0), some (.int v1), some (.int v2), none, some (.int v4), some (.int v5), some (.int v6), some (.int v7), none, some (.int (x8 + x9)), some (.int x10), none] [.int (8 : Int32), .int x10] rfl ?_
        refine fs_wk (ls' := [some (.ref v0), some (.int v1), none, none, none, none, none, none, none, none, some (.int x10), none]) ⟨rfl, rfl, rfl, trivial⟩ ?_
        exact w_L_acts_462 hE h0 _ _ _
    · refine fs_r T 2 462 [some (.ref v0), some (.int v1), some (.int v2), none, some (.int v4), some (.int v5), some (.int v6), some (.int v7), none, some (.int (x8 + x9)), some (.int x10), none] [.int (2 : Int32), .int x10] rfl ?_
      refine fs_wk (ls' := [some (.ref v0), some (.int v1), none, none, none, none, none, none, none, none, some (.int x10), none]) ⟨rfl, rfl, rfl, trivial⟩ ?_
      exact w_L_acts_462 hE h0 _ _ _
  · refine fs_r T 1 496 [some (.ref v0), some (.int v1), some (.int v2), none, some (.int v4), some (.int v5), some (.int v6), some (.int v7), none, none, none, none] [.int v4] rfl ?_
    refine fs_if_ge T 501 499 rfl rfl rfl (fun _ => ?_) (fun _ => ?_)
    · refine fs_r T 1 502 [some (.ref v0), some (.int v1), some (.int v2), none, some (.int v4), some (.int v5), some (.int v6), some (.int v7), none, none, none, none] [.ref v0] rfl ?_
      refine fs_gs T 505 12 0 v0 rfl rfl rfl rfl h0 ?_
      refine fs_r T 1 507 [some (.ref v0), some (.int v1), some (.int v2), none, some (.int v4), some (.int v5), some (.int v6), some (.int v7), none, none, none, none] [.int (9 : Int32), .ref (H.2.1 v0 0)] rfl ?_
      refine fs_sIh T 510 rfl rfl ml_L_145 rfl rfl rfl rfl rfl (q_L_count (d := d + 10) hE (hE.1 _ 12 0 h0)) ?_
      intro x11 m11
      refine fs_r T 2 513 [some (.ref v0), some (.int v1), some (.int v2), none, some (.int v4), some (.int v5), some (.int v6), some (.int v7), none, some (.int x11), none, none] [.ref v0] rfl ?_
      refine fs_gs T 516 12 0 v0 rfl rfl rfl rfl h0 ?_
      refine fs_r T 2 520 [some (.ref v0), some (.int v1), some (.int v2), none, some (.int v4), some (.int v5), some (.int v6), some (.int v7), none, some (.int x11), none, none] [.int (6 : Int32), .int v4, .ref (H.2.1 v0 0)] rfl ?_
      refine fs_sIh T 523 rfl rfl ml_L_174 rfl rfl rfl rfl rfl (q_L_link (d := d + 11) hE (hE.1 _ 12 0 h0)) ?_
      intro x12 m12
      refine fs_r T 3 527 [some (.ref v0), some (.int v1), some (.int v2), none, some (.int v4), some (.int v5), some (.int v6), some (.int v7), none, some (.int x11), some (.int x12), none] [.int (3 : Int32), .ref v0] rfl ?_
      refine fs_vI T 530 rfl rfl rfl rfl rfl rfl h0 (q_L_draw (d := d + 13) hE h0) ?_
      intro x13 m13
      refine fs_if_le T 537 533 rfl rfl rfl (fun _ => ?_) (fun _ => ?_)
      · refine fs_r T 1 538 [some (.ref v0), some (.int v1), some (.int v2), none, some (.int v4), some (.int v5), some (.int v6), some (.int v7), none, some (.int x11), some (.int x12), none] [.int (0 : Int32)] rfl ?_
        refine fs_wk (ls' := [some (.ref v0), none, none, none, some (.int v4), none, none, none, none, some (.int x11), some (.int x12), none]) ⟨rfl, rfl, rfl, rfl, trivial⟩ ?_
        exact w_L_acts_538 hE h0 _ _
      · refine fs_r T 2 538 [some (.ref v0), some (.int v1), some (.int v2), none, some (.int v4), some (.int v5), some (.int v6), some (.int v7), none, some (.int x11), some (.int x12), none] [.int (1 : Int32)] rfl ?_
        refine fs_wk (ls' := [some (.ref v0), none, none, none, some (.int v4), none, none, none, none, some (.int x11), some (.int x12), none]) ⟨rfl, rfl, rfl, rfl, trivial⟩ ?_
        exact w_L_acts_538 hE h0 _ _
    · refine fs_r T 1 500 [some (.ref v0), some (.int v1), some (.int v2), none, some (.int v4), some (.int v5), some (.int v6), some (.int v7), none, none, none, none] [.int (1 : Int32)] rfl ?_
      exact fs_retc T rfl rfl rfl rfl
def f_L_acts_100 (H : fm_H) (v0 : Nat) (v1 : Int32) (v2 : Int32) (v3 : Int32) (v4 : Int32) (v5 : Int32) (v6 : Int32) (v7 : Int32) : Nat → Int32 → Int32 → fm_M → Option (Int32 × fm_M)
  | 0, _, _, _ => none
  | n + 1, v8, v9, m =>
    if v3 ≤ v9 then
      if m.1 v0 3 = 0 then
        f_L_acts_140 H v0 v1 v2 v4 v5 v6 v7 (5 : Int32) v0 m
      else
      f_L_acts_140 H v0 v1 v2 v4 v5 v6 v7 (3 : Int32) v0 m
    else
    fm_bn (f_L_link H (H.2.1 v0 0) v9 (5 : Int32) m) fun x1 m1 =>
    f_L_acts_100 H v0 v1 v2 v3 v4 v5 v6 v7 n (v8 + x1) (v9 + 1) m1
set_option maxRecDepth 10000 in
theorem w_L_acts_100 {G : pm_G} {H : fm_H} {d : Nat} {z0 : Nat × Nat × Nat} {K : pm_R → fm_M → Prop} (hE : fm_E G H) {v0 : Nat} {v1 : Int32} {v2 : Int32} {v3 : Int32} {v4 : Int32} {v5 : Int32} {v6 : Int32} {v7 : Int32} (h0 : fm_is H v0 12) : ∀ (n : Nat) (v8 : Int32) (v9 : Int32) (m : fm_M), fm_o fm_rI (f_L_acts_100 H v0 v1 v2 v3 v4 v5 v6 v7 n v8 v9 m) K → fm_V G H (d + 15) RL cL_acts (some (.boolean)) (fl_z H z0) K 100 [some (.ref v0), some (.int v1), some (.int v2), some (.int v3), some (.int v4), some (.int v5), some (.int v6), some (.int v7), some (.int v8), some (.int v9), none, none] [] m := by
  have T : fm_T RL cL_acts tc_L_acts fr_L mr_L cr_L lr_L := ⟨tok_L, dc_L_acts⟩
  intro n
  induction n with
  | zero =>
    intro v8 v9 m 
    exact fs_none
  | succ n ih =>
    intro v8 v9 m 
    unfold f_L_acts_100
    refine fs_r T 2 103 [some (.ref v0), some (.int v1), some (.int v2), some (.int v3), some (.int v4), some (.int v5), some (.int v6), some (.int v7), some (.int v8), some (.int v9), none, none] [.int v3, .int v9] rfl ?_
    refine fs_ic_ge T 127 106 rfl rfl rfl (fun _ => ?_) (fun _ => ?_)
    · refine fs_r T 2 129 [some (.ref v0), some (.int v1), some (.int v2), some (.int v3), some (.int v4), some (.int v5), some (.int v6), some (.int v7), some (.int v8), some (.int v9), none, none] [.ref v0, .ref v0] rfl ?_
      refine fs_gi T 132 12 3 v0 rfl rfl rfl rfl h0 ?_
      refine fs_if_eq T 139 135 rfl rfl rfl (fun _ => ?_) (fun _ => ?_)
      · refine fs_r T 1 140 [some (.ref v0), some (.int v1), some (.int v2), some (.int v3), some (.int v4), some (.int v5), some (.int v6), some (.int v7), some (.int v8), some (.int v9), none, none] [.int (5 : Int32), .ref v0] rfl ?_
        refine fs_wk (ls' := [some (.ref v0), some (.int v1), some (.int v2), none, some (.int v4), some (.int v5), some (.int v6), some (.int v7), none, none, none, none]) ⟨rfl, rfl, rfl, rfl, rfl, rfl, rfl, trivial⟩ ?_
        exact w_L_acts_140 hE h0 _ _ _ h0
      · refine fs_r T 2 140 [some (.ref v0), some (.int v1), some (.int v2), some (.int v3), some (.int v4), some (.int v5), some (.int v6), some (.int v7), some (.int v8), some (.int v9), none, none] [.int (3 : Int32), .ref v0] rfl ?_
        refine fs_wk (ls' := [some (.ref v0), some (.int v1), some (.int v2), none, some (.int v4), some (.int v5), some (.int v6), some (.int v7), none, none, none, none]) ⟨rfl, rfl, rfl, rfl, rfl, rfl, rfl, trivial⟩ ?_
        exact w_L_acts_140 hE h0 _ _ _ h0
    · refine fs_r T 2 109 [some (.ref v0), some (.int v1), some (.int v2), some (.int v3), some (.int v4), some (.int v5), some (.int v6), some (.int v7), some (.int v8), some (.int v9), none, none] [.ref v0, .int v8] rfl ?_
      refine fs_gs T 112 12 0 v0 rfl rfl rfl rfl h0 ?_
      refine fs_r T 2 115 [some (.ref v0), some (.int v1), some (.int v2), some (.int v3), some (.int v4), some (.int v5), some (.int v6), some (.int v7), some (.int v8), some (.int v9), none, none] [.int (5 : Int32), .int v9, .ref (H.2.1 v0 0), .int v8] rfl ?_
      refine fs_sIh T 118 rfl rfl ml_L_174 rfl rfl rfl rfl rfl (q_L_link (d := d + 11) hE (hE.1 _ 12 0 h0)) ?_
      intro x1 m1
      refine fs_r T 4 100 [some (.ref v0), some (.int v1), some (.int v2), some (.int v3), some (.int v4), some (.int v5), some (.int v6), some (.int v7), some (.int (v8 + x1)), some (.int (v9 + 1)), none, none] [] rfl ?_
      exact ih _ _ _
def f_L_acts (H : fm_H) (v0 : Nat) (m : fm_M) : Option (Int32 × fm_M) :=
  fm_bn (f_L_count H (H.2.1 v0 0) (4 : Int32) m) fun x1 m1 =>
  fm_bn (f_L_draw H v0 (x1 + (1 : Int32)) m1) fun x2 m2 =>
  fm_bn (f_L_count H (H.2.1 v0 0) (3 : Int32) m2) fun x3 m3 =>
  fm_bn (f_L_draw H v0 (x3 + (1 : Int32)) m3) fun x4 m4 =>
  if x2 = x1 then
    fm_bn (f_L_abort H (H.2.1 v0 0) x2 m4) fun x8 m8 =>
    if x8 = (-101 : Int32) then
      some ((1 : Int32), m8)
    else
    some ((0 : Int32), m8)
  else
  fm_bn (f_L_circuit H (H.2.1 v0 0) x2 (4 : Int32) m4) fun x5 m5 =>
  fm_bn (f_L_count H (H.2.1 v0 0) (12 : Int32) m5) fun x6 m6 =>
  fm_bn (f_L_count H (H.2.1 v0 0) (15 : Int32) m6) fun x7 m7 =>
  f_L_acts_100 H v0 x1 x2 x3 (x4 - (1 : Int32)) x5 x6 x7 fm_N (0 : Int32) (0 : Int32) m7
set_option maxRecDepth 10000 in
theorem q_L_acts {G : pm_G} {H : fm_H} {d : Nat} {z0 : Nat × Nat × Nat} {v0 : Nat} {m : fm_M} (hE : fm_E G H) (h0 : fm_is H v0 12) : fm_cal G H (d + 16) yL_acts [.ref v0] (fl_z H z0) m fm_rI (f_L_acts H v0 m) := fm_mth (d := d + 15) mt_L_acts rfl rfl rfl (fun K => by
  show fm_o fm_rI (f_L_acts H v0 m) K → fm_V G H (d + 15) RL cL_acts (some (.boolean)) (fl_z H z0) K 0 [some (.ref v0), none, none, none, none, none, none, none, none, none, none, none] [] m
  have T : fm_T RL cL_acts tc_L_acts fr_L mr_L cr_L lr_L := ⟨tok_L, dc_L_acts⟩
  unfold f_L_acts
  refine fs_r T 1 1 [some (.ref v0), none, none, none, none, none, none, none, none, none, none, none] [.ref v0] rfl ?_
  refine fs_gs T 4 12 0 v0 rfl rfl rfl rfl h0 ?_
  refine fs_r T 1 5 [some (.ref v0), none, none, none, none, none, none, none, none, none, none, none] [.int (4 : Int32), .ref (H.2.1 v0 0)] rfl ?_
  refine fs_sIh T 8 rfl rfl ml_L_145 rfl rfl rfl rfl rfl (q_L_count (d := d + 10) hE (hE.1 _ 12 0 h0)) ?_
  intro x1 m1
  refine fs_r T 5 13 [some (.ref v0), some (.int x1), none, none, none, none, none, none, none, none, none, none] [.int (x1 + (1 : Int32)), .ref v0] rfl ?_
  refine fs_vI T 16 rfl rfl rfl rfl rfl rfl h0 (q_L_draw (d := d + 13) hE h0) ?_
  intro x2 m2
  refine fs_r T 2 18 [some (.ref v0), some (.int x1), some (.int x2), none, none, none, none, none, none, none, none, none] [.ref v0] rfl ?_
  refine fs_gs T 21 12 0 v0 rfl rfl rfl rfl h0 ?_
  refine fs_r T 1 22 [some (.ref v0), some (.int x1), some (.int x2), none, none, none, none, none, none, none, none, none] [.int (3 : Int32), .ref (H.2.1 v0 0)] rfl ?_
  refine fs_sIh T 25 rfl rfl ml_L_145 rfl rfl rfl rfl rfl (q_L_count (d := d + 10) hE (hE.1 _ 12 0 h0)) ?_
  intro x3 m3
  refine fs_r T 5 30 [some (.ref v0), some (.int x1), some (.int x2), some (.int x3), none, none, none, none, none, none, none, none] [.int (x3 + (1 : Int32)), .ref v0] rfl ?_
  refine fs_vI T 33 rfl rfl rfl rfl rfl rfl h0 (q_L_draw (d := d + 13) hE h0) ?_
  intro x4 m4
  refine fs_r T 5 39 [some (.ref v0), some (.int x1), some (.int x2), some (.int x3), some (.int (x4 - (1 : Int32))), none, none, none, none, none, none, none] [.int x1, .int x2] rfl ?_
  refine fs_ic_ne T 61 42 rfl rfl rfl (fun _ => ?_) (fun _ => ?_)
  · refine fs_r T 1 43 [some (.ref v0), some (.int x1), some (.int x2), some (.int x3), some (.int (x4 - (1 : Int32))), none, none, none, none, none, none, none] [.ref v0] rfl ?_
    refine fs_gs T 46 12 0 v0 rfl rfl rfl rfl h0 ?_
    refine fs_r T 1 47 [some (.ref v0), some (.int x1), some (.int x2), some (.int x3), some (.int (x4 - (1 : Int32))), none, none, none, none, none, none, none] [.int x2, .ref (H.2.1 v0 0)] rfl ?_
    refine fs_sIh T 50 rfl rfl ml_L_186 rfl rfl rfl rfl rfl (q_L_abort (d := d + 9) hE (hE.1 _ 12 0 h0)) ?_
    intro x8 m8
    refine fs_r T 1 52 [some (.ref v0), some (.int x1), some (.int x2), some (.int x3), some (.int (x4 - (1 : Int32))), none, none, none, none, none, none, none] [.int (-101 : Int32), .int x8] rfl ?_
    refine fs_ic_ne T 59 55 rfl rfl rfl (fun _ => ?_) (fun _ => ?_)
    · refine fs_r T 2 60 [some (.ref v0), some (.int x1), some (.int x2), some (.int x3), some (.int (x4 - (1 : Int32))), none, none, none, none, none, none, none] [.int (1 : Int32)] rfl ?_
      exact fs_retc T rfl rfl rfl rfl
    · refine fs_r T 1 60 [some (.ref v0), some (.int x1), some (.int x2), some (.int x3), some (.int (x4 - (1 : Int32))), none, none, none, none, none, none, none] [.int (0 : Int32)] rfl ?_
      exact fs_retc T rfl rfl rfl rfl
  · refine fs_r T 1 62 [some (.ref v0), some (.int x1), some (.int x2), some (.int x3), some (.int (x4 - (1 : Int32))), none, none, none, none, none, none, none] [.ref v0] rfl ?_
    refine fs_gs T 65 12 0 v0 rfl rfl rfl rfl h0 ?_
    refine fs_r T 2 67 [some (.ref v0), some (.int x1), some (.int x2), some (.int x3), some (.int (x4 - (1 : Int32))), none, none, none, none, none, none, none] [.int (4 : Int32), .int x2, .ref (H.2.1 v0 0)] rfl ?_
    refine fs_sIh T 70 rfl rfl ml_L_161 rfl rfl rfl rfl rfl (q_L_circuit (d := d + 10) hE (hE.1 _ 12 0 h0)) ?_
    intro x5 m5
    refine fs_r T 2 73 [some (.ref v0), some (.int x1), some (.int x2), some (.int x3), some (.int (x4 - (1 : Int32))), some (.int x5), none, none, none, none, none, none] [.ref v0] rfl ?_
    refine fs_gs T 76 12 0 v0 rfl rfl rfl rfl h0 ?_
    refine fs_r T 1 78 [some (.ref v0), some (.int x1), some (.int x2), some (.int x3), some (.int (x4 - (1 : Int32))), some (.int x5), none, none, none, none, none, none] [.int (12 : Int32), .ref (H.2.1 v0 0)] rfl ?_
    refine fs_sIh T 81 rfl rfl ml_L_145 rfl rfl rfl rfl rfl (q_L_count (d := d + 10) hE (hE.1 _ 12 0 h0)) ?_
    intro x6 m6
    refine fs_r T 2 84 [some (.ref v0), some (.int x1), some (.int x2), some (.int x3), some (.int (x4 - (1 : Int32))), some (.int x5), some (.int x6), none, none, none, none, none] [.ref v0] rfl ?_
    refine fs_gs T 87 12 0 v0 rfl rfl rfl rfl h0 ?_
    refine fs_r T 1 89 [some (.ref v0), some (.int x1), some (.int x2), some (.int x3), some (.int (x4 - (1 : Int32))), some (.int x5), some (.int x6), none, none, none, none, none] [.int (15 : Int32), .ref (H.2.1 v0 0)] rfl ?_
    refine fs_sIh T 92 rfl rfl ml_L_145 rfl rfl rfl rfl rfl (q_L_count (d := d + 10) hE (hE.1 _ 12 0 h0)) ?_
    intro x7 m7
    refine fs_r T 5 100 [some (.ref v0), some (.int x1), some (.int x2), some (.int x3), some (.int (x4 - (1 : Int32))), some (.int x5), some (.int x6), some (.int x7), some (.int (0 : Int32)), some (.int (0 : Int32)), none, none] [] rfl ?_
    exact w_L_acts_100 hE h0 _ _ _ _)
