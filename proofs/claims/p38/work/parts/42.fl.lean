/-! functions out of the code -/
def f_L_areLinked_40 (H : fm_H) (k2 : Int32 → fm_M → Option (Int32 × fm_M)) (v0 : Nat) (v1 : Int32) (v2 : Int32) (v3 : Int32) (m : fm_M) : Option (Int32 × fm_M) :=
  fm_bn (f_L_link H (H.2.1 v0 0) v3 (0 : Int32) m) fun x1 m1 =>
  if x1 = v2 then
    fm_bn (f_L_link H (H.2.1 v0 0) v3 (1 : Int32) m1) fun x2 m2 =>
    if x2 = v1 then
      some ((1 : Int32), m2)
    else
    k2 (v3 + 1) m2
  else
  k2 (v3 + 1) m1
set_option maxRecDepth 10000 in
theorem w_L_areLinked_40 {G : pm_G} {H : fm_H} {d : Nat} {z0 : Nat × Nat × Nat} {K : pm_R → fm_M → Prop} (hE : fm_E G H) {k2 : Int32 → fm_M → Option (Int32 × fm_M)} {v0 : Nat} {v1 : Int32} {v2 : Int32} {v3 : Int32} (Hk2 : ∀ (v3 : Int32) (m : fm_M), fm_o fm_rI (k2 v3 m) K → fm_V G H (d + 5) RL cL_areLinked (some (.boolean)) (fl_z H z0) K 2 [some (.ref v0), some (.int v1), some (.int v2), some (.int v3)] [] m) (h0 : fm_is H v0 12) : ∀ (m : fm_M), fm_o fm_rI (f_L_areLinked_40 H k2 v0 v1 v2 v3 m) K → fm_V G H (d + 5) RL cL_areLinked (some (.boolean)) (fl_z H z0) K 40 [some (.ref v0), some (.int v1), some (.int v2), some (.int v3)] [] m := by
  have T : fm_T RL cL_areLinked tc_L_areLinked fr_L mr_L cr_L lr_L := ⟨tok_L, dc_L_areLinked⟩
  intro m
  unfold f_L_areLinked_40
  refine fs_r T 1 41 [some (.ref v0), some (.int v1), some (.int v2), some (.int v3)] [.ref v0] rfl ?_
  refine fs_gs T 44 12 0 v0 rfl rfl rfl rfl h0 ?_
  refine fs_r T 2 46 [some (.ref v0), some (.int v1), some (.int v2), some (.int v3)] [.int (0 : Int32), .int v3, .ref (H.2.1 v0 0)] rfl ?_
  refine fs_sIh T 49 rfl rfl ml_L_174 rfl rfl rfl rfl rfl (q_L_link (d := d + 1) hE (hE.1 _ 12 0 h0)) ?_
  intro x1 m1
  refine fs_r T 1 50 [some (.ref v0), some (.int v1), some (.int v2), some (.int v3)] [.int v2, .int x1] rfl ?_
  refine fs_ic_ne T 68 53 rfl rfl rfl (fun _ => ?_) (fun _ => ?_)
  · refine fs_r T 1 54 [some (.ref v0), some (.int v1), some (.int v2), some (.int v3)] [.ref v0] rfl ?_
    refine fs_gs T 57 12 0 v0 rfl rfl rfl rfl h0 ?_
    refine fs_r T 2 59 [some (.ref v0), some (.int v1), some (.int v2), some (.int v3)] [.int (1 : Int32), .int v3, .ref (H.2.1 v0 0)] rfl ?_
    refine fs_sIh T 62 rfl rfl ml_L_174 rfl rfl rfl rfl rfl (q_L_link (d := d + 1) hE (hE.1 _ 12 0 h0)) ?_
    intro x2 m2
    refine fs_r T 1 63 [some (.ref v0), some (.int v1), some (.int v2), some (.int v3)] [.int v1, .int x2] rfl ?_
    refine fs_ic_ne T 68 66 rfl rfl rfl (fun _ => ?_) (fun _ => ?_)
    · refine fs_r T 1 67 [some (.ref v0), some (.int v1), some (.int v2), some (.int v3)] [.int (1 : Int32)] rfl ?_
      exact fs_retc T rfl rfl rfl rfl
    · refine fs_r T 2 2 [some (.ref v0), some (.int v1), some (.int v2), some (.int (v3 + 1))] [] rfl ?_
      exact Hk2 _ _
  · refine fs_r T 2 2 [some (.ref v0), some (.int v1), some (.int v2), some (.int (v3 + 1))] [] rfl ?_
    exact Hk2 _ _
def f_L_areLinked_2 (H : fm_H) (v0 : Nat) (v1 : Int32) (v2 : Int32) : Nat → Int32 → fm_M → Option (Int32 × fm_M)
  | 0, _, _ => none
  | n + 1, v3, m =>
    fm_bn (f_L_count H (H.2.1 v0 0) (3 : Int32) m) fun x1 m1 =>
    if x1 ≤ v3 then
      some ((0 : Int32), m1)
    else
    fm_bn (f_L_link H (H.2.1 v0 0) v3 (0 : Int32) m1) fun x2 m2 =>
    if x2 = v1 then
      fm_bn (f_L_link H (H.2.1 v0 0) v3 (1 : Int32) m2) fun x3 m3 =>
      if x3 = v2 then
        some ((1 : Int32), m3)
      else
      f_L_areLinked_40 H (f_L_areLinked_2 H v0 v1 v2 n) v0 v1 v2 v3 m3
    else
    f_L_areLinked_40 H (f_L_areLinked_2 H v0 v1 v2 n) v0 v1 v2 v3 m2
set_option maxRecDepth 10000 in
theorem w_L_areLinked_2 {G : pm_G} {H : fm_H} {d : Nat} {z0 : Nat × Nat × Nat} {K : pm_R → fm_M → Prop} (hE : fm_E G H) {v0 : Nat} {v1 : Int32} {v2 : Int32} (h0 : fm_is H v0 12) : ∀ (n : Nat) (v3 : Int32) (m : fm_M), fm_o fm_rI (f_L_areLinked_2 H v0 v1 v2 n v3 m) K → fm_V G H (d + 5) RL cL_areLinked (some (.boolean)) (fl_z H z0) K 2 [some (.ref v0), some (.int v1), some (.int v2), some (.int v3)] [] m := by
  have T : fm_T RL cL_areLinked tc_L_areLinked fr_L mr_L cr_L lr_L := ⟨tok_L, dc_L_areLinked⟩
  intro n
  induction n with
  | zero =>
    intro v3 m 
    exact fs_none
  | succ n ih =>
    intro v3 m 
    unfold f_L_areLinked_2
    refine fs_r T 2 4 [some (.ref v0), some (.int v1), some (.int v2), some (.int v3)] [.ref v0, .int v3] rfl ?_
    refine fs_gs T 7 12 0 v0 rfl rfl rfl rfl h0 ?_
    refine fs_r T 1 8 [some (.ref v0), some (.int v1), some (.int v2), some (.int v3)] [.int (3 : Int32), .ref (H.2.1 v0 0), .int v3] rfl ?_
    refine fs_sIh T 11 rfl rfl ml_L_145 rfl rfl rfl rfl rfl (q_L_count (d := d) hE (hE.1 _ 12 0 h0)) ?_
    intro x1 m1
    refine fs_ic_ge T 74 14 rfl rfl rfl (fun _ => ?_) (fun _ => ?_)
    · refine fs_r T 1 75 [some (.ref v0), some (.int v1), some (.int v2), some (.int v3)] [.int (0 : Int32)] rfl ?_
      exact fs_retc T rfl rfl rfl rfl
    · refine fs_r T 1 15 [some (.ref v0), some (.int v1), some (.int v2), some (.int v3)] [.ref v0] rfl ?_
      refine fs_gs T 18 12 0 v0 rfl rfl rfl rfl h0 ?_
      refine fs_r T 2 20 [some (.ref v0), some (.int v1), some (.int v2), some (.int v3)] [.int (0 : Int32), .int v3, .ref (H.2.1 v0 0)] rfl ?_
      refine fs_sIh T 23 rfl rfl ml_L_174 rfl rfl rfl rfl rfl (q_L_link (d := d + 1) hE (hE.1 _ 12 0 h0)) ?_
      intro x2 m2
      refine fs_r T 1 24 [some (.ref v0), some (.int v1), some (.int v2), some (.int v3)] [.int v1, .int x2] rfl ?_
      refine fs_ic_ne T 40 27 rfl rfl rfl (fun _ => ?_) (fun _ => ?_)
      · refine fs_r T 1 28 [some (.ref v0), some (.int v1), some (.int v2), some (.int v3)] [.ref v0] rfl ?_
        refine fs_gs T 31 12 0 v0 rfl rfl rfl rfl h0 ?_
        refine fs_r T 2 33 [some (.ref v0), some (.int v1), some (.int v2), some (.int v3)] [.int (1 : Int32), .int v3, .ref (H.2.1 v0 0)] rfl ?_
        refine fs_sIh T 36 rfl rfl ml_L_174 rfl rfl rfl rfl rfl (q_L_link (d := d + 1) hE (hE.1 _ 12 0 h0)) ?_
        intro x3 m3
        refine fs_r T 1 37 [some (.ref v0), some (.int v1), some (.int v2), some (.int v3)] [.int v2, .int x3] rfl ?_
        refine fs_ic_eq T 66 40 rfl rfl rfl (fun _ => ?_) (fun _ => ?_)
        · refine fs_r T 1 67 [some (.ref v0), some (.int v1), some (.int v2), some (.int v3)] [.int (1 : Int32)] rfl ?_
          exact fs_retc T rfl rfl rfl rfl
        · exact w_L_areLinked_40 hE ih h0 _
      · exact w_L_areLinked_40 hE ih h0 _
def f_L_areLinked (H : fm_H) (v0 : Nat) (v1 : Int32) (v2 : Int32) (m : fm_M) : Option (Int32 × fm_M) :=
  f_L_areLinked_2 H v0 v1 v2 fm_N (0 : Int32) m
set_option maxRecDepth 10000 in
theorem q_L_areLinked {G : pm_G} {H : fm_H} {d : Nat} {z0 : Nat × Nat × Nat} {v0 : Nat} {v1 : Int32} {v2 : Int32} {m : fm_M} (hE : fm_E G H) (h0 : fm_is H v0 12) : fm_cal G H (d + 6) yL_areLinked [.ref v0, .int v1, .int v2] (fl_z H z0) m fm_rI (f_L_areLinked H v0 v1 v2 m) := fm_mth (d := d + 5) mt_L_areLinked rfl rfl rfl (fun K => by
  show fm_o fm_rI (f_L_areLinked H v0 v1 v2 m) K → fm_V G H (d + 5) RL cL_areLinked (some (.boolean)) (fl_z H z0) K 0 [some (.ref v0), some (.int v1), some (.int v2), none] [] m
  have T : fm_T RL cL_areLinked tc_L_areLinked fr_L mr_L cr_L lr_L := ⟨tok_L, dc_L_areLinked⟩
  unfold f_L_areLinked
  refine fs_r T 2 2 [some (.ref v0), some (.int v1), some (.int v2), some (.int (0 : Int32))] [] rfl ?_
  exact w_L_areLinked_2 hE h0 _ _ _)
def f_L_waysAreSo_840 (H : fm_H) (m : fm_M) : Option (Int32 × fm_M) :=
  some ((0 : Int32), m)
set_option maxRecDepth 10000 in
theorem w_L_waysAreSo_840 {G : pm_G} {H : fm_H} {d : Nat} {z0 : Nat × Nat × Nat} {K : pm_R → fm_M → Prop} (hE : fm_E G H) : ∀ (m : fm_M), fm_o fm_rI (f_L_waysAreSo_840 H m) K → fm_V G H (d + 6) RL cL_waysAreSo (some (.boolean)) (fl_z H z0) K 840 [none, none, none, none, none, none, none, none, none, none, none, none, none, none] [] m := by
  have T : fm_T RL cL_waysAreSo tc_L_waysAreSo fr_L mr_L cr_L lr_L := ⟨tok_L, dc_L_waysAreSo⟩
  intro m
  unfold f_L_waysAreSo_840
  refine fs_r T 1 841 [none, none, none, none, none, none, none, none, none, none, none, none, none, none] [.int (0 : Int32)] rfl ?_
  exact fs_retc T rfl rfl rfl rfl
def f_L_waysAreSo_590 (H : fm_H) (v0 : Nat) (v1 : Int32) (v2 : Int32) (v3 : Int32) (v4 : Int32) (v5 : Int32) (v6 : Int32) : Nat → Int32 → Int32 → Int32 → Int32 → fm_M → Option (Int32 × fm_M)
  | 0, _, _, _, _, _ => none
  | n + 1, v7, v8, v9, v10, m =>
    fm_bn (f_L_count H (H.2.1 v0 0) (3 : Int32) m) fun x1 m1 =>
    if x1 ≤ v10 then
      fm_bn (f_L_count H (H.2.1 v0 0) (13 : Int32) m1) fun x2 m2 =>
      if v1 = x2 then
        fm_bn (f_L_count H (H.2.1 v0 0) (6 : Int32) m2) fun x3 m3 =>
        if v6 = x3 then
          if v9 = v6 then
            fm_bn (f_L_count H (H.2.1 v0 0) (7 : Int32) m3) fun x4 m4 =>
            if x4 < v2 then
              f_L_waysAreSo_840 H m4
            else
            fm_bn (f_L_count H (H.2.1 v0 0) (8 : Int32) m4) fun x5 m5 =>
            if x5 < v3 then
              f_L_waysAreSo_840 H m5
            else
            fm_bn (f_L_count H (H.2.1 v0 0) (7 : Int32) m5) fun x6 m6 =>
            fm_bn (f_L_count H (H.2.1 v0 0) (8 : Int32) m6) fun x7 m7 =>
            fm_bn (f_L_count H (H.2.1 v0 0) (9 : Int32) m7) fun x8 m8 =>
            if x6 = ((x7 + x8) + v6) then
              fm_bn (f_L_count H (H.2.1 v0 0) (9 : Int32) m8) fun x9 m9 =>
              if x9 < v4 then
                f_L_waysAreSo_840 H m9
              else
              fm_bn (f_L_count H (H.2.1 v0 0) (11 : Int32) m9) fun x10 m10 =>
              if x10 < v5 then
                f_L_waysAreSo_840 H m10
              else
              if (60 : Int32) < v6 then
                f_L_waysAreSo_840 H m10
              else
              fm_bn (f_X11_usage H (H.2.1 v0 0) m10) fun x11 m11 =>
              if v8 = 0 then
                if (Op.cmpValue (FP.fcmp x11 FP.fconst0) .l) = 0 then
                  some ((1 : Int32), m11)
                else
                f_L_waysAreSo_840 H m11
              else
              if fm_n32 (FP.fdiv (FP.i2f v7) (FP.i2f v8)) = true then
                if (Op.cmpValue (FP.fcmp x11 (FP.fdiv (FP.i2f v7) (FP.i2f v8))) .l) = 0 then
                  some ((1 : Int32), m11)
                else
                f_L_waysAreSo_840 H m11
              else none
            else
            f_L_waysAreSo_840 H m8
          else
          f_L_waysAreSo_840 H m3
        else
        f_L_waysAreSo_840 H m3
      else
      f_L_waysAreSo_840 H m2
    else
    fm_bn (f_L_link H (H.2.1 v0 0) v10 (5 : Int32) m1) fun x12 m12 =>
    fm_bn (f_L_link H (H.2.1 v0 0) v10 (2 : Int32) m12) fun x13 m13 =>
    if x12 ≤ x13 then
      fm_bn (f_L_link H (H.2.1 v0 0) v10 (5 : Int32) m13) fun x14 m14 =>
      fm_bn (f_L_link H (H.2.1 v0 0) v10 (2 : Int32) m14) fun x15 m15 =>
      fm_bn (f_L_link H (H.2.1 v0 0) v10 (6 : Int32) m15) fun x16 m16 =>
      f_L_waysAreSo_590 H v0 v1 v2 v3 v4 v5 v6 n (v7 + x14) (v8 + x15) (v9 + x16) (v10 + 1) m16
    else
    some ((0 : Int32), m13)
set_option maxRecDepth 10000 in
theorem w_L_waysAreSo_590 {G : pm_G} {H : fm_H} {d : Nat} {z0 : Nat × Nat × Nat} {K : pm_R → fm_M → Prop} (hE : fm_E G H) {v0 : Nat} {v1 : Int32} {v2 : Int32} {v3 : Int32} {v4 : Int32} {v5 : Int32} {v6 : Int32} (h0 : fm_is H v0 12) : ∀ (n : Nat) (v7 : Int32) (v8 : Int32) (v9 : Int32) (v10 : Int32) (m : fm_M), fm_o fm_rI (f_L_waysAreSo_590 H v0 v1 v2 v3 v4 v5 v6 n v7 v8 v9 v10 m) K → fm_V G H (d + 6) RL cL_waysAreSo (some (.boolean)) (fl_z H z0) K 590 [some (.ref v0), some (.int v1), some (.int v2), some (.int v3), some (.int v4), some (.int v5), some (.int v6), some (.int v7), some (.int v8), some (.int v9), some (.int v10), none, none, none] [] m := by
  have T : fm_T RL cL_waysAreSo tc_L_waysAreSo fr_L mr_L cr_L lr_L := ⟨tok_L, dc_L_waysAreSo⟩
  intro n
  induction n with
  | zero =>
    intro v7 v8 v9 v10 m 
    exact fs_none
  | succ n ih =>
    intro v7 v8 v9 v10 m 
    unfold f_L_waysAreSo_590
    refine fs_r T 2 593 [some (.ref v0), some (.int v1), some (.int v2), some (.int v3), some (.int v4), some (.int v5), some (.int v6), some (.int v7), some (.int v8), some (.int v9), some (.int v10), none, none, none] [.ref v0, .int v10] rfl ?_
    refine fs_gs T 596 12 0 v0 rfl rfl rfl rfl h0 ?_
    refine fs_r T 1 597 [some (.ref v0), some (.int v1), some (.int v2), some (.int v3), some (.int v4), some (.int v5), some (.int v6), some (.int v7), some (.int v8), some (.int v9), some (.int v10), none, none, none] [.int (3 : Int32), .ref (H.2.1 v0 0), .int v10] rfl ?_
    refine fs_sIh T 600 rfl rfl ml_L_145 rfl rfl rfl rfl rfl (q_L_count (d := d + 1) hE (hE.1 _ 12 0 h0)) ?_
    intro x1 m1
    refine fs_ic_ge T 680 603 rfl rfl rfl (fun _ => ?_) (fun _ => ?_)
    · refine fs_r T 2 682 [some (.ref v0), some (.int v1), some (.int v2), some (.int v3), some (.int v4), some (.int v5), some (.int v6), some (.int v7), some (.int v8), some (.int v9), some (.int v10), none, none, none] [.ref v0, .int v1] rfl ?_
      refine fs_gs T 685 12 0 v0 rfl rfl rfl rfl h0 ?_
      refine fs_r T 1 687 [some (.ref v0), some (.int v1), some (.int v2), some (.int v3), some (.int v4), some (.int v5), some (.int v6), some (.int v7), some (.int v8), some (.int v9), some (.int v10), none, none, none] [.int (13 : Int32), .ref (H.2.1 v0 0), .int v1] rfl ?_
      refine fs_sIh T 690 rfl rfl ml_L_145 rfl rfl rfl rfl rfl (q_L_count (d := d + 1) hE (hE.1 _ 12 0 h0)) ?_
      intro x2 m2
      refine fs_ic_ne T 840 693 rfl rfl rfl (fun _ => ?_) (fun _ => ?_)
      · refine fs_r T 2 696 [some (.ref v0), some (.int v1), some (.int v2), some (.int v3), some (.int v4), some (.int v5), some (.int v6), some (.int v7), some (.int v8), some (.int v9), some (.int v10), none, none, none] [.ref v0, .int v6] rfl ?_
        refine fs_gs T 699 12 0 v0 rfl rfl rfl rfl h0 ?_
        refine fs_r T 1 701 [some (.ref v0), some (.int v1), some (.int v2), some (.int v3), some (.int v4), some (.int v5), some (.int v6), some (.int v7), some (.int v8), some (.int v9), some (.int v10), none, none, none] [.int (6 : Int32), .ref (H.2.1 v0 0), .int v6] rfl ?_
        refine fs_sIh T 704 rfl rfl ml_L_145 rfl rfl rfl rfl rfl (q_L_count (d := d + 1) hE (hE.1 _ 12 0 h0)) ?_
        intro x3 m3
        refine fs_ic_ne T 840 707 rfl rfl rfl (fun _ => ?_) (fun _ => ?_)
        · refine fs_r T 2 711 [some (.ref v0), some (.int v1), some (.int v2), some (.int v3), some (.int v4), some (.int v5), some (.int v6), some (.int v7), some (.int v8), some (.int v9), some (.int v10), none, none, none] [.int v6, .int v9] rfl ?_
          refine fs_ic_ne T 840 714 rfl rfl rfl (fun _ => ?_) (fun _ => ?_)
          · refine fs_r T 2 716 [some (.ref v0), some (.int v1), some (.int v2), some (.int v3), some (.int v4), some (.int v5), some (.int v6), some (.int v7), some (.int v8), some (.int v9), some (.int v10), none, none, none] [.ref v0, .int v2] rfl ?_
            refine fs_gs T 719 12 0 v0 rfl rfl rfl rfl h0 ?_
            refine fs_r T 1 721 [some (.ref v0), some (.int v1), some (.int v2), some (.int v3), some (.int v4), some (.int v5), some (.int v6), some (.int v7), some (.int v8), some (.int v9), some (.int v10), none, none, none] [.int (7 : Int32), .ref (H.2.1 v0 0), .int v2] rfl ?_
            refine fs_sIh T 724 rfl rfl ml_L_145 rfl rfl rfl rfl rfl (q_L_count (d := d + 1) hE (hE.1 _ 12 0 h0)) ?_
            intro x4 m4
            refine fs_ic_gt T 840 727 rfl rfl rfl (fun _ => ?_) (fun _ => ?_)
            · refine fs_wk (ls' := [none, none, none, none, none, none, none, none, none, none, none, none, none, none]) trivial ?_
              exact w_L_waysAreSo_840 hE  _
            · refine fs_r T 2 729 [some (.ref v0), some (.int v1), some (.int v2), some (.int v3), some (.int v4), some (.int v5), some (.int v6), some (.int v7), some (.int v8), some (.int v9), some (.int v10), none, none, none] [.ref v0, .int v3] rfl ?_
              refine fs_gs T 732 12 0 v0 rfl rfl rfl rfl h0 ?_
              refine fs_r T 1 734 [some (.ref v0), some (.int v1), some (.int v2), some (.int v3), some (.int v4), some (.int v5), some (.int v6), some (.int v7), some (.int v8), some (.int v9), some (.int v10), none, none, none] [.int (8 : Int32), .ref (H.2.1 v0 0), .int v3] rfl ?_
              refine fs_sIh T 737 rfl rfl ml_L_145 rfl rfl rfl rfl rfl (q_L_count (d := d + 1) hE (hE.1 _ 12 0 h0)) ?_
              intro x5 m5
              refine fs_ic_gt T 840 740 rfl rfl rfl (fun _ => ?_) (fun _ => ?_)
              · refine fs_wk (ls' := [none, none, none, none, none, none, none, none, none, none, none, none, none, none]) trivial ?_
                exact w_L_waysAreSo_840 hE  _
              · refine fs_r T 1 741 [some (.ref v0), some (.int v1), some (.int v2), some (.int v3), some (.int v4), some (.int v5), some (.int v6), some (.int v7), some (.int v8), some (.int v9), some (.int v10), none, none, none] [.ref v0] rfl ?_
                refine fs_gs T 744 12 0 v0 rfl rfl rfl rfl h0 ?_
                refine fs_r T 1 746 [some (.ref v0), some (.int v1), some (.int v2), some (.int v3), some (.int v4), some (.int v5), some (.int v6), some (.int v7), some (.int v8), some (.int v9), some (.int v10), none, none, none] [.int (7 : Int32), .ref (H.2.1 v0 0)] rfl ?_
                refine fs_sIh T 749 rfl rfl ml_L_145 rfl rfl rfl rfl rfl (q_L_count (d := d + 1) hE (hE.1 _ 12 0 h0)) ?_
                intro x6 m6
                refine fs_r T 1 750 [some (.ref v0), some (.int v1), some (.int v2), some (.int v3), some (.int v4), some (.int v5), some (.int v6), some (.int v7), some (.int v8), some (.int v9), some (.int v10), none, none, none] [.ref v0, .int x6] rfl ?_
                refine fs_gs T 753 12 0 v0 rfl rfl rfl rfl h0 ?_
                refine fs_r T 1 755 [some (.ref v0), some (.int v1), some (.int v2), some (.int v3), some (.int v4), some (.int v5), some (.int v6), some (.int v7), some (.int v8), some (.int v9), some (.int v10), none, none, none] [.int (8 : Int32), .ref (H.2.1 v0 0), .int x6] rfl ?_
                refine fs_sIh T 758 rfl rfl ml_L_145 rfl rfl rfl rfl rfl (q_L_count (d := d + 1) hE (hE.1 _ 12 0 h0)) ?_
                intro x7 m7
                refine fs_r T 1 759 [some (.ref v0), some (.int v1), some (.int v2), some (.int v3), some (.int v4), some (.int v5), some (.int v6), some (.int v7), some (.int v8), some (.int v9), some (.int v10), none, none, none] [.ref v0, .int x7, .int x6] rfl ?_
                refine fs_gs T 762 12 0 v0 rfl rfl rfl rfl h0 ?_
                refine fs_r T 1 764 [some (.ref v0), some (.int v1), some (.int v2), some (.int v3), some (.int v4), some (.int v5), some (.int v6), some (.int v7), some (.int v8), some (.int v9), some (.int v10), none, none, none] [.int (9 : Int32), .ref (H.2.1 v0 0), .int x7, .int x6] rfl ?_
                refine fs_sIh T 767 rfl rfl ml_L_145 rfl rfl rfl rfl rfl (q_L_count (d := d + 1) hE (hE.1 _ 12 0 h0)) ?_
                intro x8 m8
                refine fs_r T 3 771 [some (.ref v0), some (.int v1), some (.int v2), some (.int v3), some (.int v4), some (.int v5), some (.int v6), some (.int v7), some (.int v8), some (.int v9), some (.int v10), none, none, none] [.int ((x7 + x8) + v6), .int x6] rfl ?_
                refine fs_ic_ne T 840 774 rfl rfl rfl (fun _ => ?_) (fun _ => ?_)
                · refine fs_r T 2 777 [some (.ref v0), some (.int v1), some (.int v2), some (.int v3), some (.int v4), some (.int v5), some (.int v6), some (.int v7), some (.int v8), some (.int v9), some (.int v10), none, none, none] [.ref v0, .int v4] rfl ?_
                  refine fs_gs T 780 12 0 v0 rfl rfl rfl rfl h0 ?_
                  refine fs_r T 1 782 [some (.ref v0), some (.int v1), some (.int v2), some (.int v3), some (.int v4), some (.int v5), some (.int v6), some (.int v7), some (.int v8), some (.int v9), some (.int v10), none, none, none] [.int (9 : Int32), .ref (H.2.1 v0 0), .int v4] rfl ?_
                  refine fs_sIh T 785 rfl rfl ml_L_145 rfl rfl rfl rfl rfl (q_L_count (d := d + 1) hE (hE.1 _ 12 0 h0)) ?_
                  intro x9 m9
                  refine fs_ic_gt T 840 788 rfl rfl rfl (fun _ => ?_) (fun _ => ?_)
                  · refine fs_wk (ls' := [none, none, none, none, none, none, none, none, none, none, none, none, none, none]) trivial ?_
                    exact w_L_waysAreSo_840 hE  _
                  · refine fs_r T 2 791 [some (.ref v0), some (.int v1), some (.int v2), some (.int v3), some (.int v4), some (.int v5), some (.int v6), some (.int v7), some (.int v8), some (.int v9), some (.int v10), none, none, none] [.ref v0, .int v5] rfl ?_
                    refine fs_gs T 794 12 0 v0 rfl rfl rfl rfl h0 ?_
                    refine fs_r T 1 796 [some (.ref v0), some (.int v1), some (.int v2), some (.int v3), some (.int v4), some (.int v5), some (.int v6), some (.int v7), some (.int v8), some (.int v9), some (.int v10), none, none, none] [.int (11 : Int32), .ref (H.2.1 v0 0), .int v5] rfl ?_
                    refine fs_sIh T 799 rfl rfl ml_L_145 rfl rfl rfl rfl rfl (q_L_count (d := d + 1) hE (hE.1 _ 12 0 h0)) ?_
                    intro x10 m10
                    refine fs_ic_gt T 840 802 rfl rfl rfl (fun _ => ?_) (fun _ => ?_)
                    · refine fs_wk (ls' := [none, none, none, none, none, none, none, none, none, none, none, none, none, none]) trivial ?_
                      exact w_L_waysAreSo_840 hE  _
                    · refine fs_r T 2 806 [some (.ref v0), some (.int v1), some (.int v2), some (.int v3), some (.int v4), some (.int v5), some (.int v6), some (.int v7), some (.int v8), some (.int v9), some (.int v10), none, none, none] [.int (60 : Int32), .int v6] rfl ?_
                      refine fs_ic_gt T 840 809 rfl rfl rfl (fun _ => ?_) (fun _ => ?_)
                      · refine fs_wk (ls' := [none, none, none, none, none, none, none, none, none, none, none, none, none, none]) trivial ?_
                        exact w_L_waysAreSo_840 hE  _
                      · refine fs_r T 1 810 [some (.ref v0), some (.int v1), some (.int v2), some (.int v3), some (.int v4), some (.int v5), some (.int v6), some (.int v7), some (.int v8), some (.int v9), some (.int v10), none, none, none] [.ref v0] rfl ?_
                        refine fs_gs T 813 12 0 v0 rfl rfl rfl rfl h0 ?_
                        refine fs_vF T 816 rfl rfl rfl rfl rfl rfl (hE.1 _ 12 0 h0) (q_X11_usage (d := d + 2) hE (hE.1 _ 12 0 h0)) ?_
                        intro x11 m11
                        refine fs_r T 1 818 [some (.ref v0), some (.int v1), some (.int v2), some (.int v3), some (.int v4), some (.int v5), some (.int v6), some (.int v7), some (.int v8), some (.int v9), some (.int v10), none, none, none] [.int v8, .float x11] rfl ?_
                        refine fs_if_ne T 825 821 rfl rfl rfl (fun _ => ?_) (fun _ => ?_)
                        · refine fs_r T 3 833 [some (.ref v0), some (.int v1), some (.int v2), some (.int v3), some (.int v4), some (.int v5), some (.int v6), some (.int v7), some (.int v8), some (.int v9), some (.int v10), none, none, none] [.int (Op.cmpValue (FP.fcmp x11 FP.fconst0) .l)] rfl ?_
                          refine fs_if_ne T 840 836 rfl rfl rfl (fun _ => ?_) (fun _ => ?_)
                          · refine fs_r T 2 841 [some (.ref v0), some (.int v1), some (.int v2), some (.int v3), some (.int v4), some (.int v5), some (.int v6), some (.int v7), some (.int v8), some (.int v9), some (.int v10), none, none, none] [.int (1 : Int32)] rfl ?_
                            exact fs_retc T rfl rfl rfl rfl
                          · refine fs_wk (ls' := [none, none, none, none, none, none, none, none, none, none, none, none, none, none]) trivial ?_
                            exact w_L_waysAreSo_840 hE  _
                        · refine fs_r T 4 831 [some (.ref v0), some (.int v1), some (.int v2), some (.int v3), some (.int v4), some (.int v5), some (.int v6), some (.int v7), some (.int v8), some (.int v9), some (.int v10), none, none, none] [.float (FP.i2f v8), .float (FP.i2f v7), .float x11] rfl ?_
                          refine fs_fdiv T 832 rfl rfl ?_
                          refine fs_r T 1 833 [some (.ref v0), some (.int v1), some (.int v2), some (.int v3), some (.int v4), some (.int v5), some (.int v6), some (.int v7), some (.int v8), some (.int v9), some (.int v10), none, none, none] [.int (Op.cmpValue (FP.fcmp x11 (FP.fdiv (FP.i2f v7) (FP.i2f v8))) .l)] rfl ?_
                          refine fs_if_ne T 840 836 rfl rfl rfl (fun _ => ?_) (fun _ => ?_)
                          · refine fs_r T 2 841 [some (.ref v0), some (.int v1), some (.int v2), some (.int v3), some (.int v4), some (.int v5), some (.int v6), some (.int v7), some (.int v8), some (.int v9), some (.int v10), none, none, none] [.int (1 : Int32)] rfl ?_
                            exact fs_retc T rfl rfl rfl rfl
                          · refine fs_wk (ls' := [none, none, none, none, none, none, none, none, none, none, none, none, none, none]) trivial ?_
                            exact w_L_waysAreSo_840 hE  _
                · refine fs_wk (ls' := [none, none, none, none, none, none, none, none, none, none, none, none, none, none]) trivial ?_
                  exact w_L_waysAreSo_840 hE  _
          · refine fs_wk (ls' := [none, none, none, none, none, none, none, none, none, none, none, none, none, none]) trivial ?_
            exact w_L_waysAreSo_840 hE  _
        · refine fs_wk (ls' := [none, none, none, none, none, none, none, none, none, none, none, none, none, none]) trivial ?_
          exact w_L_waysAreSo_840 hE  _
      · refine fs_wk (ls' := [none, none, none, none, none, none, none, none, none, none, none, none, none, none]) trivial ?_
        exact w_L_waysAreSo_840 hE  _
    · refine fs_r T 1 604 [some (.ref v0), some (.int v1), some (.int v2), some (.int v3), some (.int v4), some (.int v5), some (.int v6), some (.int v7), some (.int v8), some (.int v9), some (.int v10), none, none, none] [.ref v0] rfl ?_
      refine fs_gs T 607 12 0 v0 rfl rfl rfl rfl h0 ?_
      refine fs_r T 2 610 [some (.ref v0), some (.int v1), some (.int v2), some (.int v3), some (.int v4), some (.int v5), some (.int v6), some (.int v7), some (.int v8), some (.int v9), some (.int v10), none, none, none] [.int (5 : Int32), .int v10, .ref (H.2.1 v0 0)] rfl ?_
      refine fs_sIh T 613 rfl rfl ml_L_174 rfl rfl rfl rfl rfl (q_L_link (d := d + 2) hE (hE.1 _ 12 0 h0)) ?_
      intro x12 m12
      refine fs_r T 1 614 [some (.ref v0), some (.int v1), some (.int v2), some (.int v3), some (.int v4), some (.int v5), some (.int v6), some (.int v7), some (.int v8), some (.int v9), some (.int v10), none, none, none] [.ref v0, .int x12] rfl ?_
      refine fs_gs T 617 12 0 v0 rfl rfl rfl rfl h0 ?_
      refine fs_r T 2 620 [some (.ref v0), some (.int v1), some (.int v2), some (.int v3), some (.int v4), some (.int v5), some (.int v6), some (.int v7), some (.int v8), some (.int v9), some (.int v10), none, none, none] [.int (2 : Int32), .int v10, .ref (H.2.1 v0 0), .int x12] rfl ?_
      refine fs_sIh T 623 rfl rfl ml_L_174 rfl rfl rfl rfl rfl (q_L_link (d := d + 2) hE (hE.1 _ 12 0 h0)) ?_
      intro x13 m13
      refine fs_ic_le T 628 626 rfl rfl rfl (fun _ => ?_) (fun _ => ?_)
      · refine fs_r T 2 631 [some (.ref v0), some (.int v1), some (.int v2), some (.int v3), some (.int v4), some (.int v5), some (.int v6), some (.int v7), some (.int v8), some (.int v9), some (.int v10), none, none, none] [.ref v0, .int v7] rfl ?_
        refine fs_gs T 634 12 0 v0 rfl rfl rfl rfl h0 ?_
        refine fs_r T 2 637 [some (.ref v0), some (.int v1), some (.int v2), some (.int v3), some (.int v4), some (.int v5), some (.int v6), some (.int v7), some (.int v8), some (.int v9), some (.int v10), none, none, none] [.int (5 : Int32), .int v10, .ref (H.2.1 v0 0), .int v7] rfl ?_
        refine fs_sIh T 640 rfl rfl ml_L_174 rfl rfl rfl rfl rfl (q_L_link (d := d + 2) hE (hE.1 _ 12 0 h0)) ?_
        intro x14 m14
        refine fs_r T 4 646 [some (.ref v0), some (.int v1), some (.int v2), some (.int v3), some (.int v4), some (.int v5), some (.int v6), some (.int (v7 + x14)), some (.int v8), some (.int v9), some (.int v10), none, none, none] [.ref v0, .int v8] rfl ?_
        refine fs_gs T 649 12 0 v0 rfl rfl rfl rfl h0 ?_
        refine fs_r T 2 652 [some (.ref v0), some (.int v1), some (.int v2), some (.int v3), some (.int v4), some (.int v5), some (.int v6), some (.int (v7 + x14)), some (.int v8), some (.int v9), some (.int v10), none, none, none] [.int (2 : Int32), .int v10, .ref (H.2.1 v0 0), .int v8] rfl ?_
        refine fs_sIh T 655 rfl rfl ml_L_174 rfl rfl rfl rfl rfl (q_L_link (d := d + 2) hE (hE.1 _ 12 0 h0)) ?_
        intro x15 m15
        refine fs_r T 4 661 [some (.ref v0), some (.int v1), some (.int v2), some (.int v3), some (.int v4), some (.int v5), some (.int v6), some (.int (v7 + x14)), some (.int (v8 + x15)), some (.int v9), some (.int v10), none, none, none] [.ref v0, .int v9] rfl ?_
        refine fs_gs T 664 12 0 v0 rfl rfl rfl rfl h0 ?_
        refine fs_r T 2 668 [some (.ref v0), some (.int v1), some (.int v2), some (.int v3), some (.int v4), some (.int v5), some (.int v6), some (.int (v7 + x14)), some (.int (v8 + x15)), some (.int v9), some (.int v10), none, none, none] [.int (6 : Int32), .int v10, .ref (H.2.1 v0 0), .int v9] rfl ?_
        refine fs_sIh T 671 rfl rfl ml_L_174 rfl rfl rfl rfl rfl (q_L_link (d := d + 2) hE (hE.1 _ 12 0 h0)) ?_
        intro x16 m16
        refine fs_r T 4 590 [some (.ref v0), some (.int v1), some (.int v2), some (.int v3), some (.int v4), some (.int v5), some (.int v6), some (.int (v7 + x14)), some (.int (v8 + x15)), some (.int (v9 + x16)), some (.int (v10 + 1)), none, none, none] [] rfl ?_
        exact ih _ _ _ _ _
      · refine fs_r T 1 627 [some (.ref v0), some (.int v1), some (.int v2), some (.int v3), some (.int v4), some (.int v5), some (.int v6), some (.int v7), some (.int v8), some (.int v9), some (.int v10), none, none, none] [.int (0 : Int32)] rfl ?_
        exact fs_retc T rfl rfl rfl rfl
def f_L_waysAreSo_553 (H : fm_H) (k18 : Int32 → Int32 → Int32 → Int32 → Int32 → Int32 → Int32 → fm_M → Option (Int32 × fm_M)) (v0 : Nat) (v1 : Int32) (v2 : Int32) (v3 : Int32) (v4 : Int32) (v5 : Int32) (v6 : Int32) (v7 : Int32) (v8 : Int32) (m : fm_M) : Option (Int32 × fm_M) :=
  if v8 = 0 then
    fm_bn (f_L_movedIn H (H.2.1 v0 0) v7 m) fun x1 m1 =>
    if x1 = 0 then
      k18 v1 v2 v3 v4 v5 v6 (v7 + 1) m1
    else
    some ((0 : Int32), m1)
  else
  k18 v1 v2 v3 v4 v5 v6 (v7 + 1) m
set_option maxRecDepth 10000 in
theorem w_L_waysAreSo_553 {G : pm_G} {H : fm_H} {d : Nat} {z0 : Nat × Nat × Nat} {K : pm_R → fm_M → Prop} (hE : fm_E G H) {k18 : Int32 → Int32 → Int32 → Int32 → Int32 → Int32 → Int32 → fm_M → Option (Int32 × fm_M)} {v0 : Nat} {v1 : Int32} {v2 : Int32} {v3 : Int32} {v4 : Int32} {v5 : Int32} {v6 : Int32} {v7 : Int32} {v8 : Int32} (Hk18 : ∀ (v1 : Int32) (v2 : Int32) (v3 : Int32) (v4 : Int32) (v5 : Int32) (v6 : Int32) (v7 : Int32) (m : fm_M), fm_o fm_rI (k18 v1 v2 v3 v4 v5 v6 v7 m) K → fm_V G H (d + 6) RL cL_waysAreSo (some (.boolean)) (fl_z H z0) K 18 [some (.ref v0), some (.int v1), some (.int v2), some (.int v3), some (.int v4), some (.int v5), some (.int v6), some (.int v7), none, none, none, none, none, none] [] m) (h0 : fm_is H v0 12) : ∀ (m : fm_M), fm_o fm_rI (f_L_waysAreSo_553 H k18 v0 v1 v2 v3 v4 v5 v6 v7 v8 m) K → fm_V G H (d + 6) RL cL_waysAreSo (some (.boolean)) (fl_z H z0) K 553 [some (.ref v0), some (.int v1), some (.int v2), some (.int v3), some (.int v4), some (.int v5), some (.int v6), some (.int v7), some (.int v8), none, none, none, none, none] [] m := by
  have T : fm_T RL cL_waysAreSo tc_L_waysAreSo fr_L mr_L cr_L lr_L := ⟨tok_L, dc_L_waysAreSo⟩
  intro m
  unfold f_L_waysAreSo_553
  refine fs_r T 1 555 [some (.ref v0), some (.int v1), some (.int v2), some (.int v3), some (.int v4), some (.int v5), some (.int v6), some (.int v7), some (.int v8), none, none, none, none, none] [.int v8] rfl ?_
  refine fs_if_ne T 572 558 rfl rfl rfl (fun _ => ?_) (fun _ => ?_)
  · refine fs_r T 1 559 [some (.ref v0), some (.int v1), some (.int v2), some (.int v3), some (.int v4), some (.int v5), some (.int v6), some (.int v7), some (.int v8), none, none, none, none, none] [.ref v0] rfl ?_
    refine fs_gs T 562 12 0 v0 rfl rfl rfl rfl h0 ?_
    refine fs_r T 1 564 [some (.ref v0), some (.int v1), some (.int v2), some (.int v3), some (.int v4), some (.int v5), some (.int v6), some (.int v7), some (.int v8), none, none, none, none, none] [.int v7, .ref (H.2.1 v0 0)] rfl ?_
    refine fs_sIh T 567 rfl rfl ml_L_172 rfl rfl rfl rfl rfl (q_L_movedIn (d := d) hE (hE.1 _ 12 0 h0)) ?_
    intro x1 m1
    refine fs_if_eq T 572 570 rfl rfl rfl (fun _ => ?_) (fun _ => ?_)
    · refine fs_r T 2 18 [some (.ref v0), some (.int v1), some (.int v2), some (.int v3), some (.int v4), some (.int v5), some (.int v6), some (.int (v7 + 1)), some (.int v8), none, none, none, none, none] [] rfl ?_
      refine fs_wk (ls' := [some (.ref v0), some (.int v1), some (.int v2), some (.int v3), some (.int v4), some (.int v5), some (.int v6), some (.int (v7 + 1)), none, none, none, none, none, none]) ⟨rfl, rfl, rfl, rfl, rfl, rfl, rfl, rfl, trivial⟩ ?_
      exact Hk18 _ _ _ _ _ _ _ _
    · refine fs_r T 1 571 [some (.ref v0), some (.int v1), some (.int v2), some (.int v3), some (.int v4), some (.int v5), some (.int v6), some (.int v7), some (.int v8), none, none, none, none, none] [.int (0 : Int32)] rfl ?_
      exact fs_retc T rfl rfl rfl rfl
  · refine fs_r T 2 18 [some (.ref v0), some (.int v1), some (.int v2), some (.int v3), some (.int v4), some (.int v5), some (.int v6), some (.int (v7 + 1)), some (.int v8), none, none, none, none, none] [] rfl ?_
    refine fs_wk (ls' := [some (.ref v0), some (.int v1), some (.int v2), some (.int v3), some (.int v4), some (.int v5), some (.int v6), some (.int (v7 + 1)), none, none, none, none, none, none]) ⟨rfl, rfl, rfl, rfl, rfl, rfl, rfl, rfl, trivial⟩ ?_
    exact Hk18 _ _ _ _ _ _ _ _
def f_L_waysAreSo_385 (H : fm_H) (k18 : Int32 → Int32 → Int32 → Int32 → Int32 → Int32 → Int32 → fm_M → Option (Int32 × fm_M)) (k225 : Int32 → Int32 → fm_M → Option (Int32 × fm_M)) (k237 : Int32 → Int32 → Int32 → fm_M → Option (Int32 × fm_M)) (v0 : Nat) (v1 : Int32) (v2 : Int32) (v3 : Int32) (v4 : Int32) (v5 : Int32) (v6 : Int32) (v7 : Int32) (v8 : Int32) (v9 : Int32) (v10 : Int32) (v11 : Int32) (v12 : Int32) (v13 : Int32) (m : fm_M) : Option (Int32 × fm_M) :=
  if v12 ≤ 0 then
    k237 (v9 + 1) v13 (v12 + 1) m
  else
  fm_bn (f_L_areLinked H v0 v11 v13 m) fun x1 m1 =>
  if x1 = 0 then
    some ((0 : Int32), m1)
  else
  k237 (v9 + 1) v13 (v12 + 1) m1
set_option maxRecDepth 10000 in
theorem w_L_waysAreSo_385 {G : pm_G} {H : fm_H} {d : Nat} {z0 : Nat × Nat × Nat} {K : pm_R → fm_M → Prop} (hE : fm_E G H) {k18 : Int32 → Int32 → Int32 → Int32 → Int32 → Int32 → Int32 → fm_M → Option (Int32 × fm_M)} {k225 : Int32 → Int32 → fm_M → Option (Int32 × fm_M)} {k237 : Int32 → Int32 → Int32 → fm_M → Option (Int32 × fm_M)} {v0 : Nat} {v1 : Int32} {v2 : Int32} {v3 : Int32} {v4 : Int32} {v5 : Int32} {v6 : Int32} {v7 : Int32} {v8 : Int32} {v9 : Int32} {v10 : Int32} {v11 : Int32} {v12 : Int32} {v13 : Int32} (Hk18 : ∀ (v1 : Int32) (v2 : Int32) (v3 : Int32) (v4 : Int32) (v5 : Int32) (v6 : Int32) (v7 : Int32) (m : fm_M), fm_o fm_rI (k18 v1 v2 v3 v4 v5 v6 v7 m) K → fm_V G H (d + 6) RL cL_waysAreSo (some (.boolean)) (fl_z H z0) K 18 [some (.ref v0), some (.int v1), some (.int v2), some (.int v3), some (.int v4), some (.int v5), some (.int v6), some (.int v7), none, none, none, none, none, none] [] m) (Hk225 : ∀ (v9 : Int32) (v10 : Int32) (m : fm_M), fm_o fm_rI (k225 v9 v10 m) K → fm_V G H (d + 6) RL cL_waysAreSo (some (.boolean)) (fl_z H z0) K 225 [some (.ref v0), some (.int v1), some (.int v2), some (.int v3), some (.int v4), some (.int v5), some (.int v6), some (.int v7), some (.int v8), some (.int v9), some (.int v10), none, none, none] [] m) (Hk237 : ∀ (v9 : Int32) (v11 : Int32) (v12 : Int32) (m : fm_M), fm_o fm_rI (k237 v9 v11 v12 m) K → fm_V G H (d + 6) RL cL_waysAreSo (some (.boolean)) (fl_z H z0) K 237 [some (.ref v0), some (.int v1), some (.int v2), some (.int v3), some (.int v4), some (.int v5), some (.int v6), some (.int v7), some (.int v8), some (.int v9), some (.int v10), some (.int v11), some (.int v12), none] [] m) (h0 : fm_is H v0 12) : ∀ (m : fm_M), fm_o fm_rI (f_L_waysAreSo_385 H k18 k225 k237 v0 v1 v2 v3 v4 v5 v6 v7 v8 v9 v10 v11 v12 v13 m) K → fm_V G H (d + 6) RL cL_waysAreSo (some (.boolean)) (fl_z H z0) K 385 [some (.ref v0), some (.int v1), some (.int v2), some (.int v3), some (.int v4), some (.int v5), some (.int v6), some (.int v7), some (.int v8), some (.int v9), some (.int v10), some (.int v11), some (.int v12), some (.int v13)] [] m := by
  have T : fm_T RL cL_waysAreSo tc_L_waysAreSo fr_L mr_L cr_L lr_L := ⟨tok_L, dc_L_waysAreSo⟩
  intro m
  unfold f_L_waysAreSo_385
  refine fs_r T 1 387 [some (.ref v0), some (.int v1), some (.int v2), some (.int v3), some (.int v4), some (.int v5), some (.int v6), some (.int v7), some (.int v8), some (.int v9), some (.int v10), some (.int v11), some (.int v12), some (.int v13)] [.int v12] rfl ?_
  refine fs_if_le T 403 390 rfl rfl rfl (fun _ => ?_) (fun _ => ?_)
  · refine fs_r T 5 237 [some (.ref v0), some (.int v1), some (.int v2), some (.int v3), some (.int v4), some (.int v5), some (.int v6), some (.int v7), some (.int v8), some (.int (v9 + 1)), some (.int v10), some (.int v13), some (.int (v12 + 1)), some (.int v13)] [] rfl ?_
    refine fs_wk (ls' := [some (.ref v0), some (.int v1), some (.int v2), some (.int v3), some (.int v4), some (.int v5), some (.int v6), some (.int v7), some (.int v8), some (.int (v9 + 1)), some (.int v10), some (.int v13), some (.int (v12 + 1)), none]) ⟨rfl, rfl, rfl, rfl, rfl, rfl, rfl, rfl, rfl, rfl, rfl, rfl, rfl, trivial⟩ ?_
    exact Hk237 _ _ _ _
  · refine fs_r T 3 395 [some (.ref v0), some (.int v1), some (.int v2), some (.int v3), some (.int v4), some (.int v5), some (.int v6), some (.int v7), some (.int v8), some (.int v9), some (.int v10), some (.int v11), some (.int v12), some (.int v13)] [.int v13, .int v11, .ref v0] rfl ?_
    refine fs_vI T 398 rfl rfl rfl rfl rfl rfl h0 (q_L_areLinked (d := d) hE h0) ?_
    intro x1 m1
    refine fs_if_ne T 403 401 rfl rfl rfl (fun _ => ?_) (fun _ => ?_)
    · refine fs_r T 1 402 [some (.ref v0), some (.int v1), some (.int v2), some (.int v3), some (.int v4), some (.int v5), some (.int v6), some (.int v7), some (.int v8), some (.int v9), some (.int v10), some (.int v11), some (.int v12), some (.int v13)] [.int (0 : Int32)] rfl ?_
      exact fs_retc T rfl rfl rfl rfl
    · refine fs_r T 5 237 [some (.ref v0), some (.int v1), some (.int v2), some (.int v3), some (.int v4), some (.int v5), some (.int v6), some (.int v7), some (.int v8), some (.int (v9 + 1)), some (.int v10), some (.int v13), some (.int (v12 + 1)), some (.int v13)] [] rfl ?_
      refine fs_wk (ls' := [some (.ref v0), some (.int v1), some (.int v2), some (.int v3), some (.int v4), some (.int v5), some (.int v6), some (.int v7), some (.int v8), some (.int (v9 + 1)), some (.int v10), some (.int v13), some (.int (v12 + 1)), none]) ⟨rfl, rfl, rfl, rfl, rfl, rfl, rfl, rfl, rfl, rfl, rfl, rfl, rfl, trivial⟩ ?_
      exact Hk237 _ _ _ _
def f_L_waysAreSo_346 (H : fm_H) (k18 : Int32 → Int32 → Int32 → Int32 → Int32 → Int32 → Int32 → fm_M → Option (Int32 × fm_M)) (k225 : Int32 → Int32 → fm_M → Option (Int32 × fm_M)) (k237 : Int32 → Int32 → Int32 → fm_M → Option (Int32 × fm_M)) (v0 : Nat) (v1 : Int32) (v2 : Int32) (v3 : Int32) (v4 : Int32) (v5 : Int32) (v6 : Int32) (v7 : Int32) (v8 : Int32) (v9 : Int32) (v10 : Int32) (v11 : Int32) (v12 : Int32) (v13 : Int32) (m : fm_M) : Option (Int32 × fm_M) :=
  if v12 ≤ 0 then
    f_L_waysAreSo_385 H k18 k225 k237 v0 v1 v2 v3 v4 v5 v6 v7 v8 v9 v10 v11 v12 v13 m
  else
  if (3 : Int32) ≤ v8 then
    f_L_waysAreSo_385 H k18 k225 k237 v0 v1 v2 v3 v4 v5 v6 v7 v8 v9 v10 v11 v12 v13 m
  else
  if v10 = (1 : Int32) then
    fm_bn (f_L_way H (H.2.1 v0 0) v7 (1 : Int32) v12 (2 : Int32) m) fun x2 m2 =>
    if 0 ≤ x2 then
      f_L_waysAreSo_385 H k18 k225 k237 v0 v1 v2 v3 v4 v5 v6 v7 v8 v9 v10 v11 v12 v13 m2
    else
    some ((0 : Int32), m2)
  else
  fm_bn (f_L_way H (H.2.1 v0 0) v7 (0 : Int32) v12 (2 : Int32) m) fun x1 m1 =>
  if 0 ≤ x1 then
    f_L_waysAreSo_385 H k18 k225 k237 v0 v1 v2 v3 v4 v5 v6 v7 v8 v9 v10 v11 v12 v13 m1
  else
  some ((0 : Int32), m1)
set_option maxRecDepth 10000 in
theorem w_L_waysAreSo_346 {G : pm_G} {H : fm_H} {d : Nat} {z0 : Nat × Nat × Nat} {K : pm_R → fm_M → Prop} (hE : fm_E G H) {k18 : Int32 → Int32 → Int32 → Int32 → Int32 → Int32 → Int32 → fm_M → Option (Int32 × fm_M)} {k225 : Int32 → Int32 → fm_M → Option (Int32 × fm_M)} {k237 : Int32 → Int32 → Int32 → fm_M → Option (Int32 × fm_M)} {v0 : Nat} {v1 : Int32} {v2 : Int32} {v3 : Int32} {v4 : Int32} {v5 : Int32} {v6 : Int32} {v7 : Int32} {v8 : Int32} {v9 : Int32} {v10 : Int32} {v11 : Int32} {v12 : Int32} {v13 : Int32} (Hk18 : ∀ (v1 : Int32) (v2 : Int32) (v3 : Int32) (v4 : Int32) (v5 : Int32) (v6 : Int32) (v7 : Int32) (m : fm_M), fm_o fm_rI (k18 v1 v2 v3 v4 v5 v6 v7 m) K → fm_V G H (d + 6) RL cL_waysAreSo (some (.boolean)) (fl_z H z0) K 18 [some (.ref v0), some (.int v1), some (.int v2), some (.int v3), some (.int v4), some (.int v5), some (.int v6), some (.int v7), none, none, none, none, none, none] [] m) (Hk225 : ∀ (v9 : Int32) (v10 : Int32) (m : fm_M), fm_o fm_rI (k225 v9 v10 m) K → fm_V G H (d + 6) RL cL_waysAreSo (some (.boolean)) (fl_z H z0) K 225 [some (.ref v0), some (.int v1), some (.int v2), some (.int v3), some (.int v4), some (.int v5), some (.int v6), some (.int v7), some (.int v8), some (.int v9), some (.int v10), none, none, none] [] m) (Hk237 : ∀ (v9 : Int32) (v11 : Int32) (v12 : Int32) (m : fm_M), fm_o fm_rI (k237 v9 v11 v12 m) K → fm_V G H (d + 6) RL cL_waysAreSo (some (.boolean)) (fl_z H z0) K 237 [some (.ref v0), some (.int v1), some (.int v2), some (.int v3), some (.int v4), some (.int v5), some (.int v6), some (.int v7), some (.int v8), some (.int v9), some (.int v10), some (.int v11), some (.int v12), none] [] m) (h0 : fm_is H v0 12) : ∀ (m : fm_M), fm_o fm_rI (f_L_waysAreSo_346 H k18 k225 k237 v0 v1 v2 v3 v4 v5 v6 v7 v8 v9 v10 v11 v12 v13 m) K → fm_V G H (d + 6) RL cL_waysAreSo (some (.boolean)) (fl_z H z0) K 346 [some (.ref v0), some (.int v1), some (.int v2), some (.int v3), some (.int v4), some (.int v5), some (.int v6), some (.int v7), some (.int v8), some (.int v9), some (.int v10), some (.int v11), some (.int v12), some (.int v13)] [] m := by
  have T : fm_T RL cL_waysAreSo tc_L_waysAreSo fr_L mr_L cr_L lr_L := ⟨tok_L, dc_L_waysAreSo⟩
  intro m
  unfold f_L_waysAreSo_346
  refine fs_r T 1 348 [some (.ref v0), some (.int v1), some (.int v2), some (.int v3), some (.int v4), some (.int v5), some (.int v6), some (.int v7), some (.int v8), some (.int v9), some (.int v10), some (.int v11), some (.int v12), some (.int v13)] [.int v12] rfl ?_
  refine fs_if_le T 385 351 rfl rfl rfl (fun _ => ?_) (fun _ => ?_)
  · exact w_L_waysAreSo_385 hE Hk18 Hk225 Hk237 h0 _
  · refine fs_r T 2 354 [some (.ref v0), some (.int v1), some (.int v2), some (.int v3), some (.int v4), some (.int v5), some (.int v6), some (.int v7), some (.int v8), some (.int v9), some (.int v10), some (.int v11), some (.int v12), some (.int v13)] [.int (3 : Int32), .int v8] rfl ?_
    refine fs_ic_ge T 385 357 rfl rfl rfl (fun _ => ?_) (fun _ => ?_)
    · exact w_L_waysAreSo_385 hE Hk18 Hk225 Hk237 h0 _
    · refine fs_r T 1 358 [some (.ref v0), some (.int v1), some (.int v2), some (.int v3), some (.int v4), some (.int v5), some (.int v6), some (.int v7), some (.int v8), some (.int v9), some (.int v10), some (.int v11), some (.int v12), some (.int v13)] [.ref v0] rfl ?_
      refine fs_gs T 361 12 0 v0 rfl rfl rfl rfl h0 ?_
      refine fs_r T 3 366 [some (.ref v0), some (.int v1), some (.int v2), some (.int v3), some (.int v4), some (.int v5), some (.int v6), some (.int v7), some (.int v8), some (.int v9), some (.int v10), some (.int v11), some (.int v12), some (.int v13)] [.int (1 : Int32), .int v10, .int v7, .ref (H.2.1 v0 0)] rfl ?_
      refine fs_ic_ne T 373 369 rfl rfl rfl (fun _ => ?_) (fun _ => ?_)
      · refine fs_r T 4 377 [some (.ref v0), some (.int v1), some (.int v2), some (.int v3), some (.int v4), some (.int v5), some (.int v6), some (.int v7), some (.int v8), some (.int v9), some (.int v10), some (.int v11), some (.int v12), some (.int v13)] [.int (2 : Int32), .int v12, .int (1 : Int32), .int v7, .ref (H.2.1 v0 0)] rfl ?_
        refine fs_sIh T 380 rfl rfl ml_L_158 rfl rfl rfl rfl rfl (q_L_way (d := d + 2) hE (hE.1 _ 12 0 h0)) ?_
        intro x2 m2
        refine fs_if_ge T 385 383 rfl rfl rfl (fun _ => ?_) (fun _ => ?_)
        · exact w_L_waysAreSo_385 hE Hk18 Hk225 Hk237 h0 _
        · refine fs_r T 1 384 [some (.ref v0), some (.int v1), some (.int v2), some (.int v3), some (.int v4), some (.int v5), some (.int v6), some (.int v7), some (.int v8), some (.int v9), some (.int v10), some (.int v11), some (.int v12), some (.int v13)] [.int (0 : Int32)] rfl ?_
          exact fs_retc T rfl rfl rfl rfl
      · refine fs_r T 3 377 [some (.ref v0), some (.int v1), some (.int v2), some (.int v3), some (.int v4), some (.int v5), some (.int v6), some (.int v7), some (.int v8), some (.int v9), some (.int v10), some (.int v11), some (.int v12), some (.int v13)] [.int (2 : Int32), .int v12, .int (0 : Int32), .int v7, .ref (H.2.1 v0 0)] rfl ?_
        refine fs_sIh T 380 rfl rfl ml_L_158 rfl rfl rfl rfl rfl (q_L_way (d := d + 2) hE (hE.1 _ 12 0 h0)) ?_
        intro x1 m1
        refine fs_if_ge T 385 383 rfl rfl rfl (fun _ => ?_) (fun _ => ?_)
        · exact w_L_waysAreSo_385 hE Hk18 Hk225 Hk237 h0 _
        · refine fs_r T 1 384 [some (.ref v0), some (.int v1), some (.int v2), some (.int v3), some (.int v4), some (.int v5), some (.int v6), some (.int v7), some (.int v8), some (.int v9), some (.int v10), some (.int v11), some (.int v12), some (.int v13)] [.int (0 : Int32)] rfl ?_
          exact fs_retc T rfl rfl rfl rfl
def f_L_waysAreSo_319 (H : fm_H) (k18 : Int32 → Int32 → Int32 → Int32 → Int32 → Int32 → Int32 → fm_M → Option (Int32 × fm_M)) (k225 : Int32 → Int32 → fm_M → Option (Int32 × fm_M)) (k237 : Int32 → Int32 → Int32 → fm_M → Option (Int32 × fm_M)) (v0 : Nat) (v1 : Int32) (v2 : Int32) (v3 : Int32) (v4 : Int32) (v5 : Int32) (v6 : Int32) (v7 : Int32) (v8 : Int32) (v9 : Int32) (v10 : Int32) (v11 : Int32) (v12 : Int32) (v13 : Int32) (m : fm_M) : Option (Int32 × fm_M) :=
  if v12 ≤ 0 then
    f_L_waysAreSo_346 H k18 k225 k237 v0 v1 v2 v3 v4 v5 v6 v7 v8 v9 v10 v11 v12 v13 m
  else
  if v10 = (1 : Int32) then
    fm_bn (f_L_way H (H.2.1 v0 0) v7 (1 : Int32) v12 (2 : Int32) m) fun x1 m1 =>
    if x1 < 0 then
      some ((0 : Int32), m1)
    else
    f_L_waysAreSo_346 H k18 k225 k237 v0 v1 v2 v3 v4 v5 v6 v7 v8 v9 v10 v11 v12 v13 m1
  else
  f_L_waysAreSo_346 H k18 k225 k237 v0 v1 v2 v3 v4 v5 v6 v7 v8 v9 v10 v11 v12 v13 m
set_option maxRecDepth 10000 in
theorem w_L_waysAreSo_319 {G : pm_G} {H : fm_H} {d : Nat} {z0 : Nat × Nat × Nat} {K : pm_R → fm_M → Prop} (hE : fm_E G H) {k18 : Int32 → Int32 → Int32 → Int32 → Int32 → Int32 → Int32 → fm_M → Option (Int32 × fm_M)} {k225 : Int32 → Int32 → fm_M → Option (Int32 × fm_M)} {k237 : Int32 → Int32 → Int32 → fm_M → Option (Int32 × fm_M)} {v0 : Nat} {v1 : Int32} {v2 : Int32} {v3 : Int32} {v4 : Int32} {v5 : Int32} {v6 : Int32} {v7 : Int32} {v8 : Int32} {v9 : Int32} {v10 : Int32} {v11 : Int32} {v12 : Int32} {v13 : Int32} (Hk18 : ∀ (v1 : Int32) (v2 : Int32) (v3 : Int32) (v4 : Int32) (v5 : Int32) (v6 : Int32) (v7 : Int32) (m : fm_M), fm_o fm_rI (k18 v1 v2 v3 v4 v5 v6 v7 m) K → fm_V G H (d + 6) RL cL_waysAreSo (some (.boolean)) (fl_z H z0) K 18 [some (.ref v0), some (.int v1), some (.int v2), some (.int v3), some (.int v4), some (.int v5), some (.int v6), some (.int v7), none, none, none, none, none, none] [] m) (Hk225 : ∀ (v9 : Int32) (v10 : Int32) (m : fm_M), fm_o fm_rI (k225 v9 v10 m) K → fm_V G H (d + 6) RL cL_waysAreSo (some (.boolean)) (fl_z H z0) K 225 [some (.ref v0), some (.int v1), some (.int v2), some (.int v3), some (.int v4), some (.int v5), some (.int v6), some (.int v7), some (.int v8), some (.int v9), some (.int v10), none, none, none] [] m) (Hk237 : ∀ (v9 : Int32) (v11 : Int32) (v12 : Int32) (m : fm_M), fm_o fm_rI (k237 v9 v11 v12 m) K → fm_V G H (d + 6) RL cL_waysAreSo (some (.boolean)) (fl_z H z0) K 237 [some (.ref v0), some (.int v1), some (.int v2), some (.int v3), some (.int v4), some (.int v5), some (.int v6), some (.int v7), some (.int v8), some (.int v9), some (.int v10), some (.int v11), some (.int v12), none] [] m) (h0 : fm_is H v0 12) : ∀ (m : fm_M), fm_o fm_rI (f_L_waysAreSo_319 H k18 k225 k237 v0 v1 v2 v3 v4 v5 v6 v7 v8 v9 v10 v11 v12 v13 m) K → fm_V G H (d + 6) RL cL_waysAreSo (some (.boolean)) (fl_z H z0) K 319 [some (.ref v0), some (.int v1), some (.int v2), some (.int v3), some (.int v4), some (.int v5), some (.int v6), some (.int v7), some (.int v8), some (.int v9), some (.int v10), some (.int v11), some (.int v12), some (.int v13)] [] m := by
  have T : fm_T RL cL_waysAreSo tc_L_waysAreSo fr_L mr_L cr_L lr_L := ⟨tok_L, dc_L_waysAreSo⟩
  intro m
  unfold f_L_waysAreSo_319
  refine fs_r T 1 321 [some (.ref v0), some (.int v1), some (.int v2), some (.int v3), some (.int v4), some (.int v5), some (.int v6), some (.int v7), some (.int v8), some (.int v9), some (.int v10), some (.int v11), some (.int v12), some (.int v13)] [.int v12] rfl ?_
  refine fs_if_le T 346 324 rfl rfl rfl (fun _ => ?_) (fun _ => ?_)
  · exact w_L_waysAreSo_346 hE Hk18 Hk225 Hk237 h0 _
  · refine fs_r T 2 327 [some (.ref v0), some (.int v1), some (.int v2), some (.int v3), some (.int v4), some (.int v5), some (.int v6), some (.int v7), some (.int v8), some (.int v9), some (.int v10), some (.int v11), some (.int v12), some (.int v13)] [.int (1 : Int32), .int v10] rfl ?_
    refine fs_ic_ne T 346 330 rfl rfl rfl (fun _ => ?_) (fun _ => ?_)
    · refine fs_r T 1 331 [some (.ref v0), some (.int v1), some (.int v2), some (.int v3), some (.int v4), some (.int v5), some (.int v6), some (.int v7), some (.int v8), some (.int v9), some (.int v10), some (.int v11), some (.int v12), some (.int v13)] [.ref v0] rfl ?_
      refine fs_gs T 334 12 0 v0 rfl rfl rfl rfl h0 ?_
      refine fs_r T 4 340 [some (.ref v0), some (.int v1), some (.int v2), some (.int v3), some (.int v4), some (.int v5), some (.int v6), some (.int v7), some (.int v8), some (.int v9), some (.int v10), some (.int v11), some (.int v12), some (.int v13)] [.int (2 : Int32), .int v12, .int (1 : Int32), .int v7, .ref (H.2.1 v0 0)] rfl ?_
      refine fs_sIh T 343 rfl rfl ml_L_158 rfl rfl rfl rfl rfl (q_L_way (d := d + 2) hE (hE.1 _ 12 0 h0)) ?_
      intro x1 m1
      refine fs_if_lt T 383 346 rfl rfl rfl (fun _ => ?_) (fun _ => ?_)
      · refine fs_r T 1 384 [some (.ref v0), some (.int v1), some (.int v2), some (.int v3), some (.int v4), some (.int v5), some (.int v6), some (.int v7), some (.int v8), some (.int v9), some (.int v10), some (.int v11), some (.int v12), some (.int v13)] [.int (0 : Int32)] rfl ?_
        exact fs_retc T rfl rfl rfl rfl
      · exact w_L_waysAreSo_346 hE Hk18 Hk225 Hk237 h0 _
    · exact w_L_waysAreSo_346 hE Hk18 Hk225 Hk237 h0 _
def f_L_waysAreSo_280 (H : fm_H) (k18 : Int32 → Int32 → Int32 → Int32 → Int32 → Int32 → Int32 → fm_M → Option (Int32 × fm_M)) (k225 : Int32 → Int32 → fm_M → Option (Int32 × fm_M)) (k237 : Int32 → Int32 → Int32 → fm_M → Option (Int32 × fm_M)) (v0 : Nat) (v1 : Int32) (v2 : Int32) (v3 : Int32) (v4 : Int32) (v5 : Int32) (v6 : Int32) (v7 : Int32) (v8 : Int32) (v9 : Int32) (v10 : Int32) (v11 : Int32) (v12 : Int32) (s0 : Int32) (s1 : Int32) (s2 : Nat) (m : fm_M) : Option (Int32 × fm_M) :=
  fm_bn (f_L_way H s2 s1 s0 v12 (0 : Int32) m) fun x1 m1 =>
  if v12 = 0 then
    if v10 = (1 : Int32) then
      fm_bn (f_L_way H (H.2.1 v0 0) v7 (1 : Int32) (0 : Int32) (1 : Int32) m1) fun x3 m3 =>
      if x3 = (-1 : Int32) then
        f_L_waysAreSo_319 H k18 k225 k237 v0 v1 v2 v3 v4 v5 v6 v7 v8 v9 v10 v11 v12 x1 m3
      else
      some ((0 : Int32), m3)
    else
    fm_bn (f_L_way H (H.2.1 v0 0) v7 (0 : Int32) (0 : Int32) (1 : Int32) m1) fun x2 m2 =>
    if x2 = (-1 : Int32) then
      f_L_waysAreSo_319 H k18 k225 k237 v0 v1 v2 v3 v4 v5 v6 v7 v8 v9 v10 v11 v12 x1 m2
    else
    some ((0 : Int32), m2)
  else
  f_L_waysAreSo_319 H k18 k225 k237 v0 v1 v2 v3 v4 v5 v6 v7 v8 v9 v10 v11 v12 x1 m1
set_option maxRecDepth 10000 in
theorem w_L_waysAreSo_280 {G : pm_G} {H : fm_H} {d : Nat} {z0 : Nat × Nat × Nat} {K : pm_R → fm_M → Prop} (hE : fm_E G H) {k18 : Int32 → Int32 → Int32 → Int32 → Int32 → Int32 → Int32 → fm_M → Option (Int32 × fm_M)} {k225 : Int32 → Int32 → fm_M → Option (Int32 × fm_M)} {k237 : Int32 → Int32 → Int32 → fm_M → Option (Int32 × fm_M)} {v0 : Nat} {v1 : Int32} {v2 : Int32} {v3 : Int32} {v4 : Int32} {v5 : Int32} {v6 : Int32} {v7 : Int32} {v8 : Int32} {v9 : Int32} {v10 : Int32} {v11 : Int32} {v12 : Int32} (Hk18 : ∀ (v1 : Int32) (v2 : Int32) (v3 : Int32) (v4 : Int32) (v5 : Int32) (v6 : Int32) (v7 : Int32) (m : fm_M), fm_o fm_rI (k18 v1 v2 v3 v4 v5 v6 v7 m) K → fm_V G H (d + 6) RL cL_waysAreSo (some (.boolean)) (fl_z H z0) K 18 [some (.ref v0), some (.int v1), some (.int v2), some (.int v3), some (.int v4), some (.int v5), some (.int v6), some (.int v7), none, none, none, none, none, none] [] m) (Hk225 : ∀ (v9 : Int32) (v10 : Int32) (m : fm_M), fm_o fm_rI (k225 v9 v10 m) K → fm_V G H (d + 6) RL cL_waysAreSo (some (.boolean)) (fl_z H z0) K 225 [some (.ref v0), some (.int v1), some (.int v2), some (.int v3), some (.int v4), some (.int v5), some (.int v6), some (.int v7), some (.int v8), some (.int v9), some (.int v10), none, none, none] [] m) (Hk237 : ∀ (v9 : Int32) (v11 : Int32) (v12 : Int32) (m : fm_M), fm_o fm_rI (k237 v9 v11 v12 m) K → fm_V G H (d + 6) RL cL_waysAreSo (some (.boolean)) (fl_z H z0) K 237 [some (.ref v0), some (.int v1), some (.int v2), some (.int v3), some (.int v4), some (.int v5), some (.int v6), some (.int v7), some (.int v8), some (.int v9), some (.int v10), some (.int v11), some (.int v12), none] [] m) (h0 : fm_is H v0 12) : ∀ (s0 : Int32) (s1 : Int32) (s2 : Nat) (m : fm_M), fm_is H s2 11 → fm_o fm_rI (f_L_waysAreSo_280 H k18 k225 k237 v0 v1 v2 v3 v4 v5 v6 v7 v8 v9 v10 v11 v12 s0 s1 s2 m) K → fm_V G H (d + 6) RL cL_waysAreSo (some (.boolean)) (fl_z H z0) K 280 [some (.ref v0), some (.int v1), some (.int v2), some (.int v3), some (.int v4), some (.int v5), some (.int v6), some (.int v7), some (.int v8), some (.int v9), some (.int v10), some (.int v11), some (.int v12), none] [.int s0, .int s1, .ref s2] m := by
  have T : fm_T RL cL_waysAreSo tc_L_waysAreSo fr_L mr_L cr_L lr_L := ⟨tok_L, dc_L_waysAreSo⟩
  intro s0 s1 s2 m hs2
  unfold f_L_waysAreSo_280
  refine fs_r T 2 283 [some (.ref v0), some (.int v1), some (.int v2), some (.int v3), some (.int v4), some (.int v5), some (.int v6), some (.int v7), some (.int v8), some (.int v9), some (.int v10), some (.int v11), some (.int v12), none] [.int (0 : Int32), .int v12, .int s0, .int s1, .ref s2] rfl ?_
  refine fs_sIh T 286 rfl rfl ml_L_158 rfl rfl rfl rfl rfl (q_L_way (d := d + 2) hE hs2) ?_
  intro x1 m1
  refine fs_r T 2 290 [some (.ref v0), some (.int v1), some (.int v2), some (.int v3), some (.int v4), some (.int v5), some (.int v6), some (.int v7), some (.int v8), some (.int v9), some (.int v10), some (.int v11), some (.int v12), some (.int x1)] [.int v12] rfl ?_
  refine fs_if_ne T 319 293 rfl rfl rfl (fun _ => ?_) (fun _ => ?_)
  · refine fs_r T 1 294 [some (.ref v0), some (.int v1), some (.int v2), some (.int v3), some (.int v4), some (.int v5), some (.int v6), some (.int v7), some (.int v8), some (.int v9), some (.int v10), some (.int v11), some (.int v12), some (.int x1)] [.ref v0] rfl ?_
    refine fs_gs T 297 12 0 v0 rfl rfl rfl rfl h0 ?_
    refine fs_r T 3 302 [some (.ref v0), some (.int v1), some (.int v2), some (.int v3), some (.int v4), some (.int v5), some (.int v6), some (.int v7), some (.int v8), some (.int v9), some (.int v10), some (.int v11), some (.int v12), some (.int x1)] [.int (1 : Int32), .int v10, .int v7, .ref (H.2.1 v0 0)] rfl ?_
    refine fs_ic_ne T 309 305 rfl rfl rfl (fun _ => ?_) (fun _ => ?_)
    · refine fs_r T 4 312 [some (.ref v0), some (.int v1), some (.int v2), some (.int v3), some (.int v4), some (.int v5), some (.int v6), some (.int v7), some (.int v8), some (.int v9), some (.int v10), some (.int v11), some (.int v12), some (.int x1)] [.int (1 : Int32), .int (0 : Int32), .int (1 : Int32), .int v7, .ref (H.2.1 v0 0)] rfl ?_
      refine fs_sIh T 315 rfl rfl ml_L_158 rfl rfl rfl rfl rfl (q_L_way (d := d + 2) hE (hE.1 _ 12 0 h0)) ?_
      intro x3 m3
      refine fs_r T 1 316 [some (.ref v0), some (.int v1), some (.int v2), some (.int v3), some (.int v4), some (.int v5), some (.int v6), some (.int v7), some (.int v8), some (.int v9), some (.int v10), some (.int v11), some (.int v12), some (.int x1)] [.int (-1 : Int32), .int x3] rfl ?_
      refine fs_ic_ne T 383 319 rfl rfl rfl (fun _ => ?_) (fun _ => ?_)
      · exact w_L_waysAreSo_319 hE Hk18 Hk225 Hk237 h0 _
      · refine fs_r T 1 384 [some (.ref v0), some (.int v1), some (.int v2), some (.int v3), some (.int v4), some (.int v5), some (.int v6), some (.int v7), some (.int v8), some (.int v9), some (.int v10), some (.int v11), some (.int v12), some (.int x1)] [.int (0 : Int32)] rfl ?_
        exact fs_retc T rfl rfl rfl rfl
    · refine fs_r T 3 312 [some (.ref v0), some (.int v1), some (.int v2), some (.int v3), some (.int v4), some (.int v5), some (.int v6), some (.int v7), some (.int v8), some (.int v9), some (.int v10), some (.int v11), some (.int v12), some (.int x1)] [.int (1 : Int32), .int (0 : Int32), .int (0 : Int32), .int v7, .ref (H.2.1 v0 0)] rfl ?_
      refine fs_sIh T 315 rfl rfl ml_L_158 rfl rfl rfl rfl rfl (q_L_way (d := d + 2) hE (hE.1 _ 12 0 h0)) ?_
      intro x2 m2
      refine fs_r T 1 316 [some (.ref v0), some (.int v1), some (.int v2), some (.int v3), some (.int v4), some (.int v5), some (.int v6), some (.int v7), some (.int v8), some (.int v9), some (.int v10), some (.int v11), some (.int v12), some (.int x1)] [.int (-1 : Int32), .int x2] rfl ?_
      refine fs_ic_ne T 383 319 rfl rfl rfl (fun _ => ?_) (fun _ => ?_)
      · exact w_L_waysAreSo_319 hE Hk18 Hk225 Hk237 h0 _
      · refine fs_r T 1 384 [some (.ref v0), some (.int v1), some (.int v2), some (.int v3), some (.int v4), some (.int v5), some (.int v6), some (.int v7), some (.int v8), some (.int v9), some (.int v10), some (.int v11), some (.int v12), some (.int x1)] [.int (0 : Int32)] rfl ?_
        exact fs_retc T rfl rfl rfl rfl
  · exact w_L_waysAreSo_319 hE Hk18 Hk225 Hk237 h0 _
def f_L_waysAreSo_254 (H : fm_H) (k18 : Int32 → Int32 → Int32 → Int32 → Int32 → Int32 → Int32 → fm_M → Option (Int32 × fm_M)) (k225 : Int32 → Int32 → fm_M → Option (Int32 × fm_M)) (k237 : Int32 → Int32 → Int32 → fm_M → Option (Int32 × fm_M)) (v0 : Nat) (v1 : Int32) (v2 : Int32) (v3 : Int32) (v4 : Int32) (v5 : Int32) (v6 : Int32) (v7 : Int32) (v8 : Int32) (v9 : Int32) (v10 : Int32) (v11 : Int32) (v12 : Int32) (s0 : Int32) (s1 : Int32) (s2 : Nat) (m : fm_M) : Option (Int32 × fm_M) :=
  fm_bn (f_L_way H s2 s1 s0 v12 (0 : Int32) m) fun x1 m1 =>
  if x1 < 0 then
    if v10 = 0 then
      fm_bn (f_L_circuit H (H.2.1 v0 0) v7 (1 : Int32) m1) fun x5 m5 =>
      if v11 = x5 then
        fm_bn (f_L_way H (H.2.1 v0 0) v7 (0 : Int32) (0 : Int32) (0 : Int32) m5) fun x6 m6 =>
        fm_bn (f_L_circuit H (H.2.1 v0 0) v7 (0 : Int32) m6) fun x7 m7 =>
        if x6 = x7 then
          k225 v9 (v10 + 1) m7
        else
        some ((0 : Int32), m7)
      else
      some ((0 : Int32), m5)
    else
    if v8 ≤ 0 then
      k225 v9 (v10 + 1) m1
    else
    fm_bn (f_L_circuit H (H.2.1 v0 0) v7 (1 : Int32) m1) fun x2 m2 =>
    if v11 = x2 then
      fm_bn (f_L_way H (H.2.1 v0 0) v7 (1 : Int32) (0 : Int32) (0 : Int32) m2) fun x3 m3 =>
      fm_bn (f_L_circuit H (H.2.1 v0 0) v7 (0 : Int32) m3) fun x4 m4 =>
      if x3 = x4 then
        k225 v9 (v10 + 1) m4
      else
      some ((0 : Int32), m4)
    else
    some ((0 : Int32), m2)
  else
  if v10 = (1 : Int32) then
    f_L_waysAreSo_280 H k18 k225 k237 v0 v1 v2 v3 v4 v5 v6 v7 v8 v9 v10 v11 v12 (1 : Int32) v7 (H.2.1 v0 0) m1
  else
  f_L_waysAreSo_280 H k18 k225 k237 v0 v1 v2 v3 v4 v5 v6 v7 v8 v9 v10 v11 v12 (0 : Int32) v7 (H.2.1 v0 0) m1
set_option maxRecDepth 10000 in
theorem w_L_waysAreSo_254 {G : pm_G} {H : fm_H} {d : Nat} {z0 : Nat × Nat × Nat} {K : pm_R → fm_M → Prop} (hE : fm_E G H) {k18 : Int32 → Int32 → Int32 → Int32 → Int32 → Int32 → Int32 → fm_M → Option (Int32 × fm_M)} {k225 : Int32 → Int32 → fm_M → Option (Int32 × fm_M)} {k237 : Int32 → Int32 → Int32 → fm_M → Option (Int32 × fm_M)} {v0 : Nat} {v1 : Int32} {v2 : Int32} {v3 : Int32} {v4 : Int32} {v5 : Int32} {v6 : Int32} {v7 : Int32} {v8 : Int32} {v9 : Int32} {v10 : Int32} {v11 : Int32} {v12 : Int32} (Hk18 : ∀ (v1 : Int32) (v2 : Int32) (v3 : Int32) (v4 : Int32) (v5 : Int32) (v6 : Int32) (v7 : Int32) (m : fm_M), fm_o fm_rI (k18 v1 v2 v3 v4 v5 v6 v7 m) K → fm_V G H (d + 6) RL cL_waysAreSo (some (.boolean)) (fl_z H z0) K 18 [some (.ref v0), some (.int v1), some (.int v2), some (.int v3), some (.int v4), some (.int v5), some (.int v6), some (.int v7), none, none, none, none, none, none] [] m) (Hk225 : ∀ (v9 : Int32) (v10 : Int32) (m : fm_M), fm_o fm_rI (k225 v9 v10 m) K → fm_V G H (d + 6) RL cL_waysAreSo (some (.boolean)) (fl_z H z0) K 225 [some (.ref v0), some (.int v1), some (.int v2), some (.int v3), some (.int v4), some (.int v5), some (.int v6), some (.int v7), some (.int v8), some (.int v9), some (.int v10), none, none, none] [] m) (Hk237 : ∀ (v9 : Int32) (v11 : Int32) (v12 : Int32) (m : fm_M), fm_o fm_rI (k237 v9 v11 v12 m) K → fm_V G H (d + 6) RL cL_waysAreSo (some (.boolean)) (fl_z H z0) K 237 [some (.ref v0), some (.int v1), some (.int v2), some (.int v3), some (.int v4), some (.int v5), some (.int v6), some (.int v7), some (.int v8), some (.int v9), some (.int v10), some (.int v11), some (.int v12), none] [] m) (h0 : fm_is H v0 12) : ∀ (s0 : Int32) (s1 : Int32) (s2 : Nat) (m : fm_M), fm_is H s2 11 → fm_o fm_rI (f_L_waysAreSo_254 H k18 k225 k237 v0 v1 v2 v3 v4 v5 v6 v7 v8 v9 v10 v11 v12 s0 s1 s2 m) K → fm_V G H (d + 6) RL cL_waysAreSo (some (.boolean)) (fl_z H z0) K 254 [some (.ref v0), some (.int v1), some (.int v2), some (.int v3), some (.int v4), some (.int v5), some (.int v6), some (.int v7), some (.int v8), some (.int v9), some (.int v10), some (.int v11), some (.int v12), none] [.int s0, .int s1, .ref s2] m := by
  have T : fm_T RL cL_waysAreSo tc_L_waysAreSo fr_L mr_L cr_L lr_L := ⟨tok_L, dc_L_waysAreSo⟩
  intro s0 s1 s2 m hs2
  unfold f_L_waysAreSo_254
  refine fs_r T 2 257 [some (.ref v0), some (.int v1), some (.int v2), some (.int v3), some (.int v4), some (.int v5), some (.int v6), some (.int v7), some (.int v8), some (.int v9), some (.int v10), some (.int v11), some (.int v12), none] [.int (0 : Int32), .int v12, .int s0, .int s1, .ref s2] rfl ?_
  refine fs_sIh T 260 rfl rfl ml_L_158 rfl rfl rfl rfl rfl (q_L_way (d := d + 2) hE hs2) ?_
  intro x1 m1
  refine fs_if_lt T 416 263 rfl rfl rfl (fun _ => ?_) (fun _ => ?_)
  · refine fs_r T 1 418 [some (.ref v0), some (.int v1), some (.int v2), some (.int v3), some (.int v4), some (.int v5), some (.int v6), some (.int v7), some (.int v8), some (.int v9), some (.int v10), some (.int v11), some (.int v12), none] [.int v10] rfl ?_
    refine fs_if_ne T 464 421 rfl rfl rfl (fun _ => ?_) (fun _ => ?_)
    · refine fs_r T 2 424 [some (.ref v0), some (.int v1), some (.int v2), some (.int v3), some (.int v4), some (.int v5), some (.int v6), some (.int v7), some (.int v8), some (.int v9), some (.int v10), some (.int v11), some (.int v12), none] [.ref v0, .int v11] rfl ?_
      refine fs_gs T 427 12 0 v0 rfl rfl rfl rfl h0 ?_
      refine fs_r T 2 430 [some (.ref v0), some (.int v1), some (.int v2), some (.int v3), some (.int v4), some (.int v5), some (.int v6), some (.int v7), some (.int v8), some (.int v9), some (.int v10), some (.int v11), some (.int v12), none] [.int (1 : Int32), .int v7, .ref (H.2.1 v0 0), .int v11] rfl ?_
      refine fs_sIh T 433 rfl rfl ml_L_161 rfl rfl rfl rfl rfl (q_L_circuit (d := d + 1) hE (hE.1 _ 12 0 h0)) ?_
      intro x5 m5
      refine fs_ic_ne T 509 436 rfl rfl rfl (fun _ => ?_) (fun _ => ?_)
      · refine fs_r T 1 437 [some (.ref v0), some (.int v1), some (.int v2), some (.int v3), some (.int v4), some (.int v5), some (.int v6), some (.int v7), some (.int v8), some (.int v9), some (.int v10), some (.int v11), some (.int v12), none] [.ref v0] rfl ?_
        refine fs_gs T 440 12 0 v0 rfl rfl rfl rfl h0 ?_
        refine fs_r T 4 445 [some (.ref v0), some (.int v1), some (.int v2), some (.int v3), some (.int v4), some (.int v5), some (.int v6), some (.int v7), some (.int v8), some (.int v9), some (.int v10), some (.int v11), some (.int v12), none] [.int (0 : Int32), .int (0 : Int32), .int (0 : Int32), .int v7, .ref (H.2.1 v0 0)] rfl ?_
        refine fs_sIh T 448 rfl rfl ml_L_158 rfl rfl rfl rfl rfl (q_L_way (d := d + 2) hE (hE.1 _ 12 0 h0)) ?_
        intro x6 m6
        refine fs_r T 1 449 [some (.ref v0), some (.int v1), some (.int v2), some (.int v3), some (.int v4), some (.int v5), some (.int v6), some (.int v7), some (.int v8), some (.int v9), some (.int v10), some (.int v11), some (.int v12), none] [.ref v0, .int x6] rfl ?_
        refine fs_gs T 452 12 0 v0 rfl rfl rfl rfl h0 ?_
        refine fs_r T 2 455 [some (.ref v0), some (.int v1), some (.int v2), some (.int v3), some (.int v4), some (.int v5), some (.int v6), some (.int v7), some (.int v8), some (.int v9), some (.int v10), some (.int v11), some (.int v12), none] [.int (0 : Int32), .int v7, .ref (H.2.1 v0 0), .int x6] rfl ?_
        refine fs_sIh T 458 rfl rfl ml_L_161 rfl rfl rfl rfl rfl (q_L_circuit (d := d + 1) hE (hE.1 _ 12 0 h0)) ?_
        intro x7 m7
        refine fs_ic_eq T 511 461 rfl rfl rfl (fun _ => ?_) (fun _ => ?_)
        · refine fs_r T 2 225 [some (.ref v0), some (.int v1), some (.int v2), some (.int v3), some (.int v4), some (.int v5), some (.int v6), some (.int v7), some (.int v8), some (.int v9), some (.int (v10 + 1)), some (.int v11), some (.int v12), none] [] rfl ?_
          refine fs_wk (ls' := [some (.ref v0), some (.int v1), some (.int v2), some (.int v3), some (.int v4), some (.int v5), some (.int v6), some (.int v7), some (.int v8), some (.int v9), some (.int (v10 + 1)), none, none, none]) ⟨rfl, rfl, rfl, rfl, rfl, rfl, rfl, rfl, rfl, rfl, rfl, trivial⟩ ?_
          exact Hk225 _ _ _
        · refine fs_r T 2 510 [some (.ref v0), some (.int v1), some (.int v2), some (.int v3), some (.int v4), some (.int v5), some (.int v6), some (.int v7), some (.int v8), some (.int v9), some (.int v10), some (.int v11), some (.int v12), none] [.int (0 : Int32)] rfl ?_
          exact fs_retc T rfl rfl rfl rfl
      · refine fs_r T 1 510 [some (.ref v0), some (.int v1), some (.int v2), some (.int v3), some (.int v4), some (.int v5), some (.int v6), some (.int v7), some (.int v8), some (.int v9), some (.int v10), some (.int v11), some (.int v12), none] [.int (0 : Int32)] rfl ?_
        exact fs_retc T rfl rfl rfl rfl
    · refine fs_r T 1 466 [some (.ref v0), some (.int v1), some (.int v2), some (.int v3), some (.int v4), some (.int v5), some (.int v6), some (.int v7), some (.int v8), some (.int v9), some (.int v10), some (.int v11), some (.int v12), none] [.int v8] rfl ?_
      refine fs_if_le T 511 469 rfl rfl rfl (fun _ => ?_) (fun _ => ?_)
      · refine fs_r T 2 225 [some (.ref v0), some (.int v1), some (.int v2), some (.int v3), some (.int v4), some (.int v5), some (.int v6), some (.int v7), some (.int v8), some (.int v9), some (.int (v10 + 1)), some (.int v11), some (.int v12), none] [] rfl ?_
        refine fs_wk (ls' := [some (.ref v0), some (.int v1), some (.int v2), some (.int v3), some (.int v4), some (.int v5), some (.int v6), some (.int v7), some (.int v8), some (.int v9), some (.int (v10 + 1)), none, none, none]) ⟨rfl, rfl, rfl, rfl, rfl, rfl, rfl, rfl, rfl, rfl, rfl, trivial⟩ ?_
        exact Hk225 _ _ _
      · refine fs_r T 2 472 [some (.ref v0), some (.int v1), some (.int v2), some (.int v3), some (.int v4), some (.int v5), some (.int v6), some (.int v7), some (.int v8), some (.int v9), some (.int v10), some (.int v11), some (.int v12), none] [.ref v0, .int v11] rfl ?_
        refine fs_gs T 475 12 0 v0 rfl rfl rfl rfl h0 ?_
        refine fs_r T 2 478 [some (.ref v0), some (.int v1), some (.int v2), some (.int v3), some (.int v4), some (.int v5), some (.int v6), some (.int v7), some (.int v8), some (.int v9), some (.int v10), some (.int v11), some (.int v12), none] [.int (1 : Int32), .int v7, .ref (H.2.1 v0 0), .int v11] rfl ?_
        refine fs_sIh T 481 rfl rfl ml_L_161 rfl rfl rfl rfl rfl (q_L_circuit (d := d + 1) hE (hE.1 _ 12 0 h0)) ?_
        intro x2 m2
        refine fs_ic_ne T 509 484 rfl rfl rfl (fun _ => ?_) (fun _ => ?_)
        · refine fs_r T 1 485 [some (.ref v0), some (.int v1), some (.int v2), some (.int v3), some (.int v4), some (.int v5), some (.int v6), some (.int v7), some (.int v8), some (.int v9), some (.int v10), some (.int v11), some (.int v12), none] [.ref v0] rfl ?_
          refine fs_gs T 488 12 0 v0 rfl rfl rfl rfl h0 ?_
          refine fs_r T 4 493 [some (.ref v0), some (.int v1), some (.int v2), some (.int v3), some (.int v4), some (.int v5), some (.int v6), some (.int v7), some (.int v8), some (.int v9), some (.int v10), some (.int v11), some (.int v12), none] [.int (0 : Int32), .int (0 : Int32), .int (1 : Int32), .int v7, .ref (H.2.1 v0 0)] rfl ?_
          refine fs_sIh T 496 rfl rfl ml_L_158 rfl rfl rfl rfl rfl (q_L_way (d := d + 2) hE (hE.1 _ 12 0 h0)) ?_
          intro x3 m3
          refine fs_r T 1 497 [some (.ref v0), some (.int v1), some (.int v2), some (.int v3), some (.int v4), some (.int v5), some (.int v6), some (.int v7), some (.int v8), some (.int v9), some (.int v10), some (.int v11), some (.int v12), none] [.ref v0, .int x3] rfl ?_
          refine fs_gs T 500 12 0 v0 rfl rfl rfl rfl h0 ?_
          refine fs_r T 2 503 [some (.ref v0), some (.int v1), some (.int v2), some (.int v3), some (.int v4), some (.int v5), some (.int v6), some (.int v7), some (.int v8), some (.int v9), some (.int v10), some (.int v11), some (.int v12), none] [.int (0 : Int32), .int v7, .ref (H.2.1 v0 0), .int x3] rfl ?_
          refine fs_sIh T 506 rfl rfl ml_L_161 rfl rfl rfl rfl rfl (q_L_circuit (d := d + 1) hE (hE.1 _ 12 0 h0)) ?_
          intro x4 m4
          refine fs_ic_eq T 511 509 rfl rfl rfl (fun _ => ?_) (fun _ => ?_)
          · refine fs_r T 2 225 [some (.ref v0), some (.int v1), some (.int v2), some (.int v3), some (.int v4), some (.int v5), some (.int v6), some (.int v7), some (.int v8), some (.int v9), some (.int (v10 + 1)), some (.int v11), some (.int v12), none] [] rfl ?_
            refine fs_wk (ls' := [some (.ref v0), some (.int v1), some (.int v2), some (.int v3), some (.int v4), some (.int v5), some (.int v6), some (.int v7), some (.int v8), some (.int v9), some (.int (v10 + 1)), none, none, none]) ⟨rfl, rfl, rfl, rfl, rfl, rfl, rfl, rfl, rfl, rfl, rfl, trivial⟩ ?_
            exact Hk225 _ _ _
          · refine fs_r T 1 510 [some (.ref v0), some (.int v1), some (.int v2), some (.int v3), some (.int v4), some (.int v5), some (.int v6), some (.int v7), some (.int v8), some (.int v9), some (.int v10), some (.int v11), some (.int v12), none] [.int (0 : Int32)] rfl ?_
            exact fs_retc T rfl rfl rfl rfl
        · refine fs_r T 1 510 [some (.ref v0), some (.int v1), some (.int v2), some (.int v3), some (.int v4), some (.int v5), some (.int v6), some (.int v7), some (.int v8), some (.int v9), some (.int v10), some (.int v11), some (.int v12), none] [.int (0 : Int32)] rfl ?_
          exact fs_retc T rfl rfl rfl rfl
  · refine fs_r T 1 264 [some (.ref v0), some (.int v1), some (.int v2), some (.int v3), some (.int v4), some (.int v5), some (.int v6), some (.int v7), some (.int v8), some (.int v9), some (.int v10), some (.int v11), some (.int v12), none] [.ref v0] rfl ?_
    refine fs_gs T 267 12 0 v0 rfl rfl rfl rfl h0 ?_
    refine fs_r T 3 272 [some (.ref v0), some (.int v1), some (.int v2), some (.int v3), some (.int v4), some (.int v5), some (.int v6), some (.int v7), some (.int v8), some (.int v9), some (.int v10), some (.int v11), some (.int v12), none] [.int (1 : Int32), .int v10, .int v7, .ref (H.2.1 v0 0)] rfl ?_
    refine fs_ic_ne T 279 275 rfl rfl rfl (fun _ => ?_) (fun _ => ?_)
    · refine fs_r T 2 280 [some (.ref v0), some (.int v1), some (.int v2), some (.int v3), some (.int v4), some (.int v5), some (.int v6), some (.int v7), some (.int v8), some (.int v9), some (.int v10), some (.int v11), some (.int v12), none] [.int (1 : Int32), .int v7, .ref (H.2.1 v0 0)] rfl ?_
      exact w_L_waysAreSo_280 hE Hk18 Hk225 Hk237 h0 _ _ _ _ (hE.1 _ 12 0 h0)
    · refine fs_r T 1 280 [some (.ref v0), some (.int v1), some (.int v2), some (.int v3), some (.int v4), some (.int v5), some (.int v6), some (.int v7), some (.int v8), some (.int v9), some (.int v10), some (.int v11), some (.int v12), none] [.int (0 : Int32), .int v7, .ref (H.2.1 v0 0)] rfl ?_
      exact w_L_waysAreSo_280 hE Hk18 Hk225 Hk237 h0 _ _ _ _ (hE.1 _ 12 0 h0)
def f_L_waysAreSo_237 (H : fm_H) (k18 : Int32 → Int32 → Int32 → Int32 → Int32 → Int32 → Int32 → fm_M → Option (Int32 × fm_M)) (k225 : Int32 → Int32 → fm_M → Option (Int32 × fm_M)) (v0 : Nat) (v1 : Int32) (v2 : Int32) (v3 : Int32) (v4 : Int32) (v5 : Int32) (v6 : Int32) (v7 : Int32) (v8 : Int32) (v10 : Int32) : Nat → Int32 → Int32 → Int32 → fm_M → Option (Int32 × fm_M)
  | 0, _, _, _, _ => none
  | n + 1, v9, v11, v12, m =>
    if v10 = (1 : Int32) then
      f_L_waysAreSo_254 H k18 k225 (f_L_waysAreSo_237 H k18 k225 v0 v1 v2 v3 v4 v5 v6 v7 v8 v10 n) v0 v1 v2 v3 v4 v5 v6 v7 v8 v9 v10 v11 v12 (1 : Int32) v7 (H.2.1 v0 0) m
    else
    f_L_waysAreSo_254 H k18 k225 (f_L_waysAreSo_237 H k18 k225 v0 v1 v2 v3 v4 v5 v6 v7 v8 v10 n) v0 v1 v2 v3 v4 v5 v6 v7 v8 v9 v10 v11 v12 (0 : Int32) v7 (H.2.1 v0 0) m
set_option maxRecDepth 10000 in
theorem w_L_waysAreSo_237 {G : pm_G} {H : fm_H} {d : Nat} {z0 : Nat × Nat × Nat} {K : pm_R → fm_M → Prop} (hE : fm_E G H) {k18 : Int32 → Int32 → Int32 → Int32 → Int32 → Int32 → Int32 → fm_M → Option (Int32 × fm_M)} {k225 : Int32 → Int32 → fm_M → Option (Int32 × fm_M)} {v0 : Nat} {v1 : Int32} {v2 : Int32} {v3 : Int32} {v4 : Int32} {v5 : Int32} {v6 : Int32} {v7 : Int32} {v8 : Int32} {v10 : Int32} (Hk18 : ∀ (v1 : Int32) (v2 : Int32) (v3 : Int32) (v4 : Int32) (v5 : Int32) (v6 : Int32) (v7 : Int32) (m : fm_M), fm_o fm_rI (k18 v1 v2 v3 v4 v5 v6 v7 m) K → fm_V G H (d + 6) RL cL_waysAreSo (some (.boolean)) (fl_z H z0) K 18 [some (.ref v0), some (.int v1), some (.int v2), some (.int v3), some (.int v4), some (.int v5), some (.int v6), some (.int v7), none, none, none, none, none, none] [] m) (Hk225 : ∀ (v9 : Int32) (v10 : Int32) (m : fm_M), fm_o fm_rI (k225 v9 v10 m) K → fm_V G H (d + 6) RL cL_waysAreSo (some (.boolean)) (fl_z H z0) K 225 [some (.ref v0), some (.int v1), some (.int v2), some (.int v3), some (.int v4), some (.int v5), some (.int v6), some (.int v7), some (.int v8), some (.int v9), some (.int v10), none, none, none] [] m) (h0 : fm_is H v0 12) : ∀ (n : Nat) (v9 : Int32) (v11 : Int32) (v12 : Int32) (m : fm_M), fm_o fm_rI (f_L_waysAreSo_237 H k18 k225 v0 v1 v2 v3 v4 v5 v6 v7 v8 v10 n v9 v11 v12 m) K → fm_V G H (d + 6) RL cL_waysAreSo (some (.boolean)) (fl_z H z0) K 237 [some (.ref v0), some (.int v1), some (.int v2), some (.int v3), some (.int v4), some (.int v5), some (.int v6), some (.int v7), some (.int v8), some (.int v9), some (.int v10), some (.int v11), some (.int v12), none] [] m := by
  have T : fm_T RL cL_waysAreSo tc_L_waysAreSo fr_L mr_L cr_L lr_L := ⟨tok_L, dc_L_waysAreSo⟩
  intro n
  induction n with
  | zero =>
    intro v9 v11 v12 m 
    exact fs_none
  | succ n ih =>
    intro v9 v11 v12 m 
    unfold f_L_waysAreSo_237
    refine fs_r T 1 238 [some (.ref v0), some (.int v1), some (.int v2), some (.int v3), some (.int v4), some (.int v5), some (.int v6), some (.int v7), some (.int v8), some (.int v9), some (.int v10), some (.int v11), some (.int v12), none] [.ref v0] rfl ?_
    refine fs_gs T 241 12 0 v0 rfl rfl rfl rfl h0 ?_
    refine fs_r T 3 246 [some (.ref v0), some (.int v1), some (.int v2), some (.int v3), some (.int v4), some (.int v5), some (.int v6), some (.int v7), some (.int v8), some (.int v9), some (.int v10), some (.int v11), some (.int v12), none] [.int (1 : Int32), .int v10, .int v7, .ref (H.2.1 v0 0)] rfl ?_
    refine fs_ic_ne T 253 249 rfl rfl rfl (fun _ => ?_) (fun _ => ?_)
    · refine fs_r T 2 254 [some (.ref v0), some (.int v1), some (.int v2), some (.int v3), some (.int v4), some (.int v5), some (.int v6), some (.int v7), some (.int v8), some (.int v9), some (.int v10), some (.int v11), some (.int v12), none] [.int (1 : Int32), .int v7, .ref (H.2.1 v0 0)] rfl ?_
      exact w_L_waysAreSo_254 hE Hk18 Hk225 ih h0 _ _ _ _ (hE.1 _ 12 0 h0)
    · refine fs_r T 1 254 [some (.ref v0), some (.int v1), some (.int v2), some (.int v3), some (.int v4), some (.int v5), some (.int v6), some (.int v7), some (.int v8), some (.int v9), some (.int v10), some (.int v11), some (.int v12), none] [.int (0 : Int32), .int v7, .ref (H.2.1 v0 0)] rfl ?_
      exact w_L_waysAreSo_254 hE Hk18 Hk225 ih h0 _ _ _ _ (hE.1 _ 12 0 h0)
def f_L_waysAreSo_225 (H : fm_H) (k18 : Int32 → Int32 → Int32 → Int32 → Int32 → Int32 → Int32 → fm_M → Option (Int32 × fm_M)) (v0 : Nat) (v1 : Int32) (v2 : Int32) (v3 : Int32) (v4 : Int32) (v5 : Int32) (v6 : Int32) (v7 : Int32) (v8 : Int32) : Nat → Int32 → Int32 → fm_M → Option (Int32 × fm_M)
  | 0, _, _, _ => none
  | n + 1, v9, v10, m =>
    if (2 : Int32) ≤ v10 then
      if v9 < (2 : Int32) then
        some ((0 : Int32), m)
      else
      fm_bn (f_L_meanDelay H (H.2.1 v0 0) v7 m) fun x1 m1 =>
      if (Op.cmpValue (FP.dcmp x1 (13830554455654793216 : UInt64)) .l) = 0 then
        f_L_waysAreSo_553 H k18 v0 v1 v2 v3 v4 v5 v6 v7 v8 m1
      else
      fm_bn (f_L_circuit H (H.2.1 v0 0) v7 (8 : Int32) m1) fun x2 m2 =>
      if x2 = 0 then
        some ((0 : Int32), m2)
      else
      f_L_waysAreSo_553 H k18 v0 v1 v2 v3 v4 v5 v6 v7 v8 m2
    else
    f_L_waysAreSo_237 H k18 (f_L_waysAreSo_225 H k18 v0 v1 v2 v3 v4 v5 v6 v7 v8 n) v0 v1 v2 v3 v4 v5 v6 v7 v8 v10 fm_N v9 (-1 : Int32) (0 : Int32) m
set_option maxRecDepth 10000 in
theorem w_L_waysAreSo_225 {G : pm_G} {H : fm_H} {d : Nat} {z0 : Nat × Nat × Nat} {K : pm_R → fm_M → Prop} (hE : fm_E G H) {k18 : Int32 → Int32 → Int32 → Int32 → Int32 → Int32 → Int32 → fm_M → Option (Int32 × fm_M)} {v0 : Nat} {v1 : Int32} {v2 : Int32} {v3 : Int32} {v4 : Int32} {v5 : Int32} {v6 : Int32} {v7 : Int32} {v8 : Int32} (Hk18 : ∀ (v1 : Int32) (v2 : Int32) (v3 : Int32) (v4 : Int32) (v5 : Int32) (v6 : Int32) (v7 : Int32) (m : fm_M), fm_o fm_rI (k18 v1 v2 v3 v4 v5 v6 v7 m) K → fm_V G H (d + 6) RL cL_waysAreSo (some (.boolean)) (fl_z H z0) K 18 [some (.ref v0), some (.int v1), some (.int v2), some (.int v3), some (.int v4), some (.int v5), some (.int v6), some (.int v7), none, none, none, none, none, none] [] m) (h0 : fm_is H v0 12) : ∀ (n : Nat) (v9 : Int32) (v10 : Int32) (m : fm_M), fm_o fm_rI (f_L_waysAreSo_225 H k18 v0 v1 v2 v3 v4 v5 v6 v7 v8 n v9 v10 m) K → fm_V G H (d + 6) RL cL_waysAreSo (some (.boolean)) (fl_z H z0) K 225 [some (.ref v0), some (.int v1), some (.int v2), some (.int v3), some (.int v4), some (.int v5), some (.int v6), some (.int v7), some (.int v8), some (.int v9), some (.int v10), none, none, none] [] m := by
  have T : fm_T RL cL_waysAreSo tc_L_waysAreSo fr_L mr_L cr_L lr_L := ⟨tok_L, dc_L_waysAreSo⟩
  intro n
  induction n with
  | zero =>
    intro v9 v10 m 
    exact fs_none
  | succ n ih =>
    intro v9 v10 m 
    unfold f_L_waysAreSo_225
    refine fs_r T 2 228 [some (.ref v0), some (.int v1), some (.int v2), some (.int v3), some (.int v4), some (.int v5), some (.int v6), some (.int v7), some (.int v8), some (.int v9), some (.int v10), none, none, none] [.int (2 : Int32), .int v10] rfl ?_
    refine fs_ic_ge T 517 231 rfl rfl rfl (fun _ => ?_) (fun _ => ?_)
    · refine fs_r T 2 520 [some (.ref v0), some (.int v1), some (.int v2), some (.int v3), some (.int v4), some (.int v5), some (.int v6), some (.int v7), some (.int v8), some (.int v9), some (.int v10), none, none, none] [.int (2 : Int32), .int v9] rfl ?_
      refine fs_ic_lt T 570 523 rfl rfl rfl (fun _ => ?_) (fun _ => ?_)
      · refine fs_r T 1 571 [some (.ref v0), some (.int v1), some (.int v2), some (.int v3), some (.int v4), some (.int v5), some (.int v6), some (.int v7), some (.int v8), some (.int v9), some (.int v10), none, none, none] [.int (0 : Int32)] rfl ?_
        exact fs_retc T rfl rfl rfl rfl
      · refine fs_r T 1 524 [some (.ref v0), some (.int v1), some (.int v2), some (.int v3), some (.int v4), some (.int v5), some (.int v6), some (.int v7), some (.int v8), some (.int v9), some (.int v10), none, none, none] [.ref v0] rfl ?_
        refine fs_gs T 527 12 0 v0 rfl rfl rfl rfl h0 ?_
        refine fs_r T 1 529 [some (.ref v0), some (.int v1), some (.int v2), some (.int v3), some (.int v4), some (.int v5), some (.int v6), some (.int v7), some (.int v8), some (.int v9), some (.int v10), none, none, none] [.int v7, .ref (H.2.1 v0 0)] rfl ?_
        refine fs_sDh T 532 rfl rfl ml_L_167 rfl rfl rfl rfl rfl (q_L_meanDelay (d := d + 2) hE (hE.1 _ 12 0 h0)) ?_
        intro x1 m1
        refine fs_ldcD T 535 (idx := 170) (v := 13830554455654793216) rfl (pt_w_in (i := 1252) (by decide +kernel)) rfl ?_
        refine fs_r T 1 536 [some (.ref v0), some (.int v1), some (.int v2), some (.int v3), some (.int v4), some (.int v5), some (.int v6), some (.int v7), some (.int v8), some (.int v9), some (.int v10), none, none, none] [.int (Op.cmpValue (FP.dcmp x1 (13830554455654793216 : UInt64)) .l)] rfl ?_
        refine fs_if_eq T 553 539 rfl rfl rfl (fun _ => ?_) (fun _ => ?_)
        · refine fs_wk (ls' := [some (.ref v0), some (.int v1), some (.int v2), some (.int v3), some (.int v4), some (.int v5), some (.int v6), some (.int v7), some (.int v8), none, none, none, none, none]) ⟨rfl, rfl, rfl, rfl, rfl, rfl, rfl, rfl, rfl, trivial⟩ ?_
          exact w_L_waysAreSo_553 hE Hk18 h0 _
        · refine fs_r T 1 540 [some (.ref v0), some (.int v1), some (.int v2), some (.int v3), some (.int v4), some (.int v5), some (.int v6), some (.int v7), some (.int v8), some (.int v9), some (.int v10), none, none, none] [.ref v0] rfl ?_
          refine fs_gs T 543 12 0 v0 rfl rfl rfl rfl h0 ?_
          refine fs_r T 2 547 [some (.ref v0), some (.int v1), some (.int v2), some (.int v3), some (.int v4), some (.int v5), some (.int v6), some (.int v7), some (.int v8), some (.int v9), some (.int v10), none, none, none] [.int (8 : Int32), .int v7, .ref (H.2.1 v0 0)] rfl ?_
          refine fs_sIh T 550 rfl rfl ml_L_161 rfl rfl rfl rfl rfl (q_L_circuit (d := d + 1) hE (hE.1 _ 12 0 h0)) ?_
          intro x2 m2
          refine fs_if_eq T 570 553 rfl rfl rfl (fun _ => ?_) (fun _ => ?_)
          · refine fs_r T 1 571 [some (.ref v0), some (.int v1), some (.int v2), some (.int v3), some (.int v4), some (.int v5), some (.int v6), some (.int v7), some (.int v8), some (.int v9), some (.int v10), none, none, none] [.int (0 : Int32)] rfl ?_
            exact fs_retc T rfl rfl rfl rfl
          · refine fs_wk (ls' := [some (.ref v0), some (.int v1), some (.int v2), some (.int v3), some (.int v4), some (.int v5), some (.int v6), some (.int v7), some (.int v8), none, none, none, none, none]) ⟨rfl, rfl, rfl, rfl, rfl, rfl, rfl, rfl, rfl, trivial⟩ ?_
            exact w_L_waysAreSo_553 hE Hk18 h0 _
    · refine fs_r T 4 237 [some (.ref v0), some (.int v1), some (.int v2), some (.int v3), some (.int v4), some (.int v5), some (.int v6), some (.int v7), some (.int v8), some (.int v9), some (.int v10), some (.int (-1 : Int32)), some (.int (0 : Int32)), none] [] rfl ?_
      exact w_L_waysAreSo_237 hE Hk18 ih h0 _ _ _ _ _
def f_L_waysAreSo_176 (H : fm_H) (k18 : Int32 → Int32 → Int32 → Int32 → Int32 → Int32 → Int32 → fm_M → Option (Int32 × fm_M)) (v0 : Nat) (v1 : Int32) (v2 : Int32) (v3 : Int32) (v4 : Int32) (v5 : Int32) (v6 : Int32) (v7 : Int32) (v8 : Int32) (v9 : Int32) (s0 : Int32) (s1 : Int32) (m : fm_M) : Option (Int32 × fm_M) :=
  if s1 = s0 then
    fm_bn (f_L_circuit H (H.2.1 v0 0) v7 (6 : Int32) m) fun x1 m1 =>
    if (9 : Int32) < x1 then
      some ((0 : Int32), m1)
    else
    fm_bn (f_L_circuit H (H.2.1 v0 0) v7 (7 : Int32) m1) fun x2 m2 =>
    fm_bn (f_L_circuit H (H.2.1 v0 0) v7 (8 : Int32) m2) fun x3 m3 =>
    if x3 ≤ x2 then
      f_L_waysAreSo_225 H k18 v0 v1 v2 v3 v4 v5 v6 v7 v8 fm_N v9 (0 : Int32) m3
    else
    some ((0 : Int32), m3)
  else
  some ((0 : Int32), m)
set_option maxRecDepth 10000 in
theorem w_L_waysAreSo_176 {G : pm_G} {H : fm_H} {d : Nat} {z0 : Nat × Nat × Nat} {K : pm_R → fm_M → Prop} (hE : fm_E G H) {k18 : Int32 → Int32 → Int32 → Int32 → Int32 → Int32 → Int32 → fm_M → Option (Int32 × fm_M)} {v0 : Nat} {v1 : Int32} {v2 : Int32} {v3 : Int32} {v4 : Int32} {v5 : Int32} {v6 : Int32} {v7 : Int32} {v8 : Int32} {v9 : Int32} (Hk18 : ∀ (v1 : Int32) (v2 : Int32) (v3 : Int32) (v4 : Int32) (v5 : Int32) (v6 : Int32) (v7 : Int32) (m : fm_M), fm_o fm_rI (k18 v1 v2 v3 v4 v5 v6 v7 m) K → fm_V G H (d + 6) RL cL_waysAreSo (some (.boolean)) (fl_z H z0) K 18 [some (.ref v0), some (.int v1), some (.int v2), some (.int v3), some (.int v4), some (.int v5), some (.int v6), some (.int v7), none, none, none, none, none, none] [] m) (h0 : fm_is H v0 12) : ∀ (s0 : Int32) (s1 : Int32) (m : fm_M), fm_o fm_rI (f_L_waysAreSo_176 H k18 v0 v1 v2 v3 v4 v5 v6 v7 v8 v9 s0 s1 m) K → fm_V G H (d + 6) RL cL_waysAreSo (some (.boolean)) (fl_z H z0) K 176 [some (.ref v0), some (.int v1), some (.int v2), some (.int v3), some (.int v4), some (.int v5), some (.int v6), some (.int v7), some (.int v8), some (.int v9), none, none, none, none] [.int s0, .int s1] m := by
  have T : fm_T RL cL_waysAreSo tc_L_waysAreSo fr_L mr_L cr_L lr_L := ⟨tok_L, dc_L_waysAreSo⟩
  intro s0 s1 m
  unfold f_L_waysAreSo_176
  refine fs_ic_ne T 220 179 rfl rfl rfl (fun _ => ?_) (fun _ => ?_)
  · refine fs_r T 1 180 [some (.ref v0), some (.int v1), some (.int v2), some (.int v3), some (.int v4), some (.int v5), some (.int v6), some (.int v7), some (.int v8), some (.int v9), none, none, none, none] [.ref v0] rfl ?_
    refine fs_gs T 183 12 0 v0 rfl rfl rfl rfl h0 ?_
    refine fs_r T 2 187 [some (.ref v0), some (.int v1), some (.int v2), some (.int v3), some (.int v4), some (.int v5), some (.int v6), some (.int v7), some (.int v8), some (.int v9), none, none, none, none] [.int (6 : Int32), .int v7, .ref (H.2.1 v0 0)] rfl ?_
    refine fs_sIh T 190 rfl rfl ml_L_161 rfl rfl rfl rfl rfl (q_L_circuit (d := d + 1) hE (hE.1 _ 12 0 h0)) ?_
    intro x1 m1
    refine fs_r T 1 192 [some (.ref v0), some (.int v1), some (.int v2), some (.int v3), some (.int v4), some (.int v5), some (.int v6), some (.int v7), some (.int v8), some (.int v9), none, none, none, none] [.int (9 : Int32), .int x1] rfl ?_
    refine fs_ic_gt T 220 195 rfl rfl rfl (fun _ => ?_) (fun _ => ?_)
    · refine fs_r T 1 221 [some (.ref v0), some (.int v1), some (.int v2), some (.int v3), some (.int v4), some (.int v5), some (.int v6), some (.int v7), some (.int v8), some (.int v9), none, none, none, none] [.int (0 : Int32)] rfl ?_
      exact fs_retc T rfl rfl rfl rfl
    · refine fs_r T 1 196 [some (.ref v0), some (.int v1), some (.int v2), some (.int v3), some (.int v4), some (.int v5), some (.int v6), some (.int v7), some (.int v8), some (.int v9), none, none, none, none] [.ref v0] rfl ?_
      refine fs_gs T 199 12 0 v0 rfl rfl rfl rfl h0 ?_
      refine fs_r T 2 203 [some (.ref v0), some (.int v1), some (.int v2), some (.int v3), some (.int v4), some (.int v5), some (.int v6), some (.int v7), some (.int v8), some (.int v9), none, none, none, none] [.int (7 : Int32), .int v7, .ref (H.2.1 v0 0)] rfl ?_
      refine fs_sIh T 206 rfl rfl ml_L_161 rfl rfl rfl rfl rfl (q_L_circuit (d := d + 1) hE (hE.1 _ 12 0 h0)) ?_
      intro x2 m2
      refine fs_r T 1 207 [some (.ref v0), some (.int v1), some (.int v2), some (.int v3), some (.int v4), some (.int v5), some (.int v6), some (.int v7), some (.int v8), some (.int v9), none, none, none, none] [.ref v0, .int x2] rfl ?_
      refine fs_gs T 210 12 0 v0 rfl rfl rfl rfl h0 ?_
      refine fs_r T 2 214 [some (.ref v0), some (.int v1), some (.int v2), some (.int v3), some (.int v4), some (.int v5), some (.int v6), some (.int v7), some (.int v8), some (.int v9), none, none, none, none] [.int (8 : Int32), .int v7, .ref (H.2.1 v0 0), .int x2] rfl ?_
      refine fs_sIh T 217 rfl rfl ml_L_161 rfl rfl rfl rfl rfl (q_L_circuit (d := d + 1) hE (hE.1 _ 12 0 h0)) ?_
      intro x3 m3
      refine fs_ic_ge T 222 220 rfl rfl rfl (fun _ => ?_) (fun _ => ?_)
      · refine fs_r T 2 225 [some (.ref v0), some (.int v1), some (.int v2), some (.int v3), some (.int v4), some (.int v5), some (.int v6), some (.int v7), some (.int v8), some (.int v9), some (.int (0 : Int32)), none, none, none] [] rfl ?_
        exact w_L_waysAreSo_225 hE Hk18 h0 _ _ _ _
      · refine fs_r T 1 221 [some (.ref v0), some (.int v1), some (.int v2), some (.int v3), some (.int v4), some (.int v5), some (.int v6), some (.int v7), some (.int v8), some (.int v9), none, none, none, none] [.int (0 : Int32)] rfl ?_
        exact fs_retc T rfl rfl rfl rfl
  · refine fs_r T 1 221 [some (.ref v0), some (.int v1), some (.int v2), some (.int v3), some (.int v4), some (.int v5), some (.int v6), some (.int v7), some (.int v8), some (.int v9), none, none, none, none] [.int (0 : Int32)] rfl ?_
    exact fs_retc T rfl rfl rfl rfl
def f_L_waysAreSo_57 (H : fm_H) (k18 : Int32 → Int32 → Int32 → Int32 → Int32 → Int32 → Int32 → fm_M → Option (Int32 × fm_M)) (v0 : Nat) (v2 : Int32) (v3 : Int32) (v4 : Int32) (v5 : Int32) (v6 : Int32) (v7 : Int32) (v8 : Int32) (v9 : Int32) (s0 : Int32) (s1 : Int32) (m : fm_M) : Option (Int32 × fm_M) :=
  fm_bn (f_L_circuit H (H.2.1 v0 0) v7 (7 : Int32) m) fun x1 m1 =>
  fm_bn (f_L_circuit H (H.2.1 v0 0) v7 (8 : Int32) m1) fun x2 m2 =>
  fm_bn (f_L_circuit H (H.2.1 v0 0) v7 (9 : Int32) m2) fun x3 m3 =>
  fm_bn (f_L_circuit H (H.2.1 v0 0) v7 (10 : Int32) m3) fun x4 m4 =>
  fm_bn (f_L_circuit H (H.2.1 v0 0) v7 (13 : Int32) m4) fun x5 m5 =>
  if v8 < 0 then
    some ((0 : Int32), m5)
  else
  if (3 : Int32) < v8 then
    some ((0 : Int32), m5)
  else
  fm_bn (f_L_way H (H.2.1 v0 0) v7 (1 : Int32) (0 : Int32) (0 : Int32) m5) fun x6 m6 =>
  if x6 < 0 then
    if v8 ≤ 0 then
      f_L_waysAreSo_176 H k18 v0 (s1 + s0) (v2 + x1) (v3 + x2) (v4 + x3) (v5 + x4) (v6 + x5) v7 v8 v9 (0 : Int32) (0 : Int32) m6
    else
    f_L_waysAreSo_176 H k18 v0 (s1 + s0) (v2 + x1) (v3 + x2) (v4 + x3) (v5 + x4) (v6 + x5) v7 v8 v9 (1 : Int32) (0 : Int32) m6
  else
  if v8 ≤ 0 then
    f_L_waysAreSo_176 H k18 v0 (s1 + s0) (v2 + x1) (v3 + x2) (v4 + x3) (v5 + x4) (v6 + x5) v7 v8 v9 (0 : Int32) (1 : Int32) m6
  else
  f_L_waysAreSo_176 H k18 v0 (s1 + s0) (v2 + x1) (v3 + x2) (v4 + x3) (v5 + x4) (v6 + x5) v7 v8 v9 (1 : Int32) (1 : Int32) m6
set_option maxRecDepth 10000 in
theorem w_L_waysAreSo_57 {G : pm_G} {H : fm_H} {d : Nat} {z0 : Nat × Nat × Nat} {K : pm_R → fm_M → Prop} (hE : fm_E G H) {k18 : Int32 → Int32 → Int32 → Int32 → Int32 → Int32 → Int32 → fm_M → Option (Int32 × fm_M)} {v0 : Nat} {v2 : Int32} {v3 : Int32} {v4 : Int32} {v5 : Int32} {v6 : Int32} {v7 : Int32} {v8 : Int32} {v9 : Int32} (Hk18 : ∀ (v1 : Int32) (v2 : Int32) (v3 : Int32) (v4 : Int32) (v5 : Int32) (v6 : Int32) (v7 : Int32) (m : fm_M), fm_o fm_rI (k18 v1 v2 v3 v4 v5 v6 v7 m) K → fm_V G H (d + 6) RL cL_waysAreSo (some (.boolean)) (fl_z H z0) K 18 [some (.ref v0), some (.int v1), some (.int v2), some (.int v3), some (.int v4), some (.int v5), some (.int v6), some (.int v7), none, none, none, none, none, none] [] m) (h0 : fm_is H v0 12) : ∀ (s0 : Int32) (s1 : Int32) (m : fm_M), fm_o fm_rI (f_L_waysAreSo_57 H k18 v0 v2 v3 v4 v5 v6 v7 v8 v9 s0 s1 m) K → fm_V G H (d + 6) RL cL_waysAreSo (some (.boolean)) (fl_z H z0) K 57 [some (.ref v0), none, some (.int v2), some (.int v3), some (.int v4), some (.int v5), some (.int v6), some (.int v7), some (.int v8), some (.int v9), none, none, none, none] [.int s0, .int s1] m := by
  have T : fm_T RL cL_waysAreSo tc_L_waysAreSo fr_L mr_L cr_L lr_L := ⟨tok_L, dc_L_waysAreSo⟩
  intro s0 s1 m
  unfold f_L_waysAreSo_57
  refine fs_r T 4 61 [some (.ref v0), some (.int (s1 + s0)), some (.int v2), some (.int v3), some (.int v4), some (.int v5), some (.int v6), some (.int v7), some (.int v8), some (.int v9), none, none, none, none] [.ref v0, .int v2] rfl ?_
  refine fs_gs T 64 12 0 v0 rfl rfl rfl rfl h0 ?_
  refine fs_r T 2 68 [some (.ref v0), some (.int (s1 + s0)), some (.int v2), some (.int v3), some (.int v4), some (.int v5), some (.int v6), some (.int v7), some (.int v8), some (.int v9), none, none, none, none] [.int (7 : Int32), .int v7, .ref (H.2.1 v0 0), .int v2] rfl ?_
  refine fs_sIh T 71 rfl rfl ml_L_161 rfl rfl rfl rfl rfl (q_L_circuit (d := d + 1) hE (hE.1 _ 12 0 h0)) ?_
  intro x1 m1
  refine fs_r T 4 75 [some (.ref v0), some (.int (s1 + s0)), some (.int (v2 + x1)), some (.int v3), some (.int v4), some (.int v5), some (.int v6), some (.int v7), some (.int v8), some (.int v9), none, none, none, none] [.ref v0, .int v3] rfl ?_
  refine fs_gs T 78 12 0 v0 rfl rfl rfl rfl h0 ?_
  refine fs_r T 2 82 [some (.ref v0), some (.int (s1 + s0)), some (.int (v2 + x1)), some (.int v3), some (.int v4), some (.int v5), some (.int v6), some (.int v7), some (.int v8), some (.int v9), none, none, none, none] [.int (8 : Int32), .int v7, .ref (H.2.1 v0 0), .int v3] rfl ?_
  refine fs_sIh T 85 rfl rfl ml_L_161 rfl rfl rfl rfl rfl (q_L_circuit (d := d + 1) hE (hE.1 _ 12 0 h0)) ?_
  intro x2 m2
  refine fs_r T 4 90 [some (.ref v0), some (.int (s1 + s0)), some (.int (v2 + x1)), some (.int (v3 + x2)), some (.int v4), some (.int v5), some (.int v6), some (.int v7), some (.int v8), some (.int v9), none, none, none, none] [.ref v0, .int v4] rfl ?_
  refine fs_gs T 93 12 0 v0 rfl rfl rfl rfl h0 ?_
  refine fs_r T 2 97 [some (.ref v0), some (.int (s1 + s0)), some (.int (v2 + x1)), some (.int (v3 + x2)), some (.int v4), some (.int v5), some (.int v6), some (.int v7), some (.int v8), some (.int v9), none, none, none, none] [.int (9 : Int32), .int v7, .ref (H.2.1 v0 0), .int v4] rfl ?_
  refine fs_sIh T 100 rfl rfl ml_L_161 rfl rfl rfl rfl rfl (q_L_circuit (d := d + 1) hE (hE.1 _ 12 0 h0)) ?_
  intro x3 m3
  refine fs_r T 4 106 [some (.ref v0), some (.int (s1 + s0)), some (.int (v2 + x1)), some (.int (v3 + x2)), some (.int (v4 + x3)), some (.int v5), some (.int v6), some (.int v7), some (.int v8), some (.int v9), none, none, none, none] [.ref v0, .int v5] rfl ?_
  refine fs_gs T 109 12 0 v0 rfl rfl rfl rfl h0 ?_
  refine fs_r T 2 113 [some (.ref v0), some (.int (s1 + s0)), some (.int (v2 + x1)), some (.int (v3 + x2)), some (.int (v4 + x3)), some (.int v5), some (.int v6), some (.int v7), some (.int v8), some (.int v9), none, none, none, none] [.int (10 : Int32), .int v7, .ref (H.2.1 v0 0), .int v5] rfl ?_
  refine fs_sIh T 116 rfl rfl ml_L_161 rfl rfl rfl rfl rfl (q_L_circuit (d := d + 1) hE (hE.1 _ 12 0 h0)) ?_
  intro x4 m4
  refine fs_r T 4 122 [some (.ref v0), some (.int (s1 + s0)), some (.int (v2 + x1)), some (.int (v3 + x2)), some (.int (v4 + x3)), some (.int (v5 + x4)), some (.int v6), some (.int v7), some (.int v8), some (.int v9), none, none, none, none] [.ref v0, .int v6] rfl ?_
  refine fs_gs T 125 12 0 v0 rfl rfl rfl rfl h0 ?_
  refine fs_r T 2 129 [some (.ref v0), some (.int (s1 + s0)), some (.int (v2 + x1)), some (.int (v3 + x2)), some (.int (v4 + x3)), some (.int (v5 + x4)), some (.int v6), some (.int v7), some (.int v8), some (.int v9), none, none, none, none] [.int (13 : Int32), .int v7, .ref (H.2.1 v0 0), .int v6] rfl ?_
  refine fs_sIh T 132 rfl rfl ml_L_161 rfl rfl rfl rfl rfl (q_L_circuit (d := d + 1) hE (hE.1 _ 12 0 h0)) ?_
  intro x5 m5
  refine fs_r T 3 137 [some (.ref v0), some (.int (s1 + s0)), some (.int (v2 + x1)), some (.int (v3 + x2)), some (.int (v4 + x3)), some (.int (v5 + x4)), some (.int (v6 + x5)), some (.int v7), some (.int v8), some (.int v9), none, none, none, none] [.int v8] rfl ?_
  refine fs_if_lt T 220 140 rfl rfl rfl (fun _ => ?_) (fun _ => ?_)
  · refine fs_r T 1 221 [some (.ref v0), some (.int (s1 + s0)), some (.int (v2 + x1)), some (.int (v3 + x2)), some (.int (v4 + x3)), some (.int (v5 + x4)), some (.int (v6 + x5)), some (.int v7), some (.int v8), some (.int v9), none, none, none, none] [.int (0 : Int32)] rfl ?_
    exact fs_retc T rfl rfl rfl rfl
  · refine fs_r T 2 143 [some (.ref v0), some (.int (s1 + s0)), some (.int (v2 + x1)), some (.int (v3 + x2)), some (.int (v4 + x3)), some (.int (v5 + x4)), some (.int (v6 + x5)), some (.int v7), some (.int v8), some (.int v9), none, none, none, none] [.int (3 : Int32), .int v8] rfl ?_
    refine fs_ic_gt T 220 146 rfl rfl rfl (fun _ => ?_) (fun _ => ?_)
    · refine fs_r T 1 221 [some (.ref v0), some (.int (s1 + s0)), some (.int (v2 + x1)), some (.int (v3 + x2)), some (.int (v4 + x3)), some (.int (v5 + x4)), some (.int (v6 + x5)), some (.int v7), some (.int v8), some (.int v9), none, none, none, none] [.int (0 : Int32)] rfl ?_
      exact fs_retc T rfl rfl rfl rfl
    · refine fs_r T 1 147 [some (.ref v0), some (.int (s1 + s0)), some (.int (v2 + x1)), some (.int (v3 + x2)), some (.int (v4 + x3)), some (.int (v5 + x4)), some (.int (v6 + x5)), some (.int v7), some (.int v8), some (.int v9), none, none, none, none] [.ref v0] rfl ?_
      refine fs_gs T 150 12 0 v0 rfl rfl rfl rfl h0 ?_
      refine fs_r T 4 155 [some (.ref v0), some (.int (s1 + s0)), some (.int (v2 + x1)), some (.int (v3 + x2)), some (.int (v4 + x3)), some (.int (v5 + x4)), some (.int (v6 + x5)), some (.int v7), some (.int v8), some (.int v9), none, none, none, none] [.int (0 : Int32), .int (0 : Int32), .int (1 : Int32), .int v7, .ref (H.2.1 v0 0)] rfl ?_
      refine fs_sIh T 158 rfl rfl ml_L_158 rfl rfl rfl rfl rfl (q_L_way (d := d + 2) hE (hE.1 _ 12 0 h0)) ?_
      intro x6 m6
      refine fs_if_lt T 165 161 rfl rfl rfl (fun _ => ?_) (fun _ => ?_)
      · refine fs_r T 2 168 [some (.ref v0), some (.int (s1 + s0)), some (.int (v2 + x1)), some (.int (v3 + x2)), some (.int (v4 + x3)), some (.int (v5 + x4)), some (.int (v6 + x5)), some (.int v7), some (.int v8), some (.int v9), none, none, none, none] [.int v8, .int (0 : Int32)] rfl ?_
        refine fs_if_le T 175 171 rfl rfl rfl (fun _ => ?_) (fun _ => ?_)
        · refine fs_r T 1 176 [some (.ref v0), some (.int (s1 + s0)), some (.int (v2 + x1)), some (.int (v3 + x2)), some (.int (v4 + x3)), some (.int (v5 + x4)), some (.int (v6 + x5)), some (.int v7), some (.int v8), some (.int v9), none, none, none, none] [.int (0 : Int32), .int (0 : Int32)] rfl ?_
          exact w_L_waysAreSo_176 hE Hk18 h0 _ _ _
        · refine fs_r T 2 176 [some (.ref v0), some (.int (s1 + s0)), some (.int (v2 + x1)), some (.int (v3 + x2)), some (.int (v4 + x3)), some (.int (v5 + x4)), some (.int (v6 + x5)), some (.int v7), some (.int v8), some (.int v9), none, none, none, none] [.int (1 : Int32), .int (0 : Int32)] rfl ?_
          exact w_L_waysAreSo_176 hE Hk18 h0 _ _ _
      · refine fs_r T 3 168 [some (.ref v0), some (.int (s1 + s0)), some (.int (v2 + x1)), some (.int (v3 + x2)), some (.int (v4 + x3)), some (.int (v5 + x4)), some (.int (v6 + x5)), some (.int v7), some (.int v8), some (.int v9), none, none, none, none] [.int v8, .int (1 : Int32)] rfl ?_
        refine fs_if_le T 175 171 rfl rfl rfl (fun _ => ?_) (fun _ => ?_)
        · refine fs_r T 1 176 [some (.ref v0), some (.int (s1 + s0)), some (.int (v2 + x1)), some (.int (v3 + x2)), some (.int (v4 + x3)), some (.int (v5 + x4)), some (.int (v6 + x5)), some (.int v7), some (.int v8), some (.int v9), none, none, none, none] [.int (0 : Int32), .int (1 : Int32)] rfl ?_
          exact w_L_waysAreSo_176 hE Hk18 h0 _ _ _
        · refine fs_r T 2 176 [some (.ref v0), some (.int (s1 + s0)), some (.int (v2 + x1)), some (.int (v3 + x2)), some (.int (v4 + x3)), some (.int (v5 + x4)), some (.int (v6 + x5)), some (.int v7), some (.int v8), some (.int v9), none, none, none, none] [.int (1 : Int32), .int (1 : Int32)] rfl ?_
          exact w_L_waysAreSo_176 hE Hk18 h0 _ _ _
def f_L_waysAreSo_18 (H : fm_H) (v0 : Nat) : Nat → Int32 → Int32 → Int32 → Int32 → Int32 → Int32 → Int32 → fm_M → Option (Int32 × fm_M)
  | 0, _, _, _, _, _, _, _, _ => none
  | n + 1, v1, v2, v3, v4, v5, v6, v7, m =>
    fm_bn (f_L_count H (H.2.1 v0 0) (4 : Int32) m) fun x1 m1 =>
    if x1 ≤ v7 then
      f_L_waysAreSo_590 H v0 v1 v2 v3 v4 v5 v6 fm_N (0 : Int32) (0 : Int32) (0 : Int32) (0 : Int32) m1
    else
    fm_bn (f_L_circuit H (H.2.1 v0 0) v7 (4 : Int32) m1) fun x2 m2 =>
    if x2 ≤ 0 then
      f_L_waysAreSo_57 H (f_L_waysAreSo_18 H v0 n) v0 v2 v3 v4 v5 v6 v7 x2 (0 : Int32) (0 : Int32) v1 m2
    else
    f_L_waysAreSo_57 H (f_L_waysAreSo_18 H v0 n) v0 v2 v3 v4 v5 v6 v7 x2 (0 : Int32) (1 : Int32) v1 m2
set_option maxRecDepth 10000 in
theorem w_L_waysAreSo_18 {G : pm_G} {H : fm_H} {d : Nat} {z0 : Nat × Nat × Nat} {K : pm_R → fm_M → Prop} (hE : fm_E G H) {v0 : Nat} (h0 : fm_is H v0 12) : ∀ (n : Nat) (v1 : Int32) (v2 : Int32) (v3 : Int32) (v4 : Int32) (v5 : Int32) (v6 : Int32) (v7 : Int32) (m : fm_M), fm_o fm_rI (f_L_waysAreSo_18 H v0 n v1 v2 v3 v4 v5 v6 v7 m) K → fm_V G H (d + 6) RL cL_waysAreSo (some (.boolean)) (fl_z H z0) K 18 [some (.ref v0), some (.int v1), some (.int v2), some (.int v3), some (.int v4), some (.int v5), some (.int v6), some (.int v7), none, none, none, none, none, none] [] m := by
  have T : fm_T RL cL_waysAreSo tc_L_waysAreSo fr_L mr_L cr_L lr_L := ⟨tok_L, dc_L_waysAreSo⟩
  intro n
  induction n with
  | zero =>
    intro v1 v2 v3 v4 v5 v6 v7 m 
    exact fs_none
  | succ n ih =>
    intro v1 v2 v3 v4 v5 v6 v7 m 
    unfold f_L_waysAreSo_18
    refine fs_r T 2 21 [some (.ref v0), some (.int v1), some (.int v2), some (.int v3), some (.int v4), some (.int v5), some (.int v6), some (.int v7), none, none, none, none, none, none] [.ref v0, .int v7] rfl ?_
    refine fs_gs T 24 12 0 v0 rfl rfl rfl rfl h0 ?_
    refine fs_r T 1 25 [some (.ref v0), some (.int v1), some (.int v2), some (.int v3), some (.int v4), some (.int v5), some (.int v6), some (.int v7), none, none, none, none, none, none] [.int (4 : Int32), .ref (H.2.1 v0 0), .int v7] rfl ?_
    refine fs_sIh T 28 rfl rfl ml_L_145 rfl rfl rfl rfl rfl (q_L_count (d := d + 1) hE (hE.1 _ 12 0 h0)) ?_
    intro x1 m1
    refine fs_ic_ge T 578 31 rfl rfl rfl (fun _ => ?_) (fun _ => ?_)
    · refine fs_r T 8 590 [some (.ref v0), some (.int v1), some (.int v2), some (.int v3), some (.int v4), some (.int v5), some (.int v6), some (.int (0 : Int32)), some (.int (0 : Int32)), some (.int (0 : Int32)), some (.int (0 : Int32)), none, none, none] [] rfl ?_
      exact w_L_waysAreSo_590 hE h0 _ _ _ _ _ _
    · refine fs_r T 1 32 [some (.ref v0), some (.int v1), some (.int v2), some (.int v3), some (.int v4), some (.int v5), some (.int v6), some (.int v7), none, none, none, none, none, none] [.ref v0] rfl ?_
      refine fs_gs T 35 12 0 v0 rfl rfl rfl rfl h0 ?_
      refine fs_r T 2 38 [some (.ref v0), some (.int v1), some (.int v2), some (.int v3), some (.int v4), some (.int v5), some (.int v6), some (.int v7), none, none, none, none, none, none] [.int (4 : Int32), .int v7, .ref (H.2.1 v0 0)] rfl ?_
      refine fs_sIh T 41 rfl rfl ml_L_161 rfl rfl rfl rfl rfl (q_L_circuit (d := d + 1) hE (hE.1 _ 12 0 h0)) ?_
      intro x2 m2
      refine fs_r T 5 49 [some (.ref v0), some (.int v1), some (.int v2), some (.int v3), some (.int v4), some (.int v5), some (.int v6), some (.int v7), some (.int x2), some (.int (0 : Int32)), none, none, none, none] [.int x2, .int v1] rfl ?_
      refine fs_if_le T 56 52 rfl rfl rfl (fun _ => ?_) (fun _ => ?_)
      · refine fs_r T 1 57 [some (.ref v0), some (.int v1), some (.int v2), some (.int v3), some (.int v4), some (.int v5), some (.int v6), some (.int v7), some (.int x2), some (.int (0 : Int32)), none, none, none, none] [.int (0 : Int32), .int v1] rfl ?_
        refine fs_wk (ls' := [some (.ref v0), none, some (.int v2), some (.int v3), some (.int v4), some (.int v5), some (.int v6), some (.int v7), some (.int x2), some (.int (0 : Int32)), none, none, none, none]) ⟨rfl, rfl, rfl, rfl, rfl, rfl, rfl, rfl, rfl, trivial⟩ ?_
        exact w_L_waysAreSo_57 hE ih h0 _ _ _
      · refine fs_r T 2 57 [some (.ref v0), some (.int v1), some (.int v2), some (.int v3), some (.int v4), some (.int v5), some (.int v6), some (.int v7), some (.int x2), some (.int (0 : Int32)), none, none, none, none] [.int (1 : Int32), .int v1] rfl ?_
        refine fs_wk (ls' := [some (.ref v0), none, some (.int v2), some (.int v3), some (.int v4), some (.int v5), some (.int v6), some (.int v7), some (.int x2), some (.int (0 : Int32)), none, none, none, none]) ⟨rfl, rfl, rfl, rfl, rfl, rfl, rfl, rfl, rfl, trivial⟩ ?_
        exact w_L_waysAreSo_57 hE ih h0 _ _ _
def f_L_waysAreSo (H : fm_H) (v0 : Nat) (m : fm_M) : Option (Int32 × fm_M) :=
  f_L_waysAreSo_18 H v0 fm_N (0 : Int32) (0 : Int32) (0 : Int32) (0 : Int32) (0 : Int32) (0 : Int32) (0 : Int32) m
set_option maxRecDepth 10000 in
theorem q_L_waysAreSo {G : pm_G} {H : fm_H} {d : Nat} {z0 : Nat × Nat × Nat} {v0 : Nat} {m : fm_M} (hE : fm_E G H) (h0 : fm_is H v0 12) : fm_cal G H (d + 7) yL_waysAreSo [.ref v0] (fl_z H z0) m fm_rI (f_L_waysAreSo H v0 m) := fm_mth (d := d + 6) mt_L_waysAreSo rfl rfl rfl (fun K => by
  show fm_o fm_rI (f_L_waysAreSo H v0 m) K → fm_V G H (d + 6) RL cL_waysAreSo (some (.boolean)) (fl_z H z0) K 0 [some (.ref v0), none, none, none, none, none, none, none, none, none, none, none, none, none] [] m
  have T : fm_T RL cL_waysAreSo tc_L_waysAreSo fr_L mr_L cr_L lr_L := ⟨tok_L, dc_L_waysAreSo⟩
  unfold f_L_waysAreSo
  refine fs_r T 14 18 [some (.ref v0), some (.int (0 : Int32)), some (.int (0 : Int32)), some (.int (0 : Int32)), some (.int (0 : Int32)), some (.int (0 : Int32)), some (.int (0 : Int32)), some (.int (0 : Int32)), none, none, none, none, none, none] [] rfl ?_
  exact w_L_waysAreSo_18 hE h0 _ _ _ _ _ _ _ _ _)
