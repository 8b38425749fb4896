/-! functions out of the code -/
theorem ma_L_26 : pm_ma RL 26 true := ⟨pt_w_in (i := 517) (by decide +kernel), pt_w_in (i := 518) (by decide +kernel), pt_w_in (i := 49) (by decide +kernel), pt_w_in (i := 519) (by decide +kernel)⟩
theorem ma_X7_230 : pm_ma RX7 230 false := ⟨pt_w_in (i := 1047) (by decide +kernel), pt_w_in (i := 1048) (by decide +kernel), pt_w_in (i := 49) (by decide +kernel), pt_w_in (i := 1049) (by decide +kernel)⟩
theorem ma_X7_319 : pm_ma RX7 319 true := ⟨pt_w_in (i := 1156) (by decide +kernel), pt_w_in (i := 518) (by decide +kernel), pt_w_in (i := 49) (by decide +kernel), pt_w_in (i := 519) (by decide +kernel)⟩
def f_X10_erase (H : fm_H) (v0 : Nat) (m : fm_M) : Option (Unit × fm_M) :=
  fm_bd (fm_si m v0 0 (0 : Int32)) fun m1 =>
  some ((), m1)
set_option maxRecDepth 10000 in
theorem q_X10_erase {G : pm_G} {H : fm_H} {d : Nat} {z : fm_Z H} {v0 : Nat} {m : fm_M} (hE : fm_E G H) (h0 : fm_is H v0 10) : fm_cal G H (d + 1) yX10_erase [.ref v0] z m fm_rV (f_X10_erase H v0 m) := fm_mth (d := d + 0) mt_X10_erase rfl rfl rfl (fun K => by
  show fm_o fm_rV (f_X10_erase H v0 m) K → fm_V G H (d + 0) RX10 cX10_erase none z K 0 [some (.ref v0)] [] m
  have T : fm_T RX10 cX10_erase tc_X10_erase fr_X10 mr_X10 cr_X10 lr_X10 := ⟨tok_X10, dc_X10_erase⟩
  unfold f_X10_erase
  refine fs_r T 2 2 [some (.ref v0)] [.int (0 : Int32), .ref v0] rfl ?_
  refine fs_pi T 5 10 0 v0 rfl rfl rfl rfl h0 ?_
  intro m1
  exact fs_retv T rfl rfl rfl)
def f_X0_begin (H : fm_H) (v0 : Nat) (v1 : Int32) (v2 : Int32) (m : fm_M) : Option (Unit × fm_M) :=
  fm_bd (fm_si m v0 0 v1) fun m1 =>
  fm_bd (fm_si m1 v0 1 v2) fun m2 =>
  fm_bd (fm_si m2 v0 2 (0 : Int32)) fun m3 =>
  fm_bd (fm_si m3 v0 3 (0 : Int32)) fun m4 =>
  fm_bd (fm_si m4 v0 4 (0 : Int32)) fun m5 =>
  fm_bd (fm_si m5 v0 5 (0 : Int32)) fun m6 =>
  fm_bd (fm_si m6 v0 6 (0 : Int32)) fun m7 =>
  fm_bd (fm_si m7 v0 7 (0 : Int32)) fun m8 =>
  fm_bd (fm_si m8 v0 8 (0 : Int32)) fun m9 =>
  fm_bd (fm_si m9 v0 9 (0 : Int32)) fun m10 =>
  fm_bd (fm_si m10 v0 10 (0 : Int32)) fun m11 =>
  fm_bd (fm_si m11 v0 11 (0 : Int32)) fun m12 =>
  fm_bd (fm_si m12 v0 12 (-1 : Int32)) fun m13 =>
  if fm_isb H (m13.2.1 v0 13) 10 = true then
    fm_bn (f_X10_erase H (m13.2.1 v0 13) m13) fun _ m14 =>
    if fm_isb H (m14.2.1 v0 14) 10 = true then
      fm_bn (f_X10_erase H (m14.2.1 v0 14) m14) fun _ m15 =>
      some ((), m15)
    else none
  else none
set_option maxRecDepth 10000 in
theorem q_X0_begin {G : pm_G} {H : fm_H} {d : Nat} {z : fm_Z H} {v0 : Nat} {v1 : Int32} {v2 : Int32} {m : fm_M} (hE : fm_E G H) (h0 : fm_is H v0 0) : fm_cal G H (d + 2) yX0_begin [.ref v0, .int v1, .int v2] z m fm_rV (f_X0_begin H v0 v1 v2 m) := fm_mth (d := d + 1) mt_X0_begin rfl rfl rfl (fun K => by
  show fm_o fm_rV (f_X0_begin H v0 v1 v2 m) K → fm_V G H (d + 1) RX0 cX0_begin none z K 0 [some (.ref v0), some (.int v1), some (.int v2)] [] m
  have T : fm_T RX0 cX0_begin tc_X0_begin fr_X0 mr_X0 cr_X0 lr_X0 := ⟨tok_X0, dc_X0_begin⟩
  unfold f_X0_begin
  refine fs_r T 2 2 [some (.ref v0), some (.int v1), some (.int v2)] [.int v1, .ref v0] rfl ?_
  refine fs_pi T 5 0 0 v0 rfl rfl rfl rfl h0 ?_
  intro m1
  refine fs_r T 2 7 [some (.ref v0), some (.int v1), some (.int v2)] [.int v2, .ref v0] rfl ?_
  refine fs_pi T 10 0 1 v0 rfl rfl rfl rfl h0 ?_
  intro m2
  refine fs_r T 2 12 [some (.ref v0), some (.int v1), some (.int v2)] [.int (0 : Int32), .ref v0] rfl ?_
  refine fs_pi T 15 0 2 v0 rfl rfl rfl rfl h0 ?_
  intro m3
  refine fs_r T 2 17 [some (.ref v0), some (.int v1), some (.int v2)] [.int (0 : Int32), .ref v0] rfl ?_
  refine fs_pi T 20 0 3 v0 rfl rfl rfl rfl h0 ?_
  intro m4
  refine fs_r T 2 22 [some (.ref v0), some (.int v1), some (.int v2)] [.int (0 : Int32), .ref v0] rfl ?_
  refine fs_pi T 25 0 4 v0 rfl rfl rfl rfl h0 ?_
  intro m5
  refine fs_r T 2 27 [some (.ref v0), some (.int v1), some (.int v2)] [.int (0 : Int32), .ref v0] rfl ?_
  refine fs_pi T 30 0 5 v0 rfl rfl rfl rfl h0 ?_
  intro m6
  refine fs_r T 2 32 [some (.ref v0), some (.int v1), some (.int v2)] [.int (0 : Int32), .ref v0] rfl ?_
  refine fs_pi T 35 0 6 v0 rfl rfl rfl rfl h0 ?_
  intro m7
  refine fs_r T 2 37 [some (.ref v0), some (.int v1), some (.int v2)] [.int (0 : Int32), .ref v0] rfl ?_
  refine fs_pi T 40 0 7 v0 rfl rfl rfl rfl h0 ?_
  intro m8
  refine fs_r T 2 42 [some (.ref v0), some (.int v1), some (.int v2)] [.int (0 : Int32), .ref v0] rfl ?_
  refine fs_pi T 45 0 8 v0 rfl rfl rfl rfl h0 ?_
  intro m9
  refine fs_r T 2 47 [some (.ref v0), some (.int v1), some (.int v2)] [.int (0 : Int32), .ref v0] rfl ?_
  refine fs_pi T 50 0 9 v0 rfl rfl rfl rfl h0 ?_
  intro m10
  refine fs_r T 2 52 [some (.ref v0), some (.int v1), some (.int v2)] [.int (0 : Int32), .ref v0] rfl ?_
  refine fs_pi T 55 0 10 v0 rfl rfl rfl rfl h0 ?_
  intro m11
  refine fs_r T 2 57 [some (.ref v0), some (.int v1), some (.int v2)] [.int (0 : Int32), .ref v0] rfl ?_
  refine fs_pi T 60 0 11 v0 rfl rfl rfl rfl h0 ?_
  intro m12
  refine fs_r T 2 62 [some (.ref v0), some (.int v1), some (.int v2)] [.int (-1 : Int32), .ref v0] rfl ?_
  refine fs_pi T 65 0 12 v0 rfl rfl rfl rfl h0 ?_
  intro m13
  refine fs_r T 1 66 [some (.ref v0), some (.int v1), some (.int v2)] [.ref v0] rfl ?_
  refine fs_gp T 69 0 13 v0 10 rfl rfl rfl rfl h0 ?_
  intro e1
  refine fs_vV T 72 rfl rfl rfl rfl rfl rfl e1 (q_X10_erase (d := d) hE e1) ?_
  intro x1 m14
  refine fs_r T 1 73 [some (.ref v0), some (.int v1), some (.int v2)] [.ref v0] rfl ?_
  refine fs_gp T 76 0 14 v0 10 rfl rfl rfl rfl h0 ?_
  intro e2
  refine fs_vV T 79 rfl rfl rfl rfl rfl rfl e2 (q_X10_erase (d := d) hE e2) ?_
  intro x2 m15
  exact fs_retv T rfl rfl rfl)
def f_X11_copyNumbers_2 (H : fm_H) (v0 : Nat) (v1 : Nat) : Nat → Int32 → fm_M → Option (Unit × fm_M)
  | 0, _, _ => none
  | n + 1, v2, m =>
    if Int32.ofNat (fm_sz H v0) ≤ v2 then
      some ((), m)
    else
    if Int32.ofNat (fm_sz H v1) ≤ v2 then
      some ((), m)
    else
    if px_inb v2 (fm_sz H v0) = true then
      if px_inb v2 (fm_sz H v1) = true then
        (fm_bd (fm_si m v1 v2.toNatClampNeg (m.1 v0 v2.toNatClampNeg)) fun m1 =>
        f_X11_copyNumbers_2 H v0 v1 n (v2 + 1) m1)
      else none
    else none
set_option maxRecDepth 10000 in
theorem w_X11_copyNumbers_2 {G : pm_G} {H : fm_H} {d : Nat} {z : fm_Z H} {K : pm_R → fm_M → Prop} (hE : fm_E G H) {v0 : Nat} {v1 : Nat} (h0 : fm_ia H v0 .int true) (h1 : fm_ia H v1 .int true) : ∀ (n : Nat) (v2 : Int32) (m : fm_M), fm_o fm_rV (f_X11_copyNumbers_2 H v0 v1 n v2 m) K → fm_V G H (d + 0) RX11 cX11_copyNumbers none z K 2 [some (.ref v0), some (.ref v1), some (.int v2)] [] m := by
  have T : fm_T RX11 cX11_copyNumbers tc_X11_copyNumbers fr_X11 mr_X11 cr_X11 lr_X11 := ⟨tok_X11, dc_X11_copyNumbers⟩
  intro n
  induction n with
  | zero =>
    intro v2 m 
    exact fs_none
  | succ n ih =>
    intro v2 m 
    unfold f_X11_copyNumbers_2
    refine fs_r T 2 4 [some (.ref v0), some (.ref v1), some (.int v2)] [.ref v0, .int v2] rfl ?_
    refine fs_al T 5 v0 rfl rfl h0 ?_
    refine fs_ic_ge T 26 8 rfl rfl rfl (fun _ => ?_) (fun _ => ?_)
    · exact fs_retv T rfl rfl rfl
    · refine fs_r T 2 10 [some (.ref v0), some (.ref v1), some (.int v2)] [.ref v1, .int v2] rfl ?_
      refine fs_al T 11 v1 rfl rfl h1 ?_
      refine fs_ic_ge T 26 14 rfl rfl rfl (fun _ => ?_) (fun _ => ?_)
      · exact fs_retv T rfl rfl rfl
      · refine fs_r T 4 18 [some (.ref v0), some (.ref v1), some (.int v2)] [.int v2, .ref v0, .int v2, .ref v1] rfl ?_
        refine fs_ai T 19 v0 rfl rfl h0 ?_
        refine fs_si T 20 v1 rfl rfl h1 ?_
        intro m1
        refine fs_r T 2 2 [some (.ref v0), some (.ref v1), some (.int (v2 + 1))] [] rfl ?_
        exact ih _ _
def f_X11_copyNumbers (H : fm_H) (v0 : Nat) (v1 : Nat) (m : fm_M) : Option (Unit × fm_M) :=
  f_X11_copyNumbers_2 H v0 v1 fm_N (0 : Int32) m
set_option maxRecDepth 10000 in
theorem q_X11_copyNumbers {G : pm_G} {H : fm_H} {d : Nat} {z : fm_Z H} {v0 : Nat} {v1 : Nat} {m : fm_M} (hE : fm_E G H) (h0 : fm_ia H v0 .int true) (h1 : fm_ia H v1 .int true) : fm_cal G H (d + 1) yX11_copyNumbers [.ref v0, .ref v1] z m fm_rV (f_X11_copyNumbers H v0 v1 m) := fm_mth (d := d + 0) mt_X11_copyNumbers rfl rfl rfl (fun K => by
  show fm_o fm_rV (f_X11_copyNumbers H v0 v1 m) K → fm_V G H (d + 0) RX11 cX11_copyNumbers none z K 0 [some (.ref v0), some (.ref v1), none] [] m
  have T : fm_T RX11 cX11_copyNumbers tc_X11_copyNumbers fr_X11 mr_X11 cr_X11 lr_X11 := ⟨tok_X11, dc_X11_copyNumbers⟩
  unfold f_X11_copyNumbers
  refine fs_r T 2 2 [some (.ref v0), some (.ref v1), some (.int (0 : Int32))] [] rfl ?_
  exact w_X11_copyNumbers_2 hE h0 h1 _ _ _)
def f_X10_copyFrom (H : fm_H) (v0 : Nat) (v1 : Nat) (m : fm_M) : Option (Unit × fm_M) :=
  fm_bd (fm_si m v0 0 (m.1 v1 0)) fun m1 =>
  fm_bn (f_X11_copyNumbers H (H.2.1 v1 1) (H.2.1 v0 1) m1) fun _ m2 =>
  fm_bn (f_X11_copyNumbers H (H.2.1 v1 2) (H.2.1 v0 2) m2) fun _ m3 =>
  fm_bn (f_X11_copyNumbers H (H.2.1 v1 3) (H.2.1 v0 3) m3) fun _ m4 =>
  some ((), m4)
set_option maxRecDepth 10000 in
theorem q_X10_copyFrom {G : pm_G} {H : fm_H} {d : Nat} {z : fm_Z H} {v0 : Nat} {v1 : Nat} {m : fm_M} (hE : fm_E G H) (h0 : fm_is H v0 10) (h1 : fm_is H v1 10) : fm_cal G H (d + 2) yX10_copyFrom [.ref v0, .ref v1] z m fm_rV (f_X10_copyFrom H v0 v1 m) := fm_mth (d := d + 1) mt_X10_copyFrom rfl rfl rfl (fun K => by
  show fm_o fm_rV (f_X10_copyFrom H v0 v1 m) K → fm_V G H (d + 1) RX10 cX10_copyFrom none z K 0 [some (.ref v0), some (.ref v1)] [] m
  have T : fm_T RX10 cX10_copyFrom tc_X10_copyFrom fr_X10 mr_X10 cr_X10 lr_X10 := ⟨tok_X10, dc_X10_copyFrom⟩
  unfold f_X10_copyFrom
  refine fs_r T 2 2 [some (.ref v0), some (.ref v1)] [.ref v1, .ref v0] rfl ?_
  refine fs_gi T 5 10 0 v1 rfl rfl rfl rfl h1 ?_
  refine fs_pi T 8 10 0 v0 rfl rfl rfl rfl h0 ?_
  intro m1
  refine fs_r T 1 9 [some (.ref v0), some (.ref v1)] [.ref v1] rfl ?_
  refine fs_gs T 12 10 1 v1 rfl rfl rfl rfl h1 ?_
  refine fs_r T 1 13 [some (.ref v0), some (.ref v1)] [.ref v0, .ref (H.2.1 v1 1)] rfl ?_
  refine fs_gs T 16 10 1 v0 rfl rfl rfl rfl h0 ?_
  refine fs_sV T 19 rfl rfl rfl rfl rfl rfl rfl (q_X11_copyNumbers (d := d) hE (hE.1 _ 10 1 h1) (hE.1 _ 10 1 h0)) ?_
  intro x1 m2
  refine fs_r T 1 20 [some (.ref v0), some (.ref v1)] [.ref v1] rfl ?_
  refine fs_gs T 23 10 2 v1 rfl rfl rfl rfl h1 ?_
  refine fs_r T 1 24 [some (.ref v0), some (.ref v1)] [.ref v0, .ref (H.2.1 v1 2)] rfl ?_
  refine fs_gs T 27 10 2 v0 rfl rfl rfl rfl h0 ?_
  refine fs_sV T 30 rfl rfl rfl rfl rfl rfl rfl (q_X11_copyNumbers (d := d) hE (hE.1 _ 10 2 h1) (hE.1 _ 10 2 h0)) ?_
  intro x2 m3
  refine fs_r T 1 31 [some (.ref v0), some (.ref v1)] [.ref v1] rfl ?_
  refine fs_gs T 34 10 3 v1 rfl rfl rfl rfl h1 ?_
  refine fs_r T 1 35 [some (.ref v0), some (.ref v1)] [.ref v0, .ref (H.2.1 v1 3)] rfl ?_
  refine fs_gs T 38 10 3 v0 rfl rfl rfl rfl h0 ?_
  refine fs_sV T 41 rfl rfl rfl rfl rfl rfl rfl (q_X11_copyNumbers (d := d) hE (hE.1 _ 10 3 h1) (hE.1 _ 10 3 h0)) ?_
  intro x3 m4
  exact fs_retv T rfl rfl rfl)
def f_X0_copyFrom (H : fm_H) (v0 : Nat) (v1 : Nat) (m : fm_M) : Option (Unit × fm_M) :=
  fm_bd (fm_si m v0 0 (m.1 v1 0)) fun m1 =>
  fm_bd (fm_si m1 v0 1 (m1.1 v1 1)) fun m2 =>
  fm_bd (fm_si m2 v0 2 (m2.1 v1 2)) fun m3 =>
  fm_bd (fm_si m3 v0 3 (m3.1 v1 3)) fun m4 =>
  fm_bd (fm_si m4 v0 4 (m4.1 v1 4)) fun m5 =>
  fm_bd (fm_si m5 v0 5 (m5.1 v1 5)) fun m6 =>
  fm_bd (fm_si m6 v0 6 (m6.1 v1 6)) fun m7 =>
  fm_bd (fm_si m7 v0 7 (m7.1 v1 7)) fun m8 =>
  fm_bd (fm_si m8 v0 8 (m8.1 v1 8)) fun m9 =>
  fm_bd (fm_si m9 v0 9 (m9.1 v1 9)) fun m10 =>
  fm_bd (fm_si m10 v0 10 (m10.1 v1 10)) fun m11 =>
  fm_bd (fm_si m11 v0 11 (m11.1 v1 11)) fun m12 =>
  fm_bd (fm_si m12 v0 12 (m12.1 v1 12)) fun m13 =>
  if fm_isb H (m13.2.1 v0 13) 10 = true then
    if fm_isb H (m13.2.1 v1 13) 10 = true then
      fm_bn (f_X10_copyFrom H (m13.2.1 v0 13) (m13.2.1 v1 13) m13) fun _ m14 =>
      if fm_isb H (m14.2.1 v0 14) 10 = true then
        if fm_isb H (m14.2.1 v1 14) 10 = true then
          fm_bn (f_X10_copyFrom H (m14.2.1 v0 14) (m14.2.1 v1 14) m14) fun _ m15 =>
          some ((), m15)
        else none
      else none
    else none
  else none
set_option maxRecDepth 10000 in
theorem q_X0_copyFrom {G : pm_G} {H : fm_H} {d : Nat} {z : fm_Z H} {v0 : Nat} {v1 : Nat} {m : fm_M} (hE : fm_E G H) (h0 : fm_is H v0 0) (h1 : fm_is H v1 0) : fm_cal G H (d + 3) yX0_copyFrom [.ref v0, .ref v1] z m fm_rV (f_X0_copyFrom H v0 v1 m) := fm_mth (d := d + 2) mt_X0_copyFrom rfl rfl rfl (fun K => by
  show fm_o fm_rV (f_X0_copyFrom H v0 v1 m) K → fm_V G H (d + 2) RX0 cX0_copyFrom none z K 0 [some (.ref v0), some (.ref v1)] [] m
  have T : fm_T RX0 cX0_copyFrom tc_X0_copyFrom fr_X0 mr_X0 cr_X0 lr_X0 := ⟨tok_X0, dc_X0_copyFrom⟩
  unfold f_X0_copyFrom
  refine fs_r T 2 2 [some (.ref v0), some (.ref v1)] [.ref v1, .ref v0] rfl ?_
  refine fs_gi T 5 0 0 v1 rfl rfl rfl rfl h1 ?_
  refine fs_pi T 8 0 0 v0 rfl rfl rfl rfl h0 ?_
  intro m1
  refine fs_r T 2 10 [some (.ref v0), some (.ref v1)] [.ref v1, .ref v0] rfl ?_
  refine fs_gi T 13 0 1 v1 rfl rfl rfl rfl h1 ?_
  refine fs_pi T 16 0 1 v0 rfl rfl rfl rfl h0 ?_
  intro m2
  refine fs_r T 2 18 [some (.ref v0), some (.ref v1)] [.ref v1, .ref v0] rfl ?_
  refine fs_gi T 21 0 2 v1 rfl rfl rfl rfl h1 ?_
  refine fs_pi T 24 0 2 v0 rfl rfl rfl rfl h0 ?_
  intro m3
  refine fs_r T 2 26 [some (.ref v0), some (.ref v1)] [.ref v1, .ref v0] rfl ?_
  refine fs_gi T 29 0 3 v1 rfl rfl rfl rfl h1 ?_
  refine fs_pi T 32 0 3 v0 rfl rfl rfl rfl h0 ?_
  intro m4
  refine fs_r T 2 34 [some (.ref v0), some (.ref v1)] [.ref v1, .ref v0] rfl ?_
  refine fs_gi T 37 0 4 v1 rfl rfl rfl rfl h1 ?_
  refine fs_pi T 40 0 4 v0 rfl rfl rfl rfl h0 ?_
  intro m5
  refine fs_r T 2 42 [some (.ref v0), some (.ref v1)] [.ref v1, .ref v0] rfl ?_
  refine fs_gi T 45 0 5 v1 rfl rfl rfl rfl h1 ?_
  refine fs_pi T 48 0 5 v0 rfl rfl rfl rfl h0 ?_
  intro m6
  refine fs_r T 2 50 [some (.ref v0), some (.ref v1)] [.ref v1, .ref v0] rfl ?_
  refine fs_gi T 53 0 6 v1 rfl rfl rfl rfl h1 ?_
  refine fs_pi T 56 0 6 v0 rfl rfl rfl rfl h0 ?_
  intro m7
  refine fs_r T 2 58 [some (.ref v0), some (.ref v1)] [.ref v1, .ref v0] rfl ?_
  refine fs_gi T 61 0 7 v1 rfl rfl rfl rfl h1 ?_
  refine fs_pi T 64 0 7 v0 rfl rfl rfl rfl h0 ?_
  intro m8
  refine fs_r T 2 66 [some (.ref v0), some (.ref v1)] [.ref v1, .ref v0] rfl ?_
  refine fs_gi T 69 0 8 v1 rfl rfl rfl rfl h1 ?_
  refine fs_pi T 72 0 8 v0 rfl rfl rfl rfl h0 ?_
  intro m9
  refine fs_r T 2 74 [some (.ref v0), some (.ref v1)] [.ref v1, .ref v0] rfl ?_
  refine fs_gi T 77 0 9 v1 rfl rfl rfl rfl h1 ?_
  refine fs_pi T 80 0 9 v0 rfl rfl rfl rfl h0 ?_
  intro m10
  refine fs_r T 2 82 [some (.ref v0), some (.ref v1)] [.ref v1, .ref v0] rfl ?_
  refine fs_gi T 85 0 10 v1 rfl rfl rfl rfl h1 ?_
  refine fs_pi T 88 0 10 v0 rfl rfl rfl rfl h0 ?_
  intro m11
  refine fs_r T 2 90 [some (.ref v0), some (.ref v1)] [.ref v1, .ref v0] rfl ?_
  refine fs_gi T 93 0 11 v1 rfl rfl rfl rfl h1 ?_
  refine fs_pi T 96 0 11 v0 rfl rfl rfl rfl h0 ?_
  intro m12
  refine fs_r T 2 98 [some (.ref v0), some (.ref v1)] [.ref v1, .ref v0] rfl ?_
  refine fs_gi T 101 0 12 v1 rfl rfl rfl rfl h1 ?_
  refine fs_pi T 104 0 12 v0 rfl rfl rfl rfl h0 ?_
  intro m13
  refine fs_r T 1 105 [some (.ref v0), some (.ref v1)] [.ref v0] rfl ?_
  refine fs_gp T 108 0 13 v0 10 rfl rfl rfl rfl h0 ?_
  intro e1
  refine fs_r T 1 109 [some (.ref v0), some (.ref v1)] [.ref v1, .ref (m13.2.1 v0 13)] rfl ?_
  refine fs_gp T 112 0 13 v1 10 rfl rfl rfl rfl h1 ?_
  intro e2
  refine fs_vV T 115 rfl rfl rfl rfl rfl rfl e1 (q_X10_copyFrom (d := d) hE e1 e2) ?_
  intro x1 m14
  refine fs_r T 1 116 [some (.ref v0), some (.ref v1)] [.ref v0] rfl ?_
  refine fs_gp T 119 0 14 v0 10 rfl rfl rfl rfl h0 ?_
  intro e3
  refine fs_r T 1 120 [some (.ref v0), some (.ref v1)] [.ref v1, .ref (m14.2.1 v0 14)] rfl ?_
  refine fs_gp T 123 0 14 v1 10 rfl rfl rfl rfl h1 ?_
  intro e4
  refine fs_vV T 126 rfl rfl rfl rfl rfl rfl e3 (q_X10_copyFrom (d := d) hE e3 e4) ?_
  intro x2 m15
  exact fs_retv T rfl rfl rfl)
def f_X0_activeWay (H : fm_H) (v0 : Nat) (m : fm_M) : Option (Nat × fm_M) :=
  if m.1 v0 2 = (2 : Int32) then
    if fm_isb H (m.2.1 v0 14) 10 = true then
      some (m.2.1 v0 14, m)
    else none
  else
  if m.1 v0 2 = (3 : Int32) then
    if fm_isb H (m.2.1 v0 14) 10 = true then
      some (m.2.1 v0 14, m)
    else none
  else
  if fm_isb H (m.2.1 v0 13) 10 = true then
    some (m.2.1 v0 13, m)
  else none
set_option maxRecDepth 10000 in
theorem q_X0_activeWay {G : pm_G} {H : fm_H} {d : Nat} {z : fm_Z H} {v0 : Nat} {m : fm_M} (hE : fm_E G H) (h0 : fm_is H v0 0) : fm_cal G H (d + 1) yX0_activeWay [.ref v0] z m fm_rA (f_X0_activeWay H v0 m) := fm_mth (d := d + 0) mt_X0_activeWay rfl rfl rfl (fun K => by
  show fm_o fm_rA (f_X0_activeWay H v0 m) K → fm_V G H (d + 0) RX0 cX0_activeWay (some (.object "CircuitDesk$Way")) z K 0 [some (.ref v0)] [] m
  have T : fm_T RX0 cX0_activeWay tc_X0_activeWay fr_X0 mr_X0 cr_X0 lr_X0 := ⟨tok_X0, dc_X0_activeWay⟩
  unfold f_X0_activeWay
  refine fs_r T 1 1 [some (.ref v0)] [.ref v0] rfl ?_
  refine fs_gi T 4 0 2 v0 rfl rfl rfl rfl h0 ?_
  refine fs_r T 1 5 [some (.ref v0)] [.int (2 : Int32), .int (m.1 v0 2)] rfl ?_
  refine fs_ic_eq T 16 8 rfl rfl rfl (fun _ => ?_) (fun _ => ?_)
  · refine fs_r T 1 17 [some (.ref v0)] [.ref v0] rfl ?_
    refine fs_gp T 20 0 14 v0 10 rfl rfl rfl rfl h0 ?_
    intro e1
    refine fs_r T 1 27 [some (.ref v0)] [.ref (m.2.1 v0 14)] rfl ?_
    exact fs_reta T rfl rfl rfl
  · refine fs_r T 1 9 [some (.ref v0)] [.ref v0] rfl ?_
    refine fs_gi T 12 0 2 v0 rfl rfl rfl rfl h0 ?_
    refine fs_r T 1 13 [some (.ref v0)] [.int (3 : Int32), .int (m.1 v0 2)] rfl ?_
    refine fs_ic_ne T 23 16 rfl rfl rfl (fun _ => ?_) (fun _ => ?_)
    · refine fs_r T 1 17 [some (.ref v0)] [.ref v0] rfl ?_
      refine fs_gp T 20 0 14 v0 10 rfl rfl rfl rfl h0 ?_
      intro e3
      refine fs_r T 1 27 [some (.ref v0)] [.ref (m.2.1 v0 14)] rfl ?_
      exact fs_reta T rfl rfl rfl
    · refine fs_r T 1 24 [some (.ref v0)] [.ref v0] rfl ?_
      refine fs_gp T 27 0 13 v0 10 rfl rfl rfl rfl h0 ?_
      intro e2
      exact fs_reta T rfl rfl rfl)
def f_X10_indexOfSlot_2 (H : fm_H) (v0 : Nat) (v1 : Int32) : Nat → Int32 → fm_M → Option (Int32 × fm_M)
  | 0, _, _ => none
  | n + 1, v2, m =>
    if m.1 v0 0 ≤ v2 then
      some ((-1 : Int32), m)
    else
    if px_inb v2 (fm_sz H (H.2.1 v0 3)) = true then
      if m.1 (H.2.1 v0 3) v2.toNatClampNeg = v1 then
        some (v2, m)
      else
      f_X10_indexOfSlot_2 H v0 v1 n (v2 + 1) m
    else none
set_option maxRecDepth 10000 in
theorem w_X10_indexOfSlot_2 {G : pm_G} {H : fm_H} {d : Nat} {z : fm_Z H} {K : pm_R → fm_M → Prop} (hE : fm_E G H) {v0 : Nat} {v1 : Int32} (h0 : fm_is H v0 10) : ∀ (n : Nat) (v2 : Int32) (m : fm_M), fm_o fm_rI (f_X10_indexOfSlot_2 H v0 v1 n v2 m) K → fm_V G H (d + 0) RX10 cX10_indexOfSlot (some (.int)) z K 2 [some (.ref v0), some (.int v1), some (.int v2)] [] m := by
  have T : fm_T RX10 cX10_indexOfSlot tc_X10_indexOfSlot fr_X10 mr_X10 cr_X10 lr_X10 := ⟨tok_X10, dc_X10_indexOfSlot⟩
  intro n
  induction n with
  | zero =>
    intro v2 m 
    exact fs_none
  | succ n ih =>
    intro v2 m 
    unfold f_X10_indexOfSlot_2
    refine fs_r T 2 4 [some (.ref v0), some (.int v1), some (.int v2)] [.ref v0, .int v2] rfl ?_
    refine fs_gi T 7 10 0 v0 rfl rfl rfl rfl h0 ?_
    refine fs_ic_ge T 28 10 rfl rfl rfl (fun _ => ?_) (fun _ => ?_)
    · refine fs_r T 1 29 [some (.ref v0), some (.int v1), some (.int v2)] [.int (-1 : Int32)] rfl ?_
      exact fs_reti T rfl rfl rfl
    · refine fs_r T 1 11 [some (.ref v0), some (.int v1), some (.int v2)] [.ref v0] rfl ?_
      refine fs_gs T 14 10 3 v0 rfl rfl rfl rfl h0 ?_
      refine fs_r T 1 15 [some (.ref v0), some (.int v1), some (.int v2)] [.int v2, .ref (H.2.1 v0 3)] rfl ?_
      refine fs_ai T 16 (H.2.1 v0 3) rfl rfl (hE.1 _ 10 3 h0) ?_
      refine fs_r T 1 17 [some (.ref v0), some (.int v1), some (.int v2)] [.int v1, .int (m.1 (H.2.1 v0 3) v2.toNatClampNeg)] rfl ?_
      refine fs_ic_ne T 22 20 rfl rfl rfl (fun _ => ?_) (fun _ => ?_)
      · refine fs_r T 1 21 [some (.ref v0), some (.int v1), some (.int v2)] [.int v2] rfl ?_
        exact fs_reti T rfl rfl rfl
      · refine fs_r T 2 2 [some (.ref v0), some (.int v1), some (.int (v2 + 1))] [] rfl ?_
        exact ih _ _
def f_X10_indexOfSlot (H : fm_H) (v0 : Nat) (v1 : Int32) (m : fm_M) : Option (Int32 × fm_M) :=
  f_X10_indexOfSlot_2 H v0 v1 fm_N (1 : Int32) m
set_option maxRecDepth 10000 in
theorem q_X10_indexOfSlot {G : pm_G} {H : fm_H} {d : Nat} {z : fm_Z H} {v0 : Nat} {v1 : Int32} {m : fm_M} (hE : fm_E G H) (h0 : fm_is H v0 10) : fm_cal G H (d + 1) yX10_indexOfSlot [.ref v0, .int v1] z m fm_rI (f_X10_indexOfSlot H v0 v1 m) := fm_mth (d := d + 0) mt_X10_indexOfSlot rfl rfl rfl (fun K => by
  show fm_o fm_rI (f_X10_indexOfSlot H v0 v1 m) K → fm_V G H (d + 0) RX10 cX10_indexOfSlot (some (.int)) z K 0 [some (.ref v0), some (.int v1), none] [] m
  have T : fm_T RX10 cX10_indexOfSlot tc_X10_indexOfSlot fr_X10 mr_X10 cr_X10 lr_X10 := ⟨tok_X10, dc_X10_indexOfSlot⟩
  unfold f_X10_indexOfSlot
  refine fs_r T 2 2 [some (.ref v0), some (.int v1), some (.int (1 : Int32))] [] rfl ?_
  exact w_X10_indexOfSlot_2 hE h0 _ _ _)
def f_X0_wayWithSlot (H : fm_H) (v0 : Nat) (v1 : Int32) (m : fm_M) : Option (Nat × fm_M) :=
  if fm_isb H (m.2.1 v0 14) 10 = true then
    fm_bn (f_X10_indexOfSlot H (m.2.1 v0 14) v1 m) fun x1 m1 =>
    if x1 = (-1 : Int32) then
      if fm_isb H (m1.2.1 v0 13) 10 = true then
        some (m1.2.1 v0 13, m1)
      else none
    else
    if fm_isb H (m1.2.1 v0 14) 10 = true then
      some (m1.2.1 v0 14, m1)
    else none
  else none
set_option maxRecDepth 10000 in
theorem q_X0_wayWithSlot {G : pm_G} {H : fm_H} {d : Nat} {z : fm_Z H} {v0 : Nat} {v1 : Int32} {m : fm_M} (hE : fm_E G H) (h0 : fm_is H v0 0) : fm_cal G H (d + 2) yX0_wayWithSlot [.ref v0, .int v1] z m fm_rA (f_X0_wayWithSlot H v0 v1 m) := fm_mth (d := d + 1) mt_X0_wayWithSlot rfl rfl rfl (fun K => by
  show fm_o fm_rA (f_X0_wayWithSlot H v0 v1 m) K → fm_V G H (d + 1) RX0 cX0_wayWithSlot (some (.object "CircuitDesk$Way")) z K 0 [some (.ref v0), some (.int v1)] [] m
  have T : fm_T RX0 cX0_wayWithSlot tc_X0_wayWithSlot fr_X0 mr_X0 cr_X0 lr_X0 := ⟨tok_X0, dc_X0_wayWithSlot⟩
  unfold f_X0_wayWithSlot
  refine fs_r T 1 1 [some (.ref v0), some (.int v1)] [.ref v0] rfl ?_
  refine fs_gp T 4 0 14 v0 10 rfl rfl rfl rfl h0 ?_
  intro e1
  refine fs_r T 1 5 [some (.ref v0), some (.int v1)] [.int v1, .ref (m.2.1 v0 14)] rfl ?_
  refine fs_vI T 8 rfl rfl rfl rfl rfl rfl e1 (q_X10_indexOfSlot (d := d) hE e1) ?_
  intro x1 m1
  refine fs_r T 1 9 [some (.ref v0), some (.int v1)] [.int (-1 : Int32), .int x1] rfl ?_
  refine fs_ic_eq T 19 12 rfl rfl rfl (fun _ => ?_) (fun _ => ?_)
  · refine fs_r T 1 20 [some (.ref v0), some (.int v1)] [.ref v0] rfl ?_
    refine fs_gp T 23 0 13 v0 10 rfl rfl rfl rfl h0 ?_
    intro e2
    exact fs_reta T rfl rfl rfl
  · refine fs_r T 1 13 [some (.ref v0), some (.int v1)] [.ref v0] rfl ?_
    refine fs_gp T 16 0 14 v0 10 rfl rfl rfl rfl h0 ?_
    intro e3
    refine fs_r T 1 23 [some (.ref v0), some (.int v1)] [.ref (m1.2.1 v0 14)] rfl ?_
    exact fs_reta T rfl rfl rfl)
def f_X10_nodeAt (H : fm_H) (v0 : Nat) (v1 : Int32) (m : fm_M) : Option (Int32 × fm_M) :=
  if v1 < 0 then
    some ((-1 : Int32), m)
  else
  if m.1 v0 0 ≤ v1 then
    some ((-1 : Int32), m)
  else
  if px_inb v1 (fm_sz H (H.2.1 v0 1)) = true then
    some (m.1 (H.2.1 v0 1) v1.toNatClampNeg, m)
  else none
set_option maxRecDepth 10000 in
theorem q_X10_nodeAt {G : pm_G} {H : fm_H} {d : Nat} {z : fm_Z H} {v0 : Nat} {v1 : Int32} {m : fm_M} (hE : fm_E G H) (h0 : fm_is H v0 10) : fm_cal G H (d + 1) yX10_nodeAt [.ref v0, .int v1] z m fm_rI (f_X10_nodeAt H v0 v1 m) := fm_mth (d := d + 0) mt_X10_nodeAt rfl rfl rfl (fun K => by
  show fm_o fm_rI (f_X10_nodeAt H v0 v1 m) K → fm_V G H (d + 0) RX10 cX10_nodeAt (some (.int)) z K 0 [some (.ref v0), some (.int v1)] [] m
  have T : fm_T RX10 cX10_nodeAt tc_X10_nodeAt fr_X10 mr_X10 cr_X10 lr_X10 := ⟨tok_X10, dc_X10_nodeAt⟩
  unfold f_X10_nodeAt
  refine fs_r T 1 1 [some (.ref v0), some (.int v1)] [.int v1] rfl ?_
  refine fs_if_lt T 21 4 rfl rfl rfl (fun _ => ?_) (fun _ => ?_)
  · refine fs_r T 1 22 [some (.ref v0), some (.int v1)] [.int (-1 : Int32)] rfl ?_
    exact fs_reti T rfl rfl rfl
  · refine fs_r T 2 6 [some (.ref v0), some (.int v1)] [.ref v0, .int v1] rfl ?_
    refine fs_gi T 9 10 0 v0 rfl rfl rfl rfl h0 ?_
    refine fs_ic_ge T 21 12 rfl rfl rfl (fun _ => ?_) (fun _ => ?_)
    · refine fs_r T 1 22 [some (.ref v0), some (.int v1)] [.int (-1 : Int32)] rfl ?_
      exact fs_reti T rfl rfl rfl
    · refine fs_r T 1 13 [some (.ref v0), some (.int v1)] [.ref v0] rfl ?_
      refine fs_gs T 16 10 1 v0 rfl rfl rfl rfl h0 ?_
      refine fs_r T 1 17 [some (.ref v0), some (.int v1)] [.int v1, .ref (H.2.1 v0 1)] rfl ?_
      refine fs_ai T 18 (H.2.1 v0 1) rfl rfl (hE.1 _ 10 1 h0) ?_
      refine fs_r T 1 22 [some (.ref v0), some (.int v1)] [.int (m.1 (H.2.1 v0 1) v1.toNatClampNeg)] rfl ?_
      exact fs_reti T rfl rfl rfl)
def f_X10_lastNode (H : fm_H) (v0 : Nat) (m : fm_M) : Option (Int32 × fm_M) :=
  fm_bn (f_X10_nodeAt H v0 (m.1 v0 0 - (1 : Int32)) m) fun x1 m1 =>
  some (x1, m1)
set_option maxRecDepth 10000 in
theorem q_X10_lastNode {G : pm_G} {H : fm_H} {d : Nat} {z : fm_Z H} {v0 : Nat} {m : fm_M} (hE : fm_E G H) (h0 : fm_is H v0 10) : fm_cal G H (d + 2) yX10_lastNode [.ref v0] z m fm_rI (f_X10_lastNode H v0 m) := fm_mth (d := d + 1) mt_X10_lastNode rfl rfl rfl (fun K => by
  show fm_o fm_rI (f_X10_lastNode H v0 m) K → fm_V G H (d + 1) RX10 cX10_lastNode (some (.int)) z K 0 [some (.ref v0)] [] m
  have T : fm_T RX10 cX10_lastNode tc_X10_lastNode fr_X10 mr_X10 cr_X10 lr_X10 := ⟨tok_X10, dc_X10_lastNode⟩
  unfold f_X10_lastNode
  refine fs_r T 2 2 [some (.ref v0)] [.ref v0, .ref v0] rfl ?_
  refine fs_gi T 5 10 0 v0 rfl rfl rfl rfl h0 ?_
  refine fs_r T 2 7 [some (.ref v0)] [.int (m.1 v0 0 - (1 : Int32)), .ref v0] rfl ?_
  refine fs_vI T 10 rfl rfl rfl rfl rfl rfl h0 (q_X10_nodeAt (d := d) hE h0) ?_
  intro x1 m1
  exact fs_reti T rfl rfl rfl)
def f_X0_hasEndsOf (H : fm_H) (v0 : Nat) (v1 : Nat) (m : fm_M) : Option (Int32 × fm_M) :=
  if m.1 v1 0 < (2 : Int32) then
    some ((0 : Int32), m)
  else
  fm_bn (f_X10_nodeAt H v1 (0 : Int32) m) fun x1 m1 =>
  if fm_isb H (m1.2.1 v0 13) 10 = true then
    fm_bn (f_X10_nodeAt H (m1.2.1 v0 13) (0 : Int32) m1) fun x2 m2 =>
    if x1 = x2 then
      fm_bn (f_X10_lastNode H v1 m2) fun x3 m3 =>
      if fm_isb H (m3.2.1 v0 13) 10 = true then
        fm_bn (f_X10_lastNode H (m3.2.1 v0 13) m3) fun x4 m4 =>
        if x3 = x4 then
          some ((1 : Int32), m4)
        else
        some ((0 : Int32), m4)
      else none
    else
    some ((0 : Int32), m2)
  else none
set_option maxRecDepth 10000 in
theorem q_X0_hasEndsOf {G : pm_G} {H : fm_H} {d : Nat} {z : fm_Z H} {v0 : Nat} {v1 : Nat} {m : fm_M} (hE : fm_E G H) (h0 : fm_is H v0 0) (h1 : fm_is H v1 10) : fm_cal G H (d + 3) yX0_hasEndsOf [.ref v0, .ref v1] z m fm_rI (f_X0_hasEndsOf H v0 v1 m) := fm_mth (d := d + 2) mt_X0_hasEndsOf rfl rfl rfl (fun K => by
  show fm_o fm_rI (f_X0_hasEndsOf H v0 v1 m) K → fm_V G H (d + 2) RX0 cX0_hasEndsOf (some (.boolean)) z K 0 [some (.ref v0), some (.ref v1)] [] m
  have T : fm_T RX0 cX0_hasEndsOf tc_X0_hasEndsOf fr_X0 mr_X0 cr_X0 lr_X0 := ⟨tok_X0, dc_X0_hasEndsOf⟩
  unfold f_X0_hasEndsOf
  refine fs_r T 1 1 [some (.ref v0), some (.ref v1)] [.ref v1] rfl ?_
  refine fs_gi T 4 10 0 v1 rfl rfl rfl rfl h1 ?_
  refine fs_r T 1 5 [some (.ref v0), some (.ref v1)] [.int (2 : Int32), .int (m.1 v1 0)] rfl ?_
  refine fs_ic_lt T 42 8 rfl rfl rfl (fun _ => ?_) (fun _ => ?_)
  · refine fs_r T 1 43 [some (.ref v0), some (.ref v1)] [.int (0 : Int32)] rfl ?_
    exact fs_retc T rfl rfl rfl rfl
  · refine fs_r T 2 10 [some (.ref v0), some (.ref v1)] [.int (0 : Int32), .ref v1] rfl ?_
    refine fs_vI T 13 rfl rfl rfl rfl rfl rfl h1 (q_X10_nodeAt (d := d + 1) hE h1) ?_
    intro x1 m1
    refine fs_r T 1 14 [some (.ref v0), some (.ref v1)] [.ref v0, .int x1] rfl ?_
    refine fs_gp T 17 0 13 v0 10 rfl rfl rfl rfl h0 ?_
    intro e1
    refine fs_r T 1 18 [some (.ref v0), some (.ref v1)] [.int (0 : Int32), .ref (m1.2.1 v0 13), .int x1] rfl ?_
    refine fs_vI T 21 rfl rfl rfl rfl rfl rfl e1 (q_X10_nodeAt (d := d + 1) hE e1) ?_
    intro x2 m2
    refine fs_ic_ne T 42 24 rfl rfl rfl (fun _ => ?_) (fun _ => ?_)
    · refine fs_r T 1 25 [some (.ref v0), some (.ref v1)] [.ref v1] rfl ?_
      refine fs_vI T 28 rfl rfl rfl rfl rfl rfl h1 (q_X10_lastNode (d := d) hE h1) ?_
      intro x3 m3
      refine fs_r T 1 29 [some (.ref v0), some (.ref v1)] [.ref v0, .int x3] rfl ?_
      refine fs_gp T 32 0 13 v0 10 rfl rfl rfl rfl h0 ?_
      intro e2
      refine fs_vI T 35 rfl rfl rfl rfl rfl rfl e2 (q_X10_lastNode (d := d) hE e2) ?_
      intro x4 m4
      refine fs_ic_ne T 42 38 rfl rfl rfl (fun _ => ?_) (fun _ => ?_)
      · refine fs_r T 2 43 [some (.ref v0), some (.ref v1)] [.int (1 : Int32)] rfl ?_
        exact fs_retc T rfl rfl rfl rfl
      · refine fs_r T 1 43 [some (.ref v0), some (.ref v1)] [.int (0 : Int32)] rfl ?_
        exact fs_retc T rfl rfl rfl rfl
    · refine fs_r T 1 43 [some (.ref v0), some (.ref v1)] [.int (0 : Int32)] rfl ?_
      exact fs_retc T rfl rfl rfl rfl)
def f_X0_takeNewWay (H : fm_H) (v0 : Nat) (m : fm_M) : Option (Unit × fm_M) :=
  if fm_isb H (m.2.1 v0 13) 10 = true then
    if fm_isb H (m.2.1 v0 14) 10 = true then
      fm_bd (fm_sr m v0 13 (m.2.1 v0 14)) fun m1 =>
      fm_bd (fm_sr m1 v0 14 (m.2.1 v0 13)) fun m2 =>
      if fm_isb H (m2.2.1 v0 14) 10 = true then
        fm_bn (f_X10_erase H (m2.2.1 v0 14) m2) fun _ m3 =>
        fm_bd (fm_si m3 v0 2 (0 : Int32)) fun m4 =>
        some ((), m4)
      else none
    else none
  else none
set_option maxRecDepth 10000 in
theorem q_X0_takeNewWay {G : pm_G} {H : fm_H} {d : Nat} {z : fm_Z H} {v0 : Nat} {m : fm_M} (hE : fm_E G H) (h0 : fm_is H v0 0) : fm_cal G H (d + 2) yX0_takeNewWay [.ref v0] z m fm_rV (f_X0_takeNewWay H v0 m) := fm_mth (d := d + 1) mt_X0_takeNewWay rfl rfl rfl (fun K => by
  show fm_o fm_rV (f_X0_takeNewWay H v0 m) K → fm_V G H (d + 1) RX0 cX0_takeNewWay none z K 0 [some (.ref v0), none] [] m
  have T : fm_T RX0 cX0_takeNewWay tc_X0_takeNewWay fr_X0 mr_X0 cr_X0 lr_X0 := ⟨tok_X0, dc_X0_takeNewWay⟩
  unfold f_X0_takeNewWay
  refine fs_r T 1 1 [some (.ref v0), none] [.ref v0] rfl ?_
  refine fs_gp T 4 0 13 v0 10 rfl rfl rfl rfl h0 ?_
  intro e1
  refine fs_r T 3 7 [some (.ref v0), some (.ref (m.2.1 v0 13))] [.ref v0, .ref v0] rfl ?_
  refine fs_gp T 10 0 14 v0 10 rfl rfl rfl rfl h0 ?_
  intro e2
  refine fs_pr T 13 0 13 v0 rfl rfl rfl rfl h0 ?_
  intro m1
  refine fs_r T 2 15 [some (.ref v0), some (.ref (m.2.1 v0 13))] [.ref (m.2.1 v0 13), .ref v0] rfl ?_
  refine fs_pr T 18 0 14 v0 rfl rfl rfl rfl h0 ?_
  intro m2
  refine fs_r T 1 19 [some (.ref v0), some (.ref (m.2.1 v0 13))] [.ref v0] rfl ?_
  refine fs_gp T 22 0 14 v0 10 rfl rfl rfl rfl h0 ?_
  intro e3
  refine fs_vV T 25 rfl rfl rfl rfl rfl rfl e3 (q_X10_erase (d := d) hE e3) ?_
  intro x1 m3
  refine fs_r T 2 27 [some (.ref v0), some (.ref (m.2.1 v0 13))] [.int (0 : Int32), .ref v0] rfl ?_
  refine fs_pi T 30 0 2 v0 rfl rfl rfl rfl h0 ?_
  intro m4
  exact fs_retv T rfl rfl rfl)
def f_X4_isLink (H : fm_H) (v0 : Nat) (v1 : Int32) (m : fm_M) : Option (Int32 × fm_M) :=
  if v1 < 0 then
    some ((0 : Int32), m)
  else
  if m.1 v0 1 ≤ v1 then
    some ((0 : Int32), m)
  else
  some ((1 : Int32), m)
set_option maxRecDepth 10000 in
theorem q_X4_isLink {G : pm_G} {H : fm_H} {d : Nat} {z : fm_Z H} {v0 : Nat} {v1 : Int32} {m : fm_M} (hE : fm_E G H) (h0 : fm_is H v0 4) : fm_cal G H (d + 1) yX4_isLink [.ref v0, .int v1] z m fm_rI (f_X4_isLink H v0 v1 m) := fm_mth (d := d + 0) mt_X4_isLink rfl rfl rfl (fun K => by
  show fm_o fm_rI (f_X4_isLink H v0 v1 m) K → fm_V G H (d + 0) RX4 cX4_isLink (some (.boolean)) z K 0 [some (.ref v0), some (.int v1)] [] m
  have T : fm_T RX4 cX4_isLink tc_X4_isLink fr_X4 mr_X4 cr_X4 lr_X4 := ⟨tok_X4, dc_X4_isLink⟩
  unfold f_X4_isLink
  refine fs_r T 1 1 [some (.ref v0), some (.int v1)] [.int v1] rfl ?_
  refine fs_if_lt T 16 4 rfl rfl rfl (fun _ => ?_) (fun _ => ?_)
  · refine fs_r T 1 17 [some (.ref v0), some (.int v1)] [.int (0 : Int32)] rfl ?_
    exact fs_retc T rfl rfl rfl rfl
  · refine fs_r T 2 6 [some (.ref v0), some (.int v1)] [.ref v0, .int v1] rfl ?_
    refine fs_gi T 9 4 1 v0 rfl rfl rfl rfl h0 ?_
    refine fs_ic_ge T 16 12 rfl rfl rfl (fun _ => ?_) (fun _ => ?_)
    · refine fs_r T 1 17 [some (.ref v0), some (.int v1)] [.int (0 : Int32)] rfl ?_
      exact fs_retc T rfl rfl rfl rfl
    · refine fs_r T 2 17 [some (.ref v0), some (.int v1)] [.int (1 : Int32)] rfl ?_
      exact fs_retc T rfl rfl rfl rfl)
def f_X4_isUp (H : fm_H) (v0 : Nat) (v1 : Int32) (m : fm_M) : Option (Int32 × fm_M) :=
  fm_bn (f_X4_isLink H v0 v1 m) fun x1 m1 =>
  if x1 = 0 then
    some ((0 : Int32), m1)
  else
  if px_inb v1 (fm_sz H (H.2.1 v0 2)) = true then
    (if fm_isb H (m1.2.1 (H.2.1 v0 2) v1.toNatClampNeg) 3 = true then
      if m1.1 (m1.2.1 (H.2.1 v0 2) v1.toNatClampNeg) 4 = 0 then
        some ((0 : Int32), m1)
      else
      some ((1 : Int32), m1)
    else none)
  else none
set_option maxRecDepth 10000 in
theorem q_X4_isUp {G : pm_G} {H : fm_H} {d : Nat} {z : fm_Z H} {v0 : Nat} {v1 : Int32} {m : fm_M} (hE : fm_E G H) (h0 : fm_is H v0 4) : fm_cal G H (d + 2) yX4_isUp [.ref v0, .int v1] z m fm_rI (f_X4_isUp H v0 v1 m) := fm_mth (d := d + 1) mt_X4_isUp rfl rfl rfl (fun K => by
  show fm_o fm_rI (f_X4_isUp H v0 v1 m) K → fm_V G H (d + 1) RX4 cX4_isUp (some (.boolean)) z K 0 [some (.ref v0), some (.int v1)] [] m
  have T : fm_T RX4 cX4_isUp tc_X4_isUp fr_X4 mr_X4 cr_X4 lr_X4 := ⟨tok_X4, dc_X4_isUp⟩
  unfold f_X4_isUp
  refine fs_r T 2 2 [some (.ref v0), some (.int v1)] [.int v1, .ref v0] rfl ?_
  refine fs_vI T 5 rfl rfl rfl rfl rfl rfl h0 (q_X4_isLink (d := d) hE h0) ?_
  intro x1 m1
  refine fs_if_eq T 24 8 rfl rfl rfl (fun _ => ?_) (fun _ => ?_)
  · refine fs_r T 1 25 [some (.ref v0), some (.int v1)] [.int (0 : Int32)] rfl ?_
    exact fs_retc T rfl rfl rfl rfl
  · refine fs_r T 1 9 [some (.ref v0), some (.int v1)] [.ref v0] rfl ?_
    refine fs_gs T 12 4 2 v0 rfl rfl rfl rfl h0 ?_
    refine fs_r T 1 13 [some (.ref v0), some (.int v1)] [.int v1, .ref (H.2.1 v0 2)] rfl ?_
    refine fs_aa T 14 (H.2.1 v0 2) 3 rfl rfl (hE.1 _ 4 2 h0) ?_
    intro e1
    refine fs_gi T 17 3 4 (m1.2.1 (H.2.1 v0 2) v1.toNatClampNeg) rfl rfl rfl rfl e1 ?_
    refine fs_if_eq T 24 20 rfl rfl rfl (fun _ => ?_) (fun _ => ?_)
    · refine fs_r T 1 25 [some (.ref v0), some (.int v1)] [.int (0 : Int32)] rfl ?_
      exact fs_retc T rfl rfl rfl rfl
    · refine fs_r T 2 25 [some (.ref v0), some (.int v1)] [.int (1 : Int32)] rfl ?_
      exact fs_retc T rfl rfl rfl rfl)
def f_X10_usesLink_2 (H : fm_H) (v0 : Nat) (v1 : Int32) : Nat → Int32 → fm_M → Option (Int32 × fm_M)
  | 0, _, _ => none
  | n + 1, v2, m =>
    if m.1 v0 0 ≤ v2 then
      some ((0 : Int32), m)
    else
    if px_inb v2 (fm_sz H (H.2.1 v0 2)) = true then
      if m.1 (H.2.1 v0 2) v2.toNatClampNeg = v1 then
        some ((1 : Int32), m)
      else
      f_X10_usesLink_2 H v0 v1 n (v2 + 1) m
    else none
set_option maxRecDepth 10000 in
theorem w_X10_usesLink_2 {G : pm_G} {H : fm_H} {d : Nat} {z : fm_Z H} {K : pm_R → fm_M → Prop} (hE : fm_E G H) {v0 : Nat} {v1 : Int32} (h0 : fm_is H v0 10) : ∀ (n : Nat) (v2 : Int32) (m : fm_M), fm_o fm_rI (f_X10_usesLink_2 H v0 v1 n v2 m) K → fm_V G H (d + 0) RX10 cX10_usesLink (some (.boolean)) z K 2 [some (.ref v0), some (.int v1), some (.int v2)] [] m := by
  have T : fm_T RX10 cX10_usesLink tc_X10_usesLink fr_X10 mr_X10 cr_X10 lr_X10 := ⟨tok_X10, dc_X10_usesLink⟩
  intro n
  induction n with
  | zero =>
    intro v2 m 
    exact fs_none
  | succ n ih =>
    intro v2 m 
    unfold f_X10_usesLink_2
    refine fs_r T 2 4 [some (.ref v0), some (.int v1), some (.int v2)] [.ref v0, .int v2] rfl ?_
    refine fs_gi T 7 10 0 v0 rfl rfl rfl rfl h0 ?_
    refine fs_ic_ge T 28 10 rfl rfl rfl (fun _ => ?_) (fun _ => ?_)
    · refine fs_r T 1 29 [some (.ref v0), some (.int v1), some (.int v2)] [.int (0 : Int32)] rfl ?_
      exact fs_retc T rfl rfl rfl rfl
    · refine fs_r T 1 11 [some (.ref v0), some (.int v1), some (.int v2)] [.ref v0] rfl ?_
      refine fs_gs T 14 10 2 v0 rfl rfl rfl rfl h0 ?_
      refine fs_r T 1 15 [some (.ref v0), some (.int v1), some (.int v2)] [.int v2, .ref (H.2.1 v0 2)] rfl ?_
      refine fs_ai T 16 (H.2.1 v0 2) rfl rfl (hE.1 _ 10 2 h0) ?_
      refine fs_r T 1 17 [some (.ref v0), some (.int v1), some (.int v2)] [.int v1, .int (m.1 (H.2.1 v0 2) v2.toNatClampNeg)] rfl ?_
      refine fs_ic_ne T 22 20 rfl rfl rfl (fun _ => ?_) (fun _ => ?_)
      · refine fs_r T 1 21 [some (.ref v0), some (.int v1), some (.int v2)] [.int (1 : Int32)] rfl ?_
        exact fs_retc T rfl rfl rfl rfl
      · refine fs_r T 2 2 [some (.ref v0), some (.int v1), some (.int (v2 + 1))] [] rfl ?_
        exact ih _ _
def f_X10_usesLink (H : fm_H) (v0 : Nat) (v1 : Int32) (m : fm_M) : Option (Int32 × fm_M) :=
  f_X10_usesLink_2 H v0 v1 fm_N (1 : Int32) m
set_option maxRecDepth 10000 in
theorem q_X10_usesLink {G : pm_G} {H : fm_H} {d : Nat} {z : fm_Z H} {v0 : Nat} {v1 : Int32} {m : fm_M} (hE : fm_E G H) (h0 : fm_is H v0 10) : fm_cal G H (d + 1) yX10_usesLink [.ref v0, .int v1] z m fm_rI (f_X10_usesLink H v0 v1 m) := fm_mth (d := d + 0) mt_X10_usesLink rfl rfl rfl (fun K => by
  show fm_o fm_rI (f_X10_usesLink H v0 v1 m) K → fm_V G H (d + 0) RX10 cX10_usesLink (some (.boolean)) z K 0 [some (.ref v0), some (.int v1), none] [] m
  have T : fm_T RX10 cX10_usesLink tc_X10_usesLink fr_X10 mr_X10 cr_X10 lr_X10 := ⟨tok_X10, dc_X10_usesLink⟩
  unfold f_X10_usesLink
  refine fs_r T 2 2 [some (.ref v0), some (.int v1), some (.int (1 : Int32))] [] rfl ?_
  exact w_X10_usesLink_2 hE h0 _ _ _)
def f_X7_reservedOn_5 (H : fm_H) (v0 : Nat) (v1 : Int32) (v2 : Int32) : Nat → Int32 → Int32 → fm_M → Option (Int32 × fm_M)
  | 0, _, _, _ => none
  | n + 1, v3, v4, m =>
    if m.1 v0 5 ≤ v4 then
      some (v3, m)
    else
    if px_inb v4 (fm_sz H (H.2.1 v0 3)) = true then
      (if fm_isb H (m.2.1 (H.2.1 v0 3) v4.toNatClampNeg) 0 = true then
        if v4 = v2 then
          f_X7_reservedOn_5 H v0 v1 v2 n v3 (v4 + 1) m
        else
        if fm_isb H (m.2.1 (m.2.1 (H.2.1 v0 3) v4.toNatClampNeg) 13) 10 = true then
          fm_bn (f_X10_usesLink H (m.2.1 (m.2.1 (H.2.1 v0 3) v4.toNatClampNeg) 13) v1 m) fun x1 m1 =>
          if x1 = 0 then
            if fm_isb H (m1.2.1 (m.2.1 (H.2.1 v0 3) v4.toNatClampNeg) 14) 10 = true then
              fm_bn (f_X10_usesLink H (m1.2.1 (m.2.1 (H.2.1 v0 3) v4.toNatClampNeg) 14) v1 m1) fun x2 m2 =>
              if x2 = 0 then
                f_X7_reservedOn_5 H v0 v1 v2 n v3 (v4 + 1) m2
              else
              f_X7_reservedOn_5 H v0 v1 v2 n (v3 + m2.1 (m.2.1 (H.2.1 v0 3) v4.toNatClampNeg) 0) (v4 + 1) m2
            else none
          else
          f_X7_reservedOn_5 H v0 v1 v2 n (v3 + m1.1 (m.2.1 (H.2.1 v0 3) v4.toNatClampNeg) 0) (v4 + 1) m1
        else none
      else none)
    else none
set_option maxRecDepth 10000 in
theorem w_X7_reservedOn_5 {G : pm_G} {H : fm_H} {d : Nat} {z : fm_Z H} {K : pm_R → fm_M → Prop} (hE : fm_E G H) {v0 : Nat} {v1 : Int32} {v2 : Int32} (h0 : fm_is H v0 7) : ∀ (n : Nat) (v3 : Int32) (v4 : Int32) (m : fm_M), fm_o fm_rI (f_X7_reservedOn_5 H v0 v1 v2 n v3 v4 m) K → fm_V G H (d + 1) RX7 cX7_reservedOn (some (.int)) z K 5 [some (.ref v0), some (.int v1), some (.int v2), some (.int v3), some (.int v4), none] [] m := by
  have T : fm_T RX7 cX7_reservedOn tc_X7_reservedOn fr_X7 mr_X7 cr_X7 lr_X7 := ⟨tok_X7, dc_X7_reservedOn⟩
  intro n
  induction n with
  | zero =>
    intro v3 v4 m 
    exact fs_none
  | succ n ih =>
    intro v3 v4 m 
    unfold f_X7_reservedOn_5
    refine fs_r T 2 8 [some (.ref v0), some (.int v1), some (.int v2), some (.int v3), some (.int v4), none] [.ref v0, .int v4] rfl ?_
    refine fs_gi T 11 7 5 v0 rfl rfl rfl rfl h0 ?_
    refine fs_ic_ge T 67 14 rfl rfl rfl (fun _ => ?_) (fun _ => ?_)
    · refine fs_r T 1 68 [some (.ref v0), some (.int v1), some (.int v2), some (.int v3), some (.int v4), none] [.int v3] rfl ?_
      exact fs_reti T rfl rfl rfl
    · refine fs_r T 1 15 [some (.ref v0), some (.int v1), some (.int v2), some (.int v3), some (.int v4), none] [.ref v0] rfl ?_
      refine fs_gs T 18 7 3 v0 rfl rfl rfl rfl h0 ?_
      refine fs_r T 1 20 [some (.ref v0), some (.int v1), some (.int v2), some (.int v3), some (.int v4), none] [.int v4, .ref (H.2.1 v0 3)] rfl ?_
      refine fs_aa T 21 (H.2.1 v0 3) 0 rfl rfl (hE.1 _ 7 3 h0) ?_
      intro e1
      refine fs_r T 3 26 [some (.ref v0), some (.int v1), some (.int v2), some (.int v3), some (.int v4), some (.ref (m.2.1 (H.2.1 v0 3) v4.toNatClampNeg))] [.int v2, .int v4] rfl ?_
      refine fs_ic_eq T 61 29 rfl rfl rfl (fun _ => ?_) (fun _ => ?_)
      · refine fs_r T 2 5 [some (.ref v0), some (.int v1), some (.int v2), some (.int v3), some (.int (v4 + 1)), some (.ref (m.2.1 (H.2.1 v0 3) v4.toNatClampNeg))] [] rfl ?_
        refine fs_wk (ls' := [some (.ref v0), some (.int v1), some (.int v2), some (.int v3), some (.int (v4 + 1)), none]) ⟨rfl, rfl, rfl, rfl, rfl, trivial⟩ ?_
        exact ih _ _ _
      · refine fs_r T 1 31 [some (.ref v0), some (.int v1), some (.int v2), some (.int v3), some (.int v4), some (.ref (m.2.1 (H.2.1 v0 3) v4.toNatClampNeg))] [.ref (m.2.1 (H.2.1 v0 3) v4.toNatClampNeg)] rfl ?_
        refine fs_gp T 34 0 13 (m.2.1 (H.2.1 v0 3) v4.toNatClampNeg) 10 rfl rfl rfl rfl e1 ?_
        intro e2
        refine fs_r T 1 35 [some (.ref v0), some (.int v1), some (.int v2), some (.int v3), some (.int v4), some (.ref (m.2.1 (H.2.1 v0 3) v4.toNatClampNeg))] [.int v1, .ref (m.2.1 (m.2.1 (H.2.1 v0 3) v4.toNatClampNeg) 13)] rfl ?_
        refine fs_vI T 38 rfl rfl rfl rfl rfl rfl e2 (q_X10_usesLink (d := d) hE e2) ?_
        intro x1 m1
        refine fs_if_ne T 53 41 rfl rfl rfl (fun _ => ?_) (fun _ => ?_)
        · refine fs_r T 1 43 [some (.ref v0), some (.int v1), some (.int v2), some (.int v3), some (.int v4), some (.ref (m.2.1 (H.2.1 v0 3) v4.toNatClampNeg))] [.ref (m.2.1 (H.2.1 v0 3) v4.toNatClampNeg)] rfl ?_
          refine fs_gp T 46 0 14 (m.2.1 (H.2.1 v0 3) v4.toNatClampNeg) 10 rfl rfl rfl rfl e1 ?_
          intro e3
          refine fs_r T 1 47 [some (.ref v0), some (.int v1), some (.int v2), some (.int v3), some (.int v4), some (.ref (m.2.1 (H.2.1 v0 3) v4.toNatClampNeg))] [.int v1, .ref (m1.2.1 (m.2.1 (H.2.1 v0 3) v4.toNatClampNeg) 14)] rfl ?_
          refine fs_vI T 50 rfl rfl rfl rfl rfl rfl e3 (q_X10_usesLink (d := d) hE e3) ?_
          intro x2 m2
          refine fs_if_eq T 61 53 rfl rfl rfl (fun _ => ?_) (fun _ => ?_)
          · refine fs_r T 2 5 [some (.ref v0), some (.int v1), some (.int v2), some (.int v3), some (.int (v4 + 1)), some (.ref (m.2.1 (H.2.1 v0 3) v4.toNatClampNeg))] [] rfl ?_
            refine fs_wk (ls' := [some (.ref v0), some (.int v1), some (.int v2), some (.int v3), some (.int (v4 + 1)), none]) ⟨rfl, rfl, rfl, rfl, rfl, trivial⟩ ?_
            exact ih _ _ _
          · refine fs_r T 2 56 [some (.ref v0), some (.int v1), some (.int v2), some (.int v3), some (.int v4), some (.ref (m.2.1 (H.2.1 v0 3) v4.toNatClampNeg))] [.ref (m.2.1 (H.2.1 v0 3) v4.toNatClampNeg), .int v3] rfl ?_
            refine fs_gi T 59 0 0 (m.2.1 (H.2.1 v0 3) v4.toNatClampNeg) rfl rfl rfl rfl e1 ?_
            refine fs_r T 4 5 [some (.ref v0), some (.int v1), some (.int v2), some (.int (v3 + m2.1 (m.2.1 (H.2.1 v0 3) v4.toNatClampNeg) 0)), some (.int (v4 + 1)), some (.ref (m.2.1 (H.2.1 v0 3) v4.toNatClampNeg))] [] rfl ?_
            refine fs_wk (ls' := [some (.ref v0), some (.int v1), some (.int v2), some (.int (v3 + m2.1 (m.2.1 (H.2.1 v0 3) v4.toNatClampNeg) 0)), some (.int (v4 + 1)), none]) ⟨rfl, rfl, rfl, rfl, rfl, trivial⟩ ?_
            exact ih _ _ _
        · refine fs_r T 2 56 [some (.ref v0), some (.int v1), some (.int v2), some (.int v3), some (.int v4), some (.ref (m.2.1 (H.2.1 v0 3) v4.toNatClampNeg))] [.ref (m.2.1 (H.2.1 v0 3) v4.toNatClampNeg), .int v3] rfl ?_
          refine fs_gi T 59 0 0 (m.2.1 (H.2.1 v0 3) v4.toNatClampNeg) rfl rfl rfl rfl e1 ?_
          refine fs_r T 4 5 [some (.ref v0), some (.int v1), some (.int v2), some (.int (v3 + m1.1 (m.2.1 (H.2.1 v0 3) v4.toNatClampNeg) 0)), some (.int (v4 + 1)), some (.ref (m.2.1 (H.2.1 v0 3) v4.toNatClampNeg))] [] rfl ?_
          refine fs_wk (ls' := [some (.ref v0), some (.int v1), some (.int v2), some (.int (v3 + m1.1 (m.2.1 (H.2.1 v0 3) v4.toNatClampNeg) 0)), some (.int (v4 + 1)), none]) ⟨rfl, rfl, rfl, rfl, rfl, trivial⟩ ?_
          exact ih _ _ _
def f_X7_reservedOn (H : fm_H) (v0 : Nat) (v1 : Int32) (v2 : Int32) (m : fm_M) : Option (Int32 × fm_M) :=
  f_X7_reservedOn_5 H v0 v1 v2 fm_N (0 : Int32) (0 : Int32) m
set_option maxRecDepth 10000 in
theorem q_X7_reservedOn {G : pm_G} {H : fm_H} {d : Nat} {z : fm_Z H} {v0 : Nat} {v1 : Int32} {v2 : Int32} {m : fm_M} (hE : fm_E G H) (h0 : fm_is H v0 7) : fm_cal G H (d + 2) yX7_reservedOn [.ref v0, .int v1, .int v2] z m fm_rI (f_X7_reservedOn H v0 v1 v2 m) := fm_mth (d := d + 1) mt_X7_reservedOn rfl rfl rfl (fun K => by
  show fm_o fm_rI (f_X7_reservedOn H v0 v1 v2 m) K → fm_V G H (d + 1) RX7 cX7_reservedOn (some (.int)) z K 0 [some (.ref v0), some (.int v1), some (.int v2), none, none, none] [] m
  have T : fm_T RX7 cX7_reservedOn tc_X7_reservedOn fr_X7 mr_X7 cr_X7 lr_X7 := ⟨tok_X7, dc_X7_reservedOn⟩
  unfold f_X7_reservedOn
  refine fs_r T 4 5 [some (.ref v0), some (.int v1), some (.int v2), some (.int (0 : Int32)), some (.int (0 : Int32)), none] [] rfl ?_
  exact w_X7_reservedOn_5 hE h0 _ _ _ _)
def f_X7_hasRoom (H : fm_H) (v0 : Nat) (v1 : Int32) (v2 : Int32) (v3 : Int32) (m : fm_M) : Option (Int32 × fm_M) :=
  fm_bn (f_X4_isUp H (H.2.1 v0 0) v1 m) fun x1 m1 =>
  if x1 = 0 then
    some ((0 : Int32), m1)
  else
  fm_bn (f_X7_reservedOn H v0 v1 v3 m1) fun x2 m2 =>
  if px_inb v1 (fm_sz H (H.2.1 (H.2.1 v0 0) 2)) = true then
    (if fm_isb H (m2.2.1 (H.2.1 (H.2.1 v0 0) 2) v1.toNatClampNeg) 3 = true then
      if m2.1 (m2.2.1 (H.2.1 (H.2.1 v0 0) 2) v1.toNatClampNeg) 2 < (x2 + v2) then
        some ((0 : Int32), m2)
      else
      some ((1 : Int32), m2)
    else none)
  else none
set_option maxRecDepth 10000 in
theorem q_X7_hasRoom {G : pm_G} {H : fm_H} {d : Nat} {z : fm_Z H} {v0 : Nat} {v1 : Int32} {v2 : Int32} {v3 : Int32} {m : fm_M} (hE : fm_E G H) (h0 : fm_is H v0 7) : fm_cal G H (d + 3) yX7_hasRoom [.ref v0, .int v1, .int v2, .int v3] z m fm_rI (f_X7_hasRoom H v0 v1 v2 v3 m) := fm_mth (d := d + 2) mt_X7_hasRoom rfl rfl rfl (fun K => by
  show fm_o fm_rI (f_X7_hasRoom H v0 v1 v2 v3 m) K → fm_V G H (d + 2) RX7 cX7_hasRoom (some (.boolean)) z K 0 [some (.ref v0), some (.int v1), some (.int v2), some (.int v3)] [] m
  have T : fm_T RX7 cX7_hasRoom tc_X7_hasRoom fr_X7 mr_X7 cr_X7 lr_X7 := ⟨tok_X7, dc_X7_hasRoom⟩
  unfold f_X7_hasRoom
  refine fs_r T 1 1 [some (.ref v0), some (.int v1), some (.int v2), some (.int v3)] [.ref v0] rfl ?_
  refine fs_gs T 4 7 0 v0 rfl rfl rfl rfl h0 ?_
  refine fs_r T 1 5 [some (.ref v0), some (.int v1), some (.int v2), some (.int v3)] [.int v1, .ref (H.2.1 v0 0)] rfl ?_
  refine fs_vI T 8 rfl rfl rfl rfl rfl rfl (hE.1 _ 7 0 h0) (q_X4_isUp (d := d) hE (hE.1 _ 7 0 h0)) ?_
  intro x1 m1
  refine fs_if_eq T 38 11 rfl rfl rfl (fun _ => ?_) (fun _ => ?_)
  · refine fs_r T 1 39 [some (.ref v0), some (.int v1), some (.int v2), some (.int v3)] [.int (0 : Int32)] rfl ?_
    exact fs_retc T rfl rfl rfl rfl
  · refine fs_r T 3 14 [some (.ref v0), some (.int v1), some (.int v2), some (.int v3)] [.int v3, .int v1, .ref v0] rfl ?_
    refine fs_vI T 17 rfl rfl rfl rfl rfl rfl h0 (q_X7_reservedOn (d := d) hE h0) ?_
    intro x2 m2
    refine fs_r T 3 20 [some (.ref v0), some (.int v1), some (.int v2), some (.int v3)] [.ref v0, .int (x2 + v2)] rfl ?_
    refine fs_gs T 23 7 0 v0 rfl rfl rfl rfl h0 ?_
    refine fs_gs T 26 4 2 (H.2.1 v0 0) rfl rfl rfl rfl (hE.1 _ 7 0 h0) ?_
    refine fs_r T 1 27 [some (.ref v0), some (.int v1), some (.int v2), some (.int v3)] [.int v1, .ref (H.2.1 (H.2.1 v0 0) 2), .int (x2 + v2)] rfl ?_
    refine fs_aa T 28 (H.2.1 (H.2.1 v0 0) 2) 3 rfl rfl (hE.1 _ 4 2 (hE.1 _ 7 0 h0)) ?_
    intro e1
    refine fs_gi T 31 3 2 (m2.2.1 (H.2.1 (H.2.1 v0 0) 2) v1.toNatClampNeg) rfl rfl rfl rfl e1 ?_
    refine fs_ic_gt T 38 34 rfl rfl rfl (fun _ => ?_) (fun _ => ?_)
    · refine fs_r T 1 39 [some (.ref v0), some (.int v1), some (.int v2), some (.int v3)] [.int (0 : Int32)] rfl ?_
      exact fs_retc T rfl rfl rfl rfl
    · refine fs_r T 2 39 [some (.ref v0), some (.int v1), some (.int v2), some (.int v3)] [.int (1 : Int32)] rfl ?_
      exact fs_retc T rfl rfl rfl rfl)
def f_X1_prepare_3 (H : fm_H) (v0 : Nat) (v1 : Nat) (v2 : Int32) (v3 : Int32) : Nat → Int32 → fm_M → Option (Unit × fm_M)
  | 0, _, _ => none
  | n + 1, v4, m =>
    if (16 : Int32) ≤ v4 then
      some ((), m)
    else
    fm_bn (f_X7_hasRoom H v1 v4 v2 v3 m) fun x1 m1 =>
    if px_inb v4 (fm_sz H (H.2.1 v0 2)) = true then
      (fm_bd (fm_si m1 (H.2.1 v0 2) v4.toNatClampNeg (fm_nw .boolean x1)) fun m2 =>
      f_X1_prepare_3 H v0 v1 v2 v3 n (v4 + 1) m2)
    else none
set_option maxRecDepth 10000 in
theorem w_X1_prepare_3 {G : pm_G} {H : fm_H} {d : Nat} {z : fm_Z H} {K : pm_R → fm_M → Prop} (hE : fm_E G H) {v0 : Nat} {v1 : Nat} {v2 : Int32} {v3 : Int32} (h0 : fm_is H v0 1) (h1 : fm_is H v1 7) : ∀ (n : Nat) (v4 : Int32) (m : fm_M), fm_o fm_rV (f_X1_prepare_3 H v0 v1 v2 v3 n v4 m) K → fm_V G H (d + 3) RX1 cX1_prepare none z K 3 [some (.ref v0), some (.ref v1), some (.int v2), some (.int v3), some (.int v4)] [] m := by
  have T : fm_T RX1 cX1_prepare tc_X1_prepare fr_X1 mr_X1 cr_X1 lr_X1 := ⟨tok_X1, dc_X1_prepare⟩
  intro n
  induction n with
  | zero =>
    intro v4 m 
    exact fs_none
  | succ n ih =>
    intro v4 m 
    unfold f_X1_prepare_3
    refine fs_r T 2 7 [some (.ref v0), some (.ref v1), some (.int v2), some (.int v3), some (.int v4)] [.int (16 : Int32), .int v4] rfl ?_
    refine fs_ic_ge T 31 10 rfl rfl rfl (fun _ => ?_) (fun _ => ?_)
    · exact fs_retv T rfl rfl rfl
    · refine fs_r T 1 11 [some (.ref v0), some (.ref v1), some (.int v2), some (.int v3), some (.int v4)] [.ref v0] rfl ?_
      refine fs_gs T 14 1 2 v0 rfl rfl rfl rfl h0 ?_
      refine fs_r T 5 21 [some (.ref v0), some (.ref v1), some (.int v2), some (.int v3), some (.int v4)] [.int v3, .int v2, .int v4, .ref v1, .int v4, .ref (H.2.1 v0 2)] rfl ?_
      refine fs_vI T 24 rfl rfl rfl rfl rfl rfl h1 (q_X7_hasRoom (d := d) hE h1) ?_
      intro x1 m1
      refine fs_sb T 25 (H.2.1 v0 2) rfl rfl (Or.inr rfl) (hE.1 _ 1 2 h0) ?_
      intro m2
      refine fs_r T 2 3 [some (.ref v0), some (.ref v1), some (.int v2), some (.int v3), some (.int (v4 + 1))] [] rfl ?_
      exact ih _ _
def f_X1_prepare (H : fm_H) (v0 : Nat) (v1 : Nat) (v2 : Int32) (v3 : Int32) (m : fm_M) : Option (Unit × fm_M) :=
  f_X1_prepare_3 H v0 v1 v2 v3 fm_N (0 : Int32) m
set_option maxRecDepth 10000 in
theorem q_X1_prepare {G : pm_G} {H : fm_H} {d : Nat} {z : fm_Z H} {v0 : Nat} {v1 : Nat} {v2 : Int32} {v3 : Int32} {m : fm_M} (hE : fm_E G H) (h0 : fm_is H v0 1) (h1 : fm_is H v1 7) : fm_cal G H (d + 4) yX1_prepare [.ref v0, .ref v1, .int v2, .int v3] z m fm_rV (f_X1_prepare H v0 v1 v2 v3 m) := fm_mth (d := d + 3) mt_X1_prepare rfl rfl rfl (fun K => by
  show fm_o fm_rV (f_X1_prepare H v0 v1 v2 v3 m) K → fm_V G H (d + 3) RX1 cX1_prepare none z K 0 [some (.ref v0), some (.ref v1), some (.int v2), some (.int v3), none] [] m
  have T : fm_T RX1 cX1_prepare tc_X1_prepare fr_X1 mr_X1 cr_X1 lr_X1 := ⟨tok_X1, dc_X1_prepare⟩
  unfold f_X1_prepare
  refine fs_r T 2 3 [some (.ref v0), some (.ref v1), some (.int v2), some (.int v3), some (.int (0 : Int32))] [] rfl ?_
  exact w_X1_prepare_3 hE h0 h1 _ _ _)
def f_X10_append (H : fm_H) (v0 : Nat) (v1 : Int32) (v2 : Int32) (m : fm_M) : Option (Unit × fm_M) :=
  if m.1 v0 0 < 0 then
    some ((), m)
  else
  if (6 : Int32) ≤ m.1 v0 0 then
    some ((), m)
  else
  if px_inb (m.1 v0 0) (fm_sz H (H.2.1 v0 1)) = true then
    (fm_bd (fm_si m (H.2.1 v0 1) (m.1 v0 0).toNatClampNeg v1) fun m1 =>
    if px_inb (m1.1 v0 0) (fm_sz H (H.2.1 v0 2)) = true then
      (fm_bd (fm_si m1 (H.2.1 v0 2) (m1.1 v0 0).toNatClampNeg v2) fun m2 =>
      if px_inb (m2.1 v0 0) (fm_sz H (H.2.1 v0 3)) = true then
        (fm_bd (fm_si m2 (H.2.1 v0 3) (m2.1 v0 0).toNatClampNeg (-1 : Int32)) fun m3 =>
        fm_bd (fm_si m3 v0 0 (m3.1 v0 0 + (1 : Int32))) fun m4 =>
        some ((), m4))
      else none)
    else none)
  else none
set_option maxRecDepth 10000 in
theorem q_X10_append {G : pm_G} {H : fm_H} {d : Nat} {z : fm_Z H} {v0 : Nat} {v1 : Int32} {v2 : Int32} {m : fm_M} (hE : fm_E G H) (h0 : fm_is H v0 10) : fm_cal G H (d + 1) yX10_append [.ref v0, .int v1, .int v2] z m fm_rV (f_X10_append H v0 v1 v2 m) := fm_mth (d := d + 0) mt_X10_append rfl rfl rfl (fun K => by
  show fm_o fm_rV (f_X10_append H v0 v1 v2 m) K → fm_V G H (d + 0) RX10 cX10_append none z K 0 [some (.ref v0), some (.int v1), some (.int v2)] [] m
  have T : fm_T RX10 cX10_append tc_X10_append fr_X10 mr_X10 cr_X10 lr_X10 := ⟨tok_X10, dc_X10_append⟩
  unfold f_X10_append
  refine fs_r T 1 1 [some (.ref v0), some (.int v1), some (.int v2)] [.ref v0] rfl ?_
  refine fs_gi T 4 10 0 v0 rfl rfl rfl rfl h0 ?_
  refine fs_if_lt T 56 7 rfl rfl rfl (fun _ => ?_) (fun _ => ?_)
  · exact fs_retv T rfl rfl rfl
  · refine fs_r T 1 8 [some (.ref v0), some (.int v1), some (.int v2)] [.ref v0] rfl ?_
    refine fs_gi T 11 10 0 v0 rfl rfl rfl rfl h0 ?_
    refine fs_r T 1 13 [some (.ref v0), some (.int v1), some (.int v2)] [.int (6 : Int32), .int (m.1 v0 0)] rfl ?_
    refine fs_ic_ge T 56 16 rfl rfl rfl (fun _ => ?_) (fun _ => ?_)
    · exact fs_retv T rfl rfl rfl
    · refine fs_r T 1 17 [some (.ref v0), some (.int v1), some (.int v2)] [.ref v0] rfl ?_
      refine fs_gs T 20 10 1 v0 rfl rfl rfl rfl h0 ?_
      refine fs_r T 1 21 [some (.ref v0), some (.int v1), some (.int v2)] [.ref v0, .ref (H.2.1 v0 1)] rfl ?_
      refine fs_gi T 24 10 0 v0 rfl rfl rfl rfl h0 ?_
      refine fs_r T 1 25 [some (.ref v0), some (.int v1), some (.int v2)] [.int v1, .int (m.1 v0 0), .ref (H.2.1 v0 1)] rfl ?_
      refine fs_si T 26 (H.2.1 v0 1) rfl rfl (hE.1 _ 10 1 h0) ?_
      intro m1
      refine fs_r T 1 27 [some (.ref v0), some (.int v1), some (.int v2)] [.ref v0] rfl ?_
      refine fs_gs T 30 10 2 v0 rfl rfl rfl rfl h0 ?_
      refine fs_r T 1 31 [some (.ref v0), some (.int v1), some (.int v2)] [.ref v0, .ref (H.2.1 v0 2)] rfl ?_
      refine fs_gi T 34 10 0 v0 rfl rfl rfl rfl h0 ?_
      refine fs_r T 1 35 [some (.ref v0), some (.int v1), some (.int v2)] [.int v2, .int (m1.1 v0 0), .ref (H.2.1 v0 2)] rfl ?_
      refine fs_si T 36 (H.2.1 v0 2) rfl rfl (hE.1 _ 10 2 h0) ?_
      intro m2
      refine fs_r T 1 37 [some (.ref v0), some (.int v1), some (.int v2)] [.ref v0] rfl ?_
      refine fs_gs T 40 10 3 v0 rfl rfl rfl rfl h0 ?_
      refine fs_r T 1 41 [some (.ref v0), some (.int v1), some (.int v2)] [.ref v0, .ref (H.2.1 v0 3)] rfl ?_
      refine fs_gi T 44 10 0 v0 rfl rfl rfl rfl h0 ?_
      refine fs_r T 1 45 [some (.ref v0), some (.int v1), some (.int v2)] [.int (-1 : Int32), .int (m2.1 v0 0), .ref (H.2.1 v0 3)] rfl ?_
      refine fs_si T 46 (H.2.1 v0 3) rfl rfl (hE.1 _ 10 3 h0) ?_
      intro m3
      refine fs_r T 2 48 [some (.ref v0), some (.int v1), some (.int v2)] [.ref v0, .ref v0] rfl ?_
      refine fs_gi T 51 10 0 v0 rfl rfl rfl rfl h0 ?_
      refine fs_r T 2 53 [some (.ref v0), some (.int v1), some (.int v2)] [.int (m3.1 v0 0 + (1 : Int32)), .ref v0] rfl ?_
      refine fs_pi T 56 10 0 v0 rfl rfl rfl rfl h0 ?_
      intro m4
      exact fs_retv T rfl rfl rfl)
def f_X10_dropLast (H : fm_H) (v0 : Nat) (m : fm_M) : Option (Unit × fm_M) :=
  if m.1 v0 0 ≤ 0 then
    some ((), m)
  else
  fm_bd (fm_si m v0 0 (m.1 v0 0 - (1 : Int32))) fun m1 =>
  some ((), m1)
set_option maxRecDepth 10000 in
theorem q_X10_dropLast {G : pm_G} {H : fm_H} {d : Nat} {z : fm_Z H} {v0 : Nat} {m : fm_M} (hE : fm_E G H) (h0 : fm_is H v0 10) : fm_cal G H (d + 1) yX10_dropLast [.ref v0] z m fm_rV (f_X10_dropLast H v0 m) := fm_mth (d := d + 0) mt_X10_dropLast rfl rfl rfl (fun K => by
  show fm_o fm_rV (f_X10_dropLast H v0 m) K → fm_V G H (d + 0) RX10 cX10_dropLast none z K 0 [some (.ref v0)] [] m
  have T : fm_T RX10 cX10_dropLast tc_X10_dropLast fr_X10 mr_X10 cr_X10 lr_X10 := ⟨tok_X10, dc_X10_dropLast⟩
  unfold f_X10_dropLast
  refine fs_r T 1 1 [some (.ref v0)] [.ref v0] rfl ?_
  refine fs_gi T 4 10 0 v0 rfl rfl rfl rfl h0 ?_
  refine fs_if_le T 17 7 rfl rfl rfl (fun _ => ?_) (fun _ => ?_)
  · exact fs_retv T rfl rfl rfl
  · refine fs_r T 2 9 [some (.ref v0)] [.ref v0, .ref v0] rfl ?_
    refine fs_gi T 12 10 0 v0 rfl rfl rfl rfl h0 ?_
    refine fs_r T 2 14 [some (.ref v0)] [.int (m.1 v0 0 - (1 : Int32)), .ref v0] rfl ?_
    refine fs_pi T 17 10 0 v0 rfl rfl rfl rfl h0 ?_
    intro m1
    exact fs_retv T rfl rfl rfl)
def f_X10_hasNode_2 (H : fm_H) (v0 : Nat) (v1 : Int32) : Nat → Int32 → fm_M → Option (Int32 × fm_M)
  | 0, _, _ => none
  | n + 1, v2, m =>
    if m.1 v0 0 ≤ v2 then
      some ((0 : Int32), m)
    else
    if px_inb v2 (fm_sz H (H.2.1 v0 1)) = true then
      if m.1 (H.2.1 v0 1) v2.toNatClampNeg = v1 then
        some ((1 : Int32), m)
      else
      f_X10_hasNode_2 H v0 v1 n (v2 + 1) m
    else none
set_option maxRecDepth 10000 in
theorem w_X10_hasNode_2 {G : pm_G} {H : fm_H} {d : Nat} {z : fm_Z H} {K : pm_R → fm_M → Prop} (hE : fm_E G H) {v0 : Nat} {v1 : Int32} (h0 : fm_is H v0 10) : ∀ (n : Nat) (v2 : Int32) (m : fm_M), fm_o fm_rI (f_X10_hasNode_2 H v0 v1 n v2 m) K → fm_V G H (d + 0) RX10 cX10_hasNode (some (.boolean)) z K 2 [some (.ref v0), some (.int v1), some (.int v2)] [] m := by
  have T : fm_T RX10 cX10_hasNode tc_X10_hasNode fr_X10 mr_X10 cr_X10 lr_X10 := ⟨tok_X10, dc_X10_hasNode⟩
  intro n
  induction n with
  | zero =>
    intro v2 m 
    exact fs_none
  | succ n ih =>
    intro v2 m 
    unfold f_X10_hasNode_2
    refine fs_r T 2 4 [some (.ref v0), some (.int v1), some (.int v2)] [.ref v0, .int v2] rfl ?_
    refine fs_gi T 7 10 0 v0 rfl rfl rfl rfl h0 ?_
    refine fs_ic_ge T 28 10 rfl rfl rfl (fun _ => ?_) (fun _ => ?_)
    · refine fs_r T 1 29 [some (.ref v0), some (.int v1), some (.int v2)] [.int (0 : Int32)] rfl ?_
      exact fs_retc T rfl rfl rfl rfl
    · refine fs_r T 1 11 [some (.ref v0), some (.int v1), some (.int v2)] [.ref v0] rfl ?_
      refine fs_gs T 14 10 1 v0 rfl rfl rfl rfl h0 ?_
      refine fs_r T 1 15 [some (.ref v0), some (.int v1), some (.int v2)] [.int v2, .ref (H.2.1 v0 1)] rfl ?_
      refine fs_ai T 16 (H.2.1 v0 1) rfl rfl (hE.1 _ 10 1 h0) ?_
      refine fs_r T 1 17 [some (.ref v0), some (.int v1), some (.int v2)] [.int v1, .int (m.1 (H.2.1 v0 1) v2.toNatClampNeg)] rfl ?_
      refine fs_ic_ne T 22 20 rfl rfl rfl (fun _ => ?_) (fun _ => ?_)
      · refine fs_r T 1 21 [some (.ref v0), some (.int v1), some (.int v2)] [.int (1 : Int32)] rfl ?_
        exact fs_retc T rfl rfl rfl rfl
      · refine fs_r T 2 2 [some (.ref v0), some (.int v1), some (.int (v2 + 1))] [] rfl ?_
        exact ih _ _
def f_X10_hasNode (H : fm_H) (v0 : Nat) (v1 : Int32) (m : fm_M) : Option (Int32 × fm_M) :=
  f_X10_hasNode_2 H v0 v1 fm_N (0 : Int32) m
set_option maxRecDepth 10000 in
theorem q_X10_hasNode {G : pm_G} {H : fm_H} {d : Nat} {z : fm_Z H} {v0 : Nat} {v1 : Int32} {m : fm_M} (hE : fm_E G H) (h0 : fm_is H v0 10) : fm_cal G H (d + 1) yX10_hasNode [.ref v0, .int v1] z m fm_rI (f_X10_hasNode H v0 v1 m) := fm_mth (d := d + 0) mt_X10_hasNode rfl rfl rfl (fun K => by
  show fm_o fm_rI (f_X10_hasNode H v0 v1 m) K → fm_V G H (d + 0) RX10 cX10_hasNode (some (.boolean)) z K 0 [some (.ref v0), some (.int v1), none] [] m
  have T : fm_T RX10 cX10_hasNode tc_X10_hasNode fr_X10 mr_X10 cr_X10 lr_X10 := ⟨tok_X10, dc_X10_hasNode⟩
  unfold f_X10_hasNode
  refine fs_r T 2 2 [some (.ref v0), some (.int v1), some (.int (0 : Int32))] [] rfl ?_
  exact w_X10_hasNode_2 hE h0 _ _ _)
def f_X1_isOpen (H : fm_H) (v0 : Nat) (v1 : Int32) (m : fm_M) : Option (Int32 × fm_M) :=
  if v1 < 0 then
    some ((0 : Int32), m)
  else
  if (16 : Int32) ≤ v1 then
    some ((0 : Int32), m)
  else
  if v1 = m.1 v0 5 then
    some ((0 : Int32), m)
  else
  if px_inb v1 (fm_sz H (H.2.1 v0 2)) = true then
    if m.1 (H.2.1 v0 2) v1.toNatClampNeg = 0 then
      some ((0 : Int32), m)
    else
    some ((1 : Int32), m)
  else none
set_option maxRecDepth 10000 in
theorem q_X1_isOpen {G : pm_G} {H : fm_H} {d : Nat} {z : fm_Z H} {v0 : Nat} {v1 : Int32} {m : fm_M} (hE : fm_E G H) (h0 : fm_is H v0 1) : fm_cal G H (d + 1) yX1_isOpen [.ref v0, .int v1] z m fm_rI (f_X1_isOpen H v0 v1 m) := fm_mth (d := d + 0) mt_X1_isOpen rfl rfl rfl (fun K => by
  show fm_o fm_rI (f_X1_isOpen H v0 v1 m) K → fm_V G H (d + 0) RX1 cX1_isOpen (some (.boolean)) z K 0 [some (.ref v0), some (.int v1)] [] m
  have T : fm_T RX1 cX1_isOpen tc_X1_isOpen fr_X1 mr_X1 cr_X1 lr_X1 := ⟨tok_X1, dc_X1_isOpen⟩
  unfold f_X1_isOpen
  refine fs_r T 1 1 [some (.ref v0), some (.int v1)] [.int v1] rfl ?_
  refine fs_if_lt T 31 4 rfl rfl rfl (fun _ => ?_) (fun _ => ?_)
  · refine fs_r T 1 32 [some (.ref v0), some (.int v1)] [.int (0 : Int32)] rfl ?_
    exact fs_retc T rfl rfl rfl rfl
  · refine fs_r T 2 7 [some (.ref v0), some (.int v1)] [.int (16 : Int32), .int v1] rfl ?_
    refine fs_ic_ge T 31 10 rfl rfl rfl (fun _ => ?_) (fun _ => ?_)
    · refine fs_r T 1 32 [some (.ref v0), some (.int v1)] [.int (0 : Int32)] rfl ?_
      exact fs_retc T rfl rfl rfl rfl
    · refine fs_r T 2 12 [some (.ref v0), some (.int v1)] [.ref v0, .int v1] rfl ?_
      refine fs_gi T 15 1 5 v0 rfl rfl rfl rfl h0 ?_
      refine fs_ic_eq T 31 18 rfl rfl rfl (fun _ => ?_) (fun _ => ?_)
      · refine fs_r T 1 32 [some (.ref v0), some (.int v1)] [.int (0 : Int32)] rfl ?_
        exact fs_retc T rfl rfl rfl rfl
      · refine fs_r T 1 19 [some (.ref v0), some (.int v1)] [.ref v0] rfl ?_
        refine fs_gs T 22 1 2 v0 rfl rfl rfl rfl h0 ?_
        refine fs_r T 1 23 [some (.ref v0), some (.int v1)] [.int v1, .ref (H.2.1 v0 2)] rfl ?_
        refine fs_ab T 24 (H.2.1 v0 2) rfl rfl (Or.inr rfl) (hE.1 _ 1 2 h0) ?_
        refine fs_if_eq T 31 27 rfl rfl rfl (fun _ => ?_) (fun _ => ?_)
        · refine fs_r T 1 32 [some (.ref v0), some (.int v1)] [.int (0 : Int32)] rfl ?_
          exact fs_retc T rfl rfl rfl rfl
        · refine fs_r T 2 32 [some (.ref v0), some (.int v1)] [.int (1 : Int32)] rfl ?_
          exact fs_retc T rfl rfl rfl rfl)
