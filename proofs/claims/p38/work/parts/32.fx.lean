/-! functions out of the code -/
def f_X11_checkLink (H : fm_H) (v0 : Nat) (v1 : Int32) (m : fm_M) : Option ((Unit ⊕ String) × fm_M) :=
  if fm_isb H (m.2.1 v0 5) 7 = true then
    fm_bn (f_X4_isLink H (H.2.1 (m.2.1 v0 5) 0) v1 m) fun x1 m1 =>
    if x1 = 0 then
      some (.inr pm_xB, m1)
    else
    some (.inl (), m1)
  else none
set_option maxRecDepth 10000 in
theorem q_X11_checkLink {G : pm_G} {H : fm_H} {d : Nat} {z : fm_Z H} {v0 : Nat} {v1 : Int32} {m : fm_M} (hE : fm_E G H) (h0 : fm_is H v0 11) : fm_cal G H (d + 2) yX11_checkLink [.ref v0, .int v1] z m (fm_rX fm_rV) (f_X11_checkLink H v0 v1 m) := fm_mth (d := d + 1) mt_X11_checkLink rfl rfl rfl (fun K => by
  show fm_o (fm_rX fm_rV) (f_X11_checkLink H v0 v1 m) K → fm_V G H (d + 1) RX11 cX11_checkLink none z K 0 [some (.ref v0), some (.int v1)] [] m
  have T : fm_T RX11 cX11_checkLink tc_X11_checkLink fr_X11 mr_X11 cr_X11 lr_X11 := ⟨tok_X11, dc_X11_checkLink⟩
  unfold f_X11_checkLink
  refine fs_r T 1 1 [some (.ref v0), some (.int v1)] [.ref v0] rfl ?_
  refine fs_gp T 4 11 5 v0 7 rfl rfl rfl rfl h0 ?_
  intro e1
  refine fs_gs T 7 7 0 (m.2.1 v0 5) rfl rfl rfl rfl e1 ?_
  refine fs_r T 1 8 [some (.ref v0), some (.int v1)] [.int v1, .ref (H.2.1 (m.2.1 v0 5) 0)] rfl ?_
  refine fs_vI T 11 rfl rfl rfl rfl rfl rfl (hE.1 _ 7 0 e1) (q_X4_isLink (d := d) hE (hE.1 _ 7 0 e1)) ?_
  intro x1 m1
  refine fs_if_ne T 25 14 rfl rfl rfl (fun _ => ?_) (fun _ => ?_)
  · exact fs_thr T rfl rfl rfl rfl rfl
  · exact fs_retv T rfl rfl rfl)
def f_X11_setUp (H : fm_H) (v0 : Nat) (v1 : Int32) (v2 : Int32) (m : fm_M) : Option ((Int32 ⊕ String) × fm_M) :=
  fm_bx (f_X11_checkLink H v0 v1 m) fun _ m1 =>
  if fm_isb H (m1.2.1 v0 5) 7 = true then
    fm_bn (f_X4_isUp H (H.2.1 (m1.2.1 v0 5) 0) v1 m1) fun x2 m2 =>
    if fm_isb H (m2.2.1 v0 5) 7 = true then
      fm_bn (f_X7_putUp H (m2.2.1 v0 5) v1 v2 m2) fun _ m3 =>
      if fm_b01 x2 = true then some (.inl x2, m3) else none
    else none
  else none
set_option maxRecDepth 10000 in
theorem q_X11_setUp {G : pm_G} {H : fm_H} {d : Nat} {z : fm_Z H} {v0 : Nat} {v1 : Int32} {v2 : Int32} {m : fm_M} (hE : fm_E G H) (h0 : fm_is H v0 11) : fm_cal G H (d + 4) yX11_setUp [.ref v0, .int v1, .int v2] z m (fm_rX fm_rI) (f_X11_setUp H v0 v1 v2 m) := fm_mth (d := d + 3) mt_X11_setUp rfl rfl rfl (fun K => by
  show fm_o (fm_rX fm_rI) (f_X11_setUp H v0 v1 v2 m) K → fm_V G H (d + 3) RX11 cX11_setUp (some (.boolean)) z K 0 [some (.ref v0), some (.int v1), some (.int v2), none] [] m
  have T : fm_T RX11 cX11_setUp tc_X11_setUp fr_X11 mr_X11 cr_X11 lr_X11 := ⟨tok_X11, dc_X11_setUp⟩
  unfold f_X11_setUp
  refine fs_r T 2 2 [some (.ref v0), some (.int v1), some (.int v2), none] [.int v1, .ref v0] rfl ?_
  refine fs_vVx T 5 rfl rfl rfl rfl rfl rfl h0 (q_X11_checkLink (d := d + 1) hE h0) ?_
  intro x1 m1
  refine fs_r T 1 6 [some (.ref v0), some (.int v1), some (.int v2), none] [.ref v0] rfl ?_
  refine fs_gp T 9 11 5 v0 7 rfl rfl rfl rfl h0 ?_
  intro e1
  refine fs_gs T 12 7 0 (m1.2.1 v0 5) rfl rfl rfl rfl e1 ?_
  refine fs_r T 1 13 [some (.ref v0), some (.int v1), some (.int v2), none] [.int v1, .ref (H.2.1 (m1.2.1 v0 5) 0)] rfl ?_
  refine fs_vI T 16 rfl rfl rfl rfl rfl rfl (hE.1 _ 7 0 e1) (q_X4_isUp (d := d + 1) hE (hE.1 _ 7 0 e1)) ?_
  intro x2 m2
  refine fs_r T 2 18 [some (.ref v0), some (.int v1), some (.int v2), some (.int x2)] [.ref v0] rfl ?_
  refine fs_gp T 21 11 5 v0 7 rfl rfl rfl rfl h0 ?_
  intro e2
  refine fs_r T 2 23 [some (.ref v0), some (.int v1), some (.int v2), some (.int x2)] [.int v2, .int v1, .ref (m2.2.1 v0 5)] rfl ?_
  refine fs_vV T 26 rfl rfl rfl rfl rfl rfl e2 (q_X7_putUp (d := d) hE e2) ?_
  intro x3 m3
  refine fs_r T 1 27 [some (.ref v0), some (.int v1), some (.int v2), some (.int x2)] [.int x2] rfl ?_
  exact fs_retz T rfl rfl rfl)
def f_X11_set_30 (H : fm_H) (v0 : Nat) (v1 : Int32) (v2 : Int32) (s0 : Int32) (s1 : Int32) (s2 : Int32) (m : fm_M) : Option ((Int32 ⊕ String) × fm_M) :=
  fm_bn (f_X11_isOutside H s2 s1 s0 m) fun x1 m1 =>
  if x1 = 0 then
    if v1 = 0 then
      if fm_isb H (m1.2.1 v0 5) 7 = true then
        if fm_isb H (m1.2.1 v0 5) 7 = true then
          fm_bn (f_X7_putSetting H (m1.2.1 v0 5) v1 v2 m1) fun _ m3 =>
          some (.inl (m1.1 (m1.2.1 v0 5) 7), m3)
        else none
      else none
    else
    if fm_isb H (m1.2.1 v0 5) 7 = true then
      if fm_isb H (m1.2.1 v0 5) 7 = true then
        fm_bn (f_X7_putSetting H (m1.2.1 v0 5) v1 v2 m1) fun _ m2 =>
        some (.inl (m1.1 (m1.2.1 v0 5) 8), m2)
      else none
    else none
  else
  some (.inr pm_xA, m1)
set_option maxRecDepth 10000 in
theorem w_X11_set_30 {G : pm_G} {H : fm_H} {d : Nat} {z : fm_Z H} {K : pm_R → fm_M → Prop} (hE : fm_E G H) {v0 : Nat} {v1 : Int32} {v2 : Int32} (h0 : fm_is H v0 11) : ∀ (s0 : Int32) (s1 : Int32) (s2 : Int32) (m : fm_M), fm_o (fm_rX fm_rI) (f_X11_set_30 H v0 v1 v2 s0 s1 s2 m) K → fm_V G H (d + 1) RX11 cX11_set (some (.int)) z K 30 [some (.ref v0), some (.int v1), some (.int v2), none] [.int s0, .int s1, .int s2] m := by
  have T : fm_T RX11 cX11_set tc_X11_set fr_X11 mr_X11 cr_X11 lr_X11 := ⟨tok_X11, dc_X11_set⟩
  intro s0 s1 s2 m
  unfold f_X11_set_30
  refine fs_sI T 33 rfl rfl rfl rfl rfl rfl rfl (q_X11_isOutside (d := d) hE ) ?_
  intro x1 m1
  refine fs_if_eq T 46 36 rfl rfl rfl (fun _ => ?_) (fun _ => ?_)
  · refine fs_r T 1 47 [some (.ref v0), some (.int v1), some (.int v2), none] [.int v1] rfl ?_
    refine fs_if_ne T 60 50 rfl rfl rfl (fun _ => ?_) (fun _ => ?_)
    · refine fs_r T 1 51 [some (.ref v0), some (.int v1), some (.int v2), none] [.ref v0] rfl ?_
      refine fs_gp T 54 11 5 v0 7 rfl rfl rfl rfl h0 ?_
      intro e3
      refine fs_gi T 57 7 7 (m1.2.1 v0 5) rfl rfl rfl rfl e3 ?_
      refine fs_r T 3 69 [some (.ref v0), some (.int v1), some (.int v2), some (.int (m1.1 (m1.2.1 v0 5) 7))] [.ref v0] rfl ?_
      refine fs_gp T 72 11 5 v0 7 rfl rfl rfl rfl h0 ?_
      intro e4
      refine fs_r T 2 74 [some (.ref v0), some (.int v1), some (.int v2), some (.int (m1.1 (m1.2.1 v0 5) 7))] [.int v2, .int v1, .ref (m1.2.1 v0 5)] rfl ?_
      refine fs_vV T 77 rfl rfl rfl rfl rfl rfl e4 (q_X7_putSetting (d := d) hE e4) ?_
      intro x3 m3
      refine fs_r T 1 78 [some (.ref v0), some (.int v1), some (.int v2), some (.int (m1.1 (m1.2.1 v0 5) 7))] [.int (m1.1 (m1.2.1 v0 5) 7)] rfl ?_
      exact fs_reti T rfl rfl rfl
    · refine fs_r T 1 61 [some (.ref v0), some (.int v1), some (.int v2), none] [.ref v0] rfl ?_
      refine fs_gp T 64 11 5 v0 7 rfl rfl rfl rfl h0 ?_
      intro e1
      refine fs_gi T 67 7 8 (m1.2.1 v0 5) rfl rfl rfl rfl e1 ?_
      refine fs_r T 2 69 [some (.ref v0), some (.int v1), some (.int v2), some (.int (m1.1 (m1.2.1 v0 5) 8))] [.ref v0] rfl ?_
      refine fs_gp T 72 11 5 v0 7 rfl rfl rfl rfl h0 ?_
      intro e2
      refine fs_r T 2 74 [some (.ref v0), some (.int v1), some (.int v2), some (.int (m1.1 (m1.2.1 v0 5) 8))] [.int v2, .int v1, .ref (m1.2.1 v0 5)] rfl ?_
      refine fs_vV T 77 rfl rfl rfl rfl rfl rfl e2 (q_X7_putSetting (d := d) hE e2) ?_
      intro x2 m2
      refine fs_r T 1 78 [some (.ref v0), some (.int v1), some (.int v2), some (.int (m1.1 (m1.2.1 v0 5) 8))] [.int (m1.1 (m1.2.1 v0 5) 8)] rfl ?_
      exact fs_reti T rfl rfl rfl
  · exact fs_thr T rfl rfl rfl rfl rfl
def f_X11_set (H : fm_H) (v0 : Nat) (v1 : Int32) (v2 : Int32) (m : fm_M) : Option ((Int32 ⊕ String) × fm_M) :=
  fm_bn (f_X11_isOutside H v1 (0 : Int32) (1 : Int32) m) fun x1 m1 =>
  if x1 = 0 then
    if v1 = 0 then
      f_X11_set_30 H v0 v1 v2 (4 : Int32) (0 : Int32) v2 m1
    else
    f_X11_set_30 H v0 v1 v2 (1 : Int32) (0 : Int32) v2 m1
  else
  some (.inr pm_xA, m1)
set_option maxRecDepth 10000 in
theorem q_X11_set {G : pm_G} {H : fm_H} {d : Nat} {z : fm_Z H} {v0 : Nat} {v1 : Int32} {v2 : Int32} {m : fm_M} (hE : fm_E G H) (h0 : fm_is H v0 11) : fm_cal G H (d + 2) yX11_set [.ref v0, .int v1, .int v2] z m (fm_rX fm_rI) (f_X11_set H v0 v1 v2 m) := fm_mth (d := d + 1) mt_X11_set rfl rfl rfl (fun K => by
  show fm_o (fm_rX fm_rI) (f_X11_set H v0 v1 v2 m) K → fm_V G H (d + 1) RX11 cX11_set (some (.int)) z K 0 [some (.ref v0), some (.int v1), some (.int v2), none] [] m
  have T : fm_T RX11 cX11_set tc_X11_set fr_X11 mr_X11 cr_X11 lr_X11 := ⟨tok_X11, dc_X11_set⟩
  unfold f_X11_set
  refine fs_r T 3 3 [some (.ref v0), some (.int v1), some (.int v2), none] [.int (1 : Int32), .int (0 : Int32), .int v1] rfl ?_
  refine fs_sI T 6 rfl rfl rfl rfl rfl rfl rfl (q_X11_isOutside (d := d) hE ) ?_
  intro x1 m1
  refine fs_if_eq T 19 9 rfl rfl rfl (fun _ => ?_) (fun _ => ?_)
  · refine fs_r T 3 22 [some (.ref v0), some (.int v1), some (.int v2), none] [.int v1, .int (0 : Int32), .int v2] rfl ?_
    refine fs_if_ne T 29 25 rfl rfl rfl (fun _ => ?_) (fun _ => ?_)
    · refine fs_r T 2 30 [some (.ref v0), some (.int v1), some (.int v2), none] [.int (4 : Int32), .int (0 : Int32), .int v2] rfl ?_
      exact w_X11_set_30 hE h0 _ _ _ _
    · refine fs_r T 1 30 [some (.ref v0), some (.int v1), some (.int v2), none] [.int (1 : Int32), .int (0 : Int32), .int v2] rfl ?_
      exact w_X11_set_30 hE h0 _ _ _ _
  · exact fs_thr T rfl rfl rfl rfl rfl)
def f_X11_checkWhat (H : fm_H) (v0 : Int32) (v1 : Int32) (m : fm_M) : Option ((Unit ⊕ String) × fm_M) :=
  fm_bn (f_X11_isOutside H v0 (0 : Int32) v1 m) fun x1 m1 =>
  if x1 = 0 then
    some (.inl (), m1)
  else
  some (.inr pm_xA, m1)
set_option maxRecDepth 10000 in
theorem q_X11_checkWhat {G : pm_G} {H : fm_H} {d : Nat} {z : fm_Z H} {v0 : Int32} {v1 : Int32} {m : fm_M} (hE : fm_E G H) : fm_cal G H (d + 2) yX11_checkWhat [.int v0, .int v1] z m (fm_rX fm_rV) (f_X11_checkWhat H v0 v1 m) := fm_mth (d := d + 1) mt_X11_checkWhat rfl rfl rfl (fun K => by
  show fm_o (fm_rX fm_rV) (f_X11_checkWhat H v0 v1 m) K → fm_V G H (d + 1) RX11 cX11_checkWhat none z K 0 [some (.int v0), some (.int v1)] [] m
  have T : fm_T RX11 cX11_checkWhat tc_X11_checkWhat fr_X11 mr_X11 cr_X11 lr_X11 := ⟨tok_X11, dc_X11_checkWhat⟩
  unfold f_X11_checkWhat
  refine fs_r T 3 3 [some (.int v0), some (.int v1)] [.int v1, .int (0 : Int32), .int v0] rfl ?_
  refine fs_sI T 6 rfl rfl rfl rfl rfl rfl rfl (q_X11_isOutside (d := d) hE ) ?_
  intro x1 m1
  refine fs_if_eq T 19 9 rfl rfl rfl (fun _ => ?_) (fun _ => ?_)
  · exact fs_retv T rfl rfl rfl
  · exact fs_thr T rfl rfl rfl rfl rfl)
def f_X11_count (H : fm_H) (v0 : Nat) (v1 : Int32) (m : fm_M) : Option ((Int32 ⊕ String) × fm_M) :=
  fm_bx (f_X11_checkWhat H v1 (16 : Int32) m) fun _ m1 =>
  fm_sw v1 0 [  if fm_isb H (m1.2.1 v0 5) 7 = true then
      some (.inl (m1.1 (m1.2.1 v0 5) 7), m1)
    else none,
    if fm_isb H (m1.2.1 v0 5) 7 = true then
      some (.inl (m1.1 (m1.2.1 v0 5) 8), m1)
    else none,
    if fm_isb H (m1.2.1 v0 5) 7 = true then
      some (.inl (m1.1 (H.2.1 (m1.2.1 v0 5) 0) 0), m1)
    else none,
    if fm_isb H (m1.2.1 v0 5) 7 = true then
      some (.inl (m1.1 (H.2.1 (m1.2.1 v0 5) 0) 1), m1)
    else none,
    if fm_isb H (m1.2.1 v0 5) 7 = true then
      some (.inl (m1.1 (m1.2.1 v0 5) 5), m1)
    else none,
    if fm_isb H (m1.2.1 v0 5) 7 = true then
      some (.inl (m1.1 (m1.2.1 v0 5) 9), m1)
    else none,
    if fm_isb H (m1.2.1 v0 5) 7 = true then
      some (.inl (m1.1 (m1.2.1 v0 5) 6), m1)
    else none,
    if fm_isb H (m1.2.1 v0 5) 7 = true then
      some (.inl (m1.1 (H.2.1 (m1.2.1 v0 5) 2) 0), m1)
    else none,
    if fm_isb H (m1.2.1 v0 5) 7 = true then
      some (.inl (m1.1 (H.2.1 (m1.2.1 v0 5) 2) 1), m1)
    else none,
    if fm_isb H (m1.2.1 v0 5) 7 = true then
      some (.inl (m1.1 (H.2.1 (m1.2.1 v0 5) 2) 2), m1)
    else none,
    if fm_isb H (m1.2.1 v0 5) 7 = true then
      some (.inl (m1.1 (H.2.1 (m1.2.1 v0 5) 2) 3), m1)
    else none,
    if fm_isb H (m1.2.1 v0 5) 7 = true then
      some (.inl (m1.1 (H.2.1 (m1.2.1 v0 5) 2) 4), m1)
    else none,
    if fm_isb H (m1.2.1 v0 5) 7 = true then
      fm_bn (f_X2_lentByAll H (H.2.1 (m1.2.1 v0 5) 1) m1) fun x2 m2 =>
      some (.inl x2, m2)
    else none,
    if fm_isb H (m1.2.1 v0 5) 7 = true then
      fm_bn (f_X7_movedCircuits H (m1.2.1 v0 5) m1) fun x3 m3 =>
      some (.inl x3, m3)
    else none,
    if fm_isb H (m1.2.1 v0 5) 7 = true then
      some (.inl (m1.1 (H.2.1 (m1.2.1 v0 5) 2) 5), m1)
    else none,
    if fm_isb H (m1.2.1 v0 5) 7 = true then
      some (.inl (m1.1 (H.2.1 (m1.2.1 v0 5) 2) 6), m1)
    else none]
    (some (.inl (m1.1 (H.2.1 v0 2) 0), m1))
set_option maxRecDepth 10000 in
theorem q_X11_count {G : pm_G} {H : fm_H} {d : Nat} {z : fm_Z H} {v0 : Nat} {v1 : Int32} {m : fm_M} (hE : fm_E G H) (h0 : fm_is H v0 11) : fm_cal G H (d + 4) yX11_count [.ref v0, .int v1] z m (fm_rX fm_rI) (f_X11_count H v0 v1 m) := fm_mth (d := d + 3) mt_X11_count rfl rfl rfl (fun K => by
  show fm_o (fm_rX fm_rI) (f_X11_count H v0 v1 m) K → fm_V G H (d + 3) RX11 cX11_count (some (.int)) z K 0 [some (.ref v0), some (.int v1)] [] m
  have T : fm_T RX11 cX11_count tc_X11_count fr_X11 mr_X11 cr_X11 lr_X11 := ⟨tok_X11, dc_X11_count⟩
  unfold f_X11_count
  refine fs_r T 2 3 [some (.ref v0), some (.int v1)] [.int (16 : Int32), .int v1] rfl ?_
  refine fs_sVx T 6 rfl rfl rfl rfl rfl rfl rfl (q_X11_checkWhat (d := d + 1) hE ) ?_
  intro x1 m1
  refine fs_r T 1 7 [some (.ref v0), some (.int v1)] [.int v1] rfl ?_
  refine fs_tsw T (dflt := 235) (lo := 0) (hi := 15) (offs := #[77, 85, 93, 104, 115, 123, 131, 139, 150, 161, 172, 183, 194, 205, 213, 224]) (t := 242) rfl rfl rfl rfl ⟨⟨84, rfl, ?_⟩, ⟨92, rfl, ?_⟩, ⟨100, rfl, ?_⟩, ⟨111, rfl, ?_⟩, ⟨122, rfl, ?_⟩, ⟨130, rfl, ?_⟩, ⟨138, rfl, ?_⟩, ⟨146, rfl, ?_⟩, ⟨157, rfl, ?_⟩, ⟨168, rfl, ?_⟩, ⟨179, rfl, ?_⟩, ⟨190, rfl, ?_⟩, ⟨201, rfl, ?_⟩, ⟨212, rfl, ?_⟩, ⟨220, rfl, ?_⟩, ⟨231, rfl, ?_⟩, trivial⟩ ?_
  · refine fs_r T 1 85 [some (.ref v0), some (.int v1)] [.ref v0] rfl ?_
    refine fs_gp T 88 11 5 v0 7 rfl rfl rfl rfl h0 ?_
    intro e1
    refine fs_gi T 91 7 7 (m1.2.1 v0 5) rfl rfl rfl rfl e1 ?_
    exact fs_reti T rfl rfl rfl
  · refine fs_r T 1 93 [some (.ref v0), some (.int v1)] [.ref v0] rfl ?_
    refine fs_gp T 96 11 5 v0 7 rfl rfl rfl rfl h0 ?_
    intro e2
    refine fs_gi T 99 7 8 (m1.2.1 v0 5) rfl rfl rfl rfl e2 ?_
    exact fs_reti T rfl rfl rfl
  · refine fs_r T 1 101 [some (.ref v0), some (.int v1)] [.ref v0] rfl ?_
    refine fs_gp T 104 11 5 v0 7 rfl rfl rfl rfl h0 ?_
    intro e3
    refine fs_gs T 107 7 0 (m1.2.1 v0 5) rfl rfl rfl rfl e3 ?_
    refine fs_gi T 110 4 0 (H.2.1 (m1.2.1 v0 5) 0) rfl rfl rfl rfl (hE.1 _ 7 0 e3) ?_
    exact fs_reti T rfl rfl rfl
  · refine fs_r T 1 112 [some (.ref v0), some (.int v1)] [.ref v0] rfl ?_
    refine fs_gp T 115 11 5 v0 7 rfl rfl rfl rfl h0 ?_
    intro e4
    refine fs_gs T 118 7 0 (m1.2.1 v0 5) rfl rfl rfl rfl e4 ?_
    refine fs_gi T 121 4 1 (H.2.1 (m1.2.1 v0 5) 0) rfl rfl rfl rfl (hE.1 _ 7 0 e4) ?_
    exact fs_reti T rfl rfl rfl
  · refine fs_r T 1 123 [some (.ref v0), some (.int v1)] [.ref v0] rfl ?_
    refine fs_gp T 126 11 5 v0 7 rfl rfl rfl rfl h0 ?_
    intro e5
    refine fs_gi T 129 7 5 (m1.2.1 v0 5) rfl rfl rfl rfl e5 ?_
    exact fs_reti T rfl rfl rfl
  · refine fs_r T 1 131 [some (.ref v0), some (.int v1)] [.ref v0] rfl ?_
    refine fs_gp T 134 11 5 v0 7 rfl rfl rfl rfl h0 ?_
    intro e6
    refine fs_gi T 137 7 9 (m1.2.1 v0 5) rfl rfl rfl rfl e6 ?_
    exact fs_reti T rfl rfl rfl
  · refine fs_r T 1 139 [some (.ref v0), some (.int v1)] [.ref v0] rfl ?_
    refine fs_gp T 142 11 5 v0 7 rfl rfl rfl rfl h0 ?_
    intro e7
    refine fs_gi T 145 7 6 (m1.2.1 v0 5) rfl rfl rfl rfl e7 ?_
    exact fs_reti T rfl rfl rfl
  · refine fs_r T 1 147 [some (.ref v0), some (.int v1)] [.ref v0] rfl ?_
    refine fs_gp T 150 11 5 v0 7 rfl rfl rfl rfl h0 ?_
    intro e8
    refine fs_gs T 153 7 2 (m1.2.1 v0 5) rfl rfl rfl rfl e8 ?_
    refine fs_gi T 156 9 0 (H.2.1 (m1.2.1 v0 5) 2) rfl rfl rfl rfl (hE.1 _ 7 2 e8) ?_
    exact fs_reti T rfl rfl rfl
  · refine fs_r T 1 158 [some (.ref v0), some (.int v1)] [.ref v0] rfl ?_
    refine fs_gp T 161 11 5 v0 7 rfl rfl rfl rfl h0 ?_
    intro e9
    refine fs_gs T 164 7 2 (m1.2.1 v0 5) rfl rfl rfl rfl e9 ?_
    refine fs_gi T 167 9 1 (H.2.1 (m1.2.1 v0 5) 2) rfl rfl rfl rfl (hE.1 _ 7 2 e9) ?_
    exact fs_reti T rfl rfl rfl
  · refine fs_r T 1 169 [some (.ref v0), some (.int v1)] [.ref v0] rfl ?_
    refine fs_gp T 172 11 5 v0 7 rfl rfl rfl rfl h0 ?_
    intro e10
    refine fs_gs T 175 7 2 (m1.2.1 v0 5) rfl rfl rfl rfl e10 ?_
    refine fs_gi T 178 9 2 (H.2.1 (m1.2.1 v0 5) 2) rfl rfl rfl rfl (hE.1 _ 7 2 e10) ?_
    exact fs_reti T rfl rfl rfl
  · refine fs_r T 1 180 [some (.ref v0), some (.int v1)] [.ref v0] rfl ?_
    refine fs_gp T 183 11 5 v0 7 rfl rfl rfl rfl h0 ?_
    intro e11
    refine fs_gs T 186 7 2 (m1.2.1 v0 5) rfl rfl rfl rfl e11 ?_
    refine fs_gi T 189 9 3 (H.2.1 (m1.2.1 v0 5) 2) rfl rfl rfl rfl (hE.1 _ 7 2 e11) ?_
    exact fs_reti T rfl rfl rfl
  · refine fs_r T 1 191 [some (.ref v0), some (.int v1)] [.ref v0] rfl ?_
    refine fs_gp T 194 11 5 v0 7 rfl rfl rfl rfl h0 ?_
    intro e12
    refine fs_gs T 197 7 2 (m1.2.1 v0 5) rfl rfl rfl rfl e12 ?_
    refine fs_gi T 200 9 4 (H.2.1 (m1.2.1 v0 5) 2) rfl rfl rfl rfl (hE.1 _ 7 2 e12) ?_
    exact fs_reti T rfl rfl rfl
  · refine fs_r T 1 202 [some (.ref v0), some (.int v1)] [.ref v0] rfl ?_
    refine fs_gp T 205 11 5 v0 7 rfl rfl rfl rfl h0 ?_
    intro e13
    refine fs_gs T 208 7 1 (m1.2.1 v0 5) rfl rfl rfl rfl e13 ?_
    refine fs_vI T 211 rfl rfl rfl rfl rfl rfl (hE.1 _ 7 1 e13) (q_X2_lentByAll (d := d) hE (hE.1 _ 7 1 e13)) ?_
    intro x2 m2
    exact fs_reti T rfl rfl rfl
  · refine fs_r T 1 213 [some (.ref v0), some (.int v1)] [.ref v0] rfl ?_
    refine fs_gp T 216 11 5 v0 7 rfl rfl rfl rfl h0 ?_
    intro e14
    refine fs_vI T 219 rfl rfl rfl rfl rfl rfl e14 (q_X7_movedCircuits (d := d + 2) hE e14) ?_
    intro x3 m3
    exact fs_reti T rfl rfl rfl
  · refine fs_r T 1 221 [some (.ref v0), some (.int v1)] [.ref v0] rfl ?_
    refine fs_gp T 224 11 5 v0 7 rfl rfl rfl rfl h0 ?_
    intro e15
    refine fs_gs T 227 7 2 (m1.2.1 v0 5) rfl rfl rfl rfl e15 ?_
    refine fs_gi T 230 9 5 (H.2.1 (m1.2.1 v0 5) 2) rfl rfl rfl rfl (hE.1 _ 7 2 e15) ?_
    exact fs_reti T rfl rfl rfl
  · refine fs_r T 1 232 [some (.ref v0), some (.int v1)] [.ref v0] rfl ?_
    refine fs_gp T 235 11 5 v0 7 rfl rfl rfl rfl h0 ?_
    intro e16
    refine fs_gs T 238 7 2 (m1.2.1 v0 5) rfl rfl rfl rfl e16 ?_
    refine fs_gi T 241 9 6 (H.2.1 (m1.2.1 v0 5) 2) rfl rfl rfl rfl (hE.1 _ 7 2 e16) ?_
    exact fs_reti T rfl rfl rfl
  · refine fs_r T 1 243 [some (.ref v0), some (.int v1)] [.ref v0] rfl ?_
    refine fs_gs T 246 11 2 v0 rfl rfl rfl rfl h0 ?_
    refine fs_gi T 249 10 0 (H.2.1 v0 2) rfl rfl rfl rfl (hE.1 _ 11 2 h0) ?_
    exact fs_reti T rfl rfl rfl)
def f_X11_node (H : fm_H) (v0 : Nat) (v1 : Int32) (v2 : Int32) (m : fm_M) : Option ((Int32 ⊕ String) × fm_M) :=
  fm_bx (f_X11_checkNode H v0 v1 m) fun _ m1 =>
  fm_bx (f_X11_checkWhat H v2 (6 : Int32) m1) fun _ m2 =>
  fm_sw v2 0 [  if fm_isb H (m2.2.1 v0 5) 7 = true then
      fm_bn (f_X2_spaceOf H (H.2.1 (m2.2.1 v0 5) 1) v1 m2) fun x3 m3 =>
      some (.inl x3, m3)
    else none,
    if fm_isb H (m2.2.1 v0 5) 7 = true then
      fm_bn (f_X2_held H (H.2.1 (m2.2.1 v0 5) 1) v1 (-1 : Int32) m2) fun x4 m4 =>
      some (.inl x4, m4)
    else none,
    if fm_isb H (m2.2.1 v0 5) 7 = true then
      fm_bn (f_X2_held H (H.2.1 (m2.2.1 v0 5) 1) v1 v1 m2) fun x5 m5 =>
      some (.inl x5, m5)
    else none,
    if fm_isb H (m2.2.1 v0 5) 7 = true then
      fm_bn (f_X2_lentBy H (H.2.1 (m2.2.1 v0 5) 1) v1 m2) fun x6 m6 =>
      some (.inl x6, m6)
    else none,
    if fm_isb H (m2.2.1 v0 5) 7 = true then
      fm_bn (f_X2_borrowedBy H (H.2.1 (m2.2.1 v0 5) 1) v1 m2) fun x7 m7 =>
      some (.inl x7, m7)
    else none,
    if fm_isb H (m2.2.1 v0 5) 7 = true then
      fm_bn (f_X2_madeEntries H (H.2.1 (m2.2.1 v0 5) 1) v1 m2) fun x8 m8 =>
      some (.inl x8, m8)
    else none]
    (if fm_isb H (m2.2.1 v0 5) 7 = true then
      fm_bn (f_X4_linksAt H (H.2.1 (m2.2.1 v0 5) 0) v1 m2) fun x9 m9 =>
      some (.inl x9, m9)
    else none)
set_option maxRecDepth 10000 in
theorem q_X11_node {G : pm_G} {H : fm_H} {d : Nat} {z : fm_Z H} {v0 : Nat} {v1 : Int32} {v2 : Int32} {m : fm_M} (hE : fm_E G H) (h0 : fm_is H v0 11) : fm_cal G H (d + 3) yX11_node [.ref v0, .int v1, .int v2] z m (fm_rX fm_rI) (f_X11_node H v0 v1 v2 m) := fm_mth (d := d + 2) mt_X11_node rfl rfl rfl (fun K => by
  show fm_o (fm_rX fm_rI) (f_X11_node H v0 v1 v2 m) K → fm_V G H (d + 2) RX11 cX11_node (some (.int)) z K 0 [some (.ref v0), some (.int v1), some (.int v2)] [] m
  have T : fm_T RX11 cX11_node tc_X11_node fr_X11 mr_X11 cr_X11 lr_X11 := ⟨tok_X11, dc_X11_node⟩
  unfold f_X11_node
  refine fs_r T 2 2 [some (.ref v0), some (.int v1), some (.int v2)] [.int v1, .ref v0] rfl ?_
  refine fs_vVx T 5 rfl rfl rfl rfl rfl rfl h0 (q_X11_checkNode (d := d) hE h0) ?_
  intro x1 m1
  refine fs_r T 2 8 [some (.ref v0), some (.int v1), some (.int v2)] [.int (6 : Int32), .int v2] rfl ?_
  refine fs_sVx T 11 rfl rfl rfl rfl rfl rfl rfl (q_X11_checkWhat (d := d) hE ) ?_
  intro x2 m2
  refine fs_r T 1 12 [some (.ref v0), some (.int v1), some (.int v2)] [.int v2] rfl ?_
  refine fs_tsw T (dflt := 114) (lo := 0) (hi := 5) (offs := #[40, 52, 65, 78, 90, 102]) (t := 126) rfl rfl rfl rfl ⟨⟨52, rfl, ?_⟩, ⟨64, rfl, ?_⟩, ⟨77, rfl, ?_⟩, ⟨90, rfl, ?_⟩, ⟨102, rfl, ?_⟩, ⟨114, rfl, ?_⟩, trivial⟩ ?_
  · refine fs_r T 1 53 [some (.ref v0), some (.int v1), some (.int v2)] [.ref v0] rfl ?_
    refine fs_gp T 56 11 5 v0 7 rfl rfl rfl rfl h0 ?_
    intro e1
    refine fs_gs T 59 7 1 (m2.2.1 v0 5) rfl rfl rfl rfl e1 ?_
    refine fs_r T 1 60 [some (.ref v0), some (.int v1), some (.int v2)] [.int v1, .ref (H.2.1 (m2.2.1 v0 5) 1)] rfl ?_
    refine fs_vI T 63 rfl rfl rfl rfl rfl rfl (hE.1 _ 7 1 e1) (q_X2_spaceOf (d := d + 1) hE (hE.1 _ 7 1 e1)) ?_
    intro x3 m3
    exact fs_reti T rfl rfl rfl
  · refine fs_r T 1 65 [some (.ref v0), some (.int v1), some (.int v2)] [.ref v0] rfl ?_
    refine fs_gp T 68 11 5 v0 7 rfl rfl rfl rfl h0 ?_
    intro e2
    refine fs_gs T 71 7 1 (m2.2.1 v0 5) rfl rfl rfl rfl e2 ?_
    refine fs_r T 2 73 [some (.ref v0), some (.int v1), some (.int v2)] [.int (-1 : Int32), .int v1, .ref (H.2.1 (m2.2.1 v0 5) 1)] rfl ?_
    refine fs_vI T 76 rfl rfl rfl rfl rfl rfl (hE.1 _ 7 1 e2) (q_X2_held (d := d + 1) hE (hE.1 _ 7 1 e2)) ?_
    intro x4 m4
    exact fs_reti T rfl rfl rfl
  · refine fs_r T 1 78 [some (.ref v0), some (.int v1), some (.int v2)] [.ref v0] rfl ?_
    refine fs_gp T 81 11 5 v0 7 rfl rfl rfl rfl h0 ?_
    intro e3
    refine fs_gs T 84 7 1 (m2.2.1 v0 5) rfl rfl rfl rfl e3 ?_
    refine fs_r T 2 86 [some (.ref v0), some (.int v1), some (.int v2)] [.int v1, .int v1, .ref (H.2.1 (m2.2.1 v0 5) 1)] rfl ?_
    refine fs_vI T 89 rfl rfl rfl rfl rfl rfl (hE.1 _ 7 1 e3) (q_X2_held (d := d + 1) hE (hE.1 _ 7 1 e3)) ?_
    intro x5 m5
    exact fs_reti T rfl rfl rfl
  · refine fs_r T 1 91 [some (.ref v0), some (.int v1), some (.int v2)] [.ref v0] rfl ?_
    refine fs_gp T 94 11 5 v0 7 rfl rfl rfl rfl h0 ?_
    intro e4
    refine fs_gs T 97 7 1 (m2.2.1 v0 5) rfl rfl rfl rfl e4 ?_
    refine fs_r T 1 98 [some (.ref v0), some (.int v1), some (.int v2)] [.int v1, .ref (H.2.1 (m2.2.1 v0 5) 1)] rfl ?_
    refine fs_vI T 101 rfl rfl rfl rfl rfl rfl (hE.1 _ 7 1 e4) (q_X2_lentBy (d := d) hE (hE.1 _ 7 1 e4)) ?_
    intro x6 m6
    exact fs_reti T rfl rfl rfl
  · refine fs_r T 1 103 [some (.ref v0), some (.int v1), some (.int v2)] [.ref v0] rfl ?_
    refine fs_gp T 106 11 5 v0 7 rfl rfl rfl rfl h0 ?_
    intro e5
    refine fs_gs T 109 7 1 (m2.2.1 v0 5) rfl rfl rfl rfl e5 ?_
    refine fs_r T 1 110 [some (.ref v0), some (.int v1), some (.int v2)] [.int v1, .ref (H.2.1 (m2.2.1 v0 5) 1)] rfl ?_
    refine fs_vI T 113 rfl rfl rfl rfl rfl rfl (hE.1 _ 7 1 e5) (q_X2_borrowedBy (d := d) hE (hE.1 _ 7 1 e5)) ?_
    intro x7 m7
    exact fs_reti T rfl rfl rfl
  · refine fs_r T 1 115 [some (.ref v0), some (.int v1), some (.int v2)] [.ref v0] rfl ?_
    refine fs_gp T 118 11 5 v0 7 rfl rfl rfl rfl h0 ?_
    intro e6
    refine fs_gs T 121 7 1 (m2.2.1 v0 5) rfl rfl rfl rfl e6 ?_
    refine fs_r T 1 122 [some (.ref v0), some (.int v1), some (.int v2)] [.int v1, .ref (H.2.1 (m2.2.1 v0 5) 1)] rfl ?_
    refine fs_vI T 125 rfl rfl rfl rfl rfl rfl (hE.1 _ 7 1 e6) (q_X2_madeEntries (d := d + 1) hE (hE.1 _ 7 1 e6)) ?_
    intro x8 m8
    exact fs_reti T rfl rfl rfl
  · refine fs_r T 1 127 [some (.ref v0), some (.int v1), some (.int v2)] [.ref v0] rfl ?_
    refine fs_gp T 130 11 5 v0 7 rfl rfl rfl rfl h0 ?_
    intro e7
    refine fs_gs T 133 7 0 (m2.2.1 v0 5) rfl rfl rfl rfl e7 ?_
    refine fs_r T 1 134 [some (.ref v0), some (.int v1), some (.int v2)] [.int v1, .ref (H.2.1 (m2.2.1 v0 5) 0)] rfl ?_
    refine fs_vI T 137 rfl rfl rfl rfl rfl rfl (hE.1 _ 7 0 e7) (q_X4_linksAt (d := d) hE (hE.1 _ 7 0 e7)) ?_
    intro x9 m9
    exact fs_reti T rfl rfl rfl)
def f_X11_label (H : fm_H) (v0 : Nat) (v1 : Int32) (v2 : Int32) (v3 : Int32) (m : fm_M) : Option ((Int32 ⊕ String) × fm_M) :=
  fm_bx (f_X11_checkNode H v0 v1 m) fun _ m1 =>
  if fm_isb H (m1.2.1 v0 5) 7 = true then
    fm_bn (f_X2_spaceOf H (H.2.1 (m1.2.1 v0 5) 1) v1 m1) fun x2 m2 =>
    fm_bn (f_X11_isOutside H v2 (0 : Int32) (x2 - (1 : Int32)) m2) fun x3 m3 =>
    if x3 = 0 then
      fm_bx (f_X11_checkWhat H v3 (3 : Int32) m3) fun _ m4 =>
      if fm_isb H (m4.2.1 v0 5) 7 = true then
        fm_bn (f_X2_holderOf H (H.2.1 (m4.2.1 v0 5) 1) ((v1 * (12 : Int32)) + v2) m4) fun x5 m5 =>
        if v3 = 0 then
          some (.inl x5, m5)
        else
        if x5 = (-1 : Int32) then
          some (.inl x5, m5)
        else
        if v3.toInt = 1 then
          if fm_isb H (m5.2.1 v0 5) 7 = true then
            fm_bn (f_X2_circuitOf H (H.2.1 (m5.2.1 v0 5) 1) ((v1 * (12 : Int32)) + v2) m5) fun x6 m6 =>
            some (.inl x6, m6)
          else none
        else if v3.toInt = 2 then
          if fm_isb H (m5.2.1 v0 5) 7 = true then
            fm_bn (f_X7_isOfNewWay H (m5.2.1 v0 5) ((v1 * (12 : Int32)) + v2) m5) fun x7 m7 =>
            if x7 = 0 then
              some (.inl (0 : Int32), m7)
            else
            some (.inl (1 : Int32), m7)
          else none
        else
        if fm_isb H (m5.2.1 v0 5) 7 = true then
          fm_bn (f_X2_hasMadeEntry H (H.2.1 (m5.2.1 v0 5) 1) ((v1 * (12 : Int32)) + v2) x5 m5) fun x8 m8 =>
          if x8 = 0 then
            some (.inl (0 : Int32), m8)
          else
          some (.inl (1 : Int32), m8)
        else none
      else none
    else
    some (.inr pm_xB, m3)
  else none
set_option maxRecDepth 10000 in
theorem q_X11_label {G : pm_G} {H : fm_H} {d : Nat} {z : fm_Z H} {v0 : Nat} {v1 : Int32} {v2 : Int32} {v3 : Int32} {m : fm_M} (hE : fm_E G H) (h0 : fm_is H v0 11) : fm_cal G H (d + 4) yX11_label [.ref v0, .int v1, .int v2, .int v3] z m (fm_rX fm_rI) (f_X11_label H v0 v1 v2 v3 m) := fm_mth (d := d + 3) mt_X11_label rfl rfl rfl (fun K => by
  show fm_o (fm_rX fm_rI) (f_X11_label H v0 v1 v2 v3 m) K → fm_V G H (d + 3) RX11 cX11_label (some (.int)) z K 0 [some (.ref v0), some (.int v1), some (.int v2), some (.int v3), none, none] [] m
  have T : fm_T RX11 cX11_label tc_X11_label fr_X11 mr_X11 cr_X11 lr_X11 := ⟨tok_X11, dc_X11_label⟩
  unfold f_X11_label
  refine fs_r T 2 2 [some (.ref v0), some (.int v1), some (.int v2), some (.int v3), none, none] [.int v1, .ref v0] rfl ?_
  refine fs_vVx T 5 rfl rfl rfl rfl rfl rfl h0 (q_X11_checkNode (d := d + 1) hE h0) ?_
  intro x1 m1
  refine fs_r T 3 8 [some (.ref v0), some (.int v1), some (.int v2), some (.int v3), none, none] [.ref v0, .int (0 : Int32), .int v2] rfl ?_
  refine fs_gp T 11 11 5 v0 7 rfl rfl rfl rfl h0 ?_
  intro e1
  refine fs_gs T 14 7 1 (m1.2.1 v0 5) rfl rfl rfl rfl e1 ?_
  refine fs_r T 1 15 [some (.ref v0), some (.int v1), some (.int v2), some (.int v3), none, none] [.int v1, .ref (H.2.1 (m1.2.1 v0 5) 1), .int (0 : Int32), .int v2] rfl ?_
  refine fs_vI T 18 rfl rfl rfl rfl rfl rfl (hE.1 _ 7 1 e1) (q_X2_spaceOf (d := d + 2) hE (hE.1 _ 7 1 e1)) ?_
  intro x2 m2
  refine fs_r T 2 20 [some (.ref v0), some (.int v1), some (.int v2), some (.int v3), none, none] [.int (x2 - (1 : Int32)), .int (0 : Int32), .int v2] rfl ?_
  refine fs_sI T 23 rfl rfl rfl rfl rfl rfl rfl (q_X11_isOutside (d := d + 2) hE ) ?_
  intro x3 m3
  refine fs_if_eq T 36 26 rfl rfl rfl (fun _ => ?_) (fun _ => ?_)
  · refine fs_r T 2 38 [some (.ref v0), some (.int v1), some (.int v2), some (.int v3), none, none] [.int (3 : Int32), .int v3] rfl ?_
    refine fs_sVx T 41 rfl rfl rfl rfl rfl rfl rfl (q_X11_checkWhat (d := d + 1) hE ) ?_
    intro x4 m4
    refine fs_r T 7 50 [some (.ref v0), some (.int v1), some (.int v2), some (.int v3), some (.int ((v1 * (12 : Int32)) + v2)), none] [.ref v0] rfl ?_
    refine fs_gp T 53 11 5 v0 7 rfl rfl rfl rfl h0 ?_
    intro e2
    refine fs_gs T 56 7 1 (m4.2.1 v0 5) rfl rfl rfl rfl e2 ?_
    refine fs_r T 1 58 [some (.ref v0), some (.int v1), some (.int v2), some (.int v3), some (.int ((v1 * (12 : Int32)) + v2)), none] [.int ((v1 * (12 : Int32)) + v2), .ref (H.2.1 (m4.2.1 v0 5) 1)] rfl ?_
    refine fs_vI T 61 rfl rfl rfl rfl rfl rfl (hE.1 _ 7 1 e2) (q_X2_holderOf (d := d + 1) hE (hE.1 _ 7 1 e2)) ?_
    intro x5 m5
    refine fs_r T 2 64 [some (.ref v0), some (.int v1), some (.int v2), some (.int v3), some (.int ((v1 * (12 : Int32)) + v2)), some (.int x5)] [.int v3] rfl ?_
    refine fs_if_eq T 73 67 rfl rfl rfl (fun _ => ?_) (fun _ => ?_)
    · refine fs_r T 1 75 [some (.ref v0), some (.int v1), some (.int v2), some (.int v3), some (.int ((v1 * (12 : Int32)) + v2)), some (.int x5)] [.int x5] rfl ?_
      exact fs_reti T rfl rfl rfl
    · refine fs_r T 2 70 [some (.ref v0), some (.int v1), some (.int v2), some (.int v3), some (.int ((v1 * (12 : Int32)) + v2)), some (.int x5)] [.int (-1 : Int32), .int x5] rfl ?_
      refine fs_ic_ne T 76 73 rfl rfl rfl (fun _ => ?_) (fun _ => ?_)
      · refine fs_r T 1 75 [some (.ref v0), some (.int v1), some (.int v2), some (.int v3), some (.int ((v1 * (12 : Int32)) + v2)), some (.int x5)] [.int x5] rfl ?_
        exact fs_reti T rfl rfl rfl
      · refine fs_r T 1 77 [some (.ref v0), some (.int v1), some (.int v2), some (.int v3), some (.int ((v1 * (12 : Int32)) + v2)), some (.int x5)] [.int v3] rfl ?_
        refine fs_lsw T (t := 135) (t1 := 104) (t2 := 117) rfl (by decide) rfl rfl rfl ?_ ?_ ?_
        · refine fs_r T 1 105 [some (.ref v0), some (.int v1), some (.int v2), some (.int v3), some (.int ((v1 * (12 : Int32)) + v2)), some (.int x5)] [.ref v0] rfl ?_
          refine fs_gp T 108 11 5 v0 7 rfl rfl rfl rfl h0 ?_
          intro e3
          refine fs_gs T 111 7 1 (m5.2.1 v0 5) rfl rfl rfl rfl e3 ?_
          refine fs_r T 1 113 [some (.ref v0), some (.int v1), some (.int v2), some (.int v3), some (.int ((v1 * (12 : Int32)) + v2)), some (.int x5)] [.int ((v1 * (12 : Int32)) + v2), .ref (H.2.1 (m5.2.1 v0 5) 1)] rfl ?_
          refine fs_vI T 116 rfl rfl rfl rfl rfl rfl (hE.1 _ 7 1 e3) (q_X2_circuitOf (d := d + 1) hE (hE.1 _ 7 1 e3)) ?_
          intro x6 m6
          exact fs_reti T rfl rfl rfl
        · refine fs_r T 1 118 [some (.ref v0), some (.int v1), some (.int v2), some (.int v3), some (.int ((v1 * (12 : Int32)) + v2)), some (.int x5)] [.ref v0] rfl ?_
          refine fs_gp T 121 11 5 v0 7 rfl rfl rfl rfl h0 ?_
          intro e4
          refine fs_r T 1 123 [some (.ref v0), some (.int v1), some (.int v2), some (.int v3), some (.int ((v1 * (12 : Int32)) + v2)), some (.int x5)] [.int ((v1 * (12 : Int32)) + v2), .ref (m5.2.1 v0 5)] rfl ?_
          refine fs_vI T 126 rfl rfl rfl rfl rfl rfl e4 (q_X7_isOfNewWay (d := d) hE e4) ?_
          intro x7 m7
          refine fs_if_eq T 133 129 rfl rfl rfl (fun _ => ?_) (fun _ => ?_)
          · refine fs_r T 1 134 [some (.ref v0), some (.int v1), some (.int v2), some (.int v3), some (.int ((v1 * (12 : Int32)) + v2)), some (.int x5)] [.int (0 : Int32)] rfl ?_
            exact fs_reti T rfl rfl rfl
          · refine fs_r T 2 134 [some (.ref v0), some (.int v1), some (.int v2), some (.int v3), some (.int ((v1 * (12 : Int32)) + v2)), some (.int x5)] [.int (1 : Int32)] rfl ?_
            exact fs_reti T rfl rfl rfl
        · refine fs_r T 1 136 [some (.ref v0), some (.int v1), some (.int v2), some (.int v3), some (.int ((v1 * (12 : Int32)) + v2)), some (.int x5)] [.ref v0] rfl ?_
          refine fs_gp T 139 11 5 v0 7 rfl rfl rfl rfl h0 ?_
          intro e5
          refine fs_gs T 142 7 1 (m5.2.1 v0 5) rfl rfl rfl rfl e5 ?_
          refine fs_r T 2 146 [some (.ref v0), some (.int v1), some (.int v2), some (.int v3), some (.int ((v1 * (12 : Int32)) + v2)), some (.int x5)] [.int x5, .int ((v1 * (12 : Int32)) + v2), .ref (H.2.1 (m5.2.1 v0 5) 1)] rfl ?_
          refine fs_vI T 149 rfl rfl rfl rfl rfl rfl (hE.1 _ 7 1 e5) (q_X2_hasMadeEntry (d := d + 1) hE (hE.1 _ 7 1 e5)) ?_
          intro x8 m8
          refine fs_if_eq T 156 152 rfl rfl rfl (fun _ => ?_) (fun _ => ?_)
          · refine fs_r T 1 157 [some (.ref v0), some (.int v1), some (.int v2), some (.int v3), some (.int ((v1 * (12 : Int32)) + v2)), some (.int x5)] [.int (0 : Int32)] rfl ?_
            exact fs_reti T rfl rfl rfl
          · refine fs_r T 2 157 [some (.ref v0), some (.int v1), some (.int v2), some (.int v3), some (.int ((v1 * (12 : Int32)) + v2)), some (.int x5)] [.int (1 : Int32)] rfl ?_
            exact fs_reti T rfl rfl rfl
  · exact fs_thr T rfl rfl rfl rfl rfl)
def f_X11_link (H : fm_H) (v0 : Nat) (v1 : Int32) (v2 : Int32) (m : fm_M) : Option ((Int32 ⊕ String) × fm_M) :=
  fm_bx (f_X11_checkLink H v0 v1 m) fun _ m1 =>
  fm_bx (f_X11_checkWhat H v2 (6 : Int32) m1) fun _ m2 =>
  if fm_isb H (m2.2.1 v0 5) 7 = true then
    if px_inb v1 (fm_sz H (H.2.1 (H.2.1 (m2.2.1 v0 5) 0) 2)) = true then
      (if fm_isb H (m2.2.1 (H.2.1 (H.2.1 (m2.2.1 v0 5) 0) 2) v1.toNatClampNeg) 3 = true then
        fm_sw v2 0 [  some (.inl (m2.1 (m2.2.1 (H.2.1 (H.2.1 (m2.2.1 v0 5) 0) 2) v1.toNatClampNeg) 0), m2),
          some (.inl (m2.1 (m2.2.1 (H.2.1 (H.2.1 (m2.2.1 v0 5) 0) 2) v1.toNatClampNeg) 1), m2),
          some (.inl (m2.1 (m2.2.1 (H.2.1 (H.2.1 (m2.2.1 v0 5) 0) 2) v1.toNatClampNeg) 2), m2),
          some (.inl (m2.1 (m2.2.1 (H.2.1 (H.2.1 (m2.2.1 v0 5) 0) 2) v1.toNatClampNeg) 3), m2),
          if m2.1 (m2.2.1 (H.2.1 (H.2.1 (m2.2.1 v0 5) 0) 2) v1.toNatClampNeg) 4 = 0 then
            some (.inl (0 : Int32), m2)
          else
          some (.inl (1 : Int32), m2),
          if fm_isb H (m2.2.1 v0 5) 7 = true then
            fm_bn (f_X7_reservedOn H (m2.2.1 v0 5) v1 (-1 : Int32) m2) fun x3 m3 =>
            some (.inl x3, m3)
          else none]
          (if fm_isb H (m2.2.1 v0 5) 7 = true then
            fm_bn (f_X7_packetsOn H (m2.2.1 v0 5) v1 m2) fun x4 m4 =>
            some (.inl x4, m4)
          else none)
      else none)
    else none
  else none
set_option maxRecDepth 10000 in
theorem q_X11_link {G : pm_G} {H : fm_H} {d : Nat} {z : fm_Z H} {v0 : Nat} {v1 : Int32} {v2 : Int32} {m : fm_M} (hE : fm_E G H) (h0 : fm_is H v0 11) : fm_cal G H (d + 3) yX11_link [.ref v0, .int v1, .int v2] z m (fm_rX fm_rI) (f_X11_link H v0 v1 v2 m) := fm_mth (d := d + 2) mt_X11_link rfl rfl rfl (fun K => by
  show fm_o (fm_rX fm_rI) (f_X11_link H v0 v1 v2 m) K → fm_V G H (d + 2) RX11 cX11_link (some (.int)) z K 0 [some (.ref v0), some (.int v1), some (.int v2), none] [] m
  have T : fm_T RX11 cX11_link tc_X11_link fr_X11 mr_X11 cr_X11 lr_X11 := ⟨tok_X11, dc_X11_link⟩
  unfold f_X11_link
  refine fs_r T 2 2 [some (.ref v0), some (.int v1), some (.int v2), none] [.int v1, .ref v0] rfl ?_
  refine fs_vVx T 5 rfl rfl rfl rfl rfl rfl h0 (q_X11_checkLink (d := d) hE h0) ?_
  intro x1 m1
  refine fs_r T 2 8 [some (.ref v0), some (.int v1), some (.int v2), none] [.int (6 : Int32), .int v2] rfl ?_
  refine fs_sVx T 11 rfl rfl rfl rfl rfl rfl rfl (q_X11_checkWhat (d := d) hE ) ?_
  intro x2 m2
  refine fs_r T 1 12 [some (.ref v0), some (.int v1), some (.int v2), none] [.ref v0] rfl ?_
  refine fs_gp T 15 11 5 v0 7 rfl rfl rfl rfl h0 ?_
  intro e1
  refine fs_gs T 18 7 0 (m2.2.1 v0 5) rfl rfl rfl rfl e1 ?_
  refine fs_gs T 21 4 2 (H.2.1 (m2.2.1 v0 5) 0) rfl rfl rfl rfl (hE.1 _ 7 0 e1) ?_
  refine fs_r T 1 22 [some (.ref v0), some (.int v1), some (.int v2), none] [.int v1, .ref (H.2.1 (H.2.1 (m2.2.1 v0 5) 0) 2)] rfl ?_
  refine fs_aa T 23 (H.2.1 (H.2.1 (m2.2.1 v0 5) 0) 2) 3 rfl rfl (hE.1 _ 4 2 (hE.1 _ 7 0 e1)) ?_
  intro e2
  refine fs_r T 2 25 [some (.ref v0), some (.int v1), some (.int v2), some (.ref (m2.2.1 (H.2.1 (H.2.1 (m2.2.1 v0 5) 0) 2) v1.toNatClampNeg))] [.int v2] rfl ?_
  refine fs_tsw T (dflt := 82) (lo := 0) (hi := 5) (offs := #[39, 44, 49, 54, 59, 72]) (t := 107) rfl rfl rfl rfl ⟨⟨64, rfl, ?_⟩, ⟨69, rfl, ?_⟩, ⟨74, rfl, ?_⟩, ⟨79, rfl, ?_⟩, ⟨84, rfl, ?_⟩, ⟨97, rfl, ?_⟩, trivial⟩ ?_
  · refine fs_r T 1 65 [some (.ref v0), some (.int v1), some (.int v2), some (.ref (m2.2.1 (H.2.1 (H.2.1 (m2.2.1 v0 5) 0) 2) v1.toNatClampNeg))] [.ref (m2.2.1 (H.2.1 (H.2.1 (m2.2.1 v0 5) 0) 2) v1.toNatClampNeg)] rfl ?_
    refine fs_gi T 68 3 0 (m2.2.1 (H.2.1 (H.2.1 (m2.2.1 v0 5) 0) 2) v1.toNatClampNeg) rfl rfl rfl rfl e2 ?_
    exact fs_reti T rfl rfl rfl
  · refine fs_r T 1 70 [some (.ref v0), some (.int v1), some (.int v2), some (.ref (m2.2.1 (H.2.1 (H.2.1 (m2.2.1 v0 5) 0) 2) v1.toNatClampNeg))] [.ref (m2.2.1 (H.2.1 (H.2.1 (m2.2.1 v0 5) 0) 2) v1.toNatClampNeg)] rfl ?_
    refine fs_gi T 73 3 1 (m2.2.1 (H.2.1 (H.2.1 (m2.2.1 v0 5) 0) 2) v1.toNatClampNeg) rfl rfl rfl rfl e2 ?_
    exact fs_reti T rfl rfl rfl
  · refine fs_r T 1 75 [some (.ref v0), some (.int v1), some (.int v2), some (.ref (m2.2.1 (H.2.1 (H.2.1 (m2.2.1 v0 5) 0) 2) v1.toNatClampNeg))] [.ref (m2.2.1 (H.2.1 (H.2.1 (m2.2.1 v0 5) 0) 2) v1.toNatClampNeg)] rfl ?_
    refine fs_gi T 78 3 2 (m2.2.1 (H.2.1 (H.2.1 (m2.2.1 v0 5) 0) 2) v1.toNatClampNeg) rfl rfl rfl rfl e2 ?_
    exact fs_reti T rfl rfl rfl
  · refine fs_r T 1 80 [some (.ref v0), some (.int v1), some (.int v2), some (.ref (m2.2.1 (H.2.1 (H.2.1 (m2.2.1 v0 5) 0) 2) v1.toNatClampNeg))] [.ref (m2.2.1 (H.2.1 (H.2.1 (m2.2.1 v0 5) 0) 2) v1.toNatClampNeg)] rfl ?_
    refine fs_gi T 83 3 3 (m2.2.1 (H.2.1 (H.2.1 (m2.2.1 v0 5) 0) 2) v1.toNatClampNeg) rfl rfl rfl rfl e2 ?_
    exact fs_reti T rfl rfl rfl
  · refine fs_r T 1 85 [some (.ref v0), some (.int v1), some (.int v2), some (.ref (m2.2.1 (H.2.1 (H.2.1 (m2.2.1 v0 5) 0) 2) v1.toNatClampNeg))] [.ref (m2.2.1 (H.2.1 (H.2.1 (m2.2.1 v0 5) 0) 2) v1.toNatClampNeg)] rfl ?_
    refine fs_gi T 88 3 4 (m2.2.1 (H.2.1 (H.2.1 (m2.2.1 v0 5) 0) 2) v1.toNatClampNeg) rfl rfl rfl rfl e2 ?_
    refine fs_if_eq T 95 91 rfl rfl rfl (fun _ => ?_) (fun _ => ?_)
    · refine fs_r T 1 96 [some (.ref v0), some (.int v1), some (.int v2), some (.ref (m2.2.1 (H.2.1 (H.2.1 (m2.2.1 v0 5) 0) 2) v1.toNatClampNeg))] [.int (0 : Int32)] rfl ?_
      exact fs_reti T rfl rfl rfl
    · refine fs_r T 2 96 [some (.ref v0), some (.int v1), some (.int v2), some (.ref (m2.2.1 (H.2.1 (H.2.1 (m2.2.1 v0 5) 0) 2) v1.toNatClampNeg))] [.int (1 : Int32)] rfl ?_
      exact fs_reti T rfl rfl rfl
  · refine fs_r T 1 98 [some (.ref v0), some (.int v1), some (.int v2), some (.ref (m2.2.1 (H.2.1 (H.2.1 (m2.2.1 v0 5) 0) 2) v1.toNatClampNeg))] [.ref v0] rfl ?_
    refine fs_gp T 101 11 5 v0 7 rfl rfl rfl rfl h0 ?_
    intro e3
    refine fs_r T 2 103 [some (.ref v0), some (.int v1), some (.int v2), some (.ref (m2.2.1 (H.2.1 (H.2.1 (m2.2.1 v0 5) 0) 2) v1.toNatClampNeg))] [.int (-1 : Int32), .int v1, .ref (m2.2.1 v0 5)] rfl ?_
    refine fs_vI T 106 rfl rfl rfl rfl rfl rfl e3 (q_X7_reservedOn (d := d) hE e3) ?_
    intro x3 m3
    exact fs_reti T rfl rfl rfl
  · refine fs_r T 1 108 [some (.ref v0), some (.int v1), some (.int v2), some (.ref (m2.2.1 (H.2.1 (H.2.1 (m2.2.1 v0 5) 0) 2) v1.toNatClampNeg))] [.ref v0] rfl ?_
    refine fs_gp T 111 11 5 v0 7 rfl rfl rfl rfl h0 ?_
    intro e4
    refine fs_r T 1 112 [some (.ref v0), some (.int v1), some (.int v2), some (.ref (m2.2.1 (H.2.1 (H.2.1 (m2.2.1 v0 5) 0) 2) v1.toNatClampNeg))] [.int v1, .ref (m2.2.1 v0 5)] rfl ?_
    refine fs_vI T 115 rfl rfl rfl rfl rfl rfl e4 (q_X7_packetsOn (d := d + 1) hE e4) ?_
    intro x4 m4
    exact fs_reti T rfl rfl rfl)
def f_X11_draftBest (H : fm_H) (v0 : Nat) (v1 : Int32) (v2 : Int32) (v3 : Int32) (m : fm_M) : Option ((Int32 ⊕ String) × fm_M) :=
  fm_bx (f_X11_checkNode H v0 v1 m) fun _ m1 =>
  fm_bx (f_X11_checkNode H v0 v2 m1) fun _ m2 =>
  if v1 = v2 then
    some (.inr pm_xA, m2)
  else
  fm_bn (f_X11_isOutside H v3 (1 : Int32) (20 : Int32) m2) fun x3 m3 =>
  if x3 = 0 then
    if fm_isb H (m3.2.1 v0 5) 7 = true then
      fm_bn (f_X1_prepare H (H.2.1 v0 1) (m3.2.1 v0 5) v3 (-1 : Int32) m3) fun _ m4 =>
      if fm_isb H (m4.2.1 v0 5) 7 = true then
        fm_bn (f_X1_search H (H.2.1 v0 1) (H.2.1 (m4.2.1 v0 5) 0) v1 v2 (-1 : Int32) m4) fun x5 m5 =>
        if x5 = 0 then
          some (.inl (-1 : Int32), m5)
        else
        fm_bn (f_X10_copyNodes H (H.2.1 v0 2) (H.2.1 (H.2.1 v0 1) 0) m5) fun _ m6 =>
        some (.inl (m6.1 (H.2.1 v0 2) 0), m6)
      else none
    else none
  else
  some (.inr pm_xA, m3)
set_option maxRecDepth 10000 in
theorem q_X11_draftBest {G : pm_G} {H : fm_H} {d : Nat} {z : fm_Z H} {v0 : Nat} {v1 : Int32} {v2 : Int32} {v3 : Int32} {m : fm_M} (hE : fm_E G H) (h0 : fm_is H v0 11) : fm_cal G H (d + 13) yX11_draftBest [.ref v0, .int v1, .int v2, .int v3] z m (fm_rX fm_rI) (f_X11_draftBest H v0 v1 v2 v3 m) := fm_mth (d := d + 12) mt_X11_draftBest rfl rfl rfl (fun K => by
  show fm_o (fm_rX fm_rI) (f_X11_draftBest H v0 v1 v2 v3 m) K → fm_V G H (d + 12) RX11 cX11_draftBest (some (.int)) z K 0 [some (.ref v0), some (.int v1), some (.int v2), some (.int v3)] [] m
  have T : fm_T RX11 cX11_draftBest tc_X11_draftBest fr_X11 mr_X11 cr_X11 lr_X11 := ⟨tok_X11, dc_X11_draftBest⟩
  unfold f_X11_draftBest
  refine fs_r T 2 2 [some (.ref v0), some (.int v1), some (.int v2), some (.int v3)] [.int v1, .ref v0] rfl ?_
  refine fs_vVx T 5 rfl rfl rfl rfl rfl rfl h0 (q_X11_checkNode (d := d + 10) hE h0) ?_
  intro x1 m1
  refine fs_r T 2 7 [some (.ref v0), some (.int v1), some (.int v2), some (.int v3)] [.int v2, .ref v0] rfl ?_
  refine fs_vVx T 10 rfl rfl rfl rfl rfl rfl h0 (q_X11_checkNode (d := d + 10) hE h0) ?_
  intro x2 m2
  refine fs_r T 2 12 [some (.ref v0), some (.int v1), some (.int v2), some (.int v3)] [.int v2, .int v1] rfl ?_
  refine fs_ic_eq T 25 15 rfl rfl rfl (fun _ => ?_) (fun _ => ?_)
  · exact fs_thr T rfl rfl rfl rfl rfl
  · refine fs_r T 3 19 [some (.ref v0), some (.int v1), some (.int v2), some (.int v3)] [.int (20 : Int32), .int (1 : Int32), .int v3] rfl ?_
    refine fs_sI T 22 rfl rfl rfl rfl rfl rfl rfl (q_X11_isOutside (d := d + 11) hE ) ?_
    intro x3 m3
    refine fs_if_eq T 36 25 rfl rfl rfl (fun _ => ?_) (fun _ => ?_)
    · refine fs_r T 1 37 [some (.ref v0), some (.int v1), some (.int v2), some (.int v3)] [.ref v0] rfl ?_
      refine fs_gs T 40 11 1 v0 rfl rfl rfl rfl h0 ?_
      refine fs_r T 1 41 [some (.ref v0), some (.int v1), some (.int v2), some (.int v3)] [.ref v0, .ref (H.2.1 v0 1)] rfl ?_
      refine fs_gp T 44 11 5 v0 7 rfl rfl rfl rfl h0 ?_
      intro e1
      refine fs_r T 2 46 [some (.ref v0), some (.int v1), some (.int v2), some (.int v3)] [.int (-1 : Int32), .int v3, .ref (m3.2.1 v0 5), .ref (H.2.1 v0 1)] rfl ?_
      refine fs_vV T 49 rfl rfl rfl rfl rfl rfl (hE.1 _ 11 1 h0) (q_X1_prepare (d := d + 8) hE (hE.1 _ 11 1 h0) e1) ?_
      intro x4 m4
      refine fs_r T 1 50 [some (.ref v0), some (.int v1), some (.int v2), some (.int v3)] [.ref v0] rfl ?_
      refine fs_gs T 53 11 1 v0 rfl rfl rfl rfl h0 ?_
      refine fs_r T 1 54 [some (.ref v0), some (.int v1), some (.int v2), some (.int v3)] [.ref v0, .ref (H.2.1 v0 1)] rfl ?_
      refine fs_gp T 57 11 5 v0 7 rfl rfl rfl rfl h0 ?_
      intro e2
      refine fs_gs T 60 7 0 (m4.2.1 v0 5) rfl rfl rfl rfl e2 ?_
      refine fs_r T 3 63 [some (.ref v0), some (.int v1), some (.int v2), some (.int v3)] [.int (-1 : Int32), .int v2, .int v1, .ref (H.2.1 (m4.2.1 v0 5) 0), .ref (H.2.1 v0 1)] rfl ?_
      refine fs_vI T 66 rfl rfl rfl rfl rfl rfl (hE.1 _ 11 1 h0) (q_X1_search (d := d) hE (hE.1 _ 11 1 h0) (hE.1 _ 7 0 e2)) ?_
      intro x5 m5
      refine fs_if_ne T 71 69 rfl rfl rfl (fun _ => ?_) (fun _ => ?_)
      · refine fs_r T 1 70 [some (.ref v0), some (.int v1), some (.int v2), some (.int v3)] [.int (-1 : Int32)] rfl ?_
        exact fs_reti T rfl rfl rfl
      · refine fs_r T 1 72 [some (.ref v0), some (.int v1), some (.int v2), some (.int v3)] [.ref v0] rfl ?_
        refine fs_gs T 75 11 2 v0 rfl rfl rfl rfl h0 ?_
        refine fs_r T 1 76 [some (.ref v0), some (.int v1), some (.int v2), some (.int v3)] [.ref v0, .ref (H.2.1 v0 2)] rfl ?_
        refine fs_gs T 79 11 1 v0 rfl rfl rfl rfl h0 ?_
        refine fs_gs T 82 1 0 (H.2.1 v0 1) rfl rfl rfl rfl (hE.1 _ 11 1 h0) ?_
        refine fs_vV T 85 rfl rfl rfl rfl rfl rfl (hE.1 _ 11 2 h0) (q_X10_copyNodes (d := d + 11) hE (hE.1 _ 11 2 h0) (hE.1 _ 1 0 (hE.1 _ 11 1 h0))) ?_
        intro x6 m6
        refine fs_r T 1 86 [some (.ref v0), some (.int v1), some (.int v2), some (.int v3)] [.ref v0] rfl ?_
        refine fs_gs T 89 11 2 v0 rfl rfl rfl rfl h0 ?_
        refine fs_gi T 92 10 0 (H.2.1 v0 2) rfl rfl rfl rfl (hE.1 _ 11 2 h0) ?_
        exact fs_reti T rfl rfl rfl
    · exact fs_thr T rfl rfl rfl rfl rfl)
def f_X11_checkIndex (H : fm_H) (v0 : Int32) (m : fm_M) : Option ((Unit ⊕ String) × fm_M) :=
  if 0 ≤ v0 then
    some (.inl (), m)
  else
  some (.inr pm_xB, m)
set_option maxRecDepth 10000 in
theorem q_X11_checkIndex {G : pm_G} {H : fm_H} {d : Nat} {z : fm_Z H} {v0 : Int32} {m : fm_M} (hE : fm_E G H) : fm_cal G H (d + 1) yX11_checkIndex [.int v0] z m (fm_rX fm_rV) (f_X11_checkIndex H v0 m) := fm_mth (d := d + 0) mt_X11_checkIndex rfl rfl rfl (fun K => by
  show fm_o (fm_rX fm_rV) (f_X11_checkIndex H v0 m) K → fm_V G H (d + 0) RX11 cX11_checkIndex none z K 0 [some (.int v0)] [] m
  have T : fm_T RX11 cX11_checkIndex tc_X11_checkIndex fr_X11 mr_X11 cr_X11 lr_X11 := ⟨tok_X11, dc_X11_checkIndex⟩
  unfold f_X11_checkIndex
  refine fs_r T 1 1 [some (.int v0)] [.int v0] rfl ?_
  refine fs_if_ge T 15 4 rfl rfl rfl (fun _ => ?_) (fun _ => ?_)
  · exact fs_retv T rfl rfl rfl
  · exact fs_thr T rfl rfl rfl rfl rfl)
def f_X11_draftNode (H : fm_H) (v0 : Nat) (v1 : Int32) (m : fm_M) : Option ((Int32 ⊕ String) × fm_M) :=
  fm_bx (f_X11_checkIndex H v1 m) fun _ m1 =>
  fm_bn (f_X10_nodeAt H (H.2.1 v0 2) v1 m1) fun x2 m2 =>
  some (.inl x2, m2)
set_option maxRecDepth 10000 in
theorem q_X11_draftNode {G : pm_G} {H : fm_H} {d : Nat} {z : fm_Z H} {v0 : Nat} {v1 : Int32} {m : fm_M} (hE : fm_E G H) (h0 : fm_is H v0 11) : fm_cal G H (d + 2) yX11_draftNode [.ref v0, .int v1] z m (fm_rX fm_rI) (f_X11_draftNode H v0 v1 m) := fm_mth (d := d + 1) mt_X11_draftNode rfl rfl rfl (fun K => by
  show fm_o (fm_rX fm_rI) (f_X11_draftNode H v0 v1 m) K → fm_V G H (d + 1) RX11 cX11_draftNode (some (.int)) z K 0 [some (.ref v0), some (.int v1)] [] m
  have T : fm_T RX11 cX11_draftNode tc_X11_draftNode fr_X11 mr_X11 cr_X11 lr_X11 := ⟨tok_X11, dc_X11_draftNode⟩
  unfold f_X11_draftNode
  refine fs_r T 1 1 [some (.ref v0), some (.int v1)] [.int v1] rfl ?_
  refine fs_sVx T 4 rfl rfl rfl rfl rfl rfl rfl (q_X11_checkIndex (d := d) hE ) ?_
  intro x1 m1
  refine fs_r T 1 5 [some (.ref v0), some (.int v1)] [.ref v0] rfl ?_
  refine fs_gs T 8 11 2 v0 rfl rfl rfl rfl h0 ?_
  refine fs_r T 1 9 [some (.ref v0), some (.int v1)] [.int v1, .ref (H.2.1 v0 2)] rfl ?_
  refine fs_vI T 12 rfl rfl rfl rfl rfl rfl (hE.1 _ 11 2 h0) (q_X10_nodeAt (d := d) hE (hE.1 _ 11 2 h0)) ?_
  intro x2 m2
  exact fs_reti T rfl rfl rfl)
def f_X11_open (H : fm_H) (v0 : Nat) (v1 : Int32) (v2 : Int32) (m : fm_M) : Option ((Int32 ⊕ String) × fm_M) :=
  fm_bn (f_X11_isOutside H v1 (1 : Int32) (20 : Int32) m) fun x1 m1 =>
  if x1 = 0 then
    fm_bn (f_X11_isOutside H v2 (0 : Int32) (9 : Int32) m1) fun x2 m2 =>
    if x2 = 0 then
      if fm_isb H (m2.2.1 v0 5) 7 = true then
        fm_bn (f_X7_openAlong H (m2.2.1 v0 5) (H.2.1 v0 2) v1 v2 m2) fun x3 m3 =>
        if x3 = 0 then
          fm_bn (f_X10_erase H (H.2.1 v0 2) m3) fun _ m4 =>
          some (.inl x3, m4)
        else
        some (.inl x3, m3)
      else none
    else
    some (.inr pm_xA, m2)
  else
  some (.inr pm_xA, m1)
set_option maxRecDepth 10000 in
theorem q_X11_open {G : pm_G} {H : fm_H} {d : Nat} {z : fm_Z H} {v0 : Nat} {v1 : Int32} {v2 : Int32} {m : fm_M} (hE : fm_E G H) (h0 : fm_is H v0 11) : fm_cal G H (d + 6) yX11_open [.ref v0, .int v1, .int v2] z m (fm_rX fm_rI) (f_X11_open H v0 v1 v2 m) := fm_mth (d := d + 5) mt_X11_open rfl rfl rfl (fun K => by
  show fm_o (fm_rX fm_rI) (f_X11_open H v0 v1 v2 m) K → fm_V G H (d + 5) RX11 cX11_open (some (.int)) z K 0 [some (.ref v0), some (.int v1), some (.int v2), none] [] m
  have T : fm_T RX11 cX11_open tc_X11_open fr_X11 mr_X11 cr_X11 lr_X11 := ⟨tok_X11, dc_X11_open⟩
  unfold f_X11_open
  refine fs_r T 3 4 [some (.ref v0), some (.int v1), some (.int v2), none] [.int (20 : Int32), .int (1 : Int32), .int v1] rfl ?_
  refine fs_sI T 7 rfl rfl rfl rfl rfl rfl rfl (q_X11_isOutside (d := d + 4) hE ) ?_
  intro x1 m1
  refine fs_if_ne T 20 10 rfl rfl rfl (fun _ => ?_) (fun _ => ?_)
  · refine fs_r T 3 14 [some (.ref v0), some (.int v1), some (.int v2), none] [.int (9 : Int32), .int (0 : Int32), .int v2] rfl ?_
    refine fs_sI T 17 rfl rfl rfl rfl rfl rfl rfl (q_X11_isOutside (d := d + 4) hE ) ?_
    intro x2 m2
    refine fs_if_eq T 31 20 rfl rfl rfl (fun _ => ?_) (fun _ => ?_)
    · refine fs_r T 1 32 [some (.ref v0), some (.int v1), some (.int v2), none] [.ref v0] rfl ?_
      refine fs_gp T 35 11 5 v0 7 rfl rfl rfl rfl h0 ?_
      intro e1
      refine fs_r T 1 36 [some (.ref v0), some (.int v1), some (.int v2), none] [.ref v0, .ref (m2.2.1 v0 5)] rfl ?_
      refine fs_gs T 39 11 2 v0 rfl rfl rfl rfl h0 ?_
      refine fs_r T 2 41 [some (.ref v0), some (.int v1), some (.int v2), none] [.int v2, .int v1, .ref (H.2.1 v0 2), .ref (m2.2.1 v0 5)] rfl ?_
      refine fs_vI T 44 rfl rfl rfl rfl rfl rfl e1 (q_X7_openAlong (d := d) hE e1 (hE.1 _ 11 2 h0)) ?_
      intro x3 m3
      refine fs_r T 2 46 [some (.ref v0), some (.int v1), some (.int v2), some (.int x3)] [.int x3] rfl ?_
      refine fs_if_ne T 56 49 rfl rfl rfl (fun _ => ?_) (fun _ => ?_)
      · refine fs_r T 1 50 [some (.ref v0), some (.int v1), some (.int v2), some (.int x3)] [.ref v0] rfl ?_
        refine fs_gs T 53 11 2 v0 rfl rfl rfl rfl h0 ?_
        refine fs_vV T 56 rfl rfl rfl rfl rfl rfl (hE.1 _ 11 2 h0) (q_X10_erase (d := d + 4) hE (hE.1 _ 11 2 h0)) ?_
        intro x4 m4
        refine fs_r T 1 57 [some (.ref v0), some (.int v1), some (.int v2), some (.int x3)] [.int x3] rfl ?_
        exact fs_reti T rfl rfl rfl
      · refine fs_r T 1 57 [some (.ref v0), some (.int v1), some (.int v2), some (.int x3)] [.int x3] rfl ?_
        exact fs_reti T rfl rfl rfl
    · exact fs_thr T rfl rfl rfl rfl rfl
  · exact fs_thr T rfl rfl rfl rfl rfl)
def f_X11_checkCircuit (H : fm_H) (v0 : Nat) (v1 : Int32) (m : fm_M) : Option ((Unit ⊕ String) × fm_M) :=
  if fm_isb H (m.2.1 v0 5) 7 = true then
    fm_bn (f_X7_isCircuit H (m.2.1 v0 5) v1 m) fun x1 m1 =>
    if x1 = 0 then
      some (.inr pm_xB, m1)
    else
    some (.inl (), m1)
  else none
set_option maxRecDepth 10000 in
theorem q_X11_checkCircuit {G : pm_G} {H : fm_H} {d : Nat} {z : fm_Z H} {v0 : Nat} {v1 : Int32} {m : fm_M} (hE : fm_E G H) (h0 : fm_is H v0 11) : fm_cal G H (d + 2) yX11_checkCircuit [.ref v0, .int v1] z m (fm_rX fm_rV) (f_X11_checkCircuit H v0 v1 m) := fm_mth (d := d + 1) mt_X11_checkCircuit rfl rfl rfl (fun K => by
  show fm_o (fm_rX fm_rV) (f_X11_checkCircuit H v0 v1 m) K → fm_V G H (d + 1) RX11 cX11_checkCircuit none z K 0 [some (.ref v0), some (.int v1)] [] m
  have T : fm_T RX11 cX11_checkCircuit tc_X11_checkCircuit fr_X11 mr_X11 cr_X11 lr_X11 := ⟨tok_X11, dc_X11_checkCircuit⟩
  unfold f_X11_checkCircuit
  refine fs_r T 1 1 [some (.ref v0), some (.int v1)] [.ref v0] rfl ?_
  refine fs_gp T 4 11 5 v0 7 rfl rfl rfl rfl h0 ?_
  intro e1
  refine fs_r T 1 5 [some (.ref v0), some (.int v1)] [.int v1, .ref (m.2.1 v0 5)] rfl ?_
  refine fs_vI T 8 rfl rfl rfl rfl rfl rfl e1 (q_X7_isCircuit (d := d) hE e1) ?_
  intro x1 m1
  refine fs_if_ne T 22 11 rfl rfl rfl (fun _ => ?_) (fun _ => ?_)
  · exact fs_thr T rfl rfl rfl rfl rfl
  · exact fs_retv T rfl rfl rfl)
def f_X11_close (H : fm_H) (v0 : Nat) (v1 : Int32) (m : fm_M) : Option ((Int32 ⊕ String) × fm_M) :=
  fm_bx (f_X11_checkCircuit H v0 v1 m) fun _ m1 =>
  if fm_isb H (m1.2.1 v0 5) 7 = true then
    fm_bn (f_X7_closeCircuit H (m1.2.1 v0 5) v1 m1) fun x2 m2 =>
    some (.inl x2, m2)
  else none
set_option maxRecDepth 10000 in
theorem q_X11_close {G : pm_G} {H : fm_H} {d : Nat} {z : fm_Z H} {v0 : Nat} {v1 : Int32} {m : fm_M} (hE : fm_E G H) (h0 : fm_is H v0 11) : fm_cal G H (d + 5) yX11_close [.ref v0, .int v1] z m (fm_rX fm_rI) (f_X11_close H v0 v1 m) := fm_mth (d := d + 4) mt_X11_close rfl rfl rfl (fun K => by
  show fm_o (fm_rX fm_rI) (f_X11_close H v0 v1 m) K → fm_V G H (d + 4) RX11 cX11_close (some (.int)) z K 0 [some (.ref v0), some (.int v1)] [] m
  have T : fm_T RX11 cX11_close tc_X11_close fr_X11 mr_X11 cr_X11 lr_X11 := ⟨tok_X11, dc_X11_close⟩
  unfold f_X11_close
  refine fs_r T 2 2 [some (.ref v0), some (.int v1)] [.int v1, .ref v0] rfl ?_
  refine fs_vVx T 5 rfl rfl rfl rfl rfl rfl h0 (q_X11_checkCircuit (d := d + 2) hE h0) ?_
  intro x1 m1
  refine fs_r T 1 6 [some (.ref v0), some (.int v1)] [.ref v0] rfl ?_
  refine fs_gp T 9 11 5 v0 7 rfl rfl rfl rfl h0 ?_
  intro e1
  refine fs_r T 1 10 [some (.ref v0), some (.int v1)] [.int v1, .ref (m1.2.1 v0 5)] rfl ?_
  refine fs_vI T 13 rfl rfl rfl rfl rfl rfl e1 (q_X7_closeCircuit (d := d) hE e1) ?_
  intro x2 m2
  exact fs_reti T rfl rfl rfl)
def f_X11_checkLinkOrNone (H : fm_H) (v0 : Nat) (v1 : Int32) (m : fm_M) : Option ((Unit ⊕ String) × fm_M) :=
  if v1 = (-1 : Int32) then
    some (.inl (), m)
  else
  fm_bx (f_X11_checkLink H v0 v1 m) fun _ m1 =>
  some (.inl (), m1)
set_option maxRecDepth 10000 in
theorem q_X11_checkLinkOrNone {G : pm_G} {H : fm_H} {d : Nat} {z : fm_Z H} {v0 : Nat} {v1 : Int32} {m : fm_M} (hE : fm_E G H) (h0 : fm_is H v0 11) : fm_cal G H (d + 3) yX11_checkLinkOrNone [.ref v0, .int v1] z m (fm_rX fm_rV) (f_X11_checkLinkOrNone H v0 v1 m) := fm_mth (d := d + 2) mt_X11_checkLinkOrNone rfl rfl rfl (fun K => by
  show fm_o (fm_rX fm_rV) (f_X11_checkLinkOrNone H v0 v1 m) K → fm_V G H (d + 2) RX11 cX11_checkLinkOrNone none z K 0 [some (.ref v0), some (.int v1)] [] m
  have T : fm_T RX11 cX11_checkLinkOrNone tc_X11_checkLinkOrNone fr_X11 mr_X11 cr_X11 lr_X11 := ⟨tok_X11, dc_X11_checkLinkOrNone⟩
  unfold f_X11_checkLinkOrNone
  refine fs_r T 2 2 [some (.ref v0), some (.int v1)] [.int (-1 : Int32), .int v1] rfl ?_
  refine fs_ic_eq T 10 5 rfl rfl rfl (fun _ => ?_) (fun _ => ?_)
  · exact fs_retv T rfl rfl rfl
  · refine fs_r T 2 7 [some (.ref v0), some (.int v1)] [.int v1, .ref v0] rfl ?_
    refine fs_vVx T 10 rfl rfl rfl rfl rfl rfl h0 (q_X11_checkLink (d := d) hE h0) ?_
    intro x1 m1
    exact fs_retv T rfl rfl rfl)
def f_X11_moveToBest (H : fm_H) (v0 : Nat) (v1 : Nat) (v2 : Int32) (v3 : Int32) (m : fm_M) : Option (Int32 × fm_M) :=
  if px_inb v2 (fm_sz H (H.2.1 v1 3)) = true then
    (if fm_isb H (m.2.1 (H.2.1 v1 3) v2.toNatClampNeg) 0 = true then
      if m.1 (m.2.1 (H.2.1 v1 3) v2.toNatClampNeg) 2 = 0 then
        fm_bn (f_X1_prepare H (H.2.1 v0 1) v1 (m.1 (m.2.1 (H.2.1 v1 3) v2.toNatClampNeg) 0) v2 m) fun _ m1 =>
        if fm_isb H (m1.2.1 (m.2.1 (H.2.1 v1 3) v2.toNatClampNeg) 13) 10 = true then
          fm_bn (f_X10_nodeAt H (m1.2.1 (m.2.1 (H.2.1 v1 3) v2.toNatClampNeg) 13) (0 : Int32) m1) fun x2 m2 =>
          if fm_isb H (m2.2.1 (m.2.1 (H.2.1 v1 3) v2.toNatClampNeg) 13) 10 = true then
            fm_bn (f_X10_lastNode H (m2.2.1 (m.2.1 (H.2.1 v1 3) v2.toNatClampNeg) 13) m2) fun x3 m3 =>
            fm_bn (f_X1_search H (H.2.1 v0 1) (H.2.1 v1 0) x2 x3 v3 m3) fun x4 m4 =>
            if x4 = 0 then
              some ((3 : Int32), m4)
            else
            fm_bn (f_X7_moveAlong H v1 v2 (H.2.1 (H.2.1 v0 1) 0) m4) fun x5 m5 =>
            some (x5, m5)
          else none
        else none
      else
      some ((2 : Int32), m)
    else none)
  else none
set_option maxRecDepth 10000 in
theorem q_X11_moveToBest {G : pm_G} {H : fm_H} {d : Nat} {z : fm_Z H} {v0 : Nat} {v1 : Nat} {v2 : Int32} {v3 : Int32} {m : fm_M} (hE : fm_E G H) (h0 : fm_is H v0 11) (h1 : fm_is H v1 7) : fm_cal G H (d + 13) yX11_moveToBest [.ref v0, .ref v1, .int v2, .int v3] z m fm_rI (f_X11_moveToBest H v0 v1 v2 v3 m) := fm_mth (d := d + 12) mt_X11_moveToBest rfl rfl rfl (fun K => by
  show fm_o fm_rI (f_X11_moveToBest H v0 v1 v2 v3 m) K → fm_V G H (d + 12) RX11 cX11_moveToBest (some (.int)) z K 0 [some (.ref v0), some (.ref v1), some (.int v2), some (.int v3), none] [] m
  have T : fm_T RX11 cX11_moveToBest tc_X11_moveToBest fr_X11 mr_X11 cr_X11 lr_X11 := ⟨tok_X11, dc_X11_moveToBest⟩
  unfold f_X11_moveToBest
  refine fs_r T 1 1 [some (.ref v0), some (.ref v1), some (.int v2), some (.int v3), none] [.ref v1] rfl ?_
  refine fs_gs T 4 7 3 v1 rfl rfl rfl rfl h1 ?_
  refine fs_r T 1 5 [some (.ref v0), some (.ref v1), some (.int v2), some (.int v3), none] [.int v2, .ref (H.2.1 v1 3)] rfl ?_
  refine fs_aa T 6 (H.2.1 v1 3) 0 rfl rfl (hE.1 _ 7 3 h1) ?_
  intro e1
  refine fs_r T 2 10 [some (.ref v0), some (.ref v1), some (.int v2), some (.int v3), some (.ref (m.2.1 (H.2.1 v1 3) v2.toNatClampNeg))] [.ref (m.2.1 (H.2.1 v1 3) v2.toNatClampNeg)] rfl ?_
  refine fs_gi T 13 0 2 (m.2.1 (H.2.1 v1 3) v2.toNatClampNeg) rfl rfl rfl rfl e1 ?_
  refine fs_if_eq T 18 16 rfl rfl rfl (fun _ => ?_) (fun _ => ?_)
  · refine fs_r T 1 19 [some (.ref v0), some (.ref v1), some (.int v2), some (.int v3), some (.ref (m.2.1 (H.2.1 v1 3) v2.toNatClampNeg))] [.ref v0] rfl ?_
    refine fs_gs T 22 11 1 v0 rfl rfl rfl rfl h0 ?_
    refine fs_r T 2 25 [some (.ref v0), some (.ref v1), some (.int v2), some (.int v3), some (.ref (m.2.1 (H.2.1 v1 3) v2.toNatClampNeg))] [.ref (m.2.1 (H.2.1 v1 3) v2.toNatClampNeg), .ref v1, .ref (H.2.1 v0 1)] rfl ?_
    refine fs_gi T 28 0 0 (m.2.1 (H.2.1 v1 3) v2.toNatClampNeg) rfl rfl rfl rfl e1 ?_
    refine fs_r T 1 29 [some (.ref v0), some (.ref v1), some (.int v2), some (.int v3), some (.ref (m.2.1 (H.2.1 v1 3) v2.toNatClampNeg))] [.int v2, .int (m.1 (m.2.1 (H.2.1 v1 3) v2.toNatClampNeg) 0), .ref v1, .ref (H.2.1 v0 1)] rfl ?_
    refine fs_vV T 32 rfl rfl rfl rfl rfl rfl (hE.1 _ 11 1 h0) (q_X1_prepare (d := d + 8) hE (hE.1 _ 11 1 h0) h1) ?_
    intro x1 m1
    refine fs_r T 1 33 [some (.ref v0), some (.ref v1), some (.int v2), some (.int v3), some (.ref (m.2.1 (H.2.1 v1 3) v2.toNatClampNeg))] [.ref v0] rfl ?_
    refine fs_gs T 36 11 1 v0 rfl rfl rfl rfl h0 ?_
    refine fs_r T 1 37 [some (.ref v0), some (.ref v1), some (.int v2), some (.int v3), some (.ref (m.2.1 (H.2.1 v1 3) v2.toNatClampNeg))] [.ref v1, .ref (H.2.1 v0 1)] rfl ?_
    refine fs_gs T 40 7 0 v1 rfl rfl rfl rfl h1 ?_
    refine fs_r T 1 42 [some (.ref v0), some (.ref v1), some (.int v2), some (.int v3), some (.ref (m.2.1 (H.2.1 v1 3) v2.toNatClampNeg))] [.ref (m.2.1 (H.2.1 v1 3) v2.toNatClampNeg), .ref (H.2.1 v1 0), .ref (H.2.1 v0 1)] rfl ?_
    refine fs_gp T 45 0 13 (m.2.1 (H.2.1 v1 3) v2.toNatClampNeg) 10 rfl rfl rfl rfl e1 ?_
    intro e2
    refine fs_r T 1 46 [some (.ref v0), some (.ref v1), some (.int v2), some (.int v3), some (.ref (m.2.1 (H.2.1 v1 3) v2.toNatClampNeg))] [.int (0 : Int32), .ref (m1.2.1 (m.2.1 (H.2.1 v1 3) v2.toNatClampNeg) 13), .ref (H.2.1 v1 0), .ref (H.2.1 v0 1)] rfl ?_
    refine fs_vI T 49 rfl rfl rfl rfl rfl rfl e2 (q_X10_nodeAt (d := d + 11) hE e2) ?_
    intro x2 m2
    refine fs_r T 1 51 [some (.ref v0), some (.ref v1), some (.int v2), some (.int v3), some (.ref (m.2.1 (H.2.1 v1 3) v2.toNatClampNeg))] [.ref (m.2.1 (H.2.1 v1 3) v2.toNatClampNeg), .int x2, .ref (H.2.1 v1 0), .ref (H.2.1 v0 1)] rfl ?_
    refine fs_gp T 54 0 13 (m.2.1 (H.2.1 v1 3) v2.toNatClampNeg) 10 rfl rfl rfl rfl e1 ?_
    intro e3
    refine fs_vI T 57 rfl rfl rfl rfl rfl rfl e3 (q_X10_lastNode (d := d + 10) hE e3) ?_
    intro x3 m3
    refine fs_r T 1 58 [some (.ref v0), some (.ref v1), some (.int v2), some (.int v3), some (.ref (m.2.1 (H.2.1 v1 3) v2.toNatClampNeg))] [.int v3, .int x3, .int x2, .ref (H.2.1 v1 0), .ref (H.2.1 v0 1)] rfl ?_
    refine fs_vI T 61 rfl rfl rfl rfl rfl rfl (hE.1 _ 11 1 h0) (q_X1_search (d := d) hE (hE.1 _ 11 1 h0) (hE.1 _ 7 0 h1)) ?_
    intro x4 m4
    refine fs_if_ne T 66 64 rfl rfl rfl (fun _ => ?_) (fun _ => ?_)
    · refine fs_r T 1 65 [some (.ref v0), some (.ref v1), some (.int v2), some (.int v3), some (.ref (m.2.1 (H.2.1 v1 3) v2.toNatClampNeg))] [.int (3 : Int32)] rfl ?_
      exact fs_reti T rfl rfl rfl
    · refine fs_r T 3 69 [some (.ref v0), some (.ref v1), some (.int v2), some (.int v3), some (.ref (m.2.1 (H.2.1 v1 3) v2.toNatClampNeg))] [.ref v0, .int v2, .ref v1] rfl ?_
      refine fs_gs T 72 11 1 v0 rfl rfl rfl rfl h0 ?_
      refine fs_gs T 75 1 0 (H.2.1 v0 1) rfl rfl rfl rfl (hE.1 _ 11 1 h0) ?_
      refine fs_vI T 78 rfl rfl rfl rfl rfl rfl h1 (q_X7_moveAlong (d := d + 7) hE h1 (hE.1 _ 1 0 (hE.1 _ 11 1 h0))) ?_
      intro x5 m5
      exact fs_reti T rfl rfl rfl
  · refine fs_r T 1 17 [some (.ref v0), some (.ref v1), some (.int v2), some (.int v3), some (.ref (m.2.1 (H.2.1 v1 3) v2.toNatClampNeg))] [.int (2 : Int32)] rfl ?_
    exact fs_reti T rfl rfl rfl)
