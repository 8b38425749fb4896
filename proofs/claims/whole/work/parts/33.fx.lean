/-! functions out of the code -/
def f_X7_isOnUpLink (H : fm_H) (v0 : Nat) (v1 : Nat) (m : fm_M) : Option (Int32 × fm_M) :=
  fm_bn (f_X4_isUp H (H.2.1 v0 0) (m.1 v1 3) m) fun x1 m1 =>
  if x1 = 0 then
    fm_bn (f_X7_lose H v0 v1 m1) fun _ m2 =>
    some ((0 : Int32), m2)
  else
  some ((1 : Int32), m1)
set_option maxRecDepth 10000 in
theorem q_X7_isOnUpLink {G : pm_G} {H : fm_H} {d : Nat} {z : Option Nat × Nat × Nat} {v0 : Nat} {v1 : Nat} {m : fm_M} (hE : fm_E G H) (h0 : fm_is H v0 7) (h1 : fm_is H v1 5) : fm_cal G H (d + 3) yX7_isOnUpLink [.ref v0, .ref v1] z m fm_rI (f_X7_isOnUpLink H v0 v1 m) := fm_mth (d := d + 2) mt_X7_isOnUpLink rfl rfl rfl (fun K => by
  show fm_o fm_rI (f_X7_isOnUpLink H v0 v1 m) K → fm_V G H (d + 2) RX7 cX7_isOnUpLink (some (.boolean)) z K 0 [some (.ref v0), some (.ref v1)] [] m
  have T : fm_T RX7 cX7_isOnUpLink tc_X7_isOnUpLink fr_X7 mr_X7 cr_X7 lr_X7 := ⟨tok_X7, dc_X7_isOnUpLink⟩
  unfold f_X7_isOnUpLink
  refine fs_r T 1 1 [some (.ref v0), some (.ref v1)] [.ref v0] rfl ?_
  refine fs_gs T 4 7 0 v0 rfl rfl rfl rfl h0 ?_
  refine fs_r T 1 5 [some (.ref v0), some (.ref v1)] [.ref v1, .ref (H.2.1 v0 0)] rfl ?_
  refine fs_gi T 8 5 3 v1 rfl rfl rfl rfl h1 ?_
  refine fs_vI T 11 rfl rfl rfl rfl rfl rfl (hE.1 _ 7 0 h0) (q_X4_isUp (d := d) hE (hE.1 _ 7 0 h0)) ?_
  intro x1 m1
  refine fs_if_eq T 16 14 rfl rfl rfl (fun _ => ?_) (fun _ => ?_)
  · refine fs_r T 2 18 [some (.ref v0), some (.ref v1)] [.ref v1, .ref v0] rfl ?_
    refine fs_vV T 21 rfl rfl rfl rfl rfl rfl h0 (q_X7_lose (d := d) hE h0 h1) ?_
    intro x2 m2
    refine fs_r T 1 22 [some (.ref v0), some (.ref v1)] [.int (0 : Int32)] rfl ?_
    exact fs_retc T rfl rfl rfl rfl
  · refine fs_r T 1 15 [some (.ref v0), some (.ref v1)] [.int (1 : Int32)] rfl ?_
    exact fs_retc T rfl rfl rfl rfl)
def f_X7_goesOn (H : fm_H) (v0 : Nat) (v1 : Nat) (m : fm_M) : Option (Int32 × fm_M) :=
  fm_bn (f_X2_circuitOf H (H.2.1 v0 1) (m.1 v1 5) m) fun x1 m1 =>
  fm_bn (f_X7_isCircuit H v0 x1 m1) fun x2 m2 =>
  if x2 = 0 then
    fm_bn (f_X7_lose H v0 v1 m2) fun _ m3 =>
    some ((0 : Int32), m3)
  else
  fm_bn (f_X2_hasMadeEntry H (H.2.1 v0 1) (m2.1 v1 5) (m2.1 v1 4) m2) fun x4 m4 =>
  if x4 = 0 then
    fm_bn (f_X7_lose H v0 v1 m4) fun _ m10 =>
    some ((0 : Int32), m10)
  else
  if px_inb x1 (fm_sz H (H.2.1 v0 3)) = true then
    (if fm_isb H (m4.2.1 (H.2.1 v0 3) x1.toNatClampNeg) 0 = true then
      fm_bn (f_X0_wayWithSlot H (m4.2.1 (H.2.1 v0 3) x1.toNatClampNeg) (m4.1 v1 5) m4) fun x5 m5 => if fm_isb H x5 10 = true then
        fm_bn (f_X10_indexOfSlot H x5 (m5.1 v1 5) m5) fun x6 m6 =>
        if (x6 + (1 : Int32)) < m6.1 x5 0 then
          fm_bn (f_X5_putOnLinkTo H v1 x5 (x6 + (1 : Int32)) (H.2.1 v0 0) m6) fun _ m7 =>
          fm_bn (f_X7_isOnUpLink H v0 v1 m7) fun x8 m8 =>
          if fm_b01 x8 = true then some (x8, m8) else none
        else
        fm_bn (f_X7_deliver H v0 v1 m6) fun _ m9 =>
        some ((0 : Int32), m9)
      else none
    else none)
  else none
set_option maxRecDepth 10000 in
theorem q_X7_goesOn {G : pm_G} {H : fm_H} {d : Nat} {z : Option Nat × Nat × Nat} {v0 : Nat} {v1 : Nat} {m : fm_M} (hE : fm_E G H) (h0 : fm_is H v0 7) (h1 : fm_is H v1 5) : fm_cal G H (d + 4) yX7_goesOn [.ref v0, .ref v1] z m fm_rI (f_X7_goesOn H v0 v1 m) := fm_mth (d := d + 3) mt_X7_goesOn rfl rfl rfl (fun K => by
  show fm_o fm_rI (f_X7_goesOn H v0 v1 m) K → fm_V G H (d + 3) RX7 cX7_goesOn (some (.boolean)) z K 0 [some (.ref v0), some (.ref v1), none, none, none] [] m
  have T : fm_T RX7 cX7_goesOn tc_X7_goesOn fr_X7 mr_X7 cr_X7 lr_X7 := ⟨tok_X7, dc_X7_goesOn⟩
  unfold f_X7_goesOn
  refine fs_r T 1 1 [some (.ref v0), some (.ref v1), none, none, none] [.ref v0] rfl ?_
  refine fs_gs T 4 7 1 v0 rfl rfl rfl rfl h0 ?_
  refine fs_r T 1 5 [some (.ref v0), some (.ref v1), none, none, none] [.ref v1, .ref (H.2.1 v0 1)] rfl ?_
  refine fs_gi T 8 5 5 v1 rfl rfl rfl rfl h1 ?_
  refine fs_vI T 11 rfl rfl rfl rfl rfl rfl (hE.1 _ 7 1 h0) (q_X2_circuitOf (d := d + 1) hE (hE.1 _ 7 1 h0)) ?_
  intro x1 m1
  refine fs_r T 3 14 [some (.ref v0), some (.ref v1), some (.int x1), none, none] [.int x1, .ref v0] rfl ?_
  refine fs_vI T 17 rfl rfl rfl rfl rfl rfl h0 (q_X7_isCircuit (d := d + 2) hE h0) ?_
  intro x2 m2
  refine fs_if_eq T 38 20 rfl rfl rfl (fun _ => ?_) (fun _ => ?_)
  · refine fs_r T 2 40 [some (.ref v0), some (.ref v1), some (.int x1), none, none] [.ref v1, .ref v0] rfl ?_
    refine fs_vV T 43 rfl rfl rfl rfl rfl rfl h0 (q_X7_lose (d := d + 1) hE h0 h1) ?_
    intro x3 m3
    refine fs_r T 1 44 [some (.ref v0), some (.ref v1), some (.int x1), none, none] [.int (0 : Int32)] rfl ?_
    exact fs_retc T rfl rfl rfl rfl
  · refine fs_r T 1 21 [some (.ref v0), some (.ref v1), some (.int x1), none, none] [.ref v0] rfl ?_
    refine fs_gs T 24 7 1 v0 rfl rfl rfl rfl h0 ?_
    refine fs_r T 1 25 [some (.ref v0), some (.ref v1), some (.int x1), none, none] [.ref v1, .ref (H.2.1 v0 1)] rfl ?_
    refine fs_gi T 28 5 5 v1 rfl rfl rfl rfl h1 ?_
    refine fs_r T 1 29 [some (.ref v0), some (.ref v1), some (.int x1), none, none] [.ref v1, .int (m2.1 v1 5), .ref (H.2.1 v0 1)] rfl ?_
    refine fs_gi T 32 5 4 v1 rfl rfl rfl rfl h1 ?_
    refine fs_vI T 35 rfl rfl rfl rfl rfl rfl (hE.1 _ 7 1 h0) (q_X2_hasMadeEntry (d := d + 1) hE (hE.1 _ 7 1 h0)) ?_
    intro x4 m4
    refine fs_if_ne T 45 38 rfl rfl rfl (fun _ => ?_) (fun _ => ?_)
    · refine fs_r T 2 40 [some (.ref v0), some (.ref v1), some (.int x1), none, none] [.ref v1, .ref v0] rfl ?_
      refine fs_vV T 43 rfl rfl rfl rfl rfl rfl h0 (q_X7_lose (d := d + 1) hE h0 h1) ?_
      intro x10 m10
      refine fs_r T 1 44 [some (.ref v0), some (.ref v1), some (.int x1), none, none] [.int (0 : Int32)] rfl ?_
      exact fs_retc T rfl rfl rfl rfl
    · refine fs_r T 1 46 [some (.ref v0), some (.ref v1), some (.int x1), none, none] [.ref v0] rfl ?_
      refine fs_gs T 49 7 3 v0 rfl rfl rfl rfl h0 ?_
      refine fs_r T 1 50 [some (.ref v0), some (.ref v1), some (.int x1), none, none] [.int x1, .ref (H.2.1 v0 3)] rfl ?_
      refine fs_aa T 51 (H.2.1 v0 3) 0 rfl rfl (hE.1 _ 7 3 h0) ?_
      intro e1
      refine fs_r T 1 52 [some (.ref v0), some (.ref v1), some (.int x1), none, none] [.ref v1, .ref (m4.2.1 (H.2.1 v0 3) x1.toNatClampNeg)] rfl ?_
      refine fs_gi T 55 5 5 v1 rfl rfl rfl rfl h1 ?_
      refine fs_vA T 58 rfl rfl rfl rfl rfl rfl e1 (q_X0_wayWithSlot (d := d + 1) hE e1) 10 ?_
      intro x5 m5 e2
      refine fs_r T 3 61 [some (.ref v0), some (.ref v1), some (.int x1), some (.ref x5), none] [.ref v1, .ref x5] rfl ?_
      refine fs_gi T 64 5 5 v1 rfl rfl rfl rfl h1 ?_
      refine fs_vI T 67 rfl rfl rfl rfl rfl rfl e2 (q_X10_indexOfSlot (d := d + 2) hE e2) ?_
      intro x6 m6
      refine fs_r T 5 74 [some (.ref v0), some (.ref v1), some (.int x1), some (.ref x5), some (.int (x6 + (1 : Int32)))] [.ref x5, .int (x6 + (1 : Int32))] rfl ?_
      refine fs_gi T 77 10 0 x5 rfl rfl rfl rfl e2 ?_
      refine fs_ic_lt T 87 80 rfl rfl rfl (fun _ => ?_) (fun _ => ?_)
      · refine fs_r T 4 92 [some (.ref v0), some (.ref v1), some (.int x1), some (.ref x5), some (.int (x6 + (1 : Int32)))] [.ref v0, .int (x6 + (1 : Int32)), .ref x5, .ref v1] rfl ?_
        refine fs_gs T 95 7 0 v0 rfl rfl rfl rfl h0 ?_
        refine fs_vV T 98 rfl rfl rfl rfl rfl rfl h1 (q_X5_putOnLinkTo (d := d) hE h1 e2 (hE.1 _ 7 0 h0)) ?_
        intro x7 m7
        refine fs_r T 2 100 [some (.ref v0), some (.ref v1), some (.int x1), some (.ref x5), some (.int (x6 + (1 : Int32)))] [.ref v1, .ref v0] rfl ?_
        refine fs_vI T 103 rfl rfl rfl rfl rfl rfl h0 (q_X7_isOnUpLink (d := d) hE h0 h1) ?_
        intro x8 m8
        exact fs_retz T rfl rfl rfl
      · refine fs_r T 2 82 [some (.ref v0), some (.ref v1), some (.int x1), some (.ref x5), some (.int (x6 + (1 : Int32)))] [.ref v1, .ref v0] rfl ?_
        refine fs_vV T 85 rfl rfl rfl rfl rfl rfl h0 (q_X7_deliver (d := d + 1) hE h0 h1) ?_
        intro x9 m9
        refine fs_r T 1 86 [some (.ref v0), some (.ref v1), some (.int x1), some (.ref x5), some (.int (x6 + (1 : Int32)))] [.int (0 : Int32)] rfl ?_
        exact fs_retc T rfl rfl rfl rfl)
def f_X7_movePackets_4 (H : fm_H) (v0 : Nat) : Nat → Int32 → Int32 → fm_M → Option (Unit × fm_M)
  | 0, _, _, _ => none
  | n + 1, v1, v2, m =>
    if m.1 v0 6 ≤ v2 then
      fm_bd (fm_si m v0 6 v1) fun m1 =>
      some ((), m1)
    else
    if px_inb v2 (fm_sz H (H.2.1 v0 4)) = true then
      (if fm_isb H (m.2.1 (H.2.1 v0 4) v2.toNatClampNeg) 5 = true then
        fm_bd (fm_si m (m.2.1 (H.2.1 v0 4) v2.toNatClampNeg) 6 (m.1 (m.2.1 (H.2.1 v0 4) v2.toNatClampNeg) 6 - (1 : Int32))) fun m2 =>
        if 0 < m2.1 (m.2.1 (H.2.1 v0 4) v2.toNatClampNeg) 6 then
          fm_bn (f_X7_keepPacket H v0 v2 v1 m2) fun _ m3 =>
          f_X7_movePackets_4 H v0 n (v1 + 1) (v2 + 1) m3
        else
        fm_bn (f_X7_goesOn H v0 (m.2.1 (H.2.1 v0 4) v2.toNatClampNeg) m2) fun x2 m4 =>
        if x2 = 0 then
          f_X7_movePackets_4 H v0 n v1 (v2 + 1) m4
        else
        fm_bn (f_X7_keepPacket H v0 v2 v1 m4) fun _ m5 =>
        f_X7_movePackets_4 H v0 n (v1 + 1) (v2 + 1) m5
      else none)
    else none
set_option maxRecDepth 10000 in
theorem w_X7_movePackets_4 {G : pm_G} {H : fm_H} {d : Nat} {z : Option Nat × Nat × Nat} {K : pm_R → fm_M → Prop} (hE : fm_E G H) {v0 : Nat} (h0 : fm_is H v0 7) : ∀ (n : Nat) (v1 : Int32) (v2 : Int32) (m : fm_M), fm_o fm_rV (f_X7_movePackets_4 H v0 n v1 v2 m) K → fm_V G H (d + 4) RX7 cX7_movePackets none z K 4 [some (.ref v0), some (.int v1), some (.int v2), none] [] m := by
  have T : fm_T RX7 cX7_movePackets tc_X7_movePackets fr_X7 mr_X7 cr_X7 lr_X7 := ⟨tok_X7, dc_X7_movePackets⟩
  intro n
  induction n with
  | zero =>
    intro v1 v2 m 
    exact fs_none
  | succ n ih =>
    intro v1 v2 m 
    unfold f_X7_movePackets_4
    refine fs_r T 2 6 [some (.ref v0), some (.int v1), some (.int v2), none] [.ref v0, .int v2] rfl ?_
    refine fs_gi T 9 7 6 v0 rfl rfl rfl rfl h0 ?_
    refine fs_ic_ge T 59 12 rfl rfl rfl (fun _ => ?_) (fun _ => ?_)
    · refine fs_r T 2 61 [some (.ref v0), some (.int v1), some (.int v2), none] [.int v1, .ref v0] rfl ?_
      refine fs_pi T 64 7 6 v0 rfl rfl rfl rfl h0 ?_
      intro m1
      exact fs_retv T rfl rfl rfl
    · refine fs_r T 1 13 [some (.ref v0), some (.int v1), some (.int v2), none] [.ref v0] rfl ?_
      refine fs_gs T 16 7 4 v0 rfl rfl rfl rfl h0 ?_
      refine fs_r T 1 17 [some (.ref v0), some (.int v1), some (.int v2), none] [.int v2, .ref (H.2.1 v0 4)] rfl ?_
      refine fs_aa T 18 (H.2.1 v0 4) 5 rfl rfl (hE.1 _ 7 4 h0) ?_
      intro e1
      refine fs_r T 3 21 [some (.ref v0), some (.int v1), some (.int v2), some (.ref (m.2.1 (H.2.1 v0 4) v2.toNatClampNeg))] [.ref (m.2.1 (H.2.1 v0 4) v2.toNatClampNeg), .ref (m.2.1 (H.2.1 v0 4) v2.toNatClampNeg)] rfl ?_
      refine fs_gi T 24 5 6 (m.2.1 (H.2.1 v0 4) v2.toNatClampNeg) rfl rfl rfl rfl e1 ?_
      refine fs_r T 2 26 [some (.ref v0), some (.int v1), some (.int v2), some (.ref (m.2.1 (H.2.1 v0 4) v2.toNatClampNeg))] [.int (m.1 (m.2.1 (H.2.1 v0 4) v2.toNatClampNeg) 6 - (1 : Int32)), .ref (m.2.1 (H.2.1 v0 4) v2.toNatClampNeg)] rfl ?_
      refine fs_pi T 29 5 6 (m.2.1 (H.2.1 v0 4) v2.toNatClampNeg) rfl rfl rfl rfl e1 ?_
      intro m2
      refine fs_r T 1 30 [some (.ref v0), some (.int v1), some (.int v2), some (.ref (m.2.1 (H.2.1 v0 4) v2.toNatClampNeg))] [.ref (m.2.1 (H.2.1 v0 4) v2.toNatClampNeg)] rfl ?_
      refine fs_gi T 33 5 6 (m.2.1 (H.2.1 v0 4) v2.toNatClampNeg) rfl rfl rfl rfl e1 ?_
      refine fs_if_gt T 44 36 rfl rfl rfl (fun _ => ?_) (fun _ => ?_)
      · refine fs_r T 3 47 [some (.ref v0), some (.int v1), some (.int v2), some (.ref (m.2.1 (H.2.1 v0 4) v2.toNatClampNeg))] [.int v1, .int v2, .ref v0] rfl ?_
        refine fs_vV T 50 rfl rfl rfl rfl rfl rfl h0 (q_X7_keepPacket (d := d + 3) hE h0) ?_
        intro x1 m3
        refine fs_r T 3 4 [some (.ref v0), some (.int (v1 + 1)), some (.int (v2 + 1)), some (.ref (m.2.1 (H.2.1 v0 4) v2.toNatClampNeg))] [] rfl ?_
        refine fs_wk (ls' := [some (.ref v0), some (.int (v1 + 1)), some (.int (v2 + 1)), none]) ⟨rfl, rfl, rfl, trivial⟩ ?_
        exact ih _ _ _
      · refine fs_r T 2 38 [some (.ref v0), some (.int v1), some (.int v2), some (.ref (m.2.1 (H.2.1 v0 4) v2.toNatClampNeg))] [.ref (m.2.1 (H.2.1 v0 4) v2.toNatClampNeg), .ref v0] rfl ?_
        refine fs_vI T 41 rfl rfl rfl rfl rfl rfl h0 (q_X7_goesOn (d := d) hE h0 e1) ?_
        intro x2 m4
        refine fs_if_eq T 53 44 rfl rfl rfl (fun _ => ?_) (fun _ => ?_)
        · refine fs_r T 2 4 [some (.ref v0), some (.int v1), some (.int (v2 + 1)), some (.ref (m.2.1 (H.2.1 v0 4) v2.toNatClampNeg))] [] rfl ?_
          refine fs_wk (ls' := [some (.ref v0), some (.int v1), some (.int (v2 + 1)), none]) ⟨rfl, rfl, rfl, trivial⟩ ?_
          exact ih _ _ _
        · refine fs_r T 3 47 [some (.ref v0), some (.int v1), some (.int v2), some (.ref (m.2.1 (H.2.1 v0 4) v2.toNatClampNeg))] [.int v1, .int v2, .ref v0] rfl ?_
          refine fs_vV T 50 rfl rfl rfl rfl rfl rfl h0 (q_X7_keepPacket (d := d + 3) hE h0) ?_
          intro x3 m5
          refine fs_r T 3 4 [some (.ref v0), some (.int (v1 + 1)), some (.int (v2 + 1)), some (.ref (m.2.1 (H.2.1 v0 4) v2.toNatClampNeg))] [] rfl ?_
          refine fs_wk (ls' := [some (.ref v0), some (.int (v1 + 1)), some (.int (v2 + 1)), none]) ⟨rfl, rfl, rfl, trivial⟩ ?_
          exact ih _ _ _
def f_X7_movePackets (H : fm_H) (v0 : Nat) (m : fm_M) : Option (Unit × fm_M) :=
  f_X7_movePackets_4 H v0 fm_N (0 : Int32) (0 : Int32) m
set_option maxRecDepth 10000 in
theorem q_X7_movePackets {G : pm_G} {H : fm_H} {d : Nat} {z : Option Nat × Nat × Nat} {v0 : Nat} {m : fm_M} (hE : fm_E G H) (h0 : fm_is H v0 7) : fm_cal G H (d + 5) yX7_movePackets [.ref v0] z m fm_rV (f_X7_movePackets H v0 m) := fm_mth (d := d + 4) mt_X7_movePackets rfl rfl rfl (fun K => by
  show fm_o fm_rV (f_X7_movePackets H v0 m) K → fm_V G H (d + 4) RX7 cX7_movePackets none z K 0 [some (.ref v0), none, none, none] [] m
  have T : fm_T RX7 cX7_movePackets tc_X7_movePackets fr_X7 mr_X7 cr_X7 lr_X7 := ⟨tok_X7, dc_X7_movePackets⟩
  unfold f_X7_movePackets
  refine fs_r T 4 4 [some (.ref v0), some (.int (0 : Int32)), some (.int (0 : Int32)), none] [] rfl ?_
  exact w_X7_movePackets_4 hE h0 _ _ _ _)
def f_X7_sendPacket (H : fm_H) (v0 : Nat) (v1 : Nat) (v2 : Int32) (m : fm_M) : Option (Unit × fm_M) :=
  if px_inb (m.1 v0 6) (fm_sz H (H.2.1 v0 4)) = true then
    (if fm_isb H (m.2.1 (H.2.1 v0 4) (m.1 v0 6).toNatClampNeg) 5 = true then
      fm_bd (fm_si m (m.2.1 (H.2.1 v0 4) (m.1 v0 6).toNatClampNeg) 0 v2) fun m1 =>
      fm_bd (fm_si m1 (m.2.1 (H.2.1 v0 4) (m.1 v0 6).toNatClampNeg) 1 (m1.1 v1 4)) fun m2 =>
      fm_bd (fm_si m2 (m.2.1 (H.2.1 v0 4) (m.1 v0 6).toNatClampNeg) 2 (m2.1 v0 9 + (1 : Int32))) fun m3 =>
      fm_bn (f_X0_activeWay H v1 m3) fun x1 m4 => if fm_isb H x1 10 = true then
        fm_bn (f_X5_putOnLinkTo H (m.2.1 (H.2.1 v0 4) (m.1 v0 6).toNatClampNeg) x1 (1 : Int32) (H.2.1 v0 0) m4) fun _ m5 =>
        fm_bd (fm_si m5 v1 3 (m5.1 v1 3 - (1 : Int32))) fun m6 =>
        fm_bd (fm_si m6 v1 4 (m6.1 v1 4 + (1 : Int32))) fun m7 =>
        fm_bd (fm_si m7 (H.2.1 v0 2) 0 (m7.1 (H.2.1 v0 2) 0 + (1 : Int32))) fun m8 =>
        fm_bn (f_X7_isOnUpLink H v0 (m.2.1 (H.2.1 v0 4) (m.1 v0 6).toNatClampNeg) m8) fun x3 m9 =>
        if x3 = 0 then
          some ((), m9)
        else
        fm_bd (fm_si m9 v0 6 (m9.1 v0 6 + (1 : Int32))) fun m10 =>
        some ((), m10)
      else none
    else none)
  else none
set_option maxRecDepth 10000 in
theorem q_X7_sendPacket {G : pm_G} {H : fm_H} {d : Nat} {z : Option Nat × Nat × Nat} {v0 : Nat} {v1 : Nat} {v2 : Int32} {m : fm_M} (hE : fm_E G H) (h0 : fm_is H v0 7) (h1 : fm_is H v1 0) : fm_cal G H (d + 4) yX7_sendPacket [.ref v0, .ref v1, .int v2] z m fm_rV (f_X7_sendPacket H v0 v1 v2 m) := fm_mth (d := d + 3) mt_X7_sendPacket rfl rfl rfl (fun K => by
  show fm_o fm_rV (f_X7_sendPacket H v0 v1 v2 m) K → fm_V G H (d + 3) RX7 cX7_sendPacket none z K 0 [some (.ref v0), some (.ref v1), some (.int v2), none] [] m
  have T : fm_T RX7 cX7_sendPacket tc_X7_sendPacket fr_X7 mr_X7 cr_X7 lr_X7 := ⟨tok_X7, dc_X7_sendPacket⟩
  unfold f_X7_sendPacket
  refine fs_r T 1 1 [some (.ref v0), some (.ref v1), some (.int v2), none] [.ref v0] rfl ?_
  refine fs_gs T 4 7 4 v0 rfl rfl rfl rfl h0 ?_
  refine fs_r T 1 5 [some (.ref v0), some (.ref v1), some (.int v2), none] [.ref v0, .ref (H.2.1 v0 4)] rfl ?_
  refine fs_gi T 8 7 6 v0 rfl rfl rfl rfl h0 ?_
  refine fs_aa T 9 (H.2.1 v0 4) 5 rfl rfl (hE.1 _ 7 4 h0) ?_
  intro e1
  refine fs_r T 3 12 [some (.ref v0), some (.ref v1), some (.int v2), some (.ref (m.2.1 (H.2.1 v0 4) (m.1 v0 6).toNatClampNeg))] [.int v2, .ref (m.2.1 (H.2.1 v0 4) (m.1 v0 6).toNatClampNeg)] rfl ?_
  refine fs_pi T 15 5 0 (m.2.1 (H.2.1 v0 4) (m.1 v0 6).toNatClampNeg) rfl rfl rfl rfl e1 ?_
  intro m1
  refine fs_r T 2 17 [some (.ref v0), some (.ref v1), some (.int v2), some (.ref (m.2.1 (H.2.1 v0 4) (m.1 v0 6).toNatClampNeg))] [.ref v1, .ref (m.2.1 (H.2.1 v0 4) (m.1 v0 6).toNatClampNeg)] rfl ?_
  refine fs_gi T 20 0 4 v1 rfl rfl rfl rfl h1 ?_
  refine fs_pi T 23 5 1 (m.2.1 (H.2.1 v0 4) (m.1 v0 6).toNatClampNeg) rfl rfl rfl rfl e1 ?_
  intro m2
  refine fs_r T 2 25 [some (.ref v0), some (.ref v1), some (.int v2), some (.ref (m.2.1 (H.2.1 v0 4) (m.1 v0 6).toNatClampNeg))] [.ref v0, .ref (m.2.1 (H.2.1 v0 4) (m.1 v0 6).toNatClampNeg)] rfl ?_
  refine fs_gi T 28 7 9 v0 rfl rfl rfl rfl h0 ?_
  refine fs_r T 2 30 [some (.ref v0), some (.ref v1), some (.int v2), some (.ref (m.2.1 (H.2.1 v0 4) (m.1 v0 6).toNatClampNeg))] [.int (m2.1 v0 9 + (1 : Int32)), .ref (m.2.1 (H.2.1 v0 4) (m.1 v0 6).toNatClampNeg)] rfl ?_
  refine fs_pi T 33 5 2 (m.2.1 (H.2.1 v0 4) (m.1 v0 6).toNatClampNeg) rfl rfl rfl rfl e1 ?_
  intro m3
  refine fs_r T 2 35 [some (.ref v0), some (.ref v1), some (.int v2), some (.ref (m.2.1 (H.2.1 v0 4) (m.1 v0 6).toNatClampNeg))] [.ref v1, .ref (m.2.1 (H.2.1 v0 4) (m.1 v0 6).toNatClampNeg)] rfl ?_
  refine fs_vA T 38 rfl rfl rfl rfl rfl rfl h1 (q_X0_activeWay (d := d + 2) hE h1) 10 ?_
  intro x1 m4 e2
  refine fs_r T 2 40 [some (.ref v0), some (.ref v1), some (.int v2), some (.ref (m.2.1 (H.2.1 v0 4) (m.1 v0 6).toNatClampNeg))] [.ref v0, .int (1 : Int32), .ref x1, .ref (m.2.1 (H.2.1 v0 4) (m.1 v0 6).toNatClampNeg)] rfl ?_
  refine fs_gs T 43 7 0 v0 rfl rfl rfl rfl h0 ?_
  refine fs_vV T 46 rfl rfl rfl rfl rfl rfl e1 (q_X5_putOnLinkTo (d := d) hE e1 e2 (hE.1 _ 7 0 h0)) ?_
  intro x2 m5
  refine fs_r T 2 48 [some (.ref v0), some (.ref v1), some (.int v2), some (.ref (m.2.1 (H.2.1 v0 4) (m.1 v0 6).toNatClampNeg))] [.ref v1, .ref v1] rfl ?_
  refine fs_gi T 51 0 3 v1 rfl rfl rfl rfl h1 ?_
  refine fs_r T 2 53 [some (.ref v0), some (.ref v1), some (.int v2), some (.ref (m.2.1 (H.2.1 v0 4) (m.1 v0 6).toNatClampNeg))] [.int (m5.1 v1 3 - (1 : Int32)), .ref v1] rfl ?_
  refine fs_pi T 56 0 3 v1 rfl rfl rfl rfl h1 ?_
  intro m6
  refine fs_r T 2 58 [some (.ref v0), some (.ref v1), some (.int v2), some (.ref (m.2.1 (H.2.1 v0 4) (m.1 v0 6).toNatClampNeg))] [.ref v1, .ref v1] rfl ?_
  refine fs_gi T 61 0 4 v1 rfl rfl rfl rfl h1 ?_
  refine fs_r T 2 63 [some (.ref v0), some (.ref v1), some (.int v2), some (.ref (m.2.1 (H.2.1 v0 4) (m.1 v0 6).toNatClampNeg))] [.int (m6.1 v1 4 + (1 : Int32)), .ref v1] rfl ?_
  refine fs_pi T 66 0 4 v1 rfl rfl rfl rfl h1 ?_
  intro m7
  refine fs_r T 1 67 [some (.ref v0), some (.ref v1), some (.int v2), some (.ref (m.2.1 (H.2.1 v0 4) (m.1 v0 6).toNatClampNeg))] [.ref v0] rfl ?_
  refine fs_gs T 70 7 2 v0 rfl rfl rfl rfl h0 ?_
  refine fs_r T 1 71 [some (.ref v0), some (.ref v1), some (.int v2), some (.ref (m.2.1 (H.2.1 v0 4) (m.1 v0 6).toNatClampNeg))] [.ref (H.2.1 v0 2), .ref (H.2.1 v0 2)] rfl ?_
  refine fs_gi T 74 9 0 (H.2.1 v0 2) rfl rfl rfl rfl (hE.1 _ 7 2 h0) ?_
  refine fs_r T 2 76 [some (.ref v0), some (.ref v1), some (.int v2), some (.ref (m.2.1 (H.2.1 v0 4) (m.1 v0 6).toNatClampNeg))] [.int (m7.1 (H.2.1 v0 2) 0 + (1 : Int32)), .ref (H.2.1 v0 2)] rfl ?_
  refine fs_pi T 79 9 0 (H.2.1 v0 2) rfl rfl rfl rfl (hE.1 _ 7 2 h0) ?_
  intro m8
  refine fs_r T 2 81 [some (.ref v0), some (.ref v1), some (.int v2), some (.ref (m.2.1 (H.2.1 v0 4) (m.1 v0 6).toNatClampNeg))] [.ref (m.2.1 (H.2.1 v0 4) (m.1 v0 6).toNatClampNeg), .ref v0] rfl ?_
  refine fs_vI T 84 rfl rfl rfl rfl rfl rfl h0 (q_X7_isOnUpLink (d := d) hE h0 e1) ?_
  intro x3 m9
  refine fs_if_eq T 97 87 rfl rfl rfl (fun _ => ?_) (fun _ => ?_)
  · exact fs_retv T rfl rfl rfl
  · refine fs_r T 2 89 [some (.ref v0), some (.ref v1), some (.int v2), some (.ref (m.2.1 (H.2.1 v0 4) (m.1 v0 6).toNatClampNeg))] [.ref v0, .ref v0] rfl ?_
    refine fs_gi T 92 7 6 v0 rfl rfl rfl rfl h0 ?_
    refine fs_r T 2 94 [some (.ref v0), some (.ref v1), some (.int v2), some (.ref (m.2.1 (H.2.1 v0 4) (m.1 v0 6).toNatClampNeg))] [.int (m9.1 v0 6 + (1 : Int32)), .ref v0] rfl ?_
    refine fs_pi T 97 7 6 v0 rfl rfl rfl rfl h0 ?_
    intro m10
    exact fs_retv T rfl rfl rfl)
def f_X7_sendFrom_34 (H : fm_H) (v0 : Nat) (v1 : Int32) (v2 : Nat) (m : fm_M) : Option (Unit × fm_M) :=
  if m.1 v2 8 ≤ 0 then
    if m.1 v2 3 ≤ 0 then
      some ((), m)
    else
    if (60 : Int32) ≤ m.1 v0 6 then
      some ((), m)
    else
    fm_bn (f_X7_sendPacket H v0 v2 v1 m) fun _ m1 =>
    some ((), m1)
  else
  fm_bd (fm_si m v2 8 (m.1 v2 8 - (1 : Int32))) fun m2 =>
  some ((), m2)
set_option maxRecDepth 10000 in
theorem w_X7_sendFrom_34 {G : pm_G} {H : fm_H} {d : Nat} {z : Option Nat × Nat × Nat} {K : pm_R → fm_M → Prop} (hE : fm_E G H) {v0 : Nat} {v1 : Int32} {v2 : Nat} (h0 : fm_is H v0 7) (h2 : fm_is H v2 0) : ∀ (m : fm_M), fm_o fm_rV (f_X7_sendFrom_34 H v0 v1 v2 m) K → fm_V G H (d + 4) RX7 cX7_sendFrom none z K 34 [some (.ref v0), some (.int v1), some (.ref v2)] [] m := by
  have T : fm_T RX7 cX7_sendFrom tc_X7_sendFrom fr_X7 mr_X7 cr_X7 lr_X7 := ⟨tok_X7, dc_X7_sendFrom⟩
  intro m
  unfold f_X7_sendFrom_34
  refine fs_r T 1 35 [some (.ref v0), some (.int v1), some (.ref v2)] [.ref v2] rfl ?_
  refine fs_gi T 38 0 8 v2 rfl rfl rfl rfl h2 ?_
  refine fs_if_le T 54 41 rfl rfl rfl (fun _ => ?_) (fun _ => ?_)
  · refine fs_r T 1 55 [some (.ref v0), some (.int v1), some (.ref v2)] [.ref v2] rfl ?_
    refine fs_gi T 58 0 3 v2 rfl rfl rfl rfl h2 ?_
    refine fs_if_le T 76 61 rfl rfl rfl (fun _ => ?_) (fun _ => ?_)
    · exact fs_retv T rfl rfl rfl
    · refine fs_r T 1 62 [some (.ref v0), some (.int v1), some (.ref v2)] [.ref v0] rfl ?_
      refine fs_gi T 65 7 6 v0 rfl rfl rfl rfl h0 ?_
      refine fs_r T 1 67 [some (.ref v0), some (.int v1), some (.ref v2)] [.int (60 : Int32), .int (m.1 v0 6)] rfl ?_
      refine fs_ic_ge T 76 70 rfl rfl rfl (fun _ => ?_) (fun _ => ?_)
      · exact fs_retv T rfl rfl rfl
      · refine fs_r T 3 73 [some (.ref v0), some (.int v1), some (.ref v2)] [.int v1, .ref v2, .ref v0] rfl ?_
        refine fs_vV T 76 rfl rfl rfl rfl rfl rfl h0 (q_X7_sendPacket (d := d) hE h0 h2) ?_
        intro x1 m1
        exact fs_retv T rfl rfl rfl
  · refine fs_r T 2 43 [some (.ref v0), some (.int v1), some (.ref v2)] [.ref v2, .ref v2] rfl ?_
    refine fs_gi T 46 0 8 v2 rfl rfl rfl rfl h2 ?_
    refine fs_r T 2 48 [some (.ref v0), some (.int v1), some (.ref v2)] [.int (m.1 v2 8 - (1 : Int32)), .ref v2] rfl ?_
    refine fs_pi T 51 0 8 v2 rfl rfl rfl rfl h2 ?_
    intro m2
    refine fs_r T 1 76 [some (.ref v0), some (.int v1), some (.ref v2)] [] rfl ?_
    exact fs_retv T rfl rfl rfl
def f_X7_sendFrom (H : fm_H) (v0 : Nat) (v1 : Int32) (m : fm_M) : Option (Unit × fm_M) :=
  if px_inb v1 (fm_sz H (H.2.1 v0 3)) = true then
    (if fm_isb H (m.2.1 (H.2.1 v0 3) v1.toNatClampNeg) 0 = true then
      if m.1 (m.2.1 (H.2.1 v0 3) v1.toNatClampNeg) 1 ≤ 0 then
        f_X7_sendFrom_34 H v0 v1 (m.2.1 (H.2.1 v0 3) v1.toNatClampNeg) m
      else
      if m.1 (m.2.1 (H.2.1 v0 3) v1.toNatClampNeg) 1 = 0 then none else
      if ((m.1 v0 9 + (1 : Int32)) - (m.1 v0 9 + (1 : Int32)) / m.1 (m.2.1 (H.2.1 v0 3) v1.toNatClampNeg) 1 * m.1 (m.2.1 (H.2.1 v0 3) v1.toNatClampNeg) 1) = 0 then
        fm_bn (f_X7_addToBacklog H v0 (m.2.1 (H.2.1 v0 3) v1.toNatClampNeg) (1 : Int32) m) fun _ m1 =>
        f_X7_sendFrom_34 H v0 v1 (m.2.1 (H.2.1 v0 3) v1.toNatClampNeg) m1
      else
      f_X7_sendFrom_34 H v0 v1 (m.2.1 (H.2.1 v0 3) v1.toNatClampNeg) m
    else none)
  else none
set_option maxRecDepth 10000 in
theorem q_X7_sendFrom {G : pm_G} {H : fm_H} {d : Nat} {z : Option Nat × Nat × Nat} {v0 : Nat} {v1 : Int32} {m : fm_M} (hE : fm_E G H) (h0 : fm_is H v0 7) : fm_cal G H (d + 5) yX7_sendFrom [.ref v0, .int v1] z m fm_rV (f_X7_sendFrom H v0 v1 m) := fm_mth (d := d + 4) mt_X7_sendFrom rfl rfl rfl (fun K => by
  show fm_o fm_rV (f_X7_sendFrom H v0 v1 m) K → fm_V G H (d + 4) RX7 cX7_sendFrom none z K 0 [some (.ref v0), some (.int v1), none] [] m
  have T : fm_T RX7 cX7_sendFrom tc_X7_sendFrom fr_X7 mr_X7 cr_X7 lr_X7 := ⟨tok_X7, dc_X7_sendFrom⟩
  unfold f_X7_sendFrom
  refine fs_r T 1 1 [some (.ref v0), some (.int v1), none] [.ref v0] rfl ?_
  refine fs_gs T 4 7 3 v0 rfl rfl rfl rfl h0 ?_
  refine fs_r T 1 5 [some (.ref v0), some (.int v1), none] [.int v1, .ref (H.2.1 v0 3)] rfl ?_
  refine fs_aa T 6 (H.2.1 v0 3) 0 rfl rfl (hE.1 _ 7 3 h0) ?_
  intro e1
  refine fs_r T 2 8 [some (.ref v0), some (.int v1), some (.ref (m.2.1 (H.2.1 v0 3) v1.toNatClampNeg))] [.ref (m.2.1 (H.2.1 v0 3) v1.toNatClampNeg)] rfl ?_
  refine fs_gi T 11 0 1 (m.2.1 (H.2.1 v0 3) v1.toNatClampNeg) rfl rfl rfl rfl e1 ?_
  refine fs_if_le T 34 14 rfl rfl rfl (fun _ => ?_) (fun _ => ?_)
  · exact w_X7_sendFrom_34 hE h0 e1 _
  · refine fs_r T 1 15 [some (.ref v0), some (.int v1), some (.ref (m.2.1 (H.2.1 v0 3) v1.toNatClampNeg))] [.ref v0] rfl ?_
    refine fs_gi T 18 7 9 v0 rfl rfl rfl rfl h0 ?_
    refine fs_r T 3 21 [some (.ref v0), some (.int v1), some (.ref (m.2.1 (H.2.1 v0 3) v1.toNatClampNeg))] [.ref (m.2.1 (H.2.1 v0 3) v1.toNatClampNeg), .int (m.1 v0 9 + (1 : Int32))] rfl ?_
    refine fs_gi T 24 0 1 (m.2.1 (H.2.1 v0 3) v1.toNatClampNeg) rfl rfl rfl rfl e1 ?_
    refine fs_rem T 25 rfl rfl ?_
    refine fs_if_ne T 34 28 rfl rfl rfl (fun _ => ?_) (fun _ => ?_)
    · refine fs_r T 3 31 [some (.ref v0), some (.int v1), some (.ref (m.2.1 (H.2.1 v0 3) v1.toNatClampNeg))] [.int (1 : Int32), .ref (m.2.1 (H.2.1 v0 3) v1.toNatClampNeg), .ref v0] rfl ?_
      refine fs_vV T 34 rfl rfl rfl rfl rfl rfl h0 (q_X7_addToBacklog (d := d + 3) hE h0 e1) ?_
      intro x1 m1
      exact w_X7_sendFrom_34 hE h0 e1 _
    · exact w_X7_sendFrom_34 hE h0 e1 _)
def f_X7_tick_32 (H : fm_H) (v0 : Nat) : Nat → Int32 → fm_M → Option (Unit × fm_M)
  | 0, _, _ => none
  | n + 1, v1, m =>
    if m.1 v0 5 ≤ v1 then
      fm_bd (fm_si m v0 9 (m.1 v0 9 + (1 : Int32))) fun m1 =>
      some ((), m1)
    else
    fm_bn (f_X7_sendFrom H v0 v1 m) fun _ m2 =>
    f_X7_tick_32 H v0 n (v1 + 1) m2
set_option maxRecDepth 10000 in
theorem w_X7_tick_32 {G : pm_G} {H : fm_H} {d : Nat} {z : Option Nat × Nat × Nat} {K : pm_R → fm_M → Prop} (hE : fm_E G H) {v0 : Nat} (h0 : fm_is H v0 7) : ∀ (n : Nat) (v1 : Int32) (m : fm_M), fm_o fm_rV (f_X7_tick_32 H v0 n v1 m) K → fm_V G H (d + 5) RX7 cX7_tick none z K 32 [some (.ref v0), some (.int v1)] [] m := by
  have T : fm_T RX7 cX7_tick tc_X7_tick fr_X7 mr_X7 cr_X7 lr_X7 := ⟨tok_X7, dc_X7_tick⟩
  intro n
  induction n with
  | zero =>
    intro v1 m 
    exact fs_none
  | succ n ih =>
    intro v1 m 
    unfold f_X7_tick_32
    refine fs_r T 2 34 [some (.ref v0), some (.int v1)] [.ref v0, .int v1] rfl ?_
    refine fs_gi T 37 7 5 v0 rfl rfl rfl rfl h0 ?_
    refine fs_ic_ge T 51 40 rfl rfl rfl (fun _ => ?_) (fun _ => ?_)
    · refine fs_r T 2 53 [some (.ref v0), some (.int v1)] [.ref v0, .ref v0] rfl ?_
      refine fs_gi T 56 7 9 v0 rfl rfl rfl rfl h0 ?_
      refine fs_r T 2 58 [some (.ref v0), some (.int v1)] [.int (m.1 v0 9 + (1 : Int32)), .ref v0] rfl ?_
      refine fs_pi T 61 7 9 v0 rfl rfl rfl rfl h0 ?_
      intro m1
      exact fs_retv T rfl rfl rfl
    · refine fs_r T 2 42 [some (.ref v0), some (.int v1)] [.int v1, .ref v0] rfl ?_
      refine fs_vV T 45 rfl rfl rfl rfl rfl rfl h0 (q_X7_sendFrom (d := d) hE h0) ?_
      intro x1 m2
      refine fs_r T 2 32 [some (.ref v0), some (.int (v1 + 1))] [] rfl ?_
      exact ih _ _
def f_X7_tick_6 (H : fm_H) (v0 : Nat) : Nat → Int32 → fm_M → Option (Unit × fm_M)
  | 0, _, _ => none
  | n + 1, v1, m =>
    if m.1 v0 5 ≤ v1 then
      f_X7_tick_32 H v0 fm_N (0 : Int32) m
    else
    if px_inb v1 (fm_sz H (H.2.1 v0 3)) = true then
      (if fm_isb H (m.2.1 (H.2.1 v0 3) v1.toNatClampNeg) 0 = true then
        fm_bn (f_X7_moveCircuit H v0 (m.2.1 (H.2.1 v0 3) v1.toNatClampNeg) m) fun _ m1 =>
        f_X7_tick_6 H v0 n (v1 + 1) m1
      else none)
    else none
set_option maxRecDepth 10000 in
theorem w_X7_tick_6 {G : pm_G} {H : fm_H} {d : Nat} {z : Option Nat × Nat × Nat} {K : pm_R → fm_M → Prop} (hE : fm_E G H) {v0 : Nat} (h0 : fm_is H v0 7) : ∀ (n : Nat) (v1 : Int32) (m : fm_M), fm_o fm_rV (f_X7_tick_6 H v0 n v1 m) K → fm_V G H (d + 5) RX7 cX7_tick none z K 6 [some (.ref v0), some (.int v1)] [] m := by
  have T : fm_T RX7 cX7_tick tc_X7_tick fr_X7 mr_X7 cr_X7 lr_X7 := ⟨tok_X7, dc_X7_tick⟩
  intro n
  induction n with
  | zero =>
    intro v1 m 
    exact fs_none
  | succ n ih =>
    intro v1 m 
    unfold f_X7_tick_6
    refine fs_r T 2 8 [some (.ref v0), some (.int v1)] [.ref v0, .int v1] rfl ?_
    refine fs_gi T 11 7 5 v0 rfl rfl rfl rfl h0 ?_
    refine fs_ic_ge T 30 14 rfl rfl rfl (fun _ => ?_) (fun _ => ?_)
    · refine fs_r T 2 32 [some (.ref v0), some (.int (0 : Int32))] [] rfl ?_
      exact w_X7_tick_32 hE h0 _ _ _
    · refine fs_r T 2 16 [some (.ref v0), some (.int v1)] [.ref v0, .ref v0] rfl ?_
      refine fs_gs T 19 7 3 v0 rfl rfl rfl rfl h0 ?_
      refine fs_r T 1 20 [some (.ref v0), some (.int v1)] [.int v1, .ref (H.2.1 v0 3), .ref v0] rfl ?_
      refine fs_aa T 21 (H.2.1 v0 3) 0 rfl rfl (hE.1 _ 7 3 h0) ?_
      intro e1
      refine fs_vV T 24 rfl rfl rfl rfl rfl rfl h0 (q_X7_moveCircuit (d := d) hE h0 e1) ?_
      intro x1 m1
      refine fs_r T 2 6 [some (.ref v0), some (.int (v1 + 1))] [] rfl ?_
      exact ih _ _
def f_X7_tick (H : fm_H) (v0 : Nat) (m : fm_M) : Option (Unit × fm_M) :=
  fm_bn (f_X7_movePackets H v0 m) fun _ m1 =>
  f_X7_tick_6 H v0 fm_N (0 : Int32) m1
set_option maxRecDepth 10000 in
theorem q_X7_tick {G : pm_G} {H : fm_H} {d : Nat} {z : Option Nat × Nat × Nat} {v0 : Nat} {m : fm_M} (hE : fm_E G H) (h0 : fm_is H v0 7) : fm_cal G H (d + 6) yX7_tick [.ref v0] z m fm_rV (f_X7_tick H v0 m) := fm_mth (d := d + 5) mt_X7_tick rfl rfl rfl (fun K => by
  show fm_o fm_rV (f_X7_tick H v0 m) K → fm_V G H (d + 5) RX7 cX7_tick none z K 0 [some (.ref v0), none] [] m
  have T : fm_T RX7 cX7_tick tc_X7_tick fr_X7 mr_X7 cr_X7 lr_X7 := ⟨tok_X7, dc_X7_tick⟩
  unfold f_X7_tick
  refine fs_r T 1 1 [some (.ref v0), none] [.ref v0] rfl ?_
  refine fs_vV T 4 rfl rfl rfl rfl rfl rfl h0 (q_X7_movePackets (d := d) hE h0) ?_
  intro x1 m1
  refine fs_r T 2 6 [some (.ref v0), some (.int (0 : Int32))] [] rfl ?_
  exact w_X7_tick_6 hE h0 _ _ _)
def f_X8_appendFour_22 (H : fm_H) (v0 : Nat) (v1 : Int32) : Nat → Int32 → fm_M → Option (Int32 × fm_M)
  | 0, _, _ => none
  | n + 1, v2, m =>
    if v2 < 0 then
      some ((1 : Int32), m)
    else
    if px_inb (m.1 v0 1) (fm_sz H (H.2.1 v0 0)) = true then
      (fm_bd (fm_si m (H.2.1 v0 0) (m.1 v0 1).toNatClampNeg (fm_nw .byte (((v1.toUInt32 >>> (v2.toUInt32 &&& Int32.toUInt32 31)).toInt32).toInt8.toInt32))) fun m1 =>
      fm_bd (fm_si m1 v0 1 (m1.1 v0 1 + (1 : Int32))) fun m2 =>
      f_X8_appendFour_22 H v0 v1 n (v2 + (-8)) m2)
    else none
set_option maxRecDepth 10000 in
theorem w_X8_appendFour_22 {G : pm_G} {H : fm_H} {d : Nat} {z : Option Nat × Nat × Nat} {K : pm_R → fm_M → Prop} (hE : fm_E G H) {v0 : Nat} {v1 : Int32} (h0 : fm_is H v0 8) : ∀ (n : Nat) (v2 : Int32) (m : fm_M), fm_o fm_rI (f_X8_appendFour_22 H v0 v1 n v2 m) K → fm_V G H (d + 0) RX8 cX8_appendFour (some (.boolean)) z K 22 [some (.ref v0), some (.int v1), some (.int v2)] [] m := by
  have T : fm_T RX8 cX8_appendFour tc_X8_appendFour fr_X8 mr_X8 cr_X8 lr_X8 := ⟨tok_X8, dc_X8_appendFour⟩
  intro n
  induction n with
  | zero =>
    intro v2 m 
    exact fs_none
  | succ n ih =>
    intro v2 m 
    unfold f_X8_appendFour_22
    refine fs_r T 1 23 [some (.ref v0), some (.int v1), some (.int v2)] [.int v2] rfl ?_
    refine fs_if_lt T 55 26 rfl rfl rfl (fun _ => ?_) (fun _ => ?_)
    · refine fs_r T 1 56 [some (.ref v0), some (.int v1), some (.int v2)] [.int (1 : Int32)] rfl ?_
      exact fs_retc T rfl rfl rfl rfl
    · refine fs_r T 1 27 [some (.ref v0), some (.int v1), some (.int v2)] [.ref v0] rfl ?_
      refine fs_gs T 30 8 0 v0 rfl rfl rfl rfl h0 ?_
      refine fs_r T 1 31 [some (.ref v0), some (.int v1), some (.int v2)] [.ref v0, .ref (H.2.1 v0 0)] rfl ?_
      refine fs_gi T 34 8 1 v0 rfl rfl rfl rfl h0 ?_
      refine fs_r T 4 38 [some (.ref v0), some (.int v1), some (.int v2)] [.int (((v1.toUInt32 >>> (v2.toUInt32 &&& Int32.toUInt32 31)).toInt32).toInt8.toInt32), .int (m.1 v0 1), .ref (H.2.1 v0 0)] rfl ?_
      refine fs_sb T 39 (H.2.1 v0 0) rfl rfl (Or.inl rfl) (hE.1 _ 8 0 h0) ?_
      intro m1
      refine fs_r T 2 41 [some (.ref v0), some (.int v1), some (.int v2)] [.ref v0, .ref v0] rfl ?_
      refine fs_gi T 44 8 1 v0 rfl rfl rfl rfl h0 ?_
      refine fs_r T 2 46 [some (.ref v0), some (.int v1), some (.int v2)] [.int (m1.1 v0 1 + (1 : Int32)), .ref v0] rfl ?_
      refine fs_pi T 49 8 1 v0 rfl rfl rfl rfl h0 ?_
      intro m2
      refine fs_r T 2 22 [some (.ref v0), some (.int v1), some (.int (v2 + (-8)))] [] rfl ?_
      exact ih _ _
def f_X8_appendFour (H : fm_H) (v0 : Nat) (v1 : Int32) (m : fm_M) : Option (Int32 × fm_M) :=
  if m.1 v0 1 < 0 then
    some ((0 : Int32), m)
  else
  if m.1 v0 1 ≤ (796 : Int32) then
    f_X8_appendFour_22 H v0 v1 fm_N (24 : Int32) m
  else
  some ((0 : Int32), m)
set_option maxRecDepth 10000 in
theorem q_X8_appendFour {G : pm_G} {H : fm_H} {d : Nat} {z : Option Nat × Nat × Nat} {v0 : Nat} {v1 : Int32} {m : fm_M} (hE : fm_E G H) (h0 : fm_is H v0 8) : fm_cal G H (d + 1) yX8_appendFour [.ref v0, .int v1] z m fm_rI (f_X8_appendFour H v0 v1 m) := fm_mth (d := d + 0) mt_X8_appendFour rfl rfl rfl (fun K => by
  show fm_o fm_rI (f_X8_appendFour H v0 v1 m) K → fm_V G H (d + 0) RX8 cX8_appendFour (some (.boolean)) z K 0 [some (.ref v0), some (.int v1), none] [] m
  have T : fm_T RX8 cX8_appendFour tc_X8_appendFour fr_X8 mr_X8 cr_X8 lr_X8 := ⟨tok_X8, dc_X8_appendFour⟩
  unfold f_X8_appendFour
  refine fs_r T 1 1 [some (.ref v0), some (.int v1), none] [.ref v0] rfl ?_
  refine fs_gi T 4 8 1 v0 rfl rfl rfl rfl h0 ?_
  refine fs_if_lt T 17 7 rfl rfl rfl (fun _ => ?_) (fun _ => ?_)
  · refine fs_r T 1 18 [some (.ref v0), some (.int v1), none] [.int (0 : Int32)] rfl ?_
    exact fs_retc T rfl rfl rfl rfl
  · refine fs_r T 1 8 [some (.ref v0), some (.int v1), none] [.ref v0] rfl ?_
    refine fs_gi T 11 8 1 v0 rfl rfl rfl rfl h0 ?_
    refine fs_r T 1 14 [some (.ref v0), some (.int v1), none] [.int (796 : Int32), .int (m.1 v0 1)] rfl ?_
    refine fs_ic_le T 19 17 rfl rfl rfl (fun _ => ?_) (fun _ => ?_)
    · refine fs_r T 2 22 [some (.ref v0), some (.int v1), some (.int (24 : Int32))] [] rfl ?_
      exact w_X8_appendFour_22 hE h0 _ _ _
    · refine fs_r T 1 18 [some (.ref v0), some (.int v1), none] [.int (0 : Int32)] rfl ?_
      exact fs_retc T rfl rfl rfl rfl)
def f_X11_appendText (H : fm_H) (v0 : Nat) (v1 : Int32) (m : fm_M) : Option ((Int32 ⊕ String) × fm_M) :=
  fm_bn (f_X8_appendFour H (H.2.1 (H.2.1 v0 0) 0) v1 m) fun x1 m1 =>
  if x1 = 0 then
    some (.inr pm_xI, m1)
  else
  some (.inl (m1.1 (H.2.1 (H.2.1 v0 0) 0) 1), m1)
set_option maxRecDepth 10000 in
theorem q_X11_appendText {G : pm_G} {H : fm_H} {d : Nat} {z : Option Nat × Nat × Nat} {v0 : Nat} {v1 : Int32} {m : fm_M} (hE : fm_E G H) (h0 : fm_is H v0 11) : fm_cal G H (d + 2) yX11_appendText [.ref v0, .int v1] z m (fm_rX fm_rI) (f_X11_appendText H v0 v1 m) := fm_mth (d := d + 1) mt_X11_appendText rfl rfl rfl (fun K => by
  show fm_o (fm_rX fm_rI) (f_X11_appendText H v0 v1 m) K → fm_V G H (d + 1) RX11 cX11_appendText (some (.int)) z K 0 [some (.ref v0), some (.int v1)] [] m
  have T : fm_T RX11 cX11_appendText tc_X11_appendText fr_X11 mr_X11 cr_X11 lr_X11 := ⟨tok_X11, dc_X11_appendText⟩
  unfold f_X11_appendText
  refine fs_r T 1 1 [some (.ref v0), some (.int v1)] [.ref v0] rfl ?_
  refine fs_gs T 4 11 0 v0 rfl rfl rfl rfl h0 ?_
  refine fs_gs T 7 6 0 (H.2.1 v0 0) rfl rfl rfl rfl (hE.1 _ 11 0 h0) ?_
  refine fs_r T 1 8 [some (.ref v0), some (.int v1)] [.int v1, .ref (H.2.1 (H.2.1 v0 0) 0)] rfl ?_
  refine fs_vI T 11 rfl rfl rfl rfl rfl rfl (hE.1 _ 6 0 (hE.1 _ 11 0 h0)) (q_X8_appendFour (d := d) hE (hE.1 _ 6 0 (hE.1 _ 11 0 h0))) ?_
  intro x1 m1
  refine fs_if_ne T 24 14 rfl rfl rfl (fun _ => ?_) (fun _ => ?_)
  · exact fs_thr T rfl rfl rfl rfl rfl
  · refine fs_r T 1 25 [some (.ref v0), some (.int v1)] [.ref v0] rfl ?_
    refine fs_gs T 28 11 0 v0 rfl rfl rfl rfl h0 ?_
    refine fs_gs T 31 6 0 (H.2.1 v0 0) rfl rfl rfl rfl (hE.1 _ 11 0 h0) ?_
    refine fs_gi T 34 8 1 (H.2.1 (H.2.1 v0 0) 0) rfl rfl rfl rfl (hE.1 _ 6 0 (hE.1 _ 11 0 h0)) ?_
    exact fs_reti T rfl rfl rfl)
def f_X11_truncateText (H : fm_H) (v0 : Nat) (v1 : Int32) (m : fm_M) : Option ((Int32 ⊕ String) × fm_M) :=
  fm_bn (f_X11_isOutside H v1 (0 : Int32) (m.1 (H.2.1 (H.2.1 v0 0) 0) 1) m) fun x1 m1 =>
  if x1 = 0 then
    fm_bd (fm_si m1 (H.2.1 (H.2.1 v0 0) 0) 1 v1) fun m2 =>
    some (.inl v1, m2)
  else
  some (.inr pm_xA, m1)
set_option maxRecDepth 10000 in
theorem q_X11_truncateText {G : pm_G} {H : fm_H} {d : Nat} {z : Option Nat × Nat × Nat} {v0 : Nat} {v1 : Int32} {m : fm_M} (hE : fm_E G H) (h0 : fm_is H v0 11) : fm_cal G H (d + 2) yX11_truncateText [.ref v0, .int v1] z m (fm_rX fm_rI) (f_X11_truncateText H v0 v1 m) := fm_mth (d := d + 1) mt_X11_truncateText rfl rfl rfl (fun K => by
  show fm_o (fm_rX fm_rI) (f_X11_truncateText H v0 v1 m) K → fm_V G H (d + 1) RX11 cX11_truncateText (some (.int)) z K 0 [some (.ref v0), some (.int v1)] [] m
  have T : fm_T RX11 cX11_truncateText tc_X11_truncateText fr_X11 mr_X11 cr_X11 lr_X11 := ⟨tok_X11, dc_X11_truncateText⟩
  unfold f_X11_truncateText
  refine fs_r T 3 3 [some (.ref v0), some (.int v1)] [.ref v0, .int (0 : Int32), .int v1] rfl ?_
  refine fs_gs T 6 11 0 v0 rfl rfl rfl rfl h0 ?_
  refine fs_gs T 9 6 0 (H.2.1 v0 0) rfl rfl rfl rfl (hE.1 _ 11 0 h0) ?_
  refine fs_gi T 12 8 1 (H.2.1 (H.2.1 v0 0) 0) rfl rfl rfl rfl (hE.1 _ 6 0 (hE.1 _ 11 0 h0)) ?_
  refine fs_sI T 15 rfl rfl rfl rfl rfl rfl rfl (q_X11_isOutside (d := d) hE ) ?_
  intro x1 m1
  refine fs_if_eq T 28 18 rfl rfl rfl (fun _ => ?_) (fun _ => ?_)
  · refine fs_r T 1 29 [some (.ref v0), some (.int v1)] [.ref v0] rfl ?_
    refine fs_gs T 32 11 0 v0 rfl rfl rfl rfl h0 ?_
    refine fs_gs T 35 6 0 (H.2.1 v0 0) rfl rfl rfl rfl (hE.1 _ 11 0 h0) ?_
    refine fs_r T 1 36 [some (.ref v0), some (.int v1)] [.int v1, .ref (H.2.1 (H.2.1 v0 0) 0)] rfl ?_
    refine fs_pi T 39 8 1 (H.2.1 (H.2.1 v0 0) 0) rfl rfl rfl rfl (hE.1 _ 6 0 (hE.1 _ 11 0 h0)) ?_
    intro m2
    refine fs_r T 1 40 [some (.ref v0), some (.int v1)] [.int v1] rfl ?_
    exact fs_reti T rfl rfl rfl
  · exact fs_thr T rfl rfl rfl rfl rfl)
def f_X11_load (H : fm_H) (v0 : Nat) (m : fm_M) : Option (Int32 × fm_M) :=
  if fm_isb H (m.2.1 v0 6) 7 = true then
    fm_bn (f_X6_readSetup H (H.2.1 v0 0) (m.2.1 v0 6) m) fun x1 m1 =>
    fm_bd (fm_si m1 v0 7 (m1.1 (H.2.1 v0 0) 1)) fun m2 =>
    fm_bd (fm_si m2 v0 8 (m2.1 (H.2.1 v0 0) 2)) fun m3 =>
    fm_bd (fm_si m3 (H.2.1 (H.2.1 v0 0) 0) 1 (0 : Int32)) fun m4 =>
    if x1 = 0 then
      some ((-1 : Int32), m4)
    else
    if fm_isb H (m4.2.1 v0 5) 7 = true then
      if fm_isb H (m4.2.1 v0 6) 7 = true then
        fm_bd (fm_sr m4 v0 5 (m4.2.1 v0 6)) fun m5 =>
        fm_bd (fm_sr m5 v0 6 (m4.2.1 v0 5)) fun m6 =>
        fm_bn (f_X10_erase H (H.2.1 v0 2) m6) fun _ m7 =>
        if fm_isb H (m7.2.1 v0 5) 7 = true then
          some (m7.1 (m7.2.1 v0 5) 5, m7)
        else none
      else none
    else none
  else none
set_option maxRecDepth 10000 in
theorem q_X11_load {G : pm_G} {H : fm_H} {d : Nat} {z : Option Nat × Nat × Nat} {v0 : Nat} {m : fm_M} (hE : fm_E G H) (h0 : fm_is H v0 11) : fm_cal G H (d + 7) yX11_load [.ref v0] z m fm_rI (f_X11_load H v0 m) := fm_mth (d := d + 6) mt_X11_load rfl rfl rfl (fun K => by
  show fm_o fm_rI (f_X11_load H v0 m) K → fm_V G H (d + 6) RX11 cX11_load (some (.int)) z K 0 [some (.ref v0), none, none] [] m
  have T : fm_T RX11 cX11_load tc_X11_load fr_X11 mr_X11 cr_X11 lr_X11 := ⟨tok_X11, dc_X11_load⟩
  unfold f_X11_load
  refine fs_r T 1 1 [some (.ref v0), none, none] [.ref v0] rfl ?_
  refine fs_gs T 4 11 0 v0 rfl rfl rfl rfl h0 ?_
  refine fs_r T 1 5 [some (.ref v0), none, none] [.ref v0, .ref (H.2.1 v0 0)] rfl ?_
  refine fs_gp T 8 11 6 v0 7 rfl rfl rfl rfl h0 ?_
  intro e1
  refine fs_vI T 11 rfl rfl rfl rfl rfl rfl (hE.1 _ 11 0 h0) (q_X6_readSetup (d := d) hE (hE.1 _ 11 0 h0) e1) ?_
  intro x1 m1
  refine fs_r T 3 14 [some (.ref v0), some (.int x1), none] [.ref v0, .ref v0] rfl ?_
  refine fs_gs T 17 11 0 v0 rfl rfl rfl rfl h0 ?_
  refine fs_gi T 20 6 1 (H.2.1 v0 0) rfl rfl rfl rfl (hE.1 _ 11 0 h0) ?_
  refine fs_pi T 23 11 7 v0 rfl rfl rfl rfl h0 ?_
  intro m2
  refine fs_r T 2 25 [some (.ref v0), some (.int x1), none] [.ref v0, .ref v0] rfl ?_
  refine fs_gs T 28 11 0 v0 rfl rfl rfl rfl h0 ?_
  refine fs_gi T 31 6 2 (H.2.1 v0 0) rfl rfl rfl rfl (hE.1 _ 11 0 h0) ?_
  refine fs_pi T 34 11 8 v0 rfl rfl rfl rfl h0 ?_
  intro m3
  refine fs_r T 1 35 [some (.ref v0), some (.int x1), none] [.ref v0] rfl ?_
  refine fs_gs T 38 11 0 v0 rfl rfl rfl rfl h0 ?_
  refine fs_gs T 41 6 0 (H.2.1 v0 0) rfl rfl rfl rfl (hE.1 _ 11 0 h0) ?_
  refine fs_r T 1 42 [some (.ref v0), some (.int x1), none] [.int (0 : Int32), .ref (H.2.1 (H.2.1 v0 0) 0)] rfl ?_
  refine fs_pi T 45 8 1 (H.2.1 (H.2.1 v0 0) 0) rfl rfl rfl rfl (hE.1 _ 6 0 (hE.1 _ 11 0 h0)) ?_
  intro m4
  refine fs_r T 1 46 [some (.ref v0), some (.int x1), none] [.int x1] rfl ?_
  refine fs_if_ne T 51 49 rfl rfl rfl (fun _ => ?_) (fun _ => ?_)
  · refine fs_r T 1 50 [some (.ref v0), some (.int x1), none] [.int (-1 : Int32)] rfl ?_
    exact fs_reti T rfl rfl rfl
  · refine fs_r T 1 52 [some (.ref v0), some (.int x1), none] [.ref v0] rfl ?_
    refine fs_gp T 55 11 5 v0 7 rfl rfl rfl rfl h0 ?_
    intro e2
    refine fs_r T 3 58 [some (.ref v0), some (.int x1), some (.ref (m4.2.1 v0 5))] [.ref v0, .ref v0] rfl ?_
    refine fs_gp T 61 11 6 v0 7 rfl rfl rfl rfl h0 ?_
    intro e3
    refine fs_pr T 64 11 5 v0 rfl rfl rfl rfl h0 ?_
    intro m5
    refine fs_r T 2 66 [some (.ref v0), some (.int x1), some (.ref (m4.2.1 v0 5))] [.ref (m4.2.1 v0 5), .ref v0] rfl ?_
    refine fs_pr T 69 11 6 v0 rfl rfl rfl rfl h0 ?_
    intro m6
    refine fs_r T 1 70 [some (.ref v0), some (.int x1), some (.ref (m4.2.1 v0 5))] [.ref v0] rfl ?_
    refine fs_gs T 73 11 2 v0 rfl rfl rfl rfl h0 ?_
    refine fs_vV T 76 rfl rfl rfl rfl rfl rfl (hE.1 _ 11 2 h0) (q_X10_erase (d := d + 5) hE (hE.1 _ 11 2 h0)) ?_
    intro x2 m7
    refine fs_r T 1 77 [some (.ref v0), some (.int x1), some (.ref (m4.2.1 v0 5))] [.ref v0] rfl ?_
    refine fs_gp T 80 11 5 v0 7 rfl rfl rfl rfl h0 ?_
    intro e4
    refine fs_gi T 83 7 5 (m7.2.1 v0 5) rfl rfl rfl rfl e4 ?_
    exact fs_reti T rfl rfl rfl)
def f_X11_errorCode (H : fm_H) (v0 : Nat) (m : fm_M) : Option (Int32 × fm_M) :=
  some (m.1 v0 7, m)
set_option maxRecDepth 10000 in
theorem q_X11_errorCode {G : pm_G} {H : fm_H} {d : Nat} {z : Option Nat × Nat × Nat} {v0 : Nat} {m : fm_M} (hE : fm_E G H) (h0 : fm_is H v0 11) : fm_cal G H (d + 1) yX11_errorCode [.ref v0] z m fm_rI (f_X11_errorCode H v0 m) := fm_mth (d := d + 0) mt_X11_errorCode rfl rfl rfl (fun K => by
  show fm_o fm_rI (f_X11_errorCode H v0 m) K → fm_V G H (d + 0) RX11 cX11_errorCode (some (.int)) z K 0 [some (.ref v0)] [] m
  have T : fm_T RX11 cX11_errorCode tc_X11_errorCode fr_X11 mr_X11 cr_X11 lr_X11 := ⟨tok_X11, dc_X11_errorCode⟩
  unfold f_X11_errorCode
  refine fs_r T 1 1 [some (.ref v0)] [.ref v0] rfl ?_
  refine fs_gi T 4 11 7 v0 rfl rfl rfl rfl h0 ?_
  exact fs_reti T rfl rfl rfl)
def f_X11_errorPosition (H : fm_H) (v0 : Nat) (m : fm_M) : Option (Int32 × fm_M) :=
  some (m.1 v0 8, m)
set_option maxRecDepth 10000 in
theorem q_X11_errorPosition {G : pm_G} {H : fm_H} {d : Nat} {z : Option Nat × Nat × Nat} {v0 : Nat} {m : fm_M} (hE : fm_E G H) (h0 : fm_is H v0 11) : fm_cal G H (d + 1) yX11_errorPosition [.ref v0] z m fm_rI (f_X11_errorPosition H v0 m) := fm_mth (d := d + 0) mt_X11_errorPosition rfl rfl rfl (fun K => by
  show fm_o fm_rI (f_X11_errorPosition H v0 m) K → fm_V G H (d + 0) RX11 cX11_errorPosition (some (.int)) z K 0 [some (.ref v0)] [] m
  have T : fm_T RX11 cX11_errorPosition tc_X11_errorPosition fr_X11 mr_X11 cr_X11 lr_X11 := ⟨tok_X11, dc_X11_errorPosition⟩
  unfold f_X11_errorPosition
  refine fs_r T 1 1 [some (.ref v0)] [.ref v0] rfl ?_
  refine fs_gi T 4 11 8 v0 rfl rfl rfl rfl h0 ?_
  exact fs_reti T rfl rfl rfl)
def f_X11_addNode (H : fm_H) (v0 : Nat) (v1 : Int32) (m : fm_M) : Option ((Int32 ⊕ String) × fm_M) :=
  fm_bn (f_X11_isOutside H v1 (1 : Int32) (12 : Int32) m) fun x1 m1 =>
  if x1 = 0 then
    if fm_isb H (m1.2.1 v0 5) 7 = true then
      if m1.1 (H.2.1 (m1.2.1 v0 5) 0) 0 < (10 : Int32) then
        if fm_isb H (m1.2.1 v0 5) 7 = true then
          fm_bn (f_X7_appendNode H (m1.2.1 v0 5) v1 m1) fun x2 m2 =>
          some (.inl x2, m2)
        else none
      else
      some (.inr pm_xI, m1)
    else none
  else
  some (.inr pm_xA, m1)
set_option maxRecDepth 10000 in
theorem q_X11_addNode {G : pm_G} {H : fm_H} {d : Nat} {z : Option Nat × Nat × Nat} {v0 : Nat} {v1 : Int32} {m : fm_M} (hE : fm_E G H) (h0 : fm_is H v0 11) : fm_cal G H (d + 3) yX11_addNode [.ref v0, .int v1] z m (fm_rX fm_rI) (f_X11_addNode H v0 v1 m) := fm_mth (d := d + 2) mt_X11_addNode rfl rfl rfl (fun K => by
  show fm_o (fm_rX fm_rI) (f_X11_addNode H v0 v1 m) K → fm_V G H (d + 2) RX11 cX11_addNode (some (.int)) z K 0 [some (.ref v0), some (.int v1)] [] m
  have T : fm_T RX11 cX11_addNode tc_X11_addNode fr_X11 mr_X11 cr_X11 lr_X11 := ⟨tok_X11, dc_X11_addNode⟩
  unfold f_X11_addNode
  refine fs_r T 3 4 [some (.ref v0), some (.int v1)] [.int (12 : Int32), .int (1 : Int32), .int v1] rfl ?_
  refine fs_sI T 7 rfl rfl rfl rfl rfl rfl rfl (q_X11_isOutside (d := d + 1) hE ) ?_
  intro x1 m1
  refine fs_if_eq T 20 10 rfl rfl rfl (fun _ => ?_) (fun _ => ?_)
  · refine fs_r T 1 21 [some (.ref v0), some (.int v1)] [.ref v0] rfl ?_
    refine fs_gp T 24 11 5 v0 7 rfl rfl rfl rfl h0 ?_
    intro e1
    refine fs_gs T 27 7 0 (m1.2.1 v0 5) rfl rfl rfl rfl e1 ?_
    refine fs_gi T 30 4 0 (H.2.1 (m1.2.1 v0 5) 0) rfl rfl rfl rfl (hE.1 _ 7 0 e1) ?_
    refine fs_r T 1 32 [some (.ref v0), some (.int v1)] [.int (10 : Int32), .int (m1.1 (H.2.1 (m1.2.1 v0 5) 0) 0)] rfl ?_
    refine fs_ic_lt T 45 35 rfl rfl rfl (fun _ => ?_) (fun _ => ?_)
    · refine fs_r T 1 46 [some (.ref v0), some (.int v1)] [.ref v0] rfl ?_
      refine fs_gp T 49 11 5 v0 7 rfl rfl rfl rfl h0 ?_
      intro e2
      refine fs_r T 1 50 [some (.ref v0), some (.int v1)] [.int v1, .ref (m1.2.1 v0 5)] rfl ?_
      refine fs_vI T 53 rfl rfl rfl rfl rfl rfl e2 (q_X7_appendNode (d := d) hE e2) ?_
      intro x2 m2
      exact fs_reti T rfl rfl rfl
    · exact fs_thr T rfl rfl rfl rfl rfl
  · exact fs_thr T rfl rfl rfl rfl rfl)
def f_X11_checkNode (H : fm_H) (v0 : Nat) (v1 : Int32) (m : fm_M) : Option ((Unit ⊕ String) × fm_M) :=
  if fm_isb H (m.2.1 v0 5) 7 = true then
    fm_bn (f_X4_isNode H (H.2.1 (m.2.1 v0 5) 0) v1 m) fun x1 m1 =>
    if x1 = 0 then
      some (.inr pm_xB, m1)
    else
    some (.inl (), m1)
  else none
set_option maxRecDepth 10000 in
theorem q_X11_checkNode {G : pm_G} {H : fm_H} {d : Nat} {z : Option Nat × Nat × Nat} {v0 : Nat} {v1 : Int32} {m : fm_M} (hE : fm_E G H) (h0 : fm_is H v0 11) : fm_cal G H (d + 2) yX11_checkNode [.ref v0, .int v1] z m (fm_rX fm_rV) (f_X11_checkNode H v0 v1 m) := fm_mth (d := d + 1) mt_X11_checkNode rfl rfl rfl (fun K => by
  show fm_o (fm_rX fm_rV) (f_X11_checkNode H v0 v1 m) K → fm_V G H (d + 1) RX11 cX11_checkNode none z K 0 [some (.ref v0), some (.int v1)] [] m
  have T : fm_T RX11 cX11_checkNode tc_X11_checkNode fr_X11 mr_X11 cr_X11 lr_X11 := ⟨tok_X11, dc_X11_checkNode⟩
  unfold f_X11_checkNode
  refine fs_r T 1 1 [some (.ref v0), some (.int v1)] [.ref v0] rfl ?_
  refine fs_gp T 4 11 5 v0 7 rfl rfl rfl rfl h0 ?_
  intro e1
  refine fs_gs T 7 7 0 (m.2.1 v0 5) rfl rfl rfl rfl e1 ?_
  refine fs_r T 1 8 [some (.ref v0), some (.int v1)] [.int v1, .ref (H.2.1 (m.2.1 v0 5) 0)] rfl ?_
  refine fs_vI T 11 rfl rfl rfl rfl rfl rfl (hE.1 _ 7 0 e1) (q_X4_isNode (d := d) hE (hE.1 _ 7 0 e1)) ?_
  intro x1 m1
  refine fs_if_ne T 25 14 rfl rfl rfl (fun _ => ?_) (fun _ => ?_)
  · exact fs_thr T rfl rfl rfl rfl rfl
  · exact fs_retv T rfl rfl rfl)
def f_X11_addLink (H : fm_H) (v0 : Nat) (v1 : Int32) (v2 : Int32) (v3 : Int32) (v4 : Int32) (m : fm_M) : Option ((Int32 ⊕ String) × fm_M) :=
  fm_bx (f_X11_checkNode H v0 v1 m) fun _ m1 =>
  fm_bx (f_X11_checkNode H v0 v2 m1) fun _ m2 =>
  if v1 = v2 then
    some (.inr pm_xA, m2)
  else
  fm_bn (f_X11_isOutside H v3 (1 : Int32) (99 : Int32) m2) fun x3 m3 =>
  if x3 = 0 then
    fm_bn (f_X11_isOutside H v4 (1 : Int32) (9 : Int32) m3) fun x4 m4 =>
    if x4 = 0 then
      if fm_isb H (m4.2.1 v0 5) 7 = true then
        fm_bn (f_X4_linkBetween H (H.2.1 (m4.2.1 v0 5) 0) v1 v2 m4) fun x5 m5 =>
        if x5 = (-1 : Int32) then
          if fm_isb H (m5.2.1 v0 5) 7 = true then
            if m5.1 (H.2.1 (m5.2.1 v0 5) 0) 1 < (16 : Int32) then
              if fm_isb H (m5.2.1 v0 5) 7 = true then
                fm_bn (f_X4_appendLink H (H.2.1 (m5.2.1 v0 5) 0) v1 v2 v3 v4 m5) fun x6 m6 =>
                some (.inl x6, m6)
              else none
            else
            some (.inr pm_xI, m5)
          else none
        else
        some (.inr pm_xI, m5)
      else none
    else
    some (.inr pm_xA, m4)
  else
  some (.inr pm_xA, m3)
set_option maxRecDepth 10000 in
theorem q_X11_addLink {G : pm_G} {H : fm_H} {d : Nat} {z : Option Nat × Nat × Nat} {v0 : Nat} {v1 : Int32} {v2 : Int32} {v3 : Int32} {v4 : Int32} {m : fm_M} (hE : fm_E G H) (h0 : fm_is H v0 11) : fm_cal G H (d + 3) yX11_addLink [.ref v0, .int v1, .int v2, .int v3, .int v4] z m (fm_rX fm_rI) (f_X11_addLink H v0 v1 v2 v3 v4 m) := fm_mth (d := d + 2) mt_X11_addLink rfl rfl rfl (fun K => by
  show fm_o (fm_rX fm_rI) (f_X11_addLink H v0 v1 v2 v3 v4 m) K → fm_V G H (d + 2) RX11 cX11_addLink (some (.int)) z K 0 [some (.ref v0), some (.int v1), some (.int v2), some (.int v3), some (.int v4)] [] m
  have T : fm_T RX11 cX11_addLink tc_X11_addLink fr_X11 mr_X11 cr_X11 lr_X11 := ⟨tok_X11, dc_X11_addLink⟩
  unfold f_X11_addLink
  refine fs_r T 2 2 [some (.ref v0), some (.int v1), some (.int v2), some (.int v3), some (.int v4)] [.int v1, .ref v0] rfl ?_
  refine fs_vVx T 5 rfl rfl rfl rfl rfl rfl h0 (q_X11_checkNode (d := d) hE h0) ?_
  intro x1 m1
  refine fs_r T 2 7 [some (.ref v0), some (.int v1), some (.int v2), some (.int v3), some (.int v4)] [.int v2, .ref v0] rfl ?_
  refine fs_vVx T 10 rfl rfl rfl rfl rfl rfl h0 (q_X11_checkNode (d := d) hE h0) ?_
  intro x2 m2
  refine fs_r T 2 12 [some (.ref v0), some (.int v1), some (.int v2), some (.int v3), some (.int v4)] [.int v2, .int v1] rfl ?_
  refine fs_ic_ne T 25 15 rfl rfl rfl (fun _ => ?_) (fun _ => ?_)
  · exact fs_thr T rfl rfl rfl rfl rfl
  · refine fs_r T 3 29 [some (.ref v0), some (.int v1), some (.int v2), some (.int v3), some (.int v4)] [.int (99 : Int32), .int (1 : Int32), .int v3] rfl ?_
    refine fs_sI T 32 rfl rfl rfl rfl rfl rfl rfl (q_X11_isOutside (d := d + 1) hE ) ?_
    intro x3 m3
    refine fs_if_ne T 46 35 rfl rfl rfl (fun _ => ?_) (fun _ => ?_)
    · refine fs_r T 3 40 [some (.ref v0), some (.int v1), some (.int v2), some (.int v3), some (.int v4)] [.int (9 : Int32), .int (1 : Int32), .int v4] rfl ?_
      refine fs_sI T 43 rfl rfl rfl rfl rfl rfl rfl (q_X11_isOutside (d := d + 1) hE ) ?_
      intro x4 m4
      refine fs_if_eq T 56 46 rfl rfl rfl (fun _ => ?_) (fun _ => ?_)
      · refine fs_r T 1 57 [some (.ref v0), some (.int v1), some (.int v2), some (.int v3), some (.int v4)] [.ref v0] rfl ?_
        refine fs_gp T 60 11 5 v0 7 rfl rfl rfl rfl h0 ?_
        intro e1
        refine fs_gs T 63 7 0 (m4.2.1 v0 5) rfl rfl rfl rfl e1 ?_
        refine fs_r T 2 65 [some (.ref v0), some (.int v1), some (.int v2), some (.int v3), some (.int v4)] [.int v2, .int v1, .ref (H.2.1 (m4.2.1 v0 5) 0)] rfl ?_
        refine fs_vI T 68 rfl rfl rfl rfl rfl rfl (hE.1 _ 7 0 e1) (q_X4_linkBetween (d := d + 1) hE (hE.1 _ 7 0 e1)) ?_
        intro x5 m5
        refine fs_r T 1 69 [some (.ref v0), some (.int v1), some (.int v2), some (.int v3), some (.int v4)] [.int (-1 : Int32), .int x5] rfl ?_
        refine fs_ic_ne T 87 72 rfl rfl rfl (fun _ => ?_) (fun _ => ?_)
        · refine fs_r T 1 73 [some (.ref v0), some (.int v1), some (.int v2), some (.int v3), some (.int v4)] [.ref v0] rfl ?_
          refine fs_gp T 76 11 5 v0 7 rfl rfl rfl rfl h0 ?_
          intro e2
          refine fs_gs T 79 7 0 (m5.2.1 v0 5) rfl rfl rfl rfl e2 ?_
          refine fs_gi T 82 4 1 (H.2.1 (m5.2.1 v0 5) 0) rfl rfl rfl rfl (hE.1 _ 7 0 e2) ?_
          refine fs_r T 1 84 [some (.ref v0), some (.int v1), some (.int v2), some (.int v3), some (.int v4)] [.int (16 : Int32), .int (m5.1 (H.2.1 (m5.2.1 v0 5) 0) 1)] rfl ?_
          refine fs_ic_lt T 97 87 rfl rfl rfl (fun _ => ?_) (fun _ => ?_)
          · refine fs_r T 1 98 [some (.ref v0), some (.int v1), some (.int v2), some (.int v3), some (.int v4)] [.ref v0] rfl ?_
            refine fs_gp T 101 11 5 v0 7 rfl rfl rfl rfl h0 ?_
            intro e3
            refine fs_gs T 104 7 0 (m5.2.1 v0 5) rfl rfl rfl rfl e3 ?_
            refine fs_r T 4 109 [some (.ref v0), some (.int v1), some (.int v2), some (.int v3), some (.int v4)] [.int v4, .int v3, .int v2, .int v1, .ref (H.2.1 (m5.2.1 v0 5) 0)] rfl ?_
            refine fs_vI T 112 rfl rfl rfl rfl rfl rfl (hE.1 _ 7 0 e3) (q_X4_appendLink (d := d) hE (hE.1 _ 7 0 e3)) ?_
            intro x6 m6
            exact fs_reti T rfl rfl rfl
          · exact fs_thr T rfl rfl rfl rfl rfl
        · exact fs_thr T rfl rfl rfl rfl rfl
      · exact fs_thr T rfl rfl rfl rfl rfl
    · exact fs_thr T rfl rfl rfl rfl rfl)
def f_X11_checkLink (H : fm_H) (v0 : Nat) (v1 : Int32) (m : fm_M) : Option ((Unit ⊕ String) × fm_M) :=
  if fm_isb H (m.2.1 v0 5) 7 = true then
    fm_bn (f_X4_isLink H (H.2.1 (m.2.1 v0 5) 0) v1 m) fun x1 m1 =>
    if x1 = 0 then
      some (.inr pm_xB, m1)
    else
    some (.inl (), m1)
  else none
set_option maxRecDepth 10000 in
theorem q_X11_checkLink {G : pm_G} {H : fm_H} {d : Nat} {z : Option Nat × Nat × Nat} {v0 : Nat} {v1 : Int32} {m : fm_M} (hE : fm_E G H) (h0 : fm_is H v0 11) : fm_cal G H (d + 2) yX11_checkLink [.ref v0, .int v1] z m (fm_rX fm_rV) (f_X11_checkLink H v0 v1 m) := fm_mth (d := d + 1) mt_X11_checkLink rfl rfl rfl (fun K => by
  show fm_o (fm_rX fm_rV) (f_X11_checkLink H v0 v1 m) K → fm_V G H (d + 1) RX11 cX11_checkLink none z K 0 [some (.ref v0), some (.int v1)] [] m
  have T : fm_T RX11 cX11_checkLink tc_X11_checkLink fr_X11 mr_X11 cr_X11 lr_X11 := ⟨tok_X11, dc_X11_checkLink⟩
  unfold f_X11_checkLink
  refine fs_r T 1 1 [some (.ref v0), some (.int v1)] [.ref v0] rfl ?_
  refine fs_gp T 4 11 5 v0 7 rfl rfl rfl rfl h0 ?_
  intro e1
  refine fs_gs T 7 7 0 (m.2.1 v0 5) rfl rfl rfl rfl e1 ?_
  refine fs_r T 1 8 [some (.ref v0), some (.int v1)] [.int v1, .ref (H.2.1 (m.2.1 v0 5) 0)] rfl ?_
  refine fs_vI T 11 rfl rfl rfl rfl rfl rfl (hE.1 _ 7 0 e1) (q_X4_isLink (d := d) hE (hE.1 _ 7 0 e1)) ?_
  intro x1 m1
  refine fs_if_ne T 25 14 rfl rfl rfl (fun _ => ?_) (fun _ => ?_)
  · exact fs_thr T rfl rfl rfl rfl rfl
  · exact fs_retv T rfl rfl rfl)
def f_X11_setUp (H : fm_H) (v0 : Nat) (v1 : Int32) (v2 : Int32) (m : fm_M) : Option ((Int32 ⊕ String) × fm_M) :=
  fm_bx (f_X11_checkLink H v0 v1 m) fun _ m1 =>
  if fm_isb H (m1.2.1 v0 5) 7 = true then
    fm_bn (f_X4_isUp H (H.2.1 (m1.2.1 v0 5) 0) v1 m1) fun x2 m2 =>
    if fm_isb H (m2.2.1 v0 5) 7 = true then
      fm_bn (f_X7_putUp H (m2.2.1 v0 5) v1 v2 m2) fun _ m3 =>
      if fm_b01 x2 = true then some (.inl x2, m3) else none
    else none
  else none
set_option maxRecDepth 10000 in
theorem q_X11_setUp {G : pm_G} {H : fm_H} {d : Nat} {z : Option Nat × Nat × Nat} {v0 : Nat} {v1 : Int32} {v2 : Int32} {m : fm_M} (hE : fm_E G H) (h0 : fm_is H v0 11) : fm_cal G H (d + 4) yX11_setUp [.ref v0, .int v1, .int v2] z m (fm_rX fm_rI) (f_X11_setUp H v0 v1 v2 m) := fm_mth (d := d + 3) mt_X11_setUp rfl rfl rfl (fun K => by
  show fm_o (fm_rX fm_rI) (f_X11_setUp H v0 v1 v2 m) K → fm_V G H (d + 3) RX11 cX11_setUp (some (.boolean)) z K 0 [some (.ref v0), some (.int v1), some (.int v2), none] [] m
  have T : fm_T RX11 cX11_setUp tc_X11_setUp fr_X11 mr_X11 cr_X11 lr_X11 := ⟨tok_X11, dc_X11_setUp⟩
  unfold f_X11_setUp
  refine fs_r T 2 2 [some (.ref v0), some (.int v1), some (.int v2), none] [.int v1, .ref v0] rfl ?_
  refine fs_vVx T 5 rfl rfl rfl rfl rfl rfl h0 (q_X11_checkLink (d := d + 1) hE h0) ?_
  intro x1 m1
  refine fs_r T 1 6 [some (.ref v0), some (.int v1), some (.int v2), none] [.ref v0] rfl ?_
  refine fs_gp T 9 11 5 v0 7 rfl rfl rfl rfl h0 ?_
  intro e1
  refine fs_gs T 12 7 0 (m1.2.1 v0 5) rfl rfl rfl rfl e1 ?_
  refine fs_r T 1 13 [some (.ref v0), some (.int v1), some (.int v2), none] [.int v1, .ref (H.2.1 (m1.2.1 v0 5) 0)] rfl ?_
  refine fs_vI T 16 rfl rfl rfl rfl rfl rfl (hE.1 _ 7 0 e1) (q_X4_isUp (d := d + 1) hE (hE.1 _ 7 0 e1)) ?_
  intro x2 m2
  refine fs_r T 2 18 [some (.ref v0), some (.int v1), some (.int v2), some (.int x2)] [.ref v0] rfl ?_
  refine fs_gp T 21 11 5 v0 7 rfl rfl rfl rfl h0 ?_
  intro e2
  refine fs_r T 2 23 [some (.ref v0), some (.int v1), some (.int v2), some (.int x2)] [.int v2, .int v1, .ref (m2.2.1 v0 5)] rfl ?_
  refine fs_vV T 26 rfl rfl rfl rfl rfl rfl e2 (q_X7_putUp (d := d) hE e2) ?_
  intro x3 m3
  refine fs_r T 1 27 [some (.ref v0), some (.int v1), some (.int v2), some (.int x2)] [.int x2] rfl ?_
  exact fs_retz T rfl rfl rfl)
def f_X11_set_30 (H : fm_H) (v0 : Nat) (v1 : Int32) (v2 : Int32) (s0 : Int32) (s1 : Int32) (s2 : Int32) (m : fm_M) : Option ((Int32 ⊕ String) × fm_M) :=
  fm_bn (f_X11_isOutside H s2 s1 s0 m) fun x1 m1 =>
  if x1 = 0 then
    if v1 = 0 then
      if fm_isb H (m1.2.1 v0 5) 7 = true then
        if fm_isb H (m1.2.1 v0 5) 7 = true then
          fm_bn (f_X7_putSetting H (m1.2.1 v0 5) v1 v2 m1) fun _ m3 =>
          some (.inl (m1.1 (m1.2.1 v0 5) 7), m3)
        else none
      else none
    else
    if fm_isb H (m1.2.1 v0 5) 7 = true then
      if fm_isb H (m1.2.1 v0 5) 7 = true then
        fm_bn (f_X7_putSetting H (m1.2.1 v0 5) v1 v2 m1) fun _ m2 =>
        some (.inl (m1.1 (m1.2.1 v0 5) 8), m2)
      else none
    else none
  else
  some (.inr pm_xA, m1)
set_option maxRecDepth 10000 in
theorem w_X11_set_30 {G : pm_G} {H : fm_H} {d : Nat} {z : Option Nat × Nat × Nat} {K : pm_R → fm_M → Prop} (hE : fm_E G H) {v0 : Nat} {v1 : Int32} {v2 : Int32} (h0 : fm_is H v0 11) : ∀ (s0 : Int32) (s1 : Int32) (s2 : Int32) (m : fm_M), fm_o (fm_rX fm_rI) (f_X11_set_30 H v0 v1 v2 s0 s1 s2 m) K → fm_V G H (d + 1) RX11 cX11_set (some (.int)) z K 30 [some (.ref v0), some (.int v1), some (.int v2), none] [.int s0, .int s1, .int s2] m := by
  have T : fm_T RX11 cX11_set tc_X11_set fr_X11 mr_X11 cr_X11 lr_X11 := ⟨tok_X11, dc_X11_set⟩
  intro s0 s1 s2 m
  unfold f_X11_set_30
  refine fs_sI T 33 rfl rfl rfl rfl rfl rfl rfl (q_X11_isOutside (d := d) hE ) ?_
  intro x1 m1
  refine fs_if_eq T 46 36 rfl rfl rfl (fun _ => ?_) (fun _ => ?_)
  · refine fs_r T 1 47 [some (.ref v0), some (.int v1), some (.int v2), none] [.int v1] rfl ?_
    refine fs_if_ne T 60 50 rfl rfl rfl (fun _ => ?_) (fun _ => ?_)
    · refine fs_r T 1 51 [some (.ref v0), some (.int v1), some (.int v2), none] [.ref v0] rfl ?_
      refine fs_gp T 54 11 5 v0 7 rfl rfl rfl rfl h0 ?_
      intro e3
      refine fs_gi T 57 7 7 (m1.2.1 v0 5) rfl rfl rfl rfl e3 ?_
      refine fs_r T 3 69 [some (.ref v0), some (.int v1), some (.int v2), some (.int (m1.1 (m1.2.1 v0 5) 7))] [.ref v0] rfl ?_
      refine fs_gp T 72 11 5 v0 7 rfl rfl rfl rfl h0 ?_
      intro e4
      refine fs_r T 2 74 [some (.ref v0), some (.int v1), some (.int v2), some (.int (m1.1 (m1.2.1 v0 5) 7))] [.int v2, .int v1, .ref (m1.2.1 v0 5)] rfl ?_
      refine fs_vV T 77 rfl rfl rfl rfl rfl rfl e4 (q_X7_putSetting (d := d) hE e4) ?_
      intro x3 m3
      refine fs_r T 1 78 [some (.ref v0), some (.int v1), some (.int v2), some (.int (m1.1 (m1.2.1 v0 5) 7))] [.int (m1.1 (m1.2.1 v0 5) 7)] rfl ?_
      exact fs_reti T rfl rfl rfl
    · refine fs_r T 1 61 [some (.ref v0), some (.int v1), some (.int v2), none] [.ref v0] rfl ?_
      refine fs_gp T 64 11 5 v0 7 rfl rfl rfl rfl h0 ?_
      intro e1
      refine fs_gi T 67 7 8 (m1.2.1 v0 5) rfl rfl rfl rfl e1 ?_
      refine fs_r T 2 69 [some (.ref v0), some (.int v1), some (.int v2), some (.int (m1.1 (m1.2.1 v0 5) 8))] [.ref v0] rfl ?_
      refine fs_gp T 72 11 5 v0 7 rfl rfl rfl rfl h0 ?_
      intro e2
      refine fs_r T 2 74 [some (.ref v0), some (.int v1), some (.int v2), some (.int (m1.1 (m1.2.1 v0 5) 8))] [.int v2, .int v1, .ref (m1.2.1 v0 5)] rfl ?_
      refine fs_vV T 77 rfl rfl rfl rfl rfl rfl e2 (q_X7_putSetting (d := d) hE e2) ?_
      intro x2 m2
      refine fs_r T 1 78 [some (.ref v0), some (.int v1), some (.int v2), some (.int (m1.1 (m1.2.1 v0 5) 8))] [.int (m1.1 (m1.2.1 v0 5) 8)] rfl ?_
      exact fs_reti T rfl rfl rfl
  · exact fs_thr T rfl rfl rfl rfl rfl
def f_X11_set (H : fm_H) (v0 : Nat) (v1 : Int32) (v2 : Int32) (m : fm_M) : Option ((Int32 ⊕ String) × fm_M) :=
  fm_bn (f_X11_isOutside H v1 (0 : Int32) (1 : Int32) m) fun x1 m1 =>
  if x1 = 0 then
    if v1 = 0 then
      f_X11_set_30 H v0 v1 v2 (4 : Int32) (0 : Int32) v2 m1
    else
    f_X11_set_30 H v0 v1 v2 (1 : Int32) (0 : Int32) v2 m1
  else
  some (.inr pm_xA, m1)
set_option maxRecDepth 10000 in
theorem q_X11_set {G : pm_G} {H : fm_H} {d : Nat} {z : Option Nat × Nat × Nat} {v0 : Nat} {v1 : Int32} {v2 : Int32} {m : fm_M} (hE : fm_E G H) (h0 : fm_is H v0 11) : fm_cal G H (d + 2) yX11_set [.ref v0, .int v1, .int v2] z m (fm_rX fm_rI) (f_X11_set H v0 v1 v2 m) := fm_mth (d := d + 1) mt_X11_set rfl rfl rfl (fun K => by
  show fm_o (fm_rX fm_rI) (f_X11_set H v0 v1 v2 m) K → fm_V G H (d + 1) RX11 cX11_set (some (.int)) z K 0 [some (.ref v0), some (.int v1), some (.int v2), none] [] m
  have T : fm_T RX11 cX11_set tc_X11_set fr_X11 mr_X11 cr_X11 lr_X11 := ⟨tok_X11, dc_X11_set⟩
  unfold f_X11_set
  refine fs_r T 3 3 [some (.ref v0), some (.int v1), some (.int v2), none] [.int (1 : Int32), .int (0 : Int32), .int v1] rfl ?_
  refine fs_sI T 6 rfl rfl rfl rfl rfl rfl rfl (q_X11_isOutside (d := d) hE ) ?_
  intro x1 m1
  refine fs_if_eq T 19 9 rfl rfl rfl (fun _ => ?_) (fun _ => ?_)
  · refine fs_r T 3 22 [some (.ref v0), some (.int v1), some (.int v2), none] [.int v1, .int (0 : Int32), .int v2] rfl ?_
    refine fs_if_ne T 29 25 rfl rfl rfl (fun _ => ?_) (fun _ => ?_)
    · refine fs_r T 2 30 [some (.ref v0), some (.int v1), some (.int v2), none] [.int (4 : Int32), .int (0 : Int32), .int v2] rfl ?_
      exact w_X11_set_30 hE h0 _ _ _ _
    · refine fs_r T 1 30 [some (.ref v0), some (.int v1), some (.int v2), none] [.int (1 : Int32), .int (0 : Int32), .int v2] rfl ?_
      exact w_X11_set_30 hE h0 _ _ _ _
  · exact fs_thr T rfl rfl rfl rfl rfl)
