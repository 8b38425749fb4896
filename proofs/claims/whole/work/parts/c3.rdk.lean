/-! calls, side by side: links, circuits' numbers -/
def lnkE (E : VV) (l : List (Nat → Int32)) (j y : Nat) : Int32 := if y < 5 then E 3 j y else if y = 5 then rsv E (eK E) (eA E) (eB E) (nn j) (-1) else nn (lc (fun r => decide (r 3 = nn j)) l)
section
variable {H : fm_H} {m m1 m2 m00 : fm_M} {Lo : Nat → Nat → Int32} {T T' x b s t n tn : Nat} {E : VV} {l : List (Nat → Int32)} {d tx : Nat → Nat} {sv : Nat → Option (VV × List (Nat → Int32))} {c p : Int32}
theorem c_pks (hK : cN m x s t E l) {q : (Nat → Int32) → Bool} : nc (fun p => q (cv m s 18 p)) 0 (eP (cv m s)) = lc q l := by
  obtain ⟨a1, a2, a3, a4, a5, a6⟩ := hK.2.2.2.1
  have e : eP (cv m s) = l.length := by
    have : cv m s 0 0 6 = nn l.length := by
      rw [← er_n (V := cv m s) (kd := 0) (by omega), a2]
      exact a4
    unfold eP
    rw [this, nn_t (by omega)]
    rfl
  rw [e, ← lc_sg (V := cv m s) (q := q), a3]
theorem c_link (hX : kX H x) (hK : cN m x s t E l) (hI : iG E l) {j y : Nat} (hj : j < eL E) (hy : y ≤ 6) : f_X11_link H x (nn j) (nn y) m = some (.inl (lnkE E l j y), m) := by
  obtain ⟨hS, -⟩ := cN_S hX hK
  obtain ⟨a1, a2, a3, a4, a5, a6⟩ := aS_x hK.2.2.2.1
  have h16 := hI.1.1.2.2.2.2.1.2.1
  have hck := c_ckL hX hK (nn j)
  have hs := hK.2.1
  have hb := fm_is_b hS.1
  have r3 : ∀ k, m.1 (s + 4 + j) k = E 3 j k := fun k => (cN_rd hK).2.2.1 j k (by omega)
  have hU := hI.2.2.2.1 j hj
  unfold f_X11_link f_X11_checkWhat
  rw [hck, if_pos (rgC_n hj (by omega)), fb_x, c_out, fb_n, decide_eq_true (show (0 : Int32) ≤ nn y ∧ nn y ≤ 6 from w_le (g := 6) hy (by omega)), if_pos (by decide), fb_x, hs, if_pos hb, kS_0 hS, kS_n2 hS, kS_z2 hS, if_pos ((nn_in (by omega)).mpr (by omega)), nn_tn (by omega), pS_lk a1 (by omega), if_pos (kS_lk hS (by omega)), sw_at (k := y) (by rw [nn_t (by omega)]; omega)]
  have h : y = 0 ∨ y = 1 ∨ y = 2 ∨ y = 3 ∨ y = 4 ∨ y = 5 ∨ y = 6 := by omega
  rcases h with h | h | h | h | h | h | h
  · subst h; exact congrArg (fun z => some (Sum.inl z, m)) (r3 0)
  · subst h; exact congrArg (fun z => some (Sum.inl z, m)) (r3 1)
  · subst h; exact congrArg (fun z => some (Sum.inl z, m)) (r3 2)
  · subst h; exact congrArg (fun z => some (Sum.inl z, m)) (r3 3)
  · subst h
    show (if m.1 (s + 4 + j) 4 = 0 then some (Sum.inl (0 : Int32), m) else some (Sum.inl (1 : Int32), m)) = _
    rw [r3 4]
    rcases hU with z | z
    · rw [z, if_pos rfl]
      exact congrArg (fun z => some (Sum.inl z, m)) z.symm
    · rw [z, if_neg (by decide)]
      exact congrArg (fun z => some (Sum.inl z, m)) z.symm
  · subst h
    refine (if_pos hb).trans ?_
    rw [c_reservedOn hS a1 rfl a2, fb_n, ← hK.2.2.2.1.2.1]
    rfl
  · subst h
    show (if fm_isb H s 7 = true then fm_bn (f_X7_packetsOn H s (nn j) m) fun x4 m4 => some (Sum.inl x4, m4) else none) = _
    rw [if_pos hb, c_packetsOn hS a1 rfl a2, fb_n, c_pks hK (q := fun r => decide (r 3 = nn j))]
    rfl
theorem rV_all {ρ : Nat → Int32} (hA : rAll ρ E l) (hI : iG E l) : ∀ i, i < eK E → rV1 ρ E i := fun i hi => rB_V1 hA.1 hI.1.2.1 hi (hI.1.2.2.2.1 i hi)
theorem r_link (hM : kM H b) {ρ : Nat → Int32} (hr : m.1 (b + 1) = ρ) (hA : rAll ρ E l) (hI : iG E l) {j y : Nat} (hj : j < eL E) (hy : y ≤ 6) : f_X12_link H b (nn j) (nn y) m = some (lnkE E l j y, fm_si m b 7 0) := by
  have hrr : (fm_si m b 7 0).1 (b + 1) = ρ := (si_oth (by omega)).trans hr
  obtain ⟨h31, h32, h33, h34⟩ := eL_16 hA hI
  unfold f_X12_link
  rw [fb_d, r_isLink hM hrr h31 h32, fb_n, decide_eq_true (rgC_n hj (by omega)), if_neg (by decide), nn_t (by omega)]
  by_cases h5 : y = 5
  · subst h5
    rw [if_pos (show ((5 : Nat) : Int) = 5 from rfl), r_reserved hM hrr hA.1.1 hI.1.1 (rB_4 hA).1 (rB_4 hA).2 (fun i hi _ => rV_all hA hI i hi), fb_n]
    rfl
  · rw [if_neg (by omega)]
    by_cases h6 : y = 6
    · subst h6
      rw [if_pos (show ((6 : Nat) : Int) = 6 from rfl), r_packetsOn hM hrr hA.2, fb_n]
      rfl
    · rw [if_neg (by omega), r_isBetween, fb_n, decide_eq_true (show (0 : Int32) ≤ nn y ∧ nn y ≤ 4 from w_le (g := 4) (by omega) (by omega)), if_neg (by decide), r_ofLink hM (by omega), fb_n, hrr, hA.1.1.2.2.2.2.2.2.2 j hj y (by omega)]
      unfold lnkE
      rw [if_pos (by omega)]
theorem t_linkg (hX : kX H x) (hM : kM H b) (hb : x + 661 ≤ b) (hT : TOP Lo T x b m) (v w : Int32) : CALL Lo x b T (f_X11_link H x v w m) (f_X12_link H b v w) (an [pm_xB, pm_xA]) := by
  have hT0 := hT
  obtain ⟨s, t, E, l, n, d, sv, tn, tx, c, p, hK, hR, hI, hN, hW, h2⟩ := hT
  obtain ⟨h31, h32, h33, h34⟩ := eL_16 hR.1 hI
  have rr : (fm_si m b 7 0).1 (b + 1) = m.1 (b + 1) := si_oth (by omega)
  by_cases hv : 0 ≤ v.toInt ∧ v.toInt < eL E
  · obtain ⟨j, hj, rfl⟩ := rgC (by omega) hv
    by_cases hw : (0 : Int32) ≤ w ∧ w ≤ nn 6
    · obtain ⟨y, -, y1, rfl⟩ := rgN (lo := 0) (hi := 6) (by omega) (by omega) hw
      refine call_rd hb hT0 (c_link hX hK.1 hI hj y1) ?_
      rw [r_link hM rfl hR.1 hI hj y1]
      exact fE_ret ⟨rfl, rI_7 rfl⟩
    · have hbad := bad_w (by omega) hw
      refine call_e hb hT0 (Nat.le_refl _) (k := 1) (e := pm_xA) (y := 0) rfl ?_ ?_
      · unfold f_X11_link f_X11_checkWhat
        rw [c_ckL hX hK.1, if_pos hv, fb_x, c_out, fb_n, decide_eq_false (show ¬ ((0 : Int32) ≤ w ∧ w ≤ 6) from hw), if_neg (by decide), fb_e]
      · unfold f_X12_link
        rw [fb_d, r_isLink hM rr h31 h32, fb_n, decide_eq_true hv, if_neg (by decide), if_neg (by omega), if_neg (by omega), r_isBetween, fb_n, decide_eq_false (fun z => hw ⟨z.1, by
          have := z.2
          rw [Int32.le_iff_toInt_le] at this ⊢
          rw [nn_t (by omega)]
          change w.toInt ≤ 4 at this
          omega⟩), if_pos (by decide), r_fail, fb_n]
        rfl
  · refine call_e hb hT0 (Nat.le_refl _) (k := 0) (e := pm_xB) (y := 0) rfl ?_ ?_
    · unfold f_X11_link
      rw [c_ckL hX hK.1, if_neg hv, fb_e]
    · unfold f_X12_link
      rw [fb_d, r_isLink hM rr h31 h32, fb_n, decide_eq_false hv, if_pos (by decide), r_fail, fb_n]
      rfl
/-- what is asked of a circuit -/
def cirE (E : VV) (l : List (Nat → Int32)) (i y : Nat) : Int32 := if y = 0 then E 11 i 0 else if y = 1 then E 11 i (eA E i - 1) else if y < 5 then E 9 i (y - 2) else if y = 5 then (if E 9 i 2 = 2 ∨ E 9 i 2 = 3 then dlW E (eL E) (E 16 i) (eB E i) else dlW E (eL E) (E 12 i) (eA E i)) else if y < 13 then E 9 i (y - 3) else if y = 13 then nn (lc (fun r => decide (r 0 = nn i)) l) else E 9 i 10
theorem c_circuit (hX : kX H x) (hK : cN m x s t E l) (hI : iG E l) {i y : Nat} (hi : i < eK E) (hy : y ≤ 14) : f_X11_circuit H x (nn i) (nn y) m = some (.inl (cirE E l i y), m) := by
  obtain ⟨hS, -⟩ := cN_S hX hK
  obtain ⟨a1, a2, a3, a4, a5, a6⟩ := aS_x hK.2.2.2.1
  have h8 := hI.1.1.2.2.2.2.1.2.2.1
  have hA6 := (hI.1.1.2.2.2.2.2.2.1 i (by omega)).2
  have hA2 := (hI.1.2.2.2.1 i hi).1
  have hck := c_ckC hX hK (nn i)
  have hs := hK.2.1
  have hb := fm_is_b hS.1
  have r9 : ∀ k, m.1 (m.2.1 (s + 26) i) k = E 9 i k := fun k => rd9i hK (by omega) k
  have r10 : m.1 (m.2.1 (m.2.1 (s + 26) i) 13) 0 = ii (eA E i) := ((rd10 (V := cv m s) rfl (i := i) (by omega) 0).trans (a3 10 i 0 (by omega))).trans (hI.1.1.2.2.2.2.2.2.1 i (by omega)).1
  have r11 : ∀ k, m.1 (m.2.1 (m.2.1 (s + 26) i) 13 + 1) k = E 11 i k := fun k => (rd11 (V := cv m s) rfl (i := i) (by omega) k).trans (a3 11 i k (by omega))
  unfold f_X11_circuit f_X11_checkWhat
  rw [hck, if_pos (rgC_n hi (by omega)), fb_x, c_out, fb_n, decide_eq_true (show (0 : Int32) ≤ nn y ∧ nn y ≤ 14 from w_le (g := 14) hy (by omega)), if_pos (by decide), fb_x, hs, if_pos hb, kS_3 hS, kS_z26 hS, if_pos ((nn_in (by omega)).mpr (by omega)), nn_tn (by omega), if_pos (pS_cb hS a1 (by omega)), sw_at (k := y) (by rw [nn_t (by omega)]; omega)]
  have h : y = 0 ∨ y = 1 ∨ y = 2 ∨ y = 3 ∨ y = 4 ∨ y = 5 ∨ y = 6 ∨ y = 7 ∨ y = 8 ∨ y = 9 ∨ y = 10 ∨ y = 11 ∨ y = 12 ∨ y = 13 ∨ y = 14 := by omega
  have wo := pS_wo hS a1 (i := i) (by omega)
  rcases h with h | h | h | h | h | h | h | h | h | h | h | h | h | h | h
  · subst h
    refine (if_pos (kW_b wo)).trans ?_
    rw [show f_X10_nodeAt H (m.2.1 (m.2.1 (s + 26) i) 13) 0 m = some (m.1 (m.2.1 (m.2.1 (s + 26) i) 13 + 1) 0, m) from c_nodeAtN wo r10 hA6 (j := 0) (by omega), fb_n, r11]
    rfl
  · subst h
    refine (if_pos (kW_b wo)).trans ?_
    rw [c_lastNode wo r10 hA6, fb_n, if_neg (by omega), r11]
    rfl
  · subst h; exact congrArg (fun z => some (Sum.inl z, m)) (r9 0)
  · subst h; exact congrArg (fun z => some (Sum.inl z, m)) (r9 1)
  · subst h; exact congrArg (fun z => some (Sum.inl z, m)) (r9 2)
  · subst h
    refine (if_pos hb).trans ?_
    rw [c_activeWay hS a1 rfl (by omega), fb_n, kS_0 hS, a3 9 i 2 (by omega)]
    by_cases z : E 9 i 2 = 2 ∨ E 9 i 2 = 3
    · rw [if_pos z, if_pos (kW_b (pS_wf hS a1 (by omega))), c_delayNew hS a1 rfl a2 (by omega), fb_n]
      refine congrArg (fun z => some (Sum.inl z, m)) ?_
      show _ = (if E 9 i 2 = 2 ∨ E 9 i 2 = 3 then dlW E (eL E) (E 16 i) (eB E i) else dlW E (eL E) (E 12 i) (eA E i))
      rw [if_pos z, ← hK.2.2.2.1.2.1]
      rfl
    · rw [if_neg z, if_pos (kW_b wo), c_delayOld hS a1 rfl a2 (by omega), fb_n]
      refine congrArg (fun z => some (Sum.inl z, m)) ?_
      show _ = (if E 9 i 2 = 2 ∨ E 9 i 2 = 3 then dlW E (eL E) (E 16 i) (eB E i) else dlW E (eL E) (E 12 i) (eA E i))
      rw [if_neg z, ← hK.2.2.2.1.2.1]
      rfl
  · subst h; exact congrArg (fun z => some (Sum.inl z, m)) (r9 3)
  · subst h; exact congrArg (fun z => some (Sum.inl z, m)) (r9 4)
  · subst h; exact congrArg (fun z => some (Sum.inl z, m)) (r9 5)
  · subst h; exact congrArg (fun z => some (Sum.inl z, m)) (r9 6)
  · subst h; exact congrArg (fun z => some (Sum.inl z, m)) (r9 7)
  · subst h; exact congrArg (fun z => some (Sum.inl z, m)) (r9 8)
  · subst h; exact congrArg (fun z => some (Sum.inl z, m)) (r9 9)
  · subst h
    refine (if_pos hb).trans ?_
    rw [c_packetsOf hS a1 rfl a2, fb_n, c_pks hK (q := fun r => decide (r 0 = nn i))]
    rfl
  · subst h; exact congrArg (fun z => some (Sum.inl z, m)) (r9 10)
theorem r_circuit (hM : kM H b) {ρ : Nat → Int32} (hr : m.1 (b + 1) = ρ) (hA : rAll ρ E l) (hI : iG E l) {i y : Nat} (hi : i < eK E) (hy : y ≤ 14) : f_X12_circuit H b (nn i) (nn y) m = some (cirE E l i y, fm_si m b 7 0) := by
  have hrr : (fm_si m b 7 0).1 (b + 1) = ρ := (si_oth (by omega)).trans hr
  have h4 := rB_4 hA
  have hQ := hI.1.2.2.2.1 i hi
  have hA2 := hQ.1
  have h48 := h4.2
  obtain ⟨w0, w1, w2, -⟩ := hA.1.2.1.2.2 i hi 0 (by omega)
  have eW0 : eW E i 0 = eA E i := rfl
  rw [eW0] at w0 w1 w2
  have c9 := (hA.1.2.2 i hi).1
  have st := (hA.1.2.2 i hi).2.1
  unfold f_X12_circuit
  rw [fb_d, r_isCircuit hM hrr h4.1 h4.2, fb_n, decide_eq_true (rgC_n hi (by omega)), if_neg (by decide), sw_at (k := y) (by rw [nn_t (by omega)]; omega)]
  have of : ∀ (z k : Nat), z = k → 104 + 66 * i + k < 1112 → (fm_bn (f_X12_of H b (nn i) (nn z) (fm_si m b 7 0)) fun x4 m5 => some (x4, m5)) = some (ρ (104 + 66 * i + k), fm_si m b 7 0) := fun z k e hk => by
    rw [e, r_of hM hk, fb_n, hrr]
  have h : y = 0 ∨ y = 1 ∨ y = 2 ∨ y = 3 ∨ y = 4 ∨ y = 5 ∨ y = 6 ∨ y = 7 ∨ y = 8 ∨ y = 9 ∨ y = 10 ∨ y = 11 ∨ y = 12 ∨ y = 13 ∨ y = 14 := by omega
  rcases h with h | h | h | h | h | h | h | h | h | h | h | h | h | h | h
  · subst h
    show (fm_bn (f_X12_firstOf H b (nn i) (fm_si m b 7 0)) fun x4 m5 => some (x4, m5)) = _
    rw [r_firstOf hM hrr (by omega), fb_n, show ρ (121 + 66 * i) = E 11 i 0 from by rw [← w2 0 (by omega)]; exact congrArg ρ (by omega)]
    rfl
  · subst h
    show (fm_bn (f_X12_lastOf H b (nn i) (fm_si m b 7 0)) fun x4 m5 => some (x4, m5)) = _
    rw [r_lastOf hM hrr (by omega) (show ρ (120 + 66 * i) = nn (eA E i) from w0) (by omega) w1, fb_n, show ρ (121 + 66 * i + (eA E i - 1)) = E 11 i (eA E i - 1) from by rw [← w2 _ (by omega)]; exact congrArg ρ (by omega)]
    rfl
  · subst h; exact (of 0 0 rfl (by omega)).trans (congrArg (fun z => some (z, fm_si m b 7 0)) (c9 0 (by omega) (by omega) (by omega)))
  · subst h; exact (of 1 1 rfl (by omega)).trans (congrArg (fun z => some (z, fm_si m b 7 0)) (c9 1 (by omega) (by omega) (by omega)))
  · subst h; exact (of 2 2 rfl (by omega)).trans (congrArg (fun z => some (z, fm_si m b 7 0)) (c9 2 (by omega) (by omega) (by omega)))
  · subst h
    show (fm_bn (f_X12_activePlace H b (nn i) (fm_si m b 7 0)) fun x7 m8 => fm_bn (f_X12_delayOf H b x7 m8) fun x8 m9 => some (x8, m9)) = _
    obtain ⟨p, p1, p2⟩ : ∃ p, p ≤ 3 ∧ E 9 i 2 = nn p := (rV_all hA hI i hi).2.2.2.1
    obtain ⟨c, c1, c2, c3, c4⟩ := r_activePlace hM hrr hA.1 hI.1.1 hi p2 p1
    rw [c4, fb_n, r_delayOf hM hrr hA.1 hI.1.1 hI.1.2.1 hi c1, fb_n]
    refine congrArg (fun z => some (z, fm_si m b 7 0)) ?_
    show _ = (if E 9 i 2 = 2 ∨ E 9 i 2 = 3 then dlW E (eL E) (E 16 i) (eB E i) else dlW E (eL E) (E 12 i) (eA E i))
    by_cases z : c = 1
    · rw [if_pos (c3.mp z), z]
      rfl
    · rw [if_neg (fun q => z (c3.mpr q)), show c = 0 by omega]
      rfl
  · subst h; exact (of 5 5 rfl (by omega)).trans (congrArg (fun z => some (z, fm_si m b 7 0)) (c9 3 (by omega) (by omega) (by omega)))
  · subst h; exact (of 6 6 rfl (by omega)).trans (congrArg (fun z => some (z, fm_si m b 7 0)) (c9 4 (by omega) (by omega) (by omega)))
  · subst h; exact (of 7 7 rfl (by omega)).trans (congrArg (fun z => some (z, fm_si m b 7 0)) (c9 5 (by omega) (by omega) (by omega)))
  · subst h; exact (of 8 8 rfl (by omega)).trans (congrArg (fun z => some (z, fm_si m b 7 0)) (c9 6 (by omega) (by omega) (by omega)))
  · subst h; exact (of 9 9 rfl (by omega)).trans (congrArg (fun z => some (z, fm_si m b 7 0)) (c9 7 (by omega) (by omega) (by omega)))
  · subst h; exact (of 4 4 rfl (by omega)).trans (congrArg (fun z => some (z, fm_si m b 7 0)) (c9 8 (by omega) (by omega) (by omega)))
  · subst h
    show (fm_bn (f_X12_of H b (nn i) (2 : Int32) (fm_si m b 7 0)) fun x15 m16 => if x15 = (2 : Int32) then (fm_bn (f_X12_of H b (nn i) (3 : Int32) m16) fun x16 m17 => some (x16, m17)) else some ((0 : Int32), m16)) = _
    rw [r_of2 hM (by omega), fb_n, hrr, show ρ (104 + 66 * i + 2) = E 9 i 2 from c9 2 (by omega) (by omega) (by omega)]
    have e9 : (if E 9 i 2 = 2 then stE E i else 0) = E 9 i 9 := by
      unfold stE
      rcases hQ.2.2.2.2 with h | h | h | h
      · rw [if_neg (by rw [h.1]; decide)]; exact h.2.2.2.1.symm
      · rw [if_neg (by rw [h.1]; decide)]; exact h.2.2.2.1.symm
      · rw [if_pos h.1, if_neg (by rw [h.1]; decide), if_pos h.1]
      · rw [if_neg (by rw [h.1]; decide)]; exact h.2.2.2.1.symm
    by_cases z : E 9 i 2 = 2
    · rw [if_pos z, nl_3, r_of hM (by omega), fb_n, hrr]
      rw [if_pos z] at e9
      refine congrArg (fun z => some (z, fm_si m b 7 0)) ?_
      rw [show 104 + 66 * i + 3 = 107 + 66 * i by omega, st]
      exact e9
    · rw [if_neg z]
      rw [if_neg z] at e9
      exact congrArg (fun z => some (z, fm_si m b 7 0)) e9
  · subst h
    show (fm_bn (f_X12_packetsOf H b (nn i) (fm_si m b 7 0)) fun x4 m5 => some (x4, m5)) = _
    rw [r_packetsOf hM hrr hA.2, fb_n]
    rfl
  · subst h
    show (fm_bn (f_X12_of H b (nn i) (2 : Int32) (fm_si m b 7 0)) fun x15 m16 => if x15 = (1 : Int32) then (fm_bn (f_X12_of H b (nn i) (3 : Int32) m16) fun x16 m17 => some (x16, m17)) else some ((0 : Int32), m16)) = _
    rw [r_of2 hM (by omega), fb_n, hrr, show ρ (104 + 66 * i + 2) = E 9 i 2 from c9 2 (by omega) (by omega) (by omega)]
    have e9 : (if E 9 i 2 = 1 then stE E i else 0) = E 9 i 10 := by
      unfold stE
      rcases hQ.2.2.2.2 with h | h | h | h
      · rw [if_neg (by rw [h.1]; decide)]; exact h.2.2.1.symm
      · rw [if_pos h.1, if_pos h.1]
      · rw [if_neg (by rw [h.1]; decide)]; exact h.2.2.1.symm
      · rw [if_neg (by rw [h.1]; decide)]; exact h.2.2.1.symm
    by_cases z : E 9 i 2 = 1
    · rw [if_pos z, nl_3, r_of hM (by omega), fb_n, hrr]
      rw [if_pos z] at e9
      refine congrArg (fun z => some (z, fm_si m b 7 0)) ?_
      rw [show 104 + 66 * i + 3 = 107 + 66 * i by omega, st]
      exact e9
    · rw [if_neg z]
      rw [if_neg z] at e9
      exact congrArg (fun z => some (z, fm_si m b 7 0)) e9
theorem t_circuit (hX : kX H x) (hM : kM H b) (hb : x + 661 ≤ b) (hT : TOP Lo T x b m) (v w : Int32) : CALL Lo x b T (f_X11_circuit H x v w m) (f_X12_circuit H b v w) (an [pm_xB, pm_xA]) := by
  have hT0 := hT
  obtain ⟨s, t, E, l, n, d, sv, tn, tx, c, p, hK, hR, hI, hN, hW, h2⟩ := hT
  have h4 := rB_4 hR.1
  have rr : (fm_si m b 7 0).1 (b + 1) = m.1 (b + 1) := si_oth (by omega)
  by_cases hv : 0 ≤ v.toInt ∧ v.toInt < eK E
  · obtain ⟨i, hi, rfl⟩ := rgC (by omega) hv
    by_cases hw : (0 : Int32) ≤ w ∧ w ≤ nn 14
    · obtain ⟨y, -, y1, rfl⟩ := rgN (lo := 0) (hi := 14) (by omega) (by omega) hw
      refine call_rd hb hT0 (c_circuit hX hK.1 hI hi y1) ?_
      rw [r_circuit hM rfl hR.1 hI hi y1]
      exact fE_ret ⟨rfl, rI_7 rfl⟩
    · refine call_e hb hT0 (Nat.le_refl _) (k := 1) (e := pm_xA) (y := 0) rfl ?_ ?_
      · unfold f_X11_circuit f_X11_checkWhat
        rw [c_ckC hX hK.1, if_pos hv, fb_x, c_out, fb_n, decide_eq_false (show ¬ ((0 : Int32) ≤ w ∧ w ≤ 14) from hw), if_neg (by decide), fb_e]
      · unfold f_X12_circuit
        rw [fb_d, r_isCircuit hM rr h4.1 h4.2, fb_n, decide_eq_true hv, if_neg (by decide), sw_bad (g := 14) (by omega) hw (by exact Nat.le_refl 15), r_fail, fb_n]
        rfl
  · refine call_e hb hT0 (Nat.le_refl _) (k := 0) (e := pm_xB) (y := 0) rfl ?_ ?_
    · unfold f_X11_circuit
      rw [c_ckC hX hK.1, if_neg hv, fb_e]
    · unfold f_X12_circuit
      rw [fb_d, r_isCircuit hM rr h4.1 h4.2, fb_n, decide_eq_false hv, if_pos (by decide), r_fail, fb_n]
      rfl
end
