/-! calls, side by side: links, circuits' numbers -/
def lnkE (E : VV) (l : List (Nat → Int32)) (j y : Nat) : Int32 := if y < 5 then E 3 j y else if y = 5 then rsv E (eK E) (eA E) (eB E) (nn j) (-1) else nn (lc (fun r => decide (r 3 = nn j)) l)
section
variable {H : fm_H} {m m1 m2 m00 : fm_M} {Lo : Nat → Nat → Int32} {T T' x b s t n tn : Nat} {E : VV} {l : List (Nat → Int32)} {d tx : Nat → Nat} {sv : Nat → Option (VV × List (Nat → Int32))} {c p : Int32}
theorem c_pks (hK : cN m x s t E l) {q : (Nat → Int32) → Bool} : nc (fun p => q (cv m s 18 p)) 0 (eP (cv m s)) = lc q l := by
  obtain ⟨a1, a2, a3, a4, a5, a6⟩ := hK.2.2.2.1
  have e : eP (cv m s) = l.length := by
    have : cv m s 0 0 6 = nn l.length := by
      rw [← er_n (V := cv m s) (kd := 0) (by omega), a2]
      exact a4
    unfold eP
    rw [this, nn_t (by omega)]
    rfl
  rw [e, ← lc_sg (V := cv m s) (q := q), a3]
theorem c_link (hX : kX H x) (hK : cN m x s t E l) (hI : iG E l) {j y : Nat} (hj : j < eL E) (hy : y ≤ 6) : f_X11_link H x (nn j) (nn y) m = some (.inl (lnkE E l j y), m) := by
  obtain ⟨hS, -⟩ := cN_S hX hK
  obtain ⟨a1, a2, a3, a4, a5, a6⟩ := aS_x hK.2.2.2.1
  have h16 := hI.1.1.2.2.2.2.1.2.1
  have hck := c_ckL hX hK (nn j)
  have hs := hK.2.1
  have hb := fm_is_b hS.1
  have r3 : ∀ k, m.1 (s + 4 + j) k = E 3 j k := fun k => (cN_rd hK).2.2.1 j k (by omega)
  have hU := hI.2.2.2.1 j hj
  unfold f_X11_link f_X11_checkWhat
  rw [hck, if_pos (rgC_n hj (by omega)), fb_x, c_out, fb_n, decide_eq_true (show (0 : Int32) ≤ nn y ∧ nn y ≤ 6 from w_le (g := 6) hy (by omega)), if_pos (by decide), fb_x, hs, if_pos hb, kS_0 hS, kS_n2 hS, kS_z2 hS, if_pos ((nn_in (by omega)).mpr (by omega)), nn_tn (by omega), pS_lk a1 (by omega), if_pos (kS_lk hS (by omega)), sw_at (k := y) (by rw [nn_t (by omega)]; omega)]
  have h : y = 0 ∨ y = 1 ∨ y = 2 ∨ y = 3 ∨ y = 4 ∨ y = 5 ∨ y = 6 := by omega
  rcases h with h | h | h | h | h | h | h
  · subst h; exact congrArg (fun z => some (Sum.inl z, m)) (r3 0)
  · subst h; exact congrArg (fun z => some (Sum.inl z, m)) (r3 1)
  · subst h; exact congrArg (fun z => some (Sum.inl z, m)) (r3 2)
  · subst h; exact congrArg (fun z => some (Sum.inl z, m)) (r3 3)
  · subst h
    show (if m.1 (s + 4 + j) 4 = 0 then some (Sum.inl (0 : Int32), m) else some (Sum.inl (1 : Int32), m)) = _
    rw [r3 4]
    rcases hU with z | z
    · rw [z, if_pos rfl]
      exact congrArg (fun z => some (Sum.inl z, m)) z.symm
    · rw [z, if_neg (by decide)]
      exact congrArg (fun z => some (Sum.inl z, m)) z.symm
  · subst h
    refine (if_pos hb).trans ?_
    rw [c_reservedOn hS a1 rfl a2, fb_n, ← hK.2.2.2.1.2.1]
    rfl
  · subst h
    show (if fm_isb H s 7 = true then fm_bn (f_X7_packetsOn H s (nn j) m) fun x4 m4 => some (Sum.inl x4, m4) else none) = _
    rw [if_pos hb, c_packetsOn hS a1 rfl a2, fb_n, c_pks hK (q := fun r => decide (r 3 = nn j))]
    rfl
theorem rV_all {ρ : Nat → Int32} (hA : rAll ρ E l) (hI : iG E l) : ∀ i, i < eK E → rV1 ρ E i := fun i hi => rB_V1 hA.1 hI.1.2.1 hi (hI.1.2.2.2.1 i hi)
/-- what is asked of a circuit -/
def cirE (E : VV) (l : List (Nat → Int32)) (i y : Nat) : Int32 := if y = 0 then E 11 i 0 else if y = 1 then E 11 i (eA E i - 1) else if y < 5 then E 9 i (y - 2) else if y = 5 then (if E 9 i 2 = 2 ∨ E 9 i 2 = 3 then dlW E (eL E) (E 16 i) (eB E i) else dlW E (eL E) (E 12 i) (eA E i)) else if y < 13 then E 9 i (y - 3) else if y = 13 then nn (lc (fun r => decide (r 0 = nn i)) l) else E 9 i 10
theorem c_circuit (hX : kX H x) (hK : cN m x s t E l) (hI : iG E l) {i y : Nat} (hi : i < eK E) (hy : y ≤ 14) : f_X11_circuit H x (nn i) (nn y) m = some (.inl (cirE E l i y), m) := by
  obtain ⟨hS, -⟩ := cN_S hX hK
  obtain ⟨a1, a2, a3, a4, a5, a6⟩ := aS_x hK.2.2.2.1
  have h8 := hI.1.1.2.2.2.2.1.2.2.1
  have hA6 := (hI.1.1.2.2.2.2.2.2.1 i (by omega)).2
  have hA2 := (hI.1.2.2.2.1 i hi).1
  have hck := c_ckC hX hK (nn i)
  have hs := hK.2.1
  have hb := fm_is_b hS.1
  have r9 : ∀ k, m.1 (m.2.1 (s + 26) i) k = E 9 i k := fun k => rd9i hK (by omega) k
  have r10 : m.1 (m.2.1 (m.2.1 (s + 26) i) 13) 0 = ii (eA E i) := ((rd10 (V := cv m s) rfl (i := i) (by omega) 0).trans (a3 10 i 0 (by omega))).trans (hI.1.1.2.2.2.2.2.2.1 i (by omega)).1
  have r11 : ∀ k, m.1 (m.2.1 (m.2.1 (s + 26) i) 13 + 1) k = E 11 i k := fun k => (rd11 (V := cv m s) rfl (i := i) (by omega) k).trans (a3 11 i k (by omega))
  unfold f_X11_circuit f_X11_checkWhat
  rw [hck, if_pos (rgC_n hi (by omega)), fb_x, c_out, fb_n, decide_eq_true (show (0 : Int32) ≤ nn y ∧ nn y ≤ 14 from w_le (g := 14) hy (by omega)), if_pos (by decide), fb_x, hs, if_pos hb, kS_3 hS, kS_z26 hS, if_pos ((nn_in (by omega)).mpr (by omega)), nn_tn (by omega), if_pos (pS_cb hS a1 (by omega)), sw_at (k := y) (by rw [nn_t (by omega)]; omega)]
  have h : y = 0 ∨ y = 1 ∨ y = 2 ∨ y = 3 ∨ y = 4 ∨ y = 5 ∨ y = 6 ∨ y = 7 ∨ y = 8 ∨ y = 9 ∨ y = 10 ∨ y = 11 ∨ y = 12 ∨ y = 13 ∨ y = 14 := by omega
  have wo := pS_wo hS a1 (i := i) (by omega)
  rcases h with h | h | h | h | h | h | h | h | h | h | h | h | h | h | h
  · subst h
    refine (if_pos (kW_b wo)).trans ?_
    rw [show f_X10_nodeAt H (m.2.1 (m.2.1 (s + 26) i) 13) 0 m = some (m.1 (m.2.1 (m.2.1 (s + 26) i) 13 + 1) 0, m) from c_nodeAtN wo r10 hA6 (j := 0) (by omega), fb_n, r11]
    rfl
  · subst h
    refine (if_pos (kW_b wo)).trans ?_
    rw [c_lastNode wo r10 hA6, fb_n, if_neg (by omega), r11]
    rfl
  · subst h; exact congrArg (fun z => some (Sum.inl z, m)) (r9 0)
  · subst h; exact congrArg (fun z => some (Sum.inl z, m)) (r9 1)
  · subst h; exact congrArg (fun z => some (Sum.inl z, m)) (r9 2)
  · subst h
    refine (if_pos hb).trans ?_
    rw [c_activeWay hS a1 rfl (by omega), fb_n, kS_0 hS, a3 9 i 2 (by omega)]
    by_cases z : E 9 i 2 = 2 ∨ E 9 i 2 = 3
    · rw [if_pos z, if_pos (kW_b (pS_wf hS a1 (by omega))), c_delayNew hS a1 rfl a2 (by omega), fb_n]
      refine congrArg (fun z => some (Sum.inl z, m)) ?_
      show _ = (if E 9 i 2 = 2 ∨ E 9 i 2 = 3 then dlW E (eL E) (E 16 i) (eB E i) else dlW E (eL E) (E 12 i) (eA E i))
      rw [if_pos z, ← hK.2.2.2.1.2.1]
      rfl
    · rw [if_neg z, if_pos (kW_b wo), c_delayOld hS a1 rfl a2 (by omega), fb_n]
      refine congrArg (fun z => some (Sum.inl z, m)) ?_
      show _ = (if E 9 i 2 = 2 ∨ E 9 i 2 = 3 then dlW E (eL E) (E 16 i) (eB E i) else dlW E (eL E) (E 12 i) (eA E i))
      rw [if_neg z, ← hK.2.2.2.1.2.1]
      rfl
  · subst h; exact congrArg (fun z => some (Sum.inl z, m)) (r9 3)
  · subst h; exact congrArg (fun z => some (Sum.inl z, m)) (r9 4)
  · subst h; exact congrArg (fun z => some (Sum.inl z, m)) (r9 5)
  · subst h; exact congrArg (fun z => some (Sum.inl z, m)) (r9 6)
  · subst h; exact congrArg (fun z => some (Sum.inl z, m)) (r9 7)
  · subst h; exact congrArg (fun z => some (Sum.inl z, m)) (r9 8)
  · subst h; exact congrArg (fun z => some (Sum.inl z, m)) (r9 9)
  · subst h
    refine (if_pos hb).trans ?_
    rw [c_packetsOf hS a1 rfl a2, fb_n, c_pks hK (q := fun r => decide (r 0 = nn i))]
    rfl
  · subst h; exact congrArg (fun z => some (Sum.inl z, m)) (r9 10)
end
