/-! calls, side by side: nodes and links -/
theorem w_le {y g : Nat} (hy : y ≤ g) (hg : g < 1000000) : (0 : Int32) ≤ nn y ∧ nn y ≤ nn g := ⟨by rw [nl_0]; exact (nn_le (by omega) (by omega)).mpr (by omega), (nn_le (by omega) (by omega)).mpr hy⟩
theorem bad_w {v : Int32} {g : Nat} (hg : g < 1000000) (hv : ¬ ((0 : Int32) ≤ v ∧ v ≤ nn g)) : v.toInt < 0 ∨ (g : Int) < v.toInt := by
  rw [Int32.le_iff_toInt_le, Int32.le_iff_toInt_le, nn_t hg] at hv
  change ¬ (0 ≤ v.toInt ∧ v.toInt ≤ g) at hv
  omega
theorem sw_bad {α : Type} {v : Int32} {g : Nat} (hg : g < 1000000) (hv : ¬ ((0 : Int32) ≤ v ∧ v ≤ nn g)) {as : List (Option α)} {D : Option α} (hl : as.length ≤ g + 1) : fm_sw v 0 as D = D := by
  rcases bad_w hg hv with z | z
  · exact sw_lt (by omega)
  · rw [sw_at (k := v.toInt.toNat) (by omega), List.getElem?_eq_none (by omega)]
    rfl
def nodE (E : VV) (f y : Nat) : Int32 := if y = 0 then E 4 0 f else if y = 1 then nn (hl E f (eZ E f) (-1)) else if y = 2 then nn (hl E f (eZ E f) (nn f)) else if y = 3 then nn (loE E f) else if y = 4 then nn (bw E (eZ E) f) else if y = 5 then nn (nc (fun t => decide (E 5 0 t = nn f) && decide (E 7 0 t = 1)) 0 120) else nn (nc (fun j => decide (E 3 j 0 = nn f ∨ E 3 j 1 = nn f)) 0 (eL E))
section
variable {H : fm_H} {m m1 m2 m00 : fm_M} {Lo : Nat → Nat → Int32} {T T' x b s t n tn : Nat} {E : VV} {l : List (Nat → Int32)} {d tx : Nat → Nat} {sv : Nat → Option (VV × List (Nat → Int32))} {c p : Int32}
theorem c_node (hX : kX H x) (hK : cN m x s t E l) (hI : iG E l) {f y : Nat} (hf : f < eN E) (hy : y ≤ 6) : f_X11_node H x (nn f) (nn y) m = some (.inl (nodE E f y), m) := by
  obtain ⟨hS, -⟩ := cN_S hX hK
  obtain ⟨a1, a2, a3, a4, a5, a6⟩ := aS_x hK.2.2.2.1
  have h10 := hI.1.1.2.2.2.2.1.1
  have hck := c_ckN hX hK (nn f)
  have hs := hK.2.1
  have hE : er (cv m s) = E := hK.2.2.2.1.2.1
  unfold f_X11_node f_X11_checkWhat
  rw [hck, if_pos (rgC_n hf (by omega)), fb_x, c_out, fb_n, decide_eq_true (show (0 : Int32) ≤ nn y ∧ nn y ≤ 6 from w_le (g := 6) hy (by omega)), if_pos (by decide), fb_x, sw_at (k := y) (by rw [nn_t (by omega)]; omega), hs, kS_0 hS, kS_1 hS]
  clear hK hck
  subst hE
  have hb := fm_is_b hS.1
  have h : y = 0 ∨ y = 1 ∨ y = 2 ∨ y = 3 ∨ y = 4 ∨ y = 5 ∨ y = 6 := by omega
  rcases h with h | h | h | h | h | h | h
  · subst h
    refine (if_pos hb).trans ?_
    rw [show f_X2_spaceOf H (s + 20) (nn f) m = _ from c_spaceOfN hS rfl a2 (by omega), fb_n]
    exact congrArg (fun z => some (Sum.inl z, m)) (hI.1.1.2.2.2.2.2.1 f (by omega)).1.symm
  · subst h
    refine (if_pos hb).trans ?_
    rw [show f_X2_held H (s + 20) (nn f) (-1) m = _ from c_held hS rfl a2 (by omega) (-1), fb_n]
    rfl
  · subst h
    refine (if_pos hb).trans ?_
    rw [show f_X2_held H (s + 20) (nn f) (nn f) m = _ from c_held hS rfl a2 (by omega) (nn f), fb_n]
    rfl
  · subst h
    refine (if_pos hb).trans ?_
    rw [show f_X2_lentBy H (s + 20) (nn f) m = _ from c_lentBy hS rfl a2 (by omega), fb_n]
    exact congrArg (fun z => some (Sum.inl (ii z), m)) (lo_i (E := er (cv m s)) (f := f) (by omega))
  · subst h
    refine (if_pos hb).trans ?_
    rw [show f_X2_borrowedBy H (s + 20) (nn f) m = _ from c_borrowedBy hS rfl a2 (by omega), fb_n]
    rfl
  · subst h
    refine (if_pos hb).trans ?_
    rw [show f_X2_madeEntries H (s + 20) (nn f) m = _ from c_madeEntries hS rfl (nn f), fb_n]
    refine congrArg (fun z => some (Sum.inl (nn z), m)) (nc_c (fun t _ _ => ?_))
    show decide (cv m s 5 0 t = nn f ∧ cv m s 7 0 t = 1) = (decide (cv m s 5 0 t = nn f) && decide (cv m s 7 0 t = 1))
    by_cases q1 : cv m s 5 0 t = nn f <;> by_cases q2 : cv m s 7 0 t = 1
    · rw [decide_eq_true ⟨q1, q2⟩, decide_eq_true q1, decide_eq_true q2]; rfl
    · rw [decide_eq_false (fun z => q2 z.2), decide_eq_true q1, decide_eq_false q2]; rfl
    · rw [decide_eq_false (fun z => q1 z.1), decide_eq_false q1]; rfl
    · rw [decide_eq_false (fun z => q1 z.1), decide_eq_false q1]; rfl
  · subst h
    refine (if_pos hb).trans ?_
    rw [show f_X4_linksAt H (s + 1) (nn f) m = _ from c_linksAt hS rfl a2 (by omega), fb_n]
    refine congrArg (fun z => some (Sum.inl (nn z), m)) ?_
    refine Eq.trans (nc_c (fun i _ hi => ?_)) (lat_eq (E := er (cv m s)) hI.2.2.2.2.1 h10 hf)
    have hL := hI.1.1.2.2.2.2.1.2.1
    have q := (lbV_lk (E := er (cv m s)) hI.2.1 hL (x := f) (y := i) hf (by show i < eN (cv m s); omega) h10).1
    show decide (lbV (er (cv m s)) (eN (er (cv m s))) f i ≠ -1) = _
    by_cases z : lkE (er (cv m s)) (nn f) (nn i) = -1
    · rw [decide_eq_false (not_not_intro (q.mpr z)), decide_eq_false (not_not_intro z)]
    · rw [decide_eq_true (show lbV (er (cv m s)) (eN (er (cv m s))) f i ≠ -1 from fun w => z (q.mp w)), decide_eq_true z]
end
