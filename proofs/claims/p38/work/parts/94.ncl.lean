/-! settings, nodes and links: the class and the reference do it -/
theorem er_st {V : VV} {w : Nat} {x : Int32} : er (stV V w x) = stV (er V) w x := er_uV (by decide)
theorem er_an {V : VV} {z : Int32} : er (anE V z) = anE (er V) z := by
  unfold anE
  rw [er_uV (by decide), er_uV (by decide)]
  rfl
theorem er_al {V : VV} {x y : Nat} {c d : Int32} : er (alE V x y c d) = alE (er V) x y c d := by
  unfold alE
  rw [er_uV (by decide), er_uV (by decide), er_uV (by decide), er_uV (by decide), er_uV (by decide), er_uV (by decide), er_uV (by decide), er_uV (by decide)]
  rfl
theorem er_bk {V : VV} {i : Nat} {y : Int32} : er (bkE V i y) = bkE (er V) i y := by
  unfold bkE
  rw [er_uV (by decide), er_uV (by decide)]
  rfl
section
variable {H : fm_H} {s : Nat} {m : fm_M} {V : VV}
theorem c_putSetting (hp : pS m s) (hV : cv m s = V) {w : Nat} (hw : w < 2) (x : Int32) : fE (f_X7_putSetting H s (nn w) x m) (fun _ m' => mI s m m' (stV V w x)) := by
  unfold f_X7_putSetting stV
  by_cases e : w = 0
  · subst e
    rw [if_pos nl_0.symm]
    exact fE_put (mI_rf hp hV) 0 0 7 rfl rfl (fun m1 h1 => fE_ret h1)
  · have e1 : w = 1 := by omega
    subst e1
    rw [if_neg (by decide)]
    exact fE_put (mI_rf hp hV) 0 0 8 rfl rfl (fun m1 h1 => fE_ret h1)
theorem c_appendNode (hS : kS H s) (hp : pS m s) (hV : cv m s = V) (hG : vG V) (hN : eN V < 10) (z : Int32) : fE (f_X7_appendNode H s z m) (fun r m' => r = nn (eN V) ∧ mI s m m' (anE V z)) := by
  have n0 : V 1 0 0 = nn (eN V) := hG.1
  unfold f_X7_appendNode f_X2_putSpace
  rw [kS_0 hS, kS_1 hS, rd1 hV, n0, if_neg (by rw [nl_0, nn_lt (by omega) (by omega)]; omega), if_neg (by rw [nl_10, nn_le (by omega) (by omega)]; omega), kS_l0 hS, kS_z21 hS, if_pos ((nn_in (by omega)).mpr hN), nn_tn (by omega), fb_d, fb_n]
  have h1 := mI_u (mI_rf hp hV) 4 0 (eN V) (x := z) rfl rfl
  have e1 : (fm_si m (s + 21) (eN V) z).1 (s + 1) 0 = nn (eN V) := (mI_rd h1 1 0 0 rfl rfl).trans ((uV_k (by omega)).trans n0)
  rw [e1, nn_inc]
  refine fE_put h1 1 0 0 rfl rfl (fun m2 h2 => ?_)
  have e2 : m2.1 (s + 1) 0 = nn (eN V + 1) := (mI_rd h2 1 0 0 rfl rfl).trans uV_s
  rw [e2, nl_1, nn_sub (by omega), Nat.add_sub_cancel]
  exact fE_ret ⟨rfl, h2⟩
theorem c_isNodeN (hV : cv m s = V) (hG : vG V) {x : Nat} (hx : x < eN V) : f_X4_isNode H (s + 1) (nn x) m = some (1, m) := by
  have hN10 := hG.2.2.2.2.1.1
  rw [show (nn x : Int32) = ii (x : Int) from rfl, c_isNode hV hG (by omega) (by omega), decide_eq_true (by omega)]
  rfl
theorem c_appendLink (hS : kS H s) (hp : pS m s) (hV : cv m s = V) (hG : vG V) (hL : eL V < 16) {x y : Nat} (hx : x < eN V) (hy : y < eN V) (c d : Int32) : fE (f_X4_appendLink H (s + 1) (nn x) (nn y) c d m) (fun r m' => r = nn (eL V) ∧ mI s m m' (alE V x y c d)) := by
  have n1 : V 1 0 1 = nn (eL V) := hG.2.1
  have hN10 := hG.2.2.2.2.1.1
  unfold f_X4_appendLink alE
  rw [c_isNodeN hV hG hx, fb_n, if_neg (by decide), c_isNodeN hV hG hy, fb_n, if_neg (by decide), rd1 hV, n1, if_pos (by rw [nl_16, nn_lt (by omega) (by omega)]; omega), kS_n2 hS, kS_z2 hS, if_pos ((nn_in (by omega)).mpr hL), nn_tn (by omega), pS_lk hp hL, if_pos (kS_lk hS hL)]
  refine fE_put (mI_rf hp hV) 3 (eL V) 0 (v3 hL) rfl (fun m1 h1 => ?_)
  refine fE_put h1 3 (eL V) 1 (v3 hL) rfl (fun m2 h2 => ?_)
  refine fE_put h2 3 (eL V) 2 (v3 hL) rfl (fun m3 h3 => ?_)
  refine fE_put h3 3 (eL V) 3 (v3 hL) rfl (fun m4 h4 => ?_)
  refine fE_p (by decide) ?_
  refine fE_put h4 3 (eL V) 4 (v3 hL) rfl (fun m5 h5 => ?_)
  rw [kS_n3 hS, kS_z3 hS, nl_10, nn_mul, nn_mul, nn_add, nn_add, if_pos ((nn_in (by omega)).mpr (by omega)), nn_tn (by omega)]
  have e5 : m5.1 (s + 1) 1 = nn (eL V) := (mI_rd h5 1 0 1 rfl rfl).trans (by rw [uV_k (by omega), uV_k (by omega), uV_k (by omega), uV_k (by omega), uV_k (by omega)]; exact n1)
  rw [e5]
  refine fE_put h5 2 0 (x * 10 + y) rfl rfl (fun m6 h6 => ?_)
  have e6 : m6.1 (s + 1) 1 = nn (eL V) := (mI_rd h6 1 0 1 rfl rfl).trans (by rw [uV_k (by omega), uV_k (by omega), uV_k (by omega), uV_k (by omega), uV_k (by omega), uV_k (by omega)]; exact n1)
  refine fE_p ((nn_in (by omega)).mpr (by omega)) ?_
  rw [e6, nn_tn (by omega)]
  refine fE_put h6 2 0 (y * 10 + x) rfl rfl (fun m7 h7 => ?_)
  have e7 : m7.1 (s + 1) 1 = nn (eL V) := (mI_rd h7 1 0 1 rfl rfl).trans (by rw [uV_k (by omega), uV_k (by omega), uV_k (by omega), uV_k (by omega), uV_k (by omega), uV_k (by omega), uV_k (by omega)]; exact n1)
  rw [e7, nn_inc]
  refine fE_put h7 1 0 1 rfl rfl (fun m8 h8 => ?_)
  have e8 : m8.1 (s + 1) 1 = nn (eL V + 1) := (mI_rd h8 1 0 1 rfl rfl).trans uV_s
  rw [e8, nl_1, nn_sub (by omega), Nat.add_sub_cancel]
  exact fE_ret ⟨rfl, h8⟩
end
