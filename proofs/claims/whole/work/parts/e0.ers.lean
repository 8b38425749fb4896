/-! the class clears a state -/
theorem flV_0 {V : VV} {kd : Nat} {x : Int32} : flV V kd x 0 = V := by
  funext p q r
  rw [flV_at, if_neg (by omega)]
theorem flV_s {V : VV} {kd j : Nat} {x : Int32} : uV (flV V kd x j) kd 0 j x = flV V kd x (j + 1) := by
  funext p q r
  rw [uV_at, flV_at, flV_at]
  by_cases e : p = kd ∧ q = 0 ∧ r = j
  · rw [if_pos e, if_pos (by omega)]
  · rw [if_neg e]
    by_cases e2 : p = kd ∧ q = 0 ∧ r < j
    · rw [if_pos e2, if_pos (by omega)]
    · rw [if_neg e2, if_neg (by omega)]
section
variable {H : fm_H} {t : Nat} {m : fm_M} {V : VV}
theorem c_fl_l {kd a N : Nat} {x : Int32} (hv : vld kd 0 = true) (hk18 : kd ≠ 18) (ha : ad m t kd 0 = a) (hz : fm_sz H a = N) (hN : N ≤ 1000) : ∀ (k q j : Nat) (m0 : fm_M), mI t m m0 (flV V kd x j) → j + k = N → k < q → fE (f_X11_fillNumbers_2 H a x q (nn j) m0) (fun _ m' => mI t m m' (flV V kd x N)) := by
  intro k
  induction k with
  | zero =>
    intro q j m0 h0 h1 h2
    obtain ⟨q, rfl⟩ : ∃ q', q = q' + 1 := ⟨q - 1, by omega⟩
    have ej : j = N := by omega
    unfold f_X11_fillNumbers_2
    rw [hz, nn_ofNat, if_pos ((nn_le (by omega) (by omega)).mpr (by omega)), ← ej]
    exact fE_ret h0
  | succ k ih =>
    intro q j m0 h0 h1 h2
    obtain ⟨q, rfl⟩ : ∃ q', q = q' + 1 := ⟨q - 1, by omega⟩
    unfold f_X11_fillNumbers_2
    rw [hz, nn_ofNat, if_neg (by rw [nn_le (by omega) (by omega)]; omega), if_pos ((nn_in (by omega)).mpr (by omega)), nn_tn (by omega), nn_inc]
    refine fE_put h0 kd 0 j hv ha (fun m1 h3 => ?_) (vk_n hk18)
    rw [flV_s] at h3
    exact ih q (j + 1) m1 h3 (by omega) (by omega)
theorem c_fl {kd a N : Nat} {x : Int32} (hv : vld kd 0 = true) (hk18 : kd ≠ 18) (ha : ad m t kd 0 = a) (hz : fm_sz H a = N) (hN : N ≤ 1000) {m0 : fm_M} (h0 : mI t m m0 V) : fE (f_X11_fillNumbers H a x m0) (fun _ m' => mI t m m' (flV V kd x N)) := by
  unfold f_X11_fillNumbers
  rw [nl_0]
  exact c_fl_l hv hk18 ha hz hN N fm_N 0 m0 (by rw [flV_0]; exact h0) (by omega) (by unfold fm_N; omega)
theorem c_erase (hS : kS H t) (hp : pS m t) (hV : cv m t = V) : fE (f_X7_erase H t m) (fun _ m' => mI t m m' (zeV V)) := by
  have z0 := mI_rf hp hV
  unfold f_X7_erase f_X4_erase f_X2_erase f_X9_erase
  rw [kS_0 hS, kS_1 hS, kS_2 hS, kS_n3 hS, kS_l0 hS, kS_l1 hS]
  refine fE_be (Q1 := fun _ m' => mI t m m' (flV (uV (uV V 1 0 0 0) 1 0 1 0) 2 (-1) 100)) ?_ (fun _ m1 h1 => ?_)
  · refine fE_put z0 1 0 0 rfl rfl (fun m1 h1 => ?_)
    refine fE_put h1 1 0 1 rfl rfl (fun m2 h2 => ?_)
    exact fE_be (c_fl (kd := 2) rfl (by omega) rfl (kS_z3 hS) (by omega) h2) (fun _ m3 h3 => fE_ret h3)
  refine fE_be (Q1 := fun _ m' => mI t m m' (flV (flV (flV (uV (uV V 1 0 0 0) 1 0 1 0) 2 (-1) 100) 4 0 10) 5 (-1) 120)) ?_ (fun _ m2 h2 => ?_)
  · refine fE_be (c_fl (kd := 4) rfl (by omega) rfl (kS_z21 hS) (by omega) h1) (fun _ m3 h3 => ?_)
    exact fE_be (c_fl (kd := 5) rfl (by omega) rfl (kS_z22 hS) (by omega) h3) (fun _ m4 h4 => fE_ret h4)
  refine fE_be (Q1 := fun _ m' => mI t m m' (uV (uV (uV (uV (uV (uV (uV (flV (flV (flV (uV (uV V 1 0 0 0) 1 0 1 0) 2 (-1) 100) 4 0 10) 5 (-1) 120) 8 0 0 0) 8 0 1 0) 8 0 2 0) 8 0 3 0) 8 0 4 0) 8 0 5 0) 8 0 6 0)) ?_ (fun _ m3 h3 => ?_)
  · refine fE_put h2 8 0 0 rfl rfl (fun m1 h1 => ?_)
    refine fE_put h1 8 0 1 rfl rfl (fun m2 h2 => ?_)
    refine fE_put h2 8 0 2 rfl rfl (fun m3 h3 => ?_)
    refine fE_put h3 8 0 3 rfl rfl (fun m4 h4 => ?_)
    refine fE_put h4 8 0 4 rfl rfl (fun m5 h5 => ?_)
    refine fE_put h5 8 0 5 rfl rfl (fun m6 h6 => ?_)
    exact fE_put h6 8 0 6 rfl rfl (fun m7 h7 => fE_ret h7)
  refine fE_put h3 0 0 5 rfl rfl (fun m4 h4 => ?_)
  refine fE_put h4 0 0 6 rfl rfl (fun m5 h5 => ?_)
  refine fE_put h5 0 0 7 rfl rfl (fun m6 h6 => ?_)
  refine fE_put h6 0 0 8 rfl rfl (fun m7 h7 => ?_)
  exact fE_put h7 0 0 9 rfl rfl (fun m8 h8 => fE_ret h8)
end
