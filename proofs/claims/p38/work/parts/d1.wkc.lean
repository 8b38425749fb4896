/-! the weakest link: the class's count -/
section
variable {H : fm_H} {f s x b : Nat} {m m0 m1 m2 m00 : fm_M} {V : VV}
/-- what the finder writes, cuts and all -/
def zF (f : Nat) (m m' : fm_M) : Prop := (∀ a k, ¬ (f ≤ a ∧ a < f + 11) → m'.1 a k = m.1 a k) ∧ m'.2 = m.2
theorem zF_rf {f : Nat} {m : fm_M} : zF f m m := ⟨fun _ _ _ => rfl, rfl⟩
theorem zF_tr {f : Nat} {m m1 m2 : fm_M} (h1 : zF f m m1) (h2 : zF f m1 m2) : zF f m m2 := ⟨fun a k h => (h2.1 a k h).trans (h1.1 a k h), h2.2.trans h1.2⟩
theorem zF_w {f : Nat} {m m' : fm_M} (h : wF f m m') : zF f m m' := ⟨fun a k z => h.1 a k (by omega), h.2⟩
theorem zF_10 {f k : Nat} {m : fm_M} {y : Int32} : zF f m (fm_si m (f + 10) k y) := ⟨fun a i h => si_o (by omega), rfl⟩
theorem zF_cv (hd : f + 11 ≤ s ∨ s + 160 ≤ f) (hp : pS m s) (hV : cv m s = V) (h : zF f m m1) : pS m1 s ∧ cv m1 s = V := ⟨pS_2 hp h.2, (cv_f hp (fun a k _ _ => h.1 a k (by omega)) h.2).trans hV⟩
theorem c_fill_l (hz : fm_sz H (f + 10) = 16) : ∀ (k q j : Nat) (m : fm_M), (∀ i, i < j → m.1 (f + 10) i = 0) → j + k = 16 → k < q → fE (f_X11_fillNumbers_2 H (f + 10) 0 q (nn j) m) (fun _ m' => zF f m m' ∧ ∀ i, i < 16 → m'.1 (f + 10) i = 0) := by
  intro k
  induction k with
  | zero =>
    intro q j m h h1 h2
    obtain ⟨q, rfl⟩ : ∃ q', q = q' + 1 := ⟨q - 1, by omega⟩
    have : j = 16 := by omega
    subst this
    unfold f_X11_fillNumbers_2
    rw [hz, if_pos (by decide)]
    exact fE_ret ⟨zF_rf, h⟩
  | succ k ih =>
    intro q j m h h1 h2
    obtain ⟨q, rfl⟩ : ∃ q', q = q' + 1 := ⟨q - 1, by omega⟩
    unfold f_X11_fillNumbers_2
    rw [hz, nn_ofNat, if_neg (by rw [nn_le (by omega) (by omega)]; omega), if_pos ((nn_in (by omega)).mpr (by omega)), nn_tn (by omega), fb_d, nn_inc]
    refine fE_w (ih q (j + 1) _ (fun i hi => ?_) (by omega) (by omega)) (fun _ m' ⟨c1, c2⟩ => ⟨zF_tr zF_10 c1, c2⟩)
    by_cases ei : i = j
    · rw [ei]; exact si_s
    · rw [si_o (by omega)]
      exact h i (by omega)
/-- cuts of one circuit -/
theorem c_cc_l (hF : kF H f) (hS : kS H s) (hd : f + 11 ≤ s ∨ s + 160 ≤ f) (hp : pS m0 s) (hV : cv m0 s = V) (hG : vG V) (hX : iX V) (hB : iB V) (hL : iL V) {i c n w : Nat} (hi : i < eK V) (hc : c < 2) (hn : n = eW V i c) (hw : kW H w) (hwd : f + 11 ≤ w ∨ w + 4 ≤ f) (h6 : n ≤ 6) (h2 : 2 ≤ n) (w0 : m0.1 w 0 = nn n) (w1 : ∀ k, m0.1 (w + 1) k = V (11 + 4 * c) i k) (w2 : ∀ k, m0.1 (w + 2) k = V (12 + 4 * c) i k) (e0 : V (11 + 4 * c) i 0 = nn (f0E V i)) (e1 : V (11 + 4 * c) i (n - 1) = nn (t0E V i)) (g1 : f0E V i < eN V) (g2 : t0E V i < eN V) (g3 : f0E V i ≠ t0E V i) {C : Nat → Nat} :
    ∀ (k q j : Nat) (m : fm_M), zF f m0 m → (∀ y, y < 16 → m.1 (f + 9) y = bi (useF V (V 9 i 0) (nn i) y)) → (∀ y, y < 16 → m.1 (f + 10) y = nn (C y + if (bcE V i (nn y)).1 = 0 then nc (fun k => decide (V (12 + 4 * c) i k = nn y)) 1 (j - 1) else 0)) → 1 ≤ j → j + k = n → k < q → fE (f_X1_countCuts_26 H f s w q (nn j) m) (fun _ m' => zF f m0 m' ∧ ∀ y, y < 16 → m'.1 (f + 10) y = nn (C y + if (bcE V i (nn y)).1 = 0 then nc (fun k => decide (V (12 + 4 * c) i k = nn y)) 1 (n - 1) else 0)) := by
  have hN10 := hG.2.2.2.2.1.1
  have h16 := hG.2.2.2.2.1.2.1
  have hY := (hX.2.2 i hi c hc).1
  rw [← hn] at hY
  intro k
  induction k with
  | zero =>
    intro q j m hm hu hC hj h1 h2'
    obtain ⟨q, rfl⟩ : ∃ q', q = q' + 1 := ⟨q - 1, by omega⟩
    have : j = n := by omega
    subst this
    unfold f_X1_countCuts_26
    rw [hm.1 w 0 (by omega), w0, if_pos ((nn_le (by omega) (by omega)).mpr (Nat.le_refl _))]
    exact fE_ret ⟨hm, hC⟩
  | succ k ih =>
    intro q j m hm hu hC hj h1 h2'
    obtain ⟨q, rfl⟩ : ∃ q', q = q' + 1 := ⟨q - 1, by omega⟩
    have hjn : j < n := by omega
    obtain ⟨y0, y1, y2, -⟩ := wl_r hY hj hjn
    have wm0 : m.1 w 0 = ii n := (hm.1 w 0 (by omega)).trans w0
    have wm1 : ∀ k, m.1 (w + 1) k = V (11 + 4 * c) i k := fun k => (hm.1 _ k (by omega)).trans (w1 k)
    have wm2 : ∀ k, m.1 (w + 2) k = V (12 + 4 * c) i k := fun k => (hm.1 _ k (by omega)).trans (w2 k)
    obtain ⟨p1, p2⟩ := zF_cv hd hp hV hm
    have stp : ∀ y, nc (fun k => decide (V (12 + 4 * c) i k = nn y)) 1 j = nc (fun k => decide (V (12 + 4 * c) i k = nn y)) 1 (j - 1) + if decide (V (12 + 4 * c) i j = nn y) = true then 1 else 0 := fun y => by
      have := nc_ap (p := fun k => decide (V (12 + 4 * c) i k = nn y)) (n := j - 1) (a := 1)
      rw [show j - 1 + 1 = j by omega, show 1 + (j - 1) = j by omega] at this
      exact this
    unfold f_X1_countCuts_26
    rw [show m.1 w 0 = nn n from wm0, if_neg (by rw [nn_le (by omega) (by omega)]; omega), show f_X10_linkAt H w (nn j) m = some (nn y0, m) from by rw [show f_X10_linkAt H w (nn j) m = some (m.1 (w + 2) j, m) from c_linkAtN hw wm0 h6 hjn, wm2, y2], fb_n, if_neg (by rw [nl_0, nn_lt (by omega) (by omega)]; omega), if_neg (by rw [nl_16, nn_le (by omega) (by omega)]; omega), show f_X10_nodeAt H w 0 m = some (nn (f0E V i), m) from by rw [show f_X10_nodeAt H w 0 m = some (m.1 (w + 1) 0, m) from c_nodeAtN hw wm0 h6 (j := 0) (by omega), wm1, e0], fb_n, c_lastNode hw wm0 h6, fb_n, if_neg (by omega), wm1, e1, kS_0 hS, nn_inc]
    refine fE_be (c_search hF hS hd p1 p2 hG hB hL (band := V 9 i 0) (e := nn i) hu (f0 := f0E V i) (t := t0E V i) g1 (by omega) g3 (nn y0)) (fun x4 m4 ⟨s1, s2, s3, s4⟩ => ?_)
    change x4 = bi (decide ((bcE V i (nn y0)).1 ≠ 0)) at s1
    have k10 : ∀ y, m4.1 (f + 10) y = m.1 (f + 10) y := fun y => s3.1 _ _ (by omega)
    have m04 := zF_tr hm (zF_w s3)
    by_cases z : (bcE V i (nn y0)).1 = 0
    · rw [s1, decide_eq_false (fun h => h z), if_pos (by decide), kF_3 hF, hF.2.2.2.2.2, if_pos ((nn_in (by omega)).mpr (by omega)), if_pos ((nn_in (by omega)).mpr (by omega)), nn_tn (by omega), fb_d, k10, hC y0 (by omega), if_pos z, nn_inc]
      refine ih q (j + 1) _ (zF_tr m04 zF_10) (fun y hy => by rw [si_o (by omega)]; exact s4 y hy) (fun y hy => ?_) (by omega) (by omega) (by omega)
      rw [Nat.add_sub_cancel, stp y]
      by_cases ey : y = y0
      · subst ey
        rw [si_s, if_pos z, if_pos (decide_eq_true y2)]
        exact congrArg nn (by omega)
      · rw [si_o (by omega), k10, hC y hy, if_neg (show ¬ decide (V (12 + 4 * c) i j = nn y) = true from fun h => ey (nn_e (by omega) (by omega) ((of_decide_eq_true h).symm.trans y2)))]
        rfl
    · rw [s1, decide_eq_true z, if_neg (by decide)]
      refine ih q (j + 1) _ m04 s4 (fun y hy => ?_) (by omega) (by omega) (by omega)
      rw [Nat.add_sub_cancel, stp y, k10, hC y hy]
      by_cases ey : y = y0
      · subst ey
        rw [if_neg z, if_neg z]
      · rw [if_neg (show ¬ decide (V (12 + 4 * c) i j = nn y) = true from fun h => ey (nn_e (by omega) (by omega) ((of_decide_eq_true h).symm.trans y2)))]
        rfl
theorem c_countCuts (hF : kF H f) (hS : kS H s) (hd : f + 11 ≤ s ∨ s + 160 ≤ f) (hp : pS m0 s) (hV : cv m0 s = V) (hG : vG V) (hX : iX V) (hB : iB V) (hL : iL V) (hN : iN V) {i : Nat} (hi : i < eK V) (hQ : iQ V i 0) {C : Nat → Nat} (hm : zF f m0 m) (hC : ∀ y, y < 16 → m.1 (f + 10) y = nn (C y)) : fE (f_X1_countCuts H f s (nn i) m) (fun _ m' => zF f m0 m' ∧ ∀ y, y < 16 → m'.1 (f + 10) y = nn (C y + if cutE V i y = true then 1 else 0)) := by
  have h8 := hG.2.2.2.2.1.2.2.1
  have h16 := hG.2.2.2.2.1.2.1
  obtain ⟨p1, p2⟩ := zF_cv hd hp hV hm
  obtain ⟨n1, n2, n3, n4, n5⟩ := ends_E hX hG hi hQ.1
  obtain ⟨u1, u2, u3⟩ := ac_end hX hG hN hi hQ
  have hY := (hX.2.2 i hi (acE V i) acE_2).1
  have fin : ∀ m' : fm_M, (zF f m0 m' ∧ ∀ y, y < 16 → m'.1 (f + 10) y = nn (C y + if (bcE V i (nn y)).1 = 0 then nc (fun k => decide (V (12 + 4 * acE V i) i k = nn y)) 1 (eW V i (acE V i) - 1) else 0)) → zF f m0 m' ∧ ∀ y, y < 16 → m'.1 (f + 10) y = nn (C y + if cutE V i y = true then 1 else 0) := fun m' ⟨q1, q2⟩ => ⟨q1, fun y hy => by
    rw [q2 y hy, nc_1 (wl_1 hY h16 hy)]
    unfold cutE
    by_cases z : (bcE V i (nn y)).1 = 0
    · rw [if_pos z, decide_eq_true z, Bool.and_true]
    · rw [if_neg z, decide_eq_false z, Bool.and_false, if_neg (by decide)]⟩
  unfold f_X1_countCuts
  rw [kS_3 hS, kS_z26 hS, if_pos ((nn_in (by omega)).mpr (by omega)), nn_tn (by omega), if_pos (pS_cb hS p1 (by omega)), c_activeWay hS p1 p2 (by omega), fb_n, rd9 p2 (by omega)]
  have wA10 := hG.2.2.2.2.2.2.1 i (by omega)
  have wB14 := hG.2.2.2.2.2.2.2 i (by omega)
  obtain ⟨r, hr2, hr3⟩ := hp.2.1 i (by omega)
  have hr4 := hp.2.2.2.1 r hr2
  by_cases z : V 9 i 2 = 2 ∨ V 9 i 2 = 3
  · have ea : acE V i = 1 := by unfold acE; rw [if_pos z]
    rw [if_pos z, if_pos (kW_b (pS_wf hS p1 (by omega)))]
    refine fE_be (c_prepare hF hS hd p1 p2 hG (V 9 i 0) (nn i)) (fun _ m3 ⟨v1, v2⟩ => ?_)
    rw [hm.2]
    refine fE_w (c_cc_l (c := 1) (n := eW V i 1) (w := m0.2.1 (m0.2.1 (s + 26) i) 14) (C := C) hF hS hd hp hV hG hX hB hL hi (by omega) rfl (by have := pS_wf hS p1 (i := i) (by omega); rw [hm.2] at this; exact this) ?_ wB14.2 (by rw [← ea]; exact u1) ((rd14 hV (by omega) 0).trans wB14.1) (fun k => rd15 hV (by omega) k) (fun k => rd16 hV (by omega) k) (by rw [ea] at u2; exact u2) (by rw [ea] at u3; exact u3) n3 n4 n5 (eW V i 1 - 1) fm_N 1 m3 (zF_tr hm (zF_w v1)) v2 (fun y hy => ?_) (by omega) (by rw [ea] at u1; omega) (by have : eW V i 1 ≤ 6 := wB14.2; unfold fm_N; omega)) (fun _ m' h => fin m' ?_)
    · rw [hr3]
      rcases hr4 with ⟨-, q⟩ | ⟨-, q⟩ <;> rw [q] <;> omega
    · rw [v1.1 _ _ (by omega), hC y hy, Nat.sub_self]
      show nn (C y) = nn (C y + if (bcE V i (nn y)).1 = 0 then 0 else 0)
      split <;> rfl
    · rw [ea]
      exact h
  · have ea : acE V i = 0 := by unfold acE; rw [if_neg z]
    rw [if_neg z, if_pos (kW_b (pS_wo hS p1 (by omega)))]
    refine fE_be (c_prepare hF hS hd p1 p2 hG (V 9 i 0) (nn i)) (fun _ m3 ⟨v1, v2⟩ => ?_)
    rw [hm.2]
    refine fE_w (c_cc_l (c := 0) (n := eW V i 0) (w := m0.2.1 (m0.2.1 (s + 26) i) 13) (C := C) hF hS hd hp hV hG hX hB hL hi (by omega) rfl (by have := pS_wo hS p1 (i := i) (by omega); rw [hm.2] at this; exact this) ?_ wA10.2 (by rw [← ea]; exact u1) ((rd10 hV (by omega) 0).trans wA10.1) (fun k => rd11 hV (by omega) k) (fun k => rd12 hV (by omega) k) (by rw [ea] at u2; exact u2) (by rw [ea] at u3; exact u3) n3 n4 n5 (eW V i 0 - 1) fm_N 1 m3 (zF_tr hm (zF_w v1)) v2 (fun y hy => ?_) (by omega) (by rw [ea] at u1; omega) (by have : eW V i 0 ≤ 6 := wA10.2; unfold fm_N; omega)) (fun _ m' h => fin m' ?_)
    · rw [hr3]
      rcases hr4 with ⟨q, -⟩ | ⟨q, -⟩ <;> rw [q] <;> omega
    · rw [v1.1 _ _ (by omega), hC y hy, Nat.sub_self]
      show nn (C y) = nn (C y + if (bcE V i (nn y)).1 = 0 then 0 else 0)
      split <;> rfl
    · rw [ea]
      exact h
theorem c_mx_l (hF : kF H f) {g : Nat → Nat} (hg : ∀ y, y < 16 → g y ≤ 100 ∧ m.1 (f + 10) y = nn (g y)) : ∀ (k q j : Nat) (w : Int) (mo : Nat), mo ≤ 100 → j + k = 16 → k < q → f_X1_weakestLink_37 H f q (ii w) (nn mo) (nn j) m = some (ii (mx g j k w mo), m) := by
  intro k
  induction k with
  | zero =>
    intro q j w mo hmo h1 h2
    obtain ⟨q, rfl⟩ : ∃ q', q = q' + 1 := ⟨q - 1, by omega⟩
    unfold f_X1_weakestLink_37
    rw [if_pos (by rw [nl_16, nn_le (by omega) (by omega)]; omega)]
    rfl
  | succ k ih =>
    intro q j w mo hmo h1 h2
    obtain ⟨q, rfl⟩ : ∃ q', q = q' + 1 := ⟨q - 1, by omega⟩
    obtain ⟨g1, g2⟩ := hg j (by omega)
    unfold f_X1_weakestLink_37
    rw [if_neg (by rw [nl_16, nn_le (by omega) (by omega)]; omega), kF_3 hF, hF.2.2.2.2.2, if_pos ((nn_in (by omega)).mpr (by omega)), nn_tn (by omega), g2, nn_inc]
    show _ = some (ii (if g j ≤ mo then mx g (j + 1) k w mo else mx g (j + 1) k j (g j)), m)
    by_cases z : g j ≤ mo
    · rw [if_pos ((nn_le (by omega) (by omega)).mpr z), if_pos z]
      exact ih q (j + 1) w mo hmo (by omega) (by omega)
    · rw [if_neg (by rw [nn_le (by omega) (by omega)]; exact z), if_neg z, if_pos ((nn_in (by omega)).mpr (by omega))]
      exact ih q (j + 1) j (g j) g1 (by omega) (by omega)
theorem c_weakest (hF : kF H f) (hS : kS H s) (hd : f + 11 ≤ s ∨ s + 160 ≤ f) (hp : pS m0 s) (hV : cv m0 s = V) (hG : vG V) (hX : iX V) (hB : iB V) (hL : iL V) (hN : iN V) (hQ : ∀ i, i < eK V → iQ V i 0) : fE (f_X1_weakestLink H f s m0) (fun r m' => r = ii (mx (ctE V) 0 (eL V) (-1) 0) ∧ zF f m0 m') := by
  have h8 := hG.2.2.2.2.1.2.2.1
  have h16 := hG.2.2.2.2.1.2.1
  have loop : ∀ (k q i : Nat) (m : fm_M), zF f m0 m → (∀ y, y < 16 → m.1 (f + 10) y = nn (nc (fun a => cutE V a y) 0 i)) → i + k = eK V → k < q → fE (f_X1_weakestLink_10 H f s q (nn i) m) (fun r m' => r = ii (mx (ctE V) 0 (eL V) (-1) 0) ∧ zF f m0 m') := by
    intro k
    induction k with
    | zero =>
      intro q i m hm hC h1 h2
      obtain ⟨q, rfl⟩ : ∃ q', q = q' + 1 := ⟨q - 1, by omega⟩
      obtain ⟨p1, p2⟩ := zF_cv hd hp hV hm
      have ei : i = eK V := by omega
      unfold f_X1_weakestLink_10
      rw [show m.1 s 5 = nn (eK V) from (rd0 p2 5).trans hG.2.2.1, if_pos ((nn_le (by omega) (by omega)).mpr (by omega))]
      have := c_mx_l (m := m) (g := ctE V) hF (fun y hy => ⟨by
        have : ctE V y ≤ eK V := nc_le
        omega, by rw [hC y hy, ei]; rfl⟩) 16 fm_N 0 (-1) 0 (by omega) (by omega) (by unfold fm_N; omega)
      rw [show f_X1_weakestLink_37 H f fm_N (-1) 0 0 m = _ from this]
      refine fE_ret ⟨congrArg ii ?_, hm⟩
      have e := mx_e (f := ctE V) (k := eL V) (j := 0) (r := 16 - eL V) (w := -1) (mo := 0) (fun y y1 y2 => ct_z hX h16 (by omega) (by omega))
      rw [show eL V + (16 - eL V) = 16 by omega] at e
      exact e
    | succ k ih =>
      intro q i m hm hC h1 h2
      obtain ⟨q, rfl⟩ : ∃ q', q = q' + 1 := ⟨q - 1, by omega⟩
      obtain ⟨p1, p2⟩ := zF_cv hd hp hV hm
      unfold f_X1_weakestLink_10
      rw [show m.1 s 5 = nn (eK V) from (rd0 p2 5).trans hG.2.2.1, if_neg (by rw [nn_le (by omega) (by omega)]; omega), nn_inc]
      refine fE_be (c_countCuts hF hS hd hp hV hG hX hB hL hN (i := i) (by omega) (hQ i (by omega)) hm hC) (fun _ m1 ⟨q1, q2⟩ => ih q (i + 1) m1 q1 (fun y hy => ?_) (by omega) (by omega))
      rw [q2 y hy, nc_ap, Nat.zero_add]
  unfold f_X1_weakestLink f_X11_fillNumbers
  rw [kF_3 hF]
  refine fE_be (show fE (f_X11_fillNumbers_2 H (f + 10) 0 fm_N 0 m0) _ from c_fill_l (f := f) hF.2.2.2.2.2 16 fm_N 0 m0 (fun i hi => by omega) (by omega) (by unfold fm_N; omega)) (fun _ m1 ⟨q1, q2⟩ => ?_)
  exact loop (eK V) fm_N 0 m1 q1 (fun y hy => q2 y hy) (by omega) (by unfold fm_N; omega)
end
section
variable {H : fm_H} {m : fm_M} {Lo : Nat → Nat → Int32} {T x b : Nat}
theorem sm_V {V E : VV} (h : ∀ kd i k, kd ≠ 18 → V kd i k = E kd i k) : smE E V := ⟨fun k _ _ => h _ _ _ (by omega), fun k _ => h _ _ _ (by omega), fun k _ => h _ _ _ (by omega), fun j k _ _ => h _ _ _ (by omega), fun k _ => h _ _ _ (by omega), fun t _ => h _ _ _ (by omega), fun t _ _ => ⟨h _ _ _ (by omega), h _ _ _ (by omega)⟩, fun k _ => h _ _ _ (by omega), fun i k _ _ => h _ _ _ (by omega), fun i c _ hc => ⟨h _ _ _ (by omega), fun d k d1 d2 _ => h _ _ _ (by omega)⟩⟩
theorem ct_V {V E : VV} (h : ∀ kd i k, kd ≠ 18 → V kd i k = E kd i k) (hE : er V = E) (j : Nat) : ctE V j = ctE E j := by
  have eK' : eK V = eK E := by unfold eK; rw [h _ _ _ (by omega)]
  unfold ctE
  rw [eK']
  refine nc_c (fun i _ _ => ?_)
  have ea : acE V i = acE E i := by unfold acE; rw [h _ _ _ (by omega)]
  have ew : eW V i (acE E i) = eW E i (acE E i) := by
    unfold eW eA eB
    rw [h _ _ _ (by omega), h _ _ _ (by omega)]
  have eb : bcE V i (nn j) = bcE E i (nn j) := by
    rw [← hE]
    rfl
  have h2 := acE_2 (E := E) (i := i)
  unfold cutE
  rw [ea, ew, eb, ny_c (fun k _ _ => by rw [h _ _ _ (by omega)])]
end
