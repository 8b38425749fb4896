/-! THE DESK OF THE LAW: building -/
theorem JI_0 {E : VV} (hI : iG E []) (hK : eK E = 0) (h8 : ∀ w, w < 4 → E 8 0 (tw w) = 0) : JI 0 E [] := by
  refine ⟨hI, by show 0 ≤ 60; omega, fun i c k h1 => by omega, fun r hr => absurd hr List.not_mem_nil, ⟨fun _ _ => 0, fun _ => 0, fun i w h1 => by omega, fun i h1 => by omega, fun w hw => ?_, rfl, Nat.le_refl _, ?_⟩, fun j hj => ?_⟩
  · rw [h8 w hw, hK]
    rfl
  · rw [hK]
    exact Nat.le_refl _
  · obtain ⟨c, c1, c2, c3⟩ := hI.2.2.2.2.2.2.2.1 j hj
    refine ⟨c, c2, c3, ?_⟩
    unfold rNj
    rw [hK]
    exact Nat.zero_le _
/-- a desk that is being built -/
def BS (x : Nat) (m : fm_M) (E : VV) (n : Nat) (d : Nat → Nat) (sv : Nat → Option (VV × List (Nat → Int32))) (b o : Int32) : Prop := DS x 0 m E [] n d sv ∧ eK E = 0 ∧ (∀ w, w < 4 → E 8 0 (tw w) = 0) ∧ iUp E ∧ E 0 0 7 = b ∧ E 0 0 8 = o
section
variable {H : fm_H} {m m1 m2 : fm_M} {x s t n : Nat} {E E' : VV} {d : Nat → Nat} {sv : Nat → Option (VV × List (Nat → Int32))} {b o : Int32}
theorem BS_SF (h : BS x m E n d sv b o) : SF E [] := ⟨h.2.2.2.1, fun i hi => by have := h.2.1; omega, fun r hr => absurd hr List.not_mem_nil⟩
theorem z0_K0 (hK : eK E = 0) : iS0 E := fun i c h1 => by omega
theorem L_addNode (hX : kX H x) (h : BS x m E n d sv b o) {z : Nat} (z1 : 1 ≤ z) (z2 : z ≤ 12) (hn : eN E < 10) : fE (f_L_addNode H x (nn z) m) (fun r m1 => r = nn (eN E) ∧ ∃ E', BS x m1 E' n d sv b o ∧ eN E' = eN E + 1 ∧ lF x m m1) := by
  obtain ⟨⟨⟨s, t, hN⟩, hD, hV, hW, hM, hJ, h0⟩, hK0, h8, hU, hb, ho⟩ := h
  obtain ⟨hS, hS2, q1, q2, q3, q4, q5⟩ := cN_S hX hN
  obtain ⟨a1, a2, a3, a4, a5, a6⟩ := aS_x hN.2.2.2.1
  have hI := hJ.1
  have hv : (1 : Int32) ≤ nn z ∧ nn z ≤ 12 := ⟨(nn_le (a := 1) (by omega) (by omega)).mpr z1, (nn_le (b := 12) (by omega) (by omega)).mpr z2⟩
  have e0 : m.1 (s + 1) 0 = nn (eN E) := ((rd1 rfl 0).trans (a3 1 0 0 (by omega))).trans hI.1.1.1
  have nK : eK (anE E (nn z)) = 0 := by
    unfold eK
    rw [an_o (by omega) (by omega)]
    exact hK0
  have nL : eL (anE E (nn z)) = eL E := by unfold eL; rw [an_o (by omega) (by omega)]
  have haG := an_iG hI hn z2
  refine fL_i (Q := fun r m1 => r = .inl (nn (eN E)) ∧ ∃ E', BS x m1 E' n d sv b o ∧ eN E' = eN E + 1 ∧ lF x m m1) ?_ (fun r m1 ⟨a1, a2⟩ => ⟨_, a1, rfl, a2⟩)
  unfold f_X11_addNode
  rw [c_out, fb_n, decide_eq_true hv, if_pos (by decide), hN.2.1, if_pos (fm_is_b hS.1), kS_0 hS, e0, if_pos (by rw [nl_10]; exact (nn_lt (by omega) (by omega)).mpr hn), if_pos (fm_is_b hS.1)]
  refine fE_be (c_appendNode hS a1 rfl a2 (by rw [a4]; exact hn) (nn z)) (fun r m1 ⟨b1, b2⟩ => fE_ret ⟨by rw [b1, a4], ?_⟩)
  have haS : aS m1 s (anE E (nn z)) [] := aS_mI hN.2.2.2.1 rfl b2 (by rw [er_an, hN.2.2.2.1.2.1]) (fun q k => an_o (by omega) (by omega)) (an_o (by omega) (by omega)) haG.1.1
  have h8' : ∀ w, w < 4 → anE E (nn z) 8 0 (tw w) = 0 := fun w hw => by
    rw [an_o (by omega) (by omega)]
    exact h8 w hw
  obtain ⟨p1, p2⟩ := ds_now hX hN hD hV b2.2.2.1 haS hW (an_lk (by omega)) (an_NM hM) (JI_0 haG nK h8') (z0_K0 nK)
  refine ⟨_, ⟨p1, nK, h8', fun j hj => ?_, ?_, ?_⟩, an_N (by omega), p2⟩
  · rw [an_o (by omega) (by omega)]
    exact hU j (by rw [← nL]; exact hj)
  · rw [an_o (by omega) (by omega)]
    exact hb
  · rw [an_o (by omega) (by omega)]
    exact ho
theorem L_set (hX : kX H x) (h : BS x m E n d sv b o) {y z : Nat} (hy : y < 2) (h0 : y = 0 → z ≤ 4) (h1 : y = 1 → z ≤ 1) : fE (f_L_set H x (nn y) (nn z) m) (fun r m1 => r = (if y = 0 then b else o) ∧ ∃ E', BS x m1 E' n d sv (if y = 0 then nn z else b) (if y = 0 then o else nn z) ∧ eN E' = eN E ∧ lF x m m1) := by
  obtain ⟨⟨⟨s, t, hN⟩, hD, hV, hW, hM, hJ, h00⟩, hK0, h8, hU, hb, ho⟩ := h
  obtain ⟨hS, hS2, q1, q2, q3, q4, q5⟩ := cN_S hX hN
  obtain ⟨a1, a2, a3, a4, a5, a6⟩ := aS_x hN.2.2.2.1
  have hI := hJ.1
  have hst := st_iG (x := z) hI hy h0 h1
  have e7 : ∀ k, m.1 s k = E 0 0 k := fun k => (rd0 rfl k).trans (a3 0 0 k (by omega))
  have o' : ∀ kd a k, ¬ (kd = 0 ∧ k = 7 + y) → stV E y (nn z) kd a k = E kd a k := fun kd a k h => by
    unfold stV
    rw [uV_at, if_neg (by omega)]
  have nK : eK (stV E y (nn z)) = 0 := by
    unfold eK
    rw [o' _ _ _ (by omega)]
    exact hK0
  have nL : eL (stV E y (nn z)) = eL E := by unfold eL; rw [o' _ _ _ (by omega)]
  have nN : eN (stV E y (nn z)) = eN E := by unfold eN; rw [o' _ _ _ (by omega)]
  have h8' : ∀ w, w < 4 → stV E y (nn z) 8 0 (tw w) = 0 := fun w hw => by
    rw [o' _ _ _ (by omega)]
    exact h8 w hw
  have fin : ∀ m1, mI s m m1 (stV (cv m s) y (nn z)) → ∃ E', BS x m1 E' n d sv (if y = 0 then nn z else b) (if y = 0 then o else nn z) ∧ eN E' = eN E ∧ lF x m m1 := fun m1 b2 => by
    have haS : aS m1 s (stV E y (nn z)) [] := aS_mI hN.2.2.2.1 rfl b2 (by rw [er_st, hN.2.2.2.1.2.1]) (fun q k => uV_k (by omega)) (uV_p (by omega)) hst.1.1
    obtain ⟨p1, p2⟩ := ds_now hX hN hD hV b2.2.2.1 haS hW st_lk (st_NM hy hM) (JI_0 hst nK h8') (z0_K0 nK)
    refine ⟨_, ⟨p1, nK, h8', fun j hj => ?_, ?_, ?_⟩, nN, p2⟩
    · rw [o' _ _ _ (by omega)]
      exact hU j (by rw [← nL]; exact hj)
    · by_cases e : y = 0
      · subst e
        exact uV_s
      · rw [if_neg e, o' _ _ _ (by omega)]
        exact hb
    · by_cases e : y = 0
      · rw [if_pos e, o' _ _ _ (by omega)]
        exact ho
      · have e1 : y = 1 := by omega
        subst e1
        exact uV_s
  refine fL_i (Q := fun r m1 => r = .inl (if y = 0 then b else o) ∧ ∃ E', BS x m1 E' n d sv (if y = 0 then nn z else b) (if y = 0 then o else nn z) ∧ eN E' = eN E ∧ lF x m m1) ?_ (fun r m1 ⟨a1, a2⟩ => ⟨_, a1, rfl, a2⟩)
  have hc : ∀ g : Nat, z ≤ g → g ≤ 4 → fE (f_X11_set_30 H x (nn y) (nn z) (nn g) 0 (nn z) m) (fun r m1 => r = .inl (E 0 0 (7 + y)) ∧ mI s m m1 (stV (cv m s) y (nn z))) := fun g g1 g2 => by
    unfold f_X11_set_30
    rw [c_out, fb_n, decide_eq_true (show (0 : Int32) ≤ nn z ∧ nn z ≤ nn g from w_le g1 (by omega)), if_pos (show bi (!true) = 0 from rfl), hN.2.1]
    rcases (show y = 0 ∨ y = 1 by omega) with hy | hy
    · subst hy
      rw [if_pos (show nn 0 = 0 from rfl), if_pos (fm_is_b hS.1), if_pos (fm_is_b hS.1)]
      refine fE_be (c_putSetting a1 rfl (w := 0) (by omega) (nn z)) (fun _ m1 h => fE_ret ⟨by rw [e7], h⟩)
    · subst hy
      rw [if_neg (show ¬ nn 1 = 0 by decide), if_pos (fm_is_b hS.1), if_pos (fm_is_b hS.1)]
      refine fE_be (c_putSetting a1 rfl (w := 1) (by omega) (nn z)) (fun _ m1 h => fE_ret ⟨by rw [e7], h⟩)
  unfold f_X11_set
  rw [c_out, fb_n, decide_eq_true (show (0 : Int32) ≤ nn y ∧ nn y ≤ 1 from w_le (g := 1) (by omega) (by omega)), if_pos (by decide)]
  rcases (show y = 0 ∨ y = 1 by omega) with e | e
  · rw [if_pos (show nn y = 0 by rw [e]; rfl)]
    refine fE_w (hc 4 (h0 e) (by omega)) (fun r m1 ⟨b1, b2⟩ => ⟨?_, fin m1 b2⟩)
    rw [b1, if_pos e, e, show 7 + 0 = 7 from rfl, hb]
  · rw [if_neg (show ¬ nn y = 0 by rw [e]; decide)]
    refine fE_w (hc 1 (h1 e) (by omega)) (fun r m1 ⟨b1, b2⟩ => ⟨?_, fin m1 b2⟩)
    rw [b1, if_neg (by omega), e, show 7 + 1 = 8 from rfl, ho]
theorem L_addLinkA (hX : kX H x) (h : BS x m E n d sv b o) {p c y : Nat} (hp : p < eN E) : f_X11_addLink H x (nn p) (nn p) (nn c) (nn y) m = some (.inr pm_xA, m) := by
  obtain ⟨⟨⟨s, t, hN⟩, hD, hV, hW, hM, hJ, h00⟩, -⟩ := h
  have hN10 := hJ.1.1.1.2.2.2.2.1.1
  unfold f_X11_addLink
  rw [c_ckN hX hN, if_pos (rgC_n hp (by omega)), fb_x, c_ckN hX hN, if_pos (rgC_n hp (by omega)), fb_x, if_pos rfl]
theorem L_addLinkB (hX : kX H x) (h : BS x m E n d sv b o) {p q c y : Nat} (hp : p < eN E) (hq : q < eN E) (hpq : p ≠ q) (c1 : 1 ≤ c) (c2 : c ≤ 99) (y1 : 1 ≤ y) (y2 : y ≤ 9) : f_X11_addLink H x (nn p) (nn q) (nn c) (nn y) m = some (.inr pm_xI, m) ∨ fE (f_L_addLink H x (nn p) (nn q) (nn c) (nn y) m) (fun r m1 => r = nn (eL E) ∧ ∃ E', BS x m1 E' n d sv b o ∧ eN E' = eN E ∧ lF x m m1) := by
  obtain ⟨⟨⟨s, t, hN⟩, hD, hV, hW, hM, hJ, h00⟩, hK0, h8, hU, hb, ho⟩ := h
  obtain ⟨hS, hS2, q1, q2, q3, q4, q5⟩ := cN_S hX hN
  obtain ⟨a1, a2, a3, a4, a5, a6⟩ := aS_x hN.2.2.2.1
  have hI := hJ.1
  have hN10 := hI.1.1.2.2.2.2.1.1
  have h16 := hI.1.1.2.2.2.2.1.2.1
  have hv3 : (1 : Int32) ≤ nn c ∧ nn c ≤ 99 := ⟨(nn_le (a := 1) (by omega) (by omega)).mpr c1, (nn_le (b := 99) (by omega) (by omega)).mpr c2⟩
  have hv4 : (1 : Int32) ≤ nn y ∧ nn y ≤ 9 := ⟨(nn_le (a := 1) (by omega) (by omega)).mpr y1, (nn_le (b := 9) (by omega) (by omega)).mpr y2⟩
  have h12 : ¬ (nn p : Int32) = nn q := fun e => hpq ((nn_eq (by omega) (by omega)).mp e)
  have hlkV : lkE (cv m s) (nn p) (nn q) = lkE E (nn p) (nn q) := by
    unfold lkE
    rw [a5]
    exact fi_c (fun j _ _ => by rw [a3 _ _ _ (by omega), a3 _ _ _ (by omega)])
  obtain ⟨lb1, lb2⟩ := lbV_lk (iB_V hN.2.2.2.1 hI.2.1) (by rw [a5]; exact h16) (x := p) (y := q) (by rw [a4]; exact hp) (by rw [a4]; exact hq) (by rw [a4]; exact hN10)
  rw [hlkV] at lb1 lb2
  have e1 : m.1 (s + 1) 1 = nn (eL E) := ((rd1 rfl 1).trans (a3 1 0 1 (by omega))).trans hI.1.1.2.1
  have hlb : f_X4_linkBetween H (s + 1) (nn p) (nn q) m = some (lbV (cv m s) (eN (cv m s)) p q, m) := c_linkBetween hS rfl a2 (by omega) (by omega) (by omega) (by omega)
  by_cases hlk : lkE E (nn p) (nn q) = -1
  · by_cases hL : eL E < 16
    · refine Or.inr (fL_i (Q := fun r m1 => r = .inl (nn (eL E)) ∧ ∃ E', BS x m1 E' n d sv b o ∧ eN E' = eN E ∧ lF x m m1) ?_ (fun r m1 ⟨a1, a2⟩ => ⟨_, a1, rfl, a2⟩))
      unfold f_X11_addLink
      rw [c_ckN hX hN, if_pos (rgC_n hp (by omega)), fb_x, c_ckN hX hN, if_pos (rgC_n hq (by omega)), fb_x, if_neg h12, c_out, fb_n, decide_eq_true hv3, if_pos (by decide), c_out, fb_n, decide_eq_true hv4, if_pos (by decide), hN.2.1, if_pos (fm_is_b hS.1), kS_0 hS, hlb, fb_n, if_pos (lb1.mpr hlk), hN.2.1, if_pos (fm_is_b hS.1), kS_0 hS, e1, if_pos (by rw [nl_16]; exact (nn_lt (by omega) (by omega)).mpr hL), if_pos (fm_is_b hS.1)]
      refine fE_be (c_appendLink hS a1 rfl a2 (by rw [a5]; exact hL) (x := p) (y := q) (by rw [a4]; exact hp) (by rw [a4]; exact hq) (nn c) (nn y)) (fun r m1 ⟨b1, b2⟩ => fE_ret ⟨by rw [b1, a5], ?_⟩)
      have haG := al_iG hI hL hp hq hpq hlk ⟨c1, c2⟩ ⟨y1, y2⟩
      have haS : aS m1 s (alE E p q (nn c) (nn y)) [] := aS_mI hN.2.2.2.1 rfl b2 (by rw [er_al, hN.2.2.2.1.2.1]) (fun q k => al_o (by omega) (by omega) (by omega)) (al_o (by omega) (by omega) (by omega)) haG.1.1
      have nK : eK (alE E p q (nn c) (nn y)) = 0 := by
        unfold eK
        rw [al_o (by omega) (by omega) (by omega)]
        exact hK0
      have h8' : ∀ w, w < 4 → alE E p q (nn c) (nn y) 8 0 (tw w) = 0 := fun w hw => by
        rw [al_o (by omega) (by omega) (by omega)]
        exact h8 w hw
      obtain ⟨p1, p2⟩ := ds_now hX hN hD hV b2.2.2.1 haS hW (al_lkO (by omega)) (al_NM hM) (JI_0 haG nK h8') (z0_K0 nK)
      refine ⟨_, ⟨p1, nK, h8', fun j hj => ?_, ?_, ?_⟩, ?_, p2⟩
      · rw [al_L (by omega)] at hj
        by_cases e : j = eL E
        · subst e
          unfold alE
          rw [uV_k (by omega), uV_k (by omega), uV_k (by omega), uV_s]
          decide
        · rw [al_o (by omega) (by omega) (by omega)]
          exact hU j (by omega)
      · rw [al_o (by omega) (by omega) (by omega)]
        exact hb
      · rw [al_o (by omega) (by omega) (by omega)]
        exact ho
      · unfold eN
        rw [al_o (by omega) (by omega) (by omega)]
    · refine Or.inl ?_
      unfold f_X11_addLink
      rw [c_ckN hX hN, if_pos (rgC_n hp (by omega)), fb_x, c_ckN hX hN, if_pos (rgC_n hq (by omega)), fb_x, if_neg h12, c_out, fb_n, decide_eq_true hv3, if_pos (by decide), c_out, fb_n, decide_eq_true hv4, if_pos (by decide), hN.2.1, if_pos (fm_is_b hS.1), kS_0 hS, hlb, fb_n, if_pos (lb1.mpr hlk), hN.2.1, if_pos (fm_is_b hS.1), kS_0 hS, e1, if_neg (by rw [nl_16, nn_lt (by omega) (by omega)]; exact hL)]
  · refine Or.inl ?_
    unfold f_X11_addLink
    rw [c_ckN hX hN, if_pos (rgC_n hp (by omega)), fb_x, c_ckN hX hN, if_pos (rgC_n hq (by omega)), fb_x, if_neg h12, c_out, fb_n, decide_eq_true hv3, if_pos (by decide), c_out, fb_n, decide_eq_true hv4, if_pos (by decide), hN.2.1, if_pos (fm_is_b hS.1), kS_0 hS, hlb, fb_n, if_neg (fun z => hlk (lb1.mp z))]
end
