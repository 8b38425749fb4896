/-! calls, side by side: ahead, offers, settings, nets -/
section
variable {H : fm_H} {m m1 m2 m00 : fm_M} {Lo : Nat → Nat → Int32} {T T' x b s t n tn : Nat} {E : VV} {l : List (Nat → Int32)} {d tx : Nat → Nat} {sv : Nat → Option (VV × List (Nat → Int32))} {c p : Int32}
theorem si_si {a k : Nat} {y z : Int32} : fm_si (fm_si m a k y) a k z = fm_si m a k z := by
  refine M_ext (fun c i => ?_) rfl
  rw [si_at, si_at, si_at]
  split <;> rfl
/-- which total a fate is -/
def fk (w : Nat) : Nat := if w = 0 then 1 else if w = 1 then 2 else if w = 2 then 4 else 3
theorem fk_7 (w : Nat) : fk w < 7 := by
  unfold fk
  split
  · omega
  · split
    · omega
    · split <;> omega
theorem c_fate {a w : Nat} (hw : w ≤ 3) : f_X11_fateTotal H a (nn w) m = some (m.1 a (fk w), m) := by
  unfold f_X11_fateTotal
  have h : w = 0 ∨ w = 1 ∨ w = 2 ∨ w = 3 := by omega
  rcases h with h | h | h | h <;> subst h <;> rfl
theorem c_ahead_l (hS : kS H s) (hS2 : kS H t) (hd : s + 160 ≤ t ∨ t + 160 ≤ s) (hM : kM H b) (hx : x < t ∨ t + 160 ≤ x) {n w : Nat} (hn : n ≤ 1000) (hw : w ≤ 3) {y : Int32} : ∀ (k q j : Nat) (m : fm_M) (ρ : Nat → Int32) (E : VV) (l : List (Nat → Int32)), m.2.1 x 6 = t → m.2.1 x 5 = s → m.1 (s + 25) (fk w) = y → aS m t E l → rAll ρ E l → iG E l → j + k = n → k < q → fE (f_X11_ahead_22 H x (nn n) (nn w) q (nn j) m) (fun r m' => r = .inl ((tkM E l k).1 8 0 (fk w) - y) ∧ aS m' t (tkM E l k).1 (tkM E l k).2 ∧ fr t (t + 160) m m') := by
  intro k
  induction k with
  | zero =>
    intro q j m ρ E l h6 h5 hy ha hA hI h1 h2
    obtain ⟨q, rfl⟩ : ∃ q', q = q' + 1 := ⟨q - 1, by omega⟩
    unfold f_X11_ahead_22
    have e8 : m.1 (t + 25) (fk w) = E 8 0 (fk w) := (rd8 rfl (fk w)).trans ((aS_x ha).2.2.1 8 0 _ (by omega))
    rw [if_pos ((nn_le (by omega) (by omega)).mpr (by omega)), h6, if_pos (fm_is_b hS2.1), kS_2 hS2, c_fate hw, fb_n, h5, if_pos (fm_is_b hS.1), kS_2 hS, c_fate hw, fb_n, e8, hy]
    exact fE_ret ⟨rfl, ha, ⟨fun _ _ _ => ⟨rfl, rfl⟩, rfl⟩⟩
  | succ k ih =>
    intro q j m ρ E l h6 h5 hy ha hA hI h1 h2
    obtain ⟨q, rfl⟩ : ∃ q', q = q' + 1 := ⟨q - 1, by omega⟩
    unfold f_X11_ahead_22
    rw [if_neg (by rw [nn_le (by omega) (by omega)]; omega), h6, nn_inc, if_pos (fm_is_b hS2.1)]
    obtain ⟨⟨ρ', g1⟩, g2⟩ := tk_ok hM hA hI
    refine fE_be (c_tick hS2 ha (iG_iA hI)) (fun _ m1 ⟨a1, a2⟩ => ?_)
    refine fE_w (ih q (j + 1) m1 ρ' _ _ (((a2.1 x 6 hx).2).trans h6) (((a2.1 x 5 hx).2).trans h5) (((a2.1 (s + 25) (fk w) (by omega)).1).trans hy) a1 g1 g2 (by omega) (by omega)) (fun r m' ⟨b1, b2, b3⟩ => ⟨b1, b2, fr_tr a2 b3⟩)
/-- the reference's number of ticks ahead -/
theorem r_ahead62 (hM : kM H b) {ρ : Nat → Int32} (hr : m.1 (b + 1) = ρ) (hA : rAll ρ E l) (hI : iG E l) {k w : Nat} (hk : k ≤ 1000) (hw : w ≤ 3) : fE (f_X12_ahead_62 H b (nn k) (nn (7 + fk w)) m) (fun r m' => r = (tkM E l k).1 8 0 (fk w) - E 8 0 (fk w) ∧ tR b m m' ∧ m'.1 b 7 = m.1 b 7 ∧ m'.1 b 6 = m.1 b 6 ∧ m'.1 (b + 6) = m.1 (b + 6) ∧ ∀ q, q < 1112 → m'.1 (b + 1) q = ρ q) := by
  have h7 := fk_7 w
  unfold f_X12_ahead_62
  rw [r_aside hM, fb_n, kM_0 hM, kM_z1 hM, if_pos ((nn_in (by omega)).mpr (by omega)), nn_tn (by omega), cpM_w (by omega), hr]
  refine fE_be (r_passTicks hM (m00 := cpM m (b + 1) 0 (b + 3) 0 1112) hk (rI_rf (by rw [cpM_w (by omega), hr])) hA hI) (fun _ m2 ⟨ρ', b1, b2⟩ => ?_)
  rw [if_pos ((nn_in (by omega)).mpr (by omega))]
  have eb : f_X12_copy H (H.2.1 b 2) 0 (b + 1) 0 m2 = some ((), cpM m2 (b + 3) 0 (b + 1) 0 1112) := by
    have := r_back (m := m2) hM
    rw [kM_0 hM] at this
    exact this
  rw [eb, fb_n]
  refine fE_ret ⟨?_, tR_tr (tR_tr (tR_c (Or.inr rfl)) (tR_f b1.2)) (tR_c (Or.inl rfl)), ?_, ?_, ?_, fun q hq => ?_⟩
  · rw [b1.1, b2.1.1.2.2.2.2.2.1 _ h7, hA.1.1.2.2.2.2.2.1 _ h7]
  · rw [cpM_o (by omega), rI_o b1 (by omega) (by omega) (by omega), cpM_o (by omega)]
  · rw [cpM_o (by omega), rI_o b1 (by omega) (by omega) (by omega), cpM_o (by omega)]
  · rw [cpM_w (by omega)]
    funext i
    rw [rI_o b1 (by omega) (by omega) (by omega), cpM_o (by omega)]
  · rw [cpM_d (by omega), show q - 0 + 0 = q by omega, rI_o b1 (by omega) (by omega) (by omega), cpM_d (by omega), show q - 0 + 0 = q by omega, hr]
theorem t_ahead (hX : kX H x) (hM : kM H b) (hb : x + 661 ≤ b) (hT : TOP Lo T x b m) (v w : Int32) : CALL Lo x b T (f_X11_ahead H x v w m) (f_X12_ahead H b v w) (an [pm_xA]) := by
  have hT0 := hT
  obtain ⟨s, t, E, l, n, d, sv, tn, tx, c, p, hK, hR, hI, hN, hW, h2⟩ := hT
  obtain ⟨hS, hS2, q1, q2, q3, q4, q5⟩ := cN_S hX hK.1
  by_cases hv : (1 : Int32) ≤ v ∧ v ≤ 200
  · by_cases hw : (0 : Int32) ≤ w ∧ w ≤ 3
    · obtain ⟨k, k1, k2, rfl⟩ := rgN (lo := 1) (hi := 200) (by omega) (by omega) hv
      obtain ⟨y, y1, y2, rfl⟩ := rgN (lo := 0) (hi := 3) (by omega) (by omega) hw
      unfold CALL f_X11_ahead f_X11_checkTicks f_X11_checkWhat
      rw [c_out, fb_n, decide_eq_true hv, if_pos (by decide), fb_x, c_out, fb_n, decide_eq_true hw, if_pos (by decide), fb_x, hK.1.2.2.1, if_pos (fm_is_b hS2.1), hK.1.2.1, if_pos (fm_is_b hS.1)]
      refine fE_be (c_copyS hS hS2 q1 hK.1.2.2.2.1 hI hK.1.2.2.2.2) (fun _ mc ⟨E1, z1, z2, z3, z4, z5⟩ => ?_)
      have hA1 : rAll (m.1 (b + 1)) E1 l := ⟨sm_rB z2 hI.1.2.1 hI.1.1 hR.1.1, hR.1.2⟩
      have e8 : mc.1 (s + 25) (fk y) = E 8 0 (fk y) := ((z4.1 (s + 25) (fk y) (by omega)).1).trans ((rd8 rfl _).trans ((aS_x hK.1.2.2.2.1).2.2.1 8 0 _ (by omega)))
      refine fE_w (c_ahead_l hS hS2 q1 hM (Or.inl (by omega)) (n := k) (by omega) y2 k fm_N 0 mc _ E1 l (by rw [z5]; exact hK.1.2.2.1) (by rw [z5]; exact hK.1.2.1) e8 z1 hA1 z3 (by omega) (by unfold fm_N; omega)) (fun r m1 ⟨a1, a2, a3⟩ => ?_)
      have hf : fr t (t + 160) m m1 := fr_tr z4 a3
      have hcF : cF x m m1 := cF_fr ⟨q4, q5⟩ hf
      have e : ∀ a, b ≤ a → m1.1 a = m.1 a := fun a ha => cF_r hb hcF ha
      have goal : ∀ o : Option (Int32 × fm_M), o = f_X12_ahead_62 H b (nn k) (nn (7 + fk y)) (fm_si m1 b 7 0) → fE o (fun r' m2 => an [pm_xA] r r' (m2.1 b 7) ∧ TOP Lo T x b m2) := fun o ho => by
        rw [ho]
        refine fE_w (r_ahead62 hM (m := fm_si m1 b 7 0) (ρ := m.1 (b + 1)) (by rw [si_oth (by omega), e _ (by omega)]) hA1 z3 (k := k) (by omega) y2) (fun r' m2 ⟨b1, b2, b3, b4, b5, b6⟩ => ⟨Or.inl ⟨?_, b3.trans si_s⟩, ?_⟩)
        · rw [a1, b1, z2.2.2.2.2.2.2.2.1 _ (fk_7 y)]
        · refine top_mk hb hK hR h2 (Nat.le_refl _) hcF (tR_tr (tR_g gR_7) b2) (aS_ag hK.1.2.2.2.1 (ag_fr hf (by omega))) (sp_aS a2) (cD_k hK.2.1 (ag_fr hf (by omega))) (rAll_c hR.1 hI.1.1 b6) (dR_c hR.2.1 ?_ ?_) hI hN hW
          · rw [b4, si_o (by omega), e _ (by omega)]
          · rw [b5, si_oth (by omega), e _ (by omega)]
      refine goal _ ?_
      unfold f_X12_ahead
      rw [fb_d, r_isBetween, fb_n, decide_eq_true hv, if_neg (by decide), r_isBetween, fb_n, decide_eq_true hw, if_neg (by decide)]
      have h : y = 0 ∨ y = 1 ∨ y = 2 ∨ y = 3 := by omega
      rcases h with h | h | h | h <;> subst h <;> rfl
    · refine call_e hb hT0 (Nat.le_refl _) (k := 0) (e := pm_xA) (y := 0) rfl ?_ ?_
      · unfold f_X11_ahead f_X11_checkTicks f_X11_checkWhat
        rw [c_out, fb_n, decide_eq_true hv, if_pos (by decide), fb_x, c_out, fb_n, decide_eq_false hw, if_neg (by decide), fb_e]
      · unfold f_X12_ahead
        rw [fb_d, r_isBetween, fb_n, decide_eq_true hv, if_neg (by decide), r_isBetween, fb_n, decide_eq_false hw, if_pos (by decide), r_fail, fb_n]
        rfl
  · refine call_e hb hT0 (Nat.le_refl _) (k := 0) (e := pm_xA) (y := 0) rfl ?_ ?_
    · unfold f_X11_ahead f_X11_checkTicks
      rw [c_out, fb_n, decide_eq_false hv, if_neg (by decide), fb_e]
    · unfold f_X12_ahead
      rw [fb_d, r_isBetween, fb_n, decide_eq_false hv, if_pos (by decide), r_fail, fb_n]
      rfl
/-- what one number of a circuit is -/
theorem rd9i (hN : cN m x s t E l) {i : Nat} (hi : i < 8) (k : Nat) : m.1 (m.2.1 (s + 26) i) k = E 9 i k := (rd9 (V := cv m s) rfl hi k).trans ((aS_x hN.2.2.2.1).2.2.1 9 i k (by omega))
theorem t_offer (hX : kX H x) (hM : kM H b) (hb : x + 661 ≤ b) (hT : TOP Lo T x b m) (v w : Int32) : CALL Lo x b T (f_X11_offer H x v w m) (f_X12_offer H b v w) (an [pm_xB, pm_xA]) := by
  have hT0 := hT
  obtain ⟨s, t, E, l, n, d, sv, tn, tx, c, p, hK, hR, hI, hN, hW, h2⟩ := hT
  obtain ⟨hS, hS2, q1, q2, q3, q4, q5⟩ := cN_S hX hK.1
  have h4 := rB_4 hR.1
  by_cases hv : 0 ≤ v.toInt ∧ v.toInt < eK E
  · obtain ⟨i, hi, rfl⟩ := rgC (by omega) hv
    by_cases hw : (1 : Int32) ≤ w ∧ w ≤ 9
    · obtain ⟨y, y1, y2, rfl⟩ := rgN (lo := 1) (hi := 9) (by omega) (by omega) hw
      obtain ⟨a1, a2, a3, a4, a5, a6⟩ := aS_x hK.1.2.2.2.1
      have hbk := bk_iG hI hi y2 hR.1.2.2.1
      obtain ⟨w9, w10, w11⟩ := (hI.1.2.2.2.1 i hi).2.1
      unfold CALL f_X11_offer
      rw [c_ckC hX hK.1, if_pos hv, fb_x, c_out, fb_n, decide_eq_true hw, if_pos (by decide), hK.1.2.1, if_pos (fm_is_b hS.1), kS_3 hS, kS_z26 hS, if_pos ((nn_in (by omega)).mpr (by omega)), nn_tn (by omega), if_pos (pS_cb hS a1 (by omega)), if_pos (fm_is_b hS.1)]
      refine fE_be (c_addToBacklog hS a1 (V := cv m s) rfl (i := i) (by omega) (nn y)) (fun _ m1 h => ?_)
      have haS : aS m1 s (bkE E i (nn y)) l := aS_mI hK.1.2.2.2.1 rfl h (by rw [er_bk, hK.1.2.2.2.1.2.1]) (fun q k => by
        unfold bkE
        rw [uV_k (by omega), uV_k (by omega)]) (by
        unfold bkE
        rw [uV_k (by omega), uV_k (by omega)]) hbk.1.1
      have e3 : m1.1 (m.2.1 (s + 26) i) 3 = bkE E i (nn y) 9 i 3 := by
        rw [← h.2.2.2]
        exact (rd9 (V := cv m1 s) rfl (i := i) (by omega) 3).trans ((aS_x haS).2.2.1 9 i 3 (by omega))
      rw [e3]
      refine fE_ret ?_
      have hr1 : ∀ a, b ≤ a → m1.1 a = m.1 a := fun a ha => fr_r hX hb hK.1 h.2.2.1 ha
      have hA1 : rAll ((fm_si m1 b 7 0).1 (b + 1)) E l := by
        rw [si_oth (by omega), hr1 _ (by omega)]
        exact hR.1
      unfold f_X12_offer
      rw [fb_d, r_isCircuit hM rfl (rB_4 hA1).1 (rB_4 hA1).2, fb_n, decide_eq_true hv, if_neg (by decide), r_isBetween, fb_n, decide_eq_true hw, if_neg (by decide)]
      refine fE_be (r_growBacklog hM (m00 := fm_si m1 b 7 0) (rI_rf rfl) hA1.1 hA1.2 hI.1.1 hi w11 (by omega)) (fun _ m2 ⟨ρ', b1, b2, b3⟩ => ?_)
      have nK : eK (bkE E i (nn y)) = eK E := by
        unfold eK bkE
        rw [uV_k (by omega), uV_k (by omega)]
      rw [nl_5, r_of hM (by omega), fb_n, b1.1, show ρ' (104 + 66 * i + 5) = bkE E i (nn y) 9 i 3 from (b2.2.2 i (by rw [nK]; exact hi)).1 3 (by omega) (by omega) (by omega)]
      refine fE_ret ⟨Or.inl ⟨rfl, (rI_o b1 (by omega) (by omega) (by omega)).trans si_s⟩, ?_⟩
      exact top_now hX hb hK hR hW h2 (Nat.le_refl _) h.2.2.1 haS (tR_tr (tR_g gR_7) (tR_f b1.2)) (by rw [b1.1]; exact ⟨b2, b3⟩) ((rI_o b1 (by omega) (by omega) (by omega)).trans (si_o (by omega))) (by
        funext k
        rw [rI_o b1 (by omega) (by omega) (by omega), si_oth (by omega)]) hbk (bk_NM hN) bk_lk
    · refine call_e hb hT0 (Nat.le_refl _) (k := 1) (e := pm_xA) (y := 0) rfl ?_ ?_
      · unfold f_X11_offer
        rw [c_ckC hX hK.1, if_pos hv, fb_x, c_out, fb_n, decide_eq_false hw, if_neg (by decide)]
      · unfold f_X12_offer
        rw [fb_d, r_isCircuit hM (si_oth (by omega)) h4.1 h4.2, fb_n, decide_eq_true hv, if_neg (by decide), r_isBetween, fb_n, decide_eq_false hw, if_pos (by decide), r_fail, fb_n]
        rfl
  · refine call_e hb hT0 (Nat.le_refl _) (k := 0) (e := pm_xB) (y := 0) rfl ?_ ?_
    · unfold f_X11_offer
      rw [c_ckC hX hK.1, if_neg hv, fb_e]
    · unfold f_X12_offer
      rw [fb_d, r_isCircuit hM (si_oth (by omega)) h4.1 h4.2, fb_n, decide_eq_false hv, if_pos (by decide), r_fail, fb_n]
      rfl
end
