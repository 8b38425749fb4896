/-! calls, side by side: best ways, and what would be -/
theorem eL_16 {E : VV} {l : List (Nat → Int32)} {ρ : Nat → Int32} (hA : rAll ρ E l) (hI : iG E l) : ρ 3 = nn (eL E) ∧ eL E ≤ 16 ∧ ρ 2 = nn (eN E) ∧ eN E ≤ 10 := by
  have h := hI.1.1
  exact ⟨hA.1.1.2.2.2.1.trans h.2.1, h.2.2.2.2.1.2.1, hA.1.1.2.2.1.trans h.1, h.2.2.2.2.1.1⟩
section
variable {H : fm_H} {m m1 m2 m00 : fm_M} {Lo : Nat → Nat → Int32} {T T' x b s t n tn : Nat} {E : VV} {l : List (Nat → Int32)} {d tx : Nat → Nat} {sv : Nat → Option (VV × List (Nat → Int32))} {c p : Int32}
theorem c_ckLN (hX : kX H x) (h : cN m x s t E l) (v : Int32) : f_X11_checkLinkOrNone H x v m = if v = -1 ∨ (0 ≤ v.toInt ∧ v.toInt < eL E) then some (.inl (), m) else some (.inr pm_xB, m) := by
  unfold f_X11_checkLinkOrNone
  by_cases e : v = -1
  · rw [if_pos e, if_pos (Or.inl e)]
  · rw [if_neg e, c_ckL hX h]
    by_cases z : 0 ≤ v.toInt ∧ v.toInt < eL E
    · rw [if_pos z, fb_x, if_pos (Or.inr z)]
    · rw [if_neg z, fb_e, if_neg (by rintro (q | q); exact e q; exact z q)]
theorem wF_cF (h : wF (x + 4) m m1) : cF x m m1 := ⟨fun a k z _ => ⟨h.1 a k (by omega), by rw [h.2]⟩, by rw [h.2]⟩
/-- what a search finds, as rows -/
def cnN (z : Bst) (k : Nat) : Int32 := nn (z.2.2 k)
def cnL (E : VV) (z : Bst) (k : Nat) : Int32 := ii (lkE E (nn (z.2.2 (k - 1))) (nn (z.2.2 k)))
theorem cn_ok {z : Bst} : bNL E z (cnN z) (cnL E z) := ⟨fun _ _ => rfl, fun _ _ _ => rfl⟩
/-- a move to the best way, on both sides -/
theorem mtb_both (hM : kM H b) {ρ : Nat → Int32} (hA : rAll ρ E l) (hI : iG E l) {i : Nat} (hi : i < eK E) (hW : dW E n d) {w r : Int32} {s f : Nat} (hc : (E 9 i 2 ≠ 0 ∧ r = 2 ∧ m1 = m) ∨ (E 9 i 2 = 0 ∧ (bcE E i w).1 = 0 ∧ r = 3 ∧ wF f m m1) ∨ (E 9 i 2 = 0 ∧ (bcE E i w).1 ≠ 0 ∧ ∃ N L, bNL E (bcE E i w) N L ∧ r = (mvV E i (bcE E i w).1 N L).1 ∧ aS m1 s (mvV E i (bcE E i w).1 N L).2 l ∧ (∀ a k, ¬ (f ≤ a ∧ a < f + 11) → ¬ (s ≤ a ∧ a < s + 160) → m1.1 a k = m.1 a k) ∧ m1.2 = m.2)) (ha : aS m s E l) (hd : f + 11 ≤ s ∨ s + 160 ≤ f) :
    ∃ E', aS m1 s E' l ∧ (∀ a k, ¬ (f ≤ a ∧ a < f + 11) → ¬ (s ≤ a ∧ a < s + 160) → m1.1 a k = m.1 a k) ∧ m1.2 = m.2 ∧ iG E' l ∧ lkO E E' ∧ (∀ T, iNM T E → iNM T E') ∧ ∀ m2, m2.1 (b + 1) = ρ → dR b m2 n d → fE (f_X12_moveToBest H b (nn i) w m2) (fun r' m3 => r' = r ∧ hRf b m2 m3 ∧ dR b m3 n d ∧ rAll (m3.1 (b + 1)) E' l) := by
  rcases hc with ⟨c1, c2, c3⟩ | ⟨c1, c2, c3, c4⟩ | ⟨c1, c2, N, L, c3, c4, c5, c6, c7⟩
  · subst c3
    refine ⟨E, ha, fun _ _ _ _ => rfl, rfl, hI, lkO_rf, fun _ h => h, fun m2 h1 hD => fE_w (r_moveToBest hM h1 hA hI hi hD hW.1 cn_ok) (fun r' m3 ⟨a1, a2, a3⟩ => ?_)⟩
    rcases a3 with ⟨_, e2, e3⟩ | ⟨e, _⟩ | ⟨e, _⟩
    · exact ⟨e2.trans c2.symm, a1, a2, by rw [e3]; exact hA⟩
    · exact absurd e c1
    · exact absurd e c1
  · refine ⟨E, aS_w hd ha c4, fun a k h1 _ => c4.1 a k (by omega), c4.2, hI, lkO_rf, fun _ h => h, fun m2 h1 hD => fE_w (r_moveToBest hM h1 hA hI hi hD hW.1 cn_ok) (fun r' m3 ⟨a1, a2, a3⟩ => ?_)⟩
    rcases a3 with ⟨e, _⟩ | ⟨_, _, e2, e3⟩ | ⟨_, e, _⟩
    · exact absurd c1 e
    · exact ⟨e2.trans c3.symm, a1, a2, by rw [e3]; exact hA⟩
    · exact absurd c2 e
  · have hG : iG (mvV E i (bcE E i w).1 N L).2 l := by
      have h := r_moveToBest (m := (fun a k => if a = b + 1 then ρ k else if a = b then nn n else if a = b + 6 then nn (d k) else 0, fun _ _ => 0, fun _ _ => 0)) hM (funext fun k => if_pos rfl) hA hI hi (n := n) (d := d) ⟨by
        show (if b = b + 1 then ρ 6 else if b = b then nn n else _) = nn n
        rw [if_neg (by omega), if_pos rfl], fun k hk => by
        show (if b + 6 = b + 1 then ρ k else if b + 6 = b then nn n else if b + 6 = b + 6 then nn (d k) else 0) = nn (d k)
        rw [if_neg (by omega), if_neg (by omega), if_pos rfl]⟩ hW.1 c3
      obtain ⟨_, _, -, -, -, h⟩ := h
      rcases h with ⟨e, _⟩ | ⟨_, e, _⟩ | ⟨_, _, _, _, e⟩
      · exact absurd c1 e
      · exact absurd e c2
      · exact e
    have h6 : (bcE E i w).1 ≤ 6 := by
      obtain ⟨n1, n2, n3, n4, n5⟩ := ends_E hI.1.2.1 hI.1.1 hi (hI.1.2.2.2.1 i hi).1
      exact (bs_ok hI.1.2.2.1 (band := E 9 i 0) (e := nn i) (y := w) n3 n5).2.1
    refine ⟨_, c5, c6, c7, hG, mv_lk, fun _ h => mv_NM h6 h, fun m2 h1 hD => fE_w (r_moveToBest hM h1 hA hI hi hD hW.1 c3) (fun r' m3 ⟨a1, a2, a3⟩ => ?_)⟩
    rcases a3 with ⟨e, _⟩ | ⟨_, e, _⟩ | ⟨_, _, e1, e2, _⟩
    · exact absurd c1 e
    · exact absurd e c2
    · exact ⟨e1.trans c4.symm, a1, a2, e2⟩
theorem cpM_w {a p d q c : Nat} (h : c ≠ d) : (cpM m a p d q 1112).1 c = m.1 c := funext fun _ => cpM_o h
theorem hRf_7 {m m' : fm_M} (h : hRf b m m') : m'.1 b 7 = m.1 b 7 := h.1 _ _ (by omega) (by omega) (by omega) (by omega)
theorem t_moveBest (hX : kX H x) (hM : kM H b) (hb : x + 661 ≤ b) (hT : TOP Lo T x b m) (v w : Int32) : CALL Lo x b T (f_X11_moveBest H x v w m) (f_X12_moveBest H b v w) (an [pm_xB]) := by
  have hT0 := hT
  obtain ⟨s, t, E, l, n, d, sv, tn, tx, c, p, hK, hR, hI, hN, hW, h2⟩ := hT
  obtain ⟨hS, -, q1, q2, q3, q4, q5⟩ := cN_S hX hK.1
  have h4 := rB_4 hR.1
  have h3 := eL_16 hR.1 hI
  by_cases hv : 0 ≤ v.toInt ∧ v.toInt < eK E
  · obtain ⟨i, hi, rfl⟩ := rgC (by omega) hv
    by_cases hw : w = -1 ∨ (0 ≤ w.toInt ∧ w.toInt < eL E)
    · unfold CALL f_X11_moveBest
      rw [c_ckC hX hK.1, if_pos hv, fb_x, c_ckLN hX hK.1, if_pos hw, fb_x, hK.1.2.1, if_pos (fm_is_b hS.1)]
      refine fE_be (c_moveToBest hS hX.2.2.2.1 hX.2.1.2.1 (Or.inl (by omega)) hK.1.2.2.2.1 hI hi w) (fun r m1 hc => fE_ret ?_)
      obtain ⟨E', a1, a2, a3, a4, a5, a6, a7⟩ := mtb_both (b := b) hM hR.1 hI hi hW hc hK.1.2.2.2.1 (Or.inl (by omega))
      have hcF : cF x m m1 := ⟨fun a k z z' => ⟨a2 a k (by omega) (by omega), by rw [a3]⟩, by rw [a3]⟩
      have e : ∀ a, b ≤ a → m1.1 a = m.1 a := fun a ha => cF_r hb hcF ha
      have goal : ∀ o : Option (Int32 × fm_M), o = (fm_bn (f_X12_moveToBest H b (nn i) w (fm_si m1 b 7 0)) fun x3 m4 => some (x3, m4)) → fE o (fun r' m2 => an [pm_xB] (.inl r) r' (m2.1 b 7) ∧ TOP Lo T x b m2) := fun o ho => by
        rw [ho]
        refine fE_be (a7 (fm_si m1 b 7 0) (by rw [si_oth (by omega), e _ (by omega)]) (dR_c hR.2.1 ?_ ?_)) (fun r' m2 ⟨b1, b2, b3, b4⟩ => fE_ret ⟨Or.inl ⟨by rw [b1], (hRf_7 b2).trans si_s⟩, ?_⟩)
        · rw [si_o (by omega), e _ (by omega)]
        · rw [si_oth (by omega), e _ (by omega)]
        · exact top_mk hb hK hR h2 (Nat.le_refl _) hcF (tR_tr (tR_g gR_7) (tR_h b2)) a1 (sp_ag hK.1.2.2.2.2 (fun a k z1 z2 => ⟨a2 a k (by omega) (by omega), by rw [a3]⟩)) (cD_lk (cD_k hK.2.1 (fun a k z1 z2 => ⟨a2 a k (by omega) (by omega), by rw [a3]⟩)) hW a5) b4 b3 a4 (a6 T hN) (dW_lk hW a5)
      refine goal _ ?_
      have er : (fm_si m1 b 7 0).1 (b + 1) = m.1 (b + 1) := by rw [si_oth (by omega), e _ (by omega)]
      unfold f_X12_moveBest
      rw [fb_d, r_isCircuit hM er h4.1 h4.2, fb_n, decide_eq_true hv, if_neg (by decide)]
      by_cases z : w = -1
      · rw [if_pos z]
      · rw [if_neg z, r_isLink hM er h3.1 h3.2.1, fb_n, decide_eq_true (hw.resolve_left z), if_neg (by decide)]
    · refine call_e hb hT0 (Nat.le_refl _) (k := 0) (e := pm_xB) (y := 0) rfl ?_ ?_
      · unfold f_X11_moveBest
        rw [c_ckC hX hK.1, if_pos hv, fb_x, c_ckLN hX hK.1, if_neg hw, fb_e]
      · unfold f_X12_moveBest
        rw [fb_d, r_isCircuit hM (si_oth (by omega)) h4.1 h4.2, fb_n, decide_eq_true hv, if_neg (by decide), if_neg (fun z => hw (Or.inl z)), r_isLink hM (si_oth (by omega)) h3.1 h3.2.1, fb_n, decide_eq_false (fun z => hw (Or.inr z)), if_pos (by decide), r_fail, fb_n]
        rfl
  · refine call_e hb hT0 (Nat.le_refl _) (k := 0) (e := pm_xB) (y := 0) rfl ?_ ?_
    · unfold f_X11_moveBest
      rw [c_ckC hX hK.1, if_neg hv, fb_e]
    · unfold f_X12_moveBest
      rw [fb_d, r_isCircuit hM (si_oth (by omega)) h4.1 h4.2, fb_n, decide_eq_false hv, if_pos (by decide), r_fail, fb_n]
      rfl
theorem t_canMove (hX : kX H x) (hM : kM H b) (hb : x + 661 ≤ b) (hT : TOP Lo T x b m) (v w : Int32) : CALL Lo x b T (f_X11_canMove H x v w m) (f_X12_canMove H b v w) (an [pm_xB]) := by
  have hT0 := hT
  obtain ⟨s, t, E, l, n, d, sv, tn, tx, c, p, hK, hR, hI, hN, hW, h2⟩ := hT
  obtain ⟨hS, hS2, q1, q2, q3, q4, q5⟩ := cN_S hX hK.1
  have h4 := rB_4 hR.1
  have h3 := eL_16 hR.1 hI
  by_cases hv : 0 ≤ v.toInt ∧ v.toInt < eK E
  · obtain ⟨i, hi, rfl⟩ := rgC (by omega) hv
    by_cases hw : w = -1 ∨ (0 ≤ w.toInt ∧ w.toInt < eL E)
    · unfold CALL f_X11_canMove
      rw [c_ckC hX hK.1, if_pos hv, fb_x, c_ckLN hX hK.1, if_pos hw, fb_x, hK.1.2.2.1, if_pos (fm_is_b hS2.1), hK.1.2.1, if_pos (fm_is_b hS.1)]
      refine fE_be (c_copyS hS hS2 q1 hK.1.2.2.2.1 hI hK.1.2.2.2.2) (fun _ mc ⟨E1, y1, y2, y3, y4, y5⟩ => ?_)
      rw [y5, hK.1.2.2.1, if_pos (fm_is_b hS2.1)]
      have hi1 : i < eK E1 := by rw [sm_K y2]; exact hi
      have hA1 : rAll (m.1 (b + 1)) E1 l := ⟨sm_rB y2 hI.1.2.1 hI.1.1 hR.1.1, hR.1.2⟩
      have hW1 := dW_lk hW (lkO_sm y2)
      refine fE_be (c_moveToBest hS2 hX.2.2.2.1 hX.2.1.2.1 (Or.inl (by omega)) y1 y3 hi1 w) (fun r m1 hc => fE_ret ?_)
      obtain ⟨E', a1, a2, a3, a4, a5, a6, a7⟩ := mtb_both (b := b) hM hA1 y3 hi1 hW1 hc y1 (Or.inl (by omega))
      have hcF1 : cF x mc m1 := ⟨fun a k z z' => ⟨a2 a k (by omega) (by omega), by rw [a3]⟩, by rw [a3]⟩
      have hcF : cF x m m1 := cF_tr (cF_fr ⟨q4, q5⟩ y4) hcF1
      have e : ∀ a, b ≤ a → m1.1 a = m.1 a := fun a ha => cF_r hb hcF ha
      have goal : ∀ o : Option (Int32 × fm_M), o = f_X12_canMove_32 H b (nn i) w (fm_si m1 b 7 0) → fE o (fun r' m2 => an [pm_xB] (.inl r) r' (m2.1 b 7) ∧ TOP Lo T x b m2) := fun o ho => by
        rw [ho]
        unfold f_X12_canMove_32
        rw [r_aside hM, fb_n]
        refine fE_be (a7 _ (by rw [cpM_w (by omega), si_oth (by omega), e _ (by omega)]) (dR_c hR.2.1 ?_ ?_)) (fun r' m2 ⟨b1, b2, b3, b4⟩ => ?_)
        · rw [cpM_o (by omega), si_o (by omega), e _ (by omega)]
        · rw [cpM_w (by omega), si_oth (by omega), e _ (by omega)]
        · rw [r_back hM, fb_n]
          refine fE_ret ⟨Or.inl ⟨by rw [b1], ?_⟩, ?_⟩
          · rw [cpM_o (by omega), hRf_7 b2, cpM_o (by omega)]
            exact si_s
          · have hag : ag s (s + 160) m m1 := ag_tr (ag_fr y4 (by omega)) (fun a k z1 z2 => ⟨a2 a k (by omega) (by omega), by rw [a3]⟩)
            refine top_mk hb hK hR h2 (Nat.le_refl _) hcF (tR_tr (tR_tr (tR_tr (tR_g gR_7) (tR_c (Or.inr rfl))) (tR_h b2)) (tR_c (Or.inl rfl))) (aS_ag hK.1.2.2.2.1 hag) (sp_aS a1) (cD_k hK.2.1 (ag_tr (ag_fr y4 (by omega)) (fun a k z1 z2 => ⟨a2 a k (by omega) (by omega), by rw [a3]⟩))) (rAll_c hR.1 hI.1.1 (fun k hk => ?_)) (dR_c b3 (cpM_o (by omega)) (cpM_w (by omega))) hI hN hW
            rw [cpM_d (by omega), show k - 0 + 0 = k by omega, b2.1 _ _ (by omega) (by omega) (by omega) (by omega), cpM_d (by omega), show k - 0 + 0 = k by omega, si_oth (by omega), e _ (by omega)]
      refine goal _ ?_
      have er : (fm_si m1 b 7 0).1 (b + 1) = m.1 (b + 1) := by rw [si_oth (by omega), e _ (by omega)]
      unfold f_X12_canMove
      rw [fb_d, r_isCircuit hM er h4.1 h4.2, fb_n, decide_eq_true hv, if_neg (by decide)]
      by_cases z : w = -1
      · rw [if_pos z]
      · rw [if_neg z, r_isLink hM er h3.1 h3.2.1, fb_n, decide_eq_true (hw.resolve_left z), if_neg (by decide)]
    · refine call_e hb hT0 (Nat.le_refl _) (k := 0) (e := pm_xB) (y := 0) rfl ?_ ?_
      · unfold f_X11_canMove
        rw [c_ckC hX hK.1, if_pos hv, fb_x, c_ckLN hX hK.1, if_neg hw, fb_e]
      · unfold f_X12_canMove
        rw [fb_d, r_isCircuit hM (si_oth (by omega)) h4.1 h4.2, fb_n, decide_eq_true hv, if_neg (by decide), if_neg (fun z => hw (Or.inl z)), r_isLink hM (si_oth (by omega)) h3.1 h3.2.1, fb_n, decide_eq_false (fun z => hw (Or.inr z)), if_pos (by decide), r_fail, fb_n]
        rfl
  · refine call_e hb hT0 (Nat.le_refl _) (k := 0) (e := pm_xB) (y := 0) rfl ?_ ?_
    · unfold f_X11_canMove
      rw [c_ckC hX hK.1, if_neg hv, fb_e]
    · unfold f_X12_canMove
      rw [fb_d, r_isCircuit hM (si_oth (by omega)) h4.1 h4.2, fb_n, decide_eq_false hv, if_pos (by decide), r_fail, fb_n]
      rfl
end
