/-! calls, side by side: circuits -/
section
variable {H : fm_H} {m m1 m2 : fm_M} {Lo : Nat → Nat → Int32} {T T' x b s t n tn : Nat} {E : VV} {l : List (Nat → Int32)} {d tx : Nat → Nat} {sv : Nat → Option (VV × List (Nat → Int32))} {c p : Int32}
/-- after a call that changes the state that counts, and nothing else -/
theorem top_now (hX : kX H x) (hb : x + 661 ≤ b) (hK : cN m x s t E l ∧ cD m x E n d ∧ cS m x sv ∧ cX m x tn tx ∧ cC m x c p) (hR : rAll (m.1 (b + 1)) E l ∧ dR b m n d ∧ rS m b sv ∧ rX m b tn tx ∧ rC9 m b c p) (hW : dW E n d) (h2 : iS3 Lo T sv x m) (hT : T ≤ T') (hf : fr s (s + 160) m m1) {E' : VV} {l' : List (Nat → Int32)} (ha : aS m1 s E' l') (hr : tR b m1 m2) (hA : rAll (m2.1 (b + 1)) E' l') (h6 : m2.1 b 6 = m1.1 b 6) (hd : m2.1 (b + 6) = m1.1 (b + 6)) (hI : iG E' l') (hN : iNM T' E') (hl : lkO E E') : TOP Lo T' x b m2 := by
  obtain ⟨-, -, q1, q2, q3, q4, q5⟩ := cN_S hX hK.1
  have hcF : cF x m m1 := cF_fr ⟨q2, q3⟩ hf
  refine top_mk hb hK hR h2 hT hcF hr ha (sp_ag hK.1.2.2.2.2 (ag_fr hf (by omega))) (cD_lk (cD_k hK.2.1 (ag_fr hf (by omega))) hW hl) hA (dR_c hR.2.1 ?_ ?_) hI hN (dW_lk hW hl)
  · exact h6.trans (congrFun (cF_r hb hcF (by omega)) 6)
  · exact hd.trans (cF_r hb hcF (by omega))
/-- the reference's rows behind a call of the class -/
theorem fr_r (hX : kX H x) (hb : x + 661 ≤ b) (hN : cN m x s t E l) (hf : fr s (s + 160) m m1) {a : Nat} (ha : b ≤ a) : m1.1 a = m.1 a := by
  obtain ⟨-, -, q1, q2, q3, q4, q5⟩ := cN_S hX hN
  exact cF_r hb (cF_fr ⟨q2, q3⟩ hf) ha
theorem t_close (hX : kX H x) (hM : kM H b) (hb : x + 661 ≤ b) (hT : TOP Lo T x b m) (v : Int32) : CALL Lo x b T (f_X11_close H x v m) (f_X12_close H b v) (an [pm_xB]) := by
  have hT0 := hT
  obtain ⟨s, t, E, l, n, d, sv, tn, tx, c, p, hK, hR, hI, hN, hW, h2⟩ := hT
  obtain ⟨hS, -⟩ := cN_S hX hK.1
  have h4 := rB_4 hR.1
  by_cases hv : 0 ≤ v.toInt ∧ v.toInt < eK E
  · obtain ⟨i, hi, rfl⟩ := rgC (by omega) hv
    unfold CALL f_X11_close
    rw [c_ckC hX hK.1, if_pos hv, fb_x, hK.1.2.1, if_pos (fm_is_b hS.1)]
    refine fE_be (c_closeS hS hK.1.2.2.2.1 hI hi) (fun r m1 ⟨a1, a2, a3, a4⟩ => fE_ret ?_)
    have hr1 : m1.1 (b + 1) = m.1 (b + 1) := fr_r hX hb hK.1 a2 (by omega)
    refine fE_w (r_close hM hr1 hR.1 hI hi) (fun r' m2 ⟨b1, b2, b3, b4, b5, b6, b7⟩ => ⟨Or.inl ⟨by rw [a1, b1], b2⟩, ?_⟩)
    by_cases hr0 : r' = 0
    · have hr0' : r = 0 := by rw [a1, ← b1]; exact hr0
      exact top_now hX hb hK hR hW h2 (Nat.le_refl _) a2 (a4 hr0') (tR_g b5) (b7 hr0).1 b3 b4 (b7 hr0).2 (cs_NM h4.2 hN) cs_lk
    · have hr0' : r ≠ 0 := by rw [a1, ← b1]; exact hr0
      have e := a3 hr0'
      subst e
      exact top_now hX hb hK hR hW h2 (Nat.le_refl _) a2 hK.1.2.2.2.1 (tR_g b5) (by rw [b6 hr0]; exact hR.1) b3 b4 hI hN lkO_rf
  · refine call_e hb hT0 (Nat.le_refl _) (k := 0) (e := pm_xB) (y := 0) rfl ?_ ?_
    · unfold f_X11_close
      rw [c_ckC hX hK.1, if_neg hv, fb_e]
    · unfold f_X12_close
      rw [fb_d, r_isCircuit hM (si_oth (by omega)) h4.1 h4.2, fb_n, decide_eq_false hv, if_pos (by decide), r_fail, fb_n]
      rfl
theorem t_abort (hX : kX H x) (hM : kM H b) (hb : x + 661 ≤ b) (hT : TOP Lo T x b m) (v : Int32) : CALL Lo x b T (f_X11_abort H x v m) (f_X12_abort H b v) (an [pm_xB]) := by
  have hT0 := hT
  obtain ⟨s, t, E, l, n, d, sv, tn, tx, c, p, hK, hR, hI, hN, hW, h2⟩ := hT
  obtain ⟨hS, -⟩ := cN_S hX hK.1
  have h4 := rB_4 hR.1
  by_cases hv : 0 ≤ v.toInt ∧ v.toInt < eK E
  · obtain ⟨i, hi, rfl⟩ := rgC (by omega) hv
    unfold CALL f_X11_abort
    rw [c_ckC hX hK.1, if_pos hv, fb_x, hK.1.2.1, if_pos (fm_is_b hS.1)]
    refine fE_be (c_abortS hS hK.1.2.2.2.1 hI hi) (fun r m1 ⟨a1, a2, a3, a4⟩ => fE_ret ?_)
    have hr1 : m1.1 (b + 1) = m.1 (b + 1) := fr_r hX hb hK.1 a3 (by omega)
    refine fE_w (r_abort hM hr1 hR.1 hI hi) (fun r' m2 ⟨b1, b2, b3, b4, b5, b6, b7⟩ => ⟨Or.inl ⟨by rw [a1, b1], b2⟩, ?_⟩)
    refine top_now hX hb hK hR hW h2 (Nat.le_refl _) a3 a2 (tR_g b5) b6 b3 b4 b7 ?_ ?_
    · split
      · exact ab_NM hN
      · exact hN
    · split
      · exact ab_lk
      · exact lkO_rf
  · refine call_e hb hT0 (Nat.le_refl _) (k := 0) (e := pm_xB) (y := 0) rfl ?_ ?_
    · unfold f_X11_abort
      rw [c_ckC hX hK.1, if_neg hv, fb_e]
    · unfold f_X12_abort
      rw [fb_d, r_isCircuit hM (si_oth (by omega)) h4.1 h4.2, fb_n, decide_eq_false hv, if_pos (by decide), r_fail, fb_n]
      rfl
theorem t_movedIn (hX : kX H x) (hM : kM H b) (hb : x + 661 ≤ b) (hT : TOP Lo T x b m) (v : Int32) : CALL Lo x b T (f_X11_movedIn H x v m) (f_X12_movedIn H b v) (an [pm_xB]) := by
  have hT0 := hT
  obtain ⟨s, t, E, l, n, d, sv, tn, tx, c, p, hK, hR, hI, hN, hW, h2⟩ := hT
  obtain ⟨hS, -⟩ := cN_S hX hK.1
  have h4 := rB_4 hR.1
  by_cases hv : 0 ≤ v.toInt ∧ v.toInt < eK E
  · obtain ⟨i, hi, rfl⟩ := rgC (by omega) hv
    obtain ⟨a1, a2, a3, a4, a5, a6⟩ := aS_x hK.1.2.2.2.1
    unfold CALL f_X11_movedIn
    rw [c_ckC hX hK.1, if_pos hv, fb_x, hK.1.2.1, if_pos (fm_is_b hS.1), if_pos (fm_is_b hS.1), kS_3 hS, kS_z26 hS, if_pos ((nn_in (by omega)).mpr (by omega)), nn_tn (by omega), if_pos (pS_cb hS a1 (by omega)), c_ticksUntilMoved hS a1 rfl a2 (by omega), fb_n]
    refine fE_ret ?_
    refine fE_w (r_movedIn hM (m := m) rfl hR.1 hI hi) (fun r' m2 ⟨b1, b2, b3, b4, b5, b6⟩ => ⟨Or.inl ⟨?_, b3⟩, top_r hb hT0 (Nat.le_refl _) b2 b6 b4 b5⟩)
    rw [b1]
    have e : mu (cv m s) i = mu E i := mu_c (fun k _ => a3 _ _ _ (by omega)) (a3 _ _ _ (by omega)) (fun k => a3 _ _ _ (by omega)) (fun k => a3 _ _ _ (by omega)) (fun j k => a3 _ _ _ (by omega)) (a3 _ _ _ (by omega))
    rw [← e]
    rfl
  · refine call_e hb hT0 (Nat.le_refl _) (k := 0) (e := pm_xB) (y := 0) rfl ?_ ?_
    · unfold f_X11_movedIn
      rw [c_ckC hX hK.1, if_neg hv, fb_e]
    · unfold f_X12_movedIn
      rw [fb_d, r_isCircuit hM (si_oth (by omega)) h4.1 h4.2, fb_n, decide_eq_false hv, if_pos (by decide), r_fail, fb_n]
      rfl
/-- the class's draft is a way along links -/
theorem cD_nd (hD : cD m x E n d) (hW : dW E n d) (h10 : eN E ≤ 10) : ∀ k, k < n → ∃ y, y < 10 ∧ m.1 (x + 16) k = nn y := fun k hk => ⟨d k, by have := hW.2.1 k hk; omega, hD.2.1 k hk⟩
theorem t_open (hX : kX H x) (hM : kM H b) (hb : x + 661 ≤ b) (hT : TOP Lo T x b m) (v w : Int32) : CALL Lo x b T (f_X11_open H x v w m) (f_X12_open H b v w) (an [pm_xA]) := by
  have hT0 := hT
  obtain ⟨s, t, E, l, n, d, sv, tn, tx, c, p, hK, hR, hI, hN, hW, h2⟩ := hT
  obtain ⟨hS, -, q1, q2, q3, q4, q5⟩ := cN_S hX hK.1
  have h4 := rB_4 hR.1
  have h10 := hI.1.1.2.2.2.2.1.1
  by_cases hv : (1 : Int32) ≤ v ∧ v ≤ 20
  · by_cases hw : (0 : Int32) ≤ w ∧ w ≤ 9
    · obtain ⟨g1, g2⟩ := op_G (E := E) (n := n) (N := m.1 (x + 16)) (L := m.1 (x + 17)) (x := v) (y := w) hI.1.1 hW.1
      unfold CALL f_X11_open
      rw [c_out, fb_n, decide_eq_true hv, if_pos (by decide), c_out, fb_n, decide_eq_true hw, if_pos (by decide), hK.1.2.1, if_pos (fm_is_b hS.1), show H.2.1 x 2 = x + 15 from hX.2.1.2.2.1]
      refine fE_be (c_openS hS hK.1.2.2.2.1 hI (w := x + 15) hX.2.2.2.2.1 (Or.inl (by omega)) hK.2.1.1 hW.1 (cD_nd hK.2.1 hW h10) v w g2 g1) (fun r m1 ⟨a1, a2, a3, a4⟩ => ?_)
      have hr1 : ∀ a, b ≤ a → m1.1 a = m.1 a := fun a ha => fr_r hX hb hK.1 a3 ha
      have hcF1 : cF x m m1 := cF_fr ⟨q2, q3⟩ a3
      have key : ∀ m1' : fm_M, cF x m m1' → aS m1' s (opV E n (m.1 (x + 16)) (m.1 (x + 17)) v w).2 l → sp m1' t → cD m1' x (opV E n (m.1 (x + 16)) (m.1 (x + 17)) v w).2 (if r = 0 then 0 else n) d → fE (f_X12_open H b v w m1') (fun r' m2 => an [pm_xA] (.inl r) r' (m2.1 b 7) ∧ TOP Lo T x b m2) := fun m1' k1 k2 k3 k4 => by
        have e : ∀ a, b ≤ a → m1'.1 a = m.1 a := fun a ha => cF_r hb k1 ha
        refine fE_w (r_open hM (e (b + 1) (by omega)) hR.1 hI (dR_c hR.2.1 (congrFun (e b (by omega)) 6) (e (b + 6) (by omega))) hW (N := m.1 (x + 16)) (L := m.1 (x + 17)) hK.2.1.2.1 hK.2.1.2.2 hv hw) (fun r' m2 ⟨b1, b2, b3, b4, b5, b6, b7, b8⟩ => ⟨Or.inl ⟨by rw [a1, b1], b2⟩, ?_⟩)
        have err : r' = r := by rw [a1, b1]
        rw [err] at b3
        refine top_mk hb hK hR h2 (Nat.le_refl _) k1 (tR_g b5) k2 k3 k4 b6 ⟨?_, fun k hk => ?_⟩ b7 (op_NM hI.1.1 hN) ?_
        · rw [b3]
          split
          · exact nl_0
          · rfl
        · rw [b4, e (b + 6) (by omega)]
          refine hR.2.1.2 k ?_
          split at hk <;> omega
        · split
          · exact dW_0
          · exact dW_lk hW op_lk
      by_cases hr0 : r = 0
      · rw [if_pos hr0]
        unfold f_X10_erase
        rw [fb_d, fb_n]
        refine fE_ret (key _ (cF_tr hcF1 ⟨fun a k z _ => ⟨si_o (by omega), rfl⟩, rfl⟩) (aS_ag a2 (fun a k z _ => ⟨si_o (by omega), rfl⟩)) (sp_ag (sp_ag hK.1.2.2.2.2 (ag_fr a3 (by omega))) (fun a k z _ => ⟨si_o (by omega), rfl⟩)) ?_)
        rw [if_pos hr0]
        exact ⟨si_s, fun k hk => by omega, fun k _ hk => by omega⟩
      · rw [if_neg hr0]
        refine fE_ret (key _ hcF1 a2 (sp_ag hK.1.2.2.2.2 (ag_fr a3 (by omega))) ?_)
        rw [if_neg hr0]
        exact cD_lk (cD_k hK.2.1 (ag_fr a3 (by omega))) hW op_lk
    · refine call_e hb hT0 (Nat.le_refl _) (k := 0) (e := pm_xA) (y := 0) rfl ?_ ?_
      · unfold f_X11_open
        rw [c_out, fb_n, decide_eq_true hv, if_pos (by decide), c_out, fb_n, decide_eq_false hw, if_neg (by decide)]
      · unfold f_X12_open
        rw [fb_d, r_isBetween, fb_n, decide_eq_true hv, if_neg (by decide), r_isBetween, fb_n, decide_eq_false hw, if_pos (by decide), r_fail, fb_n]
        rfl
  · refine call_e hb hT0 (Nat.le_refl _) (k := 0) (e := pm_xA) (y := 0) rfl ?_ ?_
    · unfold f_X11_open
      rw [c_out, fb_n, decide_eq_false hv, if_neg (by decide)]
    · unfold f_X12_open
      rw [fb_d, r_isBetween, fb_n, decide_eq_false hv, if_pos (by decide), r_fail, fb_n]
      rfl
end
