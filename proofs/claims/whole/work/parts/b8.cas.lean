/-! calls, side by side: saved states -/
section
variable {H : fm_H} {m m1 m2 m00 : fm_M} {Lo : Nat → Nat → Int32} {T T' x b s t n tn : Nat} {E : VV} {l : List (Nat → Int32)} {d tx : Nat → Nat} {sv : Nat → Option (VV × List (Nat → Int32))} {c p : Int32}
theorem kX_v (hX : kX H x) {i : Nat} (hi : i < 2) : kS H (x + 341 + 160 * i) := by
  have h : i = 0 ∨ i = 1 := by omega
  rcases h with h | h
  · subst h; exact hX.2.2.2.2.2.2.2.2.1
  · subst h; exact hX.2.2.2.2.2.2.2.2.2
theorem cS_a (h : cS m x sv) {i : Nat} (hi : i < 2) : m.2.1 (x + 19) i = x + 341 + 160 * i := by
  have e : i = 0 ∨ i = 1 := by omega
  rcases e with e | e
  · subst e; exact h.1.1
  · subst e; exact h.1.2
theorem cS_sp (h : cS m x sv) {i : Nat} (hi : i < 2) : sp m (x + 341 + 160 * i) := by
  rcases h.2 i hi with ⟨_, _, e⟩ | ⟨q, _, _, e⟩
  · exact e
  · exact sp_aS e
theorem nw_1 : fm_nw .boolean (1 : Int32) = 1 := by decide
theorem t_save (hX : kX H x) (hM : kM H b) (hb : x + 661 ≤ b) (hT : TOP Lo T x b m) (v : Int32) : CALL Lo x b T (f_X11_save H x v m) (f_X12_save H b v) (an [pm_xA]) := by
  have hT0 := hT
  obtain ⟨s, t, E, l, n, d, sv, tn, tx, c, p, hK, hR, hI, hN, hW, h2⟩ := hT
  obtain ⟨hS, hS2, q1, q2, q3, q4, q5⟩ := cN_S hX hK.1
  by_cases hv : (0 : Int32) ≤ v ∧ v ≤ 1
  · obtain ⟨i, -, i1, rfl⟩ := rgN (lo := 0) (hi := 1) (by omega) (by omega) hv
    have hi : i < 2 := by omega
    unfold CALL f_X11_save f_X11_checkSavedSlot
    rw [c_out, fb_n, decide_eq_true hv, if_pos (by decide), fb_x, show H.2.1 x 3 = x + 19 from hX.2.1.2.2.2.1, show H.2.1 x 4 = x + 20 from hX.2.1.2.2.2.2, hX.2.2.2.2.2.1.1, hX.2.2.2.2.2.1.2, if_pos ((nn_in (by omega)).mpr (by omega)), nn_tn (by omega), cS_a hK.2.2.1 hi, if_pos (fm_is_b (kX_v hX hi).1), hK.1.2.1, if_pos (fm_is_b hS.1)]
    refine fE_be (c_copyS hS (kX_v hX hi) (by omega) hK.1.2.2.2.1 hI (cS_sp hK.2.2.1 hi)) (fun _ m1 ⟨E', y1, y2, y3, y4, y5⟩ => ?_)
    rw [if_pos ((nn_in (by omega)).mpr (by omega)), fb_d, nw_1]
    refine fE_ret ?_
    obtain ⟨m2, em2⟩ : ∃ m2, m2 = fm_si m1 (x + 20) i 1 := ⟨_, rfl⟩
    rw [← em2]
    have ag2 : ∀ lo hi, hi ≤ x + 20 ∨ x + 21 ≤ lo → ag lo hi m1 m2 := fun lo hi h a k z1 z2 => by
      rw [em2]
      exact ⟨si_o (by omega), rfl⟩
    have ag1 : ∀ lo hi, hi ≤ x + 341 + 160 * i ∨ x + 341 + 160 * i + 160 ≤ lo → ag lo hi m m1 := fun lo hi h => ag_fr y4 h
    have er : ∀ a, b ≤ a → m2.1 a = m.1 a := fun a ha => funext fun k => ((ag2 b (a + 1) (by omega) a k ha (by omega)).1).trans (ag1 b (a + 1) (by omega) a k ha (by omega)).1
    unfold f_X12_save
    rw [r_isBetween, fb_n, decide_eq_true hv, if_neg (by decide)]
    unfold f_X12_save_15
    rw [fb_d, si_s, if_pos rfl, kM_0 hM, kM_3 hM, kM_4 hM, nl_1112, nn_mul, nl_0, r_copy (p := 0) (q := 1112 * i) (n1 := 1112) (n2 := 2224) (by omega) (kM_z1 hM) (kM_z4 hM) (by omega) (by omega) (by omega) (by omega), fb_n, kM_z5 hM, if_pos ((nn_in (by omega)).mpr (by omega)), fb_d, nw_1, nn_tn (by omega)]
    obtain ⟨m3, em3⟩ : ∃ m3, m3 = cpM (fm_si m2 b 7 (nn 0)) (b + 1) 0 (b + 4) (1112 * i) 1112 := ⟨_, rfl⟩
    rw [← em3]
    have o3 : ∀ a, a ≠ b + 4 → ¬ a = b → m3.1 a = m2.1 a := fun a h1 h2 => by rw [em3, cpM_w h1, si_oth h2]
    have o3b : ∀ k, k ≠ 7 → m3.1 b k = m2.1 b k := fun k h => by rw [em3, cpM_o (by omega), si_o (by omega)]
    obtain ⟨m4, em4⟩ : ∃ m4, m4 = fm_si m3 (b + 5) i 1 := ⟨_, rfl⟩
    rw [← em4]
    have o4 : ∀ a, a ≠ b + 5 → m4.1 a = m3.1 a := fun a h => by rw [em4, si_oth h]
    have r4 : m4.2 = m2.2 := by rw [em4, em3]; rfl
    refine fE_ret ⟨Or.inl ⟨rfl, ?_⟩, ?_⟩
    · rw [o4 _ (by omega), em3, cpM_o (by omega), si_s]
      rfl
    · have w : ∀ lo hi, hi ≤ b → ag lo hi m2 m4 := fun lo hi h a k z1 z2 => ⟨by rw [o4 _ (by omega), o3 _ (by omega) (by omega)], by rw [r4]⟩
      have agA : ∀ lo hi, hi ≤ x + 20 ∨ (x + 21 ≤ lo ∧ hi ≤ b) → (hi ≤ x + 341 + 160 * i ∨ x + 341 + 160 * i + 160 ≤ lo) → ag lo hi m m4 := fun lo hi h h' => ag_tr (ag_tr (ag1 lo hi h') (ag2 lo hi (by omega))) (w lo hi (by omega))
      refine ⟨s, t, E, l, n, d, fun j => if j = i then some (E', l) else sv j, tn, tx, c, p, ⟨⟨hK.1.1, ?_, ?_, aS_ag hK.1.2.2.2.1 (agA _ _ (by omega) (by omega)), sp_ag hK.1.2.2.2.2 (agA _ _ (by omega) (by omega))⟩, cD_k hK.2.1 (agA _ _ (by omega) (by omega)), ⟨⟨?_, ?_⟩, fun j hj => ?_⟩, cX_k hK.2.2.2.1 (agA _ _ (by omega) (by omega)), cC_k hK.2.2.2.2 (agA _ _ (by omega) (by omega))⟩, ⟨?_, dR_c hR.2.1 ?_ ?_, fun j hj => ?_, ⟨?_, fun k hk => ?_⟩, ?_, ?_⟩, hI, hN, hW, fun j q hj e => ?_, fun a k h => ((agA 0 x (by omega) (by omega) a k (by omega) h).1).trans (h2.2 a k h)⟩
      · exact ((agA x (x + 1) (by omega) (by omega) x 5 (by omega) (by omega)).2).trans hK.1.2.1
      · exact ((agA x (x + 1) (by omega) (by omega) x 6 (by omega) (by omega)).2).trans hK.1.2.2.1
      · exact ((agA (x + 19) (x + 20) (by omega) (by omega) (x + 19) 0 (by omega) (by omega)).2).trans hK.2.2.1.1.1
      · exact ((agA (x + 19) (x + 20) (by omega) (by omega) (x + 19) 1 (by omega) (by omega)).2).trans hK.2.2.1.1.2
      · by_cases ej : j = i
        · subst ej
          refine Or.inr ⟨(E', l), if_pos rfl, ?_, aS_ag y1 (ag_tr (ag2 _ _ (by omega)) (w _ _ (by omega)))⟩
          rw [(w (x + 20) (x + 21) (by omega) (x + 20) j (by omega) (by omega)).1, em2, si_s]
        · have ef : m4.1 (x + 20) j = m.1 (x + 20) j := by
            rw [(w (x + 20) (x + 21) (by omega) (x + 20) j (by omega) (by omega)).1, em2, si_o (by omega)]
            exact (ag1 (x + 20) (x + 21) (by omega) (x + 20) j (by omega) (by omega)).1
          rw [show (fun j => if j = i then some (E', l) else sv j) j = sv j from if_neg ej, ef]
          have agj : ag (x + 341 + 160 * j) (x + 341 + 160 * j + 160) m m4 := agA _ _ (by omega) (by omega)
          rcases hK.2.2.1.2 j hj with ⟨e1, e2, e3⟩ | ⟨q, e1, e2, e3⟩
          · exact Or.inl ⟨e1, e2, sp_ag e3 agj⟩
          · exact Or.inr ⟨q, e1, e2, aS_ag e3 agj⟩
      · rw [o4 _ (by omega), o3 _ (by omega) (by omega), er _ (by omega)]
        exact hR.1
      · rw [o4 _ (by omega), o3b _ (by omega), er _ (by omega)]
      · rw [o4 _ (by omega), o3 _ (by omega) (by omega), er _ (by omega)]
      · by_cases ej : j = i
        · subst ej
          refine Or.inr ⟨(E', l), if_pos rfl, by rw [em4, si_s], ?_⟩
          refine rAll_c (ρ := m.1 (b + 1)) ⟨sm_rB y2 hI.1.2.1 hI.1.1 hR.1.1, hR.1.2⟩ y3.1.1 (fun k hk => ?_)
          rw [o4 _ (by omega), em3, cpM_d (by omega), si_oth (by omega), er _ (by omega)]
          exact congrArg _ (by omega)
        · have ef : m4.1 (b + 5) j = m.1 (b + 5) j := by
            rw [em4, si_o (by omega), o3 _ (by omega) (by omega), er _ (by omega)]
          rw [show (fun j => if j = i then some (E', l) else sv j) j = sv j from if_neg ej, ef]
          rcases hR.2.2.1 j hj with ⟨e1, e2⟩ | ⟨q, e1, e2, e3⟩
          · exact Or.inl ⟨e1, e2⟩
          · refine Or.inr ⟨q, e1, e2, rAll_c e3 (h2.1 j q hj e1).1.1.1 (fun k hk => ?_)⟩
            rw [o4 _ (by omega), em3, show (cpM (fm_si m2 b 7 (nn 0)) (b + 1) 0 (b + 4) (1112 * i) 1112).1 (b + 4) (1112 * j + k) = (fm_si m2 b 7 (nn 0)).1 (b + 4) (1112 * j + k) from if_neg (by omega), si_oth (by omega), er _ (by omega)]
      · rw [o4 _ (by omega), o3b _ (by omega), er _ (by omega)]
        exact hR.2.2.2.1.1
      · rw [o4 _ (by omega), o3 _ (by omega) (by omega), er _ (by omega)]
        exact hR.2.2.2.1.2 k hk
      · rw [o4 _ (by omega), o3b _ (by omega), er _ (by omega)]
        exact hR.2.2.2.2.1
      · rw [o4 _ (by omega), o3b _ (by omega), er _ (by omega)]
        exact hR.2.2.2.2.2
      · by_cases ej : j = i
        · have e' : (E', l) = q := by
            have : (if j = i then some (E', l) else sv j) = some (E', l) := if_pos ej
            exact Option.some.inj (this.symm.trans e)
          rw [← e']
          exact ⟨y3, sm_NM y2 hI hN⟩
        · exact h2.1 j q hj (by
            have : (if j = i then some (E', l) else sv j) = sv j := if_neg ej
            exact this.symm.trans e)
  · have hc : f_X11_save H x v m = some (.inr pm_xA, m) := by
      unfold f_X11_save f_X11_checkSavedSlot
      rw [c_out, fb_n, decide_eq_false hv, if_neg (by decide), fb_e]
    refine call_e hb hT0 (Nat.le_refl _) (k := 0) (e := pm_xA) (y := ()) rfl hc ?_
    unfold f_X12_save f_X12_save_15
    rw [r_isBetween, fb_n, decide_eq_false hv, if_pos (by decide), fb_d, si_s, if_neg (by decide), si_si]
    rfl
theorem t_restore (hX : kX H x) (hM : kM H b) (hb : x + 661 ≤ b) (hT : TOP Lo T x b m) (v : Int32) : CALL Lo x b T (f_X11_restore H x v m) (f_X12_restore H b v) (an [pm_xA, pm_xI]) := by
  have hT0 := hT
  obtain ⟨s, t, E, l, n, d, sv, tn, tx, c, p, hK, hR, hI, hN, hW, h2⟩ := hT
  obtain ⟨hS, hS2, q1, q2, q3, q4, q5⟩ := cN_S hX hK.1
  by_cases hv : (0 : Int32) ≤ v ∧ v ≤ 1
  · obtain ⟨i, -, i1, rfl⟩ := rgN (lo := 0) (hi := 1) (by omega) (by omega) hv
    have hi : i < 2 := by omega
    rcases hK.2.2.1.2 i hi with ⟨f1, f2, f3⟩ | ⟨q, f1, f2, f3⟩
    · have g2 : m.1 (b + 5) i = 0 := by
        rcases hR.2.2.1 i hi with ⟨_, e2⟩ | ⟨q, e1, _⟩
        · exact e2
        · rw [f1] at e1; cases e1
      refine call_e hb hT0 (Nat.le_refl _) (k := 1) (e := pm_xI) (y := ()) rfl ?_ ?_
      · unfold f_X11_restore f_X11_checkSavedSlot
        rw [c_out, fb_n, decide_eq_true hv, if_pos (by decide), fb_x, show H.2.1 x 4 = x + 20 from hX.2.1.2.2.2.2, hX.2.2.2.2.2.1.2, if_pos ((nn_in (by omega)).mpr (by omega)), nn_tn (by omega), f2, if_pos rfl]
      · unfold f_X12_restore f_X12_restore_28
        rw [r_isBetween, fb_n, decide_eq_true hv, if_neg (by decide), kM_4 hM, kM_z5 hM, if_pos ((nn_in (by omega)).mpr (by omega)), nn_tn (by omega), g2, if_pos rfl, fb_d, si_s, if_neg (by decide), si_si]
        rfl
    · obtain ⟨g1, g2⟩ : m.1 (b + 5) i = 1 ∧ rAll (fun k => m.1 (b + 4) (1112 * i + k)) q.1 q.2 := by
        rcases hR.2.2.1 i hi with ⟨e1, _⟩ | ⟨q', e1, e2, e3⟩
        · rw [f1] at e1; cases e1
        · rw [f1] at e1
          cases e1
          exact ⟨e2, e3⟩
      obtain ⟨w1, w2⟩ := h2.1 i q hi f1
      unfold CALL f_X11_restore f_X11_checkSavedSlot
      rw [c_out, fb_n, decide_eq_true hv, if_pos (by decide), fb_x, show H.2.1 x 3 = x + 19 from hX.2.1.2.2.2.1, show H.2.1 x 4 = x + 20 from hX.2.1.2.2.2.2, hX.2.2.2.2.2.1.1, hX.2.2.2.2.2.1.2, if_pos ((nn_in (by omega)).mpr (by omega)), nn_tn (by omega), f2, if_neg (by decide), hK.1.2.1, if_pos (fm_is_b hS.1), if_pos ((nn_in (by omega)).mpr (by omega)), cS_a hK.2.2.1 hi, if_pos (fm_is_b (kX_v hX hi).1)]
      refine fE_be (c_copyS (kX_v hX hi) hS (by omega) f3 w1 (sp_aS hK.1.2.2.2.1)) (fun _ m1 ⟨E', y1, y2, y3, y4, y5⟩ => ?_)
      unfold f_X10_erase
      rw [show H.2.1 x 2 = x + 15 from hX.2.1.2.2.1, fb_d, fb_n]
      refine fE_ret ?_
      have hcF : cF x m (fm_si m1 (x + 15) 0 0) := cF_tr (cF_fr ⟨q2, q3⟩ y4) ⟨fun a k z _ => ⟨si_o (by omega), rfl⟩, rfl⟩
      have er : ∀ a, b ≤ a → (fm_si m1 (x + 15) 0 0).1 a = m.1 a := fun a ha => cF_r hb hcF ha
      obtain ⟨m2, em2⟩ : ∃ m2, m2 = fm_si m1 (x + 15) 0 0 := ⟨_, rfl⟩
      have a15 : ∀ lo hi, hi ≤ x + 15 ∨ x + 16 ≤ lo → ag lo hi m1 m2 := fun lo hi h a k z1 z2 => by
        rw [em2]
        exact ⟨si_o (by omega), rfl⟩
      have z15 : m2.1 (x + 15) 0 = nn 0 := by rw [em2]; exact si_s
      rw [← em2] at hcF er ⊢
      unfold f_X12_restore f_X12_restore_28
      rw [r_isBetween, fb_n, decide_eq_true hv, if_neg (by decide), kM_4 hM, kM_z5 hM, if_pos ((nn_in (by omega)).mpr (by omega)), nn_tn (by omega), er _ (by omega), g1, if_neg (by decide), fb_d, si_s, if_pos rfl, kM_0 hM, kM_3 hM, nl_1112, nn_mul, nl_0, r_copy (p := 1112 * i) (q := 0) (n1 := 2224) (n2 := 1112) (by omega) (kM_z4 hM) (kM_z1 hM) (by omega) (by omega) (by omega) (by omega), fb_n, fb_d]
      refine fE_ret ⟨Or.inl ⟨rfl, ?_⟩, ?_⟩
      · rw [si_o (by omega), cpM_o (by omega), si_s]
        rfl
      · refine top_mk hb hK hR h2 (Nat.le_refl _) hcF (tR_tr (tR_tr (tR_g gR_7) (tR_c (Or.inl rfl))) (tR_g gR_6)) (n' := 0) (d' := d) (aS_ag y1 (a15 _ _ (by omega))) (sp_ag hK.1.2.2.2.2 (ag_tr (ag_fr y4 (by omega)) (a15 _ _ (by omega)))) ⟨z15, fun k hk => by omega, fun k _ hk => by omega⟩ (rAll_c ⟨sm_rB y2 w1.1.2.1 w1.1.1 g2.1, g2.2⟩ y3.1.1 (fun k hk => ?_)) ⟨si_s, fun k hk => by omega⟩ y3 (sm_NM y2 w1 w2) dW_0
        rw [si_oth (by omega), cpM_d (by omega), si_oth (by omega), er _ (by omega)]
        exact congrArg _ (by omega)
  · have hc : f_X11_restore H x v m = some (.inr pm_xA, m) := by
      unfold f_X11_restore f_X11_checkSavedSlot
      rw [c_out, fb_n, decide_eq_false hv, if_neg (by decide), fb_e]
    refine call_e hb hT0 (Nat.le_refl _) (k := 0) (e := pm_xA) (y := ()) rfl hc ?_
    unfold f_X12_restore f_X12_restore_28
    rw [r_isBetween, fb_n, decide_eq_false hv, if_pos (by decide), fb_d, si_s, if_neg (by decide), si_si]
    rfl
end
