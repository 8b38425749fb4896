/-! calls, side by side: settings and nets -/
section
variable {H : fm_H} {m m1 m2 m00 : fm_M} {Lo : Nat → Nat → Int32} {T T' x b s t n tn : Nat} {E : VV} {l : List (Nat → Int32)} {d tx : Nat → Nat} {sv : Nat → Option (VV × List (Nat → Int32))} {c p : Int32}
theorem rP_s {ρ ρ' : Nat → Int32} (h : rP ρ l) (e : ∀ k, k = 6 ∨ 632 ≤ k → ρ' k = ρ k) : rP ρ' l := rP_c h e
theorem t_setg (hX : kX H x) (hM : kM H b) (hb : x + 661 ≤ b) (hT : TOP Lo T x b m) (v w : Int32) : CALL Lo x b T (f_X11_set H x v w m) (f_X12_set H b v w) (an [pm_xA]) := by
  have hT0 := hT
  obtain ⟨s, t, E, l, n, d, sv, tn, tx, c, p, hK, hR, hI, hN, hW, h2⟩ := hT
  obtain ⟨hS, hS2, q1, q2, q3, q4, q5⟩ := cN_S hX hK.1
  by_cases hv : (0 : Int32) ≤ v ∧ v ≤ 1
  · obtain ⟨y, y1, y2, rfl⟩ := rgN (lo := 0) (hi := 1) (by omega) (by omega) hv
    have key : ∀ g : Nat, (y = 0 → g = 4) → (y = 1 → g = 1) → (∀ mm : fm_M, f_X11_set H x (nn y) w mm = f_X11_set_30 H x (nn y) w (nn g) 0 w mm) → (∀ mm : fm_M, f_X12_set H b (nn y) w mm = f_X12_set_25 H b (nn y) w (nn g) 0 w (fm_si mm b 7 0)) → CALL Lo x b T (f_X11_set H x (nn y) w m) (f_X12_set H b (nn y) w) (an [pm_xA]) := fun g g0 g1 ec er => by
      by_cases hw : (0 : Int32) ≤ w ∧ w ≤ nn g
      · obtain ⟨z, z1, z2, rfl⟩ := rgN (lo := 0) (hi := g) (by omega) (by omega) hw
        obtain ⟨a1, a2, a3, a4, a5, a6⟩ := aS_x hK.1.2.2.2.1
        have hst := st_iG (x := z) hI (w := y) (by omega) (fun e => by have := g0 e; omega) (fun e => by have := g1 e; omega)
        have e7 : ∀ k, m.1 s k = E 0 0 k := fun k => (rd0 rfl k).trans (a3 0 0 k (by omega))
        have hc : fE (f_X11_set_30 H x (nn y) (nn z) (nn g) 0 (nn z) m) (fun r m1 => r = .inl (E 0 0 (7 + y)) ∧ mI s m m1 (stV (cv m s) y (nn z))) := by
          unfold f_X11_set_30
          rw [c_out, fb_n, decide_eq_true hw, if_pos (show bi (!true) = 0 from rfl), hK.1.2.1]
          have hy : y = 0 ∨ y = 1 := by omega
          rcases hy with hy | hy
          · subst hy
            rw [if_pos (show nn 0 = 0 from rfl), if_pos (fm_is_b hS.1), if_pos (fm_is_b hS.1)]
            refine fE_be (c_putSetting a1 rfl (w := 0) (by omega) (nn z)) (fun _ m1 h => fE_ret ⟨by rw [e7], h⟩)
          · subst hy
            rw [if_neg (show ¬ nn 1 = 0 by decide), if_pos (fm_is_b hS.1), if_pos (fm_is_b hS.1)]
            refine fE_be (c_putSetting a1 rfl (w := 1) (by omega) (nn z)) (fun _ m1 h => fE_ret ⟨by rw [e7], h⟩)
        show fE _ _
        rw [ec]
        refine fE_w hc (fun r m1 ⟨b1, b2⟩ => ?_)
        have haS : aS m1 s (stV E y (nn z)) l := aS_mI hK.1.2.2.2.1 rfl b2 (by rw [er_st, hK.1.2.2.2.1.2.1]) (fun q k => uV_k (by omega)) (uV_p (by omega)) hst.1.1
        have hr1 : ∀ a, b ≤ a → m1.1 a = m.1 a := fun a ha => fr_r hX hb hK.1 b2.2.2.1 ha
        have erow : (fm_si m1 b 7 0).1 (b + 1) = m.1 (b + 1) := by rw [si_oth (by omega), hr1 _ (by omega)]
        rw [er]
        unfold f_X12_set_25
        rw [r_isBetween, fb_n, decide_eq_true hw, if_neg (by decide), kM_0 hM, kM_z1 hM, if_pos ((nn_in (by omega)).mpr (by omega)), if_pos ((nn_in (by omega)).mpr (by omega)), fb_d, nn_tn (by omega), erow]
        have eρ : m.1 (b + 1) y = E 0 0 (7 + y) := by
          have hy : y = 0 ∨ y = 1 := by omega
          rcases hy with hy | hy
          · subst hy; exact hR.1.1.1.1
          · subst hy; exact hR.1.1.1.2.1
        refine fE_ret ⟨Or.inl ⟨by rw [b1, eρ], (si_o (by omega)).trans si_s⟩, ?_⟩
        refine top_now hX hb hK hR hW h2 (Nat.le_refl _) b2.2.2.1 haS (tR_tr (tR_g gR_7) ⟨fun a k h _ _ _ _ => si_o (fun z => h z.1), rfl⟩) ?_ ((si_o (by omega)).trans (si_o (by omega))) ((si_oth (by omega)).trans (si_oth (by omega))) hst (st_NM (by omega) hN) st_lk
        rw [si_row, erow]
        exact ⟨st_rB hR.1.1 (by omega) hI.1.1, rP_s hR.1.2 (fun k hk => by rw [up_at, if_neg (by omega)])⟩
      · refine call_e hb hT0 (Nat.le_refl _) (k := 0) (e := pm_xA) (y := 0) rfl ?_ ?_
        · rw [ec]
          unfold f_X11_set_30
          rw [c_out, fb_n, decide_eq_false hw, if_neg (by decide)]
        · rw [er]
          unfold f_X12_set_25
          rw [r_isBetween, fb_n, decide_eq_false hw, if_pos (by decide), r_fail, fb_n]
          rfl
    have hy : y = 0 ∨ y = 1 := by omega
    rcases hy with hy | hy
    · refine key 4 (fun _ => rfl) (fun e => by omega) (fun mm => ?_) (fun mm => ?_)
      · unfold f_X11_set
        rw [c_out, fb_n, decide_eq_true hv, if_pos (by decide), if_pos (by rw [hy]; rfl)]
        rfl
      · unfold f_X12_set
        rw [fb_d, r_isBetween, fb_n, decide_eq_true hv, if_neg (by decide), if_pos (by rw [hy]; rfl)]
        rfl
    · refine key 1 (fun e => by omega) (fun _ => rfl) (fun mm => ?_) (fun mm => ?_)
      · unfold f_X11_set
        rw [c_out, fb_n, decide_eq_true hv, if_pos (by decide), if_neg (by rw [hy]; decide)]
        rfl
      · unfold f_X12_set
        rw [fb_d, r_isBetween, fb_n, decide_eq_true hv, if_neg (by decide), if_neg (by rw [hy]; decide)]
        rfl
  · refine call_e hb hT0 (Nat.le_refl _) (k := 0) (e := pm_xA) (y := 0) rfl ?_ ?_
    · unfold f_X11_set
      rw [c_out, fb_n, decide_eq_false hv, if_neg (by decide)]
    · unfold f_X12_set
      rw [fb_d, r_isBetween, fb_n, decide_eq_false hv, if_pos (by decide), r_fail, fb_n]
      rfl
theorem t_setUp (hX : kX H x) (hM : kM H b) (hb : x + 661 ≤ b) (hT : TOP Lo T x b m) (v : Int32) (u : Bool) : CALL Lo x b T (f_X11_setUp H x v (bi u) m) (f_X12_setUp H b v (bi u)) (an [pm_xB]) := by
  have hT0 := hT
  obtain ⟨s, t, E, l, n, d, sv, tn, tx, c, p, hK, hR, hI, hN, hW, h2⟩ := hT
  obtain ⟨hS, hS2, q1, q2, q3, q4, q5⟩ := cN_S hX hK.1
  have h3 := eL_16 hR.1 hI
  by_cases hv : 0 ≤ v.toInt ∧ v.toInt < eL E
  · obtain ⟨j, hj, rfl⟩ := rgC (by omega) hv
    obtain ⟨a1, a2, a3, a4, a5, a6⟩ := aS_x hK.1.2.2.2.1
    have hU := hI.2.2.2.1 j hj
    have eU : bi (decide (0 ≤ (j : Int) ∧ (j : Int) < eL (cv m s) ∧ cv m s 3 (j : Int).toNat 4 ≠ 0)) = E 3 j 4 := by
      rw [a5, show (j : Int).toNat = j from rfl, a3 3 j 4 (by omega)]
      rcases hU with h | h
      · rw [h, decide_eq_false (by rintro ⟨_, _, q⟩; exact q rfl)]
        rfl
      · rw [h, decide_eq_true ⟨by omega, by omega, by decide⟩]
        rfl
    unfold CALL f_X11_setUp
    rw [c_ckL hX hK.1, if_pos hv, fb_x, hK.1.2.1, if_pos (fm_is_b hS.1), kS_0 hS, nn_ii, c_isUp hS a1 rfl a2 (j := (j : Int)) (by omega) (by omega), fb_n, ← nn_ii, hK.1.2.1, if_pos (fm_is_b hS.1), eU]
    refine fE_be (c_putUpS hS hK.1.2.2.2.1 hI (u := u) hj) (fun _ m1 ⟨c1, c2⟩ => ?_)
    rw [if_pos (by rcases hU with h | h <;> rw [h] <;> decide)]
    refine fE_ret ?_
    have hr1 : m1.1 (b + 1) = m.1 (b + 1) := fr_r hX hb hK.1 c2 (by omega)
    refine fE_w (r_setUp hM hr1 hR.1 hI (u := u) hj) (fun r' m2 ⟨b1, b2, b3, b4, b5, b6⟩ => ⟨Or.inl ⟨by rw [b1], b2⟩, ?_⟩)
    exact top_now hX hb hK hR hW h2 (Nat.le_refl _) c2 c1 (tR_g b5) b6 b3 b4 (su_iG hI hj hR.1.2.2.1) (su_NM hN) su_lk
  · refine call_e hb hT0 (Nat.le_refl _) (k := 0) (e := pm_xB) (y := 0) rfl ?_ ?_
    · unfold f_X11_setUp
      rw [c_ckL hX hK.1, if_neg hv, fb_e]
    · unfold f_X12_setUp f_X12_setUp_14
      rw [r_isLink hM rfl h3.1 h3.2.1, fb_n, decide_eq_false hv, if_pos (by decide), fb_d, si_s, if_neg (by decide), si_si]
      rfl
theorem t_addNode (hX : kX H x) (hM : kM H b) (hb : x + 661 ≤ b) (hT : TOP Lo T x b m) (v : Int32) : CALL Lo x b T (f_X11_addNode H x v m) (f_X12_addNode H b v) (an [pm_xA, pm_xI]) := by
  have hT0 := hT
  obtain ⟨s, t, E, l, n, d, sv, tn, tx, c, p, hK, hR, hI, hN, hW, h2⟩ := hT
  obtain ⟨hS, hS2, q1, q2, q3, q4, q5⟩ := cN_S hX hK.1
  obtain ⟨a1, a2, a3, a4, a5, a6⟩ := aS_x hK.1.2.2.2.1
  have h3 := eL_16 hR.1 hI
  by_cases hv : (1 : Int32) ≤ v ∧ v ≤ 12
  · obtain ⟨z, z1, z2, rfl⟩ := rgN (lo := 1) (hi := 12) (by omega) (by omega) hv
    have e0 : m.1 (s + 1) 0 = nn (eN E) := ((rd1 rfl 0).trans (a3 1 0 0 (by omega))).trans hI.1.1.1
    by_cases hn : eN E < 10
    · unfold CALL f_X11_addNode
      rw [c_out, fb_n, decide_eq_true hv, if_pos (by decide), hK.1.2.1, if_pos (fm_is_b hS.1), kS_0 hS, e0, if_pos (by rw [nl_10]; exact (nn_lt (by omega) (by omega)).mpr hn), if_pos (fm_is_b hS.1)]
      refine fE_be (c_appendNode hS a1 rfl a2 (by rw [a4]; exact hn) (nn z)) (fun r m1 ⟨b1, b2⟩ => fE_ret ?_)
      have haG := an_iG hI hn z2
      have haS : aS m1 s (anE E (nn z)) l := aS_mI hK.1.2.2.2.1 rfl b2 (by rw [er_an, hK.1.2.2.2.1.2.1]) (fun q k => an_o (by omega) (by omega)) (an_o (by omega) (by omega)) haG.1.1
      have hr1 : ∀ a, b ≤ a → m1.1 a = m.1 a := fun a ha => fr_r hX hb hK.1 b2.2.2.1 ha
      have erow : (fm_si m1 b 7 0).1 (b + 1) = m.1 (b + 1) := by rw [si_oth (by omega), hr1 _ (by omega)]
      unfold f_X12_addNode
      rw [fb_d, r_isBetween, fb_n, decide_eq_true hv, if_neg (by decide), kM_0 hM, kM_z1 hM, if_pos (by decide), erow, show (2 : Int32).toNatClampNeg = 2 by decide, h3.2.2.1, if_neg (by rw [nl_10, nn_eq (by omega) (by omega)]; omega)]
      refine fE_be (r_appendNode hM (m00 := fm_si m1 b 7 0) (rI_rf erow) h3.2.2.1 hn (nn z)) (fun r' m2 ⟨d1, d2⟩ => fE_ret ⟨Or.inl ⟨by rw [b1, d1, a4], (rI_o d2 (by omega) (by omega) (by omega)).trans si_s⟩, ?_⟩)
      refine top_now hX hb hK hR hW h2 (Nat.le_refl _) b2.2.2.1 haS (tR_tr (tR_g gR_7) (tR_f d2.2)) ?_ ((rI_o d2 (by omega) (by omega) (by omega)).trans (si_o (by omega))) (by
        funext k
        rw [rI_o d2 (by omega) (by omega) (by omega), si_oth (by omega)]) haG (an_NM hN) (an_lk (by omega))
      rw [d2.1]
      exact ⟨an_rB hR.1.1 hn hI.1.1, rP_s hR.1.2 (fun k hk => by rw [up_at, if_neg (by omega), up_at, if_neg (by omega)])⟩
    · refine call_e hb hT0 (Nat.le_refl _) (k := 1) (e := pm_xI) (y := 0) rfl ?_ ?_
      · unfold f_X11_addNode
        rw [c_out, fb_n, decide_eq_true hv, if_pos (by decide), hK.1.2.1, if_pos (fm_is_b hS.1), kS_0 hS, e0, if_neg (by rw [nl_10, nn_lt (by omega) (by omega)]; omega)]
      · unfold f_X12_addNode
        rw [fb_d, r_isBetween, fb_n, decide_eq_true hv, if_neg (by decide), kM_0 hM, kM_z1 hM, if_pos (by decide), si_oth (by omega), show (2 : Int32).toNatClampNeg = 2 by decide, h3.2.2.1, if_pos (by rw [nl_10, nn_eq (by omega) (by omega)]; omega), r_fail, fb_n]
        rfl
  · refine call_e hb hT0 (Nat.le_refl _) (k := 0) (e := pm_xA) (y := 0) rfl ?_ ?_
    · unfold f_X11_addNode
      rw [c_out, fb_n, decide_eq_false hv, if_neg (by decide)]
    · unfold f_X12_addNode
      rw [fb_d, r_isBetween, fb_n, decide_eq_false hv, if_pos (by decide), r_fail, fb_n]
      rfl
theorem t_addLink (hX : kX H x) (hM : kM H b) (hb : x + 661 ≤ b) (hT : TOP Lo T x b m) (v1 v2 v3 v4 : Int32) : CALL Lo x b T (f_X11_addLink H x v1 v2 v3 v4 m) (f_X12_addLink H b v1 v2 v3 v4) (an [pm_xB, pm_xA, pm_xI]) := by
  have hT0 := hT
  obtain ⟨s, t, E, l, n, d, sv, tn, tx, c, p, hK, hR, hI, hN, hW, h2⟩ := hT
  obtain ⟨hS, hS2, q1, q2, q3, q4, q5⟩ := cN_S hX hK.1
  obtain ⟨a1, a2, a3, a4, a5, a6⟩ := aS_x hK.1.2.2.2.1
  obtain ⟨h31, h32, h33, h34⟩ := eL_16 hR.1 hI
  have rr : ∀ mm : fm_M, mm = fm_si m b 7 0 → mm.1 (b + 1) = m.1 (b + 1) := fun mm e => by rw [e, si_oth (by omega)]
  by_cases hv1 : 0 ≤ v1.toInt ∧ v1.toInt < eN E
  · by_cases hv2 : 0 ≤ v2.toInt ∧ v2.toInt < eN E
    · by_cases h12 : v1 = v2
      · refine call_e hb hT0 (Nat.le_refl _) (k := 1) (e := pm_xA) (y := 0) rfl ?_ ?_
        · unfold f_X11_addLink
          rw [c_ckN hX hK.1, if_pos hv1, fb_x, c_ckN hX hK.1, if_pos hv2, fb_x, if_pos h12]
        · unfold f_X12_addLink
          rw [fb_d, r_isNode hM (si_oth (by omega)) h33 h34, fb_n, decide_eq_true hv1, if_neg (by decide), r_isNode hM (si_oth (by omega)) h33 h34, fb_n, decide_eq_true hv2, if_neg (by decide), if_pos h12, r_fail, fb_n]
          rfl
      · by_cases hv3 : (1 : Int32) ≤ v3 ∧ v3 ≤ 99
        · by_cases hv4 : (1 : Int32) ≤ v4 ∧ v4 ≤ 9
          · obtain ⟨x1, hx1, rfl⟩ := rgC (by omega) hv1
            obtain ⟨y1, hy1, rfl⟩ := rgC (by omega) hv2
            obtain ⟨z3, e31, e32, rfl⟩ := rgN (lo := 1) (hi := 99) (by omega) (by omega) hv3
            obtain ⟨z4, e41, e42, rfl⟩ := rgN (lo := 1) (hi := 9) (by omega) (by omega) hv4
            have hxy : x1 ≠ y1 := fun e => h12 (by rw [e])
            have hBV : iB (cv m s) := fun p q hp hq => by
              have := hI.2.1 p q hp hq
              rw [a3 _ _ _ (by omega), this]
              unfold lkE
              rw [a5]
              exact congrArg ii (fi_c (fun j _ _ => by rw [a3 _ _ _ (by omega), a3 _ _ _ (by omega)]))
            have hlkV : lkE (cv m s) (nn x1) (nn y1) = lkE E (nn x1) (nn y1) := by
              unfold lkE
              rw [a5]
              exact fi_c (fun j _ _ => by rw [a3 _ _ _ (by omega), a3 _ _ _ (by omega)])
            obtain ⟨lb1, lb2⟩ := lbV_lk hBV (by rw [a5]; exact h32) (x := x1) (y := y1) (by rw [a4]; exact hx1) (by rw [a4]; exact hy1) (by rw [a4]; exact h34)
            rw [hlkV] at lb1 lb2
            have e1 : m.1 (s + 1) 1 = nn (eL E) := ((rd1 rfl 1).trans (a3 1 0 1 (by omega))).trans hI.1.1.2.1
            have hlb : f_X4_linkBetween H (s + 1) (nn x1) (nn y1) m = some (lbV (cv m s) (eN (cv m s)) x1 y1, m) := c_linkBetween hS rfl a2 (by omega) (by omega) (by omega) (by omega)
            have hm1 : -1 = (-1 : Int32) := rfl
            have lkr : lkE E (nn x1) (nn y1) = -1 ∨ ∃ j, j < eL E ∧ lkE E (nn x1) (nn y1) = (j : Nat) := by
              by_cases z : lkE E (nn x1) (nn y1) = -1
              · exact Or.inl z
              · exact Or.inr (lkE_r z)
            have rl : ∀ mm : fm_M, mm.1 (b + 1) = m.1 (b + 1) → f_X12_linkOf H b (nn x1) (nn y1) mm = some (ii (lkE E (nn x1) (nn y1)), mm) := fun mm hmm => r_linkE hM (m00 := mm) (rI_rf hmm) hR.1.1.1 hI.1.1 x1 y1
            by_cases hlk : lkE E (nn x1) (nn y1) = -1
            · by_cases hL : eL E < 16
              · unfold CALL f_X11_addLink
                rw [c_ckN hX hK.1, if_pos hv1, fb_x, c_ckN hX hK.1, if_pos hv2, fb_x, if_neg h12, c_out, fb_n, decide_eq_true hv3, if_pos (by decide), c_out, fb_n, decide_eq_true hv4, if_pos (by decide), hK.1.2.1, if_pos (fm_is_b hS.1), kS_0 hS, hlb, fb_n, if_pos (lb1.mpr hlk), hK.1.2.1, if_pos (fm_is_b hS.1), kS_0 hS, e1, if_pos (by rw [nl_16]; exact (nn_lt (by omega) (by omega)).mpr hL), if_pos (fm_is_b hS.1)]
                refine fE_be (c_appendLink hS a1 rfl a2 (by rw [a5]; exact hL) (x := x1) (y := y1) (by rw [a4]; exact hx1) (by rw [a4]; exact hy1) (nn z3) (nn z4)) (fun r m1 ⟨b1, b2⟩ => fE_ret ?_)
                have haG := al_iG hI hL hx1 hy1 hxy hlk ⟨e31, e32⟩ ⟨e41, e42⟩
                have haS : aS m1 s (alE E x1 y1 (nn z3) (nn z4)) l := aS_mI hK.1.2.2.2.1 rfl b2 (by rw [er_al, hK.1.2.2.2.1.2.1]) (fun q k => al_o (by omega) (by omega) (by omega)) (al_o (by omega) (by omega) (by omega)) haG.1.1
                have hr1 : ∀ a, b ≤ a → m1.1 a = m.1 a := fun a ha => fr_r hX hb hK.1 b2.2.2.1 ha
                have erow : (fm_si m1 b 7 0).1 (b + 1) = m.1 (b + 1) := by rw [si_oth (by omega), hr1 _ (by omega)]
                unfold f_X12_addLink
                rw [fb_d, r_isNode hM erow h33 h34, fb_n, decide_eq_true hv1, if_neg (by decide), r_isNode hM erow h33 h34, fb_n, decide_eq_true hv2, if_neg (by decide), if_neg h12, r_isBetween, fb_n, decide_eq_true hv3, if_neg (by decide), r_isBetween, fb_n, decide_eq_true hv4, if_neg (by decide), rl _ erow, fb_n, hlk, if_pos (by decide), kM_0 hM, kM_z1 hM, if_pos (by decide), erow, show (3 : Int32).toNatClampNeg = 3 by decide, h31, if_neg (by rw [nl_16, nn_eq (by omega) (by omega)]; omega)]
                refine fE_be (r_appendLink hM (m00 := fm_si m1 b 7 0) (rI_rf erow) h31 hL (nn x1) (nn y1) (nn z3) (nn z4)) (fun r' m2 ⟨d1, d2⟩ => fE_ret ⟨Or.inl ⟨by rw [b1, d1, a5], (rI_o d2 (by omega) (by omega) (by omega)).trans si_s⟩, ?_⟩)
                refine top_now hX hb hK hR hW h2 (Nat.le_refl _) b2.2.2.1 haS (tR_tr (tR_g gR_7) (tR_f d2.2)) ?_ ((rI_o d2 (by omega) (by omega) (by omega)).trans (si_o (by omega))) (by
                  funext k
                  rw [rI_o d2 (by omega) (by omega) (by omega), si_oth (by omega)]) haG (al_NM hN) (al_lkO (by omega))
                rw [d2.1]
                exact ⟨al_rB hR.1.1 hL, rP_s hR.1.2 (fun k hk => alR_o (by omega) (by omega))⟩
              · refine call_e hb hT0 (Nat.le_refl _) (k := 2) (e := pm_xI) (y := 0) rfl ?_ ?_
                · unfold f_X11_addLink
                  rw [c_ckN hX hK.1, if_pos hv1, fb_x, c_ckN hX hK.1, if_pos hv2, fb_x, if_neg h12, c_out, fb_n, decide_eq_true hv3, if_pos (by decide), c_out, fb_n, decide_eq_true hv4, if_pos (by decide), hK.1.2.1, if_pos (fm_is_b hS.1), kS_0 hS, hlb, fb_n, if_pos (lb1.mpr hlk), hK.1.2.1, if_pos (fm_is_b hS.1), kS_0 hS, e1, if_neg (by rw [nl_16, nn_lt (by omega) (by omega)]; exact hL)]
                · unfold f_X12_addLink
                  rw [fb_d, r_isNode hM (rr _ rfl) h33 h34, fb_n, decide_eq_true hv1, if_neg (by decide), r_isNode hM (rr _ rfl) h33 h34, fb_n, decide_eq_true hv2, if_neg (by decide), if_neg h12, r_isBetween, fb_n, decide_eq_true hv3, if_neg (by decide), r_isBetween, fb_n, decide_eq_true hv4, if_neg (by decide), rl _ (rr _ rfl), fb_n, hlk, if_pos (by decide), kM_0 hM, kM_z1 hM, if_pos (by decide), rr _ rfl, show (3 : Int32).toNatClampNeg = 3 by decide, h31, if_pos (by rw [nl_16, nn_eq (by omega) (by omega)]; omega), r_fail, fb_n]
                  rfl
            · refine call_e hb hT0 (Nat.le_refl _) (k := 2) (e := pm_xI) (y := 0) rfl ?_ ?_
              · unfold f_X11_addLink
                rw [c_ckN hX hK.1, if_pos hv1, fb_x, c_ckN hX hK.1, if_pos hv2, fb_x, if_neg h12, c_out, fb_n, decide_eq_true hv3, if_pos (by decide), c_out, fb_n, decide_eq_true hv4, if_pos (by decide), hK.1.2.1, if_pos (fm_is_b hS.1), kS_0 hS, hlb, fb_n, if_neg (fun z => hlk (lb1.mp z))]
              · unfold f_X12_addLink
                obtain ⟨j, j1, j2⟩ := lkr.resolve_left hlk
                rw [fb_d, r_isNode hM (rr _ rfl) h33 h34, fb_n, decide_eq_true hv1, if_neg (by decide), r_isNode hM (rr _ rfl) h33 h34, fb_n, decide_eq_true hv2, if_neg (by decide), if_neg h12, r_isBetween, fb_n, decide_eq_true hv3, if_neg (by decide), r_isBetween, fb_n, decide_eq_true hv4, if_neg (by decide), rl _ (rr _ rfl), fb_n, j2, ← nn_ii, if_neg (nn_m1 (by omega)), r_fail, fb_n]
                rfl
          · refine call_e hb hT0 (Nat.le_refl _) (k := 1) (e := pm_xA) (y := 0) rfl ?_ ?_
            · unfold f_X11_addLink
              rw [c_ckN hX hK.1, if_pos hv1, fb_x, c_ckN hX hK.1, if_pos hv2, fb_x, if_neg h12, c_out, fb_n, decide_eq_true hv3, if_pos (by decide), c_out, fb_n, decide_eq_false hv4, if_neg (by decide)]
            · unfold f_X12_addLink
              rw [fb_d, r_isNode hM (rr _ rfl) h33 h34, fb_n, decide_eq_true hv1, if_neg (by decide), r_isNode hM (rr _ rfl) h33 h34, fb_n, decide_eq_true hv2, if_neg (by decide), if_neg h12, r_isBetween, fb_n, decide_eq_true hv3, if_neg (by decide), r_isBetween, fb_n, decide_eq_false hv4, if_pos (by decide), r_fail, fb_n]
              rfl
        · refine call_e hb hT0 (Nat.le_refl _) (k := 1) (e := pm_xA) (y := 0) rfl ?_ ?_
          · unfold f_X11_addLink
            rw [c_ckN hX hK.1, if_pos hv1, fb_x, c_ckN hX hK.1, if_pos hv2, fb_x, if_neg h12, c_out, fb_n, decide_eq_false hv3, if_neg (by decide)]
          · unfold f_X12_addLink
            rw [fb_d, r_isNode hM (rr _ rfl) h33 h34, fb_n, decide_eq_true hv1, if_neg (by decide), r_isNode hM (rr _ rfl) h33 h34, fb_n, decide_eq_true hv2, if_neg (by decide), if_neg h12, r_isBetween, fb_n, decide_eq_false hv3, if_pos (by decide), r_fail, fb_n]
            rfl
    · refine call_e hb hT0 (Nat.le_refl _) (k := 0) (e := pm_xB) (y := 0) rfl ?_ ?_
      · unfold f_X11_addLink
        rw [c_ckN hX hK.1, if_pos hv1, fb_x, c_ckN hX hK.1, if_neg hv2, fb_e]
      · unfold f_X12_addLink
        rw [fb_d, r_isNode hM (rr _ rfl) h33 h34, fb_n, decide_eq_true hv1, if_neg (by decide), r_isNode hM (rr _ rfl) h33 h34, fb_n, decide_eq_false hv2, if_pos (by decide), r_fail, fb_n]
        rfl
  · refine call_e hb hT0 (Nat.le_refl _) (k := 0) (e := pm_xB) (y := 0) rfl ?_ ?_
    · unfold f_X11_addLink
      rw [c_ckN hX hK.1, if_neg hv1, fb_e]
    · unfold f_X12_addLink
      rw [fb_d, r_isNode hM (rr _ rfl) h33 h34, fb_n, decide_eq_false hv1, if_pos (by decide), r_fail, fb_n]
      rfl
end
