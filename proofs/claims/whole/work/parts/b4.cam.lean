/-! calls, side by side: moves, and what would be -/
section
variable {H : fm_H} {m m1 m2 m00 : fm_M} {Lo : Nat → Nat → Int32} {T T' x b s t n tn : Nat} {E : VV} {l : List (Nat → Int32)} {d tx : Nat → Nat} {sv : Nat → Option (VV × List (Nat → Int32))} {c p : Int32}
theorem r_move (hM : kM H b) {ρ : Nat → Int32} (hr : m.1 (b + 1) = ρ) (hA : rAll ρ E l) (hI : iG E l) {i : Nat} (hi : i < eK E) (hD : dR b m n d) (hd : dW E n d) {N L : Nat → Int32} (hN : ∀ k, k < n → N k = nn (d k)) (hL : ∀ k, 1 ≤ k → k < n → L k = ii (lkE E (nn (d (k - 1))) (nn (d k)))) :
    fE (f_X12_move H b (nn i) m) (fun r m' => r = (mvV E i n N L).1 ∧ m'.1 b 7 = 0 ∧ m'.1 b 6 = (if r = 0 then 0 else nn n) ∧ m'.1 (b + 6) = m.1 (b + 6) ∧ gR b m m' ∧ rAll (m'.1 (b + 1)) (mvV E i n N L).2 l ∧ iG (mvV E i n N L).2 l) := by
  have hG := hI.1.1
  have hX := hI.1.2.1
  have hB := hA.1
  have hK8 : eK E ≤ 8 := hB.2.1.2.1
  have h6 := hd.1
  have hQ := hI.1.2.2.2.1 i hi
  have h2 : 2 ≤ eA E i := hQ.1
  have hph : E 9 i 2 ≤ 0 ↔ E 9 i 2 = 0 := by
    rcases hQ.2.2.2.2 with h | h | h | h <;> rw [h.1] <;> decide
  obtain ⟨w0, w1, w2, -⟩ := hB.2.1.2.2 i hi 0 (by omega)
  have eW0 : eW E i 0 = eA E i := rfl
  rw [eW0] at w0 w1 w2
  obtain ⟨ma, ema⟩ : ∃ ma, ma = fm_si m b 7 0 := ⟨_, rfl⟩
  have z7 : ma.1 b 7 = 0 := by rw [ema]; exact si_s
  have z6 : ma.1 b 6 = nn n := by rw [ema, si_o (by omega)]; exact hD.1
  have zd : ma.1 (b + 6) = m.1 (b + 6) := by rw [ema]; exact si_oth (by omega)
  have zr : ma.1 (b + 1) = ρ := by rw [ema]; exact (si_oth (by omega)).trans hr
  have zg : gR b m ma := by rw [ema]; exact gR_7
  unfold f_X12_move
  rw [fb_d, ← ema, r_isCircuit hM zr hB.2.1.1 hK8, fb_n, decide_eq_true (rgC_n hi (by omega)), if_neg (by decide), r_of2 hM (by omega), fb_n, zr, show ρ (104 + 66 * i + 2) = E 9 i 2 from (hB.2.2 i hi).1 2 (by omega) (by omega) (by omega)]
  by_cases c1 : E 9 i 2 = 0
  · rw [if_pos (hph.mpr c1), z6, kM_5 hM, kM_z6 hM, if_pos (show px_inb 0 6 = true by decide)]
    have n3 : (3 : Int32) ≠ 0 := by decide
    have fail : endV E i n N = false → ∀ m', m' = ma → fE (some ((3 : Int32), m')) (fun r m' => r = (mvV E i n N L).1 ∧ m'.1 b 7 = 0 ∧ m'.1 b 6 = (if r = 0 then 0 else nn n) ∧ m'.1 (b + 6) = m.1 (b + 6) ∧ gR b m m' ∧ rAll (m'.1 (b + 1)) (mvV E i n N L).2 l ∧ iG (mvV E i n N L).2 l) := fun he m' em => by
      have ev : mvV E i n N L = (3, E) := by
        unfold mvV
        rw [if_neg (by rw [c1]; decide), if_pos he]
      rw [ev, em]
      exact fE_ret ⟨rfl, z7, by rw [if_neg n3]; exact z6, zd, zg, by rw [zr]; exact hA, hI⟩
    by_cases c2 : n < 2
    · rw [if_pos (by rw [nl_2]; exact (nn_lt (by omega) (by omega)).mpr c2)]
      refine fail ?_ _ rfl
      unfold endV
      rw [decide_eq_false (by omega), Bool.false_and]
    · have dk : ∀ k, k < n → ma.1 (b + 6) k = N k := fun k hk => by rw [zd, hD.2 k hk, hN k hk]
      rw [if_neg (by rw [nl_2]; exact fun z => c2 ((nn_lt (by omega) (by omega)).mp z)), r_firstOf hM zr (by omega), fb_n, show (0 : Int32).toNatClampNeg = 0 by decide, dk 0 (by omega), show ρ (121 + 66 * i) = E 11 i 0 from by rw [← w2 0 (by omega)]; exact congrArg ρ (by omega)]
      by_cases c3 : N 0 = E 11 i 0
      · rw [if_pos c3, z6, nl_1, nn_sub (by omega), if_pos ((nn_in (by omega)).mpr (by omega)), r_lastOf hM zr (by omega) (show ρ (120 + 66 * i) = nn (eA E i) from w0) (by omega) w1, fb_n, nn_tn (by omega), dk _ (by omega), show ρ (121 + 66 * i + (eA E i - 1)) = E 11 i (eA E i - 1) from by rw [← w2 _ (by omega)]; exact congrArg ρ (by omega)]
        by_cases c4 : N (n - 1) = E 11 i (eA E i - 1)
        · rw [if_pos c4]
          have he : endV E i n N = true := by
            unfold endV
            rw [decide_eq_true (by omega), decide_eq_true c3, decide_eq_true c4]
            rfl
          refine fE_be (r_moveToDraft hM (m00 := ma) (rI_rf zr) hA hI hi c1 (n := n) (d := d) ⟨z6, fun k hk => by rw [zd]; exact hD.2 k hk⟩ hd hN hL he) (fun r m5 ⟨v1, ρ', v2, v3, v4, v5⟩ => ?_)
          have y7 : m5.1 b 7 = 0 := (rI_o v2 (by omega) (by omega) (by omega)).trans z7
          have y6 : m5.1 b 6 = nn n := (rI_o v2 (by omega) (by omega) (by omega)).trans z6
          have yd : m5.1 (b + 6) = m.1 (b + 6) := by
            funext k
            rw [rI_o v2 (by omega) (by omega) (by omega), zd]
          by_cases c5 : r = 0
          · rw [if_pos c5, fb_d]
            exact fE_ret ⟨v1, (si_o (by omega)).trans y7, by rw [if_pos c5]; exact si_s, (si_oth (by omega)).trans yd, gR_tr (gR_tr zg (gR_f v2.2)) gR_6, by rw [si_oth (by omega), v2.1]; exact v3, v4⟩
          · rw [if_neg c5, fb_d]
            exact fE_ret ⟨v1, (si_o (by omega)).trans y7, by rw [if_neg c5]; exact si_s.trans y6, (si_oth (by omega)).trans yd, gR_tr (gR_tr zg (gR_f v2.2)) gR_6, by rw [si_oth (by omega), v2.1]; exact v3, v4⟩
        · rw [if_neg c4]
          refine fail ?_ _ rfl
          unfold endV
          rw [decide_eq_false c4, Bool.and_false, Bool.and_false]
      · rw [if_neg c3]
        refine fail ?_ _ rfl
        unfold endV
        rw [decide_eq_false c3, Bool.false_and, Bool.and_false]
  · rw [if_neg (fun z => c1 (hph.mp z))]
    have ev : mvV E i n N L = (2, E) := by
      unfold mvV
      rw [if_pos c1]
    rw [ev]
    exact fE_ret ⟨rfl, z7, by rw [if_neg (by decide)]; exact z6, zd, zg, by rw [zr]; exact hA, hI⟩
theorem t_move (hX : kX H x) (hM : kM H b) (hb : x + 661 ≤ b) (hT : TOP Lo T x b m) (v : Int32) : CALL Lo x b T (f_X11_move H x v m) (f_X12_move H b v) (an [pm_xB]) := by
  have hT0 := hT
  obtain ⟨s, t, E, l, n, d, sv, tn, tx, c, p, hK, hR, hI, hN, hW, h2⟩ := hT
  obtain ⟨hS, -, q1, q2, q3, q4, q5⟩ := cN_S hX hK.1
  have h4 := rB_4 hR.1
  have h10 := hI.1.1.2.2.2.2.1.1
  by_cases hv : 0 ≤ v.toInt ∧ v.toInt < eK E
  · obtain ⟨i, hi, rfl⟩ := rgC (by omega) hv
    obtain ⟨g1, g2⟩ := mv_G (E := E) (i := i) (n := n) (N := m.1 (x + 16)) (L := m.1 (x + 17)) hI.1.1 hW.1
    unfold CALL f_X11_move
    rw [c_ckC hX hK.1, if_pos hv, fb_x, hK.1.2.1, if_pos (fm_is_b hS.1), show H.2.1 x 2 = x + 15 from hX.2.1.2.2.1]
    refine fE_be (c_moveS hS hK.1.2.2.2.1 hI hi (w := x + 15) hX.2.2.2.2.1 (Or.inl (by omega)) hK.2.1.1 hW.1 (cD_nd hK.2.1 hW h10) g2 g1) (fun r m1 ⟨a1, a2, a3, a4⟩ => ?_)
    have hcF1 : cF x m m1 := cF_fr ⟨q2, q3⟩ a3
    have key : ∀ m1' : fm_M, cF x m m1' → aS m1' s (mvV E i n (m.1 (x + 16)) (m.1 (x + 17))).2 l → sp m1' t → cD m1' x (mvV E i n (m.1 (x + 16)) (m.1 (x + 17))).2 (if r = 0 then 0 else n) d → fE (f_X12_move H b (nn i) m1') (fun r' m2 => an [pm_xB] (.inl r) r' (m2.1 b 7) ∧ TOP Lo T x b m2) := fun m1' k1 k2 k3 k4 => by
      have e : ∀ a, b ≤ a → m1'.1 a = m.1 a := fun a ha => cF_r hb k1 ha
      refine fE_w (r_move hM (e (b + 1) (by omega)) hR.1 hI hi (dR_c hR.2.1 (congrFun (e b (by omega)) 6) (e (b + 6) (by omega))) hW (N := m.1 (x + 16)) (L := m.1 (x + 17)) hK.2.1.2.1 hK.2.1.2.2) (fun r' m2 ⟨b1, b2, b3, b4, b5, b6, b7⟩ => ⟨Or.inl ⟨by rw [a1, b1], b2⟩, ?_⟩)
      have err : r' = r := by rw [a1, b1]
      rw [err] at b3
      refine top_mk hb hK hR h2 (Nat.le_refl _) k1 (tR_g b5) k2 k3 k4 b6 ⟨?_, fun k hk => ?_⟩ b7 (mv_NM hW.1 hN) ?_
      · rw [b3]
        split
        · exact nl_0
        · rfl
      · rw [b4, e (b + 6) (by omega)]
        refine hR.2.1.2 k ?_
        split at hk <;> omega
      · split
        · exact dW_0
        · exact dW_lk hW mv_lk
    by_cases hr0 : r = 0
    · rw [if_pos hr0]
      unfold f_X10_erase
      rw [fb_d, fb_n]
      refine fE_ret (key _ (cF_tr hcF1 ⟨fun a k z _ => ⟨si_o (by omega), rfl⟩, rfl⟩) (aS_ag a2 (fun a k z _ => ⟨si_o (by omega), rfl⟩)) (sp_ag (sp_ag hK.1.2.2.2.2 (ag_fr a3 (by omega))) (fun a k z _ => ⟨si_o (by omega), rfl⟩)) ?_)
      rw [if_pos hr0]
      exact ⟨si_s, fun k hk => by omega, fun k _ hk => by omega⟩
    · rw [if_neg hr0]
      refine fE_ret (key _ hcF1 a2 (sp_ag hK.1.2.2.2.2 (ag_fr a3 (by omega))) ?_)
      rw [if_neg hr0]
      exact cD_lk (cD_k hK.2.1 (ag_fr a3 (by omega))) hW mv_lk
  · refine call_e hb hT0 (Nat.le_refl _) (k := 0) (e := pm_xB) (y := 0) rfl ?_ ?_
    · unfold f_X11_move
      rw [c_ckC hX hK.1, if_neg hv, fb_e]
    · unfold f_X12_move
      rw [fb_d, r_isCircuit hM (si_oth (by omega)) h4.1 h4.2, fb_n, decide_eq_false hv, if_pos (by decide), r_fail, fb_n]
      rfl
end
