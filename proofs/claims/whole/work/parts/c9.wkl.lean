/-! calls, side by side: best drafts -/
section
variable {H : fm_H} {m m0 m1 m2 m00 : fm_M} {Lo : Nat → Nat → Int32} {T T' x b s t n tn : Nat} {E : VV} {l : List (Nat → Int32)} {d tx : Nat → Nat} {sv : Nat → Option (VV × List (Nat → Int32))} {c p : Int32}
theorem iB_V (h : aS m s E l) (hB : iB E) : iB (cv m s) := fun p q hp hq => by
  have := hB p q hp hq
  rw [← h.2.1] at this
  exact this
theorem iL_V (h : aS m s E l) (hL : iL E) : iL (cv m s) := fun j hj => by
  have := hL j (by rw [← h.2.1]; exact hj)
  rw [← h.2.1] at this
  exact this
theorem t_draftBest (hX : kX H x) (hM : kM H b) (hb : x + 661 ≤ b) (hT : TOP Lo T x b m) (v w u : Int32) : CALL Lo x b T (f_X11_draftBest H x v w u m) (f_X12_draftBest H b v w u) (an [pm_xB, pm_xA]) := by
  have hT0 := hT
  obtain ⟨s, t, E, l, n, d, sv, tn, tx, c, p, hK, hR, hI, hN, hW, h2⟩ := hT
  obtain ⟨hS, -, q1, q2, q3, q4, q5⟩ := cN_S hX hK.1
  obtain ⟨a1, a2, a3, a4, a5, a6⟩ := aS_x hK.1.2.2.2.1
  obtain ⟨h31, h32, h33, h34⟩ := eL_16 hR.1 hI
  have hF := hX.2.2.2.1
  have hd : x + 4 + 11 ≤ s ∨ s + 160 ≤ x + 4 := Or.inl (by omega)
  have rr : (fm_si m b 7 0).1 (b + 1) = m.1 (b + 1) := si_oth (by omega)
  by_cases hv : 0 ≤ v.toInt ∧ v.toInt < eN E
  · by_cases hw : 0 ≤ w.toInt ∧ w.toInt < eN E
    · by_cases hvw : v = w
      · refine call_e hb hT0 (Nat.le_refl _) (k := 1) (e := pm_xA) (y := 0) rfl ?_ ?_
        · unfold f_X11_draftBest
          rw [c_ckN hX hK.1, if_pos hv, fb_x, c_ckN hX hK.1, if_pos hw, fb_x, if_pos hvw]
        · unfold f_X12_draftBest
          rw [fb_d, r_isNode hM rr h33 h34, fb_n, decide_eq_true hv, if_neg (by decide), r_isNode hM rr h33 h34, fb_n, decide_eq_true hw, if_neg (by decide), if_pos hvw, r_fail, fb_n]
          rfl
      · by_cases hu : (1 : Int32) ≤ u ∧ u ≤ 20
        · obtain ⟨f0, hf0, rfl⟩ := rgC (by omega) hv
          obtain ⟨t0, ht0, rfl⟩ := rgC (by omega) hw
          have hft : f0 ≠ t0 := fun e => hvw (by rw [e])
          unfold CALL f_X11_draftBest
          rw [c_ckN hX hK.1, if_pos hv, fb_x, c_ckN hX hK.1, if_pos hw, fb_x, if_neg hvw, c_out, fb_n, decide_eq_true hu, if_pos (by decide), hK.1.2.1, if_pos (fm_is_b hS.1), show H.2.1 x 1 = x + 4 from hX.2.1.2.1]
          refine fE_be (c_prepare hF hS hd a1 rfl a2 u (-1)) (fun _ m3 ⟨w1, u1⟩ => ?_)
          obtain ⟨g1, g2⟩ := wF_cv hd a1 rfl w1
          rw [w1.2, hK.1.2.1, if_pos (fm_is_b hS.1), kS_0 hS]
          refine fE_be (c_search hF hS hd g1 g2 a2 (iB_V hK.1.2.2.2.1 hI.2.1) (iL_V hK.1.2.2.2.1 hI.1.2.2.1) u1 (f0 := f0) (t := t0) (by rw [a4]; exact hf0) (by omega) hft (-1)) (fun x4 m4 ⟨s1, s2, s3, s4⟩ => ?_)
          obtain ⟨z, ez⟩ : ∃ z, z = bsE E u (-1) (-1) f0 t0 := ⟨_, rfl⟩
          have eb : bsE (cv m s) u (-1) (-1) f0 t0 = z := by
            rw [ez, ← er_bs, hK.1.2.2.2.1.2.1]
          rw [eb] at s1 s2
          have w4 := wF_tr w1 s3
          have hcF := wF_cF w4
          have ref : ∀ mm : fm_M, mm.1 (b + 1) = m.1 (b + 1) → fE (f_X12_layBest H b (nn f0) (nn t0) (-1) u (-1) (fm_si mm b 7 0)) (fun r m' => r = nn z.1 ∧ rI b (fm_si mm b 7 0) m' (m.1 (b + 1)) ∧ tB m' b z) := fun mm hmm => by
            rw [ez]
            exact r_layBest hM (rI_rf ((si_oth (by omega)).trans hmm)) hR.1.1 (fun a ha => ⟨0, hI.1.2.2.2.1 a ha⟩) hI.1.2.1 hI.1.1 hI.2.2.2.1 hI.1.2.2.1 hf0 (by omega) hft
          have rpre : ∀ mm : fm_M, mm.1 (b + 1) = m.1 (b + 1) → f_X12_draftBest H b (nn f0) (nn t0) u mm = (fm_bn (f_X12_layBest H b (nn f0) (nn t0) (-1) u (-1) (fm_si mm b 7 0)) fun x6 m7 => if x6 = 0 then some ((-1 : Int32), m7) else fm_bn (f_X12_takeBest H b m7) fun _ m8 => some (m8.1 b 6, m8)) := fun mm hmm => by
            have r' : (fm_si mm b 7 0).1 (b + 1) = m.1 (b + 1) := (si_oth (by omega)).trans hmm
            unfold f_X12_draftBest
            rw [fb_d, r_isNode hM r' h33 h34, fb_n, decide_eq_true hv, if_neg (by decide), r_isNode hM r' h33 h34, fb_n, decide_eq_true hw, if_neg (by decide), if_neg hvw, r_isBetween, fb_n, decide_eq_true hu, if_neg (by decide)]
          have hb6 : z.1 ≤ 6 := by
            rw [ez]
            exact (bs_ok hI.1.2.2.1 (band := u) (e := -1) (y := -1) hf0 hft).2.1
          by_cases c2 : z.1 = 0
          · rw [s1, decide_eq_false (fun q => q c2), if_pos (by decide)]
            refine fE_ret ?_
            have er := cF_r hb hcF (a := b + 1) (by omega)
            rw [rpre m4 er]
            refine fE_be (ref m4 er) (fun x6 m7 ⟨b1, b2, b3⟩ => ?_)
            rw [if_pos (by rw [b1, c2]; rfl)]
            refine fE_ret ⟨Or.inl ⟨rfl, (rI_o b2 (by omega) (by omega) (by omega)).trans si_s⟩, ?_⟩
            refine top_d hX hb hK hR hI hN h2 (m1 := m4) (fun a k h => w4.1 a k (by omega)) w4.2 (tR_tr (tR_g gR_7) (tR_f b2.2)) (by rw [b2.1, er]) (cD_k hK.2.1 (fun a k z1 z2 => ⟨w4.1 a k (by omega), by rw [w4.2]⟩)) (dR_c hR.2.1 ?_ ?_) hW
            · rw [rI_o b2 (by omega) (by omega) (by omega), si_o (by omega), cF_r hb hcF (by omega)]
            · funext i
              rw [rI_o b2 (by omega) (by omega) (by omega), si_oth (by omega), cF_r hb hcF (by omega)]
          · rw [s1, decide_eq_true c2, if_neg (by decide), show H.2.1 x 2 = x + 15 from hX.2.1.2.2.1, kF_0 hF, c_copyNodes hX.2.2.2.2.1 (kF_b hF) (by omega), fb_n]
            refine fE_ret ?_
            obtain ⟨m5, em⟩ : ∃ m5, m5 = cpj m4 (x + 15) (x + 4 + 1) 6 := ⟨_, rfl⟩
            have hW' := (bs_dW hI.1.2.2.1 (band := u) (e := -1) (y := -1) hf0 hft (by rw [← ez]; exact c2)).1
            rw [← ez] at hW'
            have o1 : ∀ a k, ¬ (x + 4 ≤ a ∧ a < x + 19) → m5.1 a k = m.1 a k := fun a k h => by
              rw [em, ← w4.1 a k (by omega)]
              show (if a = x + 15 ∧ k = 0 then _ else if a = x + 15 + 1 ∧ k < 6 then _ else if a = x + 15 + 2 ∧ k < 6 then _ else if a = x + 15 + 3 ∧ k < 6 then _ else m4.1 a k) = _
              rw [if_neg (by omega), if_neg (by omega), if_neg (by omega), if_neg (by omega)]
            have o2 : m5.2 = m.2 := by rw [em]; exact w4.2
            have n0 : m5.1 (x + 15) 0 = nn z.1 := by
              rw [em]
              show (if x + 15 = x + 15 ∧ 0 = 0 then m4.1 (x + 4 + 1) 0 else _) = _
              rw [if_pos ⟨rfl, rfl⟩]
              exact s2.1
            rw [← em, n0]
            have er : m5.1 (b + 1) = m.1 (b + 1) := funext fun k => o1 _ _ (by omega)
            rw [rpre m5 er]
            refine fE_be (ref m5 er) (fun x6 m7 ⟨b1, b2, b3⟩ => ?_)
            rw [if_neg (by rw [b1]; exact fun q => c2 (nn_e (by omega) (by omega) (q.trans nl_0)))]
            refine fE_be (r_takeBest hM hb6 b2.1 b3) (fun _ m8 ⟨t1, t2, t3, t4, t5⟩ => fE_ret ⟨Or.inl ⟨by rw [t3], ?_⟩, ?_⟩)
            · rw [hRf_7 t2, rI_o b2 (by omega) (by omega) (by omega)]
              exact si_s
            · refine top_d hX hb hK hR hI hN h2 o1 o2 (tR_tr (tR_tr (tR_g gR_7) (tR_f b2.2)) (tR_h t2)) (by rw [t1, er]) (n' := z.1) (d' := z.2.2) ⟨n0, fun k hk => ?_, fun k k1 k2 => ?_⟩ ⟨t3, t4⟩ hW'
              · rw [em]
                show (if x + 16 = x + 15 ∧ k = 0 then _ else if x + 16 = x + 15 + 1 ∧ k < 6 then m4.1 (x + 4 + 1 + 1) k else _) = _
                rw [if_neg (by omega), if_pos (by omega)]
                exact s2.2.2.1 k hk
              · rw [em]
                show (if x + 17 = x + 15 ∧ k = 0 then _ else if x + 17 = x + 15 + 1 ∧ k < 6 then _ else if x + 17 = x + 15 + 2 ∧ k < 6 then m4.1 (x + 4 + 1 + 2) k else _) = _
                rw [if_neg (by omega), if_neg (by omega), if_pos (by omega)]
                refine (s2.2.2.2 k k1 k2).trans ?_
                rw [← hK.1.2.2.2.1.2.1]
                rfl
        · refine call_e hb hT0 (Nat.le_refl _) (k := 1) (e := pm_xA) (y := 0) rfl ?_ ?_
          · unfold f_X11_draftBest
            rw [c_ckN hX hK.1, if_pos hv, fb_x, c_ckN hX hK.1, if_pos hw, fb_x, if_neg hvw, c_out, fb_n, decide_eq_false hu, if_neg (by decide)]
          · unfold f_X12_draftBest
            rw [fb_d, r_isNode hM rr h33 h34, fb_n, decide_eq_true hv, if_neg (by decide), r_isNode hM rr h33 h34, fb_n, decide_eq_true hw, if_neg (by decide), if_neg hvw, r_isBetween, fb_n, decide_eq_false hu, if_pos (by decide), r_fail, fb_n]
            rfl
    · refine call_e hb hT0 (Nat.le_refl _) (k := 0) (e := pm_xB) (y := 0) rfl ?_ ?_
      · unfold f_X11_draftBest
        rw [c_ckN hX hK.1, if_pos hv, fb_x, c_ckN hX hK.1, if_neg hw, fb_e]
      · unfold f_X12_draftBest
        rw [fb_d, r_isNode hM rr h33 h34, fb_n, decide_eq_true hv, if_neg (by decide), r_isNode hM rr h33 h34, fb_n, decide_eq_false hw, if_pos (by decide), r_fail, fb_n]
        rfl
  · refine call_e hb hT0 (Nat.le_refl _) (k := 0) (e := pm_xB) (y := 0) rfl ?_ ?_
    · unfold f_X11_draftBest
      rw [c_ckN hX hK.1, if_neg hv, fb_e]
    · unfold f_X12_draftBest
      rw [fb_d, r_isNode hM rr h33 h34, fb_n, decide_eq_false hv, if_pos (by decide), r_fail, fb_n]
      rfl
end
