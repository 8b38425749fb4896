/-! THE DESK OF THE LAW: moves, drafts, opening, the weakest link -/
section
variable {H : fm_H} {m m1 m2 : fm_M} {T T' x s t n : Nat} {E E' : VV} {l l' : List (Nat → Int32)} {d d' : Nat → Nat} {sv : Nat → Option (VV × List (Nat → Int32))} {n' : Nat}
/-- after a call that changes finder and the state that counts -/
theorem ds_nf (hX : kX H x) (hN : cN m x s t E l) (hD : cD m x E n d) (hV : cS m x sv) (hf : ∀ a k, ¬ (x + 4 ≤ a ∧ a < x + 15) → ¬ (s ≤ a ∧ a < s + 160) → m1.1 a k = m.1 a k) (h2 : m1.2 = m.2) (ha : aS m1 s E' l') (hW : dW E n d) (hl : lkO E E') (hM : iNM T' E') (hJ : JI (8 * T') E' l') (h0 : iS0 E') : DS x T' m1 E' l' n d sv ∧ lF x m m1 := by
  obtain ⟨-, -, q1, q2, q3, q4, q5⟩ := cN_S hX hN
  have w : ∀ lo hi, hi ≤ x + 4 ∨ x + 15 ≤ lo → hi ≤ s ∨ s + 160 ≤ lo → ag lo hi m m1 := fun lo hi g1 g2 a k z1 z2 => ⟨hf a k (by omega) (by omega), by rw [h2]⟩
  exact ⟨⟨⟨s, t, hN.1, by rw [h2]; exact hN.2.1, by rw [h2]; exact hN.2.2.1, ha, sp_ag hN.2.2.2.2 (w _ _ (by omega) (by omega))⟩, cD_lk (cD_k hD (w _ _ (by omega) (by omega))) hW hl, cS_k hV (w _ _ (by omega) (by omega)) (w _ _ (by omega) (by omega)), dW_lk hW hl, hM, hJ, h0⟩, fun a k h => ⟨hf a k (by omega) (by omega), by rw [h2]⟩, by rw [h2]⟩
/-- a move's answer -/
theorem mvR_r (hI : iG E l) {i : Nat} (hi : i < eK E) {w : Int32} : (E 9 i 2 ≠ 0 ∧ mvR E i w = 2) ∨ (E 9 i 2 = 0 ∧ (mvR E i w = 0 ∨ mvR E i w = 3 ∨ mvR E i w = 4 ∨ mvR E i w = 6)) := by
  unfold mvR
  by_cases c1 : E 9 i 2 = 0
  · refine Or.inr ⟨c1, ?_⟩
    rw [if_neg (show ¬ (E 9 i 2 ≠ 0) from fun z => z c1)]
    by_cases z0 : (bcE E i w).1 = 0
    · rw [if_pos z0]
      exact Or.inr (Or.inl rfl)
    · rw [if_neg z0]
      have h2 : 2 ≤ eA E i := (hI.1.2.2.2.1 i hi).1
      obtain ⟨n1, n2, n3, n4, n5⟩ := ends_E hI.1.2.1 hI.1.1 hi h2
      have hh := bs_hr (band := E 9 i 0) (e := nn i) (y := w) hI.1.1.2.2.2.2.1.2.1 hI.1.2.2.1 n3 n5 z0 (L := cnL E (bcE E i w)) (fun k k1 k2 => rfl)
      have e3 : na (fun k => hr E (eL E) (eK E) (eA E) (eB E) (cnL E (bcE E i w) k).toInt (E 9 i 0) (nn i)) 1 ((bcE E i w).1 - 1) = true := na_iff.mpr (fun k k1 k2 => hh k k1 (by
        have : (bsE E (E 9 i 0) (nn i) w (f0E E i) (t0E E i)).1 = (bcE E i w).1 := rfl
        omega))
      unfold mvV
      rw [if_neg (show ¬ (E 9 i 2 ≠ 0) from fun z => z c1), e3]
      split
      · exact Or.inr (Or.inl rfl)
      · split
        · exact Or.inr (Or.inr (Or.inl rfl))
        · rw [if_neg (show ¬ (true = false) by decide)]
          split
          · exact Or.inr (Or.inr (Or.inr rfl))
          · exact Or.inl rfl
  · exact Or.inl ⟨c1, if_pos c1⟩
theorem L_moveBest (hX : kX H x) (h : DS x T m E l n d sv) {i : Nat} (hi : i < eK E) {w : Int32} (hw : w = -1 ∨ (0 ≤ w.toInt ∧ w.toInt < eL E)) : fE (f_L_moveBest H x (nn i) w m) (fun r m1 => r = mvR E i w ∧ ∃ E', DS x T m1 E' l n d sv ∧ lF x m m1 ∧ (SF E l → SF E' l) ∧ eN E ≤ eN E' ∧ ((r = 0 ∧ E' 9 i 2 = 1 ∧ eK E' = eK E) ∨ (r ≠ 0 ∧ smE E E'))) := by
  have h00 := h
  obtain ⟨⟨s, t, hN⟩, hD, hV, hW, hM, hJ, h0⟩ := h
  obtain ⟨hS, hS2, q1, q2, q3, q4, q5⟩ := cN_S hX hN
  have hI := hJ.1
  have hK8 := hI.1.1.2.2.2.2.1.2.2.1
  refine fL_i (Q := fun r m1 => r = .inl (mvR E i w) ∧ ∃ E', DS x T m1 E' l n d sv ∧ lF x m m1 ∧ (SF E l → SF E' l) ∧ eN E ≤ eN E' ∧ ((mvR E i w = 0 ∧ E' 9 i 2 = 1 ∧ eK E' = eK E) ∨ (mvR E i w ≠ 0 ∧ smE E E'))) ?_ (fun r m1 ⟨a1, a2⟩ => ⟨_, a1, rfl, a2⟩)
  unfold f_X11_moveBest
  rw [c_ckC hX hN, if_pos (rgC_n hi (by omega)), fb_x, c_ckLN hX hN, if_pos hw, fb_x, hN.2.1, if_pos (fm_is_b hS.1)]
  refine fE_be (c_moveToBest hS hX.2.2.2.1 hX.2.1.2.1 (Or.inl (by omega)) hN.2.2.2.1 hI hi w) (fun r m1 hc => fE_ret ?_)
  rcases hc with ⟨c1, c2, c3⟩ | ⟨c1, c2, c3, c4⟩ | ⟨c1, c2, N, L, c3, c4, c5, c6, c7⟩
  · have e : mvR E i w = 2 := if_pos c1
    subst c3
    exact ⟨by rw [c2, e], E, h00, lF_rf, fun z => z, Nat.le_refl _, Or.inr ⟨by rw [e]; decide, smE_rf⟩⟩
  · have e : mvR E i w = 3 := (if_neg (fun z => z c1)).trans (if_pos c2)
    obtain ⟨p1, p2⟩ := ds_nf hX hN hD hV (fun a k g1 _ => c4.1 a k (by omega)) c4.2 (aS_w (Or.inl (by omega)) hN.2.2.2.1 c4) hW lkO_rf hM hJ h0
    exact ⟨by rw [c3, e], E, p1, p2, fun z => z, Nat.le_refl _, Or.inr ⟨by rw [e]; decide, smE_rf⟩⟩
  · have e := mvR_eq hI hi c1 c2 c3 c4
    have h2 : 2 ≤ eA E i := (hI.1.2.2.2.1 i hi).1
    obtain ⟨n1, n2, n3, n4, n5⟩ := ends_E hI.1.2.1 hI.1.1 hi h2
    have b1 := (bs_dW hI.1.2.2.1 (band := E 9 i 0) (e := nn i) (y := w) n3 n5 c2).1
    have b1' : dW E (bcE E i w).1 (bcE E i w).2.2 := b1
    by_cases z : (mvV E i (bcE E i w).1 N L).1 = 0
    · obtain ⟨E1, t1, -, t2, t3, t4⟩ := mv_0 hI hi b1' c3.1 z
      obtain ⟨j1, j2, j3, j4⟩ := mv_JI hJ hi b1' c1 t2 c3.1 c3.2 t1 t4
      have jn := mv_NM (T := T) (i := i) (N := N) (L := L) b1'.1 hM
      have j0 := z0_mv (N := N) (L := L) hI hi b1' c3.1 h0
      have jl := mv_lk (E := E) (i := i) (n := (bcE E i w).1) (N := N) (L := L)
      rw [t3] at c5 jn j0 jl
      obtain ⟨p1, p2⟩ := ds_nf hX hN hD hV (fun a k g1 g2 => c6 a k (by omega) g2) c7 c5 hW jl jn j1 j0
      exact ⟨by rw [← e], _, p1, p2, j4, jl.1, Or.inl ⟨by rw [← e, c4, z], j2, j3⟩⟩
    · obtain ⟨y1, y2⟩ := mv_no hI hi b1' c3.1 z
      obtain ⟨p1, p2⟩ := ds_nf hX hN hD hV (fun a k g1 g2 => c6 a k (by omega) g2) c7 c5 hW mv_lk (mv_NM b1'.1 hM) (sm_JI y1 y2 hJ) (z0_mv hI hi b1' c3.1 h0)
      exact ⟨by rw [← e], _, p1, p2, sm_SF y1 hI.1.2.1, mv_lk.1, Or.inr ⟨by rw [← e, c4]; exact z, y1⟩⟩
theorem L_canMove (hX : kX H x) (h : DS x T m E l n d sv) {i : Nat} (hi : i < eK E) {w : Int32} (hw : w = -1 ∨ (0 ≤ w.toInt ∧ w.toInt < eL E)) : fE (f_L_canMove H x (nn i) w m) (fun r m1 => r = mvR E i w ∧ DS x T m1 E l n d sv ∧ lF x m m1) := by
  obtain ⟨⟨s, t, hN⟩, hD, hV, hW, hM, hJ, h0⟩ := h
  obtain ⟨hS, hS2, q1, q2, q3, q4, q5⟩ := cN_S hX hN
  have hI := hJ.1
  have hK8 := hI.1.1.2.2.2.2.1.2.2.1
  refine fL_i (Q := fun r m1 => r = .inl (mvR E i w) ∧ DS x T m1 E l n d sv ∧ lF x m m1) ?_ (fun r m1 ⟨a1, a2⟩ => ⟨_, a1, rfl, a2⟩)
  unfold f_X11_canMove
  rw [c_ckC hX hN, if_pos (rgC_n hi (by omega)), fb_x, c_ckLN hX hN, if_pos hw, fb_x, hN.2.2.1, if_pos (fm_is_b hS2.1), hN.2.1, if_pos (fm_is_b hS.1)]
  refine fE_be (c_copyP hS hS2 q1 hN.2.2.2.1 hI hN.2.2.2.2) (fun _ mc ⟨E1, y1, y2, y3, yp, y4, y5⟩ => ?_)
  rw [y5, hN.2.2.1, if_pos (fm_is_b hS2.1)]
  have hi1 : i < eK E1 := by rw [sm_K y2]; exact hi
  have eR : mvR E1 i w = mvR E i w := mvR_cp hI y3 yp (sm_K y2) (sm_L y2) hi
  have fin : ∀ m1 : fm_M, sp m1 t → (∀ a k, ¬ (x + 4 ≤ a ∧ a < x + 15) → ¬ (t ≤ a ∧ a < t + 160) → m1.1 a k = mc.1 a k) → m1.2 = mc.2 → DS x T m1 E l n d sv ∧ lF x m m1 := fun m1 g1 g2 g3 => by
    have w : ∀ lo hi, hi ≤ x + 4 ∨ x + 15 ≤ lo → hi ≤ t ∨ t + 160 ≤ lo → ag lo hi m m1 := fun lo hi k1 k2 => ag_tr (ag_fr y4 k2) (fun a k z1 z2 => ⟨g2 a k (by omega) (by omega), by rw [g3]⟩)
    refine ds_fx hX hN hV (fun a k z1 z2 => w a (a + 1) (by omega) (by omega) a k (by omega) (by omega)) ?_ g1 (cD_k hD (w _ _ (by omega) (by omega))) hW hM hJ h0
    rw [g3]
    exact y4.2
  refine fE_be (c_moveToBest hS2 hX.2.2.2.1 hX.2.1.2.1 (Or.inl (by omega)) y1 y3 hi1 w) (fun r m1 hc => fE_ret ?_)
  rcases hc with ⟨c1, c2, c3⟩ | ⟨c1, c2, c3, c4⟩ | ⟨c1, c2, N, L, c3, c4, c5, c6, c7⟩
  · have e : mvR E1 i w = 2 := if_pos c1
    subst c3
    exact ⟨by rw [c2, ← eR, e], fin _ (sp_aS y1) (fun _ _ _ _ => rfl) rfl⟩
  · have e : mvR E1 i w = 3 := (if_neg (fun z => z c1)).trans (if_pos c2)
    exact ⟨by rw [c3, ← eR, e], fin _ (sp_aS (aS_w (Or.inl (by omega)) y1 c4)) (fun a k g1 _ => c4.1 a k (by omega)) c4.2⟩
  · have e := mvR_eq y3 hi1 c1 c2 c3 c4
    exact ⟨by rw [e, eR], fin _ (sp_aS c5) (fun a k g1 g2 => c6 a k (by omega) g2) c7⟩
theorem L_draftBest (hX : kX H x) (h : DS x T m E l n d sv) {a b u : Nat} (ha : a < eN E) (hb : b < eN E) (hab : a ≠ b) (u1 : 1 ≤ u) (u2 : u ≤ 20) : fE (f_L_draftBest H x (nn a) (nn b) (nn u) m) (fun r m1 => lF x m m1 ∧ (((bsE E (nn u) (-1) (-1) a b).1 = 0 ∧ r = -1 ∧ DS x T m1 E l n d sv) ∨ ((bsE E (nn u) (-1) (-1) a b).1 ≠ 0 ∧ r = nn (bsE E (nn u) (-1) (-1) a b).1 ∧ DS x T m1 E l (bsE E (nn u) (-1) (-1) a b).1 (bsE E (nn u) (-1) (-1) a b).2.2 sv))) := by
  obtain ⟨⟨s, t, hN⟩, hD, hV, hW, hM, hJ, h0⟩ := h
  obtain ⟨hS, hS2, q1, q2, q3, q4, q5⟩ := cN_S hX hN
  obtain ⟨a1, a2, a3, a4, a5, a6⟩ := aS_x hN.2.2.2.1
  have hI := hJ.1
  have hN10 := hI.1.1.2.2.2.2.1.1
  have hF := hX.2.2.2.1
  have hd : x + 4 + 11 ≤ s ∨ s + 160 ≤ x + 4 := Or.inl (by omega)
  have hu : (1 : Int32) ≤ nn u ∧ nn u ≤ 20 := ⟨(nn_le (a := 1) (by omega) (by omega)).mpr u1, (nn_le (b := 20) (by omega) (by omega)).mpr u2⟩
  have hvw : ¬ (nn a : Int32) = nn b := fun e => hab ((nn_eq (by omega) (by omega)).mp e)
  obtain ⟨z, ez⟩ : ∃ z, z = bsE E (nn u) (-1) (-1) a b := ⟨_, rfl⟩
  rw [← ez]
  refine fL_i (Q := fun r m1 => lF x m m1 ∧ ((z.1 = 0 ∧ r = .inl (-1) ∧ DS x T m1 E l n d sv) ∨ (z.1 ≠ 0 ∧ r = .inl (nn z.1) ∧ DS x T m1 E l z.1 z.2.2 sv))) ?_ (fun r m1 ⟨g1, g2⟩ => ?_)
  · unfold f_X11_draftBest
    rw [c_ckN hX hN, if_pos (rgC_n ha (by omega)), fb_x, c_ckN hX hN, if_pos (rgC_n hb (by omega)), fb_x, if_neg hvw, c_out, fb_n, decide_eq_true hu, if_pos (by decide), hN.2.1, if_pos (fm_is_b hS.1), show H.2.1 x 1 = x + 4 from hX.2.1.2.1]
    refine fE_be (c_prepare hF hS hd a1 rfl a2 (nn u) (-1)) (fun _ m3 ⟨w1, u1⟩ => ?_)
    obtain ⟨g1, g2⟩ := wF_cv hd a1 rfl w1
    rw [w1.2, hN.2.1, if_pos (fm_is_b hS.1), kS_0 hS]
    refine fE_be (c_search hF hS hd g1 g2 a2 (iB_V hN.2.2.2.1 hI.2.1) (iL_V hN.2.2.2.1 hI.1.2.2.1) u1 (f0 := a) (t := b) (by rw [a4]; exact ha) (by omega) hab (-1)) (fun x4 m4 ⟨s1, s2, s3, s4⟩ => ?_)
    have eb : bsE (cv m s) (nn u) (-1) (-1) a b = z := by
      rw [ez, ← er_bs, hN.2.2.2.1.2.1]
    rw [eb] at s1 s2
    have w4 := wF_tr w1 s3
    by_cases c2 : z.1 = 0
    · rw [s1, decide_eq_false (fun q => q c2), if_pos (by decide)]
      refine fE_ret ?_
      obtain ⟨p1, p2⟩ := ds_nf hX hN hD hV (fun a k g1 _ => w4.1 a k (by omega)) w4.2 (aS_w hd hN.2.2.2.1 w4) hW lkO_rf hM hJ h0
      exact ⟨p2, Or.inl ⟨c2, rfl, p1⟩⟩
    · have hb6 : z.1 ≤ 6 := by
        rw [ez]
        exact (bs_ok hI.1.2.2.1 (band := nn u) (e := -1) (y := -1) ha hab).2.1
      rw [s1, decide_eq_true c2, if_neg (by decide), show H.2.1 x 2 = x + 15 from hX.2.1.2.2.1, kF_0 hF, c_copyNodes hX.2.2.2.2.1 (kF_b hF) (by omega), fb_n]
      refine fE_ret ?_
      obtain ⟨m5, em⟩ : ∃ m5, m5 = cpj m4 (x + 15) (x + 4 + 1) 6 := ⟨_, rfl⟩
      have hW' := (bs_dW hI.1.2.2.1 (band := nn u) (e := -1) (y := -1) ha hab (by rw [← ez]; exact c2)).1
      rw [← ez] at hW'
      have o1 : ∀ a k, ¬ (x + 4 ≤ a ∧ a < x + 19) → m5.1 a k = m.1 a k := fun a k h => by
        rw [em, ← w4.1 a k (by omega)]
        show (if a = x + 15 ∧ k = 0 then _ else if a = x + 15 + 1 ∧ k < 6 then _ else if a = x + 15 + 2 ∧ k < 6 then _ else if a = x + 15 + 3 ∧ k < 6 then _ else m4.1 a k) = _
        rw [if_neg (by omega), if_neg (by omega), if_neg (by omega), if_neg (by omega)]
      have o2 : m5.2 = m.2 := by rw [em]; exact w4.2
      have n0 : m5.1 (x + 15) 0 = nn z.1 := by
        rw [em]
        show (if x + 15 = x + 15 ∧ 0 = 0 then m4.1 (x + 4 + 1) 0 else _) = _
        rw [if_pos ⟨rfl, rfl⟩]
        exact s2.1
      rw [← em, n0]
      obtain ⟨p1, p2⟩ := ds_fx (n' := z.1) (d' := z.2.2) hX hN hV (fun a k g1 _ => ⟨o1 a k g1, by rw [o2]⟩) (by rw [o2]) (sp_ag hN.2.2.2.2 (fun a k z1 z2 => ⟨o1 a k (by omega), by rw [o2]⟩)) ⟨n0, fun k hk => by
        rw [em]
        show (if x + 16 = x + 15 ∧ k = 0 then _ else if x + 16 = x + 15 + 1 ∧ k < 6 then m4.1 (x + 4 + 1 + 1) k else _) = _
        rw [if_neg (by omega), if_pos (by omega)]
        exact s2.2.2.1 k hk, fun k k1 k2 => by
        rw [em]
        show (if x + 17 = x + 15 ∧ k = 0 then _ else if x + 17 = x + 15 + 1 ∧ k < 6 then _ else if x + 17 = x + 15 + 2 ∧ k < 6 then m4.1 (x + 4 + 1 + 2) k else _) = _
        rw [if_neg (by omega), if_neg (by omega), if_pos (by omega)]
        refine (s2.2.2.2 k k1 k2).trans ?_
        rw [← hN.2.2.2.1.2.1]
        rfl⟩ hW' hM hJ h0
      exact ⟨p2, Or.inr ⟨c2, rfl, p1⟩⟩
  · rcases g2 with ⟨e1, e2, e3⟩ | ⟨e1, e2, e3⟩
    · exact ⟨_, e2, g1, Or.inl ⟨e1, rfl, e3⟩⟩
    · exact ⟨_, e2, g1, Or.inr ⟨e1, rfl, e3⟩⟩
theorem L_draftBestX (hX : kX H x) (h : DS x T m E l n d sv) {a u : Nat} (ha : a < eN E) : f_X11_draftBest H x (nn a) (nn a) (nn u) m = some (.inr pm_xA, m) := by
  obtain ⟨⟨s, t, hN⟩, hD, hV, hW, hM, hJ, h0⟩ := h
  have hN10 := hJ.1.1.1.2.2.2.2.1.1
  unfold f_X11_draftBest
  rw [c_ckN hX hN, if_pos (rgC_n ha (by omega)), fb_x, c_ckN hX hN, if_pos (rgC_n ha (by omega)), fb_x, if_pos rfl]
/-- why a best draft is not opened -/
theorem opR (hI : iG E l) {a b : Nat} {u y : Int32} (ha : a < eN E) (hab : a ≠ b) (h0 : (bsE E u (-1) (-1) a b).1 ≠ 0) {N L : Nat → Int32} (hL : ∀ k, 1 ≤ k → k < (bsE E u (-1) (-1) a b).1 → L k = ii (lkE E (nn ((bsE E u (-1) (-1) a b).2.2 (k - 1))) (nn ((bsE E u (-1) (-1) a b).2.2 k)))) : (opV E (bsE E u (-1) (-1) a b).1 N L u y).1 = 0 ∨ ((opV E (bsE E u (-1) (-1) a b).1 N L u y).1 = 1 ∧ 8 ≤ eK E) ∨ (opV E (bsE E u (-1) (-1) a b).1 N L u y).1 = 6 := by
  have hh := bs_hr (band := u) (e := -1) (y := -1) hI.1.1.2.2.2.2.1.2.1 hI.1.2.2.1 ha hab h0 hL
  have b2 := (bs_dW hI.1.2.2.1 (band := u) (e := -1) (y := -1) ha hab h0).2.1
  have e3 : na (fun k => hr E (eL E) (eK E) (eA E) (eB E) (L k).toInt u (-1)) 1 ((bsE E u (-1) (-1) a b).1 - 1) = true := na_iff.mpr (fun k k1 k2 => hh k k1 (by omega))
  unfold opV
  by_cases c1 : 8 ≤ eK E
  · rw [if_pos c1]
    exact Or.inr (Or.inl ⟨rfl, c1⟩)
  · rw [if_neg c1, if_neg (show ¬ (bsE E u (-1) (-1) a b).1 < 2 by omega), e3, if_neg (show ¬ (true = false) by decide)]
    split
    · exact Or.inr (Or.inr rfl)
    · exact Or.inl rfl
theorem L_open (hX : kX H x) (h : DS x T m E l n d sv) {v w : Nat} (v1 : 1 ≤ v) (v2 : v ≤ 20) (w2 : w ≤ 9) : fE (f_L_open H x (nn v) (nn w) m) (fun r m1 => r = (opV E n (m.1 (x + 16)) (m.1 (x + 17)) (nn v) (nn w)).1 ∧ ∃ E', DS x T m1 E' l (if r = 0 then 0 else n) d sv ∧ lF x m m1 ∧ (SF E l → SF E' l) ∧ eN E ≤ eN E' ∧ ((r = 0 ∧ eK E' = eK E + 1 ∧ ∀ k, k < 13 → E' 9 (eK E) k = bg9 (nn v) (nn w) k) ∨ (r ≠ 0 ∧ smE E E'))) := by
  obtain ⟨⟨s, t, hN⟩, hD, hV, hW, hM, hJ, h0⟩ := h
  obtain ⟨hS, hS2, q1, q2, q3, q4, q5⟩ := cN_S hX hN
  have hI := hJ.1
  have hN10 := hI.1.1.2.2.2.2.1.1
  have hv : (1 : Int32) ≤ nn v ∧ nn v ≤ 20 := ⟨(nn_le (a := 1) (by omega) (by omega)).mpr v1, (nn_le (b := 20) (by omega) (by omega)).mpr v2⟩
  obtain ⟨r0, er0⟩ : ∃ r0, r0 = (opV E n (m.1 (x + 16)) (m.1 (x + 17)) (nn v) (nn w)).1 := ⟨_, rfl⟩
  obtain ⟨E2, eE2⟩ : ∃ E2, E2 = (opV E n (m.1 (x + 16)) (m.1 (x + 17)) (nn v) (nn w)).2 := ⟨_, rfl⟩
  obtain ⟨g1, g2⟩ := op_G (E := E) (n := n) (N := m.1 (x + 16)) (L := m.1 (x + 17)) (x := nn v) (y := nn w) hI.1.1 hW.1
  have key : JI (8 * T) E2 l ∧ (SF E l → SF E2 l) ∧ ((r0 = 0 ∧ eK E2 = eK E + 1 ∧ ∀ k, k < 13 → E2 9 (eK E) k = bg9 (nn v) (nn w) k) ∨ (r0 ≠ 0 ∧ smE E E2)) := by
    by_cases z : r0 = 0
    · obtain ⟨E0, E1, o1, o2, o3, o4, o5, o6⟩ := op_0 (x := nn v) (y := nn w) hI hW hD.2.1 hD.2.2 (by rw [← er0]; exact z)
      obtain ⟨j1, j2, j3, j4⟩ := op_JI hJ hW o1 o2 o3 o4 ⟨v, v2, rfl⟩ hD.2.2 o6
      rw [← eE2] at o5
      rw [← o5] at j1 j2 j3 j4
      exact ⟨j1, j4, Or.inl ⟨z, j2, j3⟩⟩
    · obtain ⟨y1, y2⟩ := op_no (L := m.1 (x + 17)) (x := nn v) (y := nn w) hI hW hD.2.1 (by rw [← er0]; exact z)
      rw [← eE2] at y1 y2
      exact ⟨sm_JI y1 y2 hJ, sm_SF y1 hI.1.2.1, Or.inr ⟨z, y1⟩⟩
  obtain ⟨kJ, kS, kc⟩ := key
  have kM : iNM T E2 := by rw [eE2]; exact op_NM hI.1.1 hM
  have k0 : iS0 E2 := by rw [eE2]; exact z0_op hI hW hD.2.1 h0
  have kl : lkO E E2 := by rw [eE2]; exact op_lk
  refine fL_i (Q := fun r m1 => r = .inl r0 ∧ DS x T m1 E2 l (if r0 = 0 then 0 else n) d sv ∧ lF x m m1) ?_ (fun r m1 ⟨a1, a2, a3⟩ => ⟨_, a1, er0, E2, a2, a3, kS, kl.1, kc⟩)
  unfold f_X11_open
  rw [c_out, fb_n, decide_eq_true hv, if_pos (by decide), c_out, fb_n, decide_eq_true (show (0 : Int32) ≤ nn w ∧ nn w ≤ 9 from w_le (g := 9) w2 (by omega)), if_pos (by decide), hN.2.1, if_pos (fm_is_b hS.1), show H.2.1 x 2 = x + 15 from hX.2.1.2.2.1]
  refine fE_be (c_openS hS hN.2.2.2.1 hI (w := x + 15) hX.2.2.2.2.1 (Or.inl (by omega)) hD.1 hW.1 (cD_nd hD hW hN10) (nn v) (nn w) g2 g1) (fun r m1 ⟨a1, a2, a3, a4⟩ => ?_)
  rw [show x + 15 + 1 = x + 16 from rfl, show x + 15 + 2 = x + 17 from rfl, ← er0] at a1
  rw [show x + 15 + 1 = x + 16 from rfl, show x + 15 + 2 = x + 17 from rfl, ← eE2] at a2
  rw [a1]
  by_cases z : r0 = 0
  · rw [if_pos z, if_pos z]
    unfold f_X10_erase
    rw [fb_d, fb_n]
    refine fE_ret ⟨rfl, ?_⟩
    obtain ⟨m2, em2⟩ : ∃ m2, m2 = fm_si m1 (x + 15) 0 0 := ⟨_, rfl⟩
    rw [← em2]
    have a15 : ∀ lo hi, hi ≤ x + 15 ∨ x + 16 ≤ lo → ag lo hi m1 m2 := fun lo hi h a k z1 z2 => by
      rw [em2]
      exact ⟨si_o (by omega), rfl⟩
    have agA : ∀ lo hi, hi ≤ x + 15 ∨ x + 16 ≤ lo → (hi ≤ s ∨ s + 160 ≤ lo) → ag lo hi m m2 := fun lo hi h h' => ag_tr (ag_fr a3 h') (a15 lo hi h)
    have z15 : m2.1 (x + 15) 0 = nn 0 := by rw [em2]; exact si_s
    refine ⟨⟨⟨s, t, hN.1, ((agA x (x + 1) (by omega) (by omega) x 5 (by omega) (by omega)).2).trans hN.2.1, ((agA x (x + 1) (by omega) (by omega) x 6 (by omega) (by omega)).2).trans hN.2.2.1, aS_ag a2 (a15 _ _ (by omega)), sp_ag hN.2.2.2.2 (agA _ _ (by omega) (by omega))⟩, ⟨z15, fun k hk => by omega, fun k _ hk => by omega⟩, cS_k hV (agA _ _ (by omega) (by omega)) (agA _ _ (by omega) (by omega)), dW_0, kM, kJ, k0⟩, fun a k h => ?_, ?_⟩
    · rcases h with h | h
      · exact agA 0 x (by omega) (by omega) a k (by omega) h
      · exact agA (x + 661) (a + 1) (by omega) (by omega) a k h (by omega)
    · rw [em2]
      exact a3.2
  · rw [if_neg z, if_neg z]
    exact fE_ret ⟨rfl, ds_now hX hN hD hV a3 a2 hW kl kM kJ k0⟩
theorem mx_lt {f : Nat → Nat} : ∀ {k j : Nat} {w : Int} {mo : Nat}, w < j → mx f j k w mo < (j + k : Nat) := by
  intro k
  induction k with
  | zero => exact fun {j w mo} h => h
  | succ k ih =>
    intro j w mo h
    unfold mx
    split
    · have := ih (j := j + 1) (w := w) (mo := mo) (by omega)
      omega
    · have := ih (j := j + 1) (w := j) (mo := f j) (by omega)
      omega
theorem mx_ge {f : Nat → Nat} : ∀ {k j : Nat} {w : Int} {mo : Nat}, -1 ≤ w → -1 ≤ mx f j k w mo := by
  intro k
  induction k with
  | zero => exact fun {j w mo} h => h
  | succ k ih =>
    intro j w mo h
    unfold mx
    split
    · exact ih h
    · exact ih (by omega)
theorem L_weakLink (hX : kX H x) (h : DS x T m E l n d sv) : fE (f_X11_weakLink H x m) (fun r m1 => r < nn (eL E) ∧ DS x T m1 E l n d sv ∧ lF x m m1) := by
  obtain ⟨⟨s, t, hN⟩, hD, hV, hW, hM, hJ, h0⟩ := h
  obtain ⟨hS, hS2, q1, q2, q3, q4, q5⟩ := cN_S hX hN
  obtain ⟨a1, a2, a3, a4, a5, a6⟩ := aS_x hN.2.2.2.1
  have hI := hJ.1
  have h16 := hI.1.1.2.2.2.2.1.2.1
  have hE : er (cv m s) = E := hN.2.2.2.1.2.1
  have hXV : iX (cv m s) := sm_iX (sm_V a3) hI.1.2.1
  have hNV : iN (cv m s) := by
    have := hM.1
    rw [← hE] at this
    exact this
  have hQV : ∀ i, i < eK (cv m s) → iQ (cv m s) i 0 := fun i hi => by
    have := hI.1.2.2.2.1 i (by rw [← a6]; exact hi)
    rw [← hE] at this
    exact this
  unfold f_X11_weakLink
  rw [hN.2.1, if_pos (fm_is_b hS.1), show H.2.1 x 1 = x + 4 from hX.2.1.2.1]
  refine fE_be (c_weakest hX.2.2.2.1 hS (Or.inl (by omega)) a1 rfl a2 hXV (iB_V hN.2.2.2.1 hI.2.1) (iL_V hN.2.2.2.1 hI.1.2.2.1) hNV hQV) (fun r m1 ⟨r1, r2⟩ => fE_ret ⟨?_, ?_⟩)
  · have l1 := mx_lt (f := ctE (cv m s)) (k := eL (cv m s)) (j := 0) (w := -1) (mo := 0) (by omega)
    have l2 := mx_ge (f := ctE (cv m s)) (k := eL (cv m s)) (j := 0) (w := -1) (mo := 0) (by omega)
    rw [r1, Int32.lt_iff_toInt_lt, ii_toInt (by omega) (by omega), nn_t (by omega)]
    omega
  · have w : ∀ lo hi, hi ≤ x + 4 ∨ x + 15 ≤ lo → ag lo hi m m1 := fun lo hi g a k z1 z2 => ⟨r2.1 a k (by omega), by rw [r2.2]⟩
    exact ⟨⟨⟨s, t, hN.1, by rw [r2.2]; exact hN.2.1, by rw [r2.2]; exact hN.2.2.1, aS_ag hN.2.2.2.1 (w _ _ (by omega)), sp_ag hN.2.2.2.2 (w _ _ (by omega))⟩, cD_k hD (w _ _ (by omega)), cS_k hV (w _ _ (by omega)) (w _ _ (by omega)), hW, hM, hJ, h0⟩, fun a k h => ⟨r2.1 a k (by omega), by rw [r2.2]⟩, by rw [r2.2]⟩
end
