/-! the reference clears ways, and moves all circuits -/
def cpR (ρ : Nat → Int32) (p j : Nat) : Nat → Int32 := fun q => if p ≤ q ∧ q < p + j then ρ (q + 25) else ρ q
theorem cpR_0 {ρ : Nat → Int32} {p : Nat} : cpR ρ p 0 = ρ := funext fun q => if_neg (by omega)
theorem cpR_s {ρ : Nat → Int32} {p j : Nat} (h : j < 25) : pm_up (cpR ρ p j) (p + j) (cpR ρ p j (p + 25 + j)) = cpR ρ p (j + 1) := by
  funext q
  rw [up_at]
  unfold cpR
  by_cases e : q = p + j
  · rw [if_pos e, if_neg (by omega), if_pos (by omega)]
    exact congrArg ρ (by omega)
  · rw [if_neg e]
    by_cases e2 : p ≤ q ∧ q < p + j
    · rw [if_pos e2, if_pos (by omega)]
    · rw [if_neg e2, if_neg (by omega)]
theorem vG_gv {E : VV} {i x t : Nat} (h : vG E) : vG (gvE E i x t) := vG_sm ⟨rfl, rfl, rfl, rfl, fun _ => rfl, fun _ => rfl, fun _ => rfl⟩ h
section
variable {H : fm_H} {b : Nat} {m m00 : fm_M}
theorem r_clear_l (hM : kM H b) {ρ : Nat → Int32} {i : Nat} (hi : i < 8) {Q : Unit → fm_M → Prop} (hQ : ∀ m', rI b m00 m' (pm_up (pm_up (twR ρ i) (107 + 66 * i) 0) 12 (ρ 12 + 1)) → Q () m') : ∀ (k q j : Nat) (m : fm_M), rI b m00 m (cpR ρ (120 + 66 * i) j) → j + k = 25 → k < q → fE (f_X12_clearWay_44 H b (nn i) (nn (120 + 66 * i)) q (nn j) m) Q := by
  intro k
  induction k with
  | zero =>
    intro q j m hr h1 h2
    obtain ⟨q, rfl⟩ : ∃ q', q = q' + 1 := ⟨q - 1, by omega⟩
    have ej : j = 25 := by omega
    subst ej
    have e12 : cpR ρ (120 + 66 * i) 25 12 = ρ 12 := if_neg (by omega)
    unfold f_X12_clearWay_44
    simp (disch := omega) only [kM_0 hM, kM_z1 hM, nl_25, nl_2, nl_3, nl_12, nn_tn, nn_in, if_pos, nn_le, nn_add, fb_d, fb_n, r_put hM, si_row, hr.1, up_at, if_neg, e12]
    refine fE_ret (hQ _ ?_)
    have i4 := rI_u (k := 12) (x := ρ 12 + 1) (rI_u (k := 104 + 66 * i + 3) (x := 0) (rI_u (k := 104 + 66 * i + 2) (x := 0) (rI_u (k := 120 + 66 * i + 25) (x := 0) hr)))
    refine cast (congrArg (rI b m00 _) (funext fun q => ?_)) i4
    simp only [up_at]
    unfold cpR twR
    grind
  | succ k ih =>
    intro q j m hr h1 h2
    obtain ⟨q, rfl⟩ : ∃ q', q = q' + 1 := ⟨q - 1, by omega⟩
    unfold f_X12_clearWay_44
    simp (disch := omega) only [kM_0 hM, kM_z1 hM, nl_25, nl_1, nn_tn, nn_in, if_pos, if_neg, nn_le, nn_add, fb_d, hr.1]
    refine ih q (j + 1) _ ?_ (by omega) (by omega)
    rw [← cpR_s (by omega)]
    exact rI_u hr
theorem r_clearWay (hM : kM H b) {ρ : Nat → Int32} {E : VV} (hr : rI b m00 m ρ) (hB : rB ρ E) (hG : vG E) (hX : iX E) {i : Nat} (hi : i < eK E) (a1 : E 9 i 2 = 3) (h2 : 2 ≤ eA E i) (h4 : E 13 i (eA E i - 1) ≠ -1) : fE (f_X12_clearWay H b (nn i) m) (fun _ m' => ∃ ρ', rI b m00 m' ρ' ∧ rB ρ' (mC E i) ∧ ∀ k, k = 6 ∨ 632 ≤ k → ρ' k = ρ k) := by
  have hK8 := hG.2.2.2.2.1.2.2.1
  have hA6 : eA E i ≤ 6 := (hG.2.2.2.2.2.2.1 i (by omega)).2
  obtain ⟨x, x1, x2, x3, x4, x5⟩ := fx_ex (hX.2.2 i hi 0 (by omega)).2 h2
  have x6 : x < eA E i := by
    by_cases q : x = eA E i
    · exact absurd (x4 (eA E i - 1) (by omega) (by omega)) h4
    · omega
  obtain ⟨t, t1, t2⟩ := (rB_sl hB hi (c := 0) (k := x) (by omega) x1 x6).resolve_left (x5 x (by omega) x6)
  have s3 : ρ (104 + 66 * i + 3) = nn x := by
    rw [rB_st hB hi]
    unfold stE
    rw [if_neg (by rw [a1]; decide), if_neg (by rw [a1]; decide), if_pos a1, x3]
    rfl
  have w1 : ρ (120 + 66 * i) = nn (eA E i) := (hB.2.1.2.2 i hi 0 (by omega)).1
  unfold f_X12_clearWay f_X12_giveUp
  simp (disch := omega) only [kM_0 hM, kM_z1 hM, nl_0, nl_1, nl_3, nl_7, nl_13, nl_19, r_wayPlace, fb_n, r_of hM, hr.1, s3, nn_add, nn_in, if_pos, nn_tn, fb_d, r_put hM, si_row, up_at, if_neg, Nat.mul_zero, Nat.add_zero, w1, nn_le]
  have g1 : vG (gvE E i x t) := vG_gv hG
  have b1 := rBs_gv (t := t) (rBs_of (i := i) hB) hG hi x1 x6
  have b2 := rBs_st (x := nn (x + 1)) b1 g1 hi
  have i4 := rI_u (k := 104 + 66 * i + 3) (x := nn (x + 1)) (rI_u (k := 120 + 66 * i + 19 + x) (x := nn 0) (rI_u (k := 120 + 66 * i + 13 + x) (x := -1) (rI_u (k := 120 + 66 * i + 7 + x) (x := -1) hr)))
  rw [show 104 + 66 * i + 3 = 107 + 66 * i from by omega] at i4 ⊢
  by_cases e : x + 1 = eA E i
  · rw [if_pos (by omega), mC_G a1 x3 e t1 t2]
    rw [← cpR_0 (p := 120 + 66 * i) (ρ := pm_up _ _ _)] at i4
    refine r_clear_l hM (by omega) (fun m' h' => ⟨_, h', ?_, fun k hk => ?_⟩) 25 fm_N 0 _ i4 (by omega) (by unfold fm_N; omega)
    · have hGm : vG (tkN (gvE E i x t) i) := by
        have := vG_mC (V := E) (i := i) (by omega) hG
        rw [mC_G a1 x3 e t1 t2] at this
        exact vG_sm ⟨rfl, rfl, rfl, rfl, fun _ => rfl, fun _ => rfl, fun _ => rfl⟩ this
      have b3 := rBs_tw b2 g1 hi
      have b4 := rBs_st (x := 0) b3 hGm (show i < eK (tkN (gvE E i x t) i) from by
        rw [show eK (tkN (gvE E i x t) i) = eK E from by unfold eK; rw [tkN_o (by omega), gvE_o (by decide) (by decide)]]
        exact hi)
      have b5 : rB _ _ := rBs_to b4 (by
        rw [up_at, if_pos rfl]
        unfold stE
        have : tkN (gvE E i x t) i 9 i 2 = 0 := by unfold tkN; rw [uV_s]
        rw [this]
        rfl)
      have b6 := rB_8 (k := 5) (x := E 8 0 5 + 1) b5 (by omega) hGm
      have e12 : ρ 12 = E 8 0 5 := hB.1.2.2.2.2.2.1 5 (by omega)
      simp (disch := omega) only [up_at, if_neg, e12]
      exact b6
    · rw [up_at, if_neg (by omega), up_at, if_neg (by omega)]
      unfold twR
      rw [if_neg (by omega), if_neg (by omega), if_neg (by omega)]
      simp (disch := omega) only [up_at, if_neg]
  · rw [if_neg (by omega), mC_F a1 x3 (by omega) t1 t2]
    refine fE_ret ⟨_, i4, rBs_to b2 ?_, fun k hk => ?_⟩
    · rw [up_at, if_pos rfl]
      unfold stE
      have e9 : gvE E i x t 9 i 2 = 3 := (gvE_o (by decide) (by decide)).trans a1
      rw [e9, if_neg (by decide), if_neg (by decide), if_pos rfl]
      have := iX_gv hX hi x1 x6 t1 t2 x4
      obtain ⟨y, y1, y2, y3, y4, y5⟩ := fx_ex (E := gvE E i x t) (i := i) (this.2.2 i hi 0 (by omega)).2 h2
      have y2' : y ≤ eA E i := y2
      have ey : y = x + 1 := by
        by_cases q1 : y < x + 1
        · have := y5 x (by omega) x6
          rw [gvE_13, if_pos ⟨rfl, rfl⟩] at this
          exact absurd rfl this
        · by_cases q2 : x + 1 < y
          · have := y4 (x + 1) (by omega) q2
            rw [gvE_13, if_neg (by omega)] at this
            exact absurd this (x5 (x + 1) (by omega) (by omega))
          · omega
      rw [y3, ey]
      rfl
    · simp (disch := omega) only [up_at, if_neg]
theorem iL_mC {E : VV} {i : Nat} (h : iL E) : iL (mC E i) := by
  intro j hj
  have : eL (mC E i) = eL E := by unfold eL; rw [mC_o (by decide)]
  rw [this] at hj
  rw [mC_o (by decide)]
  exact h j hj
theorem r_moveCircuits_l (hM : kM H b) {l : List (Nat → Int32)} : ∀ (k q j : Nat) (m : fm_M) (ρ : Nat → Int32) (E : VV), rI b m00 m ρ → rB ρ E → rP ρ l → vG E → iX E → iL E → (∀ i, i < eK E → iQ E i (if i < j then 1 else 0)) → j + k = eK E → k < q → fE (f_X12_moveCircuits_2 H b q (nn j) m) (fun _ m' => ∃ ρ', rI b m00 m' ρ' ∧ rB ρ' (mvC E j k) ∧ rP ρ' l ∧ iX (mvC E j k) ∧ ∀ i, i < eK E → iQ (mvC E j k) i 1) := by
  intro k
  induction k with
  | zero =>
    intro q j m ρ E hr hB hP hG hX hL hQ hj hq
    obtain ⟨q, rfl⟩ : ∃ q', q = q' + 1 := ⟨q - 1, by omega⟩
    have hK8 := hG.2.2.2.2.1.2.2.1
    have h4 := hB.2.1.1
    unfold f_X12_moveCircuits_2
    simp (disch := omega) only [kM_0 hM, kM_z1 hM, nl_4, nn_tn, nn_in, if_pos, hr.1, h4, nn_le]
    refine fE_ret ⟨ρ, hr, hB, hP, hX, fun i hi => ?_⟩
    have := hQ i hi
    rw [if_pos (by omega)] at this
    exact this
  | succ k ih =>
    intro q j m ρ E hr hB hP hG hX hL hQ hj hq
    obtain ⟨q, rfl⟩ : ∃ q', q = q' + 1 := ⟨q - 1, by omega⟩
    have hK8 := hG.2.2.2.2.1.2.2.1
    have hjK : j < eK E := by omega
    have h4 := hB.2.1.1
    have h2 : ρ (104 + 66 * j + 2) = E 9 j 2 := (hB.2.2 j hjK).1 2 (by omega) (by omega) (by omega)
    have hq0 := hQ j hjK
    rw [if_neg (by omega)] at hq0
    obtain ⟨nX, nQ⟩ := mC_all hG hX hL hjK hq0 (fun c k hc h1 h2 => rB_sl hB hjK hc h1 h2)
    have nG : vG (mC E j) := vG_mC (by omega) hG
    have nL : iL (mC E j) := iL_mC hL
    have nK : eK (mC E j) = eK E := eK_mC
    have go : ∀ (m' : fm_M) (ρ' : Nat → Int32), rI b m00 m' ρ' → rB ρ' (mC E j) → rP ρ' l → fE (f_X12_moveCircuits_2 H b q (nn (j + 1)) m') (fun _ m' => ∃ ρ', rI b m00 m' ρ' ∧ rB ρ' (mvC E j (k + 1)) ∧ rP ρ' l ∧ iX (mvC E j (k + 1)) ∧ ∀ i, i < eK E → iQ (mvC E j (k + 1)) i 1) := by
      intro m' ρ' a1 a2 a3
      have g := ih q (j + 1) m' ρ' (mC E j) a1 a2 a3 nG nX nL (fun i hi => ?_) (by rw [nK]; omega) (by omega)
      · rw [nK] at g
        exact g
      · rw [nK] at hi
        by_cases e : i = j
        · subst e
          rw [if_pos (by omega)]
          exact nQ
        · have := hQ i hi
          have e2 : (if i < j + 1 then 1 else 0) = if i < j then 1 else 0 := by
            by_cases e3 : i < j
            · rw [if_pos e3, if_pos (by omega)]
            · rw [if_neg e3, if_neg (by omega)]
          rw [e2]
          exact iQ_o (fun k => mC_n e (by omega) (by omega)) (mC_n e (by omega) (by omega)) (mC_n e (by omega) (by omega)) (fun k => mC_n e (by omega) (by omega)) (fun k => mC_n e (by omega) (by omega)) this
    unfold f_X12_moveCircuits_2
    simp (disch := omega) only [kM_0 hM, kM_z1 hM, nl_4, nn_tn, nn_in, if_pos, if_neg, hr.1, h4, nn_le, nl_2, r_of hM, fb_n, h2, nl_1, nn_add]
    obtain ⟨q1, q2, q3, q4, q5⟩ := hq0
    have hA6 := (hG.2.2.2.2.2.2.1 j (by omega)).2
    rcases q5 with ⟨p1, p2, p3, p4, p5, p6⟩ | ⟨p1, p2, ⟨u, u1, u2⟩, p4, p5, p6⟩ | ⟨p1, p2, p3, ⟨d, e, d1, d2, d3, d4, d5⟩, p6⟩ | ⟨p1, p2, p3, p4, e, e1, e2⟩
    · rw [p1]
      refine go m ρ hr ?_ hP
      have em : mC E j = E := by
        unfold mC
        rw [if_neg (by rw [p1]; decide), if_neg (by rw [p1]; decide), if_neg (by rw [p1]; decide)]
      rw [em]
      exact hB
    · rw [p1]
      refine fE_be (r_build hM hr hB hG hX hjK p1 u1 u2 p5 q3) (fun _ m' ⟨ρ', b1, b2, b3⟩ => go m' ρ' b1 b2 (rP_c hP b3))
    · rw [p1]
      refine fE_be (r_drain hM hr hB hG hjK p1 d1 d2 d4 q1 p6 (hX.2.2 j hjK 0 (by omega)).2) (fun _ m' ⟨ρ', b1, b2, b3⟩ => go m' ρ' b1 b2 (rP_c hP b3))
    · rw [p1]
      refine fE_be (r_clearWay hM hr hB hG hX hjK p1 q1 q4) (fun _ m' ⟨ρ', b1, b2, b3⟩ => go m' ρ' b1 b2 (rP_c hP b3))
theorem r_moveCircuits (hM : kM H b) {ρ : Nat → Int32} {E : VV} {l : List (Nat → Int32)} (hr : rI b m00 m ρ) (hB : rB ρ E) (hP : rP ρ l) (hG : vG E) (hX : iX E) (hL : iL E) (hQ : ∀ i, i < eK E → iQ E i 0) : fE (f_X12_moveCircuits H b m) (fun _ m' => ∃ ρ', rI b m00 m' ρ' ∧ rB ρ' (mvC E 0 (eK E)) ∧ rP ρ' l ∧ iX (mvC E 0 (eK E)) ∧ ∀ i, i < eK E → iQ (mvC E 0 (eK E)) i 1) := by
  have hK8 := hG.2.2.2.2.1.2.2.1
  unfold f_X12_moveCircuits
  rw [nl_0]
  exact r_moveCircuits_l hM (eK E) fm_N 0 m ρ E hr hB hP hG hX hL (fun i hi => by rw [if_neg (by omega)]; exact hQ i hi) (by omega) (by unfold fm_N; omega)
end
