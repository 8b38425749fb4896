/-! the reference appends nodes to a way -/
def apR (ρ : Nat → Int32) (p j : Nat) (v x y mk : Int32) : Nat → Int32 := pm_up (pm_up (pm_up (pm_up (pm_up ρ (p + 1 + j) v) (p + 7 + j) x) (p + 13 + j) y) (p + 19 + j) mk) p (nn (j + 1))
theorem apR_o {ρ : Nat → Int32} {p j : Nat} {v x y mk : Int32} {q : Nat} (hj : j < 6) (h : q < p ∨ p + 25 ≤ q) : apR ρ p j v x y mk q = ρ q := by
  unfold apR
  simp (disch := omega) only [up_at, if_neg]
/-- the way is one longer -/
theorem rK_ap {ρ : Nat → Int32} {E E' : VV} {K : Nat} {ln : Nat → Nat → Nat} {i c j : Nat} {v x y mk : Int32} (h : rK ρ E K ln) (hi : i < K) (hc : c < 2) (hln : ln i c = j) (hj : j < 6) (h11 : ∀ d a k, E' (11 + 4 * d) a k = E (11 + 4 * d) a k) (h13 : ∀ d a k, ¬ (d = c ∧ a = i ∧ k = j) → E' (13 + 4 * d) a k = E (13 + 4 * d) a k) (hv : E (11 + 4 * c) i j = v) (hs : slR x y (E' (13 + 4 * c) i j)) : rK (apR ρ (120 + 66 * i + 25 * c) j v x y mk) E' K (lu ln i c (j + 1)) := by
  obtain ⟨h4, hK, hW⟩ := h
  refine ⟨(apR_o hj (by omega)).trans h4, hK, fun a ha d hd => ?_⟩
  by_cases e : a = i ∧ d = c
  · obtain ⟨rfl, rfl⟩ := e
    rw [lu_s]
    obtain ⟨w1, w2, w3, w4⟩ := hW a ha d hd
    rw [hln] at w1 w2 w3 w4
    refine ⟨?_, by omega, fun k hk => ?_, fun k k2 => ?_⟩
    · unfold apR
      rw [up_at, if_pos rfl]
    · rw [h11]
      by_cases ek : k = j
      · subst ek
        unfold apR
        simp (disch := omega) only [up_at, if_neg, if_pos, it_T]
        exact hv.symm
      · rw [← w3 k (by omega)]
        unfold apR
        simp (disch := omega) only [up_at, if_neg]
    · by_cases ek : k = j
      · subst ek
        have := hs
        unfold apR
        simp (disch := omega) only [up_at, if_neg, if_pos, it_T]
        exact this
      · rw [h13 _ _ _ (by omega)]
        have := w4 k (by omega)
        unfold apR
        simp (disch := omega) only [up_at, if_neg]
        exact this
  · rw [lu_o e]
    refine rW_e (rW_c (hW a ha d hd) (fun k k1 k2 => apR_o hj ?_)) (fun k => h11 d a k) (fun k => h13 d a k (by omega))
    rcases (show c = 0 ∨ c = 1 by omega) with e1 | e1 <;> rcases (show d = 0 ∨ d = 1 by omega) with e2 | e2 <;> subst e1 <;> subst e2 <;> omega
section
variable {H : fm_H} {b : Nat} {m m00 : fm_M}
theorem r_ap97 (hM : kM H b) {ρ : Nat → Int32} (hr : rI b m00 m ρ) {p j : Nat} {v x y mk : Int32} (hp : p < 1000) (hj : j < 6) (h0 : ρ p = nn j) : fE (f_X12_appendToWay_97 H b v mk (nn p) (nn j) x y m) (fun z m' => z = 1 ∧ rI b m00 m' (apR ρ p j v x y mk)) := by
  unfold f_X12_appendToWay_97
  simp (disch := omega) only [kM_0 hM, kM_z1 hM, nl_1, nl_7, nl_13, nl_19, nn_add, nn_in, nn_tn, if_pos, fb_d, si_row, hr.1, up_at, if_neg, h0]
  exact fE_ret ⟨nl_1.symm, rI_u (rI_u (rI_u (rI_u (rI_u hr))))⟩
theorem r_appendToWay (hM : kM H b) {ρ : Nat → Int32} {E : VV} {K : Nat} {ln : Nat → Nat → Nat} (hr : rI b m00 m ρ) (hN : rN ρ E) (hG : vG E) (hB : iB E) (hZ : iZ E) (hK : rK ρ E K ln) (hT : iT E K ln) {i c j v br : Nat} {mk : Int32} (hi : i < K) (hc : c < 2) (hln : ln i c = j) (hj : j < 6) (hv : v < eN E) (hbr : E 0 0 7 = nn br) (h1000 : br < 1000) :
    fE (f_X12_appendToWay H b (nn i) (nn c) (nn v) mk m) (fun x m' => (j = 0 ∧ x = 1 ∧ rI b m00 m' (apR ρ (120 + 66 * i + 25 * c) j (nn v) (-1) (-1) mk)) ∨ (1 ≤ j ∧ tkI E v = -1 ∧ x = 0 ∧ rI b m00 m' ρ) ∨ (1 ≤ j ∧ tkI E v ≠ -1 ∧ x = 1 ∧ rI b m00 m' (apR ρ (120 + 66 * i + 25 * c) j (nn v) (nn ((tkI E v).toNat / 12)) (nn ((tkI E v).toNat % 12)) mk))) := by
  have hK8 := hK.2.1
  have hN10 := (rN_2 hN hG).2
  have w1 : ρ (120 + 66 * i + 25 * c) = nn j := by rw [(hK.2.2 i hi c hc).1, hln]
  have s0 : ρ 0 = nn br := hN.1.trans hbr
  have hz : ∀ f, f < 10 → ρ (14 + f) = nn (eZ E f) := fun f hf => (hN.2.2.2.2.2.2.1 f hf).trans (hG.2.2.2.2.2.1 f hf).1
  have hz12 := eZ_12 hG
  unfold f_X12_appendToWay
  simp (disch := omega) only [r_wayPlace, fb_n, kM_0 hM, kM_z1 hM, nn_in, nn_tn, if_pos, hr.1, w1]
  by_cases ej : j = 0
  · subst ej
    rw [if_pos (by decide)]
    exact fE_w (r_ap97 hM hr (by omega) (by omega) w1) (fun x m' ⟨a1, a2⟩ => Or.inl ⟨rfl, a1, a2⟩)
  · rw [if_neg (by rw [nl_0, nn_le (by omega) (by omega)]; omega)]
    refine fE_be (r_lowestFree hM hr hK hT (show v < 10 by omega) (hz v (by omega)) (hz12 v (by omega))) (fun x m1 ⟨ex, hr1⟩ => ?_)
    rw [ex]
    have et : tkI E v = tk E (eN E) (eZ E) v br := by
      unfold tkI
      rw [hbr, nn_t (by omega)]
      rfl
    rcases fi_r (p := fun i => decide (E 5 0 (v * 12 + i) = -1)) (k := eZ E v) (j := 0) with h | h
    · -- no own label
      have elf : lf E v (eZ E v) = -1 := by unfold lf; rw [if_pos h]
      rw [h, if_pos ii_m1.symm, r_count1 hM hr1.1 hK hT hZ hz12 (show v < 10 by omega), fb_n]
      simp (disch := omega) only [nl_0, nn_in, kM_z1 hM, if_pos, nn_tn, hr1.1, s0]
      have hbw := bw_le (V := E) (f := v) hz12
      by_cases e2 : bw E (eZ E) v < br
      · rw [if_neg (by rw [nn_le (by omega) (by omega)]; omega)]
        refine fE_be (r_lenderFor hM hr1 hN hG hB hK hT hv) (fun x m2 ⟨ex2, hr2⟩ => ?_)
        rw [ex2]
        unfold f_X12_appendToWay_68
        rcases tk_ld (V := E) (N := eN E) (Z := eZ E) (f := v) (k := eN E) (j := 0) (b := -1) (mo := 0) with h3 | ⟨f, h3, h4, h5, h6⟩
        · rw [h3, if_pos ii_m1.symm]
          refine fE_ret (Or.inr (Or.inl ⟨by omega, ?_, nl_0.symm, hr2⟩))
          rw [et]
          unfold tk
          rw [if_pos elf, if_pos e2, h3, if_pos (by decide)]
        · rw [h3, ← nn_ii, if_neg (nn_m1 (by omega)), if_pos ii_m1.symm]
          refine fE_be (r_highestFree hM hr2 hK hT (show f < 10 by omega) (hz f (by omega)) (hz12 f (by omega))) (fun y m3 ⟨ey, hr3⟩ => ?_)
          have hl0 : 0 < nc (fun i => decide (E 5 0 (f * 12 + i) = -1)) 0 (eZ E f) := by
            unfold fe at h6
            split at h6
            · omega
            · exact h6
          have hli := li_nc hl0
          have hlr := li_r (p := fun i => decide (E 5 0 (f * 12 + i) = -1)) (k := eZ E f)
          obtain ⟨y', hy'⟩ : ∃ y' : Nat, li (fun i => decide (E 5 0 (f * 12 + i) = -1)) (eZ E f) = y' := ⟨(li (fun i => decide (E 5 0 (f * 12 + i) = -1)) (eZ E f)).toNat, by omega⟩
          have hz2 := hz12 f (by omega)
          have etk : tkI E v = ((f * 12 + y' : Nat) : Int) := by
            rw [et]
            unfold tk
            rw [if_pos elf, if_pos e2, h3, if_neg (by omega)]
            unfold hf
            rw [show ((f : Nat) : Int).toNat = f from rfl, if_neg hli, hy']
            omega
          rw [ey, hy', ← nn_ii]
          refine fE_w (r_ap97 hM hr3 (by omega) hj w1) (fun x m' ⟨a1, a2⟩ => Or.inr (Or.inr ⟨by omega, by omega, a1, ?_⟩))
          rw [etk, show (((f * 12 + y' : Nat) : Int)).toNat = f * 12 + y' from rfl, show (f * 12 + y') / 12 = f from by omega, show (f * 12 + y') % 12 = y' from by omega]
          exact a2
      · rw [if_pos (by rw [nn_le (by omega) (by omega)]; omega)]
        unfold f_X12_appendToWay_68
        rw [if_pos rfl]
        refine fE_ret (Or.inr (Or.inl ⟨by omega, ?_, nl_0.symm, hr1⟩))
        rw [et]
        unfold tk
        rw [if_pos elf, if_neg e2]
    · obtain ⟨y', hy'⟩ : ∃ y' : Nat, fi (fun i => decide (E 5 0 (v * 12 + i) = -1)) 0 (eZ E v) = y' := ⟨(fi (fun i => decide (E 5 0 (v * 12 + i) = -1)) 0 (eZ E v)).toNat, by omega⟩
      have hz2 := hz12 v (by omega)
      rw [hy', ← nn_ii, if_neg (nn_m1 (by omega))]
      unfold f_X12_appendToWay_68
      rw [if_neg (nn_m1 (by omega)), if_neg (nn_m1 (by omega))]
      have etk : tkI E v = ((v * 12 + y' : Nat) : Int) := by
        rw [et]
        unfold tk lf
        rw [if_neg (by rw [if_neg (by omega)]; omega), if_neg (by omega), hy']
        omega
      refine fE_w (r_ap97 hM hr1 (by omega) hj w1) (fun x m' ⟨a1, a2⟩ => Or.inr (Or.inr ⟨by omega, by omega, a1, ?_⟩))
      rw [etk, show (((v * 12 + y' : Nat) : Int)).toNat = v * 12 + y' from rfl, show (v * 12 + y') / 12 = v from by omega, show (v * 12 + y') % 12 = y' from by omega]
      exact a2
end
