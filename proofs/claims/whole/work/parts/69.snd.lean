/-! the reference sends packets -/
theorem add_m1 (x : Int32) : x + (-1) = x - 1 := by
  rw [ii_of x, ii_m1, ii_add, ii_1, ii_sub]
  exact congrArg ii (by omega)
theorem pO_k {E E' : VV} {b c q : Nat} {r : Nat → Int32} (h : kS6 E E') (hb : 10 ≤ b) : pO E' b c q r = pO E b c q r := by
  unfold pO dOn
  rw [h (b + 2) _ _ (by omega) (by omega) (by omega), h (b + 1) _ _ (by omega) (by omega) (by omega), h (b + 3) _ _ (by omega) (by omega) (by omega), kS6_L h, h 3 _ _ (by omega) (by omega) (by omega)]
theorem uP_k {E E' : VV} {x : Int32} (h : kS6 E E') : uP E' x = uP E x := by
  unfold uP
  rw [kS6_L h, h 3 _ _ (by omega) (by omega) (by omega)]
theorem rB_6 {ρ : Nat → Int32} {E : VV} {x : Int32} (h : rB ρ E) : rB ρ (uV E 0 0 6 x) := by
  obtain ⟨h1, h2, h3⟩ := h
  have e : ∀ kd i k, kd ≠ 0 → uV E 0 0 6 x kd i k = E kd i k := fun kd i k h => uV_k h
  refine ⟨h1, ⟨h2.1, h2.2.1, fun i hi c hc => rW_e (h2.2.2 i hi c hc) (fun k => e _ _ _ (by omega)) (fun k => e _ _ _ (by omega))⟩, fun i hi => ⟨(h3 i hi).1, (h3 i hi).2.1, fun c hc k k1 k2 => ?_⟩⟩
  rw [e _ _ _ (by omega)]
  exact (h3 i hi).2.2 c hc k k1 k2
theorem sd_cm {E : VV} {i : Nat} {x y z : Int32} : uV (uV (uV E 8 0 0 x) 9 i 4 y) 9 i 3 z = uV (uV (uV E 9 i 3 z) 9 i 4 y) 8 0 0 x := by
  rw [uV_cm (kd := 9) (k := 4) (kd' := 9) (k' := 3) (by omega), uV_cm (kd := 8) (kd' := 9) (by omega), uV_cm (kd := 8) (kd' := 9) (by omega)]
theorem rP_ap {ρ ρ' : Nat → Int32} {l : List (Nat → Int32)} {r : Nat → Int32} (h : rP ρ l) (h60 : l.length < 60) (h6 : ρ' 6 = nn (l.length + 1)) (e : ∀ k, 632 ≤ k → k < 632 + 8 * l.length → ρ' k = ρ k) (hq : rQ ρ' (632 + 8 * l.length) r) : rP ρ' (l ++ [r]) := by
  refine ⟨by rw [List.length_append]; exact h6, by rw [List.length_append]; exact h60, fun p r' hr => ?_⟩
  by_cases ep : p < l.length
  · rw [List.getElem?_append_left ep] at hr
    have h9 := h.2.2 p r' hr
    unfold rQ at h9 ⊢
    rw [e _ (by omega) (by omega), e _ (by omega) (by omega), e _ (by omega) (by omega), e _ (by omega) (by omega), e _ (by omega) (by omega), e _ (by omega) (by omega), e _ (by omega) (by omega), e _ (by omega) (by omega)]
    exact h9
  · have := (List.getElem?_eq_some_iff.mp hr).1
    rw [List.length_append, List.length_singleton] at this
    have ep2 : p = l.length := by omega
    subst ep2
    rw [List.getElem?_append_right (by omega), Nat.sub_self, List.getElem?_cons_zero] at hr
    cases hr
    exact hq
theorem mnx {w : Nat} (h : w ≤ 100) : pm_mm false (nn w) 9 = nn (if w ≤ 9 then w else 9) ∧ pm_mm true 0 (nn w - 9) = nn w - pm_mm false (nn w) 9 := by
  have e : pm_mm false (nn w) 9 = nn (if w ≤ 9 then w else 9) := by
    show (if (9 : Int32) < nn w then (9 : Int32) else nn w) = _
    rw [nl_9]
    by_cases q : w ≤ 9
    · rw [if_neg (by rw [nn_lt (by omega) (by omega)]; omega), if_pos q]
    · rw [if_pos (by rw [nn_lt (by omega) (by omega)]; omega), if_neg q]
  refine ⟨e, ?_⟩
  rw [e, nl_9]
  by_cases q : w ≤ 9
  · rw [if_pos q, nn_sub (Nat.le_refl w), Nat.sub_self, nl_0]
    refine mx_l ?_
    unfold nn
    rw [ii_sub, ii_le (by omega) (by omega) (by omega) (by omega)]
    omega
  · rw [if_neg q, nn_sub (by omega)]
    refine mx_r ?_
    rw [nl_0, nn_le (by omega) (by omega)]
    omega
section
variable {H : fm_H} {b : Nat} {m m00 : fm_M}
theorem r_growBacklog (hM : kM H b) {ρ : Nat → Int32} {E : VV} {l : List (Nat → Int32)} (hr : rI b m00 m ρ) (hB : rB ρ E) (hP : rP ρ l) (hG : vG E) {i w y : Nat} (hi : i < eK E) (hw : E 9 i 3 = nn w) (hw9 : w + y ≤ 100) : fE (f_X12_growBacklog H b (nn i) (nn y) m) (fun _ m' => ∃ ρ', rI b m00 m' ρ' ∧ rB ρ' (bkE E i (nn y)) ∧ rP ρ' l) := by
  have hK8 := hG.2.2.2.2.1.2.2.1
  have s5 : ρ (104 + 66 * i + 5) = nn w := ((hB.2.2 i hi).1 3 (by omega) (by omega) (by omega)).trans hw
  have s10 : ρ 10 = E 8 0 3 := hB.1.2.2.2.2.2.1 3 (by omega)
  unfold f_X12_growBacklog
  simp (disch := omega) only [kM_0 hM, kM_z1 hM, nl_5, nl_10, r_of hM, fb_n, hr.1, s5, nn_in, nn_tn, if_pos, fb_d, r_put hM, si_row, s10]
  rw [nn_add, (mnx hw9).2]
  have b1 := rB_8 (k := 3) (x := E 8 0 3 + (nn (w + y) - pm_mm false (nn (w + y)) 9)) hB (by omega) hG
  have b2 := rB_9 (c := i) (k := 3) (x := pm_mm false (nn (w + y)) 9) b1 (by omega) (by omega) (by omega) (by omega) (by omega) (kQ_G kQ_8 hG)
  refine fE_ret ⟨_, rI_u (rI_u hr), ?_, rP_c hP (fun k hk => by rw [up_at, if_neg (by omega), up_at, if_neg (by omega)])⟩
  unfold bkE
  rw [hw, nn_add, uV_cm (by omega)]
  exact b2
theorem r_activePlace (hM : kM H b) {ρ : Nat → Int32} {E : VV} (hr : m.1 (b + 1) = ρ) (hB : rB ρ E) (hG : vG E) {i p : Nat} (hi : i < eK E) (hp : E 9 i 2 = nn p) (hp3 : p ≤ 3) : ∃ c, c < 2 ∧ acB E i = 10 + 4 * c ∧ (c = 1 ↔ (E 9 i 2 = 2 ∨ E 9 i 2 = 3)) ∧ f_X12_activePlace H b (nn i) m = some (nn (120 + 66 * i + 25 * c), m) := by
  have hK8 := hG.2.2.2.2.1.2.2.1
  have s2 : ρ (104 + 66 * i + 2) = nn p := ((hB.2.2 i hi).1 2 (by omega) (by omega) (by omega)).trans hp
  have key : (E 9 i 2 = 2 ∨ E 9 i 2 = 3) ↔ ¬ p ≤ 1 := by
    rw [hp, nl_2, nl_3, nn_eq (by omega) (by omega), nn_eq (by omega) (by omega)]
    omega
  unfold f_X12_activePlace acB
  simp (disch := omega) only [nl_2, r_of hM, fb_n, hr, s2, nl_0, nl_1, r_wayPlace, nn_le]
  simp only [← nl_2]
  by_cases e : p ≤ 1
  · refine ⟨0, by omega, ?_, ?_, by rw [if_pos e]⟩
    · rw [if_neg (fun z => key.mp z e)]
    · exact ⟨fun z => by omega, fun z => absurd e (key.mp z)⟩
  · refine ⟨1, by omega, ?_, ?_, by rw [if_neg e]⟩
    · rw [if_pos (key.mpr e)]
    · exact ⟨fun _ => key.mpr e, fun _ => rfl⟩
end
