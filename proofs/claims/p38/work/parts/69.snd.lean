/-! the reference sends packets -/
theorem add_m1 (x : Int32) : x + (-1) = x - 1 := by
  rw [ii_of x, ii_m1, ii_add, ii_1, ii_sub]
  exact congrArg ii (by omega)
theorem pO_k {E E' : VV} {b c q : Nat} {r : Nat → Int32} (h : kS6 E E') (hb : 10 ≤ b) : pO E' b c q r = pO E b c q r := by
  unfold pO dOn
  rw [h (b + 2) _ _ (by omega) (by omega) (by omega), h (b + 1) _ _ (by omega) (by omega) (by omega), h (b + 3) _ _ (by omega) (by omega) (by omega), kS6_L h, h 3 _ _ (by omega) (by omega) (by omega)]
theorem uP_k {E E' : VV} {x : Int32} (h : kS6 E E') : uP E' x = uP E x := by
  unfold uP
  rw [kS6_L h, h 3 _ _ (by omega) (by omega) (by omega)]
theorem rB_6 {ρ : Nat → Int32} {E : VV} {x : Int32} (h : rB ρ E) : rB ρ (uV E 0 0 6 x) := by
  obtain ⟨h1, h2, h3⟩ := h
  have e : ∀ kd i k, kd ≠ 0 → uV E 0 0 6 x kd i k = E kd i k := fun kd i k h => uV_k h
  refine ⟨h1, ⟨h2.1, h2.2.1, fun i hi c hc => rW_e (h2.2.2 i hi c hc) (fun k => e _ _ _ (by omega)) (fun k => e _ _ _ (by omega))⟩, fun i hi => ⟨(h3 i hi).1, (h3 i hi).2.1, fun c hc k k1 k2 => ?_⟩⟩
  rw [e _ _ _ (by omega)]
  exact (h3 i hi).2.2 c hc k k1 k2
theorem sd_cm {E : VV} {i : Nat} {x y z : Int32} : uV (uV (uV E 8 0 0 x) 9 i 4 y) 9 i 3 z = uV (uV (uV E 9 i 3 z) 9 i 4 y) 8 0 0 x := by
  rw [uV_cm (kd := 9) (k := 4) (kd' := 9) (k' := 3) (by omega), uV_cm (kd := 8) (kd' := 9) (by omega), uV_cm (kd := 8) (kd' := 9) (by omega)]
theorem rP_ap {ρ ρ' : Nat → Int32} {l : List (Nat → Int32)} {r : Nat → Int32} (h : rP ρ l) (h60 : l.length < 60) (h6 : ρ' 6 = nn (l.length + 1)) (e : ∀ k, 632 ≤ k → k < 632 + 8 * l.length → ρ' k = ρ k) (hq : rQ ρ' (632 + 8 * l.length) r) : rP ρ' (l ++ [r]) := by
  refine ⟨by rw [List.length_append]; exact h6, by rw [List.length_append]; exact h60, fun p r' hr => ?_⟩
  by_cases ep : p < l.length
  · rw [List.getElem?_append_left ep] at hr
    have h9 := h.2.2 p r' hr
    unfold rQ at h9 ⊢
    rw [e _ (by omega) (by omega), e _ (by omega) (by omega), e _ (by omega) (by omega), e _ (by omega) (by omega), e _ (by omega) (by omega), e _ (by omega) (by omega), e _ (by omega) (by omega), e _ (by omega) (by omega)]
    exact h9
  · have := (List.getElem?_eq_some_iff.mp hr).1
    rw [List.length_append, List.length_singleton] at this
    have ep2 : p = l.length := by omega
    subst ep2
    rw [List.getElem?_append_right (by omega), Nat.sub_self, List.getElem?_cons_zero] at hr
    cases hr
    exact hq
theorem mnx {w : Nat} (h : w ≤ 100) : pm_mm false (nn w) 9 = nn (if w ≤ 9 then w else 9) ∧ pm_mm true 0 (nn w - 9) = nn w - pm_mm false (nn w) 9 := by
  have e : pm_mm false (nn w) 9 = nn (if w ≤ 9 then w else 9) := by
    show (if (9 : Int32) < nn w then (9 : Int32) else nn w) = _
    rw [nl_9]
    by_cases q : w ≤ 9
    · rw [if_neg (by rw [nn_lt (by omega) (by omega)]; omega), if_pos q]
    · rw [if_pos (by rw [nn_lt (by omega) (by omega)]; omega), if_neg q]
  refine ⟨e, ?_⟩
  rw [e, nl_9]
  by_cases q : w ≤ 9
  · rw [if_pos q, nn_sub (Nat.le_refl w), Nat.sub_self, nl_0]
    refine mx_l ?_
    unfold nn
    rw [ii_sub, ii_le (by omega) (by omega) (by omega) (by omega)]
    omega
  · rw [if_neg q, nn_sub (by omega)]
    refine mx_r ?_
    rw [nl_0, nn_le (by omega) (by omega)]
    omega
