/-! the reference's packets arrive -/
theorem it_T {α : Type} {a b : α} {d : Decidable True} : @ite α True d a b = a := if_pos trivial
theorem uV_cm {V : VV} {kd i k kd' i' k' : Nat} {x y : Int32} (h : ¬ (kd = kd' ∧ i = i' ∧ k = k')) : uV (uV V kd i k x) kd' i' k' y = uV (uV V kd' i' k' y) kd i k x := by
  funext a b c
  simp only [uV_at]
  by_cases e : a = kd' ∧ b = i' ∧ c = k'
  · rw [if_pos e, if_neg (by omega), if_pos e]
  · rw [if_neg e, if_neg e]
theorem up_self {f : Nat → Int32} {k : Nat} {x : Int32} (h : f k = x) : pm_up f k x = f := by
  funext j
  rw [up_at]
  split
  · rename_i e; rw [e, h]
  · rfl
theorem mx_l {x y : Int32} (h : y ≤ x) : pm_mm true x y = x := by
  show (if x < y then y else x) = x
  rw [if_neg (Int32.not_lt.mpr h)]
theorem mx_r {x y : Int32} (h : ¬ y ≤ x) : pm_mm true x y = y := by
  show (if x < y then y else x) = y
  rw [if_pos (Int32.not_le.mp h)]
/-- the way's nodes are nodes, each link lies between its nodes, no node comes twice -/
def iWy (E : VV) (i c n : Nat) : Prop := (∀ k, k < n → ∃ x, x < eN E ∧ E (11 + 4 * c) i k = nn x) ∧
  (∀ k, 1 ≤ k → k < n → E (12 + 4 * c) i k = ii (lkE E (E (11 + 4 * c) i (k - 1)) (E (11 + 4 * c) i k)) ∧ lkE E (E (11 + 4 * c) i (k - 1)) (E (11 + 4 * c) i k) ≠ -1) ∧
  ∀ k k', k < n → k' < n → E (11 + 4 * c) i k = E (11 + 4 * c) i k' → k = k'
/-- behind a label that is had all are had -/
def iHd (E : VV) (i c n : Nat) : Prop := ∀ k k', 1 ≤ k → k < k' → k' < n → E (13 + 4 * c) i k ≠ -1 → E (13 + 4 * c) i k' ≠ -1
def iX (E : VV) : Prop := iT E (eK E) (eW E) ∧ (∀ t, t < 120 → E 5 0 t ≠ -1 → E 7 0 t = 0 ∨ E 7 0 t = 1) ∧ ∀ i, i < eK E → ∀ c, c < 2 → iWy E i c (eW E i c) ∧ iHd E i c (eW E i c)
theorem lkE_r {E : VV} {x y : Int32} (h : lkE E x y ≠ -1) : ∃ j, j < eL E ∧ lkE E x y = (j : Nat) := by
  rcases fi_r (p := fun j => decide ((E 3 j 0 = x ∧ E 3 j 1 = y) ∨ (E 3 j 0 = y ∧ E 3 j 1 = x))) (k := eL E) (j := 0) with h1 | h1
  · exact absurd h1 h
  · exact ⟨(lkE E x y).toNat, by unfold lkE at h ⊢; omega, by unfold lkE at h ⊢; omega⟩
theorem kQ_lk {E E' : VV} (h : kQ E E') (x y : Int32) : lkE E' x y = lkE E x y := by
  unfold lkE
  rw [kQ_L h]
  exact fi_c (fun j _ _ => by rw [h 3 j 0 (by omega) (by omega), h 3 j 1 (by omega) (by omega)])
theorem kQ_iX {E E' : VV} (h : kQ E E') (hX : iX E) : iX E' := by
  obtain ⟨h1, h2, h3⟩ := hX
  have e : ∀ kd i k, kd ≠ 8 → kd ≠ 9 → E' kd i k = E kd i k := fun kd i k a c => h kd i k a (by omega)
  refine ⟨by rw [kQ_K h, kQ_eW h]; exact kQ_iT h h1, fun t ht => ?_, ?_⟩
  · rw [e 5 _ _ (by omega) (by omega), e 7 _ _ (by omega) (by omega)]
    exact h2 t ht
  · rw [kQ_K h, kQ_eW h]
    intro i hi c hc
    obtain ⟨⟨w1, w2, w3⟩, w4⟩ := h3 i hi c hc
    refine ⟨⟨fun k hk => ?_, fun k k1 k2 => ?_, fun k k' k1 k2 => ?_⟩, fun k k' k1 k2 k3 => ?_⟩
    · rw [kQ_N h, e (11 + 4 * c) _ _ (by omega) (by omega)]
      exact w1 k hk
    · rw [e (11 + 4 * c) _ _ (by omega) (by omega), e (12 + 4 * c) _ _ (by omega) (by omega), e (11 + 4 * c) _ _ (by omega) (by omega), kQ_lk h]
      exact w2 k k1 k2
    · rw [e (11 + 4 * c) _ _ (by omega) (by omega), e (11 + 4 * c) _ _ (by omega) (by omega)]
      exact w3 k k' k1 k2
    · rw [e (13 + 4 * c) _ _ (by omega) (by omega), e (13 + 4 * c) _ _ (by omega) (by omega)]
      exact w4 k k' k1 k2 k3
/-- a packet is a circuit's, by some label -/
def pkO (E : VV) (r : Nat → Int32) : Prop := (∃ c, c < eK E ∧ r 0 = nn c) ∧ ∃ f l, f < 10 ∧ l < 12 ∧ r 5 = nn (f * 12 + l)
theorem slR_v {x y s : Int32} (h : slR x y s) (hs : s ≠ -1) : ∃ f l : Nat, f < 10 ∧ l < 12 ∧ s = nn (f * 12 + l) ∧ x = nn f ∧ y = nn l := by
  rcases h with ⟨h1, -, -⟩ | h1
  · exact absurd h1 hs
  · exact h1
theorem slR_n {x y : Int32} {f l : Nat} (h : slR x y (nn (f * 12 + l))) (hf : f < 10) (hl : l < 12) : x = nn f ∧ y = nn l := (slR_m h hf hl).mpr rfl
theorem rP_c2 {ρ ρ' : Nat → Int32} {dn l : List (Nat → Int32)} {r r' : Nat → Int32} (h : rP ρ (dn ++ r :: l)) (e : ∀ k, k = 6 ∨ (632 ≤ k ∧ (k < 632 + 8 * dn.length ∨ 640 + 8 * dn.length ≤ k)) → ρ' k = ρ k) (hq : rQ ρ' (632 + 8 * dn.length) r') : rP ρ' (dn ++ r' :: l) := by
  obtain ⟨h1, h2, h3⟩ := h
  have el : (dn ++ r' :: l).length = (dn ++ r :: l).length := by simp only [List.length_append, List.length_cons]
  refine ⟨by rw [el]; exact (e 6 (by omega)).trans h1, by rw [el]; exact h2, fun p r2 hr => ?_⟩
  by_cases ep : p = dn.length
  · subst ep
    rw [List.getElem?_append_right (by omega), Nat.sub_self, List.getElem?_cons_zero] at hr
    cases hr
    exact hq
  · have h9 := h3 p r2 (by
      by_cases e2 : p < dn.length
      · rw [List.getElem?_append_left e2] at hr ⊢; exact hr
      · rw [List.getElem?_append_right (by omega)] at hr ⊢
        obtain ⟨d, hd⟩ : ∃ d, p - dn.length = d + 1 := ⟨p - dn.length - 1, by omega⟩
        rw [hd, List.getElem?_cons_succ] at hr ⊢
        exact hr)
    unfold rQ at h9 ⊢
    rw [e _ (by omega), e _ (by omega), e _ (by omega), e _ (by omega), e _ (by omega), e _ (by omega), e _ (by omega), e _ (by omega)]
    exact h9
theorem dvE_nn {E : VV} {r : Nat → Int32} {c : Nat} (h : c < eK E) (h8 : c < 1000) (e : r 0 = nn c) : dvE E r = (if E 9 c 12 ≤ r 1 then uV (uV (uV (uV E 8 0 1 (E 8 0 1 + 1)) 9 c 5 (E 9 c 5 + 1)) 9 c 11 (E 9 c 11 + (E 0 0 9 + 1 - r 2))) 9 c 12 (r 1)
     else uV (uV (uV (uV (uV E 8 0 1 (E 8 0 1 + 1)) 9 c 5 (E 9 c 5 + 1)) 9 c 11 (E 9 c 11 + (E 0 0 9 + 1 - r 2))) 8 0 4 (E 8 0 4 + 1)) 9 c 7 (E 9 c 7 + 1)) := by
  unfold dvE
  rw [e, cR_nn h h8, if_pos rfl, nn_t (by omega), show ((c : Nat) : Int).toNat = c from rfl, uV_cm (kd := 9) (i := c) (k := 7) (kd' := 8) (k' := 4) (by omega)]
section
variable {H : fm_H} {b : Nat} {m m00 : fm_M}
theorem r_deliverPacket (hM : kM H b) {ρ : Nat → Int32} {E : VV} {dn l : List (Nat → Int32)} {r : Nat → Int32} {c : Nat} (hr : rI b m00 m ρ) (hB : rB ρ E) (hP : rP ρ (dn ++ r :: l)) (hG : vG E) (hc : c < eK E) (h0 : r 0 = nn c) : fE (f_X12_deliverPacket H b (nn dn.length) m) (fun _ m' => ∃ ρ', rI b m00 m' ρ' ∧ rB ρ' (dvE E r) ∧ rP ρ' (dn ++ l)) := by
  have hK8 := hG.2.2.2.2.1.2.2.1
  have hlen : dn.length < (dn ++ r :: l).length := by simp only [List.length_append, List.length_cons]; omega
  have h60 := hP.2.1
  have q0 : ρ (632 + 8 * dn.length) = nn c := (rP_at hP).1.trans h0
  have q1 : ρ (632 + 8 * dn.length + 1) = r 1 := (rP_at hP).2.1
  have q7 : ρ (632 + 8 * dn.length + 7) = r 2 := (rP_at hP).2.2.2.2.2.2
  have cc := fun k h1 h2 h3 => (hB.2.2 c hc).1 k h1 h2 h3
  have c5 : ρ (104 + 66 * c + 7) = E 9 c 5 := cc 5 (by omega) (by omega) (by omega)
  have c7 : ρ (104 + 66 * c + 9) = E 9 c 7 := cc 7 (by omega) (by omega) (by omega)
  have c11 : ρ (104 + 66 * c + 11) = E 9 c 11 := cc 11 (by omega) (by omega) (by omega)
  have c12 : ρ (104 + 66 * c + 10) = E 9 c 12 := cc 12 (by omega) (by omega) (by omega)
  have t8 : ρ 8 = E 8 0 1 := hB.1.2.2.2.2.2.1 1 (by omega)
  have t11 : ρ 11 = E 8 0 4 := hB.1.2.2.2.2.2.1 4 (by omega)
  have t5 : ρ 5 = E 0 0 9 := hB.1.2.2.2.2.1
  have i3 := rI_u (k := 104 + 66 * c + 11) (x := E 9 c 11 + (E 0 0 9 + 1 - r 2)) (rI_u (k := 104 + 66 * c + 7) (x := E 9 c 5 + 1) (rI_u (k := 8) (x := E 8 0 1 + 1) hr))
  have k1 : kQ E (uV E 8 0 1 (E 8 0 1 + 1)) := kQ_8
  have k2 : kQ E (uV (uV E 8 0 1 (E 8 0 1 + 1)) 9 c 5 (E 9 c 5 + 1)) := kQ_t k1 (kQ_9 (by omega))
  have k3 : kQ E (uV (uV (uV E 8 0 1 (E 8 0 1 + 1)) 9 c 5 (E 9 c 5 + 1)) 9 c 11 (E 9 c 11 + (E 0 0 9 + 1 - r 2))) := kQ_t k2 (kQ_9 (by omega))
  have b1 := rB_8 (k := 1) (x := E 8 0 1 + 1) hB (by omega) hG
  have b2 := rB_9 (c := c) (k := 5) (x := E 9 c 5 + 1) b1 (by omega) (by omega) (by omega) (by omega) (by omega) (kQ_G k1 hG)
  have b3 := rB_9 (c := c) (k := 11) (x := E 9 c 11 + (E 0 0 9 + 1 - r 2)) b2 (by omega) (by omega) (by omega) (by omega) (by omega) (kQ_G k2 hG)
  unfold f_X12_deliverPacket
  simp (disch := omega) only [kM_0 hM, kM_z1 hM, nl_0, nl_5, nl_7, nl_8, nl_10, nl_11, nl_9, nn_tn, nn_in, if_pos, fb_d, r_ofPacket hM, fb_n, si_row, hr.1, Nat.add_zero, up_at, if_neg, q0, q1, q7, r_grow hM, r_of hM, r_put hM, c5, c7, c11, c12, t8, t11, t5, nl_1]
  simp only [← nl_1]
  rw [dvE_nn hc (by omega) h0]
  by_cases e : E 9 c 12 ≤ r 1
  · rw [if_pos e, if_pos e, mx_l e]
    have b4 := rB_9 (c := c) (k := 12) (x := r 1) b3 (by omega) (by omega) (by omega) (by omega) (by omega) (kQ_G k3 hG)
    have i4 := rI_u (k := 104 + 66 * c + 10) (x := r 1) i3
    refine fE_be (r_removePacket hM i4 (n := (dn ++ r :: l).length) ?_ hlen h60) (fun _ m' h' => fE_ret ⟨_, h', ?_, ?_⟩)
    · simp (disch := omega) only [up_at, if_neg]
      exact hP.1
    · refine rB_c b4 (kQ_G (kQ_t k3 (kQ_9 (by omega))) hG) (fun k h1 h2 => ?_)
      unfold rmR
      rw [if_neg h2, if_neg (by omega)]
      rfl
    · refine rP_rm (rP_c hP (fun k hk => ?_))
      simp (disch := omega) only [up_at, if_neg]
  · rw [if_neg e, if_neg e, mx_r e]
    have b4 := rB_8 (k := 4) (x := E 8 0 4 + 1) b3 (by omega) (kQ_G k3 hG)
    have b5 := rB_9 (c := c) (k := 7) (x := E 9 c 7 + 1) b4 (by omega) (by omega) (by omega) (by omega) (by omega) (kQ_G (kQ_t k3 kQ_8) hG)
    have i5 := rI_u (k := 104 + 66 * c + 10) (x := E 9 c 12) (rI_u (k := 104 + 66 * c + 9) (x := E 9 c 7 + 1) (rI_u (k := 11) (x := E 8 0 4 + 1) i3))
    refine fE_be (r_removePacket hM i5 (n := (dn ++ r :: l).length) ?_ hlen h60) (fun _ m' h' => fE_ret ⟨_, h', ?_, ?_⟩)
    · simp (disch := omega) only [up_at, if_neg]
      exact hP.1
    · rw [up_self (by simp (disch := omega) only [up_at, if_neg]; exact c12)]
      refine rB_c b5 (kQ_G (kQ_t k3 (kQ_t kQ_8 (kQ_9 (by omega)))) hG) (fun k h1 h2 => ?_)
      unfold rmR
      rw [if_neg h2, if_neg (by omega)]
      rfl
    · refine rP_rm (rP_c hP (fun k hk => ?_))
      simp (disch := omega) only [up_at, if_neg]
theorem r_setOut (hM : kM H b) {ρ : Nat → Int32} {E : VV} {p i c q : Nat} {r : Nat → Int32} (hr : rI b m00 m ρ) (hB : rB ρ E) (hG : vG E) (h60 : p < 60) (hi : i < eK E) (hc : c < 2) (hq : 1 ≤ q) (hq2 : q < eW E i c) (hX : iX E) (q0 : ρ (632 + 8 * p) = r 0) (q1 : ρ (632 + 8 * p + 1) = r 1) (q7 : ρ (632 + 8 * p + 7) = r 2) : fE (f_X12_setOut H b (nn p) (nn (120 + 66 * i + 25 * c)) (nn q) m) (fun _ m' => ∃ ρ', rI b m00 m' ρ' ∧ (∀ k, k < 632 + 8 * p ∨ 640 + 8 * p ≤ k → ρ' k = ρ k) ∧ rQ ρ' (632 + 8 * p) (pO E (10 + 4 * c) i q r)) := by
  have hK8 := hG.2.2.2.2.1.2.2.1
  obtain ⟨hL, hL16⟩ := rN_3 hB.1 hG
  obtain ⟨w1, w2, w3, w4⟩ := hB.2.1.2.2 i hi c hc
  obtain ⟨l1, l2⟩ := (hX.2.2 i hi c hc).1.2.1 q hq hq2
  obtain ⟨j, hj, ej⟩ := lkE_r l2
  have a1 : ρ (120 + 66 * i + 25 * c + (1 + q - 1)) = E (11 + 4 * c) i (q - 1) := by
    rw [show 120 + 66 * i + 25 * c + (1 + q - 1) = 120 + 66 * i + 25 * c + 1 + (q - 1) from by omega]
    exact w3 (q - 1) (by omega)
  have a2 : ρ (120 + 66 * i + 25 * c + 1 + q) = E (11 + 4 * c) i q := w3 q hq2
  have lk := r_linkOf (m := m) hM hr.1 hL hL16 (E (11 + 4 * c) i (q - 1)) (E (11 + 4 * c) i q)
  rw [lkR_E hB.1, ej] at lk
  have h3 : ρ (24 + 5 * j + 3) = E 3 j 3 := hB.1.2.2.2.2.2.2.2 j hj 3 (by omega)
  have a1' : ρ (120 + 66 * i + 25 * c + 1 + q - 1) = E (11 + 4 * c) i (q - 1) := by
    rw [← a1]
    exact congrArg ρ (by omega)
  unfold f_X12_setOut
  simp (disch := omega) only [kM_0 hM, kM_z1 hM, nl_632, nl_8, nl_1, nl_2, nl_3, nl_4, nl_5, nl_6, nl_7, nl_13, nn_mul, nn_add, nn_sub, nn_tn, nn_in, if_pos, if_neg, fb_d, fb_n, si_row, hr.1, up_at, a1', a2]
  rw [lk, fb_n, ← nn_ii]
  simp (disch := omega) only [kM_0 hM, kM_z1 hM, nn_tn, nn_in, if_pos, if_neg, fb_d, fb_n, si_row, hr.1, up_at, a1', a2, r_ofLink hM, h3]
  refine fE_ret ⟨_, rI_u (rI_u (rI_u (rI_u (rI_u hr)))), fun k hk => ?_, ?_⟩
  · simp (disch := omega) only [up_at, if_neg]
  · unfold rQ pO
    have s4 := w4 q hq2
    rw [show 10 + 4 * c + 2 = 12 + 4 * c from by omega, show 10 + 4 * c + 1 = 11 + 4 * c from by omega, show 10 + 4 * c + 3 = 13 + 4 * c from by omega, l1, ej, dOn_ii hj (by omega)]
    simp (disch := omega) only [up_at, if_neg, if_pos]
    exact ⟨q0, q1, rfl, rfl, s4, rfl, q7⟩
end
