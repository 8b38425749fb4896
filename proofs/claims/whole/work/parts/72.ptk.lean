/-! the reference's tick is the class's -/
theorem ls_o {V : VV} {r : Nat → Int32} {i k : Nat} (h : k ≠ 6) : lsE V r 9 i k = V 9 i k := by
  unfold lsE
  split
  · rw [uV_p h, uV_k (by decide)]
  · exact uV_k (by decide)
theorem sH_q {V : VV} {i w h : Nat} (hw : w ≤ 9) (h3 : V 9 i 3 = nn w) (hh : h ≤ 1000) (h8 : V 9 i 8 = nn h) : (∀ k, k = 2 ∨ k = 9 ∨ k = 10 → (sH V i).1 9 i k = V 9 i k) ∧ (∃ w', w' ≤ 9 ∧ (sH V i).1 9 i 3 = nn w') ∧ (sH V i).1 9 i 8 = nn (h - 1) := by
  unfold sH
  by_cases e1 : V 9 i 8 ≤ 0
  · have h0 : h = 0 := by
      rw [h8, nl_0, nn_le (by omega) (by omega)] at e1
      omega
    subst h0
    rw [if_pos e1]
    by_cases e2 : V 9 i 3 ≤ 0
    · rw [if_pos e2]
      exact ⟨fun _ _ => rfl, ⟨w, hw, h3⟩, h8⟩
    · rw [if_neg e2]
      have w1 : 1 ≤ w := by
        rw [h3, nl_0, nn_le (by omega) (by omega)] at e2
        omega
      by_cases e3 : 60 ≤ V 0 0 6
      · rw [if_pos e3]
        exact ⟨fun _ _ => rfl, ⟨w, hw, h3⟩, h8⟩
      · rw [if_neg e3]
        have es : ∀ k, k ≠ 3 → k ≠ 4 → sdE V i 9 i k = V 9 i k := by
          intro k k3 k4
          unfold sdE
          rw [uV_k (by decide), uV_p k4, uV_p k3]
        have es3 : sdE V i 9 i 3 = nn (w - 1) := by
          unfold sdE
          rw [uV_k (by decide), uV_p (by decide), uV_s, h3, nl_1, nn_sub w1]
        have key : ∀ k, k ≠ 6 → (sP V i).1 9 i k = sdE V i 9 i k := by
          intro k hk
          unfold sP
          split
          · show uV (sdE V i) 0 0 6 (V 0 0 6 + 1) 9 i k = _
            rw [uV_k (by decide)]
          · exact ls_o hk
        refine ⟨fun k hk => ?_, ⟨w - 1, by omega, ?_⟩, ?_⟩
        · rw [key k (by omega), es k (by omega) (by omega)]
        · rw [key 3 (by decide), es3]
        · rw [key 8 (by decide), es 8 (by decide) (by decide)]
          exact h8
  · rw [if_neg e1]
    have h1 : 1 ≤ h := by
      rw [h8, nl_0, nn_le (by omega) (by omega)] at e1
      omega
    refine ⟨fun k hk => ?_, ⟨w, hw, ?_⟩, ?_⟩
    · show uV V 9 i 8 _ 9 i k = _
      rw [uV_p (by omega)]
    · show uV V 9 i 8 _ 9 i 3 = _
      rw [uV_p (by decide)]
      exact h3
    · show uV V 9 i 8 (V 9 i 8 - 1) 9 i 8 = _
      rw [uV_s, h8, nl_1, nn_sub h1]
theorem iQ_h {E : VV} {i dl : Nat} (hd : dl ≤ 1) (h : iQ E i dl) : ∃ x, x ≤ 1000 ∧ E 9 i 8 = nn x := by
  obtain ⟨-, -, -, -, q5⟩ := h
  rcases q5 with ⟨a1, a2, a3, a4, a5, a6⟩ | ⟨a1, a2, a3, a4, a5, a6⟩ | ⟨a1, a2, a3, ⟨d, e, d1, d2, d3, d4, d5⟩, a6⟩ | ⟨a1, a2, a3, a4, e, e1, e2⟩
  · exact ⟨0, by omega, a5.trans nl_0⟩
  · exact ⟨0, by omega, a5.trans nl_0⟩
  · exact ⟨e, by omega, d5⟩
  · exact ⟨e, by omega, e2⟩
theorem iQ_sF {E : VV} {i : Nat} (hQ : iQ E i 1) : iQ (sF E i).1 i 0 := by
  obtain ⟨w, w9, hw⟩ := hQ.2.1
  obtain ⟨x, x1, x2⟩ := iQ_h (Nat.le_refl 1) hQ
  have key : (∀ k, k = 2 ∨ k = 9 ∨ k = 10 → (sF E i).1 9 i k = E 9 i k) ∧ (∃ w', w' ≤ 9 ∧ (sF E i).1 9 i 3 = nn w') ∧ (sF E i).1 9 i 8 = nn (x - 1) := by
    unfold sF
    split
    · exact sH_q w9 hw x1 x2
    · split
      · have e9 : ∀ k, k ≠ 3 → bkE E i 1 9 i k = E 9 i k := fun k hk => by
          unfold bkE
          rw [uV_k (by decide), uV_p hk]
        have e3 : bkE E i 1 9 i 3 = nn (if w + 1 ≤ 9 then w + 1 else 9) := by
          unfold bkE
          rw [uV_k (by decide), uV_s, hw, nl_1, nn_add]
          exact (mnx (by omega)).1
        obtain ⟨g1, g2, g3⟩ := sH_q (V := bkE E i 1) (i := i) (w := if w + 1 ≤ 9 then w + 1 else 9) (h := x) (by split <;> omega) e3 x1 ((e9 8 (by decide)).trans x2)
        exact ⟨fun k hk => (g1 k hk).trans (e9 k (by omega)), g2, g3⟩
      · exact sH_q w9 hw x1 x2
  exact iQ_sd kS6_sF key.1 key.2.1 ⟨x, x2, x1, key.2.2⟩ hQ
theorem sA_S (E : VV) (j k : Nat) : sA E j (k + 1) = ((sA (sF E j).1 (j + 1) k).1, (sF E j).2 ++ (sA (sF E j).1 (j + 1) k).2) := rfl
section
variable {H : fm_H} {b : Nat} {m m00 : fm_M}
theorem r_tick_l (hM : kM H b) : ∀ (k q j : Nat) (m : fm_M) (ρ : Nat → Int32) (E : VV) (l : List (Nat → Int32)), rI b m00 m ρ → rB ρ E → rP ρ l → vG E → iX E → iL E → (∀ i, i < eK E → iQ E i (if i < j then 0 else 1)) → (∀ r, r ∈ l → pkO E r) → E 0 0 6 = nn l.length → j + k = eK E → k < q → fE (f_X12_passTick_10 H b q (nn j) m) (fun _ m' => ∃ ρ', rI b m00 m' ρ' ∧ rAll ρ' (uV (sA E j k).1 0 0 9 (E 0 0 9 + 1)) (l ++ (sA E j k).2) ∧ iV (uV (sA E j k).1 0 0 9 (E 0 0 9 + 1)) (l ++ (sA E j k).2)) := by
  intro k
  induction k with
  | zero =>
    intro q j m ρ E l hr hB hP hG hX hL hQ hpk h6 hj hq
    obtain ⟨q, rfl⟩ : ∃ q', q = q' + 1 := ⟨q - 1, by omega⟩
    have hK8 := hG.2.2.2.2.1.2.2.1
    have h4 := hB.2.1.1
    have s5 : ρ 5 = E 0 0 9 := hB.1.2.2.2.2.1
    unfold f_X12_passTick_10
    simp (disch := omega) only [kM_0 hM, kM_z1 hM, nl_4, nn_tn, nn_in, if_pos, hr.1, h4, nn_le, nl_5, fb_d, s5]
    show fE _ (fun _ m' => ∃ ρ', rI b m00 m' ρ' ∧ rAll ρ' (uV E 0 0 9 (E 0 0 9 + 1)) (l ++ []) ∧ iV (uV E 0 0 9 (E 0 0 9 + 1)) (l ++ []))
    rw [List.append_nil]
    have k9 : kS6 E (uV (uV E 0 0 9 (E 0 0 9 + 1)) 0 0 9 (E 0 0 9)) := by
      intro kd i k a c d
      rw [uV_at]
      split
      · rename_i h
        rw [h.1, h.2.1, h.2.2]
      · rename_i h
        rw [uV_at, if_neg h]
    have e9 : ∀ kd i k, kd ≠ 0 → uV E 0 0 9 (E 0 0 9 + 1) kd i k = E kd i k := fun kd i k h => uV_k h
    refine fE_ret ⟨_, rI_u hr, ⟨⟨?_, ?_, fun i hi => ?_⟩, rP_c hP (fun k hk => by rw [up_at, if_neg (by omega)])⟩, ?_, ?_, ?_, fun i hi => ?_, fun r hr => ?_, h6⟩
    · obtain ⟨g0, g1, g2, g3, g5, g7, g8, g9⟩ := hB.1
      have o : ∀ j, j ≠ 5 → pm_up ρ 5 (E 0 0 9 + nn 1) j = ρ j := fun j h => if_neg h
      have hL16 := hG.2.2.2.2.1.2.1
      refine ⟨(o 0 (by omega)).trans g0, (o 1 (by omega)).trans g1, (o 2 (by omega)).trans g2, (o 3 (by omega)).trans g3, ?_, fun k' hk' => (o _ (by omega)).trans (g7 k' hk'), fun i hi => (o _ (by omega)).trans (g8 i hi), fun j hj k' hk' => (o _ (by omega)).trans (g9 j hj k' hk')⟩
      rw [uV_s, up_at, if_pos rfl, nl_1]
    · refine ⟨?_, hB.2.1.2.1, fun i hi c hc => ?_⟩
      · rw [up_at, if_neg (by omega)]
        exact h4
      · exact rW_e (rW_c (hB.2.1.2.2 i hi c hc) (fun k a1 a2 => by rw [up_at, if_neg (by omega)])) (fun k => e9 _ _ _ (by omega)) (fun k => e9 _ _ _ (by omega))
    · have h9 := hB.2.2 i hi
      refine ⟨rC_c h9.1 (fun k a1 a2 => by rw [up_at, if_neg (by omega)]), ?_, fun c hc k k1 k2 => ?_⟩
      · rw [up_at, if_neg (by omega)]
        exact h9.2.1
      · rw [up_at, if_neg (by omega), e9 _ _ _ (by omega)]
        exact h9.2.2 c hc k k1 k2
    · exact vG_sm ⟨rfl, rfl, rfl, rfl, fun _ => rfl, fun _ => rfl, fun _ => rfl⟩ hG
    · obtain ⟨g1, g2, g3⟩ := hX
      refine ⟨⟨fun i c k t a1 a2 a3 a4 a5 a6 => ?_, fun t a1 a2 => ?_, fun i c k c' k' t a1 a2 a3 a4 a5 a6 a7 a8 a9 a10 => ?_⟩, g2, fun i hi c hc => ?_⟩
      · rw [e9 _ _ _ (by omega)] at a6
        rw [e9 (11 + 4 * c) _ _ (by omega)]
        exact g1.1 i c k t a1 a2 a3 a4 a5 a6
      · obtain ⟨i, c, k, c1, c2, c3, c4, c5⟩ := g1.2.1 t a1 a2
        exact ⟨i, c, k, c1, c2, c3, c4, (e9 _ _ _ (by omega)).trans c5⟩
      · rw [e9 _ _ _ (by omega)] at a9 a10
        exact g1.2.2 i c k c' k' t a1 a2 a3 a4 a5 a6 a7 a8 a9 a10
      · obtain ⟨w, w4⟩ := g3 i hi c hc
        exact ⟨iWy_c (E := E) (i := i) (c := c) rfl (fun _ _ => rfl) (fun k => e9 _ _ _ (by omega)) (fun k => e9 _ _ _ (by omega)) w, iHd_c (E := E) (i := i) (c := c) (fun k => e9 _ _ _ (by omega)) w4⟩
    · exact hL
    · have := hQ i hi
      rw [if_pos (show i < j by have : eK (uV E 0 0 9 (E 0 0 9 + 1)) = eK E := rfl; omega)] at this
      exact this
    · exact hpk r hr
  | succ k ih =>
    intro q j m ρ E l hr hB hP hG hX hL hQ hpk h6 hj hq
    obtain ⟨q, rfl⟩ : ∃ q', q = q' + 1 := ⟨q - 1, by omega⟩
    have hK8 := hG.2.2.2.2.1.2.2.1
    have h4 := hB.2.1.1
    have hjK : j < eK E := by omega
    have hQj := hQ j hjK
    rw [if_neg (by omega)] at hQj
    unfold f_X12_passTick_10
    simp (disch := omega) only [kM_0 hM, kM_z1 hM, nl_4, nn_tn, nn_in, if_pos, if_neg, hr.1, h4, nn_le, nl_1, nn_add]
    refine fE_be (r_sendFrom hM hr hB hP hG hX hjK hQj h6) (fun _ m' ⟨ρ', a1, a2, a3, a4⟩ => ?_)
    have k6 : kS6 E (sF E j).1 := kS6_sF
    have n6 : (sF E j).1 0 0 6 = nn (l ++ (sF E j).2).length := by
      rcases sF_6 (E := E) (i := j) with ⟨b1, b2⟩ | ⟨r, b1, b2⟩
      · rw [b1, b2, List.append_nil]
        exact h6
      · rw [b1, b2, h6, nl_1, nn_add, List.length_append]
        rfl
    have nK : eK (sF E j).1 = eK E := kS6_K k6
    have nG : vG (sF E j).1 := by
      refine vG_6 hG (fun kd i k c1 c2 c3 => ?_) (n := (l ++ (sF E j).2).length) n6 a3.2.1
      rw [er_at, er_at]
      split
      · rfl
      · exact k6 kd i k c1 c2 c3
    have g := ih q (j + 1) m' ρ' (sF E j).1 (l ++ (sF E j).2) a1 a2 a3 nG (kS6_iX k6 hX) (fun x hx => ?_) (fun i hi => ?_) (fun r hr => ?_) n6 (by rw [nK]; omega) (by omega)
    · rw [sA_S]
      dsimp only
      rw [k6 0 0 9 (by decide) (by decide) (by decide), List.append_assoc] at g
      exact g
    · rw [kS6_L k6] at hx
      rw [k6 3 _ _ (by decide) (by decide) (by decide)]
      exact hL x hx
    · rw [nK] at hi
      by_cases e : i = j
      · subst e
        rw [if_pos (by omega)]
        exact iQ_sF hQj
      · have := hQ i hi
        have e2 : (if i < j + 1 then 0 else 1) = if i < j then 0 else 1 := by
          by_cases e3 : i < j
          · rw [if_pos e3, if_pos (by omega)]
          · rw [if_neg e3, if_neg (by omega)]
        rw [e2]
        have h9 := (sF_9 (E := E) (i := j)).resolve_right (fun z => z ⟨hjK, by omega⟩)
        exact iQ_o (fun k => h9 i k e) (k6 _ _ _ (by decide) (by decide) (by decide)) (k6 _ _ _ (by decide) (by decide) (by decide)) (fun k => k6 _ _ _ (by decide) (by decide) (by omega)) (fun k => k6 _ _ _ (by decide) (by decide) (by omega)) this
    · have : pkO E r := by
        rcases List.mem_append.mp hr with h | h
        · exact hpk r h
        · exact a4 r h
      unfold pkO at this ⊢
      rw [nK]
      exact this
theorem r_passTick (hM : kM H b) {ρ : Nat → Int32} {E : VV} {l : List (Nat → Int32)} (hr : rI b m00 m ρ) (hA : rAll ρ E l) (hV : iV E l) : fE (f_X12_passTick H b m) (fun _ m' => ∃ ρ', rI b m00 m' ρ' ∧ rAll ρ' (tkE E l).1 (tkE E l).2 ∧ iV (tkE E l).1 (tkE E l).2) := by
  obtain ⟨hB, hP⟩ := hA
  obtain ⟨hG, hX, hL, hQ, hpk, h6⟩ := hV
  have hK8 := hG.2.2.2.2.1.2.2.1
  unfold f_X12_passTick
  refine fE_be (r_movePackets hM hr hB hP hG hX hpk) (fun _ m1 ⟨ρ1, a1, a2, a3⟩ => ?_)
  have kq : kQ E (mvP E l).2 := kQ_mvP
  have hpk1 := pk_mvP hX hK8 (rB_hS hB) hpk
  obtain ⟨E1, hE1⟩ : ∃ E1, E1 = uV (mvP E l).2 0 0 6 (ii ((mvP E l).1.length : Nat)) := ⟨_, rfl⟩
  have k1 : kS6 E E1 := by rw [hE1]; exact kS6_u (kS6_k (fun kd i k a c => kq kd i k a (by omega))) (Or.inr (Or.inr ⟨rfl, rfl⟩))
  have e6 : E1 0 0 6 = nn (mvP E l).1.length := by rw [hE1, uV_s]; rfl
  have hB1 : rB ρ1 E1 := by rw [hE1]; exact rB_6 a2
  have hG1 : vG E1 := by
    refine vG_6 hG (fun kd i k c1 c2 c3 => ?_) (n := (mvP E l).1.length) e6 a3.2.1
    rw [er_at, er_at]
    split
    · rfl
    · exact k1 kd i k c1 c2 c3
  have hX1 := kS6_iX k1 hX
  have hL1 : iL E1 := fun x hx => by
    rw [kS6_L k1] at hx
    rw [k1 3 _ _ (by decide) (by decide) (by decide)]
    exact hL x hx
  have eK1 : eK E1 = eK E := kS6_K k1
  have h9 : ∀ i k, E1 9 i k = (mvP E l).2 9 i k := fun i k => by rw [hE1, uV_k (by decide)]
  have hQ1 : ∀ i, i < eK E1 → iQ E1 i 0 := by
    intro i hi
    rw [eK1] at hi
    have q0 := iQ_kQ kq (k38_mvP i).1 (k38_mvP i).2 (hQ i hi)
    exact iQ_o (E := (mvP E l).2) (h9 i) (by rw [hE1, uV_k (by decide)]) (by rw [hE1, uV_k (by decide)]) (fun k => by rw [hE1, uV_k (by decide)]) (fun k => by rw [hE1, uV_k (by decide)]) q0
  refine fE_be (r_moveCircuits hM a1 hB1 a3 hG1 hX1 hL1 hQ1) (fun _ m2 ⟨ρ2, b1, b2, b3, b4, b5⟩ => ?_)
  have hA1 : iA E1 := fun i hi => by
    obtain ⟨q1, q2, q3, q4, q5⟩ := hQ1 i hi
    refine ⟨q1, fun z => ?_⟩
    rcases q5 with h | h | h | h
    · exact absurd h.1 z
    · exact h.2.1
    · exact h.2.1
    · exact h.2.1
  rw [eK1] at b2 b4 b5
  obtain ⟨c1, c2, c3, c4⟩ := mvC_i (V := E1) (k := eK E) (j := 0) (by omega) hG1 hA1
  have eK2 : eK (mvC E1 0 (eK E)) = eK E := by
    show ((mvC E1 0 (eK E)) 0 0 5).toInt.toNat = eK E
    rw [c3 0 0 5 (by decide)]
    exact eK1
  rw [nl_0]
  have g := r_tick_l hM (eK E) fm_N 0 m2 ρ2 (mvC E1 0 (eK E)) (mvP E l).1 b1 b2 b3 c1 b4 (fun x hx => by
    have : eL (mvC E1 0 (eK E)) = eL E1 := by unfold eL; rw [c3 1 0 1 (by decide)]
    rw [this] at hx
    rw [c3 3 _ _ (by decide)]
    exact hL1 x hx) (fun i hi => by rw [if_neg (by omega)]; exact b5 i (by omega)) (fun r hr => by
      have := hpk1 r hr
      unfold pkO at this ⊢
      rw [eK2]
      exact this) ((c3 0 0 6 (by decide)).trans e6) (by omega) (by unfold fm_N; omega)
  rw [c3 0 0 9 (by decide), k1 0 0 9 (by decide) (by decide) (by decide), hE1] at g
  exact g
end
