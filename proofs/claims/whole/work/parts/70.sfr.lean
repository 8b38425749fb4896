/-! the reference's sendings and ticks -/
section
variable {H : fm_H} {b : Nat} {m m00 : fm_M}
theorem r_sendPacket (hM : kM H b) {ρ : Nat → Int32} {E : VV} {l : List (Nat → Int32)} (hr : rI b m00 m ρ) (hB : rB ρ E) (hP : rP ρ l) (hG : vG E) (hX : iX E) {i : Nat} (hi : i < eK E) (hQ : iQ E i 1) (h60 : l.length < 60) (hE6 : E 0 0 6 = nn l.length) : fE (f_X12_sendPacket H b (nn i) m) (fun _ m' => ∃ ρ', rI b m00 m' ρ' ∧ rB ρ' (sP E i).1 ∧ rP ρ' (l ++ (sP E i).2) ∧ ∀ r, r ∈ (sP E i).2 → pkO E r) := by
  have hK8 := hG.2.2.2.2.1.2.2.1
  obtain ⟨q1, q2, q3, q4, q5⟩ := hQ
  have hph : ∃ p, p ≤ 3 ∧ E 9 i 2 = nn p := by
    rcases q5 with h | h | h | h
    · exact ⟨0, by omega, h.1.trans nl_0⟩
    · exact ⟨1, by omega, h.1.trans nl_1⟩
    · exact ⟨2, by omega, h.1.trans nl_2⟩
    · exact ⟨3, by omega, h.1.trans nl_3⟩
  obtain ⟨p, p3, hp⟩ := hph
  have h6 := hP.1
  have s4 : ρ (104 + 66 * i + 6) = E 9 i 4 := (hB.2.2 i hi).1 4 (by omega) (by omega) (by omega)
  have s3 : ρ (104 + 66 * i + 5) = E 9 i 3 := (hB.2.2 i hi).1 3 (by omega) (by omega) (by omega)
  have s0 : ρ 7 = E 8 0 0 := hB.1.2.2.2.2.2.1 0 (by omega)
  have s5 : ρ 5 = E 0 0 9 := hB.1.2.2.2.2.1
  have m1' : (-1 : Int32) = -1 := rfl
  unfold f_X12_sendPacket
  simp (disch := omega) only [kM_0 hM, kM_z1 hM, nl_6, nl_632, nl_8, nl_0, nl_1, nl_7, nl_5, nl_2, nl_4, nn_mul, nn_add, Nat.add_zero, nn_tn, nn_in, if_pos, if_neg, hr.1, h6, fb_d, fb_n, si_row, up_at, r_of hM, r_grow hM, s4, s3, s0, s5]
  have i8 := rI_u (k := 104 + 66 * i + 5) (x := E 9 i 3 - 1) (rI_u (k := 104 + 66 * i + 6) (x := E 9 i 4 + 1) (rI_u (k := 7) (x := E 8 0 0 + 1) (rI_u (k := 6) (x := nn (l.length + 1)) (rI_u (k := 632 + 8 * l.length + 7) (x := E 0 0 9 + 1) (rI_u (k := 632 + 8 * l.length + 1) (x := E 9 i 4) (rI_u (k := 632 + 8 * l.length) (x := nn i) hr))))))
  simp only [← nl_1, add_m1]
  obtain ⟨M, hMd⟩ : ∃ M, M = fm_si (fm_si (fm_si (fm_si (fm_si (fm_si (fm_si m (b + 1) (632 + 8 * l.length) (nn i)) (b + 1) (632 + 8 * l.length + 1) (E 9 i 4)) (b + 1) (632 + 8 * l.length + 7) (E 0 0 9 + 1)) (b + 1) 6 (nn (l.length + 1))) (b + 1) 7 (E 8 0 0 + 1)) (b + 1) (104 + 66 * i + 6) (E 9 i 4 + 1)) (b + 1) (104 + 66 * i + 5) (E 9 i 3 - 1) := ⟨_, rfl⟩
  rw [← hMd] at i8 ⊢
  obtain ⟨ρ1, hρ1⟩ : ∃ ρ1, ρ1 = M.1 (b + 1) := ⟨_, rfl⟩
  have eρ := i8.1
  rw [← hρ1] at eρ
  have i9 : rI b m00 M ρ1 := ⟨hρ1.symm, i8.2⟩
  have b0 := rB_8 (k := 0) (x := E 8 0 0 + 1) hB (by omega) hG
  have b1 := rB_9 (c := i) (k := 4) (x := E 9 i 4 + 1) b0 (by omega) (by omega) (by omega) (by omega) (by omega) (kQ_G kQ_8 hG)
  have b2 := rB_9 (c := i) (k := 3) (x := E 9 i 3 - 1) b1 (by omega) (by omega) (by omega) (by omega) (by omega) (kQ_G (kQ_t kQ_8 (kQ_9 (by omega))) hG)
  rw [sd_cm] at b2
  have e1 : sdE E i = uV (uV (uV E 9 i 3 (E 9 i 3 - 1)) 9 i 4 (E 9 i 4 + 1)) 8 0 0 (E 8 0 0 + 1) := rfl
  rw [← e1] at b2
  have kS : kQ E (sdE E i) := kQ_t (kQ_t (kQ_9 (by omega)) (kQ_9 (by omega))) kQ_8
  have k6 : kS6 E (sdE E i) := kS6_k (fun kd j k a c => kS kd j k a (by omega))
  have hG1 := kQ_G kS hG
  have hB1 : rB ρ1 (sdE E i) := rB_c b2 hG1 (fun k a1 a2 => by
    rw [eρ]
    simp (disch := omega) only [up_at, if_neg]
    rfl)
  have hX1 := kQ_iX kS hX
  have hi1 : i < eK (sdE E i) := by rw [kQ_K kS]; exact hi
  obtain ⟨c, hc, ec, ec2, ea⟩ := r_activePlace (m := M) hM i9.1 hB1 hG1 hi1 (show sdE E i 9 i 2 = nn p from (kS 9 i 2 (by omega) (by omega)).trans hp) p3
  have eac : acB (sdE E i) i = acB E i := by
    unfold acB
    rw [kS 9 i 2 (by omega) (by omega)]
  rw [eac] at ec
  rw [kS 9 i 2 (by omega) (by omega)] at ec2
  rw [ea, fb_n]
  have hlen : 1 < eW (sdE E i) i c := by
    rw [kQ_eW kS]
    rcases (show c = 0 ∨ c = 1 by omega) with e | e
    · subst e
      show 1 < eA E i
      omega
    · subst e
      show 1 < eB E i
      have e23 := ec2.mp rfl
      rcases q5 with h | h | h | h
      · rw [h.1] at e23; exact absurd e23 (by decide)
      · rw [h.1] at e23; exact absurd e23 (by decide)
      · exact h.2.1
      · exact h.2.1
  have hsl : E (13 + 4 * c) i 1 ≠ -1 := by
    rcases (show c = 0 ∨ c = 1 by omega) with e | e
    · subst e
      have e23 : ¬ (E 9 i 2 = 2 ∨ E 9 i 2 = 3) := fun z => absurd (ec2.mpr z) (by decide)
      rcases q5 with h | h | h | h
      · exact h.2.2.2.2.2 1 (by omega) (by omega)
      · exact h.2.2.2.2.2 1 (by omega) (by omega)
      · exact absurd (Or.inl h.1) e23
      · exact absurd (Or.inr h.1) e23
    · subst e
      rw [kQ_eW kS] at hlen
      exact q3 1 (by omega) hlen
  have hpk : pkO E (nwR E i) := by
    rw [kQ_eW kS] at hlen
    refine ⟨⟨i, hi, rfl⟩, ?_⟩
    obtain ⟨f, l', hf, hl, e', -, -⟩ := slR_v ((hB.2.1.2.2 i hi c hc).2.2.2 1 hlen) hsl
    refine ⟨f, l', hf, hl, ?_⟩
    rw [← e', show 13 + 4 * c = acB E i + 3 from by omega]
    rfl
  have r0 : ρ1 (632 + 8 * l.length) = nn i := by rw [eρ]; simp (disch := omega) only [up_at, if_neg, if_pos, it_T]
  have r1 : ρ1 (632 + 8 * l.length + 1) = E 9 i 4 := by rw [eρ]; simp (disch := omega) only [up_at, if_neg, if_pos, it_T]
  have r7 : ρ1 (632 + 8 * l.length + 7) = E 0 0 9 + 1 := by rw [eρ]; simp (disch := omega) only [up_at, if_neg, if_pos, it_T]
  have so := r_setOut hM (r := fun k => if k = 0 then ii i else if k = 1 then E 9 i 4 else if k = 2 then E 0 0 9 + 1 else 0) i9 hB1 hG1 h60 hi1 hc (Nat.le_refl 1) hlen hX1 r0 r1 r7
  rw [pO_k k6 (by omega), ← ec] at so
  rw [nl_1]
  refine fE_be so (fun _ m' ⟨ρ', a1, a2, a3⟩ => ?_)
  have en : pO E (acB E i) i 1 (fun k => if k = 0 then ii i else if k = 1 then E 9 i 4 else if k = 2 then E 0 0 9 + 1 else 0) = nwR E i := rfl
  rw [en] at a3
  have hB' : rB ρ' (sdE E i) := rB_c hB1 hG1 (fun k c1 c2 => a2 k (by omega))
  have hP' : rP ρ' (l ++ [nwR E i]) := by
    refine rP_ap hP h60 ?_ (fun k c1 c2 => ?_) a3
    · rw [a2 6 (by omega), eρ]
      simp (disch := omega) only [up_at, if_neg, if_pos, it_T]
    · rw [a2 k (by omega), eρ]
      simp (disch := omega) only [up_at, if_neg]
  rw [kQ_eW kS] at hlen
  obtain ⟨l1, l2⟩ := (hX.2.2 i hi c hc).1.2.1 1 (Nat.le_refl 1) hlen
  obtain ⟨j, hj, ej⟩ := lkE_r l2
  have hL16 := hG.2.2.2.2.1.2.1
  have lj : nwR E i 3 = nn j := by
    show E (acB E i + 2) i 1 = nn j
    rw [show acB E i + 2 = 12 + 4 * c from by omega, l1, ej]
    rfl
  have p2 : ρ' (632 + 8 * l.length + 2) = nn j := a3.2.2.1.trans lj
  have p4 : ρ' (24 + 5 * j + 4) = E 3 j 4 := hB'.1.2.2.2.2.2.2.2 j (by rw [kQ_L kS]; exact hj) 4 (by omega)
  simp (disch := omega) only [r_ofPacket hM, fb_n, a1.1, p2, r_ofLink hM, p4]
  have u1 : uP E (nn j) = decide (E 3 j 4 ≠ 0) := by
    unfold uP
    rw [nn_t (by omega), show ((j : Nat) : Int).toNat = j from rfl]
    exact decide_eq_decide.mpr ⟨fun z => z.2.2, fun z => ⟨by omega, by omega, z⟩⟩
  unfold sP
  rw [lj, u1]
  by_cases eu : E 3 j 4 = 0
  · rw [if_pos (eu.trans nl_0), if_neg (by rw [decide_eq_true_eq]; exact fun z => z eu)]
    refine fE_be (r_losePacket hM (l := []) a1 hB' hP' hG1 hi1 (show nwR E i 0 = nn i from rfl)) (fun _ m' ⟨ρ'', b1, b2, b3⟩ => fE_ret ⟨ρ'', b1, b2, b3, fun r h => by cases h⟩)
  · rw [if_neg (fun z => eu (z.trans nl_0.symm)), if_pos (by rw [decide_eq_true_eq]; exact eu)]
    refine fE_ret ⟨ρ', a1, rB_6 hB', hP', fun r h => ?_⟩
    rw [List.mem_singleton] at h
    rw [h]
    exact hpk
theorem r_sendFrom_33 (hM : kM H b) {ρ : Nat → Int32} {E : VV} {l : List (Nat → Int32)} (hr : rI b m00 m ρ) (hB : rB ρ E) (hP : rP ρ l) (hG : vG E) (hX : iX E) {i : Nat} (hi : i < eK E) (hQ : iQ E i 1) (hE6 : E 0 0 6 = nn l.length) : fE (f_X12_sendFrom_33 H b (nn i) m) (fun _ m' => ∃ ρ', rI b m00 m' ρ' ∧ rB ρ' (sH E i).1 ∧ rP ρ' (l ++ (sH E i).2) ∧ ∀ r, r ∈ (sH E i).2 → pkO E r) := by
  have hK8 := hG.2.2.2.2.1.2.2.1
  have h60 := hP.2.1
  have h6 := hP.1
  have s8 : ρ (104 + 66 * i + 4) = E 9 i 8 := (hB.2.2 i hi).1 8 (by omega) (by omega) (by omega)
  have s3 : ρ (104 + 66 * i + 5) = E 9 i 3 := (hB.2.2 i hi).1 3 (by omega) (by omega) (by omega)
  unfold f_X12_sendFrom_33 sH
  simp (disch := omega) only [nl_4, r_of hM, fb_n, hr.1, s8, nl_5, s3, kM_0 hM, kM_z1 hM, nl_6, nn_tn, nn_in, if_pos, h6, r_grow hM, add_m1]
  by_cases e1 : E 9 i 8 ≤ 0
  · rw [if_pos e1, if_pos e1]
    by_cases e2 : E 9 i 3 ≤ 0
    · rw [if_pos e2, if_pos e2]
      exact fE_ret ⟨ρ, hr, hB, by rw [List.append_nil]; exact hP, fun r h => by cases h⟩
    · rw [if_neg e2, if_neg e2, hE6]
      by_cases e3 : 60 ≤ nn l.length
      · rw [if_pos e3, if_pos e3]
        exact fE_ret ⟨ρ, hr, hB, by rw [List.append_nil]; exact hP, fun r h => by cases h⟩
      · rw [if_neg e3, if_neg e3]
        refine fE_be (r_sendPacket hM hr hB hP hG hX hi hQ ?_ hE6) (fun _ m' h' => fE_ret h')
        rw [nl_60, nn_le (by omega) (by omega)] at e3
        omega
  · rw [if_neg e1, if_neg e1]
    refine fE_ret ⟨_, rI_u hr, rB_9 (c := i) (k := 8) hB (by omega) (by omega) (by omega) (by omega) (by omega) hG, ?_, fun r h => by cases h⟩
    rw [List.append_nil]
    exact rP_c hP (fun k hk => by rw [up_at, if_neg (by omega)])
theorem r_sendFrom (hM : kM H b) {ρ : Nat → Int32} {E : VV} {l : List (Nat → Int32)} (hr : rI b m00 m ρ) (hB : rB ρ E) (hP : rP ρ l) (hG : vG E) (hX : iX E) {i : Nat} (hi : i < eK E) (hQ : iQ E i 1) (hE6 : E 0 0 6 = nn l.length) : fE (f_X12_sendFrom H b (nn i) m) (fun _ m' => ∃ ρ', rI b m00 m' ρ' ∧ rB ρ' (sF E i).1 ∧ rP ρ' (l ++ (sF E i).2) ∧ ∀ r, r ∈ (sF E i).2 → pkO E r) := by
  have hK8 := hG.2.2.2.2.1.2.2.1
  have s1 : ρ (104 + 66 * i + 1) = E 9 i 1 := (hB.2.2 i hi).1 1 (by omega) (by omega) (by omega)
  have s5 : ρ 5 = E 0 0 9 := hB.1.2.2.2.2.1
  unfold f_X12_sendFrom sF
  simp (disch := omega) only [nl_1, r_of hM, fb_n, hr.1, s1, nl_5, kM_0 hM, kM_z1 hM, nn_tn, nn_in, if_pos, s5]
  by_cases e1 : E 9 i 1 ≤ 0
  · rw [if_pos e1, if_pos e1]
    exact r_sendFrom_33 hM hr hB hP hG hX hi hQ hE6
  · rw [if_neg e1, if_neg e1, if_neg (fun h => e1 (by rw [h]; decide))]
    by_cases e2 : E 0 0 9 + nn 1 - (E 0 0 9 + nn 1) / E 9 i 1 * E 9 i 1 = 0
    · rw [if_pos e2, if_pos e2]
      obtain ⟨w, w9, hw⟩ := hQ.2.1
      refine fE_be (r_growBacklog hM hr hB hP hG hi hw (by omega)) (fun _ m1 ⟨ρ1, a1, a2, a3⟩ => ?_)
      have kb : kQ E (bkE E i (nn 1)) := kQ_t (kQ_9 (by omega)) kQ_8
      have hQ1 : iQ (bkE E i (nn 1)) i 1 := by
        obtain ⟨q1, q2, q3, q4, q5⟩ := hQ
        have e9 : ∀ k, k ≠ 3 → bkE E i (nn 1) 9 i k = E 9 i k := fun k hk => by
          unfold bkE
          rw [uV_k (by decide), uV_p hk]
        refine ⟨q1, ⟨if w + 1 ≤ 9 then w + 1 else 9, by split <;> omega, ?_⟩, q3, q4, ?_⟩
        · unfold bkE
          rw [uV_k (by decide), uV_s, hw, nn_add]
          exact (mnx (by omega)).1
        · rw [e9 2 (by decide), e9 8 (by decide), e9 9 (by decide), e9 10 (by decide)]
          exact q5
      have g := r_sendFrom_33 hM a1 a2 a3 (kQ_G kb hG) (kQ_iX kb hX) (by rw [kQ_K kb]; exact hi) hQ1 ((kb 0 0 6 (by omega) (by omega)).trans hE6)
      refine fE_w g (fun _ m2 ⟨ρ2, c1, c2, c3, c4⟩ => ⟨ρ2, c1, c2, c3, fun r h => ?_⟩)
      have := c4 r h
      unfold pkO at this ⊢
      rw [kQ_K kb] at this
      exact this
    · rw [if_neg e2, if_neg e2]
      exact r_sendFrom_33 hM hr hB hP hG hX hi hQ hE6
end
