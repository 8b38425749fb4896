/-! the reference moves its packets -/
theorem iT_fi {E : VV} {K : Nat} {ln : Nat → Nat → Nat} (hT : iT E K ln) {i c k t : Nat} (hi : i < K) (hc : c < 2) (h1 : 1 ≤ k) (h2 : k < ln i c) (ht : t < 120) (e : E (13 + 4 * c) i k = nn t) : fi (fun k => decide (E (13 + 4 * c) i k = nn t)) 1 (ln i c - 1) = k := by
  refine fi_eq h1 (by omega) (decide_eq_true e) (fun k' a1 a2 => decide_eq_false (fun z => ?_))
  have := (hT.2.2 i c k c k' t hi hc hc h1 h2 a1 (by omega) ht e z).2
  omega
theorem iT_f1 {E : VV} {K : Nat} {ln : Nat → Nat → Nat} (hT : iT E K ln) {i c k t : Nat} (hi : i < K) (hc : c < 2) (h1 : 1 ≤ k) (h2 : k < ln i c) (ht : t < 120) (e : E (13 + 4 * c) i k = nn t) {c' : Nat} (hc' : c' < 2) (hn : c' ≠ c) : fi (fun k => decide (E (13 + 4 * c') i k = nn t)) 1 (ln i c' - 1) = -1 := by
  refine fi_m1.mpr (fun k' a1 a2 => decide_eq_false (fun z => ?_))
  have := (hT.2.2 i c k c' k' t hi hc hc' h1 h2 a1 (by omega) ht e z).1
  omega
theorem gO_no {E : VV} {r : Nat → Int32} {t : Nat} (ht : t < 120) (h5 : r 5 = nn t) (h : E 5 0 t = -1 ∨ E 5 0 t ≠ r 4 ∨ E 7 0 t ≠ 1) : gO E r = (false, r, lsE E r) := by
  unfold gO
  rw [h5, nn_t (by omega), show ((t : Nat) : Int).toNat = t from rfl, if_neg]
  rintro ⟨-, -, a1, -, a2, a3⟩
  rcases h with h | h | h
  · exact a1 h
  · exact h a2
  · exact h a3
theorem gO_fd {E : VV} {r : Nat → Int32} (hT : iT E (eK E) (eW E)) (hK : eK E ≤ 8) {i c k t : Nat} (hi : i < eK E) (hc : c < 2) (h1 : 1 ≤ k) (h2 : k < eW E i c) (ht : t < 120) (e : E (13 + 4 * c) i k = nn t) (h5 : r 5 = nn t) (e4 : E 5 0 t = r 4) (e7 : E 7 0 t = 1) : gO E r = gW E r (10 + 4 * c) i (eW E i c) k := by
  obtain ⟨a1, a2, a3⟩ := hT.1 i c k t hi hc h1 h2 ht e
  unfold gO
  rw [h5, nn_t (by omega), show ((t : Nat) : Int).toNat = t from rfl, if_pos ⟨by omega, by omega, a3, by rw [a2]; exact cR_nn hi (by omega), e4, e7⟩, a2, nn_t (by omega), show ((i : Nat) : Int).toNat = i from rfl]
  have g := iT_fi hT hi hc h1 h2 ht e
  rcases (show c = 0 ∨ c = 1 by omega) with ec | ec
  · subst ec
    have g1 := iT_f1 hT hi hc h1 h2 ht e (c' := 1) (by omega) (by omega)
    rw [show eB E i = eW E i 1 from rfl, show eA E i = eW E i 0 from rfl, if_pos g1]
    exact congrArg (gW E r 10 i (eW E i 0)) g
  · subst ec
    rw [show eB E i = eW E i 1 from rfl, if_neg (fun z => absurd (g.symm.trans z) (by omega))]
    exact congrArg (gW E r 14 i (eW E i 1)) g
section
variable {H : fm_H} {b : Nat} {m m00 : fm_M}
theorem rI_fd {ρ : Nat → Int32} {i c k : Nat} (hr : rI b m00 m ρ) : rI b m00 (fdM m b i c k) ρ := ⟨fdM_r.trans hr.1, fR_tr hr.2 fdM_R⟩
theorem r_arrive (hM : kM H b) {ρ : Nat → Int32} {E : VV} {dn l : List (Nat → Int32)} {r : Nat → Int32} (hr : rI b m00 m ρ) (hB : rB ρ E) (hP : rP ρ (dn ++ r :: l)) (hG : vG E) (hX : iX E) (hk : pkO E r) : fE (f_X12_arrive H b (nn dn.length) m) (fun x m' => x = bi (gO E r).1 ∧ ∃ ρ', rI b m00 m' ρ' ∧ rB ρ' (gO E r).2.2 ∧ rP ρ' (if (gO E r).1 = true then dn ++ (gO E r).2.1 :: l else dn ++ l)) := by
  obtain ⟨⟨c0, hc0, h0⟩, f, l', hf, hl, h5⟩ := hk
  have hK8 := hG.2.2.2.2.1.2.2.1
  have hlen : dn.length < (dn ++ r :: l).length := by simp only [List.length_append, List.length_cons]; omega
  have h60 := hP.2.1
  obtain ⟨q0, q1, q2, q3, q5, q6, q7⟩ := rP_at hP
  rw [h5] at q5
  obtain ⟨q4, q5⟩ := slR_n q5 hf hl
  have ht : f * 12 + l' < 120 := by omega
  unfold f_X12_arrive
  simp (disch := omega) only [nl_4, nl_5, nl_0, r_ofPacket hM, fb_n, hr.1, q4, q5]
  rcases r_findHolder hM hr.1 hB.2.1 hX.1 hf hl with ⟨e1, e2⟩ | ⟨e1, i, c, k, hi, hc, k1, k2, es, e2⟩
  · rw [e2, fb_n, gO_no ht h5 (Or.inl e1), ← nl_0, if_pos rfl]
    unfold f_X12_arrive_36
    rw [if_pos rfl]
    refine fE_be (r_losePacket hM hr hB hP hG hc0 h0) (fun _ m' ⟨ρ', a1, a2, a3⟩ => fE_ret ⟨rfl, ρ', a1, a2, a3⟩)
  · obtain ⟨t1, t2, t3⟩ := hX.1.1 i c k _ hi hc k1 k2 ht es
    obtain ⟨w1, w2, w3, w4⟩ := hB.2.1.2.2 i hi c hc
    have hi8 : i < 8 := by omega
    have hr2 : rI b m00 (fdM m b i c k) ρ := rI_fd hr
    have mk : ρ (120 + 66 * i + 25 * c + 19 + k) = E 7 0 (f * 12 + l') := by
      rw [(hB.2.2 i hi).2.2 c hc k k1 k2, es]
      unfold mdE
      rw [nn_t (by omega), if_pos (by omega)]
      rfl
    have ak : ρ (120 + 66 * i + 25 * c + 1 + k) = E 5 0 (f * 12 + l') := (w3 k k2).trans t1.symm
    rw [e2, fb_n, if_neg (by decide), fdM_18, fdM_19, r_wayPlace, fb_n]
    unfold f_X12_arrive_36
    rw [if_neg (by decide), fdM_20]
    simp (disch := omega) only [kM_0 hM, kM_z1 hM, nl_1, nl_19, nl_3, nl_2, nl_4, nn_add, nn_tn, nn_in, if_pos, r_ofPacket hM, fb_n, hr2.1, q3, ak, mk, w1, nn_eq]
    simp only [← nl_1]
    by_cases e4 : E 5 0 (f * 12 + l') = r 4
    · rw [if_pos e4]
      by_cases e7 : E 7 0 (f * 12 + l') = 0
      · rw [if_pos e7, gO_no ht h5 (Or.inr (Or.inr (by rw [e7]; decide)))]
        refine fE_be (r_losePacket hM hr2 hB hP hG hc0 h0) (fun _ m' ⟨ρ', a1, a2, a3⟩ => fE_ret ⟨rfl, ρ', a1, a2, a3⟩)
      · have e71 : E 7 0 (f * 12 + l') = 1 := (hX.2.1 _ ht t3).resolve_left e7
        rw [if_neg e7, gO_fd hX.1 hK8 hi hc k1 k2 ht es h5 e4 e71]
        unfold gW
        by_cases en : k + 1 = eW E i c
        · rw [if_pos en, if_pos (by omega)]
          refine fE_be (r_deliverPacket hM hr2 hB hP hG hc0 h0) (fun _ m' ⟨ρ', a1, a2, a3⟩ => fE_ret ⟨rfl, ρ', a1, a2, a3⟩)
        · rw [if_neg en, if_neg (by omega), show ((k : Nat) + 1 : Int).toNat = k + 1 from rfl]
          refine fE_be (r_setOut hM hr2 hB hG (by omega) hi hc (by omega) (show k + 1 < eW E i c by omega) hX q0 q1 q7) (fun _ m' ⟨ρ', a1, a2, a3⟩ => ?_)
          obtain ⟨l1, l2⟩ := (hX.2.2 i hi c hc).1.2.1 (k + 1) (by omega) (by omega)
          obtain ⟨j, hj, ej⟩ := lkE_r l2
          have hL16 := hG.2.2.2.2.1.2.1
          have lj : E (10 + 4 * c + 2) i (k + 1) = nn j := by
            rw [show 10 + 4 * c + 2 = 12 + 4 * c from by omega, l1, ej]
            rfl
          have hB' : rB ρ' E := rB_c hB hG (fun x h1 h2 => a2 x (by omega))
          have hP' := rP_c2 (r' := pO E (10 + 4 * c) i (k + 1) r) hP (fun x hx => a2 x (by omega)) a3
          have p2 : ρ' (632 + 8 * dn.length + 2) = nn j := a3.2.2.1.trans lj
          have p4 : ρ' (24 + 5 * j + 4) = E 3 j 4 := hB'.1.2.2.2.2.2.2.2 j hj 4 (by omega)
          simp (disch := omega) only [r_ofPacket hM, fb_n, a1.1, p2, r_ofLink hM, p4]
          have u1 : uP E (nn j) = decide (E 3 j 4 ≠ 0) := by
            unfold uP
            rw [nn_t (by omega), show ((j : Nat) : Int).toNat = j from rfl]
            exact decide_eq_decide.mpr ⟨fun z => z.2.2, fun z => ⟨by omega, by omega, z⟩⟩
          rw [lj, u1]
          by_cases eu : E 3 j 4 = 0
          · rw [if_pos eu, if_neg (by rw [decide_eq_true_eq]; exact fun z => z eu)]
            refine fE_be (r_losePacket hM a1 hB' hP' hG hc0 h0) (fun _ m' ⟨ρ'', b1, b2, b3⟩ => fE_ret ⟨rfl, ρ'', b1, b2, b3⟩)
          · rw [if_neg eu, if_pos (by rw [decide_eq_true_eq]; exact eu)]
            exact fE_ret ⟨rfl, ρ', a1, hB', hP'⟩
    · rw [if_neg e4, gO_no ht h5 (Or.inr (Or.inl e4))]
      refine fE_be (r_losePacket hM hr2 hB hP hG hc0 h0) (fun _ m' ⟨ρ', a1, a2, a3⟩ => fE_ret ⟨rfl, ρ', a1, a2, a3⟩)
theorem kQ_gP {E : VV} {r : Nat → Int32} : kQ E (gP E r).2.2 := by
  have w : ∀ r b c n q, kQ E (gW E r b c n q).2.2 := by
    intro r b c n q
    unfold gW
    split
    · exact kQ_dv
    · split
      · exact kQ_r E
      · exact kQ_ls
  unfold gP
  split
  · exact kQ_r E
  · unfold gO
    split
    · split
      · exact w _ _ _ _ _
      · exact w _ _ _ _ _
    · exact kQ_ls
theorem kQ_pk {E E' : VV} (h : kQ E E') {r : Nat → Int32} (hk : pkO E r) : pkO E' r := by
  unfold pkO
  rw [kQ_K h]
  exact hk
theorem rP_up {ρ : Nat → Int32} {dn l : List (Nat → Int32)} {r : Nat → Int32} {x : Int32} (h : rP ρ (dn ++ r :: l)) : rP (pm_up ρ (632 + 8 * dn.length + 6) x) (dn ++ pm_up r 6 x :: l) := by
  refine rP_c2 h (fun k hk => if_neg (by omega)) ?_
  obtain ⟨q0, q1, q2, q3, q5, q6, q7⟩ := rP_at h
  unfold rQ
  simp (disch := omega) only [up_at, if_neg, if_pos, it_T]
  exact ⟨q0, q1, q2, q3, q5, trivial, q7⟩
theorem r_movePackets_l (hM : kM H b) : ∀ (l dn : List (Nat → Int32)) (q : Nat) (m : fm_M) (ρ : Nat → Int32) (E : VV), rI b m00 m ρ → rB ρ E → rP ρ (dn ++ l) → vG E → iX E → (∀ r, r ∈ l → pkO E r) → l.length < q → fE (f_X12_movePackets_2 H b q (nn dn.length) m) (fun _ m' => ∃ ρ', rI b m00 m' ρ' ∧ rB ρ' (mvP E l).2 ∧ rP ρ' (dn ++ (mvP E l).1)) := by
  intro l
  induction l with
  | nil =>
    intro dn q m ρ E hr hB hP hG hX hk hq
    obtain ⟨q, rfl⟩ : ∃ q', q = q' + 1 := ⟨q - 1, by omega⟩
    have e := hP.1
    have e60 := hP.2.1
    rw [List.append_nil] at e e60
    unfold f_X12_movePackets_2
    simp (disch := omega) only [kM_0 hM, kM_z1 hM, nl_6, nn_tn, nn_in, if_pos, hr.1, e, nn_le]
    exact fE_ret ⟨ρ, hr, hB, hP⟩
  | cons r l ih =>
    intro dn q m ρ E hr hB hP hG hX hk hq
    obtain ⟨q, rfl⟩ : ∃ q', q = q' + 1 := ⟨q - 1, by omega⟩
    have e1 : (dn ++ r :: l).length = dn.length + l.length + 1 := by simp only [List.length_append, List.length_cons]; omega
    have h60 := hP.2.1
    have h6 := hP.1
    rw [e1] at h60 h6
    have hq' : l.length < q := by rw [List.length_cons] at hq; omega
    have q6 := (rP_at hP).2.2.2.2.2.1
    unfold f_X12_movePackets_2
    simp (disch := omega) only [kM_0 hM, kM_z1 hM, nl_6, nl_632, nl_8, nn_mul, nn_add, nn_tn, nn_in, if_pos, if_neg, hr.1, h6, nn_le, fb_d, si_row, up_at, q6, it_T]
    rw [mvP_c]
    dsimp only
    have i1 := rI_u (k := 632 + 8 * dn.length + 6) (x := r 6 - 1) hr
    have hB1 : rB (pm_up ρ (632 + 8 * dn.length + 6) (r 6 - 1)) E := rB_c hB hG (fun k a1 a2 => if_neg (by omega))
    have hP1 := rP_up (x := r 6 - 1) hP
    have hkQ : kQ E (gP E r).2.2 := kQ_gP
    have hk2 : ∀ r', r' ∈ l → pkO (gP E r).2.2 r' := fun r' h => kQ_pk hkQ (hk r' (List.mem_cons_of_mem _ h))
    have nx := fun (dn' : List (Nat → Int32)) (m' : fm_M) (ρ' : Nat → Int32) (a1 : rI b m00 m' ρ') (a2 : rB ρ' (gP E r).2.2) (a3 : rP ρ' (dn' ++ l)) => ih dn' q m' ρ' (gP E r).2.2 a1 a2 a3 (kQ_G hkQ hG) (kQ_iX hkQ hX) hk2 hq'
    have el : ∀ x : Nat → Int32, nn dn.length + 1 = nn (dn ++ [x]).length := fun x => by
      rw [nl_1, nn_add, List.length_append]
      rfl
    by_cases e : 0 < r 6 - 1
    · have eg : gP E r = (true, pm_up r 6 (r 6 - 1), E) := by unfold gP; rw [if_pos e]
      rw [if_pos e, el (pm_up r 6 (r 6 - 1))]
      rw [eg] at nx ⊢
      rw [if_pos rfl]
      have g := nx (dn ++ [pm_up r 6 (r 6 - 1)]) _ _ i1 hB1 (by rw [List.append_assoc]; exact hP1)
      rw [List.append_assoc] at g
      exact g
    · have eg : gP E r = gO E (pm_up r 6 (r 6 - 1)) := by unfold gP; rw [if_neg e]
      rw [if_neg e]
      rw [eg] at nx ⊢
      have hpk : pkO E (pm_up r 6 (r 6 - 1)) := hk r (List.mem_cons_self ..)
      refine fE_be (r_arrive hM i1 hB1 hP1 hG hX hpk) (fun x m' ⟨a1, ρ', a2, a3, a4⟩ => ?_)
      rw [a1]
      by_cases eb : (gO E (pm_up r 6 (r 6 - 1))).1 = true
      · rw [eb] at a4 ⊢
        rw [if_pos rfl] at a4 ⊢
        rw [if_neg (by decide), el (gO E (pm_up r 6 (r 6 - 1))).2.1]
        have g := nx (dn ++ [(gO E (pm_up r 6 (r 6 - 1))).2.1]) _ _ a2 a3 (by rw [List.append_assoc]; exact a4)
        rw [List.append_assoc] at g
        exact g
      · rw [Bool.not_eq_true] at eb
        rw [eb] at a4 ⊢
        rw [if_neg (show ¬ (false = true) by decide)] at a4 ⊢
        rw [if_pos (show bi false = 0 from rfl), show nn dn.length + 0 = nn dn.length from by rw [nl_0, nn_add]; rfl]
        exact nx dn _ _ a2 a3 a4
theorem r_movePackets (hM : kM H b) {ρ : Nat → Int32} {E : VV} {l : List (Nat → Int32)} (hr : rI b m00 m ρ) (hB : rB ρ E) (hP : rP ρ l) (hG : vG E) (hX : iX E) (hk : ∀ r, r ∈ l → pkO E r) : fE (f_X12_movePackets H b m) (fun _ m' => ∃ ρ', rI b m00 m' ρ' ∧ rB ρ' (mvP E l).2 ∧ rP ρ' (mvP E l).1) := by
  unfold f_X12_movePackets
  rw [nl_0]
  have h60 := hP.2.1
  exact r_movePackets_l hM l [] fm_N m ρ E hr hB hP hG hX hk (by unfold fm_N; omega)
end
