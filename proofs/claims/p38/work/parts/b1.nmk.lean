/-! what each act keeps: ends of new ways, what was delivered, links between nodes -/
theorem lkO_s {E E' : VV} (h1 : ∀ k, E' 1 0 k = E 1 0 k) (h3 : ∀ j k, k < 2 → E' 3 j k = E 3 j k) : lkO E E' := by
  have nN : eN E' = eN E := by unfold eN; rw [h1]
  have nL : eL E' = eL E := by unfold eL; rw [h1]
  refine ⟨by rw [nN]; exact Nat.le_refl _, fun u v _ => ?_⟩
  unfold lkE
  rw [nL]
  exact fi_c (fun j _ _ => by rw [h3 j 0 (by omega), h3 j 1 (by omega)])
theorem lkO_t {E E1 E2 : VV} (h1 : lkO E E1) (h2 : lkO E1 E2) : lkO E E2 := ⟨Nat.le_trans h1.1 h2.1, fun u v h => by
  have e := h1.2 u v h
  rw [h2.2 u v (by rw [e]; exact h), e]⟩
theorem lkO_sm {E E' : VV} (h : smE E E') : lkO E E' := ⟨by rw [sm_N h]; exact Nat.le_refl _, fun u v _ => sm_lk h u v⟩
theorem tk_lk {E : VV} {l : List (Nat → Int32)} : lkO E (tkE E l).1 := lkO_s (fun k => tk_all.1 1 0 k (by omega) (by omega)) (fun j k _ => tk_all.1 3 j k (by omega) (by omega))
theorem tkM_lk : ∀ {n : Nat} {E : VV} {l : List (Nat → Int32)}, lkO E (tkM E l n).1 := by
  intro n
  induction n with
  | zero => exact lkO_rf
  | succ n ih =>
    intro E l
    exact lkO_t tk_lk ih
theorem sm_nm {E E' : VV} (h : smE E E') (hA : ∀ i, i < eK E → 1 ≤ eA E i) : nmS E E' := by
  refine ⟨h.1 9 (by omega) (by omega), fun i hi => ?_⟩
  rw [sm_K h] at hi
  have a := sm_A h hi
  have b := sm_Bn h hi
  have hAi := hA i hi
  have hW0 : eW E i 0 = eA E i := rfl
  have hW1 : eW E i 1 = eB E i := rfl
  refine ⟨?_, Or.inr ⟨i, hi, sm_9 h hi (by omega)⟩⟩
  by_cases z : eB E i = 0
  · exact Or.inl (by rw [b]; exact z)
  · refine Or.inr ⟨i, hi, b, ?_, ?_, ?_, ?_⟩
    · exact sm_11 h hi (c := 1) (by omega) (by omega)
    · exact sm_11 h hi (c := 0) (by omega) (by omega)
    · exact sm_11 h hi (c := 1) (by omega) (by omega)
    · rw [a]
      exact sm_11 h hi (c := 0) (by omega) (by omega)
theorem sm_NM {T : Nat} {E E' : VV} {l : List (Nat → Int32)} (h : smE E E') (hI : iG E l) (hN : iNM T E) : iNM T E' := iNM_s (sm_nm h (fun i hi => by have := (hI.1.2.2.2.1 i hi).1; omega)) hN
/-! opening -/
theorem opB_o {E : VV} {n : Nat} {N L : Nat → Int32} {x y : Int32} {kd a k : Nat} (h : ¬ (a = eK E ∧ 9 ≤ kd ∧ kd ≤ 17)) : opB E n N L x y kd a k = E kd a k := (cpV_o (by omega)).trans (bgV_o (by omega))
theorem op_o {E : VV} {n : Nat} {N L : Nat → Int32} {x y : Int32} {kd a k : Nat} (h5 : kd ≠ 5) (h6 : kd ≠ 6) (h7 : kd ≠ 7) (h : ¬ (a = eK E ∧ 9 ≤ kd ∧ kd ≤ 17)) (h0 : ¬ (kd = 0 ∧ k = 5)) : (opV E n N L x y).2 kd a k = E kd a k := by
  unfold opV
  split
  · rfl
  · split
    · rfl
    · split
      · rfl
      · split
        · dsimp only
          rw [gvL_o h5 (by omega), tl_o h5 h6 h7 (by omega), opB_o h]
        · dsimp only
          rw [uV_at, if_neg (by omega), mkL_o h7, tl_o h5 h6 h7 (by omega), opB_o h]
theorem op_new {E : VV} {n : Nat} {N L : Nat → Int32} {x y : Int32} (hG : vG E) : eK (opV E n N L x y).2 = eK E ∨ (eK (opV E n N L x y).2 = eK E + 1 ∧ (opV E n N L x y).2 14 (eK E) 0 = 0 ∧ (opV E n N L x y).2 9 (eK E) 5 = 0) := by
  have hK8 := hG.2.2.2.2.1.2.2.1
  unfold opV
  split
  · exact Or.inl rfl
  · split
    · exact Or.inl rfl
    · split
      · exact Or.inl rfl
      · split
        · refine Or.inl ?_
          unfold eK
          dsimp only
          rw [gvL_o (by omega) (by omega), tl_o (by omega) (by omega) (by omega) (by omega), opB_o (by omega)]
        · refine Or.inr ⟨?_, ?_, ?_⟩
          · dsimp only
            exact eK_nn uV_s (by omega)
          · dsimp only
            rw [uV_k (by omega), mkL_o (by omega), tl_o (by omega) (by omega) (by omega) (by omega)]
            unfold opB
            rw [cpV_o (by omega), bgV_at, if_neg (by omega), if_pos (by omega)]
          · dsimp only
            rw [uV_k (by omega), mkL_o (by omega), tl_o (by omega) (by omega) (by omega) (by omega)]
            unfold opB
            rw [cpV_o (by omega), bgV_at, if_pos (by omega), if_neg (by omega), if_neg (by omega), if_neg (by omega)]
theorem op_NM {T : Nat} {E : VV} {n : Nat} {N L : Nat → Int32} {x y : Int32} (hG : vG E) (hN : iNM T E) : iNM T (opV E n N L x y).2 := by
  have hK8 := hG.2.2.2.2.1.2.2.1
  refine iNM_s ⟨op_o (by omega) (by omega) (by omega) (by omega) (by omega), fun i hi => ?_⟩ hN
  by_cases e : i < eK E
  · have eA' : eA (opV E n N L x y).2 i = eA E i := by unfold eA; rw [op_o (by omega) (by omega) (by omega) (by omega) (by omega)]
    have eB' : eB (opV E n N L x y).2 i = eB E i := by unfold eB; rw [op_o (by omega) (by omega) (by omega) (by omega) (by omega)]
    refine ⟨Or.inr ⟨i, e, eB', ?_, ?_, ?_, ?_⟩, Or.inr ⟨i, e, ?_⟩⟩
    · exact op_o (by omega) (by omega) (by omega) (by omega) (by omega)
    · exact op_o (by omega) (by omega) (by omega) (by omega) (by omega)
    · exact op_o (by omega) (by omega) (by omega) (by omega) (by omega)
    · rw [eA']; exact op_o (by omega) (by omega) (by omega) (by omega) (by omega)
    · exact op_o (by omega) (by omega) (by omega) (by omega) (by omega)
  · rcases op_new (E := E) (n := n) (N := N) (L := L) (x := x) (y := y) hG with z | ⟨z1, z2, z3⟩
    · omega
    · have ei : i = eK E := by omega
      subst ei
      refine ⟨Or.inl ?_, Or.inl z3⟩
      unfold eB
      rw [z2]
      rfl
theorem op_lk {E : VV} {n : Nat} {N L : Nat → Int32} {x y : Int32} : lkO E (opV E n N L x y).2 := lkO_s (fun k => op_o (by omega) (by omega) (by omega) (by omega) (by omega)) (fun j k _ => op_o (by omega) (by omega) (by omega) (by omega) (by omega))
/-! moving -/
theorem mvB_o {E : VV} {i n : Nat} {N L : Nat → Int32} {kd a k : Nat} (h : ¬ (a = i ∧ 14 ≤ kd ∧ kd ≤ 17)) : mvB E i n N L kd a k = E kd a k := cpV_o (by omega)
theorem mvV_o {E : VV} {i n : Nat} {N L : Nat → Int32} {kd a k : Nat} (h5 : kd ≠ 5) (h6 : kd ≠ 6) (h7 : kd ≠ 7) (h : ¬ (a = i ∧ 14 ≤ kd ∧ kd ≤ 17)) (h9 : ¬ (a = i ∧ kd = 9 ∧ (k = 2 ∨ k = 10))) : (mvV E i n N L).2 kd a k = E kd a k := by
  unfold mvV
  split
  · rfl
  · split
    · rfl
    · split
      · rfl
      · split
        · rfl
        · split
          · dsimp only
            rw [uV_at, if_neg (by omega), gvL_o h5 (by omega), tl_o h5 h6 h7 (by omega), mvB_o h]
          · dsimp only
            rw [uV_at, if_neg (by omega), uV_at, if_neg (by omega), tl_o h5 h6 h7 (by omega), mvB_o h]
theorem mv_NM {T : Nat} {E : VV} {i n : Nat} {N L : Nat → Int32} (h6 : n ≤ 6) (hN : iNM T E) : iNM T (mvV E i n N L).2 := by
  have nK : eK (mvV E i n N L).2 = eK E := by unfold eK; rw [mvV_o (by omega) (by omega) (by omega) (by omega) (by omega)]
  obtain ⟨hN1, τ, t1, t2, t3⟩ := hN
  refine ⟨fun j hj hB => ?_, τ, t1, ?_, fun j hj => ?_⟩
  · rw [nK] at hj
    have eA' : eA (mvV E i n N L).2 j = eA E j := by unfold eA; rw [mvV_o (by omega) (by omega) (by omega) (by omega) (by omega)]
    rw [eA', mvV_o (kd := 11) (by omega) (by omega) (by omega) (by omega) (by omega), mvV_o (kd := 11) (by omega) (by omega) (by omega) (by omega) (by omega)]
    by_cases e : j = i
    · subst e
      revert hB
      unfold mvV
      split
      · exact hN1 j hj
      · split
        · exact hN1 j hj
        · rename_i c2
          split
          · exact hN1 j hj
          · split
            · exact hN1 j hj
            · split
              · intro hB
                refine absurd ?_ hB
                unfold eB
                dsimp only
                rw [uV_s]
                rfl
              · intro _
                have eB' : eB (uV (uV (tlE (mvB E j n N L) j 1 1 (n - 1)).2 9 j 2 1) 9 j 10 (nn (n - 1))) j = n := by
                  unfold eB
                  rw [uV_k (by omega), uV_k (by omega), tl_o (by omega) (by omega) (by omega) (by omega)]
                  unfold mvB
                  rw [show cpV E j 1 (nn n) N L 14 j 0 = nn n from cpV_0 (c := 1), nn_t (by omega)]
                  rfl
                dsimp only
                rw [eB', uV_k (by omega), uV_k (by omega), tl_o (by omega) (by omega) (by omega) (by omega), uV_k (by omega), uV_k (by omega), tl_o (by omega) (by omega) (by omega) (by omega)]
                have q : 2 ≤ n ∧ N 0 = E 11 j 0 ∧ N (n - 1) = E 11 j (eA E j - 1) := by
                  have : endV E j n N = true := by
                    cases h : endV E j n N with
                    | true => rfl
                    | false => exact absurd h c2
                  unfold endV at this
                  rw [Bool.and_eq_true, Bool.and_eq_true] at this
                  exact ⟨of_decide_eq_true this.1, of_decide_eq_true this.2.1, of_decide_eq_true this.2.2⟩
                unfold mvB
                rw [show cpV E j 1 (nn n) N L 15 j 0 = N 0 from cpV_1 (c := 1) (by omega), show cpV E j 1 (nn n) N L 15 j (n - 1) = N (n - 1) from cpV_1 (c := 1) (by omega)]
                exact q.2
    · have eB' : eB (mvV E i n N L).2 j = eB E j := by unfold eB; rw [mvV_o (by omega) (by omega) (by omega) (by omega) (by omega)]
      rw [eB'] at hB ⊢
      rw [mvV_o (by omega) (by omega) (by omega) (by omega) (by omega), mvV_o (by omega) (by omega) (by omega) (by omega) (by omega)]
      exact hN1 j hj hB
  · rw [mvV_o (by omega) (by omega) (by omega) (by omega) (by omega)]; exact t2
  · rw [nK] at hj
    rw [mvV_o (by omega) (by omega) (by omega) (by omega) (by omega)]
    exact t3 j hj
theorem mv_lk {E : VV} {i n : Nat} {N L : Nat → Int32} : lkO E (mvV E i n N L).2 := lkO_s (fun k => mvV_o (by omega) (by omega) (by omega) (by omega) (by omega)) (fun j k _ => mvV_o (by omega) (by omega) (by omega) (by omega) (by omega))
/-! the others -/
theorem ab_NM {T : Nat} {E : VV} {i : Nat} (hN : iNM T E) : iNM T (abE E i) := by
  have nK : eK (abE E i) = eK E := by unfold eK; rw [abE_o (by omega) (by omega) (by omega)]
  refine iNM_s ⟨abE_o (by omega) (by omega) (by omega), fun j hj => ?_⟩ hN
  rw [nK] at hj
  refine ⟨?_, Or.inr ⟨j, hj, abE_o (by omega) (by omega) (by omega)⟩⟩
  by_cases e : j = i
  · refine Or.inl ?_
    subst e
    unfold eB abE
    rw [uV_k (by omega), uV_k (by omega), uV_k (by omega), uV_s]
    rfl
  · have eA' : eA (abE E i) j = eA E j := by unfold eA; rw [abE_o (by omega) (by omega) (by omega)]
    have eB' : eB (abE E i) j = eB E j := by unfold eB; rw [abE_o (by omega) (by omega) (by omega)]
    refine Or.inr ⟨j, hj, eB', ?_, ?_, ?_, ?_⟩
    · exact abE_o (by omega) (by omega) (by omega)
    · exact abE_o (by omega) (by omega) (by omega)
    · exact abE_o (by omega) (by omega) (by omega)
    · rw [eA']; exact abE_o (by omega) (by omega) (by omega)
theorem ab_lk {E : VV} {i : Nat} : lkO E (abE E i) := lkO_s (fun k => abE_o (by omega) (by omega) (by omega)) (fun j k _ => abE_o (by omega) (by omega) (by omega))
theorem cs_NM {T : Nat} {E : VV} {i : Nat} (h8 : eK E ≤ 8) (hN : iNM T E) : iNM T (csE E i) := by
  have nK := cs_K (E := E) (i := i) h8
  refine iNM_s ⟨cs_o (by omega) (by omega) (by omega) (by omega), fun j hj => ?_⟩ hN
  have hj1 : j + 1 < eK E := by omega
  obtain ⟨-, p2, -⟩ := csp_1 (i := i) hj1
  have w : ∀ kd k, 9 ≤ kd → kd ≤ 17 → csE E i kd j k = E kd (csp i (eK E) j) k := fun kd k a1 a2 => cs_w a1 a2 hj1 h8
  have eA' : eA (csE E i) j = eA E (csp i (eK E) j) := by unfold eA; rw [w _ _ (by omega) (by omega)]
  have eB' : eB (csE E i) j = eB E (csp i (eK E) j) := by unfold eB; rw [w _ _ (by omega) (by omega)]
  exact ⟨Or.inr ⟨_, p2, eB', w _ _ (by omega) (by omega), w _ _ (by omega) (by omega), w _ _ (by omega) (by omega), by rw [eA']; exact w _ _ (by omega) (by omega)⟩, Or.inr ⟨_, p2, w _ _ (by omega) (by omega)⟩⟩
theorem cs_lk {E : VV} {i : Nat} : lkO E (csE E i) := lkO_s (fun k => cs_o (by omega) (by omega) (by omega) (by omega)) (fun j k _ => cs_o (by omega) (by omega) (by omega) (by omega))
theorem nm_q {T : Nat} {E E' : VV} (h : ∀ kd a k, kd = 10 ∨ kd = 11 ∨ kd = 14 ∨ kd = 15 ∨ (kd = 9 ∧ k = 5) ∨ (kd = 0 ∧ (k = 5 ∨ k = 9)) → E' kd a k = E kd a k) (hN : iNM T E) : iNM T E' := iNM_s (nmS_e (h _ _ _ (by omega)) (by unfold eK; rw [h _ _ _ (by omega)]) (fun i _ => ⟨h _ _ _ (by omega), h _ _ _ (by omega), h _ _ _ (by omega), fun k => h _ _ _ (by omega), fun k => h _ _ _ (by omega)⟩)) hN
theorem bk_NM {T : Nat} {E : VV} {i : Nat} {y : Int32} (hN : iNM T E) : iNM T (bkE E i y) := nm_q (fun kd a k h => by
  unfold bkE
  rw [uV_at, if_neg (by omega), uV_at, if_neg (by omega)]) hN
theorem bk_lk {E : VV} {i : Nat} {y : Int32} : lkO E (bkE E i y) := lkO_s (fun k => by
  unfold bkE
  rw [uV_k (by omega), uV_k (by omega)]) (fun j k _ => by
  unfold bkE
  rw [uV_k (by omega), uV_k (by omega)])
theorem st_NM {T : Nat} {E : VV} {w : Nat} {x : Int32} (hw : w < 2) (hN : iNM T E) : iNM T (stV E w x) := nm_q (fun kd a k h => by
  unfold stV
  rw [uV_at, if_neg (by omega)]) hN
theorem st_lk {E : VV} {w : Nat} {x : Int32} : lkO E (stV E w x) := lkO_s (fun k => uV_k (by omega)) (fun j k _ => uV_k (by omega))
theorem an_NM {T : Nat} {E : VV} {z : Int32} (hN : iNM T E) : iNM T (anE E z) := nm_q (fun kd a k h => an_o (by omega) (by omega)) hN
theorem an_lk {E : VV} {z : Int32} (h : eN E ≤ 10) : lkO E (anE E z) := by
  refine ⟨by rw [an_N h]; omega, fun u v _ => ?_⟩
  have nL : eL (anE E z) = eL E := by unfold eL; rw [an_o (by omega) (by omega)]
  unfold lkE
  rw [nL]
  exact fi_c (fun j _ _ => by rw [an_o (by omega) (by omega), an_o (by omega) (by omega)])
theorem al_NM {T : Nat} {E : VV} {x y : Nat} {c d : Int32} (hN : iNM T E) : iNM T (alE E x y c d) := nm_q (fun kd a k h => al_o (by omega) (by omega) (by omega)) hN
theorem al_lkO {E : VV} {x y : Nat} {c d : Int32} (h : eL E ≤ 16) : lkO E (alE E x y c d) := ⟨by
  have : eN (alE E x y c d) = eN E := by unfold eN; rw [al_o (by omega) (by omega) (by omega)]
  omega, fun u v e => by rw [al_lk h, if_neg e]⟩
theorem pu_5 {x : Int32} {u : Bool} : ∀ {l : List (Nat → Int32)} {E : VV} {i k : Nat}, k ≠ 6 → (pu x u E l).2 9 i k = E 9 i k := by
  intro l
  induction l with
  | nil => exact fun _ => rfl
  | cons r l ih =>
    intro E i k h
    rw [pu_c]
    split
    · rw [ih h, ls_o h]
    · exact ih h
theorem su_NM {T : Nat} {E : VV} {l : List (Nat → Int32)} {j : Nat} {u : Bool} (hN : iNM T E) : iNM T (suE E l j u) := nm_q (fun kd a k h => by
  unfold suE
  rw [uV_at, if_neg (by omega)]
  by_cases e : kd = 9
  · subst e
    rw [pu_5 (by omega), uV_k (by omega)]
  · rw [pu_kQ.1 kd a k (by omega) (by omega), uV_k (by omega)]) hN
theorem su_lk {E : VV} {l : List (Nat → Int32)} {j : Nat} {u : Bool} : lkO E (suE E l j u) := lkO_s (fun k => by
  unfold suE
  rw [uV_k (by omega), pu_kQ.1 _ _ _ (by omega) (by omega), uV_k (by omega)]) (fun a k hk => by
  unfold suE
  rw [uV_k (by omega), pu_kQ.1 _ _ _ (by omega) (by omega), uV_p (by omega)])
