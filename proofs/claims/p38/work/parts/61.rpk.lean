/-! the reference's packets: lost, delivered, sent out -/
theorem rW_c {ρ ρ' : Nat → Int32} {E : VV} {p n c j : Nat} (h : rW ρ E p n c j) (e : ∀ k, p ≤ k → k < p + 19 → ρ' k = ρ k) : rW ρ' E p n c j := by
  obtain ⟨h1, h2, h3, h4⟩ := h
  refine ⟨(e p (by omega) (by omega)).trans h1, h2, fun k hk => (e _ (by omega) (by omega)).trans (h3 k hk), fun k hk2 => ?_⟩
  rw [e (p + 7 + k) (by omega) (by omega), e (p + 13 + k) (by omega) (by omega)]
  exact h4 k hk2
theorem rMd_c {ρ ρ' : Nat → Int32} {E : VV} {p n c j : Nat} (h : rMd ρ E p n c j) (h6 : n ≤ 6) (e : ∀ k, p + 19 < k → k < p + 25 → ρ' k = ρ k) : rMd ρ' E p n c j := fun k h1 h2 => (e _ (by omega) (by omega)).trans (h k h1 h2)
theorem rC_c {ρ ρ' : Nat → Int32} {E : VV} {p j : Nat} (h : rC ρ E p j) (e : ∀ k, p ≤ k → k < p + 12 → ρ' k = ρ k) : rC ρ' E p j := fun k h1 h2 h3 => by
  have := pk_l k h1 h2 h3
  exact (e _ (by omega) (by omega)).trans (h k h1 h2 h3)
theorem rN_c {ρ ρ' : Nat → Int32} {E : VV} (h : rN ρ E) (hL : eL E ≤ 16) (e : ∀ k, k < 104 → k ≠ 4 → k ≠ 6 → ρ' k = ρ k) : rN ρ' E := by
  obtain ⟨h0, h1, h2, h3, h5, h7, h8, h9⟩ := h
  exact ⟨(e 0 (by omega) (by omega) (by omega)).trans h0, (e 1 (by omega) (by omega) (by omega)).trans h1, (e 2 (by omega) (by omega) (by omega)).trans h2, (e 3 (by omega) (by omega) (by omega)).trans h3, (e 5 (by omega) (by omega) (by omega)).trans h5, fun k hk => (e _ (by omega) (by omega) (by omega)).trans (h7 k hk), fun k hk => (e _ (by omega) (by omega) (by omega)).trans (h8 k hk), fun j hj k hk => (e _ (by omega) (by omega) (by omega)).trans (h9 j hj k hk)⟩
theorem rB_c {ρ ρ' : Nat → Int32} {E : VV} (h : rB ρ E) (hG : vG E) (e : ∀ k, k < 632 → k ≠ 6 → ρ' k = ρ k) : rB ρ' E := by
  obtain ⟨h1, ⟨h2, h3, h4⟩, h5⟩ := h
  have hL := hG.2.2.2.2.1.2.1
  refine ⟨rN_c h1 hL (fun k a _ c => e k (by omega) c), ⟨(e 4 (by omega) (by omega)).trans h2, h3, fun i hi c hc => rW_c (h4 i hi c hc) (fun k a1 a2 => e k (by omega) (by omega))⟩, fun i hi => ⟨rC_c (h5 i hi).1 (fun k a1 a2 => e k (by omega) (by omega)), (e _ (by omega) (by omega)).trans (h5 i hi).2.1, fun c hc => rMd_c ((h5 i hi).2.2 c hc) (h4 i hi c hc).2.1 (fun k a1 a2 => e k (by omega) (by omega))⟩⟩
/-- nothing that the ways, the table and the phases show has changed -/
def kQ (E E' : VV) : Prop := ∀ kd i k, kd ≠ 8 → ¬ (kd = 9 ∧ k ≠ 2 ∧ k ≠ 9 ∧ k ≠ 10) → E' kd i k = E kd i k
theorem kQ_hl {E E' : VV} (h : kQ E E') (i : Nat) : clX E' i = clX E i := by
  have e : eA E' i = eA E i := by unfold eA; rw [h 10 i 0 (by omega) (by omega)]
  show ((eA E' i : Nat) : Int) - (nc (fun k => decide (E' 13 i k ≠ -1)) 1 (eA E' i - 1) : Nat) = _
  rw [e, show (fun k => decide (E' 13 i k ≠ -1)) = (fun k => decide (E 13 i k ≠ -1)) from funext fun k => by rw [h 13 i k (by omega) (by omega)]]
  rfl
theorem kQ_st {E E' : VV} (h : kQ E E') (i : Nat) : stE E' i = stE E i := by
  unfold stE
  rw [h 9 i 2 (by omega) (by omega), h 9 i 9 (by omega) (by omega), h 9 i 10 (by omega) (by omega), kQ_hl h]
theorem kQ_W {ρ : Nat → Int32} {E E' : VV} {p n c j : Nat} (h : kQ E E') (hW : rW ρ E p n c j) : rW ρ E' p n c j := by
  obtain ⟨h1, h2, h3, h4⟩ := hW
  refine ⟨h1, h2, fun k hk => (h3 k hk).trans (h _ _ _ (by omega) (by omega)).symm, fun k hk2 => ?_⟩
  rw [h _ _ _ (by omega) (by omega)]
  exact h4 k hk2
theorem kQ_Md {ρ : Nat → Int32} {E E' : VV} {p n c j : Nat} (h : kQ E E') (hM : rMd ρ E p n c j) : rMd ρ E' p n c j := by
  intro k h1 h2
  rw [hM k h1 h2, h (13 + 4 * c) _ _ (by omega) (by omega)]
  unfold mdE
  rw [h 7 _ _ (by omega) (by omega)]
theorem kQ_8 {E : VV} {k : Nat} {x : Int32} : kQ E (uV E 8 0 k x) := fun kd i k' h1 _ => uV_k h1
theorem kQ_9 {E : VV} {c k : Nat} {x : Int32} (h : k ≠ 2 ∧ k ≠ 9 ∧ k ≠ 10) : kQ E (uV E 9 c k x) := fun kd i k' _ h2 => by
  rw [uV_at, if_neg (by omega)]
theorem kQ_t {E E1 E2 : VV} (h1 : kQ E E1) (h2 : kQ E1 E2) : kQ E E2 := fun kd i k a c => (h2 kd i k a c).trans (h1 kd i k a c)
theorem kQ_r (E : VV) : kQ E E := fun _ _ _ _ _ => rfl
theorem kQ_K {E E' : VV} (h : kQ E E') : eK E' = eK E := by unfold eK; rw [h 0 0 5 (by omega) (by omega)]
theorem kQ_L {E E' : VV} (h : kQ E E') : eL E' = eL E := by unfold eL; rw [h 1 0 1 (by omega) (by omega)]
theorem kQ_N {E E' : VV} (h : kQ E E') : eN E' = eN E := by unfold eN; rw [h 1 0 0 (by omega) (by omega)]
theorem kQ_eW {E E' : VV} (h : kQ E E') : eW E' = eW E := by
  funext i c
  unfold eW eA eB
  rw [h 10 i 0 (by omega) (by omega), h 14 i 0 (by omega) (by omega)]
theorem kQ_rK {ρ : Nat → Int32} {E E' : VV} {K : Nat} {ln : Nat → Nat → Nat} (h : kQ E E') (hK : rK ρ E K ln) : rK ρ E' K ln := ⟨hK.1, hK.2.1, fun i hi c hc => kQ_W h (hK.2.2 i hi c hc)⟩
theorem kQ_iT {E E' : VV} {K : Nat} {ln : Nat → Nat → Nat} (h : kQ E E') (hT : iT E K ln) : iT E' K ln := by
  have e : ∀ kd i k, kd ≠ 8 → kd ≠ 9 → E' kd i k = E kd i k := fun kd i k a c => h kd i k a (by omega)
  refine ⟨fun i c k t h1 h2 h3 h4 h5 h6 => ?_, fun t h1 h2 => ?_, fun i c k c' k' t h1 h2 h3 h4 h5 h6 h7 h8 h9 h10 => ?_⟩
  · rw [e _ _ _ (by omega) (by omega)] at h6
    rw [e 5 _ _ (by omega) (by omega), e 6 _ _ (by omega) (by omega), e (11 + 4 * c) _ _ (by omega) (by omega)]
    exact hT.1 i c k t h1 h2 h3 h4 h5 h6
  · rw [e 5 _ _ (by omega) (by omega)] at h2
    obtain ⟨i, c, k, a1, a2, a3, a4, a5⟩ := hT.2.1 t h1 h2
    exact ⟨i, c, k, a1, a2, a3, a4, (e _ _ _ (by omega) (by omega)).trans a5⟩
  · rw [e _ _ _ (by omega) (by omega)] at h9 h10
    exact hT.2.2 i c k c' k' t h1 h2 h3 h4 h5 h6 h7 h8 h9 h10
theorem rB_8 {ρ : Nat → Int32} {E : VV} (h : rB ρ E) {k : Nat} (hk : k < 7) {x : Int32} (hG : vG E) : rB (pm_up ρ (7 + k) x) (uV E 8 0 k x) := by
  obtain ⟨h1, ⟨h2, h3, h4⟩, h5⟩ := h
  have q := kQ_8 (E := E) (k := k) (x := x)
  have hL := hG.2.2.2.2.1.2.1
  have o : ∀ j, j ≠ 7 + k → pm_up ρ (7 + k) x j = ρ j := fun j h => if_neg h
  obtain ⟨g0, g1, g2, g3, g5, g7, g8, g9⟩ := h1
  refine ⟨⟨(o 0 (by omega)).trans g0, (o 1 (by omega)).trans g1, (o 2 (by omega)).trans g2, (o 3 (by omega)).trans g3, (o 5 (by omega)).trans g5, fun k' hk' => ?_, fun i hi => (o _ (by omega)).trans (g8 i hi), fun j hj k' hk' => (o _ (by omega)).trans (g9 j hj k' hk')⟩, ⟨?_, ?_, fun i hi c hc => ?_⟩, fun i hi => ⟨?_, ?_, fun c hc => ?_⟩⟩
  · rw [up_at, uV_at]
    by_cases e : k' = k
    · subst e
      rw [if_pos rfl, if_pos ⟨rfl, rfl, rfl⟩]
    · rw [if_neg (by omega), if_neg (by omega)]
      exact g7 k' hk'
  · exact (o 4 (by omega)).trans h2
  · exact h3
  · exact kQ_W q (rW_c (h4 i hi c hc) (fun k a1 a2 => o _ (by omega)))
  · exact rC_c (h5 i hi).1 (fun k a1 a2 => o _ (by omega))
  · rw [kQ_st q]
    exact (o _ (by omega)).trans (h5 i hi).2.1
  · exact kQ_Md q (rMd_c ((h5 i hi).2.2 c hc) (h4 i hi c hc).2.1 (fun k a1 a2 => o _ (by omega)))
theorem rB_9 {ρ : Nat → Int32} {E : VV} (h : rB ρ E) {c k : Nat} (hc : c < 8) (hk : k < 13) (h2 : k ≠ 2) (h9 : k ≠ 9) (h10 : k ≠ 10) {x : Int32} (hG : vG E) : rB (pm_up ρ (104 + 66 * c + pk k) x) (uV E 9 c k x) := by
  obtain ⟨g1, ⟨g2, g3, g4⟩, g5⟩ := h
  have q := kQ_9 (E := E) (c := c) (k := k) (x := x) ⟨h2, h9, h10⟩
  have hL := hG.2.2.2.2.1.2.1
  have hp := pk_l k hk h9 h10
  have o : ∀ j, j ≠ 104 + 66 * c + pk k → pm_up ρ (104 + 66 * c + pk k) x j = ρ j := fun j h => if_neg h
  refine ⟨?_, ⟨?_, ?_, fun i hi c' hc' => ?_⟩, fun i hi => ⟨fun k' h1 h3 h4 => ?_, ?_, fun c' hc' => ?_⟩⟩
  · have := rN_c g1 hL (ρ' := pm_up ρ (104 + 66 * c + pk k) x) (fun k a _ _ => o _ (by omega))
    exact this
  · exact (o 4 (by omega)).trans g2
  · exact g3
  · exact kQ_W q (rW_c (g4 i hi c' hc') (fun k a1 a2 => o _ (by rcases (show c' = 0 ∨ c' = 1 by omega) with e | e <;> subst e <;> omega)))
  · have hp' := pk_l k' h1 h3 h4
    rw [up_at, uV_at]
    by_cases e : i = c ∧ k' = k
    · obtain ⟨rfl, rfl⟩ := e
      rw [if_pos rfl, if_pos ⟨rfl, rfl, rfl⟩]
    · rw [if_neg (fun z => e ?_), if_neg (fun z => e ⟨z.2.1, z.2.2⟩)]
      · exact (g5 i hi).1 k' h1 h3 h4
      · have ei : i = c := by omega
        exact ⟨ei, pk_i k' h1 k hk h3 h4 h9 h10 (by omega)⟩
  · rw [kQ_st q]
    exact (o _ (by omega)).trans (g5 i hi).2.1
  · exact kQ_Md q (rMd_c ((g5 i hi).2.2 c' hc') (g4 i hi c' hc').2.1 (fun k a1 a2 => o _ (by rcases (show c' = 0 ∨ c' = 1 by omega) with e | e <;> subst e <;> omega)))
theorem kQ_G {E E' : VV} (h : kQ E E') (hG : vG E) : vG E' := vG_sm ⟨h _ _ _ (by omega) (by omega), h _ _ _ (by omega) (by omega), h _ _ _ (by omega) (by omega), h _ _ _ (by omega) (by omega), fun _ => h _ _ _ (by omega) (by omega), fun _ => h _ _ _ (by omega) (by omega), fun _ => h _ _ _ (by omega) (by omega)⟩ hG
theorem rP_rm {ρ : Nat → Int32} {dn l : List (Nat → Int32)} {r : Nat → Int32} (h : rP ρ (dn ++ r :: l)) : rP (rmR ρ dn.length (dn ++ r :: l).length) (dn ++ l) := by
  obtain ⟨h1, h2, h3⟩ := h
  have e1 : (dn ++ r :: l).length = dn.length + l.length + 1 := by simp only [List.length_append, List.length_cons]; omega
  have e2 : (dn ++ l).length = dn.length + l.length := List.length_append
  rw [e1] at h1 h2 ⊢
  refine ⟨?_, by omega, fun p r' hr => ?_⟩
  · rw [e2]
    exact if_pos rfl
  · have hp : p < dn.length + l.length := by
      have := (List.getElem?_eq_some_iff.mp hr).1
      omega
    by_cases e : p < dn.length
    · have h9 := h3 p r' (by rw [List.getElem?_append_left e] at hr ⊢; exact hr)
      have o : ∀ k, k < 8 → rmR ρ dn.length (dn.length + l.length + 1) (632 + 8 * p + k) = ρ (632 + 8 * p + k) := fun k hk => by
        unfold rmR
        rw [if_neg (by omega), if_neg (by omega)]
      unfold rQ at h9 ⊢
      rw [o 1 (by omega), o 2 (by omega), o 3 (by omega), o 4 (by omega), o 5 (by omega), o 6 (by omega), o 7 (by omega), show rmR ρ dn.length (dn.length + l.length + 1) (632 + 8 * p) = ρ (632 + 8 * p) from o 0 (by omega)]
      exact h9
    · have h9 := h3 (p + 1) r' (by
        rw [List.getElem?_append_right (by omega)] at hr ⊢
        rw [show p + 1 - dn.length = (p - dn.length) + 1 from by omega, List.getElem?_cons_succ]
        exact hr)
      have o : ∀ k, k < 8 → rmR ρ dn.length (dn.length + l.length + 1) (632 + 8 * p + k) = ρ (632 + 8 * (p + 1) + k) := fun k hk => by
        unfold rmR
        rw [if_neg (by omega), if_pos (by omega)]
        exact congrArg ρ (by omega)
      unfold rQ at h9 ⊢
      rw [o 1 (by omega), o 2 (by omega), o 3 (by omega), o 4 (by omega), o 5 (by omega), o 6 (by omega), o 7 (by omega), show rmR ρ dn.length (dn.length + l.length + 1) (632 + 8 * p) = ρ (632 + 8 * (p + 1)) from o 0 (by omega)]
      exact h9
theorem rP_c {ρ ρ' : Nat → Int32} {l : List (Nat → Int32)} (h : rP ρ l) (e : ∀ k, k = 6 ∨ 632 ≤ k → ρ' k = ρ k) : rP ρ' l := by
  obtain ⟨h1, h2, h3⟩ := h
  refine ⟨(e 6 (by omega)).trans h1, h2, fun p r hr => ?_⟩
  have h9 := h3 p r hr
  unfold rQ at h9 ⊢
  rw [e _ (by omega), e _ (by omega), e _ (by omega), e _ (by omega), e _ (by omega), e _ (by omega), e _ (by omega), e _ (by omega)]
  exact h9
theorem rP_at {ρ : Nat → Int32} {dn l : List (Nat → Int32)} {r : Nat → Int32} (h : rP ρ (dn ++ r :: l)) : rQ ρ (632 + 8 * dn.length) r := h.2.2 _ r (by rw [List.getElem?_append_right (by omega), Nat.sub_self, List.getElem?_cons_zero])
theorem cR_nn {E : VV} {c : Nat} (h : c < eK E) (h8 : c < 1000) : cR E (nn c) = true := decide_eq_true (by rw [nn_t (by omega)]; omega)
theorem lsE_nn {E : VV} {r : Nat → Int32} {c : Nat} (h : c < eK E) (h8 : c < 1000) (e : r 0 = nn c) : lsE E r = uV (uV E 8 0 2 (E 8 0 2 + 1)) 9 c 6 (E 9 c 6 + 1) := by
  unfold lsE
  rw [e, cR_nn h h8, if_pos rfl, nn_t (by omega)]
  rfl
theorem kQ_ls {E : VV} {r : Nat → Int32} : kQ E (lsE E r) := by
  unfold lsE
  split
  · exact kQ_t kQ_8 (kQ_9 (by omega))
  · exact kQ_8
theorem kQ_dv {E : VV} {r : Nat → Int32} : kQ E (dvE E r) := by
  unfold dvE
  split
  · split
    · exact kQ_t (kQ_t (kQ_t kQ_8 (kQ_9 (by omega))) (kQ_9 (by omega))) (kQ_9 (by omega))
    · exact kQ_t (kQ_t (kQ_t (kQ_t kQ_8 (kQ_9 (by omega))) (kQ_9 (by omega))) (kQ_9 (by omega))) kQ_8
  · exact kQ_8
