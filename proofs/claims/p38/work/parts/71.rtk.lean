/-! the reference's tick -/
def hS0 (E : VV) : Prop := ∀ i c k, i < eK E → c < 2 → 1 ≤ k → k < eW E i c → E (13 + 4 * c) i k = -1 ∨ ∃ f l : Nat, f < 10 ∧ l < 12 ∧ E (13 + 4 * c) i k = nn (f * 12 + l)
theorem rB_hS {ρ : Nat → Int32} {E : VV} (h : rB ρ E) : hS0 E := by
  intro i c k hi hc h1 h2
  rcases (h.2.1.2.2 i hi c hc).2.2.2 k h2 with ⟨a, -, -⟩ | ⟨f, l, hf, hl, e, -, -⟩
  · exact Or.inl a
  · exact Or.inr ⟨f, l, hf, hl, e⟩
theorem kQ_hS {E E' : VV} (h : kQ E E') (hS : hS0 E) : hS0 E' := by
  intro i c k hi hc h1 h2
  rw [kQ_K h] at hi
  rw [kQ_eW h] at h2
  rw [h (13 + 4 * c) _ _ (by omega) (by omega)]
  exact hS i c k hi hc h1 h2
theorem pk_gO {E : VV} {r : Nat → Int32} (hX : iX E) (hK8 : eK E ≤ 8) (hS : hS0 E) (hk : pkO E r) (ht : (gO E r).1 = true) : pkO E (gO E r).2.1 := by
  obtain ⟨⟨c0, hc0, h0⟩, f, l, hf, hl, h5⟩ := hk
  have t120 : f * 12 + l < 120 := by omega
  by_cases e1 : E 5 0 (f * 12 + l) = -1
  · rw [gO_no t120 h5 (Or.inl e1)] at ht
    cases ht
  · by_cases e2 : E 5 0 (f * 12 + l) = r 4
    · by_cases e3 : E 7 0 (f * 12 + l) = 1
      · obtain ⟨i, c, k, hi, hc, k1, k2, es⟩ := hX.1.2.1 _ t120 e1
        rw [gO_fd hX.1 hK8 hi hc k1 k2 t120 es h5 e2 e3] at ht ⊢
        unfold gW at ht ⊢
        by_cases en : (eW E i c : Int) ≤ k + 1
        · rw [if_pos en] at ht
          cases ht
        · rw [if_neg en] at ht ⊢
          rw [show ((k : Nat) + 1 : Int).toNat = k + 1 from rfl] at ht ⊢
          split
          · refine ⟨⟨c0, hc0, h0⟩, ?_⟩
            have h9 := (hX.2.2 i hi c hc).2 k (k + 1) k1 (by omega) (by omega) (by rw [es]; exact nn_m1 (by omega))
            obtain ⟨f', l', a1, a2, a3⟩ := (hS i c (k + 1) hi hc (by omega) (by omega)).resolve_left h9
            refine ⟨f', l', a1, a2, ?_⟩
            rw [← a3, show 13 + 4 * c = 10 + 4 * c + 3 from by omega]
            rfl
          · rename_i h
            rw [if_neg h] at ht
            cases ht
      · rw [gO_no t120 h5 (Or.inr (Or.inr e3))] at ht
        cases ht
    · rw [gO_no t120 h5 (Or.inr (Or.inl e2))] at ht
      cases ht
theorem pk_gP {E : VV} {r : Nat → Int32} (hX : iX E) (hK8 : eK E ≤ 8) (hS : hS0 E) (hk : pkO E r) (ht : (gP E r).1 = true) : pkO E (gP E r).2.1 := by
  unfold gP at ht ⊢
  split
  · exact hk
  · rename_i e
    rw [if_neg e] at ht
    exact pk_gO hX hK8 hS (r := pm_up r 6 (r 6 - 1)) hk ht
theorem pk_b {E E' : VV} (h : kQ E E') {r : Nat → Int32} (hk : pkO E' r) : pkO E r := by
  unfold pkO at hk ⊢
  rw [kQ_K h] at hk
  exact hk
theorem pk_mvP : ∀ {l : List (Nat → Int32)} {E : VV}, iX E → eK E ≤ 8 → hS0 E → (∀ r, r ∈ l → pkO E r) → ∀ r, r ∈ (mvP E l).1 → pkO E r := by
  intro l
  induction l with
  | nil => intro E _ _ _ _ r h; cases h
  | cons r0 l ih =>
    intro E hX hK8 hS hk r h
    rw [mvP_c] at h
    dsimp only at h
    have kq : kQ E (gP E r0).2.2 := kQ_gP
    have rest : ∀ r, r ∈ (mvP (gP E r0).2.2 l).1 → pkO E r := fun r h => pk_b kq (ih (kQ_iX kq hX) (by rw [kQ_K kq]; exact hK8) (kQ_hS kq hS) (fun r h => kQ_pk kq (hk r (List.mem_cons_of_mem _ h))) r h)
    split at h
    · rename_i e
      rcases List.mem_cons.mp h with h | h
      · rw [h]
        exact pk_gP hX hK8 hS (hk r0 (List.mem_cons_self ..)) e
      · exact rest r h
    · exact rest r h
theorem kQ_mvP : ∀ {l : List (Nat → Int32)} {E : VV}, kQ E (mvP E l).2 := by
  intro l
  induction l with
  | nil => intro E; exact kQ_r E
  | cons r0 l ih =>
    intro E
    rw [mvP_c]
    exact kQ_t kQ_gP ih
/-- what holds between ticks -/
def iV (E : VV) (l : List (Nat → Int32)) : Prop := vG E ∧ iX E ∧ iL E ∧ (∀ i, i < eK E → iQ E i 0) ∧ (∀ r, r ∈ l → pkO E r) ∧ E 0 0 6 = nn l.length
theorem iQ_kQ {E E' : VV} {i dl : Nat} (h : kQ E E') (h3 : E' 9 i 3 = E 9 i 3) (h8 : E' 9 i 8 = E 9 i 8) (hQ : iQ E i dl) : iQ E' i dl := by
  have eA' : eA E' i = eA E i := by unfold eA; rw [h 10 _ _ (by omega) (by omega)]
  have eB' : eB E' i = eB E i := by unfold eB; rw [h 14 _ _ (by omega) (by omega)]
  have e13 : ∀ k, E' 13 i k = E 13 i k := fun k => h _ _ _ (by omega) (by omega)
  have e17 : ∀ k, E' 17 i k = E 17 i k := fun k => h _ _ _ (by omega) (by omega)
  unfold iQ
  simp only [eA', eB', e13, e17, h3, h8, h 9 i 2 (by omega) (by omega), h 9 i 9 (by omega) (by omega), h 9 i 10 (by omega) (by omega)]
  exact hQ
/-- places 3 and 8 of the circuits' numbers stay -/
def k38 (E E' : VV) : Prop := ∀ i, E' 9 i 3 = E 9 i 3 ∧ E' 9 i 8 = E 9 i 8
theorem k38_ls {E : VV} {r : Nat → Int32} : k38 E (lsE E r) := by
  intro i
  have h : ∀ k, k = 3 ∨ k = 8 → lsE E r 9 i k = E 9 i k := by
    intro k hk
    unfold lsE
    split
    · rw [uV_p (by omega), uV_k (by decide)]
    · exact uV_k (by decide)
  exact ⟨h 3 (Or.inl rfl), h 8 (Or.inr rfl)⟩
theorem k38_dv {E : VV} {r : Nat → Int32} : k38 E (dvE E r) := by
  intro i
  have h : ∀ k, k = 3 ∨ k = 8 → dvE E r 9 i k = E 9 i k := by
    intro k hk
    unfold dvE
    split
    · split
      · rw [uV_p (by omega), uV_p (by omega), uV_p (by omega), uV_k (by decide)]
      · rw [uV_k (by decide), uV_p (by omega), uV_p (by omega), uV_p (by omega), uV_k (by decide)]
    · exact uV_k (by decide)
  exact ⟨h 3 (Or.inl rfl), h 8 (Or.inr rfl)⟩
theorem k38_gP {E : VV} {r : Nat → Int32} : k38 E (gP E r).2.2 := by
  have w : ∀ r b c n q, k38 E (gW E r b c n q).2.2 := by
    intro r b c n q
    unfold gW
    split
    · exact k38_dv
    · split
      · exact fun _ => ⟨rfl, rfl⟩
      · exact k38_ls
  unfold gP
  split
  · exact fun _ => ⟨rfl, rfl⟩
  · unfold gO
    split
    · split
      · exact w _ _ _ _ _
      · exact w _ _ _ _ _
    · exact k38_ls
theorem k38_mvP : ∀ {l : List (Nat → Int32)} {E : VV}, k38 E (mvP E l).2 := by
  intro l
  induction l with
  | nil => intro E; exact fun _ => ⟨rfl, rfl⟩
  | cons r0 l ih =>
    intro E i
    rw [mvP_c]
    have h1 := k38_gP (E := E) (r := r0) i
    have h2 := ih (E := (gP E r0).2.2) i
    exact ⟨h2.1.trans h1.1, h2.2.trans h1.2⟩
/-- what a sending changes -/
theorem sF_9 {E : VV} {i : Nat} : (∀ j k, j ≠ i → (sF E i).1 9 j k = E 9 j k) ∨ ¬ (i < eK E ∧ i < 1000) := by
  by_cases hi : i < eK E ∧ i < 1000
  · refine Or.inl (fun j k hj => ?_)
    have ls : ∀ {V : VV} {r}, eK V = eK E → r 0 = nn i → lsE V r 9 j k = V 9 j k := by
      intro V r hV h0
      rw [lsE_nn (by rw [hV]; exact hi.1) hi.2 h0, uV_i hj, uV_k (by decide)]
    have sp : ∀ {V : VV}, eK V = eK E → (sP V i).1 9 j k = V 9 j k := by
      intro V hV
      have es : sdE V i 9 j k = V 9 j k := by
        unfold sdE
        rw [uV_k (by decide), uV_i hj, uV_i hj]
      unfold sP
      split
      · show uV (sdE V i) 0 0 6 (V 0 0 6 + 1) 9 j k = V 9 j k
        rw [uV_k (by decide), es]
      · exact (ls (V := sdE V i) hV rfl).trans es
    have sh : ∀ {V : VV}, eK V = eK E → (sH V i).1 9 j k = V 9 j k := by
      intro V hV
      unfold sH
      split
      · split
        · rfl
        · split
          · rfl
          · exact sp hV
      · exact uV_i hj
    unfold sF
    split
    · exact sh rfl
    · split
      · rw [sh (V := bkE E i 1) rfl]
        unfold bkE
        rw [uV_k (by decide), uV_i hj]
      · exact sh rfl
  · exact Or.inr hi
theorem iQ_sd {E E' : VV} {i : Nat} (h : kS6 E E') (h2 : ∀ k, k = 2 ∨ k = 9 ∨ k = 10 → E' 9 i k = E 9 i k) (h3 : ∃ w, w ≤ 9 ∧ E' 9 i 3 = nn w) (h8 : ∃ h, E 9 i 8 = nn h ∧ h ≤ 1000 ∧ E' 9 i 8 = nn (h - 1)) (hQ : iQ E i 1) : iQ E' i 0 := by
  have eA' : eA E' i = eA E i := by unfold eA; rw [h 10 _ _ (by omega) (by omega) (by omega)]
  have eB' : eB E' i = eB E i := by unfold eB; rw [h 14 _ _ (by omega) (by omega) (by omega)]
  have e13 : ∀ k, E' 13 i k = E 13 i k := fun k => h _ _ _ (by omega) (by omega) (by omega)
  have e17 : ∀ k, E' 17 i k = E 17 i k := fun k => h _ _ _ (by omega) (by omega) (by omega)
  obtain ⟨q1, q2, q3, q4, q5⟩ := hQ
  obtain ⟨x, x1, x2, x3⟩ := h8
  unfold iQ
  simp only [eA', eB', e13, e17, h2 2 (by omega), h2 9 (by omega), h2 10 (by omega)]
  refine ⟨q1, h3, q3, q4, ?_⟩
  have z : E 9 i 8 = 0 → E' 9 i 8 = 0 := by
    intro z
    rw [x1, nl_0, nn_eq (by omega) (by omega)] at z
    rw [x3, z]
    rfl
  rcases q5 with ⟨a1, a2, a3, a4, a5, a6⟩ | ⟨a1, a2, a3, a4, a5, a6⟩ | ⟨a1, a2, a3, ⟨d, e, d1, d2, d3, d4, d5⟩, a6⟩ | ⟨a1, a2, a3, a4, e, e1, e2⟩
  · exact Or.inl ⟨a1, a2, a3, a4, z a5, a6⟩
  · exact Or.inr (Or.inl ⟨a1, a2, a3, a4, z a5, a6⟩)
  · rw [d5, nn_eq (by omega) (by omega)] at x1
    exact Or.inr (Or.inr (Or.inl ⟨a1, a2, a3, ⟨d, x - 1, d1, d2, by omega, d4, x3⟩, a6⟩))
  · rw [e2, nn_eq (by omega) (by omega)] at x1
    exact Or.inr (Or.inr (Or.inr ⟨a1, a2, a3, a4, x - 1, by omega, x3⟩))
