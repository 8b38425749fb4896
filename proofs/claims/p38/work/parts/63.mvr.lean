/-! the reference moves its packets -/
theorem iT_fi {E : VV} {K : Nat} {ln : Nat → Nat → Nat} (hT : iT E K ln) {i c k t : Nat} (hi : i < K) (hc : c < 2) (h1 : 1 ≤ k) (h2 : k < ln i c) (ht : t < 120) (e : E (13 + 4 * c) i k = nn t) : fi (fun k => decide (E (13 + 4 * c) i k = nn t)) 1 (ln i c - 1) = k := by
  refine fi_eq h1 (by omega) (decide_eq_true e) (fun k' a1 a2 => decide_eq_false (fun z => ?_))
  have := (hT.2.2 i c k c k' t hi hc hc h1 h2 a1 (by omega) ht e z).2
  omega
theorem iT_f1 {E : VV} {K : Nat} {ln : Nat → Nat → Nat} (hT : iT E K ln) {i c k t : Nat} (hi : i < K) (hc : c < 2) (h1 : 1 ≤ k) (h2 : k < ln i c) (ht : t < 120) (e : E (13 + 4 * c) i k = nn t) {c' : Nat} (hc' : c' < 2) (hn : c' ≠ c) : fi (fun k => decide (E (13 + 4 * c') i k = nn t)) 1 (ln i c' - 1) = -1 := by
  refine fi_m1.mpr (fun k' a1 a2 => decide_eq_false (fun z => ?_))
  have := (hT.2.2 i c k c' k' t hi hc hc' h1 h2 a1 (by omega) ht e z).1
  omega
theorem gO_no {E : VV} {r : Nat → Int32} {t : Nat} (ht : t < 120) (h5 : r 5 = nn t) (h : E 5 0 t = -1 ∨ E 5 0 t ≠ r 4 ∨ E 7 0 t ≠ 1) : gO E r = (false, r, lsE E r) := by
  unfold gO
  rw [h5, nn_t (by omega), show ((t : Nat) : Int).toNat = t from rfl, if_neg]
  rintro ⟨-, -, a1, -, a2, a3⟩
  rcases h with h | h | h
  · exact a1 h
  · exact h a2
  · exact h a3
theorem gO_fd {E : VV} {r : Nat → Int32} (hT : iT E (eK E) (eW E)) (hK : eK E ≤ 8) {i c k t : Nat} (hi : i < eK E) (hc : c < 2) (h1 : 1 ≤ k) (h2 : k < eW E i c) (ht : t < 120) (e : E (13 + 4 * c) i k = nn t) (h5 : r 5 = nn t) (e4 : E 5 0 t = r 4) (e7 : E 7 0 t = 1) : gO E r = gW E r (10 + 4 * c) i (eW E i c) k := by
  obtain ⟨a1, a2, a3⟩ := hT.1 i c k t hi hc h1 h2 ht e
  unfold gO
  rw [h5, nn_t (by omega), show ((t : Nat) : Int).toNat = t from rfl, if_pos ⟨by omega, by omega, a3, by rw [a2]; exact cR_nn hi (by omega), e4, e7⟩, a2, nn_t (by omega), show ((i : Nat) : Int).toNat = i from rfl]
  have g := iT_fi hT hi hc h1 h2 ht e
  rcases (show c = 0 ∨ c = 1 by omega) with ec | ec
  · subst ec
    have g1 := iT_f1 hT hi hc h1 h2 ht e (c' := 1) (by omega) (by omega)
    rw [show eB E i = eW E i 1 from rfl, show eA E i = eW E i 0 from rfl, if_pos g1]
    exact congrArg (gW E r 10 i (eW E i 0)) g
  · subst ec
    rw [show eB E i = eW E i 1 from rfl, if_neg (fun z => absurd (g.symm.trans z) (by omega))]
    exact congrArg (gW E r 14 i (eW E i 1)) g
section
variable {H : fm_H} {b : Nat} {m m00 : fm_M}
theorem rI_fd {ρ : Nat → Int32} {i c k : Nat} (hr : rI b m00 m ρ) : rI b m00 (fdM m b i c k) ρ := ⟨fdM_r.trans hr.1, fR_tr hr.2 fdM_R⟩
theorem kQ_gP {E : VV} {r : Nat → Int32} : kQ E (gP E r).2.2 := by
  have w : ∀ r b c n q, kQ E (gW E r b c n q).2.2 := by
    intro r b c n q
    unfold gW
    split
    · exact kQ_dv
    · split
      · exact kQ_r E
      · exact kQ_ls
  unfold gP
  split
  · exact kQ_r E
  · unfold gO
    split
    · split
      · exact w _ _ _ _ _
      · exact w _ _ _ _ _
    · exact kQ_ls
theorem kQ_pk {E E' : VV} (h : kQ E E') {r : Nat → Int32} (hk : pkO E r) : pkO E' r := by
  unfold pkO
  rw [kQ_K h]
  exact hk
theorem rP_up {ρ : Nat → Int32} {dn l : List (Nat → Int32)} {r : Nat → Int32} {x : Int32} (h : rP ρ (dn ++ r :: l)) : rP (pm_up ρ (632 + 8 * dn.length + 6) x) (dn ++ pm_up r 6 x :: l) := by
  refine rP_c2 h (fun k hk => if_neg (by omega)) ?_
  obtain ⟨q0, q1, q2, q3, q5, q6, q7⟩ := rP_at h
  unfold rQ
  simp (disch := omega) only [up_at, if_neg, if_pos, it_T]
  exact ⟨q0, q1, q2, q3, q5, trivial, q7⟩
end
