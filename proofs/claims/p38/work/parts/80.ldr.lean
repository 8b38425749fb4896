/-! the reference lays a draft -/
theorem rN_e {ρ : Nat → Int32} {E E' : VV} (h : rN ρ E) (e : ∀ kd i k, kd = 0 ∨ kd = 1 ∨ kd = 3 ∨ kd = 4 ∨ kd = 8 → E' kd i k = E kd i k) : rN ρ E' := by
  obtain ⟨g0, g1, g2, g3, g5, g7, g8, g9⟩ := h
  have eL' : eL E' = eL E := by unfold eL; rw [e 1 _ _ (by omega)]
  refine ⟨g0.trans (e 0 _ _ (by omega)).symm, g1.trans (e 0 _ _ (by omega)).symm, g2.trans (e 1 _ _ (by omega)).symm, g3.trans (e 1 _ _ (by omega)).symm, g5.trans (e 0 _ _ (by omega)).symm, fun k hk => (g7 k hk).trans (e 8 _ _ (by omega)).symm, fun i hi => (g8 i hi).trans (e 4 _ _ (by omega)).symm, fun j hj k hk => ?_⟩
  rw [eL'] at hj
  rw [e 3 _ _ (by omega)]
  exact g9 j hj k hk
/-- while the draft is laid -/
def LD (ρ0 : Nat → Int32) (E0 : VV) (ρ : Nat → Int32) (E : VV) (K : Nat) (ln : Nat → Nat → Nat) (i c : Nat) (mk : Int32) (j : Nat) : Prop :=
  rN ρ E ∧ rK ρ E K (lu ln i c j) ∧ tF E0 E i c j ∧ (∀ q, (q < 120 + 66 * i + 25 * c ∨ 145 + 66 * i + 25 * c ≤ q) → ρ q = ρ0 q) ∧ ∀ k, 1 ≤ k → k < j → ρ (120 + 66 * i + 25 * c + 19 + k) = mk
theorem lu_lu {ln : Nat → Nat → Nat} {i c a d : Nat} : lu (lu ln i c a) i c d = lu ln i c d := by
  funext x y
  unfold lu
  split
  · rfl
  · rfl
theorem LD_s {ρ0 : Nat → Int32} {E0 : VV} {ρ : Nat → Int32} {E E' : VV} {K : Nat} {ln : Nat → Nat → Nat} {i c j : Nat} {mk v x y : Int32} (h : LD ρ0 E0 ρ E K ln i c mk j) (hL : eL E ≤ 16) (hi : i < K) (hc : c < 2) (hj : j < 6) (ho : ∀ kd a k, kd ≠ 5 → kd ≠ 6 → kd ≠ 7 → ¬ (kd = 13 + 4 * c ∧ a = i ∧ k = j) → E' kd a k = E kd a k) (hv : E (11 + 4 * c) i j = v) (hs : slR x y (E' (13 + 4 * c) i j)) (ht : tF E0 E' i c (j + 1)) : LD ρ0 E0 (apR ρ (120 + 66 * i + 25 * c) j v x y mk) E' K ln i c mk (j + 1) := by
  obtain ⟨l1, l2, l3, l4, l5⟩ := h
  refine ⟨?_, ?_, ht, fun q hq => ?_, fun k k1 k2 => ?_⟩
  · refine rN_e (E := E) (rN_c l1 hL (fun k a1 a2 a3 => apR_o hj (by omega))) (fun kd a k hkd => ho kd a k (by omega) (by omega) (by omega) (by omega))
  · have := rK_ap (E' := E') (x := x) (y := y) (mk := mk) l2 hi hc lu_s hj (fun d a k => ho _ _ _ (by omega) (by omega) (by omega) (by omega)) (fun d a k hn => ho _ _ _ (by omega) (by omega) (by omega) (by omega)) hv hs
    rw [lu_lu] at this
    exact this
  · rw [apR_o hj (by omega)]
    exact l4 q (by omega)
  · by_cases ek : k = j
    · subst ek
      unfold apR
      simp (disch := omega) only [up_at, if_neg, if_pos, it_T]
    · have := l5 k k1 (by omega)
      unfold apR
      simp (disch := omega) only [up_at, if_neg]
      exact this
section
variable {H : fm_H} {b : Nat} {m m00 : fm_M}
theorem rI_o {ρ : Nat → Int32} (hr : rI b m00 m ρ) {a k : Nat} (h1 : a ≠ b + 1) (h2 : ¬ (a = b ∧ 18 ≤ k)) (h3 : ¬ (b + 8 ≤ a ∧ a < b + 11)) : m.1 a k = m00.1 a k := hr.2.1 a k h1 h2 h3
end
