/-! the reference appends nodes to a way -/
def apR (ρ : Nat → Int32) (p j : Nat) (v x y mk : Int32) : Nat → Int32 := pm_up (pm_up (pm_up (pm_up (pm_up ρ (p + 1 + j) v) (p + 7 + j) x) (p + 13 + j) y) (p + 19 + j) mk) p (nn (j + 1))
theorem apR_o {ρ : Nat → Int32} {p j : Nat} {v x y mk : Int32} {q : Nat} (hj : j < 6) (h : q < p ∨ p + 25 ≤ q) : apR ρ p j v x y mk q = ρ q := by
  unfold apR
  simp (disch := omega) only [up_at, if_neg]
/-- the way is one longer -/
theorem rK_ap {ρ : Nat → Int32} {E E' : VV} {K : Nat} {ln : Nat → Nat → Nat} {i c j : Nat} {v x y mk : Int32} (h : rK ρ E K ln) (hi : i < K) (hc : c < 2) (hln : ln i c = j) (hj : j < 6) (h11 : ∀ d a k, E' (11 + 4 * d) a k = E (11 + 4 * d) a k) (h13 : ∀ d a k, ¬ (d = c ∧ a = i ∧ k = j) → E' (13 + 4 * d) a k = E (13 + 4 * d) a k) (hv : E (11 + 4 * c) i j = v) (hs : slR x y (E' (13 + 4 * c) i j)) : rK (apR ρ (120 + 66 * i + 25 * c) j v x y mk) E' K (lu ln i c (j + 1)) := by
  obtain ⟨h4, hK, hW⟩ := h
  refine ⟨(apR_o hj (by omega)).trans h4, hK, fun a ha d hd => ?_⟩
  by_cases e : a = i ∧ d = c
  · obtain ⟨rfl, rfl⟩ := e
    rw [lu_s]
    obtain ⟨w1, w2, w3, w4⟩ := hW a ha d hd
    rw [hln] at w1 w2 w3 w4
    refine ⟨?_, by omega, fun k hk => ?_, fun k k2 => ?_⟩
    · unfold apR
      rw [up_at, if_pos rfl]
    · rw [h11]
      by_cases ek : k = j
      · subst ek
        unfold apR
        simp (disch := omega) only [up_at, if_neg, if_pos, it_T]
        exact hv.symm
      · rw [← w3 k (by omega)]
        unfold apR
        simp (disch := omega) only [up_at, if_neg]
    · by_cases ek : k = j
      · subst ek
        have := hs
        unfold apR
        simp (disch := omega) only [up_at, if_neg, if_pos, it_T]
        exact this
      · rw [h13 _ _ _ (by omega)]
        have := w4 k (by omega)
        unfold apR
        simp (disch := omega) only [up_at, if_neg]
        exact this
  · rw [lu_o e]
    refine rW_e (rW_c (hW a ha d hd) (fun k k1 k2 => apR_o hj ?_)) (fun k => h11 d a k) (fun k => h13 d a k (by omega))
    rcases (show c = 0 ∨ c = 1 by omega) with e1 | e1 <;> rcases (show d = 0 ∨ d = 1 by omega) with e2 | e2 <;> subst e1 <;> subst e2 <;> omega
