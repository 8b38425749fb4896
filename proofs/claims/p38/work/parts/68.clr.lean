/-! the reference clears ways, and moves all circuits -/
def cpR (ρ : Nat → Int32) (p j : Nat) : Nat → Int32 := fun q => if p ≤ q ∧ q < p + j then ρ (q + 25) else ρ q
theorem cpR_0 {ρ : Nat → Int32} {p : Nat} : cpR ρ p 0 = ρ := funext fun q => if_neg (by omega)
theorem cpR_s {ρ : Nat → Int32} {p j : Nat} (h : j < 25) : pm_up (cpR ρ p j) (p + j) (cpR ρ p j (p + 25 + j)) = cpR ρ p (j + 1) := by
  funext q
  rw [up_at]
  unfold cpR
  by_cases e : q = p + j
  · rw [if_pos e, if_neg (by omega), if_pos (by omega)]
    exact congrArg ρ (by omega)
  · rw [if_neg e]
    by_cases e2 : p ≤ q ∧ q < p + j
    · rw [if_pos e2, if_pos (by omega)]
    · rw [if_neg e2, if_neg (by omega)]
theorem vG_gv {E : VV} {i x t : Nat} (h : vG E) : vG (gvE E i x t) := vG_sm ⟨rfl, rfl, rfl, rfl, fun _ => rfl, fun _ => rfl, fun _ => rfl⟩ h
section
variable {H : fm_H} {b : Nat} {m m00 : fm_M}
theorem iL_mC {E : VV} {i : Nat} (h : iL E) : iL (mC E i) := by
  intro j hj
  have : eL (mC E i) = eL E := by unfold eL; rw [mC_o (by decide)]
  rw [this] at hj
  rw [mC_o (by decide)]
  exact h j hj
end
