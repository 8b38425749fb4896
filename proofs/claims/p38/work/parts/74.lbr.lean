/-! the reference counts labels -/
/-- does a place count -/
def cn (ρ : Nat → Int32) (v1 v2 : Int32) (p k : Nat) : Bool :=
  if v2 = 0 then decide (ρ (p + 1 + k) = v1) && decide (ρ (p + 7 + k) = v1)
  else if v2 = 1 then decide (ρ (p + 1 + k) = v1) && (decide (ρ (p + 7 + k) ≠ v1) && decide (ρ (p + 7 + k) ≠ -1))
  else if v2 = 2 then decide (ρ (p + 1 + k) = v1) && (decide (ρ (p + 7 + k) ≠ -1) && decide (ρ (p + 19 + k) = 1))
  else !decide (ρ (p + 1 + k) = v1) && decide (ρ (p + 7 + k) = v1)
section
variable {H : fm_H} {b : Nat} {m m00 : fm_M}
theorem bi_nn (x : Bool) : bi x = nn (if x = true then 1 else 0) := by cases x <;> decide
end
