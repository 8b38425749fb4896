/-! the reference's reservations -/
/-- links that are up or not -/
def iU (E : VV) : Prop := ∀ j, j < eL E → E 3 j 4 = 0 ∨ E 3 j 4 = 1
/-- the reference's circuit i is the class's: its ways, its band, its phase -/
def rV1 (ρ : Nat → Int32) (E : VV) (i : Nat) : Prop := (∀ c, c < 2 → rW ρ E (120 + 66 * i + 25 * c) (eW E i c) c i ∧ iWy E i c (eW E i c)) ∧ ρ (104 + 66 * i) = E 9 i 0 ∧ ρ (104 + 66 * i + 2) = E 9 i 2 ∧ (∃ p, p ≤ 3 ∧ E 9 i 2 = nn p) ∧ (E 9 i 2 = 0 → eB E i = 0)
theorem rB_V1 {ρ : Nat → Int32} {E : VV} (h : rB ρ E) (hX : iX E) {i dl : Nat} (hi : i < eK E) (hQ : iQ E i dl) : rV1 ρ E i := by
  refine ⟨fun c hc => ⟨h.2.1.2.2 i hi c hc, (hX.2.2 i hi c hc).1⟩, (h.2.2 i hi).1 0 (by omega) (by omega) (by omega), (h.2.2 i hi).1 2 (by omega) (by omega) (by omega), ?_, ?_⟩
  · rcases hQ.2.2.2.2 with h | h | h | h
    · exact ⟨0, by omega, h.1.trans nl_0⟩
    · exact ⟨1, by omega, h.1.trans nl_1⟩
    · exact ⟨2, by omega, h.1.trans nl_2⟩
    · exact ⟨3, by omega, h.1.trans nl_3⟩
  · intro z
    rcases hQ.2.2.2.2 with h | h | h | h
    · exact h.2.1
    · rw [h.1] at z; exact absurd z (by decide)
    · rw [h.1] at z; exact absurd z (by decide)
    · rw [h.1] at z; exact absurd z (by decide)
