/-! the reference moves its circuits -/
theorem mC_n {E : VV} {i kd j k : Nat} (hj : j ≠ i) (h1 : 9 ≤ kd) (h2 : kd ≤ 17) : mC E i kd j k = E kd j k := by
  have em : ∀ t, mkE E t kd j k = E kd j k := by
    intro t
    unfold mkE
    split
    · exact uV_k (by omega)
    · rfl
  have ec : clF E i kd j k = E kd j k := by
    have eg : ∀ t, guE E t kd j k = E kd j k := by
      intro t
      unfold guE
      split
      · exact uV_k (by omega)
      · rfl
    unfold clF
    split
    · rw [uV_i hj, eg]
    · exact eg _
  unfold mC
  split
  · unfold buE
    split
    · split
      · rw [uV_i hj, uV_i hj, uV_i hj]
      · rw [uV_i hj, uV_i hj]
    · rw [uV_i hj, em]
  · split
    · unfold drE
      split
      · rw [uV_i hj]
      · rw [uV_i hj, uV_i hj]
    · split
      · unfold clE
        split
        · exact ec
        · rw [uV_k (by omega), uV_i hj, uV_i hj, twV_n hj, ec]
      · rfl
theorem rB_sl {ρ : Nat → Int32} {E : VV} (h : rB ρ E) {i c k : Nat} (hi : i < eK E) (hc : c < 2) (h1 : 1 ≤ k) (h2 : k < eW E i c) : E (13 + 4 * c) i k = -1 ∨ ∃ t, t < 120 ∧ E (13 + 4 * c) i k = nn t := by
  rcases (h.2.1.2.2 i hi c hc).2.2.2 k h2 with ⟨a, -, -⟩ | ⟨f, l, hf, hl, e, -, -⟩
  · exact Or.inl a
  · exact Or.inr ⟨f * 12 + l, by omega, e⟩
section
variable {H : fm_H} {b : Nat} {m m00 : fm_M}
theorem rB_st {ρ : Nat → Int32} {E : VV} (h : rB ρ E) {i : Nat} (hi : i < eK E) : ρ (104 + 66 * i + 3) = stE E i := by
  rw [show 104 + 66 * i + 3 = 107 + 66 * i from by omega]
  exact (h.2.2 i hi).2.1
end
