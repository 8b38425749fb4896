/-! the reference's search -/
def tP (m : fm_M) (b n : Nat) (P : Nat → Nat) (d : Nat) : Prop := m.1 b 24 = nn n ∧ m.1 b 25 = nn d ∧ ∀ k, k < n → m.1 (b + 8) k = nn (P k)
def tB (m : fm_M) (b : Nat) (z : Bst) : Prop := m.1 b 26 = nn z.1 ∧ m.1 b 27 = nn z.2.1 ∧ ∀ k, k < z.1 → m.1 (b + 9) k = nn (z.2.2 k)
def tU (m : fm_M) (b L : Nat) (op : Nat → Bool) : Prop := ∀ j, j < L → m.1 (b + 10) j = bi (op j)
theorem rI_s {b a k : Nat} {m m0 : fm_M} {ρ : Nat → Int32} {x : Int32} (h : rI b m m0 ρ) (hk : (a = b ∧ 18 ≤ k) ∨ (b + 8 ≤ a ∧ a < b + 11)) : rI b m (fm_si m0 a k x) ρ := by
  refine ⟨?_, fR_tr h.2 ⟨fun c j _ h2 h3 => si_o (fun z => by rcases hk with q | q; exact h2 ⟨by omega, by omega⟩; exact h3 (by omega)), rfl⟩⟩
  rw [si_oth (by omega)]
  exact h.1
