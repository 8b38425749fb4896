/-! calls, side by side: saved states -/
section
variable {H : fm_H} {m m1 m2 m00 : fm_M} {Lo : Nat → Nat → Int32} {T T' x b s t n tn : Nat} {E : VV} {l : List (Nat → Int32)} {d tx : Nat → Nat} {sv : Nat → Option (VV × List (Nat → Int32))} {c p : Int32}
theorem kX_v (hX : kX H x) {i : Nat} (hi : i < 2) : kS H (x + 341 + 160 * i) := by
  have h : i = 0 ∨ i = 1 := by omega
  rcases h with h | h
  · subst h; exact hX.2.2.2.2.2.2.2.2.1
  · subst h; exact hX.2.2.2.2.2.2.2.2.2
theorem cS_a (h : cS m x sv) {i : Nat} (hi : i < 2) : m.2.1 (x + 19) i = x + 341 + 160 * i := by
  have e : i = 0 ∨ i = 1 := by omega
  rcases e with e | e
  · subst e; exact h.1.1
  · subst e; exact h.1.2
theorem cS_sp (h : cS m x sv) {i : Nat} (hi : i < 2) : sp m (x + 341 + 160 * i) := by
  rcases h.2 i hi with ⟨_, _, e⟩ | ⟨q, _, _, e⟩
  · exact e
  · exact sp_aS e
theorem nw_1 : fm_nw .boolean (1 : Int32) = 1 := by decide
end
