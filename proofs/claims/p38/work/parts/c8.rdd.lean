/-! calls, side by side: means, usage, drafts -/
theorem su_B {f : Nat → Int32} {B : Nat} : ∀ {n j : Nat}, (∀ k, j ≤ k → k < j + n → ∃ d, d ≤ B ∧ f k = nn d) → ∃ D, D ≤ n * B ∧ su f j n = nn D := by
  intro n
  induction n with
  | zero => exact fun _ => ⟨0, by omega, nl_0⟩
  | succ n ih =>
    intro j h
    obtain ⟨D, d1, d2⟩ := ih (j := j + 1) (fun k k1 k2 => h k (by omega) (by omega))
    obtain ⟨e, e1, e2⟩ := h j (by omega) (by omega)
    refine ⟨e + D, by rw [Nat.succ_mul]; omega, ?_⟩
    show f j + su f (j + 1) n = _
    rw [d2, e2, nn_add]
theorem su_ge {f : Nat → Int32} : ∀ {n j : Nat}, n ≤ 100 → (∀ k, j ≤ k → k < j + n → ∃ d, 1 ≤ d ∧ d ≤ 99 ∧ f k = nn d) → ∃ D, n ≤ D ∧ D ≤ 99 * n ∧ su f j n = nn D := by
  intro n
  induction n with
  | zero => exact fun _ _ => ⟨0, by omega, by omega, nl_0⟩
  | succ n ih =>
    intro j hn h
    obtain ⟨D, d0, d1, d2⟩ := ih (j := j + 1) (by omega) (fun k k1 k2 => h k (by omega) (by omega))
    obtain ⟨e, e0, e1, e2⟩ := h j (by omega) (by omega)
    refine ⟨e + D, by omega, by omega, ?_⟩
    show f j + su f (j + 1) n = _
    rw [d2, e2, nn_add]
theorem rsv_B {E : VV} {x e : Int32} (hS : iS E) (h8 : eK E ≤ 8) : ∃ D, D ≤ 160 ∧ rsv E (eK E) (eA E) (eB E) x e = nn D := by
  obtain ⟨D, d1, d2⟩ := su_B (f := fun i => if ii i = e then 0 else if us E (eA E) (eB E) i x = true then E 9 i 0 else 0) (B := 20) (n := eK E) (j := 0) (fun i _ hi => by
    split
    · exact ⟨0, by omega, nl_0⟩
    · split
      · exact hS.2.2.2.1 i (by omega)
      · exact ⟨0, by omega, nl_0⟩)
  exact ⟨D, by omega, d2⟩
section
variable {H : fm_H} {m m0 m1 m2 m00 : fm_M} {Lo : Nat → Nat → Int32} {T T' x b s t n tn : Nat} {E : VV} {l : List (Nat → Int32)} {d tx : Nat → Nat} {sv : Nat → Option (VV × List (Nat → Int32))} {c p : Int32}
/-- the draft with a node more -/
def apD (n f : Nat) (d : Nat → Nat) : Nat → Nat := fun k => if k = n then f else d k
theorem apD_s {n f : Nat} {d : Nat → Nat} : apD n f d n = f := if_pos rfl
theorem apD_o {n f k : Nat} {d : Nat → Nat} (h : k ≠ n) : apD n f d k = d k := if_neg h
theorem ny_c2 {f g : Nat → Bool} {k j : Nat} (h : ∀ i, j ≤ i → i < j + k → f i = g i) : ny f j k = ny g j k := ny_c h
end
