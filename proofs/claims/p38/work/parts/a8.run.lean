/-! ticks one after another; the reference copies -/
def tkM (E : VV) (l : List (Nat → Int32)) : Nat → VV × List (Nat → Int32)
  | 0 => (E, l)
  | n + 1 => tkM (tkE E l).1 (tkE E l).2 n
theorem tkM_S (E : VV) (l : List (Nat → Int32)) (n : Nat) : tkM E l (n + 1) = tkM (tkE E l).1 (tkE E l).2 n := rfl
theorem rP_cc {ρ ρ' : Nat → Int32} {l : List (Nat → Int32)} (h : rP ρ l) (e : ∀ k, k = 6 ∨ (632 ≤ k ∧ k < 1112) → ρ' k = ρ k) : rP ρ' l := by
  obtain ⟨p1, p2, p3⟩ := h
  refine ⟨(e 6 (by omega)).trans p1, p2, fun p r hr => ?_⟩
  have hp : p < l.length := (List.getElem?_eq_some_iff.mp hr).1
  obtain ⟨q0, q1, q2, q3, q4, q5, q6⟩ := p3 p r hr
  exact ⟨(e _ (by omega)).trans q0, (e _ (by omega)).trans q1, (e _ (by omega)).trans q2, (e _ (by omega)).trans q3, by rw [e _ (by omega), e _ (by omega)]; exact q4, (e _ (by omega)).trans q5, (e _ (by omega)).trans q6⟩
theorem rAll_c {ρ ρ' : Nat → Int32} {E : VV} {l : List (Nat → Int32)} (h : rAll ρ E l) (hG : vG E) (e : ∀ k, k < 1112 → ρ' k = ρ k) : rAll ρ' E l := ⟨rB_j h.1 hG (fun k k1 _ _ => e k (by omega)), rP_cc h.2 (fun k hk => e k (by omega))⟩
section
variable {H : fm_H} {b : Nat} {m m00 : fm_M}
/-- a row is copied -/
def cpM (m : fm_M) (a p d q j : Nat) : fm_M := (fun c k => if c = d ∧ q ≤ k ∧ k < q + j then m.1 a (k - q + p) else m.1 c k, m.2)
end
theorem iG_iA {E : VV} {l : List (Nat → Int32)} (hI : iG E l) : iA E := fun i hi => by
  obtain ⟨q1, q2, q3, q4, q5⟩ := hI.1.2.2.2.1 i hi
  refine ⟨q1, fun z => ?_⟩
  rcases q5 with h | h | h | h
  · exact absurd h.1 z
  · exact h.2.1
  · exact h.2.1
  · exact h.2.1
