/-! the reference's tick is the class's -/
theorem ls_o {V : VV} {r : Nat → Int32} {i k : Nat} (h : k ≠ 6) : lsE V r 9 i k = V 9 i k := by
  unfold lsE
  split
  · rw [uV_p h, uV_k (by decide)]
  · exact uV_k (by decide)
theorem sH_q {V : VV} {i w h : Nat} (hw : w ≤ 9) (h3 : V 9 i 3 = nn w) (hh : h ≤ 1000) (h8 : V 9 i 8 = nn h) : (∀ k, k = 2 ∨ k = 9 ∨ k = 10 → (sH V i).1 9 i k = V 9 i k) ∧ (∃ w', w' ≤ 9 ∧ (sH V i).1 9 i 3 = nn w') ∧ (sH V i).1 9 i 8 = nn (h - 1) := by
  unfold sH
  by_cases e1 : V 9 i 8 ≤ 0
  · have h0 : h = 0 := by
      rw [h8, nl_0, nn_le (by omega) (by omega)] at e1
      omega
    subst h0
    rw [if_pos e1]
    by_cases e2 : V 9 i 3 ≤ 0
    · rw [if_pos e2]
      exact ⟨fun _ _ => rfl, ⟨w, hw, h3⟩, h8⟩
    · rw [if_neg e2]
      have w1 : 1 ≤ w := by
        rw [h3, nl_0, nn_le (by omega) (by omega)] at e2
        omega
      by_cases e3 : 60 ≤ V 0 0 6
      · rw [if_pos e3]
        exact ⟨fun _ _ => rfl, ⟨w, hw, h3⟩, h8⟩
      · rw [if_neg e3]
        have es : ∀ k, k ≠ 3 → k ≠ 4 → sdE V i 9 i k = V 9 i k := by
          intro k k3 k4
          unfold sdE
          rw [uV_k (by decide), uV_p k4, uV_p k3]
        have es3 : sdE V i 9 i 3 = nn (w - 1) := by
          unfold sdE
          rw [uV_k (by decide), uV_p (by decide), uV_s, h3, nl_1, nn_sub w1]
        have key : ∀ k, k ≠ 6 → (sP V i).1 9 i k = sdE V i 9 i k := by
          intro k hk
          unfold sP
          split
          · show uV (sdE V i) 0 0 6 (V 0 0 6 + 1) 9 i k = _
            rw [uV_k (by decide)]
          · exact ls_o hk
        refine ⟨fun k hk => ?_, ⟨w - 1, by omega, ?_⟩, ?_⟩
        · rw [key k (by omega), es k (by omega) (by omega)]
        · rw [key 3 (by decide), es3]
        · rw [key 8 (by decide), es 8 (by decide) (by decide)]
          exact h8
  · rw [if_neg e1]
    have h1 : 1 ≤ h := by
      rw [h8, nl_0, nn_le (by omega) (by omega)] at e1
      omega
    refine ⟨fun k hk => ?_, ⟨w, hw, ?_⟩, ?_⟩
    · show uV V 9 i 8 _ 9 i k = _
      rw [uV_p (by omega)]
    · show uV V 9 i 8 _ 9 i 3 = _
      rw [uV_p (by decide)]
      exact h3
    · show uV V 9 i 8 (V 9 i 8 - 1) 9 i 8 = _
      rw [uV_s, h8, nl_1, nn_sub h1]
theorem iQ_h {E : VV} {i dl : Nat} (hd : dl ≤ 1) (h : iQ E i dl) : ∃ x, x ≤ 1000 ∧ E 9 i 8 = nn x := by
  obtain ⟨-, -, -, -, q5⟩ := h
  rcases q5 with ⟨a1, a2, a3, a4, a5, a6⟩ | ⟨a1, a2, a3, a4, a5, a6⟩ | ⟨a1, a2, a3, ⟨d, e, d1, d2, d3, d4, d5⟩, a6⟩ | ⟨a1, a2, a3, a4, e, e1, e2⟩
  · exact ⟨0, by omega, a5.trans nl_0⟩
  · exact ⟨0, by omega, a5.trans nl_0⟩
  · exact ⟨e, by omega, d5⟩
  · exact ⟨e, by omega, e2⟩
theorem iQ_sF {E : VV} {i : Nat} (hQ : iQ E i 1) : iQ (sF E i).1 i 0 := by
  obtain ⟨w, w9, hw⟩ := hQ.2.1
  obtain ⟨x, x1, x2⟩ := iQ_h (Nat.le_refl 1) hQ
  have key : (∀ k, k = 2 ∨ k = 9 ∨ k = 10 → (sF E i).1 9 i k = E 9 i k) ∧ (∃ w', w' ≤ 9 ∧ (sF E i).1 9 i 3 = nn w') ∧ (sF E i).1 9 i 8 = nn (x - 1) := by
    unfold sF
    split
    · exact sH_q w9 hw x1 x2
    · split
      · have e9 : ∀ k, k ≠ 3 → bkE E i 1 9 i k = E 9 i k := fun k hk => by
          unfold bkE
          rw [uV_k (by decide), uV_p hk]
        have e3 : bkE E i 1 9 i 3 = nn (if w + 1 ≤ 9 then w + 1 else 9) := by
          unfold bkE
          rw [uV_k (by decide), uV_s, hw, nl_1, nn_add]
          exact (mnx (by omega)).1
        obtain ⟨g1, g2, g3⟩ := sH_q (V := bkE E i 1) (i := i) (w := if w + 1 ≤ 9 then w + 1 else 9) (h := x) (by split <;> omega) e3 x1 ((e9 8 (by decide)).trans x2)
        exact ⟨fun k hk => (g1 k hk).trans (e9 k (by omega)), g2, g3⟩
      · exact sH_q w9 hw x1 x2
  exact iQ_sd kS6_sF key.1 key.2.1 ⟨x, x2, x1, key.2.2⟩ hQ
theorem sA_S (E : VV) (j k : Nat) : sA E j (k + 1) = ((sA (sF E j).1 (j + 1) k).1, (sF E j).2 ++ (sA (sF E j).1 (j + 1) k).2) := rfl
