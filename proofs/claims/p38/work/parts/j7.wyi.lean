/-! THE LAW: ways are so, one circuit -/
section
variable {H : fm_H} {m : fm_M} {o x sc n T : Nat} {E : VV} {l : List (Nat → Int32)} {d : Nat → Nat} {sv : Nat → Option (VV × List (Nat → Int32))}
theorem fi_ex {p : Nat → Bool} : ∀ {k j : Nat}, fi p j k ≠ -1 → ∃ i, j ≤ i ∧ i < j + k ∧ p i = true := by
  intro k
  induction k with
  | zero => exact fun {j} h => absurd rfl h
  | succ k ih =>
    intro j h
    by_cases e : p j = true
    · exact ⟨j, by omega, by omega, e⟩
    · have : fi p j (k + 1) = fi p (j + 1) k := if_neg e
      rw [this] at h
      obtain ⟨i, i1, i2, i3⟩ := ih h
      exact ⟨i, by omega, by omega, i3⟩
theorem q_linked (hX : LX H o x sc) (hD : DS x T m E l n d sv) {u v : Int32} (h : lkE E u v ≠ -1) : f_L_areLinked H o u v m = some (1, m) := by
  have hx := hX.1
  have e0 := hX.2.2.1
  have hI := hD.2.2.2.2.2.1.1
  have hL16 := hI.1.1.2.2.2.2.1.2.1
  obtain ⟨j0, -, j1, j2⟩ := fi_ex h
  have j2' := of_decide_eq_true j2
  have loop : ∀ (r q k : Nat), k + r = eL E → r < q → k ≤ j0 → f_L_areLinked_2 H o u v q (nn k) m = some (1, m) := by
    intro r
    induction r with
    | zero =>
      intro q k h1 h2 h3
      omega
    | succ r ih =>
      intro q k h1 h2 h3
      obtain ⟨q, rfl⟩ : ∃ q', q = q' + 1 := ⟨q - 1, by omega⟩
      have l0 : f_L_link H x (nn k) (0 : Int32) m = some (E 3 k 0, m) := L_link hx hD (j := k) (by omega) (y := 0) (by omega)
      have l1 : f_L_link H x (nn k) (1 : Int32) m = some (E 3 k 1, m) := L_link hx hD (j := k) (by omega) (y := 1) (by omega)
      have nxt : k ≠ j0 → f_L_areLinked_2 H o u v q (nn k + 1) m = some (1, m) := fun e => by
        rw [nn_inc]
        exact ih q (k + 1) (by omega) (by omega) (by omega)
      have e40 : f_L_areLinked_40 H (f_L_areLinked_2 H o u v q) o u v (nn k) m = some (1, m) ∨ (k = j0 ∧ E 3 k 0 = u ∧ E 3 k 1 = v) := by
        unfold f_L_areLinked_40
        rw [e0, l0, fb_n]
        by_cases z : E 3 k 0 = v
        · rw [if_pos z, l1, fb_n]
          by_cases z2 : E 3 k 1 = u
          · rw [if_pos z2]
            exact Or.inl rfl
          · rw [if_neg z2]
            by_cases e : k = j0
            · subst e
              rcases j2' with y | y
              · exact Or.inr ⟨rfl, y⟩
              · exact absurd y.2 z2
            · exact Or.inl (nxt e)
        · rw [if_neg z]
          by_cases e : k = j0
          · subst e
            rcases j2' with y | y
            · exact Or.inr ⟨rfl, y⟩
            · exact absurd y.1 z
          · exact Or.inl (nxt e)
      unfold f_L_areLinked_2
      rw [e0, L_cL hx hD, fb_n, if_neg (show ¬ nn (eL E) ≤ nn k by rw [nn_le (by omega) (by omega)]; omega), l0, fb_n]
      rcases e40 with y | ⟨y1, y2, y3⟩
      · by_cases z : E 3 k 0 = u
        · rw [if_pos z, l1, fb_n]
          by_cases z2 : E 3 k 1 = v
          · rw [if_pos z2]
          · rw [if_neg z2]
            exact y
        · rw [if_neg z]
          exact y
      · rw [if_pos y2, l1, fb_n, if_pos y3]
  exact loop (eL E) fm_N 0 (by omega) (by unfold fm_N; omega) (by omega)
theorem lbS_0 {w : Int32} (h : w ≠ -1) : (0 : Int32) ≤ lbS w := by
  unfold lbS
  rw [if_neg h, nl_0]
  have := Nat.mod_lt w.toInt.toNat (show 12 > 0 by omega)
  exact (nn_le (by omega) (by omega)).mpr (by omega)
/-- one way is walked along -/
theorem q_w237 (hX : LX H o x sc) (hD : DS x T m E l n d sv) {k18 : Int32 → Int32 → Int32 → Int32 → Int32 → Int32 → Int32 → fm_M → Option (Int32 × fm_M)} {k225 : Int32 → Int32 → fm_M → Option (Int32 × fm_M)} {v1 v2 v3 v4 v5 v6 : Int32} {i c N0 : Nat} (hi : i < eK E) (hc : c < 2) : ∀ (r q k : Nat), k + r = eW E i c → r < q → f_L_waysAreSo_237 H k18 k225 o v1 v2 v3 v4 v5 v6 (nn i) (E 9 i 2) (nn c) q (nn (N0 + k)) (if k = 0 then -1 else E (11 + 4 * c) i (k - 1)) (nn k) m = k225 (nn (N0 + eW E i c)) (nn c + 1) m := by
  have hx := hX.1
  have e0 := hX.2.2.1
  have hJ := hD.2.2.2.2.2.1
  have hI := hJ.1
  have hN := hD.2.2.2.2.1.1
  have h00 := hD.2.2.2.2.2.2
  have hK8 := hI.1.1.2.2.2.2.1.2.2.1
  have hN10 := hI.1.1.2.2.2.2.1.1
  have h6 := eW_6 hI.1.1 (i := i) (by omega) hc
  have hQ := hI.1.2.2.2.1 i hi
  have hph := ph_E hQ
  have hA2 := hQ.1
  have hwy := (hI.1.2.1.2.2 i hi c hc).1
  have wa := fun {k y : Nat} (hk : k < 100) (hy : y ≤ 2) => L_way hx hD hi hc (k := k) hk (y := y) hy
  have ci0 : f_L_circuit H x (nn i) (0 : Int32) m = some (E 11 i 0, m) := L_circuit hx hD hi (y := 0) (by omega)
  have ci1 : f_L_circuit H x (nn i) (1 : Int32) m = some (E 11 i (eA E i - 1), m) := L_circuit hx hD hi (y := 1) (by omega)
  intro r
  induction r with
  | zero =>
    intro q k h1 h2
    obtain ⟨q, rfl⟩ : ∃ q', q = q' + 1 := ⟨q - 1, by omega⟩
    have ek : k = eW E i c := by omega
    have wk : f_L_way H x (nn i) (nn c) (nn k) (0 : Int32) m = some (-1, m) := (wa (k := k) (by omega) (y := 0) (by omega)).trans (by
      unfold wayE
      rw [if_neg (by omega)])
    have e254 : f_L_waysAreSo_254 H k18 k225 (f_L_waysAreSo_237 H k18 k225 o v1 v2 v3 v4 v5 v6 (nn i) (E 9 i 2) (nn c) q) o v1 v2 v3 v4 v5 v6 (nn i) (E 9 i 2) (nn (N0 + k)) (nn c) (if k = 0 then -1 else E (11 + 4 * c) i (k - 1)) (nn k) (nn c) (nn i) x m = k225 (nn (N0 + eW E i c)) (nn c + 1) m := by
      unfold f_L_waysAreSo_254
      rw [wk, fb_n, if_pos (show (-1 : Int32) < 0 by decide), e0, ci1, fb_n, ← ek]
      rcases (show c = 0 ∨ c = 1 by omega) with q | q
      · subst q
        have w0 : f_L_way H x (nn i) (0 : Int32) (0 : Int32) (0 : Int32) m = some (E 11 i 0, m) := (wa (k := 0) (by omega) (y := 0) (by omega)).trans (by
          unfold wayE
          rw [if_pos (show 0 < eW E i 0 from show 0 < eA E i by omega)]
          rfl)
        have ek' : k = eA E i := ek
        rw [if_pos (show nn 0 = 0 from rfl), if_pos (show (if k = 0 then -1 else E (11 + 4 * 0) i (k - 1)) = E 11 i (eA E i - 1) by rw [if_neg (by omega), ek']), w0, fb_n, ci0, fb_n, if_pos rfl]
      · subst q
        rw [if_neg (show ¬ nn 1 = 0 by decide)]
        by_cases p : E 9 i 2 = 0
        · rw [if_pos (show E 9 i 2 ≤ 0 by rw [p]; decide)]
        · have hB : eB E i ≠ 0 := by
            rcases hQ.2.2.2.2 with y | y | y | y
            · exact absurd y.1 p
            · have := y.2.1
              omega
            · have := y.2.1
              omega
            · have := y.2.1
              omega
          obtain ⟨n1, n2⟩ := hN i hi hB
          have ek' : k = eB E i := ek
          have w0 : f_L_way H x (nn i) (1 : Int32) (0 : Int32) (0 : Int32) m = some (E 15 i 0, m) := (wa (k := 0) (by omega) (y := 0) (by omega)).trans (by
            unfold wayE
            rw [if_pos (show 0 < eW E i 1 from show 0 < eB E i by omega)]
            rfl)
          rw [if_neg (show ¬ E 9 i 2 ≤ 0 by rcases hph with e | e | e | e <;> first | exact absurd e p | (rw [e]; decide)), fb_n, if_pos (show (if k = 0 then -1 else E (11 + 4 * 1) i (k - 1)) = E 11 i (eA E i - 1) by rw [if_neg (by omega), ek']; exact n2), w0, fb_n, ci0, fb_n, if_pos n1]
    unfold f_L_waysAreSo_237
    rw [e0]
    rcases (show c = 0 ∨ c = 1 by omega) with q | q
    · subst q
      rw [if_neg (show ¬ nn 0 = 1 by decide)]
      exact e254
    · subst q
      rw [if_pos (show nn 1 = 1 from rfl)]
      exact e254
  | succ r ih =>
    intro q k h1 h2
    obtain ⟨q, rfl⟩ : ∃ q', q = q' + 1 := ⟨q - 1, by omega⟩
    have hk : k < eW E i c := by omega
    obtain ⟨y, y1, y2⟩ := hwy.1 k hk
    have step := ih q (k + 1) (by omega) (by omega)
    rw [if_neg (by omega), show k + 1 - 1 = k by omega, ← Nat.add_assoc] at step
    have w0 : f_L_way H x (nn i) (nn c) (nn k) (0 : Int32) m = some (nn y, m) := (wa (k := k) (by omega) (y := 0) (by omega)).trans (by
      unfold wayE
      rw [if_pos hk, if_pos rfl, y2])
    have w2 : f_L_way H x (nn i) (nn c) (nn k) (2 : Int32) m = some (lbS (E (13 + 4 * c) i k), m) := (wa (k := k) (by omega) (y := 2) (by omega)).trans (by
      unfold wayE
      rw [if_pos hk, if_neg (by decide), if_neg (by decide)])
    rw [y2] at step
    have fin : f_L_waysAreSo_237 H k18 k225 o v1 v2 v3 v4 v5 v6 (nn i) (E 9 i 2) (nn c) q (nn (N0 + k) + 1) (nn y) (nn k + 1) m = k225 (nn (N0 + eW E i c)) (nn c + 1) m := by
      rw [nn_inc, nn_inc]
      exact step
    have e385 : f_L_waysAreSo_385 H k18 k225 (f_L_waysAreSo_237 H k18 k225 o v1 v2 v3 v4 v5 v6 (nn i) (E 9 i 2) (nn c) q) o v1 v2 v3 v4 v5 v6 (nn i) (E 9 i 2) (nn (N0 + k)) (nn c) (if k = 0 then -1 else E (11 + 4 * c) i (k - 1)) (nn k) (nn y) m = k225 (nn (N0 + eW E i c)) (nn c + 1) m := by
      unfold f_L_waysAreSo_385
      by_cases z : k = 0
      · rw [if_pos (show nn k ≤ 0 by rw [z]; decide)]
        exact fin
      · rw [if_neg (show ¬ nn k ≤ 0 by rw [nl_0, nn_le (by omega) (by omega)]; omega), if_neg z, q_linked hX hD (by
          have := (hwy.2.1 k (by omega) hk).2
          rw [y2] at this
          exact this), fb_n, if_neg (show ¬ (1 : Int32) = 0 by decide)]
        exact fin
    have had : 1 ≤ k → (E 9 i 2 = 3 → c = 1) → E (13 + 4 * c) i k ≠ -1 := fun k1 hp => sl_had hQ hc k1 hk hp
    have e346 : f_L_waysAreSo_346 H k18 k225 (f_L_waysAreSo_237 H k18 k225 o v1 v2 v3 v4 v5 v6 (nn i) (E 9 i 2) (nn c) q) o v1 v2 v3 v4 v5 v6 (nn i) (E 9 i 2) (nn (N0 + k)) (nn c) (if k = 0 then -1 else E (11 + 4 * c) i (k - 1)) (nn k) (nn y) m = k225 (nn (N0 + eW E i c)) (nn c + 1) m := by
      unfold f_L_waysAreSo_346
      by_cases z : k = 0
      · rw [if_pos (show nn k ≤ 0 by rw [z]; decide)]
        exact e385
      · rw [if_neg (show ¬ nn k ≤ 0 by rw [nl_0, nn_le (by omega) (by omega)]; omega)]
        by_cases p : E 9 i 2 = 3
        · rw [if_pos (show (3 : Int32) ≤ E 9 i 2 by rw [p]; decide)]
          exact e385
        · rw [if_neg (show ¬ (3 : Int32) ≤ E 9 i 2 by rcases hph with e | e | e | e <;> first | exact absurd e p | (rw [e]; decide)), e0]
          have hl := lbS_0 (had (by omega) (fun e => absurd e p))
          rcases (show c = 0 ∨ c = 1 by omega) with q | q
          · subst q
            have w2' : f_L_way H x (nn i) (0 : Int32) (nn k) (2 : Int32) m = some (lbS (E (13 + 4 * 0) i k), m) := w2
            rw [if_neg (show ¬ nn 0 = 1 by decide), w2', fb_n, if_pos hl]
            exact e385
          · subst q
            have w2' : f_L_way H x (nn i) (1 : Int32) (nn k) (2 : Int32) m = some (lbS (E (13 + 4 * 1) i k), m) := w2
            rw [if_pos (show nn 1 = 1 from rfl), w2', fb_n, if_pos hl]
            exact e385
    have e319 : f_L_waysAreSo_319 H k18 k225 (f_L_waysAreSo_237 H k18 k225 o v1 v2 v3 v4 v5 v6 (nn i) (E 9 i 2) (nn c) q) o v1 v2 v3 v4 v5 v6 (nn i) (E 9 i 2) (nn (N0 + k)) (nn c) (if k = 0 then -1 else E (11 + 4 * c) i (k - 1)) (nn k) (nn y) m = k225 (nn (N0 + eW E i c)) (nn c + 1) m := by
      unfold f_L_waysAreSo_319
      by_cases z : k = 0
      · rw [if_pos (show nn k ≤ 0 by rw [z]; decide)]
        exact e346
      · rw [if_neg (show ¬ nn k ≤ 0 by rw [nl_0, nn_le (by omega) (by omega)]; omega)]
        rcases (show c = 0 ∨ c = 1 by omega) with q | q
        · subst q
          rw [if_neg (show ¬ nn 0 = 1 by decide)]
          exact e346
        · subst q
          have hl := lbS_0 (had (by omega) (fun _ => rfl))
          rw [if_pos (show nn 1 = 1 from rfl), e0]
          have w2' : f_L_way H x (nn i) (1 : Int32) (nn k) (2 : Int32) m = some (lbS (E (13 + 4 * 1) i k), m) := w2
          rw [w2', fb_n, if_neg (show ¬ lbS (E (13 + 4 * 1) i k) < 0 from fun q => by
            rw [Int32.lt_iff_toInt_lt] at q
            rw [Int32.le_iff_toInt_le] at hl
            omega)]
          exact e346
    have e280 : f_L_waysAreSo_280 H k18 k225 (f_L_waysAreSo_237 H k18 k225 o v1 v2 v3 v4 v5 v6 (nn i) (E 9 i 2) (nn c) q) o v1 v2 v3 v4 v5 v6 (nn i) (E 9 i 2) (nn (N0 + k)) (nn c) (if k = 0 then -1 else E (11 + 4 * c) i (k - 1)) (nn k) (nn c) (nn i) x m = k225 (nn (N0 + eW E i c)) (nn c + 1) m := by
      unfold f_L_waysAreSo_280
      rw [w0, fb_n]
      by_cases z : k = 0
      · have w1 : f_L_way H x (nn i) (nn c) (0 : Int32) (1 : Int32) m = some (-1, m) := (wa (k := 0) (by omega) (y := 1) (by omega)).trans (by
          unfold wayE
          rw [if_pos (by omega), if_neg (by decide), if_pos rfl, h00 i c hi hc (by omega)]
          rfl)
        rw [if_pos (show nn k = 0 by rw [z]; rfl), e0]
        rcases (show c = 0 ∨ c = 1 by omega) with q | q
        · subst q
          have w1' : f_L_way H x (nn i) (0 : Int32) (0 : Int32) (1 : Int32) m = some (-1, m) := w1
          rw [if_neg (show ¬ nn 0 = 1 by decide), w1', fb_n, if_pos rfl]
          exact e319
        · subst q
          have w1' : f_L_way H x (nn i) (1 : Int32) (0 : Int32) (1 : Int32) m = some (-1, m) := w1
          rw [if_pos (show nn 1 = 1 from rfl), w1', fb_n, if_pos rfl]
          exact e319
      · rw [if_neg (show ¬ nn k = 0 from fun e => z (nn_e (by omega) (by omega) (e.trans nl_0)))]
        exact e319
    have e254 : f_L_waysAreSo_254 H k18 k225 (f_L_waysAreSo_237 H k18 k225 o v1 v2 v3 v4 v5 v6 (nn i) (E 9 i 2) (nn c) q) o v1 v2 v3 v4 v5 v6 (nn i) (E 9 i 2) (nn (N0 + k)) (nn c) (if k = 0 then -1 else E (11 + 4 * c) i (k - 1)) (nn k) (nn c) (nn i) x m = k225 (nn (N0 + eW E i c)) (nn c + 1) m := by
      unfold f_L_waysAreSo_254
      rw [w0, fb_n, if_neg (show ¬ nn y < (0 : Int32) by rw [nl_0, nn_lt (by omega) (by omega)]; omega), e0]
      rcases (show c = 0 ∨ c = 1 by omega) with q | q
      · subst q
        rw [if_neg (show ¬ nn 0 = 1 by decide)]
        exact e280
      · subst q
        rw [if_pos (show nn 1 = 1 from rfl)]
        exact e280
    unfold f_L_waysAreSo_237
    rw [e0]
    rcases (show c = 0 ∨ c = 1 by omega) with q | q
    · subst q
      rw [if_neg (show ¬ nn 0 = 1 by decide)]
      exact e254
    · subst q
      rw [if_pos (show nn 1 = 1 from rfl)]
      exact e254
end
