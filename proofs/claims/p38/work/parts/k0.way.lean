/-! THE LAW: ways are so -/
theorem sn_ge {f : Nat → Nat} : ∀ {n a i : Nat}, a ≤ i → i < a + n → f i ≤ sn f a n
  | 0, a, i, h1, h2 => by omega
  | n + 1, a, i, h1, h2 => by
    unfold sn
    by_cases e : a = i
    · subst e
      omega
    · have := sn_ge (f := f) (n := n) (a := a + 1) (i := i) (by omega) (by omega)
      omega
section
variable {H : fm_H} {m : fm_M} {o x sc n T : Nat} {E : VV} {l : List (Nat → Int32)} {d : Nat → Nat} {sv : Nat → Option (VV × List (Nat → Int32))}
theorem q_w176 (hX : LX H o x sc) (hD : DS x T m E l n d sv) (hT : T ≤ 1000) {k18 : Int32 → Int32 → Int32 → Int32 → Int32 → Int32 → Int32 → fm_M → Option (Int32 × fm_M)} {v1 v2 v3 v4 v5 v6 s : Int32} {i a b : Nat} (hi : i < eK E) (ha : E 9 i 4 = nn a) (hb : E 9 i 5 = nn b) (hab : b ≤ a) (hB : a ≤ 8 * T) : f_L_waysAreSo_176 H k18 o v1 v2 v3 v4 v5 v6 (nn i) (E 9 i 2) (0 : Int32) s s m = k18 v1 v2 v3 v4 v5 v6 (nn (i + 1)) m := by
  have hx := hX.1
  have e0 := hX.2.2.1
  have hI := hD.2.2.2.2.2.1.1
  obtain ⟨w, w1, w2⟩ := (hI.1.2.2.2.1 i hi).2.1
  have c7 : f_L_circuit H x (nn i) (7 : Int32) m = some (nn a, m) := (L_circuit hx hD hi (y := 7) (by omega)).trans (congrArg (fun z => some (z, m)) ha)
  have c8 : f_L_circuit H x (nn i) (8 : Int32) m = some (nn b, m) := (L_circuit hx hD hi (y := 8) (by omega)).trans (congrArg (fun z => some (z, m)) hb)
  unfold f_L_waysAreSo_176
  rw [if_pos rfl, e0, L_ci6 hx hD hi, fb_n, w2, if_neg (show ¬ (9 : Int32) < nn w by rw [show (9 : Int32) = nn 9 from rfl, nn_lt (by omega) (by omega)]; omega), c7, fb_n, c8, fb_n, if_pos ((nn_le (by omega) (by omega)).mpr hab)]
  exact q_w225 hX hD hT hi
theorem q_w57 (hX : LX H o x sc) (hD : DS x T m E l n d sv) (hT : T ≤ 1000) {k18 : Int32 → Int32 → Int32 → Int32 → Int32 → Int32 → Int32 → fm_M → Option (Int32 × fm_M)} {v2 v3 v4 v5 v6 s0 s1 : Int32} {i : Nat} {p : Nat → Nat → Nat} (hi : i < eK E) (hp : ∀ w, w < 4 → E 9 i (4 + w) = nn (p i w)) (hab : p i 1 ≤ p i 0) (hB : p i 0 ≤ 8 * T) : f_L_waysAreSo_57 H k18 o v2 v3 v4 v5 v6 (nn i) (E 9 i 2) (0 : Int32) s0 s1 m = k18 (s1 + s0) (v2 + nn (p i 0)) (v3 + nn (p i 1)) (v4 + nn (p i 2)) (v5 + nn (p i 3)) (v6 + nn (cPk i l)) (nn (i + 1)) m := by
  have hx := hX.1
  have e0 := hX.2.2.1
  have hI := hD.2.2.2.2.2.1.1
  have hQ := hI.1.2.2.2.1 i hi
  have hph := ph_E hQ
  have hwy := (hI.1.2.1.2.2 i hi 1 (by omega)).1
  have c7 : f_L_circuit H x (nn i) (7 : Int32) m = some (nn (p i 0), m) := (L_circuit hx hD hi (y := 7) (by omega)).trans (congrArg (fun z => some (z, m)) (hp 0 (by omega)))
  have c8 : f_L_circuit H x (nn i) (8 : Int32) m = some (nn (p i 1), m) := (L_circuit hx hD hi (y := 8) (by omega)).trans (congrArg (fun z => some (z, m)) (hp 1 (by omega)))
  have c9 : f_L_circuit H x (nn i) (9 : Int32) m = some (nn (p i 2), m) := (L_circuit hx hD hi (y := 9) (by omega)).trans (congrArg (fun z => some (z, m)) (hp 2 (by omega)))
  have c10 : f_L_circuit H x (nn i) (10 : Int32) m = some (nn (p i 3), m) := (L_circuit hx hD hi (y := 10) (by omega)).trans (congrArg (fun z => some (z, m)) (hp 3 (by omega)))
  have c13 : f_L_circuit H x (nn i) (13 : Int32) m = some (nn (cPk i l), m) := (L_ci13 hx hD hi).trans (congrArg (fun z => some (nn z, m)) lc_P)
  have w0 : f_L_way H x (nn i) (1 : Int32) (0 : Int32) (0 : Int32) m = some (if 0 < eB E i then E 15 i 0 else -1, m) := (L_way hx hD hi (c := 1) (by omega) (k := 0) (by omega) (y := 0) (by omega)).trans rfl
  have w176 := fun {v1 v2 v3 v4 v5 v6 s : Int32} => q_w176 hX hD hT (k18 := k18) (v1 := v1) (v2 := v2) (v3 := v3) (v4 := v4) (v5 := v5) (v6 := v6) (s := s) hi (hp 0 (by omega)) (hp 1 (by omega)) hab hB
  unfold f_L_waysAreSo_57
  rw [e0, c7, fb_n, c8, fb_n, c9, fb_n, c10, fb_n, c13, fb_n, if_neg (show ¬ E 9 i 2 < 0 by rcases hph with e | e | e | e <;> rw [e] <;> decide), if_neg (show ¬ (3 : Int32) < E 9 i 2 by rcases hph with e | e | e | e <;> rw [e] <;> decide), w0, fb_n]
  by_cases z : E 9 i 2 = 0
  · have hB0 : eB E i = 0 := by
      rcases hQ.2.2.2.2 with y | y | y | y
      · exact y.2.1
      · exact absurd (z.symm.trans y.1) (by decide)
      · exact absurd (z.symm.trans y.1) (by decide)
      · exact absurd (z.symm.trans y.1) (by decide)
    rw [if_neg (show ¬ 0 < eB E i by omega), if_pos (show (-1 : Int32) < 0 by decide), if_pos (show E 9 i 2 ≤ 0 by rw [z]; decide)]
    exact w176
  · have hB2 : 2 ≤ eB E i := by
      rcases hQ.2.2.2.2 with y | y | y | y
      · exact absurd y.1 z
      · exact y.2.1
      · exact y.2.1
      · exact y.2.1
    obtain ⟨y, y1, y2⟩ := hwy.1 0 (show 0 < eB E i by omega)
    have y2' : E 15 i 0 = nn y := y2
    have hN10 := hI.1.1.2.2.2.2.1.1
    rw [if_pos (show 0 < eB E i by omega), y2', if_neg (show ¬ nn y < (0 : Int32) by rw [nl_0, nn_lt (by omega) (by omega)]; omega), if_neg (show ¬ E 9 i 2 ≤ 0 by rcases hph with e | e | e | e <;> first | exact absurd e z | (rw [e]; decide))]
    exact w176
theorem q_ways (hX : LX H o x sc) (hD : DS x T m E l n d sv) (hT : T ≤ 1000) : f_L_waysAreSo H o m = some (1, m) := by
  have hx := hX.1
  have e0 := hX.2.2.1
  have hJ := hD.2.2.2.2.2.1
  have hI := hJ.1
  have hK8 := hI.1.1.2.2.2.2.1.2.2.1
  obtain ⟨p, c, c1, c2, c3, c4, c5, c6⟩ := hJ.2.2.2.2.1
  have loop : ∀ (r q i : Nat), i + r = eK E → r < q → f_L_waysAreSo_18 H o q (nn (nc (fun i => decide (E 9 i 2 ≠ 0)) 0 i)) (nn (sn (fun i => p i 0) 0 i)) (nn (sn (fun i => p i 1) 0 i)) (nn (sn (fun i => p i 2) 0 i)) (nn (sn (fun i => p i 3) 0 i)) (nn (sn (fun i => cPk i l) 0 i)) (nn i) m = some (1, m) := by
    intro r
    induction r with
    | zero =>
      intro q i h1 h2
      obtain ⟨q, rfl⟩ : ∃ q', q = q' + 1 := ⟨q - 1, by omega⟩
      have ei : i = eK E := by omega
      subst ei
      unfold f_L_waysAreSo_18
      rw [e0, L_cK hx hD, fb_n, if_pos ((nn_le (by omega) (by omega)).mpr (Nat.le_refl _))]
      exact q_w590 hX hD hT c1 c2 c3 c4 c5 c6
    | succ r ih =>
      intro q i h1 h2
      obtain ⟨q, rfl⟩ : ∃ q', q = q' + 1 := ⟨q - 1, by omega⟩
      have hi : i < eK E := by omega
      have hQ := hI.1.2.2.2.1 i hi
      have hph := ph_E hQ
      have step := ih q (i + 1) (by omega) (by omega)
      rw [sn_la, sn_la, sn_la, sn_la, sn_la, nc_la, Nat.zero_add] at step
      have hp0 : p i 0 ≤ sn (fun i => p i 0) 0 (eK E) := sn_ge (f := fun i => p i 0) (by omega) (by omega)
      have w57 := fun {s0 : Int32} => q_w57 hX hD hT (k18 := f_L_waysAreSo_18 H o q) (v2 := nn (sn (fun i => p i 0) 0 i)) (v3 := nn (sn (fun i => p i 1) 0 i)) (v4 := nn (sn (fun i => p i 2) 0 i)) (v5 := nn (sn (fun i => p i 3) 0 i)) (v6 := nn (sn (fun i => cPk i l) 0 i)) (s0 := s0) (s1 := nn (nc (fun i => decide (E 9 i 2 ≠ 0)) 0 i)) (p := p) hi (fun w hw => c1 i w hi hw) (by
        have := (c2 i hi).1
        omega) (by omega)
      rw [nn_add, nn_add, nn_add, nn_add, nn_add] at w57
      unfold f_L_waysAreSo_18
      rw [e0, L_cK hx hD, fb_n, if_neg (show ¬ nn (eK E) ≤ nn i by rw [nn_le (by omega) (by omega)]; omega), L_ci4 hx hD hi, fb_n]
      by_cases z : E 9 i 2 = 0
      · rw [if_neg (show ¬ decide (E 9 i 2 ≠ 0) = true by rw [decide_eq_false (not_not_intro z)]; decide)] at step
        rw [if_pos (show E 9 i 2 ≤ 0 by rw [z]; decide)]
        refine (w57 (s0 := nn 0)).trans ?_
        rw [nn_add]
        exact step
      · rw [if_pos (decide_eq_true z)] at step
        rw [if_neg (show ¬ E 9 i 2 ≤ 0 by rcases hph with e | e | e | e <;> first | exact absurd e z | (rw [e]; decide))]
        refine (w57 (s0 := nn 1)).trans ?_
        rw [nn_add]
        exact step
  exact loop (eK E) fm_N 0 (by omega) (by unfold fm_N; omega)
end
