/-! THE LAW: the walk over the labels -/
section
variable {H : fm_H} {m : fm_M} {o x sc n T : Nat} {E : VV} {l : List (Nat → Int32)} {d : Nat → Nat} {sv : Nat → Option (VV × List (Nat → Int32))}
theorem bi_or0 {b : Bool} : (bi b ||| (0 : Int32)) = bi b := by cases b <;> decide
theorem bi_or1 {b : Bool} : (bi b ||| (1 : Int32)) = bi true := by cases b <;> decide
theorem q_l172 (hX : LX H o x sc) (hD : DS x T m E l n d sv) {k6 : Int32 → Int32 → Int32 → fm_M → Option (Int32 × fm_M)} {k30 : Int32 → Int32 → Int32 → Int32 → Int32 → fm_M → Option (Int32 × fm_M)} {v1 v2 v4 v5 v6 : Int32} {f g i c k0 u : Nat} (hi : i < eK E) (hc : c < 2) (hk1 : 1 ≤ k0) (hk5 : k0 ≤ 5) (e0' : wayE E i c k0 0 = nn u) (e1' : wayE E i c k0 1 = nn f) (e2' : wayE E i c k0 2 = nn g) : ∀ (r q k : Nat) (fl : Bool), k + r = 6 → r < q → 1 ≤ k → (fl = true ∨ k ≤ k0) → f_L_labelsAreSo_172 H k6 k30 o v1 v2 (nn f) v4 v5 v6 (nn g) (nn u) (nn i) (nn c) q (bi fl) (nn k) m = k30 v2 v4 v5 v6 (nn (g + 1)) m := by
  have hx := hX.1
  have e0 := hX.2.2.1
  intro r
  induction r with
  | zero =>
    intro q k fl h1 h2 h3 h4
    obtain ⟨q, rfl⟩ : ∃ q', q = q' + 1 := ⟨q - 1, by omega⟩
    have efl : fl = true := by
      rcases h4 with e | e
      · exact e
      · omega
    subst efl
    unfold f_L_labelsAreSo_172
    rw [if_pos (show (6 : Int32) ≤ nn k from (nn_le (a := 6) (by omega) (by omega)).mpr (by omega)), if_neg (show ¬ bi true = 0 by decide), nn_inc]
  | succ r ih =>
    intro q k fl h1 h2 h3 h4
    obtain ⟨q, rfl⟩ : ∃ q', q = q' + 1 := ⟨q - 1, by omega⟩
    have w0 : f_L_way H x (nn i) (nn c) (nn k) (0 : Int32) m = some (wayE E i c k 0, m) := L_way hx hD hi hc (k := k) (by omega) (y := 0) (by omega)
    have w1 : f_L_way H x (nn i) (nn c) (nn k) (1 : Int32) m = some (wayE E i c k 1, m) := L_way hx hD hi hc (k := k) (by omega) (y := 1) (by omega)
    have w2 : f_L_way H x (nn i) (nn c) (nn k) (2 : Int32) m = some (wayE E i c k 2, m) := L_way hx hD hi hc (k := k) (by omega) (y := 2) (by omega)
    have nxt : ∀ b : Bool, (b = true ∨ k ≠ k0 ∧ b = fl) → f_L_labelsAreSo_172 H k6 k30 o v1 v2 (nn f) v4 v5 v6 (nn g) (nn u) (nn i) (nn c) q (bi b) (nn k + 1) m = k30 v2 v4 v5 v6 (nn (g + 1)) m := fun b hb => by
      rw [nn_inc]
      refine ih q (k + 1) b (by omega) (by omega) (by omega) ?_
      rcases hb with e | ⟨e1, e2⟩
      · exact Or.inl e
      · rw [e2]
        rcases h4 with e | e
        · exact Or.inl e
        · exact Or.inr (by omega)
    have miss : ∀ y, (y = 0 ∧ wayE E i c k 0 ≠ nn u) ∨ (y = 1 ∧ wayE E i c k 1 ≠ nn f) ∨ (y = 2 ∧ wayE E i c k 2 ≠ nn g) → k ≠ k0 := fun y hy e => by
      subst e
      rcases hy with ⟨_, z⟩ | ⟨_, z⟩ | ⟨_, z⟩
      · exact z e0'
      · exact z e1'
      · exact z e2'
    have e253 : f_L_labelsAreSo_253 H k6 k30 (f_L_labelsAreSo_172 H k6 k30 o v1 v2 (nn f) v4 v5 v6 (nn g) (nn u) (nn i) (nn c) q) o v1 v2 (nn f) v4 v5 v6 (nn g) (nn u) (nn i) (nn c) (nn k) (nn c) (nn i) x (bi fl) m = k30 v2 v4 v5 v6 (nn (g + 1)) m := by
      unfold f_L_labelsAreSo_253
      rw [w2, fb_n]
      by_cases z : wayE E i c k 2 = nn g
      · rw [if_pos z, bi_or1]
        exact nxt true (Or.inl rfl)
      · rw [if_neg z, bi_or0]
        exact nxt fl (Or.inr ⟨miss 2 (Or.inr (Or.inr ⟨rfl, z⟩)), rfl⟩)
    have e226 : f_L_labelsAreSo_226 H k6 k30 (f_L_labelsAreSo_172 H k6 k30 o v1 v2 (nn f) v4 v5 v6 (nn g) (nn u) (nn i) (nn c) q) o v1 v2 (nn f) v4 v5 v6 (nn g) (nn u) (nn i) (nn c) (nn k) (nn c) (nn i) x (bi fl) m = k30 v2 v4 v5 v6 (nn (g + 1)) m := by
      unfold f_L_labelsAreSo_226
      rw [w1, fb_n, e0]
      by_cases z : wayE E i c k 1 = nn f
      · rw [if_pos z]
        rcases (show c = 0 ∨ c = 1 by omega) with q | q
        · subst q
          rw [if_neg (show ¬ nn 0 = 1 by decide)]
          exact e253
        · subst q
          rw [if_pos (show nn 1 = 1 from rfl)]
          exact e253
      · rw [if_neg z, bi_or0]
        exact nxt fl (Or.inr ⟨miss 1 (Or.inr (Or.inl ⟨rfl, z⟩)), rfl⟩)
    have e198 : f_L_labelsAreSo_198 H k6 k30 (f_L_labelsAreSo_172 H k6 k30 o v1 v2 (nn f) v4 v5 v6 (nn g) (nn u) (nn i) (nn c) q) o v1 v2 (nn f) v4 v5 v6 (nn g) (nn u) (nn i) (nn c) (nn k) (nn c) (nn i) x (bi fl) m = k30 v2 v4 v5 v6 (nn (g + 1)) m := by
      unfold f_L_labelsAreSo_198
      rw [w0, fb_n, e0]
      by_cases z : wayE E i c k 0 = nn u
      · rw [if_pos z]
        rcases (show c = 0 ∨ c = 1 by omega) with q | q
        · subst q
          rw [if_neg (show ¬ nn 0 = 1 by decide)]
          exact e226
        · subst q
          rw [if_pos (show nn 1 = 1 from rfl)]
          exact e226
      · rw [if_neg z, bi_or0]
        exact nxt fl (Or.inr ⟨miss 0 (Or.inl ⟨rfl, z⟩), rfl⟩)
    unfold f_L_labelsAreSo_172
    rw [if_neg (show ¬ (6 : Int32) ≤ nn k by rw [show (6 : Int32) = nn 6 from rfl, nn_le (by omega) (by omega)]; omega), e0]
    rcases (show c = 0 ∨ c = 1 by omega) with q | q
    · subst q
      rw [if_neg (show ¬ nn 0 = 1 by decide)]
      exact e198
    · subst q
      rw [if_pos (show nn 1 = 1 from rfl)]
      exact e198
theorem q_l30 (hX : LX H o x sc) (hD : DS x T m E l n d sv) {k6 : Int32 → Int32 → Int32 → fm_M → Option (Int32 × fm_M)} {f L1 M : Nat} (hf : f < eN E) : ∀ (r q g : Nat), g + r = eZ E f → r < q → f_L_labelsAreSo_30 H k6 o (nn L1) (nn f) q (nn (M + nc (fun l => decide (E 5 0 (f * 12 + l) ≠ -1) && decide (E 7 0 (f * 12 + l) = 1)) 0 g)) (nn (nc (fun l => decide (E 5 0 (f * 12 + l) = -1)) 0 g)) (nn (nc (fun l => decide (E 5 0 (f * 12 + l) = nn f)) 0 g)) (nn (nc (fun l => decide (E 5 0 (f * 12 + l) ≠ -1) && !decide (E 5 0 (f * 12 + l) = nn f)) 0 g)) (nn g) m = k6 (nn (L1 + loE E f)) (nn (M + mdF E f)) (nn (f + 1)) m := by
  have hx := hX.1
  have e0 := hX.2.2.1
  have hJ := hD.2.2.2.2.2.1
  have hI := hJ.1
  have hiX := hI.1.2.1
  have hN10 := hI.1.1.2.2.2.2.1.1
  have hK8 := hI.1.1.2.2.2.2.1.2.2.1
  have hz12 := eZ_12 hI.1.1 f (by omega)
  have n0 : f_L_node H x (nn f) (0 : Int32) m = some (nn (eZ E f), m) := (L_node hx hD hf (y := 0) (by omega)).trans (congrArg (fun z => some (z, m)) ((hI.1.1.2.2.2.2.2.1 f (by omega)).1))
  have n1 : f_L_node H x (nn f) (1 : Int32) m = some (nn (hl E f (eZ E f) (-1)), m) := L_node hx hD hf (y := 1) (by omega)
  have n2 : f_L_node H x (nn f) (2 : Int32) m = some (nn (hl E f (eZ E f) (nn f)), m) := L_node hx hD hf (y := 2) (by omega)
  have n3 : f_L_node H x (nn f) (3 : Int32) m = some (nn (loE E f), m) := L_node hx hD hf (y := 3) (by omega)
  intro r
  induction r with
  | zero =>
    intro q g h1 h2
    obtain ⟨q, rfl⟩ : ∃ q', q = q' + 1 := ⟨q - 1, by omega⟩
    have eg : g = eZ E f := by omega
    subst eg
    have sum := lo_i (E := E) (f := f) (by omega)
    unfold f_L_labelsAreSo_30
    rw [e0, n0, fb_n, if_pos ((nn_le (by omega) (by omega)).mpr (Nat.le_refl _)), n1, fb_n, if_pos (show nn (nc (fun l => decide (E 5 0 (f * 12 + l) = -1)) 0 (eZ E f)) = nn (hl E f (eZ E f) (-1)) from rfl), n2, fb_n, if_pos (show nn (nc (fun l => decide (E 5 0 (f * 12 + l) = nn f)) 0 (eZ E f)) = nn (hl E f (eZ E f) (nn f)) from rfl), n3, fb_n, if_pos (show nn (nc (fun l => decide (E 5 0 (f * 12 + l) ≠ -1) && !decide (E 5 0 (f * 12 + l) = nn f)) 0 (eZ E f)) = nn (loE E f) from rfl), n0, fb_n, nn_add, nn_add, nn_add, nn_inc]
    have es : hl E f (eZ E f) (-1) + hl E f (eZ E f) (nn f) + loE E f = eZ E f := by
      rw [show nn f = ii f from rfl]
      omega
    rw [if_pos (show nn (nc (fun l => decide (E 5 0 (f * 12 + l) = -1)) 0 (eZ E f) + nc (fun l => decide (E 5 0 (f * 12 + l) = nn f)) 0 (eZ E f) + nc (fun l => decide (E 5 0 (f * 12 + l) ≠ -1) && !decide (E 5 0 (f * 12 + l) = nn f)) 0 (eZ E f)) = nn (eZ E f) from congrArg nn es)]
    rfl
  | succ r ih =>
    intro q g h1 h2
    obtain ⟨q, rfl⟩ : ∃ q', q = q' + 1 := ⟨q - 1, by omega⟩
    have hg : g < eZ E f := by omega
    have ht : f * 12 + g < 120 := by omega
    have step := ih q (g + 1) (by omega) (by omega)
    rw [nc_la, nc_la, nc_la, nc_la, Nat.zero_add] at step
    have lb := fun {y : Nat} (hy : y ≤ 3) => L_label hx hD hf hg (y := y) hy
    unfold f_L_labelsAreSo_30
    rw [e0, n0, fb_n, if_neg (show ¬ nn (eZ E f) ≤ nn g by rw [nn_le (by omega) (by omega)]; omega)]
    by_cases z : E 5 0 (f * 12 + g) = -1
    · have a0 : f_L_label H x (nn f) (nn g) (0 : Int32) m = some (-1, m) := (lb (y := 0) (by omega)).1 z
      have a1 : f_L_label H x (nn f) (nn g) (1 : Int32) m = some (-1, m) := (lb (y := 1) (by omega)).1 z
      have a2 : f_L_label H x (nn f) (nn g) (2 : Int32) m = some (-1, m) := (lb (y := 2) (by omega)).1 z
      have a3 : f_L_label H x (nn f) (nn g) (3 : Int32) m = some (-1, m) := (lb (y := 3) (by omega)).1 z
      rw [a0, fb_n, a1, fb_n, a2, fb_n, if_neg (show ¬ (0 : Int32) ≤ -1 by decide), if_pos rfl, if_pos rfl, a3, fb_n, if_pos rfl, nn_inc, nn_inc]
      have p1 : (decide (E 5 0 (f * 12 + g) ≠ -1) && decide (E 7 0 (f * 12 + g) = 1)) = false := by rw [decide_eq_false (not_not_intro z)]; rfl
      have p2 : decide (E 5 0 (f * 12 + g) = -1) = true := decide_eq_true z
      have p3 : decide (E 5 0 (f * 12 + g) = nn f) = false := decide_eq_false (fun e => nn_m1 (by omega) (e.symm.trans z))
      have p4 : (decide (E 5 0 (f * 12 + g) ≠ -1) && !decide (E 5 0 (f * 12 + g) = nn f)) = false := by rw [decide_eq_false (not_not_intro z)]; rfl
      rw [p1, p4, p2, p3, if_pos rfl, if_neg (show ¬ (false = true) by decide), Nat.add_zero, Nat.add_zero, Nat.add_zero] at step
      exact step
    · obtain ⟨i, c, k0, hi, hc, hk1, hk2, hsl⟩ := hiX.1.2.1 _ ht z
      obtain ⟨u, hu, eu⟩ := ho_N hiX ht z
      obtain ⟨o1, o2, o3, -⟩ := own_E hiX ht hi hc hk1 hk2 hsl
      have a0 : f_L_label H x (nn f) (nn g) (0 : Int32) m = some (nn u, m) := ((lb (y := 0) (by omega)).2 i c k0 z hi hc hk1 hk2 hsl).trans (congrArg (fun z => some (z, m)) eu)
      have a1 : f_L_label H x (nn f) (nn g) (1 : Int32) m = some (nn i, m) := (lb (y := 1) (by omega)).2 i c k0 z hi hc hk1 hk2 hsl
      have a2 : f_L_label H x (nn f) (nn g) (2 : Int32) m = some (nn c, m) := (lb (y := 2) (by omega)).2 i c k0 z hi hc hk1 hk2 hsl
      have a3 : f_L_label H x (nn f) (nn g) (3 : Int32) m = some (E 7 0 (f * 12 + g), m) := (lb (y := 3) (by omega)).2 i c k0 z hi hc hk1 hk2 hsl
      have h6 := eW_6 hI.1.1 (i := i) (by omega) hc
      have s1 := sp_nn (f := f) (g := g) (by omega) (by omega)
      have w0 : wayE E i c k0 0 = nn u := by
        unfold wayE
        rw [if_pos hk2, if_pos rfl, o3, eu]
      have w1 : wayE E i c k0 1 = nn f := by
        unfold wayE
        rw [if_pos hk2, if_neg (by decide), if_pos rfl, hsl, s1.1]
      have w2 : wayE E i c k0 2 = nn g := by
        unfold wayE
        rw [if_pos hk2, if_neg (by decide), if_neg (by decide), hsl, s1.2]
      obtain ⟨b7, e7⟩ : ∃ b7 : Bool, E 7 0 (f * 12 + g) = nn (if b7 = true then 1 else 0) ∧ decide (E 7 0 (f * 12 + g) = 1) = b7 := by
        rcases hiX.2.1 _ ht z with e | e
        · exact ⟨false, by rw [e]; exact ⟨rfl, by decide⟩⟩
        · exact ⟨true, by rw [e]; exact ⟨rfl, by decide⟩⟩
      have p1 : (decide (E 5 0 (f * 12 + g) ≠ -1) && decide (E 7 0 (f * 12 + g) = 1)) = b7 := by rw [decide_eq_true z, e7.2]; rfl
      have p2 : decide (E 5 0 (f * 12 + g) = -1) = false := decide_eq_false z
      rw [a0, fb_n, a1, fb_n, a2, fb_n, if_pos (show (0 : Int32) ≤ nn u by rw [nl_0]; exact (nn_le (by omega) (by omega)).mpr (by omega))]
      have f149 : ∀ (v5 v6 s0 : Int32), f_L_labelsAreSo_149 H k6 (f_L_labelsAreSo_30 H k6 o (nn L1) (nn f) q) o (nn L1) (nn (M + nc (fun l => decide (E 5 0 (f * 12 + l) ≠ -1) && decide (E 7 0 (f * 12 + l) = 1)) 0 g)) (nn f) (nn (nc (fun l => decide (E 5 0 (f * 12 + l) = -1)) 0 g)) v5 (nn g) (nn u) (nn i) (nn c) s0 v6 m = f_L_labelsAreSo_30 H k6 o (nn L1) (nn f) q (nn (M + nc (fun l => decide (E 5 0 (f * 12 + l) ≠ -1) && decide (E 7 0 (f * 12 + l) = 1)) 0 g) + E 7 0 (f * 12 + g)) (nn (nc (fun l => decide (E 5 0 (f * 12 + l) = -1)) 0 g)) v5 (v6 + s0) (nn (g + 1)) m := fun v5 v6 s0 => by
        unfold f_L_labelsAreSo_149
        rw [e0, a3, fb_n]
        exact q_l172 hX hD hi hc hk1 (by omega) w0 w1 w2 5 fm_N 1 false (by omega) (by unfold fm_N; omega) (by omega) (Or.inr hk1)
      rw [p1, p2, if_neg (show ¬ (false = true) by decide), Nat.add_zero, ← Nat.add_assoc] at step
      by_cases e : u = f
      · subst e
        have p3 : decide (E 5 0 (u * 12 + g) = nn u) = true := decide_eq_true eu
        have p4 : (decide (E 5 0 (u * 12 + g) ≠ -1) && !decide (E 5 0 (u * 12 + g) = nn u)) = false := by rw [p3, decide_eq_true z]; rfl
        rw [p4, p3, if_pos (show true = true from rfl), if_neg (show ¬ (false = true) by decide), Nat.add_zero] at step
        rw [if_pos rfl, if_pos rfl, f149, e7.1, nn_add, Int32.add_zero, show (1 : Int32) = nn 1 from rfl, nn_add]
        exact step
      · have hne : ¬ (nn u : Int32) = nn f := fun q => e (nn_e (by omega) (by omega) q)
        have p3 : decide (E 5 0 (f * 12 + g) = nn f) = false := decide_eq_false (fun q => hne (eu.symm.trans q))
        have p4 : (decide (E 5 0 (f * 12 + g) ≠ -1) && !decide (E 5 0 (f * 12 + g) = nn f)) = true := by rw [p3, decide_eq_true z]; rfl
        rw [p4, p3, if_pos (show true = true from rfl), if_neg (show ¬ (false = true) by decide), Nat.add_zero] at step
        rw [if_neg hne, if_neg hne, f149, e7.1, nn_add, Int32.add_zero, show (1 : Int32) = nn 1 from rfl, nn_add]
        exact step
theorem q_l374 (hX : LX H o x sc) (hD : DS x T m E l n d sv) : ∀ (r q f : Nat), f + r = eN E → r < q → f_L_labelsAreSo_374 H o (nn (sn (loE E) 0 (eN E))) (nn (sn (mdF E) 0 (eN E))) q (nn (sn (mdH E) 0 f)) (nn (sn (fun v => bw E (eZ E) v) 0 f)) (nn f) m = some (1, m) := by
  have hx := hX.1
  have e0 := hX.2.2.1
  have hI := hD.2.2.2.2.2.1.1
  have hN10 := hI.1.1.2.2.2.2.1.1
  intro r
  induction r with
  | zero =>
    intro q f h1 h2
    obtain ⟨q, rfl⟩ : ∃ q', q = q' + 1 := ⟨q - 1, by omega⟩
    have ef : f = eN E := by omega
    subst ef
    unfold f_L_labelsAreSo_374
    rw [e0, L_cN hx hD, fb_n, if_pos ((nn_le (by omega) (by omega)).mpr (Nat.le_refl _)), if_pos (congrArg nn (made_eq hI)), if_pos (congrArg nn (lent_E hI)), L_c12 hx hD, fb_n, if_pos (congrArg nn (lent_E hI))]
  | succ r ih =>
    intro q f h1 h2
    obtain ⟨q, rfl⟩ : ∃ q', q = q' + 1 := ⟨q - 1, by omega⟩
    have n5 : f_L_node H x (nn f) (5 : Int32) m = some (nn (mdH E f), m) := L_node hx hD (f := f) (by omega) (y := 5) (by omega)
    have n4 : f_L_node H x (nn f) (4 : Int32) m = some (nn (bw E (eZ E) f), m) := L_node hx hD (f := f) (by omega) (y := 4) (by omega)
    unfold f_L_labelsAreSo_374
    rw [e0, L_cN hx hD, fb_n, if_neg (show ¬ nn (eN E) ≤ nn f by rw [nn_le (by omega) (by omega)]; omega), n5, fb_n, n4, fb_n, nn_add, nn_add, nn_inc]
    have step := ih q (f + 1) (by omega) (by omega)
    rw [sn_la, sn_la, Nat.zero_add] at step
    exact step
theorem q_labels (hX : LX H o x sc) (hD : DS x T m E l n d sv) : f_L_labelsAreSo H o m = some (1, m) := by
  have hx := hX.1
  have e0 := hX.2.2.1
  have hI := hD.2.2.2.2.2.1.1
  have hN10 := hI.1.1.2.2.2.2.1.1
  have loop : ∀ (r q f : Nat), f + r = eN E → r < q → f_L_labelsAreSo_6 H o q (nn (sn (loE E) 0 f)) (nn (sn (mdF E) 0 f)) (nn f) m = some (1, m) := by
    intro r
    induction r with
    | zero =>
      intro q f h1 h2
      obtain ⟨q, rfl⟩ : ∃ q', q = q' + 1 := ⟨q - 1, by omega⟩
      have ef : f = eN E := by omega
      subst ef
      unfold f_L_labelsAreSo_6
      rw [e0, L_cN hx hD, fb_n, if_pos ((nn_le (by omega) (by omega)).mpr (Nat.le_refl _))]
      exact q_l374 hX hD (eN E) fm_N 0 (by omega) (by unfold fm_N; omega)
    | succ r ih =>
      intro q f h1 h2
      obtain ⟨q, rfl⟩ : ∃ q', q = q' + 1 := ⟨q - 1, by omega⟩
      have hz12 := eZ_12 hI.1.1 f (by omega)
      unfold f_L_labelsAreSo_6
      rw [e0, L_cN hx hD, fb_n, if_neg (show ¬ nn (eN E) ≤ nn f by rw [nn_le (by omega) (by omega)]; omega)]
      have step := ih q (f + 1) (by omega) (by omega)
      rw [sn_la, sn_la, Nat.zero_add] at step
      rw [← step]
      exact q_l30 hX hD (k6 := f_L_labelsAreSo_6 H o q) (f := f) (L1 := sn (loE E) 0 f) (M := sn (mdF E) 0 f) (by omega) (eZ E f) fm_N 0 (by omega) (by unfold fm_N; omega)
  exact loop (eN E) fm_N 0 (by omega) (by unfold fm_N; omega)
end
