/-! counts: what both sides add up -/
theorem nc_3 {p q r : Nat → Bool} : ∀ {k j : Nat}, (∀ i, j ≤ i → i < j + k → (if p i = true then 1 else 0) + (if q i = true then 1 else 0) + (if r i = true then 1 else 0) = 1) → nc p j k + nc q j k + nc r j k = k := by
  intro k
  induction k with
  | zero => exact fun _ => rfl
  | succ k ih =>
    intro j h
    unfold nc
    have a := h j (by omega) (by omega)
    have b := ih (j := j + 1) (fun i h1 h2 => h i (by omega) (by omega))
    omega
theorem sz_sn {f : Nat → Int} {g : Nat → Nat} : ∀ {k j : Nat}, (∀ i, j ≤ i → i < j + k → f i = g i) → sz f j k = (sn g j k : Nat) := by
  intro k
  induction k with
  | zero => exact fun _ => rfl
  | succ k ih =>
    intro j h
    unfold sz sn
    rw [h j (by omega) (by omega), ih (fun i h1 h2 => h i (by omega) (by omega))]
    omega
theorem fe_b {p q : Bool} (h : p = true ↔ q = true) : p = q := by
  cases p <;> cases q <;> first | rfl | (exact absurd (h.mp rfl) (by decide)) | (exact absurd (h.mpr rfl) (by decide))
/-- labels of a node's own space that others have -/
def loE (E : VV) (f : Nat) : Nat := nc (fun l => decide (E 5 0 (f * 12 + l) ≠ -1) && !decide (E 5 0 (f * 12 + l) = nn f)) 0 (eZ E f)
theorem lo_i {E : VV} {f : Nat} (hf : f < 10) : (eZ E f : Int) - hl E f (eZ E f) (-1) - hl E f (eZ E f) (ii f) = loE E f := by
  have h := nc_3 (p := fun i => decide (E 5 0 (f * 12 + i) = -1)) (q := fun i => decide (E 5 0 (f * 12 + i) = ii f)) (r := fun l => decide (E 5 0 (f * 12 + l) ≠ -1) && !decide (E 5 0 (f * 12 + l) = nn f)) (k := eZ E f) (j := 0) (fun i _ _ => by
    have n1 : nn f ≠ -1 := nn_m1 (by omega)
    by_cases a : E 5 0 (f * 12 + i) = -1
    · rw [if_pos (decide_eq_true a), if_neg (by rw [a, decide_eq_false (fun z => n1 z.symm)]; decide), if_neg (by rw [decide_eq_false (not_not_intro a), Bool.false_and]; decide)]
    · by_cases c : E 5 0 (f * 12 + i) = nn f
      · rw [if_neg (by rw [decide_eq_false a]; decide), if_pos (decide_eq_true (show E 5 0 (f * 12 + i) = ii f from c)), if_neg (by rw [decide_eq_true c, decide_eq_true a]; decide)]
      · rw [if_neg (by rw [decide_eq_false a]; decide), if_neg (by rw [decide_eq_false (show ¬ E 5 0 (f * 12 + i) = ii f from c)]; decide), if_pos (by rw [decide_eq_false c, decide_eq_true a]; rfl)])
  unfold loE hl
  omega
/-- who has a label is a node -/
theorem ho_N {E : VV} (hX : iX E) {t : Nat} (ht : t < 120) (h : E 5 0 t ≠ -1) : ∃ v, v < eN E ∧ E 5 0 t = nn v := by
  obtain ⟨i, c, k, a1, a2, a3, a4, a5⟩ := hX.1.2.1 t ht h
  obtain ⟨v, v1, v2⟩ := (hX.2.2 i a1 c a2).1.1 k a4
  exact ⟨v, v1, (hX.1.1 i c k t a1 a2 a3 a4 ht a5).1.trans v2⟩
theorem lent_eq {E : VV} (hX : iX E) (hG : vG E) (hZ : iZ E) : sz (fun f => (eZ E f : Int) - hl E f (eZ E f) (-1) - hl E f (eZ E f) (ii f)) 0 10 = (sn (fun v => bw E (eZ E) v) 0 (eN E) : Nat) := by
  have h12 := eZ_12 hG
  have hN := hG.2.2.2.2.1.1
  rw [sz_sn (g := loE E) (fun f _ hf => lo_i (by omega))]
  congr 1
  -- what others have
  have l1 : sn (loE E) 0 10 = sn (fun t => if (decide (E 5 0 t ≠ -1) && !decide (E 5 0 t = nn (t / 12))) = true then 1 else 0) 0 120 := by
    refine Eq.trans (sn_c (g := fun f => sn (fun t => if ((decide (E 5 0 t ≠ -1) && !decide (E 5 0 t = nn f)) && decide (t / 12 = f)) = true then 1 else 0) 0 120) (fun f _ hf => ?_)) (Eq.trans (sn_fb (f := fun f t => if ((decide (E 5 0 t ≠ -1) && !decide (E 5 0 t = nn f)) && decide (t / 12 = f)) = true then 1 else 0)) (sn_c (fun t _ ht => ?_)))
    · rw [← nc_sn, nc_own hZ h12 (q := fun t => decide (E 5 0 t ≠ -1) && !decide (E 5 0 t = nn f)) (by omega) (fun l hl e => by rw [e]; rfl)]
      rfl
    · refine Eq.trans (sn_1 (j := t / 12) (by omega) (by omega) (fun i _ _ hi => if_neg (by rw [decide_eq_false (show ¬ t / 12 = i from fun z => hi z.symm), Bool.and_false]; decide))) ?_
      rw [decide_eq_true (rfl : t / 12 = t / 12), Bool.and_true]
  have l2 : sn (fun v => bw E (eZ E) v) 0 (eN E) = sn (fun t => if (decide (E 5 0 t ≠ -1) && !decide (E 5 0 t = nn (t / 12))) = true then 1 else 0) 0 120 := by
    refine Eq.trans (sn_c (g := fun f => sn (fun t => if (decide (E 5 0 t = nn f) && decide (t / 12 ≠ f)) = true then 1 else 0) 0 120) (fun f _ hf => ?_)) (Eq.trans (sn_fb (f := fun f t => if (decide (E 5 0 t = nn f) && decide (t / 12 ≠ f)) = true then 1 else 0)) (sn_c (fun t _ ht => ?_)))
    · rw [← nc_sn, nc_bw hZ h12 (by omega)]
    · by_cases e : E 5 0 t = -1
      · refine Eq.trans (sn_z (fun i _ hi => if_neg (by rw [e, decide_eq_false (fun z => nn_m1 (by omega) z.symm), Bool.false_and]; decide))) ?_
        rw [if_neg (by rw [decide_eq_false (not_not_intro e), Bool.false_and]; decide)]
      · obtain ⟨v, v1, v2⟩ := ho_N hX (by omega) e
        refine Eq.trans (sn_1 (j := v) (by omega) (by omega) (fun i _ hi hn => if_neg (by rw [decide_eq_false (fun z => hn (nn_e (by omega) (by omega) (z.symm.trans v2))), Bool.false_and]; decide))) ?_
        rw [decide_eq_true v2, decide_eq_true e, Bool.true_and, Bool.true_and]
        by_cases z : t / 12 = v
        · rw [if_neg (by rw [decide_eq_false (not_not_intro z)]; decide), if_neg (by rw [z, decide_eq_true v2]; decide)]
        · rw [if_pos (decide_eq_true z), if_pos (by rw [decide_eq_false (fun q => z (nn_e (by omega) (by omega) (q.symm.trans v2)))]; rfl)]
  rw [l1, l2]
/-- links at a node -/
theorem lat_eq {E : VV} (hE : iE E) (hN : eN E ≤ 10) {f : Nat} (hf : f < eN E) : nc (fun i => decide (lkE E (nn f) (nn i) ≠ -1)) 0 (eN E) = nc (fun j => decide (E 3 j 0 = nn f ∨ E 3 j 1 = nn f)) 0 (eL E) := by
  have hP : ∀ i j, i < eN E → j < eL E → (((E 3 j 0 = nn f ∧ E 3 j 1 = nn i) ∨ (E 3 j 0 = nn i ∧ E 3 j 1 = nn f)) ↔ lkE E (nn f) (nn i) = (j : Nat)) := fun i j hi hj => by
    constructor
    · rintro (⟨a1, a2⟩ | ⟨a1, a2⟩)
      · have := (hE j hj).2
        rw [a1, a2] at this
        exact this
      · have := (hE j hj).2
        rw [a1, a2, lkE_sym] at this
        exact this
    · intro h
      exact of_decide_eq_true (fi_is (p := fun j => decide ((E 3 j 0 = nn f ∧ E 3 j 1 = nn i) ∨ (E 3 j 0 = nn i ∧ E 3 j 1 = nn f))) (k := eL E) (j := 0) h).2.2.1
  rw [nc_sn, nc_sn]
  refine Eq.trans (sn_c (g := fun i => sn (fun j => if decide ((E 3 j 0 = nn f ∧ E 3 j 1 = nn i) ∨ (E 3 j 0 = nn i ∧ E 3 j 1 = nn f)) = true then 1 else 0) 0 (eL E)) (fun i _ hi => ?_)) (Eq.trans (sn_fb (f := fun i j => if decide ((E 3 j 0 = nn f ∧ E 3 j 1 = nn i) ∨ (E 3 j 0 = nn i ∧ E 3 j 1 = nn f)) = true then 1 else 0)) (sn_c (fun j _ hj => ?_)))
  · by_cases e : lkE E (nn f) (nn i) = -1
    · rw [if_neg (by rw [decide_eq_false (not_not_intro e)]; decide)]
      refine (sn_z (fun j _ hj => if_neg (by rw [decide_eq_false (fun z => by have := (hP i j (by omega) (by omega)).mp z; omega)]; decide))).symm
    · obtain ⟨j, j1, j2⟩ := lkE_r e
      rw [if_pos (decide_eq_true e)]
      refine Eq.symm (Eq.trans (sn_1 (j := j) (by omega) (by omega) (fun j' _ hj' hn => if_neg (by rw [decide_eq_false (fun z => by have := (hP i j' (by omega) (by omega)).mp z; omega)]; decide))) ?_)
      exact if_pos (decide_eq_true ((hP i j (by omega) (by omega)).mpr j2))
  · obtain ⟨⟨x, y, x1, y1, xy, e0, e1⟩, -⟩ := hE j (by omega)
    by_cases a : x = f
    · refine Eq.trans (sn_1 (j := y) (by omega) (by omega) (fun i _ hi hn => if_neg ?_)) ?_
      · rw [decide_eq_false]
        · decide
        · rintro (⟨_, q⟩ | ⟨q, q2⟩)
          · exact hn (nn_e (by omega) (by omega) (q.symm.trans e1))
          · have := nn_e (by omega) (by omega) (q2.symm.trans e1)
            omega
      · rw [if_pos (decide_eq_true (Or.inl ⟨by rw [e0, a], e1⟩)), if_pos (decide_eq_true (Or.inl (by rw [e0, a])))]
    · by_cases c : y = f
      · refine Eq.trans (sn_1 (j := x) (by omega) (by omega) (fun i _ hi hn => if_neg ?_)) ?_
        · rw [decide_eq_false]
          · decide
          · rintro (⟨q, _⟩ | ⟨q, _⟩)
            · exact a (nn_e (by omega) (by omega) (e0.symm.trans q))
            · exact hn (nn_e (by omega) (by omega) (q.symm.trans e0))
        · rw [if_pos (decide_eq_true (Or.inr ⟨e0, by rw [e1, c]⟩)), if_pos (decide_eq_true (Or.inr (by rw [e1, c])))]
      · refine Eq.trans (sn_z (fun i _ hi => if_neg ?_)) ?_
        · rw [decide_eq_false]
          · decide
          · rintro (⟨q, _⟩ | ⟨_, q⟩)
            · exact a (nn_e (by omega) (by omega) (e0.symm.trans q))
            · exact c (nn_e (by omega) (by omega) (e1.symm.trans q))
        · rw [if_neg]
          rw [decide_eq_false]
          · decide
          · rintro (q | q)
            · exact a (nn_e (by omega) (by omega) (e0.symm.trans q))
            · exact c (nn_e (by omega) (by omega) (e1.symm.trans q))
