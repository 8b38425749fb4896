/-! THE LAW: labels are so -/
theorem nc_la {p : Nat → Bool} : ∀ {k j : Nat}, nc p j (k + 1) = nc p j k + if p (j + k) = true then 1 else 0 := by
  intro k
  induction k with
  | zero => exact fun {j} => Nat.add_comm _ _
  | succ k ih =>
    intro j
    show (if p j = true then 1 else 0) + nc p (j + 1) (k + 1) = (if p j = true then 1 else 0) + nc p (j + 1) k + _
    rw [ih, show j + 1 + k = j + (k + 1) by omega]
    omega
theorem sn_la {f : Nat → Nat} : ∀ {k j : Nat}, sn f j (k + 1) = sn f j k + f (j + k) := by
  intro k
  induction k with
  | zero => exact fun {j} => Nat.add_comm _ _
  | succ k ih =>
    intro j
    show f j + sn f (j + 1) (k + 1) = f j + sn f (j + 1) k + _
    rw [ih, show j + 1 + k = j + (k + 1) by omega]
    omega
/-- entries made of a space, held by anybody -/
def mdF (E : VV) (f : Nat) : Nat := nc (fun l => decide (E 5 0 (f * 12 + l) ≠ -1) && decide (E 7 0 (f * 12 + l) = 1)) 0 (eZ E f)
def mdH (E : VV) (f : Nat) : Nat := nc (fun t => decide (E 5 0 t = nn f) && decide (E 7 0 t = 1)) 0 120
theorem sn_N {f : Nat → Nat} {a b : Nat} (h : a ≤ b) (hz : ∀ i, a ≤ i → i < b → f i = 0) : sn f 0 b = sn f 0 a := by
  obtain ⟨k, rfl⟩ : ∃ k, b = a + k := ⟨b - a, by omega⟩
  clear h
  induction k with
  | zero => rfl
  | succ k ih =>
    show sn f 0 (a + k + 1) = _
    rw [sn_la, ih (fun i h1 h2 => hz i h1 (by omega)), hz _ (by omega) (by omega)]
    omega
theorem made_eq {E : VV} {l : List (Nat → Int32)} (hI : iG E l) : sn (mdF E) 0 (eN E) = sn (mdH E) 0 (eN E) := by
  have hX := hI.1.2.1
  have hG := hI.1.1
  have hZ := hI.2.2.1
  have h12 := eZ_12 hG
  have hN := hG.2.2.2.2.1.1
  have hz0 := hI.2.2.2.2.2.2.2.2.2
  rw [← sn_N (f := mdF E) (a := eN E) (b := 10) hN (fun f h1 h2 => by
    unfold mdF
    rw [hz0 f h1 h2]
    rfl)]
  have l1 : sn (mdF E) 0 10 = sn (fun t => if (decide (E 5 0 t ≠ -1) && decide (E 7 0 t = 1)) = true then 1 else 0) 0 120 := by
    refine Eq.trans (sn_c (g := fun f => sn (fun t => if ((decide (E 5 0 t ≠ -1) && decide (E 7 0 t = 1)) && decide (t / 12 = f)) = true then 1 else 0) 0 120) (fun f _ hf => ?_)) (Eq.trans (sn_fb (f := fun f t => if ((decide (E 5 0 t ≠ -1) && decide (E 7 0 t = 1)) && decide (t / 12 = f)) = true then 1 else 0)) (sn_c (fun t _ ht => ?_)))
    · rw [← nc_sn, nc_own hZ h12 (q := fun t => decide (E 5 0 t ≠ -1) && decide (E 7 0 t = 1)) (by omega) (fun l hl e => by rw [e]; rfl)]
      rfl
    · refine Eq.trans (sn_1 (j := t / 12) (by omega) (by omega) (fun i _ _ hi => if_neg (by rw [decide_eq_false (show ¬ t / 12 = i from fun z => hi z.symm), Bool.and_false]; decide))) ?_
      rw [decide_eq_true (rfl : t / 12 = t / 12), Bool.and_true]
  have l2 : sn (mdH E) 0 (eN E) = sn (fun t => if (decide (E 5 0 t ≠ -1) && decide (E 7 0 t = 1)) = true then 1 else 0) 0 120 := by
    refine Eq.trans (sn_c (g := fun f => sn (fun t => if (decide (E 5 0 t = nn f) && decide (E 7 0 t = 1)) = true then 1 else 0) 0 120) (fun f _ hf => nc_sn)) (Eq.trans (sn_fb (f := fun f t => if (decide (E 5 0 t = nn f) && decide (E 7 0 t = 1)) = true then 1 else 0)) (sn_c (fun t _ ht => ?_)))
    by_cases e : E 5 0 t = -1
    · refine Eq.trans (sn_z (fun i _ hi => if_neg (by rw [e, decide_eq_false (fun z => nn_m1 (by omega) z.symm), Bool.false_and]; decide))) ?_
      rw [if_neg (by rw [decide_eq_false (not_not_intro e), Bool.false_and]; decide)]
    · obtain ⟨v, v1, v2⟩ := ho_N hX (by omega) e
      refine Eq.trans (sn_1 (j := v) (by omega) (by omega) (fun i _ hi hn => if_neg (by rw [decide_eq_false (fun z => hn (nn_e (by omega) (by omega) (z.symm.trans v2))), Bool.false_and]; decide))) ?_
      rw [decide_eq_true v2, decide_eq_true e]
  rw [l1, l2]
theorem lent_E {E : VV} {l : List (Nat → Int32)} (hI : iG E l) : sn (loE E) 0 (eN E) = sn (fun v => bw E (eZ E) v) 0 (eN E) := by
  have hG := hI.1.1
  have hN := hG.2.2.2.2.1.1
  have hz0 := hI.2.2.2.2.2.2.2.2.2
  have h := lent_eq hI.1.2.1 hG hI.2.2.1
  rw [sz_sn (g := loE E) (fun f _ hf => lo_i (by omega))] at h
  rw [← sn_N (f := loE E) (a := eN E) (b := 10) hN (fun f h1 h2 => by
    unfold loE
    rw [hz0 f h1 h2]
    rfl)]
  exact Int.ofNat.inj h
