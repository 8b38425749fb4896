/-! WHAT IS RESERVED: never more than a capacity -/
def bN (E : VV) (i : Nat) : Nat := (E 9 i 0).toInt.toNat
def usj (E : VV) (i j : Nat) : Bool := us E (eA E) (eB E) i (nn j)
/-- what the circuits but e reserve on link j -/
def rNj (E : VV) (j e : Nat) : Nat := sn (fun i => if i = e then 0 else if usj E i j = true then bN E i else 0) 0 (eK E)
def iR (E : VV) : Prop := ∀ j, j < eL E → ∃ c, c ≤ 99 ∧ E 3 j 2 = nn c ∧ rNj E j 100 ≤ c
theorem bN_nn {E : VV} (hS : iS E) {i : Nat} (hi : i < eK E) : E 9 i 0 = nn (bN E i) ∧ bN E i ≤ 20 := by
  obtain ⟨b, b1, b2⟩ := hS.2.2.2.1 i hi
  unfold bN
  rw [b2, nn_t (by omega)]
  exact ⟨rfl, b1⟩
theorem su_sn {f : Nat → Int32} {g : Nat → Nat} : ∀ {n a : Nat}, (∀ i, a ≤ i → i < a + n → f i = nn (g i)) → su f a n = nn (sn g a n)
  | 0, _, _ => nl_0
  | n + 1, a, h => by
    unfold su sn
    rw [h a (by omega) (by omega), su_sn (fun i h1 h2 => h i (by omega) (by omega)), nn_add]
/-- the class's sum -/
theorem rsv_N {E : VV} (hS : iS E) (hK : eK E ≤ 8) {j e : Nat} (he : e ≤ 1000) : rsv E (eK E) (eA E) (eB E) (nn j) (if e < 100 then nn e else -1) = nn (rNj E j e) := by
  unfold rsv rNj
  refine su_sn (fun i h1 h2 => ?_)
  have q := bN_nn hS (i := i) (by omega)
  have ie : (ii i = (if e < 100 then nn e else -1)) ↔ (i = e ∧ e < 100) := by
    by_cases h : e < 100
    · rw [if_pos h]
      exact ⟨fun z => ⟨nn_e (by omega) (by omega) z, h⟩, fun z => by rw [z.1]; rfl⟩
    · rw [if_neg h]
      exact ⟨fun z => absurd z (nn_m1 (a := i) (by omega)), fun z => absurd z.2 h⟩
  by_cases c : i = e
  · by_cases h : e < 100
    · rw [if_pos (ie.mpr ⟨c, h⟩), if_pos c]
      exact nl_0
    · omega
  · rw [if_neg (fun z => c (ie.mp z).1), if_neg c]
    unfold usj
    split
    · exact q.1
    · exact nl_0
theorem sn_mono {f g : Nat → Nat} : ∀ {n a : Nat}, (∀ i, a ≤ i → i < a + n → f i ≤ g i) → sn f a n ≤ sn g a n
  | 0, _, _ => Nat.le_refl _
  | n + 1, a, h => by
    unfold sn
    exact Nat.add_le_add (h a (by omega) (by omega)) (sn_mono (fun i h1 h2 => h i (by omega) (by omega)))
theorem rN_split {E : VV} {j i : Nat} (hi : i < eK E) (hK : eK E ≤ 8) : rNj E j 100 = rNj E j i + if usj E i j = true then bN E i else 0 := by
  unfold rNj
  have h := sn_one (f := fun x => if x = i then 0 else if usj E x j = true then bN E x else 0) (i := i) (d := if usj E i j = true then bN E i else 0) (n := eK E) (a := 0) (by omega) (by omega)
  rw [← h]
  refine sn_c (fun x h1 h2 => ?_)
  rw [if_neg (by omega)]
  by_cases e : x = i
  · subst e
    rw [if_pos rfl, if_pos rfl]
    omega
  · rw [if_neg e, if_neg e]
/-- fewer uses -/
theorem iR_sub {E E' : VV} (h : iR E) (hK : eK E' = eK E) (hL : eL E' = eL E) (h3 : ∀ j, j < eL E → E' 3 j 2 = E 3 j 2) (h9 : ∀ i, i < eK E → E' 9 i 0 = E 9 i 0) (hu : ∀ i j, i < eK E → j < eL E → usj E' i j = true → usj E i j = true) : iR E' := fun j hj => by
  rw [hL] at hj
  obtain ⟨c, c1, c2, c3⟩ := h j hj
  refine ⟨c, c1, by rw [h3 j hj]; exact c2, Nat.le_trans ?_ c3⟩
  unfold rNj
  rw [hK]
  refine sn_mono (fun i h1 h2 => ?_)
  by_cases e : i = 100
  · rw [if_pos e]
    omega
  · rw [if_neg e, if_neg e]
    have eb : bN E' i = bN E i := by unfold bN; rw [h9 i (by omega)]
    by_cases u : usj E' i j = true
    · rw [if_pos u, if_pos (hu i j (by omega) hj u), eb]
      exact Nat.le_refl _
    · rw [if_neg u]
      omega
/-- one circuit uses more -/
theorem iR_mv {E E' : VV} {i : Nat} (h : iR E) (hi : i < eK E) (hK8 : eK E ≤ 8) (hK : eK E' = eK E) (hL : eL E' = eL E) (h3 : ∀ j, j < eL E → E' 3 j 2 = E 3 j 2) (h9 : ∀ a, a < eK E → E' 9 a 0 = E 9 a 0) (hu : ∀ a j, a < eK E → a ≠ i → j < eL E → usj E' a j = true → usj E a j = true)
    (hn : ∀ j c, j < eL E → E 3 j 2 = nn c → c ≤ 99 → usj E' i j = true → usj E i j = true ∨ rNj E j i + bN E i ≤ c) : iR E' := fun j hj => by
  rw [hL] at hj
  obtain ⟨c, c1, c2, c3⟩ := h j hj
  refine ⟨c, c1, by rw [h3 j hj]; exact c2, ?_⟩
  have s' := rN_split (E := E') (j := j) (i := i) (by rw [hK]; exact hi) (by rw [hK]; exact hK8)
  have s := rN_split (E := E) (j := j) (i := i) hi hK8
  have eb : bN E' i = bN E i := by unfold bN; rw [h9 i hi]
  have le : rNj E' j i ≤ rNj E j i := by
    unfold rNj
    rw [hK]
    refine sn_mono (fun a h1 h2 => ?_)
    by_cases e : a = i
    · rw [if_pos e, if_pos e]
      exact Nat.le_refl _
    · rw [if_neg e, if_neg e]
      have eb : bN E' a = bN E a := by unfold bN; rw [h9 a (by omega)]
      by_cases u : usj E' a j = true
      · rw [if_pos u, if_pos (hu a j (by omega) e hj u), eb]
        exact Nat.le_refl _
      · rw [if_neg u]
        omega
  rw [s', eb]
  by_cases u : usj E' i j = true
  · rw [if_pos u]
    rcases hn j c hj c2 c1 u with z | z
    · rw [if_pos z] at s
      omega
    · omega
  · rw [if_neg u]
    omega
/-- a circuit more -/
theorem iR_op {E E' : VV} (h : iR E) (hK8 : eK E < 8) (hK : eK E' = eK E + 1) (hL : eL E' = eL E) (h3 : ∀ j, j < eL E → E' 3 j 2 = E 3 j 2) (h9 : ∀ a, a < eK E → E' 9 a 0 = E 9 a 0) (hu : ∀ a j, a < eK E → j < eL E → usj E' a j = true → usj E a j = true)
    (hn : ∀ j c, j < eL E → E 3 j 2 = nn c → c ≤ 99 → usj E' (eK E) j = true → rNj E j 100 + bN E' (eK E) ≤ c) : iR E' := fun j hj => by
  rw [hL] at hj
  obtain ⟨c, c1, c2, c3⟩ := h j hj
  refine ⟨c, c1, by rw [h3 j hj]; exact c2, ?_⟩
  have s' := rN_split (E := E') (j := j) (i := eK E) (by omega) (by omega)
  have le : rNj E' j (eK E) ≤ rNj E j 100 := by
    unfold rNj
    rw [hK, sn_ap (n := eK E) (k := 1)]
    have z : sn (fun i => if i = eK E then 0 else if usj E' i j = true then bN E' i else 0) (0 + eK E) 1 = 0 := sn_z (fun i h1 h2 => if_pos (by omega))
    rw [z]
    refine sn_mono (fun a h1 h2 => ?_)
    rw [if_neg (show ¬ a = eK E by omega), if_neg (show ¬ a = 100 by omega)]
    have eb : bN E' a = bN E a := by unfold bN; rw [h9 a (by omega)]
    by_cases u : usj E' a j = true
    · rw [if_pos u, if_pos (hu a j (by omega) hj u), eb]
      exact Nat.le_refl _
    · rw [if_neg u]
      omega
  rw [s']
  by_cases u : usj E' (eK E) j = true
  · rw [if_pos u]
    have := hn j c hj c2 c1 u
    omega
  · rw [if_neg u]
    omega
/-- what a link's room is -/
theorem hr_N {E : VV} (hS : iS E) (hK : eK E ≤ 8) {j b e : Nat} (hL : eL E ≤ 16) (hb : b ≤ 20) (he : e ≤ 1000) (h : hr E (eL E) (eK E) (eA E) (eB E) j (nn b) (if e < 100 then nn e else -1) = true) : j < eL E ∧ ∀ c, E 3 j 2 = nn c → c ≤ 99 → rNj E j e + b ≤ c := by
  unfold hr at h
  rw [Bool.and_eq_true] at h
  have h1 := of_decide_eq_true h.1
  have h2 := of_decide_eq_true h.2
  have hj : j < eL E := by omega
  refine ⟨hj, fun c c1 c2 => ?_⟩
  have q : rsv E (eK E) (eA E) (eB E) (nn j) (if e < 100 then nn e else -1) = nn (rNj E j e) := rsv_N hS hK he
  have jj : ((j : Int)).toNat = j := Int.toNat_natCast j
  rw [jj, c1] at h2
  have r160 : rNj E j e ≤ 160 := by
    unfold rNj
    have := sn_le (f := fun i => if i = e then 0 else if usj E i j = true then bN E i else 0) (B := 20) (k := eK E) (j := 0) (fun i h1 h2 => by
      have := (bN_nn hS (i := i) (by omega)).2
      split
      · omega
      · split <;> omega)
    omega
  rw [show (ii (j : Int) : Int32) = nn j from rfl, q, nn_add, nn_le (by omega) (by omega)] at h2
  exact h2
/-! moves use fewer links -/
theorem us_iff {E : VV} {i j : Nat} : usj E i j = true ↔ ∃ c k, c < 2 ∧ 1 ≤ k ∧ k < eW E i c ∧ E (12 + 4 * c) i k = nn j := by
  unfold usj us
  rw [Bool.or_eq_true, ny_iff, ny_iff]
  constructor
  · rintro (⟨k, h1, h2, h3⟩ | ⟨k, h1, h2, h3⟩)
    · exact ⟨0, k, by omega, h1, by show k < eA E i; omega, of_decide_eq_true h3⟩
    · exact ⟨1, k, by omega, h1, by show k < eB E i; omega, of_decide_eq_true h3⟩
  · rintro ⟨c, k, h1, h2, h3, h4⟩
    rcases (show c = 0 ∨ c = 1 by omega) with z | z <;> subst z
    · exact Or.inl ⟨k, h2, by have : k < eA E i := h3; omega, decide_eq_true h4⟩
    · exact Or.inr ⟨k, h2, by have : k < eB E i := h3; omega, decide_eq_true h4⟩
theorem us_c {E E' : VV} {i i' : Nat} (hW : ∀ c, c < 2 → eW E' i' c = eW E i c) (h : ∀ c k, c < 2 → k < eW E i c → E' (12 + 4 * c) i' k = E (12 + 4 * c) i k) {j : Nat} : usj E' i' j = true → usj E i j = true := fun hu => by
  obtain ⟨c, k, h1, h2, h3, h4⟩ := us_iff.mp hu
  rw [hW c h1] at h3
  rw [h c k h1 h3] at h4
  exact us_iff.mpr ⟨c, k, h1, h2, h3, h4⟩
theorem cl_at {E : VV} {i kd a k : Nat} (h5 : kd ≠ 5) (h13 : kd ≠ 13) : clF E i kd a k = E kd a k := by
  unfold clF
  split
  · rw [uV_k h13, guE_o h5]
  · rw [guE_o h5]
theorem us_mC {E : VV} {i a j : Nat} (h : usj (mC E i) a j = true) : usj E a j = true := by
  by_cases ea : a = i
  · subst ea
    have lk : ∀ E' : VV, (∀ kd k, 10 ≤ kd → kd ≠ 13 → E' kd a k = E kd a k) → usj E' a j = true → usj E a j = true := fun E' g => us_c (fun c hc => by
      rcases (show c = 0 ∨ c = 1 by omega) with z | z <;> subst z
      · show eA E' a = eA E a
        unfold eA
        rw [g 10 0 (by omega) (by omega)]
      · show eB E' a = eB E a
        unfold eB
        rw [g 14 0 (by omega) (by omega)]) (fun c k hc _ => g _ _ (by omega) (by omega))
    unfold mC at h
    split at h
    · unfold buE at h
      split at h
      · split at h
        · exact lk _ (fun kd k h1 h2 => by rw [uV_k (by omega), uV_k (by omega), uV_k (by omega)]) h
        · exact lk _ (fun kd k h1 h2 => by rw [uV_k (by omega), uV_k (by omega)]) h
      · exact lk _ (fun kd k h1 h2 => by rw [uV_k (by omega), mkE_o (by omega)]) h
    · split at h
      · unfold drE at h
        split at h
        · exact lk _ (fun kd k h1 h2 => by rw [uV_k (by omega)]) h
        · exact lk _ (fun kd k h1 h2 => by rw [uV_k (by omega), uV_k (by omega)]) h
      · split at h
        · unfold clE at h
          split at h
          · exact lk _ (fun kd k h1 h2 => cl_at (by omega) h2) h
          · have h' : usj (tn (clF E a) a (E 8 0 5 + 1)) a j = true := h
            obtain ⟨c, k, h1, h2, h3, h4⟩ := us_iff.mp h'
            have c0 : c = 0 := by
              rcases (show c = 0 ∨ c = 1 by omega) with z | z
              · exact z
              · subst z
                have : eW (tn (clF E a) a (E 8 0 5 + 1)) a 1 = 0 := by
                  show eB _ a = _
                  rw [eB_tn, if_pos rfl]
                omega
            subst c0
            have w : eW (tn (clF E a) a (E 8 0 5 + 1)) a 0 = eB E a := by
              show eA _ a = _
              rw [eA_tn, if_pos rfl]
              unfold eB
              rw [cl_at (by omega) (by omega)]
            rw [w] at h3
            have s : tn (clF E a) a (E 8 0 5 + 1) 12 a k = E 16 a k := by
              unfold tn
              rw [uV_k (by omega), uV_k (by omega), uV_k (by omega), twV_s (by omega)]
              show clF E a 16 a k = _
              exact cl_at (by omega) (by omega)
            exact us_iff.mpr ⟨1, k, by omega, h2, h3, s.symm.trans h4⟩
        · exact h
  · refine us_c (E := E) (i := a) (fun c hc => ?_) (fun c k hc _ => mC_n ea (by omega) (by omega)) h
    rcases (show c = 0 ∨ c = 1 by omega) with z | z <;> subst z
    · show eA _ a = eA _ a
      unfold eA
      rw [mC_n ea (by omega) (by omega)]
    · show eB _ a = eB _ a
      unfold eB
      rw [mC_n ea (by omega) (by omega)]
theorem us_mvC {a j : Nat} : ∀ {k q : Nat} {E : VV}, usj (mvC E q k) a j = true → usj E a j = true := by
  intro k
  induction k with
  | zero => exact fun h => h
  | succ k ih =>
    intro q E h
    exact us_mC (ih (E := mC E q) (q := q + 1) h)
theorem us_6 {E E' : VV} (h : kS6 E E') {a j : Nat} : usj E' a j = true → usj E a j = true := us_c (fun c hc => by rw [kS6_eW h]) (fun c k hc _ => h _ _ _ (by omega) (by omega) (by omega))
theorem us_tk {E : VV} {l : List (Nat → Int32)} {a j : Nat} (h : usj (tkE E l).1 a j = true) : usj E a j = true := by
  rw [tkE_1] at h
  have h1 : usj (sA (mvC (tk1 E l) 0 (eK E)) 0 (eK E)).1 a j = true := us_c (fun c hc => by
    rcases (show c = 0 ∨ c = 1 by omega) with z | z <;> subst z <;> rfl) (fun c k hc _ => (uV_k (by omega)).symm.trans rfl |>.symm) h
  exact us_6 tk1_6 (us_mvC (us_6 kS6_sA h1))
theorem iR_tk {E : VV} {l : List (Nat → Int32)} (h : iR E) : iR (tkE E l).1 := by
  obtain ⟨t1, -, t3, -⟩ := tk_all (E := E) (l := l)
  refine iR_sub h (by unfold eK; rw [t1 0 0 5 (by omega) (by omega)]) (by unfold eL; rw [t1 1 0 1 (by omega) (by omega)]) (fun j hj => t1 3 j 2 (by omega) (by omega)) (fun i hi => t3 i) (fun i j _ _ => us_tk)
