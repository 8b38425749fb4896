/-! ticks keep all that holds; ends of new ways; how far counting goes -/
/-- a new way has the ends of the old one -/
def iN (E : VV) : Prop := ∀ i, i < eK E → eB E i ≠ 0 → E 15 i 0 = E 11 i 0 ∧ E 15 i (eB E i - 1) = E 11 i (eA E i - 1)
/-- the time, and what was delivered -/
def iM (T : Nat) (E : VV) : Prop := ∃ τ, τ ≤ T ∧ E 0 0 9 = nn τ ∧ ∀ i, i < eK E → ∃ δ, δ ≤ 60 * τ ∧ E 9 i 5 = nn δ
def iNM (T : Nat) (E : VV) : Prop := iN E ∧ iM T E
theorem iM_m {T T' : Nat} {E : VV} (h : iM T E) (hT : T ≤ T') : iM T' E := by
  obtain ⟨τ, h1, h2⟩ := h
  exact ⟨τ, by omega, h2⟩
/-- what these look at comes from some circuit -/
def nmS (E E' : VV) : Prop := E' 0 0 9 = E 0 0 9 ∧ ∀ i, i < eK E' → (eB E' i = 0 ∨ ∃ j, j < eK E ∧ eB E' i = eB E j ∧ E' 15 i 0 = E 15 j 0 ∧ E' 11 i 0 = E 11 j 0 ∧ E' 15 i (eB E j - 1) = E 15 j (eB E j - 1) ∧ E' 11 i (eA E' i - 1) = E 11 j (eA E j - 1)) ∧ (E' 9 i 5 = 0 ∨ ∃ j, j < eK E ∧ E' 9 i 5 = E 9 j 5)
theorem iN_s {E E' : VV} (h : nmS E E') (hN : iN E) : iN E' := by
  intro i hi hB
  rcases (h.2 i hi).1 with z | ⟨j, j1, j2, j3, j4, j5, j6⟩
  · exact absurd z hB
  · obtain ⟨n1, n2⟩ := hN j j1 (by omega)
    rw [j2, j3, j4, j5, j6]
    exact ⟨n1, n2⟩
theorem iNM_s {T : Nat} {E E' : VV} (h : nmS E E') (hI : iNM T E) : iNM T E' := by
  obtain ⟨h0, h1⟩ := h
  obtain ⟨hN, τ, t1, t2, t3⟩ := hI
  refine ⟨fun i hi hB => ?_, τ, t1, h0.trans t2, fun i hi => ?_⟩
  · rcases (h1 i hi).1 with z | ⟨j, j1, j2, j3, j4, j5, j6⟩
    · exact absurd z hB
    · obtain ⟨n1, n2⟩ := hN j j1 (by omega)
      rw [j2, j3, j4, j5, j6]
      exact ⟨n1, n2⟩
  · rcases (h1 i hi).2 with z | ⟨j, j1, j2⟩
    · exact ⟨0, by omega, z⟩
    · rw [j2]
      exact t3 j j1
/-- rows of the same numbers -/
theorem nmS_e {E E' : VV} (h0 : E' 0 0 9 = E 0 0 9) (hK : eK E' = eK E) (h : ∀ i, i < eK E → E' 9 i 5 = E 9 i 5 ∧ E' 10 i 0 = E 10 i 0 ∧ E' 14 i 0 = E 14 i 0 ∧ (∀ k, E' 11 i k = E 11 i k) ∧ ∀ k, E' 15 i k = E 15 i k) : nmS E E' := by
  refine ⟨h0, fun i hi => ?_⟩
  rw [hK] at hi
  obtain ⟨a1, a2, a3, a4, a5⟩ := h i hi
  have eA' : eA E' i = eA E i := by unfold eA; rw [a2]
  have eB' : eB E' i = eB E i := by unfold eB; rw [a3]
  exact ⟨Or.inr ⟨i, hi, eB', a5 0, a4 0, a5 _, by rw [eA', a4]⟩, Or.inr ⟨i, hi, a1⟩⟩
/-! a move's tick -/
theorem gu_5 {E : VV} {x : Int32} {t : Nat} : guE E x 5 0 t = -1 ∨ guE E x 5 0 t = E 5 0 t := by
  unfold guE
  split
  · rw [uV_at]
    split
    · exact Or.inl rfl
    · exact Or.inr rfl
  · exact Or.inr rfl
theorem clF_5 {E : VV} {i t : Nat} : clF E i 5 0 t = -1 ∨ clF E i 5 0 t = E 5 0 t := by
  unfold clF
  split
  · rw [uV_k (by omega)]
    exact gu_5
  · exact gu_5
theorem clF_o {E : VV} {i kd a k : Nat} (h5 : kd ≠ 5) (h13 : kd ≠ 13) : clF E i kd a k = E kd a k := by
  unfold clF
  split
  · rw [uV_k h13, guE_o h5]
  · exact guE_o h5
theorem mC_5 {E : VV} {i t : Nat} : mC E i 5 0 t = -1 ∨ mC E i 5 0 t = E 5 0 t := by
  unfold mC
  split
  · refine Or.inr ?_
    unfold buE
    split
    · split
      · rw [uV_k (by omega), uV_k (by omega), uV_k (by omega)]
      · rw [uV_k (by omega), uV_k (by omega)]
    · rw [uV_k (by omega), mkE_o (by omega)]
  · split
    · refine Or.inr ?_
      unfold drE
      split
      · rw [uV_k (by omega)]
      · rw [uV_k (by omega), uV_k (by omega)]
    · split
      · unfold clE
        split
        · exact clF_5
        · rw [uV_k (by omega), uV_k (by omega), uV_k (by omega), twV_o (by omega)]
          exact clF_5
      · exact Or.inr rfl
/-- a circuit's band and what was delivered stay in its move's tick; its ways stay, or it has no new way then -/
theorem mC_95 {E : VV} {i a k : Nat} (hk : k ≠ 2 ∧ k ≠ 8 ∧ k ≠ 9 ∧ k ≠ 10) : mC E i 9 a k = E 9 a k := by
  unfold mC
  split
  · unfold buE
    split
    · split
      · rw [uV_p (by omega), uV_p (by omega), uV_p (by omega)]
      · rw [uV_p (by omega), uV_p (by omega)]
    · rw [uV_p (by omega), mkE_o (by omega)]
  · split
    · unfold drE
      split
      · rw [uV_p (by omega)]
      · rw [uV_p (by omega), uV_p (by omega)]
    · split
      · unfold clE
        split
        · exact clF_o (by omega) (by omega)
        · rw [uV_k (by omega), uV_p (by omega), uV_k (by omega), twV_o (by omega)]
          exact clF_o (by omega) (by omega)
      · rfl
theorem mC_w {E : VV} {i : Nat} : eB (mC E i) i = 0 ∨ ∀ kd k, kd = 10 ∨ kd = 11 ∨ kd = 14 ∨ kd = 15 → mC E i kd i k = E kd i k := by
  unfold mC
  split
  · refine Or.inr (fun kd k h => ?_)
    unfold buE
    split
    · split
      · rw [uV_k (by omega), uV_k (by omega), uV_k (by omega)]
      · rw [uV_k (by omega), uV_k (by omega)]
    · rw [uV_k (by omega), mkE_o (by omega)]
  · split
    · refine Or.inr (fun kd k h => ?_)
      unfold drE
      split
      · rw [uV_k (by omega)]
      · rw [uV_k (by omega), uV_k (by omega)]
    · split
      · unfold clE
        split
        · exact Or.inr (fun kd k h => clF_o (by omega) (by omega))
        · refine Or.inl ?_
          unfold eB
          rw [uV_k (by omega), uV_k (by omega), uV_s]
          rfl
      · exact Or.inr (fun kd k h => rfl)
theorem mC_nm {E : VV} {i : Nat} : nmS E (mC E i) := by
  refine ⟨mC_o (by omega), fun a ha => ⟨?_, Or.inr ⟨a, by rw [eK_mC] at ha; exact ha, mC_95 (by omega)⟩⟩⟩
  rw [eK_mC] at ha
  by_cases e : a = i
  · subst e
    rcases mC_w (E := E) (i := a) with h | h
    · exact Or.inl h
    · have eA' : eA (mC E a) a = eA E a := by unfold eA; rw [h 10 0 (by omega)]
      have eB' : eB (mC E a) a = eB E a := by unfold eB; rw [h 14 0 (by omega)]
      exact Or.inr ⟨a, ha, eB', h 15 _ (by omega), h 11 _ (by omega), h 15 _ (by omega), by rw [eA', h 11 _ (by omega)]⟩
  · have eA' : eA (mC E i) a = eA E a := by unfold eA; rw [mC_n e (by omega) (by omega)]
    have eB' : eB (mC E i) a = eB E a := by unfold eB; rw [mC_n e (by omega) (by omega)]
    exact Or.inr ⟨a, ha, eB', mC_n e (by omega) (by omega), mC_n e (by omega) (by omega), mC_n e (by omega) (by omega), by rw [eA', mC_n e (by omega) (by omega)]⟩
theorem mvC_S (E : VV) (j k : Nat) : mvC E j (k + 1) = mvC (mC E j) (j + 1) k := rfl
theorem mvC_all : ∀ {k j : Nat} {E : VV}, (∀ kd q x, kd ≤ 4 → mvC E j k kd q x = E kd q x) ∧ (∀ t, mvC E j k 5 0 t = -1 ∨ mvC E j k 5 0 t = E 5 0 t) ∧ (∀ i, mvC E j k 9 i 0 = E 9 i 0 ∧ mvC E j k 9 i 5 = E 9 i 5) ∧ (iN E → iN (mvC E j k)) := by
  intro k
  induction k with
  | zero => exact fun {j E} => ⟨fun _ _ _ _ => rfl, fun _ => Or.inr rfl, fun _ => ⟨rfl, rfl⟩, fun h => h⟩
  | succ k ih =>
    intro j E
    obtain ⟨h1, h2, h3, h4⟩ := ih (j := j + 1) (E := mC E j)
    rw [mvC_S]
    refine ⟨fun kd q x h => (h1 kd q x h).trans (mC_o h), fun t => ?_, fun i => ⟨(h3 i).1.trans (mC_95 (by omega)), (h3 i).2.trans (mC_95 (by omega))⟩, fun h => h4 (iN_s mC_nm h)⟩
    rcases h2 t with e | e
    · exact Or.inl e
    · rw [e]
      exact mC_5
/-! packets' ticks and sendings -/
theorem ls_5 {E : VV} {r : Nat → Int32} {i k : Nat} (h : k ≠ 6) : lsE E r 9 i k = E 9 i k := ls_o h
theorem dv_o {E : VV} {r : Nat → Int32} {i k : Nat} (h : k = 0) : dvE E r 9 i k = E 9 i k := by
  unfold dvE
  split
  · split
    · rw [uV_p (by omega), uV_p (by omega), uV_p (by omega), uV_k (by omega)]
    · rw [uV_k (by omega), uV_p (by omega), uV_p (by omega), uV_p (by omega), uV_k (by omega)]
  · rw [uV_k (by omega)]
theorem dv_5 {E : VV} {r : Nat → Int32} {i : Nat} : dvE E r 9 i 5 = E 9 i 5 ∨ dvE E r 9 i 5 = E 9 i 5 + 1 := by
  have key : ∀ W : VV, (∀ a, W 9 a 5 = uV (uV E 8 0 1 (E 8 0 1 + 1)) 9 (r 0).toInt.toNat 5 (E 9 (r 0).toInt.toNat 5 + 1) 9 a 5) → W 9 i 5 = E 9 i 5 ∨ W 9 i 5 = E 9 i 5 + 1 := fun W h => by
    rw [h]
    by_cases e : i = (r 0).toInt.toNat
    · rw [← e]
      exact Or.inr uV_s
    · rw [uV_i e, uV_k (by omega)]
      exact Or.inl rfl
  unfold dvE
  split
  · split
    · exact key _ (fun a => by rw [uV_p (by omega), uV_p (by omega)])
    · exact key _ (fun a => by rw [uV_k (by omega), uV_p (by omega), uV_p (by omega)])
  · exact Or.inl (uV_k (by omega))
theorem gP_95 {E : VV} {r : Nat → Int32} {i : Nat} : (gP E r).2.2 9 i 0 = E 9 i 0 ∧ ((gP E r).2.2 9 i 5 = E 9 i 5 ∨ (gP E r).2.2 9 i 5 = E 9 i 5 + 1) := by
  have W : ∀ {r : Nat → Int32} {b c n : Nat} {q : Int}, (gW E r b c n q).2.2 9 i 0 = E 9 i 0 ∧ ((gW E r b c n q).2.2 9 i 5 = E 9 i 5 ∨ (gW E r b c n q).2.2 9 i 5 = E 9 i 5 + 1) := by
    intro r b c n q
    unfold gW
    split
    · exact ⟨dv_o rfl, dv_5⟩
    · split
      · exact ⟨rfl, Or.inl rfl⟩
      · exact ⟨ls_5 (by decide), Or.inl (ls_5 (by decide))⟩
  unfold gP
  split
  · exact ⟨rfl, Or.inl rfl⟩
  · unfold gO
    split
    · split
      · exact W
      · exact W
    · exact ⟨ls_5 (by decide), Or.inl (ls_5 (by decide))⟩
theorem mvP_95 : ∀ {l : List (Nat → Int32)} {E : VV} {i : Nat}, (mvP E l).2 9 i 0 = E 9 i 0 ∧ ∃ x, x ≤ l.length ∧ (mvP E l).2 9 i 5 = E 9 i 5 + nn x := by
  intro l
  induction l with
  | nil => exact fun {E i} => ⟨rfl, 0, Nat.le_refl _, (Int32.add_zero _).symm⟩
  | cons r l ih =>
    intro E i
    obtain ⟨h1, x, h2, h3⟩ := ih (E := (gP E r).2.2) (i := i)
    obtain ⟨g1, g2⟩ := gP_95 (E := E) (r := r) (i := i)
    rw [mvP_c]
    refine ⟨h1.trans g1, ?_⟩
    dsimp only
    rw [h3]
    rcases g2 with e | e
    · exact ⟨x, by rw [List.length_cons]; omega, by rw [e]⟩
    · exact ⟨1 + x, by rw [List.length_cons]; omega, by rw [e, Int32.add_assoc, nl_1, nn_add]⟩
theorem sP_95 {E : VV} {i a : Nat} : (sP E i).1 9 a 0 = E 9 a 0 ∧ (sP E i).1 9 a 5 = E 9 a 5 := by
  unfold sP sdE
  split
  · dsimp only
    constructor
    · rw [uV_k (by omega), uV_k (by omega), uV_p (by omega), uV_p (by omega)]
    · rw [uV_k (by omega), uV_k (by omega), uV_p (by omega), uV_p (by omega)]
  · dsimp only
    constructor
    · rw [ls_5 (by decide), uV_k (by omega), uV_p (by omega), uV_p (by omega)]
    · rw [ls_5 (by decide), uV_k (by omega), uV_p (by omega), uV_p (by omega)]
theorem sH_95 {E : VV} {i a : Nat} : (sH E i).1 9 a 0 = E 9 a 0 ∧ (sH E i).1 9 a 5 = E 9 a 5 := by
  unfold sH
  split
  · split
    · exact ⟨rfl, rfl⟩
    · split
      · exact ⟨rfl, rfl⟩
      · exact sP_95
  · dsimp only
    exact ⟨uV_p (by omega), uV_p (by omega)⟩
theorem sF_95 {E : VV} {i a : Nat} : (sF E i).1 9 a 0 = E 9 a 0 ∧ (sF E i).1 9 a 5 = E 9 a 5 := by
  have b : ∀ k, k = 0 ∨ k = 5 → bkE E i 1 9 a k = E 9 a k := fun k hk => by
    unfold bkE
    rw [uV_k (by omega), uV_p (by omega)]
  unfold sF
  split
  · exact sH_95
  · split
    · exact ⟨sH_95.1.trans (b 0 (by omega)), sH_95.2.trans (b 5 (by omega))⟩
    · exact sH_95
theorem sA_95 : ∀ {k j : Nat} {E : VV} {a : Nat}, (sA E j k).1 9 a 0 = E 9 a 0 ∧ (sA E j k).1 9 a 5 = E 9 a 5 := by
  intro k
  induction k with
  | zero => exact ⟨rfl, rfl⟩
  | succ k ih =>
    intro j E a
    rw [sA_S]
    exact ⟨ih.1.trans sF_95.1, ih.2.trans sF_95.2⟩
/-- a tick -/
theorem tk_all {E : VV} {l : List (Nat → Int32)} : (∀ kd q x, kd ≤ 4 → ¬ (kd = 0 ∧ (x = 6 ∨ x = 9)) → (tkE E l).1 kd q x = E kd q x) ∧ (∀ t, (tkE E l).1 5 0 t = -1 ∨ (tkE E l).1 5 0 t = E 5 0 t) ∧ (∀ i, (tkE E l).1 9 i 0 = E 9 i 0) ∧ (tkE E l).1 0 0 9 = E 0 0 9 + 1 := by
  have q := mvP_k (E := E) (l := l)
  refine ⟨fun kd a x h h2 => ?_, fun t => ?_, fun i => ?_, (uV_s : uV (sA (mvC (uV (mvP E l).2 0 0 6 (ii (mvP E l).1.length)) 0 (eK E)) 0 (eK E)).1 0 0 9 (E 0 0 9 + 1) 0 0 9 = E 0 0 9 + 1)⟩
  · show uV _ 0 0 9 _ kd a x = _
    rw [uV_at, if_neg (by omega), kS6_sA kd a x (by omega) (by omega) (by omega), mvC_all.1 kd a x h, uV_at, if_neg (by omega), q kd a x (by omega) (by omega)]
  · have e0 : (tkE E l).1 5 0 t = mvC (uV (mvP E l).2 0 0 6 (ii (mvP E l).1.length)) 0 (eK E) 5 0 t := by
      show uV (sA (mvC (uV (mvP E l).2 0 0 6 (ii (mvP E l).1.length)) 0 (eK E)) 0 (eK E)).1 0 0 9 (E 0 0 9 + 1) 5 0 t = _
      rw [uV_k (by omega), kS6_sA 5 0 t (by omega) (by omega) (by omega)]
    rw [e0]
    rcases (mvC_all (E := uV (mvP E l).2 0 0 6 (ii (mvP E l).1.length)) (j := 0) (k := eK E)).2.1 t with e | e
    · exact Or.inl e
    · rw [e, uV_k (by omega), q 5 0 t (by omega) (by omega)]
      exact Or.inr rfl
  · show uV (sA (mvC (uV (mvP E l).2 0 0 6 (ii (mvP E l).1.length)) 0 (eK E)) 0 (eK E)).1 0 0 9 (E 0 0 9 + 1) 9 i 0 = _
    rw [uV_k (by omega), sA_95.1, (mvC_all.2.2.1 _).1, uV_k (by omega), mvP_95.1]
theorem tk_iG {E : VV} {l : List (Nat → Int32)} (hI : iG E l) (hV : iV (tkE E l).1 (tkE E l).2) : iG (tkE E l).1 (tkE E l).2 := by
  obtain ⟨t1, t2, t3, -⟩ := tk_all (E := E) (l := l)
  obtain ⟨-, g2, g3, g4, g5, s⟩ := hI
  have nK : eK (tkE E l).1 = eK E := by unfold eK; rw [t1 0 _ _ (by omega) (by omega)]
  have nN : eN (tkE E l).1 = eN E := by unfold eN; rw [t1 1 _ _ (by omega) (by omega)]
  have nL : eL (tkE E l).1 = eL E := by unfold eL; rw [t1 1 _ _ (by omega) (by omega)]
  have nZ : ∀ f, eZ (tkE E l).1 f = eZ E f := fun f => by unfold eZ; rw [t1 4 _ _ (by omega) (by omega)]
  have nlk : ∀ x y, lkE (tkE E l).1 x y = lkE E x y := fun x y => by
    unfold lkE
    rw [nL]
    exact fi_c (fun j _ _ => by rw [t1 3 _ _ (by omega) (by omega), t1 3 _ _ (by omega) (by omega)])
  refine ⟨hV, fun x y hx hy => ?_, fun f y hf hy e => ?_, fun j hj => ?_, fun j hj => ?_, iS_o s (t1 0 _ _ (by omega) (by omega)) (t1 0 _ _ (by omega) (by omega)) nL nK nN (fun j k => t1 3 _ _ (by omega) (by omega)) t3 (fun f => t1 4 _ _ (by omega) (by omega))⟩
  · rw [t1 2 _ _ (by omega) (by omega), nlk]
    exact g2 x y hx hy
  · rw [nZ]
    rcases t2 (f * 12 + y) with z | z
    · exact absurd z e
    · rw [z] at e
      exact g3 f y hf hy e
  · rw [nL] at hj
    rw [t1 3 _ _ (by omega) (by omega)]
    exact g4 j hj
  · rw [nL] at hj
    rw [nN, nlk, t1 3 _ _ (by omega) (by omega), t1 3 _ _ (by omega) (by omega)]
    exact g5 j hj
theorem tk_NM {T : Nat} {E : VV} {l : List (Nat → Int32)} (h60 : l.length ≤ 60) (hI : iNM T E) : iNM (T + 1) (tkE E l).1 := by
  obtain ⟨hN, τ, a1, a2, a3⟩ := hI
  have q := mvP_k (E := E) (l := l)
  obtain ⟨E1, e1⟩ : ∃ E1, E1 = uV (mvP E l).2 0 0 6 (ii (mvP E l).1.length) := ⟨_, rfl⟩
  have o1 : ∀ kd a x, kd ≠ 8 → kd ≠ 9 → ¬ (kd = 0 ∧ x = 6) → E1 kd a x = E kd a x := fun kd a x h8 h9 h0 => by
    rw [e1, uV_at, if_neg (by omega), q kd a x h8 h9]
  have nK1 : eK E1 = eK E := by unfold eK; rw [o1 0 _ _ (by omega) (by omega) (by omega)]
  have hN1 : iN E1 := by
    intro i hi hB
    have hi' : i < eK E := by rw [← nK1]; exact hi
    have eB' : eB E1 i = eB E i := by unfold eB; rw [o1 14 _ _ (by omega) (by omega) (by omega)]
    have eA' : eA E1 i = eA E i := by unfold eA; rw [o1 10 _ _ (by omega) (by omega) (by omega)]
    rw [eB'] at hB ⊢
    rw [eA', o1 15 _ _ (by omega) (by omega) (by omega), o1 15 _ _ (by omega) (by omega) (by omega), o1 11 _ _ (by omega) (by omega) (by omega), o1 11 _ _ (by omega) (by omega) (by omega)]
    exact hN i hi' hB
  have hN2 := (mvC_all (j := 0) (k := eK E) (E := E1)).2.2.2 hN1
  have st : ∀ kd a x, kd ≠ 8 → kd ≠ 9 → kd ≠ 0 → (tkE E l).1 kd a x = mvC E1 0 (eK E) kd a x := fun kd a x h8 h9 h0 => by
    show uV (sA (mvC (uV (mvP E l).2 0 0 6 (ii (mvP E l).1.length)) 0 (eK E)) 0 (eK E)).1 0 0 9 (E 0 0 9 + 1) kd a x = _
    rw [uV_k h0, kS6_sA kd a x h8 h9 (by omega), e1]
  have nK : eK (tkE E l).1 = eK E := by unfold eK; rw [tk_all.1 0 _ _ (by omega) (by omega)]
  have nK2 : eK (mvC E1 0 (eK E)) = eK E := by
    unfold eK
    rw [mvC_all.1 0 _ _ (by omega), o1 0 _ _ (by omega) (by omega) (by omega)]
  refine ⟨fun i hi hB => ?_, τ + 1, by omega, by rw [tk_all.2.2.2, a2, nn_inc], fun i hi => ?_⟩
  · rw [nK] at hi
    have eB' : eB (tkE E l).1 i = eB (mvC E1 0 (eK E)) i := by unfold eB; rw [st 14 _ _ (by omega) (by omega) (by omega)]
    have eA' : eA (tkE E l).1 i = eA (mvC E1 0 (eK E)) i := by unfold eA; rw [st 10 _ _ (by omega) (by omega) (by omega)]
    rw [eB'] at hB ⊢
    rw [eA', st 15 _ _ (by omega) (by omega) (by omega), st 15 _ _ (by omega) (by omega) (by omega), st 11 _ _ (by omega) (by omega) (by omega), st 11 _ _ (by omega) (by omega) (by omega)]
    exact hN2 i (by rw [nK2]; exact hi) hB
  · rw [nK] at hi
    obtain ⟨δ, d1, d2⟩ := a3 i hi
    obtain ⟨-, x, x1, x2⟩ := mvP_95 (E := E) (l := l) (i := i)
    refine ⟨δ + x, by omega, ?_⟩
    show uV (sA (mvC (uV (mvP E l).2 0 0 6 (ii (mvP E l).1.length)) 0 (eK E)) 0 (eK E)).1 0 0 9 (E 0 0 9 + 1) 9 i 5 = _
    rw [uV_k (by omega), sA_95.2, (mvC_all.2.2.1 i).2, uV_k (by omega), x2, d2, nn_add]
