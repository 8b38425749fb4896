/-! WHAT IS COUNTED: sent, delivered, lost, late, of circuits and in all -/
/-- a packet's tick: it goes on, or is delivered, or is lost -/
theorem gW_c {E : VV} {r : Nat → Int32} {b c n : Nat} {q : Int} : ((gW E r b c n q).1 = true ∧ (gW E r b c n q).2.2 = E ∧ (gW E r b c n q).2.1 0 = r 0 ∧ uP E ((gW E r b c n q).2.1 3) = true) ∨ ((gW E r b c n q).1 = false ∧ ∃ r9, r9 0 = r 0 ∧ ((gW E r b c n q).2.2 = dvE E r9 ∨ (gW E r b c n q).2.2 = lsE E r9)) := by
  unfold gW
  split
  · exact Or.inr ⟨rfl, r, rfl, Or.inl rfl⟩
  · split
    · rename_i h
      exact Or.inl ⟨rfl, rfl, rfl, h⟩
    · exact Or.inr ⟨rfl, pO E b c (q + 1).toNat r, rfl, Or.inr rfl⟩
theorem gP_c {E : VV} {r : Nat → Int32} : ((gP E r).1 = true ∧ (gP E r).2.2 = E ∧ (gP E r).2.1 0 = r 0 ∧ ((gP E r).2.1 3 = r 3 ∨ uP E ((gP E r).2.1 3) = true)) ∨ ((gP E r).1 = false ∧ ∃ r9, r9 0 = r 0 ∧ ((gP E r).2.2 = dvE E r9 ∨ (gP E r).2.2 = lsE E r9)) := by
  have up0 : (pm_up r 6 (r 6 - 1)) 0 = r 0 := rfl
  have w : ∀ {b c n : Nat} {q : Int}, ((gW E (pm_up r 6 (r 6 - 1)) b c n q).1 = true ∧ (gW E (pm_up r 6 (r 6 - 1)) b c n q).2.2 = E ∧ (gW E (pm_up r 6 (r 6 - 1)) b c n q).2.1 0 = r 0 ∧ ((gW E (pm_up r 6 (r 6 - 1)) b c n q).2.1 3 = r 3 ∨ uP E ((gW E (pm_up r 6 (r 6 - 1)) b c n q).2.1 3) = true)) ∨ ((gW E (pm_up r 6 (r 6 - 1)) b c n q).1 = false ∧ ∃ r9, r9 0 = r 0 ∧ ((gW E (pm_up r 6 (r 6 - 1)) b c n q).2.2 = dvE E r9 ∨ (gW E (pm_up r 6 (r 6 - 1)) b c n q).2.2 = lsE E r9)) := by
    intro b c n q
    rcases gW_c (E := E) (r := pm_up r 6 (r 6 - 1)) (b := b) (c := c) (n := n) (q := q) with ⟨a1, a2, a3, a4⟩ | ⟨a1, r9, a2, a3⟩
    · exact Or.inl ⟨a1, a2, a3.trans up0, Or.inr a4⟩
    · exact Or.inr ⟨a1, r9, a2.trans up0, a3⟩
  unfold gP
  split
  · exact Or.inl ⟨rfl, rfl, rfl, Or.inl rfl⟩
  · unfold gO
    split
    · split
      · exact w
      · exact w
    · exact Or.inr ⟨rfl, pm_up r 6 (r 6 - 1), up0, Or.inr rfl⟩
/-- packets of circuit i -/
def cPk (i : Nat) (L : List (Nat → Int32)) : Nat := L.countP (fun r => decide (r 0 = nn i))
theorem cP_ap {i : Nat} {L L' : List (Nat → Int32)} : cPk i (L ++ L') = cPk i L + cPk i L' := List.countP_append
theorem cP_c {i : Nat} {r : Nat → Int32} {L : List (Nat → Int32)} : cPk i (r :: L) = cPk i L + if r 0 = nn i then 1 else 0 := by
  unfold cPk
  rw [List.countP_cons]
  by_cases h : r 0 = nn i
  · rw [if_pos h, if_pos (decide_eq_true h)]
  · rw [if_neg h, if_neg (by rw [decide_eq_false h]; decide)]
theorem cP_0 {i : Nat} : cPk i [] = 0 := rfl
/-- the places of the totals -/
def tw (w : Nat) : Nat := if w = 3 then 4 else w
/-- circuits' numbers and totals: what closed ones leave is c -/
def CN (E : VV) (L : List (Nat → Int32)) (B : Nat) : Prop := ∃ (p : Nat → Nat → Nat) (c : Nat → Nat),
  (∀ i w, i < eK E → w < 4 → E 9 i (4 + w) = nn (p i w)) ∧ (∀ i, i < eK E → p i 0 = p i 1 + p i 2 + cPk i L ∧ p i 3 ≤ p i 1) ∧
  (∀ w, w < 4 → E 8 0 (tw w) = nn (c w + sn (fun i => p i w) 0 (eK E))) ∧ c 0 = c 1 + c 2 ∧ c 3 ≤ c 1 ∧ c 0 + sn (fun i => p i 0) 0 (eK E) ≤ B
theorem CN_B {E : VV} {L : List (Nat → Int32)} {B B' : Nat} (h : CN E L B) (hB : B ≤ B') : CN E L B' := by
  obtain ⟨p, c, h1, h2, h3, h4, h5, h6⟩ := h
  exact ⟨p, c, h1, h2, h3, h4, h5, by omega⟩
theorem sn_one {f : Nat → Nat} {i d : Nat} : ∀ {n a : Nat}, a ≤ i → i < a + n → sn (fun x => if x = i then f x + d else f x) a n = sn f a n + d
  | 0, a, h1, h2 => by omega
  | n + 1, a, h1, h2 => by
    unfold sn
    by_cases e : a = i
    · subst e
      rw [if_pos rfl, sn_c (f := fun x => if x = a then f x + d else f x) (g := f) (fun x x1 _ => if_neg (by omega))]
      omega
    · rw [if_neg e, sn_one (by omega) (by omega)]
      omega
theorem CN_step {E E' : VV} {L L' : List (Nat → Int32)} {B B' i : Nat} {δ : Nat → Nat} (h : CN E L B) (hi : i < eK E) (hK : eK E' = eK E)
    (h9 : ∀ a w, a < eK E → w < 4 → E' 9 a (4 + w) = if a = i then E 9 a (4 + w) + nn (δ w) else E 9 a (4 + w)) (h8 : ∀ w, w < 4 → E' 8 0 (tw w) = E 8 0 (tw w) + nn (δ w))
    (hc : ∀ a, a < eK E → cPk a L' + (if a = i then δ 1 + δ 2 else 0) = cPk a L + (if a = i then δ 0 else 0)) (h3 : δ 3 ≤ δ 1) (hB : B + δ 0 ≤ B') : CN E' L' B' := by
  obtain ⟨p, c, g1, g2, g3, g4, g5, g6⟩ := h
  have s : ∀ w, sn (fun x => if x = i then p x w + δ w else p x w) 0 (eK E) = sn (fun x => p x w) 0 (eK E) + δ w := fun w => sn_one (f := fun x => p x w) (by omega) (by omega)
  refine ⟨fun a w => if a = i then p a w + δ w else p a w, c, fun a w ha hw => ?_, fun a ha => ?_, fun w hw => ?_, g4, g5, ?_⟩
  · rw [hK] at ha
    rw [h9 a w ha hw]
    dsimp only
    by_cases e : a = i
    · rw [if_pos e, if_pos e, g1 a w ha hw, nn_add]
    · rw [if_neg e, if_neg e, g1 a w ha hw]
  · rw [hK] at ha
    have := g2 a ha
    have := hc a ha
    dsimp only
    by_cases e : a = i
    · simp only [if_pos e] at *
      omega
    · simp only [if_neg e] at *
      omega
  · rw [h8 w hw, g3 w hw, nn_add, hK, s]
    congr 1
    omega
  · rw [hK, s]
    omega
theorem CN_eq {E E' : VV} {L L' : List (Nat → Int32)} {B : Nat} (h : CN E L B) (hK : eK E' = eK E) (h9 : ∀ a w, a < eK E → w < 4 → E' 9 a (4 + w) = E 9 a (4 + w)) (h8 : ∀ w, w < 4 → E' 8 0 (tw w) = E 8 0 (tw w)) (hc : ∀ a, a < eK E → cPk a L' = cPk a L) : CN E' L' B := by
  obtain ⟨p, c, g1, g2, g3, g4, g5, g6⟩ := h
  refine ⟨p, c, fun a w ha hw => ?_, fun a ha => ?_, fun w hw => ?_, g4, g5, by rw [hK]; exact g6⟩
  · rw [hK] at ha
    rw [h9 a w ha hw]
    exact g1 a w ha hw
  · rw [hK] at ha
    rw [hc a ha]
    exact g2 a ha
  · rw [h8 w hw, hK]
    exact g3 w hw
/-! a loss, a delivery, a sending -/
theorem ls_at {E : VV} {r : Nat → Int32} {i : Nat} (hi : i < eK E) (hK8 : eK E ≤ 8) (e : r 0 = nn i) : lsE E r = uV (uV E 8 0 2 (E 8 0 2 + 1)) 9 i 6 (E 9 i 6 + 1) := by
  unfold lsE
  rw [e, if_pos (by unfold cR; rw [nn_t (by omega)]; exact decide_eq_true ⟨by omega, by omega⟩), nn_t (by omega)]
  rfl
theorem tw_4 {w : Nat} (hw : w < 4) : (w = 0 ∧ tw w = 0) ∨ (w = 1 ∧ tw w = 1) ∨ (w = 2 ∧ tw w = 2) ∨ (w = 3 ∧ tw w = 4) := by
  unfold tw
  split <;> omega
theorem CN_ls {E : VV} {r : Nat → Int32} {L L' : List (Nat → Int32)} {i B : Nat} (h : CN E L B) (hi : i < eK E) (hK8 : eK E ≤ 8) (e : r 0 = nn i) (hc : ∀ a, a < eK E → cPk a L' + (if a = i then 1 else 0) = cPk a L) : CN (lsE E r) L' B := by
  rw [ls_at hi hK8 e]
  refine CN_step (δ := fun w => if w = 2 then 1 else 0) h hi rfl (fun a w ha hw => ?_) (fun w hw => ?_) (fun a ha => ?_) (by simp) (by simp)
  · rw [uV_at]
    by_cases ea : a = i
    · rw [if_pos ea]
      by_cases w2 : w = 2
      · subst w2
        rw [if_pos ⟨rfl, ea, rfl⟩, ea]
        rfl
      · rw [if_neg (by omega), uV_k (by omega), if_neg w2]
        exact (Int32.add_zero _).symm
    · rw [if_neg ea, if_neg (by omega), uV_k (by omega)]
  · rw [uV_k (by omega), uV_at]
    rcases tw_4 hw with ⟨q1, q2⟩ | ⟨q1, q2⟩ | ⟨q1, q2⟩ | ⟨q1, q2⟩
    · rw [q2, if_neg (by omega), if_neg (by omega)]
      exact (Int32.add_zero _).symm
    · rw [q2, if_neg (by omega), if_neg (by omega)]
      exact (Int32.add_zero _).symm
    · rw [q2, if_pos ⟨rfl, rfl, rfl⟩, if_pos q1]
      rfl
    · rw [q2, if_neg (by omega), if_neg (by omega)]
      exact (Int32.add_zero _).symm
  · have := hc a ha
    by_cases ea : a = i
    · rw [if_pos ea] at this ⊢
      rw [if_pos ea]
      (try dsimp only)
      rw [if_neg (by omega), if_pos rfl, if_neg (by omega)]
      omega
    · rw [if_neg ea] at this ⊢
      rw [if_neg ea]
      omega
theorem CN_dv {E : VV} {r : Nat → Int32} {L L' : List (Nat → Int32)} {i B : Nat} (h : CN E L B) (hi : i < eK E) (hK8 : eK E ≤ 8) (e : r 0 = nn i) (hc : ∀ a, a < eK E → cPk a L' + (if a = i then 1 else 0) = cPk a L) : CN (dvE E r) L' B := by
  rw [dvE_nn hi (by omega) e]
  have z0 : ∀ x : Int32, x = x + nn 0 := fun x => (Int32.add_zero x).symm
  split
  · refine CN_step (δ := fun w => if w = 1 then 1 else 0) h hi rfl (fun a w ha hw => ?_) (fun w hw => ?_) (fun a ha => ?_) (by simp) (by simp)
    · rw [uV_at, if_neg (by omega), uV_at, if_neg (by omega), uV_at, uV_k (by omega)]
      by_cases ea : a = i
      · rw [if_pos ea]
        by_cases w1 : w = 1
        · subst w1
          rw [if_pos ⟨rfl, ea, rfl⟩, ea]
          rfl
        · rw [if_neg (by omega), if_neg w1]
          exact z0 _
      · rw [if_neg ea, if_neg (by omega)]
    · rw [uV_k (by omega), uV_k (by omega), uV_k (by omega), uV_at]
      rcases tw_4 hw with ⟨q1, q2⟩ | ⟨q1, q2⟩ | ⟨q1, q2⟩ | ⟨q1, q2⟩
      · rw [q2, if_neg (by omega), if_neg (by omega)]
        exact z0 _
      · rw [q2, if_pos ⟨rfl, rfl, rfl⟩, if_pos q1]
        rfl
      · rw [q2, if_neg (by omega), if_neg (by omega)]
        exact z0 _
      · rw [q2, if_neg (by omega), if_neg (by omega)]
        exact z0 _
    · have := hc a ha
      by_cases ea : a = i
      · rw [if_pos ea] at this ⊢
        rw [if_pos ea]
        (try dsimp only)
        rw [if_pos rfl, if_neg (by omega), if_neg (by omega)]
        omega
      · rw [if_neg ea] at this ⊢
        rw [if_neg ea]
        omega
  · refine CN_step (δ := fun w => if w = 1 then 1 else if w = 3 then 1 else 0) h hi rfl (fun a w ha hw => ?_) (fun w hw => ?_) (fun a ha => ?_) (by simp) (by simp)
    · rw [uV_at]
      by_cases ea : a = i
      · rw [if_pos ea]
        by_cases w3 : w = 3
        · subst w3
          rw [if_pos ⟨rfl, ea, rfl⟩, ea]
          rfl
        · rw [if_neg (by omega), uV_k (by omega), uV_at, if_neg (by omega), uV_at, uV_k (by omega)]
          by_cases w1 : w = 1
          · subst w1
            rw [if_pos ⟨rfl, ea, rfl⟩, ea]
            rfl
          · rw [if_neg (by omega), if_neg w1, if_neg w3]
            exact z0 _
      · rw [if_neg ea, if_neg (by omega), uV_k (by omega), uV_at, if_neg (by omega), uV_at, if_neg (by omega), uV_k (by omega)]
    · rw [uV_k (by omega), uV_at]
      rcases tw_4 hw with ⟨q1, q2⟩ | ⟨q1, q2⟩ | ⟨q1, q2⟩ | ⟨q1, q2⟩
      · rw [q2, if_neg (by omega), uV_k (by omega), uV_k (by omega), uV_at, if_neg (by omega), if_neg (by omega), if_neg (by omega)]
        exact z0 _
      · rw [q2, if_neg (by omega), uV_k (by omega), uV_k (by omega), uV_at, if_pos ⟨rfl, rfl, rfl⟩, if_pos q1]
        rfl
      · rw [q2, if_neg (by omega), uV_k (by omega), uV_k (by omega), uV_at, if_neg (by omega), if_neg (by omega), if_neg (by omega)]
        exact z0 _
      · rw [q2, if_pos ⟨rfl, rfl, rfl⟩, if_neg (by omega), if_pos q1]
        rfl
    · have := hc a ha
      by_cases ea : a = i
      · rw [if_pos ea] at this ⊢
        rw [if_pos ea]
        (try dsimp only)
        rw [if_pos rfl, if_neg (by omega), if_neg (by omega), if_neg (by omega), if_neg (by omega)]
        omega
      · rw [if_neg ea] at this ⊢
        rw [if_neg ea]
        omega
/-- packets, one after another -/
theorem CN_mvP {B : Nat} : ∀ (l : List (Nat → Int32)) (E : VV) (dn : List (Nat → Int32)), eK E ≤ 8 → (∀ r, r ∈ l → ∃ i, i < eK E ∧ r 0 = nn i) → CN E (dn ++ l) B → CN (mvP E l).2 (dn ++ (mvP E l).1) B := by
  intro l
  induction l with
  | nil => exact fun E dn _ _ h => h
  | cons r l ih =>
    intro E dn hK8 hl h
    obtain ⟨i, hi, e0⟩ := hl r List.mem_cons_self
    have hl' : ∀ r, r ∈ l → ∃ i, i < eK E ∧ r 0 = nn i := fun r hr => hl r (List.mem_cons_of_mem _ hr)
    have cc : ∀ a, a < eK E → cPk a (dn ++ l) + (if a = i then 1 else 0) = cPk a (dn ++ r :: l) := fun a ha => by
      rw [cP_ap, cP_ap, cP_c, e0]
      by_cases ea : a = i
      · rw [if_pos ea, if_pos (by rw [ea])]
        omega
      · rw [if_neg ea, if_neg (fun z => ea (nn_e (by omega) (by omega) z).symm)]
        rfl
    show CN (mvP (gP E r).2.2 l).2 (dn ++ (if (gP E r).1 = true then (gP E r).2.1 :: (mvP (gP E r).2.2 l).1 else (mvP (gP E r).2.2 l).1)) B
    rcases gP_c (E := E) (r := r) with ⟨a1, a2, a3, -⟩ | ⟨a1, r9, a2, a3⟩
    · rw [a1, if_pos rfl, a2]
      have g := ih E (dn ++ [(gP E r).2.1]) hK8 hl' (CN_eq h rfl (fun _ _ _ _ => rfl) (fun _ _ => rfl) (fun a ha => by
        rw [List.append_assoc]
        show cPk a (dn ++ ((gP E r).2.1 :: l)) = _
        rw [cP_ap, cP_ap, cP_c, cP_c, a3]))
      rw [List.append_assoc] at g
      exact g
    · rw [a1, if_neg (by decide)]
      rcases a3 with a3 | a3
      · rw [a3]
        have nK : eK (dvE E r9) = eK E := by rw [dvE_nn hi (by omega) (a2.trans e0)]; split <;> rfl
        exact ih _ dn (by rw [nK]; exact hK8) (by rw [nK]; exact hl') (CN_dv h hi hK8 (a2.trans e0) cc)
      · rw [a3]
        have nK : eK (lsE E r9) = eK E := by rw [ls_at hi hK8 (a2.trans e0)]; rfl
        exact ih _ dn (by rw [nK]; exact hK8) (by rw [nK]; exact hl') (CN_ls h hi hK8 (a2.trans e0) cc)
/-- moves don't count packets -/
theorem mC_9k {E : VV} {i a k : Nat} (h2 : k ≠ 2) (h8 : k ≠ 8) (h9 : k ≠ 9) (h10 : k ≠ 10) : mC E i 9 a k = E 9 a k := by
  have mk : ∀ t : Int32, mkE E t 9 a k = E 9 a k := fun t => mkE_o (by omega)
  have gu : ∀ t : Int32, guE E t 9 a k = E 9 a k := fun t => guE_o (by omega)
  have cl : clF E i 9 a k = E 9 a k := by
    unfold clF
    split
    · rw [uV_k (by omega), gu]
    · rw [gu]
  unfold mC
  split
  · unfold buE
    split
    · split
      · rw [uV_p h8, uV_p h9, uV_p h2]
      · rw [uV_p h9, uV_p h2]
    · rw [uV_p h10, mk]
  · split
    · unfold drE
      split
      · rw [uV_p h9]
      · rw [uV_p h2, uV_p h9]
    · split
      · unfold clE
        split
        · exact cl
        · rw [uV_k (by omega), uV_p h2, uV_k (by omega), twV_o (by omega), cl]
      · rfl
theorem mC_8k {E : VV} {i k : Nat} (h5 : k ≠ 5) : mC E i 8 0 k = E 8 0 k := by
  have mk : ∀ t : Int32, mkE E t 8 0 k = E 8 0 k := fun t => mkE_o (by omega)
  have gu : ∀ t : Int32, guE E t 8 0 k = E 8 0 k := fun t => guE_o (by omega)
  have cl : clF E i 8 0 k = E 8 0 k := by
    unfold clF
    split
    · rw [uV_k (by omega), gu]
    · rw [gu]
  unfold mC
  split
  · unfold buE
    split
    · split
      · rw [uV_k (by omega), uV_k (by omega), uV_k (by omega)]
      · rw [uV_k (by omega), uV_k (by omega)]
    · rw [uV_k (by omega), mk]
  · split
    · unfold drE
      split
      · rw [uV_k (by omega)]
      · rw [uV_k (by omega), uV_k (by omega)]
    · split
      · unfold clE
        split
        · exact cl
        · rw [uV_p h5, uV_k (by omega), uV_k (by omega), twV_o (by omega), cl]
      · rfl
theorem mvC_9k {a k : Nat} (h2 : k ≠ 2) (h8 : k ≠ 8) (h9 : k ≠ 9) (h10 : k ≠ 10) : ∀ {q j : Nat} {E : VV}, mvC E j q 9 a k = E 9 a k := by
  intro q
  induction q with
  | zero => exact fun {j E} => rfl
  | succ q ih =>
    intro j E
    show mvC (mC E j) (j + 1) q 9 a k = _
    rw [ih, mC_9k h2 h8 h9 h10]
theorem mvC_8k {k : Nat} (h5 : k ≠ 5) : ∀ {q j : Nat} {E : VV}, mvC E j q 8 0 k = E 8 0 k := by
  intro q
  induction q with
  | zero => exact fun {j E} => rfl
  | succ q ih =>
    intro j E
    show mvC (mC E j) (j + 1) q 8 0 k = _
    rw [ih, mC_8k h5]
/-- a sending counts itself -/
theorem CN_sP {E : VV} {L : List (Nat → Int32)} {i B : Nat} (h : CN E L B) (hi : i < eK E) (hK8 : eK E ≤ 8) : CN (sP E i).1 (L ++ (sP E i).2) (B + 1) := by
  have z0 : ∀ x : Int32, x = x + nn 0 := fun x => (Int32.add_zero x).symm
  have sd : ∀ L', (∀ a, a < eK E → cPk a L' = cPk a L + if a = i then 1 else 0) → CN (sdE E i) L' (B + 1) := fun L' hc => by
    refine CN_step (δ := fun w => if w = 0 then 1 else 0) h hi rfl (fun a w ha hw => ?_) (fun w hw => ?_) (fun a ha => ?_) (by simp) (by simp)
    · unfold sdE
      rw [uV_k (by omega), uV_at]
      by_cases ea : a = i
      · rw [if_pos ea]
        by_cases w0 : w = 0
        · subst w0
          rw [if_pos ⟨rfl, ea, rfl⟩, ea]
          rfl
        · rw [if_neg (by omega), uV_p (by omega), if_neg w0]
          exact z0 _
      · rw [if_neg ea, if_neg (by omega), uV_p (by omega)]
    · unfold sdE
      rw [uV_at]
      rcases tw_4 hw with ⟨q1, q2⟩ | ⟨q1, q2⟩ | ⟨q1, q2⟩ | ⟨q1, q2⟩
      · rw [q2, if_pos ⟨rfl, rfl, rfl⟩, if_pos q1]
        rfl
      · rw [q2, if_neg (by omega), uV_k (by omega), uV_k (by omega), if_neg (by omega)]
        exact z0 _
      · rw [q2, if_neg (by omega), uV_k (by omega), uV_k (by omega), if_neg (by omega)]
        exact z0 _
      · rw [q2, if_neg (by omega), uV_k (by omega), uV_k (by omega), if_neg (by omega)]
        exact z0 _
    · rw [hc a ha]
      by_cases ea : a = i
      · rw [if_pos ea, if_pos ea, if_pos ea]
        (try dsimp only)
        rw [if_neg (by omega), if_neg (by omega), if_pos rfl]
      · rw [if_neg ea, if_neg ea, if_neg ea]
  have c1 : ∀ a, a < eK E → cPk a (L ++ [nwR E i]) = cPk a L + if a = i then 1 else 0 := fun a ha => by
    rw [cP_ap, cP_c, nw_0]
    by_cases ea : a = i
    · rw [if_pos ea, if_pos (by rw [ea])]
      rfl
    · rw [if_neg ea, if_neg (fun z => ea (nn_e (by omega) (by omega) z).symm)]
      rfl
  rcases sP_c (E := E) (i := i) with ⟨-, e⟩ | ⟨-, e⟩
  · rw [e]
    show CN (uV (sdE E i) 0 0 6 (E 0 0 6 + 1)) (L ++ [nwR E i]) (B + 1)
    exact CN_eq (sd _ c1) rfl (fun a w _ _ => uV_k (by omega)) (fun w _ => uV_k (by omega)) (fun _ _ => rfl)
  · rw [e]
    refine CN_ls (r := nwR E i) (L := L ++ [nwR E i]) (sd _ c1) hi hK8 nw_0 (fun a ha => ?_)
    have : a < eK E := ha
    rw [c1 a this, List.append_nil]
theorem CN_sF {E : VV} {L : List (Nat → Int32)} {i B : Nat} (h : CN E L B) (hi : i < eK E) (hK8 : eK E ≤ 8) : CN (sF E i).1 (L ++ (sF E i).2) (B + 1) := by
  have key : ∀ E', CN E' L B → eK E' = eK E → CN (sH E' i).1 (L ++ (sH E' i).2) (B + 1) := by
    intro E' h' hK
    rcases sH_c (E := E') (i := i) with e | e | ⟨-, e⟩
    · rw [e, List.append_nil]
      show CN (uV E' 9 i 8 (E' 9 i 8 - 1)) L (B + 1)
      exact CN_B (CN_eq h' rfl (fun a w _ _ => uV_p (by omega)) (fun w _ => uV_k (by omega)) (fun _ _ => rfl)) (by omega)
    · rw [e, List.append_nil]
      exact CN_B h' (by omega)
    · rw [e]
      exact CN_sP h' (by rw [hK]; exact hi) (by rw [hK]; exact hK8)
  rcases sF_c (E := E) (i := i) with e | e
  · rw [e]
    exact key E h rfl
  · rw [e]
    refine key _ (CN_eq h (kS6_K kS6_bk) (fun a w _ _ => bk_at (by omega) (by omega)) (fun w hw => bk_at ?_ (by omega)) (fun _ _ => rfl)) (kS6_K kS6_bk)
    rcases tw_4 hw with ⟨q1, q2⟩ | ⟨q1, q2⟩ | ⟨q1, q2⟩ | ⟨q1, q2⟩ <;> omega
theorem CN_sA : ∀ (k j : Nat) (E : VV) (L : List (Nat → Int32)) (B : Nat), CN E L B → eK E ≤ 8 → j + k = eK E → CN (sA E j k).1 (L ++ (sA E j k).2) (B + k) := by
  intro k
  induction k with
  | zero =>
    intro j E L B h _ _
    show CN E (L ++ []) (B + 0)
    rw [List.append_nil]
    exact h
  | succ k ih =>
    intro j E L B h hK8 hj
    have nK : eK (sF E j).1 = eK E := kS6_K kS6_sF
    have g := ih (j + 1) (sF E j).1 (L ++ (sF E j).2) (B + 1) (CN_sF h (by omega) hK8) (by rw [nK]; exact hK8) (by rw [nK]; omega)
    rw [sA_S]
    dsimp only
    rw [List.append_assoc] at g
    rw [show B + (k + 1) = B + 1 + k by omega]
    exact g
/-- a tick -/
theorem CN_tk {E : VV} {l : List (Nat → Int32)} {B : Nat} (hV : iV E l) (hS : hS0 E) (h60 : l.length ≤ 60) (h : CN E l B) : CN (tkE E l).1 (tkE E l).2 (B + 8) := by
  have hK8 := hV.1.2.2.2.2.1.2.2.1
  obtain ⟨a1, a2, a3, a4, a5, a6, a7, a8, a9⟩ := tk1_ok hV hS h60
  obtain ⟨b1, b2, b3, b4, b5, b6, b7⟩ := tk2_ok hV hS h60
  have h1 : CN (mvP E l).2 (mvP E l).1 B := by
    have := CN_mvP l E [] hK8 (fun r hr => (hV.2.2.2.2.1 r hr).1) h
    exact this
  have h2 : CN (mvC (tk1 E l) 0 (eK E)) (mvP E l).1 B := by
    refine CN_eq h1 (b7.trans (kS6_K (kS6_k (fun kd i k a c => kQ_mvP kd i k a (by omega)))).symm) (fun a w _ hw => ?_) (fun w hw => ?_) (fun _ _ => rfl)
    · rw [mvC_9k (by omega) (by omega) (by omega) (by omega)]
      exact uV_k (by omega)
    · rw [mvC_8k (by rcases tw_4 hw with ⟨q1, q2⟩ | ⟨q1, q2⟩ | ⟨q1, q2⟩ | ⟨q1, q2⟩ <;> omega)]
      exact uV_k (by omega)
  have h3 := CN_sA (eK E) 0 _ _ B h2 (by rw [b7]; exact hK8) (by rw [b7]; omega)
  rw [tkE_1]
  show CN (uV (sA (mvC (tk1 E l) 0 (eK E)) 0 (eK E)).1 0 0 9 (E 0 0 9 + 1)) ((mvP E l).1 ++ (sA (mvC (tk1 E l) 0 (eK E)) 0 (eK E)).2) (B + 8)
  exact CN_B (CN_eq h3 rfl (fun a w _ _ => uV_k (by omega)) (fun w _ => uV_k (by omega)) (fun _ _ => rfl)) (by omega)
/-- packets lie on links -/
def iK3 (E : VV) (l : List (Nat → Int32)) : Prop := ∀ r, r ∈ l → ∃ j, j < eL E ∧ r 3 = nn j
theorem uP_l {E : VV} {x : Int32} (h : uP E x = true) (hL : eL E ≤ 16) : ∃ j, j < eL E ∧ x = nn j := by
  have q := of_decide_eq_true h
  exact (rgC (by omega) ⟨q.1, q.2.1⟩).elim fun j hj => ⟨j, hj⟩
theorem iK3_mvP : ∀ (l : List (Nat → Int32)) (E : VV), eL E ≤ 16 → iK3 E l → iK3 E (mvP E l).1 := by
  intro l
  induction l with
  | nil => exact fun E _ h => h
  | cons r l ih =>
    intro E hL h
    have hl : iK3 E l := fun r hr => h r (List.mem_cons_of_mem _ hr)
    have k8 : kQ E (gP E r).2.2 := kQ_gP
    have nL : eL (gP E r).2.2 = eL E := kQ_L k8
    have g : iK3 E (mvP (gP E r).2.2 l).1 := by
      have := ih (gP E r).2.2 (by rw [nL]; exact hL) (fun r hr => by rw [nL]; exact hl r hr)
      intro r hr
      rw [← nL]
      exact this r hr
    show iK3 E (if (gP E r).1 = true then (gP E r).2.1 :: (mvP (gP E r).2.2 l).1 else (mvP (gP E r).2.2 l).1)
    rcases gP_c (E := E) (r := r) with ⟨a1, a2, a3, a4⟩ | ⟨a1, -⟩
    · rw [a1, if_pos rfl]
      intro r' hr'
      rcases List.mem_cons.mp hr' with z | z
      · subst z
        rcases a4 with a4 | a4
        · rw [a4]
          exact h r List.mem_cons_self
        · exact uP_l a4 hL
      · exact g r' z
    · rw [a1, if_neg (by decide)]
      exact g
theorem iK3_tk {E : VV} {l : List (Nat → Int32)} (hV : iV E l) (hS : hS0 E) (h60 : l.length ≤ 60) (h : iK3 E l) : iK3 (tkE E l).1 (tkE E l).2 := by
  have hL16 := hV.1.2.2.2.2.1.2.1
  obtain ⟨a1, a2, a3, a4, a5, a6, a7, a8, a9⟩ := tk1_ok hV hS h60
  obtain ⟨b1, b2, b3, b4, b5, b6, b7⟩ := tk2_ok hV hS h60
  have nL : eL (mvC (tk1 E l) 0 (eK E)) = eL E := by
    unfold eL
    rw [b6 1 0 1 (by omega), tk1_6 1 0 1 (by omega) (by omega) (by omega)]
  have sA3 : ∀ (k j : Nat) (E : VV), eL E ≤ 16 → ∀ r, r ∈ (sA E j k).2 → ∃ j, j < eL E ∧ r 3 = nn j := by
    intro k
    induction k with
    | zero => exact fun j E _ r hr => by cases hr
    | succ k ih =>
      intro j E hL r hr
      rw [sA_S] at hr
      rcases List.mem_append.mp hr with z | z
      · exact uP_l (sF_r z).2.1 hL
      · have nL2 : eL (sF E j).1 = eL E := kS6_L kS6_sF
        have := ih (j + 1) (sF E j).1 (by rw [nL2]; exact hL) r z
        rw [nL2] at this
        exact this
  have nL3 : eL (tkE E l).1 = eL E := by
    unfold eL
    rw [tk_all.1 1 0 1 (by omega) (by omega)]
  intro r hr
  rw [nL3]
  rw [tkE_1] at hr
  rcases List.mem_append.mp hr with z | z
  · exact iK3_mvP l E hL16 h r z
  · have := sA3 _ _ _ (by rw [nL]; exact hL16) r z
    rw [nL] at this
    exact this
