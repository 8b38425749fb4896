theorem rt_F {ret : Option FieldType} {st : List Value} {S : pm_S} {ins : Instr} (h : pm_rt ret (fun _ _ => False) st S ins) : False := by
  unfold pm_rt at h
  split at h
  · obtain ⟨v, ty, -, -, -, h⟩ := h
    exact h
  · exact h.2.2
  · obtain ⟨v, ty, -, -, -, h⟩ := h
    exact h
  · obtain ⟨v, -, -, h⟩ := h
    exact h
  · obtain ⟨v, -, -, h⟩ := h
    exact h
  · exact h
theorem ii_110 : pm_ii RL 110 yX11_init 0 := ⟨Or.inl (pt_w_in (i := 142) (by decide +kernel)), pt_w_in (i := 143) (by decide +kernel), by decide +kernel, pt_na_ok (by decide +kernel)⟩
theorem ii_113 : pm_ii RL 113 yX12_init 0 := ⟨Or.inl (pt_w_in (i := 1586) (by decide +kernel)), pt_w_in (i := 1587) (by decide +kernel), by decide +kernel, pt_na_ok (by decide +kernel)⟩
theorem ac_L : Cond.arrayClass .long ∈ pm_W := pt_w_in (i := 2157) (by decide +kernel)
theorem ac_D : Cond.arrayClass .double ∈ pm_W := pt_w_in (i := 2158) (by decide +kernel)
theorem nw_8 : Cond.classLink RL 8 RX11 ∈ pm_W ∧ Cond.instantiable RX11 9 ∈ pm_W ∧ Cond.initialized RX11 ∈ pm_W := ⟨pt_w_in (i := 140) (by decide +kernel), pt_w_in (i := 141) (by decide +kernel), pt_w_in (i := 116) (by decide +kernel)⟩
theorem nw_111 : Cond.classLink RL 111 RX12 ∈ pm_W ∧ Cond.instantiable RX12 29 ∈ pm_W ∧ Cond.initialized RX12 ∈ pm_W := ⟨pt_w_in (i := 1584) (by decide +kernel), pt_w_in (i := 1585) (by decide +kernel), pt_w_in (i := 128) (by decide +kernel)⟩
theorem n1_1 : (Int32.ofInt 1).toNatClampNeg = 1 := by decide
section SRT
variable {G : pm_G} {s : State} {b L fr : Nat} {xs : Nat → Int32}
/-- the law's objects and arrays are made -/
def lw5 (x : Nat) (S4 : pm_S) : pm_S := pm_new (pm_new S4 (x + 673) (.inr (.long, true), (Int32.ofInt 1).toNatClampNeg, fun _ => defaultValue .long)) (x + 674) (.inr (.double, true), (Int32.ofInt 1).toNatClampNeg, fun _ => defaultValue .double)
theorem lw_mem {S1 S2 S3 S4 : pm_S} {F1 F2 : Nat → Nat → Value} (hb : b < s.heap.size) (h1 : S1 = pm_new (loM s fr b L xs, some s.heap.size, 0, 0) s.heap.size (px_df 11)) (c1 : cI (lwH s fr) S1 s.heap.size (s.heap.size + 1 + 660) 7121 F1 S2) (g1 : ∀ q, s.heap.size ≤ q → q < s.heap.size + 1 + 660 → gdo (lwH s fr) (lwM s) F1 q)
    (h3 : S3 = pm_new S2 (s.heap.size + 661) (px_df 12)) (c2 : cI (lwH s fr) S3 (s.heap.size + 661) (s.heap.size + 661 + 1 + 11) 6402 F2 S4) (g2 : ∀ q, s.heap.size + 661 ≤ q → q < s.heap.size + 661 + 1 + 11 → gdo (lwH s fr) (lwM s) F2 q) {HH : Heap}
    (hok : pm_ok G s (lw5 s.heap.size S4).1 HH) : pm_ok G s (lwS (lwH s fr) b (s.heap.size + 673) (s.heap.size + 674) L xs (fun _ => .long 0) (fun _ => .double 0) (lwM s) (some (s.heap.size + 675), 675, 13563)).1 HH := by
  obtain ⟨-, i1, o1, -⟩ := c1
  obtain ⟨-, i2, o2, -⟩ := c2
  have e5 : ∀ a, a ≠ s.heap.size + 673 → a ≠ s.heap.size + 674 → (lw5 s.heap.size S4).1 a = S4.1 a := fun a y1 y2 => (pm_up_n _ _ y2).trans (pm_up_n _ _ y1)
  have c13 : ∀ j t, (lwH s fr).1 (s.heap.size + j) = some t → ∀ ci, t.1 = .inl ci → ci < 13 := by
    intro j t ht ci hci
    obtain ⟨tg, n⟩ := t
    dsimp only at hci
    subst hci
    exact gKd_cl ((lwH_hi j).symm.trans ht)
  intro a ce hce
  by_cases ha : a < s.heap.size
  · refine hok a ce ?_
    rw [e5 a (by omega) (by omega), o2 a (Or.inl (by omega)), h3]
    rw [show (pm_new S2 (s.heap.size + 661) (px_df 12)).1 a = S2.1 a from pm_up_n _ _ (by omega), o1 a (Or.inl ha), h1]
    rw [show (pm_new (loM s fr b L xs, some s.heap.size, 0, 0) s.heap.size (px_df 11)).1 a = loM s fr b L xs a from pm_up_n _ _ (by omega)]
    unfold loM
    rw [if_pos ha]
    exact hce
  · by_cases ha1 : a < s.heap.size + 661
    · obtain ⟨t, t1, t2⟩ := i1 a (by omega) (by omega)
      have e := ex_at (X := lwX b (s.heap.size + 673) (s.heap.size + 674) L xs (fun _ => .long 0) (fun _ => .double 0)) (fm_c_at (m := lwM s) t1)
      have hce' := hce.symm.trans e
      cases hce'
      have e9 : (lw5 s.heap.size S4).1 a = some (t.1, t.2, F1 a) := by
        rw [e5 a (by omega) (by omega), o2 a (Or.inl (by omega)), h3]
        rw [show (pm_new S2 (s.heap.size + 661) (px_df 12)).1 a = S2.1 a from pm_up_n _ _ (by omega)]
        exact t2
      obtain ⟨⟨cell, y1, y2⟩, y3⟩ := hok a _ e9
      refine ⟨⟨cell, y1, pm_at_cg y2 (g1 a (by omega) (by omega) t t1) (c13 (a - s.heap.size) t ?_)⟩, y3⟩
      rw [show s.heap.size + (a - s.heap.size) = a by omega]
      exact t1
    · by_cases ha2 : a < s.heap.size + 673
      · obtain ⟨t, t1, t2⟩ := i2 a (by omega) (by omega)
        have e := ex_at (X := lwX b (s.heap.size + 673) (s.heap.size + 674) L xs (fun _ => .long 0) (fun _ => .double 0)) (fm_c_at (m := lwM s) t1)
        have hce' := hce.symm.trans e
        cases hce'
        have e9 : (lw5 s.heap.size S4).1 a = some (t.1, t.2, F2 a) := (e5 a (by omega) (by omega)).trans t2
        obtain ⟨⟨cell, y1, y2⟩, y3⟩ := hok a _ e9
        refine ⟨⟨cell, y1, pm_at_cg y2 (g2 a (by omega) (by omega) t t1) (c13 (a - s.heap.size) t ?_)⟩, y3⟩
        rw [show s.heap.size + (a - s.heap.size) = a by omega]
        exact t1
      · have hn : (lwH s fr).1 a = none := by
          have e := lwH_hi (s := s) (fr := fr) (a - s.heap.size)
          rw [show s.heap.size + (a - s.heap.size) = a by omega] at e
          exact e.trans (gKd_hi (by omega))
        have e := ex_none (X := lwX b (s.heap.size + 673) (s.heap.size + 674) L xs (fun _ => .long 0) (fun _ => .double 0)) (fm_c_n (m := lwM s) hn)
        have hce' := hce.symm.trans e
        by_cases e1 : a = s.heap.size + 673
        · subst e1
          rw [lwX_o] at hce'
          cases hce'
          have e9 : (lw5 s.heap.size S4).1 (s.heap.size + 673) = some (.inr (.long, true), (Int32.ofInt 1).toNatClampNeg, fun _ => defaultValue .long) := by
            unfold lw5 pm_new
            dsimp only
            rw [pm_up_n _ _ (show s.heap.size + 673 ≠ s.heap.size + 674 by omega), pm_up_s]
          rw [n1_1] at e9
          obtain ⟨⟨cell, y1, y2⟩, y3⟩ := hok _ _ e9
          exact ⟨⟨cell, y1, pm_at_cg y2 (fun k hk => rfl) (fun ci hci => by cases hci)⟩, y3⟩
        · by_cases e2 : a = s.heap.size + 674
          · subst e2
            rw [lwX_d (by omega)] at hce'
            cases hce'
            have e9 : (lw5 s.heap.size S4).1 (s.heap.size + 674) = some (.inr (.double, true), (Int32.ofInt 1).toNatClampNeg, fun _ => defaultValue .double) := by
              unfold lw5 pm_new
              dsimp only
              rw [pm_up_s]
            rw [n1_1] at e9
            obtain ⟨⟨cell, y1, y2⟩, y3⟩ := hok _ _ e9
            exact ⟨⟨cell, y1, pm_at_cg y2 (fun k hk => rfl) (fun ci hci => by cases hci)⟩, y3⟩
          · unfold lwX at hce'
            rw [if_neg e1, if_neg e2, if_neg (by omega)] at hce'
            cases hce'
end SRT
