/-! THE LAW: its own numbers; what is drawn -/
def LX (H : fm_H) (o x sc : Nat) : Prop := kX H x ∧ fm_is H o 12 ∧ H.2.1 o 0 = x ∧ fm_ia H sc .int false ∧ fm_sz H sc ≤ 1000000 ∧ (o < x ∨ x + 661 ≤ o) ∧ (fm_g H < x ∨ x + 661 ≤ fm_g H) ∧ fm_g H ≠ o ∧ H.1 (fm_g H) = none
def LQ (H : fm_H) (o sc : Nat) (sf : Int32) (N : Nat) (m : fm_M) : Prop := m.2.1 o 1 = sc ∧ m.1 o 3 = sf ∧ (∃ k, k ≤ N ∧ m.1 o 2 = nn k) ∧ ∃ c, c ≤ N ∧ m.1 (fm_g H) 0 = nn c
theorem and_nn (y : Int32) : 0 ≤ (y &&& (2147483647 : Int32)).toInt := by
  have h : (y &&& (2147483647 : Int32)).toInt = ((y &&& (2147483647 : Int32)).toBitVec).toInt := rfl
  rw [h, BitVec.toInt_eq_toNat_cond]
  have e : ((y &&& (2147483647 : Int32)).toBitVec).toNat ≤ 2147483647 := by
    have : ((y &&& (2147483647 : Int32)).toBitVec).toNat = y.toBitVec.toNat &&& 2147483647 := rfl
    rw [this]
    exact Nat.and_le_right
  split <;> omega
theorem dvN {a n : Nat} (ha : a < 2147483648) (h1 : 1 ≤ n) (hn : n ≤ 1000000) : ∃ v, v < n ∧ nn a - nn a / nn n * nn n = nn v := by
  have ea : (nn a).toInt = a := ii_toInt (by omega) (by omega)
  have en : (nn n).toInt = n := ii_toInt (by omega) (by omega)
  have hq : a / n ≤ a := Nat.div_le_self a n
  have hm : a / n * n ≤ a := Nat.div_mul_le_self a n
  have hd : nn a / nn n = nn (a / n) := by
    rw [← Int32.toInt_inj, Int32.toInt_div, ea, en]
    have e : ((a : Int).tdiv (n : Int)) = ((a / n : Nat) : Int) := by
      rw [Int.tdiv_eq_ediv_of_nonneg (by omega)]
      rfl
    rw [e]
    obtain ⟨q, eq⟩ : ∃ q, q = a / n := ⟨_, rfl⟩
    rw [← eq] at hq ⊢
    have t : (nn q).toInt = (q : Int) := ii_toInt (by omega) (by omega)
    rw [t]
    exact Int.bmod_eq_of_le (by omega) (by omega)
  refine ⟨a % n, Nat.mod_lt _ (by omega), ?_⟩
  rw [hd, nn_mul, nn_sub hm]
  have e1 := Nat.div_add_mod a n
  rw [Nat.mul_comm] at e1
  exact congrArg nn (by omega)
theorem modN {X : Int32} {n : Nat} (h : 0 ≤ X.toInt) (h1 : 1 ≤ n) (h2 : n < 1000000) : ∃ v, v < n ∧ X - X / nn n * nn n = nn v := by
  obtain ⟨a, ha⟩ : ∃ a : Nat, X.toInt = a := ⟨X.toInt.toNat, by omega⟩
  have hx : X = nn a := by
    rw [ii_of X, ha]
    rfl
  have hlt := Int32.toInt_lt X
  rw [hx]
  exact dvN (by omega) h1 (by omega)
section
variable {H : fm_H} {m m1 m2 : fm_M} {o x sc N : Nat} {sf : Int32}
theorem LQ_m {N' : Nat} (h : LQ H o sc sf N m) (hN : N ≤ N') : LQ H o sc sf N' m := by
  obtain ⟨h1, h2, ⟨k, k1, k2⟩, c, c1, c2⟩ := h
  exact ⟨h1, h2, ⟨k, by omega, k2⟩, c, by omega, c2⟩
theorem LQ_l (hX : LX H o x sc) (h : LQ H o sc sf N m) (hf : lF x m m1) : LQ H o sc sf N m1 := by
  obtain ⟨h1, h2, ⟨k, k1, k2⟩, c, c1, c2⟩ := h
  have ho := fun k => hf.1 o k hX.2.2.2.2.2.1
  have hg := fun k => hf.1 (fm_g H) k hX.2.2.2.2.2.2.1
  exact ⟨((ho 1).2).trans h1, ((ho 3).1).trans h2, ⟨k, k1, ((ho 2).1).trans k2⟩, c, c1, ((hg 0).1).trans c2⟩
/-- an exception is counted -/
theorem LQ_n (hX : LX H o x sc) (h : LQ H o sc sf N m) (hN : N < 100000) : fl_n H m < 1000000 ∧ 0 ≤ (m.1 (fm_g H) 0).toInt := by
  obtain ⟨h1, h2, h3, c, c1, c2⟩ := h
  unfold fl_n
  rw [c2, nn_t (by omega)]
  split <;> omega
theorem LQ_e (hX : LX H o x sc) (h : LQ H o sc sf N m) : LQ H o sc sf (N + 1) (fl_e H m) ∧ ag x (x + 661) m (fl_e H m) := by
  obtain ⟨h1, h2, ⟨k, k1, k2⟩, c, c1, c2⟩ := h
  have hgo := hX.2.2.2.2.2.2.2.1
  have hgx := hX.2.2.2.2.2.2.1
  have w : ∀ a k, a ≠ fm_g H → (fl_e H m).1 a k = m.1 a k := fun a k h => si_o (fun z => h z.1)
  refine ⟨⟨h1, (w o 3 (Ne.symm hgo)).trans h2, ⟨k, by omega, (w o 2 (Ne.symm hgo)).trans k2⟩, c + 1, by omega, ?_⟩, fun a k z1 z2 => ⟨w a k (by omega), rfl⟩⟩
  show (fm_si m (fm_g H) 0 (m.1 (fm_g H) 0 + 1)).1 (fm_g H) 0 = _
  rw [si_s, c2, nn_inc]
theorem q_at {v : Nat} (hv : v < 1000000) (h : fm_sz H sc ≤ v ∨ v < fm_sz H sc) (hs : fm_sz H sc ≤ 1000000) : ∃ y, f_L_at H sc (nn v) m = some (y, m) := by
  have h13 : ∀ v1 s0, ∃ y, f_L_at_13 H v1 s0 m = some (y, m) := fun v1 s0 => by
    unfold f_L_at_13
    split
    · exact ⟨_, rfl⟩
    · split <;> exact ⟨_, rfl⟩
  unfold f_L_at
  split
  · exact h13 _ _
  · rename_i c
    have hlt : v < fm_sz H sc := by
      rcases h with h | h
      · exact absurd (by
          have e1 : (Int32.ofNat (fm_sz H sc)).toInt = fm_sz H sc := by
            rw [ii_ofNat]
            exact ii_toInt (by omega) (by omega)
          rw [Int32.le_iff_toInt_le, nn_t hv, e1]
          omega) c
      · exact h
    rw [if_pos ((nn_in (by omega)).mpr hlt)]
    exact h13 _ _
/-- a number is drawn -/
theorem q_draw (hX : LX H o x sc) (h : LQ H o sc sf N m) (hN : N < 100000) {n : Nat} (h1 : 1 ≤ n) (h2 : n < 1000000) : fE (f_L_draw H o (nn n) m) (fun r m1 => (∃ v, v < n ∧ r = nn v) ∧ LQ H o sc sf (N + 1) m1 ∧ ag x (x + 661) m m1) := by
  obtain ⟨q1, q2, ⟨k, k1, k2⟩, c, c1, c2⟩ := h
  obtain ⟨x1, x2, x3, x4, x5, x6, x7, x8, x9⟩ := hX
  have hab : fm_iab H (m.2.1 o 1) .int false = true := by
    rw [q1]
    exact decide_eq_true x4
  unfold f_L_draw
  rw [if_pos hab, if_pos hab, q1, k2]
  obtain ⟨M, hM1, hM2, hM3⟩ : ∃ M, 1 ≤ M ∧ M ≤ 1000000 ∧ pm_mm true (1 : Int32) (Int32.ofNat (fm_sz H sc)) = nn M ∧ (M ≤ fm_sz H sc ∨ fm_sz H sc = 0) := by
    by_cases z : fm_sz H sc ≤ 1
    · refine ⟨1, by omega, by omega, ?_, by omega⟩
      show (if (1 : Int32) < Int32.ofNat (fm_sz H sc) then Int32.ofNat (fm_sz H sc) else 1) = nn 1
      rcases (show fm_sz H sc = 0 ∨ fm_sz H sc = 1 by omega) with e | e <;> rw [e] <;> decide
    · refine ⟨fm_sz H sc, by omega, x5, ?_, by omega⟩
      show (if (1 : Int32) < Int32.ofNat (fm_sz H sc) then Int32.ofNat (fm_sz H sc) else 1) = _
      rw [ii_ofNat, if_pos (by
        rw [Int32.lt_iff_toInt_lt, ii_toInt (by omega) (by omega)]
        show (1 : Int) < _
        omega)]
      rfl
  obtain ⟨hM3, hM4⟩ := hM3
  have hM5 : M < 1000000 ∨ M = 1000000 := by omega
  rw [hM3, if_neg (by
    intro e
    have := (nn_eq (a := M) (b := 0) (by omega) (by omega)).mp (e.trans nl_0)
    omega)]
  obtain ⟨v, hv1, hv2⟩ := dvN (a := k) (n := M) (by omega) hM1 hM2
  rw [hv2]
  obtain ⟨y, ey⟩ := q_at (H := H) (m := m) (sc := sc) (v := v) (by omega) (by omega) x5
  rw [ey, fb_n, fb_d, if_neg (by
    intro e
    have := (nn_eq (a := n) (b := 0) (by omega) (by omega)).mp (e.trans nl_0)
    omega)]
  refine fE_ret ⟨modN (and_nn _) h1 h2, ⟨q1, ?_, ⟨k + 1, by omega, ?_⟩, c, by omega, ?_⟩, fun a k z1 z2 => ⟨si_o (by omega), rfl⟩⟩
  · rw [si_o (by omega)]
    exact q2
  · rw [si_s, k2, nn_inc]
  · rw [si_o (fun z => x8 z.1)]
    exact c2
end
