/-! tokens: how the reference finds them -/
def ll (z : Int) : Int64 := Int64.ofInt z
theorem ll_add (a c : Int) : ll a + ll c = ll (a + c) := (Int64.ofInt_add a c).symm
theorem ll_mul (a c : Int) : ll a * ll c = ll (a * c) := (Int64.ofInt_mul a c).symm
theorem ll_sub (a c : Int) : ll a - ll c = ll (a - c) := (Int64.ofInt_sub a c).symm
theorem ll_t {z : Int} (h1 : -9223372036854775808 ≤ z) (h2 : z < 9223372036854775808) : (ll z).toInt = z := by
  unfold ll
  exact Int64.toInt_ofInt_of_le (by omega) (by omega)
theorem ll_nn {t : Nat} (h : t < 1000000) : (nn t).toInt64 = ll t := by
  rw [← Int64.toInt_inj, Int32.toInt_toInt64, nn_t h, ll_t (by omega) (by omega)]
/-- what kinds are to the reference -/
def rkd (k : Nat) : Nat := if k = 0 then 0 else if k = 1 then 2 else if k = 2 then 3 else if k = 3 then 4 else 1
/-- letters in a number -/
def pw (f : Nat → Nat) (s : Nat) : Nat → Nat
  | 0 => 0
  | k + 1 => 27 * pw f s k + (f (s + k) - 96)
def mn (i : Nat) : Nat := if i ≤ 11 then i else 11
/-- the same number, or both too great -/
def vNR (a v : Nat) : Prop := (a = v ∧ a < 1000000) ∨ (a = 1000000 ∧ 1000000 ≤ v ∧ v ≤ 200000000)
def rT (m : fm_M) (b : Nat) (f : Nat → Nat) (n p : Nat) : Prop := m.1 b 12 = nn (rkd (tK f n p)) ∧ m.1 b 11 = nn (tS f n p) ∧ m.1 b 10 = nn (tE f n p) ∧ (tK f n p = 1 → m.1 b 13 = nn (tE f n p - tS f n p) ∧ m.2.2 b 17 = ll (pw f (tS f n p) (mn (tE f n p - tS f n p)))) ∧ (tK f n p = 2 → ∃ v, m.1 b 14 = nn v ∧ vNR (tV f n p) v)
def rW9 (b : Nat) (m m' : fm_M) : Prop := (∀ a k, ¬ (a = b ∧ 10 ≤ k ∧ k ≤ 14) → m'.1 a k = m.1 a k) ∧ m'.2.1 = m.2.1
theorem rW9_rf {b : Nat} {m : fm_M} : rW9 b m m := ⟨fun _ _ _ => rfl, rfl⟩
theorem rW9_tr {b : Nat} {m m1 m2 : fm_M} (h1 : rW9 b m m1) (h2 : rW9 b m1 m2) : rW9 b m m2 := ⟨fun a k h => (h2.1 a k h).trans (h1.1 a k h), h2.2.trans h1.2⟩
theorem rW9_si {b k : Nat} {m : fm_M} {y : Int32} (h : 10 ≤ k ∧ k ≤ 14) : rW9 b m (fm_si m b k y) := ⟨fun a i h' => si_o (by omega), rfl⟩
theorem rW9_sl {b k : Nat} {m : fm_M} {y : Int64} : rW9 b m (fm_sl m b k y) := ⟨fun _ _ _ => rfl, rfl⟩
/-- the text -/
def rTx (m : fm_M) (b n : Nat) (f : Nat → Nat) : Prop := m.1 b 9 = nn n ∧ n ≤ 800 ∧ ∀ k, k < n → m.1 (b + 7) k = nn (f k) ∧ f k < 256
theorem rTx_w {b n : Nat} {m m0 : fm_M} {f : Nat → Nat} (h : rTx m b n f) (hw : rW9 b m m0) : rTx m0 b n f := ⟨(hw.1 _ _ (by omega)).trans h.1, h.2.1, fun k hk => ⟨(hw.1 _ _ (by omega)).trans (h.2.2 k hk).1, (h.2.2 k hk).2⟩⟩
def bA (f : Nat → Nat) (n j : Nat) : Int32 := if n ≤ j then -1 else nn (f j)
theorem sl_1 {m : fm_M} {a k : Nat} {y : Int64} : (fm_sl m a k y).1 = m.1 := rfl
theorem sl_s {m : fm_M} {a k : Nat} {y : Int64} : (fm_sl m a k y).2.2 a k = y := fm_up_s
theorem si_22 {m : fm_M} {a k : Nat} {y : Int32} : (fm_si m a k y).2 = m.2 := rfl
section
variable {H : fm_H} {b n : Nat} {m m0 : fm_M} {f : Nat → Nat}
theorem r_byteAt (hM : kM H b) (hT : rTx m b n f) {j : Nat} (hj : j ≤ n) : f_X12_byteAt H b (nn j) m = some (bA f n j, m) := by
  have hn := hT.2.1
  unfold f_X12_byteAt bA
  rw [hT.1]
  by_cases h : n ≤ j
  · rw [if_pos ((nn_le (by omega) (by omega)).mpr h), if_pos h]
  · rw [if_neg (by rw [nn_le (by omega) (by omega)]; exact h), if_neg h, kM_8 hM, kM_z7 hM, if_pos ((nn_in (by omega)).mpr (by omega)), nn_tn (by omega), (hT.2.2 j (by omega)).1]
theorem r_isLetter {y : Int32} : f_X12_isLetter H y m = some (bi (decide ((97 : Int32) ≤ y ∧ y ≤ 122)), m) := by
  unfold f_X12_isLetter
  rw [r_isBetween, fb_n, if_pos bi_01]
theorem r_isDigit {y : Int32} : f_X12_isDigit H y m = some (bi (decide ((48 : Int32) ≤ y ∧ y ≤ 57)), m) := by
  unfold f_X12_isDigit
  rw [r_isBetween, fb_n, if_pos bi_01]
theorem bA_L {j : Nat} (hf : j < n → f j < 256) : decide ((97 : Int32) ≤ bA f n j ∧ bA f n j ≤ 122) = (decide (j < n) && isL f j) := by
  unfold bA isL
  by_cases h : n ≤ j
  · rw [if_pos h, decide_eq_false (show ¬ j < n by omega), Bool.false_and]
    decide
  · rw [if_neg h, decide_eq_true (show j < n by omega), Bool.true_and, show (97 : Int32) = nn 97 by decide, show (122 : Int32) = nn 122 by decide]
    have := hf (by omega)
    exact decide_eq_decide.mpr (by rw [nn_le (by omega) (by omega), nn_le (by omega) (by omega)])
theorem bA_D {j : Nat} (hf : j < n → f j < 256) : decide ((48 : Int32) ≤ bA f n j ∧ bA f n j ≤ 57) = (decide (j < n) && isD f j) := by
  unfold bA isD
  by_cases h : n ≤ j
  · rw [if_pos h, decide_eq_false (show ¬ j < n by omega), Bool.false_and]
    decide
  · rw [if_neg h, decide_eq_true (show j < n by omega), Bool.true_and, show (48 : Int32) = nn 48 by decide, show (57 : Int32) = nn 57 by decide]
    have := hf (by omega)
    exact decide_eq_decide.mpr (by rw [nn_le (by omega) (by omega), nn_le (by omega) (by omega)])
theorem vNR_s {a v dd : Nat} (h : vNR a v) (hd : dd ≤ 9) : vNR (if a * 10 + dd ≤ 1000000 then a * 10 + dd else 1000000) (if v ≤ 10000000 then 10 * v + dd else v) := by
  rcases h with ⟨h1, h2⟩ | ⟨h1, h2, h3⟩
  · subst h1
    rw [if_pos (show a ≤ 10000000 by omega)]
    by_cases z : a * 10 + dd ≤ 1000000
    · rw [if_pos z]
      by_cases z2 : a * 10 + dd = 1000000
      · exact Or.inr ⟨z2, by omega, by omega⟩
      · exact Or.inl ⟨by omega, by omega⟩
    · rw [if_neg z]
      exact Or.inr ⟨rfl, by omega, by omega⟩
  · subst h1
    rw [if_neg (by omega)]
    refine Or.inr ⟨rfl, ?_, ?_⟩
    · split <;> omega
    · split <;> omega
theorem r_nx187 (hM : kM H b) : ∀ (k q j a v : Nat) (m : fm_M), rTx m b n f → m.1 b 10 = nn j → m.1 b 14 = nn v → vNR a v → j + k = n → k < q → fE (f_X12_nextToken_187 H b q m) (fun _ m' => rW9 b m m' ∧ m'.1 b 11 = m.1 b 11 ∧ m'.1 b 12 = m.1 b 12 ∧ m'.1 b 10 = nn (wh (isD f) j k) ∧ ∃ v', m'.1 b 14 = nn v' ∧ vNR (fv f j (wh (isD f) j k - j) a) v') := by
  intro k
  induction k with
  | zero =>
    intro q j a v m hT h5 h4 hv h1 h2
    obtain ⟨q, rfl⟩ : ∃ q', q = q' + 1 := ⟨q - 1, by omega⟩
    unfold f_X12_nextToken_187
    rw [h5, r_byteAt hM hT (by omega), fb_n, r_isDigit, fb_n, bA_D (fun h => by omega), decide_eq_false (show ¬ j < n by omega), Bool.false_and, if_pos (by decide)]
    refine fE_ret ⟨rW9_rf, rfl, rfl, h5, v, h4, ?_⟩
    show vNR (fv f j (j - j) a) v
    rw [Nat.sub_self]
    exact hv
  | succ k ih =>
    intro q j a v m hT h5 h4 hv h1 h2
    obtain ⟨q, rfl⟩ : ∃ q', q = q' + 1 := ⟨q - 1, by omega⟩
    have hn := hT.2.1
    obtain ⟨t1, t2⟩ := hT.2.2 j (by omega)
    unfold f_X12_nextToken_187
    rw [h5, r_byteAt hM hT (by omega), fb_n, r_isDigit, fb_n, bA_D (fun h => t2), decide_eq_true (show j < n by omega), Bool.true_and]
    cases hd : isD f j with
    | false =>
      have ew : wh (isD f) j (k + 1) = j := if_neg (by rw [hd]; decide)
      rw [if_pos (by decide), ew]
      refine fE_ret ⟨rW9_rf, rfl, rfl, h5, v, h4, ?_⟩
      rw [Nat.sub_self]
      exact hv
    | true =>
      have hd' : 48 ≤ f j ∧ f j ≤ 57 := of_decide_eq_true hd
      have ew : wh (isD f) j (k + 1) = wh (isD f) (j + 1) k := if_pos hd
      have hr := wh_r (q := isD f) (k := k) (j := j + 1)
      have vs := vNR_s (dd := f j - 48) hv (by omega)
      have hvb : v ≤ 200000000 := by
        rcases hv with ⟨z1, z2⟩ | ⟨_, _, z⟩ <;> omega
      rw [if_neg (by decide), h4, h5]
      have fin : ∀ (v' : Nat) (m' : fm_M), vNR (if a * 10 + (f j - 48) ≤ 1000000 then a * 10 + (f j - 48) else 1000000) v' → m' = fm_si m b 14 (nn v') → fE (fm_bd (fm_si m' b 10 (m'.1 b 10 + (1 : Int32))) fun m5 => f_X12_nextToken_187 H b q m5) (fun _ m' => rW9 b m m' ∧ m'.1 b 11 = m.1 b 11 ∧ m'.1 b 12 = m.1 b 12 ∧ m'.1 b 10 = nn (wh (isD f) j (k + 1)) ∧ ∃ v', m'.1 b 14 = nn v' ∧ vNR (fv f j (wh (isD f) j (k + 1) - j) a) v') := fun v' m' hv' em => by
        have hw : rW9 b m (fm_si m' b 10 (nn (j + 1))) := by rw [em]; exact rW9_tr (rW9_si (by omega)) (rW9_si (by omega))
        rw [show m'.1 b 10 = nn j from by rw [em, si_o (by omega)]; exact h5, nn_inc, fb_d]
        refine fE_w (ih q (j + 1) _ v' _ (rTx_w hT hw) si_s (by rw [si_o (by omega), em]; exact si_s) hv' (by omega) (by omega)) (fun _ m2 ⟨a1, a2, a3, a4, v2, a5, a6⟩ => ⟨rW9_tr hw a1, ?_, ?_, ?_, v2, a5, ?_⟩)
        · rw [a2, si_o (by omega), em, si_o (by omega)]
        · rw [a3, si_o (by omega), em, si_o (by omega)]
        · rw [a4, ew]
        · rw [ew, show wh (isD f) (j + 1) k - j = (wh (isD f) (j + 1) k - (j + 1)) + 1 by omega]
          exact a6
      by_cases z : v ≤ 10000000
      · rw [if_pos (by rw [show (10000000 : Int32) = nn 10000000 by decide]; exact (nn_le (by omega) (by omega)).mpr z), r_byteAt hM hT (by omega), fb_n]
        have eb : bA f n j = nn (f j) := if_neg (by omega)
        rw [eb, nl_10, nn_mul, nn_add, show (48 : Int32) = nn 48 by decide, nn_sub (by omega), show 10 * v + f j - 48 = 10 * v + (f j - 48) by omega, fb_d]
        rw [if_pos z] at vs
        exact fin _ _ vs rfl
      · rw [if_neg (by rw [show (10000000 : Int32) = nn 10000000 by decide, nn_le (by omega) (by omega)]; exact z), fb_d]
        rw [if_neg z] at vs
        exact fin v _ vs rfl
theorem r_nx96 (hM : kM H b) {s : Nat} : ∀ (k q i : Nat) (m : fm_M), rTx m b n f → m.1 b 10 = nn (s + i) → m.1 b 13 = nn i → m.2.2 b 17 = ll (pw f s (mn i)) → s + i + k = n → k < q → fE (f_X12_nextToken_96 H b q m) (fun _ m' => rW9 b m m' ∧ m'.1 b 11 = m.1 b 11 ∧ m'.1 b 12 = m.1 b 12 ∧ m'.1 b 10 = nn (wh (isL f) (s + i) k) ∧ m'.1 b 13 = nn (wh (isL f) (s + i) k - s) ∧ m'.2.2 b 17 = ll (pw f s (mn (wh (isL f) (s + i) k - s)))) := by
  intro k
  induction k with
  | zero =>
    intro q i m hT h5 h13 h17 h1 h2
    obtain ⟨q, rfl⟩ : ∃ q', q = q' + 1 := ⟨q - 1, by omega⟩
    unfold f_X12_nextToken_96
    rw [h5, r_byteAt hM hT (by omega), fb_n, r_isLetter, fb_n, bA_L (fun h => by omega), decide_eq_false (show ¬ s + i < n by omega), Bool.false_and, if_pos (by decide)]
    refine fE_ret ⟨rW9_rf, rfl, rfl, h5, ?_, ?_⟩
    · show m.1 b 13 = nn (s + i - s)
      rw [Nat.add_sub_cancel_left]
      exact h13
    · show m.2.2 b 17 = ll (pw f s (mn (s + i - s)))
      rw [Nat.add_sub_cancel_left]
      exact h17
  | succ k ih =>
    intro q i m hT h5 h13 h17 h1 h2
    obtain ⟨q, rfl⟩ : ∃ q', q = q' + 1 := ⟨q - 1, by omega⟩
    have hn := hT.2.1
    obtain ⟨t1, t2⟩ := hT.2.2 (s + i) (by omega)
    unfold f_X12_nextToken_96
    rw [h5, r_byteAt hM hT (by omega), fb_n, r_isLetter, fb_n, bA_L (fun h => t2), decide_eq_true (show s + i < n by omega), Bool.true_and]
    cases hd : isL f (s + i) with
    | false =>
      have ew : wh (isL f) (s + i) (k + 1) = s + i := if_neg (by rw [hd]; decide)
      rw [if_pos (by decide), ew, Nat.add_sub_cancel_left]
      exact fE_ret ⟨rW9_rf, rfl, rfl, h5, h13, h17⟩
    | true =>
      have hd' : 97 ≤ f (s + i) ∧ f (s + i) ≤ 122 := of_decide_eq_true hd
      have ew : wh (isL f) (s + i) (k + 1) = wh (isL f) (s + (i + 1)) k := if_pos hd
      rw [if_neg (by decide), h13, h5, h17]
      have fin : ∀ y : Int64, y = ll (pw f s (mn (i + 1))) → fE (f_X12_nextToken_149 H (f_X12_nextToken_96 H b q) b y b m) (fun _ m' => rW9 b m m' ∧ m'.1 b 11 = m.1 b 11 ∧ m'.1 b 12 = m.1 b 12 ∧ m'.1 b 10 = nn (wh (isL f) (s + i) (k + 1)) ∧ m'.1 b 13 = nn (wh (isL f) (s + i) (k + 1) - s) ∧ m'.2.2 b 17 = ll (pw f s (mn (wh (isL f) (s + i) (k + 1) - s)))) := fun y hy => by
        unfold f_X12_nextToken_149
        have hw : rW9 b m (fm_si (fm_si (fm_sl m b 17 y) b 13 (nn (i + 1))) b 10 (nn (s + (i + 1)))) := rW9_tr (rW9_tr rW9_sl (rW9_si (by omega))) (rW9_si (by omega))
        rw [fb_d, sl_1, h13, nn_inc, fb_d, si_o (by omega), sl_1, h5, nn_inc, Nat.add_assoc, fb_d]
        refine fE_w (ih q (i + 1) _ (rTx_w hT hw) si_s (by rw [si_o (by omega)]; exact si_s) ?_ (by omega) (by omega)) (fun _ m2 ⟨a1, a2, a3, a4, a5, a6⟩ => ⟨rW9_tr hw a1, ?_, ?_, ?_, ?_, ?_⟩)
        · rw [si_22, si_22, ← hy]
          exact sl_s
        · rw [a2, si_o (by omega), si_o (by omega), sl_1]
        · rw [a3, si_o (by omega), si_o (by omega), sl_1]
        · rw [a4, ew]
        · rw [a5, ew]
        · rw [a6, ew]
      by_cases z : 11 ≤ i
      · rw [if_pos (by rw [nl_11]; exact (nn_le (by omega) (by omega)).mpr z)]
        refine fin _ ?_
        have : mn i = 11 := by
          unfold mn
          split <;> omega
        have e2 : mn (i + 1) = 11 := by
          unfold mn
          split <;> omega
        rw [this, e2]
      · rw [if_neg (by rw [nl_11, nn_le (by omega) (by omega)]; exact z), r_byteAt hM hT (by omega), fb_n]
        have eb : bA f n (s + i) = nn (f (s + i)) := if_neg (by omega)
        refine fin _ ?_
        have e1 : mn i = i := if_pos (by omega)
        have e2 : mn (i + 1) = i + 1 := if_pos (by omega)
        rw [eb, e1, e2, ll_nn (by omega), show (27 : Int64) = ll 27 by decide, show (96 : Int64) = ll 96 by decide, ll_mul, ll_add, ll_sub]
        refine congrArg ll ?_
        show (27 * (pw f s i : Int) + (f (s + i) : Int) - 96) = ((27 * pw f s i + (f (s + i) - 96) : Nat) : Int)
        omega
theorem r_nx0 (hM : kM H b) {p : Nat} (hp : p ≤ n) : ∀ (k q j : Nat) (m : fm_M), rTx m b n f → m.1 b 10 = nn j → j + k = n → wh (isB f) j k = tS f n p → k < q → fE (f_X12_nextToken_0 H b q m) (fun _ m' => rT m' b f n p ∧ rW9 b m m') := by
  -- behind the blanks
  have tail : ∀ (j : Nat) (m : fm_M) (F : fm_M → Option (Unit × fm_M)), rTx m b n f → m.1 b 10 = nn j → j = tS f n p → F = (fun m3 => fm_bd (fm_si m3 b 11 (m3.1 b 10)) fun m4 => fm_bd (fm_si m4 b 13 (0 : Int32)) fun m5 => fm_bd (fm_sl m5 b 17 (0 : Int64)) fun m6 => fm_bd (fm_si m6 b 14 (0 : Int32)) fun m7 => fm_bn (f_X12_byteAt H b (m7.1 b 10) m7) fun x3 m8 => if x3 = (-1 : Int32) then (fm_bd (fm_si m8 b 12 (0 : Int32)) fun m17 => some ((), m17)) else fm_bn (f_X12_isLetter H x3 m8) fun x4 m9 => if x4 = 0 then (fm_bn (f_X12_isDigit H x3 m9) fun x5 m10 => if x5 = 0 then (if x3 = (59 : Int32) then (fm_bd (fm_si m10 b 12 (4 : Int32)) fun m13 => fm_bd (fm_si m13 b 10 (m13.1 b 10 + (1 : Int32))) fun m14 => some ((), m14)) else fm_bd (fm_si m10 b 12 (1 : Int32)) fun m11 => fm_bd (fm_si m11 b 10 (m11.1 b 10 + (1 : Int32))) fun m12 => some ((), m12)) else fm_bd (fm_si m10 b 12 (3 : Int32)) fun m15 => f_X12_nextToken_187 H b fm_N m15) else fm_bd (fm_si m9 b 12 (2 : Int32)) fun m16 => f_X12_nextToken_96 H b fm_N m16) → fE (F m) (fun _ m' => rT m' b f n p ∧ rW9 b m m') := by
    intro j m F hT h10 hj hF
    have hn := hT.2.1
    have hs := tS_r (f := f) hp
    rw [← hj] at hs
    rw [hF]
    dsimp only
    rw [h10, fb_d, fb_d, fb_d, fb_d]
    obtain ⟨m7, em⟩ : ∃ m7, m7 = fm_si (fm_sl (fm_si (fm_si m b 11 (nn j)) b 13 0) b 17 0) b 14 0 := ⟨_, rfl⟩
    have hw : rW9 b m m7 := by
      rw [em]
      exact rW9_tr (rW9_tr (rW9_tr (rW9_si (by omega)) (rW9_si (by omega))) rW9_sl) (rW9_si (by omega))
    have hT7 := rTx_w hT hw
    have e10 : m7.1 b 10 = nn j := by
      rw [em, si_o (by omega), sl_1, si_o (by omega), si_o (by omega)]
      exact h10
    have e11 : m7.1 b 11 = nn j := by
      rw [em, si_o (by omega), sl_1, si_o (by omega)]
      exact si_s
    have e13 : m7.1 b 13 = nn 0 := by
      rw [em, si_o (by omega), sl_1]
      exact si_s
    have e14 : m7.1 b 14 = nn 0 := by
      rw [em]
      exact si_s
    have e17 : m7.2.2 b 17 = ll 0 := by
      rw [em, si_22]
      exact sl_s
    rw [← em, e10, r_byteAt hM hT7 hs.2, fb_n]
    by_cases c0 : n ≤ j
    · rw [show bA f n j = -1 from if_pos c0, if_pos rfl, fb_d]
      refine fE_ret ⟨⟨?_, ?_, ?_, fun z => ?_, fun z => ?_⟩, rW9_tr hw (rW9_si (by omega))⟩
      · unfold tK
        rw [← hj, if_pos c0]
        exact si_s
      · rw [si_o (by omega), e11, hj]
      · unfold tE
        rw [← hj, if_pos c0, si_o (by omega)]
        exact e10
      · unfold tK at z
        rw [← hj, if_pos c0] at z
        cases z
      · unfold tK at z
        rw [← hj, if_pos c0] at z
        cases z
    · obtain ⟨t1, t2⟩ := hT7.2.2 j (by omega)
      have eb : bA f n j = nn (f j) := if_neg c0
      rw [if_neg (by rw [eb]; exact nn_m1 (by omega)), r_isLetter, fb_n, bA_L (fun _ => t2), decide_eq_true (show j < n by omega), Bool.true_and]
      cases c1 : isL f j with
      | true =>
        have hw1 : rW9 b m (fm_si m7 b 12 2) := rW9_tr hw (rW9_si (by omega))
        rw [if_neg (by decide), fb_d]
        refine fE_w (r_nx96 hM (s := j) (n - j) fm_N 0 _ (rTx_w hT hw1) (by rw [si_o (by omega)]; exact e10) (by rw [si_o (by omega)]; exact e13) (by rw [si_22]; exact e17) (by omega) (by unfold fm_N; omega)) (fun _ m' ⟨a1, a2, a3, a4, a5, a6⟩ => ⟨⟨?_, ?_, ?_, fun _ => ?_, fun z => ?_⟩, rW9_tr hw1 a1⟩)
        · unfold tK
          rw [← hj, if_neg c0, c1, it_tt, a3]
          exact si_s
        · rw [a2, si_o (by omega), e11, hj]
        · unfold tE
          rw [← hj, if_neg c0, c1, it_tt, a4]
          rfl
        · unfold tE
          rw [← hj, if_neg c0, c1, it_tt]
          exact ⟨a5, a6⟩
        · unfold tK at z
          rw [← hj, if_neg c0, c1, it_tt] at z
          cases z
      | false =>
        rw [if_pos (by decide), r_isDigit, fb_n, bA_D (fun _ => t2), decide_eq_true (show j < n by omega), Bool.true_and]
        cases c2 : isD f j with
        | true =>
          have hw1 : rW9 b m (fm_si m7 b 12 3) := rW9_tr hw (rW9_si (by omega))
          rw [if_neg (by decide), fb_d]
          refine fE_w (r_nx187 hM (n - j) fm_N j 0 0 _ (rTx_w hT hw1) (by rw [si_o (by omega)]; exact e10) (by rw [si_o (by omega)]; exact e14) (Or.inl ⟨rfl, by omega⟩) (by omega) (by unfold fm_N; omega)) (fun _ m' ⟨a1, a2, a3, a4, v, a5, a6⟩ => ⟨⟨?_, ?_, ?_, fun z => ?_, fun _ => ⟨v, a5, ?_⟩⟩, rW9_tr hw1 a1⟩)
          · unfold tK
            rw [← hj, if_neg c0, c1, it_ft, c2, it_tt, a3]
            exact si_s
          · rw [a2, si_o (by omega), e11, hj]
          · unfold tE
            rw [← hj, if_neg c0, c1, it_ft, c2, it_tt, a4]
          · unfold tK at z
            rw [← hj, if_neg c0, c1, it_ft, c2, it_tt] at z
            cases z
          · unfold tV
            rw [← hj]
            exact a6
        | false =>
          rw [if_pos (by decide), eb]
          have fin : ∀ kd : Nat, tK f n p = kd → kd ≠ 2 → kd ≠ 1 → fE (fm_bd (fm_si m7 b 12 (nn (rkd kd))) fun m4 => fm_bd (fm_si m4 b 10 (m4.1 b 10 + (1 : Int32))) fun m5 => some ((), m5)) (fun _ m' => rT m' b f n p ∧ rW9 b m m') := fun kd hk h2 h1 => by
            rw [fb_d, si_o (by omega), e10, nn_inc, fb_d]
            refine fE_ret ⟨⟨?_, ?_, ?_, fun z => absurd (hk.symm.trans z) h1, fun z => absurd (hk.symm.trans z) h2⟩, rW9_tr (rW9_tr hw (rW9_si (by omega))) (rW9_si (by omega))⟩
            · rw [hk, si_o (by omega)]
              exact si_s
            · rw [si_o (by omega), si_o (by omega), e11, hj]
            · unfold tE
              rw [← hj, if_neg c0, c1, it_ft, c2, it_ft]
              exact si_s
          by_cases c3 : f j = 59
          · rw [if_pos (by rw [c3]; rfl)]
            refine fin 3 ?_ (by omega) (by omega)
            unfold tK
            rw [← hj, if_neg c0, c1, it_ft, c2, it_ft, if_pos c3]
          · rw [if_neg (by rw [show (59 : Int32) = nn 59 by decide, nn_eq (by omega) (by omega)]; exact c3)]
            refine fin 4 ?_ (by omega) (by omega)
            unfold tK
            rw [← hj, if_neg c0, c1, it_ft, c2, it_ft, if_neg c3]
  intro k
  induction k with
  | zero =>
    intro q j m hT h10 h1 hwh h2
    obtain ⟨q, rfl⟩ : ∃ q', q = q' + 1 := ⟨q - 1, by omega⟩
    have eb : bA f n j = -1 := if_pos (by omega)
    unfold f_X12_nextToken_0
    rw [h10, r_byteAt hM hT (by omega), fb_n, eb, if_neg (by decide), h10, r_byteAt hM hT (by omega), fb_n, eb, if_neg (by decide)]
    exact tail j m _ hT h10 hwh rfl
  | succ k ih =>
    intro q j m hT h10 h1 hwh h2
    obtain ⟨q, rfl⟩ : ∃ q', q = q' + 1 := ⟨q - 1, by omega⟩
    have hn := hT.2.1
    obtain ⟨t1, t2⟩ := hT.2.2 j (by omega)
    have eb : bA f n j = nn (f j) := if_neg (by omega)
    have go : fE (fm_bd (fm_si m b 10 (nn j + (1 : Int32))) fun m2 => f_X12_nextToken_0 H b q m2) (fun _ m' => rT m' b f n p ∧ rW9 b m m') ∨ ¬ (f j = 32 ∨ f j = 10) := by
      by_cases hd : f j = 32 ∨ f j = 10
      · refine Or.inl ?_
        have ew : wh (isB f) j (k + 1) = wh (isB f) (j + 1) k := if_pos (decide_eq_true hd)
        have hw : rW9 b m (fm_si m b 10 (nn (j + 1))) := rW9_si (by omega)
        rw [nn_inc, fb_d]
        exact fE_w (ih q (j + 1) _ (rTx_w hT hw) si_s (by omega) (ew.symm.trans hwh) (by omega)) (fun _ m' ⟨a1, a2⟩ => ⟨a1, rW9_tr hw a2⟩)
      · exact Or.inr hd
    unfold f_X12_nextToken_0
    rw [h10, r_byteAt hM hT (by omega), fb_n, eb, show (32 : Int32) = nn 32 by decide]
    by_cases b1 : f j = 32
    · rw [if_pos (by rw [b1]), h10]
      exact go.resolve_right (fun z => z (Or.inl b1))
    · rw [if_neg (by rw [nn_eq (by omega) (by omega)]; exact b1), h10, r_byteAt hM hT (by omega), fb_n, eb]
      by_cases b2 : f j = 10
      · rw [if_pos (by rw [b2]; rfl), h10]
        exact go.resolve_right (fun z => z (Or.inr b2))
      · rw [if_neg (by rw [nl_10, nn_eq (by omega) (by omega)]; exact b2)]
        have ew : wh (isB f) j (k + 1) = j := if_neg (by unfold isB; rw [decide_eq_false (by rintro (z | z); exact b1 z; exact b2 z)]; decide)
        have := tail j m _ hT h10 (ew.symm.trans hwh) rfl
        exact this
/-- the reference's next token -/
theorem r_nextToken (hM : kM H b) {p : Nat} (hT : rTx m b n f) (hp : p ≤ n) (h10 : m.1 b 10 = nn p) : fE (f_X12_nextToken H b m) (fun _ m' => rT m' b f n p ∧ rW9 b m m') := by
  have hn := hT.2.1
  unfold f_X12_nextToken
  exact r_nx0 hM hp (n - p) fm_N p m hT h10 (by omega) rfl (by unfold fm_N; omega)
end
