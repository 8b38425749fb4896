/-! words -/
/-- a text constant -/
def isT (H : fm_H) (m : fm_M) (a : Nat) (u : List Nat) : Prop := fm_sz H (H.2.1 a 0) = u.length ∧ m.1 a 1 = 0 ∧ u.length ≤ 11 ∧ ∀ k, k < u.length → m.1 (H.2.1 a 0) k = nn (u.getD k 0) ∧ 97 ≤ u.getD k 0 ∧ u.getD k 0 ≤ 122
/-- the token at p is this word -/
def wdB (f : Nat → Nat) (n p : Nat) (u : List Nat) : Bool := decide (tK f n p = 1) && (decide (tE f n p - tS f n p = u.length) && na (fun k => decide (f (tS f n p + k) = u.getD k 0)) 0 u.length)
theorem chr_ok : ∀ c : Fin 128, (((nn c.1 &&& (255 : Int32)).toUInt32 % 65536).toInt32) = nn c.1 ∧ fm_nr .char (nn c.1) = true := by decide +kernel
theorem pw_lt {f : Nat → Nat} {s : Nat} : ∀ {k : Nat}, (∀ i, i < k → f (s + i) ≤ 122) → pw f s k < 27 ^ k := by
  intro k
  induction k with
  | zero => exact fun _ => by show 0 < 1; omega
  | succ k ih =>
    intro h
    have a := ih (fun i hi => h i (by omega))
    have c := h k (by omega)
    show 27 * pw f s k + (f (s + k) - 96) < 27 ^ (k + 1)
    rw [Nat.pow_succ]
    omega
theorem pw_inj {f g : Nat → Nat} {s t : Nat} : ∀ {k : Nat}, (∀ i, i < k → 97 ≤ f (s + i) ∧ f (s + i) ≤ 122) → (∀ i, i < k → 97 ≤ g (t + i) ∧ g (t + i) ≤ 122) → (pw f s k = pw g t k ↔ ∀ i, i < k → f (s + i) = g (t + i)) := by
  intro k
  induction k with
  | zero => exact fun _ _ => ⟨fun _ i hi => by omega, fun _ => rfl⟩
  | succ k ih =>
    intro hf hg
    have a := ih (fun i hi => hf i (by omega)) (fun i hi => hg i (by omega))
    have c := hf k (by omega)
    have d := hg k (by omega)
    show 27 * pw f s k + (f (s + k) - 96) = 27 * pw g t k + (g (t + k) - 96) ↔ _
    constructor
    · intro h i hi
      have e1 : pw f s k = pw g t k := by omega
      by_cases e : i = k
      · rw [e]; omega
      · exact a.mp e1 i (by omega)
    · intro h
      rw [a.mpr (fun i hi => h i (by omega)), h k (by omega)]
theorem lg_0 {x y : Int64} : lg_cmp x y = 0 ↔ x = y := by
  unfold lg_cmp
  by_cases h : x > y
  · rw [if_pos h]
    constructor
    · intro z; exact absurd z (by decide)
    · intro z
      rw [z] at h
      rw [gt_iff_lt, Int64.lt_iff_toInt_lt] at h
      omega
  · rw [if_neg h]
    by_cases e : x = y
    · rw [if_pos e]; exact ⟨fun _ => e, fun _ => rfl⟩
    · rw [if_neg e]
      constructor
      · intro z; exact absurd z (by decide)
      · intro z; exact absurd z e
section
variable {H : fm_H} {w b n a : Nat} {m m0 : fm_M} {f : Nat → Nat} {u : List Nat}
theorem t_len (hu : isT H m a u) : f_J0_length_8abf5 H a m = some (nn u.length, m) := by
  unfold f_J0_length_8abf5 f_J0_coder_7d493
  rw [if_neg (by decide), hu.2.1, if_pos (by decide), fb_n, hu.1, show ((0 : Int32) &&& 31) = 0 by decide, Int32.shiftRight_zero, nn_ofNat]
theorem t_chr (hu : isT H m a u) {k : Nat} (hk : k < u.length) : f_J0_charAt_5068e H a (nn k) m = some (nn (u.getD k 0), m) := by
  obtain ⟨h1, h2, h3, h4⟩ := hu
  obtain ⟨c1, c2, c3⟩ := h4 k hk
  obtain ⟨d1, d2⟩ := chr_ok ⟨u.getD k 0, by omega⟩
  dsimp only at d1 d2
  have e1 : f_J3_checkIndex_8e157 H (nn k) (Int32.ofNat (fm_sz H (H.2.1 a 0))) (H.2.2 "SIOOBE_FORMATTER" 0) m = some (nn k, m) := by
    unfold f_J3_checkIndex_8e157
    rw [h1, nn_ofNat, if_neg (by rw [nl_0, nn_lt (by omega) (by omega)]; omega), if_pos ((nn_lt (by omega) (by omega)).mpr hk)]
  unfold f_J0_charAt_5068e f_J0_isLatin1_aae02 f_J1_charAt_3b067 f_J0_checkIndex_df160
  rw [if_neg (by decide), h2, if_pos rfl, fb_n, if_neg (by decide), e1, fb_n, fb_n, h1, if_pos ((nn_in (by omega)).mpr hk), nn_tn (by omega), c1, d1, if_pos d2, fb_n, if_pos d2]
theorem c_word_l (hh : H.2.1 w 0 = w + 1) (hz : fm_sz H (w + 1) = 800) (hu : isT H m a u) (hT : cTx m w n f) {s : Nat} (h3 : m.1 w 3 = nn s) (hs : s + u.length ≤ n) : ∀ (k q j : Nat), j + k = u.length → k < q → f_X8_isWord_28 H w a q (nn j) m = some (bi (na (fun k => decide (f (s + k) = u.getD k 0)) j k), m) := by
  have hul := hu.2.2.1
  intro k
  induction k with
  | zero =>
    intro q j h1 h2
    obtain ⟨q, rfl⟩ : ∃ q', q = q' + 1 := ⟨q - 1, by omega⟩
    unfold f_X8_isWord_28
    rw [t_len hu, fb_n, if_pos ((nn_le (by omega) (by omega)).mpr (by omega))]
    rfl
  | succ k ih =>
    intro q j h1 h2
    obtain ⟨q, rfl⟩ : ∃ q', q = q' + 1 := ⟨q - 1, by omega⟩
    have hn := hT.2.1
    obtain ⟨t1, t2⟩ := hT.2.2 (s + j) (by omega)
    obtain ⟨c1, c2, c3⟩ := hu.2.2.2 j (by omega)
    unfold f_X8_isWord_28
    rw [t_len hu, fb_n, if_neg (by rw [nn_le (by omega) (by omega)]; omega), h3, nn_add, hh, hz, if_pos ((nn_in (by omega)).mpr (by omega)), t_chr hu (by omega), fb_n, nn_tn (by omega), t1, nn_inc]
    have e : by8 (f (s + j)) = nn (u.getD j 0) ↔ f (s + j) = u.getD j 0 := by
      have r := by8_r t2
      unfold by8
      rw [nn_ii, ii_eq (by omega) (by omega) (by omega) (by omega)]
      split <;> omega
    show _ = some (bi (decide (f (s + j) = u.getD j 0) && na (fun k => decide (f (s + k) = u.getD k 0)) (j + 1) k), m)
    by_cases z : f (s + j) = u.getD j 0
    · rw [if_pos (e.mpr z), decide_eq_true z, Bool.true_and]
      exact ih q (j + 1) (by omega) (by omega)
    · rw [if_neg (fun h => z (e.mp h)), decide_eq_false z, Bool.false_and]
      rfl
theorem c_isWord (hh : H.2.1 w 0 = w + 1) (hz : fm_sz H (w + 1) = 800) (hu : isT H m a u) (hT : cTx m w n f) {p : Nat} (hp : p ≤ n) (hc : cT m w f n p) : f_X8_isWord H w a m = some (bi (wdB f n p u), m) := by
  obtain ⟨c1, c2, c3, -⟩ := hc
  have hn := hT.2.1
  have he := tE_r (f := f) hp
  have hul := hu.2.2.1
  have k4 : tK f n p ≤ 4 := by
    unfold tK
    split
    · omega
    · split
      · omega
      · split
        · omega
        · split <;> omega
  unfold f_X8_isWord wdB
  rw [c1]
  by_cases k1 : tK f n p = 1
  · rw [if_pos (by rw [k1]; rfl), t_len hu, fb_n, c2, c3, nn_sub he.1, decide_eq_true k1, Bool.true_and]
    by_cases z : tE f n p - tS f n p = u.length
    · rw [if_pos (by rw [z]), decide_eq_true z, Bool.true_and]
      exact c_word_l hh hz hu hT c2 (by omega) u.length fm_N 0 (by omega) (by unfold fm_N; omega)
    · rw [if_neg (by rw [nn_eq (by omega) (by omega)]; exact z), decide_eq_false z, Bool.false_and]
      rfl
  · rw [if_neg (by rw [nl_1, nn_eq (by omega) (by omega)]; exact k1), decide_eq_false k1, Bool.false_and]
    rfl
theorem r_word_l (hu : isT H m a u) : ∀ (k q j : Nat), j + k = u.length → k < q → f_X12_isWord_26 H b a q (ll (pw (fun i => u.getD i 0) 0 j)) (nn j) m = some (bi (decide (m.2.2 b 17 = ll (pw (fun i => u.getD i 0) 0 u.length))), m) := by
  have hul := hu.2.2.1
  intro k
  induction k with
  | zero =>
    intro q j h1 h2
    obtain ⟨q, rfl⟩ : ∃ q', q = q' + 1 := ⟨q - 1, by omega⟩
    have ej : j = u.length := by omega
    unfold f_X12_isWord_26
    rw [t_len hu, fb_n, if_pos ((nn_le (by omega) (by omega)).mpr (by omega)), ej]
    by_cases e : m.2.2 b 17 = ll (pw (fun i => u.getD i 0) 0 u.length)
    · rw [if_pos (lg_0.mpr e), decide_eq_true e]
      rfl
    · rw [if_neg (fun z => e (lg_0.mp z)), decide_eq_false e]
      rfl
  | succ k ih =>
    intro q j h1 h2
    obtain ⟨q, rfl⟩ : ∃ q', q = q' + 1 := ⟨q - 1, by omega⟩
    obtain ⟨c1, c2, c3⟩ := hu.2.2.2 j (by omega)
    unfold f_X12_isWord_26
    rw [t_len hu, fb_n, if_neg (by rw [nn_le (by omega) (by omega)]; omega), t_chr hu (by omega), fb_n, ll_nn (by omega), show (27 : Int64) = ll 27 by decide, show (96 : Int64) = ll 96 by decide, ll_mul, ll_add, ll_sub, nn_inc]
    have e : (27 * (pw (fun i => u.getD i 0) 0 j : Int) + (u.getD j 0 : Int) - 96) = ((pw (fun i => u.getD i 0) 0 (j + 1) : Nat) : Int) := by
      show _ = ((27 * pw (fun i => u.getD i 0) 0 j + (u.getD (0 + j) 0 - 96) : Nat) : Int)
      rw [Nat.zero_add]
      omega
    rw [e]
    exact ih q (j + 1) (by omega) (by omega)
theorem r_isWord (hu : isT H m a u) (hT : rTx m b n f) {p : Nat} (hp : p ≤ n) (hc : rT m b f n p) : f_X12_isWord H b a m = some (bi (wdB f n p u), m) := by
  obtain ⟨c1, c2, c3, c4, -⟩ := hc
  have hn := hT.2.1
  have he := tE_r (f := f) hp
  have hul := hu.2.2.1
  unfold f_X12_isWord wdB
  rw [c1]
  by_cases k1 : tK f n p = 1
  · obtain ⟨d1, d2⟩ := c4 k1
    rw [if_pos (by rw [k1]; rfl), t_len hu, fb_n, d1, decide_eq_true k1, Bool.true_and]
    by_cases z : tE f n p - tS f n p = u.length
    · rw [if_pos (by rw [z]), decide_eq_true z, Bool.true_and]
      have := r_word_l (b := b) hu u.length fm_N 0 (by omega) (by unfold fm_N; omega)
      rw [show f_X12_isWord_26 H b a fm_N 0 0 m = _ from this, d2, z, show mn u.length = u.length from if_pos hul]
      have lf : ∀ i, i < u.length → 97 ≤ f (tS f n p + i) ∧ f (tS f n p + i) ≤ 122 := fun i hi => by
        have hk : tK f n p ≠ 0 := by rw [k1]; decide
        have c0 : ¬ n ≤ tS f n p := fun z => by
          have := he.2.2 hk
          omega
        have hL : isL f (tS f n p) = true := by
          cases hh : isL f (tS f n p) with
          | true => rfl
          | false =>
            unfold tK at k1
            rw [if_neg c0, hh, it_ft] at k1
            split at k1
            · cases k1
            · split at k1 <;> cases k1
        have ee : tE f n p = wh (isL f) (tS f n p) (n - tS f n p) := by
          unfold tE
          rw [if_neg c0, hL, it_tt]
        have := wh_t (q := isL f) (k := n - tS f n p) (j := tS f n p) (i := tS f n p + i) (by omega) (by rw [← ee]; omega)
        exact of_decide_eq_true this
      have lg : ∀ i, i < u.length → 97 ≤ (fun i => u.getD i 0) (0 + i) ∧ (fun i => u.getD i 0) (0 + i) ≤ 122 := fun i hi => by
        rw [Nat.zero_add]
        exact (hu.2.2.2 i hi).2
      have b1 := pw_lt (f := f) (s := tS f n p) (k := u.length) (fun i hi => (lf i hi).2)
      have b2 := pw_lt (f := fun i => u.getD i 0) (s := 0) (k := u.length) (fun i hi => (lg i hi).2)
      have b3 : 27 ^ u.length ≤ 27 ^ 11 := Nat.pow_le_pow_right (by omega) hul
      have b4 : (27 : Nat) ^ 11 = 5559060566555523 := by decide
      have pi := pw_inj (g := fun i => u.getD i 0) (t := 0) lf lg
      have e : decide (ll (pw f (tS f n p) u.length) = ll (pw (fun i => u.getD i 0) 0 u.length)) = na (fun k => decide (f (tS f n p + k) = u.getD k 0)) 0 u.length := by
        apply Bool.eq_iff_iff.mpr
        rw [decide_eq_true_iff, ← Int64.toInt_inj, ll_t (by omega) (by omega), ll_t (by omega) (by omega), na_iff]
        constructor
        · intro h i _ hi
          have := pi.mp (by omega) i (by omega)
          rw [Nat.zero_add] at this
          exact decide_eq_true this
        · intro h
          have := pi.mpr (fun i hi => by
            rw [Nat.zero_add]
            exact of_decide_eq_true (h i (by omega) (by omega)))
          omega
      rw [e]
    · rw [if_neg (by rw [nn_eq (by omega) (by omega)]; exact z), decide_eq_false z, Bool.false_and]
      rfl
  · have : nn (rkd (tK f n p)) ≠ 2 := by
      have k4 : tK f n p ≤ 4 := by
        unfold tK
        split
        · omega
        · split
          · omega
          · split
            · omega
            · split <;> omega
      have h : tK f n p = 0 ∨ tK f n p = 2 ∨ tK f n p = 3 ∨ tK f n p = 4 := by omega
      rcases h with h | h | h | h <;> rw [h] <;> decide
    rw [if_neg this, decide_eq_false k1, Bool.false_and]
    rfl
end
