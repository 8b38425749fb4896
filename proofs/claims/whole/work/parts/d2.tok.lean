/-! tokens: what they are, and how the class finds them -/
/-- on while q holds -/
def wh (q : Nat → Bool) : Nat → Nat → Nat
  | j, 0 => j
  | j, k + 1 => if q j = true then wh q (j + 1) k else j
theorem wh_r {q : Nat → Bool} : ∀ {k j : Nat}, j ≤ wh q j k ∧ wh q j k ≤ j + k := by
  intro k
  induction k with
  | zero => exact fun {j} => ⟨Nat.le_refl _, Nat.le_refl _⟩
  | succ k ih =>
    intro j
    show j ≤ (if q j = true then wh q (j + 1) k else j) ∧ (if q j = true then wh q (j + 1) k else j) ≤ j + (k + 1)
    have := ih (j := j + 1)
    split <;> omega
theorem wh_t {q : Nat → Bool} : ∀ {k j i : Nat}, j ≤ i → i < wh q j k → q i = true := by
  intro k
  induction k with
  | zero => intro j i h1 h2; exact absurd h2 (by show ¬ i < j; omega)
  | succ k ih =>
    intro j i h1 h2
    change i < (if q j = true then wh q (j + 1) k else j) at h2
    split at h2
    · rename_i e
      by_cases ei : i = j
      · rw [ei]; exact e
      · exact ih (by omega) h2
    · omega
theorem wh_e {q : Nat → Bool} : ∀ {k j : Nat}, wh q j k < j + k → q (wh q j k) = false := by
  intro k
  induction k with
  | zero => intro j h; exact absurd h (by show ¬ j < j + 0; omega)
  | succ k ih =>
    intro j h
    show q (if q j = true then wh q (j + 1) k else j) = false
    change (if q j = true then wh q (j + 1) k else j) < j + (k + 1) at h
    split
    · rename_i e
      rw [if_pos e] at h
      exact ih (by omega)
    · rename_i e
      cases h2 : q j with
      | false => rfl
      | true => exact absurd h2 e
def isB (f : Nat → Nat) (j : Nat) : Bool := decide (f j = 32 ∨ f j = 10)
def isL (f : Nat → Nat) (j : Nat) : Bool := decide (97 ≤ f j ∧ f j ≤ 122)
def isD (f : Nat → Nat) (j : Nat) : Bool := decide (48 ≤ f j ∧ f j ≤ 57)
/-- where the token at p starts, what it is, where it ends, its value -/
def tS (f : Nat → Nat) (n p : Nat) : Nat := wh (isB f) p (n - p)
def tK (f : Nat → Nat) (n p : Nat) : Nat := if n ≤ tS f n p then 0 else if isL f (tS f n p) = true then 1 else if isD f (tS f n p) = true then 2 else if f (tS f n p) = 59 then 3 else 4
def tE (f : Nat → Nat) (n p : Nat) : Nat := if n ≤ tS f n p then tS f n p else if isL f (tS f n p) = true then wh (isL f) (tS f n p) (n - tS f n p) else if isD f (tS f n p) = true then wh (isD f) (tS f n p) (n - tS f n p) else tS f n p + 1
def fv (f : Nat → Nat) : Nat → Nat → Nat → Nat
  | _, 0, v => v
  | j, k + 1, v => fv f (j + 1) k (if v * 10 + (f j - 48) ≤ 1000000 then v * 10 + (f j - 48) else 1000000)
def tV (f : Nat → Nat) (n p : Nat) : Nat := fv f (tS f n p) (wh (isD f) (tS f n p) (n - tS f n p) - tS f n p) 0
theorem tS_r {f : Nat → Nat} {n p : Nat} (h : p ≤ n) : p ≤ tS f n p ∧ tS f n p ≤ n := by
  unfold tS
  have := wh_r (q := isB f) (k := n - p) (j := p)
  omega
theorem tE_r {f : Nat → Nat} {n p : Nat} (h : p ≤ n) : tS f n p ≤ tE f n p ∧ tE f n p ≤ n ∧ (tK f n p ≠ 0 → tS f n p < tE f n p) := by
  have hs := tS_r (f := f) h
  unfold tE tK
  by_cases c0 : n ≤ tS f n p
  · rw [if_pos c0, if_pos c0]
    exact ⟨Nat.le_refl _, hs.2, fun z => absurd rfl z⟩
  · rw [if_neg c0, if_neg c0]
    have e : ∀ q : Nat → Bool, q (tS f n p) = true → tS f n p + 1 ≤ wh q (tS f n p) (n - tS f n p) ∧ wh q (tS f n p) (n - tS f n p) ≤ n := fun q hq => by
      obtain ⟨r, er⟩ : ∃ r, n - tS f n p = r + 1 := ⟨n - tS f n p - 1, by omega⟩
      rw [er]
      show tS f n p + 1 ≤ (if q (tS f n p) = true then wh q (tS f n p + 1) r else tS f n p) ∧ (if q (tS f n p) = true then wh q (tS f n p + 1) r else tS f n p) ≤ n
      rw [if_pos hq]
      have := wh_r (q := q) (k := r) (j := tS f n p + 1)
      omega
    by_cases c1 : isL f (tS f n p) = true
    · rw [if_pos c1]
      have := e _ c1
      exact ⟨by omega, by omega, fun _ => by omega⟩
    · rw [if_neg c1]
      by_cases c2 : isD f (tS f n p) = true
      · rw [if_pos c2]
        have := e _ c2
        exact ⟨by omega, by omega, fun _ => by omega⟩
      · rw [if_neg c2]
        exact ⟨by omega, by omega, fun _ => by omega⟩
theorem fv_b {f : Nat → Nat} : ∀ {k j v : Nat}, v ≤ 1000000 → fv f j k v ≤ 1000000 := by
  intro k
  induction k with
  | zero => exact fun h => h
  | succ k ih =>
    intro j v h
    show fv f (j + 1) k _ ≤ _
    refine ih ?_
    split <;> omega
section
variable {H : fm_H} {w n : Nat} {m m0 : fm_M} {f : Nat → Nat}
/-- a text's token at p, as the class has it -/
def cT (m : fm_M) (w : Nat) (f : Nat → Nat) (n p : Nat) : Prop := m.1 w 2 = nn (tK f n p) ∧ m.1 w 3 = nn (tS f n p) ∧ m.1 w 5 = nn (tE f n p) ∧ (tK f n p = 2 → m.1 w 4 = nn (tV f n p))
def wT (w : Nat) (m m' : fm_M) : Prop := (∀ a k, ¬ (a = w ∧ 2 ≤ k ∧ k ≤ 5) → m'.1 a k = m.1 a k) ∧ m'.2 = m.2
theorem wT_rf {w : Nat} {m : fm_M} : wT w m m := ⟨fun _ _ _ => rfl, rfl⟩
theorem wT_tr {w : Nat} {m m1 m2 : fm_M} (h1 : wT w m m1) (h2 : wT w m1 m2) : wT w m m2 := ⟨fun a k h => (h2.1 a k h).trans (h1.1 a k h), h2.2.trans h1.2⟩
theorem wT_si {w k : Nat} {m : fm_M} {y : Int32} (h : 2 ≤ k ∧ k ≤ 5) : wT w m (fm_si m w k y) := ⟨fun a i h' => si_o (by omega), rfl⟩
/-- the text -/
def cTx (m : fm_M) (w n : Nat) (f : Nat → Nat) : Prop := m.1 w 1 = nn n ∧ n ≤ 800 ∧ ∀ k, k < n → m.1 (w + 1) k = by8 (f k) ∧ f k < 256
theorem cTx_w (h : cTx m w n f) (hw : wT w m m0) : cTx m0 w n f := ⟨(hw.1 _ _ (by omega)).trans h.1, h.2.1, fun k hk => ⟨(hw.1 _ _ (by omega)).trans (h.2.2 k hk).1, (h.2.2 k hk).2⟩⟩
theorem by8_r {t : Nat} (h : t < 256) : -128 ≤ (if t < 128 then (t : Int) else (t : Int) - 256) ∧ (if t < 128 then (t : Int) else (t : Int) - 256) < 128 := by
  split <;> omega
theorem c_blank {t : Nat} (h : t < 256) : f_X8_isBlank H (by8 t) m = some (bi (decide (t = 32 ∨ t = 10)), m) := by
  have r := by8_r h
  unfold f_X8_isBlank by8
  have e : ∀ c : Nat, c < 128 → (ii (if t < 128 then (t : Int) else (t : Int) - 256) = ii (c : Nat) ↔ t = c) := fun c hc => by
    rw [ii_eq (by omega) (by omega) (by omega) (by omega)]
    split <;> omega
  rw [show (32 : Int32) = ii (32 : Nat) by decide, show (10 : Int32) = ii (10 : Nat) by decide]
  by_cases h1 : t = 32
  · rw [if_pos ((e 32 (by omega)).mpr h1), decide_eq_true (Or.inl h1)]
    rfl
  · rw [if_neg (fun z => h1 ((e 32 (by omega)).mp z))]
    by_cases h2 : t = 10
    · rw [if_pos ((e 10 (by omega)).mpr h2), decide_eq_true (Or.inr h2)]
      rfl
    · rw [if_neg (fun z => h2 ((e 10 (by omega)).mp z)), decide_eq_false (by rintro (z | z); exact h1 z; exact h2 z)]
      rfl
theorem by8_lt {t c : Nat} (h : t < 256) (hc : c < 128) : (by8 t < nn c ↔ t < c ∨ 128 ≤ t) ∧ (nn c < by8 t ↔ c < t ∧ t < 128) := by
  have r := by8_r h
  unfold by8
  rw [nn_ii, ii_lt (by omega) (by omega) (by omega) (by omega), ii_lt (by omega) (by omega) (by omega) (by omega)]
  constructor
  · split <;> omega
  · split <;> omega
theorem c_letter {t : Nat} (h : t < 256) : f_X8_isLetter H (by8 t) m = some (bi (decide (97 ≤ t ∧ t ≤ 122)), m) := by
  unfold f_X8_isLetter
  rw [show (97 : Int32) = nn 97 by decide, show (122 : Int32) = nn 122 by decide]
  by_cases h1 : t < 97 ∨ 128 ≤ t
  · rw [if_pos ((by8_lt h (c := 97) (by omega)).1.mpr h1), decide_eq_false (by omega)]
    rfl
  · rw [if_neg (fun z => h1 ((by8_lt h (c := 97) (by omega)).1.mp z))]
    by_cases h2 : 122 < t
    · rw [if_pos ((by8_lt h (c := 122) (by omega)).2.mpr ⟨h2, by omega⟩), decide_eq_false (by omega)]
      rfl
    · rw [if_neg (fun z => h2 ((by8_lt h (c := 122) (by omega)).2.mp z).1), decide_eq_true ⟨by omega, by omega⟩]
      rfl
theorem c_digit {t : Nat} (h : t < 256) : f_X8_isDigit H (by8 t) m = some (bi (decide (48 ≤ t ∧ t ≤ 57)), m) := by
  unfold f_X8_isDigit
  rw [show (48 : Int32) = nn 48 by decide, show (57 : Int32) = nn 57 by decide]
  by_cases h1 : t < 48 ∨ 128 ≤ t
  · rw [if_pos ((by8_lt h (c := 48) (by omega)).1.mpr h1), decide_eq_false (by omega)]
    rfl
  · rw [if_neg (fun z => h1 ((by8_lt h (c := 48) (by omega)).1.mp z))]
    by_cases h2 : 57 < t
    · rw [if_pos ((by8_lt h (c := 57) (by omega)).2.mpr ⟨h2, by omega⟩), decide_eq_false (by omega)]
      rfl
    · rw [if_neg (fun z => h2 ((by8_lt h (c := 57) (by omega)).2.mp z).1), decide_eq_true ⟨by omega, by omega⟩]
      rfl
theorem by8_s {t : Nat} (h : t < 128) : by8 t = nn t := by
  unfold by8
  rw [if_pos h]
  rfl
theorem c_nx158 (hh : H.2.1 w 0 = w + 1) (hz : fm_sz H (w + 1) = 800) : ∀ (k q j v : Nat) (m : fm_M), cTx m w n f → m.1 w 5 = nn j → m.1 w 4 = nn v → v ≤ 1000000 → j + k = n → k < q → fE (f_X8_toNext_158 H w q m) (fun _ m' => wT w m m' ∧ m'.1 w 2 = m.1 w 2 ∧ m'.1 w 3 = m.1 w 3 ∧ m'.1 w 5 = nn (wh (isD f) j k) ∧ m'.1 w 4 = nn (fv f j (wh (isD f) j k - j) v)) := by
  intro k
  induction k with
  | zero =>
    intro q j v m hT h5 h4 hv h1 h2
    obtain ⟨q, rfl⟩ : ∃ q', q = q' + 1 := ⟨q - 1, by omega⟩
    have := hT.2.1
    unfold f_X8_toNext_158
    rw [hT.1, h5, if_pos ((nn_le (by omega) (by omega)).mpr (by omega))]
    refine fE_ret ⟨wT_rf, rfl, rfl, h5, ?_⟩
    show m.1 w 4 = nn (fv f j (j - j) v)
    rw [Nat.sub_self]
    exact h4
  | succ k ih =>
    intro q j v m hT h5 h4 hv h1 h2
    obtain ⟨q, rfl⟩ : ∃ q', q = q' + 1 := ⟨q - 1, by omega⟩
    have hn := hT.2.1
    obtain ⟨t1, t2⟩ := hT.2.2 j (by omega)
    unfold f_X8_toNext_158
    rw [hT.1, h5, if_neg (by rw [nn_le (by omega) (by omega)]; omega), hh, hz, if_pos ((nn_in (by omega)).mpr (by omega)), nn_tn (by omega), t1, c_digit t2, fb_n]
    by_cases hd : 48 ≤ f j ∧ f j ≤ 57
    · have ew : wh (isD f) j (k + 1) = wh (isD f) (j + 1) k := if_pos (decide_eq_true hd)
      rw [decide_eq_true hd, if_neg (by decide), h5, if_pos ((nn_in (by omega)).mpr (by omega)), nn_tn (by omega), h4, t1, by8_s (by omega), fb_d, si_o (by omega), h5, nn_inc, fb_d]
      have ev : pm_mm false (nn v * 10 + (nn (f j) - 48)) 1000000 = nn (if v * 10 + (f j - 48) ≤ 1000000 then v * 10 + (f j - 48) else 1000000) := by
        rw [nl_10, nn_mul, show (48 : Int32) = nn 48 by decide, nn_sub (by omega), nn_add]
        show (if (1000000 : Int32) < nn (v * 10 + (f j - 48)) then (1000000 : Int32) else nn (v * 10 + (f j - 48))) = _
        rw [show (1000000 : Int32) = nn 1000000 by decide]
        by_cases z : v * 10 + (f j - 48) ≤ 1000000
        · rw [if_neg (by rw [nn_lt (by omega) (by omega)]; omega), if_pos z]
        · rw [if_pos ((nn_lt (by omega) (by omega)).mpr (by omega)), if_neg z]
      rw [ev]
      have hw : wT w m (fm_si (fm_si m w 4 (nn (if v * 10 + (f j - 48) ≤ 1000000 then v * 10 + (f j - 48) else 1000000))) w 5 (nn (j + 1))) := wT_tr (wT_si (by omega)) (wT_si (by omega))
      refine fE_w (ih q (j + 1) (if v * 10 + (f j - 48) ≤ 1000000 then v * 10 + (f j - 48) else 1000000) _ (cTx_w hT hw) si_s (by rw [si_o (by omega)]; exact si_s) (by split <;> omega) (by omega) (by omega)) (fun _ m' ⟨a1, a2, a3, a4, a5⟩ => ⟨wT_tr hw a1, ?_, ?_, ?_, ?_⟩)
      · rw [a2, si_o (by omega), si_o (by omega)]
      · rw [a3, si_o (by omega), si_o (by omega)]
      · rw [a4, ew]
      · have hr := wh_r (q := isD f) (k := k) (j := j + 1)
        rw [a5, ew, show wh (isD f) (j + 1) k - j = (wh (isD f) (j + 1) k - (j + 1)) + 1 by omega]
        rfl
    · have ew : wh (isD f) j (k + 1) = j := if_neg (by unfold isD; rw [decide_eq_false hd]; decide)
      rw [decide_eq_false hd, if_pos (by decide), ew]
      refine fE_ret ⟨wT_rf, rfl, rfl, h5, ?_⟩
      rw [Nat.sub_self]
      exact h4
theorem c_nx94 (hh : H.2.1 w 0 = w + 1) (hz : fm_sz H (w + 1) = 800) : ∀ (k q j : Nat) (m : fm_M), cTx m w n f → m.1 w 5 = nn j → j + k = n → k < q → fE (f_X8_toNext_94 H w q m) (fun _ m' => wT w m m' ∧ m'.1 w 2 = m.1 w 2 ∧ m'.1 w 3 = m.1 w 3 ∧ m'.1 w 5 = nn (wh (isL f) j k)) := by
  intro k
  induction k with
  | zero =>
    intro q j m hT h5 h1 h2
    obtain ⟨q, rfl⟩ : ∃ q', q = q' + 1 := ⟨q - 1, by omega⟩
    have := hT.2.1
    unfold f_X8_toNext_94
    rw [hT.1, h5, if_pos ((nn_le (by omega) (by omega)).mpr (by omega))]
    exact fE_ret ⟨wT_rf, rfl, rfl, h5⟩
  | succ k ih =>
    intro q j m hT h5 h1 h2
    obtain ⟨q, rfl⟩ : ∃ q', q = q' + 1 := ⟨q - 1, by omega⟩
    have hn := hT.2.1
    obtain ⟨t1, t2⟩ := hT.2.2 j (by omega)
    unfold f_X8_toNext_94
    rw [hT.1, h5, if_neg (by rw [nn_le (by omega) (by omega)]; omega), hh, hz, if_pos ((nn_in (by omega)).mpr (by omega)), nn_tn (by omega), t1, c_letter t2, fb_n]
    by_cases hd : 97 ≤ f j ∧ f j ≤ 122
    · have ew : wh (isL f) j (k + 1) = wh (isL f) (j + 1) k := if_pos (decide_eq_true hd)
      rw [decide_eq_true hd, if_neg (by decide), h5, nn_inc, fb_d]
      have hw : wT w m (fm_si m w 5 (nn (j + 1))) := wT_si (by omega)
      refine fE_w (ih q (j + 1) _ (cTx_w hT hw) si_s (by omega) (by omega)) (fun _ m' ⟨a1, a2, a3, a4⟩ => ⟨wT_tr hw a1, ?_, ?_, ?_⟩)
      · rw [a2, si_o (by omega)]
      · rw [a3, si_o (by omega)]
      · rw [a4, ew]
    · have ew : wh (isL f) j (k + 1) = j := if_neg (by unfold isL; rw [decide_eq_false hd]; decide)
      rw [decide_eq_false hd, if_pos (by decide), ew]
      exact fE_ret ⟨wT_rf, rfl, rfl, h5⟩
theorem c_nx47 (hh : H.2.1 w 0 = w + 1) (hz : fm_sz H (w + 1) = 800) {p : Nat} (hT : cTx m w n f) (hp : p ≤ n) (h3 : m.1 w 3 = nn (tS f n p)) : fE (f_X8_toNext_47 H w m) (fun _ m' => cT m' w f n p ∧ wT w m m') := by
  have hn := hT.2.1
  have hs := tS_r (f := f) hp
  obtain ⟨s, es⟩ : ∃ s, s = tS f n p := ⟨_, rfl⟩
  rw [← es] at hs h3
  have hw0 : wT w m (fm_si m w 5 (nn s)) := wT_si (by omega)
  have hT0 := cTx_w hT hw0
  have e3 : (fm_si m w 5 (nn s)).1 w 3 = nn s := (si_o (by omega)).trans h3
  unfold f_X8_toNext_47
  rw [fb_d, h3, e3, hT0.1]
  by_cases c0 : n ≤ s
  · rw [if_neg (by rw [nn_lt (by omega) (by omega)]; omega), fb_d]
    refine fE_ret ⟨⟨?_, ?_, ?_, fun z => ?_⟩, wT_tr hw0 (wT_si (by omega))⟩
    · unfold tK
      rw [← es, if_pos c0]
      exact si_s
    · rw [si_o (by omega), e3, es]
    · unfold tE
      rw [← es, if_pos c0, si_o (by omega)]
      exact si_s
    · unfold tK at z
      rw [← es, if_pos c0] at z
      cases z
  · obtain ⟨t1, t2⟩ := hT0.2.2 s (by omega)
    rw [if_pos ((nn_lt (by omega) (by omega)).mpr (by omega)), hh, hz, if_pos ((nn_in (by omega)).mpr (by omega)), nn_tn (by omega), t1, c_letter t2, fb_n]
    by_cases c1 : 97 ≤ f s ∧ f s ≤ 122
    · have hw1 : wT w m (fm_si (fm_si m w 5 (nn s)) w 2 1) := wT_tr hw0 (wT_si (by omega))
      rw [decide_eq_true c1, if_neg (by decide), fb_d]
      refine fE_w (c_nx94 hh hz (n - s) fm_N s _ (cTx_w hT hw1) (by rw [si_o (by omega)]; exact si_s) (by omega) (by unfold fm_N; omega)) (fun _ m' ⟨a1, a2, a3, a4⟩ => ⟨⟨?_, ?_, ?_, fun z => ?_⟩, wT_tr hw1 a1⟩)
      · unfold tK
        rw [← es, if_neg c0, show isL f s = true from decide_eq_true c1, it_tt, a2]
        exact si_s
      · rw [a3, si_o (by omega), e3, es]
      · unfold tE
        rw [← es, if_neg c0, show isL f s = true from decide_eq_true c1, it_tt, a4]
      · unfold tK at z
        rw [← es, if_neg c0, show isL f s = true from decide_eq_true c1, it_tt] at z
        cases z
    · have il : isL f s = false := decide_eq_false c1
      rw [decide_eq_false c1, if_pos (by decide), e3, if_pos ((nn_in (by omega)).mpr (by omega)), nn_tn (by omega), t1, c_digit t2, fb_n]
      by_cases c2 : 48 ≤ f s ∧ f s ≤ 57
      · have id : isD f s = true := decide_eq_true c2
        have hw1 : wT w m (fm_si (fm_si (fm_si m w 5 (nn s)) w 2 2) w 4 0) := wT_tr (wT_tr hw0 (wT_si (by omega))) (wT_si (by omega))
        rw [decide_eq_true c2, if_neg (by decide), fb_d, fb_d]
        refine fE_w (c_nx158 hh hz (n - s) fm_N s 0 _ (cTx_w hT hw1) (by rw [si_o (by omega), si_o (by omega)]; exact si_s) si_s (by omega) (by omega) (by unfold fm_N; omega)) (fun _ m' ⟨a1, a2, a3, a4, a5⟩ => ⟨⟨?_, ?_, ?_, fun _ => ?_⟩, wT_tr hw1 a1⟩)
        · unfold tK
          rw [← es, if_neg c0, il, it_ft, id, it_tt, a2, si_o (by omega)]
          exact si_s
        · rw [a3, si_o (by omega), si_o (by omega), e3, es]
        · unfold tE
          rw [← es, if_neg c0, il, it_ft, id, it_tt, a4]
        · unfold tV
          rw [← es, a5]
      · have id : isD f s = false := decide_eq_false c2
        rw [decide_eq_false c2, if_pos (by decide), e3, if_pos ((nn_in (by omega)).mpr (by omega)), nn_tn (by omega), t1]
        have e59 : by8 (f s) = 59 ↔ f s = 59 := by
          have r := by8_r t2
          unfold by8
          rw [show (59 : Int32) = ii (59 : Nat) by decide, ii_eq (by omega) (by omega) (by omega) (by omega)]
          split <;> omega
        have fin : ∀ kd : Nat, tK f n p = kd → kd ≠ 2 → fE (fm_bd (fm_si (fm_si m w 5 (nn s)) w 2 (nn kd)) fun m4 => fm_bd (fm_si m4 w 5 (m4.1 w 3 + (1 : Int32))) fun m5 => some ((), m5)) (fun _ m' => cT m' w f n p ∧ wT w m m') := fun kd hk h2 => by
          rw [fb_d, si_o (by omega), e3, nn_inc, fb_d]
          refine fE_ret ⟨⟨?_, ?_, ?_, fun z => absurd (hk.symm.trans z) h2⟩, wT_tr (wT_tr hw0 (wT_si (by omega))) (wT_si (by omega))⟩
          · rw [hk, si_o (by omega)]
            exact si_s
          · rw [si_o (by omega), si_o (by omega), e3, es]
          · unfold tE
            rw [← es, if_neg c0, il, it_ft, id, it_ft]
            exact si_s
        by_cases c3 : f s = 59
        · rw [if_pos (e59.mpr c3)]
          refine fin 3 ?_ (by omega)
          unfold tK
          rw [← es, if_neg c0, il, it_ft, id, it_ft, if_pos c3]
        · rw [if_neg (fun z => c3 (e59.mp z))]
          refine fin 4 ?_ (by omega)
          unfold tK
          rw [← es, if_neg c0, il, it_ft, id, it_ft, if_neg c3]
theorem c_nx8 (hh : H.2.1 w 0 = w + 1) (hz : fm_sz H (w + 1) = 800) {p : Nat} (hp : p ≤ n) : ∀ (k q j : Nat) (m : fm_M), cTx m w n f → m.1 w 3 = nn j → j + k = n → wh (isB f) j k = tS f n p → k < q → fE (f_X8_toNext_8 H w q m) (fun _ m' => cT m' w f n p ∧ wT w m m') := by
  intro k
  induction k with
  | zero =>
    intro q j m hT h3 h1 hwh h2
    obtain ⟨q, rfl⟩ : ∃ q', q = q' + 1 := ⟨q - 1, by omega⟩
    have := hT.2.1
    unfold f_X8_toNext_8
    rw [hT.1, h3, if_pos ((nn_le (by omega) (by omega)).mpr (by omega))]
    exact c_nx47 hh hz hT hp (by rw [h3, ← hwh]; rfl)
  | succ k ih =>
    intro q j m hT h3 h1 hwh h2
    obtain ⟨q, rfl⟩ : ∃ q', q = q' + 1 := ⟨q - 1, by omega⟩
    have hn := hT.2.1
    obtain ⟨t1, t2⟩ := hT.2.2 j (by omega)
    unfold f_X8_toNext_8
    rw [hT.1, h3, if_neg (by rw [nn_le (by omega) (by omega)]; omega), hh, hz, if_pos ((nn_in (by omega)).mpr (by omega)), nn_tn (by omega), t1, c_blank t2, fb_n]
    by_cases hd : f j = 32 ∨ f j = 10
    · have ew : wh (isB f) j (k + 1) = wh (isB f) (j + 1) k := if_pos (decide_eq_true hd)
      have hw : wT w m (fm_si m w 3 (nn (j + 1))) := wT_si (by omega)
      rw [decide_eq_true hd, if_neg (by decide), h3, nn_inc, fb_d]
      exact fE_w (ih q (j + 1) _ (cTx_w hT hw) si_s (by omega) (ew.symm.trans hwh) (by omega)) (fun _ m' ⟨a1, a2⟩ => ⟨a1, wT_tr hw a2⟩)
    · have ew : wh (isB f) j (k + 1) = j := if_neg (by unfold isB; rw [decide_eq_false hd]; decide)
      rw [decide_eq_false hd, if_pos (by decide)]
      exact c_nx47 hh hz hT hp (by rw [h3, ← hwh, ew])
/-- the class's next token -/
theorem c_toNext (hh : H.2.1 w 0 = w + 1) (hz : fm_sz H (w + 1) = 800) {p : Nat} (hT : cTx m w n f) (hp : p ≤ n) (h5 : m.1 w 5 = nn p) : fE (f_X8_toNext H w m) (fun _ m' => cT m' w f n p ∧ wT w m m') := by
  have hn := hT.2.1
  unfold f_X8_toNext
  rw [h5, fb_d]
  have hw : wT w m (fm_si m w 3 (nn p)) := wT_si (by omega)
  exact fE_w (c_nx8 hh hz hp (n - p) fm_N p _ (cTx_w hT hw) si_s (by omega) rfl (by unfold fm_N; omega)) (fun _ m' ⟨a1, a2⟩ => ⟨a1, wT_tr hw a2⟩)
end
