/-! quotients of whole numbers are numbers -/
/-- what is used of a format: T tails, X exponents -/
def fq (f : FP.Core.Fmt) (T X : Nat) : Prop := f.tails = T ∧ f.exps = X ∧ 2 ^ f.p = 2 * T ∧ f.qmax - f.qmin + 3 = X ∧ 3 ≤ X ∧ 0 < T ∧ f.qmin ≤ 0 ∧ 1 ≤ f.qmax
theorem fq_32 : fq FP.Core.b32 8388608 256 := ⟨rfl, rfl, rfl, rfl, by decide, by decide, by decide, by decide⟩
theorem fq_64 : fq FP.Core.b64 4503599627370496 2048 := ⟨rfl, rfl, rfl, rfl, by decide, by decide, by decide, by decide⟩
def gd (f : FP.Core.Fmt) (d : FP.Core.Datum) : Prop := match d with
  | .nan => False
  | .inf _ => True
  | .fin _ c q => c < 2 ^ f.p ∧ f.qmin ≤ q ∧ q ≤ f.qmax
section
variable {f : FP.Core.Fmt} {T X : Nat}
theorem gd_bound {s : Bool} {c : Nat} {q : Int} (h1 : c < 2 ^ f.p) (h2 : f.qmin ≤ q) : gd f (FP.Core.bound f s c q) := by
  unfold FP.Core.bound
  split
  · rename_i h
    exact ⟨h1, h2, h⟩
  · exact trivial
theorem gd_settle (hq : fq f T X) {s : Bool} {c : Nat} {q : Int} (h2 : f.qmin ≤ q) : gd f (FP.Core.settle f s c q) := by
  obtain ⟨q1, q2, q3, q4, q5, q6, q7, q8⟩ := hq
  unfold FP.Core.settle
  split
  · rename_i h
    exact gd_bound h h2
  · exact gd_bound (by rw [q1, q3]; omega) (by omega)
theorem gd_ratio (hq : fq f T X) {s : Bool} {n d : Nat} {e : Int} : gd f (FP.Core.roundRatio f s n d e) := by
  have hq' := hq
  obtain ⟨q1, q2, q3, q4, q5, q6, q7, q8⟩ := hq
  unfold FP.Core.roundRatio
  split
  · exact ⟨by rw [q3]; omega, Int.le_refl _, by omega⟩
  · unfold FP.Core.roundAt
    refine gd_settle hq' ?_
    unfold FP.Core.quantum
    exact Int.le_max_left _ _
theorem gd_enc (hq : fq f T X) {d : FP.Core.Datum} (hg : gd f d) : ∃ (s : Bool) (e t : Nat), FP.Core.encode f d = (s.toNat * X + e) * T + t ∧ t < T ∧ e < X ∧ e * T + t ≤ (X - 1) * T := by
  obtain ⟨q1, q2, q3, q4, q5, q6, q7, q8⟩ := hq
  match d, hg with
  | .inf s, _ =>
    refine ⟨s, X - 1, 0, ?_, q6, by omega, Nat.le_refl _⟩
    show FP.Core.assemble f s (f.exps - 1) 0 = _
    unfold FP.Core.assemble
    rw [q1, q2]
  | .fin s c q, hg =>
    obtain ⟨g1, g2, g3⟩ := hg
    by_cases h : c < f.tails
    · refine ⟨s, 0, c, ?_, by omega, by omega, ?_⟩
      · show (if c < f.tails then FP.Core.assemble f s 0 c else FP.Core.assemble f s ((q - f.qmin).toNat + 1) (c - f.tails)) = _
        rw [if_pos h]
        unfold FP.Core.assemble
        rw [q1, q2]
      · rw [Nat.zero_mul, Nat.zero_add]
        have : 1 * T ≤ (X - 1) * T := Nat.mul_le_mul_right T (by omega)
        omega
    · refine ⟨s, (q - f.qmin).toNat + 1, c - f.tails, ?_, by omega, by omega, ?_⟩
      · show (if c < f.tails then FP.Core.assemble f s 0 c else FP.Core.assemble f s ((q - f.qmin).toNat + 1) (c - f.tails)) = _
        rw [if_neg h]
        unfold FP.Core.assemble
        rw [q1, q2]
      · have a : ((q - f.qmin).toNat + 1) * T ≤ (X - 2) * T := Nat.mul_le_mul_right T (by omega)
        have e : (X - 1) * T = (X - 2) * T + T := by
          rw [show X - 1 = (X - 2) + 1 by omega, Nat.succ_mul]
        omega
theorem enc_fT (hq : fq f T X) {s e t : Nat} (ht : t < T) (he : e < X) : FP.Core.fieldT f ((s * X + e) * T + t) = t ∧ FP.Core.fieldE f ((s * X + e) * T + t) = e := by
  obtain ⟨q1, q2, q3, q4, q5, q6, q7, q8⟩ := hq
  unfold FP.Core.fieldT FP.Core.fieldE
  rw [q1, q2]
  constructor
  · rw [Nat.mul_comm, Nat.mul_add_mod]
    exact Nat.mod_eq_of_lt ht
  · have a : ((s * X + e) * T + t) / T = s * X + e := by
      rw [Nat.mul_comm, Nat.mul_add_div q6, Nat.div_eq_of_lt ht, Nat.add_zero]
    rw [a, Nat.mul_comm, Nat.mul_add_mod]
    exact Nat.mod_eq_of_lt he
theorem dec_fin (hq : fq f T X) {s : Bool} {c : Nat} {q : Int} (hg : gd f (.fin s c q)) : ∃ s' c' q', FP.Core.decode f (FP.Core.encode f (.fin s c q)) = .fin s' c' q' ∧ (c ≠ 0 → c' ≠ 0) := by
  have hq' := hq
  obtain ⟨q1, q2, q3, q4, q5, q6, q7, q8⟩ := hq
  obtain ⟨g1, g2, g3⟩ := hg
  by_cases h : c < f.tails
  · have e : FP.Core.encode f (.fin s c q) = (s.toNat * X + 0) * T + c := by
      show (if c < f.tails then FP.Core.assemble f s 0 c else FP.Core.assemble f s ((q - f.qmin).toNat + 1) (c - f.tails)) = _
      rw [if_pos h]
      unfold FP.Core.assemble
      rw [q1, q2]
    obtain ⟨t1, t2⟩ := enc_fT hq' (s := s.toNat) (e := 0) (t := c) (by omega) (by omega)
    rw [e]
    unfold FP.Core.decode
    rw [t1, t2, if_neg (by omega), if_pos rfl]
    exact ⟨_, _, _, rfl, fun h => h⟩
  · have e : FP.Core.encode f (.fin s c q) = (s.toNat * X + ((q - f.qmin).toNat + 1)) * T + (c - f.tails) := by
      show (if c < f.tails then FP.Core.assemble f s 0 c else FP.Core.assemble f s ((q - f.qmin).toNat + 1) (c - f.tails)) = _
      rw [if_neg h]
      unfold FP.Core.assemble
      rw [q1, q2]
    obtain ⟨t1, t2⟩ := enc_fT hq' (s := s.toNat) (e := (q - f.qmin).toNat + 1) (t := c - f.tails) (by omega) (by omega)
    rw [e]
    unfold FP.Core.decode
    rw [t1, t2, if_neg (by omega), if_neg (by omega)]
    exact ⟨_, _, _, rfl, fun _ => by omega⟩
theorem near_1 {x : Nat} : FP.Core.nearest x 1 = x := by
  unfold FP.Core.nearest
  rw [Nat.mod_one, if_pos (by omega), Nat.div_one]
/-- whole numbers of few digits -/
theorem rnd_n (hq : fq f T X) {s : Bool} {n : Nat} (hn : n < 2 ^ (f.p - 1)) (hp : 1 ≤ f.p) : ∃ c q, FP.Core.roundRatio f s n 1 0 = .fin s c q ∧ (n ≠ 0 → c ≠ 0) := by
  obtain ⟨q1, q2, q3, q4, q5, q6, q7, q8⟩ := hq
  unfold FP.Core.roundRatio
  by_cases h0 : n = 0
  · rw [if_pos h0]
    exact ⟨_, _, rfl, fun h => absurd h0 h⟩
  · rw [if_neg h0]
    have hl : FP.Core.leading n 1 ≤ (f.p : Int) - 1 := by
      have a : n.log2 < f.p - 1 := (Nat.log2_lt h0).mpr hn
      have b : Nat.log2 1 = 0 := by decide
      unfold FP.Core.leading
      rw [b]
      dsimp only
      split <;> omega
    have hqq : FP.Core.quantum f n 1 0 ≤ 0 := by
      unfold FP.Core.quantum
      exact Int.max_le.mpr ⟨q7, by omega⟩
    obtain ⟨q, eq⟩ : ∃ q, q = FP.Core.quantum f n 1 0 := ⟨_, rfl⟩
    rw [← eq] at hqq ⊢
    unfold FP.Core.roundAt
    have hd : FP.Core.unitsDen 1 0 q = 1 := by
      unfold FP.Core.unitsDen
      rw [show (q - 0).toNat = 0 by omega]
    have hu : FP.Core.unitsNum n 0 q ≠ 0 := by
      unfold FP.Core.unitsNum
      exact Nat.mul_ne_zero h0 (Nat.ne_of_gt (Nat.two_pow_pos _))
    rw [hd, near_1]
    unfold FP.Core.settle
    split
    · unfold FP.Core.bound
      rw [if_pos (by omega)]
      exact ⟨_, _, rfl, fun _ => hu⟩
    · unfold FP.Core.bound
      rw [if_pos (by omega)]
      exact ⟨_, _, rfl, fun _ => by omega⟩
/-- a quotient of such -/
theorem div_gd (hq : fq f T X) (hp : 1 ≤ f.p) {a d : Int} (ha : a.natAbs < 2 ^ (f.p - 1)) (hd : d.natAbs < 2 ^ (f.p - 1)) (h0 : d ≠ 0) : ∃ D, gd f D ∧ FP.Core.div f (FP.Core.fromInt f a) (FP.Core.fromInt f d) = FP.Core.encode f D := by
  obtain ⟨c1, p1, e1, -⟩ := rnd_n hq (s := decide (a < 0)) ha hp
  obtain ⟨c2, p2, e2, n2⟩ := rnd_n hq (s := decide (d < 0)) hd hp
  have g1 := gd_ratio hq (s := decide (a < 0)) (n := a.natAbs) (d := 1) (e := 0)
  have g2 := gd_ratio hq (s := decide (d < 0)) (n := d.natAbs) (d := 1) (e := 0)
  rw [e1] at g1
  rw [e2] at g2
  obtain ⟨s1, k1, r1, w1, -⟩ := dec_fin hq g1
  obtain ⟨s2, k2, r2, w2, w3⟩ := dec_fin hq g2
  have f1 : FP.Core.fromInt f a = FP.Core.encode f (.fin (decide (a < 0)) c1 p1) := by
    show FP.Core.encode f (FP.Core.roundRatio f (decide (a < 0)) a.natAbs 1 0) = _
    rw [e1]
  have f2 : FP.Core.fromInt f d = FP.Core.encode f (.fin (decide (d < 0)) c2 p2) := by
    show FP.Core.encode f (FP.Core.roundRatio f (decide (d < 0)) d.natAbs 1 0) = _
    rw [e2]
  have k20 : k2 ≠ 0 := w3 (n2 (by omega))
  refine ⟨FP.Core.roundRatio f (s1 != s2) k1 k2 (r1 - r2), gd_ratio hq, ?_⟩
  unfold FP.Core.div
  rw [f1, f2, w1, w2]
  show FP.Core.encode f (if k2 = 0 then (if k1 = 0 then .nan else .inf (s1 != s2)) else FP.Core.roundRatio f (s1 != s2) k1 k2 (r1 - r2)) = _
  rw [if_neg k20]
theorem fI_lt (hq : fq f T X) {a : Int} : FP.Core.fromInt f a < 2 * (X * T) := by
  have g := gd_ratio hq (s := decide (a < 0)) (n := a.natAbs) (d := 1) (e := 0)
  obtain ⟨s, e, t, h1, h2, h3, h4⟩ := gd_enc hq g
  show FP.Core.encode f (FP.Core.roundRatio f (decide (a < 0)) a.natAbs 1 0) < _
  rw [h1]
  have hs : s.toNat ≤ 1 := by cases s <;> decide
  have a1 : (s.toNat * X + e) * T + T ≤ (2 * X) * T := by
    have : s.toNat * X + e + 1 ≤ 2 * X := by
      have : s.toNat * X ≤ 1 * X := Nat.mul_le_mul_right X hs
      omega
    calc (s.toNat * X + e) * T + T = (s.toNat * X + e + 1) * T := (Nat.succ_mul _ _).symm
      _ ≤ (2 * X) * T := Nat.mul_le_mul_right T this
  rw [Nat.mul_assoc] at a1
  omega
end
theorem n64_ok {a d : Int32} (h : 0 < d) : fm_n64 (FP.ddiv (FP.i2d a) (FP.i2d d)) = true := by
  have hd : 0 < d.toInt := by
    rw [Int32.lt_iff_toInt_lt] at h
    exact h
  have b1 := Int32.le_toInt a
  have b2 := Int32.toInt_lt a
  have b3 := Int32.toInt_lt d
  obtain ⟨D, g1, g2⟩ := div_gd fq_64 (by decide) (a := a.toInt) (d := d.toInt) (by
    show a.toInt.natAbs < 4503599627370496
    omega) (by
    show d.toInt.natAbs < 4503599627370496
    omega) (by omega)
  obtain ⟨s, e, t, h1, h2, h3, h4⟩ := gd_enc fq_64 g1
  have i1 : (FP.i2d a).toNat = FP.Core.fromInt FP.Core.b64 a.toInt := by
    show (UInt64.ofNat _).toNat = _
    rw [UInt64.toNat_ofNat']
    exact Nat.mod_eq_of_lt (fI_lt fq_64)
  have i2 : (FP.i2d d).toNat = FP.Core.fromInt FP.Core.b64 d.toInt := by
    show (UInt64.ofNat _).toNat = _
    rw [UInt64.toNat_ofNat']
    exact Nat.mod_eq_of_lt (fI_lt fq_64)
  unfold fm_n64
  refine decide_eq_true ?_
  rw [UInt64.le_iff_toNat_le, UInt64.toNat_and]
  show (UInt64.ofNat (FP.Core.div FP.Core.b64 (FP.i2d a).toNat (FP.i2d d).toNat)).toNat &&& 9223372036854775807 ≤ 9218868437227405312
  rw [i1, i2, g2, h1, UInt64.toNat_ofNat']
  have hs : s.toNat ≤ 1 := by cases s <;> decide
  rw [show (9223372036854775807 : Nat) = 2 ^ 63 - 1 by decide, Nat.and_two_pow_sub_one_eq_mod]
  omega
theorem n32_ok {a d : Int32} (h : 0 < d) (ha : 0 ≤ a.toInt ∧ a.toInt < 1000000) (hd2 : d.toInt < 1000000) : fm_n32 (FP.fdiv (FP.i2f a) (FP.i2f d)) = true := by
  have hd : 0 < d.toInt := by
    rw [Int32.lt_iff_toInt_lt] at h
    exact h
  obtain ⟨D, g1, g2⟩ := div_gd fq_32 (by decide) (a := a.toInt) (d := d.toInt) (by
    show a.toInt.natAbs < 8388608
    omega) (by
    show d.toInt.natAbs < 8388608
    omega) (by omega)
  obtain ⟨s, e, t, h1, h2, h3, h4⟩ := gd_enc fq_32 g1
  have i1 : (FP.i2f a).toNat = FP.Core.fromInt FP.Core.b32 a.toInt := by
    show (UInt32.ofNat _).toNat = _
    rw [UInt32.toNat_ofNat']
    exact Nat.mod_eq_of_lt (fI_lt fq_32)
  have i2 : (FP.i2f d).toNat = FP.Core.fromInt FP.Core.b32 d.toInt := by
    show (UInt32.ofNat _).toNat = _
    rw [UInt32.toNat_ofNat']
    exact Nat.mod_eq_of_lt (fI_lt fq_32)
  unfold fm_n32
  refine decide_eq_true ?_
  rw [UInt32.le_iff_toNat_le, UInt32.toNat_and]
  show (UInt32.ofNat (FP.Core.div FP.Core.b32 (FP.i2f a).toNat (FP.i2f d).toNat)).toNat &&& 2147483647 ≤ 2139095040
  rw [i1, i2, g2, h1, UInt32.toNat_ofNat']
  have hs : s.toNat ≤ 1 := by cases s <;> decide
  rw [show (2147483647 : Nat) = 2 ^ 31 - 1 by decide, Nat.and_two_pow_sub_one_eq_mod]
  omega
