/-! where the class's objects lie: a state of 160 objects from s on; what it holds as numbers by kind, index and place -/
def kW (H : fm_H) (w : Nat) : Prop := fm_is H w 10 ∧ H.2.1 w 1 = w + 1 ∧ H.2.1 w 2 = w + 2 ∧ H.2.1 w 3 = w + 3 ∧ fm_sz H (w + 1) = 6 ∧ fm_sz H (w + 2) = 6 ∧ fm_sz H (w + 3) = 6
def kS (H : fm_H) (s : Nat) : Prop := fm_is H s 7 ∧ (H.2.1 s 0 = s + 1 ∧ H.2.1 s 1 = s + 20 ∧ H.2.1 s 2 = s + 25 ∧ H.2.1 s 3 = s + 26 ∧ H.2.1 s 4 = s + 27) ∧
  (H.2.1 (s + 1) 2 = s + 2 ∧ H.2.1 (s + 1) 3 = s + 3) ∧ (H.2.1 (s + 20) 0 = s + 21 ∧ H.2.1 (s + 20) 1 = s + 22 ∧ H.2.1 (s + 20) 2 = s + 23 ∧ H.2.1 (s + 20) 3 = s + 24) ∧
  (fm_sz H (s + 2) = 16 ∧ fm_sz H (s + 3) = 100 ∧ fm_sz H (s + 21) = 10 ∧ fm_sz H (s + 22) = 120 ∧ fm_sz H (s + 23) = 120 ∧ fm_sz H (s + 24) = 120 ∧ fm_sz H (s + 26) = 8 ∧ fm_sz H (s + 27) = 60) ∧
  (fm_is H (s + 1) 4 ∧ fm_is H (s + 20) 2 ∧ fm_is H (s + 25) 9) ∧ (∀ i, i < 16 → fm_is H (s + 4 + i) 3) ∧
  (∀ j, j < 8 → fm_is H (s + 28 + 9 * j) 0 ∧ kW H (s + 29 + 9 * j) ∧ kW H (s + 33 + 9 * j)) ∧ (∀ i, i < 60 → fm_is H (s + 100 + i) 5)
/-- the references that may change -/
def pS (m : fm_M) (s : Nat) : Prop := (∀ i, i < 16 → m.2.1 (s + 2) i = s + 4 + i) ∧
  (∀ i, i < 8 → ∃ j, j < 8 ∧ m.2.1 (s + 26) i = s + 28 + 9 * j) ∧ (∀ i i', i < 8 → i' < 8 → m.2.1 (s + 26) i = m.2.1 (s + 26) i' → i = i') ∧
  (∀ j, j < 8 → (m.2.1 (s + 28 + 9 * j) 13 = s + 29 + 9 * j ∧ m.2.1 (s + 28 + 9 * j) 14 = s + 33 + 9 * j) ∨ (m.2.1 (s + 28 + 9 * j) 13 = s + 33 + 9 * j ∧ m.2.1 (s + 28 + 9 * j) 14 = s + 29 + 9 * j)) ∧
  (∀ i, i < 60 → ∃ j, j < 60 ∧ m.2.1 (s + 27) i = s + 100 + j) ∧ (∀ i i', i < 60 → i' < 60 → m.2.1 (s + 27) i = m.2.1 (s + 27) i' → i = i')
/-- kinds: 0 the state's own numbers, 1 the net's, 2 between, 3 links, 4 spaces, 5 holders, 6 circuits, 7 made, 8 totals, 9 circuits' numbers, 10 to 13 their ways (length, nodes, links, slots), 14 to 17 their new ways, 18 packets -/
def ad (m : fm_M) (s kd i : Nat) : Nat := match kd with
  | 0 => s
  | 1 => s + 1
  | 2 => s + 3
  | 3 => s + 4 + i
  | 4 => s + 21
  | 5 => s + 22
  | 6 => s + 23
  | 7 => s + 24
  | 8 => s + 25
  | 9 => m.2.1 (s + 26) i
  | 10 => m.2.1 (m.2.1 (s + 26) i) 13
  | 11 => m.2.1 (m.2.1 (s + 26) i) 13 + 1
  | 12 => m.2.1 (m.2.1 (s + 26) i) 13 + 2
  | 13 => m.2.1 (m.2.1 (s + 26) i) 13 + 3
  | 14 => m.2.1 (m.2.1 (s + 26) i) 14
  | 15 => m.2.1 (m.2.1 (s + 26) i) 14 + 1
  | 16 => m.2.1 (m.2.1 (s + 26) i) 14 + 2
  | 17 => m.2.1 (m.2.1 (s + 26) i) 14 + 3
  | _ => m.2.1 (s + 27) i
def vld (kd i : Nat) : Bool := bif Nat.blt 18 kd then false else bif Nat.beq kd 18 then Nat.blt i 60 else bif Nat.blt 8 kd then Nat.blt i 8 else bif Nat.beq kd 3 then Nat.blt i 16 else Nat.beq i 0
theorem ad_0 (m : fm_M) (s i : Nat) : ad m s 0 i = s := rfl
theorem ad_1 (m : fm_M) (s i : Nat) : ad m s 1 i = s + 1 := rfl
theorem ad_2 (m : fm_M) (s i : Nat) : ad m s 2 i = s + 3 := rfl
theorem ad_3 (m : fm_M) (s i : Nat) : ad m s 3 i = s + 4 + i := rfl
theorem ad_4 (m : fm_M) (s i : Nat) : ad m s 4 i = s + 21 := rfl
theorem ad_5 (m : fm_M) (s i : Nat) : ad m s 5 i = s + 22 := rfl
theorem ad_6 (m : fm_M) (s i : Nat) : ad m s 6 i = s + 23 := rfl
theorem ad_7 (m : fm_M) (s i : Nat) : ad m s 7 i = s + 24 := rfl
theorem ad_8 (m : fm_M) (s i : Nat) : ad m s 8 i = s + 25 := rfl
theorem ad_9 (m : fm_M) (s i : Nat) : ad m s 9 i = m.2.1 (s + 26) i := rfl
theorem ad_10 (m : fm_M) (s i : Nat) : ad m s 10 i = m.2.1 (m.2.1 (s + 26) i) 13 := rfl
theorem ad_11 (m : fm_M) (s i : Nat) : ad m s 11 i = m.2.1 (m.2.1 (s + 26) i) 13 + 1 := rfl
theorem ad_12 (m : fm_M) (s i : Nat) : ad m s 12 i = m.2.1 (m.2.1 (s + 26) i) 13 + 2 := rfl
theorem ad_13 (m : fm_M) (s i : Nat) : ad m s 13 i = m.2.1 (m.2.1 (s + 26) i) 13 + 3 := rfl
theorem ad_14 (m : fm_M) (s i : Nat) : ad m s 14 i = m.2.1 (m.2.1 (s + 26) i) 14 := rfl
theorem ad_15 (m : fm_M) (s i : Nat) : ad m s 15 i = m.2.1 (m.2.1 (s + 26) i) 14 + 1 := rfl
theorem ad_16 (m : fm_M) (s i : Nat) : ad m s 16 i = m.2.1 (m.2.1 (s + 26) i) 14 + 2 := rfl
theorem ad_17 (m : fm_M) (s i : Nat) : ad m s 17 i = m.2.1 (m.2.1 (s + 26) i) 14 + 3 := rfl
theorem ad_18 (m : fm_M) (s i : Nat) : ad m s 18 i = m.2.1 (s + 27) i := rfl
abbrev VV : Type := Nat → Nat → Nat → Int32
/-- a packet has 7 places -/
def vk (kd k : Nat) : Bool := bif Nat.beq kd 18 then Nat.blt k 7 else true
def cv (m : fm_M) (s : Nat) : VV := fun kd i k => if vld kd i = true ∧ vk kd k = true then m.1 (ad m s kd i) k else 0
def uV (V : VV) (kd i k : Nat) (x : Int32) : VV := fun kd' i' k' => if kd' = kd ∧ i' = i ∧ k' = k then x else V kd' i' k'
def fr (lo hi : Nat) (m m' : fm_M) : Prop := (∀ a k, (a < lo ∨ hi ≤ a) → m'.1 a k = m.1 a k ∧ m'.2.1 a k = m.2.1 a k) ∧ m'.2.2 = m.2.2
def mS (s : Nat) (m m' : fm_M) (V' : VV) : Prop := cv m' s = V' ∧ pS m' s ∧ fr s (s + 160) m m'
def sc (kd : Nat) : Nat := match kd with
  | 0 => 0
  | 1 => 1
  | 2 => 3
  | k + 3 => k + 20
theorem ad_ev {m : fm_M} {s kd i : Nat} (hp : pS m s) (h : vld kd i = true) :
    (kd ≤ 8 ∧ kd ≠ 3 ∧ i = 0 ∧ ad m s kd i = s + sc kd) ∨ (kd = 3 ∧ i < 16 ∧ ad m s kd i = s + 4 + i) ∨
    (9 ≤ kd ∧ kd ≤ 17 ∧ i < 8 ∧ ∃ j b, j < 8 ∧ b ≤ 1 ∧ m.2.1 (s + 26) i = s + 28 + 9 * j ∧ m.2.1 (m.2.1 (s + 26) i) 13 = s + 29 + 9 * j + 4 * b ∧ ((kd = 9 ∧ ad m s kd i = s + 28 + 9 * j) ∨ (10 ≤ kd ∧ kd ≤ 13 ∧ ad m s kd i + 9 = s + 28 + 9 * j + kd + 4 * b) ∨ (14 ≤ kd ∧ ad m s kd i + 4 * b + 9 = s + 28 + 9 * j + kd))) ∨
    (kd = 18 ∧ i < 60 ∧ ∃ j, j < 60 ∧ ad m s kd i = s + 100 + j) := by
  obtain ⟨h1, h2, h3, h4, h5, h6⟩ := hp
  have hkd : kd ≤ 18 := by
    unfold vld at h
    cases e : Nat.blt 18 kd with
    | true => rw [e] at h; cases h
    | false =>
      by_cases q : 18 < kd
      · have := Nat.blt_eq.mpr q
        rw [e] at this
        cases this
      · omega
  have cc : 9 ≤ kd → kd ≤ 17 → i < 8 := by
    intro a1 a2
    unfold vld at h
    rw [show Nat.blt 18 kd = false from by cases e : Nat.blt 18 kd; rfl; exact absurd (Nat.blt_eq.mp e) (by omega), show Nat.beq kd 18 = false from by cases e : Nat.beq kd 18; rfl; exact absurd (Nat.eq_of_beq_eq_true e) (by omega), show Nat.blt 8 kd = true from Nat.blt_eq.mpr (by omega)] at h
    exact Nat.blt_eq.mp h
  have key : 9 ≤ kd → kd ≤ 17 → ∃ j b, j < 8 ∧ b ≤ 1 ∧ m.2.1 (s + 26) i = s + 28 + 9 * j ∧ m.2.1 (m.2.1 (s + 26) i) 13 = s + 29 + 9 * j + 4 * b ∧ m.2.1 (m.2.1 (s + 26) i) 14 + 4 * b = s + 33 + 9 * j := by
    intro a1 a2
    obtain ⟨j, hj, e⟩ := h2 i (cc a1 a2)
    rcases h4 j hj with ⟨q1, q2⟩ | ⟨q1, q2⟩
    · exact ⟨j, 0, hj, by omega, e, by rw [e, q1]; omega, by rw [e, q2]; omega⟩
    · exact ⟨j, 1, hj, by omega, e, by rw [e, q1]; omega, by rw [e, q2]; omega⟩
  match kd, h, hkd, cc, key with
  | 0, h, _, _, _ => exact Or.inl ⟨by omega, by omega, Nat.eq_of_beq_eq_true h, rfl⟩
  | 1, h, _, _, _ => exact Or.inl ⟨by omega, by omega, Nat.eq_of_beq_eq_true h, rfl⟩
  | 2, h, _, _, _ => exact Or.inl ⟨by omega, by omega, Nat.eq_of_beq_eq_true h, rfl⟩
  | 3, h, _, _, _ => exact Or.inr (Or.inl ⟨rfl, Nat.blt_eq.mp h, rfl⟩)
  | 4, h, _, _, _ => exact Or.inl ⟨by omega, by omega, Nat.eq_of_beq_eq_true h, rfl⟩
  | 5, h, _, _, _ => exact Or.inl ⟨by omega, by omega, Nat.eq_of_beq_eq_true h, rfl⟩
  | 6, h, _, _, _ => exact Or.inl ⟨by omega, by omega, Nat.eq_of_beq_eq_true h, rfl⟩
  | 7, h, _, _, _ => exact Or.inl ⟨by omega, by omega, Nat.eq_of_beq_eq_true h, rfl⟩
  | 8, h, _, _, _ => exact Or.inl ⟨by omega, by omega, Nat.eq_of_beq_eq_true h, rfl⟩
  | 9, h, _, cc, key =>
    obtain ⟨j, b, q1, q2, q3, q4, q5⟩ := key (by omega) (by omega)
    exact Or.inr (Or.inr (Or.inl ⟨by omega, by omega, cc (by omega) (by omega), j, b, q1, q2, q3, q4, Or.inl ⟨rfl, q3⟩⟩))
  | 10, h, _, cc, key =>
    obtain ⟨j, b, q1, q2, q3, q4, q5⟩ := key (by omega) (by omega)
    exact Or.inr (Or.inr (Or.inl ⟨by omega, by omega, cc (by omega) (by omega), j, b, q1, q2, q3, q4, Or.inr (Or.inl ⟨by omega, by omega, by rw [ad_10]; omega⟩)⟩))
  | 11, h, _, cc, key =>
    obtain ⟨j, b, q1, q2, q3, q4, q5⟩ := key (by omega) (by omega)
    exact Or.inr (Or.inr (Or.inl ⟨by omega, by omega, cc (by omega) (by omega), j, b, q1, q2, q3, q4, Or.inr (Or.inl ⟨by omega, by omega, by rw [ad_11]; omega⟩)⟩))
  | 12, h, _, cc, key =>
    obtain ⟨j, b, q1, q2, q3, q4, q5⟩ := key (by omega) (by omega)
    exact Or.inr (Or.inr (Or.inl ⟨by omega, by omega, cc (by omega) (by omega), j, b, q1, q2, q3, q4, Or.inr (Or.inl ⟨by omega, by omega, by rw [ad_12]; omega⟩)⟩))
  | 13, h, _, cc, key =>
    obtain ⟨j, b, q1, q2, q3, q4, q5⟩ := key (by omega) (by omega)
    exact Or.inr (Or.inr (Or.inl ⟨by omega, by omega, cc (by omega) (by omega), j, b, q1, q2, q3, q4, Or.inr (Or.inl ⟨by omega, by omega, by rw [ad_13]; omega⟩)⟩))
  | 14, h, _, cc, key =>
    obtain ⟨j, b, q1, q2, q3, q4, q5⟩ := key (by omega) (by omega)
    exact Or.inr (Or.inr (Or.inl ⟨by omega, by omega, cc (by omega) (by omega), j, b, q1, q2, q3, q4, Or.inr (Or.inr ⟨by omega, by rw [ad_14]; omega⟩)⟩))
  | 15, h, _, cc, key =>
    obtain ⟨j, b, q1, q2, q3, q4, q5⟩ := key (by omega) (by omega)
    exact Or.inr (Or.inr (Or.inl ⟨by omega, by omega, cc (by omega) (by omega), j, b, q1, q2, q3, q4, Or.inr (Or.inr ⟨by omega, by rw [ad_15]; omega⟩)⟩))
  | 16, h, _, cc, key =>
    obtain ⟨j, b, q1, q2, q3, q4, q5⟩ := key (by omega) (by omega)
    exact Or.inr (Or.inr (Or.inl ⟨by omega, by omega, cc (by omega) (by omega), j, b, q1, q2, q3, q4, Or.inr (Or.inr ⟨by omega, by rw [ad_16]; omega⟩)⟩))
  | 17, h, _, cc, key =>
    obtain ⟨j, b, q1, q2, q3, q4, q5⟩ := key (by omega) (by omega)
    exact Or.inr (Or.inr (Or.inl ⟨by omega, by omega, cc (by omega) (by omega), j, b, q1, q2, q3, q4, Or.inr (Or.inr ⟨by omega, by rw [ad_17]; omega⟩)⟩))
  | 18, h, _, _, _ =>
    have hi : i < 60 := Nat.blt_eq.mp h
    obtain ⟨j, q1, q2⟩ := h5 i hi
    exact Or.inr (Or.inr (Or.inr ⟨rfl, hi, j, q1, q2⟩))
  | k + 19, _, h, _, _ => omega
theorem sc_inj {a b : Nat} (ha : a ≤ 8) (hb : b ≤ 8) (h3 : a ≠ 3) (h4 : b ≠ 3) (h : sc a = sc b) : a = b := by
  match a, b with
  | 0, 0 | 1, 1 | 2, 2 => rfl
  | 0, 1 | 0, 2 | 1, 0 | 1, 2 | 2, 0 | 2, 1 => simp [sc] at h
  | 0, k + 3 | 1, k + 3 | 2, k + 3 | k + 3, 0 | k + 3, 1 | k + 3, 2 => simp [sc] at h
  | a + 3, b + 3 => simp [sc] at h; omega
theorem sc_r {a : Nat} (ha : a ≤ 8) (h3 : a ≠ 3) : sc a ≤ 25 ∧ (sc a < 4 ∨ 20 < sc a) := by
  match a with
  | 0 | 1 | 2 => simp [sc]
  | a + 3 => simp [sc]; omega
theorem ad_inj {m : fm_M} {s kd i kd' i' : Nat} (hp : pS m s) (h : vld kd i = true) (h' : vld kd' i' = true) (e : ad m s kd i = ad m s kd' i') : kd = kd' ∧ i = i' := by
  have h3 := hp.2.2.1
  have h6 := hp.2.2.2.2.2
  rcases ad_ev hp h with ⟨a1, a2, a3, a4⟩ | ⟨a1, a2, a3⟩ | ⟨a1, a2, a3, j, b, a4, a5, a6, a7, a8⟩ | ⟨a1, a2, j, a3, a4⟩ <;> rcases ad_ev hp h' with ⟨b1, b2, b3, b4⟩ | ⟨b1, b2, b3⟩ | ⟨b1, b2, b3, j', b', b4, b5, b6, b7, b8⟩ | ⟨b1, b2, j', b3, b4⟩
  · have := sc_inj a1 b1 a2 b2 (by omega)
    omega
  · have := sc_r a1 a2
    omega
  · have := sc_r a1 a2
    omega
  · have := sc_r a1 a2
    omega
  · have := sc_r b1 b2
    omega
  · omega
  · omega
  · omega
  · have := sc_r b1 b2
    omega
  · omega
  · have ej : j = j' := by omega
    subst ej
    have ei : i = i' := h3 i i' a3 b3 (by rw [a6, b6])
    subst ei
    have eb : b = b' := by omega
    subst eb
    omega
  · omega
  · have := sc_r b1 b2
    omega
  · omega
  · omega
  · have ej : j = j' := by omega
    subst ej a1 b1
    exact ⟨rfl, h6 i i' a2 b2 e⟩
theorem ad_r {m : fm_M} {s kd i : Nat} (hp : pS m s) (h : vld kd i = true) : s ≤ ad m s kd i ∧ ad m s kd i < s + 160 := by
  rcases ad_ev hp h with ⟨a1, a2, a3, a4⟩ | ⟨a1, a2, a3⟩ | ⟨a1, a2, a3, j, b, a4, a5, a6, a7, a8⟩ | ⟨a1, a2, j, a3, a4⟩
  · have := sc_r a1 a2
    omega
  · omega
  · omega
  · omega
theorem cv_si {m : fm_M} {s kd i k : Nat} {x : Int32} (hp : pS m s) (h : vld kd i = true) (hk : vk kd k = true) : cv (fm_si m (ad m s kd i) k x) s = uV (cv m s) kd i k x := by
  funext kd' i' k'
  show (if vld kd' i' = true ∧ vk kd' k' = true then (fm_si m (ad m s kd i) k x).1 (ad m s kd' i') k' else 0) = (if kd' = kd ∧ i' = i ∧ k' = k then x else (if vld kd' i' = true ∧ vk kd' k' = true then m.1 (ad m s kd' i') k' else 0))
  by_cases h' : vld kd' i' = true ∧ vk kd' k' = true
  · rw [if_pos h', if_pos h']
    show fm_up m.1 (ad m s kd i) k x (ad m s kd' i') k' = _
    unfold fm_up
    by_cases e : ad m s kd' i' = ad m s kd i ∧ k' = k
    · rw [if_pos e]
      have q := ad_inj hp h'.1 h e.1
      rw [if_pos ⟨q.1, q.2, e.2⟩]
    · rw [if_neg e, if_neg]
      rintro ⟨rfl, rfl, rfl⟩
      exact e ⟨rfl, rfl⟩
  · have q : ¬ (kd' = kd ∧ i' = i ∧ k' = k) := by
      rintro ⟨rfl, rfl, rfl⟩
      exact h' ⟨h, hk⟩
    rw [if_neg h', if_neg q, if_neg h']
theorem mS_rf {m : fm_M} {s : Nat} (hp : pS m s) : mS s m m (cv m s) := ⟨rfl, hp, fun _ _ _ => ⟨rfl, rfl⟩, rfl⟩
theorem mS_rf' {m : fm_M} {s : Nat} {V : VV} (hp : pS m s) (hV : cv m s = V) : mS s m m V := ⟨hV, hp, fun _ _ _ => ⟨rfl, rfl⟩, rfl⟩
theorem fr_tr {lo hi : Nat} {m m1 m2 : fm_M} (h1 : fr lo hi m m1) (h2 : fr lo hi m1 m2) : fr lo hi m m2 := ⟨fun a k h => ⟨(h2.1 a k h).1.trans (h1.1 a k h).1, (h2.1 a k h).2.trans (h1.1 a k h).2⟩, h2.2.trans h1.2⟩
theorem mS_tr {m m1 m2 : fm_M} {s : Nat} {V1 V2 : VV} (h1 : mS s m m1 V1) (h2 : mS s m1 m2 V2) : mS s m m2 V2 := ⟨h2.1, h2.2.1, fr_tr h1.2.2 h2.2.2⟩
theorem fr_si {lo hi a k : Nat} {m : fm_M} {x : Int32} (h1 : lo ≤ a) (h2 : a < hi) : fr lo hi m (fm_si m a k x) := ⟨fun b j h => ⟨fm_up_o (by omega), rfl⟩, rfl⟩
theorem fr_sr {lo hi a k : Nat} {m : fm_M} {x : Nat} (h1 : lo ≤ a) (h2 : a < hi) : fr lo hi m (fm_sr m a k x) := ⟨fun b j h => ⟨rfl, fm_up_o (by omega)⟩, rfl⟩
theorem mS_put {m m1 : fm_M} {s : Nat} {V1 : VV} (h1 : mS s m m1 V1) (kd i k : Nat) (x : Int32) (h : vld kd i = true) (hk : vk kd k = true := by rfl) : mS s m (fm_si m1 (ad m1 s kd i) k x) (uV V1 kd i k x) := by
  obtain ⟨e, hp, hf⟩ := h1
  subst e
  have r := ad_r hp h
  exact ⟨cv_si hp h hk, hp, fr_tr hf (fr_si r.1 r.2)⟩
theorem cv_rd {m : fm_M} {s : Nat} {V : VV} (hV : cv m s = V) (kd i k : Nat) (h : vld kd i = true) (hk : vk kd k = true := by rfl) : m.1 (ad m s kd i) k = V kd i k := by
  subst hV
  unfold cv
  rw [if_pos ⟨h, hk⟩]
theorem vk_n {kd k : Nat} (h : kd ≠ 18) : vk kd k = true := by
  unfold vk
  rw [show Nat.beq kd 18 = false from by cases e : Nat.beq kd 18; rfl; exact absurd (Nat.eq_of_beq_eq_true e) h]
  rfl
theorem vk_18 {k : Nat} : vk 18 k = true ↔ k < 7 := ⟨fun h => Nat.blt_eq.mp h, fun h => Nat.blt_eq.mpr h⟩
theorem cv_g {m : fm_M} {s i k : Nat} (h : 7 ≤ k) : cv m s 18 i k = 0 := if_neg (fun z => by have := vk_18.mp z.2; omega)
