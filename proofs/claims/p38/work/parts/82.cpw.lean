/-! the class copies a way's nodes; a circuit begins -/
def cpj (m : fm_M) (w w1 j : Nat) : fm_M := (fun a k => if a = w ∧ k = 0 then m.1 w1 0 else if a = w + 1 ∧ k < j then m.1 (w1 + 1) k else if a = w + 2 ∧ k < j then m.1 (w1 + 2) k else if a = w + 3 ∧ k < j then -1 else m.1 a k, m.2)
theorem M_ext {m m' : fm_M} (h1 : ∀ a k, m.1 a k = m'.1 a k) (h2 : m.2 = m'.2) : m = m' := Prod.ext (funext fun a => funext fun k => h1 a k) h2
theorem si_at (m : fm_M) (a k : Nat) (x : Int32) (c j : Nat) : (fm_si m a k x).1 c j = if c = a ∧ j = k then x else m.1 c j := rfl
theorem si_2 (m : fm_M) (a k : Nat) (x : Int32) : (fm_si m a k x).2 = m.2 := rfl
section
variable {H : fm_H} {m : fm_M}
theorem cpj_s {w w1 j : Nat} (hd : w1 + 4 ≤ w ∨ w + 4 ≤ w1) : fm_si (fm_si (fm_si (cpj m w w1 j) (w + 1) j ((cpj m w w1 j).1 (w1 + 1) j)) (w + 2) j ((fm_si (cpj m w w1 j) (w + 1) j ((cpj m w w1 j).1 (w1 + 1) j)).1 (w1 + 2) j)) (w + 3) j (-1) = cpj m w w1 (j + 1) := by
  have r1 : (cpj m w w1 j).1 (w1 + 1) j = m.1 (w1 + 1) j := by
    unfold cpj
    simp (disch := omega) only [if_neg]
  have r2 : (fm_si (cpj m w w1 j) (w + 1) j ((cpj m w w1 j).1 (w1 + 1) j)).1 (w1 + 2) j = m.1 (w1 + 2) j := by
    rw [si_at, if_neg (by omega)]
    unfold cpj
    simp (disch := omega) only [if_neg]
  rw [r2, r1]
  refine M_ext (fun a k => ?_) rfl
  rw [si_at, si_at, si_at]
  unfold cpj
  dsimp only
  by_cases e0 : a = w ∧ k = 0
  · rw [if_neg (by omega), if_neg (by omega), if_neg (by omega), if_pos e0, if_pos e0]
  · rw [if_neg e0, if_neg e0]
    by_cases e1 : a = w + 1 ∧ k < j + 1
    · rw [if_pos e1, if_neg (by omega), if_neg (by omega)]
      by_cases ek : k = j
      · rw [if_pos ⟨e1.1, ek⟩, ek]
      · rw [if_neg (fun z => ek z.2), if_pos (by omega)]
    · rw [if_neg e1]
      by_cases e2 : a = w + 2 ∧ k < j + 1
      · rw [if_pos e2, if_neg (by omega)]
        by_cases ek : k = j
        · rw [if_pos ⟨e2.1, ek⟩, ek]
        · rw [if_neg (fun z => ek z.2), if_neg (by omega), if_neg (by omega), if_pos (by omega)]
      · rw [if_neg e2]
        by_cases e3 : a = w + 3 ∧ k < j + 1
        · rw [if_pos e3]
          by_cases ek : k = j
          · rw [if_pos ⟨e3.1, ek⟩]
          · rw [if_neg (fun z => ek z.2), if_neg (by omega), if_neg (by omega), if_neg (by omega), if_neg (by omega), if_pos (by omega)]
        · rw [if_neg e3, if_neg (by omega), if_neg (by omega), if_neg (by omega), if_neg (by omega), if_neg (by omega), if_neg (by omega)]
theorem c_cpn_l {w w1 : Nat} (hw : kW H w) (hw1 : kW H w1) (hd : w1 + 4 ≤ w ∨ w + 4 ≤ w1) : ∀ (k q j : Nat), j + k = 6 → k < q → f_X10_copyNodes_10 H w w1 q (nn j) (cpj m w w1 j) = some ((), cpj m w w1 6) := by
  intro k
  induction k with
  | zero =>
    intro q j h1 h2
    obtain ⟨q, rfl⟩ : ∃ q', q = q' + 1 := ⟨q - 1, by omega⟩
    have ej : j = 6 := by omega
    subst ej
    unfold f_X10_copyNodes_10
    rw [if_pos (by decide)]
  | succ k ih =>
    intro q j h1 h2
    obtain ⟨q, rfl⟩ : ∃ q', q = q' + 1 := ⟨q - 1, by omega⟩
    unfold f_X10_copyNodes_10
    simp (disch := omega) only [nl_6, nn_le, if_neg, kW_1 hw, kW_2 hw, kW_3 hw, kW_z1 hw, kW_z2 hw, kW_z3 hw, kW_1 hw1, kW_2 hw1, kW_3 hw1, kW_z1 hw1, kW_z2 hw1, kW_z3 hw1, nn_in, if_pos, nn_tn, fb_d, nn_inc]
    rw [cpj_s hd]
    exact ih q (j + 1) (by omega) (by omega)
theorem c_copyNodes {w w1 : Nat} (hw : kW H w) (hw1 : kW H w1) (hd : w1 + 4 ≤ w ∨ w + 4 ≤ w1) : f_X10_copyNodes H w w1 m = some ((), cpj m w w1 6) := by
  unfold f_X10_copyNodes
  rw [fb_d, nl_0]
  have : fm_si m w 0 (m.1 w1 0) = cpj m w w1 0 := by
    refine M_ext (fun a k => ?_) rfl
    rw [si_at]
    unfold cpj
    dsimp only
    by_cases e0 : a = w ∧ k = 0
    · rw [if_pos e0, if_pos e0]
    · rw [if_neg e0, if_neg e0, if_neg (by omega), if_neg (by omega), if_neg (by omega)]
  rw [this]
  exact c_cpn_l hw hw1 hd 6 fm_N 0 (by omega) (by unfold fm_N; omega)
end
/-- way c of circuit i is a copy -/
def cpV (V : VV) (i c : Nat) (n : Int32) (N L : Nat → Int32) : VV := fun kd a k => if a = i ∧ kd = 10 + 4 * c ∧ k = 0 then n else if a = i ∧ kd = 11 + 4 * c ∧ k < 6 then N k else if a = i ∧ kd = 12 + 4 * c ∧ k < 6 then L k else if a = i ∧ kd = 13 + 4 * c ∧ k < 6 then -1 else V kd a k
section
variable {H : fm_H} {s : Nat} {m : fm_M} {V : VV}
theorem mI_cp (hp : pS m s) {m0 : fm_M} (h0 : mI s m m0 V) {i c w1 : Nat} (hi : i < 8) (hc : c < 2) : mI s m (cpj m0 (wA m s (10 + 4 * c) i) w1 6) (cpV V i c (m0.1 w1 0) (m0.1 (w1 + 1)) (m0.1 (w1 + 2))) := by
  obtain ⟨e1, e2, e3, e4⟩ := h0
  have d0 := wA_d (m := m) (s := s) (b4 hc) hi (j := 0) (by omega)
  have d1 := wA_d (m := m) (s := s) (b4 hc) hi (j := 1) (by omega)
  have d2 := wA_d (m := m) (s := s) (b4 hc) hi (j := 2) (by omega)
  have d3 := wA_d (m := m) (s := s) (b4 hc) hi (j := 3) (by omega)
  rw [show 10 + 4 * c + 1 = 11 + 4 * c from by omega] at d1
  rw [show 10 + 4 * c + 2 = 12 + 4 * c from by omega] at d2
  rw [show 10 + 4 * c + 3 = 13 + 4 * c from by omega] at d3
  have r0 := ad_r hp d0.2
  have r1 := ad_r hp d1.2
  have r2 := ad_r hp d2.2
  have r3 := ad_r hp d3.2
  rw [d0.1] at r0
  rw [d1.1] at r1
  rw [d2.1] at r2
  rw [d3.1] at r3
  refine ⟨?_, pS_eq e2 rfl, fr_tr e3 ⟨fun a k h => ⟨?_, rfl⟩, rfl⟩, e4⟩
  · funext kd a k
    subst e1
    show (if vld kd a = true ∧ vk kd k = true then (cpj m0 (wA m s (10 + 4 * c) i) w1 6).1 (ad (cpj m0 (wA m s (10 + 4 * c) i) w1 6) s kd a) k else 0) = _
    have ea : ad (cpj m0 (wA m s (10 + 4 * c) i) w1 6) s kd a = ad m s kd a := by
      have e : (cpj m0 (wA m s (10 + 4 * c) i) w1 6).2.1 = m.2.1 := e4
      unfold ad
      rw [e]
    have q0 : vld kd a = true → (ad m s kd a = wA m s (10 + 4 * c) i ↔ a = i ∧ kd = 10 + 4 * c) := fun h => ⟨fun z => by
      have := ad_inj hp h d0.2 (z.trans d0.1.symm)
      exact ⟨this.2, this.1⟩, fun z => by rw [z.1, z.2]; exact d0.1⟩
    have q1 : vld kd a = true → (ad m s kd a = wA m s (10 + 4 * c) i + 1 ↔ a = i ∧ kd = 11 + 4 * c) := fun h => ⟨fun z => by
      have := ad_inj hp h d1.2 (z.trans d1.1.symm)
      exact ⟨this.2, this.1⟩, fun z => by rw [z.1, z.2]; exact d1.1⟩
    have q2 : vld kd a = true → (ad m s kd a = wA m s (10 + 4 * c) i + 2 ↔ a = i ∧ kd = 12 + 4 * c) := fun h => ⟨fun z => by
      have := ad_inj hp h d2.2 (z.trans d2.1.symm)
      exact ⟨this.2, this.1⟩, fun z => by rw [z.1, z.2]; exact d2.1⟩
    have q3 : vld kd a = true → (ad m s kd a = wA m s (10 + 4 * c) i + 3 ↔ a = i ∧ kd = 13 + 4 * c) := fun h => ⟨fun z => by
      have := ad_inj hp h d3.2 (z.trans d3.1.symm)
      exact ⟨this.2, this.1⟩, fun z => by rw [z.1, z.2]; exact d3.1⟩
    rw [ea]
    have ecv : cv m0 s kd a k = if vld kd a = true ∧ vk kd k = true then m0.1 (ad m s kd a) k else 0 := by
      unfold cv
      rw [show ad m0 s kd a = ad m s kd a from by unfold ad; rw [e4]]
    by_cases hv : vld kd a = true ∧ vk kd k = true
    · rw [if_pos hv]
      rw [if_pos hv] at ecv
      show (if ad m s kd a = wA m s (10 + 4 * c) i ∧ k = 0 then m0.1 w1 0 else if ad m s kd a = wA m s (10 + 4 * c) i + 1 ∧ k < 6 then m0.1 (w1 + 1) k else if ad m s kd a = wA m s (10 + 4 * c) i + 2 ∧ k < 6 then m0.1 (w1 + 2) k else if ad m s kd a = wA m s (10 + 4 * c) i + 3 ∧ k < 6 then -1 else m0.1 (ad m s kd a) k) = (if a = i ∧ kd = 10 + 4 * c ∧ k = 0 then m0.1 w1 0 else if a = i ∧ kd = 11 + 4 * c ∧ k < 6 then m0.1 (w1 + 1) k else if a = i ∧ kd = 12 + 4 * c ∧ k < 6 then m0.1 (w1 + 2) k else if a = i ∧ kd = 13 + 4 * c ∧ k < 6 then -1 else cv m0 s kd a k)
      rw [ecv]
      simp only [q0 hv.1, q1 hv.1, q2 hv.1, q3 hv.1, and_assoc]
    · rw [if_neg hv]
      rw [if_neg hv] at ecv
      have n : ∀ d, d < 4 → ¬ (a = i ∧ kd = 10 + d + 4 * c) := by
        rintro d hd ⟨rfl, rfl⟩
        refine hv ⟨?_, vk_n (by omega)⟩
        have := (wA_d (m := m) (s := s) (b4 hc) hi (j := d) hd).2
        rw [show 10 + d + 4 * c = 10 + 4 * c + d from by omega]
        exact this
      unfold cpV
      rw [if_neg (fun z => n 0 (by omega) ⟨z.1, by omega⟩), if_neg (fun z => n 1 (by omega) ⟨z.1, by omega⟩), if_neg (fun z => n 2 (by omega) ⟨z.1, by omega⟩), if_neg (fun z => n 3 (by omega) ⟨z.1, by omega⟩), ecv]
  · show (if a = wA m s (10 + 4 * c) i ∧ k = 0 then m0.1 w1 0 else if a = wA m s (10 + 4 * c) i + 1 ∧ k < 6 then m0.1 (w1 + 1) k else if a = wA m s (10 + 4 * c) i + 2 ∧ k < 6 then m0.1 (w1 + 2) k else if a = wA m s (10 + 4 * c) i + 3 ∧ k < 6 then -1 else m0.1 a k) = m0.1 a k
    rw [if_neg (by omega), if_neg (by omega), if_neg (by omega), if_neg (by omega)]
end
