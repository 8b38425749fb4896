/-! the class copies a state -/
theorem nn_ofNat (n : Nat) : Int32.ofNat n = nn n := ii_ofNat n
/-- a point is added -/
def aP (S : Nat → Nat → Nat → Prop) (kd i k : Nat) : Nat → Nat → Nat → Prop := fun kd' i' k' => S kd' i' k' ∨ (kd' = kd ∧ i' = i ∧ k' = k)
/-- places below n of a row are added -/
def aR (S : Nat → Nat → Nat → Prop) (kd i n : Nat) : Nat → Nat → Nat → Prop := fun kd' i' k' => S kd' i' k' ∨ (kd' = kd ∧ i' = i ∧ k' < n)
/-- in t stands what V says where S says so, elsewhere that or what stood there -/
def CP (t : Nat) (m0 m : fm_M) (V : VV) (S : Nat → Nat → Nat → Prop) : Prop := ∃ V', mI t m0 m V' ∧ (∀ kd i k, V' kd i k = V kd i k ∨ V' kd i k = cv m0 t kd i k) ∧ ∀ kd i k, S kd i k → V' kd i k = V kd i k
theorem CP_m {t : Nat} {m0 m : fm_M} {V : VV} {S S' : Nat → Nat → Nat → Prop} (h : CP t m0 m V S) (hs : ∀ kd i k, S' kd i k → S kd i k) : CP t m0 m V S' := by
  obtain ⟨V', h1, h2, h3⟩ := h
  exact ⟨V', h1, h2, fun kd i k z => h3 kd i k (hs kd i k z)⟩
section
variable {H : fm_H} {s t : Nat} {m0 m : fm_M} {V : VV} {S : Nat → Nat → Nat → Prop}
theorem CP_s (hd : s + 160 ≤ t ∨ t + 160 ≤ s) (hps : pS m0 s) (hV : cv m0 s = V) (h : CP t m0 m V S) (kd i k : Nat) (hv : vld kd i = true) (hk : vk kd k = true := by rfl) {a : Nat} (ha : ad m0 s kd i = a) : m.1 a k = V kd i k := by
  obtain ⟨V', h1, h2, h3⟩ := h
  have r := ad_r hps hv
  rw [ha] at r
  rw [(h1.2.2.1.1 a k (by omega)).1, ← ha]
  exact cv_rd hV kd i k hv hk
theorem CP_r (h : CP t m0 m V S) : m.2.1 = m0.2.1 := by
  obtain ⟨V', h1, -⟩ := h
  exact h1.2.2.2
theorem CP_t (h : CP t m0 m V S) (kd i k : Nat) (hS : S kd i k) (hv : vld kd i = true) (hk : vk kd k = true := by rfl) {a : Nat} (ha : ad m0 t kd i = a) : m.1 a k = V kd i k := by
  obtain ⟨V', h1, h2, h3⟩ := h
  exact (mI_rd h1 kd i k hv ha hk).trans (h3 kd i k hS)
theorem CP_u (h : CP t m0 m V S) (kd i k : Nat) (hv : vld kd i = true) {a : Nat} (ha : ad m0 t kd i = a) {x : Int32} (hx : x = V kd i k) (hk : vk kd k = true := by rfl) : CP t m0 (fm_si m a k x) V (aP S kd i k) := by
  obtain ⟨V', h1, h2, h3⟩ := h
  refine ⟨_, mI_u h1 kd i k hv ha hk, fun kd' i' k' => ?_, fun kd' i' k' z => ?_⟩
  · rw [uV_at]
    split
    · rename_i e
      rw [e.1, e.2.1, e.2.2]
      exact Or.inl hx
    · exact h2 kd' i' k'
  · rw [uV_at]
    split
    · rename_i e
      rw [e.1, e.2.1, e.2.2]
      exact hx
    · rename_i e
      rcases z with z | z
      · exact h3 kd' i' k' z
      · exact absurd z e
theorem fE_cp {β : Type} {F : fm_M → Option (β × fm_M)} {Q : β → fm_M → Prop} (h : CP t m0 m V S) (kd i k : Nat) (hv : vld kd i = true) {a : Nat} (ha : ad m0 t kd i = a) {x : Int32} (hx : x = V kd i k) (g : ∀ m1, CP t m0 m1 V (aP S kd i k) → fE (F m1) Q) (hk : vk kd k = true := by rfl) : fE (fm_bd (fm_si m a k x) F) Q := by
  rw [fb_d]
  exact g _ (CP_u h kd i k hv ha hx hk)
theorem c_cpn (hd : s + 160 ≤ t ∨ t + 160 ≤ s) (hps : pS m0 s) (hV : cv m0 s = V) {kd i n a1 a2 : Nat} (hv : vld kd i = true) (h18 : kd ≠ 18) (ha1 : ad m0 s kd i = a1) (ha2 : ad m0 t kd i = a2) (hz1 : fm_sz H a1 = n) (hz2 : fm_sz H a2 = n) (hn : n ≤ 200) : ∀ (k q j : Nat) (m : fm_M), CP t m0 m V (aR S kd i j) → j + k = n → k < q → fE (f_X11_copyNumbers_2 H a1 a2 q (nn j) m) (fun _ m' => CP t m0 m' V (aR S kd i n)) := by
  intro k
  induction k with
  | zero =>
    intro q j m h h1 h2
    obtain ⟨q, rfl⟩ : ∃ q', q = q' + 1 := ⟨q - 1, by omega⟩
    have ej : j = n := by omega
    subst ej
    unfold f_X11_copyNumbers_2
    rw [hz1, nn_ofNat, if_pos ((nn_le (a := j) (b := j) (by omega) (by omega)).mpr (Nat.le_refl _))]
    exact fE_ret h
  | succ k ih =>
    intro q j m h h1 h2
    obtain ⟨q, rfl⟩ : ∃ q', q = q' + 1 := ⟨q - 1, by omega⟩
    unfold f_X11_copyNumbers_2
    rw [hz1, hz2, nn_ofNat, if_neg (show ¬ (nn n ≤ nn j) by rw [nn_le (by omega) (by omega)]; omega), if_neg (show ¬ (nn n ≤ nn j) by rw [nn_le (by omega) (by omega)]; omega), if_pos ((nn_in (by omega)).mpr (by omega)), if_pos ((nn_in (by omega)).mpr (by omega)), nn_tn (by omega), nn_inc]
    refine fE_cp h kd i j hv ha2 (CP_s hd hps hV h kd i j hv (vk_n h18) ha1) (fun m1 h' => ?_) (vk_n h18)
    refine ih q (j + 1) m1 (CP_m h' (fun kd' i' k' z => ?_)) (by omega) (by omega)
    rcases z with z | ⟨z1, z2, z3⟩
    · exact Or.inl (Or.inl z)
    · by_cases e : k' = j
      · exact Or.inr ⟨z1, z2, e⟩
      · exact Or.inl (Or.inr ⟨z1, z2, by omega⟩)
theorem c_copyNumbers (hd : s + 160 ≤ t ∨ t + 160 ≤ s) (hps : pS m0 s) (hV : cv m0 s = V) {kd i n a1 a2 : Nat} (hv : vld kd i = true) (h18 : kd ≠ 18) (ha1 : ad m0 s kd i = a1) (ha2 : ad m0 t kd i = a2) (hz1 : fm_sz H a1 = n) (hz2 : fm_sz H a2 = n) (hn : n ≤ 200) (h : CP t m0 m V S) : fE (f_X11_copyNumbers H a1 a2 m) (fun _ m' => CP t m0 m' V (aR S kd i n)) := by
  unfold f_X11_copyNumbers
  rw [nl_0]
  exact c_cpn hd hps hV hv h18 ha1 ha2 hz1 hz2 hn n fm_N 0 m (CP_m h (fun kd' i' k' z => by rcases z with z | z; exact z; omega)) (by omega) (by unfold fm_N; omega)
theorem c_cpWay (hS : kS H s) (hT : kS H t) (hd : s + 160 ≤ t ∨ t + 160 ≤ s) (hps : pS m0 s) (hpt : pS m0 t) (hV : cv m0 s = V) {i c : Nat} (hi : i < 8) (hc : c < 2) (h : CP t m0 m V S) : fE (f_X10_copyFrom H (wA m0 t (10 + 4 * c) i) (wA m0 s (10 + 4 * c) i) m) (fun _ m' => CP t m0 m' V (aR (aR (aR (aP S (10 + 4 * c) i 0) (11 + 4 * c) i 6) (12 + 4 * c) i 6) (13 + 4 * c) i 6)) := by
  have hws := wA_k hS hps (b := 10 + 4 * c) hi
  have hwt := wA_k hT hpt (b := 10 + 4 * c) hi
  have ds : ∀ j, j < 4 → ad m0 s (10 + 4 * c + j) i = wA m0 s (10 + 4 * c) i + j ∧ vld (10 + 4 * c + j) i = true := fun j hj => wA_d (b4 hc) hi hj
  have dt : ∀ j, j < 4 → ad m0 t (10 + 4 * c + j) i = wA m0 t (10 + 4 * c) i + j ∧ vld (10 + 4 * c + j) i = true := fun j hj => wA_d (b4 hc) hi hj
  unfold f_X10_copyFrom
  refine fE_cp h (10 + 4 * c) i 0 (ds 0 (by omega)).2 (dt 0 (by omega)).1 (CP_s hd hps hV h (10 + 4 * c) i 0 (ds 0 (by omega)).2 (vk_n (by omega)) (ds 0 (by omega)).1) (fun m1 h1 => ?_) (vk_n (by omega))
  rw [kW_1 hws, kW_1 hwt, kW_2 hws, kW_2 hwt, kW_3 hws, kW_3 hwt]
  have e1 : 11 + 4 * c = 10 + 4 * c + 1 := by omega
  have e2 : 12 + 4 * c = 10 + 4 * c + 2 := by omega
  have e3 : 13 + 4 * c = 10 + 4 * c + 3 := by omega
  refine fE_be (c_copyNumbers hd hps hV (kd := 11 + 4 * c) (i := i) (by rw [e1]; exact (ds 1 (by omega)).2) (by omega) (by rw [e1]; exact (ds 1 (by omega)).1) (by rw [e1]; exact (dt 1 (by omega)).1) (kW_z1 hws) (kW_z1 hwt) (by omega) h1) (fun _ m2 h2 => ?_)
  refine fE_be (c_copyNumbers hd hps hV (kd := 12 + 4 * c) (i := i) (by rw [e2]; exact (ds 2 (by omega)).2) (by omega) (by rw [e2]; exact (ds 2 (by omega)).1) (by rw [e2]; exact (dt 2 (by omega)).1) (kW_z2 hws) (kW_z2 hwt) (by omega) h2) (fun _ m3 h3 => ?_)
  refine fE_be (c_copyNumbers hd hps hV (kd := 13 + 4 * c) (i := i) (by rw [e3]; exact (ds 3 (by omega)).2) (by omega) (by rw [e3]; exact (ds 3 (by omega)).1) (by rw [e3]; exact (dt 3 (by omega)).1) (kW_z3 hws) (kW_z3 hwt) (by omega) h3) (fun _ m4 h4 => fE_ret h4)
theorem c_cpCirc (hS : kS H s) (hT : kS H t) (hd : s + 160 ≤ t ∨ t + 160 ≤ s) (hps : pS m0 s) (hpt : pS m0 t) (hV : cv m0 s = V) {i : Nat} (hi : i < 8) (h : CP t m0 m V S) : fE (f_X0_copyFrom H (m0.2.1 (t + 26) i) (m0.2.1 (s + 26) i) m) (fun _ m' => CP t m0 m' V (fun kd a k => S kd a k ∨ (a = i ∧ ((kd = 9 ∧ k < 13) ∨ ((kd = 10 ∨ kd = 14) ∧ k = 0) ∨ ((kd = 11 ∨ kd = 12 ∨ kd = 13 ∨ kd = 15 ∨ kd = 16 ∨ kd = 17) ∧ k < 6))))) := by
  have rs : ∀ {m S} (k : Nat), CP t m0 m V S → m.1 (m0.2.1 (s + 26) i) k = V 9 i k := fun k h => CP_s hd hps hV h 9 i k (v9 hi) rfl rfl
  unfold f_X0_copyFrom
  refine fE_cp h 9 i 0 (v9 hi) rfl (rs 0 h) (fun m1 h1 => ?_)
  refine fE_cp h1 9 i 1 (v9 hi) rfl (rs 1 h1) (fun m2 h2 => ?_)
  refine fE_cp h2 9 i 2 (v9 hi) rfl (rs 2 h2) (fun m3 h3 => ?_)
  refine fE_cp h3 9 i 3 (v9 hi) rfl (rs 3 h3) (fun m4 h4 => ?_)
  refine fE_cp h4 9 i 4 (v9 hi) rfl (rs 4 h4) (fun m5 h5 => ?_)
  refine fE_cp h5 9 i 5 (v9 hi) rfl (rs 5 h5) (fun m6 h6 => ?_)
  refine fE_cp h6 9 i 6 (v9 hi) rfl (rs 6 h6) (fun m7 h7 => ?_)
  refine fE_cp h7 9 i 7 (v9 hi) rfl (rs 7 h7) (fun m8 h8 => ?_)
  refine fE_cp h8 9 i 8 (v9 hi) rfl (rs 8 h8) (fun m9 h9 => ?_)
  refine fE_cp h9 9 i 9 (v9 hi) rfl (rs 9 h9) (fun m10 h10 => ?_)
  refine fE_cp h10 9 i 10 (v9 hi) rfl (rs 10 h10) (fun m11 h11 => ?_)
  refine fE_cp h11 9 i 11 (v9 hi) rfl (rs 11 h11) (fun m12 h12 => ?_)
  refine fE_cp h12 9 i 12 (v9 hi) rfl (rs 12 h12) (fun m13 h13 => ?_)
  rw [CP_r h13]
  refine fE_p (kW_b (pS_wo hT hpt hi)) (fE_p (kW_b (pS_wo hS hps hi)) ?_)
  refine fE_be (c_cpWay hS hT hd hps hpt hV (i := i) (c := 0) hi (by omega) h13) (fun _ m14 h14 => ?_)
  rw [CP_r h14]
  refine fE_p (kW_b (pS_wf hT hpt hi)) (fE_p (kW_b (pS_wf hS hps hi)) ?_)
  refine fE_be (c_cpWay hS hT hd hps hpt hV (i := i) (c := 1) hi (by omega) h14) (fun _ m15 h15 => fE_ret (CP_m h15 (fun kd a k z => ?_)))
  unfold aR aP
  rcases z with z | ⟨z1, z2⟩
  · simp only [z, true_or]
  · subst z1
    rcases z2 with ⟨rfl, z⟩ | ⟨z1 | z1, z⟩ | ⟨z1 | z1 | z1 | z1 | z1 | z1, z⟩
    · rcases (show k = 0 ∨ k = 1 ∨ k = 2 ∨ k = 3 ∨ k = 4 ∨ k = 5 ∨ k = 6 ∨ k = 7 ∨ k = 8 ∨ k = 9 ∨ k = 10 ∨ k = 11 ∨ k = 12 by omega) with e | e | e | e | e | e | e | e | e | e | e | e | e <;> subst e <;> simp
    all_goals (subst z1; simp [z])
theorem c_cpPk (hd : s + 160 ≤ t ∨ t + 160 ≤ s) (hps : pS m0 s) (hV : cv m0 s = V) {p : Nat} (hp : p < 60) (h : CP t m0 m V S) : fE (f_X5_copyFrom H (m0.2.1 (t + 27) p) (m0.2.1 (s + 27) p) m) (fun _ m' => CP t m0 m' V (aR S 18 p 7)) := by
  have rs : ∀ {m S} (k : Nat), vk 18 k = true → CP t m0 m V S → m.1 (m0.2.1 (s + 27) p) k = V 18 p k := fun k hk h => CP_s hd hps hV h 18 p k (v18 hp) hk rfl
  unfold f_X5_copyFrom
  refine fE_cp h 18 p 0 (v18 hp) rfl (rs 0 rfl h) (fun m1 h1 => ?_)
  refine fE_cp h1 18 p 1 (v18 hp) rfl (rs 1 rfl h1) (fun m2 h2 => ?_)
  refine fE_cp h2 18 p 2 (v18 hp) rfl (rs 2 rfl h2) (fun m3 h3 => ?_)
  refine fE_cp h3 18 p 3 (v18 hp) rfl (rs 3 rfl h3) (fun m4 h4 => ?_)
  refine fE_cp h4 18 p 4 (v18 hp) rfl (rs 4 rfl h4) (fun m5 h5 => ?_)
  refine fE_cp h5 18 p 5 (v18 hp) rfl (rs 5 rfl h5) (fun m6 h6 => ?_)
  refine fE_cp h6 18 p 6 (v18 hp) rfl (rs 6 rfl h6) (fun m7 h7 => fE_ret (CP_m h7 (fun kd a k z => ?_)))
  unfold aP
  rcases z with z | ⟨rfl, rfl, z⟩
  · simp only [z, true_or]
  · rcases (show k = 0 ∨ k = 1 ∨ k = 2 ∨ k = 3 ∨ k = 4 ∨ k = 5 ∨ k = 6 by omega) with e | e | e | e | e | e | e <;> subst e <;> simp
theorem c_cpLk (hd : s + 160 ≤ t ∨ t + 160 ≤ s) (hps : pS m0 s) (hV : cv m0 s = V) {j : Nat} (hj : j < 16) (hu : V 3 j 4 = 0 ∨ V 3 j 4 = 1) (h : CP t m0 m V S) : fE (f_X3_copyFrom H (t + 4 + j) (s + 4 + j) m) (fun _ m' => CP t m0 m' V (aR S 3 j 5)) := by
  have rs : ∀ {m S} (k : Nat), CP t m0 m V S → m.1 (s + 4 + j) k = V 3 j k := fun k h => CP_s hd hps hV h 3 j k (v3 hj) rfl rfl
  unfold f_X3_copyFrom
  refine fE_cp h 3 j 0 (v3 hj) rfl (rs 0 h) (fun m1 h1 => ?_)
  refine fE_cp h1 3 j 1 (v3 hj) rfl (rs 1 h1) (fun m2 h2 => ?_)
  refine fE_cp h2 3 j 2 (v3 hj) rfl (rs 2 h2) (fun m3 h3 => ?_)
  refine fE_cp h3 3 j 3 (v3 hj) rfl (rs 3 h3) (fun m4 h4 => ?_)
  refine fE_p (by rw [rs 4 h4]; rcases hu with e | e <;> rw [e] <;> decide) ?_
  refine fE_cp h4 3 j 4 (v3 hj) rfl (rs 4 h4) (fun m5 h5 => fE_ret (CP_m h5 (fun kd a k z => ?_)))
  unfold aP
  rcases z with z | ⟨rfl, rfl, z⟩
  · simp only [z, true_or]
  · rcases (show k = 0 ∨ k = 1 ∨ k = 2 ∨ k = 3 ∨ k = 4 by omega) with e | e | e | e | e <;> subst e <;> simp
end
