/-! the class copies a state, whole -/
section
variable {H : fm_H} {s t : Nat} {m0 m : fm_M} {V : VV} {S : Nat → Nat → Nat → Prop}
theorem c_cpLinks (hS : kS H s) (hT : kS H t) (hd : s + 160 ≤ t ∨ t + 160 ≤ s) (hps : pS m0 s) (hpt : pS m0 t) (hV : cv m0 s = V) (hG : vG V) (hU : iU V) (h1S : S 1 0 1) : ∀ (k q j : Nat) (m : fm_M), CP t m0 m V (fun kd i k' => S kd i k' ∨ (kd = 3 ∧ i < j ∧ k' < 5)) → j + k = eL V → k < q → fE (f_X4_copyFrom_29 H (t + 1) (s + 1) q (nn j) m) (fun _ m' => CP t m0 m' V (fun kd i k' => S kd i k' ∨ (kd = 3 ∧ i < eL V ∧ k' < 5))) := by
  have hL16 := hG.2.2.2.2.1.2.1
  intro k
  induction k with
  | zero =>
    intro q j m h h1 h2
    obtain ⟨q, rfl⟩ : ∃ q', q = q' + 1 := ⟨q - 1, by omega⟩
    have ej : j = eL V := by omega
    subst ej
    unfold f_X4_copyFrom_29
    rw [show m.1 (t + 1) 1 = V 1 0 1 from CP_t h 1 0 1 (Or.inl h1S) rfl rfl rfl, show V 1 0 1 = nn (eL V) from hG.2.1, if_pos ((nn_le (by omega) (by omega)).mpr (Nat.le_refl _))]
    exact fE_ret h
  | succ k ih =>
    intro q j m h h1 h2
    obtain ⟨q, rfl⟩ : ∃ q', q = q' + 1 := ⟨q - 1, by omega⟩
    have hj : j < 16 := by omega
    unfold f_X4_copyFrom_29
    rw [show m.1 (t + 1) 1 = V 1 0 1 from CP_t h 1 0 1 (Or.inl h1S) rfl rfl rfl, show V 1 0 1 = nn (eL V) from hG.2.1, if_neg (by rw [nn_le (by omega) (by omega)]; omega), if_neg (by rw [nl_16, nn_le (by omega) (by omega)]; omega), kS_n2 hT, kS_n2 hS, kS_z2 hT, kS_z2 hS, nn_tn (by omega), CP_r h, pS_lk hpt hj, pS_lk hps hj, nn_inc]
    refine fE_p ((nn_in (by omega)).mpr hj) (fE_p (kS_lk hT hj) (fE_p ((nn_in (by omega)).mpr hj) (fE_p (kS_lk hS hj) ?_)))
    refine fE_be (c_cpLk hd hps hV hj (hU j (by omega)) h) (fun _ m1 h' => ih q (j + 1) m1 (CP_m h' (fun kd a k' z => ?_)) (by omega) (by omega))
    rcases z with z | ⟨z1, z2, z3⟩
    · exact Or.inl (Or.inl z)
    · by_cases e : a = j
      · exact Or.inr ⟨z1, e, z3⟩
      · exact Or.inl (Or.inr ⟨z1, by omega, z3⟩)
theorem c_cpPks (hS : kS H s) (hT : kS H t) (hd : s + 160 ≤ t ∨ t + 160 ≤ s) (hps : pS m0 s) (hpt : pS m0 t) (hV : cv m0 s = V) (hG : vG V) (h6S : S 0 0 6) : ∀ (k q j : Nat) (m : fm_M), CP t m0 m V (fun kd i k' => S kd i k' ∨ (kd = 18 ∧ i < j ∧ k' < 7)) → j + k = eP V → k < q → fE (f_X7_copyFrom_112 H t s q (nn j) m) (fun _ m' => CP t m0 m' V (fun kd i k' => S kd i k' ∨ (kd = 18 ∧ i < eP V ∧ k' < 7))) := by
  have hP60 := hG.2.2.2.2.1.2.2.2
  intro k
  induction k with
  | zero =>
    intro q j m h h1 h2
    obtain ⟨q, rfl⟩ : ∃ q', q = q' + 1 := ⟨q - 1, by omega⟩
    have ej : j = eP V := by omega
    subst ej
    unfold f_X7_copyFrom_112
    rw [show m.1 t 6 = V 0 0 6 from CP_t h 0 0 6 (Or.inl h6S) rfl rfl rfl, show V 0 0 6 = nn (eP V) from hG.2.2.2.1, if_pos ((nn_le (by omega) (by omega)).mpr (Nat.le_refl _))]
    exact fE_ret h
  | succ k ih =>
    intro q j m h h1 h2
    obtain ⟨q, rfl⟩ : ∃ q', q = q' + 1 := ⟨q - 1, by omega⟩
    have hj : j < 60 := by omega
    unfold f_X7_copyFrom_112
    rw [show m.1 t 6 = V 0 0 6 from CP_t h 0 0 6 (Or.inl h6S) rfl rfl rfl, show V 0 0 6 = nn (eP V) from hG.2.2.2.1, if_neg (by rw [nn_le (by omega) (by omega)]; omega), if_neg (by rw [nl_60, nn_le (by omega) (by omega)]; omega), kS_4 hT, kS_4 hS, kS_z27 hT, kS_z27 hS, nn_tn (by omega), CP_r h, nn_inc]
    refine fE_p ((nn_in (by omega)).mpr hj) (fE_p (pS_pb hT hpt hj) (fE_p ((nn_in (by omega)).mpr hj) (fE_p (pS_pb hS hps hj) ?_)))
    refine fE_be (c_cpPk hd hps hV hj h) (fun _ m1 h' => ih q (j + 1) m1 (CP_m h' (fun kd a k' z => ?_)) (by omega) (by omega))
    rcases z with z | ⟨z1, z2, z3⟩
    · exact Or.inl (Or.inl z)
    · by_cases e : a = j
      · exact Or.inr ⟨z1, e, z3⟩
      · exact Or.inl (Or.inr ⟨z1, by omega, z3⟩)
/-- what is copied of circuits below j -/
def cpC (j : Nat) (kd a k : Nat) : Prop := a < j ∧ ((kd = 9 ∧ k < 13) ∨ ((kd = 10 ∨ kd = 14) ∧ k = 0) ∨ ((kd = 11 ∨ kd = 12 ∨ kd = 13 ∨ kd = 15 ∨ kd = 16 ∨ kd = 17) ∧ k < 6))
theorem c_cpCs (hS : kS H s) (hT : kS H t) (hd : s + 160 ≤ t ∨ t + 160 ≤ s) (hps : pS m0 s) (hpt : pS m0 t) (hV : cv m0 s = V) (hG : vG V) (h5S : S 0 0 5) (h6S : S 0 0 6) : ∀ (k q j : Nat) (m : fm_M), CP t m0 m V (fun kd i k' => S kd i k' ∨ cpC j kd i k') → j + k = eK V → k < q → fE (f_X7_copyFrom_75 H t s q (nn j) m) (fun _ m' => CP t m0 m' V (fun kd i k' => (S kd i k' ∨ cpC (eK V) kd i k') ∨ (kd = 18 ∧ i < eP V ∧ k' < 7))) := by
  have hK8 := hG.2.2.2.2.1.2.2.1
  have hP60 := hG.2.2.2.2.1.2.2.2
  intro k
  induction k with
  | zero =>
    intro q j m h h1 h2
    obtain ⟨q, rfl⟩ : ∃ q', q = q' + 1 := ⟨q - 1, by omega⟩
    have ej : j = eK V := by omega
    subst ej
    unfold f_X7_copyFrom_75
    rw [show m.1 t 5 = V 0 0 5 from CP_t h 0 0 5 (Or.inl h5S) rfl rfl rfl, show V 0 0 5 = nn (eK V) from hG.2.2.1, if_pos ((nn_le (by omega) (by omega)).mpr (Nat.le_refl _)), nl_0]
    exact c_cpPks (S := fun kd i k' => S kd i k' ∨ cpC (eK V) kd i k') hS hT hd hps hpt hV hG (Or.inl h6S) (eP V) fm_N 0 m (CP_m h (fun kd a k' z => by rcases z with z | z; exact z; omega)) (by omega) (by unfold fm_N; omega)
  | succ k ih =>
    intro q j m h h1 h2
    obtain ⟨q, rfl⟩ : ∃ q', q = q' + 1 := ⟨q - 1, by omega⟩
    have hj : j < 8 := by omega
    unfold f_X7_copyFrom_75
    rw [show m.1 t 5 = V 0 0 5 from CP_t h 0 0 5 (Or.inl h5S) rfl rfl rfl, show V 0 0 5 = nn (eK V) from hG.2.2.1, if_neg (by rw [nn_le (by omega) (by omega)]; omega), if_neg (by rw [nl_8, nn_le (by omega) (by omega)]; omega), kS_3 hT, kS_3 hS, kS_z26 hT, kS_z26 hS, nn_tn (by omega), CP_r h, nn_inc]
    refine fE_p ((nn_in (by omega)).mpr hj) (fE_p (pS_cb hT hpt hj) (fE_p ((nn_in (by omega)).mpr hj) (fE_p (pS_cb hS hps hj) ?_)))
    refine fE_be (c_cpCirc hS hT hd hps hpt hV hj h) (fun _ m1 h' => ih q (j + 1) m1 (CP_m h' (fun kd a k' z => ?_)) (by omega) (by omega))
    rcases z with z | ⟨z1, z2⟩
    · exact Or.inl (Or.inl z)
    · by_cases e : a = j
      · exact Or.inr ⟨e, z2⟩
      · exact Or.inl (Or.inr ⟨by omega, z2⟩)
/-- all that is copied -/
def cpA (V : VV) (kd i k : Nat) : Prop := ((kd = 0 ∧ i = 0 ∧ 5 ≤ k ∧ k ≤ 9) ∨ (kd = 1 ∧ i = 0 ∧ k < 2) ∨ (kd = 2 ∧ i = 0 ∧ k < 100) ∨ (kd = 3 ∧ i < eL V ∧ k < 5) ∨ (kd = 4 ∧ i = 0 ∧ k < 10) ∨ ((kd = 5 ∨ kd = 6 ∨ kd = 7) ∧ i = 0 ∧ k < 120) ∨ (kd = 8 ∧ i = 0 ∧ k < 7)) ∨ cpC (eK V) kd i k ∨ (kd = 18 ∧ i < eP V ∧ k < 7)
theorem c_copyFrom (hS : kS H s) (hT : kS H t) (hd : s + 160 ≤ t ∨ t + 160 ≤ s) (hps : pS m0 s) (hpt : pS m0 t) (hV : cv m0 s = V) (hG : vG V) (hU : iU V) : fE (f_X7_copyFrom H t s m0) (fun _ m' => CP t m0 m' V (cpA V)) := by
  have hL16 := hG.2.2.2.2.1.2.1
  have hK8 := hG.2.2.2.2.1.2.2.1
  have z0 : CP t m0 m0 V (fun _ _ _ => False) := ⟨cv m0 t, mI_rf hpt rfl, fun _ _ _ => Or.inr rfl, fun _ _ _ z => False.elim z⟩
  unfold f_X7_copyFrom
  rw [kS_0 hS, kS_0 hT, kS_1 hS, kS_1 hT, kS_2 hS, kS_2 hT]
  -- the net
  refine fE_be (Q1 := fun _ m' => CP t m0 m' V (fun kd i k => (kd = 1 ∧ i = 0 ∧ k < 2) ∨ (kd = 2 ∧ i = 0 ∧ k < 100) ∨ (kd = 3 ∧ i < eL V ∧ k < 5))) ?_ (fun _ m1 h1 => ?_)
  · unfold f_X4_copyFrom
    refine fE_cp z0 1 0 0 rfl rfl (CP_s hd hps hV z0 1 0 0 rfl rfl rfl) (fun m1 h1 => ?_)
    refine fE_cp h1 1 0 1 rfl rfl (CP_s hd hps hV h1 1 0 1 rfl rfl rfl) (fun m2 h2 => ?_)
    rw [kS_n3 hS, kS_n3 hT]
    refine fE_be (c_copyNumbers hd hps hV (kd := 2) (i := 0) rfl (by omega) rfl rfl (kS_z3 hS) (kS_z3 hT) (by omega) h2) (fun _ m3 h3 => ?_)
    rw [nl_0]
    refine fE_w (c_cpLinks hS hT hd hps hpt hV hG hU (S := aR (aP (aP (fun _ _ _ => False) 1 0 0) 1 0 1) 2 0 100) (Or.inl (Or.inr ⟨rfl, rfl, rfl⟩)) (eL V) fm_N 0 m3 (CP_m h3 (fun kd a k' z => by rcases z with z | z; exact z; omega)) (by omega) (by unfold fm_N; omega)) (fun _ m' h' => CP_m h' (fun kd a k z => ?_))
    unfold aR aP
    rcases z with ⟨z1, z2, z3⟩ | z | z
    · rcases (show k = 0 ∨ k = 1 by omega) with e | e
      · exact Or.inl (Or.inl (Or.inl (Or.inr ⟨z1, z2, e⟩)))
      · exact Or.inl (Or.inl (Or.inr ⟨z1, z2, e⟩))
    · exact Or.inl (Or.inr z)
    · exact Or.inr z
  -- the labels
  refine fE_be (Q1 := fun _ m' => CP t m0 m' V (aR (aR (aR (aR (fun kd i k => (kd = 1 ∧ i = 0 ∧ k < 2) ∨ (kd = 2 ∧ i = 0 ∧ k < 100) ∨ (kd = 3 ∧ i < eL V ∧ k < 5)) 4 0 10) 5 0 120) 6 0 120) 7 0 120)) ?_ (fun _ m2 h2 => ?_)
  · unfold f_X2_copyFrom
    rw [kS_l0 hS, kS_l0 hT, kS_l1 hS, kS_l1 hT, kS_l2 hS, kS_l2 hT, kS_l3 hS, kS_l3 hT]
    refine fE_be (c_copyNumbers hd hps hV (kd := 4) (i := 0) rfl (by omega) rfl rfl (kS_z21 hS) (kS_z21 hT) (by omega) h1) (fun _ m3 h3 => ?_)
    refine fE_be (c_copyNumbers hd hps hV (kd := 5) (i := 0) rfl (by omega) rfl rfl (kS_z22 hS) (kS_z22 hT) (by omega) h3) (fun _ m4 h4 => ?_)
    refine fE_be (c_copyNumbers hd hps hV (kd := 6) (i := 0) rfl (by omega) rfl rfl (kS_z23 hS) (kS_z23 hT) (by omega) h4) (fun _ m5 h5 => ?_)
    refine fE_be (c_copyNumbers hd hps hV (kd := 7) (i := 0) rfl (by omega) rfl rfl (kS_z24 hS) (kS_z24 hT) (by omega) h5) (fun _ m6 h6 => fE_ret h6)
  -- the totals
  refine fE_be (Q1 := fun _ m' => CP t m0 m' V (aR (aR (aR (aR (aR (fun kd i k => (kd = 1 ∧ i = 0 ∧ k < 2) ∨ (kd = 2 ∧ i = 0 ∧ k < 100) ∨ (kd = 3 ∧ i < eL V ∧ k < 5)) 4 0 10) 5 0 120) 6 0 120) 7 0 120) 8 0 7)) ?_ (fun _ m3 h3 => ?_)
  · unfold f_X9_copyFrom
    refine fE_cp h2 8 0 0 rfl rfl (CP_s hd hps hV h2 8 0 0 rfl rfl rfl) (fun m3 h3 => ?_)
    refine fE_cp h3 8 0 1 rfl rfl (CP_s hd hps hV h3 8 0 1 rfl rfl rfl) (fun m4 h4 => ?_)
    refine fE_cp h4 8 0 2 rfl rfl (CP_s hd hps hV h4 8 0 2 rfl rfl rfl) (fun m5 h5 => ?_)
    refine fE_cp h5 8 0 3 rfl rfl (CP_s hd hps hV h5 8 0 3 rfl rfl rfl) (fun m6 h6 => ?_)
    refine fE_cp h6 8 0 4 rfl rfl (CP_s hd hps hV h6 8 0 4 rfl rfl rfl) (fun m7 h7 => ?_)
    refine fE_cp h7 8 0 5 rfl rfl (CP_s hd hps hV h7 8 0 5 rfl rfl rfl) (fun m8 h8 => ?_)
    refine fE_cp h8 8 0 6 rfl rfl (CP_s hd hps hV h8 8 0 6 rfl rfl rfl) (fun m9 h9 => fE_ret (CP_m h9 (fun kd a k z => ?_)))
    rcases z with z | ⟨rfl, rfl, z⟩
    · exact Or.inl (Or.inl (Or.inl (Or.inl (Or.inl (Or.inl (Or.inl z))))))
    · unfold aP
      rcases (show k = 0 ∨ k = 1 ∨ k = 2 ∨ k = 3 ∨ k = 4 ∨ k = 5 ∨ k = 6 by omega) with e | e | e | e | e | e | e <;> subst e <;> simp
  refine fE_cp h3 0 0 5 rfl rfl (CP_s hd hps hV h3 0 0 5 rfl rfl rfl) (fun m4 h4 => ?_)
  refine fE_cp h4 0 0 6 rfl rfl (CP_s hd hps hV h4 0 0 6 rfl rfl rfl) (fun m5 h5 => ?_)
  refine fE_cp h5 0 0 7 rfl rfl (CP_s hd hps hV h5 0 0 7 rfl rfl rfl) (fun m6 h6 => ?_)
  refine fE_cp h6 0 0 8 rfl rfl (CP_s hd hps hV h6 0 0 8 rfl rfl rfl) (fun m7 h7 => ?_)
  refine fE_cp h7 0 0 9 rfl rfl (CP_s hd hps hV h7 0 0 9 rfl rfl rfl) (fun m8 h8 => ?_)
  have h8' : CP t m0 m8 V (fun kd i k => (kd = 0 ∧ i = 0 ∧ 5 ≤ k ∧ k ≤ 9) ∨ (kd = 1 ∧ i = 0 ∧ k < 2) ∨ (kd = 2 ∧ i = 0 ∧ k < 100) ∨ (kd = 3 ∧ i < eL V ∧ k < 5) ∨ (kd = 4 ∧ i = 0 ∧ k < 10) ∨ ((kd = 5 ∨ kd = 6 ∨ kd = 7) ∧ i = 0 ∧ k < 120) ∨ (kd = 8 ∧ i = 0 ∧ k < 7)) := by
    refine CP_m h8 (fun kd a k z => ?_)
    unfold aR aP
    rcases z with ⟨rfl, rfl, z1, z2⟩ | z | z | z | z | ⟨z1, z2, z3⟩ | z
    · rcases (show k = 5 ∨ k = 6 ∨ k = 7 ∨ k = 8 ∨ k = 9 by omega) with e | e | e | e | e <;> subst e <;> simp
    · simp only [z, true_or, and_self]
    · simp only [z, true_or, or_true, and_self]
    · simp only [z, true_or, or_true, and_self]
    · simp only [z, true_or, or_true, and_self]
    · rcases z1 with z1 | z1 | z1 <;> subst z1 <;> simp [z2, z3]
    · simp only [z, true_or, or_true, and_self]
  rw [nl_0]
  refine fE_w (c_cpCs (S := fun kd i k => (kd = 0 ∧ i = 0 ∧ 5 ≤ k ∧ k ≤ 9) ∨ (kd = 1 ∧ i = 0 ∧ k < 2) ∨ (kd = 2 ∧ i = 0 ∧ k < 100) ∨ (kd = 3 ∧ i < eL V ∧ k < 5) ∨ (kd = 4 ∧ i = 0 ∧ k < 10) ∨ ((kd = 5 ∨ kd = 6 ∨ kd = 7) ∧ i = 0 ∧ k < 120) ∨ (kd = 8 ∧ i = 0 ∧ k < 7)) hS hT hd hps hpt hV hG (Or.inl ⟨rfl, rfl, by omega, by omega⟩) (Or.inl ⟨rfl, rfl, by omega, by omega⟩) (eK V) fm_N 0 m8 (CP_m h8' (fun kd a k z => by rcases z with z | z; exact z; exact absurd z.1 (by omega))) (by omega) (by unfold fm_N; omega)) (fun _ m' h' => CP_m h' (fun kd a k z => ?_))
  rcases z with z | z | z
  · exact Or.inl (Or.inl z)
  · exact Or.inl (Or.inr z)
  · exact Or.inr z
/-- a state that may be written over -/
def sp (m : fm_M) (t : Nat) : Prop := pS m t ∧ vG (cv m t)
theorem sp_aS {m : fm_M} {t : Nat} {E : VV} {l : List (Nat → Int32)} (h : aS m t E l) : sp m t := by
  obtain ⟨a1, a2, a3, a4, a5, a6⟩ := h
  rw [← a2] at a6
  exact ⟨a1, a6⟩
theorem c_copyS (hS : kS H s) (hT : kS H t) (hd : s + 160 ≤ t ∨ t + 160 ≤ s) {E : VV} {l : List (Nat → Int32)} (ha : aS m s E l) (hI : iG E l) (hsp : sp m t) : fE (f_X7_copyFrom H t s m) (fun _ m' => ∃ E', aS m' t E' l ∧ smE E E' ∧ iG E' l ∧ fr t (t + 160) m m' ∧ m'.2.1 = m.2.1) := by
  obtain ⟨a1, a2, a3, a4, a5, a6⟩ := ha
  obtain ⟨p1, p2⟩ := hsp
  have hGV : vG (cv m s) := by
    rw [← a2] at a6
    exact a6
  have hUV : iU (cv m s) := fun j hj => by
    have := hI.2.2.2.1 j (by rw [← a2]; exact hj)
    rw [← a2] at this
    exact this
  refine fE_w (c_copyFrom hS hT hd a1 p1 rfl hGV hUV) (fun _ m' ⟨V', h1, h2, h3⟩ => ?_)
  have eP' : eP (cv m s) = l.length := by
    have e6 : cv m s 0 0 6 = nn l.length := by
      refine Eq.trans ?_ a4
      rw [← a2]
      rfl
    unfold eP
    rw [e6, nn_t (by omega)]
    rfl
  have eW' : ∀ i c, eW E i c = eW (cv m s) i c := fun i c => by rw [← a2]; rfl
  have hK8 := hGV.2.2.2.2.1.2.2.1
  have hsm : smE E (er V') := by
    rw [← a2]
    have c : ∀ i kd k, i < eK (cv m s) → kd ≠ 18 → cpC (eK (cv m s)) kd i k → er V' kd i k = er (cv m s) kd i k := fun i kd k hi hk hc => by
      rw [er_n hk, er_n hk]
      exact h3 kd i k (Or.inr (Or.inl hc))
    refine ⟨fun k k1 k2 => h3 0 0 k (Or.inl (Or.inl ⟨rfl, rfl, k1, k2⟩)), fun k hk => h3 1 0 k (Or.inl (Or.inr (Or.inl ⟨rfl, rfl, hk⟩))), fun k hk => h3 2 0 k (Or.inl (Or.inr (Or.inr (Or.inl ⟨rfl, rfl, hk⟩)))), fun j k hj hk => h3 3 j k (Or.inl (Or.inr (Or.inr (Or.inr (Or.inl ⟨rfl, hj, hk⟩))))), fun k hk => h3 4 0 k (Or.inl (Or.inr (Or.inr (Or.inr (Or.inr (Or.inl ⟨rfl, rfl, hk⟩)))))), fun k hk => h3 5 0 k (Or.inl (Or.inr (Or.inr (Or.inr (Or.inr (Or.inr (Or.inl ⟨Or.inl rfl, rfl, hk⟩))))))), fun k hk _ => ⟨h3 6 0 k (Or.inl (Or.inr (Or.inr (Or.inr (Or.inr (Or.inr (Or.inl ⟨Or.inr (Or.inl rfl), rfl, hk⟩))))))), h3 7 0 k (Or.inl (Or.inr (Or.inr (Or.inr (Or.inr (Or.inr (Or.inl ⟨Or.inr (Or.inr rfl), rfl, hk⟩)))))))⟩, fun k hk => h3 8 0 k (Or.inl (Or.inr (Or.inr (Or.inr (Or.inr (Or.inr (Or.inr ⟨rfl, rfl, hk⟩))))))), fun i k hi hk => c i 9 k hi (by omega) ⟨hi, Or.inl ⟨rfl, hk⟩⟩, fun i d hi hd' => ⟨c i _ 0 hi (by omega) ⟨hi, Or.inr (Or.inl ⟨by omega, rfl⟩)⟩, fun e k e1 e2 hk => c i _ k hi (by omega) ⟨hi, Or.inr (Or.inr ⟨by omega, ?_⟩)⟩⟩⟩
    have hk' : k < eW (cv m s) i d := hk
    have hi' : i < eK (cv m s) := hi
    have a := (hGV.2.2.2.2.2.2.1 i (by omega)).2
    have b := (hGV.2.2.2.2.2.2.2 i (by omega)).2
    unfold eW at hk'
    split at hk' <;> omega
  have hG' : vG (er V') := by
    have hh : vG V' := by
      refine vG_of (N := eN (cv m s)) (L := eL (cv m s)) (K := eK (cv m s)) (P := eP (cv m s)) ((h3 1 0 0 (Or.inl (Or.inr (Or.inl ⟨rfl, rfl, by omega⟩)))).trans hGV.1) ((h3 1 0 1 (Or.inl (Or.inr (Or.inl ⟨rfl, rfl, by omega⟩)))).trans hGV.2.1) ((h3 0 0 5 (Or.inl (Or.inl ⟨rfl, rfl, by omega, by omega⟩))).trans hGV.2.2.1) ((h3 0 0 6 (Or.inl (Or.inl ⟨rfl, rfl, by omega, by omega⟩))).trans hGV.2.2.2.1) hGV.2.2.2.2.1.1 hGV.2.2.2.2.1.2.1 hGV.2.2.2.2.1.2.2.1 hGV.2.2.2.2.1.2.2.2 (fun i hi => ?_) (fun i hi => ?_) (fun i hi => ?_)
      · rcases h2 4 0 i with e | e <;> rw [e]
        · exact vG_Z hGV i hi
        · exact vG_Z p2 i hi
      · rcases h2 10 i 0 with e | e <;> rw [e]
        · exact vG_A hGV i hi
        · exact vG_A p2 i hi
      · rcases h2 14 i 0 with e | e <;> rw [e]
        · exact vG_B hGV i hi
        · exact vG_B p2 i hi
    exact hh
  refine ⟨er V', ⟨h1.2.1, by rw [h1.1], ?_, ?_, a5, hG'⟩, hsm, sm_iG hsm hG' hI, h1.2.2.1, h1.2.2.2⟩
  · rw [h1.1, ← a3, sg_l]
    refine sg_c (fun p _ hp => funext fun k => ?_)
    by_cases hk : k < 7
    · exact h3 18 p k (Or.inr (Or.inr ⟨rfl, by omega, hk⟩))
    · rw [← h1.1, cv_g (by omega), cv_g (by omega)]
  · exact (hsm.1 6 (by omega) (by omega)).trans a4
end
