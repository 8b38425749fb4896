/-! CLOSING: what is kept -/
theorem sn_skip {f : Nat → Nat} {i n : Nat} (hi : i ≤ n) : sn (fun a => f (if i ≤ a then a + 1 else a)) 0 n + f i = sn f 0 (n + 1) := by
  have e1 : sn (fun a => f (if i ≤ a then a + 1 else a)) 0 n = sn f 0 i + sn f (i + 1) (n - i) := by
    have h := sn_ap (f := fun a => f (if i ≤ a then a + 1 else a)) (n := i) (a := 0) (k := n - i)
    rw [show i + (n - i) = n by omega, Nat.zero_add] at h
    rw [h, sn_c (g := f) (n := i) (fun a h1 h2 => by rw [if_neg (by omega)])]
    congr 1
    rw [show i + 1 = 1 + i by omega, sn_sh]
    exact sn_c (fun a h1 h2 => by rw [if_pos h1, Nat.add_comm])
  have e2 : sn f 0 (n + 1) = sn f 0 i + (f i + sn f (i + 1) (n - i)) := by
    have h := sn_ap (f := f) (n := i) (a := 0) (k := n - i + 1)
    rw [show i + (n - i + 1) = n + 1 by omega, Nat.zero_add] at h
    rw [h]
    rfl
  omega
section
variable {E : VV} {l : List (Nat → Int32)} {B i : Nat}
theorem cs_cP (hI : iG E l) (hi : i < eK E) (hp : ∀ r, r ∈ l → r 0 ≠ nn i) {a : Nat} (ha : a + 1 < eK E) : cPk a (l.map (dcR i)) = cPk (csp i (eK E) a) l := by
  have hK8 := hI.1.1.2.2.2.2.1.2.2.1
  obtain ⟨c1, c2, c3⟩ := csp_1 (i := i) ha
  unfold cPk
  rw [List.countP_map]
  refine List.countP_congr (fun r hr => ?_)
  obtain ⟨⟨b, b1, b2⟩, -⟩ := hI.1.2.2.2.2.1 r hr
  have bi : b ≠ i := fun z => hp r hr (by rw [b2, z])
  show decide ((dcR i r) 0 = nn a) = true ↔ decide (r 0 = nn (csp i (eK E) a)) = true
  rw [decide_eq_true_eq, decide_eq_true_eq, c1]
  unfold dcR
  rw [b2]
  by_cases h : b ≤ i
  · rw [if_pos ((nn_le (by omega) (by omega)).mpr h), b2, nn_eq (by omega) (by omega), nn_eq (by omega) (by split <;> omega)]
    split <;> omega
  · rw [if_neg (by rw [nn_le (by omega) (by omega)]; exact h)]
    show nn b - 1 = nn a ↔ _
    rw [nl_1, nn_sub (by omega), nn_eq (by omega) (by omega), nn_eq (by omega) (by split <;> omega)]
    split <;> omega
theorem cs_JI (hJ : JI B E l) (hi : i < eK E) (p0 : E 9 i 2 = 0) (hp : ∀ r, r ∈ l → r 0 ≠ nn i) : JI B (csE E i) (l.map (dcR i)) ∧ eK (csE E i) = eK E - 1 := by
  obtain ⟨h1, h60, h3, h4, h5, h6⟩ := hJ
  have hK8 := h1.1.1.2.2.2.2.1.2.2.1
  have nK : eK (csE E i) = eK E - 1 := cs_K hK8
  have nL : eL (csE E i) = eL E := by unfold eL; rw [cs_o (by omega) (by omega) (by omega) (by omega)]
  have w : ∀ kd a k, 9 ≤ kd → kd ≤ 17 → a + 1 < eK E → csE E i kd a k = E kd (csp i (eK E) a) k := fun kd a k z1 z2 z3 => cs_w z1 z2 z3 hK8
  have sm : ∀ f : Nat → Nat, sn (fun a => f (csp i (eK E) a)) 0 (eK E - 1) + f i = sn f 0 (eK E) := fun f => by
    have h := sn_skip (f := f) (i := i) (n := eK E - 1) (by omega)
    rw [show eK E - 1 + 1 = eK E by omega] at h
    rw [← h]
    congr 1
    exact sn_c (fun a z1 z2 => by rw [(csp_1 (i := i) (show a + 1 < eK E by omega)).1])
  refine ⟨⟨cs_iG h1 hi p0 hp, by rw [List.length_map]; exact h60, fun a c k a1 a2 a3 a4 => ?_, fun r hr => ?_, ?_, ?_⟩, nK⟩
  · have ha : a + 1 < eK E := by omega
    rw [cs_W a2 ha hK8] at a4
    rw [w _ a k (by omega) (by omega) ha]
    exact h3 _ c k (csp_1 (i := i) ha).2.1 a2 a3 a4
  · obtain ⟨r', r1, r2⟩ := List.mem_map.mp hr
    obtain ⟨j, j1, j2⟩ := h4 r' r1
    refine ⟨j, by rw [nL]; exact j1, ?_⟩
    rw [← r2]
    unfold dcR
    split
    · exact j2
    · exact j2
  · obtain ⟨p, q, g1, g2, g3, g4, g5, g6⟩ := h5
    have pi := g2 i hi
    have c0 : cPk i l = 0 := by
      unfold cPk
      rw [List.countP_eq_zero]
      intro r hr z
      exact hp r hr (of_decide_eq_true z)
    have s : ∀ v, sn (fun a => p (csp i (eK E) a) v) 0 (eK E - 1) + p i v = sn (fun a => p a v) 0 (eK E) := fun v => sm (fun a => p a v)
    refine ⟨fun a v => p (csp i (eK E) a) v, fun v => q v + p i v, fun a v ha hv => ?_, fun a ha => ?_, fun v hv => ?_, by dsimp only; omega, by dsimp only; omega, ?_⟩
    · rw [w 9 a _ (by omega) (by omega) (by omega)]
      exact g1 _ v (csp_1 (i := i) (show a + 1 < eK E by omega)).2.1 hv
    · dsimp only
      rw [cs_cP h1 hi hp (by omega)]
      exact g2 _ (csp_1 (i := i) (show a + 1 < eK E by omega)).2.1
    · rw [cs_o (by omega) (by omega) (by omega) (by omega), g3 v hv, nK]
      have := s v
      congr 1
      dsimp only
      omega
    · rw [nK]
      have := s 0
      dsimp only
      omega
  · intro j hj
    rw [nL] at hj
    obtain ⟨c, c1, c2, c3⟩ := h6 j hj
    refine ⟨c, c1, by rw [cs_o (by omega) (by omega) (by omega) (by omega)]; exact c2, ?_⟩
    have e : rNj (csE E i) j 100 ≤ sn (fun a => (fun x => if x = 100 then 0 else if usj E x j = true then bN E x else 0) (csp i (eK E) a)) 0 (eK E - 1) := by
      unfold rNj
      rw [nK]
      refine sn_mono (fun a z1 z2 => ?_)
      have hc := csp_1 (i := i) (show a + 1 < eK E by omega)
      dsimp only
      rw [if_neg (show ¬ a = 100 by omega), if_neg (show ¬ csp i (eK E) a = 100 by omega)]
      have eb : bN (csE E i) a = bN E (csp i (eK E) a) := by unfold bN; rw [w 9 a 0 (by omega) (by omega) (by omega)]
      by_cases u : usj (csE E i) a j = true
      · have u2 : usj E (csp i (eK E) a) j = true := us_c (fun c hc => cs_W hc (show a + 1 < eK E by omega) hK8) (fun c k hc _ => w _ a k (by omega) (by omega) (by omega)) u
        rw [if_pos u, if_pos u2, eb]
        exact Nat.le_refl _
      · rw [if_neg u]
        omega
    have := sm (fun x => if x = 100 then 0 else if usj E x j = true then bN E x else 0)
    unfold rNj at c3
    dsimp only at this e c3
    omega
end
