/-! the first state: shapes, invariants -/
theorem er_smE {V : VV} : smE V (er V) := ⟨fun k _ _ => er_n (by omega), fun k _ => er_n (by omega), fun k _ => er_n (by omega), fun j k _ _ => er_n (by omega), fun k _ => er_n (by omega), fun t _ => er_n (by omega), fun t _ _ => ⟨er_n (by omega), er_n (by omega)⟩, fun k _ => er_n (by omega), fun i k _ _ => er_n (by omega), fun i c _ hc => ⟨er_n (by omega), fun d k _ hd _ => er_n (by omega)⟩⟩
section
variable {H : fm_H} {m : fm_M} {a s x b : Nat}
theorem sz_h {q : Nat ⊕ (FieldType × Bool)} {n : Nat} (h : H.1 a = some (q, n)) : fm_sz H a = n := by
  unfold fm_sz
  rw [h]
theorem kW_h (h : hWy H m a) : kW H a := by
  obtain ⟨h0, ⟨r1, r2, r3⟩, ⟨s1, s2, s3⟩, -⟩ := h
  exact ⟨⟨4, h0⟩, r1, r2, r3, sz_h s1, sz_h s2, sz_h s3⟩
theorem kF_h (h : hFi H m a) : kF H a := by
  obtain ⟨h0, r, z, w1, w2, ⟨s1, -⟩, s2, -⟩ := h
  exact ⟨⟨6, h0⟩, r, kW_h w1, kW_h w2, sz_h s1, sz_h s2⟩
theorem kS_h (h : hSt H m a) : kS H a := by
  obtain ⟨h0, ⟨r0, r1, r2, r3, r4⟩, z, ⟨n0, nz, ⟨n2, n3⟩, ⟨n4, n5⟩, ⟨n6, n7⟩, n8⟩, ⟨l0, ⟨l1, l2, l3, l4⟩, ⟨l5, -⟩, ⟨l6, -⟩, ⟨l7, -⟩, l8, -⟩, ⟨t0, -⟩, ⟨s1, y1⟩, ⟨s2, y2⟩, hc, hp⟩ := h
  refine ⟨⟨10, h0⟩, ⟨r0, r1, r2, r3, r4⟩, ⟨n2, n3⟩, ⟨l1, l2, l3, l4⟩, ⟨sz_h n4, sz_h n6, sz_h l5, sz_h l6, sz_h l7, sz_h l8, sz_h s1, sz_h s2⟩, ⟨⟨4, n0⟩, ⟨4, l0⟩, ⟨7, t0⟩⟩, fun i hi => ?_, fun j hj => ?_, fun i hi => ⟨7, (hp i hi).1⟩⟩
  · have := (n8 i hi).1
    rw [show a + 1 + 3 + i = a + 4 + i by omega] at this
    exact ⟨5, this⟩
  · obtain ⟨c0, -, -, c1, c2⟩ := hc j hj
    have w1 := kW_h c1
    have w2 := kW_h c2
    rw [show a + 28 + 9 * j + 1 = a + 29 + 9 * j by omega] at w1
    rw [show a + 28 + 9 * j + 5 = a + 33 + 9 * j by omega] at w2
    exact ⟨⟨15, c0⟩, w1, w2⟩
theorem kX_h (h : hDk H m a) : kX H a := by
  obtain ⟨h0, r, p, z, ⟨d0, d1, d2, d3, d4, d5, d6, d7⟩, w2, w3, ⟨s1, y1⟩, ⟨s2, y2⟩, ⟨w4, w5⟩, hs⟩ := h
  exact ⟨⟨9, h0⟩, r, ⟨⟨3, d0⟩, d1, ⟨6, d3⟩, d4, sz_h d6⟩, kF_h w2, kW_h w3, ⟨sz_h s1, sz_h s2⟩, kS_h w4, kS_h w5, kS_h (hs 0 (by omega)), kS_h (hs 1 (by omega))⟩
theorem pS_h (h : hSt H m s) : pS m s := by
  obtain ⟨h0, -, -, ⟨-, -, -, ⟨-, n5⟩, -⟩, -, -, ⟨-, y1⟩, ⟨-, y2⟩, hc, -⟩ := h
  refine ⟨fun i hi => ?_, fun i hi => ⟨i, hi, y1 i hi⟩, fun i i' hi hi' e => ?_, fun j hj => ?_, fun i hi => ⟨i, hi, by rw [y2 i hi]; omega⟩, fun i i' hi hi' e => ?_⟩
  · have := n5 i hi
    rw [show s + 1 + 1 = s + 2 by omega] at this
    rw [this]
    omega
  · rw [y1 i hi, y1 i' hi'] at e
    omega
  · obtain ⟨-, -, ⟨c1, c2⟩, -⟩ := hc j hj
    exact Or.inl ⟨c1.trans (by omega), c2.trans (by omega)⟩
  · rw [y2 i hi, y2 i' hi'] at e
    omega
/-- a state just made -/
def z1V : VV := fun kd _ k => if kd = 2 ∨ kd = 5 then -1 else if kd = 0 ∧ k = 7 then 1 else 0
theorem z1_0 {kd a k : Nat} (h : ¬ (kd = 2 ∨ kd = 5)) (h7 : ¬ (kd = 0 ∧ k = 7)) : z1V kd a k = nn 0 := (if_neg h).trans (if_neg h7)
theorem z1_m {kd a k : Nat} (h : kd = 2 ∨ kd = 5) : z1V kd a k = -1 := if_pos h
theorem z1_7 : z1V 0 0 7 = nn 1 := rfl
theorem z1_N : eN z1V = 0 := rfl
theorem z1_L : eL z1V = 0 := rfl
theorem z1_K : eK z1V = 0 := rfl
theorem z1_G : vG z1V := vG_of (N := 0) (L := 0) (K := 0) (P := 0) rfl rfl rfl rfl (by omega) (by omega) (by omega) (by omega) (fun i hi => ⟨0, by omega, rfl⟩) (fun i hi => ⟨0, by omega, rfl⟩) (fun i hi => ⟨0, by omega, rfl⟩)
theorem z1_ok : iG z1V [] ∧ iNM 0 z1V := by
  have nL := z1_L
  have nK := z1_K
  have nN := z1_N
  refine ⟨⟨⟨z1_G, ⟨⟨fun i c k t a1 => by omega, fun t t1 t2 => absurd (z1_m (by omega)) t2, fun i c k c' k' t a1 => by omega⟩, fun t t1 t2 => absurd (z1_m (by omega)) t2, fun i hi => by omega⟩, fun j hj => by omega, fun i hi => by omega, fun r hr => absurd hr List.not_mem_nil, z1_0 (by omega) (by omega)⟩, fun x y hx hy => ?_, fun f l hf hl e => absurd (z1_m (by omega)) e, fun j hj => by omega, fun j hj => by omega, ⟨1, by omega, z1_7⟩, ⟨0, by omega, z1_0 (by omega) (by omega)⟩, fun j hj => by omega, fun i hi => by omega, fun f f1 f2 => ?_⟩, fun i hi => by omega, 0, Nat.le_refl _, z1_0 (by omega) (by omega), fun i hi => by omega⟩
  · rw [z1_m (by omega)]
    unfold lkE
    rw [nL]
    rfl
  · unfold eZ
    rw [z1_0 (by omega) (by omega)]
    rfl
theorem cv_h (h : hSt H m s) : vG (cv m s) ∧ smE (z1V) (cv m s) := by
  have hp := pS_h h
  obtain ⟨h0, -, ⟨z5, z6, z7, z8, z9⟩, ⟨-, ⟨n0, n1⟩, -, -, ⟨-, b2⟩, -⟩, ⟨-, -, ⟨-, l5⟩, ⟨-, l6⟩, -⟩, ⟨-, t0⟩, ⟨-, y1⟩, -, hc, -⟩ := h
  have ez0 : ∀ k, 5 ≤ k → k ≤ 9 → cv m s 0 0 k = z1V 0 0 k := fun k k1 k2 => by
    have e : cv m s 0 0 k = m.1 s k := (rd0 rfl k).symm
    rw [e]
    rcases (show k = 5 ∨ k = 6 ∨ k = 7 ∨ k = 8 ∨ k = 9 by omega) with h | h | h | h | h <;> subst h
    · rw [z5]; rfl
    · rw [z6]; rfl
    · rw [z7]; rfl
    · rw [z8]; rfl
    · rw [z9]; rfl
  have ez1 : ∀ k, k < 2 → cv m s 1 0 k = z1V 1 0 k := fun k hk => by
    have e : cv m s 1 0 k = m.1 (s + 1) k := (rd1 rfl k).symm
    rw [e, z1_0 (by omega) (by omega)]
    rcases (show k = 0 ∨ k = 1 by omega) with h | h <;> subst h
    · rw [n0]; rfl
    · rw [n1]; rfl
  have ez4 : ∀ k, k < 10 → cv m s 4 0 k = z1V 4 0 k := fun k hk => by
    have e : cv m s 4 0 k = m.1 (s + 21) k := (cv_rd rfl 4 0 k rfl).symm
    rw [e, z1_0 (by omega) (by omega)]
    exact l5 k hk
  have ew : ∀ i, i < 8 → cv m s 10 i 0 = nn 0 ∧ cv m s 14 i 0 = nn 0 := fun i hi => by
    have v : vld 10 i = true := v10 hi
    have v' : vld 14 i = true := v14 hi
    obtain ⟨-, -, ⟨c1, c2⟩, ⟨-, -, -, w1, -⟩, -, -, -, w2, -⟩ := hc i hi
    refine ⟨?_, ?_⟩
    · rw [← cv_rd (m := m) (s := s) rfl 10 i 0 v, ad_10, y1 i hi, c1]
      exact w1
    · rw [← cv_rd (m := m) (s := s) rfl 14 i 0 v', ad_14, y1 i hi, c2]
      exact w2
  refine ⟨vG_of (N := 0) (L := 0) (K := 0) (P := 0) ((ez1 0 (by omega)).trans (z1_0 (by omega) (by omega))) ((ez1 1 (by omega)).trans (z1_0 (by omega) (by omega))) ((ez0 5 (by omega) (by omega)).trans (z1_0 (by omega) (by omega))) ((ez0 6 (by omega) (by omega)).trans (z1_0 (by omega) (by omega))) (by omega) (by omega) (by omega) (by omega) (fun i hi => ⟨0, by omega, (ez4 i hi).trans (z1_0 (by omega) (by omega))⟩) (fun i hi => ⟨0, by omega, (ew i hi).1⟩) (fun i hi => ⟨0, by omega, (ew i hi).2⟩), ez0, ez1, fun k hk => ?_, fun j k hj => ?_, ez4, fun t ht => ?_, fun t ht e => absurd (z1_m (by omega)) e, fun k hk => ?_, fun i k hi => ?_, fun i c hi => ?_⟩
  · have e : cv m s 2 0 k = m.1 (s + 3) k := (cv_rd rfl 2 0 k rfl).symm
    rw [e, z1_m (by omega)]
    exact b2 k hk
  · rw [z1_L] at hj
    omega
  · have e : cv m s 5 0 t = m.1 (s + 22) t := (cv_rd rfl 5 0 t rfl).symm
    rw [e, z1_m (by omega)]
    exact l6 t ht
  · have e : cv m s 8 0 k = m.1 (s + 25) k := (cv_rd rfl 8 0 k rfl).symm
    rw [e, z1_0 (by omega) (by omega)]
    exact t0 k hk
  · rw [z1_K] at hi
    omega
  · rw [z1_K] at hi
    omega
theorem sp_h (h : hSt H m s) : sp m s := ⟨pS_h h, (cv_h h).1⟩
/-- the beginning -/
theorem bs_0 (hX : hDk H m x) : ∃ E, BS x m E 0 (fun _ => 0) (fun _ => none) 1 0 ∧ eN E = 0 := by
  obtain ⟨h0, r, ⟨p5, p6⟩, ⟨z7, z8⟩, ⟨d0, d1, d2, d3, d4, d5, d6, d7⟩, w2, ⟨-, -, -, w3, -⟩, ⟨s1, y1⟩, ⟨s2, y2⟩, ⟨w4, w5⟩, hs⟩ := hX
  obtain ⟨g1, g2⟩ := cv_h w4
  have hZ := z1_ok
  have hI1 := sm_iG g2 g1 hZ.1
  have hN1 := sm_NM g2 hZ.1 hZ.2
  have hG2 : vG (er (cv m (x + 21))) := g1
  have hI2 := sm_iG er_smE hG2 hI1
  have hN2 := sm_NM er_smE hI1 hN1
  have q1 : ∀ kd k, (kd = 0 ∧ 5 ≤ k ∧ k ≤ 9) ∨ (kd = 1 ∧ k < 2) ∨ (kd = 8 ∧ k < 7) → er (cv m (x + 21)) kd 0 k = z1V kd 0 k := fun kd k h => by
    rcases h with ⟨rfl, h1, h2⟩ | ⟨rfl, h1⟩ | ⟨rfl, h1⟩
    · exact ((er_smE (V := cv m (x + 21))).1 k h1 h2).trans (g2.1 k h1 h2)
    · exact ((er_smE (V := cv m (x + 21))).2.1 k h1).trans (g2.2.1 k h1)
    · exact ((er_smE (V := cv m (x + 21))).2.2.2.2.2.2.2.1 k h1).trans (g2.2.2.2.2.2.2.2.1 k h1)
  have nK : eK (er (cv m (x + 21))) = 0 := by
    unfold eK
    rw [q1 0 5 (by omega)]
    rfl
  have nL : eL (er (cv m (x + 21))) = 0 := by
    unfold eL
    rw [q1 1 1 (by omega)]
    rfl
  have h8 : ∀ w, w < 4 → er (cv m (x + 21)) 8 0 (tw w) = 0 := fun w hw => by
    have : tw w < 7 := by
      unfold tw
      split <;> omega
    rw [q1 8 (tw w) (by omega)]
    exact z1_0 (by omega) (by omega)
  refine ⟨er (cv m (x + 21)), ⟨⟨⟨x + 21, x + 181, Or.inl ⟨rfl, rfl⟩, p5, p6, ⟨pS_h w4, rfl, rfl, hI2.1.2.2.2.2.2, by decide, hG2⟩, sp_h w5⟩, ⟨w3, fun k hk => by omega, fun k _ hk => by omega⟩, ⟨⟨y1 0 (by omega), y1 1 (by omega)⟩, fun i hi => Or.inl ⟨rfl, y2 i hi, sp_h (hs i hi)⟩⟩, dW_0, hN2, JI_0 hI2 nK h8, z0_K0 nK⟩, nK, h8, fun j hj => by omega, (q1 0 7 (by omega)).trans rfl, (q1 0 8 (by omega)).trans rfl⟩, ?_⟩
  unfold eN
  rw [q1 1 0 (by omega)]
  rfl
end
