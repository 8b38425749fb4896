/-! behind a closing all that holds is kept -/
theorem csp_1 {i K a : Nat} (ha : a + 1 < K) : csp i K a = (if i ≤ a then a + 1 else a) ∧ csp i K a < K ∧ csp i K a ≠ i := by
  unfold csp
  by_cases e : i ≤ a
  · rw [if_pos ⟨e, ha⟩, if_pos e]
    omega
  · rw [if_neg (fun z => e z.1), if_neg (by omega), if_neg e]
    omega
theorem csp_8 {i K a : Nat} (hi : i < K) (hK : K ≤ 8) (ha : a < 8) : csp i K a < 8 := by
  unfold csp
  split
  · omega
  · split <;> omega
/-- each other one has its place -/
theorem csp_2 {i K c : Nat} (hi : i < K) (hc : c < K) (hn : c ≠ i) : ∃ a, a + 1 < K ∧ csp i K a = c ∧ a = if c ≤ i then c else c - 1 := by
  by_cases e : c ≤ i
  · refine ⟨c, by omega, ?_, by rw [if_pos e]⟩
    rw [(csp_1 (i := i) (K := K) (a := c) (by omega)).1, if_neg (by omega)]
  · refine ⟨c - 1, by omega, ?_, by rw [if_neg e]⟩
    rw [(csp_1 (i := i) (K := K) (a := c - 1) (by omega)).1, if_pos (by omega)]
    omega
theorem iQ_x {E E' : VV} {i j dl : Nat} (h9 : ∀ k, E' 9 j k = E 9 i k) (h10 : E' 10 j 0 = E 10 i 0) (h14 : E' 14 j 0 = E 14 i 0) (h13 : ∀ k, E' 13 j k = E 13 i k) (h17 : ∀ k, E' 17 j k = E 17 i k) (h : iQ E i dl) : iQ E' j dl := by
  have eA' : eA E' j = eA E i := by unfold eA; rw [h10]
  have eB' : eB E' j = eB E i := by unfold eB; rw [h14]
  unfold iQ at h ⊢
  rw [eA', eB']
  simp only [h9, h13, h17]
  exact h
theorem stE_x {E E' : VV} {i j : Nat} (h9 : ∀ k, E' 9 j k = E 9 i k) (h10 : E' 10 j 0 = E 10 i 0) (h13 : ∀ k, E' 13 j k = E 13 i k) : stE E' j = stE E i := by
  have eA' : eA E' j = eA E i := by unfold eA; rw [h10]
  unfold stE clX hlO
  rw [eA']
  simp only [h9, h13]
section
variable {E : VV} {l : List (Nat → Int32)} {i : Nat}
theorem cs_o {kd a k : Nat} (h : kd < 9 ∨ 17 < kd) (h5 : kd ≠ 5) (h6 : kd ≠ 6) (h0 : ¬ (kd = 0 ∧ k = 5)) : csE E i kd a k = E kd a k := by
  unfold csE
  rw [crV_o (by omega), uV_at, if_neg (by omega), rnV_o h6, gvL_o h5 (by omega)]
theorem cs_5 {t : Nat} : csE E i 5 0 t = gvL E i 0 1 (eA E i - 1) 5 0 t := by
  unfold csE
  rw [crV_o (by omega), uV_k (by omega), rnV_o (by omega)]
theorem cs_6 {t : Nat} (ht : t < 120) : csE E i 6 0 t = if E 6 0 t ≤ nn i then E 6 0 t else E 6 0 t - 1 := by
  unfold csE
  rw [crV_o (by omega), uV_k (by omega)]
  unfold rnV
  rw [gvL_o (by omega) (by omega)]
  by_cases e : E 6 0 t ≤ nn i
  · rw [if_neg (fun z => z.2.2.2 e), if_pos e]
  · rw [if_pos ⟨rfl, rfl, ht, e⟩, if_neg e]
theorem cs_w {kd a k : Nat} (h : 9 ≤ kd) (h2 : kd ≤ 17) (ha : a + 1 < eK E) (h8 : eK E ≤ 8) : csE E i kd a k = E kd (csp i (eK E) a) k := by
  have := (csp_1 (i := i) ha).2.2
  unfold csE
  rw [crV_s h h2 (by omega), uV_k (by omega), rnV_o (by omega), gvL_o (by omega) (by omega)]
theorem cs_K (h8 : eK E ≤ 8) : eK (csE E i) = eK E - 1 := by
  refine eK_nn ?_ (by omega)
  unfold csE
  rw [crV_o (by omega)]
  exact uV_s
theorem cs_W {a c : Nat} (hc : c < 2) (ha : a + 1 < eK E) (h8 : eK E ≤ 8) : eW (csE E i) a c = eW E (csp i (eK E) a) c := by
  rcases (show c = 0 ∨ c = 1 by omega) with e | e <;> subst e
  · unfold eW eA
    rw [if_pos rfl, if_pos rfl, cs_w (by omega) (by omega) ha h8]
  · unfold eW eB
    rw [if_neg (by decide), if_neg (by decide), cs_w (by omega) (by omega) ha h8]
theorem nn_dec {c : Nat} (h : 1 ≤ c) : nn c - 1 = nn (c - 1) := by
  rw [nl_1, nn_sub h]
theorem cs_iG (hI : iG E l) (hi : i < eK E) (p0 : E 9 i 2 = 0) (hp : ∀ r, r ∈ l → r 0 ≠ nn i) : iG (csE E i) (l.map (dcR i)) := by
  obtain ⟨⟨hG, hX, v3, v4, v5, v6⟩, g2, g3, g4, g5, s1, s2, s3, s4, s5⟩ := hI
  have hK8 := hG.2.2.2.2.1.2.2.1
  have q0 := (iQ_p0 (v4 i hi) p0).1
  have nK := cs_K (E := E) (i := i) hK8
  have nN : eN (csE E i) = eN E := by unfold eN; rw [cs_o (by omega) (by omega) (by omega) (by omega)]
  have nL : eL (csE E i) = eL E := by unfold eL; rw [cs_o (by omega) (by omega) (by omega) (by omega)]
  have nZ : ∀ f, eZ (csE E i) f = eZ E f := fun f => by unfold eZ; rw [cs_o (by omega) (by omega) (by omega) (by omega)]
  have nlk : ∀ x y, lkE (csE E i) x y = lkE E x y := fun x y => by
    unfold lkE
    rw [nL]
    exact fi_c (fun j _ _ => by rw [cs_o (by omega) (by omega) (by omega) (by omega), cs_o (by omega) (by omega) (by omega) (by omega)])
  -- which labels stay
  have key : ∀ t, t < 120 → csE E i 5 0 t ≠ -1 → csE E i 5 0 t = E 5 0 t ∧ E 5 0 t ≠ -1 ∧ ∀ k, 1 ≤ k → k < eA E i → E 13 i k ≠ nn t := fun t ht h => by
    rw [cs_5] at h
    have n : ∀ k, 1 ≤ k → k < eA E i → E 13 i k ≠ nn t := fun k k1 k2 z => h (gvL_5y ht (k := k) k1 (by omega) z)
    have e := gvL_5n (i := i) (c := 0) (r := eA E i - 1) (j := 1) (E := E) ht (fun k k1 k2 => n k k1 (by omega))
    rw [cs_5, e]
    rw [e] at h
    exact ⟨rfl, h, n⟩
  have hT : iT (csE E i) (eK (csE E i)) (eW (csE E i)) := by
    rw [nK]
    obtain ⟨t1, t2, t3⟩ := hX.1
    refine ⟨fun a c k t a1 a2 a3 a4 a5 a6 => ?_, fun t b1 b2 => ?_, fun a c k c' k' t a1 a2 a3 a4 a5 a6 a7 a8 a9 a10 => ?_⟩
    · obtain ⟨p1, p2, p3⟩ := csp_1 (i := i) (K := eK E) (a := a) (by omega)
      rw [cs_W a2 (by omega) hK8] at a4
      rw [cs_w (by omega) (by omega) (by omega) hK8] at a6
      obtain ⟨r1, r2, r3⟩ := t1 _ c k t p2 a2 a3 a4 a5 a6
      have e5 : csE E i 5 0 t = E 5 0 t := by
        rw [cs_5]
        refine gvL_5n a5 (fun k' k1 k2 z => ?_)
        have := iT_o hX.1 hK8 p2 a2 a3 a4 a5 a6 hi (c' := 0) (by omega) k1 (show k' < eW E i 0 by show k' < eA E i; omega) z
        omega
      rw [e5, cs_6 a5, r2, cs_w (kd := 11 + 4 * c) (by omega) (by omega) (by omega) hK8]
      refine ⟨r1, ?_, r3⟩
      rw [p1]
      by_cases q : i ≤ a
      · rw [if_pos q, if_neg (by rw [nn_le (by omega) (by omega)]; omega), nn_dec (by omega), Nat.add_sub_cancel]
      · rw [if_neg q, if_pos (by rw [nn_le (by omega) (by omega)]; omega)]
    · obtain ⟨r1, r2, r3⟩ := key t b1 b2
      obtain ⟨a, c, k, c1, c2, c3, c4, c5⟩ := t2 t b1 r2
      have ha : a ≠ i := fun z => by
        subst z
        rcases (show c = 0 ∨ c = 1 by omega) with e | e <;> subst e
        · exact r3 k c3 c4 c5
        · have : eW E a 1 = 0 := q0
          omega
      obtain ⟨a', a1, a2, -⟩ := csp_2 hi c1 ha
      refine ⟨a', c, k, by omega, c2, c3, ?_, ?_⟩
      · rw [cs_W c2 a1 hK8, a2]
        exact c4
      · rw [cs_w (by omega) (by omega) a1 hK8, a2]
        exact c5
    · obtain ⟨p1, p2, p3⟩ := csp_1 (i := i) (K := eK E) (a := a) (by omega)
      rw [cs_W a2 (by omega) hK8] at a5
      rw [cs_W a3 (by omega) hK8] at a7
      rw [cs_w (by omega) (by omega) (by omega) hK8] at a9 a10
      exact t3 _ c k c' k' t p2 a2 a3 a4 a5 a6 a7 a8 a9 a10
  refine ⟨⟨?_, ⟨hT, fun t t1 t2 => ?_, fun a ha c hc => ?_⟩, fun j hj => ?_, fun a ha => ?_, fun r hr => ?_, ?_⟩, fun x y hx hy => ?_, fun f y hf hy e => ?_, fun j hj => ?_, fun j hj => ?_, ?_, ?_, fun j hj => ?_, fun a ha => ?_, fun f f1 f2 => ?_⟩
  · have ad8 : ∀ a, a < 8 → ∀ kd, kd = 10 ∨ kd = 14 → csE E i kd a 0 = E kd (csp i (eK E) a) 0 := fun a ha kd hk => by
      unfold csE
      rw [crV_s (by omega) (by omega) ha, uV_k (by omega), rnV_o (by omega), gvL_o (by omega) (by omega)]
    refine vG_of (N := eN E) (L := eL E) (K := eK E - 1) (P := eP E) ((cs_o (by omega) (by omega) (by omega) (by omega)).trans hG.1) ((cs_o (by omega) (by omega) (by omega) (by omega)).trans hG.2.1) ?_ ((cs_o (by omega) (by omega) (by omega) (by omega)).trans hG.2.2.2.1) hG.2.2.2.2.1.1 hG.2.2.2.2.1.2.1 (by omega) hG.2.2.2.2.1.2.2.2 (fun a ha => ?_) (fun a ha => ?_) (fun a ha => ?_)
    · unfold csE
      rw [crV_o (by omega)]
      exact uV_s
    · rw [cs_o (by omega) (by omega) (by omega) (by omega)]
      exact vG_Z hG a ha
    · rw [ad8 a ha 10 (by omega)]
      exact vG_A hG _ (csp_8 hi hK8 ha)
    · rw [ad8 a ha 14 (by omega)]
      exact vG_B hG _ (csp_8 hi hK8 ha)
  · rw [cs_o (by omega) (by omega) (by omega) (by omega)]
    exact hX.2.1 t t1 (key t t1 t2).2.1
  · rw [nK] at ha
    obtain ⟨p1, p2, p3⟩ := csp_1 (i := i) (K := eK E) (a := a) (by omega)
    rw [cs_W hc (by omega) hK8]
    obtain ⟨w1, w2⟩ := hX.2.2 _ p2 c hc
    exact ⟨iWy_c (E := E) (i := csp i (eK E) a) (c := c) nN nlk (fun k => cs_w (by omega) (by omega) (by omega) hK8) (fun k => cs_w (by omega) (by omega) (by omega) hK8) w1, iHd_c (E := E) (i := csp i (eK E) a) (c := c) (fun k => cs_w (by omega) (by omega) (by omega) hK8) w2⟩
  · rw [nL] at hj
    rw [cs_o (by omega) (by omega) (by omega) (by omega)]
    exact v3 j hj
  · rw [nK] at ha
    obtain ⟨p1, p2, p3⟩ := csp_1 (i := i) (K := eK E) (a := a) (by omega)
    exact iQ_x (fun k => cs_w (by omega) (by omega) (by omega) hK8) (cs_w (by omega) (by omega) (by omega) hK8) (cs_w (by omega) (by omega) (by omega) hK8) (fun k => cs_w (by omega) (by omega) (by omega) hK8) (fun k => cs_w (by omega) (by omega) (by omega) hK8) (v4 _ p2)
  · obtain ⟨r0, h0, rfl⟩ := List.mem_map.mp hr
    obtain ⟨⟨c, c1, c2⟩, f, y, f1, y1, f2⟩ := v5 r0 h0
    have hne : c ≠ i := fun z => hp r0 h0 (by rw [c2, z])
    unfold dcR
    rw [c2]
    by_cases e : c ≤ i
    · rw [if_pos ((nn_le (by omega) (by omega)).mpr e)]
      exact ⟨⟨c, by rw [nK]; omega, c2⟩, f, y, f1, y1, f2⟩
    · rw [if_neg (fun z => e ((nn_le (by omega) (by omega)).mp z)), nn_dec (by omega)]
      exact ⟨⟨c - 1, by rw [nK]; omega, if_pos rfl⟩, f, y, f1, y1, (if_neg (by omega)).trans f2⟩
  · rw [cs_o (by omega) (by omega) (by omega) (by omega), List.length_map]
    exact v6
  · rw [cs_o (by omega) (by omega) (by omega) (by omega), nlk]
    exact g2 x y hx hy
  · rw [nZ]
    exact g3 f y hf hy (key _ (by omega) e).2.1
  · rw [nL] at hj
    rw [cs_o (by omega) (by omega) (by omega) (by omega)]
    exact g4 j hj
  · rw [nL] at hj
    rw [nN, nlk, cs_o (by omega) (by omega) (by omega) (by omega), cs_o (by omega) (by omega) (by omega) (by omega)]
    exact g5 j hj
  · rw [cs_o (by omega) (by omega) (by omega) (by omega)]
    exact s1
  · rw [cs_o (by omega) (by omega) (by omega) (by omega)]
    exact s2
  · rw [nL] at hj
    rw [cs_o (by omega) (by omega) (by omega) (by omega)]
    exact s3 j hj
  · rw [nK] at ha
    obtain ⟨p1, p2, p3⟩ := csp_1 (i := i) (K := eK E) (a := a) (by omega)
    rw [cs_w (by omega) (by omega) (by omega) hK8]
    exact s4 _ p2
  · rw [nN] at f1
    rw [nZ]
    exact s5 f f1 f2
/-- the array behind a closing -/
def csR (ρ : Nat → Int32) (i e : Nat) : Nat → Int32 := fun q => if 104 + 66 * i ≤ q ∧ q < e then ρ (q + 66) else ρ q
def dkR (ρ : Nat → Int32) (i j : Nat) : Nat → Int32 := fun q => if 632 ≤ q ∧ q < 632 + 8 * j ∧ (q - 632) % 8 = 0 then (if ρ q ≤ nn i then ρ q - 0 else ρ q - 1) else ρ q
theorem cs_rB {ρ ρ' : Nat → Int32} (hB : rB ρ E) (hG : vG E) (hi : i < eK E) (h4 : ρ' 4 = nn (eK E - 1)) (hlo : ∀ q, q < 104 → q ≠ 4 → q ≠ 6 → ρ' q = ρ q) (hρ : ∀ x a, 104 ≤ x → x < 170 → a + 1 < eK E → ρ' (x + 66 * a) = ρ (x + 66 * csp i (eK E) a)) : rB ρ' (csE E i) := by
  have hK8 := hG.2.2.2.2.1.2.2.1
  have hL16 := hG.2.2.2.2.1.2.1
  have nK := cs_K (E := E) (i := i) hK8
  obtain ⟨k1, k2, k3⟩ := hB.2.1
  refine ⟨rN_f (rN_c hB.1 hL16 (fun k a1 a2 a3 => hlo k a1 a2 a3)) (fun kd a k h => cs_o (by omega) (by omega) (by omega) (by omega)), ⟨by rw [nK]; exact h4, by rw [nK]; omega, fun a ha c hc => ?_⟩, fun a ha => ?_⟩
  · rw [nK] at ha
    obtain ⟨p1, p2, p3⟩ := csp_1 (i := i) (K := eK E) (a := a) (by omega)
    obtain ⟨w0, w1, w2, w3⟩ := k3 _ p2 c hc
    have sh : ∀ x, x < 25 → ρ' (120 + 66 * a + 25 * c + x) = ρ (120 + 66 * csp i (eK E) a + 25 * c + x) := fun x hx => by
      have := hρ (120 + 25 * c + x) a (by omega) (by omega) (by omega)
      rw [show 120 + 66 * a + 25 * c + x = 120 + 25 * c + x + 66 * a by omega, this, show 120 + 25 * c + x + 66 * csp i (eK E) a = 120 + 66 * csp i (eK E) a + 25 * c + x by omega]
    rw [cs_W hc (by omega) hK8]
    refine ⟨(sh 0 (by omega)).trans w0, w1, fun k hk => ?_, fun k q2 => ?_⟩
    · rw [cs_w (by omega) (by omega) (by omega) hK8, ← w2 k hk, show 120 + 66 * a + 25 * c + 1 + k = 120 + 66 * a + 25 * c + (1 + k) by omega, sh _ (by omega), show 120 + 66 * csp i (eK E) a + 25 * c + (1 + k) = 120 + 66 * csp i (eK E) a + 25 * c + 1 + k by omega]
    · have := w3 k q2
      rw [cs_w (by omega) (by omega) (by omega) hK8, Nat.add_assoc _ 7 k, Nat.add_assoc _ 13 k, sh _ (by omega), sh _ (by omega)]
      rw [Nat.add_assoc _ 7 k, Nat.add_assoc _ 13 k] at this
      exact this
  · rw [nK] at ha
    obtain ⟨p1, p2, p3⟩ := csp_1 (i := i) (K := eK E) (a := a) (by omega)
    obtain ⟨d1, d2, d3⟩ := hB.2.2 _ p2
    refine ⟨fun k q1 q2 q3 => ?_, ?_, fun c hc k q1 q2 => ?_⟩
    · have := pk_l k q1 q2 q3
      rw [cs_w (by omega) (by omega) (by omega) hK8, ← d1 k q1 q2 q3, show 104 + 66 * a + pk k = 104 + pk k + 66 * a by omega, hρ _ a (by omega) (by omega) (by omega), show 104 + pk k + 66 * csp i (eK E) a = 104 + 66 * csp i (eK E) a + pk k by omega]
    · rw [hρ 107 a (by omega) (by omega) (by omega), d2]
      exact (stE_x (fun k => cs_w (by omega) (by omega) (by omega) hK8) (cs_w (by omega) (by omega) (by omega) hK8) (fun k => cs_w (by omega) (by omega) (by omega) hK8)).symm
    · rw [cs_W hc (by omega) hK8] at q2
      have h6 := (k3 _ p2 c hc).2.1
      have := d3 c hc k q1 q2
      rw [cs_w (by omega) (by omega) (by omega) hK8, mdE_c (E := E) (fun k => cs_o (by omega) (by omega) (by omega) (by omega)), ← this, show 120 + 66 * a + 25 * c + 19 + k = 120 + 25 * c + 19 + k + 66 * a by omega, hρ _ a (by omega) (by omega) (by omega), show 120 + 25 * c + 19 + k + 66 * csp i (eK E) a = 120 + 66 * csp i (eK E) a + 25 * c + 19 + k by omega]
theorem cs_rP {ρ ρ' : Nat → Int32} (hP : rP ρ l) (h6 : ρ' 6 = ρ 6) (h : ∀ q, 632 ≤ q → ρ' q = dkR ρ i l.length q) : rP ρ' (l.map (dcR i)) := by
  obtain ⟨p1, p2, p3⟩ := hP
  refine ⟨by rw [List.length_map, h6]; exact p1, by rw [List.length_map]; exact p2, fun p r hr => ?_⟩
  rw [List.getElem?_map] at hr
  cases e : l[p]? with
  | none => rw [e] at hr; cases hr
  | some r0 =>
    rw [e] at hr
    have er : dcR i r0 = r := Option.some.inj hr
    subst er
    have hp : p < l.length := (List.getElem?_eq_some_iff.mp e).1
    obtain ⟨q0, q1, q2, q3, q4, q5, q6⟩ := p3 p r0 e
    have o : ∀ k, 1 ≤ k → k < 8 → ρ' (632 + 8 * p + k) = ρ (632 + 8 * p + k) := fun k k1 k2 => by
      rw [h _ (by omega)]
      exact if_neg (by omega)
    have d : ∀ k, k ≠ 0 → dcR i r0 k = r0 k := fun k hk => by
      unfold dcR
      split
      · rfl
      · exact if_neg hk
    refine ⟨?_, (o 1 (by omega) (by omega)).trans (q1.trans (d 1 (by omega)).symm), (o 2 (by omega) (by omega)).trans (q2.trans (d 3 (by omega)).symm), (o 3 (by omega) (by omega)).trans (q3.trans (d 4 (by omega)).symm), ?_, (o 6 (by omega) (by omega)).trans (q5.trans (d 6 (by omega)).symm), (o 7 (by omega) (by omega)).trans (q6.trans (d 2 (by omega)).symm)⟩
    · rw [h _ (by omega)]
      unfold dkR dcR
      rw [if_pos ⟨by omega, by omega, by omega⟩, q0]
      split
      · rw [Int32.sub_zero]
      · exact (if_pos rfl).symm
    · rw [o 4 (by omega) (by omega), o 5 (by omega) (by omega), d 5 (by omega)]
      exact q4
end
