/-! the relation kept by single steps of a move -/
theorem kS6_K {E E' : VV} (h : kS6 E E') : eK E' = eK E := by unfold eK; rw [h 0 0 5 (by omega) (by omega) (by omega)]
theorem kS6_L {E E' : VV} (h : kS6 E E') : eL E' = eL E := by unfold eL; rw [h 1 0 1 (by omega) (by omega) (by omega)]
theorem kS6_N {E E' : VV} (h : kS6 E E') : eN E' = eN E := by unfold eN; rw [h 1 0 0 (by omega) (by omega) (by omega)]
theorem kS6_eW {E E' : VV} (h : kS6 E E') : eW E' = eW E := by
  funext i c
  unfold eW eA eB
  rw [h 10 i 0 (by omega) (by omega) (by omega), h 14 i 0 (by omega) (by omega) (by omega)]
theorem kS6_lk {E E' : VV} (h : kS6 E E') (x y : Int32) : lkE E' x y = lkE E x y := by
  unfold lkE
  rw [kS6_L h]
  exact fi_c (fun j _ _ => by rw [h 3 j 0 (by omega) (by omega) (by omega), h 3 j 1 (by omega) (by omega) (by omega)])
theorem kS6_iT {E E' : VV} {K : Nat} {ln : Nat → Nat → Nat} (e : kS6 E E') (hT : iT E K ln) : iT E' K ln := by
  refine ⟨fun i c k t h1 h2 h3 h4 h5 h6 => ?_, fun t h1 h2 => ?_, fun i c k c' k' t h1 h2 h3 h4 h5 h6 h7 h8 h9 h10 => ?_⟩
  · rw [e _ _ _ (by omega) (by omega) (by omega)] at h6
    rw [e 5 _ _ (by omega) (by omega) (by omega), e 6 _ _ (by omega) (by omega) (by omega), e (11 + 4 * c) _ _ (by omega) (by omega) (by omega)]
    exact hT.1 i c k t h1 h2 h3 h4 h5 h6
  · rw [e 5 _ _ (by omega) (by omega) (by omega)] at h2
    obtain ⟨i, c, k, a1, a2, a3, a4, a5⟩ := hT.2.1 t h1 h2
    exact ⟨i, c, k, a1, a2, a3, a4, (e _ _ _ (by omega) (by omega) (by omega)).trans a5⟩
  · rw [e _ _ _ (by omega) (by omega) (by omega)] at h9 h10
    exact hT.2.2 i c k c' k' t h1 h2 h3 h4 h5 h6 h7 h8 h9 h10
/-- a way's laws depend on nodes, links, labels and the net alone -/
theorem iWy_c {E E' : VV} {i c n i' c' : Nat} (hN : eN E' = eN E) (hl : ∀ x y, lkE E' x y = lkE E x y) (h1 : ∀ k, E' (11 + 4 * c') i' k = E (11 + 4 * c) i k) (h2 : ∀ k, E' (12 + 4 * c') i' k = E (12 + 4 * c) i k) (h : iWy E i c n) : iWy E' i' c' n := by
  obtain ⟨w1, w2, w3⟩ := h
  refine ⟨fun k hk => ?_, fun k k1 k2 => ?_, fun k k' k1 k2 => ?_⟩
  · rw [hN, h1]; exact w1 k hk
  · rw [h1, h2, h1, hl]; exact w2 k k1 k2
  · rw [h1, h1]; exact w3 k k' k1 k2
theorem iHd_c {E E' : VV} {i c n i' c' : Nat} (h3 : ∀ k, E' (13 + 4 * c') i' k = E (13 + 4 * c) i k) (h : iHd E i c n) : iHd E' i' c' n := by
  intro k k' k1 k2 k3
  rw [h3, h3]
  exact h k k' k1 k2 k3
theorem kS6_iX {E E' : VV} (h : kS6 E E') (hX : iX E) : iX E' := by
  obtain ⟨h1, h2, h3⟩ := hX
  refine ⟨by rw [kS6_K h, kS6_eW h]; exact kS6_iT h h1, fun t ht => ?_, ?_⟩
  · rw [h 5 _ _ (by omega) (by omega) (by omega), h 7 _ _ (by omega) (by omega) (by omega)]
    exact h2 t ht
  · rw [kS6_K h, kS6_eW h]
    intro i hi c hc
    obtain ⟨w, w4⟩ := h3 i hi c hc
    exact ⟨iWy_c (kS6_N h) (kS6_lk h) (fun k => h _ _ _ (by omega) (by omega) (by omega)) (fun k => h _ _ _ (by omega) (by omega) (by omega)) w, iHd_c (fun k => h _ _ _ (by omega) (by omega) (by omega)) w4⟩
theorem k89_iX {E E' : VV} (h : k89 E E') (hX : iX E) : iX E' := kS6_iX (kS6_k h) hX
theorem iX_md {E : VV} {t : Nat} (hX : iX E) : iX (uV E 7 0 t 1) := by
  obtain ⟨h1, h2, h3⟩ := hX
  have e : ∀ kd i k, kd ≠ 7 → uV E 7 0 t 1 kd i k = E kd i k := fun kd i k h => uV_k h
  refine ⟨⟨fun i c k t' a1 a2 a3 a4 a5 a6 => ?_, fun t' a1 a2 => ?_, fun i c k c' k' t' a1 a2 a3 a4 a5 a6 a7 a8 a9 a10 => ?_⟩, fun t' ht' => ?_, fun i hi c hc => ?_⟩
  · rw [e _ _ _ (by omega)] at a6
    rw [e 5 _ _ (by omega), e 6 _ _ (by omega), e (11 + 4 * c) _ _ (by omega)]
    exact h1.1 i c k t' a1 a2 a3 a4 a5 a6
  · obtain ⟨i, c, k, b1, b2, b3, b4, b5⟩ := h1.2.1 t' a1 a2
    exact ⟨i, c, k, b1, b2, b3, b4, (e _ _ _ (by omega)).trans b5⟩
  · rw [e _ _ _ (by omega)] at a9 a10
    exact h1.2.2 i c k c' k' t' a1 a2 a3 a4 a5 a6 a7 a8 a9 a10
  · rw [e 5 _ _ (by omega), uV_at]
    intro h5
    split
    · exact Or.inr rfl
    · exact h2 t' ht' h5
  · obtain ⟨w, w4⟩ := h3 i hi c hc
    exact ⟨iWy_c (E := E) (i := i) (c := c) rfl (fun _ _ => rfl) (fun k => e _ _ _ (by omega)) (fun k => e _ _ _ (by omega)) w, iHd_c (E := E) (i := i) (c := c) (fun k => e _ _ _ (by omega)) w4⟩
/-- a label is given up, the first that an old way still has -/
def gvE (E : VV) (i x t : Nat) : VV := uV (uV E 5 0 t (-1)) 13 i x (-1)
theorem gvE_o {E : VV} {i x t kd j k : Nat} (h : kd ≠ 5) (h2 : kd ≠ 13) : gvE E i x t kd j k = E kd j k := by
  unfold gvE
  rw [uV_k h2, uV_k h]
theorem gvE_5 {E : VV} {i x t t' : Nat} : gvE E i x t 5 0 t' = if t' = t then -1 else E 5 0 t' := by
  unfold gvE
  rw [uV_k (by decide), uV_at]
  by_cases e : t' = t
  · rw [if_pos ⟨rfl, rfl, e⟩, if_pos e]
  · rw [if_neg (fun z => e z.2.2), if_neg e]
theorem gvE_13 {E : VV} {i x t j k : Nat} : gvE E i x t 13 j k = if j = i ∧ k = x then -1 else E 13 j k := by
  show (if 13 = 13 ∧ j = i ∧ k = x then (-1 : Int32) else E 13 j k) = _
  by_cases e : j = i ∧ k = x
  · rw [if_pos ⟨rfl, e⟩, if_pos e]
  · rw [if_neg (fun z => e z.2), if_neg e]
theorem gvE_s {E : VV} {i x t c j k : Nat} (h : ¬ (c = 0 ∧ j = i ∧ k = x)) : gvE E i x t (13 + 4 * c) j k = E (13 + 4 * c) j k := by
  by_cases ec : c = 0
  · subst ec
    rw [gvE_13, if_neg (fun z => h ⟨rfl, z⟩)]
  · exact gvE_o (by omega) (by omega)
theorem iX_gv {E : VV} {i x t : Nat} (hX : iX E) (hi : i < eK E) (h1 : 1 ≤ x) (h2 : x < eA E i) (ht : t < 120) (e : E 13 i x = nn t) (hp : ∀ k, 1 ≤ k → k < x → E 13 i k = -1) : iX (gvE E i x t) := by
  obtain ⟨hT, g2, g3⟩ := hX
  have e' : E (13 + 4 * 0) i x = nn t := e
  have nt : ∀ j c k, j < eK E → c < 2 → 1 ≤ k → k < eW E j c → E (13 + 4 * c) j k = nn t → c = 0 ∧ j = i ∧ k = x := by
    intro j c k a1 a2 a3 a4 a5
    have q1 := (hT.1 j c k t a1 a2 a3 a4 ht a5).2.1
    have q2 := (hT.1 i 0 x t hi (by omega) h1 h2 ht e').2.1
    have hK8 : eK E ≤ 8 ∨ 8 < eK E := by omega
    have ej : nn j = nn i := q1.symm.trans q2
    have hKb : eK E ≤ 2147483648 := by
      unfold eK
      have := Int32.toInt_lt (E 0 0 5)
      omega
    have ej' : j = i := (nn_eq (by omega) (by omega)).mp ej
    subst ej'
    have := hT.2.2 j c k 0 x t a1 a2 (by omega) a3 a4 h1 h2 ht a5 e'
    exact ⟨this.1, rfl, this.2⟩
  refine ⟨⟨fun j c k t' a1 a2 a3 a4 a5 a6 => ?_, fun t' a1 a2 => ?_, fun j c k c' k' t' a1 a2 a3 a4 a5 a6 a7 a8 a9 a10 => ?_⟩, fun t' ht' => ?_, fun j hj c hc => ?_⟩
  · by_cases ec : c = 0 ∧ j = i ∧ k = x
    · obtain ⟨rfl, rfl, rfl⟩ := ec
      rw [show gvE E j k t (13 + 4 * 0) j k = gvE E j k t 13 j k from rfl, gvE_13, if_pos ⟨rfl, rfl⟩] at a6
      exact absurd a6.symm (nn_m1 (by omega))
    · rw [gvE_s ec] at a6
      have et : t' ≠ t := fun z => ec (nt j c k a1 a2 a3 a4 (by rw [← z]; exact a6))
      rw [gvE_5, if_neg et, gvE_o (by omega) (by omega), gvE_o (by omega) (by omega)]
      exact hT.1 j c k t' a1 a2 a3 a4 a5 a6
  · rw [gvE_5] at a2
    by_cases et : t' = t
    · rw [if_pos et] at a2
      exact absurd rfl a2
    · rw [if_neg et] at a2
      obtain ⟨j, c, k, b1, b2, b3, b4, b5⟩ := hT.2.1 t' a1 a2
      refine ⟨j, c, k, b1, b2, b3, b4, ?_⟩
      rw [gvE_s]
      · exact b5
      · rintro ⟨rfl, rfl, rfl⟩
        rw [e'] at b5
        exact et ((nn_eq (by omega) (by omega)).mp b5).symm
  · have c1 : ¬ (c = 0 ∧ j = i ∧ k = x) := by
      rintro ⟨rfl, rfl, rfl⟩
      rw [show gvE E j k t (13 + 4 * 0) j k = gvE E j k t 13 j k from rfl, gvE_13, if_pos ⟨rfl, rfl⟩] at a9
      exact absurd a9.symm (nn_m1 (by omega))
    have c2 : ¬ (c' = 0 ∧ j = i ∧ k' = x) := by
      rintro ⟨rfl, rfl, rfl⟩
      rw [show gvE E j k' t (13 + 4 * 0) j k' = gvE E j k' t 13 j k' from rfl, gvE_13, if_pos ⟨rfl, rfl⟩] at a10
      exact absurd a10.symm (nn_m1 (by omega))
    rw [gvE_s c1] at a9
    rw [gvE_s c2] at a10
    exact hT.2.2 j c k c' k' t' a1 a2 a3 a4 a5 a6 a7 a8 a9 a10
  · rw [gvE_5, gvE_o (by decide) (by decide)]
    split
    · exact fun z => absurd rfl z
    · exact g2 t' ht'
  · obtain ⟨w, w4⟩ := g3 j hj c hc
    refine ⟨iWy_c (E := E) (i := j) (c := c) rfl (fun _ _ => rfl) (fun k => gvE_o (by omega) (by omega)) (fun k => gvE_o (by omega) (by omega)) w, ?_⟩
    show iHd (gvE E i x t) j c (eW E j c)
    intro k k' k1 k2 k3 k4
    have c1 : ¬ (c = 0 ∧ j = i ∧ k = x) := by
      rintro ⟨rfl, rfl, rfl⟩
      rw [show gvE E j k t (13 + 4 * 0) j k = gvE E j k t 13 j k from rfl, gvE_13, if_pos ⟨rfl, rfl⟩] at k4
      exact k4 rfl
    rw [gvE_s c1] at k4
    have c2 : ¬ (c = 0 ∧ j = i ∧ k' = x) := by
      rintro ⟨rfl, rfl, rfl⟩
      exact k4 (hp k k1 k2)
    rw [gvE_s c2]
    exact w4 k k' k1 k2 k3 k4
/-- the new way is taken -/
def tkN (E : VV) (i : Nat) : VV := uV (uV (twV E i) 14 i 0 0) 9 i 2 0
theorem tkN_o {E : VV} {i kd j k : Nat} (h : kd < 9 ∨ 17 < kd) : tkN E i kd j k = E kd j k := by
  unfold tkN
  rw [uV_k (by omega), uV_k (by omega), twV_o (by omega)]
theorem tkN_n {E : VV} {i kd j k : Nat} (h : j ≠ i) : tkN E i kd j k = E kd j k := by
  unfold tkN
  rw [uV_i h, uV_i h, twV_n h]
theorem tkN_s {E : VV} {i kd k : Nat} (h : 10 ≤ kd) (h2 : kd ≤ 13) : tkN E i kd i k = E (kd + 4) i k := by
  unfold tkN
  rw [uV_k (by omega), uV_k (by omega), twV_s (by omega), if_pos h2]
theorem tkN_A {E : VV} {i j : Nat} : eW (tkN E i) j 0 = if j = i then eW E i 1 else eW E j 0 := by
  show eA (tkN E i) j = if j = i then eB E i else eA E j
  unfold eA eB
  split
  · rename_i h
    subst h
    rw [tkN_s (by omega) (by omega)]
  · rename_i h
    rw [tkN_n h]
theorem tkN_B {E : VV} {i j : Nat} : eW (tkN E i) j 1 = if j = i then 0 else eW E j 1 := by
  show eB (tkN E i) j = if j = i then 0 else eB E j
  unfold eB
  split
  · rename_i h
    subst h
    unfold tkN
    rw [uV_k (by decide), uV_s]
    rfl
  · rename_i h
    rw [tkN_n h]
theorem iX_tw {E : VV} {i : Nat} (hX : iX E) (hi : i < eK E) (hp : ∀ k, 1 ≤ k → k < eA E i → E 13 i k = -1) : iX (tkN E i) := by
  obtain ⟨hT, g2, g3⟩ := hX
  have eKK : eK (tkN E i) = eK E := by unfold eK; rw [tkN_o (by omega)]
  have eNN : eN (tkN E i) = eN E := by unfold eN; rw [tkN_o (by omega)]
  have eLL : ∀ x y, lkE (tkN E i) x y = lkE E x y := by
    intro x y
    have : eL (tkN E i) = eL E := by unfold eL; rw [tkN_o (by omega)]
    unfold lkE
    rw [this]
    exact fi_c (fun j _ _ => by rw [tkN_o (by omega), tkN_o (by omega)])
  -- a place of a way is a place of the state before
  have bk : ∀ j c k, c < 2 → 1 ≤ k → k < eW (tkN E i) j c → ∃ c', c' < 2 ∧ k < eW E j c' ∧ (c' = if j = i then 1 else c) ∧ (∀ d, d < 3 → ∀ x, tkN E i (11 + d + 4 * c) j x = E (11 + d + 4 * c') j x) := by
    intro j c k hc k1 k2
    by_cases ej : j = i
    · subst ej
      rcases (show c = 0 ∨ c = 1 by omega) with ec | ec
      · subst ec
        rw [tkN_A, if_pos rfl] at k2
        refine ⟨1, by omega, k2, by rw [if_pos rfl], fun d hd x => ?_⟩
        rw [tkN_s (by omega) (by omega)]
      · subst ec
        rw [tkN_B, if_pos rfl] at k2
        omega
    · refine ⟨c, hc, ?_, by rw [if_neg ej], fun d hd x => tkN_n ej⟩
      rcases (show c = 0 ∨ c = 1 by omega) with ec | ec
      · subst ec
        rw [tkN_A, if_neg ej] at k2
        exact k2
      · subst ec
        rw [tkN_B, if_neg ej] at k2
        exact k2
  refine ⟨⟨fun j c k t' a1 a2 a3 a4 a5 a6 => ?_, fun t' a1 a2 => ?_, fun j c k c' k' t' a1 a2 a3 a4 a5 a6 a7 a8 a9 a10 => ?_⟩, fun t' ht' => ?_, fun j hj c hc => ?_⟩
  · rw [eKK] at a1
    obtain ⟨c', b1, b2, -, b3⟩ := bk j c k a2 a3 a4
    rw [show 13 + 4 * c = 11 + 2 + 4 * c from by omega, b3 2 (by omega)] at a6
    rw [tkN_o (kd := 5) (by omega), tkN_o (kd := 6) (by omega), show 11 + 4 * c = 11 + 0 + 4 * c from by omega, b3 0 (by omega)]
    exact hT.1 j c' k t' a1 b1 a3 b2 a5 (by rw [show 13 + 4 * c' = 11 + 2 + 4 * c' from by omega]; exact a6)
  · rw [tkN_o (by omega)] at a2
    obtain ⟨j, c, k, b1, b2, b3, b4, b5⟩ := hT.2.1 t' a1 a2
    by_cases ej : j = i
    · subst ej
      rcases (show c = 0 ∨ c = 1 by omega) with ec | ec
      · subst ec
        have := hp k b3 b4
        rw [show E (13 + 4 * 0) j k = E 13 j k from rfl, this] at b5
        exact absurd b5.symm (nn_m1 (by omega))
      · subst ec
        refine ⟨j, 0, k, by rw [eKK]; exact b1, by omega, b3, by rw [tkN_A, if_pos rfl]; exact b4, ?_⟩
        rw [tkN_s (by omega) (by omega)]
        exact b5
    · refine ⟨j, c, k, by rw [eKK]; exact b1, b2, b3, ?_, by rw [tkN_n ej]; exact b5⟩
      rcases (show c = 0 ∨ c = 1 by omega) with ec | ec
      · subst ec
        rw [tkN_A, if_neg ej]; exact b4
      · subst ec
        rw [tkN_B, if_neg ej]; exact b4
  · rw [eKK] at a1
    obtain ⟨d, b1, b2, b4, b3⟩ := bk j c k a2 a4 a5
    obtain ⟨d', b1', b2', b4', b3'⟩ := bk j c' k' a3 a6 a7
    rw [show 13 + 4 * c = 11 + 2 + 4 * c from by omega, b3 2 (by omega)] at a9
    rw [show 13 + 4 * c' = 11 + 2 + 4 * c' from by omega, b3' 2 (by omega)] at a10
    have := hT.2.2 j d k d' k' t' a1 b1 b1' a4 b2 a6 b2' a8 (by rw [show 13 + 4 * d = 11 + 2 + 4 * d from by omega]; exact a9) (by rw [show 13 + 4 * d' = 11 + 2 + 4 * d' from by omega]; exact a10)
    refine ⟨?_, this.2⟩
    by_cases ej : j = i
    · subst ej
      rcases (show c = 0 ∨ c = 1 by omega) with ec | ec
      · rcases (show c' = 0 ∨ c' = 1 by omega) with ec' | ec'
        · omega
        · subst ec'
          rw [tkN_B, if_pos rfl] at a7
          omega
      · subst ec
        rw [tkN_B, if_pos rfl] at a5
        omega
    · rw [if_neg ej] at b4 b4'
      omega
  · rw [tkN_o (by omega), tkN_o (by omega)]
    exact g2 t' ht'
  · rw [eKK] at hj
    by_cases ej : j = i
    · subst ej
      rcases (show c = 0 ∨ c = 1 by omega) with ec | ec
      · subst ec
        obtain ⟨w, w4⟩ := g3 j hj 1 (by omega)
        rw [tkN_A, if_pos rfl]
        exact ⟨iWy_c (E := E) (i := j) (c := 1) eNN eLL (fun k => tkN_s (by omega) (by omega)) (fun k => tkN_s (by omega) (by omega)) w, iHd_c (E := E) (i := j) (c := 1) (fun k => tkN_s (by omega) (by omega)) w4⟩
      · subst ec
        rw [tkN_B, if_pos rfl]
        exact ⟨⟨fun k hk => by omega, fun k h1 h2 => by omega, fun k k' h1 => by omega⟩, fun k k' h1 h2 h3 => by omega⟩
    · obtain ⟨w, w4⟩ := g3 j hj c hc
      have el : eW (tkN E i) j c = eW E j c := by
        rcases (show c = 0 ∨ c = 1 by omega) with ec | ec
        · subst ec; rw [tkN_A, if_neg ej]
        · subst ec; rw [tkN_B, if_neg ej]
      rw [el]
      exact ⟨iWy_c (E := E) (i := j) (c := c) eNN eLL (fun k => tkN_n ej) (fun k => tkN_n ej) w, iHd_c (E := E) (i := j) (c := c) (fun k => tkN_n ej) w4⟩
