/-! A TICK, told of the state alone: what it keeps -/
theorem acB_c {E : VV} {i : Nat} : ∃ c, c < 2 ∧ acB E i = 10 + 4 * c ∧ (c = 0 ↔ ¬ (E 9 i 2 = 2 ∨ E 9 i 2 = 3)) := by
  unfold acB
  split
  · rename_i h
    exact ⟨1, by omega, rfl, ⟨fun z => by omega, fun z => absurd h z⟩⟩
  · rename_i h
    exact ⟨0, by omega, rfl, ⟨fun _ => h, fun _ => rfl⟩⟩
/-- the active way has two nodes, and its first label -/
theorem ac_sl {E : VV} {i dl : Nat} (hQ : iQ E i dl) : 2 ≤ wN E (acB E i) i ∧ E (acB E i + 3) i 1 ≠ -1 := by
  obtain ⟨q1, q2, q3, q4, q5⟩ := hQ
  have no : ∀ x : Int32, E 9 i 2 = x → x ≠ 2 → x ≠ 3 → acB E i = 10 := fun x h h2 h3 => by
    unfold acB
    rw [if_neg]
    rintro (z | z)
    · exact h2 (h.symm.trans z)
    · exact h3 (h.symm.trans z)
  have ye : (E 9 i 2 = 2 ∨ E 9 i 2 = 3) → acB E i = 14 := fun h => by unfold acB; rw [if_pos h]
  rcases q5 with ⟨a1, a2, -, -, -, a6⟩ | ⟨a1, a2, -, -, -, a6⟩ | ⟨a1, a2, -⟩ | ⟨a1, a2, -⟩
  · rw [no 0 a1 (by decide) (by decide)]
    exact ⟨by rw [wN10]; exact q1, a6 1 (by omega) (by omega)⟩
  · rw [no 1 a1 (by decide) (by decide)]
    exact ⟨by rw [wN10]; exact q1, a6 1 (by omega) (by omega)⟩
  · rw [ye (Or.inl a1)]
    exact ⟨by rw [wN14]; exact a2, q3 1 (by omega) (by omega)⟩
  · rw [ye (Or.inr a1)]
    exact ⟨by rw [wN14]; exact a2, q3 1 (by omega) (by omega)⟩
theorem wN_c {E : VV} {i c : Nat} (hc : c < 2) : wN E (10 + 4 * c) i = eW E i c := by
  rcases (show c = 0 ∨ c = 1 by omega) with e | e <;> subst e
  · exact wN10
  · exact wN14
theorem nw_0 {E : VV} {i : Nat} : nwR E i 0 = nn i := rfl
theorem nw_3 {E : VV} {i : Nat} : nwR E i 3 = E (acB E i + 2) i 1 := rfl
theorem nw_4 {E : VV} {i : Nat} : nwR E i 4 = E (acB E i + 1) i 1 := rfl
theorem nw_5 {E : VV} {i : Nat} : nwR E i 5 = E (acB E i + 3) i 1 := rfl
theorem nw_6 {E : VV} {i : Nat} : nwR E i 6 = dOn E (eL E) (E (acB E i + 2) i 1) := rfl
theorem pk_nw {E : VV} {i dl : Nat} (hS : hS0 E) (hi : i < eK E) (hQ : iQ E i dl) : pkO E (nwR E i) := by
  refine ⟨⟨i, hi, nw_0⟩, ?_⟩
  obtain ⟨c, c1, c2, -⟩ := acB_c (E := E) (i := i)
  obtain ⟨h1, h2⟩ := ac_sl hQ
  rw [c2, wN_c c1] at h1
  rw [nw_5, c2]
  rw [c2] at h2
  rw [show 10 + 4 * c + 3 = 13 + 4 * c by omega] at h2 ⊢
  rcases hS i c 1 hi c1 (by omega) (by omega) with e | e
  · exact absurd e h2
  · exact e
/-! what a sending may be -/
theorem bk_at {E : VV} {i : Nat} {y : Int32} {kd a k : Nat} (h8 : ¬ (kd = 8 ∧ k = 3)) (h9 : ¬ (kd = 9 ∧ a = i ∧ k = 3)) : bkE E i y kd a k = E kd a k := by
  unfold bkE
  rw [uV_at, if_neg (by omega), uV_at, if_neg (by omega)]
theorem kS6_bk {E : VV} {i : Nat} {y : Int32} : kS6 E (bkE E i y) := fun kd a k h8 h9 _ => bk_at (by omega) (by omega)
theorem pO_6k {E E' : VV} (h : kS6 E E') {b c q : Nat} (hb : 10 ≤ b) {r : Nat → Int32} : pO E' b c q r = pO E b c q r := by
  have d : ∀ x, dOn E' (eL E') x = dOn E (eL E) x := fun x => by
    unfold dOn
    rw [kS6_L h]
    split
    · exact h 3 _ _ (by omega) (by omega) (by omega)
    · rfl
  unfold pO
  rw [h (b + 2) _ _ (by omega) (by omega) (by omega), h (b + 1) _ _ (by omega) (by omega) (by omega), h (b + 3) _ _ (by omega) (by omega) (by omega), d]
theorem nw_bk {E : VV} {i : Nat} {y : Int32} : nwR (bkE E i y) i = nwR E i := by
  have e : acB (bkE E i y) i = acB E i := by
    unfold acB
    rw [bk_at (by omega) (by omega)]
  unfold nwR
  rw [e, pO_6k kS6_bk (by rcases acB_b (V := E) (i := i) with z | z <;> omega), bk_at (kd := 9) (by omega) (by omega), bk_at (kd := 0) (by omega) (by omega)]
theorem sF_c {E : VV} {i : Nat} : sF E i = sH E i ∨ sF E i = sH (bkE E i 1) i := by
  unfold sF
  split
  · exact Or.inl rfl
  · split
    · exact Or.inr rfl
    · exact Or.inl rfl
theorem sH_c {E : VV} {i : Nat} : sH E i = (uV E 9 i 8 (E 9 i 8 - 1), []) ∨ sH E i = (E, []) ∨ (¬ (60 ≤ E 0 0 6) ∧ sH E i = sP E i) := by
  unfold sH
  split
  · split
    · exact Or.inr (Or.inl rfl)
    · split
      · exact Or.inr (Or.inl rfl)
      · rename_i h
        exact Or.inr (Or.inr ⟨h, rfl⟩)
  · exact Or.inl rfl
theorem sP_c {E : VV} {i : Nat} : (uP E (nwR E i 3) = true ∧ sP E i = (uV (sdE E i) 0 0 6 (E 0 0 6 + 1), [nwR E i])) ∨ (uP E (nwR E i 3) = false ∧ sP E i = (lsE (sdE E i) (nwR E i), [])) := by
  unfold sP
  split
  · rename_i h
    exact Or.inl ⟨h, rfl⟩
  · rename_i h
    exact Or.inr ⟨by simpa using h, rfl⟩
theorem uP_6k {E E' : VV} (h : kS6 E E') (x : Int32) : uP E' x = uP E x := by
  unfold uP
  rw [kS6_L h, h 3 _ _ (by omega) (by omega) (by omega)]
/-- what is sent is the circuit's -/
theorem sF_r {E : VV} {i : Nat} {r : Nat → Int32} (hr : r ∈ (sF E i).2) : r = nwR E i ∧ uP E (r 3) = true ∧ (sF E i).2 = [r] ∧ ¬ (60 ≤ E 0 0 6) := by
  have key : ∀ E', kS6 E E' → nwR E' i = nwR E i → E' 0 0 6 = E 0 0 6 → r ∈ (sH E' i).2 → r = nwR E i ∧ uP E (r 3) = true ∧ (sH E' i).2 = [r] ∧ ¬ (60 ≤ E 0 0 6) := by
    intro E' k6 en e6 h
    rcases sH_c (E := E') (i := i) with e | e | ⟨e1, e⟩
    · rw [e] at h; cases h
    · rw [e] at h; cases h
    · rw [e] at h ⊢
      rcases sP_c (E := E') (i := i) with ⟨g1, g2⟩ | ⟨g1, g2⟩
      · rw [g2] at h ⊢
        have er : r = nwR E' i := List.mem_singleton.mp h
        subst er
        rw [uP_6k k6] at g1
        exact ⟨en, g1, rfl, by rw [← e6]; exact e1⟩
      · rw [g2] at h; cases h
  rcases sF_c (E := E) (i := i) with e | e
  · rw [e] at hr ⊢
    exact key E (fun _ _ _ _ _ _ => rfl) rfl rfl hr
  · rw [e] at hr ⊢
    exact key _ kS6_bk nw_bk (bk_at (by omega) (by omega)) hr
theorem hS0_6 {E E' : VV} (h : kS6 E E') (hS : hS0 E) : hS0 E' := fun i c k h1 h2 h3 h4 => by
  rw [kS6_K h] at h1
  rw [kS6_eW h] at h4
  rw [h (13 + 4 * c) i k (by omega) (by omega) (by omega)]
  exact hS i c k h1 h2 h3 h4
theorem hS0_c {E E' : VV} (hK : eK E' = eK E) (hW : ∀ a c, c < 2 → eW E' a c = eW E a c) (h : ∀ a c k, c < 2 → E' (13 + 4 * c) a k = E (13 + 4 * c) a k ∨ E' (13 + 4 * c) a k = -1) (hS : hS0 E) : hS0 E' := fun i c k h1 h2 h3 h4 => by
  rw [hK] at h1
  rw [hW i c h2] at h4
  rcases h i c k h2 with e | e
  · rw [e]
    exact hS i c k h1 h2 h3 h4
  · exact Or.inl e
/-- sendings, one after another -/
theorem sA_V {x : Int32} : ∀ (k j : Nat) (E : VV) (l : List (Nat → Int32)), vG E → iX E → iL E → hS0 E → (∀ i, i < eK E → iQ E i (if i < j then 0 else 1)) → (∀ r, r ∈ l → pkO E r) → E 0 0 6 = nn l.length → l.length ≤ 60 → j + k = eK E → iV (uV (sA E j k).1 0 0 9 x) (l ++ (sA E j k).2) ∧ hS0 (uV (sA E j k).1 0 0 9 x) ∧ (l ++ (sA E j k).2).length ≤ 60 := by
  intro k
  induction k with
  | zero =>
    intro j E l hG hX hL hS hQ hpk h6 h60 hj
    show iV (uV E 0 0 9 x) (l ++ []) ∧ hS0 (uV E 0 0 9 x) ∧ (l ++ []).length ≤ 60
    rw [List.append_nil]
    have e9 : ∀ kd i k, kd ≠ 0 → uV E 0 0 9 x kd i k = E kd i k := fun kd i k h => uV_k h
    refine ⟨⟨?_, ?_, ?_, fun i hi => ?_, fun r hr => ?_, h6⟩, ?_, h60⟩
    · exact vG_sm ⟨rfl, rfl, rfl, rfl, fun _ => rfl, fun _ => rfl, fun _ => rfl⟩ hG
    · obtain ⟨g1, g2, g3⟩ := hX
      refine ⟨⟨fun i c k t a1 a2 a3 a4 a5 a6 => ?_, fun t a1 a2 => ?_, fun i c k c' k' t a1 a2 a3 a4 a5 a6 a7 a8 a9 a10 => ?_⟩, g2, fun i hi c hc => ?_⟩
      · rw [e9 _ _ _ (by omega)] at a6
        rw [e9 (11 + 4 * c) _ _ (by omega)]
        exact g1.1 i c k t a1 a2 a3 a4 a5 a6
      · obtain ⟨i, c, k, c1, c2, c3, c4, c5⟩ := g1.2.1 t a1 a2
        exact ⟨i, c, k, c1, c2, c3, c4, (e9 _ _ _ (by omega)).trans c5⟩
      · rw [e9 _ _ _ (by omega)] at a9 a10
        exact g1.2.2 i c k c' k' t a1 a2 a3 a4 a5 a6 a7 a8 a9 a10
      · obtain ⟨w, w4⟩ := g3 i hi c hc
        exact ⟨iWy_c (E := E) (i := i) (c := c) rfl (fun _ _ => rfl) (fun k => e9 _ _ _ (by omega)) (fun k => e9 _ _ _ (by omega)) w, iHd_c (E := E) (i := i) (c := c) (fun k => e9 _ _ _ (by omega)) w4⟩
    · exact hL
    · have := hQ i hi
      rw [if_pos (show i < j by have : eK (uV E 0 0 9 x) = eK E := rfl; omega)] at this
      exact this
    · exact hpk r hr
    · exact hS0_c (E := E) rfl (fun _ _ _ => rfl) (fun a c k _ => Or.inl (e9 _ _ _ (by omega))) hS
  | succ k ih =>
    intro j E l hG hX hL hS hQ hpk h6 h60 hj
    have hjK : j < eK E := by omega
    have hK8 := hG.2.2.2.2.1.2.2.1
    have hQj := hQ j hjK
    rw [if_neg (by omega)] at hQj
    have k6 : kS6 E (sF E j).1 := kS6_sF
    have n6 : (sF E j).1 0 0 6 = nn (l ++ (sF E j).2).length ∧ (l ++ (sF E j).2).length ≤ 60 := by
      rcases sF_6 (E := E) (i := j) with ⟨b1, b2⟩ | ⟨r, b1, b2⟩
      · rw [b1, b2, List.append_nil]
        exact ⟨h6, h60⟩
      · have q := sF_r (E := E) (i := j) (r := r) (by rw [b1]; exact List.mem_singleton.mpr rfl)
        have q2 := q.2.2.2
        rw [h6, nl_60, nn_le (by omega) (by omega)] at q2
        rw [b1, b2, h6, nl_1, nn_add, List.length_append]
        exact ⟨rfl, by show l.length + 1 ≤ 60; omega⟩
    have nK : eK (sF E j).1 = eK E := kS6_K k6
    have nG : vG (sF E j).1 := by
      refine vG_6 hG (fun kd i k c1 c2 c3 => ?_) (n := (l ++ (sF E j).2).length) n6.1 n6.2
      rw [er_at, er_at]
      split
      · rfl
      · exact k6 kd i k c1 c2 c3
    have g := ih (j + 1) (sF E j).1 (l ++ (sF E j).2) nG (kS6_iX k6 hX) (fun x hx => ?_) (hS0_6 k6 hS) (fun i hi => ?_) (fun r hr => ?_) n6.1 n6.2 (by rw [nK]; omega)
    · rw [sA_S]
      dsimp only
      rw [List.append_assoc] at g
      exact g
    · rw [kS6_L k6] at hx
      rw [k6 3 _ _ (by decide) (by decide) (by decide)]
      exact hL x hx
    · rw [nK] at hi
      by_cases e : i = j
      · subst e
        rw [if_pos (by omega)]
        exact iQ_sF hQj
      · have := hQ i hi
        have e2 : (if i < j + 1 then 0 else 1) = if i < j then 0 else 1 := by
          by_cases e3 : i < j
          · rw [if_pos e3, if_pos (by omega)]
          · rw [if_neg e3, if_neg (by omega)]
        rw [e2]
        have h9 := (sF_9 (E := E) (i := j)).resolve_right (fun z => z ⟨hjK, by omega⟩)
        exact iQ_o (fun k => h9 i k e) (k6 _ _ _ (by decide) (by decide) (by decide)) (k6 _ _ _ (by decide) (by decide) (by decide)) (fun k => k6 _ _ _ (by decide) (by decide) (by omega)) (fun k => k6 _ _ _ (by decide) (by decide) (by omega)) this
    · have : pkO E r := by
        rcases List.mem_append.mp hr with h | h
        · exact hpk r h
        · rw [(sF_r h).1]
          exact pk_nw hS hjK hQj
      unfold pkO at this ⊢
      rw [nK]
      exact this
/-- a move's tick leaves labels, or gives them up -/
theorem hS_mC {E : VV} {i : Nat} (hS : hS0 E) : hS0 (mC E i) := by
  unfold mC
  have gu : ∀ (W : VV) (t : Int32) kd a k, kd ≠ 5 → guE W t kd a k = W kd a k := fun W t kd a k h => guE_o h
  split
  · unfold buE
    have mk : ∀ (t : Int32) kd a k, kd ≠ 7 → mkE E t kd a k = E kd a k := fun t kd a k h => mkE_o h
    split
    · split
      · exact hS0_c (by unfold eK; rw [uV_k (by omega), uV_k (by omega), uV_k (by omega)]) (fun a c hc => by unfold eW eA eB; rw [uV_k (by omega), uV_k (by omega), uV_k (by omega), uV_k (by omega), uV_k (by omega), uV_k (by omega)]) (fun a c k hc => Or.inl (by rw [uV_k (by omega), uV_k (by omega), uV_k (by omega)])) hS
      · exact hS0_c (by unfold eK; rw [uV_k (by omega), uV_k (by omega)]) (fun a c hc => by unfold eW eA eB; rw [uV_k (by omega), uV_k (by omega), uV_k (by omega), uV_k (by omega)]) (fun a c k hc => Or.inl (by rw [uV_k (by omega), uV_k (by omega)])) hS
    · exact hS0_c (by unfold eK; rw [uV_k (by omega), mk _ _ _ _ (by omega)]) (fun a c hc => by unfold eW eA eB; rw [uV_k (by omega), uV_k (by omega), mk _ _ _ _ (by omega), mk _ _ _ _ (by omega)]) (fun a c k hc => Or.inl (by rw [uV_k (by omega), mk _ _ _ _ (by omega)])) hS
  · split
    · unfold drE
      split
      · exact hS0_c (by unfold eK; rw [uV_k (by omega)]) (fun a c hc => by unfold eW eA eB; rw [uV_k (by omega), uV_k (by omega)]) (fun a c k hc => Or.inl (by rw [uV_k (by omega)])) hS
      · exact hS0_c (by unfold eK; rw [uV_k (by omega), uV_k (by omega)]) (fun a c hc => by unfold eW eA eB; rw [uV_k (by omega), uV_k (by omega), uV_k (by omega), uV_k (by omega)]) (fun a c k hc => Or.inl (by rw [uV_k (by omega), uV_k (by omega)])) hS
    · split
      · have hc0 : hS0 (clF E i) := by
          unfold clF
          split
          · refine hS0_c (by unfold eK; rw [uV_k (by omega), gu _ _ _ _ _ (by omega)]) (fun a c hc => by unfold eW eA eB; rw [uV_k (by omega), uV_k (by omega), gu _ _ _ _ _ (by omega), gu _ _ _ _ _ (by omega)]) (fun a c k hc => ?_) hS
            rw [uV_at]
            split
            · exact Or.inr rfl
            · exact Or.inl (gu _ _ _ _ _ (by omega))
          · exact hS0_c (by unfold eK; rw [gu _ _ _ _ _ (by omega)]) (fun a c hc => by unfold eW eA eB; rw [gu _ _ _ _ _ (by omega), gu _ _ _ _ _ (by omega)]) (fun a c k hc => Or.inl (gu _ _ _ _ _ (by omega))) hS
        unfold clE
        split
        · exact hc0
        · show hS0 (tn (clF E i) i (E 8 0 5 + 1))
          intro a c k h1 h2 h3 h4
          have nK : eK (tn (clF E i) i (E 8 0 5 + 1)) = eK (clF E i) := by unfold eK; rw [tn_o (by omega)]
          rw [nK] at h1
          have s13 : ∀ c', c' < 2 → tn (clF E i) i (E 8 0 5 + 1) (13 + 4 * c') a k = if a = i then clF E i (17 - 4 * c') a k else clF E i (13 + 4 * c') a k := by
            intro c' hc'
            unfold tn
            rw [uV_k (by omega), uV_k (by omega), uV_k (by omega)]
            by_cases e : a = i
            · subst e
              rw [twV_s (by omega), if_pos rfl]
              rcases (show c' = 0 ∨ c' = 1 by omega) with z | z <;> subst z <;> rfl
            · rw [twV_n e, if_neg e]
          rw [s13 c h2]
          by_cases e : a = i
          · rw [if_pos e]
            rcases (show c = 0 ∨ c = 1 by omega) with z | z
            · subst z
              have w : eW (tn (clF E i) i (E 8 0 5 + 1)) a 0 = eB (clF E i) a := by
                show eA _ a = _
                rw [eA_tn, if_pos e, e]
              rw [w] at h4
              exact hc0 a 1 k h1 (by omega) h3 h4
            · subst z
              have w : eW (tn (clF E i) i (E 8 0 5 + 1)) a 1 = 0 := by
                show eB _ a = _
                rw [eB_tn, if_pos e]
              omega
          · rw [if_neg e]
            have w : eW (tn (clF E i) i (E 8 0 5 + 1)) a c = eW (clF E i) a c := by
              rcases (show c = 0 ∨ c = 1 by omega) with z | z <;> subst z
              · show eA _ a = eA _ a
                rw [eA_tn, if_neg e]
              · show eB _ a = eB _ a
                rw [eB_tn, if_neg e]
            rw [w] at h4
            exact hc0 a c k h1 h2 h3 h4
      · exact hS
theorem hS_sl {E : VV} (hS : hS0 E) {i : Nat} (hi : i < eK E) : ∀ c k, c < 2 → 1 ≤ k → k < eW E i c → E (13 + 4 * c) i k = -1 ∨ ∃ t, t < 120 ∧ E (13 + 4 * c) i k = nn t := fun c k h1 h2 h3 => by
  rcases hS i c k hi h1 h2 h3 with e | ⟨f, l, a1, a2, a3⟩
  · exact Or.inl e
  · exact Or.inr ⟨f * 12 + l, by omega, a3⟩
/-- moves, one after another -/
theorem mvC_V : ∀ (k j : Nat) (E : VV), vG E → iX E → iL E → hS0 E → (∀ i, i < eK E → iQ E i (if i < j then 1 else 0)) → j + k = eK E → iX (mvC E j k) ∧ hS0 (mvC E j k) ∧ ∀ i, i < eK E → iQ (mvC E j k) i 1 := by
  intro k
  induction k with
  | zero =>
    intro j E hG hX hL hS hQ hj
    refine ⟨hX, hS, fun i hi => ?_⟩
    have := hQ i hi
    rw [if_pos (by omega)] at this
    exact this
  | succ k ih =>
    intro j E hG hX hL hS hQ hj
    have hK8 := hG.2.2.2.2.1.2.2.1
    have hjK : j < eK E := by omega
    have hq0 := hQ j hjK
    rw [if_neg (by omega)] at hq0
    obtain ⟨nX, nQ⟩ := mC_all hG hX hL hjK hq0 (hS_sl hS hjK)
    have nK : eK (mC E j) = eK E := eK_mC
    have g := ih (j + 1) (mC E j) (vG_mC (by omega) hG) nX (iL_mC hL) (hS_mC hS) (fun i hi => ?_) (by rw [nK]; omega)
    · rw [nK] at g
      exact g
    · rw [nK] at hi
      by_cases e : i = j
      · subst e
        rw [if_pos (by omega)]
        exact nQ
      · have := hQ i hi
        have e2 : (if i < j + 1 then 1 else 0) = if i < j then 1 else 0 := by
          by_cases e3 : i < j
          · rw [if_pos e3, if_pos (by omega)]
          · rw [if_neg e3, if_neg (by omega)]
        rw [e2]
        exact iQ_o (fun k => mC_n e (by omega) (by omega)) (mC_n e (by omega) (by omega)) (mC_n e (by omega) (by omega)) (fun k => mC_n e (by omega) (by omega)) (fun k => mC_n e (by omega) (by omega)) this
/-- between packets and moves -/
def tk1 (E : VV) (l : List (Nat → Int32)) : VV := uV (mvP E l).2 0 0 6 (nn (mvP E l).1.length)
theorem tkE_1 (E : VV) (l : List (Nat → Int32)) : tkE E l = (uV (sA (mvC (tk1 E l) 0 (eK E)) 0 (eK E)).1 0 0 9 (E 0 0 9 + 1), (mvP E l).1 ++ (sA (mvC (tk1 E l) 0 (eK E)) 0 (eK E)).2) := rfl
theorem tk1_6 {E : VV} {l : List (Nat → Int32)} : kS6 E (tk1 E l) := kS6_u (kS6_k (fun kd i k a c => kQ_mvP kd i k a (by omega))) (Or.inr (Or.inr ⟨rfl, rfl⟩))
theorem tk1_ok {E : VV} {l : List (Nat → Int32)} (hV : iV E l) (hS : hS0 E) (h60 : l.length ≤ 60) : vG (tk1 E l) ∧ iX (tk1 E l) ∧ iL (tk1 E l) ∧ hS0 (tk1 E l) ∧ (∀ i, i < eK E → iQ (tk1 E l) i 0) ∧ (∀ r, r ∈ (mvP E l).1 → pkO E r) ∧ tk1 E l 0 0 6 = nn (mvP E l).1.length ∧ (mvP E l).1.length ≤ 60 ∧ eK (tk1 E l) = eK E := by
  obtain ⟨hG, hX, hL, hQ, hpk, h6⟩ := hV
  have hK8 := hG.2.2.2.2.1.2.2.1
  have kq : kQ E (mvP E l).2 := kQ_mvP
  have k1 : kS6 E (tk1 E l) := tk1_6
  have e6 : tk1 E l 0 0 6 = nn (mvP E l).1.length := uV_s
  have l60 : (mvP E l).1.length ≤ 60 := Nat.le_trans mvP_len h60
  have h9 : ∀ i k, tk1 E l 9 i k = (mvP E l).2 9 i k := fun i k => uV_k (by decide)
  refine ⟨?_, kS6_iX k1 hX, fun x hx => ?_, hS0_6 k1 hS, fun i hi => ?_, pk_mvP hX hK8 hS hpk, e6, l60, kS6_K k1⟩
  · refine vG_6 hG (fun kd i k c1 c2 c3 => ?_) (n := (mvP E l).1.length) e6 l60
    rw [er_at, er_at]
    split
    · rfl
    · exact k1 kd i k c1 c2 c3
  · rw [kS6_L k1] at hx
    rw [k1 3 _ _ (by decide) (by decide) (by decide)]
    exact hL x hx
  · have q0 := iQ_kQ kq (k38_mvP i).1 (k38_mvP i).2 (hQ i hi)
    exact iQ_o (E := (mvP E l).2) (h9 i) (uV_k (by decide)) (uV_k (by decide)) (fun k => uV_k (by decide)) (fun k => uV_k (by decide)) q0
/-- between moves and sendings -/
theorem tk2_ok {E : VV} {l : List (Nat → Int32)} (hV : iV E l) (hS : hS0 E) (h60 : l.length ≤ 60) : vG (mvC (tk1 E l) 0 (eK E)) ∧ iX (mvC (tk1 E l) 0 (eK E)) ∧ iL (mvC (tk1 E l) 0 (eK E)) ∧ hS0 (mvC (tk1 E l) 0 (eK E)) ∧ (∀ i, i < eK E → iQ (mvC (tk1 E l) 0 (eK E)) i 1) ∧ (∀ kd q x, kd ≤ 4 → mvC (tk1 E l) 0 (eK E) kd q x = tk1 E l kd q x) ∧ eK (mvC (tk1 E l) 0 (eK E)) = eK E := by
  obtain ⟨a1, a2, a3, a4, a5, a6, a7, a8, a9⟩ := tk1_ok hV hS h60
  have hK8 := hV.1.2.2.2.2.1.2.2.1
  have hA1 : iA (tk1 E l) := fun i hi => by
    rw [a9] at hi
    obtain ⟨q1, q2, q3, q4, q5⟩ := a5 i hi
    refine ⟨q1, fun z => ?_⟩
    rcases q5 with h | h | h | h
    · exact absurd h.1 z
    · exact h.2.1
    · exact h.2.1
    · exact h.2.1
  obtain ⟨c1, c2, c3, c4⟩ := mvC_i (V := tk1 E l) (k := eK E) (j := 0) (by omega) a1 hA1
  obtain ⟨b1, b2, b3⟩ := mvC_V (eK E) 0 (tk1 E l) a1 a2 a3 a4 (fun i hi => by rw [if_neg (by omega)]; exact a5 i (by rw [a9] at hi; exact hi)) (by rw [a9]; omega)
  have eK2 : eK (mvC (tk1 E l) 0 (eK E)) = eK E := by
    show ((mvC (tk1 E l) 0 (eK E)) 0 0 5).toInt.toNat = eK E
    rw [c3 0 0 5 (by decide)]
    exact a9
  refine ⟨c1, b1, fun x hx => ?_, b2, fun i hi => b3 i (by rw [a9]; exact hi), c3, eK2⟩
  have : eL (mvC (tk1 E l) 0 (eK E)) = eL (tk1 E l) := by unfold eL; rw [c3 1 0 1 (by decide)]
  rw [this] at hx
  rw [c3 3 _ _ (by decide)]
  exact a3 x hx
/-- what holds between ticks is kept -/
theorem tkV {E : VV} {l : List (Nat → Int32)} (hV : iV E l) (hS : hS0 E) (h60 : l.length ≤ 60) : iV (tkE E l).1 (tkE E l).2 ∧ hS0 (tkE E l).1 ∧ (tkE E l).2.length ≤ 60 := by
  obtain ⟨a1, a2, a3, a4, a5, a6, a7, a8, a9⟩ := tk1_ok hV hS h60
  obtain ⟨b1, b2, b3, b4, b5, b6, b7⟩ := tk2_ok hV hS h60
  rw [tkE_1]
  exact sA_V (x := E 0 0 9 + 1) (eK E) 0 (mvC (tk1 E l) 0 (eK E)) (mvP E l).1 b1 b2 b3 b4 (fun i hi => by rw [if_neg (by omega)]; exact b5 i (by omega)) (fun r hr => by
    have := a6 r hr
    unfold pkO at this ⊢
    rw [b7]
    exact this) ((b6 0 0 6 (by decide)).trans a7) a8 (by omega)
theorem tkG {E : VV} {l : List (Nat → Int32)} (hI : iG E l) (hS : hS0 E) (h60 : l.length ≤ 60) : iG (tkE E l).1 (tkE E l).2 ∧ hS0 (tkE E l).1 ∧ (tkE E l).2.length ≤ 60 := by
  obtain ⟨h1, h2, h3⟩ := tkV hI.1 hS h60
  exact ⟨tk_iG hI h1, h2, h3⟩
