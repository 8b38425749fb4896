/-! THE DESK OF THE LAW: what holds of it, and what reading calls answer -/
def lF (x : Nat) (m m1 : fm_M) : Prop := (∀ a k, (a < x ∨ x + 661 ≤ a) → m1.1 a k = m.1 a k ∧ m1.2.1 a k = m.2.1 a k) ∧ m1.2.2 = m.2.2
theorem lF_rf {x : Nat} {m : fm_M} : lF x m m := ⟨fun _ _ _ => ⟨rfl, rfl⟩, rfl⟩
theorem lF_tr {x : Nat} {m m1 m2 : fm_M} (h1 : lF x m m1) (h2 : lF x m1 m2) : lF x m m2 := ⟨fun a k h => ⟨((h2.1 a k h).1).trans (h1.1 a k h).1, ((h2.1 a k h).2).trans (h1.1 a k h).2⟩, h2.2.trans h1.2⟩
def DS (x T : Nat) (m : fm_M) (E : VV) (l : List (Nat → Int32)) (n : Nat) (d : Nat → Nat) (sv : Nat → Option (VV × List (Nat → Int32))) : Prop := (∃ s t, cN m x s t E l) ∧ cD m x E n d ∧ cS m x sv ∧ dW E n d ∧ iNM T E ∧ JI (8 * T) E l ∧ iS0 E
/-- which node and which label a place is -/
def spS (w : Int32) : Int32 := if w = -1 then -1 else nn (w.toInt.toNat / 12)
def lbS (w : Int32) : Int32 := if w = -1 then -1 else nn (w.toInt.toNat % 12)
theorem sp_nn {f g : Nat} (hf : f < 10) (hg : g < 12) : spS (nn (f * 12 + g)) = nn f ∧ lbS (nn (f * 12 + g)) = nn g := by
  unfold spS lbS
  rw [if_neg (nn_m1 (by omega)), if_neg (nn_m1 (by omega)), nn_t (by omega), show (((f * 12 + g : Nat) : Int).toNat) = f * 12 + g from rfl]
  exact ⟨congrArg nn (by omega), congrArg nn (by omega)⟩
theorem slR_of {w : Int32} (h : w = -1 ∨ ∃ f g : Nat, f < 10 ∧ g < 12 ∧ w = nn (f * 12 + g)) : slR (spS w) (lbS w) w := by
  rcases h with e | ⟨f, g, hf, hg, e⟩
  · subst e
    exact Or.inl ⟨rfl, if_pos rfl, if_pos rfl⟩
  · subst e
    exact Or.inr ⟨f, g, hf, hg, rfl, (sp_nn hf hg).1, (sp_nn hf hg).2⟩
/-- what is asked of a way -/
def wayE (E : VV) (i c k y : Nat) : Int32 := if k < eW E i c then (if y = 0 then E (11 + 4 * c) i k else if y = 1 then spS (E (13 + 4 * c) i k) else lbS (E (13 + 4 * c) i k)) else -1
section
variable {H : fm_H} {m m1 m2 : fm_M} {T T' x s t n : Nat} {E E' : VV} {l l' : List (Nat → Int32)} {d d' : Nat → Nat} {sv : Nat → Option (VV × List (Nat → Int32))} {n' : Nat}
/-- after a call that changes the state that counts, and nothing else -/
theorem ds_now (hX : kX H x) (hN : cN m x s t E l) (hD : cD m x E n d) (hS : cS m x sv) (hf : fr s (s + 160) m m1) (ha : aS m1 s E' l') (hW : dW E n d) (hl : lkO E E') (hM : iNM T' E') (hJ : JI (8 * T') E' l') (h0 : iS0 E') : DS x T' m1 E' l' n d sv ∧ lF x m m1 := by
  obtain ⟨-, -, q1, q2, q3, q4, q5⟩ := cN_S hX hN
  exact ⟨⟨⟨s, t, hN.1, ((hf.1 x 5 (by omega)).2).trans hN.2.1, ((hf.1 x 6 (by omega)).2).trans hN.2.2.1, ha, sp_ag hN.2.2.2.2 (ag_fr hf (by omega))⟩, cD_lk (cD_k hD (ag_fr hf (by omega))) hW hl, cS_k hS (ag_fr hf (by omega)) (ag_fr hf (by omega)), dW_lk hW hl, hM, hJ, h0⟩, fun a k h => hf.1 a k (by omega), hf.2⟩
/-- after a call that changes finder, spare state and draft -/
theorem ds_fx (hX : kX H x) (hN : cN m x s t E l) (hS : cS m x sv) (hf : ∀ a k, ¬ (x + 4 ≤ a ∧ a < x + 19) → ¬ (t ≤ a ∧ a < t + 160) → m1.1 a k = m.1 a k ∧ m1.2.1 a k = m.2.1 a k) (h2 : m1.2.2 = m.2.2) (hsp : sp m1 t) (hD : cD m1 x E n' d') (hW : dW E n' d') (hM : iNM T E) (hJ : JI (8 * T) E l) (h0 : iS0 E) : DS x T m1 E l n' d' sv ∧ lF x m m1 := by
  obtain ⟨-, -, q1, q2, q3, q4, q5⟩ := cN_S hX hN
  exact ⟨⟨⟨s, t, hN.1, ((hf x 5 (by omega) (by omega)).2).trans hN.2.1, ((hf x 6 (by omega) (by omega)).2).trans hN.2.2.1, aS_ag hN.2.2.2.1 (fun a k z1 z2 => hf a k (by omega) (by omega)), hsp⟩, hD, cS_k hS (fun a k z1 z2 => hf a k (by omega) (by omega)) (fun a k z1 z2 => hf a k (by omega) (by omega)), hW, hM, hJ, h0⟩, fun a k h => hf a k (by omega) (by omega), h2⟩
theorem ds_JB (h : DS x T m E l n d sv) (hT : T ≤ T') : DS x T' m E l n d sv := by
  obtain ⟨a1, a2, a3, a4, a5, a6, a7⟩ := h
  exact ⟨a1, a2, a3, a4, ⟨a5.1, iM_m a5.2 hT⟩, JI_B a6 (by omega), a7⟩
/-- a memory that is the same inside -/
theorem ds_ag (h : DS x T m E l n d sv) (hX : kX H x) (hag : ag x (x + 661) m m1) : DS x T m1 E l n d sv := by
  obtain ⟨⟨s, t, hN⟩, a2, a3, a4, a5, a6, a7⟩ := h
  obtain ⟨-, -, q1, q2, q3, q4, q5⟩ := cN_S hX hN
  have w : ∀ lo hi, x ≤ lo → hi ≤ x + 661 → ag lo hi m m1 := fun lo hi h1 h2 a k z1 z2 => hag a k (by omega) (by omega)
  exact ⟨⟨s, t, hN.1, ((hag x 5 (by omega) (by omega)).2).trans hN.2.1, ((hag x 6 (by omega) (by omega)).2).trans hN.2.2.1, aS_ag hN.2.2.2.1 (w _ _ (by omega) (by omega)), sp_ag hN.2.2.2.2 (w _ _ (by omega) (by omega))⟩, cD_k a2 (w _ _ (by omega) (by omega)), cS_k a3 (w _ _ (by omega) (by omega)) (w _ _ (by omega) (by omega)), a4, a5, a6, a7⟩
/-- calls with answers, and those that throw -/
theorem fL_i {α : Type} {o : Option ((α ⊕ String) × fm_M)} {F : α → Int32} {h : String → Option Int32} {Q : α ⊕ String → fm_M → Prop} {Q' : Int32 → fm_M → Prop} (ho : fE o Q) (g : ∀ r m1, Q r m1 → ∃ v, r = .inl v ∧ Q' (F v) m1) : fE (fl_w H o F h) Q' := by
  obtain ⟨r, m1, e, q⟩ := ho
  obtain ⟨v, rfl, q'⟩ := g r m1 q
  rw [e]
  exact ⟨F v, m1, rfl, q'⟩
theorem fL_e {α : Type} {o : Option ((α ⊕ String) × fm_M)} {F : α → Int32} {h : String → Option Int32} {e : String} {v : Int32} (ho : o = some (.inr e, m)) (h1 : fl_n H m < 1000000) (h2 : 0 ≤ (m.1 (fm_g H) 0).toInt) (hv : h e = some v) : fl_w H o F h = some (v, fl_e H m) := by
  rw [ho]
  show (if fl_n H m < 1000000 ∧ 0 ≤ (m.1 (fm_g H) 0).toInt then (match h e with | some v => some (v, fl_e H m) | none => none) else none) = _
  rw [if_pos ⟨h1, h2⟩, hv]
theorem L_count (hX : kX H x) (h : DS x T m E l n d sv) {y : Nat} (hy : y ≤ 16) : f_L_count H x (nn y) m = some (cntE E n y, m) := by
  obtain ⟨⟨s, t, hN⟩, hD, -, -, -, hJ, -⟩ := h
  unfold f_L_count
  rw [c_count hX hN hD hJ.1 hy]
  rfl
theorem L_node (hX : kX H x) (h : DS x T m E l n d sv) {f y : Nat} (hf : f < eN E) (hy : y ≤ 6) : f_L_node H x (nn f) (nn y) m = some (nodE E f y, m) := by
  obtain ⟨⟨s, t, hN⟩, hD, -, -, -, hJ, -⟩ := h
  unfold f_L_node
  rw [c_node hX hN hJ.1 hf hy]
  rfl
theorem L_label (hX : kX H x) (h : DS x T m E l n d sv) {f g y : Nat} (hf : f < eN E) (hg : g < eZ E f) (hy : y ≤ 3) : (E 5 0 (f * 12 + g) = -1 → f_L_label H x (nn f) (nn g) (nn y) m = some (-1, m)) ∧ ∀ i c k, E 5 0 (f * 12 + g) ≠ -1 → i < eK E → c < 2 → 1 ≤ k → k < eW E i c → E (13 + 4 * c) i k = nn (f * 12 + g) → f_L_label H x (nn f) (nn g) (nn y) m = some (lbE E (f * 12 + g) y i c, m) := by
  obtain ⟨⟨s, t, hN⟩, hD, -, -, -, hJ, -⟩ := h
  obtain ⟨g1, g2⟩ := c_label hX hN hJ.1 hf hg hy
  unfold f_L_label
  refine ⟨fun e => ?_, fun i c k e h1 h2 h3 h4 h5 => ?_⟩
  · rw [g1 e]
    rfl
  · rw [g2 i c k e h1 h2 h3 h4 h5]
    rfl
theorem L_link (hX : kX H x) (h : DS x T m E l n d sv) {j y : Nat} (hj : j < eL E) (hy : y ≤ 6) : f_L_link H x (nn j) (nn y) m = some (lnkE E l j y, m) := by
  obtain ⟨⟨s, t, hN⟩, hD, -, -, -, hJ, -⟩ := h
  unfold f_L_link
  rw [c_link hX hN hJ.1 hj hy]
  rfl
theorem L_circuit (hX : kX H x) (h : DS x T m E l n d sv) {i y : Nat} (hi : i < eK E) (hy : y ≤ 14) : f_L_circuit H x (nn i) (nn y) m = some (cirE E l i y, m) := by
  obtain ⟨⟨s, t, hN⟩, hD, -, -, -, hJ, -⟩ := h
  unfold f_L_circuit
  rw [c_circuit hX hN hJ.1 hi hy]
  rfl
theorem L_draftNode (hX : kX H x) (h : DS x T m E l n d sv) {k : Nat} (hk : k < 100) : f_L_draftNode H x (nn k) m = some (if k < n then nn (d k) else -1, m) := by
  obtain ⟨⟨s, t, hN⟩, hD, -, hW, -, hJ, -⟩ := h
  have na := c_nodeAt (H := H) hX.2.2.2.2.1 (show m.1 (x + 15) 0 = ii n from hD.1) hW.1 (j := (k : Int)) (by omega) (by omega)
  unfold f_L_draftNode f_X11_draftNode f_X11_checkIndex
  rw [if_pos (by rw [nl_0]; exact (nn_le (by omega) (by omega)).mpr (by omega)), fb_x, show H.2.1 x 2 = x + 15 from hX.2.1.2.2.1, nn_ii, na, fb_n]
  by_cases e : k < n
  · rw [if_pos (by omega), if_pos e, show ((k : Int)).toNat = k from rfl, hD.2.1 k e]
    rfl
  · rw [if_neg (by omega), if_neg e]
    rfl
theorem hS0_z (hS : hS0 E) (h0 : iS0 E) {i c k : Nat} (hi : i < eK E) (hc : c < 2) (hk : k < eW E i c) : E (13 + 4 * c) i k = -1 ∨ ∃ f g : Nat, f < 10 ∧ g < 12 ∧ E (13 + 4 * c) i k = nn (f * 12 + g) := by
  by_cases e : k = 0
  · subst e
    exact Or.inl (h0 i c hi hc hk)
  · exact hS i c k hi hc (by omega) hk
theorem L_way46 {w i c : Nat} (hw : kW H w) (hn : m.1 w 0 = ii (eW E i c)) (h6 : eW E i c ≤ 6) (h1 : ∀ k, k < eW E i c → m.1 (w + 1) k = E (11 + 4 * c) i k) (h3 : ∀ k, k < eW E i c → m.1 (w + 3) k = E (13 + 4 * c) i k) (hs : ∀ k, k < eW E i c → E (13 + 4 * c) i k = -1 ∨ ∃ f g : Nat, f < 10 ∧ g < 12 ∧ E (13 + 4 * c) i k = nn (f * 12 + g)) {k y : Nat} (hy : y ≤ 2) (hk : k < 100) : f_X11_way_46 H (nn k) (nn y) w m = some (.inl (wayE E i c k y), m) := by
  unfold f_X11_way_46 wayE
  have h : y = 0 ∨ y = 1 ∨ y = 2 := by omega
  have na := c_nodeAt (H := H) hw hn h6 (j := (k : Int)) (by omega) (by omega)
  have sa := c_slotAt (H := H) hw hn h6 (j := (k : Int)) (by omega) (by omega)
  rw [← nn_ii] at na sa
  by_cases hk2 : k < eW E i c
  · rw [if_pos (by omega), show ((k : Int)).toNat = k from rfl] at na sa
    rw [if_pos hk2]
    obtain ⟨q1, q2⟩ := c_slots (H := H) (m := m) (slR_of (hs k hk2))
    rcases h with h | h | h
    · subst h
      rw [if_pos (show nn 0 = 0 from rfl), na, fb_n, h1 _ hk2, if_pos rfl]
    · subst h
      rw [if_neg (show ¬ nn 1 = 0 by decide), sa, fb_n, if_pos (show nn 1 = 1 from rfl), h3 _ hk2, q1, fb_n]
      rfl
    · subst h
      rw [if_neg (show ¬ nn 2 = 0 by decide), sa, fb_n, if_neg (show ¬ nn 2 = 1 by decide), h3 _ hk2, q2, fb_n]
      rfl
  · rw [if_neg (by omega)] at na sa
    rw [if_neg hk2]
    rcases h with h | h | h
    · subst h
      rw [if_pos (show nn 0 = 0 from rfl), na, fb_n]
    · subst h
      rw [if_neg (show ¬ nn 1 = 0 by decide), sa, fb_n, if_pos (show nn 1 = 1 from rfl)]
      rfl
    · subst h
      rw [if_neg (show ¬ nn 2 = 0 by decide), sa, fb_n, if_neg (show ¬ nn 2 = 1 by decide)]
      rfl
theorem L_way (hX : kX H x) (h : DS x T m E l n d sv) {i c k y : Nat} (hi : i < eK E) (hc : c < 2) (hk : k < 100) (hy : y ≤ 2) : f_L_way H x (nn i) (nn c) (nn k) (nn y) m = some (wayE E i c k y, m) := by
  obtain ⟨⟨s, t, hN⟩, hD, -, hW, -, hJ, h0⟩ := h
  obtain ⟨hS, -⟩ := cN_S hX hN
  obtain ⟨a1, a2, a3, a4, a5, a6⟩ := aS_x hN.2.2.2.1
  have hI := hJ.1
  have hK8 := hI.1.1.2.2.2.2.1.2.2.1
  have hv : 0 ≤ (nn i).toInt ∧ (nn i).toInt < eK E := rgC_n hi (by omega)
  have hw : (0 : Int32) ≤ nn k := by rw [nl_0]; exact (nn_le (by omega) (by omega)).mpr (by omega)
  have h6 : ∀ c, c < 2 → eW E i c ≤ 6 := fun c hc => eW_6 hI.1.1 (by omega) hc
  have hs : ∀ c, c < 2 → ∀ k, k < eW E i c → E (13 + 4 * c) i k = -1 ∨ ∃ f g : Nat, f < 10 ∧ g < 12 ∧ E (13 + 4 * c) i k = nn (f * 12 + g) := fun c hc k hk => hS0_z hJ.2.2.1 h0 hi hc hk
  have e10 : m.1 (m.2.1 (m.2.1 (s + 26) i) 13) 0 = ii (eW E i 0) := ((rd10 (V := cv m s) rfl (i := i) (by omega) 0).trans (a3 10 i 0 (by omega))).trans (hI.1.1.2.2.2.2.2.2.1 i (by omega)).1
  have e14 : m.1 (m.2.1 (m.2.1 (s + 26) i) 14) 0 = ii (eW E i 1) := ((rd14 (V := cv m s) rfl (i := i) (by omega) 0).trans (a3 14 i 0 (by omega))).trans (hI.1.1.2.2.2.2.2.2.2 i (by omega)).1
  have cls : f_X11_way H x (nn i) (nn c) (nn k) (nn y) m = if c = 0 then f_X11_way_46 H (nn k) (nn y) (m.2.1 (m.2.1 (s + 26) i) 13) m else f_X11_way_46 H (nn k) (nn y) (m.2.1 (m.2.1 (s + 26) i) 14) m := by
    unfold f_X11_way f_X11_checkIndex f_X11_checkWhat
    rw [c_ckC hX hN, if_pos hv, fb_x, if_pos hw, fb_x, c_out, fb_n, decide_eq_true (show (0 : Int32) ≤ nn y ∧ nn y ≤ 2 from w_le (g := 2) hy (by omega)), if_pos (by decide), fb_x, hN.2.1, kS_3 hS, kS_z26 hS, show px_inb (nn i) 8 = true from (nn_in (by omega)).mpr (by omega), nn_tn (by omega), pS_cb hS a1 (i := i) (by omega), kW_b (pS_wo hS a1 (i := i) (by omega)), kW_b (pS_wf hS a1 (i := i) (by omega)), fm_is_b hS.1]
    rcases (show c = 0 ∨ c = 1 by omega) with q | q
    · subst q; rfl
    · subst q; rfl
  unfold f_L_way
  rw [cls]
  rcases (show c = 0 ∨ c = 1 by omega) with q | q
  · subst q
    rw [if_pos rfl, L_way46 (E := E) (i := i) (c := 0) (pS_wo hS a1 (i := i) (by omega)) e10 (h6 0 (by omega)) (fun k _ => (rd11 (V := cv m s) rfl (i := i) (by omega) k).trans (a3 11 i k (by omega))) (fun k _ => (rd13 (V := cv m s) rfl (i := i) (by omega) k).trans (a3 13 i k (by omega))) (hs 0 (by omega)) hy hk]
    rfl
  · subst q
    rw [if_neg (by omega), L_way46 (E := E) (i := i) (c := 1) (pS_wf hS a1 (i := i) (by omega)) e14 (h6 1 (by omega)) (fun k _ => (rd15 (V := cv m s) rfl (i := i) (by omega) k).trans (a3 15 i k (by omega))) (fun k _ => (rd17 (V := cv m s) rfl (i := i) (by omega) k).trans (a3 17 i k (by omega))) (hs 1 (by omega)) hy hk]
    rfl
theorem L_movedIn (hX : kX H x) (h : DS x T m E l n d sv) {i : Nat} (hi : i < eK E) : f_L_movedIn H x (nn i) m = some (mu E i, m) := by
  obtain ⟨⟨s, t, hN⟩, hD, -, hW, -, hJ, h0⟩ := h
  obtain ⟨hS, -⟩ := cN_S hX hN
  obtain ⟨a1, a2, a3, a4, a5, a6⟩ := aS_x hN.2.2.2.1
  have hK8 := hJ.1.1.1.2.2.2.2.1.2.2.1
  unfold f_L_movedIn f_X11_movedIn
  rw [c_ckC hX hN, if_pos (rgC_n hi (by omega)), fb_x, hN.2.1, if_pos (fm_is_b hS.1), if_pos (fm_is_b hS.1), kS_3 hS, kS_z26 hS, if_pos ((nn_in (by omega)).mpr (by omega)), nn_tn (by omega), if_pos (pS_cb hS a1 (by omega)), c_ticksUntilMoved hS a1 rfl a2 (by omega), fb_n]
  have e : mu (cv m s) i = mu E i := mu_c (fun k _ => a3 _ _ _ (by omega)) (a3 _ _ _ (by omega)) (fun k => a3 _ _ _ (by omega)) (fun k => a3 _ _ _ (by omega)) (fun j k => a3 _ _ _ (by omega)) (a3 _ _ _ (by omega))
  rw [← e]
  rfl
/-- a mean's bits where nothing came, and where something did there is one -/
theorem L_meanDelay (hX : kX H x) (h : DS x T m E l n d sv) {i : Nat} (hi : i < eK E) (hT : T ≤ 1000000) : ∃ y, f_L_meanDelay H x (nn i) m = some (y, m) ∧ (E 9 i 5 = 0 → y = 13830554455654793216) := by
  obtain ⟨⟨s, t, hN⟩, hD, -, hW, hM, hJ, h0⟩ := h
  obtain ⟨hS, -⟩ := cN_S hX hN
  obtain ⟨a1, a2, a3, a4, a5, a6⟩ := aS_x hN.2.2.2.1
  have hK8 := hJ.1.1.1.2.2.2.2.1.2.2.1
  obtain ⟨τ, t1, t2, t3⟩ := hM.2
  obtain ⟨δ, d1, d2⟩ := t3 i hi
  have hc : f_X11_meanDelay H x (nn i) m = if 0 < nn δ then (if fm_n64 (FP.ddiv (FP.i2d (E 9 i 11)) (FP.i2d (nn δ))) = true then some (.inl (FP.ddiv (FP.i2d (E 9 i 11)) (FP.i2d (nn δ))), m) else none) else some (.inl (13830554455654793216 : UInt64), m) := by
    unfold f_X11_meanDelay
    rw [c_ckC hX hN, if_pos (rgC_n hi (by omega)), fb_x, hN.2.1, if_pos (fm_is_b hS.1), kS_3 hS, kS_z26 hS, if_pos ((nn_in (by omega)).mpr (by omega)), nn_tn (by omega), if_pos (pS_cb hS a1 (by omega)), rd9i hN (by omega), rd9i hN (by omega), d2]
  unfold f_L_meanDelay
  rw [hc, d2]
  by_cases z : δ = 0
  · rw [z, if_neg (by decide)]
    exact ⟨_, rfl, fun _ => rfl⟩
  · have hpos : 0 < nn δ := by rw [nl_0]; exact (nn_lt (by omega) (by omega)).mpr (by omega)
    rw [if_pos hpos, if_pos (n64_ok hpos)]
    exact ⟨_, rfl, fun e => absurd ((nn_eq (by omega) (by omega)).mp (e.trans nl_0)) z⟩
/-- what is reserved to what there is -/
theorem L_usage (hX : kX H x) (h : DS x T m E l n d sv) {R C : Nat} (hC : su (fun k => E 3 k 2) 0 (eL E) = nn C) (hR : su (fun i => rsv E (eK E) (eA E) (eB E) (ii i) (-1)) 0 (eL E) = nn R) (h1 : C < 1000000) (h2 : R < 1000000) : f_X11_usage H x m = some (if C = 0 then FP.fconst0 else FP.fdiv (FP.i2f (nn R)) (FP.i2f (nn C)), m) := by
  obtain ⟨⟨s, t, hN⟩, hD, -, hW, hM, hJ, h0⟩ := h
  obtain ⟨hS, -⟩ := cN_S hX hN
  obtain ⟨a1, a2, a3, a4, a5, a6⟩ := aS_x hN.2.2.2.1
  have hE : er (cv m s) = E := hN.2.2.2.1.2.1
  have eC : su (fun k => cv m s 3 k 2) 0 (eL (cv m s)) = nn C := by
    rw [← hC, ← hE]
    rfl
  have eR : su (fun i => rsv (cv m s) (eK (cv m s)) (eA (cv m s)) (eB (cv m s)) (ii i) (-1)) 0 (eL (cv m s)) = nn R := by
    rw [← hR, ← hE]
    rfl
  have nR := nn_t (a := R) (by omega)
  have nC := nn_t (a := C) (by omega)
  unfold f_X11_usage
  rw [hN.2.1, if_pos (fm_is_b hS.1), kS_0 hS, c_allCapacities hS a1 rfl a2, fb_n, eC]
  by_cases z : C = 0
  · rw [z, if_neg (by decide), if_pos rfl]
  · have hpos : 0 < nn C := by rw [nl_0]; exact (nn_lt (by omega) (by omega)).mpr (by omega)
    rw [if_pos hpos, if_neg z, hN.2.1, if_pos (fm_is_b hS.1), c_reservedOnAll hS a1 rfl a2, fb_n, eR, if_pos (n32_ok (a := nn R) hpos ⟨by omega, by omega⟩ (by omega))]
end
