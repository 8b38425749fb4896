/-! the class opens a circuit along a way -/
theorem it_tf {α : Type} {a b : α} {d : Decidable (true = false)} : @ite α (true = false) d a b = b := if_neg (fun h => Bool.noConfusion h)
theorem it_ff {α : Type} {a b : α} {d : Decidable (false = false)} : @ite α (false = false) d a b = a := if_pos rfl
theorem it_tt {α : Type} {a b : α} {d : Decidable (true = true)} : @ite α (true = true) d a b = a := if_pos rfl
theorem it_ft {α : Type} {a b : α} {d : Decidable (false = true)} : @ite α (false = true) d a b = b := if_neg (fun h => Bool.noConfusion h)
theorem vG_of {V : VV} {N L K P : Nat} (h1 : V 1 0 0 = nn N) (h2 : V 1 0 1 = nn L) (h3 : V 0 0 5 = nn K) (h4 : V 0 0 6 = nn P) (hN : N ≤ 10) (hL : L ≤ 16) (hK : K ≤ 8) (hP : P ≤ 60) (hZ : ∀ i, i < 10 → ∃ z, z ≤ 12 ∧ V 4 0 i = nn z) (hA : ∀ i, i < 8 → ∃ z, z ≤ 6 ∧ V 10 i 0 = nn z) (hB : ∀ i, i < 8 → ∃ z, z ≤ 6 ∧ V 14 i 0 = nn z) : vG V := by
  have t : ∀ {x : Int32} {z : Nat}, x = nn z → z < 1000000 → x.toInt.toNat = z := by
    intro x z e hz
    rw [e, nn_t hz]
    rfl
  have eN' : eN V = N := t h1 (by omega)
  have eL' : eL V = L := t h2 (by omega)
  have eK' : eK V = K := t h3 (by omega)
  have eP' : eP V = P := t h4 (by omega)
  refine ⟨by rw [eN']; exact h1, by rw [eL']; exact h2, by rw [eK']; exact h3, by rw [eP']; exact h4, ⟨by omega, by omega, by omega, by omega⟩, fun i hi => ?_, fun i hi => ?_, fun i hi => ?_⟩
  · obtain ⟨z, z1, z2⟩ := hZ i hi
    have : eZ V i = z := t z2 (by omega)
    exact ⟨by rw [this]; exact z2, by omega⟩
  · obtain ⟨z, z1, z2⟩ := hA i hi
    have : eA V i = z := t z2 (by omega)
    exact ⟨by rw [this]; exact z2, by omega⟩
  · obtain ⟨z, z1, z2⟩ := hB i hi
    have : eB V i = z := t z2 (by omega)
    exact ⟨by rw [this]; exact z2, by omega⟩
theorem vG_Z {V : VV} (h : vG V) : ∀ i, i < 10 → ∃ z, z ≤ 12 ∧ V 4 0 i = nn z := fun i hi => ⟨_, (h.2.2.2.2.2.1 i hi).2, (h.2.2.2.2.2.1 i hi).1⟩
theorem vG_A {V : VV} (h : vG V) : ∀ i, i < 8 → ∃ z, z ≤ 6 ∧ V 10 i 0 = nn z := fun i hi => ⟨_, (h.2.2.2.2.2.2.1 i hi).2, (h.2.2.2.2.2.2.1 i hi).1⟩
theorem vG_B {V : VV} (h : vG V) : ∀ i, i < 8 → ∃ z, z ≤ 6 ∧ V 14 i 0 = nn z := fun i hi => ⟨_, (h.2.2.2.2.2.2.2 i hi).2, (h.2.2.2.2.2.2.2 i hi).1⟩
/-- lengths of ways may change -/
theorem vG_w {V V' : VV} (h : vG V) (h1 : V' 1 0 0 = V 1 0 0) (h2 : V' 1 0 1 = V 1 0 1) (h3 : V' 0 0 5 = V 0 0 5) (h4 : V' 0 0 6 = V 0 0 6) (hZ : ∀ i, V' 4 0 i = V 4 0 i) (hA : ∀ i, V' 10 i 0 = V 10 i 0 ∨ ∃ z, z ≤ 6 ∧ V' 10 i 0 = nn z) (hB : ∀ i, V' 14 i 0 = V 14 i 0 ∨ ∃ z, z ≤ 6 ∧ V' 14 i 0 = nn z) : vG V' := by
  refine vG_of (h1.trans h.1) (h2.trans h.2.1) (h3.trans h.2.2.1) (h4.trans h.2.2.2.1) h.2.2.2.2.1.1 h.2.2.2.2.1.2.1 h.2.2.2.2.1.2.2.1 h.2.2.2.2.1.2.2.2 (fun i hi => ?_) (fun i hi => ?_) (fun i hi => ?_)
  · rw [hZ]
    exact vG_Z h i hi
  · rcases hA i with e | e
    · rw [e]
      exact vG_A h i hi
    · exact e
  · rcases hB i with e | e
    · rw [e]
      exact vG_B h i hi
    · exact e
/-- circuit i begins -/
def bgV (V : VV) (i : Nat) (x y : Int32) : VV := fun kd a k => if kd = 9 ∧ a = i ∧ k < 13 then (if k = 0 then x else if k = 1 then y else if k = 12 then -1 else 0) else if (kd = 10 ∨ kd = 14) ∧ a = i ∧ k = 0 then 0 else V kd a k
theorem bgV_at (V : VV) (i : Nat) (x y : Int32) (kd a k : Nat) : bgV V i x y kd a k = if kd = 9 ∧ a = i ∧ k < 13 then (if k = 0 then x else if k = 1 then y else if k = 12 then -1 else 0) else if (kd = 10 ∨ kd = 14) ∧ a = i ∧ k = 0 then 0 else V kd a k := rfl
theorem bgV_o {V : VV} {i kd a k : Nat} {x y : Int32} (h : ¬ (a = i ∧ 9 ≤ kd ∧ kd ≤ 14)) : bgV V i x y kd a k = V kd a k := by
  rw [bgV_at, if_neg (by omega), if_neg (by omega)]
theorem bgV_e {V : VV} {i : Nat} {x y : Int32} : uV (uV (uV (uV (uV (uV (uV (uV (uV (uV (uV (uV (uV (uV (uV V 9 i 0 x) 9 i 1 y) 9 i 2 0) 9 i 3 0) 9 i 4 0) 9 i 5 0) 9 i 6 0) 9 i 7 0) 9 i 8 0) 9 i 9 0) 9 i 10 0) 9 i 11 0) 9 i 12 (-1)) 10 i 0 0) 14 i 0 0 = bgV V i x y := by
  funext kd a k
  rw [bgV_at]
  simp only [uV_at]
  by_cases ha : a = i
  · subst ha
    by_cases h9 : kd = 9
    · subst h9
      by_cases hk : k < 13
      · rcases (show k = 0 ∨ k = 1 ∨ k = 2 ∨ k = 3 ∨ k = 4 ∨ k = 5 ∨ k = 6 ∨ k = 7 ∨ k = 8 ∨ k = 9 ∨ k = 10 ∨ k = 11 ∨ k = 12 by omega) with h | h | h | h | h | h | h | h | h | h | h | h | h <;> subst h <;> simp
      · simp (disch := omega) only [if_neg]
    · simp (disch := omega) only [if_neg]
      by_cases h10 : kd = 10
      · subst h10
        simp (disch := omega) only [if_neg]
        by_cases hk : k = 0
        · subst hk; simp
        · simp (disch := omega) only [if_neg]
      · by_cases h14 : kd = 14
        · subst h14
          by_cases hk : k = 0
          · subst hk; simp
          · simp (disch := omega) only [if_neg]
        · simp (disch := omega) only [if_neg]
  · simp (disch := omega) only [if_neg]
theorem vG_bg {V : VV} {i : Nat} {x y : Int32} (h : vG V) : vG (bgV V i x y) := by
  refine vG_w h (bgV_o (by omega)) (bgV_o (by omega)) (bgV_o (by omega)) (bgV_o (by omega)) (fun q => bgV_o (by omega)) (fun q => ?_) (fun q => ?_)
  · by_cases e : q = i
    · exact Or.inr ⟨0, by omega, by rw [bgV_at, if_neg (by omega), if_pos (by omega)]; rfl⟩
    · exact Or.inl (bgV_o (by omega))
  · by_cases e : q = i
    · exact Or.inr ⟨0, by omega, by rw [bgV_at, if_neg (by omega), if_pos (by omega)]; rfl⟩
    · exact Or.inl (bgV_o (by omega))
theorem cpV_at (V : VV) (i c : Nat) (n : Int32) (N L : Nat → Int32) (kd a k : Nat) : cpV V i c n N L kd a k = if a = i ∧ kd = 10 + 4 * c ∧ k = 0 then n else if a = i ∧ kd = 11 + 4 * c ∧ k < 6 then N k else if a = i ∧ kd = 12 + 4 * c ∧ k < 6 then L k else if a = i ∧ kd = 13 + 4 * c ∧ k < 6 then -1 else V kd a k := rfl
theorem cpV_o {V : VV} {i c : Nat} {n : Int32} {N L : Nat → Int32} {kd a k : Nat} (h : ¬ (a = i ∧ 10 + 4 * c ≤ kd ∧ kd ≤ 13 + 4 * c)) : cpV V i c n N L kd a k = V kd a k := by
  rw [cpV_at, if_neg (by omega), if_neg (by omega), if_neg (by omega), if_neg (by omega)]
theorem cpV_0 {V : VV} {i c : Nat} {n : Int32} {N L : Nat → Int32} : cpV V i c n N L (10 + 4 * c) i 0 = n := by
  rw [cpV_at, if_pos ⟨rfl, rfl, rfl⟩]
theorem cpV_1 {V : VV} {i c k : Nat} {n : Int32} {N L : Nat → Int32} (h : k < 6) : cpV V i c n N L (11 + 4 * c) i k = N k := by
  rw [cpV_at, if_neg (by omega), if_pos ⟨rfl, rfl, h⟩]
theorem cpV_2 {V : VV} {i c k : Nat} {n : Int32} {N L : Nat → Int32} (h : k < 6) : cpV V i c n N L (12 + 4 * c) i k = L k := by
  rw [cpV_at, if_neg (by omega), if_neg (by omega), if_pos ⟨rfl, rfl, h⟩]
theorem vG_cp {V : VV} {i c n : Nat} {N L : Nat → Int32} (h : vG V) (hc : c < 2) (h6 : n ≤ 6) : vG (cpV V i c (nn n) N L) := by
  refine vG_w h (cpV_o (by omega)) (cpV_o (by omega)) (cpV_o (by omega)) (cpV_o (by omega)) (fun q => cpV_o (by omega)) (fun q => ?_) (fun q => ?_)
  · by_cases e : q = i ∧ c = 0
    · obtain ⟨rfl, rfl⟩ := e
      exact Or.inr ⟨n, h6, cpV_0⟩
    · exact Or.inl (cpV_o (by omega))
  · by_cases e : q = i ∧ c = 1
    · obtain ⟨rfl, rfl⟩ := e
      exact Or.inr ⟨n, h6, cpV_0⟩
    · exact Or.inl (cpV_o (by omega))
/-- before the labels of a new circuit are taken -/
def opB (V : VV) (n : Nat) (N L : Nat → Int32) (x y : Int32) : VV := cpV (bgV V (eK V) x y) (eK V) 0 (nn n) N L
/-- the answer, and what is so then -/
def opV (V : VV) (n : Nat) (N L : Nat → Int32) (x y : Int32) : Int32 × VV := if 8 ≤ eK V then (1, V) else if n < 2 then (3, V) else
  if na (fun k => hr V (eL V) (eK V) (eA V) (eB V) (L k).toInt x (-1)) 1 (n - 1) = false then (5, V) else
  if (tlE (opB V n N L x y) (eK V) 0 1 (n - 1)).1 = false then (6, gvL (tlE (opB V n N L x y) (eK V) 0 1 (n - 1)).2 (eK V) 0 1 (n - 1)) else
  (0, uV (mkL (tlE (opB V n N L x y) (eK V) 0 1 (n - 1)).2 (eK V) 0 1 (n - 1)) 0 0 5 (nn (eK V + 1)))
section
variable {H : fm_H} {s : Nat} {m : fm_M} {V : VV}
theorem c_begin (hS : kS H s) (hp : pS m s) {m0 : fm_M} (h0 : mI s m m0 V) {i : Nat} (hi : i < 8) (x y : Int32) : fE (f_X0_begin H (m.2.1 (s + 26) i) x y m0) (fun _ m' => mI s m m' (bgV V i x y)) := by
  unfold f_X0_begin
  refine fE_put h0 9 i 0 (v9 hi) rfl (fun m1 h1 => ?_)
  refine fE_put h1 9 i 1 (v9 hi) rfl (fun m2 h2 => ?_)
  refine fE_put h2 9 i 2 (v9 hi) rfl (fun m3 h3 => ?_)
  refine fE_put h3 9 i 3 (v9 hi) rfl (fun m4 h4 => ?_)
  refine fE_put h4 9 i 4 (v9 hi) rfl (fun m5 h5 => ?_)
  refine fE_put h5 9 i 5 (v9 hi) rfl (fun m6 h6 => ?_)
  refine fE_put h6 9 i 6 (v9 hi) rfl (fun m7 h7 => ?_)
  refine fE_put h7 9 i 7 (v9 hi) rfl (fun m8 h8 => ?_)
  refine fE_put h8 9 i 8 (v9 hi) rfl (fun m9 h9 => ?_)
  refine fE_put h9 9 i 9 (v9 hi) rfl (fun m10 h10 => ?_)
  refine fE_put h10 9 i 10 (v9 hi) rfl (fun m11 h11 => ?_)
  refine fE_put h11 9 i 11 (v9 hi) rfl (fun m12 h12 => ?_)
  refine fE_put h12 9 i 12 (v9 hi) rfl (fun m13 h13 => ?_)
  unfold f_X10_erase
  rw [h13.2.2.2]
  refine fE_p (kW_b (pS_wo hS hp hi)) ?_
  have h14 := mI_u h13 10 i 0 (x := (0 : Int32)) (v10 hi) rfl
  refine fE_bn (x := ()) (m1 := fm_si m13 (m.2.1 (m.2.1 (s + 26) i) 13) 0 0) (by rw [fb_d]) ?_
  have e14 := h14.2.2.2
  rw [ad_10] at e14
  rw [e14]
  refine fE_p (kW_b (pS_wf hS hp hi)) ?_
  have h15 := mI_u h14 14 i 0 (x := (0 : Int32)) (v14 hi) rfl
  refine fE_bn (x := ()) (m1 := fm_si (fm_si m13 (m.2.1 (m.2.1 (s + 26) i) 13) 0 0) (m.2.1 (m.2.1 (s + 26) i) 14) 0 0) (by rw [fb_d]) ?_
  refine fE_ret ?_
  rw [← bgV_e]
  exact h15
theorem fr_o {lo hi : Nat} {m m' : fm_M} (h : fr lo hi m m') {a : Nat} (ha : a < lo ∨ hi ≤ a) (k : Nat) : m'.1 a k = m.1 a k := (h.1 a k ha).1
/-- what lies outside of a state may be read later -/
theorem fr_w {lo hi : Nat} {m m' : fm_M} (h : fr lo hi m m') {a : Nat} (ha : a < lo ∨ hi ≤ a) : m'.1 a = m.1 a := funext fun k => (h.1 a k ha).1
theorem c_openAlong (hS : kS H s) (hp : pS m s) (hV : cv m s = V) (hG : vG V) {w n : Nat} (hw : kW H w) (hd : w + 4 ≤ s ∨ s + 160 ≤ w) (hn : m.1 w 0 = nn n) (h6 : n ≤ 6) (hnd : ∀ k, k < n → ∃ x, x < 10 ∧ m.1 (w + 1) k = nn x) {br : Nat} (hb : V 0 0 7 = nn br) (hbr : br < 1000) (x y : Int32) : fE (f_X7_openAlong H s w x y m) (fun r m' => r = (opV V n (m.1 (w + 1)) (m.1 (w + 2)) x y).1 ∧ mI s m m' (opV V n (m.1 (w + 1)) (m.1 (w + 2)) x y).2) := by
  have hK : V 0 0 5 = nn (eK V) := hG.2.2.1
  have hK8 : eK V ≤ 8 := hG.2.2.2.2.1.2.2.1
  have z0 := mI_rf hp hV
  unfold f_X7_openAlong opV
  rw [rd0 hV, hK, hn, nl_8, nl_2]
  by_cases e1 : 8 ≤ eK V
  · rw [if_neg (by rw [nn_lt (by omega) (by omega)]; omega), if_pos e1]
    exact fE_ret ⟨rfl, z0⟩
  · rw [if_pos (by rw [nn_lt (by omega) (by omega)]; omega), if_neg e1]
    by_cases e2 : n < 2
    · rw [if_neg (by rw [nn_le (by omega) (by omega)]; omega), if_pos e2]
      exact fE_ret ⟨rfl, z0⟩
    · rw [if_pos (by rw [nn_le (by omega) (by omega)]; omega), if_neg e2]
      refine fE_bn (c_hasRoomAlong hS hp hV hG hw hn h6 x (-1)) ?_
      cases e3 : na (fun k => hr V (eL V) (eK V) (eA V) (eB V) (m.1 (w + 2) k).toInt x (-1)) 1 (n - 1) with
      | false =>
        refine fE_p (by decide) (fE_ret ?_)
        rw [it_ff]
        exact ⟨rfl, z0⟩
      | true =>
        refine fE_n (by decide) ?_
        rw [it_tf, kS_3 hS, kS_z26 hS, rd0 hV, hK, nn_tn (by omega)]
        refine fE_p ((nn_in (by omega)).mpr (by omega)) (fE_p (pS_cb hS hp (by omega)) ?_)
        refine fE_be (c_begin hS hp z0 (i := eK V) (by omega) x y) (fun _ m2 h2 => ?_)
        rw [h2.2.2.2]
        refine fE_p (kW_b (pS_wo hS hp (by omega))) ?_
        have hwa : kW H (wA m s (10 + 4 * 0) (eK V)) := wA_k hS hp (by omega)
        have hr1 := wA_d (m := m) (s := s) (b := 10 + 4 * 0) (c := eK V) (j := 0) (Or.inl rfl) (by omega) (by omega)
        have hr2 := wA_d (m := m) (s := s) (b := 10 + 4 * 0) (c := eK V) (j := 3) (Or.inl rfl) (by omega) (by omega)
        have a1 := ad_r hp hr1.2
        have a2 := ad_r hp hr2.2
        rw [hr1.1] at a1
        rw [hr2.1] at a2
        have q := c_copyNodes (m := m2) hwa hw (by omega)
        have ew : ∀ j, j < 4 → m2.1 (w + j) = m.1 (w + j) := fun j hj => fr_w h2.2.2.1 (by omega)
        have h3 := mI_cp hp h2 (i := eK V) (c := 0) (w1 := w) (by omega) (by omega)
        rw [show m2.1 w 0 = nn n from by rw [show m2.1 w = m.1 w from ew 0 (by omega), hn], ew 1 (by omega), ew 2 (by omega)] at h3
        refine fE_bn q ?_
        generalize hm3 : cpj m2 (wA m s (10 + 4 * 0) (eK V)) w 6 = m3 at h3
        rw [h3.2.2.2]
        refine fE_p (kW_b (pS_wo hS hp (by omega))) ?_
        change mI s m m3 (opB V n (m.1 (w + 1)) (m.1 (w + 2)) x y) at h3
        have hGB : vG (opB V n (m.1 (w + 1)) (m.1 (w + 2)) x y) := vG_cp (vG_bg hG) (by omega) h6
        have e5 : m3.1 s 5 = nn (eK V) := by
          rw [mI_0 h3]
          exact ((cpV_o (by omega)).trans (bgV_o (by omega))).trans hK
        rw [e5]
        have hE0 : (opB V n (m.1 (w + 1)) (m.1 (w + 2)) x y) (10 + 4 * 0) (eK V) 0 = nn n := cpV_0
        refine fE_be (Q1 := fun r m' => (r = 1 ∧ (tlE (opB V n (m.1 (w + 1)) (m.1 (w + 2)) x y) (eK V) 0 1 (n - 1)).1 = true ∧ mI s m m' (tlE (opB V n (m.1 (w + 1)) (m.1 (w + 2)) x y) (eK V) 0 1 (n - 1)).2) ∨ (r = 0 ∧ (tlE (opB V n (m.1 (w + 1)) (m.1 (w + 2)) x y) (eK V) 0 1 (n - 1)).1 = false ∧ mI s m m' (gvL (tlE (opB V n (m.1 (w + 1)) (m.1 (w + 2)) x y) (eK V) 0 1 (n - 1)).2 (eK V) 0 1 (n - 1)))) (c_takeLabels hS hp h3 hGB (i := eK V) (c := 0) (n := n) (br := br) (by omega) (by omega) (((cpV_o (by omega)).trans (bgV_o (by omega))).trans hb) hbr hE0 h6 (fun k hk => ?_) (fun m' h1 h2 => Or.inl ⟨rfl, h1, h2⟩) (fun m' h1 h2 => Or.inr ⟨rfl, h1, h2⟩)) (fun r m4 h4 => ?_)
        · obtain ⟨z, z1, z2⟩ := hnd k hk
          exact ⟨z, z1, (cpV_1 (by omega)).trans z2⟩
        · rcases h4 with ⟨rfl, t1, h4⟩ | ⟨rfl, t1, h4⟩
          · rw [if_neg (by decide), h4.2.2.2, t1, it_tf]
            refine fE_p (kW_b (pS_wo hS hp (by omega))) ?_
            have eT : ∀ {j} {E : VV}, (tlE E (eK V) 0 1 j).2 (10 + 4 * 0) (eK V) 0 = E (10 + 4 * 0) (eK V) 0 ∧ (tlE E (eK V) 0 1 j).2 0 0 5 = E 0 0 5 := by
              intro j
              generalize 1 = a
              induction j generalizing a with
              | zero => exact ⟨rfl, rfl⟩
              | succ j ih =>
                intro E
                rw [tlE_S]
                split
                · exact ⟨rfl, rfl⟩
                · exact ⟨(ih _).1.trans (taE_o (by decide) (by decide) (by decide) (by omega)), (ih _).2.trans (taE_o (by decide) (by decide) (by decide) (by omega))⟩
            refine fE_be (c_makeEntries hS hp h4 (i := eK V) (c := 0) (n := n) (by omega) (by omega) (eT.1.trans hE0) h6) (fun _ m5 h5 => ?_)
            have eM : ∀ {j a} {E : VV}, mkL E (eK V) 0 a j 0 0 5 = E 0 0 5 := by
              intro j
              induction j with
              | zero => exact rfl
              | succ j ih =>
                intro a E
                exact ih.trans (mkE_o (by decide))
            have e6 : m5.1 s 5 = nn (eK V) := by
              rw [mI_0 h5, eM, eT.2]
              exact ((cpV_o (by omega)).trans (bgV_o (by omega))).trans hK
            rw [e6, nn_inc]
            exact fE_put h5 0 0 5 rfl rfl (fun m6 h6 => fE_ret ⟨rfl, h6⟩)
          · rw [if_pos rfl, t1, it_ff]
            exact fE_ret ⟨rfl, h4⟩
end
