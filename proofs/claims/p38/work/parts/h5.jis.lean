/-! ALL THAT IS KEPT, and by what -/
def JI (B : Nat) (E : VV) (l : List (Nat → Int32)) : Prop := iG E l ∧ l.length ≤ 60 ∧ hS0 E ∧ iK3 E l ∧ CN E l B ∧ iR E
theorem JI_tk {B : Nat} {E : VV} {l : List (Nat → Int32)} (h : JI B E l) : JI (B + 8) (tkE E l).1 (tkE E l).2 := by
  obtain ⟨h1, h2, h3, h4, h5, h6⟩ := h
  obtain ⟨g1, g2, g3⟩ := tkG h1 h3 h2
  exact ⟨g1, g3, g2, iK3_tk h1.1 h3 h2 h4, CN_tk h1.1 h3 h2 h5, iR_tk h6⟩
theorem JI_B {B B' : Nat} {E : VV} {l : List (Nat → Int32)} (h : JI B E l) (hB : B ≤ B') : JI B' E l := ⟨h.1, h.2.1, h.2.2.1, h.2.2.2.1, CN_B h.2.2.2.2.1 hB, h.2.2.2.2.2⟩
theorem JI_tkM : ∀ {n B : Nat} {E : VV} {l : List (Nat → Int32)}, JI B E l → JI (B + 8 * n) (tkM E l n).1 (tkM E l n).2 := by
  intro n
  induction n with
  | zero => exact fun h => h
  | succ n ih =>
    intro B E l h
    have := ih (JI_tk h)
    rw [show B + 8 + 8 * n = B + 8 * (n + 1) by omega] at this
    exact this
theorem SF_tkM : ∀ {n B : Nat} {E : VV} {l : List (Nat → Int32)}, JI B E l → SF E l → SF (tkM E l n).1 (tkM E l n).2 ∧ (tkM E l n).1 8 0 2 = E 8 0 2 := by
  intro n
  induction n with
  | zero => exact fun _ h => ⟨h, rfl⟩
  | succ n ih =>
    intro B E l h hs
    obtain ⟨g1, g2⟩ := SF_tk h.1.1 h.2.2.1 h.2.1 hs
    obtain ⟨k1, k2⟩ := ih (JI_tk h) g1
    exact ⟨k1, k2.trans g2⟩
/-! the same in all that counts -/
section
variable {E E' : VV} {l : List (Nat → Int32)} {B : Nat}
theorem sm_kC (h : smE E E') {i c : Nat} (hi : i < eK E) (hc : c < 2) : kC E E' i c := ⟨sm_L h, fun j hj => sm_3 h hj (by omega), sm_W h hi hc, fun k hk => ⟨sm_11 h hi hc hk, sm_12 h hi hc hk⟩⟩
theorem sm_PKF (h : smE E E') {e : Nat → Nat} {r : Nat → Int32} (hp : PKF e E r) : PKF e E' r := by
  obtain ⟨i, c, k, u, a1, a2, a3, a4, a5, a6, a7, a8, a9, a10, a11, a12, a13, a14, a15⟩ := hp
  refine PKF_g (e := e) (by rw [sm_K h]; exact a1) a2 a3 a4 a5 a6 a7 a8 a9 a10 a11 a12 (sm_kC h a1 a2) (sm_13 h a1 a2 a4) (Nat.le_refl _) (by rw [sm_9 h a1 (by omega)]; exact a13) (by rw [sm_9 h a1 (by omega)]; exact a14) ?_
  rw [sm_9 h a1 (by omega), sm_9 h a1 (by omega)]
  exact a15
theorem sm_MD (h : smE E E') (hX : iX E) {i : Nat} (hi : i < eK E) (hm : MD E i) : MD E' i := by
  obtain ⟨m1, m2, m3⟩ := hm
  have h7 : ∀ c k t, c < 2 → 1 ≤ k → k < eW E i c → t < 120 → E (13 + 4 * c) i k = nn t → E' 7 0 t = E 7 0 t := fun c k t c1 k1 k2 t1 e => (h.2.2.2.2.2.2.1 t t1 (hX.1.1 i c k t hi c1 k1 k2 t1 e).2.2).2
  refine ⟨fun z k t b1 b2 b3 b4 => ?_, fun z k t b1 b2 b3 b4 => ?_, fun z u k t b0 b1 b2 b3 b4 b5 => ?_⟩
  · rw [sm_A h hi] at b2
    have e : E 13 i k = nn t := (sm_13 h hi (c := 0) (by omega) (show k < eW E i 0 from b2)).symm.trans b4
    rw [sm_9 h hi (by omega)] at z
    rw [h7 0 k t (by omega) b1 b2 b3 e]
    exact m1 z k t b1 b2 b3 e
  · rw [sm_Bn h hi] at b2
    have e : E 17 i k = nn t := (sm_13 h hi (c := 1) (by omega) (show k < eW E i 1 from b2)).symm.trans b4
    rw [sm_9 h hi (by omega)] at z
    rw [h7 1 k t (by omega) b1 b2 b3 e]
    exact m2 z k t b1 b2 b3 e
  · rw [sm_Bn h hi] at b3
    have e : E 17 i k = nn t := (sm_13 h hi (c := 1) (by omega) (show k < eW E i 1 from b3)).symm.trans b5
    rw [sm_9 h hi (by omega)] at z b0
    rw [h7 1 k t (by omega) (by omega) b3 b4 e]
    exact m3 z u k t b0 b1 b2 b3 b4 e
theorem sm_SF (h : smE E E') (hX : iX E) (hs : SF E l) : SF E' l := ⟨fun j hj => by
    rw [sm_L h] at hj
    rw [sm_3 h hj (by omega)]
    exact hs.1 j hj, fun i hi => by
    rw [sm_K h] at hi
    exact sm_MD h hX hi (hs.2.1 i hi), fun r hr => sm_PKF h (hs.2.2 r hr)⟩
theorem sm_JI (h : smE E E') (hG' : vG E') (hJ : JI B E l) : JI B E' l := by
  obtain ⟨h1, h2, h3, h4, h5, h6⟩ := hJ
  refine ⟨sm_iG h hG' h1, h2, fun i c k a1 a2 a3 a4 => ?_, fun r hr => by rw [sm_L h]; exact h4 r hr, ?_, ?_⟩
  · rw [sm_K h] at a1
    rw [sm_W h a1 a2] at a4
    rw [sm_13 h a1 a2 a4]
    exact h3 i c k a1 a2 a3 a4
  · refine CN_eq h5 (sm_K h) (fun a w ha hw => sm_9 h ha (by omega)) (fun w hw => h.2.2.2.2.2.2.2.1 _ ?_) (fun _ _ => rfl)
    rcases tw_4 hw with ⟨q1, q2⟩ | ⟨q1, q2⟩ | ⟨q1, q2⟩ | ⟨q1, q2⟩ <;> omega
  · exact iR_sub h6 (sm_K h) (sm_L h) (fun j hj => sm_3 h hj (by omega)) (fun i hi => sm_9 h hi (by omega)) (fun i j hi _ => us_c (fun c hc => sm_W h hi hc) (fun c k hc hk => sm_12 h hi hc hk))
end
/-! labels that are taken -/
theorem tl_F {E0 : VV} {i c n : Nat} (hnd : ∀ k, k < n → ∃ v, v < 10 ∧ E0 (11 + 4 * c) i k = nn v) : ∀ (k j : Nat) (E : VV), tF E0 E i c j → vG E → 1 ≤ j → j + k = n → ((tlE E i c j k).1 = true → tF E0 (tlE E i c j k).2 i c n) ∧ ((tlE E i c j k).1 = false → ∃ j', j' ≤ n ∧ tF E0 (tlE E i c j k).2 i c j') := by
  intro k
  induction k with
  | zero =>
    intro j E h _ _ hj
    have e : j = n := by omega
    subst e
    exact ⟨fun _ => h, fun z => by cases z⟩
  | succ k ih =>
    intro j E h hG h1 hj
    rw [tlE_S]
    obtain ⟨v, v1, v2⟩ := hnd j (by omega)
    have e11 : E (11 + 4 * c) i j = nn v := (h.1 _ _ _ (by omega) (by omega) (by omega) (by omega)).trans v2
    have en : ndE E i c j = v := by
      unfold ndE
      rw [e11, nn_t (by omega), Int.toNat_natCast]
    rw [en]
    by_cases z : tkI E v = -1
    · rw [if_pos z]
      exact ⟨(fun q => by cases q), fun _ => ⟨j, by omega, h⟩⟩
    · rw [if_neg z]
      obtain ⟨t1, t2, t3, t4⟩ := tkI_f v1 hG z
      have hn := tF_s h h1 (t := (tkI E v).toNat) (by omega) t3 e11 v1 t4
      exact ih (j + 1) _ hn (tF_G hn (by
        have := h
        exact vG_sm ⟨(this.1 _ _ _ (by omega) (by omega) (by omega) (by omega)).symm, (this.1 _ _ _ (by omega) (by omega) (by omega) (by omega)).symm, (this.1 _ _ _ (by omega) (by omega) (by omega) (by omega)).symm, (this.1 _ _ _ (by omega) (by omega) (by omega) (by omega)).symm, fun _ => (this.1 _ _ _ (by omega) (by omega) (by omega) (by omega)).symm, fun _ => (this.1 _ _ _ (by omega) (by omega) (by omega) (by omega)).symm, fun _ => (this.1 _ _ _ (by omega) (by omega) (by omega) (by omega)).symm⟩ hG)) (by omega) (by omega)
/-! OPENING -/
section
variable {E : VV} {l : List (Nat → Int32)} {B n : Nat} {d : Nat → Nat} {N L : Nat → Int32} {x y : Int32}
theorem op_0 (hI : iG E l) (hd : dW E n d) (hN : ∀ k, k < n → N k = nn (d k)) (hL : ∀ k, 1 ≤ k → k < n → L k = ii (lkE E (nn (d (k - 1))) (nn (d k)))) (h0 : (opV E n N L x y).1 = 0) :
    ∃ E0 E1, opE0 E E0 n d x y ∧ tF E0 E1 (eK E) 0 n ∧ eK E < 8 ∧ 2 ≤ n ∧ (opV E n N L x y).2 = opE2 E1 (eK E) n ∧ ∀ k, 1 ≤ k → k < n → hr E (eL E) (eK E) (eA E) (eB E) (L k).toInt x (-1) = true := by
  have hG := hI.1.1
  have hN10 := hG.2.2.2.2.1.1
  revert h0
  unfold opV
  by_cases c1 : 8 ≤ eK E
  · rw [if_pos c1]
    intro z
    exact absurd z (show ¬ ((1 : Int32) = 0) by decide)
  · rw [if_neg c1]
    by_cases c2 : n < 2
    · rw [if_pos c2]
      intro z
      exact absurd z (show ¬ ((3 : Int32) = 0) by decide)
    · rw [if_neg c2]
      cases c3 : na (fun k => hr E (eL E) (eK E) (eA E) (eB E) (L k).toInt x (-1)) 1 (n - 1) with
      | false =>
        rw [if_pos rfl]
        intro z
        exact absurd z (show ¬ ((5 : Int32) = 0) by decide)
      | true =>
        rw [if_neg (by decide)]
        have oB : ∀ kd a k, ¬ (a = eK E ∧ 9 ≤ kd ∧ kd ≤ 17) → opB E n N L x y kd a k = E kd a k := fun kd a k h => (cpV_o (by omega)).trans (bgV_o (by omega))
        have hop : opE0 E (opB E n N L x y) n d x y := by
          refine ⟨oB, cpV_0, ?_, fun k hk => ?_, fun k hk => (cpV_1 (by have := hd.1; omega)).trans (hN k hk), fun k k1 k2 => (cpV_2 (by have := hd.1; omega)).trans (hL k k1 k2)⟩
          · refine (cpV_o (by omega)).trans ?_
            rw [bgV_at, if_neg (by omega), if_pos (by omega)]
          · refine (cpV_o (by omega)).trans ?_
            rw [bgV_at, if_pos ⟨rfl, rfl, hk⟩]
            rfl
        have hF := tl_F (E0 := opB E n N L x y) (i := eK E) (c := 0) (n := n) (fun k hk => ⟨d k, Nat.lt_of_lt_of_le (hd.2.1 k hk) hN10, hop.2.2.2.2.1 k hk⟩) (n - 1) 1 _ (tF_0 (by omega)) (vG_cp (vG_bg hG) (by omega) hd.1) (by omega) (by omega)
        cases c4 : (tlE (opB E n N L x y) (eK E) 0 1 (n - 1)).1 with
        | false =>
          rw [if_pos rfl]
          intro z
          exact absurd z (show ¬ ((6 : Int32) = 0) by decide)
        | true =>
          rw [if_neg (by decide)]
          intro _
          exact ⟨_, _, hop, hF.1 c4, by omega, by omega, rfl, fun k k1 k2 => na_iff.mp c3 k k1 (by omega)⟩
theorem op_no (hI : iG E l) (hd : dW E n d) (hN : ∀ k, k < n → N k = nn (d k)) (h0 : (opV E n N L x y).1 ≠ 0) : smE E (opV E n N L x y).2 ∧ vG (opV E n N L x y).2 := by
  have hG := hI.1.1
  have hN10 := hG.2.2.2.2.1.1
  refine ⟨?_, (op_G hG hd.1).1⟩
  have rf : smE E E := ⟨fun _ _ _ => rfl, fun _ _ => rfl, fun _ _ => rfl, fun _ _ _ _ => rfl, fun _ _ => rfl, fun _ _ => rfl, fun _ _ _ => ⟨rfl, rfl⟩, fun _ _ => rfl, fun _ _ _ _ => rfl, fun _ _ _ _ => ⟨rfl, fun _ _ _ _ _ => rfl⟩⟩
  revert h0
  unfold opV
  by_cases c1 : 8 ≤ eK E
  · rw [if_pos c1]
    exact fun _ => rf
  · rw [if_neg c1]
    by_cases c2 : n < 2
    · rw [if_pos c2]
      exact fun _ => rf
    · rw [if_neg c2]
      cases c3 : na (fun k => hr E (eL E) (eK E) (eA E) (eB E) (L k).toInt x (-1)) 1 (n - 1) with
      | false =>
        rw [if_pos rfl]
        exact fun _ => rf
      | true =>
        rw [if_neg (by decide)]
        have hF := tl_F (E0 := opB E n N L x y) (i := eK E) (c := 0) (n := n) (fun k hk => ⟨d k, Nat.lt_of_lt_of_le (hd.2.1 k hk) hN10, (cpV_1 (by have := hd.1; omega)).trans (hN k hk)⟩) (n - 1) 1 _ (tF_0 (by omega)) (vG_cp (vG_bg hG) (by omega) hd.1) (by omega) (by omega)
        cases c4 : (tlE (opB E n N L x y) (eK E) 0 1 (n - 1)).1 with
        | false =>
          rw [if_pos rfl]
          intro _
          obtain ⟨j', j1, j2⟩ := hF.2 c4
          exact (op_smE hI (by omega) hd.1 j2 j1).1
        | true =>
          rw [if_neg (by decide)]
          intro z
          exact absurd rfl z
/-- what a new circuit leaves as it is -/
theorem op_fr {E0 E1 : VV} (h0 : opE0 E E0 n d x y) (ht : tF E0 E1 (eK E) 0 n) {kd a k : Nat} (h5 : kd ≠ 5) (h6 : kd ≠ 6) (h7 : kd ≠ 7) (h : ¬ (a = eK E ∧ 9 ≤ kd ∧ kd ≤ 17)) (hk : ¬ (kd = 0 ∧ k = 5)) : opE2 E1 (eK E) n kd a k = E kd a k := by
  unfold opE2
  rw [uV_at, if_neg (by omega), mkL_o h7, ht.1 _ _ _ h5 h6 h7 (by omega), h0.1 _ _ _ h]
theorem op_JI {E0 E1 : VV} (hJ : JI B E l) (hd : dW E n d) (h0 : opE0 E E0 n d x y) (ht : tF E0 E1 (eK E) 0 n) (hK : eK E < 8) (h2 : 2 ≤ n) (hx : ∃ b, b ≤ 20 ∧ x = nn b) (hL : ∀ k, 1 ≤ k → k < n → L k = ii (lkE E (nn (d (k - 1))) (nn (d k)))) (hh : ∀ k, 1 ≤ k → k < n → hr E (eL E) (eK E) (eA E) (eB E) (L k).toInt x (-1) = true) :
    JI B (opE2 E1 (eK E) n) l ∧ eK (opE2 E1 (eK E) n) = eK E + 1 ∧ (∀ k, k < 13 → opE2 E1 (eK E) n 9 (eK E) k = bg9 x y k) ∧ (SF E l → SF (opE2 E1 (eK E) n) l) := by
  obtain ⟨h1, h60, h3, h4, h5, h6⟩ := hJ
  have hX := h1.1.2.1
  obtain ⟨p1, -⟩ := opn_ok h1 hK h0 hd h2 ht hx
  have fr := fun {kd a k : Nat} => op_fr (E := E) (n := n) (d := d) (x := x) (y := y) h0 ht (kd := kd) (a := a) (k := k)
  obtain ⟨E', hE'⟩ : ∃ E', E' = opE2 E1 (eK E) n := ⟨_, rfl⟩
  rw [← hE'] at p1 fr ⊢
  have nK : eK E' = eK E + 1 := by rw [hE']; exact eK_nn uV_s (by omega)
  have nL : eL E' = eL E := by unfold eL; rw [fr (by omega) (by omega) (by omega) (by omega) (by omega)]
  have rw9 : ∀ a kd k, a < eK E → 9 ≤ kd → kd ≤ 17 → E' kd a k = E kd a k := fun a kd k h z1 z2 => fr (by omega) (by omega) (by omega) (by omega) (by omega)
  have wW : ∀ a c, a < eK E → c < 2 → eW E' a c = eW E a c := fun a c h hc => by
    unfold eW eA eB
    rw [rw9 a 10 0 h (by omega) (by omega), rw9 a 14 0 h (by omega) (by omega)]
  have own : ∀ kd k, 9 ≤ kd → kd ≤ 17 → kd ≠ 13 → E' kd (eK E) k = E0 kd (eK E) k := fun kd k z1 z2 z3 => by
    rw [hE']
    unfold opE2
    rw [uV_k (by omega), mkL_o (by omega), ht.1 _ _ _ (by omega) (by omega) (by omega) (by omega)]
  have k9 : ∀ k, k < 13 → E' 9 (eK E) k = bg9 x y k := fun k hk => (own 9 k (by omega) (by omega) (by omega)).trans (h0.2.2.2.1 k hk)
  have wA : eA E' (eK E) = n := eW_0 ((own 10 0 (by omega) (by omega) (by omega)).trans h0.2.1) hd.1
  have wB : eB E' (eK E) = 0 := by
    unfold eB
    rw [own 14 0 (by omega) (by omega) (by omega), h0.2.2.1]
    rfl
  have s13 : ∀ k, 1 ≤ k → k < n → ∃ t, t < 120 ∧ E' 13 (eK E) k = nn t := fun k k1 k2 => by
    obtain ⟨t, t1, t2, -⟩ := ht.2.2.2.1 k k1 k2
    refine ⟨t, t1, ?_⟩
    rw [hE']
    unfold opE2
    rw [uV_k (by omega), mkL_o (by omega)]
    exact t2
  have hK8 : eK E ≤ 8 := by omega
  have hL16 := h1.1.1.2.2.2.2.1.2.1
  have lk12 : ∀ k, 1 ≤ k → k < n → E' 12 (eK E) k = L k := fun k k1 k2 => ((own 12 k (by omega) (by omega) (by omega)).trans (h0.2.2.2.2.2 k k1 k2)).trans (hL k k1 k2).symm
  refine ⟨⟨p1, h60, fun i c k a1 a2 a3 a4 => ?_, fun r hr => by rw [nL]; exact h4 r hr, ?_, ?_⟩, nK, k9, fun hs => ?_⟩
  · by_cases e : i = eK E
    · subst e
      rcases (show c = 0 ∨ c = 1 by omega) with z | z
      · subst z
        have : eW E' (eK E) 0 = n := wA
        rw [this] at a4
        obtain ⟨t, t1, t2⟩ := s13 k a3 a4
        exact Or.inr ⟨t / 12, t % 12, by omega, by omega, by rw [show t / 12 * 12 + t % 12 = t by omega]; exact t2⟩
      · subst z
        have : eW E' (eK E) 1 = 0 := wB
        omega
    · have ha : i < eK E := by omega
      rw [wW i c ha a2] at a4
      rw [rw9 i _ k ha (by omega) (by omega)]
      exact h3 i c k ha a2 a3 a4
  · obtain ⟨p, q, g1, g2, g3, g4, g5, g6⟩ := h5
    have s : ∀ w, sn (fun i => if i = eK E then 0 else p i w) 0 (eK E + 1) = sn (fun i => p i w) 0 (eK E) := fun w => by
      rw [sn_ap (n := eK E) (k := 1), sn_z (a := 0 + eK E) (n := 1) (fun i z1 z2 => if_pos (by omega)), sn_c (g := fun i => p i w) (fun i z1 z2 => if_neg (by omega))]
      omega
    refine ⟨fun i w => if i = eK E then 0 else p i w, q, fun a w ha hw => ?_, fun a ha => ?_, fun w hw => ?_, g4, g5, by rw [nK, s]; exact g6⟩
    · dsimp only
      by_cases e : a = eK E
      · rw [if_pos e, e, k9 _ (by omega)]
        unfold bg9
        rw [if_neg (by omega), if_neg (by omega), if_neg (by omega)]
        exact nl_0
      · rw [if_neg e, rw9 a 9 _ (by omega) (by omega) (by omega)]
        exact g1 a w (by omega) hw
    · dsimp only
      by_cases e : a = eK E
      · have c0 : cPk a l = 0 := by
          unfold cPk
          rw [List.countP_eq_zero]
          intro r hr z
          obtain ⟨⟨i, i1, i2⟩, -⟩ := h1.1.2.2.2.2.1 r hr
          have z := of_decide_eq_true z
          have := nn_e (by omega) (by omega) (i2.symm.trans z)
          omega
        rw [if_pos e, if_pos e, if_pos e, if_pos e, c0]
        omega
      · rw [if_neg e, if_neg e, if_neg e, if_neg e]
        exact g2 a (by omega)
    · rw [nK, s, fr (by omega) (by omega) (by omega) (by omega) (by omega)]
      exact g3 w hw
  · obtain ⟨b, b1, b2⟩ := hx
    refine iR_op h6 hK nK nL (fun j hj => fr (by omega) (by omega) (by omega) (by omega) (by omega)) (fun a ha => rw9 a 9 0 ha (by omega) (by omega)) (fun a j ha _ => us_c (fun c hc => wW a c ha hc) (fun c k hc _ => rw9 a _ k ha (by omega) (by omega))) (fun j c hj c1 c2 hu => ?_)
    obtain ⟨c', k, z1, z2, z3, z4⟩ := us_iff.mp hu
    rcases (show c' = 0 ∨ c' = 1 by omega) with z | z
    · subst z
      have w0 : eW E' (eK E) 0 = n := wA
      rw [w0] at z3
      have q := hh k z2 z3
      have e12 : L k = nn j := (lk12 k z2 z3).symm.trans z4
      rw [e12, nn_t (by omega), b2] at q
      have := (hr_N h1.2.2.2.2.2 hK8 hL16 b1 (e := 100) (by omega) q).2 c c1 c2
      have eb : bN E' (eK E) = b := by
        unfold bN
        rw [k9 0 (by omega)]
        unfold bg9
        rw [if_pos rfl, b2, nn_t (by omega), Int.toNat_natCast]
      rw [eb]
      exact this
    · subst z
      have : eW E' (eK E) 1 = 0 := wB
      omega
  · obtain ⟨u1, u2, u3⟩ := hs
    have m7 : ∀ i c k t, i < eK E → c < 2 → 1 ≤ k → k < eW E i c → t < 120 → E (13 + 4 * c) i k = nn t → E 7 0 t = 1 → E' 7 0 t = 1 := fun i c k t i1 c1 k1 k2 t1 e e7 => by
      have hh5 := (hX.1.1 i c k t i1 c1 k1 k2 t1 e).2.2
      have z5 : E0 5 0 t ≠ -1 := by rw [h0.1 5 0 t (by omega)]; exact hh5
      rw [hE']
      unfold opE2
      rw [uV_k (by omega)]
      refine mkL_7z t1 ?_
      rw [(ht.2.1 t t1 z5).2.2, h0.1 7 0 t (by omega)]
      exact e7
    refine ⟨fun j hj => ?_, fun i hi => ?_, fun r hr => ?_⟩
    · rw [nL] at hj
      rw [fr (by omega) (by omega) (by omega) (by omega) (by omega)]
      exact u1 j hj
    · by_cases e : i = eK E
      · subst e
        have p2 : E' 9 (eK E) 2 = 0 := (k9 2 (by omega)).trans rfl
        refine ⟨fun _ k t b1 b2 b3 b4 => ?_, fun z => ?_, fun z => ?_⟩
        · rw [wA] at b2
          rw [hE'] at b4 ⊢
          unfold opE2 at b4 ⊢
          rw [uV_k (by omega)] at b4 ⊢
          rw [mkL_o (by omega)] at b4
          exact mkL_7y b3 (c := 0) b1 (by omega) b4
        · rw [p2] at z
          rcases z with z | z <;> exact absurd z (by decide)
        · rw [p2] at z
          exact absurd z (by decide)
      · have ha : i < eK E := by omega
        obtain ⟨m1, m2, m3⟩ := u2 i ha
        have p2 := rw9 i 9 2 ha (by omega) (by omega)
        have p10 := rw9 i 9 10 ha (by omega) (by omega)
        have wA' : eA E' i = eA E i := wW i 0 ha (by omega)
        have wB' : eB E' i = eB E i := wW i 1 ha (by omega)
        refine ⟨fun z k t b1 b2 b3 b4 => ?_, fun z k t b1 b2 b3 b4 => ?_, fun z u k t b0 b1 b2 b3 b4 b5 => ?_⟩
        · rw [p2] at z
          rw [wA'] at b2
          rw [rw9 i 13 k ha (by omega) (by omega)] at b4
          exact m7 i 0 k t ha (by omega) b1 b2 b3 b4 (m1 z k t b1 b2 b3 b4)
        · rw [p2] at z
          rw [wB'] at b2
          rw [rw9 i 17 k ha (by omega) (by omega)] at b4
          exact m7 i 1 k t ha (by omega) b1 b2 b3 b4 (m2 z k t b1 b2 b3 b4)
        · rw [p2] at z
          rw [p10] at b0
          rw [wB'] at b3
          rw [rw9 i 17 k ha (by omega) (by omega)] at b5
          exact m7 i 1 k t ha (by omega) (by omega) b3 b4 b5 (m3 z u k t b0 b1 b2 b3 b4 b5)
    · obtain ⟨i, c, k, u, a1, a2, a3, a4, a5, a6, a7, a8, a9, a10, a11, a12, a13, a14, a15⟩ := u3 r hr
      refine PKF_g (e := fun _ => 0) (by rw [nK]; omega) a2 a3 a4 a5 a6 a7 a8 a9 a10 a11 a12 ⟨nL, fun j _ => fr (by omega) (by omega) (by omega) (by omega) (by omega), wW i c a1 a2, fun k _ => ⟨rw9 i _ k a1 (by omega) (by omega), rw9 i _ k a1 (by omega) (by omega)⟩⟩ (rw9 i _ k a1 (by omega) (by omega)) (Nat.le_refl _) (by rw [rw9 i 9 2 a1 (by omega) (by omega)]; exact a13) (by rw [rw9 i 9 2 a1 (by omega) (by omega)]; exact a14) ?_
      rw [rw9 i 9 2 a1 (by omega) (by omega), rw9 i 9 9 a1 (by omega) (by omega)]
      exact a15
end
