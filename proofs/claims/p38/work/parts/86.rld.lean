/-! a new way is laid: the reference's array; commuting with er -/
theorem rN_f {ρ : Nat → Int32} {E E' : VV} (h : rN ρ E) (e : ∀ kd i k, (kd = 0 ∧ 7 ≤ k ∧ k ≤ 9) ∨ kd = 1 ∨ kd = 3 ∨ kd = 4 ∨ kd = 8 → E' kd i k = E kd i k) : rN ρ E' := by
  obtain ⟨g0, g1, g2, g3, g5, g7, g8, g9⟩ := h
  have eL' : eL E' = eL E := by unfold eL; rw [e 1 _ _ (by omega)]
  refine ⟨g0.trans (e 0 _ _ (by omega)).symm, g1.trans (e 0 _ _ (by omega)).symm, g2.trans (e 1 _ _ (by omega)).symm, g3.trans (e 1 _ _ (by omega)).symm, g5.trans (e 0 _ _ (by omega)).symm, fun k hk => (g7 k hk).trans (e 8 _ _ (by omega)).symm, fun i hi => (g8 i hi).trans (e 4 _ _ (by omega)).symm, fun j hj k hk => ?_⟩
  rw [eL'] at hj
  rw [e 3 _ _ (by omega)]
  exact g9 j hj k hk
theorem rB_ld {E E0 E1 E2 : VV} {ρ ρ2 : Nat → Int32} {i c n K : Nat} {ln : Nat → Nat → Nat} (hB : rB ρ E) (hG : vG E) (hX : iX E) (hi : i < K) (hc : c < 2) (hK : K ≤ 8) (hKi : ∀ a, a < K → a < eK E ∨ a = i) (hln : ∀ a d, a < K → d < 2 → a ≠ i → ln a d = eW E a d)
    (fo : ∀ kd a k, ¬ (a = i ∧ 9 ≤ kd ∧ kd ≤ 17) → E0 kd a k = E kd a k) (ht : tF E0 E1 i c n)
    (fp : ∀ kd a k, kd ≠ 7 → ¬ (kd = 0 ∧ k = 5) → ¬ (kd = 9 ∧ a = i) → E2 kd a k = E1 kd a k) (f7 : ∀ t, t < 120 → E 5 0 t ≠ -1 → E2 7 0 t = E1 7 0 t)
    (eK2 : eK E2 = K) (eW2 : ∀ a d, a < K → d < 2 → eW E2 a d = lu ln i c n a d) (hρ : ∀ q, q < 632 → q ≠ 4 → q ≠ 6 → ¬ (104 + 66 * i ≤ q ∧ q < 170 + 66 * i) → ρ2 q = ρ q)
    (hK2 : rK ρ2 E1 K (lu ln i c n)) (rc : rC ρ2 E2 (104 + 66 * i) i) (rs : ρ2 (107 + 66 * i) = stE E2 i) (rm : ∀ d, d < 2 → rMd ρ2 E2 (120 + 66 * i + 25 * d) (eW E2 i d) d i) : rB ρ2 E2 := by
  have st : ∀ kd a k, kd ≠ 5 → kd ≠ 6 → kd ≠ 7 → ¬ (kd = 0 ∧ k = 5) → ¬ (a = i ∧ 9 ≤ kd ∧ kd ≤ 17) → E2 kd a k = E kd a k := fun kd a k a5 a6 a7 a8 a9 => by
    rw [fp kd a k a7 a8 (by omega), ht.1 kd a k a5 a6 a7 (by omega), fo kd a k a9]
  have st0 : ∀ kd a k, kd < 9 → E0 kd a k = E kd a k := fun kd a k h => fo kd a k (by omega)
  have hL16 := hG.2.2.2.2.1.2.1
  refine ⟨rN_f (rN_c hB.1 hL16 (fun k a1 a2 a3 => hρ k (by omega) a2 a3 (by omega))) (fun kd a k h => st kd a k (by omega) (by omega) (by omega) (by omega) (by omega)), ?_, fun a ha => ?_⟩
  · rw [eK2]
    refine ⟨hK2.1, hK2.2.1, fun a ha d hd => ?_⟩
    rw [eW2 a d ha hd]
    exact rW_e (hK2.2.2 a ha d hd) (fun k => fp _ _ _ (by omega) (by omega) (by omega)) (fun k => fp _ _ _ (by omega) (by omega) (by omega))
  · rw [eK2] at ha
    by_cases e : a = i
    · subst e
      exact ⟨rc, rs, rm⟩
    · have hE : a < eK E := by
        rcases hKi a ha with q | q
        · exact q
        · exact absurd q e
      obtain ⟨d1, d2, d3⟩ := hB.2.2 a hE
      refine ⟨?_, ?_, fun d hd k k1 k2 => ?_⟩
      · intro k k1 k2 k3
        rw [st 9 _ _ (by decide) (by decide) (by decide) (by omega) (by omega), ← d1 k k1 k2 k3]
        have := pk_l k k1 k2 k3
        exact hρ _ (by omega) (by omega) (by omega) (by omega)
      · rw [hρ _ (by omega) (by omega) (by omega) (by omega), d2]
        exact (stE_c (fun k => st 9 _ _ (by decide) (by decide) (by decide) (by omega) (by omega)) (st 10 _ _ (by decide) (by decide) (by decide) (by omega) (by omega)) (fun k => st 13 _ _ (by decide) (by decide) (by decide) (by omega) (by omega))).symm
      · have ew : eW E2 a d = eW E a d := by rw [eW2 a d ha hd, lu_o (by omega), hln a d ha hd e]
        rw [ew] at k2
        have h6 := (hB.2.1.2.2 a hE d hd).2.1
        rw [hρ _ (by omega) (by omega) (by omega) (by omega), d3 d hd k k1 k2, st (13 + 4 * d) _ _ (by omega) (by omega) (by omega) (by omega) (by omega)]
        rcases rB_sl hB hE hd k1 k2 with q | ⟨t, t1, t2⟩
        · rw [q]
          rfl
        · have q5 := (hX.1.1 a d k t hE hd k1 k2 t1 t2).2.2
          rw [t2]
          unfold mdE
          rw [nn_t (by omega), if_pos (by omega), if_pos (by omega), Int.toNat_natCast, f7 t t1 q5, (ht.2.1 t t1 (by rw [st0 5 _ _ (by omega)]; exact q5)).2.2, st0 7 _ _ (by omega)]
/-! commuting -/
theorem er_n {V : VV} {kd i k : Nat} (h : kd ≠ 18) : er V kd i k = V kd i k := if_neg h
theorem er_18 {V : VV} {i k : Nat} : er V 18 i k = 0 := if_pos rfl
theorem er_x {V W : VV} (h : ∀ kd i k, kd ≠ 18 → V kd i k = W kd i k) (h18 : ∀ i k, W 18 i k = 0) : er V = W := by
  funext kd i k
  by_cases e : kd = 18
  · subst e
    rw [er_18, h18]
  · rw [er_n e, h kd i k e]
theorem er_bg {V : VV} {i : Nat} {x y : Int32} : er (bgV V i x y) = bgV (er V) i x y := by
  refine er_x (fun kd a k h => ?_) (fun a k => ?_)
  · rw [bgV_at, bgV_at, er_n h]
  · rw [bgV_o (by omega), er_18]
theorem er_cp {V : VV} {i c : Nat} {n : Int32} {N L : Nat → Int32} (hc : c < 2) : er (cpV V i c n N L) = cpV (er V) i c n N L := by
  refine er_x (fun kd a k h => ?_) (fun a k => ?_)
  · rw [cpV_at, cpV_at, er_n h]
  · rw [cpV_o (by omega), er_18]
theorem er_ta {V : VV} {i c k t v : Nat} : er (taE V i c k t v) = taE (er V) i c k t v := by
  unfold taE
  rw [er_uV (by omega), er_uV (by decide), er_uV (by decide), er_uV (by decide)]
theorem er_ld {V : VV} {N : Nat} {Z : Nat → Nat} {f : Nat} : ∀ {k j : Nat} {b : Int} {mo : Nat}, ld (er V) N Z f j k b mo = ld V N Z f j k b mo := by
  intro k
  induction k with
  | zero => exact rfl
  | succ k ih =>
    intro j b mo
    unfold ld
    rw [ih, ih]
    rfl
theorem er_tkI {V : VV} {v : Nat} : tkI (er V) v = tkI V v := by
  unfold tkI tk
  rw [er_ld]
  rfl
theorem er_na {V : VV} {a b n : Nat} {f g : Nat → Nat} {L : Nat → Int32} {p q : Int32} : na (fun k => hr (er V) a b f g (L k).toInt p q) 1 n = na (fun k => hr V a b f g (L k).toInt p q) 1 n := rfl
theorem er_tl {i c : Nat} : ∀ {r j : Nat} {V : VV}, (tlE (er V) i c j r).1 = (tlE V i c j r).1 ∧ (tlE (er V) i c j r).2 = er (tlE V i c j r).2 := by
  intro r
  induction r with
  | zero => exact ⟨rfl, rfl⟩
  | succ r ih =>
    intro j V
    have e1 : ndE (er V) i c j = ndE V i c j := by
      unfold ndE
      rw [er_n (by omega)]
    have e2 : ∀ v, tkI (er V) v = tkI V v := fun v => er_tkI
    rw [tlE_S, tlE_S, e1, e2]
    split
    · exact ⟨rfl, rfl⟩
    · rw [← er_ta]
      exact ih
theorem er_gu {V : VV} {x : Int32} : er (guE V x) = guE (er V) x := by
  unfold guE
  split
  · rw [er_uV (by decide)]
  · rfl
theorem er_mk {V : VV} {x : Int32} : er (mkE V x) = mkE (er V) x := by
  unfold mkE
  split
  · rw [er_uV (by decide)]
  · rfl
theorem er_gvL {i c : Nat} : ∀ {r j : Nat} {V : VV}, er (gvL V i c j r) = gvL (er V) i c j r := by
  intro r
  induction r with
  | zero => exact rfl
  | succ r ih =>
    intro j V
    rw [gvL_S, gvL_S, ih, er_uV (by omega), er_gu, er_n (show 13 + 4 * c ≠ 18 by omega)]
theorem er_mkL {i c : Nat} : ∀ {r j : Nat} {V : VV}, er (mkL V i c j r) = mkL (er V) i c j r := by
  intro r
  induction r with
  | zero => exact rfl
  | succ r ih =>
    intro j V
    rw [mkL_S, mkL_S, ih, er_mk, er_n (show 13 + 4 * c ≠ 18 by omega)]
theorem tl_18 {i c : Nat} : ∀ {r j : Nat} {V : VV} {q k : Nat}, (tlE V i c j r).2 18 q k = V 18 q k := by
  intro r
  induction r with
  | zero => exact rfl
  | succ r ih =>
    intro j V q k
    rw [tlE_S]
    split
    · rfl
    · rw [ih, taE_o (by decide) (by decide) (by decide) (by omega)]
theorem er_opB {V : VV} {n : Nat} {N L : Nat → Int32} {x y : Int32} : er (opB V n N L x y) = opB (er V) n N L x y := by
  unfold opB
  rw [er_cp (by decide), er_bg]
  rfl
theorem er_op {V : VV} {n : Nat} {N L : Nat → Int32} {x y : Int32} : opV (er V) n N L x y = ((opV V n N L x y).1, er (opV V n N L x y).2) := by
  unfold opV
  rw [show eK (er V) = eK V from rfl, show eL (er V) = eL V from rfl, show eA (er V) = eA V from rfl, show eB (er V) = eB V from rfl, er_na, ← er_opB, er_tl.1, er_tl.2]
  split
  · rfl
  · split
    · rfl
    · split
      · rfl
      · split
        · rw [er_gvL]
        · rw [er_uV (by decide), er_mkL]
theorem op_18 {V : VV} {n : Nat} {N L : Nat → Int32} {x y : Int32} {q k : Nat} : (opV V n N L x y).2 18 q k = V 18 q k := by
  have e : opB V n N L x y 18 q k = V 18 q k := (cpV_o (by omega)).trans (bgV_o (by omega))
  unfold opV
  split
  · rfl
  · split
    · rfl
    · split
      · rfl
      · split
        · show gvL _ _ _ _ _ 18 q k = _
          rw [gvL_o (by decide) (by omega), tl_18, e]
        · dsimp only
          rw [uV_k (by decide), mkL_o (by decide), tl_18, e]
section
variable {H : fm_H} {s : Nat} {m : fm_M}
theorem aS_mI {m' : fm_M} {V V' E' : VV} {l : List (Nat → Int32)} {E : VV} (ha : aS m s E l) (hV : cv m s = V) (h : mI s m m' V') (e1 : er V' = E') (e2 : ∀ q k, V' 18 q k = V 18 q k) (e3 : E' 0 0 6 = E 0 0 6) (hG : vG E') : aS m' s E' l := by
  subst hV
  obtain ⟨a1, a2, a3, a4, a5, a6⟩ := ha
  refine ⟨h.2.1, by rw [h.1]; exact e1, ?_, e3.trans a4, a5, hG⟩
  rw [h.1, sg_c (V := cv m s) (fun q _ _ => funext fun k => e2 q k)]
  exact a3
theorem c_openS (hS : kS H s) {E : VV} {l : List (Nat → Int32)} (ha : aS m s E l) (hI : iG E l) {w n : Nat} (hw : kW H w) (hd : w + 4 ≤ s ∨ s + 160 ≤ w) (hn : m.1 w 0 = nn n) (h6 : n ≤ 6) (hnd : ∀ k, k < n → ∃ x, x < 10 ∧ m.1 (w + 1) k = nn x) (x y : Int32) (e3 : (opV E n (m.1 (w + 1)) (m.1 (w + 2)) x y).2 0 0 6 = E 0 0 6) (hG : vG (opV E n (m.1 (w + 1)) (m.1 (w + 2)) x y).2) : fE (f_X7_openAlong H s w x y m) (fun r m' => r = (opV E n (m.1 (w + 1)) (m.1 (w + 2)) x y).1 ∧ aS m' s (opV E n (m.1 (w + 1)) (m.1 (w + 2)) x y).2 l ∧ fr s (s + 160) m m' ∧ m'.2.1 = m.2.1) := by
  obtain ⟨br, b1, b2⟩ := hI.2.2.2.2.2.1
  have eE := ha.2.1
  have hGV : vG (cv m s) := by
    have := ha.2.2.2.2.2
    rw [← eE] at this
    exact this
  have b3 : cv m s 0 0 7 = nn br := by
    rw [← b2, ← eE]
    rfl
  refine fE_w (c_openAlong hS ha.1 rfl hGV hw hd hn h6 hnd b3 (by omega) x y) (fun r m' h => ?_)
  have q := er_op (V := cv m s) (n := n) (N := m.1 (w + 1)) (L := m.1 (w + 2)) (x := x) (y := y)
  rw [eE] at q
  refine ⟨by rw [q]; exact h.1, aS_mI ha rfl h.2 (by rw [q]) (fun q k => op_18) e3 hG, h.2.2.2.1, h.2.2.2.2⟩
end
