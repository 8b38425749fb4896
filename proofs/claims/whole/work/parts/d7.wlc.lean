/-! a circuit that is being read -/
theorem apV_at (W : VV) (K j v : Nat) (lk : Int32) (kd a k : Nat) : apV W K j v lk kd a k = if kd = 10 ∧ a = K ∧ k = 0 then nn (j + 1) else if kd = 13 ∧ a = K ∧ k = j then -1 else if kd = 12 ∧ a = K ∧ k = j then lk else if kd = 11 ∧ a = K ∧ k = j then nn v else W kd a k := rfl
theorem apV_o {W : VV} {K j v : Nat} {lk : Int32} {kd a k : Nat} (h : ¬ (a = K ∧ 10 ≤ kd ∧ kd ≤ 13)) : apV W K j v lk kd a k = W kd a k := by
  rw [apV_at, if_neg (by omega), if_neg (by omega), if_neg (by omega), if_neg (by omega)]
theorem vG_apV {W : VV} {K j v : Nat} {lk : Int32} (h : vG W) (h6 : j < 6) : vG (apV W K j v lk) := vG_w h (apV_o (by omega)) (apV_o (by omega)) (apV_o (by omega)) (apV_o (by omega)) (fun i => apV_o (by omega)) (fun i => by
  rw [apV_at]
  by_cases e : i = K
  · rw [if_pos ⟨rfl, e, rfl⟩]
    exact Or.inr ⟨j + 1, by omega, rfl⟩
  · rw [if_neg (by omega), if_neg (by omega), if_neg (by omega), if_neg (by omega)]
    exact Or.inl rfl) (fun i => Or.inl (apV_o (by omega)))
theorem tF_ap {E0 W : VV} {K j v : Nat} {lk : Int32} (h : tF E0 W K 0 j) (h1 : 1 ≤ j) : tF (apV E0 K j v lk) (apV W K j v lk) K 0 j := by
  obtain ⟨t1, t2, t3, t4, t5, t6, t7⟩ := h
  have z : ∀ i, eZ (apV E0 K j v lk) i = eZ E0 i := fun i => by unfold eZ; rw [apV_o (by omega)]
  have o : ∀ (E : VV) k, k ≠ j → apV E K j v lk 13 K k = E 13 K k := fun E k hk => by
    rw [apV_at, if_neg (by omega), if_neg (by omega), if_neg (by omega), if_neg (by omega)]
  refine ⟨fun kd a k a5 a6 a7 a13 => ?_, fun t ht e => ?_, fun t ht e1 e2 => ?_, fun k k1 k2 => ?_, fun k hk => ?_, fun k k' k1 k2 k1' k2' e => ?_, fun t ht e1 e2 => ?_⟩
  · rw [apV_at, apV_at]
    split
    · rfl
    · split
      · rfl
      · split
        · rfl
        · split
          · rfl
          · exact t1 kd a k a5 a6 a7 a13
  · rw [apV_o (by omega)] at e
    rw [apV_o (by omega), apV_o (by omega), apV_o (by omega), apV_o (by omega), apV_o (by omega), apV_o (by omega)]
    exact t2 t ht e
  · rw [apV_o (by omega)] at e1 e2
    obtain ⟨k, k1, k2, k3⟩ := t3 t ht e1 e2
    exact ⟨k, k1, k2, (o W k (by omega)).trans k3⟩
  · obtain ⟨t, g1, g2, g3, g4, g5, g6, g7⟩ := t4 k k1 k2
    refine ⟨t, g1, (o W k (by omega)).trans g2, (apV_o (by omega)).trans g3, ?_, ?_, (apV_o (by omega)).trans g6, (apV_o (by omega)).trans g7⟩
    · rw [apV_o (by omega), g4]
      show W 11 K k = apV W K j v lk 11 K k
      rw [apV_at, if_neg (by omega), if_neg (by omega), if_neg (by omega), if_neg (by omega)]
    · rw [apV_o (by omega)]
      exact g5
  · show apV W K j v lk 13 K k = apV E0 K j v lk 13 K k
    by_cases e : k = j
    · rw [apV_at, apV_at, if_neg (by omega), if_pos ⟨rfl, rfl, e⟩, if_neg (by omega), if_pos ⟨rfl, rfl, e⟩]
    · rw [o W k e, o E0 k e]
      exact t5 k hk
  · have e' : apV W K j v lk 13 K k = apV W K j v lk 13 K k' := e
    rw [o W k (by omega), o W k' (by omega)] at e'
    exact t6 k k' k1 k2 k1' k2' e'
  · rw [apV_o (by omega)] at e1 e2
    rw [z]
    exact t7 t ht e1 e2
/-- j nodes of circuit eK V were read -/
def wI (V : VV) (x y : Int32) (W : VV) (j : Nat) (d : Nat → Nat) : Prop := ∃ E0, opE0 V E0 j d x y ∧ dW V j d ∧ vG E0 ∧ 1 ≤ j ∧ tF E0 W (eK V) 0 j
theorem wI_f {V W : VV} {l : List (Nat → Int32)} {x y : Int32} {j : Nat} {d : Nat → Nat} (hI : iG V l) (h : wI V x y W j d) : vG W ∧ eN W = eN V ∧ eL W = eL V ∧ eK W = eK V ∧ (∀ u v, lkE W u v = lkE V u v) ∧ iB W ∧ W 0 0 7 = V 0 0 7 ∧ W 10 (eK V) 0 = nn j ∧ W 9 (eK V) 0 = x ∧ (∀ k, k < j → W 11 (eK V) k = nn (d k)) := by
  obtain ⟨E0, h0, hd, hG, h1, ht⟩ := h
  have oN : eN E0 = eN V := by unfold eN; rw [h0.1 _ _ _ (by omega)]
  have oL : eL E0 = eL V := by unfold eL; rw [h0.1 _ _ _ (by omega)]
  have oK : eK E0 = eK V := by
    have := h0.1 0 0 5 (by omega)
    unfold eK at this ⊢
    rw [this]
  have olk : ∀ u v, lkE E0 u v = lkE V u v := fun u v => by
    unfold lkE
    rw [oL]
    exact fi_c (fun i _ _ => by rw [h0.1 _ _ _ (by omega), h0.1 _ _ _ (by omega)])
  have oB : iB E0 := fun p q hp hq => by
    rw [h0.1 _ _ _ (by omega), olk]
    exact hI.2.1 p q hp hq
  refine ⟨tF_G ht hG, (tF_N ht).trans oN, (tF_L ht).trans oL, (tF_K ht).trans oK, fun u v => (tF_lk ht u v).trans (olk u v), tF_iB ht oB, ?_, ?_, ?_, fun k hk => ?_⟩
  · rw [ht.1 _ _ _ (by omega) (by omega) (by omega) (by omega), h0.1 _ _ _ (by omega)]
  · rw [ht.1 _ _ _ (by omega) (by omega) (by omega) (by omega)]
    exact h0.2.1
  · rw [ht.1 _ _ _ (by omega) (by omega) (by omega) (by omega), h0.2.2.2.1 0 (by omega)]
    rfl
  · rw [ht.1 _ _ _ (by omega) (by omega) (by omega) (by omega)]
    exact h0.2.2.2.2.1 k hk
theorem wI_1 {V : VV} {x y : Int32} {v : Nat} (hG : vG V) (hv : v < eN V) : wI V x y (apV (bgV V (eK V) x y) (eK V) 0 v (-1)) 1 (fun _ => v) := by
  refine ⟨_, ⟨fun kd a k h => ?_, ?_, ?_, fun k hk => ?_, fun k hk => ?_, fun k k1 k2 => by omega⟩, ⟨by omega, fun k _ => hv, fun k k1 k2 => by omega, fun k k' k1 k2 _ => by omega⟩, vG_apV (vG_bg hG) (by omega), by omega, tF_0 (by omega)⟩
  · rw [apV_o (by omega), bgV_o (by omega)]
  · rw [apV_at, if_pos ⟨rfl, rfl, rfl⟩]
  · rw [apV_o (by omega), bgV_at, if_neg (by omega), if_pos (by omega)]
  · rw [apV_o (by omega), bgV_at, if_pos (by omega)]
    rfl
  · have : k = 0 := by omega
    subst this
    rw [apV_at, if_neg (by omega), if_neg (by omega), if_neg (by omega), if_pos ⟨rfl, rfl, rfl⟩]
theorem wI_s {V W : VV} {l : List (Nat → Int32)} {x y : Int32} {j v : Nat} {d : Nat → Nat} (hI : iG V l) (h : wI V x y W j d) (h6 : j < 6) (hv : v < eN V) (hn : ∀ k, k < j → d k ≠ v) (hl : lkE V (nn (d (j - 1))) (nn v) ≠ -1) (ht : tkI W v ≠ -1) : wI V x y (taE (apV W (eK V) j v (ii (lkE V (nn (d (j - 1))) (nn v)))) (eK V) 0 j (tkI W v).toNat v) (j + 1) (apD j v d) := by
  obtain ⟨f1, f2, f3, f4, f5, f6, f7, f8, f9, f10⟩ := wI_f hI h
  obtain ⟨E0, h0, hd, hG, h1, htF⟩ := h
  have hN10 := hI.1.1.2.2.2.2.1.1
  obtain ⟨t1, t2, t3, t4⟩ := tkI_f (E := W) (v := v) (by omega) f1 ht
  refine ⟨apV E0 (eK V) j v (ii (lkE V (nn (d (j - 1))) (nn v))), ⟨fun kd a k h => ?_, ?_, ?_, fun k hk => ?_, fun k hk => ?_, fun k k1 k2 => ?_⟩, ⟨by omega, fun k hk => ?_, fun k k1 k2 => ?_, fun k k' hk hk' e => ?_⟩, vG_apV hG h6, by omega, ?_⟩
  · rw [apV_o (by omega)]
    exact h0.1 kd a k h
  · rw [apV_at, if_pos ⟨rfl, rfl, rfl⟩]
  · rw [apV_o (by omega)]
    exact h0.2.2.1
  · rw [apV_o (by omega)]
    exact h0.2.2.2.1 k hk
  · rw [apV_at, if_neg (by omega), if_neg (by omega), if_neg (by omega)]
    by_cases e : k = j
    · rw [if_pos ⟨rfl, rfl, e⟩, e, apD_s]
    · rw [if_neg (by omega), apD_o e]
      exact h0.2.2.2.2.1 k (by omega)
  · rw [apV_at, if_neg (by omega), if_neg (by omega), apD_o (show k - 1 ≠ j by omega)]
    by_cases e : k = j
    · rw [if_pos ⟨rfl, rfl, e⟩, e, apD_s]
    · rw [if_neg (by omega), if_neg (by omega), apD_o e]
      exact h0.2.2.2.2.2 k k1 (by omega)
  · by_cases e : k = j
    · rw [e, apD_s]; exact hv
    · rw [apD_o e]; exact hd.2.1 k (by omega)
  · rw [apD_o (show k - 1 ≠ j by omega)]
    by_cases e : k = j
    · rw [e, apD_s]; exact hl
    · rw [apD_o e]; exact hd.2.2.1 k k1 (by omega)
  · by_cases ek : k = j <;> by_cases ek' : k' = j
    · omega
    · rw [ek, apD_s, apD_o ek'] at e
      exact absurd e.symm (hn k' (by omega))
    · rw [ek', apD_s, apD_o ek] at e
      exact absurd e (hn k (by omega))
    · rw [apD_o ek, apD_o ek'] at e
      exact hd.2.2.2 k k' (by omega) (by omega) e
  · refine tF_s (tF_ap htF h1) h1 (by omega) ?_ ?_ (by omega) ?_
    · rw [apV_o (by omega)]
      exact t3
    · show apV W (eK V) j v _ 11 (eK V) j = nn v
      rw [apV_at, if_neg (by omega), if_neg (by omega), if_neg (by omega), if_pos ⟨rfl, rfl, rfl⟩]
    · have : eZ (apV W (eK V) j v (ii (lkE V (nn (d (j - 1))) (nn v)))) ((tkI W v).toNat / 12) = eZ W ((tkI W v).toNat / 12) := by unfold eZ; rw [apV_o (by omega)]
      rw [this]
      exact t4
section
variable {H : fm_H} {t : Nat} {m m0 m1 : fm_M} {W : VV}
theorem c_apV (hS : kS H t) (hp : pS m t) (h0 : mI t m m0 W) {K j v : Nat} (hK : K < 8) (hn : W 10 K 0 = nn j) (hj : j < 6) (lk : Int32) : fE (f_X10_append H (m.2.1 (m.2.1 (t + 26) K) 13) (nn v) lk m0) (fun _ m' => mI t m m' (apV W K j v lk)) := by
  have hw := pS_wo hS hp hK
  have e0 : ∀ (W' : VV) (mm : fm_M), mI t m mm W' → W' 10 K 0 = nn j → mm.1 (m.2.1 (m.2.1 (t + 26) K) 13) 0 = nn j := fun W' mm hm hn' => (mI_rd hm 10 K 0 (v10 hK) rfl).trans hn'
  unfold f_X10_append
  rw [e0 W m0 h0 hn, if_neg (by rw [nl_0, nn_lt (by omega) (by omega)]; omega), if_neg (by rw [nl_6, nn_le (by omega) (by omega)]; omega), hw.2.1, hw.2.2.2.2.1, if_pos ((nn_in (by omega)).mpr hj), nn_tn (by omega)]
  refine fE_put h0 11 K j (v11 hK) rfl (fun m1 h1 => ?_)
  rw [e0 _ m1 h1 ((uV_k (by omega)).trans hn), hw.2.2.1, hw.2.2.2.2.2.1, if_pos ((nn_in (by omega)).mpr hj), nn_tn (by omega)]
  refine fE_put h1 12 K j (v12 hK) rfl (fun m2 h2 => ?_)
  rw [e0 _ m2 h2 ((uV_k (by omega)).trans ((uV_k (by omega)).trans hn)), hw.2.2.2.1, hw.2.2.2.2.2.2, if_pos ((nn_in (by omega)).mpr hj), nn_tn (by omega)]
  refine fE_put h2 13 K j (v13 hK) rfl (fun m3 h3 => ?_)
  rw [e0 _ m3 h3 ((uV_k (by omega)).trans ((uV_k (by omega)).trans ((uV_k (by omega)).trans hn))), nn_inc]
  refine fE_put h3 10 K 0 (v10 hK) rfl (fun m4 h4 => ?_)
  exact fE_ret h4
end
