/-! the class takes labels along a way, gives them up, makes their entries -/
def gvL (E : VV) (i c : Nat) : Nat → Nat → VV
  | _, 0 => E
  | j, r + 1 => gvL (uV (guE E (E (13 + 4 * c) i j)) (13 + 4 * c) i j (-1)) i c (j + 1) r
def mkL (E : VV) (i c : Nat) : Nat → Nat → VV
  | _, 0 => E
  | j, r + 1 => mkL (mkE E (E (13 + 4 * c) i j)) i c (j + 1) r
section
variable {H : fm_H} {s : Nat} {m : fm_M} {V : VV}
theorem mI_u {m0 : fm_M} {a : Nat} {V0 : VV} (h0 : mI s m m0 V0) (kd i k : Nat) {x : Int32} (hv : vld kd i = true) (ha : ad m s kd i = a) (hk : vk kd k = true := by rfl) : mI s m (fm_si m0 a k x) (uV V0 kd i k x) := by
  obtain ⟨e1, e2, e3, e4⟩ := h0
  have ea : ad m0 s kd i = a := by
    rw [← ha]
    unfold ad
    rw [e4]
  subst ea
  have r := ad_r e2 hv
  exact ⟨by rw [cv_si e2 hv hk, e1], e2, fr_tr e3 (fr_si r.1 r.2), e4⟩
/-- reading a way in a later memory -/
theorem wA_r {m0 : fm_M} {V0 : VV} (h0 : mI s m m0 V0) {b c j k : Nat} (hb : b = 10 ∨ b = 14) (hc : c < 8) (hj : j < 4) : m0.1 (wA m s b c + j) k = V0 (b + j) c k := by
  have h1 := wA_d (m := m0) (s := s) hb hc hj
  have e := h0.2.2.2
  have h2 := wA_e (s := s) (b := b) (c := c) e
  rw [h2] at h1
  rw [← h1.1]
  exact cv_rd h0.1 (b + j) c k h1.2 (vk_n (by omega))
theorem b4 {c : Nat} (hc : c < 2) : 10 + 4 * c = 10 ∨ 10 + 4 * c = 14 := by omega
theorem guE_o {E : VV} {t : Int32} {kd i k : Nat} (h : kd ≠ 5) : guE E t kd i k = E kd i k := by
  unfold guE
  split
  · exact uV_k h
  · rfl
theorem c_gv_l (hS : kS H s) {i c n : Nat} (hi : i < 8) (hc : c < 2) (h6 : n ≤ 6) (hp : pS m s) : ∀ (k q j : Nat) (m0 : fm_M) (V0 : VV), mI s m m0 V0 → V0 (10 + 4 * c) i 0 = ii n → j + k = n ∨ (k = 0 ∧ n ≤ j) → k < q → j < 100 → fE (f_X7_giveUpLabels_2 H s (wA m s (10 + 4 * c) i) q (ii j) m0) (fun _ m' => mI s m m' (gvL V0 i c j k)) := by
  have hw := wA_k hS hp (b := 10 + 4 * c) hi
  intro k
  induction k with
  | zero =>
    intro q j m0 V0 h0 hn h1 h2 h3
    obtain ⟨q, rfl⟩ : ∃ q', q = q' + 1 := ⟨q - 1, by omega⟩
    have r0 : m0.1 (wA m s (10 + 4 * c) i) 0 = ii n := (wA_r h0 (b4 hc) hi (j := 0) (by omega)).trans hn
    unfold f_X7_giveUpLabels_2
    rw [r0]
    exact fE_p (by rw [ii_le (by omega) (by omega) (by omega) (by omega)]; omega) (fE_ret h0)
  | succ k ih =>
    intro q j m0 V0 h0 hn h1 h2 h3
    obtain ⟨q, rfl⟩ : ∃ q', q = q' + 1 := ⟨q - 1, by omega⟩
    have r0 : m0.1 (wA m s (10 + 4 * c) i) 0 = ii n := (wA_r h0 (b4 hc) hi (j := 0) (by omega)).trans hn
    have r3 : m0.1 (wA m s (10 + 4 * c) i + 3) j = V0 (13 + 4 * c) i j := by
      rw [wA_r h0 (b4 hc) hi (j := 3) (by omega), show 10 + 4 * c + 3 = 13 + 4 * c from by omega]
    unfold f_X7_giveUpLabels_2
    rw [r0]
    refine fE_n (by rw [ii_le (by omega) (by omega) (by omega) (by omega)]; omega) ?_
    rw [c_slotAtN hw r0 h6 (by omega), fb_n, kS_1 hS, r3]
    refine fE_be (c_giveUpX hS h0.2.1 h0.1 (V0 (13 + 4 * c) i j)) (fun _ m1 h1' => ?_)
    have h01 := mI_tr h0 h1'
    have r1 : m1.1 (wA m s (10 + 4 * c) i) 0 = ii n := by
      refine (wA_r h01 (b4 hc) hi (j := 0) (by omega)).trans ?_
      rw [guE_o (by omega)]
      exact hn
    rw [c_putSlot hw r1 h6 (by omega), fb_n, ii_inc]
    have d3 := wA_d (m := m) (s := s) (b4 hc) hi (j := 3) (by omega)
    rw [show 10 + 4 * c + 3 = 13 + 4 * c from by omega] at d3
    have h02 := mI_u h01 (13 + 4 * c) i j (x := -1) d3.2 d3.1 (vk_n (by omega))
    refine ih q (j + 1) _ _ h02 ?_ (by omega) (by omega) (by omega)
    rw [uV_k (by omega), guE_o (by omega)]
    exact hn
theorem c_giveUpLabels (hS : kS H s) (hp : pS m s) {m0 : fm_M} (h0 : mI s m m0 V) {i c n : Nat} (hi : i < 8) (hc : c < 2) (hn : V (10 + 4 * c) i 0 = ii n) (h6 : n ≤ 6) : fE (f_X7_giveUpLabels H s (wA m s (10 + 4 * c) i) m0) (fun _ m' => mI s m m' (gvL V i c 1 (n - 1))) := by
  unfold f_X7_giveUpLabels
  rw [ii_1]
  exact c_gv_l hS hi hc h6 hp (n - 1) fm_N 1 m0 V h0 hn (by omega) (by unfold fm_N; omega) (by omega)
theorem mkE_o {E : VV} {t : Int32} {kd i k : Nat} (h : kd ≠ 7) : mkE E t kd i k = E kd i k := by
  unfold mkE
  split
  · exact uV_k h
  · rfl
theorem c_mk_l (hS : kS H s) {i c n : Nat} (hi : i < 8) (hc : c < 2) (h6 : n ≤ 6) (hp : pS m s) : ∀ (k q j : Nat) (m0 : fm_M) (V0 : VV), mI s m m0 V0 → V0 (10 + 4 * c) i 0 = ii n → j + k = n ∨ (k = 0 ∧ n ≤ j) → k < q → j < 100 → fE (f_X7_makeEntries_2 H s (wA m s (10 + 4 * c) i) q (ii j) m0) (fun _ m' => mI s m m' (mkL V0 i c j k)) := by
  have hw := wA_k hS hp (b := 10 + 4 * c) hi
  intro k
  induction k with
  | zero =>
    intro q j m0 V0 h0 hn h1 h2 h3
    obtain ⟨q, rfl⟩ : ∃ q', q = q' + 1 := ⟨q - 1, by omega⟩
    have r0 : m0.1 (wA m s (10 + 4 * c) i) 0 = ii n := (wA_r h0 (b4 hc) hi (j := 0) (by omega)).trans hn
    unfold f_X7_makeEntries_2
    rw [r0]
    exact fE_p (by rw [ii_le (by omega) (by omega) (by omega) (by omega)]; omega) (fE_ret h0)
  | succ k ih =>
    intro q j m0 V0 h0 hn h1 h2 h3
    obtain ⟨q, rfl⟩ : ∃ q', q = q' + 1 := ⟨q - 1, by omega⟩
    have r0 : m0.1 (wA m s (10 + 4 * c) i) 0 = ii n := (wA_r h0 (b4 hc) hi (j := 0) (by omega)).trans hn
    have r3 : m0.1 (wA m s (10 + 4 * c) i + 3) j = V0 (13 + 4 * c) i j := by
      rw [wA_r h0 (b4 hc) hi (j := 3) (by omega), show 10 + 4 * c + 3 = 13 + 4 * c from by omega]
    unfold f_X7_makeEntries_2
    rw [r0]
    refine fE_n (by rw [ii_le (by omega) (by omega) (by omega) (by omega)]; omega) ?_
    rw [c_slotAtN hw r0 h6 (by omega), fb_n, kS_1 hS, r3]
    refine fE_be (c_makeEntryX hS h0.2.1 h0.1 (V0 (13 + 4 * c) i j)) (fun _ m1 h1' => ?_)
    rw [ii_inc]
    refine ih q (j + 1) _ _ (mI_tr h0 h1') ?_ (by omega) (by omega) (by omega)
    rw [mkE_o (by omega)]
    exact hn
theorem c_makeEntries (hS : kS H s) (hp : pS m s) {m0 : fm_M} (h0 : mI s m m0 V) {i c n : Nat} (hi : i < 8) (hc : c < 2) (hn : V (10 + 4 * c) i 0 = ii n) (h6 : n ≤ 6) : fE (f_X7_makeEntries H s (wA m s (10 + 4 * c) i) m0) (fun _ m' => mI s m m' (mkL V i c 1 (n - 1))) := by
  unfold f_X7_makeEntries
  rw [ii_1]
  exact c_mk_l hS hi hc h6 hp (n - 1) fm_N 1 m0 V h0 hn (by omega) (by unfold fm_N; omega) (by omega)
/-- a label is taken -/
theorem c_takeX (hS : kS H s) (hp : pS m s) {m0 : fm_M} (h0 : mI s m m0 V) (hG : vG V) {v br : Nat} (hv : v < 10) (hbr : V 0 0 7 = nn br) (h1000 : br < 1000) (x : Int32) : f_X2_take H (s + 20) (s + 1) (nn v) x (nn br) m0 = some (ii (tkI V v), mTk m0 s (tkI V v) (nn v) x) ∧ (tkI V v ≠ -1 → mI s m (mTk m0 s (tkI V v) (nn v) x) (uV (uV (uV V 5 0 (tkI V v).toNat (nn v)) 6 0 (tkI V v).toNat x) 7 0 (tkI V v).toNat 0)) := by
  have e : tkI V v = tk V (eN V) (eZ V) v br := by
    unfold tkI
    rw [hbr, nn_t (by omega)]
    rfl
  refine ⟨?_, fun h => ?_⟩
  · rw [e]
    exact c_take hS h0.1 hG hv h1000 x
  · unfold mTk
    rw [if_neg h]
    have a1 := mI_u h0 5 0 (tkI V v).toNat (x := nn v) rfl rfl
    have a2 := mI_u a1 6 0 (tkI V v).toNat (x := x) rfl rfl
    exact mI_u a2 7 0 (tkI V v).toNat (x := 0) rfl rfl
theorem c_tl_l (hS : kS H s) {i c n br : Nat} (hi : i < 8) (hc : c < 2) (h6 : n ≤ 6) (hp : pS m s) (hbr : br < 1000) {Q : Int32 → fm_M → Prop} : ∀ (k q j : Nat) (m0 : fm_M) (V0 : VV), mI s m m0 V0 → vG V0 → V0 0 0 7 = nn br → V0 (10 + 4 * c) i 0 = ii n → (∀ k, k < n → ∃ x, x < 10 ∧ V0 (11 + 4 * c) i k = nn x) → 1 ≤ j → j + k = n ∨ (k = 0 ∧ n ≤ j) → k < q → j < 100 →
    (∀ m', (tlE V0 i c j k).1 = true → mI s m m' (tlE V0 i c j k).2 → Q 1 m') → (∀ m', (tlE V0 i c j k).1 = false → mI s m m' (gvL (tlE V0 i c j k).2 i c 1 (n - 1)) → Q 0 m') → fE (f_X7_takeLabels_2 H s (wA m s (10 + 4 * c) i) (ii i) q (ii j) m0) Q := by
  have hw := wA_k hS hp (b := 10 + 4 * c) hi
  intro k
  induction k with
  | zero =>
    intro q j m0 V0 h0 hG hb hn hnd hj1 h1 h2 h3 q1 q2
    obtain ⟨q, rfl⟩ : ∃ q', q = q' + 1 := ⟨q - 1, by omega⟩
    have r0 : m0.1 (wA m s (10 + 4 * c) i) 0 = ii n := (wA_r h0 (b4 hc) hi (j := 0) (by omega)).trans hn
    unfold f_X7_takeLabels_2
    rw [r0]
    exact fE_p (by rw [ii_le (by omega) (by omega) (by omega) (by omega)]; omega) (fE_ret (q1 m0 rfl h0))
  | succ k ih =>
    intro q j m0 V0 h0 hG hb hn hnd hj1 h1 h2 h3 q1 q2
    obtain ⟨q, rfl⟩ : ∃ q', q = q' + 1 := ⟨q - 1, by omega⟩
    have r0 : m0.1 (wA m s (10 + 4 * c) i) 0 = ii n := (wA_r h0 (b4 hc) hi (j := 0) (by omega)).trans hn
    have r1 : m0.1 (wA m s (10 + 4 * c) i + 1) j = V0 (11 + 4 * c) i j := by
      rw [wA_r h0 (b4 hc) hi (j := 1) (by omega), show 10 + 4 * c + 1 = 11 + 4 * c from by omega]
    have r7 : m0.1 s 7 = V0 0 0 7 := mI_0 h0 7
    obtain ⟨v, v10, hv⟩ := hnd j (by omega)
    have en : ndE V0 i c j = v := by
      unfold ndE
      rw [hv, nn_t (by omega)]
      rfl
    rw [tlE_S, en] at q1 q2
    unfold f_X7_takeLabels_2
    rw [r0]
    refine fE_n (by rw [ii_le (by omega) (by omega) (by omega) (by omega)]; omega) ?_
    rw [c_nodeAtN hw r0 h6 (by omega), fb_n, kS_1 hS, kS_0 hS, r1, r7, hv, hb]
    obtain ⟨t1, t2⟩ := c_takeX hS hp h0 hG v10 hb hbr (ii i)
    rw [t1, fb_n]
    by_cases e : tkI V0 v = -1
    · rw [if_pos e] at q1 q2
      rw [e, if_pos ii_m1.symm]
      unfold mTk
      rw [if_pos rfl]
      exact fE_be (c_giveUpLabels hS hp h0 hi hc hn h6) (fun _ m' h' => fE_ret (q2 m' rfl h'))
    · rw [if_neg e] at q1 q2
      obtain ⟨g1, g2, g3, g4⟩ := tkI_f v10 hG e
      rw [if_neg (by rw [ii_m1, ii_eq (by omega) (by omega) (by omega) (by omega)]; omega)]
      have h1' := t2 e
      have r0' : (mTk m0 s (tkI V0 v) (nn v) (ii i)).1 (wA m s (10 + 4 * c) i) 0 = ii n := by
        refine (wA_r h1' (b4 hc) hi (j := 0) (by omega)).trans ?_
        rw [uV_k (by omega), uV_k (by omega), uV_k (by omega)]
        exact hn
      rw [c_putSlot hw r0' h6 (by omega), fb_n, ii_inc]
      have d3 := wA_d (m := m) (s := s) (b4 hc) hi (j := 3) (by omega)
      rw [show 10 + 4 * c + 3 = 13 + 4 * c from by omega] at d3
      have h02 := mI_u h1' (13 + 4 * c) i j (x := ii (tkI V0 v)) d3.2 d3.1 (vk_n (by omega))
      have et : ii (tkI V0 v) = nn (tkI V0 v).toNat := congrArg ii (by omega)
      have eE : uV (uV (uV (uV V0 5 0 (tkI V0 v).toNat (nn v)) 6 0 (tkI V0 v).toNat (ii i)) 7 0 (tkI V0 v).toNat 0) (13 + 4 * c) i j (ii (tkI V0 v)) = taE V0 i c j (tkI V0 v).toNat v := by
        rw [et]
        rfl
      rw [eE] at h02
      refine ih q (j + 1) _ _ h02 ?_ ?_ ?_ ?_ (by omega) (by omega) (by omega) (by omega) q1 q2
      · refine vG_sm ⟨?_, ?_, ?_, ?_, fun q => ?_, fun q => ?_, fun q => ?_⟩ hG
        all_goals exact taE_o (by decide) (by decide) (by decide) (by omega)
      · rw [taE_o (by decide) (by decide) (by decide) (by omega)]; exact hb
      · rw [taE_o (by omega) (by omega) (by omega) (by omega)]; exact hn
      · intro k hk
        rw [taE_o (by omega) (by omega) (by omega) (by omega)]
        exact hnd k hk
theorem c_takeLabels (hS : kS H s) (hp : pS m s) {m0 : fm_M} (h0 : mI s m m0 V) (hG : vG V) {i c n br : Nat} (hi : i < 8) (hc : c < 2) (hb : V 0 0 7 = nn br) (hbr : br < 1000) (hn : V (10 + 4 * c) i 0 = ii n) (h6 : n ≤ 6) (hnd : ∀ k, k < n → ∃ x, x < 10 ∧ V (11 + 4 * c) i k = nn x) {Q : Int32 → fm_M → Prop} (q1 : ∀ m', (tlE V i c 1 (n - 1)).1 = true → mI s m m' (tlE V i c 1 (n - 1)).2 → Q 1 m') (q2 : ∀ m', (tlE V i c 1 (n - 1)).1 = false → mI s m m' (gvL (tlE V i c 1 (n - 1)).2 i c 1 (n - 1)) → Q 0 m') : fE (f_X7_takeLabels H s (wA m s (10 + 4 * c) i) (ii i) m0) Q := by
  unfold f_X7_takeLabels
  rw [ii_1]
  exact c_tl_l hS hi hc h6 hp hbr (n - 1) fm_N 1 m0 V h0 hG hb hn hnd (by omega) (by omega) (by unfold fm_N; omega) (by omega) q1 q2
end
