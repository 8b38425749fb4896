/-! texts are loaded: the class, the reference -/
theorem sr_1 {m : fm_M} {a k y : Nat} : (fm_sr m a k y).1 = m.1 := rfl
theorem sr_22 {m : fm_M} {a k y : Nat} : (fm_sr m a k y).2.2 = m.2.2 := rfl
theorem sr_s {m : fm_M} {a k y : Nat} : (fm_sr m a k y).2.1 a k = y := fm_up_s
theorem sr_o {m : fm_M} {a k y c j : Nat} (h : ¬ (c = a ∧ j = k)) : (fm_sr m a k y).2.1 c j = m.2.1 c j := fm_up_o h
section
variable {H : fm_H} {x s t n : Nat} {m m0 m00 : fm_M} {f : Nat → Nat} {V : VV}
/-- what the class's load leaves -/
def lF (x t : Nat) (m m' : fm_M) : Prop := (∀ a k, ¬ (a = x ∧ (k = 7 ∨ k = 8)) → a ≠ x + 1 → ¬ (a = x + 2 ∧ 1 ≤ k ∧ k ≤ 5) → ¬ (a = x + 15 ∧ k = 0) → ¬ (t ≤ a ∧ a < t + 160) → m'.1 a k = m.1 a k) ∧ (∀ a k, ¬ (a = x ∧ (k = 5 ∨ k = 6)) → m'.2.1 a k = m.2.1 a k) ∧ m'.2.2 = m.2.2
/-- how the class's load ends -/
def lE (x s t : Nat) (f : Nat → Nat) (n : Nat) (m : fm_M) (r : Int32) (m' : fm_M) (res : PRs) : Prop := match res with
  | .inl (c, p) => r = -1 ∧ m'.1 x 7 = nn c ∧ m'.1 x 8 = nn (tS f n p) ∧ m'.2.1 = m.2.1 ∧ sp m' t ∧ m'.1 (x + 15) 0 = m.1 (x + 15) 0
  | .inr (V, p) => r = nn (eK V) ∧ m'.1 x 7 = 0 ∧ m'.1 x 8 = -1 ∧ m'.2.1 x 5 = t ∧ m'.2.1 x 6 = s ∧ pS m' t ∧ cv m' t = V ∧ m'.1 (x + 15) 0 = nn 0
theorem c_load (hX : kX H x) (hk : kR H x t) (hs : kS H s) (h5 : m.2.1 x 5 = s) (h6 : m.2.1 x 6 = t) (ht : x + 16 ≤ t) (hsp : sp m t) (hT : cTx m (x + 2) n f) (hw : wdC H m x) : fE (f_X11_load H x m) (fun r m' => lE x s t f n m r m' (loadP f n 800 (zeV (cv m t)) 0) ∧ m'.1 (x + 2) 1 = nn 0 ∧ lF x t m m') := by
  have hS := hk.2.2.2.1
  have hL := ze_ok hsp.2
  unfold f_X11_load
  rw [h6, if_pos (fm_is_b hS.1), show H.2.1 x 0 = x + 1 from hX.2.1.1]
  refine fE_be (c_readSetup hk hsp hT hw) (fun r m1 ⟨a1, a2⟩ => ?_)
  rw [fb_d, hk.1, fb_d, fb_d]
  obtain ⟨m4, em⟩ : ∃ m4, m4 = fm_si (fm_si (fm_si m1 x 7 (m1.1 (x + 1) 1)) x 8 ((fm_si m1 x 7 (m1.1 (x + 1) 1)).1 (x + 1) 2)) (x + 2) 1 0 := ⟨_, rfl⟩
  rw [← em]
  have o4 : ∀ a k, ¬ (a = x ∧ (k = 7 ∨ k = 8)) → ¬ (a = x + 2 ∧ k = 1) → m4.1 a k = m1.1 a k := fun a k z1 z2 => by
    rw [em, si_o (by omega), si_o (by omega), si_o (by omega)]
  have t7 : m4.1 x 7 = m1.1 (x + 1) 1 := by
    rw [em, si_o (by omega), si_o (by omega)]
    exact si_s
  have t8 : m4.1 x 8 = m1.1 (x + 1) 2 := by
    rw [em, si_o (by omega), si_s, si_o (by omega)]
  have t1 : m4.1 (x + 2) 1 = nn 0 := by
    rw [em]
    exact si_s
  have e42 : m4.2 = m.2 := by
    rw [em]
    exact a2.2
  have q4 : lF x t m m4 := ⟨fun a k z1 z2 z3 z4 z5 => (o4 a k z1 (by omega)).trans (a2.1 a k z2 (by omega) z5), fun a k _ => by rw [e42], by rw [e42]⟩
  cases eL : loadP f n 800 (zeV (cv m t)) 0 with
  | inl z =>
    obtain ⟨c, p⟩ := z
    rw [eL] at a1
    obtain ⟨b1, b2, b3, b4, b5⟩ := a1
    rw [b1, if_pos rfl]
    refine fE_ret ⟨⟨rfl, t7.trans b4, t8.trans b5, by rw [e42], ⟨?_, ?_⟩, ?_⟩, t1, q4⟩
    · exact pS_2 b2.1 (by rw [em]; rfl)
    · rw [cv_f b2.1 (fun a k z1 z2 => o4 a k (by omega) (by omega)) (by rw [em]; rfl)]
      exact b2.2
    · exact (o4 _ _ (by omega) (by omega)).trans (a2.1 _ _ (by omega) (by omega) (by omega))
  | inr z =>
    obtain ⟨V', p⟩ := z
    rw [eL] at a1
    obtain ⟨b1, b2, b3, b4, b5, b6⟩ := a1
    have hV' := load_ok (by omega) hL eL
    have e5 : m4.2.1 x 5 = s := by rw [e42]; exact h5
    have e6 : m4.2.1 x 6 = t := by rw [e42]; exact h6
    rw [b1, if_neg (by decide), e5, if_pos (fm_is_b hs.1), e6, if_pos (fm_is_b hS.1), fb_d, fb_d]
    unfold f_X10_erase
    rw [show H.2.1 x 2 = x + 15 from hX.2.1.2.2.1, fb_d, fb_n]
    obtain ⟨m7, em7⟩ : ∃ m7, m7 = fm_si (fm_sr (fm_sr m4 x 5 t) x 6 s) (x + 15) 0 0 := ⟨_, rfl⟩
    rw [← em7]
    have o7 : ∀ a k, ¬ (a = x + 15 ∧ k = 0) → m7.1 a k = m4.1 a k := fun a k z => by
      rw [em7, si_o (by omega), sr_1, sr_1]
    have r7 : ∀ a k, ¬ (a = x ∧ (k = 5 ∨ k = 6)) → m7.2.1 a k = m4.2.1 a k := fun a k z => by
      rw [em7, si_2, sr_o (by omega), sr_o (by omega)]
    have r5 : m7.2.1 x 5 = t := by
      rw [em7, si_2, sr_o (by omega), sr_s]
    have r6 : m7.2.1 x 6 = s := by
      rw [em7, si_2, sr_s]
    have r22 : m7.2.2 = m4.2.2 := by rw [em7]; rfl
    have ag7 : ag t (t + 160) m1 m7 := fun a k z1 z2 => ⟨(o7 a k (by omega)).trans (o4 a k (by omega) (by omega)), (r7 a k (by omega)).trans (by rw [em]; rfl)⟩
    have p7 : pS m7 t := pS_ag b2 ag7
    have v7 : cv m7 t = V' := (cv_ag b2 ag7).trans b3
    rw [r5, if_pos (fm_is_b hS.1), rd0 v7, hV'.1.1.1.2.2.1]
    refine fE_ret ⟨⟨rfl, (o7 _ _ (by omega)).trans (t7.trans b6), (o7 _ _ (by omega)).trans (t8.trans b4.2), r5, r6, p7, v7, ?_⟩, (o7 _ _ (by omega)).trans t1, fun a k z1 z2 z3 z4 z5 => (o7 a k z4).trans (q4.1 a k z1 z2 z3 z4 z5), fun a k z => (r7 a k z).trans (q4.2.1 a k z), r22.trans q4.2.2⟩
    rw [em7]
    exact si_s
end
/-! the reference -/
section
variable {H : fm_H} {b n : Nat} {m m0 m00 : fm_M} {f : Nat → Nat} {V : VV} {ρ : Nat → Int32}
def clR (ρ : Nat → Int32) : Nat → Int32 := fun k => if k = 0 then 1 else if k < 1112 then 0 else ρ k
def clJ (ρ : Nat → Int32) (j : Nat) : Nat → Int32 := fun k => if k < j then 0 else ρ k
theorem clJ_s {j : Nat} : pm_up (clJ ρ j) j 0 = clJ ρ (j + 1) := by
  funext q
  unfold clJ
  rw [up_at]
  by_cases e : q = j
  · rw [if_pos e, if_pos (by omega)]
  · rw [if_neg e]
    by_cases e2 : q < j
    · rw [if_pos e2, if_pos (by omega)]
    · rw [if_neg e2, if_neg (by omega)]
theorem r_cl_l (hM : kM H b) : ∀ (k q j : Nat) (m : fm_M), rI b m00 m (clJ ρ j) → j + k = 1112 → k < q → fE (f_X12_clear_2 H b q (nn j) m) (fun _ m' => rI b m00 m' (clR ρ)) := by
  intro k
  induction k with
  | zero =>
    intro q j m hr h1 h2
    obtain ⟨q, rfl⟩ : ∃ q', q = q' + 1 := ⟨q - 1, by omega⟩
    have ej : j = 1112 := by omega
    subst ej
    unfold f_X12_clear_2
    rw [if_pos (by decide), kM_0 hM, kM_z1 hM, if_pos (by decide), show (0 : Int32).toNatClampNeg = 0 by decide]
    refine fE_rput hr (fun m1 h1 => fE_ret ?_)
    have e : pm_up (clJ ρ 1112) 0 1 = clR ρ := by
      funext q
      rw [up_at]
      rfl
    rw [← e]
    exact h1
  | succ k ih =>
    intro q j m hr h1 h2
    obtain ⟨q, rfl⟩ : ∃ q', q = q' + 1 := ⟨q - 1, by omega⟩
    unfold f_X12_clear_2
    rw [if_neg (by rw [nl_1112, nn_le (by omega) (by omega)]; omega), kM_0 hM, kM_z1 hM, if_pos ((nn_in (by omega)).mpr (by omega)), nn_tn (by omega), nn_inc]
    refine fE_rput hr (fun m1 h1 => ?_)
    rw [clJ_s] at h1
    exact ih q (j + 1) m1 h1 (by omega) (by omega)
theorem r_clear (hM : kM H b) (hr : rI b m00 m ρ) : fE (f_X12_clear H b m) (fun _ m' => rI b m00 m' (clR ρ)) := by
  unfold f_X12_clear
  rw [nl_0]
  refine r_cl_l hM 1112 fm_N 0 m ?_ (by omega) (by unfold fm_N; omega)
  have e : clJ ρ 0 = ρ := funext fun q => if_neg (by omega)
  rw [e]
  exact hr
theorem clR_z {k : Nat} (h0 : k ≠ 0) (h : k < 1112) : clR ρ k = nn 0 := by
  unfold clR
  rw [if_neg h0, if_pos h]
  rfl
theorem ze_rAll : rAll (clR ρ) (zeV V) [] := by
  have nL := ze_L (V := V)
  have nK := ze_K (V := V)
  refine ⟨⟨⟨rfl, (clR_z (by omega) (by omega)).trans (zeV_0 (by omega) (by omega)).symm, (clR_z (by omega) (by omega)).trans (zeV_1 (by omega)).symm, (clR_z (by omega) (by omega)).trans (zeV_1 (by omega)).symm, (clR_z (by omega) (by omega)).trans (zeV_0 (by omega) (by omega)).symm, fun k hk => (clR_z (by omega) (by omega)).trans (zeV_8 hk).symm, fun i hi => (clR_z (by omega) (by omega)).trans (zeV_4 hi).symm, fun j hj => by omega⟩, ⟨by rw [nK]; exact clR_z (by omega) (by omega), by omega, fun i hi => by omega⟩, fun i hi => by omega⟩, clR_z (by omega) (by omega), by decide, fun p r h => by simp at h⟩
/-- what the reference's load leaves -/
def rLF (b : Nat) (m m' : fm_M) : Prop := (∀ a k, a ≠ b + 1 → ¬ (a = b ∧ (k = 6 ∨ k = 9 ∨ (10 ≤ k ∧ k ≤ 16) ∨ 18 ≤ k)) → ¬ (b + 8 ≤ a ∧ a < b + 11) → m'.1 a k = m.1 a k) ∧ m'.2.1 = m.2.1
def rLE (b : Nat) (f : Nat → Nat) (n : Nat) (m : fm_M) (r : Int32) (m' : fm_M) (res : PRs) : Prop := match res with
  | .inl (c, p) => r = -1 ∧ m'.1 b 15 = nn c ∧ m'.1 b 16 = nn (tS f n p) ∧ (∀ k, k < 1112 → m'.1 (b + 1) k = m.1 (b + 2) k) ∧ m'.1 b 6 = m.1 b 6
  | .inr (V, p) => r = nn (eK V) ∧ m'.1 b 15 = 0 ∧ m'.1 b 16 = -1 ∧ rAll (m'.1 (b + 1)) V [] ∧ m'.1 b 6 = nn 0
theorem qR_rL {m' : fm_M} (h : qR b m m') : rLF b m m' := ⟨fun a k a1 a2 a3 => h.1 a k a1 (by omega) a3, h.2⟩
theorem rLF_tr {m1 m2 : fm_M} (h1 : rLF b m m1) (h2 : rLF b m1 m2) : rLF b m m2 := ⟨fun a k a1 a2 a3 => (h2.1 a k a1 a2 a3).trans (h1.1 a k a1 a2 a3), h2.2.trans h1.2⟩
theorem r_62E (hM : kM H b) {c p : Nat} (h : rPE b f n m ρ c p) : fE (f_X12_load_62 H b m) (fun r m' => rLE b f n m r m' (.inl (c, p)) ∧ m'.1 b 9 = nn 0 ∧ rLF b m m') := by
  unfold f_X12_load_62
  have h1 : rPE b f n (fm_si m b 9 0) ρ c p := ⟨by rw [si_oth (by omega)]; exact h.1, h.2.1, (si_o (by omega)).trans h.2.2.1, (si_o (by omega)).trans h.2.2.2⟩
  rw [fb_d, r_fineE h1, fb_n, if_pos rfl, kM_0 hM, kM_1 hM]
  have := r_copy (H := H) (m := fm_si m b 9 0) (a := b + 2) (p := 0) (d := b + 1) (q := 0) (by omega) (kM_z2 hM) (kM_z1 hM) (by omega) (by omega) (by omega) (by omega)
  rw [show f_X12_copy H (b + 2) 0 (b + 1) 0 (fm_si m b 9 0) = _ from this, fb_n]
  have o : ∀ a k, a ≠ b + 1 → (cpM (fm_si m b 9 0) (b + 2) 0 (b + 1) 0 1112).1 a k = (fm_si m b 9 0).1 a k := fun a k ha => if_neg (fun z => ha z.1)
  refine fE_ret ⟨⟨rfl, (o _ _ (by omega)).trans h1.2.2.1, (o _ _ (by omega)).trans h1.2.2.2, fun k hk => ?_, (o _ _ (by omega)).trans (si_o (by omega))⟩, (o _ _ (by omega)).trans si_s, fun a k a1 a2 a3 => (o a k a1).trans (si_o (by omega)), rfl⟩
  show (if b + 1 = b + 1 ∧ 0 ≤ k ∧ k < 0 + 1112 then (fm_si m b 9 0).1 (b + 2) (k - 0 + 0) else (fm_si m b 9 0).1 (b + 1) k) = m.1 (b + 2) k
  rw [if_pos ⟨rfl, by omega, by omega⟩, si_o (by omega)]
  rfl
theorem r_62 (hM : kM H b) {p : Nat} (h : rPC b f n m ρ p) (hA : rAll ρ V []) : fE (f_X12_load_62 H b m) (fun r m' => rLE b f n m r m' (.inr (V, p)) ∧ m'.1 b 9 = nn 0 ∧ rLF b m m') := by
  unfold f_X12_load_62
  rw [fb_d]
  have e : f_X12_isFine H b (fm_si m b 9 0) = some (1, fm_si m b 9 0) := by
    unfold f_X12_isFine
    rw [if_pos ((si_o (by omega)).trans h.2.2.2.1)]
  have er : (fm_si (fm_si m b 9 0) b 6 0).1 (b + 1) = ρ := by
    rw [si_oth (by omega), si_oth (by omega)]
    exact h.1
  rw [e, fb_n, if_neg (by decide), fb_d, kM_0 hM, kM_z1 hM, if_pos (by decide), er, show (4 : Int32).toNatClampNeg = 4 by decide, hA.1.2.1.1]
  refine fE_ret ⟨⟨rfl, ?_, ?_, by rw [er]; exact hA, si_s⟩, ?_, fun a k a1 a2 a3 => ?_, rfl⟩
  · rw [si_o (by omega), si_o (by omega)]
    exact h.2.2.2.1
  · rw [si_o (by omega), si_o (by omega)]
    exact h.2.2.2.2
  · rw [si_o (by omega)]
    exact si_s
  · rw [si_o (by omega), si_o (by omega)]
/-- from another memory on -/
theorem rLE_m {m1 m' : fm_M} {r : Int32} {res : PRs} (h : rLE b f n m1 r m' res) (e2 : m1.1 (b + 2) = m.1 (b + 2)) (e6 : m1.1 b 6 = m.1 b 6) : rLE b f n m r m' res := by
  cases res with
  | inl z =>
    obtain ⟨c, p⟩ := z
    obtain ⟨a1, a2, a3, a4, a5⟩ := h
    exact ⟨a1, a2, a3, fun k hk => (a4 k hk).trans (congrFun e2 k), a5.trans e6⟩
  | inr z =>
    obtain ⟨V', p⟩ := z
    exact h
theorem tK_end {p : Nat} (h : n ≤ p) (hp : p ≤ n) : tK f n p = 0 := by
  have := tS_r (f := f) hp
  unfold tK
  rw [if_pos (by omega)]
theorem r_41 (hM : kM H b) {x : Nat} (hx : x ≤ b) : ∀ (r q p : Nat) (V : VV) (m : fm_M) (ρ : Nat → Int32), gL V → p ≤ n → rPC b f n m ρ p → rAll ρ V [] → wdR H m x → n ≤ p + r → r < q → fE (f_X12_load_41 H b q m) (fun out m' => rLE b f n m out m' (loadP f n r V p) ∧ m'.1 b 9 = nn 0 ∧ rLF b m m') := by
  intro r
  induction r with
  | zero =>
    intro q p V m ρ hV hp h hA hw h1 h2
    obtain ⟨q, rfl⟩ : ∃ q', q = q' + 1 := ⟨q - 1, by omega⟩
    have hk4 := tK_4 (f := f) (n := n) (p := p)
    unfold f_X12_load_41
    rw [r_fine h, fb_n, if_neg (by decide), h.2.2.1.1, if_pos ((rkd_0 hk4).mpr (tK_end (by omega) hp))]
    exact r_62 hM h hA
  | succ r ih =>
    intro q p V m ρ hV hp h hA hw h1 h2
    obtain ⟨q, rfl⟩ : ∃ q', q = q' + 1 := ⟨q - 1, by omega⟩
    have hk4 := tK_4 (f := f) (n := n) (p := p)
    rw [loadP_s]
    unfold f_X12_load_41
    rw [r_fine h, fb_n, if_neg (by decide), h.2.2.1.1]
    by_cases z : tK f n p = 0
    · rw [if_pos ((rkd_0 hk4).mpr z), if_pos z]
      exact r_62 hM h hA
    · rw [if_neg (fun y => z ((rkd_0 hk4).mp y)), if_neg z]
      refine fE_be (r_parseStatement hM hp h hw hA hV) (fun _ m1 ⟨g1, g2⟩ => ?_)
      have e2 : m1.1 (b + 2) = m.1 (b + 2) := funext fun k => g2.1 _ _ (by omega) (by omega) (by omega)
      have e6 : m1.1 b 6 = m.1 b 6 := g2.1 _ _ (by omega) (by omega) (by omega)
      cases es : stmtP f n V p with
      | inl y =>
        obtain ⟨c, p'⟩ := y
        rw [es] at g1
        obtain ⟨ρ1, g1⟩ := g1
        obtain ⟨q, rfl⟩ : ∃ q', q = q' + 1 := ⟨q - 1, by omega⟩
        unfold f_X12_load_41
        rw [r_fineE g1, fb_n, if_pos rfl]
        exact fE_w (r_62E hM g1) (fun out m' ⟨k1, k2, k3⟩ => ⟨rLE_m k1 e2 e6, k2, rLF_tr (qR_rL g2) k3⟩)
      | inr y =>
        obtain ⟨V', p'⟩ := y
        rw [es] at g1
        obtain ⟨ρ1, g1, g3⟩ := g1
        obtain ⟨s1, s2, s3⟩ := stmt_ok hp hV es
        exact fE_w (ih q p' V' m1 ρ1 s1 s3 g1 g3 (wdR_w hw (qR_lo hx g2)) (by omega) (by omega)) (fun out m' ⟨k1, k2, k3⟩ => ⟨rLE_m k1 e2 e6, k2, rLF_tr (qR_rL g2) k3⟩)
/-- the reference loads -/
theorem r_load (hM : kM H b) {x : Nat} (hx : x ≤ b) (hT : rTx m b n f) (hw : wdR H m x) (hV : vG V) : fE (f_X12_load H b m) (fun r m' => (match loadP f n 800 (zeV V) 0 with
  | .inl (c, p) => r = -1 ∧ m'.1 b 15 = nn c ∧ m'.1 b 16 = nn (tS f n p) ∧ (∀ k, k < 1112 → m'.1 (b + 1) k = m.1 (b + 1) k) ∧ m'.1 b 6 = m.1 b 6
  | .inr (V, p) => r = nn (eK V) ∧ m'.1 b 15 = 0 ∧ m'.1 b 16 = -1 ∧ rAll (m'.1 (b + 1)) V [] ∧ m'.1 b 6 = nn 0) ∧ m'.1 b 9 = nn 0 ∧ (∀ a k, a ≠ b + 1 → a ≠ b + 2 → ¬ (a = b ∧ (k = 6 ∨ k = 7 ∨ k = 9 ∨ (10 ≤ k ∧ k ≤ 16) ∨ 18 ≤ k)) → ¬ (b + 8 ≤ a ∧ a < b + 11) → m'.1 a k = m.1 a k) ∧ m'.2.1 = m.2.1) := by
  unfold f_X12_load
  rw [fb_d, kM_0 hM, kM_1 hM]
  have := r_copy (H := H) (m := fm_si m b 7 0) (a := b + 1) (p := 0) (d := b + 2) (q := 0) (by omega) (kM_z1 hM) (kM_z2 hM) (by omega) (by omega) (by omega) (by omega)
  rw [show f_X12_copy H (b + 1) 0 (b + 2) 0 (fm_si m b 7 0) = _ from this, fb_n]
  obtain ⟨m2, em2⟩ : ∃ m2, m2 = cpM (fm_si m b 7 0) (b + 1) 0 (b + 2) 0 1112 := ⟨_, rfl⟩
  have o2 : ∀ a k, a ≠ b + 2 → ¬ (a = b ∧ k = 7) → m2.1 a k = m.1 a k := fun a k ha h7 => by
    rw [em2, show (cpM (fm_si m b 7 0) (b + 1) 0 (b + 2) 0 1112).1 a k = (fm_si m b 7 0).1 a k from if_neg (fun z => ha z.1), si_o h7]
  have c2 : ∀ k, k < 1112 → m2.1 (b + 2) k = m.1 (b + 1) k := fun k hk => by
    rw [em2]
    show (if b + 2 = b + 2 ∧ 0 ≤ k ∧ k < 0 + 1112 then (fm_si m b 7 0).1 (b + 1) (k - 0 + 0) else (fm_si m b 7 0).1 (b + 2) k) = m.1 (b + 1) k
    rw [if_pos ⟨rfl, by omega, by omega⟩, si_o (by omega)]
    rfl
  have e22 : m2.2 = m.2 := by rw [em2]; rfl
  rw [← em2]
  refine fE_be (r_clear hM (m00 := m2) (rI_rf rfl)) (fun _ m3 h3 => ?_)
  have o3 : ∀ a k, a ≠ b + 1 → ¬ (a = b ∧ 18 ≤ k) → ¬ (b + 8 ≤ a ∧ a < b + 11) → m3.1 a k = m2.1 a k := h3.2.1
  rw [fb_d, fb_d, fb_d]
  obtain ⟨m6, em6⟩ : ∃ m6, m6 = fm_si (fm_si (fm_si m3 b 15 0) b 16 (-1)) b 10 0 := ⟨_, rfl⟩
  have o6 : ∀ a k, ¬ (a = b ∧ (k = 15 ∨ k = 16 ∨ k = 10)) → m6.1 a k = m3.1 a k := fun a k h => by
    rw [em6, si_o (by omega), si_o (by omega), si_o (by omega)]
  have e15 : m6.1 b 15 = 0 := by
    rw [em6, si_o (by omega), si_o (by omega)]
    exact si_s
  have e16 : m6.1 b 16 = -1 := by
    rw [em6, si_o (by omega)]
    exact si_s
  have e10 : m6.1 b 10 = nn 0 := by
    rw [em6]
    exact si_s
  rw [← em6]
  have hT6 : rTx m6 b n f := ⟨(o6 _ _ (by omega)).trans ((o3 _ _ (by omega) (by omega) (by omega)).trans ((o2 _ _ (by omega) (by omega)).trans hT.1)), hT.2.1, fun k hk => ⟨(o6 _ _ (by omega)).trans ((o3 _ _ (by omega) (by omega) (by omega)).trans ((o2 _ _ (by omega) (by omega)).trans (hT.2.2 k hk).1)), (hT.2.2 k hk).2⟩⟩
  refine fE_be (r_nextToken hM (p := 0) hT6 (by omega) e10) (fun _ m7 ⟨g1, g2⟩ => ?_)
  have r7 : m7.1 (b + 1) = clR (m2.1 (b + 1)) := by
    rw [← h3.1]
    funext k
    rw [g2.1 _ _ (by omega), o6 _ _ (by omega)]
  have hc : rPC b f n m7 (clR (m2.1 (b + 1))) 0 := ⟨r7, rTx_w hT6 g2, g1, (g2.1 _ _ (by omega)).trans e15, (g2.1 _ _ (by omega)).trans e16⟩
  have f7 : ∀ a k, a ≠ b + 1 → a ≠ b + 2 → ¬ (a = b ∧ (k = 7 ∨ (10 ≤ k ∧ k ≤ 16) ∨ 18 ≤ k)) → ¬ (b + 8 ≤ a ∧ a < b + 11) → m7.1 a k = m.1 a k := fun a k a1 a2 a3 a4 => by
    rw [g2.1 _ _ (by omega), o6 _ _ (by omega), o3 _ _ a1 (by omega) a4, o2 _ _ a2 (by omega)]
  have c7 : ∀ k, k < 1112 → m7.1 (b + 2) k = m.1 (b + 1) k := fun k hk => by
    rw [g2.1 _ _ (by omega), o6 _ _ (by omega), o3 _ _ (by omega) (by omega) (by omega)]
    exact c2 k hk
  have e72 : m7.2.1 = m.2.1 := by
    rw [g2.2, em6]
    show m3.2.1 = m.2.1
    rw [h3.2.2, e22]
  refine fE_w (r_41 hM hx 800 fm_N 0 (zeV V) m7 _ (ze_ok hV) (by omega) hc ze_rAll (wdR_w hw (fun a k ha => f7 a k (by omega) (by omega) (by omega) (by omega))) (by have := hT.2.1; omega) (by unfold fm_N; omega)) (fun r m' ⟨k1, k2, k3⟩ => ⟨?_, k2, fun a k a1 a2 a3 a4 => (k3.1 a k a1 (by omega) a4).trans (f7 a k a1 a2 (by omega) a4), k3.2.trans e72⟩)
  cases eL : loadP f n 800 (zeV V) 0 with
  | inl z =>
    obtain ⟨c, p⟩ := z
    rw [eL] at k1
    obtain ⟨a1, a2, a3, a4, a5⟩ := k1
    exact ⟨a1, a2, a3, fun k hk => (a4 k hk).trans (c7 k hk), a5.trans (f7 _ _ (by omega) (by omega) (by omega) (by omega))⟩
  | inr z =>
    obtain ⟨V', p⟩ := z
    rw [eL] at k1
    exact k1
end
