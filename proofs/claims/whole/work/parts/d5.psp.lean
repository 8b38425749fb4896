/-! setup texts: what is read; the class's reader, its small steps -/
abbrev PRs : Type := (Nat × Nat) ⊕ (VV × Nat)
/-- the i-th token behind -/
def tN (f : Nat → Nat) (n p : Nat) : Nat → Nat
  | 0 => p
  | i + 1 => tE f n (tN f n p i)
theorem tN_r {f : Nat → Nat} {n p : Nat} (h : p ≤ n) : ∀ {i : Nat}, p ≤ tN f n p i ∧ tN f n p i ≤ n := by
  intro i
  induction i with
  | zero => exact ⟨Nat.le_refl _, h⟩
  | succ i ih =>
    have a := tE_r (f := f) ih.2
    have b := tS_r (f := f) ih.2
    show p ≤ tE f n (tN f n p i) ∧ tE f n (tN f n p i) ≤ n
    omega
/-- is it a number from lo to hi -/
def ckN (f : Nat → Nat) (n p lo : Nat) (hi : Int) : Nat := if tK f n p = 2 then (if lo ≤ tV f n p ∧ (tV f n p : Int) ≤ hi then 0 else 2) else 1
theorem ckN_0 {f : Nat → Nat} {n p lo : Nat} {hi : Int} (h : ckN f n p lo hi = 0) : tK f n p = 2 ∧ lo ≤ tV f n p ∧ (tV f n p : Int) ≤ hi := by
  unfold ckN at h
  split at h
  · rename_i a
    split at h
    · rename_i c
      exact ⟨a, c.1, c.2⟩
    · cases h
  · cases h
theorem ckN_2 {f : Nat → Nat} {n p lo : Nat} {hi : Int} : ckN f n p lo hi ≤ 2 := by
  unfold ckN
  split
  · split <;> omega
  · omega
def nodeP (f : Nat → Nat) (n : Nat) (V : VV) (p : Nat) : PRs := if 10 ≤ eN V then .inl (3, p) else
  if ckN f n (tN f n p 1) 1 12 ≠ 0 then .inl (ckN f n (tN f n p 1) 1 12, tN f n p 1) else
  .inr (anE V (nn (tV f n (tN f n p 1))), tN f n p 2)
def linkP (f : Nat → Nat) (n : Nat) (V : VV) (p : Nat) : PRs := if 16 ≤ eL V then .inl (3, p) else
  if ckN f n (tN f n p 1) 0 ((eN V : Int) - 1) ≠ 0 then .inl (ckN f n (tN f n p 1) 0 ((eN V : Int) - 1), tN f n p 1) else
  if ckN f n (tN f n p 2) 0 ((eN V : Int) - 1) ≠ 0 then .inl (ckN f n (tN f n p 2) 0 ((eN V : Int) - 1), tN f n p 2) else
  if tV f n (tN f n p 1) = tV f n (tN f n p 2) ∨ lkE V (nn (tV f n (tN f n p 1))) (nn (tV f n (tN f n p 2))) ≠ -1 then .inl (4, tN f n p 2) else
  if ckN f n (tN f n p 3) 1 99 ≠ 0 then .inl (ckN f n (tN f n p 3) 1 99, tN f n p 3) else
  if ckN f n (tN f n p 4) 1 9 ≠ 0 then .inl (ckN f n (tN f n p 4) 1 9, tN f n p 4) else
  .inr (alE V (tV f n (tN f n p 1)) (tV f n (tN f n p 2)) (nn (tV f n (tN f n p 3))) (nn (tV f n (tN f n p 4))), tN f n p 5)
def setP (f : Nat → Nat) (n : Nat) (V : VV) (p : Nat) : PRs := if ckN f n (tN f n p 1) 0 1 ≠ 0 then .inl (ckN f n (tN f n p 1) 0 1, tN f n p 1) else
  if ckN f n (tN f n p 2) 0 (if tV f n (tN f n p 1) = 0 then 4 else 1) ≠ 0 then .inl (ckN f n (tN f n p 2) 0 (if tV f n (tN f n p 1) = 0 then 4 else 1), tN f n p 2) else
  .inr (stV V (tV f n (tN f n p 1)) (nn (tV f n (tN f n p 2))), tN f n p 3)
/-- the way of circuit K with a node more -/
def apV (W : VV) (K j v : Nat) (lk : Int32) : VV := uV (uV (uV (uV W 11 K j (nn v)) 12 K j lk) 13 K j (-1)) 10 K 0 (nn (j + 1))
def wlP (f : Nat → Nat) (n K : Nat) (band : Int32) : Nat → VV → Nat → Nat → PRs
  | 0, _, _, p => .inl (1, p)
  | r + 1, W, j, p => if 2 ≤ j ∧ tK f n p = 3 then .inr (uV (mkL W K 0 1 (j - 1)) 0 0 5 (nn (K + 1)), p) else
    if ckN f n p 0 ((eN W : Int) - 1) ≠ 0 then .inl (ckN f n p 0 ((eN W : Int) - 1), p) else
    if 6 ≤ j then .inl (3, p) else
    if ny (fun k => decide (W 11 K k = nn (tV f n p))) 0 j = true ∨ lkE W (W 11 K (j - 1)) (nn (tV f n p)) = -1 then .inl (4, p) else
    if hr W (eL W) (eK W) (eA W) (eB W) (lkE W (W 11 K (j - 1)) (nn (tV f n p))) band (-1) = false then .inl (5, p) else
    if tkI W (tV f n p) = -1 then .inl (5, p) else
    wlP f n K band r (taE (apV W K j (tV f n p) (ii (lkE W (W 11 K (j - 1)) (nn (tV f n p))))) K 0 j (tkI W (tV f n p)).toNat (tV f n p)) (j + 1) (tE f n p)
def circP (f : Nat → Nat) (n : Nat) (V : VV) (p : Nat) : PRs := if 8 ≤ eK V then .inl (3, p) else
  if ckN f n (tN f n p 1) 1 20 ≠ 0 then .inl (ckN f n (tN f n p 1) 1 20, tN f n p 1) else
  if ckN f n (tN f n p 2) 0 9 ≠ 0 then .inl (ckN f n (tN f n p 2) 0 9, tN f n p 2) else
  if ckN f n (tN f n p 3) 0 ((eN V : Int) - 1) ≠ 0 then .inl (ckN f n (tN f n p 3) 0 ((eN V : Int) - 1), tN f n p 3) else
  wlP f n (eK V) (nn (tV f n (tN f n p 1))) 6 (apV (bgV V (eK V) (nn (tV f n (tN f n p 1))) (nn (tV f n (tN f n p 2)))) (eK V) 0 (tV f n (tN f n p 3)) (-1)) 1 (tN f n p 4)
def uN : List Nat := [110, 111, 100, 101]
def uLk : List Nat := [108, 105, 110, 107]
def uCi : List Nat := [99, 105, 114, 99, 117, 105, 116]
def uSe : List Nat := [115, 101, 116]
def stmtB (f : Nat → Nat) (n : Nat) (V : VV) (p : Nat) : PRs := if wdB f n p uN = true then nodeP f n V p else if wdB f n p uLk = true then linkP f n V p else if wdB f n p uCi = true then circP f n V p else if wdB f n p uSe = true then setP f n V p else .inl (1, p)
def semiP (f : Nat → Nat) (n : Nat) : PRs → PRs
  | .inl e => .inl e
  | .inr (V, p) => if tK f n p = 3 then .inr (V, tE f n p) else .inl (1, p)
def stmtP (f : Nat → Nat) (n : Nat) (V : VV) (p : Nat) : PRs := semiP f n (stmtB f n V p)
def loadP (f : Nat → Nat) (n : Nat) : Nat → VV → Nat → PRs
  | 0, V, p => .inr (V, p)
  | r + 1, V, p => if tK f n p = 0 then .inr (V, p) else match stmtP f n V p with
    | .inl e => .inl e
    | .inr (V', p') => loadP f n r V' p'
section
variable {H : fm_H} {x t n : Nat} {m m0 m00 : fm_M} {f : Nat → Nat} {V : VV}
/-- what the reader leaves -/
def qF (x t : Nat) (m m' : fm_M) : Prop := (∀ a k, a ≠ x + 1 → ¬ (a = x + 2 ∧ 2 ≤ k ∧ k ≤ 5) → ¬ (t ≤ a ∧ a < t + 160) → m'.1 a k = m.1 a k) ∧ m'.2 = m.2
theorem qF_rf {x t : Nat} {m : fm_M} : qF x t m m := ⟨fun _ _ _ _ _ => rfl, rfl⟩
theorem qF_tr {x t : Nat} {m m1 m2 : fm_M} (h1 : qF x t m m1) (h2 : qF x t m1 m2) : qF x t m m2 := ⟨fun a k a1 a2 a3 => (h2.1 a k a1 a2 a3).trans (h1.1 a k a1 a2 a3), h2.2.trans h1.2⟩
theorem qF_w {x t : Nat} {m m1 : fm_M} (h : wT (x + 2) m m1) : qF x t m m1 := ⟨fun a k _ a2 _ => h.1 a k a2, h.2⟩
theorem qF_mI {x t : Nat} {m m1 : fm_M} {V' : VV} (h : mI t m m1 V') : qF x t m m1 := ⟨fun a k _ _ a3 => (h.2.2.1.1 a k (by omega)).1, Prod.ext h.2.2.2 h.2.2.1.2⟩
/-- reading goes on at p, with V -/
def pC (x t : Nat) (f : Nat → Nat) (n : Nat) (m : fm_M) (V : VV) (p : Nat) : Prop := pS m t ∧ cv m t = V ∧ (cTx m (x + 2) n f ∧ m.1 (x + 1) 2 = -1) ∧ cT m (x + 2) f n p ∧ m.1 (x + 1) 1 = 0
/-- an error was told -/
def pE (x t : Nat) (f : Nat → Nat) (n : Nat) (m : fm_M) (c p : Nat) : Prop := sp m t ∧ (1 ≤ c ∧ c ≤ 5) ∧ m.1 (x + 1) 1 = nn c ∧ m.1 (x + 1) 2 = nn (tS f n p)
/-- the desk's reader and its state t, apart -/
def kR (H : fm_H) (x t : Nat) : Prop := H.2.1 (x + 1) 0 = x + 2 ∧ H.2.1 (x + 2) 0 = x + 3 ∧ fm_sz H (x + 3) = 800 ∧ kS H t ∧ x + 4 ≤ t
theorem pC_w {m' : fm_M} (hk : kR H x t) {p p' : Nat} (h : pC x t f n m V p) (hw : wT (x + 2) m m') (hc : cT m' (x + 2) f n p') : pC x t f n m' V p' := by
  obtain ⟨h1, h2, h3, h4, h5⟩ := h
  have := hk.2.2.2.2
  exact ⟨pS_2 h1 hw.2, (cv_f h1 (fun a k a1 _ => hw.1 a k (by omega)) hw.2).trans h2, ⟨cTx_w h3.1 hw, (hw.1 _ _ (by omega)).trans h3.2⟩, hc, (hw.1 _ _ (by omega)).trans h5⟩
theorem pC_e (hk : kR H x t) {p k : Nat} (hk5 : 1 ≤ k ∧ k ≤ 5) (h : pC x t f n m V p) (hG : vG V) : pE x t f n (fm_si (fm_si m (x + 1) 1 (nn k)) (x + 1) 2 (nn (tS f n p))) k p := by
  obtain ⟨h1, h2, h3, h4, h5⟩ := h
  have ht := hk.2.2.2.2
  refine ⟨⟨pS_2 h1 rfl, ?_⟩, hk5, ?_, si_s⟩
  · rw [cv_f (m := m) (m' := fm_si (fm_si m (x + 1) 1 (nn k)) (x + 1) 2 (nn (tS f n p))) h1 (fun a k a1 _ => by rw [si_o (by omega), si_o (by omega)]) rfl, h2]
    exact hG
  · rw [si_o (by omega)]
    exact si_s
theorem c_pass (hk : kR H x t) {p : Nat} (hp : p ≤ n) (h : pC x t f n m V p) : fE (f_X6_passToken H (x + 1) m) (fun _ m' => pC x t f n m' V (tE f n p) ∧ wT (x + 2) m m') := by
  have he := tE_r (f := f) hp
  unfold f_X6_passToken
  rw [if_pos h.2.2.2.2, hk.1]
  refine fE_be (c_toNext hk.2.1 hk.2.2.1 h.2.2.1.1 he.2.1 h.2.2.2.1.2.2.1) (fun _ m1 ⟨a1, a2⟩ => fE_ret ⟨pC_w hk h a2 a1, a2⟩)
theorem pE_0 {c p : Nat} (h : pE x t f n m c p) : m.1 (x + 1) 1 ≠ 0 := by
  have := h.2.1
  rw [h.2.2.1, nl_0]
  exact fun z => by
    have := (nn_eq (by omega) (by omega)).mp z
    omega
theorem c_passE {c p : Nat} (h : pE x t f n m c p) : f_X6_passToken H (x + 1) m = some ((), m) := by
  unfold f_X6_passToken
  rw [if_neg (pE_0 h)]
theorem c_failN (hk : kR H x t) {p k : Nat} (h : pC x t f n m V p) : f_X6_fail H (x + 1) (nn k) m = some ((), fm_si (fm_si m (x + 1) 1 (nn k)) (x + 1) 2 (nn (tS f n p))) := by
  unfold f_X6_fail
  rw [if_pos h.2.2.2.2, fb_d, hk.1, si_o (by omega), h.2.2.2.1.2.1, fb_d]
theorem c_failE {c p : Nat} {k : Int32} (h : pE x t f n m c p) : f_X6_fail H (x + 1) k m = some ((), m) := by
  unfold f_X6_fail
  rw [if_neg (pE_0 h)]
theorem qF_1 {k : Nat} {y : Int32} : qF x t m (fm_si m (x + 1) k y) := ⟨fun a i h _ _ => si_o (fun z => h z.1), rfl⟩
theorem tV_b {p : Nat} : tV f n p ≤ 1000000 := fv_b (by omega)
theorem tK_4 {p : Nat} : tK f n p ≤ 4 := by
  unfold tK
  split
  · omega
  · split
    · omega
    · split
      · omega
      · split <;> omega
/-- in the range, in the class's words -/
theorem rg_ii {v lo : Nat} {hi : Int} (hv : v ≤ 2000000) (hl : lo ≤ 2000000) (hh : -1 ≤ hi ∧ hi ≤ 2000000) : ((nn lo : Int32) ≤ nn v ∧ nn v ≤ ii hi) ↔ (lo ≤ v ∧ (v : Int) ≤ hi) := by
  rw [nn_le (by omega) (by omega), nn_ii, ii_le (by omega) (by omega) (by omega) (by omega)]
theorem c_check (hk : kR H x t) {p lo : Nat} {hi : Int} (hl : lo ≤ 1000) (hh : -1 ≤ hi ∧ hi ≤ 1000) (h : pC x t f n m V p) (hG : vG V) : (ckN f n p lo hi = 0 ∧ f_X6_checkedNumber H (x + 1) (nn lo) (ii hi) m = some (nn (tV f n p), m)) ∨ (ckN f n p lo hi ≠ 0 ∧ fE (f_X6_checkedNumber H (x + 1) (nn lo) (ii hi) m) (fun r m' => r = -1 ∧ pE x t f n m' (ckN f n p lo hi) p ∧ qF x t m m')) := by
  have hvb := tV_b (f := f) (n := n) (p := p)
  have hk4 := tK_4 (f := f) (n := n) (p := p)
  have e2 := h.2.2.2.1.1
  unfold f_X6_checkedNumber
  rw [hk.1, e2]
  by_cases k2 : tK f n p = 2
  · rw [if_pos (by rw [k2]; rfl), h.2.2.2.1.2.2.2 k2, c_out, fb_n]
    by_cases z : lo ≤ tV f n p ∧ (tV f n p : Int) ≤ hi
    · have e0 : ckN f n p lo hi = 0 := by
        unfold ckN
        rw [if_pos k2, if_pos z]
      refine Or.inl ⟨e0, ?_⟩
      rw [decide_eq_true ((rg_ii (by omega) (by omega) (by omega)).mpr z), if_pos (by decide)]
      unfold f_X6_checkedNumber_39
      rw [if_pos h.2.2.2.2, hk.1, h.2.2.2.1.2.2.2 k2]
    · have e0 : ckN f n p lo hi = 2 := by
        unfold ckN
        rw [if_pos k2, if_neg z]
      refine Or.inr ⟨by rw [e0]; omega, ?_⟩
      rw [decide_eq_false (fun q => z ((rg_ii (by omega) (by omega) (by omega)).mp q)), if_neg (by decide), show (2 : Int32) = nn 2 from nl_2, c_failN hk h, fb_n, e0]
      unfold f_X6_checkedNumber_39
      have pe := pC_e hk (k := 2) (by omega) h hG
      rw [if_neg (by rw [pe.2.2.1]; decide)]
      exact fE_ret ⟨rfl, pe, qF_tr qF_1 qF_1⟩
  · have e0 : ckN f n p lo hi = 1 := by
      unfold ckN
      rw [if_neg k2]
    refine Or.inr ⟨by rw [e0]; omega, ?_⟩
    rw [if_neg (by rw [nl_2, nn_eq (by omega) (by omega)]; exact k2), show (1 : Int32) = nn 1 from nl_1, c_failN hk h, fb_n, e0]
    unfold f_X6_checkedNumber_39
    have pe := pC_e hk (k := 1) (by omega) h hG
    rw [if_neg (by rw [pe.2.2.1]; decide)]
    exact fE_ret ⟨rfl, pe, qF_tr qF_1 qF_1⟩
theorem c_checkE (hk : kR H x t) {c p : Nat} {lo hi : Int32} (h : pE x t f n m c p) : f_X6_checkedNumber H (x + 1) lo hi m = some (-1, m) := by
  have e : f_X6_checkedNumber_39 H (x + 1) m = some (-1, m) := by
    unfold f_X6_checkedNumber_39
    rw [if_neg (pE_0 h)]
  unfold f_X6_checkedNumber
  split
  · rw [c_out, fb_n]
    split
    · exact e
    · rw [c_failE h, fb_n, e]
  · rw [c_failE h, fb_n, e]
theorem c_num (hk : kR H x t) {p lo : Nat} {hi : Int} (hp : p ≤ n) (hl : lo ≤ 1000) (hh : -1 ≤ hi ∧ hi ≤ 1000) (h : pC x t f n m V p) (hG : vG V) : fE (f_X6_passNumber H (x + 1) (nn lo) (ii hi) m) (fun r m' => (ckN f n p lo hi = 0 ∧ r = nn (tV f n p) ∧ pC x t f n m' V (tE f n p) ∧ wT (x + 2) m m') ∨ (ckN f n p lo hi ≠ 0 ∧ r = -1 ∧ pE x t f n m' (ckN f n p lo hi) p ∧ qF x t m m')) := by
  unfold f_X6_passNumber
  rcases c_check hk hl hh h hG with ⟨e0, e1⟩ | ⟨e0, e1⟩
  · rw [e1, fb_n]
    exact fE_be (c_pass hk hp h) (fun _ m1 ⟨a1, a2⟩ => fE_ret (Or.inl ⟨e0, rfl, a1, a2⟩))
  · refine fE_be e1 (fun r m1 ⟨a1, a2, a3⟩ => ?_)
    rw [c_passE a2, fb_n]
    exact fE_ret (Or.inr ⟨e0, a1, a2, a3⟩)
theorem c_numE (hk : kR H x t) {c p : Nat} {lo hi : Int32} (h : pE x t f n m c p) : f_X6_passNumber H (x + 1) lo hi m = some (-1, m) := by
  unfold f_X6_passNumber
  rw [c_checkE hk h, fb_n, c_passE h, fb_n]
/-- the first word: is there room -/
theorem c_first (hk : kR H x t) {p N M : Nat} (hp : p ≤ n) (hN : N ≤ 1000) (hM : M ≤ 1000) (h : pC x t f n m V p) (hG : vG V) : fE (f_X6_passFirstWord H (x + 1) (nn N) (nn M) m) (fun r m' => (N < M ∧ r = 1 ∧ pC x t f n m' V (tE f n p) ∧ wT (x + 2) m m') ∨ (M ≤ N ∧ r = 0 ∧ pE x t f n m' 3 p ∧ qF x t m m')) := by
  unfold f_X6_passFirstWord
  by_cases z : N < M
  · rw [if_pos ((nn_lt (by omega) (by omega)).mpr z)]
    refine fE_be (c_pass hk hp h) (fun _ m1 ⟨a1, a2⟩ => ?_)
    rw [if_pos a1.2.2.2.2]
    exact fE_ret (Or.inl ⟨z, rfl, a1, a2⟩)
  · rw [if_neg (by rw [nn_lt (by omega) (by omega)]; exact z), show (3 : Int32) = nn 3 from nl_3, c_failN hk h, fb_n]
    have pe := pC_e hk (k := 3) (by omega) h hG
    rw [c_passE pe, fb_n, if_neg (by rw [pe.2.2.1]; decide)]
    exact fE_ret (Or.inr ⟨by omega, rfl, pe, qF_tr qF_1 qF_1⟩)
end
