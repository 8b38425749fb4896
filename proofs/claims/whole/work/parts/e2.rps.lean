/-! the reference reads setup texts: its small steps -/
section
variable {H : fm_H} {b n : Nat} {m m0 m00 : fm_M} {f : Nat → Nat} {ρ ρ' : Nat → Int32}
/-- what its reader leaves -/
def qR (b : Nat) (m m' : fm_M) : Prop := (∀ a k, a ≠ b + 1 → ¬ (a = b ∧ ((10 ≤ k ∧ k ≤ 16) ∨ 18 ≤ k)) → ¬ (b + 8 ≤ a ∧ a < b + 11) → m'.1 a k = m.1 a k) ∧ m'.2.1 = m.2.1
theorem qR_rf : qR b m m := ⟨fun _ _ _ _ _ => rfl, rfl⟩
theorem qR_tr {m1 m2 : fm_M} (h1 : qR b m m1) (h2 : qR b m1 m2) : qR b m m2 := ⟨fun a k a1 a2 a3 => (h2.1 a k a1 a2 a3).trans (h1.1 a k a1 a2 a3), h2.2.trans h1.2⟩
theorem qR_w {m1 : fm_M} (h : rW9 b m m1) : qR b m m1 := ⟨fun a k _ a2 _ => h.1 a k (by omega), h.2⟩
theorem qR_I {m1 : fm_M} (h : rI b m m1 ρ) : qR b m m1 := ⟨fun a k a1 a2 a3 => h.2.1 a k a1 (by omega) a3, by rw [h.2.2]⟩
theorem qR_e {k : Nat} {y : Int32} (h : 10 ≤ k ∧ k ≤ 16) : qR b m (fm_si m b k y) := ⟨fun a i _ a2 _ => si_o (by omega), rfl⟩
/-- reading goes on at p -/
def rPC (b : Nat) (f : Nat → Nat) (n : Nat) (m : fm_M) (ρ : Nat → Int32) (p : Nat) : Prop := m.1 (b + 1) = ρ ∧ rTx m b n f ∧ rT m b f n p ∧ m.1 b 15 = 0 ∧ m.1 b 16 = -1
/-- an error was told -/
def rPE (b : Nat) (f : Nat → Nat) (n : Nat) (m : fm_M) (ρ : Nat → Int32) (c p : Nat) : Prop := m.1 (b + 1) = ρ ∧ (1 ≤ c ∧ c ≤ 5) ∧ m.1 b 15 = nn c ∧ m.1 b 16 = nn (tS f n p)
/-- the memory with an error told -/
def erM (b : Nat) (f : Nat → Nat) (n : Nat) (m : fm_M) (c p : Nat) : fm_M := fm_si (fm_si m b 15 (nn c)) b 16 (nn (tS f n p))
theorem rPC_I {m1 : fm_M} {p : Nat} (h : rPC b f n m ρ p) (hm : rI b m m1 ρ') : rPC b f n m1 ρ' p := by
  obtain ⟨h1, h2, h3, h4, h5⟩ := h
  have o : ∀ a k, a ≠ b + 1 → ¬ (a = b ∧ 18 ≤ k) → ¬ (b + 8 ≤ a ∧ a < b + 11) → m1.1 a k = m.1 a k := hm.2.1
  refine ⟨hm.1, ⟨(o _ _ (by omega) (by omega) (by omega)).trans h2.1, h2.2.1, fun k hk => ⟨(o _ _ (by omega) (by omega) (by omega)).trans (h2.2.2 k hk).1, (h2.2.2 k hk).2⟩⟩, ⟨(o _ _ (by omega) (by omega) (by omega)).trans h3.1, (o _ _ (by omega) (by omega) (by omega)).trans h3.2.1, (o _ _ (by omega) (by omega) (by omega)).trans h3.2.2.1, fun z => ⟨(o _ _ (by omega) (by omega) (by omega)).trans (h3.2.2.2.1 z).1, ?_⟩, fun z => ?_⟩, (o _ _ (by omega) (by omega) (by omega)).trans h4, (o _ _ (by omega) (by omega) (by omega)).trans h5⟩
  · rw [hm.2.2]
    exact (h3.2.2.2.1 z).2
  · obtain ⟨v, v1, v2⟩ := h3.2.2.2.2 z
    exact ⟨v, (o _ _ (by omega) (by omega) (by omega)).trans v1, v2⟩
theorem rPC_e {c p : Nat} (hc : 1 ≤ c ∧ c ≤ 5) (h : rPC b f n m ρ p) : rPE b f n (erM b f n m c p) ρ c p := by
  refine ⟨?_, hc, ?_, si_s⟩
  · unfold erM
    rw [si_oth (by omega), si_oth (by omega)]
    exact h.1
  · unfold erM
    rw [si_o (by omega)]
    exact si_s
theorem qR_er {c p : Nat} : qR b m (erM b f n m c p) := qR_tr (qR_e (by omega)) (qR_e (by omega))
theorem rPE_0 {c p : Nat} (h : rPE b f n m ρ c p) : m.1 b 15 ≠ 0 := by
  have := h.2.1
  rw [h.2.2.1, nl_0]
  exact fun z => by
    have := (nn_eq (by omega) (by omega)).mp z
    omega
theorem r_req1 {k : Int32} : f_X12_require H b 1 k m = some ((), m) := by
  unfold f_X12_require
  rw [if_neg (by decide)]
theorem r_req0 {k p : Nat} (h : rPC b f n m ρ p) : f_X12_require H b 0 (nn k) m = some ((), erM b f n m k p) := by
  unfold f_X12_require
  rw [if_pos rfl, if_pos h.2.2.2.1, fb_d, si_o (by omega), h.2.2.1.2.1, fb_d]
  rfl
theorem r_reqE {c p : Nat} {v k : Int32} (h : rPE b f n m ρ c p) : f_X12_require H b v k m = some ((), m) := by
  unfold f_X12_require
  split
  · rw [if_neg (rPE_0 h)]
  · rfl
theorem r_fine {p : Nat} (h : rPC b f n m ρ p) : f_X12_isFine H b m = some (1, m) := by
  unfold f_X12_isFine
  rw [if_pos h.2.2.2.1]
theorem r_fineE {c p : Nat} (h : rPE b f n m ρ c p) : f_X12_isFine H b m = some (0, m) := by
  unfold f_X12_isFine
  rw [if_neg (rPE_0 h)]
theorem r_adv (hM : kM H b) {p : Nat} (hp : p ≤ n) (h : rPC b f n m ρ p) : fE (f_X12_advance H b m) (fun _ m' => rPC b f n m' ρ (tE f n p) ∧ rW9 b m m') := by
  have he := tE_r (f := f) hp
  unfold f_X12_advance
  rw [r_fine h, fb_n, if_neg (by decide)]
  refine fE_be (r_nextToken hM h.2.1 he.2.1 h.2.2.1.2.2.1) (fun _ m1 ⟨a1, a2⟩ => fE_ret ⟨⟨?_, rTx_w h.2.1 a2, a1, (a2.1 _ _ (by omega)).trans h.2.2.2.1, (a2.1 _ _ (by omega)).trans h.2.2.2.2⟩, a2⟩)
  rw [← h.1]
  funext k
  exact a2.1 _ _ (by omega)
theorem r_advE {c p : Nat} (h : rPE b f n m ρ c p) : f_X12_advance H b m = some ((), m) := by
  unfold f_X12_advance
  rw [r_fineE h, fb_n, if_pos rfl]
theorem rkd_3 {k : Nat} (h : k ≤ 4) : nn (rkd k) = 3 ↔ k = 2 := by
  rcases (show k = 0 ∨ k = 1 ∨ k = 2 ∨ k = 3 ∨ k = 4 by omega) with e | e | e | e | e <;> subst e <;> decide
theorem rkd_4 {k : Nat} (h : k ≤ 4) : nn (rkd k) = 4 ↔ k = 3 := by
  rcases (show k = 0 ∨ k = 1 ∨ k = 2 ∨ k = 3 ∨ k = 4 by omega) with e | e | e | e | e <;> subst e <;> decide
theorem rkd_0 {k : Nat} (h : k ≤ 4) : nn (rkd k) = 0 ↔ k = 0 := by
  rcases (show k = 0 ∨ k = 1 ∨ k = 2 ∨ k = 3 ∨ k = 4 by omega) with e | e | e | e | e <;> subst e <;> decide
theorem rg_iR {v lo : Nat} {hi : Int} (hv : v ≤ 200000000) (hl : lo ≤ 2000000) (hh : -1 ≤ hi ∧ hi ≤ 2000000) : ((nn lo : Int32) ≤ nn v ∧ nn v ≤ ii hi) ↔ (lo ≤ v ∧ (v : Int) ≤ hi) := by
  rw [nn_le (by omega) (by omega), nn_ii, ii_le (by omega) (by omega) (by omega) (by omega)]
theorem r_look {p lo : Nat} {hi : Int} (hl : lo ≤ 1000) (hh : -1 ≤ hi ∧ hi ≤ 1000) (h : rPC b f n m ρ p) : (ckN f n p lo hi = 0 ∧ f_X12_look H b (nn lo) (ii hi) m = some ((), m) ∧ m.1 b 14 = nn (tV f n p)) ∨ (ckN f n p lo hi ≠ 0 ∧ f_X12_look H b (nn lo) (ii hi) m = some ((), erM b f n m (ckN f n p lo hi) p)) := by
  have hk4 := tK_4 (f := f) (n := n) (p := p)
  unfold f_X12_look
  rw [h.2.2.1.1]
  by_cases k2 : tK f n p = 2
  · obtain ⟨v, v1, v2⟩ := h.2.2.1.2.2.2.2 k2
    rw [if_pos ((rkd_3 hk4).mpr k2), r_req1, fb_n, v1, r_isBetween, fb_n]
    have hv : v ≤ 200000000 := by
      rcases v2 with ⟨a1, a2⟩ | ⟨a1, a2, a3⟩ <;> omega
    by_cases z : lo ≤ tV f n p ∧ (tV f n p : Int) ≤ hi
    · have ev : tV f n p = v := by
        rcases v2 with ⟨a1, a2⟩ | ⟨a1, a2, a3⟩ <;> omega
      refine Or.inl ⟨?_, ?_, ?_⟩
      · unfold ckN
        rw [if_pos k2, if_pos z]
      · rw [decide_eq_true ((rg_iR hv (by omega) (by omega)).mpr (by rw [← ev]; exact z)), show bi true = 1 from rfl, r_req1, fb_n]
      · rw [ev]
    · have e0 : ckN f n p lo hi = 2 := by
        unfold ckN
        rw [if_pos k2, if_neg z]
      refine Or.inr ⟨by rw [e0]; omega, ?_⟩
      rw [decide_eq_false (fun q => z (by
        have := (rg_iR hv (by omega) (by omega)).mp q
        rcases v2 with ⟨a1, a2⟩ | ⟨a1, a2, a3⟩ <;> omega)), show bi false = 0 from rfl, show (2 : Int32) = nn 2 from nl_2, r_req0 h, fb_n, e0]
  · have e0 : ckN f n p lo hi = 1 := by
      unfold ckN
      rw [if_neg k2]
    refine Or.inr ⟨by rw [e0]; omega, ?_⟩
    have pe := rPC_e (c := 1) (by omega) h
    rw [if_neg (fun z => k2 ((rkd_3 hk4).mp z)), show (1 : Int32) = nn 1 from nl_1, r_req0 h, fb_n, r_isBetween, fb_n, r_reqE pe, fb_n, e0]
theorem r_lookE {c p : Nat} {lo hi : Int32} (h : rPE b f n m ρ c p) : f_X12_look H b lo hi m = some ((), m) := by
  unfold f_X12_look
  split
  · rw [r_reqE h, fb_n, r_isBetween, fb_n, r_reqE h, fb_n]
  · rw [r_reqE h, fb_n, r_isBetween, fb_n, r_reqE h, fb_n]
theorem r_num (hM : kM H b) {p lo : Nat} {hi : Int} (hp : p ≤ n) (hl : lo ≤ 1000) (hh : -1 ≤ hi ∧ hi ≤ 1000) (h : rPC b f n m ρ p) : fE (f_X12_parseNumber H b (nn lo) (ii hi) m) (fun r m' => (ckN f n p lo hi = 0 ∧ r = nn (tV f n p) ∧ rPC b f n m' ρ (tE f n p) ∧ qR b m m') ∨ (ckN f n p lo hi ≠ 0 ∧ rPE b f n m' ρ (ckN f n p lo hi) p ∧ qR b m m')) := by
  have hc2 := ckN_2 (f := f) (n := n) (p := p) (lo := lo) (hi := hi)
  unfold f_X12_parseNumber
  rcases r_look (H := H) hl hh h with ⟨e0, e1, e2⟩ | ⟨e0, e1⟩
  · rw [e1, fb_n, e2]
    exact fE_be (r_adv hM hp h) (fun _ m1 ⟨a1, a2⟩ => fE_ret (Or.inl ⟨e0, rfl, a1, qR_w a2⟩))
  · have pe := rPC_e (c := ckN f n p lo hi) (by omega) h
    rw [e1, fb_n, r_advE pe, fb_n]
    exact fE_ret (Or.inr ⟨e0, pe, qR_er⟩)
theorem r_numE {c p : Nat} {lo hi : Int32} (h : rPE b f n m ρ c p) : f_X12_parseNumber H b lo hi m = some (m.1 b 14, m) := by
  unfold f_X12_parseNumber
  rw [r_lookE h, fb_n, r_advE h, fb_n]
end
