/-! ticks one after another; the reference copies -/
def tkM (E : VV) (l : List (Nat → Int32)) : Nat → VV × List (Nat → Int32)
  | 0 => (E, l)
  | n + 1 => tkM (tkE E l).1 (tkE E l).2 n
theorem tkM_S (E : VV) (l : List (Nat → Int32)) (n : Nat) : tkM E l (n + 1) = tkM (tkE E l).1 (tkE E l).2 n := rfl
theorem rP_cc {ρ ρ' : Nat → Int32} {l : List (Nat → Int32)} (h : rP ρ l) (e : ∀ k, k = 6 ∨ (632 ≤ k ∧ k < 1112) → ρ' k = ρ k) : rP ρ' l := by
  obtain ⟨p1, p2, p3⟩ := h
  refine ⟨(e 6 (by omega)).trans p1, p2, fun p r hr => ?_⟩
  have hp : p < l.length := (List.getElem?_eq_some_iff.mp hr).1
  obtain ⟨q0, q1, q2, q3, q4, q5, q6⟩ := p3 p r hr
  exact ⟨(e _ (by omega)).trans q0, (e _ (by omega)).trans q1, (e _ (by omega)).trans q2, (e _ (by omega)).trans q3, by rw [e _ (by omega), e _ (by omega)]; exact q4, (e _ (by omega)).trans q5, (e _ (by omega)).trans q6⟩
theorem rAll_c {ρ ρ' : Nat → Int32} {E : VV} {l : List (Nat → Int32)} (h : rAll ρ E l) (hG : vG E) (e : ∀ k, k < 1112 → ρ' k = ρ k) : rAll ρ' E l := ⟨rB_j h.1 hG (fun k k1 _ _ => e k (by omega)), rP_cc h.2 (fun k hk => e k (by omega))⟩
section
variable {H : fm_H} {b : Nat} {m m00 : fm_M}
/-- a row is copied -/
def cpM (m : fm_M) (a p d q j : Nat) : fm_M := (fun c k => if c = d ∧ q ≤ k ∧ k < q + j then m.1 a (k - q + p) else m.1 c k, m.2)
theorem r_copy_l {a p d q n1 n2 : Nat} (had : a ≠ d) (hz1 : fm_sz H a = n1) (hz2 : fm_sz H d = n2) (h1 : p + 1112 ≤ n1) (h2 : q + 1112 ≤ n2) (hn1 : n1 ≤ 10000) (hn2 : n2 ≤ 10000) : ∀ (k f j : Nat), j + k = 1112 → k < f → f_X12_copy_3 H a (nn p) d (nn q) f (nn j) (cpM m a p d q j) = some ((), cpM m a p d q 1112) := by
  intro k
  induction k with
  | zero =>
    intro f j e1 e2
    obtain ⟨f, rfl⟩ : ∃ f', f = f' + 1 := ⟨f - 1, by omega⟩
    have ej : j = 1112 := by omega
    subst ej
    unfold f_X12_copy_3
    rw [if_pos (by decide)]
  | succ k ih =>
    intro f j e1 e2
    obtain ⟨f, rfl⟩ : ∃ f', f = f' + 1 := ⟨f - 1, by omega⟩
    unfold f_X12_copy_3
    rw [if_neg (by rw [nl_1112, nn_le (by omega) (by omega)]; omega), nn_add, nn_add, hz1, hz2, if_pos ((nn_in (by omega)).mpr (by omega)), if_pos ((nn_in (by omega)).mpr (by omega)), nn_tn (by omega), nn_tn (by omega), nn_inc, fb_d]
    have st : fm_si (cpM m a p d q j) d (q + j) ((cpM m a p d q j).1 a (p + j)) = cpM m a p d q (j + 1) := by
      refine M_ext (fun c i => ?_) rfl
      have ra : (cpM m a p d q j).1 a (p + j) = m.1 a (p + j) := if_neg (fun z => had z.1)
      rw [si_at, ra]
      show _ = if c = d ∧ q ≤ i ∧ i < q + (j + 1) then m.1 a (i - q + p) else m.1 c i
      by_cases e : c = d ∧ i = q + j
      · rw [if_pos e, if_pos ⟨e.1, by omega, by omega⟩, show i - q + p = p + j by omega]
      · rw [if_neg e]
        show (if c = d ∧ q ≤ i ∧ i < q + j then m.1 a (i - q + p) else m.1 c i) = _
        by_cases e2 : c = d ∧ q ≤ i ∧ i < q + j
        · rw [if_pos e2, if_pos ⟨e2.1, e2.2.1, by omega⟩]
        · rw [if_neg e2, if_neg (by omega)]
    rw [st]
    exact ih f (j + 1) (by omega) (by omega)
theorem r_copy {a p d q n1 n2 : Nat} (had : a ≠ d) (hz1 : fm_sz H a = n1) (hz2 : fm_sz H d = n2) (h1 : p + 1112 ≤ n1) (h2 : q + 1112 ≤ n2) (hn1 : n1 ≤ 10000) (hn2 : n2 ≤ 10000) : f_X12_copy H a (nn p) d (nn q) m = some ((), cpM m a p d q 1112) := by
  unfold f_X12_copy
  have e : cpM m a p d q 0 = m := M_ext (fun c k => if_neg (by omega)) rfl
  have := r_copy_l (m := m) had hz1 hz2 h1 h2 hn1 hn2 1112 fm_N 0 (by omega) (by unfold fm_N; omega)
  rw [e] at this
  exact this
/-- a tick, whatever the memory -/
theorem tk_ok (hM : kM H b) {ρ : Nat → Int32} {E : VV} {l : List (Nat → Int32)} (hA : rAll ρ E l) (hI : iG E l) : (∃ ρ', rAll ρ' (tkE E l).1 (tkE E l).2) ∧ iG (tkE E l).1 (tkE E l).2 := by
  have m0 : fm_M := (fun a k => if a = b + 1 then ρ k else 0, fun _ _ => 0, fun _ _ => 0)
  have h := r_passTick (m := (fun a k => if a = b + 1 then ρ k else 0, fun _ _ => 0, fun _ _ => 0)) (m00 := (fun a k => if a = b + 1 then ρ k else 0, fun _ _ => 0, fun _ _ => 0)) hM (rI_rf (funext fun k => if_pos rfl)) hA hI.1
  obtain ⟨_, m', -, ρ', h1, h2, h3⟩ := h
  exact ⟨⟨ρ', h2⟩, tk_iG hI h3⟩
theorem tkM_ok (hM : kM H b) : ∀ {n : Nat} {ρ : Nat → Int32} {E : VV} {l : List (Nat → Int32)}, rAll ρ E l → iG E l → (∃ ρ', rAll ρ' (tkM E l n).1 (tkM E l n).2) ∧ iG (tkM E l n).1 (tkM E l n).2 := by
  intro n
  induction n with
  | zero => exact fun hA hI => ⟨⟨_, hA⟩, hI⟩
  | succ n ih =>
    intro ρ E l hA hI
    obtain ⟨⟨ρ', h1⟩, h2⟩ := tk_ok hM hA hI
    exact ih h1 h2
theorem tkM_NM (hM : kM H b) : ∀ {n T : Nat} {ρ : Nat → Int32} {E : VV} {l : List (Nat → Int32)}, rAll ρ E l → iG E l → iNM T E → iNM (T + n) (tkM E l n).1 := by
  intro n
  induction n with
  | zero => exact fun _ _ h => h
  | succ n ih =>
    intro T ρ E l hA hI hN
    obtain ⟨⟨ρ', h1⟩, h2⟩ := tk_ok hM hA hI
    have := ih h1 h2 (tk_NM hA.2.2.1 hN)
    rw [show T + (n + 1) = T + 1 + n by omega]
    exact this
theorem r_ticks_l (hM : kM H b) {n : Nat} (hn : n ≤ 1000) : ∀ (k q j : Nat) (m : fm_M) (ρ : Nat → Int32) (E : VV) (l : List (Nat → Int32)), rI b m00 m ρ → rAll ρ E l → iG E l → j + k = n → k < q → fE (f_X12_passTicks_2 H b (nn n) q (nn j) m) (fun _ m' => ∃ ρ', rI b m00 m' ρ' ∧ rAll ρ' (tkM E l k).1 (tkM E l k).2) := by
  intro k
  induction k with
  | zero =>
    intro q j m ρ E l hr hA hI h1 h2
    obtain ⟨q, rfl⟩ : ∃ q', q = q' + 1 := ⟨q - 1, by omega⟩
    unfold f_X12_passTicks_2
    rw [if_pos ((nn_le (by omega) (by omega)).mpr (by omega))]
    exact fE_ret ⟨ρ, hr, hA⟩
  | succ k ih =>
    intro q j m ρ E l hr hA hI h1 h2
    obtain ⟨q, rfl⟩ : ∃ q', q = q' + 1 := ⟨q - 1, by omega⟩
    unfold f_X12_passTicks_2
    rw [if_neg (by rw [nn_le (by omega) (by omega)]; omega), nn_inc]
    refine fE_be (r_passTick hM hr hA hI.1) (fun _ m1 ⟨ρ1, a1, a2, a3⟩ => ?_)
    exact ih q (j + 1) m1 ρ1 _ _ a1 a2 (tk_iG hI a3) (by omega) (by omega)
theorem r_passTicks (hM : kM H b) {n : Nat} (hn : n ≤ 1000) {ρ : Nat → Int32} {E : VV} {l : List (Nat → Int32)} (hr : rI b m00 m ρ) (hA : rAll ρ E l) (hI : iG E l) : fE (f_X12_passTicks H b (nn n) m) (fun _ m' => ∃ ρ', rI b m00 m' ρ' ∧ rAll ρ' (tkM E l n).1 (tkM E l n).2) := by
  unfold f_X12_passTicks
  rw [nl_0]
  exact r_ticks_l hM hn n fm_N 0 m ρ E l hr hA hI (by omega) (by unfold fm_N; omega)
end
theorem iG_iA {E : VV} {l : List (Nat → Int32)} (hI : iG E l) : iA E := fun i hi => by
  obtain ⟨q1, q2, q3, q4, q5⟩ := hI.1.2.2.2.1 i hi
  refine ⟨q1, fun z => ?_⟩
  rcases q5 with h | h | h | h
  · exact absurd h.1 z
  · exact h.2.1
  · exact h.2.1
  · exact h.2.1
section
variable {H : fm_H} {s x b : Nat} {m : fm_M}
theorem c_run_l (hS : kS H s) (hM : kM H b) (hx : x < s ∨ s + 160 ≤ x) {n : Nat} (hn : n ≤ 1000) (v2 : Int32) : ∀ (k q j : Nat) (m : fm_M) (ρ : Nat → Int32) (E : VV) (l : List (Nat → Int32)), m.2.1 x 5 = s → aS m s E l → rAll ρ E l → iG E l → j + k = n → k < q → fE (f_X11_run_17 H x (nn n) v2 q (nn j) m) (fun r m' => r = .inl ((tkM E l k).1 8 0 1 - v2) ∧ aS m' s (tkM E l k).1 (tkM E l k).2 ∧ fr s (s + 160) m m') := by
  intro k
  induction k with
  | zero =>
    intro q j m ρ E l h5 ha hA hI h1 h2
    obtain ⟨q, rfl⟩ : ∃ q', q = q' + 1 := ⟨q - 1, by omega⟩
    unfold f_X11_run_17
    have e8 : m.1 (s + 25) 1 = E 8 0 1 := (rd8 rfl 1).trans (by rw [← ha.2.1]; rfl)
    rw [if_pos ((nn_le (by omega) (by omega)).mpr (by omega)), h5, if_pos (fm_is_b hS.1), kS_2 hS, e8]
    exact fE_ret ⟨rfl, ha, ⟨fun _ _ _ => ⟨rfl, rfl⟩, rfl⟩⟩
  | succ k ih =>
    intro q j m ρ E l h5 ha hA hI h1 h2
    obtain ⟨q, rfl⟩ : ∃ q', q = q' + 1 := ⟨q - 1, by omega⟩
    unfold f_X11_run_17
    rw [if_neg (by rw [nn_le (by omega) (by omega)]; omega), h5, nn_inc, if_pos (fm_is_b hS.1)]
    obtain ⟨⟨ρ', g1⟩, g2⟩ := tk_ok hM hA hI
    refine fE_be (c_tick hS ha (iG_iA hI)) (fun _ m1 ⟨a1, a2⟩ => ?_)
    refine fE_w (ih q (j + 1) m1 ρ' _ _ (((a2.1 x 5 hx).2).trans h5) a1 g1 g2 (by omega) (by omega)) (fun r m' ⟨b1, b2, b3⟩ => ⟨b1, b2, fr_tr a2 b3⟩)
end
