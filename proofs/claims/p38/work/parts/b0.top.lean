/-! the desk and the reference beside one another -/
def kX (H : fm_H) (x : Nat) : Prop := fm_is H x 11 ∧ (H.2.1 x 0 = x + 1 ∧ H.2.1 x 1 = x + 4 ∧ H.2.1 x 2 = x + 15 ∧ H.2.1 x 3 = x + 19 ∧ H.2.1 x 4 = x + 20) ∧ (fm_is H (x + 1) 6 ∧ H.2.1 (x + 1) 0 = x + 2 ∧ fm_is H (x + 2) 8 ∧ H.2.1 (x + 2) 0 = x + 3 ∧ fm_sz H (x + 3) = 800) ∧ kF H (x + 4) ∧ kW H (x + 15) ∧ (fm_sz H (x + 19) = 2 ∧ fm_sz H (x + 20) = 2) ∧ kS H (x + 21) ∧ kS H (x + 181) ∧ kS H (x + 341) ∧ kS H (x + 501)
/-- the same between two addresses -/
def ag (lo hi : Nat) (m m' : fm_M) : Prop := ∀ a k, lo ≤ a → a < hi → m'.1 a k = m.1 a k ∧ m'.2.1 a k = m.2.1 a k
theorem ag_fr {lo hi s : Nat} {m m' : fm_M} (h : fr s (s + 160) m m') (hd : hi ≤ s ∨ s + 160 ≤ lo) : ag lo hi m m' := fun a k h1 h2 => h.1 a k (by omega)
theorem ag_tr {lo hi : Nat} {m m1 m2 : fm_M} (h1 : ag lo hi m m1) (h2 : ag lo hi m1 m2) : ag lo hi m m2 := fun a k x y => ⟨(h2 a k x y).1.trans (h1 a k x y).1, (h2 a k x y).2.trans (h1 a k x y).2⟩
theorem pS_ag {m m' : fm_M} {s : Nat} (hp : pS m s) (h : ag s (s + 160) m m') : pS m' s := by
  obtain ⟨h1, h2, h3, h4, h5, h6⟩ := hp
  have e26 : ∀ i, m'.2.1 (s + 26) i = m.2.1 (s + 26) i := fun i => (h _ i (by omega) (by omega)).2
  have e27 : ∀ i, m'.2.1 (s + 27) i = m.2.1 (s + 27) i := fun i => (h _ i (by omega) (by omega)).2
  refine ⟨fun i hi => ((h _ i (by omega) (by omega)).2).trans (h1 i hi), fun i hi => ?_, fun i i' hi hi' e => h3 i i' hi hi' (by rw [← e26, ← e26]; exact e), fun j hj => ?_, fun i hi => ?_, fun i i' hi hi' e => h6 i i' hi hi' (by rw [← e27, ← e27]; exact e)⟩
  · rw [e26]; exact h2 i hi
  · rw [(h (s + 28 + 9 * j) 13 (by omega) (by omega)).2, (h (s + 28 + 9 * j) 14 (by omega) (by omega)).2]
    exact h4 j hj
  · rw [e27]; exact h5 i hi
theorem ad_ag {m m' : fm_M} {s kd i : Nat} (hp : pS m s) (h : ag s (s + 160) m m') (hv : vld kd i = true) : ad m' s kd i = ad m s kd i := by
  have e26 : ∀ i, m'.2.1 (s + 26) i = m.2.1 (s + 26) i := fun i => (h _ i (by omega) (by omega)).2
  have e27 : ∀ i, m'.2.1 (s + 27) i = m.2.1 (s + 27) i := fun i => (h _ i (by omega) (by omega)).2
  have ew : ∀ i k, i < 8 → m'.2.1 (m.2.1 (s + 26) i) k = m.2.1 (m.2.1 (s + 26) i) k := fun i k hi => by
    obtain ⟨j, hj, e⟩ := hp.2.1 i hi
    rw [e]
    exact (h _ k (by omega) (by omega)).2
  match kd, hv with
  | 0, _ => rfl
  | 1, _ => rfl
  | 2, _ => rfl
  | 3, _ => rfl
  | 4, _ => rfl
  | 5, _ => rfl
  | 6, _ => rfl
  | 7, _ => rfl
  | 8, _ => rfl
  | 9, _ => exact e26 i
  | 10, hv => rw [ad_10, ad_10, e26, ew i _ (Nat.blt_eq.mp hv)]
  | 11, hv => rw [ad_11, ad_11, e26, ew i _ (Nat.blt_eq.mp hv)]
  | 12, hv => rw [ad_12, ad_12, e26, ew i _ (Nat.blt_eq.mp hv)]
  | 13, hv => rw [ad_13, ad_13, e26, ew i _ (Nat.blt_eq.mp hv)]
  | 14, hv => rw [ad_14, ad_14, e26, ew i _ (Nat.blt_eq.mp hv)]
  | 15, hv => rw [ad_15, ad_15, e26, ew i _ (Nat.blt_eq.mp hv)]
  | 16, hv => rw [ad_16, ad_16, e26, ew i _ (Nat.blt_eq.mp hv)]
  | 17, hv => rw [ad_17, ad_17, e26, ew i _ (Nat.blt_eq.mp hv)]
  | 18, _ => exact e27 i
  | n + 19, hv =>
    have e : vld (n + 19) i = false := by
      unfold vld
      rw [Nat.blt_eq.mpr (show 18 < n + 19 by omega)]
      rfl
    exact Bool.noConfusion (e.symm.trans hv)
theorem cv_ag {m m' : fm_M} {s : Nat} (hp : pS m s) (h : ag s (s + 160) m m') : cv m' s = cv m s := by
  funext kd i k
  show (if vld kd i = true ∧ vk kd k = true then m'.1 (ad m' s kd i) k else 0) = (if vld kd i = true ∧ vk kd k = true then m.1 (ad m s kd i) k else 0)
  by_cases hv : vld kd i = true ∧ vk kd k = true
  · rw [if_pos hv, if_pos hv, ad_ag hp h hv.1]
    have r := ad_r hp hv.1
    exact (h _ _ r.1 r.2).1
  · rw [if_neg hv, if_neg hv]
theorem aS_ag {m m' : fm_M} {s : Nat} {E : VV} {l : List (Nat → Int32)} (ha : aS m s E l) (h : ag s (s + 160) m m') : aS m' s E l := by
  obtain ⟨a1, a2, a3, a4, a5, a6⟩ := ha
  refine ⟨pS_ag a1 h, ?_, ?_, a4, a5, a6⟩
  · rw [cv_ag a1 h]; exact a2
  · rw [cv_ag a1 h]; exact a3
theorem sp_ag {m m' : fm_M} {s : Nat} (ha : sp m s) (h : ag s (s + 160) m m') : sp m' s := ⟨pS_ag ha.1 h, by rw [cv_ag ha.1 h]; exact ha.2⟩
/-- the class's states, draft, saved states, text, latest code -/
def cN (m : fm_M) (x s t : Nat) (E : VV) (l : List (Nat → Int32)) : Prop := ((s = x + 21 ∧ t = x + 181) ∨ (s = x + 181 ∧ t = x + 21)) ∧ m.2.1 x 5 = s ∧ m.2.1 x 6 = t ∧ aS m s E l ∧ sp m t
def cD (m : fm_M) (x : Nat) (E : VV) (n : Nat) (d : Nat → Nat) : Prop := m.1 (x + 15) 0 = nn n ∧ (∀ k, k < n → m.1 (x + 16) k = nn (d k)) ∧ ∀ k, 1 ≤ k → k < n → m.1 (x + 17) k = ii (lkE E (nn (d (k - 1))) (nn (d k)))
def cS (m : fm_M) (x : Nat) (sv : Nat → Option (VV × List (Nat → Int32))) : Prop := (m.2.1 (x + 19) 0 = x + 341 ∧ m.2.1 (x + 19) 1 = x + 501) ∧ ∀ i, i < 2 → (sv i = none ∧ m.1 (x + 20) i = 0 ∧ sp m (x + 341 + 160 * i)) ∨ ∃ q, sv i = some q ∧ m.1 (x + 20) i = 1 ∧ aS m (x + 341 + 160 * i) q.1 q.2
def by8 (t : Nat) : Int32 := ii (if t < 128 then (t : Int) else (t : Int) - 256)
def cX (m : fm_M) (x n : Nat) (f : Nat → Nat) : Prop := m.1 (x + 2) 1 = nn n ∧ n ≤ 800 ∧ ∀ k, k < n → m.1 (x + 3) k = by8 (f k) ∧ f k < 256
def cC (m : fm_M) (x : Nat) (c p : Int32) : Prop := m.1 x 7 = c ∧ m.1 x 8 = p
/-- the reference's -/
def rS (m : fm_M) (b : Nat) (sv : Nat → Option (VV × List (Nat → Int32))) : Prop := ∀ i, i < 2 → (sv i = none ∧ m.1 (b + 5) i = 0) ∨ ∃ q, sv i = some q ∧ m.1 (b + 5) i = 1 ∧ rAll (fun k => m.1 (b + 4) (1112 * i + k)) q.1 q.2
def rX (m : fm_M) (b n : Nat) (f : Nat → Nat) : Prop := m.1 b 9 = nn n ∧ ∀ k, k < n → m.1 (b + 7) k = nn (f k)
def rC9 (m : fm_M) (b : Nat) (c p : Int32) : Prop := m.1 b 15 = c ∧ m.1 b 16 = p
/-- what holds besides -/
def iS2 (T : Nat) (sv : Nat → Option (VV × List (Nat → Int32))) : Prop := ∀ i q, i < 2 → sv i = some q → iG q.1 q.2 ∧ iNM T q.1
/-- besides, what lies below is as it was -/
def iS3 (Lo : Nat → Nat → Int32) (T : Nat) (sv : Nat → Option (VV × List (Nat → Int32))) (x : Nat) (m : fm_M) : Prop := iS2 T sv ∧ ∀ a k, a < x → m.1 a k = Lo a k
def TOP (Lo : Nat → Nat → Int32) (T x b : Nat) (m : fm_M) : Prop := ∃ s t E l n d sv tn tx c p, (cN m x s t E l ∧ cD m x E n d ∧ cS m x sv ∧ cX m x tn tx ∧ cC m x c p) ∧ (rAll (m.1 (b + 1)) E l ∧ dR b m n d ∧ rS m b sv ∧ rX m b tn tx ∧ rC9 m b c p) ∧ iG E l ∧ iNM T E ∧ dW E n d ∧ iS3 Lo T sv x m
/-- what most calls of the class leave as it is -/
def cF (x : Nat) (m m1 : fm_M) : Prop := (∀ a k, ¬ (x + 4 ≤ a ∧ a < x + 19) → ¬ (x + 21 ≤ a ∧ a < x + 341) → m1.1 a k = m.1 a k ∧ m1.2.1 a k = m.2.1 a k) ∧ m1.2.2 = m.2.2
theorem cF_rf {x : Nat} {m : fm_M} : cF x m m := ⟨fun _ _ _ _ => ⟨rfl, rfl⟩, rfl⟩
theorem cF_tr {x : Nat} {m m1 m2 : fm_M} (h1 : cF x m m1) (h2 : cF x m1 m2) : cF x m m2 := ⟨fun a k y z => ⟨(h2.1 a k y z).1.trans (h1.1 a k y z).1, (h2.1 a k y z).2.trans (h1.1 a k y z).2⟩, h2.2.trans h1.2⟩
theorem cF_fr {x s : Nat} {m m1 : fm_M} (hs : x + 21 ≤ s ∧ s + 160 ≤ x + 341) (h : fr s (s + 160) m m1) : cF x m m1 := ⟨fun a k _ z => h.1 a k (by omega), h.2⟩
theorem cF_ag {x lo hi : Nat} {m m1 : fm_M} (h : cF x m m1) (h1 : hi ≤ x + 4 ∨ x + 341 ≤ lo ∨ (x + 19 ≤ lo ∧ hi ≤ x + 21)) : ag lo hi m m1 := fun a k y z => h.1 a k (by omega) (by omega)
theorem cS_k {m m1 : fm_M} {x : Nat} {sv : Nat → Option (VV × List (Nat → Int32))} (h : cS m x sv) (h1 : ag (x + 19) (x + 21) m m1) (h2 : ag (x + 341) (x + 661) m m1) : cS m1 x sv := by
  have a2 : ∀ i, i < 2 → ag (x + 341 + 160 * i) (x + 341 + 160 * i + 160) m m1 := fun i hi a k y z => h2 a k (by omega) (by omega)
  refine ⟨⟨((h1 _ 0 (by omega) (by omega)).2).trans h.1.1, ((h1 _ 1 (by omega) (by omega)).2).trans h.1.2⟩, fun i hi => ?_⟩
  rcases h.2 i hi with ⟨e1, e2, e3⟩ | ⟨q, e1, e2, e3⟩
  · exact Or.inl ⟨e1, ((h1 _ i (by omega) (by omega)).1).trans e2, sp_ag e3 (a2 i hi)⟩
  · exact Or.inr ⟨q, e1, ((h1 _ i (by omega) (by omega)).1).trans e2, aS_ag e3 (a2 i hi)⟩
theorem cX_k {m m1 : fm_M} {x n : Nat} {f : Nat → Nat} (h : cX m x n f) (h1 : ag (x + 2) (x + 4) m m1) : cX m1 x n f := ⟨((h1 _ _ (by omega) (by omega)).1).trans h.1, h.2.1, fun k hk => ⟨((h1 _ _ (by omega) (by omega)).1).trans (h.2.2 k hk).1, (h.2.2 k hk).2⟩⟩
theorem cC_k {m m1 : fm_M} {x : Nat} {c p : Int32} (h : cC m x c p) (h1 : ag x (x + 1) m m1) : cC m1 x c p := ⟨((h1 _ _ (by omega) (by omega)).1).trans h.1, ((h1 _ _ (by omega) (by omega)).1).trans h.2⟩
theorem cD_k {m m1 : fm_M} {x n : Nat} {E : VV} {d : Nat → Nat} (h : cD m x E n d) (h1 : ag (x + 15) (x + 18) m m1) : cD m1 x E n d := ⟨((h1 _ _ (by omega) (by omega)).1).trans h.1, fun k hk => ((h1 _ _ (by omega) (by omega)).1).trans (h.2.1 k hk), fun k k1 k2 => ((h1 _ _ (by omega) (by omega)).1).trans (h.2.2 k k1 k2)⟩
/-- the reference's part under another call -/
def rrF (b : Nat) (m m1 : fm_M) : Prop := ∀ a k, a = b + 4 ∨ a = b + 5 ∨ a = b + 7 ∨ (a = b ∧ (k = 9 ∨ k = 15 ∨ k = 16)) → m1.1 a k = m.1 a k
theorem rS_k {m m1 : fm_M} {b : Nat} {sv : Nat → Option (VV × List (Nat → Int32))} (h : rS m b sv) (h1 : rrF b m m1) : rS m1 b sv := fun i hi => by
  have e4 : m1.1 (b + 4) = m.1 (b + 4) := funext fun k => h1 _ k (by omega)
  rcases h i hi with ⟨e1, e2⟩ | ⟨q, e1, e2, e3⟩
  · exact Or.inl ⟨e1, (h1 _ i (by omega)).trans e2⟩
  · exact Or.inr ⟨q, e1, (h1 _ i (by omega)).trans e2, by rw [e4]; exact e3⟩
theorem rX_k {m m1 : fm_M} {b n : Nat} {f : Nat → Nat} (h : rX m b n f) (h1 : rrF b m m1) : rX m1 b n f := ⟨(h1 _ _ (by omega)).trans h.1, fun k hk => (h1 _ _ (by omega)).trans (h.2 k hk)⟩
theorem rC_k {m m1 : fm_M} {b : Nat} {c p : Int32} (h : rC9 m b c p) (h1 : rrF b m m1) : rC9 m1 b c p := ⟨(h1 _ _ (by omega)).trans h.1, (h1 _ _ (by omega)).trans h.2⟩
theorem iS2_m {T T' : Nat} {sv : Nat → Option (VV × List (Nat → Int32))} (h : iS2 T sv) (hT : T ≤ T') : iS2 T' sv := fun i q hi e => ⟨(h i q hi e).1, (h i q hi e).2.1, iM_m (h i q hi e).2.2 hT⟩
/-- what a link's end still is -/
def lkO (E E' : VV) : Prop := eN E ≤ eN E' ∧ ∀ u v, lkE E u v ≠ -1 → lkE E' u v = lkE E u v
theorem lkO_rf {E : VV} : lkO E E := ⟨Nat.le_refl _, fun _ _ _ => rfl⟩
theorem dW_lk {E E' : VV} {n : Nat} {d : Nat → Nat} (h : dW E n d) (hl : lkO E E') : dW E' n d := ⟨h.1, fun k hk => Nat.lt_of_lt_of_le (h.2.1 k hk) hl.1, fun k k1 k2 => by rw [hl.2 _ _ (h.2.2.1 k k1 k2)]; exact h.2.2.1 k k1 k2, h.2.2.2⟩
theorem cD_lk {m : fm_M} {x n : Nat} {E E' : VV} {d : Nat → Nat} (h : cD m x E n d) (hd : dW E n d) (hl : lkO E E') : cD m x E' n d := ⟨h.1, h.2.1, fun k k1 k2 => by rw [hl.2 _ _ (hd.2.2.1 k k1 k2)]; exact h.2.2 k k1 k2⟩
theorem dW_0 {E : VV} {d : Nat → Nat} : dW E 0 d := ⟨by omega, fun k hk => by omega, fun k _ hk => by omega, fun k _ hk => by omega⟩
section
variable {m m1 m2 : fm_M} {Lo : Nat → Nat → Int32} {T T' x b s t n tn : Nat} {E : VV} {l : List (Nat → Int32)} {d tx : Nat → Nat} {sv : Nat → Option (VV × List (Nat → Int32))} {c p : Int32}
/-- after a call that leaves text, code and saved states -/
theorem top_mk (hb : x + 661 ≤ b) (hK : cN m x s t E l ∧ cD m x E n d ∧ cS m x sv ∧ cX m x tn tx ∧ cC m x c p) (hR : rAll (m.1 (b + 1)) E l ∧ dR b m n d ∧ rS m b sv ∧ rX m b tn tx ∧ rC9 m b c p) (h2 : iS3 Lo T sv x m) (hT : T ≤ T') (hc : cF x m m1) (hr : tR b m1 m2) {E' : VV} {l' : List (Nat → Int32)} {n' : Nat} {d' : Nat → Nat} (ha : aS m1 s E' l') (hsp : sp m1 t) (hD : cD m1 x E' n' d') (hA : rAll (m2.1 (b + 1)) E' l') (hdR : dR b m2 n' d') (hI : iG E' l') (hN : iNM T' E') (hW : dW E' n' d') : TOP Lo T' x b m2 := by
  obtain ⟨k1, k2, k3, k4, k5⟩ := hK
  obtain ⟨r1, r2, r3, r4, r5⟩ := hR
  have q : ∀ lo hi, hi ≤ b → ag lo hi m1 m2 := fun lo hi h a k y z => ⟨hr.1 a k (by omega) (by omega) (by omega) (by omega) (by omega), by rw [hr.2]⟩
  have w : rrF b m m2 := fun a k h => (hr.1 a k (by omega) (by omega) (by omega) (by omega) (by omega)).trans (hc.1 a k (by omega) (by omega)).1
  have hs : x + 21 ≤ s ∧ s + 160 ≤ x + 341 ∧ x + 21 ≤ t ∧ t + 160 ≤ x + 341 := by
    rcases k1.1 with ⟨e1, e2⟩ | ⟨e1, e2⟩ <;> omega
  refine ⟨s, t, E', l', n', d', sv, tn, tx, c, p, ⟨⟨k1.1, ?_, ?_, aS_ag ha (q _ _ (by omega)), sp_ag hsp (q _ _ (by omega))⟩, cD_k hD (q _ _ (by omega)), cS_k k3 (ag_tr (cF_ag hc (by omega)) (q _ _ (by omega))) (ag_tr (cF_ag hc (by omega)) (q _ _ (by omega))), cX_k k4 (ag_tr (cF_ag hc (by omega)) (q _ _ (by omega))), cC_k k5 (ag_tr (cF_ag hc (by omega)) (q _ _ (by omega)))⟩, ⟨hA, hdR, rS_k r3 w, rX_k r4 w, rC_k r5 w⟩, hI, hN, hW, iS2_m h2.1 hT, fun a k h => ((q 0 x (by omega) a k (by omega) h).1).trans (((hc.1 a k (by omega) (by omega)).1).trans (h2.2 a k h))⟩
  · exact (((q x (x + 1) (by omega)) x 5 (by omega) (by omega)).2).trans (((hc.1 x 5 (by omega) (by omega)).2).trans k1.2.1)
  · exact (((q x (x + 1) (by omega)) x 6 (by omega) (by omega)).2).trans (((hc.1 x 6 (by omega) (by omega)).2).trans k1.2.2.1)
end
