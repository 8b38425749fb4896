/-! calls, side by side: texts, what was told last, the draft's nodes -/
section
variable {H : fm_H} {m m0 m1 m2 m00 : fm_M} {Lo : Nat → Nat → Int32} {T T' x b s t n tn : Nat} {E : VV} {l : List (Nat → Int32)} {d tx : Nat → Nat} {sv : Nat → Option (VV × List (Nat → Int32))} {c p : Int32}
/-- the text with bytes of z behind it -/
def txA (tn : Nat) (tx : Nat → Nat) (z : Int32) : Nat → Nat := fun k => if k < tn then tx k else bt z (k - tn)
def cA (x tn : Nat) (tx : Nat → Nat) (z : Int32) (m0 m : fm_M) (j : Nat) : Prop := m.1 (x + 2) 1 = nn (tn + j) ∧ (∀ k, k < tn + j → m.1 (x + 3) k = by8 (txA tn tx z k)) ∧ (∀ a k, ¬ (x + 2 ≤ a ∧ a < x + 4) → m.1 a k = m0.1 a k) ∧ m.2 = m0.2
def rA (b tn : Nat) (tx : Nat → Nat) (z : Int32) (m0 m : fm_M) (j : Nat) : Prop := m.1 b 9 = nn (tn + j) ∧ (∀ k, k < tn + j → m.1 (b + 7) k = nn (txA tn tx z k)) ∧ (∀ a k, ¬ (a = b ∧ k = 9) → a ≠ b + 7 → m.1 a k = m0.1 a k) ∧ m.2 = m0.2
/-- after a call that changes the text alone -/
theorem top_tx (hb : x + 661 ≤ b) (hK : cN m x s t E l ∧ cD m x E n d ∧ cS m x sv ∧ cX m x tn tx ∧ cC m x c p) (hR : rAll (m.1 (b + 1)) E l ∧ dR b m n d ∧ rS m b sv ∧ rX m b tn tx ∧ rC9 m b c p) (hI : iG E l) (hN : iNM T E) (hW : dW E n d) (h2 : iS3 Lo T sv x m) (hc : ∀ a k, ¬ (x + 2 ≤ a ∧ a < x + 4) → m1.1 a k = m.1 a k) (hc2 : m1.2 = m.2) (hr : ∀ a k, ¬ (a = b ∧ (k = 7 ∨ k = 9)) → a ≠ b + 7 → m2.1 a k = m1.1 a k) (hr2 : m2.2 = m1.2) {tn' : Nat} {tx' : Nat → Nat} (hX' : cX m1 x tn' tx') (hrX : rX m2 b tn' tx') : TOP Lo T x b m2 := by
  obtain ⟨k1, k2, k3, k4, k5⟩ := hK
  obtain ⟨r1, r2, r3, r4, r5⟩ := hR
  have q1 : ∀ lo hi, hi ≤ b → ag lo hi m1 m2 := fun lo hi h a k y z => ⟨hr a k (by omega) (by omega), by rw [hr2]⟩
  have q : ∀ lo hi, hi ≤ b → hi ≤ x + 2 ∨ x + 4 ≤ lo → ag lo hi m m2 := fun lo hi h h' a k y z => ⟨(hr a k (by omega) (by omega)).trans (hc a k (by omega)), by rw [hr2, hc2]⟩
  have o : ∀ a k, b ≤ a → ¬ (a = b ∧ (k = 7 ∨ k = 9)) → a ≠ b + 7 → m2.1 a k = m.1 a k := fun a k h1 h2 h3 => (hr a k h2 h3).trans (hc a k (by omega))
  have hs : x + 21 ≤ s ∧ s + 160 ≤ x + 341 ∧ x + 21 ≤ t ∧ t + 160 ≤ x + 341 := by
    rcases k1.1 with ⟨e1, e2⟩ | ⟨e1, e2⟩ <;> omega
  have row : ∀ a, b < a → a ≠ b + 7 → m2.1 a = m.1 a := fun a h1 h2 => funext fun k => o a k (by omega) (by omega) h2
  refine ⟨s, t, E, l, n, d, sv, tn', tx', c, p, ⟨⟨k1.1, ?_, ?_, aS_ag k1.2.2.2.1 (q _ _ (by omega) (by omega)), sp_ag k1.2.2.2.2 (q _ _ (by omega) (by omega))⟩, cD_k k2 (q _ _ (by omega) (by omega)), cS_k k3 (q _ _ (by omega) (by omega)) (q _ _ (by omega) (by omega)), cX_k hX' (q1 _ _ (by omega)), cC_k k5 (q _ _ (by omega) (by omega))⟩, ⟨by rw [row _ (by omega) (by omega)]; exact r1, dR_c r2 (o _ _ (by omega) (by omega) (by omega)) (row _ (by omega) (by omega)), fun i hi => ?_, hrX, ⟨(o _ _ (by omega) (by omega) (by omega)).trans r5.1, (o _ _ (by omega) (by omega) (by omega)).trans r5.2⟩⟩, hI, hN, hW, h2.1, fun a k h => ((q 0 x (by omega) (by omega) a k (by omega) h).1).trans (h2.2 a k h)⟩
  · exact ((q x (x + 1) (by omega) (by omega) x 5 (by omega) (by omega)).2).trans k1.2.1
  · exact ((q x (x + 1) (by omega) (by omega) x 6 (by omega) (by omega)).2).trans k1.2.2.1
  · rw [row (b + 5) (by omega) (by omega), row (b + 4) (by omega) (by omega)]
    exact r3 i hi
/-- the same is answered, nothing is thrown -/
def eqA {α : Type} (r r' : α) (_ : Int32) : Prop := r = r'
theorem call_r2 {α : Type} (hb : x + 661 ≤ b) (hT : TOP Lo T x b m) {o : Option (α × fm_M)} {g : fm_M → Option (α × fm_M)} {y : α} (ho : o = some (y, m)) (hg : fE (g m) (fun r' m2 => r' = y ∧ rI b (fm_si m b 7 0) m2 (m.1 (b + 1)))) : CALL Lo x b T o g eqA := by
  have := call_rd (cs := []) hb hT (o := some (.inl y, m)) (g := g) rfl hg
  rw [show CALL Lo x b T o g eqA = fE o _ from rfl, ho]
  obtain ⟨r, m1, e, h⟩ := this
  cases e
  refine fE_ret (fE_w h (fun r' m2 ⟨a1, a2⟩ => ⟨?_, a2⟩))
  rcases a1 with ⟨a1, -⟩ | ⟨k, e, a1, -⟩
  · exact Sum.inl.inj a1
  · cases a1
/-- after a call that changes the draft alone -/
theorem top_d (hX : kX H x) (hb : x + 661 ≤ b) (hK : cN m x s t E l ∧ cD m x E n d ∧ cS m x sv ∧ cX m x tn tx ∧ cC m x c p) (hR : rAll (m.1 (b + 1)) E l ∧ dR b m n d ∧ rS m b sv ∧ rX m b tn tx ∧ rC9 m b c p) (hI : iG E l) (hN : iNM T E) (h2 : iS3 Lo T sv x m) (hc : ∀ a k, ¬ (x + 4 ≤ a ∧ a < x + 19) → m1.1 a k = m.1 a k) (hc2 : m1.2 = m.2) (hr : tR b m1 m2) (h1 : m2.1 (b + 1) = m1.1 (b + 1)) {n' : Nat} {d' : Nat → Nat} (hD : cD m1 x E n' d') (hdR : dR b m2 n' d') (hW : dW E n' d') : TOP Lo T x b m2 := by
  obtain ⟨-, -, -, q1, q2, q3, q4⟩ := cN_S hX hK.1
  have hcF : cF x m m1 := ⟨fun a k z _ => ⟨hc a k (by omega), by rw [hc2]⟩, by rw [hc2]⟩
  refine top_mk hb hK hR h2 (Nat.le_refl _) hcF hr (aS_ag hK.1.2.2.2.1 (fun a k z1 z2 => ⟨hc a k (by omega), by rw [hc2]⟩)) (sp_ag hK.1.2.2.2.2 (fun a k z1 z2 => ⟨hc a k (by omega), by rw [hc2]⟩)) hD ?_ hdR hI hN hW
  rw [h1, cF_r hb hcF (by omega)]
  exact hR.1
end
