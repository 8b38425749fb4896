/-! calls, side by side: circuits -/
section
variable {H : fm_H} {m m1 m2 : fm_M} {Lo : Nat → Nat → Int32} {T T' x b s t n tn : Nat} {E : VV} {l : List (Nat → Int32)} {d tx : Nat → Nat} {sv : Nat → Option (VV × List (Nat → Int32))} {c p : Int32}
/-- after a call that changes the state that counts, and nothing else -/
theorem top_now (hX : kX H x) (hb : x + 661 ≤ b) (hK : cN m x s t E l ∧ cD m x E n d ∧ cS m x sv ∧ cX m x tn tx ∧ cC m x c p) (hR : rAll (m.1 (b + 1)) E l ∧ dR b m n d ∧ rS m b sv ∧ rX m b tn tx ∧ rC9 m b c p) (hW : dW E n d) (h2 : iS3 Lo T sv x m) (hT : T ≤ T') (hf : fr s (s + 160) m m1) {E' : VV} {l' : List (Nat → Int32)} (ha : aS m1 s E' l') (hr : tR b m1 m2) (hA : rAll (m2.1 (b + 1)) E' l') (h6 : m2.1 b 6 = m1.1 b 6) (hd : m2.1 (b + 6) = m1.1 (b + 6)) (hI : iG E' l') (hN : iNM T' E') (hl : lkO E E') : TOP Lo T' x b m2 := by
  obtain ⟨-, -, q1, q2, q3, q4, q5⟩ := cN_S hX hK.1
  have hcF : cF x m m1 := cF_fr ⟨q2, q3⟩ hf
  refine top_mk hb hK hR h2 hT hcF hr ha (sp_ag hK.1.2.2.2.2 (ag_fr hf (by omega))) (cD_lk (cD_k hK.2.1 (ag_fr hf (by omega))) hW hl) hA (dR_c hR.2.1 ?_ ?_) hI hN (dW_lk hW hl)
  · exact h6.trans (congrFun (cF_r hb hcF (by omega)) 6)
  · exact hd.trans (cF_r hb hcF (by omega))
/-- the reference's rows behind a call of the class -/
theorem fr_r (hX : kX H x) (hb : x + 661 ≤ b) (hN : cN m x s t E l) (hf : fr s (s + 160) m m1) {a : Nat} (ha : b ≤ a) : m1.1 a = m.1 a := by
  obtain ⟨-, -, q1, q2, q3, q4, q5⟩ := cN_S hX hN
  exact cF_r hb (cF_fr ⟨q2, q3⟩ hf) ha
/-- the class's draft is a way along links -/
theorem cD_nd (hD : cD m x E n d) (hW : dW E n d) (h10 : eN E ≤ 10) : ∀ k, k < n → ∃ y, y < 10 ∧ m.1 (x + 16) k = nn y := fun k hk => ⟨d k, by have := hW.2.1 k hk; omega, hD.2.1 k hk⟩
end
