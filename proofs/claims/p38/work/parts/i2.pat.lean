/-! COPIES: what a tick reads are the cells that are copied -/
def iPB (K L kd i k : Nat) : Prop := (kd = 0 ∧ i = 0 ∧ 5 ≤ k ∧ k ≤ 9) ∨ (kd = 1 ∧ i = 0 ∧ k < 2) ∨ (kd = 2 ∧ i = 0 ∧ k < 100) ∨ (kd = 3 ∧ i < L ∧ k < 5) ∨ (kd = 4 ∧ i = 0 ∧ k < 10) ∨ (5 ≤ kd ∧ kd ≤ 7 ∧ i = 0 ∧ k < 120) ∨ (kd = 8 ∧ i = 0 ∧ k < 7) ∨ (i < K ∧ ((kd = 9 ∧ k < 13) ∨ ((kd = 10 ∨ kd = 14) ∧ k = 0) ∨ (11 ≤ kd ∧ kd ≤ 17 ∧ kd ≠ 14 ∧ k < 6)))
def PZ (K L : Nat) (E : VV) : VV := fun kd i k => if (kd = 0 ∧ i = 0 ∧ 5 ≤ k ∧ k ≤ 9) ∨ (kd = 1 ∧ i = 0 ∧ k < 2) ∨ (kd = 2 ∧ i = 0 ∧ k < 100) ∨ (kd = 3 ∧ i < L ∧ k < 5) ∨ (kd = 4 ∧ i = 0 ∧ k < 10) ∨ (5 ≤ kd ∧ kd ≤ 7 ∧ i = 0 ∧ k < 120) ∨ (kd = 8 ∧ i = 0 ∧ k < 7) ∨ (i < K ∧ ((kd = 9 ∧ k < 13) ∨ ((kd = 10 ∨ kd = 14) ∧ k = 0) ∨ (11 ≤ kd ∧ kd ≤ 17 ∧ kd ≠ 14 ∧ k < 6))) then E kd i k else 0
section
variable {K L : Nat} {E E' : VV}
theorem iB0 {k : Nat} (h : 5 ≤ k ∧ k ≤ 9) : iPB K L 0 0 k := Or.inl ⟨rfl, rfl, h⟩
theorem iB1 {k : Nat} (h : k < 2) : iPB K L 1 0 k := Or.inr (Or.inl ⟨rfl, rfl, h⟩)
theorem iB2 {k : Nat} (h : k < 100) : iPB K L 2 0 k := Or.inr (Or.inr (Or.inl ⟨rfl, rfl, h⟩))
theorem iB3 {i k : Nat} (h : i < L ∧ k < 5) : iPB K L 3 i k := Or.inr (Or.inr (Or.inr (Or.inl ⟨rfl, h⟩)))
theorem iB4 {k : Nat} (h : k < 10) : iPB K L 4 0 k := Or.inr (Or.inr (Or.inr (Or.inr (Or.inl ⟨rfl, rfl, h⟩))))
theorem iB5 {kd k : Nat} (h : 5 ≤ kd ∧ kd ≤ 7) (h2 : k < 120) : iPB K L kd 0 k := Or.inr (Or.inr (Or.inr (Or.inr (Or.inr (Or.inl ⟨h.1, h.2, rfl, h2⟩)))))
theorem iB8 {k : Nat} (h : k < 7) : iPB K L 8 0 k := Or.inr (Or.inr (Or.inr (Or.inr (Or.inr (Or.inr (Or.inl ⟨rfl, rfl, h⟩))))))
theorem iB9 {i k : Nat} (h : i < K ∧ k < 13) : iPB K L 9 i k := Or.inr (Or.inr (Or.inr (Or.inr (Or.inr (Or.inr (Or.inr ⟨h.1, Or.inl ⟨rfl, h.2⟩⟩))))))
theorem iBLx {kd i k : Nat} (h : i < K) (h2 : (kd = 10 ∨ kd = 14) ∧ k = 0) : iPB K L kd i k := Or.inr (Or.inr (Or.inr (Or.inr (Or.inr (Or.inr (Or.inr ⟨h, Or.inr (Or.inl h2)⟩))))))
theorem iBw6 {kd i k : Nat} (h : i < K) (h2 : 11 ≤ kd ∧ kd ≤ 17 ∧ kd ≠ 14 ∧ k < 6) : iPB K L kd i k := Or.inr (Or.inr (Or.inr (Or.inr (Or.inr (Or.inr (Or.inr ⟨h, Or.inr (Or.inr h2)⟩))))))
theorem iBNx {kd i k : Nat} (hkd : 10 ≤ kd) (h : ¬ ((kd = 10 ∨ kd = 14) ∧ k = 0)) (h2 : ¬ (11 ≤ kd ∧ kd ≤ 17 ∧ kd ≠ 14 ∧ k < 6)) : ¬ iPB K L kd i k := fun z => by
  rcases z with z | z | z | z | z | z | z | ⟨z, y | y | y⟩
  · omega
  · omega
  · omega
  · omega
  · omega
  · omega
  · omega
  · omega
  · exact h y
  · exact h2 y
theorem PZ_at {kd i k : Nat} (h : iPB K L kd i k) : PZ K L E kd i k = E kd i k := if_pos h
theorem PZ_u {kd i k : Nat} {x : Int32} (h : iPB K L kd i k) : uV (PZ K L E) kd i k x = PZ K L (uV E kd i k x) := by
  funext kd' i' k'
  by_cases e : kd' = kd ∧ i' = i ∧ k' = k
  · obtain ⟨rfl, rfl, rfl⟩ := e
    rw [PZ_at h, uV_s, uV_s]
  · rw [uV_at, if_neg e]
    unfold PZ
    rw [uV_at, if_neg e]
def bD (K L : Nat) (E : VV) : Prop := eK E = K ∧ eL E = L ∧ K ≤ 8 ∧ ∀ i c, i < K → c < 2 → eW E i c ≤ 6
theorem bD_G (hG : vG E) : bD (eK E) (eL E) E := ⟨rfl, rfl, hG.2.2.2.2.1.2.2.1, fun i c hi hc => eW_6 hG (by have := hG.2.2.2.2.1.2.2.1; omega) hc⟩
theorem bD_6 (h : kS6 E E') (hb : bD K L E) : bD K L E' := ⟨(kS6_K h).trans hb.1, (kS6_L h).trans hb.2.1, hb.2.2.1, fun i c hi hc => by rw [kS6_eW h]; exact hb.2.2.2 i c hi hc⟩
theorem bD_Q (h : kQ E E') (hb : bD K L E) : bD K L E' := ⟨(kQ_K h).trans hb.1, (kQ_L h).trans hb.2.1, hb.2.2.1, fun i c hi hc => by rw [kQ_eW h]; exact hb.2.2.2 i c hi hc⟩
theorem bD_A (hb : bD K L E) {i : Nat} (hi : i < K) : eA E i ≤ 6 := hb.2.2.2 i 0 hi (by omega)
theorem bD_B (hb : bD K L E) {i : Nat} (hi : i < K) : eB E i ≤ 6 := hb.2.2.2 i 1 hi (by omega)
theorem PZ_K : eK (PZ K L E) = eK E := by unfold eK; rw [PZ_at (iB0 (by omega))]
theorem PZ_L : eL (PZ K L E) = eL E := by unfold eL; rw [PZ_at (iB1 (by omega))]
theorem PZ_N : eN (PZ K L E) = eN E := by unfold eN; rw [PZ_at (iB1 (by omega))]
theorem PZ_A {i : Nat} (hi : i < K) : eA (PZ K L E) i = eA E i := by unfold eA; rw [PZ_at (iBLx hi (by omega))]
theorem PZ_B {i : Nat} (hi : i < K) : eB (PZ K L E) i = eB E i := by unfold eB; rw [PZ_at (iBLx hi (by omega))]
theorem PZ_Zs {f : Nat} (hf : f < 10) : eZ (PZ K L E) f = eZ E f := by unfold eZ; rw [PZ_at (iB4 (by omega))]
theorem PZ_cR {x : Int32} : cR (PZ K L E) x = cR E x := by unfold cR; rw [PZ_K]
theorem cR_lt (hb : bD K L E) {x : Int32} (h : cR E x = true) : x.toInt.toNat < K := by
  have := of_decide_eq_true h
  have := hb.1
  omega
theorem PZ_ls (hb : bD K L E) {r : Nat → Int32} : lsE (PZ K L E) r = PZ K L (lsE E r) := by
  unfold lsE
  rw [PZ_cR]
  by_cases e : cR E (r 0) = true
  · have := cR_lt hb e
    rw [if_pos e, if_pos e, PZ_at (by first | exact iB9 (by omega) | exact iB8 (by omega) | exact iB0 (by omega) | exact iB5 (by omega) (by omega) | exact iB3 (by omega) | exact iBLx (by omega) (by omega) | exact iBw6 (by omega) (by omega)), PZ_at (by first | exact iB9 (by omega) | exact iB8 (by omega) | exact iB0 (by omega) | exact iB5 (by omega) (by omega) | exact iB3 (by omega) | exact iBLx (by omega) (by omega) | exact iBw6 (by omega) (by omega)), PZ_u (by first | exact iB9 (by omega) | exact iB8 (by omega) | exact iB0 (by omega) | exact iB5 (by omega) (by omega) | exact iB3 (by omega) | exact iBLx (by omega) (by omega) | exact iBw6 (by omega) (by omega)), PZ_u (by first | exact iB9 (by omega) | exact iB8 (by omega) | exact iB0 (by omega) | exact iB5 (by omega) (by omega) | exact iB3 (by omega) | exact iBLx (by omega) (by omega) | exact iBw6 (by omega) (by omega))]
  · rw [if_neg e, if_neg e, PZ_at (by first | exact iB9 (by omega) | exact iB8 (by omega) | exact iB0 (by omega) | exact iB5 (by omega) (by omega) | exact iB3 (by omega) | exact iBLx (by omega) (by omega) | exact iBw6 (by omega) (by omega)), PZ_u (by first | exact iB9 (by omega) | exact iB8 (by omega) | exact iB0 (by omega) | exact iB5 (by omega) (by omega) | exact iB3 (by omega) | exact iBLx (by omega) (by omega) | exact iBw6 (by omega) (by omega))]
theorem PZ_dv (hb : bD K L E) {r : Nat → Int32} : dvE (PZ K L E) r = PZ K L (dvE E r) := by
  unfold dvE
  rw [PZ_cR]
  by_cases e : cR E (r 0) = true
  · have := cR_lt hb e
    rw [if_pos e, if_pos e, PZ_at (iB9 (by omega)), PZ_at (iB8 (by omega)), PZ_at (iB9 (by omega)), PZ_at (iB9 (by omega)), PZ_at (iB0 (by omega)), PZ_at (iB9 (by omega)), PZ_at (iB8 (by omega))]
    by_cases e2 : E 9 (r 0).toInt.toNat 12 ≤ r 1
    · rw [if_pos e2, if_pos e2, PZ_u (by first | exact iB9 (by omega) | exact iB8 (by omega) | exact iB0 (by omega) | exact iB5 (by omega) (by omega) | exact iB3 (by omega) | exact iBLx (by omega) (by omega) | exact iBw6 (by omega) (by omega)), PZ_u (by first | exact iB9 (by omega) | exact iB8 (by omega) | exact iB0 (by omega) | exact iB5 (by omega) (by omega) | exact iB3 (by omega) | exact iBLx (by omega) (by omega) | exact iBw6 (by omega) (by omega)), PZ_u (by first | exact iB9 (by omega) | exact iB8 (by omega) | exact iB0 (by omega) | exact iB5 (by omega) (by omega) | exact iB3 (by omega) | exact iBLx (by omega) (by omega) | exact iBw6 (by omega) (by omega)), PZ_u (by first | exact iB9 (by omega) | exact iB8 (by omega) | exact iB0 (by omega) | exact iB5 (by omega) (by omega) | exact iB3 (by omega) | exact iBLx (by omega) (by omega) | exact iBw6 (by omega) (by omega))]
    · rw [if_neg e2, if_neg e2, PZ_u (by first | exact iB9 (by omega) | exact iB8 (by omega) | exact iB0 (by omega) | exact iB5 (by omega) (by omega) | exact iB3 (by omega) | exact iBLx (by omega) (by omega) | exact iBw6 (by omega) (by omega)), PZ_u (by first | exact iB9 (by omega) | exact iB8 (by omega) | exact iB0 (by omega) | exact iB5 (by omega) (by omega) | exact iB3 (by omega) | exact iBLx (by omega) (by omega) | exact iBw6 (by omega) (by omega)), PZ_u (by first | exact iB9 (by omega) | exact iB8 (by omega) | exact iB0 (by omega) | exact iB5 (by omega) (by omega) | exact iB3 (by omega) | exact iBLx (by omega) (by omega) | exact iBw6 (by omega) (by omega)), PZ_u (by first | exact iB9 (by omega) | exact iB8 (by omega) | exact iB0 (by omega) | exact iB5 (by omega) (by omega) | exact iB3 (by omega) | exact iBLx (by omega) (by omega) | exact iBw6 (by omega) (by omega)), PZ_u (by first | exact iB9 (by omega) | exact iB8 (by omega) | exact iB0 (by omega) | exact iB5 (by omega) (by omega) | exact iB3 (by omega) | exact iBLx (by omega) (by omega) | exact iBw6 (by omega) (by omega))]
  · rw [if_neg e, if_neg e, PZ_at (by first | exact iB9 (by omega) | exact iB8 (by omega) | exact iB0 (by omega) | exact iB5 (by omega) (by omega) | exact iB3 (by omega) | exact iBLx (by omega) (by omega) | exact iBw6 (by omega) (by omega)), PZ_u (by first | exact iB9 (by omega) | exact iB8 (by omega) | exact iB0 (by omega) | exact iB5 (by omega) (by omega) | exact iB3 (by omega) | exact iBLx (by omega) (by omega) | exact iBw6 (by omega) (by omega))]
theorem PZ_uP (hb : bD K L E) {x : Int32} : uP (PZ K L E) x = uP E x := by
  have h2 := hb.2.1
  unfold uP
  rw [PZ_L]
  by_cases h : 0 ≤ x.toInt ∧ x.toInt < eL E
  · rw [PZ_at (by first | exact iB9 (by omega) | exact iB8 (by omega) | exact iB0 (by omega) | exact iB5 (by omega) (by omega) | exact iB3 (by omega) | exact iBLx (by omega) (by omega) | exact iBw6 (by omega) (by omega))]
  · rw [decide_eq_false (fun z => h ⟨z.1, z.2.1⟩), decide_eq_false (fun z => h ⟨z.1, z.2.1⟩)]
theorem PZ_dOn (hb : bD K L E) {x : Int32} : dOn (PZ K L E) (eL E) x = dOn E (eL E) x := by
  have h2 := hb.2.1
  unfold dOn
  by_cases h : 0 ≤ x.toInt ∧ x.toInt < eL E
  · rw [if_pos h, if_pos h, PZ_at (by first | exact iB9 (by omega) | exact iB8 (by omega) | exact iB0 (by omega) | exact iB5 (by omega) (by omega) | exact iB3 (by omega) | exact iBLx (by omega) (by omega) | exact iBw6 (by omega) (by omega))]
  · rw [if_neg h, if_neg h]
theorem PZ_pO (hb : bD K L E) {b c q : Nat} (hc : c < K) (hq : q < 6) (h : b = 10 ∨ b = 14) {r : Nat → Int32} : pO (PZ K L E) b c q r = pO E b c q r := by
  unfold pO
  rw [PZ_L, PZ_dOn hb, PZ_at (kd := b + 2) (iBw6 hc (by omega)), PZ_at (kd := b + 1) (iBw6 hc (by omega)), PZ_at (kd := b + 3) (iBw6 hc (by omega))]
theorem PZ_gW (hb : bD K L E) {b c n : Nat} {q : Int} (hc : c < K) (hn : n ≤ 6) (hq : -1 ≤ q) (h : b = 10 ∨ b = 14) {r : Nat → Int32} : gW (PZ K L E) r b c n q = ((gW E r b c n q).1, (gW E r b c n q).2.1, PZ K L (gW E r b c n q).2.2) := by
  unfold gW
  by_cases e : (n : Int) ≤ q + 1
  · rw [if_pos e, if_pos e, PZ_dv hb]
  · rw [if_neg e, if_neg e, PZ_at (by first | exact iB9 (by omega) | exact iB8 (by omega) | exact iB0 (by omega) | exact iB5 (by omega) (by omega) | exact iB3 (by omega) | exact iBLx (by omega) (by omega) | exact iBw6 (by omega) (by omega)), PZ_uP hb, PZ_pO hb hc (by omega) h]
    by_cases e2 : uP E (E (b + 2) c (q + 1).toNat) = true
    · rw [if_pos e2, if_pos e2]
    · rw [if_neg e2, if_neg e2, PZ_ls hb]
theorem fi_ge {p : Nat → Bool} {k j : Nat} : -1 ≤ fi p j k := by
  rcases fi_r (p := p) (k := k) (j := j) with h | h <;> omega
theorem PZ_gO (hb : bD K L E) {r : Nat → Int32} : gO (PZ K L E) r = ((gO E r).1, (gO E r).2.1, PZ K L (gO E r).2.2) := by
  unfold gO
  by_cases h5 : 0 ≤ (r 5).toInt ∧ (r 5).toInt < 120
  · rw [PZ_at (iB5 (by omega) (by omega)), PZ_at (iB5 (by omega) (by omega)), PZ_at (iB5 (by omega) (by omega)), PZ_cR]
    by_cases C : 0 ≤ (r 5).toInt ∧ (r 5).toInt < 120 ∧ E 5 0 (r 5).toInt.toNat ≠ -1 ∧ cR E (E 6 0 (r 5).toInt.toNat) = true ∧ E 5 0 (r 5).toInt.toNat = r 4 ∧ E 7 0 (r 5).toInt.toNat = 1
    · rw [if_pos C, if_pos C]
      have hc := cR_lt hb C.2.2.2.1
      obtain ⟨c, ec⟩ : ∃ c, c = (E 6 0 (r 5).toInt.toNat).toInt.toNat := ⟨_, rfl⟩
      rw [← ec] at hc ⊢
      have hA := bD_A hb hc
      have hB := bD_B hb hc
      have f17 : fi (fun k => decide (PZ K L E 17 c k = r 5)) 1 (eB E c - 1) = fi (fun k => decide (E 17 c k = r 5)) 1 (eB E c - 1) := fi_c (fun k _ _ => by rw [PZ_at (by first | exact iB9 (by omega) | exact iB8 (by omega) | exact iB0 (by omega) | exact iB5 (by omega) (by omega) | exact iB3 (by omega) | exact iBLx (by omega) (by omega) | exact iBw6 (by omega) (by omega))])
      have f13 : fi (fun k => decide (PZ K L E 13 c k = r 5)) 1 (eA E c - 1) = fi (fun k => decide (E 13 c k = r 5)) 1 (eA E c - 1) := fi_c (fun k _ _ => by rw [PZ_at (by first | exact iB9 (by omega) | exact iB8 (by omega) | exact iB0 (by omega) | exact iB5 (by omega) (by omega) | exact iB3 (by omega) | exact iBLx (by omega) (by omega) | exact iBw6 (by omega) (by omega))])
      rw [PZ_A hc, PZ_B hc, f17, f13, PZ_gW hb hc hA fi_ge (Or.inl rfl), PZ_gW hb hc hB fi_ge (Or.inr rfl)]
      split <;> rfl
    · rw [if_neg C, if_neg C, PZ_ls hb]
  · rw [if_neg (fun z => h5 ⟨z.1, z.2.1⟩), if_neg (fun z => h5 ⟨z.1, z.2.1⟩), PZ_ls hb]
theorem PZ_gP (hb : bD K L E) {r : Nat → Int32} : gP (PZ K L E) r = ((gP E r).1, (gP E r).2.1, PZ K L (gP E r).2.2) := by
  unfold gP
  rw [PZ_gO hb]
  split <;> rfl
theorem PZ_mvP : ∀ (l : List (Nat → Int32)) (E : VV), bD K L E → mvP (PZ K L E) l = ((mvP E l).1, PZ K L (mvP E l).2) := by
  intro l
  induction l with
  | nil => exact fun _ _ => rfl
  | cons r l ih =>
    intro E hb
    show (if (gP (PZ K L E) r).1 = true then (gP (PZ K L E) r).2.1 :: (mvP (gP (PZ K L E) r).2.2 l).1 else (mvP (gP (PZ K L E) r).2.2 l).1, (mvP (gP (PZ K L E) r).2.2 l).2) = _
    rw [PZ_gP hb]
    dsimp only
    rw [ih _ (bD_Q kQ_gP hb)]
    rfl
theorem PZ_dlO (hb : bD K L E) {i : Nat} (hi : i < K) : dlO (PZ K L E) i = dlO E i := by
  have := bD_A hb hi
  unfold dlO dlW
  rw [PZ_L, PZ_A hi]
  exact su_c (fun k _ _ => by rw [PZ_at (by first | exact iB9 (by omega) | exact iB8 (by omega) | exact iB0 (by omega) | exact iB5 (by omega) (by omega) | exact iB3 (by omega) | exact iBLx (by omega) (by omega) | exact iBw6 (by omega) (by omega)), PZ_dOn hb])
theorem PZ_dlN (hb : bD K L E) {i : Nat} (hi : i < K) : dlN (PZ K L E) i = dlN E i := by
  have := bD_B hb hi
  unfold dlN dlW
  rw [PZ_L, PZ_B hi]
  exact su_c (fun k _ _ => by rw [PZ_at (by first | exact iB9 (by omega) | exact iB8 (by omega) | exact iB0 (by omega) | exact iB5 (by omega) (by omega) | exact iB3 (by omega) | exact iBLx (by omega) (by omega) | exact iBw6 (by omega) (by omega)), PZ_dOn hb])
theorem PZ_mk {t : Int32} : mkE (PZ K L E) t = PZ K L (mkE E t) := by
  unfold mkE
  by_cases e : 0 ≤ t.toInt ∧ t.toInt < 120
  · rw [if_pos e, if_pos e, PZ_u (by first | exact iB9 (by omega) | exact iB8 (by omega) | exact iB0 (by omega) | exact iB5 (by omega) (by omega) | exact iB3 (by omega) | exact iBLx (by omega) (by omega) | exact iBw6 (by omega) (by omega))]
  · rw [if_neg e, if_neg e]
theorem PZ_gu {t : Int32} : guE (PZ K L E) t = PZ K L (guE E t) := by
  unfold guE
  by_cases e : 0 ≤ t.toInt ∧ t.toInt < 120
  · rw [if_pos e, if_pos e, PZ_u (by first | exact iB9 (by omega) | exact iB8 (by omega) | exact iB0 (by omega) | exact iB5 (by omega) (by omega) | exact iB3 (by omega) | exact iBLx (by omega) (by omega) | exact iBw6 (by omega) (by omega))]
  · rw [if_neg e, if_neg e]
theorem PZ_sl (hb : bD K L E) {b i : Nat} {x : Int} (hi : i < K) (h : b = 10 ∨ b = 14) : slA (PZ K L E) b i x = slA E b i x := by
  have hA := bD_A hb hi
  have hB := bD_B hb hi
  unfold slA
  have w : wN (PZ K L E) b i = wN E b i := by
    unfold wN
    rw [PZ_A hi, PZ_B hi]
  have w6 : wN E b i ≤ 6 := by
    unfold wN
    split
    · exact hB
    · exact hA
  rw [w]
  by_cases e : 0 ≤ x ∧ x < wN E b i
  · rw [if_pos e, if_pos e, PZ_at (by first | exact iB9 (by omega) | exact iB8 (by omega) | exact iB0 (by omega) | exact iB5 (by omega) (by omega) | exact iB3 (by omega) | exact iBLx (by omega) (by omega) | exact iBw6 (by omega) (by omega))]
  · rw [if_neg e, if_neg e]
theorem PZ_bu (hb : bD K L E) {i : Nat} (hi : i < K) : buE (PZ K L E) i = PZ K L (buE E i) := by
  unfold buE
  rw [PZ_at (iB9 (by omega)), PZ_at (iB0 (by omega)), PZ_dlO hb hi, PZ_dlN hb hi, PZ_sl hb hi (Or.inr rfl), PZ_mk]
  by_cases e : E 9 i 10 ≤ 0
  · rw [if_pos e, if_pos e]
    by_cases e2 : E 0 0 8 = 1
    · rw [if_pos e2, if_pos e2, PZ_u (by first | exact iB9 (by omega) | exact iB8 (by omega) | exact iB0 (by omega) | exact iB5 (by omega) (by omega) | exact iB3 (by omega) | exact iBLx (by omega) (by omega) | exact iBw6 (by omega) (by omega)), PZ_u (by first | exact iB9 (by omega) | exact iB8 (by omega) | exact iB0 (by omega) | exact iB5 (by omega) (by omega) | exact iB3 (by omega) | exact iBLx (by omega) (by omega) | exact iBw6 (by omega) (by omega)), PZ_u (by first | exact iB9 (by omega) | exact iB8 (by omega) | exact iB0 (by omega) | exact iB5 (by omega) (by omega) | exact iB3 (by omega) | exact iBLx (by omega) (by omega) | exact iBw6 (by omega) (by omega))]
    · rw [if_neg e2, if_neg e2, PZ_u (by first | exact iB9 (by omega) | exact iB8 (by omega) | exact iB0 (by omega) | exact iB5 (by omega) (by omega) | exact iB3 (by omega) | exact iBLx (by omega) (by omega) | exact iBw6 (by omega) (by omega)), PZ_u (by first | exact iB9 (by omega) | exact iB8 (by omega) | exact iB0 (by omega) | exact iB5 (by omega) (by omega) | exact iB3 (by omega) | exact iBLx (by omega) (by omega) | exact iBw6 (by omega) (by omega))]
  · rw [if_neg e, if_neg e, PZ_u (by first | exact iB9 (by omega) | exact iB8 (by omega) | exact iB0 (by omega) | exact iB5 (by omega) (by omega) | exact iB3 (by omega) | exact iBLx (by omega) (by omega) | exact iBw6 (by omega) (by omega))]
theorem PZ_dr {i : Nat} (hi : i < K) : drE (PZ K L E) i = PZ K L (drE E i) := by
  unfold drE
  rw [PZ_at (iB9 (by omega))]
  by_cases e : 0 < E 9 i 9 - 1
  · rw [if_pos e, if_pos e, PZ_u (by first | exact iB9 (by omega) | exact iB8 (by omega) | exact iB0 (by omega) | exact iB5 (by omega) (by omega) | exact iB3 (by omega) | exact iBLx (by omega) (by omega) | exact iBw6 (by omega) (by omega))]
  · rw [if_neg e, if_neg e, PZ_u (by first | exact iB9 (by omega) | exact iB8 (by omega) | exact iB0 (by omega) | exact iB5 (by omega) (by omega) | exact iB3 (by omega) | exact iBLx (by omega) (by omega) | exact iBw6 (by omega) (by omega)), PZ_u (by first | exact iB9 (by omega) | exact iB8 (by omega) | exact iB0 (by omega) | exact iB5 (by omega) (by omega) | exact iB3 (by omega) | exact iBLx (by omega) (by omega) | exact iBw6 (by omega) (by omega))]
theorem PZ_tw {i : Nat} (hi : i < K) : twV (PZ K L E) i = PZ K L (twV E i) := by
  funext kd i' k
  by_cases e : i' = i ∧ 10 ≤ kd ∧ kd ≤ 17
  · obtain ⟨rfl, e⟩ := e
    rw [twV_s e]
    by_cases c : ((kd = 10 ∨ kd = 14) ∧ k = 0) ∨ (kd ≠ 10 ∧ kd ≠ 14 ∧ k < 6)
    · have : PZ K L (twV E i') kd i' k = twV E i' kd i' k := PZ_at (by rcases c with z | z; exact iBLx hi (by omega); exact iBw6 hi (by omega))
      rw [this, twV_s e]
      by_cases q : kd ≤ 13
      · rw [if_pos q]
        exact PZ_at (by rcases c with z | z; exact iBLx hi (by omega); exact iBw6 hi (by omega))
      · rw [if_neg q]
        exact PZ_at (by rcases c with z | z; exact iBLx hi (by omega); exact iBw6 hi (by omega))
    · have : PZ K L (twV E i') kd i' k = 0 := if_neg (iBNx (K := K) (L := L) (by omega) (by omega) (by omega))
      rw [this]
      by_cases q : kd ≤ 13
      · rw [if_pos q]
        exact if_neg (iBNx (K := K) (L := L) (by omega) (by omega) (by omega))
      · rw [if_neg q]
        exact if_neg (iBNx (K := K) (L := L) (by omega) (by omega) (by omega))
  · have w : ∀ V : VV, twV V i kd i' k = V kd i' k := fun V => if_neg e
    rw [w]
    unfold PZ
    rw [w]
theorem PZ_clX (hb : bD K L E) {i : Nat} (hi : i < K) : clX (PZ K L E) i = clX E i := by
  have hA := bD_A hb hi
  unfold clX hlO
  rw [PZ_A hi, nc_c (fun k _ _ => by rw [PZ_at (by first | exact iB9 (by omega) | exact iB8 (by omega) | exact iB0 (by omega) | exact iB5 (by omega) (by omega) | exact iB3 (by omega) | exact iBLx (by omega) (by omega) | exact iBw6 (by omega) (by omega))])]
theorem PZ_clF (hb : bD K L E) {i : Nat} (hi : i < K) : clF (PZ K L E) i = PZ K L (clF E i) := by
  have hA := bD_A hb hi
  unfold clF
  rw [PZ_clX hb hi, PZ_A hi, PZ_sl hb hi (Or.inl rfl), PZ_gu]
  by_cases e : 0 ≤ clX E i ∧ clX E i < eA E i
  · rw [if_pos e, if_pos e, PZ_u (by first | exact iB9 (by omega) | exact iB8 (by omega) | exact iB0 (by omega) | exact iB5 (by omega) (by omega) | exact iB3 (by omega) | exact iBLx (by omega) (by omega) | exact iBw6 (by omega) (by omega))]
  · rw [if_neg e, if_neg e]
theorem PZ_cl (hb : bD K L E) {i : Nat} (hi : i < K) : clE (PZ K L E) i = PZ K L (clE E i) := by
  unfold clE
  rw [PZ_clX hb hi, PZ_A hi, PZ_clF hb hi, PZ_tw hi, PZ_at (iB8 (by omega)), PZ_u (by first | exact iB9 (by omega) | exact iB8 (by omega) | exact iB0 (by omega) | exact iB5 (by omega) (by omega) | exact iB3 (by omega) | exact iBLx (by omega) (by omega) | exact iBw6 (by omega) (by omega)), PZ_u (by first | exact iB9 (by omega) | exact iB8 (by omega) | exact iB0 (by omega) | exact iB5 (by omega) (by omega) | exact iB3 (by omega) | exact iBLx (by omega) (by omega) | exact iBw6 (by omega) (by omega)), PZ_u (by first | exact iB9 (by omega) | exact iB8 (by omega) | exact iB0 (by omega) | exact iB5 (by omega) (by omega) | exact iB3 (by omega) | exact iBLx (by omega) (by omega) | exact iBw6 (by omega) (by omega))]
  split <;> rfl
theorem PZ_mC (hb : bD K L E) {i : Nat} (hi : i < K) : mC (PZ K L E) i = PZ K L (mC E i) := by
  unfold mC
  rw [PZ_at (iB9 (by omega)), PZ_bu hb hi, PZ_dr hi, PZ_cl hb hi]
  split
  · rfl
  · split
    · rfl
    · split <;> rfl
theorem PZ_mvC : ∀ (k j : Nat) (E : VV), vG E → eK E = K → eL E = L → j + k ≤ K → mvC (PZ K L E) j k = PZ K L (mvC E j k) := by
  intro k
  induction k with
  | zero => exact fun _ _ _ _ _ _ => rfl
  | succ k ih =>
    intro j E hG h1 h2 hj
    have hb := bD_G hG
    rw [h1, h2] at hb
    have h8 := hb.2.2.1
    show mvC (mC (PZ K L E) j) (j + 1) k = PZ K L (mvC (mC E j) (j + 1) k)
    rw [PZ_mC hb (by omega)]
    exact ih (j + 1) (mC E j) (vG_mC (by omega) hG) (eK_mC.trans h1) (by unfold eL; rw [mC_o (by omega)]; exact h2) (by omega)
theorem PZ_bk {i : Nat} {y : Int32} (hi : i < K) : bkE (PZ K L E) i y = PZ K L (bkE E i y) := by
  unfold bkE
  rw [PZ_at (iB9 (by omega)), PZ_at (iB8 (by omega)), PZ_u (by first | exact iB9 (by omega) | exact iB8 (by omega) | exact iB0 (by omega) | exact iB5 (by omega) (by omega) | exact iB3 (by omega) | exact iBLx (by omega) (by omega) | exact iBw6 (by omega) (by omega)), PZ_u (by first | exact iB9 (by omega) | exact iB8 (by omega) | exact iB0 (by omega) | exact iB5 (by omega) (by omega) | exact iB3 (by omega) | exact iBLx (by omega) (by omega) | exact iBw6 (by omega) (by omega))]
theorem PZ_ac {i : Nat} (hi : i < K) : acB (PZ K L E) i = acB E i := by
  unfold acB
  rw [PZ_at (by first | exact iB9 (by omega) | exact iB8 (by omega) | exact iB0 (by omega) | exact iB5 (by omega) (by omega) | exact iB3 (by omega) | exact iBLx (by omega) (by omega) | exact iBw6 (by omega) (by omega))]
theorem PZ_nw (hb : bD K L E) {i : Nat} (hi : i < K) : nwR (PZ K L E) i = nwR E i := by
  have h : acB E i = 10 ∨ acB E i = 14 := by
    unfold acB
    split
    · exact Or.inr rfl
    · exact Or.inl rfl
  unfold nwR
  rw [PZ_ac hi, PZ_at (iB9 (by omega)), PZ_at (iB0 (by omega)), PZ_pO hb hi (by omega) h]
theorem PZ_sd {i : Nat} (hi : i < K) : sdE (PZ K L E) i = PZ K L (sdE E i) := by
  unfold sdE
  rw [PZ_at (iB9 (by omega)), PZ_at (iB9 (by omega)), PZ_at (iB8 (by omega)), PZ_u (by first | exact iB9 (by omega) | exact iB8 (by omega) | exact iB0 (by omega) | exact iB5 (by omega) (by omega) | exact iB3 (by omega) | exact iBLx (by omega) (by omega) | exact iBw6 (by omega) (by omega)), PZ_u (by first | exact iB9 (by omega) | exact iB8 (by omega) | exact iB0 (by omega) | exact iB5 (by omega) (by omega) | exact iB3 (by omega) | exact iBLx (by omega) (by omega) | exact iBw6 (by omega) (by omega)), PZ_u (by first | exact iB9 (by omega) | exact iB8 (by omega) | exact iB0 (by omega) | exact iB5 (by omega) (by omega) | exact iB3 (by omega) | exact iBLx (by omega) (by omega) | exact iBw6 (by omega) (by omega))]
theorem sd_6 {i : Nat} : kS6 E (sdE E i) := kS6_u (kS6_u (kS6_u (kS6_k (k89_rf E)) (Or.inr (Or.inl rfl))) (Or.inr (Or.inl rfl))) (Or.inl rfl)
theorem PZ_sP (hb : bD K L E) {i : Nat} (hi : i < K) : sP (PZ K L E) i = (PZ K L (sP E i).1, (sP E i).2) := by
  unfold sP
  rw [PZ_nw hb hi, PZ_uP hb, PZ_sd hi, PZ_at (iB0 (by omega)), PZ_u (by first | exact iB9 (by omega) | exact iB8 (by omega) | exact iB0 (by omega) | exact iB5 (by omega) (by omega) | exact iB3 (by omega) | exact iBLx (by omega) (by omega) | exact iBw6 (by omega) (by omega)), PZ_ls (bD_6 sd_6 hb)]
  split <;> rfl
theorem PZ_sH (hb : bD K L E) {i : Nat} (hi : i < K) : sH (PZ K L E) i = (PZ K L (sH E i).1, (sH E i).2) := by
  unfold sH
  rw [PZ_sP hb hi, PZ_at (iB9 (by omega)), PZ_at (iB9 (by omega)), PZ_at (iB0 (by omega)), PZ_u (by first | exact iB9 (by omega) | exact iB8 (by omega) | exact iB0 (by omega) | exact iB5 (by omega) (by omega) | exact iB3 (by omega) | exact iBLx (by omega) (by omega) | exact iBw6 (by omega) (by omega))]
  split
  · split
    · rfl
    · split <;> rfl
  · rfl
theorem PZ_sF (hb : bD K L E) {i : Nat} (hi : i < K) : sF (PZ K L E) i = (PZ K L (sF E i).1, (sF E i).2) := by
  unfold sF
  rw [PZ_bk hi, PZ_sH hb hi, PZ_sH (bD_6 kS6_bk hb) hi, PZ_at (iB9 (by omega)), PZ_at (iB0 (by omega))]
  split
  · rfl
  · split <;> rfl
theorem PZ_sA : ∀ (k j : Nat) (E : VV), bD K L E → j + k ≤ K → sA (PZ K L E) j k = (PZ K L (sA E j k).1, (sA E j k).2) := by
  intro k
  induction k with
  | zero => exact fun _ _ _ _ => rfl
  | succ k ih =>
    intro j E hb hj
    show ((sA (sF (PZ K L E) j).1 (j + 1) k).1, (sF (PZ K L E) j).2 ++ (sA (sF (PZ K L E) j).1 (j + 1) k).2) = _
    rw [PZ_sF hb (by omega)]
    dsimp only
    rw [ih (j + 1) _ (bD_6 kS6_sF hb) (by omega)]
    rfl
theorem PZ_tk {l : List (Nat → Int32)} (hV : iV E l) (hS : hS0 E) (h60 : l.length ≤ 60) (h1 : eK E = K) (h2 : eL E = L) : tkE (PZ K L E) l = (PZ K L (tkE E l).1, (tkE E l).2) := by
  have hb := bD_G hV.1
  rw [h1, h2] at hb
  obtain ⟨g1, -, -, -, -, -, -, -, g9⟩ := tk1_ok hV hS h60
  have e1 : tk1 (PZ K L E) l = PZ K L (tk1 E l) := by
    unfold tk1
    rw [PZ_mvP l E hb, PZ_u (by first | exact iB9 (by omega) | exact iB8 (by omega) | exact iB0 (by omega) | exact iB5 (by omega) (by omega) | exact iB3 (by omega) | exact iBLx (by omega) (by omega) | exact iBw6 (by omega) (by omega))]
  have gL : eL (tk1 E l) = L := (kS6_L tk1_6).trans h2
  have g2 := (tk2_ok hV hS h60).1
  have b2 := bD_G g2
  rw [(tk2_ok hV hS h60).2.2.2.2.2.2, h1] at b2
  have l2 : eL (mvC (tk1 E l) 0 (eK E)) = L := by
    unfold eL
    rw [(tk2_ok hV hS h60).2.2.2.2.2.1 _ _ _ (by omega)]
    exact gL
  rw [h1] at l2
  rw [l2] at b2
  rw [tkE_1, tkE_1, e1, PZ_K, PZ_mvP l E hb, h1, PZ_mvC K 0 (tk1 E l) g1 (g9.trans h1) gL (by omega)]
  rw [PZ_sA K 0 _ b2 (by omega), PZ_at (iB0 (by omega))]
  dsimp only
  rw [PZ_u (by first | exact iB9 (by omega) | exact iB8 (by omega) | exact iB0 (by omega) | exact iB5 (by omega) (by omega) | exact iB3 (by omega) | exact iBLx (by omega) (by omega) | exact iBw6 (by omega) (by omega))]
theorem tk_K {l : List (Nat → Int32)} : eK (tkE E l).1 = eK E := by unfold eK; rw [tk_all.1 0 0 5 (by omega) (by omega)]
theorem tk_L {l : List (Nat → Int32)} : eL (tkE E l).1 = eL E := by unfold eL; rw [tk_all.1 1 0 1 (by omega) (by omega)]
theorem PZ_tkM : ∀ {n B : Nat} {E : VV} {l : List (Nat → Int32)}, JI B E l → eK E = K → eL E = L → tkM (PZ K L E) l n = (PZ K L (tkM E l n).1, (tkM E l n).2) := by
  intro n
  induction n with
  | zero => exact fun _ _ _ => rfl
  | succ n ih =>
    intro B E l hJ h1 h2
    rw [tkM_S, tkM_S, PZ_tk hJ.1.1 hJ.2.2.1 hJ.2.1 h1 h2]
    exact ih (JI_tk hJ) (tk_K.trans h1) (tk_L.trans h2)
theorem tkM_K : ∀ {n : Nat} {E : VV} {l : List (Nat → Int32)}, eK (tkM E l n).1 = eK E := by
  intro n
  induction n with
  | zero => exact rfl
  | succ n ih => exact fun {E l} => (ih (E := (tkE E l).1) (l := (tkE E l).2)).trans tk_K
/-- ticks of a copy -/
theorem tkM_cp {n B B' w : Nat} {l : List (Nat → Int32)} (hJ : JI B E l) (hJ' : JI B' E' l) (he : PZ (eK E) (eL E) E' = PZ (eK E) (eL E) E) (hK : eK E' = eK E) (hL : eL E' = eL E) (hw : w < 7) : (tkM E' l n).1 8 0 w = (tkM E l n).1 8 0 w := by
  have a := PZ_tkM (n := n) hJ rfl rfl
  have b := PZ_tkM (n := n) hJ' hK hL
  rw [he, a] at b
  have c := congrArg (fun z => z.1 8 0 w) b
  dsimp only at c
  rw [PZ_at (by first | exact iB9 (by omega) | exact iB8 (by omega) | exact iB0 (by omega) | exact iB5 (by omega) (by omega) | exact iB3 (by omega) | exact iBLx (by omega) (by omega) | exact iBw6 (by omega) (by omega)), PZ_at (by first | exact iB9 (by omega) | exact iB8 (by omega) | exact iB0 (by omega) | exact iB5 (by omega) (by omega) | exact iB3 (by omega) | exact iBLx (by omega) (by omega) | exact iBw6 (by omega) (by omega))] at c
  exact c.symm
end
