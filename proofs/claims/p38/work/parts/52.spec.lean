/-! what a tick does, told of the state as numbers by kind, index and place -/
def eN (E : VV) : Nat := (E 1 0 0).toInt.toNat
def eL (E : VV) : Nat := (E 1 0 1).toInt.toNat
def eK (E : VV) : Nat := (E 0 0 5).toInt.toNat
def eP (E : VV) : Nat := (E 0 0 6).toInt.toNat
def eZ (E : VV) (i : Nat) : Nat := (E 4 0 i).toInt.toNat
def eA (E : VV) (i : Nat) : Nat := (E 10 i 0).toInt.toNat
def eB (E : VV) (i : Nat) : Nat := (E 14 i 0).toInt.toNat
def vG (E : VV) : Prop := vB E (eN E) (eL E) (eK E) (eP E) (eZ E) (eA E) (eB E)
/-- without the packets -/
def er (V : VV) : VV := fun kd i k => if kd = 18 then 0 else V kd i k
/-- with another packet at p -/
def sR (V : VV) (p : Nat) (r : Nat → Int32) : VV := fun kd i k => if kd = 18 ∧ i = p then r k else V kd i k
def cR (E : VV) (x : Int32) : Bool := decide (0 ≤ x.toInt ∧ x.toInt < eK E)
def lsE (E : VV) (r : Nat → Int32) : VV := if cR E (r 0) = true then uV (uV E 8 0 2 (E 8 0 2 + 1)) 9 (r 0).toInt.toNat 6 (E 9 (r 0).toInt.toNat 6 + 1) else uV E 8 0 2 (E 8 0 2 + 1)
def dvE (E : VV) (r : Nat → Int32) : VV := if cR E (r 0) = true then
    (if E 9 (r 0).toInt.toNat 12 ≤ r 1 then uV (uV (uV (uV E 8 0 1 (E 8 0 1 + 1)) 9 (r 0).toInt.toNat 5 (E 9 (r 0).toInt.toNat 5 + 1)) 9 (r 0).toInt.toNat 11 (E 9 (r 0).toInt.toNat 11 + (E 0 0 9 + 1 - r 2))) 9 (r 0).toInt.toNat 12 (r 1)
     else uV (uV (uV (uV (uV E 8 0 1 (E 8 0 1 + 1)) 9 (r 0).toInt.toNat 5 (E 9 (r 0).toInt.toNat 5 + 1)) 9 (r 0).toInt.toNat 11 (E 9 (r 0).toInt.toNat 11 + (E 0 0 9 + 1 - r 2))) 9 (r 0).toInt.toNat 7 (E 9 (r 0).toInt.toNat 7 + 1)) 8 0 4 (E 8 0 4 + 1))
  else uV E 8 0 1 (E 8 0 1 + 1)
def uP (E : VV) (x : Int32) : Bool := decide (0 ≤ x.toInt ∧ x.toInt < eL E ∧ E 3 x.toInt.toNat 4 ≠ 0)
/-- a packet goes on the link to place q of a way -/
def pO (E : VV) (b c q : Nat) (r : Nat → Int32) : Nat → Int32 := pm_up (pm_up (pm_up (pm_up r 3 (E (b + 2) c q)) 4 (E (b + 1) c q)) 5 (E (b + 3) c q)) 6 (dOn E (eL E) (E (b + 2) c q))
def gW (E : VV) (r : Nat → Int32) (b c n : Nat) (q : Int) : Bool × (Nat → Int32) × VV := if (n : Int) ≤ q + 1 then (false, r, dvE E r) else
  if uP E (E (b + 2) c (q + 1).toNat) = true then (true, pO E b c (q + 1).toNat r, E) else (false, pO E b c (q + 1).toNat r, lsE E (pO E b c (q + 1).toNat r))
def gO (E : VV) (r : Nat → Int32) : Bool × (Nat → Int32) × VV :=
  if 0 ≤ (r 5).toInt ∧ (r 5).toInt < 120 ∧ E 5 0 (r 5).toInt.toNat ≠ -1 ∧ cR E (E 6 0 (r 5).toInt.toNat) = true ∧ E 5 0 (r 5).toInt.toNat = r 4 ∧ E 7 0 (r 5).toInt.toNat = 1 then
    (if fi (fun k => decide (E 17 (E 6 0 (r 5).toInt.toNat).toInt.toNat k = r 5)) 1 (eB E (E 6 0 (r 5).toInt.toNat).toInt.toNat - 1) = -1 then
      gW E r 10 (E 6 0 (r 5).toInt.toNat).toInt.toNat (eA E (E 6 0 (r 5).toInt.toNat).toInt.toNat) (fi (fun k => decide (E 13 (E 6 0 (r 5).toInt.toNat).toInt.toNat k = r 5)) 1 (eA E (E 6 0 (r 5).toInt.toNat).toInt.toNat - 1))
     else gW E r 14 (E 6 0 (r 5).toInt.toNat).toInt.toNat (eB E (E 6 0 (r 5).toInt.toNat).toInt.toNat) (fi (fun k => decide (E 17 (E 6 0 (r 5).toInt.toNat).toInt.toNat k = r 5)) 1 (eB E (E 6 0 (r 5).toInt.toNat).toInt.toNat - 1)))
  else (false, r, lsE E r)
/-- a packet's tick -/
def gP (E : VV) (r : Nat → Int32) : Bool × (Nat → Int32) × VV := if 0 < r 6 - 1 then (true, pm_up r 6 (r 6 - 1), E) else gO E (pm_up r 6 (r 6 - 1))
/-- all packets' -/
def mvP (E : VV) : List (Nat → Int32) → List (Nat → Int32) × VV
  | [] => ([], E)
  | r :: l => (if (gP E r).1 = true then (gP E r).2.1 :: (mvP (gP E r).2.2 l).1 else (mvP (gP E r).2.2 l).1, (mvP (gP E r).2.2 l).2)
theorem uV_s {V : VV} {kd i k : Nat} {x : Int32} : uV V kd i k x kd i k = x := if_pos ⟨rfl, rfl, rfl⟩
theorem uV_k {V : VV} {kd i k kd' i' k' : Nat} {x : Int32} (h : kd' ≠ kd) : uV V kd i k x kd' i' k' = V kd' i' k' := if_neg (fun z => h z.1)
theorem uV_i {V : VV} {kd i k kd' i' k' : Nat} {x : Int32} (h : i' ≠ i) : uV V kd i k x kd' i' k' = V kd' i' k' := if_neg (fun z => h z.2.1)
theorem uV_p {V : VV} {kd i k kd' i' k' : Nat} {x : Int32} (h : k' ≠ k) : uV V kd i k x kd' i' k' = V kd' i' k' := if_neg (fun z => h z.2.2)
theorem er_at (V : VV) (kd i k : Nat) : er V kd i k = if kd = 18 then 0 else V kd i k := rfl
theorem uV_at (V : VV) (kd i k : Nat) (x : Int32) (kd' i' k' : Nat) : uV V kd i k x kd' i' k' = if kd' = kd ∧ i' = i ∧ k' = k then x else V kd' i' k' := rfl
theorem sR_at (V : VV) (p : Nat) (r : Nat → Int32) (kd i k : Nat) : sR V p r kd i k = if kd = 18 ∧ i = p then r k else V kd i k := rfl
theorem up_at {α : Type} (f : Nat → α) (k : Nat) (v : α) (j : Nat) : pm_up f k v j = if j = k then v else f j := rfl
theorem er_uV {V : VV} {kd i k : Nat} {x : Int32} (h : kd ≠ 18) : er (uV V kd i k x) = uV (er V) kd i k x := by
  funext kd' i' k'
  simp only [er_at, uV_at]
  grind
theorem er_sR {V : VV} {p : Nat} {r : Nat → Int32} : er (sR V p r) = er V := by
  funext kd' i' k'
  simp only [er_at, sR_at]
  grind
theorem uV_sR {V : VV} {p kd i k : Nat} {x : Int32} {r : Nat → Int32} (h : kd ≠ 18) : uV (sR V p r) kd i k x = sR (uV V kd i k x) p r := by
  funext kd' i' k'
  simp only [uV_at, sR_at]
  grind
theorem uV_r {V : VV} {p k : Nat} {x : Int32} : uV V 18 p k x = sR V p (pm_up (V 18 p) k x) := by
  funext kd' i' k'
  simp only [uV_at, sR_at, up_at]
  grind
theorem sR_sR {V : VV} {p : Nat} {r r' : Nat → Int32} : sR (sR V p r) p r' = sR V p r' := by
  funext kd' i' k'
  simp only [sR_at]
  grind
theorem sR_r {V : VV} {p : Nat} {r : Nat → Int32} : sR V p r 18 p = r := by
  funext k
  exact if_pos ⟨rfl, rfl⟩
theorem sR_id {V : VV} {p : Nat} : sR V p (V 18 p) = V := by
  funext kd' i' k'
  simp only [sR_at]
  grind
theorem lsE_sR {V : VV} {p : Nat} {r r' : Nat → Int32} : lsE (sR V p r) r' = sR (lsE V r') p r := by
  show (if cR V (r' 0) = true then uV (uV (sR V p r) 8 0 2 (V 8 0 2 + 1)) 9 (r' 0).toInt.toNat 6 (V 9 (r' 0).toInt.toNat 6 + 1) else uV (sR V p r) 8 0 2 (V 8 0 2 + 1)) = _
  unfold lsE
  split
  · rw [uV_sR (by decide), uV_sR (by decide)]
  · rw [uV_sR (by decide)]
theorem dvE_sR {V : VV} {p : Nat} {r r' : Nat → Int32} : dvE (sR V p r) r' = sR (dvE V r') p r := by
  show (if cR V (r' 0) = true then
    (if V 9 (r' 0).toInt.toNat 12 ≤ r' 1 then uV (uV (uV (uV (sR V p r) 8 0 1 (V 8 0 1 + 1)) 9 (r' 0).toInt.toNat 5 (V 9 (r' 0).toInt.toNat 5 + 1)) 9 (r' 0).toInt.toNat 11 (V 9 (r' 0).toInt.toNat 11 + (V 0 0 9 + 1 - r' 2))) 9 (r' 0).toInt.toNat 12 (r' 1)
     else uV (uV (uV (uV (uV (sR V p r) 8 0 1 (V 8 0 1 + 1)) 9 (r' 0).toInt.toNat 5 (V 9 (r' 0).toInt.toNat 5 + 1)) 9 (r' 0).toInt.toNat 11 (V 9 (r' 0).toInt.toNat 11 + (V 0 0 9 + 1 - r' 2))) 9 (r' 0).toInt.toNat 7 (V 9 (r' 0).toInt.toNat 7 + 1)) 8 0 4 (V 8 0 4 + 1))
  else uV (sR V p r) 8 0 1 (V 8 0 1 + 1)) = _
  unfold dvE
  split
  · split
    · rw [uV_sR (by decide), uV_sR (by decide), uV_sR (by decide), uV_sR (by decide)]
    · rw [uV_sR (by decide), uV_sR (by decide), uV_sR (by decide), uV_sR (by decide), uV_sR (by decide)]
  · rw [uV_sR (by decide)]
theorem er_lsE {V : VV} {r : Nat → Int32} : er (lsE V r) = lsE (er V) r := by
  show _ = (if cR V (r 0) = true then uV (uV (er V) 8 0 2 (V 8 0 2 + 1)) 9 (r 0).toInt.toNat 6 (V 9 (r 0).toInt.toNat 6 + 1) else uV (er V) 8 0 2 (V 8 0 2 + 1))
  unfold lsE
  split
  · rw [er_uV (by decide), er_uV (by decide)]
  · rw [er_uV (by decide)]
theorem er_dvE {V : VV} {r : Nat → Int32} : er (dvE V r) = dvE (er V) r := by
  show _ = (if cR V (r 0) = true then
    (if V 9 (r 0).toInt.toNat 12 ≤ r 1 then uV (uV (uV (uV (er V) 8 0 1 (V 8 0 1 + 1)) 9 (r 0).toInt.toNat 5 (V 9 (r 0).toInt.toNat 5 + 1)) 9 (r 0).toInt.toNat 11 (V 9 (r 0).toInt.toNat 11 + (V 0 0 9 + 1 - r 2))) 9 (r 0).toInt.toNat 12 (r 1)
     else uV (uV (uV (uV (uV (er V) 8 0 1 (V 8 0 1 + 1)) 9 (r 0).toInt.toNat 5 (V 9 (r 0).toInt.toNat 5 + 1)) 9 (r 0).toInt.toNat 11 (V 9 (r 0).toInt.toNat 11 + (V 0 0 9 + 1 - r 2))) 9 (r 0).toInt.toNat 7 (V 9 (r 0).toInt.toNat 7 + 1)) 8 0 4 (V 8 0 4 + 1))
  else uV (er V) 8 0 1 (V 8 0 1 + 1))
  unfold dvE
  split
  · split
    · rw [er_uV (by decide), er_uV (by decide), er_uV (by decide), er_uV (by decide)]
    · rw [er_uV (by decide), er_uV (by decide), er_uV (by decide), er_uV (by decide), er_uV (by decide)]
  · rw [er_uV (by decide)]
/-- a packet's tick doesn't look at the other packets -/
theorem er_gW {V : VV} {r : Nat → Int32} {b c n : Nat} {q : Int} (hb : b = 10 ∨ b = 14) : gW (er V) r b c n q = ((gW V r b c n q).1, (gW V r b c n q).2.1, er (gW V r b c n q).2.2) := by
  have e : ∀ j i k, j < 4 → er V (b + j) i k = V (b + j) i k := by
    intro j i k hj
    unfold er
    rw [if_neg (by omega)]
  have e2 : pO (er V) b c (q + 1).toNat r = pO V b c (q + 1).toNat r := by
    unfold pO
    rw [e 2 _ _ (by omega), e 1 _ _ (by omega), e 3 _ _ (by omega)]
    rfl
  unfold gW
  rw [e2, e 2 _ _ (by omega), show uP (er V) (V (b + 2) c (q + 1).toNat) = uP V (V (b + 2) c (q + 1).toNat) from rfl, ← er_dvE, ← er_lsE]
  split
  · rfl
  · split
    · rfl
    · rfl
theorem er_gO {V : VV} {r : Nat → Int32} : gO (er V) r = ((gO V r).1, (gO V r).2.1, er (gO V r).2.2) := by
  show (if 0 ≤ (r 5).toInt ∧ (r 5).toInt < 120 ∧ V 5 0 (r 5).toInt.toNat ≠ -1 ∧ cR V (V 6 0 (r 5).toInt.toNat) = true ∧ V 5 0 (r 5).toInt.toNat = r 4 ∧ V 7 0 (r 5).toInt.toNat = 1 then
    (if fi (fun k => decide (V 17 (V 6 0 (r 5).toInt.toNat).toInt.toNat k = r 5)) 1 (eB V (V 6 0 (r 5).toInt.toNat).toInt.toNat - 1) = -1 then
      gW (er V) r 10 (V 6 0 (r 5).toInt.toNat).toInt.toNat (eA V (V 6 0 (r 5).toInt.toNat).toInt.toNat) (fi (fun k => decide (V 13 (V 6 0 (r 5).toInt.toNat).toInt.toNat k = r 5)) 1 (eA V (V 6 0 (r 5).toInt.toNat).toInt.toNat - 1))
     else gW (er V) r 14 (V 6 0 (r 5).toInt.toNat).toInt.toNat (eB V (V 6 0 (r 5).toInt.toNat).toInt.toNat) (fi (fun k => decide (V 17 (V 6 0 (r 5).toInt.toNat).toInt.toNat k = r 5)) 1 (eB V (V 6 0 (r 5).toInt.toNat).toInt.toNat - 1)))
  else (false, r, lsE (er V) r)) = _
  unfold gO
  rw [er_gW (Or.inl rfl), er_gW (Or.inr rfl), ← er_lsE]
  split
  · split
    · rfl
    · rfl
  · rfl
theorem er_gP {V : VV} {r : Nat → Int32} : gP (er V) r = ((gP V r).1, (gP V r).2.1, er (gP V r).2.2) := by
  unfold gP
  rw [er_gO]
  split
  · rfl
  · rfl
/-! a little logic -/
def fE {β : Type} (o : Option (β × fm_M)) (Q : β → fm_M → Prop) : Prop := ∃ r m', o = some (r, m') ∧ Q r m'
theorem fE_ret {β : Type} {Q : β → fm_M → Prop} {x : β} {m : fm_M} (h : Q x m) : fE (some (x, m)) Q := ⟨x, m, rfl, h⟩
theorem fE_bn {α β : Type} {o : Option (α × fm_M)} {x : α} {m1 : fm_M} {F : α → fm_M → Option (β × fm_M)} {Q : β → fm_M → Prop} (h : o = some (x, m1)) (g : fE (F x m1) Q) : fE (fm_bn o F) Q := by
  rw [h, fb_n]
  exact g
theorem fE_be {α β : Type} {o : Option (α × fm_M)} {F : α → fm_M → Option (β × fm_M)} {Q : β → fm_M → Prop} {Q1 : α → fm_M → Prop} (h : fE o Q1) (g : ∀ x m1, Q1 x m1 → fE (F x m1) Q) : fE (fm_bn o F) Q := by
  obtain ⟨x, m1, e, h1⟩ := h
  rw [e, fb_n]
  exact g x m1 h1
theorem fE_w {β : Type} {o : Option (β × fm_M)} {Q Q' : β → fm_M → Prop} (h : fE o Q) (g : ∀ x m1, Q x m1 → Q' x m1) : fE o Q' := by
  obtain ⟨x, m1, e, h1⟩ := h
  exact ⟨x, m1, e, g x m1 h1⟩
theorem fE_p {β : Type} {c : Prop} {_ : Decidable c} {a b : Option (β × fm_M)} {Q : β → fm_M → Prop} (h : c) (g : fE a Q) : fE (if c then a else b) Q := by
  rw [if_pos h]
  exact g
theorem fE_n {β : Type} {c : Prop} {_ : Decidable c} {a b : Option (β × fm_M)} {Q : β → fm_M → Prop} (h : ¬ c) (g : fE b Q) : fE (if c then a else b) Q := by
  rw [if_neg h]
  exact g
/-- numbers were written, references were not -/
def mI (s : Nat) (m m' : fm_M) (V' : VV) : Prop := cv m' s = V' ∧ pS m' s ∧ fr s (s + 160) m m' ∧ m'.2.1 = m.2.1
theorem mI_rf {m : fm_M} {s : Nat} {V : VV} (hp : pS m s) (hV : cv m s = V) : mI s m m V := ⟨hV, hp, ⟨fun _ _ _ => ⟨rfl, rfl⟩, rfl⟩, rfl⟩
theorem mI_S {m m' : fm_M} {s : Nat} {V : VV} (h : mI s m m' V) : mS s m m' V := ⟨h.1, h.2.1, h.2.2.1⟩
theorem mI_tr {m m1 m2 : fm_M} {s : Nat} {V1 V2 : VV} (h1 : mI s m m1 V1) (h2 : mI s m1 m2 V2) : mI s m m2 V2 := ⟨h2.1, h2.2.1, fr_tr h1.2.2.1 h2.2.2.1, h2.2.2.2.trans h1.2.2.2⟩
theorem fE_put {β : Type} {m m0 : fm_M} {s a : Nat} {V0 : VV} {F : fm_M → Option (β × fm_M)} {Q : β → fm_M → Prop} (h0 : mI s m m0 V0) (kd i k : Nat) {x : Int32} (hv : vld kd i = true) (ha : ad m s kd i = a) (g : ∀ m1, mI s m m1 (uV V0 kd i k x) → fE (F m1) Q) (hk : vk kd k = true := by rfl) : fE (fm_bd (fm_si m0 a k x) F) Q := by
  obtain ⟨e1, e2, e3, e4⟩ := h0
  have ea : ad m0 s kd i = a := by
    rw [← ha]
    unfold ad
    rw [e4]
  subst ea
  rw [fb_d]
  have r := ad_r e2 hv
  refine g _ ⟨by rw [cv_si e2 hv hk, e1], e2, fr_tr e3 (fr_si r.1 r.2), e4⟩
theorem pS_eq {m m' : fm_M} {s : Nat} (h : pS m s) (e : m'.2.1 = m.2.1) : pS m' s := by
  unfold pS at h ⊢
  rw [e]
  exact h
