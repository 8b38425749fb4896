/-! THE DESK, CELL BY CELL -/
abbrev gCe : Type := (Nat ⊕ (FieldType × Bool)) × Nat
def gWyK (r : Nat) : Option gCe := if r = 0 then some (.inl 10, 4) else some (.inr (.int, true), 6)
def gStK (q : Nat) : Option gCe := if q = 0 then some (.inl 7, 10) else if q = 1 then some (.inl 4, 4) else if q = 2 then some (.inr (.object RX3, true), 16) else if q = 3 then some (.inr (.int, true), 100) else if q < 20 then some (.inl 3, 5) else if q = 20 then some (.inl 2, 4) else if q = 21 then some (.inr (.int, true), 10) else if q < 25 then some (.inr (.int, true), 120) else if q = 25 then some (.inl 9, 7) else if q = 26 then some (.inr (.object RX0, true), 8) else if q = 27 then some (.inr (.object RX5, true), 60) else if q < 100 then (if (q - 28) % 9 = 0 then some (.inl 0, 15) else gWyK (((q - 28) % 9 - 1) % 4)) else some (.inl 5, 7)
def gKd (q : Nat) : Option gCe := if q = 0 then some (.inl 11, 9) else if q = 1 then some (.inl 6, 3) else if q = 2 then some (.inl 8, 6) else if q = 3 then some (.inr (.byte, true), 800) else if q = 4 then some (.inl 1, 6) else if q < 13 then gWyK ((q - 5) % 4) else if q = 13 then some (.inr (.boolean, true), 16) else if q = 14 then some (.inr (.int, true), 16) else if q < 19 then gWyK (q - 15) else if q = 19 then some (.inr (.object RX7, true), 2) else if q = 20 then some (.inr (.boolean, true), 2) else if q < 661 then gStK ((q - 21) % 160) else none
def gStR (q k : Nat) : Nat := if q = 0 then (if k = 0 then 1 else if k = 1 then 20 else if k = 2 then 25 else if k = 3 then 26 else 27) else if q = 1 then k else if q = 20 then 21 + k else q + k
def gRf (q k : Nat) : Nat := if q = 0 then (if k = 0 then 1 else if k = 1 then 4 else if k = 2 then 15 else if k = 3 then 19 else 20) else if q = 1 then 2 else if q = 2 then 3 else if q = 4 then (if k = 0 then 5 else if k = 1 then 9 else if k = 2 then 13 else 14) else if q < 21 then q + k else q - (q - 21) % 160 + gStR ((q - 21) % 160) k
def gVf (q k : Nat) : Nat := if q = 0 then (if k = 5 then 21 else 181) else if q = 19 then 341 + 160 * k else q - (q - 21) % 160 + (if (q - 21) % 160 = 2 then 4 + k else if (q - 21) % 160 = 26 then 28 + 9 * k else if (q - 21) % 160 = 27 then 100 + k else if k = 13 then (q - 21) % 160 + 1 else (q - 21) % 160 + 5)
def gIn (q k : Nat) : Int32 := if q = 0 then (if k = 8 then -1 else 0) else if q = 1 then (if k = 2 then -1 else 0) else if q = 4 then (if k = 5 then -1 else 0) else if q < 21 then 0 else if q < 661 then (if (q - 21) % 160 = 0 then (if k = 7 then 1 else 0) else if (q - 21) % 160 = 3 then -1 else if (q - 21) % 160 = 22 then -1 else 0) else 0
def gH : fm_H := (gKd, gRf, fun _ _ => 0)
def gM : fm_M := (gIn, gVf, fun _ _ => 0)
section SHI
variable {H H0 : fm_H} {m m0 : fm_M} {x j : Nat}
def shf (H H0 : fm_H) (m m0 : fm_M) (x : Nat) : Prop := (∀ j, H.1 (x + j) = H0.1 j) ∧ (∀ j k, H.2.1 (x + j) k = x + H0.2.1 j k) ∧ (∀ j k, m.2.1 (x + j) k = x + m0.2.1 j k) ∧ (∀ j k, m.1 (x + j) k = m0.1 j k) ∧ ∀ j k, m.2.2 (x + j) k = m0.2.2 j k
theorem sh_Wy (hs : shf H H0 m m0 x) (h : hWy H0 m0 j) : hWy H m (x + j) := by
  obtain ⟨hK, hC, hV, hI, hL⟩ := hs
  simp only [hWy, Nat.add_assoc, hK, hC, hV, hI, Nat.add_left_cancel_iff] at h ⊢
  exact h
theorem sh_Ob (hs : shf H H0 m m0 x) {ci n : Nat} (h : hOb H0 m0 ci n j) : hOb H m ci n (x + j) := by
  obtain ⟨hK, hC, hV, hI, hL⟩ := hs
  simp only [hOb, Nat.add_assoc, hK, hC, hV, hI, Nat.add_left_cancel_iff] at h ⊢
  exact h
theorem sh_Ia (hs : shf H H0 m m0 x) {n : Nat} {v : Int32} (h : hIa H0 m0 n v j) : hIa H m n v (x + j) := by
  obtain ⟨hK, hC, hV, hI, hL⟩ := hs
  simp only [hIa, Nat.add_assoc, hK, hC, hV, hI, Nat.add_left_cancel_iff] at h ⊢
  exact h
theorem sh_Ci (hs : shf H H0 m m0 x) (h : hCi H0 m0 j) : hCi H m (x + j) := by
  have hs0 := hs
  obtain ⟨hK, hC, hV, hI, hL⟩ := hs
  simp only [hCi, Nat.add_assoc, hK, hC, hV, hI, Nat.add_left_cancel_iff] at h ⊢
  exact ⟨h.1, h.2.1, h.2.2.1, sh_Wy hs0 h.2.2.2.1, sh_Wy hs0 h.2.2.2.2⟩
theorem sh_Tk (hs : shf H H0 m m0 x) (h : hTk H0 m0 j) : hTk H m (x + j) := by
  obtain ⟨hK, hC, hV, hI, hL⟩ := hs
  simp only [hTk, Nat.add_assoc, hK, hC, hV, hI, Nat.add_left_cancel_iff] at h ⊢
  exact h
theorem sh_Rd (hs : shf H H0 m m0 x) (h : hRd H0 m0 j) : hRd H m (x + j) := by
  have hs0 := hs
  obtain ⟨hK, hC, hV, hI, hL⟩ := hs
  simp only [hRd, Nat.add_assoc, hK, hC, hV, hI, Nat.add_left_cancel_iff] at h ⊢
  exact ⟨h.1, h.2.1, h.2.2.1, sh_Tk hs0 h.2.2.2⟩
theorem sh_Fi (hs : shf H H0 m m0 x) (h : hFi H0 m0 j) : hFi H m (x + j) := by
  have hs0 := hs
  obtain ⟨hK, hC, hV, hI, hL⟩ := hs
  simp only [hFi, Nat.add_assoc, hK, hC, hV, hI, Nat.add_left_cancel_iff] at h ⊢
  exact ⟨h.1, h.2.1, h.2.2.1, sh_Wy hs0 h.2.2.2.1, sh_Wy hs0 h.2.2.2.2.1, h.2.2.2.2.2⟩
theorem sh_La (hs : shf H H0 m m0 x) (h : hLa H0 m0 j) : hLa H m (x + j) := by
  have hs0 := hs
  obtain ⟨hK, hC, hV, hI, hL⟩ := hs
  simp only [hLa, Nat.add_assoc, hK, hC, hV, hI, Nat.add_left_cancel_iff] at h ⊢
  exact ⟨h.1, h.2.1, sh_Ia hs0 h.2.2.1, sh_Ia hs0 h.2.2.2.1, sh_Ia hs0 h.2.2.2.2.1, sh_Ia hs0 h.2.2.2.2.2⟩
theorem sh_Nt (hs : shf H H0 m m0 x) (h : hNt H0 m0 j) : hNt H m (x + j) := by
  have hs0 := hs
  obtain ⟨hK, hC, hV, hI, hL⟩ := hs
  simp only [hNt, Nat.add_assoc, hK, hC, hV, hI, Nat.add_left_cancel_iff] at h ⊢
  exact ⟨h.1, h.2.1, h.2.2.1, h.2.2.2.1, sh_Ia hs0 h.2.2.2.2.1, fun i hi => sh_Ob hs0 (h.2.2.2.2.2 i hi)⟩
theorem sh_St (hs : shf H H0 m m0 x) (h : hSt H0 m0 j) : hSt H m (x + j) := by
  have hs0 := hs
  obtain ⟨hK, hC, hV, hI, hL⟩ := hs
  simp only [hSt, Nat.add_assoc, hK, hC, hV, hI, Nat.add_left_cancel_iff] at h ⊢
  obtain ⟨h1, h2, h3, h4, h5, h6, h7, h8, h9, h10⟩ := h
  exact ⟨h1, h2, h3, sh_Nt hs0 h4, sh_La hs0 h5, sh_Ob hs0 h6, h7, h8, fun i hi => sh_Ci hs0 (h9 i hi), fun i hi => sh_Ob hs0 (h10 i hi)⟩
theorem sh_Dk (hs : shf H H0 m m0 x) (h : hDk H0 m0 j) : hDk H m (x + j) := by
  have hs0 := hs
  obtain ⟨hK, hC, hV, hI, hL⟩ := hs
  simp only [hDk, Nat.add_assoc, hK, hC, hV, hI, Nat.add_left_cancel_iff] at h ⊢
  obtain ⟨h1, h2, h3, h4, h5, h6, h7, h8, h9, ⟨h10, h11⟩, h12⟩ := h
  exact ⟨h1, h2, h3, h4, sh_Rd hs0 h5, sh_Fi hs0 h6, sh_Wy hs0 h7, h8, h9, ⟨sh_St hs0 h10, sh_St hs0 h11⟩, fun i hi => sh_St hs0 (h12 i hi)⟩
end SHI
set_option maxRecDepth 100000
theorem ra_k {n : Nat} {f : Nat → Bool} (h : (List.range n).all f = true) : ∀ k, k < n → f k = true := fun k hk => List.all_eq_true.mp h k (List.mem_range.mpr hk)
def kdB (q : Nat) (t : gCe) : Bool := decide (gKd q = some t)
def inB (q n : Nat) (v : Int32) : Bool := (List.range n).all fun k => decide (gIn q k = v)
theorem inB_ok {q n : Nat} {v : Int32} (h : inB q n v = true) : ∀ k, k < n → gM.1 q k = v := fun k hk => of_decide_eq_true (ra_k h k hk)
theorem kdB_ok {q : Nat} {t : gCe} (h : kdB q t = true) : gH.1 q = some t := of_decide_eq_true h
def wyB (q : Nat) : Bool := kdB q (.inl 10, 4) && (Nat.beq (gRf q 1) (q + 1) && (Nat.beq (gRf q 2) (q + 2) && (Nat.beq (gRf q 3) (q + 3) && (kdB (q + 1) (.inr (.int, true), 6) && (kdB (q + 2) (.inr (.int, true), 6) && (kdB (q + 3) (.inr (.int, true), 6) && (inB q 1 0 && (inB (q + 1) 6 0 && (inB (q + 2) 6 0 && inB (q + 3) 6 0)))))))))
theorem wyB_ok {q : Nat} (h : wyB q = true) : hWy gH gM q := by
  simp only [wyB, Bool.and_eq_true] at h
  obtain ⟨h1, h2, h3, h4, h5, h6, h7, h8, h9, h10, h11⟩ := h
  exact ⟨kdB_ok h1, ⟨Nat.eq_of_beq_eq_true h2, Nat.eq_of_beq_eq_true h3, Nat.eq_of_beq_eq_true h4⟩, ⟨kdB_ok h5, kdB_ok h6, kdB_ok h7⟩, inB_ok h8 0 (by omega), inB_ok h9, inB_ok h10, inB_ok h11⟩
def obB (ci n q : Nat) : Bool := kdB q (.inl ci, n) && inB q n 0
theorem obB_ok {ci n q : Nat} (h : obB ci n q = true) : hOb gH gM ci n q := by
  simp only [obB, Bool.and_eq_true] at h
  exact ⟨kdB_ok h.1, inB_ok h.2⟩
def iaB (n : Nat) (v : Int32) (q : Nat) : Bool := kdB q (.inr (.int, true), n) && inB q n v
theorem iaB_ok {n q : Nat} {v : Int32} (h : iaB n v q = true) : hIa gH gM n v q := by
  simp only [iaB, Bool.and_eq_true] at h
  exact ⟨kdB_ok h.1, inB_ok h.2⟩
def ciB (q : Nat) : Bool := kdB q (.inl 0, 15) && (inB q 13 0 && (Nat.beq (gVf q 13) (q + 1) && (Nat.beq (gVf q 14) (q + 5) && (wyB (q + 1) && wyB (q + 5)))))
theorem ciB_ok {q : Nat} (h : ciB q = true) : hCi gH gM q := by
  simp only [ciB, Bool.and_eq_true] at h
  obtain ⟨h1, h2, h3, h4, h5, h6⟩ := h
  exact ⟨kdB_ok h1, inB_ok h2, ⟨Nat.eq_of_beq_eq_true h3, Nat.eq_of_beq_eq_true h4⟩, wyB_ok h5, wyB_ok h6⟩
def laB (q : Nat) : Bool := kdB q (.inl 2, 4) && (Nat.beq (gRf q 0) (q + 1) && (Nat.beq (gRf q 1) (q + 2) && (Nat.beq (gRf q 2) (q + 3) && (Nat.beq (gRf q 3) (q + 4) && (iaB 10 0 (q + 1) && (iaB 120 (-1) (q + 2) && (iaB 120 0 (q + 3) && iaB 120 0 (q + 4))))))))
theorem laB_ok {q : Nat} (h : laB q = true) : hLa gH gM q := by
  simp only [laB, Bool.and_eq_true] at h
  obtain ⟨h1, h2, h3, h4, h5, h6, h7, h8, h9⟩ := h
  exact ⟨kdB_ok h1, ⟨Nat.eq_of_beq_eq_true h2, Nat.eq_of_beq_eq_true h3, Nat.eq_of_beq_eq_true h4, Nat.eq_of_beq_eq_true h5⟩, iaB_ok h6, iaB_ok h7, iaB_ok h8, iaB_ok h9⟩
def ntB (q : Nat) : Bool := kdB q (.inl 4, 4) && (inB q 2 0 && (Nat.beq (gRf q 2) (q + 1) && (Nat.beq (gRf q 3) (q + 2) && (kdB (q + 1) (.inr (.object RX3, true), 16) && ((List.range 16).all (fun i => Nat.beq (gVf (q + 1) i) (q + 3 + 1 * i)) && (iaB 100 (-1) (q + 2) && (List.range 16).all (fun i => obB 3 5 (q + 3 + i))))))))
theorem ntB_ok {q : Nat} (h : ntB q = true) : hNt gH gM q := by
  simp only [ntB, Bool.and_eq_true] at h
  obtain ⟨h1, h2, h3, h4, h5, h6, h7, h8⟩ := h
  exact ⟨kdB_ok h1, ⟨inB_ok h2 0 (by omega), inB_ok h2 1 (by omega)⟩, ⟨Nat.eq_of_beq_eq_true h3, Nat.eq_of_beq_eq_true h4⟩, ⟨kdB_ok h5, fun i hi => Nat.eq_of_beq_eq_true (ra_k h6 i hi)⟩, iaB_ok h7, fun i hi => obB_ok (ra_k h8 i hi)⟩
def stB (q : Nat) : Bool := kdB q (.inl 7, 10) && (Nat.beq (gRf q 0) (q + 1) && (Nat.beq (gRf q 1) (q + 20) && (Nat.beq (gRf q 2) (q + 25) && (Nat.beq (gRf q 3) (q + 26) && (Nat.beq (gRf q 4) (q + 27) && (inB q 7 0 && (decide (gIn q 7 = 1) && (decide (gIn q 8 = 0) && (decide (gIn q 9 = 0) && (ntB (q + 1) && (laB (q + 20) && (obB 9 7 (q + 25) && (kdB (q + 26) (.inr (.object RX0, true), 8) && ((List.range 8).all (fun i => Nat.beq (gVf (q + 26) i) (q + 28 + 9 * i)) && (kdB (q + 27) (.inr (.object RX5, true), 60) && ((List.range 60).all (fun i => Nat.beq (gVf (q + 27) i) (q + 100 + 1 * i)) && ((List.range 8).all (fun i => ciB (q + 28 + 9 * i)) && (List.range 60).all (fun i => obB 5 7 (q + 100 + i)))))))))))))))))))
theorem stB_ok {q : Nat} (h : stB q = true) : hSt gH gM q := by
  simp only [stB, Bool.and_eq_true, decide_eq_true_eq] at h
  obtain ⟨h1, r0, r1, r2, r3, r4, h2, h3, h4, h5, h6, h7, h8, h9, h10, h11, h12, h13, h14⟩ := h
  exact ⟨kdB_ok h1, ⟨Nat.eq_of_beq_eq_true r0, Nat.eq_of_beq_eq_true r1, Nat.eq_of_beq_eq_true r2, Nat.eq_of_beq_eq_true r3, Nat.eq_of_beq_eq_true r4⟩, ⟨inB_ok h2 5 (by omega), inB_ok h2 6 (by omega), h3, h4, h5⟩, ntB_ok h6, laB_ok h7, obB_ok h8, ⟨kdB_ok h9, fun i hi => Nat.eq_of_beq_eq_true (ra_k h10 i hi)⟩, ⟨kdB_ok h11, fun i hi => Nat.eq_of_beq_eq_true (ra_k h12 i hi)⟩, fun i hi => ciB_ok (ra_k h13 i hi), fun i hi => obB_ok (ra_k h14 i hi)⟩
theorem g_Wy (q : Nat) (h : q = 5 ∨ q = 9 ∨ q = 15) : hWy gH gM q := by
  rcases h with rfl | rfl | rfl
  · exact wyB_ok (by decide +kernel)
  · exact wyB_ok (by decide +kernel)
  · exact wyB_ok (by decide +kernel)
theorem g_Tk : hTk gH gM 2 := ⟨kdB_ok (by decide +kernel), rfl, fun k _ _ => rfl, kdB_ok (by decide +kernel), fun k _ => rfl⟩
theorem g_Rd : hRd gH gM 1 := ⟨kdB_ok (by decide +kernel), rfl, ⟨by decide +kernel, by decide +kernel⟩, g_Tk⟩
theorem g_Fi : hFi gH gM 4 := ⟨kdB_ok (by decide +kernel), ⟨rfl, rfl, rfl, rfl⟩, ⟨by decide +kernel, by decide +kernel⟩, g_Wy 5 (by decide), g_Wy 9 (by decide), ⟨kdB_ok (by decide +kernel), fun k _ => rfl⟩, kdB_ok (by decide +kernel), fun k _ => rfl⟩
theorem g_St (i : Nat) (h : i < 4) : hSt gH gM (21 + 160 * i) := by
  match i, h with
  | 0, _ => exact stB_ok (by decide +kernel)
  | 1, _ => exact stB_ok (by decide +kernel)
  | 2, _ => exact stB_ok (by decide +kernel)
  | 3, _ => exact stB_ok (by decide +kernel)
theorem g_Dk : hDk gH gM 0 := ⟨by decide +kernel, by decide +kernel, by decide +kernel, by decide +kernel, g_Rd, g_Fi, g_Wy 15 (by decide), by decide +kernel, by decide +kernel, ⟨g_St 0 (by decide), g_St 1 (by decide)⟩, fun i hi => by
  match i, hi with
  | 0, _ => exact g_St 2 (by decide)
  | 1, _ => exact g_St 3 (by decide)⟩
/-- final references lead where they should -/
def gOk (q : Nat) : Bool := match gKd q with
  | some (.inl ci, _) => (List.range 29).all fun k => match fm_ft ci k with
    | some (.inl cj) => match gKd (gRf q k) with
      | some (.inl c, _) => Nat.beq c cj
      | _ => false
    | some (.inr t) => match gKd (gRf q k) with
      | some (.inr t', _) => decide (t' = t)
      | _ => false
    | none => true
  | _ => true
theorem gOk_all : (List.range 661).all gOk = true := by decide +kernel
theorem gKd_hi {q : Nat} (h : 661 ≤ q) : gKd q = none := by
  unfold gKd
  repeat rw [if_neg (by omega)]
/-- no class number is beyond -/
def gCl (q : Nat) : Bool := match gKd q with
  | some (.inl ci, _) => decide (ci < 13)
  | _ => true
theorem gCl_all : (List.range 661).all gCl = true := by decide +kernel
theorem gKd_cl {q ci n : Nat} (h : gKd q = some (.inl ci, n)) : ci < 13 := by
  have hq : q < 661 := by
    by_cases e : q < 661
    · exact e
    · rw [gKd_hi (by omega)] at h
      cases h
  have h1 := List.all_eq_true.mp gCl_all q (List.mem_range.mpr hq)
  unfold gCl at h1
  rw [h] at h1
  exact of_decide_eq_true h1
theorem ft_hi {ci k : Nat} (hc : ci < 13) (hk : 29 ≤ k) : fm_ft ci k = none := by
  obtain ⟨j, rfl⟩ : ∃ j, k = j + 29 := ⟨k - 29, by omega⟩
  match ci, hc with
  | 0, _ => rfl
  | 1, _ => rfl
  | 2, _ => rfl
  | 3, _ => rfl
  | 4, _ => rfl
  | 5, _ => rfl
  | 6, _ => rfl
  | 7, _ => rfl
  | 8, _ => rfl
  | 9, _ => rfl
  | 10, _ => rfl
  | 11, _ => rfl
  | 12, _ => rfl
