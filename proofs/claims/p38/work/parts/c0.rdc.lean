/-! calls, side by side: counts -/
theorem sw_at {α : Type} {x : Int32} {D : Option α} : ∀ {as : List (Option α)} {lo : Int} {k : Nat}, x.toInt = lo + k → fm_sw x lo as D = (as[k]?).getD D := by
  intro as
  induction as with
  | nil => exact fun _ => rfl
  | cons a as ih =>
    intro lo k h
    unfold fm_sw
    cases k with
    | zero => rw [if_pos (by omega)]; rfl
    | succ k => rw [if_neg (by omega), ih (k := k) (by omega)]; rfl
theorem sw_lt {α : Type} {x : Int32} {D : Option α} : ∀ {as : List (Option α)} {lo : Int}, x.toInt < lo → fm_sw x lo as D = D := by
  intro as
  induction as with
  | nil => exact fun _ => rfl
  | cons a as ih =>
    intro lo h
    unfold fm_sw
    rw [if_neg (by omega), ih (by omega)]
def cntE (E : VV) (n y : Nat) : Int32 := if y = 0 then E 0 0 7 else if y = 1 then E 0 0 8 else if y = 2 then E 1 0 0 else if y = 3 then E 1 0 1 else if y = 4 then E 0 0 5 else if y = 5 then E 0 0 9 else if y = 6 then E 0 0 6 else if y < 12 then E 8 0 (y - 7) else if y = 12 then nn (sn (fun v => bw E (eZ E) v) 0 (eN E)) else if y = 13 then nn (nc (fun i => decide (E 9 i 2 ≠ 0)) 0 (eK E)) else if y < 16 then E 8 0 (y - 9) else nn n
section
variable {H : fm_H} {m m1 m2 m00 : fm_M} {Lo : Nat → Nat → Int32} {T T' x b s t n tn : Nat} {E : VV} {l : List (Nat → Int32)} {d tx : Nat → Nat} {sv : Nat → Option (VV × List (Nat → Int32))} {c p : Int32}
/-- nothing is changed, the same is answered -/
theorem call_rd {α : Type} (hb : x + 661 ≤ b) (hT : TOP Lo T x b m) {o : Option ((α ⊕ String) × fm_M)} {g : fm_M → Option (α × fm_M)} {cs : List String} {y : α} (ho : o = some (.inl y, m)) (hg : fE (g m) (fun r' m2 => r' = y ∧ rI b (fm_si m b 7 0) m2 (m.1 (b + 1)))) : CALL Lo x b T o g (an cs) := by
  rw [show CALL Lo x b T o g (an cs) = fE o _ from rfl, ho]
  refine fE_ret ?_
  refine fE_w hg (fun r' m2 ⟨h1, h2⟩ => ⟨Or.inl ⟨by rw [h1], (rI_o h2 (by omega) (by omega) (by omega)).trans si_s⟩, ?_⟩)
  refine top_r hb hT (Nat.le_refl _) (tR_tr (tR_g gR_7) (tR_f h2.2)) (fun k _ => by rw [h2.1]) ?_ ?_
  · rw [rI_o h2 (by omega) (by omega) (by omega), si_o (by omega)]
  · funext k
    rw [rI_o h2 (by omega) (by omega) (by omega), si_oth (by omega)]
/-- rows of the class's state -/
theorem cN_rd (hN : cN m x s t E l) : (∀ k, m.1 s k = E 0 0 k) ∧ (∀ k, m.1 (s + 1) k = E 1 0 k) ∧ (∀ j k, j < 16 → m.1 (s + 4 + j) k = E 3 j k) ∧ (∀ k, m.1 (s + 21) k = E 4 0 k) ∧ ∀ k, m.1 (s + 25) k = E 8 0 k := by
  have a := (aS_x hN.2.2.2.1).2.2.1
  exact ⟨fun k => (rd0 rfl k).trans (a 0 0 k (by omega)), fun k => (rd1 rfl k).trans (a 1 0 k (by omega)), fun j k hj => (rd3 rfl hj k).trans (a 3 j k (by omega)), fun k => (rd4 rfl k).trans (a 4 0 k (by omega)), fun k => (rd8 rfl k).trans (a 8 0 k (by omega))⟩
theorem c_count (hX : kX H x) (hK : cN m x s t E l) (hD : cD m x E n d) (hI : iG E l) {y : Nat} (hy : y ≤ 16) : f_X11_count H x (nn y) m = some (.inl (cntE E n y), m) := by
  obtain ⟨hS, -⟩ := cN_S hX hK
  obtain ⟨e0, e1, -, -, e8⟩ := cN_rd hK
  obtain ⟨a1, a2, a3, a4, a5, a6⟩ := aS_x hK.2.2.2.1
  unfold f_X11_count f_X11_checkWhat
  rw [c_out, fb_n, decide_eq_true (show (0 : Int32) ≤ nn y ∧ nn y ≤ 16 from ⟨by rw [nl_0]; exact (nn_le (by omega) (by omega)).mpr (by omega), by rw [nl_16]; exact (nn_le (by omega) (by omega)).mpr hy⟩), if_pos (by decide), fb_x, sw_at (k := y) (by rw [nn_t (by omega)]; omega), hK.2.1, kS_0 hS, kS_1 hS, kS_2 hS]
  have hb := fm_is_b hS.1
  have h : y = 0 ∨ y = 1 ∨ y = 2 ∨ y = 3 ∨ y = 4 ∨ y = 5 ∨ y = 6 ∨ y = 7 ∨ y = 8 ∨ y = 9 ∨ y = 10 ∨ y = 11 ∨ y = 12 ∨ y = 13 ∨ y = 14 ∨ y = 15 ∨ y = 16 := by omega
  have w : ∀ (k : Nat) (z : Int32), (if fm_isb H s 7 = true then some (Sum.inl z, m) else none : Option ((Int32 ⊕ String) × fm_M)) = some (.inl z, m) := fun _ _ => if_pos hb
  rcases h with h | h | h | h | h | h | h | h | h | h | h | h | h | h | h | h | h
  · subst h; exact (w 0 _).trans (by rw [e0]; rfl)
  · subst h; exact (w 0 _).trans (by rw [e0]; rfl)
  · subst h; exact (w 0 _).trans (by rw [e1]; rfl)
  · subst h; exact (w 0 _).trans (by rw [e1]; rfl)
  · subst h; exact (w 0 _).trans (by rw [e0]; rfl)
  · subst h; exact (w 0 _).trans (by rw [e0]; rfl)
  · subst h; exact (w 0 _).trans (by rw [e0]; rfl)
  · subst h; exact (w 0 _).trans (by rw [e8]; rfl)
  · subst h; exact (w 0 _).trans (by rw [e8]; rfl)
  · subst h; exact (w 0 _).trans (by rw [e8]; rfl)
  · subst h; exact (w 0 _).trans (by rw [e8]; rfl)
  · subst h; exact (w 0 _).trans (by rw [e8]; rfl)
  · subst h
    refine (if_pos hb).trans ?_
    rw [c_lentByAll hS rfl a2, fb_n]
    have e : sz (fun f => (eZ (cv m s) f : Int) - hl (cv m s) f (eZ (cv m s) f) (-1) - hl (cv m s) f (eZ (cv m s) f) (ii f)) 0 10 = sz (fun f => (eZ E f : Int) - hl E f (eZ E f) (-1) - hl E f (eZ E f) (ii f)) 0 10 := by
      have : E = er (cv m s) := hK.2.2.2.1.2.1.symm
      rw [this]
      rfl
    rw [e, lent_eq hI.1.2.1 hI.1.1 hI.2.2.1]
    rfl
  · subst h
    refine (if_pos hb).trans ?_
    rw [c_movedCircuits hS a1 rfl a2, fb_n, a6, nc_c (g := fun i => decide (E 9 i 2 ≠ 0)) (fun i _ _ => by rw [a3 9 i 2 (by omega)])]
    rfl
  · subst h; exact (w 0 _).trans (by rw [e8]; rfl)
  · subst h; exact (w 0 _).trans (by rw [e8]; rfl)
  · subst h
    show some (Sum.inl (m.1 (H.2.1 x 2) 0), m) = _
    rw [show H.2.1 x 2 = x + 15 from hX.2.1.2.2.1, hD.1]
    rfl
theorem rR_row {ρ : Nat → Int32} (hA : rAll ρ E l) (hI : iG E l) : (∀ k, k < 7 → ρ (7 + k) = E 8 0 k) ∧ ρ 0 = E 0 0 7 ∧ ρ 1 = E 0 0 8 ∧ ρ 2 = E 1 0 0 ∧ ρ 3 = E 1 0 1 ∧ ρ 4 = E 0 0 5 ∧ ρ 5 = E 0 0 9 ∧ ρ 6 = E 0 0 6 := by
  obtain ⟨b0, b1, b2, b3, b4, b5, -⟩ := hA.1.1
  exact ⟨b5, b0, b1, b2, b3, (hA.1.2.1.1.trans hI.1.1.2.2.1.symm), b4, hA.2.1.trans hI.1.2.2.2.2.2.symm⟩
theorem rI_7 {ρ : Nat → Int32} (hr : m.1 (b + 1) = ρ) : rI b (fm_si m b 7 0) (fm_si m b 7 0) ρ := rI_rf ((si_oth (by omega)).trans hr)
end
