/-! calls, side by side: ahead, offers, settings, nets -/
section
variable {H : fm_H} {m m1 m2 m00 : fm_M} {Lo : Nat → Nat → Int32} {T T' x b s t n tn : Nat} {E : VV} {l : List (Nat → Int32)} {d tx : Nat → Nat} {sv : Nat → Option (VV × List (Nat → Int32))} {c p : Int32}
theorem si_si {a k : Nat} {y z : Int32} : fm_si (fm_si m a k y) a k z = fm_si m a k z := by
  refine M_ext (fun c i => ?_) rfl
  rw [si_at, si_at, si_at]
  split <;> rfl
/-- which total a fate is -/
def fk (w : Nat) : Nat := if w = 0 then 1 else if w = 1 then 2 else if w = 2 then 4 else 3
theorem fk_7 (w : Nat) : fk w < 7 := by
  unfold fk
  split
  · omega
  · split
    · omega
    · split <;> omega
theorem c_fate {a w : Nat} (hw : w ≤ 3) : f_X11_fateTotal H a (nn w) m = some (m.1 a (fk w), m) := by
  unfold f_X11_fateTotal
  have h : w = 0 ∨ w = 1 ∨ w = 2 ∨ w = 3 := by omega
  rcases h with h | h | h | h <;> subst h <;> rfl
/-- what one number of a circuit is -/
theorem rd9i (hN : cN m x s t E l) {i : Nat} (hi : i < 8) (k : Nat) : m.1 (m.2.1 (s + 26) i) k = E 9 i k := (rd9 (V := cv m s) rfl hi k).trans ((aS_x hN.2.2.2.1).2.2.1 9 i k (by omega))
end
