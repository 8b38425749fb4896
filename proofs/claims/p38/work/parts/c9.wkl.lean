/-! calls, side by side: best drafts -/
section
variable {H : fm_H} {m m0 m1 m2 m00 : fm_M} {Lo : Nat → Nat → Int32} {T T' x b s t n tn : Nat} {E : VV} {l : List (Nat → Int32)} {d tx : Nat → Nat} {sv : Nat → Option (VV × List (Nat → Int32))} {c p : Int32}
theorem iB_V (h : aS m s E l) (hB : iB E) : iB (cv m s) := fun p q hp hq => by
  have := hB p q hp hq
  rw [← h.2.1] at this
  exact this
theorem iL_V (h : aS m s E l) (hL : iL E) : iL (cv m s) := fun j hj => by
  have := hL j (by rw [← h.2.1]; exact hj)
  rw [← h.2.1] at this
  exact this
end
