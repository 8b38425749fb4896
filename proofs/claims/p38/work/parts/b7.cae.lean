/-! calls, side by side: settings and nets -/
section
variable {H : fm_H} {m m1 m2 m00 : fm_M} {Lo : Nat → Nat → Int32} {T T' x b s t n tn : Nat} {E : VV} {l : List (Nat → Int32)} {d tx : Nat → Nat} {sv : Nat → Option (VV × List (Nat → Int32))} {c p : Int32}
theorem rP_s {ρ ρ' : Nat → Int32} (h : rP ρ l) (e : ∀ k, k = 6 ∨ 632 ≤ k → ρ' k = ρ k) : rP ρ' l := rP_c h e
end
