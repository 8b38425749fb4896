/-! THE LAW'S FRAME -/
abbrev lwL (sb x b o od : Nat) (i : Int32) (a c d e : Option Value) : List (Option Value) := [some (.ref sb), some (.ref x), some (.ref b), some (.ref o), some (.ref od), some (.int i), a, c, d, e]
abbrev lwF (G : pm_G) (ini : Bool) (ret : Option FieldType) (KR : pm_E) (pc : Nat) (ls : List (Option Value)) (st : List Value) (S : pm_S) : Prop := xw G (pm_lca G 40) RL ini cL_law ret [] KR pc ls st S
theorem lg_rf (x : Int64) : lg_cmp x x = 0 := by
  unfold lg_cmp
  simp
section LAWF
variable {G : pm_G} {H : fm_H} {Lo : Nat → Nat → Int32} {T x b o od sb L : Nat} {xs : Nat → Int32} {F Fd : Nat → Value} {m : fm_M} {z : Option Nat × Nat × Nat} {ini : Bool} {ret : Option FieldType} {KR : pm_E} {i : Int32} {a c d e : Option Value} {st rest : List Value} {S S1 : pm_S} {p : Nat}
theorem xl_sc (p' : Nat) {j : Int} (d0 : decode cL_law p = .ok (.aload_n 0, 1)) (d1 : decode cL_law (p + 1) = .ok (.iload 5, 2)) (d3 : decode cL_law (p + 3) = .ok (.iconst j, 1)) (d4 : decode cL_law (p + 4) = .ok (.iadd, 1)) (d5 : decode cL_law (p + 5) = .ok (.iaload, 1)) (hp : p + 6 = p') (hS : S.1 sb = some (.inr (.int, false), L, fun k => .int (xs k))) (hi : vp_in (i + Int32.ofInt j) L) (k : lwF G ini ret KR p' (lwL sb x b o od i a c d e) (.int (xs (i + Int32.ofInt j).toNatClampNeg) :: st) S) : lwF G ini ret KR p (lwL sb x b o od i a c d e) st S :=
  xw_fn (p + 1) d0 rfl rfl (xw_fn (p + 3) d1 rfl rfl (xw_fn (p + 4) d3 rfl rfl (xw_fn (p + 5) d4 rfl rfl (xw_iald p' d5 hp hS hi k))))
theorem xl_bo (p' : Nat) {v : Int32} {ls : List (Option Value)} (d0 : decode cL_law p = .ok (.ifCond .eq 7, 3)) (d3 : decode cL_law (p + 3) = .ok (.iconst 1, 1)) (d4 : decode cL_law (p + 4) = .ok (.goto 4, 3)) (d7 : decode cL_law (p + 7) = .ok (.iconst 0, 1)) (hp : p + 8 = p') (k : lwF G ini ret KR p' ls (.int (bi (!decide (v = 0))) :: st) S) : lwF G ini ret KR p ls (.int v :: st) S := by
  by_cases hv : v = 0
  · rw [decide_eq_true hv] at k
    exact xw_eq_t (p + 7) d0 rfl hv (xw_fn p' d7 rfl (by rw [← hp]; rfl) k)
  · rw [decide_eq_false hv] at k
    exact xw_eq_f (p + 3) (p + 7) d0 rfl rfl hv (xw_fn (p + 4) d3 rfl rfl (xw_goto p' d4 (by rw [← hp]; rfl) k))
theorem xl_s6 (p' : Nat) {w : Int32} (d0 : decode cL_law p = .ok (.istore 6, 2)) (hp : p + 2 = p') (k : lwF G ini ret KR p' (lwL sb x b o od i (some (.int w)) c d e) st S) : lwF G ini ret KR p (lwL sb x b o od i a c d e) (.int w :: st) S := by
  subst hp
  exact xw_fn (p + 2) d0 rfl rfl k
theorem xl_s7 (p' : Nat) {w r : Int32} (d0 : decode cL_law p = .ok (.istore 7, 2)) (hp : p + 2 = p') (k : lwF G ini ret KR p' (lwL sb x b o od i (some (.int w)) (some (.int r)) d e) st S) : lwF G ini ret KR p (lwL sb x b o od i (some (.int w)) c d e) (.int r :: st) S := by
  subst hp
  exact xw_fn (p + 2) d0 rfl rfl k
/-- a call of the reference, of the class -/
theorem xl_cr (p' : Nat) {ls : List (Option Value)} {idx : Nat} {y : MethodName} {As : List Value} {v : Option Value} (h : LW G H Lo x b o od sb L) (hd : decode cL_law p = .ok (.invokevirtual idx, 3)) (hp : p + 3 = p') (hiv : pm_iv RL idx y As.length) (hst : st = As.reverse ++ .ref b :: rest) (hw : pm_w8 rest) (hc : pm_cnm 12 = some y.cls) (hcal : pm_lca G 40 false y (.ref b :: As) (lwS H sb o od L xs F Fd m z) (.inl v) S1) (k : lwF G ini ret KR p' ls (v.toList ++ rest) S1) : lwF G ini ret KR p ls st (lwS H sb o od L xs F Fd m z) := by
  obtain ⟨n, f, hS⟩ := lwS_i (sb := sb) (o := o) (od := od) (L := L) (xs := xs) (F := F) (Fd := Fd) (m := m) (z := z) h.hM.1
  exact xw_cv p' hd hp hiv hst hw hS hc hcal k
theorem xl_cc (p' : Nat) {ls : List (Option Value)} {idx : Nat} {y : MethodName} {As : List Value} {v : Option Value} (h : LW G H Lo x b o od sb L) (hd : decode cL_law p = .ok (.invokevirtual idx, 3)) (hp : p + 3 = p') (hiv : pm_iv RL idx y As.length) (hst : st = As.reverse ++ .ref x :: rest) (hw : pm_w8 rest) (hc : pm_cnm 11 = some y.cls) (hcal : pm_lca G 40 false y (.ref x :: As) (lwS H sb o od L xs F Fd m z) (.inl v) S1) (k : lwF G ini ret KR p' ls (v.toList ++ rest) S1) : lwF G ini ret KR p ls st (lwS H sb o od L xs F Fd m z) := by
  obtain ⟨n, f, hS⟩ := lwS_i (sb := sb) (o := o) (od := od) (L := L) (xs := xs) (F := F) (Fd := Fd) (m := m) (z := z) h.hX.1
  exact xw_cv p' hd hp hiv hst hw hS hc hcal k
/-- what was thrown is asked, and is the same -/
theorem xl_th (p' : Nat) {w : Int32} (h : LW G H Lo x b o od sb L) (d0 : decode cL_law p = .ok (.aload_n 2, 1)) (d1 : decode cL_law (p + 1) = .ok (.invokevirtual 120, 3)) (d4 : decode cL_law (p + 4) = .ok (.iload 6, 2)) (d6 : decode cL_law (p + 6) = .ok (.if_icmp .eq 5, 3)) (hp : p + 11 = p') (hw : m.1 b 7 = w) (k : lwF G ini ret KR p' (lwL sb x b o od i (some (.int w)) c d e) [] (lwS H sb o od L xs F Fd m z)) : lwF G ini ret KR p (lwL sb x b o od i (some (.int w)) c d e) [] (lwS H sb o od L xs F Fd m z) := by
  subst hp
  exact xw_fn (p + 1) d0 rfl rfl (xl_cr (p + 4) (As := []) (rest := []) h d1 rfl iv_L_120 rfl (Nat.le_of_ble_eq_true rfl) cn_12 (k_thrown h) (xw_fn (p + 6) d4 rfl rfl (xw_ceq_t (p + 11) d6 rfl hw k)))
/-- .. and the answers, where nothing was thrown -/
theorem xl_tail {w r : Int32} {off : Int} (h : LW G H Lo x b o od sb L) (d0 : decode cL_law p = .ok (.aload_n 2, 1)) (d1 : decode cL_law (p + 1) = .ok (.invokevirtual 120, 3)) (d4 : decode cL_law (p + 4) = .ok (.iload 6, 2)) (d6 : decode cL_law (p + 6) = .ok (.if_icmp .eq 5, 3)) (d11 : decode cL_law (p + 11) = .ok (.iload 6, 2)) (d13 : decode cL_law (p + 13) = .ok (.ifCond .ne 15, 3)) (d16 : decode cL_law (p + 16) = .ok (.aload_n 3, 1)) (d17 : decode cL_law (p + 17) = .ok (.iconst 0, 1)) (d18 : decode cL_law (p + 18) = .ok (.laload, 1)) (d19 : decode cL_law (p + 19) = .ok (.iload 7, 2)) (d21 : decode cL_law (p + 21) = .ok (.i2l, 1)) (d22 : decode cL_law (p + 22) = .ok (.lcmp, 1)) (d23 : decode cL_law (p + 23) = .ok (.ifCond .eq 5, 3)) (d28 : decode cL_law (p + 28) = .ok (.goto off, 3)) (hoff : ((p + 28 : Nat) : Int) + off = ((2204 : Nat) : Int)) (hw : m.1 b 7 = w) (hF : w = 0 → F (Int32.ofInt 0).toNatClampNeg = .long r.toInt64) (k : lwF G ini ret KR 2204 (lwL sb x b o od i (some (.int w)) (some (.int r)) d e) [] (lwS H sb o od L xs F Fd m z)) : lwF G ini ret KR p (lwL sb x b o od i (some (.int w)) (some (.int r)) d e) [] (lwS H sb o od L xs F Fd m z) := by
  refine xl_th (p + 11) h d0 d1 d4 d6 rfl hw (xw_fn (p + 13) d11 rfl rfl ?_)
  have kg : lwF G ini ret KR (p + 28) (lwL sb x b o od i (some (.int w)) (some (.int r)) d e) [] (lwS H sb o od L xs F Fd m z) := xw_goto 2204 d28 hoff k
  by_cases h0 : w = 0
  · refine xw_ne_f (p + 16) (p + 28) d13 rfl rfl h0 (xw_fn (p + 17) d16 rfl rfl (xw_fn (p + 18) d17 rfl rfl (xw_lald (p + 19) d18 rfl (lwS_o h) in_0 ?_)))
    rw [hF h0]
    exact xw_fn (p + 21) d19 rfl rfl (xw_fn (p + 22) d21 rfl rfl (xw_fn (p + 23) d22 rfl rfl (xw_eq_t (p + 28) d23 rfl (lg_rf _) kg)))
  · exact xw_ne_t (p + 28) d13 rfl h0 kg
end LAWF
