/-! THE LAW'S CALLS -/
theorem f2d_ok {x : UInt32} (h : vf_n32 x) : vf_n64 (FP.f2d x) := by
  have hx : x.toNat % 2147483648 ≤ 2139095040 := by
    have h1 : x &&& 2147483647 ≤ 2139095040 := h
    rw [UInt32.le_iff_toNat_le, UInt32.toNat_and] at h1
    have h2 : x.toNat &&& 2147483647 ≤ 2139095040 := h1
    rwa [show (2147483647 : Nat) = 2 ^ 31 - 1 by decide, Nat.and_two_pow_sub_one_eq_mod] at h2
  have hE : FP.Core.fieldE FP.Core.b32 x.toNat = x.toNat / 8388608 % 256 := rfl
  have hT : FP.Core.fieldT FP.Core.b32 x.toNat = x.toNat % 8388608 := rfl
  have hD : ∃ D, FP.Core.round FP.Core.b64 (FP.Core.decode FP.Core.b32 x.toNat) = D ∧ gd FP.Core.b64 D ∧ FP.Core.decode FP.Core.b32 x.toNat ≠ .nan := by
    unfold FP.Core.decode
    rw [hE, hT, show FP.Core.b32.exps - 1 = 255 from rfl]
    by_cases e : x.toNat / 8388608 % 256 = 255
    · rw [if_pos e, if_pos (by omega)]
      exact ⟨_, rfl, trivial, fun h => by cases h⟩
    · rw [if_neg e]
      split
      · exact ⟨_, rfl, gd_ratio fq_64, fun h => by cases h⟩
      · exact ⟨_, rfl, gd_ratio fq_64, fun h => by cases h⟩
  obtain ⟨D, h1, h2, h3⟩ := hD
  obtain ⟨s, e, t, g1, g2, g3, g4⟩ := gd_enc fq_64 h2
  have hn : FP.Core.fIsNaN x = false := decide_eq_false h3
  have ef : FP.f2d x = UInt64.ofNat ((s.toNat * 2048 + e) * 4503599627370496 + t) := by
    unfold FP.f2d
    rw [hn]
    show UInt64.ofNat (FP.Core.encode FP.Core.b64 (FP.Core.round FP.Core.b64 (FP.Core.decode FP.Core.b32 x.toNat))) = _
    rw [h1, g1]
  unfold vf_n64
  rw [ef, UInt64.le_iff_toNat_le, UInt64.toNat_and]
  show (UInt64.ofNat ((s.toNat * 2048 + e) * 4503599627370496 + t)).toNat &&& 9223372036854775807 ≤ 9218868437227405312
  have hs : s.toNat ≤ 1 := by cases s <;> decide
  rw [UInt64.toNat_ofNat', show (9223372036854775807 : Nat) = 2 ^ 63 - 1 by decide, Nat.and_two_pow_sub_one_eq_mod]
  omega
theorem us_ok {H : fm_H} {x : Nat} {m m1 : fm_M} {r : UInt32} (h : f_X11_usage H x m = some (r, m1)) : vf_n64 (FP.f2d r) := by
  refine f2d_ok ?_
  unfold f_X11_usage at h
  split at h
  · unfold fm_bn at h
    split at h
    · try dsimp only at h
      split at h
      · split at h
        · split at h
          · try dsimp only at h
            split at h
            · rename_i hn
              cases h
              exact fm_n32s hn
            · cases h
          · cases h
        · cases h
      · cases h
        exact (show vf_n32 FP.fconst0 by unfold vf_n32; decide)
    · cases h
  · cases h
/-- the script, and where what is answered goes -/
def lwX (sb o od L : Nat) (xs : Nat → Int32) (F Fd : Nat → Value) : pm_M := fun a => if a = o then some (.inr (.long, true), 1, F) else if a = od then some (.inr (.double, true), 1, Fd) else if a = sb then some (.inr (.int, false), L, fun k => .int (xs k)) else none
def LW (G : pm_G) (H : fm_H) (Lo : Nat → Nat → Int32) (x b o od sb L : Nat) : Prop := fm_E G H ∧ kX H x ∧ kM H b ∧ x + 661 ≤ b ∧ wdL H Lo x ∧ H.1 o = none ∧ H.1 od = none ∧ H.1 sb = none ∧ od ≠ o ∧ sb ≠ o ∧ sb ≠ od
theorem LW.hE {G : pm_G} {H : fm_H} {Lo : Nat → Nat → Int32} {x b o od sb L : Nat} (h : LW G H Lo x b o od sb L) : fm_E G H := h.1
theorem LW.hX {G : pm_G} {H : fm_H} {Lo : Nat → Nat → Int32} {x b o od sb L : Nat} (h : LW G H Lo x b o od sb L) : kX H x := h.2.1
theorem LW.hM {G : pm_G} {H : fm_H} {Lo : Nat → Nat → Int32} {x b o od sb L : Nat} (h : LW G H Lo x b o od sb L) : kM H b := h.2.2.1
theorem LW.hb {G : pm_G} {H : fm_H} {Lo : Nat → Nat → Int32} {x b o od sb L : Nat} (h : LW G H Lo x b o od sb L) : x + 661 ≤ b := h.2.2.2.1
theorem LW.wd {G : pm_G} {H : fm_H} {Lo : Nat → Nat → Int32} {x b o od sb L : Nat} (h : LW G H Lo x b o od sb L) : wdL H Lo x := h.2.2.2.2.1
theorem LW.no {G : pm_G} {H : fm_H} {Lo : Nat → Nat → Int32} {x b o od sb L : Nat} (h : LW G H Lo x b o od sb L) : H.1 o = none := h.2.2.2.2.2.1
theorem LW.nd {G : pm_G} {H : fm_H} {Lo : Nat → Nat → Int32} {x b o od sb L : Nat} (h : LW G H Lo x b o od sb L) : H.1 od = none := h.2.2.2.2.2.2.1
theorem LW.ns {G : pm_G} {H : fm_H} {Lo : Nat → Nat → Int32} {x b o od sb L : Nat} (h : LW G H Lo x b o od sb L) : H.1 sb = none := h.2.2.2.2.2.2.2.1
theorem LW.od_o {G : pm_G} {H : fm_H} {Lo : Nat → Nat → Int32} {x b o od sb L : Nat} (h : LW G H Lo x b o od sb L) : od ≠ o := h.2.2.2.2.2.2.2.2.1
theorem LW.sb_o {G : pm_G} {H : fm_H} {Lo : Nat → Nat → Int32} {x b o od sb L : Nat} (h : LW G H Lo x b o od sb L) : sb ≠ o := h.2.2.2.2.2.2.2.2.2.1
theorem LW.sb_d {G : pm_G} {H : fm_H} {Lo : Nat → Nat → Int32} {x b o od sb L : Nat} (h : LW G H Lo x b o od sb L) : sb ≠ od := h.2.2.2.2.2.2.2.2.2.2
theorem fm_c_n {H : fm_H} {m : fm_M} {a : Nat} (h : H.1 a = none) : fm_c H m a = none := by
  unfold fm_c
  rw [h]
/-- what a call of the class takes -/
def zz (z z1 : Option Nat × Nat × Nat) : Prop := z.2.1 ≤ z1.2.1 ∧ z1.2.1 ≤ z.2.1 + 1 ∧ z.2.2 ≤ z1.2.2 ∧ z1.2.2 ≤ z.2.2 + 6
theorem zz_rf {z : Option Nat × Nat × Nat} : zz z z := ⟨Nat.le_refl _, Nat.le_add_right _ _, Nat.le_refl _, Nat.le_add_right _ _⟩
theorem zz_x {z : Option Nat × Nat × Nat} : zz z (none, z.2.1 + 1, z.2.2 + 6) := ⟨Nat.le_add_right _ _, Nat.le_refl _, Nat.le_add_right _ _, Nat.le_refl _⟩
section LAWC
variable {G : pm_G} {H : fm_H} {Lo : Nat → Nat → Int32} {T x b o od sb L : Nat} {xs : Nat → Int32} {F Fd : Nat → Value} {m : fm_M} {z : Option Nat × Nat × Nat}
theorem lwX_o : lwX sb o od L xs F Fd o = some (.inr (.long, true), 1, F) := if_pos rfl
theorem lwX_d (h : od ≠ o) : lwX sb o od L xs F Fd od = some (.inr (.double, true), 1, Fd) := by
  unfold lwX
  rw [if_neg h, if_pos rfl]
theorem lwX_s (h : sb ≠ o) (h2 : sb ≠ od) : lwX sb o od L xs F Fd sb = some (.inr (.int, false), L, fun k => .int (xs k)) := by
  unfold lwX
  rw [if_neg h, if_neg h2, if_pos rfl]
theorem lwX_po {F' : Nat → Value} : pm_up (lwX sb o od L xs F Fd) o (some (.inr (.long, true), 1, F')) = lwX sb o od L xs F' Fd := by
  funext j
  unfold pm_up lwX
  by_cases e : j = o
  · rw [if_pos e, if_pos e]
  · rw [if_neg e, if_neg e, if_neg e]
theorem lwX_pd {F' : Nat → Value} (h : od ≠ o) : pm_up (lwX sb o od L xs F Fd) od (some (.inr (.double, true), 1, F')) = lwX sb o od L xs F F' := by
  funext j
  unfold pm_up lwX
  by_cases e : j = od
  · rw [if_pos e, if_neg (by rw [e]; exact h), if_pos e]
  · rw [if_neg e, if_neg e]
    by_cases e2 : j = o
    · rw [if_pos e2, if_pos e2]
    · rw [if_neg e2, if_neg e2, if_neg e]
/-- the state of the law -/
abbrev lwS (H : fm_H) (sb o od L : Nat) (xs : Nat → Int32) (F Fd : Nat → Value) (m : fm_M) (z : Option Nat × Nat × Nat) : pm_S := exS (lwX sb o od L xs F Fd) (fm_c H m, z)
theorem lwS_o (h : LW G H Lo x b o od sb L) : (lwS H sb o od L xs F Fd m z).1 o = some (.inr (.long, true), 1, F) := (ex_none (fm_c_n h.no)).trans lwX_o
theorem lwS_d (h : LW G H Lo x b o od sb L) : (lwS H sb o od L xs F Fd m z).1 od = some (.inr (.double, true), 1, Fd) := (ex_none (fm_c_n h.nd)).trans (lwX_d h.od_o)
theorem lwS_s (h : LW G H Lo x b o od sb L) : (lwS H sb o od L xs F Fd m z).1 sb = some (.inr (.int, false), L, fun k => .int (xs k)) := (ex_none (fm_c_n h.ns)).trans (lwX_s h.sb_o h.sb_d)
theorem lwS_i {a ci : Nat} (h : fm_is H a ci) : ∃ n f, (lwS H sb o od L xs F Fd m z).1 a = some (.inl ci, n, f) := by
  obtain ⟨n, hn⟩ := h
  exact ⟨n, _, ex_at (fm_c_at hn)⟩
theorem fc_i {a ci : Nat} (h : fm_is H a ci) : ∃ n f, fm_c H m a = some (.inl ci, n, f) := by
  obtain ⟨n, hn⟩ := h
  exact ⟨n, _, fm_c_at hn⟩
theorem lca_run {fl : Bool} {y : MethodName} {as : List Value} {X : pm_M} {S : pm_S} {r : pm_R} {S1 : pm_S} (h : pm_run G 41 false y as S r S1) : pm_lca G 40 fl y as (exS X S) r (exS X S1) := Or.inl (ex_run _ _ _ _ _ _ _ h)
/-- thrown -/
theorem k_thrown (h : LW G H Lo x b o od sb L) : pm_lca G 40 false yX12_thrown [.ref b] (lwS H sb o od L xs F Fd m z) (.inl (some (.int (m.1 b 7)))) (lwS H sb o od L xs F Fd m z) :=
  lca_run (q_X12_thrown (d := 40) h.hE h.hM.1 (m.1 b 7) m rfl)
/-- a call with an answer and exceptions, on both sides -/
def KA (G : pm_G) (H : fm_H) (Lo : Nat → Nat → Int32) (T x b o od sb L : Nat) (xs : Nat → Int32) (F Fd : Nat → Value) (m : fm_M) (z : Option Nat × Nat × Nat) (val : Int32 → Value) (yL y12 : MethodName) (As : List Value) : Prop :=
  ∃ (w : Int32) (m1 : fm_M) (z1 : Option Nat × Nat × Nat) (F1 : Nat → Value) (m2 : fm_M) (r : Int32),
    pm_lca G 40 true yL (.ref x :: (As ++ [.ref o])) (lwS H sb o od L xs F Fd m z) (.inl (some (.int w))) (lwS H sb o od L xs F1 Fd m1 z1) ∧
    pm_lca G 40 false y12 (.ref b :: As) (lwS H sb o od L xs F1 Fd m1 z1) (.inl (some (.int r))) (lwS H sb o od L xs F1 Fd m2 z1) ∧
    m2.1 b 7 = w ∧ (w = 0 → F1 (Int32.ofInt 0).toNatClampNeg = val r) ∧ TOP Lo T x b m2 ∧ zz z z1
theorem nn_0 {k : Nat} (hk : k < 3) : ¬ nn (k + 1) = 0 := by
  match k, hk with
  | 0, _ => decide
  | 1, _ => decide
  | 2, _ => decide
theorem k_an {val : Int32 → Value} {yL y11 y12 : MethodName} {As : List Value} {cs : List String} {oo : Option ((Int32 ⊕ String) × fm_M)} {g : fm_M → Option (Int32 × fm_M)} (h : LW G H Lo x b o od sb L) (hcs : cs.length ≤ 3) (hC : CALL Lo x b T oo g (an cs))
    (q1 : ∀ r m1, oo = some (r, m1) → pm_run G 40 false y11 (.ref x :: As) (fm_c H m, z) (fm_rX fm_rI r) (fm_c H m1, fm_zz (fm_rX fm_rI r) z))
    (q2 : ∀ z1 m1 r m2, g m1 = some (r, m2) → pm_run G 41 false y12 (.ref b :: As) (fm_c H m1, z1) (fm_rI r) (fm_c H m2, fm_zz (fm_rI r) z1))
    (wn : ∀ m1 r, pm_run G 40 false y11 (.ref x :: As) (fm_c H m, z) (.inl (some (.int r))) (fm_c H m1, z) → pm_ruh G 40 yL (.ref x :: (As ++ [.ref o])) (lwS H sb o od L xs F Fd m z) (some (.int 0)) (exS (pm_up (lwX sb o od L xs F Fd) o (some (.inr (.long, true), 1, pm_up F (Int32.ofInt 0).toNatClampNeg (val r)))) (fm_c H m1, z)))
    (wx : ∀ m1 k e, cs[k]? = some e → pm_run G 40 false y11 (.ref x :: As) (fm_c H m, z) (.inr e) (fm_c H m1, (none, z.2.1 + 1, z.2.2 + 6)) → pm_ruh G 40 yL (.ref x :: (As ++ [.ref o])) (lwS H sb o od L xs F Fd m z) (some (.int (nn (k + 1)))) (lwS H sb o od L xs F Fd m1 (none, z.2.1 + 1, z.2.2 + 6))) : KA G H Lo T x b o od sb L xs F Fd m z val yL y12 As := by
  obtain ⟨r, m1, ho, r', m2, hg, hA, hT2⟩ := hC
  rcases hA with ⟨rfl, hth⟩ | ⟨k, e, hk, rfl, hth⟩
  · have h1 := wn m1 r' (q1 _ _ ho)
    rw [lwX_po] at h1
    exact ⟨0, m1, z, _, m2, r', Or.inr ⟨rfl, _, rfl, h1⟩, lca_run (q2 _ _ _ _ hg), hth, fun _ => pm_up_s _ _ _, hT2, zz_rf⟩
  · have h1 := wx m1 k e hk (q1 _ _ ho)
    have hl : k < cs.length := (List.getElem?_eq_some_iff.mp hk).1
    exact ⟨nn (k + 1), m1, _, F, m2, r', Or.inr ⟨rfl, _, rfl, h1⟩, lca_run (q2 _ _ _ _ hg), hth, fun e => (nn_0 (by omega) e).elim, hT2, zz_x⟩
/-- .. which is put nowhere -/
def KV (G : pm_G) (H : fm_H) (Lo : Nat → Nat → Int32) (T x b o od sb L : Nat) (xs : Nat → Int32) (F Fd : Nat → Value) (m : fm_M) (z : Option Nat × Nat × Nat) (yL y12 : MethodName) (As : List Value) : Prop :=
  ∃ (w : Int32) (m1 : fm_M) (z1 : Option Nat × Nat × Nat) (m2 : fm_M),
    pm_lca G 40 true yL (.ref x :: As) (lwS H sb o od L xs F Fd m z) (.inl (some (.int w))) (lwS H sb o od L xs F Fd m1 z1) ∧
    pm_lca G 40 false y12 (.ref b :: As) (lwS H sb o od L xs F Fd m1 z1) (.inl none) (lwS H sb o od L xs F Fd m2 z1) ∧
    m2.1 b 7 = w ∧ TOP Lo T x b m2 ∧ zz z z1
theorem k_av {yL y11 y12 : MethodName} {As : List Value} {cs : List String} {oo : Option ((Unit ⊕ String) × fm_M)} {g : fm_M → Option (Unit × fm_M)} (h : LW G H Lo x b o od sb L) (hC : CALL Lo x b T oo g (an cs))
    (q1 : ∀ r m1, oo = some (r, m1) → pm_run G 40 false y11 (.ref x :: As) (fm_c H m, z) (fm_rX fm_rV r) (fm_c H m1, fm_zz (fm_rX fm_rV r) z))
    (q2 : ∀ z1 m1 r m2, g m1 = some (r, m2) → pm_run G 41 false y12 (.ref b :: As) (fm_c H m1, z1) (fm_rV r) (fm_c H m2, fm_zz (fm_rV r) z1))
    (wn : ∀ m1, pm_run G 40 false y11 (.ref x :: As) (fm_c H m, z) (.inl none) (fm_c H m1, z) → pm_ruh G 40 yL (.ref x :: As) (lwS H sb o od L xs F Fd m z) (some (.int 0)) (lwS H sb o od L xs F Fd m1 z))
    (wx : ∀ m1 k e, cs[k]? = some e → pm_run G 40 false y11 (.ref x :: As) (fm_c H m, z) (.inr e) (fm_c H m1, (none, z.2.1 + 1, z.2.2 + 6)) → pm_ruh G 40 yL (.ref x :: As) (lwS H sb o od L xs F Fd m z) (some (.int (nn (k + 1)))) (lwS H sb o od L xs F Fd m1 (none, z.2.1 + 1, z.2.2 + 6))) : KV G H Lo T x b o od sb L xs F Fd m z yL y12 As := by
  obtain ⟨r, m1, ho, r', m2, hg, hA, hT2⟩ := hC
  rcases hA with ⟨rfl, hth⟩ | ⟨k, e, hk, rfl, hth⟩
  · exact ⟨0, m1, z, m2, Or.inr ⟨rfl, _, rfl, wn m1 (q1 _ _ ho)⟩, lca_run (q2 _ _ _ _ hg), hth, hT2, zz_rf⟩
  · exact ⟨nn (k + 1), m1, _, m2, Or.inr ⟨rfl, _, rfl, wx m1 k e hk (q1 _ _ ho)⟩, lca_run (q2 _ _ _ _ hg), hth, hT2, zz_x⟩
/-- a double -/
def KD (G : pm_G) (H : fm_H) (Lo : Nat → Nat → Int32) (T x b o od sb L : Nat) (xs : Nat → Int32) (F Fd : Nat → Value) (m : fm_M) (z : Option Nat × Nat × Nat) (yL y12 : MethodName) (As : List Value) : Prop :=
  ∃ (w : Int32) (m1 : fm_M) (z1 : Option Nat × Nat × Nat) (F1 : Nat → Value) (m2 : fm_M) (r : UInt64),
    pm_lca G 40 true yL (.ref x :: (As ++ [.ref od])) (lwS H sb o od L xs F Fd m z) (.inl (some (.int w))) (lwS H sb o od L xs F F1 m1 z1) ∧
    pm_lca G 40 false y12 (.ref b :: As) (lwS H sb o od L xs F F1 m1 z1) (.inl (some (.double r))) (lwS H sb o od L xs F F1 m2 z1) ∧
    m2.1 b 7 = w ∧ (w = 0 → F1 (Int32.ofInt 0).toNatClampNeg = .double r) ∧ TOP Lo T x b m2 ∧ zz z z1
theorem k_meanDelay (h : LW G H Lo x b o od sb L) (hT : TOP Lo T x b m) (hTT : T ≤ 10000000) (v : Int32) : KD G H Lo T x b o od sb L xs F Fd m z yL_meanDelay yX12_meanDelay [.int v] := by
  obtain ⟨r, m1, ho, r', m2, hg, hA, hT2⟩ := t_meanDelay h.hX h.hM h.hb hT hTT v
  obtain ⟨n, f, hx⟩ := fc_i (m := m) h.hX.1
  have c1 := q_X11_meanDelay (d := 37) (z := z) h.hE h.hX.1 _ _ ho
  have c2 := fun z1 => q_X12_meanDelay (d := 38) (z := z1) h.hE h.hM.1 _ _ hg
  rcases hA with ⟨rfl, hth⟩ | ⟨rfl, hth⟩
  · have h1 := wL_meanDelay_n (X := lwX sb o od L xs F Fd) hx (lwX_d h.od_o) (fm_c_n h.nd) c1
    rw [lwX_pd h.od_o] at h1
    exact ⟨0, m1, z, _, m2, r', Or.inr ⟨rfl, _, rfl, h1⟩, lca_run (c2 z), hth, fun _ => pm_up_s _ _ _, hT2, zz_rf⟩
  · have h1 := wL_meanDelay_x (X := lwX sb o od L xs F Fd) (o := od) (k := 0) hx rfl c1
    exact ⟨1, m1, _, Fd, m2, r', Or.inr ⟨rfl, _, rfl, h1⟩, lca_run (c2 _), hth, fun e => absurd e (by decide), hT2, zz_x⟩
/-- an answer and no exception -/
def KE {α : Type} (R : α → pm_R) (G : pm_G) (H : fm_H) (Lo : Nat → Nat → Int32) (T x b o od sb L : Nat) (xs : Nat → Int32) (F Fd : Nat → Value) (m : fm_M) (z : Option Nat × Nat × Nat) (y11 y12 : MethodName) : Prop :=
  ∃ (m1 : fm_M) (m2 : fm_M) (r : α),
    pm_lca G 40 false y11 [.ref x] (lwS H sb o od L xs F Fd m z) (R r) (lwS H sb o od L xs F Fd m1 z) ∧
    pm_lca G 40 false y12 [.ref b] (lwS H sb o od L xs F Fd m1 z) (R r) (lwS H sb o od L xs F Fd m2 z) ∧ TOP Lo T x b m2
theorem k_eq {α : Type} {R : α → pm_R} (hR : ∀ (r : α) (z : Option Nat × Nat × Nat), fm_zz (R r) z = z) {y11 y12 : MethodName} {oo : Option (α × fm_M)} {g : fm_M → Option (α × fm_M)} (hC : CALL Lo x b T oo g eqA)
    (q1 : ∀ r m1, oo = some (r, m1) → pm_run G 41 false y11 [.ref x] (fm_c H m, z) (R r) (fm_c H m1, fm_zz (R r) z))
    (q2 : ∀ m1 r m2, g m1 = some (r, m2) → pm_run G 41 false y12 [.ref b] (fm_c H m1, z) (R r) (fm_c H m2, fm_zz (R r) z)) : KE R G H Lo T x b o od sb L xs F Fd m z y11 y12 := by
  obtain ⟨r, m1, ho, r', m2, hg, rfl, hT2⟩ := hC
  have c1 := q1 _ _ ho
  have c2 := q2 _ _ _ hg
  rw [hR] at c1 c2
  exact ⟨m1, m2, r, lca_run c1, lca_run c2, hT2⟩
end LAWC
