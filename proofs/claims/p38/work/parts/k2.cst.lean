/-! CONSTRUCTORS: what is made lies behind the object, cell by cell, as H has it -/
/-- the cells from a up to e are there, with contents F; all else is as in S0 -/
def cI (H : fm_H) (S0 : pm_S) (a e sl : Nat) (F : Nat → Nat → Value) (S : pm_S) : Prop := a + 1 ≤ e ∧ (∀ q, a ≤ q → q < e → ∃ t, H.1 q = some t ∧ S.1 q = some (t.1, t.2, F q)) ∧ (∀ q, q < a ∨ e ≤ q → S.1 q = S0.1 q) ∧ S.2 = (some e, S0.2.2.1 + (e - (a + 1)), S0.2.2.2 + sl)
/-- the cell is as it shall be -/
def gdo (H : fm_H) (m : fm_M) (F : Nat → Nat → Value) (q : Nat) : Prop := ∀ t, H.1 q = some t → ∀ k, k < t.2 → F q k = fm_v H m t.1 q k
/-- a constructor's contract -/
def CT (G : pm_G) (H : fm_H) (m : fm_M) (d : Nat) (y : MethodName) (ci n sl a : Nat) : Prop := ∀ S0 : pm_S, S0.1 a = some (px_df ci) → S0.2.1 = some (a + 1) → ∃ S1 F, pm_run G d false y [.ref a] S0 (.inl none) S1 ∧ cI H S0 a (a + 1 + n) sl F S1 ∧ ∀ q, a ≤ q → q < a + 1 + n → gdo H m F q
/-- a new cell's contents -/
def nwF (F : Nat → Nat → Value) (e : Nat) (g : Nat → Value) : Nat → Nat → Value := fun p => if p = e then g else F p
theorem nwF_s {F : Nat → Nat → Value} {e : Nat} {g : Nat → Value} : nwF F e g e = g := if_pos rfl
theorem nwF_o {F : Nat → Nat → Value} {e p : Nat} {g : Nat → Value} (h : p ≠ e) : nwF F e g p = F p := if_neg h
theorem up_fm {F : Nat → Nat → Value} {q k : Nat} {v : Value} : fm_up F q k v q = pm_up (F q) k v := by
  funext j
  unfold fm_up pm_up
  by_cases e : j = k
  · rw [if_pos ⟨rfl, e⟩, if_pos e]
  · rw [if_neg (fun z => e z.2), if_neg e]
theorem up_fo {F : Nat → Nat → Value} {q k q' : Nat} {v : Value} (h : q' ≠ q) : fm_up F q k v q' = F q' := by
  funext j
  exact fm_up_o (fun z => h z.1)
section
variable {H : fm_H} {S0 S : pm_S} {a e sl q k : Nat} {F : Nat → Nat → Value} {v : Value}
theorem cI_up {t : (Nat ⊕ (FieldType × Bool)) × Nat} (h : cI H S0 a e sl F S) (h1 : a ≤ q) (h2 : q < e) (ht : H.1 q = some t) : cI H S0 a e sl (fm_up F q k v) (pm_up S.1 q (some (t.1, t.2, pm_up (F q) k v)), S.2) := by
  obtain ⟨c0, c1, c2, c3⟩ := h
  refine ⟨c0, fun p p1 p2 => ?_, fun p hp => ?_, c3⟩
  · by_cases z : p = q
    · subst z
      refine ⟨t, ht, ?_⟩
      show pm_up S.1 p _ p = _
      rw [pm_up_s, up_fm]
    · obtain ⟨t', g1, g2⟩ := c1 p p1 p2
      refine ⟨t', g1, ?_⟩
      show pm_up S.1 q _ p = _
      rw [pm_up_n _ _ z, up_fo z]
      exact g2
  · show pm_up S.1 q _ p = _
    rw [pm_up_n _ _ (by omega)]
    exact c2 p hp
theorem cI_new {t : (Nat ⊕ (FieldType × Bool)) × Nat} {g : Nat → Value} (h : cI H S0 a e sl F S) (ht : H.1 e = some t) : cI H S0 a (e + 1) (sl + t.2) (nwF F e g) (pm_new S e (t.1, t.2, g)) := by
  obtain ⟨c0, c1, c2, c3⟩ := h
  refine ⟨by omega, fun p p1 p2 => ?_, fun p hp => ?_, ?_⟩
  · by_cases z : p = e
    · subst z
      refine ⟨t, ht, ?_⟩
      show pm_up S.1 p _ p = _
      rw [pm_up_s, nwF_s]
    · obtain ⟨t', g1, g2⟩ := c1 p p1 (by omega)
      refine ⟨t', g1, ?_⟩
      show pm_up S.1 e _ p = _
      rw [pm_up_n _ _ z, nwF_o z]
      exact g2
  · show pm_up S.1 e _ p = _
    rw [pm_up_n _ _ (by omega)]
    exact c2 p (by omega)
  · show (some (e + 1), S.2.2.1 + 1, S.2.2.2 + t.2) = _
    rw [c3]
    show (some (e + 1), S0.2.2.1 + (e - (a + 1)) + 1, S0.2.2.2 + sl + t.2) = (some (e + 1), S0.2.2.1 + (e + 1 - (a + 1)), S0.2.2.2 + (sl + t.2))
    rw [show S0.2.2.1 + (e - (a + 1)) + 1 = S0.2.2.1 + (e + 1 - (a + 1)) by omega, show S0.2.2.2 + sl + t.2 = S0.2.2.2 + (sl + t.2) by omega]
theorem cI_at {t : (Nat ⊕ (FieldType × Bool)) × Nat} (h : cI H S0 a e sl F S) (h1 : a ≤ q) (h2 : q < e) (ht : H.1 q = some t) : S.1 q = some (t.1, t.2, F q) := by
  obtain ⟨t', g1, g2⟩ := h.2.1 q h1 h2
  rw [ht] at g1
  cases g1
  exact g2
end
section
variable {G : pm_G} {H : fm_H} {m : fm_M} {d : Nat} {own : String} {cc : ByteArray} {KR : pm_E} {tc : px_TC} {fr : px_FR} {mr : px_MR} {cr : px_CR} {lr : px_LR} {S0 : pm_S} {a e sl : Nat} {F : Nat → Nat → Value}
variable {pc : Nat} {ls : List (Option Value)} {st : List Value}
def vc (G : pm_G) (H : fm_H) (d : Nat) (own : String) (cc : ByteArray) (KR : pm_E) (S0 : pm_S) (a pc : Nat) (ls : List (Option Value)) (st : List Value) (e sl : Nat) (F : Nat → Nat → Value) : Prop := ∀ S, cI H S0 a e sl F S → px_W G (pm_run G d) own true cc none KR pc ls st S
theorem vc_step {ins : Instr} {len : Nat} (hd : decode cc pc = .ok (ins, len)) (h : ∀ S, cI H S0 a e sl F S → pm_step G (pm_run G d) own true cc none [] (fun pc ls st S => px_W G (pm_run G d) own true cc none KR pc ls st S) KR pc ls st S ins len) : vc G H d own cc KR S0 a pc ls st e sl F := fun S hS => px_step hd (fun _ _ _ _ h => h) (h S hS)
theorem vc_fn (T : fm_T own cc tc fr mr cr lr) : ∀ (n : Nat) {pc pc1 : Nat} {ls ls1 : List (Option Value)} {st st1 : List Value}, fm_ru tc n pc ls st = some (pc1, ls1, st1) → vc G H d own cc KR S0 a pc1 ls1 st1 e sl F → vc G H d own cc KR S0 a pc ls st e sl F := by
  intro n
  induction n with
  | zero =>
    intro pc pc1 ls ls1 st st1 h g
    cases h
    exact g
  | succ n ih =>
    intro pc pc1 ls ls1 st st1 h g
    unfold fm_ru at h
    split at h
    · cases h
    · rename_i ins len hq
      have hd := px_dc_at T.2 hq
      split at h
      · rename_i off
        cases hb : Nat.beq len 3 with
        | false => rw [hb] at h; cases h
        | true =>
          rw [hb] at h
          simp only [cond_true] at h
          split at h
          · rename_i t ht
            exact vc_step hd (fun S hS => ⟨Nat.eq_of_beq_eq_true hb, t, px_tg_eq ht, ih h g S hS⟩)
          · cases h
      · rename_i x9 hng
        cases hb : Nat.beq len (pm_len ins) with
        | false => rw [hb] at h; cases h
        | true =>
          rw [hb] at h
          simp only [cond_true] at h
          split at h
          · rename_i q9 hq9
            have hk := ih h g
            refine vc_step hd (fun S hS => ?_)
            unfold pm_step
            split <;> first | exact ⟨Nat.eq_of_beq_eq_true hb, q9, hq9, hk S hS⟩ | (exact absurd rfl (hng _)) | (simp [pm_fn] at hq9)
          · cases h
theorem vc_r (T : fm_T own cc tc fr mr cr lr) (n pc1 : Nat) (ls1 : List (Option Value)) (st1 : List Value) (h : fm_ru tc n pc ls st = some (pc1, ls1, st1)) (g : vc G H d own cc KR S0 a pc1 ls1 st1 e sl F) : vc G H d own cc KR S0 a pc ls st e sl F := vc_fn T n h g
/-- Object.<init> -/
theorem vc_oi (T : fm_T own cc tc fr mr cr lr) (pc1 : Nat) {idx b ci n rc : Nat} {thr : Bool} {y : MethodName} (h : px_lk tc pc = some (.invokespecial idx, 3)) (hm : px_lk mr idx = some (3, ci, y, n, rc, thr)) (hs : Nat.ble ((st.map fun v => v.category).sum) 8 = true) (hp : pc + 3 = pc1) (g : vc G H d own cc KR S0 a pc1 ls st e sl F) : vc G H d own cc KR S0 a pc ls (.ref b :: st) e sl F := by
  subst hp
  exact vc_step (px_dc_at T.2 h) (fun S hS => ⟨rfl, Or.inl ⟨b, st, rfl, Nat.le_of_ble_eq_true hs, ((T.1.2.1 _ (px_lk_in hm)).2.2.2.1 rfl).1, g S hS⟩⟩)
/-- putfield -/
theorem vc_pf (T : fm_T own cc tc fr mr cr lr) (pc1 : Nat) {idx ci k w q n : Nat} {ty : FieldType} {v : Value} (h : px_lk tc pc = some (.putfield idx, 3)) (hf : px_lk fr idx = some (ci, k, ty, w)) (hw : w = 0 ∨ w = 1) (hp : pc + 3 = pc1) (h1 : a ≤ q) (h2 : q < e) (ht : H.1 q = some (.inl ci, n)) (hn : narrow ty v = v) (hv : fits ty v = true) (g : vc G H d own cc KR S0 a pc1 ls st e sl (fm_up F q k v)) : vc G H d own cc KR S0 a pc ls (v :: .ref q :: st) e sl F := by
  subst hp
  have f := T.1.1 _ (px_lk_in hf)
  refine vc_step (px_dc_at T.2 h) (fun S hS => ⟨rfl, ci, k, ty, q, n, v, st, F q, rfl, f.1, ?_, cI_at hS h1 h2 ht, hn, hv, g _ (cI_up (t := (.inl ci, n)) hS h1 h2 ht)⟩)
  rcases hw with hw | hw
  · exact f.2.1 hw true
  · exact f.2.2 hw
/-- getfield -/
theorem vc_gf (T : fm_T own cc tc fr mr cr lr) (pc1 : Nat) {idx ci k w q n : Nat} {ty : FieldType} (h : px_lk tc pc = some (.getfield idx, 3)) (hf : px_lk fr idx = some (ci, k, ty, w)) (hp : pc + 3 = pc1) (h1 : a ≤ q) (h2 : q < e) (ht : H.1 q = some (.inl ci, n)) (g : vc G H d own cc KR S0 a pc1 ls (F q k :: st) e sl F) : vc G H d own cc KR S0 a pc ls (.ref q :: st) e sl F := by
  subst hp
  exact vc_step (px_dc_at T.2 h) (fun S hS => ⟨rfl, ci, k, ty, q, n, st, F q, rfl, (T.1.1 _ (px_lk_in hf)).1, cI_at hS h1 h2 ht, g S hS⟩)
/-- newarray -/
theorem vc_na (T : fm_T own cc tc fr mr cr lr) (pc1 N : Nat) {at9 : ArrayType} {n : Int32} (h : px_lk tc pc = some (.newarray at9, 2)) (hp : pc + 2 = pc1) (h9 : px_at9 at9 = true) (hn : 0 ≤ n.toInt) (hN : n.toNatClampNeg = N) (hb : N ≤ 100000) (ht : H.1 e = some (.inr (newarray.typeOf at9, true), N)) (g : vc G H d own cc KR S0 a pc1 ls (.ref e :: st) (e + 1) (sl + N) (nwF F e (fun _ => defaultValue (newarray.typeOf at9)))) : vc G H d own cc KR S0 a pc ls (.int n :: st) e sl F := by
  subst hp
  refine vc_step (px_dc_at T.2 h) (fun S hS => ⟨rfl, n, st, e, rfl, ?_, px_cb h9 (by omega), pt_arr at9 h9, by rw [hS.2.2.2], ?_⟩)
  · rw [Int32.lt_iff_toInt_lt]
    have : (0 : Int32).toInt = 0 := by decide
    omega
  · rw [hN]
    exact g _ (cI_new hS ht)
/-- anewarray -/
theorem vc_an (T : fm_T own cc tc fr mr cr lr) (pc1 N ci : Nat) {idx : Nat} {C : String} {n : Int32} (h : px_lk tc pc = some (.anewarray idx, 3)) (hc : px_lk cr idx = some (.inl ci)) (hC : px_nm ci = some C) (hp : pc + 3 = pc1) (hn : 0 ≤ n.toInt) (hN : n.toNatClampNeg = N) (hb : N ≤ 100000) (ht : H.1 e = some (.inr (.object C, true), N)) (g : vc G H d own cc KR S0 a pc1 ls (.ref e :: st) (e + 1) (sl + N) (nwF F e (fun _ => .null))) : vc G H d own cc KR S0 a pc ls (.int n :: st) e sl F := by
  subst hp
  obtain ⟨C', T', q1, q2, q3, q4, q5, q6, q7⟩ := (T.1.2.2.1 _ (px_lk_in hc)).1 ci rfl
  obtain ⟨e1, e2⟩ := q7 C hC
  subst e1
  refine vc_step (px_dc_at T.2 h) (fun S hS => ⟨rfl, C, n, st, e, rfl, ?_, by omega, q4, e2, by rw [hS.2.2.2], ?_⟩)
  · rw [Int32.lt_iff_toInt_lt]
    have : (0 : Int32).toInt = 0 := by decide
    omega
  · rw [hN]
    exact g _ (cI_new hS ht)
/-- aastore -/
theorem vc_aa (T : fm_T own cc tc fr mr cr lr) (pc1 : Nat) {i : Int32} {q b n cj nb j : Nat} {r : vw_C} (h : px_lk tc pc = some (.aastore, 1)) (hp : pc + 1 = pc1) (h1 : a ≤ q) (h2 : q < e) (h3 : a ≤ b) (h4 : b < e) (ht : H.1 q = some (.inr (.object r.1, true), n)) (hb : H.1 b = some (.inl cj, nb)) (hr : pm_cl[cj]? = some r) (hi : px_inb i n = true) (hj : i.toNatClampNeg = j) (g : vc G H d own cc KR S0 a pc1 ls st e sl (fm_up F q j (.ref b))) : vc G H d own cc KR S0 a pc ls (.ref b :: .int i :: .ref q :: st) e sl F := by
  subst hp
  subst hj
  exact vc_step (px_dc_at T.2 h) (fun S hS => ⟨rfl, .ref b, .ref b, i, q, n, st, .object r.1, F q, rfl, cI_at hS h1 h2 ht, ⟨⟨b, cj, nb, F b, r, rfl, cI_at hS h3 h4 hb, hr, rfl⟩, rfl⟩, px_inb_in hi, g _ (cI_up (t := (.inr (.object r.1, true), n)) hS h1 h2 ht)⟩)
/-- a loop's head -/
theorem vc_ge (T : fm_T own cc tc fr mr cr lr) (t pc1 : Nat) {x y : Int32} {off : Int} (h : px_lk tc pc = some (.if_icmp .ge off, 3)) (ht : px_tg pc off = some t) (hp : pc + 3 = pc1) (g1 : y ≤ x → vc G H d own cc KR S0 a t ls st e sl F) (g2 : ¬ y ≤ x → vc G H d own cc KR S0 a pc1 ls st e sl F) : vc G H d own cc KR S0 a pc ls (.int y :: .int x :: st) e sl F := by
  subst hp
  exact vc_step (px_dc_at T.2 h) (fun S hS => ⟨rfl, x, y, st, t, rfl, px_tg_eq ht, fun z => g1 z S hS, fun z => g2 z S hS⟩)
/-- new, its constructor -/
theorem vc_sub (T : fm_T own cc tc fr mr cr lr) (pc1 : Nat) {idx idx2 ci ci' n N sl' rc : Nat} {thr : Bool} {y : MethodName} (h : px_lk tc pc = some (.new idx, 3)) (hc : px_lk cr idx = some (.inl ci)) (h2 : px_lk tc (pc + 3) = some (.dup, 1)) (h3 : px_lk tc (pc + 4) = some (.invokespecial idx2, 3)) (hm : px_lk mr idx2 = some (2, ci', y, 0, rc, thr)) (hp : pc + 7 = pc1) (hN : (px_cn ci).1 = N) (hs : Nat.ble (((.ref e :: st).map fun v => v.category).sum) 8 = true) (ht : H.1 e = some (.inl ci, N)) (hq : CT G H m d y ci n sl' e)
    (g : ∀ F', (∀ q, q < e → F' q = F q) → (∀ q, e ≤ q → q < e + 1 + n → gdo H m F' q) → vc G H d own cc KR S0 a pc1 ls (.ref e :: st) (e + 1 + n) (sl + N + sl') F') : vc G H d own cc KR S0 a pc ls st e sl F := by
  subst hp hN
  obtain ⟨C', T', q1, q2, q3, q4, q5, q6, -⟩ := (T.1.2.2.1 _ (px_lk_in hc)).1 ci rfl
  refine vc_step (px_dc_at T.2 h) (fun S hS => ⟨rfl, Or.inl ⟨ci, C', T', (px_cn ci).1, e, (px_cn ci).2, q2, q1, q3, q4, q5, q6, by rw [hS.2.2.2], ?_⟩⟩)
  have hS2 := cI_new (g := fun k => defaultValue ((px_cn ci).2 k)) hS ht
  refine px_step (px_dc_at T.2 h2) (fun _ _ _ _ h => h) (show pm_step _ _ _ _ _ _ _ _ _ _ _ _ _ .dup 1 from ⟨rfl, (pc + 3 + 1, ls, .ref e :: .ref e :: st), rfl, ?_⟩)
  obtain ⟨S1, F1, r1, r2, r3⟩ := hq (pm_new S e (.inl ci, (px_cn ci).1, fun k => defaultValue ((px_cn ci).2 k))) (by
    show pm_up S.1 e _ e = _
    rw [pm_up_s]
    rfl) rfl
  refine px_step (px_dc_at T.2 h3) (fun _ _ _ _ h => h) ⟨rfl, Or.inr ⟨y, [], .ref e :: st, e, .inl none, S1, (T.1.2.1 _ (px_lk_in hm)).2.2.1 rfl, rfl, Nat.le_of_ble_eq_true hs, r1, ?_⟩⟩
  show px_W G (pm_run G d) own true cc none KR (pc + 7) ls (.ref e :: st) S1
  obtain ⟨c0, c1, c2, c3⟩ := hS2
  obtain ⟨d0, d1, d2, d3⟩ := r2
  refine g (fun q => if q < e then F q else F1 q) (fun q hq => if_pos hq) (fun q hq1 hq2 t ht k hk => ?_) S1 ⟨by omega, fun q z1 z2 => ?_, fun q hq => ?_, ?_⟩
  · show (if q < e then F q else F1 q) k = _
    rw [if_neg (by omega)]
    exact r3 q hq1 hq2 t ht k hk
  · by_cases z : q < e
    · obtain ⟨t', g1, g2⟩ := c1 q z1 (by omega)
      refine ⟨t', g1, ?_⟩
      show _ = some (t'.1, t'.2, if q < e then F q else F1 q)
      rw [d2 q (by omega), if_pos z, g2, nwF_o (by omega)]
    · obtain ⟨t', g1, g2⟩ := d1 q (by omega) (by omega)
      refine ⟨t', g1, ?_⟩
      show _ = some (t'.1, t'.2, if q < e then F q else F1 q)
      rw [if_neg z]
      exact g2
  · rw [d2 q (by omega)]
    exact c2 q (by omega)
  · rw [d3, c3]
    show (some (e + 1 + n), S0.2.2.1 + (e + 1 - (a + 1)) + (e + 1 + n - (e + 1)), S0.2.2.2 + (sl + (px_cn ci).1) + sl') = _
    rw [show S0.2.2.1 + (e + 1 - (a + 1)) + (e + 1 + n - (e + 1)) = S0.2.2.1 + (e + 1 + n - (a + 1)) by omega, show S0.2.2.2 + (sl + (px_cn ci).1) + sl' = S0.2.2.2 + (sl + (px_cn ci).1 + sl') by omega]
/-- the end -/
theorem vc_ret (T : fm_T own cc tc fr mr cr lr) (h : px_lk tc pc = some (.return_, 1)) (hK : ∀ S, cI H S0 a e sl F S → KR (.inl none) S) : vc G H d own cc KR S0 a pc ls [] e sl F := vc_step (px_dc_at T.2 h) (fun S hS => ⟨rfl, rfl, rfl, hK S hS⟩)
end
/-! the cells that are still written are told one by one; all others are as they shall be -/
section
variable {G : pm_G} {H : fm_H} {m : fm_M} {d : Nat} {own : String} {cc : ByteArray} {KR : pm_E} {tc : px_TC} {fr : px_FR} {mr : px_MR} {cr : px_CR} {lr : px_LR} {S0 : pm_S} {a e sl : Nat} {F : Nat → Nat → Value}
variable {pc : Nat} {ls : List (Option Value)} {st : List Value} {P L1 L2 : List (Nat × (Nat → Value))}
def cP (H : fm_H) (m : fm_M) (a : Nat) (P : List (Nat × (Nat → Value))) (F : Nat → Nat → Value) (e : Nat) : Prop := (∀ x ∈ P, x.1 < e ∧ F x.1 = x.2) ∧ ∀ q, a ≤ q → q < e → (∀ x ∈ P, x.1 ≠ q) → gdo H m F q
theorem gdo_c {F F' : Nat → Nat → Value} {q : Nat} (h : gdo H m F q) (e : F' q = F q) : gdo H m F' q := fun t ht k hk => by
  rw [e]
  exact h t ht k hk
theorem cP_up {q k : Nat} {g : Nat → Value} {v : Value} (h : cP H m a (L1 ++ (q, g) :: L2) F e) (hd : ∀ x ∈ L1 ++ L2, x.1 ≠ q) : cP H m a (L1 ++ (q, pm_up g k v) :: L2) (fm_up F q k v) e := by
  obtain ⟨h1, h2⟩ := h
  have hq := h1 (q, g) (List.mem_append_right _ List.mem_cons_self)
  have ot : ∀ x ∈ L1 ++ L2, x.1 < e ∧ fm_up F q k v x.1 = x.2 := fun x hx => by
    have hx' : x ∈ L1 ++ (q, g) :: L2 := by
      rcases List.mem_append.mp hx with z | z
      · exact List.mem_append_left _ z
      · exact List.mem_append_right _ (List.mem_cons_of_mem _ z)
    obtain ⟨b1, b2⟩ := h1 x hx'
    exact ⟨b1, by rw [up_fo (hd x hx)]; exact b2⟩
  refine ⟨fun x hx => ?_, fun p p1 p2 hp => ?_⟩
  · rcases List.mem_append.mp hx with z | z
    · exact ot x (List.mem_append_left _ z)
    · rcases List.mem_cons.mp z with z | z
      · subst z
        refine ⟨hq.1, ?_⟩
        show fm_up F q k v q = pm_up g k v
        rw [up_fm, show F q = g from hq.2]
      · exact ot x (List.mem_append_right _ z)
  · have np : p ≠ q := fun z => hp (q, pm_up g k v) (List.mem_append_right _ List.mem_cons_self) z.symm
    refine gdo_c (h2 p p1 p2 (fun x hx => ?_)) (up_fo np)
    rcases List.mem_append.mp hx with z | z
    · exact hp x (List.mem_append_left _ z)
    · rcases List.mem_cons.mp z with z | z
      · subst z
        exact fun y => np y.symm
      · exact hp x (List.mem_append_right _ (List.mem_cons_of_mem _ z))
/-- a new cell that is good at once -/
theorem cP_nw {g : Nat → Value} (h : cP H m a P F e) (hg : ∀ t, H.1 e = some t → ∀ k, k < t.2 → g k = fm_v H m t.1 e k) : cP H m a P (nwF F e g) (e + 1) := by
  obtain ⟨h1, h2⟩ := h
  refine ⟨fun x hx => ?_, fun p p1 p2 hp => ?_⟩
  · obtain ⟨b1, b2⟩ := h1 x hx
    exact ⟨by omega, by rw [nwF_o (by omega)]; exact b2⟩
  · by_cases z : p = e
    · subst z
      intro t ht k hk
      rw [nwF_s]
      exact hg t ht k hk
    · exact gdo_c (h2 p p1 (by omega) hp) (nwF_o z)
/-- a new cell that is told -/
theorem cP_nt {g : Nat → Value} (h : cP H m a P F e) : cP H m a (P ++ [(e, g)]) (nwF F e g) (e + 1) := by
  obtain ⟨h1, h2⟩ := h
  refine ⟨fun x hx => ?_, fun p p1 p2 hp => ?_⟩
  · rcases List.mem_append.mp hx with z | z
    · obtain ⟨b1, b2⟩ := h1 x z
      exact ⟨by omega, by rw [nwF_o (by omega)]; exact b2⟩
    · rcases List.mem_cons.mp z with z | z
      · subst z
        exact ⟨by show e < e + 1; omega, nwF_s⟩
      · cases z
  · have np : p ≠ e := fun z => hp (e, g) (List.mem_append_right _ List.mem_cons_self) z.symm
    exact gdo_c (h2 p p1 (by omega) (fun x hx => hp x (List.mem_append_left _ hx))) (nwF_o np)
def vq (G : pm_G) (H : fm_H) (m : fm_M) (d : Nat) (own : String) (cc : ByteArray) (KR : pm_E) (S0 : pm_S) (a pc : Nat) (ls : List (Option Value)) (st : List Value) (e sl : Nat) (P : List (Nat × (Nat → Value))) : Prop := ∀ F, cP H m a P F e → vc G H d own cc KR S0 a pc ls st e sl F
theorem vq_r (T : fm_T own cc tc fr mr cr lr) (n pc1 : Nat) (ls1 : List (Option Value)) (st1 : List Value) (h : fm_ru tc n pc ls st = some (pc1, ls1, st1)) (g : vq G H m d own cc KR S0 a pc1 ls1 st1 e sl P) : vq G H m d own cc KR S0 a pc ls st e sl P := fun F hF => vc_r T n pc1 ls1 st1 h (g F hF)
theorem vq_oi (T : fm_T own cc tc fr mr cr lr) (pc1 : Nat) {idx b ci n rc : Nat} {thr : Bool} {y : MethodName} (h : px_lk tc pc = some (.invokespecial idx, 3)) (hm : px_lk mr idx = some (3, ci, y, n, rc, thr)) (hs : Nat.ble ((st.map fun v => v.category).sum) 8 = true) (hp : pc + 3 = pc1) (g : vq G H m d own cc KR S0 a pc1 ls st e sl P) : vq G H m d own cc KR S0 a pc ls (.ref b :: st) e sl P := fun F hF => vc_oi T pc1 h hm hs hp (g F hF)
/-- a field of an object that is told -/
theorem vq_pf (T : fm_T own cc tc fr mr cr lr) (pc1 : Nat) (L1 L2 : List (Nat × (Nat → Value))) {idx ci k w q n : Nat} {ty : FieldType} {v : Value} {f : Nat → Value} (h : px_lk tc pc = some (.putfield idx, 3)) (hf : px_lk fr idx = some (ci, k, ty, w)) (hw : w = 0 ∨ w = 1) (hp : pc + 3 = pc1) (h1 : a ≤ q) (ht : H.1 q = some (.inl ci, n)) (hn : narrow ty v = v) (hv : fits ty v = true) (hd : ∀ x ∈ L1 ++ L2, x.1 ≠ q) (g : vq G H m d own cc KR S0 a pc1 ls st e sl (L1 ++ (q, pm_up f k v) :: L2)) : vq G H m d own cc KR S0 a pc ls (v :: .ref q :: st) e sl (L1 ++ (q, f) :: L2) := fun F hF =>
  vc_pf T pc1 h hf hw hp h1 (hF.1 (q, f) (List.mem_append_right _ List.mem_cons_self)).1 ht hn hv (g _ (cP_up hF hd))
theorem vq_gf (T : fm_T own cc tc fr mr cr lr) (pc1 : Nat) (L1 L2 : List (Nat × (Nat → Value))) {idx ci k w q n : Nat} {ty : FieldType} {f : Nat → Value} (h : px_lk tc pc = some (.getfield idx, 3)) (hf : px_lk fr idx = some (ci, k, ty, w)) (hp : pc + 3 = pc1) (h1 : a ≤ q) (ht : H.1 q = some (.inl ci, n)) (g : vq G H m d own cc KR S0 a pc1 ls (f k :: st) e sl (L1 ++ (q, f) :: L2)) : vq G H m d own cc KR S0 a pc ls (.ref q :: st) e sl (L1 ++ (q, f) :: L2) := fun F hF => by
  obtain ⟨c1, c2⟩ := hF.1 (q, f) (List.mem_append_right _ List.mem_cons_self)
  refine vc_gf T pc1 h hf hp h1 c1 ht ?_
  rw [show F q = f from c2]
  exact g F hF
theorem vq_na (T : fm_T own cc tc fr mr cr lr) (pc1 N : Nat) {at9 : ArrayType} {n : Int32} (h : px_lk tc pc = some (.newarray at9, 2)) (hp : pc + 2 = pc1) (h9 : px_at9 at9 = true) (hn : 0 ≤ n.toInt) (hN : n.toNatClampNeg = N) (hb : N ≤ 100000) (ht : H.1 e = some (.inr (newarray.typeOf at9, true), N)) (hg : ∀ k, k < N → defaultValue (newarray.typeOf at9) = fm_v H m (.inr (newarray.typeOf at9, true)) e k) (g : vq G H m d own cc KR S0 a pc1 ls (.ref e :: st) (e + 1) (sl + N) P) : vq G H m d own cc KR S0 a pc ls (.int n :: st) e sl P := fun F hF =>
  vc_na T pc1 N h hp h9 hn hN hb ht (g _ (cP_nw hF (fun t ht' k hk => by
    rw [ht] at ht'
    cases ht'
    exact hg k hk)))
/-- .. that is told -/
theorem vq_nt (T : fm_T own cc tc fr mr cr lr) (pc1 N : Nat) {at9 : ArrayType} {n : Int32} (h : px_lk tc pc = some (.newarray at9, 2)) (hp : pc + 2 = pc1) (h9 : px_at9 at9 = true) (hn : 0 ≤ n.toInt) (hN : n.toNatClampNeg = N) (hb : N ≤ 100000) (ht : H.1 e = some (.inr (newarray.typeOf at9, true), N)) (g : vq G H m d own cc KR S0 a pc1 ls (.ref e :: st) (e + 1) (sl + N) (P ++ [(e, fun _ => defaultValue (newarray.typeOf at9))])) : vq G H m d own cc KR S0 a pc ls (.int n :: st) e sl P := fun F hF =>
  vc_na T pc1 N h hp h9 hn hN hb ht (g _ (cP_nt hF))
theorem vq_an (T : fm_T own cc tc fr mr cr lr) (pc1 N ci : Nat) {idx : Nat} {C : String} {n : Int32} (h : px_lk tc pc = some (.anewarray idx, 3)) (hc : px_lk cr idx = some (.inl ci)) (hC : px_nm ci = some C) (hp : pc + 3 = pc1) (hn : 0 ≤ n.toInt) (hN : n.toNatClampNeg = N) (hb : N ≤ 100000) (ht : H.1 e = some (.inr (.object C, true), N)) (g : vq G H m d own cc KR S0 a pc1 ls (.ref e :: st) (e + 1) (sl + N) (P ++ [(e, fun _ => .null)])) : vq G H m d own cc KR S0 a pc ls (.int n :: st) e sl P := fun F hF =>
  vc_an T pc1 N ci h hc hC hp hn hN hb ht (g _ (cP_nt hF))
theorem vq_aa (T : fm_T own cc tc fr mr cr lr) (pc1 : Nat) (L1 L2 : List (Nat × (Nat → Value))) {i : Int32} {q b n cj nb j : Nat} {r : vw_C} {f : Nat → Value} (h : px_lk tc pc = some (.aastore, 1)) (hp : pc + 1 = pc1) (h1 : a ≤ q) (h3 : a ≤ b) (h4 : b < e) (ht : H.1 q = some (.inr (.object r.1, true), n)) (hb : H.1 b = some (.inl cj, nb)) (hr : pm_cl[cj]? = some r) (hi : px_inb i n = true) (hj : i.toNatClampNeg = j) (hd : ∀ x ∈ L1 ++ L2, x.1 ≠ q) (g : vq G H m d own cc KR S0 a pc1 ls st e sl (L1 ++ (q, pm_up f j (.ref b)) :: L2)) : vq G H m d own cc KR S0 a pc ls (.ref b :: .int i :: .ref q :: st) e sl (L1 ++ (q, f) :: L2) := fun F hF =>
  vc_aa T pc1 h hp h1 (hF.1 (q, f) (List.mem_append_right _ List.mem_cons_self)).1 h3 h4 ht hb hr hi hj (g _ (cP_up hF hd))
theorem vq_ge (T : fm_T own cc tc fr mr cr lr) (t pc1 : Nat) {x y : Int32} {off : Int} (h : px_lk tc pc = some (.if_icmp .ge off, 3)) (ht : px_tg pc off = some t) (hp : pc + 3 = pc1) (g1 : y ≤ x → vq G H m d own cc KR S0 a t ls st e sl P) (g2 : ¬ y ≤ x → vq G H m d own cc KR S0 a pc1 ls st e sl P) : vq G H m d own cc KR S0 a pc ls (.int y :: .int x :: st) e sl P := fun F hF => vc_ge T t pc1 h ht hp (fun z => g1 z F hF) (fun z => g2 z F hF)
theorem vq_sub (T : fm_T own cc tc fr mr cr lr) (pc1 : Nat) {idx idx2 ci ci' n N sl' rc : Nat} {thr : Bool} {y : MethodName} (h : px_lk tc pc = some (.new idx, 3)) (hc : px_lk cr idx = some (.inl ci)) (h2 : px_lk tc (pc + 3) = some (.dup, 1)) (h3 : px_lk tc (pc + 4) = some (.invokespecial idx2, 3)) (hm : px_lk mr idx2 = some (2, ci', y, 0, rc, thr)) (hp : pc + 7 = pc1) (hN : (px_cn ci).1 = N) (hs : Nat.ble (((.ref e :: st).map fun v => v.category).sum) 8 = true) (ht : H.1 e = some (.inl ci, N)) (hq : CT G H m d y ci n sl' e)
    (g : vq G H m d own cc KR S0 a pc1 ls (.ref e :: st) (e + 1 + n) (sl + N + sl') P) : vq G H m d own cc KR S0 a pc ls st e sl P := fun F hF =>
  vc_sub T pc1 h hc h2 h3 hm hp hN hs ht hq (fun F' f1 f2 => g F' ⟨fun x hx => ⟨by have := (hF.1 x hx).1; omega, by rw [f1 _ (hF.1 x hx).1]; exact (hF.1 x hx).2⟩, fun q q1 q2 hx => by
    by_cases z : q < e
    · exact gdo_c (hF.2 q q1 z hx) (f1 q z)
    · exact f2 q (by omega) q2⟩)
/-- the end: what was told is as it shall be -/
theorem vq_ret (T : fm_T own cc tc fr mr cr lr) {ne : Nat} (h : px_lk tc pc = some (.return_, 1)) (he : e = a + 1 + ne) (hg : ∀ x ∈ P, ∀ t, H.1 x.1 = some t → ∀ k, k < t.2 → x.2 k = fm_v H m t.1 x.1 k) : vq G H m d own cc (fun r S1 => r = .inl none ∧ ∃ F, cI H S0 a (a + 1 + ne) sl F S1 ∧ ∀ q, a ≤ q → q < a + 1 + ne → gdo H m F q) S0 a pc ls [] e sl P := fun F hF => by
  subst he
  refine vc_ret T h (fun S hS => ⟨rfl, F, hS, fun q q1 q2 => ?_⟩)
  by_cases z : ∃ x ∈ P, x.1 = q
  · obtain ⟨x, hx, e⟩ := z
    subst e
    intro t ht k hk
    rw [(hF.1 x hx).2]
    exact hg x hx t ht k hk
  · exact hF.2 q q1 q2 (fun x hx e => z ⟨x, hx, e⟩)
/-- a constructor out of its frame -/
theorem ct_mk {ci n y maxL} (hm : pm_mt y cc maxL none) (hy : decide (y.name = "<init>") = true) (hl : 1 ≤ maxL) (hcls : y.cls = own) (ht : H.1 a = some (.inl ci, (px_cn ci).1))
    (h : ∀ S0 : pm_S, vq G H m d own cc (fun r S1 => r = .inl none ∧ ∃ F, cI H S0 a (a + 1 + n) sl F S1 ∧ ∀ q, a ≤ q → q < a + 1 + n → gdo H m F q) S0 a 0 (pm_ent [.ref a] maxL) [] (a + 1) 0 [(a, fun k => defaultValue ((px_cn ci).2 k))]) : CT G H m (d + 1) y ci n sl a := by
  intro S0 h1 h2
  have hS : cI H S0 a (a + 1) 0 (fun _ k => defaultValue ((px_cn ci).2 k)) S0 := by
    refine ⟨Nat.le_refl _, fun q q1 q2 => ?_, fun q _ => rfl, ?_⟩
    · have : q = a := by omega
      subst this
      exact ⟨_, ht, h1⟩
    · rw [show S0.2.2.1 + (a + 1 - (a + 1)) = S0.2.2.1 by omega, ← h2]
      rfl
  subst hcls
  have hP : cP H m a [(a, fun k => defaultValue ((px_cn ci).2 k))] (fun _ k => defaultValue ((px_cn ci).2 k)) (a + 1) := by
    refine ⟨fun x hx => ?_, fun q q1 q2 hx => absurd (show a = q by omega) (hx (a, _) List.mem_cons_self)⟩
    rcases List.mem_cons.mp hx with z | z
    · subst z
      exact ⟨by show a < a + 1; omega, rfl⟩
    · cases z
  obtain ⟨k, r1, S1, hg, hr, F, f1, f2⟩ := h S0 (fun _ k => defaultValue ((px_cn ci).2 k)) hP S0 hS
  subst hr
  refine ⟨S1, F, Or.inl ⟨cc, maxL, none, hm, (show [Value.ref a].length ≤ maxL from hl), fun v hv => ?_, k, ?_⟩, f1, f2⟩
  · rcases List.mem_cons.mp hv with e | e
    · rw [e]; rfl
    · cases e
  · rw [hy]
    exact hg
end
