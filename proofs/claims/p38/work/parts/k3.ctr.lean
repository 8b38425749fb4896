/-! rows that are filled -/
theorem pm_up_up {α : Type} (f : Nat → α) (k : Nat) (v w : α) : pm_up (pm_up f k v) k w = pm_up f k w := by
  funext j
  unfold pm_up
  split <;> rfl
section
variable {G : pm_G} {H : fm_H} {m : fm_M} {cal : pm_Cal} {d : Nat} {own : String} {ini : Bool} {cc : ByteArray} {ret : Option FieldType} {KR : pm_E} {tc : px_TC} {fr : px_FR} {mr : px_MR} {cr : px_CR} {lr : px_LR}
theorem pr_fn (T : fm_T own cc tc fr mr cr lr) : ∀ (n : Nat) {pc pc1 : Nat} {ls ls1 : List (Option Value)} {st st1 : List Value} {S : pm_S}, fm_ru tc n pc ls st = some (pc1, ls1, st1) → px_W G cal own ini cc ret KR pc1 ls1 st1 S → px_W G cal own ini cc ret KR pc ls st S := by
  intro n
  induction n with
  | zero =>
    intro pc pc1 ls ls1 st st1 S h g
    cases h
    exact g
  | succ n ih =>
    intro pc pc1 ls ls1 st st1 S h g
    unfold fm_ru at h
    split at h
    · cases h
    · rename_i ins len hq
      have hd := px_dc_at T.2 hq
      split at h
      · rename_i off
        cases hb : Nat.beq len 3 with
        | false => rw [hb] at h; cases h
        | true =>
          rw [hb] at h
          simp only [cond_true] at h
          split at h
          · rename_i t ht
            exact px_step hd (fun _ _ _ _ h => h) ⟨Nat.eq_of_beq_eq_true hb, t, px_tg_eq ht, ih h g⟩
          · cases h
      · rename_i x9 hng
        cases hb : Nat.beq len (pm_len ins) with
        | false => rw [hb] at h; cases h
        | true =>
          rw [hb] at h
          simp only [cond_true] at h
          split at h
          · rename_i q9 hq9
            have hk := ih h g
            refine px_step hd (fun _ _ _ _ h => h) ?_
            unfold pm_step
            split <;> first | exact ⟨Nat.eq_of_beq_eq_true hb, q9, hq9, hk⟩ | (exact absurd rfl (hng _)) | (simp [pm_fn] at hq9)
          · cases h
/-- a row filled up to j -/
def flR (f : Nat → Value) (x : Int32) (j : Nat) : Nat → Value := fun k => if k < j then .int x else f k
theorem flR_0 {f : Nat → Value} {x : Int32} : flR f x 0 = f := funext fun k => if_neg (by omega)
theorem flR_p {f : Nat → Value} {x : Int32} {j k : Nat} (h : k < j) : flR f x j k = .int x := if_pos h
theorem flR_s {f : Nat → Value} {x : Int32} {j : Nat} : pm_up (flR f x j) j (.int x) = flR f x (j + 1) := by
  funext k
  unfold pm_up flR
  by_cases e : k = j
  · rw [if_pos e, if_pos (by omega)]
  · rw [if_neg e]
    by_cases e2 : k < j
    · rw [if_pos e2, if_pos (by omega)]
    · rw [if_neg e2, if_neg (by omega)]
theorem run_fill {q n : Nat} {f : Nat → Value} {x : Int32} {S : pm_S} (hq : S.1 q = some (.inr (.int, true), n, f)) (hn : n ≤ 10000) : pm_run G (d + 1) false yX11_fillNumbers [.ref q, .int x] S (.inl none) (pm_up S.1 q (some (.inr (.int, true), n, flR f x n)), S.2) := by
  have T : fm_T RX11 cX11_fillNumbers tc_X11_fillNumbers fr_X11 mr_X11 cr_X11 lr_X11 := ⟨tok_X11, dc_X11_fillNumbers⟩
  refine px_run mt_X11_fillNumbers (Nat.le_of_ble_eq_true rfl) rfl ?_
  show px_W G (pm_run G d) RX11 false cX11_fillNumbers none _ 0 [some (.ref q), some (.int x), none] [] S
  refine pr_fn T 2 (pc1 := 2) (ls1 := [some (.ref q), some (.int x), some (.int (nn 0))]) (st1 := []) rfl ?_
  have loop : ∀ (k j : Nat) (S1 : pm_S), j + k = n → S1 = (pm_up S.1 q (some (.inr (.int, true), n, flR f x j)), S.2) → px_W G (pm_run G d) RX11 false cX11_fillNumbers none (fun r1 S1 => r1 = .inl none ∧ S1 = (pm_up S.1 q (some (.inr (.int, true), n, flR f x n)), S.2)) 2 [some (.ref q), some (.int x), some (.int (nn j))] [] S1 := by
    intro k
    induction k with
    | zero =>
      intro j S1 h1 h2
      have ej : j = n := by omega
      have hS1 : S1.1 q = some (.inr (.int, true), n, flR f x j) := by
        rw [h2]
        exact pm_up_s _ _ _
      refine pr_fn T 2 (pc1 := 4) (ls1 := [some (.ref q), some (.int x), some (.int (nn j))]) (st1 := [.ref q, .int (nn j)]) rfl ?_
      refine px_step (px_dc_at T.2 (pc := 4) (q := (.arraylength, 1)) rfl) (fun _ _ _ _ h => h) ⟨rfl, q, n, [.int (nn j)], (.int, true), flR f x j, rfl, hS1, ?_⟩
      refine px_step (px_dc_at T.2 (pc := 5) (q := (.if_icmp .ge 13, 3)) rfl) (fun _ _ _ _ h => h) ⟨rfl, nn j, Int32.ofNat n, [], 18, rfl, rfl, fun _ => ?_, fun z => ?_⟩
      · exact px_step (px_dc_at T.2 (pc := 18) (q := (.return_, 1)) rfl) (fun _ _ _ _ h => h) ⟨rfl, rfl, rfl, rfl, by rw [h2, ej]⟩
      · rw [nn_ofNat] at z
        exact absurd ((nn_le (by omega) (by omega)).mpr (by omega)) z
    | succ k ih =>
      intro j S1 h1 h2
      have hS1 : S1.1 q = some (.inr (.int, true), n, flR f x j) := by
        rw [h2]
        exact pm_up_s _ _ _
      refine pr_fn T 2 (pc1 := 4) (ls1 := [some (.ref q), some (.int x), some (.int (nn j))]) (st1 := [.ref q, .int (nn j)]) rfl ?_
      refine px_step (px_dc_at T.2 (pc := 4) (q := (.arraylength, 1)) rfl) (fun _ _ _ _ h => h) ⟨rfl, q, n, [.int (nn j)], (.int, true), flR f x j, rfl, hS1, ?_⟩
      refine px_step (px_dc_at T.2 (pc := 5) (q := (.if_icmp .ge 13, 3)) rfl) (fun _ _ _ _ h => h) ⟨rfl, nn j, Int32.ofNat n, [], 18, rfl, rfl, fun z => ?_, fun _ => ?_⟩
      · rw [nn_ofNat, nn_le (by omega) (by omega)] at z
        omega
      · refine pr_fn T 3 (pc1 := 11) (ls1 := [some (.ref q), some (.int x), some (.int (nn j))]) (st1 := [.int x, .int (nn j), .ref q]) rfl ?_
        refine px_step (px_dc_at T.2 (pc := 11) (q := (.iastore, 1)) rfl) (fun _ _ _ _ h => h) ⟨rfl, .int x, .int x, nn j, q, n, [], .int, flR f x j, rfl, hS1, ⟨rfl, ⟨x, rfl⟩, rfl⟩, px_inb_in ((nn_in (by omega)).mpr (by omega)), ?_⟩
        rw [nn_tn (by omega), flR_s]
        refine pr_fn T 2 (pc1 := 2) (ls1 := [some (.ref q), some (.int x), some (.int (nn j + 1))]) (st1 := []) rfl ?_
        rw [nn_inc]
        refine ih (j + 1) _ (by omega) ?_
        rw [h2]
        show (pm_up (pm_up S.1 q _) q _, S.2) = _
        rw [pm_up_up]
  refine loop n 0 S (by omega) ?_
  rw [flR_0]
  refine Prod.ext (funext fun p => ?_) rfl
  show S.1 p = pm_up S.1 q _ p
  by_cases e : p = q
  · subst e
    rw [pm_up_s, hq]
  · rw [pm_up_n _ _ e]
end
section
variable {G : pm_G} {H : fm_H} {m : fm_M} {d : Nat} {own : String} {cc : ByteArray} {KR : pm_E} {tc : px_TC} {fr : px_FR} {mr : px_MR} {cr : px_CR} {lr : px_LR} {S0 S : pm_S} {a e sl : Nat} {F : Nat → Nat → Value}
variable {pc : Nat} {ls : List (Option Value)} {st : List Value} {P L1 L2 : List (Nat × (Nat → Value))}
theorem cI_set {q : Nat} {g : Nat → Value} {t : (Nat ⊕ (FieldType × Bool)) × Nat} (h : cI H S0 a e sl F S) (h1 : a ≤ q) (h2 : q < e) (ht : H.1 q = some t) : cI H S0 a e sl (nwF F q g) (pm_up S.1 q (some (t.1, t.2, g)), S.2) := by
  obtain ⟨c0, c1, c2, c3⟩ := h
  refine ⟨c0, fun p p1 p2 => ?_, fun p hp => ?_, c3⟩
  · by_cases z : p = q
    · subst z
      refine ⟨t, ht, ?_⟩
      show pm_up S.1 p _ p = _
      rw [pm_up_s, nwF_s]
    · obtain ⟨t', g1, g2⟩ := c1 p p1 p2
      refine ⟨t', g1, ?_⟩
      show pm_up S.1 q _ p = _
      rw [pm_up_n _ _ z, nwF_o z]
      exact g2
  · show pm_up S.1 q _ p = _
    rw [pm_up_n _ _ (by omega)]
    exact c2 p hp
theorem cP_set {q : Nat} {g g' : Nat → Value} (h : cP H m a (L1 ++ (q, g) :: L2) F e) (hd : ∀ x ∈ L1 ++ L2, x.1 ≠ q) : cP H m a (L1 ++ (q, g') :: L2) (nwF F q g') e := by
  obtain ⟨h1, h2⟩ := h
  have hq := h1 (q, g) (List.mem_append_right _ List.mem_cons_self)
  have ot : ∀ x ∈ L1 ++ L2, x.1 < e ∧ nwF F q g' x.1 = x.2 := fun x hx => by
    have hx' : x ∈ L1 ++ (q, g) :: L2 := by
      rcases List.mem_append.mp hx with z | z
      · exact List.mem_append_left _ z
      · exact List.mem_append_right _ (List.mem_cons_of_mem _ z)
    obtain ⟨b1, b2⟩ := h1 x hx'
    exact ⟨b1, by rw [nwF_o (hd x hx)]; exact b2⟩
  refine ⟨fun x hx => ?_, fun p p1 p2 hp => ?_⟩
  · rcases List.mem_append.mp hx with z | z
    · exact ot x (List.mem_append_left _ z)
    · rcases List.mem_cons.mp z with z | z
      · subst z
        exact ⟨hq.1, nwF_s⟩
      · exact ot x (List.mem_append_right _ z)
  · have np : p ≠ q := fun z => hp (q, g') (List.mem_append_right _ List.mem_cons_self) z.symm
    refine gdo_c (h2 p p1 p2 (fun x hx => ?_)) (nwF_o np)
    rcases List.mem_append.mp hx with z | z
    · exact hp x (List.mem_append_left _ z)
    · rcases List.mem_cons.mp z with z | z
      · subst z
        exact fun y => np y.symm
      · exact hp x (List.mem_append_right _ (List.mem_cons_of_mem _ z))
theorem vq_fill (T : fm_T own cc tc fr mr cr lr) (pc1 : Nat) (L1 L2 : List (Nat × (Nat → Value))) {idx q n : Nat} {x : Int32} {f : Nat → Value} (h : px_lk tc pc = some (.invokestatic idx, 3)) (hm : px_lk mr idx = some (1, 11, yX11_fillNumbers, 2, 0, false)) (hs : Nat.ble ((st.map fun v => v.category).sum) 8 = true) (hp : pc + 3 = pc1) (h1 : a ≤ q) (ht : H.1 q = some (.inr (.int, true), n)) (hn : n ≤ 10000) (hd : ∀ x ∈ L1 ++ L2, x.1 ≠ q) (g : vq G H m (d + 1) own cc KR S0 a pc1 ls st e sl (L1 ++ (q, flR f x n) :: L2)) : vq G H m (d + 1) own cc KR S0 a pc ls (.int x :: .ref q :: st) e sl (L1 ++ (q, f) :: L2) := fun F hF => by
  subst hp
  obtain ⟨c1, c2⟩ := hF.1 (q, f) (List.mem_append_right _ List.mem_cons_self)
  refine vc_step (px_dc_at T.2 h) (fun S hS => ?_)
  have hq : S.1 q = some (.inr (.int, true), n, f) := by
    have := cI_at hS h1 c1 ht
    rw [show F q = f from c2] at this
    exact this
  exact ⟨rfl, Or.inr ⟨false, yX11_fillNumbers, [.ref q, .int x], st, .inl none, _, (T.1.2.1 _ (px_lk_in hm)).2.1 rfl, fun z => Bool.noConfusion z, rfl, Nat.le_of_ble_eq_true hs, run_fill hq hn, g _ (cP_set hF hd) _ (cI_set (t := (.inr (.int, true), n)) hS h1 c1 ht)⟩⟩
theorem vq_n {e' sl' : Nat} (he : e = e') (hs : sl = sl') (g : vq G H m d own cc KR S0 a pc ls st e' sl' P) : vq G H m d own cc KR S0 a pc ls st e sl P := by
  subst he hs
  exact g
theorem nmE0 {q : Nat} : ∀ x ∈ ([] : List (Nat × (Nat → Value))), x.1 ≠ q := fun x hx => absurd hx List.not_mem_nil
theorem nmEc {q p : Nat} {g : Nat → Value} {L : List (Nat × (Nat → Value))} (h : p ≠ q) (t : ∀ x ∈ L, x.1 ≠ q) : ∀ x ∈ (p, g) :: L, x.1 ≠ q := List.forall_mem_cons.mpr ⟨h, t⟩
/-- references one after another -/
def rfR (b s j : Nat) : Nat → Value := fun i => if i < j then .ref (b + s * i) else .null
theorem rfR_0 {b s : Nat} : rfR b s 0 = fun _ => .null := funext fun i => if_neg (by omega)
theorem rfR_p {b s j k : Nat} (h : k < j) : rfR b s j k = .ref (b + s * k) := if_pos h
theorem rfR_s {b s j : Nat} : pm_up (rfR b s j) j (.ref (b + s * j)) = rfR b s (j + 1) := by
  funext i
  unfold pm_up rfR
  by_cases e : i = j
  · rw [if_pos e, if_pos (by omega), e]
  · rw [if_neg e]
    by_cases e2 : i < j
    · rw [if_pos e2, if_pos (by omega)]
    · rw [if_neg e2, if_neg (by omega)]
end
theorem fv_i {H : fm_H} {m : fm_M} {ty : FieldType} {e k : Nat} {x : Int32} (hk : ∀ k, fm_kd (.inr (ty, true)) k = 0) (h : m.1 e k = x) : fm_v H m (.inr (ty, true)) e k = .int x := by
  rw [fm_v0 (hk k), h]
theorem fv_r {H : fm_H} {m : fm_M} {C : String} {e k y : Nat} (h : m.2.1 e k = y) : fm_v H m (.inr (.object C, true)) e k = .ref y := by
  rw [fm_v1 (show fm_kd (.inr (.object C, true)) k = 1 from rfl), h]
/-! what shall be: shapes and first contents -/
def hWy (H : fm_H) (m : fm_M) (a : Nat) : Prop := H.1 a = some (.inl 10, 4) ∧ (H.2.1 a 1 = a + 1 ∧ H.2.1 a 2 = a + 2 ∧ H.2.1 a 3 = a + 3) ∧ (H.1 (a + 1) = some (.inr (.int, true), 6) ∧ H.1 (a + 2) = some (.inr (.int, true), 6) ∧ H.1 (a + 3) = some (.inr (.int, true), 6)) ∧ m.1 a 0 = 0 ∧ (∀ k, k < 6 → m.1 (a + 1) k = 0) ∧ (∀ k, k < 6 → m.1 (a + 2) k = 0) ∧ ∀ k, k < 6 → m.1 (a + 3) k = 0
def hOb (H : fm_H) (m : fm_M) (ci n a : Nat) : Prop := H.1 a = some (.inl ci, n) ∧ ∀ k, k < n → m.1 a k = 0
def hCi (H : fm_H) (m : fm_M) (a : Nat) : Prop := H.1 a = some (.inl 0, 15) ∧ (∀ k, k < 13 → m.1 a k = 0) ∧ (m.2.1 a 13 = a + 1 ∧ m.2.1 a 14 = a + 5) ∧ hWy H m (a + 1) ∧ hWy H m (a + 5)
def hTk (H : fm_H) (m : fm_M) (a : Nat) : Prop := H.1 a = some (.inl 8, 6) ∧ H.2.1 a 0 = a + 1 ∧ (∀ k, 1 ≤ k → k < 6 → m.1 a k = 0) ∧ H.1 (a + 1) = some (.inr (.byte, true), 800) ∧ ∀ k, k < 800 → m.1 (a + 1) k = 0
def hRd (H : fm_H) (m : fm_M) (a : Nat) : Prop := H.1 a = some (.inl 6, 3) ∧ H.2.1 a 0 = a + 1 ∧ (m.1 a 1 = 0 ∧ m.1 a 2 = -1) ∧ hTk H m (a + 1)
def hFi (H : fm_H) (m : fm_M) (a : Nat) : Prop := H.1 a = some (.inl 1, 6) ∧ (H.2.1 a 0 = a + 1 ∧ H.2.1 a 1 = a + 5 ∧ H.2.1 a 2 = a + 9 ∧ H.2.1 a 3 = a + 10) ∧ (m.1 a 4 = 0 ∧ m.1 a 5 = -1) ∧ hWy H m (a + 1) ∧ hWy H m (a + 5) ∧ (H.1 (a + 9) = some (.inr (.boolean, true), 16) ∧ ∀ k, k < 16 → m.1 (a + 9) k = 0) ∧ H.1 (a + 10) = some (.inr (.int, true), 16) ∧ ∀ k, k < 16 → m.1 (a + 10) k = 0
def hIa (H : fm_H) (m : fm_M) (n : Nat) (x : Int32) (a : Nat) : Prop := H.1 a = some (.inr (.int, true), n) ∧ ∀ k, k < n → m.1 a k = x
def hLa (H : fm_H) (m : fm_M) (a : Nat) : Prop := H.1 a = some (.inl 2, 4) ∧ (H.2.1 a 0 = a + 1 ∧ H.2.1 a 1 = a + 2 ∧ H.2.1 a 2 = a + 3 ∧ H.2.1 a 3 = a + 4) ∧ hIa H m 10 0 (a + 1) ∧ hIa H m 120 (-1) (a + 2) ∧ hIa H m 120 0 (a + 3) ∧ hIa H m 120 0 (a + 4)
def hNt (H : fm_H) (m : fm_M) (a : Nat) : Prop := H.1 a = some (.inl 4, 4) ∧ (m.1 a 0 = 0 ∧ m.1 a 1 = 0) ∧ (H.2.1 a 2 = a + 1 ∧ H.2.1 a 3 = a + 2) ∧ (H.1 (a + 1) = some (.inr (.object RX3, true), 16) ∧ ∀ i, i < 16 → m.2.1 (a + 1) i = a + 3 + 1 * i) ∧ hIa H m 100 (-1) (a + 2) ∧ ∀ i, i < 16 → hOb H m 3 5 (a + 3 + i)
def hSt (H : fm_H) (m : fm_M) (a : Nat) : Prop := H.1 a = some (.inl 7, 10) ∧ (H.2.1 a 0 = a + 1 ∧ H.2.1 a 1 = a + 20 ∧ H.2.1 a 2 = a + 25 ∧ H.2.1 a 3 = a + 26 ∧ H.2.1 a 4 = a + 27) ∧ (m.1 a 5 = 0 ∧ m.1 a 6 = 0 ∧ m.1 a 7 = 1 ∧ m.1 a 8 = 0 ∧ m.1 a 9 = 0) ∧ hNt H m (a + 1) ∧ hLa H m (a + 20) ∧ hOb H m 9 7 (a + 25) ∧ (H.1 (a + 26) = some (.inr (.object RX0, true), 8) ∧ ∀ i, i < 8 → m.2.1 (a + 26) i = a + 28 + 9 * i) ∧ (H.1 (a + 27) = some (.inr (.object RX5, true), 60) ∧ ∀ i, i < 60 → m.2.1 (a + 27) i = a + 100 + 1 * i) ∧ (∀ i, i < 8 → hCi H m (a + 28 + 9 * i)) ∧ ∀ i, i < 60 → hOb H m 5 7 (a + 100 + i)
def hDk (H : fm_H) (m : fm_M) (a : Nat) : Prop := H.1 a = some (.inl 11, 9) ∧ (H.2.1 a 0 = a + 1 ∧ H.2.1 a 1 = a + 4 ∧ H.2.1 a 2 = a + 15 ∧ H.2.1 a 3 = a + 19 ∧ H.2.1 a 4 = a + 20) ∧ (m.2.1 a 5 = a + 21 ∧ m.2.1 a 6 = a + 181) ∧ (m.1 a 7 = 0 ∧ m.1 a 8 = -1) ∧ hRd H m (a + 1) ∧ hFi H m (a + 4) ∧ hWy H m (a + 15) ∧ (H.1 (a + 19) = some (.inr (.object RX7, true), 2) ∧ ∀ i, i < 2 → m.2.1 (a + 19) i = a + 341 + 160 * i) ∧ (H.1 (a + 20) = some (.inr (.boolean, true), 2) ∧ ∀ k, k < 2 → m.1 (a + 20) k = 0) ∧ (hSt H m (a + 21) ∧ hSt H m (a + 181)) ∧ ∀ i, i < 2 → hSt H m (a + 341 + 160 * i)
theorem ct_lnk {G : pm_G} {H : fm_H} {m : fm_M} {d a : Nat} (h : hOb H m 3 5 a) : CT G H m (d + 1) yX3_init 3 0 0 a := by
  obtain ⟨h0, hz⟩ := h
  refine ct_mk (own := RX3) (cc := cX3_init) (maxL := 1) mt_X3_init rfl (by omega) rfl h0 (fun S0 => ?_)
  have T : fm_T RX3 cX3_init tc_X3_init fr_X3 mr_X3 cr_X3 lr_X3 := ⟨tok_X3, dc_X3_init⟩
  show vq G H m d RX3 cX3_init _ S0 a 0 [some (.ref a)] [] (a + 1) 0 [(a, fun k => defaultValue ((px_cn 3).2 k))]
  refine vq_r T 1 1 [some (.ref a)] [.ref a] rfl ?_
  refine vq_oi T 4 rfl rfl rfl rfl ?_
  refine vq_ret T (ne := 0) rfl (by omega) (List.forall_mem_cons.mpr ⟨fun t ht k hk => ?_, fun x hx => absurd hx List.not_mem_nil⟩)
  · change H.1 a = some t at ht
    rw [h0] at ht
    cases ht
    change k < 5 at hk
    rcases (show k = 0 ∨ k = 1 ∨ k = 2 ∨ k = 3 ∨ k = 4 by omega) with h | h | h | h | h <;> subst h
    · show Value.int (0 : Int32) = _
      rw [fm_v0 (show fm_kd (.inl 3) 0 = 0 from rfl), hz 0 (by omega)]
    · show Value.int (0 : Int32) = _
      rw [fm_v0 (show fm_kd (.inl 3) 1 = 0 from rfl), hz 1 (by omega)]
    · show Value.int (0 : Int32) = _
      rw [fm_v0 (show fm_kd (.inl 3) 2 = 0 from rfl), hz 2 (by omega)]
    · show Value.int (0 : Int32) = _
      rw [fm_v0 (show fm_kd (.inl 3) 3 = 0 from rfl), hz 3 (by omega)]
    · show Value.int (0 : Int32) = _
      rw [fm_v0 (show fm_kd (.inl 3) 4 = 0 from rfl), hz 4 (by omega)]
theorem ct_pkt {G : pm_G} {H : fm_H} {m : fm_M} {d a : Nat} (h : hOb H m 5 7 a) : CT G H m (d + 1) yX5_init 5 0 0 a := by
  obtain ⟨h0, hz⟩ := h
  refine ct_mk (own := RX5) (cc := cX5_init) (maxL := 1) mt_X5_init rfl (by omega) rfl h0 (fun S0 => ?_)
  have T : fm_T RX5 cX5_init tc_X5_init fr_X5 mr_X5 cr_X5 lr_X5 := ⟨tok_X5, dc_X5_init⟩
  show vq G H m d RX5 cX5_init _ S0 a 0 [some (.ref a)] [] (a + 1) 0 [(a, fun k => defaultValue ((px_cn 5).2 k))]
  refine vq_r T 1 1 [some (.ref a)] [.ref a] rfl ?_
  refine vq_oi T 4 rfl rfl rfl rfl ?_
  refine vq_ret T (ne := 0) rfl (by omega) (List.forall_mem_cons.mpr ⟨fun t ht k hk => ?_, fun x hx => absurd hx List.not_mem_nil⟩)
  · change H.1 a = some t at ht
    rw [h0] at ht
    cases ht
    change k < 7 at hk
    rcases (show k = 0 ∨ k = 1 ∨ k = 2 ∨ k = 3 ∨ k = 4 ∨ k = 5 ∨ k = 6 by omega) with h | h | h | h | h | h | h <;> subst h
    · show Value.int (0 : Int32) = _
      rw [fm_v0 (show fm_kd (.inl 5) 0 = 0 from rfl), hz 0 (by omega)]
    · show Value.int (0 : Int32) = _
      rw [fm_v0 (show fm_kd (.inl 5) 1 = 0 from rfl), hz 1 (by omega)]
    · show Value.int (0 : Int32) = _
      rw [fm_v0 (show fm_kd (.inl 5) 2 = 0 from rfl), hz 2 (by omega)]
    · show Value.int (0 : Int32) = _
      rw [fm_v0 (show fm_kd (.inl 5) 3 = 0 from rfl), hz 3 (by omega)]
    · show Value.int (0 : Int32) = _
      rw [fm_v0 (show fm_kd (.inl 5) 4 = 0 from rfl), hz 4 (by omega)]
    · show Value.int (0 : Int32) = _
      rw [fm_v0 (show fm_kd (.inl 5) 5 = 0 from rfl), hz 5 (by omega)]
    · show Value.int (0 : Int32) = _
      rw [fm_v0 (show fm_kd (.inl 5) 6 = 0 from rfl), hz 6 (by omega)]
theorem ct_tot {G : pm_G} {H : fm_H} {m : fm_M} {d a : Nat} (h : hOb H m 9 7 a) : CT G H m (d + 1) yX9_init 9 0 0 a := by
  obtain ⟨h0, hz⟩ := h
  refine ct_mk (own := RX9) (cc := cX9_init) (maxL := 1) mt_X9_init rfl (by omega) rfl h0 (fun S0 => ?_)
  have T : fm_T RX9 cX9_init tc_X9_init fr_X9 mr_X9 cr_X9 lr_X9 := ⟨tok_X9, dc_X9_init⟩
  show vq G H m d RX9 cX9_init _ S0 a 0 [some (.ref a)] [] (a + 1) 0 [(a, fun k => defaultValue ((px_cn 9).2 k))]
  refine vq_r T 1 1 [some (.ref a)] [.ref a] rfl ?_
  refine vq_oi T 4 rfl rfl rfl rfl ?_
  refine vq_ret T (ne := 0) rfl (by omega) (List.forall_mem_cons.mpr ⟨fun t ht k hk => ?_, fun x hx => absurd hx List.not_mem_nil⟩)
  · change H.1 a = some t at ht
    rw [h0] at ht
    cases ht
    change k < 7 at hk
    rcases (show k = 0 ∨ k = 1 ∨ k = 2 ∨ k = 3 ∨ k = 4 ∨ k = 5 ∨ k = 6 by omega) with h | h | h | h | h | h | h <;> subst h
    · show Value.int (0 : Int32) = _
      rw [fm_v0 (show fm_kd (.inl 9) 0 = 0 from rfl), hz 0 (by omega)]
    · show Value.int (0 : Int32) = _
      rw [fm_v0 (show fm_kd (.inl 9) 1 = 0 from rfl), hz 1 (by omega)]
    · show Value.int (0 : Int32) = _
      rw [fm_v0 (show fm_kd (.inl 9) 2 = 0 from rfl), hz 2 (by omega)]
    · show Value.int (0 : Int32) = _
      rw [fm_v0 (show fm_kd (.inl 9) 3 = 0 from rfl), hz 3 (by omega)]
    · show Value.int (0 : Int32) = _
      rw [fm_v0 (show fm_kd (.inl 9) 4 = 0 from rfl), hz 4 (by omega)]
    · show Value.int (0 : Int32) = _
      rw [fm_v0 (show fm_kd (.inl 9) 5 = 0 from rfl), hz 5 (by omega)]
    · show Value.int (0 : Int32) = _
      rw [fm_v0 (show fm_kd (.inl 9) 6 = 0 from rfl), hz 6 (by omega)]
theorem ct_way {G : pm_G} {H : fm_H} {m : fm_M} {d a : Nat} (h : hWy H m a) : CT G H m (d + 1) yX10_init 10 3 18 a := by
  obtain ⟨h0, ⟨r1, r2, r3⟩, ⟨s1, s2, s3⟩, z0, z1, z2, z3⟩ := h
  refine ct_mk (own := RX10) (cc := cX10_init) (maxL := 1) mt_X10_init rfl (by omega) rfl h0 (fun S0 => ?_)
  have T : fm_T RX10 cX10_init tc_X10_init fr_X10 mr_X10 cr_X10 lr_X10 := ⟨tok_X10, dc_X10_init⟩
  show vq G H m d RX10 cX10_init _ S0 a 0 [some (.ref a)] [] (a + 1) 0 [(a, fun k => defaultValue ((px_cn 10).2 k))]
  refine vq_r T 1 1 [some (.ref a)] [.ref a] rfl ?_
  refine vq_oi T 4 rfl rfl rfl rfl ?_
  refine vq_r T 2 7 [some (.ref a)] [.int 6, .ref a] rfl ?_
  refine vq_na T 9 6 rfl rfl rfl (by decide) (by decide) (by omega) (s1) (fun k hk => (fv_i (fun _ => rfl) (z1 k hk)).symm) ?_
  refine vq_n (e' := a + 2) (sl' := 6) (by omega) (by omega) ?_
  refine vq_pf T 12 [] _ rfl rfl (Or.inr rfl) rfl (Nat.le_refl _) h0 rfl rfl nmE0 ?_
  refine vq_r T 2 15 [some (.ref a)] [.int 6, .ref a] rfl ?_
  refine vq_na T 17 6 rfl rfl rfl (by decide) (by decide) (by omega) (s2) (fun k hk => (fv_i (fun _ => rfl) (z2 k hk)).symm) ?_
  refine vq_n (e' := a + 3) (sl' := 12) (by omega) (by omega) ?_
  refine vq_pf T 20 [] _ rfl rfl (Or.inr rfl) rfl (Nat.le_refl _) h0 rfl rfl nmE0 ?_
  refine vq_r T 2 23 [some (.ref a)] [.int 6, .ref a] rfl ?_
  refine vq_na T 25 6 rfl rfl rfl (by decide) (by decide) (by omega) (s3) (fun k hk => (fv_i (fun _ => rfl) (z3 k hk)).symm) ?_
  refine vq_n (e' := a + 4) (sl' := 18) (by omega) (by omega) ?_
  refine vq_pf T 28 [] _ rfl rfl (Or.inr rfl) rfl (Nat.le_refl _) h0 rfl rfl nmE0 ?_
  refine vq_ret T (ne := 3) rfl (by omega) (List.forall_mem_cons.mpr ⟨fun t ht k hk => ?_, fun x hx => absurd hx List.not_mem_nil⟩)
  · change H.1 a = some t at ht
    rw [h0] at ht
    cases ht
    change k < 4 at hk
    rcases (show k = 0 ∨ k = 1 ∨ k = 2 ∨ k = 3 by omega) with h | h | h | h <;> subst h
    · show Value.int (0 : Int32) = _
      rw [fm_v0 (show fm_kd (.inl 10) 0 = 0 from rfl), z0]
    · show Value.ref (a + 1) = _
      rw [fm_v2 (show fm_kd (.inl 10) 1 = 2 from rfl), r1]
    · show Value.ref (a + 2) = _
      rw [fm_v2 (show fm_kd (.inl 10) 2 = 2 from rfl), r2]
    · show Value.ref (a + 3) = _
      rw [fm_v2 (show fm_kd (.inl 10) 3 = 2 from rfl), r3]
theorem ct_cir {G : pm_G} {H : fm_H} {m : fm_M} {d a : Nat} (h : hCi H m a) : CT G H m (d + 2) yX0_init 0 8 44 a := by
  obtain ⟨h0, hz, ⟨p1, p2⟩, w1, w2⟩ := h
  refine ct_mk (own := RX0) (cc := cX0_init) (maxL := 1) mt_X0_init rfl (by omega) rfl h0 (fun S0 => ?_)
  have T : fm_T RX0 cX0_init tc_X0_init fr_X0 mr_X0 cr_X0 lr_X0 := ⟨tok_X0, dc_X0_init⟩
  show vq G H m (d + 1) RX0 cX0_init _ S0 a 0 [some (.ref a)] [] (a + 1) 0 [(a, fun k => defaultValue ((px_cn 0).2 k))]
  refine vq_r T 1 1 [some (.ref a)] [.ref a] rfl ?_
  refine vq_oi T 4 rfl rfl rfl rfl ?_
  refine vq_r T 1 5 [some (.ref a)] [.ref a] rfl ?_
  refine vq_sub (N := 4) T 12 rfl rfl rfl rfl rfl rfl rfl rfl (w1.1) (ct_way w1) ?_
  refine vq_n (e' := a + 5) (sl' := 22) (by omega) (by omega) ?_
  refine vq_pf T 15 [] _ rfl rfl (Or.inl rfl) rfl (Nat.le_refl _) h0 rfl rfl nmE0 ?_
  refine vq_r T 1 16 [some (.ref a)] [.ref a] rfl ?_
  refine vq_sub (N := 4) T 23 rfl rfl rfl rfl rfl rfl rfl rfl (w2.1) (ct_way w2) ?_
  refine vq_n (e' := a + 9) (sl' := 44) (by omega) (by omega) ?_
  refine vq_pf T 26 [] _ rfl rfl (Or.inl rfl) rfl (Nat.le_refl _) h0 rfl rfl nmE0 ?_
  refine vq_ret T (ne := 8) rfl (by omega) (List.forall_mem_cons.mpr ⟨fun t ht k hk => ?_, fun x hx => absurd hx List.not_mem_nil⟩)
  · change H.1 a = some t at ht
    rw [h0] at ht
    cases ht
    change k < 15 at hk
    rcases (show k = 0 ∨ k = 1 ∨ k = 2 ∨ k = 3 ∨ k = 4 ∨ k = 5 ∨ k = 6 ∨ k = 7 ∨ k = 8 ∨ k = 9 ∨ k = 10 ∨ k = 11 ∨ k = 12 ∨ k = 13 ∨ k = 14 by omega) with h | h | h | h | h | h | h | h | h | h | h | h | h | h | h <;> subst h
    · show Value.int (0 : Int32) = _
      rw [fm_v0 (show fm_kd (.inl 0) 0 = 0 from rfl), hz 0 (by omega)]
    · show Value.int (0 : Int32) = _
      rw [fm_v0 (show fm_kd (.inl 0) 1 = 0 from rfl), hz 1 (by omega)]
    · show Value.int (0 : Int32) = _
      rw [fm_v0 (show fm_kd (.inl 0) 2 = 0 from rfl), hz 2 (by omega)]
    · show Value.int (0 : Int32) = _
      rw [fm_v0 (show fm_kd (.inl 0) 3 = 0 from rfl), hz 3 (by omega)]
    · show Value.int (0 : Int32) = _
      rw [fm_v0 (show fm_kd (.inl 0) 4 = 0 from rfl), hz 4 (by omega)]
    · show Value.int (0 : Int32) = _
      rw [fm_v0 (show fm_kd (.inl 0) 5 = 0 from rfl), hz 5 (by omega)]
    · show Value.int (0 : Int32) = _
      rw [fm_v0 (show fm_kd (.inl 0) 6 = 0 from rfl), hz 6 (by omega)]
    · show Value.int (0 : Int32) = _
      rw [fm_v0 (show fm_kd (.inl 0) 7 = 0 from rfl), hz 7 (by omega)]
    · show Value.int (0 : Int32) = _
      rw [fm_v0 (show fm_kd (.inl 0) 8 = 0 from rfl), hz 8 (by omega)]
    · show Value.int (0 : Int32) = _
      rw [fm_v0 (show fm_kd (.inl 0) 9 = 0 from rfl), hz 9 (by omega)]
    · show Value.int (0 : Int32) = _
      rw [fm_v0 (show fm_kd (.inl 0) 10 = 0 from rfl), hz 10 (by omega)]
    · show Value.int (0 : Int32) = _
      rw [fm_v0 (show fm_kd (.inl 0) 11 = 0 from rfl), hz 11 (by omega)]
    · show Value.int (0 : Int32) = _
      rw [fm_v0 (show fm_kd (.inl 0) 12 = 0 from rfl), hz 12 (by omega)]
    · show Value.ref (a + 1) = _
      rw [fm_v1 (show fm_kd (.inl 0) 13 = 1 from rfl), p1]
    · show Value.ref (a + 5) = _
      rw [fm_v1 (show fm_kd (.inl 0) 14 = 1 from rfl), p2]
theorem ct_tok {G : pm_G} {H : fm_H} {m : fm_M} {d a : Nat} (h : hTk H m a) : CT G H m (d + 1) yX8_init 8 1 800 a := by
  obtain ⟨h0, r0, hz, s1, z1⟩ := h
  refine ct_mk (own := RX8) (cc := cX8_init) (maxL := 1) mt_X8_init rfl (by omega) rfl h0 (fun S0 => ?_)
  have T : fm_T RX8 cX8_init tc_X8_init fr_X8 mr_X8 cr_X8 lr_X8 := ⟨tok_X8, dc_X8_init⟩
  show vq G H m d RX8 cX8_init _ S0 a 0 [some (.ref a)] [] (a + 1) 0 [(a, fun k => defaultValue ((px_cn 8).2 k))]
  refine vq_r T 1 1 [some (.ref a)] [.ref a] rfl ?_
  refine vq_oi T 4 rfl rfl rfl rfl ?_
  refine vq_r T 2 8 [some (.ref a)] [.int 800, .ref a] rfl ?_
  refine vq_na T 10 800 rfl rfl rfl (by decide) (by decide) (by omega) (s1) (fun k hk => (fv_i (fun _ => rfl) (z1 k hk)).symm) ?_
  refine vq_n (e' := a + 2) (sl' := 800) (by omega) (by omega) ?_
  refine vq_pf T 13 [] _ rfl rfl (Or.inr rfl) rfl (Nat.le_refl _) h0 rfl rfl nmE0 ?_
  refine vq_r T 2 15 [some (.ref a)] [.int (0 : Int32), .ref a] rfl ?_
  refine vq_pf T 18 [] _ rfl rfl (Or.inl rfl) rfl (Nat.le_refl _) h0 rfl rfl nmE0 ?_
  refine vq_r T 2 20 [some (.ref a)] [.int (0 : Int32), .ref a] rfl ?_
  refine vq_pf T 23 [] _ rfl rfl (Or.inl rfl) rfl (Nat.le_refl _) h0 rfl rfl nmE0 ?_
  refine vq_r T 2 25 [some (.ref a)] [.int (0 : Int32), .ref a] rfl ?_
  refine vq_pf T 28 [] _ rfl rfl (Or.inl rfl) rfl (Nat.le_refl _) h0 rfl rfl nmE0 ?_
  refine vq_r T 2 30 [some (.ref a)] [.int (0 : Int32), .ref a] rfl ?_
  refine vq_pf T 33 [] _ rfl rfl (Or.inl rfl) rfl (Nat.le_refl _) h0 rfl rfl nmE0 ?_
  refine vq_r T 2 35 [some (.ref a)] [.int (0 : Int32), .ref a] rfl ?_
  refine vq_pf T 38 [] _ rfl rfl (Or.inl rfl) rfl (Nat.le_refl _) h0 rfl rfl nmE0 ?_
  refine vq_ret T (ne := 1) rfl (by omega) (List.forall_mem_cons.mpr ⟨fun t ht k hk => ?_, fun x hx => absurd hx List.not_mem_nil⟩)
  · change H.1 a = some t at ht
    rw [h0] at ht
    cases ht
    change k < 6 at hk
    rcases (show k = 0 ∨ k = 1 ∨ k = 2 ∨ k = 3 ∨ k = 4 ∨ k = 5 by omega) with h | h | h | h | h | h <;> subst h
    · show Value.ref (a + 1) = _
      rw [fm_v2 (show fm_kd (.inl 8) 0 = 2 from rfl), r0]
    · show Value.int (0 : Int32) = _
      rw [fm_v0 (show fm_kd (.inl 8) 1 = 0 from rfl), hz 1 (by omega) (by omega)]
    · show Value.int (0 : Int32) = _
      rw [fm_v0 (show fm_kd (.inl 8) 2 = 0 from rfl), hz 2 (by omega) (by omega)]
    · show Value.int (0 : Int32) = _
      rw [fm_v0 (show fm_kd (.inl 8) 3 = 0 from rfl), hz 3 (by omega) (by omega)]
    · show Value.int (0 : Int32) = _
      rw [fm_v0 (show fm_kd (.inl 8) 4 = 0 from rfl), hz 4 (by omega) (by omega)]
    · show Value.int (0 : Int32) = _
      rw [fm_v0 (show fm_kd (.inl 8) 5 = 0 from rfl), hz 5 (by omega) (by omega)]
theorem ct_rdr {G : pm_G} {H : fm_H} {m : fm_M} {d a : Nat} (h : hRd H m a) : CT G H m (d + 2) yX6_init 6 2 806 a := by
  obtain ⟨h0, r0, ⟨z1, z2⟩, w⟩ := h
  refine ct_mk (own := RX6) (cc := cX6_init) (maxL := 1) mt_X6_init rfl (by omega) rfl h0 (fun S0 => ?_)
  have T : fm_T RX6 cX6_init tc_X6_init fr_X6 mr_X6 cr_X6 lr_X6 := ⟨tok_X6, dc_X6_init⟩
  show vq G H m (d + 1) RX6 cX6_init _ S0 a 0 [some (.ref a)] [] (a + 1) 0 [(a, fun k => defaultValue ((px_cn 6).2 k))]
  refine vq_r T 1 1 [some (.ref a)] [.ref a] rfl ?_
  refine vq_oi T 4 rfl rfl rfl rfl ?_
  refine vq_r T 1 5 [some (.ref a)] [.ref a] rfl ?_
  refine vq_sub (N := 6) T 12 rfl rfl rfl rfl rfl rfl rfl rfl (w.1) (ct_tok w) ?_
  refine vq_n (e' := a + 3) (sl' := 806) (by omega) (by omega) ?_
  refine vq_pf T 15 [] _ rfl rfl (Or.inr rfl) rfl (Nat.le_refl _) h0 rfl rfl nmE0 ?_
  refine vq_r T 2 17 [some (.ref a)] [.int (0 : Int32), .ref a] rfl ?_
  refine vq_pf T 20 [] _ rfl rfl (Or.inl rfl) rfl (Nat.le_refl _) h0 rfl rfl nmE0 ?_
  refine vq_r T 2 22 [some (.ref a)] [.int (-1 : Int32), .ref a] rfl ?_
  refine vq_pf T 25 [] _ rfl rfl (Or.inl rfl) rfl (Nat.le_refl _) h0 rfl rfl nmE0 ?_
  refine vq_ret T (ne := 2) rfl (by omega) (List.forall_mem_cons.mpr ⟨fun t ht k hk => ?_, fun x hx => absurd hx List.not_mem_nil⟩)
  · change H.1 a = some t at ht
    rw [h0] at ht
    cases ht
    change k < 3 at hk
    rcases (show k = 0 ∨ k = 1 ∨ k = 2 by omega) with h | h | h <;> subst h
    · show Value.ref (a + 1) = _
      rw [fm_v2 (show fm_kd (.inl 6) 0 = 2 from rfl), r0]
    · show Value.int (0 : Int32) = _
      rw [fm_v0 (show fm_kd (.inl 6) 1 = 0 from rfl), z1]
    · show Value.int (-1 : Int32) = _
      rw [fm_v0 (show fm_kd (.inl 6) 2 = 0 from rfl), z2]
theorem ct_fnd {G : pm_G} {H : fm_H} {m : fm_M} {d a : Nat} (h : hFi H m a) : CT G H m (d + 2) yX1_init 1 10 76 a := by
  obtain ⟨h0, ⟨r0, r1, r2, r3⟩, ⟨z4, z5⟩, w1, w2, ⟨s1, y1⟩, s2, y2⟩ := h
  refine ct_mk (own := RX1) (cc := cX1_init) (maxL := 1) mt_X1_init rfl (by omega) rfl h0 (fun S0 => ?_)
  have T : fm_T RX1 cX1_init tc_X1_init fr_X1 mr_X1 cr_X1 lr_X1 := ⟨tok_X1, dc_X1_init⟩
  show vq G H m (d + 1) RX1 cX1_init _ S0 a 0 [some (.ref a)] [] (a + 1) 0 [(a, fun k => defaultValue ((px_cn 1).2 k))]
  refine vq_r T 1 1 [some (.ref a)] [.ref a] rfl ?_
  refine vq_oi T 4 rfl rfl rfl rfl ?_
  refine vq_r T 1 5 [some (.ref a)] [.ref a] rfl ?_
  refine vq_sub (N := 4) T 12 rfl rfl rfl rfl rfl rfl rfl rfl (w1.1) (ct_way w1) ?_
  refine vq_n (e' := a + 5) (sl' := 22) (by omega) (by omega) ?_
  refine vq_pf T 15 [] _ rfl rfl (Or.inr rfl) rfl (Nat.le_refl _) h0 rfl rfl nmE0 ?_
  refine vq_r T 1 16 [some (.ref a)] [.ref a] rfl ?_
  refine vq_sub (N := 4) T 23 rfl rfl rfl rfl rfl rfl rfl rfl (w2.1) (ct_way w2) ?_
  refine vq_n (e' := a + 9) (sl' := 44) (by omega) (by omega) ?_
  refine vq_pf T 26 [] _ rfl rfl (Or.inr rfl) rfl (Nat.le_refl _) h0 rfl rfl nmE0 ?_
  refine vq_r T 2 29 [some (.ref a)] [.int 16, .ref a] rfl ?_
  refine vq_na T 31 16 rfl rfl rfl (by decide) (by decide) (by omega) (s1) (fun k hk => (fv_i (fun _ => rfl) (y1 k hk)).symm) ?_
  refine vq_n (e' := a + 10) (sl' := 60) (by omega) (by omega) ?_
  refine vq_pf T 34 [] _ rfl rfl (Or.inr rfl) rfl (Nat.le_refl _) h0 rfl rfl nmE0 ?_
  refine vq_r T 2 37 [some (.ref a)] [.int 16, .ref a] rfl ?_
  refine vq_na T 39 16 rfl rfl rfl (by decide) (by decide) (by omega) (s2) (fun k hk => (fv_i (fun _ => rfl) (y2 k hk)).symm) ?_
  refine vq_n (e' := a + 11) (sl' := 76) (by omega) (by omega) ?_
  refine vq_pf T 42 [] _ rfl rfl (Or.inr rfl) rfl (Nat.le_refl _) h0 rfl rfl nmE0 ?_
  refine vq_r T 2 44 [some (.ref a)] [.int (0 : Int32), .ref a] rfl ?_
  refine vq_pf T 47 [] _ rfl rfl (Or.inl rfl) rfl (Nat.le_refl _) h0 rfl rfl nmE0 ?_
  refine vq_r T 2 49 [some (.ref a)] [.int (-1 : Int32), .ref a] rfl ?_
  refine vq_pf T 52 [] _ rfl rfl (Or.inl rfl) rfl (Nat.le_refl _) h0 rfl rfl nmE0 ?_
  refine vq_ret T (ne := 10) rfl (by omega) (List.forall_mem_cons.mpr ⟨fun t ht k hk => ?_, fun x hx => absurd hx List.not_mem_nil⟩)
  · change H.1 a = some t at ht
    rw [h0] at ht
    cases ht
    change k < 6 at hk
    rcases (show k = 0 ∨ k = 1 ∨ k = 2 ∨ k = 3 ∨ k = 4 ∨ k = 5 by omega) with h | h | h | h | h | h <;> subst h
    · show Value.ref (a + 1) = _
      rw [fm_v2 (show fm_kd (.inl 1) 0 = 2 from rfl), r0]
    · show Value.ref (a + 5) = _
      rw [fm_v2 (show fm_kd (.inl 1) 1 = 2 from rfl), r1]
    · show Value.ref (a + 9) = _
      rw [fm_v2 (show fm_kd (.inl 1) 2 = 2 from rfl), r2]
    · show Value.ref (a + 10) = _
      rw [fm_v2 (show fm_kd (.inl 1) 3 = 2 from rfl), r3]
    · show Value.int (0 : Int32) = _
      rw [fm_v0 (show fm_kd (.inl 1) 4 = 0 from rfl), z4]
    · show Value.int (-1 : Int32) = _
      rw [fm_v0 (show fm_kd (.inl 1) 5 = 0 from rfl), z5]
theorem ct_lab {G : pm_G} {H : fm_H} {m : fm_M} {d a : Nat} (h : hLa H m a) : CT G H m (d + 2) yX2_init 2 4 370 a := by
  obtain ⟨h0, ⟨r0, r1, r2, r3⟩, ⟨s1, y1⟩, ⟨s2, y2⟩, ⟨s3, y3⟩, s4, y4⟩ := h
  refine ct_mk (own := RX2) (cc := cX2_init) (maxL := 1) mt_X2_init rfl (by omega) rfl h0 (fun S0 => ?_)
  have T : fm_T RX2 cX2_init tc_X2_init fr_X2 mr_X2 cr_X2 lr_X2 := ⟨tok_X2, dc_X2_init⟩
  show vq G H m (d + 1) RX2 cX2_init _ S0 a 0 [some (.ref a)] [] (a + 1) 0 [(a, fun k => defaultValue ((px_cn 2).2 k))]
  refine vq_r T 1 1 [some (.ref a)] [.ref a] rfl ?_
  refine vq_oi T 4 rfl rfl rfl rfl ?_
  refine vq_r T 2 7 [some (.ref a)] [.int 10, .ref a] rfl ?_
  refine vq_na T 9 10 rfl rfl rfl (by decide) (by decide) (by omega) (s1) (fun k hk => (fv_i (fun _ => rfl) (y1 k hk)).symm) ?_
  refine vq_n (e' := a + 2) (sl' := 10) (by omega) (by omega) ?_
  refine vq_pf T 12 [] _ rfl rfl (Or.inr rfl) rfl (Nat.le_refl _) h0 rfl rfl nmE0 ?_
  refine vq_r T 2 15 [some (.ref a)] [.int 120, .ref a] rfl ?_
  refine vq_nt T 17 120 rfl rfl rfl (by decide) (by decide) (by omega) (s2) ?_
  refine vq_n (e' := a + 3) (sl' := 130) (by omega) (by omega) ?_
  refine vq_pf T 20 [] _ rfl rfl (Or.inr rfl) rfl (Nat.le_refl _) h0 rfl rfl (nmEc (by omega) nmE0) ?_
  refine vq_r T 2 23 [some (.ref a)] [.int 120, .ref a] rfl ?_
  refine vq_na T 25 120 rfl rfl rfl (by decide) (by decide) (by omega) (s3) (fun k hk => (fv_i (fun _ => rfl) (y3 k hk)).symm) ?_
  refine vq_n (e' := a + 4) (sl' := 250) (by omega) (by omega) ?_
  refine vq_pf T 28 [] _ rfl rfl (Or.inr rfl) rfl (Nat.le_refl _) h0 rfl rfl (nmEc (by omega) nmE0) ?_
  refine vq_r T 2 31 [some (.ref a)] [.int 120, .ref a] rfl ?_
  refine vq_na T 33 120 rfl rfl rfl (by decide) (by decide) (by omega) (s4) (fun k hk => (fv_i (fun _ => rfl) (y4 k hk)).symm) ?_
  refine vq_n (e' := a + 5) (sl' := 370) (by omega) (by omega) ?_
  refine vq_pf T 36 [] _ rfl rfl (Or.inr rfl) rfl (Nat.le_refl _) h0 rfl rfl (nmEc (by omega) nmE0) ?_
  refine vq_r T 1 37 [some (.ref a)] [.ref a] rfl ?_
  refine vq_gf T 40 [] _ rfl rfl rfl (Nat.le_refl _) h0 ?_
  show vq G H m (d + 1) RX2 cX2_init _ S0 a 40 [some (.ref a)] [.ref (a + 2)] _ _ _
  refine vq_r T 1 41 [some (.ref a)] [.int (-1 : Int32), .ref (a + 2)] rfl ?_
  refine vq_fill T 44 [_] [] rfl rfl rfl rfl (by omega) s2 (by omega) (nmEc (by omega) nmE0) ?_
  refine vq_ret T (ne := 4) rfl (by omega) (List.forall_mem_cons.mpr ⟨fun t ht k hk => ?_, List.forall_mem_cons.mpr ⟨fun t ht k hk => ?_, fun x hx => absurd hx List.not_mem_nil⟩⟩)
  · change H.1 a = some t at ht
    rw [h0] at ht
    cases ht
    change k < 4 at hk
    rcases (show k = 0 ∨ k = 1 ∨ k = 2 ∨ k = 3 by omega) with h | h | h | h <;> subst h
    · show Value.ref (a + 1) = _
      rw [fm_v2 (show fm_kd (.inl 2) 0 = 2 from rfl), r0]
    · show Value.ref (a + 2) = _
      rw [fm_v2 (show fm_kd (.inl 2) 1 = 2 from rfl), r1]
    · show Value.ref (a + 3) = _
      rw [fm_v2 (show fm_kd (.inl 2) 2 = 2 from rfl), r2]
    · show Value.ref (a + 4) = _
      rw [fm_v2 (show fm_kd (.inl 2) 3 = 2 from rfl), r3]
  · change H.1 (a + 2) = some t at ht
    rw [s2] at ht
    cases ht
    change k < 120 at hk
    exact Eq.trans (b := Value.int (-1)) (flR_p (f := fun _ => defaultValue (newarray.typeOf .int)) hk) (fv_i (H := H) (ty := .int) (fun _ => rfl) (y2 k hk)).symm
theorem ct_net {G : pm_G} {H : fm_H} {m : fm_M} {d a : Nat} (h : hNt H m a) : CT G H m (d + 2) yX4_init 4 18 196 a := by
  obtain ⟨h0, ⟨z0, z1⟩, ⟨r2, r3⟩, ⟨s1, y1⟩, ⟨s2, y2⟩, hl⟩ := h
  refine ct_mk (own := RX4) (cc := cX4_init) (maxL := 2) mt_X4_init rfl (by omega) rfl h0 (fun S0 => ?_)
  have T : fm_T RX4 cX4_init tc_X4_init fr_X4 mr_X4 cr_X4 lr_X4 := ⟨tok_X4, dc_X4_init⟩
  show vq G H m (d + 1) RX4 cX4_init _ S0 a 0 [some (.ref a), none] [] (a + 1) 0 [(a, fun k => defaultValue ((px_cn 4).2 k))]
  refine vq_r T 1 1 [some (.ref a), none] [.ref a] rfl ?_
  refine vq_oi T 4 rfl rfl rfl rfl ?_
  refine vq_r T 2 7 [some (.ref a), none] [.int 16, .ref a] rfl ?_
  refine vq_an T 10 16 3 rfl rfl rfl rfl (by decide) (by decide) (by omega) (s1) ?_
  refine vq_n (e' := a + 2) (sl' := 16) (by omega) (by omega) ?_
  refine vq_pf T 13 [] _ rfl rfl (Or.inr rfl) rfl (Nat.le_refl _) h0 rfl rfl (nmEc (by omega) nmE0) ?_
  refine vq_r T 2 16 [some (.ref a), none] [.int 100, .ref a] rfl ?_
  refine vq_nt T 18 100 rfl rfl rfl (by decide) (by decide) (by omega) (s2) ?_
  refine vq_n (e' := a + 3) (sl' := 116) (by omega) (by omega) ?_
  refine vq_pf T 21 [] _ rfl rfl (Or.inr rfl) rfl (Nat.le_refl _) h0 rfl rfl (nmEc (by omega) (nmEc (by omega) nmE0)) ?_
  refine vq_r T 2 23 [some (.ref a), some (.int (nn 0))] [] rfl ?_
  generalize hfa : pm_up (pm_up (fun k => defaultValue ((px_cn 4).2 k)) 2 (Value.ref (a + 1))) 3 (Value.ref (a + 2)) = fa
  have loop : ∀ (k j : Nat), j + k = 16 → vq G H m (d + 1) RX4 cX4_init (fun r S1 => r = .inl none ∧ ∃ F, cI H S0 a (a + 1 + 18) 196 F S1 ∧ ∀ q, a ≤ q → q < a + 1 + 18 → gdo H m F q) S0 a 23 [some (.ref a), some (.int (nn j))] [] (a + 3 + j) (116 + 5 * j) [(a, fa), (a + 1, rfR (a + 3) 1 j), (a + 2, fun _ => defaultValue (newarray.typeOf .int))] := by
    intro k
    induction k with
    | zero =>
      intro j h1
      have ej : j = 16 := by omega
      subst ej
      refine vq_r T 2 26 [some (.ref a), some (.int (nn 16))] [.int 16, .int (nn 16)] rfl ?_
      refine vq_ge T 48 29 rfl rfl rfl (fun _ => ?_) (fun z => absurd (by decide) z)
      refine vq_r T 1 49 [some (.ref a), some (.int (nn 16))] [.ref a] rfl ?_
      refine vq_gf T 52 [] _ rfl rfl rfl (Nat.le_refl _) h0 ?_
      rw [show fa 3 = .ref (a + 2) from by rw [← hfa]; rfl]
      refine vq_r T 1 53 [some (.ref a), some (.int (nn 16))] [.int (-1 : Int32), .ref (a + 2)] rfl ?_
      refine vq_fill T 56 [_, _] [] rfl rfl rfl rfl (by omega) s2 (by omega) (nmEc (by omega) (nmEc (by omega) nmE0)) ?_
      refine vq_ret T (ne := 18) rfl (by omega) (List.forall_mem_cons.mpr ⟨fun t ht k hk => ?_, List.forall_mem_cons.mpr ⟨fun t ht k hk => ?_, List.forall_mem_cons.mpr ⟨fun t ht k hk => ?_, fun x hx => absurd hx List.not_mem_nil⟩⟩⟩)
      · change H.1 a = some t at ht
        rw [h0] at ht
        cases ht
        change k < 4 at hk
        rw [← hfa]
        rcases (show k = 0 ∨ k = 1 ∨ k = 2 ∨ k = 3 by omega) with h | h | h | h <;> subst h
        · show Value.int (0 : Int32) = _
          rw [fm_v0 (show fm_kd (.inl 4) 0 = 0 from rfl), z0]
        · show Value.int (0 : Int32) = _
          rw [fm_v0 (show fm_kd (.inl 4) 1 = 0 from rfl), z1]
        · show Value.ref (a + 1) = _
          rw [fm_v2 (show fm_kd (.inl 4) 2 = 2 from rfl), r2]
        · show Value.ref (a + 2) = _
          rw [fm_v2 (show fm_kd (.inl 4) 3 = 2 from rfl), r3]
      · change H.1 (a + 1) = some t at ht
        rw [s1] at ht
        cases ht
        change k < 16 at hk
        exact (rfR_p hk).trans (fv_r (y1 k hk)).symm
      · change H.1 (a + 2) = some t at ht
        rw [s2] at ht
        cases ht
        change k < 100 at hk
        exact Eq.trans (b := Value.int (-1)) (flR_p (f := fun _ => defaultValue (newarray.typeOf .int)) hk) (fv_i (H := H) (ty := .int) (fun _ => rfl) (y2 k hk)).symm
    | succ k ih =>
      intro j h1
      refine vq_r T 2 26 [some (.ref a), some (.int (nn j))] [.int 16, .int (nn j)] rfl ?_
      refine vq_ge T 48 29 rfl rfl rfl (fun z => ?_) (fun _ => ?_)
      · rw [nl_16, nn_le (by omega) (by omega)] at z
        omega
      · refine vq_r T 1 30 [some (.ref a), some (.int (nn j))] [.ref a] rfl ?_
        refine vq_gf T 33 [] _ rfl rfl rfl (Nat.le_refl _) h0 ?_
        rw [show fa 2 = .ref (a + 1) from by rw [← hfa]; rfl]
        refine vq_r T 1 34 [some (.ref a), some (.int (nn j))] [.int (nn j), .ref (a + 1)] rfl ?_
        refine vq_sub (N := 5) T 41 rfl rfl rfl rfl rfl rfl rfl rfl (hl j (by omega)).1 (ct_lnk (hl j (by omega))) ?_
        refine vq_aa T 42 [_] _ (r := (RX3, TX3, 5)) rfl rfl (by omega) (by omega) (by omega) s1 (hl j (by omega)).1 rfl ((nn_in (by omega)).mpr (by omega)) (nn_tn (by omega)) (nmEc (by omega) (nmEc (by omega) nmE0)) ?_
        rw [show a + 3 + j = a + 3 + 1 * j by omega, rfR_s]
        refine vq_r T 2 23 [some (.ref a), some (.int (nn j + 1))] [] rfl ?_
        rw [nn_inc]
        exact vq_n (by omega) (by omega) (ih (j + 1) (by omega))
  have h8 := loop 16 0 (by omega)
  rw [rfR_0] at h8
  exact vq_n (by omega) (by omega) h8
theorem ct_sta {G : pm_G} {H : fm_H} {m : fm_M} {d a : Nat} (h : hSt H m a) : CT G H m (d + 3) yX7_init 7 159 1541 a := by
  obtain ⟨h0, ⟨r0, r1, r2, r3, r4⟩, ⟨z5, z6, z7, z8, z9⟩, w1, w2, w3, ⟨s1, y1⟩, ⟨s2, y2⟩, hc, hp⟩ := h
  refine ct_mk (own := RX7) (cc := cX7_init) (maxL := 2) mt_X7_init rfl (by omega) rfl h0 (fun S0 => ?_)
  have T : fm_T RX7 cX7_init tc_X7_init fr_X7 mr_X7 cr_X7 lr_X7 := ⟨tok_X7, dc_X7_init⟩
  show vq G H m (d + 2) RX7 cX7_init _ S0 a 0 [some (.ref a), none] [] (a + 1) 0 [(a, fun k => defaultValue ((px_cn 7).2 k))]
  refine vq_r T 1 1 [some (.ref a), none] [.ref a] rfl ?_
  refine vq_oi T 4 rfl rfl rfl rfl ?_
  refine vq_r T 1 5 [some (.ref a), none] [.ref a] rfl ?_
  refine vq_sub (N := 4) T 12 rfl rfl rfl rfl rfl rfl rfl rfl (w1.1) (ct_net w1) ?_
  refine vq_n (e' := a + 20) (sl' := 200) (by omega) (by omega) ?_
  refine vq_pf T 15 [] _ rfl rfl (Or.inr rfl) rfl (Nat.le_refl _) h0 rfl rfl nmE0 ?_
  refine vq_r T 1 16 [some (.ref a), none] [.ref a] rfl ?_
  refine vq_sub (N := 4) T 23 rfl rfl rfl rfl rfl rfl rfl rfl (w2.1) (ct_lab w2) ?_
  refine vq_n (e' := a + 25) (sl' := 574) (by omega) (by omega) ?_
  refine vq_pf T 26 [] _ rfl rfl (Or.inr rfl) rfl (Nat.le_refl _) h0 rfl rfl nmE0 ?_
  refine vq_r T 1 27 [some (.ref a), none] [.ref a] rfl ?_
  refine vq_sub (N := 7) T 34 rfl rfl rfl rfl rfl rfl rfl rfl (w3.1) (ct_tot (d := d + 1) w3) ?_
  refine vq_n (e' := a + 26) (sl' := 581) (by omega) (by omega) ?_
  refine vq_pf T 37 [] _ rfl rfl (Or.inr rfl) rfl (Nat.le_refl _) h0 rfl rfl nmE0 ?_
  refine vq_r T 2 40 [some (.ref a), none] [.int 8, .ref a] rfl ?_
  refine vq_an T 43 8 0 rfl rfl rfl rfl (by decide) (by decide) (by omega) (s1) ?_
  refine vq_n (e' := a + 27) (sl' := 589) (by omega) (by omega) ?_
  refine vq_pf T 46 [] _ rfl rfl (Or.inr rfl) rfl (Nat.le_refl _) h0 rfl rfl (nmEc (by omega) nmE0) ?_
  refine vq_r T 2 49 [some (.ref a), none] [.int 60, .ref a] rfl ?_
  refine vq_an T 52 60 5 rfl rfl rfl rfl (by decide) (by decide) (by omega) (s2) ?_
  refine vq_n (e' := a + 28) (sl' := 649) (by omega) (by omega) ?_
  refine vq_pf T 55 [] _ rfl rfl (Or.inr rfl) rfl (Nat.le_refl _) h0 rfl rfl (nmEc (by omega) (nmEc (by omega) nmE0)) ?_
  refine vq_r T 2 57 [some (.ref a), none] [.int (0 : Int32), .ref a] rfl ?_
  refine vq_pf T 60 [] _ rfl rfl (Or.inl rfl) rfl (Nat.le_refl _) h0 rfl rfl (nmEc (by omega) (nmEc (by omega) nmE0)) ?_
  refine vq_r T 2 62 [some (.ref a), none] [.int (0 : Int32), .ref a] rfl ?_
  refine vq_pf T 65 [] _ rfl rfl (Or.inl rfl) rfl (Nat.le_refl _) h0 rfl rfl (nmEc (by omega) (nmEc (by omega) nmE0)) ?_
  refine vq_r T 2 67 [some (.ref a), none] [.int (1 : Int32), .ref a] rfl ?_
  refine vq_pf T 70 [] _ rfl rfl (Or.inl rfl) rfl (Nat.le_refl _) h0 rfl rfl (nmEc (by omega) (nmEc (by omega) nmE0)) ?_
  refine vq_r T 2 72 [some (.ref a), none] [.int (0 : Int32), .ref a] rfl ?_
  refine vq_pf T 75 [] _ rfl rfl (Or.inl rfl) rfl (Nat.le_refl _) h0 rfl rfl (nmEc (by omega) (nmEc (by omega) nmE0)) ?_
  refine vq_r T 2 77 [some (.ref a), none] [.int (0 : Int32), .ref a] rfl ?_
  refine vq_pf T 80 [] _ rfl rfl (Or.inl rfl) rfl (Nat.le_refl _) h0 rfl rfl (nmEc (by omega) (nmEc (by omega) nmE0)) ?_
  refine vq_r T 2 82 [some (.ref a), some (.int (nn 0))] [] rfl ?_
  generalize hfa : pm_up (pm_up (pm_up (pm_up (pm_up (pm_up (pm_up (pm_up (pm_up (pm_up (fun k => defaultValue ((px_cn 7).2 k)) 0 (Value.ref (a + 1))) 1 (Value.ref (a + 20))) 2 (Value.ref (a + 25))) 3 (Value.ref (a + 26))) 4 (Value.ref (a + 27))) 5 (Value.int 0)) 6 (Value.int 0)) 7 (Value.int 1)) 8 (Value.int 0)) 9 (Value.int 0) = fa
  have loop2 : ∀ (k j : Nat), j + k = 60 → vq G H m (d + 2) RX7 cX7_init (fun r S1 => r = .inl none ∧ ∃ F, cI H S0 a (a + 1 + 159) 1541 F S1 ∧ ∀ q, a ≤ q → q < a + 1 + 159 → gdo H m F q) S0 a 109 [some (.ref a), some (.int (nn j))] [] (a + 100 + j) (1121 + 7 * j) [(a, fa), (a + 26, rfR (a + 28) 9 8), (a + 27, rfR (a + 100) 1 j)] := by
    intro k
    induction k with
    | zero =>
      intro j h1
      have ej : j = 60 := by omega
      subst ej
      refine vq_r T 2 112 [some (.ref a), some (.int (nn 60))] [.int 60, .int (nn 60)] rfl ?_
      refine vq_ge T 134 115 rfl rfl rfl (fun _ => ?_) (fun z => absurd (by decide) z)
      refine vq_ret T (ne := 159) rfl (by omega) (List.forall_mem_cons.mpr ⟨fun t ht k hk => ?_, List.forall_mem_cons.mpr ⟨fun t ht k hk => ?_, List.forall_mem_cons.mpr ⟨fun t ht k hk => ?_, fun x hx => absurd hx List.not_mem_nil⟩⟩⟩)
      · change H.1 a = some t at ht
        rw [h0] at ht
        cases ht
        change k < 10 at hk
        rw [← hfa]
        rcases (show k = 0 ∨ k = 1 ∨ k = 2 ∨ k = 3 ∨ k = 4 ∨ k = 5 ∨ k = 6 ∨ k = 7 ∨ k = 8 ∨ k = 9 by omega) with h | h | h | h | h | h | h | h | h | h <;> subst h
        · show Value.ref (a + 1) = _
          rw [fm_v2 (show fm_kd (.inl 7) 0 = 2 from rfl), r0]
        · show Value.ref (a + 20) = _
          rw [fm_v2 (show fm_kd (.inl 7) 1 = 2 from rfl), r1]
        · show Value.ref (a + 25) = _
          rw [fm_v2 (show fm_kd (.inl 7) 2 = 2 from rfl), r2]
        · show Value.ref (a + 26) = _
          rw [fm_v2 (show fm_kd (.inl 7) 3 = 2 from rfl), r3]
        · show Value.ref (a + 27) = _
          rw [fm_v2 (show fm_kd (.inl 7) 4 = 2 from rfl), r4]
        · show Value.int (0 : Int32) = _
          rw [fm_v0 (show fm_kd (.inl 7) 5 = 0 from rfl), z5]
        · show Value.int (0 : Int32) = _
          rw [fm_v0 (show fm_kd (.inl 7) 6 = 0 from rfl), z6]
        · show Value.int (1 : Int32) = _
          rw [fm_v0 (show fm_kd (.inl 7) 7 = 0 from rfl), z7]
        · show Value.int (0 : Int32) = _
          rw [fm_v0 (show fm_kd (.inl 7) 8 = 0 from rfl), z8]
        · show Value.int (0 : Int32) = _
          rw [fm_v0 (show fm_kd (.inl 7) 9 = 0 from rfl), z9]
      · change H.1 (a + 26) = some t at ht
        rw [s1] at ht
        cases ht
        change k < 8 at hk
        exact (rfR_p hk).trans (fv_r (y1 k hk)).symm
      · change H.1 (a + 27) = some t at ht
        rw [s2] at ht
        cases ht
        change k < 60 at hk
        exact (rfR_p hk).trans (fv_r (y2 k hk)).symm
    | succ k ih =>
      intro j h1
      refine vq_r T 2 112 [some (.ref a), some (.int (nn j))] [.int 60, .int (nn j)] rfl ?_
      refine vq_ge T 134 115 rfl rfl rfl (fun z => ?_) (fun _ => ?_)
      · rw [nl_60, nn_le (by omega) (by omega)] at z
        omega
      · refine vq_r T 1 116 [some (.ref a), some (.int (nn j))] [.ref a] rfl ?_
        refine vq_gf T 119 [] _ rfl rfl rfl (Nat.le_refl _) h0 ?_
        rw [show fa 4 = .ref (a + 27) from by rw [← hfa]; rfl]
        refine vq_r T 1 120 [some (.ref a), some (.int (nn j))] [.int (nn j), .ref (a + 27)] rfl ?_
        refine vq_sub (N := 7) T 127 rfl rfl rfl rfl rfl rfl rfl rfl (hp j (by omega)).1 (ct_pkt (d := d + 1) (hp j (by omega))) ?_
        refine vq_aa T 128 [_, _] [] (r := (RX5, TX5, 7)) rfl rfl (by omega) (by omega) (by omega) s2 (hp j (by omega)).1 rfl ((nn_in (by omega)).mpr (by omega)) (nn_tn (by omega)) (nmEc (by omega) (nmEc (by omega) nmE0)) ?_
        rw [show a + 100 + j = a + 100 + 1 * j by omega, rfR_s]
        refine vq_r T 2 109 [some (.ref a), some (.int (nn j + 1))] [] rfl ?_
        rw [nn_inc]
        exact vq_n (by omega) (by omega) (ih (j + 1) (by omega))
  have loop : ∀ (k j : Nat), j + k = 8 → vq G H m (d + 2) RX7 cX7_init (fun r S1 => r = .inl none ∧ ∃ F, cI H S0 a (a + 1 + 159) 1541 F S1 ∧ ∀ q, a ≤ q → q < a + 1 + 159 → gdo H m F q) S0 a 82 [some (.ref a), some (.int (nn j))] [] (a + 28 + 9 * j) (649 + 59 * j) [(a, fa), (a + 26, rfR (a + 28) 9 j), (a + 27, fun _ => .null)] := by
    intro k
    induction k with
    | zero =>
      intro j h1
      have ej : j = 8 := by omega
      subst ej
      refine vq_r T 2 85 [some (.ref a), some (.int (nn 8))] [.int 8, .int (nn 8)] rfl ?_
      refine vq_ge T 107 88 rfl rfl rfl (fun _ => ?_) (fun z => absurd (by decide) z)
      refine vq_r T 2 109 [some (.ref a), some (.int (nn 0))] [] rfl ?_
      rw [← rfR_0 (b := a + 100) (s := 1)]
      exact vq_n (by omega) (by omega) (loop2 60 0 (by omega))
    | succ k ih =>
      intro j h1
      refine vq_r T 2 85 [some (.ref a), some (.int (nn j))] [.int 8, .int (nn j)] rfl ?_
      refine vq_ge T 107 88 rfl rfl rfl (fun z => ?_) (fun _ => ?_)
      · rw [nl_8, nn_le (by omega) (by omega)] at z
        omega
      · refine vq_r T 1 89 [some (.ref a), some (.int (nn j))] [.ref a] rfl ?_
        refine vq_gf T 92 [] _ rfl rfl rfl (Nat.le_refl _) h0 ?_
        rw [show fa 3 = .ref (a + 26) from by rw [← hfa]; rfl]
        refine vq_r T 1 93 [some (.ref a), some (.int (nn j))] [.int (nn j), .ref (a + 26)] rfl ?_
        refine vq_sub (N := 15) T 100 rfl rfl rfl rfl rfl rfl rfl rfl (hc j (by omega)).1 (ct_cir (hc j (by omega))) ?_
        refine vq_aa T 101 [_] _ (r := (RX0, TX0, 15)) rfl rfl (by omega) (by omega) (by omega) s1 (hc j (by omega)).1 rfl ((nn_in (by omega)).mpr (by omega)) (nn_tn (by omega)) (nmEc (by omega) (nmEc (by omega) nmE0)) ?_
        rw [rfR_s]
        refine vq_r T 2 82 [some (.ref a), some (.int (nn j + 1))] [] rfl ?_
        rw [nn_inc]
        exact vq_n (by omega) (by omega) (ih (j + 1) (by omega))
  have h8 := loop 8 0 (by omega)
  rw [rfR_0] at h8
  exact vq_n (by omega) (by omega) h8
theorem ct_dsk {G : pm_G} {H : fm_H} {m : fm_M} {d a : Nat} (h : hDk H m a) : CT G H m (d + 4) yX11_init 11 660 7121 a := by
  obtain ⟨h0, ⟨r0, r1, r2, r3, r4⟩, ⟨p5, p6⟩, ⟨z7, z8⟩, w1, w2, w3, ⟨s1, y1⟩, ⟨s2, y2⟩, ⟨w4, w5⟩, hs⟩ := h
  refine ct_mk (own := RX11) (cc := cX11_init) (maxL := 2) mt_X11_init rfl (by omega) rfl h0 (fun S0 => ?_)
  have T : fm_T RX11 cX11_init tc_X11_init fr_X11 mr_X11 cr_X11 lr_X11 := ⟨tok_X11, dc_X11_init⟩
  show vq G H m (d + 3) RX11 cX11_init _ S0 a 0 [some (.ref a), none] [] (a + 1) 0 [(a, fun k => defaultValue ((px_cn 11).2 k))]
  refine vq_r T 1 1 [some (.ref a), none] [.ref a] rfl ?_
  refine vq_oi T 4 rfl rfl rfl rfl ?_
  refine vq_r T 1 5 [some (.ref a), none] [.ref a] rfl ?_
  refine vq_sub (N := 3) T 12 rfl rfl rfl rfl rfl rfl rfl rfl (w1.1) (ct_rdr (d := d + 1) w1) ?_
  refine vq_n (e' := a + 4) (sl' := 809) (by omega) (by omega) ?_
  refine vq_pf T 15 [] _ rfl rfl (Or.inr rfl) rfl (Nat.le_refl _) h0 rfl rfl nmE0 ?_
  refine vq_r T 1 16 [some (.ref a), none] [.ref a] rfl ?_
  refine vq_sub (N := 6) T 23 rfl rfl rfl rfl rfl rfl rfl rfl (w2.1) (ct_fnd (d := d + 1) w2) ?_
  refine vq_n (e' := a + 15) (sl' := 891) (by omega) (by omega) ?_
  refine vq_pf T 26 [] _ rfl rfl (Or.inr rfl) rfl (Nat.le_refl _) h0 rfl rfl nmE0 ?_
  refine vq_r T 1 27 [some (.ref a), none] [.ref a] rfl ?_
  refine vq_sub (N := 4) T 34 rfl rfl rfl rfl rfl rfl rfl rfl (w3.1) (ct_way (d := d + 2) w3) ?_
  refine vq_n (e' := a + 19) (sl' := 913) (by omega) (by omega) ?_
  refine vq_pf T 37 [] _ rfl rfl (Or.inr rfl) rfl (Nat.le_refl _) h0 rfl rfl nmE0 ?_
  refine vq_r T 2 39 [some (.ref a), none] [.int 2, .ref a] rfl ?_
  refine vq_an T 42 2 7 rfl rfl rfl rfl (by decide) (by decide) (by omega) (s1) ?_
  refine vq_n (e' := a + 20) (sl' := 915) (by omega) (by omega) ?_
  refine vq_pf T 45 [] _ rfl rfl (Or.inr rfl) rfl (Nat.le_refl _) h0 rfl rfl (nmEc (by omega) nmE0) ?_
  refine vq_r T 2 47 [some (.ref a), none] [.int 2, .ref a] rfl ?_
  refine vq_na T 49 2 rfl rfl rfl (by decide) (by decide) (by omega) (s2) (fun k hk => (fv_i (fun _ => rfl) (y2 k hk)).symm) ?_
  refine vq_n (e' := a + 21) (sl' := 917) (by omega) (by omega) ?_
  refine vq_pf T 52 [] _ rfl rfl (Or.inr rfl) rfl (Nat.le_refl _) h0 rfl rfl (nmEc (by omega) nmE0) ?_
  refine vq_r T 1 53 [some (.ref a), none] [.ref a] rfl ?_
  refine vq_sub (N := 10) T 60 rfl rfl rfl rfl rfl rfl rfl rfl (w4.1) (ct_sta w4) ?_
  refine vq_n (e' := a + 181) (sl' := 2468) (by omega) (by omega) ?_
  refine vq_pf T 63 [] _ rfl rfl (Or.inl rfl) rfl (Nat.le_refl _) h0 rfl rfl (nmEc (by omega) nmE0) ?_
  refine vq_r T 1 64 [some (.ref a), none] [.ref a] rfl ?_
  refine vq_sub (N := 10) T 71 rfl rfl rfl rfl rfl rfl rfl rfl (w5.1) (ct_sta w5) ?_
  refine vq_n (e' := a + 341) (sl' := 4019) (by omega) (by omega) ?_
  refine vq_pf T 74 [] _ rfl rfl (Or.inl rfl) rfl (Nat.le_refl _) h0 rfl rfl (nmEc (by omega) nmE0) ?_
  refine vq_r T 2 76 [some (.ref a), none] [.int (0 : Int32), .ref a] rfl ?_
  refine vq_pf T 79 [] _ rfl rfl (Or.inl rfl) rfl (Nat.le_refl _) h0 rfl rfl (nmEc (by omega) nmE0) ?_
  refine vq_r T 2 81 [some (.ref a), none] [.int (-1 : Int32), .ref a] rfl ?_
  refine vq_pf T 84 [] _ rfl rfl (Or.inl rfl) rfl (Nat.le_refl _) h0 rfl rfl (nmEc (by omega) nmE0) ?_
  refine vq_r T 2 86 [some (.ref a), some (.int (nn 0))] [] rfl ?_
  generalize hfa : pm_up (pm_up (pm_up (pm_up (pm_up (pm_up (pm_up (pm_up (pm_up (fun k => defaultValue ((px_cn 11).2 k)) 0 (Value.ref (a + 1))) 1 (Value.ref (a + 4))) 2 (Value.ref (a + 15))) 3 (Value.ref (a + 19))) 4 (Value.ref (a + 20))) 5 (Value.ref (a + 21))) 6 (Value.ref (a + 181))) 7 (Value.int 0)) 8 (Value.int (-1)) = fa
  have loop : ∀ (k j : Nat), j + k = 2 → vq G H m (d + 3) RX11 cX11_init (fun r S1 => r = .inl none ∧ ∃ F, cI H S0 a (a + 1 + 660) 7121 F S1 ∧ ∀ q, a ≤ q → q < a + 1 + 660 → gdo H m F q) S0 a 86 [some (.ref a), some (.int (nn j))] [] (a + 341 + 160 * j) (4019 + 1551 * j) [(a, fa), (a + 19, rfR (a + 341) 160 j)] := by
    intro k
    induction k with
    | zero =>
      intro j h1
      have ej : j = 2 := by omega
      subst ej
      refine vq_r T 2 88 [some (.ref a), some (.int (nn 2))] [.int 2, .int (nn 2)] rfl ?_
      refine vq_ge T 110 91 rfl rfl rfl (fun _ => ?_) (fun z => absurd (by decide) z)
      refine vq_ret T (ne := 660) rfl (by omega) (List.forall_mem_cons.mpr ⟨fun t ht k hk => ?_, List.forall_mem_cons.mpr ⟨fun t ht k hk => ?_, fun x hx => absurd hx List.not_mem_nil⟩⟩)
      · change H.1 a = some t at ht
        rw [h0] at ht
        cases ht
        change k < 9 at hk
        rw [← hfa]
        rcases (show k = 0 ∨ k = 1 ∨ k = 2 ∨ k = 3 ∨ k = 4 ∨ k = 5 ∨ k = 6 ∨ k = 7 ∨ k = 8 by omega) with h | h | h | h | h | h | h | h | h <;> subst h
        · show Value.ref (a + 1) = _
          rw [fm_v2 (show fm_kd (.inl 11) 0 = 2 from rfl), r0]
        · show Value.ref (a + 4) = _
          rw [fm_v2 (show fm_kd (.inl 11) 1 = 2 from rfl), r1]
        · show Value.ref (a + 15) = _
          rw [fm_v2 (show fm_kd (.inl 11) 2 = 2 from rfl), r2]
        · show Value.ref (a + 19) = _
          rw [fm_v2 (show fm_kd (.inl 11) 3 = 2 from rfl), r3]
        · show Value.ref (a + 20) = _
          rw [fm_v2 (show fm_kd (.inl 11) 4 = 2 from rfl), r4]
        · show Value.ref (a + 21) = _
          rw [fm_v1 (show fm_kd (.inl 11) 5 = 1 from rfl), p5]
        · show Value.ref (a + 181) = _
          rw [fm_v1 (show fm_kd (.inl 11) 6 = 1 from rfl), p6]
        · show Value.int (0 : Int32) = _
          rw [fm_v0 (show fm_kd (.inl 11) 7 = 0 from rfl), z7]
        · show Value.int (-1 : Int32) = _
          rw [fm_v0 (show fm_kd (.inl 11) 8 = 0 from rfl), z8]
      · change H.1 (a + 19) = some t at ht
        rw [s1] at ht
        cases ht
        change k < 2 at hk
        exact (rfR_p hk).trans (fv_r (y1 k hk)).symm
    | succ k ih =>
      intro j h1
      refine vq_r T 2 88 [some (.ref a), some (.int (nn j))] [.int 2, .int (nn j)] rfl ?_
      refine vq_ge T 110 91 rfl rfl rfl (fun z => ?_) (fun _ => ?_)
      · rw [nl_2, nn_le (by omega) (by omega)] at z
        omega
      · refine vq_r T 1 92 [some (.ref a), some (.int (nn j))] [.ref a] rfl ?_
        refine vq_gf T 95 [] _ rfl rfl rfl (Nat.le_refl _) h0 ?_
        rw [show fa 3 = .ref (a + 19) from by rw [← hfa]; rfl]
        refine vq_r T 1 96 [some (.ref a), some (.int (nn j))] [.int (nn j), .ref (a + 19)] rfl ?_
        refine vq_sub (N := 10) T 103 rfl rfl rfl rfl rfl rfl rfl rfl (hs j (by omega)).1 (ct_sta (hs j (by omega))) ?_
        refine vq_aa T 104 [_] _ (r := (RX7, TX7, 10)) rfl rfl (by omega) (by omega) (by omega) s1 (hs j (by omega)).1 rfl ((nn_in (by omega)).mpr (by omega)) (nn_tn (by omega)) (nmEc (by omega) nmE0) ?_
        rw [rfR_s]
        refine vq_r T 2 86 [some (.ref a), some (.int (nn j + 1))] [] rfl ?_
        rw [nn_inc]
        exact vq_n (by omega) (by omega) (ih (j + 1) (by omega))
  have h8 := loop 2 0 (by omega)
  rw [rfR_0] at h8
  exact vq_n (by omega) (by omega) h8
