/-! what px_s asks is enough: each instruction; then px_f -/
section PXU
variable {G : pm_G} {cal : pm_Cal} {own : String} {ini : Bool} {cc : ByteArray} {ret : Option FieldType} {KR : pm_E} {K : pm_K} {tc : px_TC} {fr : px_FR} {mr : px_MR} {cr : px_CR} {lr : px_LR}
theorem px_call_spec {thr : Bool} {rc : Nat} {cal : MethodName → List Value → pm_S → pm_R → pm_S → Prop} {y : MethodName} {as rest : List Value} {pc : Nat} {ls : List (Option Value)} {S : pm_S} (h : px_call thr rc cal y as rest K KR pc ls S) : ∃ r1 S1, cal y as S r1 S1 ∧ pm_cb own cc ret [] K KR pc ls rest r1 S1 := by
  have an : px_an rc cal y as S (fun v S1 => K (pc + 3) ls (v.toList ++ rest) S1) → ∃ r1 S1, cal y as S r1 S1 ∧ pm_cb own cc ret [] K KR pc ls rest r1 S1 := by
    intro h
    unfold px_an at h
    split at h
    · obtain ⟨S1, h1, h2⟩ := h
      exact ⟨_, S1, h1, h2⟩
    · obtain ⟨x, S1, h1, h2⟩ := h
      exact ⟨_, S1, h1, h2⟩
    · obtain ⟨x, S1, h1, h2⟩ := h
      exact ⟨_, S1, h1, h2⟩
    · obtain ⟨x, S1, h1, h2⟩ := h
      exact ⟨_, S1, h1, h2⟩
    · obtain ⟨x, S1, h1, h2⟩ := h
      exact ⟨_, S1, h1, h2⟩
  unfold px_call px_th at h
  cases thr with
  | false => exact an h
  | true =>
    rcases h with h | ⟨E, S1, h1, h2⟩
    · exact an h
    · exact ⟨_, S1, h1, Or.inl ⟨rfl, h2⟩⟩
theorem px_take {st rest : List Value} {n : Nat} {b : Value} (h : st.drop n = b :: rest) : st = (st.take n).reverse.reverse ++ b :: rest ∧ (st.take n).reverse.length = n := by
  refine ⟨by rw [List.reverse_reverse, ← h, List.take_append_drop], ?_⟩
  rw [List.length_reverse, List.length_take]
  have : st.length - n = (b :: rest).length := by rw [← h, List.length_drop]
  rw [List.length_cons] at this
  omega
theorem px_nt_spec {ic pc : Nat} (hdc : ∀ pc q, px_lk tc pc = some q → decode cc pc = .ok q) (hlr : ∀ e ∈ lr, e.2 = .inl none → ∃ tx, Cond.stringRef own e.1 tx ∈ lw_tbl) (h : px_nt tc lr ic pc = true) : decode cc (pc + 3) = .ok (.dup, 1) ∧ ∃ ia, (∃ tx, Cond.stringRef own ia tx ∈ lw_tbl) ∧
    ((decode cc (pc + 4) = .ok (.ldc ia, 2) ∧ decode cc (pc + 6) = .ok (.invokespecial ic, 3) ∧ decode cc (pc + 9) = .ok (.athrow, 1)) ∨ (decode cc (pc + 4) = .ok (.ldc_w ia, 3) ∧ decode cc (pc + 7) = .ok (.invokespecial ic, 3) ∧ decode cc (pc + 10) = .ok (.athrow, 1))) := by
  unfold px_nt at h
  split at h
  · rename_i ia h1 h2
    split at h
    · rename_i j h3 h4 h5
      have e := Nat.eq_of_beq_eq_true h
      subst e
      exact ⟨hdc _ _ h1, ia, hlr _ (px_lk_in h3) rfl, Or.inl ⟨hdc _ _ h2, hdc _ _ h4, hdc _ _ h5⟩⟩
    · cases h
  · rename_i ia h1 h2
    split at h
    · rename_i j h3 h4 h5
      have e := Nat.eq_of_beq_eq_true h
      subst e
      exact ⟨hdc _ _ h1, ia, hlr _ (px_lk_in h3) rfl, Or.inr ⟨hdc _ _ h2, hdc _ _ h4, hdc _ _ h5⟩⟩
    · cases h
  · cases h
theorem px_w8of {S : pm_S} {st : List Value} (h : px_sz S st = true) : pm_w8 st := by
  unfold px_sz at h
  unfold pm_w8
  exact of_decide_eq_true h
theorem px_cb {t : ArrayType} {n : Nat} (h : px_at9 t = true) (hn : n ≤ 100000) : n * componentBytes (newarray.typeOf t) ≤ 536870912 := by
  cases t <;> first | (simp [px_at9] at h; done) | (simp only [newarray.typeOf, componentBytes]; omega)
set_option maxHeartbeats 4000000 in
theorem px_s_step (ha : px_arr) (htab : px_tok own fr mr cr lr) (hdc : ∀ pc q, px_lk tc pc = some q → decode cc pc = .ok q) {pc : Nat} {ls : List (Option Value)} {st : List Value} {S : pm_S} (h : px_s G cal own ini ret tc fr mr cr lr K KR pc ls st S) : ∃ ins len, decode cc pc = .ok (ins, len) ∧ pm_step G cal own ini cc ret [] K KR pc ls st S ins len := by
  obtain ⟨hfr, hmr, hcr, hlr⟩ := htab
  have hlr2 : ∀ e ∈ lr, e.2 = .inl none → ∃ tx, Cond.stringRef own e.1 tx ∈ lw_tbl := fun e he => (hlr e he).2.1
  unfold px_s at h
  split at h
  · exact h.elim
  rename_i q ins len hq
  refine ⟨ins, len, hdc _ _ hq, ?_⟩
  split at h
  · obtain ⟨e1, h⟩ := h
    obtain ⟨t, ht, hk⟩ := px_b_ex h
    exact ⟨e1, t, px_tg_eq ht, hk⟩
  · obtain ⟨e1, h⟩ := h
    replace h := px_int_spec h
    obtain ⟨x, r, rfl, h⟩ := h
    obtain ⟨t, ht, h⟩ := px_b_ex h
    split at h
    · exact ⟨e1, x, r, t, rfl, px_tg_eq ht, h.1, h.2⟩
    · exact ⟨e1, x, r, t, rfl, px_tg_eq ht, fun z => h.2 z, fun z => h.1 (Decidable.not_not.mp z)⟩
    · exact ⟨e1, x, r, t, rfl, px_tg_eq ht, h.1, h.2⟩
    · exact ⟨e1, x, r, t, rfl, px_tg_eq ht, h.1, h.2⟩
    · exact ⟨e1, x, r, t, rfl, px_tg_eq ht, h.1, h.2⟩
    · exact ⟨e1, x, r, t, rfl, px_tg_eq ht, h.1, h.2⟩
  · obtain ⟨e1, h⟩ := h
    replace h := px_int2_spec h
    obtain ⟨x, y, r, rfl, h⟩ := h
    obtain ⟨t, ht, h⟩ := px_b_ex h
    split at h
    · exact ⟨e1, x, y, r, t, rfl, px_tg_eq ht, h.1, h.2⟩
    · exact ⟨e1, x, y, r, t, rfl, px_tg_eq ht, fun z => h.2 z, fun z => h.1 (Decidable.not_not.mp z)⟩
    · exact ⟨e1, x, y, r, t, rfl, px_tg_eq ht, h.1, h.2⟩
    · exact ⟨e1, x, y, r, t, rfl, px_tg_eq ht, h.1, h.2⟩
    · exact ⟨e1, x, y, r, t, rfl, px_tg_eq ht, h.1, h.2⟩
    · exact ⟨e1, x, y, r, t, rfl, px_tg_eq ht, h.1, h.2⟩
  · rename_i d1 lo hi offs
    obtain ⟨e1, h⟩ := h
    replace h := px_int_spec h
    obtain ⟨x, r, rfl, h1, h2⟩ := h
    refine ⟨x, r, rfl, fun z => ?_, fun z1 z2 => ?_⟩
    · obtain ⟨t, ht, hk⟩ := px_b_ex (h1 z)
      exact ⟨t, px_tg_eq ht, hk⟩
    · obtain ⟨off, t, q1, q2, q3⟩ := px_ts_at h2 z1 (by omega)
      exact ⟨off, t, by rw [← Array.getElem?_toList]; exact q1, px_tg_eq q2, q3⟩
  · obtain ⟨e1, h⟩ := h
    split at h
    · rename_i v hv
      exact ⟨e1, Or.inl ⟨v, (hlr _ (px_lk_in hv)).1 v rfl, h⟩⟩
    · rename_i hv
      obtain ⟨tx, ht⟩ := (hlr _ (px_lk_in hv)).2.1 rfl
      exact ⟨e1, Or.inr ⟨tx, ht, h⟩⟩
    · exact h.elim
  · obtain ⟨e1, h⟩ := h
    split at h
    · rename_i v hv
      exact ⟨e1, Or.inl ⟨v, (hlr _ (px_lk_in hv)).2.2 v rfl, h⟩⟩
    · exact h.elim
  · obtain ⟨e1, h⟩ := h
    replace h := px_int2_spec h
    obtain ⟨x, y, r, rfl, h1, h2⟩ := h
    exact ⟨e1, x, y, r, rfl, h1, h2⟩
  · obtain ⟨e1, h⟩ := h
    replace h := px_int2_spec h
    obtain ⟨x, y, r, rfl, h1, h2⟩ := h
    exact ⟨e1, x, y, r, rfl, h1, h2⟩
  · obtain ⟨e1, h⟩ := h
    replace h := px_ix_spec h
    obtain ⟨i, a, r, rfl, h⟩ := h
    obtain ⟨x, hx, hk⟩ := px_b_ex h
    obtain ⟨t, w, n, f, g1, g2, g3, g4⟩ := px_el_spec (px_eI_spec hx)
    exact ⟨e1, i, a, n, r, t, w, f, rfl, g1, px_tI_eq g2, g3, by rw [g4]; exact hk⟩
  · obtain ⟨e1, h⟩ := h
    replace h := px_ix_spec h
    obtain ⟨i, a, r, rfl, h⟩ := h
    obtain ⟨x, hx, hk⟩ := px_b_ex h
    obtain ⟨t, w, n, f, g1, g2, g3, g4⟩ := px_el_spec (px_eI_spec hx)
    exact ⟨e1, i, a, n, r, t, w, f, rfl, g1, px_tB_eq g2, g3, by rw [g4]; exact hk⟩
  · obtain ⟨e1, h⟩ := h
    replace h := px_ix_spec h
    obtain ⟨i, a, r, rfl, h⟩ := h
    obtain ⟨x, hx, hk⟩ := px_b_ex h
    obtain ⟨t, w, n, f, g1, g2, g3, g4⟩ := px_el_spec (px_eR_spec hx)
    exact ⟨e1, i, a, n, r, t, w, f, rfl, g1, px_tO_eq g2, g3, by rw [g4]; exact hk⟩
  · obtain ⟨e1, h⟩ := h
    replace h := px_ix_spec h
    obtain ⟨i, a, r, rfl, h⟩ := h
    obtain ⟨x, hx, hk⟩ := px_b_ex h
    obtain ⟨t, w, n, f, g1, g2, g3, g4⟩ := px_el_spec (px_eL_spec hx)
    exact ⟨e1, i, a, n, r, t, w, f, rfl, g1, px_tL_eq g2, g3, by rw [g4]; exact hk⟩
  · obtain ⟨e1, h⟩ := h
    replace h := px_ix_spec h
    obtain ⟨i, a, r, rfl, h⟩ := h
    obtain ⟨x, hx, hk⟩ := px_b_ex h
    obtain ⟨t, w, n, f, g1, g2, g3, g4⟩ := px_el_spec (px_eD_spec hx)
    exact ⟨e1, i, a, n, r, t, w, f, rfl, g1, px_tD_eq g2, g3, by rw [g4]; exact hk⟩
  · obtain ⟨e1, h⟩ := h
    replace h := px_vix_spec h
    obtain ⟨v, i, a, r, rfl, h⟩ := h
    split at h
    · rename_i x
      obtain ⟨S1, hx, hk⟩ := px_b_ex h
      obtain ⟨t, n, f, g1, g2, g3, rfl⟩ := px_put_spec hx
      exact ⟨e1, _, _, i, a, n, r, t, f, rfl, g1, ⟨px_tI_eq g2, ⟨x, rfl⟩, rfl⟩, g3, hk⟩
    · exact h.elim
  · obtain ⟨e1, h⟩ := h
    replace h := px_vix_spec h
    obtain ⟨v, i, a, r, rfl, h⟩ := h
    split at h
    · rename_i x
      obtain ⟨S1, hx, hk⟩ := px_b_ex h
      obtain ⟨t, n, f, g1, g2, g3, rfl⟩ := px_put_spec hx
      exact ⟨e1, _, _, i, a, n, r, t, f, rfl, g1, ⟨px_tB_eq g2, ⟨x, rfl⟩, rfl⟩, g3, hk⟩
    · exact h.elim
  · obtain ⟨e1, h⟩ := h
    replace h := px_vix_spec h
    obtain ⟨v, i, a, r, rfl, h⟩ := h
    split at h
    · rename_i x
      obtain ⟨S1, hx, hk⟩ := px_b_ex h
      obtain ⟨t, n, f, g1, g2, g3, rfl⟩ := px_put_spec hx
      exact ⟨e1, _, _, i, a, n, r, t, f, rfl, g1, ⟨px_tL_eq g2, ⟨x, rfl⟩, rfl⟩, g3, hk⟩
    · exact h.elim
  · obtain ⟨e1, h⟩ := h
    replace h := px_vix_spec h
    obtain ⟨v, i, a, r, rfl, h⟩ := h
    split at h
    · rename_i x
      obtain ⟨S1, hx, hk⟩ := px_b_ex h
      obtain ⟨t, n, f, g1, g2, g3, rfl⟩ := px_put_spec hx
      exact ⟨e1, _, _, i, a, n, r, t, f, rfl, g1, ⟨px_tD_eq g2, ⟨x, rfl⟩, rfl⟩, g3, hk⟩
    · exact h.elim
  · obtain ⟨e1, h⟩ := h
    replace h := px_vix_spec h
    obtain ⟨v, i, a, r, rfl, h⟩ := h
    split at h
    · rename_i b
      obtain ⟨S1, hx, hk⟩ := px_b_ex h
      obtain ⟨t, n, f, g1, g2, g3, rfl⟩ := px_putR_spec hx
      obtain ⟨ci, nb, fb, q, q1, q2, q3⟩ := px_cok_spec g2
      exact ⟨e1, _, _, i, a, n, r, t, f, rfl, g1, ⟨⟨b, ci, nb, fb, q, rfl, q1, q2, q3⟩, rfl⟩, g3, hk⟩
    · exact h.elim
  · obtain ⟨e1, h⟩ := h
    replace h := px_ref_spec h
    obtain ⟨a, r, rfl, h⟩ := h
    obtain ⟨n, hn, hk⟩ := px_b_ex h
    unfold px_len at hn
    split at hn
    · rename_i q m f hm
      cases hn
      exact ⟨e1, a, m, r, q, f, rfl, hm, hk⟩
    · cases hn
  · obtain ⟨e1, h⟩ := h
    split at h
    · rename_i ci hc
      obtain ⟨h0, hh, hk⟩ := px_b_ex h
      obtain ⟨C, T, c1, c2, c3, c4, c5, c6, -⟩ := (hcr _ (px_lk_in hc)).1 ci rfl
      exact ⟨e1, Or.inl ⟨ci, C, T, _, h0, _, c2, c1, c3, c4, c5, c6, hh, hk⟩⟩
    · rename_i ic E hc
      obtain ⟨h1, h2, h3⟩ := h
      obtain ⟨g1, ia, g2, g3⟩ := px_nt_spec hdc hlr2 h1
      exact ⟨e1, Or.inr ⟨ia, ic, E, ⟨g2, (hcr _ (px_lk_in hc)).2 ic E rfl⟩, rfl, px_w8of h2, g1, g3, h3⟩⟩
    · exact h.elim
  · obtain ⟨e1, h⟩ := h
    replace h := px_int_spec h
    obtain ⟨n, r, rfl, ⟨h1, h2, h3⟩, h⟩ := h
    obtain ⟨h0, hh, hk⟩ := px_b_ex h
    have hcl : n.toNatClampNeg ≤ 100000 := by
      have := Int32.toNat_toInt n
      omega
    exact ⟨e1, n, r, h0, rfl, fun z => by have := Int32.lt_iff_toInt_lt.mp z; simp at this; omega, px_cb h3 hcl, ha _ h3, hh, hk⟩
  · obtain ⟨e1, h⟩ := h
    replace h := px_int_spec h
    obtain ⟨n, r, rfl, ⟨h1, h2⟩, h⟩ := h
    have hcl : n.toNatClampNeg ≤ 100000 := by
      have := Int32.toNat_toInt n
      omega
    split at h
    · rename_i ci hc
      obtain ⟨C, hC, h⟩ := px_b_ex h
      obtain ⟨h0, hh, hk⟩ := px_b_ex h
      obtain ⟨C', T, c1, c2, c3, c4, c5, c6, c7⟩ := (hcr _ (px_lk_in hc)).1 ci rfl
      obtain ⟨rfl, c8⟩ := c7 C hC
      exact ⟨e1, C, n, r, h0, rfl, fun z => by have := Int32.lt_iff_toInt_lt.mp z; simp at this; omega, by omega, c4, c8, hh, hk⟩
    · exact h.elim
  · obtain ⟨e1, h⟩ := h
    replace h := px_ref_spec h
    obtain ⟨a, r, rfl, h⟩ := h
    obtain ⟨q, hq, h⟩ := px_b_ex h
    obtain ⟨v, hv, hk⟩ := px_gf_spec h
    obtain ⟨n, f, hm, rfl⟩ := px_fld_spec hv
    exact ⟨e1, q.1, q.2.1, q.2.2.1, a, n, r, f, rfl, (hfr _ (px_lk_in hq)).1, hm, hk⟩
  · obtain ⟨e1, h⟩ := h
    split at h
    · rename_i v a r
      obtain ⟨q, hq, hw, h⟩ := px_b_ex h
      obtain ⟨h1, h2, S1, h3, hk⟩ := px_pf_spec h
      obtain ⟨n, f, hm, rfl⟩ := px_set_spec h3
      obtain ⟨f1, f2, f3⟩ := hfr _ (px_lk_in hq)
      refine ⟨e1, q.1, q.2.1, q.2.2.1, a, n, v, r, f, rfl, f1, ?_, hm, h1, h2, hk⟩
      split at hw
      · rename_i z
        exact f2 z _
      · rename_i z
        exact f3 z
      · exact hw.elim
    · exact h.elim
  · obtain ⟨e1, h⟩ := h
    obtain ⟨q, hq, h⟩ := px_b_ex h
    split at h
    · rename_i b rest hk1 hk2
      obtain ⟨h1, h2, h3⟩ := h
      obtain ⟨n, f, hm⟩ := px_cls_spec h2
      obtain ⟨m1, q9, m2, m3⟩ := (hmr _ (px_lk_in hq)).1 hk1
      obtain ⟨t1, t2⟩ := px_take hk2
      obtain ⟨r1, S1, g1, g2⟩ := px_call_spec (own := own) (cc := cc) (ret := ret) h3
      exact ⟨e1, _, _, rest, b, q.2.1, n, f, q9, r1, S1, by rw [t2]; exact m1, t1, px_w8of h1, hm, m2, m3, g1, g2⟩
    · exact h.elim
  · obtain ⟨e1, h⟩ := h
    obtain ⟨q, hq, h⟩ := px_b_ex h
    split at h
    · rename_i hk1
      obtain ⟨h0, h1, h3⟩ := h
      have m1 := (hmr _ (px_lk_in hq)).2.1 hk1
      obtain ⟨r1, S1, g1, g2⟩ := px_call_spec (own := own) (cc := cc) (ret := ret) h3
      exact ⟨e1, Or.inr ⟨false, _, _, st.drop q.2.2.2.1, r1, S1, by rw [List.length_reverse, List.length_take, Nat.min_eq_left (Nat.le_of_ble_eq_true h0)]; exact m1, fun z => (by cases z), by rw [List.reverse_reverse, List.take_append_drop], px_w8of h1, g1, g2⟩⟩
    · rename_i hk1
      obtain ⟨h0, h1, h3⟩ := h
      obtain ⟨m1, m2⟩ := (hmr _ (px_lk_in hq)).2.2.2.2 hk1
      obtain ⟨r1, S1, g1, g2⟩ := px_call_spec (own := own) (cc := cc) (ret := ret) h3
      exact ⟨e1, Or.inr ⟨true, _, _, st.drop q.2.2.2.1, r1, S1, by rw [List.length_reverse, List.length_take, Nat.min_eq_left (Nat.le_of_ble_eq_true h0)]; exact m1, fun _ => m2, by rw [List.reverse_reverse, List.take_append_drop], px_w8of h1, g1, g2⟩⟩
    · exact h.elim
  · obtain ⟨e1, h⟩ := h
    obtain ⟨q, hq, h⟩ := px_b_ex h
    split at h
    · rename_i b rest hk1 hk2
      obtain ⟨h1, h3⟩ := h
      have m1 := (hmr _ (px_lk_in hq)).2.2.1 hk1
      obtain ⟨t1, t2⟩ := px_take hk2
      obtain ⟨r1, S1, g1, g2⟩ := px_call_spec (own := own) (cc := cc) (ret := ret) h3
      exact ⟨e1, Or.inr ⟨_, _, rest, b, r1, S1, by rw [t2]; exact m1, t1, px_w8of h1, g1, g2⟩⟩
    · rename_i b rest hk1 hk2
      obtain ⟨h1, h3⟩ := h
      obtain ⟨m1, m2⟩ := (hmr _ (px_lk_in hq)).2.2.2.1 hk1
      dsimp only at m2
      rw [m2, List.drop_zero] at hk2
      exact ⟨e1, Or.inl ⟨b, rest, hk2, px_w8of h1, m1, h3⟩⟩
    · exact h.elim
  · obtain ⟨e1, h⟩ := h
    split at h
    · rename_i x ty
      unfold px_nw at h
      split at h
      · exact ⟨e1, x, _, rfl, rfl, rfl, h⟩
      · exact ⟨e1, x, _, rfl, rfl, h.1, h.2⟩
    · exact h.elim
  · obtain ⟨e1, h⟩ := h
    split at h
    · exact ⟨e1, rfl, rfl, h⟩
    · exact h.elim
  · obtain ⟨e1, h⟩ := h
    split at h
    · exact ⟨e1, _, _, rfl, rfl, Or.inl ⟨_, rfl⟩, h⟩
    · exact h.elim
  · obtain ⟨e1, h⟩ := h
    obtain ⟨q9, hq9, hk⟩ := px_b_ex h
    unfold pm_step
    split <;> first | exact ⟨e1, q9, hq9, hk⟩ | contradiction | (simp [pm_fn] at hq9)
theorem px_s_ok (ha : px_arr) (htab : px_tok own fr mr cr lr) (hdc : px_dc cc tc = true) (hK : ∀ pc ls st S, K pc ls st S → px_W G cal own ini cc ret KR pc ls st S) {pc : Nat} {ls : List (Option Value)} {st : List Value} {S : pm_S} (h : px_s G cal own ini ret tc fr mr cr lr K KR pc ls st S) : px_W G cal own ini cc ret KR pc ls st S := by
  obtain ⟨ins, len, h1, h2⟩ := px_s_step ha htab (fun _ _ hq => px_dc_at hdc hq) h
  exact px_step h1 hK h2
theorem px_f_ok (ha : px_arr) (htab : px_tok own fr mr cr lr) (hdc : px_dc cc tc = true) {cut : List Nat} : ∀ (k pc : Nat) (ls : List (Option Value)) (st : List Value) (S : pm_S), px_f G cal own ini ret tc fr mr cr lr cut (fun pc ls st S => px_W G cal own ini cc ret KR pc ls st S) KR k pc ls st S → px_W G cal own ini cc ret KR pc ls st S := by
  intro k
  induction k with
  | zero => exact fun _ _ _ _ h => h.elim
  | succ k ih =>
    intro pc ls st S h
    unfold px_f at h
    cases hc : cut.any (Nat.beq pc) with
    | true =>
      rw [hc] at h
      exact h
    | false =>
      rw [hc] at h
      exact px_s_ok ha htab hdc ih h
/-- fewer known locals -/
def px_le (ls ls' : List (Option Value)) : Prop := ls.length = ls'.length ∧ ∀ (i : Nat) (v : Value), ls'[i]? = some (some v) → ls[i]? = some (some v)
end PXU
