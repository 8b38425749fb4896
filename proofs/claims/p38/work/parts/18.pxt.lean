/-! what px_s asks is enough -/
section PXT
variable {G : pm_G} {cal : pm_Cal} {own : String} {ini : Bool} {cc : ByteArray} {ret : Option FieldType} {KR : pm_E} {K : pm_K} {tc : px_TC} {fr : px_FR} {mr : px_MR} {cr : px_CR} {lr : px_LR}
/-- the class of an exception that is made, the text apart -/
def px_trx (own : String) (ik ic : Nat) (E : String) : Prop := Cond.classLink own ik E ∈ pm_W ∧ Cond.initialized E ∈ pm_W ∧ (∀ w ∈ vx_atS own ic E pm_ns, w ∈ lw_tbl) ∧ (∀ w ∈ vx_atS own ic E pm_ns, (goodWord w || pm_mv w) = true) ∧ Bundle.fit E = true ∧ E ∈ [pm_xI, pm_xA, pm_xB]
/-- the tables say what the words say -/
def px_tok (own : String) (fr : px_FR) (mr : px_MR) (cr : px_CR) (lr : px_LR) : Prop :=
  (∀ e ∈ fr, pm_fr own e.1 e.2.1 e.2.2.1 e.2.2.2.1 ∧ (e.2.2.2.2 = 0 → ∀ ini, pm_fi own e.2.1 e.2.2.1 ini) ∧ (e.2.2.2.2 = 1 → pm_fi own e.2.1 e.2.2.1 true)) ∧
  (∀ e ∈ mr, (e.2.1 = 0 → pm_iv own e.1 e.2.2.2.1 e.2.2.2.2.1 ∧ ∃ q, pm_cnm e.2.2.1 = some q ∧ q = e.2.2.2.1.cls) ∧ (e.2.1 = 1 → pm_is own e.1 e.2.2.2.1 e.2.2.2.2.1) ∧ (e.2.1 = 2 → pm_ii own e.1 e.2.2.2.1 e.2.2.2.2.1) ∧ (e.2.1 = 3 → pm_io own e.1 ∧ e.2.2.2.2.1 = 0) ∧ (e.2.1 = 4 → pm_is own e.1 e.2.2.2.1 e.2.2.2.2.1 ∧ Cond.methodLink own e.1 e.2.2.2.1 ∈ pm_W)) ∧
  (∀ e ∈ cr, (∀ ci, e.2 = .inl ci → (∃ (C : String) (T : u_T), ci < 13 ∧ pm_kc ci C T (px_cn ci).1 ∧ (∀ k, k < (px_cn ci).1 → parseFieldDescriptor (T k).2.2.1 = some ((px_cn ci).2 k)) ∧ Cond.classLink own e.1 C ∈ pm_W ∧ Cond.instantiable C (px_cn ci).1 ∈ pm_W ∧ Cond.initialized C ∈ pm_W ∧ (∀ C', px_nm ci = some C' → C' = C ∧ Cond.arrayOver (.object C) ∈ lw_tbl))) ∧ (∀ ic E, e.2 = .inr (ic, E) → px_trx own e.1 ic E)) ∧
  (∀ e ∈ lr, (∀ v, e.2 = .inl (some v) → Cond.constant own e.1 v ∈ pm_W) ∧ (e.2 = .inl none → ∃ tx, Cond.stringRef own e.1 tx ∈ lw_tbl) ∧ (∀ v, e.2 = .inr v → Cond.constantLong own e.1 v ∈ pm_W))
def px_arr : Prop := ∀ t, px_at9 t = true → Cond.arrayClass (newarray.typeOf t) ∈ pm_W
theorem px_fld_spec {S : pm_S} {a ci k : Nat} {v : Value} (h : px_fld S a ci k = some v) : ∃ n f, S.1 a = some (.inl ci, n, f) ∧ f k = v := by
  unfold px_fld at h
  split at h
  · rename_i c n f hm
    split at h
    · rename_i hc
      subst hc
      cases h
      exact ⟨n, f, hm, rfl⟩
    · cases h
  · cases h
theorem px_gI_spec {S : pm_S} {a ci k : Nat} {x : Int32} (h : px_gI S a ci k = some x) : px_fld S a ci k = some (.int x) := by
  unfold px_gI at h
  split at h
  · rename_i y hy
    cases h
    exact hy
  · cases h
theorem px_gR_spec {S : pm_S} {a ci k : Nat} {x : Nat} (h : px_gR S a ci k = some x) : px_fld S a ci k = some (.ref x) := by
  unfold px_gR at h
  split at h
  · rename_i y hy
    cases h
    exact hy
  · cases h
theorem px_set_spec {S S1 : pm_S} {a ci k : Nat} {v : Value} (h : px_set S a ci k v = some S1) : ∃ n f, S.1 a = some (.inl ci, n, f) ∧ S1 = (pm_up S.1 a (some (.inl ci, n, pm_up f k v)), S.2) := by
  unfold px_set at h
  split at h
  · rename_i c n f hm
    split at h
    · rename_i hc
      subst hc
      cases h
      exact ⟨n, f, hm, rfl⟩
    · cases h
  · cases h
theorem px_el_spec {S : pm_S} {a : Nat} {ty : FieldType → Bool} {i : Int32} {v : Value} (h : px_el S a ty i = some v) : ∃ t w n f, S.1 a = some (.inr (t, w), n, f) ∧ ty t = true ∧ vp_in i n ∧ f i.toNatClampNeg = v := by
  unfold px_el at h
  split at h
  · rename_i q n f hm
    split at h
    · rename_i hc
      cases h
      exact ⟨q.1, q.2, n, f, hm, hc.1, px_inb_in hc.2, rfl⟩
    · cases h
  · cases h
theorem px_put_spec {S S1 : pm_S} {a : Nat} {ty : FieldType → Bool} {i : Int32} {v : FieldType → Value} (h : px_put S a ty i v = some S1) : ∃ t n f, S.1 a = some (.inr (t, true), n, f) ∧ ty t = true ∧ vp_in i n ∧ S1 = (pm_up S.1 a (some (.inr (t, true), n, pm_up f i.toNatClampNeg (v t))), S.2) := by
  unfold px_put at h
  split at h
  · rename_i t w n f hm
    split at h
    · rename_i hc
      cases h
      obtain ⟨h1, h2, rfl⟩ := hc
      exact ⟨t, n, f, hm, h1, px_inb_in h2, rfl⟩
    · cases h
  · cases h
theorem px_putR_spec {S S1 : pm_S} {a b : Nat} {i : Int32} (h : px_putR S a i b = some S1) : ∃ t n f, S.1 a = some (.inr (t, true), n, f) ∧ px_cok S b t = true ∧ vp_in i n ∧ S1 = (pm_up S.1 a (some (.inr (t, true), n, pm_up f i.toNatClampNeg (.ref b))), S.2) := by
  unfold px_putR at h
  split at h
  · rename_i t w n f hm
    split at h
    · rename_i hc
      cases h
      obtain ⟨h1, h2, rfl⟩ := hc
      exact ⟨t, n, f, hm, h1, px_inb_in h2, rfl⟩
    · cases h
  · cases h
theorem px_cls_spec {S : pm_S} {b ci : Nat} (h : px_cls S b = some ci) : ∃ n f, S.1 b = some (.inl ci, n, f) := by
  unfold px_cls at h
  split at h
  · rename_i c n f hm
    cases h
    exact ⟨n, f, hm⟩
  · cases h
theorem px_cok_spec {S : pm_S} {b : Nat} {t : FieldType} (h : px_cok S b t = true) : ∃ ci n f r, S.1 b = some (.inl ci, n, f) ∧ pm_cl[ci]? = some r ∧ t = .object r.1 := by
  unfold px_cok at h
  split at h
  · rename_i ci C hc
    obtain ⟨n, f, hm⟩ := px_cls_spec hc
    split at h
    · rename_i r hr
      have e := of_decide_eq_true h
      exact ⟨ci, n, f, r, hm, hr, by rw [e]⟩
    · cases h
  · cases h
theorem px_gf_spec {ty : FieldType} {S : pm_S} {a ci k : Nat} {K : Value → Prop} (h : px_gf ty S a ci k K) : ∃ v, px_fld S a ci k = some v ∧ K v := by
  unfold px_gf at h
  split at h
  · obtain ⟨x, hx, hk⟩ := px_b_ex h
    exact ⟨_, px_gR_spec hx, hk⟩
  · obtain ⟨x, hx, hk⟩ := px_b_ex h
    exact ⟨_, px_gR_spec hx, hk⟩
  · obtain ⟨x, hx, hk⟩ := px_b_ex h
    exact ⟨_, px_gI_spec hx, hk⟩
  · obtain ⟨x, hx, hk⟩ := px_b_ex h
    exact ⟨_, px_gI_spec hx, hk⟩
  · obtain ⟨x, hx, hk⟩ := px_b_ex h
    exact ⟨_, px_gI_spec hx, hk⟩
  · exact h.elim
theorem px_pf_spec {ty : FieldType} {S : pm_S} {a ci k : Nat} {v : Value} {K : pm_S → Prop} (h : px_pf ty S a ci k v K) : narrow ty v = v ∧ fits ty v = true ∧ ∃ S1, px_set S a ci k v = some S1 ∧ K S1 := by
  unfold px_pf at h
  split at h
  · obtain ⟨x, hx, hk⟩ := px_b_ex h
    exact ⟨rfl, rfl, x, hx, hk⟩
  · obtain ⟨x, hx, hk⟩ := px_b_ex h
    exact ⟨rfl, rfl, x, hx, hk⟩
  · unfold px_nr at h
    split at h
    · obtain ⟨x, hx, hk⟩ := px_b_ex h
      exact ⟨rfl, rfl, x, hx, hk⟩
    · obtain ⟨h1, h2, h3⟩ := h
      obtain ⟨x, hx, hk⟩ := px_b_ex h3
      exact ⟨h1, h2, x, hx, hk⟩
  · exact h.elim
theorem px_int_spec {st : List Value} {K : Int32 → List Value → Prop} (h : px_int st K) : ∃ x r, st = .int x :: r ∧ K x r := by
  unfold px_int at h
  split at h
  · exact ⟨_, _, rfl, h⟩
  · exact h.elim
theorem px_int2_spec {st : List Value} {K : Int32 → Int32 → List Value → Prop} (h : px_int2 st K) : ∃ x y r, st = .int y :: .int x :: r ∧ K x y r := by
  unfold px_int2 at h
  split at h
  · exact ⟨_, _, _, rfl, h⟩
  · exact h.elim
theorem px_ref_spec {st : List Value} {K : Nat → List Value → Prop} (h : px_ref st K) : ∃ x r, st = .ref x :: r ∧ K x r := by
  unfold px_ref at h
  split at h
  · exact ⟨_, _, rfl, h⟩
  · exact h.elim
theorem px_ix_spec {st : List Value} {K : Int32 → Nat → List Value → Prop} (h : px_ix st K) : ∃ i a r, st = .int i :: .ref a :: r ∧ K i a r := by
  unfold px_ix at h
  split at h
  · exact ⟨_, _, _, rfl, h⟩
  · exact h.elim
theorem px_vix_spec {st : List Value} {K : Value → Int32 → Nat → List Value → Prop} (h : px_vix st K) : ∃ v i a r, st = v :: .int i :: .ref a :: r ∧ K v i a r := by
  unfold px_vix at h
  split at h
  · exact ⟨_, _, _, _, rfl, h⟩
  · exact h.elim
theorem px_tI_eq {t : FieldType} (h : px_tI t = true) : t = .int := by
  cases t <;> first | rfl | (simp [px_tI] at h)
theorem px_tB_eq {t : FieldType} (h : px_tB t = true) : t = .byte ∨ t = .boolean := by
  cases t <;> first | exact Or.inl rfl | exact Or.inr rfl | (simp [px_tB] at h)
theorem px_tL_eq {t : FieldType} (h : px_tL t = true) : t = .long := by
  cases t <;> first | rfl | (simp [px_tL] at h)
theorem px_tD_eq {t : FieldType} (h : px_tD t = true) : t = .double := by
  cases t <;> first | rfl | (simp [px_tD] at h)
theorem px_tO_eq {t : FieldType} (h : px_tO t = true) : ∃ C, t = .object C := by
  cases t <;> first | exact ⟨_, rfl⟩ | (simp [px_tO] at h)
theorem px_eI_spec {S : pm_S} {a : Nat} {ty : FieldType → Bool} {i x : Int32} (h : px_eI S a ty i = some x) : px_el S a ty i = some (.int x) := by
  unfold px_eI at h
  split at h
  · rename_i y hy
    cases h
    exact hy
  · cases h
theorem px_eR_spec {S : pm_S} {a : Nat} {i : Int32} {x : Nat} (h : px_eR S a i = some x) : px_el S a px_tO i = some (.ref x) := by
  unfold px_eR at h
  split at h
  · rename_i y hy
    cases h
    exact hy
  · cases h
theorem px_eL_spec {S : pm_S} {a : Nat} {i : Int32} {x : Int64} (h : px_eL S a i = some x) : px_el S a px_tL i = some (.long x) := by
  unfold px_eL at h
  split at h
  · rename_i y hy
    cases h
    exact hy
  · cases h
theorem px_eD_spec {S : pm_S} {a : Nat} {i : Int32} {x : UInt64} (h : px_eD S a i = some x) : px_el S a px_tD i = some (.double x) := by
  unfold px_eD at h
  split at h
  · rename_i y hy
    cases h
    exact hy
  · cases h
theorem px_ts_at {x : Int32} {pc : Nat} {K : Nat → Prop} : ∀ {offs : List Int} {lo : Int}, px_ts x pc K lo offs → ¬ x.toInt < lo → x.toInt < lo + offs.length → ∃ off t, offs[(x.toInt - lo).toNat]? = some off ∧ px_tg pc off = some t ∧ K t
  | [], lo, _, h1, h2 => by simp at h2; omega
  | o :: r, lo, h, h1, h2 => by
    by_cases e : x.toInt = lo
    · obtain ⟨t, ht, hk⟩ := px_b_ex (h.1 e)
      exact ⟨o, t, by rw [e]; simp, ht, hk⟩
    · obtain ⟨off, t, q1, q2, q3⟩ := px_ts_at h.2 (by omega) (by rw [List.length_cons] at h2; omega)
      refine ⟨off, t, ?_, q2, q3⟩
      have e2 : (x.toInt - lo).toNat = (x.toInt - (lo + 1)).toNat + 1 := by omega
      rw [e2, List.getElem?_cons_succ]
      exact q1

end PXT
