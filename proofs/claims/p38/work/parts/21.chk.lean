/-! tables of words, checked by computing -/
theorem pt_in {i : Nat} {w : Cond} (h : lw_tbl[i]? = some w) : w ∈ lw_tbl := List.mem_of_getElem? h
def pt_w (i : Nat) (w : Cond) : Bool := decide (lw_tbl[i]? = some w) && goodWord w
theorem pt_w_in {i : Nat} {w : Cond} (h : pt_w i w = true) : w ∈ pm_W := by
  simp only [pt_w, Bool.and_eq_true, decide_eq_true_eq] at h
  exact List.mem_filter.mpr ⟨pt_in h.1, h.2⟩
def pt_uw (C : String) (T : u_T) (N : Nat) : Bool := (u_ws C T N).all fun w => decide (w ∈ lw_tbl) && goodWord w
theorem pt_uw_in {C : String} {T : u_T} {N : Nat} (h : pt_uw C T N = true) : ∀ w ∈ u_ws C T N, w ∈ pm_W := by
  intro w hw
  have h1 := List.all_eq_true.mp h w hw
  simp only [Bool.and_eq_true, decide_eq_true_eq] at h1
  exact List.mem_filter.mpr h1
theorem pt_kc : ∀ {ci : Nat} {C : String} {T : u_T} {N : Nat}, pm_cl[ci]? = some (C, T, N) → pm_kc ci C T N := by
  have u0 : pt_uw RX0 TX0 15 = true := by decide +kernel
  have u1 : pt_uw RX1 TX1 6 = true := by decide +kernel
  have u2 : pt_uw RX2 TX2 4 = true := by decide +kernel
  have u3 : pt_uw RX3 TX3 5 = true := by decide +kernel
  have u4 : pt_uw RX4 TX4 4 = true := by decide +kernel
  have u5 : pt_uw RX5 TX5 7 = true := by decide +kernel
  have u6 : pt_uw RX6 TX6 3 = true := by decide +kernel
  have u7 : pt_uw RX7 TX7 10 = true := by decide +kernel
  have u8 : pt_uw RX8 TX8 6 = true := by decide +kernel
  have u9 : pt_uw RX9 TX9 7 = true := by decide +kernel
  have u10 : pt_uw RX10 TX10 4 = true := by decide +kernel
  have u11 : pt_uw RX11 TX11 9 = true := by decide +kernel
  have u12 : pt_uw RL TL 4 = true := by decide +kernel
  intro ci C T N h
  refine ⟨h, ?_⟩
  match ci, h with
  | 0, h => cases h; exact ⟨pt_uw_in u0, ⟨_, tyX0_ok⟩, nmX0⟩
  | 1, h => cases h; exact ⟨pt_uw_in u1, ⟨_, tyX1_ok⟩, nmX1⟩
  | 2, h => cases h; exact ⟨pt_uw_in u2, ⟨_, tyX2_ok⟩, nmX2⟩
  | 3, h => cases h; exact ⟨pt_uw_in u3, ⟨_, tyX3_ok⟩, nmX3⟩
  | 4, h => cases h; exact ⟨pt_uw_in u4, ⟨_, tyX4_ok⟩, nmX4⟩
  | 5, h => cases h; exact ⟨pt_uw_in u5, ⟨_, tyX5_ok⟩, nmX5⟩
  | 6, h => cases h; exact ⟨pt_uw_in u6, ⟨_, tyX6_ok⟩, nmX6⟩
  | 7, h => cases h; exact ⟨pt_uw_in u7, ⟨_, tyX7_ok⟩, nmX7⟩
  | 8, h => cases h; exact ⟨pt_uw_in u8, ⟨_, tyX8_ok⟩, nmX8⟩
  | 9, h => cases h; exact ⟨pt_uw_in u9, ⟨_, tyX9_ok⟩, nmX9⟩
  | 10, h => cases h; exact ⟨pt_uw_in u10, ⟨_, tyX10_ok⟩, nmX10⟩
  | 11, h => cases h; exact ⟨pt_uw_in u11, ⟨_, tyX11_ok⟩, nmX11⟩
  | 12, h => cases h; exact ⟨pt_uw_in u12, ⟨_, tyL_ok⟩, nmL⟩
  | k + 13, h => simp [pm_cl, vwCl] at h
/-- fields: with the places of their words -/
def pt_fr (own : String) (e : (Nat × Nat × Nat × FieldType × Nat) × Nat) : Bool := match pm_cl[e.1.2.1]? with
  | some (_, T, N) => decide (e.1.2.2.1 < N) && decide (parseFieldDescriptor (T e.1.2.2.1).2.2.1 = some e.1.2.2.2.1) && pt_w e.2 (.fieldLink own e.1.1 (T e.1.2.2.1).1 (T e.1.2.2.1).2.1 (T e.1.2.2.1).2.2.1) &&
      (match e.1.2.2.2.2 with
        | 0 => !(T e.1.2.2.1).2.2.2 && decide (e.1.2.1 < 13)
        | 1 => decide (e.1.2.1 < 13) && (T e.1.2.2.1).2.2.2 && decide ((T e.1.2.2.1).1 = own)
        | _ => true)
  | none => decide (e.1.2.1 = 13) && decide (e.1.2.2.2.2 = 2) && ((decide (e.1.2.2.1 = 0) && pt_w e.2 (.fieldLink own e.1.1 "java/lang/String" "value" "[B")) || (decide (e.1.2.2.1 = 1) && pt_w e.2 (.fieldLink own e.1.1 "java/lang/String" "coder" "B")))
theorem pt_fr_ok {own : String} {t : List ((Nat × Nat × Nat × FieldType × Nat) × Nat)} (h : t.all (pt_fr own) = true) : ∀ e ∈ t.map Prod.fst, pm_fr own e.1 e.2.1 e.2.2.1 e.2.2.2.1 ∧ (e.2.2.2.2 = 0 → ∀ ini, pm_fi own e.2.1 e.2.2.1 ini) ∧ (e.2.2.2.2 = 1 → pm_fi own e.2.1 e.2.2.1 true) := by
  intro e he
  obtain ⟨x, hx, rfl⟩ := List.mem_map.mp he
  have h1 := List.all_eq_true.mp h x hx
  obtain ⟨⟨idx, ci, k, ty, w⟩, i⟩ := x
  unfold pt_fr at h1
  dsimp only at h1 ⊢
  split at h1
  · rename_i C T N hc
    simp only [Bool.and_eq_true, decide_eq_true_eq] at h1
    obtain ⟨⟨⟨a1, a2⟩, a3⟩, a4⟩ := h1
    refine ⟨Or.inl ⟨C, T, N, pt_kc hc, a1, a2, pt_w_in a3⟩, fun e ini => ?_, fun e => ?_⟩
    · subst e
      simp only [Bool.and_eq_true, decide_eq_true_eq, Bool.not_eq_true'] at a4
      exact ⟨a4.2, C, T, N, hc, Or.inl a4.1⟩
    · subst e
      simp only [Bool.and_eq_true, decide_eq_true_eq] at a4
      exact ⟨a4.1.1, C, T, N, hc, Or.inr ⟨rfl, a4.1.2, a4.2⟩⟩
  · simp only [Bool.and_eq_true, Bool.or_eq_true, decide_eq_true_eq] at h1
    obtain ⟨⟨rfl, rfl⟩, a1⟩ := h1
    refine ⟨Or.inr ⟨rfl, ?_⟩, (fun e => by cases e), (fun e => by cases e)⟩
    rcases a1 with ⟨b1, b2⟩ | ⟨b1, b2⟩
    · exact Or.inl ⟨b1, pt_w_in b2⟩
    · exact Or.inr ⟨b1, pt_w_in b2⟩
def pt_na (y : MethodName) (n : Nat) : Bool := decide (y.cls ≠ "java/lang/invoke/MethodHandle") && decide (y.cls ≠ "java/lang/invoke/VarHandle") && decide ((parseMethodDescriptor y.desc).map (fun d => d.parameters.length) = some n)
theorem pt_na_ok {y : MethodName} {n : Nat} (h : pt_na y n = true) : pm_na y n := by
  simp only [pt_na, Bool.and_eq_true, decide_eq_true_eq] at h
  exact ⟨h.1.1, h.1.2, h.2⟩
/-- methods: with the places of their words, and a nest's host -/
def pt_mr (own : String) (e : (Nat × Nat × Nat × MethodName × Nat × Nat × Bool) × Nat × Nat × Nat × String) : Bool := match e.1.2.1 with
  | 0 => pt_w e.2.1 (.methodLink own e.1.1 e.1.2.2.2.1) && pt_w e.2.2.1 (.instanceMethod e.1.2.2.2.1) && pt_w e.2.2.2.1 (.selects e.1.2.2.2.1.cls e.1.2.2.2.1 e.1.2.2.2.1) && pt_na e.1.2.2.2.1 e.1.2.2.2.2.1 &&
      (match pm_cnm e.1.2.2.1 with
        | some q => decide (q = e.1.2.2.2.1.cls)
        | none => false)
  | 1 => (pt_w e.2.1 (.methodLink own e.1.1 e.1.2.2.2.1) || decide (lw_tbl[e.2.1]? = some (.methodLinkNest own e.1.1 e.1.2.2.2.1 e.2.2.2.2))) && pt_w e.2.2.1 (.static e.1.2.2.2.1) && pt_na e.1.2.2.2.1 e.1.2.2.2.2.1
  | 2 => (pt_w e.2.1 (.methodLink own e.1.1 e.1.2.2.2.1) || decide (lw_tbl[e.2.1]? = some (.methodLinkNest own e.1.1 e.1.2.2.2.1 e.2.2.2.2))) && pt_w e.2.2.1 (.instanceMethod e.1.2.2.2.1) && decide (e.1.2.2.2.1.name = "<init>") && pt_na e.1.2.2.2.1 e.1.2.2.2.2.1
  | 3 => pt_w e.2.1 (.methodLink own e.1.1 objectInit) && pt_w e.2.2.1 (.instanceMethod objectInit) && pt_w e.2.2.2.1 (.code objectInit ⟨#[0xb1]⟩ 1 none) && decide (e.1.2.2.2.2.1 = 0)
  | 4 => pt_w e.2.1 (.methodLink own e.1.1 e.1.2.2.2.1) && pt_w e.2.2.1 (.static e.1.2.2.2.1) && pt_na e.1.2.2.2.1 e.1.2.2.2.2.1
  | _ => false
theorem pt_mr_ok {own : String} {t : List ((Nat × Nat × Nat × MethodName × Nat × Nat × Bool) × Nat × Nat × Nat × String)} (h : t.all (pt_mr own) = true) : ∀ e ∈ t.map Prod.fst, (e.2.1 = 0 → pm_iv own e.1 e.2.2.2.1 e.2.2.2.2.1 ∧ ∃ q, pm_cnm e.2.2.1 = some q ∧ q = e.2.2.2.1.cls) ∧ (e.2.1 = 1 → pm_is own e.1 e.2.2.2.1 e.2.2.2.2.1) ∧ (e.2.1 = 2 → pm_ii own e.1 e.2.2.2.1 e.2.2.2.2.1) ∧ (e.2.1 = 3 → pm_io own e.1 ∧ e.2.2.2.2.1 = 0) ∧ (e.2.1 = 4 → pm_is own e.1 e.2.2.2.1 e.2.2.2.2.1 ∧ Cond.methodLink own e.1 e.2.2.2.1 ∈ pm_W) := by
  intro e he
  obtain ⟨x, hx, rfl⟩ := List.mem_map.mp he
  have h1 := List.all_eq_true.mp h x hx
  obtain ⟨⟨idx, kd, ci, y, n, rc, thr⟩, i1, i2, i3, host⟩ := x
  unfold pt_mr at h1
  dsimp only at h1 ⊢
  refine ⟨fun e => ?_, fun e => ?_, fun e => ?_, fun e => ?_, fun e => ?_⟩
  · subst e
    simp only [Bool.and_eq_true] at h1
    obtain ⟨⟨⟨⟨a1, a2⟩, a3⟩, a4⟩, a5⟩ := h1
    refine ⟨⟨pt_w_in a1, pt_w_in a2, pt_w_in a3, pt_na_ok a4⟩, ?_⟩
    split at a5
    · rename_i q hq
      exact ⟨q, hq, of_decide_eq_true a5⟩
    · cases a5
  · subst e
    simp only [Bool.and_eq_true, Bool.or_eq_true, decide_eq_true_eq] at h1
    refine ⟨?_, pt_w_in h1.1.2, pt_na_ok h1.2⟩
    rcases h1.1.1 with a1 | a1
    · exact Or.inl (pt_w_in a1)
    · exact Or.inr ⟨host, pt_in a1⟩
  · subst e
    simp only [Bool.and_eq_true, Bool.or_eq_true, decide_eq_true_eq] at h1
    obtain ⟨⟨⟨a1, a2⟩, a3⟩, a4⟩ := h1
    refine ⟨?_, pt_w_in a2, a3, pt_na_ok a4⟩
    rcases a1 with a1 | a1
    · exact Or.inl (pt_w_in a1)
    · exact Or.inr ⟨host, pt_in a1⟩
  · subst e
    simp only [Bool.and_eq_true, decide_eq_true_eq] at h1
    exact ⟨⟨pt_w_in h1.1.1.1, pt_w_in h1.1.1.2, pt_w_in h1.1.2⟩, h1.2⟩
  · subst e
    simp only [Bool.and_eq_true] at h1
    exact ⟨⟨Or.inl (pt_w_in h1.1.1), pt_w_in h1.1.2, pt_na_ok h1.2⟩, pt_w_in h1.1.1⟩
def pt_cr (own : String) (e : (Nat × (Nat ⊕ (Nat × String))) × Nat × Nat × Nat × Nat) : Bool := match e.1.2 with
  | .inl ci => decide (ci < 13) && (match pm_cl[ci]? with
    | some (C, T, N) => decide (N = (px_cn ci).1) && (List.range N).all (fun k => decide (parseFieldDescriptor (T k).2.2.1 = some ((px_cn ci).2 k))) && pt_w e.2.1 (.classLink own e.1.1 C) && pt_w e.2.2.1 (.instantiable C N) && pt_w e.2.2.2.1 (.initialized C) &&
        (match px_nm ci with
          | some C' => decide (C' = C) && decide (lw_tbl[e.2.2.2.2]? = some (.arrayOver (.object C)))
          | none => true)
    | none => false)
  | .inr (ic, E) => pt_w e.2.1 (.classLink own e.1.1 E) && pt_w e.2.2.1 (.initialized E) && (vx_atS own ic E pm_ns).all (fun w => decide (w ∈ lw_tbl) && (goodWord w || pm_mv w)) && Bundle.fit E && decide (E ∈ [pm_xI, pm_xA, pm_xB])
theorem pt_cr_ok {own : String} {t : List ((Nat × (Nat ⊕ (Nat × String))) × Nat × Nat × Nat × Nat)} (h : t.all (pt_cr own) = true) : ∀ e ∈ t.map Prod.fst, (∀ ci, e.2 = .inl ci → (∃ (C : String) (T : u_T), ci < 13 ∧ pm_kc ci C T (px_cn ci).1 ∧ (∀ k, k < (px_cn ci).1 → parseFieldDescriptor (T k).2.2.1 = some ((px_cn ci).2 k)) ∧ Cond.classLink own e.1 C ∈ pm_W ∧ Cond.instantiable C (px_cn ci).1 ∈ pm_W ∧ Cond.initialized C ∈ pm_W ∧ (∀ C', px_nm ci = some C' → C' = C ∧ Cond.arrayOver (.object C) ∈ lw_tbl))) ∧ (∀ ic E, e.2 = .inr (ic, E) → px_trx own e.1 ic E) := by
  intro e he
  obtain ⟨x, hx, rfl⟩ := List.mem_map.mp he
  have h1 := List.all_eq_true.mp h x hx
  obtain ⟨⟨idx, z⟩, i1, i2, i3, i4⟩ := x
  unfold pt_cr at h1
  dsimp only at h1 ⊢
  refine ⟨fun ci e => ?_, fun ic E e => ?_⟩
  · subst e
    dsimp only at h1
    simp only [Bool.and_eq_true, decide_eq_true_eq] at h1
    obtain ⟨b1, h1⟩ := h1
    split at h1
    · rename_i C T N hc
      simp only [Bool.and_eq_true, decide_eq_true_eq] at h1
      obtain ⟨⟨⟨⟨⟨a1, a2⟩, a3⟩, a4⟩, a5⟩, a6⟩ := h1
      subst a1
      refine ⟨C, T, b1, pt_kc hc, fun k hk => of_decide_eq_true (List.all_eq_true.mp a2 k (List.mem_range.mpr hk)), pt_w_in a3, pt_w_in a4, pt_w_in a5, fun C' hC => ?_⟩
      rw [hC] at a6
      simp only [Bool.and_eq_true, decide_eq_true_eq] at a6
      exact ⟨a6.1, pt_in a6.2⟩
    · cases h1
  · subst e
    dsimp only at h1
    simp only [Bool.and_eq_true] at h1
    obtain ⟨⟨⟨⟨a1, a2⟩, a3⟩, a4⟩, a5⟩ := h1
    refine ⟨pt_w_in a1, pt_w_in a2, fun w hw => ?_, fun w hw => ?_, a4, of_decide_eq_true a5⟩
    · have g := List.all_eq_true.mp a3 w hw
      simp only [Bool.and_eq_true, decide_eq_true_eq] at g
      exact g.1
    · have g := List.all_eq_true.mp a3 w hw
      simp only [Bool.and_eq_true] at g
      exact g.2
def pt_lr (own : String) (e : (Nat × (Option Int32 ⊕ Int64)) × Nat × String) : Bool := match e.1.2 with
  | .inl (some v) => pt_w e.2.1 (.constant own e.1.1 v)
  | .inl none => decide (lw_tbl[e.2.1]? = some (.stringRef own e.1.1 e.2.2))
  | .inr v => pt_w e.2.1 (.constantLong own e.1.1 v)
theorem pt_lr_ok {own : String} {t : List ((Nat × (Option Int32 ⊕ Int64)) × Nat × String)} (h : t.all (pt_lr own) = true) : ∀ e ∈ t.map Prod.fst, (∀ v, e.2 = .inl (some v) → Cond.constant own e.1 v ∈ pm_W) ∧ (e.2 = .inl none → ∃ tx, Cond.stringRef own e.1 tx ∈ lw_tbl) ∧ (∀ v, e.2 = .inr v → Cond.constantLong own e.1 v ∈ pm_W) := by
  intro e he
  obtain ⟨x, hx, rfl⟩ := List.mem_map.mp he
  have h1 := List.all_eq_true.mp h x hx
  obtain ⟨⟨idx, z⟩, i, tx⟩ := x
  unfold pt_lr at h1
  dsimp only at h1 ⊢
  refine ⟨fun v e => ?_, fun e => ?_, fun v e => ?_⟩
  · subst e
    exact pt_w_in h1
  · subst e
    exact ⟨tx, pt_in (of_decide_eq_true h1)⟩
  · subst e
    exact pt_w_in h1
theorem pt_arr : px_arr := by
  intro t ht
  have h : pt_w 142 (.arrayClass .int) = true ∧ pt_w 101 (.arrayClass .byte) = true ∧ pt_w 163 (.arrayClass .boolean) = true := by decide +kernel
  obtain ⟨h1, h2, h3⟩ := h
  cases t
  · exact pt_w_in h3
  · cases ht
  · cases ht
  · cases ht
  · exact pt_w_in h2
  · cases ht
  · exact pt_w_in h1
  · cases ht
/-- a method, by the places of its words -/
def pt_m (y : MethodName) (b : ByteArray) (maxL : Nat) (ret : Option FieldType) (i j : Nat) : Bool := pt_w i (.code y b maxL ret) && plainName y.cls && pt_w j (.initialized y.cls) && decide (maxL ≤ 40)
theorem pt_m_ok {y : MethodName} {b : ByteArray} {maxL : Nat} {ret : Option FieldType} (i j : Nat) (h : pt_m y b maxL ret i j = true) : pm_mt y b maxL ret := by
  simp only [pt_m, Bool.and_eq_true, decide_eq_true_eq] at h
  exact ⟨pt_w_in h.1.1.1, h.1.1.2, pt_w_in h.1.2, h.2⟩
/-- a method's run out of its frame's -/
theorem px_run {G : pm_G} {d : Nat} {fl : Bool} {y : MethodName} {b : ByteArray} {maxL : Nat} {ret : Option FieldType} {as : List Value} {S : pm_S} {r : pm_R} {S' : pm_S} (hm : pm_mt y b maxL ret) (hl : as.length ≤ maxL) (hd : as.all pm_dp = true)
    (h : px_W G (pm_run G d) y.cls (decide (y.name = "<init>")) b ret (fun r1 S1 => r1 = r ∧ S1 = S') 0 (pm_ent as maxL) [] S) : pm_run G (d + 1) fl y as S r S' := by
  obtain ⟨n, r1, S1, hg, rfl, rfl⟩ := h
  exact Or.inl ⟨b, maxL, ret, hm, hl, fun v hv => List.all_eq_true.mp hd v hv, n, hg⟩
