/-! THE WORLD AT THE LAW'S ENTRY -/
section WLD
variable {s : State} {b L fr : Nat} {xs : Nat → Int32} {D : va_G} {fv : Value}
def lwH (s : State) (fr : Nat) : fm_H := (fun a => if a < s.heap.size then loH s a else gKd (a - s.heap.size), fun a k => if a < s.heap.size then vOf s a else s.heap.size + gRf (a - s.heap.size) k, fun o i => if o = "SIOOBE_FORMATTER" then fr else tAd s o i)
def lwM (s : State) : fm_M := (fun a k => if a < s.heap.size then loI s a k else gIn (a - s.heap.size) k, fun a k => s.heap.size + gVf (a - s.heap.size) k, fun _ _ => 0)
theorem lw_shf : shf (lwH s fr) gH (lwM s) gM s.heap.size := by
  refine ⟨fun j => ?_, fun j k => ?_, fun j k => ?_, fun j k => ?_, fun j k => rfl⟩
  · show (if s.heap.size + j < s.heap.size then loH s (s.heap.size + j) else gKd (s.heap.size + j - s.heap.size)) = gKd j
    rw [if_neg (by omega), Nat.add_sub_cancel_left]
  · show (if s.heap.size + j < s.heap.size then vOf s (s.heap.size + j) else s.heap.size + gRf (s.heap.size + j - s.heap.size) k) = s.heap.size + gRf j k
    rw [if_neg (by omega), Nat.add_sub_cancel_left]
  · show s.heap.size + gVf (s.heap.size + j - s.heap.size) k = s.heap.size + gVf j k
    rw [Nat.add_sub_cancel_left]
  · show (if s.heap.size + j < s.heap.size then loI s (s.heap.size + j) k else gIn (s.heap.size + j - s.heap.size) k) = gIn j k
    rw [if_neg (by omega), Nat.add_sub_cancel_left]
theorem lw_Dk : hDk (lwH s fr) (lwM s) s.heap.size := sh_Dk (j := 0) lw_shf g_Dk
theorem lw_Mo : hMo (lwH s fr) (lwM s) (s.heap.size + 661) := sh_Mo (j := 661) lw_shf g_Mo
theorem lwH_lo {a : Nat} (h : a < s.heap.size) : (lwH s fr).1 a = loH s a := if_pos h
theorem lwH_hi (j : Nat) : (lwH s fr).1 (s.heap.size + j) = gKd j := lw_shf.1 j
theorem loH_13 {a ci n : Nat} (h : loH s a = some (.inl ci, n)) : ci = 13 ∧ isTd s a = true := by
  unfold loH at h
  cases h1 : isTd s a with
  | true =>
    rw [h1] at h
    cases h
    exact ⟨rfl, rfl⟩
  | false =>
    rw [h1] at h
    cases h2 : isVd s a with
    | true =>
      rw [h2] at h
      cases h
    | false =>
      rw [h2] at h
      cases h
theorem lw_fok (h : txs s) : fm_ok (lwH s fr) := by
  intro a ci k ⟨n, hn⟩
  by_cases ha : a < s.heap.size
  · rw [lwH_lo ha] at hn
    obtain ⟨rfl, ht⟩ := loH_13 hn
    obtain ⟨e, he, rfl⟩ := isTd_t ht
    match k with
    | 0 =>
      show fm_ia (lwH s fr) ((lwH s fr).2.1 (tAd s e.1 e.2.1) 0) .byte false
      have e1 : (lwH s fr).2.1 (tAd s e.1 e.2.1) 0 = vOf s (tAd s e.1 e.2.1) := if_pos ha
      rw [e1]
      have e2 := (lwH_lo (fr := fr) (tx_lt h he).2).trans (loH_v h he)
      unfold fm_ia fm_sz
      rw [e2]
    | k + 1 => trivial
  · obtain ⟨j, rfl⟩ : ∃ j, a = s.heap.size + j := ⟨a - s.heap.size, by omega⟩
    rw [lwH_hi] at hn
    have hc := gKd_cl hn
    have hj : j < 673 := by
      by_cases e : j < 673
      · exact e
      · rw [gKd_hi (by omega)] at hn
        cases hn
    by_cases hk : k < 29
    · have h1 := List.all_eq_true.mp gOk_all j (List.mem_range.mpr hj)
      unfold gOk at h1
      rw [hn] at h1
      have h2 := List.all_eq_true.mp h1 k (List.mem_range.mpr hk)
      have e2 : (lwH s fr).2.1 (s.heap.size + j) k = s.heap.size + gRf j k := lw_shf.2.1 j k
      rw [e2]
      cases hf : fm_ft ci k with
      | none => trivial
      | some t =>
        rw [hf] at h2
        cases t with
        | inl cj =>
          show fm_is (lwH s fr) (s.heap.size + gRf j k) cj
          dsimp only at h2
          split at h2
          · rename_i c n9 hg
            have e9 := Nat.eq_of_beq_eq_true h2
            subst e9
            exact ⟨n9, (lwH_hi _).trans hg⟩
          · cases h2
        | inr t =>
          show fm_ia (lwH s fr) (s.heap.size + gRf j k) t.1 t.2
          dsimp only at h2
          split at h2
          · rename_i t' n9 hg
            have e9 := of_decide_eq_true h2
            subst e9
            unfold fm_ia fm_sz
            rw [(lwH_hi (fr := fr) _).trans hg]
          · cases h2
    · rw [ft_hi hc (by omega)]
      trivial
def lwG (D : va_G) (s : State) (fv : Value) (fr : Nat) : pm_G := (D, s.heap.size, fun _ n => if n = "COMPACT_STRINGS" then .int 1 else fv, (lwH s fr).2.2)
theorem tXS_n : ∀ e ∈ tXS, e.1 ≠ "SIOOBE_FORMATTER" := by decide +kernel
theorem lw_ad {e : String × Nat × Nat × List Nat} (he : e ∈ tXS) : (lwH s fr).2.2 e.1 e.2.1 = tAd s e.1 e.2.1 := if_neg (tXS_n e he)
theorem lwG_c (C : String) : (lwG D s fv fr).2.2.1 C "COMPACT_STRINGS" = .int 1 := by
  show (if "COMPACT_STRINGS" = "COMPACT_STRINGS" then Value.int 1 else fv) = Value.int 1
  exact if_pos rfl
theorem lwG_f (C : String) : (lwG D s fv fr).2.2.1 C "SIOOBE_FORMATTER" = fv := by
  show (if "SIOOBE_FORMATTER" = "COMPACT_STRINGS" then Value.int 1 else fv) = fv
  exact if_neg (by decide)
theorem lw_fE (h : txs s) (hfv : fv = .ref fr ∨ fv = .null) : fm_E (lwG D s fv fr) (lwH s fr) := by
  refine ⟨lw_fok h, rfl, fun o i tx hw => ?_, lwG_c _, ?_⟩
  · obtain ⟨e, he, rfl, rfl⟩ := tCov_in hw
    rw [lw_ad he]
    exact ⟨2, (lwH_lo (tx_lt h he).1).trans (loH_t h he)⟩
  · rw [lwG_f, show (lwH s fr).2.2 "SIOOBE_FORMATTER" 0 = fr from by
      show (if "SIOOBE_FORMATTER" = "SIOOBE_FORMATTER" then fr else tAd s "SIOOBE_FORMATTER" 0) = fr
      exact if_pos rfl]
    exact hfv
theorem tx_isT (h : txs s) {e : String × Nat × Nat × List Nat} (he : e ∈ tXS) (hl : e.2.2.2.length ≤ 11) (hr : ∀ k, k < e.2.2.2.length → 97 ≤ e.2.2.2.getD k 0 ∧ e.2.2.2.getD k 0 ≤ 122) {m : fm_M} (hm : ∀ a k, a < s.heap.size → m.1 a k = (lwM s).1 a k) : isTx (lwH s fr) m s.heap.size ((lwH s fr).2.2 e.1 e.2.1) e.2.2.2 := by
  obtain ⟨l1, l2⟩ := tx_lt h he
  have e1 : (lwH s fr).2.1 (tAd s e.1 e.2.1) 0 = vOf s (tAd s e.1 e.2.1) := if_pos l1
  have e2 := (lwH_lo (fr := fr) l2).trans (loH_v h he)
  rw [lw_ad he]
  refine ⟨⟨?_, ?_, hl, fun k hk => ⟨?_, hr k hk⟩⟩, l1, by rw [e1]; exact l2⟩
  · rw [e1]
    unfold fm_sz
    rw [e2]
  · rw [hm _ _ l1]
    show (if tAd s e.1 e.2.1 < s.heap.size then loI s (tAd s e.1 e.2.1) 1 else _) = 0
    rw [if_pos l1]
    unfold loI
    rw [isTd_i he]
    rfl
  · rw [e1, hm _ _ l2]
    show (if vOf s (tAd s e.1 e.2.1) < s.heap.size then loI s (vOf s (tAd s e.1 e.2.1)) k else _) = nn _
    rw [if_pos l2, loI_v h he hk]
    exact ii_ofNat _
theorem lw_wd (h : txs s) : wdL (lwH s fr) (lwM s).1 s.heap.size := by
  intro m hm
  have key : ∀ (o : String) (i p : Nat) (u : List Nat), (o, i, p, u) ∈ tXS → u.length ≤ 11 → (∀ k, k < u.length → 97 ≤ u.getD k 0 ∧ u.getD k 0 ≤ 122) → isTx (lwH s fr) m s.heap.size ((lwH s fr).2.2 o i) u := fun o i p u he hl hr => tx_isT (e := (o, i, p, u)) h he hl hr hm
  exact ⟨⟨key RX6 36 56 uN (by decide +kernel) (by decide) (by decide), key RX6 46 64 uLk (by decide +kernel) (by decide) (by decide), key RX6 51 72 uCi (by decide +kernel) (by decide) (by decide), key RX6 56 83 uSe (by decide +kernel) (by decide) (by decide)⟩,
    ⟨key RX12 173 795 uN (by decide +kernel) (by decide) (by decide), key RX12 178 804 uLk (by decide +kernel) (by decide) (by decide), key RX12 183 813 uCi (by decide +kernel) (by decide) (by decide), key RX12 167 825 uSe (by decide +kernel) (by decide) (by decide)⟩⟩
/-- the script is none of the texts -/
theorem lw_ns (h : txs s) (hX : va_X b L xs s s.heap) : loH s b = none := by
  obtain ⟨scr, h1, h2, h3, h4, h5⟩ := hX
  have t1 : isTd s b = false := by
    cases hb : isTd s b with
    | false => rfl
    | true =>
      obtain ⟨e, he, rfl⟩ := isTd_t hb
      obtain ⟨cT, cV, e1, e2, ⟨-, -, -, ⟨cf, k, i, g, x1, x2, x3⟩, -⟩, -⟩ := (h e he).2
      cases h1.symm.trans e1
      have hl := (Array.getElem?_eq_some_iff.mp x3).1
      have h9 := h5 g.slot (by omega)
      rw [x3] at h9
      cases h9
  have t2 : isVd s b = false := by
    cases hb : isVd s b with
    | false => rfl
    | true =>
      obtain ⟨e, he, h9⟩ := isVd_t hb
      obtain ⟨cT, cV, e1, e2, -, ⟨-, k, k1, comp, k2⟩, -⟩ := (h e he).2
      rw [h9] at e2
      cases h1.symm.trans e2
      obtain ⟨-, k', k1', comp', k2'⟩ := h2
      cases k1.symm.trans k1'
      rw [k2] at k2'
      cases k2'
  unfold loH
  rw [t1, t2]
  rfl
theorem lw_LW (h : txs s) (hX : va_X b L xs s s.heap) (hb : b < s.heap.size) (hfv : fv = .ref fr ∨ fv = .null) : LW (lwG D s fv fr) (lwH s fr) (lwM s).1 s.heap.size (s.heap.size + 661) (s.heap.size + 673) (s.heap.size + 674) b L :=
  ⟨lw_fE h hfv, kX_h lw_Dk, kM_h lw_Mo, Nat.le_refl _, lw_wd h, (lwH_hi 673).trans (gKd_hi (by omega)), (lwH_hi 674).trans (gKd_hi (by omega)), (lwH_lo hb).trans (lw_ns h hX), by omega, by omega, by omega⟩
theorem on_mv : ∀ w, pm_mv w = true → w.onTables = true := by
  intro w hw
  cases w <;> first | rfl | (simp [pm_mv] at hw)
theorem cl_inst : ∀ r ∈ pm_cl, Cond.instantiable r.1 r.2.2 ∈ lw_tbl := by
  have h : pm_cl.all (fun r => decide (Cond.instantiable r.1 r.2.2 ∈ lw_tbl)) = true := by decide +kernel
  exact fun r hr => of_decide_eq_true (List.all_eq_true.mp h r hr)
theorem lw_K (hts : ∀ w ∈ lw_tbl, w.before #[Value.ref b] s = true) : ∃ D : va_G, va_K D pm_cl [] s := by
  have h0 : ∀ c : Nat, ∃ q : ClassId × (Nat → Nat), ∀ r, pm_cl[c]? = some r → u_Kn s r.1 r.2.1 r.2.2 q.1 q.2 := by
    intro c
    cases hc : pm_cl[c]? with
    | none => exact ⟨(0, fun _ => 0), fun r hr => by cases hr⟩
    | some r =>
      obtain ⟨cC, iS, h⟩ := u_known (ws := pm_W) (fun w hw => hts w (List.mem_filter.mp hw).1) (pt_kc hc).2.1 (hts _ (cl_inst r (List.mem_of_getElem? hc)))
      exact ⟨(cC, iS), fun r' hr' => by cases hr'; exact h⟩
  obtain ⟨f, hf⟩ := Classical.axiomOfChoice h0
  exact ⟨(fun c => (f c).1, fun c => (f c).2), fun c q hq => hf c q hq, fun k q hk => by cases hk⟩
set_option maxRecDepth 100000 in
theorem lw_T (hts : ∀ w ∈ lw_tbl, w.before #[Value.ref b] s = true) (hgv : tGv.before #[Value.ref b] s = true) (hK : va_K D pm_cl [] s) (hfv : (Term.static "jdk/internal/util/Preconditions" "SIOOBE_FORMATTER" "Ljava/util/function/BiFunction;").eval #[Value.ref b] s none [] s = some fv) (h : txs s) : pm_T (lwG D s fv fr) s s.heap := by
  have hs := flat_of_before _ hgv
  have hA : ∀ a : Nat, a < s.heap.size → ¬ pm_A (lwG D s fv fr) a := fun a ha => Nat.not_le.mpr ha
  refine ⟨hK, Nat.le_refl _, ⟨?_, ?_⟩, ⟨?_, ?_⟩, fun o tx i hw => ?_, fun w hw hm => va_Nw.of (on_mv w hm) (hts w hw), fun C hC => va_AO.of (hts _ hC), ?_⟩
  · rw [lwG_c]
    exact va_Zof (args := #[Value.ref b]) (hts _ (pt_in (i := 653) (by decide +kernel))) (hts _ (pt_in (i := 135) (by decide +kernel))) (va_eqt (hs _ (by decide +kernel))) hA
  · rw [lwG_f]
    exact va_Zof (args := #[Value.ref b]) (hts _ (pt_in (i := 669) (by decide +kernel))) (hts _ (pt_in (i := 137) (by decide +kernel))) hfv hA
  · exact vx_Zqof (args := #[Value.ref b]) (hts _ (pt_in (i := 986) (by decide +kernel))) (hts _ (pt_in (i := 129) (by decide +kernel))) (hs _ (by decide +kernel)) hA
  · exact vx_Zqof (args := #[Value.ref b]) (hts _ (pt_in (i := 988) (by decide +kernel))) (hts _ (pt_in (i := 129) (by decide +kernel))) (hs _ (by decide +kernel)) hA
  · obtain ⟨e, he, rfl, rfl⟩ := tCov_in hw
    show vk_R _ _ _ ((lwH s fr).2.2 e.1 e.2.1) s
    rw [lw_ad he]
    exact ⟨hts _ hw, (h e he).1⟩
  · intro E hE F hF hne
    simp only [List.mem_cons, List.not_mem_nil, or_false] at hE hF
    rcases hE with rfl | rfl | rfl <;> rcases hF with rfl | rfl | rfl <;> first | exact absurd rfl hne | exact va_Nc.of (args := #[Value.ref b]) (hs _ (by decide +kernel))
theorem lw_fv (hgv : tGv.before #[Value.ref b] s = true) : ∃ (fv : Value) (fr : Nat), (Term.static "jdk/internal/util/Preconditions" "SIOOBE_FORMATTER" "Ljava/util/function/BiFunction;").eval #[Value.ref b] s none [] s = some fv ∧ (fv = .ref fr ∨ fv = .null) := by
  have h := flat_of_before _ hgv (Cond.isRef (.static "jdk/internal/util/Preconditions" "SIOOBE_FORMATTER" "Ljava/util/function/BiFunction;")) (by decide +kernel)
  cases hv : (Term.static "jdk/internal/util/Preconditions" "SIOOBE_FORMATTER" "Ljava/util/function/BiFunction;").eval #[Value.ref b] s none [] s with
  | none => simp [Cond.before, Cond.holds, Cond.value, hv] at h
  | some v =>
    cases v with
    | ref t => exact ⟨_, t, rfl, Or.inl rfl⟩
    | null => exact ⟨_, 0, rfl, Or.inr rfl⟩
    | _ => simp [Cond.before, Cond.holds, Cond.value, hv] at h
/-! the memory -/
theorem pm_aS_cg {U : State} {f g : Nat → Value} {cell : Cell} (h : pm_aS U f cell) (h0 : g 0 = f 0) (h1 : g 1 = f 1) : pm_aS U g cell := by
  obtain ⟨a1, a2, a3, ⟨c1, k1, i1, f1, b1, b2, b3⟩, ⟨c2, k2, i2, f2, d1, d2, d3⟩⟩ := h
  exact ⟨a1, a2, a3, ⟨c1, k1, i1, f1, b1, b2, by rw [h0]; exact b3⟩, ⟨c2, k2, i2, f2, d1, d2, by rw [h1]; exact d3⟩⟩
theorem pm_at_cg {G : pm_G} {U : State} {tg : Nat ⊕ (FieldType × Bool)} {n : Nat} {f g : Nat → Value} {cell : Cell} (h : pm_at G U (tg, n, f) cell) (hfg : ∀ k, k < n → f k = g k) (h13 : ∀ ci, tg = .inl ci → ci < 13) : pm_at G U (tg, n, g) cell := by
  rcases tg with ci | ⟨ty, w⟩
  · rcases h with ⟨r, h1, h2, h3, h4, h5⟩ | ⟨h1, -⟩
    · exact Or.inl ⟨r, h1, h2, h3, h4, fun k hk => by rw [← hfg k hk]; exact h5 k hk⟩
    · have := h13 ci rfl
      omega
  · obtain ⟨q1, q2, q3, q4, q5⟩ := h
    exact ⟨q1, q2, q3, q4, fun k hk => by rw [← hfg k hk]; exact q5 k hk⟩
/-- what lies below, and the script -/
def loM (s : State) (fr b L : Nat) (xs : Nat → Int32) : pm_M := fun a => if a < s.heap.size then exM (lwX b (s.heap.size + 673) (s.heap.size + 674) L xs (fun _ => .long 0) (fun _ => .double 0)) (fm_c (lwH s fr) (lwM s)) a else none
theorem lw_ok0 {G : pm_G} (h : txs s) (hX : va_X b L xs s s.heap) : pm_ok G s (loM s fr b L xs) s.heap := by
  intro a ce hce
  unfold loM at hce
  by_cases ha : a < s.heap.size
  · rw [if_pos ha] at hce
    have hH : (lwH s fr).1 a = loH s a := lwH_lo ha
    cases h1 : isTd s a with
    | true =>
      obtain ⟨e, he, rfl⟩ := isTd_t h1
      rw [ex_at (fm_c_at (hH.trans (loH_t h he)))] at hce
      cases hce
      obtain ⟨cT, cV, e1, e2, e3, -⟩ := (h e he).2
      refine ⟨⟨cT, e1, Or.inr ⟨rfl, pm_aS_cg e3 ?_ ?_⟩⟩, (fun hw => by cases hw)⟩
      · show Value.ref ((lwH s fr).2.1 (tAd s e.1 e.2.1) 0) = _
        rw [show (lwH s fr).2.1 (tAd s e.1 e.2.1) 0 = vOf s (tAd s e.1 e.2.1) from if_pos ha]
        rfl
      · show Value.int ((lwM s).1 (tAd s e.1 e.2.1) 1) = .int 0
        rw [show (lwM s).1 (tAd s e.1 e.2.1) 1 = loI s (tAd s e.1 e.2.1) 1 from if_pos ha]
        unfold loI
        rw [h1]
        rfl
    | false =>
      cases h2 : isVd s a with
      | true =>
        obtain ⟨e, he, rfl⟩ := isVd_t h2
        rw [ex_at (fm_c_at (hH.trans (loH_v h he)))] at hce
        cases hce
        obtain ⟨cT, cV, e1, e2, e3, e4, e5, e6, e7, e8, -⟩ := (h e he).2
        refine ⟨⟨cV, e2, e4, e5, (fun hw => by cases hw), ⟨Nat.le_of_eq e6.symm, by rw [e6]⟩, fun k hk => ?_⟩, (fun hw => by cases hw)⟩
        rw [e8 k hk]
        show _ = some (Value.int ((lwM s).1 (vOf s (tAd s e.1 e.2.1)) k))
        rw [show (lwM s).1 (vOf s (tAd s e.1 e.2.1)) k = loI s (vOf s (tAd s e.1 e.2.1)) k from if_pos ha, loI_v h he hk]
      | false =>
        have hn : loH s a = none := by
          unfold loH
          rw [h1, h2]
          rfl
        rw [ex_none (fm_c_n (hH.trans hn))] at hce
        unfold lwX at hce
        rw [if_neg (by omega), if_neg (by omega)] at hce
        by_cases e : a = b
        · subst e
          rw [if_pos rfl] at hce
          cases hce
          obtain ⟨scr, g1, g2, g3, g4, g5⟩ := hX
          exact ⟨⟨scr, g1, g2, g3, (fun hw => by cases hw), ⟨Nat.le_of_eq g4.symm, by rw [g4]⟩, g5⟩, (fun hw => by cases hw)⟩
        · rw [if_neg e] at hce
          cases hce
  · rw [if_neg ha] at hce
    cases hce
end WLD
