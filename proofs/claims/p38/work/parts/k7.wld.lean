/-! THE WORLD AT THE LAW'S ENTRY -/
abbrev tGv : Cond := Jvm.Cond.and given_1 narrow_1
def tEx (w : Cond) : Bool := match w with
  | .stringRef o i _ => decide (Cond.exactly (.string o i) "java/lang/String" ∈ flatC tGv)
  | _ => true
set_option maxRecDepth 100000 in
theorem tEx_ok : lw_tbl.all tEx = true := by decide +kernel
def tAd (s : State) (o : String) (i : Nat) : Nat := match (Term.string o i).eval #[] s none [] s with
  | some (.ref a) => a
  | _ => 0
section WLD
variable {s : State} {b L : Nat} {xs : Nat → Int32} {D : va_G}
theorem tAd_ok (hgv : tGv.before #[.ref b] s = true) {o tx : String} {i : Nat} (h : Cond.stringRef o i tx ∈ lw_tbl) : (Term.string o i).eval #[] s none [] s = some (.ref (tAd s o i)) := by
  have h1 := of_decide_eq_true (List.all_eq_true.mp tEx_ok _ h)
  obtain ⟨a, c, cA, kA, q1, -⟩ := Cond.exactly_spec (args := #[.ref b]) (first := s) (o := none) (s := s) (idx := []) (t := .string o i) (cls := "java/lang/String") (flat_of_before _ hgv _ h1)
  have q2 : (Term.string o i).eval #[] s none [] s = some (.ref a) := q1
  unfold tAd
  rw [q2]
/-- cells: the script at b, the law's object at the heap's end, the desk behind it -/
def lwH (s : State) (b L : Nat) : fm_H := (fun a => if a < s.heap.size then (if a = b then some (.inr (.int, false), L) else none) else if a = s.heap.size then some (.inl 12, 4) else gKd (a - (s.heap.size + 1)), fun a k => if a ≤ s.heap.size then s.heap.size + 1 else s.heap.size + 1 + gRf (a - (s.heap.size + 1)) k, fun _ _ => s.heap.size + 662)
def lwM (s : State) (xs : Nat → Int32) : fm_M := (fun a k => if a < s.heap.size then xs k else if a = s.heap.size then 0 else gIn (a - (s.heap.size + 1)) k, fun a k => s.heap.size + 1 + gVf (a - (s.heap.size + 1)) k, fun _ _ => 0)
theorem lw_shf : shf (lwH s b L) gH (lwM s xs) gM (s.heap.size + 1) := by
  refine ⟨fun j => ?_, fun j k => ?_, fun j k => ?_, fun j k => ?_, fun j k => rfl⟩
  · show (if s.heap.size + 1 + j < s.heap.size then _ else if s.heap.size + 1 + j = s.heap.size then _ else gKd (s.heap.size + 1 + j - (s.heap.size + 1))) = gKd j
    rw [if_neg (by omega), if_neg (by omega), Nat.add_sub_cancel_left]
  · show (if s.heap.size + 1 + j ≤ s.heap.size then _ else s.heap.size + 1 + gRf (s.heap.size + 1 + j - (s.heap.size + 1)) k) = s.heap.size + 1 + gRf j k
    rw [if_neg (by omega), Nat.add_sub_cancel_left]
  · show s.heap.size + 1 + gVf (s.heap.size + 1 + j - (s.heap.size + 1)) k = s.heap.size + 1 + gVf j k
    rw [Nat.add_sub_cancel_left]
  · show (if s.heap.size + 1 + j < s.heap.size then _ else if s.heap.size + 1 + j = s.heap.size then _ else gIn (s.heap.size + 1 + j - (s.heap.size + 1)) k) = gIn j k
    rw [if_neg (by omega), if_neg (by omega), Nat.add_sub_cancel_left]
theorem lw_Dk : hDk (lwH s b L) (lwM s xs) (s.heap.size + 1) := sh_Dk (j := 0) lw_shf g_Dk
theorem lwH_lo {a : Nat} (h : a < s.heap.size) : (lwH s b L).1 a = if a = b then some (.inr (.int, false), L) else none := if_pos h
theorem lwH_o : (lwH s b L).1 s.heap.size = some (.inl 12, 4) := (if_neg (Nat.lt_irrefl _)).trans (if_pos rfl)
theorem lwH_hi (j : Nat) : (lwH s b L).1 (s.heap.size + 1 + j) = gKd j := (lw_shf (xs := fun _ => 0)).1 j
theorem lwH_sc (hb : b < s.heap.size) : (lwH s b L).1 b = some (.inr (.int, false), L) := (lwH_lo hb).trans (if_pos rfl)
theorem lw_fok : fm_ok (lwH s b L) := by
  intro a ci k ⟨n, hn⟩
  by_cases ha : a < s.heap.size
  · rw [lwH_lo ha] at hn
    split at hn <;> cases hn
  · by_cases ho : a = s.heap.size
    · subst ho
      rw [lwH_o] at hn
      cases hn
      match k with
      | 0 =>
        show fm_is (lwH s b L) ((lwH s b L).2.1 s.heap.size 0) 11
        have e1 : (lwH s b L).2.1 s.heap.size 0 = s.heap.size + 1 + 0 := if_pos (Nat.le_refl _)
        rw [e1]
        exact ⟨9, lwH_hi 0⟩
      | k + 1 => trivial
    · obtain ⟨j, rfl⟩ : ∃ j, a = s.heap.size + 1 + j := ⟨a - (s.heap.size + 1), by omega⟩
      rw [lwH_hi] at hn
      have hc := gKd_cl hn
      have hj : j < 661 := by
        by_cases e : j < 661
        · exact e
        · rw [gKd_hi (by omega)] at hn
          cases hn
      by_cases hk : k < 29
      · have h1 := List.all_eq_true.mp gOk_all j (List.mem_range.mpr hj)
        unfold gOk at h1
        rw [hn] at h1
        have h2 := List.all_eq_true.mp h1 k (List.mem_range.mpr hk)
        have e2 : (lwH s b L).2.1 (s.heap.size + 1 + j) k = s.heap.size + 1 + gRf j k := (lw_shf (xs := fun _ => 0)).2.1 j k
        rw [e2]
        cases hf : fm_ft ci k with
        | none => trivial
        | some t =>
          rw [hf] at h2
          cases t with
          | inl cj =>
            show fm_is (lwH s b L) (s.heap.size + 1 + gRf j k) cj
            dsimp only at h2
            split at h2
            · rename_i c n9 hg
              have e9 := Nat.eq_of_beq_eq_true h2
              subst e9
              exact ⟨n9, (lwH_hi _).trans hg⟩
            · cases h2
          | inr t =>
            show fm_ia (lwH s b L) (s.heap.size + 1 + gRf j k) t.1 t.2
            dsimp only at h2
            split at h2
            · rename_i t' n9 hg
              have e9 := of_decide_eq_true h2
              subst e9
              unfold fm_ia fm_sz
              rw [(lwH_hi _).trans hg]
            · cases h2
      · rw [ft_hi hc (by omega)]
        trivial
def lwG (D : va_G) (s : State) : pm_G := (D, s.heap.size, fun _ _ => .null, tAd s)
theorem lw_g : fm_g (lwH s b L) = s.heap.size + 662 := rfl
theorem lw_gn : (lwH s b L).1 (s.heap.size + 662) = none := (lwH_hi 661).trans (gKd_hi (Nat.le_refl _))
theorem lw_fE : fm_E (lwG D s) (lwH s b L) := ⟨lw_fok, lw_gn⟩
theorem lw_LX (hb : b < s.heap.size) (hL : L ≤ 1000000) : LX (lwH s b L) s.heap.size (s.heap.size + 1) b := by
  have es : fm_sz (lwH s b L) b = L := sz_h (lwH_sc hb)
  refine ⟨kX_h (lw_Dk (xs := fun _ => 0)), ⟨4, lwH_o⟩, if_pos (Nat.le_refl _), ?_, by rw [es]; exact hL, by omega, ?_, ?_, lw_gn⟩
  · unfold fm_ia
    rw [es]
    exact lwH_sc hb
  · rw [lw_g]
    omega
  · rw [lw_g]
    omega
theorem on_mv : ∀ w, pm_mv w = true → w.onTables = true := by
  intro w hw
  cases w <;> first | rfl | (simp [pm_mv] at hw)
theorem cl_inst : ∀ r ∈ pm_cl, Cond.instantiable r.1 r.2.2 ∈ lw_tbl := by
  have h : pm_cl.all (fun r => decide (Cond.instantiable r.1 r.2.2 ∈ lw_tbl)) = true := by decide +kernel
  exact fun r hr => of_decide_eq_true (List.all_eq_true.mp h r hr)
theorem lw_K (hts : ∀ w ∈ lw_tbl, w.before #[Value.ref b] s = true) : ∃ D : va_G, va_K D pm_cl [] s := by
  have h0 : ∀ c : Nat, ∃ q : ClassId × (Nat → Nat), ∀ r, pm_cl[c]? = some r → u_Kn s r.1 r.2.1 r.2.2 q.1 q.2 := by
    intro c
    cases hc : pm_cl[c]? with
    | none => exact ⟨(0, fun _ => 0), fun r hr => by cases hr⟩
    | some r =>
      obtain ⟨cC, iS, h⟩ := u_known (ws := pm_W) (fun w hw => hts w (List.mem_filter.mp hw).1) (pt_kc hc).2.1 (hts _ (cl_inst r (List.mem_of_getElem? hc)))
      exact ⟨(cC, iS), fun r' hr' => by cases hr'; exact h⟩
  obtain ⟨f, hf⟩ := Classical.axiomOfChoice h0
  exact ⟨(fun c => (f c).1, fun c => (f c).2), fun c q hq => hf c q hq, fun k q hk => by cases hk⟩
set_option maxRecDepth 100000 in
theorem lw_T (hts : ∀ w ∈ lw_tbl, w.before #[Value.ref b] s = true) (hgv : tGv.before #[Value.ref b] s = true) (hK : va_K D pm_cl [] s) : pm_T (lwG D s) s s.heap := by
  have hs := flat_of_before _ hgv
  have hA : ∀ a : Nat, a < s.heap.size → ¬ pm_A (lwG D s) a := fun a ha => Nat.not_le.mpr ha
  refine ⟨hK, Nat.le_refl _, ⟨trivial, trivial⟩, ⟨?_, ?_⟩, fun o tx i hw => ⟨hts _ hw, tAd_ok hgv hw⟩, fun w hw hm => va_Nw.of (on_mv w hm) (hts w hw), fun C hC => va_AO.of (hts _ hC), ?_⟩
  · exact vx_Zqof (args := #[Value.ref b]) (hts _ (pt_in (i := 567) (by decide +kernel))) (hts _ (pt_in (i := 50) (by decide +kernel))) (hs _ (by decide +kernel)) hA
  · exact vx_Zqof (args := #[Value.ref b]) (hts _ (pt_in (i := 569) (by decide +kernel))) (hts _ (pt_in (i := 50) (by decide +kernel))) (hs _ (by decide +kernel)) hA
  · intro E hE F hF hne
    simp only [List.mem_cons, List.not_mem_nil, or_false] at hE hF
    rcases hE with rfl | rfl | rfl <;> rcases hF with rfl | rfl | rfl <;> first | exact absurd rfl hne | exact va_Nc.of (args := #[Value.ref b]) (hs _ (by decide +kernel))
/-! the memory -/
theorem pm_at_cg {G : pm_G} {U : State} {tg : Nat ⊕ (FieldType × Bool)} {n : Nat} {f g : Nat → Value} {cell : Cell} (h : pm_at G U (tg, n, f) cell) (hfg : ∀ k, k < n → f k = g k) (h13 : ∀ ci, tg = .inl ci → ci < 13) : pm_at G U (tg, n, g) cell := by
  rcases tg with ci | ⟨ty, w⟩
  · rcases h with ⟨r, h1, h2, h3, h4, h5⟩ | ⟨h1, -⟩
    · exact Or.inl ⟨r, h1, h2, h3, h4, fun k hk => by rw [← hfg k hk]; exact h5 k hk⟩
    · have := h13 ci rfl
      omega
  · obtain ⟨q1, q2, q3, q4, q5⟩ := h
    exact ⟨q1, q2, q3, q4, fun k hk => by rw [← hfg k hk]; exact q5 k hk⟩
/-- at the entry the script alone -/
def loM (b L : Nat) (xs : Nat → Int32) : pm_M := fun a => if a = b then some (.inr (.int, false), L, fun k => .int (xs k)) else none
theorem lw_ok0 {G : pm_G} (hX : va_X b L xs s s.heap) : pm_ok G s (loM b L xs) s.heap := by
  intro a ce hce
  unfold loM at hce
  by_cases e : a = b
  · subst e
    rw [if_pos rfl] at hce
    cases hce
    obtain ⟨scr, g1, g2, g3, g4, g5⟩ := hX
    exact ⟨⟨scr, g1, g2, g3, (fun hw => by cases hw), ⟨Nat.le_of_eq g4.symm, by rw [g4]⟩, g5⟩, (fun hw => by cases hw)⟩
  · rw [if_neg e] at hce
    cases hce
/-- behind the law's constructor -/
theorem lw_mem {G : pm_G} {S1 S2 : pm_S} {F : Nat → Nat → Value} {f9 : Nat → Value} (hf9 : ∀ k, k < 4 → F s.heap.size k = f9 k) (hb : b < s.heap.size) (h1 : S1 = pm_new (loM b L xs, some s.heap.size, 0, 0) s.heap.size (px_df 12)) (c1 : cI (lwH s b L) S1 s.heap.size (s.heap.size + 662) 7130 F S2) (g1 : ∀ q, s.heap.size < q → q < s.heap.size + 662 → gdo (lwH s b L) (lwM s xs) F q) {HH : Heap}
    (hok : pm_ok G s S2.1 HH) : pm_ok G s (pm_up (fm_c (lwH s b L) (lwM s xs)) s.heap.size (some (.inl 12, 4, f9))) HH := by
  obtain ⟨-, i1, o1, -⟩ := c1
  intro a ce hce
  by_cases e : a = s.heap.size
  · subst e
    rw [pm_up_s] at hce
    cases hce
    obtain ⟨t, t1, t2⟩ := i1 s.heap.size (Nat.le_refl _) (by omega)
    rw [lwH_o] at t1
    cases t1
    obtain ⟨⟨cell, y1, y2⟩, y3⟩ := hok _ _ t2
    exact ⟨⟨cell, y1, pm_at_cg y2 hf9 (fun ci hci => by cases hci; omega)⟩, y3⟩
  · rw [pm_up_n _ _ e] at hce
    by_cases ha : a < s.heap.size
    · refine hok a ce ?_
      rw [o1 a (Or.inl ha), h1]
      rw [show (pm_new (loM b L xs, some s.heap.size, 0, 0) s.heap.size (px_df 12)).1 a = loM b L xs a from pm_up_n _ _ e]
      unfold loM
      by_cases eb : a = b
      · subst eb
        rw [fm_c_at (lwH_sc ha)] at hce
        rw [if_pos rfl, ← hce]
        congr 3
        funext k
        show Value.int (xs k) = .int ((lwM s xs).1 a k)
        rw [show (lwM s xs).1 a k = xs k from if_pos ha]
      · have hn : (lwH s b L).1 a = none := (lwH_lo ha).trans (if_neg eb)
        unfold fm_c at hce
        rw [hn] at hce
        cases hce
    · by_cases ha1 : a < s.heap.size + 662
      · obtain ⟨t, t1, t2⟩ := i1 a (by omega) ha1
        rw [fm_c_at t1] at hce
        cases hce
        obtain ⟨⟨cell, y1, y2⟩, y3⟩ := hok a _ t2
        refine ⟨⟨cell, y1, pm_at_cg y2 (g1 a (by omega) ha1 t t1) (fun ci hci => ?_)⟩, y3⟩
        have e9 := lwH_hi (s := s) (b := b) (L := L) (a - (s.heap.size + 1))
        rw [show s.heap.size + 1 + (a - (s.heap.size + 1)) = a by omega, t1] at e9
        obtain ⟨tg, n⟩ := t
        dsimp only at hci
        subst hci
        exact gKd_cl e9.symm
      · have hn : (lwH s b L).1 a = none := by
          have e9 := lwH_hi (s := s) (b := b) (L := L) (a - (s.heap.size + 1))
          rw [show s.heap.size + 1 + (a - (s.heap.size + 1)) = a by omega] at e9
          exact e9.trans (gKd_hi (by omega))
        unfold fm_c at hce
        rw [hn] at hce
        cases hce
end WLD
