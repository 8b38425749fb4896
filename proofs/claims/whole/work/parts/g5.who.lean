set_option maxHeartbeats 4000000 in
theorem whole_start {p : Program} {e : Env} {s : State} {m : MethodId} {below : List Frame} {meth : Method} {c : Code} (l : Launch) (hflags : l.flags = flags0) {b L : Nat} {xs : Nat → Int32} (hL : L ≤ 2560) (C0 : lw_At p s m meth c b L xs) : W p l e room_1 s m #[Value.ref b] below meth c s.heap [] 0 0 (lw_Z below #[Value.ref b] s) (entryFrame m ([Value.ref b] : List Value).toArray 10) := by
  obtain ⟨hx, hcb, hr, hml, hown, hts, hX, hb, hlocks, hgv⟩ := C0
  have hl : l.stackTraces = false := by
    unfold Launch.stackTraces
    rw [hflags]
    decide +kernel
  have ht := txs_of hgv
  obtain ⟨D, hK⟩ := lw_K hts
  obtain ⟨fv, fr, hfv, hfr⟩ := lw_fv hgv
  have hT : pm_T (lwG D s fv fr) s s.heap := lw_T hts hgv hK hfv ht
  have hW := lw_LW (D := D) ht hX hb hfr
  have hGA : (lwG D s fv fr).2.1 = s.heap.size := rfl
  obtain ⟨G, hG⟩ : ∃ G, G = lwG D s fv fr := ⟨_, rfl⟩
  rw [← hG] at hT hW hGA
  have X : CallFix p m c code 10 s #[Value.ref b] pm_W RL := ⟨hx, hcb, hml, hown, fun w hw => hts w (List.mem_filter.mp hw).1⟩
  have hRm : 41 + 13 ≤ room_1.frames ∧ 64 * 41 + 464 ≤ room_1.locals := by decide
  have ph2 : pm_V p l e room_1 s m #[Value.ref b] below meth c (lw_Z below #[Value.ref b] s) G 10 0 0 28 (lwL b s.heap.size (s.heap.size + 661) (s.heap.size + 673) (s.heap.size + 674) (nn (5 * 0)) none none none none) [] (lwS (lwH s fr) b (s.heap.size + 673) (s.heap.size + 674) L xs (fun _ => .long 0) (fun _ => .double 0) (lwM s) (some (s.heap.size + 675), 675, 13563)) := by
    obtain ⟨n, r, S', hgo, rfl, k1, k2⟩ := lw_loop (G := G) (ini := false) (xs := xs) (KR := fun r S' => r = .inl (some (.int 1)) ∧ S'.2.2.1 ≤ 1187 ∧ S'.2.2.2 ≤ 16635) (z0 := (some (s.heap.size + 675), 675, 13563)) hW hL (fun S h1 h2 => ⟨rfl, h1, h2⟩) 513 0 0 (lwM s) (some (s.heap.size + 675), 675, 13563) (fun _ => .long 0) (fun _ => .double 0) none none none none (by omega) (by omega) (top_0 (lw_Dk (s := s) (fr := fr)) (lw_Mo (s := s) (fr := fr))) (by omega) (Nat.le_refl _) (Nat.le_refl _)
    refine pw_go X hT (fun h => by cases h) (fun h => absurd rfl h) hRm (pm_lca_ok (G := G) l hl 40) ⟨?_, ?_⟩ (fun pc ls st S ins hdg hrt => ?_) (fun E S pc ls rest _ h => by cases h.1) (fun pc ls st S idx ia ic E _ _ _ _ _ _ h => by cases h.1) n _ _ _ _ hgo
    · show _ ≤ 0 + 601024
      omega
    · show _ ≤ 0 + 7293034
      omega
    · unfold pm_rt at hrt
      split at hrt
      · obtain ⟨v, ty, rfl, -, -, e3, e4⟩ := hrt
        cases e3
        subst e4
        intro HH locs LS k n h1 h2 h3 h4 h5 h6
        exact va_forget (fun q hq => by rw [← hGA]; exact h3.2.2 q hq) (W.widen (by omega) (by omega) (lw_ret (d0 := s.drawn) (Drawn.sameBut.refl s.drawn lw_cs) hx hcb hr hlocks hdg))
      · exact absurd hrt.2.2.1 (by intro h; cases h)
      · obtain ⟨a, ty, -, -, -, e3, -⟩ := hrt
        cases e3
      · obtain ⟨v, -, -, e3, -⟩ := hrt
        cases e3
      · obtain ⟨v, -, -, e3, -⟩ := hrt
        cases e3
      · exact hrt.elim
  obtain ⟨K, hKd⟩ : ∃ K : pm_K, K = fun pc ls st S => S.2.2.1 ≤ 0 + room_1.cells ∧ S.2.2.2 ≤ 0 + room_1.slots ∧ pm_V p l e room_1 s m #[Value.ref b] below meth c (lw_Z below #[Value.ref b] s) G 10 0 0 pc ls st S := ⟨_, rfl⟩
  have mk : ∀ {pc : Nat} {ls : List (Option Value)} {st : List Value} {S : pm_S}, S.2.2.1 ≤ 1000 → S.2.2.2 ≤ 20000 → pm_V p l e room_1 s m #[Value.ref b] below meth c (lw_Z below #[Value.ref b] s) G 10 0 0 pc ls st S → K pc ls st S := by
    intro pc ls st S h1 h2 h3
    rw [hKd]
    refine ⟨?_, ?_, h3⟩
    · show _ ≤ 0 + 601024
      omega
    · show _ ≤ 0 + 7293034
      omega
  have pv : ∀ {pc : Nat} {ls : List (Option Value)} {st : List Value} {S : pm_S} {ins : Instr} {len : Nat}, decode code pc = .ok (ins, len) → pm_step G (pm_lca G 40) RL false code (some .boolean) [] K (fun _ _ => False) pc ls st S ins len → pm_V p l e room_1 s m #[Value.ref b] below meth c (lw_Z below #[Value.ref b] s) G 10 0 0 pc ls st S := fun hd h =>
    pw_step X hT (fun h => by cases h) (fun h => absurd rfl h) hRm (pm_lca_ok (G := G) l hl 40) (fun pc ls st S hk => by rw [hKd] at hk; exact hk) (fun _ _ h => h.elim) (fun _ _ _ _ _ _ h => (rt_F h).elim) (fun _ _ _ _ _ _ h => h.elim) (fun _ _ _ _ _ _ _ _ _ _ _ _ _ _ h => h.elim) hd h
  obtain ⟨S1, hS1⟩ : ∃ S1, S1 = pm_new (loM s fr b L xs, some s.heap.size, 0, 0) s.heap.size (px_df 11) := ⟨_, rfl⟩
  obtain ⟨S2, F1, r1, c1, g1⟩ := ct_dsk (G := G) (d := 37) (lw_Dk (s := s) (fr := fr)) S1 (by rw [hS1]; exact pm_up_s _ _ _) (by rw [hS1]; rfl)
  obtain ⟨S3, hS3⟩ : ∃ S3, S3 = pm_new S2 (s.heap.size + 661) (px_df 12) := ⟨_, rfl⟩
  have z2 : S2.2 = (some (s.heap.size + 661), 661, 7130) := by
    rw [c1.2.2.2, hS1]
    show (some (s.heap.size + 1 + 660), (0 + 1) + (s.heap.size + 1 + 660 - (s.heap.size + 1)), (0 + 9) + 7121) = _
    rw [show s.heap.size + 1 + 660 - (s.heap.size + 1) = 660 by omega]
  obtain ⟨S4, F2, r2, c2, g2⟩ := ct_mod (G := G) (d := 39) (lw_Mo (s := s) (fr := fr)) S3 (by rw [hS3]; unfold pm_new; dsimp only; rw [pm_up_s]) (by rw [hS3]; rfl)
  have z4 : S4.2 = (some (s.heap.size + 673), 673, 13561) := by
    rw [c2.2.2.2, hS3]
    show (some (s.heap.size + 661 + 1 + 11), (S2.2.2.1 + 1) + (s.heap.size + 661 + 1 + 11 - (s.heap.size + 661 + 1)), (S2.2.2.2 + 29) + 6402) = _
    rw [z2, show s.heap.size + 661 + 1 + 11 - (s.heap.size + 661 + 1) = 11 by omega]
  have z6 : (lw5 s.heap.size S4).2 = (some (s.heap.size + 675), 675, 13563) := by
    show (some (s.heap.size + 674 + 1), S4.2.2.1 + 1 + 1, S4.2.2.2 + (Int32.ofInt 1).toNatClampNeg + (Int32.ofInt 1).toNatClampNeg) = _
    rw [z4, n1_1]
  have ph1 : pm_V p l e room_1 s m #[Value.ref b] below meth c (lw_Z below #[Value.ref b] s) G 10 0 0 28 (lwL b s.heap.size (s.heap.size + 661) (s.heap.size + 673) (s.heap.size + 674) (nn (5 * 0)) none none none none) [] (lw5 s.heap.size S4) := by
    intro HH locs LS k n h1 h2 h3 h4 h5 h6
    rw [z6] at h5 h6
    exact ph2 HH locs LS k n (lw_mem hb hS1 c1 g1 hS3 c2 g2 h1) (fun n9 hn9 => h2 n9 (by rw [z6]; exact hn9)) h3 h4 h5 h6
  have b0 : S1.2.2.1 ≤ 1000 ∧ S1.2.2.2 ≤ 20000 := by
    rw [hS1]
    show 0 + 1 ≤ 1000 ∧ 0 + 9 ≤ 20000
    omega
  have b2 : S2.2.2.1 ≤ 1000 ∧ S2.2.2.2 ≤ 20000 := by
    rw [z2]
    show 661 ≤ 1000 ∧ 7130 ≤ 20000
    omega
  have b3 : S3.2.2.1 ≤ 1000 ∧ S3.2.2.2 ≤ 20000 := by
    rw [hS3]
    show S2.2.2.1 + 1 ≤ 1000 ∧ S2.2.2.2 + 29 ≤ 20000
    rw [z2]
    show 661 + 1 ≤ 1000 ∧ 7130 + 29 ≤ 20000
    omega
  have b4 : S4.2.2.1 ≤ 1000 ∧ S4.2.2.2 ≤ 20000 := by
    rw [z4]
    show 673 ≤ 1000 ∧ 13561 ≤ 20000
    omega
  obtain ⟨S5, hS5⟩ : ∃ S5, S5 = pm_new S4 (s.heap.size + 673) (.inr (.long, true), (Int32.ofInt 1).toNatClampNeg, fun _ => defaultValue .long) := ⟨_, rfl⟩
  have b5 : S5.2.2.1 ≤ 1000 ∧ S5.2.2.2 ≤ 20000 := by
    rw [hS5]
    show S4.2.2.1 + 1 ≤ 1000 ∧ S4.2.2.2 + (Int32.ofInt 1).toNatClampNeg ≤ 20000
    rw [z4, n1_1]
    show 673 + 1 ≤ 1000 ∧ 13561 + 1 ≤ 20000
    omega
  have b6 : (lw5 s.heap.size S4).2.2.1 ≤ 1000 ∧ (lw5 s.heap.size S4).2.2.2 ≤ 20000 := by
    rw [z6]
    show 675 ≤ 1000 ∧ 13563 ≤ 20000
    omega
  have w1 : pm_w8 [Value.ref s.heap.size] := Nat.le_of_ble_eq_true rfl
  have w2 : pm_w8 [Value.ref (s.heap.size + 661)] := Nat.le_of_ble_eq_true rfl
  have v26 := pv (ls := lwL b s.heap.size (s.heap.size + 661) (s.heap.size + 673) (s.heap.size + 674) 0 none none none none |>.set 5 none) (st := [.int (Int32.ofInt 0)]) (S := lw5 s.heap.size S4) dL_law_26 ⟨rfl, (28, lwL b s.heap.size (s.heap.size + 661) (s.heap.size + 673) (s.heap.size + 674) (nn (5 * 0)) none none none none, []), rfl, mk b6.1 b6.2 ph1⟩
  have v25 := pv (st := []) dL_law_25 ⟨rfl, (26, _, [.int (Int32.ofInt 0)]), rfl, mk b6.1 b6.2 v26⟩
  have v23 := pv (ls := [some (.ref b), some (.ref s.heap.size), some (.ref (s.heap.size + 661)), some (.ref (s.heap.size + 673)), none, none, none, none, none, none]) (st := [.ref (s.heap.size + 674)]) dL_law_23 ⟨rfl, (25, _, []), rfl, mk b6.1 b6.2 v25⟩
  have v21 := pv (ls := [some (.ref b), some (.ref s.heap.size), some (.ref (s.heap.size + 661)), some (.ref (s.heap.size + 673)), none, none, none, none, none, none]) (st := [.int (Int32.ofInt 1)]) (S := S5) dL_law_21 ⟨rfl, Int32.ofInt 1, [], s.heap.size + 674, rfl, by decide, by decide, ac_D, by rw [hS5]; rfl, by rw [hS5]; exact mk b6.1 b6.2 v23⟩
  have v20 := pv (st := []) dL_law_20 ⟨rfl, (21, _, [.int (Int32.ofInt 1)]), rfl, mk b5.1 b5.2 v21⟩
  have v19 := pv (ls := [some (.ref b), some (.ref s.heap.size), some (.ref (s.heap.size + 661)), none, none, none, none, none, none, none]) (st := [.ref (s.heap.size + 673)]) dL_law_19 ⟨rfl, (20, _, []), rfl, mk b5.1 b5.2 v20⟩
  have v17 := pv (ls := [some (.ref b), some (.ref s.heap.size), some (.ref (s.heap.size + 661)), none, none, none, none, none, none, none]) (st := [.int (Int32.ofInt 1)]) (S := S4) dL_law_17 ⟨rfl, Int32.ofInt 1, [], s.heap.size + 673, rfl, by decide, by decide, ac_L, by rw [z4], by have h9 := mk b5.1 b5.2 v19; rw [hS5] at h9; exact h9⟩
  have v16 := pv (st := []) dL_law_16 ⟨rfl, (17, _, [.int (Int32.ofInt 1)]), rfl, mk b4.1 b4.2 v17⟩
  have v15 := pv (ls := [some (.ref b), some (.ref s.heap.size), none, none, none, none, none, none, none, none]) (st := [.ref (s.heap.size + 661)]) dL_law_15 ⟨rfl, (16, _, []), rfl, mk b4.1 b4.2 v16⟩
  have v12 := pv (ls := [some (.ref b), some (.ref s.heap.size), none, none, none, none, none, none, none, none]) (st := [.ref (s.heap.size + 661), .ref (s.heap.size + 661)]) (S := S3) dL_law_12 ⟨rfl, Or.inr ⟨yX12_init, [], [.ref (s.heap.size + 661)], s.heap.size + 661, .inl none, S4, ii_113, rfl, w2, Or.inl r2, mk b4.1 b4.2 v15⟩⟩
  have v11 := pv (st := [.ref (s.heap.size + 661)]) dL_law_11 ⟨rfl, (12, _, [.ref (s.heap.size + 661), .ref (s.heap.size + 661)]), rfl, mk b3.1 b3.2 v12⟩
  have v8 := pv (ls := [some (.ref b), some (.ref s.heap.size), none, none, none, none, none, none, none, none]) (st := []) (S := S2) dL_law_8 ⟨rfl, Or.inl ⟨12, RX12, TX12, 29, s.heap.size + 661, tyX12, pt_kc rfl, by decide, tyX12_ok, nw_111.1, nw_111.2.1, nw_111.2.2, by rw [z2], (by rw [hS3] at v11 b3; exact mk b3.1 b3.2 v11)⟩⟩
  have v7 := pv (ls := [some (.ref b), none, none, none, none, none, none, none, none, none]) (st := [.ref s.heap.size]) dL_law_7 ⟨rfl, (8, _, []), rfl, mk b2.1 b2.2 v8⟩
  have v4 := pv (ls := [some (.ref b), none, none, none, none, none, none, none, none, none]) (st := [.ref s.heap.size, .ref s.heap.size]) (S := S1) dL_law_4 ⟨rfl, Or.inr ⟨yX11_init, [], [.ref s.heap.size], s.heap.size, .inl none, S2, ii_110, rfl, w1, Or.inl r1, mk b2.1 b2.2 v7⟩⟩
  have v3 := pv (st := [.ref s.heap.size]) dL_law_3 ⟨rfl, (4, _, [.ref s.heap.size, .ref s.heap.size]), rfl, mk b0.1 b0.2 v4⟩
  have v0 := pv (ls := [some (.ref b), none, none, none, none, none, none, none, none, none]) (st := []) (S := (loM s fr b L xs, some s.heap.size, 0, 0)) dL_law_0 ⟨rfl, Or.inl ⟨11, RX11, TX11, 9, s.heap.size, tyX11, pt_kc rfl, by decide, tyX11_ok, nw_8.1, nw_8.2.1, nw_8.2.2, rfl, (by rw [hS1] at v3 b0; exact mk b0.1 b0.2 v3)⟩⟩
  rw [lg_entry_eq]
  exact v0 s.heap [] _ 0 0 (lw_ok0 ht hX) (fun n hn => by cases hn; rfl) va_S.rf (pm_entry (as := [Value.ref b]) (maxL := 10) (Nat.le_of_ble_eq_true rfl) (by intro v hv; cases hv with
    | head => rfl
    | tail _ h => cases h)) rfl rfl
