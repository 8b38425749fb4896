/-! THE LAW'S BODY -/
theorem rt_F {ret : Option FieldType} {st : List Value} {S : pm_S} {ins : Instr} (h : pm_rt ret (fun _ _ => False) st S ins) : False := by
  unfold pm_rt at h
  split at h
  · obtain ⟨v, ty, -, -, -, h⟩ := h
    exact h
  · exact h.2.2
  · obtain ⟨v, ty, -, -, -, h⟩ := h
    exact h
  · obtain ⟨v, -, -, h⟩ := h
    exact h
  · obtain ⟨v, -, -, h⟩ := h
    exact h
  · exact h
set_option maxHeartbeats 4000000 in
theorem whole_start {p : Program} {e : Env} {s : State} {m : MethodId} {below : List Frame} {meth : Method} {c : Code} (l : Launch) (hflags : l.flags = flags0) {b L : Nat} {xs : Nat → Int32} (hL : L ≤ 260) (C0 : lw_At p s m meth c b L xs) : W p l e room_1 s m #[Value.ref b] below meth c s.heap [] 0 0 (lw_Z below #[Value.ref b] s) (entryFrame m ([Value.ref b] : List Value).toArray 1) := by
  obtain ⟨hx, hcb, hr, hml, hown, hts, hX, hb, hlocks, hgv⟩ := C0
  have hl : l.stackTraces = false := by
    unfold Launch.stackTraces
    rw [hflags]
    decide +kernel
  obtain ⟨D, hK⟩ := lw_K hts
  have hT : pm_T (lwG D s) s s.heap := lw_T hts hgv hK
  have hLX := lw_LX (s := s) (b := b) (L := L) hb (by omega)
  have hGA : (lwG D s).2.1 = s.heap.size := rfl
  have hE : fm_E (lwG D s) (lwH s b L) := lw_fE
  obtain ⟨G, hG⟩ : ∃ G, G = lwG D s := ⟨_, rfl⟩
  rw [← hG] at hT hGA hE
  have X : CallFix p m c code 1 s #[Value.ref b] pm_W RL := ⟨hx, hcb, hml, hown, fun w hw => hts w (List.mem_filter.mp hw).1⟩
  have hRm : 41 + 13 ≤ room_1.frames ∧ 64 * 41 + 464 ≤ room_1.locals := by decide
  have T : fm_T RL code tc_L_law fr_L mr_L cr_L lr_L := ⟨tok_L, dc_L_law⟩
  obtain ⟨E, hB, hE0⟩ := bs_0 (lw_Dk (s := s) (b := b) (L := L) (xs := xs))
  have g0 : (lwM s xs).1 (s.heap.size + 662) 0 = 0 := by
    have h := lw_shf (s := s) (b := b) (L := L) (xs := xs) |>.2.2.2.1 661 0
    rw [show s.heap.size + 662 = s.heap.size + 1 + 661 by omega, h]
    rfl
  obtain ⟨r9, m9, hh, hq, c9, hc9, hg9⟩ := q_holds hLX (m := lwM s xs) ⟨0, Nat.le_refl _, ((if_neg (Nat.lt_irrefl _)).trans (if_pos rfl)).trans nl_0⟩ (g0.trans nl_0) hB hE0
  subst hq
  obtain ⟨z0, hz0⟩ : ∃ z0 : Nat × Nat × Nat, z0 = (s.heap.size + 662, 662, 7134) := ⟨_, rfl⟩
  have f0 : (fl_z (lwH s b L) z0).1 (lwM s xs) = (some (s.heap.size + 662), 662, 7134) := by
    have e : fl_n (lwH s b L) (lwM s xs) = 0 := by
      unfold fl_n
      rw [lw_g, if_pos lw_gn, g0]
      rfl
    show fl_f (lwH s b L) z0 (lwM s xs) = _
    unfold fl_f
    rw [e, hz0, if_pos rfl]
  have r99 : ((fl_z (lwH s b L) z0).1 m9).2.1 ≤ 5000 ∧ ((fl_z (lwH s b L) z0).1 m9).2.2 ≤ 30000 := by
    have e : fl_n (lwH s b L) m9 ≤ 3000 := by
      unfold fl_n
      rw [if_pos (show (lwH s b L).1 (fm_g (lwH s b L)) = none from lw_gn), hg9, nn_t (by omega)]
      show c9 ≤ 3000
      exact hc9
    show (fl_f (lwH s b L) z0 m9).2.1 ≤ 5000 ∧ (fl_f (lwH s b L) z0 m9).2.2 ≤ 30000
    unfold fl_f
    rw [hz0]
    show 662 + fl_n (lwH s b L) m9 ≤ 5000 ∧ 7134 + 6 * fl_n (lwH s b L) m9 ≤ 30000
    omega
  obtain ⟨K, hKd⟩ : ∃ K : pm_K, K = fun pc ls st S => S.2.2.1 ≤ 0 + room_1.cells ∧ S.2.2.2 ≤ 0 + room_1.slots ∧ pm_V p l e room_1 s m #[Value.ref b] below meth c (lw_Z below #[Value.ref b] s) G 1 0 0 pc ls st S := ⟨_, rfl⟩
  have mk : ∀ {pc : Nat} {ls : List (Option Value)} {st : List Value} {S : pm_S}, S.2.2.1 ≤ 5000 → S.2.2.2 ≤ 30000 → pm_V p l e room_1 s m #[Value.ref b] below meth c (lw_Z below #[Value.ref b] s) G 1 0 0 pc ls st S → K pc ls st S := by
    intro pc ls st S h1 h2 h3
    rw [hKd]
    refine ⟨?_, ?_, h3⟩
    · show _ ≤ 0 + 600104
      omega
    · show _ ≤ 0 + 7301314
      omega
  have pv : ∀ {pc : Nat} {ls : List (Option Value)} {st : List Value} {S : pm_S} {ins : Instr} {len : Nat}, decode code pc = .ok (ins, len) → pm_step G (pm_run G 41) RL false code (some .boolean) [] K (fun _ _ => False) pc ls st S ins len → pm_V p l e room_1 s m #[Value.ref b] below meth c (lw_Z below #[Value.ref b] s) G 1 0 0 pc ls st S := fun hd h =>
    pw_step X hT (fun h => by cases h) (fun h => absurd rfl h) hRm (pm_run_ok (G := G) l hl 41) (fun pc ls st S hk => by rw [hKd] at hk; exact hk) (fun _ _ h => h.elim) (fun _ _ _ _ _ _ h => (rt_F h).elim) (fun _ _ _ _ _ _ h => h.elim) (fun _ _ _ _ _ _ _ _ _ _ _ _ _ _ h => h.elim) hd h
  obtain ⟨S1, hS1⟩ : ∃ S1, S1 = pm_new (loM b L xs, some s.heap.size, 0, 0) s.heap.size (px_df 12) := ⟨_, rfl⟩
  obtain ⟨S2, F, r1, c1, fo, g1⟩ := ct_law (G := G) (d := 36) (lwH_o (s := s) (b := b) (L := L)) (lw_Dk (s := s) (b := b) (L := L) (xs := xs)) S1 (by rw [hS1]; exact pm_up_s _ _ _) (by rw [hS1]; rfl)
  have z2 : S2.2 = (some (s.heap.size + 662), 662, 7134) := by
    rw [c1.2.2.2, hS1]
    show (some (s.heap.size + 662), (0 + 1) + (s.heap.size + 662 - (s.heap.size + 1)), (0 + 4) + 7130) = _
    rw [show s.heap.size + 662 - (s.heap.size + 1) = 661 by omega]
  have b1 : S1.2.2.1 ≤ 5000 ∧ S1.2.2.2 ≤ 30000 := by
    rw [hS1]
    show 0 + 1 ≤ 5000 ∧ 0 + 4 ≤ 30000
    omega
  have b2 : S2.2.2.1 ≤ 5000 ∧ S2.2.2.2 ≤ 30000 := by
    rw [z2]
    show 662 ≤ 5000 ∧ 7134 ≤ 30000
    omega
  obtain ⟨f9, ef9⟩ : ∃ f9 : Nat → Value, f9 = fun k => if k = 1 then F s.heap.size 1 else fm_v (lwH s b L) (lwM s xs) (.inl 12) s.heap.size k := ⟨_, rfl⟩
  have hFo : ∀ k, k ≠ 1 → f9 k = fm_v (lwH s b L) (lwM s xs) (.inl 12) s.heap.size k := fun k hk => by
    rw [ef9]
    exact if_neg hk
  have mo : ∀ k, (lwM s xs).1 s.heap.size k = 0 := fun k => (if_neg (Nat.lt_irrefl _)).trans (if_pos rfl)
  have hf9 : ∀ k, k < 4 → F s.heap.size k = f9 k := fun k hk => by
    rw [ef9]
    dsimp only
    rcases (show k = 0 ∨ k = 1 ∨ k = 2 ∨ k = 3 by omega) with e | e | e | e <;> subst e
    · rw [if_neg (by omega), fo, pm_up_s, fm_v2 (show fm_kd (.inl 12) 0 = 2 from rfl)]
      exact congrArg Value.ref (if_pos (Nat.le_refl _)).symm
    · rw [if_pos rfl]
    · rw [if_neg (by omega), fo, pm_up_n _ _ (by omega), fm_v0 (show fm_kd (.inl 12) 2 = 0 from rfl), mo]
      rfl
    · rw [if_neg (by omega), fo, pm_up_n _ _ (by omega), fm_v0 (show fm_kd (.inl 12) 3 = 0 from rfl), mo]
      rfl
  have v11 : pm_V p l e room_1 s m #[Value.ref b] below meth c (lw_Z below #[Value.ref b] s) G 1 0 0 11 [some (.ref b)] [.int 1] (fm_c (lwH s b L) m9, (fl_z (lwH s b L) z0).1 m9) := by
    intro HH locs LS k n h1 h2 h3 h4 h5 h6
    have q1 := r99.1
    have q2 := r99.2
    dsimp only at h5 h6
    exact va_forget (fun q hq => by rw [← hGA]; exact h3.2.2 q hq) (W.widen (by omega) (by omega) (lw_ret (d0 := s.drawn) (Drawn.sameBut.refl s.drawn lw_cs) hx hcb hr hlocks (px_dc_at T.2 (pc := 11) (q := (.ireturn, 1)) rfl)))
  obtain ⟨SH, hSH⟩ : ∃ SH : pm_S, SH = (pm_up (fm_c (lwH s b L) (lwM s xs)) s.heap.size (some (.inl 12, 4, f9)), (some (s.heap.size + 662), 662, 7134)) := ⟨_, rfl⟩
  have hrun : pm_run G 41 false yL_holds [.ref s.heap.size, .ref b] SH (.inl (some (.int 1))) (fm_c (lwH s b L) m9, (fl_z (lwH s b L) z0).1 m9) := by
    have h := run_holds (d := 24) (z0 := z0) hE (lwH_o (s := s) (b := b) (L := L)) hLX.2.2.2.1 hFo hh
    rw [f0] at h
    rw [hSH]
    exact h
  have bH : SH.2.2.1 ≤ 5000 ∧ SH.2.2.2 ≤ 30000 := by
    rw [hSH]
    show 662 ≤ 5000 ∧ 7134 ≤ 30000
    omega
  obtain ⟨m8, q8, n8, o8⟩ := (T.1.2.1 _ (px_lk_in (k := 208) (x := (0, 12, yL_holds, 1, 1, false)) rfl)).1 rfl
  have m4 := (T.1.2.1 _ (px_lk_in (k := 207) (x := (2, 12, yL_init, 0, 0, false)) rfl)).2.2.1 rfl
  obtain ⟨C', T', a1, a2, a3, a4, a5, a6, -⟩ := (T.1.2.2.1 _ (px_lk_in (k := 11) (x := .inl 12) rfl)).1 12 rfl
  have w1 : pm_w8 [Value.ref s.heap.size] := Nat.le_of_ble_eq_true rfl
  have w0 : pm_w8 [] := Nat.le_of_ble_eq_true rfl
  have v8 := pv (pc := 8) (ls := [some (.ref b)]) (st := [.ref b, .ref s.heap.size]) (S := SH) (px_dc_at T.2 (pc := 8) (q := (.invokevirtual 208, 3)) rfl) ⟨rfl, yL_holds, [.ref b], [], s.heap.size, 12, 4, f9, q8, .inl (some (.int 1)), _, m8, rfl, w0, by rw [hSH]; exact pm_up_s _ _ _, n8, o8, hrun, mk r99.1 r99.2 v11⟩
  have v7' := pv (pc := 7) (ls := [some (.ref b)]) (st := [.ref s.heap.size]) (S := SH) (px_dc_at T.2 (pc := 7) (q := (.aload_n 0, 1)) rfl) ⟨rfl, (8, _, [.ref b, .ref s.heap.size]), rfl, mk bH.1 bH.2 v8⟩
  have v7 : pm_V p l e room_1 s m #[Value.ref b] below meth c (lw_Z below #[Value.ref b] s) G 1 0 0 7 [some (.ref b)] [.ref s.heap.size] S2 := by
    intro HH locs LS k n h1 h2 h3 h4 h5 h6
    rw [z2] at h5 h6
    refine v7' HH locs LS k n ?_ (fun n9 hn9 => h2 n9 (by rw [z2]; rw [hSH] at hn9; exact hn9)) h3 h4 (by rw [hSH]; exact h5) (by rw [hSH]; exact h6)
    rw [hSH]
    exact lw_mem hf9 hb hS1 c1 g1 h1
  have v4 := pv (pc := 4) (ls := [some (.ref b)]) (st := [.ref s.heap.size, .ref s.heap.size]) (S := S1) (px_dc_at T.2 (pc := 4) (q := (.invokespecial 207, 3)) rfl) ⟨rfl, Or.inr ⟨yL_init, [], [.ref s.heap.size], s.heap.size, .inl none, S2, m4, rfl, w1, r1, mk b2.1 b2.2 v7⟩⟩
  have v3 := pv (pc := 3) (st := [.ref s.heap.size]) (px_dc_at T.2 (pc := 3) (q := (.dup, 1)) rfl) ⟨rfl, (4, _, [.ref s.heap.size, .ref s.heap.size]), rfl, mk b1.1 b1.2 v4⟩
  have v0 := pv (pc := 0) (ls := [some (.ref b)]) (st := []) (S := (loM b L xs, some s.heap.size, 0, 0)) (px_dc_at T.2 (pc := 0) (q := (.new 11, 3)) rfl) ⟨rfl, Or.inl ⟨12, C', T', (px_cn 12).1, s.heap.size, (px_cn 12).2, a2, a1, a3, a4, a5, a6, rfl, (by rw [hS1] at v3 b1; exact mk b1.1 b1.2 v3)⟩⟩
  rw [lg_entry_eq]
  exact v0 s.heap [] _ 0 0 (lw_ok0 hX) (fun n hn => by cases hn; rfl) va_S.rf (pm_entry (as := [Value.ref b]) (maxL := 1) (Nat.le_of_ble_eq_true rfl) (by intro v hv; cases hv with
    | head => rfl
    | tail _ h => cases h)) rfl rfl
