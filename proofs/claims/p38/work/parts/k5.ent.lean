/-! the law's object is made, its run is entered -/
theorem ct_law {G : pm_G} {H : fm_H} {m : fm_M} {d a : Nat} (h0 : H.1 a = some (.inl 12, 4)) (hd : hDk H m (a + 1)) : ∀ S0 : pm_S, S0.1 a = some (px_df 12) → S0.2.1 = some (a + 1) → ∃ S1 F, pm_run G (d + 5) false yL_init [.ref a] S0 (.inl none) S1 ∧ cI H S0 a (a + 662) 7130 F S1 ∧ F a = pm_up (fun k => defaultValue ((px_cn 12).2 k)) 0 (.ref (a + 1)) ∧ ∀ q, a < q → q < a + 662 → gdo H m F q := by
  intro S0 h1 h2
  have T : fm_T RL cL_init tc_L_init fr_L mr_L cr_L lr_L := ⟨tok_L, dc_L_init⟩
  have hS : cI H S0 a (a + 1) 0 (fun _ k => defaultValue ((px_cn 12).2 k)) S0 := by
    refine ⟨Nat.le_refl _, fun q q1 q2 => ?_, fun q _ => rfl, ?_⟩
    · have : q = a := by omega
      subst this
      exact ⟨_, h0, h1⟩
    · rw [show S0.2.2.1 + (a + 1 - (a + 1)) = S0.2.2.1 by omega, ← h2]
      rfl
  have hP : cP H m a [(a, fun k => defaultValue ((px_cn 12).2 k))] (fun _ k => defaultValue ((px_cn 12).2 k)) (a + 1) := by
    refine ⟨fun x hx => ?_, fun q q1 q2 hx => absurd (show a = q by omega) (hx (a, _) List.mem_cons_self)⟩
    rcases List.mem_cons.mp hx with z | z
    · subst z
      exact ⟨by show a < a + 1; omega, rfl⟩
    · cases z
  have v : vq G H m (d + 4) RL cL_init (fun r S1 => r = .inl none ∧ ∃ F, cI H S0 a (a + 662) 7130 F S1 ∧ F a = pm_up (fun k => defaultValue ((px_cn 12).2 k)) 0 (.ref (a + 1)) ∧ ∀ q, a < q → q < a + 662 → gdo H m F q) S0 a 0 [some (.ref a)] [] (a + 1) 0 [(a, fun k => defaultValue ((px_cn 12).2 k))] := by
    refine vq_r T 1 1 [some (.ref a)] [.ref a] rfl ?_
    refine vq_oi T 4 rfl rfl rfl rfl ?_
    refine vq_r T 1 5 [some (.ref a)] [.ref a] rfl ?_
    refine vq_sub (N := 9) T 12 rfl rfl rfl rfl rfl rfl rfl rfl hd.1 (ct_dsk (d := d) hd) ?_
    refine vq_n (e' := a + 662) (sl' := 7130) (by omega) (by omega) ?_
    refine vq_pf T 15 [] _ rfl rfl (Or.inr rfl) rfl (Nat.le_refl _) h0 rfl rfl nmE0 ?_
    intro F hF
    refine vc_ret T rfl (fun S hS => ⟨rfl, F, hS, (hF.1 (a, _) List.mem_cons_self).2, fun q q1 q2 => hF.2 q (by omega) q2 (fun x hx e => ?_)⟩)
    rcases List.mem_cons.mp hx with z | z
    · subst z
      have e' : a = q := e
      omega
    · cases z
  obtain ⟨k, r1, S1, hg, hr, F, f1, f2⟩ := v (fun _ k => defaultValue ((px_cn 12).2 k)) hP S0 hS
  subst hr
  refine ⟨S1, F, Or.inl ⟨cL_init, 1, none, mt_L_init, Nat.le_refl 1, fun v hv => ?_, k, hg⟩, f1, f2⟩
  rcases List.mem_cons.mp hv with e | e
  · rw [e]; rfl
  · cases e
section
variable {G : pm_G} {H : fm_H} {d : Nat} {z0 : Nat × Nat × Nat} {m m1 : fm_M} {o sc : Nat} {r : Int32}
/-- the law's object, whatever its row of numbers is -/
theorem run_holds (hE : fm_E G H) (h0 : H.1 o = some (.inl 12, 4)) (h1 : fm_ia H sc .int false) {f : Nat → Value} (hf : ∀ k, k ≠ 1 → f k = fm_v H m (.inl 12) o k) (hh : f_L_holds H o sc m = some (r, m1)) : pm_run G (d + 17) false yL_holds [.ref o, .ref sc] (pm_up (fm_c H m) o (some (.inl 12, 4, f)), (fl_z H z0).1 m) (.inl (some (.int r))) (fm_c H m1, (fl_z H z0).1 m1) := by
  have T : fm_T RL cL_holds tc_L_holds fr_L mr_L cr_L lr_L := ⟨tok_L, dc_L_holds⟩
  have hi : fm_is H o 12 := ⟨4, h0⟩
  refine px_run mt_L_holds (Nat.le_of_ble_eq_true rfl) rfl ?_
  show px_W G (pm_run G (d + 16)) RL false cL_holds (some (.boolean)) _ 0 [some (.ref o), some (.ref sc), none, none] [] _
  refine pr_fn T 2 (pc1 := 2) (ls1 := [some (.ref o), some (.ref sc), none, none]) (st1 := [.ref sc, .ref o]) rfl ?_
  have tt := T.1.1 _ (px_lk_in (k := 18) (x := (12, 1, .array .int, 0)) rfl)
  refine px_step (px_dc_at T.2 (pc := 2) (q := (.putfield 18, 3)) rfl) (fun _ _ _ _ h => h) ⟨rfl, 12, 1, .array .int, o, 4, .ref sc, [], f, rfl, tt.1, tt.2.1 rfl _, pm_up_s _ _ _, rfl, rfl, ?_⟩
  have eS : pm_up (pm_up (fm_c H m) o (some (.inl 12, 4, f))) o (some (.inl 12, 4, pm_up f 1 (.ref sc))) = fm_c H (fm_sr m o 1 sc) := by
    rw [pm_up_up, ← fm_c_sr (q := (.inl 12, 4)) h0 rfl]
    congr 4
    funext k
    by_cases e : k = 1
    · subst e
      rw [pm_up_s, pm_up_s]
    · rw [pm_up_n _ _ e, pm_up_n _ _ e, hf k e]
  have eZ : (fl_z H z0).1 m = (fl_z H z0).1 (fm_sr m o 1 sc) := ((fl_z H z0).2.2.1 m o 1 sc).symm
  have v : fm_V G H (d + 16) RL cL_holds (some (.boolean)) (fl_z H z0) (fun r1 m2 => r1 = .inl (some (.int r)) ∧ m2 = m1) 5 [some (.ref o), some (.ref sc), none, none] [] (fm_sr m o 1 sc) := by
    have hK : fm_o fm_rI (f_L_holds H o sc m) (fun r1 m2 => r1 = .inl (some (.int r)) ∧ m2 = m1) := ⟨r, m1, hh, rfl, rfl⟩
    unfold f_L_holds at hK
    rw [fb_d] at hK
    revert hK
    refine fs_r T 1 6 [some (.ref o), some (.ref sc), none, none] [.ref o] rfl ?_
    refine fs_vI T 9 rfl rfl rfl rfl rfl rfl hi (q_L_builds (d := d + 10) hE hi) ?_
    intro x1 m2
    refine fs_if_ne T 14 12 rfl rfl rfl (fun _ => ?_) (fun _ => ?_)
    · refine fs_r T 1 13 [some (.ref o), some (.ref sc), none, none] [.int (0 : Int32)] rfl ?_
      exact fs_retc T rfl rfl rfl rfl
    · refine fs_r T 2 16 [some (.ref o), some (.ref sc), some (.int (0 : Int32)), none] [] rfl ?_
      refine fs_wk (ls' := [some (.ref o), none, some (.int (0 : Int32)), none]) ⟨rfl, rfl, trivial⟩ ?_
      exact w_L_holds_16 hE hi _ _ _
  obtain ⟨n, r1, S1, hg, m2, e1, e2, e3⟩ := v
  refine ⟨n, r1, S1, ?_, e2, by rw [e1, e2, e3]; rfl⟩
  rw [eS, eZ]
  exact hg
end
