/-! THE LAW'S OWN: arrays by references that change; methods with handlers, and their calls -/
theorem fm_iab_ia {H : fm_H} {a : Nat} {ty : FieldType} {w : Bool} (h : fm_iab H a ty w = true) : fm_ia H a ty w := by
  unfold fm_iab at h
  have h2 := of_decide_eq_true h
  exact h2
/-- what a call of a method with handlers is -/
def fl_cal {β : Type} (G : pm_G) (H : fm_H) (d : Nat) (y : MethodName) (as : List Value) (z : fm_Z H) (m : fm_M) (R : β → pm_R) (o : Option (β × fm_M)) : Prop := ∀ x m1, o = some (x, m1) → pm_run G d true y as (fm_c H m, z.1 m) (R x) (fm_c H m1, fm_zz (R x) (z.1 m1))
section FML
variable {G : pm_G} {H : fm_H} {d : Nat} {own : String} {cc : ByteArray} {ret : Option FieldType} {z : fm_Z H} {K : pm_R → fm_M → Prop} {tc : px_TC} {fr : px_FR} {mr : px_MR} {cr : px_CR} {lr : px_LR} {P : Prop}
variable {pc : Nat} {ls : List (Option Value)} {st : List Value} {m : fm_M} {α β : Type} {r : α → pm_R}
theorem fs_gpa (T : fm_T own cc tc fr mr cr lr) (pc1 ci k a : Nat) {idx w : Nat} {ty ty9 : FieldType} {w9 : Bool} (h : px_lk tc pc = some (.getfield idx, 3)) (hf : px_lk fr idx = some (ci, k, ty, w)) (hk : fm_kc ci k = 1) (hp : pc + 3 = pc1) (ha : fm_is H a ci) {X : Option (α × fm_M)} (g : fm_ia H (m.2.1 a k) ty9 w9 → fm_o r X K → fm_V G H d own cc ret z K pc1 ls (.ref (m.2.1 a k) :: st) m) : fm_o r (if fm_iab H (m.2.1 a k) ty9 w9 = true then X else none) K → fm_V G H d own cc ret z K pc ls (.ref a :: st) m := fs_ck fun e p => fs_gf T h hf hp ha (by rw [fm_v1 (tg := .inl ci) hk]; exact g (fm_iab_ia e) p)
theorem fs_pra (T : fm_T own cc tc fr mr cr lr) (pc1 ci k a : Nat) {x : Nat} {ty : FieldType} {idx : Nat} (h : px_lk tc pc = some (.putfield idx, 3)) (hf : px_lk fr idx = some (ci, k, .array ty, 0)) (hk : fm_kc ci k = 1) (hp : pc + 3 = pc1) (ha : fm_is H a ci) {F : fm_M → Option (α × fm_M)} (g : ∀ m1, fm_o r (F m1) K → fm_V G H d own cc ret z K pc1 ls st m1) : fm_o r (fm_bd (fm_sr m a k x) F) K → fm_V G H d own cc ret z K pc ls (.ref x :: .ref a :: st) m := fun p =>
  fs_pf T h hf hk hp ha rfl rfl (fun hk n hn => fm_c_sr (q := (.inl ci, n)) hn hk) (z.2.2.1 _ _ _ _) (g _ p)
theorem fs_csh (T : fm_T own cc tc fr mr cr lr) {idx ci n rc : Nat} {thr : Bool} {y : MethodName} {As rest : List Value} {r1 : pm_R} {m1 : fm_M} (h : px_lk tc pc = some (.invokestatic idx, 3)) (hm : px_lk mr idx = some (1, ci, y, n, rc, thr)) (hml : Cond.methodLink own idx y ∈ pm_W) (h1 : st.drop n = rest) (h2 : (st.take n).reverse = As) (h3 : Nat.ble n st.length = true) (hs : Nat.ble ((rest.map fun v => v.category).sum) 8 = true) (hc : pm_run G d true y As (fm_c H m, z.1 m) r1 (fm_c H m1, fm_zz r1 (z.1 m1))) (g : pm_cb own cc ret [] (fun pc ls st S => px_W G (pm_run G d) own false cc ret (fm_KR H z K) pc ls st S) (fm_KR H z K) pc ls rest r1 (fm_c H m1, fm_zz r1 (z.1 m1))) : fm_V G H d own cc ret z K pc ls st m := by
  subst h2
  subst h1
  have m1' := (T.1.2.1 _ (px_lk_in hm)).2.1 rfl
  exact fs_step (px_dc_at T.2 h) ⟨rfl, Or.inr ⟨true, y, _, st.drop n, r1, _, by rw [List.length_reverse, List.length_take, Nat.min_eq_left (Nat.le_of_ble_eq_true h3)]; exact m1', fun _ => hml, by rw [List.reverse_reverse, List.take_append_drop], Nat.le_of_ble_eq_true hs, hc, g⟩⟩
theorem fs_sIh (T : fm_T own cc tc fr mr cr lr) (pc1 : Nat) {idx ci n rc : Nat} {thr : Bool} {y : MethodName} {As st9 : List Value} (h : px_lk tc pc = some (.invokestatic idx, 3)) (hm : px_lk mr idx = some (1, ci, y, n, rc, thr)) (hml : Cond.methodLink own idx y ∈ pm_W) (h1 : st.drop n = st9) (h2 : (st.take n).reverse = As) (h3 : Nat.ble n st.length = true) (hs : Nat.ble ((st9.map fun v => v.category).sum) 8 = true) (hp : pc + 3 = pc1) {o : Option (Int32 × fm_M)} (hq : fl_cal G H d y As z m fm_rI o) {F : Int32 → fm_M → Option (α × fm_M)} (g : ∀ (x : Int32) m1, fm_o r (F x m1) K → fm_V G H d own cc ret z K pc1 ls (.int x :: st9) m1) : fm_o r (fm_bn o F) K → fm_V G H d own cc ret z K pc ls st m := fun p => by
  subst hp
  match o, hq, p with
  | some (x, m1), hq, p => exact fs_csh T h hm hml h1 h2 h3 hs (hq _ _ rfl) (g x m1 p)
  | none, hq, p => exact fs_none p
theorem fs_sDh (T : fm_T own cc tc fr mr cr lr) (pc1 : Nat) {idx ci n rc : Nat} {thr : Bool} {y : MethodName} {As st9 : List Value} (h : px_lk tc pc = some (.invokestatic idx, 3)) (hm : px_lk mr idx = some (1, ci, y, n, rc, thr)) (hml : Cond.methodLink own idx y ∈ pm_W) (h1 : st.drop n = st9) (h2 : (st.take n).reverse = As) (h3 : Nat.ble n st.length = true) (hs : Nat.ble ((st9.map fun v => v.category).sum) 8 = true) (hp : pc + 3 = pc1) {o : Option (UInt64 × fm_M)} (hq : fl_cal G H d y As z m fm_rD o) {F : UInt64 → fm_M → Option (α × fm_M)} (g : ∀ (x : UInt64) m1, fm_o r (F x m1) K → fm_V G H d own cc ret z K pc1 ls (.double x :: st9) m1) : fm_o r (fm_bn o F) K → fm_V G H d own cc ret z K pc ls st m := fun p => by
  subst hp
  match o, hq, p with
  | some (x, m1), hq, p => exact fs_csh T h hm hml h1 h2 h3 hs (hq _ _ rfl) (g x m1 p)
  | none, hq, p => exact fs_none p
theorem fs_vF (T : fm_T own cc tc fr mr cr lr) (pc1 : Nat) {idx ci n rc b : Nat} {thr : Bool} {y : MethodName} {As st9 : List Value} (h : px_lk tc pc = some (.invokevirtual idx, 3)) (hm : px_lk mr idx = some (0, ci, y, n, rc, thr)) (h1 : st.drop n = .ref b :: st9) (h2 : (st.take n).reverse = As) (hs : Nat.ble ((st9.map fun v => v.category).sum) 8 = true) (hp : pc + 3 = pc1) (hb : fm_is H b ci) {o : Option (UInt32 × fm_M)} (hq : fm_cal G H d y (.ref b :: As) z m fm_rF o) {F : UInt32 → fm_M → Option (α × fm_M)} (g : ∀ (x : UInt32) m1, fm_o r (F x m1) K → fm_V G H d own cc ret z K pc1 ls (.float x :: st9) m1) : fm_o r (fm_bn o F) K → fm_V G H d own cc ret z K pc ls st m := fun p => by
  subst hp
  match o, hq, p with
  | some (x, m1), hq, p => exact fs_cv T h hm h1 h2 hs hb (hq _ _ rfl) (g x m1 p)
  | none, hq, p => exact fs_none p
end FML
/-! A FRAME STEP BY STEP, with or without handlers -/
def xw (G : pm_G) (cal : pm_Cal) (own : String) (ini : Bool) (b : ByteArray) (ret : Option FieldType) (xt : List (Nat × Nat × Nat × Nat)) (KR : pm_E) (pc : Nat) (ls : List (Option Value)) (st : List Value) (S : pm_S) : Prop := ∃ (n : Nat) (r : pm_R) (S' : pm_S), pm_go G cal own ini b ret xt r S' n pc ls st S ∧ KR r S'
section XWS
variable {G : pm_G} {cal : pm_Cal} {own : String} {ini : Bool} {b : ByteArray} {ret : Option FieldType} {xt : List (Nat × Nat × Nat × Nat)} {KR : pm_E} {pc : Nat} {ls ls' : List (Option Value)} {st st' : List Value} {S S1 : pm_S} {ins : Instr} {len : Nat}
theorem xw_one (p' : Nat) (hd : decode b pc = .ok (ins, len)) (hs : ∀ (K : pm_K) (KR' : pm_E), K p' ls' st' S1 → pm_step G cal own ini b ret xt K KR' pc ls st S ins len) (k : xw G cal own ini b ret xt KR p' ls' st' S1) : xw G cal own ini b ret xt KR pc ls st S := by
  obtain ⟨n, r, S', h, hk⟩ := k
  exact ⟨n + 1, r, S', ⟨ins, len, hd, hs _ _ h⟩, hk⟩
theorem xw_end {r : pm_R} (hd : decode b pc = .ok (ins, len)) (hs : ∀ (K : pm_K) (KR' : pm_E), KR' r S1 → pm_step G cal own ini b ret xt K KR' pc ls st S ins len) (k : KR r S1) : xw G cal own ini b ret xt KR pc ls st S :=
  ⟨1, r, S1, ⟨ins, len, hd, hs _ _ ⟨rfl, rfl⟩⟩, k⟩
theorem xw_fn (p' : Nat) (hd : decode b pc = .ok (ins, len)) (hl : len = pm_len ins) (hq : pm_fn ins pc ls st = some (p', ls', st')) (k : xw G cal own ini b ret xt KR p' ls' st' S) : xw G cal own ini b ret xt KR pc ls st S :=
  xw_one p' hd (fun K KR' hk => by
    unfold pm_step
    split <;> first | exact ⟨hl, _, hq, hk⟩ | (simp [pm_fn] at hq)) k
theorem xw_goto (p' : Nat) {off : Int} (hd : decode b pc = .ok (.goto off, 3)) (ht : (pc : Int) + off = (p' : Int)) (k : xw G cal own ini b ret xt KR p' ls st S) : xw G cal own ini b ret xt KR pc ls st S :=
  xw_one p' hd (fun K KR' hk => ⟨rfl, p', ht, hk⟩) k
theorem xw_eq_t (p' : Nat) {off : Int} {x : Int32} {r : List Value} (hd : decode b pc = .ok (.ifCond .eq off, 3)) (ht : (pc : Int) + off = (p' : Int)) (hx : x = 0) (k : xw G cal own ini b ret xt KR p' ls r S) : xw G cal own ini b ret xt KR pc ls (.int x :: r) S :=
  xw_one p' hd (fun K KR' hk => ⟨rfl, x, r, p', rfl, ht, fun _ => hk, fun h => (h hx).elim⟩) k
theorem xw_eq_f (p' t : Nat) {off : Int} {x : Int32} {r : List Value} (hd : decode b pc = .ok (.ifCond .eq off, 3)) (ht : (pc : Int) + off = (t : Int)) (hp : pc + 3 = p') (hx : ¬ x = 0) (k : xw G cal own ini b ret xt KR p' ls r S) : xw G cal own ini b ret xt KR pc ls (.int x :: r) S := by
  subst hp
  exact xw_one _ hd (fun K KR' hk => ⟨rfl, x, r, t, rfl, ht, fun h => (hx h).elim, fun _ => hk⟩) k
theorem xw_ne_t (p' : Nat) {off : Int} {x : Int32} {r : List Value} (hd : decode b pc = .ok (.ifCond .ne off, 3)) (ht : (pc : Int) + off = (p' : Int)) (hx : ¬ x = 0) (k : xw G cal own ini b ret xt KR p' ls r S) : xw G cal own ini b ret xt KR pc ls (.int x :: r) S :=
  xw_one p' hd (fun K KR' hk => ⟨rfl, x, r, p', rfl, ht, fun _ => hk, fun h => (h hx).elim⟩) k
theorem xw_ne_f (p' t : Nat) {off : Int} {x : Int32} {r : List Value} (hd : decode b pc = .ok (.ifCond .ne off, 3)) (ht : (pc : Int) + off = (t : Int)) (hp : pc + 3 = p') (hx : x = 0) (k : xw G cal own ini b ret xt KR p' ls r S) : xw G cal own ini b ret xt KR pc ls (.int x :: r) S := by
  subst hp
  exact xw_one _ hd (fun K KR' hk => ⟨rfl, x, r, t, rfl, ht, fun h => (h hx).elim, fun _ => hk⟩) k
theorem xw_ceq_t (p' : Nat) {off : Int} {x y : Int32} {r : List Value} (hd : decode b pc = .ok (.if_icmp .eq off, 3)) (ht : (pc : Int) + off = (p' : Int)) (hx : x = y) (k : xw G cal own ini b ret xt KR p' ls r S) : xw G cal own ini b ret xt KR pc ls (.int y :: .int x :: r) S :=
  xw_one p' hd (fun K KR' hk => ⟨rfl, x, y, r, p', rfl, ht, fun _ => hk, fun h => (h hx).elim⟩) k
theorem xw_cgt_t (p' : Nat) {off : Int} {x y : Int32} {r : List Value} (hd : decode b pc = .ok (.if_icmp .gt off, 3)) (ht : (pc : Int) + off = (p' : Int)) (hx : y < x) (k : xw G cal own ini b ret xt KR p' ls r S) : xw G cal own ini b ret xt KR pc ls (.int y :: .int x :: r) S :=
  xw_one p' hd (fun K KR' hk => ⟨rfl, x, y, r, p', rfl, ht, fun _ => hk, fun h => (h hx).elim⟩) k
theorem xw_cgt_f (p' t : Nat) {off : Int} {x y : Int32} {r : List Value} (hd : decode b pc = .ok (.if_icmp .gt off, 3)) (ht : (pc : Int) + off = (t : Int)) (hp : pc + 3 = p') (hx : ¬ y < x) (k : xw G cal own ini b ret xt KR p' ls r S) : xw G cal own ini b ret xt KR pc ls (.int y :: .int x :: r) S := by
  subst hp
  exact xw_one _ hd (fun K KR' hk => ⟨rfl, x, y, r, t, rfl, ht, fun h => (hx h).elim, fun _ => hk⟩) k
theorem xw_ts (p' : Nat) {d lo hi off : Int} {offs : Array Int} {x : Int32} {r : List Value} (hd : decode b pc = .ok (.tableswitch d lo hi offs, len)) (h1 : lo ≤ x.toInt) (h2 : x.toInt ≤ hi) (ho : offs[(x.toInt - lo).toNat]? = some off) (ht : (pc : Int) + off = (p' : Int)) (k : xw G cal own ini b ret xt KR p' ls r S) : xw G cal own ini b ret xt KR pc ls (.int x :: r) S :=
  xw_one p' hd (fun K KR' hk => ⟨x, r, rfl, fun h => by omega, fun _ _ => ⟨off, p', ho, ht, hk⟩⟩) k
theorem xw_td (p' : Nat) {d lo hi : Int} {offs : Array Int} {x : Int32} {r : List Value} (hd : decode b pc = .ok (.tableswitch d lo hi offs, len)) (h1 : x.toInt < lo ∨ hi < x.toInt) (ht : (pc : Int) + d = (p' : Int)) (k : xw G cal own ini b ret xt KR p' ls r S) : xw G cal own ini b ret xt KR pc ls (.int x :: r) S :=
  xw_one p' hd (fun K KR' hk => ⟨x, r, rfl, fun _ => ⟨p', ht, hk⟩, fun h2 h3 => by omega⟩) k
theorem xw_iald (p' : Nat) {i : Int32} {a n : Nat} {w : Bool} {f : Nat → Value} {r : List Value} (hd : decode b pc = .ok (.iaload, 1)) (hp : pc + 1 = p') (hS : S.1 a = some (.inr (.int, w), n, f)) (hi : vp_in i n) (k : xw G cal own ini b ret xt KR p' ls (f i.toNatClampNeg :: r) S) : xw G cal own ini b ret xt KR pc ls (.int i :: .ref a :: r) S := by
  subst hp
  exact xw_one _ hd (fun K KR' hk => ⟨rfl, i, a, n, r, .int, w, f, rfl, hS, rfl, hi, hk⟩) k
theorem xw_lald (p' : Nat) {i : Int32} {a n : Nat} {w : Bool} {f : Nat → Value} {r : List Value} (hd : decode b pc = .ok (.laload, 1)) (hp : pc + 1 = p') (hS : S.1 a = some (.inr (.long, w), n, f)) (hi : vp_in i n) (k : xw G cal own ini b ret xt KR p' ls (f i.toNatClampNeg :: r) S) : xw G cal own ini b ret xt KR pc ls (.int i :: .ref a :: r) S := by
  subst hp
  exact xw_one _ hd (fun K KR' hk => ⟨rfl, i, a, n, r, .long, w, f, rfl, hS, rfl, hi, hk⟩) k
theorem xw_dald (p' : Nat) {i : Int32} {a n : Nat} {w : Bool} {f : Nat → Value} {r : List Value} (hd : decode b pc = .ok (.daload, 1)) (hp : pc + 1 = p') (hS : S.1 a = some (.inr (.double, w), n, f)) (hi : vp_in i n) (k : xw G cal own ini b ret xt KR p' ls (f i.toNatClampNeg :: r) S) : xw G cal own ini b ret xt KR pc ls (.int i :: .ref a :: r) S := by
  subst hp
  exact xw_one _ hd (fun K KR' hk => ⟨rfl, i, a, n, r, .double, w, f, rfl, hS, rfl, hi, hk⟩) k
theorem xw_last (p' : Nat) {v : Int64} {i : Int32} {a n : Nat} {f : Nat → Value} {r : List Value} (hd : decode b pc = .ok (.lastore, 1)) (hp : pc + 1 = p') (hS : S.1 a = some (.inr (.long, true), n, f)) (hi : vp_in i n) (k : xw G cal own ini b ret xt KR p' ls r (pm_up S.1 a (some (.inr (.long, true), n, pm_up f i.toNatClampNeg (.long v))), S.2)) : xw G cal own ini b ret xt KR pc ls (.long v :: .int i :: .ref a :: r) S := by
  subst hp
  exact xw_one _ hd (fun K KR' hk => ⟨rfl, .long v, .long v, i, a, n, r, .long, f, rfl, hS, ⟨rfl, ⟨v, rfl⟩, rfl⟩, hi, hk⟩) k
theorem xw_dast (p' : Nat) {v : UInt64} {i : Int32} {a n : Nat} {f : Nat → Value} {r : List Value} (hd : decode b pc = .ok (.dastore, 1)) (hp : pc + 1 = p') (hS : S.1 a = some (.inr (.double, true), n, f)) (hi : vp_in i n) (k : xw G cal own ini b ret xt KR p' ls r (pm_up S.1 a (some (.inr (.double, true), n, pm_up f i.toNatClampNeg (.double v))), S.2)) : xw G cal own ini b ret xt KR pc ls (.double v :: .int i :: .ref a :: r) S := by
  subst hp
  exact xw_one _ hd (fun K KR' hk => ⟨rfl, .double v, .double v, i, a, n, r, .double, f, rfl, hS, ⟨rfl, ⟨v, rfl⟩, rfl⟩, hi, hk⟩) k
theorem xw_alen (p' : Nat) {a n : Nat} {q : FieldType × Bool} {f : Nat → Value} {r : List Value} (hd : decode b pc = .ok (.arraylength, 1)) (hp : pc + 1 = p') (hS : S.1 a = some (.inr q, n, f)) (k : xw G cal own ini b ret xt KR p' ls (.int (Int32.ofNat n) :: r) S) : xw G cal own ini b ret xt KR pc ls (.ref a :: r) S := by
  subst hp
  exact xw_one _ hd (fun K KR' hk => ⟨rfl, a, n, r, q, f, rfl, hS, hk⟩) k
theorem xw_f2d (p' : Nat) {x : UInt32} {r : List Value} (hd : decode b pc = .ok (.f2d, 1)) (hp : pc + 1 = p') (hn : vf_n64 (FP.f2d x)) (k : xw G cal own ini b ret xt KR p' ls (.double (FP.f2d x) :: r) S) : xw G cal own ini b ret xt KR pc ls (.float x :: r) S := by
  subst hp
  exact xw_one _ hd (fun K KR' hk => ⟨rfl, x, r, rfl, hn, hk⟩) k
theorem xw_cv (p' : Nat) {idx : Nat} {y : MethodName} {As rest : List Value} {a ci n : Nat} {f : Nat → Value} {v : Option Value} (hd : decode b pc = .ok (.invokevirtual idx, 3)) (hp : pc + 3 = p') (hiv : pm_iv own idx y As.length) (hst : st = As.reverse ++ .ref a :: rest) (hw : pm_w8 rest) (hS : S.1 a = some (.inl ci, n, f)) (hc : pm_cnm ci = some y.cls) (hcal : cal false y (.ref a :: As) S (.inl v) S1) (k : xw G cal own ini b ret xt KR p' ls (v.toList ++ rest) S1) : xw G cal own ini b ret xt KR pc ls st S := by
  subst hp
  exact xw_one _ hd (fun K KR' hk => ⟨rfl, y, As, rest, a, ci, n, f, _, _, _, hiv, hst, hw, hS, hc, rfl, hcal, hk⟩) k
theorem xw_cx {r9 : pm_R} {idx : Nat} {y : MethodName} {As rest : List Value} {a ci n : Nat} {f : Nat → Value} {E : String} (hd : decode b pc = .ok (.invokevirtual idx, 3)) (hiv : pm_iv own idx y As.length) (hst : st = As.reverse ++ .ref a :: rest) (hw : pm_w8 rest) (hS : S.1 a = some (.inl ci, n, f)) (hc : pm_cnm ci = some y.cls) (hcal : cal false y (.ref a :: As) S (.inr E) S1) (hx : ∀ KR' : pm_E, KR' r9 S1 → pm_ex own b ret xt KR' pc ls.length E S1) (k : KR r9 S1) : xw G cal own ini b ret xt KR pc ls st S :=
  xw_end hd (fun K KR' hk => ⟨rfl, y, As, rest, a, ci, n, f, _, _, _, hiv, hst, hw, hS, hc, rfl, hcal, hx KR' hk⟩) k
theorem xw_cs (p' : Nat) {fl : Bool} {idx : Nat} {y : MethodName} {As rest : List Value} {v : Option Value} (hd : decode b pc = .ok (.invokestatic idx, 3)) (hp : pc + 3 = p') (his : pm_is own idx y As.length) (hfl : Cond.methodLink own idx y ∈ pm_W) (hst : st = As.reverse ++ rest) (hw : pm_w8 rest) (hcal : cal fl y As S (.inl v) S1) (k : xw G cal own ini b ret xt KR p' ls (v.toList ++ rest) S1) : xw G cal own ini b ret xt KR pc ls st S := by
  subst hp
  exact xw_one _ hd (fun K KR' hk => ⟨rfl, Or.inr ⟨fl, y, As, rest, _, _, his, fun _ => hfl, hst, hw, hcal, hk⟩⟩) k
theorem xw_iret {v : Int32} {ty : FieldType} (hd : decode b pc = .ok (.ireturn, 1)) (hr : ret = some ty) (hn : narrow ty (.int v) = .int v) (k : KR (.inl (some (.int v))) S) : xw G cal own ini b ret xt KR pc ls [.int v] S :=
  xw_end hd (fun K KR' hk => ⟨rfl, v, ty, rfl, hr, hn, hk⟩) k
end XWS
section XWL
variable {G : pm_G} {cal : pm_Cal} {own : String} {ini : Bool} {b : ByteArray} {ret : Option FieldType} {xt : List (Nat × Nat × Nat × Nat)} {KR : pm_E} {ls : List (Option Value)} {st : List Value} {S : pm_S} {tc : px_TC} {fr : px_FR} {mr : px_MR} {cr : px_CR} {lr : px_LR}
theorem xw_dret {pc : Nat} {v : UInt64} (hd : decode b pc = .ok (.dreturn, 1)) (hr : ret = some .double) (k : KR (.inl (some (.double v))) S) : xw G cal own ini b ret xt KR pc ls [.double v] S :=
  xw_end hd (fun K KR' hk => ⟨rfl, v, rfl, hr, hk⟩) k
theorem xw_ru (T : fm_T own b tc fr mr cr lr) : ∀ (n pc pc1 : Nat) {ls : List (Option Value)} {st : List Value} (ls1 : List (Option Value)) (st1 : List Value), fm_ru tc n pc ls st = some (pc1, ls1, st1) → xw G cal own ini b ret xt KR pc1 ls1 st1 S → xw G cal own ini b ret xt KR pc ls st S := by
  intro n
  induction n with
  | zero =>
    intro pc pc1 ls st ls1 st1 h g
    cases h
    exact g
  | succ n ih =>
    intro pc pc1 ls st ls1 st1 h g
    unfold fm_ru at h
    split at h
    · cases h
    · rename_i ins len hq
      have hd := px_dc_at T.2 hq
      split at h
      · rename_i off
        cases hb : Nat.beq len 3 with
        | false => rw [hb] at h; cases h
        | true =>
          rw [hb] at h
          simp only [cond_true] at h
          have e := Nat.eq_of_beq_eq_true hb
          subst e
          split at h
          · rename_i t ht
            exact xw_goto t hd (px_tg_eq ht) (ih _ _ _ _ h g)
          · cases h
      · rename_i x9 hng
        cases hb : Nat.beq len (pm_len ins) with
        | false => rw [hb] at h; cases h
        | true =>
          rw [hb] at h
          simp only [cond_true] at h
          split at h
          · rename_i q9 hq9
            exact xw_fn q9.1 hd (Nat.eq_of_beq_eq_true hb) hq9 (ih _ _ _ _ h g)
          · cases h
end XWL
/-- a method with handlers: its call's answer, or a handler's, which is counted -/
def fl_w {α : Type} (H : fm_H) (o : Option ((α ⊕ String) × fm_M)) (F : α → Int32) (h : String → Option Int32) : Option (Int32 × fm_M) := match o with
  | some (.inl x, m1) => some (F x, m1)
  | some (.inr E, m1) => if fl_n H m1 < 1000000 ∧ 0 ≤ (m1.1 (fm_g H) 0).toInt then (match h E with
    | some v => some (v, fl_e H m1)
    | none => none) else none
  | none => none
def fl_wd (o : Option ((UInt64 ⊕ String) × fm_M)) : Option (UInt64 × fm_M) := match o with
  | some (.inl x, m1) => some (x, m1)
  | _ => none
theorem fl_z_e {G : pm_G} {H : fm_H} (hE : fm_E G H) {z0 : Nat × Nat × Nat} {m : fm_M} (h : fl_n H m < 1000000) (h0 : 0 ≤ (m.1 (fm_g H) 0).toInt) (E : String) : (fm_c H m, fm_zz (.inr E) ((fl_z H z0).1 m)) = (fm_c H (fl_e H m), (fl_z H z0).1 (fl_e H m)) := by
  rw [fl_c_e hE]
  congr 1
  show (none, _, _) = fl_f H z0 (fl_e H m)
  unfold fl_f
  rw [fl_n_e hE h h0, if_neg (by omega)]
  show (none, z0.2.1 + fl_n H m + 1, z0.2.2 + 6 * fl_n H m + 6) = _
  congr 2
section FLW
variable {G : pm_G} {H : fm_H} {d : Nat} {z0 : Nat × Nat × Nat} {m : fm_M} {own : String} {y yc : MethodName} {cc : ByteArray} {maxL n0 pcc n rc ci b idx : Nat} {ret : Option FieldType} {xt : List (Nat × Nat × Nat × Nat)} {tc : px_TC} {fr : px_FR} {mr : px_MR} {cr : px_CR} {lr : px_LR} {as As st1 : List Value} {ls1 : List (Option Value)} {thr : Bool}
theorem fl_call (T : fm_T own cc tc fr mr cr lr) (h0 : fm_ru tc n0 0 (pm_ent as maxL) [] = some (pcc, ls1, st1)) (hc : px_lk tc pcc = some (.invokevirtual idx, 3)) (hmr : px_lk mr idx = some (0, ci, yc, n, rc, thr)) (h1 : st1.drop n = [.ref b]) (h2 : (st1.take n).reverse = As) (hb : fm_is H b ci) {KR : pm_E} {r1 : pm_R} {m1 : fm_M} {z1 : Option Nat × Nat × Nat}
    (hr : pm_run G d false yc (.ref b :: As) (fm_c H m, (fl_z H z0).1 m) r1 (fm_c H m1, z1)) (k : match r1 with
      | .inl v => xw G (pm_run G d) own false cc ret xt KR (pcc + 3) ls1 (v.toList ++ []) (fm_c H m1, z1)
      | .inr E => ∃ r9, (∀ KR' : pm_E, KR' r9 (fm_c H m1, z1) → pm_ex own cc ret xt KR' pcc ls1.length E (fm_c H m1, z1)) ∧ KR r9 (fm_c H m1, z1)) : xw G (pm_run G d) own false cc ret xt KR 0 (pm_ent as maxL) [] (fm_c H m, (fl_z H z0).1 m) := by
  subst h2
  obtain ⟨m1', q9, m2, m3⟩ := (T.1.2.1 _ (px_lk_in hmr)).1 rfl
  obtain ⟨t1, t2⟩ := px_take h1
  obtain ⟨n9, hb⟩ := hb
  refine xw_ru T n0 0 pcc ls1 st1 h0 ?_
  subst m3
  cases r1 with
  | inl v => exact xw_cv (pcc + 3) (px_dc_at T.2 hc) rfl (by rw [t2]; exact m1') t1 (Nat.le_of_ble_eq_true rfl) (fm_c_at hb) m2 hr k
  | inr E =>
    obtain ⟨r9, k1, k2⟩ := k
    exact xw_cx (px_dc_at T.2 hc) (by rw [t2]; exact m1') t1 (Nat.le_of_ble_eq_true rfl) (fm_c_at hb) m2 hr k1 k2
theorem fl_run (hm : pm_mh y cc maxL ret xt) (hy : y.cls = own) (hl : Nat.ble as.length maxL = true) (hd : as.all pm_dp = true) (hi : decide (y.name = "<init>") = false) {S S' : pm_S} {v : Value} (h : xw G (pm_run G d) own false cc ret xt (fun r1 S1 => r1 = .inl (some v) ∧ S1 = S') 0 (pm_ent as maxL) [] S) : pm_run G (d + 1) true y as S (.inl (some v)) S' := by
  obtain ⟨n, r1, S1, hg, rfl, rfl⟩ := h
  refine Or.inr ⟨rfl, some v, rfl, cc, maxL, ret, xt, hm, Nat.le_of_ble_eq_true hl, fun v hv => List.all_eq_true.mp hd v hv, n, ?_⟩
  rw [hy, hi]
  exact hg
theorem fl_wr {o : Option ((Int32 ⊕ String) × fm_M)} {F : Int32 → Int32} {h : String → Option Int32} (T : fm_T own cc tc fr mr cr lr) (hm : pm_mh y cc maxL ret xt) (hy : y.cls = own) (hl : Nat.ble as.length maxL = true) (hd : as.all pm_dp = true) (hi : decide (y.name = "<init>") = false) (hE : fm_E G H)
    (h0 : fm_ru tc n0 0 (pm_ent as maxL) [] = some (pcc, ls1, st1)) (hc : px_lk tc pcc = some (.invokevirtual idx, 3)) (hmr : px_lk mr idx = some (0, ci, yc, n, rc, thr)) (h1 : st1.drop n = [.ref b]) (h2 : (st1.take n).reverse = As) (hb : fm_is H b ci)
    (hq : fm_cal G H d yc (.ref b :: As) (fl_z H z0) m (fm_rX fm_rI) o)
    (hn : ∀ (x : Int32) (KR : pm_E) (S : pm_S), KR (.inl (some (.int (F x)))) S → xw G (pm_run G d) own false cc ret xt KR (pcc + 3) ls1 [.int x] S)
    (hx : ∀ (E : String) (v : Int32) (KR : pm_E) (S : pm_S), h E = some v → KR (.inl (some (.int v))) S → pm_ex own cc ret xt KR pcc ls1.length E S) : fl_cal G H (d + 1) y as (fl_z H z0) m fm_rI (fl_w H o F h) := by
  intro x m1 ho
  match o, hq, ho with
  | some (.inl w, m2), hq, ho =>
    cases ho
    exact fl_run hm hy hl hd hi (fl_call T h0 hc hmr h1 h2 hb (hq _ _ rfl) (hn w _ _ ⟨rfl, rfl⟩))
  | some (.inr E, m2), hq, ho =>
    unfold fl_w at ho
    dsimp only at ho
    split at ho
    · rename_i g
      split at ho
      · rename_i v hv
        cases ho
        refine fl_run hm hy hl hd hi (fl_call T h0 hc hmr h1 h2 hb (hq _ _ rfl) ⟨.inl (some (.int x)), fun KR' hk => hx E x KR' _ hv hk, rfl, ?_⟩)
        exact fl_z_e hE g.1 g.2 E
      · cases ho
    · cases ho
theorem fl_wrV {o : Option ((Unit ⊕ String) × fm_M)} {F : Unit → Int32} {h : String → Option Int32} (T : fm_T own cc tc fr mr cr lr) (hm : pm_mh y cc maxL ret xt) (hy : y.cls = own) (hl : Nat.ble as.length maxL = true) (hd : as.all pm_dp = true) (hi : decide (y.name = "<init>") = false) (hE : fm_E G H)
    (h0 : fm_ru tc n0 0 (pm_ent as maxL) [] = some (pcc, ls1, st1)) (hc : px_lk tc pcc = some (.invokevirtual idx, 3)) (hmr : px_lk mr idx = some (0, ci, yc, n, rc, thr)) (h1 : st1.drop n = [.ref b]) (h2 : (st1.take n).reverse = As) (hb : fm_is H b ci)
    (hq : fm_cal G H d yc (.ref b :: As) (fl_z H z0) m (fm_rX fm_rV) o)
    (hn : ∀ (KR : pm_E) (S : pm_S), KR (.inl (some (.int (F ())))) S → xw G (pm_run G d) own false cc ret xt KR (pcc + 3) ls1 [] S)
    (hx : ∀ (E : String) (v : Int32) (KR : pm_E) (S : pm_S), h E = some v → KR (.inl (some (.int v))) S → pm_ex own cc ret xt KR pcc ls1.length E S) : fl_cal G H (d + 1) y as (fl_z H z0) m fm_rI (fl_w H o F h) := by
  intro x m1 ho
  match o, hq, ho with
  | some (.inl w, m2), hq, ho =>
    cases ho
    exact fl_run hm hy hl hd hi (fl_call T h0 hc hmr h1 h2 hb (hq _ _ rfl) (hn _ _ ⟨rfl, rfl⟩))
  | some (.inr E, m2), hq, ho =>
    unfold fl_w at ho
    dsimp only at ho
    split at ho
    · rename_i g
      split at ho
      · rename_i v hv
        cases ho
        refine fl_run hm hy hl hd hi (fl_call T h0 hc hmr h1 h2 hb (hq _ _ rfl) ⟨.inl (some (.int x)), fun KR' hk => hx E x KR' _ hv hk, rfl, ?_⟩)
        exact fl_z_e hE g.1 g.2 E
      · cases ho
    · cases ho
theorem fl_wrD {o : Option ((UInt64 ⊕ String) × fm_M)} (T : fm_T own cc tc fr mr cr lr) (hm : pm_mh y cc maxL ret xt) (hy : y.cls = own) (hl : Nat.ble as.length maxL = true) (hd : as.all pm_dp = true) (hi : decide (y.name = "<init>") = false) (hE : fm_E G H)
    (h0 : fm_ru tc n0 0 (pm_ent as maxL) [] = some (pcc, ls1, st1)) (hc : px_lk tc pcc = some (.invokevirtual idx, 3)) (hmr : px_lk mr idx = some (0, ci, yc, n, rc, thr)) (h1 : st1.drop n = [.ref b]) (h2 : (st1.take n).reverse = As) (hb : fm_is H b ci)
    (hq : fm_cal G H d yc (.ref b :: As) (fl_z H z0) m (fm_rX fm_rD) o)
    (hn : ∀ (x : UInt64) (KR : pm_E) (S : pm_S), KR (.inl (some (.double x))) S → xw G (pm_run G d) own false cc ret xt KR (pcc + 3) ls1 [.double x] S) : fl_cal G H (d + 1) y as (fl_z H z0) m fm_rD (fl_wd o) := by
  intro x m1 ho
  match o, hq, ho with
  | some (.inl w, m2), hq, ho =>
    cases ho
    exact fl_run hm hy hl hd hi (fl_call T h0 hc hmr h1 h2 hb (hq _ _ rfl) (hn _ _ _ ⟨rfl, rfl⟩))
  | some (.inr E, m2), hq, ho => cases ho
end FLW
