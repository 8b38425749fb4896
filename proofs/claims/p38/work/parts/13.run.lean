/-! a run's cells and slots only grow; frames and methods run as the machine does -/
section PMR
variable {G : pm_G} {cal : pm_Cal} {own : String} {ini : Bool} {cc : ByteArray} {ret : Option FieldType} {xt : List (Nat × Nat × Nat × Nat)} {K : pm_K} {KR : pm_E} {C N : Nat}
theorem pm_br_le {P : Prop} {pc t : Nat} {ls : List (Option Value)} {r : List Value} {S : pm_S} {Z : Prop} (hK : ∀ (pc : Nat) (ls : List (Option Value)) (st : List Value), K pc ls st S → Z) (h : pm_br P K pc t ls r S) : Z := by
  by_cases q : P
  · exact hK _ _ _ (h.1 q)
  · exact hK _ _ _ (h.2 q)
theorem pm_cbl {pc : Nat} {ls : List (Option Value)} {rest : List Value} {r : pm_R} {S : pm_S} {Z : Prop} (hK : ∀ (pc : Nat) (ls : List (Option Value)) (st : List Value), K pc ls st S → Z) (hB : ∀ (r : pm_R), KR r S → Z) (h : pm_cb own cc ret xt K KR pc ls rest r S) : Z := by
  cases r with
  | inl v => exact hK _ _ _ h
  | inr E =>
    rcases h with ⟨-, h2⟩ | ⟨pre, suf, z, nm, v, -, -, -, -, -, -, -, -, hrt⟩
    · exact hB _ h2
    · obtain ⟨v, ty, -, -, -, h2⟩ := hrt
      exact hB _ h2
theorem pm_rtl {st : List Value} {S : pm_S} {ins : Instr} {Z : Prop} (hB : ∀ (r : pm_R), KR r S → Z) (h : pm_rt ret KR st S ins) : Z := by
  unfold pm_rt at h
  split at h
  · obtain ⟨v, ty, -, -, -, h⟩ := h
    exact hB _ h
  · obtain ⟨-, -, h⟩ := h
    exact hB _ h
  · obtain ⟨v, ty, -, -, -, h⟩ := h
    exact hB _ h
  · obtain ⟨v, -, -, h⟩ := h
    exact hB _ h
  · obtain ⟨v, -, -, h⟩ := h
    exact hB _ h
  · exact h.elim
set_option maxHeartbeats 1000000 in
theorem pm_step_le (hcal : ∀ (fl : Bool) (y : MethodName) (as : List Value) (S : pm_S) (r : pm_R) (S1 : pm_S), cal fl y as S r S1 → S.2.2.1 ≤ S1.2.2.1 ∧ S.2.2.2 ≤ S1.2.2.2)
    (hK : ∀ (pc : Nat) (ls : List (Option Value)) (st : List Value) (S : pm_S), K pc ls st S → S.2.2.1 ≤ C ∧ S.2.2.2 ≤ N) (hB : ∀ (r : pm_R) (S : pm_S), KR r S → S.2.2.1 ≤ C ∧ S.2.2.2 ≤ N)
    {pc : Nat} {ls : List (Option Value)} {st : List Value} {S : pm_S} {ins : Instr} {len : Nat} (h : pm_step G cal own ini cc ret xt K KR pc ls st S ins len) : S.2.2.1 ≤ C ∧ S.2.2.2 ≤ N := by
  unfold pm_step at h
  split at h
  · obtain ⟨-, t, -, hk⟩ := h
    exact hK _ _ _ _ hk
  · obtain ⟨-, x, r, t, -, -, h⟩ := h
    split at h
    · exact pm_br_le (fun _ _ _ => hK _ _ _ _) h
    · exact pm_br_le (fun _ _ _ => hK _ _ _ _) h
    · exact pm_br_le (fun _ _ _ => hK _ _ _ _) h
    · exact pm_br_le (fun _ _ _ => hK _ _ _ _) h
    · exact pm_br_le (fun _ _ _ => hK _ _ _ _) h
    · exact pm_br_le (fun _ _ _ => hK _ _ _ _) h
  · obtain ⟨-, x, y, r, t, -, -, h⟩ := h
    split at h
    · exact pm_br_le (fun _ _ _ => hK _ _ _ _) h
    · exact pm_br_le (fun _ _ _ => hK _ _ _ _) h
    · exact pm_br_le (fun _ _ _ => hK _ _ _ _) h
    · exact pm_br_le (fun _ _ _ => hK _ _ _ _) h
    · exact pm_br_le (fun _ _ _ => hK _ _ _ _) h
    · exact pm_br_le (fun _ _ _ => hK _ _ _ _) h
  · rename_i d1 lo hi offs
    obtain ⟨x, r, -, ho, hi9⟩ := h
    by_cases q1 : x.toInt < lo ∨ hi < x.toInt
    · obtain ⟨t, -, hk⟩ := ho q1
      exact hK _ _ _ _ hk
    · obtain ⟨off, t, -, -, hk⟩ := hi9 (fun z => q1 (Or.inl z)) (fun z => q1 (Or.inr z))
      exact hK _ _ _ _ hk
  · obtain ⟨x, r, t, -, -, -, hk⟩ := h
    exact hK _ _ _ _ hk
  · obtain ⟨-, ⟨v, -, hk⟩ | ⟨tx, -, hk⟩⟩ := h
    · exact hK _ _ _ _ hk
    · exact hK _ _ _ _ hk
  · obtain ⟨-, ⟨v, -, hk⟩ | ⟨v, -, hk⟩⟩ := h
    · exact hK _ _ _ _ hk
    · exact hK _ _ _ _ hk
  · obtain ⟨-, C9, n9, d9, -, -, hk⟩ := h
    exact hK _ _ _ _ hk
  · obtain ⟨-, x, y, r, -, -, hk⟩ := h
    exact hK _ _ _ _ hk
  · obtain ⟨-, x, y, r, -, -, hk⟩ := h
    exact hK _ _ _ _ hk
  · obtain ⟨-, x, y, r, -, -, hk⟩ := h
    exact hK _ _ _ _ hk
  · obtain ⟨-, x, y, r, -, -, hk⟩ := h
    exact hK _ _ _ _ hk
  · obtain ⟨-, x, r, -, -, hk⟩ := h
    exact hK _ _ _ _ hk
  · obtain ⟨-, i, a, n, r, ty, w, f, -, -, -, -, hk⟩ := h
    exact hK _ _ _ _ hk
  · obtain ⟨-, i, a, n, r, ty, w, f, -, -, -, -, hk⟩ := h
    exact hK _ _ _ _ hk
  · obtain ⟨-, i, a, n, r, ty, w, f, -, -, -, -, hk⟩ := h
    exact hK _ _ _ _ hk
  · obtain ⟨-, i, a, n, r, ty, w, f, -, -, -, -, hk⟩ := h
    exact hK _ _ _ _ hk
  · obtain ⟨-, i, a, n, r, ty, w, f, -, -, -, -, hk⟩ := h
    exact hK _ _ _ _ hk
  · obtain ⟨-, v, v', i, a, n, r, ty, f, -, -, -, -, hk⟩ := h
    have h9 := hK _ _ _ _ hk
    exact h9
  · obtain ⟨-, v, v', i, a, n, r, ty, f, -, -, -, -, hk⟩ := h
    have h9 := hK _ _ _ _ hk
    exact h9
  · obtain ⟨-, v, v', i, a, n, r, ty, f, -, -, -, -, hk⟩ := h
    have h9 := hK _ _ _ _ hk
    exact h9
  · obtain ⟨-, v, v', i, a, n, r, ty, f, -, -, -, -, hk⟩ := h
    have h9 := hK _ _ _ _ hk
    exact h9
  · obtain ⟨-, v, v', i, a, n, r, ty, f, -, -, -, -, hk⟩ := h
    have h9 := hK _ _ _ _ hk
    exact h9
  · obtain ⟨-, a, n9, r, q, f, -, -, hk⟩ := h
    exact hK _ _ _ _ hk
  · obtain ⟨-, n9, r, h0, -, -, -, -, -, hk⟩ := h
    have h9 := hK _ _ _ _ hk
    simp only [pm_new] at h9
    exact ⟨by omega, by omega⟩
  · obtain ⟨-, C9, n9, r, h0, -, -, -, -, -, -, hk⟩ := h
    have h9 := hK _ _ _ _ hk
    simp only [pm_new] at h9
    exact ⟨by omega, by omega⟩
  · obtain ⟨-, ⟨ci, C9, T, N9, h0, ty, -, -, -, -, -, -, -, hk⟩ | ⟨ia, ic, E, -, -, -, -, -, hkr⟩⟩ := h
    · have h9 := hK _ _ _ _ hk
      simp only [pm_new] at h9
      exact ⟨by omega, by omega⟩
    · have h9 := hB _ _ hkr
      exact ⟨by have := h9.1; simp only at this; omega, by have := h9.2; simp only at this; omega⟩
  · obtain ⟨-, ci, k, ty, a, n, r, f, -, -, -, hk⟩ := h
    exact hK _ _ _ _ hk
  · obtain ⟨-, ci, k, ty, a, n, v, r, f, -, -, -, -, -, -, hk⟩ := h
    have h9 := hK _ _ _ _ hk
    exact h9
  · obtain ⟨-, y, As, rest, b, ci, n, f, q, r1, S1, -, -, -, -, -, -, hc, hcb⟩ := h
    have h1 := hcal _ _ _ _ _ _ hc
    have h2 := pm_cbl (fun _ _ _ => hK _ _ _ _) (fun _ => hB _ _) hcb
    exact ⟨Nat.le_trans h1.1 h2.1, Nat.le_trans h1.2 h2.2⟩
  · obtain ⟨-, ⟨mx, x, y, r, -, -, -, hk⟩ | ⟨fl, y, As, rest, r1, S1, -, -, -, -, hc, hcb⟩⟩ := h
    · exact hK _ _ _ _ hk
    have h1 := hcal _ _ _ _ _ _ hc
    have h2 := pm_cbl (fun _ _ _ => hK _ _ _ _) (fun _ => hB _ _) hcb
    exact ⟨Nat.le_trans h1.1 h2.1, Nat.le_trans h1.2 h2.2⟩
  · obtain ⟨-, ⟨a, r, -, -, -, hk⟩ | ⟨y, As, rest, b, r1, S1, -, -, -, hc, hcb⟩⟩ := h
    · exact hK _ _ _ _ hk
    · have h1 := hcal _ _ _ _ _ _ hc
      have h2 := pm_cbl (fun _ _ _ => hK _ _ _ _) (fun _ => hB _ _) hcb
      exact ⟨Nat.le_trans h1.1 h2.1, Nat.le_trans h1.2 h2.2⟩
  · exact pm_rtl (fun _ => hB _ _) h.2
  · exact pm_rtl (fun _ => hB _ _) h.2
  · exact pm_rtl (fun _ => hB _ _) h.2
  · exact pm_rtl (fun _ => hB _ _) h.2
  · exact pm_rtl (fun _ => hB _ _) h.2
  · obtain ⟨-, q, -, hk⟩ := h
    exact hK _ _ _ _ hk
theorem pm_go_le {r : pm_R} {S' : pm_S} (hcal : ∀ (fl : Bool) (y : MethodName) (as : List Value) (S : pm_S) (r : pm_R) (S1 : pm_S), cal fl y as S r S1 → S.2.2.1 ≤ S1.2.2.1 ∧ S.2.2.2 ≤ S1.2.2.2) : ∀ (n pc : Nat) (ls : List (Option Value)) (st : List Value) (S : pm_S), pm_go G cal own ini cc ret xt r S' n pc ls st S → S.2.2.1 ≤ S'.2.2.1 ∧ S.2.2.2 ≤ S'.2.2.2 := by
  intro n
  induction n with
  | zero => exact fun _ _ _ _ h => h.elim
  | succ n ih =>
    intro pc ls st S h
    obtain ⟨ins, len, -, h⟩ := h
    exact pm_step_le hcal ih (fun r1 S1 e => by rw [e.2]; exact ⟨Nat.le_refl _, Nat.le_refl _⟩) h
theorem pm_run_le : ∀ (d : Nat) (fl : Bool) (y : MethodName) (as : List Value) (S : pm_S) (r : pm_R) (S1 : pm_S), pm_run G d fl y as S r S1 → S.2.2.1 ≤ S1.2.2.1 ∧ S.2.2.2 ≤ S1.2.2.2 := by
  intro d
  induction d with
  | zero => exact fun _ _ _ _ _ _ h => h.elim
  | succ d ih =>
    intro fl y as S r S1 h
    rcases h with ⟨b, maxL, ret, -, -, -, n, h⟩ | ⟨-, v, -, b, maxL, ret, xt, -, -, -, n, h⟩
    · exact pm_go_le ih n _ _ _ _ h
    · exact pm_go_le ih n _ _ _ _ h
end PMR
