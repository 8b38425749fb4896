/-! THE FRAME: cells that a run does not know of stay as they are -/
def exM (X M : pm_M) : pm_M := fun a => match M a with
  | some c => some c
  | none => X a
def exS (X : pm_M) (S : pm_S) : pm_S := (exM X S.1, S.2)
theorem ex_at {X M : pm_M} {a : Nat} {c : pm_C} (h : M a = some c) : exM X M a = some c := by
  unfold exM
  rw [h]
theorem ex_none {X M : pm_M} {a : Nat} (h : M a = none) : exM X M a = X a := by
  unfold exM
  rw [h]
theorem ex_up {X M : pm_M} {a : Nat} {c : pm_C} : exM X (pm_up M a (some c)) = pm_up (exM X M) a (some c) := by
  funext j
  unfold exM pm_up
  by_cases e : j = a
  · rw [if_pos e, if_pos e]
  · rw [if_neg e, if_neg e]
theorem ex_new {X : pm_M} {S : pm_S} {h : Nat} {c : pm_C} : exS X (pm_new S h c) = pm_new (exS X S) h c := by
  unfold exS pm_new
  dsimp only
  rw [ex_up]
theorem ex_set {X M : pm_M} {q : Option Nat × Nat × Nat} {a : Nat} {c : pm_C} : exS X (pm_up M a (some c), q) = (pm_up (exM X M) a (some c), q) := by
  unfold exS
  dsimp only
  rw [ex_up]
section EXS
variable {G : pm_G} {cal : pm_Cal} {own : String} {ini : Bool} {cc : ByteArray} {ret : Option FieldType} {xt : List (Nat × Nat × Nat × Nat)} {KR KR' : pm_E} {K K' : pm_K} {X : pm_M}
theorem ex_rt (hR : ∀ (r : pm_R) (S : pm_S), KR r S → KR' r (exS X S)) {st : List Value} {S : pm_S} {ins : Instr} (h : pm_rt ret KR st S ins) : pm_rt ret KR' st (exS X S) ins := by
  unfold pm_rt at h
  split at h
  · obtain ⟨v, ty, e1, e2, e3, hk⟩ := h
    exact ⟨v, ty, e1, e2, e3, hR _ _ hk⟩
  · obtain ⟨e1, e2, hk⟩ := h
    exact ⟨e1, e2, hR _ _ hk⟩
  · obtain ⟨v, ty, e1, e2, e3, hk⟩ := h
    exact ⟨v, ty, e1, e2, e3, hR _ _ hk⟩
  · obtain ⟨v, e1, e2, hk⟩ := h
    exact ⟨v, e1, e2, hR _ _ hk⟩
  · obtain ⟨v, e1, e2, hk⟩ := h
    exact ⟨v, e1, e2, hR _ _ hk⟩
  · exact h.elim
theorem ex_ex (hR : ∀ (r : pm_R) (S : pm_S), KR r S → KR' r (exS X S)) {pc nL : Nat} {E : String} {S : pm_S} (h : pm_ex own cc ret xt KR pc nL E S) : pm_ex own cc ret xt KR' pc nL E (exS X S) := by
  rcases h with ⟨h1, h2⟩ | ⟨pre, suf, z, nm, v, h1, h2, h3, h4, h5, h6, h7, h8, h9⟩
  · exact Or.inl ⟨h1, hR _ _ h2⟩
  · exact Or.inr ⟨pre, suf, z, nm, v, h1, h2, h3, h4, h5, h6, h7, h8, ex_rt hR h9⟩
set_option maxHeartbeats 2000000 in
theorem ex_step (hcal : ∀ (fl : Bool) (y : MethodName) (as : List Value) (S : pm_S) (r : pm_R) (S1 : pm_S), cal fl y as S r S1 → cal fl y as (exS X S) r (exS X S1)) (hK : ∀ (pc : Nat) (ls : List (Option Value)) (st : List Value) (S : pm_S), K pc ls st S → K' pc ls st (exS X S)) (hR : ∀ (r : pm_R) (S : pm_S), KR r S → KR' r (exS X S)) {pc : Nat} {ls : List (Option Value)} {st : List Value} {S : pm_S} {ins : Instr} {len : Nat} (h : pm_step G cal own ini cc ret xt K KR pc ls st S ins len) : pm_step G cal own ini cc ret xt K' KR' pc ls st (exS X S) ins len := by
  have cbk : ∀ {rest : List Value} {r1 : pm_R} {S1 : pm_S}, pm_cb own cc ret xt K KR pc ls rest r1 S1 → pm_cb own cc ret xt K' KR' pc ls rest r1 (exS X S1) := by
    intro rest r1 S1 h
    cases r1 with
    | inl v => exact hK _ _ _ _ h
    | inr E => exact ex_ex hR h
  have brk : ∀ {P : Prop} {t : Nat} {r9 : List Value}, pm_br P K pc t ls r9 S → pm_br P K' pc t ls r9 (exS X S) := fun h => ⟨fun q => hK _ _ _ _ (h.1 q), fun q => hK _ _ _ _ (h.2 q)⟩
  have kk : ∀ {pc : Nat} {ls : List (Option Value)} {st : List Value}, K pc ls st S → K' pc ls st (exS X S) := fun h => hK _ _ _ _ h
  unfold pm_step at h
  split at h
  · obtain ⟨e1, t, e2, hk⟩ := h
    exact ⟨e1, t, e2, kk hk⟩
  · obtain ⟨e1, x, r, t, e2, e3, h⟩ := h
    split at h
    · exact ⟨e1, x, r, t, e2, e3, brk h⟩
    · exact ⟨e1, x, r, t, e2, e3, brk h⟩
    · exact ⟨e1, x, r, t, e2, e3, brk h⟩
    · exact ⟨e1, x, r, t, e2, e3, brk h⟩
    · exact ⟨e1, x, r, t, e2, e3, brk h⟩
    · exact ⟨e1, x, r, t, e2, e3, brk h⟩
  · obtain ⟨e1, x, y, r, t, e2, e3, h⟩ := h
    split at h
    · exact ⟨e1, x, y, r, t, e2, e3, brk h⟩
    · exact ⟨e1, x, y, r, t, e2, e3, brk h⟩
    · exact ⟨e1, x, y, r, t, e2, e3, brk h⟩
    · exact ⟨e1, x, y, r, t, e2, e3, brk h⟩
    · exact ⟨e1, x, y, r, t, e2, e3, brk h⟩
    · exact ⟨e1, x, y, r, t, e2, e3, brk h⟩
  · obtain ⟨x, r, e1, ho, hi9⟩ := h
    exact ⟨x, r, e1, fun z => by obtain ⟨t, e2, hk⟩ := ho z; exact ⟨t, e2, kk hk⟩, fun z1 z2 => by obtain ⟨off, t, e2, e3, hk⟩ := hi9 z1 z2; exact ⟨off, t, e2, e3, kk hk⟩⟩
  · obtain ⟨x, r, t, e1, e2, e3, hk⟩ := h
    exact ⟨x, r, t, e1, e2, e3, kk hk⟩
  · obtain ⟨e1, ⟨v, e2, hk⟩ | ⟨tx, e2, hk⟩⟩ := h
    · exact ⟨e1, Or.inl ⟨v, e2, kk hk⟩⟩
    · exact ⟨e1, Or.inr ⟨tx, e2, kk hk⟩⟩
  · obtain ⟨e1, ⟨v, e2, hk⟩ | ⟨tx, e2, hk⟩⟩ := h
    · exact ⟨e1, Or.inl ⟨v, e2, kk hk⟩⟩
    · exact ⟨e1, Or.inr ⟨tx, e2, kk hk⟩⟩
  · obtain ⟨e1, C9, n9, d9, e2, e3, hk⟩ := h
    exact ⟨e1, C9, n9, d9, e2, e3, kk hk⟩
  · obtain ⟨e1, x, y, r, e2, e3, hk⟩ := h
    exact ⟨e1, x, y, r, e2, e3, kk hk⟩
  · obtain ⟨e1, x, y, r, e2, e3, hk⟩ := h
    exact ⟨e1, x, y, r, e2, e3, kk hk⟩
  · obtain ⟨e1, x, y, r, e2, e3, hk⟩ := h
    exact ⟨e1, x, y, r, e2, e3, kk hk⟩
  · obtain ⟨e1, x, y, r, e2, e3, hk⟩ := h
    exact ⟨e1, x, y, r, e2, e3, kk hk⟩
  · obtain ⟨e1, x, r, e2, e3, hk⟩ := h
    exact ⟨e1, x, r, e2, e3, kk hk⟩
  · obtain ⟨e1, i, a, n, r, ty, w, f, e2, e3, e4, e5, hk⟩ := h
    exact ⟨e1, i, a, n, r, ty, w, f, e2, ex_at e3, e4, e5, kk hk⟩
  · obtain ⟨e1, i, a, n, r, ty, w, f, e2, e3, e4, e5, hk⟩ := h
    exact ⟨e1, i, a, n, r, ty, w, f, e2, ex_at e3, e4, e5, kk hk⟩
  · obtain ⟨e1, i, a, n, r, ty, w, f, e2, e3, e4, e5, hk⟩ := h
    exact ⟨e1, i, a, n, r, ty, w, f, e2, ex_at e3, e4, e5, kk hk⟩
  · obtain ⟨e1, i, a, n, r, ty, w, f, e2, e3, e4, e5, hk⟩ := h
    exact ⟨e1, i, a, n, r, ty, w, f, e2, ex_at e3, e4, e5, kk hk⟩
  · obtain ⟨e1, i, a, n, r, ty, w, f, e2, e3, e4, e5, hk⟩ := h
    exact ⟨e1, i, a, n, r, ty, w, f, e2, ex_at e3, e4, e5, kk hk⟩
  · obtain ⟨e1, v, v', i, a, n, r, ty, f, e2, e3, e4, e5, hk⟩ := h
    exact ⟨e1, v, v', i, a, n, r, ty, f, e2, ex_at e3, e4, e5, by have := hK _ _ _ _ hk; rw [ex_set] at this; exact this⟩
  · obtain ⟨e1, v, v', i, a, n, r, ty, f, e2, e3, e4, e5, hk⟩ := h
    exact ⟨e1, v, v', i, a, n, r, ty, f, e2, ex_at e3, e4, e5, by have := hK _ _ _ _ hk; rw [ex_set] at this; exact this⟩
  · obtain ⟨e1, v, v', i, a, n, r, ty, f, e2, e3, e4, e5, hk⟩ := h
    exact ⟨e1, v, v', i, a, n, r, ty, f, e2, ex_at e3, e4, e5, by have := hK _ _ _ _ hk; rw [ex_set] at this; exact this⟩
  · obtain ⟨e1, v, v', i, a, n, r, ty, f, e2, e3, e4, e5, hk⟩ := h
    exact ⟨e1, v, v', i, a, n, r, ty, f, e2, ex_at e3, e4, e5, by have := hK _ _ _ _ hk; rw [ex_set] at this; exact this⟩
  · obtain ⟨e1, v, v', i, a, n, r, ty, f, e2, e3, ⟨⟨b, ci, nb, fb, q, g1, g2, g3, g4⟩, g5⟩, e5, hk⟩ := h
    exact ⟨e1, v, v', i, a, n, r, ty, f, e2, ex_at e3, ⟨⟨b, ci, nb, fb, q, g1, ex_at g2, g3, g4⟩, g5⟩, e5, by have := hK _ _ _ _ hk; rw [ex_set] at this; exact this⟩
  · obtain ⟨e1, a, n9, r, q, f, e2, e3, hk⟩ := h
    exact ⟨e1, a, n9, r, q, f, e2, ex_at e3, kk hk⟩
  · obtain ⟨e1, n9, r, h0, e2, e3, e4, e5, e6, hk⟩ := h
    exact ⟨e1, n9, r, h0, e2, e3, e4, e5, e6, by rw [← ex_new]; exact hK _ _ _ _ hk⟩
  · obtain ⟨e1, C9, n9, r, h0, e2, e3, e4, e5, e6, e7, hk⟩ := h
    exact ⟨e1, C9, n9, r, h0, e2, e3, e4, e5, e6, e7, by rw [← ex_new]; exact hK _ _ _ _ hk⟩
  · obtain ⟨e1, ⟨ci, C9, T, N9, h0, ty, e2, e3, e4, e5, e6, e7, e8, hk⟩ | ⟨ia, ic, E, e2, e3, e4, e5, e6, hk⟩⟩ := h
    · exact ⟨e1, Or.inl ⟨ci, C9, T, N9, h0, ty, e2, e3, e4, e5, e6, e7, e8, by rw [← ex_new]; exact hK _ _ _ _ hk⟩⟩
    · exact ⟨e1, Or.inr ⟨ia, ic, E, e2, e3, e4, e5, e6, hR _ _ hk⟩⟩
  · obtain ⟨e1, ci, k, ty, a, n, r, f, e2, e3, e4, hk⟩ := h
    exact ⟨e1, ci, k, ty, a, n, r, f, e2, e3, ex_at e4, kk hk⟩
  · obtain ⟨e1, ci, k, ty, a, n, v, r, f, e2, e3, e4, e5, e6, e7, hk⟩ := h
    exact ⟨e1, ci, k, ty, a, n, v, r, f, e2, e3, e4, ex_at e5, e6, e7, by have := hK _ _ _ _ hk; rw [ex_set] at this; exact this⟩
  · obtain ⟨e1, y, As, rest, b, ci, n, f, q, r1, S1, e2, e3, e4, e5, e6, e7, hc, hcb⟩ := h
    exact ⟨e1, y, As, rest, b, ci, n, f, q, r1, exS X S1, e2, e3, e4, ex_at e5, e6, e7, hcal _ _ _ _ _ _ hc, cbk hcb⟩
  · obtain ⟨e1, ⟨mx, x, y, r, e2, e3, e4, hk⟩ | ⟨fl, y, As, rest, r1, S1, e2, e3, e4, e5, hc, hcb⟩⟩ := h
    · exact ⟨e1, Or.inl ⟨mx, x, y, r, e2, e3, e4, kk hk⟩⟩
    · exact ⟨e1, Or.inr ⟨fl, y, As, rest, r1, exS X S1, e2, e3, e4, e5, hcal _ _ _ _ _ _ hc, cbk hcb⟩⟩
  · obtain ⟨e1, ⟨a, r, e2, e3, e4, hk⟩ | ⟨y, As, rest, b, r1, S1, e2, e3, e4, hc, hcb⟩⟩ := h
    · exact ⟨e1, Or.inl ⟨a, r, e2, e3, e4, kk hk⟩⟩
    · exact ⟨e1, Or.inr ⟨y, As, rest, b, r1, exS X S1, e2, e3, e4, hcal _ _ _ _ _ _ hc, cbk hcb⟩⟩
  · exact ⟨h.1, ex_rt hR h.2⟩
  · exact ⟨h.1, ex_rt hR h.2⟩
  · exact ⟨h.1, ex_rt hR h.2⟩
  · exact ⟨h.1, ex_rt hR h.2⟩
  · exact ⟨h.1, ex_rt hR h.2⟩
  · obtain ⟨e1, q, e2, hk⟩ := h
    unfold pm_step
    split <;> first | exact ⟨e1, q, e2, hK _ _ _ _ hk⟩ | contradiction | (simp [pm_fn] at e2)
theorem ex_go (hcal : ∀ (fl : Bool) (y : MethodName) (as : List Value) (S : pm_S) (r : pm_R) (S1 : pm_S), cal fl y as S r S1 → cal fl y as (exS X S) r (exS X S1)) {r : pm_R} {S' : pm_S} : ∀ (n pc : Nat) (ls : List (Option Value)) (st : List Value) (S : pm_S), pm_go G cal own ini cc ret xt r S' n pc ls st S → pm_go G cal own ini cc ret xt r (exS X S') n pc ls st (exS X S) := by
  intro n
  induction n with
  | zero => exact fun _ _ _ _ h => h.elim
  | succ n ih =>
    intro pc ls st S h
    obtain ⟨ins, len, hdg, h⟩ := h
    exact ⟨ins, len, hdg, ex_step hcal ih (fun r1 S1 e => ⟨e.1, by rw [e.2]⟩) h⟩
theorem ex_run : ∀ (d : Nat) (fl : Bool) (y : MethodName) (as : List Value) (S : pm_S) (r : pm_R) (S1 : pm_S), pm_run G d fl y as S r S1 → pm_run G d fl y as (exS X S) r (exS X S1) := by
  intro d
  induction d with
  | zero => exact fun _ _ _ _ _ _ h => h.elim
  | succ d ih =>
    intro fl y as S r S1 h
    obtain ⟨b, maxL, ret, h1, h2, h3, n, h4⟩ := h
    exact ⟨b, maxL, ret, h1, h2, h3, n, ex_go ih n _ _ _ _ h4⟩
end EXS
