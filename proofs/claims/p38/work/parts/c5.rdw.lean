/-! calls, side by side: ways, packets, means -/
theorem div12 {f g : Nat} (hf : f < 10) (hg : g < 12) : (nn (f * 12 + g) : Int32) / 12 = nn f := by
  rw [← Int32.toInt_inj, Int32.toInt_div, nn_t (by omega), nn_t (by omega)]
  show (((f * 12 + g : Nat) : Int).tdiv 12).bmod (2 ^ 32) = f
  rw [Int.tdiv_eq_ediv_of_nonneg (by omega), show (((f * 12 + g : Nat) : Int) / 12) = (f : Int) by omega]
  exact Int.bmod_eq_of_le (by omega) (by omega)
theorem mod12 {f g : Nat} (hf : f < 10) (hg : g < 12) : (nn (f * 12 + g) : Int32) - nn (f * 12 + g) / 12 * 12 = nn g := by
  rw [div12 hf hg, nl_12, nn_mul, nn_sub (by omega)]
  exact congrArg nn (by omega)
section
variable {H : fm_H} {m m1 m2 m00 : fm_M} {Lo : Nat → Nat → Int32} {T T' x b s t n tn : Nat} {E : VV} {l : List (Nat → Int32)} {d tx : Nat → Nat} {sv : Nat → Option (VV × List (Nat → Int32))} {c p : Int32}
theorem c_slots {u v w : Int32} (h : slR u v w) : f_X11_spaceOfSlot H w m = some (u, m) ∧ f_X11_labelOfSlot H w m = some (v, m) := by
  unfold f_X11_spaceOfSlot f_X11_labelOfSlot
  rcases h with ⟨rfl, rfl, rfl⟩ | ⟨f, g, hf, hg, rfl, rfl, rfl⟩
  · exact ⟨rfl, rfl⟩
  · have h0 : (0 : Int32) ≤ nn (f * 12 + g) := by rw [nl_0]; exact (nn_le (by omega) (by omega)).mpr (by omega)
    rw [if_pos h0, if_neg (by decide), if_pos h0, if_neg (by decide), div12 hf hg]
    refine ⟨rfl, ?_⟩
    have := mod12 hf hg
    rw [div12 hf hg] at this
    rw [this]
/-- what is asked of a way -/
theorem c_way46 {ρ : Nat → Int32} {w pl n c i y : Nat} (hw : kW H w) (hn : m.1 w 0 = ii n) (h1 : ∀ k, k < n → m.1 (w + 1) k = E (11 + 4 * c) i k) (h3 : ∀ k, k < n → m.1 (w + 3) k = E (13 + 4 * c) i k) (hW : rW ρ E pl n c i) (hy : y ≤ 2) {v : Int32} (hv : 0 ≤ v.toInt) : f_X11_way_46 H v (nn y) w m = some (.inl (if v.toInt < n then ρ (pl + (if y = 0 then 1 else if y = 1 then 7 else 13) + v.toInt.toNat) else -1), m) := by
  obtain ⟨w0, w1, w2, w3⟩ := hW
  have ev := ii_of v
  have hv2 := Int32.toInt_lt v
  unfold f_X11_way_46
  have h : y = 0 ∨ y = 1 ∨ y = 2 := by omega
  have na := c_nodeAt (H := H) hw hn w1 (j := v.toInt) (by omega) (by omega)
  have sa := c_slotAt (H := H) hw hn w1 (j := v.toInt) (by omega) (by omega)
  rw [← ev] at na sa
  by_cases hn2 : v.toInt < n
  · rw [if_pos ⟨hv, hn2⟩] at na sa
    have hk : v.toInt.toNat < n := by omega
    rw [if_pos hn2]
    obtain ⟨q1, q2⟩ := c_slots (H := H) (m := m) (w3 _ hk)
    rcases h with h | h | h
    · subst h
      rw [if_pos (show nn 0 = 0 from rfl), na, fb_n, h1 _ hk, if_pos rfl, w2 _ hk]
    · subst h
      rw [if_neg (by decide), sa, fb_n, if_pos (show nn 1 = 1 from rfl), h3 _ hk, q1, fb_n]
      rfl
    · subst h
      rw [if_neg (by decide), sa, fb_n, if_neg (by decide), h3 _ hk, q2, fb_n]
      rfl
  · rw [if_neg (fun z => hn2 z.2)] at na sa
    rw [if_neg hn2]
    rcases h with h | h | h
    · subst h
      rw [if_pos (show nn 0 = 0 from rfl), na, fb_n]
    · subst h
      rw [if_neg (by decide), sa, fb_n, if_pos (show nn 1 = 1 from rfl)]
      rfl
    · subst h
      rw [if_neg (by decide), sa, fb_n, if_neg (by decide)]
      rfl
/-- packets -/
theorem cN_pk (hK : cN m x s t E l) {q : Nat} (hq : q < l.length) : ∃ r, l[q]? = some r ∧ ∀ k, vk 18 k = true → m.1 (m.2.1 (s + 27) q) k = r k := by
  obtain ⟨a1, a2, a3, a4, a5, a6⟩ := hK.2.2.2.1
  refine ⟨cv m s 18 q, ?_, fun k hk => rd18 rfl (by omega) k hk⟩
  rw [← a3]
  have := sg_at (V := cv m s) (n := l.length) (a := 0) hq
  rw [Nat.zero_add] at this
  exact this
end
