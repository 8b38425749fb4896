/-! load, side by side -/
theorem er_smE {V : VV} : smE V (er V) := ⟨fun k _ _ => er_n (by omega), fun k _ => er_n (by omega), fun k _ => er_n (by omega), fun j k _ _ => er_n (by omega), fun k _ => er_n (by omega), fun t _ => er_n (by omega), fun t _ _ => ⟨er_n (by omega), er_n (by omega)⟩, fun k _ => er_n (by omega), fun i k _ _ => er_n (by omega), fun i c _ hc => ⟨er_n (by omega), fun d k _ hd _ => er_n (by omega)⟩⟩
section
variable {H : fm_H} {m m1 m2 : fm_M} {Lo : Nat → Nat → Int32} {T T' x b s t n tn : Nat} {E V : VV} {l : List (Nat → Int32)} {d tx : Nat → Nat} {sv : Nat → Option (VV × List (Nat → Int32))} {c p : Int32}
/-- the words lie below -/
def wdL (H : fm_H) (Lo : Nat → Nat → Int32) (x : Nat) : Prop := ∀ m : fm_M, (∀ a k, a < x → m.1 a k = Lo a k) → wdC H m x ∧ wdR H m x
theorem t_load (hX : kX H x) (hM : kM H b) (hb : x + 661 ≤ b) (hwd : wdL H Lo x) (hT : TOP Lo T x b m) : CALL Lo x b T (f_X11_load H x m) (f_X12_load H b) eqA := by
  obtain ⟨s, t, E, l, n, d, sv, tn, tx, c, p, hK, hR, hI, hN, hW, h2⟩ := hT
  obtain ⟨hS, hS2, q1, q2, q3, q4, q5⟩ := cN_S hX hK.1
  obtain ⟨hk1, hk2, hk3, hk4, hk5⟩ := hK
  obtain ⟨hr1, hr2, hr3, hr4, hr5⟩ := hR
  have hst : (s = x + 21 ∧ t = x + 181) ∨ (s = x + 181 ∧ t = x + 21) := hk1.1
  have hkR : kR H x t := ⟨hX.2.2.1.2.1, hX.2.2.1.2.2.2.1, hX.2.2.1.2.2.2.2, hS2, by omega⟩
  have hw := (hwd m h2.2).1
  have hsp := hk1.2.2.2.2
  unfold CALL
  refine fE_w (c_load hX hkR hS hk1.2.1 hk1.2.2.1 (by omega) hsp hk4 hw) (fun r m1 ⟨a1, a2, a3⟩ => ?_)
  obtain ⟨a31, a32, a33⟩ := a3
  have o1 : ∀ a k, b ≤ a → m1.1 a k = m.1 a k := fun a k ha => a31 a k (by omega) (by omega) (by omega) (by omega) (by omega)
  have lo1 : ∀ a k, a < x → m1.1 a k = Lo a k := fun a k ha => (a31 a k (by omega) (by omega) (by omega) (by omega) (by omega)).trans (h2.2 a k ha)
  have hTR : rTx m1 b tn tx := ⟨(o1 _ _ (by omega)).trans hr4.1, hk4.2.1, fun k hk => ⟨(o1 _ _ (by omega)).trans (hr4.2 k hk), (hk4.2.2 k hk).2⟩⟩
  refine fE_w (r_load hM (x := x) (by omega) hTR (hwd m1 lo1).2 hsp.2) (fun r' m2 ⟨b1, b2, b3, b4⟩ => ?_)
  -- what both leave
  have o2 : ∀ a k, a < b → m2.1 a k = m1.1 a k := fun a k ha => b3 a k (by omega) (by omega) (by omega) (by omega)
  have lo2 : ∀ a k, a < x → m2.1 a k = Lo a k := fun a k ha => (o2 a k (by omega)).trans (lo1 a k ha)
  have agE : ∀ lo hi, hi ≤ b → ag lo hi m1 m2 := fun lo hi h a k y z => ⟨o2 a k (by omega), by rw [b4]⟩
  have agA : ∀ lo hi, x + 19 ≤ lo → hi ≤ b → (∀ a, lo ≤ a → a < hi → ¬ (t ≤ a ∧ a < t + 160)) → ag lo hi m m2 := fun lo hi h1 h2' h3 => ag_tr (fun a k y z => ⟨a31 a k (by omega) (by omega) (by omega) (by omega) (h3 a y z), a32 a k (by omega)⟩) (agE lo hi h2')
  have hcS : cS m2 x sv := cS_k hk3 (agA _ _ (by omega) (by omega) (fun a _ _ => by omega)) (agA _ _ (by omega) (by omega) (fun a _ _ => by omega))
  have hcX : cX m2 x 0 tx := ⟨(o2 _ _ (by omega)).trans a2, by omega, fun k hk => by omega⟩
  have row : ∀ a, a = b + 4 ∨ a = b + 5 → ∀ k, m2.1 a k = m.1 a k := fun a ha k => (b3 a k (by omega) (by omega) (by omega) (by omega)).trans (o1 a k (by omega))
  have hrS : rS m2 b sv := fun i hi => by
    have e4 : m2.1 (b + 4) = m.1 (b + 4) := funext fun k => row _ (Or.inl rfl) k
    rcases hr3 i hi with ⟨e1, e2⟩ | ⟨q, e1, e2, e3⟩
    · exact Or.inl ⟨e1, (row _ (Or.inr rfl) i).trans e2⟩
    · exact Or.inr ⟨q, e1, (row _ (Or.inr rfl) i).trans e2, by rw [e4]; exact e3⟩
  have hrX : rX m2 b 0 tx := ⟨b2, fun k hk => by omega⟩
  cases eL : loadP tx tn 800 (zeV (cv m t)) 0 with
  | inl z =>
    obtain ⟨ec, ep⟩ := z
    rw [eL] at a1 b1
    obtain ⟨c1, c2, c3, c4, c5, c6⟩ := a1
    obtain ⟨d1, d2, d3, d4, d5⟩ := b1
    refine ⟨?_, s, t, E, l, n, d, sv, 0, tx, nn ec, nn (tS tx tn ep), ⟨⟨hst, ?_, ?_, ?_, ?_⟩, ?_, hcS, hcX, ?_, ?_⟩, ⟨?_, ⟨?_, ?_⟩, hrS, hrX, d2, d3⟩, hI, hN, hW, h2.1, lo2⟩
    · show r = r'
      rw [c1, d1]
    · rw [b4, c4]; exact hk1.2.1
    · rw [b4, c4]; exact hk1.2.2.1
    · exact aS_ag hk1.2.2.2.1 (agA _ _ (by omega) (by omega) (fun a _ _ => by omega))
    · exact sp_ag c5 (agE _ _ (by omega))
    · refine cD_k hk2 (fun a k y z => ⟨(o2 a k (by omega)).trans ?_, by rw [b4, c4]⟩)
      by_cases e : a = x + 15 ∧ k = 0
      · rw [e.1, e.2]; exact c6
      · exact a31 a k (by omega) (by omega) (by omega) e (by omega)
    · exact (o2 _ _ (by omega)).trans c2
    · exact (o2 _ _ (by omega)).trans c3
    · exact rAll_c hr1 hI.1.1 (fun k hk => (d4 k hk).trans (o1 _ _ (by omega)))
    · exact d5.trans ((o1 _ _ (by omega)).trans hr2.1)
    · exact fun k hk => (b3 _ _ (by omega) (by omega) (by omega) (by omega)).trans ((o1 _ _ (by omega)).trans (hr2.2 k hk))
  | inr z =>
    obtain ⟨V, ep⟩ := z
    have hV := load_ok (by omega) (ze_ok hsp.2) eL
    rw [eL] at a1 b1
    obtain ⟨c1, c2, c3, c4, c5, c6, c7, c8⟩ := a1
    obtain ⟨d1, d2, d3, d4, d5⟩ := b1
    have hG : vG (er V) := hV.1.1.1
    have hIe := sm_iG er_smE hG hV.1
    have hNe := sm_NM er_smE hV.1 hV.2
    refine ⟨?_, t, s, er V, [], 0, d, sv, 0, tx, 0, -1, ⟨⟨by omega, ?_, ?_, ?_, ?_⟩, ⟨?_, fun k hk => by omega, fun k _ hk => by omega⟩, hcS, hcX, ?_, ?_⟩, ⟨⟨sm_rB er_smE hV.1.1.2.1 hV.1.1.1 d4.1, d4.2⟩, ⟨d5, fun k hk => by omega⟩, hrS, hrX, d2, d3⟩, hIe, ⟨hNe.1, iM_m hNe.2 (by omega)⟩, dW_0, h2.1, lo2⟩
    · show r = r'
      rw [c1, d1]
    · rw [b4]; exact c4
    · rw [b4]; exact c5
    · refine aS_ag (m := m1) ?_ (agE _ _ (by omega))
      exact ⟨c6, by rw [c7], rfl, hIe.1.2.2.2.2.2, by decide, hG⟩
    · exact sp_ag (sp_aS hk1.2.2.2.1) (agA _ _ (by omega) (by omega) (fun a _ _ => by omega))
    · exact (o2 _ _ (by omega)).trans c8
    · exact (o2 _ _ (by omega)).trans c2
    · exact (o2 _ _ (by omega)).trans c3
end
