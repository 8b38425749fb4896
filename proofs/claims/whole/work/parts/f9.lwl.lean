/-! THE LAW'S LOOP -/
section LAWL
variable {G : pm_G} {H : fm_H} {Lo : Nat → Nat → Int32} {x b o od sb L : Nat} {xs : Nat → Int32} {ini : Bool} {KR : pm_E}
theorem op_n (v : Int32) : ∃ n, n < 64 ∧ v &&& (Int8.ofInt 63).toInt32 = Int32.ofNat n := by
  refine ⟨(v &&& (Int8.ofInt 63).toInt32).toBitVec.toNat, ?_, ?_⟩
  · rw [Int32.toBitVec_and, BitVec.toNat_and]
    exact Nat.lt_of_le_of_lt Nat.and_le_right (by decide)
  · apply Int32.toBitVec_inj.mp
    apply BitVec.eq_of_toNat_eq
    show _ = (BitVec.ofNat 32 _).toNat
    rw [BitVec.toNat_ofNat, Nat.mod_eq_of_lt (BitVec.isLt _)]
theorem lw_in {c : Nat} (hL : L ≤ 2560) (h : 5 * c + 5 ≤ L) (j : Int) (h1 : 0 ≤ j) (h2 : j ≤ 4) : vp_in (nn (5 * c) + Int32.ofInt j) L := by
  rw [vp_in_iff]
  show 0 ≤ (ii _ + ii j).toInt ∧ (ii _ + ii j).toInt < L
  rw [ii_add, ii_toInt (by omega) (by omega)]
  omega
theorem lw_in0 {c : Nat} (hL : L ≤ 2560) (h : 5 * c + 5 ≤ L) : vp_in (nn (5 * c)) L := by
  rw [vp_in_iff, nn_t (by omega)]
  omega
set_option maxRecDepth 20000 in
theorem lw_sw {T : Nat} {F Fd : Nat → Value} {m : fm_M} {z : Option Nat × Nat × Nat} {ret : Option FieldType} {i : Int32} (h : LW G H Lo x b o od sb L) (hT : TOP Lo T x b m) (hTT : T ≤ 200000) (hi : ∀ j : Int, 1 ≤ j → j ≤ 4 → vp_in (i + Int32.ofInt j) L) (k : CK G H Lo T x b o od sb L xs z ini ret KR i) {n : Nat} (hn : n < 64) : lwF G ini ret KR 44 (lwL sb x b o od i none none none none) [.int (Int32.ofNat n)] (lwS H sb o od L xs F Fd m z) := by
  match n, hn with
  | 0, _ => exact xw_ts 200 dL_law_44 (by decide) (by decide) (off := 156) (by decide) rfl (cs_appendText h hT hTT hi k)
  | 1, _ => exact xw_ts 256 dL_law_44 (by decide) (by decide) (off := 212) (by decide) rfl (cs_truncateText h hT hTT hi k)
  | 2, _ => exact xw_ts 312 dL_law_44 (by decide) (by decide) (off := 268) (by decide) rfl (cs_load h hT hTT hi k)
  | 3, _ => exact xw_ts 325 dL_law_44 (by decide) (by decide) (off := 281) (by decide) rfl (cs_errorCode h hT hTT hi k)
  | 4, _ => exact xw_ts 338 dL_law_44 (by decide) (by decide) (off := 294) (by decide) rfl (cs_errorPosition h hT hTT hi k)
  | 5, _ => exact xw_ts 351 dL_law_44 (by decide) (by decide) (off := 307) (by decide) rfl (cs_addNode h hT hTT hi k)
  | 6, _ => exact xw_ts 407 dL_law_44 (by decide) (by decide) (off := 363) (by decide) rfl (cs_addLink h hT hTT hi k)
  | 7, _ => exact xw_ts 499 dL_law_44 (by decide) (by decide) (off := 455) (by decide) rfl (cs_setUp h hT hTT hi k)
  | 8, _ => exact xw_ts 590 dL_law_44 (by decide) (by decide) (off := 546) (by decide) rfl (cs_set h hT hTT hi k)
  | 9, _ => exact xw_ts 658 dL_law_44 (by decide) (by decide) (off := 614) (by decide) rfl (cs_count h hT hTT hi k)
  | 10, _ => exact xw_ts 714 dL_law_44 (by decide) (by decide) (off := 670) (by decide) rfl (cs_node h hT hTT hi k)
  | 11, _ => exact xw_ts 782 dL_law_44 (by decide) (by decide) (off := 738) (by decide) rfl (cs_label h hT hTT hi k)
  | 12, _ => exact xw_ts 862 dL_law_44 (by decide) (by decide) (off := 818) (by decide) rfl (cs_link h hT hTT hi k)
  | 13, _ => exact xw_ts 930 dL_law_44 (by decide) (by decide) (off := 886) (by decide) rfl (cs_draft h hT hTT hi k)
  | 14, _ => exact xw_ts 986 dL_law_44 (by decide) (by decide) (off := 942) (by decide) rfl (cs_clearDraft h hT hTT hi k)
  | 15, _ => exact xw_ts 999 dL_law_44 (by decide) (by decide) (off := 955) (by decide) rfl (cs_draftBest h hT hTT hi k)
  | 16, _ => exact xw_ts 1079 dL_law_44 (by decide) (by decide) (off := 1035) (by decide) rfl (cs_draftNode h hT hTT hi k)
  | 17, _ => exact xw_ts 1135 dL_law_44 (by decide) (by decide) (off := 1091) (by decide) rfl (cs_open h hT hTT hi k)
  | 18, _ => exact xw_ts 1203 dL_law_44 (by decide) (by decide) (off := 1159) (by decide) rfl (cs_close h hT hTT hi k)
  | 19, _ => exact xw_ts 1259 dL_law_44 (by decide) (by decide) (off := 1215) (by decide) rfl (cs_move h hT hTT hi k)
  | 20, _ => exact xw_ts 1315 dL_law_44 (by decide) (by decide) (off := 1271) (by decide) rfl (cs_moveBest h hT hTT hi k)
  | 21, _ => exact xw_ts 1383 dL_law_44 (by decide) (by decide) (off := 1339) (by decide) rfl (cs_abort h hT hTT hi k)
  | 22, _ => exact xw_ts 1439 dL_law_44 (by decide) (by decide) (off := 1395) (by decide) rfl (cs_offer h hT hTT hi k)
  | 23, _ => exact xw_ts 1507 dL_law_44 (by decide) (by decide) (off := 1463) (by decide) rfl (cs_run h hT hTT hi k)
  | 24, _ => exact xw_ts 1563 dL_law_44 (by decide) (by decide) (off := 1519) (by decide) rfl (cs_circuit h hT hTT hi k)
  | 25, _ => exact xw_ts 1631 dL_law_44 (by decide) (by decide) (off := 1587) (by decide) rfl (cs_way h hT hTT hi k)
  | 26, _ => exact xw_ts 1739 dL_law_44 (by decide) (by decide) (off := 1695) (by decide) rfl (cs_packet h hT hTT hi k)
  | 27, _ => exact xw_ts 1807 dL_law_44 (by decide) (by decide) (off := 1763) (by decide) rfl (cs_meanDelay h hT hTT hi k)
  | 28, _ => exact xw_ts 1884 dL_law_44 (by decide) (by decide) (off := 1840) (by decide) rfl (cs_usage h hT hTT hi k)
  | 29, _ => exact xw_ts 1927 dL_law_44 (by decide) (by decide) (off := 1883) (by decide) rfl (cs_canMove h hT hTT hi k)
  | 30, _ => exact xw_ts 1995 dL_law_44 (by decide) (by decide) (off := 1951) (by decide) rfl (cs_movedIn h hT hTT hi k)
  | 31, _ => exact xw_ts 2051 dL_law_44 (by decide) (by decide) (off := 2007) (by decide) rfl (cs_ahead h hT hTT hi k)
  | 32, _ => exact xw_ts 2119 dL_law_44 (by decide) (by decide) (off := 2075) (by decide) rfl (cs_weakLink h hT hTT hi k)
  | 33, _ => exact xw_ts 2132 dL_law_44 (by decide) (by decide) (off := 2088) (by decide) rfl (cs_save h hT hTT hi k)
  | 34, _ => exact xw_ts 2168 dL_law_44 (by decide) (by decide) (off := 2124) (by decide) rfl (cs_restore h hT hTT hi k)
  | n + 35, hn =>
    refine xw_td 2204 dL_law_44 (Or.inr ?_) rfl (k T m z F Fd _ _ _ _ (Nat.le_add_right _ _) hT zz_rf)
    rw [ii_ofNat, ii_toInt (by omega) (by omega)]
    omega
theorem lw_loop {z0 : Option Nat × Nat × Nat} (h : LW G H Lo x b o od sb L) (hL : L ≤ 2560) (hE : ∀ S : pm_S, S.2.2.1 ≤ z0.2.1 + 512 → S.2.2.2 ≤ z0.2.2 + 3072 → KR (.inl (some (.int 1))) S) : ∀ (n c T : Nat) (m : fm_M) (z : Option Nat × Nat × Nat) (F Fd : Nat → Value) (a c9 d e : Option Value), L < 5 * (c + n) → c ≤ 512 → TOP Lo T x b m → T ≤ 200 * c → z.2.1 ≤ z0.2.1 + c → z.2.2 ≤ z0.2.2 + 6 * c → lwF G ini (some .boolean) KR 28 (lwL sb x b o od (nn (5 * c)) a c9 d e) [] (lwS H sb o od L xs F Fd m z) := by
  intro n
  induction n with
  | zero =>
    intro c T m z F Fd a c9 d e h1 h2 hT h3 h4 h5
    refine xw_fn 30 dL_law_28 rfl rfl (xw_fn 31 dL_law_30 rfl rfl (xw_alen 32 dL_law_31 rfl (lwS_s h) (xw_fn 33 dL_law_32 rfl rfl (xw_fn 34 dL_law_33 rfl rfl (xw_cgt_t 2210 dL_law_34 rfl ?_ (xw_fn 2211 dL_law_2210 rfl rfl (xw_iret dL_law_2211 rfl rfl (hE _ ?_ ?_))))))))
    · rw [ii_ofNat, Int32.lt_iff_toInt_lt, nn_t (by omega)]
      show (ii _ - ii 5).toInt < _
      rw [ii_sub, ii_toInt (by omega) (by omega)]
      omega
    · show z.2.1 ≤ _
      omega
    · show z.2.2 ≤ _
      omega
  | succ n ih =>
    intro c T m z F Fd a c9 d e h1 h2 hT h3 h4 h5
    refine xw_weak (ls' := lwL sb x b o od (nn (5 * c)) none none none none) (px_leb_le ⟨rfl, rfl, rfl, rfl, rfl, rfl, trivial⟩) ?_
    refine xw_fn 30 dL_law_28 rfl rfl (xw_fn 31 dL_law_30 rfl rfl (xw_alen 32 dL_law_31 rfl (lwS_s h) (xw_fn 33 dL_law_32 rfl rfl (xw_fn 34 dL_law_33 rfl rfl ?_))))
    by_cases hc : 5 * c + 5 ≤ L
    · refine xw_cgt_f 37 2210 dL_law_34 rfl rfl ?_ ?_
      · rw [ii_ofNat, Int32.lt_iff_toInt_lt, nn_t (by omega)]
        show ¬ (ii _ - ii 5).toInt < _
        rw [ii_sub, ii_toInt (by omega) (by omega)]
        omega
      · refine xw_fn 38 dL_law_37 rfl rfl (xw_fn 40 dL_law_38 rfl rfl (xw_iald 41 dL_law_40 rfl (lwS_s h) (lw_in0 hL hc) (xw_fn 43 dL_law_41 rfl rfl (xw_fn 44 dL_law_43 rfl rfl ?_))))
        obtain ⟨n9, hn9, e9⟩ := op_n (xs (nn (5 * c)).toNatClampNeg)
        rw [e9]
        refine lw_sw h hT (by omega) (fun j j1 j2 => lw_in hL hc j (by omega) j2) (fun T2 m2 z2 F2 Fd2 a2 c2 d2 e2 t1 t2 t3 => ?_) hn9
        obtain ⟨y1, y2, y3, y4⟩ := t3
        refine xw_fn (ls' := lwL sb x b o od (nn (5 * c) + Int32.ofInt 5) a2 c2 d2 e2) 2207 dL_law_2204 rfl rfl (xw_goto 28 dL_law_2207 rfl ?_)
        have e5 : nn (5 * c) + Int32.ofInt 5 = nn (5 * (c + 1)) := by
          show ii _ + ii 5 = ii _
          rw [ii_add]
          congr 1
        rw [e5]
        exact ih (c + 1) T2 m2 z2 F2 Fd2 a2 c2 d2 e2 (by omega) (by omega) t2 (by omega) (by omega) (by omega)
    · refine xw_cgt_t 2210 dL_law_34 rfl ?_ (xw_fn 2211 dL_law_2210 rfl rfl (xw_iret dL_law_2211 rfl rfl (hE _ ?_ ?_)))
      · rw [ii_ofNat, Int32.lt_iff_toInt_lt, nn_t (by omega)]
        show (ii _ - ii 5).toInt < _
        rw [ii_sub, ii_toInt (by omega) (by omega)]
        omega
      · show z.2.1 ≤ _
        omega
      · show z.2.2 ≤ _
        omega
end LAWL
