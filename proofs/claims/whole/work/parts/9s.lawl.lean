/-! ===== the law: its loop, its start ===== -/
theorem and63 (x : Int32) : ∃ y : Nat, y < 64 ∧ x &&& 63 = nI y := by
  refine ⟨(x &&& 63).toBitVec.toNat, ?_, ?_⟩
  · have e : (x &&& 63).toBitVec = x.toBitVec &&& 63#32 := rfl
    rw [e, BitVec.toNat_and]
    exact Nat.lt_of_le_of_lt Nat.and_le_right (by decide)
  · apply Int32.toBitVec_inj.mp
    rw [nI_bv, BitVec.ofNat_toNat, BitVec.setWidth_eq]
theorem lim_L {L i : Nat} (hL : L ≤ 3072) (hi : i ≤ 4000) : (nI L - nI 6 < nI i ↔ L < i + 6) := by
  by_cases h : 6 ≤ L
  · rw [nI_subN h]
    constructor
    · intro z
      apply Nat.lt_of_not_le
      intro w
      exact nI_nlt (a := L - 6) (b := i) (by omega) (by omega) z
    · intro z
      exact nI_lt (by omega) (by omega)
  · refine iff_of_true ?_ (by omega)
    have e : ∀ L, L < 6 → (nI L - nI 6).toInt < 0 := by decide
    rw [Int32.lt_iff_toInt_lt]
    have e2 : (0 : Int) ≤ (nI i).toInt := by
      have := nI_lz (a := i) (by omega)
      rw [Int32.lt_iff_toInt_lt] at this
      exact Int.not_lt.mp this
    have := e L (by omega)
    omega
section LPL
variable {L : Nat} {xs : Nat → Int32} {k n : Nat}
theorem law_op {i : Nat} {σ : SS} (hL : L ≤ 3072) (hi : i + 6 ≤ L) (hk : k ≤ 600000) (hn : n ≤ 7302250) (h : Rel σ) (K : ∀ τ, Rel τ → Wl L xs k n 1706 (lsL i) [] (hp τ)) : Wl L xs k n 27 (lsL i) [] (hp σ) := by
  refine Wl.aload_n dl_27 rfl ?_
  refine Wl.iload_n dl_28 rfl ?_
  obtain ⟨g1, g2⟩ := ck_some (ck_nI (show i < L by omega) (show L < 2147483648 by omega))
  refine Wl.sld dl_29 g1 ?_
  rw [g2]
  refine Wl.bipush dl_30 bp_63 ?_
  refine Wl.iand dl_32 ?_
  obtain ⟨y, hy, e⟩ := and63 (xs i)
  rw [e]
  have hc : y = 0 ∨ y = 1 ∨ y = 2 ∨ y = 3 ∨ y = 4 ∨ y = 5 ∨ y = 6 ∨ y = 7 ∨ y = 8 ∨ y = 9 ∨ y = 10 ∨ y = 11 ∨ y = 12 ∨ y = 13 ∨ y = 14 ∨ y = 15 ∨ y = 16 ∨ y = 17 ∨ y = 18 ∨ y = 19 ∨ y = 20 ∨ y = 21 ∨ y = 22 ∨ y = 23 ∨ y = 24 ∨ y = 25 ∨ y = 26 ∨ y = 27 ∨ y = 28 ∨ y = 29 ∨ y = 30 ∨ y = 31 ∨ y = 32 ∨ y = 33 ∨ y = 34 ∨ y = 35 ∨ y = 36 ∨ y = 37 ∨ y = 38 ∨ y = 39 ∨ y = 40 ∨ y = 41 ∨ y = 42 ∨ y = 43 ∨ y = 44 ∨ y = 45 ∨ y = 46 ∨ y = 47 ∨ y = 48 ∨ y = 49 ∨ y = 50 ∨ y = 51 ∨ y = 52 ∨ y = 53 ∨ y = 54 ∨ 55 ≤ y := by omega
  rcases hc with rfl | rfl | rfl | rfl | rfl | rfl | rfl | rfl | rfl | rfl | rfl | rfl | rfl | rfl | rfl | rfl | rfl | rfl | rfl | rfl | rfl | rfl | rfl | rfl | rfl | rfl | rfl | rfl | rfl | rfl | rfl | rfl | rfl | rfl | rfl | rfl | rfl | rfl | rfl | rfl | rfl | rfl | rfl | rfl | rfl | rfl | rfl | rfl | rfl | rfl | rfl | rfl | rfl | rfl | rfl | h55
  · exact Wl.tswIn (off := 235) (tgt := 268) dl_33 (by decide) (by decide) (by decide +kernel) (by decide) (br_0 hL hi hk hn h K)
  · exact Wl.tswIn (off := 248) (tgt := 281) dl_33 (by decide) (by decide) (by decide +kernel) (by decide) (br_1 hL hi hk hn h K)
  · exact Wl.tswIn (off := 262) (tgt := 295) dl_33 (by decide) (by decide) (by decide +kernel) (by decide) (br_2 hL hi hk hn h K)
  · exact Wl.tswIn (off := 276) (tgt := 309) dl_33 (by decide) (by decide) (by decide +kernel) (by decide) (br_3 hL hi hk hn h K)
  · exact Wl.tswIn (off := 319) (tgt := 352) dl_33 (by decide) (by decide) (by decide +kernel) (by decide) (br_4 hL hi hk hn h K)
  · exact Wl.tswIn (off := 392) (tgt := 425) dl_33 (by decide) (by decide) (by decide +kernel) (by decide) (br_5 hL hi hk hn h K)
  · exact Wl.tswIn (off := 426) (tgt := 459) dl_33 (by decide) (by decide) (by decide +kernel) (by decide) (br_6 hL hi hk hn h K)
  · exact Wl.tswIn (off := 489) (tgt := 522) dl_33 (by decide) (by decide) (by decide +kernel) (by decide) (br_7 hL hi hk hn h K)
  · exact Wl.tswIn (off := 552) (tgt := 585) dl_33 (by decide) (by decide) (by decide +kernel) (by decide) (br_8 hL hi hk hn h K)
  · exact Wl.tswIn (off := 575) (tgt := 608) dl_33 (by decide) (by decide) (by decide +kernel) (by decide) (br_9 hL hi hk hn h K)
  · exact Wl.tswIn (off := 598) (tgt := 631) dl_33 (by decide) (by decide) (by decide +kernel) (by decide) (br_10 hL hi hk hn h K)
  · exact Wl.tswIn (off := 621) (tgt := 654) dl_33 (by decide) (by decide) (by decide +kernel) (by decide) (br_11 hL hi hk hn h K)
  · exact Wl.tswIn (off := 644) (tgt := 677) dl_33 (by decide) (by decide) (by decide +kernel) (by decide) (br_12 hL hi hk hn h K)
  · exact Wl.tswIn (off := 677) (tgt := 710) dl_33 (by decide) (by decide) (by decide +kernel) (by decide) (br_13 hL hi hk hn h K)
  · exact Wl.tswIn (off := 710) (tgt := 743) dl_33 (by decide) (by decide) (by decide +kernel) (by decide) (br_14 hL hi hk hn h K)
  · exact Wl.tswIn (off := 743) (tgt := 776) dl_33 (by decide) (by decide) (by decide +kernel) (by decide) (br_15 hL hi hk hn h K)
  · exact Wl.tswIn (off := 766) (tgt := 799) dl_33 (by decide) (by decide) (by decide +kernel) (by decide) (br_16 hL hi hk hn h K)
  · exact Wl.tswIn (off := 799) (tgt := 832) dl_33 (by decide) (by decide) (by decide +kernel) (by decide) (br_17 hL hi hk hn h K)
  · exact Wl.tswIn (off := 822) (tgt := 855) dl_33 (by decide) (by decide) (by decide +kernel) (by decide) (br_18 hL hi hk hn h K)
  · exact Wl.tswIn (off := 855) (tgt := 888) dl_33 (by decide) (by decide) (by decide +kernel) (by decide) (br_19 hL hi hk hn h K)
  · exact Wl.tswIn (off := 868) (tgt := 901) dl_33 (by decide) (by decide) (by decide +kernel) (by decide) (br_20 hL hi hk hn h K)
  · exact Wl.tswIn (off := 891) (tgt := 924) dl_33 (by decide) (by decide) (by decide +kernel) (by decide) (br_21 hL hi hk hn h K)
  · exact Wl.tswIn (off := 914) (tgt := 947) dl_33 (by decide) (by decide) (by decide +kernel) (by decide) (br_22 hL hi hk hn h K)
  · exact Wl.tswIn (off := 937) (tgt := 970) dl_33 (by decide) (by decide) (by decide +kernel) (by decide) (br_23 hL hi hk hn h K)
  · exact Wl.tswIn (off := 960) (tgt := 993) dl_33 (by decide) (by decide) (by decide +kernel) (by decide) (br_24 hL hi hk hn h K)
  · exact Wl.tswIn (off := 1003) (tgt := 1036) dl_33 (by decide) (by decide) (by decide +kernel) (by decide) (br_25 hL hi hk hn h K)
  · exact Wl.tswIn (off := 1026) (tgt := 1059) dl_33 (by decide) (by decide) (by decide +kernel) (by decide) (br_26 hL hi hk hn h K)
  · exact Wl.tswIn (off := 1049) (tgt := 1082) dl_33 (by decide) (by decide) (by decide +kernel) (by decide) (br_27 hL hi hk hn h K)
  · exact Wl.tswIn (off := 1072) (tgt := 1105) dl_33 (by decide) (by decide) (by decide +kernel) (by decide) (br_28 hL hi hk hn h K)
  · exact Wl.tswIn (off := 1095) (tgt := 1128) dl_33 (by decide) (by decide) (by decide +kernel) (by decide) (br_29 hL hi hk hn h K)
  · exact Wl.tswIn (off := 1108) (tgt := 1141) dl_33 (by decide) (by decide) (by decide +kernel) (by decide) (br_30 hL hi hk hn h K)
  · exact Wl.tswIn (off := 1131) (tgt := 1164) dl_33 (by decide) (by decide) (by decide +kernel) (by decide) (br_31 hL hi hk hn h K)
  · exact Wl.tswIn (off := 1154) (tgt := 1187) dl_33 (by decide) (by decide) (by decide +kernel) (by decide) (br_32 hL hi hk hn h K)
  · exact Wl.tswIn (off := 1187) (tgt := 1220) dl_33 (by decide) (by decide) (by decide +kernel) (by decide) (br_33 hL hi hk hn h K)
  · exact Wl.tswIn (off := 1200) (tgt := 1233) dl_33 (by decide) (by decide) (by decide +kernel) (by decide) (br_34 hL hi hk hn h K)
  · exact Wl.tswIn (off := 1213) (tgt := 1246) dl_33 (by decide) (by decide) (by decide +kernel) (by decide) (br_35 hL hi hk hn h K)
  · exact Wl.tswIn (off := 1236) (tgt := 1269) dl_33 (by decide) (by decide) (by decide +kernel) (by decide) (br_36 hL hi hk hn h K)
  · exact Wl.tswIn (off := 1259) (tgt := 1292) dl_33 (by decide) (by decide) (by decide +kernel) (by decide) (br_37 hL hi hk hn h K)
  · exact Wl.tswIn (off := 1302) (tgt := 1335) dl_33 (by decide) (by decide) (by decide +kernel) (by decide) (br_38 hL hi hk hn h K)
  · exact Wl.tswIn (off := 1315) (tgt := 1348) dl_33 (by decide) (by decide) (by decide +kernel) (by decide) (br_39 hL hi hk hn h K)
  · exact Wl.tswIn (off := 1338) (tgt := 1371) dl_33 (by decide) (by decide) (by decide +kernel) (by decide) (br_40 hL hi hk hn h K)
  · exact Wl.tswIn (off := 1351) (tgt := 1384) dl_33 (by decide) (by decide) (by decide +kernel) (by decide) (br_41 hL hi hk hn h K)
  · exact Wl.tswIn (off := 1364) (tgt := 1397) dl_33 (by decide) (by decide) (by decide +kernel) (by decide) (br_42 hL hi hk hn h K)
  · exact Wl.tswIn (off := 1397) (tgt := 1430) dl_33 (by decide) (by decide) (by decide +kernel) (by decide) (br_43 hL hi hk hn h K)
  · exact Wl.tswIn (off := 1410) (tgt := 1443) dl_33 (by decide) (by decide) (by decide +kernel) (by decide) (br_44 hL hi hk hn h K)
  · exact Wl.tswIn (off := 1423) (tgt := 1456) dl_33 (by decide) (by decide) (by decide +kernel) (by decide) (br_45 hL hi hk hn h K)
  · exact Wl.tswIn (off := 1446) (tgt := 1479) dl_33 (by decide) (by decide) (by decide +kernel) (by decide) (br_46 hL hi hk hn h K)
  · exact Wl.tswIn (off := 1479) (tgt := 1512) dl_33 (by decide) (by decide) (by decide +kernel) (by decide) (br_47 hL hi hk hn h K)
  · exact Wl.tswIn (off := 1502) (tgt := 1535) dl_33 (by decide) (by decide) (by decide +kernel) (by decide) (br_48 hL hi hk hn h K)
  · exact Wl.tswIn (off := 1525) (tgt := 1558) dl_33 (by decide) (by decide) (by decide +kernel) (by decide) (br_49 hL hi hk hn h K)
  · exact Wl.tswIn (off := 1548) (tgt := 1581) dl_33 (by decide) (by decide) (by decide +kernel) (by decide) (br_50 hL hi hk hn h K)
  · exact Wl.tswIn (off := 1571) (tgt := 1604) dl_33 (by decide) (by decide) (by decide +kernel) (by decide) (br_51 hL hi hk hn h K)
  · exact Wl.tswIn (off := 1604) (tgt := 1637) dl_33 (by decide) (by decide) (by decide +kernel) (by decide) (br_52 hL hi hk hn h K)
  · exact Wl.tswIn (off := 1647) (tgt := 1680) dl_33 (by decide) (by decide) (by decide +kernel) (by decide) (br_53 hL hi hk hn h K)
  · exact Wl.tswIn (off := 1660) (tgt := 1693) dl_33 (by decide) (by decide) (by decide +kernel) (by decide) (br_54 hL hi hk hn h K)
  · refine Wl.tswOut (tgt := 1706) dl_33 (Or.inr ?_) (by decide) (K σ h)
    have e2 : ∀ y, y < 64 → 55 ≤ y → 54 < (nI y).toInt := by decide
    exact e2 y hy h55
theorem law_loop (hL : L ≤ 3072) (hk : k ≤ 600000) (hn : n ≤ 7302250) : ∀ (f i : Nat) (σ : SS), L ≤ i + f → i ≤ 4000 → Rel σ → Wl L xs k n 18 (lsL i) [] (hp σ) := by
  have fin : ∀ (i : Nat) (σ : SS), L < i + 6 → i ≤ 4000 → Wl L xs k n 18 (lsL i) [] (hp σ) := by
    intro i σ hi h4
    refine Wl.iload_n dl_18 rfl ?_
    refine Wl.aload_n dl_19 rfl ?_
    refine Wl.slen dl_20 ?_
    refine Wl.bipush dl_21 bp_6 ?_
    refine Wl.isub dl_23 ?_
    refine Wl.icmp_gt (tgt := 1712) dl_24 rfl (fun _ => ?_) (fun z => absurd ((lim_L hL h4).mpr hi) z)
    refine Wl.iconst dl_1712 ic_1 ?_
    exact Wl.iret dl_1713 hk hn
  intro f
  induction f with
  | zero => exact fun i σ hf h4 _ => fin i σ (by omega) h4
  | succ f ih =>
    intro i σ hf h4 hR
    by_cases hi : L < i + 6
    · exact fin i σ hi h4
    refine Wl.iload_n dl_18 rfl ?_
    refine Wl.aload_n dl_19 rfl ?_
    refine Wl.slen dl_20 ?_
    refine Wl.bipush dl_21 bp_6 ?_
    refine Wl.isub dl_23 ?_
    refine Wl.icmp_gt (tgt := 1712) dl_24 rfl (fun z => absurd ((lim_L hL h4).mp z) hi) (fun _ => ?_)
    refine law_op hL (by omega) hk hn hR (fun τ hτ => ?_)
    refine Wl.iinc dl_1706 (v := nI (i + 6)) rfl (nI_add i 6) (Nat.le_of_ble_eq_true rfl) ?_
    refine Wl.goto (tgt := 18) dl_1709 rfl ?_
    exact ih (i + 6) τ (by omega) (by omega) hτ
theorem law_all (hL : L ≤ 3072) : Wl L xs 0 0 0 [some (vr 90 0), none, none, none] [] hk0 := by
  refine Wl.new 10 0 dl_0 gl_7 (by decide) ⟨ok_l rfl, ok_m rfl⟩ (by decide) (Nat.le_of_ble_eq_true rfl) ?_
  change Wl _ _ _ _ _ _ _ hk1
  refine Wl.dup dl_3 rfl ?_
  refine Wl.callI (as := []) (rest := [vr 10 0]) mk_X11_0 dl_4 wl_9 rfl (by decide) rfl rfl (Nat.le_of_ble_eq_true rfl) (Nat.le_of_ble_eq_true rfl) (Nat.le_of_ble_eq_true rfl) (Or.inr ⟨ok_l (by decide +kernel), ok_m (by decide +kernel)⟩) (fun v h' z => ?_)
  obtain ⟨rfl, rfl⟩ := z
  refine Wl.astore_n dl_7 (Nat.le_of_ble_eq_true rfl) ?_
  refine Wl.new 11 0 dl_8 gl_10 (by decide +kernel) ⟨ok_l (by decide +kernel), ok_m (by decide +kernel)⟩ (Nat.le_of_ble_eq_true rfl) (Nat.le_of_ble_eq_true rfl) ?_
  change Wl _ _ _ _ _ _ _ hk151
  refine Wl.dup dl_11 rfl ?_
  refine Wl.callI (as := []) (rest := [vr 11 0]) mk_X12_0 dl_12 wl_12 rfl (by decide) rfl rfl (Nat.le_of_ble_eq_true rfl) (Nat.le_of_ble_eq_true rfl) (Nat.le_of_ble_eq_true rfl) (Or.inr ⟨ok_l (by decide +kernel), ok_m (by decide +kernel)⟩) (fun v h' z => ?_)
  obtain ⟨rfl, rfl⟩ := z
  refine Wl.astore_n dl_15 (Nat.le_of_ble_eq_true rfl) ?_
  refine Wl.iconst dl_16 (v := nI 0) (by decide) ?_
  refine Wl.istore_n dl_17 (Nat.le_of_ble_eq_true rfl) ?_
  intro p l e s mid args below meth c D tc ad0 ad H locs LS C SX hW hS hL1 hE
  exact law_loop hL (Nat.le_of_ble_eq_true rfl) (Nat.le_of_ble_eq_true rfl) L 0 σ0 (by omega) (by decide) rel0 p l e s mid args below meth c D tc ad0 ad H locs LS C SX (wd_hk hW) hS hL1 (ex_hk hE)
end LPL
