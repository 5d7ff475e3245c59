/-! the one text: its length, its letters -/
theorem flw_J0_9 : Cond.fieldLink RJ0 9 "java/lang/String" "value" "[B" ∈ lw_g := tb10 6 (by decide +kernel) rfl
theorem flw_J0_15 : Cond.fieldLink RJ0 15 "java/lang/String" "coder" "B" ∈ lw_g := tb10 7 (by decide +kernel) rfl
theorem flw_J0_38 : Cond.fieldLink RJ0 38 "java/lang/String" "COMPACT_STRINGS" "Z" ∈ lw_g := tb2 230 (by decide +kernel) rfl
theorem flw_J0_1053 : Cond.fieldLink RJ0 1053 PRE "SIOOBE_FORMATTER" "Ljava/util/function/BiFunction;" ∈ lw_g := tb3 6 (by decide +kernel) rfl
def CdX (own : String) (idx : Nat) (m' : MI) (na : Nat) : Prop := CdB own idx m' na ∧ Cond.instanceMethod m'.1 ∈ lw_g ∧ Cond.selects m'.1.cls m'.1 m'.1 ∈ lw_g ∧ m'.1.cls = "java/lang/String"
theorem xw_X5_88 : CdX RX5 88 mi_J0_length_8abf5 0 := ⟨⟨cw_J0_length_8abf5, iw_J0, tb2 222 (by decide +kernel) rfl, ⟨by decide +kernel, by decide +kernel, by decide +kernel⟩, by decide⟩, nw_J0_length_8abf5, ew_J0_length_8abf5, rfl⟩
theorem xw_X5_92 : CdX RX5 92 mi_J0_charAt_5068e 1 := ⟨⟨cw_J0_charAt_5068e, iw_J0, tb2 232 (by decide +kernel) rfl, ⟨by decide +kernel, by decide +kernel, by decide +kernel⟩, by decide⟩, nw_J0_charAt_5068e, ew_J0_charAt_5068e, rfl⟩
theorem xw_J0_335 : CdX RJ0 335 mi_J0_coder_7d493 0 := ⟨⟨cw_J0_coder_7d493, iw_J0, tb2 226 (by decide +kernel) rfl, ⟨by decide +kernel, by decide +kernel, by decide +kernel⟩, by decide⟩, nw_J0_coder_7d493, ew_J0_coder_7d493, rfl⟩
theorem xw_J0_492 : CdX RJ0 492 mi_J0_isLatin1_aae02 0 := ⟨⟨cw_J0_isLatin1_aae02, iw_J0, tb2 236 (by decide +kernel) rfl, ⟨by decide +kernel, by decide +kernel, by decide +kernel⟩, by decide⟩, nw_J0_isLatin1_aae02, ew_J0_isLatin1_aae02, rfl⟩
theorem xw_J0_495 : CdS RJ0 495 mi_J1_charAt_3b067 2 := ⟨⟨cw_J1_charAt_3b067, iw_J1, tb3 0 (by decide +kernel) rfl, ⟨by decide +kernel, by decide +kernel, by decide +kernel⟩, by decide⟩, sw_J1_charAt_3b067⟩
theorem xw_J1_9 : CdS RJ1 9 mi_J0_checkIndex_df160 2 := ⟨⟨cw_J0_checkIndex_df160, iw_J0, tb3 3 (by decide +kernel) rfl, ⟨by decide +kernel, by decide +kernel, by decide +kernel⟩, by decide⟩, sw_J0_checkIndex_df160⟩
theorem xw_J0_1059 : CdS RJ0 1059 mi_J3_checkIndex_8e157 3 := ⟨⟨cw_J3_checkIndex_8e157, iw_J3, tb3 8 (by decide +kernel) rfl, ⟨by decide +kernel, by decide +kernel, by decide +kernel⟩, by decide⟩, sw_J3_checkIndex_8e157⟩
section WPX
variable {d mc ms : Nat} {m : MI} {Q : Option AV → AH → Prop} {k n pc pc' : Nat} {ls : List (Option AV)} {st : List AV} {h : AH}
theorem Wp.xldc (hd : Dc m pc (.ldc 86) 2 pc') (hm : m.1.cls = RX5) (k1 : Wp d mc ms m Q k n pc' ls (vr 95 0 :: st) h) : Wp d mc ms m Q k n pc ls st h := by
  intro p l e s mid args below meth c D tc ad0 ad h0 H locs LS C hW hS hL hE
  obtain ⟨hd1, rfl⟩ := hd
  have z := k1 p l e s mid args below meth c D tc ad0 ad h0 H locs LS C hW hS hL hE
  have e : (vr 95 0 :: st).map (cv ad) = Value.ref (ad0 95 0) :: st.map (cv ad) := by
    show Value.ref (ad 95 0) :: _ = _
    rw [hE.2.2.2 95 0 (by omega)]
  rw [e] at z
  have x := C.2.2.2.2.2.2.2.2.2
  exact va_ldcS C.1 C.2.1 (own := RX5) (by rw [← hm]; exact C.2.2.2.2.1) x.2.2.1 hd1 z
theorem Wp.xval (hd : Dc m pc (.getfield 9) 3 pc') (hm : m.1.cls = RJ0) (k1 : Wp d mc ms m Q k n pc' ls (vr 95 1 :: st) h) : Wp d mc ms m Q k n pc ls (vr 95 0 :: st) h := by
  intro p l e s mid args below meth c D tc ad0 ad h0 H locs LS C hW hS hL hE
  obtain ⟨hd1, rfl⟩ := hd
  have z := k1 p l e s mid args below meth c D tc ad0 ad h0 H locs LS C hW hS hL hE
  have e : (vr 95 1 :: st).map (cv ad) = Value.ref (ad0 95 1) :: st.map (cv ad) := by
    show Value.ref (ad 95 1) :: _ = _
    rw [hE.2.2.2 95 1 (by omega)]
  have e0 : (vr 95 0 :: st).map (cv ad) = Value.ref (ad0 95 0) :: st.map (cv ad) := by
    show Value.ref (ad 95 0) :: _ = _
    rw [hE.2.2.2 95 0 (by omega)]
  rw [e] at z
  rw [e0]
  have x := C.2.2.2.2.2.2.2.2.2
  exact vk_getf C.1 C.2.1 (x.2.2.2.1.1 0 (by omega)).2.2.1 hS C.2.2.2.2.1 (by rw [hm]; exact C.2.2.2.2.2.1 _ flw_J0_9) (fun _ q => q) hd1 z
theorem Wp.xcod (hd : Dc m pc (.getfield 15) 3 pc') (hm : m.1.cls = RJ0) (k1 : Wp d mc ms m Q k n pc' ls (vi 0 :: st) h) : Wp d mc ms m Q k n pc ls (vr 95 0 :: st) h := by
  intro p l e s mid args below meth c D tc ad0 ad h0 H locs LS C hW hS hL hE
  obtain ⟨hd1, rfl⟩ := hd
  have z := k1 p l e s mid args below meth c D tc ad0 ad h0 H locs LS C hW hS hL hE
  have e0 : (vr 95 0 :: st).map (cv ad) = Value.ref (ad0 95 0) :: st.map (cv ad) := by
    show Value.ref (ad 95 0) :: _ = _
    rw [hE.2.2.2 95 0 (by omega)]
  rw [e0]
  have x := C.2.2.2.2.2.2.2.2.2
  exact vk_getf C.1 C.2.1 (x.2.2.2.1.1 0 (by omega)).2.1 hS C.2.2.2.2.1 (by rw [hm]; exact C.2.2.2.2.2.1 _ flw_J0_15) (fun _ q => q) hd1 z
theorem Wp.xcomp (hd : Dc m pc (.getstatic 38) 3 pc') (hm : m.1.cls = RJ0) (k1 : Wp d mc ms m Q k n pc' ls (vi 1 :: st) h) : Wp d mc ms m Q k n pc ls st h := by
  intro p l e s mid args below meth c D tc ad0 ad h0 H locs LS C hW hS hL hE
  obtain ⟨hd1, rfl⟩ := hd
  have z := k1 p l e s mid args below meth c D tc ad0 ad h0 H locs LS C hW hS hL hE
  have x := C.2.2.2.2.2.2.2.2.2
  exact va_gets C.1 C.2.1 x.2.2.2.2.1 hS C.2.2.2.2.1 (by rw [hm]; exact C.2.2.2.2.2.1 _ flw_J0_38) (fun _ q => q) hd1 z
theorem Wp.xform (hd : Dc m pc (.getstatic 1053) 3 pc') (hm : m.1.cls = RJ0) (k1 : Wp d mc ms m Q k n pc' ls (vn :: st) h) (k2 : Wp d mc ms m Q k n pc' ls (vr 95 2 :: st) h) : Wp d mc ms m Q k n pc ls st h := by
  intro p l e s mid args below meth c D tc ad0 ad h0 H locs LS C hW hS hL hE
  obtain ⟨hd1, rfl⟩ := hd
  have x := C.2.2.2.2.2.2.2.2.2
  rcases x.2.2.2.2.2 with y | y
  · exact va_gets C.1 C.2.1 y hS C.2.2.2.2.1 (by rw [hm]; exact C.2.2.2.2.2.1 _ flw_J0_1053) (fun _ q => q) hd1 (k1 p l e s mid args below meth c D tc ad0 ad h0 H locs LS C hW hS hL hE)
  · have z := k2 p l e s mid args below meth c D tc ad0 ad h0 H locs LS C hW hS hL hE
    have e0 : (vr 95 2 :: st).map (cv ad) = Value.ref (ad0 95 2) :: st.map (cv ad) := by
      show Value.ref (ad 95 2) :: _ = _
      rw [hE.2.2.2 95 2 (by omega)]
    rw [e0] at z
    exact va_gets C.1 C.2.1 y hS C.2.2.2.2.1 (by rw [hm]; exact C.2.2.2.2.2.1 _ flw_J0_1053) (fun _ q => q) hd1 z
theorem Wp.xlen (hd : Dc m pc .arraylength 1 pc') (k1 : Wp d mc ms m Q k n pc' ls (vi (nI 128) :: st) h) : Wp d mc ms m Q k n pc ls (vr 95 1 :: st) h := by
  intro p l e s mid args below meth c D tc ad0 ad h0 H locs LS C hW hS hL hE
  obtain ⟨hd1, rfl⟩ := hd
  have z := k1 p l e s mid args below meth c D tc ad0 ad h0 H locs LS C hW hS hL hE
  have e0 : (vr 95 1 :: st).map (cv ad) = Value.ref (ad0 95 1) :: st.map (cv ad) := by
    show Value.ref (ad 95 1) :: _ = _
    rw [hE.2.2.2 95 1 (by omega)]
  rw [e0]
  have x := C.2.2.2.2.2.2.2.2.2
  exact va_tlen C.1 C.2.1 (x.2.2.2.1.1 0 (by omega)).2.2.2 hS rfl hd1 z
theorem Wp.xba {i : Int32} {j : Nat} (hd : Dc m pc .baload 1 pc') (hx : ck 128 i = some j) (k1 : Wp d mc ms m Q k n pc' ls (vi (WBY.getD j 0) :: st) h) : Wp d mc ms m Q k n pc ls (vi i :: vr 95 1 :: st) h := by
  obtain ⟨hin, rfl⟩ := ck_some hx
  intro p l e s mid args below meth c D tc ad0 ad h0 H locs LS C hW hS hL hE
  obtain ⟨hd1, rfl⟩ := hd
  have z := k1 p l e s mid args below meth c D tc ad0 ad h0 H locs LS C hW hS hL hE
  have e0 : (vi i :: vr 95 1 :: st).map (cv ad) = Value.int i :: Value.ref (ad0 95 1) :: st.map (cv ad) := by
    show Value.int i :: Value.ref (ad 95 1) :: _ = _
    rw [hE.2.2.2 95 1 (by omega)]
  rw [e0]
  have x := C.2.2.2.2.2.2.2.2.2
  exact va_tb C.1 C.2.1 (x.2.2.2.1.1 0 (by omega)).2.2.2 hS hin rfl hd1 z
theorem Wp.xcall {d' idx na : Nat} {as : List AV} {m' : MI} {r : AV} {σ : SS} (hR : Runs d' 0 0 m' (vr 95 0 :: as) (hp σ) (fun v h => v = some r ∧ h = hp σ)) (hd : Dc m pc (.invokevirtual idx) 3 pc') (hc : CdX m.1.cls idx m' na) (hdd : d' + 1 ≤ d) (hna : as.length = na) {st0 : List AV} (hst : st0 = as.reverse ++ vr 95 0 :: st) (hrest : (st.map ct).sum ≤ 8) (k1 : Ws d m Q pc' ls (r :: st) σ) : Ws d m Q pc ls st0 σ := by
  intro p l e s mid args below meth c D tc ad0 ad h0 H locs LS C hW hS hL hE
  obtain ⟨hd1, hpc⟩ := hd
  obtain ⟨⟨b1, b2, b3, b4, b5⟩, b6, b7, b8⟩ := hc
  obtain ⟨c1, c2, c3, c4, c5, c6, c7, c8, c9⟩ := id C
  have hrv : ∃ cell : Cell, H[ad 95 0]? = some cell ∧ cell.vm.isStatics = false ∧ s.vm.findClass m'.1.cls = some cell.cls := by
    rw [b8, hE.2.2.2 95 0 (by omega)]
    exact vk_recv (i := 0) (N := 1) (adK := fun _ => ad0 95 0) c9.2.2.2.2.1 (by decide) hS
  have hr := va_runV (p := p) (l := l) (e := e) (R := rmd d 0 0) (s := s) (m := mid) (args := args) (below := below) (meth := meth) (c := c) (H := H) (locs := locs) (cells := 0) (slots := 0) (As := as.map (cv ad)) (rest := st.map (cv ad)) (b := ad 95 0) (g := F0 mid pc LS (st0.map (cv ad))) (index := idx) (C := m'.1.cls) (y := m'.1) (bytes := m'.2.1) (maxL := m'.2.2.1) (ret := m'.2.2.2) (ws := wsm m') (n := na)
    ⟨c1, c2, c4, c5, c6⟩ (hR l D tc ad H.size)
    ⟨callB_of (ws' := lw_g) na c6 (wsm_good b1) rfl rfl rfl (c6 _ b2) (c6 _ b3) b4 (rmd_call hdd b5), c6 _ b6, c6 _ b7⟩
    ⟨blind_pc, hrv, fun U hU hWm => ⟨rfl, by rw [hU], by rw [hU]; exact hW.weak (fun _ _ => trivial), va_K.moved hWm.alike c8, by rw [hU]; exact ((Xs.warm hWm (c9.2.kept hS.2.1)).narrow (Af_sub hW hS)).ex hE.2.2.2⟩⟩
    rfl (by simpa using hna) hL.1 (by rw [hst]; simp [cv]) (lv_room (by rw [catsum]; exact hrest)) hd1 ⟨Nat.le_refl _, Nat.le_refl _⟩
  exact Wp.back (mc := 0) (ms := 0) (k := 0) (n := 0) (mc' := 0) (ms' := 0) (Q' := fun v h => v = some r ∧ h = hp σ) (Nat.le_refl _) (Nat.le_refl _) (Or.inl ⟨rfl, fun v h z => by rw [z.2]⟩) hpc (fun v h z => by obtain ⟨rfl, rfl⟩ := z; exact k1) C hW hS hL hE hr
end WPX
theorem pn_J0 : plainName RJ0 = true := by decide +kernel
theorem pn_J1 : plainName RJ1 = true := by decide +kernel
theorem pn_J3 : plainName RJ3 = true := by decide +kernel
theorem cx_coder (σ : SS) : Runs 0 0 0 mi_J0_coder_7d493 [vr 95 0] (hp σ) (fun v h => v = some (vi 0) ∧ h = hp σ) := by
  refine Runs.of pn_J0 (Nat.le_of_ble_eq_true rfl) ?_
  refine Wp.xcomp dc_J0_coder_7d493_0 rfl ?_
  refine Wp.if_eq (tgt := 13) dc_J0_coder_7d493_3 rfl (fun z => absurd z (by decide)) (fun _ => ?_)
  refine Wp.aload_n dc_J0_coder_7d493_6 rfl ?_
  refine Wp.xcod dc_J0_coder_7d493_7 rfl ?_
  refine Wp.goto (tgt := 14) dc_J0_coder_7d493_10 rfl ?_
  exact Wp.ireturn dc_J0_coder_7d493_14 rfl (by decide +kernel) (Nat.le_refl _) (Nat.le_refl _) ⟨rfl, rfl⟩
theorem cx_latin (σ : SS) : Runs 0 0 0 mi_J0_isLatin1_aae02 [vr 95 0] (hp σ) (fun v h => v = some (vi 1) ∧ h = hp σ) := by
  refine Runs.of pn_J0 (Nat.le_of_ble_eq_true rfl) ?_
  refine Wp.xcomp dc_J0_isLatin1_aae02_0 rfl ?_
  refine Wp.if_eq (tgt := 17) dc_J0_isLatin1_aae02_3 rfl (fun z => absurd z (by decide)) (fun _ => ?_)
  refine Wp.aload_n dc_J0_isLatin1_aae02_6 rfl ?_
  refine Wp.xcod dc_J0_isLatin1_aae02_7 rfl ?_
  refine Wp.if_ne (tgt := 17) dc_J0_isLatin1_aae02_10 rfl (fun z => absurd rfl z) (fun _ => ?_)
  refine Wp.iconst dc_J0_isLatin1_aae02_13 ic_1 ?_
  refine Wp.goto (tgt := 18) dc_J0_isLatin1_aae02_14 rfl ?_
  exact Wp.ireturn dc_J0_isLatin1_aae02_18 rfl (by decide +kernel) (Nat.le_refl _) (Nat.le_refl _) ⟨rfl, rfl⟩
theorem cx_len (σ : SS) : Runs 1 0 0 mi_J0_length_8abf5 [vr 95 0] (hp σ) (fun v h => v = some (vi (nI 128)) ∧ h = hp σ) := by
  refine Runs.of pn_J0 (Nat.le_of_ble_eq_true rfl) ?_
  refine Wp.aload_n dc_J0_length_8abf5_0 rfl ?_
  refine Wp.xval dc_J0_length_8abf5_1 rfl ?_
  refine Wp.xlen dc_J0_length_8abf5_4 ?_
  refine Wp.aload_n dc_J0_length_8abf5_5 rfl ?_
  refine Wp.xcall (as := []) (st := [vi (nI 128)]) (cx_coder σ) dc_J0_length_8abf5_6 xw_J0_335 (Nat.le_refl _) rfl rfl (by decide) ?_
  refine Wp.ishr dc_J0_length_8abf5_9 ?_
  rw [show nI 128 >>> ((0 : Int32) &&& 31) = nI 128 by decide]
  exact Wp.ireturn dc_J0_length_8abf5_10 rfl rfl (Nat.le_refl _) (Nat.le_refl _) ⟨rfl, rfl⟩
theorem cx_chk3 (σ : SS) {x y : Int32} {q : Option Nat} (h0 : ¬ x < 0) (h1 : x < y) : Runs 0 0 0 mi_J3_checkIndex_8e157 [vi x, vi y, vq 95 q] (hp σ) (fun v h => v = some (vi x) ∧ h = hp σ) := by
  have e : lcs [vi x, vi y, vq 95 q] = [some (vi x), some (vi y), some (vq 95 q)] := by cases q <;> rfl
  refine Runs.of pn_J3 (by rw [e]; exact Nat.le_of_ble_eq_true rfl) ?_
  rw [show lce mi_J3_checkIndex_8e157.2.2.1 [vi x, vi y, vq 95 q] = [some (vi x), some (vi y), some (vq 95 q)] by rw [lce, e]; rfl]
  refine Wp.iload_n dc_J3_checkIndex_8e157_0 rfl ?_
  refine Wp.if_lt (tgt := 9) dc_J3_checkIndex_8e157_1 rfl (fun z => absurd z h0) (fun _ => ?_)
  refine Wp.iload_n dc_J3_checkIndex_8e157_4 rfl ?_
  refine Wp.iload_n dc_J3_checkIndex_8e157_5 rfl ?_
  refine Wp.icmp_lt (tgt := 16) dc_J3_checkIndex_8e157_6 rfl (fun _ => ?_) (fun z => absurd h1 z)
  refine Wp.iload_n dc_J3_checkIndex_8e157_16 rfl ?_
  exact Wp.ireturn dc_J3_checkIndex_8e157_17 rfl rfl (Nat.le_refl _) (Nat.le_refl _) ⟨rfl, rfl⟩
theorem cx_chk2 (σ : SS) {x y : Int32} (h0 : ¬ x < 0) (h1 : x < y) : Runs 1 0 0 mi_J0_checkIndex_df160 [vi x, vi y] (hp σ) (fun v h => v = none ∧ h = hp σ) := by
  refine Runs.of pn_J0 (Nat.le_of_ble_eq_true rfl) ?_
  refine Wp.iload_n dc_J0_checkIndex_df160_0 rfl ?_
  refine Wp.iload_n dc_J0_checkIndex_df160_1 rfl ?_
  refine Wp.xform dc_J0_checkIndex_df160_2 rfl ?_ ?_
  · refine Wp.cS3i (cx_chk3 σ (q := none) h0 h1) dc_J0_checkIndex_df160_5 xw_J0_1059 (Nat.le_refl _) (by decide) ?_
    refine Wp.pop dc_J0_checkIndex_df160_8 rfl ?_
    exact Wp.return dc_J0_checkIndex_df160_9 rfl (Nat.le_refl _) (Nat.le_refl _) ⟨rfl, rfl⟩
  · refine Wp.cS3i (cx_chk3 σ (q := some 2) h0 h1) dc_J0_checkIndex_df160_5 xw_J0_1059 (Nat.le_refl _) (by decide) ?_
    refine Wp.pop dc_J0_checkIndex_df160_8 rfl ?_
    exact Wp.return dc_J0_checkIndex_df160_9 rfl (Nat.le_refl _) (Nat.le_refl _) ⟨rfl, rfl⟩
theorem wby_c : ∀ j, j < 128 → (((WBY.getD j 0) &&& 255).toUInt32 % 65536).toInt32 = WBY.getD j 0 ∧ narrow .char (.int (WBY.getD j 0)) = .int (WBY.getD j 0) := by decide +kernel
theorem ck_n {x : Int32} {j : Nat} (hx : ck 128 x = some j) : ¬ x < 0 ∧ x < nI 128 ∧ j < 128 := by
  obtain ⟨h1, rfl⟩ := ck_some hx
  have h2 : ¬ x < 0 := fun z => h1 (Or.inl z)
  have h3 : x.toNatClampNeg < 128 := Nat.not_le.mp fun z => h1 (Or.inr z)
  refine ⟨h2, ?_, h3⟩
  rw [Int32.lt_iff_toInt_lt, show (nI 128).toInt = 128 by decide]
  have h4 : x.toNatClampNeg = x.toInt.toNat := rfl
  omega
theorem cx_at1 (σ : SS) {x : Int32} {j : Nat} (hx : ck 128 x = some j) : Runs 2 0 0 mi_J1_charAt_3b067 [vr 95 1, vi x] (hp σ) (fun v h => v = some (vi (WBY.getD j 0)) ∧ h = hp σ) := by
  obtain ⟨h0, h1, h2⟩ := ck_n hx
  refine Runs.of pn_J1 (Nat.le_of_ble_eq_true rfl) ?_
  refine Wp.iload_n dc_J1_charAt_3b067_0 rfl ?_
  refine Wp.aload_n dc_J1_charAt_3b067_1 rfl ?_
  refine Wp.xlen dc_J1_charAt_3b067_2 ?_
  refine Wp.cS2v (cx_chk2 σ h0 h1) dc_J1_charAt_3b067_3 xw_J1_9 (Nat.le_refl _) (by decide) ?_
  refine Wp.aload_n dc_J1_charAt_3b067_6 rfl ?_
  refine Wp.iload_n dc_J1_charAt_3b067_7 rfl ?_
  refine Wp.xba dc_J1_charAt_3b067_8 hx ?_
  refine Wp.sipush dc_J1_charAt_3b067_9 sp_255 ?_
  refine Wp.iand dc_J1_charAt_3b067_12 ?_
  refine Wp.i2c dc_J1_charAt_3b067_13 ?_
  rw [(wby_c j h2).1]
  exact Wp.ireturn dc_J1_charAt_3b067_14 rfl (wby_c j h2).2 (Nat.le_refl _) (Nat.le_refl _) ⟨rfl, rfl⟩
theorem cx_at (σ : SS) {x : Int32} {j : Nat} (hx : ck 128 x = some j) : Runs 3 0 0 mi_J0_charAt_5068e [vr 95 0, vi x] (hp σ) (fun v h => v = some (vi (WBY.getD j 0)) ∧ h = hp σ) := by
  obtain ⟨h0, h1, h2⟩ := ck_n hx
  refine Runs.of pn_J0 (Nat.le_of_ble_eq_true rfl) ?_
  refine Wp.aload_n dc_J0_charAt_5068e_0 rfl ?_
  refine Wp.xcall (as := []) (st := []) (cx_latin σ) dc_J0_charAt_5068e_1 xw_J0_492 (by decide) rfl rfl (by decide) ?_
  refine Wp.if_eq (tgt := 16) dc_J0_charAt_5068e_4 rfl (fun z => absurd z (by decide)) (fun _ => ?_)
  refine Wp.aload_n dc_J0_charAt_5068e_7 rfl ?_
  refine Wp.xval dc_J0_charAt_5068e_8 rfl ?_
  refine Wp.iload_n dc_J0_charAt_5068e_11 rfl ?_
  refine Wp.cS2i (cx_at1 σ hx) dc_J0_charAt_5068e_12 xw_J0_495 (Nat.le_refl _) (by decide) ?_
  exact Wp.ireturn dc_J0_charAt_5068e_15 rfl (wby_c j h2).2 (Nat.le_refl _) (Nat.le_refl _) ⟨rfl, rfl⟩
theorem Wp.strLen {Q : Option AV → AH → Prop} {pc pc1 pc2 : Nat} {ls : List (Option AV)} {st : List AV} {σ : SS} (hd1 : Dc mi_X5_numberOfWord pc (.ldc 86) 2 pc1) (hd2 : Dc mi_X5_numberOfWord pc1 (.invokevirtual 88) 3 pc2) (hrest : (st.map ct).sum ≤ 8) (k1 : Ws 6 mi_X5_numberOfWord Q pc2 ls (vi (nI 128) :: st) σ) : Ws 6 mi_X5_numberOfWord Q pc ls st σ := by
  refine Wp.xldc hd1 rfl ?_
  exact Wp.xcall (as := []) (st := st) (cx_len σ) hd2 xw_X5_88 (by decide) rfl rfl hrest k1
theorem Wp.strAt {Q : Option AV → AH → Prop} {pc pc1 pc2 pc3 i j : Nat} {x : Int32} {ls : List (Option AV)} {st : List AV} {σ : SS} (hd1 : Dc mi_X5_numberOfWord pc (.ldc 86) 2 pc1) (hd2 : Dc mi_X5_numberOfWord pc1 (.iload i) 2 pc2) (hd3 : Dc mi_X5_numberOfWord pc2 (.invokevirtual 92) 3 pc3) (hv : ls[i]? = some (some (vi x))) (hx : ck 128 x = some j) (hrest : (st.map ct).sum ≤ 8) (k1 : Ws 6 mi_X5_numberOfWord Q pc3 ls (vi (WBY.getD j 0) :: st) σ) : Ws 6 mi_X5_numberOfWord Q pc ls st σ := by
  refine Wp.xldc hd1 rfl ?_
  refine Wp.iload hd2 hv ?_
  exact Wp.xcall (as := [vi x]) (st := st) (cx_at σ hx) hd3 xw_X5_92 (by decide) rfl rfl hrest k1
