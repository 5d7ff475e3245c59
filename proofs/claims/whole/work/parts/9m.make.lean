/-! ===== the constructors: what they make (by program: wip/whole/make.py) ===== -/
def kTab (t r w : Nat) (h : AH) : AH := sR (nO (sR (sR h 3 t 0 (some r)) 3 t 1 (some w)) 13 t (r * w)) 3 t 2 (some t)
theorem aw_l : Cond.arrayClass (newarray.typeOf .long) ∈ lw_g := tb1 50 (by decide +kernel) rfl
theorem aw_i : Cond.arrayClass (newarray.typeOf .int) ∈ lw_g := tb1 51 (by decide +kernel) rfl
theorem aw_b : Cond.arrayClass (newarray.typeOf .byte) ∈ lw_g := tb3 214 (by decide +kernel) rfl
theorem oi_w : Cond.instanceMethod Lib.objectInit ∈ lw_g := tb1 26 (by decide +kernel) rfl
theorem oc_w : Cond.code Lib.objectInit ⟨#[0xb1]⟩ 1 none ∈ lw_g := tb1 27 (by decide +kernel) rfl
theorem qw_39 : Cond.classLink RX11 39 RX0 ∈ lw_g := tb1 121 (by decide +kernel) rfl
def okb (O : List (Nat × Nat)) : AV → Bool
  | .inr (.inr (.inl q)) => O.contains q || Nat.ble 90 q.1
  | _ => true
theorem okb_1 {h : AH} {v : AV} (e : okb h.1 v = true) : ok1 h v := by
  rcases v with x | x | q | x
  · trivial
  · trivial
  · have e' : (h.1.contains q || Nat.ble 90 q.1) = true := e
    rw [Bool.or_eq_true] at e'
    rcases e' with z | z
    · exact Or.inl (List.contains_iff_mem.mp z)
    · exact Or.inr (Nat.le_of_ble_eq_true z)
  · trivial
theorem ok_l {h : AH} {L : List AV} (e : L.all (okb h.1) = true) : ∀ v ∈ L, ok1 h v := fun v hv => okb_1 (List.all_eq_true.mp e v hv)
def okm (O : List (Nat × Nat)) : Option AV → Bool
  | some v => okb O v
  | none => true
theorem ok_m {h : AH} {ls : List (Option AV)} (e : ls.all (okm h.1) = true) : ∀ v, some v ∈ ls → ok1 h v := fun v hv => okb_1 (List.all_eq_true.mp e (some v) hv)
theorem nI_mul' (a b : Nat) : nI a * nI b = nI (a * b) := by
  unfold nI
  exact (Int32.ofNat_mul a b).symm
theorem mk_tab {h : AH} {t r w : Nat} (hr : 1 ≤ r) (hr2 : r ≤ 1000) (hw : 1 ≤ w) (hw2 : w ≤ 1000) (hm : (3, t) ∈ h.1) (hf : (13, t) ∉ h.1) : Runs 1 1 (r * w) mi_X4_init [vr 3 t, vi (nI r), vi (nI w)] h (fun v h' => v = none ∧ h' = kTab t r w h) := by
  have hrw : r * w ≤ 1000000 := Nat.mul_le_mul hr2 hw2
  have gr : ¬ nI r ≤ 0 := by rw [l0]; exact nI_ge (by omega) (by omega)
  have gw : ¬ nI w ≤ 0 := by rw [l0]; exact nI_ge (by omega) (by omega)
  have gr2 : ¬ 1000 < nI r := nI_nlt (a := 1000) (b := r) hr2 (by decide)
  have gw2 : ¬ 1000 < nI w := nI_nlt (a := 1000) (b := w) hw2 (by decide)
  obtain ⟨p1, p2⟩ := ck_some (ck_nI (show r * w < r * w + 1 by omega) (show r * w + 1 < 2147483648 by omega))
  refine Runs.of pn_X4 (Nat.le_of_ble_eq_true rfl) ?_
  refine Wp.aload_n dc_X4_init_0 rfl ?_
  refine Wp.objInit dc_X4_init_1 ow_X4_1 oi_w oc_w (Nat.le_refl _) (Nat.le_of_ble_eq_true rfl) ?_
  refine Wp.iload_n dc_X4_init_4 rfl ?_
  refine Wp.if_le (tgt := 30) dc_X4_init_5 rfl (fun z => absurd z gr) (fun _ => ?_)
  refine Wp.iload_n dc_X4_init_8 rfl ?_
  refine Wp.if_le (tgt := 30) dc_X4_init_9 rfl (fun z => absurd z gw) (fun _ => ?_)
  refine Wp.iload_n dc_X4_init_12 rfl ?_
  refine Wp.sipush dc_X4_init_13 sp_1000 ?_
  refine Wp.icmp_gt (tgt := 30) dc_X4_init_16 rfl (fun z => absurd z gr2) (fun _ => ?_)
  refine Wp.iload_n dc_X4_init_19 rfl ?_
  refine Wp.sipush dc_X4_init_20 sp_1000 ?_
  refine Wp.icmp_gt (tgt := 30) dc_X4_init_23 rfl (fun z => absurd z gw2) (fun _ => ?_)
  refine Wp.iconst dc_X4_init_26 ic_1 ?_
  refine Wp.goto (tgt := 31) dc_X4_init_27 rfl ?_
  refine Wp.istore_n dc_X4_init_31 (Nat.le_of_ble_eq_true rfl) ?_
  refine Wp.aload_n dc_X4_init_32 rfl ?_
  refine Wp.iload_n dc_X4_init_33 rfl ?_
  refine Wp.if_eq (tgt := 41) dc_X4_init_34 rfl (fun z => absurd z (by decide)) (fun _ => ?_)
  refine Wp.iload_n dc_X4_init_37 rfl ?_
  refine Wp.goto (tgt := 42) dc_X4_init_38 rfl ?_
  refine Wp.putC (t := r) dc_X4_init_42 fw_X4_7 rfl rfl hm ?_
  refine Wp.aload_n dc_X4_init_45 rfl ?_
  refine Wp.iload_n dc_X4_init_46 rfl ?_
  refine Wp.if_eq (tgt := 54) dc_X4_init_47 rfl (fun z => absurd z (by decide)) (fun _ => ?_)
  refine Wp.iload_n dc_X4_init_50 rfl ?_
  refine Wp.goto (tgt := 55) dc_X4_init_51 rfl ?_
  refine Wp.putC (t := w) dc_X4_init_55 fw_X4_13 rfl rfl hm ?_
  refine Wp.aload_n dc_X4_init_58 rfl ?_
  refine Wp.iload_n dc_X4_init_59 rfl ?_
  refine Wp.if_eq (tgt := 69) dc_X4_init_60 rfl (fun z => absurd z (by decide)) (fun _ => ?_)
  refine Wp.iload_n dc_X4_init_63 rfl ?_
  refine Wp.iload_n dc_X4_init_64 rfl ?_
  refine Wp.imul dc_X4_init_65 ?_
  refine Wp.goto (tgt := 70) dc_X4_init_66 rfl ?_
  rw [nI_mul' r w]
  have hO : ∀ q, q ∈ (sR (sR h 3 t 0 (some r)) 3 t 1 (some w)).1 ↔ q ∈ h.1 := fun q => Iff.rfl
  refine Wp.newa (bs := 0) 13 t (r * w) 1 dc_X4_init_70 rfl aw_i (fun _ => rfl) (Or.inr (Or.inl ⟨rfl, rfl⟩)) (fun z => p1 (Or.inl z)) p2 (by show r * w * 4 ≤ _; omega) hf ⟨fun v hv => ?_, fun v hv => ?_⟩ (Nat.le_refl _) (by omega) ?_
  · rw [List.mem_singleton] at hv
    rw [hv]
    exact Or.inl hm
  · have hv' : some v ∈ [some (vr 3 t), some (vi (nI r)), some (vi (nI w)), some (vi 1)] := hv
    simp only [List.mem_cons, List.not_mem_nil, or_false, Option.some.injEq] at hv'
    rcases hv' with z | z | z | z
    · rw [z]; exact Or.inl hm
    · rw [z]; trivial
    · rw [z]; trivial
    · rw [z]; trivial
  refine Wp.putR dc_X4_init_72 fw_X4_16 rfl rfl (List.mem_append_left _ hm) (List.mem_append_right _ List.mem_cons_self) (Or.inr ⟨_, rfl⟩) ?_
  exact Wp.return dc_X4_init_75 rfl (Nat.le_refl _) (by omega) ⟨rfl, rfl⟩
def hk0 : AH := ([], fun _ _ => 0, fun _ _ _ => none, fun _ _ _ => 0, fun _ _ _ => 0)
def hk1 : AH := nO hk0 10 0 0
def hk2 : AH := nO hk1 5 0 0
def hk3 : AH := nO hk2 14 5 240
def hk4 : AH := sR hk3 5 0 0 (some 5)
def hk5 : AH := nO hk4 3 20 0
def hk6 : AH := kTab 20 3 4 hk5
def hk7 : AH := sR hk6 5 0 1 (some 20)
theorem mk_X6_0 : Runs 2 3 255 mi_X6_init [vr 5 0] hk2 (fun v h => v = none ∧ h = hk7) := by
  refine Runs.of pn_X6 (Nat.le_of_ble_eq_true rfl) ?_
  refine Wp.aload_n dc_X6_init_0 rfl ?_
  refine Wp.objInit dc_X6_init_1 ow_X6_3 oi_w oc_w (by decide) (Nat.le_of_ble_eq_true rfl) ?_
  refine Wp.aload_n dc_X6_init_4 rfl ?_
  refine Wp.sipush dc_X6_init_5 (v := nI 240) (by decide) ?_
  refine Wp.newa (bs := 0) 14 5 240 2 dc_X6_init_8 rfl aw_l (fun _ => rfl) (Or.inr (Or.inr ⟨rfl, rfl⟩)) (by decide) (by decide) (by decide) (by decide +kernel) ⟨ok_l (by decide +kernel), ok_m (by decide +kernel)⟩ (Nat.le_of_ble_eq_true rfl) (Nat.le_of_ble_eq_true rfl) ?_
  change Wp _ _ _ _ _ _ _ _ _ _ hk3
  refine Wp.putR dc_X6_init_10 fw_X6_11 rfl rfl (by decide +kernel) (by decide +kernel) (by first | exact Or.inl ⟨_, rfl⟩ | exact Or.inr ⟨_, rfl⟩) ?_
  change Wp _ _ _ _ _ _ _ _ _ _ hk4
  refine Wp.aload_n dc_X6_init_13 rfl ?_
  refine Wp.new 3 20 dc_X6_init_14 gw_X6_15 (by decide +kernel) ⟨ok_l (by decide +kernel), ok_m (by decide +kernel)⟩ (Nat.le_of_ble_eq_true rfl) (Nat.le_of_ble_eq_true rfl) ?_
  change Wp _ _ _ _ _ _ _ _ _ _ hk5
  refine Wp.dup dc_X6_init_17 rfl ?_
  refine Wp.iconst dc_X6_init_18 (v := nI 3) (by decide) ?_
  refine Wp.iconst dc_X6_init_19 (v := nI 4) (by decide) ?_
  refine Wp.callI (as := [vi (nI 3), vi (nI 4)]) (rest := [vr 3 20, vr 5 0]) (mk_tab (h := hk5) (t := 20) (r := 3) (w := 4) (by decide) (by decide) (by decide) (by decide) (by decide +kernel) (by decide +kernel)) dc_X6_init_20 mw_X6_17 rfl (by decide) rfl rfl (Nat.le_of_ble_eq_true rfl) (Nat.le_of_ble_eq_true rfl) (Nat.le_of_ble_eq_true rfl) (Or.inr ⟨ok_l (by decide +kernel), ok_m (by decide +kernel)⟩) (fun v h' z => ?_)
  obtain ⟨rfl, rfl⟩ := z
  change Wp _ _ _ _ _ _ _ _ _ _ hk6
  refine Wp.putR dc_X6_init_23 fw_X6_20 rfl rfl (by decide +kernel) (by decide +kernel) (by first | exact Or.inl ⟨_, rfl⟩ | exact Or.inr ⟨_, rfl⟩) ?_
  change Wp _ _ _ _ _ _ _ _ _ _ hk7
  exact Wp.return dc_X6_init_26 rfl (Nat.le_of_ble_eq_true rfl) (Nat.le_of_ble_eq_true rfl) ⟨rfl, rfl⟩
def hk8 : AH := sR hk7 10 0 0 (some 0)
def hk9 : AH := nO hk8 4 0 0
def hk10 : AH := nO hk9 13 31 900
def hk11 : AH := sR hk10 4 0 0 (some 31)
def hk12 : AH := sI hk11 4 0 7 (-1)
def hk13 : AH := sI hk12 4 0 8 (-1)
theorem mk_X5_0 : Runs 1 1 900 mi_X5_init [vr 4 0] hk9 (fun v h => v = none ∧ h = hk13) := by
  refine Runs.of pn_X5 (Nat.le_of_ble_eq_true rfl) ?_
  refine Wp.aload_n dc_X5_init_0 rfl ?_
  refine Wp.objInit dc_X5_init_1 ow_X5_3 oi_w oc_w (by decide) (Nat.le_of_ble_eq_true rfl) ?_
  refine Wp.aload_n dc_X5_init_4 rfl ?_
  refine Wp.sipush dc_X5_init_5 (v := nI 900) (by decide) ?_
  refine Wp.newa (bs := 0) 13 31 900 1 dc_X5_init_8 rfl aw_i (fun _ => rfl) (Or.inr (Or.inl ⟨rfl, rfl⟩)) (by decide) (by decide) (by decide) (by decide +kernel) ⟨ok_l (by decide +kernel), ok_m (by decide +kernel)⟩ (Nat.le_of_ble_eq_true rfl) (Nat.le_of_ble_eq_true rfl) ?_
  change Wp _ _ _ _ _ _ _ _ _ _ hk10
  refine Wp.putR dc_X5_init_10 fw_X5_11 rfl rfl (by decide +kernel) (by decide +kernel) (by first | exact Or.inl ⟨_, rfl⟩ | exact Or.inr ⟨_, rfl⟩) ?_
  change Wp _ _ _ _ _ _ _ _ _ _ hk11
  refine Wp.aload_n dc_X5_init_13 rfl ?_
  refine Wp.iconst dc_X5_init_14 (v := -1) (by decide) ?_
  refine Wp.putI dc_X5_init_15 fw_X5_15 (by decide +kernel) (Nr.i _) ?_
  change Wp _ _ _ _ _ _ _ _ _ _ hk12
  refine Wp.aload_n dc_X5_init_18 rfl ?_
  refine Wp.iconst dc_X5_init_19 (v := -1) (by decide) ?_
  refine Wp.putI dc_X5_init_20 fw_X5_19 (by decide +kernel) (Nr.i _) ?_
  change Wp _ _ _ _ _ _ _ _ _ _ hk13
  exact Wp.return dc_X5_init_23 rfl (Nat.le_of_ble_eq_true rfl) (Nat.le_of_ble_eq_true rfl) ⟨rfl, rfl⟩
def hk14 : AH := sR hk13 10 0 1 (some 0)
def hk15 : AH := nO hk14 1 0 0
def hk16 : AH := sR hk15 1 0 0 (some 0)
theorem mk_X1_0 : Runs 1 0 0 mi_X1_init [vr 1 0, vr 4 0] hk15 (fun v h => v = none ∧ h = hk16) := by
  refine Runs.of pn_X1 (Nat.le_of_ble_eq_true rfl) ?_
  refine Wp.aload_n dc_X1_init_0 rfl ?_
  refine Wp.objInit dc_X1_init_1 ow_X1_3 oi_w oc_w (by decide) (Nat.le_of_ble_eq_true rfl) ?_
  refine Wp.aload_n dc_X1_init_4 rfl ?_
  refine Wp.aload_n dc_X1_init_5 rfl ?_
  refine Wp.putR dc_X1_init_6 fw_X1_9 rfl rfl (by decide +kernel) (by decide +kernel) (by first | exact Or.inl ⟨_, rfl⟩ | exact Or.inr ⟨_, rfl⟩) ?_
  change Wp _ _ _ _ _ _ _ _ _ _ hk16
  exact Wp.return dc_X1_init_9 rfl (Nat.le_of_ble_eq_true rfl) (Nat.le_of_ble_eq_true rfl) ⟨rfl, rfl⟩
def hk17 : AH := sR hk16 10 0 2 (some 0)
def hk18 : AH := nO hk17 9 0 0
def hk19 : AH := nO hk18 3 21 0
def hk20 : AH := kTab 21 1 3 hk19
def hk21 : AH := sR hk20 9 0 1 (some 21)
def hk22 : AH := sR hk21 9 0 0 (some 0)
theorem mk_X10_0 : Runs 2 2 6 mi_X10_init [vr 9 0, vr 4 0] hk18 (fun v h => v = none ∧ h = hk22) := by
  refine Runs.of pn_X10 (Nat.le_of_ble_eq_true rfl) ?_
  refine Wp.aload_n dc_X10_init_0 rfl ?_
  refine Wp.objInit dc_X10_init_1 ow_X10_3 oi_w oc_w (by decide) (Nat.le_of_ble_eq_true rfl) ?_
  refine Wp.aload_n dc_X10_init_4 rfl ?_
  refine Wp.new 3 21 dc_X10_init_5 gw_X10_9 (by decide +kernel) ⟨ok_l (by decide +kernel), ok_m (by decide +kernel)⟩ (Nat.le_of_ble_eq_true rfl) (Nat.le_of_ble_eq_true rfl) ?_
  change Wp _ _ _ _ _ _ _ _ _ _ hk19
  refine Wp.dup dc_X10_init_8 rfl ?_
  refine Wp.iconst dc_X10_init_9 (v := nI 1) (by decide) ?_
  refine Wp.iconst dc_X10_init_10 (v := nI 3) (by decide) ?_
  refine Wp.callI (as := [vi (nI 1), vi (nI 3)]) (rest := [vr 3 21, vr 9 0]) (mk_tab (h := hk19) (t := 21) (r := 1) (w := 3) (by decide) (by decide) (by decide) (by decide) (by decide +kernel) (by decide +kernel)) dc_X10_init_11 mw_X10_13 rfl (by decide) rfl rfl (Nat.le_of_ble_eq_true rfl) (Nat.le_of_ble_eq_true rfl) (Nat.le_of_ble_eq_true rfl) (Or.inr ⟨ok_l (by decide +kernel), ok_m (by decide +kernel)⟩) (fun v h' z => ?_)
  obtain ⟨rfl, rfl⟩ := z
  change Wp _ _ _ _ _ _ _ _ _ _ hk20
  refine Wp.putR dc_X10_init_14 fw_X10_16 rfl rfl (by decide +kernel) (by decide +kernel) (by first | exact Or.inl ⟨_, rfl⟩ | exact Or.inr ⟨_, rfl⟩) ?_
  change Wp _ _ _ _ _ _ _ _ _ _ hk21
  refine Wp.aload_n dc_X10_init_17 rfl ?_
  refine Wp.aload_n dc_X10_init_18 rfl ?_
  refine Wp.putR dc_X10_init_19 fw_X10_20 rfl rfl (by decide +kernel) (by decide +kernel) (by first | exact Or.inl ⟨_, rfl⟩ | exact Or.inr ⟨_, rfl⟩) ?_
  change Wp _ _ _ _ _ _ _ _ _ _ hk22
  exact Wp.return dc_X10_init_22 rfl (Nat.le_of_ble_eq_true rfl) (Nat.le_of_ble_eq_true rfl) ⟨rfl, rfl⟩
def hk23 : AH := sR hk22 10 0 3 (some 0)
def hk24 : AH := nO hk23 0 0 0
def hk25 : AH := nO hk24 8 0 0
def hk26 : AH := nO hk25 3 0 0
def hk27 : AH := kTab 0 4 60 hk26
def hk28 : AH := sR hk27 8 0 0 (some 0)
theorem mk_X9_0 : Runs 2 2 243 mi_X9_init [vr 8 0] hk25 (fun v h => v = none ∧ h = hk28) := by
  refine Runs.of pn_X9 (Nat.le_of_ble_eq_true rfl) ?_
  refine Wp.aload_n dc_X9_init_0 rfl ?_
  refine Wp.objInit dc_X9_init_1 ow_X9_3 oi_w oc_w (by decide) (Nat.le_of_ble_eq_true rfl) ?_
  refine Wp.aload_n dc_X9_init_4 rfl ?_
  refine Wp.new 3 0 dc_X9_init_5 gw_X9_9 (by decide +kernel) ⟨ok_l (by decide +kernel), ok_m (by decide +kernel)⟩ (Nat.le_of_ble_eq_true rfl) (Nat.le_of_ble_eq_true rfl) ?_
  change Wp _ _ _ _ _ _ _ _ _ _ hk26
  refine Wp.dup dc_X9_init_8 rfl ?_
  refine Wp.iconst dc_X9_init_9 (v := nI 4) (by decide) ?_
  refine Wp.bipush dc_X9_init_10 (v := nI 60) (by decide) ?_
  refine Wp.callI (as := [vi (nI 4), vi (nI 60)]) (rest := [vr 3 0, vr 8 0]) (mk_tab (h := hk26) (t := 0) (r := 4) (w := 60) (by decide) (by decide) (by decide) (by decide) (by decide +kernel) (by decide +kernel)) dc_X9_init_12 mw_X9_13 rfl (by decide) rfl rfl (Nat.le_of_ble_eq_true rfl) (Nat.le_of_ble_eq_true rfl) (Nat.le_of_ble_eq_true rfl) (Or.inr ⟨ok_l (by decide +kernel), ok_m (by decide +kernel)⟩) (fun v h' z => ?_)
  obtain ⟨rfl, rfl⟩ := z
  change Wp _ _ _ _ _ _ _ _ _ _ hk27
  refine Wp.putR dc_X9_init_15 fw_X9_16 rfl rfl (by decide +kernel) (by decide +kernel) (by first | exact Or.inl ⟨_, rfl⟩ | exact Or.inr ⟨_, rfl⟩) ?_
  change Wp _ _ _ _ _ _ _ _ _ _ hk28
  exact Wp.return dc_X9_init_18 rfl (Nat.le_of_ble_eq_true rfl) (Nat.le_of_ble_eq_true rfl) ⟨rfl, rfl⟩
def hk29 : AH := sR hk28 0 0 0 (some 0)
def hk30 : AH := nO hk29 3 1 0
def hk31 : AH := kTab 1 7 8 hk30
def hk32 : AH := sR hk31 0 0 1 (some 1)
def hk33 : AH := nO hk32 3 2 0
def hk34 : AH := kTab 2 3 24 hk33
def hk35 : AH := sR hk34 0 0 2 (some 2)
def hk36 : AH := nO hk35 3 3 0
def hk37 : AH := kTab 3 1 3 hk36
def hk38 : AH := sR hk37 0 0 3 (some 3)
def hk39 : AH := nO hk38 14 0 11
def hk40 : AH := sR hk39 0 0 4 (some 0)
theorem mk_X0_0 : Runs 3 10 398 mi_X0_init [vr 0 0] hk24 (fun v h => v = none ∧ h = hk40) := by
  refine Runs.of pn_X0 (Nat.le_of_ble_eq_true rfl) ?_
  refine Wp.aload_n dc_X0_init_0 rfl ?_
  refine Wp.objInit dc_X0_init_1 ow_X0_3 oi_w oc_w (by decide) (Nat.le_of_ble_eq_true rfl) ?_
  refine Wp.aload_n dc_X0_init_4 rfl ?_
  refine Wp.new 8 0 dc_X0_init_5 gw_X0_9 (by decide +kernel) ⟨ok_l (by decide +kernel), ok_m (by decide +kernel)⟩ (Nat.le_of_ble_eq_true rfl) (Nat.le_of_ble_eq_true rfl) ?_
  change Wp _ _ _ _ _ _ _ _ _ _ hk25
  refine Wp.dup dc_X0_init_8 rfl ?_
  refine Wp.callIN (host := "CableDrawer") (as := []) (rest := [vr 8 0, vr 0 0]) mk_X9_0 dc_X0_init_9 cw_X9_init iw_X9 nw_X9_init (by decide +kernel) (by decide +kernel) (by decide) rfl rfl (by decide) rfl rfl (Nat.le_of_ble_eq_true rfl) (Nat.le_of_ble_eq_true rfl) (Nat.le_of_ble_eq_true rfl) (Or.inr ⟨ok_l (by decide +kernel), ok_m (by decide +kernel)⟩) (fun v h' z => ?_)
  obtain ⟨rfl, rfl⟩ := z
  change Wp _ _ _ _ _ _ _ _ _ _ hk28
  refine Wp.putR dc_X0_init_12 fw_X0_12 rfl rfl (by decide +kernel) (by decide +kernel) (by first | exact Or.inl ⟨_, rfl⟩ | exact Or.inr ⟨_, rfl⟩) ?_
  change Wp _ _ _ _ _ _ _ _ _ _ hk29
  refine Wp.aload_n dc_X0_init_15 rfl ?_
  refine Wp.new 3 1 dc_X0_init_16 gw_X0_18 (by decide +kernel) ⟨ok_l (by decide +kernel), ok_m (by decide +kernel)⟩ (Nat.le_of_ble_eq_true rfl) (Nat.le_of_ble_eq_true rfl) ?_
  change Wp _ _ _ _ _ _ _ _ _ _ hk30
  refine Wp.dup dc_X0_init_19 rfl ?_
  refine Wp.bipush dc_X0_init_20 (v := nI 7) (by decide) ?_
  refine Wp.bipush dc_X0_init_22 (v := nI 8) (by decide) ?_
  refine Wp.callI (as := [vi (nI 7), vi (nI 8)]) (rest := [vr 3 1, vr 0 0]) (mk_tab (h := hk30) (t := 1) (r := 7) (w := 8) (by decide) (by decide) (by decide) (by decide) (by decide +kernel) (by decide +kernel)) dc_X0_init_24 mw_X0_20 rfl (by decide) rfl rfl (Nat.le_of_ble_eq_true rfl) (Nat.le_of_ble_eq_true rfl) (Nat.le_of_ble_eq_true rfl) (Or.inr ⟨ok_l (by decide +kernel), ok_m (by decide +kernel)⟩) (fun v h' z => ?_)
  obtain ⟨rfl, rfl⟩ := z
  change Wp _ _ _ _ _ _ _ _ _ _ hk31
  refine Wp.putR dc_X0_init_27 fw_X0_23 rfl rfl (by decide +kernel) (by decide +kernel) (by first | exact Or.inl ⟨_, rfl⟩ | exact Or.inr ⟨_, rfl⟩) ?_
  change Wp _ _ _ _ _ _ _ _ _ _ hk32
  refine Wp.aload_n dc_X0_init_30 rfl ?_
  refine Wp.new 3 2 dc_X0_init_31 gw_X0_18 (by decide +kernel) ⟨ok_l (by decide +kernel), ok_m (by decide +kernel)⟩ (Nat.le_of_ble_eq_true rfl) (Nat.le_of_ble_eq_true rfl) ?_
  change Wp _ _ _ _ _ _ _ _ _ _ hk33
  refine Wp.dup dc_X0_init_34 rfl ?_
  refine Wp.iconst dc_X0_init_35 (v := nI 3) (by decide) ?_
  refine Wp.bipush dc_X0_init_36 (v := nI 24) (by decide) ?_
  refine Wp.callI (as := [vi (nI 3), vi (nI 24)]) (rest := [vr 3 2, vr 0 0]) (mk_tab (h := hk33) (t := 2) (r := 3) (w := 24) (by decide) (by decide) (by decide) (by decide) (by decide +kernel) (by decide +kernel)) dc_X0_init_38 mw_X0_20 rfl (by decide) rfl rfl (Nat.le_of_ble_eq_true rfl) (Nat.le_of_ble_eq_true rfl) (Nat.le_of_ble_eq_true rfl) (Or.inr ⟨ok_l (by decide +kernel), ok_m (by decide +kernel)⟩) (fun v h' z => ?_)
  obtain ⟨rfl, rfl⟩ := z
  change Wp _ _ _ _ _ _ _ _ _ _ hk34
  refine Wp.putR dc_X0_init_41 fw_X0_27 rfl rfl (by decide +kernel) (by decide +kernel) (by first | exact Or.inl ⟨_, rfl⟩ | exact Or.inr ⟨_, rfl⟩) ?_
  change Wp _ _ _ _ _ _ _ _ _ _ hk35
  refine Wp.aload_n dc_X0_init_44 rfl ?_
  refine Wp.new 3 3 dc_X0_init_45 gw_X0_18 (by decide +kernel) ⟨ok_l (by decide +kernel), ok_m (by decide +kernel)⟩ (Nat.le_of_ble_eq_true rfl) (Nat.le_of_ble_eq_true rfl) ?_
  change Wp _ _ _ _ _ _ _ _ _ _ hk36
  refine Wp.dup dc_X0_init_48 rfl ?_
  refine Wp.iconst dc_X0_init_49 (v := nI 1) (by decide) ?_
  refine Wp.iconst dc_X0_init_50 (v := nI 3) (by decide) ?_
  refine Wp.callI (as := [vi (nI 1), vi (nI 3)]) (rest := [vr 3 3, vr 0 0]) (mk_tab (h := hk36) (t := 3) (r := 1) (w := 3) (by decide) (by decide) (by decide) (by decide) (by decide +kernel) (by decide +kernel)) dc_X0_init_51 mw_X0_20 rfl (by decide) rfl rfl (Nat.le_of_ble_eq_true rfl) (Nat.le_of_ble_eq_true rfl) (Nat.le_of_ble_eq_true rfl) (Or.inr ⟨ok_l (by decide +kernel), ok_m (by decide +kernel)⟩) (fun v h' z => ?_)
  obtain ⟨rfl, rfl⟩ := z
  change Wp _ _ _ _ _ _ _ _ _ _ hk37
  refine Wp.putR dc_X0_init_54 fw_X0_30 rfl rfl (by decide +kernel) (by decide +kernel) (by first | exact Or.inl ⟨_, rfl⟩ | exact Or.inr ⟨_, rfl⟩) ?_
  change Wp _ _ _ _ _ _ _ _ _ _ hk38
  refine Wp.aload_n dc_X0_init_57 rfl ?_
  refine Wp.bipush dc_X0_init_58 (v := nI 11) (by decide) ?_
  refine Wp.newa (bs := 0) 14 0 11 2 dc_X0_init_60 rfl aw_l (fun _ => rfl) (Or.inr (Or.inr ⟨rfl, rfl⟩)) (by decide) (by decide) (by decide) (by decide +kernel) ⟨ok_l (by decide +kernel), ok_m (by decide +kernel)⟩ (Nat.le_of_ble_eq_true rfl) (Nat.le_of_ble_eq_true rfl) ?_
  change Wp _ _ _ _ _ _ _ _ _ _ hk39
  refine Wp.putR dc_X0_init_62 fw_X0_33 rfl rfl (by decide +kernel) (by decide +kernel) (by first | exact Or.inl ⟨_, rfl⟩ | exact Or.inr ⟨_, rfl⟩) ?_
  change Wp _ _ _ _ _ _ _ _ _ _ hk40
  exact Wp.return dc_X0_init_65 rfl (Nat.le_of_ble_eq_true rfl) (Nat.le_of_ble_eq_true rfl) ⟨rfl, rfl⟩
def hk41 : AH := sR hk40 10 0 4 (some 0)
def hk42 : AH := nO hk41 0 1 0
def hk43 : AH := nO hk42 8 1 0
def hk44 : AH := nO hk43 3 4 0
def hk45 : AH := kTab 4 4 60 hk44
def hk46 : AH := sR hk45 8 1 0 (some 4)
theorem mk_X9_1 : Runs 2 2 243 mi_X9_init [vr 8 1] hk43 (fun v h => v = none ∧ h = hk46) := by
  refine Runs.of pn_X9 (Nat.le_of_ble_eq_true rfl) ?_
  refine Wp.aload_n dc_X9_init_0 rfl ?_
  refine Wp.objInit dc_X9_init_1 ow_X9_3 oi_w oc_w (by decide) (Nat.le_of_ble_eq_true rfl) ?_
  refine Wp.aload_n dc_X9_init_4 rfl ?_
  refine Wp.new 3 4 dc_X9_init_5 gw_X9_9 (by decide +kernel) ⟨ok_l (by decide +kernel), ok_m (by decide +kernel)⟩ (Nat.le_of_ble_eq_true rfl) (Nat.le_of_ble_eq_true rfl) ?_
  change Wp _ _ _ _ _ _ _ _ _ _ hk44
  refine Wp.dup dc_X9_init_8 rfl ?_
  refine Wp.iconst dc_X9_init_9 (v := nI 4) (by decide) ?_
  refine Wp.bipush dc_X9_init_10 (v := nI 60) (by decide) ?_
  refine Wp.callI (as := [vi (nI 4), vi (nI 60)]) (rest := [vr 3 4, vr 8 1]) (mk_tab (h := hk44) (t := 4) (r := 4) (w := 60) (by decide) (by decide) (by decide) (by decide) (by decide +kernel) (by decide +kernel)) dc_X9_init_12 mw_X9_13 rfl (by decide) rfl rfl (Nat.le_of_ble_eq_true rfl) (Nat.le_of_ble_eq_true rfl) (Nat.le_of_ble_eq_true rfl) (Or.inr ⟨ok_l (by decide +kernel), ok_m (by decide +kernel)⟩) (fun v h' z => ?_)
  obtain ⟨rfl, rfl⟩ := z
  change Wp _ _ _ _ _ _ _ _ _ _ hk45
  refine Wp.putR dc_X9_init_15 fw_X9_16 rfl rfl (by decide +kernel) (by decide +kernel) (by first | exact Or.inl ⟨_, rfl⟩ | exact Or.inr ⟨_, rfl⟩) ?_
  change Wp _ _ _ _ _ _ _ _ _ _ hk46
  exact Wp.return dc_X9_init_18 rfl (Nat.le_of_ble_eq_true rfl) (Nat.le_of_ble_eq_true rfl) ⟨rfl, rfl⟩
def hk47 : AH := sR hk46 0 1 0 (some 1)
def hk48 : AH := nO hk47 3 5 0
def hk49 : AH := kTab 5 7 8 hk48
def hk50 : AH := sR hk49 0 1 1 (some 5)
def hk51 : AH := nO hk50 3 6 0
def hk52 : AH := kTab 6 3 24 hk51
def hk53 : AH := sR hk52 0 1 2 (some 6)
def hk54 : AH := nO hk53 3 7 0
def hk55 : AH := kTab 7 1 3 hk54
def hk56 : AH := sR hk55 0 1 3 (some 7)
def hk57 : AH := nO hk56 14 1 11
def hk58 : AH := sR hk57 0 1 4 (some 1)
theorem mk_X0_1 : Runs 3 10 398 mi_X0_init [vr 0 1] hk42 (fun v h => v = none ∧ h = hk58) := by
  refine Runs.of pn_X0 (Nat.le_of_ble_eq_true rfl) ?_
  refine Wp.aload_n dc_X0_init_0 rfl ?_
  refine Wp.objInit dc_X0_init_1 ow_X0_3 oi_w oc_w (by decide) (Nat.le_of_ble_eq_true rfl) ?_
  refine Wp.aload_n dc_X0_init_4 rfl ?_
  refine Wp.new 8 1 dc_X0_init_5 gw_X0_9 (by decide +kernel) ⟨ok_l (by decide +kernel), ok_m (by decide +kernel)⟩ (Nat.le_of_ble_eq_true rfl) (Nat.le_of_ble_eq_true rfl) ?_
  change Wp _ _ _ _ _ _ _ _ _ _ hk43
  refine Wp.dup dc_X0_init_8 rfl ?_
  refine Wp.callIN (host := "CableDrawer") (as := []) (rest := [vr 8 1, vr 0 1]) mk_X9_1 dc_X0_init_9 cw_X9_init iw_X9 nw_X9_init (by decide +kernel) (by decide +kernel) (by decide) rfl rfl (by decide) rfl rfl (Nat.le_of_ble_eq_true rfl) (Nat.le_of_ble_eq_true rfl) (Nat.le_of_ble_eq_true rfl) (Or.inr ⟨ok_l (by decide +kernel), ok_m (by decide +kernel)⟩) (fun v h' z => ?_)
  obtain ⟨rfl, rfl⟩ := z
  change Wp _ _ _ _ _ _ _ _ _ _ hk46
  refine Wp.putR dc_X0_init_12 fw_X0_12 rfl rfl (by decide +kernel) (by decide +kernel) (by first | exact Or.inl ⟨_, rfl⟩ | exact Or.inr ⟨_, rfl⟩) ?_
  change Wp _ _ _ _ _ _ _ _ _ _ hk47
  refine Wp.aload_n dc_X0_init_15 rfl ?_
  refine Wp.new 3 5 dc_X0_init_16 gw_X0_18 (by decide +kernel) ⟨ok_l (by decide +kernel), ok_m (by decide +kernel)⟩ (Nat.le_of_ble_eq_true rfl) (Nat.le_of_ble_eq_true rfl) ?_
  change Wp _ _ _ _ _ _ _ _ _ _ hk48
  refine Wp.dup dc_X0_init_19 rfl ?_
  refine Wp.bipush dc_X0_init_20 (v := nI 7) (by decide) ?_
  refine Wp.bipush dc_X0_init_22 (v := nI 8) (by decide) ?_
  refine Wp.callI (as := [vi (nI 7), vi (nI 8)]) (rest := [vr 3 5, vr 0 1]) (mk_tab (h := hk48) (t := 5) (r := 7) (w := 8) (by decide) (by decide) (by decide) (by decide) (by decide +kernel) (by decide +kernel)) dc_X0_init_24 mw_X0_20 rfl (by decide) rfl rfl (Nat.le_of_ble_eq_true rfl) (Nat.le_of_ble_eq_true rfl) (Nat.le_of_ble_eq_true rfl) (Or.inr ⟨ok_l (by decide +kernel), ok_m (by decide +kernel)⟩) (fun v h' z => ?_)
  obtain ⟨rfl, rfl⟩ := z
  change Wp _ _ _ _ _ _ _ _ _ _ hk49
  refine Wp.putR dc_X0_init_27 fw_X0_23 rfl rfl (by decide +kernel) (by decide +kernel) (by first | exact Or.inl ⟨_, rfl⟩ | exact Or.inr ⟨_, rfl⟩) ?_
  change Wp _ _ _ _ _ _ _ _ _ _ hk50
  refine Wp.aload_n dc_X0_init_30 rfl ?_
  refine Wp.new 3 6 dc_X0_init_31 gw_X0_18 (by decide +kernel) ⟨ok_l (by decide +kernel), ok_m (by decide +kernel)⟩ (Nat.le_of_ble_eq_true rfl) (Nat.le_of_ble_eq_true rfl) ?_
  change Wp _ _ _ _ _ _ _ _ _ _ hk51
  refine Wp.dup dc_X0_init_34 rfl ?_
  refine Wp.iconst dc_X0_init_35 (v := nI 3) (by decide) ?_
  refine Wp.bipush dc_X0_init_36 (v := nI 24) (by decide) ?_
  refine Wp.callI (as := [vi (nI 3), vi (nI 24)]) (rest := [vr 3 6, vr 0 1]) (mk_tab (h := hk51) (t := 6) (r := 3) (w := 24) (by decide) (by decide) (by decide) (by decide) (by decide +kernel) (by decide +kernel)) dc_X0_init_38 mw_X0_20 rfl (by decide) rfl rfl (Nat.le_of_ble_eq_true rfl) (Nat.le_of_ble_eq_true rfl) (Nat.le_of_ble_eq_true rfl) (Or.inr ⟨ok_l (by decide +kernel), ok_m (by decide +kernel)⟩) (fun v h' z => ?_)
  obtain ⟨rfl, rfl⟩ := z
  change Wp _ _ _ _ _ _ _ _ _ _ hk52
  refine Wp.putR dc_X0_init_41 fw_X0_27 rfl rfl (by decide +kernel) (by decide +kernel) (by first | exact Or.inl ⟨_, rfl⟩ | exact Or.inr ⟨_, rfl⟩) ?_
  change Wp _ _ _ _ _ _ _ _ _ _ hk53
  refine Wp.aload_n dc_X0_init_44 rfl ?_
  refine Wp.new 3 7 dc_X0_init_45 gw_X0_18 (by decide +kernel) ⟨ok_l (by decide +kernel), ok_m (by decide +kernel)⟩ (Nat.le_of_ble_eq_true rfl) (Nat.le_of_ble_eq_true rfl) ?_
  change Wp _ _ _ _ _ _ _ _ _ _ hk54
  refine Wp.dup dc_X0_init_48 rfl ?_
  refine Wp.iconst dc_X0_init_49 (v := nI 1) (by decide) ?_
  refine Wp.iconst dc_X0_init_50 (v := nI 3) (by decide) ?_
  refine Wp.callI (as := [vi (nI 1), vi (nI 3)]) (rest := [vr 3 7, vr 0 1]) (mk_tab (h := hk54) (t := 7) (r := 1) (w := 3) (by decide) (by decide) (by decide) (by decide) (by decide +kernel) (by decide +kernel)) dc_X0_init_51 mw_X0_20 rfl (by decide) rfl rfl (Nat.le_of_ble_eq_true rfl) (Nat.le_of_ble_eq_true rfl) (Nat.le_of_ble_eq_true rfl) (Or.inr ⟨ok_l (by decide +kernel), ok_m (by decide +kernel)⟩) (fun v h' z => ?_)
  obtain ⟨rfl, rfl⟩ := z
  change Wp _ _ _ _ _ _ _ _ _ _ hk55
  refine Wp.putR dc_X0_init_54 fw_X0_30 rfl rfl (by decide +kernel) (by decide +kernel) (by first | exact Or.inl ⟨_, rfl⟩ | exact Or.inr ⟨_, rfl⟩) ?_
  change Wp _ _ _ _ _ _ _ _ _ _ hk56
  refine Wp.aload_n dc_X0_init_57 rfl ?_
  refine Wp.bipush dc_X0_init_58 (v := nI 11) (by decide) ?_
  refine Wp.newa (bs := 0) 14 1 11 2 dc_X0_init_60 rfl aw_l (fun _ => rfl) (Or.inr (Or.inr ⟨rfl, rfl⟩)) (by decide) (by decide) (by decide) (by decide +kernel) ⟨ok_l (by decide +kernel), ok_m (by decide +kernel)⟩ (Nat.le_of_ble_eq_true rfl) (Nat.le_of_ble_eq_true rfl) ?_
  change Wp _ _ _ _ _ _ _ _ _ _ hk57
  refine Wp.putR dc_X0_init_62 fw_X0_33 rfl rfl (by decide +kernel) (by decide +kernel) (by first | exact Or.inl ⟨_, rfl⟩ | exact Or.inr ⟨_, rfl⟩) ?_
  change Wp _ _ _ _ _ _ _ _ _ _ hk58
  exact Wp.return dc_X0_init_65 rfl (Nat.le_of_ble_eq_true rfl) (Nat.le_of_ble_eq_true rfl) ⟨rfl, rfl⟩
def hk59 : AH := sR hk58 10 0 5 (some 1)
def hk60 : AH := nO hk59 15 0 3
def hk61 : AH := nO hk60 0 2 0
def hk62 : AH := nO hk61 8 2 0
def hk63 : AH := nO hk62 3 8 0
def hk64 : AH := kTab 8 4 60 hk63
def hk65 : AH := sR hk64 8 2 0 (some 8)
theorem mk_X9_2 : Runs 2 2 243 mi_X9_init [vr 8 2] hk62 (fun v h => v = none ∧ h = hk65) := by
  refine Runs.of pn_X9 (Nat.le_of_ble_eq_true rfl) ?_
  refine Wp.aload_n dc_X9_init_0 rfl ?_
  refine Wp.objInit dc_X9_init_1 ow_X9_3 oi_w oc_w (by decide) (Nat.le_of_ble_eq_true rfl) ?_
  refine Wp.aload_n dc_X9_init_4 rfl ?_
  refine Wp.new 3 8 dc_X9_init_5 gw_X9_9 (by decide +kernel) ⟨ok_l (by decide +kernel), ok_m (by decide +kernel)⟩ (Nat.le_of_ble_eq_true rfl) (Nat.le_of_ble_eq_true rfl) ?_
  change Wp _ _ _ _ _ _ _ _ _ _ hk63
  refine Wp.dup dc_X9_init_8 rfl ?_
  refine Wp.iconst dc_X9_init_9 (v := nI 4) (by decide) ?_
  refine Wp.bipush dc_X9_init_10 (v := nI 60) (by decide) ?_
  refine Wp.callI (as := [vi (nI 4), vi (nI 60)]) (rest := [vr 3 8, vr 8 2]) (mk_tab (h := hk63) (t := 8) (r := 4) (w := 60) (by decide) (by decide) (by decide) (by decide) (by decide +kernel) (by decide +kernel)) dc_X9_init_12 mw_X9_13 rfl (by decide) rfl rfl (Nat.le_of_ble_eq_true rfl) (Nat.le_of_ble_eq_true rfl) (Nat.le_of_ble_eq_true rfl) (Or.inr ⟨ok_l (by decide +kernel), ok_m (by decide +kernel)⟩) (fun v h' z => ?_)
  obtain ⟨rfl, rfl⟩ := z
  change Wp _ _ _ _ _ _ _ _ _ _ hk64
  refine Wp.putR dc_X9_init_15 fw_X9_16 rfl rfl (by decide +kernel) (by decide +kernel) (by first | exact Or.inl ⟨_, rfl⟩ | exact Or.inr ⟨_, rfl⟩) ?_
  change Wp _ _ _ _ _ _ _ _ _ _ hk65
  exact Wp.return dc_X9_init_18 rfl (Nat.le_of_ble_eq_true rfl) (Nat.le_of_ble_eq_true rfl) ⟨rfl, rfl⟩
def hk66 : AH := sR hk65 0 2 0 (some 2)
def hk67 : AH := nO hk66 3 9 0
def hk68 : AH := kTab 9 7 8 hk67
def hk69 : AH := sR hk68 0 2 1 (some 9)
def hk70 : AH := nO hk69 3 10 0
def hk71 : AH := kTab 10 3 24 hk70
def hk72 : AH := sR hk71 0 2 2 (some 10)
def hk73 : AH := nO hk72 3 11 0
def hk74 : AH := kTab 11 1 3 hk73
def hk75 : AH := sR hk74 0 2 3 (some 11)
def hk76 : AH := nO hk75 14 2 11
def hk77 : AH := sR hk76 0 2 4 (some 2)
theorem mk_X0_2 : Runs 3 10 398 mi_X0_init [vr 0 2] hk61 (fun v h => v = none ∧ h = hk77) := by
  refine Runs.of pn_X0 (Nat.le_of_ble_eq_true rfl) ?_
  refine Wp.aload_n dc_X0_init_0 rfl ?_
  refine Wp.objInit dc_X0_init_1 ow_X0_3 oi_w oc_w (by decide) (Nat.le_of_ble_eq_true rfl) ?_
  refine Wp.aload_n dc_X0_init_4 rfl ?_
  refine Wp.new 8 2 dc_X0_init_5 gw_X0_9 (by decide +kernel) ⟨ok_l (by decide +kernel), ok_m (by decide +kernel)⟩ (Nat.le_of_ble_eq_true rfl) (Nat.le_of_ble_eq_true rfl) ?_
  change Wp _ _ _ _ _ _ _ _ _ _ hk62
  refine Wp.dup dc_X0_init_8 rfl ?_
  refine Wp.callIN (host := "CableDrawer") (as := []) (rest := [vr 8 2, vr 0 2]) mk_X9_2 dc_X0_init_9 cw_X9_init iw_X9 nw_X9_init (by decide +kernel) (by decide +kernel) (by decide) rfl rfl (by decide) rfl rfl (Nat.le_of_ble_eq_true rfl) (Nat.le_of_ble_eq_true rfl) (Nat.le_of_ble_eq_true rfl) (Or.inr ⟨ok_l (by decide +kernel), ok_m (by decide +kernel)⟩) (fun v h' z => ?_)
  obtain ⟨rfl, rfl⟩ := z
  change Wp _ _ _ _ _ _ _ _ _ _ hk65
  refine Wp.putR dc_X0_init_12 fw_X0_12 rfl rfl (by decide +kernel) (by decide +kernel) (by first | exact Or.inl ⟨_, rfl⟩ | exact Or.inr ⟨_, rfl⟩) ?_
  change Wp _ _ _ _ _ _ _ _ _ _ hk66
  refine Wp.aload_n dc_X0_init_15 rfl ?_
  refine Wp.new 3 9 dc_X0_init_16 gw_X0_18 (by decide +kernel) ⟨ok_l (by decide +kernel), ok_m (by decide +kernel)⟩ (Nat.le_of_ble_eq_true rfl) (Nat.le_of_ble_eq_true rfl) ?_
  change Wp _ _ _ _ _ _ _ _ _ _ hk67
  refine Wp.dup dc_X0_init_19 rfl ?_
  refine Wp.bipush dc_X0_init_20 (v := nI 7) (by decide) ?_
  refine Wp.bipush dc_X0_init_22 (v := nI 8) (by decide) ?_
  refine Wp.callI (as := [vi (nI 7), vi (nI 8)]) (rest := [vr 3 9, vr 0 2]) (mk_tab (h := hk67) (t := 9) (r := 7) (w := 8) (by decide) (by decide) (by decide) (by decide) (by decide +kernel) (by decide +kernel)) dc_X0_init_24 mw_X0_20 rfl (by decide) rfl rfl (Nat.le_of_ble_eq_true rfl) (Nat.le_of_ble_eq_true rfl) (Nat.le_of_ble_eq_true rfl) (Or.inr ⟨ok_l (by decide +kernel), ok_m (by decide +kernel)⟩) (fun v h' z => ?_)
  obtain ⟨rfl, rfl⟩ := z
  change Wp _ _ _ _ _ _ _ _ _ _ hk68
  refine Wp.putR dc_X0_init_27 fw_X0_23 rfl rfl (by decide +kernel) (by decide +kernel) (by first | exact Or.inl ⟨_, rfl⟩ | exact Or.inr ⟨_, rfl⟩) ?_
  change Wp _ _ _ _ _ _ _ _ _ _ hk69
  refine Wp.aload_n dc_X0_init_30 rfl ?_
  refine Wp.new 3 10 dc_X0_init_31 gw_X0_18 (by decide +kernel) ⟨ok_l (by decide +kernel), ok_m (by decide +kernel)⟩ (Nat.le_of_ble_eq_true rfl) (Nat.le_of_ble_eq_true rfl) ?_
  change Wp _ _ _ _ _ _ _ _ _ _ hk70
  refine Wp.dup dc_X0_init_34 rfl ?_
  refine Wp.iconst dc_X0_init_35 (v := nI 3) (by decide) ?_
  refine Wp.bipush dc_X0_init_36 (v := nI 24) (by decide) ?_
  refine Wp.callI (as := [vi (nI 3), vi (nI 24)]) (rest := [vr 3 10, vr 0 2]) (mk_tab (h := hk70) (t := 10) (r := 3) (w := 24) (by decide) (by decide) (by decide) (by decide) (by decide +kernel) (by decide +kernel)) dc_X0_init_38 mw_X0_20 rfl (by decide) rfl rfl (Nat.le_of_ble_eq_true rfl) (Nat.le_of_ble_eq_true rfl) (Nat.le_of_ble_eq_true rfl) (Or.inr ⟨ok_l (by decide +kernel), ok_m (by decide +kernel)⟩) (fun v h' z => ?_)
  obtain ⟨rfl, rfl⟩ := z
  change Wp _ _ _ _ _ _ _ _ _ _ hk71
  refine Wp.putR dc_X0_init_41 fw_X0_27 rfl rfl (by decide +kernel) (by decide +kernel) (by first | exact Or.inl ⟨_, rfl⟩ | exact Or.inr ⟨_, rfl⟩) ?_
  change Wp _ _ _ _ _ _ _ _ _ _ hk72
  refine Wp.aload_n dc_X0_init_44 rfl ?_
  refine Wp.new 3 11 dc_X0_init_45 gw_X0_18 (by decide +kernel) ⟨ok_l (by decide +kernel), ok_m (by decide +kernel)⟩ (Nat.le_of_ble_eq_true rfl) (Nat.le_of_ble_eq_true rfl) ?_
  change Wp _ _ _ _ _ _ _ _ _ _ hk73
  refine Wp.dup dc_X0_init_48 rfl ?_
  refine Wp.iconst dc_X0_init_49 (v := nI 1) (by decide) ?_
  refine Wp.iconst dc_X0_init_50 (v := nI 3) (by decide) ?_
  refine Wp.callI (as := [vi (nI 1), vi (nI 3)]) (rest := [vr 3 11, vr 0 2]) (mk_tab (h := hk73) (t := 11) (r := 1) (w := 3) (by decide) (by decide) (by decide) (by decide) (by decide +kernel) (by decide +kernel)) dc_X0_init_51 mw_X0_20 rfl (by decide) rfl rfl (Nat.le_of_ble_eq_true rfl) (Nat.le_of_ble_eq_true rfl) (Nat.le_of_ble_eq_true rfl) (Or.inr ⟨ok_l (by decide +kernel), ok_m (by decide +kernel)⟩) (fun v h' z => ?_)
  obtain ⟨rfl, rfl⟩ := z
  change Wp _ _ _ _ _ _ _ _ _ _ hk74
  refine Wp.putR dc_X0_init_54 fw_X0_30 rfl rfl (by decide +kernel) (by decide +kernel) (by first | exact Or.inl ⟨_, rfl⟩ | exact Or.inr ⟨_, rfl⟩) ?_
  change Wp _ _ _ _ _ _ _ _ _ _ hk75
  refine Wp.aload_n dc_X0_init_57 rfl ?_
  refine Wp.bipush dc_X0_init_58 (v := nI 11) (by decide) ?_
  refine Wp.newa (bs := 0) 14 2 11 2 dc_X0_init_60 rfl aw_l (fun _ => rfl) (Or.inr (Or.inr ⟨rfl, rfl⟩)) (by decide) (by decide) (by decide) (by decide +kernel) ⟨ok_l (by decide +kernel), ok_m (by decide +kernel)⟩ (Nat.le_of_ble_eq_true rfl) (Nat.le_of_ble_eq_true rfl) ?_
  change Wp _ _ _ _ _ _ _ _ _ _ hk76
  refine Wp.putR dc_X0_init_62 fw_X0_33 rfl rfl (by decide +kernel) (by decide +kernel) (by first | exact Or.inl ⟨_, rfl⟩ | exact Or.inr ⟨_, rfl⟩) ?_
  change Wp _ _ _ _ _ _ _ _ _ _ hk77
  exact Wp.return dc_X0_init_65 rfl (Nat.le_of_ble_eq_true rfl) (Nat.le_of_ble_eq_true rfl) ⟨rfl, rfl⟩
def hk78 : AH := sR hk77 15 0 0 (some 2)
def hk79 : AH := nO hk78 0 3 0
def hk80 : AH := nO hk79 8 3 0
def hk81 : AH := nO hk80 3 12 0
def hk82 : AH := kTab 12 4 60 hk81
def hk83 : AH := sR hk82 8 3 0 (some 12)
theorem mk_X9_3 : Runs 2 2 243 mi_X9_init [vr 8 3] hk80 (fun v h => v = none ∧ h = hk83) := by
  refine Runs.of pn_X9 (Nat.le_of_ble_eq_true rfl) ?_
  refine Wp.aload_n dc_X9_init_0 rfl ?_
  refine Wp.objInit dc_X9_init_1 ow_X9_3 oi_w oc_w (by decide) (Nat.le_of_ble_eq_true rfl) ?_
  refine Wp.aload_n dc_X9_init_4 rfl ?_
  refine Wp.new 3 12 dc_X9_init_5 gw_X9_9 (by decide +kernel) ⟨ok_l (by decide +kernel), ok_m (by decide +kernel)⟩ (Nat.le_of_ble_eq_true rfl) (Nat.le_of_ble_eq_true rfl) ?_
  change Wp _ _ _ _ _ _ _ _ _ _ hk81
  refine Wp.dup dc_X9_init_8 rfl ?_
  refine Wp.iconst dc_X9_init_9 (v := nI 4) (by decide) ?_
  refine Wp.bipush dc_X9_init_10 (v := nI 60) (by decide) ?_
  refine Wp.callI (as := [vi (nI 4), vi (nI 60)]) (rest := [vr 3 12, vr 8 3]) (mk_tab (h := hk81) (t := 12) (r := 4) (w := 60) (by decide) (by decide) (by decide) (by decide) (by decide +kernel) (by decide +kernel)) dc_X9_init_12 mw_X9_13 rfl (by decide) rfl rfl (Nat.le_of_ble_eq_true rfl) (Nat.le_of_ble_eq_true rfl) (Nat.le_of_ble_eq_true rfl) (Or.inr ⟨ok_l (by decide +kernel), ok_m (by decide +kernel)⟩) (fun v h' z => ?_)
  obtain ⟨rfl, rfl⟩ := z
  change Wp _ _ _ _ _ _ _ _ _ _ hk82
  refine Wp.putR dc_X9_init_15 fw_X9_16 rfl rfl (by decide +kernel) (by decide +kernel) (by first | exact Or.inl ⟨_, rfl⟩ | exact Or.inr ⟨_, rfl⟩) ?_
  change Wp _ _ _ _ _ _ _ _ _ _ hk83
  exact Wp.return dc_X9_init_18 rfl (Nat.le_of_ble_eq_true rfl) (Nat.le_of_ble_eq_true rfl) ⟨rfl, rfl⟩
def hk84 : AH := sR hk83 0 3 0 (some 3)
def hk85 : AH := nO hk84 3 13 0
def hk86 : AH := kTab 13 7 8 hk85
def hk87 : AH := sR hk86 0 3 1 (some 13)
def hk88 : AH := nO hk87 3 14 0
def hk89 : AH := kTab 14 3 24 hk88
def hk90 : AH := sR hk89 0 3 2 (some 14)
def hk91 : AH := nO hk90 3 15 0
def hk92 : AH := kTab 15 1 3 hk91
def hk93 : AH := sR hk92 0 3 3 (some 15)
def hk94 : AH := nO hk93 14 3 11
def hk95 : AH := sR hk94 0 3 4 (some 3)
theorem mk_X0_3 : Runs 3 10 398 mi_X0_init [vr 0 3] hk79 (fun v h => v = none ∧ h = hk95) := by
  refine Runs.of pn_X0 (Nat.le_of_ble_eq_true rfl) ?_
  refine Wp.aload_n dc_X0_init_0 rfl ?_
  refine Wp.objInit dc_X0_init_1 ow_X0_3 oi_w oc_w (by decide) (Nat.le_of_ble_eq_true rfl) ?_
  refine Wp.aload_n dc_X0_init_4 rfl ?_
  refine Wp.new 8 3 dc_X0_init_5 gw_X0_9 (by decide +kernel) ⟨ok_l (by decide +kernel), ok_m (by decide +kernel)⟩ (Nat.le_of_ble_eq_true rfl) (Nat.le_of_ble_eq_true rfl) ?_
  change Wp _ _ _ _ _ _ _ _ _ _ hk80
  refine Wp.dup dc_X0_init_8 rfl ?_
  refine Wp.callIN (host := "CableDrawer") (as := []) (rest := [vr 8 3, vr 0 3]) mk_X9_3 dc_X0_init_9 cw_X9_init iw_X9 nw_X9_init (by decide +kernel) (by decide +kernel) (by decide) rfl rfl (by decide) rfl rfl (Nat.le_of_ble_eq_true rfl) (Nat.le_of_ble_eq_true rfl) (Nat.le_of_ble_eq_true rfl) (Or.inr ⟨ok_l (by decide +kernel), ok_m (by decide +kernel)⟩) (fun v h' z => ?_)
  obtain ⟨rfl, rfl⟩ := z
  change Wp _ _ _ _ _ _ _ _ _ _ hk83
  refine Wp.putR dc_X0_init_12 fw_X0_12 rfl rfl (by decide +kernel) (by decide +kernel) (by first | exact Or.inl ⟨_, rfl⟩ | exact Or.inr ⟨_, rfl⟩) ?_
  change Wp _ _ _ _ _ _ _ _ _ _ hk84
  refine Wp.aload_n dc_X0_init_15 rfl ?_
  refine Wp.new 3 13 dc_X0_init_16 gw_X0_18 (by decide +kernel) ⟨ok_l (by decide +kernel), ok_m (by decide +kernel)⟩ (Nat.le_of_ble_eq_true rfl) (Nat.le_of_ble_eq_true rfl) ?_
  change Wp _ _ _ _ _ _ _ _ _ _ hk85
  refine Wp.dup dc_X0_init_19 rfl ?_
  refine Wp.bipush dc_X0_init_20 (v := nI 7) (by decide) ?_
  refine Wp.bipush dc_X0_init_22 (v := nI 8) (by decide) ?_
  refine Wp.callI (as := [vi (nI 7), vi (nI 8)]) (rest := [vr 3 13, vr 0 3]) (mk_tab (h := hk85) (t := 13) (r := 7) (w := 8) (by decide) (by decide) (by decide) (by decide) (by decide +kernel) (by decide +kernel)) dc_X0_init_24 mw_X0_20 rfl (by decide) rfl rfl (Nat.le_of_ble_eq_true rfl) (Nat.le_of_ble_eq_true rfl) (Nat.le_of_ble_eq_true rfl) (Or.inr ⟨ok_l (by decide +kernel), ok_m (by decide +kernel)⟩) (fun v h' z => ?_)
  obtain ⟨rfl, rfl⟩ := z
  change Wp _ _ _ _ _ _ _ _ _ _ hk86
  refine Wp.putR dc_X0_init_27 fw_X0_23 rfl rfl (by decide +kernel) (by decide +kernel) (by first | exact Or.inl ⟨_, rfl⟩ | exact Or.inr ⟨_, rfl⟩) ?_
  change Wp _ _ _ _ _ _ _ _ _ _ hk87
  refine Wp.aload_n dc_X0_init_30 rfl ?_
  refine Wp.new 3 14 dc_X0_init_31 gw_X0_18 (by decide +kernel) ⟨ok_l (by decide +kernel), ok_m (by decide +kernel)⟩ (Nat.le_of_ble_eq_true rfl) (Nat.le_of_ble_eq_true rfl) ?_
  change Wp _ _ _ _ _ _ _ _ _ _ hk88
  refine Wp.dup dc_X0_init_34 rfl ?_
  refine Wp.iconst dc_X0_init_35 (v := nI 3) (by decide) ?_
  refine Wp.bipush dc_X0_init_36 (v := nI 24) (by decide) ?_
  refine Wp.callI (as := [vi (nI 3), vi (nI 24)]) (rest := [vr 3 14, vr 0 3]) (mk_tab (h := hk88) (t := 14) (r := 3) (w := 24) (by decide) (by decide) (by decide) (by decide) (by decide +kernel) (by decide +kernel)) dc_X0_init_38 mw_X0_20 rfl (by decide) rfl rfl (Nat.le_of_ble_eq_true rfl) (Nat.le_of_ble_eq_true rfl) (Nat.le_of_ble_eq_true rfl) (Or.inr ⟨ok_l (by decide +kernel), ok_m (by decide +kernel)⟩) (fun v h' z => ?_)
  obtain ⟨rfl, rfl⟩ := z
  change Wp _ _ _ _ _ _ _ _ _ _ hk89
  refine Wp.putR dc_X0_init_41 fw_X0_27 rfl rfl (by decide +kernel) (by decide +kernel) (by first | exact Or.inl ⟨_, rfl⟩ | exact Or.inr ⟨_, rfl⟩) ?_
  change Wp _ _ _ _ _ _ _ _ _ _ hk90
  refine Wp.aload_n dc_X0_init_44 rfl ?_
  refine Wp.new 3 15 dc_X0_init_45 gw_X0_18 (by decide +kernel) ⟨ok_l (by decide +kernel), ok_m (by decide +kernel)⟩ (Nat.le_of_ble_eq_true rfl) (Nat.le_of_ble_eq_true rfl) ?_
  change Wp _ _ _ _ _ _ _ _ _ _ hk91
  refine Wp.dup dc_X0_init_48 rfl ?_
  refine Wp.iconst dc_X0_init_49 (v := nI 1) (by decide) ?_
  refine Wp.iconst dc_X0_init_50 (v := nI 3) (by decide) ?_
  refine Wp.callI (as := [vi (nI 1), vi (nI 3)]) (rest := [vr 3 15, vr 0 3]) (mk_tab (h := hk91) (t := 15) (r := 1) (w := 3) (by decide) (by decide) (by decide) (by decide) (by decide +kernel) (by decide +kernel)) dc_X0_init_51 mw_X0_20 rfl (by decide) rfl rfl (Nat.le_of_ble_eq_true rfl) (Nat.le_of_ble_eq_true rfl) (Nat.le_of_ble_eq_true rfl) (Or.inr ⟨ok_l (by decide +kernel), ok_m (by decide +kernel)⟩) (fun v h' z => ?_)
  obtain ⟨rfl, rfl⟩ := z
  change Wp _ _ _ _ _ _ _ _ _ _ hk92
  refine Wp.putR dc_X0_init_54 fw_X0_30 rfl rfl (by decide +kernel) (by decide +kernel) (by first | exact Or.inl ⟨_, rfl⟩ | exact Or.inr ⟨_, rfl⟩) ?_
  change Wp _ _ _ _ _ _ _ _ _ _ hk93
  refine Wp.aload_n dc_X0_init_57 rfl ?_
  refine Wp.bipush dc_X0_init_58 (v := nI 11) (by decide) ?_
  refine Wp.newa (bs := 0) 14 3 11 2 dc_X0_init_60 rfl aw_l (fun _ => rfl) (Or.inr (Or.inr ⟨rfl, rfl⟩)) (by decide) (by decide) (by decide) (by decide +kernel) ⟨ok_l (by decide +kernel), ok_m (by decide +kernel)⟩ (Nat.le_of_ble_eq_true rfl) (Nat.le_of_ble_eq_true rfl) ?_
  change Wp _ _ _ _ _ _ _ _ _ _ hk94
  refine Wp.putR dc_X0_init_62 fw_X0_33 rfl rfl (by decide +kernel) (by decide +kernel) (by first | exact Or.inl ⟨_, rfl⟩ | exact Or.inr ⟨_, rfl⟩) ?_
  change Wp _ _ _ _ _ _ _ _ _ _ hk95
  exact Wp.return dc_X0_init_65 rfl (Nat.le_of_ble_eq_true rfl) (Nat.le_of_ble_eq_true rfl) ⟨rfl, rfl⟩
def hk96 : AH := sR hk95 15 0 1 (some 3)
def hk97 : AH := nO hk96 0 4 0
def hk98 : AH := nO hk97 8 4 0
def hk99 : AH := nO hk98 3 16 0
def hk100 : AH := kTab 16 4 60 hk99
def hk101 : AH := sR hk100 8 4 0 (some 16)
theorem mk_X9_4 : Runs 2 2 243 mi_X9_init [vr 8 4] hk98 (fun v h => v = none ∧ h = hk101) := by
  refine Runs.of pn_X9 (Nat.le_of_ble_eq_true rfl) ?_
  refine Wp.aload_n dc_X9_init_0 rfl ?_
  refine Wp.objInit dc_X9_init_1 ow_X9_3 oi_w oc_w (by decide) (Nat.le_of_ble_eq_true rfl) ?_
  refine Wp.aload_n dc_X9_init_4 rfl ?_
  refine Wp.new 3 16 dc_X9_init_5 gw_X9_9 (by decide +kernel) ⟨ok_l (by decide +kernel), ok_m (by decide +kernel)⟩ (Nat.le_of_ble_eq_true rfl) (Nat.le_of_ble_eq_true rfl) ?_
  change Wp _ _ _ _ _ _ _ _ _ _ hk99
  refine Wp.dup dc_X9_init_8 rfl ?_
  refine Wp.iconst dc_X9_init_9 (v := nI 4) (by decide) ?_
  refine Wp.bipush dc_X9_init_10 (v := nI 60) (by decide) ?_
  refine Wp.callI (as := [vi (nI 4), vi (nI 60)]) (rest := [vr 3 16, vr 8 4]) (mk_tab (h := hk99) (t := 16) (r := 4) (w := 60) (by decide) (by decide) (by decide) (by decide) (by decide +kernel) (by decide +kernel)) dc_X9_init_12 mw_X9_13 rfl (by decide) rfl rfl (Nat.le_of_ble_eq_true rfl) (Nat.le_of_ble_eq_true rfl) (Nat.le_of_ble_eq_true rfl) (Or.inr ⟨ok_l (by decide +kernel), ok_m (by decide +kernel)⟩) (fun v h' z => ?_)
  obtain ⟨rfl, rfl⟩ := z
  change Wp _ _ _ _ _ _ _ _ _ _ hk100
  refine Wp.putR dc_X9_init_15 fw_X9_16 rfl rfl (by decide +kernel) (by decide +kernel) (by first | exact Or.inl ⟨_, rfl⟩ | exact Or.inr ⟨_, rfl⟩) ?_
  change Wp _ _ _ _ _ _ _ _ _ _ hk101
  exact Wp.return dc_X9_init_18 rfl (Nat.le_of_ble_eq_true rfl) (Nat.le_of_ble_eq_true rfl) ⟨rfl, rfl⟩
def hk102 : AH := sR hk101 0 4 0 (some 4)
def hk103 : AH := nO hk102 3 17 0
def hk104 : AH := kTab 17 7 8 hk103
def hk105 : AH := sR hk104 0 4 1 (some 17)
def hk106 : AH := nO hk105 3 18 0
def hk107 : AH := kTab 18 3 24 hk106
def hk108 : AH := sR hk107 0 4 2 (some 18)
def hk109 : AH := nO hk108 3 19 0
def hk110 : AH := kTab 19 1 3 hk109
def hk111 : AH := sR hk110 0 4 3 (some 19)
def hk112 : AH := nO hk111 14 4 11
def hk113 : AH := sR hk112 0 4 4 (some 4)
theorem mk_X0_4 : Runs 3 10 398 mi_X0_init [vr 0 4] hk97 (fun v h => v = none ∧ h = hk113) := by
  refine Runs.of pn_X0 (Nat.le_of_ble_eq_true rfl) ?_
  refine Wp.aload_n dc_X0_init_0 rfl ?_
  refine Wp.objInit dc_X0_init_1 ow_X0_3 oi_w oc_w (by decide) (Nat.le_of_ble_eq_true rfl) ?_
  refine Wp.aload_n dc_X0_init_4 rfl ?_
  refine Wp.new 8 4 dc_X0_init_5 gw_X0_9 (by decide +kernel) ⟨ok_l (by decide +kernel), ok_m (by decide +kernel)⟩ (Nat.le_of_ble_eq_true rfl) (Nat.le_of_ble_eq_true rfl) ?_
  change Wp _ _ _ _ _ _ _ _ _ _ hk98
  refine Wp.dup dc_X0_init_8 rfl ?_
  refine Wp.callIN (host := "CableDrawer") (as := []) (rest := [vr 8 4, vr 0 4]) mk_X9_4 dc_X0_init_9 cw_X9_init iw_X9 nw_X9_init (by decide +kernel) (by decide +kernel) (by decide) rfl rfl (by decide) rfl rfl (Nat.le_of_ble_eq_true rfl) (Nat.le_of_ble_eq_true rfl) (Nat.le_of_ble_eq_true rfl) (Or.inr ⟨ok_l (by decide +kernel), ok_m (by decide +kernel)⟩) (fun v h' z => ?_)
  obtain ⟨rfl, rfl⟩ := z
  change Wp _ _ _ _ _ _ _ _ _ _ hk101
  refine Wp.putR dc_X0_init_12 fw_X0_12 rfl rfl (by decide +kernel) (by decide +kernel) (by first | exact Or.inl ⟨_, rfl⟩ | exact Or.inr ⟨_, rfl⟩) ?_
  change Wp _ _ _ _ _ _ _ _ _ _ hk102
  refine Wp.aload_n dc_X0_init_15 rfl ?_
  refine Wp.new 3 17 dc_X0_init_16 gw_X0_18 (by decide +kernel) ⟨ok_l (by decide +kernel), ok_m (by decide +kernel)⟩ (Nat.le_of_ble_eq_true rfl) (Nat.le_of_ble_eq_true rfl) ?_
  change Wp _ _ _ _ _ _ _ _ _ _ hk103
  refine Wp.dup dc_X0_init_19 rfl ?_
  refine Wp.bipush dc_X0_init_20 (v := nI 7) (by decide) ?_
  refine Wp.bipush dc_X0_init_22 (v := nI 8) (by decide) ?_
  refine Wp.callI (as := [vi (nI 7), vi (nI 8)]) (rest := [vr 3 17, vr 0 4]) (mk_tab (h := hk103) (t := 17) (r := 7) (w := 8) (by decide) (by decide) (by decide) (by decide) (by decide +kernel) (by decide +kernel)) dc_X0_init_24 mw_X0_20 rfl (by decide) rfl rfl (Nat.le_of_ble_eq_true rfl) (Nat.le_of_ble_eq_true rfl) (Nat.le_of_ble_eq_true rfl) (Or.inr ⟨ok_l (by decide +kernel), ok_m (by decide +kernel)⟩) (fun v h' z => ?_)
  obtain ⟨rfl, rfl⟩ := z
  change Wp _ _ _ _ _ _ _ _ _ _ hk104
  refine Wp.putR dc_X0_init_27 fw_X0_23 rfl rfl (by decide +kernel) (by decide +kernel) (by first | exact Or.inl ⟨_, rfl⟩ | exact Or.inr ⟨_, rfl⟩) ?_
  change Wp _ _ _ _ _ _ _ _ _ _ hk105
  refine Wp.aload_n dc_X0_init_30 rfl ?_
  refine Wp.new 3 18 dc_X0_init_31 gw_X0_18 (by decide +kernel) ⟨ok_l (by decide +kernel), ok_m (by decide +kernel)⟩ (Nat.le_of_ble_eq_true rfl) (Nat.le_of_ble_eq_true rfl) ?_
  change Wp _ _ _ _ _ _ _ _ _ _ hk106
  refine Wp.dup dc_X0_init_34 rfl ?_
  refine Wp.iconst dc_X0_init_35 (v := nI 3) (by decide) ?_
  refine Wp.bipush dc_X0_init_36 (v := nI 24) (by decide) ?_
  refine Wp.callI (as := [vi (nI 3), vi (nI 24)]) (rest := [vr 3 18, vr 0 4]) (mk_tab (h := hk106) (t := 18) (r := 3) (w := 24) (by decide) (by decide) (by decide) (by decide) (by decide +kernel) (by decide +kernel)) dc_X0_init_38 mw_X0_20 rfl (by decide) rfl rfl (Nat.le_of_ble_eq_true rfl) (Nat.le_of_ble_eq_true rfl) (Nat.le_of_ble_eq_true rfl) (Or.inr ⟨ok_l (by decide +kernel), ok_m (by decide +kernel)⟩) (fun v h' z => ?_)
  obtain ⟨rfl, rfl⟩ := z
  change Wp _ _ _ _ _ _ _ _ _ _ hk107
  refine Wp.putR dc_X0_init_41 fw_X0_27 rfl rfl (by decide +kernel) (by decide +kernel) (by first | exact Or.inl ⟨_, rfl⟩ | exact Or.inr ⟨_, rfl⟩) ?_
  change Wp _ _ _ _ _ _ _ _ _ _ hk108
  refine Wp.aload_n dc_X0_init_44 rfl ?_
  refine Wp.new 3 19 dc_X0_init_45 gw_X0_18 (by decide +kernel) ⟨ok_l (by decide +kernel), ok_m (by decide +kernel)⟩ (Nat.le_of_ble_eq_true rfl) (Nat.le_of_ble_eq_true rfl) ?_
  change Wp _ _ _ _ _ _ _ _ _ _ hk109
  refine Wp.dup dc_X0_init_48 rfl ?_
  refine Wp.iconst dc_X0_init_49 (v := nI 1) (by decide) ?_
  refine Wp.iconst dc_X0_init_50 (v := nI 3) (by decide) ?_
  refine Wp.callI (as := [vi (nI 1), vi (nI 3)]) (rest := [vr 3 19, vr 0 4]) (mk_tab (h := hk109) (t := 19) (r := 1) (w := 3) (by decide) (by decide) (by decide) (by decide) (by decide +kernel) (by decide +kernel)) dc_X0_init_51 mw_X0_20 rfl (by decide) rfl rfl (Nat.le_of_ble_eq_true rfl) (Nat.le_of_ble_eq_true rfl) (Nat.le_of_ble_eq_true rfl) (Or.inr ⟨ok_l (by decide +kernel), ok_m (by decide +kernel)⟩) (fun v h' z => ?_)
  obtain ⟨rfl, rfl⟩ := z
  change Wp _ _ _ _ _ _ _ _ _ _ hk110
  refine Wp.putR dc_X0_init_54 fw_X0_30 rfl rfl (by decide +kernel) (by decide +kernel) (by first | exact Or.inl ⟨_, rfl⟩ | exact Or.inr ⟨_, rfl⟩) ?_
  change Wp _ _ _ _ _ _ _ _ _ _ hk111
  refine Wp.aload_n dc_X0_init_57 rfl ?_
  refine Wp.bipush dc_X0_init_58 (v := nI 11) (by decide) ?_
  refine Wp.newa (bs := 0) 14 4 11 2 dc_X0_init_60 rfl aw_l (fun _ => rfl) (Or.inr (Or.inr ⟨rfl, rfl⟩)) (by decide) (by decide) (by decide) (by decide +kernel) ⟨ok_l (by decide +kernel), ok_m (by decide +kernel)⟩ (Nat.le_of_ble_eq_true rfl) (Nat.le_of_ble_eq_true rfl) ?_
  change Wp _ _ _ _ _ _ _ _ _ _ hk112
  refine Wp.putR dc_X0_init_62 fw_X0_33 rfl rfl (by decide +kernel) (by decide +kernel) (by first | exact Or.inl ⟨_, rfl⟩ | exact Or.inr ⟨_, rfl⟩) ?_
  change Wp _ _ _ _ _ _ _ _ _ _ hk113
  exact Wp.return dc_X0_init_65 rfl (Nat.le_of_ble_eq_true rfl) (Nat.le_of_ble_eq_true rfl) ⟨rfl, rfl⟩
def hk114 : AH := sR hk113 15 0 2 (some 4)
def hk115 : AH := sR hk114 10 0 6 (some 0)
def hk116 : AH := nO hk115 6 0 0
def hk117 : AH := nO hk116 3 22 0
def hk118 : AH := kTab 22 2 24 hk117
def hk119 : AH := sR hk118 6 0 0 (some 22)
def hk120 : AH := nO hk119 3 23 0
def hk121 : AH := kTab 23 1 4 hk120
def hk122 : AH := sR hk121 6 0 4 (some 23)
def hk123 : AH := nO hk122 3 24 0
def hk124 : AH := kTab 24 1 4 hk123
def hk125 : AH := sR hk124 6 0 5 (some 24)
def hk126 : AH := nO hk125 3 25 0
def hk127 : AH := kTab 25 1 256 hk126
def hk128 : AH := sR hk127 6 0 7 (some 25)
def hk129 : AH := nO hk128 3 26 0
def hk130 : AH := kTab 26 1 8 hk129
def hk131 : AH := sR hk130 6 0 8 (some 26)
theorem mk_X7_0 : Runs 2 10 335 mi_X7_init [vr 6 0] hk116 (fun v h => v = none ∧ h = hk131) := by
  refine Runs.of pn_X7 (Nat.le_of_ble_eq_true rfl) ?_
  refine Wp.aload_n dc_X7_init_0 rfl ?_
  refine Wp.objInit dc_X7_init_1 ow_X7_3 oi_w oc_w (by decide) (Nat.le_of_ble_eq_true rfl) ?_
  refine Wp.aload_n dc_X7_init_4 rfl ?_
  refine Wp.new 3 22 dc_X7_init_5 gw_X7_9 (by decide +kernel) ⟨ok_l (by decide +kernel), ok_m (by decide +kernel)⟩ (Nat.le_of_ble_eq_true rfl) (Nat.le_of_ble_eq_true rfl) ?_
  change Wp _ _ _ _ _ _ _ _ _ _ hk117
  refine Wp.dup dc_X7_init_8 rfl ?_
  refine Wp.iconst dc_X7_init_9 (v := nI 2) (by decide) ?_
  refine Wp.bipush dc_X7_init_10 (v := nI 24) (by decide) ?_
  refine Wp.callI (as := [vi (nI 2), vi (nI 24)]) (rest := [vr 3 22, vr 6 0]) (mk_tab (h := hk117) (t := 22) (r := 2) (w := 24) (by decide) (by decide) (by decide) (by decide) (by decide +kernel) (by decide +kernel)) dc_X7_init_12 mw_X7_13 rfl (by decide) rfl rfl (Nat.le_of_ble_eq_true rfl) (Nat.le_of_ble_eq_true rfl) (Nat.le_of_ble_eq_true rfl) (Or.inr ⟨ok_l (by decide +kernel), ok_m (by decide +kernel)⟩) (fun v h' z => ?_)
  obtain ⟨rfl, rfl⟩ := z
  change Wp _ _ _ _ _ _ _ _ _ _ hk118
  refine Wp.putR dc_X7_init_15 fw_X7_16 rfl rfl (by decide +kernel) (by decide +kernel) (by first | exact Or.inl ⟨_, rfl⟩ | exact Or.inr ⟨_, rfl⟩) ?_
  change Wp _ _ _ _ _ _ _ _ _ _ hk119
  refine Wp.aload_n dc_X7_init_18 rfl ?_
  refine Wp.new 3 23 dc_X7_init_19 gw_X7_9 (by decide +kernel) ⟨ok_l (by decide +kernel), ok_m (by decide +kernel)⟩ (Nat.le_of_ble_eq_true rfl) (Nat.le_of_ble_eq_true rfl) ?_
  change Wp _ _ _ _ _ _ _ _ _ _ hk120
  refine Wp.dup dc_X7_init_22 rfl ?_
  refine Wp.iconst dc_X7_init_23 (v := nI 1) (by decide) ?_
  refine Wp.iconst dc_X7_init_24 (v := nI 4) (by decide) ?_
  refine Wp.callI (as := [vi (nI 1), vi (nI 4)]) (rest := [vr 3 23, vr 6 0]) (mk_tab (h := hk120) (t := 23) (r := 1) (w := 4) (by decide) (by decide) (by decide) (by decide) (by decide +kernel) (by decide +kernel)) dc_X7_init_25 mw_X7_13 rfl (by decide) rfl rfl (Nat.le_of_ble_eq_true rfl) (Nat.le_of_ble_eq_true rfl) (Nat.le_of_ble_eq_true rfl) (Or.inr ⟨ok_l (by decide +kernel), ok_m (by decide +kernel)⟩) (fun v h' z => ?_)
  obtain ⟨rfl, rfl⟩ := z
  change Wp _ _ _ _ _ _ _ _ _ _ hk121
  refine Wp.putR dc_X7_init_28 fw_X7_22 rfl rfl (by decide +kernel) (by decide +kernel) (by first | exact Or.inl ⟨_, rfl⟩ | exact Or.inr ⟨_, rfl⟩) ?_
  change Wp _ _ _ _ _ _ _ _ _ _ hk122
  refine Wp.aload_n dc_X7_init_31 rfl ?_
  refine Wp.new 3 24 dc_X7_init_32 gw_X7_9 (by decide +kernel) ⟨ok_l (by decide +kernel), ok_m (by decide +kernel)⟩ (Nat.le_of_ble_eq_true rfl) (Nat.le_of_ble_eq_true rfl) ?_
  change Wp _ _ _ _ _ _ _ _ _ _ hk123
  refine Wp.dup dc_X7_init_35 rfl ?_
  refine Wp.iconst dc_X7_init_36 (v := nI 1) (by decide) ?_
  refine Wp.iconst dc_X7_init_37 (v := nI 4) (by decide) ?_
  refine Wp.callI (as := [vi (nI 1), vi (nI 4)]) (rest := [vr 3 24, vr 6 0]) (mk_tab (h := hk123) (t := 24) (r := 1) (w := 4) (by decide) (by decide) (by decide) (by decide) (by decide +kernel) (by decide +kernel)) dc_X7_init_38 mw_X7_13 rfl (by decide) rfl rfl (Nat.le_of_ble_eq_true rfl) (Nat.le_of_ble_eq_true rfl) (Nat.le_of_ble_eq_true rfl) (Or.inr ⟨ok_l (by decide +kernel), ok_m (by decide +kernel)⟩) (fun v h' z => ?_)
  obtain ⟨rfl, rfl⟩ := z
  change Wp _ _ _ _ _ _ _ _ _ _ hk124
  refine Wp.putR dc_X7_init_41 fw_X7_25 rfl rfl (by decide +kernel) (by decide +kernel) (by first | exact Or.inl ⟨_, rfl⟩ | exact Or.inr ⟨_, rfl⟩) ?_
  change Wp _ _ _ _ _ _ _ _ _ _ hk125
  refine Wp.aload_n dc_X7_init_44 rfl ?_
  refine Wp.new 3 25 dc_X7_init_45 gw_X7_9 (by decide +kernel) ⟨ok_l (by decide +kernel), ok_m (by decide +kernel)⟩ (Nat.le_of_ble_eq_true rfl) (Nat.le_of_ble_eq_true rfl) ?_
  change Wp _ _ _ _ _ _ _ _ _ _ hk126
  refine Wp.dup dc_X7_init_48 rfl ?_
  refine Wp.iconst dc_X7_init_49 (v := nI 1) (by decide) ?_
  refine Wp.sipush dc_X7_init_50 (v := nI 256) (by decide) ?_
  refine Wp.callI (as := [vi (nI 1), vi (nI 256)]) (rest := [vr 3 25, vr 6 0]) (mk_tab (h := hk126) (t := 25) (r := 1) (w := 256) (by decide) (by decide) (by decide) (by decide) (by decide +kernel) (by decide +kernel)) dc_X7_init_53 mw_X7_13 rfl (by decide) rfl rfl (Nat.le_of_ble_eq_true rfl) (Nat.le_of_ble_eq_true rfl) (Nat.le_of_ble_eq_true rfl) (Or.inr ⟨ok_l (by decide +kernel), ok_m (by decide +kernel)⟩) (fun v h' z => ?_)
  obtain ⟨rfl, rfl⟩ := z
  change Wp _ _ _ _ _ _ _ _ _ _ hk127
  refine Wp.putR dc_X7_init_56 fw_X7_28 rfl rfl (by decide +kernel) (by decide +kernel) (by first | exact Or.inl ⟨_, rfl⟩ | exact Or.inr ⟨_, rfl⟩) ?_
  change Wp _ _ _ _ _ _ _ _ _ _ hk128
  refine Wp.aload_n dc_X7_init_59 rfl ?_
  refine Wp.new 3 26 dc_X7_init_60 gw_X7_9 (by decide +kernel) ⟨ok_l (by decide +kernel), ok_m (by decide +kernel)⟩ (Nat.le_of_ble_eq_true rfl) (Nat.le_of_ble_eq_true rfl) ?_
  change Wp _ _ _ _ _ _ _ _ _ _ hk129
  refine Wp.dup dc_X7_init_63 rfl ?_
  refine Wp.iconst dc_X7_init_64 (v := nI 1) (by decide) ?_
  refine Wp.bipush dc_X7_init_65 (v := nI 8) (by decide) ?_
  refine Wp.callI (as := [vi (nI 1), vi (nI 8)]) (rest := [vr 3 26, vr 6 0]) (mk_tab (h := hk129) (t := 26) (r := 1) (w := 8) (by decide) (by decide) (by decide) (by decide) (by decide +kernel) (by decide +kernel)) dc_X7_init_67 mw_X7_13 rfl (by decide) rfl rfl (Nat.le_of_ble_eq_true rfl) (Nat.le_of_ble_eq_true rfl) (Nat.le_of_ble_eq_true rfl) (Or.inr ⟨ok_l (by decide +kernel), ok_m (by decide +kernel)⟩) (fun v h' z => ?_)
  obtain ⟨rfl, rfl⟩ := z
  change Wp _ _ _ _ _ _ _ _ _ _ hk130
  refine Wp.putR dc_X7_init_70 fw_X7_31 rfl rfl (by decide +kernel) (by decide +kernel) (by first | exact Or.inl ⟨_, rfl⟩ | exact Or.inr ⟨_, rfl⟩) ?_
  change Wp _ _ _ _ _ _ _ _ _ _ hk131
  exact Wp.return dc_X7_init_73 rfl (Nat.le_of_ble_eq_true rfl) (Nat.le_of_ble_eq_true rfl) ⟨rfl, rfl⟩
def hk132 : AH := sR hk131 10 0 7 (some 0)
def hk133 : AH := nO hk132 7 0 0
def hk134 : AH := nO hk133 3 27 0
def hk135 : AH := kTab 27 1 256 hk134
def hk136 : AH := sR hk135 7 0 0 (some 27)
theorem mk_X8_0 : Runs 2 2 259 mi_X8_init [vr 7 0] hk133 (fun v h => v = none ∧ h = hk136) := by
  refine Runs.of pn_X8 (Nat.le_of_ble_eq_true rfl) ?_
  refine Wp.aload_n dc_X8_init_0 rfl ?_
  refine Wp.objInit dc_X8_init_1 ow_X8_3 oi_w oc_w (by decide) (Nat.le_of_ble_eq_true rfl) ?_
  refine Wp.aload_n dc_X8_init_4 rfl ?_
  refine Wp.new 3 27 dc_X8_init_5 gw_X8_9 (by decide +kernel) ⟨ok_l (by decide +kernel), ok_m (by decide +kernel)⟩ (Nat.le_of_ble_eq_true rfl) (Nat.le_of_ble_eq_true rfl) ?_
  change Wp _ _ _ _ _ _ _ _ _ _ hk134
  refine Wp.dup dc_X8_init_8 rfl ?_
  refine Wp.iconst dc_X8_init_9 (v := nI 1) (by decide) ?_
  refine Wp.sipush dc_X8_init_10 (v := nI 256) (by decide) ?_
  refine Wp.callI (as := [vi (nI 1), vi (nI 256)]) (rest := [vr 3 27, vr 7 0]) (mk_tab (h := hk134) (t := 27) (r := 1) (w := 256) (by decide) (by decide) (by decide) (by decide) (by decide +kernel) (by decide +kernel)) dc_X8_init_13 mw_X8_13 rfl (by decide) rfl rfl (Nat.le_of_ble_eq_true rfl) (Nat.le_of_ble_eq_true rfl) (Nat.le_of_ble_eq_true rfl) (Or.inr ⟨ok_l (by decide +kernel), ok_m (by decide +kernel)⟩) (fun v h' z => ?_)
  obtain ⟨rfl, rfl⟩ := z
  change Wp _ _ _ _ _ _ _ _ _ _ hk135
  refine Wp.putR dc_X8_init_16 fw_X8_16 rfl rfl (by decide +kernel) (by decide +kernel) (by first | exact Or.inl ⟨_, rfl⟩ | exact Or.inr ⟨_, rfl⟩) ?_
  change Wp _ _ _ _ _ _ _ _ _ _ hk136
  exact Wp.return dc_X8_init_19 rfl (Nat.le_of_ble_eq_true rfl) (Nat.le_of_ble_eq_true rfl) ⟨rfl, rfl⟩
def hk137 : AH := sR hk136 10 0 8 (some 0)
def hk138 : AH := nO hk137 2 0 0
def hk139 : AH := nO hk138 3 28 0
def hk140 : AH := kTab 28 1 5 hk139
def hk141 : AH := sR hk140 2 0 1 (some 28)
def hk142 : AH := nO hk141 3 29 0
def hk143 : AH := kTab 29 1 5 hk142
def hk144 : AH := sR hk143 2 0 2 (some 29)
def hk145 : AH := nO hk144 3 30 0
def hk146 : AH := kTab 30 1 60 hk145
def hk147 : AH := sR hk146 2 0 3 (some 30)
def hk148 : AH := sR hk147 2 0 0 (some 0)
theorem mk_X2_0 : Runs 2 6 79 mi_X2_init [vr 2 0, vr 6 0] hk138 (fun v h => v = none ∧ h = hk148) := by
  refine Runs.of pn_X2 (Nat.le_of_ble_eq_true rfl) ?_
  refine Wp.aload_n dc_X2_init_0 rfl ?_
  refine Wp.objInit dc_X2_init_1 ow_X2_1 oi_w oc_w (by decide) (Nat.le_of_ble_eq_true rfl) ?_
  refine Wp.aload_n dc_X2_init_4 rfl ?_
  refine Wp.new 3 28 dc_X2_init_5 gw_X2_7 (by decide +kernel) ⟨ok_l (by decide +kernel), ok_m (by decide +kernel)⟩ (Nat.le_of_ble_eq_true rfl) (Nat.le_of_ble_eq_true rfl) ?_
  change Wp _ _ _ _ _ _ _ _ _ _ hk139
  refine Wp.dup dc_X2_init_8 rfl ?_
  refine Wp.iconst dc_X2_init_9 (v := nI 1) (by decide) ?_
  refine Wp.iconst dc_X2_init_10 (v := nI 5) (by decide) ?_
  refine Wp.callI (as := [vi (nI 1), vi (nI 5)]) (rest := [vr 3 28, vr 2 0]) (mk_tab (h := hk139) (t := 28) (r := 1) (w := 5) (by decide) (by decide) (by decide) (by decide) (by decide +kernel) (by decide +kernel)) dc_X2_init_11 mw_X2_9 rfl (by decide) rfl rfl (Nat.le_of_ble_eq_true rfl) (Nat.le_of_ble_eq_true rfl) (Nat.le_of_ble_eq_true rfl) (Or.inr ⟨ok_l (by decide +kernel), ok_m (by decide +kernel)⟩) (fun v h' z => ?_)
  obtain ⟨rfl, rfl⟩ := z
  change Wp _ _ _ _ _ _ _ _ _ _ hk140
  refine Wp.putR dc_X2_init_14 fw_X2_12 rfl rfl (by decide +kernel) (by decide +kernel) (by first | exact Or.inl ⟨_, rfl⟩ | exact Or.inr ⟨_, rfl⟩) ?_
  change Wp _ _ _ _ _ _ _ _ _ _ hk141
  refine Wp.aload_n dc_X2_init_17 rfl ?_
  refine Wp.new 3 29 dc_X2_init_18 gw_X2_7 (by decide +kernel) ⟨ok_l (by decide +kernel), ok_m (by decide +kernel)⟩ (Nat.le_of_ble_eq_true rfl) (Nat.le_of_ble_eq_true rfl) ?_
  change Wp _ _ _ _ _ _ _ _ _ _ hk142
  refine Wp.dup dc_X2_init_21 rfl ?_
  refine Wp.iconst dc_X2_init_22 (v := nI 1) (by decide) ?_
  refine Wp.iconst dc_X2_init_23 (v := nI 5) (by decide) ?_
  refine Wp.callI (as := [vi (nI 1), vi (nI 5)]) (rest := [vr 3 29, vr 2 0]) (mk_tab (h := hk142) (t := 29) (r := 1) (w := 5) (by decide) (by decide) (by decide) (by decide) (by decide +kernel) (by decide +kernel)) dc_X2_init_24 mw_X2_9 rfl (by decide) rfl rfl (Nat.le_of_ble_eq_true rfl) (Nat.le_of_ble_eq_true rfl) (Nat.le_of_ble_eq_true rfl) (Or.inr ⟨ok_l (by decide +kernel), ok_m (by decide +kernel)⟩) (fun v h' z => ?_)
  obtain ⟨rfl, rfl⟩ := z
  change Wp _ _ _ _ _ _ _ _ _ _ hk143
  refine Wp.putR dc_X2_init_27 fw_X2_18 rfl rfl (by decide +kernel) (by decide +kernel) (by first | exact Or.inl ⟨_, rfl⟩ | exact Or.inr ⟨_, rfl⟩) ?_
  change Wp _ _ _ _ _ _ _ _ _ _ hk144
  refine Wp.aload_n dc_X2_init_30 rfl ?_
  refine Wp.new 3 30 dc_X2_init_31 gw_X2_7 (by decide +kernel) ⟨ok_l (by decide +kernel), ok_m (by decide +kernel)⟩ (Nat.le_of_ble_eq_true rfl) (Nat.le_of_ble_eq_true rfl) ?_
  change Wp _ _ _ _ _ _ _ _ _ _ hk145
  refine Wp.dup dc_X2_init_34 rfl ?_
  refine Wp.iconst dc_X2_init_35 (v := nI 1) (by decide) ?_
  refine Wp.bipush dc_X2_init_36 (v := nI 60) (by decide) ?_
  refine Wp.callI (as := [vi (nI 1), vi (nI 60)]) (rest := [vr 3 30, vr 2 0]) (mk_tab (h := hk145) (t := 30) (r := 1) (w := 60) (by decide) (by decide) (by decide) (by decide) (by decide +kernel) (by decide +kernel)) dc_X2_init_38 mw_X2_9 rfl (by decide) rfl rfl (Nat.le_of_ble_eq_true rfl) (Nat.le_of_ble_eq_true rfl) (Nat.le_of_ble_eq_true rfl) (Or.inr ⟨ok_l (by decide +kernel), ok_m (by decide +kernel)⟩) (fun v h' z => ?_)
  obtain ⟨rfl, rfl⟩ := z
  change Wp _ _ _ _ _ _ _ _ _ _ hk146
  refine Wp.putR dc_X2_init_41 fw_X2_23 rfl rfl (by decide +kernel) (by decide +kernel) (by first | exact Or.inl ⟨_, rfl⟩ | exact Or.inr ⟨_, rfl⟩) ?_
  change Wp _ _ _ _ _ _ _ _ _ _ hk147
  refine Wp.aload_n dc_X2_init_44 rfl ?_
  refine Wp.aload_n dc_X2_init_45 rfl ?_
  refine Wp.putR dc_X2_init_46 fw_X2_26 rfl rfl (by decide +kernel) (by decide +kernel) (by first | exact Or.inl ⟨_, rfl⟩ | exact Or.inr ⟨_, rfl⟩) ?_
  change Wp _ _ _ _ _ _ _ _ _ _ hk148
  exact Wp.return dc_X2_init_49 rfl (Nat.le_of_ble_eq_true rfl) (Nat.le_of_ble_eq_true rfl) ⟨rfl, rfl⟩
def hk149 : AH := sR hk148 10 0 9 (some 0)
def hk150 : AH := sJ hk149 10 0 13 1
theorem mk_X11_0 : Runs 4 87 3930 mi_X11_init [vr 10 0] hk1 (fun v h => v = none ∧ h = hk150) := by
  refine Runs.of pn_X11 (Nat.le_of_ble_eq_true rfl) ?_
  refine Wp.aload_n dc_X11_init_0 rfl ?_
  refine Wp.objInit dc_X11_init_1 ow_X11_1 oi_w oc_w (by decide) (Nat.le_of_ble_eq_true rfl) ?_
  refine Wp.aload_n dc_X11_init_4 rfl ?_
  refine Wp.new 5 0 dc_X11_init_5 gw_X11_7 (by decide +kernel) ⟨ok_l (by decide +kernel), ok_m (by decide +kernel)⟩ (Nat.le_of_ble_eq_true rfl) (Nat.le_of_ble_eq_true rfl) ?_
  change Wp _ _ _ _ _ _ _ _ _ _ hk2
  refine Wp.dup dc_X11_init_8 rfl ?_
  refine Wp.callIN (host := "CableDrawer") (as := []) (rest := [vr 5 0, vr 10 0]) mk_X6_0 dc_X11_init_9 cw_X6_init iw_X6 nw_X6_init (by decide +kernel) (by decide +kernel) (by decide) rfl rfl (by decide) rfl rfl (Nat.le_of_ble_eq_true rfl) (Nat.le_of_ble_eq_true rfl) (Nat.le_of_ble_eq_true rfl) (Or.inr ⟨ok_l (by decide +kernel), ok_m (by decide +kernel)⟩) (fun v h' z => ?_)
  obtain ⟨rfl, rfl⟩ := z
  change Wp _ _ _ _ _ _ _ _ _ _ hk7
  refine Wp.putR dc_X11_init_12 fw_X11_10 rfl rfl (by decide +kernel) (by decide +kernel) (by first | exact Or.inl ⟨_, rfl⟩ | exact Or.inr ⟨_, rfl⟩) ?_
  change Wp _ _ _ _ _ _ _ _ _ _ hk8
  refine Wp.aload_n dc_X11_init_15 rfl ?_
  refine Wp.new 4 0 dc_X11_init_16 gw_X11_16 (by decide +kernel) ⟨ok_l (by decide +kernel), ok_m (by decide +kernel)⟩ (Nat.le_of_ble_eq_true rfl) (Nat.le_of_ble_eq_true rfl) ?_
  change Wp _ _ _ _ _ _ _ _ _ _ hk9
  refine Wp.dup dc_X11_init_19 rfl ?_
  refine Wp.callIN (host := "CableDrawer") (as := []) (rest := [vr 4 0, vr 10 0]) mk_X5_0 dc_X11_init_20 cw_X5_init iw_X5 nw_X5_init (by decide +kernel) (by decide +kernel) (by decide) rfl rfl (by decide) rfl rfl (Nat.le_of_ble_eq_true rfl) (Nat.le_of_ble_eq_true rfl) (Nat.le_of_ble_eq_true rfl) (Or.inr ⟨ok_l (by decide +kernel), ok_m (by decide +kernel)⟩) (fun v h' z => ?_)
  obtain ⟨rfl, rfl⟩ := z
  change Wp _ _ _ _ _ _ _ _ _ _ hk13
  refine Wp.putR dc_X11_init_23 fw_X11_19 rfl rfl (by decide +kernel) (by decide +kernel) (by first | exact Or.inl ⟨_, rfl⟩ | exact Or.inr ⟨_, rfl⟩) ?_
  change Wp _ _ _ _ _ _ _ _ _ _ hk14
  refine Wp.aload_n dc_X11_init_26 rfl ?_
  refine Wp.new 1 0 dc_X11_init_27 gw_X11_23 (by decide +kernel) ⟨ok_l (by decide +kernel), ok_m (by decide +kernel)⟩ (Nat.le_of_ble_eq_true rfl) (Nat.le_of_ble_eq_true rfl) ?_
  change Wp _ _ _ _ _ _ _ _ _ _ hk15
  refine Wp.dup dc_X11_init_30 rfl ?_
  refine Wp.aload_n dc_X11_init_31 rfl ?_
  refine Wp.getR (t := 0) dc_X11_init_32 fw_X11_19 (by decide +kernel) (by decide +kernel) ?_
  refine Wp.callI (as := [vr 4 0]) (rest := [vr 1 0, vr 10 0]) mk_X1_0 dc_X11_init_35 mw_X11_25 rfl (by decide) rfl rfl (Nat.le_of_ble_eq_true rfl) (Nat.le_of_ble_eq_true rfl) (Nat.le_of_ble_eq_true rfl) (Or.inr ⟨ok_l (by decide +kernel), ok_m (by decide +kernel)⟩) (fun v h' z => ?_)
  obtain ⟨rfl, rfl⟩ := z
  change Wp _ _ _ _ _ _ _ _ _ _ hk16
  refine Wp.putR dc_X11_init_38 fw_X11_28 rfl rfl (by decide +kernel) (by decide +kernel) (by first | exact Or.inl ⟨_, rfl⟩ | exact Or.inr ⟨_, rfl⟩) ?_
  change Wp _ _ _ _ _ _ _ _ _ _ hk17
  refine Wp.aload_n dc_X11_init_41 rfl ?_
  refine Wp.new 9 0 dc_X11_init_42 gw_X11_32 (by decide +kernel) ⟨ok_l (by decide +kernel), ok_m (by decide +kernel)⟩ (Nat.le_of_ble_eq_true rfl) (Nat.le_of_ble_eq_true rfl) ?_
  change Wp _ _ _ _ _ _ _ _ _ _ hk18
  refine Wp.dup dc_X11_init_45 rfl ?_
  refine Wp.aload_n dc_X11_init_46 rfl ?_
  refine Wp.getR (t := 0) dc_X11_init_47 fw_X11_19 (by decide +kernel) (by decide +kernel) ?_
  refine Wp.callI (as := [vr 4 0]) (rest := [vr 9 0, vr 10 0]) mk_X10_0 dc_X11_init_50 mw_X11_34 rfl (by decide) rfl rfl (Nat.le_of_ble_eq_true rfl) (Nat.le_of_ble_eq_true rfl) (Nat.le_of_ble_eq_true rfl) (Or.inr ⟨ok_l (by decide +kernel), ok_m (by decide +kernel)⟩) (fun v h' z => ?_)
  obtain ⟨rfl, rfl⟩ := z
  change Wp _ _ _ _ _ _ _ _ _ _ hk22
  refine Wp.putR dc_X11_init_53 fw_X11_35 rfl rfl (by decide +kernel) (by decide +kernel) (by first | exact Or.inl ⟨_, rfl⟩ | exact Or.inr ⟨_, rfl⟩) ?_
  change Wp _ _ _ _ _ _ _ _ _ _ hk23
  refine Wp.aload_n dc_X11_init_56 rfl ?_
  refine Wp.new 0 0 dc_X11_init_57 gw_X11_39 (by decide +kernel) ⟨ok_l (by decide +kernel), ok_m (by decide +kernel)⟩ (Nat.le_of_ble_eq_true rfl) (Nat.le_of_ble_eq_true rfl) ?_
  change Wp _ _ _ _ _ _ _ _ _ _ hk24
  refine Wp.dup dc_X11_init_60 rfl ?_
  refine Wp.callIN (host := "CableDrawer") (as := []) (rest := [vr 0 0, vr 10 0]) mk_X0_0 dc_X11_init_61 cw_X0_init iw_X0 nw_X0_init (by decide +kernel) (by decide +kernel) (by decide) rfl rfl (by decide) rfl rfl (Nat.le_of_ble_eq_true rfl) (Nat.le_of_ble_eq_true rfl) (Nat.le_of_ble_eq_true rfl) (Or.inr ⟨ok_l (by decide +kernel), ok_m (by decide +kernel)⟩) (fun v h' z => ?_)
  obtain ⟨rfl, rfl⟩ := z
  change Wp _ _ _ _ _ _ _ _ _ _ hk40
  refine Wp.putR dc_X11_init_64 fw_X11_42 rfl rfl (by decide +kernel) (by decide +kernel) (by first | exact Or.inl ⟨_, rfl⟩ | exact Or.inr ⟨_, rfl⟩) ?_
  change Wp _ _ _ _ _ _ _ _ _ _ hk41
  refine Wp.aload_n dc_X11_init_67 rfl ?_
  refine Wp.new 0 1 dc_X11_init_68 gw_X11_39 (by decide +kernel) ⟨ok_l (by decide +kernel), ok_m (by decide +kernel)⟩ (Nat.le_of_ble_eq_true rfl) (Nat.le_of_ble_eq_true rfl) ?_
  change Wp _ _ _ _ _ _ _ _ _ _ hk42
  refine Wp.dup dc_X11_init_71 rfl ?_
  refine Wp.callIN (host := "CableDrawer") (as := []) (rest := [vr 0 1, vr 10 0]) mk_X0_1 dc_X11_init_72 cw_X0_init iw_X0 nw_X0_init (by decide +kernel) (by decide +kernel) (by decide) rfl rfl (by decide) rfl rfl (Nat.le_of_ble_eq_true rfl) (Nat.le_of_ble_eq_true rfl) (Nat.le_of_ble_eq_true rfl) (Or.inr ⟨ok_l (by decide +kernel), ok_m (by decide +kernel)⟩) (fun v h' z => ?_)
  obtain ⟨rfl, rfl⟩ := z
  change Wp _ _ _ _ _ _ _ _ _ _ hk58
  refine Wp.putR dc_X11_init_75 fw_X11_46 rfl rfl (by decide +kernel) (by decide +kernel) (by first | exact Or.inl ⟨_, rfl⟩ | exact Or.inr ⟨_, rfl⟩) ?_
  change Wp _ _ _ _ _ _ _ _ _ _ hk59
  refine Wp.aload_n dc_X11_init_78 rfl ?_
  refine Wp.iconst dc_X11_init_79 (v := nI 3) (by decide) ?_
  refine Wp.newq 0 3 dc_X11_init_80 qw_39 (by decide) (by decide) (by decide) (by decide +kernel) ⟨ok_l (by decide +kernel), ok_m (by decide +kernel)⟩ (Nat.le_of_ble_eq_true rfl) (Nat.le_of_ble_eq_true rfl) ?_
  change Wp _ _ _ _ _ _ _ _ _ _ hk60
  refine Wp.dup dc_X11_init_83 rfl ?_
  refine Wp.iconst dc_X11_init_84 (v := nI 0) (by decide) ?_
  refine Wp.new 0 2 dc_X11_init_85 gw_X11_39 (by decide +kernel) ⟨ok_l (by decide +kernel), ok_m (by decide +kernel)⟩ (Nat.le_of_ble_eq_true rfl) (Nat.le_of_ble_eq_true rfl) ?_
  change Wp _ _ _ _ _ _ _ _ _ _ hk61
  refine Wp.dup dc_X11_init_88 rfl ?_
  refine Wp.callIN (host := "CableDrawer") (as := []) (rest := [vr 0 2, vi (nI 0), vr 15 0, vr 15 0, vr 10 0]) mk_X0_2 dc_X11_init_89 cw_X0_init iw_X0 nw_X0_init (by decide +kernel) (by decide +kernel) (by decide) rfl rfl (by decide) rfl rfl (Nat.le_of_ble_eq_true rfl) (Nat.le_of_ble_eq_true rfl) (Nat.le_of_ble_eq_true rfl) (Or.inr ⟨ok_l (by decide +kernel), ok_m (by decide +kernel)⟩) (fun v h' z => ?_)
  obtain ⟨rfl, rfl⟩ := z
  change Wp _ _ _ _ _ _ _ _ _ _ hk77
  refine Wp.aast dc_X11_init_92 (by decide +kernel) (by decide +kernel) (by decide +kernel) ?_
  change Wp _ _ _ _ _ _ _ _ _ _ hk78
  refine Wp.dup dc_X11_init_93 rfl ?_
  refine Wp.iconst dc_X11_init_94 (v := nI 1) (by decide) ?_
  refine Wp.new 0 3 dc_X11_init_95 gw_X11_39 (by decide +kernel) ⟨ok_l (by decide +kernel), ok_m (by decide +kernel)⟩ (Nat.le_of_ble_eq_true rfl) (Nat.le_of_ble_eq_true rfl) ?_
  change Wp _ _ _ _ _ _ _ _ _ _ hk79
  refine Wp.dup dc_X11_init_98 rfl ?_
  refine Wp.callIN (host := "CableDrawer") (as := []) (rest := [vr 0 3, vi (nI 1), vr 15 0, vr 15 0, vr 10 0]) mk_X0_3 dc_X11_init_99 cw_X0_init iw_X0 nw_X0_init (by decide +kernel) (by decide +kernel) (by decide) rfl rfl (by decide) rfl rfl (Nat.le_of_ble_eq_true rfl) (Nat.le_of_ble_eq_true rfl) (Nat.le_of_ble_eq_true rfl) (Or.inr ⟨ok_l (by decide +kernel), ok_m (by decide +kernel)⟩) (fun v h' z => ?_)
  obtain ⟨rfl, rfl⟩ := z
  change Wp _ _ _ _ _ _ _ _ _ _ hk95
  refine Wp.aast dc_X11_init_102 (by decide +kernel) (by decide +kernel) (by decide +kernel) ?_
  change Wp _ _ _ _ _ _ _ _ _ _ hk96
  refine Wp.dup dc_X11_init_103 rfl ?_
  refine Wp.iconst dc_X11_init_104 (v := nI 2) (by decide) ?_
  refine Wp.new 0 4 dc_X11_init_105 gw_X11_39 (by decide +kernel) ⟨ok_l (by decide +kernel), ok_m (by decide +kernel)⟩ (Nat.le_of_ble_eq_true rfl) (Nat.le_of_ble_eq_true rfl) ?_
  change Wp _ _ _ _ _ _ _ _ _ _ hk97
  refine Wp.dup dc_X11_init_108 rfl ?_
  refine Wp.callIN (host := "CableDrawer") (as := []) (rest := [vr 0 4, vi (nI 2), vr 15 0, vr 15 0, vr 10 0]) mk_X0_4 dc_X11_init_109 cw_X0_init iw_X0 nw_X0_init (by decide +kernel) (by decide +kernel) (by decide) rfl rfl (by decide) rfl rfl (Nat.le_of_ble_eq_true rfl) (Nat.le_of_ble_eq_true rfl) (Nat.le_of_ble_eq_true rfl) (Or.inr ⟨ok_l (by decide +kernel), ok_m (by decide +kernel)⟩) (fun v h' z => ?_)
  obtain ⟨rfl, rfl⟩ := z
  change Wp _ _ _ _ _ _ _ _ _ _ hk113
  refine Wp.aast dc_X11_init_112 (by decide +kernel) (by decide +kernel) (by decide +kernel) ?_
  change Wp _ _ _ _ _ _ _ _ _ _ hk114
  refine Wp.putR dc_X11_init_113 fw_X11_49 rfl rfl (by decide +kernel) (by decide +kernel) (by first | exact Or.inl ⟨_, rfl⟩ | exact Or.inr ⟨_, rfl⟩) ?_
  change Wp _ _ _ _ _ _ _ _ _ _ hk115
  refine Wp.aload_n dc_X11_init_116 rfl ?_
  refine Wp.new 6 0 dc_X11_init_117 gw_X11_53 (by decide +kernel) ⟨ok_l (by decide +kernel), ok_m (by decide +kernel)⟩ (Nat.le_of_ble_eq_true rfl) (Nat.le_of_ble_eq_true rfl) ?_
  change Wp _ _ _ _ _ _ _ _ _ _ hk116
  refine Wp.dup dc_X11_init_120 rfl ?_
  refine Wp.callIN (host := "CableDrawer") (as := []) (rest := [vr 6 0, vr 10 0]) mk_X7_0 dc_X11_init_121 cw_X7_init iw_X7 nw_X7_init (by decide +kernel) (by decide +kernel) (by decide) rfl rfl (by decide) rfl rfl (Nat.le_of_ble_eq_true rfl) (Nat.le_of_ble_eq_true rfl) (Nat.le_of_ble_eq_true rfl) (Or.inr ⟨ok_l (by decide +kernel), ok_m (by decide +kernel)⟩) (fun v h' z => ?_)
  obtain ⟨rfl, rfl⟩ := z
  change Wp _ _ _ _ _ _ _ _ _ _ hk131
  refine Wp.putR dc_X11_init_124 fw_X11_56 rfl rfl (by decide +kernel) (by decide +kernel) (by first | exact Or.inl ⟨_, rfl⟩ | exact Or.inr ⟨_, rfl⟩) ?_
  change Wp _ _ _ _ _ _ _ _ _ _ hk132
  refine Wp.aload_n dc_X11_init_127 rfl ?_
  refine Wp.new 7 0 dc_X11_init_128 gw_X11_60 (by decide +kernel) ⟨ok_l (by decide +kernel), ok_m (by decide +kernel)⟩ (Nat.le_of_ble_eq_true rfl) (Nat.le_of_ble_eq_true rfl) ?_
  change Wp _ _ _ _ _ _ _ _ _ _ hk133
  refine Wp.dup dc_X11_init_131 rfl ?_
  refine Wp.callIN (host := "CableDrawer") (as := []) (rest := [vr 7 0, vr 10 0]) mk_X8_0 dc_X11_init_132 cw_X8_init iw_X8 nw_X8_init (by decide +kernel) (by decide +kernel) (by decide) rfl rfl (by decide) rfl rfl (Nat.le_of_ble_eq_true rfl) (Nat.le_of_ble_eq_true rfl) (Nat.le_of_ble_eq_true rfl) (Or.inr ⟨ok_l (by decide +kernel), ok_m (by decide +kernel)⟩) (fun v h' z => ?_)
  obtain ⟨rfl, rfl⟩ := z
  change Wp _ _ _ _ _ _ _ _ _ _ hk136
  refine Wp.putR dc_X11_init_135 fw_X11_63 rfl rfl (by decide +kernel) (by decide +kernel) (by first | exact Or.inl ⟨_, rfl⟩ | exact Or.inr ⟨_, rfl⟩) ?_
  change Wp _ _ _ _ _ _ _ _ _ _ hk137
  refine Wp.aload_n dc_X11_init_138 rfl ?_
  refine Wp.new 2 0 dc_X11_init_139 gw_X11_67 (by decide +kernel) ⟨ok_l (by decide +kernel), ok_m (by decide +kernel)⟩ (Nat.le_of_ble_eq_true rfl) (Nat.le_of_ble_eq_true rfl) ?_
  change Wp _ _ _ _ _ _ _ _ _ _ hk138
  refine Wp.dup dc_X11_init_142 rfl ?_
  refine Wp.aload_n dc_X11_init_143 rfl ?_
  refine Wp.getR (t := 0) dc_X11_init_144 fw_X11_56 (by decide +kernel) (by decide +kernel) ?_
  refine Wp.callI (as := [vr 6 0]) (rest := [vr 2 0, vr 10 0]) mk_X2_0 dc_X11_init_147 mw_X11_69 rfl (by decide) rfl rfl (Nat.le_of_ble_eq_true rfl) (Nat.le_of_ble_eq_true rfl) (Nat.le_of_ble_eq_true rfl) (Or.inr ⟨ok_l (by decide +kernel), ok_m (by decide +kernel)⟩) (fun v h' z => ?_)
  obtain ⟨rfl, rfl⟩ := z
  change Wp _ _ _ _ _ _ _ _ _ _ hk148
  refine Wp.putR dc_X11_init_150 fw_X11_72 rfl rfl (by decide +kernel) (by decide +kernel) (by first | exact Or.inl ⟨_, rfl⟩ | exact Or.inr ⟨_, rfl⟩) ?_
  change Wp _ _ _ _ _ _ _ _ _ _ hk149
  refine Wp.aload_n dc_X11_init_153 rfl ?_
  refine Wp.lconst dc_X11_init_154 lc_1 ?_
  refine Wp.putJ dc_X11_init_155 fw_X11_76 (by decide +kernel) ?_
  change Wp _ _ _ _ _ _ _ _ _ _ hk150
  exact Wp.return dc_X11_init_158 rfl (Nat.le_of_ble_eq_true rfl) (Nat.le_of_ble_eq_true rfl) ⟨rfl, rfl⟩
def hk151 : AH := nO hk150 11 0 0
def hk152 : AH := sJ hk151 11 0 3 1
def hk153 : AH := nO hk152 13 32 4
def hk154 : AH := sR hk153 11 0 4 (some 32)
def hk155 : AH := nO hk154 13 33 4
def hk156 : AH := sR hk155 11 0 5 (some 33)
def hk157 : AH := nO hk156 14 6 240
def hk158 : AH := sR hk157 11 0 6 (some 6)
def hk159 : AH := nO hk158 12 0 900
def hk160 : AH := sR hk159 11 0 7 (some 0)
def hk161 : AH := sI hk160 11 0 10 (-1)
def hk162 : AH := sI hk161 11 0 11 (-1)
def hk163 : AH := nO hk162 13 34 2050
def hk164 : AH := sR hk163 11 0 20 (some 34)
def hk165 : AH := nO hk164 13 35 132
def hk166 : AH := sR hk165 11 0 21 (some 35)
def hk167 : AH := nO hk166 14 7 55
def hk168 : AH := sR hk167 11 0 22 (some 7)
def hk169 : AH := nO hk168 13 36 24
def hk170 : AH := sR hk169 11 0 29 (some 36)
def hk171 : AH := nO hk170 13 37 24
def hk172 : AH := sR hk171 11 0 30 (some 37)
def hk173 : AH := nO hk172 13 38 4
def hk174 : AH := sR hk173 11 0 31 (some 38)
def hk175 : AH := nO hk174 13 39 4
def hk176 : AH := sR hk175 11 0 32 (some 39)
def hk177 : AH := nO hk176 13 40 256
def hk178 : AH := sR hk177 11 0 34 (some 40)
def hk179 : AH := nO hk178 13 41 8
def hk180 : AH := sR hk179 11 0 35 (some 41)
def hk181 : AH := nO hk180 13 42 8
def hk182 : AH := sR hk181 11 0 36 (some 42)
def hk183 : AH := nO hk182 13 43 132
def hk184 : AH := sR hk183 11 0 37 (some 43)
def hk185 : AH := sI hk184 11 0 38 (-1)
def hk186 : AH := nO hk185 13 44 5
def hk187 : AH := sR hk186 11 0 40 (some 44)
def hk188 : AH := nO hk187 13 45 132
def hk189 : AH := sR hk188 11 0 41 (some 45)
def hk190 : AH := sI hk189 13 33 0 (-1)
def hk191 : AH := sI hk190 13 33 1 (-1)
def hk192 : AH := sI hk191 13 33 2 (-1)
def hk193 : AH := sI hk192 13 33 3 (-1)
theorem mk_X12_0 : Runs 1 17 3982 mi_X12_init [vr 11 0] hk151 (fun v h => v = none ∧ h = hk193) := by
  refine Runs.of pn_X12 (Nat.le_of_ble_eq_true rfl) ?_
  refine Wp.aload_n dc_X12_init_0 rfl ?_
  refine Wp.objInit dc_X12_init_1 ow_X12_1 oi_w oc_w (by decide) (Nat.le_of_ble_eq_true rfl) ?_
  refine Wp.aload_n dc_X12_init_4 rfl ?_
  refine Wp.lconst dc_X12_init_5 lc_1 ?_
  refine Wp.putJ dc_X12_init_6 fw_X12_7 (by decide +kernel) ?_
  change Wp _ _ _ _ _ _ _ _ _ _ hk152
  refine Wp.aload_n dc_X12_init_9 rfl ?_
  refine Wp.iconst dc_X12_init_10 (v := nI 4) (by decide) ?_
  refine Wp.newa (bs := 0) 13 32 4 1 dc_X12_init_11 rfl aw_i (fun _ => rfl) (Or.inr (Or.inl ⟨rfl, rfl⟩)) (by decide) (by decide) (by decide) (by decide +kernel) ⟨ok_l (by decide +kernel), ok_m (by decide +kernel)⟩ (Nat.le_of_ble_eq_true rfl) (Nat.le_of_ble_eq_true rfl) ?_
  change Wp _ _ _ _ _ _ _ _ _ _ hk153
  refine Wp.putR dc_X12_init_13 fw_X12_13 rfl rfl (by decide +kernel) (by decide +kernel) (by first | exact Or.inl ⟨_, rfl⟩ | exact Or.inr ⟨_, rfl⟩) ?_
  change Wp _ _ _ _ _ _ _ _ _ _ hk154
  refine Wp.aload_n dc_X12_init_16 rfl ?_
  refine Wp.iconst dc_X12_init_17 (v := nI 4) (by decide) ?_
  refine Wp.newa (bs := 0) 13 33 4 1 dc_X12_init_18 rfl aw_i (fun _ => rfl) (Or.inr (Or.inl ⟨rfl, rfl⟩)) (by decide) (by decide) (by decide) (by decide +kernel) ⟨ok_l (by decide +kernel), ok_m (by decide +kernel)⟩ (Nat.le_of_ble_eq_true rfl) (Nat.le_of_ble_eq_true rfl) ?_
  change Wp _ _ _ _ _ _ _ _ _ _ hk155
  refine Wp.putR dc_X12_init_20 fw_X12_17 rfl rfl (by decide +kernel) (by decide +kernel) (by first | exact Or.inl ⟨_, rfl⟩ | exact Or.inr ⟨_, rfl⟩) ?_
  change Wp _ _ _ _ _ _ _ _ _ _ hk156
  refine Wp.aload_n dc_X12_init_23 rfl ?_
  refine Wp.sipush dc_X12_init_24 (v := nI 240) (by decide) ?_
  refine Wp.newa (bs := 0) 14 6 240 2 dc_X12_init_27 rfl aw_l (fun _ => rfl) (Or.inr (Or.inr ⟨rfl, rfl⟩)) (by decide) (by decide) (by decide) (by decide +kernel) ⟨ok_l (by decide +kernel), ok_m (by decide +kernel)⟩ (Nat.le_of_ble_eq_true rfl) (Nat.le_of_ble_eq_true rfl) ?_
  change Wp _ _ _ _ _ _ _ _ _ _ hk157
  refine Wp.putR dc_X12_init_29 fw_X12_20 rfl rfl (by decide +kernel) (by decide +kernel) (by first | exact Or.inl ⟨_, rfl⟩ | exact Or.inr ⟨_, rfl⟩) ?_
  change Wp _ _ _ _ _ _ _ _ _ _ hk158
  refine Wp.aload_n dc_X12_init_32 rfl ?_
  refine Wp.sipush dc_X12_init_33 (v := nI 900) (by decide) ?_
  refine Wp.newa (bs := 0) 12 0 900 0 dc_X12_init_36 rfl aw_b (fun _ => rfl) (Or.inl ⟨rfl, rfl⟩) (by decide) (by decide) (by decide) (by decide +kernel) ⟨ok_l (by decide +kernel), ok_m (by decide +kernel)⟩ (Nat.le_of_ble_eq_true rfl) (Nat.le_of_ble_eq_true rfl) ?_
  change Wp _ _ _ _ _ _ _ _ _ _ hk159
  refine Wp.putR dc_X12_init_38 fw_X12_24 rfl rfl (by decide +kernel) (by decide +kernel) (by first | exact Or.inl ⟨_, rfl⟩ | exact Or.inr ⟨_, rfl⟩) ?_
  change Wp _ _ _ _ _ _ _ _ _ _ hk160
  refine Wp.aload_n dc_X12_init_41 rfl ?_
  refine Wp.iconst dc_X12_init_42 (v := -1) (by decide) ?_
  refine Wp.putI dc_X12_init_43 fw_X12_28 (by decide +kernel) (Nr.i _) ?_
  change Wp _ _ _ _ _ _ _ _ _ _ hk161
  refine Wp.aload_n dc_X12_init_46 rfl ?_
  refine Wp.iconst dc_X12_init_47 (v := -1) (by decide) ?_
  refine Wp.putI dc_X12_init_48 fw_X12_32 (by decide +kernel) (Nr.i _) ?_
  change Wp _ _ _ _ _ _ _ _ _ _ hk162
  refine Wp.aload_n dc_X12_init_51 rfl ?_
  refine Wp.sipush dc_X12_init_52 (v := nI 2050) (by decide) ?_
  refine Wp.newa (bs := 0) 13 34 2050 1 dc_X12_init_55 rfl aw_i (fun _ => rfl) (Or.inr (Or.inl ⟨rfl, rfl⟩)) (by decide) (by decide) (by decide) (by decide +kernel) ⟨ok_l (by decide +kernel), ok_m (by decide +kernel)⟩ (Nat.le_of_ble_eq_true rfl) (Nat.le_of_ble_eq_true rfl) ?_
  change Wp _ _ _ _ _ _ _ _ _ _ hk163
  refine Wp.putR dc_X12_init_57 fw_X12_35 rfl rfl (by decide +kernel) (by decide +kernel) (by first | exact Or.inl ⟨_, rfl⟩ | exact Or.inr ⟨_, rfl⟩) ?_
  change Wp _ _ _ _ _ _ _ _ _ _ hk164
  refine Wp.aload_n dc_X12_init_60 rfl ?_
  refine Wp.sipush dc_X12_init_61 (v := nI 132) (by decide) ?_
  refine Wp.newa (bs := 0) 13 35 132 1 dc_X12_init_64 rfl aw_i (fun _ => rfl) (Or.inr (Or.inl ⟨rfl, rfl⟩)) (by decide) (by decide) (by decide) (by decide +kernel) ⟨ok_l (by decide +kernel), ok_m (by decide +kernel)⟩ (Nat.le_of_ble_eq_true rfl) (Nat.le_of_ble_eq_true rfl) ?_
  change Wp _ _ _ _ _ _ _ _ _ _ hk165
  refine Wp.putR dc_X12_init_66 fw_X12_38 rfl rfl (by decide +kernel) (by decide +kernel) (by first | exact Or.inl ⟨_, rfl⟩ | exact Or.inr ⟨_, rfl⟩) ?_
  change Wp _ _ _ _ _ _ _ _ _ _ hk166
  refine Wp.aload_n dc_X12_init_69 rfl ?_
  refine Wp.bipush dc_X12_init_70 (v := nI 55) (by decide) ?_
  refine Wp.newa (bs := 0) 14 7 55 2 dc_X12_init_72 rfl aw_l (fun _ => rfl) (Or.inr (Or.inr ⟨rfl, rfl⟩)) (by decide) (by decide) (by decide) (by decide +kernel) ⟨ok_l (by decide +kernel), ok_m (by decide +kernel)⟩ (Nat.le_of_ble_eq_true rfl) (Nat.le_of_ble_eq_true rfl) ?_
  change Wp _ _ _ _ _ _ _ _ _ _ hk167
  refine Wp.putR dc_X12_init_74 fw_X12_41 rfl rfl (by decide +kernel) (by decide +kernel) (by first | exact Or.inl ⟨_, rfl⟩ | exact Or.inr ⟨_, rfl⟩) ?_
  change Wp _ _ _ _ _ _ _ _ _ _ hk168
  refine Wp.aload_n dc_X12_init_77 rfl ?_
  refine Wp.bipush dc_X12_init_78 (v := nI 24) (by decide) ?_
  refine Wp.newa (bs := 0) 13 36 24 1 dc_X12_init_80 rfl aw_i (fun _ => rfl) (Or.inr (Or.inl ⟨rfl, rfl⟩)) (by decide) (by decide) (by decide) (by decide +kernel) ⟨ok_l (by decide +kernel), ok_m (by decide +kernel)⟩ (Nat.le_of_ble_eq_true rfl) (Nat.le_of_ble_eq_true rfl) ?_
  change Wp _ _ _ _ _ _ _ _ _ _ hk169
  refine Wp.putR dc_X12_init_82 fw_X12_44 rfl rfl (by decide +kernel) (by decide +kernel) (by first | exact Or.inl ⟨_, rfl⟩ | exact Or.inr ⟨_, rfl⟩) ?_
  change Wp _ _ _ _ _ _ _ _ _ _ hk170
  refine Wp.aload_n dc_X12_init_85 rfl ?_
  refine Wp.bipush dc_X12_init_86 (v := nI 24) (by decide) ?_
  refine Wp.newa (bs := 0) 13 37 24 1 dc_X12_init_88 rfl aw_i (fun _ => rfl) (Or.inr (Or.inl ⟨rfl, rfl⟩)) (by decide) (by decide) (by decide) (by decide +kernel) ⟨ok_l (by decide +kernel), ok_m (by decide +kernel)⟩ (Nat.le_of_ble_eq_true rfl) (Nat.le_of_ble_eq_true rfl) ?_
  change Wp _ _ _ _ _ _ _ _ _ _ hk171
  refine Wp.putR dc_X12_init_90 fw_X12_47 rfl rfl (by decide +kernel) (by decide +kernel) (by first | exact Or.inl ⟨_, rfl⟩ | exact Or.inr ⟨_, rfl⟩) ?_
  change Wp _ _ _ _ _ _ _ _ _ _ hk172
  refine Wp.aload_n dc_X12_init_93 rfl ?_
  refine Wp.iconst dc_X12_init_94 (v := nI 4) (by decide) ?_
  refine Wp.newa (bs := 0) 13 38 4 1 dc_X12_init_95 rfl aw_i (fun _ => rfl) (Or.inr (Or.inl ⟨rfl, rfl⟩)) (by decide) (by decide) (by decide) (by decide +kernel) ⟨ok_l (by decide +kernel), ok_m (by decide +kernel)⟩ (Nat.le_of_ble_eq_true rfl) (Nat.le_of_ble_eq_true rfl) ?_
  change Wp _ _ _ _ _ _ _ _ _ _ hk173
  refine Wp.putR dc_X12_init_97 fw_X12_50 rfl rfl (by decide +kernel) (by decide +kernel) (by first | exact Or.inl ⟨_, rfl⟩ | exact Or.inr ⟨_, rfl⟩) ?_
  change Wp _ _ _ _ _ _ _ _ _ _ hk174
  refine Wp.aload_n dc_X12_init_100 rfl ?_
  refine Wp.iconst dc_X12_init_101 (v := nI 4) (by decide) ?_
  refine Wp.newa (bs := 0) 13 39 4 1 dc_X12_init_102 rfl aw_i (fun _ => rfl) (Or.inr (Or.inl ⟨rfl, rfl⟩)) (by decide) (by decide) (by decide) (by decide +kernel) ⟨ok_l (by decide +kernel), ok_m (by decide +kernel)⟩ (Nat.le_of_ble_eq_true rfl) (Nat.le_of_ble_eq_true rfl) ?_
  change Wp _ _ _ _ _ _ _ _ _ _ hk175
  refine Wp.putR dc_X12_init_104 fw_X12_53 rfl rfl (by decide +kernel) (by decide +kernel) (by first | exact Or.inl ⟨_, rfl⟩ | exact Or.inr ⟨_, rfl⟩) ?_
  change Wp _ _ _ _ _ _ _ _ _ _ hk176
  refine Wp.aload_n dc_X12_init_107 rfl ?_
  refine Wp.sipush dc_X12_init_108 (v := nI 256) (by decide) ?_
  refine Wp.newa (bs := 0) 13 40 256 1 dc_X12_init_111 rfl aw_i (fun _ => rfl) (Or.inr (Or.inl ⟨rfl, rfl⟩)) (by decide) (by decide) (by decide) (by decide +kernel) ⟨ok_l (by decide +kernel), ok_m (by decide +kernel)⟩ (Nat.le_of_ble_eq_true rfl) (Nat.le_of_ble_eq_true rfl) ?_
  change Wp _ _ _ _ _ _ _ _ _ _ hk177
  refine Wp.putR dc_X12_init_113 fw_X12_56 rfl rfl (by decide +kernel) (by decide +kernel) (by first | exact Or.inl ⟨_, rfl⟩ | exact Or.inr ⟨_, rfl⟩) ?_
  change Wp _ _ _ _ _ _ _ _ _ _ hk178
  refine Wp.aload_n dc_X12_init_116 rfl ?_
  refine Wp.bipush dc_X12_init_117 (v := nI 8) (by decide) ?_
  refine Wp.newa (bs := 0) 13 41 8 1 dc_X12_init_119 rfl aw_i (fun _ => rfl) (Or.inr (Or.inl ⟨rfl, rfl⟩)) (by decide) (by decide) (by decide) (by decide +kernel) ⟨ok_l (by decide +kernel), ok_m (by decide +kernel)⟩ (Nat.le_of_ble_eq_true rfl) (Nat.le_of_ble_eq_true rfl) ?_
  change Wp _ _ _ _ _ _ _ _ _ _ hk179
  refine Wp.putR dc_X12_init_121 fw_X12_59 rfl rfl (by decide +kernel) (by decide +kernel) (by first | exact Or.inl ⟨_, rfl⟩ | exact Or.inr ⟨_, rfl⟩) ?_
  change Wp _ _ _ _ _ _ _ _ _ _ hk180
  refine Wp.aload_n dc_X12_init_124 rfl ?_
  refine Wp.bipush dc_X12_init_125 (v := nI 8) (by decide) ?_
  refine Wp.newa (bs := 0) 13 42 8 1 dc_X12_init_127 rfl aw_i (fun _ => rfl) (Or.inr (Or.inl ⟨rfl, rfl⟩)) (by decide) (by decide) (by decide) (by decide +kernel) ⟨ok_l (by decide +kernel), ok_m (by decide +kernel)⟩ (Nat.le_of_ble_eq_true rfl) (Nat.le_of_ble_eq_true rfl) ?_
  change Wp _ _ _ _ _ _ _ _ _ _ hk181
  refine Wp.putR dc_X12_init_129 fw_X12_62 rfl rfl (by decide +kernel) (by decide +kernel) (by first | exact Or.inl ⟨_, rfl⟩ | exact Or.inr ⟨_, rfl⟩) ?_
  change Wp _ _ _ _ _ _ _ _ _ _ hk182
  refine Wp.aload_n dc_X12_init_132 rfl ?_
  refine Wp.sipush dc_X12_init_133 (v := nI 132) (by decide) ?_
  refine Wp.newa (bs := 0) 13 43 132 1 dc_X12_init_136 rfl aw_i (fun _ => rfl) (Or.inr (Or.inl ⟨rfl, rfl⟩)) (by decide) (by decide) (by decide) (by decide +kernel) ⟨ok_l (by decide +kernel), ok_m (by decide +kernel)⟩ (Nat.le_of_ble_eq_true rfl) (Nat.le_of_ble_eq_true rfl) ?_
  change Wp _ _ _ _ _ _ _ _ _ _ hk183
  refine Wp.putR dc_X12_init_138 fw_X12_65 rfl rfl (by decide +kernel) (by decide +kernel) (by first | exact Or.inl ⟨_, rfl⟩ | exact Or.inr ⟨_, rfl⟩) ?_
  change Wp _ _ _ _ _ _ _ _ _ _ hk184
  refine Wp.aload_n dc_X12_init_141 rfl ?_
  refine Wp.iconst dc_X12_init_142 (v := -1) (by decide) ?_
  refine Wp.putI dc_X12_init_143 fw_X12_68 (by decide +kernel) (Nr.i _) ?_
  change Wp _ _ _ _ _ _ _ _ _ _ hk185
  refine Wp.aload_n dc_X12_init_146 rfl ?_
  refine Wp.iconst dc_X12_init_147 (v := nI 5) (by decide) ?_
  refine Wp.newa (bs := 0) 13 44 5 1 dc_X12_init_148 rfl aw_i (fun _ => rfl) (Or.inr (Or.inl ⟨rfl, rfl⟩)) (by decide) (by decide) (by decide) (by decide +kernel) ⟨ok_l (by decide +kernel), ok_m (by decide +kernel)⟩ (Nat.le_of_ble_eq_true rfl) (Nat.le_of_ble_eq_true rfl) ?_
  change Wp _ _ _ _ _ _ _ _ _ _ hk186
  refine Wp.putR dc_X12_init_150 fw_X12_71 rfl rfl (by decide +kernel) (by decide +kernel) (by first | exact Or.inl ⟨_, rfl⟩ | exact Or.inr ⟨_, rfl⟩) ?_
  change Wp _ _ _ _ _ _ _ _ _ _ hk187
  refine Wp.aload_n dc_X12_init_153 rfl ?_
  refine Wp.sipush dc_X12_init_154 (v := nI 132) (by decide) ?_
  refine Wp.newa (bs := 0) 13 45 132 1 dc_X12_init_157 rfl aw_i (fun _ => rfl) (Or.inr (Or.inl ⟨rfl, rfl⟩)) (by decide) (by decide) (by decide) (by decide +kernel) ⟨ok_l (by decide +kernel), ok_m (by decide +kernel)⟩ (Nat.le_of_ble_eq_true rfl) (Nat.le_of_ble_eq_true rfl) ?_
  change Wp _ _ _ _ _ _ _ _ _ _ hk188
  refine Wp.putR dc_X12_init_159 fw_X12_74 rfl rfl (by decide +kernel) (by decide +kernel) (by first | exact Or.inl ⟨_, rfl⟩ | exact Or.inr ⟨_, rfl⟩) ?_
  change Wp _ _ _ _ _ _ _ _ _ _ hk189
  refine Wp.iconst dc_X12_init_162 (v := nI 0) (by decide) ?_
  refine Wp.istore_n dc_X12_init_163 (Nat.le_of_ble_eq_true rfl) ?_
  refine Wp.iload_n dc_X12_init_164 rfl ?_
  refine Wp.iconst dc_X12_init_165 (v := nI 4) (by decide) ?_
  refine Wp.icmp_ge (tgt := 182) dc_X12_init_166 rfl (fun z => absurd z (by decide)) (fun _ => ?_)
  refine Wp.aload_n dc_X12_init_169 rfl ?_
  refine Wp.getR (t := 33) dc_X12_init_170 fw_X12_17 (by decide +kernel) (by decide +kernel) ?_
  refine Wp.iload_n dc_X12_init_173 rfl ?_
  refine Wp.iconst dc_X12_init_174 (v := -1) (by decide) ?_
  refine Wp.iast dc_X12_init_175 (by decide +kernel) (by decide +kernel) ?_
  change Wp _ _ _ _ _ _ _ _ _ _ hk190
  refine Wp.iinc dc_X12_init_176 (v := nI 1) rfl (by decide) (Nat.le_of_ble_eq_true rfl) ?_
  refine Wp.goto (tgt := 164) dc_X12_init_179 rfl ?_
  refine Wp.iload_n dc_X12_init_164 rfl ?_
  refine Wp.iconst dc_X12_init_165 (v := nI 4) (by decide) ?_
  refine Wp.icmp_ge (tgt := 182) dc_X12_init_166 rfl (fun z => absurd z (by decide)) (fun _ => ?_)
  refine Wp.aload_n dc_X12_init_169 rfl ?_
  refine Wp.getR (t := 33) dc_X12_init_170 fw_X12_17 (by decide +kernel) (by decide +kernel) ?_
  refine Wp.iload_n dc_X12_init_173 rfl ?_
  refine Wp.iconst dc_X12_init_174 (v := -1) (by decide) ?_
  refine Wp.iast dc_X12_init_175 (by decide +kernel) (by decide +kernel) ?_
  change Wp _ _ _ _ _ _ _ _ _ _ hk191
  refine Wp.iinc dc_X12_init_176 (v := nI 2) rfl (by decide) (Nat.le_of_ble_eq_true rfl) ?_
  refine Wp.goto (tgt := 164) dc_X12_init_179 rfl ?_
  refine Wp.iload_n dc_X12_init_164 rfl ?_
  refine Wp.iconst dc_X12_init_165 (v := nI 4) (by decide) ?_
  refine Wp.icmp_ge (tgt := 182) dc_X12_init_166 rfl (fun z => absurd z (by decide)) (fun _ => ?_)
  refine Wp.aload_n dc_X12_init_169 rfl ?_
  refine Wp.getR (t := 33) dc_X12_init_170 fw_X12_17 (by decide +kernel) (by decide +kernel) ?_
  refine Wp.iload_n dc_X12_init_173 rfl ?_
  refine Wp.iconst dc_X12_init_174 (v := -1) (by decide) ?_
  refine Wp.iast dc_X12_init_175 (by decide +kernel) (by decide +kernel) ?_
  change Wp _ _ _ _ _ _ _ _ _ _ hk192
  refine Wp.iinc dc_X12_init_176 (v := nI 3) rfl (by decide) (Nat.le_of_ble_eq_true rfl) ?_
  refine Wp.goto (tgt := 164) dc_X12_init_179 rfl ?_
  refine Wp.iload_n dc_X12_init_164 rfl ?_
  refine Wp.iconst dc_X12_init_165 (v := nI 4) (by decide) ?_
  refine Wp.icmp_ge (tgt := 182) dc_X12_init_166 rfl (fun z => absurd z (by decide)) (fun _ => ?_)
  refine Wp.aload_n dc_X12_init_169 rfl ?_
  refine Wp.getR (t := 33) dc_X12_init_170 fw_X12_17 (by decide +kernel) (by decide +kernel) ?_
  refine Wp.iload_n dc_X12_init_173 rfl ?_
  refine Wp.iconst dc_X12_init_174 (v := -1) (by decide) ?_
  refine Wp.iast dc_X12_init_175 (by decide +kernel) (by decide +kernel) ?_
  change Wp _ _ _ _ _ _ _ _ _ _ hk193
  refine Wp.iinc dc_X12_init_176 (v := nI 4) rfl (by decide) (Nat.le_of_ble_eq_true rfl) ?_
  refine Wp.goto (tgt := 164) dc_X12_init_179 rfl ?_
  refine Wp.iload_n dc_X12_init_164 rfl ?_
  refine Wp.iconst dc_X12_init_165 (v := nI 4) (by decide) ?_
  refine Wp.icmp_ge (tgt := 182) dc_X12_init_166 rfl (fun _ => ?_) (fun z => absurd (by decide) z)
  exact Wp.return dc_X12_init_182 rfl (Nat.le_of_ble_eq_true rfl) (Nat.le_of_ble_eq_true rfl) ⟨rfl, rfl⟩
