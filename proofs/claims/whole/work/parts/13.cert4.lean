/-! certificates (by program: wip/whole/gen.py) -/
theorem ok_X11_tries_j68 {Q : Option AV → AH → Prop}  {σ : SS}  {x2 : Int32} {y3 : Int64} {s1 : Int32} {o} {z1 : Option AV}   (hE : X11_tries_j68  σ  x2 y3 s1 = some o) (hK : Q (some (vi o.1)) (hp o.2)) : Ws 4 mi_X11_tries Q 68 [some (vr 10 0), z1, some (vi x2), some (vl y3), none] [vi s1, vr 10 0] σ := by
  unfold X11_tries_j68 at hE
  obtain ⟨p68, h68, hE⟩ := bnd hE
  refine Wp.cV1i (ok_X11_answers  h68) dc_X11_tries_68 mw_X11_94 (mO10 (by decide)) (by decide) (Nat.le_of_ble_eq_true rfl) ?_
  refine Wp.if_eq (tgt := 99) dc_X11_tries_71 (by decide) (fun hc71 => ?_) (fun hc71 => ?_)
  · rw [if_pos hc71] at hE
    refine Wp.iconst dc_X11_tries_99 ic_0 ?_
    cases hE
    exact Wp.ireturn dc_X11_tries_100 rfl Nr.z0.1 (Nat.le_refl _) (Nat.le_refl _) hK
  · rw [if_neg hc71] at hE
    refine Wp.aload_n dc_X11_tries_74 rfl ?_
    refine Wp.aload_n dc_X11_tries_75 rfl ?_
    refine Wp.sgetR (t := 0) dc_X11_tries_76 fw_X11_63 (mO10 (by decide)) rfl ?_
    refine Wp.aload_n dc_X11_tries_79 rfl ?_
    refine Wp.sgetR (t := 0) dc_X11_tries_80 fw_X11_42 (mO10 (by decide)) rfl ?_
    refine Wp.iload_n dc_X11_tries_83 rfl ?_
    obtain ⟨v84, h84, hE⟩ := bnd hE
    refine Wp.cV2i (ok_X8_triesTogether (by decide) h84) dc_X11_tries_84 mw_X11_357 (mO7 (by decide)) (by decide) (Nat.le_of_ble_eq_true rfl) ?_
    refine Wp.i2l dc_X11_tries_87 ?_
    refine Wp.lload_n dc_X11_tries_88 rfl ?_
    obtain ⟨p89, h89, hE⟩ := bnd hE
    refine Wp.cV2i (ok_X11_tell  h89) dc_X11_tries_89 mw_X11_342 (mO10 (by decide)) (by decide) (Nat.le_of_ble_eq_true rfl) ?_
    refine Wp.if_eq (tgt := 99) dc_X11_tries_92 (by decide) (fun hc92 => ?_) (fun hc92 => ?_)
    · rw [if_pos hc92] at hE
      refine Wp.iconst dc_X11_tries_99 ic_0 ?_
      cases hE
      exact Wp.ireturn dc_X11_tries_100 rfl Nr.z0.1 (Nat.le_refl _) (Nat.le_refl _) hK
    · rw [if_neg hc92] at hE
      refine Wp.iconst dc_X11_tries_95 ic_1 ?_
      refine Wp.goto (tgt := 100) dc_X11_tries_96 (by decide) ?_
      cases hE
      exact Wp.ireturn dc_X11_tries_100 rfl Nr.z1.1 (Nat.le_refl _) (Nat.le_refl _) hK
theorem ok_X11_tries_j0 {Q : Option AV → AH → Prop}  {σ : SS}  {x1 : Int32} {o} {z2 z3 z4 : Option AV}   (hE : X11_tries_j0  σ  x1 = some o) (hK : Q (some (vi o.1)) (hp o.2)) : Ws 4 mi_X11_tries Q 0 [some (vr 10 0), some (vi x1), z2, z3, z4] [] σ := by
  unfold X11_tries_j0 at hE
  refine Wp.aload_n dc_X11_tries_0 rfl ?_
  refine Wp.sgetR (t := 0) dc_X11_tries_1 fw_X11_42 (mO10 (by decide)) rfl ?_
  refine Wp.iload_n dc_X11_tries_4 rfl ?_
  obtain ⟨v5, h5, hE⟩ := bnd hE
  refine Wp.cV1i (ok_X0_lookSet (by decide) h5) dc_X11_tries_5 mw_X11_201 (mO0 (by decide)) (by decide) (Nat.le_of_ble_eq_true rfl) ?_
  refine Wp.aload_n dc_X11_tries_8 rfl ?_
  refine Wp.sgetR (t := 0) dc_X11_tries_9 fw_X11_42 (mO10 (by decide)) rfl ?_
  obtain ⟨v12, h12, hE⟩ := bnd hE
  refine Wp.cV0i (ok_X0_insideSet (by decide) h12) dc_X11_tries_12 mw_X11_222 (mO0 (by decide)) (by decide) (Nat.le_of_ble_eq_true rfl) ?_
  refine Wp.iand dc_X11_tries_15 ?_
  obtain ⟨x2_16, e_16, hE⟩ := bnS hE
  rw [e_16]
  refine Wp.istore_n dc_X11_tries_16 (by decide) ?_
  refine Wp.aload_n dc_X11_tries_17 rfl ?_
  refine Wp.sgetR (t := 0) dc_X11_tries_18 fw_X11_63 (mO10 (by decide)) rfl ?_
  refine Wp.aload_n dc_X11_tries_21 rfl ?_
  refine Wp.sgetR (t := 0) dc_X11_tries_22 fw_X11_42 (mO10 (by decide)) rfl ?_
  refine Wp.iload_n dc_X11_tries_25 rfl ?_
  obtain ⟨v26, h26, hE⟩ := bnd hE
  refine Wp.cV2i (ok_X8_usedTogether (by decide) h26) dc_X11_tries_26 mw_X11_354 (mO7 (by decide)) (by decide) (Nat.le_of_ble_eq_true rfl) ?_
  refine Wp.i2l dc_X11_tries_29 ?_
  obtain ⟨y3_30, e_30, hE⟩ := bnS hE
  rw [e_30]
  refine Wp.lstore_n dc_X11_tries_30 (by decide) ?_
  refine Wp.aload_n dc_X11_tries_31 rfl ?_
  refine Wp.aload_n dc_X11_tries_32 rfl ?_
  refine Wp.sgetR (t := 0) dc_X11_tries_33 fw_X11_42 (mO10 (by decide)) rfl ?_
  refine Wp.iload_n dc_X11_tries_36 rfl ?_
  obtain ⟨v37, h37, hE⟩ := bnd hE
  refine Wp.cV1i (ok_X0_hasLook (by decide) h37) dc_X11_tries_37 mw_X11_198 (mO0 (by decide)) (by decide) (Nat.le_of_ble_eq_true rfl) ?_
  refine Wp.if_ne (tgt := 47) dc_X11_tries_40 (by decide) (fun hc40 => ?_) (fun hc40 => ?_)
  · rw [if_neg hc40] at hE
    refine Wp.iload_n dc_X11_tries_47 rfl ?_
    refine Wp.if_ne (tgt := 56) dc_X11_tries_48 (by decide) (fun hc48 => ?_) (fun hc48 => ?_)
    · rw [if_neg hc48] at hE
      refine Wp.lload_n dc_X11_tries_56 rfl ?_
      refine Wp.lconst dc_X11_tries_57 lc_0 ?_
      refine Wp.lcmp dc_X11_tries_58 ?_
      refine Wp.if_ne (tgt := 67) dc_X11_tries_59 (by decide) (fun hc59 => ?_) (fun hc59 => ?_)
      · rw [if_neg hc59] at hE
        refine Wp.iconst dc_X11_tries_67 ic_0 ?_
        exact ok_X11_tries_j68   hE hK
      · rw [if_pos hc59] at hE
        refine Wp.bipush dc_X11_tries_62 bp_9 ?_
        refine Wp.goto (tgt := 68) dc_X11_tries_64 (by decide) ?_
        exact ok_X11_tries_j68   hE hK
    · rw [if_pos hc48] at hE
      refine Wp.bipush dc_X11_tries_51 bp_8 ?_
      refine Wp.goto (tgt := 68) dc_X11_tries_53 (by decide) ?_
      exact ok_X11_tries_j68   hE hK
  · rw [if_pos hc40] at hE
    refine Wp.iconst dc_X11_tries_43 ic_2 ?_
    refine Wp.goto (tgt := 68) dc_X11_tries_44 (by decide) ?_
    exact ok_X11_tries_j68   hE hK
theorem ok_X11_tries  {σ : SS}  {x1 : Int32} {o}   (hE : X11_tries  σ  x1 = some o) : Runs 4 0 0 mi_X11_tries [vr 10 0, vi x1] (hp σ) (fun v h => v = some (vi o.1) ∧ h = hp o.2) := by
  refine Runs.of pn_X11 (Nat.le_of_ble_eq_true rfl) ?_
  exact ok_X11_tries_j0   hE ⟨rfl, rfl⟩
theorem ok_X11_nextTry_j51 {Q : Option AV → AH → Prop}  {σ : SS}  {x2 : Int32} {x3 : Int32} {s1 : Int32} {o} {z1 : Option AV}   (hE : X11_nextTry_j51  σ  x2 x3 s1 = some o) (hK : Q (some (vi o.1)) (hp o.2)) : Ws 4 mi_X11_nextTry Q 51 [some (vr 10 0), z1, some (vi x2), some (vi x3)] [vi s1, vr 10 0] σ := by
  unfold X11_nextTry_j51 at hE
  obtain ⟨p51, h51, hE⟩ := bnd hE
  refine Wp.cV1i (ok_X11_answers  h51) dc_X11_nextTry_51 mw_X11_94 (mO10 (by decide)) (by decide) (Nat.le_of_ble_eq_true rfl) ?_
  refine Wp.if_eq (tgt := 73) dc_X11_nextTry_54 (by decide) (fun hc54 => ?_) (fun hc54 => ?_)
  · rw [if_pos hc54] at hE
    refine Wp.iconst dc_X11_nextTry_73 ic_m1 ?_
    cases hE
    exact Wp.ireturn dc_X11_nextTry_74 rfl rfl (Nat.le_refl _) (Nat.le_refl _) hK
  · rw [if_neg hc54] at hE
    refine Wp.aload_n dc_X11_nextTry_57 rfl ?_
    refine Wp.sgetR (t := 0) dc_X11_nextTry_58 fw_X11_63 (mO10 (by decide)) rfl ?_
    refine Wp.aload_n dc_X11_nextTry_61 rfl ?_
    refine Wp.sgetR (t := 0) dc_X11_nextTry_62 fw_X11_42 (mO10 (by decide)) rfl ?_
    refine Wp.iload_n dc_X11_nextTry_65 rfl ?_
    refine Wp.iload_n dc_X11_nextTry_66 rfl ?_
    obtain ⟨v67, h67, hE⟩ := bnd hE
    refine Wp.cV3i (ok_X8_triedAt (by decide) h67) dc_X11_nextTry_67 mw_X11_360 (mO7 (by decide)) (by decide) (Nat.le_of_ble_eq_true rfl) ?_
    refine Wp.goto (tgt := 74) dc_X11_nextTry_70 (by decide) ?_
    cases hE
    exact Wp.ireturn dc_X11_nextTry_74 rfl rfl (Nat.le_refl _) (Nat.le_refl _) hK
theorem ok_X11_nextTry_j45 {Q : Option AV → AH → Prop}  {σ : SS}  {x2 : Int32} {x3 : Int32} {o} {z1 : Option AV}   (hE : X11_nextTry_j45  σ  x2 x3 = some o) (hK : Q (some (vi o.1)) (hp o.2)) : Ws 4 mi_X11_nextTry Q 45 [some (vr 10 0), z1, some (vi x2), some (vi x3)] [vr 10 0] σ := by
  unfold X11_nextTry_j45 at hE
  refine Wp.bipush dc_X11_nextTry_45 bp_8 ?_
  refine Wp.goto (tgt := 51) dc_X11_nextTry_47 (by decide) ?_
  exact ok_X11_nextTry_j51   hE hK
theorem ok_X11_nextTry_j0 {Q : Option AV → AH → Prop}  {σ : SS}  {x1 : Int32} {x2 : Int32} {o} {z3 : Option AV}   (hE : X11_nextTry_j0  σ  x1 x2 = some o) (hK : Q (some (vi o.1)) (hp o.2)) : Ws 4 mi_X11_nextTry Q 0 [some (vr 10 0), some (vi x1), some (vi x2), z3] [] σ := by
  unfold X11_nextTry_j0 at hE
  refine Wp.aload_n dc_X11_nextTry_0 rfl ?_
  refine Wp.sgetR (t := 0) dc_X11_nextTry_1 fw_X11_42 (mO10 (by decide)) rfl ?_
  refine Wp.iload_n dc_X11_nextTry_4 rfl ?_
  obtain ⟨v5, h5, hE⟩ := bnd hE
  refine Wp.cV1i (ok_X0_lookSet (by decide) h5) dc_X11_nextTry_5 mw_X11_201 (mO0 (by decide)) (by decide) (Nat.le_of_ble_eq_true rfl) ?_
  refine Wp.aload_n dc_X11_nextTry_8 rfl ?_
  refine Wp.sgetR (t := 0) dc_X11_nextTry_9 fw_X11_42 (mO10 (by decide)) rfl ?_
  obtain ⟨v12, h12, hE⟩ := bnd hE
  refine Wp.cV0i (ok_X0_insideSet (by decide) h12) dc_X11_nextTry_12 mw_X11_222 (mO0 (by decide)) (by decide) (Nat.le_of_ble_eq_true rfl) ?_
  refine Wp.iand dc_X11_nextTry_15 ?_
  obtain ⟨x3_16, e_16, hE⟩ := bnS hE
  rw [e_16]
  refine Wp.istore_n dc_X11_nextTry_16 (by decide) ?_
  refine Wp.aload_n dc_X11_nextTry_17 rfl ?_
  refine Wp.aload_n dc_X11_nextTry_18 rfl ?_
  refine Wp.sgetR (t := 0) dc_X11_nextTry_19 fw_X11_42 (mO10 (by decide)) rfl ?_
  refine Wp.iload_n dc_X11_nextTry_22 rfl ?_
  obtain ⟨v23, h23, hE⟩ := bnd hE
  refine Wp.cV1i (ok_X0_hasLook (by decide) h23) dc_X11_nextTry_23 mw_X11_198 (mO0 (by decide)) (by decide) (Nat.le_of_ble_eq_true rfl) ?_
  refine Wp.if_ne (tgt := 33) dc_X11_nextTry_26 (by decide) (fun hc26 => ?_) (fun hc26 => ?_)
  · rw [if_neg hc26] at hE
    refine Wp.iload_n dc_X11_nextTry_33 rfl ?_
    refine Wp.if_lt (tgt := 45) dc_X11_nextTry_34 (by decide) (fun hc34 => ?_) (fun hc34 => ?_)
    · rw [if_pos hc34] at hE
      exact ok_X11_nextTry_j45   hE hK
    · rw [if_neg hc34] at hE
      refine Wp.iload_n dc_X11_nextTry_37 rfl ?_
      refine Wp.iload_n dc_X11_nextTry_38 rfl ?_
      obtain ⟨v39, h39, hE⟩ := bnd hE
      refine Wp.cS1i (ok_J6_bitCount_0f7a4  h39) dc_X11_nextTry_39 mw_X11_231 (by decide) (Nat.le_of_ble_eq_true rfl) ?_
      refine Wp.icmp_lt (tgt := 50) dc_X11_nextTry_42 (by decide) (fun hc42 => ?_) (fun hc42 => ?_)
      · rw [if_pos hc42] at hE
        refine Wp.iconst dc_X11_nextTry_50 ic_0 ?_
        exact ok_X11_nextTry_j51   hE hK
      · rw [if_neg hc42] at hE
        exact ok_X11_nextTry_j45   hE hK
  · rw [if_pos hc26] at hE
    refine Wp.iconst dc_X11_nextTry_29 ic_2 ?_
    refine Wp.goto (tgt := 51) dc_X11_nextTry_30 (by decide) ?_
    exact ok_X11_nextTry_j51   hE hK
theorem ok_X11_nextTry  {σ : SS}  {x1 : Int32} {x2 : Int32} {o}   (hE : X11_nextTry  σ  x1 x2 = some o) : Runs 4 0 0 mi_X11_nextTry [vr 10 0, vi x1, vi x2] (hp σ) (fun v h => v = some (vi o.1) ∧ h = hp o.2) := by
  refine Runs.of pn_X11 (Nat.le_of_ble_eq_true rfl) ?_
  exact ok_X11_nextTry_j0   hE ⟨rfl, rfl⟩
theorem ok_X11_boxes_j37 {Q : Option AV → AH → Prop}  {σ : SS}  {x1 : Int32} {s1 : Int32} {o}    (hE : X11_boxes_j37  σ  x1 s1 = some o) (hK : Q (some (vi o.1)) (hp o.2)) : Ws 4 mi_X11_boxes Q 37 [some (vr 10 0), some (vi x1)] [vi s1, vr 10 0] σ := by
  unfold X11_boxes_j37 at hE
  obtain ⟨p37, h37, hE⟩ := bnd hE
  refine Wp.cV1i (ok_X11_answers  h37) dc_X11_boxes_37 mw_X11_94 (mO10 (by decide)) (by decide) (Nat.le_of_ble_eq_true rfl) ?_
  refine Wp.if_eq (tgt := 58) dc_X11_boxes_40 (by decide) (fun hc40 => ?_) (fun hc40 => ?_)
  · rw [if_pos hc40] at hE
    refine Wp.iconst dc_X11_boxes_58 ic_m1 ?_
    cases hE
    exact Wp.ireturn dc_X11_boxes_59 rfl rfl (Nat.le_refl _) (Nat.le_refl _) hK
  · rw [if_neg hc40] at hE
    refine Wp.aload_n dc_X11_boxes_43 rfl ?_
    refine Wp.sgetR (t := 0) dc_X11_boxes_44 fw_X11_63 (mO10 (by decide)) rfl ?_
    refine Wp.aload_n dc_X11_boxes_47 rfl ?_
    refine Wp.sgetR (t := 0) dc_X11_boxes_48 fw_X11_42 (mO10 (by decide)) rfl ?_
    refine Wp.iload_n dc_X11_boxes_51 rfl ?_
    obtain ⟨p52, h52, hE⟩ := bnd hE
    refine Wp.cV2i (ok_X8_fewestBoxes (by decide) h52) dc_X11_boxes_52 mw_X11_366 (mO7 (by decide)) (by decide) (Nat.le_of_ble_eq_true rfl) ?_
    refine Wp.goto (tgt := 59) dc_X11_boxes_55 (by decide) ?_
    cases hE
    exact Wp.ireturn dc_X11_boxes_59 rfl rfl (Nat.le_refl _) (Nat.le_refl _) hK
theorem ok_X11_boxes_j12 {Q : Option AV → AH → Prop}  {σ : SS}  {x1 : Int32} {o}    (hE : X11_boxes_j12  σ  x1 = some o) (hK : Q (some (vi o.1)) (hp o.2)) : Ws 4 mi_X11_boxes Q 12 [some (vr 10 0), some (vi x1)] [vr 10 0] σ := by
  unfold X11_boxes_j12 at hE
  refine Wp.iconst dc_X11_boxes_12 ic_5 ?_
  refine Wp.goto (tgt := 37) dc_X11_boxes_13 (by decide) ?_
  exact ok_X11_boxes_j37   hE hK
theorem ok_X11_boxes_j0 {Q : Option AV → AH → Prop}  {σ : SS}  {x1 : Int32} {o}    (hE : X11_boxes_j0  σ  x1 = some o) (hK : Q (some (vi o.1)) (hp o.2)) : Ws 4 mi_X11_boxes Q 0 [some (vr 10 0), some (vi x1)] [] σ := by
  unfold X11_boxes_j0 at hE
  refine Wp.aload_n dc_X11_boxes_0 rfl ?_
  refine Wp.iload_n dc_X11_boxes_1 rfl ?_
  refine Wp.iconst dc_X11_boxes_2 ic_1 ?_
  refine Wp.icmp_lt (tgt := 12) dc_X11_boxes_3 (by decide) (fun hc3 => ?_) (fun hc3 => ?_)
  · rw [if_pos hc3] at hE
    exact ok_X11_boxes_j12   hE hK
  · rw [if_neg hc3] at hE
    refine Wp.iload_n dc_X11_boxes_6 rfl ?_
    refine Wp.bipush dc_X11_boxes_7 bp_99 ?_
    refine Wp.icmp_le (tgt := 16) dc_X11_boxes_9 (by decide) (fun hc9 => ?_) (fun hc9 => ?_)
    · rw [if_pos hc9] at hE
      refine Wp.aload_n dc_X11_boxes_16 rfl ?_
      refine Wp.sgetR (t := 0) dc_X11_boxes_17 fw_X11_63 (mO10 (by decide)) rfl ?_
      refine Wp.aload_n dc_X11_boxes_20 rfl ?_
      refine Wp.sgetR (t := 0) dc_X11_boxes_21 fw_X11_42 (mO10 (by decide)) rfl ?_
      obtain ⟨v24, h24, hE⟩ := bnd hE
      refine Wp.cV1i (ok_X8_longest (by decide) h24) dc_X11_boxes_24 mw_X11_363 (mO7 (by decide)) (by decide) (Nat.le_of_ble_eq_true rfl) ?_
      refine Wp.iload_n dc_X11_boxes_27 rfl ?_
      refine Wp.icmp_le (tgt := 36) dc_X11_boxes_28 (by decide) (fun hc28 => ?_) (fun hc28 => ?_)
      · rw [if_pos hc28] at hE
        refine Wp.iconst dc_X11_boxes_36 ic_0 ?_
        exact ok_X11_boxes_j37   hE hK
      · rw [if_neg hc28] at hE
        refine Wp.bipush dc_X11_boxes_31 bp_9 ?_
        refine Wp.goto (tgt := 37) dc_X11_boxes_33 (by decide) ?_
        exact ok_X11_boxes_j37   hE hK
    · rw [if_neg hc9] at hE
      exact ok_X11_boxes_j12   hE hK
theorem ok_X11_boxes  {σ : SS}  {x1 : Int32} {o}   (hE : X11_boxes  σ  x1 = some o) : Runs 4 0 0 mi_X11_boxes [vr 10 0, vi x1] (hp σ) (fun v h => v = some (vi o.1) ∧ h = hp o.2) := by
  refine Runs.of pn_X11 (Nat.le_of_ble_eq_true rfl) ?_
  exact ok_X11_boxes_j0   hE ⟨rfl, rfl⟩
theorem ok_X11_waste_j13 {Q : Option AV → AH → Prop}  {σ : SS}  {x1 : Int32} {s1 : Int32} {o}    (hE : X11_waste_j13  σ  x1 s1 = some o) (hK : Q (some (vi o.1)) (hp o.2)) : Ws 4 mi_X11_waste Q 13 [some (vr 10 0), some (vi x1)] [vi s1, vr 10 0] σ := by
  unfold X11_waste_j13 at hE
  obtain ⟨p13, h13, hE⟩ := bnd hE
  refine Wp.cV1i (ok_X11_answers  h13) dc_X11_waste_13 mw_X11_94 (mO10 (by decide)) (by decide) (Nat.le_of_ble_eq_true rfl) ?_
  refine Wp.if_eq (tgt := 34) dc_X11_waste_16 (by decide) (fun hc16 => ?_) (fun hc16 => ?_)
  · rw [if_pos hc16] at hE
    refine Wp.iconst dc_X11_waste_34 ic_m1 ?_
    cases hE
    exact Wp.ireturn dc_X11_waste_35 rfl rfl (Nat.le_refl _) (Nat.le_refl _) hK
  · rw [if_neg hc16] at hE
    refine Wp.aload_n dc_X11_waste_19 rfl ?_
    refine Wp.sgetR (t := 0) dc_X11_waste_20 fw_X11_63 (mO10 (by decide)) rfl ?_
    refine Wp.aload_n dc_X11_waste_23 rfl ?_
    refine Wp.sgetR (t := 0) dc_X11_waste_24 fw_X11_42 (mO10 (by decide)) rfl ?_
    refine Wp.iload_n dc_X11_waste_27 rfl ?_
    obtain ⟨v28, h28, hE⟩ := bnd hE
    refine Wp.cV2i (ok_X8_thrown (by decide) h28) dc_X11_waste_28 mw_X11_369 (mO7 (by decide)) (by decide) (Nat.le_of_ble_eq_true rfl) ?_
    refine Wp.goto (tgt := 35) dc_X11_waste_31 (by decide) ?_
    cases hE
    exact Wp.ireturn dc_X11_waste_35 rfl rfl (Nat.le_refl _) (Nat.le_refl _) hK
theorem ok_X11_waste_j0 {Q : Option AV → AH → Prop}  {σ : SS}  {x1 : Int32} {o}    (hE : X11_waste_j0  σ  x1 = some o) (hK : Q (some (vi o.1)) (hp o.2)) : Ws 4 mi_X11_waste Q 0 [some (vr 10 0), some (vi x1)] [] σ := by
  unfold X11_waste_j0 at hE
  refine Wp.aload_n dc_X11_waste_0 rfl ?_
  refine Wp.iload_n dc_X11_waste_1 rfl ?_
  obtain ⟨v2, h2, hE⟩ := bnd hE
  refine Wp.cS1i (ok_X11_isPence  h2) dc_X11_waste_2 mw_X11_337 (by decide) (Nat.le_of_ble_eq_true rfl) ?_
  refine Wp.if_eq (tgt := 12) dc_X11_waste_5 (by decide) (fun hc5 => ?_) (fun hc5 => ?_)
  · rw [if_pos hc5] at hE
    refine Wp.iconst dc_X11_waste_12 ic_5 ?_
    exact ok_X11_waste_j13   hE hK
  · rw [if_neg hc5] at hE
    refine Wp.iconst dc_X11_waste_8 ic_0 ?_
    refine Wp.goto (tgt := 13) dc_X11_waste_9 (by decide) ?_
    exact ok_X11_waste_j13   hE hK
theorem ok_X11_waste  {σ : SS}  {x1 : Int32} {o}   (hE : X11_waste  σ  x1 = some o) : Runs 4 0 0 mi_X11_waste [vr 10 0, vi x1] (hp σ) (fun v h => v = some (vi o.1) ∧ h = hp o.2) := by
  refine Runs.of pn_X11 (Nat.le_of_ble_eq_true rfl) ?_
  exact ok_X11_waste_j0   hE ⟨rfl, rfl⟩
theorem ok_X11_live_j31 {Q : Option AV → AH → Prop}  {σ : SS}  {x1 : Int32} {s1 : Int32} {o} {z2 : Option AV}   (hE : X11_live_j31  σ  x1 s1 = some o) (hK : Q (some (vi o.1)) (hp o.2)) : Ws 7 mi_X11_live Q 31 [some (vr 10 0), some (vi x1), z2] [vi s1, vr 10 0] σ := by
  unfold X11_live_j31 at hE
  obtain ⟨p31, h31, hE⟩ := bnd hE
  refine Wp.cV1i (ok_X11_answers  h31) dc_X11_live_31 mw_X11_94 (mO10 (by decide)) (by decide) (Nat.le_of_ble_eq_true rfl) ?_
  refine Wp.if_ne (tgt := 39) dc_X11_live_34 (by decide) (fun hc34 => ?_) (fun hc34 => ?_)
  · rw [if_neg hc34] at hE
    refine Wp.aload_n dc_X11_live_39 rfl ?_
    refine Wp.sgetR (t := 0) dc_X11_live_40 fw_X11_72 (mO10 (by decide)) rfl ?_
    refine Wp.aload_n dc_X11_live_43 rfl ?_
    refine Wp.sgetR (t := 0) dc_X11_live_44 fw_X11_42 (mO10 (by decide)) rfl ?_
    refine Wp.iload_n dc_X11_live_47 rfl ?_
    obtain ⟨p48, h48, hE⟩ := bnd hE
    refine Wp.cV2i (ok_X2_run (by decide) h48) dc_X11_live_48 mw_X11_374 (mO2 (by decide)) (by decide) (Nat.le_of_ble_eq_true rfl) ?_
    refine Wp.istore_n dc_X11_live_51 (by decide) ?_
    refine Wp.aload_n dc_X11_live_52 rfl ?_
    refine Wp.sgetR (t := 0) dc_X11_live_53 fw_X11_72 (mO10 (by decide)) rfl ?_
    obtain ⟨σ56, h56, hE⟩ := bnd hE
    refine Wp.cV0v (ok_X2_keepCounts  h56) dc_X11_live_56 mw_X11_377 (mO2 (by decide)) (by decide) (Nat.le_of_ble_eq_true rfl) ?_
    refine Wp.iload_n dc_X11_live_59 rfl ?_
    cases hE
    exact Wp.ireturn dc_X11_live_60 rfl rfl (Nat.le_refl _) (Nat.le_refl _) hK
  · rw [if_pos hc34] at hE
    refine Wp.iconst dc_X11_live_37 ic_m1 ?_
    cases hE
    exact Wp.ireturn dc_X11_live_38 rfl rfl (Nat.le_refl _) (Nat.le_refl _) hK
theorem ok_X11_live_j0 {Q : Option AV → AH → Prop}  {σ : SS}  {x1 : Int32} {o} {z2 : Option AV}   (hE : X11_live_j0  σ  x1 = some o) (hK : Q (some (vi o.1)) (hp o.2)) : Ws 7 mi_X11_live Q 0 [some (vr 10 0), some (vi x1), z2] [] σ := by
  unfold X11_live_j0 at hE
  refine Wp.aload_n dc_X11_live_0 rfl ?_
  refine Wp.iload_n dc_X11_live_1 rfl ?_
  obtain ⟨v2, h2, hE⟩ := bnd hE
  refine Wp.cS1i (ok_X11_isSeed  h2) dc_X11_live_2 mw_X11_264 (by decide) (Nat.le_of_ble_eq_true rfl) ?_
  refine Wp.if_ne (tgt := 12) dc_X11_live_5 (by decide) (fun hc5 => ?_) (fun hc5 => ?_)
  · rw [if_neg hc5] at hE
    refine Wp.aload_n dc_X11_live_12 rfl ?_
    refine Wp.sgetR (t := 0) dc_X11_live_13 fw_X11_42 (mO10 (by decide)) rfl ?_
    refine Wp.sgetR (t := 0) dc_X11_live_16 fw_X11_156 (mO0 (by decide)) rfl ?_
    obtain ⟨v19, h19, hE⟩ := bnd hE
    refine Wp.cV0i (ok_X9_isThere (by decide) h19) dc_X11_live_19 mw_X11_372 (mO8 (by decide)) (by decide) (Nat.le_of_ble_eq_true rfl) ?_
    refine Wp.if_eq (tgt := 29) dc_X11_live_22 (by decide) (fun hc22 => ?_) (fun hc22 => ?_)
    · rw [if_pos hc22] at hE
      refine Wp.bipush dc_X11_live_29 bp_8 ?_
      exact ok_X11_live_j31   hE hK
    · rw [if_neg hc22] at hE
      refine Wp.iconst dc_X11_live_25 ic_0 ?_
      refine Wp.goto (tgt := 31) dc_X11_live_26 (by decide) ?_
      exact ok_X11_live_j31   hE hK
  · rw [if_pos hc5] at hE
    refine Wp.iconst dc_X11_live_8 ic_5 ?_
    refine Wp.goto (tgt := 31) dc_X11_live_9 (by decide) ?_
    exact ok_X11_live_j31   hE hK
theorem ok_X11_live  {σ : SS}  {x1 : Int32} {o}   (hE : X11_live  σ  x1 = some o) : Runs 7 0 0 mi_X11_live [vr 10 0, vi x1] (hp σ) (fun v h => v = some (vi o.1) ∧ h = hp o.2) := by
  refine Runs.of pn_X11 (Nat.le_of_ble_eq_true rfl) ?_
  exact ok_X11_live_j0   hE ⟨rfl, rfl⟩
theorem ok_X11_lived_j30 {Q : Option AV → AH → Prop}  {σ : SS}  {x1 : Int32} {s1 : Int32} {o}    (hE : X11_lived_j30  σ  x1 s1 = some o) (hK : Q (some (vi o.1)) (hp o.2)) : Ws 2 mi_X11_lived Q 30 [some (vr 10 0), some (vi x1)] [vi s1, vr 10 0] σ := by
  unfold X11_lived_j30 at hE
  obtain ⟨p30, h30, hE⟩ := bnd hE
  refine Wp.cV1i (ok_X11_answers  h30) dc_X11_lived_30 mw_X11_94 (mO10 (by decide)) (by decide) (Nat.le_of_ble_eq_true rfl) ?_
  refine Wp.if_eq (tgt := 47) dc_X11_lived_33 (by decide) (fun hc33 => ?_) (fun hc33 => ?_)
  · rw [if_pos hc33] at hE
    refine Wp.iconst dc_X11_lived_47 ic_m1 ?_
    cases hE
    exact Wp.ireturn dc_X11_lived_48 rfl rfl (Nat.le_refl _) (Nat.le_refl _) hK
  · rw [if_neg hc33] at hE
    refine Wp.aload_n dc_X11_lived_36 rfl ?_
    refine Wp.sgetR (t := 0) dc_X11_lived_37 fw_X11_72 (mO10 (by decide)) rfl ?_
    refine Wp.iload_n dc_X11_lived_40 rfl ?_
    obtain ⟨v41, h41, hE⟩ := bnd hE
    refine Wp.cV1i (ok_X2_keptCount  h41) dc_X11_lived_41 mw_X11_383 (mO2 (by decide)) (by decide) (Nat.le_of_ble_eq_true rfl) ?_
    refine Wp.goto (tgt := 48) dc_X11_lived_44 (by decide) ?_
    cases hE
    exact Wp.ireturn dc_X11_lived_48 rfl rfl (Nat.le_refl _) (Nat.le_refl _) hK
theorem ok_X11_lived_j10 {Q : Option AV → AH → Prop}  {σ : SS}  {x1 : Int32} {o}    (hE : X11_lived_j10  σ  x1 = some o) (hK : Q (some (vi o.1)) (hp o.2)) : Ws 2 mi_X11_lived Q 10 [some (vr 10 0), some (vi x1)] [vr 10 0] σ := by
  unfold X11_lived_j10 at hE
  refine Wp.iconst dc_X11_lived_10 ic_5 ?_
  refine Wp.goto (tgt := 30) dc_X11_lived_11 (by decide) ?_
  exact ok_X11_lived_j30   hE hK
theorem ok_X11_lived_j0 {Q : Option AV → AH → Prop}  {σ : SS}  {x1 : Int32} {o}    (hE : X11_lived_j0  σ  x1 = some o) (hK : Q (some (vi o.1)) (hp o.2)) : Ws 2 mi_X11_lived Q 0 [some (vr 10 0), some (vi x1)] [] σ := by
  unfold X11_lived_j0 at hE
  refine Wp.aload_n dc_X11_lived_0 rfl ?_
  refine Wp.iload_n dc_X11_lived_1 rfl ?_
  refine Wp.if_lt (tgt := 10) dc_X11_lived_2 (by decide) (fun hc2 => ?_) (fun hc2 => ?_)
  · rw [if_pos hc2] at hE
    exact ok_X11_lived_j10   hE hK
  · rw [if_neg hc2] at hE
    refine Wp.iload_n dc_X11_lived_5 rfl ?_
    refine Wp.iconst dc_X11_lived_6 ic_4 ?_
    refine Wp.icmp_le (tgt := 14) dc_X11_lived_7 (by decide) (fun hc7 => ?_) (fun hc7 => ?_)
    · rw [if_pos hc7] at hE
      refine Wp.aload_n dc_X11_lived_14 rfl ?_
      refine Wp.sgetR (t := 0) dc_X11_lived_15 fw_X11_72 (mO10 (by decide)) rfl ?_
      obtain ⟨v18, h18, hE⟩ := bnd hE
      refine Wp.cV0i (ok_X2_hasCounts  h18) dc_X11_lived_18 mw_X11_380 (mO2 (by decide)) (by decide) (Nat.le_of_ble_eq_true rfl) ?_
      refine Wp.if_eq (tgt := 28) dc_X11_lived_21 (by decide) (fun hc21 => ?_) (fun hc21 => ?_)
      · rw [if_pos hc21] at hE
        refine Wp.bipush dc_X11_lived_28 bp_8 ?_
        exact ok_X11_lived_j30   hE hK
      · rw [if_neg hc21] at hE
        refine Wp.iconst dc_X11_lived_24 ic_0 ?_
        refine Wp.goto (tgt := 30) dc_X11_lived_25 (by decide) ?_
        exact ok_X11_lived_j30   hE hK
    · rw [if_neg hc7] at hE
      exact ok_X11_lived_j10   hE hK
theorem ok_X11_lived  {σ : SS}  {x1 : Int32} {o}   (hE : X11_lived  σ  x1 = some o) : Runs 2 0 0 mi_X11_lived [vr 10 0, vi x1] (hp σ) (fun v h => v = some (vi o.1) ∧ h = hp o.2) := by
  refine Runs.of pn_X11 (Nat.le_of_ble_eq_true rfl) ?_
  exact ok_X11_lived_j0   hE ⟨rfl, rfl⟩
theorem ok_X11_seedsStatus_j29 {Q : Option AV → AH → Prop}  {σ : SS}   {o} {z0 z1 z2 : Option AV}   (hE : X11_seedsStatus_j29  σ   = some o) (hK : Q (some (vi o)) (hp σ)) : Ws 1 mi_X11_seedsStatus Q 29 [z0, z1, z2] [] σ := by
  unfold X11_seedsStatus_j29 at hE
  refine Wp.iconst dc_X11_seedsStatus_29 ic_5 ?_
  refine Wp.goto (tgt := 52) dc_X11_seedsStatus_30 (by decide) ?_
  cases hE
  exact Wp.ireturn dc_X11_seedsStatus_52 rfl rfl (Nat.le_refl _) (Nat.le_refl _) hK
theorem ok_X11_seedsStatus_j0 {Q : Option AV → AH → Prop}  {σ : SS}  {x1 : Int32} {x2 : Int32} {o}    (hE : X11_seedsStatus_j0  σ  x1 x2 = some o) (hK : Q (some (vi o)) (hp σ)) : Ws 1 mi_X11_seedsStatus Q 0 [some (vr 10 0), some (vi x1), some (vi x2)] [] σ := by
  unfold X11_seedsStatus_j0 at hE
  refine Wp.iload_n dc_X11_seedsStatus_0 rfl ?_
  obtain ⟨v1, h1, hE⟩ := bnd hE
  refine Wp.cS1i (ok_X11_isSeed  h1) dc_X11_seedsStatus_1 mw_X11_264 (by decide) (Nat.le_of_ble_eq_true rfl) ?_
  refine Wp.if_eq (tgt := 29) dc_X11_seedsStatus_4 (by decide) (fun hc4 => ?_) (fun hc4 => ?_)
  · rw [if_pos hc4] at hE
    exact ok_X11_seedsStatus_j29   hE hK
  · rw [if_neg hc4] at hE
    refine Wp.iload_n dc_X11_seedsStatus_7 rfl ?_
    refine Wp.iconst dc_X11_seedsStatus_8 ic_1 ?_
    refine Wp.icmp_lt (tgt := 29) dc_X11_seedsStatus_9 (by decide) (fun hc9 => ?_) (fun hc9 => ?_)
    · rw [if_pos hc9] at hE
      exact ok_X11_seedsStatus_j29   hE hK
    · rw [if_neg hc9] at hE
      refine Wp.iload_n dc_X11_seedsStatus_12 rfl ?_
      refine Wp.bipush dc_X11_seedsStatus_13 bp_20 ?_
      refine Wp.icmp_gt (tgt := 29) dc_X11_seedsStatus_15 (by decide) (fun hc15 => ?_) (fun hc15 => ?_)
      · rw [if_pos hc15] at hE
        exact ok_X11_seedsStatus_j29   hE hK
      · rw [if_neg hc15] at hE
        refine Wp.iload_n dc_X11_seedsStatus_18 rfl ?_
        refine Wp.iload_n dc_X11_seedsStatus_19 rfl ?_
        refine Wp.iadd dc_X11_seedsStatus_20 ?_
        refine Wp.iconst dc_X11_seedsStatus_21 ic_1 ?_
        refine Wp.isub dc_X11_seedsStatus_22 ?_
        obtain ⟨v23, h23, hE⟩ := bnd hE
        refine Wp.cS1i (ok_X11_isSeed  h23) dc_X11_seedsStatus_23 mw_X11_264 (by decide) (Nat.le_of_ble_eq_true rfl) ?_
        refine Wp.if_ne (tgt := 33) dc_X11_seedsStatus_26 (by decide) (fun hc26 => ?_) (fun hc26 => ?_)
        · rw [if_neg hc26] at hE
          refine Wp.aload_n dc_X11_seedsStatus_33 rfl ?_
          refine Wp.sgetR (t := 0) dc_X11_seedsStatus_34 fw_X11_42 (mO10 (by decide)) rfl ?_
          refine Wp.sgetR (t := 0) dc_X11_seedsStatus_37 fw_X11_156 (mO0 (by decide)) rfl ?_
          obtain ⟨v40, h40, hE⟩ := bnd hE
          refine Wp.cV0i (ok_X9_isThere (by decide) h40) dc_X11_seedsStatus_40 mw_X11_372 (mO8 (by decide)) (by decide) (Nat.le_of_ble_eq_true rfl) ?_
          refine Wp.if_eq (tgt := 50) dc_X11_seedsStatus_43 (by decide) (fun hc43 => ?_) (fun hc43 => ?_)
          · rw [if_pos hc43] at hE
            refine Wp.bipush dc_X11_seedsStatus_50 bp_8 ?_
            cases hE
            exact Wp.ireturn dc_X11_seedsStatus_52 rfl rfl (Nat.le_refl _) (Nat.le_refl _) hK
          · rw [if_neg hc43] at hE
            refine Wp.iconst dc_X11_seedsStatus_46 ic_0 ?_
            refine Wp.goto (tgt := 52) dc_X11_seedsStatus_47 (by decide) ?_
            cases hE
            exact Wp.ireturn dc_X11_seedsStatus_52 rfl rfl (Nat.le_refl _) (Nat.le_refl _) hK
        · rw [if_pos hc26] at hE
          exact ok_X11_seedsStatus_j29   hE hK
theorem ok_X11_seedsStatus  {σ : SS}  {x1 : Int32} {x2 : Int32} {o}   (hE : X11_seedsStatus  σ  x1 x2 = some o) : Runs 1 0 0 mi_X11_seedsStatus [vr 10 0, vi x1, vi x2] (hp σ) (fun v h => v = some (vi o) ∧ h = hp σ) := by
  refine Runs.of pn_X11 (Nat.le_of_ble_eq_true rfl) ?_
  exact ok_X11_seedsStatus_j0   hE ⟨rfl, rfl⟩
def X11_mean_P20 (Q : Option AV → AH → Prop)   (x1 : Int32) (x2 : Int32) (ss : Int64 × Int32 × SS) : Prop := Ws 7 mi_X11_mean Q 20 [some (vr 10 0), some (vi x1), some (vi x2), some (vl ss.1), none, some (vi ss.2.1)] [] ss.2.2
def X11_mean_R20 (Q : Option AV → AH → Prop)   (x1 : Int32) (x2 : Int32) (tt : Int64 × SS) : Prop := ∀ z1 z5 : Option AV, Ws 7 mi_X11_mean Q 78 [some (vr 10 0), z1, some (vi x2), some (vl tt.1), none, z5] [] tt.2
theorem ok_X11_mean_l20c {Q : Option AV → AH → Prop}  {σ : SS}  {x1 : Int32} {x2 : Int32} {y3 : Int64} {x5 : Int32} {o}    (hE : X11_mean_l20c  σ  x1 x2 y3 x5 = some o) (hS : ∀ ss, o = Sum.inl ss → (X11_mean_P20  Q   x1 x2) ss) (hT : ∀ tt, o = Sum.inr tt → (X11_mean_R20  Q   x1 x2) tt) : Ws 7 mi_X11_mean Q 20 [some (vr 10 0), some (vi x1), some (vi x2), some (vl y3), none, some (vi x5)] [] σ := by
  unfold X11_mean_l20c at hE
  refine Wp.iload dc_X11_mean_20 rfl ?_
  refine Wp.iload_n dc_X11_mean_22 rfl ?_
  refine Wp.icmp_ge (tgt := 78) dc_X11_mean_23 (by decide) (fun hc23 => ?_) (fun hc23 => ?_)
  · rw [if_pos hc23] at hE
    cases hE
    exact hT _ rfl _ _
  · rw [if_neg hc23] at hE
    refine Wp.aload_n dc_X11_mean_26 rfl ?_
    refine Wp.sgetR (t := 1) dc_X11_mean_27 fw_X11_46 (mO10 (by decide)) rfl ?_
    refine Wp.aload_n dc_X11_mean_30 rfl ?_
    refine Wp.sgetR (t := 0) dc_X11_mean_31 fw_X11_42 (mO10 (by decide)) rfl ?_
    obtain ⟨σ34, h34, hE⟩ := bnd hE
    refine Wp.cV1v (ok_X0_takeOver (by decide) (by decide) h34) dc_X11_mean_34 mw_X11_149 (mO0 (by decide)) (by decide) (Nat.le_of_ble_eq_true rfl) ?_
    refine Wp.aload_n dc_X11_mean_37 rfl ?_
    refine Wp.sgetR (t := 0) dc_X11_mean_38 fw_X11_72 (mO10 (by decide)) rfl ?_
    refine Wp.aload_n dc_X11_mean_41 rfl ?_
    refine Wp.sgetR (t := 1) dc_X11_mean_42 fw_X11_46 (mO10 (by decide)) rfl ?_
    refine Wp.iload_n dc_X11_mean_45 rfl ?_
    refine Wp.iload dc_X11_mean_46 rfl ?_
    refine Wp.iadd dc_X11_mean_48 ?_
    obtain ⟨p49, h49, hE⟩ := bnd hE
    refine Wp.cV2i (ok_X2_run (by decide) h49) dc_X11_mean_49 mw_X11_374 (mO2 (by decide)) (by decide) (Nat.le_of_ble_eq_true rfl) ?_
    refine Wp.pop dc_X11_mean_52 rfl ?_
    refine Wp.lload_n dc_X11_mean_53 rfl ?_
    refine Wp.aload_n dc_X11_mean_54 rfl ?_
    refine Wp.sgetR (t := 1) dc_X11_mean_55 fw_X11_46 (mO10 (by decide)) rfl ?_
    obtain ⟨v58, h58, hE⟩ := bnd hE
    refine Wp.cV0i (ok_X0_secondsSpent (by decide) h58) dc_X11_mean_58 mw_X11_389 (mO0 (by decide)) (by decide) (Nat.le_of_ble_eq_true rfl) ?_
    refine Wp.aload_n dc_X11_mean_61 rfl ?_
    refine Wp.sgetR (t := 0) dc_X11_mean_62 fw_X11_42 (mO10 (by decide)) rfl ?_
    obtain ⟨v65, h65, hE⟩ := bnd hE
    refine Wp.cV0i (ok_X0_secondsSpent (by decide) h65) dc_X11_mean_65 mw_X11_389 (mO0 (by decide)) (by decide) (Nat.le_of_ble_eq_true rfl) ?_
    refine Wp.isub dc_X11_mean_68 ?_
    refine Wp.i2l dc_X11_mean_69 ?_
    refine Wp.ladd dc_X11_mean_70 ?_
    obtain ⟨y3_71, e_71, hE⟩ := bnS hE
    rw [e_71]
    refine Wp.lstore_n dc_X11_mean_71 (by decide) ?_
    obtain ⟨x5_72, e_72, hE⟩ := bnS hE
    refine Wp.iinc dc_X11_mean_72 rfl ((ii ic_1).trans e_72) (by decide) ?_
    refine Wp.goto (tgt := 20) dc_X11_mean_75 (by decide) ?_
    cases hE
    exact hS _ rfl
theorem ok_X11_mean_l20 {Q : Option AV → AH → Prop}  {σ : SS}  {x1 : Int32} {x2 : Int32} {y3 : Int64} {x5 : Int32} {o}    (hE : X11_mean_l20  σ  x1 x2 y3 x5 = some o) (hK : Q (some (vi o.1)) (hp o.2)) : Ws 7 mi_X11_mean Q 20 [some (vr 10 0), some (vi x1), some (vi x2), some (vl y3), none, some (vi x5)] [] σ := by
  unfold X11_mean_l20 at hE
  obtain ⟨t20, h1, hE⟩ := bnd hE
  refine iter_ok (P := (X11_mean_P20  Q   x1 x2)) (R := (X11_mean_R20  Q   x1 x2)) (fun ss o h2 hS hT => ?_) NF _ _ h1 ?_
  · skip
    exact ok_X11_mean_l20c   h2 hS hT
  · intro z1 z5
    show Ws 7 mi_X11_mean Q 78 [some (vr 10 0), z1, some (vi x2), some (vl t20.1), none, z5] [] t20.2
    refine Wp.aload_n dc_X11_mean_78 rfl ?_
    refine Wp.lload_n dc_X11_mean_79 rfl ?_
    refine Wp.iload_n dc_X11_mean_80 rfl ?_
    refine Wp.i2l dc_X11_mean_81 ?_
    obtain ⟨p82, h82, hE⟩ := bnd hE
    refine Wp.cV2i (ok_X11_tell  h82) dc_X11_mean_82 mw_X11_342 (mO10 (by decide)) (by decide) (Nat.le_of_ble_eq_true rfl) ?_
    obtain ⟨b85, h85, hE⟩ := bnd hE
    obtain ⟨e_85, hb85⟩ := zb_some h85
    skip
    cases hE
    exact Wp.ireturn dc_X11_mean_85 rfl hb85.1 (Nat.le_refl _) (Nat.le_refl _) hK
theorem ok_X11_mean_j0 {Q : Option AV → AH → Prop}  {σ : SS}  {x1 : Int32} {x2 : Int32} {o} {z3 z4 z5 : Option AV}   (hE : X11_mean_j0  σ  x1 x2 = some o) (hK : Q (some (vi o.1)) (hp o.2)) : Ws 7 mi_X11_mean Q 0 [some (vr 10 0), some (vi x1), some (vi x2), z3, z4, z5] [] σ := by
  unfold X11_mean_j0 at hE
  refine Wp.aload_n dc_X11_mean_0 rfl ?_
  refine Wp.aload_n dc_X11_mean_1 rfl ?_
  refine Wp.iload_n dc_X11_mean_2 rfl ?_
  refine Wp.iload_n dc_X11_mean_3 rfl ?_
  obtain ⟨v4, h4, hE⟩ := bnd hE
  refine Wp.cV2i (ok_X11_seedsStatus  h4) dc_X11_mean_4 mw_X11_386 (mO10 (by decide)) (by decide) (Nat.le_of_ble_eq_true rfl) ?_
  obtain ⟨p7, h7, hE⟩ := bnd hE
  refine Wp.cV1i (ok_X11_answers  h7) dc_X11_mean_7 mw_X11_94 (mO10 (by decide)) (by decide) (Nat.le_of_ble_eq_true rfl) ?_
  refine Wp.if_ne (tgt := 15) dc_X11_mean_10 (by decide) (fun hc10 => ?_) (fun hc10 => ?_)
  · rw [if_neg hc10] at hE
    refine Wp.lconst dc_X11_mean_15 lc_0 ?_
    refine Wp.lstore_n dc_X11_mean_16 (by decide) ?_
    refine Wp.iconst dc_X11_mean_17 ic_0 ?_
    refine Wp.istore dc_X11_mean_18 (by decide) ?_
    exact ok_X11_mean_l20   hE hK
  · rw [if_pos hc10] at hE
    refine Wp.iconst dc_X11_mean_13 ic_0 ?_
    cases hE
    exact Wp.ireturn dc_X11_mean_14 rfl Nr.z0.1 (Nat.le_refl _) (Nat.le_refl _) hK
theorem ok_X11_mean  {σ : SS}  {x1 : Int32} {x2 : Int32} {o}   (hE : X11_mean  σ  x1 x2 = some o) : Runs 7 0 0 mi_X11_mean [vr 10 0, vi x1, vi x2] (hp σ) (fun v h => v = some (vi o.1) ∧ h = hp o.2) := by
  refine Runs.of pn_X11 (Nat.le_of_ble_eq_true rfl) ?_
  exact ok_X11_mean_j0   hE ⟨rfl, rfl⟩
def X11_odds_P36 (Q : Option AV → AH → Prop)   (x1 : Int32) (x2 : Int32) (x3 : Int32) (ss : Int64 × Int32 × SS) : Prop := Ws 7 mi_X11_odds Q 36 [some (vr 10 0), some (vi x1), some (vi x2), some (vi x3), some (vl ss.1), none, some (vi ss.2.1)] [] ss.2.2
def X11_odds_R36 (Q : Option AV → AH → Prop)   (x1 : Int32) (x2 : Int32) (x3 : Int32) (tt : Int64 × SS) : Prop := ∀ z1 z2 z6 : Option AV, Ws 7 mi_X11_odds Q 96 [some (vr 10 0), z1, z2, some (vi x3), some (vl tt.1), none, z6] [] tt.2
theorem ok_X11_odds_j87 {Q : Option AV → AH → Prop}  {σ : SS}  {x1 : Int32} {x2 : Int32} {x3 : Int32} {x6 : Int32} {s0 : Int64} {s1 : Int64} {o} {z4 z5 : Option AV}   (hE : X11_odds_j87  σ  x1 x2 x3 x6 s0 s1 = some o) (hS : ∀ ss, o = Sum.inl ss → (X11_odds_P36  Q   x1 x2 x3) ss) (hT : ∀ tt, o = Sum.inr tt → (X11_odds_R36  Q   x1 x2 x3) tt) : Ws 7 mi_X11_odds Q 87 [some (vr 10 0), some (vi x1), some (vi x2), some (vi x3), z4, z5, some (vi x6)] [vl s1, vl s0] σ := by
  unfold X11_odds_j87 at hE
  refine Wp.ladd dc_X11_odds_87 ?_
  obtain ⟨y4_88, e_88, hE⟩ := bnS hE
  rw [e_88]
  refine Wp.lstore dc_X11_odds_88 (by decide) ?_
  obtain ⟨x6_90, e_90, hE⟩ := bnS hE
  refine Wp.iinc dc_X11_odds_90 rfl ((ii ic_1).trans e_90) (by decide) ?_
  refine Wp.goto (tgt := 36) dc_X11_odds_93 (by decide) ?_
  cases hE
  exact hS _ rfl
theorem ok_X11_odds_l36c {Q : Option AV → AH → Prop}  {σ : SS}  {x1 : Int32} {x2 : Int32} {x3 : Int32} {y4 : Int64} {x6 : Int32} {o}    (hE : X11_odds_l36c  σ  x1 x2 x3 y4 x6 = some o) (hS : ∀ ss, o = Sum.inl ss → (X11_odds_P36  Q   x1 x2 x3) ss) (hT : ∀ tt, o = Sum.inr tt → (X11_odds_R36  Q   x1 x2 x3) tt) : Ws 7 mi_X11_odds Q 36 [some (vr 10 0), some (vi x1), some (vi x2), some (vi x3), some (vl y4), none, some (vi x6)] [] σ := by
  unfold X11_odds_l36c at hE
  refine Wp.iload dc_X11_odds_36 rfl ?_
  refine Wp.iload_n dc_X11_odds_38 rfl ?_
  refine Wp.icmp_ge (tgt := 96) dc_X11_odds_39 (by decide) (fun hc39 => ?_) (fun hc39 => ?_)
  · rw [if_pos hc39] at hE
    cases hE
    exact hT _ rfl _ _ _
  · rw [if_neg hc39] at hE
    refine Wp.aload_n dc_X11_odds_42 rfl ?_
    refine Wp.sgetR (t := 1) dc_X11_odds_43 fw_X11_46 (mO10 (by decide)) rfl ?_
    refine Wp.aload_n dc_X11_odds_46 rfl ?_
    refine Wp.sgetR (t := 0) dc_X11_odds_47 fw_X11_42 (mO10 (by decide)) rfl ?_
    obtain ⟨σ50, h50, hE⟩ := bnd hE
    refine Wp.cV1v (ok_X0_takeOver (by decide) (by decide) h50) dc_X11_odds_50 mw_X11_149 (mO0 (by decide)) (by decide) (Nat.le_of_ble_eq_true rfl) ?_
    refine Wp.aload_n dc_X11_odds_53 rfl ?_
    refine Wp.sgetR (t := 0) dc_X11_odds_54 fw_X11_72 (mO10 (by decide)) rfl ?_
    refine Wp.aload_n dc_X11_odds_57 rfl ?_
    refine Wp.sgetR (t := 1) dc_X11_odds_58 fw_X11_46 (mO10 (by decide)) rfl ?_
    refine Wp.iload_n dc_X11_odds_61 rfl ?_
    refine Wp.iload dc_X11_odds_62 rfl ?_
    refine Wp.iadd dc_X11_odds_64 ?_
    obtain ⟨p65, h65, hE⟩ := bnd hE
    refine Wp.cV2i (ok_X2_run (by decide) h65) dc_X11_odds_65 mw_X11_374 (mO2 (by decide)) (by decide) (Nat.le_of_ble_eq_true rfl) ?_
    refine Wp.pop dc_X11_odds_68 rfl ?_
    refine Wp.lload dc_X11_odds_69 rfl ?_
    refine Wp.aload_n dc_X11_odds_71 rfl ?_
    refine Wp.sgetR (t := 1) dc_X11_odds_72 fw_X11_46 (mO10 (by decide)) rfl ?_
    refine Wp.iload_n dc_X11_odds_75 rfl ?_
    obtain ⟨v76, h76, hE⟩ := bnd hE
    refine Wp.cV1i (ok_X0_isFree (by decide) h76) dc_X11_odds_76 mw_X11_288 (mO0 (by decide)) (by decide) (Nat.le_of_ble_eq_true rfl) ?_
    refine Wp.if_eq (tgt := 86) dc_X11_odds_79 (by decide) (fun hc79 => ?_) (fun hc79 => ?_)
    · rw [if_pos hc79] at hE
      refine Wp.lconst dc_X11_odds_86 lc_0 ?_
      exact ok_X11_odds_j87   hE hS hT
    · rw [if_neg hc79] at hE
      refine Wp.lconst dc_X11_odds_82 lc_1 ?_
      refine Wp.goto (tgt := 87) dc_X11_odds_83 (by decide) ?_
      exact ok_X11_odds_j87   hE hS hT
theorem ok_X11_odds_l36 {Q : Option AV → AH → Prop}  {σ : SS}  {x1 : Int32} {x2 : Int32} {x3 : Int32} {y4 : Int64} {x6 : Int32} {o}    (hE : X11_odds_l36  σ  x1 x2 x3 y4 x6 = some o) (hK : Q (some (vi o.1)) (hp o.2)) : Ws 7 mi_X11_odds Q 36 [some (vr 10 0), some (vi x1), some (vi x2), some (vi x3), some (vl y4), none, some (vi x6)] [] σ := by
  unfold X11_odds_l36 at hE
  obtain ⟨t36, h1, hE⟩ := bnd hE
  refine iter_ok (P := (X11_odds_P36  Q   x1 x2 x3)) (R := (X11_odds_R36  Q   x1 x2 x3)) (fun ss o h2 hS hT => ?_) NF _ _ h1 ?_
  · skip
    exact ok_X11_odds_l36c   h2 hS hT
  · intro z1 z2 z6
    show Ws 7 mi_X11_odds Q 96 [some (vr 10 0), z1, z2, some (vi x3), some (vl t36.1), none, z6] [] t36.2
    refine Wp.aload_n dc_X11_odds_96 rfl ?_
    refine Wp.lload dc_X11_odds_97 rfl ?_
    refine Wp.iload_n dc_X11_odds_99 rfl ?_
    refine Wp.i2l dc_X11_odds_100 ?_
    obtain ⟨p101, h101, hE⟩ := bnd hE
    refine Wp.cV2i (ok_X11_tell  h101) dc_X11_odds_101 mw_X11_342 (mO10 (by decide)) (by decide) (Nat.le_of_ble_eq_true rfl) ?_
    obtain ⟨b104, h104, hE⟩ := bnd hE
    obtain ⟨e_104, hb104⟩ := zb_some h104
    skip
    cases hE
    exact Wp.ireturn dc_X11_odds_104 rfl hb104.1 (Nat.le_refl _) (Nat.le_refl _) hK
theorem ok_X11_odds_j22 {Q : Option AV → AH → Prop}  {σ : SS}  {x1 : Int32} {x2 : Int32} {x3 : Int32} {s1 : Int32} {o} {z4 z5 z6 : Option AV}   (hE : X11_odds_j22  σ  x1 x2 x3 s1 = some o) (hK : Q (some (vi o.1)) (hp o.2)) : Ws 7 mi_X11_odds Q 22 [some (vr 10 0), some (vi x1), some (vi x2), some (vi x3), z4, z5, z6] [vi s1, vr 10 0] σ := by
  unfold X11_odds_j22 at hE
  obtain ⟨p22, h22, hE⟩ := bnd hE
  refine Wp.cV1i (ok_X11_answers  h22) dc_X11_odds_22 mw_X11_94 (mO10 (by decide)) (by decide) (Nat.le_of_ble_eq_true rfl) ?_
  refine Wp.if_ne (tgt := 30) dc_X11_odds_25 (by decide) (fun hc25 => ?_) (fun hc25 => ?_)
  · rw [if_neg hc25] at hE
    refine Wp.lconst dc_X11_odds_30 lc_0 ?_
    refine Wp.lstore dc_X11_odds_31 (by decide) ?_
    refine Wp.iconst dc_X11_odds_33 ic_0 ?_
    refine Wp.istore dc_X11_odds_34 (by decide) ?_
    exact ok_X11_odds_l36   hE hK
  · rw [if_pos hc25] at hE
    refine Wp.iconst dc_X11_odds_28 ic_0 ?_
    cases hE
    exact Wp.ireturn dc_X11_odds_29 rfl Nr.z0.1 (Nat.le_refl _) (Nat.le_refl _) hK
theorem ok_X11_odds_j0 {Q : Option AV → AH → Prop}  {σ : SS}  {x1 : Int32} {x2 : Int32} {x3 : Int32} {o} {z4 z5 z6 : Option AV}   (hE : X11_odds_j0  σ  x1 x2 x3 = some o) (hK : Q (some (vi o.1)) (hp o.2)) : Ws 7 mi_X11_odds Q 0 [some (vr 10 0), some (vi x1), some (vi x2), some (vi x3), z4, z5, z6] [] σ := by
  unfold X11_odds_j0 at hE
  refine Wp.aload_n dc_X11_odds_0 rfl ?_
  refine Wp.aload_n dc_X11_odds_1 rfl ?_
  refine Wp.sgetR (t := 0) dc_X11_odds_2 fw_X11_42 (mO10 (by decide)) rfl ?_
  refine Wp.iload_n dc_X11_odds_5 rfl ?_
  obtain ⟨v6, h6, hE⟩ := bnd hE
  refine Wp.cV1i (ok_X0_has (by decide) h6) dc_X11_odds_6 mw_X11_180 (mO0 (by decide)) (by decide) (Nat.le_of_ble_eq_true rfl) ?_
  refine Wp.if_eq (tgt := 21) dc_X11_odds_9 (by decide) (fun hc9 => ?_) (fun hc9 => ?_)
  · rw [if_pos hc9] at hE
    refine Wp.iconst dc_X11_odds_21 ic_2 ?_
    exact ok_X11_odds_j22   hE hK
  · rw [if_neg hc9] at hE
    refine Wp.aload_n dc_X11_odds_12 rfl ?_
    refine Wp.iload_n dc_X11_odds_13 rfl ?_
    refine Wp.iload_n dc_X11_odds_14 rfl ?_
    obtain ⟨v15, h15, hE⟩ := bnd hE
    refine Wp.cV2i (ok_X11_seedsStatus  h15) dc_X11_odds_15 mw_X11_386 (mO10 (by decide)) (by decide) (Nat.le_of_ble_eq_true rfl) ?_
    refine Wp.goto (tgt := 22) dc_X11_odds_18 (by decide) ?_
    exact ok_X11_odds_j22   hE hK
theorem ok_X11_odds  {σ : SS}  {x1 : Int32} {x2 : Int32} {x3 : Int32} {o}   (hE : X11_odds  σ  x1 x2 x3 = some o) : Runs 7 0 0 mi_X11_odds [vr 10 0, vi x1, vi x2, vi x3] (hp σ) (fun v h => v = some (vi o.1) ∧ h = hp o.2) := by
  refine Runs.of pn_X11 (Nat.le_of_ble_eq_true rfl) ?_
  exact ok_X11_odds_j0   hE ⟨rfl, rfl⟩
theorem ok_X11_markAt_j0 {Q : Option AV → AH → Prop}  {σ : SS}  {x1 : Int32} {o}    (hE : X11_markAt_j0  σ  x1 = some o) (hK : Q (some (vq 0 o)) (hp σ)) : Ws 0 mi_X11_markAt Q 0 [some (vr 10 0), some (vi x1)] [] σ := by
  unfold X11_markAt_j0 at hE
  refine Wp.iload_n dc_X11_markAt_0 rfl ?_
  refine Wp.if_lt (tgt := 22) dc_X11_markAt_1 (by decide) (fun hc1 => ?_) (fun hc1 => ?_)
  · rw [if_pos hc1] at hE
    refine Wp.null dc_X11_markAt_22 ?_
    cases hE
    exact Wp.areturnN dc_X11_markAt_23 rfl (Nat.le_refl _) (Nat.le_refl _) hK
  · rw [if_neg hc1] at hE
    refine Wp.iload_n dc_X11_markAt_4 rfl ?_
    refine Wp.aload_n dc_X11_markAt_5 rfl ?_
    refine Wp.sgetR (t := 0) dc_X11_markAt_6 fw_X11_49 (mO10 (by decide)) rfl ?_
    refine Wp.salenQ dc_X11_markAt_9 (mO15 (by decide)) ?_
    refine Wp.icmp_ge (tgt := 22) dc_X11_markAt_10 (by decide) (fun hc10 => ?_) (fun hc10 => ?_)
    · rw [if_pos hc10] at hE
      refine Wp.null dc_X11_markAt_22 ?_
      cases hE
      exact Wp.areturnN dc_X11_markAt_23 rfl (Nat.le_refl _) (Nat.le_refl _) hK
    · rw [if_neg hc10] at hE
      refine Wp.aload_n dc_X11_markAt_13 rfl ?_
      refine Wp.sgetR (t := 0) dc_X11_markAt_14 fw_X11_49 (mO10 (by decide)) rfl ?_
      refine Wp.iload_n dc_X11_markAt_17 rfl ?_
      obtain ⟨j18, h18, hE⟩ := bnd hE
      refine Wp.saald dc_X11_markAt_18 h18 ?_
      refine Wp.goto (tgt := 23) dc_X11_markAt_19 (by decide) ?_
      cases hE
      exact Wp.areturn dc_X11_markAt_23 rfl (Nat.le_refl _) (Nat.le_refl _) hK
theorem ok_X11_markAt  {σ : SS}  {x1 : Int32} {o}   (hE : X11_markAt  σ  x1 = some o) : Runs 0 0 0 mi_X11_markAt [vr 10 0, vi x1] (hp σ) (fun v h => v = some (vq 0 o) ∧ h = hp σ) := by
  refine Runs.of pn_X11 (Nat.le_of_ble_eq_true rfl) ?_
  exact ok_X11_markAt_j0   hE ⟨rfl, rfl⟩
theorem ok_X11_mark_j54 {Q : Option AV → AH → Prop}  {σ : SS}   {o} {z1 : Option AV}   (hE : X11_mark_j54  σ   = some o) (hK : Q (some (vi o.1)) (hp o.2)) : Ws 3 mi_X11_mark Q 54 [some (vr 10 0), z1] [] σ := by
  unfold X11_mark_j54 at hE
  refine Wp.aload_n dc_X11_mark_54 rfl ?_
  refine Wp.sgetI dc_X11_mark_55 fw_X11_392 (mO10 (by decide)) ?_
  cases hE
  exact Wp.ireturn dc_X11_mark_58 rfl rfl (Nat.le_refl _) (Nat.le_refl _) hK
theorem ok_X11_mark_j15 {Q : Option AV → AH → Prop}  {σ : SS}  {s1 : Int32} {o} {z1 : Option AV}   (hE : X11_mark_j15  σ  s1 = some o) (hK : Q (some (vi o.1)) (hp o.2)) : Ws 3 mi_X11_mark Q 15 [some (vr 10 0), z1] [vi s1, vr 10 0] σ := by
  unfold X11_mark_j15 at hE
  obtain ⟨p15, h15, hE⟩ := bnd hE
  refine Wp.cV1i (ok_X11_answers  h15) dc_X11_mark_15 mw_X11_94 (mO10 (by decide)) (by decide) (Nat.le_of_ble_eq_true rfl) ?_
  refine Wp.if_ne (tgt := 23) dc_X11_mark_18 (by decide) (fun hc18 => ?_) (fun hc18 => ?_)
  · rw [if_neg hc18] at hE
    refine Wp.aload_n dc_X11_mark_23 rfl ?_
    refine Wp.aload_n dc_X11_mark_24 rfl ?_
    refine Wp.sgetI dc_X11_mark_25 fw_X11_392 (mO10 (by decide)) ?_
    obtain ⟨v28, h28, hE⟩ := bnd hE
    refine Wp.cV1q (ok_X11_markAt  h28) dc_X11_mark_28 mw_X11_395 (mO10 (by decide)) (by decide) (Nat.le_of_ble_eq_true rfl) ?_
    refine Wp.astore_nQ dc_X11_mark_31 (by decide) ?_
    refine Wp.aload_nQ dc_X11_mark_32 rfl ?_
    rcases v28 with _ | q33
    · dsimp only at hE
      refine Wp.ifnullN (tgt := 54) dc_X11_mark_33 (by decide) ?_
      exact ok_X11_mark_j54   hE hK
    · dsimp only at hE
      by_cases hb33 : q33 < 5
      · rw [if_pos hb33] at hE
        refine Wp.ifnull dc_X11_mark_33 ?_
        refine Wp.aload_n dc_X11_mark_36 rfl ?_
        refine Wp.aload_n dc_X11_mark_37 rfl ?_
        refine Wp.sgetR (t := 0) dc_X11_mark_38 fw_X11_42 (mO10 (by decide)) rfl ?_
        obtain ⟨σ41, h41, hE⟩ := bnd hE
        refine Wp.cV1v (ok_X0_takeOver (by omega) (by decide) h41) dc_X11_mark_41 mw_X11_149 (mO0 (by omega)) (by decide) (Nat.le_of_ble_eq_true rfl) ?_
        refine Wp.aload_n dc_X11_mark_44 rfl ?_
        refine Wp.dup dc_X11_mark_45 rfl ?_
        refine Wp.sgetI dc_X11_mark_46 fw_X11_392 (mO10 (by decide)) ?_
        refine Wp.iconst dc_X11_mark_49 ic_1 ?_
        refine Wp.iadd dc_X11_mark_50 ?_
        refine Wp.sputI dc_X11_mark_51 fw_X11_392 (mO10 (by decide)) (Nr.i _) ?_
        obtain ⟨σ51, es_51, hE⟩ := bnS hE
        rw [es_51]
        exact ok_X11_mark_j54   hE hK
      · rw [if_neg hb33] at hE
        cases hE
  · rw [if_pos hc18] at hE
    refine Wp.iconst dc_X11_mark_21 ic_m1 ?_
    cases hE
    exact Wp.ireturn dc_X11_mark_22 rfl rfl (Nat.le_refl _) (Nat.le_refl _) hK
theorem ok_X11_mark_j0 {Q : Option AV → AH → Prop}  {σ : SS}   {o} {z1 : Option AV}   (hE : X11_mark_j0  σ   = some o) (hK : Q (some (vi o.1)) (hp o.2)) : Ws 3 mi_X11_mark Q 0 [some (vr 10 0), z1] [] σ := by
  unfold X11_mark_j0 at hE
  refine Wp.aload_n dc_X11_mark_0 rfl ?_
  refine Wp.aload_n dc_X11_mark_1 rfl ?_
  refine Wp.sgetI dc_X11_mark_2 fw_X11_392 (mO10 (by decide)) ?_
  refine Wp.iconst dc_X11_mark_5 ic_3 ?_
  refine Wp.icmp_lt (tgt := 14) dc_X11_mark_6 (by decide) (fun hc6 => ?_) (fun hc6 => ?_)
  · rw [if_pos hc6] at hE
    refine Wp.iconst dc_X11_mark_14 ic_0 ?_
    exact ok_X11_mark_j15   hE hK
  · rw [if_neg hc6] at hE
    refine Wp.bipush dc_X11_mark_9 bp_7 ?_
    refine Wp.goto (tgt := 15) dc_X11_mark_11 (by decide) ?_
    exact ok_X11_mark_j15   hE hK
theorem ok_X11_mark  {σ : SS}   {o}   (hE : X11_mark  σ   = some o) : Runs 3 0 0 mi_X11_mark [vr 10 0] (hp σ) (fun v h => v = some (vi o.1) ∧ h = hp o.2) := by
  refine Runs.of pn_X11 (Nat.le_of_ble_eq_true rfl) ?_
  exact ok_X11_mark_j0   hE ⟨rfl, rfl⟩
theorem ok_X11_back_j14 {Q : Option AV → AH → Prop}  {σ : SS}  {s1 : Int32} {o}    (hE : X11_back_j14  σ  s1 = some o) (hK : Q (some (vi o.1)) (hp o.2)) : Ws 3 mi_X11_back Q 14 [some (vr 10 0)] [vi s1, vr 10 0] σ := by
  unfold X11_back_j14 at hE
  obtain ⟨p14, h14, hE⟩ := bnd hE
  refine Wp.cV1i (ok_X11_answers  h14) dc_X11_back_14 mw_X11_94 (mO10 (by decide)) (by decide) (Nat.le_of_ble_eq_true rfl) ?_
  refine Wp.if_ne (tgt := 22) dc_X11_back_17 (by decide) (fun hc17 => ?_) (fun hc17 => ?_)
  · rw [if_neg hc17] at hE
    refine Wp.aload_n dc_X11_back_22 rfl ?_
    refine Wp.dup dc_X11_back_23 rfl ?_
    refine Wp.sgetI dc_X11_back_24 fw_X11_392 (mO10 (by decide)) ?_
    refine Wp.iconst dc_X11_back_27 ic_1 ?_
    refine Wp.isub dc_X11_back_28 ?_
    refine Wp.sputI dc_X11_back_29 fw_X11_392 (mO10 (by decide)) (Nr.i _) ?_
    obtain ⟨σ29, es_29, hE⟩ := bnS hE
    rw [es_29]
    refine Wp.aload_n dc_X11_back_32 rfl ?_
    refine Wp.sgetR (t := 0) dc_X11_back_33 fw_X11_42 (mO10 (by decide)) rfl ?_
    refine Wp.aload_n dc_X11_back_36 rfl ?_
    refine Wp.aload_n dc_X11_back_37 rfl ?_
    refine Wp.sgetI dc_X11_back_38 fw_X11_392 (mO10 (by decide)) ?_
    obtain ⟨v41, h41, hE⟩ := bnd hE
    refine Wp.cV1q (ok_X11_markAt  h41) dc_X11_back_41 mw_X11_395 (mO10 (by decide)) (by decide) (Nat.le_of_ble_eq_true rfl) ?_
    obtain ⟨q44_0, h44_0, hE⟩ := bnd hE
    obtain ⟨hq44_0, hb44_0⟩ := gq_some h44_0
    rw [hq44_0]
    obtain ⟨σ44, h44, hE⟩ := bnd hE
    refine Wp.cV1v (ok_X0_takeOver (by decide) (by omega) h44) dc_X11_back_44 mw_X11_149 (mO0 (by decide)) (by decide) (Nat.le_of_ble_eq_true rfl) ?_
    refine Wp.aload_n dc_X11_back_47 rfl ?_
    refine Wp.sgetI dc_X11_back_48 fw_X11_392 (mO10 (by decide)) ?_
    cases hE
    exact Wp.ireturn dc_X11_back_51 rfl rfl (Nat.le_refl _) (Nat.le_refl _) hK
  · rw [if_pos hc17] at hE
    refine Wp.iconst dc_X11_back_20 ic_m1 ?_
    cases hE
    exact Wp.ireturn dc_X11_back_21 rfl rfl (Nat.le_refl _) (Nat.le_refl _) hK
theorem ok_X11_back_j0 {Q : Option AV → AH → Prop}  {σ : SS}   {o}    (hE : X11_back_j0  σ   = some o) (hK : Q (some (vi o.1)) (hp o.2)) : Ws 3 mi_X11_back Q 0 [some (vr 10 0)] [] σ := by
  unfold X11_back_j0 at hE
  refine Wp.aload_n dc_X11_back_0 rfl ?_
  refine Wp.aload_n dc_X11_back_1 rfl ?_
  refine Wp.sgetI dc_X11_back_2 fw_X11_392 (mO10 (by decide)) ?_
  refine Wp.if_gt (tgt := 13) dc_X11_back_5 (by decide) (fun hc5 => ?_) (fun hc5 => ?_)
  · rw [if_pos hc5] at hE
    refine Wp.iconst dc_X11_back_13 ic_0 ?_
    exact ok_X11_back_j14   hE hK
  · rw [if_neg hc5] at hE
    refine Wp.bipush dc_X11_back_8 bp_8 ?_
    refine Wp.goto (tgt := 14) dc_X11_back_10 (by decide) ?_
    exact ok_X11_back_j14   hE hK
theorem ok_X11_back  {σ : SS}   {o}   (hE : X11_back  σ   = some o) : Runs 3 0 0 mi_X11_back [vr 10 0] (hp σ) (fun v h => v = some (vi o.1) ∧ h = hp o.2) := by
  refine Runs.of pn_X11 (Nat.le_of_ble_eq_true rfl) ?_
  exact ok_X11_back_j0   hE ⟨rfl, rfl⟩
theorem ok_X12_status_j0 {Q : Option AV → AH → Prop}  {σ : SS}   {o}    (hE : X12_status_j0  σ   = some o) (hK : Q (some (vi o.1)) (hp o.2)) : Ws 0 mi_X12_status Q 0 [some (vr 11 0)] [] σ := by
  unfold X12_status_j0 at hE
  refine Wp.aload_n dc_X12_status_0 rfl ?_
  refine Wp.iconst dc_X12_status_1 ic_0 ?_
  refine Wp.sputI dc_X12_status_2 fw_X12_77 (mO11 (by decide)) (Nr.i _) ?_
  obtain ⟨σ2, es_2, hE⟩ := bnS hE
  rw [es_2]
  refine Wp.aload_n dc_X12_status_5 rfl ?_
  refine Wp.sgetI dc_X12_status_6 fw_X12_80 (mO11 (by decide)) ?_
  cases hE
  exact Wp.ireturn dc_X12_status_9 rfl rfl (Nat.le_refl _) (Nat.le_refl _) hK
theorem ok_X12_status  {σ : SS}   {o}   (hE : X12_status  σ   = some o) : Runs 0 0 0 mi_X12_status [vr 11 0] (hp σ) (fun v h => v = some (vi o.1) ∧ h = hp o.2) := by
  refine Runs.of pn_X12 (Nat.le_of_ble_eq_true rfl) ?_
  exact ok_X12_status_j0   hE ⟨rfl, rfl⟩
theorem ok_X12_top_j0 {Q : Option AV → AH → Prop}  {σ : SS}   {o}    (hE : X12_top_j0  σ   = some o) (hK : Q (some (vl o.1)) (hp o.2)) : Ws 0 mi_X12_top Q 0 [some (vr 11 0)] [] σ := by
  unfold X12_top_j0 at hE
  refine Wp.aload_n dc_X12_top_0 rfl ?_
  refine Wp.iconst dc_X12_top_1 ic_0 ?_
  refine Wp.sputI dc_X12_top_2 fw_X12_77 (mO11 (by decide)) (Nr.i _) ?_
  obtain ⟨σ2, es_2, hE⟩ := bnS hE
  rw [es_2]
  refine Wp.aload_n dc_X12_top_5 rfl ?_
  refine Wp.sgetJ dc_X12_top_6 fw_X12_83 (mO11 (by decide)) ?_
  cases hE
  exact Wp.lreturn dc_X12_top_9 rfl (Nat.le_refl _) (Nat.le_refl _) hK
theorem ok_X12_top  {σ : SS}   {o}   (hE : X12_top  σ   = some o) : Runs 0 0 0 mi_X12_top [vr 11 0] (hp σ) (fun v h => v = some (vl o.1) ∧ h = hp o.2) := by
  refine Runs.of pn_X12 (Nat.le_of_ble_eq_true rfl) ?_
  exact ok_X12_top_j0   hE ⟨rfl, rfl⟩
theorem ok_X12_bottom_j0 {Q : Option AV → AH → Prop}  {σ : SS}   {o}    (hE : X12_bottom_j0  σ   = some o) (hK : Q (some (vl o.1)) (hp o.2)) : Ws 0 mi_X12_bottom Q 0 [some (vr 11 0)] [] σ := by
  unfold X12_bottom_j0 at hE
  refine Wp.aload_n dc_X12_bottom_0 rfl ?_
  refine Wp.iconst dc_X12_bottom_1 ic_0 ?_
  refine Wp.sputI dc_X12_bottom_2 fw_X12_77 (mO11 (by decide)) (Nr.i _) ?_
  obtain ⟨σ2, es_2, hE⟩ := bnS hE
  rw [es_2]
  refine Wp.aload_n dc_X12_bottom_5 rfl ?_
  refine Wp.sgetJ dc_X12_bottom_6 fw_X12_7 (mO11 (by decide)) ?_
  cases hE
  exact Wp.lreturn dc_X12_bottom_9 rfl (Nat.le_refl _) (Nat.le_refl _) hK
theorem ok_X12_bottom  {σ : SS}   {o}   (hE : X12_bottom  σ   = some o) : Runs 0 0 0 mi_X12_bottom [vr 11 0] (hp σ) (fun v h => v = some (vl o.1) ∧ h = hp o.2) := by
  refine Runs.of pn_X12 (Nat.le_of_ble_eq_true rfl) ?_
  exact ok_X12_bottom_j0   hE ⟨rfl, rfl⟩
theorem ok_X12_refuse_j0 {Q : Option AV → AH → Prop}  {σ : SS}  {x1 : Int32} {o}    (hE : X12_refuse_j0  σ  x1 = some o) (hK : Q (some (vi o.1)) (hp o.2)) : Ws 0 mi_X12_refuse Q 0 [some (vr 11 0), some (vi x1)] [] σ := by
  unfold X12_refuse_j0 at hE
  refine Wp.aload_n dc_X12_refuse_0 rfl ?_
  refine Wp.iload_n dc_X12_refuse_1 rfl ?_
  refine Wp.sputI dc_X12_refuse_2 fw_X12_80 (mO11 (by decide)) (Nr.i _) ?_
  obtain ⟨σ2, es_2, hE⟩ := bnS hE
  rw [es_2]
  refine Wp.iconst dc_X12_refuse_5 ic_m1 ?_
  cases hE
  exact Wp.ireturn dc_X12_refuse_6 rfl rfl (Nat.le_refl _) (Nat.le_refl _) hK
theorem ok_X12_refuse  {σ : SS}  {x1 : Int32} {o}   (hE : X12_refuse  σ  x1 = some o) : Runs 0 0 0 mi_X12_refuse [vr 11 0, vi x1] (hp σ) (fun v h => v = some (vi o.1) ∧ h = hp o.2) := by
  refine Runs.of pn_X12 (Nat.le_of_ble_eq_true rfl) ?_
  exact ok_X12_refuse_j0   hE ⟨rfl, rfl⟩
theorem ok_X12_no_j0 {Q : Option AV → AH → Prop}  {σ : SS}  {x1 : Int32} {o}    (hE : X12_no_j0  σ  x1 = some o) (hK : Q (some (vi o.1)) (hp o.2)) : Ws 0 mi_X12_no Q 0 [some (vr 11 0), some (vi x1)] [] σ := by
  unfold X12_no_j0 at hE
  refine Wp.aload_n dc_X12_no_0 rfl ?_
  refine Wp.iload_n dc_X12_no_1 rfl ?_
  refine Wp.sputI dc_X12_no_2 fw_X12_80 (mO11 (by decide)) (Nr.i _) ?_
  obtain ⟨σ2, es_2, hE⟩ := bnS hE
  rw [es_2]
  refine Wp.iconst dc_X12_no_5 ic_0 ?_
  cases hE
  exact Wp.ireturn dc_X12_no_6 rfl Nr.z0.1 (Nat.le_refl _) (Nat.le_refl _) hK
theorem ok_X12_no  {σ : SS}  {x1 : Int32} {o}   (hE : X12_no  σ  x1 = some o) : Runs 0 0 0 mi_X12_no [vr 11 0, vi x1] (hp σ) (fun v h => v = some (vi o.1) ∧ h = hp o.2) := by
  refine Runs.of pn_X12 (Nat.le_of_ble_eq_true rfl) ?_
  exact ok_X12_no_j0   hE ⟨rfl, rfl⟩
theorem ok_X12_isIn_j0 {Q : Option AV → AH → Prop}  {σ : SS}  {y0 : Int64} {y2 : Int64} {y4 : Int64} {o}    (hE : X12_isIn_j0  σ  y0 y2 y4 = some o) (hK : Q (some (vi o)) (hp σ)) : Ws 0 mi_X12_isIn Q 0 [some (vl y0), none, some (vl y2), none, some (vl y4), none] [] σ := by
  unfold X12_isIn_j0 at hE
  refine Wp.lload_n dc_X12_isIn_0 rfl ?_
  refine Wp.lload_n dc_X12_isIn_1 rfl ?_
  refine Wp.lcmp dc_X12_isIn_2 ?_
  refine Wp.if_lt (tgt := 17) dc_X12_isIn_3 (by decide) (fun hc3 => ?_) (fun hc3 => ?_)
  · rw [if_pos hc3] at hE
    refine Wp.iconst dc_X12_isIn_17 ic_0 ?_
    cases hE
    exact Wp.ireturn dc_X12_isIn_18 rfl Nr.z0.1 (Nat.le_refl _) (Nat.le_refl _) hK
  · rw [if_neg hc3] at hE
    refine Wp.lload_n dc_X12_isIn_6 rfl ?_
    refine Wp.lload dc_X12_isIn_7 rfl ?_
    refine Wp.lcmp dc_X12_isIn_9 ?_
    refine Wp.if_gt (tgt := 17) dc_X12_isIn_10 (by decide) (fun hc10 => ?_) (fun hc10 => ?_)
    · rw [if_pos hc10] at hE
      refine Wp.iconst dc_X12_isIn_17 ic_0 ?_
      cases hE
      exact Wp.ireturn dc_X12_isIn_18 rfl Nr.z0.1 (Nat.le_refl _) (Nat.le_refl _) hK
    · rw [if_neg hc10] at hE
      refine Wp.iconst dc_X12_isIn_13 ic_1 ?_
      refine Wp.goto (tgt := 18) dc_X12_isIn_14 (by decide) ?_
      cases hE
      exact Wp.ireturn dc_X12_isIn_18 rfl Nr.z1.1 (Nat.le_refl _) (Nat.le_refl _) hK
theorem ok_X12_isIn  {σ : SS}  {y0 : Int64} {y2 : Int64} {y4 : Int64} {o}   (hE : X12_isIn  σ  y0 y2 y4 = some o) : Runs 0 0 0 mi_X12_isIn [vl y0, vl y2, vl y4] (hp σ) (fun v h => v = some (vi o) ∧ h = hp σ) := by
  refine Runs.of pn_X12 (Nat.le_of_ble_eq_true rfl) ?_
  exact ok_X12_isIn_j0   hE ⟨rfl, rfl⟩
def X12_fraction_P9 (Q : Option AV → AH → Prop) (σ : SS)  (y1 : Int64) (y3 : Int64) (ss : Int64 × Int64) : Prop := ∀ z9 z10 : Option AV, Ws 1 mi_X12_fraction Q 9 [some (vr 11 0), some (vl y1), none, some (vl y3), none, some (vl ss.1), none, some (vl ss.2), none, z9, z10] [] σ
def X12_fraction_R9 (Q : Option AV → AH → Prop) (σ : SS)  (y1 : Int64) (y3 : Int64) (tt : Int64) : Prop := ∀ z7 z8 z9 z10 : Option AV, Ws 1 mi_X12_fraction Q 34 [some (vr 11 0), some (vl y1), none, some (vl y3), none, some (vl tt), none, z7, z8, z9, z10] [] σ
theorem ok_X12_fraction_l9c {Q : Option AV → AH → Prop}  {σ : SS}  {y1 : Int64} {y3 : Int64} {y5 : Int64} {y7 : Int64} {o} {z9 z10 : Option AV}   (hE : X12_fraction_l9c  σ  y1 y3 y5 y7 = some o) (hS : ∀ ss, o = Sum.inl ss → (X12_fraction_P9  Q σ  y1 y3) ss) (hT : ∀ tt, o = Sum.inr tt → (X12_fraction_R9  Q σ  y1 y3) tt) : Ws 1 mi_X12_fraction Q 9 [some (vr 11 0), some (vl y1), none, some (vl y3), none, some (vl y5), none, some (vl y7), none, z9, z10] [] σ := by
  unfold X12_fraction_l9c at hE
  refine Wp.lload dc_X12_fraction_9 rfl ?_
  refine Wp.lconst dc_X12_fraction_11 lc_0 ?_
  refine Wp.lcmp dc_X12_fraction_12 ?_
  refine Wp.if_eq (tgt := 34) dc_X12_fraction_13 (by decide) (fun hc13 => ?_) (fun hc13 => ?_)
  · rw [if_pos hc13] at hE
    cases hE
    exact hT _ rfl _ _ _ _
  · rw [if_neg hc13] at hE
    refine Wp.lload dc_X12_fraction_16 rfl ?_
    refine Wp.lload dc_X12_fraction_18 rfl ?_
    obtain ⟨w20, h20, hE⟩ := bnd hE
    refine Wp.lrem dc_X12_fraction_20 (nzL_some h20) ?_
    obtain ⟨y9_21, e_21, hE⟩ := bnS hE
    rw [e_21]
    refine Wp.lstore dc_X12_fraction_21 (by decide) ?_
    refine Wp.lload dc_X12_fraction_23 rfl ?_
    refine Wp.lstore dc_X12_fraction_25 (by decide) ?_
    refine Wp.lload dc_X12_fraction_27 rfl ?_
    refine Wp.lstore dc_X12_fraction_29 (by decide) ?_
    refine Wp.goto (tgt := 9) dc_X12_fraction_31 (by decide) ?_
    cases hE
    exact hS _ rfl _ _
theorem ok_X12_fraction_l9 {Q : Option AV → AH → Prop}  {σ : SS}  {y1 : Int64} {y3 : Int64} {y5 : Int64} {y7 : Int64} {o} {z9 z10 : Option AV}   (hE : X12_fraction_l9  σ  y1 y3 y5 y7 = some o) (hK : Q (some (vi o.1)) (hp o.2)) : Ws 1 mi_X12_fraction Q 9 [some (vr 11 0), some (vl y1), none, some (vl y3), none, some (vl y5), none, some (vl y7), none, z9, z10] [] σ := by
  unfold X12_fraction_l9 at hE
  obtain ⟨t9, h1, hE⟩ := bnd hE
  refine iter_ok (P := (X12_fraction_P9  Q σ  y1 y3)) (R := (X12_fraction_R9  Q σ  y1 y3)) (fun ss o h2 hS hT => ?_) NF _ _ h1 ?_ _ _
  · intro z9 z10
    exact ok_X12_fraction_l9c   h2 hS hT
  · intro z7 z8 z9 z10
    show Ws 1 mi_X12_fraction Q 34 [some (vr 11 0), some (vl y1), none, some (vl y3), none, some (vl t9), none, z7, z8, z9, z10] [] σ
    refine Wp.aload_n dc_X12_fraction_34 rfl ?_
    refine Wp.lload_n dc_X12_fraction_35 rfl ?_
    refine Wp.lload dc_X12_fraction_36 rfl ?_
    obtain ⟨w38, h38, hE⟩ := bnd hE
    refine Wp.ldiv dc_X12_fraction_38 (nzL_some h38) ?_
    refine Wp.sputJ dc_X12_fraction_39 fw_X12_83 (mO11 (by decide)) ?_
    obtain ⟨σ39, es_39, hE⟩ := bnS hE
    rw [es_39]
    refine Wp.aload_n dc_X12_fraction_42 rfl ?_
    refine Wp.lload_n dc_X12_fraction_43 rfl ?_
    refine Wp.lload dc_X12_fraction_44 rfl ?_
    obtain ⟨w46, h46, hE⟩ := bnd hE
    refine Wp.ldiv dc_X12_fraction_46 (nzL_some h46) ?_
    refine Wp.sputJ dc_X12_fraction_47 fw_X12_7 (mO11 (by decide)) ?_
    obtain ⟨σ47, es_47, hE⟩ := bnS hE
    rw [es_47]
    refine Wp.iconst dc_X12_fraction_50 ic_1 ?_
    cases hE
    exact Wp.ireturn dc_X12_fraction_51 rfl Nr.z1.1 (Nat.le_refl _) (Nat.le_refl _) hK
theorem ok_X12_fraction_j0 {Q : Option AV → AH → Prop}  {σ : SS}  {y1 : Int64} {y3 : Int64} {o} {z5 z6 z7 z8 z9 z10 : Option AV}   (hE : X12_fraction_j0  σ  y1 y3 = some o) (hK : Q (some (vi o.1)) (hp o.2)) : Ws 1 mi_X12_fraction Q 0 [some (vr 11 0), some (vl y1), none, some (vl y3), none, z5, z6, z7, z8, z9, z10] [] σ := by
  unfold X12_fraction_j0 at hE
  refine Wp.lload_n dc_X12_fraction_0 rfl ?_
  refine Wp.mabs dc_X12_fraction_1 lw_X12_86 ms_abs mi_Math mk_abs (by decide) (Nat.le_refl _) (Nat.le_refl _) (Nat.le_of_ble_eq_true rfl) ?_
  obtain ⟨y5_4, e_4, hE⟩ := bnS hE
  rw [e_4]
  refine Wp.lstore dc_X12_fraction_4 (by decide) ?_
  refine Wp.lload_n dc_X12_fraction_6 rfl ?_
  refine Wp.lstore dc_X12_fraction_7 (by decide) ?_
  exact ok_X12_fraction_l9   hE hK
theorem ok_X12_fraction  {σ : SS}  {y1 : Int64} {y3 : Int64} {o}   (hE : X12_fraction  σ  y1 y3 = some o) : Runs 1 0 0 mi_X12_fraction [vr 11 0, vl y1, vl y3] (hp σ) (fun v h => v = some (vi o.1) ∧ h = hp o.2) := by
  refine Runs.of pn_X12 (Nat.le_of_ble_eq_true rfl) ?_
  exact ok_X12_fraction_j0   hE ⟨rfl, rfl⟩
theorem ok_X12_cut_j0 {Q : Option AV → AH → Prop}  {σ : SS}  {x0 : Int32} {y1 : Int64} {o}    (hE : X12_cut_j0  σ  x0 y1 = some o) (hK : Q (some (vl o)) (hp σ)) : Ws 0 mi_X12_cut Q 0 [some (vi x0), some (vl y1), none] [] σ := by
  unfold X12_cut_j0 at hE
  refine Wp.iload_n dc_X12_cut_0 rfl ?_
  refine Wp.if_ne (tgt := 11) dc_X12_cut_1 (by decide) (fun hc1 => ?_) (fun hc1 => ?_)
  · rw [if_neg hc1] at hE
    refine Wp.iload_n dc_X12_cut_11 rfl ?_
    refine Wp.iconst dc_X12_cut_12 ic_1 ?_
    refine Wp.icmp_ne (tgt := 23) dc_X12_cut_13 (by decide) (fun hc13 => ?_) (fun hc13 => ?_)
    · rw [if_neg hc13] at hE
      refine Wp.iload_n dc_X12_cut_23 rfl ?_
      refine Wp.iconst dc_X12_cut_24 ic_2 ?_
      refine Wp.icmp_ne (tgt := 34) dc_X12_cut_25 (by decide) (fun hc25 => ?_) (fun hc25 => ?_)
      · rw [if_neg hc25] at hE
        refine Wp.lload_n dc_X12_cut_34 rfl ?_
        cases hE
        exact Wp.lreturn dc_X12_cut_35 rfl (Nat.le_refl _) (Nat.le_refl _) hK
      · rw [if_pos hc25] at hE
        refine Wp.lload_n dc_X12_cut_28 rfl ?_
        refine Wp.l2i dc_X12_cut_29 ?_
        refine Wp.i2l dc_X12_cut_30 ?_
        refine Wp.goto (tgt := 35) dc_X12_cut_31 (by decide) ?_
        cases hE
        exact Wp.lreturn dc_X12_cut_35 rfl (Nat.le_refl _) (Nat.le_refl _) hK
    · rw [if_pos hc13] at hE
      refine Wp.lload_n dc_X12_cut_16 rfl ?_
      refine Wp.l2i dc_X12_cut_17 ?_
      refine Wp.i2s dc_X12_cut_18 ?_
      refine Wp.i2l dc_X12_cut_19 ?_
      refine Wp.goto (tgt := 35) dc_X12_cut_20 (by decide) ?_
      cases hE
      exact Wp.lreturn dc_X12_cut_35 rfl (Nat.le_refl _) (Nat.le_refl _) hK
  · rw [if_pos hc1] at hE
    refine Wp.lload_n dc_X12_cut_4 rfl ?_
    refine Wp.l2i dc_X12_cut_5 ?_
    refine Wp.i2b dc_X12_cut_6 ?_
    refine Wp.i2l dc_X12_cut_7 ?_
    refine Wp.goto (tgt := 35) dc_X12_cut_8 (by decide) ?_
    cases hE
    exact Wp.lreturn dc_X12_cut_35 rfl (Nat.le_refl _) (Nat.le_refl _) hK
theorem ok_X12_cut  {σ : SS}  {x0 : Int32} {y1 : Int64} {o}   (hE : X12_cut  σ  x0 y1 = some o) : Runs 0 0 0 mi_X12_cut [vi x0, vl y1] (hp σ) (fun v h => v = some (vl o) ∧ h = hp σ) := by
  refine Runs.of pn_X12 (Nat.le_of_ble_eq_true rfl) ?_
  exact ok_X12_cut_j0   hE ⟨rfl, rfl⟩
theorem ok_X12_tray_j28 {Q : Option AV → AH → Prop}  {σ : SS}   {o} {z1 z2 z3 z4 : Option AV}   (hE : X12_tray_j28  σ   = some o) (hK : Q (some (vi o.1)) (hp o.2)) : Ws 1 mi_X12_tray Q 28 [some (vr 11 0), z1, z2, z3, z4] [] σ := by
  unfold X12_tray_j28 at hE
  refine Wp.aload_n dc_X12_tray_28 rfl ?_
  refine Wp.iconst dc_X12_tray_29 ic_1 ?_
  obtain ⟨p30, h30, hE⟩ := bnd hE
  refine Wp.cV1i (ok_X12_no  h30) dc_X12_tray_30 mw_X12_92 (mO11 (by decide)) (by decide) (Nat.le_of_ble_eq_true rfl) ?_
  obtain ⟨b33, h33, hE⟩ := bnd hE
  obtain ⟨e_33, hb33⟩ := zb_some h33
  skip
  cases hE
  exact Wp.ireturn dc_X12_tray_33 rfl hb33.1 (Nat.le_refl _) (Nat.le_refl _) hK
def X12_tray_P74 (Q : Option AV → AH → Prop)   (x1 : Int32) (x3 : Int32) (ss : Int32 × SS) : Prop := ∀ z2 : Option AV, Ws 1 mi_X12_tray Q 74 [some (vr 11 0), some (vi x1), z2, some (vi x3), some (vi ss.1)] [] ss.2
def X12_tray_R74 (Q : Option AV → AH → Prop)   (x1 : Int32) (x3 : Int32) (tt : SS) : Prop := ∀ z0 z1 z2 z3 z4 : Option AV, Ws 1 mi_X12_tray Q 99 [z0, z1, z2, z3, z4] [] tt
theorem ok_X12_tray_l74c {Q : Option AV → AH → Prop}  {σ : SS}  {x1 : Int32} {x3 : Int32} {x4 : Int32} {o} {z2 : Option AV}   (hE : X12_tray_l74c  σ  x1 x3 x4 = some o) (hS : ∀ ss, o = Sum.inl ss → (X12_tray_P74  Q   x1 x3) ss) (hT : ∀ tt, o = Sum.inr tt → (X12_tray_R74  Q   x1 x3) tt) : Ws 1 mi_X12_tray Q 74 [some (vr 11 0), some (vi x1), z2, some (vi x3), some (vi x4)] [] σ := by
  unfold X12_tray_l74c at hE
  refine Wp.iload dc_X12_tray_74 rfl ?_
  refine Wp.iload_n dc_X12_tray_76 rfl ?_
  refine Wp.icmp_ge (tgt := 99) dc_X12_tray_77 (by decide) (fun hc77 => ?_) (fun hc77 => ?_)
  · rw [if_pos hc77] at hE
    cases hE
    exact hT _ rfl _ _ _ _ _
  · rw [if_neg hc77] at hE
    refine Wp.aload_n dc_X12_tray_80 rfl ?_
    refine Wp.sgetR (t := 6) dc_X12_tray_81 fw_X12_20 (mO11 (by decide)) rfl ?_
    refine Wp.bipush dc_X12_tray_84 bp_60 ?_
    refine Wp.iload_n dc_X12_tray_86 rfl ?_
    refine Wp.imul dc_X12_tray_87 ?_
    refine Wp.iload dc_X12_tray_88 rfl ?_
    refine Wp.iadd dc_X12_tray_90 ?_
    refine Wp.lconst dc_X12_tray_91 lc_0 ?_
    obtain ⟨j92, h92, hE⟩ := bnd hE
    refine Wp.slast dc_X12_tray_92 (mO14 (by decide)) h92 ?_
    obtain ⟨σ92, es_92, hE⟩ := bnS hE
    rw [es_92]
    obtain ⟨x4_93, e_93, hE⟩ := bnS hE
    refine Wp.iinc dc_X12_tray_93 rfl ((ii ic_1).trans e_93) (by decide) ?_
    refine Wp.goto (tgt := 74) dc_X12_tray_96 (by decide) ?_
    cases hE
    exact hS _ rfl _
theorem ok_X12_tray_l74 {Q : Option AV → AH → Prop}  {σ : SS}  {x1 : Int32} {x3 : Int32} {x4 : Int32} {o} {z2 : Option AV}   (hE : X12_tray_l74  σ  x1 x3 x4 = some o) (hK : Q (some (vi o.1)) (hp o.2)) : Ws 1 mi_X12_tray Q 74 [some (vr 11 0), some (vi x1), z2, some (vi x3), some (vi x4)] [] σ := by
  unfold X12_tray_l74 at hE
  obtain ⟨t74, h1, hE⟩ := bnd hE
  refine iter_ok (P := (X12_tray_P74  Q   x1 x3)) (R := (X12_tray_R74  Q   x1 x3)) (fun ss o h2 hS hT => ?_) NF _ _ h1 ?_ _
  · intro z2
    exact ok_X12_tray_l74c   h2 hS hT
  · intro z0 z1 z2 z3 z4
    show Ws 1 mi_X12_tray Q 99 [z0, z1, z2, z3, z4] [] t74
    refine Wp.iconst dc_X12_tray_99 ic_1 ?_
    cases hE
    exact Wp.ireturn dc_X12_tray_100 rfl Nr.z1.1 (Nat.le_refl _) (Nat.le_refl _) hK
theorem ok_X12_tray_j0 {Q : Option AV → AH → Prop}  {σ : SS}  {x1 : Int32} {x2 : Int32} {x3 : Int32} {o} {z4 : Option AV}   (hE : X12_tray_j0  σ  x1 x2 x3 = some o) (hK : Q (some (vi o.1)) (hp o.2)) : Ws 1 mi_X12_tray Q 0 [some (vr 11 0), some (vi x1), some (vi x2), some (vi x3), z4] [] σ := by
  unfold X12_tray_j0 at hE
  refine Wp.aload_n dc_X12_tray_0 rfl ?_
  refine Wp.iconst dc_X12_tray_1 ic_0 ?_
  refine Wp.sputI dc_X12_tray_2 fw_X12_77 (mO11 (by decide)) (Nr.i _) ?_
  obtain ⟨σ2, es_2, hE⟩ := bnS hE
  rw [es_2]
  refine Wp.aload_n dc_X12_tray_5 rfl ?_
  refine Wp.iconst dc_X12_tray_6 ic_0 ?_
  refine Wp.sputI dc_X12_tray_7 fw_X12_80 (mO11 (by decide)) (Nr.i _) ?_
  obtain ⟨σ7, es_7, hE⟩ := bnS hE
  rw [es_7]
  refine Wp.iload_n dc_X12_tray_10 rfl ?_
  refine Wp.if_lt (tgt := 28) dc_X12_tray_11 (by decide) (fun hc11 => ?_) (fun hc11 => ?_)
  · rw [if_pos hc11] at hE
    exact ok_X12_tray_j28   hE hK
  · rw [if_neg hc11] at hE
    refine Wp.iload_n dc_X12_tray_14 rfl ?_
    refine Wp.iconst dc_X12_tray_15 ic_4 ?_
    refine Wp.icmp_ge (tgt := 28) dc_X12_tray_16 (by decide) (fun hc16 => ?_) (fun hc16 => ?_)
    · rw [if_pos hc16] at hE
      exact ok_X12_tray_j28   hE hK
    · rw [if_neg hc16] at hE
      refine Wp.iload_n dc_X12_tray_19 rfl ?_
      refine Wp.if_lt (tgt := 28) dc_X12_tray_20 (by decide) (fun hc20 => ?_) (fun hc20 => ?_)
      · rw [if_pos hc20] at hE
        exact ok_X12_tray_j28   hE hK
      · rw [if_neg hc20] at hE
        refine Wp.iload_n dc_X12_tray_23 rfl ?_
        refine Wp.iconst dc_X12_tray_24 ic_3 ?_
        refine Wp.icmp_le (tgt := 34) dc_X12_tray_25 (by decide) (fun hc25 => ?_) (fun hc25 => ?_)
        · rw [if_pos hc25] at hE
          refine Wp.iload_n dc_X12_tray_34 rfl ?_
          refine Wp.bipush dc_X12_tray_35 bp_60 ?_
          refine Wp.icmp_le (tgt := 46) dc_X12_tray_37 (by decide) (fun hc37 => ?_) (fun hc37 => ?_)
          · rw [if_pos hc37] at hE
            refine Wp.iload_n dc_X12_tray_46 rfl ?_
            refine Wp.if_ge (tgt := 57) dc_X12_tray_47 (by decide) (fun hc47 => ?_) (fun hc47 => ?_)
            · rw [if_pos hc47] at hE
              refine Wp.aload_n dc_X12_tray_57 rfl ?_
              refine Wp.sgetR (t := 32) dc_X12_tray_58 fw_X12_13 (mO11 (by decide)) rfl ?_
              refine Wp.iload_n dc_X12_tray_61 rfl ?_
              refine Wp.iload_n dc_X12_tray_62 rfl ?_
              obtain ⟨j63, h63, hE⟩ := bnd hE
              refine Wp.siast dc_X12_tray_63 (mO13 (by decide)) h63 ?_
              obtain ⟨σ63, es_63, hE⟩ := bnS hE
              rw [es_63]
              refine Wp.aload_n dc_X12_tray_64 rfl ?_
              refine Wp.sgetR (t := 33) dc_X12_tray_65 fw_X12_17 (mO11 (by decide)) rfl ?_
              refine Wp.iload_n dc_X12_tray_68 rfl ?_
              refine Wp.iload_n dc_X12_tray_69 rfl ?_
              obtain ⟨j70, h70, hE⟩ := bnd hE
              refine Wp.siast dc_X12_tray_70 (mO13 (by decide)) h70 ?_
              obtain ⟨σ70, es_70, hE⟩ := bnS hE
              rw [es_70]
              refine Wp.iconst dc_X12_tray_71 ic_0 ?_
              refine Wp.istore dc_X12_tray_72 (by decide) ?_
              exact ok_X12_tray_l74   hE hK
            · rw [if_neg hc47] at hE
              refine Wp.aload_n dc_X12_tray_50 rfl ?_
              refine Wp.bipush dc_X12_tray_51 bp_6 ?_
              obtain ⟨p53, h53, hE⟩ := bnd hE
              refine Wp.cV1i (ok_X12_no  h53) dc_X12_tray_53 mw_X12_92 (mO11 (by decide)) (by decide) (Nat.le_of_ble_eq_true rfl) ?_
              obtain ⟨b56, h56, hE⟩ := bnd hE
              obtain ⟨e_56, hb56⟩ := zb_some h56
              skip
              cases hE
              exact Wp.ireturn dc_X12_tray_56 rfl hb56.1 (Nat.le_refl _) (Nat.le_refl _) hK
          · rw [if_neg hc37] at hE
            refine Wp.aload_n dc_X12_tray_40 rfl ?_
            refine Wp.iconst dc_X12_tray_41 ic_5 ?_
            obtain ⟨p42, h42, hE⟩ := bnd hE
            refine Wp.cV1i (ok_X12_no  h42) dc_X12_tray_42 mw_X12_92 (mO11 (by decide)) (by decide) (Nat.le_of_ble_eq_true rfl) ?_
            obtain ⟨b45, h45, hE⟩ := bnd hE
            obtain ⟨e_45, hb45⟩ := zb_some h45
            skip
            cases hE
            exact Wp.ireturn dc_X12_tray_45 rfl hb45.1 (Nat.le_refl _) (Nat.le_refl _) hK
        · rw [if_neg hc25] at hE
          exact ok_X12_tray_j28   hE hK
theorem ok_X12_tray  {σ : SS}  {x1 : Int32} {x2 : Int32} {x3 : Int32} {o}   (hE : X12_tray  σ  x1 x2 x3 = some o) : Runs 1 0 0 mi_X12_tray [vr 11 0, vi x1, vi x2, vi x3] (hp σ) (fun v h => v = some (vi o.1) ∧ h = hp o.2) := by
  refine Runs.of pn_X12 (Nat.le_of_ble_eq_true rfl) ?_
  exact ok_X12_tray_j0   hE ⟨rfl, rfl⟩
theorem ok_X12_trayed_j9 {Q : Option AV → AH → Prop}  {σ : SS}   {o} {z0 z1 : Option AV}   (hE : X12_trayed_j9  σ   = some o) (hK : Q (some (vi o)) (hp σ)) : Ws 0 mi_X12_trayed Q 9 [z0, z1] [] σ := by
  unfold X12_trayed_j9 at hE
  refine Wp.iconst dc_X12_trayed_9 ic_1 ?_
  refine Wp.goto (tgt := 27) dc_X12_trayed_10 (by decide) ?_
  cases hE
  exact Wp.ireturn dc_X12_trayed_27 rfl rfl (Nat.le_refl _) (Nat.le_refl _) hK
theorem ok_X12_trayed_j0 {Q : Option AV → AH → Prop}  {σ : SS}  {x1 : Int32} {o}    (hE : X12_trayed_j0  σ  x1 = some o) (hK : Q (some (vi o)) (hp σ)) : Ws 0 mi_X12_trayed Q 0 [some (vr 11 0), some (vi x1)] [] σ := by
  unfold X12_trayed_j0 at hE
  refine Wp.iload_n dc_X12_trayed_0 rfl ?_
  refine Wp.if_lt (tgt := 9) dc_X12_trayed_1 (by decide) (fun hc1 => ?_) (fun hc1 => ?_)
  · rw [if_pos hc1] at hE
    exact ok_X12_trayed_j9   hE hK
  · rw [if_neg hc1] at hE
    refine Wp.iload_n dc_X12_trayed_4 rfl ?_
    refine Wp.iconst dc_X12_trayed_5 ic_4 ?_
    refine Wp.icmp_lt (tgt := 13) dc_X12_trayed_6 (by decide) (fun hc6 => ?_) (fun hc6 => ?_)
    · rw [if_pos hc6] at hE
      refine Wp.aload_n dc_X12_trayed_13 rfl ?_
      refine Wp.sgetR (t := 33) dc_X12_trayed_14 fw_X12_17 (mO11 (by decide)) rfl ?_
      refine Wp.iload_n dc_X12_trayed_17 rfl ?_
      obtain ⟨j18, h18, hE⟩ := bnd hE
      refine Wp.siald dc_X12_trayed_18 (mO13 (by decide)) h18 ?_
      refine Wp.if_ge (tgt := 26) dc_X12_trayed_19 (by decide) (fun hc19 => ?_) (fun hc19 => ?_)
      · rw [if_pos hc19] at hE
        refine Wp.iconst dc_X12_trayed_26 ic_0 ?_
        cases hE
        exact Wp.ireturn dc_X12_trayed_27 rfl rfl (Nat.le_refl _) (Nat.le_refl _) hK
      · rw [if_neg hc19] at hE
        refine Wp.iconst dc_X12_trayed_22 ic_3 ?_
        refine Wp.goto (tgt := 27) dc_X12_trayed_23 (by decide) ?_
        cases hE
        exact Wp.ireturn dc_X12_trayed_27 rfl rfl (Nat.le_refl _) (Nat.le_refl _) hK
    · rw [if_neg hc6] at hE
      exact ok_X12_trayed_j9   hE hK
theorem ok_X12_trayed  {σ : SS}  {x1 : Int32} {o}   (hE : X12_trayed  σ  x1 = some o) : Runs 0 0 0 mi_X12_trayed [vr 11 0, vi x1] (hp σ) (fun v h => v = some (vi o) ∧ h = hp σ) := by
  refine Runs.of pn_X12 (Nat.le_of_ble_eq_true rfl) ?_
  exact ok_X12_trayed_j0   hE ⟨rfl, rfl⟩
theorem ok_X12_placed_j28 {Q : Option AV → AH → Prop}  {σ : SS}   {o} {z0 z1 z2 z3 : Option AV}   (hE : X12_placed_j28  σ   = some o) (hK : Q (some (vi o)) (hp σ)) : Ws 1 mi_X12_placed Q 28 [z0, z1, z2, z3] [] σ := by
  unfold X12_placed_j28 at hE
  refine Wp.iconst dc_X12_placed_28 ic_4 ?_
  refine Wp.goto (tgt := 33) dc_X12_placed_29 (by decide) ?_
  cases hE
  exact Wp.ireturn dc_X12_placed_33 rfl rfl (Nat.le_refl _) (Nat.le_refl _) hK
theorem ok_X12_placed_j0 {Q : Option AV → AH → Prop}  {σ : SS}  {x1 : Int32} {x2 : Int32} {o} {z3 : Option AV}   (hE : X12_placed_j0  σ  x1 x2 = some o) (hK : Q (some (vi o)) (hp σ)) : Ws 1 mi_X12_placed Q 0 [some (vr 11 0), some (vi x1), some (vi x2), z3] [] σ := by
  unfold X12_placed_j0 at hE
  refine Wp.aload_n dc_X12_placed_0 rfl ?_
  refine Wp.iload_n dc_X12_placed_1 rfl ?_
  obtain ⟨v2, h2, hE⟩ := bnd hE
  refine Wp.cV1i (ok_X12_trayed  h2) dc_X12_placed_2 mw_X12_96 (mO11 (by decide)) (by decide) (Nat.le_of_ble_eq_true rfl) ?_
  refine Wp.istore_n dc_X12_placed_5 (by decide) ?_
  refine Wp.iload_n dc_X12_placed_6 rfl ?_
  refine Wp.if_le (tgt := 14) dc_X12_placed_7 (by decide) (fun hc7 => ?_) (fun hc7 => ?_)
  · rw [if_pos hc7] at hE
    refine Wp.iload_n dc_X12_placed_14 rfl ?_
    refine Wp.if_lt (tgt := 28) dc_X12_placed_15 (by decide) (fun hc15 => ?_) (fun hc15 => ?_)
    · rw [if_pos hc15] at hE
      exact ok_X12_placed_j28   hE hK
    · rw [if_neg hc15] at hE
      refine Wp.iload_n dc_X12_placed_18 rfl ?_
      refine Wp.aload_n dc_X12_placed_19 rfl ?_
      refine Wp.sgetR (t := 33) dc_X12_placed_20 fw_X12_17 (mO11 (by decide)) rfl ?_
      refine Wp.iload_n dc_X12_placed_23 rfl ?_
      obtain ⟨j24, h24, hE⟩ := bnd hE
      refine Wp.siald dc_X12_placed_24 (mO13 (by decide)) h24 ?_
      refine Wp.icmp_lt (tgt := 32) dc_X12_placed_25 (by decide) (fun hc25 => ?_) (fun hc25 => ?_)
      · rw [if_pos hc25] at hE
        refine Wp.iconst dc_X12_placed_32 ic_0 ?_
        cases hE
        exact Wp.ireturn dc_X12_placed_33 rfl rfl (Nat.le_refl _) (Nat.le_refl _) hK
      · rw [if_neg hc25] at hE
        exact ok_X12_placed_j28   hE hK
  · rw [if_neg hc7] at hE
    refine Wp.iload_n dc_X12_placed_10 rfl ?_
    refine Wp.goto (tgt := 33) dc_X12_placed_11 (by decide) ?_
    cases hE
    exact Wp.ireturn dc_X12_placed_33 rfl rfl (Nat.le_refl _) (Nat.le_refl _) hK
theorem ok_X12_placed  {σ : SS}  {x1 : Int32} {x2 : Int32} {o}   (hE : X12_placed  σ  x1 x2 = some o) : Runs 1 0 0 mi_X12_placed [vr 11 0, vi x1, vi x2] (hp σ) (fun v h => v = some (vi o) ∧ h = hp σ) := by
  refine Runs.of pn_X12 (Nat.le_of_ble_eq_true rfl) ?_
  exact ok_X12_placed_j0   hE ⟨rfl, rfl⟩
theorem ok_X12_write_j0 {Q : Option AV → AH → Prop}  {σ : SS}  {x1 : Int32} {x2 : Int32} {y3 : Int64} {o}    (hE : X12_write_j0  σ  x1 x2 y3 = some o) (hK : Q (some (vi o.1)) (hp o.2)) : Ws 2 mi_X12_write Q 0 [some (vr 11 0), some (vi x1), some (vi x2), some (vl y3), none] [] σ := by
  unfold X12_write_j0 at hE
  refine Wp.aload_n dc_X12_write_0 rfl ?_
  refine Wp.iconst dc_X12_write_1 ic_0 ?_
  refine Wp.sputI dc_X12_write_2 fw_X12_77 (mO11 (by decide)) (Nr.i _) ?_
  obtain ⟨σ2, es_2, hE⟩ := bnS hE
  rw [es_2]
  refine Wp.aload_n dc_X12_write_5 rfl ?_
  refine Wp.aload_n dc_X12_write_6 rfl ?_
  refine Wp.iload_n dc_X12_write_7 rfl ?_
  refine Wp.iload_n dc_X12_write_8 rfl ?_
  obtain ⟨v9, h9, hE⟩ := bnd hE
  refine Wp.cV2i (ok_X12_placed  h9) dc_X12_write_9 mw_X12_100 (mO11 (by decide)) (by decide) (Nat.le_of_ble_eq_true rfl) ?_
  refine Wp.sputI dc_X12_write_12 fw_X12_80 (mO11 (by decide)) (Nr.i _) ?_
  obtain ⟨σ12, es_12, hE⟩ := bnS hE
  rw [es_12]
  refine Wp.aload_n dc_X12_write_15 rfl ?_
  refine Wp.sgetI dc_X12_write_16 fw_X12_80 (mO11 (by decide)) ?_
  refine Wp.if_le (tgt := 24) dc_X12_write_19 (by decide) (fun hc19 => ?_) (fun hc19 => ?_)
  · rw [if_pos hc19] at hE
    refine Wp.aload_n dc_X12_write_24 rfl ?_
    refine Wp.sgetR (t := 6) dc_X12_write_25 fw_X12_20 (mO11 (by decide)) rfl ?_
    refine Wp.bipush dc_X12_write_28 bp_60 ?_
    refine Wp.iload_n dc_X12_write_30 rfl ?_
    refine Wp.imul dc_X12_write_31 ?_
    refine Wp.iload_n dc_X12_write_32 rfl ?_
    refine Wp.iadd dc_X12_write_33 ?_
    refine Wp.aload_n dc_X12_write_34 rfl ?_
    refine Wp.sgetR (t := 32) dc_X12_write_35 fw_X12_13 (mO11 (by decide)) rfl ?_
    refine Wp.iload_n dc_X12_write_38 rfl ?_
    obtain ⟨j39, h39, hE⟩ := bnd hE
    refine Wp.siald dc_X12_write_39 (mO13 (by decide)) h39 ?_
    refine Wp.lload_n dc_X12_write_40 rfl ?_
    obtain ⟨v41, h41, hE⟩ := bnd hE
    refine Wp.cS2l (ok_X12_cut  h41) dc_X12_write_41 mw_X12_104 (by decide) (Nat.le_of_ble_eq_true rfl) ?_
    obtain ⟨j44, h44, hE⟩ := bnd hE
    refine Wp.slast dc_X12_write_44 (mO14 (by decide)) h44 ?_
    obtain ⟨σ44, es_44, hE⟩ := bnS hE
    rw [es_44]
    refine Wp.iconst dc_X12_write_45 ic_1 ?_
    cases hE
    exact Wp.ireturn dc_X12_write_46 rfl Nr.z1.1 (Nat.le_refl _) (Nat.le_refl _) hK
  · rw [if_neg hc19] at hE
    refine Wp.iconst dc_X12_write_22 ic_0 ?_
    cases hE
    exact Wp.ireturn dc_X12_write_23 rfl Nr.z0.1 (Nat.le_refl _) (Nat.le_refl _) hK
theorem ok_X12_write  {σ : SS}  {x1 : Int32} {x2 : Int32} {y3 : Int64} {o}   (hE : X12_write  σ  x1 x2 y3 = some o) : Runs 2 0 0 mi_X12_write [vr 11 0, vi x1, vi x2, vl y3] (hp σ) (fun v h => v = some (vi o.1) ∧ h = hp o.2) := by
  refine Runs.of pn_X12 (Nat.le_of_ble_eq_true rfl) ?_
  exact ok_X12_write_j0   hE ⟨rfl, rfl⟩
theorem ok_X12_read_j0 {Q : Option AV → AH → Prop}  {σ : SS}  {x1 : Int32} {x2 : Int32} {o}    (hE : X12_read_j0  σ  x1 x2 = some o) (hK : Q (some (vl o.1)) (hp o.2)) : Ws 2 mi_X12_read Q 0 [some (vr 11 0), some (vi x1), some (vi x2)] [] σ := by
  unfold X12_read_j0 at hE
  refine Wp.aload_n dc_X12_read_0 rfl ?_
  refine Wp.iconst dc_X12_read_1 ic_0 ?_
  refine Wp.sputI dc_X12_read_2 fw_X12_77 (mO11 (by decide)) (Nr.i _) ?_
  obtain ⟨σ2, es_2, hE⟩ := bnS hE
  rw [es_2]
  refine Wp.aload_n dc_X12_read_5 rfl ?_
  refine Wp.aload_n dc_X12_read_6 rfl ?_
  refine Wp.iload_n dc_X12_read_7 rfl ?_
  refine Wp.iload_n dc_X12_read_8 rfl ?_
  obtain ⟨v9, h9, hE⟩ := bnd hE
  refine Wp.cV2i (ok_X12_placed  h9) dc_X12_read_9 mw_X12_100 (mO11 (by decide)) (by decide) (Nat.le_of_ble_eq_true rfl) ?_
  refine Wp.sputI dc_X12_read_12 fw_X12_80 (mO11 (by decide)) (Nr.i _) ?_
  obtain ⟨σ12, es_12, hE⟩ := bnS hE
  rw [es_12]
  refine Wp.aload_n dc_X12_read_15 rfl ?_
  refine Wp.sgetI dc_X12_read_16 fw_X12_80 (mO11 (by decide)) ?_
  refine Wp.if_le (tgt := 28) dc_X12_read_19 (by decide) (fun hc19 => ?_) (fun hc19 => ?_)
  · rw [if_pos hc19] at hE
    refine Wp.aload_n dc_X12_read_28 rfl ?_
    refine Wp.sgetR (t := 6) dc_X12_read_29 fw_X12_20 (mO11 (by decide)) rfl ?_
    refine Wp.bipush dc_X12_read_32 bp_60 ?_
    refine Wp.iload_n dc_X12_read_34 rfl ?_
    refine Wp.imul dc_X12_read_35 ?_
    refine Wp.iload_n dc_X12_read_36 rfl ?_
    refine Wp.iadd dc_X12_read_37 ?_
    obtain ⟨j38, h38, hE⟩ := bnd hE
    refine Wp.slald dc_X12_read_38 (mO14 (by decide)) h38 ?_
    cases hE
    exact Wp.lreturn dc_X12_read_39 rfl (Nat.le_refl _) (Nat.le_refl _) hK
  · rw [if_neg hc19] at hE
    refine Wp.ldc2 dc_X12_read_22 kw_X12_108 ?_
    refine Wp.goto (tgt := 39) dc_X12_read_25 (by decide) ?_
    cases hE
    exact Wp.lreturn dc_X12_read_39 rfl (Nat.le_refl _) (Nat.le_refl _) hK
theorem ok_X12_read  {σ : SS}  {x1 : Int32} {x2 : Int32} {o}   (hE : X12_read  σ  x1 x2 = some o) : Runs 2 0 0 mi_X12_read [vr 11 0, vi x1, vi x2] (hp σ) (fun v h => v = some (vl o.1) ∧ h = hp o.2) := by
  refine Runs.of pn_X12 (Nat.le_of_ble_eq_true rfl) ?_
  exact ok_X12_read_j0   hE ⟨rfl, rfl⟩
theorem ok_X12_pour_j28 {Q : Option AV → AH → Prop}  {σ : SS}   {o} {z1 z2 z3 z4 z5 z6 z7 z8 : Option AV}   (hE : X12_pour_j28  σ   = some o) (hK : Q (some (vi o.1)) (hp o.2)) : Ws 1 mi_X12_pour Q 28 [some (vr 11 0), z1, z2, z3, z4, z5, z6, z7, z8] [] σ := by
  unfold X12_pour_j28 at hE
  refine Wp.aload_n dc_X12_pour_28 rfl ?_
  refine Wp.iconst dc_X12_pour_29 ic_1 ?_
  obtain ⟨p30, h30, hE⟩ := bnd hE
  refine Wp.cV1i (ok_X12_no  h30) dc_X12_pour_30 mw_X12_92 (mO11 (by decide)) (by decide) (Nat.le_of_ble_eq_true rfl) ?_
  obtain ⟨b33, h33, hE⟩ := bnd hE
  obtain ⟨e_33, hb33⟩ := zb_some h33
  skip
  cases hE
  exact Wp.ireturn dc_X12_pour_33 rfl hb33.1 (Nat.le_refl _) (Nat.le_refl _) hK
theorem ok_X12_pour_j52 {Q : Option AV → AH → Prop}  {σ : SS}   {o} {z1 z2 z3 z4 z5 z6 z7 z8 : Option AV}   (hE : X12_pour_j52  σ   = some o) (hK : Q (some (vi o.1)) (hp o.2)) : Ws 1 mi_X12_pour Q 52 [some (vr 11 0), z1, z2, z3, z4, z5, z6, z7, z8] [] σ := by
  unfold X12_pour_j52 at hE
  refine Wp.aload_n dc_X12_pour_52 rfl ?_
  refine Wp.iconst dc_X12_pour_53 ic_3 ?_
  obtain ⟨p54, h54, hE⟩ := bnd hE
  refine Wp.cV1i (ok_X12_no  h54) dc_X12_pour_54 mw_X12_92 (mO11 (by decide)) (by decide) (Nat.le_of_ble_eq_true rfl) ?_
  obtain ⟨b57, h57, hE⟩ := bnd hE
  obtain ⟨e_57, hb57⟩ := zb_some h57
  skip
  cases hE
  exact Wp.ireturn dc_X12_pour_57 rfl hb57.1 (Nat.le_refl _) (Nat.le_refl _) hK
theorem ok_X12_pour_j136 {Q : Option AV → AH → Prop}  {σ : SS}   {o} {z1 z2 z3 z4 z5 z6 z7 z8 : Option AV}   (hE : X12_pour_j136  σ   = some o) (hK : Q (some (vi o.1)) (hp o.2)) : Ws 1 mi_X12_pour Q 136 [some (vr 11 0), z1, z2, z3, z4, z5, z6, z7, z8] [] σ := by
  unfold X12_pour_j136 at hE
  refine Wp.aload_n dc_X12_pour_136 rfl ?_
  refine Wp.iconst dc_X12_pour_137 ic_4 ?_
  obtain ⟨p138, h138, hE⟩ := bnd hE
  refine Wp.cV1i (ok_X12_no  h138) dc_X12_pour_138 mw_X12_92 (mO11 (by decide)) (by decide) (Nat.le_of_ble_eq_true rfl) ?_
  obtain ⟨b141, h141, hE⟩ := bnd hE
  obtain ⟨e_141, hb141⟩ := zb_some h141
  skip
  cases hE
  exact Wp.ireturn dc_X12_pour_141 rfl hb141.1 (Nat.le_refl _) (Nat.le_refl _) hK
def X12_pour_P158 (Q : Option AV → AH → Prop)   (x1 : Int32) (x2 : Int32) (x3 : Int32) (x4 : Int32) (x5 : Int32) (x6 : Int32) (ss : Int32 × SS) : Prop := ∀ z8 : Option AV, Ws 1 mi_X12_pour Q 158 [some (vr 11 0), some (vi x1), some (vi x2), some (vi x3), some (vi x4), some (vi x5), some (vi x6), some (vi ss.1), z8] [] ss.2
def X12_pour_R158 (Q : Option AV → AH → Prop)   (x1 : Int32) (x2 : Int32) (x3 : Int32) (x4 : Int32) (x5 : Int32) (x6 : Int32) (tt : SS) : Prop := ∀ z0 z1 z2 z3 z4 z5 z6 z7 z8 : Option AV, Ws 1 mi_X12_pour Q 219 [z0, z1, z2, z3, z4, z5, z6, z7, z8] [] tt
theorem ok_X12_pour_j182 {Q : Option AV → AH → Prop}  {σ : SS}  {x1 : Int32} {x2 : Int32} {x3 : Int32} {x4 : Int32} {x5 : Int32} {x6 : Int32} {x7 : Int32} {s0 : Int32} {o} {z8 : Option AV}   (hE : X12_pour_j182  σ  x1 x2 x3 x4 x5 x6 x7 s0 = some o) (hS : ∀ ss, o = Sum.inl ss → (X12_pour_P158  Q   x1 x2 x3 x4 x5 x6) ss) (hT : ∀ tt, o = Sum.inr tt → (X12_pour_R158  Q   x1 x2 x3 x4 x5 x6) tt) : Ws 1 mi_X12_pour Q 182 [some (vr 11 0), some (vi x1), some (vi x2), some (vi x3), some (vi x4), some (vi x5), some (vi x6), some (vi x7), z8] [vi s0] σ := by
  unfold X12_pour_j182 at hE
  refine Wp.istore dc_X12_pour_182 (by decide) ?_
  refine Wp.aload_n dc_X12_pour_184 rfl ?_
  refine Wp.sgetR (t := 6) dc_X12_pour_185 fw_X12_20 (mO11 (by decide)) rfl ?_
  refine Wp.bipush dc_X12_pour_188 bp_60 ?_
  refine Wp.iload_n dc_X12_pour_190 rfl ?_
  refine Wp.imul dc_X12_pour_191 ?_
  refine Wp.iload dc_X12_pour_192 rfl ?_
  refine Wp.iadd dc_X12_pour_194 ?_
  refine Wp.iload dc_X12_pour_195 rfl ?_
  refine Wp.iadd dc_X12_pour_197 ?_
  refine Wp.aload_n dc_X12_pour_198 rfl ?_
  refine Wp.sgetR (t := 6) dc_X12_pour_199 fw_X12_20 (mO11 (by decide)) rfl ?_
  refine Wp.bipush dc_X12_pour_202 bp_60 ?_
  refine Wp.iload_n dc_X12_pour_204 rfl ?_
  refine Wp.imul dc_X12_pour_205 ?_
  refine Wp.iload_n dc_X12_pour_206 rfl ?_
  refine Wp.iadd dc_X12_pour_207 ?_
  refine Wp.iload dc_X12_pour_208 rfl ?_
  refine Wp.iadd dc_X12_pour_210 ?_
  obtain ⟨j211, h211, hE⟩ := bnd hE
  refine Wp.slald dc_X12_pour_211 (mO14 (by decide)) h211 ?_
  obtain ⟨j212, h212, hE⟩ := bnd hE
  refine Wp.slast dc_X12_pour_212 (mO14 (by decide)) h212 ?_
  obtain ⟨σ212, es_212, hE⟩ := bnS hE
  rw [es_212]
  obtain ⟨x7_213, e_213, hE⟩ := bnS hE
  refine Wp.iinc dc_X12_pour_213 rfl ((ii ic_1).trans e_213) (by decide) ?_
  refine Wp.goto (tgt := 158) dc_X12_pour_216 (by decide) ?_
  cases hE
  exact hS _ rfl _
theorem ok_X12_pour_l158c {Q : Option AV → AH → Prop}  {σ : SS}  {x1 : Int32} {x2 : Int32} {x3 : Int32} {x4 : Int32} {x5 : Int32} {x6 : Int32} {x7 : Int32} {o} {z8 : Option AV}   (hE : X12_pour_l158c  σ  x1 x2 x3 x4 x5 x6 x7 = some o) (hS : ∀ ss, o = Sum.inl ss → (X12_pour_P158  Q   x1 x2 x3 x4 x5 x6) ss) (hT : ∀ tt, o = Sum.inr tt → (X12_pour_R158  Q   x1 x2 x3 x4 x5 x6) tt) : Ws 1 mi_X12_pour Q 158 [some (vr 11 0), some (vi x1), some (vi x2), some (vi x3), some (vi x4), some (vi x5), some (vi x6), some (vi x7), z8] [] σ := by
  unfold X12_pour_l158c at hE
  refine Wp.iload dc_X12_pour_158 rfl ?_
  refine Wp.iload dc_X12_pour_160 rfl ?_
  refine Wp.icmp_ge (tgt := 219) dc_X12_pour_162 (by decide) (fun hc162 => ?_) (fun hc162 => ?_)
  · rw [if_pos hc162] at hE
    cases hE
    exact hT _ rfl _ _ _ _ _ _ _ _ _
  · rw [if_neg hc162] at hE
    refine Wp.iload dc_X12_pour_165 rfl ?_
    refine Wp.if_eq (tgt := 180) dc_X12_pour_167 (by decide) (fun hc167 => ?_) (fun hc167 => ?_)
    · rw [if_pos hc167] at hE
      refine Wp.iload dc_X12_pour_180 rfl ?_
      exact ok_X12_pour_j182   hE hS hT
    · rw [if_neg hc167] at hE
      refine Wp.iload dc_X12_pour_170 rfl ?_
      refine Wp.iconst dc_X12_pour_172 ic_1 ?_
      refine Wp.isub dc_X12_pour_173 ?_
      refine Wp.iload dc_X12_pour_174 rfl ?_
      refine Wp.isub dc_X12_pour_176 ?_
      refine Wp.goto (tgt := 182) dc_X12_pour_177 (by decide) ?_
      exact ok_X12_pour_j182   hE hS hT
theorem ok_X12_pour_l158 {Q : Option AV → AH → Prop}  {σ : SS}  {x1 : Int32} {x2 : Int32} {x3 : Int32} {x4 : Int32} {x5 : Int32} {x6 : Int32} {x7 : Int32} {o} {z8 : Option AV}   (hE : X12_pour_l158  σ  x1 x2 x3 x4 x5 x6 x7 = some o) (hK : Q (some (vi o.1)) (hp o.2)) : Ws 1 mi_X12_pour Q 158 [some (vr 11 0), some (vi x1), some (vi x2), some (vi x3), some (vi x4), some (vi x5), some (vi x6), some (vi x7), z8] [] σ := by
  unfold X12_pour_l158 at hE
  obtain ⟨t158, h1, hE⟩ := bnd hE
  refine iter_ok (P := (X12_pour_P158  Q   x1 x2 x3 x4 x5 x6)) (R := (X12_pour_R158  Q   x1 x2 x3 x4 x5 x6)) (fun ss o h2 hS hT => ?_) NF _ _ h1 ?_ _
  · intro z8
    exact ok_X12_pour_l158c   h2 hS hT
  · intro z0 z1 z2 z3 z4 z5 z6 z7 z8
    show Ws 1 mi_X12_pour Q 219 [z0, z1, z2, z3, z4, z5, z6, z7, z8] [] t158
    refine Wp.iconst dc_X12_pour_219 ic_1 ?_
    cases hE
    exact Wp.ireturn dc_X12_pour_220 rfl Nr.z1.1 (Nat.le_refl _) (Nat.le_refl _) hK
theorem ok_X12_pour_j153 {Q : Option AV → AH → Prop}  {σ : SS}  {x1 : Int32} {x2 : Int32} {x3 : Int32} {x4 : Int32} {x5 : Int32} {s0 : Int32} {o} {z6 z7 z8 : Option AV}   (hE : X12_pour_j153  σ  x1 x2 x3 x4 x5 s0 = some o) (hK : Q (some (vi o.1)) (hp o.2)) : Ws 1 mi_X12_pour Q 153 [some (vr 11 0), some (vi x1), some (vi x2), some (vi x3), some (vi x4), some (vi x5), z6, z7, z8] [vi s0] σ := by
  unfold X12_pour_j153 at hE
  refine Wp.istore dc_X12_pour_153 (by decide) ?_
  refine Wp.iconst dc_X12_pour_155 ic_0 ?_
  refine Wp.istore dc_X12_pour_156 (by decide) ?_
  exact ok_X12_pour_l158   hE hK
theorem ok_X12_pour_j0 {Q : Option AV → AH → Prop}  {σ : SS}  {x1 : Int32} {x2 : Int32} {x3 : Int32} {x4 : Int32} {x5 : Int32} {o} {z6 z7 z8 : Option AV}   (hE : X12_pour_j0  σ  x1 x2 x3 x4 x5 = some o) (hK : Q (some (vi o.1)) (hp o.2)) : Ws 1 mi_X12_pour Q 0 [some (vr 11 0), some (vi x1), some (vi x2), some (vi x3), some (vi x4), some (vi x5), z6, z7, z8] [] σ := by
  unfold X12_pour_j0 at hE
  refine Wp.aload_n dc_X12_pour_0 rfl ?_
  refine Wp.iconst dc_X12_pour_1 ic_0 ?_
  refine Wp.sputI dc_X12_pour_2 fw_X12_77 (mO11 (by decide)) (Nr.i _) ?_
  obtain ⟨σ2, es_2, hE⟩ := bnS hE
  rw [es_2]
  refine Wp.aload_n dc_X12_pour_5 rfl ?_
  refine Wp.iconst dc_X12_pour_6 ic_0 ?_
  refine Wp.sputI dc_X12_pour_7 fw_X12_80 (mO11 (by decide)) (Nr.i _) ?_
  obtain ⟨σ7, es_7, hE⟩ := bnS hE
  rw [es_7]
  refine Wp.iload_n dc_X12_pour_10 rfl ?_
  refine Wp.if_lt (tgt := 28) dc_X12_pour_11 (by decide) (fun hc11 => ?_) (fun hc11 => ?_)
  · rw [if_pos hc11] at hE
    exact ok_X12_pour_j28   hE hK
  · rw [if_neg hc11] at hE
    refine Wp.iload_n dc_X12_pour_14 rfl ?_
    refine Wp.iconst dc_X12_pour_15 ic_4 ?_
    refine Wp.icmp_ge (tgt := 28) dc_X12_pour_16 (by decide) (fun hc16 => ?_) (fun hc16 => ?_)
    · rw [if_pos hc16] at hE
      exact ok_X12_pour_j28   hE hK
    · rw [if_neg hc16] at hE
      refine Wp.iload_n dc_X12_pour_19 rfl ?_
      refine Wp.if_lt (tgt := 28) dc_X12_pour_20 (by decide) (fun hc20 => ?_) (fun hc20 => ?_)
      · rw [if_pos hc20] at hE
        exact ok_X12_pour_j28   hE hK
      · rw [if_neg hc20] at hE
        refine Wp.iload_n dc_X12_pour_23 rfl ?_
        refine Wp.iconst dc_X12_pour_24 ic_4 ?_
        refine Wp.icmp_lt (tgt := 34) dc_X12_pour_25 (by decide) (fun hc25 => ?_) (fun hc25 => ?_)
        · rw [if_pos hc25] at hE
          refine Wp.aload_n dc_X12_pour_34 rfl ?_
          refine Wp.sgetR (t := 33) dc_X12_pour_35 fw_X12_17 (mO11 (by decide)) rfl ?_
          refine Wp.iload_n dc_X12_pour_38 rfl ?_
          obtain ⟨j39, h39, hE⟩ := bnd hE
          refine Wp.siald dc_X12_pour_39 (mO13 (by decide)) h39 ?_
          refine Wp.if_lt (tgt := 52) dc_X12_pour_40 (by decide) (fun hc40 => ?_) (fun hc40 => ?_)
          · rw [if_pos hc40] at hE
            exact ok_X12_pour_j52   hE hK
          · rw [if_neg hc40] at hE
            refine Wp.aload_n dc_X12_pour_43 rfl ?_
            refine Wp.sgetR (t := 33) dc_X12_pour_44 fw_X12_17 (mO11 (by decide)) rfl ?_
            refine Wp.iload_n dc_X12_pour_47 rfl ?_
            obtain ⟨j48, h48, hE⟩ := bnd hE
            refine Wp.siald dc_X12_pour_48 (mO13 (by decide)) h48 ?_
            refine Wp.if_ge (tgt := 58) dc_X12_pour_49 (by decide) (fun hc49 => ?_) (fun hc49 => ?_)
            · rw [if_pos hc49] at hE
              refine Wp.aload_n dc_X12_pour_58 rfl ?_
              refine Wp.sgetR (t := 32) dc_X12_pour_59 fw_X12_13 (mO11 (by decide)) rfl ?_
              refine Wp.iload_n dc_X12_pour_62 rfl ?_
              obtain ⟨j63, h63, hE⟩ := bnd hE
              refine Wp.siald dc_X12_pour_63 (mO13 (by decide)) h63 ?_
              refine Wp.aload_n dc_X12_pour_64 rfl ?_
              refine Wp.sgetR (t := 32) dc_X12_pour_65 fw_X12_13 (mO11 (by decide)) rfl ?_
              refine Wp.iload_n dc_X12_pour_68 rfl ?_
              obtain ⟨j69, h69, hE⟩ := bnd hE
              refine Wp.siald dc_X12_pour_69 (mO13 (by decide)) h69 ?_
              refine Wp.icmp_eq (tgt := 80) dc_X12_pour_70 (by decide) (fun hc70 => ?_) (fun hc70 => ?_)
              · rw [if_pos hc70] at hE
                refine Wp.iload dc_X12_pour_80 rfl ?_
                refine Wp.if_ge (tgt := 92) dc_X12_pour_82 (by decide) (fun hc82 => ?_) (fun hc82 => ?_)
                · rw [if_pos hc82] at hE
                  refine Wp.iload_n dc_X12_pour_92 rfl ?_
                  refine Wp.if_lt (tgt := 136) dc_X12_pour_93 (by decide) (fun hc93 => ?_) (fun hc93 => ?_)
                  · rw [if_pos hc93] at hE
                    exact ok_X12_pour_j136   hE hK
                  · rw [if_neg hc93] at hE
                    refine Wp.iload dc_X12_pour_96 rfl ?_
                    refine Wp.if_lt (tgt := 136) dc_X12_pour_98 (by decide) (fun hc98 => ?_) (fun hc98 => ?_)
                    · rw [if_pos hc98] at hE
                      exact ok_X12_pour_j136   hE hK
                    · rw [if_neg hc98] at hE
                      refine Wp.iload_n dc_X12_pour_101 rfl ?_
                      refine Wp.i2l dc_X12_pour_102 ?_
                      refine Wp.iload dc_X12_pour_103 rfl ?_
                      refine Wp.i2l dc_X12_pour_105 ?_
                      refine Wp.ladd dc_X12_pour_106 ?_
                      refine Wp.aload_n dc_X12_pour_107 rfl ?_
                      refine Wp.sgetR (t := 33) dc_X12_pour_108 fw_X12_17 (mO11 (by decide)) rfl ?_
                      refine Wp.iload_n dc_X12_pour_111 rfl ?_
                      obtain ⟨j112, h112, hE⟩ := bnd hE
                      refine Wp.siald dc_X12_pour_112 (mO13 (by decide)) h112 ?_
                      refine Wp.i2l dc_X12_pour_113 ?_
                      refine Wp.lcmp dc_X12_pour_114 ?_
                      refine Wp.if_gt (tgt := 136) dc_X12_pour_115 (by decide) (fun hc115 => ?_) (fun hc115 => ?_)
                      · rw [if_pos hc115] at hE
                        exact ok_X12_pour_j136   hE hK
                      · rw [if_neg hc115] at hE
                        refine Wp.iload dc_X12_pour_118 rfl ?_
                        refine Wp.i2l dc_X12_pour_120 ?_
                        refine Wp.iload dc_X12_pour_121 rfl ?_
                        refine Wp.i2l dc_X12_pour_123 ?_
                        refine Wp.ladd dc_X12_pour_124 ?_
                        refine Wp.aload_n dc_X12_pour_125 rfl ?_
                        refine Wp.sgetR (t := 33) dc_X12_pour_126 fw_X12_17 (mO11 (by decide)) rfl ?_
                        refine Wp.iload_n dc_X12_pour_129 rfl ?_
                        obtain ⟨j130, h130, hE⟩ := bnd hE
                        refine Wp.siald dc_X12_pour_130 (mO13 (by decide)) h130 ?_
                        refine Wp.i2l dc_X12_pour_131 ?_
                        refine Wp.lcmp dc_X12_pour_132 ?_
                        refine Wp.if_le (tgt := 142) dc_X12_pour_133 (by decide) (fun hc133 => ?_) (fun hc133 => ?_)
                        · rw [if_pos hc133] at hE
                          refine Wp.iload_n dc_X12_pour_142 rfl ?_
                          refine Wp.iload dc_X12_pour_143 rfl ?_
                          refine Wp.icmp_ge (tgt := 152) dc_X12_pour_145 (by decide) (fun hc145 => ?_) (fun hc145 => ?_)
                          · rw [if_pos hc145] at hE
                            refine Wp.iconst dc_X12_pour_152 ic_0 ?_
                            exact ok_X12_pour_j153   hE hK
                          · rw [if_neg hc145] at hE
                            refine Wp.iconst dc_X12_pour_148 ic_1 ?_
                            refine Wp.goto (tgt := 153) dc_X12_pour_149 (by decide) ?_
                            exact ok_X12_pour_j153   hE hK
                        · rw [if_neg hc133] at hE
                          exact ok_X12_pour_j136   hE hK
                · rw [if_neg hc82] at hE
                  refine Wp.aload_n dc_X12_pour_85 rfl ?_
                  refine Wp.bipush dc_X12_pour_86 bp_6 ?_
                  obtain ⟨p88, h88, hE⟩ := bnd hE
                  refine Wp.cV1i (ok_X12_no  h88) dc_X12_pour_88 mw_X12_92 (mO11 (by decide)) (by decide) (Nat.le_of_ble_eq_true rfl) ?_
                  obtain ⟨b91, h91, hE⟩ := bnd hE
                  obtain ⟨e_91, hb91⟩ := zb_some h91
                  skip
                  cases hE
                  exact Wp.ireturn dc_X12_pour_91 rfl hb91.1 (Nat.le_refl _) (Nat.le_refl _) hK
              · rw [if_neg hc70] at hE
                refine Wp.aload_n dc_X12_pour_73 rfl ?_
                refine Wp.bipush dc_X12_pour_74 bp_11 ?_
                obtain ⟨p76, h76, hE⟩ := bnd hE
                refine Wp.cV1i (ok_X12_no  h76) dc_X12_pour_76 mw_X12_92 (mO11 (by decide)) (by decide) (Nat.le_of_ble_eq_true rfl) ?_
                obtain ⟨b79, h79, hE⟩ := bnd hE
                obtain ⟨e_79, hb79⟩ := zb_some h79
                skip
                cases hE
                exact Wp.ireturn dc_X12_pour_79 rfl hb79.1 (Nat.le_refl _) (Nat.le_refl _) hK
            · rw [if_neg hc49] at hE
              exact ok_X12_pour_j52   hE hK
        · rw [if_neg hc25] at hE
          exact ok_X12_pour_j28   hE hK
theorem ok_X12_pour  {σ : SS}  {x1 : Int32} {x2 : Int32} {x3 : Int32} {x4 : Int32} {x5 : Int32} {o}   (hE : X12_pour  σ  x1 x2 x3 x4 x5 = some o) : Runs 1 0 0 mi_X12_pour [vr 11 0, vi x1, vi x2, vi x3, vi x4, vi x5] (hp σ) (fun v h => v = some (vi o.1) ∧ h = hp o.2) := by
  refine Runs.of pn_X12 (Nat.le_of_ble_eq_true rfl) ?_
  exact ok_X12_pour_j0   hE ⟨rfl, rfl⟩
theorem ok_X12_isTray_j0 {Q : Option AV → AH → Prop}  {σ : SS}  {x1 : Int32} {o} {z0 : Option AV}   (hE : X12_isTray_j0  σ  x1 = some o) (hK : Q (some (vi o)) (hp σ)) : Ws 1 mi_X12_isTray Q 0 [z0, some (vi x1)] [] σ := by
  unfold X12_isTray_j0 at hE
  refine Wp.iload_n dc_X12_isTray_0 rfl ?_
  refine Wp.i2l dc_X12_isTray_1 ?_
  refine Wp.lconst dc_X12_isTray_2 lc_0 ?_
  refine Wp.ldc2 dc_X12_isTray_3 kw_X12_110 ?_
  obtain ⟨v6, h6, hE⟩ := bnd hE
  refine Wp.cS3i (ok_X12_isIn  h6) dc_X12_isTray_6 mw_X12_112 (by decide) (Nat.le_of_ble_eq_true rfl) ?_
  obtain ⟨b9, h9, hE⟩ := bnd hE
  obtain ⟨e_9, hb9⟩ := zb_some h9
  skip
  cases hE
  exact Wp.ireturn dc_X12_isTray_9 rfl hb9.1 (Nat.le_refl _) (Nat.le_refl _) hK
theorem ok_X12_isTray  {σ : SS}  {x1 : Int32} {o}   (hE : X12_isTray  σ  x1 = some o) : Runs 1 0 0 mi_X12_isTray [vr 11 0, vi x1] (hp σ) (fun v h => v = some (vi o) ∧ h = hp σ) := by
  refine Runs.of pn_X12 (Nat.le_of_ble_eq_true rfl) ?_
  exact ok_X12_isTray_j0   hE ⟨rfl, rfl⟩
theorem ok_X12_has_j0 {Q : Option AV → AH → Prop}  {σ : SS}  {x0 : Int32} {x1 : Int32} {o}    (hE : X12_has_j0  σ  x0 x1 = some o) (hK : Q (some (vi o)) (hp σ)) : Ws 0 mi_X12_has Q 0 [some (vi x0), some (vi x1)] [] σ := by
  unfold X12_has_j0 at hE
  refine Wp.iload_n dc_X12_has_0 rfl ?_
  refine Wp.iload_n dc_X12_has_1 rfl ?_
  refine Wp.ishr dc_X12_has_2 ?_
  refine Wp.iconst dc_X12_has_3 ic_1 ?_
  refine Wp.iand dc_X12_has_4 ?_
  refine Wp.iconst dc_X12_has_5 ic_1 ?_
  refine Wp.icmp_ne (tgt := 13) dc_X12_has_6 (by decide) (fun hc6 => ?_) (fun hc6 => ?_)
  · rw [if_neg hc6] at hE
    refine Wp.iconst dc_X12_has_13 ic_0 ?_
    cases hE
    exact Wp.ireturn dc_X12_has_14 rfl Nr.z0.1 (Nat.le_refl _) (Nat.le_refl _) hK
  · rw [if_pos hc6] at hE
    refine Wp.iconst dc_X12_has_9 ic_1 ?_
    refine Wp.goto (tgt := 14) dc_X12_has_10 (by decide) ?_
    cases hE
    exact Wp.ireturn dc_X12_has_14 rfl Nr.z1.1 (Nat.le_refl _) (Nat.le_refl _) hK
theorem ok_X12_has  {σ : SS}  {x0 : Int32} {x1 : Int32} {o}   (hE : X12_has  σ  x0 x1 = some o) : Runs 0 0 0 mi_X12_has [vi x0, vi x1] (hp σ) (fun v h => v = some (vi o) ∧ h = hp σ) := by
  refine Runs.of pn_X12 (Nat.le_of_ble_eq_true rfl) ?_
  exact ok_X12_has_j0   hE ⟨rfl, rfl⟩
def X12_sizeOf_P4 (Q : Option AV → AH → Prop) (σ : SS)  (x0 : Int32) (ss : Int32 × Int32) : Prop := Ws 1 mi_X12_sizeOf Q 4 [some (vi x0), some (vi ss.1), some (vi ss.2)] [] σ
def X12_sizeOf_R4 (Q : Option AV → AH → Prop) (σ : SS)  (x0 : Int32) (tt : Int32) : Prop := ∀ z0 z2 : Option AV, Ws 1 mi_X12_sizeOf Q 32 [z0, some (vi tt), z2] [] σ
theorem ok_X12_sizeOf_j24 {Q : Option AV → AH → Prop}  {σ : SS}  {x0 : Int32} {x2 : Int32} {s0 : Int32} {s1 : Int32} {o} {z1 : Option AV}   (hE : X12_sizeOf_j24  σ  x0 x2 s0 s1 = some o) (hS : ∀ ss, o = Sum.inl ss → (X12_sizeOf_P4  Q σ  x0) ss) (hT : ∀ tt, o = Sum.inr tt → (X12_sizeOf_R4  Q σ  x0) tt) : Ws 1 mi_X12_sizeOf Q 24 [some (vi x0), z1, some (vi x2)] [vi s1, vi s0] σ := by
  unfold X12_sizeOf_j24 at hE
  refine Wp.iadd dc_X12_sizeOf_24 ?_
  obtain ⟨x1_25, e_25, hE⟩ := bnS hE
  rw [e_25]
  refine Wp.istore_n dc_X12_sizeOf_25 (by decide) ?_
  obtain ⟨x2_26, e_26, hE⟩ := bnS hE
  refine Wp.iinc dc_X12_sizeOf_26 rfl ((ii ic_1).trans e_26) (by decide) ?_
  refine Wp.goto (tgt := 4) dc_X12_sizeOf_29 (by decide) ?_
  cases hE
  exact hS _ rfl
theorem ok_X12_sizeOf_l4c {Q : Option AV → AH → Prop}  {σ : SS}  {x0 : Int32} {x1 : Int32} {x2 : Int32} {o}    (hE : X12_sizeOf_l4c  σ  x0 x1 x2 = some o) (hS : ∀ ss, o = Sum.inl ss → (X12_sizeOf_P4  Q σ  x0) ss) (hT : ∀ tt, o = Sum.inr tt → (X12_sizeOf_R4  Q σ  x0) tt) : Ws 1 mi_X12_sizeOf Q 4 [some (vi x0), some (vi x1), some (vi x2)] [] σ := by
  unfold X12_sizeOf_l4c at hE
  refine Wp.iload_n dc_X12_sizeOf_4 rfl ?_
  refine Wp.bipush dc_X12_sizeOf_5 bp_8 ?_
  refine Wp.icmp_ge (tgt := 32) dc_X12_sizeOf_7 (by decide) (fun hc7 => ?_) (fun hc7 => ?_)
  · rw [if_pos hc7] at hE
    cases hE
    exact hT _ rfl _ _
  · rw [if_neg hc7] at hE
    refine Wp.iload_n dc_X12_sizeOf_10 rfl ?_
    refine Wp.iload_n dc_X12_sizeOf_11 rfl ?_
    refine Wp.iload_n dc_X12_sizeOf_12 rfl ?_
    obtain ⟨v13, h13, hE⟩ := bnd hE
    refine Wp.cS2i (ok_X12_has  h13) dc_X12_sizeOf_13 mw_X12_116 (by decide) (Nat.le_of_ble_eq_true rfl) ?_
    refine Wp.if_eq (tgt := 23) dc_X12_sizeOf_16 (by decide) (fun hc16 => ?_) (fun hc16 => ?_)
    · rw [if_pos hc16] at hE
      refine Wp.iconst dc_X12_sizeOf_23 ic_0 ?_
      exact ok_X12_sizeOf_j24   hE hS hT
    · rw [if_neg hc16] at hE
      refine Wp.iconst dc_X12_sizeOf_19 ic_1 ?_
      refine Wp.goto (tgt := 24) dc_X12_sizeOf_20 (by decide) ?_
      exact ok_X12_sizeOf_j24   hE hS hT
theorem ok_X12_sizeOf_l4 {Q : Option AV → AH → Prop}  {σ : SS}  {x0 : Int32} {x1 : Int32} {x2 : Int32} {o}    (hE : X12_sizeOf_l4  σ  x0 x1 x2 = some o) (hK : Q (some (vi o)) (hp σ)) : Ws 1 mi_X12_sizeOf Q 4 [some (vi x0), some (vi x1), some (vi x2)] [] σ := by
  unfold X12_sizeOf_l4 at hE
  obtain ⟨t4, h1, hE⟩ := bnd hE
  refine iter_ok (P := (X12_sizeOf_P4  Q σ  x0)) (R := (X12_sizeOf_R4  Q σ  x0)) (fun ss o h2 hS hT => ?_) NF _ _ h1 ?_
  · skip
    exact ok_X12_sizeOf_l4c   h2 hS hT
  · intro z0 z2
    show Ws 1 mi_X12_sizeOf Q 32 [z0, some (vi t4), z2] [] σ
    refine Wp.iload_n dc_X12_sizeOf_32 rfl ?_
    cases hE
    exact Wp.ireturn dc_X12_sizeOf_33 rfl rfl (Nat.le_refl _) (Nat.le_refl _) hK
theorem ok_X12_sizeOf_j0 {Q : Option AV → AH → Prop}  {σ : SS}  {x0 : Int32} {o} {z1 z2 : Option AV}   (hE : X12_sizeOf_j0  σ  x0 = some o) (hK : Q (some (vi o)) (hp σ)) : Ws 1 mi_X12_sizeOf Q 0 [some (vi x0), z1, z2] [] σ := by
  unfold X12_sizeOf_j0 at hE
  refine Wp.iconst dc_X12_sizeOf_0 ic_0 ?_
  refine Wp.istore_n dc_X12_sizeOf_1 (by decide) ?_
  refine Wp.iconst dc_X12_sizeOf_2 ic_0 ?_
  refine Wp.istore_n dc_X12_sizeOf_3 (by decide) ?_
  exact ok_X12_sizeOf_l4   hE hK
theorem ok_X12_sizeOf  {σ : SS}  {x0 : Int32} {o}   (hE : X12_sizeOf  σ  x0 = some o) : Runs 1 0 0 mi_X12_sizeOf [vi x0] (hp σ) (fun v h => v = some (vi o) ∧ h = hp σ) := by
  refine Runs.of pn_X12 (Nat.le_of_ble_eq_true rfl) ?_
  exact ok_X12_sizeOf_j0   hE ⟨rfl, rfl⟩
theorem ok_X12_look2_j0 {Q : Option AV → AH → Prop}  {σ : SS}  {x1 : Int32} {o}    (hE : X12_look2_j0  σ  x1 = some o) (hK : Q (some (vi o)) (hp σ)) : Ws 0 mi_X12_look2 Q 0 [some (vr 11 0), some (vi x1)] [] σ := by
  unfold X12_look2_j0 at hE
  refine Wp.iload_n dc_X12_look2_0 rfl ?_
  refine Wp.aload_n dc_X12_look2_1 rfl ?_
  refine Wp.sgetI dc_X12_look2_2 fw_X12_120 (mO11 (by decide)) ?_
  refine Wp.icmp_ge (tgt := 21) dc_X12_look2_5 (by decide) (fun hc5 => ?_) (fun hc5 => ?_)
  · rw [if_pos hc5] at hE
    refine Wp.iconst dc_X12_look2_21 ic_0 ?_
    cases hE
    exact Wp.ireturn dc_X12_look2_22 rfl rfl (Nat.le_refl _) (Nat.le_refl _) hK
  · rw [if_neg hc5] at hE
    refine Wp.aload_n dc_X12_look2_8 rfl ?_
    refine Wp.sgetR (t := 0) dc_X12_look2_9 fw_X12_24 (mO11 (by decide)) rfl ?_
    refine Wp.iload_n dc_X12_look2_12 rfl ?_
    obtain ⟨j13, h13, hE⟩ := bnd hE
    refine Wp.sbald dc_X12_look2_13 (mO12 (by decide)) h13 ?_
    refine Wp.sipush dc_X12_look2_14 sp_255 ?_
    refine Wp.iand dc_X12_look2_17 ?_
    refine Wp.goto (tgt := 22) dc_X12_look2_18 (by decide) ?_
    cases hE
    exact Wp.ireturn dc_X12_look2_22 rfl rfl (Nat.le_refl _) (Nat.le_refl _) hK
theorem ok_X12_look2  {σ : SS}  {x1 : Int32} {o}   (hE : X12_look2  σ  x1 = some o) : Runs 0 0 0 mi_X12_look2 [vr 11 0, vi x1] (hp σ) (fun v h => v = some (vi o) ∧ h = hp σ) := by
  refine Runs.of pn_X12 (Nat.le_of_ble_eq_true rfl) ?_
  exact ok_X12_look2_j0   hE ⟨rfl, rfl⟩
theorem ok_X12_isLetter_j0 {Q : Option AV → AH → Prop}  {σ : SS}  {x0 : Int32} {o}    (hE : X12_isLetter_j0  σ  x0 = some o) (hK : Q (some (vi o)) (hp σ)) : Ws 0 mi_X12_isLetter Q 0 [some (vi x0)] [] σ := by
  unfold X12_isLetter_j0 at hE
  refine Wp.iload_n dc_X12_isLetter_0 rfl ?_
  refine Wp.bipush dc_X12_isLetter_1 bp_97 ?_
  refine Wp.icmp_lt (tgt := 16) dc_X12_isLetter_3 (by decide) (fun hc3 => ?_) (fun hc3 => ?_)
  · rw [if_pos hc3] at hE
    refine Wp.iconst dc_X12_isLetter_16 ic_0 ?_
    cases hE
    exact Wp.ireturn dc_X12_isLetter_17 rfl Nr.z0.1 (Nat.le_refl _) (Nat.le_refl _) hK
  · rw [if_neg hc3] at hE
    refine Wp.iload_n dc_X12_isLetter_6 rfl ?_
    refine Wp.bipush dc_X12_isLetter_7 bp_122 ?_
    refine Wp.icmp_gt (tgt := 16) dc_X12_isLetter_9 (by decide) (fun hc9 => ?_) (fun hc9 => ?_)
    · rw [if_pos hc9] at hE
      refine Wp.iconst dc_X12_isLetter_16 ic_0 ?_
      cases hE
      exact Wp.ireturn dc_X12_isLetter_17 rfl Nr.z0.1 (Nat.le_refl _) (Nat.le_refl _) hK
    · rw [if_neg hc9] at hE
      refine Wp.iconst dc_X12_isLetter_12 ic_1 ?_
      refine Wp.goto (tgt := 17) dc_X12_isLetter_13 (by decide) ?_
      cases hE
      exact Wp.ireturn dc_X12_isLetter_17 rfl Nr.z1.1 (Nat.le_refl _) (Nat.le_refl _) hK
theorem ok_X12_isLetter  {σ : SS}  {x0 : Int32} {o}   (hE : X12_isLetter  σ  x0 = some o) : Runs 0 0 0 mi_X12_isLetter [vi x0] (hp σ) (fun v h => v = some (vi o) ∧ h = hp σ) := by
  refine Runs.of pn_X12 (Nat.le_of_ble_eq_true rfl) ?_
  exact ok_X12_isLetter_j0   hE ⟨rfl, rfl⟩
theorem ok_X12_isDigit_j0 {Q : Option AV → AH → Prop}  {σ : SS}  {x0 : Int32} {o}    (hE : X12_isDigit_j0  σ  x0 = some o) (hK : Q (some (vi o)) (hp σ)) : Ws 0 mi_X12_isDigit Q 0 [some (vi x0)] [] σ := by
  unfold X12_isDigit_j0 at hE
  refine Wp.iload_n dc_X12_isDigit_0 rfl ?_
  refine Wp.bipush dc_X12_isDigit_1 bp_48 ?_
  refine Wp.icmp_lt (tgt := 16) dc_X12_isDigit_3 (by decide) (fun hc3 => ?_) (fun hc3 => ?_)
  · rw [if_pos hc3] at hE
    refine Wp.iconst dc_X12_isDigit_16 ic_0 ?_
    cases hE
    exact Wp.ireturn dc_X12_isDigit_17 rfl Nr.z0.1 (Nat.le_refl _) (Nat.le_refl _) hK
  · rw [if_neg hc3] at hE
    refine Wp.iload_n dc_X12_isDigit_6 rfl ?_
    refine Wp.bipush dc_X12_isDigit_7 bp_57 ?_
    refine Wp.icmp_gt (tgt := 16) dc_X12_isDigit_9 (by decide) (fun hc9 => ?_) (fun hc9 => ?_)
    · rw [if_pos hc9] at hE
      refine Wp.iconst dc_X12_isDigit_16 ic_0 ?_
      cases hE
      exact Wp.ireturn dc_X12_isDigit_17 rfl Nr.z0.1 (Nat.le_refl _) (Nat.le_refl _) hK
    · rw [if_neg hc9] at hE
      refine Wp.iconst dc_X12_isDigit_12 ic_1 ?_
      refine Wp.goto (tgt := 17) dc_X12_isDigit_13 (by decide) ?_
      cases hE
      exact Wp.ireturn dc_X12_isDigit_17 rfl Nr.z1.1 (Nat.le_refl _) (Nat.le_refl _) hK
theorem ok_X12_isDigit  {σ : SS}  {x0 : Int32} {o}   (hE : X12_isDigit  σ  x0 = some o) : Runs 0 0 0 mi_X12_isDigit [vi x0] (hp σ) (fun v h => v = some (vi o) ∧ h = hp σ) := by
  refine Runs.of pn_X12 (Nat.le_of_ble_eq_true rfl) ?_
  exact ok_X12_isDigit_j0   hE ⟨rfl, rfl⟩
theorem ok_X12_isSignByte_j24 {Q : Option AV → AH → Prop}  {σ : SS}   {o} {z0 z1 : Option AV}   (hE : X12_isSignByte_j24  σ   = some o) (hK : Q (some (vi o)) (hp σ)) : Ws 0 mi_X12_isSignByte Q 24 [z0, z1] [] σ := by
  unfold X12_isSignByte_j24 at hE
  refine Wp.iconst dc_X12_isSignByte_24 ic_1 ?_
  refine Wp.goto (tgt := 29) dc_X12_isSignByte_25 (by decide) ?_
  cases hE
  exact Wp.ireturn dc_X12_isSignByte_29 rfl Nr.z1.1 (Nat.le_refl _) (Nat.le_refl _) hK
theorem ok_X12_isSignByte_j0 {Q : Option AV → AH → Prop}  {σ : SS}  {x1 : Int32} {o} {z0 : Option AV}   (hE : X12_isSignByte_j0  σ  x1 = some o) (hK : Q (some (vi o)) (hp σ)) : Ws 0 mi_X12_isSignByte Q 0 [z0, some (vi x1)] [] σ := by
  unfold X12_isSignByte_j0 at hE
  refine Wp.iload_n dc_X12_isSignByte_0 rfl ?_
  refine Wp.bipush dc_X12_isSignByte_1 bp_59 ?_
  refine Wp.icmp_eq (tgt := 24) dc_X12_isSignByte_3 (by decide) (fun hc3 => ?_) (fun hc3 => ?_)
  · rw [if_pos hc3] at hE
    exact ok_X12_isSignByte_j24   hE hK
  · rw [if_neg hc3] at hE
    refine Wp.iload_n dc_X12_isSignByte_6 rfl ?_
    refine Wp.bipush dc_X12_isSignByte_7 bp_60 ?_
    refine Wp.icmp_eq (tgt := 24) dc_X12_isSignByte_9 (by decide) (fun hc9 => ?_) (fun hc9 => ?_)
    · rw [if_pos hc9] at hE
      exact ok_X12_isSignByte_j24   hE hK
    · rw [if_neg hc9] at hE
      refine Wp.iload_n dc_X12_isSignByte_12 rfl ?_
      refine Wp.bipush dc_X12_isSignByte_13 bp_62 ?_
      refine Wp.icmp_eq (tgt := 24) dc_X12_isSignByte_15 (by decide) (fun hc15 => ?_) (fun hc15 => ?_)
      · rw [if_pos hc15] at hE
        exact ok_X12_isSignByte_j24   hE hK
      · rw [if_neg hc15] at hE
        refine Wp.iload_n dc_X12_isSignByte_18 rfl ?_
        refine Wp.bipush dc_X12_isSignByte_19 bp_61 ?_
        refine Wp.icmp_ne (tgt := 28) dc_X12_isSignByte_21 (by decide) (fun hc21 => ?_) (fun hc21 => ?_)
        · rw [if_neg hc21] at hE
          refine Wp.iconst dc_X12_isSignByte_28 ic_0 ?_
          cases hE
          exact Wp.ireturn dc_X12_isSignByte_29 rfl Nr.z0.1 (Nat.le_refl _) (Nat.le_refl _) hK
        · rw [if_pos hc21] at hE
          exact ok_X12_isSignByte_j24   hE hK
theorem ok_X12_isSignByte  {σ : SS}  {x1 : Int32} {o}   (hE : X12_isSignByte  σ  x1 = some o) : Runs 0 0 0 mi_X12_isSignByte [vr 11 0, vi x1] (hp σ) (fun v h => v = some (vi o) ∧ h = hp σ) := by
  refine Runs.of pn_X12 (Nat.le_of_ble_eq_true rfl) ?_
  exact ok_X12_isSignByte_j0   hE ⟨rfl, rfl⟩
def X12_next_P8 (Q : Option AV → AH → Prop)    (ss : SS) : Prop := ∀ z1 : Option AV, Ws 1 mi_X12_next Q 8 [some (vr 11 0), z1] [] ss
def X12_next_R8 (Q : Option AV → AH → Prop)    (tt : SS) : Prop := ∀ z1 : Option AV, Ws 1 mi_X12_next Q 58 [some (vr 11 0), z1] [] tt
theorem ok_X12_next_j45 {Q : Option AV → AH → Prop}  {σ : SS}   {o} {z1 : Option AV}   (hE : X12_next_j45  σ   = some o) (hS : ∀ ss, o = Sum.inl ss → (X12_next_P8  Q   ) ss) (hT : ∀ tt, o = Sum.inr tt → (X12_next_R8  Q   ) tt) : Ws 1 mi_X12_next Q 45 [some (vr 11 0), z1] [] σ := by
  unfold X12_next_j45 at hE
  refine Wp.aload_n dc_X12_next_45 rfl ?_
  refine Wp.dup dc_X12_next_46 rfl ?_
  refine Wp.sgetI dc_X12_next_47 fw_X12_126 (mO11 (by decide)) ?_
  refine Wp.iconst dc_X12_next_50 ic_1 ?_
  refine Wp.iadd dc_X12_next_51 ?_
  refine Wp.sputI dc_X12_next_52 fw_X12_126 (mO11 (by decide)) (Nr.i _) ?_
  obtain ⟨σ52, es_52, hE⟩ := bnS hE
  rw [es_52]
  refine Wp.goto (tgt := 8) dc_X12_next_55 (by decide) ?_
  cases hE
  exact hS _ rfl _
theorem ok_X12_next_l8c {Q : Option AV → AH → Prop}  {σ : SS}    {o} {z1 : Option AV}   (hE : X12_next_l8c  σ    = some o) (hS : ∀ ss, o = Sum.inl ss → (X12_next_P8  Q   ) ss) (hT : ∀ tt, o = Sum.inr tt → (X12_next_R8  Q   ) tt) : Ws 1 mi_X12_next Q 8 [some (vr 11 0), z1] [] σ := by
  unfold X12_next_l8c at hE
  refine Wp.aload_n dc_X12_next_8 rfl ?_
  refine Wp.sgetI dc_X12_next_9 fw_X12_126 (mO11 (by decide)) ?_
  refine Wp.aload_n dc_X12_next_12 rfl ?_
  refine Wp.sgetI dc_X12_next_13 fw_X12_120 (mO11 (by decide)) ?_
  refine Wp.icmp_ge (tgt := 58) dc_X12_next_16 (by decide) (fun hc16 => ?_) (fun hc16 => ?_)
  · rw [if_pos hc16] at hE
    cases hE
    exact hT _ rfl _
  · rw [if_neg hc16] at hE
    refine Wp.aload_n dc_X12_next_19 rfl ?_
    refine Wp.aload_n dc_X12_next_20 rfl ?_
    refine Wp.sgetI dc_X12_next_21 fw_X12_126 (mO11 (by decide)) ?_
    obtain ⟨v24, h24, hE⟩ := bnd hE
    refine Wp.cV1i (ok_X12_look2  h24) dc_X12_next_24 mw_X12_129 (mO11 (by decide)) (by decide) (Nat.le_of_ble_eq_true rfl) ?_
    refine Wp.bipush dc_X12_next_27 bp_10 ?_
    refine Wp.icmp_eq (tgt := 45) dc_X12_next_29 (by decide) (fun hc29 => ?_) (fun hc29 => ?_)
    · rw [if_pos hc29] at hE
      exact ok_X12_next_j45   hE hS hT
    · rw [if_neg hc29] at hE
      refine Wp.aload_n dc_X12_next_32 rfl ?_
      refine Wp.aload_n dc_X12_next_33 rfl ?_
      refine Wp.sgetI dc_X12_next_34 fw_X12_126 (mO11 (by decide)) ?_
      obtain ⟨v37, h37, hE⟩ := bnd hE
      refine Wp.cV1i (ok_X12_look2  h37) dc_X12_next_37 mw_X12_129 (mO11 (by decide)) (by decide) (Nat.le_of_ble_eq_true rfl) ?_
      refine Wp.bipush dc_X12_next_40 bp_32 ?_
      refine Wp.icmp_ne (tgt := 58) dc_X12_next_42 (by decide) (fun hc42 => ?_) (fun hc42 => ?_)
      · rw [if_neg hc42] at hE
        cases hE
        exact hT _ rfl _
      · rw [if_pos hc42] at hE
        exact ok_X12_next_j45   hE hS hT
theorem ok_X12_next_j327 {Q : Option AV → AH → Prop}  {σ : SS}  {s1 : Int32} {o} {z0 z1 : Option AV}   (hE : X12_next_j327  σ  s1 = some o) (hK : Q none (hp o)) : Ws 1 mi_X12_next Q 327 [z0, z1] [vi s1, vr 11 0] σ := by
  unfold X12_next_j327 at hE
  refine Wp.sputI dc_X12_next_327 fw_X12_132 (mO11 (by decide)) (Nr.i _) ?_
  obtain ⟨σ327, es_327, hE⟩ := bnS hE
  rw [es_327]
  cases hE
  exact Wp.return dc_X12_next_330 rfl (Nat.le_refl _) (Nat.le_refl _) hK
def X12_next_P210 (Q : Option AV → AH → Prop)    (ss : SS) : Prop := ∀ z1 : Option AV, Ws 1 mi_X12_next Q 210 [some (vr 11 0), z1] [] ss
def X12_next_R210 (Q : Option AV → AH → Prop)    (tt : SS) : Prop := ∀ z1 : Option AV, Ws 1 mi_X12_next Q 273 [some (vr 11 0), z1] [] tt
theorem ok_X12_next_j260 {Q : Option AV → AH → Prop}  {σ : SS}   {o} {z1 : Option AV}   (hE : X12_next_j260  σ   = some o) (hS : ∀ ss, o = Sum.inl ss → (X12_next_P210  Q   ) ss) (hT : ∀ tt, o = Sum.inr tt → (X12_next_R210  Q   ) tt) : Ws 1 mi_X12_next Q 260 [some (vr 11 0), z1] [] σ := by
  unfold X12_next_j260 at hE
  refine Wp.aload_n dc_X12_next_260 rfl ?_
  refine Wp.dup dc_X12_next_261 rfl ?_
  refine Wp.sgetI dc_X12_next_262 fw_X12_123 (mO11 (by decide)) ?_
  refine Wp.iconst dc_X12_next_265 ic_1 ?_
  refine Wp.iadd dc_X12_next_266 ?_
  refine Wp.sputI dc_X12_next_267 fw_X12_123 (mO11 (by decide)) (Nr.i _) ?_
  obtain ⟨σ267, es_267, hE⟩ := bnS hE
  rw [es_267]
  refine Wp.goto (tgt := 210) dc_X12_next_270 (by decide) ?_
  cases hE
  exact hS _ rfl _
theorem ok_X12_next_l210c {Q : Option AV → AH → Prop}  {σ : SS}    {o} {z1 : Option AV}   (hE : X12_next_l210c  σ    = some o) (hS : ∀ ss, o = Sum.inl ss → (X12_next_P210  Q   ) ss) (hT : ∀ tt, o = Sum.inr tt → (X12_next_R210  Q   ) tt) : Ws 1 mi_X12_next Q 210 [some (vr 11 0), z1] [] σ := by
  unfold X12_next_l210c at hE
  refine Wp.aload_n dc_X12_next_210 rfl ?_
  refine Wp.aload_n dc_X12_next_211 rfl ?_
  refine Wp.sgetI dc_X12_next_212 fw_X12_123 (mO11 (by decide)) ?_
  obtain ⟨v215, h215, hE⟩ := bnd hE
  refine Wp.cV1i (ok_X12_look2  h215) dc_X12_next_215 mw_X12_129 (mO11 (by decide)) (by decide) (Nat.le_of_ble_eq_true rfl) ?_
  obtain ⟨v218, h218, hE⟩ := bnd hE
  refine Wp.cS1i (ok_X12_isDigit  h218) dc_X12_next_218 mw_X12_148 (by decide) (Nat.le_of_ble_eq_true rfl) ?_
  refine Wp.if_eq (tgt := 273) dc_X12_next_221 (by decide) (fun hc221 => ?_) (fun hc221 => ?_)
  · rw [if_pos hc221] at hE
    cases hE
    exact hT _ rfl _
  · rw [if_neg hc221] at hE
    refine Wp.aload_n dc_X12_next_224 rfl ?_
    refine Wp.sgetI dc_X12_next_225 fw_X12_123 (mO11 (by decide)) ?_
    refine Wp.aload_n dc_X12_next_228 rfl ?_
    refine Wp.sgetI dc_X12_next_229 fw_X12_126 (mO11 (by decide)) ?_
    refine Wp.isub dc_X12_next_232 ?_
    refine Wp.iconst dc_X12_next_233 ic_4 ?_
    refine Wp.icmp_ge (tgt := 260) dc_X12_next_234 (by decide) (fun hc234 => ?_) (fun hc234 => ?_)
    · rw [if_pos hc234] at hE
      exact ok_X12_next_j260   hE hS hT
    · rw [if_neg hc234] at hE
      refine Wp.aload_n dc_X12_next_237 rfl ?_
      refine Wp.bipush dc_X12_next_238 bp_10 ?_
      refine Wp.aload_n dc_X12_next_240 rfl ?_
      refine Wp.sgetI dc_X12_next_241 fw_X12_151 (mO11 (by decide)) ?_
      refine Wp.imul dc_X12_next_244 ?_
      refine Wp.aload_n dc_X12_next_245 rfl ?_
      refine Wp.aload_n dc_X12_next_246 rfl ?_
      refine Wp.sgetI dc_X12_next_247 fw_X12_123 (mO11 (by decide)) ?_
      obtain ⟨v250, h250, hE⟩ := bnd hE
      refine Wp.cV1i (ok_X12_look2  h250) dc_X12_next_250 mw_X12_129 (mO11 (by decide)) (by decide) (Nat.le_of_ble_eq_true rfl) ?_
      refine Wp.iadd dc_X12_next_253 ?_
      refine Wp.bipush dc_X12_next_254 bp_48 ?_
      refine Wp.isub dc_X12_next_256 ?_
      refine Wp.sputI dc_X12_next_257 fw_X12_151 (mO11 (by decide)) (Nr.i _) ?_
      obtain ⟨σ257, es_257, hE⟩ := bnS hE
      rw [es_257]
      exact ok_X12_next_j260   hE hS hT
theorem ok_X12_next_j292 {Q : Option AV → AH → Prop}  {σ : SS}  {s1 : Int32} {o} {z0 z1 : Option AV}   (hE : X12_next_j292  σ  s1 = some o) (hK : Q none (hp o)) : Ws 1 mi_X12_next Q 292 [z0, z1] [vi s1, vr 11 0] σ := by
  unfold X12_next_j292 at hE
  refine Wp.sputI dc_X12_next_292 fw_X12_132 (mO11 (by decide)) (Nr.i _) ?_
  obtain ⟨σ292, es_292, hE⟩ := bnS hE
  rw [es_292]
  refine Wp.goto (tgt := 330) dc_X12_next_295 (by decide) ?_
  cases hE
  exact Wp.return dc_X12_next_330 rfl (Nat.le_refl _) (Nat.le_refl _) hK
theorem ok_X12_next_l210 {Q : Option AV → AH → Prop}  {σ : SS}   {o} {z1 : Option AV}   (hE : X12_next_l210  σ   = some o) (hK : Q none (hp o)) : Ws 1 mi_X12_next Q 210 [some (vr 11 0), z1] [] σ := by
  unfold X12_next_l210 at hE
  obtain ⟨t210, h1, hE⟩ := bnd hE
  refine iter_ok (P := (X12_next_P210  Q   )) (R := (X12_next_R210  Q   )) (fun ss o h2 hS hT => ?_) NF _ _ h1 ?_ _
  · intro z1
    exact ok_X12_next_l210c   h2 hS hT
  · intro z1
    show Ws 1 mi_X12_next Q 273 [some (vr 11 0), z1] [] t210
    refine Wp.aload_n dc_X12_next_273 rfl ?_
    refine Wp.aload_n dc_X12_next_274 rfl ?_
    refine Wp.sgetI dc_X12_next_275 fw_X12_123 (mO11 (by decide)) ?_
    refine Wp.aload_n dc_X12_next_278 rfl ?_
    refine Wp.sgetI dc_X12_next_279 fw_X12_126 (mO11 (by decide)) ?_
    refine Wp.isub dc_X12_next_282 ?_
    refine Wp.iconst dc_X12_next_283 ic_4 ?_
    refine Wp.icmp_le (tgt := 291) dc_X12_next_284 (by decide) (fun hc284 => ?_) (fun hc284 => ?_)
    · rw [if_pos hc284] at hE
      refine Wp.iconst dc_X12_next_291 ic_2 ?_
      exact ok_X12_next_j292   hE hK
    · rw [if_neg hc284] at hE
      refine Wp.iconst dc_X12_next_287 ic_4 ?_
      refine Wp.goto (tgt := 292) dc_X12_next_288 (by decide) ?_
      exact ok_X12_next_j292   hE hK
def X12_next_P109 (Q : Option AV → AH → Prop)    (ss : SS) : Prop := ∀ z1 : Option AV, Ws 1 mi_X12_next Q 109 [some (vr 11 0), z1] [] ss
def X12_next_R109 (Q : Option AV → AH → Prop)    (tt : SS) : Prop := ∀ z1 : Option AV, Ws 1 mi_X12_next Q 182 [some (vr 11 0), z1] [] tt
theorem ok_X12_next_j166 {Q : Option AV → AH → Prop}  {σ : SS}  {s1 : Int64} {o} {z1 : Option AV}   (hE : X12_next_j166  σ  s1 = some o) (hS : ∀ ss, o = Sum.inl ss → (X12_next_P109  Q   ) ss) (hT : ∀ tt, o = Sum.inr tt → (X12_next_R109  Q   ) tt) : Ws 1 mi_X12_next Q 166 [some (vr 11 0), z1] [vl s1, vr 11 0] σ := by
  unfold X12_next_j166 at hE
  refine Wp.sputJ dc_X12_next_166 fw_X12_138 (mO11 (by decide)) ?_
  obtain ⟨σ166, es_166, hE⟩ := bnS hE
  rw [es_166]
  refine Wp.aload_n dc_X12_next_169 rfl ?_
  refine Wp.dup dc_X12_next_170 rfl ?_
  refine Wp.sgetI dc_X12_next_171 fw_X12_123 (mO11 (by decide)) ?_
  refine Wp.iconst dc_X12_next_174 ic_1 ?_
  refine Wp.iadd dc_X12_next_175 ?_
  refine Wp.sputI dc_X12_next_176 fw_X12_123 (mO11 (by decide)) (Nr.i _) ?_
  obtain ⟨σ176, es_176, hE⟩ := bnS hE
  rw [es_176]
  refine Wp.goto (tgt := 109) dc_X12_next_179 (by decide) ?_
  cases hE
  exact hS _ rfl _
theorem ok_X12_next_l109c {Q : Option AV → AH → Prop}  {σ : SS}    {o} {z1 : Option AV}   (hE : X12_next_l109c  σ    = some o) (hS : ∀ ss, o = Sum.inl ss → (X12_next_P109  Q   ) ss) (hT : ∀ tt, o = Sum.inr tt → (X12_next_R109  Q   ) tt) : Ws 1 mi_X12_next Q 109 [some (vr 11 0), z1] [] σ := by
  unfold X12_next_l109c at hE
  refine Wp.aload_n dc_X12_next_109 rfl ?_
  refine Wp.aload_n dc_X12_next_110 rfl ?_
  refine Wp.sgetI dc_X12_next_111 fw_X12_123 (mO11 (by decide)) ?_
  obtain ⟨v114, h114, hE⟩ := bnd hE
  refine Wp.cV1i (ok_X12_look2  h114) dc_X12_next_114 mw_X12_129 (mO11 (by decide)) (by decide) (Nat.le_of_ble_eq_true rfl) ?_
  obtain ⟨v117, h117, hE⟩ := bnd hE
  refine Wp.cS1i (ok_X12_isLetter  h117) dc_X12_next_117 mw_X12_135 (by decide) (Nat.le_of_ble_eq_true rfl) ?_
  refine Wp.if_eq (tgt := 182) dc_X12_next_120 (by decide) (fun hc120 => ?_) (fun hc120 => ?_)
  · rw [if_pos hc120] at hE
    cases hE
    exact hT _ rfl _
  · rw [if_neg hc120] at hE
    refine Wp.aload_n dc_X12_next_123 rfl ?_
    refine Wp.aload_n dc_X12_next_124 rfl ?_
    refine Wp.sgetI dc_X12_next_125 fw_X12_123 (mO11 (by decide)) ?_
    refine Wp.aload_n dc_X12_next_128 rfl ?_
    refine Wp.sgetI dc_X12_next_129 fw_X12_126 (mO11 (by decide)) ?_
    refine Wp.isub dc_X12_next_132 ?_
    refine Wp.bipush dc_X12_next_133 bp_8 ?_
    refine Wp.icmp_ge (tgt := 163) dc_X12_next_135 (by decide) (fun hc135 => ?_) (fun hc135 => ?_)
    · rw [if_pos hc135] at hE
      refine Wp.ldc2 dc_X12_next_163 kw_X12_108 ?_
      exact ok_X12_next_j166   hE hS hT
    · rw [if_neg hc135] at hE
      refine Wp.aload_n dc_X12_next_138 rfl ?_
      refine Wp.sgetJ dc_X12_next_139 fw_X12_138 (mO11 (by decide)) ?_
      refine Wp.ldc2 dc_X12_next_142 kw_X12_141 ?_
      refine Wp.lmul dc_X12_next_145 ?_
      refine Wp.aload_n dc_X12_next_146 rfl ?_
      refine Wp.aload_n dc_X12_next_147 rfl ?_
      refine Wp.sgetI dc_X12_next_148 fw_X12_123 (mO11 (by decide)) ?_
      obtain ⟨v151, h151, hE⟩ := bnd hE
      refine Wp.cV1i (ok_X12_look2  h151) dc_X12_next_151 mw_X12_129 (mO11 (by decide)) (by decide) (Nat.le_of_ble_eq_true rfl) ?_
      refine Wp.i2l dc_X12_next_154 ?_
      refine Wp.ladd dc_X12_next_155 ?_
      refine Wp.ldc2 dc_X12_next_156 kw_X12_143 ?_
      refine Wp.lsub dc_X12_next_159 ?_
      refine Wp.goto (tgt := 166) dc_X12_next_160 (by decide) ?_
      exact ok_X12_next_j166   hE hS hT
theorem ok_X12_next_l109 {Q : Option AV → AH → Prop}  {σ : SS}   {o} {z1 : Option AV}   (hE : X12_next_l109  σ   = some o) (hK : Q none (hp o)) : Ws 1 mi_X12_next Q 109 [some (vr 11 0), z1] [] σ := by
  unfold X12_next_l109 at hE
  obtain ⟨t109, h1, hE⟩ := bnd hE
  refine iter_ok (P := (X12_next_P109  Q   )) (R := (X12_next_R109  Q   )) (fun ss o h2 hS hT => ?_) NF _ _ h1 ?_ _
  · intro z1
    exact ok_X12_next_l109c   h2 hS hT
  · intro z1
    show Ws 1 mi_X12_next Q 182 [some (vr 11 0), z1] [] t109
    refine Wp.aload_n dc_X12_next_182 rfl ?_
    refine Wp.aload_n dc_X12_next_183 rfl ?_
    refine Wp.sgetI dc_X12_next_184 fw_X12_123 (mO11 (by decide)) ?_
    refine Wp.aload_n dc_X12_next_187 rfl ?_
    refine Wp.sgetI dc_X12_next_188 fw_X12_126 (mO11 (by decide)) ?_
    refine Wp.isub dc_X12_next_191 ?_
    refine Wp.sputI dc_X12_next_192 fw_X12_145 (mO11 (by decide)) (Nr.i _) ?_
    obtain ⟨σ192, es_192, hE⟩ := bnS hE
    rw [es_192]
    refine Wp.goto (tgt := 330) dc_X12_next_195 (by decide) ?_
    cases hE
    exact Wp.return dc_X12_next_330 rfl (Nat.le_refl _) (Nat.le_refl _) hK
theorem ok_X12_next_j58 {Q : Option AV → AH → Prop}  {σ : SS}   {o} {z1 : Option AV}   (hE : X12_next_j58  σ   = some o) (hK : Q none (hp o)) : Ws 1 mi_X12_next Q 58 [some (vr 11 0), z1] [] σ := by
  unfold X12_next_j58 at hE
  refine Wp.aload_n dc_X12_next_58 rfl ?_
  refine Wp.aload_n dc_X12_next_59 rfl ?_
  refine Wp.sgetI dc_X12_next_60 fw_X12_126 (mO11 (by decide)) ?_
  refine Wp.sputI dc_X12_next_63 fw_X12_123 (mO11 (by decide)) (Nr.i _) ?_
  obtain ⟨σ63, es_63, hE⟩ := bnS hE
  rw [es_63]
  refine Wp.aload_n dc_X12_next_66 rfl ?_
  refine Wp.sgetI dc_X12_next_67 fw_X12_126 (mO11 (by decide)) ?_
  refine Wp.aload_n dc_X12_next_70 rfl ?_
  refine Wp.sgetI dc_X12_next_71 fw_X12_120 (mO11 (by decide)) ?_
  refine Wp.icmp_lt (tgt := 83) dc_X12_next_74 (by decide) (fun hc74 => ?_) (fun hc74 => ?_)
  · rw [if_pos hc74] at hE
    refine Wp.aload_n dc_X12_next_83 rfl ?_
    refine Wp.aload_n dc_X12_next_84 rfl ?_
    refine Wp.sgetI dc_X12_next_85 fw_X12_126 (mO11 (by decide)) ?_
    obtain ⟨v88, h88, hE⟩ := bnd hE
    refine Wp.cV1i (ok_X12_look2  h88) dc_X12_next_88 mw_X12_129 (mO11 (by decide)) (by decide) (Nat.le_of_ble_eq_true rfl) ?_
    refine Wp.istore_n dc_X12_next_91 (by decide) ?_
    refine Wp.iload_n dc_X12_next_92 rfl ?_
    obtain ⟨v93, h93, hE⟩ := bnd hE
    refine Wp.cS1i (ok_X12_isLetter  h93) dc_X12_next_93 mw_X12_135 (by decide) (Nat.le_of_ble_eq_true rfl) ?_
    refine Wp.if_eq (tgt := 198) dc_X12_next_96 (by decide) (fun hc96 => ?_) (fun hc96 => ?_)
    · rw [if_pos hc96] at hE
      refine Wp.iload_n dc_X12_next_198 rfl ?_
      obtain ⟨v199, h199, hE⟩ := bnd hE
      refine Wp.cS1i (ok_X12_isDigit  h199) dc_X12_next_199 mw_X12_148 (by decide) (Nat.le_of_ble_eq_true rfl) ?_
      refine Wp.if_eq (tgt := 298) dc_X12_next_202 (by decide) (fun hc202 => ?_) (fun hc202 => ?_)
      · rw [if_pos hc202] at hE
        refine Wp.aload_n dc_X12_next_298 rfl ?_
        refine Wp.aload_n dc_X12_next_299 rfl ?_
        refine Wp.sgetI dc_X12_next_300 fw_X12_126 (mO11 (by decide)) ?_
        refine Wp.iconst dc_X12_next_303 ic_1 ?_
        refine Wp.iadd dc_X12_next_304 ?_
        refine Wp.sputI dc_X12_next_305 fw_X12_123 (mO11 (by decide)) (Nr.i _) ?_
        obtain ⟨σ305, es_305, hE⟩ := bnS hE
        rw [es_305]
        refine Wp.aload_n dc_X12_next_308 rfl ?_
        refine Wp.iload_n dc_X12_next_309 rfl ?_
        refine Wp.sputI dc_X12_next_310 fw_X12_151 (mO11 (by decide)) (Nr.i _) ?_
        obtain ⟨σ310, es_310, hE⟩ := bnS hE
        rw [es_310]
        refine Wp.aload_n dc_X12_next_313 rfl ?_
        refine Wp.aload_n dc_X12_next_314 rfl ?_
        refine Wp.iload_n dc_X12_next_315 rfl ?_
        obtain ⟨v316, h316, hE⟩ := bnd hE
        refine Wp.cV1i (ok_X12_isSignByte  h316) dc_X12_next_316 mw_X12_154 (mO11 (by decide)) (by decide) (Nat.le_of_ble_eq_true rfl) ?_
        refine Wp.if_eq (tgt := 326) dc_X12_next_319 (by decide) (fun hc319 => ?_) (fun hc319 => ?_)
        · rw [if_pos hc319] at hE
          refine Wp.iconst dc_X12_next_326 ic_4 ?_
          exact ok_X12_next_j327   hE hK
        · rw [if_neg hc319] at hE
          refine Wp.iconst dc_X12_next_322 ic_3 ?_
          refine Wp.goto (tgt := 327) dc_X12_next_323 (by decide) ?_
          exact ok_X12_next_j327   hE hK
      · rw [if_neg hc202] at hE
        refine Wp.aload_n dc_X12_next_205 rfl ?_
        refine Wp.iconst dc_X12_next_206 ic_0 ?_
        refine Wp.sputI dc_X12_next_207 fw_X12_151 (mO11 (by decide)) (Nr.i _) ?_
        obtain ⟨σ207, es_207, hE⟩ := bnS hE
        rw [es_207]
        exact ok_X12_next_l210   hE hK
    · rw [if_neg hc96] at hE
      refine Wp.aload_n dc_X12_next_99 rfl ?_
      refine Wp.iconst dc_X12_next_100 ic_1 ?_
      refine Wp.sputI dc_X12_next_101 fw_X12_132 (mO11 (by decide)) (Nr.i _) ?_
      obtain ⟨σ101, es_101, hE⟩ := bnS hE
      rw [es_101]
      refine Wp.aload_n dc_X12_next_104 rfl ?_
      refine Wp.lconst dc_X12_next_105 lc_0 ?_
      refine Wp.sputJ dc_X12_next_106 fw_X12_138 (mO11 (by decide)) ?_
      obtain ⟨σ106, es_106, hE⟩ := bnS hE
      rw [es_106]
      exact ok_X12_next_l109   hE hK
  · rw [if_neg hc74] at hE
    refine Wp.aload_n dc_X12_next_77 rfl ?_
    refine Wp.iconst dc_X12_next_78 ic_0 ?_
    refine Wp.sputI dc_X12_next_79 fw_X12_132 (mO11 (by decide)) (Nr.i _) ?_
    obtain ⟨σ79, es_79, hE⟩ := bnS hE
    rw [es_79]
    cases hE
    exact Wp.return dc_X12_next_82 rfl (Nat.le_refl _) (Nat.le_refl _) hK
theorem ok_X12_next_l8 {Q : Option AV → AH → Prop}  {σ : SS}   {o} {z1 : Option AV}   (hE : X12_next_l8  σ   = some o) (hK : Q none (hp o)) : Ws 1 mi_X12_next Q 8 [some (vr 11 0), z1] [] σ := by
  unfold X12_next_l8 at hE
  obtain ⟨t8, h1, hE⟩ := bnd hE
  refine iter_ok (P := (X12_next_P8  Q   )) (R := (X12_next_R8  Q   )) (fun ss o h2 hS hT => ?_) NF _ _ h1 ?_ _
  · intro z1
    exact ok_X12_next_l8c   h2 hS hT
  · intro z1
    show Ws 1 mi_X12_next Q 58 [some (vr 11 0), z1] [] t8
    exact ok_X12_next_j58   hE hK
theorem ok_X12_next_j0 {Q : Option AV → AH → Prop}  {σ : SS}   {o} {z1 : Option AV}   (hE : X12_next_j0  σ   = some o) (hK : Q none (hp o)) : Ws 1 mi_X12_next Q 0 [some (vr 11 0), z1] [] σ := by
  unfold X12_next_j0 at hE
  refine Wp.aload_n dc_X12_next_0 rfl ?_
  refine Wp.aload_n dc_X12_next_1 rfl ?_
  refine Wp.sgetI dc_X12_next_2 fw_X12_123 (mO11 (by decide)) ?_
  refine Wp.sputI dc_X12_next_5 fw_X12_126 (mO11 (by decide)) (Nr.i _) ?_
  obtain ⟨σ5, es_5, hE⟩ := bnS hE
  rw [es_5]
  exact ok_X12_next_l8   hE hK
theorem ok_X12_next  {σ : SS}   {o}   (hE : X12_next  σ   = some o) : Runs 1 0 0 mi_X12_next [vr 11 0] (hp σ) (fun v h => v = none ∧ h = hp o) := by
  refine Runs.of pn_X12 (Nat.le_of_ble_eq_true rfl) ?_
  exact ok_X12_next_j0   hE ⟨rfl, rfl⟩
theorem ok_X12_isSign_j0 {Q : Option AV → AH → Prop}  {σ : SS}  {x1 : Int32} {o}    (hE : X12_isSign_j0  σ  x1 = some o) (hK : Q (some (vi o)) (hp σ)) : Ws 0 mi_X12_isSign Q 0 [some (vr 11 0), some (vi x1)] [] σ := by
  unfold X12_isSign_j0 at hE
  refine Wp.aload_n dc_X12_isSign_0 rfl ?_
  refine Wp.sgetI dc_X12_isSign_1 fw_X12_132 (mO11 (by decide)) ?_
  refine Wp.iconst dc_X12_isSign_4 ic_3 ?_
  refine Wp.icmp_ne (tgt := 20) dc_X12_isSign_5 (by decide) (fun hc5 => ?_) (fun hc5 => ?_)
  · rw [if_neg hc5] at hE
    refine Wp.iconst dc_X12_isSign_20 ic_0 ?_
    cases hE
    exact Wp.ireturn dc_X12_isSign_21 rfl Nr.z0.1 (Nat.le_refl _) (Nat.le_refl _) hK
  · rw [if_pos hc5] at hE
    refine Wp.aload_n dc_X12_isSign_8 rfl ?_
    refine Wp.sgetI dc_X12_isSign_9 fw_X12_151 (mO11 (by decide)) ?_
    refine Wp.iload_n dc_X12_isSign_12 rfl ?_
    refine Wp.icmp_ne (tgt := 20) dc_X12_isSign_13 (by decide) (fun hc13 => ?_) (fun hc13 => ?_)
    · rw [if_neg hc13] at hE
      refine Wp.iconst dc_X12_isSign_20 ic_0 ?_
      cases hE
      exact Wp.ireturn dc_X12_isSign_21 rfl Nr.z0.1 (Nat.le_refl _) (Nat.le_refl _) hK
    · rw [if_pos hc13] at hE
      refine Wp.iconst dc_X12_isSign_16 ic_1 ?_
      refine Wp.goto (tgt := 21) dc_X12_isSign_17 (by decide) ?_
      cases hE
      exact Wp.ireturn dc_X12_isSign_21 rfl Nr.z1.1 (Nat.le_refl _) (Nat.le_refl _) hK
theorem ok_X12_isSign  {σ : SS}  {x1 : Int32} {o}   (hE : X12_isSign  σ  x1 = some o) : Runs 0 0 0 mi_X12_isSign [vr 11 0, vi x1] (hp σ) (fun v h => v = some (vi o) ∧ h = hp σ) := by
  refine Runs.of pn_X12 (Nat.le_of_ble_eq_true rfl) ?_
  exact ok_X12_isSign_j0   hE ⟨rfl, rfl⟩
theorem ok_X12_spelled_j91 {Q : Option AV → AH → Prop}  {σ : SS}  {x5 : Int32} {s0 : Int64} {o} {z0 z1 z2 z3 z4 z6 z7 : Option AV}   (hE : X12_spelled_j91  σ  x5 s0 = some o) (hK : Q (some (vl o)) (hp σ)) : Ws 0 mi_X12_spelled Q 91 [z0, z1, z2, z3, z4, some (vi x5), z6, z7] [vl s0] σ := by
  unfold X12_spelled_j91 at hE
  refine Wp.lstore dc_X12_spelled_91 (by decide) ?_
  refine Wp.iload dc_X12_spelled_93 rfl ?_
  refine Wp.if_le (tgt := 115) dc_X12_spelled_95 (by decide) (fun hc95 => ?_) (fun hc95 => ?_)
  · rw [if_pos hc95] at hE
    refine Wp.lload dc_X12_spelled_115 rfl ?_
    cases hE
    exact Wp.lreturn dc_X12_spelled_117 rfl (Nat.le_refl _) (Nat.le_refl _) hK
  · rw [if_neg hc95] at hE
    refine Wp.lload dc_X12_spelled_98 rfl ?_
    refine Wp.ldc2 dc_X12_spelled_100 kw_X12_141 ?_
    refine Wp.lmul dc_X12_spelled_103 ?_
    refine Wp.iload dc_X12_spelled_104 rfl ?_
    refine Wp.i2l dc_X12_spelled_106 ?_
    refine Wp.ladd dc_X12_spelled_107 ?_
    refine Wp.ldc2 dc_X12_spelled_108 kw_X12_143 ?_
    refine Wp.lsub dc_X12_spelled_111 ?_
    refine Wp.goto (tgt := 117) dc_X12_spelled_112 (by decide) ?_
    cases hE
    exact Wp.lreturn dc_X12_spelled_117 rfl (Nat.le_refl _) (Nat.le_refl _) hK
theorem ok_X12_spelled_j65 {Q : Option AV → AH → Prop}  {σ : SS}  {x4 : Int32} {x5 : Int32} {s0 : Int64} {o} {z0 z1 z2 z3 z6 z7 : Option AV}   (hE : X12_spelled_j65  σ  x4 x5 s0 = some o) (hK : Q (some (vl o)) (hp σ)) : Ws 0 mi_X12_spelled Q 65 [z0, z1, z2, z3, some (vi x4), some (vi x5), z6, z7] [vl s0] σ := by
  unfold X12_spelled_j65 at hE
  refine Wp.lstore dc_X12_spelled_65 (by decide) ?_
  refine Wp.iload dc_X12_spelled_67 rfl ?_
  refine Wp.if_le (tgt := 89) dc_X12_spelled_69 (by decide) (fun hc69 => ?_) (fun hc69 => ?_)
  · rw [if_pos hc69] at hE
    refine Wp.lload dc_X12_spelled_89 rfl ?_
    exact ok_X12_spelled_j91   hE hK
  · rw [if_neg hc69] at hE
    refine Wp.lload dc_X12_spelled_72 rfl ?_
    refine Wp.ldc2 dc_X12_spelled_74 kw_X12_141 ?_
    refine Wp.lmul dc_X12_spelled_77 ?_
    refine Wp.iload dc_X12_spelled_78 rfl ?_
    refine Wp.i2l dc_X12_spelled_80 ?_
    refine Wp.ladd dc_X12_spelled_81 ?_
    refine Wp.ldc2 dc_X12_spelled_82 kw_X12_143 ?_
    refine Wp.lsub dc_X12_spelled_85 ?_
    refine Wp.goto (tgt := 91) dc_X12_spelled_86 (by decide) ?_
    exact ok_X12_spelled_j91   hE hK
theorem ok_X12_spelled_j41 {Q : Option AV → AH → Prop}  {σ : SS}  {x3 : Int32} {x4 : Int32} {x5 : Int32} {s0 : Int64} {o} {z0 z1 z2 z6 z7 : Option AV}   (hE : X12_spelled_j41  σ  x3 x4 x5 s0 = some o) (hK : Q (some (vl o)) (hp σ)) : Ws 0 mi_X12_spelled Q 41 [z0, z1, z2, some (vi x3), some (vi x4), some (vi x5), z6, z7] [vl s0] σ := by
  unfold X12_spelled_j41 at hE
  refine Wp.lstore dc_X12_spelled_41 (by decide) ?_
  refine Wp.iload_n dc_X12_spelled_43 rfl ?_
  refine Wp.if_le (tgt := 63) dc_X12_spelled_44 (by decide) (fun hc44 => ?_) (fun hc44 => ?_)
  · rw [if_pos hc44] at hE
    refine Wp.lload dc_X12_spelled_63 rfl ?_
    exact ok_X12_spelled_j65   hE hK
  · rw [if_neg hc44] at hE
    refine Wp.lload dc_X12_spelled_47 rfl ?_
    refine Wp.ldc2 dc_X12_spelled_49 kw_X12_141 ?_
    refine Wp.lmul dc_X12_spelled_52 ?_
    refine Wp.iload_n dc_X12_spelled_53 rfl ?_
    refine Wp.i2l dc_X12_spelled_54 ?_
    refine Wp.ladd dc_X12_spelled_55 ?_
    refine Wp.ldc2 dc_X12_spelled_56 kw_X12_143 ?_
    refine Wp.lsub dc_X12_spelled_59 ?_
    refine Wp.goto (tgt := 65) dc_X12_spelled_60 (by decide) ?_
    exact ok_X12_spelled_j65   hE hK
theorem ok_X12_spelled_j0 {Q : Option AV → AH → Prop}  {σ : SS}  {x0 : Int32} {x1 : Int32} {x2 : Int32} {x3 : Int32} {x4 : Int32} {x5 : Int32} {o} {z6 z7 : Option AV}   (hE : X12_spelled_j0  σ  x0 x1 x2 x3 x4 x5 = some o) (hK : Q (some (vl o)) (hp σ)) : Ws 0 mi_X12_spelled Q 0 [some (vi x0), some (vi x1), some (vi x2), some (vi x3), some (vi x4), some (vi x5), z6, z7] [] σ := by
  unfold X12_spelled_j0 at hE
  refine Wp.iload_n dc_X12_spelled_0 rfl ?_
  refine Wp.i2l dc_X12_spelled_1 ?_
  refine Wp.ldc2 dc_X12_spelled_2 kw_X12_143 ?_
  refine Wp.lsub dc_X12_spelled_5 ?_
  refine Wp.ldc2 dc_X12_spelled_6 kw_X12_141 ?_
  refine Wp.lmul dc_X12_spelled_9 ?_
  refine Wp.iload_n dc_X12_spelled_10 rfl ?_
  refine Wp.i2l dc_X12_spelled_11 ?_
  refine Wp.ladd dc_X12_spelled_12 ?_
  refine Wp.ldc2 dc_X12_spelled_13 kw_X12_143 ?_
  refine Wp.lsub dc_X12_spelled_16 ?_
  obtain ⟨y6_17, e_17, hE⟩ := bnS hE
  rw [e_17]
  refine Wp.lstore dc_X12_spelled_17 (by decide) ?_
  refine Wp.iload_n dc_X12_spelled_19 rfl ?_
  refine Wp.if_le (tgt := 39) dc_X12_spelled_20 (by decide) (fun hc20 => ?_) (fun hc20 => ?_)
  · rw [if_pos hc20] at hE
    refine Wp.lload dc_X12_spelled_39 rfl ?_
    exact ok_X12_spelled_j41   hE hK
  · rw [if_neg hc20] at hE
    refine Wp.lload dc_X12_spelled_23 rfl ?_
    refine Wp.ldc2 dc_X12_spelled_25 kw_X12_141 ?_
    refine Wp.lmul dc_X12_spelled_28 ?_
    refine Wp.iload_n dc_X12_spelled_29 rfl ?_
    refine Wp.i2l dc_X12_spelled_30 ?_
    refine Wp.ladd dc_X12_spelled_31 ?_
    refine Wp.ldc2 dc_X12_spelled_32 kw_X12_143 ?_
    refine Wp.lsub dc_X12_spelled_35 ?_
    refine Wp.goto (tgt := 41) dc_X12_spelled_36 (by decide) ?_
    exact ok_X12_spelled_j41   hE hK
theorem ok_X12_spelled  {σ : SS}  {x0 : Int32} {x1 : Int32} {x2 : Int32} {x3 : Int32} {x4 : Int32} {x5 : Int32} {o}   (hE : X12_spelled  σ  x0 x1 x2 x3 x4 x5 = some o) : Runs 0 0 0 mi_X12_spelled [vi x0, vi x1, vi x2, vi x3, vi x4, vi x5] (hp σ) (fun v h => v = some (vl o) ∧ h = hp σ) := by
  refine Runs.of pn_X12 (Nat.le_of_ble_eq_true rfl) ?_
  exact ok_X12_spelled_j0   hE ⟨rfl, rfl⟩
theorem ok_X12_isWord_j0 {Q : Option AV → AH → Prop}  {σ : SS}  {y1 : Int64} {o}    (hE : X12_isWord_j0  σ  y1 = some o) (hK : Q (some (vi o)) (hp σ)) : Ws 0 mi_X12_isWord Q 0 [some (vr 11 0), some (vl y1), none] [] σ := by
  unfold X12_isWord_j0 at hE
  refine Wp.aload_n dc_X12_isWord_0 rfl ?_
  refine Wp.sgetI dc_X12_isWord_1 fw_X12_132 (mO11 (by decide)) ?_
  refine Wp.iconst dc_X12_isWord_4 ic_1 ?_
  refine Wp.icmp_ne (tgt := 21) dc_X12_isWord_5 (by decide) (fun hc5 => ?_) (fun hc5 => ?_)
  · rw [if_neg hc5] at hE
    refine Wp.iconst dc_X12_isWord_21 ic_0 ?_
    cases hE
    exact Wp.ireturn dc_X12_isWord_22 rfl Nr.z0.1 (Nat.le_refl _) (Nat.le_refl _) hK
  · rw [if_pos hc5] at hE
    refine Wp.aload_n dc_X12_isWord_8 rfl ?_
    refine Wp.sgetJ dc_X12_isWord_9 fw_X12_138 (mO11 (by decide)) ?_
    refine Wp.lload_n dc_X12_isWord_12 rfl ?_
    refine Wp.lcmp dc_X12_isWord_13 ?_
    refine Wp.if_ne (tgt := 21) dc_X12_isWord_14 (by decide) (fun hc14 => ?_) (fun hc14 => ?_)
    · rw [if_neg hc14] at hE
      refine Wp.iconst dc_X12_isWord_21 ic_0 ?_
      cases hE
      exact Wp.ireturn dc_X12_isWord_22 rfl Nr.z0.1 (Nat.le_refl _) (Nat.le_refl _) hK
    · rw [if_pos hc14] at hE
      refine Wp.iconst dc_X12_isWord_17 ic_1 ?_
      refine Wp.goto (tgt := 22) dc_X12_isWord_18 (by decide) ?_
      cases hE
      exact Wp.ireturn dc_X12_isWord_22 rfl Nr.z1.1 (Nat.le_refl _) (Nat.le_refl _) hK
theorem ok_X12_isWord  {σ : SS}  {y1 : Int64} {o}   (hE : X12_isWord  σ  y1 = some o) : Runs 0 0 0 mi_X12_isWord [vr 11 0, vl y1] (hp σ) (fun v h => v = some (vi o) ∧ h = hp σ) := by
  refine Runs.of pn_X12 (Nat.le_of_ble_eq_true rfl) ?_
  exact ok_X12_isWord_j0   hE ⟨rfl, rfl⟩
theorem ok_X12_isLead_j0 {Q : Option AV → AH → Prop}  {σ : SS}   {o}    (hE : X12_isLead_j0  σ   = some o) (hK : Q (some (vi o)) (hp σ)) : Ws 1 mi_X12_isLead Q 0 [some (vr 11 0)] [] σ := by
  unfold X12_isLead_j0 at hE
  refine Wp.aload_n dc_X12_isLead_0 rfl ?_
  refine Wp.bipush dc_X12_isLead_1 bp_108 ?_
  refine Wp.bipush dc_X12_isLead_3 bp_101 ?_
  refine Wp.bipush dc_X12_isLead_5 bp_97 ?_
  refine Wp.bipush dc_X12_isLead_7 bp_100 ?_
  refine Wp.iconst dc_X12_isLead_9 ic_0 ?_
  refine Wp.iconst dc_X12_isLead_10 ic_0 ?_
  obtain ⟨v11, h11, hE⟩ := bnd hE
  refine Wp.cS6l (ok_X12_spelled  h11) dc_X12_isLead_11 mw_X12_157 (by decide) (Nat.le_of_ble_eq_true rfl) ?_
  obtain ⟨v14, h14, hE⟩ := bnd hE
  refine Wp.cV1i (ok_X12_isWord  h14) dc_X12_isLead_14 mw_X12_161 (mO11 (by decide)) (by decide) (Nat.le_of_ble_eq_true rfl) ?_
  obtain ⟨b17, h17, hE⟩ := bnd hE
  obtain ⟨e_17, hb17⟩ := zb_some h17
  skip
  cases hE
  exact Wp.ireturn dc_X12_isLead_17 rfl hb17.1 (Nat.le_refl _) (Nat.le_refl _) hK
theorem ok_X12_isLead  {σ : SS}   {o}   (hE : X12_isLead  σ   = some o) : Runs 1 0 0 mi_X12_isLead [vr 11 0] (hp σ) (fun v h => v = some (vi o) ∧ h = hp σ) := by
  refine Runs.of pn_X12 (Nat.le_of_ble_eq_true rfl) ?_
  exact ok_X12_isLead_j0   hE ⟨rfl, rfl⟩
theorem ok_X12_isLong_j0 {Q : Option AV → AH → Prop}  {σ : SS}   {o}    (hE : X12_isLong_j0  σ   = some o) (hK : Q (some (vi o)) (hp σ)) : Ws 1 mi_X12_isLong Q 0 [some (vr 11 0)] [] σ := by
  unfold X12_isLong_j0 at hE
  refine Wp.aload_n dc_X12_isLong_0 rfl ?_
  refine Wp.bipush dc_X12_isLong_1 bp_108 ?_
  refine Wp.bipush dc_X12_isLong_3 bp_111 ?_
  refine Wp.bipush dc_X12_isLong_5 bp_110 ?_
  refine Wp.bipush dc_X12_isLong_7 bp_103 ?_
  refine Wp.iconst dc_X12_isLong_9 ic_0 ?_
  refine Wp.iconst dc_X12_isLong_10 ic_0 ?_
  obtain ⟨v11, h11, hE⟩ := bnd hE
  refine Wp.cS6l (ok_X12_spelled  h11) dc_X12_isLong_11 mw_X12_157 (by decide) (Nat.le_of_ble_eq_true rfl) ?_
  obtain ⟨v14, h14, hE⟩ := bnd hE
  refine Wp.cV1i (ok_X12_isWord  h14) dc_X12_isLong_14 mw_X12_161 (mO11 (by decide)) (by decide) (Nat.le_of_ble_eq_true rfl) ?_
  obtain ⟨b17, h17, hE⟩ := bnd hE
  obtain ⟨e_17, hb17⟩ := zb_some h17
  skip
  cases hE
  exact Wp.ireturn dc_X12_isLong_17 rfl hb17.1 (Nat.le_refl _) (Nat.le_refl _) hK
theorem ok_X12_isLong  {σ : SS}   {o}   (hE : X12_isLong  σ   = some o) : Runs 1 0 0 mi_X12_isLong [vr 11 0] (hp σ) (fun v h => v = some (vi o) ∧ h = hp σ) := by
  refine Runs.of pn_X12 (Nat.le_of_ble_eq_true rfl) ?_
  exact ok_X12_isLong_j0   hE ⟨rfl, rfl⟩
theorem ok_X12_isStiff_j0 {Q : Option AV → AH → Prop}  {σ : SS}   {o}    (hE : X12_isStiff_j0  σ   = some o) (hK : Q (some (vi o)) (hp σ)) : Ws 1 mi_X12_isStiff Q 0 [some (vr 11 0)] [] σ := by
  unfold X12_isStiff_j0 at hE
  refine Wp.aload_n dc_X12_isStiff_0 rfl ?_
  refine Wp.bipush dc_X12_isStiff_1 bp_115 ?_
  refine Wp.bipush dc_X12_isStiff_3 bp_116 ?_
  refine Wp.bipush dc_X12_isStiff_5 bp_105 ?_
  refine Wp.bipush dc_X12_isStiff_7 bp_102 ?_
  refine Wp.bipush dc_X12_isStiff_9 bp_102 ?_
  refine Wp.iconst dc_X12_isStiff_11 ic_0 ?_
  obtain ⟨v12, h12, hE⟩ := bnd hE
  refine Wp.cS6l (ok_X12_spelled  h12) dc_X12_isStiff_12 mw_X12_157 (by decide) (Nat.le_of_ble_eq_true rfl) ?_
  obtain ⟨v15, h15, hE⟩ := bnd hE
  refine Wp.cV1i (ok_X12_isWord  h15) dc_X12_isStiff_15 mw_X12_161 (mO11 (by decide)) (by decide) (Nat.le_of_ble_eq_true rfl) ?_
  obtain ⟨b18, h18, hE⟩ := bnd hE
  obtain ⟨e_18, hb18⟩ := zb_some h18
  skip
  cases hE
  exact Wp.ireturn dc_X12_isStiff_18 rfl hb18.1 (Nat.le_refl _) (Nat.le_refl _) hK
theorem ok_X12_isStiff  {σ : SS}   {o}   (hE : X12_isStiff  σ   = some o) : Runs 1 0 0 mi_X12_isStiff [vr 11 0] (hp σ) (fun v h => v = some (vi o) ∧ h = hp σ) := by
  refine Runs.of pn_X12 (Nat.le_of_ble_eq_true rfl) ?_
  exact ok_X12_isStiff_j0   hE ⟨rfl, rfl⟩
theorem ok_X12_isEnds_j0 {Q : Option AV → AH → Prop}  {σ : SS}   {o}    (hE : X12_isEnds_j0  σ   = some o) (hK : Q (some (vi o)) (hp σ)) : Ws 1 mi_X12_isEnds Q 0 [some (vr 11 0)] [] σ := by
  unfold X12_isEnds_j0 at hE
  refine Wp.aload_n dc_X12_isEnds_0 rfl ?_
  refine Wp.bipush dc_X12_isEnds_1 bp_101 ?_
  refine Wp.bipush dc_X12_isEnds_3 bp_110 ?_
  refine Wp.bipush dc_X12_isEnds_5 bp_100 ?_
  refine Wp.bipush dc_X12_isEnds_7 bp_115 ?_
  refine Wp.iconst dc_X12_isEnds_9 ic_0 ?_
  refine Wp.iconst dc_X12_isEnds_10 ic_0 ?_
  obtain ⟨v11, h11, hE⟩ := bnd hE
  refine Wp.cS6l (ok_X12_spelled  h11) dc_X12_isEnds_11 mw_X12_157 (by decide) (Nat.le_of_ble_eq_true rfl) ?_
  obtain ⟨v14, h14, hE⟩ := bnd hE
  refine Wp.cV1i (ok_X12_isWord  h14) dc_X12_isEnds_14 mw_X12_161 (mO11 (by decide)) (by decide) (Nat.le_of_ble_eq_true rfl) ?_
  obtain ⟨b17, h17, hE⟩ := bnd hE
  obtain ⟨e_17, hb17⟩ := zb_some h17
  skip
  cases hE
  exact Wp.ireturn dc_X12_isEnds_17 rfl hb17.1 (Nat.le_refl _) (Nat.le_refl _) hK
theorem ok_X12_isEnds  {σ : SS}   {o}   (hE : X12_isEnds  σ   = some o) : Runs 1 0 0 mi_X12_isEnds [vr 11 0] (hp σ) (fun v h => v = some (vi o) ∧ h = hp σ) := by
  refine Runs.of pn_X12 (Nat.le_of_ble_eq_true rfl) ?_
  exact ok_X12_isEnds_j0   hE ⟨rfl, rfl⟩
theorem ok_X12_isCosts_j0 {Q : Option AV → AH → Prop}  {σ : SS}   {o}    (hE : X12_isCosts_j0  σ   = some o) (hK : Q (some (vi o)) (hp σ)) : Ws 1 mi_X12_isCosts Q 0 [some (vr 11 0)] [] σ := by
  unfold X12_isCosts_j0 at hE
  refine Wp.aload_n dc_X12_isCosts_0 rfl ?_
  refine Wp.bipush dc_X12_isCosts_1 bp_99 ?_
  refine Wp.bipush dc_X12_isCosts_3 bp_111 ?_
  refine Wp.bipush dc_X12_isCosts_5 bp_115 ?_
  refine Wp.bipush dc_X12_isCosts_7 bp_116 ?_
  refine Wp.bipush dc_X12_isCosts_9 bp_115 ?_
  refine Wp.iconst dc_X12_isCosts_11 ic_0 ?_
  obtain ⟨v12, h12, hE⟩ := bnd hE
  refine Wp.cS6l (ok_X12_spelled  h12) dc_X12_isCosts_12 mw_X12_157 (by decide) (Nat.le_of_ble_eq_true rfl) ?_
  obtain ⟨v15, h15, hE⟩ := bnd hE
  refine Wp.cV1i (ok_X12_isWord  h15) dc_X12_isCosts_15 mw_X12_161 (mO11 (by decide)) (by decide) (Nat.le_of_ble_eq_true rfl) ?_
  obtain ⟨b18, h18, hE⟩ := bnd hE
  obtain ⟨e_18, hb18⟩ := zb_some h18
  skip
  cases hE
  exact Wp.ireturn dc_X12_isCosts_18 rfl hb18.1 (Nat.le_refl _) (Nat.le_refl _) hK
theorem ok_X12_isCosts  {σ : SS}   {o}   (hE : X12_isCosts  σ   = some o) : Runs 1 0 0 mi_X12_isCosts [vr 11 0] (hp σ) (fun v h => v = some (vi o) ∧ h = hp σ) := by
  refine Runs.of pn_X12 (Nat.le_of_ble_eq_true rfl) ?_
  exact ok_X12_isCosts_j0   hE ⟨rfl, rfl⟩
theorem ok_X12_isUsed_j0 {Q : Option AV → AH → Prop}  {σ : SS}   {o}    (hE : X12_isUsed_j0  σ   = some o) (hK : Q (some (vi o)) (hp σ)) : Ws 1 mi_X12_isUsed Q 0 [some (vr 11 0)] [] σ := by
  unfold X12_isUsed_j0 at hE
  refine Wp.aload_n dc_X12_isUsed_0 rfl ?_
  refine Wp.bipush dc_X12_isUsed_1 bp_117 ?_
  refine Wp.bipush dc_X12_isUsed_3 bp_115 ?_
  refine Wp.bipush dc_X12_isUsed_5 bp_101 ?_
  refine Wp.bipush dc_X12_isUsed_7 bp_100 ?_
  refine Wp.iconst dc_X12_isUsed_9 ic_0 ?_
  refine Wp.iconst dc_X12_isUsed_10 ic_0 ?_
  obtain ⟨v11, h11, hE⟩ := bnd hE
  refine Wp.cS6l (ok_X12_spelled  h11) dc_X12_isUsed_11 mw_X12_157 (by decide) (Nat.le_of_ble_eq_true rfl) ?_
  obtain ⟨v14, h14, hE⟩ := bnd hE
  refine Wp.cV1i (ok_X12_isWord  h14) dc_X12_isUsed_14 mw_X12_161 (mO11 (by decide)) (by decide) (Nat.le_of_ble_eq_true rfl) ?_
  obtain ⟨b17, h17, hE⟩ := bnd hE
  obtain ⟨e_17, hb17⟩ := zb_some h17
  skip
  cases hE
  exact Wp.ireturn dc_X12_isUsed_17 rfl hb17.1 (Nat.le_refl _) (Nat.le_refl _) hK
theorem ok_X12_isUsed  {σ : SS}   {o}   (hE : X12_isUsed  σ   = some o) : Runs 1 0 0 mi_X12_isUsed [vr 11 0] (hp σ) (fun v h => v = some (vi o) ∧ h = hp σ) := by
  refine Runs.of pn_X12 (Nat.le_of_ble_eq_true rfl) ?_
  exact ok_X12_isUsed_j0   hE ⟨rfl, rfl⟩
theorem ok_X12_isClip_j0 {Q : Option AV → AH → Prop}  {σ : SS}   {o}    (hE : X12_isClip_j0  σ   = some o) (hK : Q (some (vi o)) (hp σ)) : Ws 1 mi_X12_isClip Q 0 [some (vr 11 0)] [] σ := by
  unfold X12_isClip_j0 at hE
  refine Wp.aload_n dc_X12_isClip_0 rfl ?_
  refine Wp.bipush dc_X12_isClip_1 bp_99 ?_
  refine Wp.bipush dc_X12_isClip_3 bp_108 ?_
  refine Wp.bipush dc_X12_isClip_5 bp_105 ?_
  refine Wp.bipush dc_X12_isClip_7 bp_112 ?_
  refine Wp.iconst dc_X12_isClip_9 ic_0 ?_
  refine Wp.iconst dc_X12_isClip_10 ic_0 ?_
  obtain ⟨v11, h11, hE⟩ := bnd hE
  refine Wp.cS6l (ok_X12_spelled  h11) dc_X12_isClip_11 mw_X12_157 (by decide) (Nat.le_of_ble_eq_true rfl) ?_
  obtain ⟨v14, h14, hE⟩ := bnd hE
  refine Wp.cV1i (ok_X12_isWord  h14) dc_X12_isClip_14 mw_X12_161 (mO11 (by decide)) (by decide) (Nat.le_of_ble_eq_true rfl) ?_
  obtain ⟨b17, h17, hE⟩ := bnd hE
  obtain ⟨e_17, hb17⟩ := zb_some h17
  skip
  cases hE
  exact Wp.ireturn dc_X12_isClip_17 rfl hb17.1 (Nat.le_refl _) (Nat.le_refl _) hK
theorem ok_X12_isClip  {σ : SS}   {o}   (hE : X12_isClip  σ   = some o) : Runs 1 0 0 mi_X12_isClip [vr 11 0] (hp σ) (fun v h => v = some (vi o) ∧ h = hp σ) := by
  refine Runs.of pn_X12 (Nat.le_of_ble_eq_true rfl) ?_
  exact ok_X12_isClip_j0   hE ⟨rfl, rfl⟩
theorem ok_X12_isCross_j0 {Q : Option AV → AH → Prop}  {σ : SS}   {o}    (hE : X12_isCross_j0  σ   = some o) (hK : Q (some (vi o)) (hp σ)) : Ws 1 mi_X12_isCross Q 0 [some (vr 11 0)] [] σ := by
  unfold X12_isCross_j0 at hE
  refine Wp.aload_n dc_X12_isCross_0 rfl ?_
  refine Wp.bipush dc_X12_isCross_1 bp_99 ?_
  refine Wp.bipush dc_X12_isCross_3 bp_114 ?_
  refine Wp.bipush dc_X12_isCross_5 bp_111 ?_
  refine Wp.bipush dc_X12_isCross_7 bp_115 ?_
  refine Wp.bipush dc_X12_isCross_9 bp_115 ?_
  refine Wp.iconst dc_X12_isCross_11 ic_0 ?_
  obtain ⟨v12, h12, hE⟩ := bnd hE
  refine Wp.cS6l (ok_X12_spelled  h12) dc_X12_isCross_12 mw_X12_157 (by decide) (Nat.le_of_ble_eq_true rfl) ?_
  obtain ⟨v15, h15, hE⟩ := bnd hE
  refine Wp.cV1i (ok_X12_isWord  h15) dc_X12_isCross_15 mw_X12_161 (mO11 (by decide)) (by decide) (Nat.le_of_ble_eq_true rfl) ?_
  obtain ⟨b18, h18, hE⟩ := bnd hE
  obtain ⟨e_18, hb18⟩ := zb_some h18
  skip
  cases hE
  exact Wp.ireturn dc_X12_isCross_18 rfl hb18.1 (Nat.le_refl _) (Nat.le_refl _) hK
theorem ok_X12_isCross  {σ : SS}   {o}   (hE : X12_isCross  σ   = some o) : Runs 1 0 0 mi_X12_isCross [vr 11 0] (hp σ) (fun v h => v = some (vi o) ∧ h = hp σ) := by
  refine Runs.of pn_X12 (Nat.le_of_ble_eq_true rfl) ?_
  exact ok_X12_isCross_j0   hE ⟨rfl, rfl⟩
theorem ok_X12_isLook_j0 {Q : Option AV → AH → Prop}  {σ : SS}   {o}    (hE : X12_isLook_j0  σ   = some o) (hK : Q (some (vi o)) (hp σ)) : Ws 1 mi_X12_isLook Q 0 [some (vr 11 0)] [] σ := by
  unfold X12_isLook_j0 at hE
  refine Wp.aload_n dc_X12_isLook_0 rfl ?_
  refine Wp.bipush dc_X12_isLook_1 bp_108 ?_
  refine Wp.bipush dc_X12_isLook_3 bp_111 ?_
  refine Wp.bipush dc_X12_isLook_5 bp_111 ?_
  refine Wp.bipush dc_X12_isLook_7 bp_107 ?_
  refine Wp.iconst dc_X12_isLook_9 ic_0 ?_
  refine Wp.iconst dc_X12_isLook_10 ic_0 ?_
  obtain ⟨v11, h11, hE⟩ := bnd hE
  refine Wp.cS6l (ok_X12_spelled  h11) dc_X12_isLook_11 mw_X12_157 (by decide) (Nat.le_of_ble_eq_true rfl) ?_
  obtain ⟨v14, h14, hE⟩ := bnd hE
  refine Wp.cV1i (ok_X12_isWord  h14) dc_X12_isLook_14 mw_X12_161 (mO11 (by decide)) (by decide) (Nat.le_of_ble_eq_true rfl) ?_
  obtain ⟨b17, h17, hE⟩ := bnd hE
  obtain ⟨e_17, hb17⟩ := zb_some h17
  skip
  cases hE
  exact Wp.ireturn dc_X12_isLook_17 rfl hb17.1 (Nat.le_refl _) (Nat.le_refl _) hK
theorem ok_X12_isLook  {σ : SS}   {o}   (hE : X12_isLook  σ   = some o) : Runs 1 0 0 mi_X12_isLook [vr 11 0] (hp σ) (fun v h => v = some (vi o) ∧ h = hp σ) := by
  refine Runs.of pn_X12 (Nat.le_of_ble_eq_true rfl) ?_
  exact ok_X12_isLook_j0   hE ⟨rfl, rfl⟩
theorem ok_X12_isFrom_j0 {Q : Option AV → AH → Prop}  {σ : SS}   {o}    (hE : X12_isFrom_j0  σ   = some o) (hK : Q (some (vi o)) (hp σ)) : Ws 1 mi_X12_isFrom Q 0 [some (vr 11 0)] [] σ := by
  unfold X12_isFrom_j0 at hE
  refine Wp.aload_n dc_X12_isFrom_0 rfl ?_
  refine Wp.bipush dc_X12_isFrom_1 bp_102 ?_
  refine Wp.bipush dc_X12_isFrom_3 bp_114 ?_
  refine Wp.bipush dc_X12_isFrom_5 bp_111 ?_
  refine Wp.bipush dc_X12_isFrom_7 bp_109 ?_
  refine Wp.iconst dc_X12_isFrom_9 ic_0 ?_
  refine Wp.iconst dc_X12_isFrom_10 ic_0 ?_
  obtain ⟨v11, h11, hE⟩ := bnd hE
  refine Wp.cS6l (ok_X12_spelled  h11) dc_X12_isFrom_11 mw_X12_157 (by decide) (Nat.le_of_ble_eq_true rfl) ?_
  obtain ⟨v14, h14, hE⟩ := bnd hE
  refine Wp.cV1i (ok_X12_isWord  h14) dc_X12_isFrom_14 mw_X12_161 (mO11 (by decide)) (by decide) (Nat.le_of_ble_eq_true rfl) ?_
  obtain ⟨b17, h17, hE⟩ := bnd hE
  obtain ⟨e_17, hb17⟩ := zb_some h17
  skip
  cases hE
  exact Wp.ireturn dc_X12_isFrom_17 rfl hb17.1 (Nat.le_refl _) (Nat.le_refl _) hK
theorem ok_X12_isFrom  {σ : SS}   {o}   (hE : X12_isFrom  σ   = some o) : Runs 1 0 0 mi_X12_isFrom [vr 11 0] (hp σ) (fun v h => v = some (vi o) ∧ h = hp σ) := by
  refine Runs.of pn_X12 (Nat.le_of_ble_eq_true rfl) ?_
  exact ok_X12_isFrom_j0   hE ⟨rfl, rfl⟩
theorem ok_X12_stateWord_j0 {Q : Option AV → AH → Prop}  {σ : SS}   {o}    (hE : X12_stateWord_j0  σ   = some o) (hK : Q (some (vi o)) (hp σ)) : Ws 1 mi_X12_stateWord Q 0 [some (vr 11 0)] [] σ := by
  unfold X12_stateWord_j0 at hE
  refine Wp.aload_n dc_X12_stateWord_0 rfl ?_
  refine Wp.bipush dc_X12_stateWord_1 bp_116 ?_
  refine Wp.bipush dc_X12_stateWord_3 bp_104 ?_
  refine Wp.bipush dc_X12_stateWord_5 bp_114 ?_
  refine Wp.bipush dc_X12_stateWord_7 bp_101 ?_
  refine Wp.bipush dc_X12_stateWord_9 bp_97 ?_
  refine Wp.bipush dc_X12_stateWord_11 bp_100 ?_
  obtain ⟨v13, h13, hE⟩ := bnd hE
  refine Wp.cS6l (ok_X12_spelled  h13) dc_X12_stateWord_13 mw_X12_157 (by decide) (Nat.le_of_ble_eq_true rfl) ?_
  refine Wp.ldc2 dc_X12_stateWord_16 kw_X12_141 ?_
  refine Wp.lmul dc_X12_stateWord_19 ?_
  refine Wp.ldc2 dc_X12_stateWord_20 kw_X12_165 ?_
  refine Wp.ladd dc_X12_stateWord_23 ?_
  refine Wp.ldc2 dc_X12_stateWord_24 kw_X12_141 ?_
  refine Wp.lmul dc_X12_stateWord_27 ?_
  refine Wp.ldc2 dc_X12_stateWord_28 kw_X12_167 ?_
  refine Wp.ladd dc_X12_stateWord_31 ?_
  obtain ⟨v32, h32, hE⟩ := bnd hE
  refine Wp.cV1i (ok_X12_isWord  h32) dc_X12_stateWord_32 mw_X12_161 (mO11 (by decide)) (by decide) (Nat.le_of_ble_eq_true rfl) ?_
  refine Wp.if_eq (tgt := 40) dc_X12_stateWord_35 (by decide) (fun hc35 => ?_) (fun hc35 => ?_)
  · rw [if_pos hc35] at hE
    refine Wp.aload_n dc_X12_stateWord_40 rfl ?_
    refine Wp.bipush dc_X12_stateWord_41 bp_116 ?_
    refine Wp.bipush dc_X12_stateWord_43 bp_105 ?_
    refine Wp.bipush dc_X12_stateWord_45 bp_103 ?_
    refine Wp.bipush dc_X12_stateWord_47 bp_104 ?_
    refine Wp.bipush dc_X12_stateWord_49 bp_116 ?_
    refine Wp.iconst dc_X12_stateWord_51 ic_0 ?_
    obtain ⟨v52, h52, hE⟩ := bnd hE
    refine Wp.cS6l (ok_X12_spelled  h52) dc_X12_stateWord_52 mw_X12_157 (by decide) (Nat.le_of_ble_eq_true rfl) ?_
    obtain ⟨v55, h55, hE⟩ := bnd hE
    refine Wp.cV1i (ok_X12_isWord  h55) dc_X12_stateWord_55 mw_X12_161 (mO11 (by decide)) (by decide) (Nat.le_of_ble_eq_true rfl) ?_
    refine Wp.if_eq (tgt := 63) dc_X12_stateWord_58 (by decide) (fun hc58 => ?_) (fun hc58 => ?_)
    · rw [if_pos hc58] at hE
      refine Wp.aload_n dc_X12_stateWord_63 rfl ?_
      refine Wp.bipush dc_X12_stateWord_64 bp_107 ?_
      refine Wp.bipush dc_X12_stateWord_66 bp_110 ?_
      refine Wp.bipush dc_X12_stateWord_68 bp_111 ?_
      refine Wp.bipush dc_X12_stateWord_70 bp_116 ?_
      refine Wp.iconst dc_X12_stateWord_72 ic_0 ?_
      refine Wp.iconst dc_X12_stateWord_73 ic_0 ?_
      obtain ⟨v74, h74, hE⟩ := bnd hE
      refine Wp.cS6l (ok_X12_spelled  h74) dc_X12_stateWord_74 mw_X12_157 (by decide) (Nat.le_of_ble_eq_true rfl) ?_
      obtain ⟨v77, h77, hE⟩ := bnd hE
      refine Wp.cV1i (ok_X12_isWord  h77) dc_X12_stateWord_77 mw_X12_161 (mO11 (by decide)) (by decide) (Nat.le_of_ble_eq_true rfl) ?_
      refine Wp.if_eq (tgt := 87) dc_X12_stateWord_80 (by decide) (fun hc80 => ?_) (fun hc80 => ?_)
      · rw [if_pos hc80] at hE
        refine Wp.iconst dc_X12_stateWord_87 ic_0 ?_
        cases hE
        exact Wp.ireturn dc_X12_stateWord_88 rfl rfl (Nat.le_refl _) (Nat.le_refl _) hK
      · rw [if_neg hc80] at hE
        refine Wp.iconst dc_X12_stateWord_83 ic_3 ?_
        refine Wp.goto (tgt := 88) dc_X12_stateWord_84 (by decide) ?_
        cases hE
        exact Wp.ireturn dc_X12_stateWord_88 rfl rfl (Nat.le_refl _) (Nat.le_refl _) hK
    · rw [if_neg hc58] at hE
      refine Wp.iconst dc_X12_stateWord_61 ic_2 ?_
      cases hE
      exact Wp.ireturn dc_X12_stateWord_62 rfl rfl (Nat.le_refl _) (Nat.le_refl _) hK
  · rw [if_neg hc35] at hE
    refine Wp.iconst dc_X12_stateWord_38 ic_1 ?_
    cases hE
    exact Wp.ireturn dc_X12_stateWord_39 rfl rfl (Nat.le_refl _) (Nat.le_refl _) hK
theorem ok_X12_stateWord  {σ : SS}   {o}   (hE : X12_stateWord  σ   = some o) : Runs 1 0 0 mi_X12_stateWord [vr 11 0] (hp σ) (fun v h => v = some (vi o) ∧ h = hp σ) := by
  refine Runs.of pn_X12 (Nat.le_of_ble_eq_true rfl) ?_
  exact ok_X12_stateWord_j0   hE ⟨rfl, rfl⟩
theorem ok_X12_stepWord_j0 {Q : Option AV → AH → Prop}  {σ : SS}   {o}    (hE : X12_stepWord_j0  σ   = some o) (hK : Q (some (vi o)) (hp σ)) : Ws 2 mi_X12_stepWord Q 0 [some (vr 11 0)] [] σ := by
  unfold X12_stepWord_j0 at hE
  refine Wp.aload_n dc_X12_stepWord_0 rfl ?_
  refine Wp.bipush dc_X12_stepWord_1 bp_111 ?_
  refine Wp.bipush dc_X12_stepWord_3 bp_112 ?_
  refine Wp.bipush dc_X12_stepWord_5 bp_101 ?_
  refine Wp.bipush dc_X12_stepWord_7 bp_110 ?_
  refine Wp.iconst dc_X12_stepWord_9 ic_0 ?_
  refine Wp.iconst dc_X12_stepWord_10 ic_0 ?_
  obtain ⟨v11, h11, hE⟩ := bnd hE
  refine Wp.cS6l (ok_X12_spelled  h11) dc_X12_stepWord_11 mw_X12_157 (by decide) (Nat.le_of_ble_eq_true rfl) ?_
  obtain ⟨v14, h14, hE⟩ := bnd hE
  refine Wp.cV1i (ok_X12_isWord  h14) dc_X12_stepWord_14 mw_X12_161 (mO11 (by decide)) (by decide) (Nat.le_of_ble_eq_true rfl) ?_
  refine Wp.if_eq (tgt := 22) dc_X12_stepWord_17 (by decide) (fun hc17 => ?_) (fun hc17 => ?_)
  · rw [if_pos hc17] at hE
    refine Wp.aload_n dc_X12_stepWord_22 rfl ?_
    refine Wp.bipush dc_X12_stepWord_23 bp_116 ?_
    refine Wp.bipush dc_X12_stepWord_25 bp_97 ?_
    refine Wp.bipush dc_X12_stepWord_27 bp_107 ?_
    refine Wp.bipush dc_X12_stepWord_29 bp_101 ?_
    refine Wp.iconst dc_X12_stepWord_31 ic_0 ?_
    refine Wp.iconst dc_X12_stepWord_32 ic_0 ?_
    obtain ⟨v33, h33, hE⟩ := bnd hE
    refine Wp.cS6l (ok_X12_spelled  h33) dc_X12_stepWord_33 mw_X12_157 (by decide) (Nat.le_of_ble_eq_true rfl) ?_
    obtain ⟨v36, h36, hE⟩ := bnd hE
    refine Wp.cV1i (ok_X12_isWord  h36) dc_X12_stepWord_36 mw_X12_161 (mO11 (by decide)) (by decide) (Nat.le_of_ble_eq_true rfl) ?_
    refine Wp.if_eq (tgt := 44) dc_X12_stepWord_39 (by decide) (fun hc39 => ?_) (fun hc39 => ?_)
    · rw [if_pos hc39] at hE
      refine Wp.aload_n dc_X12_stepWord_44 rfl ?_
      refine Wp.bipush dc_X12_stepWord_45 bp_108 ?_
      refine Wp.bipush dc_X12_stepWord_47 bp_111 ?_
      refine Wp.bipush dc_X12_stepWord_49 bp_111 ?_
      refine Wp.bipush dc_X12_stepWord_51 bp_115 ?_
      refine Wp.bipush dc_X12_stepWord_53 bp_101 ?_
      refine Wp.bipush dc_X12_stepWord_55 bp_110 ?_
      obtain ⟨v57, h57, hE⟩ := bnd hE
      refine Wp.cS6l (ok_X12_spelled  h57) dc_X12_stepWord_57 mw_X12_157 (by decide) (Nat.le_of_ble_eq_true rfl) ?_
      obtain ⟨v60, h60, hE⟩ := bnd hE
      refine Wp.cV1i (ok_X12_isWord  h60) dc_X12_stepWord_60 mw_X12_161 (mO11 (by decide)) (by decide) (Nat.le_of_ble_eq_true rfl) ?_
      refine Wp.if_eq (tgt := 68) dc_X12_stepWord_63 (by decide) (fun hc63 => ?_) (fun hc63 => ?_)
      · rw [if_pos hc63] at hE
        refine Wp.aload_n dc_X12_stepWord_68 rfl ?_
        refine Wp.bipush dc_X12_stepWord_69 bp_112 ?_
        refine Wp.bipush dc_X12_stepWord_71 bp_117 ?_
        refine Wp.bipush dc_X12_stepWord_73 bp_108 ?_
        refine Wp.bipush dc_X12_stepWord_75 bp_108 ?_
        refine Wp.iconst dc_X12_stepWord_77 ic_0 ?_
        refine Wp.iconst dc_X12_stepWord_78 ic_0 ?_
        obtain ⟨v79, h79, hE⟩ := bnd hE
        refine Wp.cS6l (ok_X12_spelled  h79) dc_X12_stepWord_79 mw_X12_157 (by decide) (Nat.le_of_ble_eq_true rfl) ?_
        obtain ⟨v82, h82, hE⟩ := bnd hE
        refine Wp.cV1i (ok_X12_isWord  h82) dc_X12_stepWord_82 mw_X12_161 (mO11 (by decide)) (by decide) (Nat.le_of_ble_eq_true rfl) ?_
        refine Wp.if_eq (tgt := 90) dc_X12_stepWord_85 (by decide) (fun hc85 => ?_) (fun hc85 => ?_)
        · rw [if_pos hc85] at hE
          refine Wp.aload_n dc_X12_stepWord_90 rfl ?_
          refine Wp.bipush dc_X12_stepWord_91 bp_99 ?_
          refine Wp.bipush dc_X12_stepWord_93 bp_117 ?_
          refine Wp.bipush dc_X12_stepWord_95 bp_116 ?_
          refine Wp.iconst dc_X12_stepWord_97 ic_0 ?_
          refine Wp.iconst dc_X12_stepWord_98 ic_0 ?_
          refine Wp.iconst dc_X12_stepWord_99 ic_0 ?_
          obtain ⟨v100, h100, hE⟩ := bnd hE
          refine Wp.cS6l (ok_X12_spelled  h100) dc_X12_stepWord_100 mw_X12_157 (by decide) (Nat.le_of_ble_eq_true rfl) ?_
          obtain ⟨v103, h103, hE⟩ := bnd hE
          refine Wp.cV1i (ok_X12_isWord  h103) dc_X12_stepWord_103 mw_X12_161 (mO11 (by decide)) (by decide) (Nat.le_of_ble_eq_true rfl) ?_
          refine Wp.if_eq (tgt := 111) dc_X12_stepWord_106 (by decide) (fun hc106 => ?_) (fun hc106 => ?_)
          · rw [if_pos hc106] at hE
            refine Wp.aload_n dc_X12_stepWord_111 rfl ?_
            obtain ⟨v112, h112, hE⟩ := bnd hE
            refine Wp.cV0i (ok_X12_isClip  h112) dc_X12_stepWord_112 mw_X12_169 (mO11 (by decide)) (by decide) (Nat.le_of_ble_eq_true rfl) ?_
            refine Wp.if_eq (tgt := 120) dc_X12_stepWord_115 (by decide) (fun hc115 => ?_) (fun hc115 => ?_)
            · rw [if_pos hc115] at hE
              refine Wp.aload_n dc_X12_stepWord_120 rfl ?_
              refine Wp.bipush dc_X12_stepWord_121 bp_119 ?_
              refine Wp.bipush dc_X12_stepWord_123 bp_104 ?_
              refine Wp.bipush dc_X12_stepWord_125 bp_101 ?_
              refine Wp.bipush dc_X12_stepWord_127 bp_110 ?_
              refine Wp.iconst dc_X12_stepWord_129 ic_0 ?_
              refine Wp.iconst dc_X12_stepWord_130 ic_0 ?_
              obtain ⟨v131, h131, hE⟩ := bnd hE
              refine Wp.cS6l (ok_X12_spelled  h131) dc_X12_stepWord_131 mw_X12_157 (by decide) (Nat.le_of_ble_eq_true rfl) ?_
              obtain ⟨v134, h134, hE⟩ := bnd hE
              refine Wp.cV1i (ok_X12_isWord  h134) dc_X12_stepWord_134 mw_X12_161 (mO11 (by decide)) (by decide) (Nat.le_of_ble_eq_true rfl) ?_
              refine Wp.if_eq (tgt := 143) dc_X12_stepWord_137 (by decide) (fun hc137 => ?_) (fun hc137 => ?_)
              · rw [if_pos hc137] at hE
                refine Wp.aload_n dc_X12_stepWord_143 rfl ?_
                refine Wp.bipush dc_X12_stepWord_144 bp_108 ?_
                refine Wp.bipush dc_X12_stepWord_146 bp_111 ?_
                refine Wp.bipush dc_X12_stepWord_148 bp_111 ?_
                refine Wp.bipush dc_X12_stepWord_150 bp_112 ?_
                refine Wp.iconst dc_X12_stepWord_152 ic_0 ?_
                refine Wp.iconst dc_X12_stepWord_153 ic_0 ?_
                obtain ⟨v154, h154, hE⟩ := bnd hE
                refine Wp.cS6l (ok_X12_spelled  h154) dc_X12_stepWord_154 mw_X12_157 (by decide) (Nat.le_of_ble_eq_true rfl) ?_
                obtain ⟨v157, h157, hE⟩ := bnd hE
                refine Wp.cV1i (ok_X12_isWord  h157) dc_X12_stepWord_157 mw_X12_161 (mO11 (by decide)) (by decide) (Nat.le_of_ble_eq_true rfl) ?_
                refine Wp.if_eq (tgt := 166) dc_X12_stepWord_160 (by decide) (fun hc160 => ?_) (fun hc160 => ?_)
                · rw [if_pos hc160] at hE
                  refine Wp.aload_n dc_X12_stepWord_166 rfl ?_
                  refine Wp.bipush dc_X12_stepWord_167 bp_115 ?_
                  refine Wp.bipush dc_X12_stepWord_169 bp_116 ?_
                  refine Wp.bipush dc_X12_stepWord_171 bp_111 ?_
                  refine Wp.bipush dc_X12_stepWord_173 bp_112 ?_
                  refine Wp.iconst dc_X12_stepWord_175 ic_0 ?_
                  refine Wp.iconst dc_X12_stepWord_176 ic_0 ?_
                  obtain ⟨v177, h177, hE⟩ := bnd hE
                  refine Wp.cS6l (ok_X12_spelled  h177) dc_X12_stepWord_177 mw_X12_157 (by decide) (Nat.le_of_ble_eq_true rfl) ?_
                  obtain ⟨v180, h180, hE⟩ := bnd hE
                  refine Wp.cV1i (ok_X12_isWord  h180) dc_X12_stepWord_180 mw_X12_161 (mO11 (by decide)) (by decide) (Nat.le_of_ble_eq_true rfl) ?_
                  refine Wp.if_eq (tgt := 191) dc_X12_stepWord_183 (by decide) (fun hc183 => ?_) (fun hc183 => ?_)
                  · rw [if_pos hc183] at hE
                    refine Wp.iconst dc_X12_stepWord_191 ic_m1 ?_
                    cases hE
                    exact Wp.ireturn dc_X12_stepWord_192 rfl rfl (Nat.le_refl _) (Nat.le_refl _) hK
                  · rw [if_neg hc183] at hE
                    refine Wp.bipush dc_X12_stepWord_186 bp_8 ?_
                    refine Wp.goto (tgt := 192) dc_X12_stepWord_188 (by decide) ?_
                    cases hE
                    exact Wp.ireturn dc_X12_stepWord_192 rfl rfl (Nat.le_refl _) (Nat.le_refl _) hK
                · rw [if_neg hc160] at hE
                  refine Wp.bipush dc_X12_stepWord_163 bp_7 ?_
                  cases hE
                  exact Wp.ireturn dc_X12_stepWord_165 rfl rfl (Nat.le_refl _) (Nat.le_refl _) hK
              · rw [if_neg hc137] at hE
                refine Wp.bipush dc_X12_stepWord_140 bp_6 ?_
                cases hE
                exact Wp.ireturn dc_X12_stepWord_142 rfl rfl (Nat.le_refl _) (Nat.le_refl _) hK
            · rw [if_neg hc115] at hE
              refine Wp.iconst dc_X12_stepWord_118 ic_5 ?_
              cases hE
              exact Wp.ireturn dc_X12_stepWord_119 rfl rfl (Nat.le_refl _) (Nat.le_refl _) hK
          · rw [if_neg hc106] at hE
            refine Wp.iconst dc_X12_stepWord_109 ic_4 ?_
            cases hE
            exact Wp.ireturn dc_X12_stepWord_110 rfl rfl (Nat.le_refl _) (Nat.le_refl _) hK
        · rw [if_neg hc85] at hE
          refine Wp.iconst dc_X12_stepWord_88 ic_3 ?_
          cases hE
          exact Wp.ireturn dc_X12_stepWord_89 rfl rfl (Nat.le_refl _) (Nat.le_refl _) hK
      · rw [if_neg hc63] at hE
        refine Wp.iconst dc_X12_stepWord_66 ic_2 ?_
        cases hE
        exact Wp.ireturn dc_X12_stepWord_67 rfl rfl (Nat.le_refl _) (Nat.le_refl _) hK
    · rw [if_neg hc39] at hE
      refine Wp.iconst dc_X12_stepWord_42 ic_1 ?_
      cases hE
      exact Wp.ireturn dc_X12_stepWord_43 rfl rfl (Nat.le_refl _) (Nat.le_refl _) hK
  · rw [if_neg hc17] at hE
    refine Wp.iconst dc_X12_stepWord_20 ic_0 ?_
    cases hE
    exact Wp.ireturn dc_X12_stepWord_21 rfl rfl (Nat.le_refl _) (Nat.le_refl _) hK
theorem ok_X12_stepWord  {σ : SS}   {o}   (hE : X12_stepWord  σ   = some o) : Runs 2 0 0 mi_X12_stepWord [vr 11 0] (hp σ) (fun v h => v = some (vi o) ∧ h = hp σ) := by
  refine Runs.of pn_X12 (Nat.le_of_ble_eq_true rfl) ?_
  exact ok_X12_stepWord_j0   hE ⟨rfl, rfl⟩
theorem ok_X12_testWord_j0 {Q : Option AV → AH → Prop}  {σ : SS}   {o}    (hE : X12_testWord_j0  σ   = some o) (hK : Q (some (vi o)) (hp σ)) : Ws 2 mi_X12_testWord Q 0 [some (vr 11 0)] [] σ := by
  unfold X12_testWord_j0 at hE
  refine Wp.aload_n dc_X12_testWord_0 rfl ?_
  refine Wp.bipush dc_X12_testWord_1 bp_108 ?_
  refine Wp.bipush dc_X12_testWord_3 bp_117 ?_
  refine Wp.bipush dc_X12_testWord_5 bp_109 ?_
  refine Wp.bipush dc_X12_testWord_7 bp_112 ?_
  refine Wp.iconst dc_X12_testWord_9 ic_0 ?_
  refine Wp.iconst dc_X12_testWord_10 ic_0 ?_
  obtain ⟨v11, h11, hE⟩ := bnd hE
  refine Wp.cS6l (ok_X12_spelled  h11) dc_X12_testWord_11 mw_X12_157 (by decide) (Nat.le_of_ble_eq_true rfl) ?_
  obtain ⟨v14, h14, hE⟩ := bnd hE
  refine Wp.cV1i (ok_X12_isWord  h14) dc_X12_testWord_14 mw_X12_161 (mO11 (by decide)) (by decide) (Nat.le_of_ble_eq_true rfl) ?_
  refine Wp.if_eq (tgt := 22) dc_X12_testWord_17 (by decide) (fun hc17 => ?_) (fun hc17 => ?_)
  · rw [if_pos hc17] at hE
    refine Wp.aload_n dc_X12_testWord_22 rfl ?_
    obtain ⟨v23, h23, hE⟩ := bnd hE
    refine Wp.cV0i (ok_X12_isCross  h23) dc_X12_testWord_23 mw_X12_173 (mO11 (by decide)) (by decide) (Nat.le_of_ble_eq_true rfl) ?_
    refine Wp.if_eq (tgt := 31) dc_X12_testWord_26 (by decide) (fun hc26 => ?_) (fun hc26 => ?_)
    · rw [if_pos hc26] at hE
      refine Wp.aload_n dc_X12_testWord_31 rfl ?_
      refine Wp.bipush dc_X12_testWord_32 bp_102 ?_
      refine Wp.bipush dc_X12_testWord_34 bp_114 ?_
      refine Wp.bipush dc_X12_testWord_36 bp_101 ?_
      refine Wp.bipush dc_X12_testWord_38 bp_101 ?_
      refine Wp.iconst dc_X12_testWord_40 ic_0 ?_
      refine Wp.iconst dc_X12_testWord_41 ic_0 ?_
      obtain ⟨v42, h42, hE⟩ := bnd hE
      refine Wp.cS6l (ok_X12_spelled  h42) dc_X12_testWord_42 mw_X12_157 (by decide) (Nat.le_of_ble_eq_true rfl) ?_
      obtain ⟨v45, h45, hE⟩ := bnd hE
      refine Wp.cV1i (ok_X12_isWord  h45) dc_X12_testWord_45 mw_X12_161 (mO11 (by decide)) (by decide) (Nat.le_of_ble_eq_true rfl) ?_
      refine Wp.if_eq (tgt := 55) dc_X12_testWord_48 (by decide) (fun hc48 => ?_) (fun hc48 => ?_)
      · rw [if_pos hc48] at hE
        refine Wp.iconst dc_X12_testWord_55 ic_m1 ?_
        cases hE
        exact Wp.ireturn dc_X12_testWord_56 rfl rfl (Nat.le_refl _) (Nat.le_refl _) hK
      · rw [if_neg hc48] at hE
        refine Wp.iconst dc_X12_testWord_51 ic_2 ?_
        refine Wp.goto (tgt := 56) dc_X12_testWord_52 (by decide) ?_
        cases hE
        exact Wp.ireturn dc_X12_testWord_56 rfl rfl (Nat.le_refl _) (Nat.le_refl _) hK
    · rw [if_neg hc26] at hE
      refine Wp.iconst dc_X12_testWord_29 ic_1 ?_
      cases hE
      exact Wp.ireturn dc_X12_testWord_30 rfl rfl (Nat.le_refl _) (Nat.le_refl _) hK
  · rw [if_neg hc17] at hE
    refine Wp.iconst dc_X12_testWord_20 ic_0 ?_
    cases hE
    exact Wp.ireturn dc_X12_testWord_21 rfl rfl (Nat.le_refl _) (Nat.le_refl _) hK
theorem ok_X12_testWord  {σ : SS}   {o}   (hE : X12_testWord  σ   = some o) : Runs 2 0 0 mi_X12_testWord [vr 11 0] (hp σ) (fun v h => v = some (vi o) ∧ h = hp σ) := by
  refine Runs.of pn_X12 (Nat.le_of_ble_eq_true rfl) ?_
  exact ok_X12_testWord_j0   hE ⟨rfl, rfl⟩
theorem ok_X12_isEnd_j0 {Q : Option AV → AH → Prop}  {σ : SS}   {o}    (hE : X12_isEnd_j0  σ   = some o) (hK : Q (some (vi o)) (hp σ)) : Ws 1 mi_X12_isEnd Q 0 [some (vr 11 0)] [] σ := by
  unfold X12_isEnd_j0 at hE
  refine Wp.aload_n dc_X12_isEnd_0 rfl ?_
  refine Wp.bipush dc_X12_isEnd_1 bp_101 ?_
  refine Wp.bipush dc_X12_isEnd_3 bp_110 ?_
  refine Wp.bipush dc_X12_isEnd_5 bp_100 ?_
  refine Wp.iconst dc_X12_isEnd_7 ic_0 ?_
  refine Wp.iconst dc_X12_isEnd_8 ic_0 ?_
  refine Wp.iconst dc_X12_isEnd_9 ic_0 ?_
  obtain ⟨v10, h10, hE⟩ := bnd hE
  refine Wp.cS6l (ok_X12_spelled  h10) dc_X12_isEnd_10 mw_X12_157 (by decide) (Nat.le_of_ble_eq_true rfl) ?_
  obtain ⟨v13, h13, hE⟩ := bnd hE
  refine Wp.cV1i (ok_X12_isWord  h13) dc_X12_isEnd_13 mw_X12_161 (mO11 (by decide)) (by decide) (Nat.le_of_ble_eq_true rfl) ?_
  obtain ⟨b16, h16, hE⟩ := bnd hE
  obtain ⟨e_16, hb16⟩ := zb_some h16
  skip
  cases hE
  exact Wp.ireturn dc_X12_isEnd_16 rfl hb16.1 (Nat.le_refl _) (Nat.le_refl _) hK
theorem ok_X12_isEnd  {σ : SS}   {o}   (hE : X12_isEnd  σ   = some o) : Runs 1 0 0 mi_X12_isEnd [vr 11 0] (hp σ) (fun v h => v = some (vi o) ∧ h = hp σ) := by
  refine Runs.of pn_X12 (Nat.le_of_ble_eq_true rfl) ?_
  exact ok_X12_isEnd_j0   hE ⟨rfl, rfl⟩
theorem ok_X12_isKept_j100 {Q : Option AV → AH → Prop}  {σ : SS}   {o} {z0 : Option AV}   (hE : X12_isKept_j100  σ   = some o) (hK : Q (some (vi o)) (hp σ)) : Ws 3 mi_X12_isKept Q 100 [z0] [] σ := by
  unfold X12_isKept_j100 at hE
  refine Wp.iconst dc_X12_isKept_100 ic_1 ?_
  refine Wp.goto (tgt := 105) dc_X12_isKept_101 (by decide) ?_
  cases hE
  exact Wp.ireturn dc_X12_isKept_105 rfl Nr.z1.1 (Nat.le_refl _) (Nat.le_refl _) hK
theorem ok_X12_isKept_j0 {Q : Option AV → AH → Prop}  {σ : SS}   {o}    (hE : X12_isKept_j0  σ   = some o) (hK : Q (some (vi o)) (hp σ)) : Ws 3 mi_X12_isKept Q 0 [some (vr 11 0)] [] σ := by
  unfold X12_isKept_j0 at hE
  refine Wp.aload_n dc_X12_isKept_0 rfl ?_
  obtain ⟨v1, h1, hE⟩ := bnd hE
  refine Wp.cV0i (ok_X12_isLead  h1) dc_X12_isKept_1 mw_X12_176 (mO11 (by decide)) (by decide) (Nat.le_of_ble_eq_true rfl) ?_
  refine Wp.if_ne (tgt := 70) dc_X12_isKept_4 (by decide) (fun hc4 => ?_) (fun hc4 => ?_)
  · rw [if_neg hc4] at hE
    refine Wp.iconst dc_X12_isKept_70 ic_1 ?_
    cases hE
    exact Wp.ireturn dc_X12_isKept_71 rfl Nr.z1.1 (Nat.le_refl _) (Nat.le_refl _) hK
  · rw [if_pos hc4] at hE
    refine Wp.aload_n dc_X12_isKept_7 rfl ?_
    obtain ⟨v8, h8, hE⟩ := bnd hE
    refine Wp.cV0i (ok_X12_isLong  h8) dc_X12_isKept_8 mw_X12_179 (mO11 (by decide)) (by decide) (Nat.le_of_ble_eq_true rfl) ?_
    refine Wp.if_ne (tgt := 70) dc_X12_isKept_11 (by decide) (fun hc11 => ?_) (fun hc11 => ?_)
    · rw [if_neg hc11] at hE
      refine Wp.iconst dc_X12_isKept_70 ic_1 ?_
      cases hE
      exact Wp.ireturn dc_X12_isKept_71 rfl Nr.z1.1 (Nat.le_refl _) (Nat.le_refl _) hK
    · rw [if_pos hc11] at hE
      refine Wp.aload_n dc_X12_isKept_14 rfl ?_
      obtain ⟨v15, h15, hE⟩ := bnd hE
      refine Wp.cV0i (ok_X12_isStiff  h15) dc_X12_isKept_15 mw_X12_182 (mO11 (by decide)) (by decide) (Nat.le_of_ble_eq_true rfl) ?_
      refine Wp.if_ne (tgt := 70) dc_X12_isKept_18 (by decide) (fun hc18 => ?_) (fun hc18 => ?_)
      · rw [if_neg hc18] at hE
        refine Wp.iconst dc_X12_isKept_70 ic_1 ?_
        cases hE
        exact Wp.ireturn dc_X12_isKept_71 rfl Nr.z1.1 (Nat.le_refl _) (Nat.le_refl _) hK
      · rw [if_pos hc18] at hE
        refine Wp.aload_n dc_X12_isKept_21 rfl ?_
        obtain ⟨v22, h22, hE⟩ := bnd hE
        refine Wp.cV0i (ok_X12_isEnds  h22) dc_X12_isKept_22 mw_X12_185 (mO11 (by decide)) (by decide) (Nat.le_of_ble_eq_true rfl) ?_
        refine Wp.if_ne (tgt := 70) dc_X12_isKept_25 (by decide) (fun hc25 => ?_) (fun hc25 => ?_)
        · rw [if_neg hc25] at hE
          refine Wp.iconst dc_X12_isKept_70 ic_1 ?_
          cases hE
          exact Wp.ireturn dc_X12_isKept_71 rfl Nr.z1.1 (Nat.le_refl _) (Nat.le_refl _) hK
        · rw [if_pos hc25] at hE
          refine Wp.aload_n dc_X12_isKept_28 rfl ?_
          obtain ⟨v29, h29, hE⟩ := bnd hE
          refine Wp.cV0i (ok_X12_isCosts  h29) dc_X12_isKept_29 mw_X12_188 (mO11 (by decide)) (by decide) (Nat.le_of_ble_eq_true rfl) ?_
          refine Wp.if_ne (tgt := 70) dc_X12_isKept_32 (by decide) (fun hc32 => ?_) (fun hc32 => ?_)
          · rw [if_neg hc32] at hE
            refine Wp.iconst dc_X12_isKept_70 ic_1 ?_
            cases hE
            exact Wp.ireturn dc_X12_isKept_71 rfl Nr.z1.1 (Nat.le_refl _) (Nat.le_refl _) hK
          · rw [if_pos hc32] at hE
            refine Wp.aload_n dc_X12_isKept_35 rfl ?_
            obtain ⟨v36, h36, hE⟩ := bnd hE
            refine Wp.cV0i (ok_X12_isUsed  h36) dc_X12_isKept_36 mw_X12_191 (mO11 (by decide)) (by decide) (Nat.le_of_ble_eq_true rfl) ?_
            refine Wp.if_ne (tgt := 70) dc_X12_isKept_39 (by decide) (fun hc39 => ?_) (fun hc39 => ?_)
            · rw [if_neg hc39] at hE
              refine Wp.iconst dc_X12_isKept_70 ic_1 ?_
              cases hE
              exact Wp.ireturn dc_X12_isKept_71 rfl Nr.z1.1 (Nat.le_refl _) (Nat.le_refl _) hK
            · rw [if_pos hc39] at hE
              refine Wp.aload_n dc_X12_isKept_42 rfl ?_
              obtain ⟨v43, h43, hE⟩ := bnd hE
              refine Wp.cV0i (ok_X12_isClip  h43) dc_X12_isKept_43 mw_X12_169 (mO11 (by decide)) (by decide) (Nat.le_of_ble_eq_true rfl) ?_
              refine Wp.if_ne (tgt := 70) dc_X12_isKept_46 (by decide) (fun hc46 => ?_) (fun hc46 => ?_)
              · rw [if_neg hc46] at hE
                refine Wp.iconst dc_X12_isKept_70 ic_1 ?_
                cases hE
                exact Wp.ireturn dc_X12_isKept_71 rfl Nr.z1.1 (Nat.le_refl _) (Nat.le_refl _) hK
              · rw [if_pos hc46] at hE
                refine Wp.aload_n dc_X12_isKept_49 rfl ?_
                obtain ⟨v50, h50, hE⟩ := bnd hE
                refine Wp.cV0i (ok_X12_isCross  h50) dc_X12_isKept_50 mw_X12_173 (mO11 (by decide)) (by decide) (Nat.le_of_ble_eq_true rfl) ?_
                refine Wp.if_ne (tgt := 70) dc_X12_isKept_53 (by decide) (fun hc53 => ?_) (fun hc53 => ?_)
                · rw [if_neg hc53] at hE
                  refine Wp.iconst dc_X12_isKept_70 ic_1 ?_
                  cases hE
                  exact Wp.ireturn dc_X12_isKept_71 rfl Nr.z1.1 (Nat.le_refl _) (Nat.le_refl _) hK
                · rw [if_pos hc53] at hE
                  refine Wp.aload_n dc_X12_isKept_56 rfl ?_
                  obtain ⟨v57, h57, hE⟩ := bnd hE
                  refine Wp.cV0i (ok_X12_isLook  h57) dc_X12_isKept_57 mw_X12_194 (mO11 (by decide)) (by decide) (Nat.le_of_ble_eq_true rfl) ?_
                  refine Wp.if_ne (tgt := 70) dc_X12_isKept_60 (by decide) (fun hc60 => ?_) (fun hc60 => ?_)
                  · rw [if_neg hc60] at hE
                    refine Wp.iconst dc_X12_isKept_70 ic_1 ?_
                    cases hE
                    exact Wp.ireturn dc_X12_isKept_71 rfl Nr.z1.1 (Nat.le_refl _) (Nat.le_refl _) hK
                  · rw [if_pos hc60] at hE
                    refine Wp.aload_n dc_X12_isKept_63 rfl ?_
                    obtain ⟨v64, h64, hE⟩ := bnd hE
                    refine Wp.cV0i (ok_X12_isFrom  h64) dc_X12_isKept_64 mw_X12_197 (mO11 (by decide)) (by decide) (Nat.le_of_ble_eq_true rfl) ?_
                    refine Wp.if_eq (tgt := 72) dc_X12_isKept_67 (by decide) (fun hc67 => ?_) (fun hc67 => ?_)
                    · rw [if_pos hc67] at hE
                      refine Wp.aload_n dc_X12_isKept_72 rfl ?_
                      obtain ⟨v73, h73, hE⟩ := bnd hE
                      refine Wp.cV0i (ok_X12_stateWord  h73) dc_X12_isKept_73 mw_X12_200 (mO11 (by decide)) (by decide) (Nat.le_of_ble_eq_true rfl) ?_
                      refine Wp.if_gt (tgt := 100) dc_X12_isKept_76 (by decide) (fun hc76 => ?_) (fun hc76 => ?_)
                      · rw [if_pos hc76] at hE
                        exact ok_X12_isKept_j100   hE hK
                      · rw [if_neg hc76] at hE
                        refine Wp.aload_n dc_X12_isKept_79 rfl ?_
                        obtain ⟨v80, h80, hE⟩ := bnd hE
                        refine Wp.cV0i (ok_X12_stepWord  h80) dc_X12_isKept_80 mw_X12_204 (mO11 (by decide)) (by decide) (Nat.le_of_ble_eq_true rfl) ?_
                        refine Wp.if_ge (tgt := 100) dc_X12_isKept_83 (by decide) (fun hc83 => ?_) (fun hc83 => ?_)
                        · rw [if_pos hc83] at hE
                          exact ok_X12_isKept_j100   hE hK
                        · rw [if_neg hc83] at hE
                          refine Wp.aload_n dc_X12_isKept_86 rfl ?_
                          obtain ⟨v87, h87, hE⟩ := bnd hE
                          refine Wp.cV0i (ok_X12_testWord  h87) dc_X12_isKept_87 mw_X12_207 (mO11 (by decide)) (by decide) (Nat.le_of_ble_eq_true rfl) ?_
                          refine Wp.if_ge (tgt := 100) dc_X12_isKept_90 (by decide) (fun hc90 => ?_) (fun hc90 => ?_)
                          · rw [if_pos hc90] at hE
                            exact ok_X12_isKept_j100   hE hK
                          · rw [if_neg hc90] at hE
                            refine Wp.aload_n dc_X12_isKept_93 rfl ?_
                            obtain ⟨v94, h94, hE⟩ := bnd hE
                            refine Wp.cV0i (ok_X12_isEnd  h94) dc_X12_isKept_94 mw_X12_210 (mO11 (by decide)) (by decide) (Nat.le_of_ble_eq_true rfl) ?_
                            refine Wp.if_eq (tgt := 104) dc_X12_isKept_97 (by decide) (fun hc97 => ?_) (fun hc97 => ?_)
                            · rw [if_pos hc97] at hE
                              refine Wp.iconst dc_X12_isKept_104 ic_0 ?_
                              cases hE
                              exact Wp.ireturn dc_X12_isKept_105 rfl Nr.z0.1 (Nat.le_refl _) (Nat.le_refl _) hK
                            · rw [if_neg hc97] at hE
                              exact ok_X12_isKept_j100   hE hK
                    · rw [if_neg hc67] at hE
                      refine Wp.iconst dc_X12_isKept_70 ic_1 ?_
                      cases hE
                      exact Wp.ireturn dc_X12_isKept_71 rfl Nr.z1.1 (Nat.le_refl _) (Nat.le_refl _) hK
theorem ok_X12_isKept  {σ : SS}   {o}   (hE : X12_isKept  σ   = some o) : Runs 3 0 0 mi_X12_isKept [vr 11 0] (hp σ) (fun v h => v = some (vi o) ∧ h = hp σ) := by
  refine Runs.of pn_X12 (Nat.le_of_ble_eq_true rfl) ?_
  exact ok_X12_isKept_j0   hE ⟨rfl, rfl⟩
theorem ok_X12_isName_j0 {Q : Option AV → AH → Prop}  {σ : SS}   {o}    (hE : X12_isName_j0  σ   = some o) (hK : Q (some (vi o)) (hp σ)) : Ws 4 mi_X12_isName Q 0 [some (vr 11 0)] [] σ := by
  unfold X12_isName_j0 at hE
  refine Wp.aload_n dc_X12_isName_0 rfl ?_
  refine Wp.sgetI dc_X12_isName_1 fw_X12_132 (mO11 (by decide)) ?_
  refine Wp.iconst dc_X12_isName_4 ic_1 ?_
  refine Wp.icmp_ne (tgt := 28) dc_X12_isName_5 (by decide) (fun hc5 => ?_) (fun hc5 => ?_)
  · rw [if_neg hc5] at hE
    refine Wp.iconst dc_X12_isName_28 ic_0 ?_
    cases hE
    exact Wp.ireturn dc_X12_isName_29 rfl Nr.z0.1 (Nat.le_refl _) (Nat.le_refl _) hK
  · rw [if_pos hc5] at hE
    refine Wp.aload_n dc_X12_isName_8 rfl ?_
    refine Wp.sgetI dc_X12_isName_9 fw_X12_145 (mO11 (by decide)) ?_
    refine Wp.bipush dc_X12_isName_12 bp_8 ?_
    refine Wp.icmp_gt (tgt := 28) dc_X12_isName_14 (by decide) (fun hc14 => ?_) (fun hc14 => ?_)
    · rw [if_pos hc14] at hE
      refine Wp.iconst dc_X12_isName_28 ic_0 ?_
      cases hE
      exact Wp.ireturn dc_X12_isName_29 rfl Nr.z0.1 (Nat.le_refl _) (Nat.le_refl _) hK
    · rw [if_neg hc14] at hE
      refine Wp.aload_n dc_X12_isName_17 rfl ?_
      obtain ⟨v18, h18, hE⟩ := bnd hE
      refine Wp.cV0i (ok_X12_isKept  h18) dc_X12_isName_18 mw_X12_213 (mO11 (by decide)) (by decide) (Nat.le_of_ble_eq_true rfl) ?_
      refine Wp.if_ne (tgt := 28) dc_X12_isName_21 (by decide) (fun hc21 => ?_) (fun hc21 => ?_)
      · rw [if_neg hc21] at hE
        refine Wp.iconst dc_X12_isName_28 ic_0 ?_
        cases hE
        exact Wp.ireturn dc_X12_isName_29 rfl Nr.z0.1 (Nat.le_refl _) (Nat.le_refl _) hK
      · rw [if_pos hc21] at hE
        refine Wp.iconst dc_X12_isName_24 ic_1 ?_
        refine Wp.goto (tgt := 29) dc_X12_isName_25 (by decide) ?_
        cases hE
        exact Wp.ireturn dc_X12_isName_29 rfl Nr.z1.1 (Nat.le_refl _) (Nat.le_refl _) hK
theorem ok_X12_isName  {σ : SS}   {o}   (hE : X12_isName  σ   = some o) : Runs 4 0 0 mi_X12_isName [vr 11 0] (hp σ) (fun v h => v = some (vi o) ∧ h = hp σ) := by
  refine Runs.of pn_X12 (Nat.le_of_ble_eq_true rfl) ?_
  exact ok_X12_isName_j0   hE ⟨rfl, rfl⟩
theorem ok_X12_fail_j0 {Q : Option AV → AH → Prop}  {σ : SS}  {x1 : Int32} {x2 : Int32} {o}    (hE : X12_fail_j0  σ  x1 x2 = some o) (hK : Q none (hp o)) : Ws 0 mi_X12_fail Q 0 [some (vr 11 0), some (vi x1), some (vi x2)] [] σ := by
  unfold X12_fail_j0 at hE
  refine Wp.aload_n dc_X12_fail_0 rfl ?_
  refine Wp.sgetI dc_X12_fail_1 fw_X12_216 (mO11 (by decide)) ?_
  refine Wp.if_le (tgt := 8) dc_X12_fail_4 (by decide) (fun hc4 => ?_) (fun hc4 => ?_)
  · rw [if_pos hc4] at hE
    refine Wp.aload_n dc_X12_fail_8 rfl ?_
    refine Wp.iload_n dc_X12_fail_9 rfl ?_
    refine Wp.sputI dc_X12_fail_10 fw_X12_216 (mO11 (by decide)) (Nr.i _) ?_
    obtain ⟨σ10, es_10, hE⟩ := bnS hE
    rw [es_10]
    refine Wp.aload_n dc_X12_fail_13 rfl ?_
    refine Wp.iload_n dc_X12_fail_14 rfl ?_
    refine Wp.sputI dc_X12_fail_15 fw_X12_219 (mO11 (by decide)) (Nr.i _) ?_
    obtain ⟨σ15, es_15, hE⟩ := bnS hE
    rw [es_15]
    cases hE
    exact Wp.return dc_X12_fail_18 rfl (Nat.le_refl _) (Nat.le_refl _) hK
  · rw [if_neg hc4] at hE
    cases hE
    exact Wp.return dc_X12_fail_7 rfl (Nat.le_refl _) (Nat.le_refl _) hK
theorem ok_X12_fail  {σ : SS}  {x1 : Int32} {x2 : Int32} {o}   (hE : X12_fail  σ  x1 x2 = some o) : Runs 0 0 0 mi_X12_fail [vr 11 0, vi x1, vi x2] (hp σ) (fun v h => v = none ∧ h = hp o) := by
  refine Runs.of pn_X12 (Nat.le_of_ble_eq_true rfl) ?_
  exact ok_X12_fail_j0   hE ⟨rfl, rfl⟩
theorem ok_X12_wrong_j14 {Q : Option AV → AH → Prop}  {σ : SS}  {s1 : Int32} {o}    (hE : X12_wrong_j14  σ  s1 = some o) (hK : Q none (hp o)) : Ws 1 mi_X12_wrong Q 14 [some (vr 11 0)] [vi s1, vr 11 0] σ := by
  unfold X12_wrong_j14 at hE
  refine Wp.aload_n dc_X12_wrong_14 rfl ?_
  refine Wp.sgetI dc_X12_wrong_15 fw_X12_126 (mO11 (by decide)) ?_
  obtain ⟨σ18, h18, hE⟩ := bnd hE
  refine Wp.cV2v (ok_X12_fail  h18) dc_X12_wrong_18 mw_X12_222 (mO11 (by decide)) (by decide) (Nat.le_of_ble_eq_true rfl) ?_
  cases hE
  exact Wp.return dc_X12_wrong_21 rfl (Nat.le_refl _) (Nat.le_refl _) hK
theorem ok_X12_wrong_j0 {Q : Option AV → AH → Prop}  {σ : SS}   {o}    (hE : X12_wrong_j0  σ   = some o) (hK : Q none (hp o)) : Ws 1 mi_X12_wrong Q 0 [some (vr 11 0)] [] σ := by
  unfold X12_wrong_j0 at hE
  refine Wp.aload_n dc_X12_wrong_0 rfl ?_
  refine Wp.aload_n dc_X12_wrong_1 rfl ?_
  refine Wp.sgetI dc_X12_wrong_2 fw_X12_132 (mO11 (by decide)) ?_
  refine Wp.iconst dc_X12_wrong_5 ic_4 ?_
  refine Wp.icmp_ne (tgt := 13) dc_X12_wrong_6 (by decide) (fun hc6 => ?_) (fun hc6 => ?_)
  · rw [if_neg hc6] at hE
    refine Wp.iconst dc_X12_wrong_13 ic_2 ?_
    exact ok_X12_wrong_j14   hE hK
  · rw [if_pos hc6] at hE
    refine Wp.iconst dc_X12_wrong_9 ic_1 ?_
    refine Wp.goto (tgt := 14) dc_X12_wrong_10 (by decide) ?_
    exact ok_X12_wrong_j14   hE hK
theorem ok_X12_wrong  {σ : SS}   {o}   (hE : X12_wrong  σ   = some o) : Runs 1 0 0 mi_X12_wrong [vr 11 0] (hp σ) (fun v h => v = none ∧ h = hp o) := by
  refine Runs.of pn_X12 (Nat.le_of_ble_eq_true rfl) ?_
  exact ok_X12_wrong_j0   hE ⟨rfl, rfl⟩
theorem ok_X12_must_j0 {Q : Option AV → AH → Prop}  {σ : SS}  {x1 : Int32} {o}    (hE : X12_must_j0  σ  x1 = some o) (hK : Q none (hp o)) : Ws 2 mi_X12_must Q 0 [some (vr 11 0), some (vi x1)] [] σ := by
  unfold X12_must_j0 at hE
  refine Wp.aload_n dc_X12_must_0 rfl ?_
  refine Wp.sgetI dc_X12_must_1 fw_X12_216 (mO11 (by decide)) ?_
  refine Wp.if_le (tgt := 8) dc_X12_must_4 (by decide) (fun hc4 => ?_) (fun hc4 => ?_)
  · rw [if_pos hc4] at hE
    refine Wp.iload_n dc_X12_must_8 rfl ?_
    refine Wp.if_eq (tgt := 19) dc_X12_must_9 (by decide) (fun hc9 => ?_) (fun hc9 => ?_)
    · rw [if_pos hc9] at hE
      refine Wp.aload_n dc_X12_must_19 rfl ?_
      obtain ⟨σ20, h20, hE⟩ := bnd hE
      refine Wp.cV0v (ok_X12_wrong  h20) dc_X12_must_20 mw_X12_229 (mO11 (by decide)) (by decide) (Nat.le_of_ble_eq_true rfl) ?_
      cases hE
      exact Wp.return dc_X12_must_23 rfl (Nat.le_refl _) (Nat.le_refl _) hK
    · rw [if_neg hc9] at hE
      refine Wp.aload_n dc_X12_must_12 rfl ?_
      obtain ⟨σ13, h13, hE⟩ := bnd hE
      refine Wp.cV0v (ok_X12_next  h13) dc_X12_must_13 mw_X12_226 (mO11 (by decide)) (by decide) (Nat.le_of_ble_eq_true rfl) ?_
      refine Wp.goto (tgt := 23) dc_X12_must_16 (by decide) ?_
      cases hE
      exact Wp.return dc_X12_must_23 rfl (Nat.le_refl _) (Nat.le_refl _) hK
  · rw [if_neg hc4] at hE
    cases hE
    exact Wp.return dc_X12_must_7 rfl (Nat.le_refl _) (Nat.le_refl _) hK
theorem ok_X12_must  {σ : SS}  {x1 : Int32} {o}   (hE : X12_must  σ  x1 = some o) : Runs 2 0 0 mi_X12_must [vr 11 0, vi x1] (hp σ) (fun v h => v = none ∧ h = hp o) := by
  refine Runs.of pn_X12 (Nat.le_of_ble_eq_true rfl) ?_
  exact ok_X12_must_j0   hE ⟨rfl, rfl⟩
theorem ok_X12_count_j50 {Q : Option AV → AH → Prop}  {σ : SS}   {o} {z1 z2 z3 : Option AV}   (hE : X12_count_j50  σ   = some o) (hK : Q (some (vi o.1)) (hp o.2)) : Ws 2 mi_X12_count Q 50 [some (vr 11 0), z1, z2, z3] [] σ := by
  unfold X12_count_j50 at hE
  refine Wp.aload_n dc_X12_count_50 rfl ?_
  refine Wp.sgetI dc_X12_count_51 fw_X12_216 (mO11 (by decide)) ?_
  refine Wp.if_le (tgt := 59) dc_X12_count_54 (by decide) (fun hc54 => ?_) (fun hc54 => ?_)
  · rw [if_pos hc54] at hE
    refine Wp.aload_n dc_X12_count_59 rfl ?_
    refine Wp.sgetI dc_X12_count_60 fw_X12_151 (mO11 (by decide)) ?_
    obtain ⟨x3_63, e_63, hE⟩ := bnS hE
    rw [e_63]
    refine Wp.istore_n dc_X12_count_63 (by decide) ?_
    refine Wp.aload_n dc_X12_count_64 rfl ?_
    obtain ⟨σ65, h65, hE⟩ := bnd hE
    refine Wp.cV0v (ok_X12_next  h65) dc_X12_count_65 mw_X12_226 (mO11 (by decide)) (by decide) (Nat.le_of_ble_eq_true rfl) ?_
    refine Wp.iload_n dc_X12_count_68 rfl ?_
    cases hE
    exact Wp.ireturn dc_X12_count_69 rfl rfl (Nat.le_refl _) (Nat.le_refl _) hK
  · rw [if_neg hc54] at hE
    refine Wp.iconst dc_X12_count_57 ic_0 ?_
    cases hE
    exact Wp.ireturn dc_X12_count_58 rfl rfl (Nat.le_refl _) (Nat.le_refl _) hK
theorem ok_X12_count_j19 {Q : Option AV → AH → Prop}  {σ : SS}  {x1 : Int32} {x2 : Int32} {o} {z3 : Option AV}   (hE : X12_count_j19  σ  x1 x2 = some o) (hK : Q (some (vi o.1)) (hp o.2)) : Ws 2 mi_X12_count Q 19 [some (vr 11 0), some (vi x1), some (vi x2), z3] [] σ := by
  unfold X12_count_j19 at hE
  refine Wp.aload_n dc_X12_count_19 rfl ?_
  refine Wp.sgetI dc_X12_count_20 fw_X12_216 (mO11 (by decide)) ?_
  refine Wp.if_ne (tgt := 50) dc_X12_count_23 (by decide) (fun hc23 => ?_) (fun hc23 => ?_)
  · rw [if_neg hc23] at hE
    exact ok_X12_count_j50   hE hK
  · rw [if_pos hc23] at hE
    refine Wp.aload_n dc_X12_count_26 rfl ?_
    refine Wp.sgetI dc_X12_count_27 fw_X12_151 (mO11 (by decide)) ?_
    refine Wp.i2l dc_X12_count_30 ?_
    refine Wp.iload_n dc_X12_count_31 rfl ?_
    refine Wp.i2l dc_X12_count_32 ?_
    refine Wp.iload_n dc_X12_count_33 rfl ?_
    refine Wp.i2l dc_X12_count_34 ?_
    obtain ⟨v35, h35, hE⟩ := bnd hE
    refine Wp.cS3i (ok_X12_isIn  h35) dc_X12_count_35 mw_X12_112 (by decide) (Nat.le_of_ble_eq_true rfl) ?_
    refine Wp.if_ne (tgt := 50) dc_X12_count_38 (by decide) (fun hc38 => ?_) (fun hc38 => ?_)
    · rw [if_neg hc38] at hE
      exact ok_X12_count_j50   hE hK
    · rw [if_pos hc38] at hE
      refine Wp.aload_n dc_X12_count_41 rfl ?_
      refine Wp.iconst dc_X12_count_42 ic_4 ?_
      refine Wp.aload_n dc_X12_count_43 rfl ?_
      refine Wp.sgetI dc_X12_count_44 fw_X12_126 (mO11 (by decide)) ?_
      obtain ⟨σ47, h47, hE⟩ := bnd hE
      refine Wp.cV2v (ok_X12_fail  h47) dc_X12_count_47 mw_X12_222 (mO11 (by decide)) (by decide) (Nat.le_of_ble_eq_true rfl) ?_
      exact ok_X12_count_j50   hE hK
theorem ok_X12_count_j0 {Q : Option AV → AH → Prop}  {σ : SS}  {x1 : Int32} {x2 : Int32} {o} {z3 : Option AV}   (hE : X12_count_j0  σ  x1 x2 = some o) (hK : Q (some (vi o.1)) (hp o.2)) : Ws 2 mi_X12_count Q 0 [some (vr 11 0), some (vi x1), some (vi x2), z3] [] σ := by
  unfold X12_count_j0 at hE
  refine Wp.aload_n dc_X12_count_0 rfl ?_
  refine Wp.sgetI dc_X12_count_1 fw_X12_216 (mO11 (by decide)) ?_
  refine Wp.if_ne (tgt := 19) dc_X12_count_4 (by decide) (fun hc4 => ?_) (fun hc4 => ?_)
  · rw [if_neg hc4] at hE
    exact ok_X12_count_j19   hE hK
  · rw [if_pos hc4] at hE
    refine Wp.aload_n dc_X12_count_7 rfl ?_
    refine Wp.sgetI dc_X12_count_8 fw_X12_132 (mO11 (by decide)) ?_
    refine Wp.iconst dc_X12_count_11 ic_2 ?_
    refine Wp.icmp_eq (tgt := 19) dc_X12_count_12 (by decide) (fun hc12 => ?_) (fun hc12 => ?_)
    · rw [if_pos hc12] at hE
      exact ok_X12_count_j19   hE hK
    · rw [if_neg hc12] at hE
      refine Wp.aload_n dc_X12_count_15 rfl ?_
      obtain ⟨σ16, h16, hE⟩ := bnd hE
      refine Wp.cV0v (ok_X12_wrong  h16) dc_X12_count_16 mw_X12_229 (mO11 (by decide)) (by decide) (Nat.le_of_ble_eq_true rfl) ?_
      exact ok_X12_count_j19   hE hK
theorem ok_X12_count  {σ : SS}  {x1 : Int32} {x2 : Int32} {o}   (hE : X12_count  σ  x1 x2 = some o) : Runs 2 0 0 mi_X12_count [vr 11 0, vi x1, vi x2] (hp σ) (fun v h => v = some (vi o.1) ∧ h = hp o.2) := by
  refine Runs.of pn_X12 (Nat.le_of_ble_eq_true rfl) ?_
  exact ok_X12_count_j0   hE ⟨rfl, rfl⟩
def X12_lay_P2 (Q : Option AV → AH → Prop)   (x1 : Int32) (ss : Int32 × SS) : Prop := Ws 0 mi_X12_lay Q 2 [some (vr 11 0), some (vi x1), some (vi ss.1)] [] ss.2
def X12_lay_R2 (Q : Option AV → AH → Prop)   (x1 : Int32) (tt : SS) : Prop := ∀ z0 z1 z2 : Option AV, Ws 0 mi_X12_lay Q 38 [z0, z1, z2] [] tt
theorem ok_X12_lay_l2c {Q : Option AV → AH → Prop}  {σ : SS}  {x1 : Int32} {x2 : Int32} {o}    (hE : X12_lay_l2c  σ  x1 x2 = some o) (hS : ∀ ss, o = Sum.inl ss → (X12_lay_P2  Q   x1) ss) (hT : ∀ tt, o = Sum.inr tt → (X12_lay_R2  Q   x1) tt) : Ws 0 mi_X12_lay Q 2 [some (vr 11 0), some (vi x1), some (vi x2)] [] σ := by
  unfold X12_lay_l2c at hE
  refine Wp.iload_n dc_X12_lay_2 rfl ?_
  refine Wp.if_lt (tgt := 38) dc_X12_lay_3 (by decide) (fun hc3 => ?_) (fun hc3 => ?_)
  · rw [if_pos hc3] at hE
    cases hE
    exact hT _ rfl _ _ _
  · rw [if_neg hc3] at hE
    refine Wp.aload_n dc_X12_lay_6 rfl ?_
    refine Wp.sgetR (t := 0) dc_X12_lay_7 fw_X12_24 (mO11 (by decide)) rfl ?_
    refine Wp.aload_n dc_X12_lay_10 rfl ?_
    refine Wp.sgetI dc_X12_lay_11 fw_X12_232 (mO11 (by decide)) ?_
    refine Wp.iload_n dc_X12_lay_14 rfl ?_
    refine Wp.bipush dc_X12_lay_15 bp_8 ?_
    refine Wp.iload_n dc_X12_lay_17 rfl ?_
    refine Wp.imul dc_X12_lay_18 ?_
    refine Wp.ishr dc_X12_lay_19 ?_
    refine Wp.i2b dc_X12_lay_20 ?_
    obtain ⟨j21, h21, hE⟩ := bnd hE
    refine Wp.sbast dc_X12_lay_21 (mO12 (by decide)) h21 ?_
    obtain ⟨σ21, es_21, hE⟩ := bnS hE
    rw [es_21]
    refine Wp.aload_n dc_X12_lay_22 rfl ?_
    refine Wp.dup dc_X12_lay_23 rfl ?_
    refine Wp.sgetI dc_X12_lay_24 fw_X12_232 (mO11 (by decide)) ?_
    refine Wp.iconst dc_X12_lay_27 ic_1 ?_
    refine Wp.iadd dc_X12_lay_28 ?_
    refine Wp.sputI dc_X12_lay_29 fw_X12_232 (mO11 (by decide)) (Nr.i _) ?_
    obtain ⟨σ29, es_29, hE⟩ := bnS hE
    rw [es_29]
    obtain ⟨x2_32, e_32, hE⟩ := bnS hE
    refine Wp.iinc dc_X12_lay_32 rfl ((ii ic_m1).trans e_32) (by decide) ?_
    refine Wp.goto (tgt := 2) dc_X12_lay_35 (by decide) ?_
    cases hE
    exact hS _ rfl
theorem ok_X12_lay_l2 {Q : Option AV → AH → Prop}  {σ : SS}  {x1 : Int32} {x2 : Int32} {o}    (hE : X12_lay_l2  σ  x1 x2 = some o) (hK : Q none (hp o)) : Ws 0 mi_X12_lay Q 2 [some (vr 11 0), some (vi x1), some (vi x2)] [] σ := by
  unfold X12_lay_l2 at hE
  obtain ⟨t2, h1, hE⟩ := bnd hE
  refine iter_ok (P := (X12_lay_P2  Q   x1)) (R := (X12_lay_R2  Q   x1)) (fun ss o h2 hS hT => ?_) NF _ _ h1 ?_
  · skip
    exact ok_X12_lay_l2c   h2 hS hT
  · intro z0 z1 z2
    show Ws 0 mi_X12_lay Q 38 [z0, z1, z2] [] t2
    cases hE
    exact Wp.return dc_X12_lay_38 rfl (Nat.le_refl _) (Nat.le_refl _) hK
theorem ok_X12_lay_j0 {Q : Option AV → AH → Prop}  {σ : SS}  {x1 : Int32} {o} {z2 : Option AV}   (hE : X12_lay_j0  σ  x1 = some o) (hK : Q none (hp o)) : Ws 0 mi_X12_lay Q 0 [some (vr 11 0), some (vi x1), z2] [] σ := by
  unfold X12_lay_j0 at hE
  refine Wp.iconst dc_X12_lay_0 ic_3 ?_
  refine Wp.istore_n dc_X12_lay_1 (by decide) ?_
  exact ok_X12_lay_l2   hE hK
theorem ok_X12_lay  {σ : SS}  {x1 : Int32} {o}   (hE : X12_lay  σ  x1 = some o) : Runs 0 0 0 mi_X12_lay [vr 11 0, vi x1] (hp σ) (fun v h => v = none ∧ h = hp o) := by
  refine Runs.of pn_X12 (Nat.le_of_ble_eq_true rfl) ?_
  exact ok_X12_lay_j0   hE ⟨rfl, rfl⟩
theorem ok_X12_feed_j0 {Q : Option AV → AH → Prop}  {σ : SS}  {x1 : Int32} {x2 : Int32} {x3 : Int32} {x4 : Int32} {x5 : Int32} {o}    (hE : X12_feed_j0  σ  x1 x2 x3 x4 x5 = some o) (hK : Q (some (vi o.1)) (hp o.2)) : Ws 1 mi_X12_feed Q 0 [some (vr 11 0), some (vi x1), some (vi x2), some (vi x3), some (vi x4), some (vi x5)] [] σ := by
  unfold X12_feed_j0 at hE
  refine Wp.aload_n dc_X12_feed_0 rfl ?_
  refine Wp.iconst dc_X12_feed_1 ic_0 ?_
  refine Wp.sputI dc_X12_feed_2 fw_X12_77 (mO11 (by decide)) (Nr.i _) ?_
  obtain ⟨σ2, es_2, hE⟩ := bnS hE
  rw [es_2]
  refine Wp.aload_n dc_X12_feed_5 rfl ?_
  refine Wp.sgetI dc_X12_feed_6 fw_X12_232 (mO11 (by decide)) ?_
  refine Wp.bipush dc_X12_feed_9 bp_20 ?_
  refine Wp.iadd dc_X12_feed_11 ?_
  refine Wp.sipush dc_X12_feed_12 sp_900 ?_
  refine Wp.icmp_le (tgt := 20) dc_X12_feed_15 (by decide) (fun hc15 => ?_) (fun hc15 => ?_)
  · rw [if_pos hc15] at hE
    refine Wp.aload_n dc_X12_feed_20 rfl ?_
    refine Wp.iload_n dc_X12_feed_21 rfl ?_
    obtain ⟨σ22, h22, hE⟩ := bnd hE
    refine Wp.cV1v (ok_X12_lay  h22) dc_X12_feed_22 mw_X12_235 (mO11 (by decide)) (by decide) (Nat.le_of_ble_eq_true rfl) ?_
    refine Wp.aload_n dc_X12_feed_25 rfl ?_
    refine Wp.iload_n dc_X12_feed_26 rfl ?_
    obtain ⟨σ27, h27, hE⟩ := bnd hE
    refine Wp.cV1v (ok_X12_lay  h27) dc_X12_feed_27 mw_X12_235 (mO11 (by decide)) (by decide) (Nat.le_of_ble_eq_true rfl) ?_
    refine Wp.aload_n dc_X12_feed_30 rfl ?_
    refine Wp.iload_n dc_X12_feed_31 rfl ?_
    obtain ⟨σ32, h32, hE⟩ := bnd hE
    refine Wp.cV1v (ok_X12_lay  h32) dc_X12_feed_32 mw_X12_235 (mO11 (by decide)) (by decide) (Nat.le_of_ble_eq_true rfl) ?_
    refine Wp.aload_n dc_X12_feed_35 rfl ?_
    refine Wp.iload dc_X12_feed_36 rfl ?_
    obtain ⟨σ38, h38, hE⟩ := bnd hE
    refine Wp.cV1v (ok_X12_lay  h38) dc_X12_feed_38 mw_X12_235 (mO11 (by decide)) (by decide) (Nat.le_of_ble_eq_true rfl) ?_
    refine Wp.aload_n dc_X12_feed_41 rfl ?_
    refine Wp.iload dc_X12_feed_42 rfl ?_
    obtain ⟨σ44, h44, hE⟩ := bnd hE
    refine Wp.cV1v (ok_X12_lay  h44) dc_X12_feed_44 mw_X12_235 (mO11 (by decide)) (by decide) (Nat.le_of_ble_eq_true rfl) ?_
    refine Wp.aload_n dc_X12_feed_47 rfl ?_
    refine Wp.sgetI dc_X12_feed_48 fw_X12_232 (mO11 (by decide)) ?_
    cases hE
    exact Wp.ireturn dc_X12_feed_51 rfl rfl (Nat.le_refl _) (Nat.le_refl _) hK
  · rw [if_neg hc15] at hE
    refine Wp.iconst dc_X12_feed_18 ic_m1 ?_
    cases hE
    exact Wp.ireturn dc_X12_feed_19 rfl rfl (Nat.le_refl _) (Nat.le_refl _) hK
theorem ok_X12_feed  {σ : SS}  {x1 : Int32} {x2 : Int32} {x3 : Int32} {x4 : Int32} {x5 : Int32} {o}   (hE : X12_feed  σ  x1 x2 x3 x4 x5 = some o) : Runs 1 0 0 mi_X12_feed [vr 11 0, vi x1, vi x2, vi x3, vi x4, vi x5] (hp σ) (fun v h => v = some (vi o.1) ∧ h = hp o.2) := by
  refine Runs.of pn_X12 (Nat.le_of_ble_eq_true rfl) ?_
  exact ok_X12_feed_j0   hE ⟨rfl, rfl⟩
theorem ok_X12_starts_j17 {Q : Option AV → AH → Prop}  {σ : SS}   {o} {z1 z2 : Option AV}   (hE : X12_starts_j17  σ   = some o) (hK : Q (some (vi o.1)) (hp o.2)) : Ws 2 mi_X12_starts Q 17 [some (vr 11 0), z1, z2] [] σ := by
  unfold X12_starts_j17 at hE
  refine Wp.aload_n dc_X12_starts_17 rfl ?_
  refine Wp.iconst dc_X12_starts_18 ic_5 ?_
  obtain ⟨p19, h19, hE⟩ := bnd hE
  refine Wp.cV1i (ok_X12_no  h19) dc_X12_starts_19 mw_X12_92 (mO11 (by decide)) (by decide) (Nat.le_of_ble_eq_true rfl) ?_
  obtain ⟨b22, h22, hE⟩ := bnd hE
  obtain ⟨e_22, hb22⟩ := zb_some h22
  skip
  cases hE
  exact Wp.ireturn dc_X12_starts_22 rfl hb22.1 (Nat.le_refl _) (Nat.le_refl _) hK
theorem ok_X12_starts_j0 {Q : Option AV → AH → Prop}  {σ : SS}  {x1 : Int32} {x2 : Int32} {o}    (hE : X12_starts_j0  σ  x1 x2 = some o) (hK : Q (some (vi o.1)) (hp o.2)) : Ws 2 mi_X12_starts Q 0 [some (vr 11 0), some (vi x1), some (vi x2)] [] σ := by
  unfold X12_starts_j0 at hE
  refine Wp.iload_n dc_X12_starts_0 rfl ?_
  refine Wp.if_lt (tgt := 17) dc_X12_starts_1 (by decide) (fun hc1 => ?_) (fun hc1 => ?_)
  · rw [if_pos hc1] at hE
    exact ok_X12_starts_j17   hE hK
  · rw [if_neg hc1] at hE
    refine Wp.iload_n dc_X12_starts_4 rfl ?_
    refine Wp.aload_n dc_X12_starts_5 rfl ?_
    refine Wp.sgetI dc_X12_starts_6 fw_X12_232 (mO11 (by decide)) ?_
    refine Wp.icmp_gt (tgt := 17) dc_X12_starts_9 (by decide) (fun hc9 => ?_) (fun hc9 => ?_)
    · rw [if_pos hc9] at hE
      exact ok_X12_starts_j17   hE hK
    · rw [if_neg hc9] at hE
      refine Wp.iload_n dc_X12_starts_12 rfl ?_
      refine Wp.iload_n dc_X12_starts_13 rfl ?_
      refine Wp.icmp_le (tgt := 23) dc_X12_starts_14 (by decide) (fun hc14 => ?_) (fun hc14 => ?_)
      · rw [if_pos hc14] at hE
        refine Wp.aload_n dc_X12_starts_23 rfl ?_
        refine Wp.iload_n dc_X12_starts_24 rfl ?_
        refine Wp.sputI dc_X12_starts_25 fw_X12_120 (mO11 (by decide)) (Nr.i _) ?_
        obtain ⟨σ25, es_25, hE⟩ := bnS hE
        rw [es_25]
        refine Wp.aload_n dc_X12_starts_28 rfl ?_
        refine Wp.iconst dc_X12_starts_29 ic_0 ?_
        refine Wp.sputI dc_X12_starts_30 fw_X12_232 (mO11 (by decide)) (Nr.i _) ?_
        obtain ⟨σ30, es_30, hE⟩ := bnS hE
        rw [es_30]
        refine Wp.aload_n dc_X12_starts_33 rfl ?_
        refine Wp.iconst dc_X12_starts_34 ic_0 ?_
        refine Wp.sputI dc_X12_starts_35 fw_X12_123 (mO11 (by decide)) (Nr.i _) ?_
        obtain ⟨σ35, es_35, hE⟩ := bnS hE
        rw [es_35]
        refine Wp.aload_n dc_X12_starts_38 rfl ?_
        refine Wp.iconst dc_X12_starts_39 ic_0 ?_
        refine Wp.sputI dc_X12_starts_40 fw_X12_216 (mO11 (by decide)) (Nr.i _) ?_
        obtain ⟨σ40, es_40, hE⟩ := bnS hE
        rw [es_40]
        refine Wp.aload_n dc_X12_starts_43 rfl ?_
        obtain ⟨σ44, h44, hE⟩ := bnd hE
        refine Wp.cV0v (ok_X12_next  h44) dc_X12_starts_44 mw_X12_226 (mO11 (by decide)) (by decide) (Nat.le_of_ble_eq_true rfl) ?_
        refine Wp.iconst dc_X12_starts_47 ic_1 ?_
        cases hE
        exact Wp.ireturn dc_X12_starts_48 rfl Nr.z1.1 (Nat.le_refl _) (Nat.le_refl _) hK
      · rw [if_neg hc14] at hE
        exact ok_X12_starts_j17   hE hK
theorem ok_X12_starts  {σ : SS}  {x1 : Int32} {x2 : Int32} {o}   (hE : X12_starts  σ  x1 x2 = some o) : Runs 2 0 0 mi_X12_starts [vr 11 0, vi x1, vi x2] (hp σ) (fun v h => v = some (vi o.1) ∧ h = hp o.2) := by
  refine Runs.of pn_X12 (Nat.le_of_ble_eq_true rfl) ?_
  exact ok_X12_starts_j0   hE ⟨rfl, rfl⟩
