/-! certificates (by program: wip/whole/gen.py) -/
theorem ok_X12_isWell_j43 {Q : Option AV → AH → Prop}  {σ : SS}   {o} {z0 : Option AV}   (hE : X12_isWell_j43  σ   = some o) (hK : Q (some (vi o.1)) (hp o.2)) : Ws 1 mi_X12_isWell Q 43 [z0] [] σ := by
  unfold X12_isWell_j43 at hE
  refine Wp.iconst dc_X12_isWell_43 ic_1 ?_
  refine Wp.goto (tgt := 48) dc_X12_isWell_44 (by decide) ?_
  cases hE
  exact Wp.ireturn dc_X12_isWell_48 rfl Nr.z1.1 (Nat.le_refl _) (Nat.le_refl _) hK
theorem ok_X12_isWell_j24 {Q : Option AV → AH → Prop}  {σ : SS}  {s1 : Int32} {o}    (hE : X12_isWell_j24  σ  s1 = some o) (hK : Q (some (vi o.1)) (hp o.2)) : Ws 1 mi_X12_isWell Q 24 [some (vr 11 0)] [vi s1, vr 11 0] σ := by
  unfold X12_isWell_j24 at hE
  refine Wp.sputI dc_X12_isWell_24 fw_X12_32 (mO11 (by decide)) (Nr.i _) ?_
  obtain ⟨σ24, es_24, hE⟩ := bnS hE
  rw [es_24]
  refine Wp.aload_n dc_X12_isWell_27 rfl ?_
  refine Wp.sgetI dc_X12_isWell_28 fw_X12_216 (mO11 (by decide)) ?_
  refine Wp.if_eq (tgt := 43) dc_X12_isWell_31 (by decide) (fun hc31 => ?_) (fun hc31 => ?_)
  · rw [if_pos hc31] at hE
    exact ok_X12_isWell_j43   hE hK
  · rw [if_neg hc31] at hE
    refine Wp.aload_n dc_X12_isWell_34 rfl ?_
    refine Wp.bipush dc_X12_isWell_35 bp_10 ?_
    obtain ⟨p37, h37, hE⟩ := bnd hE
    refine Wp.cV1i (ok_X12_no  h37) dc_X12_isWell_37 mw_X12_92 (mO11 (by decide)) (by decide) (Nat.le_of_ble_eq_true rfl) ?_
    refine Wp.if_eq (tgt := 47) dc_X12_isWell_40 (by decide) (fun hc40 => ?_) (fun hc40 => ?_)
    · rw [if_pos hc40] at hE
      refine Wp.iconst dc_X12_isWell_47 ic_0 ?_
      cases hE
      exact Wp.ireturn dc_X12_isWell_48 rfl Nr.z0.1 (Nat.le_refl _) (Nat.le_refl _) hK
    · rw [if_neg hc40] at hE
      exact ok_X12_isWell_j43   hE hK
theorem ok_X12_isWell_j0 {Q : Option AV → AH → Prop}  {σ : SS}   {o}    (hE : X12_isWell_j0  σ   = some o) (hK : Q (some (vi o.1)) (hp o.2)) : Ws 1 mi_X12_isWell Q 0 [some (vr 11 0)] [] σ := by
  unfold X12_isWell_j0 at hE
  refine Wp.aload_n dc_X12_isWell_0 rfl ?_
  refine Wp.aload_n dc_X12_isWell_1 rfl ?_
  refine Wp.sgetI dc_X12_isWell_2 fw_X12_216 (mO11 (by decide)) ?_
  refine Wp.sputI dc_X12_isWell_5 fw_X12_28 (mO11 (by decide)) (Nr.i _) ?_
  obtain ⟨σ5, es_5, hE⟩ := bnS hE
  rw [es_5]
  refine Wp.aload_n dc_X12_isWell_8 rfl ?_
  refine Wp.aload_n dc_X12_isWell_9 rfl ?_
  refine Wp.sgetI dc_X12_isWell_10 fw_X12_216 (mO11 (by decide)) ?_
  refine Wp.if_ne (tgt := 20) dc_X12_isWell_13 (by decide) (fun hc13 => ?_) (fun hc13 => ?_)
  · rw [if_neg hc13] at hE
    refine Wp.aload_n dc_X12_isWell_20 rfl ?_
    refine Wp.sgetI dc_X12_isWell_21 fw_X12_219 (mO11 (by decide)) ?_
    exact ok_X12_isWell_j24   hE hK
  · rw [if_pos hc13] at hE
    refine Wp.iconst dc_X12_isWell_16 ic_m1 ?_
    refine Wp.goto (tgt := 24) dc_X12_isWell_17 (by decide) ?_
    exact ok_X12_isWell_j24   hE hK
theorem ok_X12_isWell  {σ : SS}   {o}   (hE : X12_isWell  σ   = some o) : Runs 1 0 0 mi_X12_isWell [vr 11 0] (hp σ) (fun v h => v = some (vi o.1) ∧ h = hp o.2) := by
  refine Runs.of pn_X12 (Nat.le_of_ble_eq_true rfl) ?_
  exact ok_X12_isWell_j0   hE ⟨rfl, rfl⟩
theorem ok_X12_fault_j0 {Q : Option AV → AH → Prop}  {σ : SS}  {x1 : Int32} {o}    (hE : X12_fault_j0  σ  x1 = some o) (hK : Q (some (vi o.1)) (hp o.2)) : Ws 0 mi_X12_fault Q 0 [some (vr 11 0), some (vi x1)] [] σ := by
  unfold X12_fault_j0 at hE
  refine Wp.aload_n dc_X12_fault_0 rfl ?_
  refine Wp.iconst dc_X12_fault_1 ic_0 ?_
  refine Wp.sputI dc_X12_fault_2 fw_X12_77 (mO11 (by decide)) (Nr.i _) ?_
  obtain ⟨σ2, es_2, hE⟩ := bnS hE
  rw [es_2]
  refine Wp.iload_n dc_X12_fault_5 rfl ?_
  refine Wp.if_ne (tgt := 16) dc_X12_fault_6 (by decide) (fun hc6 => ?_) (fun hc6 => ?_)
  · rw [if_neg hc6] at hE
    refine Wp.iload_n dc_X12_fault_16 rfl ?_
    refine Wp.iconst dc_X12_fault_17 ic_1 ?_
    refine Wp.icmp_ne (tgt := 28) dc_X12_fault_18 (by decide) (fun hc18 => ?_) (fun hc18 => ?_)
    · rw [if_neg hc18] at hE
      refine Wp.iconst dc_X12_fault_28 ic_m1 ?_
      cases hE
      exact Wp.ireturn dc_X12_fault_29 rfl rfl (Nat.le_refl _) (Nat.le_refl _) hK
    · rw [if_pos hc18] at hE
      refine Wp.aload_n dc_X12_fault_21 rfl ?_
      refine Wp.sgetI dc_X12_fault_22 fw_X12_32 (mO11 (by decide)) ?_
      refine Wp.goto (tgt := 29) dc_X12_fault_25 (by decide) ?_
      cases hE
      exact Wp.ireturn dc_X12_fault_29 rfl rfl (Nat.le_refl _) (Nat.le_refl _) hK
  · rw [if_pos hc6] at hE
    refine Wp.aload_n dc_X12_fault_9 rfl ?_
    refine Wp.sgetI dc_X12_fault_10 fw_X12_28 (mO11 (by decide)) ?_
    refine Wp.goto (tgt := 29) dc_X12_fault_13 (by decide) ?_
    cases hE
    exact Wp.ireturn dc_X12_fault_29 rfl rfl (Nat.le_refl _) (Nat.le_refl _) hK
theorem ok_X12_fault  {σ : SS}  {x1 : Int32} {o}   (hE : X12_fault  σ  x1 = some o) : Runs 0 0 0 mi_X12_fault [vr 11 0, vi x1] (hp σ) (fun v h => v = some (vi o.1) ∧ h = hp o.2) := by
  refine Runs.of pn_X12 (Nat.le_of_ble_eq_true rfl) ?_
  exact ok_X12_fault_j0   hE ⟨rfl, rfl⟩
def X12_leadNamed_P2 (Q : Option AV → AH → Prop) (σ : SS)  (x1 : Int32) (ss : Int32) : Prop := Ws 0 mi_X12_leadNamed Q 2 [some (vr 11 0), some (vi x1), some (vi ss)] [] σ
def X12_leadNamed_R2 (Q : Option AV → AH → Prop) (σ : SS)  (x1 : Int32) (tt : (Int32) ⊕ (Unit)) : Prop := match tt with
  | Sum.inl tt => ∀ z0 z1 : Option AV, Ws 0 mi_X12_leadNamed Q 35 [z0, z1, some (vi tt)] [] σ
  | Sum.inr tt => ∀ z0 z1 z2 : Option AV, Ws 0 mi_X12_leadNamed Q 43 [z0, z1, z2] [] σ
theorem ok_X12_leadNamed_l2c {Q : Option AV → AH → Prop}  {σ : SS}  {x1 : Int32} {x2 : Int32} {o}    (hE : X12_leadNamed_l2c  σ  x1 x2 = some o) (hS : ∀ ss, o = Sum.inl ss → (X12_leadNamed_P2  Q σ  x1) ss) (hT : ∀ tt, o = Sum.inr tt → (X12_leadNamed_R2  Q σ  x1) tt) : Ws 0 mi_X12_leadNamed Q 2 [some (vr 11 0), some (vi x1), some (vi x2)] [] σ := by
  unfold X12_leadNamed_l2c at hE
  refine Wp.iload_n dc_X12_leadNamed_2 rfl ?_
  refine Wp.aload_n dc_X12_leadNamed_3 rfl ?_
  refine Wp.sgetR (t := 34) dc_X12_leadNamed_4 fw_X12_35 (mO11 (by decide)) rfl ?_
  refine Wp.sipush dc_X12_leadNamed_7 sp_410 ?_
  refine Wp.iload_n dc_X12_leadNamed_10 rfl ?_
  refine Wp.imul dc_X12_leadNamed_11 ?_
  obtain ⟨j12, h12, hE⟩ := bnd hE
  refine Wp.siald dc_X12_leadNamed_12 (mO13 (by decide)) h12 ?_
  refine Wp.icmp_ge (tgt := 43) dc_X12_leadNamed_13 (by decide) (fun hc13 => ?_) (fun hc13 => ?_)
  · rw [if_pos hc13] at hE
    cases hE
    exact hT _ rfl _ _ _
  · rw [if_neg hc13] at hE
    refine Wp.aload_n dc_X12_leadNamed_16 rfl ?_
    refine Wp.sgetR (t := 7) dc_X12_leadNamed_17 fw_X12_41 (mO11 (by decide)) rfl ?_
    refine Wp.bipush dc_X12_leadNamed_20 bp_11 ?_
    refine Wp.iload_n dc_X12_leadNamed_22 rfl ?_
    refine Wp.imul dc_X12_leadNamed_23 ?_
    refine Wp.iload_n dc_X12_leadNamed_24 rfl ?_
    refine Wp.iadd dc_X12_leadNamed_25 ?_
    obtain ⟨j26, h26, hE⟩ := bnd hE
    refine Wp.slald dc_X12_leadNamed_26 (mO14 (by decide)) h26 ?_
    refine Wp.aload_n dc_X12_leadNamed_27 rfl ?_
    refine Wp.sgetJ dc_X12_leadNamed_28 fw_X12_138 (mO11 (by decide)) ?_
    refine Wp.lcmp dc_X12_leadNamed_31 ?_
    refine Wp.if_ne (tgt := 37) dc_X12_leadNamed_32 (by decide) (fun hc32 => ?_) (fun hc32 => ?_)
    · rw [if_neg hc32] at hE
      obtain ⟨x2_37, e_37, hE⟩ := bnS hE
      refine Wp.iinc dc_X12_leadNamed_37 rfl ((ii ic_1).trans e_37) (by decide) ?_
      refine Wp.goto (tgt := 2) dc_X12_leadNamed_40 (by decide) ?_
      cases hE
      exact hS _ rfl
    · rw [if_pos hc32] at hE
      cases hE
      exact hT _ rfl _ _
theorem ok_X12_leadNamed_l2 {Q : Option AV → AH → Prop}  {σ : SS}  {x1 : Int32} {x2 : Int32} {o}    (hE : X12_leadNamed_l2  σ  x1 x2 = some o) (hK : Q (some (vi o)) (hp σ)) : Ws 0 mi_X12_leadNamed Q 2 [some (vr 11 0), some (vi x1), some (vi x2)] [] σ := by
  unfold X12_leadNamed_l2 at hE
  obtain ⟨t2, h1, hE⟩ := bnd hE
  refine iter_ok (P := (X12_leadNamed_P2  Q σ  x1)) (R := (X12_leadNamed_R2  Q σ  x1)) (fun ss o h2 hS hT => ?_) NF _ _ h1 ?_
  · skip
    exact ok_X12_leadNamed_l2c   h2 hS hT
  · rcases t2 with e35 | u35
    · dsimp only at hE
      intro z0 z1
      show Ws 0 mi_X12_leadNamed Q 35 [z0, z1, some (vi e35)] [] σ
      refine Wp.iload_n dc_X12_leadNamed_35 rfl ?_
      cases hE
      exact Wp.ireturn dc_X12_leadNamed_36 rfl rfl (Nat.le_refl _) (Nat.le_refl _) hK
    · dsimp only at hE
      skip
      intro z0 z1 z2
      show Ws 0 mi_X12_leadNamed Q 43 [z0, z1, z2] [] σ
      refine Wp.iconst dc_X12_leadNamed_43 ic_m1 ?_
      cases hE
      exact Wp.ireturn dc_X12_leadNamed_44 rfl rfl (Nat.le_refl _) (Nat.le_refl _) hK
theorem ok_X12_leadNamed_j0 {Q : Option AV → AH → Prop}  {σ : SS}  {x1 : Int32} {o} {z2 : Option AV}   (hE : X12_leadNamed_j0  σ  x1 = some o) (hK : Q (some (vi o)) (hp σ)) : Ws 0 mi_X12_leadNamed Q 0 [some (vr 11 0), some (vi x1), z2] [] σ := by
  unfold X12_leadNamed_j0 at hE
  refine Wp.iconst dc_X12_leadNamed_0 ic_0 ?_
  refine Wp.istore_n dc_X12_leadNamed_1 (by decide) ?_
  exact ok_X12_leadNamed_l2   hE hK
theorem ok_X12_leadNamed  {σ : SS}  {x1 : Int32} {o}   (hE : X12_leadNamed  σ  x1 = some o) : Runs 0 0 0 mi_X12_leadNamed [vr 11 0, vi x1] (hp σ) (fun v h => v = some (vi o) ∧ h = hp σ) := by
  refine Runs.of pn_X12 (Nat.le_of_ble_eq_true rfl) ?_
  exact ok_X12_leadNamed_j0   hE ⟨rfl, rfl⟩
def X12_isLookNamed_P2 (Q : Option AV → AH → Prop) (σ : SS)   (ss : Int32) : Prop := Ws 0 mi_X12_isLookNamed Q 2 [some (vr 11 0), some (vi ss)] [] σ
def X12_isLookNamed_R2 (Q : Option AV → AH → Prop) (σ : SS)   (tt : (Unit) ⊕ (Unit)) : Prop := match tt with
  | Sum.inl tt => ∀ z0 z1 : Option AV, Ws 0 mi_X12_isLookNamed Q 31 [z0, z1] [] σ
  | Sum.inr tt => ∀ z0 z1 : Option AV, Ws 0 mi_X12_isLookNamed Q 39 [z0, z1] [] σ
theorem ok_X12_isLookNamed_l2c {Q : Option AV → AH → Prop}  {σ : SS}   {x1 : Int32} {o}    (hE : X12_isLookNamed_l2c  σ   x1 = some o) (hS : ∀ ss, o = Sum.inl ss → (X12_isLookNamed_P2  Q σ  ) ss) (hT : ∀ tt, o = Sum.inr tt → (X12_isLookNamed_R2  Q σ  ) tt) : Ws 0 mi_X12_isLookNamed Q 2 [some (vr 11 0), some (vi x1)] [] σ := by
  unfold X12_isLookNamed_l2c at hE
  refine Wp.iload_n dc_X12_isLookNamed_2 rfl ?_
  refine Wp.aload_n dc_X12_isLookNamed_3 rfl ?_
  refine Wp.sgetR (t := 34) dc_X12_isLookNamed_4 fw_X12_35 (mO11 (by decide)) rfl ?_
  refine Wp.sipush dc_X12_isLookNamed_7 sp_1642 ?_
  obtain ⟨j10, h10, hE⟩ := bnd hE
  refine Wp.siald dc_X12_isLookNamed_10 (mO13 (by decide)) h10 ?_
  refine Wp.icmp_ge (tgt := 39) dc_X12_isLookNamed_11 (by decide) (fun hc11 => ?_) (fun hc11 => ?_)
  · rw [if_pos hc11] at hE
    cases hE
    exact hT _ rfl _ _
  · rw [if_neg hc11] at hE
    refine Wp.aload_n dc_X12_isLookNamed_14 rfl ?_
    refine Wp.sgetR (t := 7) dc_X12_isLookNamed_15 fw_X12_41 (mO11 (by decide)) rfl ?_
    refine Wp.bipush dc_X12_isLookNamed_18 bp_52 ?_
    refine Wp.iload_n dc_X12_isLookNamed_20 rfl ?_
    refine Wp.iadd dc_X12_isLookNamed_21 ?_
    obtain ⟨j22, h22, hE⟩ := bnd hE
    refine Wp.slald dc_X12_isLookNamed_22 (mO14 (by decide)) h22 ?_
    refine Wp.aload_n dc_X12_isLookNamed_23 rfl ?_
    refine Wp.sgetJ dc_X12_isLookNamed_24 fw_X12_138 (mO11 (by decide)) ?_
    refine Wp.lcmp dc_X12_isLookNamed_27 ?_
    refine Wp.if_ne (tgt := 33) dc_X12_isLookNamed_28 (by decide) (fun hc28 => ?_) (fun hc28 => ?_)
    · rw [if_neg hc28] at hE
      obtain ⟨x1_33, e_33, hE⟩ := bnS hE
      refine Wp.iinc dc_X12_isLookNamed_33 rfl ((ii ic_1).trans e_33) (by decide) ?_
      refine Wp.goto (tgt := 2) dc_X12_isLookNamed_36 (by decide) ?_
      cases hE
      exact hS _ rfl
    · rw [if_pos hc28] at hE
      cases hE
      exact hT _ rfl _ _
theorem ok_X12_isLookNamed_l2 {Q : Option AV → AH → Prop}  {σ : SS}  {x1 : Int32} {o}    (hE : X12_isLookNamed_l2  σ  x1 = some o) (hK : Q (some (vi o)) (hp σ)) : Ws 0 mi_X12_isLookNamed Q 2 [some (vr 11 0), some (vi x1)] [] σ := by
  unfold X12_isLookNamed_l2 at hE
  obtain ⟨t2, h1, hE⟩ := bnd hE
  refine iter_ok (P := (X12_isLookNamed_P2  Q σ  )) (R := (X12_isLookNamed_R2  Q σ  )) (fun ss o h2 hS hT => ?_) NF _ _ h1 ?_
  · skip
    exact ok_X12_isLookNamed_l2c   h2 hS hT
  · rcases t2 with e31 | u31
    · dsimp only at hE
      intro z0 z1
      show Ws 0 mi_X12_isLookNamed Q 31 [z0, z1] [] σ
      refine Wp.iconst dc_X12_isLookNamed_31 ic_1 ?_
      cases hE
      exact Wp.ireturn dc_X12_isLookNamed_32 rfl Nr.z1.1 (Nat.le_refl _) (Nat.le_refl _) hK
    · dsimp only at hE
      skip
      intro z0 z1
      show Ws 0 mi_X12_isLookNamed Q 39 [z0, z1] [] σ
      refine Wp.iconst dc_X12_isLookNamed_39 ic_0 ?_
      cases hE
      exact Wp.ireturn dc_X12_isLookNamed_40 rfl Nr.z0.1 (Nat.le_refl _) (Nat.le_refl _) hK
theorem ok_X12_isLookNamed_j0 {Q : Option AV → AH → Prop}  {σ : SS}   {o} {z1 : Option AV}   (hE : X12_isLookNamed_j0  σ   = some o) (hK : Q (some (vi o)) (hp σ)) : Ws 0 mi_X12_isLookNamed Q 0 [some (vr 11 0), z1] [] σ := by
  unfold X12_isLookNamed_j0 at hE
  refine Wp.iconst dc_X12_isLookNamed_0 ic_0 ?_
  refine Wp.istore_n dc_X12_isLookNamed_1 (by decide) ?_
  exact ok_X12_isLookNamed_l2   hE hK
theorem ok_X12_isLookNamed  {σ : SS}   {o}   (hE : X12_isLookNamed  σ   = some o) : Runs 0 0 0 mi_X12_isLookNamed [vr 11 0] (hp σ) (fun v h => v = some (vi o) ∧ h = hp σ) := by
  refine Runs.of pn_X12 (Nat.le_of_ble_eq_true rfl) ?_
  exact ok_X12_isLookNamed_j0   hE ⟨rfl, rfl⟩
theorem ok_X12_readNew_j46 {Q : Option AV → AH → Prop}  {σ : SS}  {x1 : Int32} {o}    (hE : X12_readNew_j46  σ  x1 = some o) (hK : Q none (hp o)) : Ws 5 mi_X12_readNew Q 46 [some (vr 11 0), some (vi x1)] [] σ := by
  unfold X12_readNew_j46 at hE
  refine Wp.aload_n dc_X12_readNew_46 rfl ?_
  refine Wp.sgetI dc_X12_readNew_47 fw_X12_216 (mO11 (by decide)) ?_
  refine Wp.if_le (tgt := 54) dc_X12_readNew_50 (by decide) (fun hc50 => ?_) (fun hc50 => ?_)
  · rw [if_pos hc50] at hE
    refine Wp.aload_n dc_X12_readNew_54 rfl ?_
    refine Wp.sgetR (t := 7) dc_X12_readNew_55 fw_X12_41 (mO11 (by decide)) rfl ?_
    refine Wp.bipush dc_X12_readNew_58 bp_44 ?_
    refine Wp.iload_n dc_X12_readNew_60 rfl ?_
    refine Wp.iadd dc_X12_readNew_61 ?_
    refine Wp.aload_n dc_X12_readNew_62 rfl ?_
    refine Wp.sgetJ dc_X12_readNew_63 fw_X12_138 (mO11 (by decide)) ?_
    obtain ⟨j66, h66, hE⟩ := bnd hE
    refine Wp.slast dc_X12_readNew_66 (mO14 (by decide)) h66 ?_
    obtain ⟨σ66, es_66, hE⟩ := bnS hE
    rw [es_66]
    refine Wp.aload_n dc_X12_readNew_67 rfl ?_
    obtain ⟨σ68, h68, hE⟩ := bnd hE
    refine Wp.cV0v (ok_X12_next  h68) dc_X12_readNew_68 mw_X12_226 (mO11 (by decide)) (by decide) (Nat.le_of_ble_eq_true rfl) ?_
    cases hE
    exact Wp.return dc_X12_readNew_71 rfl (Nat.le_refl _) (Nat.le_refl _) hK
  · rw [if_neg hc50] at hE
    cases hE
    exact Wp.return dc_X12_readNew_53 rfl (Nat.le_refl _) (Nat.le_refl _) hK
theorem ok_X12_readNew_j37 {Q : Option AV → AH → Prop}  {σ : SS}  {x1 : Int32} {o}    (hE : X12_readNew_j37  σ  x1 = some o) (hK : Q none (hp o)) : Ws 5 mi_X12_readNew Q 37 [some (vr 11 0), some (vi x1)] [] σ := by
  unfold X12_readNew_j37 at hE
  refine Wp.aload_n dc_X12_readNew_37 rfl ?_
  refine Wp.iconst dc_X12_readNew_38 ic_3 ?_
  refine Wp.aload_n dc_X12_readNew_39 rfl ?_
  refine Wp.sgetI dc_X12_readNew_40 fw_X12_126 (mO11 (by decide)) ?_
  obtain ⟨σ43, h43, hE⟩ := bnd hE
  refine Wp.cV2v (ok_X12_fail  h43) dc_X12_readNew_43 mw_X12_222 (mO11 (by decide)) (by decide) (Nat.le_of_ble_eq_true rfl) ?_
  exact ok_X12_readNew_j46   hE hK
theorem ok_X12_readNew_j15 {Q : Option AV → AH → Prop}  {σ : SS}  {x1 : Int32} {o}    (hE : X12_readNew_j15  σ  x1 = some o) (hK : Q none (hp o)) : Ws 5 mi_X12_readNew Q 15 [some (vr 11 0), some (vi x1)] [] σ := by
  unfold X12_readNew_j15 at hE
  refine Wp.aload_n dc_X12_readNew_15 rfl ?_
  refine Wp.sgetI dc_X12_readNew_16 fw_X12_216 (mO11 (by decide)) ?_
  refine Wp.if_ne (tgt := 46) dc_X12_readNew_19 (by decide) (fun hc19 => ?_) (fun hc19 => ?_)
  · rw [if_neg hc19] at hE
    exact ok_X12_readNew_j46   hE hK
  · rw [if_pos hc19] at hE
    refine Wp.aload_n dc_X12_readNew_22 rfl ?_
    refine Wp.iconst dc_X12_readNew_23 ic_4 ?_
    obtain ⟨v24, h24, hE⟩ := bnd hE
    refine Wp.cV1i (ok_X12_leadNamed  h24) dc_X12_readNew_24 mw_X12_242 (mO11 (by decide)) (by decide) (Nat.le_of_ble_eq_true rfl) ?_
    refine Wp.if_ge (tgt := 37) dc_X12_readNew_27 (by decide) (fun hc27 => ?_) (fun hc27 => ?_)
    · rw [if_pos hc27] at hE
      exact ok_X12_readNew_j37   hE hK
    · rw [if_neg hc27] at hE
      refine Wp.aload_n dc_X12_readNew_30 rfl ?_
      obtain ⟨v31, h31, hE⟩ := bnd hE
      refine Wp.cV0i (ok_X12_isLookNamed  h31) dc_X12_readNew_31 mw_X12_245 (mO11 (by decide)) (by decide) (Nat.le_of_ble_eq_true rfl) ?_
      refine Wp.if_eq (tgt := 46) dc_X12_readNew_34 (by decide) (fun hc34 => ?_) (fun hc34 => ?_)
      · rw [if_pos hc34] at hE
        exact ok_X12_readNew_j46   hE hK
      · rw [if_neg hc34] at hE
        exact ok_X12_readNew_j37   hE hK
theorem ok_X12_readNew_j0 {Q : Option AV → AH → Prop}  {σ : SS}  {x1 : Int32} {o}    (hE : X12_readNew_j0  σ  x1 = some o) (hK : Q none (hp o)) : Ws 5 mi_X12_readNew Q 0 [some (vr 11 0), some (vi x1)] [] σ := by
  unfold X12_readNew_j0 at hE
  refine Wp.aload_n dc_X12_readNew_0 rfl ?_
  obtain ⟨σ1, h1, hE⟩ := bnd hE
  refine Wp.cV0v (ok_X12_next  h1) dc_X12_readNew_1 mw_X12_226 (mO11 (by decide)) (by decide) (Nat.le_of_ble_eq_true rfl) ?_
  refine Wp.aload_n dc_X12_readNew_4 rfl ?_
  obtain ⟨v5, h5, hE⟩ := bnd hE
  refine Wp.cV0i (ok_X12_isName  h5) dc_X12_readNew_5 mw_X12_239 (mO11 (by decide)) (by decide) (Nat.le_of_ble_eq_true rfl) ?_
  refine Wp.if_ne (tgt := 15) dc_X12_readNew_8 (by decide) (fun hc8 => ?_) (fun hc8 => ?_)
  · rw [if_neg hc8] at hE
    exact ok_X12_readNew_j15   hE hK
  · rw [if_pos hc8] at hE
    refine Wp.aload_n dc_X12_readNew_11 rfl ?_
    obtain ⟨σ12, h12, hE⟩ := bnd hE
    refine Wp.cV0v (ok_X12_wrong  h12) dc_X12_readNew_12 mw_X12_229 (mO11 (by decide)) (by decide) (Nat.le_of_ble_eq_true rfl) ?_
    exact ok_X12_readNew_j15   hE hK
theorem ok_X12_readNew  {σ : SS}  {x1 : Int32} {o}   (hE : X12_readNew  σ  x1 = some o) : Runs 5 0 0 mi_X12_readNew [vr 11 0, vi x1] (hp σ) (fun v h => v = none ∧ h = hp o) := by
  refine Runs.of pn_X12 (Nat.le_of_ble_eq_true rfl) ?_
  exact ok_X12_readNew_j0   hE ⟨rfl, rfl⟩
theorem ok_X12_told_j46 {Q : Option AV → AH → Prop}  {σ : SS}  {x2 : Int32} {o} {z0 z1 : Option AV}   (hE : X12_told_j46  σ  x2 = some o) (hK : Q (some (vi o.1)) (hp o.2)) : Ws 5 mi_X12_told Q 46 [z0, z1, some (vi x2)] [] σ := by
  unfold X12_told_j46 at hE
  refine Wp.iconst dc_X12_told_46 ic_0 ?_
  refine Wp.iload_n dc_X12_told_47 rfl ?_
  refine Wp.mmax dc_X12_told_48 lw_X12_248 ms_max mi_Math mk_max (by decide) (Nat.le_refl _) (Nat.le_refl _) (Nat.le_of_ble_eq_true rfl) ?_
  cases hE
  exact Wp.ireturn dc_X12_told_51 rfl rfl (Nat.le_refl _) (Nat.le_refl _) hK
theorem ok_X12_told_j18 {Q : Option AV → AH → Prop}  {σ : SS}  {x1 : Int32} {o} {z2 : Option AV}   (hE : X12_told_j18  σ  x1 = some o) (hK : Q (some (vi o.1)) (hp o.2)) : Ws 5 mi_X12_told Q 18 [some (vr 11 0), some (vi x1), z2] [] σ := by
  unfold X12_told_j18 at hE
  refine Wp.aload_n dc_X12_told_18 rfl ?_
  refine Wp.sgetI dc_X12_told_19 fw_X12_216 (mO11 (by decide)) ?_
  refine Wp.if_le (tgt := 27) dc_X12_told_22 (by decide) (fun hc22 => ?_) (fun hc22 => ?_)
  · rw [if_pos hc22] at hE
    refine Wp.aload_n dc_X12_told_27 rfl ?_
    refine Wp.iload_n dc_X12_told_28 rfl ?_
    obtain ⟨v29, h29, hE⟩ := bnd hE
    refine Wp.cV1i (ok_X12_leadNamed  h29) dc_X12_told_29 mw_X12_242 (mO11 (by decide)) (by decide) (Nat.le_of_ble_eq_true rfl) ?_
    refine Wp.istore_n dc_X12_told_32 (by decide) ?_
    refine Wp.iload_n dc_X12_told_33 rfl ?_
    refine Wp.if_ge (tgt := 46) dc_X12_told_34 (by decide) (fun hc34 => ?_) (fun hc34 => ?_)
    · rw [if_pos hc34] at hE
      exact ok_X12_told_j46   hE hK
    · rw [if_neg hc34] at hE
      refine Wp.aload_n dc_X12_told_37 rfl ?_
      refine Wp.iconst dc_X12_told_38 ic_3 ?_
      refine Wp.aload_n dc_X12_told_39 rfl ?_
      refine Wp.sgetI dc_X12_told_40 fw_X12_126 (mO11 (by decide)) ?_
      obtain ⟨σ43, h43, hE⟩ := bnd hE
      refine Wp.cV2v (ok_X12_fail  h43) dc_X12_told_43 mw_X12_222 (mO11 (by decide)) (by decide) (Nat.le_of_ble_eq_true rfl) ?_
      exact ok_X12_told_j46   hE hK
  · rw [if_neg hc22] at hE
    refine Wp.iconst dc_X12_told_25 ic_0 ?_
    cases hE
    exact Wp.ireturn dc_X12_told_26 rfl rfl (Nat.le_refl _) (Nat.le_refl _) hK
theorem ok_X12_told_j0 {Q : Option AV → AH → Prop}  {σ : SS}  {x1 : Int32} {o} {z2 : Option AV}   (hE : X12_told_j0  σ  x1 = some o) (hK : Q (some (vi o.1)) (hp o.2)) : Ws 5 mi_X12_told Q 0 [some (vr 11 0), some (vi x1), z2] [] σ := by
  unfold X12_told_j0 at hE
  refine Wp.aload_n dc_X12_told_0 rfl ?_
  refine Wp.sgetI dc_X12_told_1 fw_X12_216 (mO11 (by decide)) ?_
  refine Wp.if_ne (tgt := 18) dc_X12_told_4 (by decide) (fun hc4 => ?_) (fun hc4 => ?_)
  · rw [if_neg hc4] at hE
    exact ok_X12_told_j18   hE hK
  · rw [if_pos hc4] at hE
    refine Wp.aload_n dc_X12_told_7 rfl ?_
    obtain ⟨v8, h8, hE⟩ := bnd hE
    refine Wp.cV0i (ok_X12_isName  h8) dc_X12_told_8 mw_X12_239 (mO11 (by decide)) (by decide) (Nat.le_of_ble_eq_true rfl) ?_
    refine Wp.if_ne (tgt := 18) dc_X12_told_11 (by decide) (fun hc11 => ?_) (fun hc11 => ?_)
    · rw [if_neg hc11] at hE
      exact ok_X12_told_j18   hE hK
    · rw [if_pos hc11] at hE
      refine Wp.aload_n dc_X12_told_14 rfl ?_
      obtain ⟨σ15, h15, hE⟩ := bnd hE
      refine Wp.cV0v (ok_X12_wrong  h15) dc_X12_told_15 mw_X12_229 (mO11 (by decide)) (by decide) (Nat.le_of_ble_eq_true rfl) ?_
      exact ok_X12_told_j18   hE hK
theorem ok_X12_told  {σ : SS}  {x1 : Int32} {o}   (hE : X12_told  σ  x1 = some o) : Runs 5 0 0 mi_X12_told [vr 11 0, vi x1] (hp σ) (fun v h => v = some (vi o.1) ∧ h = hp o.2) := by
  refine Runs.of pn_X12 (Nat.le_of_ble_eq_true rfl) ?_
  exact ok_X12_told_j0   hE ⟨rfl, rfl⟩
theorem ok_X12_readTold_j0 {Q : Option AV → AH → Prop}  {σ : SS}  {x1 : Int32} {o} {z2 : Option AV}   (hE : X12_readTold_j0  σ  x1 = some o) (hK : Q (some (vi o.1)) (hp o.2)) : Ws 6 mi_X12_readTold Q 0 [some (vr 11 0), some (vi x1), z2] [] σ := by
  unfold X12_readTold_j0 at hE
  refine Wp.aload_n dc_X12_readTold_0 rfl ?_
  refine Wp.iload_n dc_X12_readTold_1 rfl ?_
  obtain ⟨p2, h2, hE⟩ := bnd hE
  refine Wp.cV1i (ok_X12_told  h2) dc_X12_readTold_2 mw_X12_251 (mO11 (by decide)) (by decide) (Nat.le_of_ble_eq_true rfl) ?_
  refine Wp.istore_n dc_X12_readTold_5 (by decide) ?_
  refine Wp.aload_n dc_X12_readTold_6 rfl ?_
  refine Wp.iconst dc_X12_readTold_7 ic_1 ?_
  obtain ⟨σ8, h8, hE⟩ := bnd hE
  refine Wp.cV1v (ok_X12_must  h8) dc_X12_readTold_8 mw_X12_254 (mO11 (by decide)) (by decide) (Nat.le_of_ble_eq_true rfl) ?_
  refine Wp.iload_n dc_X12_readTold_11 rfl ?_
  cases hE
  exact Wp.ireturn dc_X12_readTold_12 rfl rfl (Nat.le_refl _) (Nat.le_refl _) hK
theorem ok_X12_readTold  {σ : SS}  {x1 : Int32} {o}   (hE : X12_readTold  σ  x1 = some o) : Runs 6 0 0 mi_X12_readTold [vr 11 0, vi x1] (hp σ) (fun v h => v = some (vi o.1) ∧ h = hp o.2) := by
  refine Runs.of pn_X12 (Nat.le_of_ble_eq_true rfl) ?_
  exact ok_X12_readTold_j0   hE ⟨rfl, rfl⟩
theorem ok_X12_readLead_j275 {Q : Option AV → AH → Prop}  {σ : SS}  {x1 : Int32} {o}    (hE : X12_readLead_j275  σ  x1 = some o) (hK : Q none (hp o)) : Ws 6 mi_X12_readLead Q 275 [some (vr 11 0), some (vi x1)] [] σ := by
  unfold X12_readLead_j275 at hE
  refine Wp.aload_n dc_X12_readLead_275 rfl ?_
  refine Wp.sgetI dc_X12_readLead_276 fw_X12_216 (mO11 (by decide)) ?_
  refine Wp.if_le (tgt := 283) dc_X12_readLead_279 (by decide) (fun hc279 => ?_) (fun hc279 => ?_)
  · rw [if_pos hc279] at hE
    refine Wp.aload_n dc_X12_readLead_283 rfl ?_
    refine Wp.sgetR (t := 34) dc_X12_readLead_284 fw_X12_35 (mO11 (by decide)) rfl ?_
    refine Wp.sipush dc_X12_readLead_287 sp_1643 ?_
    refine Wp.dup2 dc_X12_readLead_290 rfl rfl ?_
    obtain ⟨j291, h291, hE⟩ := bnd hE
    refine Wp.siald dc_X12_readLead_291 (mO13 (by decide)) h291 ?_
    refine Wp.iconst dc_X12_readLead_292 ic_1 ?_
    refine Wp.iload_n dc_X12_readLead_293 rfl ?_
    refine Wp.ishl dc_X12_readLead_294 ?_
    refine Wp.ior dc_X12_readLead_295 ?_
    obtain ⟨j296, h296, hE⟩ := bnd hE
    refine Wp.siast dc_X12_readLead_296 (mO13 (by decide)) h296 ?_
    obtain ⟨σ296, es_296, hE⟩ := bnS hE
    rw [es_296]
    refine Wp.aload_n dc_X12_readLead_297 rfl ?_
    refine Wp.sgetR (t := 34) dc_X12_readLead_298 fw_X12_35 (mO11 (by decide)) rfl ?_
    refine Wp.sipush dc_X12_readLead_301 sp_1640 ?_
    refine Wp.dup2 dc_X12_readLead_304 rfl rfl ?_
    obtain ⟨j305, h305, hE⟩ := bnd hE
    refine Wp.siald dc_X12_readLead_305 (mO13 (by decide)) h305 ?_
    refine Wp.iconst dc_X12_readLead_306 ic_1 ?_
    refine Wp.iadd dc_X12_readLead_307 ?_
    obtain ⟨j308, h308, hE⟩ := bnd hE
    refine Wp.siast dc_X12_readLead_308 (mO13 (by decide)) h308 ?_
    obtain ⟨σ308, es_308, hE⟩ := bnS hE
    rw [es_308]
    cases hE
    exact Wp.return dc_X12_readLead_309 rfl (Nat.le_refl _) (Nat.le_refl _) hK
  · rw [if_neg hc279] at hE
    cases hE
    exact Wp.return dc_X12_readLead_282 rfl (Nat.le_refl _) (Nat.le_refl _) hK
theorem ok_X12_readLead_j243 {Q : Option AV → AH → Prop}  {σ : SS}  {x1 : Int32} {o}    (hE : X12_readLead_j243  σ  x1 = some o) (hK : Q none (hp o)) : Ws 6 mi_X12_readLead Q 243 [some (vr 11 0), some (vi x1)] [] σ := by
  unfold X12_readLead_j243 at hE
  refine Wp.aload_n dc_X12_readLead_243 rfl ?_
  refine Wp.sgetI dc_X12_readLead_244 fw_X12_216 (mO11 (by decide)) ?_
  refine Wp.if_ne (tgt := 275) dc_X12_readLead_247 (by decide) (fun hc247 => ?_) (fun hc247 => ?_)
  · rw [if_neg hc247] at hE
    exact ok_X12_readLead_j275   hE hK
  · rw [if_pos hc247] at hE
    refine Wp.aload_n dc_X12_readLead_250 rfl ?_
    obtain ⟨v251, h251, hE⟩ := bnd hE
    refine Wp.cV0i (ok_X12_isClip  h251) dc_X12_readLead_251 mw_X12_169 (mO11 (by decide)) (by decide) (Nat.le_of_ble_eq_true rfl) ?_
    refine Wp.if_eq (tgt := 275) dc_X12_readLead_254 (by decide) (fun hc254 => ?_) (fun hc254 => ?_)
    · rw [if_pos hc254] at hE
      exact ok_X12_readLead_j275   hE hK
    · rw [if_neg hc254] at hE
      refine Wp.aload_n dc_X12_readLead_257 rfl ?_
      refine Wp.sgetR (t := 34) dc_X12_readLead_258 fw_X12_35 (mO11 (by decide)) rfl ?_
      refine Wp.sipush dc_X12_readLead_261 sp_1644 ?_
      refine Wp.dup2 dc_X12_readLead_264 rfl rfl ?_
      obtain ⟨j265, h265, hE⟩ := bnd hE
      refine Wp.siald dc_X12_readLead_265 (mO13 (by decide)) h265 ?_
      refine Wp.iconst dc_X12_readLead_266 ic_1 ?_
      refine Wp.iload_n dc_X12_readLead_267 rfl ?_
      refine Wp.ishl dc_X12_readLead_268 ?_
      refine Wp.ior dc_X12_readLead_269 ?_
      obtain ⟨j270, h270, hE⟩ := bnd hE
      refine Wp.siast dc_X12_readLead_270 (mO13 (by decide)) h270 ?_
      obtain ⟨σ270, es_270, hE⟩ := bnS hE
      rw [es_270]
      refine Wp.aload_n dc_X12_readLead_271 rfl ?_
      obtain ⟨σ272, h272, hE⟩ := bnd hE
      refine Wp.cV0v (ok_X12_next  h272) dc_X12_readLead_272 mw_X12_226 (mO11 (by decide)) (by decide) (Nat.le_of_ble_eq_true rfl) ?_
      exact ok_X12_readLead_j275   hE hK
theorem ok_X12_readLead_j208 {Q : Option AV → AH → Prop}  {σ : SS}  {x1 : Int32} {o}    (hE : X12_readLead_j208  σ  x1 = some o) (hK : Q none (hp o)) : Ws 6 mi_X12_readLead Q 208 [some (vr 11 0), some (vi x1)] [] σ := by
  unfold X12_readLead_j208 at hE
  refine Wp.aload_n dc_X12_readLead_208 rfl ?_
  refine Wp.sgetI dc_X12_readLead_209 fw_X12_216 (mO11 (by decide)) ?_
  refine Wp.if_ne (tgt := 243) dc_X12_readLead_212 (by decide) (fun hc212 => ?_) (fun hc212 => ?_)
  · rw [if_neg hc212] at hE
    exact ok_X12_readLead_j243   hE hK
  · rw [if_pos hc212] at hE
    refine Wp.aload_n dc_X12_readLead_215 rfl ?_
    obtain ⟨v216, h216, hE⟩ := bnd hE
    refine Wp.cV0i (ok_X12_isUsed  h216) dc_X12_readLead_216 mw_X12_191 (mO11 (by decide)) (by decide) (Nat.le_of_ble_eq_true rfl) ?_
    refine Wp.if_eq (tgt := 243) dc_X12_readLead_219 (by decide) (fun hc219 => ?_) (fun hc219 => ?_)
    · rw [if_pos hc219] at hE
      exact ok_X12_readLead_j243   hE hK
    · rw [if_neg hc219] at hE
      refine Wp.aload_n dc_X12_readLead_222 rfl ?_
      obtain ⟨σ223, h223, hE⟩ := bnd hE
      refine Wp.cV0v (ok_X12_next  h223) dc_X12_readLead_223 mw_X12_226 (mO11 (by decide)) (by decide) (Nat.le_of_ble_eq_true rfl) ?_
      refine Wp.aload_n dc_X12_readLead_226 rfl ?_
      refine Wp.sgetR (t := 34) dc_X12_readLead_227 fw_X12_35 (mO11 (by decide)) rfl ?_
      refine Wp.sipush dc_X12_readLead_230 sp_1688 ?_
      refine Wp.iload_n dc_X12_readLead_233 rfl ?_
      refine Wp.iadd dc_X12_readLead_234 ?_
      refine Wp.aload_n dc_X12_readLead_235 rfl ?_
      refine Wp.iconst dc_X12_readLead_236 ic_0 ?_
      refine Wp.bipush dc_X12_readLead_237 bp_16 ?_
      obtain ⟨p239, h239, hE⟩ := bnd hE
      refine Wp.cV2i (ok_X12_count  h239) dc_X12_readLead_239 mw_X12_261 (mO11 (by decide)) (by decide) (Nat.le_of_ble_eq_true rfl) ?_
      obtain ⟨j242, h242, hE⟩ := bnd hE
      refine Wp.siast dc_X12_readLead_242 (mO13 (by decide)) h242 ?_
      obtain ⟨σ242, es_242, hE⟩ := bnS hE
      rw [es_242]
      exact ok_X12_readLead_j243   hE hK
theorem ok_X12_readLead_j172 {Q : Option AV → AH → Prop}  {σ : SS}  {x1 : Int32} {o}    (hE : X12_readLead_j172  σ  x1 = some o) (hK : Q none (hp o)) : Ws 6 mi_X12_readLead Q 172 [some (vr 11 0), some (vi x1)] [] σ := by
  unfold X12_readLead_j172 at hE
  refine Wp.aload_n dc_X12_readLead_172 rfl ?_
  refine Wp.sgetI dc_X12_readLead_173 fw_X12_216 (mO11 (by decide)) ?_
  refine Wp.if_ne (tgt := 208) dc_X12_readLead_176 (by decide) (fun hc176 => ?_) (fun hc176 => ?_)
  · rw [if_neg hc176] at hE
    exact ok_X12_readLead_j208   hE hK
  · rw [if_pos hc176] at hE
    refine Wp.aload_n dc_X12_readLead_179 rfl ?_
    obtain ⟨v180, h180, hE⟩ := bnd hE
    refine Wp.cV0i (ok_X12_isCosts  h180) dc_X12_readLead_180 mw_X12_188 (mO11 (by decide)) (by decide) (Nat.le_of_ble_eq_true rfl) ?_
    refine Wp.if_eq (tgt := 208) dc_X12_readLead_183 (by decide) (fun hc183 => ?_) (fun hc183 => ?_)
    · rw [if_pos hc183] at hE
      exact ok_X12_readLead_j208   hE hK
    · rw [if_neg hc183] at hE
      refine Wp.aload_n dc_X12_readLead_186 rfl ?_
      obtain ⟨σ187, h187, hE⟩ := bnd hE
      refine Wp.cV0v (ok_X12_next  h187) dc_X12_readLead_187 mw_X12_226 (mO11 (by decide)) (by decide) (Nat.le_of_ble_eq_true rfl) ?_
      refine Wp.aload_n dc_X12_readLead_190 rfl ?_
      refine Wp.sgetR (t := 34) dc_X12_readLead_191 fw_X12_35 (mO11 (by decide)) rfl ?_
      refine Wp.sipush dc_X12_readLead_194 sp_1680 ?_
      refine Wp.iload_n dc_X12_readLead_197 rfl ?_
      refine Wp.iadd dc_X12_readLead_198 ?_
      refine Wp.aload_n dc_X12_readLead_199 rfl ?_
      refine Wp.iconst dc_X12_readLead_200 ic_0 ?_
      refine Wp.sipush dc_X12_readLead_201 sp_999 ?_
      obtain ⟨p204, h204, hE⟩ := bnd hE
      refine Wp.cV2i (ok_X12_count  h204) dc_X12_readLead_204 mw_X12_261 (mO11 (by decide)) (by decide) (Nat.le_of_ble_eq_true rfl) ?_
      obtain ⟨j207, h207, hE⟩ := bnd hE
      refine Wp.siast dc_X12_readLead_207 (mO13 (by decide)) h207 ?_
      obtain ⟨σ207, es_207, hE⟩ := bnS hE
      rw [es_207]
      exact ok_X12_readLead_j208   hE hK
theorem ok_X12_readLead_j120 {Q : Option AV → AH → Prop}  {σ : SS}  {x1 : Int32} {o}    (hE : X12_readLead_j120  σ  x1 = some o) (hK : Q none (hp o)) : Ws 6 mi_X12_readLead Q 120 [some (vr 11 0), some (vi x1)] [] σ := by
  unfold X12_readLead_j120 at hE
  refine Wp.aload_n dc_X12_readLead_120 rfl ?_
  refine Wp.sgetI dc_X12_readLead_121 fw_X12_216 (mO11 (by decide)) ?_
  refine Wp.if_ne (tgt := 172) dc_X12_readLead_124 (by decide) (fun hc124 => ?_) (fun hc124 => ?_)
  · rw [if_neg hc124] at hE
    exact ok_X12_readLead_j172   hE hK
  · rw [if_pos hc124] at hE
    refine Wp.aload_n dc_X12_readLead_127 rfl ?_
    obtain ⟨v128, h128, hE⟩ := bnd hE
    refine Wp.cV0i (ok_X12_isEnds  h128) dc_X12_readLead_128 mw_X12_185 (mO11 (by decide)) (by decide) (Nat.le_of_ble_eq_true rfl) ?_
    refine Wp.if_eq (tgt := 172) dc_X12_readLead_131 (by decide) (fun hc131 => ?_) (fun hc131 => ?_)
    · rw [if_pos hc131] at hE
      exact ok_X12_readLead_j172   hE hK
    · rw [if_neg hc131] at hE
      refine Wp.aload_n dc_X12_readLead_134 rfl ?_
      obtain ⟨σ135, h135, hE⟩ := bnd hE
      refine Wp.cV0v (ok_X12_next  h135) dc_X12_readLead_135 mw_X12_226 (mO11 (by decide)) (by decide) (Nat.le_of_ble_eq_true rfl) ?_
      refine Wp.aload_n dc_X12_readLead_138 rfl ?_
      refine Wp.sgetR (t := 34) dc_X12_readLead_139 fw_X12_35 (mO11 (by decide)) rfl ?_
      refine Wp.sipush dc_X12_readLead_142 sp_1664 ?_
      refine Wp.iload_n dc_X12_readLead_145 rfl ?_
      refine Wp.iadd dc_X12_readLead_146 ?_
      refine Wp.aload_n dc_X12_readLead_147 rfl ?_
      refine Wp.iconst dc_X12_readLead_148 ic_1 ?_
      refine Wp.bipush dc_X12_readLead_149 bp_9 ?_
      obtain ⟨p151, h151, hE⟩ := bnd hE
      refine Wp.cV2i (ok_X12_count  h151) dc_X12_readLead_151 mw_X12_261 (mO11 (by decide)) (by decide) (Nat.le_of_ble_eq_true rfl) ?_
      obtain ⟨j154, h154, hE⟩ := bnd hE
      refine Wp.siast dc_X12_readLead_154 (mO13 (by decide)) h154 ?_
      obtain ⟨σ154, es_154, hE⟩ := bnS hE
      rw [es_154]
      refine Wp.aload_n dc_X12_readLead_155 rfl ?_
      refine Wp.sgetR (t := 34) dc_X12_readLead_156 fw_X12_35 (mO11 (by decide)) rfl ?_
      refine Wp.sipush dc_X12_readLead_159 sp_1672 ?_
      refine Wp.iload_n dc_X12_readLead_162 rfl ?_
      refine Wp.iadd dc_X12_readLead_163 ?_
      refine Wp.aload_n dc_X12_readLead_164 rfl ?_
      refine Wp.iconst dc_X12_readLead_165 ic_1 ?_
      refine Wp.bipush dc_X12_readLead_166 bp_9 ?_
      obtain ⟨p168, h168, hE⟩ := bnd hE
      refine Wp.cV2i (ok_X12_count  h168) dc_X12_readLead_168 mw_X12_261 (mO11 (by decide)) (by decide) (Nat.le_of_ble_eq_true rfl) ?_
      obtain ⟨j171, h171, hE⟩ := bnd hE
      refine Wp.siast dc_X12_readLead_171 (mO13 (by decide)) h171 ?_
      obtain ⟨σ171, es_171, hE⟩ := bnS hE
      rw [es_171]
      exact ok_X12_readLead_j172   hE hK
theorem ok_X12_readLead_j25 {Q : Option AV → AH → Prop}  {σ : SS}  {x1 : Int32} {o}    (hE : X12_readLead_j25  σ  x1 = some o) (hK : Q none (hp o)) : Ws 6 mi_X12_readLead Q 25 [some (vr 11 0), some (vi x1)] [] σ := by
  unfold X12_readLead_j25 at hE
  refine Wp.aload_n dc_X12_readLead_25 rfl ?_
  refine Wp.sgetI dc_X12_readLead_26 fw_X12_216 (mO11 (by decide)) ?_
  refine Wp.if_le (tgt := 33) dc_X12_readLead_29 (by decide) (fun hc29 => ?_) (fun hc29 => ?_)
  · rw [if_pos hc29] at hE
    refine Wp.aload_n dc_X12_readLead_33 rfl ?_
    refine Wp.iload_n dc_X12_readLead_34 rfl ?_
    obtain ⟨σ35, h35, hE⟩ := bnd hE
    refine Wp.cV1v (ok_X12_readNew  h35) dc_X12_readLead_35 mw_X12_258 (mO11 (by decide)) (by decide) (Nat.le_of_ble_eq_true rfl) ?_
    refine Wp.aload_n dc_X12_readLead_38 rfl ?_
    refine Wp.aload_n dc_X12_readLead_39 rfl ?_
    obtain ⟨v40, h40, hE⟩ := bnd hE
    refine Wp.cV0i (ok_X12_isLong  h40) dc_X12_readLead_40 mw_X12_179 (mO11 (by decide)) (by decide) (Nat.le_of_ble_eq_true rfl) ?_
    obtain ⟨σ43, h43, hE⟩ := bnd hE
    refine Wp.cV1v (ok_X12_must  h43) dc_X12_readLead_43 mw_X12_254 (mO11 (by decide)) (by decide) (Nat.le_of_ble_eq_true rfl) ?_
    refine Wp.aload_n dc_X12_readLead_46 rfl ?_
    refine Wp.sgetR (t := 34) dc_X12_readLead_47 fw_X12_35 (mO11 (by decide)) rfl ?_
    refine Wp.sipush dc_X12_readLead_50 sp_1648 ?_
    refine Wp.iload_n dc_X12_readLead_53 rfl ?_
    refine Wp.iadd dc_X12_readLead_54 ?_
    refine Wp.aload_n dc_X12_readLead_55 rfl ?_
    refine Wp.iconst dc_X12_readLead_56 ic_1 ?_
    refine Wp.bipush dc_X12_readLead_57 bp_30 ?_
    obtain ⟨p59, h59, hE⟩ := bnd hE
    refine Wp.cV2i (ok_X12_count  h59) dc_X12_readLead_59 mw_X12_261 (mO11 (by decide)) (by decide) (Nat.le_of_ble_eq_true rfl) ?_
    obtain ⟨j62, h62, hE⟩ := bnd hE
    refine Wp.siast dc_X12_readLead_62 (mO13 (by decide)) h62 ?_
    obtain ⟨σ62, es_62, hE⟩ := bnS hE
    rw [es_62]
    refine Wp.aload_n dc_X12_readLead_63 rfl ?_
    refine Wp.sgetR (t := 34) dc_X12_readLead_64 fw_X12_35 (mO11 (by decide)) rfl ?_
    refine Wp.sipush dc_X12_readLead_67 sp_1664 ?_
    refine Wp.iload_n dc_X12_readLead_70 rfl ?_
    refine Wp.iadd dc_X12_readLead_71 ?_
    refine Wp.iconst dc_X12_readLead_72 ic_3 ?_
    obtain ⟨j73, h73, hE⟩ := bnd hE
    refine Wp.siast dc_X12_readLead_73 (mO13 (by decide)) h73 ?_
    obtain ⟨σ73, es_73, hE⟩ := bnS hE
    rw [es_73]
    refine Wp.aload_n dc_X12_readLead_74 rfl ?_
    refine Wp.sgetR (t := 34) dc_X12_readLead_75 fw_X12_35 (mO11 (by decide)) rfl ?_
    refine Wp.sipush dc_X12_readLead_78 sp_1672 ?_
    refine Wp.iload_n dc_X12_readLead_81 rfl ?_
    refine Wp.iadd dc_X12_readLead_82 ?_
    refine Wp.iconst dc_X12_readLead_83 ic_3 ?_
    obtain ⟨j84, h84, hE⟩ := bnd hE
    refine Wp.siast dc_X12_readLead_84 (mO13 (by decide)) h84 ?_
    obtain ⟨σ84, es_84, hE⟩ := bnS hE
    rw [es_84]
    refine Wp.aload_n dc_X12_readLead_85 rfl ?_
    refine Wp.sgetI dc_X12_readLead_86 fw_X12_216 (mO11 (by decide)) ?_
    refine Wp.if_ne (tgt := 120) dc_X12_readLead_89 (by decide) (fun hc89 => ?_) (fun hc89 => ?_)
    · rw [if_neg hc89] at hE
      exact ok_X12_readLead_j120   hE hK
    · rw [if_pos hc89] at hE
      refine Wp.aload_n dc_X12_readLead_92 rfl ?_
      obtain ⟨v93, h93, hE⟩ := bnd hE
      refine Wp.cV0i (ok_X12_isStiff  h93) dc_X12_readLead_93 mw_X12_182 (mO11 (by decide)) (by decide) (Nat.le_of_ble_eq_true rfl) ?_
      refine Wp.if_eq (tgt := 120) dc_X12_readLead_96 (by decide) (fun hc96 => ?_) (fun hc96 => ?_)
      · rw [if_pos hc96] at hE
        exact ok_X12_readLead_j120   hE hK
      · rw [if_neg hc96] at hE
        refine Wp.aload_n dc_X12_readLead_99 rfl ?_
        obtain ⟨σ100, h100, hE⟩ := bnd hE
        refine Wp.cV0v (ok_X12_next  h100) dc_X12_readLead_100 mw_X12_226 (mO11 (by decide)) (by decide) (Nat.le_of_ble_eq_true rfl) ?_
        refine Wp.aload_n dc_X12_readLead_103 rfl ?_
        refine Wp.sgetR (t := 34) dc_X12_readLead_104 fw_X12_35 (mO11 (by decide)) rfl ?_
        refine Wp.sipush dc_X12_readLead_107 sp_1656 ?_
        refine Wp.iload_n dc_X12_readLead_110 rfl ?_
        refine Wp.iadd dc_X12_readLead_111 ?_
        refine Wp.aload_n dc_X12_readLead_112 rfl ?_
        refine Wp.iconst dc_X12_readLead_113 ic_0 ?_
        refine Wp.bipush dc_X12_readLead_114 bp_9 ?_
        obtain ⟨p116, h116, hE⟩ := bnd hE
        refine Wp.cV2i (ok_X12_count  h116) dc_X12_readLead_116 mw_X12_261 (mO11 (by decide)) (by decide) (Nat.le_of_ble_eq_true rfl) ?_
        obtain ⟨j119, h119, hE⟩ := bnd hE
        refine Wp.siast dc_X12_readLead_119 (mO13 (by decide)) h119 ?_
        obtain ⟨σ119, es_119, hE⟩ := bnS hE
        rw [es_119]
        exact ok_X12_readLead_j120   hE hK
  · rw [if_neg hc29] at hE
    cases hE
    exact Wp.return dc_X12_readLead_32 rfl (Nat.le_refl _) (Nat.le_refl _) hK
theorem ok_X12_readLead_j0 {Q : Option AV → AH → Prop}  {σ : SS}   {o} {z1 : Option AV}   (hE : X12_readLead_j0  σ   = some o) (hK : Q none (hp o)) : Ws 6 mi_X12_readLead Q 0 [some (vr 11 0), z1] [] σ := by
  unfold X12_readLead_j0 at hE
  refine Wp.aload_n dc_X12_readLead_0 rfl ?_
  refine Wp.sgetR (t := 34) dc_X12_readLead_1 fw_X12_35 (mO11 (by decide)) rfl ?_
  refine Wp.sipush dc_X12_readLead_4 sp_1640 ?_
  obtain ⟨j7, h7, hE⟩ := bnd hE
  refine Wp.siald dc_X12_readLead_7 (mO13 (by decide)) h7 ?_
  obtain ⟨x1_8, e_8, hE⟩ := bnS hE
  rw [e_8]
  refine Wp.istore_n dc_X12_readLead_8 (by decide) ?_
  refine Wp.iload_n dc_X12_readLead_9 rfl ?_
  refine Wp.bipush dc_X12_readLead_10 bp_8 ?_
  refine Wp.icmp_ne (tgt := 25) dc_X12_readLead_12 (by decide) (fun hc12 => ?_) (fun hc12 => ?_)
  · rw [if_neg hc12] at hE
    exact ok_X12_readLead_j25   hE hK
  · rw [if_pos hc12] at hE
    refine Wp.aload_n dc_X12_readLead_15 rfl ?_
    refine Wp.bipush dc_X12_readLead_16 bp_6 ?_
    refine Wp.aload_n dc_X12_readLead_18 rfl ?_
    refine Wp.sgetI dc_X12_readLead_19 fw_X12_126 (mO11 (by decide)) ?_
    obtain ⟨σ22, h22, hE⟩ := bnd hE
    refine Wp.cV2v (ok_X12_fail  h22) dc_X12_readLead_22 mw_X12_222 (mO11 (by decide)) (by decide) (Nat.le_of_ble_eq_true rfl) ?_
    exact ok_X12_readLead_j25   hE hK
theorem ok_X12_readLead  {σ : SS}   {o}   (hE : X12_readLead  σ   = some o) : Runs 6 0 0 mi_X12_readLead [vr 11 0] (hp σ) (fun v h => v = none ∧ h = hp o) := by
  refine Runs.of pn_X12 (Nat.le_of_ble_eq_true rfl) ?_
  exact ok_X12_readLead_j0   hE ⟨rfl, rfl⟩
theorem ok_X12_readCross_j148 {Q : Option AV → AH → Prop}  {σ : SS}  {x1 : Int32} {x2 : Int32} {x3 : Int32} {x4 : Int32} {o}    (hE : X12_readCross_j148  σ  x1 x2 x3 x4 = some o) (hK : Q none (hp o)) : Ws 6 mi_X12_readCross Q 148 [some (vr 11 0), some (vi x1), some (vi x2), some (vi x3), some (vi x4)] [] σ := by
  unfold X12_readCross_j148 at hE
  refine Wp.aload_n dc_X12_readCross_148 rfl ?_
  refine Wp.sgetI dc_X12_readCross_149 fw_X12_216 (mO11 (by decide)) ?_
  refine Wp.if_le (tgt := 156) dc_X12_readCross_152 (by decide) (fun hc152 => ?_) (fun hc152 => ?_)
  · rw [if_pos hc152] at hE
    refine Wp.aload_n dc_X12_readCross_156 rfl ?_
    refine Wp.sgetR (t := 34) dc_X12_readCross_157 fw_X12_35 (mO11 (by decide)) rfl ?_
    refine Wp.sipush dc_X12_readCross_160 sp_1700 ?_
    refine Wp.iload_n dc_X12_readCross_163 rfl ?_
    refine Wp.iadd dc_X12_readCross_164 ?_
    refine Wp.iload_n dc_X12_readCross_165 rfl ?_
    obtain ⟨j166, h166, hE⟩ := bnd hE
    refine Wp.siast dc_X12_readCross_166 (mO13 (by decide)) h166 ?_
    obtain ⟨σ166, es_166, hE⟩ := bnS hE
    rw [es_166]
    refine Wp.aload_n dc_X12_readCross_167 rfl ?_
    refine Wp.sgetR (t := 34) dc_X12_readCross_168 fw_X12_35 (mO11 (by decide)) rfl ?_
    refine Wp.sipush dc_X12_readCross_171 sp_1724 ?_
    refine Wp.iload_n dc_X12_readCross_174 rfl ?_
    refine Wp.iadd dc_X12_readCross_175 ?_
    refine Wp.iload_n dc_X12_readCross_176 rfl ?_
    obtain ⟨j177, h177, hE⟩ := bnd hE
    refine Wp.siast dc_X12_readCross_177 (mO13 (by decide)) h177 ?_
    obtain ⟨σ177, es_177, hE⟩ := bnS hE
    rw [es_177]
    refine Wp.aload_n dc_X12_readCross_178 rfl ?_
    refine Wp.sgetR (t := 34) dc_X12_readCross_179 fw_X12_35 (mO11 (by decide)) rfl ?_
    refine Wp.sipush dc_X12_readCross_182 sp_1748 ?_
    refine Wp.iload_n dc_X12_readCross_185 rfl ?_
    refine Wp.iadd dc_X12_readCross_186 ?_
    refine Wp.iload dc_X12_readCross_187 rfl ?_
    obtain ⟨j189, h189, hE⟩ := bnd hE
    refine Wp.siast dc_X12_readCross_189 (mO13 (by decide)) h189 ?_
    obtain ⟨σ189, es_189, hE⟩ := bnS hE
    rw [es_189]
    refine Wp.aload_n dc_X12_readCross_190 rfl ?_
    refine Wp.sgetR (t := 34) dc_X12_readCross_191 fw_X12_35 (mO11 (by decide)) rfl ?_
    refine Wp.sipush dc_X12_readCross_194 sp_1641 ?_
    refine Wp.dup2 dc_X12_readCross_197 rfl rfl ?_
    obtain ⟨j198, h198, hE⟩ := bnd hE
    refine Wp.siald dc_X12_readCross_198 (mO13 (by decide)) h198 ?_
    refine Wp.iconst dc_X12_readCross_199 ic_1 ?_
    refine Wp.iadd dc_X12_readCross_200 ?_
    obtain ⟨j201, h201, hE⟩ := bnd hE
    refine Wp.siast dc_X12_readCross_201 (mO13 (by decide)) h201 ?_
    obtain ⟨σ201, es_201, hE⟩ := bnS hE
    rw [es_201]
    cases hE
    exact Wp.return dc_X12_readCross_202 rfl (Nat.le_refl _) (Nat.le_refl _) hK
  · rw [if_neg hc152] at hE
    cases hE
    exact Wp.return dc_X12_readCross_155 rfl (Nat.le_refl _) (Nat.le_refl _) hK
theorem ok_X12_readCross_j121 {Q : Option AV → AH → Prop}  {σ : SS}  {x1 : Int32} {x2 : Int32} {x3 : Int32} {o} {z4 : Option AV}   (hE : X12_readCross_j121  σ  x1 x2 x3 = some o) (hK : Q none (hp o)) : Ws 6 mi_X12_readCross Q 121 [some (vr 11 0), some (vi x1), some (vi x2), some (vi x3), z4] [] σ := by
  unfold X12_readCross_j121 at hE
  refine Wp.aload_n dc_X12_readCross_121 rfl ?_
  refine Wp.iconst dc_X12_readCross_122 ic_1 ?_
  obtain ⟨σ123, h123, hE⟩ := bnd hE
  refine Wp.cV1v (ok_X12_must  h123) dc_X12_readCross_123 mw_X12_254 (mO11 (by decide)) (by decide) (Nat.le_of_ble_eq_true rfl) ?_
  refine Wp.aload_n dc_X12_readCross_126 rfl ?_
  obtain ⟨v127, h127, hE⟩ := bnd hE
  refine Wp.cV0i (ok_X12_stateWord  h127) dc_X12_readCross_127 mw_X12_200 (mO11 (by decide)) (by decide) (Nat.le_of_ble_eq_true rfl) ?_
  refine Wp.istore dc_X12_readCross_130 (by decide) ?_
  refine Wp.aload_n dc_X12_readCross_132 rfl ?_
  refine Wp.sgetI dc_X12_readCross_133 fw_X12_216 (mO11 (by decide)) ?_
  refine Wp.if_ne (tgt := 148) dc_X12_readCross_136 (by decide) (fun hc136 => ?_) (fun hc136 => ?_)
  · rw [if_neg hc136] at hE
    exact ok_X12_readCross_j148   hE hK
  · rw [if_pos hc136] at hE
    refine Wp.iload dc_X12_readCross_139 rfl ?_
    refine Wp.if_le (tgt := 148) dc_X12_readCross_141 (by decide) (fun hc141 => ?_) (fun hc141 => ?_)
    · rw [if_pos hc141] at hE
      exact ok_X12_readCross_j148   hE hK
    · rw [if_neg hc141] at hE
      refine Wp.aload_n dc_X12_readCross_144 rfl ?_
      obtain ⟨σ145, h145, hE⟩ := bnd hE
      refine Wp.cV0v (ok_X12_next  h145) dc_X12_readCross_145 mw_X12_226 (mO11 (by decide)) (by decide) (Nat.le_of_ble_eq_true rfl) ?_
      exact ok_X12_readCross_j148   hE hK
theorem ok_X12_readCross_j112 {Q : Option AV → AH → Prop}  {σ : SS}  {x1 : Int32} {x2 : Int32} {x3 : Int32} {o} {z4 : Option AV}   (hE : X12_readCross_j112  σ  x1 x2 x3 = some o) (hK : Q none (hp o)) : Ws 6 mi_X12_readCross Q 112 [some (vr 11 0), some (vi x1), some (vi x2), some (vi x3), z4] [] σ := by
  unfold X12_readCross_j112 at hE
  refine Wp.aload_n dc_X12_readCross_112 rfl ?_
  refine Wp.iconst dc_X12_readCross_113 ic_5 ?_
  refine Wp.aload_n dc_X12_readCross_114 rfl ?_
  refine Wp.sgetI dc_X12_readCross_115 fw_X12_126 (mO11 (by decide)) ?_
  obtain ⟨σ118, h118, hE⟩ := bnd hE
  refine Wp.cV2v (ok_X12_fail  h118) dc_X12_readCross_118 mw_X12_222 (mO11 (by decide)) (by decide) (Nat.le_of_ble_eq_true rfl) ?_
  exact ok_X12_readCross_j121   hE hK
theorem ok_X12_readCross_j74 {Q : Option AV → AH → Prop}  {σ : SS}  {x1 : Int32} {x2 : Int32} {o} {z3 z4 : Option AV}   (hE : X12_readCross_j74  σ  x1 x2 = some o) (hK : Q none (hp o)) : Ws 6 mi_X12_readCross Q 74 [some (vr 11 0), some (vi x1), some (vi x2), z3, z4] [] σ := by
  unfold X12_readCross_j74 at hE
  refine Wp.aload_n dc_X12_readCross_74 rfl ?_
  refine Wp.iconst dc_X12_readCross_75 ic_1 ?_
  obtain ⟨σ76, h76, hE⟩ := bnd hE
  refine Wp.cV1v (ok_X12_must  h76) dc_X12_readCross_76 mw_X12_254 (mO11 (by decide)) (by decide) (Nat.le_of_ble_eq_true rfl) ?_
  refine Wp.aload_n dc_X12_readCross_79 rfl ?_
  refine Wp.iconst dc_X12_readCross_80 ic_4 ?_
  obtain ⟨p81, h81, hE⟩ := bnd hE
  refine Wp.cV1i (ok_X12_told  h81) dc_X12_readCross_81 mw_X12_251 (mO11 (by decide)) (by decide) (Nat.le_of_ble_eq_true rfl) ?_
  refine Wp.istore_n dc_X12_readCross_84 (by decide) ?_
  refine Wp.aload_n dc_X12_readCross_85 rfl ?_
  refine Wp.sgetI dc_X12_readCross_86 fw_X12_216 (mO11 (by decide)) ?_
  refine Wp.if_ne (tgt := 121) dc_X12_readCross_89 (by decide) (fun hc89 => ?_) (fun hc89 => ?_)
  · rw [if_neg hc89] at hE
    exact ok_X12_readCross_j121   hE hK
  · rw [if_pos hc89] at hE
    refine Wp.iload_n dc_X12_readCross_92 rfl ?_
    refine Wp.iload_n dc_X12_readCross_93 rfl ?_
    refine Wp.icmp_eq (tgt := 112) dc_X12_readCross_94 (by decide) (fun hc94 => ?_) (fun hc94 => ?_)
    · rw [if_pos hc94] at hE
      exact ok_X12_readCross_j112   hE hK
    · rw [if_neg hc94] at hE
      refine Wp.aload_n dc_X12_readCross_97 rfl ?_
      refine Wp.sgetR (t := 34) dc_X12_readCross_98 fw_X12_35 (mO11 (by decide)) rfl ?_
      refine Wp.sipush dc_X12_readCross_101 sp_1644 ?_
      obtain ⟨j104, h104, hE⟩ := bnd hE
      refine Wp.siald dc_X12_readCross_104 (mO13 (by decide)) h104 ?_
      refine Wp.iload_n dc_X12_readCross_105 rfl ?_
      obtain ⟨v106, h106, hE⟩ := bnd hE
      refine Wp.cS2i (ok_X12_has  h106) dc_X12_readCross_106 mw_X12_116 (by decide) (Nat.le_of_ble_eq_true rfl) ?_
      refine Wp.if_eq (tgt := 121) dc_X12_readCross_109 (by decide) (fun hc109 => ?_) (fun hc109 => ?_)
      · rw [if_pos hc109] at hE
        exact ok_X12_readCross_j121   hE hK
      · rw [if_neg hc109] at hE
        exact ok_X12_readCross_j112   hE hK
theorem ok_X12_readCross_j25 {Q : Option AV → AH → Prop}  {σ : SS}  {x1 : Int32} {o} {z2 z3 z4 : Option AV}   (hE : X12_readCross_j25  σ  x1 = some o) (hK : Q none (hp o)) : Ws 6 mi_X12_readCross Q 25 [some (vr 11 0), some (vi x1), z2, z3, z4] [] σ := by
  unfold X12_readCross_j25 at hE
  refine Wp.aload_n dc_X12_readCross_25 rfl ?_
  refine Wp.sgetI dc_X12_readCross_26 fw_X12_216 (mO11 (by decide)) ?_
  refine Wp.if_le (tgt := 33) dc_X12_readCross_29 (by decide) (fun hc29 => ?_) (fun hc29 => ?_)
  · rw [if_pos hc29] at hE
    refine Wp.aload_n dc_X12_readCross_33 rfl ?_
    obtain ⟨σ34, h34, hE⟩ := bnd hE
    refine Wp.cV0v (ok_X12_next  h34) dc_X12_readCross_34 mw_X12_226 (mO11 (by decide)) (by decide) (Nat.le_of_ble_eq_true rfl) ?_
    refine Wp.aload_n dc_X12_readCross_37 rfl ?_
    refine Wp.iconst dc_X12_readCross_38 ic_4 ?_
    obtain ⟨p39, h39, hE⟩ := bnd hE
    refine Wp.cV1i (ok_X12_told  h39) dc_X12_readCross_39 mw_X12_251 (mO11 (by decide)) (by decide) (Nat.le_of_ble_eq_true rfl) ?_
    refine Wp.istore_n dc_X12_readCross_42 (by decide) ?_
    refine Wp.aload_n dc_X12_readCross_43 rfl ?_
    refine Wp.sgetI dc_X12_readCross_44 fw_X12_216 (mO11 (by decide)) ?_
    refine Wp.if_ne (tgt := 74) dc_X12_readCross_47 (by decide) (fun hc47 => ?_) (fun hc47 => ?_)
    · rw [if_neg hc47] at hE
      exact ok_X12_readCross_j74   hE hK
    · rw [if_pos hc47] at hE
      refine Wp.aload_n dc_X12_readCross_50 rfl ?_
      refine Wp.sgetR (t := 34) dc_X12_readCross_51 fw_X12_35 (mO11 (by decide)) rfl ?_
      refine Wp.sipush dc_X12_readCross_54 sp_1644 ?_
      obtain ⟨j57, h57, hE⟩ := bnd hE
      refine Wp.siald dc_X12_readCross_57 (mO13 (by decide)) h57 ?_
      refine Wp.iload_n dc_X12_readCross_58 rfl ?_
      obtain ⟨v59, h59, hE⟩ := bnd hE
      refine Wp.cS2i (ok_X12_has  h59) dc_X12_readCross_59 mw_X12_116 (by decide) (Nat.le_of_ble_eq_true rfl) ?_
      refine Wp.if_eq (tgt := 74) dc_X12_readCross_62 (by decide) (fun hc62 => ?_) (fun hc62 => ?_)
      · rw [if_pos hc62] at hE
        exact ok_X12_readCross_j74   hE hK
      · rw [if_neg hc62] at hE
        refine Wp.aload_n dc_X12_readCross_65 rfl ?_
        refine Wp.iconst dc_X12_readCross_66 ic_5 ?_
        refine Wp.aload_n dc_X12_readCross_67 rfl ?_
        refine Wp.sgetI dc_X12_readCross_68 fw_X12_126 (mO11 (by decide)) ?_
        obtain ⟨σ71, h71, hE⟩ := bnd hE
        refine Wp.cV2v (ok_X12_fail  h71) dc_X12_readCross_71 mw_X12_222 (mO11 (by decide)) (by decide) (Nat.le_of_ble_eq_true rfl) ?_
        exact ok_X12_readCross_j74   hE hK
  · rw [if_neg hc29] at hE
    cases hE
    exact Wp.return dc_X12_readCross_32 rfl (Nat.le_refl _) (Nat.le_refl _) hK
theorem ok_X12_readCross_j0 {Q : Option AV → AH → Prop}  {σ : SS}   {o} {z1 z2 z3 z4 : Option AV}   (hE : X12_readCross_j0  σ   = some o) (hK : Q none (hp o)) : Ws 6 mi_X12_readCross Q 0 [some (vr 11 0), z1, z2, z3, z4] [] σ := by
  unfold X12_readCross_j0 at hE
  refine Wp.aload_n dc_X12_readCross_0 rfl ?_
  refine Wp.sgetR (t := 34) dc_X12_readCross_1 fw_X12_35 (mO11 (by decide)) rfl ?_
  refine Wp.sipush dc_X12_readCross_4 sp_1641 ?_
  obtain ⟨j7, h7, hE⟩ := bnd hE
  refine Wp.siald dc_X12_readCross_7 (mO13 (by decide)) h7 ?_
  obtain ⟨x1_8, e_8, hE⟩ := bnS hE
  rw [e_8]
  refine Wp.istore_n dc_X12_readCross_8 (by decide) ?_
  refine Wp.iload_n dc_X12_readCross_9 rfl ?_
  refine Wp.bipush dc_X12_readCross_10 bp_24 ?_
  refine Wp.icmp_ne (tgt := 25) dc_X12_readCross_12 (by decide) (fun hc12 => ?_) (fun hc12 => ?_)
  · rw [if_neg hc12] at hE
    exact ok_X12_readCross_j25   hE hK
  · rw [if_pos hc12] at hE
    refine Wp.aload_n dc_X12_readCross_15 rfl ?_
    refine Wp.bipush dc_X12_readCross_16 bp_6 ?_
    refine Wp.aload_n dc_X12_readCross_18 rfl ?_
    refine Wp.sgetI dc_X12_readCross_19 fw_X12_126 (mO11 (by decide)) ?_
    obtain ⟨σ22, h22, hE⟩ := bnd hE
    refine Wp.cV2v (ok_X12_fail  h22) dc_X12_readCross_22 mw_X12_222 (mO11 (by decide)) (by decide) (Nat.le_of_ble_eq_true rfl) ?_
    exact ok_X12_readCross_j25   hE hK
theorem ok_X12_readCross  {σ : SS}   {o}   (hE : X12_readCross  σ   = some o) : Runs 6 0 0 mi_X12_readCross [vr 11 0] (hp σ) (fun v h => v = none ∧ h = hp o) := by
  refine Runs.of pn_X12 (Nat.le_of_ble_eq_true rfl) ?_
  exact ok_X12_readCross_j0   hE ⟨rfl, rfl⟩
def X12_readLook_P44 (Q : Option AV → AH → Prop)   (x1 : Int32) (ss : Int32 × Int32 × SS) : Prop := ∀ z4 : Option AV, Ws 6 mi_X12_readLook Q 44 [some (vr 11 0), some (vi x1), some (vi ss.1), some (vi ss.2.1), z4] [] ss.2.2
def X12_readLook_R44 (Q : Option AV → AH → Prop)   (x1 : Int32) (tt : Int32 × SS) : Prop := ∀ z3 z4 : Option AV, Ws 6 mi_X12_readLook Q 116 [some (vr 11 0), some (vi x1), some (vi tt.1), z3, z4] [] tt.2
theorem ok_X12_readLook_j112 {Q : Option AV → AH → Prop}  {σ : SS}  {x1 : Int32} {x2 : Int32} {s0 : Int32} {o} {z3 z4 : Option AV}   (hE : X12_readLook_j112  σ  x1 x2 s0 = some o) (hS : ∀ ss, o = Sum.inl ss → (X12_readLook_P44  Q   x1) ss) (hT : ∀ tt, o = Sum.inr tt → (X12_readLook_R44  Q   x1) tt) : Ws 6 mi_X12_readLook Q 112 [some (vr 11 0), some (vi x1), some (vi x2), z3, z4] [vi s0] σ := by
  unfold X12_readLook_j112 at hE
  refine Wp.istore_n dc_X12_readLook_112 (by decide) ?_
  refine Wp.goto (tgt := 44) dc_X12_readLook_113 (by decide) ?_
  cases hE
  exact hS _ rfl _
theorem ok_X12_readLook_j87 {Q : Option AV → AH → Prop}  {σ : SS}  {x1 : Int32} {x2 : Int32} {x4 : Int32} {o} {z3 : Option AV}   (hE : X12_readLook_j87  σ  x1 x2 x4 = some o) (hS : ∀ ss, o = Sum.inl ss → (X12_readLook_P44  Q   x1) ss) (hT : ∀ tt, o = Sum.inr tt → (X12_readLook_R44  Q   x1) tt) : Ws 6 mi_X12_readLook Q 87 [some (vr 11 0), some (vi x1), some (vi x2), z3, some (vi x4)] [] σ := by
  unfold X12_readLook_j87 at hE
  refine Wp.aload_n dc_X12_readLook_87 rfl ?_
  refine Wp.iconst dc_X12_readLook_88 ic_1 ?_
  obtain ⟨σ89, h89, hE⟩ := bnd hE
  refine Wp.cV1v (ok_X12_must  h89) dc_X12_readLook_89 mw_X12_254 (mO11 (by decide)) (by decide) (Nat.le_of_ble_eq_true rfl) ?_
  refine Wp.iload_n dc_X12_readLook_92 rfl ?_
  refine Wp.iconst dc_X12_readLook_93 ic_1 ?_
  refine Wp.iload dc_X12_readLook_94 rfl ?_
  refine Wp.ishl dc_X12_readLook_96 ?_
  refine Wp.ior dc_X12_readLook_97 ?_
  obtain ⟨x2_98, e_98, hE⟩ := bnS hE
  rw [e_98]
  refine Wp.istore_n dc_X12_readLook_98 (by decide) ?_
  refine Wp.aload_n dc_X12_readLook_99 rfl ?_
  refine Wp.sgetI dc_X12_readLook_100 fw_X12_132 (mO11 (by decide)) ?_
  refine Wp.iconst dc_X12_readLook_103 ic_1 ?_
  refine Wp.icmp_ne (tgt := 111) dc_X12_readLook_104 (by decide) (fun hc104 => ?_) (fun hc104 => ?_)
  · rw [if_neg hc104] at hE
    refine Wp.iconst dc_X12_readLook_111 ic_0 ?_
    exact ok_X12_readLook_j112   hE hS hT
  · rw [if_pos hc104] at hE
    refine Wp.iconst dc_X12_readLook_107 ic_1 ?_
    refine Wp.goto (tgt := 112) dc_X12_readLook_108 (by decide) ?_
    exact ok_X12_readLook_j112   hE hS hT
theorem ok_X12_readLook_l44c {Q : Option AV → AH → Prop}  {σ : SS}  {x1 : Int32} {x2 : Int32} {x3 : Int32} {o} {z4 : Option AV}   (hE : X12_readLook_l44c  σ  x1 x2 x3 = some o) (hS : ∀ ss, o = Sum.inl ss → (X12_readLook_P44  Q   x1) ss) (hT : ∀ tt, o = Sum.inr tt → (X12_readLook_R44  Q   x1) tt) : Ws 6 mi_X12_readLook Q 44 [some (vr 11 0), some (vi x1), some (vi x2), some (vi x3), z4] [] σ := by
  unfold X12_readLook_l44c at hE
  refine Wp.aload_n dc_X12_readLook_44 rfl ?_
  refine Wp.sgetI dc_X12_readLook_45 fw_X12_216 (mO11 (by decide)) ?_
  refine Wp.if_ne (tgt := 116) dc_X12_readLook_48 (by decide) (fun hc48 => ?_) (fun hc48 => ?_)
  · rw [if_neg hc48] at hE
    cases hE
    exact hT _ rfl _ _
  · rw [if_pos hc48] at hE
    refine Wp.iload_n dc_X12_readLook_51 rfl ?_
    refine Wp.if_eq (tgt := 116) dc_X12_readLook_52 (by decide) (fun hc52 => ?_) (fun hc52 => ?_)
    · rw [if_pos hc52] at hE
      cases hE
      exact hT _ rfl _ _
    · rw [if_neg hc52] at hE
      refine Wp.aload_n dc_X12_readLook_55 rfl ?_
      refine Wp.iconst dc_X12_readLook_56 ic_4 ?_
      obtain ⟨p57, h57, hE⟩ := bnd hE
      refine Wp.cV1i (ok_X12_told  h57) dc_X12_readLook_57 mw_X12_251 (mO11 (by decide)) (by decide) (Nat.le_of_ble_eq_true rfl) ?_
      refine Wp.istore dc_X12_readLook_60 (by decide) ?_
      refine Wp.aload_n dc_X12_readLook_62 rfl ?_
      refine Wp.sgetI dc_X12_readLook_63 fw_X12_216 (mO11 (by decide)) ?_
      refine Wp.if_ne (tgt := 87) dc_X12_readLook_66 (by decide) (fun hc66 => ?_) (fun hc66 => ?_)
      · rw [if_neg hc66] at hE
        exact ok_X12_readLook_j87   hE hS hT
      · rw [if_pos hc66] at hE
        refine Wp.iload_n dc_X12_readLook_69 rfl ?_
        refine Wp.iload dc_X12_readLook_70 rfl ?_
        obtain ⟨v72, h72, hE⟩ := bnd hE
        refine Wp.cS2i (ok_X12_has  h72) dc_X12_readLook_72 mw_X12_116 (by decide) (Nat.le_of_ble_eq_true rfl) ?_
        refine Wp.if_eq (tgt := 87) dc_X12_readLook_75 (by decide) (fun hc75 => ?_) (fun hc75 => ?_)
        · rw [if_pos hc75] at hE
          exact ok_X12_readLook_j87   hE hS hT
        · rw [if_neg hc75] at hE
          refine Wp.aload_n dc_X12_readLook_78 rfl ?_
          refine Wp.iconst dc_X12_readLook_79 ic_5 ?_
          refine Wp.aload_n dc_X12_readLook_80 rfl ?_
          refine Wp.sgetI dc_X12_readLook_81 fw_X12_126 (mO11 (by decide)) ?_
          obtain ⟨σ84, h84, hE⟩ := bnd hE
          refine Wp.cV2v (ok_X12_fail  h84) dc_X12_readLook_84 mw_X12_222 (mO11 (by decide)) (by decide) (Nat.le_of_ble_eq_true rfl) ?_
          exact ok_X12_readLook_j87   hE hS hT
theorem ok_X12_readLook_j116 {Q : Option AV → AH → Prop}  {σ : SS}  {x1 : Int32} {x2 : Int32} {o} {z3 z4 : Option AV}   (hE : X12_readLook_j116  σ  x1 x2 = some o) (hK : Q none (hp o)) : Ws 6 mi_X12_readLook Q 116 [some (vr 11 0), some (vi x1), some (vi x2), z3, z4] [] σ := by
  unfold X12_readLook_j116 at hE
  refine Wp.aload_n dc_X12_readLook_116 rfl ?_
  refine Wp.sgetI dc_X12_readLook_117 fw_X12_216 (mO11 (by decide)) ?_
  refine Wp.if_le (tgt := 124) dc_X12_readLook_120 (by decide) (fun hc120 => ?_) (fun hc120 => ?_)
  · rw [if_pos hc120] at hE
    refine Wp.aload_n dc_X12_readLook_124 rfl ?_
    refine Wp.sgetR (t := 34) dc_X12_readLook_125 fw_X12_35 (mO11 (by decide)) rfl ?_
    refine Wp.sipush dc_X12_readLook_128 sp_1696 ?_
    refine Wp.iload_n dc_X12_readLook_131 rfl ?_
    refine Wp.iadd dc_X12_readLook_132 ?_
    refine Wp.iload_n dc_X12_readLook_133 rfl ?_
    obtain ⟨j134, h134, hE⟩ := bnd hE
    refine Wp.siast dc_X12_readLook_134 (mO13 (by decide)) h134 ?_
    obtain ⟨σ134, es_134, hE⟩ := bnS hE
    rw [es_134]
    refine Wp.aload_n dc_X12_readLook_135 rfl ?_
    refine Wp.sgetR (t := 34) dc_X12_readLook_136 fw_X12_35 (mO11 (by decide)) rfl ?_
    refine Wp.sipush dc_X12_readLook_139 sp_1642 ?_
    refine Wp.dup2 dc_X12_readLook_142 rfl rfl ?_
    obtain ⟨j143, h143, hE⟩ := bnd hE
    refine Wp.siald dc_X12_readLook_143 (mO13 (by decide)) h143 ?_
    refine Wp.iconst dc_X12_readLook_144 ic_1 ?_
    refine Wp.iadd dc_X12_readLook_145 ?_
    obtain ⟨j146, h146, hE⟩ := bnd hE
    refine Wp.siast dc_X12_readLook_146 (mO13 (by decide)) h146 ?_
    obtain ⟨σ146, es_146, hE⟩ := bnS hE
    rw [es_146]
    cases hE
    exact Wp.return dc_X12_readLook_147 rfl (Nat.le_refl _) (Nat.le_refl _) hK
  · rw [if_neg hc120] at hE
    cases hE
    exact Wp.return dc_X12_readLook_123 rfl (Nat.le_refl _) (Nat.le_refl _) hK
theorem ok_X12_readLook_l44 {Q : Option AV → AH → Prop}  {σ : SS}  {x1 : Int32} {x2 : Int32} {x3 : Int32} {o} {z4 : Option AV}   (hE : X12_readLook_l44  σ  x1 x2 x3 = some o) (hK : Q none (hp o)) : Ws 6 mi_X12_readLook Q 44 [some (vr 11 0), some (vi x1), some (vi x2), some (vi x3), z4] [] σ := by
  unfold X12_readLook_l44 at hE
  obtain ⟨t44, h1, hE⟩ := bnd hE
  refine iter_ok (P := (X12_readLook_P44  Q   x1)) (R := (X12_readLook_R44  Q   x1)) (fun ss o h2 hS hT => ?_) NF _ _ h1 ?_ _
  · intro z4
    exact ok_X12_readLook_l44c   h2 hS hT
  · intro z3 z4
    show Ws 6 mi_X12_readLook Q 116 [some (vr 11 0), some (vi x1), some (vi t44.1), z3, z4] [] t44.2
    exact ok_X12_readLook_j116   hE hK
theorem ok_X12_readLook_j24 {Q : Option AV → AH → Prop}  {σ : SS}  {x1 : Int32} {o} {z2 z3 z4 : Option AV}   (hE : X12_readLook_j24  σ  x1 = some o) (hK : Q none (hp o)) : Ws 6 mi_X12_readLook Q 24 [some (vr 11 0), some (vi x1), z2, z3, z4] [] σ := by
  unfold X12_readLook_j24 at hE
  refine Wp.aload_n dc_X12_readLook_24 rfl ?_
  refine Wp.sgetI dc_X12_readLook_25 fw_X12_216 (mO11 (by decide)) ?_
  refine Wp.if_le (tgt := 32) dc_X12_readLook_28 (by decide) (fun hc28 => ?_) (fun hc28 => ?_)
  · rw [if_pos hc28] at hE
    refine Wp.aload_n dc_X12_readLook_32 rfl ?_
    refine Wp.bipush dc_X12_readLook_33 bp_8 ?_
    refine Wp.iload_n dc_X12_readLook_35 rfl ?_
    refine Wp.iadd dc_X12_readLook_36 ?_
    obtain ⟨σ37, h37, hE⟩ := bnd hE
    refine Wp.cV1v (ok_X12_readNew  h37) dc_X12_readLook_37 mw_X12_258 (mO11 (by decide)) (by decide) (Nat.le_of_ble_eq_true rfl) ?_
    refine Wp.iconst dc_X12_readLook_40 ic_0 ?_
    refine Wp.istore_n dc_X12_readLook_41 (by decide) ?_
    refine Wp.iconst dc_X12_readLook_42 ic_1 ?_
    refine Wp.istore_n dc_X12_readLook_43 (by decide) ?_
    exact ok_X12_readLook_l44   hE hK
  · rw [if_neg hc28] at hE
    cases hE
    exact Wp.return dc_X12_readLook_31 rfl (Nat.le_refl _) (Nat.le_refl _) hK
theorem ok_X12_readLook_j0 {Q : Option AV → AH → Prop}  {σ : SS}   {o} {z1 z2 z3 z4 : Option AV}   (hE : X12_readLook_j0  σ   = some o) (hK : Q none (hp o)) : Ws 6 mi_X12_readLook Q 0 [some (vr 11 0), z1, z2, z3, z4] [] σ := by
  unfold X12_readLook_j0 at hE
  refine Wp.aload_n dc_X12_readLook_0 rfl ?_
  refine Wp.sgetR (t := 34) dc_X12_readLook_1 fw_X12_35 (mO11 (by decide)) rfl ?_
  refine Wp.sipush dc_X12_readLook_4 sp_1642 ?_
  obtain ⟨j7, h7, hE⟩ := bnd hE
  refine Wp.siald dc_X12_readLook_7 (mO13 (by decide)) h7 ?_
  obtain ⟨x1_8, e_8, hE⟩ := bnS hE
  rw [e_8]
  refine Wp.istore_n dc_X12_readLook_8 (by decide) ?_
  refine Wp.iload_n dc_X12_readLook_9 rfl ?_
  refine Wp.iconst dc_X12_readLook_10 ic_3 ?_
  refine Wp.icmp_ne (tgt := 24) dc_X12_readLook_11 (by decide) (fun hc11 => ?_) (fun hc11 => ?_)
  · rw [if_neg hc11] at hE
    exact ok_X12_readLook_j24   hE hK
  · rw [if_pos hc11] at hE
    refine Wp.aload_n dc_X12_readLook_14 rfl ?_
    refine Wp.bipush dc_X12_readLook_15 bp_6 ?_
    refine Wp.aload_n dc_X12_readLook_17 rfl ?_
    refine Wp.sgetI dc_X12_readLook_18 fw_X12_126 (mO11 (by decide)) ?_
    obtain ⟨σ21, h21, hE⟩ := bnd hE
    refine Wp.cV2v (ok_X12_fail  h21) dc_X12_readLook_21 mw_X12_222 (mO11 (by decide)) (by decide) (Nat.le_of_ble_eq_true rfl) ?_
    exact ok_X12_readLook_j24   hE hK
theorem ok_X12_readLook  {σ : SS}   {o}   (hE : X12_readLook  σ   = some o) : Runs 6 0 0 mi_X12_readLook [vr 11 0] (hp σ) (fun v h => v = none ∧ h = hp o) := by
  refine Runs.of pn_X12 (Nat.le_of_ble_eq_true rfl) ?_
  exact ok_X12_readLook_j0   hE ⟨rfl, rfl⟩
def X12_copy_P2 (Q : Option AV → AH → Prop)   (x1 : Int32) (x2 : Int32) (ss : Int32 × SS) : Prop := Ws 0 mi_X12_copy Q 2 [some (vr 11 0), some (vi x1), some (vi x2), some (vi ss.1)] [] ss.2
def X12_copy_R2 (Q : Option AV → AH → Prop)   (x1 : Int32) (x2 : Int32) (tt : SS) : Prop := ∀ z3 : Option AV, Ws 0 mi_X12_copy Q 39 [some (vr 11 0), some (vi x1), some (vi x2), z3] [] tt
theorem ok_X12_copy_l2c {Q : Option AV → AH → Prop}  {σ : SS}  {x1 : Int32} {x2 : Int32} {x3 : Int32} {o}    (hE : X12_copy_l2c  σ  x1 x2 x3 = some o) (hS : ∀ ss, o = Sum.inl ss → (X12_copy_P2  Q   x1 x2) ss) (hT : ∀ tt, o = Sum.inr tt → (X12_copy_R2  Q   x1 x2) tt) : Ws 0 mi_X12_copy Q 2 [some (vr 11 0), some (vi x1), some (vi x2), some (vi x3)] [] σ := by
  unfold X12_copy_l2c at hE
  refine Wp.iload_n dc_X12_copy_2 rfl ?_
  refine Wp.sipush dc_X12_copy_3 sp_410 ?_
  refine Wp.icmp_ge (tgt := 39) dc_X12_copy_6 (by decide) (fun hc6 => ?_) (fun hc6 => ?_)
  · rw [if_pos hc6] at hE
    cases hE
    exact hT _ rfl _
  · rw [if_neg hc6] at hE
    refine Wp.aload_n dc_X12_copy_9 rfl ?_
    refine Wp.sgetR (t := 34) dc_X12_copy_10 fw_X12_35 (mO11 (by decide)) rfl ?_
    refine Wp.sipush dc_X12_copy_13 sp_410 ?_
    refine Wp.iload_n dc_X12_copy_16 rfl ?_
    refine Wp.imul dc_X12_copy_17 ?_
    refine Wp.iload_n dc_X12_copy_18 rfl ?_
    refine Wp.iadd dc_X12_copy_19 ?_
    refine Wp.aload_n dc_X12_copy_20 rfl ?_
    refine Wp.sgetR (t := 34) dc_X12_copy_21 fw_X12_35 (mO11 (by decide)) rfl ?_
    refine Wp.sipush dc_X12_copy_24 sp_410 ?_
    refine Wp.iload_n dc_X12_copy_27 rfl ?_
    refine Wp.imul dc_X12_copy_28 ?_
    refine Wp.iload_n dc_X12_copy_29 rfl ?_
    refine Wp.iadd dc_X12_copy_30 ?_
    obtain ⟨j31, h31, hE⟩ := bnd hE
    refine Wp.siald dc_X12_copy_31 (mO13 (by decide)) h31 ?_
    obtain ⟨j32, h32, hE⟩ := bnd hE
    refine Wp.siast dc_X12_copy_32 (mO13 (by decide)) h32 ?_
    obtain ⟨σ32, es_32, hE⟩ := bnS hE
    rw [es_32]
    obtain ⟨x3_33, e_33, hE⟩ := bnS hE
    refine Wp.iinc dc_X12_copy_33 rfl ((ii ic_1).trans e_33) (by decide) ?_
    refine Wp.goto (tgt := 2) dc_X12_copy_36 (by decide) ?_
    cases hE
    exact hS _ rfl
def X12_copy_P41 (Q : Option AV → AH → Prop)   (x1 : Int32) (x2 : Int32) (ss : Int32 × SS) : Prop := Ws 0 mi_X12_copy Q 41 [some (vr 11 0), some (vi x1), some (vi x2), some (vi ss.1)] [] ss.2
def X12_copy_R41 (Q : Option AV → AH → Prop)   (x1 : Int32) (x2 : Int32) (tt : SS) : Prop := ∀ z0 z1 z2 z3 : Option AV, Ws 0 mi_X12_copy Q 75 [z0, z1, z2, z3] [] tt
theorem ok_X12_copy_l41c {Q : Option AV → AH → Prop}  {σ : SS}  {x1 : Int32} {x2 : Int32} {x3 : Int32} {o}    (hE : X12_copy_l41c  σ  x1 x2 x3 = some o) (hS : ∀ ss, o = Sum.inl ss → (X12_copy_P41  Q   x1 x2) ss) (hT : ∀ tt, o = Sum.inr tt → (X12_copy_R41  Q   x1 x2) tt) : Ws 0 mi_X12_copy Q 41 [some (vr 11 0), some (vi x1), some (vi x2), some (vi x3)] [] σ := by
  unfold X12_copy_l41c at hE
  refine Wp.iload_n dc_X12_copy_41 rfl ?_
  refine Wp.bipush dc_X12_copy_42 bp_11 ?_
  refine Wp.icmp_ge (tgt := 75) dc_X12_copy_44 (by decide) (fun hc44 => ?_) (fun hc44 => ?_)
  · rw [if_pos hc44] at hE
    cases hE
    exact hT _ rfl _ _ _ _
  · rw [if_neg hc44] at hE
    refine Wp.aload_n dc_X12_copy_47 rfl ?_
    refine Wp.sgetR (t := 7) dc_X12_copy_48 fw_X12_41 (mO11 (by decide)) rfl ?_
    refine Wp.bipush dc_X12_copy_51 bp_11 ?_
    refine Wp.iload_n dc_X12_copy_53 rfl ?_
    refine Wp.imul dc_X12_copy_54 ?_
    refine Wp.iload_n dc_X12_copy_55 rfl ?_
    refine Wp.iadd dc_X12_copy_56 ?_
    refine Wp.aload_n dc_X12_copy_57 rfl ?_
    refine Wp.sgetR (t := 7) dc_X12_copy_58 fw_X12_41 (mO11 (by decide)) rfl ?_
    refine Wp.bipush dc_X12_copy_61 bp_11 ?_
    refine Wp.iload_n dc_X12_copy_63 rfl ?_
    refine Wp.imul dc_X12_copy_64 ?_
    refine Wp.iload_n dc_X12_copy_65 rfl ?_
    refine Wp.iadd dc_X12_copy_66 ?_
    obtain ⟨j67, h67, hE⟩ := bnd hE
    refine Wp.slald dc_X12_copy_67 (mO14 (by decide)) h67 ?_
    obtain ⟨j68, h68, hE⟩ := bnd hE
    refine Wp.slast dc_X12_copy_68 (mO14 (by decide)) h68 ?_
    obtain ⟨σ68, es_68, hE⟩ := bnS hE
    rw [es_68]
    obtain ⟨x3_69, e_69, hE⟩ := bnS hE
    refine Wp.iinc dc_X12_copy_69 rfl ((ii ic_1).trans e_69) (by decide) ?_
    refine Wp.goto (tgt := 41) dc_X12_copy_72 (by decide) ?_
    cases hE
    exact hS _ rfl
theorem ok_X12_copy_l41 {Q : Option AV → AH → Prop}  {σ : SS}  {x1 : Int32} {x2 : Int32} {x3 : Int32} {o}    (hE : X12_copy_l41  σ  x1 x2 x3 = some o) (hK : Q none (hp o)) : Ws 0 mi_X12_copy Q 41 [some (vr 11 0), some (vi x1), some (vi x2), some (vi x3)] [] σ := by
  unfold X12_copy_l41 at hE
  obtain ⟨t41, h1, hE⟩ := bnd hE
  refine iter_ok (P := (X12_copy_P41  Q   x1 x2)) (R := (X12_copy_R41  Q   x1 x2)) (fun ss o h2 hS hT => ?_) NF _ _ h1 ?_
  · skip
    exact ok_X12_copy_l41c   h2 hS hT
  · intro z0 z1 z2 z3
    show Ws 0 mi_X12_copy Q 75 [z0, z1, z2, z3] [] t41
    cases hE
    exact Wp.return dc_X12_copy_75 rfl (Nat.le_refl _) (Nat.le_refl _) hK
theorem ok_X12_copy_l2 {Q : Option AV → AH → Prop}  {σ : SS}  {x1 : Int32} {x2 : Int32} {x3 : Int32} {o}    (hE : X12_copy_l2  σ  x1 x2 x3 = some o) (hK : Q none (hp o)) : Ws 0 mi_X12_copy Q 2 [some (vr 11 0), some (vi x1), some (vi x2), some (vi x3)] [] σ := by
  unfold X12_copy_l2 at hE
  obtain ⟨t2, h1, hE⟩ := bnd hE
  refine iter_ok (P := (X12_copy_P2  Q   x1 x2)) (R := (X12_copy_R2  Q   x1 x2)) (fun ss o h2 hS hT => ?_) NF _ _ h1 ?_
  · skip
    exact ok_X12_copy_l2c   h2 hS hT
  · intro z3
    show Ws 0 mi_X12_copy Q 39 [some (vr 11 0), some (vi x1), some (vi x2), z3] [] t2
    refine Wp.iconst dc_X12_copy_39 ic_0 ?_
    refine Wp.istore_n dc_X12_copy_40 (by decide) ?_
    exact ok_X12_copy_l41   hE hK
theorem ok_X12_copy_j0 {Q : Option AV → AH → Prop}  {σ : SS}  {x1 : Int32} {x2 : Int32} {o} {z3 : Option AV}   (hE : X12_copy_j0  σ  x1 x2 = some o) (hK : Q none (hp o)) : Ws 0 mi_X12_copy Q 0 [some (vr 11 0), some (vi x1), some (vi x2), z3] [] σ := by
  unfold X12_copy_j0 at hE
  refine Wp.iconst dc_X12_copy_0 ic_0 ?_
  refine Wp.istore_n dc_X12_copy_1 (by decide) ?_
  exact ok_X12_copy_l2   hE hK
theorem ok_X12_copy  {σ : SS}  {x1 : Int32} {x2 : Int32} {o}   (hE : X12_copy  σ  x1 x2 = some o) : Runs 0 0 0 mi_X12_copy [vr 11 0, vi x1, vi x2] (hp σ) (fun v h => v = none ∧ h = hp o) := by
  refine Runs.of pn_X12 (Nat.le_of_ble_eq_true rfl) ?_
  exact ok_X12_copy_j0   hE ⟨rfl, rfl⟩
def X12_drawer_P25 (Q : Option AV → AH → Prop)    (ss : Int32 × SS) : Prop := ∀ z1 : Option AV, Ws 7 mi_X12_drawer Q 25 [some (vr 11 0), z1, some (vi ss.1)] [] ss.2
def X12_drawer_R25 (Q : Option AV → AH → Prop)    (tt : SS) : Prop := ∀ z1 z2 : Option AV, Ws 7 mi_X12_drawer Q 49 [some (vr 11 0), z1, z2] [] tt
theorem ok_X12_drawer_l25c {Q : Option AV → AH → Prop}  {σ : SS}   {x2 : Int32} {o} {z1 : Option AV}   (hE : X12_drawer_l25c  σ   x2 = some o) (hS : ∀ ss, o = Sum.inl ss → (X12_drawer_P25  Q   ) ss) (hT : ∀ tt, o = Sum.inr tt → (X12_drawer_R25  Q   ) tt) : Ws 7 mi_X12_drawer Q 25 [some (vr 11 0), z1, some (vi x2)] [] σ := by
  unfold X12_drawer_l25c at hE
  refine Wp.iload_n dc_X12_drawer_25 rfl ?_
  refine Wp.sipush dc_X12_drawer_26 sp_410 ?_
  refine Wp.icmp_ge (tgt := 49) dc_X12_drawer_29 (by decide) (fun hc29 => ?_) (fun hc29 => ?_)
  · rw [if_pos hc29] at hE
    cases hE
    exact hT _ rfl _ _
  · rw [if_neg hc29] at hE
    refine Wp.aload_n dc_X12_drawer_32 rfl ?_
    refine Wp.sgetR (t := 34) dc_X12_drawer_33 fw_X12_35 (mO11 (by decide)) rfl ?_
    refine Wp.sipush dc_X12_drawer_36 sp_1640 ?_
    refine Wp.iload_n dc_X12_drawer_39 rfl ?_
    refine Wp.iadd dc_X12_drawer_40 ?_
    refine Wp.iconst dc_X12_drawer_41 ic_0 ?_
    obtain ⟨j42, h42, hE⟩ := bnd hE
    refine Wp.siast dc_X12_drawer_42 (mO13 (by decide)) h42 ?_
    obtain ⟨σ42, es_42, hE⟩ := bnS hE
    rw [es_42]
    obtain ⟨x2_43, e_43, hE⟩ := bnS hE
    refine Wp.iinc dc_X12_drawer_43 rfl ((ii ic_1).trans e_43) (by decide) ?_
    refine Wp.goto (tgt := 25) dc_X12_drawer_46 (by decide) ?_
    cases hE
    exact hS _ rfl _
def X12_drawer_P49 (Q : Option AV → AH → Prop)    (ss : SS) : Prop := ∀ z1 z2 : Option AV, Ws 7 mi_X12_drawer Q 49 [some (vr 11 0), z1, z2] [] ss
def X12_drawer_R49 (Q : Option AV → AH → Prop)    (tt : SS) : Prop := ∀ z1 z2 : Option AV, Ws 7 mi_X12_drawer Q 122 [some (vr 11 0), z1, z2] [] tt
theorem ok_X12_drawer_j109 {Q : Option AV → AH → Prop}  {σ : SS}   {o} {z1 z2 : Option AV}   (hE : X12_drawer_j109  σ   = some o) (hS : ∀ ss, o = Sum.inl ss → (X12_drawer_P49  Q   ) ss) (hT : ∀ tt, o = Sum.inr tt → (X12_drawer_R49  Q   ) tt) : Ws 7 mi_X12_drawer Q 109 [some (vr 11 0), z1, z2] [] σ := by
  unfold X12_drawer_j109 at hE
  refine Wp.aload_n dc_X12_drawer_109 rfl ?_
  refine Wp.aload_n dc_X12_drawer_110 rfl ?_
  refine Wp.bipush dc_X12_drawer_111 bp_59 ?_
  obtain ⟨v113, h113, hE⟩ := bnd hE
  refine Wp.cV1i (ok_X12_isSign  h113) dc_X12_drawer_113 mw_X12_276 (mO11 (by decide)) (by decide) (Nat.le_of_ble_eq_true rfl) ?_
  obtain ⟨σ116, h116, hE⟩ := bnd hE
  refine Wp.cV1v (ok_X12_must  h116) dc_X12_drawer_116 mw_X12_254 (mO11 (by decide)) (by decide) (Nat.le_of_ble_eq_true rfl) ?_
  refine Wp.goto (tgt := 49) dc_X12_drawer_119 (by decide) ?_
  cases hE
  exact hS _ rfl _ _
theorem ok_X12_drawer_l49c {Q : Option AV → AH → Prop}  {σ : SS}    {o} {z1 z2 : Option AV}   (hE : X12_drawer_l49c  σ    = some o) (hS : ∀ ss, o = Sum.inl ss → (X12_drawer_P49  Q   ) ss) (hT : ∀ tt, o = Sum.inr tt → (X12_drawer_R49  Q   ) tt) : Ws 7 mi_X12_drawer Q 49 [some (vr 11 0), z1, z2] [] σ := by
  unfold X12_drawer_l49c at hE
  refine Wp.aload_n dc_X12_drawer_49 rfl ?_
  refine Wp.sgetI dc_X12_drawer_50 fw_X12_216 (mO11 (by decide)) ?_
  refine Wp.if_ne (tgt := 122) dc_X12_drawer_53 (by decide) (fun hc53 => ?_) (fun hc53 => ?_)
  · rw [if_neg hc53] at hE
    cases hE
    exact hT _ rfl _ _
  · rw [if_pos hc53] at hE
    refine Wp.aload_n dc_X12_drawer_56 rfl ?_
    refine Wp.sgetI dc_X12_drawer_57 fw_X12_132 (mO11 (by decide)) ?_
    refine Wp.if_eq (tgt := 122) dc_X12_drawer_60 (by decide) (fun hc60 => ?_) (fun hc60 => ?_)
    · rw [if_pos hc60] at hE
      cases hE
      exact hT _ rfl _ _
    · rw [if_neg hc60] at hE
      refine Wp.aload_n dc_X12_drawer_63 rfl ?_
      obtain ⟨v64, h64, hE⟩ := bnd hE
      refine Wp.cV0i (ok_X12_isLead  h64) dc_X12_drawer_64 mw_X12_176 (mO11 (by decide)) (by decide) (Nat.le_of_ble_eq_true rfl) ?_
      refine Wp.if_eq (tgt := 77) dc_X12_drawer_67 (by decide) (fun hc67 => ?_) (fun hc67 => ?_)
      · rw [if_pos hc67] at hE
        refine Wp.aload_n dc_X12_drawer_77 rfl ?_
        obtain ⟨v78, h78, hE⟩ := bnd hE
        refine Wp.cV0i (ok_X12_isCross  h78) dc_X12_drawer_78 mw_X12_173 (mO11 (by decide)) (by decide) (Nat.le_of_ble_eq_true rfl) ?_
        refine Wp.if_eq (tgt := 91) dc_X12_drawer_81 (by decide) (fun hc81 => ?_) (fun hc81 => ?_)
        · rw [if_pos hc81] at hE
          refine Wp.aload_n dc_X12_drawer_91 rfl ?_
          obtain ⟨v92, h92, hE⟩ := bnd hE
          refine Wp.cV0i (ok_X12_isLook  h92) dc_X12_drawer_92 mw_X12_194 (mO11 (by decide)) (by decide) (Nat.le_of_ble_eq_true rfl) ?_
          refine Wp.if_eq (tgt := 105) dc_X12_drawer_95 (by decide) (fun hc95 => ?_) (fun hc95 => ?_)
          · rw [if_pos hc95] at hE
            refine Wp.aload_n dc_X12_drawer_105 rfl ?_
            obtain ⟨σ106, h106, hE⟩ := bnd hE
            refine Wp.cV0v (ok_X12_wrong  h106) dc_X12_drawer_106 mw_X12_229 (mO11 (by decide)) (by decide) (Nat.le_of_ble_eq_true rfl) ?_
            exact ok_X12_drawer_j109   hE hS hT
          · rw [if_neg hc95] at hE
            refine Wp.aload_n dc_X12_drawer_98 rfl ?_
            obtain ⟨σ99, h99, hE⟩ := bnd hE
            refine Wp.cV0v (ok_X12_readLook  h99) dc_X12_drawer_99 mw_X12_273 (mO11 (by decide)) (by decide) (Nat.le_of_ble_eq_true rfl) ?_
            refine Wp.goto (tgt := 109) dc_X12_drawer_102 (by decide) ?_
            exact ok_X12_drawer_j109   hE hS hT
        · rw [if_neg hc81] at hE
          refine Wp.aload_n dc_X12_drawer_84 rfl ?_
          obtain ⟨σ85, h85, hE⟩ := bnd hE
          refine Wp.cV0v (ok_X12_readCross  h85) dc_X12_drawer_85 mw_X12_270 (mO11 (by decide)) (by decide) (Nat.le_of_ble_eq_true rfl) ?_
          refine Wp.goto (tgt := 109) dc_X12_drawer_88 (by decide) ?_
          exact ok_X12_drawer_j109   hE hS hT
      · rw [if_neg hc67] at hE
        refine Wp.aload_n dc_X12_drawer_70 rfl ?_
        obtain ⟨σ71, h71, hE⟩ := bnd hE
        refine Wp.cV0v (ok_X12_readLead  h71) dc_X12_drawer_71 mw_X12_267 (mO11 (by decide)) (by decide) (Nat.le_of_ble_eq_true rfl) ?_
        refine Wp.goto (tgt := 109) dc_X12_drawer_74 (by decide) ?_
        exact ok_X12_drawer_j109   hE hS hT
theorem ok_X12_drawer_j122 {Q : Option AV → AH → Prop}  {σ : SS}   {o} {z1 z2 : Option AV}   (hE : X12_drawer_j122  σ   = some o) (hK : Q (some (vi o.1)) (hp o.2)) : Ws 7 mi_X12_drawer Q 122 [some (vr 11 0), z1, z2] [] σ := by
  unfold X12_drawer_j122 at hE
  refine Wp.aload_n dc_X12_drawer_122 rfl ?_
  obtain ⟨p123, h123, hE⟩ := bnd hE
  refine Wp.cV0i (ok_X12_isWell  h123) dc_X12_drawer_123 mw_X12_279 (mO11 (by decide)) (by decide) (Nat.le_of_ble_eq_true rfl) ?_
  refine Wp.if_ne (tgt := 131) dc_X12_drawer_126 (by decide) (fun hc126 => ?_) (fun hc126 => ?_)
  · rw [if_neg hc126] at hE
    refine Wp.aload_n dc_X12_drawer_131 rfl ?_
    refine Wp.iconst dc_X12_drawer_132 ic_4 ?_
    refine Wp.iconst dc_X12_drawer_133 ic_0 ?_
    obtain ⟨σ134, h134, hE⟩ := bnd hE
    refine Wp.cV2v (ok_X12_copy  h134) dc_X12_drawer_134 mw_X12_282 (mO11 (by decide)) (by decide) (Nat.le_of_ble_eq_true rfl) ?_
    refine Wp.aload_n dc_X12_drawer_137 rfl ?_
    refine Wp.sgetR (t := 34) dc_X12_drawer_138 fw_X12_35 (mO11 (by decide)) rfl ?_
    refine Wp.iconst dc_X12_drawer_141 ic_0 ?_
    obtain ⟨j142, h142, hE⟩ := bnd hE
    refine Wp.siald dc_X12_drawer_142 (mO13 (by decide)) h142 ?_
    cases hE
    exact Wp.ireturn dc_X12_drawer_143 rfl rfl (Nat.le_refl _) (Nat.le_refl _) hK
  · rw [if_pos hc126] at hE
    refine Wp.iconst dc_X12_drawer_129 ic_m1 ?_
    cases hE
    exact Wp.ireturn dc_X12_drawer_130 rfl rfl (Nat.le_refl _) (Nat.le_refl _) hK
theorem ok_X12_drawer_l49 {Q : Option AV → AH → Prop}  {σ : SS}   {o} {z1 z2 : Option AV}   (hE : X12_drawer_l49  σ   = some o) (hK : Q (some (vi o.1)) (hp o.2)) : Ws 7 mi_X12_drawer Q 49 [some (vr 11 0), z1, z2] [] σ := by
  unfold X12_drawer_l49 at hE
  obtain ⟨t49, h1, hE⟩ := bnd hE
  refine iter_ok (P := (X12_drawer_P49  Q   )) (R := (X12_drawer_R49  Q   )) (fun ss o h2 hS hT => ?_) NF _ _ h1 ?_ _ _
  · intro z1 z2
    exact ok_X12_drawer_l49c   h2 hS hT
  · intro z1 z2
    show Ws 7 mi_X12_drawer Q 122 [some (vr 11 0), z1, z2] [] t49
    exact ok_X12_drawer_j122   hE hK
theorem ok_X12_drawer_l25 {Q : Option AV → AH → Prop}  {σ : SS}  {x2 : Int32} {o} {z1 : Option AV}   (hE : X12_drawer_l25  σ  x2 = some o) (hK : Q (some (vi o.1)) (hp o.2)) : Ws 7 mi_X12_drawer Q 25 [some (vr 11 0), z1, some (vi x2)] [] σ := by
  unfold X12_drawer_l25 at hE
  obtain ⟨t25, h1, hE⟩ := bnd hE
  refine iter_ok (P := (X12_drawer_P25  Q   )) (R := (X12_drawer_R25  Q   )) (fun ss o h2 hS hT => ?_) NF _ _ h1 ?_ _
  · intro z1
    exact ok_X12_drawer_l25c   h2 hS hT
  · intro z1 z2
    show Ws 7 mi_X12_drawer Q 49 [some (vr 11 0), z1, z2] [] t25
    exact ok_X12_drawer_l49   hE hK
theorem ok_X12_drawer_j0 {Q : Option AV → AH → Prop}  {σ : SS}  {x1 : Int32} {o} {z2 : Option AV}   (hE : X12_drawer_j0  σ  x1 = some o) (hK : Q (some (vi o.1)) (hp o.2)) : Ws 7 mi_X12_drawer Q 0 [some (vr 11 0), some (vi x1), z2] [] σ := by
  unfold X12_drawer_j0 at hE
  refine Wp.aload_n dc_X12_drawer_0 rfl ?_
  refine Wp.iconst dc_X12_drawer_1 ic_0 ?_
  refine Wp.sputI dc_X12_drawer_2 fw_X12_77 (mO11 (by decide)) (Nr.i _) ?_
  obtain ⟨σ2, es_2, hE⟩ := bnS hE
  rw [es_2]
  refine Wp.aload_n dc_X12_drawer_5 rfl ?_
  refine Wp.iconst dc_X12_drawer_6 ic_0 ?_
  refine Wp.sputI dc_X12_drawer_7 fw_X12_80 (mO11 (by decide)) (Nr.i _) ?_
  obtain ⟨σ7, es_7, hE⟩ := bnS hE
  rw [es_7]
  refine Wp.aload_n dc_X12_drawer_10 rfl ?_
  refine Wp.iload_n dc_X12_drawer_11 rfl ?_
  refine Wp.sipush dc_X12_drawer_12 sp_900 ?_
  obtain ⟨p15, h15, hE⟩ := bnd hE
  refine Wp.cV2i (ok_X12_starts  h15) dc_X12_drawer_15 mw_X12_264 (mO11 (by decide)) (by decide) (Nat.le_of_ble_eq_true rfl) ?_
  refine Wp.if_ne (tgt := 23) dc_X12_drawer_18 (by decide) (fun hc18 => ?_) (fun hc18 => ?_)
  · rw [if_neg hc18] at hE
    refine Wp.iconst dc_X12_drawer_23 ic_0 ?_
    refine Wp.istore_n dc_X12_drawer_24 (by decide) ?_
    exact ok_X12_drawer_l25   hE hK
  · rw [if_pos hc18] at hE
    refine Wp.iconst dc_X12_drawer_21 ic_m1 ?_
    cases hE
    exact Wp.ireturn dc_X12_drawer_22 rfl rfl (Nat.le_refl _) (Nat.le_refl _) hK
theorem ok_X12_drawer  {σ : SS}  {x1 : Int32} {o}   (hE : X12_drawer  σ  x1 = some o) : Runs 7 0 0 mi_X12_drawer [vr 11 0, vi x1] (hp σ) (fun v h => v = some (vi o.1) ∧ h = hp o.2) := by
  refine Runs.of pn_X12 (Nat.le_of_ble_eq_true rfl) ?_
  exact ok_X12_drawer_j0   hE ⟨rfl, rfl⟩
theorem ok_X12_readTest_j140 {Q : Option AV → AH → Prop}  {σ : SS}  {s1 : Int32} {s3 : Int32} {s4 : Int32} {o} {z0 z1 z2 : Option AV}   (hE : X12_readTest_j140  σ  s1 s3 s4 = some o) (hK : Q none (hp o)) : Ws 7 mi_X12_readTest Q 140 [z0, z1, z2] [vi s4, vi s3, vr 11 0, vi s1, vr 13 34] σ := by
  unfold X12_readTest_j140 at hE
  obtain ⟨p140, h140, hE⟩ := bnd hE
  refine Wp.cV2i (ok_X12_count  h140) dc_X12_readTest_140 mw_X12_261 (mO11 (by decide)) (by decide) (Nat.le_of_ble_eq_true rfl) ?_
  obtain ⟨j143, h143, hE⟩ := bnd hE
  refine Wp.siast dc_X12_readTest_143 (mO13 (by decide)) h143 ?_
  obtain ⟨σ143, es_143, hE⟩ := bnS hE
  rw [es_143]
  cases hE
  exact Wp.return dc_X12_readTest_144 rfl (Nat.le_refl _) (Nat.le_refl _) hK
theorem ok_X12_readTest_j117 {Q : Option AV → AH → Prop}  {σ : SS}  {x1 : Int32} {x2 : Int32} {s1 : Int32} {o}    (hE : X12_readTest_j117  σ  x1 x2 s1 = some o) (hK : Q none (hp o)) : Ws 7 mi_X12_readTest Q 117 [some (vr 11 0), some (vi x1), some (vi x2)] [vi s1, vr 11 0] σ := by
  unfold X12_readTest_j117 at hE
  obtain ⟨σ117, h117, hE⟩ := bnd hE
  refine Wp.cV1v (ok_X12_must  h117) dc_X12_readTest_117 mw_X12_254 (mO11 (by decide)) (by decide) (Nat.le_of_ble_eq_true rfl) ?_
  refine Wp.aload_n dc_X12_readTest_120 rfl ?_
  refine Wp.sgetR (t := 34) dc_X12_readTest_121 fw_X12_35 (mO11 (by decide)) rfl ?_
  refine Wp.iload_n dc_X12_readTest_124 rfl ?_
  refine Wp.iconst dc_X12_readTest_125 ic_2 ?_
  refine Wp.iadd dc_X12_readTest_126 ?_
  refine Wp.aload_n dc_X12_readTest_127 rfl ?_
  refine Wp.iconst dc_X12_readTest_128 ic_0 ?_
  refine Wp.iload_n dc_X12_readTest_129 rfl ?_
  refine Wp.if_ne (tgt := 138) dc_X12_readTest_130 (by decide) (fun hc130 => ?_) (fun hc130 => ?_)
  · rw [if_neg hc130] at hE
    refine Wp.bipush dc_X12_readTest_138 bp_24 ?_
    exact ok_X12_readTest_j140   hE hK
  · rw [if_pos hc130] at hE
    refine Wp.bipush dc_X12_readTest_133 bp_8 ?_
    refine Wp.goto (tgt := 140) dc_X12_readTest_135 (by decide) ?_
    exact ok_X12_readTest_j140   hE hK
theorem ok_X12_readTest_j112 {Q : Option AV → AH → Prop}  {σ : SS}  {x1 : Int32} {x2 : Int32} {o}    (hE : X12_readTest_j112  σ  x1 x2 = some o) (hK : Q none (hp o)) : Ws 7 mi_X12_readTest Q 112 [some (vr 11 0), some (vi x1), some (vi x2)] [vr 11 0] σ := by
  unfold X12_readTest_j112 at hE
  refine Wp.iconst dc_X12_readTest_112 ic_1 ?_
  refine Wp.goto (tgt := 117) dc_X12_readTest_113 (by decide) ?_
  exact ok_X12_readTest_j117   hE hK
theorem ok_X12_readTest_j83 {Q : Option AV → AH → Prop}  {σ : SS}  {x1 : Int32} {x2 : Int32} {s1 : Int32} {s2 : Int32} {o}    (hE : X12_readTest_j83  σ  x1 x2 s1 s2 = some o) (hK : Q none (hp o)) : Ws 7 mi_X12_readTest Q 83 [some (vr 11 0), some (vi x1), some (vi x2)] [vi s2, vi s1, vr 13 34] σ := by
  unfold X12_readTest_j83 at hE
  obtain ⟨j83, h83, hE⟩ := bnd hE
  refine Wp.siast dc_X12_readTest_83 (mO13 (by decide)) h83 ?_
  obtain ⟨σ83, es_83, hE⟩ := bnS hE
  rw [es_83]
  refine Wp.aload_n dc_X12_readTest_84 rfl ?_
  refine Wp.aload_n dc_X12_readTest_85 rfl ?_
  refine Wp.bipush dc_X12_readTest_86 bp_60 ?_
  obtain ⟨v88, h88, hE⟩ := bnd hE
  refine Wp.cV1i (ok_X12_isSign  h88) dc_X12_readTest_88 mw_X12_276 (mO11 (by decide)) (by decide) (Nat.le_of_ble_eq_true rfl) ?_
  refine Wp.if_ne (tgt := 112) dc_X12_readTest_91 (by decide) (fun hc91 => ?_) (fun hc91 => ?_)
  · rw [if_neg hc91] at hE
    exact ok_X12_readTest_j112   hE hK
  · rw [if_pos hc91] at hE
    refine Wp.aload_n dc_X12_readTest_94 rfl ?_
    refine Wp.bipush dc_X12_readTest_95 bp_62 ?_
    obtain ⟨v97, h97, hE⟩ := bnd hE
    refine Wp.cV1i (ok_X12_isSign  h97) dc_X12_readTest_97 mw_X12_276 (mO11 (by decide)) (by decide) (Nat.le_of_ble_eq_true rfl) ?_
    refine Wp.if_ne (tgt := 112) dc_X12_readTest_100 (by decide) (fun hc100 => ?_) (fun hc100 => ?_)
    · rw [if_neg hc100] at hE
      exact ok_X12_readTest_j112   hE hK
    · rw [if_pos hc100] at hE
      refine Wp.aload_n dc_X12_readTest_103 rfl ?_
      refine Wp.bipush dc_X12_readTest_104 bp_61 ?_
      obtain ⟨v106, h106, hE⟩ := bnd hE
      refine Wp.cV1i (ok_X12_isSign  h106) dc_X12_readTest_106 mw_X12_276 (mO11 (by decide)) (by decide) (Nat.le_of_ble_eq_true rfl) ?_
      refine Wp.if_eq (tgt := 116) dc_X12_readTest_109 (by decide) (fun hc109 => ?_) (fun hc109 => ?_)
      · rw [if_pos hc109] at hE
        refine Wp.iconst dc_X12_readTest_116 ic_0 ?_
        exact ok_X12_readTest_j117   hE hK
      · rw [if_neg hc109] at hE
        exact ok_X12_readTest_j112   hE hK
theorem ok_X12_readTest_j46 {Q : Option AV → AH → Prop}  {σ : SS}  {x1 : Int32} {x2 : Int32} {o}    (hE : X12_readTest_j46  σ  x1 x2 = some o) (hK : Q none (hp o)) : Ws 7 mi_X12_readTest Q 46 [some (vr 11 0), some (vi x1), some (vi x2)] [] σ := by
  unfold X12_readTest_j46 at hE
  refine Wp.aload_n dc_X12_readTest_46 rfl ?_
  refine Wp.sgetI dc_X12_readTest_47 fw_X12_216 (mO11 (by decide)) ?_
  refine Wp.if_gt (tgt := 58) dc_X12_readTest_50 (by decide) (fun hc50 => ?_) (fun hc50 => ?_)
  · rw [if_pos hc50] at hE
    cases hE
    exact Wp.return dc_X12_readTest_58 rfl (Nat.le_refl _) (Nat.le_refl _) hK
  · rw [if_neg hc50] at hE
    refine Wp.iload_n dc_X12_readTest_53 rfl ?_
    refine Wp.iconst dc_X12_readTest_54 ic_2 ?_
    refine Wp.icmp_ne (tgt := 59) dc_X12_readTest_55 (by decide) (fun hc55 => ?_) (fun hc55 => ?_)
    · rw [if_neg hc55] at hE
      refine Wp.aload_n dc_X12_readTest_59 rfl ?_
      refine Wp.sgetR (t := 34) dc_X12_readTest_60 fw_X12_35 (mO11 (by decide)) rfl ?_
      refine Wp.iload_n dc_X12_readTest_63 rfl ?_
      refine Wp.bipush dc_X12_readTest_64 bp_7 ?_
      refine Wp.iadd dc_X12_readTest_66 ?_
      refine Wp.aload_n dc_X12_readTest_67 rfl ?_
      refine Wp.sgetI dc_X12_readTest_68 fw_X12_132 (mO11 (by decide)) ?_
      refine Wp.iconst dc_X12_readTest_71 ic_3 ?_
      refine Wp.icmp_ne (tgt := 82) dc_X12_readTest_72 (by decide) (fun hc72 => ?_) (fun hc72 => ?_)
      · rw [if_neg hc72] at hE
        refine Wp.iconst dc_X12_readTest_82 ic_0 ?_
        exact ok_X12_readTest_j83   hE hK
      · rw [if_pos hc72] at hE
        refine Wp.aload_n dc_X12_readTest_75 rfl ?_
        refine Wp.sgetI dc_X12_readTest_76 fw_X12_151 (mO11 (by decide)) ?_
        refine Wp.goto (tgt := 83) dc_X12_readTest_79 (by decide) ?_
        exact ok_X12_readTest_j83   hE hK
    · rw [if_pos hc55] at hE
      cases hE
      exact Wp.return dc_X12_readTest_58 rfl (Nat.le_refl _) (Nat.le_refl _) hK
theorem ok_X12_readTest_j15 {Q : Option AV → AH → Prop}  {σ : SS}  {x1 : Int32} {x2 : Int32} {s1 : Int32} {o}    (hE : X12_readTest_j15  σ  x1 x2 s1 = some o) (hK : Q none (hp o)) : Ws 7 mi_X12_readTest Q 15 [some (vr 11 0), some (vi x1), some (vi x2)] [vi s1, vr 11 0] σ := by
  unfold X12_readTest_j15 at hE
  obtain ⟨σ15, h15, hE⟩ := bnd hE
  refine Wp.cV1v (ok_X12_must  h15) dc_X12_readTest_15 mw_X12_254 (mO11 (by decide)) (by decide) (Nat.le_of_ble_eq_true rfl) ?_
  refine Wp.aload_n dc_X12_readTest_18 rfl ?_
  refine Wp.sgetR (t := 34) dc_X12_readTest_19 fw_X12_35 (mO11 (by decide)) rfl ?_
  refine Wp.iload_n dc_X12_readTest_22 rfl ?_
  refine Wp.bipush dc_X12_readTest_23 bp_6 ?_
  refine Wp.iadd dc_X12_readTest_25 ?_
  refine Wp.iload_n dc_X12_readTest_26 rfl ?_
  obtain ⟨j27, h27, hE⟩ := bnd hE
  refine Wp.siast dc_X12_readTest_27 (mO13 (by decide)) h27 ?_
  obtain ⟨σ27, es_27, hE⟩ := bnS hE
  rw [es_27]
  refine Wp.iload_n dc_X12_readTest_28 rfl ?_
  refine Wp.iconst dc_X12_readTest_29 ic_2 ?_
  refine Wp.icmp_ne (tgt := 46) dc_X12_readTest_30 (by decide) (fun hc30 => ?_) (fun hc30 => ?_)
  · rw [if_neg hc30] at hE
    exact ok_X12_readTest_j46   hE hK
  · rw [if_pos hc30] at hE
    refine Wp.aload_n dc_X12_readTest_33 rfl ?_
    refine Wp.sgetR (t := 34) dc_X12_readTest_34 fw_X12_35 (mO11 (by decide)) rfl ?_
    refine Wp.iload_n dc_X12_readTest_37 rfl ?_
    refine Wp.iconst dc_X12_readTest_38 ic_1 ?_
    refine Wp.iadd dc_X12_readTest_39 ?_
    refine Wp.aload_n dc_X12_readTest_40 rfl ?_
    refine Wp.iconst dc_X12_readTest_41 ic_0 ?_
    obtain ⟨p42, h42, hE⟩ := bnd hE
    refine Wp.cV1i (ok_X12_readTold  h42) dc_X12_readTest_42 mw_X12_285 (mO11 (by decide)) (by decide) (Nat.le_of_ble_eq_true rfl) ?_
    obtain ⟨j45, h45, hE⟩ := bnd hE
    refine Wp.siast dc_X12_readTest_45 (mO13 (by decide)) h45 ?_
    obtain ⟨σ45, es_45, hE⟩ := bnS hE
    rw [es_45]
    exact ok_X12_readTest_j46   hE hK
theorem ok_X12_readTest_j0 {Q : Option AV → AH → Prop}  {σ : SS}  {x1 : Int32} {o} {z2 : Option AV}   (hE : X12_readTest_j0  σ  x1 = some o) (hK : Q none (hp o)) : Ws 7 mi_X12_readTest Q 0 [some (vr 11 0), some (vi x1), z2] [] σ := by
  unfold X12_readTest_j0 at hE
  refine Wp.aload_n dc_X12_readTest_0 rfl ?_
  obtain ⟨v1, h1, hE⟩ := bnd hE
  refine Wp.cV0i (ok_X12_testWord  h1) dc_X12_readTest_1 mw_X12_207 (mO11 (by decide)) (by decide) (Nat.le_of_ble_eq_true rfl) ?_
  refine Wp.istore_n dc_X12_readTest_4 (by decide) ?_
  refine Wp.aload_n dc_X12_readTest_5 rfl ?_
  refine Wp.iload_n dc_X12_readTest_6 rfl ?_
  refine Wp.if_lt (tgt := 14) dc_X12_readTest_7 (by decide) (fun hc7 => ?_) (fun hc7 => ?_)
  · rw [if_pos hc7] at hE
    refine Wp.iconst dc_X12_readTest_14 ic_0 ?_
    exact ok_X12_readTest_j15   hE hK
  · rw [if_neg hc7] at hE
    refine Wp.iconst dc_X12_readTest_10 ic_1 ?_
    refine Wp.goto (tgt := 15) dc_X12_readTest_11 (by decide) ?_
    exact ok_X12_readTest_j15   hE hK
theorem ok_X12_readTest  {σ : SS}  {x1 : Int32} {o}   (hE : X12_readTest  σ  x1 = some o) : Runs 7 0 0 mi_X12_readTest [vr 11 0, vi x1] (hp σ) (fun v h => v = none ∧ h = hp o) := by
  refine Runs.of pn_X12 (Nat.le_of_ble_eq_true rfl) ?_
  exact ok_X12_readTest_j0   hE ⟨rfl, rfl⟩
theorem ok_X12_readRest_j31 {Q : Option AV → AH → Prop}  {σ : SS}  {x1 : Int32} {o} {z2 : Option AV}   (hE : X12_readRest_j31  σ  x1 = some o) (hK : Q none (hp o)) : Ws 8 mi_X12_readRest Q 31 [some (vr 11 0), some (vi x1), z2] [] σ := by
  unfold X12_readRest_j31 at hE
  refine Wp.aload_n dc_X12_readRest_31 rfl ?_
  refine Wp.sgetR (t := 34) dc_X12_readRest_32 fw_X12_35 (mO11 (by decide)) rfl ?_
  refine Wp.iload_n dc_X12_readRest_35 rfl ?_
  refine Wp.iconst dc_X12_readRest_36 ic_1 ?_
  refine Wp.iadd dc_X12_readRest_37 ?_
  refine Wp.aload_n dc_X12_readRest_38 rfl ?_
  refine Wp.iconst dc_X12_readRest_39 ic_1 ?_
  refine Wp.bipush dc_X12_readRest_40 bp_99 ?_
  obtain ⟨p42, h42, hE⟩ := bnd hE
  refine Wp.cV2i (ok_X12_count  h42) dc_X12_readRest_42 mw_X12_261 (mO11 (by decide)) (by decide) (Nat.le_of_ble_eq_true rfl) ?_
  obtain ⟨j45, h45, hE⟩ := bnd hE
  refine Wp.siast dc_X12_readRest_45 (mO13 (by decide)) h45 ?_
  obtain ⟨σ45, es_45, hE⟩ := bnS hE
  rw [es_45]
  refine Wp.goto (tgt := 73) dc_X12_readRest_46 (by decide) ?_
  cases hE
  exact Wp.return dc_X12_readRest_73 rfl (Nat.le_refl _) (Nat.le_refl _) hK
theorem ok_X12_readRest_j0 {Q : Option AV → AH → Prop}  {σ : SS}  {x1 : Int32} {o} {z2 : Option AV}   (hE : X12_readRest_j0  σ  x1 = some o) (hK : Q none (hp o)) : Ws 8 mi_X12_readRest Q 0 [some (vr 11 0), some (vi x1), z2] [] σ := by
  unfold X12_readRest_j0 at hE
  refine Wp.aload_n dc_X12_readRest_0 rfl ?_
  refine Wp.sgetR (t := 34) dc_X12_readRest_1 fw_X12_35 (mO11 (by decide)) rfl ?_
  refine Wp.iload_n dc_X12_readRest_4 rfl ?_
  obtain ⟨j5, h5, hE⟩ := bnd hE
  refine Wp.siald dc_X12_readRest_5 (mO13 (by decide)) h5 ?_
  obtain ⟨x2_6, e_6, hE⟩ := bnS hE
  rw [e_6]
  refine Wp.istore_n dc_X12_readRest_6 (by decide) ?_
  refine Wp.iload_n dc_X12_readRest_7 rfl ?_
  refine Wp.bipush dc_X12_readRest_8 bp_6 ?_
  refine Wp.icmp_ne (tgt := 21) dc_X12_readRest_10 (by decide) (fun hc10 => ?_) (fun hc10 => ?_)
  · rw [if_neg hc10] at hE
    refine Wp.iload_n dc_X12_readRest_21 rfl ?_
    refine Wp.if_eq (tgt := 31) dc_X12_readRest_22 (by decide) (fun hc22 => ?_) (fun hc22 => ?_)
    · rw [if_pos hc22] at hE
      exact ok_X12_readRest_j31   hE hK
    · rw [if_neg hc22] at hE
      refine Wp.iload_n dc_X12_readRest_25 rfl ?_
      refine Wp.bipush dc_X12_readRest_26 bp_7 ?_
      refine Wp.icmp_ne (tgt := 49) dc_X12_readRest_28 (by decide) (fun hc28 => ?_) (fun hc28 => ?_)
      · rw [if_neg hc28] at hE
        refine Wp.iload_n dc_X12_readRest_49 rfl ?_
        refine Wp.iconst dc_X12_readRest_50 ic_2 ?_
        refine Wp.icmp_eq (tgt := 73) dc_X12_readRest_51 (by decide) (fun hc51 => ?_) (fun hc51 => ?_)
        · rw [if_pos hc51] at hE
          cases hE
          exact Wp.return dc_X12_readRest_73 rfl (Nat.le_refl _) (Nat.le_refl _) hK
        · rw [if_neg hc51] at hE
          refine Wp.iload_n dc_X12_readRest_54 rfl ?_
          refine Wp.bipush dc_X12_readRest_55 bp_6 ?_
          refine Wp.icmp_ge (tgt := 73) dc_X12_readRest_57 (by decide) (fun hc57 => ?_) (fun hc57 => ?_)
          · rw [if_pos hc57] at hE
            cases hE
            exact Wp.return dc_X12_readRest_73 rfl (Nat.le_refl _) (Nat.le_refl _) hK
          · rw [if_neg hc57] at hE
            refine Wp.aload_n dc_X12_readRest_60 rfl ?_
            refine Wp.sgetR (t := 34) dc_X12_readRest_61 fw_X12_35 (mO11 (by decide)) rfl ?_
            refine Wp.iload_n dc_X12_readRest_64 rfl ?_
            refine Wp.iconst dc_X12_readRest_65 ic_1 ?_
            refine Wp.iadd dc_X12_readRest_66 ?_
            refine Wp.aload_n dc_X12_readRest_67 rfl ?_
            refine Wp.iconst dc_X12_readRest_68 ic_0 ?_
            obtain ⟨p69, h69, hE⟩ := bnd hE
            refine Wp.cV1i (ok_X12_readTold  h69) dc_X12_readRest_69 mw_X12_285 (mO11 (by decide)) (by decide) (Nat.le_of_ble_eq_true rfl) ?_
            obtain ⟨j72, h72, hE⟩ := bnd hE
            refine Wp.siast dc_X12_readRest_72 (mO13 (by decide)) h72 ?_
            obtain ⟨σ72, es_72, hE⟩ := bnS hE
            rw [es_72]
            cases hE
            exact Wp.return dc_X12_readRest_73 rfl (Nat.le_refl _) (Nat.le_refl _) hK
      · rw [if_pos hc28] at hE
        exact ok_X12_readRest_j31   hE hK
  · rw [if_pos hc10] at hE
    refine Wp.aload_n dc_X12_readRest_13 rfl ?_
    refine Wp.iload_n dc_X12_readRest_14 rfl ?_
    obtain ⟨σ15, h15, hE⟩ := bnd hE
    refine Wp.cV1v (ok_X12_readTest  h15) dc_X12_readRest_15 mw_X12_288 (mO11 (by decide)) (by decide) (Nat.le_of_ble_eq_true rfl) ?_
    refine Wp.goto (tgt := 73) dc_X12_readRest_18 (by decide) ?_
    cases hE
    exact Wp.return dc_X12_readRest_73 rfl (Nat.le_refl _) (Nat.le_refl _) hK
theorem ok_X12_readRest  {σ : SS}  {x1 : Int32} {o}   (hE : X12_readRest  σ  x1 = some o) : Runs 8 0 0 mi_X12_readRest [vr 11 0, vi x1] (hp σ) (fun v h => v = none ∧ h = hp o) := by
  refine Runs.of pn_X12 (Nat.le_of_ble_eq_true rfl) ?_
  exact ok_X12_readRest_j0   hE ⟨rfl, rfl⟩
def X12_readStep_P142 (d : Nat) (Q : Option AV → AH → Prop)   (x1 : Int32) (x3 : Int32) (x4 : Int32) (ss : SS) : Prop := ∀ z2 : Option AV, Ws d mi_X12_readStep Q 142 [some (vr 11 0), some (vi x1), z2, some (vi x3), some (vi x4)] [] ss
def X12_readStep_R142 (d : Nat) (Q : Option AV → AH → Prop)   (x1 : Int32) (x3 : Int32) (x4 : Int32) (tt : SS) : Prop := ∀ z1 z2 : Option AV, Ws d mi_X12_readStep Q 170 [some (vr 11 0), z1, z2, some (vi x3), some (vi x4)] [] tt
theorem ok_X12_readStep_l142c {Q : Option AV → AH → Prop} {rec_X12_readStep : SS → Int32 → Option SS} {d dr : Nat} {σ : SS}  {x1 : Int32} {x3 : Int32} {x4 : Int32}  {o} {z2 : Option AV} (hrec_X12_readStep : ∀ σ a0 o, rec_X12_readStep σ a0 = some o → Runs dr 0 0 mi_X12_readStep [vr 11 0, vi a0] (hp σ) (fun v h => v = none ∧ h = hp o)) (hdr : dr + 1 ≤ d) (hd40 : 40 ≤ d)  (hE : X12_readStep_l142c rec_X12_readStep σ  x1 x3 x4  = some o) (hS : ∀ ss, o = Sum.inl ss → (X12_readStep_P142 d Q   x1 x3 x4) ss) (hT : ∀ tt, o = Sum.inr tt → (X12_readStep_R142 d Q   x1 x3 x4) tt) : Ws d mi_X12_readStep Q 142 [some (vr 11 0), some (vi x1), z2, some (vi x3), some (vi x4)] [] σ := by
  unfold X12_readStep_l142c at hE
  refine Wp.iload_n dc_X12_readStep_142 rfl ?_
  refine Wp.if_eq (tgt := 170) dc_X12_readStep_143 (by decide) (fun hc143 => ?_) (fun hc143 => ?_)
  · rw [if_pos hc143] at hE
    cases hE
    exact hT _ rfl _ _
  · rw [if_neg hc143] at hE
    refine Wp.aload_n dc_X12_readStep_146 rfl ?_
    refine Wp.sgetI dc_X12_readStep_147 fw_X12_216 (mO11 (by decide)) ?_
    refine Wp.if_ne (tgt := 170) dc_X12_readStep_150 (by decide) (fun hc150 => ?_) (fun hc150 => ?_)
    · rw [if_neg hc150] at hE
      cases hE
      exact hT _ rfl _ _
    · rw [if_pos hc150] at hE
      refine Wp.aload_n dc_X12_readStep_153 rfl ?_
      obtain ⟨v154, h154, hE⟩ := bnd hE
      refine Wp.cV0i (ok_X12_isEnd  h154) dc_X12_readStep_154 mw_X12_210 (mO11 (by decide)) (by omega) (Nat.le_of_ble_eq_true rfl) ?_
      refine Wp.if_ne (tgt := 170) dc_X12_readStep_157 (by decide) (fun hc157 => ?_) (fun hc157 => ?_)
      · rw [if_neg hc157] at hE
        cases hE
        exact hT _ rfl _ _
      · rw [if_pos hc157] at hE
        refine Wp.aload_n dc_X12_readStep_160 rfl ?_
        refine Wp.iload_n dc_X12_readStep_161 rfl ?_
        refine Wp.iconst dc_X12_readStep_162 ic_1 ?_
        refine Wp.iadd dc_X12_readStep_163 ?_
        obtain ⟨σ164, h164, hE⟩ := bnd hE
        refine Wp.cV1v (hrec_X12_readStep _ _ _ h164) dc_X12_readStep_164 mw_X12_297 (mO11 (by decide)) (by omega) (Nat.le_of_ble_eq_true rfl) ?_
        refine Wp.goto (tgt := 142) dc_X12_readStep_167 (by decide) ?_
        cases hE
        exact hS _ rfl _
theorem ok_X12_readStep_j192 {Q : Option AV → AH → Prop} {rec_X12_readStep : SS → Int32 → Option SS} {d dr : Nat} {σ : SS}  {x4 : Int32} {o} {z1 z2 z3 : Option AV} (hrec_X12_readStep : ∀ σ a0 o, rec_X12_readStep σ a0 = some o → Runs dr 0 0 mi_X12_readStep [vr 11 0, vi a0] (hp σ) (fun v h => v = none ∧ h = hp o)) (hdr : dr + 1 ≤ d) (hd40 : 40 ≤ d)  (hE : X12_readStep_j192 rec_X12_readStep σ  x4 = some o) (hK : Q none (hp o)) : Ws d mi_X12_readStep Q 192 [some (vr 11 0), z1, z2, z3, some (vi x4)] [] σ := by
  unfold X12_readStep_j192 at hE
  refine Wp.aload_n dc_X12_readStep_192 rfl ?_
  refine Wp.sgetR (t := 34) dc_X12_readStep_193 fw_X12_35 (mO11 (by decide)) rfl ?_
  refine Wp.iload dc_X12_readStep_196 rfl ?_
  refine Wp.bipush dc_X12_readStep_198 bp_8 ?_
  refine Wp.iadd dc_X12_readStep_200 ?_
  refine Wp.aload_n dc_X12_readStep_201 rfl ?_
  refine Wp.sgetI dc_X12_readStep_202 fw_X12_291 (mO11 (by decide)) ?_
  obtain ⟨j205, h205, hE⟩ := bnd hE
  refine Wp.siast dc_X12_readStep_205 (mO13 (by decide)) h205 ?_
  obtain ⟨σ205, es_205, hE⟩ := bnS hE
  rw [es_205]
  cases hE
  exact Wp.return dc_X12_readStep_206 rfl (Nat.le_refl _) (Nat.le_refl _) hK
theorem ok_X12_readStep_j170 {Q : Option AV → AH → Prop} {rec_X12_readStep : SS → Int32 → Option SS} {d dr : Nat} {σ : SS}  {x3 : Int32} {x4 : Int32} {o} {z1 z2 : Option AV} (hrec_X12_readStep : ∀ σ a0 o, rec_X12_readStep σ a0 = some o → Runs dr 0 0 mi_X12_readStep [vr 11 0, vi a0] (hp σ) (fun v h => v = none ∧ h = hp o)) (hdr : dr + 1 ≤ d) (hd40 : 40 ≤ d)  (hE : X12_readStep_j170 rec_X12_readStep σ  x3 x4 = some o) (hK : Q none (hp o)) : Ws d mi_X12_readStep Q 170 [some (vr 11 0), z1, z2, some (vi x3), some (vi x4)] [] σ := by
  unfold X12_readStep_j170 at hE
  refine Wp.iload_n dc_X12_readStep_170 rfl ?_
  refine Wp.if_eq (tgt := 192) dc_X12_readStep_171 (by decide) (fun hc171 => ?_) (fun hc171 => ?_)
  · rw [if_pos hc171] at hE
    exact ok_X12_readStep_j192 hrec_X12_readStep hdr hd40  hE hK
  · rw [if_neg hc171] at hE
    refine Wp.aload_n dc_X12_readStep_174 rfl ?_
    refine Wp.aload_n dc_X12_readStep_175 rfl ?_
    obtain ⟨v176, h176, hE⟩ := bnd hE
    refine Wp.cV0i (ok_X12_isEnd  h176) dc_X12_readStep_176 mw_X12_210 (mO11 (by decide)) (by omega) (Nat.le_of_ble_eq_true rfl) ?_
    obtain ⟨σ179, h179, hE⟩ := bnd hE
    refine Wp.cV1v (ok_X12_must  h179) dc_X12_readStep_179 mw_X12_254 (mO11 (by decide)) (by omega) (Nat.le_of_ble_eq_true rfl) ?_
    refine Wp.aload_n dc_X12_readStep_182 rfl ?_
    refine Wp.aload_n dc_X12_readStep_183 rfl ?_
    refine Wp.bipush dc_X12_readStep_184 bp_59 ?_
    obtain ⟨v186, h186, hE⟩ := bnd hE
    refine Wp.cV1i (ok_X12_isSign  h186) dc_X12_readStep_186 mw_X12_276 (mO11 (by decide)) (by omega) (Nat.le_of_ble_eq_true rfl) ?_
    obtain ⟨σ189, h189, hE⟩ := bnd hE
    refine Wp.cV1v (ok_X12_must  h189) dc_X12_readStep_189 mw_X12_254 (mO11 (by decide)) (by omega) (Nat.le_of_ble_eq_true rfl) ?_
    exact ok_X12_readStep_j192 hrec_X12_readStep hdr hd40  hE hK
theorem ok_X12_readStep_l142 {Q : Option AV → AH → Prop} {rec_X12_readStep : SS → Int32 → Option SS} {d dr : Nat} {σ : SS}  {x1 : Int32} {x3 : Int32} {x4 : Int32} {o} {z2 : Option AV} (hrec_X12_readStep : ∀ σ a0 o, rec_X12_readStep σ a0 = some o → Runs dr 0 0 mi_X12_readStep [vr 11 0, vi a0] (hp σ) (fun v h => v = none ∧ h = hp o)) (hdr : dr + 1 ≤ d) (hd40 : 40 ≤ d)  (hE : X12_readStep_l142 rec_X12_readStep σ  x1 x3 x4 = some o) (hK : Q none (hp o)) : Ws d mi_X12_readStep Q 142 [some (vr 11 0), some (vi x1), z2, some (vi x3), some (vi x4)] [] σ := by
  unfold X12_readStep_l142 at hE
  obtain ⟨t142, h1, hE⟩ := bnd hE
  refine iter_ok (P := (X12_readStep_P142 d Q   x1 x3 x4)) (R := (X12_readStep_R142 d Q   x1 x3 x4)) (fun ss o h2 hS hT => ?_) NF _ _ h1 ?_ _
  · intro z2
    exact ok_X12_readStep_l142c hrec_X12_readStep hdr hd40  h2 hS hT
  · intro z1 z2
    show Ws d mi_X12_readStep Q 170 [some (vr 11 0), z1, z2, some (vi x3), some (vi x4)] [] t142
    exact ok_X12_readStep_j170 hrec_X12_readStep hdr hd40  hE hK
theorem ok_X12_readStep_j83 {Q : Option AV → AH → Prop} {rec_X12_readStep : SS → Int32 → Option SS} {d dr : Nat} {σ : SS}  {x1 : Int32} {x2 : Int32} {x3 : Int32} {o} {z4 : Option AV} (hrec_X12_readStep : ∀ σ a0 o, rec_X12_readStep σ a0 = some o → Runs dr 0 0 mi_X12_readStep [vr 11 0, vi a0] (hp σ) (fun v h => v = none ∧ h = hp o)) (hdr : dr + 1 ≤ d) (hd40 : 40 ≤ d)  (hE : X12_readStep_j83 rec_X12_readStep σ  x1 x2 x3 = some o) (hK : Q none (hp o)) : Ws d mi_X12_readStep Q 83 [some (vr 11 0), some (vi x1), some (vi x2), some (vi x3), z4] [] σ := by
  unfold X12_readStep_j83 at hE
  refine Wp.aload_n dc_X12_readStep_83 rfl ?_
  refine Wp.sgetI dc_X12_readStep_84 fw_X12_216 (mO11 (by decide)) ?_
  refine Wp.if_le (tgt := 91) dc_X12_readStep_87 (by decide) (fun hc87 => ?_) (fun hc87 => ?_)
  · rw [if_pos hc87] at hE
    refine Wp.sipush dc_X12_readStep_91 sp_1774 ?_
    refine Wp.bipush dc_X12_readStep_94 bp_9 ?_
    refine Wp.aload_n dc_X12_readStep_96 rfl ?_
    refine Wp.sgetI dc_X12_readStep_97 fw_X12_291 (mO11 (by decide)) ?_
    refine Wp.imul dc_X12_readStep_100 ?_
    refine Wp.iadd dc_X12_readStep_101 ?_
    obtain ⟨x4_102, e_102, hE⟩ := bnS hE
    rw [e_102]
    refine Wp.istore dc_X12_readStep_102 (by decide) ?_
    refine Wp.aload_n dc_X12_readStep_104 rfl ?_
    refine Wp.dup dc_X12_readStep_105 rfl ?_
    refine Wp.sgetI dc_X12_readStep_106 fw_X12_291 (mO11 (by decide)) ?_
    refine Wp.iconst dc_X12_readStep_109 ic_1 ?_
    refine Wp.iadd dc_X12_readStep_110 ?_
    refine Wp.sputI dc_X12_readStep_111 fw_X12_291 (mO11 (by decide)) (Nr.i _) ?_
    obtain ⟨σ111, es_111, hE⟩ := bnS hE
    rw [es_111]
    refine Wp.aload_n dc_X12_readStep_114 rfl ?_
    obtain ⟨σ115, h115, hE⟩ := bnd hE
    refine Wp.cV0v (ok_X12_next  h115) dc_X12_readStep_115 mw_X12_226 (mO11 (by decide)) (by omega) (Nat.le_of_ble_eq_true rfl) ?_
    refine Wp.aload_n dc_X12_readStep_118 rfl ?_
    refine Wp.sgetR (t := 34) dc_X12_readStep_119 fw_X12_35 (mO11 (by decide)) rfl ?_
    refine Wp.iload dc_X12_readStep_122 rfl ?_
    refine Wp.iload_n dc_X12_readStep_124 rfl ?_
    obtain ⟨j125, h125, hE⟩ := bnd hE
    refine Wp.siast dc_X12_readStep_125 (mO13 (by decide)) h125 ?_
    obtain ⟨σ125, es_125, hE⟩ := bnS hE
    rw [es_125]
    refine Wp.aload_n dc_X12_readStep_126 rfl ?_
    refine Wp.iload dc_X12_readStep_127 rfl ?_
    obtain ⟨σ129, h129, hE⟩ := bnd hE
    refine Wp.cV1v (ok_X12_readRest  h129) dc_X12_readStep_129 mw_X12_294 (mO11 (by decide)) (by omega) (Nat.le_of_ble_eq_true rfl) ?_
    refine Wp.aload_n dc_X12_readStep_132 rfl ?_
    refine Wp.aload_n dc_X12_readStep_133 rfl ?_
    refine Wp.bipush dc_X12_readStep_134 bp_59 ?_
    obtain ⟨v136, h136, hE⟩ := bnd hE
    refine Wp.cV1i (ok_X12_isSign  h136) dc_X12_readStep_136 mw_X12_276 (mO11 (by decide)) (by omega) (Nat.le_of_ble_eq_true rfl) ?_
    obtain ⟨σ139, h139, hE⟩ := bnd hE
    refine Wp.cV1v (ok_X12_must  h139) dc_X12_readStep_139 mw_X12_254 (mO11 (by decide)) (by omega) (Nat.le_of_ble_eq_true rfl) ?_
    exact ok_X12_readStep_l142 hrec_X12_readStep hdr hd40  hE hK
  · rw [if_neg hc87] at hE
    cases hE
    exact Wp.return dc_X12_readStep_90 rfl (Nat.le_refl _) (Nat.le_refl _) hK
theorem ok_X12_readStep_j57 {Q : Option AV → AH → Prop} {rec_X12_readStep : SS → Int32 → Option SS} {d dr : Nat} {σ : SS}  {x1 : Int32} {x2 : Int32} {x3 : Int32} {o} {z4 : Option AV} (hrec_X12_readStep : ∀ σ a0 o, rec_X12_readStep σ a0 = some o → Runs dr 0 0 mi_X12_readStep [vr 11 0, vi a0] (hp σ) (fun v h => v = none ∧ h = hp o)) (hdr : dr + 1 ≤ d) (hd40 : 40 ≤ d)  (hE : X12_readStep_j57 rec_X12_readStep σ  x1 x2 x3 = some o) (hK : Q none (hp o)) : Ws d mi_X12_readStep Q 57 [some (vr 11 0), some (vi x1), some (vi x2), some (vi x3), z4] [] σ := by
  unfold X12_readStep_j57 at hE
  refine Wp.aload_n dc_X12_readStep_57 rfl ?_
  refine Wp.sgetI dc_X12_readStep_58 fw_X12_216 (mO11 (by decide)) ?_
  refine Wp.if_ne (tgt := 83) dc_X12_readStep_61 (by decide) (fun hc61 => ?_) (fun hc61 => ?_)
  · rw [if_neg hc61] at hE
    exact ok_X12_readStep_j83 hrec_X12_readStep hdr hd40  hE hK
  · rw [if_pos hc61] at hE
    refine Wp.iload_n dc_X12_readStep_64 rfl ?_
    refine Wp.if_eq (tgt := 83) dc_X12_readStep_65 (by decide) (fun hc65 => ?_) (fun hc65 => ?_)
    · rw [if_pos hc65] at hE
      exact ok_X12_readStep_j83 hrec_X12_readStep hdr hd40  hE hK
    · rw [if_neg hc65] at hE
      refine Wp.iload_n dc_X12_readStep_68 rfl ?_
      refine Wp.iconst dc_X12_readStep_69 ic_3 ?_
      refine Wp.icmp_ne (tgt := 83) dc_X12_readStep_70 (by decide) (fun hc70 => ?_) (fun hc70 => ?_)
      · rw [if_neg hc70] at hE
        exact ok_X12_readStep_j83 hrec_X12_readStep hdr hd40  hE hK
      · rw [if_pos hc70] at hE
        refine Wp.aload_n dc_X12_readStep_73 rfl ?_
        refine Wp.bipush dc_X12_readStep_74 bp_7 ?_
        refine Wp.aload_n dc_X12_readStep_76 rfl ?_
        refine Wp.sgetI dc_X12_readStep_77 fw_X12_126 (mO11 (by decide)) ?_
        obtain ⟨σ80, h80, hE⟩ := bnd hE
        refine Wp.cV2v (ok_X12_fail  h80) dc_X12_readStep_80 mw_X12_222 (mO11 (by decide)) (by omega) (Nat.le_of_ble_eq_true rfl) ?_
        exact ok_X12_readStep_j83 hrec_X12_readStep hdr hd40  hE hK
theorem ok_X12_readStep_j31 {Q : Option AV → AH → Prop} {rec_X12_readStep : SS → Int32 → Option SS} {d dr : Nat} {σ : SS}  {x1 : Int32} {x2 : Int32} {x3 : Int32} {o} {z4 : Option AV} (hrec_X12_readStep : ∀ σ a0 o, rec_X12_readStep σ a0 = some o → Runs dr 0 0 mi_X12_readStep [vr 11 0, vi a0] (hp σ) (fun v h => v = none ∧ h = hp o)) (hdr : dr + 1 ≤ d) (hd40 : 40 ≤ d)  (hE : X12_readStep_j31 rec_X12_readStep σ  x1 x2 x3 = some o) (hK : Q none (hp o)) : Ws d mi_X12_readStep Q 31 [some (vr 11 0), some (vi x1), some (vi x2), some (vi x3), z4] [] σ := by
  unfold X12_readStep_j31 at hE
  refine Wp.aload_n dc_X12_readStep_31 rfl ?_
  refine Wp.sgetI dc_X12_readStep_32 fw_X12_216 (mO11 (by decide)) ?_
  refine Wp.if_ne (tgt := 57) dc_X12_readStep_35 (by decide) (fun hc35 => ?_) (fun hc35 => ?_)
  · rw [if_neg hc35] at hE
    exact ok_X12_readStep_j57 hrec_X12_readStep hdr hd40  hE hK
  · rw [if_pos hc35] at hE
    refine Wp.aload_n dc_X12_readStep_38 rfl ?_
    refine Wp.sgetI dc_X12_readStep_39 fw_X12_291 (mO11 (by decide)) ?_
    refine Wp.bipush dc_X12_readStep_42 bp_30 ?_
    refine Wp.icmp_ne (tgt := 57) dc_X12_readStep_44 (by decide) (fun hc44 => ?_) (fun hc44 => ?_)
    · rw [if_neg hc44] at hE
      exact ok_X12_readStep_j57 hrec_X12_readStep hdr hd40  hE hK
    · rw [if_pos hc44] at hE
      refine Wp.aload_n dc_X12_readStep_47 rfl ?_
      refine Wp.bipush dc_X12_readStep_48 bp_6 ?_
      refine Wp.aload_n dc_X12_readStep_50 rfl ?_
      refine Wp.sgetI dc_X12_readStep_51 fw_X12_126 (mO11 (by decide)) ?_
      obtain ⟨σ54, h54, hE⟩ := bnd hE
      refine Wp.cV2v (ok_X12_fail  h54) dc_X12_readStep_54 mw_X12_222 (mO11 (by decide)) (by omega) (Nat.le_of_ble_eq_true rfl) ?_
      exact ok_X12_readStep_j57 hrec_X12_readStep hdr hd40  hE hK
theorem ok_X12_readStep_j22 {Q : Option AV → AH → Prop} {rec_X12_readStep : SS → Int32 → Option SS} {d dr : Nat} {σ : SS}  {x1 : Int32} {x2 : Int32} {s0 : Int32} {o} {z3 z4 : Option AV} (hrec_X12_readStep : ∀ σ a0 o, rec_X12_readStep σ a0 = some o → Runs dr 0 0 mi_X12_readStep [vr 11 0, vi a0] (hp σ) (fun v h => v = none ∧ h = hp o)) (hdr : dr + 1 ≤ d) (hd40 : 40 ≤ d)  (hE : X12_readStep_j22 rec_X12_readStep σ  x1 x2 s0 = some o) (hK : Q none (hp o)) : Ws d mi_X12_readStep Q 22 [some (vr 11 0), some (vi x1), some (vi x2), z3, z4] [vi s0] σ := by
  unfold X12_readStep_j22 at hE
  refine Wp.istore_n dc_X12_readStep_22 (by decide) ?_
  refine Wp.iload_n dc_X12_readStep_23 rfl ?_
  refine Wp.if_ge (tgt := 31) dc_X12_readStep_24 (by decide) (fun hc24 => ?_) (fun hc24 => ?_)
  · rw [if_pos hc24] at hE
    exact ok_X12_readStep_j31 hrec_X12_readStep hdr hd40  hE hK
  · rw [if_neg hc24] at hE
    refine Wp.aload_n dc_X12_readStep_27 rfl ?_
    obtain ⟨σ28, h28, hE⟩ := bnd hE
    refine Wp.cV0v (ok_X12_wrong  h28) dc_X12_readStep_28 mw_X12_229 (mO11 (by decide)) (by omega) (Nat.le_of_ble_eq_true rfl) ?_
    exact ok_X12_readStep_j31 hrec_X12_readStep hdr hd40  hE hK
theorem ok_X12_readStep_j17 {Q : Option AV → AH → Prop} {rec_X12_readStep : SS → Int32 → Option SS} {d dr : Nat} {σ : SS}  {x1 : Int32} {x2 : Int32} {o} {z3 z4 : Option AV} (hrec_X12_readStep : ∀ σ a0 o, rec_X12_readStep σ a0 = some o → Runs dr 0 0 mi_X12_readStep [vr 11 0, vi a0] (hp σ) (fun v h => v = none ∧ h = hp o)) (hdr : dr + 1 ≤ d) (hd40 : 40 ≤ d)  (hE : X12_readStep_j17 rec_X12_readStep σ  x1 x2 = some o) (hK : Q none (hp o)) : Ws d mi_X12_readStep Q 17 [some (vr 11 0), some (vi x1), some (vi x2), z3, z4] [] σ := by
  unfold X12_readStep_j17 at hE
  refine Wp.iconst dc_X12_readStep_17 ic_1 ?_
  refine Wp.goto (tgt := 22) dc_X12_readStep_18 (by decide) ?_
  exact ok_X12_readStep_j22 hrec_X12_readStep hdr hd40  hE hK
theorem ok_X12_readStep_j0 {Q : Option AV → AH → Prop} {rec_X12_readStep : SS → Int32 → Option SS} {d dr : Nat} {σ : SS}  {x1 : Int32} {o} {z2 z3 z4 : Option AV} (hrec_X12_readStep : ∀ σ a0 o, rec_X12_readStep σ a0 = some o → Runs dr 0 0 mi_X12_readStep [vr 11 0, vi a0] (hp σ) (fun v h => v = none ∧ h = hp o)) (hdr : dr + 1 ≤ d) (hd40 : 40 ≤ d)  (hE : X12_readStep_j0 rec_X12_readStep σ  x1 = some o) (hK : Q none (hp o)) : Ws d mi_X12_readStep Q 0 [some (vr 11 0), some (vi x1), z2, z3, z4] [] σ := by
  unfold X12_readStep_j0 at hE
  refine Wp.aload_n dc_X12_readStep_0 rfl ?_
  obtain ⟨v1, h1, hE⟩ := bnd hE
  refine Wp.cV0i (ok_X12_stepWord  h1) dc_X12_readStep_1 mw_X12_204 (mO11 (by decide)) (by omega) (Nat.le_of_ble_eq_true rfl) ?_
  refine Wp.istore_n dc_X12_readStep_4 (by decide) ?_
  refine Wp.iload_n dc_X12_readStep_5 rfl ?_
  refine Wp.bipush dc_X12_readStep_6 bp_6 ?_
  refine Wp.icmp_eq (tgt := 17) dc_X12_readStep_8 (by decide) (fun hc8 => ?_) (fun hc8 => ?_)
  · rw [if_pos hc8] at hE
    exact ok_X12_readStep_j17 hrec_X12_readStep hdr hd40  hE hK
  · rw [if_neg hc8] at hE
    refine Wp.iload_n dc_X12_readStep_11 rfl ?_
    refine Wp.bipush dc_X12_readStep_12 bp_7 ?_
    refine Wp.icmp_ne (tgt := 21) dc_X12_readStep_14 (by decide) (fun hc14 => ?_) (fun hc14 => ?_)
    · rw [if_neg hc14] at hE
      refine Wp.iconst dc_X12_readStep_21 ic_0 ?_
      exact ok_X12_readStep_j22 hrec_X12_readStep hdr hd40  hE hK
    · rw [if_pos hc14] at hE
      exact ok_X12_readStep_j17 hrec_X12_readStep hdr hd40  hE hK
theorem ok_X12_readStep {rec_X12_readStep : SS → Int32 → Option SS} {d dr : Nat} {σ : SS}  {x1 : Int32} {o} (hrec_X12_readStep : ∀ σ a0 o, rec_X12_readStep σ a0 = some o → Runs dr 0 0 mi_X12_readStep [vr 11 0, vi a0] (hp σ) (fun v h => v = none ∧ h = hp o)) (hdr : dr + 1 ≤ d) (hd40 : 40 ≤ d)  (hE : X12_readStep rec_X12_readStep σ  x1 = some o) : Runs d 0 0 mi_X12_readStep [vr 11 0, vi x1] (hp σ) (fun v h => v = none ∧ h = hp o) := by
  refine Runs.of pn_X12 (Nat.le_of_ble_eq_true rfl) ?_
  exact ok_X12_readStep_j0 hrec_X12_readStep hdr hd40  hE ⟨rfl, rfl⟩
theorem ok_X12_readStepN : ∀ (n : Nat) {σ : SS} {x1 : Int32} {o : SS}, X12_readStepN n σ x1 = some o → Runs (40 + n) 0 0 mi_X12_readStep [vr 11 0, vi x1] (hp σ) (fun v h => v = none ∧ h = hp o) := by
  intro n
  induction n with
  | zero => intro σ x1 o h; cases h
  | succ n ih =>
    intro σ x1 o h
    exact ok_X12_readStep (dr := 40 + n) (fun σ a o z => ih z) (by omega) (by omega) h
def X12_years_P28 (Q : Option AV → AH → Prop)    (ss : SS) : Prop := ∀ z1 z2 : Option AV, Ws 46 mi_X12_years Q 28 [some (vr 11 0), z1, z2] [] ss
def X12_years_R28 (Q : Option AV → AH → Prop)    (tt : SS) : Prop := ∀ z1 z2 : Option AV, Ws 46 mi_X12_years Q 50 [some (vr 11 0), z1, z2] [] tt
theorem ok_X12_years_l28c {Q : Option AV → AH → Prop}  {σ : SS}    {o} {z1 z2 : Option AV}   (hE : X12_years_l28c  σ    = some o) (hS : ∀ ss, o = Sum.inl ss → (X12_years_P28  Q   ) ss) (hT : ∀ tt, o = Sum.inr tt → (X12_years_R28  Q   ) tt) : Ws 46 mi_X12_years Q 28 [some (vr 11 0), z1, z2] [] σ := by
  unfold X12_years_l28c at hE
  refine Wp.aload_n dc_X12_years_28 rfl ?_
  refine Wp.sgetI dc_X12_years_29 fw_X12_216 (mO11 (by decide)) ?_
  refine Wp.if_ne (tgt := 50) dc_X12_years_32 (by decide) (fun hc32 => ?_) (fun hc32 => ?_)
  · rw [if_neg hc32] at hE
    cases hE
    exact hT _ rfl _ _
  · rw [if_pos hc32] at hE
    refine Wp.aload_n dc_X12_years_35 rfl ?_
    refine Wp.sgetI dc_X12_years_36 fw_X12_132 (mO11 (by decide)) ?_
    refine Wp.if_eq (tgt := 50) dc_X12_years_39 (by decide) (fun hc39 => ?_) (fun hc39 => ?_)
    · rw [if_pos hc39] at hE
      cases hE
      exact hT _ rfl _ _
    · rw [if_neg hc39] at hE
      refine Wp.aload_n dc_X12_years_42 rfl ?_
      refine Wp.iconst dc_X12_years_43 ic_0 ?_
      obtain ⟨σ44, h44, hE⟩ := bnd hE
      refine Wp.cV1v (ok_X12_readStepN 5 h44) dc_X12_years_44 mw_X12_297 (mO11 (by decide)) (by decide) (Nat.le_of_ble_eq_true rfl) ?_
      refine Wp.goto (tgt := 28) dc_X12_years_47 (by decide) ?_
      cases hE
      exact hS _ rfl _ _
def X12_years_P82 (Q : Option AV → AH → Prop)    (ss : Int32 × SS) : Prop := ∀ z1 : Option AV, Ws 46 mi_X12_years Q 82 [some (vr 11 0), z1, some (vi ss.1)] [] ss.2
def X12_years_R82 (Q : Option AV → AH → Prop)    (tt : SS) : Prop := ∀ z1 z2 : Option AV, Ws 46 mi_X12_years Q 119 [some (vr 11 0), z1, z2] [] tt
theorem ok_X12_years_l82c {Q : Option AV → AH → Prop}  {σ : SS}   {x2 : Int32} {o} {z1 : Option AV}   (hE : X12_years_l82c  σ   x2 = some o) (hS : ∀ ss, o = Sum.inl ss → (X12_years_P82  Q   ) ss) (hT : ∀ tt, o = Sum.inr tt → (X12_years_R82  Q   ) tt) : Ws 46 mi_X12_years Q 82 [some (vr 11 0), z1, some (vi x2)] [] σ := by
  unfold X12_years_l82c at hE
  refine Wp.iload_n dc_X12_years_82 rfl ?_
  refine Wp.bipush dc_X12_years_83 bp_9 ?_
  refine Wp.aload_n dc_X12_years_85 rfl ?_
  refine Wp.sgetI dc_X12_years_86 fw_X12_291 (mO11 (by decide)) ?_
  refine Wp.imul dc_X12_years_89 ?_
  refine Wp.icmp_ge (tgt := 119) dc_X12_years_90 (by decide) (fun hc90 => ?_) (fun hc90 => ?_)
  · rw [if_pos hc90] at hE
    cases hE
    exact hT _ rfl _ _
  · rw [if_neg hc90] at hE
    refine Wp.aload_n dc_X12_years_93 rfl ?_
    refine Wp.sgetR (t := 34) dc_X12_years_94 fw_X12_35 (mO11 (by decide)) rfl ?_
    refine Wp.sipush dc_X12_years_97 sp_134 ?_
    refine Wp.iload_n dc_X12_years_100 rfl ?_
    refine Wp.iadd dc_X12_years_101 ?_
    refine Wp.aload_n dc_X12_years_102 rfl ?_
    refine Wp.sgetR (t := 34) dc_X12_years_103 fw_X12_35 (mO11 (by decide)) rfl ?_
    refine Wp.sipush dc_X12_years_106 sp_1774 ?_
    refine Wp.iload_n dc_X12_years_109 rfl ?_
    refine Wp.iadd dc_X12_years_110 ?_
    obtain ⟨j111, h111, hE⟩ := bnd hE
    refine Wp.siald dc_X12_years_111 (mO13 (by decide)) h111 ?_
    obtain ⟨j112, h112, hE⟩ := bnd hE
    refine Wp.siast dc_X12_years_112 (mO13 (by decide)) h112 ?_
    obtain ⟨σ112, es_112, hE⟩ := bnS hE
    rw [es_112]
    obtain ⟨x2_113, e_113, hE⟩ := bnS hE
    refine Wp.iinc dc_X12_years_113 rfl ((ii ic_1).trans e_113) (by decide) ?_
    refine Wp.goto (tgt := 82) dc_X12_years_116 (by decide) ?_
    cases hE
    exact hS _ rfl _
theorem ok_X12_years_l82 {Q : Option AV → AH → Prop}  {σ : SS}  {x2 : Int32} {o} {z1 : Option AV}   (hE : X12_years_l82  σ  x2 = some o) (hK : Q (some (vi o.1)) (hp o.2)) : Ws 46 mi_X12_years Q 82 [some (vr 11 0), z1, some (vi x2)] [] σ := by
  unfold X12_years_l82 at hE
  obtain ⟨t82, h1, hE⟩ := bnd hE
  refine iter_ok (P := (X12_years_P82  Q   )) (R := (X12_years_R82  Q   )) (fun ss o h2 hS hT => ?_) NF _ _ h1 ?_ _
  · intro z1
    exact ok_X12_years_l82c   h2 hS hT
  · intro z1 z2
    show Ws 46 mi_X12_years Q 119 [some (vr 11 0), z1, z2] [] t82
    refine Wp.aload_n dc_X12_years_119 rfl ?_
    refine Wp.sgetI dc_X12_years_120 fw_X12_291 (mO11 (by decide)) ?_
    cases hE
    exact Wp.ireturn dc_X12_years_123 rfl rfl (Nat.le_refl _) (Nat.le_refl _) hK
theorem ok_X12_years_j50 {Q : Option AV → AH → Prop}  {σ : SS}   {o} {z1 z2 : Option AV}   (hE : X12_years_j50  σ   = some o) (hK : Q (some (vi o.1)) (hp o.2)) : Ws 46 mi_X12_years Q 50 [some (vr 11 0), z1, z2] [] σ := by
  unfold X12_years_j50 at hE
  refine Wp.aload_n dc_X12_years_50 rfl ?_
  obtain ⟨p51, h51, hE⟩ := bnd hE
  refine Wp.cV0i (ok_X12_isWell  h51) dc_X12_years_51 mw_X12_279 (mO11 (by decide)) (by decide) (Nat.le_of_ble_eq_true rfl) ?_
  refine Wp.if_ne (tgt := 59) dc_X12_years_54 (by decide) (fun hc54 => ?_) (fun hc54 => ?_)
  · rw [if_neg hc54] at hE
    refine Wp.aload_n dc_X12_years_59 rfl ?_
    refine Wp.sgetR (t := 34) dc_X12_years_60 fw_X12_35 (mO11 (by decide)) rfl ?_
    refine Wp.sipush dc_X12_years_63 sp_132 ?_
    refine Wp.iconst dc_X12_years_66 ic_1 ?_
    obtain ⟨j67, h67, hE⟩ := bnd hE
    refine Wp.siast dc_X12_years_67 (mO13 (by decide)) h67 ?_
    obtain ⟨σ67, es_67, hE⟩ := bnS hE
    rw [es_67]
    refine Wp.aload_n dc_X12_years_68 rfl ?_
    refine Wp.sgetR (t := 34) dc_X12_years_69 fw_X12_35 (mO11 (by decide)) rfl ?_
    refine Wp.sipush dc_X12_years_72 sp_133 ?_
    refine Wp.aload_n dc_X12_years_75 rfl ?_
    refine Wp.sgetI dc_X12_years_76 fw_X12_291 (mO11 (by decide)) ?_
    obtain ⟨j79, h79, hE⟩ := bnd hE
    refine Wp.siast dc_X12_years_79 (mO13 (by decide)) h79 ?_
    obtain ⟨σ79, es_79, hE⟩ := bnS hE
    rw [es_79]
    refine Wp.iconst dc_X12_years_80 ic_0 ?_
    refine Wp.istore_n dc_X12_years_81 (by decide) ?_
    exact ok_X12_years_l82   hE hK
  · rw [if_pos hc54] at hE
    refine Wp.iconst dc_X12_years_57 ic_m1 ?_
    cases hE
    exact Wp.ireturn dc_X12_years_58 rfl rfl (Nat.le_refl _) (Nat.le_refl _) hK
theorem ok_X12_years_l28 {Q : Option AV → AH → Prop}  {σ : SS}   {o} {z1 z2 : Option AV}   (hE : X12_years_l28  σ   = some o) (hK : Q (some (vi o.1)) (hp o.2)) : Ws 46 mi_X12_years Q 28 [some (vr 11 0), z1, z2] [] σ := by
  unfold X12_years_l28 at hE
  obtain ⟨t28, h1, hE⟩ := bnd hE
  refine iter_ok (P := (X12_years_P28  Q   )) (R := (X12_years_R28  Q   )) (fun ss o h2 hS hT => ?_) NF _ _ h1 ?_ _ _
  · intro z1 z2
    exact ok_X12_years_l28c   h2 hS hT
  · intro z1 z2
    show Ws 46 mi_X12_years Q 50 [some (vr 11 0), z1, z2] [] t28
    exact ok_X12_years_j50   hE hK
theorem ok_X12_years_j0 {Q : Option AV → AH → Prop}  {σ : SS}  {x1 : Int32} {o} {z2 : Option AV}   (hE : X12_years_j0  σ  x1 = some o) (hK : Q (some (vi o.1)) (hp o.2)) : Ws 46 mi_X12_years Q 0 [some (vr 11 0), some (vi x1), z2] [] σ := by
  unfold X12_years_j0 at hE
  refine Wp.aload_n dc_X12_years_0 rfl ?_
  refine Wp.iconst dc_X12_years_1 ic_0 ?_
  refine Wp.sputI dc_X12_years_2 fw_X12_77 (mO11 (by decide)) (Nr.i _) ?_
  obtain ⟨σ2, es_2, hE⟩ := bnS hE
  rw [es_2]
  refine Wp.aload_n dc_X12_years_5 rfl ?_
  refine Wp.iconst dc_X12_years_6 ic_0 ?_
  refine Wp.sputI dc_X12_years_7 fw_X12_80 (mO11 (by decide)) (Nr.i _) ?_
  obtain ⟨σ7, es_7, hE⟩ := bnS hE
  rw [es_7]
  refine Wp.aload_n dc_X12_years_10 rfl ?_
  refine Wp.iload_n dc_X12_years_11 rfl ?_
  refine Wp.sipush dc_X12_years_12 sp_300 ?_
  obtain ⟨p15, h15, hE⟩ := bnd hE
  refine Wp.cV2i (ok_X12_starts  h15) dc_X12_years_15 mw_X12_264 (mO11 (by decide)) (by decide) (Nat.le_of_ble_eq_true rfl) ?_
  refine Wp.if_ne (tgt := 23) dc_X12_years_18 (by decide) (fun hc18 => ?_) (fun hc18 => ?_)
  · rw [if_neg hc18] at hE
    refine Wp.aload_n dc_X12_years_23 rfl ?_
    refine Wp.iconst dc_X12_years_24 ic_0 ?_
    refine Wp.sputI dc_X12_years_25 fw_X12_291 (mO11 (by decide)) (Nr.i _) ?_
    obtain ⟨σ25, es_25, hE⟩ := bnS hE
    rw [es_25]
    exact ok_X12_years_l28   hE hK
  · rw [if_pos hc18] at hE
    refine Wp.iconst dc_X12_years_21 ic_m1 ?_
    cases hE
    exact Wp.ireturn dc_X12_years_22 rfl rfl (Nat.le_refl _) (Nat.le_refl _) hK
theorem ok_X12_years  {σ : SS}  {x1 : Int32} {o}   (hE : X12_years  σ  x1 = some o) : Runs 46 0 0 mi_X12_years [vr 11 0, vi x1] (hp σ) (fun v h => v = some (vi o.1) ∧ h = hp o.2) := by
  refine Runs.of pn_X12 (Nat.le_of_ble_eq_true rfl) ?_
  exact ok_X12_years_j0   hE ⟨rfl, rfl⟩
theorem ok_X12_isLeadAt_j0 {Q : Option AV → AH → Prop}  {σ : SS}  {x1 : Int32} {o}    (hE : X12_isLeadAt_j0  σ  x1 = some o) (hK : Q (some (vi o)) (hp σ)) : Ws 1 mi_X12_isLeadAt Q 0 [some (vr 11 0), some (vi x1)] [] σ := by
  unfold X12_isLeadAt_j0 at hE
  refine Wp.iload_n dc_X12_isLeadAt_0 rfl ?_
  refine Wp.i2l dc_X12_isLeadAt_1 ?_
  refine Wp.lconst dc_X12_isLeadAt_2 lc_0 ?_
  refine Wp.aload_n dc_X12_isLeadAt_3 rfl ?_
  refine Wp.sgetR (t := 34) dc_X12_isLeadAt_4 fw_X12_35 (mO11 (by decide)) rfl ?_
  refine Wp.iconst dc_X12_isLeadAt_7 ic_0 ?_
  obtain ⟨j8, h8, hE⟩ := bnd hE
  refine Wp.siald dc_X12_isLeadAt_8 (mO13 (by decide)) h8 ?_
  refine Wp.iconst dc_X12_isLeadAt_9 ic_1 ?_
  refine Wp.isub dc_X12_isLeadAt_10 ?_
  refine Wp.i2l dc_X12_isLeadAt_11 ?_
  obtain ⟨v12, h12, hE⟩ := bnd hE
  refine Wp.cS3i (ok_X12_isIn  h12) dc_X12_isLeadAt_12 mw_X12_112 (by decide) (Nat.le_of_ble_eq_true rfl) ?_
  obtain ⟨b15, h15, hE⟩ := bnd hE
  obtain ⟨e_15, hb15⟩ := zb_some h15
  skip
  cases hE
  exact Wp.ireturn dc_X12_isLeadAt_15 rfl hb15.1 (Nat.le_refl _) (Nat.le_refl _) hK
theorem ok_X12_isLeadAt  {σ : SS}  {x1 : Int32} {o}   (hE : X12_isLeadAt  σ  x1 = some o) : Runs 1 0 0 mi_X12_isLeadAt [vr 11 0, vi x1] (hp σ) (fun v h => v = some (vi o) ∧ h = hp σ) := by
  refine Runs.of pn_X12 (Nat.le_of_ble_eq_true rfl) ?_
  exact ok_X12_isLeadAt_j0   hE ⟨rfl, rfl⟩
theorem ok_X12_isInside_j0 {Q : Option AV → AH → Prop}  {σ : SS}  {x1 : Int32} {o}    (hE : X12_isInside_j0  σ  x1 = some o) (hK : Q (some (vi o)) (hp σ)) : Ws 1 mi_X12_isInside Q 0 [some (vr 11 0), some (vi x1)] [] σ := by
  unfold X12_isInside_j0 at hE
  refine Wp.aload_n dc_X12_isInside_0 rfl ?_
  refine Wp.sgetR (t := 34) dc_X12_isInside_1 fw_X12_35 (mO11 (by decide)) rfl ?_
  refine Wp.iconst dc_X12_isInside_4 ic_3 ?_
  obtain ⟨j5, h5, hE⟩ := bnd hE
  refine Wp.siald dc_X12_isInside_5 (mO13 (by decide)) h5 ?_
  refine Wp.iload_n dc_X12_isInside_6 rfl ?_
  obtain ⟨v7, h7, hE⟩ := bnd hE
  refine Wp.cS2i (ok_X12_has  h7) dc_X12_isInside_7 mw_X12_116 (by decide) (Nat.le_of_ble_eq_true rfl) ?_
  obtain ⟨b10, h10, hE⟩ := bnd hE
  obtain ⟨e_10, hb10⟩ := zb_some h10
  skip
  cases hE
  exact Wp.ireturn dc_X12_isInside_10 rfl hb10.1 (Nat.le_refl _) (Nat.le_refl _) hK
theorem ok_X12_isInside  {σ : SS}  {x1 : Int32} {o}   (hE : X12_isInside  σ  x1 = some o) : Runs 1 0 0 mi_X12_isInside [vr 11 0, vi x1] (hp σ) (fun v h => v = some (vi o) ∧ h = hp σ) := by
  refine Runs.of pn_X12 (Nat.le_of_ble_eq_true rfl) ?_
  exact ok_X12_isInside_j0   hE ⟨rfl, rfl⟩
theorem ok_X12_isOf_j26 {Q : Option AV → AH → Prop}  {σ : SS}   {o} {z0 z1 z2 : Option AV}   (hE : X12_isOf_j26  σ   = some o) (hK : Q (some (vi o)) (hp σ)) : Ws 0 mi_X12_isOf Q 26 [z0, z1, z2] [] σ := by
  unfold X12_isOf_j26 at hE
  refine Wp.iconst dc_X12_isOf_26 ic_1 ?_
  refine Wp.goto (tgt := 31) dc_X12_isOf_27 (by decide) ?_
  cases hE
  exact Wp.ireturn dc_X12_isOf_31 rfl Nr.z1.1 (Nat.le_refl _) (Nat.le_refl _) hK
theorem ok_X12_isOf_j0 {Q : Option AV → AH → Prop}  {σ : SS}  {x1 : Int32} {x2 : Int32} {o}    (hE : X12_isOf_j0  σ  x1 x2 = some o) (hK : Q (some (vi o)) (hp σ)) : Ws 0 mi_X12_isOf Q 0 [some (vr 11 0), some (vi x1), some (vi x2)] [] σ := by
  unfold X12_isOf_j0 at hE
  refine Wp.aload_n dc_X12_isOf_0 rfl ?_
  refine Wp.sgetR (t := 34) dc_X12_isOf_1 fw_X12_35 (mO11 (by decide)) rfl ?_
  refine Wp.bipush dc_X12_isOf_4 bp_60 ?_
  refine Wp.iload_n dc_X12_isOf_6 rfl ?_
  refine Wp.iadd dc_X12_isOf_7 ?_
  obtain ⟨j8, h8, hE⟩ := bnd hE
  refine Wp.siald dc_X12_isOf_8 (mO13 (by decide)) h8 ?_
  refine Wp.iload_n dc_X12_isOf_9 rfl ?_
  refine Wp.icmp_eq (tgt := 26) dc_X12_isOf_10 (by decide) (fun hc10 => ?_) (fun hc10 => ?_)
  · rw [if_pos hc10] at hE
    exact ok_X12_isOf_j26   hE hK
  · rw [if_neg hc10] at hE
    refine Wp.aload_n dc_X12_isOf_13 rfl ?_
    refine Wp.sgetR (t := 34) dc_X12_isOf_14 fw_X12_35 (mO11 (by decide)) rfl ?_
    refine Wp.bipush dc_X12_isOf_17 bp_84 ?_
    refine Wp.iload_n dc_X12_isOf_19 rfl ?_
    refine Wp.iadd dc_X12_isOf_20 ?_
    obtain ⟨j21, h21, hE⟩ := bnd hE
    refine Wp.siald dc_X12_isOf_21 (mO13 (by decide)) h21 ?_
    refine Wp.iload_n dc_X12_isOf_22 rfl ?_
    refine Wp.icmp_ne (tgt := 30) dc_X12_isOf_23 (by decide) (fun hc23 => ?_) (fun hc23 => ?_)
    · rw [if_neg hc23] at hE
      refine Wp.iconst dc_X12_isOf_30 ic_0 ?_
      cases hE
      exact Wp.ireturn dc_X12_isOf_31 rfl Nr.z0.1 (Nat.le_refl _) (Nat.le_refl _) hK
    · rw [if_pos hc23] at hE
      exact ok_X12_isOf_j26   hE hK
theorem ok_X12_isOf  {σ : SS}  {x1 : Int32} {x2 : Int32} {o}   (hE : X12_isOf  σ  x1 x2 = some o) : Runs 0 0 0 mi_X12_isOf [vr 11 0, vi x1, vi x2] (hp σ) (fun v h => v = some (vi o) ∧ h = hp σ) := by
  refine Runs.of pn_X12 (Nat.le_of_ble_eq_true rfl) ?_
  exact ok_X12_isOf_j0   hE ⟨rfl, rfl⟩
def X12_crossings_P4 (Q : Option AV → AH → Prop) (σ : SS)  (x1 : Int32) (ss : Int32 × Int32) : Prop := Ws 1 mi_X12_crossings Q 4 [some (vr 11 0), some (vi x1), some (vi ss.1), some (vi ss.2)] [] σ
def X12_crossings_R4 (Q : Option AV → AH → Prop) (σ : SS)  (x1 : Int32) (tt : Int32) : Prop := ∀ z0 z1 z3 : Option AV, Ws 1 mi_X12_crossings Q 37 [z0, z1, some (vi tt), z3] [] σ
theorem ok_X12_crossings_j29 {Q : Option AV → AH → Prop}  {σ : SS}  {x1 : Int32} {x3 : Int32} {s0 : Int32} {s1 : Int32} {o} {z2 : Option AV}   (hE : X12_crossings_j29  σ  x1 x3 s0 s1 = some o) (hS : ∀ ss, o = Sum.inl ss → (X12_crossings_P4  Q σ  x1) ss) (hT : ∀ tt, o = Sum.inr tt → (X12_crossings_R4  Q σ  x1) tt) : Ws 1 mi_X12_crossings Q 29 [some (vr 11 0), some (vi x1), z2, some (vi x3)] [vi s1, vi s0] σ := by
  unfold X12_crossings_j29 at hE
  refine Wp.iadd dc_X12_crossings_29 ?_
  obtain ⟨x2_30, e_30, hE⟩ := bnS hE
  rw [e_30]
  refine Wp.istore_n dc_X12_crossings_30 (by decide) ?_
  obtain ⟨x3_31, e_31, hE⟩ := bnS hE
  refine Wp.iinc dc_X12_crossings_31 rfl ((ii ic_1).trans e_31) (by decide) ?_
  refine Wp.goto (tgt := 4) dc_X12_crossings_34 (by decide) ?_
  cases hE
  exact hS _ rfl
theorem ok_X12_crossings_l4c {Q : Option AV → AH → Prop}  {σ : SS}  {x1 : Int32} {x2 : Int32} {x3 : Int32} {o}    (hE : X12_crossings_l4c  σ  x1 x2 x3 = some o) (hS : ∀ ss, o = Sum.inl ss → (X12_crossings_P4  Q σ  x1) ss) (hT : ∀ tt, o = Sum.inr tt → (X12_crossings_R4  Q σ  x1) tt) : Ws 1 mi_X12_crossings Q 4 [some (vr 11 0), some (vi x1), some (vi x2), some (vi x3)] [] σ := by
  unfold X12_crossings_l4c at hE
  refine Wp.iload_n dc_X12_crossings_4 rfl ?_
  refine Wp.aload_n dc_X12_crossings_5 rfl ?_
  refine Wp.sgetR (t := 34) dc_X12_crossings_6 fw_X12_35 (mO11 (by decide)) rfl ?_
  refine Wp.iconst dc_X12_crossings_9 ic_1 ?_
  obtain ⟨j10, h10, hE⟩ := bnd hE
  refine Wp.siald dc_X12_crossings_10 (mO13 (by decide)) h10 ?_
  refine Wp.icmp_ge (tgt := 37) dc_X12_crossings_11 (by decide) (fun hc11 => ?_) (fun hc11 => ?_)
  · rw [if_pos hc11] at hE
    cases hE
    exact hT _ rfl _ _ _
  · rw [if_neg hc11] at hE
    refine Wp.iload_n dc_X12_crossings_14 rfl ?_
    refine Wp.aload_n dc_X12_crossings_15 rfl ?_
    refine Wp.iload_n dc_X12_crossings_16 rfl ?_
    refine Wp.iload_n dc_X12_crossings_17 rfl ?_
    obtain ⟨v18, h18, hE⟩ := bnd hE
    refine Wp.cV2i (ok_X12_isOf  h18) dc_X12_crossings_18 mw_X12_300 (mO11 (by decide)) (by decide) (Nat.le_of_ble_eq_true rfl) ?_
    refine Wp.if_eq (tgt := 28) dc_X12_crossings_21 (by decide) (fun hc21 => ?_) (fun hc21 => ?_)
    · rw [if_pos hc21] at hE
      refine Wp.iconst dc_X12_crossings_28 ic_0 ?_
      exact ok_X12_crossings_j29   hE hS hT
    · rw [if_neg hc21] at hE
      refine Wp.iconst dc_X12_crossings_24 ic_1 ?_
      refine Wp.goto (tgt := 29) dc_X12_crossings_25 (by decide) ?_
      exact ok_X12_crossings_j29   hE hS hT
theorem ok_X12_crossings_l4 {Q : Option AV → AH → Prop}  {σ : SS}  {x1 : Int32} {x2 : Int32} {x3 : Int32} {o}    (hE : X12_crossings_l4  σ  x1 x2 x3 = some o) (hK : Q (some (vi o)) (hp σ)) : Ws 1 mi_X12_crossings Q 4 [some (vr 11 0), some (vi x1), some (vi x2), some (vi x3)] [] σ := by
  unfold X12_crossings_l4 at hE
  obtain ⟨t4, h1, hE⟩ := bnd hE
  refine iter_ok (P := (X12_crossings_P4  Q σ  x1)) (R := (X12_crossings_R4  Q σ  x1)) (fun ss o h2 hS hT => ?_) NF _ _ h1 ?_
  · skip
    exact ok_X12_crossings_l4c   h2 hS hT
  · intro z0 z1 z3
    show Ws 1 mi_X12_crossings Q 37 [z0, z1, some (vi t4), z3] [] σ
    refine Wp.iload_n dc_X12_crossings_37 rfl ?_
    cases hE
    exact Wp.ireturn dc_X12_crossings_38 rfl rfl (Nat.le_refl _) (Nat.le_refl _) hK
theorem ok_X12_crossings_j0 {Q : Option AV → AH → Prop}  {σ : SS}  {x1 : Int32} {o} {z2 z3 : Option AV}   (hE : X12_crossings_j0  σ  x1 = some o) (hK : Q (some (vi o)) (hp σ)) : Ws 1 mi_X12_crossings Q 0 [some (vr 11 0), some (vi x1), z2, z3] [] σ := by
  unfold X12_crossings_j0 at hE
  refine Wp.iconst dc_X12_crossings_0 ic_0 ?_
  refine Wp.istore_n dc_X12_crossings_1 (by decide) ?_
  refine Wp.iconst dc_X12_crossings_2 ic_0 ?_
  refine Wp.istore_n dc_X12_crossings_3 (by decide) ?_
  exact ok_X12_crossings_l4   hE hK
theorem ok_X12_crossings  {σ : SS}  {x1 : Int32} {o}   (hE : X12_crossings  σ  x1 = some o) : Runs 1 0 0 mi_X12_crossings [vr 11 0, vi x1] (hp σ) (fun v h => v = some (vi o) ∧ h = hp σ) := by
  refine Runs.of pn_X12 (Nat.le_of_ble_eq_true rfl) ?_
  exact ok_X12_crossings_j0   hE ⟨rfl, rfl⟩
theorem ok_X12_riskOf_j0 {Q : Option AV → AH → Prop}  {σ : SS}  {x1 : Int32} {o}    (hE : X12_riskOf_j0  σ  x1 = some o) (hK : Q (some (vi o)) (hp σ)) : Ws 1 mi_X12_riskOf Q 0 [some (vr 11 0), some (vi x1)] [] σ := by
  unfold X12_riskOf_j0 at hE
  refine Wp.iconst dc_X12_riskOf_0 ic_0 ?_
  refine Wp.bipush dc_X12_riskOf_1 bp_15 ?_
  refine Wp.aload_n dc_X12_riskOf_3 rfl ?_
  refine Wp.sgetR (t := 34) dc_X12_riskOf_4 fw_X12_35 (mO11 (by decide)) rfl ?_
  refine Wp.bipush dc_X12_riskOf_7 bp_8 ?_
  refine Wp.iload_n dc_X12_riskOf_9 rfl ?_
  refine Wp.iadd dc_X12_riskOf_10 ?_
  obtain ⟨j11, h11, hE⟩ := bnd hE
  refine Wp.siald dc_X12_riskOf_11 (mO13 (by decide)) h11 ?_
  refine Wp.iconst dc_X12_riskOf_12 ic_2 ?_
  refine Wp.idiv dc_X12_riskOf_13 (by decide) ?_
  refine Wp.aload_n dc_X12_riskOf_14 rfl ?_
  refine Wp.sgetR (t := 34) dc_X12_riskOf_15 fw_X12_35 (mO11 (by decide)) rfl ?_
  refine Wp.bipush dc_X12_riskOf_18 bp_16 ?_
  refine Wp.iload_n dc_X12_riskOf_20 rfl ?_
  refine Wp.iadd dc_X12_riskOf_21 ?_
  obtain ⟨j22, h22, hE⟩ := bnd hE
  refine Wp.siald dc_X12_riskOf_22 (mO13 (by decide)) h22 ?_
  refine Wp.isub dc_X12_riskOf_23 ?_
  refine Wp.mmin dc_X12_riskOf_24 lw_X12_303 ms_min mi_Math mk_min (by decide) (Nat.le_refl _) (Nat.le_refl _) (Nat.le_of_ble_eq_true rfl) ?_
  refine Wp.mmax dc_X12_riskOf_27 lw_X12_248 ms_max mi_Math mk_max (by decide) (Nat.le_refl _) (Nat.le_refl _) (Nat.le_of_ble_eq_true rfl) ?_
  cases hE
  exact Wp.ireturn dc_X12_riskOf_30 rfl rfl (Nat.le_refl _) (Nat.le_refl _) hK
theorem ok_X12_riskOf  {σ : SS}  {x1 : Int32} {o}   (hE : X12_riskOf  σ  x1 = some o) : Runs 1 0 0 mi_X12_riskOf [vr 11 0, vi x1] (hp σ) (fun v h => v = some (vi o) ∧ h = hp σ) := by
  refine Runs.of pn_X12 (Nat.le_of_ble_eq_true rfl) ?_
  exact ok_X12_riskOf_j0   hE ⟨rfl, rfl⟩
theorem ok_X12_many_j0 {Q : Option AV → AH → Prop}  {σ : SS}  {x1 : Int32} {o}    (hE : X12_many_j0  σ  x1 = some o) (hK : Q (some (vi o.1)) (hp o.2)) : Ws 1 mi_X12_many Q 0 [some (vr 11 0), some (vi x1)] [] σ := by
  unfold X12_many_j0 at hE
  refine Wp.aload_n dc_X12_many_0 rfl ?_
  refine Wp.iconst dc_X12_many_1 ic_0 ?_
  refine Wp.sputI dc_X12_many_2 fw_X12_77 (mO11 (by decide)) (Nr.i _) ?_
  obtain ⟨σ2, es_2, hE⟩ := bnS hE
  rw [es_2]
  refine Wp.aload_n dc_X12_many_5 rfl ?_
  refine Wp.iconst dc_X12_many_6 ic_0 ?_
  refine Wp.sputI dc_X12_many_7 fw_X12_80 (mO11 (by decide)) (Nr.i _) ?_
  obtain ⟨σ7, es_7, hE⟩ := bnS hE
  rw [es_7]
  refine Wp.iload_n dc_X12_many_10 rfl ?_
  refine Wp.i2l dc_X12_many_11 ?_
  refine Wp.lconst dc_X12_many_12 lc_0 ?_
  refine Wp.ldc2 dc_X12_many_13 kw_X12_306 ?_
  obtain ⟨v16, h16, hE⟩ := bnd hE
  refine Wp.cS3i (ok_X12_isIn  h16) dc_X12_many_16 mw_X12_112 (by decide) (Nat.le_of_ble_eq_true rfl) ?_
  refine Wp.if_eq (tgt := 31) dc_X12_many_19 (by decide) (fun hc19 => ?_) (fun hc19 => ?_)
  · rw [if_pos hc19] at hE
    refine Wp.aload_n dc_X12_many_31 rfl ?_
    refine Wp.iconst dc_X12_many_32 ic_5 ?_
    obtain ⟨p33, h33, hE⟩ := bnd hE
    refine Wp.cV1i (ok_X12_refuse  h33) dc_X12_many_33 mw_X12_308 (mO11 (by decide)) (by decide) (Nat.le_of_ble_eq_true rfl) ?_
    cases hE
    exact Wp.ireturn dc_X12_many_36 rfl rfl (Nat.le_refl _) (Nat.le_refl _) hK
  · rw [if_neg hc19] at hE
    refine Wp.aload_n dc_X12_many_22 rfl ?_
    refine Wp.sgetR (t := 34) dc_X12_many_23 fw_X12_35 (mO11 (by decide)) rfl ?_
    refine Wp.iload_n dc_X12_many_26 rfl ?_
    obtain ⟨j27, h27, hE⟩ := bnd hE
    refine Wp.siald dc_X12_many_27 (mO13 (by decide)) h27 ?_
    refine Wp.goto (tgt := 36) dc_X12_many_28 (by decide) ?_
    cases hE
    exact Wp.ireturn dc_X12_many_36 rfl rfl (Nat.le_refl _) (Nat.le_refl _) hK
theorem ok_X12_many  {σ : SS}  {x1 : Int32} {o}   (hE : X12_many  σ  x1 = some o) : Runs 1 0 0 mi_X12_many [vr 11 0, vi x1] (hp σ) (fun v h => v = some (vi o.1) ∧ h = hp o.2) := by
  refine Runs.of pn_X12 (Nat.le_of_ble_eq_true rfl) ?_
  exact ok_X12_many_j0   hE ⟨rfl, rfl⟩
theorem ok_X12_lead_j0 {Q : Option AV → AH → Prop}  {σ : SS}  {x1 : Int32} {x2 : Int32} {o}    (hE : X12_lead_j0  σ  x1 x2 = some o) (hK : Q (some (vi o.1)) (hp o.2)) : Ws 2 mi_X12_lead Q 0 [some (vr 11 0), some (vi x1), some (vi x2)] [] σ := by
  unfold X12_lead_j0 at hE
  refine Wp.aload_n dc_X12_lead_0 rfl ?_
  refine Wp.iconst dc_X12_lead_1 ic_0 ?_
  refine Wp.sputI dc_X12_lead_2 fw_X12_77 (mO11 (by decide)) (Nr.i _) ?_
  obtain ⟨σ2, es_2, hE⟩ := bnS hE
  rw [es_2]
  refine Wp.aload_n dc_X12_lead_5 rfl ?_
  refine Wp.iconst dc_X12_lead_6 ic_0 ?_
  refine Wp.sputI dc_X12_lead_7 fw_X12_80 (mO11 (by decide)) (Nr.i _) ?_
  obtain ⟨σ7, es_7, hE⟩ := bnS hE
  rw [es_7]
  refine Wp.aload_n dc_X12_lead_10 rfl ?_
  refine Wp.iload_n dc_X12_lead_11 rfl ?_
  obtain ⟨v12, h12, hE⟩ := bnd hE
  refine Wp.cV1i (ok_X12_isLeadAt  h12) dc_X12_lead_12 mw_X12_311 (mO11 (by decide)) (by decide) (Nat.le_of_ble_eq_true rfl) ?_
  refine Wp.if_ne (tgt := 24) dc_X12_lead_15 (by decide) (fun hc15 => ?_) (fun hc15 => ?_)
  · rw [if_neg hc15] at hE
    refine Wp.iload_n dc_X12_lead_24 rfl ?_
    refine Wp.i2l dc_X12_lead_25 ?_
    refine Wp.lconst dc_X12_lead_26 lc_0 ?_
    refine Wp.ldc2 dc_X12_lead_27 kw_X12_306 ?_
    obtain ⟨v30, h30, hE⟩ := bnd hE
    refine Wp.cS3i (ok_X12_isIn  h30) dc_X12_lead_30 mw_X12_112 (by decide) (Nat.le_of_ble_eq_true rfl) ?_
    refine Wp.if_ne (tgt := 42) dc_X12_lead_33 (by decide) (fun hc33 => ?_) (fun hc33 => ?_)
    · rw [if_neg hc33] at hE
      refine Wp.iload_n dc_X12_lead_42 rfl ?_
      refine Wp.bipush dc_X12_lead_43 bp_6 ?_
      refine Wp.icmp_ne (tgt := 56) dc_X12_lead_45 (by decide) (fun hc45 => ?_) (fun hc45 => ?_)
      · rw [if_neg hc45] at hE
        refine Wp.iload_n dc_X12_lead_56 rfl ?_
        refine Wp.bipush dc_X12_lead_57 bp_7 ?_
        refine Wp.icmp_ne (tgt := 70) dc_X12_lead_59 (by decide) (fun hc59 => ?_) (fun hc59 => ?_)
        · rw [if_neg hc59] at hE
          refine Wp.aload_n dc_X12_lead_70 rfl ?_
          refine Wp.sgetR (t := 34) dc_X12_lead_71 fw_X12_35 (mO11 (by decide)) rfl ?_
          refine Wp.bipush dc_X12_lead_74 bp_8 ?_
          refine Wp.bipush dc_X12_lead_76 bp_8 ?_
          refine Wp.iload_n dc_X12_lead_78 rfl ?_
          refine Wp.imul dc_X12_lead_79 ?_
          refine Wp.iadd dc_X12_lead_80 ?_
          refine Wp.iload_n dc_X12_lead_81 rfl ?_
          refine Wp.iadd dc_X12_lead_82 ?_
          obtain ⟨j83, h83, hE⟩ := bnd hE
          refine Wp.siald dc_X12_lead_83 (mO13 (by decide)) h83 ?_
          cases hE
          exact Wp.ireturn dc_X12_lead_84 rfl rfl (Nat.le_refl _) (Nat.le_refl _) hK
        · rw [if_pos hc59] at hE
          refine Wp.aload_n dc_X12_lead_62 rfl ?_
          refine Wp.iload_n dc_X12_lead_63 rfl ?_
          obtain ⟨v64, h64, hE⟩ := bnd hE
          refine Wp.cV1i (ok_X12_riskOf  h64) dc_X12_lead_64 mw_X12_317 (mO11 (by decide)) (by decide) (Nat.le_of_ble_eq_true rfl) ?_
          refine Wp.goto (tgt := 84) dc_X12_lead_67 (by decide) ?_
          cases hE
          exact Wp.ireturn dc_X12_lead_84 rfl rfl (Nat.le_refl _) (Nat.le_refl _) hK
      · rw [if_pos hc45] at hE
        refine Wp.aload_n dc_X12_lead_48 rfl ?_
        refine Wp.iload_n dc_X12_lead_49 rfl ?_
        obtain ⟨v50, h50, hE⟩ := bnd hE
        refine Wp.cV1i (ok_X12_crossings  h50) dc_X12_lead_50 mw_X12_314 (mO11 (by decide)) (by decide) (Nat.le_of_ble_eq_true rfl) ?_
        refine Wp.goto (tgt := 84) dc_X12_lead_53 (by decide) ?_
        cases hE
        exact Wp.ireturn dc_X12_lead_84 rfl rfl (Nat.le_refl _) (Nat.le_refl _) hK
    · rw [if_pos hc33] at hE
      refine Wp.aload_n dc_X12_lead_36 rfl ?_
      refine Wp.iconst dc_X12_lead_37 ic_5 ?_
      obtain ⟨p38, h38, hE⟩ := bnd hE
      refine Wp.cV1i (ok_X12_refuse  h38) dc_X12_lead_38 mw_X12_308 (mO11 (by decide)) (by decide) (Nat.le_of_ble_eq_true rfl) ?_
      cases hE
      exact Wp.ireturn dc_X12_lead_41 rfl rfl (Nat.le_refl _) (Nat.le_refl _) hK
  · rw [if_pos hc15] at hE
    refine Wp.aload_n dc_X12_lead_18 rfl ?_
    refine Wp.iconst dc_X12_lead_19 ic_2 ?_
    obtain ⟨p20, h20, hE⟩ := bnd hE
    refine Wp.cV1i (ok_X12_refuse  h20) dc_X12_lead_20 mw_X12_308 (mO11 (by decide)) (by decide) (Nat.le_of_ble_eq_true rfl) ?_
    cases hE
    exact Wp.ireturn dc_X12_lead_23 rfl rfl (Nat.le_refl _) (Nat.le_refl _) hK
theorem ok_X12_lead  {σ : SS}  {x1 : Int32} {x2 : Int32} {o}   (hE : X12_lead  σ  x1 x2 = some o) : Runs 2 0 0 mi_X12_lead [vr 11 0, vi x1, vi x2] (hp σ) (fun v h => v = some (vi o.1) ∧ h = hp o.2) := by
  refine Runs.of pn_X12 (Nat.le_of_ble_eq_true rfl) ?_
  exact ok_X12_lead_j0   hE ⟨rfl, rfl⟩
theorem ok_X12_crossing_j0 {Q : Option AV → AH → Prop}  {σ : SS}  {x1 : Int32} {x2 : Int32} {o}    (hE : X12_crossing_j0  σ  x1 x2 = some o) (hK : Q (some (vi o.1)) (hp o.2)) : Ws 1 mi_X12_crossing Q 0 [some (vr 11 0), some (vi x1), some (vi x2)] [] σ := by
  unfold X12_crossing_j0 at hE
  refine Wp.aload_n dc_X12_crossing_0 rfl ?_
  refine Wp.iconst dc_X12_crossing_1 ic_0 ?_
  refine Wp.sputI dc_X12_crossing_2 fw_X12_77 (mO11 (by decide)) (Nr.i _) ?_
  obtain ⟨σ2, es_2, hE⟩ := bnS hE
  rw [es_2]
  refine Wp.aload_n dc_X12_crossing_5 rfl ?_
  refine Wp.iconst dc_X12_crossing_6 ic_0 ?_
  refine Wp.sputI dc_X12_crossing_7 fw_X12_80 (mO11 (by decide)) (Nr.i _) ?_
  obtain ⟨σ7, es_7, hE⟩ := bnS hE
  rw [es_7]
  refine Wp.iload_n dc_X12_crossing_10 rfl ?_
  refine Wp.i2l dc_X12_crossing_11 ?_
  refine Wp.lconst dc_X12_crossing_12 lc_0 ?_
  refine Wp.ldc2 dc_X12_crossing_13 kw_X12_320 ?_
  obtain ⟨v16, h16, hE⟩ := bnd hE
  refine Wp.cS3i (ok_X12_isIn  h16) dc_X12_crossing_16 mw_X12_112 (by decide) (Nat.le_of_ble_eq_true rfl) ?_
  refine Wp.if_ne (tgt := 28) dc_X12_crossing_19 (by decide) (fun hc19 => ?_) (fun hc19 => ?_)
  · rw [if_neg hc19] at hE
    refine Wp.iload_n dc_X12_crossing_28 rfl ?_
    refine Wp.i2l dc_X12_crossing_29 ?_
    refine Wp.lconst dc_X12_crossing_30 lc_0 ?_
    refine Wp.aload_n dc_X12_crossing_31 rfl ?_
    refine Wp.sgetR (t := 34) dc_X12_crossing_32 fw_X12_35 (mO11 (by decide)) rfl ?_
    refine Wp.iconst dc_X12_crossing_35 ic_1 ?_
    obtain ⟨j36, h36, hE⟩ := bnd hE
    refine Wp.siald dc_X12_crossing_36 (mO13 (by decide)) h36 ?_
    refine Wp.iconst dc_X12_crossing_37 ic_1 ?_
    refine Wp.isub dc_X12_crossing_38 ?_
    refine Wp.i2l dc_X12_crossing_39 ?_
    obtain ⟨v40, h40, hE⟩ := bnd hE
    refine Wp.cS3i (ok_X12_isIn  h40) dc_X12_crossing_40 mw_X12_112 (by decide) (Nat.le_of_ble_eq_true rfl) ?_
    refine Wp.if_eq (tgt := 63) dc_X12_crossing_43 (by decide) (fun hc43 => ?_) (fun hc43 => ?_)
    · rw [if_pos hc43] at hE
      refine Wp.aload_n dc_X12_crossing_63 rfl ?_
      refine Wp.bipush dc_X12_crossing_64 bp_8 ?_
      obtain ⟨p66, h66, hE⟩ := bnd hE
      refine Wp.cV1i (ok_X12_refuse  h66) dc_X12_crossing_66 mw_X12_308 (mO11 (by decide)) (by decide) (Nat.le_of_ble_eq_true rfl) ?_
      cases hE
      exact Wp.ireturn dc_X12_crossing_69 rfl rfl (Nat.le_refl _) (Nat.le_refl _) hK
    · rw [if_neg hc43] at hE
      refine Wp.aload_n dc_X12_crossing_46 rfl ?_
      refine Wp.sgetR (t := 34) dc_X12_crossing_47 fw_X12_35 (mO11 (by decide)) rfl ?_
      refine Wp.bipush dc_X12_crossing_50 bp_60 ?_
      refine Wp.bipush dc_X12_crossing_52 bp_24 ?_
      refine Wp.iload_n dc_X12_crossing_54 rfl ?_
      refine Wp.imul dc_X12_crossing_55 ?_
      refine Wp.iadd dc_X12_crossing_56 ?_
      refine Wp.iload_n dc_X12_crossing_57 rfl ?_
      refine Wp.iadd dc_X12_crossing_58 ?_
      obtain ⟨j59, h59, hE⟩ := bnd hE
      refine Wp.siald dc_X12_crossing_59 (mO13 (by decide)) h59 ?_
      refine Wp.goto (tgt := 69) dc_X12_crossing_60 (by decide) ?_
      cases hE
      exact Wp.ireturn dc_X12_crossing_69 rfl rfl (Nat.le_refl _) (Nat.le_refl _) hK
  · rw [if_pos hc19] at hE
    refine Wp.aload_n dc_X12_crossing_22 rfl ?_
    refine Wp.iconst dc_X12_crossing_23 ic_5 ?_
    obtain ⟨p24, h24, hE⟩ := bnd hE
    refine Wp.cV1i (ok_X12_refuse  h24) dc_X12_crossing_24 mw_X12_308 (mO11 (by decide)) (by decide) (Nat.le_of_ble_eq_true rfl) ?_
    cases hE
    exact Wp.ireturn dc_X12_crossing_27 rfl rfl (Nat.le_refl _) (Nat.le_refl _) hK
theorem ok_X12_crossing  {σ : SS}  {x1 : Int32} {x2 : Int32} {o}   (hE : X12_crossing  σ  x1 x2 = some o) : Runs 1 0 0 mi_X12_crossing [vr 11 0, vi x1, vi x2] (hp σ) (fun v h => v = some (vi o.1) ∧ h = hp o.2) := by
  refine Runs.of pn_X12 (Nat.le_of_ble_eq_true rfl) ?_
  exact ok_X12_crossing_j0   hE ⟨rfl, rfl⟩
def X12_along_P29 (Q : Option AV → AH → Prop) (σ : SS)  (x1 : Int32) (x2 : Int32) (ss : Int32 × Int32) : Prop := Ws 2 mi_X12_along Q 29 [some (vr 11 0), some (vi x1), some (vi x2), some (vi ss.1), some (vi ss.2)] [] σ
def X12_along_R29 (Q : Option AV → AH → Prop) (σ : SS)  (x1 : Int32) (x2 : Int32) (tt : (Int32) ⊕ (Unit)) : Prop := match tt with
  | Sum.inl tt => ∀ z0 z1 z2 z3 : Option AV, Ws 2 mi_X12_along Q 61 [z0, z1, z2, z3, some (vi tt)] [] σ
  | Sum.inr tt => ∀ z1 z2 z3 z4 : Option AV, Ws 2 mi_X12_along Q 73 [some (vr 11 0), z1, z2, z3, z4] [] σ
theorem ok_X12_along_j67 {Q : Option AV → AH → Prop}  {σ : SS}  {x1 : Int32} {x2 : Int32} {x3 : Int32} {x4 : Int32} {o}    (hE : X12_along_j67  σ  x1 x2 x3 x4 = some o) (hS : ∀ ss, o = Sum.inl ss → (X12_along_P29  Q σ  x1 x2) ss) (hT : ∀ tt, o = Sum.inr tt → (X12_along_R29  Q σ  x1 x2) tt) : Ws 2 mi_X12_along Q 67 [some (vr 11 0), some (vi x1), some (vi x2), some (vi x3), some (vi x4)] [] σ := by
  unfold X12_along_j67 at hE
  obtain ⟨x4_67, e_67, hE⟩ := bnS hE
  refine Wp.iinc dc_X12_along_67 rfl ((ii ic_1).trans e_67) (by decide) ?_
  refine Wp.goto (tgt := 29) dc_X12_along_70 (by decide) ?_
  cases hE
  exact hS _ rfl
theorem ok_X12_along_l29c {Q : Option AV → AH → Prop}  {σ : SS}  {x1 : Int32} {x2 : Int32} {x3 : Int32} {x4 : Int32} {o}    (hE : X12_along_l29c  σ  x1 x2 x3 x4 = some o) (hS : ∀ ss, o = Sum.inl ss → (X12_along_P29  Q σ  x1 x2) ss) (hT : ∀ tt, o = Sum.inr tt → (X12_along_R29  Q σ  x1 x2) tt) : Ws 2 mi_X12_along Q 29 [some (vr 11 0), some (vi x1), some (vi x2), some (vi x3), some (vi x4)] [] σ := by
  unfold X12_along_l29c at hE
  refine Wp.iload dc_X12_along_29 rfl ?_
  refine Wp.aload_n dc_X12_along_31 rfl ?_
  refine Wp.sgetR (t := 34) dc_X12_along_32 fw_X12_35 (mO11 (by decide)) rfl ?_
  refine Wp.iconst dc_X12_along_35 ic_1 ?_
  obtain ⟨j36, h36, hE⟩ := bnd hE
  refine Wp.siald dc_X12_along_36 (mO13 (by decide)) h36 ?_
  refine Wp.icmp_ge (tgt := 73) dc_X12_along_37 (by decide) (fun hc37 => ?_) (fun hc37 => ?_)
  · rw [if_pos hc37] at hE
    cases hE
    exact hT _ rfl _ _ _ _
  · rw [if_neg hc37] at hE
    refine Wp.iload_n dc_X12_along_40 rfl ?_
    refine Wp.if_lt (tgt := 73) dc_X12_along_41 (by decide) (fun hc41 => ?_) (fun hc41 => ?_)
    · rw [if_pos hc41] at hE
      cases hE
      exact hT _ rfl _ _ _ _
    · rw [if_neg hc41] at hE
      refine Wp.aload_n dc_X12_along_44 rfl ?_
      refine Wp.iload dc_X12_along_45 rfl ?_
      refine Wp.iload_n dc_X12_along_47 rfl ?_
      obtain ⟨v48, h48, hE⟩ := bnd hE
      refine Wp.cV2i (ok_X12_isOf  h48) dc_X12_along_48 mw_X12_300 (mO11 (by decide)) (by decide) (Nat.le_of_ble_eq_true rfl) ?_
      refine Wp.if_ne (tgt := 57) dc_X12_along_51 (by decide) (fun hc51 => ?_) (fun hc51 => ?_)
      · rw [if_neg hc51] at hE
        refine Wp.iload_n dc_X12_along_57 rfl ?_
        refine Wp.if_ne (tgt := 64) dc_X12_along_58 (by decide) (fun hc58 => ?_) (fun hc58 => ?_)
        · rw [if_neg hc58] at hE
          obtain ⟨x3_64, e_64, hE⟩ := bnS hE
          refine Wp.iinc dc_X12_along_64 rfl ((ii ic_m1).trans e_64) (by decide) ?_
          exact ok_X12_along_j67   hE hS hT
        · rw [if_pos hc58] at hE
          cases hE
          exact hT _ rfl _ _ _ _
      · rw [if_pos hc51] at hE
        refine Wp.goto (tgt := 67) dc_X12_along_54 (by decide) ?_
        exact ok_X12_along_j67   hE hS hT
theorem ok_X12_along_j73 {Q : Option AV → AH → Prop}  {σ : SS}   {o} {z1 z2 z3 z4 : Option AV}   (hE : X12_along_j73  σ   = some o) (hK : Q (some (vi o.1)) (hp o.2)) : Ws 2 mi_X12_along Q 73 [some (vr 11 0), z1, z2, z3, z4] [] σ := by
  unfold X12_along_j73 at hE
  refine Wp.aload_n dc_X12_along_73 rfl ?_
  refine Wp.bipush dc_X12_along_74 bp_8 ?_
  obtain ⟨p76, h76, hE⟩ := bnd hE
  refine Wp.cV1i (ok_X12_refuse  h76) dc_X12_along_76 mw_X12_308 (mO11 (by decide)) (by decide) (Nat.le_of_ble_eq_true rfl) ?_
  cases hE
  exact Wp.ireturn dc_X12_along_79 rfl rfl (Nat.le_refl _) (Nat.le_refl _) hK
theorem ok_X12_along_l29 {Q : Option AV → AH → Prop}  {σ : SS}  {x1 : Int32} {x2 : Int32} {x3 : Int32} {x4 : Int32} {o}    (hE : X12_along_l29  σ  x1 x2 x3 x4 = some o) (hK : Q (some (vi o.1)) (hp o.2)) : Ws 2 mi_X12_along Q 29 [some (vr 11 0), some (vi x1), some (vi x2), some (vi x3), some (vi x4)] [] σ := by
  unfold X12_along_l29 at hE
  obtain ⟨t29, h1, hE⟩ := bnd hE
  refine iter_ok (P := (X12_along_P29  Q σ  x1 x2)) (R := (X12_along_R29  Q σ  x1 x2)) (fun ss o h2 hS hT => ?_) NF _ _ h1 ?_
  · skip
    exact ok_X12_along_l29c   h2 hS hT
  · rcases t29 with e61 | u61
    · dsimp only at hE
      intro z0 z1 z2 z3
      show Ws 2 mi_X12_along Q 61 [z0, z1, z2, z3, some (vi e61)] [] σ
      refine Wp.iload dc_X12_along_61 rfl ?_
      cases hE
      exact Wp.ireturn dc_X12_along_63 rfl rfl (Nat.le_refl _) (Nat.le_refl _) hK
    · dsimp only at hE
      skip
      intro z1 z2 z3 z4
      show Ws 2 mi_X12_along Q 73 [some (vr 11 0), z1, z2, z3, z4] [] σ
      exact ok_X12_along_j73   hE hK
theorem ok_X12_along_j0 {Q : Option AV → AH → Prop}  {σ : SS}  {x1 : Int32} {x2 : Int32} {o} {z3 z4 : Option AV}   (hE : X12_along_j0  σ  x1 x2 = some o) (hK : Q (some (vi o.1)) (hp o.2)) : Ws 2 mi_X12_along Q 0 [some (vr 11 0), some (vi x1), some (vi x2), z3, z4] [] σ := by
  unfold X12_along_j0 at hE
  refine Wp.aload_n dc_X12_along_0 rfl ?_
  refine Wp.iconst dc_X12_along_1 ic_0 ?_
  refine Wp.sputI dc_X12_along_2 fw_X12_77 (mO11 (by decide)) (Nr.i _) ?_
  obtain ⟨σ2, es_2, hE⟩ := bnS hE
  rw [es_2]
  refine Wp.aload_n dc_X12_along_5 rfl ?_
  refine Wp.iconst dc_X12_along_6 ic_0 ?_
  refine Wp.sputI dc_X12_along_7 fw_X12_80 (mO11 (by decide)) (Nr.i _) ?_
  obtain ⟨σ7, es_7, hE⟩ := bnS hE
  rw [es_7]
  refine Wp.aload_n dc_X12_along_10 rfl ?_
  refine Wp.iload_n dc_X12_along_11 rfl ?_
  obtain ⟨v12, h12, hE⟩ := bnd hE
  refine Wp.cV1i (ok_X12_isLeadAt  h12) dc_X12_along_12 mw_X12_311 (mO11 (by decide)) (by decide) (Nat.le_of_ble_eq_true rfl) ?_
  refine Wp.if_ne (tgt := 24) dc_X12_along_15 (by decide) (fun hc15 => ?_) (fun hc15 => ?_)
  · rw [if_neg hc15] at hE
    refine Wp.iload_n dc_X12_along_24 rfl ?_
    refine Wp.istore_n dc_X12_along_25 (by decide) ?_
    refine Wp.iconst dc_X12_along_26 ic_0 ?_
    refine Wp.istore dc_X12_along_27 (by decide) ?_
    exact ok_X12_along_l29   hE hK
  · rw [if_pos hc15] at hE
    refine Wp.aload_n dc_X12_along_18 rfl ?_
    refine Wp.iconst dc_X12_along_19 ic_2 ?_
    obtain ⟨p20, h20, hE⟩ := bnd hE
    refine Wp.cV1i (ok_X12_refuse  h20) dc_X12_along_20 mw_X12_308 (mO11 (by decide)) (by decide) (Nat.le_of_ble_eq_true rfl) ?_
    cases hE
    exact Wp.ireturn dc_X12_along_23 rfl rfl (Nat.le_refl _) (Nat.le_refl _) hK
theorem ok_X12_along  {σ : SS}  {x1 : Int32} {x2 : Int32} {o}   (hE : X12_along  σ  x1 x2 = some o) : Runs 2 0 0 mi_X12_along [vr 11 0, vi x1, vi x2] (hp σ) (fun v h => v = some (vi o.1) ∧ h = hp o.2) := by
  refine Runs.of pn_X12 (Nat.le_of_ble_eq_true rfl) ?_
  exact ok_X12_along_j0   hE ⟨rfl, rfl⟩
theorem ok_X12_look_j0 {Q : Option AV → AH → Prop}  {σ : SS}  {x1 : Int32} {o}    (hE : X12_look_j0  σ  x1 = some o) (hK : Q (some (vi o.1)) (hp o.2)) : Ws 1 mi_X12_look Q 0 [some (vr 11 0), some (vi x1)] [] σ := by
  unfold X12_look_j0 at hE
  refine Wp.aload_n dc_X12_look_0 rfl ?_
  refine Wp.iconst dc_X12_look_1 ic_0 ?_
  refine Wp.sputI dc_X12_look_2 fw_X12_77 (mO11 (by decide)) (Nr.i _) ?_
  obtain ⟨σ2, es_2, hE⟩ := bnS hE
  rw [es_2]
  refine Wp.aload_n dc_X12_look_5 rfl ?_
  refine Wp.iconst dc_X12_look_6 ic_0 ?_
  refine Wp.sputI dc_X12_look_7 fw_X12_80 (mO11 (by decide)) (Nr.i _) ?_
  obtain ⟨σ7, es_7, hE⟩ := bnS hE
  rw [es_7]
  refine Wp.iload_n dc_X12_look_10 rfl ?_
  refine Wp.i2l dc_X12_look_11 ?_
  refine Wp.lconst dc_X12_look_12 lc_0 ?_
  refine Wp.aload_n dc_X12_look_13 rfl ?_
  refine Wp.sgetR (t := 34) dc_X12_look_14 fw_X12_35 (mO11 (by decide)) rfl ?_
  refine Wp.iconst dc_X12_look_17 ic_2 ?_
  obtain ⟨j18, h18, hE⟩ := bnd hE
  refine Wp.siald dc_X12_look_18 (mO13 (by decide)) h18 ?_
  refine Wp.iconst dc_X12_look_19 ic_1 ?_
  refine Wp.isub dc_X12_look_20 ?_
  refine Wp.i2l dc_X12_look_21 ?_
  obtain ⟨v22, h22, hE⟩ := bnd hE
  refine Wp.cS3i (ok_X12_isIn  h22) dc_X12_look_22 mw_X12_112 (by decide) (Nat.le_of_ble_eq_true rfl) ?_
  refine Wp.if_eq (tgt := 40) dc_X12_look_25 (by decide) (fun hc25 => ?_) (fun hc25 => ?_)
  · rw [if_pos hc25] at hE
    refine Wp.aload_n dc_X12_look_40 rfl ?_
    refine Wp.iconst dc_X12_look_41 ic_2 ?_
    obtain ⟨p42, h42, hE⟩ := bnd hE
    refine Wp.cV1i (ok_X12_refuse  h42) dc_X12_look_42 mw_X12_308 (mO11 (by decide)) (by decide) (Nat.le_of_ble_eq_true rfl) ?_
    cases hE
    exact Wp.ireturn dc_X12_look_45 rfl rfl (Nat.le_refl _) (Nat.le_refl _) hK
  · rw [if_neg hc25] at hE
    refine Wp.aload_n dc_X12_look_28 rfl ?_
    refine Wp.sgetR (t := 34) dc_X12_look_29 fw_X12_35 (mO11 (by decide)) rfl ?_
    refine Wp.bipush dc_X12_look_32 bp_56 ?_
    refine Wp.iload_n dc_X12_look_34 rfl ?_
    refine Wp.iadd dc_X12_look_35 ?_
    obtain ⟨j36, h36, hE⟩ := bnd hE
    refine Wp.siald dc_X12_look_36 (mO13 (by decide)) h36 ?_
    refine Wp.goto (tgt := 45) dc_X12_look_37 (by decide) ?_
    cases hE
    exact Wp.ireturn dc_X12_look_45 rfl rfl (Nat.le_refl _) (Nat.le_refl _) hK
theorem ok_X12_look  {σ : SS}  {x1 : Int32} {o}   (hE : X12_look  σ  x1 = some o) : Runs 1 0 0 mi_X12_look [vr 11 0, vi x1] (hp σ) (fun v h => v = some (vi o.1) ∧ h = hp o.2) := by
  refine Runs.of pn_X12 (Nat.le_of_ble_eq_true rfl) ?_
  exact ok_X12_look_j0   hE ⟨rfl, rfl⟩
theorem ok_X12_between_j26 {Q : Option AV → AH → Prop}  {σ : SS}   {o} {z1 z2 z3 z4 : Option AV}   (hE : X12_between_j26  σ   = some o) (hK : Q (some (vi o.1)) (hp o.2)) : Ws 2 mi_X12_between Q 26 [some (vr 11 0), z1, z2, z3, z4] [] σ := by
  unfold X12_between_j26 at hE
  refine Wp.aload_n dc_X12_between_26 rfl ?_
  refine Wp.iconst dc_X12_between_27 ic_2 ?_
  obtain ⟨p28, h28, hE⟩ := bnd hE
  refine Wp.cV1i (ok_X12_refuse  h28) dc_X12_between_28 mw_X12_308 (mO11 (by decide)) (by decide) (Nat.le_of_ble_eq_true rfl) ?_
  cases hE
  exact Wp.ireturn dc_X12_between_31 rfl rfl (Nat.le_refl _) (Nat.le_refl _) hK
def X12_between_P48 (Q : Option AV → AH → Prop) (σ : SS)  (x1 : Int32) (x2 : Int32) (ss : Int32 × Int32) : Prop := Ws 2 mi_X12_between Q 48 [some (vr 11 0), some (vi x1), some (vi x2), some (vi ss.1), some (vi ss.2)] [] σ
def X12_between_R48 (Q : Option AV → AH → Prop) (σ : SS)  (x1 : Int32) (x2 : Int32) (tt : Int32) : Prop := ∀ z0 z1 z2 z4 : Option AV, Ws 2 mi_X12_between Q 93 [z0, z1, z2, some (vi tt), z4] [] σ
theorem ok_X12_between_j85 {Q : Option AV → AH → Prop}  {σ : SS}  {x1 : Int32} {x2 : Int32} {x4 : Int32} {s0 : Int32} {s1 : Int32} {o} {z3 : Option AV}   (hE : X12_between_j85  σ  x1 x2 x4 s0 s1 = some o) (hS : ∀ ss, o = Sum.inl ss → (X12_between_P48  Q σ  x1 x2) ss) (hT : ∀ tt, o = Sum.inr tt → (X12_between_R48  Q σ  x1 x2) tt) : Ws 2 mi_X12_between Q 85 [some (vr 11 0), some (vi x1), some (vi x2), z3, some (vi x4)] [vi s1, vi s0] σ := by
  unfold X12_between_j85 at hE
  refine Wp.iadd dc_X12_between_85 ?_
  obtain ⟨x3_86, e_86, hE⟩ := bnS hE
  rw [e_86]
  refine Wp.istore_n dc_X12_between_86 (by decide) ?_
  obtain ⟨x4_87, e_87, hE⟩ := bnS hE
  refine Wp.iinc dc_X12_between_87 rfl ((ii ic_1).trans e_87) (by decide) ?_
  refine Wp.goto (tgt := 48) dc_X12_between_90 (by decide) ?_
  cases hE
  exact hS _ rfl
theorem ok_X12_between_j84 {Q : Option AV → AH → Prop}  {σ : SS}  {x1 : Int32} {x2 : Int32} {x4 : Int32} {s0 : Int32} {o} {z3 : Option AV}   (hE : X12_between_j84  σ  x1 x2 x4 s0 = some o) (hS : ∀ ss, o = Sum.inl ss → (X12_between_P48  Q σ  x1 x2) ss) (hT : ∀ tt, o = Sum.inr tt → (X12_between_R48  Q σ  x1 x2) tt) : Ws 2 mi_X12_between Q 84 [some (vr 11 0), some (vi x1), some (vi x2), z3, some (vi x4)] [vi s0] σ := by
  unfold X12_between_j84 at hE
  refine Wp.iconst dc_X12_between_84 ic_0 ?_
  exact ok_X12_between_j85   hE hS hT
theorem ok_X12_between_l48c {Q : Option AV → AH → Prop}  {σ : SS}  {x1 : Int32} {x2 : Int32} {x3 : Int32} {x4 : Int32} {o}    (hE : X12_between_l48c  σ  x1 x2 x3 x4 = some o) (hS : ∀ ss, o = Sum.inl ss → (X12_between_P48  Q σ  x1 x2) ss) (hT : ∀ tt, o = Sum.inr tt → (X12_between_R48  Q σ  x1 x2) tt) : Ws 2 mi_X12_between Q 48 [some (vr 11 0), some (vi x1), some (vi x2), some (vi x3), some (vi x4)] [] σ := by
  unfold X12_between_l48c at hE
  refine Wp.iload dc_X12_between_48 rfl ?_
  refine Wp.aload_n dc_X12_between_50 rfl ?_
  refine Wp.sgetR (t := 34) dc_X12_between_51 fw_X12_35 (mO11 (by decide)) rfl ?_
  refine Wp.iconst dc_X12_between_54 ic_1 ?_
  obtain ⟨j55, h55, hE⟩ := bnd hE
  refine Wp.siald dc_X12_between_55 (mO13 (by decide)) h55 ?_
  refine Wp.icmp_ge (tgt := 93) dc_X12_between_56 (by decide) (fun hc56 => ?_) (fun hc56 => ?_)
  · rw [if_pos hc56] at hE
    cases hE
    exact hT _ rfl _ _ _ _
  · rw [if_neg hc56] at hE
    refine Wp.iload_n dc_X12_between_59 rfl ?_
    refine Wp.aload_n dc_X12_between_60 rfl ?_
    refine Wp.iload dc_X12_between_61 rfl ?_
    refine Wp.iload_n dc_X12_between_63 rfl ?_
    obtain ⟨v64, h64, hE⟩ := bnd hE
    refine Wp.cV2i (ok_X12_isOf  h64) dc_X12_between_64 mw_X12_300 (mO11 (by decide)) (by decide) (Nat.le_of_ble_eq_true rfl) ?_
    refine Wp.if_eq (tgt := 84) dc_X12_between_67 (by decide) (fun hc67 => ?_) (fun hc67 => ?_)
    · rw [if_pos hc67] at hE
      exact ok_X12_between_j84   hE hS hT
    · rw [if_neg hc67] at hE
      refine Wp.aload_n dc_X12_between_70 rfl ?_
      refine Wp.iload dc_X12_between_71 rfl ?_
      refine Wp.iload_n dc_X12_between_73 rfl ?_
      obtain ⟨v74, h74, hE⟩ := bnd hE
      refine Wp.cV2i (ok_X12_isOf  h74) dc_X12_between_74 mw_X12_300 (mO11 (by decide)) (by decide) (Nat.le_of_ble_eq_true rfl) ?_
      refine Wp.if_eq (tgt := 84) dc_X12_between_77 (by decide) (fun hc77 => ?_) (fun hc77 => ?_)
      · rw [if_pos hc77] at hE
        exact ok_X12_between_j84   hE hS hT
      · rw [if_neg hc77] at hE
        refine Wp.iconst dc_X12_between_80 ic_1 ?_
        refine Wp.goto (tgt := 85) dc_X12_between_81 (by decide) ?_
        exact ok_X12_between_j85   hE hS hT
theorem ok_X12_between_l48 {Q : Option AV → AH → Prop}  {σ : SS}  {x1 : Int32} {x2 : Int32} {x3 : Int32} {x4 : Int32} {o}    (hE : X12_between_l48  σ  x1 x2 x3 x4 = some o) (hK : Q (some (vi o.1)) (hp o.2)) : Ws 2 mi_X12_between Q 48 [some (vr 11 0), some (vi x1), some (vi x2), some (vi x3), some (vi x4)] [] σ := by
  unfold X12_between_l48 at hE
  obtain ⟨t48, h1, hE⟩ := bnd hE
  refine iter_ok (P := (X12_between_P48  Q σ  x1 x2)) (R := (X12_between_R48  Q σ  x1 x2)) (fun ss o h2 hS hT => ?_) NF _ _ h1 ?_
  · skip
    exact ok_X12_between_l48c   h2 hS hT
  · intro z0 z1 z2 z4
    show Ws 2 mi_X12_between Q 93 [z0, z1, z2, some (vi t48), z4] [] σ
    refine Wp.iload_n dc_X12_between_93 rfl ?_
    cases hE
    exact Wp.ireturn dc_X12_between_94 rfl rfl (Nat.le_refl _) (Nat.le_refl _) hK
theorem ok_X12_between_j0 {Q : Option AV → AH → Prop}  {σ : SS}  {x1 : Int32} {x2 : Int32} {o} {z3 z4 : Option AV}   (hE : X12_between_j0  σ  x1 x2 = some o) (hK : Q (some (vi o.1)) (hp o.2)) : Ws 2 mi_X12_between Q 0 [some (vr 11 0), some (vi x1), some (vi x2), z3, z4] [] σ := by
  unfold X12_between_j0 at hE
  refine Wp.aload_n dc_X12_between_0 rfl ?_
  refine Wp.iconst dc_X12_between_1 ic_0 ?_
  refine Wp.sputI dc_X12_between_2 fw_X12_77 (mO11 (by decide)) (Nr.i _) ?_
  obtain ⟨σ2, es_2, hE⟩ := bnS hE
  rw [es_2]
  refine Wp.aload_n dc_X12_between_5 rfl ?_
  refine Wp.iconst dc_X12_between_6 ic_0 ?_
  refine Wp.sputI dc_X12_between_7 fw_X12_80 (mO11 (by decide)) (Nr.i _) ?_
  obtain ⟨σ7, es_7, hE⟩ := bnS hE
  rw [es_7]
  refine Wp.aload_n dc_X12_between_10 rfl ?_
  refine Wp.iload_n dc_X12_between_11 rfl ?_
  obtain ⟨v12, h12, hE⟩ := bnd hE
  refine Wp.cV1i (ok_X12_isLeadAt  h12) dc_X12_between_12 mw_X12_311 (mO11 (by decide)) (by decide) (Nat.le_of_ble_eq_true rfl) ?_
  refine Wp.if_eq (tgt := 26) dc_X12_between_15 (by decide) (fun hc15 => ?_) (fun hc15 => ?_)
  · rw [if_pos hc15] at hE
    exact ok_X12_between_j26   hE hK
  · rw [if_neg hc15] at hE
    refine Wp.aload_n dc_X12_between_18 rfl ?_
    refine Wp.iload_n dc_X12_between_19 rfl ?_
    obtain ⟨v20, h20, hE⟩ := bnd hE
    refine Wp.cV1i (ok_X12_isLeadAt  h20) dc_X12_between_20 mw_X12_311 (mO11 (by decide)) (by decide) (Nat.le_of_ble_eq_true rfl) ?_
    refine Wp.if_ne (tgt := 32) dc_X12_between_23 (by decide) (fun hc23 => ?_) (fun hc23 => ?_)
    · rw [if_neg hc23] at hE
      refine Wp.iload_n dc_X12_between_32 rfl ?_
      refine Wp.iload_n dc_X12_between_33 rfl ?_
      refine Wp.icmp_ne (tgt := 43) dc_X12_between_34 (by decide) (fun hc34 => ?_) (fun hc34 => ?_)
      · rw [if_neg hc34] at hE
        refine Wp.iconst dc_X12_between_43 ic_0 ?_
        refine Wp.istore_n dc_X12_between_44 (by decide) ?_
        refine Wp.iconst dc_X12_between_45 ic_0 ?_
        refine Wp.istore dc_X12_between_46 (by decide) ?_
        exact ok_X12_between_l48   hE hK
      · rw [if_pos hc34] at hE
        refine Wp.aload_n dc_X12_between_37 rfl ?_
        refine Wp.iconst dc_X12_between_38 ic_5 ?_
        obtain ⟨p39, h39, hE⟩ := bnd hE
        refine Wp.cV1i (ok_X12_refuse  h39) dc_X12_between_39 mw_X12_308 (mO11 (by decide)) (by decide) (Nat.le_of_ble_eq_true rfl) ?_
        cases hE
        exact Wp.ireturn dc_X12_between_42 rfl rfl (Nat.le_refl _) (Nat.le_refl _) hK
    · rw [if_pos hc23] at hE
      exact ok_X12_between_j26   hE hK
theorem ok_X12_between  {σ : SS}  {x1 : Int32} {x2 : Int32} {o}   (hE : X12_between  σ  x1 x2 = some o) : Runs 2 0 0 mi_X12_between [vr 11 0, vi x1, vi x2] (hp σ) (fun v h => v = some (vi o.1) ∧ h = hp o.2) := by
  refine Runs.of pn_X12 (Nat.le_of_ble_eq_true rfl) ?_
  exact ok_X12_between_j0   hE ⟨rfl, rfl⟩
def X12_copyStates_P62 (Q : Option AV → AH → Prop)   (x1 : Int32) (ss : Int32 × SS) : Prop := Ws 2 mi_X12_copyStates Q 62 [some (vr 11 0), some (vi x1), some (vi ss.1)] [] ss.2
def X12_copyStates_R62 (Q : Option AV → AH → Prop)   (x1 : Int32) (tt : SS) : Prop := ∀ z1 z2 : Option AV, Ws 2 mi_X12_copyStates Q 99 [some (vr 11 0), z1, z2] [] tt
theorem ok_X12_copyStates_l62c {Q : Option AV → AH → Prop}  {σ : SS}  {x1 : Int32} {x2 : Int32} {o}    (hE : X12_copyStates_l62c  σ  x1 x2 = some o) (hS : ∀ ss, o = Sum.inl ss → (X12_copyStates_P62  Q   x1) ss) (hT : ∀ tt, o = Sum.inr tt → (X12_copyStates_R62  Q   x1) tt) : Ws 2 mi_X12_copyStates Q 62 [some (vr 11 0), some (vi x1), some (vi x2)] [] σ := by
  unfold X12_copyStates_l62c at hE
  refine Wp.iload_n dc_X12_copyStates_62 rfl ?_
  refine Wp.aload_n dc_X12_copyStates_63 rfl ?_
  refine Wp.sgetR (t := 34) dc_X12_copyStates_64 fw_X12_35 (mO11 (by decide)) rfl ?_
  refine Wp.iconst dc_X12_copyStates_67 ic_1 ?_
  obtain ⟨j68, h68, hE⟩ := bnd hE
  refine Wp.siald dc_X12_copyStates_68 (mO13 (by decide)) h68 ?_
  refine Wp.icmp_ge (tgt := 99) dc_X12_copyStates_69 (by decide) (fun hc69 => ?_) (fun hc69 => ?_)
  · rw [if_pos hc69] at hE
    cases hE
    exact hT _ rfl _ _
  · rw [if_neg hc69] at hE
    refine Wp.aload_n dc_X12_copyStates_72 rfl ?_
    refine Wp.sgetR (t := 6) dc_X12_copyStates_73 fw_X12_20 (mO11 (by decide)) rfl ?_
    refine Wp.bipush dc_X12_copyStates_76 bp_60 ?_
    refine Wp.iload_n dc_X12_copyStates_78 rfl ?_
    refine Wp.imul dc_X12_copyStates_79 ?_
    refine Wp.iload_n dc_X12_copyStates_80 rfl ?_
    refine Wp.iadd dc_X12_copyStates_81 ?_
    refine Wp.aload_n dc_X12_copyStates_82 rfl ?_
    refine Wp.sgetR (t := 34) dc_X12_copyStates_83 fw_X12_35 (mO11 (by decide)) rfl ?_
    refine Wp.bipush dc_X12_copyStates_86 bp_108 ?_
    refine Wp.iload_n dc_X12_copyStates_88 rfl ?_
    refine Wp.iadd dc_X12_copyStates_89 ?_
    obtain ⟨j90, h90, hE⟩ := bnd hE
    refine Wp.siald dc_X12_copyStates_90 (mO13 (by decide)) h90 ?_
    refine Wp.i2l dc_X12_copyStates_91 ?_
    obtain ⟨j92, h92, hE⟩ := bnd hE
    refine Wp.slast dc_X12_copyStates_92 (mO14 (by decide)) h92 ?_
    obtain ⟨σ92, es_92, hE⟩ := bnS hE
    rw [es_92]
    obtain ⟨x2_93, e_93, hE⟩ := bnS hE
    refine Wp.iinc dc_X12_copyStates_93 rfl ((ii ic_1).trans e_93) (by decide) ?_
    refine Wp.goto (tgt := 62) dc_X12_copyStates_96 (by decide) ?_
    cases hE
    exact hS _ rfl
theorem ok_X12_copyStates_l62 {Q : Option AV → AH → Prop}  {σ : SS}  {x1 : Int32} {x2 : Int32} {o}    (hE : X12_copyStates_l62  σ  x1 x2 = some o) (hK : Q (some (vi o.1)) (hp o.2)) : Ws 2 mi_X12_copyStates Q 62 [some (vr 11 0), some (vi x1), some (vi x2)] [] σ := by
  unfold X12_copyStates_l62 at hE
  obtain ⟨t62, h1, hE⟩ := bnd hE
  refine iter_ok (P := (X12_copyStates_P62  Q   x1)) (R := (X12_copyStates_R62  Q   x1)) (fun ss o h2 hS hT => ?_) NF _ _ h1 ?_
  · skip
    exact ok_X12_copyStates_l62c   h2 hS hT
  · intro z1 z2
    show Ws 2 mi_X12_copyStates Q 99 [some (vr 11 0), z1, z2] [] t62
    refine Wp.aload_n dc_X12_copyStates_99 rfl ?_
    refine Wp.sgetR (t := 34) dc_X12_copyStates_100 fw_X12_35 (mO11 (by decide)) rfl ?_
    refine Wp.iconst dc_X12_copyStates_103 ic_1 ?_
    obtain ⟨j104, h104, hE⟩ := bnd hE
    refine Wp.siald dc_X12_copyStates_104 (mO13 (by decide)) h104 ?_
    cases hE
    exact Wp.ireturn dc_X12_copyStates_105 rfl rfl (Nat.le_refl _) (Nat.le_refl _) hK
theorem ok_X12_copyStates_j0 {Q : Option AV → AH → Prop}  {σ : SS}  {x1 : Int32} {o} {z2 : Option AV}   (hE : X12_copyStates_j0  σ  x1 = some o) (hK : Q (some (vi o.1)) (hp o.2)) : Ws 2 mi_X12_copyStates Q 0 [some (vr 11 0), some (vi x1), z2] [] σ := by
  unfold X12_copyStates_j0 at hE
  refine Wp.aload_n dc_X12_copyStates_0 rfl ?_
  refine Wp.iconst dc_X12_copyStates_1 ic_0 ?_
  refine Wp.sputI dc_X12_copyStates_2 fw_X12_77 (mO11 (by decide)) (Nr.i _) ?_
  obtain ⟨σ2, es_2, hE⟩ := bnS hE
  rw [es_2]
  refine Wp.aload_n dc_X12_copyStates_5 rfl ?_
  refine Wp.iconst dc_X12_copyStates_6 ic_0 ?_
  refine Wp.sputI dc_X12_copyStates_7 fw_X12_80 (mO11 (by decide)) (Nr.i _) ?_
  obtain ⟨σ7, es_7, hE⟩ := bnS hE
  rw [es_7]
  refine Wp.aload_n dc_X12_copyStates_10 rfl ?_
  refine Wp.iload_n dc_X12_copyStates_11 rfl ?_
  obtain ⟨v12, h12, hE⟩ := bnd hE
  refine Wp.cV1i (ok_X12_isTray  h12) dc_X12_copyStates_12 mw_X12_322 (mO11 (by decide)) (by decide) (Nat.le_of_ble_eq_true rfl) ?_
  refine Wp.if_ne (tgt := 24) dc_X12_copyStates_15 (by decide) (fun hc15 => ?_) (fun hc15 => ?_)
  · rw [if_neg hc15] at hE
    refine Wp.aload_n dc_X12_copyStates_24 rfl ?_
    refine Wp.sgetR (t := 33) dc_X12_copyStates_25 fw_X12_17 (mO11 (by decide)) rfl ?_
    refine Wp.iload_n dc_X12_copyStates_28 rfl ?_
    obtain ⟨j29, h29, hE⟩ := bnd hE
    refine Wp.siald dc_X12_copyStates_29 (mO13 (by decide)) h29 ?_
    refine Wp.if_ge (tgt := 39) dc_X12_copyStates_30 (by decide) (fun hc30 => ?_) (fun hc30 => ?_)
    · rw [if_pos hc30] at hE
      refine Wp.aload_n dc_X12_copyStates_39 rfl ?_
      refine Wp.sgetR (t := 33) dc_X12_copyStates_40 fw_X12_17 (mO11 (by decide)) rfl ?_
      refine Wp.iload_n dc_X12_copyStates_43 rfl ?_
      obtain ⟨j44, h44, hE⟩ := bnd hE
      refine Wp.siald dc_X12_copyStates_44 (mO13 (by decide)) h44 ?_
      refine Wp.aload_n dc_X12_copyStates_45 rfl ?_
      refine Wp.sgetR (t := 34) dc_X12_copyStates_46 fw_X12_35 (mO11 (by decide)) rfl ?_
      refine Wp.iconst dc_X12_copyStates_49 ic_1 ?_
      obtain ⟨j50, h50, hE⟩ := bnd hE
      refine Wp.siald dc_X12_copyStates_50 (mO13 (by decide)) h50 ?_
      refine Wp.icmp_ge (tgt := 60) dc_X12_copyStates_51 (by decide) (fun hc51 => ?_) (fun hc51 => ?_)
      · rw [if_pos hc51] at hE
        refine Wp.iconst dc_X12_copyStates_60 ic_0 ?_
        refine Wp.istore_n dc_X12_copyStates_61 (by decide) ?_
        exact ok_X12_copyStates_l62   hE hK
      · rw [if_neg hc51] at hE
        refine Wp.aload_n dc_X12_copyStates_54 rfl ?_
        refine Wp.iconst dc_X12_copyStates_55 ic_4 ?_
        obtain ⟨p56, h56, hE⟩ := bnd hE
        refine Wp.cV1i (ok_X12_refuse  h56) dc_X12_copyStates_56 mw_X12_308 (mO11 (by decide)) (by decide) (Nat.le_of_ble_eq_true rfl) ?_
        cases hE
        exact Wp.ireturn dc_X12_copyStates_59 rfl rfl (Nat.le_refl _) (Nat.le_refl _) hK
    · rw [if_neg hc30] at hE
      refine Wp.aload_n dc_X12_copyStates_33 rfl ?_
      refine Wp.iconst dc_X12_copyStates_34 ic_3 ?_
      obtain ⟨p35, h35, hE⟩ := bnd hE
      refine Wp.cV1i (ok_X12_refuse  h35) dc_X12_copyStates_35 mw_X12_308 (mO11 (by decide)) (by decide) (Nat.le_of_ble_eq_true rfl) ?_
      cases hE
      exact Wp.ireturn dc_X12_copyStates_38 rfl rfl (Nat.le_refl _) (Nat.le_refl _) hK
  · rw [if_pos hc15] at hE
    refine Wp.aload_n dc_X12_copyStates_18 rfl ?_
    refine Wp.iconst dc_X12_copyStates_19 ic_1 ?_
    obtain ⟨p20, h20, hE⟩ := bnd hE
    refine Wp.cV1i (ok_X12_refuse  h20) dc_X12_copyStates_20 mw_X12_308 (mO11 (by decide)) (by decide) (Nat.le_of_ble_eq_true rfl) ?_
    cases hE
    exact Wp.ireturn dc_X12_copyStates_23 rfl rfl (Nat.le_refl _) (Nat.le_refl _) hK
theorem ok_X12_copyStates  {σ : SS}  {x1 : Int32} {o}   (hE : X12_copyStates  σ  x1 = some o) : Runs 2 0 0 mi_X12_copyStates [vr 11 0, vi x1] (hp σ) (fun v h => v = some (vi o.1) ∧ h = hp o.2) := by
  refine Runs.of pn_X12 (Nat.le_of_ble_eq_true rfl) ?_
  exact ok_X12_copyStates_j0   hE ⟨rfl, rfl⟩
def X12_drops_P2 (Q : Option AV → AH → Prop)    (ss : Int32 × SS) : Prop := ∀ z1 : Option AV, Ws 0 mi_X12_drops Q 2 [some (vr 11 0), z1, some (vi ss.1)] [] ss.2
def X12_drops_R2 (Q : Option AV → AH → Prop)    (tt : SS) : Prop := ∀ z1 z2 : Option AV, Ws 0 mi_X12_drops Q 80 [some (vr 11 0), z1, z2] [] tt
theorem ok_X12_drops_l2c {Q : Option AV → AH → Prop}  {σ : SS}   {x2 : Int32} {o} {z1 : Option AV}   (hE : X12_drops_l2c  σ   x2 = some o) (hS : ∀ ss, o = Sum.inl ss → (X12_drops_P2  Q   ) ss) (hT : ∀ tt, o = Sum.inr tt → (X12_drops_R2  Q   ) tt) : Ws 0 mi_X12_drops Q 2 [some (vr 11 0), z1, some (vi x2)] [] σ := by
  unfold X12_drops_l2c at hE
  refine Wp.iload_n dc_X12_drops_2 rfl ?_
  refine Wp.aload_n dc_X12_drops_3 rfl ?_
  refine Wp.sgetR (t := 34) dc_X12_drops_4 fw_X12_35 (mO11 (by decide)) rfl ?_
  refine Wp.iconst dc_X12_drops_7 ic_1 ?_
  obtain ⟨j8, h8, hE⟩ := bnd hE
  refine Wp.siald dc_X12_drops_8 (mO13 (by decide)) h8 ?_
  refine Wp.iconst dc_X12_drops_9 ic_1 ?_
  refine Wp.isub dc_X12_drops_10 ?_
  refine Wp.icmp_ge (tgt := 80) dc_X12_drops_11 (by decide) (fun hc11 => ?_) (fun hc11 => ?_)
  · rw [if_pos hc11] at hE
    cases hE
    exact hT _ rfl _ _
  · rw [if_neg hc11] at hE
    refine Wp.aload_n dc_X12_drops_14 rfl ?_
    refine Wp.sgetR (t := 34) dc_X12_drops_15 fw_X12_35 (mO11 (by decide)) rfl ?_
    refine Wp.bipush dc_X12_drops_18 bp_60 ?_
    refine Wp.iload_n dc_X12_drops_20 rfl ?_
    refine Wp.iadd dc_X12_drops_21 ?_
    refine Wp.aload_n dc_X12_drops_22 rfl ?_
    refine Wp.sgetR (t := 34) dc_X12_drops_23 fw_X12_35 (mO11 (by decide)) rfl ?_
    refine Wp.bipush dc_X12_drops_26 bp_60 ?_
    refine Wp.iload_n dc_X12_drops_28 rfl ?_
    refine Wp.iadd dc_X12_drops_29 ?_
    refine Wp.iconst dc_X12_drops_30 ic_1 ?_
    refine Wp.iadd dc_X12_drops_31 ?_
    obtain ⟨j32, h32, hE⟩ := bnd hE
    refine Wp.siald dc_X12_drops_32 (mO13 (by decide)) h32 ?_
    obtain ⟨j33, h33, hE⟩ := bnd hE
    refine Wp.siast dc_X12_drops_33 (mO13 (by decide)) h33 ?_
    obtain ⟨σ33, es_33, hE⟩ := bnS hE
    rw [es_33]
    refine Wp.aload_n dc_X12_drops_34 rfl ?_
    refine Wp.sgetR (t := 34) dc_X12_drops_35 fw_X12_35 (mO11 (by decide)) rfl ?_
    refine Wp.bipush dc_X12_drops_38 bp_84 ?_
    refine Wp.iload_n dc_X12_drops_40 rfl ?_
    refine Wp.iadd dc_X12_drops_41 ?_
    refine Wp.aload_n dc_X12_drops_42 rfl ?_
    refine Wp.sgetR (t := 34) dc_X12_drops_43 fw_X12_35 (mO11 (by decide)) rfl ?_
    refine Wp.bipush dc_X12_drops_46 bp_84 ?_
    refine Wp.iload_n dc_X12_drops_48 rfl ?_
    refine Wp.iadd dc_X12_drops_49 ?_
    refine Wp.iconst dc_X12_drops_50 ic_1 ?_
    refine Wp.iadd dc_X12_drops_51 ?_
    obtain ⟨j52, h52, hE⟩ := bnd hE
    refine Wp.siald dc_X12_drops_52 (mO13 (by decide)) h52 ?_
    obtain ⟨j53, h53, hE⟩ := bnd hE
    refine Wp.siast dc_X12_drops_53 (mO13 (by decide)) h53 ?_
    obtain ⟨σ53, es_53, hE⟩ := bnS hE
    rw [es_53]
    refine Wp.aload_n dc_X12_drops_54 rfl ?_
    refine Wp.sgetR (t := 34) dc_X12_drops_55 fw_X12_35 (mO11 (by decide)) rfl ?_
    refine Wp.bipush dc_X12_drops_58 bp_108 ?_
    refine Wp.iload_n dc_X12_drops_60 rfl ?_
    refine Wp.iadd dc_X12_drops_61 ?_
    refine Wp.aload_n dc_X12_drops_62 rfl ?_
    refine Wp.sgetR (t := 34) dc_X12_drops_63 fw_X12_35 (mO11 (by decide)) rfl ?_
    refine Wp.bipush dc_X12_drops_66 bp_108 ?_
    refine Wp.iload_n dc_X12_drops_68 rfl ?_
    refine Wp.iadd dc_X12_drops_69 ?_
    refine Wp.iconst dc_X12_drops_70 ic_1 ?_
    refine Wp.iadd dc_X12_drops_71 ?_
    obtain ⟨j72, h72, hE⟩ := bnd hE
    refine Wp.siald dc_X12_drops_72 (mO13 (by decide)) h72 ?_
    obtain ⟨j73, h73, hE⟩ := bnd hE
    refine Wp.siast dc_X12_drops_73 (mO13 (by decide)) h73 ?_
    obtain ⟨σ73, es_73, hE⟩ := bnS hE
    rw [es_73]
    obtain ⟨x2_74, e_74, hE⟩ := bnS hE
    refine Wp.iinc dc_X12_drops_74 rfl ((ii ic_1).trans e_74) (by decide) ?_
    refine Wp.goto (tgt := 2) dc_X12_drops_77 (by decide) ?_
    cases hE
    exact hS _ rfl _
theorem ok_X12_drops_l2 {Q : Option AV → AH → Prop}  {σ : SS}  {x2 : Int32} {o} {z1 : Option AV}   (hE : X12_drops_l2  σ  x2 = some o) (hK : Q none (hp o)) : Ws 0 mi_X12_drops Q 2 [some (vr 11 0), z1, some (vi x2)] [] σ := by
  unfold X12_drops_l2 at hE
  obtain ⟨t2, h1, hE⟩ := bnd hE
  refine iter_ok (P := (X12_drops_P2  Q   )) (R := (X12_drops_R2  Q   )) (fun ss o h2 hS hT => ?_) NF _ _ h1 ?_ _
  · intro z1
    exact ok_X12_drops_l2c   h2 hS hT
  · intro z1 z2
    show Ws 0 mi_X12_drops Q 80 [some (vr 11 0), z1, z2] [] t2
    refine Wp.aload_n dc_X12_drops_80 rfl ?_
    refine Wp.sgetR (t := 34) dc_X12_drops_81 fw_X12_35 (mO11 (by decide)) rfl ?_
    refine Wp.iconst dc_X12_drops_84 ic_1 ?_
    refine Wp.dup2 dc_X12_drops_85 rfl rfl ?_
    obtain ⟨j86, h86, hE⟩ := bnd hE
    refine Wp.siald dc_X12_drops_86 (mO13 (by decide)) h86 ?_
    refine Wp.iconst dc_X12_drops_87 ic_1 ?_
    refine Wp.isub dc_X12_drops_88 ?_
    obtain ⟨j89, h89, hE⟩ := bnd hE
    refine Wp.siast dc_X12_drops_89 (mO13 (by decide)) h89 ?_
    obtain ⟨σ89, es_89, hE⟩ := bnS hE
    rw [es_89]
    cases hE
    exact Wp.return dc_X12_drops_90 rfl (Nat.le_refl _) (Nat.le_refl _) hK
theorem ok_X12_drops_j0 {Q : Option AV → AH → Prop}  {σ : SS}  {x1 : Int32} {o} {z2 : Option AV}   (hE : X12_drops_j0  σ  x1 = some o) (hK : Q none (hp o)) : Ws 0 mi_X12_drops Q 0 [some (vr 11 0), some (vi x1), z2] [] σ := by
  unfold X12_drops_j0 at hE
  refine Wp.iload_n dc_X12_drops_0 rfl ?_
  refine Wp.istore_n dc_X12_drops_1 (by decide) ?_
  exact ok_X12_drops_l2   hE hK
theorem ok_X12_drops  {σ : SS}  {x1 : Int32} {o}   (hE : X12_drops  σ  x1 = some o) : Runs 0 0 0 mi_X12_drops [vr 11 0, vi x1] (hp σ) (fun v h => v = none ∧ h = hp o) := by
  refine Runs.of pn_X12 (Nat.le_of_ble_eq_true rfl) ?_
  exact ok_X12_drops_j0   hE ⟨rfl, rfl⟩
def X12_dropsAll_P11 (Q : Option AV → AH → Prop)   (x1 : Int32) (ss : Int32 × Int32 × SS) : Prop := Ws 1 mi_X12_dropsAll Q 11 [some (vr 11 0), some (vi x1), some (vi ss.1), some (vi ss.2.1)] [] ss.2.2
def X12_dropsAll_R11 (Q : Option AV → AH → Prop)   (x1 : Int32) (tt : Int32 × SS) : Prop := ∀ z0 z1 z3 : Option AV, Ws 1 mi_X12_dropsAll Q 41 [z0, z1, some (vi tt.1), z3] [] tt.2
theorem ok_X12_dropsAll_j35 {Q : Option AV → AH → Prop}  {σ : SS}  {x1 : Int32} {x2 : Int32} {x3 : Int32} {o}    (hE : X12_dropsAll_j35  σ  x1 x2 x3 = some o) (hS : ∀ ss, o = Sum.inl ss → (X12_dropsAll_P11  Q   x1) ss) (hT : ∀ tt, o = Sum.inr tt → (X12_dropsAll_R11  Q   x1) tt) : Ws 1 mi_X12_dropsAll Q 35 [some (vr 11 0), some (vi x1), some (vi x2), some (vi x3)] [] σ := by
  unfold X12_dropsAll_j35 at hE
  obtain ⟨x3_35, e_35, hE⟩ := bnS hE
  refine Wp.iinc dc_X12_dropsAll_35 rfl ((ii ic_m1).trans e_35) (by decide) ?_
  refine Wp.goto (tgt := 11) dc_X12_dropsAll_38 (by decide) ?_
  cases hE
  exact hS _ rfl
theorem ok_X12_dropsAll_l11c {Q : Option AV → AH → Prop}  {σ : SS}  {x1 : Int32} {x2 : Int32} {x3 : Int32} {o}    (hE : X12_dropsAll_l11c  σ  x1 x2 x3 = some o) (hS : ∀ ss, o = Sum.inl ss → (X12_dropsAll_P11  Q   x1) ss) (hT : ∀ tt, o = Sum.inr tt → (X12_dropsAll_R11  Q   x1) tt) : Ws 1 mi_X12_dropsAll Q 11 [some (vr 11 0), some (vi x1), some (vi x2), some (vi x3)] [] σ := by
  unfold X12_dropsAll_l11c at hE
  refine Wp.iload_n dc_X12_dropsAll_11 rfl ?_
  refine Wp.if_lt (tgt := 41) dc_X12_dropsAll_12 (by decide) (fun hc12 => ?_) (fun hc12 => ?_)
  · rw [if_pos hc12] at hE
    cases hE
    exact hT _ rfl _ _ _
  · rw [if_neg hc12] at hE
    refine Wp.aload_n dc_X12_dropsAll_15 rfl ?_
    refine Wp.iload_n dc_X12_dropsAll_16 rfl ?_
    refine Wp.iload_n dc_X12_dropsAll_17 rfl ?_
    obtain ⟨v18, h18, hE⟩ := bnd hE
    refine Wp.cV2i (ok_X12_isOf  h18) dc_X12_dropsAll_18 mw_X12_300 (mO11 (by decide)) (by decide) (Nat.le_of_ble_eq_true rfl) ?_
    refine Wp.if_ne (tgt := 27) dc_X12_dropsAll_21 (by decide) (fun hc21 => ?_) (fun hc21 => ?_)
    · rw [if_neg hc21] at hE
      refine Wp.aload_n dc_X12_dropsAll_27 rfl ?_
      refine Wp.iload_n dc_X12_dropsAll_28 rfl ?_
      obtain ⟨σ29, h29, hE⟩ := bnd hE
      refine Wp.cV1v (ok_X12_drops  h29) dc_X12_dropsAll_29 mw_X12_325 (mO11 (by decide)) (by decide) (Nat.le_of_ble_eq_true rfl) ?_
      obtain ⟨x2_32, e_32, hE⟩ := bnS hE
      refine Wp.iinc dc_X12_dropsAll_32 rfl ((ii ic_1).trans e_32) (by decide) ?_
      exact ok_X12_dropsAll_j35   hE hS hT
    · rw [if_pos hc21] at hE
      refine Wp.goto (tgt := 35) dc_X12_dropsAll_24 (by decide) ?_
      exact ok_X12_dropsAll_j35   hE hS hT
theorem ok_X12_dropsAll_l11 {Q : Option AV → AH → Prop}  {σ : SS}  {x1 : Int32} {x2 : Int32} {x3 : Int32} {o}    (hE : X12_dropsAll_l11  σ  x1 x2 x3 = some o) (hK : Q (some (vi o.1)) (hp o.2)) : Ws 1 mi_X12_dropsAll Q 11 [some (vr 11 0), some (vi x1), some (vi x2), some (vi x3)] [] σ := by
  unfold X12_dropsAll_l11 at hE
  obtain ⟨t11, h1, hE⟩ := bnd hE
  refine iter_ok (P := (X12_dropsAll_P11  Q   x1)) (R := (X12_dropsAll_R11  Q   x1)) (fun ss o h2 hS hT => ?_) NF _ _ h1 ?_
  · skip
    exact ok_X12_dropsAll_l11c   h2 hS hT
  · intro z0 z1 z3
    show Ws 1 mi_X12_dropsAll Q 41 [z0, z1, some (vi t11.1), z3] [] t11.2
    refine Wp.iload_n dc_X12_dropsAll_41 rfl ?_
    cases hE
    exact Wp.ireturn dc_X12_dropsAll_42 rfl rfl (Nat.le_refl _) (Nat.le_refl _) hK
theorem ok_X12_dropsAll_j0 {Q : Option AV → AH → Prop}  {σ : SS}  {x1 : Int32} {o} {z2 z3 : Option AV}   (hE : X12_dropsAll_j0  σ  x1 = some o) (hK : Q (some (vi o.1)) (hp o.2)) : Ws 1 mi_X12_dropsAll Q 0 [some (vr 11 0), some (vi x1), z2, z3] [] σ := by
  unfold X12_dropsAll_j0 at hE
  refine Wp.iconst dc_X12_dropsAll_0 ic_0 ?_
  refine Wp.istore_n dc_X12_dropsAll_1 (by decide) ?_
  refine Wp.aload_n dc_X12_dropsAll_2 rfl ?_
  refine Wp.sgetR (t := 34) dc_X12_dropsAll_3 fw_X12_35 (mO11 (by decide)) rfl ?_
  refine Wp.iconst dc_X12_dropsAll_6 ic_1 ?_
  obtain ⟨j7, h7, hE⟩ := bnd hE
  refine Wp.siald dc_X12_dropsAll_7 (mO13 (by decide)) h7 ?_
  refine Wp.iconst dc_X12_dropsAll_8 ic_1 ?_
  refine Wp.isub dc_X12_dropsAll_9 ?_
  obtain ⟨x3_10, e_10, hE⟩ := bnS hE
  rw [e_10]
  refine Wp.istore_n dc_X12_dropsAll_10 (by decide) ?_
  exact ok_X12_dropsAll_l11   hE hK
theorem ok_X12_dropsAll  {σ : SS}  {x1 : Int32} {o}   (hE : X12_dropsAll  σ  x1 = some o) : Runs 1 0 0 mi_X12_dropsAll [vr 11 0, vi x1] (hp σ) (fun v h => v = some (vi o.1) ∧ h = hp o.2) := by
  refine Runs.of pn_X12 (Nat.le_of_ble_eq_true rfl) ?_
  exact ok_X12_dropsAll_j0   hE ⟨rfl, rfl⟩
theorem ok_X12_secondsOf_j0 {Q : Option AV → AH → Prop}  {σ : SS}  {x0 : Int32} {o}    (hE : X12_secondsOf_j0  σ  x0 = some o) (hK : Q (some (vi o)) (hp σ)) : Ws 0 mi_X12_secondsOf Q 0 [some (vi x0)] [] σ := by
  unfold X12_secondsOf_j0 at hE
  refine Wp.iload_n dc_X12_secondsOf_0 rfl ?_
  refine Wp.if_ne (tgt := 8) dc_X12_secondsOf_1 (by decide) (fun hc1 => ?_) (fun hc1 => ?_)
  · rw [if_neg hc1] at hE
    refine Wp.iload_n dc_X12_secondsOf_8 rfl ?_
    refine Wp.iconst dc_X12_secondsOf_9 ic_1 ?_
    refine Wp.icmp_ne (tgt := 17) dc_X12_secondsOf_10 (by decide) (fun hc10 => ?_) (fun hc10 => ?_)
    · rw [if_neg hc10] at hE
      refine Wp.iload_n dc_X12_secondsOf_17 rfl ?_
      refine Wp.iconst dc_X12_secondsOf_18 ic_2 ?_
      refine Wp.icmp_ne (tgt := 27) dc_X12_secondsOf_19 (by decide) (fun hc19 => ?_) (fun hc19 => ?_)
      · rw [if_neg hc19] at hE
        refine Wp.bipush dc_X12_secondsOf_27 bp_15 ?_
        cases hE
        exact Wp.ireturn dc_X12_secondsOf_29 rfl rfl (Nat.le_refl _) (Nat.le_refl _) hK
      · rw [if_pos hc19] at hE
        refine Wp.bipush dc_X12_secondsOf_22 bp_6 ?_
        refine Wp.goto (tgt := 29) dc_X12_secondsOf_24 (by decide) ?_
        cases hE
        exact Wp.ireturn dc_X12_secondsOf_29 rfl rfl (Nat.le_refl _) (Nat.le_refl _) hK
    · rw [if_pos hc10] at hE
      refine Wp.iconst dc_X12_secondsOf_13 ic_3 ?_
      refine Wp.goto (tgt := 29) dc_X12_secondsOf_14 (by decide) ?_
      cases hE
      exact Wp.ireturn dc_X12_secondsOf_29 rfl rfl (Nat.le_refl _) (Nat.le_refl _) hK
  · rw [if_pos hc1] at hE
    refine Wp.iconst dc_X12_secondsOf_4 ic_1 ?_
    refine Wp.goto (tgt := 29) dc_X12_secondsOf_5 (by decide) ?_
    cases hE
    exact Wp.ireturn dc_X12_secondsOf_29 rfl rfl (Nat.le_refl _) (Nat.le_refl _) hK
theorem ok_X12_secondsOf  {σ : SS}  {x0 : Int32} {o}   (hE : X12_secondsOf  σ  x0 = some o) : Runs 0 0 0 mi_X12_secondsOf [vi x0] (hp σ) (fun v h => v = some (vi o) ∧ h = hp σ) := by
  refine Runs.of pn_X12 (Nat.le_of_ble_eq_true rfl) ?_
  exact ok_X12_secondsOf_j0   hE ⟨rfl, rfl⟩
theorem ok_X12_costOf_j52 {Q : Option AV → AH → Prop}  {σ : SS}  {s0 : Int32} {s2 : Int32} {s3 : Int32} {o} {z0 z1 z2 : Option AV}   (hE : X12_costOf_j52  σ  s0 s2 s3 = some o) (hK : Q (some (vi o)) (hp σ)) : Ws 1 mi_X12_costOf Q 52 [z0, z1, z2] [vi s3, vi s2, vr 13 34, vi s0] σ := by
  unfold X12_costOf_j52 at hE
  refine Wp.iadd dc_X12_costOf_52 ?_
  obtain ⟨j53, h53, hE⟩ := bnd hE
  refine Wp.siald dc_X12_costOf_53 (mO13 (by decide)) h53 ?_
  refine Wp.iadd dc_X12_costOf_54 ?_
  cases hE
  exact Wp.ireturn dc_X12_costOf_55 rfl rfl (Nat.le_refl _) (Nat.le_refl _) hK
theorem ok_X12_costOf_j0 {Q : Option AV → AH → Prop}  {σ : SS}  {x1 : Int32} {x2 : Int32} {o}    (hE : X12_costOf_j0  σ  x1 x2 = some o) (hK : Q (some (vi o)) (hp σ)) : Ws 1 mi_X12_costOf Q 0 [some (vr 11 0), some (vi x1), some (vi x2)] [] σ := by
  unfold X12_costOf_j0 at hE
  refine Wp.aload_n dc_X12_costOf_0 rfl ?_
  refine Wp.sgetR (t := 34) dc_X12_costOf_1 fw_X12_35 (mO11 (by decide)) rfl ?_
  refine Wp.bipush dc_X12_costOf_4 bp_108 ?_
  refine Wp.iload_n dc_X12_costOf_6 rfl ?_
  refine Wp.iadd dc_X12_costOf_7 ?_
  obtain ⟨j8, h8, hE⟩ := bnd hE
  refine Wp.siald dc_X12_costOf_8 (mO13 (by decide)) h8 ?_
  obtain ⟨v9, h9, hE⟩ := bnd hE
  refine Wp.cS1i (ok_X12_secondsOf  h9) dc_X12_costOf_9 mw_X12_328 (by decide) (Nat.le_of_ble_eq_true rfl) ?_
  refine Wp.aload_n dc_X12_costOf_12 rfl ?_
  refine Wp.sgetR (t := 34) dc_X12_costOf_13 fw_X12_35 (mO11 (by decide)) rfl ?_
  refine Wp.bipush dc_X12_costOf_16 bp_16 ?_
  refine Wp.aload_n dc_X12_costOf_18 rfl ?_
  refine Wp.sgetR (t := 34) dc_X12_costOf_19 fw_X12_35 (mO11 (by decide)) rfl ?_
  refine Wp.bipush dc_X12_costOf_22 bp_60 ?_
  refine Wp.iload_n dc_X12_costOf_24 rfl ?_
  refine Wp.iadd dc_X12_costOf_25 ?_
  obtain ⟨j26, h26, hE⟩ := bnd hE
  refine Wp.siald dc_X12_costOf_26 (mO13 (by decide)) h26 ?_
  refine Wp.iload_n dc_X12_costOf_27 rfl ?_
  refine Wp.icmp_ne (tgt := 43) dc_X12_costOf_28 (by decide) (fun hc28 => ?_) (fun hc28 => ?_)
  · rw [if_neg hc28] at hE
    refine Wp.aload_n dc_X12_costOf_43 rfl ?_
    refine Wp.sgetR (t := 34) dc_X12_costOf_44 fw_X12_35 (mO11 (by decide)) rfl ?_
    refine Wp.bipush dc_X12_costOf_47 bp_60 ?_
    refine Wp.iload_n dc_X12_costOf_49 rfl ?_
    refine Wp.iadd dc_X12_costOf_50 ?_
    obtain ⟨j51, h51, hE⟩ := bnd hE
    refine Wp.siald dc_X12_costOf_51 (mO13 (by decide)) h51 ?_
    exact ok_X12_costOf_j52   hE hK
  · rw [if_pos hc28] at hE
    refine Wp.aload_n dc_X12_costOf_31 rfl ?_
    refine Wp.sgetR (t := 34) dc_X12_costOf_32 fw_X12_35 (mO11 (by decide)) rfl ?_
    refine Wp.bipush dc_X12_costOf_35 bp_84 ?_
    refine Wp.iload_n dc_X12_costOf_37 rfl ?_
    refine Wp.iadd dc_X12_costOf_38 ?_
    obtain ⟨j39, h39, hE⟩ := bnd hE
    refine Wp.siald dc_X12_costOf_39 (mO13 (by decide)) h39 ?_
    refine Wp.goto (tgt := 52) dc_X12_costOf_40 (by decide) ?_
    exact ok_X12_costOf_j52   hE hK
theorem ok_X12_costOf  {σ : SS}  {x1 : Int32} {x2 : Int32} {o}   (hE : X12_costOf  σ  x1 x2 = some o) : Runs 1 0 0 mi_X12_costOf [vr 11 0, vi x1, vi x2] (hp σ) (fun v h => v = some (vi o) ∧ h = hp σ) := by
  refine Runs.of pn_X12 (Nat.le_of_ble_eq_true rfl) ?_
  exact ok_X12_costOf_j0   hE ⟨rfl, rfl⟩
def X12_nearest_P5 (Q : Option AV → AH → Prop) (σ : SS)  (x1 : Int32) (x2 : Int32) (ss : Int32 × Int32) : Prop := Ws 1 mi_X12_nearest Q 5 [some (vr 11 0), some (vi x1), some (vi x2), some (vi ss.1), some (vi ss.2)] [] σ
def X12_nearest_R5 (Q : Option AV → AH → Prop) (σ : SS)  (x1 : Int32) (x2 : Int32) (tt : Int32) : Prop := ∀ z0 z1 z2 z4 : Option AV, Ws 1 mi_X12_nearest Q 44 [z0, z1, z2, some (vi tt), z4] [] σ
theorem ok_X12_nearest_j38 {Q : Option AV → AH → Prop}  {σ : SS}  {x1 : Int32} {x2 : Int32} {x3 : Int32} {x4 : Int32} {o}    (hE : X12_nearest_j38  σ  x1 x2 x3 x4 = some o) (hS : ∀ ss, o = Sum.inl ss → (X12_nearest_P5  Q σ  x1 x2) ss) (hT : ∀ tt, o = Sum.inr tt → (X12_nearest_R5  Q σ  x1 x2) tt) : Ws 1 mi_X12_nearest Q 38 [some (vr 11 0), some (vi x1), some (vi x2), some (vi x3), some (vi x4)] [] σ := by
  unfold X12_nearest_j38 at hE
  obtain ⟨x4_38, e_38, hE⟩ := bnS hE
  refine Wp.iinc dc_X12_nearest_38 rfl ((ii ic_1).trans e_38) (by decide) ?_
  refine Wp.goto (tgt := 5) dc_X12_nearest_41 (by decide) ?_
  cases hE
  exact hS _ rfl
theorem ok_X12_nearest_j35 {Q : Option AV → AH → Prop}  {σ : SS}  {x1 : Int32} {x2 : Int32} {x4 : Int32} {o} {z3 : Option AV}   (hE : X12_nearest_j35  σ  x1 x2 x4 = some o) (hS : ∀ ss, o = Sum.inl ss → (X12_nearest_P5  Q σ  x1 x2) ss) (hT : ∀ tt, o = Sum.inr tt → (X12_nearest_R5  Q σ  x1 x2) tt) : Ws 1 mi_X12_nearest Q 35 [some (vr 11 0), some (vi x1), some (vi x2), z3, some (vi x4)] [] σ := by
  unfold X12_nearest_j35 at hE
  refine Wp.iload dc_X12_nearest_35 rfl ?_
  refine Wp.istore_n dc_X12_nearest_37 (by decide) ?_
  exact ok_X12_nearest_j38   hE hS hT
theorem ok_X12_nearest_l5c {Q : Option AV → AH → Prop}  {σ : SS}  {x1 : Int32} {x2 : Int32} {x3 : Int32} {x4 : Int32} {o}    (hE : X12_nearest_l5c  σ  x1 x2 x3 x4 = some o) (hS : ∀ ss, o = Sum.inl ss → (X12_nearest_P5  Q σ  x1 x2) ss) (hT : ∀ tt, o = Sum.inr tt → (X12_nearest_R5  Q σ  x1 x2) tt) : Ws 1 mi_X12_nearest Q 5 [some (vr 11 0), some (vi x1), some (vi x2), some (vi x3), some (vi x4)] [] σ := by
  unfold X12_nearest_l5c at hE
  refine Wp.iload dc_X12_nearest_5 rfl ?_
  refine Wp.aload_n dc_X12_nearest_7 rfl ?_
  refine Wp.sgetR (t := 34) dc_X12_nearest_8 fw_X12_35 (mO11 (by decide)) rfl ?_
  refine Wp.iconst dc_X12_nearest_11 ic_1 ?_
  obtain ⟨j12, h12, hE⟩ := bnd hE
  refine Wp.siald dc_X12_nearest_12 (mO13 (by decide)) h12 ?_
  refine Wp.icmp_ge (tgt := 44) dc_X12_nearest_13 (by decide) (fun hc13 => ?_) (fun hc13 => ?_)
  · rw [if_pos hc13] at hE
    cases hE
    exact hT _ rfl _ _ _ _
  · rw [if_neg hc13] at hE
    refine Wp.aload_n dc_X12_nearest_16 rfl ?_
    refine Wp.iload dc_X12_nearest_17 rfl ?_
    refine Wp.iload_n dc_X12_nearest_19 rfl ?_
    obtain ⟨v20, h20, hE⟩ := bnd hE
    refine Wp.cV2i (ok_X12_isOf  h20) dc_X12_nearest_20 mw_X12_300 (mO11 (by decide)) (by decide) (Nat.le_of_ble_eq_true rfl) ?_
    refine Wp.if_eq (tgt := 38) dc_X12_nearest_23 (by decide) (fun hc23 => ?_) (fun hc23 => ?_)
    · rw [if_pos hc23] at hE
      exact ok_X12_nearest_j38   hE hS hT
    · rw [if_neg hc23] at hE
      refine Wp.iload_n dc_X12_nearest_26 rfl ?_
      refine Wp.if_lt (tgt := 35) dc_X12_nearest_27 (by decide) (fun hc27 => ?_) (fun hc27 => ?_)
      · rw [if_pos hc27] at hE
        exact ok_X12_nearest_j35   hE hS hT
      · rw [if_neg hc27] at hE
        refine Wp.iload_n dc_X12_nearest_30 rfl ?_
        refine Wp.iconst dc_X12_nearest_31 ic_1 ?_
        refine Wp.icmp_ne (tgt := 38) dc_X12_nearest_32 (by decide) (fun hc32 => ?_) (fun hc32 => ?_)
        · rw [if_neg hc32] at hE
          exact ok_X12_nearest_j38   hE hS hT
        · rw [if_pos hc32] at hE
          exact ok_X12_nearest_j35   hE hS hT
theorem ok_X12_nearest_l5 {Q : Option AV → AH → Prop}  {σ : SS}  {x1 : Int32} {x2 : Int32} {x3 : Int32} {x4 : Int32} {o}    (hE : X12_nearest_l5  σ  x1 x2 x3 x4 = some o) (hK : Q (some (vi o)) (hp σ)) : Ws 1 mi_X12_nearest Q 5 [some (vr 11 0), some (vi x1), some (vi x2), some (vi x3), some (vi x4)] [] σ := by
  unfold X12_nearest_l5 at hE
  obtain ⟨t5, h1, hE⟩ := bnd hE
  refine iter_ok (P := (X12_nearest_P5  Q σ  x1 x2)) (R := (X12_nearest_R5  Q σ  x1 x2)) (fun ss o h2 hS hT => ?_) NF _ _ h1 ?_
  · skip
    exact ok_X12_nearest_l5c   h2 hS hT
  · intro z0 z1 z2 z4
    show Ws 1 mi_X12_nearest Q 44 [z0, z1, z2, some (vi t5), z4] [] σ
    refine Wp.iload_n dc_X12_nearest_44 rfl ?_
    cases hE
    exact Wp.ireturn dc_X12_nearest_45 rfl rfl (Nat.le_refl _) (Nat.le_refl _) hK
theorem ok_X12_nearest_j0 {Q : Option AV → AH → Prop}  {σ : SS}  {x1 : Int32} {x2 : Int32} {o} {z3 z4 : Option AV}   (hE : X12_nearest_j0  σ  x1 x2 = some o) (hK : Q (some (vi o)) (hp σ)) : Ws 1 mi_X12_nearest Q 0 [some (vr 11 0), some (vi x1), some (vi x2), z3, z4] [] σ := by
  unfold X12_nearest_j0 at hE
  refine Wp.iconst dc_X12_nearest_0 ic_m1 ?_
  refine Wp.istore_n dc_X12_nearest_1 (by decide) ?_
  refine Wp.iconst dc_X12_nearest_2 ic_0 ?_
  refine Wp.istore dc_X12_nearest_3 (by decide) ?_
  exact ok_X12_nearest_l5   hE hK
theorem ok_X12_nearest  {σ : SS}  {x1 : Int32} {x2 : Int32} {o}   (hE : X12_nearest  σ  x1 x2 = some o) : Runs 1 0 0 mi_X12_nearest [vr 11 0, vi x1, vi x2] (hp σ) (fun v h => v = some (vi o) ∧ h = hp σ) := by
  refine Runs.of pn_X12 (Nat.le_of_ble_eq_true rfl) ?_
  exact ok_X12_nearest_j0   hE ⟨rfl, rfl⟩
theorem ok_X12_followsOne_j0 {Q : Option AV → AH → Prop}  {σ : SS}  {x1 : Int32} {x2 : Int32} {o} {z3 z4 : Option AV}   (hE : X12_followsOne_j0  σ  x1 x2 = some o) (hK : Q (some (vi o.1)) (hp o.2)) : Ws 2 mi_X12_followsOne Q 0 [some (vr 11 0), some (vi x1), some (vi x2), z3, z4] [] σ := by
  unfold X12_followsOne_j0 at hE
  refine Wp.aload_n dc_X12_followsOne_0 rfl ?_
  refine Wp.iload_n dc_X12_followsOne_1 rfl ?_
  refine Wp.iload_n dc_X12_followsOne_2 rfl ?_
  obtain ⟨v3, h3, hE⟩ := bnd hE
  refine Wp.cV2i (ok_X12_nearest  h3) dc_X12_followsOne_3 mw_X12_331 (mO11 (by decide)) (by decide) (Nat.le_of_ble_eq_true rfl) ?_
  refine Wp.istore_n dc_X12_followsOne_6 (by decide) ?_
  refine Wp.aload_n dc_X12_followsOne_7 rfl ?_
  refine Wp.iload_n dc_X12_followsOne_8 rfl ?_
  refine Wp.iload_n dc_X12_followsOne_9 rfl ?_
  obtain ⟨v10, h10, hE⟩ := bnd hE
  refine Wp.cV2i (ok_X12_costOf  h10) dc_X12_followsOne_10 mw_X12_334 (mO11 (by decide)) (by decide) (Nat.le_of_ble_eq_true rfl) ?_
  refine Wp.istore dc_X12_followsOne_13 (by decide) ?_
  refine Wp.aload_n dc_X12_followsOne_15 rfl ?_
  refine Wp.sgetR (t := 34) dc_X12_followsOne_16 fw_X12_35 (mO11 (by decide)) rfl ?_
  refine Wp.iconst dc_X12_followsOne_19 ic_5 ?_
  refine Wp.dup2 dc_X12_followsOne_20 rfl rfl ?_
  obtain ⟨j21, h21, hE⟩ := bnd hE
  refine Wp.siald dc_X12_followsOne_21 (mO13 (by decide)) h21 ?_
  refine Wp.iload dc_X12_followsOne_22 rfl ?_
  refine Wp.iadd dc_X12_followsOne_24 ?_
  obtain ⟨j25, h25, hE⟩ := bnd hE
  refine Wp.siast dc_X12_followsOne_25 (mO13 (by decide)) h25 ?_
  obtain ⟨σ25, es_25, hE⟩ := bnS hE
  rw [es_25]
  refine Wp.aload_n dc_X12_followsOne_26 rfl ?_
  refine Wp.iload_n dc_X12_followsOne_27 rfl ?_
  obtain ⟨σ28, h28, hE⟩ := bnd hE
  refine Wp.cV1v (ok_X12_drops  h28) dc_X12_followsOne_28 mw_X12_325 (mO11 (by decide)) (by decide) (Nat.le_of_ble_eq_true rfl) ?_
  refine Wp.iload dc_X12_followsOne_31 rfl ?_
  cases hE
  exact Wp.ireturn dc_X12_followsOne_33 rfl rfl (Nat.le_refl _) (Nat.le_refl _) hK
theorem ok_X12_followsOne  {σ : SS}  {x1 : Int32} {x2 : Int32} {o}   (hE : X12_followsOne  σ  x1 x2 = some o) : Runs 2 0 0 mi_X12_followsOne [vr 11 0, vi x1, vi x2] (hp σ) (fun v h => v = some (vi o.1) ∧ h = hp o.2) := by
  refine Runs.of pn_X12 (Nat.le_of_ble_eq_true rfl) ?_
  exact ok_X12_followsOne_j0   hE ⟨rfl, rfl⟩
theorem ok_X12_follow_j0 {Q : Option AV → AH → Prop}  {σ : SS}  {x1 : Int32} {x2 : Int32} {o}    (hE : X12_follow_j0  σ  x1 x2 = some o) (hK : Q (some (vi o.1)) (hp o.2)) : Ws 3 mi_X12_follow Q 0 [some (vr 11 0), some (vi x1), some (vi x2)] [] σ := by
  unfold X12_follow_j0 at hE
  refine Wp.aload_n dc_X12_follow_0 rfl ?_
  refine Wp.iconst dc_X12_follow_1 ic_0 ?_
  refine Wp.sputI dc_X12_follow_2 fw_X12_77 (mO11 (by decide)) (Nr.i _) ?_
  obtain ⟨σ2, es_2, hE⟩ := bnS hE
  rw [es_2]
  refine Wp.aload_n dc_X12_follow_5 rfl ?_
  refine Wp.iconst dc_X12_follow_6 ic_0 ?_
  refine Wp.sputI dc_X12_follow_7 fw_X12_80 (mO11 (by decide)) (Nr.i _) ?_
  obtain ⟨σ7, es_7, hE⟩ := bnS hE
  rw [es_7]
  refine Wp.aload_n dc_X12_follow_10 rfl ?_
  refine Wp.iload_n dc_X12_follow_11 rfl ?_
  obtain ⟨v12, h12, hE⟩ := bnd hE
  refine Wp.cV1i (ok_X12_isLeadAt  h12) dc_X12_follow_12 mw_X12_311 (mO11 (by decide)) (by decide) (Nat.le_of_ble_eq_true rfl) ?_
  refine Wp.if_ne (tgt := 24) dc_X12_follow_15 (by decide) (fun hc15 => ?_) (fun hc15 => ?_)
  · rw [if_neg hc15] at hE
    refine Wp.iload_n dc_X12_follow_24 rfl ?_
    refine Wp.i2l dc_X12_follow_25 ?_
    refine Wp.lconst dc_X12_follow_26 lc_0 ?_
    refine Wp.lconst dc_X12_follow_27 lc_1 ?_
    obtain ⟨v28, h28, hE⟩ := bnd hE
    refine Wp.cS3i (ok_X12_isIn  h28) dc_X12_follow_28 mw_X12_112 (by decide) (Nat.le_of_ble_eq_true rfl) ?_
    refine Wp.if_ne (tgt := 40) dc_X12_follow_31 (by decide) (fun hc31 => ?_) (fun hc31 => ?_)
    · rw [if_neg hc31] at hE
      refine Wp.aload_n dc_X12_follow_40 rfl ?_
      refine Wp.iload_n dc_X12_follow_41 rfl ?_
      obtain ⟨v42, h42, hE⟩ := bnd hE
      refine Wp.cV1i (ok_X12_isInside  h42) dc_X12_follow_42 mw_X12_337 (mO11 (by decide)) (by decide) (Nat.le_of_ble_eq_true rfl) ?_
      refine Wp.if_ne (tgt := 55) dc_X12_follow_45 (by decide) (fun hc45 => ?_) (fun hc45 => ?_)
      · rw [if_neg hc45] at hE
        refine Wp.aload_n dc_X12_follow_55 rfl ?_
        refine Wp.iload_n dc_X12_follow_56 rfl ?_
        refine Wp.iload_n dc_X12_follow_57 rfl ?_
        obtain ⟨v58, h58, hE⟩ := bnd hE
        refine Wp.cV2i (ok_X12_nearest  h58) dc_X12_follow_58 mw_X12_331 (mO11 (by decide)) (by decide) (Nat.le_of_ble_eq_true rfl) ?_
        refine Wp.if_ge (tgt := 73) dc_X12_follow_61 (by decide) (fun hc61 => ?_) (fun hc61 => ?_)
        · rw [if_pos hc61] at hE
          refine Wp.aload_n dc_X12_follow_73 rfl ?_
          refine Wp.iload_n dc_X12_follow_74 rfl ?_
          refine Wp.iload_n dc_X12_follow_75 rfl ?_
          obtain ⟨p76, h76, hE⟩ := bnd hE
          refine Wp.cV2i (ok_X12_followsOne  h76) dc_X12_follow_76 mw_X12_340 (mO11 (by decide)) (by decide) (Nat.le_of_ble_eq_true rfl) ?_
          cases hE
          exact Wp.ireturn dc_X12_follow_79 rfl rfl (Nat.le_refl _) (Nat.le_refl _) hK
        · rw [if_neg hc61] at hE
          refine Wp.aload_n dc_X12_follow_64 rfl ?_
          refine Wp.bipush dc_X12_follow_65 bp_8 ?_
          obtain ⟨p67, h67, hE⟩ := bnd hE
          refine Wp.cV1i (ok_X12_refuse  h67) dc_X12_follow_67 mw_X12_308 (mO11 (by decide)) (by decide) (Nat.le_of_ble_eq_true rfl) ?_
          refine Wp.goto (tgt := 79) dc_X12_follow_70 (by decide) ?_
          cases hE
          exact Wp.ireturn dc_X12_follow_79 rfl rfl (Nat.le_refl _) (Nat.le_refl _) hK
      · rw [if_pos hc45] at hE
        refine Wp.aload_n dc_X12_follow_48 rfl ?_
        refine Wp.bipush dc_X12_follow_49 bp_9 ?_
        obtain ⟨p51, h51, hE⟩ := bnd hE
        refine Wp.cV1i (ok_X12_refuse  h51) dc_X12_follow_51 mw_X12_308 (mO11 (by decide)) (by decide) (Nat.le_of_ble_eq_true rfl) ?_
        cases hE
        exact Wp.ireturn dc_X12_follow_54 rfl rfl (Nat.le_refl _) (Nat.le_refl _) hK
    · rw [if_pos hc31] at hE
      refine Wp.aload_n dc_X12_follow_34 rfl ?_
      refine Wp.iconst dc_X12_follow_35 ic_5 ?_
      obtain ⟨p36, h36, hE⟩ := bnd hE
      refine Wp.cV1i (ok_X12_refuse  h36) dc_X12_follow_36 mw_X12_308 (mO11 (by decide)) (by decide) (Nat.le_of_ble_eq_true rfl) ?_
      cases hE
      exact Wp.ireturn dc_X12_follow_39 rfl rfl (Nat.le_refl _) (Nat.le_refl _) hK
  · rw [if_pos hc15] at hE
    refine Wp.aload_n dc_X12_follow_18 rfl ?_
    refine Wp.iconst dc_X12_follow_19 ic_2 ?_
    obtain ⟨p20, h20, hE⟩ := bnd hE
    refine Wp.cV1i (ok_X12_refuse  h20) dc_X12_follow_20 mw_X12_308 (mO11 (by decide)) (by decide) (Nat.le_of_ble_eq_true rfl) ?_
    cases hE
    exact Wp.ireturn dc_X12_follow_23 rfl rfl (Nat.le_refl _) (Nat.le_refl _) hK
theorem ok_X12_follow  {σ : SS}  {x1 : Int32} {x2 : Int32} {o}   (hE : X12_follow  σ  x1 x2 = some o) : Runs 3 0 0 mi_X12_follow [vr 11 0, vi x1, vi x2] (hp σ) (fun v h => v = some (vi o.1) ∧ h = hp o.2) := by
  refine Runs.of pn_X12 (Nat.le_of_ble_eq_true rfl) ?_
  exact ok_X12_follow_j0   hE ⟨rfl, rfl⟩
def X12_loosensOnce_P21 (Q : Option AV → AH → Prop)   (x1 : Int32) (ss : Int32 × SS) : Prop := Ws 1 mi_X12_loosensOnce Q 21 [some (vr 11 0), some (vi x1), some (vi ss.1)] [] ss.2
def X12_loosensOnce_R21 (Q : Option AV → AH → Prop)   (x1 : Int32) (tt : SS) : Prop := ∀ z0 z2 : Option AV, Ws 1 mi_X12_loosensOnce Q 77 [z0, some (vi x1), z2] [] tt
theorem ok_X12_loosensOnce_j71 {Q : Option AV → AH → Prop}  {σ : SS}  {x1 : Int32} {x2 : Int32} {o}    (hE : X12_loosensOnce_j71  σ  x1 x2 = some o) (hS : ∀ ss, o = Sum.inl ss → (X12_loosensOnce_P21  Q   x1) ss) (hT : ∀ tt, o = Sum.inr tt → (X12_loosensOnce_R21  Q   x1) tt) : Ws 1 mi_X12_loosensOnce Q 71 [some (vr 11 0), some (vi x1), some (vi x2)] [] σ := by
  unfold X12_loosensOnce_j71 at hE
  obtain ⟨x2_71, e_71, hE⟩ := bnS hE
  refine Wp.iinc dc_X12_loosensOnce_71 rfl ((ii ic_m1).trans e_71) (by decide) ?_
  refine Wp.goto (tgt := 21) dc_X12_loosensOnce_74 (by decide) ?_
  cases hE
  exact hS _ rfl
theorem ok_X12_loosensOnce_l21c {Q : Option AV → AH → Prop}  {σ : SS}  {x1 : Int32} {x2 : Int32} {o}    (hE : X12_loosensOnce_l21c  σ  x1 x2 = some o) (hS : ∀ ss, o = Sum.inl ss → (X12_loosensOnce_P21  Q   x1) ss) (hT : ∀ tt, o = Sum.inr tt → (X12_loosensOnce_R21  Q   x1) tt) : Ws 1 mi_X12_loosensOnce Q 21 [some (vr 11 0), some (vi x1), some (vi x2)] [] σ := by
  unfold X12_loosensOnce_l21c at hE
  refine Wp.iload_n dc_X12_loosensOnce_21 rfl ?_
  refine Wp.if_lt (tgt := 77) dc_X12_loosensOnce_22 (by decide) (fun hc22 => ?_) (fun hc22 => ?_)
  · rw [if_pos hc22] at hE
    cases hE
    exact hT _ rfl _ _
  · rw [if_neg hc22] at hE
    refine Wp.aload_n dc_X12_loosensOnce_25 rfl ?_
    refine Wp.sgetR (t := 34) dc_X12_loosensOnce_26 fw_X12_35 (mO11 (by decide)) rfl ?_
    refine Wp.bipush dc_X12_loosensOnce_29 bp_108 ?_
    refine Wp.iload_n dc_X12_loosensOnce_31 rfl ?_
    refine Wp.iadd dc_X12_loosensOnce_32 ?_
    obtain ⟨j33, h33, hE⟩ := bnd hE
    refine Wp.siald dc_X12_loosensOnce_33 (mO13 (by decide)) h33 ?_
    refine Wp.if_ne (tgt := 45) dc_X12_loosensOnce_34 (by decide) (fun hc34 => ?_) (fun hc34 => ?_)
    · rw [if_neg hc34] at hE
      refine Wp.aload_n dc_X12_loosensOnce_45 rfl ?_
      refine Wp.sgetR (t := 34) dc_X12_loosensOnce_46 fw_X12_35 (mO11 (by decide)) rfl ?_
      refine Wp.bipush dc_X12_loosensOnce_49 bp_108 ?_
      refine Wp.iload_n dc_X12_loosensOnce_51 rfl ?_
      refine Wp.iadd dc_X12_loosensOnce_52 ?_
      obtain ⟨j53, h53, hE⟩ := bnd hE
      refine Wp.siald dc_X12_loosensOnce_53 (mO13 (by decide)) h53 ?_
      refine Wp.iconst dc_X12_loosensOnce_54 ic_3 ?_
      refine Wp.icmp_ge (tgt := 71) dc_X12_loosensOnce_55 (by decide) (fun hc55 => ?_) (fun hc55 => ?_)
      · rw [if_pos hc55] at hE
        exact ok_X12_loosensOnce_j71   hE hS hT
      · rw [if_neg hc55] at hE
        refine Wp.aload_n dc_X12_loosensOnce_58 rfl ?_
        refine Wp.sgetR (t := 34) dc_X12_loosensOnce_59 fw_X12_35 (mO11 (by decide)) rfl ?_
        refine Wp.bipush dc_X12_loosensOnce_62 bp_108 ?_
        refine Wp.iload_n dc_X12_loosensOnce_64 rfl ?_
        refine Wp.iadd dc_X12_loosensOnce_65 ?_
        refine Wp.dup2 dc_X12_loosensOnce_66 rfl rfl ?_
        obtain ⟨j67, h67, hE⟩ := bnd hE
        refine Wp.siald dc_X12_loosensOnce_67 (mO13 (by decide)) h67 ?_
        refine Wp.iconst dc_X12_loosensOnce_68 ic_1 ?_
        refine Wp.isub dc_X12_loosensOnce_69 ?_
        obtain ⟨j70, h70, hE⟩ := bnd hE
        refine Wp.siast dc_X12_loosensOnce_70 (mO13 (by decide)) h70 ?_
        obtain ⟨σ70, es_70, hE⟩ := bnS hE
        rw [es_70]
        exact ok_X12_loosensOnce_j71   hE hS hT
    · rw [if_pos hc34] at hE
      refine Wp.aload_n dc_X12_loosensOnce_37 rfl ?_
      refine Wp.iload_n dc_X12_loosensOnce_38 rfl ?_
      obtain ⟨σ39, h39, hE⟩ := bnd hE
      refine Wp.cV1v (ok_X12_drops  h39) dc_X12_loosensOnce_39 mw_X12_325 (mO11 (by decide)) (by decide) (Nat.le_of_ble_eq_true rfl) ?_
      refine Wp.goto (tgt := 71) dc_X12_loosensOnce_42 (by decide) ?_
      exact ok_X12_loosensOnce_j71   hE hS hT
theorem ok_X12_loosensOnce_l21 {Q : Option AV → AH → Prop}  {σ : SS}  {x1 : Int32} {x2 : Int32} {o}    (hE : X12_loosensOnce_l21  σ  x1 x2 = some o) (hK : Q (some (vi o.1)) (hp o.2)) : Ws 1 mi_X12_loosensOnce Q 21 [some (vr 11 0), some (vi x1), some (vi x2)] [] σ := by
  unfold X12_loosensOnce_l21 at hE
  obtain ⟨t21, h1, hE⟩ := bnd hE
  refine iter_ok (P := (X12_loosensOnce_P21  Q   x1)) (R := (X12_loosensOnce_R21  Q   x1)) (fun ss o h2 hS hT => ?_) NF _ _ h1 ?_
  · skip
    exact ok_X12_loosensOnce_l21c   h2 hS hT
  · intro z0 z2
    show Ws 1 mi_X12_loosensOnce Q 77 [z0, some (vi x1), z2] [] t21
    refine Wp.iload_n dc_X12_loosensOnce_77 rfl ?_
    cases hE
    exact Wp.ireturn dc_X12_loosensOnce_78 rfl rfl (Nat.le_refl _) (Nat.le_refl _) hK
theorem ok_X12_loosensOnce_j0 {Q : Option AV → AH → Prop}  {σ : SS}   {o} {z1 z2 : Option AV}   (hE : X12_loosensOnce_j0  σ   = some o) (hK : Q (some (vi o.1)) (hp o.2)) : Ws 1 mi_X12_loosensOnce Q 0 [some (vr 11 0), z1, z2] [] σ := by
  unfold X12_loosensOnce_j0 at hE
  refine Wp.aload_n dc_X12_loosensOnce_0 rfl ?_
  refine Wp.sgetR (t := 34) dc_X12_loosensOnce_1 fw_X12_35 (mO11 (by decide)) rfl ?_
  refine Wp.iconst dc_X12_loosensOnce_4 ic_1 ?_
  obtain ⟨j5, h5, hE⟩ := bnd hE
  refine Wp.siald dc_X12_loosensOnce_5 (mO13 (by decide)) h5 ?_
  obtain ⟨x1_6, e_6, hE⟩ := bnS hE
  rw [e_6]
  refine Wp.istore_n dc_X12_loosensOnce_6 (by decide) ?_
  refine Wp.aload_n dc_X12_loosensOnce_7 rfl ?_
  refine Wp.sgetR (t := 34) dc_X12_loosensOnce_8 fw_X12_35 (mO11 (by decide)) rfl ?_
  refine Wp.iconst dc_X12_loosensOnce_11 ic_5 ?_
  refine Wp.dup2 dc_X12_loosensOnce_12 rfl rfl ?_
  obtain ⟨j13, h13, hE⟩ := bnd hE
  refine Wp.siald dc_X12_loosensOnce_13 (mO13 (by decide)) h13 ?_
  refine Wp.iload_n dc_X12_loosensOnce_14 rfl ?_
  refine Wp.iadd dc_X12_loosensOnce_15 ?_
  obtain ⟨j16, h16, hE⟩ := bnd hE
  refine Wp.siast dc_X12_loosensOnce_16 (mO13 (by decide)) h16 ?_
  obtain ⟨σ16, es_16, hE⟩ := bnS hE
  rw [es_16]
  refine Wp.iload_n dc_X12_loosensOnce_17 rfl ?_
  refine Wp.iconst dc_X12_loosensOnce_18 ic_1 ?_
  refine Wp.isub dc_X12_loosensOnce_19 ?_
  obtain ⟨x2_20, e_20, hE⟩ := bnS hE
  rw [e_20]
  refine Wp.istore_n dc_X12_loosensOnce_20 (by decide) ?_
  exact ok_X12_loosensOnce_l21   hE hK
theorem ok_X12_loosensOnce  {σ : SS}   {o}   (hE : X12_loosensOnce  σ   = some o) : Runs 1 0 0 mi_X12_loosensOnce [vr 11 0] (hp σ) (fun v h => v = some (vi o.1) ∧ h = hp o.2) := by
  refine Runs.of pn_X12 (Nat.le_of_ble_eq_true rfl) ?_
  exact ok_X12_loosensOnce_j0   hE ⟨rfl, rfl⟩
