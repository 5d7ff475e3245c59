/-! certificates (by program: wip/whole/gen.py) -/
theorem ok_X12_loosen_j0 {Q : Option AV → AH → Prop}  {σ : SS}   {o}    (hE : X12_loosen_j0  σ   = some o) (hK : Q (some (vi o.1)) (hp o.2)) : Ws 2 mi_X12_loosen Q 0 [some (vr 11 0)] [] σ := by
  unfold X12_loosen_j0 at hE
  refine Wp.aload_n dc_X12_loosen_0 rfl ?_
  refine Wp.iconst dc_X12_loosen_1 ic_0 ?_
  refine Wp.sputI dc_X12_loosen_2 fw_X12_77 (mO11 (by decide)) (Nr.i _) ?_
  obtain ⟨σ2, es_2, hE⟩ := bnS hE
  rw [es_2]
  refine Wp.aload_n dc_X12_loosen_5 rfl ?_
  refine Wp.iconst dc_X12_loosen_6 ic_0 ?_
  refine Wp.sputI dc_X12_loosen_7 fw_X12_80 (mO11 (by decide)) (Nr.i _) ?_
  obtain ⟨σ7, es_7, hE⟩ := bnS hE
  rw [es_7]
  refine Wp.aload_n dc_X12_loosen_10 rfl ?_
  obtain ⟨p11, h11, hE⟩ := bnd hE
  refine Wp.cV0i (ok_X12_loosensOnce  h11) dc_X12_loosen_11 mw_X12_343 (mO11 (by decide)) (by decide) (Nat.le_of_ble_eq_true rfl) ?_
  cases hE
  exact Wp.ireturn dc_X12_loosen_14 rfl rfl (Nat.le_refl _) (Nat.le_refl _) hK
theorem ok_X12_loosen  {σ : SS}   {o}   (hE : X12_loosen  σ   = some o) : Runs 2 0 0 mi_X12_loosen [vr 11 0] (hp σ) (fun v h => v = some (vi o.1) ∧ h = hp o.2) := by
  refine Runs.of pn_X12 (Nat.le_of_ble_eq_true rfl) ?_
  exact ok_X12_loosen_j0   hE ⟨rfl, rfl⟩
def X12_lumpOf_P6 (Q : Option AV → AH → Prop) (σ : SS)   (ss : Int32 × Int32) : Prop := ∀ z1 z4 : Option AV, Ws 1 mi_X12_lumpOf Q 6 [some (vr 11 0), z1, some (vi ss.1), some (vi ss.2), z4] [] σ
def X12_lumpOf_R6 (Q : Option AV → AH → Prop) (σ : SS)   (tt : Int32) : Prop := ∀ z0 z1 z3 z4 : Option AV, Ws 1 mi_X12_lumpOf Q 111 [z0, z1, some (vi tt), z3, z4] [] σ
def X12_lumpOf_P16 (Q : Option AV → AH → Prop) (σ : SS)  (x2 : Int32) (ss : Int32 × Int32) : Prop := ∀ z1 : Option AV, Ws 1 mi_X12_lumpOf Q 16 [some (vr 11 0), z1, some (vi x2), some (vi ss.1), some (vi ss.2)] [] σ
def X12_lumpOf_R16 (Q : Option AV → AH → Prop) (σ : SS)  (x2 : Int32) (tt : Int32) : Prop := ∀ z1 z4 : Option AV, Ws 1 mi_X12_lumpOf Q 108 [some (vr 11 0), z1, some (vi x2), some (vi tt), z4] [] σ
theorem ok_X12_lumpOf_j102 {Q : Option AV → AH → Prop}  {σ : SS}  {x2 : Int32} {x3 : Int32} {x4 : Int32} {o} {z1 : Option AV}   (hE : X12_lumpOf_j102  σ  x2 x3 x4 = some o) (hS : ∀ ss, o = Sum.inl ss → (X12_lumpOf_P16  Q σ  x2) ss) (hT : ∀ tt, o = Sum.inr tt → (X12_lumpOf_R16  Q σ  x2) tt) : Ws 1 mi_X12_lumpOf Q 102 [some (vr 11 0), z1, some (vi x2), some (vi x3), some (vi x4)] [] σ := by
  unfold X12_lumpOf_j102 at hE
  obtain ⟨x4_102, e_102, hE⟩ := bnS hE
  refine Wp.iinc dc_X12_lumpOf_102 rfl ((ii ic_1).trans e_102) (by decide) ?_
  refine Wp.goto (tgt := 16) dc_X12_lumpOf_105 (by decide) ?_
  cases hE
  exact hS _ rfl _
theorem ok_X12_lumpOf_j74 {Q : Option AV → AH → Prop}  {σ : SS}  {x2 : Int32} {x3 : Int32} {x4 : Int32} {o} {z1 : Option AV}   (hE : X12_lumpOf_j74  σ  x2 x3 x4 = some o) (hS : ∀ ss, o = Sum.inl ss → (X12_lumpOf_P16  Q σ  x2) ss) (hT : ∀ tt, o = Sum.inr tt → (X12_lumpOf_R16  Q σ  x2) tt) : Ws 1 mi_X12_lumpOf Q 74 [some (vr 11 0), z1, some (vi x2), some (vi x3), some (vi x4)] [] σ := by
  unfold X12_lumpOf_j74 at hE
  refine Wp.iload_n dc_X12_lumpOf_74 rfl ?_
  refine Wp.iconst dc_X12_lumpOf_75 ic_1 ?_
  refine Wp.aload_n dc_X12_lumpOf_76 rfl ?_
  refine Wp.sgetR (t := 34) dc_X12_lumpOf_77 fw_X12_35 (mO11 (by decide)) rfl ?_
  refine Wp.bipush dc_X12_lumpOf_80 bp_60 ?_
  refine Wp.iload dc_X12_lumpOf_82 rfl ?_
  refine Wp.iadd dc_X12_lumpOf_84 ?_
  obtain ⟨j85, h85, hE⟩ := bnd hE
  refine Wp.siald dc_X12_lumpOf_85 (mO13 (by decide)) h85 ?_
  refine Wp.ishl dc_X12_lumpOf_86 ?_
  refine Wp.iconst dc_X12_lumpOf_87 ic_1 ?_
  refine Wp.aload_n dc_X12_lumpOf_88 rfl ?_
  refine Wp.sgetR (t := 34) dc_X12_lumpOf_89 fw_X12_35 (mO11 (by decide)) rfl ?_
  refine Wp.bipush dc_X12_lumpOf_92 bp_84 ?_
  refine Wp.iload dc_X12_lumpOf_94 rfl ?_
  refine Wp.iadd dc_X12_lumpOf_96 ?_
  obtain ⟨j97, h97, hE⟩ := bnd hE
  refine Wp.siald dc_X12_lumpOf_97 (mO13 (by decide)) h97 ?_
  refine Wp.ishl dc_X12_lumpOf_98 ?_
  refine Wp.ior dc_X12_lumpOf_99 ?_
  refine Wp.ior dc_X12_lumpOf_100 ?_
  obtain ⟨x3_101, e_101, hE⟩ := bnS hE
  rw [e_101]
  refine Wp.istore_n dc_X12_lumpOf_101 (by decide) ?_
  exact ok_X12_lumpOf_j102   hE hS hT
theorem ok_X12_lumpOf_l16c {Q : Option AV → AH → Prop}  {σ : SS}  {x2 : Int32} {x3 : Int32} {x4 : Int32} {o} {z1 : Option AV}   (hE : X12_lumpOf_l16c  σ  x2 x3 x4 = some o) (hS : ∀ ss, o = Sum.inl ss → (X12_lumpOf_P16  Q σ  x2) ss) (hT : ∀ tt, o = Sum.inr tt → (X12_lumpOf_R16  Q σ  x2) tt) : Ws 1 mi_X12_lumpOf Q 16 [some (vr 11 0), z1, some (vi x2), some (vi x3), some (vi x4)] [] σ := by
  unfold X12_lumpOf_l16c at hE
  refine Wp.iload dc_X12_lumpOf_16 rfl ?_
  refine Wp.aload_n dc_X12_lumpOf_18 rfl ?_
  refine Wp.sgetR (t := 34) dc_X12_lumpOf_19 fw_X12_35 (mO11 (by decide)) rfl ?_
  refine Wp.iconst dc_X12_lumpOf_22 ic_1 ?_
  obtain ⟨j23, h23, hE⟩ := bnd hE
  refine Wp.siald dc_X12_lumpOf_23 (mO13 (by decide)) h23 ?_
  refine Wp.icmp_ge (tgt := 108) dc_X12_lumpOf_24 (by decide) (fun hc24 => ?_) (fun hc24 => ?_)
  · rw [if_pos hc24] at hE
    cases hE
    exact hT _ rfl _ _
  · rw [if_neg hc24] at hE
    refine Wp.aload_n dc_X12_lumpOf_27 rfl ?_
    refine Wp.sgetR (t := 34) dc_X12_lumpOf_28 fw_X12_35 (mO11 (by decide)) rfl ?_
    refine Wp.bipush dc_X12_lumpOf_31 bp_108 ?_
    refine Wp.iload dc_X12_lumpOf_33 rfl ?_
    refine Wp.iadd dc_X12_lumpOf_35 ?_
    obtain ⟨j36, h36, hE⟩ := bnd hE
    refine Wp.siald dc_X12_lumpOf_36 (mO13 (by decide)) h36 ?_
    refine Wp.if_eq (tgt := 102) dc_X12_lumpOf_37 (by decide) (fun hc37 => ?_) (fun hc37 => ?_)
    · rw [if_pos hc37] at hE
      exact ok_X12_lumpOf_j102   hE hS hT
    · rw [if_neg hc37] at hE
      refine Wp.iload_n dc_X12_lumpOf_40 rfl ?_
      refine Wp.aload_n dc_X12_lumpOf_41 rfl ?_
      refine Wp.sgetR (t := 34) dc_X12_lumpOf_42 fw_X12_35 (mO11 (by decide)) rfl ?_
      refine Wp.bipush dc_X12_lumpOf_45 bp_60 ?_
      refine Wp.iload dc_X12_lumpOf_47 rfl ?_
      refine Wp.iadd dc_X12_lumpOf_49 ?_
      obtain ⟨j50, h50, hE⟩ := bnd hE
      refine Wp.siald dc_X12_lumpOf_50 (mO13 (by decide)) h50 ?_
      obtain ⟨v51, h51, hE⟩ := bnd hE
      refine Wp.cS2i (ok_X12_has  h51) dc_X12_lumpOf_51 mw_X12_116 (by decide) (Nat.le_of_ble_eq_true rfl) ?_
      refine Wp.if_ne (tgt := 74) dc_X12_lumpOf_54 (by decide) (fun hc54 => ?_) (fun hc54 => ?_)
      · rw [if_neg hc54] at hE
        exact ok_X12_lumpOf_j74   hE hS hT
      · rw [if_pos hc54] at hE
        refine Wp.iload_n dc_X12_lumpOf_57 rfl ?_
        refine Wp.aload_n dc_X12_lumpOf_58 rfl ?_
        refine Wp.sgetR (t := 34) dc_X12_lumpOf_59 fw_X12_35 (mO11 (by decide)) rfl ?_
        refine Wp.bipush dc_X12_lumpOf_62 bp_84 ?_
        refine Wp.iload dc_X12_lumpOf_64 rfl ?_
        refine Wp.iadd dc_X12_lumpOf_66 ?_
        obtain ⟨j67, h67, hE⟩ := bnd hE
        refine Wp.siald dc_X12_lumpOf_67 (mO13 (by decide)) h67 ?_
        obtain ⟨v68, h68, hE⟩ := bnd hE
        refine Wp.cS2i (ok_X12_has  h68) dc_X12_lumpOf_68 mw_X12_116 (by decide) (Nat.le_of_ble_eq_true rfl) ?_
        refine Wp.if_eq (tgt := 102) dc_X12_lumpOf_71 (by decide) (fun hc71 => ?_) (fun hc71 => ?_)
        · rw [if_pos hc71] at hE
          exact ok_X12_lumpOf_j102   hE hS hT
        · rw [if_neg hc71] at hE
          exact ok_X12_lumpOf_j74   hE hS hT
theorem ok_X12_lumpOf_l16 {Q : Option AV → AH → Prop}  {σ : SS}  {x2 : Int32} {x3 : Int32} {x4 : Int32} {o} {z1 : Option AV}   (hE : X12_lumpOf_l16  σ  x2 x3 x4 = some o) (hS : ∀ ss, o = Sum.inl ss → (X12_lumpOf_P6  Q σ  ) ss) (hT : ∀ tt, o = Sum.inr tt → (X12_lumpOf_R6  Q σ  ) tt) : Ws 1 mi_X12_lumpOf Q 16 [some (vr 11 0), z1, some (vi x2), some (vi x3), some (vi x4)] [] σ := by
  unfold X12_lumpOf_l16 at hE
  obtain ⟨t16, h1, hE⟩ := bnd hE
  refine iter_ok (P := (X12_lumpOf_P16  Q σ  x2)) (R := (X12_lumpOf_R16  Q σ  x2)) (fun ss o h2 hS hT => ?_) NF _ _ h1 ?_ _
  · intro z1
    exact ok_X12_lumpOf_l16c   h2 hS hT
  · intro z1 z4
    show Ws 1 mi_X12_lumpOf Q 108 [some (vr 11 0), z1, some (vi x2), some (vi t16), z4] [] σ
    refine Wp.goto (tgt := 6) dc_X12_lumpOf_108 (by decide) ?_
    cases hE
    exact hS _ rfl _ _
theorem ok_X12_lumpOf_l6c {Q : Option AV → AH → Prop}  {σ : SS}   {x2 : Int32} {x3 : Int32} {o} {z1 z4 : Option AV}   (hE : X12_lumpOf_l6c  σ   x2 x3 = some o) (hS : ∀ ss, o = Sum.inl ss → (X12_lumpOf_P6  Q σ  ) ss) (hT : ∀ tt, o = Sum.inr tt → (X12_lumpOf_R6  Q σ  ) tt) : Ws 1 mi_X12_lumpOf Q 6 [some (vr 11 0), z1, some (vi x2), some (vi x3), z4] [] σ := by
  unfold X12_lumpOf_l6c at hE
  refine Wp.iload_n dc_X12_lumpOf_6 rfl ?_
  refine Wp.iload_n dc_X12_lumpOf_7 rfl ?_
  refine Wp.icmp_eq (tgt := 111) dc_X12_lumpOf_8 (by decide) (fun hc8 => ?_) (fun hc8 => ?_)
  · rw [if_pos hc8] at hE
    cases hE
    exact hT _ rfl _ _ _ _
  · rw [if_neg hc8] at hE
    refine Wp.iload_n dc_X12_lumpOf_11 rfl ?_
    refine Wp.istore_n dc_X12_lumpOf_12 (by decide) ?_
    refine Wp.iconst dc_X12_lumpOf_13 ic_0 ?_
    refine Wp.istore dc_X12_lumpOf_14 (by decide) ?_
    exact ok_X12_lumpOf_l16   hE hS hT
theorem ok_X12_lumpOf_l6 {Q : Option AV → AH → Prop}  {σ : SS}  {x2 : Int32} {x3 : Int32} {o} {z1 z4 : Option AV}   (hE : X12_lumpOf_l6  σ  x2 x3 = some o) (hK : Q (some (vi o)) (hp σ)) : Ws 1 mi_X12_lumpOf Q 6 [some (vr 11 0), z1, some (vi x2), some (vi x3), z4] [] σ := by
  unfold X12_lumpOf_l6 at hE
  obtain ⟨t6, h1, hE⟩ := bnd hE
  refine iter_ok (P := (X12_lumpOf_P6  Q σ  )) (R := (X12_lumpOf_R6  Q σ  )) (fun ss o h2 hS hT => ?_) NF _ _ h1 ?_ _ _
  · intro z1 z4
    exact ok_X12_lumpOf_l6c   h2 hS hT
  · intro z0 z1 z3 z4
    show Ws 1 mi_X12_lumpOf Q 111 [z0, z1, some (vi t6), z3, z4] [] σ
    refine Wp.iload_n dc_X12_lumpOf_111 rfl ?_
    cases hE
    exact Wp.ireturn dc_X12_lumpOf_112 rfl rfl (Nat.le_refl _) (Nat.le_refl _) hK
theorem ok_X12_lumpOf_j0 {Q : Option AV → AH → Prop}  {σ : SS}  {x1 : Int32} {o} {z2 z3 z4 : Option AV}   (hE : X12_lumpOf_j0  σ  x1 = some o) (hK : Q (some (vi o)) (hp σ)) : Ws 1 mi_X12_lumpOf Q 0 [some (vr 11 0), some (vi x1), z2, z3, z4] [] σ := by
  unfold X12_lumpOf_j0 at hE
  refine Wp.iconst dc_X12_lumpOf_0 ic_0 ?_
  refine Wp.istore_n dc_X12_lumpOf_1 (by decide) ?_
  refine Wp.iconst dc_X12_lumpOf_2 ic_1 ?_
  refine Wp.iload_n dc_X12_lumpOf_3 rfl ?_
  refine Wp.ishl dc_X12_lumpOf_4 ?_
  obtain ⟨x3_5, e_5, hE⟩ := bnS hE
  rw [e_5]
  refine Wp.istore_n dc_X12_lumpOf_5 (by decide) ?_
  exact ok_X12_lumpOf_l6   hE hK
theorem ok_X12_lumpOf  {σ : SS}  {x1 : Int32} {o}   (hE : X12_lumpOf  σ  x1 = some o) : Runs 1 0 0 mi_X12_lumpOf [vr 11 0, vi x1] (hp σ) (fun v h => v = some (vi o) ∧ h = hp σ) := by
  refine Runs.of pn_X12 (Nat.le_of_ble_eq_true rfl) ?_
  exact ok_X12_lumpOf_j0   hE ⟨rfl, rfl⟩
def X12_pulls_P38 (Q : Option AV → AH → Prop)   (x1 : Int32) (ss : Int32 × SS) : Prop := Ws 2 mi_X12_pulls Q 38 [some (vr 11 0), some (vi x1), some (vi ss.1)] [] ss.2
def X12_pulls_R38 (Q : Option AV → AH → Prop)   (x1 : Int32) (tt : SS) : Prop := ∀ z0 z1 z2 : Option AV, Ws 2 mi_X12_pulls Q 104 [z0, z1, z2] [] tt
theorem ok_X12_pulls_j98 {Q : Option AV → AH → Prop}  {σ : SS}  {x1 : Int32} {x2 : Int32} {o}    (hE : X12_pulls_j98  σ  x1 x2 = some o) (hS : ∀ ss, o = Sum.inl ss → (X12_pulls_P38  Q   x1) ss) (hT : ∀ tt, o = Sum.inr tt → (X12_pulls_R38  Q   x1) tt) : Ws 2 mi_X12_pulls Q 98 [some (vr 11 0), some (vi x1), some (vi x2)] [] σ := by
  unfold X12_pulls_j98 at hE
  obtain ⟨x2_98, e_98, hE⟩ := bnS hE
  refine Wp.iinc dc_X12_pulls_98 rfl ((ii ic_m1).trans e_98) (by decide) ?_
  refine Wp.goto (tgt := 38) dc_X12_pulls_101 (by decide) ?_
  cases hE
  exact hS _ rfl
theorem ok_X12_pulls_l38c {Q : Option AV → AH → Prop}  {σ : SS}  {x1 : Int32} {x2 : Int32} {o}    (hE : X12_pulls_l38c  σ  x1 x2 = some o) (hS : ∀ ss, o = Sum.inl ss → (X12_pulls_P38  Q   x1) ss) (hT : ∀ tt, o = Sum.inr tt → (X12_pulls_R38  Q   x1) tt) : Ws 2 mi_X12_pulls Q 38 [some (vr 11 0), some (vi x1), some (vi x2)] [] σ := by
  unfold X12_pulls_l38c at hE
  refine Wp.iload_n dc_X12_pulls_38 rfl ?_
  refine Wp.if_lt (tgt := 104) dc_X12_pulls_39 (by decide) (fun hc39 => ?_) (fun hc39 => ?_)
  · rw [if_pos hc39] at hE
    cases hE
    exact hT _ rfl _ _ _
  · rw [if_neg hc39] at hE
    refine Wp.aload_n dc_X12_pulls_42 rfl ?_
    refine Wp.iload_n dc_X12_pulls_43 rfl ?_
    refine Wp.iload_n dc_X12_pulls_44 rfl ?_
    obtain ⟨v45, h45, hE⟩ := bnd hE
    refine Wp.cV2i (ok_X12_isOf  h45) dc_X12_pulls_45 mw_X12_300 (mO11 (by decide)) (by decide) (Nat.le_of_ble_eq_true rfl) ?_
    refine Wp.if_ne (tgt := 54) dc_X12_pulls_48 (by decide) (fun hc48 => ?_) (fun hc48 => ?_)
    · rw [if_neg hc48] at hE
      refine Wp.aload_n dc_X12_pulls_54 rfl ?_
      refine Wp.sgetR (t := 34) dc_X12_pulls_55 fw_X12_35 (mO11 (by decide)) rfl ?_
      refine Wp.bipush dc_X12_pulls_58 bp_108 ?_
      refine Wp.iload_n dc_X12_pulls_60 rfl ?_
      refine Wp.iadd dc_X12_pulls_61 ?_
      obtain ⟨j62, h62, hE⟩ := bnd hE
      refine Wp.siald dc_X12_pulls_62 (mO13 (by decide)) h62 ?_
      refine Wp.if_ne (tgt := 74) dc_X12_pulls_63 (by decide) (fun hc63 => ?_) (fun hc63 => ?_)
      · rw [if_neg hc63] at hE
        refine Wp.aload_n dc_X12_pulls_74 rfl ?_
        refine Wp.sgetR (t := 34) dc_X12_pulls_75 fw_X12_35 (mO11 (by decide)) rfl ?_
        refine Wp.bipush dc_X12_pulls_78 bp_108 ?_
        refine Wp.iload_n dc_X12_pulls_80 rfl ?_
        refine Wp.iadd dc_X12_pulls_81 ?_
        refine Wp.iconst dc_X12_pulls_82 ic_3 ?_
        refine Wp.aload_n dc_X12_pulls_83 rfl ?_
        refine Wp.sgetR (t := 34) dc_X12_pulls_84 fw_X12_35 (mO11 (by decide)) rfl ?_
        refine Wp.bipush dc_X12_pulls_87 bp_108 ?_
        refine Wp.iload_n dc_X12_pulls_89 rfl ?_
        refine Wp.iadd dc_X12_pulls_90 ?_
        obtain ⟨j91, h91, hE⟩ := bnd hE
        refine Wp.siald dc_X12_pulls_91 (mO13 (by decide)) h91 ?_
        refine Wp.iconst dc_X12_pulls_92 ic_1 ?_
        refine Wp.iadd dc_X12_pulls_93 ?_
        refine Wp.mmin dc_X12_pulls_94 lw_X12_303 ms_min mi_Math mk_min (by decide) (Nat.le_refl _) (Nat.le_refl _) (Nat.le_of_ble_eq_true rfl) ?_
        obtain ⟨j97, h97, hE⟩ := bnd hE
        refine Wp.siast dc_X12_pulls_97 (mO13 (by decide)) h97 ?_
        obtain ⟨σ97, es_97, hE⟩ := bnS hE
        rw [es_97]
        exact ok_X12_pulls_j98   hE hS hT
      · rw [if_pos hc63] at hE
        refine Wp.aload_n dc_X12_pulls_66 rfl ?_
        refine Wp.iload_n dc_X12_pulls_67 rfl ?_
        obtain ⟨σ68, h68, hE⟩ := bnd hE
        refine Wp.cV1v (ok_X12_drops  h68) dc_X12_pulls_68 mw_X12_325 (mO11 (by decide)) (by decide) (Nat.le_of_ble_eq_true rfl) ?_
        refine Wp.goto (tgt := 98) dc_X12_pulls_71 (by decide) ?_
        exact ok_X12_pulls_j98   hE hS hT
    · rw [if_pos hc48] at hE
      refine Wp.goto (tgt := 98) dc_X12_pulls_51 (by decide) ?_
      exact ok_X12_pulls_j98   hE hS hT
theorem ok_X12_pulls_l38 {Q : Option AV → AH → Prop}  {σ : SS}  {x1 : Int32} {x2 : Int32} {o}    (hE : X12_pulls_l38  σ  x1 x2 = some o) (hK : Q none (hp o)) : Ws 2 mi_X12_pulls Q 38 [some (vr 11 0), some (vi x1), some (vi x2)] [] σ := by
  unfold X12_pulls_l38 at hE
  obtain ⟨t38, h1, hE⟩ := bnd hE
  refine iter_ok (P := (X12_pulls_P38  Q   x1)) (R := (X12_pulls_R38  Q   x1)) (fun ss o h2 hS hT => ?_) NF _ _ h1 ?_
  · skip
    exact ok_X12_pulls_l38c   h2 hS hT
  · intro z0 z1 z2
    show Ws 2 mi_X12_pulls Q 104 [z0, z1, z2] [] t38
    cases hE
    exact Wp.return dc_X12_pulls_104 rfl (Nat.le_refl _) (Nat.le_refl _) hK
theorem ok_X12_pulls_j0 {Q : Option AV → AH → Prop}  {σ : SS}  {x1 : Int32} {o} {z2 : Option AV}   (hE : X12_pulls_j0  σ  x1 = some o) (hK : Q none (hp o)) : Ws 2 mi_X12_pulls Q 0 [some (vr 11 0), some (vi x1), z2] [] σ := by
  unfold X12_pulls_j0 at hE
  refine Wp.aload_n dc_X12_pulls_0 rfl ?_
  refine Wp.sgetR (t := 34) dc_X12_pulls_1 fw_X12_35 (mO11 (by decide)) rfl ?_
  refine Wp.iconst dc_X12_pulls_4 ic_5 ?_
  refine Wp.dup2 dc_X12_pulls_5 rfl rfl ?_
  obtain ⟨j6, h6, hE⟩ := bnd hE
  refine Wp.siald dc_X12_pulls_6 (mO13 (by decide)) h6 ?_
  refine Wp.iconst dc_X12_pulls_7 ic_2 ?_
  refine Wp.iadd dc_X12_pulls_8 ?_
  obtain ⟨j9, h9, hE⟩ := bnd hE
  refine Wp.siast dc_X12_pulls_9 (mO13 (by decide)) h9 ?_
  obtain ⟨σ9, es_9, hE⟩ := bnS hE
  rw [es_9]
  refine Wp.aload_n dc_X12_pulls_10 rfl ?_
  refine Wp.iload_n dc_X12_pulls_11 rfl ?_
  obtain ⟨v12, h12, hE⟩ := bnd hE
  refine Wp.cV1i (ok_X12_lumpOf  h12) dc_X12_pulls_12 mw_X12_346 (mO11 (by decide)) (by decide) (Nat.le_of_ble_eq_true rfl) ?_
  obtain ⟨v15, h15, hE⟩ := bnd hE
  refine Wp.cS1i (ok_X12_sizeOf  h15) dc_X12_pulls_15 mw_X12_349 (by decide) (Nat.le_of_ble_eq_true rfl) ?_
  refine Wp.iconst dc_X12_pulls_18 ic_1 ?_
  refine Wp.icmp_ne (tgt := 29) dc_X12_pulls_19 (by decide) (fun hc19 => ?_) (fun hc19 => ?_)
  · rw [if_neg hc19] at hE
    refine Wp.aload_n dc_X12_pulls_29 rfl ?_
    refine Wp.sgetR (t := 34) dc_X12_pulls_30 fw_X12_35 (mO11 (by decide)) rfl ?_
    refine Wp.iconst dc_X12_pulls_33 ic_1 ?_
    obtain ⟨j34, h34, hE⟩ := bnd hE
    refine Wp.siald dc_X12_pulls_34 (mO13 (by decide)) h34 ?_
    refine Wp.iconst dc_X12_pulls_35 ic_1 ?_
    refine Wp.isub dc_X12_pulls_36 ?_
    obtain ⟨x2_37, e_37, hE⟩ := bnS hE
    rw [e_37]
    refine Wp.istore_n dc_X12_pulls_37 (by decide) ?_
    exact ok_X12_pulls_l38   hE hK
  · rw [if_pos hc19] at hE
    refine Wp.aload_n dc_X12_pulls_22 rfl ?_
    refine Wp.iload_n dc_X12_pulls_23 rfl ?_
    obtain ⟨p24, h24, hE⟩ := bnd hE
    refine Wp.cV1i (ok_X12_dropsAll  h24) dc_X12_pulls_24 mw_X12_352 (mO11 (by decide)) (by decide) (Nat.le_of_ble_eq_true rfl) ?_
    refine Wp.pop dc_X12_pulls_27 rfl ?_
    cases hE
    exact Wp.return dc_X12_pulls_28 rfl (Nat.le_refl _) (Nat.le_refl _) hK
theorem ok_X12_pulls  {σ : SS}  {x1 : Int32} {o}   (hE : X12_pulls  σ  x1 = some o) : Runs 2 0 0 mi_X12_pulls [vr 11 0, vi x1] (hp σ) (fun v h => v = none ∧ h = hp o) := by
  refine Runs.of pn_X12 (Nat.le_of_ble_eq_true rfl) ?_
  exact ok_X12_pulls_j0   hE ⟨rfl, rfl⟩
theorem ok_X12_pull_j0 {Q : Option AV → AH → Prop}  {σ : SS}  {x1 : Int32} {o} {z2 : Option AV}   (hE : X12_pull_j0  σ  x1 = some o) (hK : Q (some (vi o.1)) (hp o.2)) : Ws 3 mi_X12_pull Q 0 [some (vr 11 0), some (vi x1), z2] [] σ := by
  unfold X12_pull_j0 at hE
  refine Wp.aload_n dc_X12_pull_0 rfl ?_
  refine Wp.iconst dc_X12_pull_1 ic_0 ?_
  refine Wp.sputI dc_X12_pull_2 fw_X12_77 (mO11 (by decide)) (Nr.i _) ?_
  obtain ⟨σ2, es_2, hE⟩ := bnS hE
  rw [es_2]
  refine Wp.aload_n dc_X12_pull_5 rfl ?_
  refine Wp.iconst dc_X12_pull_6 ic_0 ?_
  refine Wp.sputI dc_X12_pull_7 fw_X12_80 (mO11 (by decide)) (Nr.i _) ?_
  obtain ⟨σ7, es_7, hE⟩ := bnS hE
  rw [es_7]
  refine Wp.aload_n dc_X12_pull_10 rfl ?_
  refine Wp.iload_n dc_X12_pull_11 rfl ?_
  obtain ⟨v12, h12, hE⟩ := bnd hE
  refine Wp.cV1i (ok_X12_isLeadAt  h12) dc_X12_pull_12 mw_X12_311 (mO11 (by decide)) (by decide) (Nat.le_of_ble_eq_true rfl) ?_
  refine Wp.if_ne (tgt := 24) dc_X12_pull_15 (by decide) (fun hc15 => ?_) (fun hc15 => ?_)
  · rw [if_neg hc15] at hE
    refine Wp.aload_n dc_X12_pull_24 rfl ?_
    refine Wp.iload_n dc_X12_pull_25 rfl ?_
    obtain ⟨v26, h26, hE⟩ := bnd hE
    refine Wp.cV1i (ok_X12_isInside  h26) dc_X12_pull_26 mw_X12_337 (mO11 (by decide)) (by decide) (Nat.le_of_ble_eq_true rfl) ?_
    refine Wp.if_ne (tgt := 39) dc_X12_pull_29 (by decide) (fun hc29 => ?_) (fun hc29 => ?_)
    · rw [if_neg hc29] at hE
      refine Wp.aload_n dc_X12_pull_39 rfl ?_
      refine Wp.iload_n dc_X12_pull_40 rfl ?_
      obtain ⟨v41, h41, hE⟩ := bnd hE
      refine Wp.cV1i (ok_X12_lumpOf  h41) dc_X12_pull_41 mw_X12_346 (mO11 (by decide)) (by decide) (Nat.le_of_ble_eq_true rfl) ?_
      obtain ⟨v44, h44, hE⟩ := bnd hE
      refine Wp.cS1i (ok_X12_sizeOf  h44) dc_X12_pull_44 mw_X12_349 (by decide) (Nat.le_of_ble_eq_true rfl) ?_
      refine Wp.istore_n dc_X12_pull_47 (by decide) ?_
      refine Wp.aload_n dc_X12_pull_48 rfl ?_
      refine Wp.iload_n dc_X12_pull_49 rfl ?_
      obtain ⟨σ50, h50, hE⟩ := bnd hE
      refine Wp.cV1v (ok_X12_pulls  h50) dc_X12_pull_50 mw_X12_355 (mO11 (by decide)) (by decide) (Nat.le_of_ble_eq_true rfl) ?_
      refine Wp.iload_n dc_X12_pull_53 rfl ?_
      cases hE
      exact Wp.ireturn dc_X12_pull_54 rfl rfl (Nat.le_refl _) (Nat.le_refl _) hK
    · rw [if_pos hc29] at hE
      refine Wp.aload_n dc_X12_pull_32 rfl ?_
      refine Wp.bipush dc_X12_pull_33 bp_9 ?_
      obtain ⟨p35, h35, hE⟩ := bnd hE
      refine Wp.cV1i (ok_X12_refuse  h35) dc_X12_pull_35 mw_X12_308 (mO11 (by decide)) (by decide) (Nat.le_of_ble_eq_true rfl) ?_
      cases hE
      exact Wp.ireturn dc_X12_pull_38 rfl rfl (Nat.le_refl _) (Nat.le_refl _) hK
  · rw [if_pos hc15] at hE
    refine Wp.aload_n dc_X12_pull_18 rfl ?_
    refine Wp.iconst dc_X12_pull_19 ic_2 ?_
    obtain ⟨p20, h20, hE⟩ := bnd hE
    refine Wp.cV1i (ok_X12_refuse  h20) dc_X12_pull_20 mw_X12_308 (mO11 (by decide)) (by decide) (Nat.le_of_ble_eq_true rfl) ?_
    cases hE
    exact Wp.ireturn dc_X12_pull_23 rfl rfl (Nat.le_refl _) (Nat.le_refl _) hK
theorem ok_X12_pull  {σ : SS}  {x1 : Int32} {o}   (hE : X12_pull  σ  x1 = some o) : Runs 3 0 0 mi_X12_pull [vr 11 0, vi x1] (hp σ) (fun v h => v = some (vi o.1) ∧ h = hp o.2) := by
  refine Runs.of pn_X12 (Nat.le_of_ble_eq_true rfl) ?_
  exact ok_X12_pull_j0   hE ⟨rfl, rfl⟩
theorem ok_X12_cuts_j0 {Q : Option AV → AH → Prop}  {σ : SS}  {x1 : Int32} {o}    (hE : X12_cuts_j0  σ  x1 = some o) (hK : Q (some (vi o.1)) (hp o.2)) : Ws 2 mi_X12_cuts Q 0 [some (vr 11 0), some (vi x1)] [] σ := by
  unfold X12_cuts_j0 at hE
  refine Wp.aload_n dc_X12_cuts_0 rfl ?_
  refine Wp.sgetR (t := 34) dc_X12_cuts_1 fw_X12_35 (mO11 (by decide)) rfl ?_
  refine Wp.bipush dc_X12_cuts_4 bp_6 ?_
  refine Wp.dup2 dc_X12_cuts_6 rfl rfl ?_
  obtain ⟨j7, h7, hE⟩ := bnd hE
  refine Wp.siald dc_X12_cuts_7 (mO13 (by decide)) h7 ?_
  refine Wp.aload_n dc_X12_cuts_8 rfl ?_
  refine Wp.sgetR (t := 34) dc_X12_cuts_9 fw_X12_35 (mO11 (by decide)) rfl ?_
  refine Wp.bipush dc_X12_cuts_12 bp_40 ?_
  refine Wp.iload_n dc_X12_cuts_14 rfl ?_
  refine Wp.iadd dc_X12_cuts_15 ?_
  obtain ⟨j16, h16, hE⟩ := bnd hE
  refine Wp.siald dc_X12_cuts_16 (mO13 (by decide)) h16 ?_
  refine Wp.iadd dc_X12_cuts_17 ?_
  obtain ⟨j18, h18, hE⟩ := bnd hE
  refine Wp.siast dc_X12_cuts_18 (mO13 (by decide)) h18 ?_
  obtain ⟨σ18, es_18, hE⟩ := bnS hE
  rw [es_18]
  refine Wp.aload_n dc_X12_cuts_19 rfl ?_
  refine Wp.sgetR (t := 34) dc_X12_cuts_20 fw_X12_35 (mO11 (by decide)) rfl ?_
  refine Wp.iconst dc_X12_cuts_23 ic_3 ?_
  refine Wp.dup2 dc_X12_cuts_24 rfl rfl ?_
  obtain ⟨j25, h25, hE⟩ := bnd hE
  refine Wp.siald dc_X12_cuts_25 (mO13 (by decide)) h25 ?_
  refine Wp.iconst dc_X12_cuts_26 ic_1 ?_
  refine Wp.iload_n dc_X12_cuts_27 rfl ?_
  refine Wp.ishl dc_X12_cuts_28 ?_
  refine Wp.iconst dc_X12_cuts_29 ic_m1 ?_
  refine Wp.ixor dc_X12_cuts_30 ?_
  refine Wp.iand dc_X12_cuts_31 ?_
  obtain ⟨j32, h32, hE⟩ := bnd hE
  refine Wp.siast dc_X12_cuts_32 (mO13 (by decide)) h32 ?_
  obtain ⟨σ32, es_32, hE⟩ := bnS hE
  rw [es_32]
  refine Wp.aload_n dc_X12_cuts_33 rfl ?_
  refine Wp.sgetR (t := 34) dc_X12_cuts_34 fw_X12_35 (mO11 (by decide)) rfl ?_
  refine Wp.iconst dc_X12_cuts_37 ic_4 ?_
  refine Wp.dup2 dc_X12_cuts_38 rfl rfl ?_
  obtain ⟨j39, h39, hE⟩ := bnd hE
  refine Wp.siald dc_X12_cuts_39 (mO13 (by decide)) h39 ?_
  refine Wp.iconst dc_X12_cuts_40 ic_1 ?_
  refine Wp.iload_n dc_X12_cuts_41 rfl ?_
  refine Wp.ishl dc_X12_cuts_42 ?_
  refine Wp.iconst dc_X12_cuts_43 ic_m1 ?_
  refine Wp.ixor dc_X12_cuts_44 ?_
  refine Wp.iand dc_X12_cuts_45 ?_
  obtain ⟨j46, h46, hE⟩ := bnd hE
  refine Wp.siast dc_X12_cuts_46 (mO13 (by decide)) h46 ?_
  obtain ⟨σ46, es_46, hE⟩ := bnS hE
  rw [es_46]
  refine Wp.aload_n dc_X12_cuts_47 rfl ?_
  refine Wp.iload_n dc_X12_cuts_48 rfl ?_
  obtain ⟨p49, h49, hE⟩ := bnd hE
  refine Wp.cV1i (ok_X12_dropsAll  h49) dc_X12_cuts_49 mw_X12_352 (mO11 (by decide)) (by decide) (Nat.le_of_ble_eq_true rfl) ?_
  cases hE
  exact Wp.ireturn dc_X12_cuts_52 rfl rfl (Nat.le_refl _) (Nat.le_refl _) hK
theorem ok_X12_cuts  {σ : SS}  {x1 : Int32} {o}   (hE : X12_cuts  σ  x1 = some o) : Runs 2 0 0 mi_X12_cuts [vr 11 0, vi x1] (hp σ) (fun v h => v = some (vi o.1) ∧ h = hp o.2) := by
  refine Runs.of pn_X12 (Nat.le_of_ble_eq_true rfl) ?_
  exact ok_X12_cuts_j0   hE ⟨rfl, rfl⟩
theorem ok_X12_cut__j0 {Q : Option AV → AH → Prop}  {σ : SS}  {x1 : Int32} {o}    (hE : X12_cut__j0  σ  x1 = some o) (hK : Q (some (vi o.1)) (hp o.2)) : Ws 3 mi_X12_cut_ Q 0 [some (vr 11 0), some (vi x1)] [] σ := by
  unfold X12_cut__j0 at hE
  refine Wp.aload_n dc_X12_cut__0 rfl ?_
  refine Wp.iconst dc_X12_cut__1 ic_0 ?_
  refine Wp.sputI dc_X12_cut__2 fw_X12_77 (mO11 (by decide)) (Nr.i _) ?_
  obtain ⟨σ2, es_2, hE⟩ := bnS hE
  rw [es_2]
  refine Wp.aload_n dc_X12_cut__5 rfl ?_
  refine Wp.iconst dc_X12_cut__6 ic_0 ?_
  refine Wp.sputI dc_X12_cut__7 fw_X12_80 (mO11 (by decide)) (Nr.i _) ?_
  obtain ⟨σ7, es_7, hE⟩ := bnS hE
  rw [es_7]
  refine Wp.aload_n dc_X12_cut__10 rfl ?_
  refine Wp.iload_n dc_X12_cut__11 rfl ?_
  obtain ⟨v12, h12, hE⟩ := bnd hE
  refine Wp.cV1i (ok_X12_isLeadAt  h12) dc_X12_cut__12 mw_X12_311 (mO11 (by decide)) (by decide) (Nat.le_of_ble_eq_true rfl) ?_
  refine Wp.if_ne (tgt := 24) dc_X12_cut__15 (by decide) (fun hc15 => ?_) (fun hc15 => ?_)
  · rw [if_neg hc15] at hE
    refine Wp.aload_n dc_X12_cut__24 rfl ?_
    refine Wp.iload_n dc_X12_cut__25 rfl ?_
    obtain ⟨v26, h26, hE⟩ := bnd hE
    refine Wp.cV1i (ok_X12_isInside  h26) dc_X12_cut__26 mw_X12_337 (mO11 (by decide)) (by decide) (Nat.le_of_ble_eq_true rfl) ?_
    refine Wp.if_eq (tgt := 40) dc_X12_cut__29 (by decide) (fun hc29 => ?_) (fun hc29 => ?_)
    · rw [if_pos hc29] at hE
      refine Wp.aload_n dc_X12_cut__40 rfl ?_
      refine Wp.bipush dc_X12_cut__41 bp_9 ?_
      obtain ⟨p43, h43, hE⟩ := bnd hE
      refine Wp.cV1i (ok_X12_refuse  h43) dc_X12_cut__43 mw_X12_308 (mO11 (by decide)) (by decide) (Nat.le_of_ble_eq_true rfl) ?_
      cases hE
      exact Wp.ireturn dc_X12_cut__46 rfl rfl (Nat.le_refl _) (Nat.le_refl _) hK
    · rw [if_neg hc29] at hE
      refine Wp.aload_n dc_X12_cut__32 rfl ?_
      refine Wp.iload_n dc_X12_cut__33 rfl ?_
      obtain ⟨p34, h34, hE⟩ := bnd hE
      refine Wp.cV1i (ok_X12_cuts  h34) dc_X12_cut__34 mw_X12_358 (mO11 (by decide)) (by decide) (Nat.le_of_ble_eq_true rfl) ?_
      refine Wp.goto (tgt := 46) dc_X12_cut__37 (by decide) ?_
      cases hE
      exact Wp.ireturn dc_X12_cut__46 rfl rfl (Nat.le_refl _) (Nat.le_refl _) hK
  · rw [if_pos hc15] at hE
    refine Wp.aload_n dc_X12_cut__18 rfl ?_
    refine Wp.iconst dc_X12_cut__19 ic_2 ?_
    obtain ⟨p20, h20, hE⟩ := bnd hE
    refine Wp.cV1i (ok_X12_refuse  h20) dc_X12_cut__20 mw_X12_308 (mO11 (by decide)) (by decide) (Nat.le_of_ble_eq_true rfl) ?_
    cases hE
    exact Wp.ireturn dc_X12_cut__23 rfl rfl (Nat.le_refl _) (Nat.le_refl _) hK
theorem ok_X12_cut_  {σ : SS}  {x1 : Int32} {o}   (hE : X12_cut_  σ  x1 = some o) : Runs 3 0 0 mi_X12_cut_ [vr 11 0, vi x1] (hp σ) (fun v h => v = some (vi o.1) ∧ h = hp o.2) := by
  refine Runs.of pn_X12 (Nat.le_of_ble_eq_true rfl) ?_
  exact ok_X12_cut__j0   hE ⟨rfl, rfl⟩
theorem ok_X12_clips2_j0 {Q : Option AV → AH → Prop}  {σ : SS}  {x1 : Int32} {o}    (hE : X12_clips2_j0  σ  x1 = some o) (hK : Q (some (vi o.1)) (hp o.2)) : Ws 2 mi_X12_clips2 Q 0 [some (vr 11 0), some (vi x1)] [] σ := by
  unfold X12_clips2_j0 at hE
  refine Wp.aload_n dc_X12_clips2_0 rfl ?_
  refine Wp.iload_n dc_X12_clips2_1 rfl ?_
  obtain ⟨v2, h2, hE⟩ := bnd hE
  refine Wp.cV1i (ok_X12_isInside  h2) dc_X12_clips2_2 mw_X12_337 (mO11 (by decide)) (by decide) (Nat.le_of_ble_eq_true rfl) ?_
  refine Wp.if_eq (tgt := 29) dc_X12_clips2_5 (by decide) (fun hc5 => ?_) (fun hc5 => ?_)
  · rw [if_pos hc5] at hE
    refine Wp.iconst dc_X12_clips2_29 ic_0 ?_
    cases hE
    exact Wp.ireturn dc_X12_clips2_30 rfl Nr.z0.1 (Nat.le_refl _) (Nat.le_refl _) hK
  · rw [if_neg hc5] at hE
    refine Wp.aload_n dc_X12_clips2_8 rfl ?_
    refine Wp.sgetR (t := 34) dc_X12_clips2_9 fw_X12_35 (mO11 (by decide)) rfl ?_
    refine Wp.iconst dc_X12_clips2_12 ic_4 ?_
    obtain ⟨j13, h13, hE⟩ := bnd hE
    refine Wp.siald dc_X12_clips2_13 (mO13 (by decide)) h13 ?_
    refine Wp.iload_n dc_X12_clips2_14 rfl ?_
    obtain ⟨v15, h15, hE⟩ := bnd hE
    refine Wp.cS2i (ok_X12_has  h15) dc_X12_clips2_15 mw_X12_116 (by decide) (Nat.le_of_ble_eq_true rfl) ?_
    refine Wp.if_ne (tgt := 29) dc_X12_clips2_18 (by decide) (fun hc18 => ?_) (fun hc18 => ?_)
    · rw [if_neg hc18] at hE
      refine Wp.iconst dc_X12_clips2_29 ic_0 ?_
      cases hE
      exact Wp.ireturn dc_X12_clips2_30 rfl Nr.z0.1 (Nat.le_refl _) (Nat.le_refl _) hK
    · rw [if_pos hc18] at hE
      refine Wp.aload_n dc_X12_clips2_21 rfl ?_
      refine Wp.iload_n dc_X12_clips2_22 rfl ?_
      obtain ⟨v23, h23, hE⟩ := bnd hE
      refine Wp.cV1i (ok_X12_crossings  h23) dc_X12_clips2_23 mw_X12_314 (mO11 (by decide)) (by decide) (Nat.le_of_ble_eq_true rfl) ?_
      refine Wp.if_le (tgt := 31) dc_X12_clips2_26 (by decide) (fun hc26 => ?_) (fun hc26 => ?_)
      · rw [if_pos hc26] at hE
        refine Wp.aload_n dc_X12_clips2_31 rfl ?_
        refine Wp.sgetR (t := 34) dc_X12_clips2_32 fw_X12_35 (mO11 (by decide)) rfl ?_
        refine Wp.iconst dc_X12_clips2_35 ic_4 ?_
        refine Wp.dup2 dc_X12_clips2_36 rfl rfl ?_
        obtain ⟨j37, h37, hE⟩ := bnd hE
        refine Wp.siald dc_X12_clips2_37 (mO13 (by decide)) h37 ?_
        refine Wp.iconst dc_X12_clips2_38 ic_1 ?_
        refine Wp.iload_n dc_X12_clips2_39 rfl ?_
        refine Wp.ishl dc_X12_clips2_40 ?_
        refine Wp.ior dc_X12_clips2_41 ?_
        obtain ⟨j42, h42, hE⟩ := bnd hE
        refine Wp.siast dc_X12_clips2_42 (mO13 (by decide)) h42 ?_
        obtain ⟨σ42, es_42, hE⟩ := bnS hE
        rw [es_42]
        refine Wp.aload_n dc_X12_clips2_43 rfl ?_
        refine Wp.sgetR (t := 34) dc_X12_clips2_44 fw_X12_35 (mO11 (by decide)) rfl ?_
        refine Wp.iconst dc_X12_clips2_47 ic_5 ?_
        refine Wp.dup2 dc_X12_clips2_48 rfl rfl ?_
        obtain ⟨j49, h49, hE⟩ := bnd hE
        refine Wp.siald dc_X12_clips2_49 (mO13 (by decide)) h49 ?_
        refine Wp.bipush dc_X12_clips2_50 bp_12 ?_
        refine Wp.iadd dc_X12_clips2_52 ?_
        obtain ⟨j53, h53, hE⟩ := bnd hE
        refine Wp.siast dc_X12_clips2_53 (mO13 (by decide)) h53 ?_
        obtain ⟨σ53, es_53, hE⟩ := bnS hE
        rw [es_53]
        refine Wp.iconst dc_X12_clips2_54 ic_1 ?_
        cases hE
        exact Wp.ireturn dc_X12_clips2_55 rfl Nr.z1.1 (Nat.le_refl _) (Nat.le_refl _) hK
      · rw [if_neg hc26] at hE
        refine Wp.iconst dc_X12_clips2_29 ic_0 ?_
        cases hE
        exact Wp.ireturn dc_X12_clips2_30 rfl Nr.z0.1 (Nat.le_refl _) (Nat.le_refl _) hK
theorem ok_X12_clips2  {σ : SS}  {x1 : Int32} {o}   (hE : X12_clips2  σ  x1 = some o) : Runs 2 0 0 mi_X12_clips2 [vr 11 0, vi x1] (hp σ) (fun v h => v = some (vi o.1) ∧ h = hp o.2) := by
  refine Runs.of pn_X12 (Nat.le_of_ble_eq_true rfl) ?_
  exact ok_X12_clips2_j0   hE ⟨rfl, rfl⟩
theorem ok_X12_clip_j41 {Q : Option AV → AH → Prop}  {σ : SS}   {o} {z0 z1 : Option AV}   (hE : X12_clip_j41  σ   = some o) (hK : Q (some (vi o.1)) (hp o.2)) : Ws 3 mi_X12_clip Q 41 [z0, z1] [] σ := by
  unfold X12_clip_j41 at hE
  refine Wp.iconst dc_X12_clip_41 ic_1 ?_
  refine Wp.goto (tgt := 46) dc_X12_clip_42 (by decide) ?_
  cases hE
  exact Wp.ireturn dc_X12_clip_46 rfl Nr.z1.1 (Nat.le_refl _) (Nat.le_refl _) hK
theorem ok_X12_clip_j0 {Q : Option AV → AH → Prop}  {σ : SS}  {x1 : Int32} {o}    (hE : X12_clip_j0  σ  x1 = some o) (hK : Q (some (vi o.1)) (hp o.2)) : Ws 3 mi_X12_clip Q 0 [some (vr 11 0), some (vi x1)] [] σ := by
  unfold X12_clip_j0 at hE
  refine Wp.aload_n dc_X12_clip_0 rfl ?_
  refine Wp.iconst dc_X12_clip_1 ic_0 ?_
  refine Wp.sputI dc_X12_clip_2 fw_X12_77 (mO11 (by decide)) (Nr.i _) ?_
  obtain ⟨σ2, es_2, hE⟩ := bnS hE
  rw [es_2]
  refine Wp.aload_n dc_X12_clip_5 rfl ?_
  refine Wp.iconst dc_X12_clip_6 ic_0 ?_
  refine Wp.sputI dc_X12_clip_7 fw_X12_80 (mO11 (by decide)) (Nr.i _) ?_
  obtain ⟨σ7, es_7, hE⟩ := bnS hE
  rw [es_7]
  refine Wp.aload_n dc_X12_clip_10 rfl ?_
  refine Wp.iload_n dc_X12_clip_11 rfl ?_
  obtain ⟨v12, h12, hE⟩ := bnd hE
  refine Wp.cV1i (ok_X12_isLeadAt  h12) dc_X12_clip_12 mw_X12_311 (mO11 (by decide)) (by decide) (Nat.le_of_ble_eq_true rfl) ?_
  refine Wp.if_ne (tgt := 24) dc_X12_clip_15 (by decide) (fun hc15 => ?_) (fun hc15 => ?_)
  · rw [if_neg hc15] at hE
    refine Wp.aload_n dc_X12_clip_24 rfl ?_
    refine Wp.iload_n dc_X12_clip_25 rfl ?_
    obtain ⟨p26, h26, hE⟩ := bnd hE
    refine Wp.cV1i (ok_X12_clips2  h26) dc_X12_clip_26 mw_X12_361 (mO11 (by decide)) (by decide) (Nat.le_of_ble_eq_true rfl) ?_
    refine Wp.if_ne (tgt := 41) dc_X12_clip_29 (by decide) (fun hc29 => ?_) (fun hc29 => ?_)
    · rw [if_neg hc29] at hE
      exact ok_X12_clip_j41   hE hK
    · rw [if_pos hc29] at hE
      refine Wp.aload_n dc_X12_clip_32 rfl ?_
      refine Wp.bipush dc_X12_clip_33 bp_9 ?_
      obtain ⟨p35, h35, hE⟩ := bnd hE
      refine Wp.cV1i (ok_X12_no  h35) dc_X12_clip_35 mw_X12_92 (mO11 (by decide)) (by decide) (Nat.le_of_ble_eq_true rfl) ?_
      refine Wp.if_eq (tgt := 45) dc_X12_clip_38 (by decide) (fun hc38 => ?_) (fun hc38 => ?_)
      · rw [if_pos hc38] at hE
        refine Wp.iconst dc_X12_clip_45 ic_0 ?_
        cases hE
        exact Wp.ireturn dc_X12_clip_46 rfl Nr.z0.1 (Nat.le_refl _) (Nat.le_refl _) hK
      · rw [if_neg hc38] at hE
        exact ok_X12_clip_j41   hE hK
  · rw [if_pos hc15] at hE
    refine Wp.aload_n dc_X12_clip_18 rfl ?_
    refine Wp.iconst dc_X12_clip_19 ic_2 ?_
    obtain ⟨p20, h20, hE⟩ := bnd hE
    refine Wp.cV1i (ok_X12_no  h20) dc_X12_clip_20 mw_X12_92 (mO11 (by decide)) (by decide) (Nat.le_of_ble_eq_true rfl) ?_
    obtain ⟨b23, h23, hE⟩ := bnd hE
    obtain ⟨e_23, hb23⟩ := zb_some h23
    skip
    cases hE
    exact Wp.ireturn dc_X12_clip_23 rfl hb23.1 (Nat.le_refl _) (Nat.le_refl _) hK
theorem ok_X12_clip  {σ : SS}  {x1 : Int32} {o}   (hE : X12_clip  σ  x1 = some o) : Runs 3 0 0 mi_X12_clip [vr 11 0, vi x1] (hp σ) (fun v h => v = some (vi o.1) ∧ h = hp o.2) := by
  refine Runs.of pn_X12 (Nat.le_of_ble_eq_true rfl) ?_
  exact ok_X12_clip_j0   hE ⟨rfl, rfl⟩
theorem ok_X12_unclip_j45 {Q : Option AV → AH → Prop}  {σ : SS}   {o} {z1 : Option AV}   (hE : X12_unclip_j45  σ   = some o) (hK : Q (some (vi o.1)) (hp o.2)) : Ws 2 mi_X12_unclip Q 45 [some (vr 11 0), z1] [] σ := by
  unfold X12_unclip_j45 at hE
  refine Wp.aload_n dc_X12_unclip_45 rfl ?_
  refine Wp.bipush dc_X12_unclip_46 bp_9 ?_
  obtain ⟨p48, h48, hE⟩ := bnd hE
  refine Wp.cV1i (ok_X12_no  h48) dc_X12_unclip_48 mw_X12_92 (mO11 (by decide)) (by decide) (Nat.le_of_ble_eq_true rfl) ?_
  obtain ⟨b51, h51, hE⟩ := bnd hE
  obtain ⟨e_51, hb51⟩ := zb_some h51
  skip
  cases hE
  exact Wp.ireturn dc_X12_unclip_51 rfl hb51.1 (Nat.le_refl _) (Nat.le_refl _) hK
theorem ok_X12_unclip_j0 {Q : Option AV → AH → Prop}  {σ : SS}  {x1 : Int32} {o}    (hE : X12_unclip_j0  σ  x1 = some o) (hK : Q (some (vi o.1)) (hp o.2)) : Ws 2 mi_X12_unclip Q 0 [some (vr 11 0), some (vi x1)] [] σ := by
  unfold X12_unclip_j0 at hE
  refine Wp.aload_n dc_X12_unclip_0 rfl ?_
  refine Wp.iconst dc_X12_unclip_1 ic_0 ?_
  refine Wp.sputI dc_X12_unclip_2 fw_X12_77 (mO11 (by decide)) (Nr.i _) ?_
  obtain ⟨σ2, es_2, hE⟩ := bnS hE
  rw [es_2]
  refine Wp.aload_n dc_X12_unclip_5 rfl ?_
  refine Wp.iconst dc_X12_unclip_6 ic_0 ?_
  refine Wp.sputI dc_X12_unclip_7 fw_X12_80 (mO11 (by decide)) (Nr.i _) ?_
  obtain ⟨σ7, es_7, hE⟩ := bnS hE
  rw [es_7]
  refine Wp.aload_n dc_X12_unclip_10 rfl ?_
  refine Wp.iload_n dc_X12_unclip_11 rfl ?_
  obtain ⟨v12, h12, hE⟩ := bnd hE
  refine Wp.cV1i (ok_X12_isLeadAt  h12) dc_X12_unclip_12 mw_X12_311 (mO11 (by decide)) (by decide) (Nat.le_of_ble_eq_true rfl) ?_
  refine Wp.if_ne (tgt := 24) dc_X12_unclip_15 (by decide) (fun hc15 => ?_) (fun hc15 => ?_)
  · rw [if_neg hc15] at hE
    refine Wp.aload_n dc_X12_unclip_24 rfl ?_
    refine Wp.iload_n dc_X12_unclip_25 rfl ?_
    obtain ⟨v26, h26, hE⟩ := bnd hE
    refine Wp.cV1i (ok_X12_isInside  h26) dc_X12_unclip_26 mw_X12_337 (mO11 (by decide)) (by decide) (Nat.le_of_ble_eq_true rfl) ?_
    refine Wp.if_eq (tgt := 45) dc_X12_unclip_29 (by decide) (fun hc29 => ?_) (fun hc29 => ?_)
    · rw [if_pos hc29] at hE
      exact ok_X12_unclip_j45   hE hK
    · rw [if_neg hc29] at hE
      refine Wp.aload_n dc_X12_unclip_32 rfl ?_
      refine Wp.sgetR (t := 34) dc_X12_unclip_33 fw_X12_35 (mO11 (by decide)) rfl ?_
      refine Wp.iconst dc_X12_unclip_36 ic_4 ?_
      obtain ⟨j37, h37, hE⟩ := bnd hE
      refine Wp.siald dc_X12_unclip_37 (mO13 (by decide)) h37 ?_
      refine Wp.iload_n dc_X12_unclip_38 rfl ?_
      obtain ⟨v39, h39, hE⟩ := bnd hE
      refine Wp.cS2i (ok_X12_has  h39) dc_X12_unclip_39 mw_X12_116 (by decide) (Nat.le_of_ble_eq_true rfl) ?_
      refine Wp.if_ne (tgt := 52) dc_X12_unclip_42 (by decide) (fun hc42 => ?_) (fun hc42 => ?_)
      · rw [if_neg hc42] at hE
        refine Wp.aload_n dc_X12_unclip_52 rfl ?_
        refine Wp.sgetR (t := 34) dc_X12_unclip_53 fw_X12_35 (mO11 (by decide)) rfl ?_
        refine Wp.iconst dc_X12_unclip_56 ic_4 ?_
        refine Wp.dup2 dc_X12_unclip_57 rfl rfl ?_
        obtain ⟨j58, h58, hE⟩ := bnd hE
        refine Wp.siald dc_X12_unclip_58 (mO13 (by decide)) h58 ?_
        refine Wp.iconst dc_X12_unclip_59 ic_1 ?_
        refine Wp.iload_n dc_X12_unclip_60 rfl ?_
        refine Wp.ishl dc_X12_unclip_61 ?_
        refine Wp.iconst dc_X12_unclip_62 ic_m1 ?_
        refine Wp.ixor dc_X12_unclip_63 ?_
        refine Wp.iand dc_X12_unclip_64 ?_
        obtain ⟨j65, h65, hE⟩ := bnd hE
        refine Wp.siast dc_X12_unclip_65 (mO13 (by decide)) h65 ?_
        obtain ⟨σ65, es_65, hE⟩ := bnS hE
        rw [es_65]
        refine Wp.iconst dc_X12_unclip_66 ic_1 ?_
        cases hE
        exact Wp.ireturn dc_X12_unclip_67 rfl Nr.z1.1 (Nat.le_refl _) (Nat.le_refl _) hK
      · rw [if_pos hc42] at hE
        exact ok_X12_unclip_j45   hE hK
  · rw [if_pos hc15] at hE
    refine Wp.aload_n dc_X12_unclip_18 rfl ?_
    refine Wp.iconst dc_X12_unclip_19 ic_2 ?_
    obtain ⟨p20, h20, hE⟩ := bnd hE
    refine Wp.cV1i (ok_X12_no  h20) dc_X12_unclip_20 mw_X12_92 (mO11 (by decide)) (by decide) (Nat.le_of_ble_eq_true rfl) ?_
    obtain ⟨b23, h23, hE⟩ := bnd hE
    obtain ⟨e_23, hb23⟩ := zb_some h23
    skip
    cases hE
    exact Wp.ireturn dc_X12_unclip_23 rfl hb23.1 (Nat.le_refl _) (Nat.le_refl _) hK
theorem ok_X12_unclip  {σ : SS}  {x1 : Int32} {o}   (hE : X12_unclip  σ  x1 = some o) : Runs 2 0 0 mi_X12_unclip [vr 11 0, vi x1] (hp σ) (fun v h => v = some (vi o.1) ∧ h = hp o.2) := by
  refine Runs.of pn_X12 (Nat.le_of_ble_eq_true rfl) ?_
  exact ok_X12_unclip_j0   hE ⟨rfl, rfl⟩
theorem ok_X12_crossable_j0 {Q : Option AV → AH → Prop}  {σ : SS}   {o}    (hE : X12_crossable_j0  σ   = some o) (hK : Q (some (vi o)) (hp σ)) : Ws 0 mi_X12_crossable Q 0 [some (vr 11 0)] [] σ := by
  unfold X12_crossable_j0 at hE
  refine Wp.aload_n dc_X12_crossable_0 rfl ?_
  refine Wp.sgetR (t := 34) dc_X12_crossable_1 fw_X12_35 (mO11 (by decide)) rfl ?_
  refine Wp.iconst dc_X12_crossable_4 ic_3 ?_
  obtain ⟨j5, h5, hE⟩ := bnd hE
  refine Wp.siald dc_X12_crossable_5 (mO13 (by decide)) h5 ?_
  refine Wp.aload_n dc_X12_crossable_6 rfl ?_
  refine Wp.sgetR (t := 34) dc_X12_crossable_7 fw_X12_35 (mO11 (by decide)) rfl ?_
  refine Wp.iconst dc_X12_crossable_10 ic_4 ?_
  obtain ⟨j11, h11, hE⟩ := bnd hE
  refine Wp.siald dc_X12_crossable_11 (mO13 (by decide)) h11 ?_
  refine Wp.iconst dc_X12_crossable_12 ic_m1 ?_
  refine Wp.ixor dc_X12_crossable_13 ?_
  refine Wp.iand dc_X12_crossable_14 ?_
  cases hE
  exact Wp.ireturn dc_X12_crossable_15 rfl rfl (Nat.le_refl _) (Nat.le_refl _) hK
theorem ok_X12_crossable  {σ : SS}   {o}   (hE : X12_crossable  σ   = some o) : Runs 0 0 0 mi_X12_crossable [vr 11 0] (hp σ) (fun v h => v = some (vi o) ∧ h = hp σ) := by
  refine Runs.of pn_X12 (Nat.le_of_ble_eq_true rfl) ?_
  exact ok_X12_crossable_j0   hE ⟨rfl, rfl⟩
theorem ok_X12_crosses_j0 {Q : Option AV → AH → Prop}  {σ : SS}  {x1 : Int32} {x2 : Int32} {x3 : Int32} {o} {z4 : Option AV}   (hE : X12_crosses_j0  σ  x1 x2 x3 = some o) (hK : Q none (hp o)) : Ws 0 mi_X12_crosses Q 0 [some (vr 11 0), some (vi x1), some (vi x2), some (vi x3), z4] [] σ := by
  unfold X12_crosses_j0 at hE
  refine Wp.aload_n dc_X12_crosses_0 rfl ?_
  refine Wp.sgetR (t := 34) dc_X12_crosses_1 fw_X12_35 (mO11 (by decide)) rfl ?_
  refine Wp.iconst dc_X12_crosses_4 ic_1 ?_
  obtain ⟨j5, h5, hE⟩ := bnd hE
  refine Wp.siald dc_X12_crosses_5 (mO13 (by decide)) h5 ?_
  obtain ⟨x4_6, e_6, hE⟩ := bnS hE
  rw [e_6]
  refine Wp.istore dc_X12_crosses_6 (by decide) ?_
  refine Wp.aload_n dc_X12_crosses_8 rfl ?_
  refine Wp.sgetR (t := 34) dc_X12_crosses_9 fw_X12_35 (mO11 (by decide)) rfl ?_
  refine Wp.bipush dc_X12_crosses_12 bp_60 ?_
  refine Wp.iload dc_X12_crosses_14 rfl ?_
  refine Wp.iadd dc_X12_crosses_16 ?_
  refine Wp.iload_n dc_X12_crosses_17 rfl ?_
  obtain ⟨j18, h18, hE⟩ := bnd hE
  refine Wp.siast dc_X12_crosses_18 (mO13 (by decide)) h18 ?_
  obtain ⟨σ18, es_18, hE⟩ := bnS hE
  rw [es_18]
  refine Wp.aload_n dc_X12_crosses_19 rfl ?_
  refine Wp.sgetR (t := 34) dc_X12_crosses_20 fw_X12_35 (mO11 (by decide)) rfl ?_
  refine Wp.bipush dc_X12_crosses_23 bp_84 ?_
  refine Wp.iload dc_X12_crosses_25 rfl ?_
  refine Wp.iadd dc_X12_crosses_27 ?_
  refine Wp.iload_n dc_X12_crosses_28 rfl ?_
  obtain ⟨j29, h29, hE⟩ := bnd hE
  refine Wp.siast dc_X12_crosses_29 (mO13 (by decide)) h29 ?_
  obtain ⟨σ29, es_29, hE⟩ := bnS hE
  rw [es_29]
  refine Wp.aload_n dc_X12_crosses_30 rfl ?_
  refine Wp.sgetR (t := 34) dc_X12_crosses_31 fw_X12_35 (mO11 (by decide)) rfl ?_
  refine Wp.bipush dc_X12_crosses_34 bp_108 ?_
  refine Wp.iload dc_X12_crosses_36 rfl ?_
  refine Wp.iadd dc_X12_crosses_38 ?_
  refine Wp.iload_n dc_X12_crosses_39 rfl ?_
  obtain ⟨j40, h40, hE⟩ := bnd hE
  refine Wp.siast dc_X12_crosses_40 (mO13 (by decide)) h40 ?_
  obtain ⟨σ40, es_40, hE⟩ := bnS hE
  rw [es_40]
  refine Wp.aload_n dc_X12_crosses_41 rfl ?_
  refine Wp.sgetR (t := 34) dc_X12_crosses_42 fw_X12_35 (mO11 (by decide)) rfl ?_
  refine Wp.iconst dc_X12_crosses_45 ic_1 ?_
  refine Wp.dup2 dc_X12_crosses_46 rfl rfl ?_
  obtain ⟨j47, h47, hE⟩ := bnd hE
  refine Wp.siald dc_X12_crosses_47 (mO13 (by decide)) h47 ?_
  refine Wp.iconst dc_X12_crosses_48 ic_1 ?_
  refine Wp.iadd dc_X12_crosses_49 ?_
  obtain ⟨j50, h50, hE⟩ := bnd hE
  refine Wp.siast dc_X12_crosses_50 (mO13 (by decide)) h50 ?_
  obtain ⟨σ50, es_50, hE⟩ := bnS hE
  rw [es_50]
  cases hE
  exact Wp.return dc_X12_crosses_51 rfl (Nat.le_refl _) (Nat.le_refl _) hK
theorem ok_X12_crosses  {σ : SS}  {x1 : Int32} {x2 : Int32} {x3 : Int32} {o}   (hE : X12_crosses  σ  x1 x2 x3 = some o) : Runs 0 0 0 mi_X12_crosses [vr 11 0, vi x1, vi x2, vi x3] (hp σ) (fun v h => v = none ∧ h = hp o) := by
  refine Runs.of pn_X12 (Nat.le_of_ble_eq_true rfl) ?_
  exact ok_X12_crosses_j0   hE ⟨rfl, rfl⟩
theorem ok_X12_cross_j26 {Q : Option AV → AH → Prop}  {σ : SS}   {o} {z1 z2 z3 : Option AV}   (hE : X12_cross_j26  σ   = some o) (hK : Q (some (vi o.1)) (hp o.2)) : Ws 2 mi_X12_cross Q 26 [some (vr 11 0), z1, z2, z3] [] σ := by
  unfold X12_cross_j26 at hE
  refine Wp.aload_n dc_X12_cross_26 rfl ?_
  refine Wp.iconst dc_X12_cross_27 ic_2 ?_
  obtain ⟨p28, h28, hE⟩ := bnd hE
  refine Wp.cV1i (ok_X12_refuse  h28) dc_X12_cross_28 mw_X12_308 (mO11 (by decide)) (by decide) (Nat.le_of_ble_eq_true rfl) ?_
  cases hE
  exact Wp.ireturn dc_X12_cross_31 rfl rfl (Nat.le_refl _) (Nat.le_refl _) hK
theorem ok_X12_cross_j49 {Q : Option AV → AH → Prop}  {σ : SS}   {o} {z1 z2 z3 : Option AV}   (hE : X12_cross_j49  σ   = some o) (hK : Q (some (vi o.1)) (hp o.2)) : Ws 2 mi_X12_cross Q 49 [some (vr 11 0), z1, z2, z3] [] σ := by
  unfold X12_cross_j49 at hE
  refine Wp.aload_n dc_X12_cross_49 rfl ?_
  refine Wp.iconst dc_X12_cross_50 ic_5 ?_
  obtain ⟨p51, h51, hE⟩ := bnd hE
  refine Wp.cV1i (ok_X12_refuse  h51) dc_X12_cross_51 mw_X12_308 (mO11 (by decide)) (by decide) (Nat.le_of_ble_eq_true rfl) ?_
  cases hE
  exact Wp.ireturn dc_X12_cross_54 rfl rfl (Nat.le_refl _) (Nat.le_refl _) hK
theorem ok_X12_cross_j95 {Q : Option AV → AH → Prop}  {σ : SS}   {o} {z1 z2 z3 : Option AV}   (hE : X12_cross_j95  σ   = some o) (hK : Q (some (vi o.1)) (hp o.2)) : Ws 2 mi_X12_cross Q 95 [some (vr 11 0), z1, z2, z3] [] σ := by
  unfold X12_cross_j95 at hE
  refine Wp.aload_n dc_X12_cross_95 rfl ?_
  refine Wp.bipush dc_X12_cross_96 bp_9 ?_
  obtain ⟨p98, h98, hE⟩ := bnd hE
  refine Wp.cV1i (ok_X12_refuse  h98) dc_X12_cross_98 mw_X12_308 (mO11 (by decide)) (by decide) (Nat.le_of_ble_eq_true rfl) ?_
  cases hE
  exact Wp.ireturn dc_X12_cross_101 rfl rfl (Nat.le_refl _) (Nat.le_refl _) hK
theorem ok_X12_cross_j0 {Q : Option AV → AH → Prop}  {σ : SS}  {x1 : Int32} {x2 : Int32} {x3 : Int32} {o}    (hE : X12_cross_j0  σ  x1 x2 x3 = some o) (hK : Q (some (vi o.1)) (hp o.2)) : Ws 2 mi_X12_cross Q 0 [some (vr 11 0), some (vi x1), some (vi x2), some (vi x3)] [] σ := by
  unfold X12_cross_j0 at hE
  refine Wp.aload_n dc_X12_cross_0 rfl ?_
  refine Wp.iconst dc_X12_cross_1 ic_0 ?_
  refine Wp.sputI dc_X12_cross_2 fw_X12_77 (mO11 (by decide)) (Nr.i _) ?_
  obtain ⟨σ2, es_2, hE⟩ := bnS hE
  rw [es_2]
  refine Wp.aload_n dc_X12_cross_5 rfl ?_
  refine Wp.iconst dc_X12_cross_6 ic_0 ?_
  refine Wp.sputI dc_X12_cross_7 fw_X12_80 (mO11 (by decide)) (Nr.i _) ?_
  obtain ⟨σ7, es_7, hE⟩ := bnS hE
  rw [es_7]
  refine Wp.aload_n dc_X12_cross_10 rfl ?_
  refine Wp.iload_n dc_X12_cross_11 rfl ?_
  obtain ⟨v12, h12, hE⟩ := bnd hE
  refine Wp.cV1i (ok_X12_isLeadAt  h12) dc_X12_cross_12 mw_X12_311 (mO11 (by decide)) (by decide) (Nat.le_of_ble_eq_true rfl) ?_
  refine Wp.if_eq (tgt := 26) dc_X12_cross_15 (by decide) (fun hc15 => ?_) (fun hc15 => ?_)
  · rw [if_pos hc15] at hE
    exact ok_X12_cross_j26   hE hK
  · rw [if_neg hc15] at hE
    refine Wp.aload_n dc_X12_cross_18 rfl ?_
    refine Wp.iload_n dc_X12_cross_19 rfl ?_
    obtain ⟨v20, h20, hE⟩ := bnd hE
    refine Wp.cV1i (ok_X12_isLeadAt  h20) dc_X12_cross_20 mw_X12_311 (mO11 (by decide)) (by decide) (Nat.le_of_ble_eq_true rfl) ?_
    refine Wp.if_ne (tgt := 32) dc_X12_cross_23 (by decide) (fun hc23 => ?_) (fun hc23 => ?_)
    · rw [if_neg hc23] at hE
      refine Wp.iload_n dc_X12_cross_32 rfl ?_
      refine Wp.iload_n dc_X12_cross_33 rfl ?_
      refine Wp.icmp_eq (tgt := 49) dc_X12_cross_34 (by decide) (fun hc34 => ?_) (fun hc34 => ?_)
      · rw [if_pos hc34] at hE
        exact ok_X12_cross_j49   hE hK
      · rw [if_neg hc34] at hE
        refine Wp.iload_n dc_X12_cross_37 rfl ?_
        refine Wp.i2l dc_X12_cross_38 ?_
        refine Wp.lconst dc_X12_cross_39 lc_0 ?_
        refine Wp.ldc2 dc_X12_cross_40 kw_X12_110 ?_
        obtain ⟨v43, h43, hE⟩ := bnd hE
        refine Wp.cS3i (ok_X12_isIn  h43) dc_X12_cross_43 mw_X12_112 (by decide) (Nat.le_of_ble_eq_true rfl) ?_
        refine Wp.if_ne (tgt := 55) dc_X12_cross_46 (by decide) (fun hc46 => ?_) (fun hc46 => ?_)
        · rw [if_neg hc46] at hE
          refine Wp.aload_n dc_X12_cross_55 rfl ?_
          refine Wp.sgetR (t := 34) dc_X12_cross_56 fw_X12_35 (mO11 (by decide)) rfl ?_
          refine Wp.iconst dc_X12_cross_59 ic_1 ?_
          obtain ⟨j60, h60, hE⟩ := bnd hE
          refine Wp.siald dc_X12_cross_60 (mO13 (by decide)) h60 ?_
          refine Wp.bipush dc_X12_cross_61 bp_24 ?_
          refine Wp.icmp_ne (tgt := 73) dc_X12_cross_63 (by decide) (fun hc63 => ?_) (fun hc63 => ?_)
          · rw [if_neg hc63] at hE
            refine Wp.aload_n dc_X12_cross_73 rfl ?_
            obtain ⟨v74, h74, hE⟩ := bnd hE
            refine Wp.cV0i (ok_X12_crossable  h74) dc_X12_cross_74 mw_X12_364 (mO11 (by decide)) (by decide) (Nat.le_of_ble_eq_true rfl) ?_
            refine Wp.iload_n dc_X12_cross_77 rfl ?_
            obtain ⟨v78, h78, hE⟩ := bnd hE
            refine Wp.cS2i (ok_X12_has  h78) dc_X12_cross_78 mw_X12_116 (by decide) (Nat.le_of_ble_eq_true rfl) ?_
            refine Wp.if_eq (tgt := 95) dc_X12_cross_81 (by decide) (fun hc81 => ?_) (fun hc81 => ?_)
            · rw [if_pos hc81] at hE
              exact ok_X12_cross_j95   hE hK
            · rw [if_neg hc81] at hE
              refine Wp.aload_n dc_X12_cross_84 rfl ?_
              obtain ⟨v85, h85, hE⟩ := bnd hE
              refine Wp.cV0i (ok_X12_crossable  h85) dc_X12_cross_85 mw_X12_364 (mO11 (by decide)) (by decide) (Nat.le_of_ble_eq_true rfl) ?_
              refine Wp.iload_n dc_X12_cross_88 rfl ?_
              obtain ⟨v89, h89, hE⟩ := bnd hE
              refine Wp.cS2i (ok_X12_has  h89) dc_X12_cross_89 mw_X12_116 (by decide) (Nat.le_of_ble_eq_true rfl) ?_
              refine Wp.if_ne (tgt := 102) dc_X12_cross_92 (by decide) (fun hc92 => ?_) (fun hc92 => ?_)
              · rw [if_neg hc92] at hE
                refine Wp.aload_n dc_X12_cross_102 rfl ?_
                refine Wp.iload_n dc_X12_cross_103 rfl ?_
                refine Wp.iload_n dc_X12_cross_104 rfl ?_
                refine Wp.iload_n dc_X12_cross_105 rfl ?_
                obtain ⟨σ106, h106, hE⟩ := bnd hE
                refine Wp.cV3v (ok_X12_crosses  h106) dc_X12_cross_106 mw_X12_367 (mO11 (by decide)) (by decide) (Nat.le_of_ble_eq_true rfl) ?_
                refine Wp.aload_n dc_X12_cross_109 rfl ?_
                refine Wp.sgetR (t := 34) dc_X12_cross_110 fw_X12_35 (mO11 (by decide)) rfl ?_
                refine Wp.iconst dc_X12_cross_113 ic_1 ?_
                obtain ⟨j114, h114, hE⟩ := bnd hE
                refine Wp.siald dc_X12_cross_114 (mO13 (by decide)) h114 ?_
                cases hE
                exact Wp.ireturn dc_X12_cross_115 rfl rfl (Nat.le_refl _) (Nat.le_refl _) hK
              · rw [if_pos hc92] at hE
                exact ok_X12_cross_j95   hE hK
          · rw [if_pos hc63] at hE
            refine Wp.aload_n dc_X12_cross_66 rfl ?_
            refine Wp.bipush dc_X12_cross_67 bp_7 ?_
            obtain ⟨p69, h69, hE⟩ := bnd hE
            refine Wp.cV1i (ok_X12_refuse  h69) dc_X12_cross_69 mw_X12_308 (mO11 (by decide)) (by decide) (Nat.le_of_ble_eq_true rfl) ?_
            cases hE
            exact Wp.ireturn dc_X12_cross_72 rfl rfl (Nat.le_refl _) (Nat.le_refl _) hK
        · rw [if_pos hc46] at hE
          exact ok_X12_cross_j49   hE hK
    · rw [if_pos hc23] at hE
      exact ok_X12_cross_j26   hE hK
theorem ok_X12_cross  {σ : SS}  {x1 : Int32} {x2 : Int32} {x3 : Int32} {o}   (hE : X12_cross  σ  x1 x2 x3 = some o) : Runs 2 0 0 mi_X12_cross [vr 11 0, vi x1, vi x2, vi x3] (hp σ) (fun v h => v = some (vi o.1) ∧ h = hp o.2) := by
  refine Runs.of pn_X12 (Nat.le_of_ble_eq_true rfl) ?_
  exact ok_X12_cross_j0   hE ⟨rfl, rfl⟩
theorem ok_X12_draw_j0 {Q : Option AV → AH → Prop}  {σ : SS}  {x1 : Int32} {o}    (hE : X12_draw_j0  σ  x1 = some o) (hK : Q (some (vi o.1)) (hp o.2)) : Ws 0 mi_X12_draw Q 0 [some (vr 11 0), some (vi x1)] [] σ := by
  unfold X12_draw_j0 at hE
  refine Wp.aload_n dc_X12_draw_0 rfl ?_
  refine Wp.aload_n dc_X12_draw_1 rfl ?_
  refine Wp.sgetI dc_X12_draw_2 fw_X12_371 (mO11 (by decide)) ?_
  refine Wp.sipush dc_X12_draw_5 sp_2897 ?_
  refine Wp.imul dc_X12_draw_8 ?_
  refine Wp.sipush dc_X12_draw_9 sp_10529 ?_
  refine Wp.iadd dc_X12_draw_12 ?_
  refine Wp.ldc_w dc_X12_draw_13 kw_X12_374 ?_
  refine Wp.irem dc_X12_draw_16 (by decide) ?_
  refine Wp.sputI dc_X12_draw_17 fw_X12_371 (mO11 (by decide)) (Nr.i _) ?_
  obtain ⟨σ17, es_17, hE⟩ := bnS hE
  rw [es_17]
  refine Wp.aload_n dc_X12_draw_20 rfl ?_
  refine Wp.sgetI dc_X12_draw_21 fw_X12_371 (mO11 (by decide)) ?_
  refine Wp.bipush dc_X12_draw_24 bp_8 ?_
  refine Wp.idiv dc_X12_draw_26 (by decide) ?_
  refine Wp.iload_n dc_X12_draw_27 rfl ?_
  obtain ⟨w28, h28, hE⟩ := bnd hE
  refine Wp.irem dc_X12_draw_28 (nz_some h28) ?_
  cases hE
  exact Wp.ireturn dc_X12_draw_29 rfl rfl (Nat.le_refl _) (Nat.le_refl _) hK
theorem ok_X12_draw  {σ : SS}  {x1 : Int32} {o}   (hE : X12_draw  σ  x1 = some o) : Runs 0 0 0 mi_X12_draw [vr 11 0, vi x1] (hp σ) (fun v h => v = some (vi o.1) ∧ h = hp o.2) := by
  refine Runs.of pn_X12 (Nat.le_of_ble_eq_true rfl) ?_
  exact ok_X12_draw_j0   hE ⟨rfl, rfl⟩
def X12_opens_P15 (Q : Option AV → AH → Prop)    (ss : Int32 × Int32 × SS) : Prop := ∀ z3 z4 z5 z6 : Option AV, Ws 2 mi_X12_opens Q 15 [some (vr 11 0), some (vi ss.1), some (vi ss.2.1), z3, z4, z5, z6] [] ss.2.2
def X12_opens_R15 (Q : Option AV → AH → Prop)    (tt : Int32 × SS) : Prop := ∀ z0 z2 z3 z4 z5 z6 : Option AV, Ws 2 mi_X12_opens Q 203 [z0, some (vi tt.1), z2, z3, z4, z5, z6] [] tt.2
theorem ok_X12_opens_j197 {Q : Option AV → AH → Prop}  {σ : SS}  {x1 : Int32} {x2 : Int32} {o} {z3 z4 z5 z6 : Option AV}   (hE : X12_opens_j197  σ  x1 x2 = some o) (hS : ∀ ss, o = Sum.inl ss → (X12_opens_P15  Q   ) ss) (hT : ∀ tt, o = Sum.inr tt → (X12_opens_R15  Q   ) tt) : Ws 2 mi_X12_opens Q 197 [some (vr 11 0), some (vi x1), some (vi x2), z3, z4, z5, z6] [] σ := by
  unfold X12_opens_j197 at hE
  obtain ⟨x2_197, e_197, hE⟩ := bnS hE
  refine Wp.iinc dc_X12_opens_197 rfl ((ii ic_1).trans e_197) (by decide) ?_
  refine Wp.goto (tgt := 15) dc_X12_opens_200 (by decide) ?_
  cases hE
  exact hS _ rfl _ _ _ _
def X12_opens_P84 (Q : Option AV → AH → Prop) (σ : SS)  (x1 : Int32) (x2 : Int32) (x3 : Int32) (ss : Int32 × Int32) : Prop := ∀ z6 : Option AV, Ws 2 mi_X12_opens Q 84 [some (vr 11 0), some (vi x1), some (vi x2), some (vi x3), some (vi ss.1), some (vi ss.2), z6] [] σ
def X12_opens_R84 (Q : Option AV → AH → Prop) (σ : SS)  (x1 : Int32) (x2 : Int32) (x3 : Int32) (tt : Int32) : Prop := ∀ z3 z4 z6 : Option AV, Ws 2 mi_X12_opens Q 123 [some (vr 11 0), some (vi x1), some (vi x2), z3, z4, some (vi tt), z6] [] σ
theorem ok_X12_opens_j114 {Q : Option AV → AH → Prop}  {σ : SS}  {x1 : Int32} {x2 : Int32} {x3 : Int32} {x5 : Int32} {s0 : Int32} {s1 : Int32} {o} {z4 z6 : Option AV}   (hE : X12_opens_j114  σ  x1 x2 x3 x5 s0 s1 = some o) (hS : ∀ ss, o = Sum.inl ss → (X12_opens_P84  Q σ  x1 x2 x3) ss) (hT : ∀ tt, o = Sum.inr tt → (X12_opens_R84  Q σ  x1 x2 x3) tt) : Ws 2 mi_X12_opens Q 114 [some (vr 11 0), some (vi x1), some (vi x2), some (vi x3), z4, some (vi x5), z6] [vi s1, vi s0] σ := by
  unfold X12_opens_j114 at hE
  refine Wp.isub dc_X12_opens_114 ?_
  obtain ⟨x4_115, e_115, hE⟩ := bnS hE
  rw [e_115]
  refine Wp.istore dc_X12_opens_115 (by decide) ?_
  obtain ⟨x5_117, e_117, hE⟩ := bnS hE
  refine Wp.iinc dc_X12_opens_117 rfl ((ii ic_1).trans e_117) (by decide) ?_
  refine Wp.goto (tgt := 84) dc_X12_opens_120 (by decide) ?_
  cases hE
  exact hS _ rfl _
theorem ok_X12_opens_j98 {Q : Option AV → AH → Prop}  {σ : SS}  {x1 : Int32} {x2 : Int32} {x3 : Int32} {x4 : Int32} {x5 : Int32} {o} {z6 : Option AV}   (hE : X12_opens_j98  σ  x1 x2 x3 x4 x5 = some o) (hS : ∀ ss, o = Sum.inl ss → (X12_opens_P84  Q σ  x1 x2 x3) ss) (hT : ∀ tt, o = Sum.inr tt → (X12_opens_R84  Q σ  x1 x2 x3) tt) : Ws 2 mi_X12_opens Q 98 [some (vr 11 0), some (vi x1), some (vi x2), some (vi x3), some (vi x4), some (vi x5), z6] [] σ := by
  unfold X12_opens_j98 at hE
  refine Wp.iload dc_X12_opens_98 rfl ?_
  refine Wp.iload_n dc_X12_opens_100 rfl ?_
  refine Wp.iload dc_X12_opens_101 rfl ?_
  obtain ⟨v103, h103, hE⟩ := bnd hE
  refine Wp.cS2i (ok_X12_has  h103) dc_X12_opens_103 mw_X12_116 (by decide) (Nat.le_of_ble_eq_true rfl) ?_
  refine Wp.if_eq (tgt := 113) dc_X12_opens_106 (by decide) (fun hc106 => ?_) (fun hc106 => ?_)
  · rw [if_pos hc106] at hE
    refine Wp.iconst dc_X12_opens_113 ic_0 ?_
    exact ok_X12_opens_j114   hE hS hT
  · rw [if_neg hc106] at hE
    refine Wp.iconst dc_X12_opens_109 ic_1 ?_
    refine Wp.goto (tgt := 114) dc_X12_opens_110 (by decide) ?_
    exact ok_X12_opens_j114   hE hS hT
theorem ok_X12_opens_l84c {Q : Option AV → AH → Prop}  {σ : SS}  {x1 : Int32} {x2 : Int32} {x3 : Int32} {x4 : Int32} {x5 : Int32} {o} {z6 : Option AV}   (hE : X12_opens_l84c  σ  x1 x2 x3 x4 x5 = some o) (hS : ∀ ss, o = Sum.inl ss → (X12_opens_P84  Q σ  x1 x2 x3) ss) (hT : ∀ tt, o = Sum.inr tt → (X12_opens_R84  Q σ  x1 x2 x3) tt) : Ws 2 mi_X12_opens Q 84 [some (vr 11 0), some (vi x1), some (vi x2), some (vi x3), some (vi x4), some (vi x5), z6] [] σ := by
  unfold X12_opens_l84c at hE
  refine Wp.iload_n dc_X12_opens_84 rfl ?_
  refine Wp.iload dc_X12_opens_85 rfl ?_
  obtain ⟨v87, h87, hE⟩ := bnd hE
  refine Wp.cS2i (ok_X12_has  h87) dc_X12_opens_87 mw_X12_116 (by decide) (Nat.le_of_ble_eq_true rfl) ?_
  refine Wp.if_eq (tgt := 98) dc_X12_opens_90 (by decide) (fun hc90 => ?_) (fun hc90 => ?_)
  · rw [if_pos hc90] at hE
    exact ok_X12_opens_j98   hE hS hT
  · rw [if_neg hc90] at hE
    refine Wp.iload dc_X12_opens_93 rfl ?_
    refine Wp.if_le (tgt := 123) dc_X12_opens_95 (by decide) (fun hc95 => ?_) (fun hc95 => ?_)
    · rw [if_pos hc95] at hE
      cases hE
      exact hT _ rfl _ _ _
    · rw [if_neg hc95] at hE
      exact ok_X12_opens_j98   hE hS hT
theorem ok_X12_opens_j191 {Q : Option AV → AH → Prop}  {σ : SS}  {x1 : Int32} {x2 : Int32} {s1 : Int32} {s2 : Int32} {s3 : Int32} {o} {z3 z4 z5 z6 : Option AV}   (hE : X12_opens_j191  σ  x1 x2 s1 s2 s3 = some o) (hS : ∀ ss, o = Sum.inl ss → (X12_opens_P15  Q   ) ss) (hT : ∀ tt, o = Sum.inr tt → (X12_opens_R15  Q   ) tt) : Ws 2 mi_X12_opens Q 191 [some (vr 11 0), some (vi x1), some (vi x2), z3, z4, z5, z6] [vi s3, vi s2, vi s1, vr 11 0] σ := by
  unfold X12_opens_j191 at hE
  obtain ⟨σ191, h191, hE⟩ := bnd hE
  refine Wp.cV3v (ok_X12_crosses  h191) dc_X12_opens_191 mw_X12_367 (mO11 (by decide)) (by decide) (Nat.le_of_ble_eq_true rfl) ?_
  obtain ⟨x1_194, e_194, hE⟩ := bnS hE
  refine Wp.iinc dc_X12_opens_194 rfl ((ii ic_1).trans e_194) (by decide) ?_
  exact ok_X12_opens_j197   hE hS hT
theorem ok_X12_opens_l84 {Q : Option AV → AH → Prop}  {σ : SS}  {x1 : Int32} {x2 : Int32} {x3 : Int32} {x4 : Int32} {x5 : Int32} {o} {z6 : Option AV}   (hE : X12_opens_l84  σ  x1 x2 x3 x4 x5 = some o) (hS : ∀ ss, o = Sum.inl ss → (X12_opens_P15  Q   ) ss) (hT : ∀ tt, o = Sum.inr tt → (X12_opens_R15  Q   ) tt) : Ws 2 mi_X12_opens Q 84 [some (vr 11 0), some (vi x1), some (vi x2), some (vi x3), some (vi x4), some (vi x5), z6] [] σ := by
  unfold X12_opens_l84 at hE
  obtain ⟨t84, h1, hE⟩ := bnd hE
  refine iter_ok (P := (X12_opens_P84  Q σ  x1 x2 x3)) (R := (X12_opens_R84  Q σ  x1 x2 x3)) (fun ss o h2 hS hT => ?_) NF _ _ h1 ?_ _
  · intro z6
    exact ok_X12_opens_l84c   h2 hS hT
  · intro z3 z4 z6
    show Ws 2 mi_X12_opens Q 123 [some (vr 11 0), some (vi x1), some (vi x2), z3, z4, some (vi t84), z6] [] σ
    refine Wp.aload_n dc_X12_opens_123 rfl ?_
    refine Wp.sgetR (t := 34) dc_X12_opens_124 fw_X12_35 (mO11 (by decide)) rfl ?_
    refine Wp.iconst dc_X12_opens_127 ic_1 ?_
    obtain ⟨j128, h128, hE⟩ := bnd hE
    refine Wp.siald dc_X12_opens_128 (mO13 (by decide)) h128 ?_
    refine Wp.bipush dc_X12_opens_129 bp_24 ?_
    refine Wp.icmp_ne (tgt := 137) dc_X12_opens_131 (by decide) (fun hc131 => ?_) (fun hc131 => ?_)
    · rw [if_neg hc131] at hE
      refine Wp.aload_n dc_X12_opens_137 rfl ?_
      refine Wp.sgetR (t := 34) dc_X12_opens_138 fw_X12_35 (mO11 (by decide)) rfl ?_
      refine Wp.bipush dc_X12_opens_141 bp_24 ?_
      refine Wp.iload_n dc_X12_opens_143 rfl ?_
      refine Wp.iadd dc_X12_opens_144 ?_
      obtain ⟨j145, h145, hE⟩ := bnd hE
      refine Wp.siald dc_X12_opens_145 (mO13 (by decide)) h145 ?_
      refine Wp.aload_n dc_X12_opens_146 rfl ?_
      refine Wp.sgetR (t := 34) dc_X12_opens_147 fw_X12_35 (mO11 (by decide)) rfl ?_
      refine Wp.bipush dc_X12_opens_150 bp_32 ?_
      refine Wp.iload_n dc_X12_opens_152 rfl ?_
      refine Wp.iadd dc_X12_opens_153 ?_
      obtain ⟨j154, h154, hE⟩ := bnd hE
      refine Wp.siald dc_X12_opens_154 (mO13 (by decide)) h154 ?_
      refine Wp.mmin dc_X12_opens_155 lw_X12_303 ms_min mi_Math mk_min (by decide) (Nat.le_refl _) (Nat.le_refl _) (Nat.le_of_ble_eq_true rfl) ?_
      obtain ⟨x6_158, e_158, hE⟩ := bnS hE
      rw [e_158]
      refine Wp.istore dc_X12_opens_158 (by decide) ?_
      refine Wp.aload_n dc_X12_opens_160 rfl ?_
      refine Wp.iload_n dc_X12_opens_161 rfl ?_
      refine Wp.iload dc_X12_opens_162 rfl ?_
      refine Wp.iload dc_X12_opens_164 rfl ?_
      refine Wp.bipush dc_X12_opens_166 bp_9 ?_
      refine Wp.aload_n dc_X12_opens_168 rfl ?_
      refine Wp.sgetR (t := 34) dc_X12_opens_169 fw_X12_35 (mO11 (by decide)) rfl ?_
      refine Wp.bipush dc_X12_opens_172 bp_16 ?_
      refine Wp.iload dc_X12_opens_174 rfl ?_
      refine Wp.iadd dc_X12_opens_176 ?_
      obtain ⟨j177, h177, hE⟩ := bnd hE
      refine Wp.siald dc_X12_opens_177 (mO13 (by decide)) h177 ?_
      refine Wp.iconst dc_X12_opens_178 ic_2 ?_
      refine Wp.iadd dc_X12_opens_179 ?_
      refine Wp.mmin dc_X12_opens_180 lw_X12_303 ms_min mi_Math mk_min (by decide) (Nat.le_refl _) (Nat.le_refl _) (Nat.le_of_ble_eq_true rfl) ?_
      refine Wp.icmp_ge (tgt := 190) dc_X12_opens_183 (by decide) (fun hc183 => ?_) (fun hc183 => ?_)
      · rw [if_pos hc183] at hE
        refine Wp.iconst dc_X12_opens_190 ic_0 ?_
        exact ok_X12_opens_j191   hE hS hT
      · rw [if_neg hc183] at hE
        refine Wp.iconst dc_X12_opens_186 ic_1 ?_
        refine Wp.goto (tgt := 191) dc_X12_opens_187 (by decide) ?_
        exact ok_X12_opens_j191   hE hS hT
    · rw [if_pos hc131] at hE
      refine Wp.goto (tgt := 197) dc_X12_opens_134 (by decide) ?_
      exact ok_X12_opens_j197   hE hS hT
theorem ok_X12_opens_l15c {Q : Option AV → AH → Prop}  {σ : SS}   {x1 : Int32} {x2 : Int32} {o} {z3 z4 z5 z6 : Option AV}   (hE : X12_opens_l15c  σ   x1 x2 = some o) (hS : ∀ ss, o = Sum.inl ss → (X12_opens_P15  Q   ) ss) (hT : ∀ tt, o = Sum.inr tt → (X12_opens_R15  Q   ) tt) : Ws 2 mi_X12_opens Q 15 [some (vr 11 0), some (vi x1), some (vi x2), z3, z4, z5, z6] [] σ := by
  unfold X12_opens_l15c at hE
  refine Wp.iload_n dc_X12_opens_15 rfl ?_
  refine Wp.aload_n dc_X12_opens_16 rfl ?_
  refine Wp.sgetR (t := 34) dc_X12_opens_17 fw_X12_35 (mO11 (by decide)) rfl ?_
  refine Wp.iconst dc_X12_opens_20 ic_0 ?_
  obtain ⟨j21, h21, hE⟩ := bnd hE
  refine Wp.siald dc_X12_opens_21 (mO13 (by decide)) h21 ?_
  refine Wp.icmp_ge (tgt := 203) dc_X12_opens_22 (by decide) (fun hc22 => ?_) (fun hc22 => ?_)
  · rw [if_pos hc22] at hE
    cases hE
    exact hT _ rfl _ _ _ _ _ _
  · rw [if_neg hc22] at hE
    refine Wp.aload_n dc_X12_opens_25 rfl ?_
    obtain ⟨v26, h26, hE⟩ := bnd hE
    refine Wp.cV0i (ok_X12_crossable  h26) dc_X12_opens_26 mw_X12_364 (mO11 (by decide)) (by decide) (Nat.le_of_ble_eq_true rfl) ?_
    refine Wp.iload_n dc_X12_opens_29 rfl ?_
    obtain ⟨v30, h30, hE⟩ := bnd hE
    refine Wp.cS2i (ok_X12_has  h30) dc_X12_opens_30 mw_X12_116 (by decide) (Nat.le_of_ble_eq_true rfl) ?_
    refine Wp.if_eq (tgt := 197) dc_X12_opens_33 (by decide) (fun hc33 => ?_) (fun hc33 => ?_)
    · rw [if_pos hc33] at hE
      exact ok_X12_opens_j197   hE hS hT
    · rw [if_neg hc33] at hE
      refine Wp.aload_n dc_X12_opens_36 rfl ?_
      refine Wp.bipush dc_X12_opens_37 bp_16 ?_
      obtain ⟨p39, h39, hE⟩ := bnd hE
      refine Wp.cV1i (ok_X12_draw  h39) dc_X12_opens_39 mw_X12_375 (mO11 (by decide)) (by decide) (Nat.le_of_ble_eq_true rfl) ?_
      refine Wp.aload_n dc_X12_opens_42 rfl ?_
      refine Wp.iload_n dc_X12_opens_43 rfl ?_
      obtain ⟨v44, h44, hE⟩ := bnd hE
      refine Wp.cV1i (ok_X12_riskOf  h44) dc_X12_opens_44 mw_X12_317 (mO11 (by decide)) (by decide) (Nat.le_of_ble_eq_true rfl) ?_
      refine Wp.icmp_lt (tgt := 53) dc_X12_opens_47 (by decide) (fun hc47 => ?_) (fun hc47 => ?_)
      · rw [if_pos hc47] at hE
        refine Wp.aload_n dc_X12_opens_53 rfl ?_
        obtain ⟨v54, h54, hE⟩ := bnd hE
        refine Wp.cV0i (ok_X12_crossable  h54) dc_X12_opens_54 mw_X12_364 (mO11 (by decide)) (by decide) (Nat.le_of_ble_eq_true rfl) ?_
        refine Wp.iconst dc_X12_opens_57 ic_1 ?_
        refine Wp.iload_n dc_X12_opens_58 rfl ?_
        refine Wp.ishl dc_X12_opens_59 ?_
        refine Wp.iconst dc_X12_opens_60 ic_m1 ?_
        refine Wp.ixor dc_X12_opens_61 ?_
        refine Wp.iand dc_X12_opens_62 ?_
        obtain ⟨x3_63, e_63, hE⟩ := bnS hE
        rw [e_63]
        refine Wp.istore_n dc_X12_opens_63 (by decide) ?_
        refine Wp.iload_n dc_X12_opens_64 rfl ?_
        refine Wp.if_ne (tgt := 71) dc_X12_opens_65 (by decide) (fun hc65 => ?_) (fun hc65 => ?_)
        · rw [if_neg hc65] at hE
          refine Wp.aload_n dc_X12_opens_71 rfl ?_
          refine Wp.iload_n dc_X12_opens_72 rfl ?_
          obtain ⟨v73, h73, hE⟩ := bnd hE
          refine Wp.cS1i (ok_X12_sizeOf  h73) dc_X12_opens_73 mw_X12_349 (by decide) (Nat.le_of_ble_eq_true rfl) ?_
          obtain ⟨p76, h76, hE⟩ := bnd hE
          refine Wp.cV1i (ok_X12_draw  h76) dc_X12_opens_76 mw_X12_375 (mO11 (by decide)) (by decide) (Nat.le_of_ble_eq_true rfl) ?_
          refine Wp.istore dc_X12_opens_79 (by decide) ?_
          refine Wp.iconst dc_X12_opens_81 ic_0 ?_
          refine Wp.istore dc_X12_opens_82 (by decide) ?_
          exact ok_X12_opens_l84   hE hS hT
        · rw [if_pos hc65] at hE
          refine Wp.goto (tgt := 197) dc_X12_opens_68 (by decide) ?_
          exact ok_X12_opens_j197   hE hS hT
      · rw [if_neg hc47] at hE
        refine Wp.goto (tgt := 197) dc_X12_opens_50 (by decide) ?_
        exact ok_X12_opens_j197   hE hS hT
theorem ok_X12_opens_l15 {Q : Option AV → AH → Prop}  {σ : SS}  {x1 : Int32} {x2 : Int32} {o} {z3 z4 z5 z6 : Option AV}   (hE : X12_opens_l15  σ  x1 x2 = some o) (hK : Q (some (vi o.1)) (hp o.2)) : Ws 2 mi_X12_opens Q 15 [some (vr 11 0), some (vi x1), some (vi x2), z3, z4, z5, z6] [] σ := by
  unfold X12_opens_l15 at hE
  obtain ⟨t15, h1, hE⟩ := bnd hE
  refine iter_ok (P := (X12_opens_P15  Q   )) (R := (X12_opens_R15  Q   )) (fun ss o h2 hS hT => ?_) NF _ _ h1 ?_ _ _ _ _
  · intro z3 z4 z5 z6
    exact ok_X12_opens_l15c   h2 hS hT
  · intro z0 z2 z3 z4 z5 z6
    show Ws 2 mi_X12_opens Q 203 [z0, some (vi t15.1), z2, z3, z4, z5, z6] [] t15.2
    refine Wp.iload_n dc_X12_opens_203 rfl ?_
    cases hE
    exact Wp.ireturn dc_X12_opens_204 rfl rfl (Nat.le_refl _) (Nat.le_refl _) hK
theorem ok_X12_opens_j0 {Q : Option AV → AH → Prop}  {σ : SS}   {o} {z1 z2 z3 z4 z5 z6 : Option AV}   (hE : X12_opens_j0  σ   = some o) (hK : Q (some (vi o.1)) (hp o.2)) : Ws 2 mi_X12_opens Q 0 [some (vr 11 0), z1, z2, z3, z4, z5, z6] [] σ := by
  unfold X12_opens_j0 at hE
  refine Wp.aload_n dc_X12_opens_0 rfl ?_
  refine Wp.sgetR (t := 34) dc_X12_opens_1 fw_X12_35 (mO11 (by decide)) rfl ?_
  refine Wp.bipush dc_X12_opens_4 bp_7 ?_
  refine Wp.dup2 dc_X12_opens_6 rfl rfl ?_
  obtain ⟨j7, h7, hE⟩ := bnd hE
  refine Wp.siald dc_X12_opens_7 (mO13 (by decide)) h7 ?_
  refine Wp.iconst dc_X12_opens_8 ic_1 ?_
  refine Wp.iadd dc_X12_opens_9 ?_
  obtain ⟨j10, h10, hE⟩ := bnd hE
  refine Wp.siast dc_X12_opens_10 (mO13 (by decide)) h10 ?_
  obtain ⟨σ10, es_10, hE⟩ := bnS hE
  rw [es_10]
  refine Wp.iconst dc_X12_opens_11 ic_0 ?_
  refine Wp.istore_n dc_X12_opens_12 (by decide) ?_
  refine Wp.iconst dc_X12_opens_13 ic_0 ?_
  refine Wp.istore_n dc_X12_opens_14 (by decide) ?_
  exact ok_X12_opens_l15   hE hK
theorem ok_X12_opens  {σ : SS}   {o}   (hE : X12_opens  σ   = some o) : Runs 2 0 0 mi_X12_opens [vr 11 0] (hp σ) (fun v h => v = some (vi o.1) ∧ h = hp o.2) := by
  refine Runs.of pn_X12 (Nat.le_of_ble_eq_true rfl) ?_
  exact ok_X12_opens_j0   hE ⟨rfl, rfl⟩
theorem ok_X12_open_j0 {Q : Option AV → AH → Prop}  {σ : SS}  {x1 : Int32} {o}    (hE : X12_open_j0  σ  x1 = some o) (hK : Q (some (vi o.1)) (hp o.2)) : Ws 3 mi_X12_open Q 0 [some (vr 11 0), some (vi x1)] [] σ := by
  unfold X12_open_j0 at hE
  refine Wp.aload_n dc_X12_open_0 rfl ?_
  refine Wp.iconst dc_X12_open_1 ic_0 ?_
  refine Wp.sputI dc_X12_open_2 fw_X12_77 (mO11 (by decide)) (Nr.i _) ?_
  obtain ⟨σ2, es_2, hE⟩ := bnS hE
  rw [es_2]
  refine Wp.aload_n dc_X12_open_5 rfl ?_
  refine Wp.iconst dc_X12_open_6 ic_0 ?_
  refine Wp.sputI dc_X12_open_7 fw_X12_80 (mO11 (by decide)) (Nr.i _) ?_
  obtain ⟨σ7, es_7, hE⟩ := bnS hE
  rw [es_7]
  refine Wp.iload_n dc_X12_open_10 rfl ?_
  refine Wp.i2l dc_X12_open_11 ?_
  refine Wp.lconst dc_X12_open_12 lc_0 ?_
  refine Wp.ldc2 dc_X12_open_13 kw_X12_378 ?_
  obtain ⟨v16, h16, hE⟩ := bnd hE
  refine Wp.cS3i (ok_X12_isIn  h16) dc_X12_open_16 mw_X12_112 (by decide) (Nat.le_of_ble_eq_true rfl) ?_
  refine Wp.if_ne (tgt := 28) dc_X12_open_19 (by decide) (fun hc19 => ?_) (fun hc19 => ?_)
  · rw [if_neg hc19] at hE
    refine Wp.aload_n dc_X12_open_28 rfl ?_
    refine Wp.iload_n dc_X12_open_29 rfl ?_
    refine Wp.sputI dc_X12_open_30 fw_X12_371 (mO11 (by decide)) (Nr.i _) ?_
    obtain ⟨σ30, es_30, hE⟩ := bnS hE
    rw [es_30]
    refine Wp.aload_n dc_X12_open_33 rfl ?_
    obtain ⟨p34, h34, hE⟩ := bnd hE
    refine Wp.cV0i (ok_X12_opens  h34) dc_X12_open_34 mw_X12_380 (mO11 (by decide)) (by decide) (Nat.le_of_ble_eq_true rfl) ?_
    cases hE
    exact Wp.ireturn dc_X12_open_37 rfl rfl (Nat.le_refl _) (Nat.le_refl _) hK
  · rw [if_pos hc19] at hE
    refine Wp.aload_n dc_X12_open_22 rfl ?_
    refine Wp.iconst dc_X12_open_23 ic_5 ?_
    obtain ⟨p24, h24, hE⟩ := bnd hE
    refine Wp.cV1i (ok_X12_refuse  h24) dc_X12_open_24 mw_X12_308 (mO11 (by decide)) (by decide) (Nat.le_of_ble_eq_true rfl) ?_
    cases hE
    exact Wp.ireturn dc_X12_open_27 rfl rfl (Nat.le_refl _) (Nat.le_refl _) hK
theorem ok_X12_open  {σ : SS}  {x1 : Int32} {o}   (hE : X12_open  σ  x1 = some o) : Runs 3 0 0 mi_X12_open [vr 11 0, vi x1] (hp σ) (fun v h => v = some (vi o.1) ∧ h = hp o.2) := by
  refine Runs.of pn_X12 (Nat.le_of_ble_eq_true rfl) ?_
  exact ok_X12_open_j0   hE ⟨rfl, rfl⟩
theorem ok_X12_lump_j0 {Q : Option AV → AH → Prop}  {σ : SS}  {x1 : Int32} {o}    (hE : X12_lump_j0  σ  x1 = some o) (hK : Q (some (vi o.1)) (hp o.2)) : Ws 2 mi_X12_lump Q 0 [some (vr 11 0), some (vi x1)] [] σ := by
  unfold X12_lump_j0 at hE
  refine Wp.aload_n dc_X12_lump_0 rfl ?_
  refine Wp.iconst dc_X12_lump_1 ic_0 ?_
  refine Wp.sputI dc_X12_lump_2 fw_X12_77 (mO11 (by decide)) (Nr.i _) ?_
  obtain ⟨σ2, es_2, hE⟩ := bnS hE
  rw [es_2]
  refine Wp.aload_n dc_X12_lump_5 rfl ?_
  refine Wp.iconst dc_X12_lump_6 ic_0 ?_
  refine Wp.sputI dc_X12_lump_7 fw_X12_80 (mO11 (by decide)) (Nr.i _) ?_
  obtain ⟨σ7, es_7, hE⟩ := bnS hE
  rw [es_7]
  refine Wp.aload_n dc_X12_lump_10 rfl ?_
  refine Wp.iload_n dc_X12_lump_11 rfl ?_
  obtain ⟨v12, h12, hE⟩ := bnd hE
  refine Wp.cV1i (ok_X12_isLeadAt  h12) dc_X12_lump_12 mw_X12_311 (mO11 (by decide)) (by decide) (Nat.le_of_ble_eq_true rfl) ?_
  refine Wp.if_ne (tgt := 24) dc_X12_lump_15 (by decide) (fun hc15 => ?_) (fun hc15 => ?_)
  · rw [if_neg hc15] at hE
    refine Wp.aload_n dc_X12_lump_24 rfl ?_
    refine Wp.iload_n dc_X12_lump_25 rfl ?_
    obtain ⟨v26, h26, hE⟩ := bnd hE
    refine Wp.cV1i (ok_X12_isInside  h26) dc_X12_lump_26 mw_X12_337 (mO11 (by decide)) (by decide) (Nat.le_of_ble_eq_true rfl) ?_
    refine Wp.if_eq (tgt := 40) dc_X12_lump_29 (by decide) (fun hc29 => ?_) (fun hc29 => ?_)
    · rw [if_pos hc29] at hE
      refine Wp.aload_n dc_X12_lump_40 rfl ?_
      refine Wp.bipush dc_X12_lump_41 bp_9 ?_
      obtain ⟨p43, h43, hE⟩ := bnd hE
      refine Wp.cV1i (ok_X12_refuse  h43) dc_X12_lump_43 mw_X12_308 (mO11 (by decide)) (by decide) (Nat.le_of_ble_eq_true rfl) ?_
      cases hE
      exact Wp.ireturn dc_X12_lump_46 rfl rfl (Nat.le_refl _) (Nat.le_refl _) hK
    · rw [if_neg hc29] at hE
      refine Wp.aload_n dc_X12_lump_32 rfl ?_
      refine Wp.iload_n dc_X12_lump_33 rfl ?_
      obtain ⟨v34, h34, hE⟩ := bnd hE
      refine Wp.cV1i (ok_X12_lumpOf  h34) dc_X12_lump_34 mw_X12_346 (mO11 (by decide)) (by decide) (Nat.le_of_ble_eq_true rfl) ?_
      refine Wp.goto (tgt := 46) dc_X12_lump_37 (by decide) ?_
      cases hE
      exact Wp.ireturn dc_X12_lump_46 rfl rfl (Nat.le_refl _) (Nat.le_refl _) hK
  · rw [if_pos hc15] at hE
    refine Wp.aload_n dc_X12_lump_18 rfl ?_
    refine Wp.iconst dc_X12_lump_19 ic_2 ?_
    obtain ⟨p20, h20, hE⟩ := bnd hE
    refine Wp.cV1i (ok_X12_refuse  h20) dc_X12_lump_20 mw_X12_308 (mO11 (by decide)) (by decide) (Nat.le_of_ble_eq_true rfl) ?_
    cases hE
    exact Wp.ireturn dc_X12_lump_23 rfl rfl (Nat.le_refl _) (Nat.le_refl _) hK
theorem ok_X12_lump  {σ : SS}  {x1 : Int32} {o}   (hE : X12_lump  σ  x1 = some o) : Runs 2 0 0 mi_X12_lump [vr 11 0, vi x1] (hp σ) (fun v h => v = some (vi o.1) ∧ h = hp o.2) := by
  refine Runs.of pn_X12 (Nat.le_of_ble_eq_true rfl) ?_
  exact ok_X12_lump_j0   hE ⟨rfl, rfl⟩
def X12_largest_P4 (Q : Option AV → AH → Prop) (σ : SS)  (x1 : Int32) (ss : Int32 × Int32) : Prop := Ws 2 mi_X12_largest Q 4 [some (vr 11 0), some (vi x1), some (vi ss.1), some (vi ss.2)] [] σ
def X12_largest_R4 (Q : Option AV → AH → Prop) (σ : SS)  (x1 : Int32) (tt : Int32) : Prop := ∀ z0 z1 z3 : Option AV, Ws 2 mi_X12_largest Q 46 [z0, z1, some (vi tt), z3] [] σ
theorem ok_X12_largest_j40 {Q : Option AV → AH → Prop}  {σ : SS}  {x1 : Int32} {x2 : Int32} {x3 : Int32} {o}    (hE : X12_largest_j40  σ  x1 x2 x3 = some o) (hS : ∀ ss, o = Sum.inl ss → (X12_largest_P4  Q σ  x1) ss) (hT : ∀ tt, o = Sum.inr tt → (X12_largest_R4  Q σ  x1) tt) : Ws 2 mi_X12_largest Q 40 [some (vr 11 0), some (vi x1), some (vi x2), some (vi x3)] [] σ := by
  unfold X12_largest_j40 at hE
  obtain ⟨x3_40, e_40, hE⟩ := bnS hE
  refine Wp.iinc dc_X12_largest_40 rfl ((ii ic_1).trans e_40) (by decide) ?_
  refine Wp.goto (tgt := 4) dc_X12_largest_43 (by decide) ?_
  cases hE
  exact hS _ rfl
theorem ok_X12_largest_l4c {Q : Option AV → AH → Prop}  {σ : SS}  {x1 : Int32} {x2 : Int32} {x3 : Int32} {o}    (hE : X12_largest_l4c  σ  x1 x2 x3 = some o) (hS : ∀ ss, o = Sum.inl ss → (X12_largest_P4  Q σ  x1) ss) (hT : ∀ tt, o = Sum.inr tt → (X12_largest_R4  Q σ  x1) tt) : Ws 2 mi_X12_largest Q 4 [some (vr 11 0), some (vi x1), some (vi x2), some (vi x3)] [] σ := by
  unfold X12_largest_l4c at hE
  refine Wp.iload_n dc_X12_largest_4 rfl ?_
  refine Wp.aload_n dc_X12_largest_5 rfl ?_
  refine Wp.sgetR (t := 34) dc_X12_largest_6 fw_X12_35 (mO11 (by decide)) rfl ?_
  refine Wp.iconst dc_X12_largest_9 ic_0 ?_
  obtain ⟨j10, h10, hE⟩ := bnd hE
  refine Wp.siald dc_X12_largest_10 (mO13 (by decide)) h10 ?_
  refine Wp.icmp_ge (tgt := 46) dc_X12_largest_11 (by decide) (fun hc11 => ?_) (fun hc11 => ?_)
  · rw [if_pos hc11] at hE
    cases hE
    exact hT _ rfl _ _ _
  · rw [if_neg hc11] at hE
    refine Wp.aload_n dc_X12_largest_14 rfl ?_
    refine Wp.iload_n dc_X12_largest_15 rfl ?_
    obtain ⟨v16, h16, hE⟩ := bnd hE
    refine Wp.cV1i (ok_X12_isInside  h16) dc_X12_largest_16 mw_X12_337 (mO11 (by decide)) (by decide) (Nat.le_of_ble_eq_true rfl) ?_
    refine Wp.if_eq (tgt := 40) dc_X12_largest_19 (by decide) (fun hc19 => ?_) (fun hc19 => ?_)
    · rw [if_pos hc19] at hE
      exact ok_X12_largest_j40   hE hS hT
    · rw [if_neg hc19] at hE
      refine Wp.iload_n dc_X12_largest_22 rfl ?_
      refine Wp.iload_n dc_X12_largest_23 rfl ?_
      refine Wp.icmp_eq (tgt := 40) dc_X12_largest_24 (by decide) (fun hc24 => ?_) (fun hc24 => ?_)
      · rw [if_pos hc24] at hE
        exact ok_X12_largest_j40   hE hS hT
      · rw [if_neg hc24] at hE
        refine Wp.iload_n dc_X12_largest_27 rfl ?_
        refine Wp.aload_n dc_X12_largest_28 rfl ?_
        refine Wp.iload_n dc_X12_largest_29 rfl ?_
        obtain ⟨v30, h30, hE⟩ := bnd hE
        refine Wp.cV1i (ok_X12_lumpOf  h30) dc_X12_largest_30 mw_X12_346 (mO11 (by decide)) (by decide) (Nat.le_of_ble_eq_true rfl) ?_
        obtain ⟨v33, h33, hE⟩ := bnd hE
        refine Wp.cS1i (ok_X12_sizeOf  h33) dc_X12_largest_33 mw_X12_349 (by decide) (Nat.le_of_ble_eq_true rfl) ?_
        refine Wp.mmax dc_X12_largest_36 lw_X12_248 ms_max mi_Math mk_max (by decide) (Nat.le_refl _) (Nat.le_refl _) (Nat.le_of_ble_eq_true rfl) ?_
        obtain ⟨x2_39, e_39, hE⟩ := bnS hE
        rw [e_39]
        refine Wp.istore_n dc_X12_largest_39 (by decide) ?_
        exact ok_X12_largest_j40   hE hS hT
theorem ok_X12_largest_l4 {Q : Option AV → AH → Prop}  {σ : SS}  {x1 : Int32} {x2 : Int32} {x3 : Int32} {o}    (hE : X12_largest_l4  σ  x1 x2 x3 = some o) (hK : Q (some (vi o)) (hp σ)) : Ws 2 mi_X12_largest Q 4 [some (vr 11 0), some (vi x1), some (vi x2), some (vi x3)] [] σ := by
  unfold X12_largest_l4 at hE
  obtain ⟨t4, h1, hE⟩ := bnd hE
  refine iter_ok (P := (X12_largest_P4  Q σ  x1)) (R := (X12_largest_R4  Q σ  x1)) (fun ss o h2 hS hT => ?_) NF _ _ h1 ?_
  · skip
    exact ok_X12_largest_l4c   h2 hS hT
  · intro z0 z1 z3
    show Ws 2 mi_X12_largest Q 46 [z0, z1, some (vi t4), z3] [] σ
    refine Wp.iload_n dc_X12_largest_46 rfl ?_
    cases hE
    exact Wp.ireturn dc_X12_largest_47 rfl rfl (Nat.le_refl _) (Nat.le_refl _) hK
theorem ok_X12_largest_j0 {Q : Option AV → AH → Prop}  {σ : SS}  {x1 : Int32} {o} {z2 z3 : Option AV}   (hE : X12_largest_j0  σ  x1 = some o) (hK : Q (some (vi o)) (hp σ)) : Ws 2 mi_X12_largest Q 0 [some (vr 11 0), some (vi x1), z2, z3] [] σ := by
  unfold X12_largest_j0 at hE
  refine Wp.iconst dc_X12_largest_0 ic_0 ?_
  refine Wp.istore_n dc_X12_largest_1 (by decide) ?_
  refine Wp.iconst dc_X12_largest_2 ic_0 ?_
  refine Wp.istore_n dc_X12_largest_3 (by decide) ?_
  exact ok_X12_largest_l4   hE hK
theorem ok_X12_largest  {σ : SS}  {x1 : Int32} {o}   (hE : X12_largest  σ  x1 = some o) : Runs 2 0 0 mi_X12_largest [vr 11 0, vi x1] (hp σ) (fun v h => v = some (vi o) ∧ h = hp σ) := by
  refine Runs.of pn_X12 (Nat.le_of_ble_eq_true rfl) ?_
  exact ok_X12_largest_j0   hE ⟨rfl, rfl⟩
def X12_lumps_P44 (Q : Option AV → AH → Prop) (σ : SS)   (ss : Int32 × Int32 × Int32) : Prop := ∀ z1 : Option AV, Ws 3 mi_X12_lumps Q 44 [some (vr 11 0), z1, some (vi ss.1), some (vi ss.2.1), some (vi ss.2.2)] [] σ
def X12_lumps_R44 (Q : Option AV → AH → Prop) (σ : SS)   (tt : Int32) : Prop := ∀ z0 z1 z3 z4 : Option AV, Ws 3 mi_X12_lumps Q 112 [z0, z1, some (vi tt), z3, z4] [] σ
theorem ok_X12_lumps_j106 {Q : Option AV → AH → Prop}  {σ : SS}  {x2 : Int32} {x3 : Int32} {x4 : Int32} {o} {z1 : Option AV}   (hE : X12_lumps_j106  σ  x2 x3 x4 = some o) (hS : ∀ ss, o = Sum.inl ss → (X12_lumps_P44  Q σ  ) ss) (hT : ∀ tt, o = Sum.inr tt → (X12_lumps_R44  Q σ  ) tt) : Ws 3 mi_X12_lumps Q 106 [some (vr 11 0), z1, some (vi x2), some (vi x3), some (vi x4)] [] σ := by
  unfold X12_lumps_j106 at hE
  obtain ⟨x4_106, e_106, hE⟩ := bnS hE
  refine Wp.iinc dc_X12_lumps_106 rfl ((ii ic_1).trans e_106) (by decide) ?_
  refine Wp.goto (tgt := 44) dc_X12_lumps_109 (by decide) ?_
  cases hE
  exact hS _ rfl _
theorem ok_X12_lumps_j104 {Q : Option AV → AH → Prop}  {σ : SS}  {x3 : Int32} {x4 : Int32} {s0 : Int32} {s1 : Int32} {o} {z1 z2 : Option AV}   (hE : X12_lumps_j104  σ  x3 x4 s0 s1 = some o) (hS : ∀ ss, o = Sum.inl ss → (X12_lumps_P44  Q σ  ) ss) (hT : ∀ tt, o = Sum.inr tt → (X12_lumps_R44  Q σ  ) tt) : Ws 3 mi_X12_lumps Q 104 [some (vr 11 0), z1, z2, some (vi x3), some (vi x4)] [vi s1, vi s0] σ := by
  unfold X12_lumps_j104 at hE
  refine Wp.iadd dc_X12_lumps_104 ?_
  obtain ⟨x2_105, e_105, hE⟩ := bnS hE
  rw [e_105]
  refine Wp.istore_n dc_X12_lumps_105 (by decide) ?_
  exact ok_X12_lumps_j106   hE hS hT
theorem ok_X12_lumps_l44c {Q : Option AV → AH → Prop}  {σ : SS}   {x2 : Int32} {x3 : Int32} {x4 : Int32} {o} {z1 : Option AV}   (hE : X12_lumps_l44c  σ   x2 x3 x4 = some o) (hS : ∀ ss, o = Sum.inl ss → (X12_lumps_P44  Q σ  ) ss) (hT : ∀ tt, o = Sum.inr tt → (X12_lumps_R44  Q σ  ) tt) : Ws 3 mi_X12_lumps Q 44 [some (vr 11 0), z1, some (vi x2), some (vi x3), some (vi x4)] [] σ := by
  unfold X12_lumps_l44c at hE
  refine Wp.iload dc_X12_lumps_44 rfl ?_
  refine Wp.aload_n dc_X12_lumps_46 rfl ?_
  refine Wp.sgetR (t := 34) dc_X12_lumps_47 fw_X12_35 (mO11 (by decide)) rfl ?_
  refine Wp.iconst dc_X12_lumps_50 ic_0 ?_
  obtain ⟨j51, h51, hE⟩ := bnd hE
  refine Wp.siald dc_X12_lumps_51 (mO13 (by decide)) h51 ?_
  refine Wp.icmp_ge (tgt := 112) dc_X12_lumps_52 (by decide) (fun hc52 => ?_) (fun hc52 => ?_)
  · rw [if_pos hc52] at hE
    cases hE
    exact hT _ rfl _ _ _ _
  · rw [if_neg hc52] at hE
    refine Wp.aload_n dc_X12_lumps_55 rfl ?_
    refine Wp.iload dc_X12_lumps_56 rfl ?_
    obtain ⟨v58, h58, hE⟩ := bnd hE
    refine Wp.cV1i (ok_X12_isInside  h58) dc_X12_lumps_58 mw_X12_337 (mO11 (by decide)) (by decide) (Nat.le_of_ble_eq_true rfl) ?_
    refine Wp.if_eq (tgt := 106) dc_X12_lumps_61 (by decide) (fun hc61 => ?_) (fun hc61 => ?_)
    · rw [if_pos hc61] at hE
      exact ok_X12_lumps_j106   hE hS hT
    · rw [if_neg hc61] at hE
      refine Wp.iload_n dc_X12_lumps_64 rfl ?_
      refine Wp.iload dc_X12_lumps_65 rfl ?_
      obtain ⟨v67, h67, hE⟩ := bnd hE
      refine Wp.cS2i (ok_X12_has  h67) dc_X12_lumps_67 mw_X12_116 (by decide) (Nat.le_of_ble_eq_true rfl) ?_
      refine Wp.if_eq (tgt := 76) dc_X12_lumps_70 (by decide) (fun hc70 => ?_) (fun hc70 => ?_)
      · rw [if_pos hc70] at hE
        refine Wp.iload_n dc_X12_lumps_76 rfl ?_
        refine Wp.aload_n dc_X12_lumps_77 rfl ?_
        refine Wp.iload dc_X12_lumps_78 rfl ?_
        obtain ⟨v80, h80, hE⟩ := bnd hE
        refine Wp.cV1i (ok_X12_lumpOf  h80) dc_X12_lumps_80 mw_X12_346 (mO11 (by decide)) (by decide) (Nat.le_of_ble_eq_true rfl) ?_
        refine Wp.ior dc_X12_lumps_83 ?_
        obtain ⟨x3_84, e_84, hE⟩ := bnS hE
        rw [e_84]
        refine Wp.istore_n dc_X12_lumps_84 (by decide) ?_
        refine Wp.iload_n dc_X12_lumps_85 rfl ?_
        refine Wp.aload_n dc_X12_lumps_86 rfl ?_
        refine Wp.iload dc_X12_lumps_87 rfl ?_
        obtain ⟨v89, h89, hE⟩ := bnd hE
        refine Wp.cV1i (ok_X12_lumpOf  h89) dc_X12_lumps_89 mw_X12_346 (mO11 (by decide)) (by decide) (Nat.le_of_ble_eq_true rfl) ?_
        obtain ⟨v92, h92, hE⟩ := bnd hE
        refine Wp.cS1i (ok_X12_sizeOf  h92) dc_X12_lumps_92 mw_X12_349 (by decide) (Nat.le_of_ble_eq_true rfl) ?_
        refine Wp.iconst dc_X12_lumps_95 ic_1 ?_
        refine Wp.icmp_le (tgt := 103) dc_X12_lumps_96 (by decide) (fun hc96 => ?_) (fun hc96 => ?_)
        · rw [if_pos hc96] at hE
          refine Wp.iconst dc_X12_lumps_103 ic_0 ?_
          exact ok_X12_lumps_j104   hE hS hT
        · rw [if_neg hc96] at hE
          refine Wp.iconst dc_X12_lumps_99 ic_1 ?_
          refine Wp.goto (tgt := 104) dc_X12_lumps_100 (by decide) ?_
          exact ok_X12_lumps_j104   hE hS hT
      · rw [if_neg hc70] at hE
        refine Wp.goto (tgt := 106) dc_X12_lumps_73 (by decide) ?_
        exact ok_X12_lumps_j106   hE hS hT
theorem ok_X12_lumps_l44 {Q : Option AV → AH → Prop}  {σ : SS}  {x2 : Int32} {x3 : Int32} {x4 : Int32} {o} {z1 : Option AV}   (hE : X12_lumps_l44  σ  x2 x3 x4 = some o) (hK : Q (some (vi o.1)) (hp o.2)) : Ws 3 mi_X12_lumps Q 44 [some (vr 11 0), z1, some (vi x2), some (vi x3), some (vi x4)] [] σ := by
  unfold X12_lumps_l44 at hE
  obtain ⟨t44, h1, hE⟩ := bnd hE
  refine iter_ok (P := (X12_lumps_P44  Q σ  )) (R := (X12_lumps_R44  Q σ  )) (fun ss o h2 hS hT => ?_) NF _ _ h1 ?_ _
  · intro z1
    exact ok_X12_lumps_l44c   h2 hS hT
  · intro z0 z1 z3 z4
    show Ws 3 mi_X12_lumps Q 112 [z0, z1, some (vi t44), z3, z4] [] σ
    refine Wp.iload_n dc_X12_lumps_112 rfl ?_
    cases hE
    exact Wp.ireturn dc_X12_lumps_113 rfl rfl (Nat.le_refl _) (Nat.le_refl _) hK
theorem ok_X12_lumps_j0 {Q : Option AV → AH → Prop}  {σ : SS}  {x1 : Int32} {o} {z2 z3 z4 : Option AV}   (hE : X12_lumps_j0  σ  x1 = some o) (hK : Q (some (vi o.1)) (hp o.2)) : Ws 3 mi_X12_lumps Q 0 [some (vr 11 0), some (vi x1), z2, z3, z4] [] σ := by
  unfold X12_lumps_j0 at hE
  refine Wp.aload_n dc_X12_lumps_0 rfl ?_
  refine Wp.iconst dc_X12_lumps_1 ic_0 ?_
  refine Wp.sputI dc_X12_lumps_2 fw_X12_77 (mO11 (by decide)) (Nr.i _) ?_
  obtain ⟨σ2, es_2, hE⟩ := bnS hE
  rw [es_2]
  refine Wp.aload_n dc_X12_lumps_5 rfl ?_
  refine Wp.iconst dc_X12_lumps_6 ic_0 ?_
  refine Wp.sputI dc_X12_lumps_7 fw_X12_80 (mO11 (by decide)) (Nr.i _) ?_
  obtain ⟨σ7, es_7, hE⟩ := bnS hE
  rw [es_7]
  refine Wp.iload_n dc_X12_lumps_10 rfl ?_
  refine Wp.i2l dc_X12_lumps_11 ?_
  refine Wp.lconst dc_X12_lumps_12 lc_0 ?_
  refine Wp.lconst dc_X12_lumps_13 lc_1 ?_
  obtain ⟨v14, h14, hE⟩ := bnd hE
  refine Wp.cS3i (ok_X12_isIn  h14) dc_X12_lumps_14 mw_X12_112 (by decide) (Nat.le_of_ble_eq_true rfl) ?_
  refine Wp.if_ne (tgt := 26) dc_X12_lumps_17 (by decide) (fun hc17 => ?_) (fun hc17 => ?_)
  · rw [if_neg hc17] at hE
    refine Wp.iload_n dc_X12_lumps_26 rfl ?_
    refine Wp.iconst dc_X12_lumps_27 ic_1 ?_
    refine Wp.icmp_ne (tgt := 37) dc_X12_lumps_28 (by decide) (fun hc28 => ?_) (fun hc28 => ?_)
    · rw [if_neg hc28] at hE
      refine Wp.iconst dc_X12_lumps_37 ic_0 ?_
      refine Wp.istore_n dc_X12_lumps_38 (by decide) ?_
      refine Wp.iconst dc_X12_lumps_39 ic_0 ?_
      refine Wp.istore_n dc_X12_lumps_40 (by decide) ?_
      refine Wp.iconst dc_X12_lumps_41 ic_0 ?_
      refine Wp.istore dc_X12_lumps_42 (by decide) ?_
      exact ok_X12_lumps_l44   hE hK
    · rw [if_pos hc28] at hE
      refine Wp.aload_n dc_X12_lumps_31 rfl ?_
      refine Wp.iconst dc_X12_lumps_32 ic_m1 ?_
      obtain ⟨v33, h33, hE⟩ := bnd hE
      refine Wp.cV1i (ok_X12_largest  h33) dc_X12_lumps_33 mw_X12_383 (mO11 (by decide)) (by decide) (Nat.le_of_ble_eq_true rfl) ?_
      cases hE
      exact Wp.ireturn dc_X12_lumps_36 rfl rfl (Nat.le_refl _) (Nat.le_refl _) hK
  · rw [if_pos hc17] at hE
    refine Wp.aload_n dc_X12_lumps_20 rfl ?_
    refine Wp.iconst dc_X12_lumps_21 ic_5 ?_
    obtain ⟨p22, h22, hE⟩ := bnd hE
    refine Wp.cV1i (ok_X12_refuse  h22) dc_X12_lumps_22 mw_X12_308 (mO11 (by decide)) (by decide) (Nat.le_of_ble_eq_true rfl) ?_
    cases hE
    exact Wp.ireturn dc_X12_lumps_25 rfl rfl (Nat.le_refl _) (Nat.le_refl _) hK
theorem ok_X12_lumps  {σ : SS}  {x1 : Int32} {o}   (hE : X12_lumps  σ  x1 = some o) : Runs 3 0 0 mi_X12_lumps [vr 11 0, vi x1] (hp σ) (fun v h => v = some (vi o.1) ∧ h = hp o.2) := by
  refine Runs.of pn_X12 (Nat.le_of_ble_eq_true rfl) ?_
  exact ok_X12_lumps_j0   hE ⟨rfl, rfl⟩
theorem ok_X12_comes_j0 {Q : Option AV → AH → Prop}  {σ : SS}  {x1 : Int32} {o}    (hE : X12_comes_j0  σ  x1 = some o) (hK : Q (some (vi o.1)) (hp o.2)) : Ws 2 mi_X12_comes Q 0 [some (vr 11 0), some (vi x1)] [] σ := by
  unfold X12_comes_j0 at hE
  refine Wp.aload_n dc_X12_comes_0 rfl ?_
  refine Wp.iconst dc_X12_comes_1 ic_0 ?_
  refine Wp.sputI dc_X12_comes_2 fw_X12_77 (mO11 (by decide)) (Nr.i _) ?_
  obtain ⟨σ2, es_2, hE⟩ := bnS hE
  rw [es_2]
  refine Wp.aload_n dc_X12_comes_5 rfl ?_
  refine Wp.iconst dc_X12_comes_6 ic_0 ?_
  refine Wp.sputI dc_X12_comes_7 fw_X12_80 (mO11 (by decide)) (Nr.i _) ?_
  obtain ⟨σ7, es_7, hE⟩ := bnS hE
  rw [es_7]
  refine Wp.aload_n dc_X12_comes_10 rfl ?_
  refine Wp.iload_n dc_X12_comes_11 rfl ?_
  obtain ⟨v12, h12, hE⟩ := bnd hE
  refine Wp.cV1i (ok_X12_isLeadAt  h12) dc_X12_comes_12 mw_X12_311 (mO11 (by decide)) (by decide) (Nat.le_of_ble_eq_true rfl) ?_
  refine Wp.if_ne (tgt := 24) dc_X12_comes_15 (by decide) (fun hc15 => ?_) (fun hc15 => ?_)
  · rw [if_neg hc15] at hE
    refine Wp.aload_n dc_X12_comes_24 rfl ?_
    refine Wp.iload_n dc_X12_comes_25 rfl ?_
    obtain ⟨v26, h26, hE⟩ := bnd hE
    refine Wp.cV1i (ok_X12_isInside  h26) dc_X12_comes_26 mw_X12_337 (mO11 (by decide)) (by decide) (Nat.le_of_ble_eq_true rfl) ?_
    refine Wp.if_ne (tgt := 39) dc_X12_comes_29 (by decide) (fun hc29 => ?_) (fun hc29 => ?_)
    · rw [if_neg hc29] at hE
      refine Wp.aload_n dc_X12_comes_39 rfl ?_
      refine Wp.iload_n dc_X12_comes_40 rfl ?_
      obtain ⟨v41, h41, hE⟩ := bnd hE
      refine Wp.cV1i (ok_X12_lumpOf  h41) dc_X12_comes_41 mw_X12_346 (mO11 (by decide)) (by decide) (Nat.le_of_ble_eq_true rfl) ?_
      obtain ⟨v44, h44, hE⟩ := bnd hE
      refine Wp.cS1i (ok_X12_sizeOf  h44) dc_X12_comes_44 mw_X12_349 (by decide) (Nat.le_of_ble_eq_true rfl) ?_
      refine Wp.iconst dc_X12_comes_47 ic_1 ?_
      refine Wp.icmp_ne (tgt := 55) dc_X12_comes_48 (by decide) (fun hc48 => ?_) (fun hc48 => ?_)
      · rw [if_neg hc48] at hE
        refine Wp.iconst dc_X12_comes_55 ic_0 ?_
        cases hE
        exact Wp.ireturn dc_X12_comes_56 rfl rfl (Nat.le_refl _) (Nat.le_refl _) hK
      · rw [if_pos hc48] at hE
        refine Wp.iconst dc_X12_comes_51 ic_1 ?_
        refine Wp.goto (tgt := 56) dc_X12_comes_52 (by decide) ?_
        cases hE
        exact Wp.ireturn dc_X12_comes_56 rfl rfl (Nat.le_refl _) (Nat.le_refl _) hK
    · rw [if_pos hc29] at hE
      refine Wp.aload_n dc_X12_comes_32 rfl ?_
      refine Wp.bipush dc_X12_comes_33 bp_9 ?_
      obtain ⟨p35, h35, hE⟩ := bnd hE
      refine Wp.cV1i (ok_X12_refuse  h35) dc_X12_comes_35 mw_X12_308 (mO11 (by decide)) (by decide) (Nat.le_of_ble_eq_true rfl) ?_
      cases hE
      exact Wp.ireturn dc_X12_comes_38 rfl rfl (Nat.le_refl _) (Nat.le_refl _) hK
  · rw [if_pos hc15] at hE
    refine Wp.aload_n dc_X12_comes_18 rfl ?_
    refine Wp.iconst dc_X12_comes_19 ic_2 ?_
    obtain ⟨p20, h20, hE⟩ := bnd hE
    refine Wp.cV1i (ok_X12_refuse  h20) dc_X12_comes_20 mw_X12_308 (mO11 (by decide)) (by decide) (Nat.le_of_ble_eq_true rfl) ?_
    cases hE
    exact Wp.ireturn dc_X12_comes_23 rfl rfl (Nat.le_refl _) (Nat.le_refl _) hK
theorem ok_X12_comes  {σ : SS}  {x1 : Int32} {o}   (hE : X12_comes  σ  x1 = some o) : Runs 2 0 0 mi_X12_comes [vr 11 0, vi x1] (hp σ) (fun v h => v = some (vi o.1) ∧ h = hp o.2) := by
  refine Runs.of pn_X12 (Nat.le_of_ble_eq_true rfl) ?_
  exact ok_X12_comes_j0   hE ⟨rfl, rfl⟩
def X12_easy_P14 (Q : Option AV → AH → Prop) (σ : SS)   (ss : Int32 × Int32) : Prop := Ws 2 mi_X12_easy Q 14 [some (vr 11 0), some (vi ss.1), some (vi ss.2)] [] σ
def X12_easy_R14 (Q : Option AV → AH → Prop) (σ : SS)   (tt : Int32) : Prop := ∀ z0 z2 : Option AV, Ws 2 mi_X12_easy Q 60 [z0, some (vi tt), z2] [] σ
theorem ok_X12_easy_j52 {Q : Option AV → AH → Prop}  {σ : SS}  {x2 : Int32} {s0 : Int32} {s1 : Int32} {o} {z1 : Option AV}   (hE : X12_easy_j52  σ  x2 s0 s1 = some o) (hS : ∀ ss, o = Sum.inl ss → (X12_easy_P14  Q σ  ) ss) (hT : ∀ tt, o = Sum.inr tt → (X12_easy_R14  Q σ  ) tt) : Ws 2 mi_X12_easy Q 52 [some (vr 11 0), z1, some (vi x2)] [vi s1, vi s0] σ := by
  unfold X12_easy_j52 at hE
  refine Wp.ior dc_X12_easy_52 ?_
  obtain ⟨x1_53, e_53, hE⟩ := bnS hE
  rw [e_53]
  refine Wp.istore_n dc_X12_easy_53 (by decide) ?_
  obtain ⟨x2_54, e_54, hE⟩ := bnS hE
  refine Wp.iinc dc_X12_easy_54 rfl ((ii ic_1).trans e_54) (by decide) ?_
  refine Wp.goto (tgt := 14) dc_X12_easy_57 (by decide) ?_
  cases hE
  exact hS _ rfl
theorem ok_X12_easy_j51 {Q : Option AV → AH → Prop}  {σ : SS}  {x2 : Int32} {s0 : Int32} {o} {z1 : Option AV}   (hE : X12_easy_j51  σ  x2 s0 = some o) (hS : ∀ ss, o = Sum.inl ss → (X12_easy_P14  Q σ  ) ss) (hT : ∀ tt, o = Sum.inr tt → (X12_easy_R14  Q σ  ) tt) : Ws 2 mi_X12_easy Q 51 [some (vr 11 0), z1, some (vi x2)] [vi s0] σ := by
  unfold X12_easy_j51 at hE
  refine Wp.iconst dc_X12_easy_51 ic_0 ?_
  exact ok_X12_easy_j52   hE hS hT
theorem ok_X12_easy_l14c {Q : Option AV → AH → Prop}  {σ : SS}   {x1 : Int32} {x2 : Int32} {o}    (hE : X12_easy_l14c  σ   x1 x2 = some o) (hS : ∀ ss, o = Sum.inl ss → (X12_easy_P14  Q σ  ) ss) (hT : ∀ tt, o = Sum.inr tt → (X12_easy_R14  Q σ  ) tt) : Ws 2 mi_X12_easy Q 14 [some (vr 11 0), some (vi x1), some (vi x2)] [] σ := by
  unfold X12_easy_l14c at hE
  refine Wp.iload_n dc_X12_easy_14 rfl ?_
  refine Wp.aload_n dc_X12_easy_15 rfl ?_
  refine Wp.sgetR (t := 34) dc_X12_easy_16 fw_X12_35 (mO11 (by decide)) rfl ?_
  refine Wp.iconst dc_X12_easy_19 ic_0 ?_
  obtain ⟨j20, h20, hE⟩ := bnd hE
  refine Wp.siald dc_X12_easy_20 (mO13 (by decide)) h20 ?_
  refine Wp.icmp_ge (tgt := 60) dc_X12_easy_21 (by decide) (fun hc21 => ?_) (fun hc21 => ?_)
  · rw [if_pos hc21] at hE
    cases hE
    exact hT _ rfl _ _
  · rw [if_neg hc21] at hE
    refine Wp.iload_n dc_X12_easy_24 rfl ?_
    refine Wp.aload_n dc_X12_easy_25 rfl ?_
    refine Wp.iload_n dc_X12_easy_26 rfl ?_
    obtain ⟨v27, h27, hE⟩ := bnd hE
    refine Wp.cV1i (ok_X12_isInside  h27) dc_X12_easy_27 mw_X12_337 (mO11 (by decide)) (by decide) (Nat.le_of_ble_eq_true rfl) ?_
    refine Wp.if_eq (tgt := 51) dc_X12_easy_30 (by decide) (fun hc30 => ?_) (fun hc30 => ?_)
    · rw [if_pos hc30] at hE
      exact ok_X12_easy_j51   hE hS hT
    · rw [if_neg hc30] at hE
      refine Wp.aload_n dc_X12_easy_33 rfl ?_
      refine Wp.iload_n dc_X12_easy_34 rfl ?_
      obtain ⟨v35, h35, hE⟩ := bnd hE
      refine Wp.cV1i (ok_X12_lumpOf  h35) dc_X12_easy_35 mw_X12_346 (mO11 (by decide)) (by decide) (Nat.le_of_ble_eq_true rfl) ?_
      obtain ⟨v38, h38, hE⟩ := bnd hE
      refine Wp.cS1i (ok_X12_sizeOf  h38) dc_X12_easy_38 mw_X12_349 (by decide) (Nat.le_of_ble_eq_true rfl) ?_
      refine Wp.iconst dc_X12_easy_41 ic_1 ?_
      refine Wp.icmp_ne (tgt := 51) dc_X12_easy_42 (by decide) (fun hc42 => ?_) (fun hc42 => ?_)
      · rw [if_neg hc42] at hE
        exact ok_X12_easy_j51   hE hS hT
      · rw [if_pos hc42] at hE
        refine Wp.iconst dc_X12_easy_45 ic_1 ?_
        refine Wp.iload_n dc_X12_easy_46 rfl ?_
        refine Wp.ishl dc_X12_easy_47 ?_
        refine Wp.goto (tgt := 52) dc_X12_easy_48 (by decide) ?_
        exact ok_X12_easy_j52   hE hS hT
theorem ok_X12_easy_l14 {Q : Option AV → AH → Prop}  {σ : SS}  {x1 : Int32} {x2 : Int32} {o}    (hE : X12_easy_l14  σ  x1 x2 = some o) (hK : Q (some (vi o.1)) (hp o.2)) : Ws 2 mi_X12_easy Q 14 [some (vr 11 0), some (vi x1), some (vi x2)] [] σ := by
  unfold X12_easy_l14 at hE
  obtain ⟨t14, h1, hE⟩ := bnd hE
  refine iter_ok (P := (X12_easy_P14  Q σ  )) (R := (X12_easy_R14  Q σ  )) (fun ss o h2 hS hT => ?_) NF _ _ h1 ?_
  · skip
    exact ok_X12_easy_l14c   h2 hS hT
  · intro z0 z2
    show Ws 2 mi_X12_easy Q 60 [z0, some (vi t14), z2] [] σ
    refine Wp.iload_n dc_X12_easy_60 rfl ?_
    cases hE
    exact Wp.ireturn dc_X12_easy_61 rfl rfl (Nat.le_refl _) (Nat.le_refl _) hK
theorem ok_X12_easy_j0 {Q : Option AV → AH → Prop}  {σ : SS}   {o} {z1 z2 : Option AV}   (hE : X12_easy_j0  σ   = some o) (hK : Q (some (vi o.1)) (hp o.2)) : Ws 2 mi_X12_easy Q 0 [some (vr 11 0), z1, z2] [] σ := by
  unfold X12_easy_j0 at hE
  refine Wp.aload_n dc_X12_easy_0 rfl ?_
  refine Wp.iconst dc_X12_easy_1 ic_0 ?_
  refine Wp.sputI dc_X12_easy_2 fw_X12_77 (mO11 (by decide)) (Nr.i _) ?_
  obtain ⟨σ2, es_2, hE⟩ := bnS hE
  rw [es_2]
  refine Wp.aload_n dc_X12_easy_5 rfl ?_
  refine Wp.iconst dc_X12_easy_6 ic_0 ?_
  refine Wp.sputI dc_X12_easy_7 fw_X12_80 (mO11 (by decide)) (Nr.i _) ?_
  obtain ⟨σ7, es_7, hE⟩ := bnS hE
  rw [es_7]
  refine Wp.iconst dc_X12_easy_10 ic_0 ?_
  refine Wp.istore_n dc_X12_easy_11 (by decide) ?_
  refine Wp.iconst dc_X12_easy_12 ic_0 ?_
  refine Wp.istore_n dc_X12_easy_13 (by decide) ?_
  exact ok_X12_easy_l14   hE hK
theorem ok_X12_easy  {σ : SS}   {o}   (hE : X12_easy  σ   = some o) : Runs 2 0 0 mi_X12_easy [vr 11 0] (hp σ) (fun v h => v = some (vi o.1) ∧ h = hp o.2) := by
  refine Runs.of pn_X12 (Nat.le_of_ble_eq_true rfl) ?_
  exact ok_X12_easy_j0   hE ⟨rfl, rfl⟩
theorem ok_X12_isFree_j0 {Q : Option AV → AH → Prop}  {σ : SS}  {x1 : Int32} {o}    (hE : X12_isFree_j0  σ  x1 = some o) (hK : Q (some (vi o)) (hp σ)) : Ws 2 mi_X12_isFree Q 0 [some (vr 11 0), some (vi x1)] [] σ := by
  unfold X12_isFree_j0 at hE
  refine Wp.aload_n dc_X12_isFree_0 rfl ?_
  refine Wp.iload_n dc_X12_isFree_1 rfl ?_
  obtain ⟨v2, h2, hE⟩ := bnd hE
  refine Wp.cV1i (ok_X12_isInside  h2) dc_X12_isFree_2 mw_X12_337 (mO11 (by decide)) (by decide) (Nat.le_of_ble_eq_true rfl) ?_
  refine Wp.if_eq (tgt := 20) dc_X12_isFree_5 (by decide) (fun hc5 => ?_) (fun hc5 => ?_)
  · rw [if_pos hc5] at hE
    refine Wp.iconst dc_X12_isFree_20 ic_0 ?_
    cases hE
    exact Wp.ireturn dc_X12_isFree_21 rfl Nr.z0.1 (Nat.le_refl _) (Nat.le_refl _) hK
  · rw [if_neg hc5] at hE
    refine Wp.aload_n dc_X12_isFree_8 rfl ?_
    refine Wp.iload_n dc_X12_isFree_9 rfl ?_
    obtain ⟨v10, h10, hE⟩ := bnd hE
    refine Wp.cV1i (ok_X12_crossings  h10) dc_X12_isFree_10 mw_X12_314 (mO11 (by decide)) (by decide) (Nat.le_of_ble_eq_true rfl) ?_
    refine Wp.if_ne (tgt := 20) dc_X12_isFree_13 (by decide) (fun hc13 => ?_) (fun hc13 => ?_)
    · rw [if_neg hc13] at hE
      refine Wp.iconst dc_X12_isFree_20 ic_0 ?_
      cases hE
      exact Wp.ireturn dc_X12_isFree_21 rfl Nr.z0.1 (Nat.le_refl _) (Nat.le_refl _) hK
    · rw [if_pos hc13] at hE
      refine Wp.iconst dc_X12_isFree_16 ic_1 ?_
      refine Wp.goto (tgt := 21) dc_X12_isFree_17 (by decide) ?_
      cases hE
      exact Wp.ireturn dc_X12_isFree_21 rfl Nr.z1.1 (Nat.le_refl _) (Nat.le_refl _) hK
theorem ok_X12_isFree  {σ : SS}  {x1 : Int32} {o}   (hE : X12_isFree  σ  x1 = some o) : Runs 2 0 0 mi_X12_isFree [vr 11 0, vi x1] (hp σ) (fun v h => v = some (vi o) ∧ h = hp σ) := by
  refine Runs.of pn_X12 (Nat.le_of_ble_eq_true rfl) ?_
  exact ok_X12_isFree_j0   hE ⟨rfl, rfl⟩
theorem ok_X12_free_j0 {Q : Option AV → AH → Prop}  {σ : SS}  {x1 : Int32} {o}    (hE : X12_free_j0  σ  x1 = some o) (hK : Q (some (vi o.1)) (hp o.2)) : Ws 3 mi_X12_free Q 0 [some (vr 11 0), some (vi x1)] [] σ := by
  unfold X12_free_j0 at hE
  refine Wp.aload_n dc_X12_free_0 rfl ?_
  refine Wp.iconst dc_X12_free_1 ic_0 ?_
  refine Wp.sputI dc_X12_free_2 fw_X12_77 (mO11 (by decide)) (Nr.i _) ?_
  obtain ⟨σ2, es_2, hE⟩ := bnS hE
  rw [es_2]
  refine Wp.aload_n dc_X12_free_5 rfl ?_
  refine Wp.iconst dc_X12_free_6 ic_0 ?_
  refine Wp.sputI dc_X12_free_7 fw_X12_80 (mO11 (by decide)) (Nr.i _) ?_
  obtain ⟨σ7, es_7, hE⟩ := bnS hE
  rw [es_7]
  refine Wp.aload_n dc_X12_free_10 rfl ?_
  refine Wp.iload_n dc_X12_free_11 rfl ?_
  obtain ⟨v12, h12, hE⟩ := bnd hE
  refine Wp.cV1i (ok_X12_isLeadAt  h12) dc_X12_free_12 mw_X12_311 (mO11 (by decide)) (by decide) (Nat.le_of_ble_eq_true rfl) ?_
  refine Wp.if_ne (tgt := 24) dc_X12_free_15 (by decide) (fun hc15 => ?_) (fun hc15 => ?_)
  · rw [if_neg hc15] at hE
    refine Wp.aload_n dc_X12_free_24 rfl ?_
    refine Wp.iload_n dc_X12_free_25 rfl ?_
    obtain ⟨v26, h26, hE⟩ := bnd hE
    refine Wp.cV1i (ok_X12_isFree  h26) dc_X12_free_26 mw_X12_386 (mO11 (by decide)) (by decide) (Nat.le_of_ble_eq_true rfl) ?_
    refine Wp.if_eq (tgt := 36) dc_X12_free_29 (by decide) (fun hc29 => ?_) (fun hc29 => ?_)
    · rw [if_pos hc29] at hE
      refine Wp.iconst dc_X12_free_36 ic_0 ?_
      cases hE
      exact Wp.ireturn dc_X12_free_37 rfl rfl (Nat.le_refl _) (Nat.le_refl _) hK
    · rw [if_neg hc29] at hE
      refine Wp.iconst dc_X12_free_32 ic_1 ?_
      refine Wp.goto (tgt := 37) dc_X12_free_33 (by decide) ?_
      cases hE
      exact Wp.ireturn dc_X12_free_37 rfl rfl (Nat.le_refl _) (Nat.le_refl _) hK
  · rw [if_pos hc15] at hE
    refine Wp.aload_n dc_X12_free_18 rfl ?_
    refine Wp.iconst dc_X12_free_19 ic_2 ?_
    obtain ⟨p20, h20, hE⟩ := bnd hE
    refine Wp.cV1i (ok_X12_refuse  h20) dc_X12_free_20 mw_X12_308 (mO11 (by decide)) (by decide) (Nat.le_of_ble_eq_true rfl) ?_
    cases hE
    exact Wp.ireturn dc_X12_free_23 rfl rfl (Nat.le_refl _) (Nat.le_refl _) hK
theorem ok_X12_free  {σ : SS}  {x1 : Int32} {o}   (hE : X12_free  σ  x1 = some o) : Runs 3 0 0 mi_X12_free [vr 11 0, vi x1] (hp σ) (fun v h => v = some (vi o.1) ∧ h = hp o.2) := by
  refine Runs.of pn_X12 (Nat.le_of_ble_eq_true rfl) ?_
  exact ok_X12_free_j0   hE ⟨rfl, rfl⟩
def X12_stateMany_P4 (Q : Option AV → AH → Prop) (σ : SS)  (x1 : Int32) (ss : Int32 × Int32) : Prop := Ws 0 mi_X12_stateMany Q 4 [some (vr 11 0), some (vi x1), some (vi ss.1), some (vi ss.2)] [] σ
def X12_stateMany_R4 (Q : Option AV → AH → Prop) (σ : SS)  (x1 : Int32) (tt : Int32) : Prop := ∀ z0 z1 z3 : Option AV, Ws 0 mi_X12_stateMany Q 41 [z0, z1, some (vi tt), z3] [] σ
theorem ok_X12_stateMany_j33 {Q : Option AV → AH → Prop}  {σ : SS}  {x1 : Int32} {x3 : Int32} {s0 : Int32} {s1 : Int32} {o} {z2 : Option AV}   (hE : X12_stateMany_j33  σ  x1 x3 s0 s1 = some o) (hS : ∀ ss, o = Sum.inl ss → (X12_stateMany_P4  Q σ  x1) ss) (hT : ∀ tt, o = Sum.inr tt → (X12_stateMany_R4  Q σ  x1) tt) : Ws 0 mi_X12_stateMany Q 33 [some (vr 11 0), some (vi x1), z2, some (vi x3)] [vi s1, vi s0] σ := by
  unfold X12_stateMany_j33 at hE
  refine Wp.iadd dc_X12_stateMany_33 ?_
  obtain ⟨x2_34, e_34, hE⟩ := bnS hE
  rw [e_34]
  refine Wp.istore_n dc_X12_stateMany_34 (by decide) ?_
  obtain ⟨x3_35, e_35, hE⟩ := bnS hE
  refine Wp.iinc dc_X12_stateMany_35 rfl ((ii ic_1).trans e_35) (by decide) ?_
  refine Wp.goto (tgt := 4) dc_X12_stateMany_38 (by decide) ?_
  cases hE
  exact hS _ rfl
theorem ok_X12_stateMany_l4c {Q : Option AV → AH → Prop}  {σ : SS}  {x1 : Int32} {x2 : Int32} {x3 : Int32} {o}    (hE : X12_stateMany_l4c  σ  x1 x2 x3 = some o) (hS : ∀ ss, o = Sum.inl ss → (X12_stateMany_P4  Q σ  x1) ss) (hT : ∀ tt, o = Sum.inr tt → (X12_stateMany_R4  Q σ  x1) tt) : Ws 0 mi_X12_stateMany Q 4 [some (vr 11 0), some (vi x1), some (vi x2), some (vi x3)] [] σ := by
  unfold X12_stateMany_l4c at hE
  refine Wp.iload_n dc_X12_stateMany_4 rfl ?_
  refine Wp.aload_n dc_X12_stateMany_5 rfl ?_
  refine Wp.sgetR (t := 34) dc_X12_stateMany_6 fw_X12_35 (mO11 (by decide)) rfl ?_
  refine Wp.iconst dc_X12_stateMany_9 ic_1 ?_
  obtain ⟨j10, h10, hE⟩ := bnd hE
  refine Wp.siald dc_X12_stateMany_10 (mO13 (by decide)) h10 ?_
  refine Wp.icmp_ge (tgt := 41) dc_X12_stateMany_11 (by decide) (fun hc11 => ?_) (fun hc11 => ?_)
  · rw [if_pos hc11] at hE
    cases hE
    exact hT _ rfl _ _ _
  · rw [if_neg hc11] at hE
    refine Wp.iload_n dc_X12_stateMany_14 rfl ?_
    refine Wp.aload_n dc_X12_stateMany_15 rfl ?_
    refine Wp.sgetR (t := 34) dc_X12_stateMany_16 fw_X12_35 (mO11 (by decide)) rfl ?_
    refine Wp.bipush dc_X12_stateMany_19 bp_108 ?_
    refine Wp.iload_n dc_X12_stateMany_21 rfl ?_
    refine Wp.iadd dc_X12_stateMany_22 ?_
    obtain ⟨j23, h23, hE⟩ := bnd hE
    refine Wp.siald dc_X12_stateMany_23 (mO13 (by decide)) h23 ?_
    refine Wp.iload_n dc_X12_stateMany_24 rfl ?_
    refine Wp.icmp_ne (tgt := 32) dc_X12_stateMany_25 (by decide) (fun hc25 => ?_) (fun hc25 => ?_)
    · rw [if_neg hc25] at hE
      refine Wp.iconst dc_X12_stateMany_32 ic_0 ?_
      exact ok_X12_stateMany_j33   hE hS hT
    · rw [if_pos hc25] at hE
      refine Wp.iconst dc_X12_stateMany_28 ic_1 ?_
      refine Wp.goto (tgt := 33) dc_X12_stateMany_29 (by decide) ?_
      exact ok_X12_stateMany_j33   hE hS hT
theorem ok_X12_stateMany_l4 {Q : Option AV → AH → Prop}  {σ : SS}  {x1 : Int32} {x2 : Int32} {x3 : Int32} {o}    (hE : X12_stateMany_l4  σ  x1 x2 x3 = some o) (hK : Q (some (vi o)) (hp σ)) : Ws 0 mi_X12_stateMany Q 4 [some (vr 11 0), some (vi x1), some (vi x2), some (vi x3)] [] σ := by
  unfold X12_stateMany_l4 at hE
  obtain ⟨t4, h1, hE⟩ := bnd hE
  refine iter_ok (P := (X12_stateMany_P4  Q σ  x1)) (R := (X12_stateMany_R4  Q σ  x1)) (fun ss o h2 hS hT => ?_) NF _ _ h1 ?_
  · skip
    exact ok_X12_stateMany_l4c   h2 hS hT
  · intro z0 z1 z3
    show Ws 0 mi_X12_stateMany Q 41 [z0, z1, some (vi t4), z3] [] σ
    refine Wp.iload_n dc_X12_stateMany_41 rfl ?_
    cases hE
    exact Wp.ireturn dc_X12_stateMany_42 rfl rfl (Nat.le_refl _) (Nat.le_refl _) hK
theorem ok_X12_stateMany_j0 {Q : Option AV → AH → Prop}  {σ : SS}  {x1 : Int32} {o} {z2 z3 : Option AV}   (hE : X12_stateMany_j0  σ  x1 = some o) (hK : Q (some (vi o)) (hp σ)) : Ws 0 mi_X12_stateMany Q 0 [some (vr 11 0), some (vi x1), z2, z3] [] σ := by
  unfold X12_stateMany_j0 at hE
  refine Wp.iconst dc_X12_stateMany_0 ic_0 ?_
  refine Wp.istore_n dc_X12_stateMany_1 (by decide) ?_
  refine Wp.iconst dc_X12_stateMany_2 ic_0 ?_
  refine Wp.istore_n dc_X12_stateMany_3 (by decide) ?_
  exact ok_X12_stateMany_l4   hE hK
theorem ok_X12_stateMany  {σ : SS}  {x1 : Int32} {o}   (hE : X12_stateMany  σ  x1 = some o) : Runs 0 0 0 mi_X12_stateMany [vr 11 0, vi x1] (hp σ) (fun v h => v = some (vi o) ∧ h = hp σ) := by
  refine Runs.of pn_X12 (Nat.le_of_ble_eq_true rfl) ?_
  exact ok_X12_stateMany_j0   hE ⟨rfl, rfl⟩
theorem ok_X12_inState_j0 {Q : Option AV → AH → Prop}  {σ : SS}  {x1 : Int32} {o}    (hE : X12_inState_j0  σ  x1 = some o) (hK : Q (some (vi o.1)) (hp o.2)) : Ws 1 mi_X12_inState Q 0 [some (vr 11 0), some (vi x1)] [] σ := by
  unfold X12_inState_j0 at hE
  refine Wp.aload_n dc_X12_inState_0 rfl ?_
  refine Wp.iconst dc_X12_inState_1 ic_0 ?_
  refine Wp.sputI dc_X12_inState_2 fw_X12_77 (mO11 (by decide)) (Nr.i _) ?_
  obtain ⟨σ2, es_2, hE⟩ := bnS hE
  rw [es_2]
  refine Wp.aload_n dc_X12_inState_5 rfl ?_
  refine Wp.iconst dc_X12_inState_6 ic_0 ?_
  refine Wp.sputI dc_X12_inState_7 fw_X12_80 (mO11 (by decide)) (Nr.i _) ?_
  obtain ⟨σ7, es_7, hE⟩ := bnS hE
  rw [es_7]
  refine Wp.iload_n dc_X12_inState_10 rfl ?_
  refine Wp.i2l dc_X12_inState_11 ?_
  refine Wp.lconst dc_X12_inState_12 lc_0 ?_
  refine Wp.ldc2 dc_X12_inState_13 kw_X12_110 ?_
  obtain ⟨v16, h16, hE⟩ := bnd hE
  refine Wp.cS3i (ok_X12_isIn  h16) dc_X12_inState_16 mw_X12_112 (by decide) (Nat.le_of_ble_eq_true rfl) ?_
  refine Wp.if_eq (tgt := 30) dc_X12_inState_19 (by decide) (fun hc19 => ?_) (fun hc19 => ?_)
  · rw [if_pos hc19] at hE
    refine Wp.aload_n dc_X12_inState_30 rfl ?_
    refine Wp.iconst dc_X12_inState_31 ic_5 ?_
    obtain ⟨p32, h32, hE⟩ := bnd hE
    refine Wp.cV1i (ok_X12_refuse  h32) dc_X12_inState_32 mw_X12_308 (mO11 (by decide)) (by decide) (Nat.le_of_ble_eq_true rfl) ?_
    cases hE
    exact Wp.ireturn dc_X12_inState_35 rfl rfl (Nat.le_refl _) (Nat.le_refl _) hK
  · rw [if_neg hc19] at hE
    refine Wp.aload_n dc_X12_inState_22 rfl ?_
    refine Wp.iload_n dc_X12_inState_23 rfl ?_
    obtain ⟨v24, h24, hE⟩ := bnd hE
    refine Wp.cV1i (ok_X12_stateMany  h24) dc_X12_inState_24 mw_X12_389 (mO11 (by decide)) (by decide) (Nat.le_of_ble_eq_true rfl) ?_
    refine Wp.goto (tgt := 35) dc_X12_inState_27 (by decide) ?_
    cases hE
    exact Wp.ireturn dc_X12_inState_35 rfl rfl (Nat.le_refl _) (Nat.le_refl _) hK
theorem ok_X12_inState  {σ : SS}  {x1 : Int32} {o}   (hE : X12_inState  σ  x1 = some o) : Runs 1 0 0 mi_X12_inState [vr 11 0, vi x1] (hp σ) (fun v h => v = some (vi o.1) ∧ h = hp o.2) := by
  refine Runs.of pn_X12 (Nat.le_of_ble_eq_true rfl) ?_
  exact ok_X12_inState_j0   hE ⟨rfl, rfl⟩
def X12_keeps_P2 (Q : Option AV → AH → Prop)    (ss : Int32 × SS) : Prop := Ws 0 mi_X12_keeps Q 2 [some (vr 11 0), some (vi ss.1)] [] ss.2
def X12_keeps_R2 (Q : Option AV → AH → Prop)    (tt : SS) : Prop := ∀ z0 z1 : Option AV, Ws 0 mi_X12_keeps Q 27 [z0, z1] [] tt
theorem ok_X12_keeps_l2c {Q : Option AV → AH → Prop}  {σ : SS}   {x1 : Int32} {o}    (hE : X12_keeps_l2c  σ   x1 = some o) (hS : ∀ ss, o = Sum.inl ss → (X12_keeps_P2  Q   ) ss) (hT : ∀ tt, o = Sum.inr tt → (X12_keeps_R2  Q   ) tt) : Ws 0 mi_X12_keeps Q 2 [some (vr 11 0), some (vi x1)] [] σ := by
  unfold X12_keeps_l2c at hE
  refine Wp.iload_n dc_X12_keeps_2 rfl ?_
  refine Wp.sipush dc_X12_keeps_3 sp_132 ?_
  refine Wp.icmp_ge (tgt := 27) dc_X12_keeps_6 (by decide) (fun hc6 => ?_) (fun hc6 => ?_)
  · rw [if_pos hc6] at hE
    cases hE
    exact hT _ rfl _ _
  · rw [if_neg hc6] at hE
    refine Wp.aload_n dc_X12_keeps_9 rfl ?_
    refine Wp.sgetR (t := 35) dc_X12_keeps_10 fw_X12_38 (mO11 (by decide)) rfl ?_
    refine Wp.iload_n dc_X12_keeps_13 rfl ?_
    refine Wp.aload_n dc_X12_keeps_14 rfl ?_
    refine Wp.sgetR (t := 34) dc_X12_keeps_15 fw_X12_35 (mO11 (by decide)) rfl ?_
    refine Wp.iload_n dc_X12_keeps_18 rfl ?_
    obtain ⟨j19, h19, hE⟩ := bnd hE
    refine Wp.siald dc_X12_keeps_19 (mO13 (by decide)) h19 ?_
    obtain ⟨j20, h20, hE⟩ := bnd hE
    refine Wp.siast dc_X12_keeps_20 (mO13 (by decide)) h20 ?_
    obtain ⟨σ20, es_20, hE⟩ := bnS hE
    rw [es_20]
    obtain ⟨x1_21, e_21, hE⟩ := bnS hE
    refine Wp.iinc dc_X12_keeps_21 rfl ((ii ic_1).trans e_21) (by decide) ?_
    refine Wp.goto (tgt := 2) dc_X12_keeps_24 (by decide) ?_
    cases hE
    exact hS _ rfl
theorem ok_X12_keeps_l2 {Q : Option AV → AH → Prop}  {σ : SS}  {x1 : Int32} {o}    (hE : X12_keeps_l2  σ  x1 = some o) (hK : Q none (hp o)) : Ws 0 mi_X12_keeps Q 2 [some (vr 11 0), some (vi x1)] [] σ := by
  unfold X12_keeps_l2 at hE
  obtain ⟨t2, h1, hE⟩ := bnd hE
  refine iter_ok (P := (X12_keeps_P2  Q   )) (R := (X12_keeps_R2  Q   )) (fun ss o h2 hS hT => ?_) NF _ _ h1 ?_
  · skip
    exact ok_X12_keeps_l2c   h2 hS hT
  · intro z0 z1
    show Ws 0 mi_X12_keeps Q 27 [z0, z1] [] t2
    cases hE
    exact Wp.return dc_X12_keeps_27 rfl (Nat.le_refl _) (Nat.le_refl _) hK
theorem ok_X12_keeps_j0 {Q : Option AV → AH → Prop}  {σ : SS}   {o} {z1 : Option AV}   (hE : X12_keeps_j0  σ   = some o) (hK : Q none (hp o)) : Ws 0 mi_X12_keeps Q 0 [some (vr 11 0), z1] [] σ := by
  unfold X12_keeps_j0 at hE
  refine Wp.iconst dc_X12_keeps_0 ic_0 ?_
  refine Wp.istore_n dc_X12_keeps_1 (by decide) ?_
  exact ok_X12_keeps_l2   hE hK
theorem ok_X12_keeps  {σ : SS}   {o}   (hE : X12_keeps  σ   = some o) : Runs 0 0 0 mi_X12_keeps [vr 11 0] (hp σ) (fun v h => v = none ∧ h = hp o) := by
  refine Runs.of pn_X12 (Nat.le_of_ble_eq_true rfl) ?_
  exact ok_X12_keeps_j0   hE ⟨rfl, rfl⟩
def X12_gives_P2 (Q : Option AV → AH → Prop)    (ss : Int32 × SS) : Prop := Ws 0 mi_X12_gives Q 2 [some (vr 11 0), some (vi ss.1)] [] ss.2
def X12_gives_R2 (Q : Option AV → AH → Prop)    (tt : SS) : Prop := ∀ z0 z1 : Option AV, Ws 0 mi_X12_gives Q 27 [z0, z1] [] tt
theorem ok_X12_gives_l2c {Q : Option AV → AH → Prop}  {σ : SS}   {x1 : Int32} {o}    (hE : X12_gives_l2c  σ   x1 = some o) (hS : ∀ ss, o = Sum.inl ss → (X12_gives_P2  Q   ) ss) (hT : ∀ tt, o = Sum.inr tt → (X12_gives_R2  Q   ) tt) : Ws 0 mi_X12_gives Q 2 [some (vr 11 0), some (vi x1)] [] σ := by
  unfold X12_gives_l2c at hE
  refine Wp.iload_n dc_X12_gives_2 rfl ?_
  refine Wp.sipush dc_X12_gives_3 sp_132 ?_
  refine Wp.icmp_ge (tgt := 27) dc_X12_gives_6 (by decide) (fun hc6 => ?_) (fun hc6 => ?_)
  · rw [if_pos hc6] at hE
    cases hE
    exact hT _ rfl _ _
  · rw [if_neg hc6] at hE
    refine Wp.aload_n dc_X12_gives_9 rfl ?_
    refine Wp.sgetR (t := 34) dc_X12_gives_10 fw_X12_35 (mO11 (by decide)) rfl ?_
    refine Wp.iload_n dc_X12_gives_13 rfl ?_
    refine Wp.aload_n dc_X12_gives_14 rfl ?_
    refine Wp.sgetR (t := 35) dc_X12_gives_15 fw_X12_38 (mO11 (by decide)) rfl ?_
    refine Wp.iload_n dc_X12_gives_18 rfl ?_
    obtain ⟨j19, h19, hE⟩ := bnd hE
    refine Wp.siald dc_X12_gives_19 (mO13 (by decide)) h19 ?_
    obtain ⟨j20, h20, hE⟩ := bnd hE
    refine Wp.siast dc_X12_gives_20 (mO13 (by decide)) h20 ?_
    obtain ⟨σ20, es_20, hE⟩ := bnS hE
    rw [es_20]
    obtain ⟨x1_21, e_21, hE⟩ := bnS hE
    refine Wp.iinc dc_X12_gives_21 rfl ((ii ic_1).trans e_21) (by decide) ?_
    refine Wp.goto (tgt := 2) dc_X12_gives_24 (by decide) ?_
    cases hE
    exact hS _ rfl
theorem ok_X12_gives_l2 {Q : Option AV → AH → Prop}  {σ : SS}  {x1 : Int32} {o}    (hE : X12_gives_l2  σ  x1 = some o) (hK : Q none (hp o)) : Ws 0 mi_X12_gives Q 2 [some (vr 11 0), some (vi x1)] [] σ := by
  unfold X12_gives_l2 at hE
  obtain ⟨t2, h1, hE⟩ := bnd hE
  refine iter_ok (P := (X12_gives_P2  Q   )) (R := (X12_gives_R2  Q   )) (fun ss o h2 hS hT => ?_) NF _ _ h1 ?_
  · skip
    exact ok_X12_gives_l2c   h2 hS hT
  · intro z0 z1
    show Ws 0 mi_X12_gives Q 27 [z0, z1] [] t2
    cases hE
    exact Wp.return dc_X12_gives_27 rfl (Nat.le_refl _) (Nat.le_refl _) hK
theorem ok_X12_gives_j0 {Q : Option AV → AH → Prop}  {σ : SS}   {o} {z1 : Option AV}   (hE : X12_gives_j0  σ   = some o) (hK : Q none (hp o)) : Ws 0 mi_X12_gives Q 0 [some (vr 11 0), z1] [] σ := by
  unfold X12_gives_j0 at hE
  refine Wp.iconst dc_X12_gives_0 ic_0 ?_
  refine Wp.istore_n dc_X12_gives_1 (by decide) ?_
  exact ok_X12_gives_l2   hE hK
theorem ok_X12_gives  {σ : SS}   {o}   (hE : X12_gives  σ   = some o) : Runs 0 0 0 mi_X12_gives [vr 11 0] (hp σ) (fun v h => v = none ∧ h = hp o) := by
  refine Runs.of pn_X12 (Nat.le_of_ble_eq_true rfl) ?_
  exact ok_X12_gives_j0   hE ⟨rfl, rfl⟩
theorem ok_X12_worse_j0 {Q : Option AV → AH → Prop}  {σ : SS}  {x1 : Int32} {x2 : Int32} {o} {z3 z4 : Option AV}   (hE : X12_worse_j0  σ  x1 x2 = some o) (hK : Q (some (vi o.1)) (hp o.2)) : Ws 3 mi_X12_worse Q 0 [some (vr 11 0), some (vi x1), some (vi x2), z3, z4] [] σ := by
  unfold X12_worse_j0 at hE
  refine Wp.aload_n dc_X12_worse_0 rfl ?_
  refine Wp.iconst dc_X12_worse_1 ic_0 ?_
  refine Wp.sputI dc_X12_worse_2 fw_X12_77 (mO11 (by decide)) (Nr.i _) ?_
  obtain ⟨σ2, es_2, hE⟩ := bnS hE
  rw [es_2]
  refine Wp.aload_n dc_X12_worse_5 rfl ?_
  refine Wp.iconst dc_X12_worse_6 ic_0 ?_
  refine Wp.sputI dc_X12_worse_7 fw_X12_80 (mO11 (by decide)) (Nr.i _) ?_
  obtain ⟨σ7, es_7, hE⟩ := bnS hE
  rw [es_7]
  refine Wp.aload_n dc_X12_worse_10 rfl ?_
  refine Wp.iload_n dc_X12_worse_11 rfl ?_
  obtain ⟨v12, h12, hE⟩ := bnd hE
  refine Wp.cV1i (ok_X12_isLeadAt  h12) dc_X12_worse_12 mw_X12_311 (mO11 (by decide)) (by decide) (Nat.le_of_ble_eq_true rfl) ?_
  refine Wp.if_ne (tgt := 24) dc_X12_worse_15 (by decide) (fun hc15 => ?_) (fun hc15 => ?_)
  · rw [if_neg hc15] at hE
    refine Wp.iload_n dc_X12_worse_24 rfl ?_
    refine Wp.i2l dc_X12_worse_25 ?_
    refine Wp.lconst dc_X12_worse_26 lc_0 ?_
    refine Wp.ldc2 dc_X12_worse_27 kw_X12_110 ?_
    obtain ⟨v30, h30, hE⟩ := bnd hE
    refine Wp.cS3i (ok_X12_isIn  h30) dc_X12_worse_30 mw_X12_112 (by decide) (Nat.le_of_ble_eq_true rfl) ?_
    refine Wp.if_ne (tgt := 42) dc_X12_worse_33 (by decide) (fun hc33 => ?_) (fun hc33 => ?_)
    · rw [if_neg hc33] at hE
      refine Wp.aload_n dc_X12_worse_42 rfl ?_
      refine Wp.iload_n dc_X12_worse_43 rfl ?_
      obtain ⟨v44, h44, hE⟩ := bnd hE
      refine Wp.cV1i (ok_X12_isInside  h44) dc_X12_worse_44 mw_X12_337 (mO11 (by decide)) (by decide) (Nat.le_of_ble_eq_true rfl) ?_
      refine Wp.if_ne (tgt := 57) dc_X12_worse_47 (by decide) (fun hc47 => ?_) (fun hc47 => ?_)
      · rw [if_neg hc47] at hE
        refine Wp.aload_n dc_X12_worse_57 rfl ?_
        refine Wp.iload_n dc_X12_worse_58 rfl ?_
        obtain ⟨v59, h59, hE⟩ := bnd hE
        refine Wp.cV1i (ok_X12_stateMany  h59) dc_X12_worse_59 mw_X12_389 (mO11 (by decide)) (by decide) (Nat.le_of_ble_eq_true rfl) ?_
        refine Wp.istore_n dc_X12_worse_62 (by decide) ?_
        refine Wp.aload_n dc_X12_worse_63 rfl ?_
        obtain ⟨σ64, h64, hE⟩ := bnd hE
        refine Wp.cV0v (ok_X12_keeps  h64) dc_X12_worse_64 mw_X12_392 (mO11 (by decide)) (by decide) (Nat.le_of_ble_eq_true rfl) ?_
        refine Wp.aload_n dc_X12_worse_67 rfl ?_
        refine Wp.iload_n dc_X12_worse_68 rfl ?_
        obtain ⟨σ69, h69, hE⟩ := bnd hE
        refine Wp.cV1v (ok_X12_pulls  h69) dc_X12_worse_69 mw_X12_355 (mO11 (by decide)) (by decide) (Nat.le_of_ble_eq_true rfl) ?_
        refine Wp.aload_n dc_X12_worse_72 rfl ?_
        refine Wp.iload_n dc_X12_worse_73 rfl ?_
        obtain ⟨v74, h74, hE⟩ := bnd hE
        refine Wp.cV1i (ok_X12_stateMany  h74) dc_X12_worse_74 mw_X12_389 (mO11 (by decide)) (by decide) (Nat.le_of_ble_eq_true rfl) ?_
        refine Wp.istore dc_X12_worse_77 (by decide) ?_
        refine Wp.aload_n dc_X12_worse_79 rfl ?_
        obtain ⟨σ80, h80, hE⟩ := bnd hE
        refine Wp.cV0v (ok_X12_gives  h80) dc_X12_worse_80 mw_X12_395 (mO11 (by decide)) (by decide) (Nat.le_of_ble_eq_true rfl) ?_
        refine Wp.iload dc_X12_worse_83 rfl ?_
        refine Wp.iload_n dc_X12_worse_85 rfl ?_
        refine Wp.isub dc_X12_worse_86 ?_
        cases hE
        exact Wp.ireturn dc_X12_worse_87 rfl rfl (Nat.le_refl _) (Nat.le_refl _) hK
      · rw [if_pos hc47] at hE
        refine Wp.aload_n dc_X12_worse_50 rfl ?_
        refine Wp.bipush dc_X12_worse_51 bp_9 ?_
        obtain ⟨p53, h53, hE⟩ := bnd hE
        refine Wp.cV1i (ok_X12_refuse  h53) dc_X12_worse_53 mw_X12_308 (mO11 (by decide)) (by decide) (Nat.le_of_ble_eq_true rfl) ?_
        cases hE
        exact Wp.ireturn dc_X12_worse_56 rfl rfl (Nat.le_refl _) (Nat.le_refl _) hK
    · rw [if_pos hc33] at hE
      refine Wp.aload_n dc_X12_worse_36 rfl ?_
      refine Wp.iconst dc_X12_worse_37 ic_5 ?_
      obtain ⟨p38, h38, hE⟩ := bnd hE
      refine Wp.cV1i (ok_X12_refuse  h38) dc_X12_worse_38 mw_X12_308 (mO11 (by decide)) (by decide) (Nat.le_of_ble_eq_true rfl) ?_
      cases hE
      exact Wp.ireturn dc_X12_worse_41 rfl rfl (Nat.le_refl _) (Nat.le_refl _) hK
  · rw [if_pos hc15] at hE
    refine Wp.aload_n dc_X12_worse_18 rfl ?_
    refine Wp.iconst dc_X12_worse_19 ic_2 ?_
    obtain ⟨p20, h20, hE⟩ := bnd hE
    refine Wp.cV1i (ok_X12_refuse  h20) dc_X12_worse_20 mw_X12_308 (mO11 (by decide)) (by decide) (Nat.le_of_ble_eq_true rfl) ?_
    cases hE
    exact Wp.ireturn dc_X12_worse_23 rfl rfl (Nat.le_refl _) (Nat.le_refl _) hK
theorem ok_X12_worse  {σ : SS}  {x1 : Int32} {x2 : Int32} {o}   (hE : X12_worse  σ  x1 x2 = some o) : Runs 3 0 0 mi_X12_worse [vr 11 0, vi x1, vi x2] (hp σ) (fun v h => v = some (vi o.1) ∧ h = hp o.2) := by
  refine Runs.of pn_X12 (Nat.le_of_ble_eq_true rfl) ?_
  exact ok_X12_worse_j0   hE ⟨rfl, rfl⟩
def X12_worst_P14 (Q : Option AV → AH → Prop) (σ : SS)   (ss : Int32 × Int32) : Prop := Ws 2 mi_X12_worst Q 14 [some (vr 11 0), some (vi ss.1), some (vi ss.2)] [] σ
def X12_worst_R14 (Q : Option AV → AH → Prop) (σ : SS)   (tt : Int32) : Prop := ∀ z2 : Option AV, Ws 2 mi_X12_worst Q 57 [some (vr 11 0), some (vi tt), z2] [] σ
theorem ok_X12_worst_j51 {Q : Option AV → AH → Prop}  {σ : SS}  {x1 : Int32} {x2 : Int32} {o}    (hE : X12_worst_j51  σ  x1 x2 = some o) (hS : ∀ ss, o = Sum.inl ss → (X12_worst_P14  Q σ  ) ss) (hT : ∀ tt, o = Sum.inr tt → (X12_worst_R14  Q σ  ) tt) : Ws 2 mi_X12_worst Q 51 [some (vr 11 0), some (vi x1), some (vi x2)] [] σ := by
  unfold X12_worst_j51 at hE
  obtain ⟨x2_51, e_51, hE⟩ := bnS hE
  refine Wp.iinc dc_X12_worst_51 rfl ((ii ic_1).trans e_51) (by decide) ?_
  refine Wp.goto (tgt := 14) dc_X12_worst_54 (by decide) ?_
  cases hE
  exact hS _ rfl
theorem ok_X12_worst_j49 {Q : Option AV → AH → Prop}  {σ : SS}  {x2 : Int32} {o} {z1 : Option AV}   (hE : X12_worst_j49  σ  x2 = some o) (hS : ∀ ss, o = Sum.inl ss → (X12_worst_P14  Q σ  ) ss) (hT : ∀ tt, o = Sum.inr tt → (X12_worst_R14  Q σ  ) tt) : Ws 2 mi_X12_worst Q 49 [some (vr 11 0), z1, some (vi x2)] [] σ := by
  unfold X12_worst_j49 at hE
  refine Wp.iload_n dc_X12_worst_49 rfl ?_
  refine Wp.istore_n dc_X12_worst_50 (by decide) ?_
  exact ok_X12_worst_j51   hE hS hT
theorem ok_X12_worst_l14c {Q : Option AV → AH → Prop}  {σ : SS}   {x1 : Int32} {x2 : Int32} {o}    (hE : X12_worst_l14c  σ   x1 x2 = some o) (hS : ∀ ss, o = Sum.inl ss → (X12_worst_P14  Q σ  ) ss) (hT : ∀ tt, o = Sum.inr tt → (X12_worst_R14  Q σ  ) tt) : Ws 2 mi_X12_worst Q 14 [some (vr 11 0), some (vi x1), some (vi x2)] [] σ := by
  unfold X12_worst_l14c at hE
  refine Wp.iload_n dc_X12_worst_14 rfl ?_
  refine Wp.aload_n dc_X12_worst_15 rfl ?_
  refine Wp.sgetR (t := 34) dc_X12_worst_16 fw_X12_35 (mO11 (by decide)) rfl ?_
  refine Wp.iconst dc_X12_worst_19 ic_0 ?_
  obtain ⟨j20, h20, hE⟩ := bnd hE
  refine Wp.siald dc_X12_worst_20 (mO13 (by decide)) h20 ?_
  refine Wp.icmp_ge (tgt := 57) dc_X12_worst_21 (by decide) (fun hc21 => ?_) (fun hc21 => ?_)
  · rw [if_pos hc21] at hE
    cases hE
    exact hT _ rfl _
  · rw [if_neg hc21] at hE
    refine Wp.aload_n dc_X12_worst_24 rfl ?_
    refine Wp.iload_n dc_X12_worst_25 rfl ?_
    obtain ⟨v26, h26, hE⟩ := bnd hE
    refine Wp.cV1i (ok_X12_isInside  h26) dc_X12_worst_26 mw_X12_337 (mO11 (by decide)) (by decide) (Nat.le_of_ble_eq_true rfl) ?_
    refine Wp.if_eq (tgt := 51) dc_X12_worst_29 (by decide) (fun hc29 => ?_) (fun hc29 => ?_)
    · rw [if_pos hc29] at hE
      exact ok_X12_worst_j51   hE hS hT
    · rw [if_neg hc29] at hE
      refine Wp.iload_n dc_X12_worst_32 rfl ?_
      refine Wp.if_lt (tgt := 49) dc_X12_worst_33 (by decide) (fun hc33 => ?_) (fun hc33 => ?_)
      · rw [if_pos hc33] at hE
        exact ok_X12_worst_j49   hE hS hT
      · rw [if_neg hc33] at hE
        refine Wp.aload_n dc_X12_worst_36 rfl ?_
        refine Wp.iload_n dc_X12_worst_37 rfl ?_
        obtain ⟨v38, h38, hE⟩ := bnd hE
        refine Wp.cV1i (ok_X12_crossings  h38) dc_X12_worst_38 mw_X12_314 (mO11 (by decide)) (by decide) (Nat.le_of_ble_eq_true rfl) ?_
        refine Wp.aload_n dc_X12_worst_41 rfl ?_
        refine Wp.iload_n dc_X12_worst_42 rfl ?_
        obtain ⟨v43, h43, hE⟩ := bnd hE
        refine Wp.cV1i (ok_X12_crossings  h43) dc_X12_worst_43 mw_X12_314 (mO11 (by decide)) (by decide) (Nat.le_of_ble_eq_true rfl) ?_
        refine Wp.icmp_le (tgt := 51) dc_X12_worst_46 (by decide) (fun hc46 => ?_) (fun hc46 => ?_)
        · rw [if_pos hc46] at hE
          exact ok_X12_worst_j51   hE hS hT
        · rw [if_neg hc46] at hE
          exact ok_X12_worst_j49   hE hS hT
theorem ok_X12_worst_l14 {Q : Option AV → AH → Prop}  {σ : SS}  {x1 : Int32} {x2 : Int32} {o}    (hE : X12_worst_l14  σ  x1 x2 = some o) (hK : Q (some (vi o.1)) (hp o.2)) : Ws 2 mi_X12_worst Q 14 [some (vr 11 0), some (vi x1), some (vi x2)] [] σ := by
  unfold X12_worst_l14 at hE
  obtain ⟨t14, h1, hE⟩ := bnd hE
  refine iter_ok (P := (X12_worst_P14  Q σ  )) (R := (X12_worst_R14  Q σ  )) (fun ss o h2 hS hT => ?_) NF _ _ h1 ?_
  · skip
    exact ok_X12_worst_l14c   h2 hS hT
  · intro z2
    show Ws 2 mi_X12_worst Q 57 [some (vr 11 0), some (vi t14), z2] [] σ
    refine Wp.iload_n dc_X12_worst_57 rfl ?_
    refine Wp.if_ge (tgt := 70) dc_X12_worst_58 (by decide) (fun hc58 => ?_) (fun hc58 => ?_)
    · rw [if_pos hc58] at hE
      refine Wp.iload_n dc_X12_worst_70 rfl ?_
      cases hE
      exact Wp.ireturn dc_X12_worst_71 rfl rfl (Nat.le_refl _) (Nat.le_refl _) hK
    · rw [if_neg hc58] at hE
      refine Wp.aload_n dc_X12_worst_61 rfl ?_
      refine Wp.bipush dc_X12_worst_62 bp_8 ?_
      obtain ⟨p64, h64, hE⟩ := bnd hE
      refine Wp.cV1i (ok_X12_refuse  h64) dc_X12_worst_64 mw_X12_308 (mO11 (by decide)) (by decide) (Nat.le_of_ble_eq_true rfl) ?_
      refine Wp.goto (tgt := 71) dc_X12_worst_67 (by decide) ?_
      cases hE
      exact Wp.ireturn dc_X12_worst_71 rfl rfl (Nat.le_refl _) (Nat.le_refl _) hK
theorem ok_X12_worst_j0 {Q : Option AV → AH → Prop}  {σ : SS}   {o} {z1 z2 : Option AV}   (hE : X12_worst_j0  σ   = some o) (hK : Q (some (vi o.1)) (hp o.2)) : Ws 2 mi_X12_worst Q 0 [some (vr 11 0), z1, z2] [] σ := by
  unfold X12_worst_j0 at hE
  refine Wp.aload_n dc_X12_worst_0 rfl ?_
  refine Wp.iconst dc_X12_worst_1 ic_0 ?_
  refine Wp.sputI dc_X12_worst_2 fw_X12_77 (mO11 (by decide)) (Nr.i _) ?_
  obtain ⟨σ2, es_2, hE⟩ := bnS hE
  rw [es_2]
  refine Wp.aload_n dc_X12_worst_5 rfl ?_
  refine Wp.iconst dc_X12_worst_6 ic_0 ?_
  refine Wp.sputI dc_X12_worst_7 fw_X12_80 (mO11 (by decide)) (Nr.i _) ?_
  obtain ⟨σ7, es_7, hE⟩ := bnS hE
  rw [es_7]
  refine Wp.iconst dc_X12_worst_10 ic_m1 ?_
  refine Wp.istore_n dc_X12_worst_11 (by decide) ?_
  refine Wp.iconst dc_X12_worst_12 ic_0 ?_
  refine Wp.istore_n dc_X12_worst_13 (by decide) ?_
  exact ok_X12_worst_l14   hE hK
theorem ok_X12_worst  {σ : SS}   {o}   (hE : X12_worst  σ   = some o) : Runs 2 0 0 mi_X12_worst [vr 11 0] (hp σ) (fun v h => v = some (vi o.1) ∧ h = hp o.2) := by
  refine Runs.of pn_X12 (Nat.le_of_ble_eq_true rfl) ?_
  exact ok_X12_worst_j0   hE ⟨rfl, rfl⟩
def X12_key_P17 (Q : Option AV → AH → Prop)    (ss : Int32 × Int32 × Int32 × SS) : Prop := ∀ z4 : Option AV, Ws 3 mi_X12_key Q 17 [some (vr 11 0), some (vi ss.1), some (vi ss.2.1), some (vi ss.2.2.1), z4] [] ss.2.2.2
def X12_key_R17 (Q : Option AV → AH → Prop)    (tt : Int32 × SS) : Prop := ∀ z2 z3 z4 : Option AV, Ws 3 mi_X12_key Q 79 [some (vr 11 0), some (vi tt.1), z2, z3, z4] [] tt.2
theorem ok_X12_key_j73 {Q : Option AV → AH → Prop}  {σ : SS}  {x1 : Int32} {x2 : Int32} {x3 : Int32} {o} {z4 : Option AV}   (hE : X12_key_j73  σ  x1 x2 x3 = some o) (hS : ∀ ss, o = Sum.inl ss → (X12_key_P17  Q   ) ss) (hT : ∀ tt, o = Sum.inr tt → (X12_key_R17  Q   ) tt) : Ws 3 mi_X12_key Q 73 [some (vr 11 0), some (vi x1), some (vi x2), some (vi x3), z4] [] σ := by
  unfold X12_key_j73 at hE
  obtain ⟨x3_73, e_73, hE⟩ := bnS hE
  refine Wp.iinc dc_X12_key_73 rfl ((ii ic_1).trans e_73) (by decide) ?_
  refine Wp.goto (tgt := 17) dc_X12_key_76 (by decide) ?_
  cases hE
  exact hS _ rfl _
theorem ok_X12_key_l17c {Q : Option AV → AH → Prop}  {σ : SS}   {x1 : Int32} {x2 : Int32} {x3 : Int32} {o} {z4 : Option AV}   (hE : X12_key_l17c  σ   x1 x2 x3 = some o) (hS : ∀ ss, o = Sum.inl ss → (X12_key_P17  Q   ) ss) (hT : ∀ tt, o = Sum.inr tt → (X12_key_R17  Q   ) tt) : Ws 3 mi_X12_key Q 17 [some (vr 11 0), some (vi x1), some (vi x2), some (vi x3), z4] [] σ := by
  unfold X12_key_l17c at hE
  refine Wp.iload_n dc_X12_key_17 rfl ?_
  refine Wp.aload_n dc_X12_key_18 rfl ?_
  refine Wp.sgetR (t := 34) dc_X12_key_19 fw_X12_35 (mO11 (by decide)) rfl ?_
  refine Wp.iconst dc_X12_key_22 ic_0 ?_
  obtain ⟨j23, h23, hE⟩ := bnd hE
  refine Wp.siald dc_X12_key_23 (mO13 (by decide)) h23 ?_
  refine Wp.icmp_ge (tgt := 79) dc_X12_key_24 (by decide) (fun hc24 => ?_) (fun hc24 => ?_)
  · rw [if_pos hc24] at hE
    cases hE
    exact hT _ rfl _ _ _
  · rw [if_neg hc24] at hE
    refine Wp.aload_n dc_X12_key_27 rfl ?_
    refine Wp.iload_n dc_X12_key_28 rfl ?_
    obtain ⟨v29, h29, hE⟩ := bnd hE
    refine Wp.cV1i (ok_X12_isInside  h29) dc_X12_key_29 mw_X12_337 (mO11 (by decide)) (by decide) (Nat.le_of_ble_eq_true rfl) ?_
    refine Wp.if_ne (tgt := 38) dc_X12_key_32 (by decide) (fun hc32 => ?_) (fun hc32 => ?_)
    · rw [if_neg hc32] at hE
      refine Wp.aload_n dc_X12_key_38 rfl ?_
      obtain ⟨σ39, h39, hE⟩ := bnd hE
      refine Wp.cV0v (ok_X12_keeps  h39) dc_X12_key_39 mw_X12_392 (mO11 (by decide)) (by decide) (Nat.le_of_ble_eq_true rfl) ?_
      refine Wp.aload_n dc_X12_key_42 rfl ?_
      refine Wp.iload_n dc_X12_key_43 rfl ?_
      obtain ⟨p44, h44, hE⟩ := bnd hE
      refine Wp.cV1i (ok_X12_cuts  h44) dc_X12_key_44 mw_X12_358 (mO11 (by decide)) (by decide) (Nat.le_of_ble_eq_true rfl) ?_
      refine Wp.pop dc_X12_key_47 rfl ?_
      refine Wp.aload_n dc_X12_key_48 rfl ?_
      refine Wp.iconst dc_X12_key_49 ic_m1 ?_
      obtain ⟨v50, h50, hE⟩ := bnd hE
      refine Wp.cV1i (ok_X12_largest  h50) dc_X12_key_50 mw_X12_383 (mO11 (by decide)) (by decide) (Nat.le_of_ble_eq_true rfl) ?_
      refine Wp.istore dc_X12_key_53 (by decide) ?_
      refine Wp.aload_n dc_X12_key_55 rfl ?_
      obtain ⟨σ56, h56, hE⟩ := bnd hE
      refine Wp.cV0v (ok_X12_gives  h56) dc_X12_key_56 mw_X12_395 (mO11 (by decide)) (by decide) (Nat.le_of_ble_eq_true rfl) ?_
      refine Wp.iload dc_X12_key_59 rfl ?_
      refine Wp.iload_n dc_X12_key_61 rfl ?_
      refine Wp.icmp_lt (tgt := 68) dc_X12_key_62 (by decide) (fun hc62 => ?_) (fun hc62 => ?_)
      · rw [if_pos hc62, if_pos hc62] at hE
        refine Wp.iload_n dc_X12_key_68 rfl ?_
        refine Wp.istore_n dc_X12_key_69 (by decide) ?_
        refine Wp.iload dc_X12_key_70 rfl ?_
        refine Wp.istore_n dc_X12_key_72 (by decide) ?_
        exact ok_X12_key_j73   hE hS hT
      · rw [if_neg hc62, if_neg hc62] at hE
        refine Wp.goto (tgt := 73) dc_X12_key_65 (by decide) ?_
        exact ok_X12_key_j73   hE hS hT
    · rw [if_pos hc32] at hE
      refine Wp.goto (tgt := 73) dc_X12_key_35 (by decide) ?_
      exact ok_X12_key_j73   hE hS hT
theorem ok_X12_key_l17 {Q : Option AV → AH → Prop}  {σ : SS}  {x1 : Int32} {x2 : Int32} {x3 : Int32} {o} {z4 : Option AV}   (hE : X12_key_l17  σ  x1 x2 x3 = some o) (hK : Q (some (vi o.1)) (hp o.2)) : Ws 3 mi_X12_key Q 17 [some (vr 11 0), some (vi x1), some (vi x2), some (vi x3), z4] [] σ := by
  unfold X12_key_l17 at hE
  obtain ⟨t17, h1, hE⟩ := bnd hE
  refine iter_ok (P := (X12_key_P17  Q   )) (R := (X12_key_R17  Q   )) (fun ss o h2 hS hT => ?_) NF _ _ h1 ?_ _
  · intro z4
    exact ok_X12_key_l17c   h2 hS hT
  · intro z2 z3 z4
    show Ws 3 mi_X12_key Q 79 [some (vr 11 0), some (vi t17.1), z2, z3, z4] [] t17.2
    refine Wp.iload_n dc_X12_key_79 rfl ?_
    refine Wp.if_ge (tgt := 92) dc_X12_key_80 (by decide) (fun hc80 => ?_) (fun hc80 => ?_)
    · rw [if_pos hc80] at hE
      refine Wp.iload_n dc_X12_key_92 rfl ?_
      cases hE
      exact Wp.ireturn dc_X12_key_93 rfl rfl (Nat.le_refl _) (Nat.le_refl _) hK
    · rw [if_neg hc80] at hE
      refine Wp.aload_n dc_X12_key_83 rfl ?_
      refine Wp.bipush dc_X12_key_84 bp_8 ?_
      obtain ⟨p86, h86, hE⟩ := bnd hE
      refine Wp.cV1i (ok_X12_refuse  h86) dc_X12_key_86 mw_X12_308 (mO11 (by decide)) (by decide) (Nat.le_of_ble_eq_true rfl) ?_
      refine Wp.goto (tgt := 93) dc_X12_key_89 (by decide) ?_
      cases hE
      exact Wp.ireturn dc_X12_key_93 rfl rfl (Nat.le_refl _) (Nat.le_refl _) hK
theorem ok_X12_key_j0 {Q : Option AV → AH → Prop}  {σ : SS}   {o} {z1 z2 z3 z4 : Option AV}   (hE : X12_key_j0  σ   = some o) (hK : Q (some (vi o.1)) (hp o.2)) : Ws 3 mi_X12_key Q 0 [some (vr 11 0), z1, z2, z3, z4] [] σ := by
  unfold X12_key_j0 at hE
  refine Wp.aload_n dc_X12_key_0 rfl ?_
  refine Wp.iconst dc_X12_key_1 ic_0 ?_
  refine Wp.sputI dc_X12_key_2 fw_X12_77 (mO11 (by decide)) (Nr.i _) ?_
  obtain ⟨σ2, es_2, hE⟩ := bnS hE
  rw [es_2]
  refine Wp.aload_n dc_X12_key_5 rfl ?_
  refine Wp.iconst dc_X12_key_6 ic_0 ?_
  refine Wp.sputI dc_X12_key_7 fw_X12_80 (mO11 (by decide)) (Nr.i _) ?_
  obtain ⟨σ7, es_7, hE⟩ := bnS hE
  rw [es_7]
  refine Wp.iconst dc_X12_key_10 ic_m1 ?_
  refine Wp.istore_n dc_X12_key_11 (by decide) ?_
  refine Wp.bipush dc_X12_key_12 bp_99 ?_
  refine Wp.istore_n dc_X12_key_14 (by decide) ?_
  refine Wp.iconst dc_X12_key_15 ic_0 ?_
  refine Wp.istore_n dc_X12_key_16 (by decide) ?_
  exact ok_X12_key_l17   hE hK
theorem ok_X12_key  {σ : SS}   {o}   (hE : X12_key  σ   = some o) : Runs 3 0 0 mi_X12_key [vr 11 0] (hp σ) (fun v h => v = some (vi o.1) ∧ h = hp o.2) := by
  refine Runs.of pn_X12 (Nat.le_of_ble_eq_true rfl) ?_
  exact ok_X12_key_j0   hE ⟨rfl, rfl⟩
def X12_alongOf_P5 (Q : Option AV → AH → Prop) (σ : SS)  (x1 : Int32) (ss : Int32 × Int32) : Prop := ∀ z2 : Option AV, Ws 1 mi_X12_alongOf Q 5 [some (vr 11 0), some (vi x1), z2, some (vi ss.1), some (vi ss.2)] [] σ
def X12_alongOf_R5 (Q : Option AV → AH → Prop) (σ : SS)  (x1 : Int32) (tt : Int32) : Prop := ∀ z0 z1 z2 z3 : Option AV, Ws 1 mi_X12_alongOf Q 43 [z0, z1, z2, z3, some (vi tt)] [] σ
theorem ok_X12_alongOf_j35 {Q : Option AV → AH → Prop}  {σ : SS}  {x1 : Int32} {x4 : Int32} {s0 : Int32} {s1 : Int32} {o} {z2 z3 : Option AV}   (hE : X12_alongOf_j35  σ  x1 x4 s0 s1 = some o) (hS : ∀ ss, o = Sum.inl ss → (X12_alongOf_P5  Q σ  x1) ss) (hT : ∀ tt, o = Sum.inr tt → (X12_alongOf_R5  Q σ  x1) tt) : Ws 1 mi_X12_alongOf Q 35 [some (vr 11 0), some (vi x1), z2, z3, some (vi x4)] [vi s1, vi s0] σ := by
  unfold X12_alongOf_j35 at hE
  refine Wp.isub dc_X12_alongOf_35 ?_
  obtain ⟨x3_36, e_36, hE⟩ := bnS hE
  rw [e_36]
  refine Wp.istore_n dc_X12_alongOf_36 (by decide) ?_
  obtain ⟨x4_37, e_37, hE⟩ := bnS hE
  refine Wp.iinc dc_X12_alongOf_37 rfl ((ii ic_1).trans e_37) (by decide) ?_
  refine Wp.goto (tgt := 5) dc_X12_alongOf_40 (by decide) ?_
  cases hE
  exact hS _ rfl _
theorem ok_X12_alongOf_j19 {Q : Option AV → AH → Prop}  {σ : SS}  {x1 : Int32} {x3 : Int32} {x4 : Int32} {o} {z2 : Option AV}   (hE : X12_alongOf_j19  σ  x1 x3 x4 = some o) (hS : ∀ ss, o = Sum.inl ss → (X12_alongOf_P5  Q σ  x1) ss) (hT : ∀ tt, o = Sum.inr tt → (X12_alongOf_R5  Q σ  x1) tt) : Ws 1 mi_X12_alongOf Q 19 [some (vr 11 0), some (vi x1), z2, some (vi x3), some (vi x4)] [] σ := by
  unfold X12_alongOf_j19 at hE
  refine Wp.iload_n dc_X12_alongOf_19 rfl ?_
  refine Wp.aload_n dc_X12_alongOf_20 rfl ?_
  refine Wp.iload dc_X12_alongOf_21 rfl ?_
  refine Wp.iload_n dc_X12_alongOf_23 rfl ?_
  obtain ⟨v24, h24, hE⟩ := bnd hE
  refine Wp.cV2i (ok_X12_isOf  h24) dc_X12_alongOf_24 mw_X12_300 (mO11 (by decide)) (by decide) (Nat.le_of_ble_eq_true rfl) ?_
  refine Wp.if_eq (tgt := 34) dc_X12_alongOf_27 (by decide) (fun hc27 => ?_) (fun hc27 => ?_)
  · rw [if_pos hc27] at hE
    refine Wp.iconst dc_X12_alongOf_34 ic_0 ?_
    exact ok_X12_alongOf_j35   hE hS hT
  · rw [if_neg hc27] at hE
    refine Wp.iconst dc_X12_alongOf_30 ic_1 ?_
    refine Wp.goto (tgt := 35) dc_X12_alongOf_31 (by decide) ?_
    exact ok_X12_alongOf_j35   hE hS hT
theorem ok_X12_alongOf_l5c {Q : Option AV → AH → Prop}  {σ : SS}  {x1 : Int32} {x3 : Int32} {x4 : Int32} {o} {z2 : Option AV}   (hE : X12_alongOf_l5c  σ  x1 x3 x4 = some o) (hS : ∀ ss, o = Sum.inl ss → (X12_alongOf_P5  Q σ  x1) ss) (hT : ∀ tt, o = Sum.inr tt → (X12_alongOf_R5  Q σ  x1) tt) : Ws 1 mi_X12_alongOf Q 5 [some (vr 11 0), some (vi x1), z2, some (vi x3), some (vi x4)] [] σ := by
  unfold X12_alongOf_l5c at hE
  refine Wp.aload_n dc_X12_alongOf_5 rfl ?_
  refine Wp.iload dc_X12_alongOf_6 rfl ?_
  refine Wp.iload_n dc_X12_alongOf_8 rfl ?_
  obtain ⟨v9, h9, hE⟩ := bnd hE
  refine Wp.cV2i (ok_X12_isOf  h9) dc_X12_alongOf_9 mw_X12_300 (mO11 (by decide)) (by decide) (Nat.le_of_ble_eq_true rfl) ?_
  refine Wp.if_eq (tgt := 19) dc_X12_alongOf_12 (by decide) (fun hc12 => ?_) (fun hc12 => ?_)
  · rw [if_pos hc12] at hE
    exact ok_X12_alongOf_j19   hE hS hT
  · rw [if_neg hc12] at hE
    refine Wp.iload_n dc_X12_alongOf_15 rfl ?_
    refine Wp.if_le (tgt := 43) dc_X12_alongOf_16 (by decide) (fun hc16 => ?_) (fun hc16 => ?_)
    · rw [if_pos hc16] at hE
      cases hE
      exact hT _ rfl _ _ _ _
    · rw [if_neg hc16] at hE
      exact ok_X12_alongOf_j19   hE hS hT
theorem ok_X12_alongOf_l5 {Q : Option AV → AH → Prop}  {σ : SS}  {x1 : Int32} {x3 : Int32} {x4 : Int32} {o} {z2 : Option AV}   (hE : X12_alongOf_l5  σ  x1 x3 x4 = some o) (hK : Q (some (vi o)) (hp σ)) : Ws 1 mi_X12_alongOf Q 5 [some (vr 11 0), some (vi x1), z2, some (vi x3), some (vi x4)] [] σ := by
  unfold X12_alongOf_l5 at hE
  obtain ⟨t5, h1, hE⟩ := bnd hE
  refine iter_ok (P := (X12_alongOf_P5  Q σ  x1)) (R := (X12_alongOf_R5  Q σ  x1)) (fun ss o h2 hS hT => ?_) NF _ _ h1 ?_ _
  · intro z2
    exact ok_X12_alongOf_l5c   h2 hS hT
  · intro z0 z1 z2 z3
    show Ws 1 mi_X12_alongOf Q 43 [z0, z1, z2, z3, some (vi t5)] [] σ
    refine Wp.iload dc_X12_alongOf_43 rfl ?_
    cases hE
    exact Wp.ireturn dc_X12_alongOf_45 rfl rfl (Nat.le_refl _) (Nat.le_refl _) hK
theorem ok_X12_alongOf_j0 {Q : Option AV → AH → Prop}  {σ : SS}  {x1 : Int32} {x2 : Int32} {o} {z3 z4 : Option AV}   (hE : X12_alongOf_j0  σ  x1 x2 = some o) (hK : Q (some (vi o)) (hp σ)) : Ws 1 mi_X12_alongOf Q 0 [some (vr 11 0), some (vi x1), some (vi x2), z3, z4] [] σ := by
  unfold X12_alongOf_j0 at hE
  refine Wp.iload_n dc_X12_alongOf_0 rfl ?_
  refine Wp.istore_n dc_X12_alongOf_1 (by decide) ?_
  refine Wp.iconst dc_X12_alongOf_2 ic_0 ?_
  refine Wp.istore dc_X12_alongOf_3 (by decide) ?_
  exact ok_X12_alongOf_l5   hE hK
theorem ok_X12_alongOf  {σ : SS}  {x1 : Int32} {x2 : Int32} {o}   (hE : X12_alongOf  σ  x1 x2 = some o) : Runs 1 0 0 mi_X12_alongOf [vr 11 0, vi x1, vi x2] (hp σ) (fun v h => v = some (vi o) ∧ h = hp σ) := by
  refine Runs.of pn_X12 (Nat.le_of_ble_eq_true rfl) ?_
  exact ok_X12_alongOf_j0   hE ⟨rfl, rfl⟩
def X12_frees_P29 (Q : Option AV → AH → Prop)   (x1 : Int32) (x2 : Int32) (ss : Int32 × SS) : Prop := ∀ z4 z5 z6 z7 z8 z9 : Option AV, Ws 2 mi_X12_frees Q 29 [some (vr 11 0), some (vi x1), some (vi x2), some (vi ss.1), z4, z5, z6, z7, z8, z9] [] ss.2
def X12_frees_R29 (Q : Option AV → AH → Prop)   (x1 : Int32) (x2 : Int32) (tt : SS) : Prop := ∀ z1 z3 z4 z5 z6 z7 z8 z9 : Option AV, Ws 2 mi_X12_frees Q 85 [some (vr 11 0), z1, some (vi x2), z3, z4, z5, z6, z7, z8, z9] [] tt
theorem ok_X12_frees_j78 {Q : Option AV → AH → Prop}  {σ : SS}  {x1 : Int32} {x2 : Int32} {x3 : Int32} {s1 : Int32} {s2 : Int32} {o} {z4 z5 z6 z7 z8 z9 : Option AV}   (hE : X12_frees_j78  σ  x1 x2 x3 s1 s2 = some o) (hS : ∀ ss, o = Sum.inl ss → (X12_frees_P29  Q   x1 x2) ss) (hT : ∀ tt, o = Sum.inr tt → (X12_frees_R29  Q   x1 x2) tt) : Ws 2 mi_X12_frees Q 78 [some (vr 11 0), some (vi x1), some (vi x2), some (vi x3), z4, z5, z6, z7, z8, z9] [vi s2, vi s1, vr 13 37] σ := by
  unfold X12_frees_j78 at hE
  obtain ⟨j78, h78, hE⟩ := bnd hE
  refine Wp.siast dc_X12_frees_78 (mO13 (by decide)) h78 ?_
  obtain ⟨σ78, es_78, hE⟩ := bnS hE
  rw [es_78]
  obtain ⟨x3_79, e_79, hE⟩ := bnS hE
  refine Wp.iinc dc_X12_frees_79 rfl ((ii ic_1).trans e_79) (by decide) ?_
  refine Wp.goto (tgt := 29) dc_X12_frees_82 (by decide) ?_
  cases hE
  exact hS _ rfl _ _ _ _ _ _
theorem ok_X12_frees_l29c {Q : Option AV → AH → Prop}  {σ : SS}  {x1 : Int32} {x2 : Int32} {x3 : Int32} {o} {z4 z5 z6 z7 z8 z9 : Option AV}   (hE : X12_frees_l29c  σ  x1 x2 x3 = some o) (hS : ∀ ss, o = Sum.inl ss → (X12_frees_P29  Q   x1 x2) ss) (hT : ∀ tt, o = Sum.inr tt → (X12_frees_R29  Q   x1 x2) tt) : Ws 2 mi_X12_frees Q 29 [some (vr 11 0), some (vi x1), some (vi x2), some (vi x3), z4, z5, z6, z7, z8, z9] [] σ := by
  unfold X12_frees_l29c at hE
  refine Wp.iload_n dc_X12_frees_29 rfl ?_
  refine Wp.iload_n dc_X12_frees_30 rfl ?_
  refine Wp.icmp_ge (tgt := 85) dc_X12_frees_31 (by decide) (fun hc31 => ?_) (fun hc31 => ?_)
  · rw [if_pos hc31] at hE
    cases hE
    exact hT _ rfl _ _ _ _ _ _ _ _
  · rw [if_neg hc31] at hE
    refine Wp.aload_n dc_X12_frees_34 rfl ?_
    refine Wp.sgetR (t := 36) dc_X12_frees_35 fw_X12_44 (mO11 (by decide)) rfl ?_
    refine Wp.iload_n dc_X12_frees_38 rfl ?_
    refine Wp.aload_n dc_X12_frees_39 rfl ?_
    refine Wp.aload_n dc_X12_frees_40 rfl ?_
    refine Wp.iload_n dc_X12_frees_41 rfl ?_
    refine Wp.iload_n dc_X12_frees_42 rfl ?_
    obtain ⟨v43, h43, hE⟩ := bnd hE
    refine Wp.cV2i (ok_X12_alongOf  h43) dc_X12_frees_43 mw_X12_407 (mO11 (by decide)) (by decide) (Nat.le_of_ble_eq_true rfl) ?_
    refine Wp.iload_n dc_X12_frees_46 rfl ?_
    obtain ⟨v47, h47, hE⟩ := bnd hE
    refine Wp.cV2i (ok_X12_costOf  h47) dc_X12_frees_47 mw_X12_334 (mO11 (by decide)) (by decide) (Nat.le_of_ble_eq_true rfl) ?_
    obtain ⟨j50, h50, hE⟩ := bnd hE
    refine Wp.siast dc_X12_frees_50 (mO13 (by decide)) h50 ?_
    obtain ⟨σ50, es_50, hE⟩ := bnS hE
    rw [es_50]
    refine Wp.aload_n dc_X12_frees_51 rfl ?_
    refine Wp.sgetR (t := 37) dc_X12_frees_52 fw_X12_47 (mO11 (by decide)) rfl ?_
    refine Wp.iload_n dc_X12_frees_55 rfl ?_
    refine Wp.aload_n dc_X12_frees_56 rfl ?_
    refine Wp.sgetR (t := 34) dc_X12_frees_57 fw_X12_35 (mO11 (by decide)) rfl ?_
    refine Wp.bipush dc_X12_frees_60 bp_108 ?_
    refine Wp.aload_n dc_X12_frees_62 rfl ?_
    refine Wp.iload_n dc_X12_frees_63 rfl ?_
    refine Wp.iload_n dc_X12_frees_64 rfl ?_
    obtain ⟨v65, h65, hE⟩ := bnd hE
    refine Wp.cV2i (ok_X12_alongOf  h65) dc_X12_frees_65 mw_X12_407 (mO11 (by decide)) (by decide) (Nat.le_of_ble_eq_true rfl) ?_
    refine Wp.iadd dc_X12_frees_68 ?_
    obtain ⟨j69, h69, hE⟩ := bnd hE
    refine Wp.siald dc_X12_frees_69 (mO13 (by decide)) h69 ?_
    refine Wp.if_ne (tgt := 77) dc_X12_frees_70 (by decide) (fun hc70 => ?_) (fun hc70 => ?_)
    · rw [if_neg hc70] at hE
      refine Wp.iconst dc_X12_frees_77 ic_0 ?_
      exact ok_X12_frees_j78   hE hS hT
    · rw [if_pos hc70] at hE
      refine Wp.iconst dc_X12_frees_73 ic_1 ?_
      refine Wp.goto (tgt := 78) dc_X12_frees_74 (by decide) ?_
      exact ok_X12_frees_j78   hE hS hT
def X12_frees_P90 (Q : Option AV → AH → Prop)   (x2 : Int32) (ss : Int32 × Int32 × SS) : Prop := ∀ z1 z5 z6 z7 z8 z9 : Option AV, Ws 2 mi_X12_frees Q 90 [some (vr 11 0), z1, some (vi x2), some (vi ss.1), some (vi ss.2.1), z5, z6, z7, z8, z9] [] ss.2.2
def X12_frees_R90 (Q : Option AV → AH → Prop)   (x2 : Int32) (tt : Int32 × SS) : Prop := ∀ z0 z1 z2 z4 z5 z6 z7 z8 z9 : Option AV, Ws 2 mi_X12_frees Q 295 [z0, z1, z2, some (vi tt.1), z4, z5, z6, z7, z8, z9] [] tt.2
def X12_frees_P102 (Q : Option AV → AH → Prop) (σ : SS)  (x2 : Int32) (x3 : Int32) (x4 : Int32) (ss : Int32 × Int32) : Prop := ∀ z1 z7 z8 z9 : Option AV, Ws 2 mi_X12_frees Q 102 [some (vr 11 0), z1, some (vi x2), some (vi x3), some (vi x4), some (vi ss.1), some (vi ss.2), z7, z8, z9] [] σ
def X12_frees_R102 (Q : Option AV → AH → Prop) (σ : SS)  (x2 : Int32) (x3 : Int32) (x4 : Int32) (tt : Int32) : Prop := ∀ z1 z6 z7 z8 z9 : Option AV, Ws 2 mi_X12_frees Q 127 [some (vr 11 0), z1, some (vi x2), some (vi x3), some (vi x4), some (vi tt), z6, z7, z8, z9] [] σ
theorem ok_X12_frees_l102c {Q : Option AV → AH → Prop}  {σ : SS}  {x2 : Int32} {x3 : Int32} {x4 : Int32} {x5 : Int32} {x6 : Int32} {o} {z1 z7 z8 z9 : Option AV}   (hE : X12_frees_l102c  σ  x2 x3 x4 x5 x6 = some o) (hS : ∀ ss, o = Sum.inl ss → (X12_frees_P102  Q σ  x2 x3 x4) ss) (hT : ∀ tt, o = Sum.inr tt → (X12_frees_R102  Q σ  x2 x3 x4) tt) : Ws 2 mi_X12_frees Q 102 [some (vr 11 0), z1, some (vi x2), some (vi x3), some (vi x4), some (vi x5), some (vi x6), z7, z8, z9] [] σ := by
  unfold X12_frees_l102c at hE
  refine Wp.iload dc_X12_frees_102 rfl ?_
  refine Wp.iload dc_X12_frees_104 rfl ?_
  refine Wp.icmp_ge (tgt := 127) dc_X12_frees_106 (by decide) (fun hc106 => ?_) (fun hc106 => ?_)
  · rw [if_pos hc106] at hE
    cases hE
    exact hT _ rfl _ _ _ _ _
  · rw [if_neg hc106] at hE
    refine Wp.iload dc_X12_frees_109 rfl ?_
    refine Wp.aload_n dc_X12_frees_111 rfl ?_
    refine Wp.sgetR (t := 36) dc_X12_frees_112 fw_X12_44 (mO11 (by decide)) rfl ?_
    refine Wp.iload dc_X12_frees_115 rfl ?_
    obtain ⟨j117, h117, hE⟩ := bnd hE
    refine Wp.siald dc_X12_frees_117 (mO13 (by decide)) h117 ?_
    refine Wp.iadd dc_X12_frees_118 ?_
    obtain ⟨x5_119, e_119, hE⟩ := bnS hE
    rw [e_119]
    refine Wp.istore dc_X12_frees_119 (by decide) ?_
    obtain ⟨x6_121, e_121, hE⟩ := bnS hE
    refine Wp.iinc dc_X12_frees_121 rfl ((ii ic_1).trans e_121) (by decide) ?_
    refine Wp.goto (tgt := 102) dc_X12_frees_124 (by decide) ?_
    cases hE
    exact hS _ rfl _ _ _ _
def X12_frees_P133 (Q : Option AV → AH → Prop)   (x2 : Int32) (x4 : Int32) (x5 : Int32) (ss : Int32 × Int32 × Int32 × SS) : Prop := ∀ z1 z8 z9 : Option AV, Ws 2 mi_X12_frees Q 133 [some (vr 11 0), z1, some (vi x2), some (vi ss.1), some (vi x4), some (vi x5), some (vi ss.2.1), some (vi ss.2.2.1), z8, z9] [] ss.2.2.2
def X12_frees_R133 (Q : Option AV → AH → Prop)   (x2 : Int32) (x4 : Int32) (x5 : Int32) (tt : Int32 × SS) : Prop := ∀ z1 z5 z6 z7 z8 z9 : Option AV, Ws 2 mi_X12_frees Q 289 [some (vr 11 0), z1, some (vi x2), some (vi tt.1), some (vi x4), z5, z6, z7, z8, z9] [] tt.2
def X12_frees_P172 (Q : Option AV → AH → Prop) (σ : SS)  (x2 : Int32) (x3 : Int32) (x4 : Int32) (x5 : Int32) (x6 : Int32) (x7 : Int32) (ss : Int32 × Int32) : Prop := ∀ z1 : Option AV, Ws 2 mi_X12_frees Q 172 [some (vr 11 0), z1, some (vi x2), some (vi x3), some (vi x4), some (vi x5), some (vi x6), some (vi x7), some (vi ss.1), some (vi ss.2)] [] σ
def X12_frees_R172 (Q : Option AV → AH → Prop) (σ : SS)  (x2 : Int32) (x3 : Int32) (x4 : Int32) (x5 : Int32) (x6 : Int32) (x7 : Int32) (tt : Int32) : Prop := ∀ z1 z9 : Option AV, Ws 2 mi_X12_frees Q 210 [some (vr 11 0), z1, some (vi x2), some (vi x3), some (vi x4), some (vi x5), some (vi x6), some (vi x7), some (vi tt), z9] [] σ
theorem ok_X12_frees_j202 {Q : Option AV → AH → Prop}  {σ : SS}  {x2 : Int32} {x3 : Int32} {x4 : Int32} {x5 : Int32} {x6 : Int32} {x7 : Int32} {x9 : Int32} {s0 : Int32} {o} {z1 z8 : Option AV}   (hE : X12_frees_j202  σ  x2 x3 x4 x5 x6 x7 x9 s0 = some o) (hS : ∀ ss, o = Sum.inl ss → (X12_frees_P172  Q σ  x2 x3 x4 x5 x6 x7) ss) (hT : ∀ tt, o = Sum.inr tt → (X12_frees_R172  Q σ  x2 x3 x4 x5 x6 x7) tt) : Ws 2 mi_X12_frees Q 202 [some (vr 11 0), z1, some (vi x2), some (vi x3), some (vi x4), some (vi x5), some (vi x6), some (vi x7), z8, some (vi x9)] [vi s0] σ := by
  unfold X12_frees_j202 at hE
  refine Wp.istore dc_X12_frees_202 (by decide) ?_
  obtain ⟨x9_204, e_204, hE⟩ := bnS hE
  refine Wp.iinc dc_X12_frees_204 rfl ((ii ic_1).trans e_204) (by decide) ?_
  refine Wp.goto (tgt := 172) dc_X12_frees_207 (by decide) ?_
  cases hE
  exact hS _ rfl _
theorem ok_X12_frees_j201 {Q : Option AV → AH → Prop}  {σ : SS}  {x2 : Int32} {x3 : Int32} {x4 : Int32} {x5 : Int32} {x6 : Int32} {x7 : Int32} {x9 : Int32} {o} {z1 z8 : Option AV}   (hE : X12_frees_j201  σ  x2 x3 x4 x5 x6 x7 x9 = some o) (hS : ∀ ss, o = Sum.inl ss → (X12_frees_P172  Q σ  x2 x3 x4 x5 x6 x7) ss) (hT : ∀ tt, o = Sum.inr tt → (X12_frees_R172  Q σ  x2 x3 x4 x5 x6 x7) tt) : Ws 2 mi_X12_frees Q 201 [some (vr 11 0), z1, some (vi x2), some (vi x3), some (vi x4), some (vi x5), some (vi x6), some (vi x7), z8, some (vi x9)] [] σ := by
  unfold X12_frees_j201 at hE
  refine Wp.iconst dc_X12_frees_201 ic_0 ?_
  exact ok_X12_frees_j202   hE hS hT
theorem ok_X12_frees_l172c {Q : Option AV → AH → Prop}  {σ : SS}  {x2 : Int32} {x3 : Int32} {x4 : Int32} {x5 : Int32} {x6 : Int32} {x7 : Int32} {x8 : Int32} {x9 : Int32} {o} {z1 : Option AV}   (hE : X12_frees_l172c  σ  x2 x3 x4 x5 x6 x7 x8 x9 = some o) (hS : ∀ ss, o = Sum.inl ss → (X12_frees_P172  Q σ  x2 x3 x4 x5 x6 x7) ss) (hT : ∀ tt, o = Sum.inr tt → (X12_frees_R172  Q σ  x2 x3 x4 x5 x6 x7) tt) : Ws 2 mi_X12_frees Q 172 [some (vr 11 0), z1, some (vi x2), some (vi x3), some (vi x4), some (vi x5), some (vi x6), some (vi x7), some (vi x8), some (vi x9)] [] σ := by
  unfold X12_frees_l172c at hE
  refine Wp.iload dc_X12_frees_172 rfl ?_
  refine Wp.iload_n dc_X12_frees_174 rfl ?_
  refine Wp.iload dc_X12_frees_175 rfl ?_
  refine Wp.isub dc_X12_frees_177 ?_
  refine Wp.icmp_ge (tgt := 210) dc_X12_frees_178 (by decide) (fun hc178 => ?_) (fun hc178 => ?_)
  · rw [if_pos hc178] at hE
    cases hE
    exact hT _ rfl _ _
  · rw [if_neg hc178] at hE
    refine Wp.iload dc_X12_frees_181 rfl ?_
    refine Wp.if_eq (tgt := 201) dc_X12_frees_183 (by decide) (fun hc183 => ?_) (fun hc183 => ?_)
    · rw [if_pos hc183] at hE
      exact ok_X12_frees_j201   hE hS hT
    · rw [if_neg hc183] at hE
      refine Wp.aload_n dc_X12_frees_186 rfl ?_
      refine Wp.sgetR (t := 37) dc_X12_frees_187 fw_X12_47 (mO11 (by decide)) rfl ?_
      refine Wp.iload dc_X12_frees_190 rfl ?_
      obtain ⟨j192, h192, hE⟩ := bnd hE
      refine Wp.siald dc_X12_frees_192 (mO13 (by decide)) h192 ?_
      refine Wp.iconst dc_X12_frees_193 ic_1 ?_
      refine Wp.icmp_ne (tgt := 201) dc_X12_frees_194 (by decide) (fun hc194 => ?_) (fun hc194 => ?_)
      · rw [if_neg hc194] at hE
        exact ok_X12_frees_j201   hE hS hT
      · rw [if_pos hc194] at hE
        refine Wp.iconst dc_X12_frees_197 ic_1 ?_
        refine Wp.goto (tgt := 202) dc_X12_frees_198 (by decide) ?_
        exact ok_X12_frees_j202   hE hS hT
theorem ok_X12_frees_j283 {Q : Option AV → AH → Prop}  {σ : SS}  {x2 : Int32} {x3 : Int32} {x4 : Int32} {x5 : Int32} {x6 : Int32} {x7 : Int32} {o} {z1 z8 z9 : Option AV}   (hE : X12_frees_j283  σ  x2 x3 x4 x5 x6 x7 = some o) (hS : ∀ ss, o = Sum.inl ss → (X12_frees_P133  Q   x2 x4 x5) ss) (hT : ∀ tt, o = Sum.inr tt → (X12_frees_R133  Q   x2 x4 x5) tt) : Ws 2 mi_X12_frees Q 283 [some (vr 11 0), z1, some (vi x2), some (vi x3), some (vi x4), some (vi x5), some (vi x6), some (vi x7), z8, z9] [] σ := by
  unfold X12_frees_j283 at hE
  obtain ⟨x7_283, e_283, hE⟩ := bnS hE
  refine Wp.iinc dc_X12_frees_283 rfl ((ii ic_1).trans e_283) (by decide) ?_
  refine Wp.goto (tgt := 133) dc_X12_frees_286 (by decide) ?_
  cases hE
  exact hS _ rfl _ _ _
theorem ok_X12_frees_j280 {Q : Option AV → AH → Prop}  {σ : SS}  {x2 : Int32} {x3 : Int32} {x4 : Int32} {x5 : Int32} {x6 : Int32} {x7 : Int32} {s1 : Int32} {o} {z1 z8 z9 : Option AV}   (hE : X12_frees_j280  σ  x2 x3 x4 x5 x6 x7 s1 = some o) (hS : ∀ ss, o = Sum.inl ss → (X12_frees_P133  Q   x2 x4 x5) ss) (hT : ∀ tt, o = Sum.inr tt → (X12_frees_R133  Q   x2 x4 x5) tt) : Ws 2 mi_X12_frees Q 280 [some (vr 11 0), z1, some (vi x2), some (vi x3), some (vi x4), some (vi x5), some (vi x6), some (vi x7), z8, z9] [vi s1, vr 11 0] σ := by
  unfold X12_frees_j280 at hE
  refine Wp.sputI dc_X12_frees_280 fw_X12_404 (mO11 (by decide)) (Nr.i _) ?_
  obtain ⟨σ280, es_280, hE⟩ := bnS hE
  rw [es_280]
  exact ok_X12_frees_j283   hE hS hT
theorem ok_X12_frees_j250 {Q : Option AV → AH → Prop}  {σ : SS}  {x2 : Int32} {x4 : Int32} {x5 : Int32} {x6 : Int32} {x7 : Int32} {x9 : Int32} {o} {z1 z3 z8 : Option AV}   (hE : X12_frees_j250  σ  x2 x4 x5 x6 x7 x9 = some o) (hS : ∀ ss, o = Sum.inl ss → (X12_frees_P133  Q   x2 x4 x5) ss) (hT : ∀ tt, o = Sum.inr tt → (X12_frees_R133  Q   x2 x4 x5) tt) : Ws 2 mi_X12_frees Q 250 [some (vr 11 0), z1, some (vi x2), z3, some (vi x4), some (vi x5), some (vi x6), some (vi x7), z8, some (vi x9)] [] σ := by
  unfold X12_frees_j250 at hE
  refine Wp.iload dc_X12_frees_250 rfl ?_
  refine Wp.istore_n dc_X12_frees_252 (by decide) ?_
  refine Wp.aload_n dc_X12_frees_253 rfl ?_
  refine Wp.iload dc_X12_frees_254 rfl ?_
  refine Wp.sputI dc_X12_frees_256 fw_X12_398 (mO11 (by decide)) (Nr.i _) ?_
  obtain ⟨σ256, es_256, hE⟩ := bnS hE
  rw [es_256]
  refine Wp.aload_n dc_X12_frees_259 rfl ?_
  refine Wp.iload dc_X12_frees_260 rfl ?_
  refine Wp.sputI dc_X12_frees_262 fw_X12_401 (mO11 (by decide)) (Nr.i _) ?_
  obtain ⟨σ262, es_262, hE⟩ := bnS hE
  rw [es_262]
  refine Wp.aload_n dc_X12_frees_265 rfl ?_
  refine Wp.iload dc_X12_frees_266 rfl ?_
  refine Wp.iload dc_X12_frees_268 rfl ?_
  refine Wp.iadd dc_X12_frees_270 ?_
  refine Wp.iload_n dc_X12_frees_271 rfl ?_
  refine Wp.icmp_ge (tgt := 279) dc_X12_frees_272 (by decide) (fun hc272 => ?_) (fun hc272 => ?_)
  · rw [if_pos hc272] at hE
    refine Wp.iconst dc_X12_frees_279 ic_0 ?_
    exact ok_X12_frees_j280   hE hS hT
  · rw [if_neg hc272] at hE
    refine Wp.iconst dc_X12_frees_275 ic_1 ?_
    refine Wp.goto (tgt := 280) dc_X12_frees_276 (by decide) ?_
    exact ok_X12_frees_j280   hE hS hT
theorem ok_X12_frees_j229 {Q : Option AV → AH → Prop}  {σ : SS}  {x2 : Int32} {x3 : Int32} {x4 : Int32} {x5 : Int32} {x6 : Int32} {x7 : Int32} {x8 : Int32} {s0 : Int32} {s1 : Int32} {o} {z1 z9 : Option AV}   (hE : X12_frees_j229  σ  x2 x3 x4 x5 x6 x7 x8 s0 s1 = some o) (hS : ∀ ss, o = Sum.inl ss → (X12_frees_P133  Q   x2 x4 x5) ss) (hT : ∀ tt, o = Sum.inr tt → (X12_frees_R133  Q   x2 x4 x5) tt) : Ws 2 mi_X12_frees Q 229 [some (vr 11 0), z1, some (vi x2), some (vi x3), some (vi x4), some (vi x5), some (vi x6), some (vi x7), some (vi x8), z9] [vi s1, vi s0] σ := by
  unfold X12_frees_j229 at hE
  refine Wp.iadd dc_X12_frees_229 ?_
  obtain ⟨x9_230, e_230, hE⟩ := bnS hE
  rw [e_230]
  refine Wp.istore dc_X12_frees_230 (by decide) ?_
  refine Wp.iload dc_X12_frees_232 rfl ?_
  refine Wp.if_eq (tgt := 283) dc_X12_frees_234 (by decide) (fun hc234 => ?_) (fun hc234 => ?_)
  · rw [if_pos hc234] at hE
    exact ok_X12_frees_j283   hE hS hT
  · rw [if_neg hc234] at hE
    refine Wp.iload_n dc_X12_frees_237 rfl ?_
    refine Wp.if_lt (tgt := 250) dc_X12_frees_238 (by decide) (fun hc238 => ?_) (fun hc238 => ?_)
    · rw [if_pos hc238] at hE
      exact ok_X12_frees_j250   hE hS hT
    · rw [if_neg hc238] at hE
      refine Wp.iload dc_X12_frees_241 rfl ?_
      refine Wp.iload_n dc_X12_frees_243 rfl ?_
      refine Wp.icmp_lt (tgt := 250) dc_X12_frees_244 (by decide) (fun hc244 => ?_) (fun hc244 => ?_)
      · rw [if_pos hc244] at hE
        exact ok_X12_frees_j250   hE hS hT
      · rw [if_neg hc244] at hE
        refine Wp.goto (tgt := 283) dc_X12_frees_247 (by decide) ?_
        exact ok_X12_frees_j283   hE hS hT
theorem ok_X12_frees_l172 {Q : Option AV → AH → Prop}  {σ : SS}  {x2 : Int32} {x3 : Int32} {x4 : Int32} {x5 : Int32} {x6 : Int32} {x7 : Int32} {x8 : Int32} {x9 : Int32} {o} {z1 : Option AV}   (hE : X12_frees_l172  σ  x2 x3 x4 x5 x6 x7 x8 x9 = some o) (hS : ∀ ss, o = Sum.inl ss → (X12_frees_P133  Q   x2 x4 x5) ss) (hT : ∀ tt, o = Sum.inr tt → (X12_frees_R133  Q   x2 x4 x5) tt) : Ws 2 mi_X12_frees Q 172 [some (vr 11 0), z1, some (vi x2), some (vi x3), some (vi x4), some (vi x5), some (vi x6), some (vi x7), some (vi x8), some (vi x9)] [] σ := by
  unfold X12_frees_l172 at hE
  obtain ⟨t172, h1, hE⟩ := bnd hE
  refine iter_ok (P := (X12_frees_P172  Q σ  x2 x3 x4 x5 x6 x7)) (R := (X12_frees_R172  Q σ  x2 x3 x4 x5 x6 x7)) (fun ss o h2 hS hT => ?_) NF _ _ h1 ?_ _
  · intro z1
    exact ok_X12_frees_l172c   h2 hS hT
  · intro z1 z9
    show Ws 2 mi_X12_frees Q 210 [some (vr 11 0), z1, some (vi x2), some (vi x3), some (vi x4), some (vi x5), some (vi x6), some (vi x7), some (vi t172), z9] [] σ
    refine Wp.iload dc_X12_frees_210 rfl ?_
    refine Wp.iload dc_X12_frees_212 rfl ?_
    refine Wp.iadd dc_X12_frees_214 ?_
    refine Wp.iload dc_X12_frees_215 rfl ?_
    refine Wp.iload dc_X12_frees_217 rfl ?_
    refine Wp.iadd dc_X12_frees_219 ?_
    refine Wp.iload_n dc_X12_frees_220 rfl ?_
    refine Wp.icmp_ge (tgt := 228) dc_X12_frees_221 (by decide) (fun hc221 => ?_) (fun hc221 => ?_)
    · rw [if_pos hc221] at hE
      refine Wp.iconst dc_X12_frees_228 ic_0 ?_
      exact ok_X12_frees_j229   hE hS hT
    · rw [if_neg hc221] at hE
      refine Wp.iconst dc_X12_frees_224 ic_2 ?_
      refine Wp.goto (tgt := 229) dc_X12_frees_225 (by decide) ?_
      exact ok_X12_frees_j229   hE hS hT
theorem ok_X12_frees_j162 {Q : Option AV → AH → Prop}  {σ : SS}  {x2 : Int32} {x3 : Int32} {x4 : Int32} {x5 : Int32} {x7 : Int32} {s0 : Int32} {s1 : Int32} {o} {z1 z6 z8 z9 : Option AV}   (hE : X12_frees_j162  σ  x2 x3 x4 x5 x7 s0 s1 = some o) (hS : ∀ ss, o = Sum.inl ss → (X12_frees_P133  Q   x2 x4 x5) ss) (hT : ∀ tt, o = Sum.inr tt → (X12_frees_R133  Q   x2 x4 x5) tt) : Ws 2 mi_X12_frees Q 162 [some (vr 11 0), z1, some (vi x2), some (vi x3), some (vi x4), some (vi x5), z6, some (vi x7), z8, z9] [vi s1, vi s0] σ := by
  unfold X12_frees_j162 at hE
  refine Wp.iadd dc_X12_frees_162 ?_
  obtain ⟨x6_163, e_163, hE⟩ := bnS hE
  rw [e_163]
  refine Wp.istore dc_X12_frees_163 (by decide) ?_
  refine Wp.iconst dc_X12_frees_165 ic_1 ?_
  refine Wp.istore dc_X12_frees_166 (by decide) ?_
  refine Wp.iload dc_X12_frees_168 rfl ?_
  refine Wp.istore dc_X12_frees_170 (by decide) ?_
  exact ok_X12_frees_l172   hE hS hT
theorem ok_X12_frees_l133c {Q : Option AV → AH → Prop}  {σ : SS}  {x2 : Int32} {x4 : Int32} {x5 : Int32} {x3 : Int32} {x6 : Int32} {x7 : Int32} {o} {z1 z8 z9 : Option AV}   (hE : X12_frees_l133c  σ  x2 x4 x5 x3 x6 x7 = some o) (hS : ∀ ss, o = Sum.inl ss → (X12_frees_P133  Q   x2 x4 x5) ss) (hT : ∀ tt, o = Sum.inr tt → (X12_frees_R133  Q   x2 x4 x5) tt) : Ws 2 mi_X12_frees Q 133 [some (vr 11 0), z1, some (vi x2), some (vi x3), some (vi x4), some (vi x5), some (vi x6), some (vi x7), z8, z9] [] σ := by
  unfold X12_frees_l133c at hE
  refine Wp.iload dc_X12_frees_133 rfl ?_
  refine Wp.iload_n dc_X12_frees_135 rfl ?_
  refine Wp.iload dc_X12_frees_136 rfl ?_
  refine Wp.isub dc_X12_frees_138 ?_
  refine Wp.icmp_gt (tgt := 289) dc_X12_frees_139 (by decide) (fun hc139 => ?_) (fun hc139 => ?_)
  · rw [if_pos hc139] at hE
    cases hE
    exact hT _ rfl _ _ _ _ _ _
  · rw [if_neg hc139] at hE
    refine Wp.iload dc_X12_frees_142 rfl ?_
    refine Wp.iload dc_X12_frees_144 rfl ?_
    refine Wp.if_ne (tgt := 153) dc_X12_frees_146 (by decide) (fun hc146 => ?_) (fun hc146 => ?_)
    · rw [if_neg hc146] at hE
      refine Wp.aload_n dc_X12_frees_153 rfl ?_
      refine Wp.sgetR (t := 36) dc_X12_frees_154 fw_X12_44 (mO11 (by decide)) rfl ?_
      refine Wp.iload_n dc_X12_frees_157 rfl ?_
      refine Wp.iload dc_X12_frees_158 rfl ?_
      refine Wp.isub dc_X12_frees_160 ?_
      obtain ⟨j161, h161, hE⟩ := bnd hE
      refine Wp.siald dc_X12_frees_161 (mO13 (by decide)) h161 ?_
      exact ok_X12_frees_j162   hE hS hT
    · rw [if_pos hc146] at hE
      refine Wp.iconst dc_X12_frees_149 ic_0 ?_
      refine Wp.goto (tgt := 162) dc_X12_frees_150 (by decide) ?_
      exact ok_X12_frees_j162   hE hS hT
theorem ok_X12_frees_l133 {Q : Option AV → AH → Prop}  {σ : SS}  {x2 : Int32} {x3 : Int32} {x4 : Int32} {x5 : Int32} {x6 : Int32} {x7 : Int32} {o} {z1 z8 z9 : Option AV}   (hE : X12_frees_l133  σ  x2 x3 x4 x5 x6 x7 = some o) (hS : ∀ ss, o = Sum.inl ss → (X12_frees_P90  Q   x2) ss) (hT : ∀ tt, o = Sum.inr tt → (X12_frees_R90  Q   x2) tt) : Ws 2 mi_X12_frees Q 133 [some (vr 11 0), z1, some (vi x2), some (vi x3), some (vi x4), some (vi x5), some (vi x6), some (vi x7), z8, z9] [] σ := by
  unfold X12_frees_l133 at hE
  obtain ⟨t133, h1, hE⟩ := bnd hE
  refine iter_ok (P := (X12_frees_P133  Q   x2 x4 x5)) (R := (X12_frees_R133  Q   x2 x4 x5)) (fun ss o h2 hS hT => ?_) NF _ _ h1 ?_ _ _ _
  · intro z1 z8 z9
    exact ok_X12_frees_l133c   h2 hS hT
  · intro z1 z5 z6 z7 z8 z9
    show Ws 2 mi_X12_frees Q 289 [some (vr 11 0), z1, some (vi x2), some (vi t133.1), some (vi x4), z5, z6, z7, z8, z9] [] t133.2
    obtain ⟨x4_289, e_289, hE⟩ := bnS hE
    refine Wp.iinc dc_X12_frees_289 rfl ((ii ic_1).trans e_289) (by decide) ?_
    refine Wp.goto (tgt := 90) dc_X12_frees_292 (by decide) ?_
    cases hE
    exact hS _ rfl _ _ _ _ _ _
theorem ok_X12_frees_l102 {Q : Option AV → AH → Prop}  {σ : SS}  {x2 : Int32} {x3 : Int32} {x4 : Int32} {x5 : Int32} {x6 : Int32} {o} {z1 z7 z8 z9 : Option AV}   (hE : X12_frees_l102  σ  x2 x3 x4 x5 x6 = some o) (hS : ∀ ss, o = Sum.inl ss → (X12_frees_P90  Q   x2) ss) (hT : ∀ tt, o = Sum.inr tt → (X12_frees_R90  Q   x2) tt) : Ws 2 mi_X12_frees Q 102 [some (vr 11 0), z1, some (vi x2), some (vi x3), some (vi x4), some (vi x5), some (vi x6), z7, z8, z9] [] σ := by
  unfold X12_frees_l102 at hE
  obtain ⟨t102, h1, hE⟩ := bnd hE
  refine iter_ok (P := (X12_frees_P102  Q σ  x2 x3 x4)) (R := (X12_frees_R102  Q σ  x2 x3 x4)) (fun ss o h2 hS hT => ?_) NF _ _ h1 ?_ _ _ _ _
  · intro z1 z7 z8 z9
    exact ok_X12_frees_l102c   h2 hS hT
  · intro z1 z6 z7 z8 z9
    show Ws 2 mi_X12_frees Q 127 [some (vr 11 0), z1, some (vi x2), some (vi x3), some (vi x4), some (vi t102), z6, z7, z8, z9] [] σ
    refine Wp.iconst dc_X12_frees_127 ic_0 ?_
    refine Wp.istore dc_X12_frees_128 (by decide) ?_
    refine Wp.iconst dc_X12_frees_130 ic_0 ?_
    refine Wp.istore dc_X12_frees_131 (by decide) ?_
    exact ok_X12_frees_l133   hE hS hT
theorem ok_X12_frees_l90c {Q : Option AV → AH → Prop}  {σ : SS}  {x2 : Int32} {x3 : Int32} {x4 : Int32} {o} {z1 z5 z6 z7 z8 z9 : Option AV}   (hE : X12_frees_l90c  σ  x2 x3 x4 = some o) (hS : ∀ ss, o = Sum.inl ss → (X12_frees_P90  Q   x2) ss) (hT : ∀ tt, o = Sum.inr tt → (X12_frees_R90  Q   x2) tt) : Ws 2 mi_X12_frees Q 90 [some (vr 11 0), z1, some (vi x2), some (vi x3), some (vi x4), z5, z6, z7, z8, z9] [] σ := by
  unfold X12_frees_l90c at hE
  refine Wp.iload dc_X12_frees_90 rfl ?_
  refine Wp.iload_n dc_X12_frees_92 rfl ?_
  refine Wp.icmp_gt (tgt := 295) dc_X12_frees_93 (by decide) (fun hc93 => ?_) (fun hc93 => ?_)
  · rw [if_pos hc93] at hE
    cases hE
    exact hT _ rfl _ _ _ _ _ _ _ _ _
  · rw [if_neg hc93] at hE
    refine Wp.iconst dc_X12_frees_96 ic_0 ?_
    refine Wp.istore dc_X12_frees_97 (by decide) ?_
    refine Wp.iconst dc_X12_frees_99 ic_0 ?_
    refine Wp.istore dc_X12_frees_100 (by decide) ?_
    exact ok_X12_frees_l102   hE hS hT
theorem ok_X12_frees_l90 {Q : Option AV → AH → Prop}  {σ : SS}  {x2 : Int32} {x3 : Int32} {x4 : Int32} {o} {z1 z5 z6 z7 z8 z9 : Option AV}   (hE : X12_frees_l90  σ  x2 x3 x4 = some o) (hK : Q (some (vi o.1)) (hp o.2)) : Ws 2 mi_X12_frees Q 90 [some (vr 11 0), z1, some (vi x2), some (vi x3), some (vi x4), z5, z6, z7, z8, z9] [] σ := by
  unfold X12_frees_l90 at hE
  obtain ⟨t90, h1, hE⟩ := bnd hE
  refine iter_ok (P := (X12_frees_P90  Q   x2)) (R := (X12_frees_R90  Q   x2)) (fun ss o h2 hS hT => ?_) NF _ _ h1 ?_ _ _ _ _ _ _
  · intro z1 z5 z6 z7 z8 z9
    exact ok_X12_frees_l90c   h2 hS hT
  · intro z0 z1 z2 z4 z5 z6 z7 z8 z9
    show Ws 2 mi_X12_frees Q 295 [z0, z1, z2, some (vi t90.1), z4, z5, z6, z7, z8, z9] [] t90.2
    refine Wp.iload_n dc_X12_frees_295 rfl ?_
    cases hE
    exact Wp.ireturn dc_X12_frees_296 rfl rfl (Nat.le_refl _) (Nat.le_refl _) hK
theorem ok_X12_frees_l29 {Q : Option AV → AH → Prop}  {σ : SS}  {x1 : Int32} {x2 : Int32} {x3 : Int32} {o} {z4 z5 z6 z7 z8 z9 : Option AV}   (hE : X12_frees_l29  σ  x1 x2 x3 = some o) (hK : Q (some (vi o.1)) (hp o.2)) : Ws 2 mi_X12_frees Q 29 [some (vr 11 0), some (vi x1), some (vi x2), some (vi x3), z4, z5, z6, z7, z8, z9] [] σ := by
  unfold X12_frees_l29 at hE
  obtain ⟨t29, h1, hE⟩ := bnd hE
  refine iter_ok (P := (X12_frees_P29  Q   x1 x2)) (R := (X12_frees_R29  Q   x1 x2)) (fun ss o h2 hS hT => ?_) NF _ _ h1 ?_ _ _ _ _ _ _
  · intro z4 z5 z6 z7 z8 z9
    exact ok_X12_frees_l29c   h2 hS hT
  · intro z1 z3 z4 z5 z6 z7 z8 z9
    show Ws 2 mi_X12_frees Q 85 [some (vr 11 0), z1, some (vi x2), z3, z4, z5, z6, z7, z8, z9] [] t29
    refine Wp.iconst dc_X12_frees_85 ic_m1 ?_
    refine Wp.istore_n dc_X12_frees_86 (by decide) ?_
    refine Wp.iconst dc_X12_frees_87 ic_0 ?_
    refine Wp.istore dc_X12_frees_88 (by decide) ?_
    exact ok_X12_frees_l90   hE hK
theorem ok_X12_frees_j0 {Q : Option AV → AH → Prop}  {σ : SS}  {x1 : Int32} {o} {z2 z3 z4 z5 z6 z7 z8 z9 : Option AV}   (hE : X12_frees_j0  σ  x1 = some o) (hK : Q (some (vi o.1)) (hp o.2)) : Ws 2 mi_X12_frees Q 0 [some (vr 11 0), some (vi x1), z2, z3, z4, z5, z6, z7, z8, z9] [] σ := by
  unfold X12_frees_j0 at hE
  refine Wp.aload_n dc_X12_frees_0 rfl ?_
  refine Wp.iload_n dc_X12_frees_1 rfl ?_
  obtain ⟨v2, h2, hE⟩ := bnd hE
  refine Wp.cV1i (ok_X12_crossings  h2) dc_X12_frees_2 mw_X12_314 (mO11 (by decide)) (by decide) (Nat.le_of_ble_eq_true rfl) ?_
  refine Wp.istore_n dc_X12_frees_5 (by decide) ?_
  refine Wp.aload_n dc_X12_frees_6 rfl ?_
  refine Wp.iconst dc_X12_frees_7 ic_0 ?_
  refine Wp.sputI dc_X12_frees_8 fw_X12_398 (mO11 (by decide)) (Nr.i _) ?_
  obtain ⟨σ8, es_8, hE⟩ := bnS hE
  rw [es_8]
  refine Wp.aload_n dc_X12_frees_11 rfl ?_
  refine Wp.iconst dc_X12_frees_12 ic_0 ?_
  refine Wp.sputI dc_X12_frees_13 fw_X12_401 (mO11 (by decide)) (Nr.i _) ?_
  obtain ⟨σ13, es_13, hE⟩ := bnS hE
  rw [es_13]
  refine Wp.aload_n dc_X12_frees_16 rfl ?_
  refine Wp.iconst dc_X12_frees_17 ic_0 ?_
  refine Wp.sputI dc_X12_frees_18 fw_X12_404 (mO11 (by decide)) (Nr.i _) ?_
  obtain ⟨σ18, es_18, hE⟩ := bnS hE
  rw [es_18]
  refine Wp.iload_n dc_X12_frees_21 rfl ?_
  refine Wp.if_ne (tgt := 27) dc_X12_frees_22 (by decide) (fun hc22 => ?_) (fun hc22 => ?_)
  · rw [if_neg hc22] at hE
    refine Wp.iconst dc_X12_frees_27 ic_0 ?_
    refine Wp.istore_n dc_X12_frees_28 (by decide) ?_
    exact ok_X12_frees_l29   hE hK
  · rw [if_pos hc22] at hE
    refine Wp.iconst dc_X12_frees_25 ic_0 ?_
    cases hE
    exact Wp.ireturn dc_X12_frees_26 rfl rfl (Nat.le_refl _) (Nat.le_refl _) hK
theorem ok_X12_frees  {σ : SS}  {x1 : Int32} {o}   (hE : X12_frees  σ  x1 = some o) : Runs 2 0 0 mi_X12_frees [vr 11 0, vi x1] (hp σ) (fun v h => v = some (vi o.1) ∧ h = hp o.2) := by
  refine Runs.of pn_X12 (Nat.le_of_ble_eq_true rfl) ?_
  exact ok_X12_frees_j0   hE ⟨rfl, rfl⟩
def X12_aloneOf_P4 (Q : Option AV → AH → Prop)   (x1 : Int32) (ss : Int32 × Int32 × SS) : Prop := ∀ z4 z5 : Option AV, Ws 3 mi_X12_aloneOf Q 4 [some (vr 11 0), some (vi x1), some (vi ss.1), some (vi ss.2.1), z4, z5] [] ss.2.2
def X12_aloneOf_R4 (Q : Option AV → AH → Prop)   (x1 : Int32) (tt : Int32 × SS) : Prop := ∀ z0 z1 z3 z4 z5 : Option AV, Ws 3 mi_X12_aloneOf Q 113 [z0, z1, some (vi tt.1), z3, z4, z5] [] tt.2
def X12_aloneOf_P19 (Q : Option AV → AH → Prop)   (x1 : Int32) (x2 : Int32) (x3 : Int32) (ss : Int32 × Int32 × SS) : Prop := Ws 3 mi_X12_aloneOf Q 19 [some (vr 11 0), some (vi x1), some (vi x2), some (vi x3), some (vi ss.1), some (vi ss.2.1)] [] ss.2.2
def X12_aloneOf_R19 (Q : Option AV → AH → Prop)   (x1 : Int32) (x2 : Int32) (x3 : Int32) (tt : Int32 × SS) : Prop := ∀ z5 : Option AV, Ws 3 mi_X12_aloneOf Q 40 [some (vr 11 0), some (vi x1), some (vi x2), some (vi x3), some (vi tt.1), z5] [] tt.2
theorem ok_X12_aloneOf_l19c {Q : Option AV → AH → Prop}  {σ : SS}  {x1 : Int32} {x2 : Int32} {x3 : Int32} {x4 : Int32} {x5 : Int32} {o}    (hE : X12_aloneOf_l19c  σ  x1 x2 x3 x4 x5 = some o) (hS : ∀ ss, o = Sum.inl ss → (X12_aloneOf_P19  Q   x1 x2 x3) ss) (hT : ∀ tt, o = Sum.inr tt → (X12_aloneOf_R19  Q   x1 x2 x3) tt) : Ws 3 mi_X12_aloneOf Q 19 [some (vr 11 0), some (vi x1), some (vi x2), some (vi x3), some (vi x4), some (vi x5)] [] σ := by
  unfold X12_aloneOf_l19c at hE
  refine Wp.iload dc_X12_aloneOf_19 rfl ?_
  refine Wp.iload_n dc_X12_aloneOf_21 rfl ?_
  refine Wp.icmp_ge (tgt := 40) dc_X12_aloneOf_22 (by decide) (fun hc22 => ?_) (fun hc22 => ?_)
  · rw [if_pos hc22] at hE
    cases hE
    exact hT _ rfl _
  · rw [if_neg hc22] at hE
    refine Wp.iload dc_X12_aloneOf_25 rfl ?_
    refine Wp.aload_n dc_X12_aloneOf_27 rfl ?_
    obtain ⟨p28, h28, hE⟩ := bnd hE
    refine Wp.cV0i (ok_X12_loosensOnce  h28) dc_X12_aloneOf_28 mw_X12_343 (mO11 (by decide)) (by decide) (Nat.le_of_ble_eq_true rfl) ?_
    refine Wp.iadd dc_X12_aloneOf_31 ?_
    obtain ⟨x4_32, e_32, hE⟩ := bnS hE
    rw [e_32]
    refine Wp.istore dc_X12_aloneOf_32 (by decide) ?_
    obtain ⟨x5_34, e_34, hE⟩ := bnS hE
    refine Wp.iinc dc_X12_aloneOf_34 rfl ((ii ic_1).trans e_34) (by decide) ?_
    refine Wp.goto (tgt := 19) dc_X12_aloneOf_37 (by decide) ?_
    cases hE
    exact hS _ rfl
theorem ok_X12_aloneOf_j107 {Q : Option AV → AH → Prop}  {σ : SS}  {x1 : Int32} {x2 : Int32} {x3 : Int32} {o} {z4 z5 : Option AV}   (hE : X12_aloneOf_j107  σ  x1 x2 x3 = some o) (hS : ∀ ss, o = Sum.inl ss → (X12_aloneOf_P4  Q   x1) ss) (hT : ∀ tt, o = Sum.inr tt → (X12_aloneOf_R4  Q   x1) tt) : Ws 3 mi_X12_aloneOf Q 107 [some (vr 11 0), some (vi x1), some (vi x2), some (vi x3), z4, z5] [] σ := by
  unfold X12_aloneOf_j107 at hE
  obtain ⟨x3_107, e_107, hE⟩ := bnS hE
  refine Wp.iinc dc_X12_aloneOf_107 rfl ((ii ic_1).trans e_107) (by decide) ?_
  refine Wp.goto (tgt := 4) dc_X12_aloneOf_110 (by decide) ?_
  cases hE
  exact hS _ rfl _ _
theorem ok_X12_aloneOf_j67 {Q : Option AV → AH → Prop}  {σ : SS}  {x1 : Int32} {x3 : Int32} {x4 : Int32} {o} {z2 z5 : Option AV}   (hE : X12_aloneOf_j67  σ  x1 x3 x4 = some o) (hS : ∀ ss, o = Sum.inl ss → (X12_aloneOf_P4  Q   x1) ss) (hT : ∀ tt, o = Sum.inr tt → (X12_aloneOf_R4  Q   x1) tt) : Ws 3 mi_X12_aloneOf Q 67 [some (vr 11 0), some (vi x1), z2, some (vi x3), some (vi x4), z5] [] σ := by
  unfold X12_aloneOf_j67 at hE
  refine Wp.iload dc_X12_aloneOf_67 rfl ?_
  refine Wp.istore_n dc_X12_aloneOf_69 (by decide) ?_
  refine Wp.aload_n dc_X12_aloneOf_70 rfl ?_
  refine Wp.sgetR (t := 38) dc_X12_aloneOf_71 fw_X12_50 (mO11 (by decide)) rfl ?_
  refine Wp.iconst dc_X12_aloneOf_74 ic_0 ?_
  refine Wp.iload_n dc_X12_aloneOf_75 rfl ?_
  obtain ⟨j76, h76, hE⟩ := bnd hE
  refine Wp.siast dc_X12_aloneOf_76 (mO13 (by decide)) h76 ?_
  obtain ⟨σ76, es_76, hE⟩ := bnS hE
  rw [es_76]
  refine Wp.aload_n dc_X12_aloneOf_77 rfl ?_
  refine Wp.sgetR (t := 38) dc_X12_aloneOf_78 fw_X12_50 (mO11 (by decide)) rfl ?_
  refine Wp.iconst dc_X12_aloneOf_81 ic_1 ?_
  refine Wp.aload_n dc_X12_aloneOf_82 rfl ?_
  refine Wp.sgetI dc_X12_aloneOf_83 fw_X12_398 (mO11 (by decide)) ?_
  obtain ⟨j86, h86, hE⟩ := bnd hE
  refine Wp.siast dc_X12_aloneOf_86 (mO13 (by decide)) h86 ?_
  obtain ⟨σ86, es_86, hE⟩ := bnS hE
  rw [es_86]
  refine Wp.aload_n dc_X12_aloneOf_87 rfl ?_
  refine Wp.sgetR (t := 38) dc_X12_aloneOf_88 fw_X12_50 (mO11 (by decide)) rfl ?_
  refine Wp.iconst dc_X12_aloneOf_91 ic_2 ?_
  refine Wp.aload_n dc_X12_aloneOf_92 rfl ?_
  refine Wp.sgetI dc_X12_aloneOf_93 fw_X12_401 (mO11 (by decide)) ?_
  obtain ⟨j96, h96, hE⟩ := bnd hE
  refine Wp.siast dc_X12_aloneOf_96 (mO13 (by decide)) h96 ?_
  obtain ⟨σ96, es_96, hE⟩ := bnS hE
  rw [es_96]
  refine Wp.aload_n dc_X12_aloneOf_97 rfl ?_
  refine Wp.sgetR (t := 38) dc_X12_aloneOf_98 fw_X12_50 (mO11 (by decide)) rfl ?_
  refine Wp.iconst dc_X12_aloneOf_101 ic_3 ?_
  refine Wp.aload_n dc_X12_aloneOf_102 rfl ?_
  refine Wp.sgetI dc_X12_aloneOf_103 fw_X12_404 (mO11 (by decide)) ?_
  obtain ⟨j106, h106, hE⟩ := bnd hE
  refine Wp.siast dc_X12_aloneOf_106 (mO13 (by decide)) h106 ?_
  obtain ⟨σ106, es_106, hE⟩ := bnS hE
  rw [es_106]
  exact ok_X12_aloneOf_j107   hE hS hT
theorem ok_X12_aloneOf_l19 {Q : Option AV → AH → Prop}  {σ : SS}  {x1 : Int32} {x2 : Int32} {x3 : Int32} {x4 : Int32} {x5 : Int32} {o}    (hE : X12_aloneOf_l19  σ  x1 x2 x3 x4 x5 = some o) (hS : ∀ ss, o = Sum.inl ss → (X12_aloneOf_P4  Q   x1) ss) (hT : ∀ tt, o = Sum.inr tt → (X12_aloneOf_R4  Q   x1) tt) : Ws 3 mi_X12_aloneOf Q 19 [some (vr 11 0), some (vi x1), some (vi x2), some (vi x3), some (vi x4), some (vi x5)] [] σ := by
  unfold X12_aloneOf_l19 at hE
  obtain ⟨t19, h1, hE⟩ := bnd hE
  refine iter_ok (P := (X12_aloneOf_P19  Q   x1 x2 x3)) (R := (X12_aloneOf_R19  Q   x1 x2 x3)) (fun ss o h2 hS hT => ?_) NF _ _ h1 ?_
  · skip
    exact ok_X12_aloneOf_l19c   h2 hS hT
  · intro z5
    show Ws 3 mi_X12_aloneOf Q 40 [some (vr 11 0), some (vi x1), some (vi x2), some (vi x3), some (vi t19.1), z5] [] t19.2
    refine Wp.iload dc_X12_aloneOf_40 rfl ?_
    refine Wp.aload_n dc_X12_aloneOf_42 rfl ?_
    refine Wp.iload_n dc_X12_aloneOf_43 rfl ?_
    obtain ⟨p44, h44, hE⟩ := bnd hE
    refine Wp.cV1i (ok_X12_frees  h44) dc_X12_aloneOf_44 mw_X12_410 (mO11 (by decide)) (by decide) (Nat.le_of_ble_eq_true rfl) ?_
    refine Wp.iadd dc_X12_aloneOf_47 ?_
    obtain ⟨x4_48, e_48, hE⟩ := bnS hE
    rw [e_48]
    refine Wp.istore dc_X12_aloneOf_48 (by decide) ?_
    refine Wp.aload_n dc_X12_aloneOf_50 rfl ?_
    obtain ⟨σ51, h51, hE⟩ := bnd hE
    refine Wp.cV0v (ok_X12_gives  h51) dc_X12_aloneOf_51 mw_X12_395 (mO11 (by decide)) (by decide) (Nat.le_of_ble_eq_true rfl) ?_
    refine Wp.iload_n dc_X12_aloneOf_54 rfl ?_
    refine Wp.if_lt (tgt := 67) dc_X12_aloneOf_55 (by decide) (fun hc55 => ?_) (fun hc55 => ?_)
    · rw [if_pos hc55] at hE
      exact ok_X12_aloneOf_j67   hE hS hT
    · rw [if_neg hc55] at hE
      refine Wp.iload dc_X12_aloneOf_58 rfl ?_
      refine Wp.iload_n dc_X12_aloneOf_60 rfl ?_
      refine Wp.icmp_lt (tgt := 67) dc_X12_aloneOf_61 (by decide) (fun hc61 => ?_) (fun hc61 => ?_)
      · rw [if_pos hc61] at hE
        exact ok_X12_aloneOf_j67   hE hS hT
      · rw [if_neg hc61] at hE
        refine Wp.goto (tgt := 107) dc_X12_aloneOf_64 (by decide) ?_
        exact ok_X12_aloneOf_j107   hE hS hT
theorem ok_X12_aloneOf_l4c {Q : Option AV → AH → Prop}  {σ : SS}  {x1 : Int32} {x2 : Int32} {x3 : Int32} {o} {z4 z5 : Option AV}   (hE : X12_aloneOf_l4c  σ  x1 x2 x3 = some o) (hS : ∀ ss, o = Sum.inl ss → (X12_aloneOf_P4  Q   x1) ss) (hT : ∀ tt, o = Sum.inr tt → (X12_aloneOf_R4  Q   x1) tt) : Ws 3 mi_X12_aloneOf Q 4 [some (vr 11 0), some (vi x1), some (vi x2), some (vi x3), z4, z5] [] σ := by
  unfold X12_aloneOf_l4c at hE
  refine Wp.iload_n dc_X12_aloneOf_4 rfl ?_
  refine Wp.iconst dc_X12_aloneOf_5 ic_4 ?_
  refine Wp.icmp_ge (tgt := 113) dc_X12_aloneOf_6 (by decide) (fun hc6 => ?_) (fun hc6 => ?_)
  · rw [if_pos hc6] at hE
    cases hE
    exact hT _ rfl _ _ _ _ _
  · rw [if_neg hc6] at hE
    refine Wp.aload_n dc_X12_aloneOf_9 rfl ?_
    obtain ⟨σ10, h10, hE⟩ := bnd hE
    refine Wp.cV0v (ok_X12_keeps  h10) dc_X12_aloneOf_10 mw_X12_392 (mO11 (by decide)) (by decide) (Nat.le_of_ble_eq_true rfl) ?_
    refine Wp.iconst dc_X12_aloneOf_13 ic_0 ?_
    refine Wp.istore dc_X12_aloneOf_14 (by decide) ?_
    refine Wp.iconst dc_X12_aloneOf_16 ic_0 ?_
    refine Wp.istore dc_X12_aloneOf_17 (by decide) ?_
    exact ok_X12_aloneOf_l19   hE hS hT
theorem ok_X12_aloneOf_l4 {Q : Option AV → AH → Prop}  {σ : SS}  {x1 : Int32} {x2 : Int32} {x3 : Int32} {o} {z4 z5 : Option AV}   (hE : X12_aloneOf_l4  σ  x1 x2 x3 = some o) (hK : Q (some (vi o.1)) (hp o.2)) : Ws 3 mi_X12_aloneOf Q 4 [some (vr 11 0), some (vi x1), some (vi x2), some (vi x3), z4, z5] [] σ := by
  unfold X12_aloneOf_l4 at hE
  obtain ⟨t4, h1, hE⟩ := bnd hE
  refine iter_ok (P := (X12_aloneOf_P4  Q   x1)) (R := (X12_aloneOf_R4  Q   x1)) (fun ss o h2 hS hT => ?_) NF _ _ h1 ?_ _ _
  · intro z4 z5
    exact ok_X12_aloneOf_l4c   h2 hS hT
  · intro z0 z1 z3 z4 z5
    show Ws 3 mi_X12_aloneOf Q 113 [z0, z1, some (vi t4.1), z3, z4, z5] [] t4.2
    refine Wp.iload_n dc_X12_aloneOf_113 rfl ?_
    cases hE
    exact Wp.ireturn dc_X12_aloneOf_114 rfl rfl (Nat.le_refl _) (Nat.le_refl _) hK
theorem ok_X12_aloneOf_j0 {Q : Option AV → AH → Prop}  {σ : SS}  {x1 : Int32} {o} {z2 z3 z4 z5 : Option AV}   (hE : X12_aloneOf_j0  σ  x1 = some o) (hK : Q (some (vi o.1)) (hp o.2)) : Ws 3 mi_X12_aloneOf Q 0 [some (vr 11 0), some (vi x1), z2, z3, z4, z5] [] σ := by
  unfold X12_aloneOf_j0 at hE
  refine Wp.iconst dc_X12_aloneOf_0 ic_m1 ?_
  refine Wp.istore_n dc_X12_aloneOf_1 (by decide) ?_
  refine Wp.iconst dc_X12_aloneOf_2 ic_0 ?_
  refine Wp.istore_n dc_X12_aloneOf_3 (by decide) ?_
  exact ok_X12_aloneOf_l4   hE hK
theorem ok_X12_aloneOf  {σ : SS}  {x1 : Int32} {o}   (hE : X12_aloneOf  σ  x1 = some o) : Runs 3 0 0 mi_X12_aloneOf [vr 11 0, vi x1] (hp σ) (fun v h => v = some (vi o.1) ∧ h = hp o.2) := by
  refine Runs.of pn_X12 (Nat.le_of_ble_eq_true rfl) ?_
  exact ok_X12_aloneOf_j0   hE ⟨rfl, rfl⟩
def X12_alone_P47 (Q : Option AV → AH → Prop)   (x2 : Int32) (ss : Int32 × SS) : Prop := ∀ z1 : Option AV, Ws 4 mi_X12_alone Q 47 [some (vr 11 0), z1, some (vi x2), some (vi ss.1)] [] ss.2
def X12_alone_R47 (Q : Option AV → AH → Prop)   (x2 : Int32) (tt : SS) : Prop := ∀ z1 z3 : Option AV, Ws 4 mi_X12_alone Q 70 [some (vr 11 0), z1, some (vi x2), z3] [] tt
theorem ok_X12_alone_l47c {Q : Option AV → AH → Prop}  {σ : SS}  {x2 : Int32} {x3 : Int32} {o} {z1 : Option AV}   (hE : X12_alone_l47c  σ  x2 x3 = some o) (hS : ∀ ss, o = Sum.inl ss → (X12_alone_P47  Q   x2) ss) (hT : ∀ tt, o = Sum.inr tt → (X12_alone_R47  Q   x2) tt) : Ws 4 mi_X12_alone Q 47 [some (vr 11 0), z1, some (vi x2), some (vi x3)] [] σ := by
  unfold X12_alone_l47c at hE
  refine Wp.iload_n dc_X12_alone_47 rfl ?_
  refine Wp.iconst dc_X12_alone_48 ic_4 ?_
  refine Wp.icmp_ge (tgt := 70) dc_X12_alone_49 (by decide) (fun hc49 => ?_) (fun hc49 => ?_)
  · rw [if_pos hc49] at hE
    cases hE
    exact hT _ rfl _ _
  · rw [if_neg hc49] at hE
    refine Wp.aload_n dc_X12_alone_52 rfl ?_
    refine Wp.sgetR (t := 39) dc_X12_alone_53 fw_X12_53 (mO11 (by decide)) rfl ?_
    refine Wp.iload_n dc_X12_alone_56 rfl ?_
    refine Wp.aload_n dc_X12_alone_57 rfl ?_
    refine Wp.sgetR (t := 38) dc_X12_alone_58 fw_X12_50 (mO11 (by decide)) rfl ?_
    refine Wp.iload_n dc_X12_alone_61 rfl ?_
    obtain ⟨j62, h62, hE⟩ := bnd hE
    refine Wp.siald dc_X12_alone_62 (mO13 (by decide)) h62 ?_
    obtain ⟨j63, h63, hE⟩ := bnd hE
    refine Wp.siast dc_X12_alone_63 (mO13 (by decide)) h63 ?_
    obtain ⟨σ63, es_63, hE⟩ := bnS hE
    rw [es_63]
    obtain ⟨x3_64, e_64, hE⟩ := bnS hE
    refine Wp.iinc dc_X12_alone_64 rfl ((ii ic_1).trans e_64) (by decide) ?_
    refine Wp.goto (tgt := 47) dc_X12_alone_67 (by decide) ?_
    cases hE
    exact hS _ rfl _
theorem ok_X12_alone_l47 {Q : Option AV → AH → Prop}  {σ : SS}  {x2 : Int32} {x3 : Int32} {o} {z1 : Option AV}   (hE : X12_alone_l47  σ  x2 x3 = some o) (hK : Q (some (vi o.1)) (hp o.2)) : Ws 4 mi_X12_alone Q 47 [some (vr 11 0), z1, some (vi x2), some (vi x3)] [] σ := by
  unfold X12_alone_l47 at hE
  obtain ⟨t47, h1, hE⟩ := bnd hE
  refine iter_ok (P := (X12_alone_P47  Q   x2)) (R := (X12_alone_R47  Q   x2)) (fun ss o h2 hS hT => ?_) NF _ _ h1 ?_ _
  · intro z1
    exact ok_X12_alone_l47c   h2 hS hT
  · intro z1 z3
    show Ws 4 mi_X12_alone Q 70 [some (vr 11 0), z1, some (vi x2), z3] [] t47
    refine Wp.aload_n dc_X12_alone_70 rfl ?_
    refine Wp.iconst dc_X12_alone_71 ic_1 ?_
    refine Wp.sputI dc_X12_alone_72 fw_X12_416 (mO11 (by decide)) Nr.z1 ?_
    obtain ⟨σ72, es_72, hE⟩ := bnS hE
    rw [es_72]
    refine Wp.iload_n dc_X12_alone_75 rfl ?_
    cases hE
    exact Wp.ireturn dc_X12_alone_76 rfl rfl (Nat.le_refl _) (Nat.le_refl _) hK
theorem ok_X12_alone_j0 {Q : Option AV → AH → Prop}  {σ : SS}  {x1 : Int32} {o} {z2 z3 : Option AV}   (hE : X12_alone_j0  σ  x1 = some o) (hK : Q (some (vi o.1)) (hp o.2)) : Ws 4 mi_X12_alone Q 0 [some (vr 11 0), some (vi x1), z2, z3] [] σ := by
  unfold X12_alone_j0 at hE
  refine Wp.aload_n dc_X12_alone_0 rfl ?_
  refine Wp.iconst dc_X12_alone_1 ic_0 ?_
  refine Wp.sputI dc_X12_alone_2 fw_X12_77 (mO11 (by decide)) (Nr.i _) ?_
  obtain ⟨σ2, es_2, hE⟩ := bnS hE
  rw [es_2]
  refine Wp.aload_n dc_X12_alone_5 rfl ?_
  refine Wp.iconst dc_X12_alone_6 ic_0 ?_
  refine Wp.sputI dc_X12_alone_7 fw_X12_80 (mO11 (by decide)) (Nr.i _) ?_
  obtain ⟨σ7, es_7, hE⟩ := bnS hE
  rw [es_7]
  refine Wp.aload_n dc_X12_alone_10 rfl ?_
  refine Wp.iload_n dc_X12_alone_11 rfl ?_
  obtain ⟨v12, h12, hE⟩ := bnd hE
  refine Wp.cV1i (ok_X12_isLeadAt  h12) dc_X12_alone_12 mw_X12_311 (mO11 (by decide)) (by decide) (Nat.le_of_ble_eq_true rfl) ?_
  refine Wp.if_ne (tgt := 24) dc_X12_alone_15 (by decide) (fun hc15 => ?_) (fun hc15 => ?_)
  · rw [if_neg hc15] at hE
    refine Wp.aload_n dc_X12_alone_24 rfl ?_
    refine Wp.iload_n dc_X12_alone_25 rfl ?_
    obtain ⟨v26, h26, hE⟩ := bnd hE
    refine Wp.cV1i (ok_X12_isInside  h26) dc_X12_alone_26 mw_X12_337 (mO11 (by decide)) (by decide) (Nat.le_of_ble_eq_true rfl) ?_
    refine Wp.if_ne (tgt := 39) dc_X12_alone_29 (by decide) (fun hc29 => ?_) (fun hc29 => ?_)
    · rw [if_neg hc29] at hE
      refine Wp.aload_n dc_X12_alone_39 rfl ?_
      refine Wp.iload_n dc_X12_alone_40 rfl ?_
      obtain ⟨p41, h41, hE⟩ := bnd hE
      refine Wp.cV1i (ok_X12_aloneOf  h41) dc_X12_alone_41 mw_X12_413 (mO11 (by decide)) (by decide) (Nat.le_of_ble_eq_true rfl) ?_
      refine Wp.istore_n dc_X12_alone_44 (by decide) ?_
      refine Wp.iconst dc_X12_alone_45 ic_0 ?_
      refine Wp.istore_n dc_X12_alone_46 (by decide) ?_
      exact ok_X12_alone_l47   hE hK
    · rw [if_pos hc29] at hE
      refine Wp.aload_n dc_X12_alone_32 rfl ?_
      refine Wp.bipush dc_X12_alone_33 bp_9 ?_
      obtain ⟨p35, h35, hE⟩ := bnd hE
      refine Wp.cV1i (ok_X12_refuse  h35) dc_X12_alone_35 mw_X12_308 (mO11 (by decide)) (by decide) (Nat.le_of_ble_eq_true rfl) ?_
      cases hE
      exact Wp.ireturn dc_X12_alone_38 rfl rfl (Nat.le_refl _) (Nat.le_refl _) hK
  · rw [if_pos hc15] at hE
    refine Wp.aload_n dc_X12_alone_18 rfl ?_
    refine Wp.iconst dc_X12_alone_19 ic_2 ?_
    obtain ⟨p20, h20, hE⟩ := bnd hE
    refine Wp.cV1i (ok_X12_refuse  h20) dc_X12_alone_20 mw_X12_308 (mO11 (by decide)) (by decide) (Nat.le_of_ble_eq_true rfl) ?_
    cases hE
    exact Wp.ireturn dc_X12_alone_23 rfl rfl (Nat.le_refl _) (Nat.le_refl _) hK
theorem ok_X12_alone  {σ : SS}  {x1 : Int32} {o}   (hE : X12_alone  σ  x1 = some o) : Runs 4 0 0 mi_X12_alone [vr 11 0, vi x1] (hp σ) (fun v h => v = some (vi o.1) ∧ h = hp o.2) := by
  refine Runs.of pn_X12 (Nat.le_of_ble_eq_true rfl) ?_
  exact ok_X12_alone_j0   hE ⟨rfl, rfl⟩
theorem ok_X12_way_j0 {Q : Option AV → AH → Prop}  {σ : SS}  {x1 : Int32} {o}    (hE : X12_way_j0  σ  x1 = some o) (hK : Q (some (vi o.1)) (hp o.2)) : Ws 1 mi_X12_way Q 0 [some (vr 11 0), some (vi x1)] [] σ := by
  unfold X12_way_j0 at hE
  refine Wp.aload_n dc_X12_way_0 rfl ?_
  refine Wp.iconst dc_X12_way_1 ic_0 ?_
  refine Wp.sputI dc_X12_way_2 fw_X12_77 (mO11 (by decide)) (Nr.i _) ?_
  obtain ⟨σ2, es_2, hE⟩ := bnS hE
  rw [es_2]
  refine Wp.aload_n dc_X12_way_5 rfl ?_
  refine Wp.iconst dc_X12_way_6 ic_0 ?_
  refine Wp.sputI dc_X12_way_7 fw_X12_80 (mO11 (by decide)) (Nr.i _) ?_
  obtain ⟨σ7, es_7, hE⟩ := bnS hE
  rw [es_7]
  refine Wp.iload_n dc_X12_way_10 rfl ?_
  refine Wp.i2l dc_X12_way_11 ?_
  refine Wp.lconst dc_X12_way_12 lc_0 ?_
  refine Wp.ldc2 dc_X12_way_13 kw_X12_110 ?_
  obtain ⟨v16, h16, hE⟩ := bnd hE
  refine Wp.cS3i (ok_X12_isIn  h16) dc_X12_way_16 mw_X12_112 (by decide) (Nat.le_of_ble_eq_true rfl) ?_
  refine Wp.if_ne (tgt := 28) dc_X12_way_19 (by decide) (fun hc19 => ?_) (fun hc19 => ?_)
  · rw [if_neg hc19] at hE
    refine Wp.aload_n dc_X12_way_28 rfl ?_
    refine Wp.sgetI dc_X12_way_29 fw_X12_416 (mO11 (by decide)) ?_
    refine Wp.if_eq (tgt := 44) dc_X12_way_32 (by decide) (fun hc32 => ?_) (fun hc32 => ?_)
    · rw [if_pos hc32] at hE
      refine Wp.aload_n dc_X12_way_44 rfl ?_
      refine Wp.bipush dc_X12_way_45 bp_8 ?_
      obtain ⟨p47, h47, hE⟩ := bnd hE
      refine Wp.cV1i (ok_X12_refuse  h47) dc_X12_way_47 mw_X12_308 (mO11 (by decide)) (by decide) (Nat.le_of_ble_eq_true rfl) ?_
      cases hE
      exact Wp.ireturn dc_X12_way_50 rfl rfl (Nat.le_refl _) (Nat.le_refl _) hK
    · rw [if_neg hc32] at hE
      refine Wp.aload_n dc_X12_way_35 rfl ?_
      refine Wp.sgetR (t := 39) dc_X12_way_36 fw_X12_53 (mO11 (by decide)) rfl ?_
      refine Wp.iload_n dc_X12_way_39 rfl ?_
      obtain ⟨j40, h40, hE⟩ := bnd hE
      refine Wp.siald dc_X12_way_40 (mO13 (by decide)) h40 ?_
      refine Wp.goto (tgt := 50) dc_X12_way_41 (by decide) ?_
      cases hE
      exact Wp.ireturn dc_X12_way_50 rfl rfl (Nat.le_refl _) (Nat.le_refl _) hK
  · rw [if_pos hc19] at hE
    refine Wp.aload_n dc_X12_way_22 rfl ?_
    refine Wp.iconst dc_X12_way_23 ic_5 ?_
    obtain ⟨p24, h24, hE⟩ := bnd hE
    refine Wp.cV1i (ok_X12_refuse  h24) dc_X12_way_24 mw_X12_308 (mO11 (by decide)) (by decide) (Nat.le_of_ble_eq_true rfl) ?_
    cases hE
    exact Wp.ireturn dc_X12_way_27 rfl rfl (Nat.le_refl _) (Nat.le_refl _) hK
theorem ok_X12_way  {σ : SS}  {x1 : Int32} {o}   (hE : X12_way  σ  x1 = some o) : Runs 1 0 0 mi_X12_way [vr 11 0, vi x1] (hp σ) (fun v h => v = some (vi o.1) ∧ h = hp o.2) := by
  refine Runs.of pn_X12 (Nat.le_of_ble_eq_true rfl) ?_
  exact ok_X12_way_j0   hE ⟨rfl, rfl⟩
theorem ok_X12_follows_j68 {Q : Option AV → AH → Prop}  {σ : SS}   {o} {z1 z2 z3 z4 z5 z6 : Option AV}   (hE : X12_follows_j68  σ   = some o) (hK : Q (some (vi o.1)) (hp o.2)) : Ws 2 mi_X12_follows Q 68 [some (vr 11 0), z1, z2, z3, z4, z5, z6] [] σ := by
  unfold X12_follows_j68 at hE
  refine Wp.aload_n dc_X12_follows_68 rfl ?_
  refine Wp.iconst dc_X12_follows_69 ic_5 ?_
  obtain ⟨p70, h70, hE⟩ := bnd hE
  refine Wp.cV1i (ok_X12_refuse  h70) dc_X12_follows_70 mw_X12_308 (mO11 (by decide)) (by decide) (Nat.le_of_ble_eq_true rfl) ?_
  cases hE
  exact Wp.ireturn dc_X12_follows_73 rfl rfl (Nat.le_refl _) (Nat.le_refl _) hK
def X12_follows_P80 (Q : Option AV → AH → Prop) (σ : SS)  (x1 : Int32) (x2 : Int32) (x3 : Int32) (x4 : Int32) (ss : Int32 × Int32) : Prop := Ws 2 mi_X12_follows Q 80 [some (vr 11 0), some (vi x1), some (vi x2), some (vi x3), some (vi x4), some (vi ss.1), some (vi ss.2)] [] σ
def X12_follows_R80 (Q : Option AV → AH → Prop) (σ : SS)  (x1 : Int32) (x2 : Int32) (x3 : Int32) (x4 : Int32) (tt : Int32) : Prop := ∀ z2 z6 : Option AV, Ws 2 mi_X12_follows Q 109 [some (vr 11 0), some (vi x1), z2, some (vi x3), some (vi x4), some (vi tt), z6] [] σ
theorem ok_X12_follows_l80c {Q : Option AV → AH → Prop}  {σ : SS}  {x1 : Int32} {x2 : Int32} {x3 : Int32} {x4 : Int32} {x5 : Int32} {x6 : Int32} {o}    (hE : X12_follows_l80c  σ  x1 x2 x3 x4 x5 x6 = some o) (hS : ∀ ss, o = Sum.inl ss → (X12_follows_P80  Q σ  x1 x2 x3 x4) ss) (hT : ∀ tt, o = Sum.inr tt → (X12_follows_R80  Q σ  x1 x2 x3 x4) tt) : Ws 2 mi_X12_follows Q 80 [some (vr 11 0), some (vi x1), some (vi x2), some (vi x3), some (vi x4), some (vi x5), some (vi x6)] [] σ := by
  unfold X12_follows_l80c at hE
  refine Wp.iload dc_X12_follows_80 rfl ?_
  refine Wp.iload_n dc_X12_follows_82 rfl ?_
  refine Wp.icmp_ge (tgt := 109) dc_X12_follows_83 (by decide) (fun hc83 => ?_) (fun hc83 => ?_)
  · rw [if_pos hc83] at hE
    cases hE
    exact hT _ rfl _ _
  · rw [if_neg hc83] at hE
    refine Wp.iload dc_X12_follows_86 rfl ?_
    refine Wp.aload_n dc_X12_follows_88 rfl ?_
    refine Wp.aload_n dc_X12_follows_89 rfl ?_
    refine Wp.iload_n dc_X12_follows_90 rfl ?_
    refine Wp.iload dc_X12_follows_91 rfl ?_
    obtain ⟨v93, h93, hE⟩ := bnd hE
    refine Wp.cV2i (ok_X12_alongOf  h93) dc_X12_follows_93 mw_X12_407 (mO11 (by decide)) (by decide) (Nat.le_of_ble_eq_true rfl) ?_
    refine Wp.iload_n dc_X12_follows_96 rfl ?_
    obtain ⟨v97, h97, hE⟩ := bnd hE
    refine Wp.cV2i (ok_X12_costOf  h97) dc_X12_follows_97 mw_X12_334 (mO11 (by decide)) (by decide) (Nat.le_of_ble_eq_true rfl) ?_
    refine Wp.iadd dc_X12_follows_100 ?_
    obtain ⟨x5_101, e_101, hE⟩ := bnS hE
    rw [e_101]
    refine Wp.istore dc_X12_follows_101 (by decide) ?_
    obtain ⟨x6_103, e_103, hE⟩ := bnS hE
    refine Wp.iinc dc_X12_follows_103 rfl ((ii ic_1).trans e_103) (by decide) ?_
    refine Wp.goto (tgt := 80) dc_X12_follows_106 (by decide) ?_
    cases hE
    exact hS _ rfl
def X12_follows_P112 (Q : Option AV → AH → Prop) (σ : SS)  (x1 : Int32) (x3 : Int32) (x4 : Int32) (ss : Int32 × Int32) : Prop := ∀ z2 : Option AV, Ws 2 mi_X12_follows Q 112 [some (vr 11 0), some (vi x1), z2, some (vi x3), some (vi x4), some (vi ss.1), some (vi ss.2)] [] σ
def X12_follows_R112 (Q : Option AV → AH → Prop) (σ : SS)  (x1 : Int32) (x3 : Int32) (x4 : Int32) (tt : Int32) : Prop := ∀ z0 z1 z2 z3 z4 z6 : Option AV, Ws 2 mi_X12_follows Q 146 [z0, z1, z2, z3, z4, some (vi tt), z6] [] σ
theorem ok_X12_follows_l112c {Q : Option AV → AH → Prop}  {σ : SS}  {x1 : Int32} {x3 : Int32} {x4 : Int32} {x5 : Int32} {x6 : Int32} {o} {z2 : Option AV}   (hE : X12_follows_l112c  σ  x1 x3 x4 x5 x6 = some o) (hS : ∀ ss, o = Sum.inl ss → (X12_follows_P112  Q σ  x1 x3 x4) ss) (hT : ∀ tt, o = Sum.inr tt → (X12_follows_R112  Q σ  x1 x3 x4) tt) : Ws 2 mi_X12_follows Q 112 [some (vr 11 0), some (vi x1), z2, some (vi x3), some (vi x4), some (vi x5), some (vi x6)] [] σ := by
  unfold X12_follows_l112c at hE
  refine Wp.iload dc_X12_follows_112 rfl ?_
  refine Wp.iload_n dc_X12_follows_114 rfl ?_
  refine Wp.icmp_ge (tgt := 146) dc_X12_follows_115 (by decide) (fun hc115 => ?_) (fun hc115 => ?_)
  · rw [if_pos hc115] at hE
    cases hE
    exact hT _ rfl _ _ _ _ _ _
  · rw [if_neg hc115] at hE
    refine Wp.iload dc_X12_follows_118 rfl ?_
    refine Wp.aload_n dc_X12_follows_120 rfl ?_
    refine Wp.aload_n dc_X12_follows_121 rfl ?_
    refine Wp.iload_n dc_X12_follows_122 rfl ?_
    refine Wp.iload dc_X12_follows_123 rfl ?_
    refine Wp.iconst dc_X12_follows_125 ic_1 ?_
    refine Wp.isub dc_X12_follows_126 ?_
    refine Wp.iload dc_X12_follows_127 rfl ?_
    refine Wp.isub dc_X12_follows_129 ?_
    obtain ⟨v130, h130, hE⟩ := bnd hE
    refine Wp.cV2i (ok_X12_alongOf  h130) dc_X12_follows_130 mw_X12_407 (mO11 (by decide)) (by decide) (Nat.le_of_ble_eq_true rfl) ?_
    refine Wp.iload_n dc_X12_follows_133 rfl ?_
    obtain ⟨v134, h134, hE⟩ := bnd hE
    refine Wp.cV2i (ok_X12_costOf  h134) dc_X12_follows_134 mw_X12_334 (mO11 (by decide)) (by decide) (Nat.le_of_ble_eq_true rfl) ?_
    refine Wp.iadd dc_X12_follows_137 ?_
    obtain ⟨x5_138, e_138, hE⟩ := bnS hE
    rw [e_138]
    refine Wp.istore dc_X12_follows_138 (by decide) ?_
    obtain ⟨x6_140, e_140, hE⟩ := bnS hE
    refine Wp.iinc dc_X12_follows_140 rfl ((ii ic_1).trans e_140) (by decide) ?_
    refine Wp.goto (tgt := 112) dc_X12_follows_143 (by decide) ?_
    cases hE
    exact hS _ rfl _
theorem ok_X12_follows_l112 {Q : Option AV → AH → Prop}  {σ : SS}  {x1 : Int32} {x3 : Int32} {x4 : Int32} {x5 : Int32} {x6 : Int32} {o} {z2 : Option AV}   (hE : X12_follows_l112  σ  x1 x3 x4 x5 x6 = some o) (hK : Q (some (vi o.1)) (hp o.2)) : Ws 2 mi_X12_follows Q 112 [some (vr 11 0), some (vi x1), z2, some (vi x3), some (vi x4), some (vi x5), some (vi x6)] [] σ := by
  unfold X12_follows_l112 at hE
  obtain ⟨t112, h1, hE⟩ := bnd hE
  refine iter_ok (P := (X12_follows_P112  Q σ  x1 x3 x4)) (R := (X12_follows_R112  Q σ  x1 x3 x4)) (fun ss o h2 hS hT => ?_) NF _ _ h1 ?_ _
  · intro z2
    exact ok_X12_follows_l112c   h2 hS hT
  · intro z0 z1 z2 z3 z4 z6
    show Ws 2 mi_X12_follows Q 146 [z0, z1, z2, z3, z4, some (vi t112), z6] [] σ
    refine Wp.iload dc_X12_follows_146 rfl ?_
    cases hE
    exact Wp.ireturn dc_X12_follows_148 rfl rfl (Nat.le_refl _) (Nat.le_refl _) hK
theorem ok_X12_follows_l80 {Q : Option AV → AH → Prop}  {σ : SS}  {x1 : Int32} {x2 : Int32} {x3 : Int32} {x4 : Int32} {x5 : Int32} {x6 : Int32} {o}    (hE : X12_follows_l80  σ  x1 x2 x3 x4 x5 x6 = some o) (hK : Q (some (vi o.1)) (hp o.2)) : Ws 2 mi_X12_follows Q 80 [some (vr 11 0), some (vi x1), some (vi x2), some (vi x3), some (vi x4), some (vi x5), some (vi x6)] [] σ := by
  unfold X12_follows_l80 at hE
  obtain ⟨t80, h1, hE⟩ := bnd hE
  refine iter_ok (P := (X12_follows_P80  Q σ  x1 x2 x3 x4)) (R := (X12_follows_R80  Q σ  x1 x2 x3 x4)) (fun ss o h2 hS hT => ?_) NF _ _ h1 ?_
  · skip
    exact ok_X12_follows_l80c   h2 hS hT
  · intro z2 z6
    show Ws 2 mi_X12_follows Q 109 [some (vr 11 0), some (vi x1), z2, some (vi x3), some (vi x4), some (vi t80), z6] [] σ
    refine Wp.iconst dc_X12_follows_109 ic_0 ?_
    refine Wp.istore dc_X12_follows_110 (by decide) ?_
    exact ok_X12_follows_l112   hE hK
theorem ok_X12_follows_j0 {Q : Option AV → AH → Prop}  {σ : SS}  {x1 : Int32} {x2 : Int32} {x3 : Int32} {o} {z4 z5 z6 : Option AV}   (hE : X12_follows_j0  σ  x1 x2 x3 = some o) (hK : Q (some (vi o.1)) (hp o.2)) : Ws 2 mi_X12_follows Q 0 [some (vr 11 0), some (vi x1), some (vi x2), some (vi x3), z4, z5, z6] [] σ := by
  unfold X12_follows_j0 at hE
  refine Wp.aload_n dc_X12_follows_0 rfl ?_
  refine Wp.iconst dc_X12_follows_1 ic_0 ?_
  refine Wp.sputI dc_X12_follows_2 fw_X12_77 (mO11 (by decide)) (Nr.i _) ?_
  obtain ⟨σ2, es_2, hE⟩ := bnS hE
  rw [es_2]
  refine Wp.aload_n dc_X12_follows_5 rfl ?_
  refine Wp.iconst dc_X12_follows_6 ic_0 ?_
  refine Wp.sputI dc_X12_follows_7 fw_X12_80 (mO11 (by decide)) (Nr.i _) ?_
  obtain ⟨σ7, es_7, hE⟩ := bnS hE
  rw [es_7]
  refine Wp.aload_n dc_X12_follows_10 rfl ?_
  refine Wp.iload_n dc_X12_follows_11 rfl ?_
  obtain ⟨v12, h12, hE⟩ := bnd hE
  refine Wp.cV1i (ok_X12_isLeadAt  h12) dc_X12_follows_12 mw_X12_311 (mO11 (by decide)) (by decide) (Nat.le_of_ble_eq_true rfl) ?_
  refine Wp.if_ne (tgt := 24) dc_X12_follows_15 (by decide) (fun hc15 => ?_) (fun hc15 => ?_)
  · rw [if_neg hc15] at hE
    refine Wp.aload_n dc_X12_follows_24 rfl ?_
    refine Wp.iload_n dc_X12_follows_25 rfl ?_
    obtain ⟨v26, h26, hE⟩ := bnd hE
    refine Wp.cV1i (ok_X12_isInside  h26) dc_X12_follows_26 mw_X12_337 (mO11 (by decide)) (by decide) (Nat.le_of_ble_eq_true rfl) ?_
    refine Wp.if_ne (tgt := 39) dc_X12_follows_29 (by decide) (fun hc29 => ?_) (fun hc29 => ?_)
    · rw [if_neg hc29] at hE
      refine Wp.aload_n dc_X12_follows_39 rfl ?_
      refine Wp.iload_n dc_X12_follows_40 rfl ?_
      obtain ⟨v41, h41, hE⟩ := bnd hE
      refine Wp.cV1i (ok_X12_crossings  h41) dc_X12_follows_41 mw_X12_314 (mO11 (by decide)) (by decide) (Nat.le_of_ble_eq_true rfl) ?_
      refine Wp.istore dc_X12_follows_44 (by decide) ?_
      refine Wp.iload_n dc_X12_follows_46 rfl ?_
      refine Wp.if_lt (tgt := 68) dc_X12_follows_47 (by decide) (fun hc47 => ?_) (fun hc47 => ?_)
      · rw [if_pos hc47] at hE
        exact ok_X12_follows_j68   hE hK
      · rw [if_neg hc47] at hE
        refine Wp.iload_n dc_X12_follows_50 rfl ?_
        refine Wp.if_lt (tgt := 68) dc_X12_follows_51 (by decide) (fun hc51 => ?_) (fun hc51 => ?_)
        · rw [if_pos hc51] at hE
          exact ok_X12_follows_j68   hE hK
        · rw [if_neg hc51] at hE
          refine Wp.iload_n dc_X12_follows_54 rfl ?_
          refine Wp.iload dc_X12_follows_55 rfl ?_
          refine Wp.icmp_gt (tgt := 68) dc_X12_follows_57 (by decide) (fun hc57 => ?_) (fun hc57 => ?_)
          · rw [if_pos hc57] at hE
            exact ok_X12_follows_j68   hE hK
          · rw [if_neg hc57] at hE
            refine Wp.iload_n dc_X12_follows_60 rfl ?_
            refine Wp.iload dc_X12_follows_61 rfl ?_
            refine Wp.iload_n dc_X12_follows_63 rfl ?_
            refine Wp.isub dc_X12_follows_64 ?_
            refine Wp.icmp_le (tgt := 74) dc_X12_follows_65 (by decide) (fun hc65 => ?_) (fun hc65 => ?_)
            · rw [if_pos hc65] at hE
              refine Wp.iconst dc_X12_follows_74 ic_0 ?_
              refine Wp.istore dc_X12_follows_75 (by decide) ?_
              refine Wp.iconst dc_X12_follows_77 ic_0 ?_
              refine Wp.istore dc_X12_follows_78 (by decide) ?_
              exact ok_X12_follows_l80   hE hK
            · rw [if_neg hc65] at hE
              exact ok_X12_follows_j68   hE hK
    · rw [if_pos hc29] at hE
      refine Wp.aload_n dc_X12_follows_32 rfl ?_
      refine Wp.bipush dc_X12_follows_33 bp_9 ?_
      obtain ⟨p35, h35, hE⟩ := bnd hE
      refine Wp.cV1i (ok_X12_refuse  h35) dc_X12_follows_35 mw_X12_308 (mO11 (by decide)) (by decide) (Nat.le_of_ble_eq_true rfl) ?_
      cases hE
      exact Wp.ireturn dc_X12_follows_38 rfl rfl (Nat.le_refl _) (Nat.le_refl _) hK
  · rw [if_pos hc15] at hE
    refine Wp.aload_n dc_X12_follows_18 rfl ?_
    refine Wp.iconst dc_X12_follows_19 ic_2 ?_
    obtain ⟨p20, h20, hE⟩ := bnd hE
    refine Wp.cV1i (ok_X12_refuse  h20) dc_X12_follows_20 mw_X12_308 (mO11 (by decide)) (by decide) (Nat.le_of_ble_eq_true rfl) ?_
    cases hE
    exact Wp.ireturn dc_X12_follows_23 rfl rfl (Nat.le_refl _) (Nat.le_refl _) hK
theorem ok_X12_follows  {σ : SS}  {x1 : Int32} {x2 : Int32} {x3 : Int32} {o}   (hE : X12_follows  σ  x1 x2 x3 = some o) : Runs 2 0 0 mi_X12_follows [vr 11 0, vi x1, vi x2, vi x3] (hp σ) (fun v h => v = some (vi o.1) ∧ h = hp o.2) := by
  refine Runs.of pn_X12 (Nat.le_of_ble_eq_true rfl) ?_
  exact ok_X12_follows_j0   hE ⟨rfl, rfl⟩
def X12_costAfter_P2 (Q : Option AV → AH → Prop)   (x1 : Int32) (x2 : Int32) (ss : Int32 × SS) : Prop := ∀ z4 : Option AV, Ws 3 mi_X12_costAfter Q 2 [some (vr 11 0), some (vi x1), some (vi x2), some (vi ss.1), z4] [] ss.2
def X12_costAfter_R2 (Q : Option AV → AH → Prop)   (x1 : Int32) (x2 : Int32) (tt : SS) : Prop := ∀ z3 z4 : Option AV, Ws 3 mi_X12_costAfter Q 27 [some (vr 11 0), some (vi x1), some (vi x2), z3, z4] [] tt
theorem ok_X12_costAfter_l2c {Q : Option AV → AH → Prop}  {σ : SS}  {x1 : Int32} {x2 : Int32} {x3 : Int32} {o} {z4 : Option AV}   (hE : X12_costAfter_l2c  σ  x1 x2 x3 = some o) (hS : ∀ ss, o = Sum.inl ss → (X12_costAfter_P2  Q   x1 x2) ss) (hT : ∀ tt, o = Sum.inr tt → (X12_costAfter_R2  Q   x1 x2) tt) : Ws 3 mi_X12_costAfter Q 2 [some (vr 11 0), some (vi x1), some (vi x2), some (vi x3), z4] [] σ := by
  unfold X12_costAfter_l2c at hE
  refine Wp.iload_n dc_X12_costAfter_2 rfl ?_
  refine Wp.sipush dc_X12_costAfter_3 sp_132 ?_
  refine Wp.icmp_ge (tgt := 27) dc_X12_costAfter_6 (by decide) (fun hc6 => ?_) (fun hc6 => ?_)
  · rw [if_pos hc6] at hE
    cases hE
    exact hT _ rfl _ _
  · rw [if_neg hc6] at hE
    refine Wp.aload_n dc_X12_costAfter_9 rfl ?_
    refine Wp.sgetR (t := 43) dc_X12_costAfter_10 fw_X12_65 (mO11 (by decide)) rfl ?_
    refine Wp.iload_n dc_X12_costAfter_13 rfl ?_
    refine Wp.aload_n dc_X12_costAfter_14 rfl ?_
    refine Wp.sgetR (t := 34) dc_X12_costAfter_15 fw_X12_35 (mO11 (by decide)) rfl ?_
    refine Wp.iload_n dc_X12_costAfter_18 rfl ?_
    obtain ⟨j19, h19, hE⟩ := bnd hE
    refine Wp.siald dc_X12_costAfter_19 (mO13 (by decide)) h19 ?_
    obtain ⟨j20, h20, hE⟩ := bnd hE
    refine Wp.siast dc_X12_costAfter_20 (mO13 (by decide)) h20 ?_
    obtain ⟨σ20, es_20, hE⟩ := bnS hE
    rw [es_20]
    obtain ⟨x3_21, e_21, hE⟩ := bnS hE
    refine Wp.iinc dc_X12_costAfter_21 rfl ((ii ic_1).trans e_21) (by decide) ?_
    refine Wp.goto (tgt := 2) dc_X12_costAfter_24 (by decide) ?_
    cases hE
    exact hS _ rfl _
def X12_costAfter_P29 (Q : Option AV → AH → Prop)   (x1 : Int32) (x2 : Int32) (ss : Int32 × SS) : Prop := ∀ z4 : Option AV, Ws 3 mi_X12_costAfter Q 29 [some (vr 11 0), some (vi x1), some (vi x2), some (vi ss.1), z4] [] ss.2
def X12_costAfter_R29 (Q : Option AV → AH → Prop)   (x1 : Int32) (x2 : Int32) (tt : SS) : Prop := ∀ z2 z3 z4 : Option AV, Ws 3 mi_X12_costAfter Q 59 [some (vr 11 0), some (vi x1), z2, z3, z4] [] tt
theorem ok_X12_costAfter_j53 {Q : Option AV → AH → Prop}  {σ : SS}  {x1 : Int32} {x2 : Int32} {x3 : Int32} {o} {z4 : Option AV}   (hE : X12_costAfter_j53  σ  x1 x2 x3 = some o) (hS : ∀ ss, o = Sum.inl ss → (X12_costAfter_P29  Q   x1 x2) ss) (hT : ∀ tt, o = Sum.inr tt → (X12_costAfter_R29  Q   x1 x2) tt) : Ws 3 mi_X12_costAfter Q 53 [some (vr 11 0), some (vi x1), some (vi x2), some (vi x3), z4] [] σ := by
  unfold X12_costAfter_j53 at hE
  obtain ⟨x3_53, e_53, hE⟩ := bnS hE
  refine Wp.iinc dc_X12_costAfter_53 rfl ((ii ic_1).trans e_53) (by decide) ?_
  refine Wp.goto (tgt := 29) dc_X12_costAfter_56 (by decide) ?_
  cases hE
  exact hS _ rfl _
theorem ok_X12_costAfter_l29c {Q : Option AV → AH → Prop}  {σ : SS}  {x1 : Int32} {x2 : Int32} {x3 : Int32} {o} {z4 : Option AV}   (hE : X12_costAfter_l29c  σ  x1 x2 x3 = some o) (hS : ∀ ss, o = Sum.inl ss → (X12_costAfter_P29  Q   x1 x2) ss) (hT : ∀ tt, o = Sum.inr tt → (X12_costAfter_R29  Q   x1 x2) tt) : Ws 3 mi_X12_costAfter Q 29 [some (vr 11 0), some (vi x1), some (vi x2), some (vi x3), z4] [] σ := by
  unfold X12_costAfter_l29c at hE
  refine Wp.iload_n dc_X12_costAfter_29 rfl ?_
  refine Wp.aload_n dc_X12_costAfter_30 rfl ?_
  refine Wp.sgetR (t := 34) dc_X12_costAfter_31 fw_X12_35 (mO11 (by decide)) rfl ?_
  refine Wp.iconst dc_X12_costAfter_34 ic_0 ?_
  obtain ⟨j35, h35, hE⟩ := bnd hE
  refine Wp.siald dc_X12_costAfter_35 (mO13 (by decide)) h35 ?_
  refine Wp.icmp_ge (tgt := 59) dc_X12_costAfter_36 (by decide) (fun hc36 => ?_) (fun hc36 => ?_)
  · rw [if_pos hc36] at hE
    cases hE
    exact hT _ rfl _ _ _
  · rw [if_neg hc36] at hE
    refine Wp.iload_n dc_X12_costAfter_39 rfl ?_
    refine Wp.iload_n dc_X12_costAfter_40 rfl ?_
    obtain ⟨v41, h41, hE⟩ := bnd hE
    refine Wp.cS2i (ok_X12_has  h41) dc_X12_costAfter_41 mw_X12_116 (by decide) (Nat.le_of_ble_eq_true rfl) ?_
    refine Wp.if_eq (tgt := 53) dc_X12_costAfter_44 (by decide) (fun hc44 => ?_) (fun hc44 => ?_)
    · rw [if_pos hc44] at hE
      exact ok_X12_costAfter_j53   hE hS hT
    · rw [if_neg hc44] at hE
      refine Wp.aload_n dc_X12_costAfter_47 rfl ?_
      refine Wp.iload_n dc_X12_costAfter_48 rfl ?_
      obtain ⟨p49, h49, hE⟩ := bnd hE
      refine Wp.cV1i (ok_X12_dropsAll  h49) dc_X12_costAfter_49 mw_X12_352 (mO11 (by decide)) (by decide) (Nat.le_of_ble_eq_true rfl) ?_
      refine Wp.pop dc_X12_costAfter_52 rfl ?_
      exact ok_X12_costAfter_j53   hE hS hT
def X12_costAfter_P68 (Q : Option AV → AH → Prop)   (x3 : Int32) (ss : Int32 × SS) : Prop := ∀ z1 z2 : Option AV, Ws 3 mi_X12_costAfter Q 68 [some (vr 11 0), z1, z2, some (vi x3), some (vi ss.1)] [] ss.2
def X12_costAfter_R68 (Q : Option AV → AH → Prop)   (x3 : Int32) (tt : SS) : Prop := ∀ z0 z1 z2 z4 : Option AV, Ws 3 mi_X12_costAfter Q 96 [z0, z1, z2, some (vi x3), z4] [] tt
theorem ok_X12_costAfter_l68c {Q : Option AV → AH → Prop}  {σ : SS}  {x3 : Int32} {x4 : Int32} {o} {z1 z2 : Option AV}   (hE : X12_costAfter_l68c  σ  x3 x4 = some o) (hS : ∀ ss, o = Sum.inl ss → (X12_costAfter_P68  Q   x3) ss) (hT : ∀ tt, o = Sum.inr tt → (X12_costAfter_R68  Q   x3) tt) : Ws 3 mi_X12_costAfter Q 68 [some (vr 11 0), z1, z2, some (vi x3), some (vi x4)] [] σ := by
  unfold X12_costAfter_l68c at hE
  refine Wp.iload dc_X12_costAfter_68 rfl ?_
  refine Wp.sipush dc_X12_costAfter_70 sp_132 ?_
  refine Wp.icmp_ge (tgt := 96) dc_X12_costAfter_73 (by decide) (fun hc73 => ?_) (fun hc73 => ?_)
  · rw [if_pos hc73] at hE
    cases hE
    exact hT _ rfl _ _ _ _
  · rw [if_neg hc73] at hE
    refine Wp.aload_n dc_X12_costAfter_76 rfl ?_
    refine Wp.sgetR (t := 34) dc_X12_costAfter_77 fw_X12_35 (mO11 (by decide)) rfl ?_
    refine Wp.iload dc_X12_costAfter_80 rfl ?_
    refine Wp.aload_n dc_X12_costAfter_82 rfl ?_
    refine Wp.sgetR (t := 43) dc_X12_costAfter_83 fw_X12_65 (mO11 (by decide)) rfl ?_
    refine Wp.iload dc_X12_costAfter_86 rfl ?_
    obtain ⟨j88, h88, hE⟩ := bnd hE
    refine Wp.siald dc_X12_costAfter_88 (mO13 (by decide)) h88 ?_
    obtain ⟨j89, h89, hE⟩ := bnd hE
    refine Wp.siast dc_X12_costAfter_89 (mO13 (by decide)) h89 ?_
    obtain ⟨σ89, es_89, hE⟩ := bnS hE
    rw [es_89]
    obtain ⟨x4_90, e_90, hE⟩ := bnS hE
    refine Wp.iinc dc_X12_costAfter_90 rfl ((ii ic_1).trans e_90) (by decide) ?_
    refine Wp.goto (tgt := 68) dc_X12_costAfter_93 (by decide) ?_
    cases hE
    exact hS _ rfl _ _
theorem ok_X12_costAfter_l68 {Q : Option AV → AH → Prop}  {σ : SS}  {x3 : Int32} {x4 : Int32} {o} {z1 z2 : Option AV}   (hE : X12_costAfter_l68  σ  x3 x4 = some o) (hK : Q (some (vi o.1)) (hp o.2)) : Ws 3 mi_X12_costAfter Q 68 [some (vr 11 0), z1, z2, some (vi x3), some (vi x4)] [] σ := by
  unfold X12_costAfter_l68 at hE
  obtain ⟨t68, h1, hE⟩ := bnd hE
  refine iter_ok (P := (X12_costAfter_P68  Q   x3)) (R := (X12_costAfter_R68  Q   x3)) (fun ss o h2 hS hT => ?_) NF _ _ h1 ?_ _ _
  · intro z1 z2
    exact ok_X12_costAfter_l68c   h2 hS hT
  · intro z0 z1 z2 z4
    show Ws 3 mi_X12_costAfter Q 96 [z0, z1, z2, some (vi x3), z4] [] t68
    refine Wp.iload_n dc_X12_costAfter_96 rfl ?_
    cases hE
    exact Wp.ireturn dc_X12_costAfter_97 rfl rfl (Nat.le_refl _) (Nat.le_refl _) hK
theorem ok_X12_costAfter_l29 {Q : Option AV → AH → Prop}  {σ : SS}  {x1 : Int32} {x2 : Int32} {x3 : Int32} {o} {z4 : Option AV}   (hE : X12_costAfter_l29  σ  x1 x2 x3 = some o) (hK : Q (some (vi o.1)) (hp o.2)) : Ws 3 mi_X12_costAfter Q 29 [some (vr 11 0), some (vi x1), some (vi x2), some (vi x3), z4] [] σ := by
  unfold X12_costAfter_l29 at hE
  obtain ⟨t29, h1, hE⟩ := bnd hE
  refine iter_ok (P := (X12_costAfter_P29  Q   x1 x2)) (R := (X12_costAfter_R29  Q   x1 x2)) (fun ss o h2 hS hT => ?_) NF _ _ h1 ?_ _
  · intro z4
    exact ok_X12_costAfter_l29c   h2 hS hT
  · intro z2 z3 z4
    show Ws 3 mi_X12_costAfter Q 59 [some (vr 11 0), some (vi x1), z2, z3, z4] [] t29
    refine Wp.aload_n dc_X12_costAfter_59 rfl ?_
    refine Wp.iload_n dc_X12_costAfter_60 rfl ?_
    obtain ⟨p61, h61, hE⟩ := bnd hE
    refine Wp.cV1i (ok_X12_frees  h61) dc_X12_costAfter_61 mw_X12_410 (mO11 (by decide)) (by decide) (Nat.le_of_ble_eq_true rfl) ?_
    refine Wp.istore_n dc_X12_costAfter_64 (by decide) ?_
    refine Wp.iconst dc_X12_costAfter_65 ic_0 ?_
    refine Wp.istore dc_X12_costAfter_66 (by decide) ?_
    exact ok_X12_costAfter_l68   hE hK
theorem ok_X12_costAfter_l2 {Q : Option AV → AH → Prop}  {σ : SS}  {x1 : Int32} {x2 : Int32} {x3 : Int32} {o} {z4 : Option AV}   (hE : X12_costAfter_l2  σ  x1 x2 x3 = some o) (hK : Q (some (vi o.1)) (hp o.2)) : Ws 3 mi_X12_costAfter Q 2 [some (vr 11 0), some (vi x1), some (vi x2), some (vi x3), z4] [] σ := by
  unfold X12_costAfter_l2 at hE
  obtain ⟨t2, h1, hE⟩ := bnd hE
  refine iter_ok (P := (X12_costAfter_P2  Q   x1 x2)) (R := (X12_costAfter_R2  Q   x1 x2)) (fun ss o h2 hS hT => ?_) NF _ _ h1 ?_ _
  · intro z4
    exact ok_X12_costAfter_l2c   h2 hS hT
  · intro z3 z4
    show Ws 3 mi_X12_costAfter Q 27 [some (vr 11 0), some (vi x1), some (vi x2), z3, z4] [] t2
    refine Wp.iconst dc_X12_costAfter_27 ic_0 ?_
    refine Wp.istore_n dc_X12_costAfter_28 (by decide) ?_
    exact ok_X12_costAfter_l29   hE hK
theorem ok_X12_costAfter_j0 {Q : Option AV → AH → Prop}  {σ : SS}  {x1 : Int32} {x2 : Int32} {o} {z3 z4 : Option AV}   (hE : X12_costAfter_j0  σ  x1 x2 = some o) (hK : Q (some (vi o.1)) (hp o.2)) : Ws 3 mi_X12_costAfter Q 0 [some (vr 11 0), some (vi x1), some (vi x2), z3, z4] [] σ := by
  unfold X12_costAfter_j0 at hE
  refine Wp.iconst dc_X12_costAfter_0 ic_0 ?_
  refine Wp.istore_n dc_X12_costAfter_1 (by decide) ?_
  exact ok_X12_costAfter_l2   hE hK
theorem ok_X12_costAfter  {σ : SS}  {x1 : Int32} {x2 : Int32} {o}   (hE : X12_costAfter  σ  x1 x2 = some o) : Runs 3 0 0 mi_X12_costAfter [vr 11 0, vi x1, vi x2] (hp σ) (fun v h => v = some (vi o.1) ∧ h = hp o.2) := by
  refine Runs.of pn_X12 (Nat.le_of_ble_eq_true rfl) ?_
  exact ok_X12_costAfter_j0   hE ⟨rfl, rfl⟩
