/-! certificates (by program: wip/whole/gen.py) -/
def X3_lone_P4 (Q : Option AV → AH → Prop) (σ : SS) (r0 : Nat)  (ss : Int32 × Int32) : Prop := Ws 4 mi_X3_lone Q 4 [some (vr 0 r0), some (vi ss.1), some (vi ss.2)] [] σ
def X3_lone_R4 (Q : Option AV → AH → Prop) (σ : SS) (r0 : Nat)  (tt : Int32) : Prop := ∀ z0 z2 : Option AV, Ws 4 mi_X3_lone Q 36 [z0, some (vi tt), z2] [] σ
theorem ok_X3_lone_j28 {Q : Option AV → AH → Prop}  {σ : SS} {r0 : Nat} {x2 : Int32} {s0 : Int32} {s1 : Int32} {o} {z1 : Option AV}  (hr0 : r0 < 5) (hE : X3_lone_j28  σ r0 x2 s0 s1 = some o) (hS : ∀ ss, o = Sum.inl ss → (X3_lone_P4  Q σ r0 ) ss) (hT : ∀ tt, o = Sum.inr tt → (X3_lone_R4  Q σ r0 ) tt) : Ws 4 mi_X3_lone Q 28 [some (vr 0 r0), z1, some (vi x2)] [vi s1, vi s0] σ := by
  unfold X3_lone_j28 at hE
  refine Wp.ior dc_X3_lone_28 ?_
  obtain ⟨x1_29, e_29, hE⟩ := bnS hE
  rw [e_29]
  refine Wp.istore_n dc_X3_lone_29 (by decide) ?_
  obtain ⟨x2_30, e_30, hE⟩ := bnS hE
  refine Wp.iinc dc_X3_lone_30 rfl ((ii ic_1).trans e_30) (by decide) ?_
  refine Wp.goto (tgt := 4) dc_X3_lone_33 (by decide) ?_
  cases hE
  exact hS _ rfl
theorem ok_X3_lone_l4c {Q : Option AV → AH → Prop}  {σ : SS} {r0 : Nat}  {x1 : Int32} {x2 : Int32} {o}   (hr0 : r0 < 5) (hE : X3_lone_l4c  σ r0  x1 x2 = some o) (hS : ∀ ss, o = Sum.inl ss → (X3_lone_P4  Q σ r0 ) ss) (hT : ∀ tt, o = Sum.inr tt → (X3_lone_R4  Q σ r0 ) tt) : Ws 4 mi_X3_lone Q 4 [some (vr 0 r0), some (vi x1), some (vi x2)] [] σ := by
  unfold X3_lone_l4c at hE
  refine Wp.iload_n dc_X3_lone_4 rfl ?_
  refine Wp.aload_n dc_X3_lone_5 rfl ?_
  obtain ⟨v6, h6, hE⟩ := bnd hE
  refine Wp.cV0i (ok_X0_leadCount (by omega) h6) dc_X3_lone_6 mw_X3_41 (mO0 (by omega)) (by decide) (Nat.le_of_ble_eq_true rfl) ?_
  refine Wp.icmp_ge (tgt := 36) dc_X3_lone_9 (by decide) (fun hc9 => ?_) (fun hc9 => ?_)
  · rw [if_pos hc9] at hE
    cases hE
    exact hT _ rfl _ _
  · rw [if_neg hc9] at hE
    refine Wp.iload_n dc_X3_lone_12 rfl ?_
    refine Wp.aload_n dc_X3_lone_13 rfl ?_
    refine Wp.iload_n dc_X3_lone_14 rfl ?_
    obtain ⟨v15, h15, hE⟩ := bnd hE
    refine Wp.cS2i (ok_X3_isLone (by omega) h15) dc_X3_lone_15 mw_X3_44 (by decide) (Nat.le_of_ble_eq_true rfl) ?_
    refine Wp.if_eq (tgt := 27) dc_X3_lone_18 (by decide) (fun hc18 => ?_) (fun hc18 => ?_)
    · rw [if_pos hc18] at hE
      refine Wp.iconst dc_X3_lone_27 ic_0 ?_
      exact ok_X3_lone_j28  hr0 hE hS hT
    · rw [if_neg hc18] at hE
      refine Wp.iconst dc_X3_lone_21 ic_1 ?_
      refine Wp.iload_n dc_X3_lone_22 rfl ?_
      refine Wp.ishl dc_X3_lone_23 ?_
      refine Wp.goto (tgt := 28) dc_X3_lone_24 (by decide) ?_
      exact ok_X3_lone_j28  hr0 hE hS hT
theorem ok_X3_lone_l4 {Q : Option AV → AH → Prop}  {σ : SS} {r0 : Nat} {x1 : Int32} {x2 : Int32} {o}   (hr0 : r0 < 5) (hE : X3_lone_l4  σ r0 x1 x2 = some o) (hK : Q (some (vi o)) (hp σ)) : Ws 4 mi_X3_lone Q 4 [some (vr 0 r0), some (vi x1), some (vi x2)] [] σ := by
  unfold X3_lone_l4 at hE
  obtain ⟨t4, h1, hE⟩ := bnd hE
  refine iter_ok (P := (X3_lone_P4  Q σ r0 )) (R := (X3_lone_R4  Q σ r0 )) (fun ss o h2 hS hT => ?_) NF _ _ h1 ?_
  · skip
    exact ok_X3_lone_l4c  hr0 h2 hS hT
  · intro z0 z2
    show Ws 4 mi_X3_lone Q 36 [z0, some (vi t4), z2] [] σ
    refine Wp.iload_n dc_X3_lone_36 rfl ?_
    cases hE
    exact Wp.ireturn dc_X3_lone_37 rfl rfl (Nat.le_refl _) (Nat.le_refl _) hK
theorem ok_X3_lone_j0 {Q : Option AV → AH → Prop}  {σ : SS} {r0 : Nat}  {o} {z1 z2 : Option AV}  (hr0 : r0 < 5) (hE : X3_lone_j0  σ r0  = some o) (hK : Q (some (vi o)) (hp σ)) : Ws 4 mi_X3_lone Q 0 [some (vr 0 r0), z1, z2] [] σ := by
  unfold X3_lone_j0 at hE
  refine Wp.iconst dc_X3_lone_0 ic_0 ?_
  refine Wp.istore_n dc_X3_lone_1 (by decide) ?_
  refine Wp.iconst dc_X3_lone_2 ic_0 ?_
  refine Wp.istore_n dc_X3_lone_3 (by decide) ?_
  exact ok_X3_lone_l4  hr0 hE hK
theorem ok_X3_lone  {σ : SS} {r0 : Nat}  {o}  (hr0 : r0 < 5) (hE : X3_lone  σ r0  = some o) : Runs 4 0 0 mi_X3_lone [vr 0 r0] (hp σ) (fun v h => v = some (vi o) ∧ h = hp σ) := by
  refine Runs.of pn_X3 (Nat.le_of_ble_eq_true rfl) ?_
  exact ok_X3_lone_j0  hr0 hE ⟨rfl, rfl⟩
def X3_howMany_P6 (Q : Option AV → AH → Prop) (σ : SS) (r0 : Nat)  (ss : Int32 × Int32 × Int32) : Prop := ∀ z4 : Option AV, Ws 3 mi_X3_howMany Q 6 [some (vr 0 r0), some (vi ss.1), some (vi ss.2.1), some (vi ss.2.2), z4] [] σ
def X3_howMany_R6 (Q : Option AV → AH → Prop) (σ : SS) (r0 : Nat)  (tt : Int32) : Prop := ∀ z0 z1 z3 z4 : Option AV, Ws 3 mi_X3_howMany Q 60 [z0, z1, some (vi tt), z3, z4] [] σ
theorem ok_X3_howMany_j47 {Q : Option AV → AH → Prop}  {σ : SS} {r0 : Nat} {x1 : Int32} {x3 : Int32} {x4 : Int32} {s0 : Int32} {s1 : Int32} {o} {z2 : Option AV}  (hr0 : r0 < 5) (hE : X3_howMany_j47  σ r0 x1 x3 x4 s0 s1 = some o) (hS : ∀ ss, o = Sum.inl ss → (X3_howMany_P6  Q σ r0 ) ss) (hT : ∀ tt, o = Sum.inr tt → (X3_howMany_R6  Q σ r0 ) tt) : Ws 3 mi_X3_howMany Q 47 [some (vr 0 r0), some (vi x1), z2, some (vi x3), some (vi x4)] [vi s1, vi s0] σ := by
  unfold X3_howMany_j47 at hE
  refine Wp.iadd dc_X3_howMany_47 ?_
  obtain ⟨x2_48, e_48, hE⟩ := bnS hE
  rw [e_48]
  refine Wp.istore_n dc_X3_howMany_48 (by decide) ?_
  refine Wp.iload_n dc_X3_howMany_49 rfl ?_
  refine Wp.iload dc_X3_howMany_50 rfl ?_
  refine Wp.ior dc_X3_howMany_52 ?_
  obtain ⟨x1_53, e_53, hE⟩ := bnS hE
  rw [e_53]
  refine Wp.istore_n dc_X3_howMany_53 (by decide) ?_
  obtain ⟨x3_54, e_54, hE⟩ := bnS hE
  refine Wp.iinc dc_X3_howMany_54 rfl ((ii ic_1).trans e_54) (by decide) ?_
  refine Wp.goto (tgt := 6) dc_X3_howMany_57 (by decide) ?_
  cases hE
  exact hS _ rfl _
theorem ok_X3_howMany_j46 {Q : Option AV → AH → Prop}  {σ : SS} {r0 : Nat} {x1 : Int32} {x3 : Int32} {x4 : Int32} {s0 : Int32} {o} {z2 : Option AV}  (hr0 : r0 < 5) (hE : X3_howMany_j46  σ r0 x1 x3 x4 s0 = some o) (hS : ∀ ss, o = Sum.inl ss → (X3_howMany_P6  Q σ r0 ) ss) (hT : ∀ tt, o = Sum.inr tt → (X3_howMany_R6  Q σ r0 ) tt) : Ws 3 mi_X3_howMany Q 46 [some (vr 0 r0), some (vi x1), z2, some (vi x3), some (vi x4)] [vi s0] σ := by
  unfold X3_howMany_j46 at hE
  refine Wp.iconst dc_X3_howMany_46 ic_0 ?_
  exact ok_X3_howMany_j47  hr0 hE hS hT
theorem ok_X3_howMany_l6c {Q : Option AV → AH → Prop}  {σ : SS} {r0 : Nat}  {x1 : Int32} {x2 : Int32} {x3 : Int32} {o} {z4 : Option AV}  (hr0 : r0 < 5) (hE : X3_howMany_l6c  σ r0  x1 x2 x3 = some o) (hS : ∀ ss, o = Sum.inl ss → (X3_howMany_P6  Q σ r0 ) ss) (hT : ∀ tt, o = Sum.inr tt → (X3_howMany_R6  Q σ r0 ) tt) : Ws 3 mi_X3_howMany Q 6 [some (vr 0 r0), some (vi x1), some (vi x2), some (vi x3), z4] [] σ := by
  unfold X3_howMany_l6c at hE
  refine Wp.iload_n dc_X3_howMany_6 rfl ?_
  refine Wp.aload_n dc_X3_howMany_7 rfl ?_
  obtain ⟨v8, h8, hE⟩ := bnd hE
  refine Wp.cV0i (ok_X0_leadCount (by omega) h8) dc_X3_howMany_8 mw_X3_41 (mO0 (by omega)) (by decide) (Nat.le_of_ble_eq_true rfl) ?_
  refine Wp.icmp_ge (tgt := 60) dc_X3_howMany_11 (by decide) (fun hc11 => ?_) (fun hc11 => ?_)
  · rw [if_pos hc11] at hE
    cases hE
    exact hT _ rfl _ _ _ _
  · rw [if_neg hc11] at hE
    refine Wp.aload_n dc_X3_howMany_14 rfl ?_
    refine Wp.iload_n dc_X3_howMany_15 rfl ?_
    refine Wp.aload_n dc_X3_howMany_16 rfl ?_
    obtain ⟨v17, h17, hE⟩ := bnd hE
    refine Wp.cV0i (ok_X0_insideSet (by omega) h17) dc_X3_howMany_17 mw_X3_27 (mO0 (by omega)) (by decide) (Nat.le_of_ble_eq_true rfl) ?_
    obtain ⟨v20, h20, hE⟩ := bnd hE
    refine Wp.cS3i (ok_X3_around (by omega) h20) dc_X3_howMany_20 mw_X3_30 (by decide) (Nat.le_of_ble_eq_true rfl) ?_
    refine Wp.istore dc_X3_howMany_23 (by decide) ?_
    refine Wp.iload_n dc_X3_howMany_25 rfl ?_
    refine Wp.iload dc_X3_howMany_26 rfl ?_
    refine Wp.iload_n dc_X3_howMany_28 rfl ?_
    refine Wp.iand dc_X3_howMany_29 ?_
    refine Wp.if_ne (tgt := 46) dc_X3_howMany_30 (by decide) (fun hc30 => ?_) (fun hc30 => ?_)
    · rw [if_neg hc30] at hE
      exact ok_X3_howMany_j46  hr0 hE hS hT
    · rw [if_pos hc30] at hE
      refine Wp.iload dc_X3_howMany_33 rfl ?_
      obtain ⟨v35, h35, hE⟩ := bnd hE
      refine Wp.cS1i (ok_J6_bitCount_0f7a4  h35) dc_X3_howMany_35 mw_X3_36 (by decide) (Nat.le_of_ble_eq_true rfl) ?_
      refine Wp.iconst dc_X3_howMany_38 ic_1 ?_
      refine Wp.icmp_le (tgt := 46) dc_X3_howMany_39 (by decide) (fun hc39 => ?_) (fun hc39 => ?_)
      · rw [if_pos hc39] at hE
        exact ok_X3_howMany_j46  hr0 hE hS hT
      · rw [if_neg hc39] at hE
        refine Wp.iconst dc_X3_howMany_42 ic_1 ?_
        refine Wp.goto (tgt := 47) dc_X3_howMany_43 (by decide) ?_
        exact ok_X3_howMany_j47  hr0 hE hS hT
theorem ok_X3_howMany_l6 {Q : Option AV → AH → Prop}  {σ : SS} {r0 : Nat} {x1 : Int32} {x2 : Int32} {x3 : Int32} {o} {z4 : Option AV}  (hr0 : r0 < 5) (hE : X3_howMany_l6  σ r0 x1 x2 x3 = some o) (hK : Q (some (vi o)) (hp σ)) : Ws 3 mi_X3_howMany Q 6 [some (vr 0 r0), some (vi x1), some (vi x2), some (vi x3), z4] [] σ := by
  unfold X3_howMany_l6 at hE
  obtain ⟨t6, h1, hE⟩ := bnd hE
  refine iter_ok (P := (X3_howMany_P6  Q σ r0 )) (R := (X3_howMany_R6  Q σ r0 )) (fun ss o h2 hS hT => ?_) NF _ _ h1 ?_ _
  · intro z4
    exact ok_X3_howMany_l6c  hr0 h2 hS hT
  · intro z0 z1 z3 z4
    show Ws 3 mi_X3_howMany Q 60 [z0, z1, some (vi t6), z3, z4] [] σ
    refine Wp.iload_n dc_X3_howMany_60 rfl ?_
    cases hE
    exact Wp.ireturn dc_X3_howMany_61 rfl rfl (Nat.le_refl _) (Nat.le_refl _) hK
theorem ok_X3_howMany_j0 {Q : Option AV → AH → Prop}  {σ : SS} {r0 : Nat}  {o} {z1 z2 z3 z4 : Option AV}  (hr0 : r0 < 5) (hE : X3_howMany_j0  σ r0  = some o) (hK : Q (some (vi o)) (hp σ)) : Ws 3 mi_X3_howMany Q 0 [some (vr 0 r0), z1, z2, z3, z4] [] σ := by
  unfold X3_howMany_j0 at hE
  refine Wp.iconst dc_X3_howMany_0 ic_0 ?_
  refine Wp.istore_n dc_X3_howMany_1 (by decide) ?_
  refine Wp.iconst dc_X3_howMany_2 ic_0 ?_
  refine Wp.istore_n dc_X3_howMany_3 (by decide) ?_
  refine Wp.iconst dc_X3_howMany_4 ic_0 ?_
  refine Wp.istore_n dc_X3_howMany_5 (by decide) ?_
  exact ok_X3_howMany_l6  hr0 hE hK
theorem ok_X3_howMany  {σ : SS} {r0 : Nat}  {o}  (hr0 : r0 < 5) (hE : X3_howMany  σ r0  = some o) : Runs 3 0 0 mi_X3_howMany [vr 0 r0] (hp σ) (fun v h => v = some (vi o) ∧ h = hp σ) := by
  refine Runs.of pn_X3 (Nat.le_of_ble_eq_true rfl) ?_
  exact ok_X3_howMany_j0  hr0 hE ⟨rfl, rfl⟩
def X3_bestCut_P7 (Q : Option AV → AH → Prop) (σ : SS) (r0 : Nat)  (ss : Int32 × Int32 × Int32) : Prop := ∀ z4 : Option AV, Ws 4 mi_X3_bestCut Q 7 [some (vr 0 r0), some (vi ss.1), some (vi ss.2.1), some (vi ss.2.2), z4] [] σ
def X3_bestCut_R7 (Q : Option AV → AH → Prop) (σ : SS) (r0 : Nat)  (tt : Int32) : Prop := ∀ z0 z2 z3 z4 : Option AV, Ws 4 mi_X3_bestCut Q 56 [z0, some (vi tt), z2, z3, z4] [] σ
theorem ok_X3_bestCut_j50 {Q : Option AV → AH → Prop}  {σ : SS} {r0 : Nat} {x1 : Int32} {x2 : Int32} {x3 : Int32} {o} {z4 : Option AV}  (hr0 : r0 < 5) (hE : X3_bestCut_j50  σ r0 x1 x2 x3 = some o) (hS : ∀ ss, o = Sum.inl ss → (X3_bestCut_P7  Q σ r0 ) ss) (hT : ∀ tt, o = Sum.inr tt → (X3_bestCut_R7  Q σ r0 ) tt) : Ws 4 mi_X3_bestCut Q 50 [some (vr 0 r0), some (vi x1), some (vi x2), some (vi x3), z4] [] σ := by
  unfold X3_bestCut_j50 at hE
  obtain ⟨x3_50, e_50, hE⟩ := bnS hE
  refine Wp.iinc dc_X3_bestCut_50 rfl ((ii ic_1).trans e_50) (by decide) ?_
  refine Wp.goto (tgt := 7) dc_X3_bestCut_53 (by decide) ?_
  cases hE
  exact hS _ rfl _
theorem ok_X3_bestCut_l7c {Q : Option AV → AH → Prop}  {σ : SS} {r0 : Nat}  {x1 : Int32} {x2 : Int32} {x3 : Int32} {o} {z4 : Option AV}  (hr0 : r0 < 5) (hE : X3_bestCut_l7c  σ r0  x1 x2 x3 = some o) (hS : ∀ ss, o = Sum.inl ss → (X3_bestCut_P7  Q σ r0 ) ss) (hT : ∀ tt, o = Sum.inr tt → (X3_bestCut_R7  Q σ r0 ) tt) : Ws 4 mi_X3_bestCut Q 7 [some (vr 0 r0), some (vi x1), some (vi x2), some (vi x3), z4] [] σ := by
  unfold X3_bestCut_l7c at hE
  refine Wp.iload_n dc_X3_bestCut_7 rfl ?_
  refine Wp.aload_n dc_X3_bestCut_8 rfl ?_
  obtain ⟨v9, h9, hE⟩ := bnd hE
  refine Wp.cV0i (ok_X0_leadCount (by omega) h9) dc_X3_bestCut_9 mw_X3_41 (mO0 (by omega)) (by decide) (Nat.le_of_ble_eq_true rfl) ?_
  refine Wp.icmp_ge (tgt := 56) dc_X3_bestCut_12 (by decide) (fun hc12 => ?_) (fun hc12 => ?_)
  · rw [if_pos hc12] at hE
    cases hE
    exact hT _ rfl _ _ _ _
  · rw [if_neg hc12] at hE
    refine Wp.aload_n dc_X3_bestCut_15 rfl ?_
    refine Wp.iload_n dc_X3_bestCut_16 rfl ?_
    obtain ⟨v17, h17, hE⟩ := bnd hE
    refine Wp.cV1i (ok_X0_isIn (by omega) h17) dc_X3_bestCut_17 mw_X3_53 (mO0 (by omega)) (by decide) (Nat.le_of_ble_eq_true rfl) ?_
    refine Wp.if_eq (tgt := 50) dc_X3_bestCut_20 (by decide) (fun hc20 => ?_) (fun hc20 => ?_)
    · rw [if_pos hc20] at hE
      exact ok_X3_bestCut_j50  hr0 hE hS hT
    · rw [if_neg hc20] at hE
      refine Wp.aload_n dc_X3_bestCut_23 rfl ?_
      refine Wp.aload_n dc_X3_bestCut_24 rfl ?_
      obtain ⟨v25, h25, hE⟩ := bnd hE
      refine Wp.cV0i (ok_X0_insideSet (by omega) h25) dc_X3_bestCut_25 mw_X3_27 (mO0 (by omega)) (by decide) (Nat.le_of_ble_eq_true rfl) ?_
      refine Wp.iconst dc_X3_bestCut_28 ic_1 ?_
      refine Wp.iload_n dc_X3_bestCut_29 rfl ?_
      refine Wp.ishl dc_X3_bestCut_30 ?_
      refine Wp.iconst dc_X3_bestCut_31 ic_m1 ?_
      refine Wp.ixor dc_X3_bestCut_32 ?_
      refine Wp.iand dc_X3_bestCut_33 ?_
      obtain ⟨v34, h34, hE⟩ := bnd hE
      refine Wp.cS2i (ok_X3_largest (by omega) h34) dc_X3_bestCut_34 mw_X3_56 (by decide) (Nat.le_of_ble_eq_true rfl) ?_
      refine Wp.istore dc_X3_bestCut_37 (by decide) ?_
      refine Wp.iload dc_X3_bestCut_39 rfl ?_
      refine Wp.iload_n dc_X3_bestCut_41 rfl ?_
      refine Wp.icmp_ge (tgt := 50) dc_X3_bestCut_42 (by decide) (fun hc42 => ?_) (fun hc42 => ?_)
      · rw [if_pos hc42, if_pos hc42] at hE
        exact ok_X3_bestCut_j50  hr0 hE hS hT
      · rw [if_neg hc42, if_neg hc42] at hE
        refine Wp.iload dc_X3_bestCut_45 rfl ?_
        refine Wp.istore_n dc_X3_bestCut_47 (by decide) ?_
        refine Wp.iload_n dc_X3_bestCut_48 rfl ?_
        refine Wp.istore_n dc_X3_bestCut_49 (by decide) ?_
        exact ok_X3_bestCut_j50  hr0 hE hS hT
theorem ok_X3_bestCut_l7 {Q : Option AV → AH → Prop}  {σ : SS} {r0 : Nat} {x1 : Int32} {x2 : Int32} {x3 : Int32} {o} {z4 : Option AV}  (hr0 : r0 < 5) (hE : X3_bestCut_l7  σ r0 x1 x2 x3 = some o) (hK : Q (some (vi o)) (hp σ)) : Ws 4 mi_X3_bestCut Q 7 [some (vr 0 r0), some (vi x1), some (vi x2), some (vi x3), z4] [] σ := by
  unfold X3_bestCut_l7 at hE
  obtain ⟨t7, h1, hE⟩ := bnd hE
  refine iter_ok (P := (X3_bestCut_P7  Q σ r0 )) (R := (X3_bestCut_R7  Q σ r0 )) (fun ss o h2 hS hT => ?_) NF _ _ h1 ?_ _
  · intro z4
    exact ok_X3_bestCut_l7c  hr0 h2 hS hT
  · intro z0 z2 z3 z4
    show Ws 4 mi_X3_bestCut Q 56 [z0, some (vi t7), z2, z3, z4] [] σ
    refine Wp.iload_n dc_X3_bestCut_56 rfl ?_
    cases hE
    exact Wp.ireturn dc_X3_bestCut_57 rfl rfl (Nat.le_refl _) (Nat.le_refl _) hK
theorem ok_X3_bestCut_j0 {Q : Option AV → AH → Prop}  {σ : SS} {r0 : Nat}  {o} {z1 z2 z3 z4 : Option AV}  (hr0 : r0 < 5) (hE : X3_bestCut_j0  σ r0  = some o) (hK : Q (some (vi o)) (hp σ)) : Ws 4 mi_X3_bestCut Q 0 [some (vr 0 r0), z1, z2, z3, z4] [] σ := by
  unfold X3_bestCut_j0 at hE
  refine Wp.iconst dc_X3_bestCut_0 ic_m1 ?_
  refine Wp.istore_n dc_X3_bestCut_1 (by decide) ?_
  refine Wp.bipush dc_X3_bestCut_2 bp_9 ?_
  refine Wp.istore_n dc_X3_bestCut_4 (by decide) ?_
  refine Wp.iconst dc_X3_bestCut_5 ic_0 ?_
  refine Wp.istore_n dc_X3_bestCut_6 (by decide) ?_
  exact ok_X3_bestCut_l7  hr0 hE hK
theorem ok_X3_bestCut  {σ : SS} {r0 : Nat}  {o}  (hr0 : r0 < 5) (hE : X3_bestCut  σ r0  = some o) : Runs 4 0 0 mi_X3_bestCut [vr 0 r0] (hp σ) (fun v h => v = some (vi o) ∧ h = hp σ) := by
  refine Runs.of pn_X3 (Nat.le_of_ble_eq_true rfl) ?_
  exact ok_X3_bestCut_j0  hr0 hE ⟨rfl, rfl⟩
theorem ok_X5_fed_j0 {Q : Option AV → AH → Prop}  {σ : SS}   {o}    (hE : X5_fed_j0  σ   = some o) (hK : Q (some (vi o)) (hp σ)) : Ws 0 mi_X5_fed Q 0 [some (vr 4 0)] [] σ := by
  unfold X5_fed_j0 at hE
  refine Wp.aload_n dc_X5_fed_0 rfl ?_
  refine Wp.sgetI dc_X5_fed_1 fw_X5_22 (mO4 (by decide)) ?_
  cases hE
  exact Wp.ireturn dc_X5_fed_4 rfl rfl (Nat.le_refl _) (Nat.le_refl _) hK
theorem ok_X5_fed  {σ : SS}   {o}   (hE : X5_fed  σ   = some o) : Runs 0 0 0 mi_X5_fed [vr 4 0] (hp σ) (fun v h => v = some (vi o) ∧ h = hp σ) := by
  refine Runs.of pn_X5 (Nat.le_of_ble_eq_true rfl) ?_
  exact ok_X5_fed_j0   hE ⟨rfl, rfl⟩
theorem ok_X5_hasRoom_j0 {Q : Option AV → AH → Prop}  {σ : SS}   {o}    (hE : X5_hasRoom_j0  σ   = some o) (hK : Q (some (vi o)) (hp σ)) : Ws 0 mi_X5_hasRoom Q 0 [some (vr 4 0)] [] σ := by
  unfold X5_hasRoom_j0 at hE
  refine Wp.aload_n dc_X5_hasRoom_0 rfl ?_
  refine Wp.sgetI dc_X5_hasRoom_1 fw_X5_22 (mO4 (by decide)) ?_
  refine Wp.bipush dc_X5_hasRoom_4 bp_20 ?_
  refine Wp.iadd dc_X5_hasRoom_6 ?_
  refine Wp.sipush dc_X5_hasRoom_7 sp_900 ?_
  refine Wp.icmp_gt (tgt := 17) dc_X5_hasRoom_10 (by decide) (fun hc10 => ?_) (fun hc10 => ?_)
  · rw [if_pos hc10] at hE
    refine Wp.iconst dc_X5_hasRoom_17 ic_0 ?_
    cases hE
    exact Wp.ireturn dc_X5_hasRoom_18 rfl Nr.z0.1 (Nat.le_refl _) (Nat.le_refl _) hK
  · rw [if_neg hc10] at hE
    refine Wp.iconst dc_X5_hasRoom_13 ic_1 ?_
    refine Wp.goto (tgt := 18) dc_X5_hasRoom_14 (by decide) ?_
    cases hE
    exact Wp.ireturn dc_X5_hasRoom_18 rfl Nr.z1.1 (Nat.le_refl _) (Nat.le_refl _) hK
theorem ok_X5_hasRoom  {σ : SS}   {o}   (hE : X5_hasRoom  σ   = some o) : Runs 0 0 0 mi_X5_hasRoom [vr 4 0] (hp σ) (fun v h => v = some (vi o) ∧ h = hp σ) := by
  refine Runs.of pn_X5 (Nat.le_of_ble_eq_true rfl) ?_
  exact ok_X5_hasRoom_j0   hE ⟨rfl, rfl⟩
def X5_append_P3 (Q : Option AV → AH → Prop)   (x1 : Int32) (ss : Int32 × SS) : Prop := Ws 0 mi_X5_append Q 3 [some (vr 4 0), some (vi x1), some (vi ss.1)] [] ss.2
def X5_append_R3 (Q : Option AV → AH → Prop)   (x1 : Int32) (tt : SS) : Prop := ∀ z1 z2 : Option AV, Ws 0 mi_X5_append Q 58 [some (vr 4 0), z1, z2] [] tt
theorem ok_X5_append_j52 {Q : Option AV → AH → Prop}  {σ : SS}  {x1 : Int32} {x2 : Int32} {o}    (hE : X5_append_j52  σ  x1 x2 = some o) (hS : ∀ ss, o = Sum.inl ss → (X5_append_P3  Q   x1) ss) (hT : ∀ tt, o = Sum.inr tt → (X5_append_R3  Q   x1) tt) : Ws 0 mi_X5_append Q 52 [some (vr 4 0), some (vi x1), some (vi x2)] [] σ := by
  unfold X5_append_j52 at hE
  obtain ⟨x2_52, e_52, hE⟩ := bnS hE
  refine Wp.iinc dc_X5_append_52 rfl ((ii ic_m8).trans e_52) (by decide) ?_
  refine Wp.goto (tgt := 3) dc_X5_append_55 (by decide) ?_
  cases hE
  exact hS _ rfl
theorem ok_X5_append_l3c {Q : Option AV → AH → Prop}  {σ : SS}  {x1 : Int32} {x2 : Int32} {o}    (hE : X5_append_l3c  σ  x1 x2 = some o) (hS : ∀ ss, o = Sum.inl ss → (X5_append_P3  Q   x1) ss) (hT : ∀ tt, o = Sum.inr tt → (X5_append_R3  Q   x1) tt) : Ws 0 mi_X5_append Q 3 [some (vr 4 0), some (vi x1), some (vi x2)] [] σ := by
  unfold X5_append_l3c at hE
  refine Wp.iload_n dc_X5_append_3 rfl ?_
  refine Wp.if_lt (tgt := 58) dc_X5_append_4 (by decide) (fun hc4 => ?_) (fun hc4 => ?_)
  · rw [if_pos hc4] at hE
    cases hE
    exact hT _ rfl _ _
  · rw [if_neg hc4] at hE
    refine Wp.aload_n dc_X5_append_7 rfl ?_
    refine Wp.sgetI dc_X5_append_8 fw_X5_22 (mO4 (by decide)) ?_
    refine Wp.if_lt (tgt := 52) dc_X5_append_11 (by decide) (fun hc11 => ?_) (fun hc11 => ?_)
    · rw [if_pos hc11] at hE
      exact ok_X5_append_j52   hE hS hT
    · rw [if_neg hc11] at hE
      refine Wp.aload_n dc_X5_append_14 rfl ?_
      refine Wp.sgetI dc_X5_append_15 fw_X5_22 (mO4 (by decide)) ?_
      refine Wp.aload_n dc_X5_append_18 rfl ?_
      refine Wp.sgetR (t := 31) dc_X5_append_19 fw_X5_11 (mO4 (by decide)) rfl ?_
      refine Wp.salenI dc_X5_append_22 (mO13 (by decide)) ?_
      refine Wp.icmp_ge (tgt := 52) dc_X5_append_23 (by decide) (fun hc23 => ?_) (fun hc23 => ?_)
      · rw [if_pos hc23] at hE
        exact ok_X5_append_j52   hE hS hT
      · rw [if_neg hc23] at hE
        refine Wp.aload_n dc_X5_append_26 rfl ?_
        refine Wp.sgetR (t := 31) dc_X5_append_27 fw_X5_11 (mO4 (by decide)) rfl ?_
        refine Wp.aload_n dc_X5_append_30 rfl ?_
        refine Wp.sgetI dc_X5_append_31 fw_X5_22 (mO4 (by decide)) ?_
        refine Wp.iload_n dc_X5_append_34 rfl ?_
        refine Wp.iload_n dc_X5_append_35 rfl ?_
        refine Wp.iushr dc_X5_append_36 ?_
        refine Wp.sipush dc_X5_append_37 sp_255 ?_
        refine Wp.iand dc_X5_append_40 ?_
        obtain ⟨j41, h41, hE⟩ := bnd hE
        refine Wp.siast dc_X5_append_41 (mO13 (by decide)) h41 ?_
        obtain ⟨σ41, es_41, hE⟩ := bnS hE
        rw [es_41]
        refine Wp.aload_n dc_X5_append_42 rfl ?_
        refine Wp.dup dc_X5_append_43 rfl ?_
        refine Wp.sgetI dc_X5_append_44 fw_X5_22 (mO4 (by decide)) ?_
        refine Wp.iconst dc_X5_append_47 ic_1 ?_
        refine Wp.iadd dc_X5_append_48 ?_
        refine Wp.sputI dc_X5_append_49 fw_X5_22 (mO4 (by decide)) (Nr.i _) ?_
        obtain ⟨σ49, es_49, hE⟩ := bnS hE
        rw [es_49]
        exact ok_X5_append_j52   hE hS hT
theorem ok_X5_append_l3 {Q : Option AV → AH → Prop}  {σ : SS}  {x1 : Int32} {x2 : Int32} {o}    (hE : X5_append_l3  σ  x1 x2 = some o) (hK : Q (some (vi o.1)) (hp o.2)) : Ws 0 mi_X5_append Q 3 [some (vr 4 0), some (vi x1), some (vi x2)] [] σ := by
  unfold X5_append_l3 at hE
  obtain ⟨t3, h1, hE⟩ := bnd hE
  refine iter_ok (P := (X5_append_P3  Q   x1)) (R := (X5_append_R3  Q   x1)) (fun ss o h2 hS hT => ?_) NF _ _ h1 ?_
  · skip
    exact ok_X5_append_l3c   h2 hS hT
  · intro z1 z2
    show Ws 0 mi_X5_append Q 58 [some (vr 4 0), z1, z2] [] t3
    refine Wp.aload_n dc_X5_append_58 rfl ?_
    refine Wp.sgetI dc_X5_append_59 fw_X5_22 (mO4 (by decide)) ?_
    cases hE
    exact Wp.ireturn dc_X5_append_62 rfl rfl (Nat.le_refl _) (Nat.le_refl _) hK
theorem ok_X5_append_j0 {Q : Option AV → AH → Prop}  {σ : SS}  {x1 : Int32} {o} {z2 : Option AV}   (hE : X5_append_j0  σ  x1 = some o) (hK : Q (some (vi o.1)) (hp o.2)) : Ws 0 mi_X5_append Q 0 [some (vr 4 0), some (vi x1), z2] [] σ := by
  unfold X5_append_j0 at hE
  refine Wp.bipush dc_X5_append_0 bp_24 ?_
  refine Wp.istore_n dc_X5_append_2 (by decide) ?_
  exact ok_X5_append_l3   hE hK
theorem ok_X5_append  {σ : SS}  {x1 : Int32} {o}   (hE : X5_append  σ  x1 = some o) : Runs 0 0 0 mi_X5_append [vr 4 0, vi x1] (hp σ) (fun v h => v = some (vi o.1) ∧ h = hp o.2) := by
  refine Runs.of pn_X5 (Nat.le_of_ble_eq_true rfl) ?_
  exact ok_X5_append_j0   hE ⟨rfl, rfl⟩
theorem ok_X5_begin_j0 {Q : Option AV → AH → Prop}  {σ : SS}  {x1 : Int32} {o}    (hE : X5_begin_j0  σ  x1 = some o) (hK : Q none (hp o)) : Ws 8 mi_X5_begin Q 0 [some (vr 4 0), some (vi x1)] [] σ := by
  unfold X5_begin_j0 at hE
  refine Wp.aload_n dc_X5_begin_0 rfl ?_
  refine Wp.iload_n dc_X5_begin_1 rfl ?_
  refine Wp.aload_n dc_X5_begin_2 rfl ?_
  refine Wp.sgetI dc_X5_begin_3 fw_X5_22 (mO4 (by decide)) ?_
  refine Wp.mmin dc_X5_begin_6 lw_X5_25 ms_min mi_Math mk_min (by decide) (Nat.le_refl _) (Nat.le_refl _) (Nat.le_of_ble_eq_true rfl) ?_
  refine Wp.sputI dc_X5_begin_9 fw_X5_31 (mO4 (by decide)) (Nr.i _) ?_
  obtain ⟨σ9, es_9, hE⟩ := bnS hE
  rw [es_9]
  refine Wp.aload_n dc_X5_begin_12 rfl ?_
  refine Wp.iconst dc_X5_begin_13 ic_0 ?_
  refine Wp.sputI dc_X5_begin_14 fw_X5_22 (mO4 (by decide)) (Nr.i _) ?_
  obtain ⟨σ14, es_14, hE⟩ := bnS hE
  rw [es_14]
  refine Wp.aload_n dc_X5_begin_17 rfl ?_
  refine Wp.iconst dc_X5_begin_18 ic_0 ?_
  refine Wp.sputI dc_X5_begin_19 fw_X5_34 (mO4 (by decide)) (Nr.i _) ?_
  obtain ⟨σ19, es_19, hE⟩ := bnS hE
  rw [es_19]
  refine Wp.aload_n dc_X5_begin_22 rfl ?_
  refine Wp.iconst dc_X5_begin_23 ic_0 ?_
  refine Wp.sputI dc_X5_begin_24 fw_X5_15 (mO4 (by decide)) (Nr.i _) ?_
  obtain ⟨σ24, es_24, hE⟩ := bnS hE
  rw [es_24]
  refine Wp.aload_n dc_X5_begin_27 rfl ?_
  refine Wp.iconst dc_X5_begin_28 ic_m1 ?_
  refine Wp.sputI dc_X5_begin_29 fw_X5_19 (mO4 (by decide)) (Nr.i _) ?_
  obtain ⟨σ29, es_29, hE⟩ := bnS hE
  rw [es_29]
  refine Wp.aload_n dc_X5_begin_32 rfl ?_
  obtain ⟨σ33, h33, hE⟩ := bnd hE
  refine Wp.cV0v (ok_X5_next  h33) dc_X5_begin_33 mw_X5_37 (mO4 (by decide)) (by decide) (Nat.le_of_ble_eq_true rfl) ?_
  cases hE
  exact Wp.return dc_X5_begin_36 rfl (Nat.le_refl _) (Nat.le_refl _) hK
theorem ok_X5_begin  {σ : SS}  {x1 : Int32} {o}   (hE : X5_begin  σ  x1 = some o) : Runs 8 0 0 mi_X5_begin [vr 4 0, vi x1] (hp σ) (fun v h => v = none ∧ h = hp o) := by
  refine Runs.of pn_X5 (Nat.le_of_ble_eq_true rfl) ?_
  exact ok_X5_begin_j0   hE ⟨rfl, rfl⟩
theorem ok_X5_faultKind_j0 {Q : Option AV → AH → Prop}  {σ : SS}   {o}    (hE : X5_faultKind_j0  σ   = some o) (hK : Q (some (vi o)) (hp σ)) : Ws 0 mi_X5_faultKind Q 0 [some (vr 4 0)] [] σ := by
  unfold X5_faultKind_j0 at hE
  refine Wp.aload_n dc_X5_faultKind_0 rfl ?_
  refine Wp.sgetI dc_X5_faultKind_1 fw_X5_15 (mO4 (by decide)) ?_
  cases hE
  exact Wp.ireturn dc_X5_faultKind_4 rfl rfl (Nat.le_refl _) (Nat.le_refl _) hK
theorem ok_X5_faultKind  {σ : SS}   {o}   (hE : X5_faultKind  σ   = some o) : Runs 0 0 0 mi_X5_faultKind [vr 4 0] (hp σ) (fun v h => v = some (vi o) ∧ h = hp σ) := by
  refine Runs.of pn_X5 (Nat.le_of_ble_eq_true rfl) ?_
  exact ok_X5_faultKind_j0   hE ⟨rfl, rfl⟩
theorem ok_X5_faultPlace_j0 {Q : Option AV → AH → Prop}  {σ : SS}   {o}    (hE : X5_faultPlace_j0  σ   = some o) (hK : Q (some (vi o)) (hp σ)) : Ws 0 mi_X5_faultPlace Q 0 [some (vr 4 0)] [] σ := by
  unfold X5_faultPlace_j0 at hE
  refine Wp.aload_n dc_X5_faultPlace_0 rfl ?_
  refine Wp.sgetI dc_X5_faultPlace_1 fw_X5_19 (mO4 (by decide)) ?_
  cases hE
  exact Wp.ireturn dc_X5_faultPlace_4 rfl rfl (Nat.le_refl _) (Nat.le_refl _) hK
theorem ok_X5_faultPlace  {σ : SS}   {o}   (hE : X5_faultPlace  σ   = some o) : Runs 0 0 0 mi_X5_faultPlace [vr 4 0] (hp σ) (fun v h => v = some (vi o) ∧ h = hp σ) := by
  refine Runs.of pn_X5 (Nat.le_of_ble_eq_true rfl) ?_
  exact ok_X5_faultPlace_j0   hE ⟨rfl, rfl⟩
theorem ok_X5_word_j0 {Q : Option AV → AH → Prop}  {σ : SS}   {o}    (hE : X5_word_j0  σ   = some o) (hK : Q (some (vi o)) (hp σ)) : Ws 0 mi_X5_word Q 0 [some (vr 4 0)] [] σ := by
  unfold X5_word_j0 at hE
  refine Wp.aload_n dc_X5_word_0 rfl ?_
  refine Wp.sgetI dc_X5_word_1 fw_X5_60 (mO4 (by decide)) ?_
  cases hE
  exact Wp.ireturn dc_X5_word_4 rfl rfl (Nat.le_refl _) (Nat.le_refl _) hK
theorem ok_X5_word  {σ : SS}   {o}   (hE : X5_word  σ   = some o) : Runs 0 0 0 mi_X5_word [vr 4 0] (hp σ) (fun v h => v = some (vi o) ∧ h = hp σ) := by
  refine Runs.of pn_X5 (Nat.le_of_ble_eq_true rfl) ?_
  exact ok_X5_word_j0   hE ⟨rfl, rfl⟩
theorem ok_X6_isNumber_j0 {Q : Option AV → AH → Prop}  {σ : SS}  {x1 : Int32} {o} {z0 : Option AV}   (hE : X6_isNumber_j0  σ  x1 = some o) (hK : Q (some (vi o)) (hp σ)) : Ws 0 mi_X6_isNumber Q 0 [z0, some (vi x1)] [] σ := by
  unfold X6_isNumber_j0 at hE
  refine Wp.iload_n dc_X6_isNumber_0 rfl ?_
  refine Wp.if_lt (tgt := 13) dc_X6_isNumber_1 (by decide) (fun hc1 => ?_) (fun hc1 => ?_)
  · rw [if_pos hc1] at hE
    refine Wp.iconst dc_X6_isNumber_13 ic_0 ?_
    cases hE
    exact Wp.ireturn dc_X6_isNumber_14 rfl Nr.z0.1 (Nat.le_refl _) (Nat.le_refl _) hK
  · rw [if_neg hc1] at hE
    refine Wp.iload_n dc_X6_isNumber_4 rfl ?_
    refine Wp.iconst dc_X6_isNumber_5 ic_4 ?_
    refine Wp.icmp_ge (tgt := 13) dc_X6_isNumber_6 (by decide) (fun hc6 => ?_) (fun hc6 => ?_)
    · rw [if_pos hc6] at hE
      refine Wp.iconst dc_X6_isNumber_13 ic_0 ?_
      cases hE
      exact Wp.ireturn dc_X6_isNumber_14 rfl Nr.z0.1 (Nat.le_refl _) (Nat.le_refl _) hK
    · rw [if_neg hc6] at hE
      refine Wp.iconst dc_X6_isNumber_9 ic_1 ?_
      refine Wp.goto (tgt := 14) dc_X6_isNumber_10 (by decide) ?_
      cases hE
      exact Wp.ireturn dc_X6_isNumber_14 rfl Nr.z1.1 (Nat.le_refl _) (Nat.le_refl _) hK
theorem ok_X6_isNumber  {σ : SS}  {x1 : Int32} {o}   (hE : X6_isNumber  σ  x1 = some o) : Runs 0 0 0 mi_X6_isNumber [vr 5 0, vi x1] (hp σ) (fun v h => v = some (vi o) ∧ h = hp σ) := by
  refine Runs.of pn_X6 (Nat.le_of_ble_eq_true rfl) ?_
  exact ok_X6_isNumber_j0   hE ⟨rfl, rfl⟩
theorem ok_X6_isSort_j0 {Q : Option AV → AH → Prop}  {σ : SS}  {x1 : Int32} {o} {z0 : Option AV}   (hE : X6_isSort_j0  σ  x1 = some o) (hK : Q (some (vi o)) (hp σ)) : Ws 0 mi_X6_isSort Q 0 [z0, some (vi x1)] [] σ := by
  unfold X6_isSort_j0 at hE
  refine Wp.iload_n dc_X6_isSort_0 rfl ?_
  refine Wp.if_lt (tgt := 13) dc_X6_isSort_1 (by decide) (fun hc1 => ?_) (fun hc1 => ?_)
  · rw [if_pos hc1] at hE
    refine Wp.iconst dc_X6_isSort_13 ic_0 ?_
    cases hE
    exact Wp.ireturn dc_X6_isSort_14 rfl Nr.z0.1 (Nat.le_refl _) (Nat.le_refl _) hK
  · rw [if_neg hc1] at hE
    refine Wp.iload_n dc_X6_isSort_4 rfl ?_
    refine Wp.iconst dc_X6_isSort_5 ic_3 ?_
    refine Wp.icmp_gt (tgt := 13) dc_X6_isSort_6 (by decide) (fun hc6 => ?_) (fun hc6 => ?_)
    · rw [if_pos hc6] at hE
      refine Wp.iconst dc_X6_isSort_13 ic_0 ?_
      cases hE
      exact Wp.ireturn dc_X6_isSort_14 rfl Nr.z0.1 (Nat.le_refl _) (Nat.le_refl _) hK
    · rw [if_neg hc6] at hE
      refine Wp.iconst dc_X6_isSort_9 ic_1 ?_
      refine Wp.goto (tgt := 14) dc_X6_isSort_10 (by decide) ?_
      cases hE
      exact Wp.ireturn dc_X6_isSort_14 rfl Nr.z1.1 (Nat.le_refl _) (Nat.le_refl _) hK
theorem ok_X6_isSort  {σ : SS}  {x1 : Int32} {o}   (hE : X6_isSort  σ  x1 = some o) : Runs 0 0 0 mi_X6_isSort [vr 5 0, vi x1] (hp σ) (fun v h => v = some (vi o) ∧ h = hp σ) := by
  refine Runs.of pn_X6 (Nat.le_of_ble_eq_true rfl) ?_
  exact ok_X6_isSort_j0   hE ⟨rfl, rfl⟩
theorem ok_X6_isThere_j0 {Q : Option AV → AH → Prop}  {σ : SS}  {x1 : Int32} {o}    (hE : X6_isThere_j0  σ  x1 = some o) (hK : Q (some (vi o)) (hp σ)) : Ws 1 mi_X6_isThere Q 0 [some (vr 5 0), some (vi x1)] [] σ := by
  unfold X6_isThere_j0 at hE
  refine Wp.aload_n dc_X6_isThere_0 rfl ?_
  refine Wp.sgetR (t := 20) dc_X6_isThere_1 fw_X6_20 (mO5 (by decide)) rfl ?_
  refine Wp.iconst dc_X6_isThere_4 ic_2 ?_
  refine Wp.iload_n dc_X6_isThere_5 rfl ?_
  obtain ⟨v6, h6, hE⟩ := bnd hE
  refine Wp.cV2i (ok_X4_at (by decide) h6) dc_X6_isThere_6 mw_X6_24 (mO3 (by decide)) (by decide) (Nat.le_of_ble_eq_true rfl) ?_
  refine Wp.iconst dc_X6_isThere_9 ic_1 ?_
  refine Wp.icmp_ne (tgt := 17) dc_X6_isThere_10 (by decide) (fun hc10 => ?_) (fun hc10 => ?_)
  · rw [if_neg hc10] at hE
    refine Wp.iconst dc_X6_isThere_17 ic_0 ?_
    cases hE
    exact Wp.ireturn dc_X6_isThere_18 rfl Nr.z0.1 (Nat.le_refl _) (Nat.le_refl _) hK
  · rw [if_pos hc10] at hE
    refine Wp.iconst dc_X6_isThere_13 ic_1 ?_
    refine Wp.goto (tgt := 18) dc_X6_isThere_14 (by decide) ?_
    cases hE
    exact Wp.ireturn dc_X6_isThere_18 rfl Nr.z1.1 (Nat.le_refl _) (Nat.le_refl _) hK
theorem ok_X6_isThere  {σ : SS}  {x1 : Int32} {o}   (hE : X6_isThere  σ  x1 = some o) : Runs 1 0 0 mi_X6_isThere [vr 5 0, vi x1] (hp σ) (fun v h => v = some (vi o) ∧ h = hp σ) := by
  refine Runs.of pn_X6 (Nat.le_of_ble_eq_true rfl) ?_
  exact ok_X6_isThere_j0   hE ⟨rfl, rfl⟩
theorem ok_X6_alike_j0 {Q : Option AV → AH → Prop}  {σ : SS}  {x1 : Int32} {x2 : Int32} {o}    (hE : X6_alike_j0  σ  x1 x2 = some o) (hK : Q (some (vi o)) (hp σ)) : Ws 1 mi_X6_alike Q 0 [some (vr 5 0), some (vi x1), some (vi x2)] [] σ := by
  unfold X6_alike_j0 at hE
  refine Wp.aload_n dc_X6_alike_0 rfl ?_
  refine Wp.sgetR (t := 20) dc_X6_alike_1 fw_X6_20 (mO5 (by decide)) rfl ?_
  refine Wp.iconst dc_X6_alike_4 ic_1 ?_
  refine Wp.iload_n dc_X6_alike_5 rfl ?_
  obtain ⟨v6, h6, hE⟩ := bnd hE
  refine Wp.cV2i (ok_X4_at (by decide) h6) dc_X6_alike_6 mw_X6_24 (mO3 (by decide)) (by decide) (Nat.le_of_ble_eq_true rfl) ?_
  refine Wp.aload_n dc_X6_alike_9 rfl ?_
  refine Wp.sgetR (t := 20) dc_X6_alike_10 fw_X6_20 (mO5 (by decide)) rfl ?_
  refine Wp.iconst dc_X6_alike_13 ic_1 ?_
  refine Wp.iload_n dc_X6_alike_14 rfl ?_
  obtain ⟨v15, h15, hE⟩ := bnd hE
  refine Wp.cV2i (ok_X4_at (by decide) h15) dc_X6_alike_15 mw_X6_24 (mO3 (by decide)) (by decide) (Nat.le_of_ble_eq_true rfl) ?_
  refine Wp.icmp_ne (tgt := 25) dc_X6_alike_18 (by decide) (fun hc18 => ?_) (fun hc18 => ?_)
  · rw [if_neg hc18] at hE
    refine Wp.iconst dc_X6_alike_25 ic_0 ?_
    cases hE
    exact Wp.ireturn dc_X6_alike_26 rfl Nr.z0.1 (Nat.le_refl _) (Nat.le_refl _) hK
  · rw [if_pos hc18] at hE
    refine Wp.iconst dc_X6_alike_21 ic_1 ?_
    refine Wp.goto (tgt := 26) dc_X6_alike_22 (by decide) ?_
    cases hE
    exact Wp.ireturn dc_X6_alike_26 rfl Nr.z1.1 (Nat.le_refl _) (Nat.le_refl _) hK
theorem ok_X6_alike  {σ : SS}  {x1 : Int32} {x2 : Int32} {o}   (hE : X6_alike  σ  x1 x2 = some o) : Runs 1 0 0 mi_X6_alike [vr 5 0, vi x1, vi x2] (hp σ) (fun v h => v = some (vi o) ∧ h = hp σ) := by
  refine Runs.of pn_X6 (Nat.le_of_ble_eq_true rfl) ?_
  exact ok_X6_alike_j0   hE ⟨rfl, rfl⟩
theorem ok_X6_holds_j0 {Q : Option AV → AH → Prop}  {σ : SS}  {x1 : Int32} {x2 : Int32} {x3 : Int32} {o}    (hE : X6_holds_j0  σ  x1 x2 x3 = some o) (hK : Q (some (vi o)) (hp σ)) : Ws 1 mi_X6_holds Q 0 [some (vr 5 0), some (vi x1), some (vi x2), some (vi x3)] [] σ := by
  unfold X6_holds_j0 at hE
  refine Wp.iload_n dc_X6_holds_0 rfl ?_
  refine Wp.if_lt (tgt := 27) dc_X6_holds_1 (by decide) (fun hc1 => ?_) (fun hc1 => ?_)
  · rw [if_pos hc1] at hE
    refine Wp.iconst dc_X6_holds_27 ic_0 ?_
    cases hE
    exact Wp.ireturn dc_X6_holds_28 rfl Nr.z0.1 (Nat.le_refl _) (Nat.le_refl _) hK
  · rw [if_neg hc1] at hE
    refine Wp.iload_n dc_X6_holds_4 rfl ?_
    refine Wp.if_lt (tgt := 27) dc_X6_holds_5 (by decide) (fun hc5 => ?_) (fun hc5 => ?_)
    · rw [if_pos hc5] at hE
      refine Wp.iconst dc_X6_holds_27 ic_0 ?_
      cases hE
      exact Wp.ireturn dc_X6_holds_28 rfl Nr.z0.1 (Nat.le_refl _) (Nat.le_refl _) hK
    · rw [if_neg hc5] at hE
      refine Wp.iload_n dc_X6_holds_8 rfl ?_
      refine Wp.aload_n dc_X6_holds_9 rfl ?_
      refine Wp.sgetR (t := 20) dc_X6_holds_10 fw_X6_20 (mO5 (by decide)) rfl ?_
      refine Wp.iconst dc_X6_holds_13 ic_0 ?_
      refine Wp.iload_n dc_X6_holds_14 rfl ?_
      obtain ⟨v15, h15, hE⟩ := bnd hE
      refine Wp.cV2i (ok_X4_at (by decide) h15) dc_X6_holds_15 mw_X6_24 (mO3 (by decide)) (by decide) (Nat.le_of_ble_eq_true rfl) ?_
      refine Wp.iload_n dc_X6_holds_18 rfl ?_
      refine Wp.isub dc_X6_holds_19 ?_
      refine Wp.icmp_gt (tgt := 27) dc_X6_holds_20 (by decide) (fun hc20 => ?_) (fun hc20 => ?_)
      · rw [if_pos hc20] at hE
        refine Wp.iconst dc_X6_holds_27 ic_0 ?_
        cases hE
        exact Wp.ireturn dc_X6_holds_28 rfl Nr.z0.1 (Nat.le_refl _) (Nat.le_refl _) hK
      · rw [if_neg hc20] at hE
        refine Wp.iconst dc_X6_holds_23 ic_1 ?_
        refine Wp.goto (tgt := 28) dc_X6_holds_24 (by decide) ?_
        cases hE
        exact Wp.ireturn dc_X6_holds_28 rfl Nr.z1.1 (Nat.le_refl _) (Nat.le_refl _) hK
theorem ok_X6_holds  {σ : SS}  {x1 : Int32} {x2 : Int32} {x3 : Int32} {o}   (hE : X6_holds  σ  x1 x2 x3 = some o) : Runs 1 0 0 mi_X6_holds [vr 5 0, vi x1, vi x2, vi x3] (hp σ) (fun v h => v = some (vi o) ∧ h = hp σ) := by
  refine Runs.of pn_X6 (Nat.le_of_ble_eq_true rfl) ?_
  exact ok_X6_holds_j0   hE ⟨rfl, rfl⟩
theorem ok_X6_indexOf_j0 {Q : Option AV → AH → Prop}  {σ : SS}  {x1 : Int32} {x2 : Int32} {o}    (hE : X6_indexOf_j0  σ  x1 x2 = some o) (hK : Q (some (vi o)) (hp σ)) : Ws 2 mi_X6_indexOf Q 0 [some (vr 5 0), some (vi x1), some (vi x2)] [] σ := by
  unfold X6_indexOf_j0 at hE
  refine Wp.aload_n dc_X6_indexOf_0 rfl ?_
  refine Wp.iload_n dc_X6_indexOf_1 rfl ?_
  obtain ⟨v2, h2, hE⟩ := bnd hE
  refine Wp.cV1i (ok_X6_isNumber  h2) dc_X6_indexOf_2 mw_X6_47 (mO5 (by decide)) (by decide) (Nat.le_of_ble_eq_true rfl) ?_
  refine Wp.if_eq (tgt := 27) dc_X6_indexOf_5 (by decide) (fun hc5 => ?_) (fun hc5 => ?_)
  · rw [if_pos hc5] at hE
    refine Wp.iconst dc_X6_indexOf_27 ic_m1 ?_
    cases hE
    exact Wp.ireturn dc_X6_indexOf_28 rfl rfl (Nat.le_refl _) (Nat.le_refl _) hK
  · rw [if_neg hc5] at hE
    refine Wp.aload_n dc_X6_indexOf_8 rfl ?_
    refine Wp.iload_n dc_X6_indexOf_9 rfl ?_
    refine Wp.iload_n dc_X6_indexOf_10 rfl ?_
    refine Wp.iconst dc_X6_indexOf_11 ic_1 ?_
    obtain ⟨v12, h12, hE⟩ := bnd hE
    refine Wp.cV3i (ok_X6_holds  h12) dc_X6_indexOf_12 mw_X6_51 (mO5 (by decide)) (by decide) (Nat.le_of_ble_eq_true rfl) ?_
    refine Wp.if_eq (tgt := 27) dc_X6_indexOf_15 (by decide) (fun hc15 => ?_) (fun hc15 => ?_)
    · rw [if_pos hc15] at hE
      refine Wp.iconst dc_X6_indexOf_27 ic_m1 ?_
      cases hE
      exact Wp.ireturn dc_X6_indexOf_28 rfl rfl (Nat.le_refl _) (Nat.le_refl _) hK
    · rw [if_neg hc15] at hE
      refine Wp.iload_n dc_X6_indexOf_18 rfl ?_
      refine Wp.bipush dc_X6_indexOf_19 bp_60 ?_
      refine Wp.imul dc_X6_indexOf_21 ?_
      refine Wp.iload_n dc_X6_indexOf_22 rfl ?_
      refine Wp.iadd dc_X6_indexOf_23 ?_
      refine Wp.goto (tgt := 28) dc_X6_indexOf_24 (by decide) ?_
      cases hE
      exact Wp.ireturn dc_X6_indexOf_28 rfl rfl (Nat.le_refl _) (Nat.le_refl _) hK
theorem ok_X6_indexOf  {σ : SS}  {x1 : Int32} {x2 : Int32} {o}   (hE : X6_indexOf  σ  x1 x2 = some o) : Runs 2 0 0 mi_X6_indexOf [vr 5 0, vi x1, vi x2] (hp σ) (fun v h => v = some (vi o) ∧ h = hp σ) := by
  refine Runs.of pn_X6 (Nat.le_of_ble_eq_true rfl) ?_
  exact ok_X6_indexOf_j0   hE ⟨rfl, rfl⟩
theorem ok_X6_cutTo_j0 {Q : Option AV → AH → Prop}  {σ : SS}  {x0 : Int32} {y1 : Int64} {o}    (hE : X6_cutTo_j0  σ  x0 y1 = some o) (hK : Q (some (vl o)) (hp σ)) : Ws 0 mi_X6_cutTo Q 0 [some (vi x0), some (vl y1), none] [] σ := by
  unfold X6_cutTo_j0 at hE
  refine Wp.iload_n dc_X6_cutTo_0 rfl ?_
  refine Wp.if_ne (tgt := 11) dc_X6_cutTo_1 (by decide) (fun hc1 => ?_) (fun hc1 => ?_)
  · rw [if_neg hc1] at hE
    refine Wp.iload_n dc_X6_cutTo_11 rfl ?_
    refine Wp.iconst dc_X6_cutTo_12 ic_1 ?_
    refine Wp.icmp_ne (tgt := 23) dc_X6_cutTo_13 (by decide) (fun hc13 => ?_) (fun hc13 => ?_)
    · rw [if_neg hc13] at hE
      refine Wp.iload_n dc_X6_cutTo_23 rfl ?_
      refine Wp.iconst dc_X6_cutTo_24 ic_2 ?_
      refine Wp.icmp_ne (tgt := 34) dc_X6_cutTo_25 (by decide) (fun hc25 => ?_) (fun hc25 => ?_)
      · rw [if_neg hc25] at hE
        refine Wp.lload_n dc_X6_cutTo_34 rfl ?_
        cases hE
        exact Wp.lreturn dc_X6_cutTo_35 rfl (Nat.le_refl _) (Nat.le_refl _) hK
      · rw [if_pos hc25] at hE
        refine Wp.lload_n dc_X6_cutTo_28 rfl ?_
        refine Wp.l2i dc_X6_cutTo_29 ?_
        refine Wp.i2l dc_X6_cutTo_30 ?_
        refine Wp.goto (tgt := 35) dc_X6_cutTo_31 (by decide) ?_
        cases hE
        exact Wp.lreturn dc_X6_cutTo_35 rfl (Nat.le_refl _) (Nat.le_refl _) hK
    · rw [if_pos hc13] at hE
      refine Wp.lload_n dc_X6_cutTo_16 rfl ?_
      refine Wp.l2i dc_X6_cutTo_17 ?_
      refine Wp.i2s dc_X6_cutTo_18 ?_
      refine Wp.i2l dc_X6_cutTo_19 ?_
      refine Wp.goto (tgt := 35) dc_X6_cutTo_20 (by decide) ?_
      cases hE
      exact Wp.lreturn dc_X6_cutTo_35 rfl (Nat.le_refl _) (Nat.le_refl _) hK
  · rw [if_pos hc1] at hE
    refine Wp.lload_n dc_X6_cutTo_4 rfl ?_
    refine Wp.l2i dc_X6_cutTo_5 ?_
    refine Wp.i2b dc_X6_cutTo_6 ?_
    refine Wp.i2l dc_X6_cutTo_7 ?_
    refine Wp.goto (tgt := 35) dc_X6_cutTo_8 (by decide) ?_
    cases hE
    exact Wp.lreturn dc_X6_cutTo_35 rfl (Nat.le_refl _) (Nat.le_refl _) hK
theorem ok_X6_cutTo  {σ : SS}  {x0 : Int32} {y1 : Int64} {o}   (hE : X6_cutTo  σ  x0 y1 = some o) : Runs 0 0 0 mi_X6_cutTo [vi x0, vl y1] (hp σ) (fun v h => v = some (vl o) ∧ h = hp σ) := by
  refine Runs.of pn_X6 (Nat.le_of_ble_eq_true rfl) ?_
  exact ok_X6_cutTo_j0   hE ⟨rfl, rfl⟩
theorem ok_X6_put_j0 {Q : Option AV → AH → Prop}  {σ : SS}  {x1 : Int32} {x2 : Int32} {y3 : Int64} {o} {z5 : Option AV}   (hE : X6_put_j0  σ  x1 x2 y3 = some o) (hK : Q (some (vi o.1)) (hp o.2)) : Ws 3 mi_X6_put Q 0 [some (vr 5 0), some (vi x1), some (vi x2), some (vl y3), none, z5] [] σ := by
  unfold X6_put_j0 at hE
  refine Wp.aload_n dc_X6_put_0 rfl ?_
  refine Wp.iload_n dc_X6_put_1 rfl ?_
  refine Wp.iload_n dc_X6_put_2 rfl ?_
  obtain ⟨v3, h3, hE⟩ := bnd hE
  refine Wp.cV2i (ok_X6_indexOf  h3) dc_X6_put_3 mw_X6_35 (mO5 (by decide)) (by decide) (Nat.le_of_ble_eq_true rfl) ?_
  refine Wp.istore dc_X6_put_6 (by decide) ?_
  refine Wp.iload dc_X6_put_8 rfl ?_
  refine Wp.if_lt (tgt := 43) dc_X6_put_10 (by decide) (fun hc10 => ?_) (fun hc10 => ?_)
  · rw [if_pos hc10] at hE
    refine Wp.iconst dc_X6_put_43 ic_1 ?_
    cases hE
    exact Wp.ireturn dc_X6_put_44 rfl Nr.z1.1 (Nat.le_refl _) (Nat.le_refl _) hK
  · rw [if_neg hc10] at hE
    refine Wp.iload dc_X6_put_13 rfl ?_
    refine Wp.aload_n dc_X6_put_15 rfl ?_
    refine Wp.sgetR (t := 5) dc_X6_put_16 fw_X6_11 (mO5 (by decide)) rfl ?_
    refine Wp.salenJ dc_X6_put_19 (mO14 (by decide)) ?_
    refine Wp.icmp_ge (tgt := 43) dc_X6_put_20 (by decide) (fun hc20 => ?_) (fun hc20 => ?_)
    · rw [if_pos hc20] at hE
      refine Wp.iconst dc_X6_put_43 ic_1 ?_
      cases hE
      exact Wp.ireturn dc_X6_put_44 rfl Nr.z1.1 (Nat.le_refl _) (Nat.le_refl _) hK
    · rw [if_neg hc20] at hE
      refine Wp.aload_n dc_X6_put_23 rfl ?_
      refine Wp.sgetR (t := 5) dc_X6_put_24 fw_X6_11 (mO5 (by decide)) rfl ?_
      refine Wp.iload dc_X6_put_27 rfl ?_
      refine Wp.aload_n dc_X6_put_29 rfl ?_
      refine Wp.sgetR (t := 20) dc_X6_put_30 fw_X6_20 (mO5 (by decide)) rfl ?_
      refine Wp.iconst dc_X6_put_33 ic_1 ?_
      refine Wp.iload_n dc_X6_put_34 rfl ?_
      obtain ⟨v35, h35, hE⟩ := bnd hE
      refine Wp.cV2i (ok_X4_at (by decide) h35) dc_X6_put_35 mw_X6_24 (mO3 (by decide)) (by decide) (Nat.le_of_ble_eq_true rfl) ?_
      refine Wp.lload_n dc_X6_put_38 rfl ?_
      obtain ⟨v39, h39, hE⟩ := bnd hE
      refine Wp.cS2l (ok_X6_cutTo  h39) dc_X6_put_39 mw_X6_40 (by decide) (Nat.le_of_ble_eq_true rfl) ?_
      obtain ⟨j42, h42, hE⟩ := bnd hE
      refine Wp.slast dc_X6_put_42 (mO14 (by decide)) h42 ?_
      obtain ⟨σ42, es_42, hE⟩ := bnS hE
      rw [es_42]
      refine Wp.iconst dc_X6_put_43 ic_1 ?_
      cases hE
      exact Wp.ireturn dc_X6_put_44 rfl Nr.z1.1 (Nat.le_refl _) (Nat.le_refl _) hK
theorem ok_X6_put  {σ : SS}  {x1 : Int32} {x2 : Int32} {y3 : Int64} {o}   (hE : X6_put  σ  x1 x2 y3 = some o) : Runs 3 0 0 mi_X6_put [vr 5 0, vi x1, vi x2, vl y3] (hp σ) (fun v h => v = some (vi o.1) ∧ h = hp o.2) := by
  refine Runs.of pn_X6 (Nat.le_of_ble_eq_true rfl) ?_
  exact ok_X6_put_j0   hE ⟨rfl, rfl⟩
def X6_lay_P33 (Q : Option AV → AH → Prop)   (x1 : Int32) (x3 : Int32) (ss : Int32 × SS) : Prop := ∀ z2 : Option AV, Ws 4 mi_X6_lay Q 33 [some (vr 5 0), some (vi x1), z2, some (vi x3), some (vi ss.1)] [] ss.2
def X6_lay_R33 (Q : Option AV → AH → Prop)   (x1 : Int32) (x3 : Int32) (tt : SS) : Prop := ∀ z0 z1 z2 z3 z4 : Option AV, Ws 4 mi_X6_lay Q 54 [z0, z1, z2, z3, z4] [] tt
theorem ok_X6_lay_l33c {Q : Option AV → AH → Prop}  {σ : SS}  {x1 : Int32} {x3 : Int32} {x4 : Int32} {o} {z2 : Option AV}   (hE : X6_lay_l33c  σ  x1 x3 x4 = some o) (hS : ∀ ss, o = Sum.inl ss → (X6_lay_P33  Q   x1 x3) ss) (hT : ∀ tt, o = Sum.inr tt → (X6_lay_R33  Q   x1 x3) tt) : Ws 4 mi_X6_lay Q 33 [some (vr 5 0), some (vi x1), z2, some (vi x3), some (vi x4)] [] σ := by
  unfold X6_lay_l33c at hE
  refine Wp.iload dc_X6_lay_33 rfl ?_
  refine Wp.iload_n dc_X6_lay_35 rfl ?_
  refine Wp.icmp_ge (tgt := 54) dc_X6_lay_36 (by decide) (fun hc36 => ?_) (fun hc36 => ?_)
  · rw [if_pos hc36] at hE
    cases hE
    exact hT _ rfl _ _ _ _ _
  · rw [if_neg hc36] at hE
    refine Wp.aload_n dc_X6_lay_39 rfl ?_
    refine Wp.iload_n dc_X6_lay_40 rfl ?_
    refine Wp.iload dc_X6_lay_41 rfl ?_
    refine Wp.lconst dc_X6_lay_43 lc_0 ?_
    obtain ⟨p44, h44, hE⟩ := bnd hE
    refine Wp.cV3i (ok_X6_put  h44) dc_X6_lay_44 mw_X6_32 (mO5 (by decide)) (by decide) (Nat.le_of_ble_eq_true rfl) ?_
    refine Wp.pop dc_X6_lay_47 rfl ?_
    obtain ⟨x4_48, e_48, hE⟩ := bnS hE
    refine Wp.iinc dc_X6_lay_48 rfl ((ii ic_1).trans e_48) (by decide) ?_
    refine Wp.goto (tgt := 33) dc_X6_lay_51 (by decide) ?_
    cases hE
    exact hS _ rfl _
theorem ok_X6_lay_l33 {Q : Option AV → AH → Prop}  {σ : SS}  {x1 : Int32} {x3 : Int32} {x4 : Int32} {o} {z2 : Option AV}   (hE : X6_lay_l33  σ  x1 x3 x4 = some o) (hK : Q (some (vi o.1)) (hp o.2)) : Ws 4 mi_X6_lay Q 33 [some (vr 5 0), some (vi x1), z2, some (vi x3), some (vi x4)] [] σ := by
  unfold X6_lay_l33 at hE
  obtain ⟨t33, h1, hE⟩ := bnd hE
  refine iter_ok (P := (X6_lay_P33  Q   x1 x3)) (R := (X6_lay_R33  Q   x1 x3)) (fun ss o h2 hS hT => ?_) NF _ _ h1 ?_ _
  · intro z2
    exact ok_X6_lay_l33c   h2 hS hT
  · intro z0 z1 z2 z3 z4
    show Ws 4 mi_X6_lay Q 54 [z0, z1, z2, z3, z4] [] t33
    refine Wp.iconst dc_X6_lay_54 ic_1 ?_
    cases hE
    exact Wp.ireturn dc_X6_lay_55 rfl Nr.z1.1 (Nat.le_refl _) (Nat.le_refl _) hK
theorem ok_X6_lay_j0 {Q : Option AV → AH → Prop}  {σ : SS}  {x1 : Int32} {x2 : Int32} {x3 : Int32} {o} {z4 : Option AV}   (hE : X6_lay_j0  σ  x1 x2 x3 = some o) (hK : Q (some (vi o.1)) (hp o.2)) : Ws 4 mi_X6_lay Q 0 [some (vr 5 0), some (vi x1), some (vi x2), some (vi x3), z4] [] σ := by
  unfold X6_lay_j0 at hE
  refine Wp.aload_n dc_X6_lay_0 rfl ?_
  refine Wp.sgetR (t := 20) dc_X6_lay_1 fw_X6_20 (mO5 (by decide)) rfl ?_
  refine Wp.iconst dc_X6_lay_4 ic_0 ?_
  refine Wp.iload_n dc_X6_lay_5 rfl ?_
  refine Wp.iload_n dc_X6_lay_6 rfl ?_
  obtain ⟨σ7, h7, hE⟩ := bnd hE
  refine Wp.cV3v (ok_X4_put (by decide) h7) dc_X6_lay_7 mw_X6_28 (mO3 (by decide)) (by decide) (Nat.le_of_ble_eq_true rfl) ?_
  refine Wp.aload_n dc_X6_lay_10 rfl ?_
  refine Wp.sgetR (t := 20) dc_X6_lay_11 fw_X6_20 (mO5 (by decide)) rfl ?_
  refine Wp.iconst dc_X6_lay_14 ic_1 ?_
  refine Wp.iload_n dc_X6_lay_15 rfl ?_
  refine Wp.iload_n dc_X6_lay_16 rfl ?_
  obtain ⟨σ17, h17, hE⟩ := bnd hE
  refine Wp.cV3v (ok_X4_put (by decide) h17) dc_X6_lay_17 mw_X6_28 (mO3 (by decide)) (by decide) (Nat.le_of_ble_eq_true rfl) ?_
  refine Wp.aload_n dc_X6_lay_20 rfl ?_
  refine Wp.sgetR (t := 20) dc_X6_lay_21 fw_X6_20 (mO5 (by decide)) rfl ?_
  refine Wp.iconst dc_X6_lay_24 ic_2 ?_
  refine Wp.iload_n dc_X6_lay_25 rfl ?_
  refine Wp.iconst dc_X6_lay_26 ic_1 ?_
  obtain ⟨σ27, h27, hE⟩ := bnd hE
  refine Wp.cV3v (ok_X4_put (by decide) h27) dc_X6_lay_27 mw_X6_28 (mO3 (by decide)) (by decide) (Nat.le_of_ble_eq_true rfl) ?_
  refine Wp.iconst dc_X6_lay_30 ic_0 ?_
  refine Wp.istore dc_X6_lay_31 (by decide) ?_
  exact ok_X6_lay_l33   hE hK
theorem ok_X6_lay  {σ : SS}  {x1 : Int32} {x2 : Int32} {x3 : Int32} {o}   (hE : X6_lay  σ  x1 x2 x3 = some o) : Runs 4 0 0 mi_X6_lay [vr 5 0, vi x1, vi x2, vi x3] (hp σ) (fun v h => v = some (vi o.1) ∧ h = hp o.2) := by
  refine Runs.of pn_X6 (Nat.le_of_ble_eq_true rfl) ?_
  exact ok_X6_lay_j0   hE ⟨rfl, rfl⟩
theorem ok_X6_at_j29 {Q : Option AV → AH → Prop}  {σ : SS}   {o} {z0 z1 z2 z3 : Option AV}   (hE : X6_at_j29  σ   = some o) (hK : Q (some (vl o)) (hp σ)) : Ws 3 mi_X6_at Q 29 [z0, z1, z2, z3] [] σ := by
  unfold X6_at_j29 at hE
  refine Wp.ldc2 dc_X6_at_29 kw_X6_38 ?_
  cases hE
  exact Wp.lreturn dc_X6_at_32 rfl (Nat.le_refl _) (Nat.le_refl _) hK
theorem ok_X6_at_j0 {Q : Option AV → AH → Prop}  {σ : SS}  {x1 : Int32} {x2 : Int32} {o} {z3 : Option AV}   (hE : X6_at_j0  σ  x1 x2 = some o) (hK : Q (some (vl o)) (hp σ)) : Ws 3 mi_X6_at Q 0 [some (vr 5 0), some (vi x1), some (vi x2), z3] [] σ := by
  unfold X6_at_j0 at hE
  refine Wp.aload_n dc_X6_at_0 rfl ?_
  refine Wp.iload_n dc_X6_at_1 rfl ?_
  refine Wp.iload_n dc_X6_at_2 rfl ?_
  obtain ⟨v3, h3, hE⟩ := bnd hE
  refine Wp.cV2i (ok_X6_indexOf  h3) dc_X6_at_3 mw_X6_35 (mO5 (by decide)) (by decide) (Nat.le_of_ble_eq_true rfl) ?_
  refine Wp.istore_n dc_X6_at_6 (by decide) ?_
  refine Wp.iload_n dc_X6_at_7 rfl ?_
  refine Wp.if_lt (tgt := 29) dc_X6_at_8 (by decide) (fun hc8 => ?_) (fun hc8 => ?_)
  · rw [if_pos hc8] at hE
    exact ok_X6_at_j29   hE hK
  · rw [if_neg hc8] at hE
    refine Wp.iload_n dc_X6_at_11 rfl ?_
    refine Wp.aload_n dc_X6_at_12 rfl ?_
    refine Wp.sgetR (t := 5) dc_X6_at_13 fw_X6_11 (mO5 (by decide)) rfl ?_
    refine Wp.salenJ dc_X6_at_16 (mO14 (by decide)) ?_
    refine Wp.icmp_ge (tgt := 29) dc_X6_at_17 (by decide) (fun hc17 => ?_) (fun hc17 => ?_)
    · rw [if_pos hc17] at hE
      exact ok_X6_at_j29   hE hK
    · rw [if_neg hc17] at hE
      refine Wp.aload_n dc_X6_at_20 rfl ?_
      refine Wp.sgetR (t := 5) dc_X6_at_21 fw_X6_11 (mO5 (by decide)) rfl ?_
      refine Wp.iload_n dc_X6_at_24 rfl ?_
      obtain ⟨j25, h25, hE⟩ := bnd hE
      refine Wp.slald dc_X6_at_25 (mO14 (by decide)) h25 ?_
      refine Wp.goto (tgt := 32) dc_X6_at_26 (by decide) ?_
      cases hE
      exact Wp.lreturn dc_X6_at_32 rfl (Nat.le_refl _) (Nat.le_refl _) hK
theorem ok_X6_at  {σ : SS}  {x1 : Int32} {x2 : Int32} {o}   (hE : X6_at  σ  x1 x2 = some o) : Runs 3 0 0 mi_X6_at [vr 5 0, vi x1, vi x2] (hp σ) (fun v h => v = some (vl o) ∧ h = hp σ) := by
  refine Runs.of pn_X6 (Nat.le_of_ble_eq_true rfl) ?_
  exact ok_X6_at_j0   hE ⟨rfl, rfl⟩
def X6_move_P16 (Q : Option AV → AH → Prop)   (x1 : Int32) (x2 : Int32) (x3 : Int32) (x4 : Int32) (x5 : Int32) (x6 : Int32) (ss : Int32 × SS) : Prop := ∀ z8 : Option AV, Ws 4 mi_X6_move Q 16 [some (vr 5 0), some (vi x1), some (vi x2), some (vi x3), some (vi x4), some (vi x5), some (vi x6), some (vi ss.1), z8] [] ss.2
def X6_move_R16 (Q : Option AV → AH → Prop)   (x1 : Int32) (x2 : Int32) (x3 : Int32) (x4 : Int32) (x5 : Int32) (x6 : Int32) (tt : SS) : Prop := ∀ z0 z1 z2 z3 z4 z5 z6 z7 z8 : Option AV, Ws 4 mi_X6_move Q 68 [z0, z1, z2, z3, z4, z5, z6, z7, z8] [] tt
theorem ok_X6_move_j40 {Q : Option AV → AH → Prop}  {σ : SS}  {x1 : Int32} {x2 : Int32} {x3 : Int32} {x4 : Int32} {x5 : Int32} {x6 : Int32} {x7 : Int32} {s0 : Int32} {o} {z8 : Option AV}   (hE : X6_move_j40  σ  x1 x2 x3 x4 x5 x6 x7 s0 = some o) (hS : ∀ ss, o = Sum.inl ss → (X6_move_P16  Q   x1 x2 x3 x4 x5 x6) ss) (hT : ∀ tt, o = Sum.inr tt → (X6_move_R16  Q   x1 x2 x3 x4 x5 x6) tt) : Ws 4 mi_X6_move Q 40 [some (vr 5 0), some (vi x1), some (vi x2), some (vi x3), some (vi x4), some (vi x5), some (vi x6), some (vi x7), z8] [vi s0] σ := by
  unfold X6_move_j40 at hE
  refine Wp.istore dc_X6_move_40 (by decide) ?_
  refine Wp.aload_n dc_X6_move_42 rfl ?_
  refine Wp.iload_n dc_X6_move_43 rfl ?_
  refine Wp.iload dc_X6_move_44 rfl ?_
  refine Wp.iload dc_X6_move_46 rfl ?_
  refine Wp.iadd dc_X6_move_48 ?_
  refine Wp.aload_n dc_X6_move_49 rfl ?_
  refine Wp.iload_n dc_X6_move_50 rfl ?_
  refine Wp.iload_n dc_X6_move_51 rfl ?_
  refine Wp.iload dc_X6_move_52 rfl ?_
  refine Wp.iadd dc_X6_move_54 ?_
  obtain ⟨v55, h55, hE⟩ := bnd hE
  refine Wp.cV2l (ok_X6_at  h55) dc_X6_move_55 mw_X6_44 (mO5 (by decide)) (by decide) (Nat.le_of_ble_eq_true rfl) ?_
  obtain ⟨p58, h58, hE⟩ := bnd hE
  refine Wp.cV3i (ok_X6_put  h58) dc_X6_move_58 mw_X6_32 (mO5 (by decide)) (by decide) (Nat.le_of_ble_eq_true rfl) ?_
  refine Wp.pop dc_X6_move_61 rfl ?_
  obtain ⟨x7_62, e_62, hE⟩ := bnS hE
  refine Wp.iinc dc_X6_move_62 rfl ((ii ic_1).trans e_62) (by decide) ?_
  refine Wp.goto (tgt := 16) dc_X6_move_65 (by decide) ?_
  cases hE
  exact hS _ rfl _
theorem ok_X6_move_l16c {Q : Option AV → AH → Prop}  {σ : SS}  {x1 : Int32} {x2 : Int32} {x3 : Int32} {x4 : Int32} {x5 : Int32} {x6 : Int32} {x7 : Int32} {o} {z8 : Option AV}   (hE : X6_move_l16c  σ  x1 x2 x3 x4 x5 x6 x7 = some o) (hS : ∀ ss, o = Sum.inl ss → (X6_move_P16  Q   x1 x2 x3 x4 x5 x6) ss) (hT : ∀ tt, o = Sum.inr tt → (X6_move_R16  Q   x1 x2 x3 x4 x5 x6) tt) : Ws 4 mi_X6_move Q 16 [some (vr 5 0), some (vi x1), some (vi x2), some (vi x3), some (vi x4), some (vi x5), some (vi x6), some (vi x7), z8] [] σ := by
  unfold X6_move_l16c at hE
  refine Wp.iload dc_X6_move_16 rfl ?_
  refine Wp.iload dc_X6_move_18 rfl ?_
  refine Wp.icmp_ge (tgt := 68) dc_X6_move_20 (by decide) (fun hc20 => ?_) (fun hc20 => ?_)
  · rw [if_pos hc20] at hE
    cases hE
    exact hT _ rfl _ _ _ _ _ _ _ _ _
  · rw [if_neg hc20] at hE
    refine Wp.iload dc_X6_move_23 rfl ?_
    refine Wp.if_eq (tgt := 33) dc_X6_move_25 (by decide) (fun hc25 => ?_) (fun hc25 => ?_)
    · rw [if_pos hc25] at hE
      refine Wp.iload dc_X6_move_33 rfl ?_
      refine Wp.iconst dc_X6_move_35 ic_1 ?_
      refine Wp.isub dc_X6_move_36 ?_
      refine Wp.iload dc_X6_move_37 rfl ?_
      refine Wp.isub dc_X6_move_39 ?_
      exact ok_X6_move_j40   hE hS hT
    · rw [if_neg hc25] at hE
      refine Wp.iload dc_X6_move_28 rfl ?_
      refine Wp.goto (tgt := 40) dc_X6_move_30 (by decide) ?_
      exact ok_X6_move_j40   hE hS hT
theorem ok_X6_move_l16 {Q : Option AV → AH → Prop}  {σ : SS}  {x1 : Int32} {x2 : Int32} {x3 : Int32} {x4 : Int32} {x5 : Int32} {x6 : Int32} {x7 : Int32} {o} {z8 : Option AV}   (hE : X6_move_l16  σ  x1 x2 x3 x4 x5 x6 x7 = some o) (hK : Q (some (vi o.1)) (hp o.2)) : Ws 4 mi_X6_move Q 16 [some (vr 5 0), some (vi x1), some (vi x2), some (vi x3), some (vi x4), some (vi x5), some (vi x6), some (vi x7), z8] [] σ := by
  unfold X6_move_l16 at hE
  obtain ⟨t16, h1, hE⟩ := bnd hE
  refine iter_ok (P := (X6_move_P16  Q   x1 x2 x3 x4 x5 x6)) (R := (X6_move_R16  Q   x1 x2 x3 x4 x5 x6)) (fun ss o h2 hS hT => ?_) NF _ _ h1 ?_ _
  · intro z8
    exact ok_X6_move_l16c   h2 hS hT
  · intro z0 z1 z2 z3 z4 z5 z6 z7 z8
    show Ws 4 mi_X6_move Q 68 [z0, z1, z2, z3, z4, z5, z6, z7, z8] [] t16
    refine Wp.iconst dc_X6_move_68 ic_1 ?_
    cases hE
    exact Wp.ireturn dc_X6_move_69 rfl Nr.z1.1 (Nat.le_refl _) (Nat.le_refl _) hK
theorem ok_X6_move_j11 {Q : Option AV → AH → Prop}  {σ : SS}  {x1 : Int32} {x2 : Int32} {x3 : Int32} {x4 : Int32} {x5 : Int32} {s0 : Int32} {o} {z6 z7 z8 : Option AV}   (hE : X6_move_j11  σ  x1 x2 x3 x4 x5 s0 = some o) (hK : Q (some (vi o.1)) (hp o.2)) : Ws 4 mi_X6_move Q 11 [some (vr 5 0), some (vi x1), some (vi x2), some (vi x3), some (vi x4), some (vi x5), z6, z7, z8] [vi s0] σ := by
  unfold X6_move_j11 at hE
  refine Wp.istore dc_X6_move_11 (by decide) ?_
  refine Wp.iconst dc_X6_move_13 ic_0 ?_
  refine Wp.istore dc_X6_move_14 (by decide) ?_
  exact ok_X6_move_l16   hE hK
theorem ok_X6_move_j0 {Q : Option AV → AH → Prop}  {σ : SS}  {x1 : Int32} {x2 : Int32} {x3 : Int32} {x4 : Int32} {x5 : Int32} {o} {z6 z7 z8 : Option AV}   (hE : X6_move_j0  σ  x1 x2 x3 x4 x5 = some o) (hK : Q (some (vi o.1)) (hp o.2)) : Ws 4 mi_X6_move Q 0 [some (vr 5 0), some (vi x1), some (vi x2), some (vi x3), some (vi x4), some (vi x5), z6, z7, z8] [] σ := by
  unfold X6_move_j0 at hE
  refine Wp.iload dc_X6_move_0 rfl ?_
  refine Wp.iload_n dc_X6_move_2 rfl ?_
  refine Wp.icmp_gt (tgt := 10) dc_X6_move_3 (by decide) (fun hc3 => ?_) (fun hc3 => ?_)
  · rw [if_pos hc3] at hE
    refine Wp.iconst dc_X6_move_10 ic_0 ?_
    exact ok_X6_move_j11   hE hK
  · rw [if_neg hc3] at hE
    refine Wp.iconst dc_X6_move_6 ic_1 ?_
    refine Wp.goto (tgt := 11) dc_X6_move_7 (by decide) ?_
    exact ok_X6_move_j11   hE hK
theorem ok_X6_move  {σ : SS}  {x1 : Int32} {x2 : Int32} {x3 : Int32} {x4 : Int32} {x5 : Int32} {o}   (hE : X6_move  σ  x1 x2 x3 x4 x5 = some o) : Runs 4 0 0 mi_X6_move [vr 5 0, vi x1, vi x2, vi x3, vi x4, vi x5] (hp σ) (fun v h => v = some (vi o.1) ∧ h = hp o.2) := by
  refine Runs.of pn_X6 (Nat.le_of_ble_eq_true rfl) ?_
  exact ok_X6_move_j0   hE ⟨rfl, rfl⟩
theorem ok_X7_keepWay_j0 {Q : Option AV → AH → Prop}  {σ : SS}   {o}    (hE : X7_keepWay_j0  σ   = some o) (hK : Q none (hp o)) : Ws 1 mi_X7_keepWay Q 0 [some (vr 6 0)] [] σ := by
  unfold X7_keepWay_j0 at hE
  refine Wp.aload_n dc_X7_keepWay_0 rfl ?_
  refine Wp.sgetR (t := 24) dc_X7_keepWay_1 fw_X7_25 (mO6 (by decide)) rfl ?_
  refine Wp.aload_n dc_X7_keepWay_4 rfl ?_
  refine Wp.sgetR (t := 23) dc_X7_keepWay_5 fw_X7_22 (mO6 (by decide)) rfl ?_
  obtain ⟨σ8, h8, hE⟩ := bnd hE
  refine Wp.cV1v (ok_X4_takeOver (by decide) (by decide) h8) dc_X7_keepWay_8 mw_X7_65 (mO3 (by decide)) (by decide) (Nat.le_of_ble_eq_true rfl) ?_
  refine Wp.aload_n dc_X7_keepWay_11 rfl ?_
  refine Wp.iconst dc_X7_keepWay_12 ic_1 ?_
  refine Wp.sputI dc_X7_keepWay_13 fw_X7_69 (mO6 (by decide)) Nr.z1 ?_
  obtain ⟨σ13, es_13, hE⟩ := bnS hE
  rw [es_13]
  cases hE
  exact Wp.return dc_X7_keepWay_16 rfl (Nat.le_refl _) (Nat.le_refl _) hK
theorem ok_X7_keepWay  {σ : SS}   {o}   (hE : X7_keepWay  σ   = some o) : Runs 1 0 0 mi_X7_keepWay [vr 6 0] (hp σ) (fun v h => v = none ∧ h = hp o) := by
  refine Runs.of pn_X7 (Nat.le_of_ble_eq_true rfl) ?_
  exact ok_X7_keepWay_j0   hE ⟨rfl, rfl⟩
theorem ok_X7_hasWay_j0 {Q : Option AV → AH → Prop}  {σ : SS}   {o}    (hE : X7_hasWay_j0  σ   = some o) (hK : Q (some (vi o)) (hp σ)) : Ws 0 mi_X7_hasWay Q 0 [some (vr 6 0)] [] σ := by
  unfold X7_hasWay_j0 at hE
  refine Wp.aload_n dc_X7_hasWay_0 rfl ?_
  refine Wp.sgetI dc_X7_hasWay_1 fw_X7_69 (mO6 (by decide)) ?_
  obtain ⟨b4, h4, hE⟩ := bnd hE
  obtain ⟨e_4, hb4⟩ := zb_some h4
  skip
  cases hE
  exact Wp.ireturn dc_X7_hasWay_4 rfl hb4.1 (Nat.le_refl _) (Nat.le_refl _) hK
theorem ok_X7_hasWay  {σ : SS}   {o}   (hE : X7_hasWay  σ   = some o) : Runs 0 0 0 mi_X7_hasWay [vr 6 0] (hp σ) (fun v h => v = some (vi o) ∧ h = hp σ) := by
  refine Runs.of pn_X7 (Nat.le_of_ble_eq_true rfl) ?_
  exact ok_X7_hasWay_j0   hE ⟨rfl, rfl⟩
theorem ok_X7_keptWay_j0 {Q : Option AV → AH → Prop}  {σ : SS}  {x1 : Int32} {o}    (hE : X7_keptWay_j0  σ  x1 = some o) (hK : Q (some (vi o)) (hp σ)) : Ws 1 mi_X7_keptWay Q 0 [some (vr 6 0), some (vi x1)] [] σ := by
  unfold X7_keptWay_j0 at hE
  refine Wp.aload_n dc_X7_keptWay_0 rfl ?_
  refine Wp.sgetR (t := 24) dc_X7_keptWay_1 fw_X7_25 (mO6 (by decide)) rfl ?_
  refine Wp.iconst dc_X7_keptWay_4 ic_0 ?_
  refine Wp.iload_n dc_X7_keptWay_5 rfl ?_
  obtain ⟨v6, h6, hE⟩ := bnd hE
  refine Wp.cV2i (ok_X4_at (by decide) h6) dc_X7_keptWay_6 mw_X7_61 (mO3 (by decide)) (by decide) (Nat.le_of_ble_eq_true rfl) ?_
  cases hE
  exact Wp.ireturn dc_X7_keptWay_9 rfl rfl (Nat.le_refl _) (Nat.le_refl _) hK
theorem ok_X7_keptWay  {σ : SS}  {x1 : Int32} {o}   (hE : X7_keptWay  σ  x1 = some o) : Runs 1 0 0 mi_X7_keptWay [vr 6 0, vi x1] (hp σ) (fun v h => v = some (vi o) ∧ h = hp σ) := by
  refine Runs.of pn_X7 (Nat.le_of_ble_eq_true rfl) ?_
  exact ok_X7_keptWay_j0   hE ⟨rfl, rfl⟩
def X7_soonestOf_P8 (Q : Option AV → AH → Prop)  (r1 : Nat)  (ss : Int32 × Int32 × Int32 × SS) : Prop := ∀ z5 : Option AV, Ws 4 mi_X7_soonestOf Q 8 [some (vr 6 0), some (vr 0 r1), some (vi ss.1), some (vi ss.2.1), some (vi ss.2.2.1), z5] [] ss.2.2.2
def X7_soonestOf_R8 (Q : Option AV → AH → Prop)  (r1 : Nat)  (tt : Int32 × SS) : Prop := ∀ z0 z1 z3 z4 z5 : Option AV, Ws 4 mi_X7_soonestOf Q 53 [z0, z1, some (vi tt.1), z3, z4, z5] [] tt.2
theorem ok_X7_soonestOf_j47 {Q : Option AV → AH → Prop}  {σ : SS} {r1 : Nat} {x2 : Int32} {x3 : Int32} {x4 : Int32} {o} {z5 : Option AV}  (hr1 : r1 < 5) (hE : X7_soonestOf_j47  σ r1 x2 x3 x4 = some o) (hS : ∀ ss, o = Sum.inl ss → (X7_soonestOf_P8  Q  r1 ) ss) (hT : ∀ tt, o = Sum.inr tt → (X7_soonestOf_R8  Q  r1 ) tt) : Ws 4 mi_X7_soonestOf Q 47 [some (vr 6 0), some (vr 0 r1), some (vi x2), some (vi x3), some (vi x4), z5] [] σ := by
  unfold X7_soonestOf_j47 at hE
  obtain ⟨x4_47, e_47, hE⟩ := bnS hE
  refine Wp.iinc dc_X7_soonestOf_47 rfl ((ii ic_1).trans e_47) (by decide) ?_
  refine Wp.goto (tgt := 8) dc_X7_soonestOf_50 (by decide) ?_
  cases hE
  exact hS _ rfl _
theorem ok_X7_soonestOf_l8c {Q : Option AV → AH → Prop}  {σ : SS} {r1 : Nat}  {x2 : Int32} {x3 : Int32} {x4 : Int32} {o} {z5 : Option AV}  (hr1 : r1 < 5) (hE : X7_soonestOf_l8c  σ r1  x2 x3 x4 = some o) (hS : ∀ ss, o = Sum.inl ss → (X7_soonestOf_P8  Q  r1 ) ss) (hT : ∀ tt, o = Sum.inr tt → (X7_soonestOf_R8  Q  r1 ) tt) : Ws 4 mi_X7_soonestOf Q 8 [some (vr 6 0), some (vr 0 r1), some (vi x2), some (vi x3), some (vi x4), z5] [] σ := by
  unfold X7_soonestOf_l8c at hE
  refine Wp.iload dc_X7_soonestOf_8 rfl ?_
  refine Wp.aload_n dc_X7_soonestOf_10 rfl ?_
  obtain ⟨v11, h11, hE⟩ := bnd hE
  refine Wp.cV0i (ok_X0_leadCount (by omega) h11) dc_X7_soonestOf_11 mw_X7_73 (mO0 (by omega)) (by decide) (Nat.le_of_ble_eq_true rfl) ?_
  refine Wp.icmp_ge (tgt := 53) dc_X7_soonestOf_14 (by decide) (fun hc14 => ?_) (fun hc14 => ?_)
  · rw [if_pos hc14] at hE
    cases hE
    exact hT _ rfl _ _ _ _ _
  · rw [if_neg hc14] at hE
    refine Wp.aload_n dc_X7_soonestOf_17 rfl ?_
    refine Wp.iload dc_X7_soonestOf_18 rfl ?_
    obtain ⟨v20, h20, hE⟩ := bnd hE
    refine Wp.cV1i (ok_X0_isIn (by omega) h20) dc_X7_soonestOf_20 mw_X7_76 (mO0 (by omega)) (by decide) (Nat.le_of_ble_eq_true rfl) ?_
    refine Wp.if_eq (tgt := 47) dc_X7_soonestOf_23 (by decide) (fun hc23 => ?_) (fun hc23 => ?_)
    · rw [if_pos hc23] at hE
      exact ok_X7_soonestOf_j47  hr1 hE hS hT
    · rw [if_neg hc23] at hE
      refine Wp.aload_n dc_X7_soonestOf_26 rfl ?_
      refine Wp.aload_n dc_X7_soonestOf_27 rfl ?_
      refine Wp.iload dc_X7_soonestOf_28 rfl ?_
      obtain ⟨p30, h30, hE⟩ := bnd hE
      refine Wp.cV2i (ok_X7_find (by omega) h30) dc_X7_soonestOf_30 mw_X7_80 (mO6 (by decide)) (by decide) (Nat.le_of_ble_eq_true rfl) ?_
      refine Wp.istore dc_X7_soonestOf_33 (by decide) ?_
      refine Wp.iload dc_X7_soonestOf_35 rfl ?_
      refine Wp.iload_n dc_X7_soonestOf_37 rfl ?_
      refine Wp.icmp_ge (tgt := 47) dc_X7_soonestOf_38 (by decide) (fun hc38 => ?_) (fun hc38 => ?_)
      · rw [if_pos hc38, if_pos hc38] at hE
        exact ok_X7_soonestOf_j47  hr1 hE hS hT
      · rw [if_neg hc38, if_neg hc38] at hE
        refine Wp.iload dc_X7_soonestOf_41 rfl ?_
        refine Wp.istore_n dc_X7_soonestOf_43 (by decide) ?_
        refine Wp.iload dc_X7_soonestOf_44 rfl ?_
        refine Wp.istore_n dc_X7_soonestOf_46 (by decide) ?_
        exact ok_X7_soonestOf_j47  hr1 hE hS hT
theorem ok_X7_soonestOf_l8 {Q : Option AV → AH → Prop}  {σ : SS} {r1 : Nat} {x2 : Int32} {x3 : Int32} {x4 : Int32} {o} {z5 : Option AV}  (hr1 : r1 < 5) (hE : X7_soonestOf_l8  σ r1 x2 x3 x4 = some o) (hK : Q (some (vi o.1)) (hp o.2)) : Ws 4 mi_X7_soonestOf Q 8 [some (vr 6 0), some (vr 0 r1), some (vi x2), some (vi x3), some (vi x4), z5] [] σ := by
  unfold X7_soonestOf_l8 at hE
  obtain ⟨t8, h1, hE⟩ := bnd hE
  refine iter_ok (P := (X7_soonestOf_P8  Q  r1 )) (R := (X7_soonestOf_R8  Q  r1 )) (fun ss o h2 hS hT => ?_) NF _ _ h1 ?_ _
  · intro z5
    exact ok_X7_soonestOf_l8c  hr1 h2 hS hT
  · intro z0 z1 z3 z4 z5
    show Ws 4 mi_X7_soonestOf Q 53 [z0, z1, some (vi t8.1), z3, z4, z5] [] t8.2
    refine Wp.iload_n dc_X7_soonestOf_53 rfl ?_
    cases hE
    exact Wp.ireturn dc_X7_soonestOf_54 rfl rfl (Nat.le_refl _) (Nat.le_refl _) hK
theorem ok_X7_soonestOf_j0 {Q : Option AV → AH → Prop}  {σ : SS} {r1 : Nat}  {o} {z2 z3 z4 z5 : Option AV}  (hr1 : r1 < 5) (hE : X7_soonestOf_j0  σ r1  = some o) (hK : Q (some (vi o.1)) (hp o.2)) : Ws 4 mi_X7_soonestOf Q 0 [some (vr 6 0), some (vr 0 r1), z2, z3, z4, z5] [] σ := by
  unfold X7_soonestOf_j0 at hE
  refine Wp.iconst dc_X7_soonestOf_0 ic_m1 ?_
  refine Wp.istore_n dc_X7_soonestOf_1 (by decide) ?_
  refine Wp.ldc dc_X7_soonestOf_2 kw_X7_34 ?_
  refine Wp.istore_n dc_X7_soonestOf_4 (by decide) ?_
  refine Wp.iconst dc_X7_soonestOf_5 ic_0 ?_
  refine Wp.istore dc_X7_soonestOf_6 (by decide) ?_
  exact ok_X7_soonestOf_l8  hr1 hE hK
theorem ok_X7_soonestOf  {σ : SS} {r1 : Nat}  {o}  (hr1 : r1 < 5) (hE : X7_soonestOf  σ r1  = some o) : Runs 4 0 0 mi_X7_soonestOf [vr 6 0, vr 0 r1] (hp σ) (fun v h => v = some (vi o.1) ∧ h = hp o.2) := by
  refine Runs.of pn_X7 (Nat.le_of_ble_eq_true rfl) ?_
  exact ok_X7_soonestOf_j0  hr1 hE ⟨rfl, rfl⟩
def X7_secondsOfEnds_P14 (Q : Option AV → AH → Prop) (σ : SS) (r1 : Nat) (x3 : Int32) (x4 : Int32) (ss : Int32 × Int32) : Prop := ∀ z1 z2 : Option AV, Ws 3 mi_X7_secondsOfEnds Q 14 [some (vr 6 0), z1, z2, some (vi x3), some (vi x4), some (vi ss.1), some (vi ss.2)] [] σ
def X7_secondsOfEnds_R14 (Q : Option AV → AH → Prop) (σ : SS) (r1 : Nat) (x3 : Int32) (x4 : Int32) (tt : Int32) : Prop := ∀ z1 z2 z3 z6 : Option AV, Ws 3 mi_X7_secondsOfEnds Q 41 [some (vr 6 0), z1, z2, z3, some (vi x4), some (vi tt), z6] [] σ
theorem ok_X7_secondsOfEnds_l14c {Q : Option AV → AH → Prop}  {σ : SS} {r1 : Nat} {x3 : Int32} {x4 : Int32} {x5 : Int32} {x6 : Int32} {o} {z1 z2 : Option AV}  (hr1 : r1 < 5) (hE : X7_secondsOfEnds_l14c  σ r1 x3 x4 x5 x6 = some o) (hS : ∀ ss, o = Sum.inl ss → (X7_secondsOfEnds_P14  Q σ r1 x3 x4) ss) (hT : ∀ tt, o = Sum.inr tt → (X7_secondsOfEnds_R14  Q σ r1 x3 x4) tt) : Ws 3 mi_X7_secondsOfEnds Q 14 [some (vr 6 0), z1, z2, some (vi x3), some (vi x4), some (vi x5), some (vi x6)] [] σ := by
  unfold X7_secondsOfEnds_l14c at hE
  refine Wp.iload dc_X7_secondsOfEnds_14 rfl ?_
  refine Wp.iload_n dc_X7_secondsOfEnds_16 rfl ?_
  refine Wp.icmp_ge (tgt := 41) dc_X7_secondsOfEnds_17 (by decide) (fun hc17 => ?_) (fun hc17 => ?_)
  · rw [if_pos hc17] at hE
    cases hE
    exact hT _ rfl _ _ _ _
  · rw [if_neg hc17] at hE
    refine Wp.iload dc_X7_secondsOfEnds_20 rfl ?_
    refine Wp.aload_n dc_X7_secondsOfEnds_22 rfl ?_
    refine Wp.sgetR (t := 22) dc_X7_secondsOfEnds_23 fw_X7_16 (mO6 (by decide)) rfl ?_
    refine Wp.iconst dc_X7_secondsOfEnds_26 ic_0 ?_
    refine Wp.iload dc_X7_secondsOfEnds_27 rfl ?_
    obtain ⟨v29, h29, hE⟩ := bnd hE
    refine Wp.cV2i (ok_X4_at (by decide) h29) dc_X7_secondsOfEnds_29 mw_X7_61 (mO3 (by decide)) (by decide) (Nat.le_of_ble_eq_true rfl) ?_
    refine Wp.iadd dc_X7_secondsOfEnds_32 ?_
    obtain ⟨x5_33, e_33, hE⟩ := bnS hE
    rw [e_33]
    refine Wp.istore dc_X7_secondsOfEnds_33 (by decide) ?_
    obtain ⟨x6_35, e_35, hE⟩ := bnS hE
    refine Wp.iinc dc_X7_secondsOfEnds_35 rfl ((ii ic_1).trans e_35) (by decide) ?_
    refine Wp.goto (tgt := 14) dc_X7_secondsOfEnds_38 (by decide) ?_
    cases hE
    exact hS _ rfl _ _
def X7_secondsOfEnds_P44 (Q : Option AV → AH → Prop) (σ : SS) (r1 : Nat) (x4 : Int32) (ss : Int32 × Int32) : Prop := ∀ z1 z2 z3 : Option AV, Ws 3 mi_X7_secondsOfEnds Q 44 [some (vr 6 0), z1, z2, z3, some (vi x4), some (vi ss.1), some (vi ss.2)] [] σ
def X7_secondsOfEnds_R44 (Q : Option AV → AH → Prop) (σ : SS) (r1 : Nat) (x4 : Int32) (tt : Int32) : Prop := ∀ z0 z1 z2 z3 z4 z6 : Option AV, Ws 3 mi_X7_secondsOfEnds Q 79 [z0, z1, z2, z3, z4, some (vi tt), z6] [] σ
theorem ok_X7_secondsOfEnds_l44c {Q : Option AV → AH → Prop}  {σ : SS} {r1 : Nat} {x4 : Int32} {x5 : Int32} {x6 : Int32} {o} {z1 z2 z3 : Option AV}  (hr1 : r1 < 5) (hE : X7_secondsOfEnds_l44c  σ r1 x4 x5 x6 = some o) (hS : ∀ ss, o = Sum.inl ss → (X7_secondsOfEnds_P44  Q σ r1 x4) ss) (hT : ∀ tt, o = Sum.inr tt → (X7_secondsOfEnds_R44  Q σ r1 x4) tt) : Ws 3 mi_X7_secondsOfEnds Q 44 [some (vr 6 0), z1, z2, z3, some (vi x4), some (vi x5), some (vi x6)] [] σ := by
  unfold X7_secondsOfEnds_l44c at hE
  refine Wp.iload dc_X7_secondsOfEnds_44 rfl ?_
  refine Wp.iload dc_X7_secondsOfEnds_46 rfl ?_
  refine Wp.icmp_ge (tgt := 79) dc_X7_secondsOfEnds_48 (by decide) (fun hc48 => ?_) (fun hc48 => ?_)
  · rw [if_pos hc48] at hE
    cases hE
    exact hT _ rfl _ _ _ _ _ _
  · rw [if_neg hc48] at hE
    refine Wp.iload dc_X7_secondsOfEnds_51 rfl ?_
    refine Wp.aload_n dc_X7_secondsOfEnds_53 rfl ?_
    refine Wp.sgetR (t := 22) dc_X7_secondsOfEnds_54 fw_X7_16 (mO6 (by decide)) rfl ?_
    refine Wp.iconst dc_X7_secondsOfEnds_57 ic_0 ?_
    refine Wp.aload_n dc_X7_secondsOfEnds_58 rfl ?_
    refine Wp.sgetI dc_X7_secondsOfEnds_59 fw_X7_58 (mO6 (by decide)) ?_
    refine Wp.iconst dc_X7_secondsOfEnds_62 ic_1 ?_
    refine Wp.isub dc_X7_secondsOfEnds_63 ?_
    refine Wp.iload dc_X7_secondsOfEnds_64 rfl ?_
    refine Wp.isub dc_X7_secondsOfEnds_66 ?_
    obtain ⟨v67, h67, hE⟩ := bnd hE
    refine Wp.cV2i (ok_X4_at (by decide) h67) dc_X7_secondsOfEnds_67 mw_X7_61 (mO3 (by decide)) (by decide) (Nat.le_of_ble_eq_true rfl) ?_
    refine Wp.iadd dc_X7_secondsOfEnds_70 ?_
    obtain ⟨x5_71, e_71, hE⟩ := bnS hE
    rw [e_71]
    refine Wp.istore dc_X7_secondsOfEnds_71 (by decide) ?_
    obtain ⟨x6_73, e_73, hE⟩ := bnS hE
    refine Wp.iinc dc_X7_secondsOfEnds_73 rfl ((ii ic_1).trans e_73) (by decide) ?_
    refine Wp.goto (tgt := 44) dc_X7_secondsOfEnds_76 (by decide) ?_
    cases hE
    exact hS _ rfl _ _ _
theorem ok_X7_secondsOfEnds_l44 {Q : Option AV → AH → Prop}  {σ : SS} {r1 : Nat} {x4 : Int32} {x5 : Int32} {x6 : Int32} {o} {z1 z2 z3 : Option AV}  (hr1 : r1 < 5) (hE : X7_secondsOfEnds_l44  σ r1 x4 x5 x6 = some o) (hK : Q (some (vi o.1)) (hp o.2)) : Ws 3 mi_X7_secondsOfEnds Q 44 [some (vr 6 0), z1, z2, z3, some (vi x4), some (vi x5), some (vi x6)] [] σ := by
  unfold X7_secondsOfEnds_l44 at hE
  obtain ⟨t44, h1, hE⟩ := bnd hE
  refine iter_ok (P := (X7_secondsOfEnds_P44  Q σ r1 x4)) (R := (X7_secondsOfEnds_R44  Q σ r1 x4)) (fun ss o h2 hS hT => ?_) NF _ _ h1 ?_ _ _ _
  · intro z1 z2 z3
    exact ok_X7_secondsOfEnds_l44c  hr1 h2 hS hT
  · intro z0 z1 z2 z3 z4 z6
    show Ws 3 mi_X7_secondsOfEnds Q 79 [z0, z1, z2, z3, z4, some (vi t44), z6] [] σ
    refine Wp.iload dc_X7_secondsOfEnds_79 rfl ?_
    cases hE
    exact Wp.ireturn dc_X7_secondsOfEnds_81 rfl rfl (Nat.le_refl _) (Nat.le_refl _) hK
theorem ok_X7_secondsOfEnds_l14 {Q : Option AV → AH → Prop}  {σ : SS} {r1 : Nat} {x3 : Int32} {x4 : Int32} {x5 : Int32} {x6 : Int32} {o} {z1 z2 : Option AV}  (hr1 : r1 < 5) (hE : X7_secondsOfEnds_l14  σ r1 x3 x4 x5 x6 = some o) (hK : Q (some (vi o.1)) (hp o.2)) : Ws 3 mi_X7_secondsOfEnds Q 14 [some (vr 6 0), z1, z2, some (vi x3), some (vi x4), some (vi x5), some (vi x6)] [] σ := by
  unfold X7_secondsOfEnds_l14 at hE
  obtain ⟨t14, h1, hE⟩ := bnd hE
  refine iter_ok (P := (X7_secondsOfEnds_P14  Q σ r1 x3 x4)) (R := (X7_secondsOfEnds_R14  Q σ r1 x3 x4)) (fun ss o h2 hS hT => ?_) NF _ _ h1 ?_ _ _
  · intro z1 z2
    exact ok_X7_secondsOfEnds_l14c  hr1 h2 hS hT
  · intro z1 z2 z3 z6
    show Ws 3 mi_X7_secondsOfEnds Q 41 [some (vr 6 0), z1, z2, z3, some (vi x4), some (vi t14), z6] [] σ
    refine Wp.iconst dc_X7_secondsOfEnds_41 ic_0 ?_
    refine Wp.istore dc_X7_secondsOfEnds_42 (by decide) ?_
    exact ok_X7_secondsOfEnds_l44  hr1 hE hK
theorem ok_X7_secondsOfEnds_j0 {Q : Option AV → AH → Prop}  {σ : SS} {r1 : Nat} {x2 : Int32} {x3 : Int32} {x4 : Int32} {o} {z5 z6 : Option AV}  (hr1 : r1 < 5) (hE : X7_secondsOfEnds_j0  σ r1 x2 x3 x4 = some o) (hK : Q (some (vi o.1)) (hp o.2)) : Ws 3 mi_X7_secondsOfEnds Q 0 [some (vr 6 0), some (vr 0 r1), some (vi x2), some (vi x3), some (vi x4), z5, z6] [] σ := by
  unfold X7_secondsOfEnds_j0 at hE
  refine Wp.aload_n dc_X7_secondsOfEnds_0 rfl ?_
  refine Wp.aload_n dc_X7_secondsOfEnds_1 rfl ?_
  refine Wp.iload_n dc_X7_secondsOfEnds_2 rfl ?_
  refine Wp.iconst dc_X7_secondsOfEnds_3 ic_0 ?_
  refine Wp.iconst dc_X7_secondsOfEnds_4 ic_0 ?_
  obtain ⟨σ5, h5, hE⟩ := bnd hE
  refine Wp.cV4v (ok_X7_layRow (by omega) h5) dc_X7_secondsOfEnds_5 mw_X7_35 (mO6 (by decide)) (by decide) (Nat.le_of_ble_eq_true rfl) ?_
  refine Wp.iconst dc_X7_secondsOfEnds_8 ic_0 ?_
  refine Wp.istore dc_X7_secondsOfEnds_9 (by decide) ?_
  refine Wp.iconst dc_X7_secondsOfEnds_11 ic_0 ?_
  refine Wp.istore dc_X7_secondsOfEnds_12 (by decide) ?_
  exact ok_X7_secondsOfEnds_l14  hr1 hE hK
theorem ok_X7_secondsOfEnds  {σ : SS} {r1 : Nat} {x2 : Int32} {x3 : Int32} {x4 : Int32} {o}  (hr1 : r1 < 5) (hE : X7_secondsOfEnds  σ r1 x2 x3 x4 = some o) : Runs 3 0 0 mi_X7_secondsOfEnds [vr 6 0, vr 0 r1, vi x2, vi x3, vi x4] (hp σ) (fun v h => v = some (vi o.1) ∧ h = hp o.2) := by
  refine Runs.of pn_X7 (Nat.le_of_ble_eq_true rfl) ?_
  exact ok_X7_secondsOfEnds_j0  hr1 hE ⟨rfl, rfl⟩
theorem ok_X7_everyone_j0 {Q : Option AV → AH → Prop}  {σ : SS} {r0 : Nat}  {o}   (hr0 : r0 < 5) (hE : X7_everyone_j0  σ r0  = some o) (hK : Q (some (vi o)) (hp σ)) : Ws 1 mi_X7_everyone Q 0 [some (vr 0 r0)] [] σ := by
  unfold X7_everyone_j0 at hE
  refine Wp.iconst dc_X7_everyone_0 ic_1 ?_
  refine Wp.aload_n dc_X7_everyone_1 rfl ?_
  obtain ⟨v2, h2, hE⟩ := bnd hE
  refine Wp.cV0i (ok_X0_leadCount (by omega) h2) dc_X7_everyone_2 mw_X7_73 (mO0 (by omega)) (by decide) (Nat.le_of_ble_eq_true rfl) ?_
  refine Wp.ishl dc_X7_everyone_5 ?_
  refine Wp.iconst dc_X7_everyone_6 ic_1 ?_
  refine Wp.isub dc_X7_everyone_7 ?_
  cases hE
  exact Wp.ireturn dc_X7_everyone_8 rfl rfl (Nat.le_refl _) (Nat.le_refl _) hK
theorem ok_X7_everyone  {σ : SS} {r0 : Nat}  {o}  (hr0 : r0 < 5) (hE : X7_everyone  σ r0  = some o) : Runs 1 0 0 mi_X7_everyone [vr 0 r0] (hp σ) (fun v h => v = some (vi o) ∧ h = hp σ) := by
  refine Runs.of pn_X7 (Nat.le_of_ble_eq_true rfl) ?_
  exact ok_X7_everyone_j0  hr0 hE ⟨rfl, rfl⟩
theorem ok_X7_secondsWithNext_j0 {Q : Option AV → AH → Prop}  {σ : SS} {r1 : Nat} {x2 : Int32} {x3 : Int32} {x4 : Int32} {o}   (hr1 : r1 < 5) (hE : X7_secondsWithNext_j0  σ r1 x2 x3 x4 = some o) (hK : Q (some (vi o.1)) (hp o.2)) : Ws 3 mi_X7_secondsWithNext Q 0 [some (vr 6 0), some (vr 0 r1), some (vi x2), some (vi x3), some (vi x4)] [] σ := by
  unfold X7_secondsWithNext_j0 at hE
  refine Wp.aload_n dc_X7_secondsWithNext_0 rfl ?_
  refine Wp.aload_n dc_X7_secondsWithNext_1 rfl ?_
  refine Wp.iload_n dc_X7_secondsWithNext_2 rfl ?_
  refine Wp.iload_n dc_X7_secondsWithNext_3 rfl ?_
  refine Wp.iload dc_X7_secondsWithNext_4 rfl ?_
  obtain ⟨σ6, h6, hE⟩ := bnd hE
  refine Wp.cV4v (ok_X7_layRow (by omega) h6) dc_X7_secondsWithNext_6 mw_X7_35 (mO6 (by decide)) (by decide) (Nat.le_of_ble_eq_true rfl) ?_
  refine Wp.aload_n dc_X7_secondsWithNext_9 rfl ?_
  obtain ⟨p10, h10, hE⟩ := bnd hE
  refine Wp.cV0i (ok_X7_fewestSeconds  h10) dc_X7_secondsWithNext_10 mw_X7_43 (mO6 (by decide)) (by decide) (Nat.le_of_ble_eq_true rfl) ?_
  refine Wp.aload_n dc_X7_secondsWithNext_13 rfl ?_
  refine Wp.sgetR (t := 25) dc_X7_secondsWithNext_14 fw_X7_28 (mO6 (by decide)) rfl ?_
  refine Wp.iconst dc_X7_secondsWithNext_17 ic_0 ?_
  refine Wp.iload_n dc_X7_secondsWithNext_18 rfl ?_
  refine Wp.iconst dc_X7_secondsWithNext_19 ic_1 ?_
  refine Wp.iload_n dc_X7_secondsWithNext_20 rfl ?_
  refine Wp.ishl dc_X7_secondsWithNext_21 ?_
  refine Wp.ior dc_X7_secondsWithNext_22 ?_
  obtain ⟨v23, h23, hE⟩ := bnd hE
  refine Wp.cV2i (ok_X4_at (by decide) h23) dc_X7_secondsWithNext_23 mw_X7_61 (mO3 (by decide)) (by decide) (Nat.le_of_ble_eq_true rfl) ?_
  refine Wp.iadd dc_X7_secondsWithNext_26 ?_
  cases hE
  exact Wp.ireturn dc_X7_secondsWithNext_27 rfl rfl (Nat.le_refl _) (Nat.le_refl _) hK
theorem ok_X7_secondsWithNext  {σ : SS} {r1 : Nat} {x2 : Int32} {x3 : Int32} {x4 : Int32} {o}  (hr1 : r1 < 5) (hE : X7_secondsWithNext  σ r1 x2 x3 x4 = some o) : Runs 3 0 0 mi_X7_secondsWithNext [vr 6 0, vr 0 r1, vi x2, vi x3, vi x4] (hp σ) (fun v h => v = some (vi o.1) ∧ h = hp o.2) := by
  refine Runs.of pn_X7 (Nat.le_of_ble_eq_true rfl) ?_
  exact ok_X7_secondsWithNext_j0  hr1 hE ⟨rfl, rfl⟩
def X7_fewestForRest_P7 (Q : Option AV → AH → Prop)  (r1 : Nat) (x2 : Int32) (x3 : Int32) (ss : Int32 × Int32 × SS) : Prop := Ws 4 mi_X7_fewestForRest Q 7 [some (vr 6 0), some (vr 0 r1), some (vi x2), some (vi x3), some (vi ss.1), some (vi ss.2.1)] [] ss.2.2
def X7_fewestForRest_R7 (Q : Option AV → AH → Prop)  (r1 : Nat) (x2 : Int32) (x3 : Int32) (tt : Int32 × SS) : Prop := ∀ z0 z1 z2 z3 z5 : Option AV, Ws 4 mi_X7_fewestForRest Q 47 [z0, z1, z2, z3, some (vi tt.1), z5] [] tt.2
theorem ok_X7_fewestForRest_j41 {Q : Option AV → AH → Prop}  {σ : SS} {r1 : Nat} {x2 : Int32} {x3 : Int32} {x4 : Int32} {x5 : Int32} {o}   (hr1 : r1 < 5) (hE : X7_fewestForRest_j41  σ r1 x2 x3 x4 x5 = some o) (hS : ∀ ss, o = Sum.inl ss → (X7_fewestForRest_P7  Q  r1 x2 x3) ss) (hT : ∀ tt, o = Sum.inr tt → (X7_fewestForRest_R7  Q  r1 x2 x3) tt) : Ws 4 mi_X7_fewestForRest Q 41 [some (vr 6 0), some (vr 0 r1), some (vi x2), some (vi x3), some (vi x4), some (vi x5)] [] σ := by
  unfold X7_fewestForRest_j41 at hE
  obtain ⟨x5_41, e_41, hE⟩ := bnS hE
  refine Wp.iinc dc_X7_fewestForRest_41 rfl ((ii ic_1).trans e_41) (by decide) ?_
  refine Wp.goto (tgt := 7) dc_X7_fewestForRest_44 (by decide) ?_
  cases hE
  exact hS _ rfl
theorem ok_X7_fewestForRest_l7c {Q : Option AV → AH → Prop}  {σ : SS} {r1 : Nat} {x2 : Int32} {x3 : Int32} {x4 : Int32} {x5 : Int32} {o}   (hr1 : r1 < 5) (hE : X7_fewestForRest_l7c  σ r1 x2 x3 x4 x5 = some o) (hS : ∀ ss, o = Sum.inl ss → (X7_fewestForRest_P7  Q  r1 x2 x3) ss) (hT : ∀ tt, o = Sum.inr tt → (X7_fewestForRest_R7  Q  r1 x2 x3) tt) : Ws 4 mi_X7_fewestForRest Q 7 [some (vr 6 0), some (vr 0 r1), some (vi x2), some (vi x3), some (vi x4), some (vi x5)] [] σ := by
  unfold X7_fewestForRest_l7c at hE
  refine Wp.iload dc_X7_fewestForRest_7 rfl ?_
  refine Wp.aload_n dc_X7_fewestForRest_9 rfl ?_
  obtain ⟨v10, h10, hE⟩ := bnd hE
  refine Wp.cV0i (ok_X0_leadCount (by omega) h10) dc_X7_fewestForRest_10 mw_X7_73 (mO0 (by omega)) (by decide) (Nat.le_of_ble_eq_true rfl) ?_
  refine Wp.icmp_ge (tgt := 47) dc_X7_fewestForRest_13 (by decide) (fun hc13 => ?_) (fun hc13 => ?_)
  · rw [if_pos hc13] at hE
    cases hE
    exact hT _ rfl _ _ _ _ _
  · rw [if_neg hc13] at hE
    refine Wp.iload_n dc_X7_fewestForRest_16 rfl ?_
    refine Wp.iload dc_X7_fewestForRest_17 rfl ?_
    refine Wp.ishr dc_X7_fewestForRest_19 ?_
    refine Wp.iconst dc_X7_fewestForRest_20 ic_1 ?_
    refine Wp.iand dc_X7_fewestForRest_21 ?_
    refine Wp.if_ne (tgt := 41) dc_X7_fewestForRest_22 (by decide) (fun hc22 => ?_) (fun hc22 => ?_)
    · rw [if_neg hc22] at hE
      exact ok_X7_fewestForRest_j41  hr1 hE hS hT
    · rw [if_pos hc22] at hE
      refine Wp.iload dc_X7_fewestForRest_25 rfl ?_
      refine Wp.aload_n dc_X7_fewestForRest_27 rfl ?_
      refine Wp.aload_n dc_X7_fewestForRest_28 rfl ?_
      refine Wp.iload dc_X7_fewestForRest_29 rfl ?_
      refine Wp.iload_n dc_X7_fewestForRest_31 rfl ?_
      refine Wp.iload_n dc_X7_fewestForRest_32 rfl ?_
      obtain ⟨p33, h33, hE⟩ := bnd hE
      refine Wp.cV4i (ok_X7_secondsWithNext (by omega) h33) dc_X7_fewestForRest_33 mw_X7_111 (mO6 (by decide)) (by decide) (Nat.le_of_ble_eq_true rfl) ?_
      refine Wp.mmin dc_X7_fewestForRest_36 lw_X7_115 ms_min mi_Math mk_min (by decide) (Nat.le_refl _) (Nat.le_refl _) (Nat.le_of_ble_eq_true rfl) ?_
      obtain ⟨x4_39, e_39, hE⟩ := bnS hE
      rw [e_39]
      refine Wp.istore dc_X7_fewestForRest_39 (by decide) ?_
      exact ok_X7_fewestForRest_j41  hr1 hE hS hT
theorem ok_X7_fewestForRest_l7 {Q : Option AV → AH → Prop}  {σ : SS} {r1 : Nat} {x2 : Int32} {x3 : Int32} {x4 : Int32} {x5 : Int32} {o}   (hr1 : r1 < 5) (hE : X7_fewestForRest_l7  σ r1 x2 x3 x4 x5 = some o) (hK : Q (some (vi o.1)) (hp o.2)) : Ws 4 mi_X7_fewestForRest Q 7 [some (vr 6 0), some (vr 0 r1), some (vi x2), some (vi x3), some (vi x4), some (vi x5)] [] σ := by
  unfold X7_fewestForRest_l7 at hE
  obtain ⟨t7, h1, hE⟩ := bnd hE
  refine iter_ok (P := (X7_fewestForRest_P7  Q  r1 x2 x3)) (R := (X7_fewestForRest_R7  Q  r1 x2 x3)) (fun ss o h2 hS hT => ?_) NF _ _ h1 ?_
  · skip
    exact ok_X7_fewestForRest_l7c  hr1 h2 hS hT
  · intro z0 z1 z2 z3 z5
    show Ws 4 mi_X7_fewestForRest Q 47 [z0, z1, z2, z3, some (vi t7.1), z5] [] t7.2
    refine Wp.iload dc_X7_fewestForRest_47 rfl ?_
    cases hE
    exact Wp.ireturn dc_X7_fewestForRest_49 rfl rfl (Nat.le_refl _) (Nat.le_refl _) hK
theorem ok_X7_fewestForRest_j0 {Q : Option AV → AH → Prop}  {σ : SS} {r1 : Nat} {x2 : Int32} {x3 : Int32} {o} {z4 z5 : Option AV}  (hr1 : r1 < 5) (hE : X7_fewestForRest_j0  σ r1 x2 x3 = some o) (hK : Q (some (vi o.1)) (hp o.2)) : Ws 4 mi_X7_fewestForRest Q 0 [some (vr 6 0), some (vr 0 r1), some (vi x2), some (vi x3), z4, z5] [] σ := by
  unfold X7_fewestForRest_j0 at hE
  refine Wp.ldc dc_X7_fewestForRest_0 kw_X7_34 ?_
  refine Wp.istore dc_X7_fewestForRest_2 (by decide) ?_
  refine Wp.iconst dc_X7_fewestForRest_4 ic_0 ?_
  refine Wp.istore dc_X7_fewestForRest_5 (by decide) ?_
  exact ok_X7_fewestForRest_l7  hr1 hE hK
theorem ok_X7_fewestForRest  {σ : SS} {r1 : Nat} {x2 : Int32} {x3 : Int32} {o}  (hr1 : r1 < 5) (hE : X7_fewestForRest  σ r1 x2 x3 = some o) : Runs 4 0 0 mi_X7_fewestForRest [vr 6 0, vr 0 r1, vi x2, vi x3] (hp σ) (fun v h => v = some (vi o.1) ∧ h = hp o.2) := by
  refine Runs.of pn_X7 (Nat.le_of_ble_eq_true rfl) ?_
  exact ok_X7_fewestForRest_j0  hr1 hE ⟨rfl, rfl⟩
def X7_layRest_P18 (Q : Option AV → AH → Prop)  (r1 : Nat) (x2 : Int32) (x3 : Int32) (x4 : Int32) (ss : Int32 × SS) : Prop := Ws 5 mi_X7_layRest Q 18 [some (vr 6 0), some (vr 0 r1), some (vi x2), some (vi x3), some (vi x4), some (vi ss.1)] [] ss.2
def X7_layRest_R18 (Q : Option AV → AH → Prop)  (r1 : Nat) (x2 : Int32) (x3 : Int32) (x4 : Int32) (tt : SS) : Prop := ∀ z1 z2 z3 z5 : Option AV, Ws 5 mi_X7_layRest Q 69 [some (vr 6 0), z1, z2, z3, some (vi x4), z5] [] tt
theorem ok_X7_layRest_j63 {Q : Option AV → AH → Prop}  {σ : SS} {r1 : Nat} {x2 : Int32} {x3 : Int32} {x4 : Int32} {x5 : Int32} {o}   (hr1 : r1 < 5) (hE : X7_layRest_j63  σ r1 x2 x3 x4 x5 = some o) (hS : ∀ ss, o = Sum.inl ss → (X7_layRest_P18  Q  r1 x2 x3 x4) ss) (hT : ∀ tt, o = Sum.inr tt → (X7_layRest_R18  Q  r1 x2 x3 x4) tt) : Ws 5 mi_X7_layRest Q 63 [some (vr 6 0), some (vr 0 r1), some (vi x2), some (vi x3), some (vi x4), some (vi x5)] [] σ := by
  unfold X7_layRest_j63 at hE
  obtain ⟨x5_63, e_63, hE⟩ := bnS hE
  refine Wp.iinc dc_X7_layRest_63 rfl ((ii ic_m1).trans e_63) (by decide) ?_
  refine Wp.goto (tgt := 18) dc_X7_layRest_66 (by decide) ?_
  cases hE
  exact hS _ rfl
theorem ok_X7_layRest_j60 {Q : Option AV → AH → Prop}  {σ : SS} {r1 : Nat} {x2 : Int32} {x3 : Int32} {x4 : Int32} {x5 : Int32} {s1 : Int32} {s2 : Int32} {s3 : Int32} {o}   (hr1 : r1 < 5) (hE : X7_layRest_j60  σ r1 x2 x3 x4 x5 s1 s2 s3 = some o) (hS : ∀ ss, o = Sum.inl ss → (X7_layRest_P18  Q  r1 x2 x3 x4) ss) (hT : ∀ tt, o = Sum.inr tt → (X7_layRest_R18  Q  r1 x2 x3 x4) tt) : Ws 5 mi_X7_layRest Q 60 [some (vr 6 0), some (vr 0 r1), some (vi x2), some (vi x3), some (vi x4), some (vi x5)] [vi s3, vi s2, vi s1, vr 3 25] σ := by
  unfold X7_layRest_j60 at hE
  obtain ⟨σ60, h60, hE⟩ := bnd hE
  refine Wp.cV3v (ok_X4_put (by decide) h60) dc_X7_layRest_60 mw_X7_47 (mO3 (by decide)) (by decide) (Nat.le_of_ble_eq_true rfl) ?_
  exact ok_X7_layRest_j63  hr1 hE hS hT
theorem ok_X7_layRest_l18c {Q : Option AV → AH → Prop}  {σ : SS} {r1 : Nat} {x2 : Int32} {x3 : Int32} {x4 : Int32} {x5 : Int32} {o}   (hr1 : r1 < 5) (hE : X7_layRest_l18c  σ r1 x2 x3 x4 x5 = some o) (hS : ∀ ss, o = Sum.inl ss → (X7_layRest_P18  Q  r1 x2 x3 x4) ss) (hT : ∀ tt, o = Sum.inr tt → (X7_layRest_R18  Q  r1 x2 x3 x4) tt) : Ws 5 mi_X7_layRest Q 18 [some (vr 6 0), some (vr 0 r1), some (vi x2), some (vi x3), some (vi x4), some (vi x5)] [] σ := by
  unfold X7_layRest_l18c at hE
  refine Wp.iload dc_X7_layRest_18 rfl ?_
  refine Wp.iload dc_X7_layRest_20 rfl ?_
  refine Wp.icmp_lt (tgt := 69) dc_X7_layRest_22 (by decide) (fun hc22 => ?_) (fun hc22 => ?_)
  · rw [if_pos hc22] at hE
    cases hE
    exact hT _ rfl _ _ _ _
  · rw [if_neg hc22] at hE
    refine Wp.iload dc_X7_layRest_25 rfl ?_
    refine Wp.iload dc_X7_layRest_27 rfl ?_
    refine Wp.iand dc_X7_layRest_29 ?_
    refine Wp.iload dc_X7_layRest_30 rfl ?_
    refine Wp.icmp_ne (tgt := 63) dc_X7_layRest_32 (by decide) (fun hc32 => ?_) (fun hc32 => ?_)
    · rw [if_neg hc32] at hE
      exact ok_X7_layRest_j63  hr1 hE hS hT
    · rw [if_pos hc32] at hE
      refine Wp.aload_n dc_X7_layRest_35 rfl ?_
      refine Wp.sgetR (t := 25) dc_X7_layRest_36 fw_X7_28 (mO6 (by decide)) rfl ?_
      refine Wp.iconst dc_X7_layRest_39 ic_0 ?_
      refine Wp.iload dc_X7_layRest_40 rfl ?_
      refine Wp.iload dc_X7_layRest_42 rfl ?_
      refine Wp.iload_n dc_X7_layRest_44 rfl ?_
      refine Wp.icmp_ne (tgt := 52) dc_X7_layRest_45 (by decide) (fun hc45 => ?_) (fun hc45 => ?_)
      · rw [if_neg hc45] at hE
        refine Wp.aload_n dc_X7_layRest_52 rfl ?_
        refine Wp.aload_n dc_X7_layRest_53 rfl ?_
        refine Wp.iload dc_X7_layRest_54 rfl ?_
        refine Wp.iload_n dc_X7_layRest_56 rfl ?_
        obtain ⟨p57, h57, hE⟩ := bnd hE
        refine Wp.cV3i (ok_X7_fewestForRest (by omega) h57) dc_X7_layRest_57 mw_X7_107 (mO6 (by decide)) (by decide) (Nat.le_of_ble_eq_true rfl) ?_
        exact ok_X7_layRest_j60  hr1 hE hS hT
      · rw [if_pos hc45] at hE
        refine Wp.iconst dc_X7_layRest_48 ic_0 ?_
        refine Wp.goto (tgt := 60) dc_X7_layRest_49 (by decide) ?_
        exact ok_X7_layRest_j60  hr1 hE hS hT
theorem ok_X7_layRest_l18 {Q : Option AV → AH → Prop}  {σ : SS} {r1 : Nat} {x2 : Int32} {x3 : Int32} {x4 : Int32} {x5 : Int32} {o}   (hr1 : r1 < 5) (hE : X7_layRest_l18  σ r1 x2 x3 x4 x5 = some o) (hK : Q (some (vi o.1)) (hp o.2)) : Ws 5 mi_X7_layRest Q 18 [some (vr 6 0), some (vr 0 r1), some (vi x2), some (vi x3), some (vi x4), some (vi x5)] [] σ := by
  unfold X7_layRest_l18 at hE
  obtain ⟨t18, h1, hE⟩ := bnd hE
  refine iter_ok (P := (X7_layRest_P18  Q  r1 x2 x3 x4)) (R := (X7_layRest_R18  Q  r1 x2 x3 x4)) (fun ss o h2 hS hT => ?_) NF _ _ h1 ?_
  · skip
    exact ok_X7_layRest_l18c  hr1 h2 hS hT
  · intro z1 z2 z3 z5
    show Ws 5 mi_X7_layRest Q 69 [some (vr 6 0), z1, z2, z3, some (vi x4), z5] [] t18
    refine Wp.aload_n dc_X7_layRest_69 rfl ?_
    refine Wp.sgetR (t := 25) dc_X7_layRest_70 fw_X7_28 (mO6 (by decide)) rfl ?_
    refine Wp.iconst dc_X7_layRest_73 ic_0 ?_
    refine Wp.iload dc_X7_layRest_74 rfl ?_
    obtain ⟨v76, h76, hE⟩ := bnd hE
    refine Wp.cV2i (ok_X4_at (by decide) h76) dc_X7_layRest_76 mw_X7_61 (mO3 (by decide)) (by decide) (Nat.le_of_ble_eq_true rfl) ?_
    cases hE
    exact Wp.ireturn dc_X7_layRest_79 rfl rfl (Nat.le_refl _) (Nat.le_refl _) hK
theorem ok_X7_layRest_j0 {Q : Option AV → AH → Prop}  {σ : SS} {r1 : Nat} {x2 : Int32} {o} {z3 z4 z5 : Option AV}  (hr1 : r1 < 5) (hE : X7_layRest_j0  σ r1 x2 = some o) (hK : Q (some (vi o.1)) (hp o.2)) : Ws 5 mi_X7_layRest Q 0 [some (vr 6 0), some (vr 0 r1), some (vi x2), z3, z4, z5] [] σ := by
  unfold X7_layRest_j0 at hE
  refine Wp.aload_n dc_X7_layRest_0 rfl ?_
  obtain ⟨v1, h1, hE⟩ := bnd hE
  refine Wp.cS1i (ok_X7_everyone (by omega) h1) dc_X7_layRest_1 mw_X7_100 (by decide) (Nat.le_of_ble_eq_true rfl) ?_
  refine Wp.istore_n dc_X7_layRest_4 (by decide) ?_
  refine Wp.iload_n dc_X7_layRest_5 rfl ?_
  refine Wp.aload_n dc_X7_layRest_6 rfl ?_
  obtain ⟨v7, h7, hE⟩ := bnd hE
  refine Wp.cV0i (ok_X0_insideSet (by omega) h7) dc_X7_layRest_7 mw_X7_104 (mO0 (by omega)) (by decide) (Nat.le_of_ble_eq_true rfl) ?_
  refine Wp.iconst dc_X7_layRest_10 ic_m1 ?_
  refine Wp.ixor dc_X7_layRest_11 ?_
  refine Wp.iand dc_X7_layRest_12 ?_
  obtain ⟨x4_13, e_13, hE⟩ := bnS hE
  rw [e_13]
  refine Wp.istore dc_X7_layRest_13 (by decide) ?_
  refine Wp.iload_n dc_X7_layRest_15 rfl ?_
  refine Wp.istore dc_X7_layRest_16 (by decide) ?_
  exact ok_X7_layRest_l18  hr1 hE hK
theorem ok_X7_layRest  {σ : SS} {r1 : Nat} {x2 : Int32} {o}  (hr1 : r1 < 5) (hE : X7_layRest  σ r1 x2 = some o) : Runs 5 0 0 mi_X7_layRest [vr 6 0, vr 0 r1, vi x2] (hp σ) (fun v h => v = some (vi o.1) ∧ h = hp o.2) := by
  refine Runs.of pn_X7 (Nat.le_of_ble_eq_true rfl) ?_
  exact ok_X7_layRest_j0  hr1 hE ⟨rfl, rfl⟩
def X7_firstOfBest_P2 (Q : Option AV → AH → Prop)  (r1 : Nat) (x2 : Int32) (ss : Int32 × SS) : Prop := Ws 4 mi_X7_firstOfBest Q 2 [some (vr 6 0), some (vr 0 r1), some (vi x2), some (vi ss.1)] [] ss.2
def X7_firstOfBest_R2 (Q : Option AV → AH → Prop)  (r1 : Nat) (x2 : Int32) (tt : (Int32 × SS) ⊕ (SS)) : Prop := match tt with
  | Sum.inl tt => ∀ z0 z1 z2 : Option AV, Ws 4 mi_X7_firstOfBest Q 41 [z0, z1, z2, some (vi tt.1)] [] tt.2
  | Sum.inr tt => ∀ z0 z1 z2 z3 : Option AV, Ws 4 mi_X7_firstOfBest Q 49 [z0, z1, z2, z3] [] tt
theorem ok_X7_firstOfBest_j43 {Q : Option AV → AH → Prop}  {σ : SS} {r1 : Nat} {x2 : Int32} {x3 : Int32} {o}   (hr1 : r1 < 5) (hE : X7_firstOfBest_j43  σ r1 x2 x3 = some o) (hS : ∀ ss, o = Sum.inl ss → (X7_firstOfBest_P2  Q  r1 x2) ss) (hT : ∀ tt, o = Sum.inr tt → (X7_firstOfBest_R2  Q  r1 x2) tt) : Ws 4 mi_X7_firstOfBest Q 43 [some (vr 6 0), some (vr 0 r1), some (vi x2), some (vi x3)] [] σ := by
  unfold X7_firstOfBest_j43 at hE
  obtain ⟨x3_43, e_43, hE⟩ := bnS hE
  refine Wp.iinc dc_X7_firstOfBest_43 rfl ((ii ic_1).trans e_43) (by decide) ?_
  refine Wp.goto (tgt := 2) dc_X7_firstOfBest_46 (by decide) ?_
  cases hE
  exact hS _ rfl
theorem ok_X7_firstOfBest_l2c {Q : Option AV → AH → Prop}  {σ : SS} {r1 : Nat} {x2 : Int32} {x3 : Int32} {o}   (hr1 : r1 < 5) (hE : X7_firstOfBest_l2c  σ r1 x2 x3 = some o) (hS : ∀ ss, o = Sum.inl ss → (X7_firstOfBest_P2  Q  r1 x2) ss) (hT : ∀ tt, o = Sum.inr tt → (X7_firstOfBest_R2  Q  r1 x2) tt) : Ws 4 mi_X7_firstOfBest Q 2 [some (vr 6 0), some (vr 0 r1), some (vi x2), some (vi x3)] [] σ := by
  unfold X7_firstOfBest_l2c at hE
  refine Wp.iload_n dc_X7_firstOfBest_2 rfl ?_
  refine Wp.aload_n dc_X7_firstOfBest_3 rfl ?_
  obtain ⟨v4, h4, hE⟩ := bnd hE
  refine Wp.cV0i (ok_X0_leadCount (by omega) h4) dc_X7_firstOfBest_4 mw_X7_73 (mO0 (by omega)) (by decide) (Nat.le_of_ble_eq_true rfl) ?_
  refine Wp.icmp_ge (tgt := 49) dc_X7_firstOfBest_7 (by decide) (fun hc7 => ?_) (fun hc7 => ?_)
  · rw [if_pos hc7] at hE
    cases hE
    exact hT _ rfl _ _ _ _
  · rw [if_neg hc7] at hE
    refine Wp.iload_n dc_X7_firstOfBest_10 rfl ?_
    refine Wp.iload_n dc_X7_firstOfBest_11 rfl ?_
    refine Wp.ishr dc_X7_firstOfBest_12 ?_
    refine Wp.iconst dc_X7_firstOfBest_13 ic_1 ?_
    refine Wp.iand dc_X7_firstOfBest_14 ?_
    refine Wp.if_ne (tgt := 43) dc_X7_firstOfBest_15 (by decide) (fun hc15 => ?_) (fun hc15 => ?_)
    · rw [if_neg hc15] at hE
      exact ok_X7_firstOfBest_j43  hr1 hE hS hT
    · rw [if_pos hc15] at hE
      refine Wp.aload_n dc_X7_firstOfBest_18 rfl ?_
      refine Wp.aload_n dc_X7_firstOfBest_19 rfl ?_
      refine Wp.iload_n dc_X7_firstOfBest_20 rfl ?_
      refine Wp.iload_n dc_X7_firstOfBest_21 rfl ?_
      refine Wp.aload_n dc_X7_firstOfBest_22 rfl ?_
      refine Wp.sgetI dc_X7_firstOfBest_23 fw_X7_87 (mO6 (by decide)) ?_
      obtain ⟨p26, h26, hE⟩ := bnd hE
      refine Wp.cV4i (ok_X7_secondsWithNext (by omega) h26) dc_X7_firstOfBest_26 mw_X7_111 (mO6 (by decide)) (by decide) (Nat.le_of_ble_eq_true rfl) ?_
      refine Wp.aload_n dc_X7_firstOfBest_29 rfl ?_
      refine Wp.sgetR (t := 25) dc_X7_firstOfBest_30 fw_X7_28 (mO6 (by decide)) rfl ?_
      refine Wp.iconst dc_X7_firstOfBest_33 ic_0 ?_
      refine Wp.iload_n dc_X7_firstOfBest_34 rfl ?_
      obtain ⟨v35, h35, hE⟩ := bnd hE
      refine Wp.cV2i (ok_X4_at (by decide) h35) dc_X7_firstOfBest_35 mw_X7_61 (mO3 (by decide)) (by decide) (Nat.le_of_ble_eq_true rfl) ?_
      refine Wp.icmp_ne (tgt := 43) dc_X7_firstOfBest_38 (by decide) (fun hc38 => ?_) (fun hc38 => ?_)
      · rw [if_neg hc38] at hE
        exact ok_X7_firstOfBest_j43  hr1 hE hS hT
      · rw [if_pos hc38] at hE
        cases hE
        exact hT _ rfl _ _ _
theorem ok_X7_firstOfBest_l2 {Q : Option AV → AH → Prop}  {σ : SS} {r1 : Nat} {x2 : Int32} {x3 : Int32} {o}   (hr1 : r1 < 5) (hE : X7_firstOfBest_l2  σ r1 x2 x3 = some o) (hK : Q (some (vi o.1)) (hp o.2)) : Ws 4 mi_X7_firstOfBest Q 2 [some (vr 6 0), some (vr 0 r1), some (vi x2), some (vi x3)] [] σ := by
  unfold X7_firstOfBest_l2 at hE
  obtain ⟨t2, h1, hE⟩ := bnd hE
  refine iter_ok (P := (X7_firstOfBest_P2  Q  r1 x2)) (R := (X7_firstOfBest_R2  Q  r1 x2)) (fun ss o h2 hS hT => ?_) NF _ _ h1 ?_
  · skip
    exact ok_X7_firstOfBest_l2c  hr1 h2 hS hT
  · rcases t2 with e41 | u41
    · dsimp only at hE
      intro z0 z1 z2
      show Ws 4 mi_X7_firstOfBest Q 41 [z0, z1, z2, some (vi e41.1)] [] e41.2
      refine Wp.iload_n dc_X7_firstOfBest_41 rfl ?_
      cases hE
      exact Wp.ireturn dc_X7_firstOfBest_42 rfl rfl (Nat.le_refl _) (Nat.le_refl _) hK
    · dsimp only at hE
      skip
      intro z0 z1 z2 z3
      show Ws 4 mi_X7_firstOfBest Q 49 [z0, z1, z2, z3] [] u41
      refine Wp.iconst dc_X7_firstOfBest_49 ic_m1 ?_
      cases hE
      exact Wp.ireturn dc_X7_firstOfBest_50 rfl rfl (Nat.le_refl _) (Nat.le_refl _) hK
theorem ok_X7_firstOfBest_j0 {Q : Option AV → AH → Prop}  {σ : SS} {r1 : Nat} {x2 : Int32} {o} {z3 : Option AV}  (hr1 : r1 < 5) (hE : X7_firstOfBest_j0  σ r1 x2 = some o) (hK : Q (some (vi o.1)) (hp o.2)) : Ws 4 mi_X7_firstOfBest Q 0 [some (vr 6 0), some (vr 0 r1), some (vi x2), z3] [] σ := by
  unfold X7_firstOfBest_j0 at hE
  refine Wp.iconst dc_X7_firstOfBest_0 ic_0 ?_
  refine Wp.istore_n dc_X7_firstOfBest_1 (by decide) ?_
  exact ok_X7_firstOfBest_l2  hr1 hE hK
theorem ok_X7_firstOfBest  {σ : SS} {r1 : Nat} {x2 : Int32} {o}  (hr1 : r1 < 5) (hE : X7_firstOfBest  σ r1 x2 = some o) : Runs 4 0 0 mi_X7_firstOfBest [vr 6 0, vr 0 r1, vi x2] (hp σ) (fun v h => v = some (vi o.1) ∧ h = hp o.2) := by
  refine Runs.of pn_X7 (Nat.le_of_ble_eq_true rfl) ?_
  exact ok_X7_firstOfBest_j0  hr1 hE ⟨rfl, rfl⟩
def X7_layOrder_P19 (Q : Option AV → AH → Prop)  (r1 : Nat)  (ss : Int32 × Int32 × SS) : Prop := ∀ z4 : Option AV, Ws 5 mi_X7_layOrder Q 19 [some (vr 6 0), some (vr 0 r1), some (vi ss.1), some (vi ss.2.1), z4] [] ss.2.2
def X7_layOrder_R19 (Q : Option AV → AH → Prop)  (r1 : Nat)  (tt : SS) : Prop := ∀ z0 z1 z2 z3 z4 : Option AV, Ws 5 mi_X7_layOrder Q 78 [z0, z1, z2, z3, z4] [] tt
theorem ok_X7_layOrder_j72 {Q : Option AV → AH → Prop}  {σ : SS} {r1 : Nat} {x2 : Int32} {x3 : Int32} {o} {z4 : Option AV}  (hr1 : r1 < 5) (hE : X7_layOrder_j72  σ r1 x2 x3 = some o) (hS : ∀ ss, o = Sum.inl ss → (X7_layOrder_P19  Q  r1 ) ss) (hT : ∀ tt, o = Sum.inr tt → (X7_layOrder_R19  Q  r1 ) tt) : Ws 5 mi_X7_layOrder Q 72 [some (vr 6 0), some (vr 0 r1), some (vi x2), some (vi x3), z4] [] σ := by
  unfold X7_layOrder_j72 at hE
  obtain ⟨x3_72, e_72, hE⟩ := bnS hE
  refine Wp.iinc dc_X7_layOrder_72 rfl ((ii ic_1).trans e_72) (by decide) ?_
  refine Wp.goto (tgt := 19) dc_X7_layOrder_75 (by decide) ?_
  cases hE
  exact hS _ rfl _
theorem ok_X7_layOrder_l19c {Q : Option AV → AH → Prop}  {σ : SS} {r1 : Nat}  {x2 : Int32} {x3 : Int32} {o} {z4 : Option AV}  (hr1 : r1 < 5) (hE : X7_layOrder_l19c  σ r1  x2 x3 = some o) (hS : ∀ ss, o = Sum.inl ss → (X7_layOrder_P19  Q  r1 ) ss) (hT : ∀ tt, o = Sum.inr tt → (X7_layOrder_R19  Q  r1 ) tt) : Ws 5 mi_X7_layOrder Q 19 [some (vr 6 0), some (vr 0 r1), some (vi x2), some (vi x3), z4] [] σ := by
  unfold X7_layOrder_l19c at hE
  refine Wp.iload_n dc_X7_layOrder_19 rfl ?_
  refine Wp.aload_n dc_X7_layOrder_20 rfl ?_
  obtain ⟨v21, h21, hE⟩ := bnd hE
  refine Wp.cV0i (ok_X0_leadCount (by omega) h21) dc_X7_layOrder_21 mw_X7_73 (mO0 (by omega)) (by decide) (Nat.le_of_ble_eq_true rfl) ?_
  refine Wp.icmp_ge (tgt := 78) dc_X7_layOrder_24 (by decide) (fun hc24 => ?_) (fun hc24 => ?_)
  · rw [if_pos hc24] at hE
    cases hE
    exact hT _ rfl _ _ _ _ _
  · rw [if_neg hc24] at hE
    refine Wp.aload_n dc_X7_layOrder_27 rfl ?_
    refine Wp.aload_n dc_X7_layOrder_28 rfl ?_
    refine Wp.iload_n dc_X7_layOrder_29 rfl ?_
    obtain ⟨p30, h30, hE⟩ := bnd hE
    refine Wp.cV2i (ok_X7_firstOfBest (by omega) h30) dc_X7_layOrder_30 mw_X7_120 (mO6 (by decide)) (by decide) (Nat.le_of_ble_eq_true rfl) ?_
    refine Wp.istore dc_X7_layOrder_33 (by decide) ?_
    refine Wp.iload dc_X7_layOrder_35 rfl ?_
    refine Wp.iconst dc_X7_layOrder_37 ic_m1 ?_
    refine Wp.icmp_eq (tgt := 72) dc_X7_layOrder_38 (by decide) (fun hc38 => ?_) (fun hc38 => ?_)
    · rw [if_pos hc38] at hE
      exact ok_X7_layOrder_j72  hr1 hE hS hT
    · rw [if_neg hc38] at hE
      refine Wp.aload_n dc_X7_layOrder_41 rfl ?_
      refine Wp.sgetR (t := 26) dc_X7_layOrder_42 fw_X7_31 (mO6 (by decide)) rfl ?_
      refine Wp.iconst dc_X7_layOrder_45 ic_0 ?_
      refine Wp.aload_n dc_X7_layOrder_46 rfl ?_
      refine Wp.sgetI dc_X7_layOrder_47 fw_X7_97 (mO6 (by decide)) ?_
      refine Wp.iload dc_X7_layOrder_50 rfl ?_
      obtain ⟨σ52, h52, hE⟩ := bnd hE
      refine Wp.cV3v (ok_X4_put (by decide) h52) dc_X7_layOrder_52 mw_X7_47 (mO3 (by decide)) (by decide) (Nat.le_of_ble_eq_true rfl) ?_
      refine Wp.aload_n dc_X7_layOrder_55 rfl ?_
      refine Wp.dup dc_X7_layOrder_56 rfl ?_
      refine Wp.sgetI dc_X7_layOrder_57 fw_X7_97 (mO6 (by decide)) ?_
      refine Wp.iconst dc_X7_layOrder_60 ic_1 ?_
      refine Wp.iadd dc_X7_layOrder_61 ?_
      refine Wp.sputI dc_X7_layOrder_62 fw_X7_97 (mO6 (by decide)) (Nr.i _) ?_
      obtain ⟨σ62, es_62, hE⟩ := bnS hE
      rw [es_62]
      refine Wp.iload_n dc_X7_layOrder_65 rfl ?_
      refine Wp.iconst dc_X7_layOrder_66 ic_1 ?_
      refine Wp.iload dc_X7_layOrder_67 rfl ?_
      refine Wp.ishl dc_X7_layOrder_69 ?_
      refine Wp.ior dc_X7_layOrder_70 ?_
      obtain ⟨x2_71, e_71, hE⟩ := bnS hE
      rw [e_71]
      refine Wp.istore_n dc_X7_layOrder_71 (by decide) ?_
      exact ok_X7_layOrder_j72  hr1 hE hS hT
theorem ok_X7_layOrder_l19 {Q : Option AV → AH → Prop}  {σ : SS} {r1 : Nat} {x2 : Int32} {x3 : Int32} {o} {z4 : Option AV}  (hr1 : r1 < 5) (hE : X7_layOrder_l19  σ r1 x2 x3 = some o) (hK : Q none (hp o)) : Ws 5 mi_X7_layOrder Q 19 [some (vr 6 0), some (vr 0 r1), some (vi x2), some (vi x3), z4] [] σ := by
  unfold X7_layOrder_l19 at hE
  obtain ⟨t19, h1, hE⟩ := bnd hE
  refine iter_ok (P := (X7_layOrder_P19  Q  r1 )) (R := (X7_layOrder_R19  Q  r1 )) (fun ss o h2 hS hT => ?_) NF _ _ h1 ?_ _
  · intro z4
    exact ok_X7_layOrder_l19c  hr1 h2 hS hT
  · intro z0 z1 z2 z3 z4
    show Ws 5 mi_X7_layOrder Q 78 [z0, z1, z2, z3, z4] [] t19
    cases hE
    exact Wp.return dc_X7_layOrder_78 rfl (Nat.le_refl _) (Nat.le_refl _) hK
theorem ok_X7_layOrder_j0 {Q : Option AV → AH → Prop}  {σ : SS} {r1 : Nat}  {o} {z2 z3 z4 : Option AV}  (hr1 : r1 < 5) (hE : X7_layOrder_j0  σ r1  = some o) (hK : Q none (hp o)) : Ws 5 mi_X7_layOrder Q 0 [some (vr 6 0), some (vr 0 r1), z2, z3, z4] [] σ := by
  unfold X7_layOrder_j0 at hE
  refine Wp.aload_n dc_X7_layOrder_0 rfl ?_
  refine Wp.iconst dc_X7_layOrder_1 ic_0 ?_
  refine Wp.sputI dc_X7_layOrder_2 fw_X7_97 (mO6 (by decide)) (Nr.i _) ?_
  obtain ⟨σ2, es_2, hE⟩ := bnS hE
  rw [es_2]
  refine Wp.aload_n dc_X7_layOrder_5 rfl ?_
  obtain ⟨v6, h6, hE⟩ := bnd hE
  refine Wp.cS1i (ok_X7_everyone (by omega) h6) dc_X7_layOrder_6 mw_X7_100 (by decide) (Nat.le_of_ble_eq_true rfl) ?_
  refine Wp.aload_n dc_X7_layOrder_9 rfl ?_
  obtain ⟨v10, h10, hE⟩ := bnd hE
  refine Wp.cV0i (ok_X0_insideSet (by omega) h10) dc_X7_layOrder_10 mw_X7_104 (mO0 (by omega)) (by decide) (Nat.le_of_ble_eq_true rfl) ?_
  refine Wp.iconst dc_X7_layOrder_13 ic_m1 ?_
  refine Wp.ixor dc_X7_layOrder_14 ?_
  refine Wp.iand dc_X7_layOrder_15 ?_
  obtain ⟨x2_16, e_16, hE⟩ := bnS hE
  rw [e_16]
  refine Wp.istore_n dc_X7_layOrder_16 (by decide) ?_
  refine Wp.iconst dc_X7_layOrder_17 ic_0 ?_
  refine Wp.istore_n dc_X7_layOrder_18 (by decide) ?_
  exact ok_X7_layOrder_l19  hr1 hE hK
theorem ok_X7_layOrder  {σ : SS} {r1 : Nat}  {o}  (hr1 : r1 < 5) (hE : X7_layOrder  σ r1  = some o) : Runs 5 0 0 mi_X7_layOrder [vr 6 0, vr 0 r1] (hp σ) (fun v h => v = none ∧ h = hp o) := by
  refine Runs.of pn_X7 (Nat.le_of_ble_eq_true rfl) ?_
  exact ok_X7_layOrder_j0  hr1 hE ⟨rfl, rfl⟩
def X7_findAll_P8 (Q : Option AV → AH → Prop)  (r1 : Nat)  (ss : Int32 × Int32 × Int32 × SS) : Prop := ∀ z5 z6 : Option AV, Ws 6 mi_X7_findAll Q 8 [some (vr 6 0), some (vr 0 r1), some (vi ss.1), some (vi ss.2.1), some (vi ss.2.2.1), z5, z6] [] ss.2.2.2
def X7_findAll_R8 (Q : Option AV → AH → Prop)  (r1 : Nat)  (tt : Int32 × Int32 × SS) : Prop := ∀ z4 z5 z6 : Option AV, Ws 6 mi_X7_findAll Q 63 [some (vr 6 0), some (vr 0 r1), some (vi tt.1), some (vi tt.2.1), z4, z5, z6] [] tt.2.2
theorem ok_X7_findAll_j57 {Q : Option AV → AH → Prop}  {σ : SS} {r1 : Nat} {x2 : Int32} {x3 : Int32} {x4 : Int32} {o} {z5 z6 : Option AV}  (hr1 : r1 < 5) (hE : X7_findAll_j57  σ r1 x2 x3 x4 = some o) (hS : ∀ ss, o = Sum.inl ss → (X7_findAll_P8  Q  r1 ) ss) (hT : ∀ tt, o = Sum.inr tt → (X7_findAll_R8  Q  r1 ) tt) : Ws 6 mi_X7_findAll Q 57 [some (vr 6 0), some (vr 0 r1), some (vi x2), some (vi x3), some (vi x4), z5, z6] [] σ := by
  unfold X7_findAll_j57 at hE
  obtain ⟨x4_57, e_57, hE⟩ := bnS hE
  refine Wp.iinc dc_X7_findAll_57 rfl ((ii ic_1).trans e_57) (by decide) ?_
  refine Wp.goto (tgt := 8) dc_X7_findAll_60 (by decide) ?_
  cases hE
  exact hS _ rfl _ _
theorem ok_X7_findAll_j43 {Q : Option AV → AH → Prop}  {σ : SS} {r1 : Nat} {x2 : Int32} {x3 : Int32} {x4 : Int32} {s0 : Int32} {o} {z5 z6 : Option AV}  (hr1 : r1 < 5) (hE : X7_findAll_j43  σ r1 x2 x3 x4 s0 = some o) (hS : ∀ ss, o = Sum.inl ss → (X7_findAll_P8  Q  r1 ) ss) (hT : ∀ tt, o = Sum.inr tt → (X7_findAll_R8  Q  r1 ) tt) : Ws 6 mi_X7_findAll Q 43 [some (vr 6 0), some (vr 0 r1), some (vi x2), some (vi x3), some (vi x4), z5, z6] [vi s0] σ := by
  unfold X7_findAll_j43 at hE
  refine Wp.istore dc_X7_findAll_43 (by decide) ?_
  refine Wp.iload dc_X7_findAll_45 rfl ?_
  refine Wp.iload_n dc_X7_findAll_47 rfl ?_
  refine Wp.icmp_ge (tgt := 57) dc_X7_findAll_48 (by decide) (fun hc48 => ?_) (fun hc48 => ?_)
  · rw [if_pos hc48, if_pos hc48] at hE
    exact ok_X7_findAll_j57  hr1 hE hS hT
  · rw [if_neg hc48, if_neg hc48] at hE
    refine Wp.iload dc_X7_findAll_51 rfl ?_
    refine Wp.istore_n dc_X7_findAll_53 (by decide) ?_
    refine Wp.iload dc_X7_findAll_54 rfl ?_
    refine Wp.istore_n dc_X7_findAll_56 (by decide) ?_
    exact ok_X7_findAll_j57  hr1 hE hS hT
theorem ok_X7_findAll_l8c {Q : Option AV → AH → Prop}  {σ : SS} {r1 : Nat}  {x2 : Int32} {x3 : Int32} {x4 : Int32} {o} {z5 z6 : Option AV}  (hr1 : r1 < 5) (hE : X7_findAll_l8c  σ r1  x2 x3 x4 = some o) (hS : ∀ ss, o = Sum.inl ss → (X7_findAll_P8  Q  r1 ) ss) (hT : ∀ tt, o = Sum.inr tt → (X7_findAll_R8  Q  r1 ) tt) : Ws 6 mi_X7_findAll Q 8 [some (vr 6 0), some (vr 0 r1), some (vi x2), some (vi x3), some (vi x4), z5, z6] [] σ := by
  unfold X7_findAll_l8c at hE
  refine Wp.iload dc_X7_findAll_8 rfl ?_
  refine Wp.iconst dc_X7_findAll_10 ic_3 ?_
  refine Wp.icmp_gt (tgt := 63) dc_X7_findAll_11 (by decide) (fun hc11 => ?_) (fun hc11 => ?_)
  · rw [if_pos hc11] at hE
    cases hE
    exact hT _ rfl _ _ _
  · rw [if_neg hc11] at hE
    refine Wp.aload_n dc_X7_findAll_14 rfl ?_
    refine Wp.iload dc_X7_findAll_15 rfl ?_
    obtain ⟨v17, h17, hE⟩ := bnd hE
    refine Wp.cV1i (ok_X0_secondsToLoosen (by omega) h17) dc_X7_findAll_17 mw_X7_39 (mO0 (by omega)) (by decide) (Nat.le_of_ble_eq_true rfl) ?_
    refine Wp.istore dc_X7_findAll_20 (by decide) ?_
    refine Wp.iload dc_X7_findAll_22 rfl ?_
    refine Wp.iload_n dc_X7_findAll_24 rfl ?_
    refine Wp.icmp_ge (tgt := 41) dc_X7_findAll_25 (by decide) (fun hc25 => ?_) (fun hc25 => ?_)
    · rw [if_pos hc25] at hE
      refine Wp.ldc dc_X7_findAll_41 kw_X7_34 ?_
      exact ok_X7_findAll_j43  hr1 hE hS hT
    · rw [if_neg hc25] at hE
      refine Wp.iload dc_X7_findAll_28 rfl ?_
      refine Wp.aload_n dc_X7_findAll_30 rfl ?_
      refine Wp.aload_n dc_X7_findAll_31 rfl ?_
      refine Wp.iload dc_X7_findAll_32 rfl ?_
      obtain ⟨p34, h34, hE⟩ := bnd hE
      refine Wp.cV2i (ok_X7_layRest (by omega) h34) dc_X7_findAll_34 mw_X7_84 (mO6 (by decide)) (by decide) (Nat.le_of_ble_eq_true rfl) ?_
      refine Wp.iadd dc_X7_findAll_37 ?_
      refine Wp.goto (tgt := 43) dc_X7_findAll_38 (by decide) ?_
      exact ok_X7_findAll_j43  hr1 hE hS hT
theorem ok_X7_findAll_l8 {Q : Option AV → AH → Prop}  {σ : SS} {r1 : Nat} {x2 : Int32} {x3 : Int32} {x4 : Int32} {o} {z5 z6 : Option AV}  (hr1 : r1 < 5) (hE : X7_findAll_l8  σ r1 x2 x3 x4 = some o) (hK : Q (some (vi o.1)) (hp o.2)) : Ws 6 mi_X7_findAll Q 8 [some (vr 6 0), some (vr 0 r1), some (vi x2), some (vi x3), some (vi x4), z5, z6] [] σ := by
  unfold X7_findAll_l8 at hE
  obtain ⟨t8, h1, hE⟩ := bnd hE
  refine iter_ok (P := (X7_findAll_P8  Q  r1 )) (R := (X7_findAll_R8  Q  r1 )) (fun ss o h2 hS hT => ?_) NF _ _ h1 ?_ _ _
  · intro z5 z6
    exact ok_X7_findAll_l8c  hr1 h2 hS hT
  · intro z4 z5 z6
    show Ws 6 mi_X7_findAll Q 63 [some (vr 6 0), some (vr 0 r1), some (vi t8.1), some (vi t8.2.1), z4, z5, z6] [] t8.2.2
    refine Wp.aload_n dc_X7_findAll_63 rfl ?_
    refine Wp.iload_n dc_X7_findAll_64 rfl ?_
    refine Wp.sputI dc_X7_findAll_65 fw_X7_87 (mO6 (by decide)) (Nr.i _) ?_
    obtain ⟨σ65, es_65, hE⟩ := bnS hE
    rw [es_65]
    refine Wp.aload_n dc_X7_findAll_68 rfl ?_
    refine Wp.iconst dc_X7_findAll_69 ic_1 ?_
    refine Wp.sputI dc_X7_findAll_70 fw_X7_90 (mO6 (by decide)) Nr.z1 ?_
    obtain ⟨σ70, es_70, hE⟩ := bnS hE
    rw [es_70]
    refine Wp.aload_n dc_X7_findAll_73 rfl ?_
    refine Wp.aload_n dc_X7_findAll_74 rfl ?_
    refine Wp.iload_n dc_X7_findAll_75 rfl ?_
    obtain ⟨p76, h76, hE⟩ := bnd hE
    refine Wp.cV2i (ok_X7_layRest (by omega) h76) dc_X7_findAll_76 mw_X7_84 (mO6 (by decide)) (by decide) (Nat.le_of_ble_eq_true rfl) ?_
    refine Wp.pop dc_X7_findAll_79 rfl ?_
    refine Wp.aload_n dc_X7_findAll_80 rfl ?_
    refine Wp.aload_n dc_X7_findAll_81 rfl ?_
    obtain ⟨σ82, h82, hE⟩ := bnd hE
    refine Wp.cV1v (ok_X7_layOrder (by omega) h82) dc_X7_findAll_82 mw_X7_93 (mO6 (by decide)) (by decide) (Nat.le_of_ble_eq_true rfl) ?_
    refine Wp.iload_n dc_X7_findAll_85 rfl ?_
    cases hE
    exact Wp.ireturn dc_X7_findAll_86 rfl rfl (Nat.le_refl _) (Nat.le_refl _) hK
theorem ok_X7_findAll_j0 {Q : Option AV → AH → Prop}  {σ : SS} {r1 : Nat}  {o} {z2 z3 z4 z5 z6 : Option AV}  (hr1 : r1 < 5) (hE : X7_findAll_j0  σ r1  = some o) (hK : Q (some (vi o.1)) (hp o.2)) : Ws 6 mi_X7_findAll Q 0 [some (vr 6 0), some (vr 0 r1), z2, z3, z4, z5, z6] [] σ := by
  unfold X7_findAll_j0 at hE
  refine Wp.ldc dc_X7_findAll_0 kw_X7_34 ?_
  refine Wp.istore_n dc_X7_findAll_2 (by decide) ?_
  refine Wp.iconst dc_X7_findAll_3 ic_0 ?_
  refine Wp.istore_n dc_X7_findAll_4 (by decide) ?_
  refine Wp.iconst dc_X7_findAll_5 ic_0 ?_
  refine Wp.istore dc_X7_findAll_6 (by decide) ?_
  exact ok_X7_findAll_l8  hr1 hE hK
theorem ok_X7_findAll  {σ : SS} {r1 : Nat}  {o}  (hr1 : r1 < 5) (hE : X7_findAll  σ r1  = some o) : Runs 6 0 0 mi_X7_findAll [vr 6 0, vr 0 r1] (hp σ) (fun v h => v = some (vi o.1) ∧ h = hp o.2) := by
  refine Runs.of pn_X7 (Nat.le_of_ble_eq_true rfl) ?_
  exact ok_X7_findAll_j0  hr1 hE ⟨rfl, rfl⟩
theorem ok_X7_hasOrder_j0 {Q : Option AV → AH → Prop}  {σ : SS}   {o}    (hE : X7_hasOrder_j0  σ   = some o) (hK : Q (some (vi o)) (hp σ)) : Ws 0 mi_X7_hasOrder Q 0 [some (vr 6 0)] [] σ := by
  unfold X7_hasOrder_j0 at hE
  refine Wp.aload_n dc_X7_hasOrder_0 rfl ?_
  refine Wp.sgetI dc_X7_hasOrder_1 fw_X7_90 (mO6 (by decide)) ?_
  obtain ⟨b4, h4, hE⟩ := bnd hE
  obtain ⟨e_4, hb4⟩ := zb_some h4
  skip
  cases hE
  exact Wp.ireturn dc_X7_hasOrder_4 rfl hb4.1 (Nat.le_refl _) (Nat.le_refl _) hK
theorem ok_X7_hasOrder  {σ : SS}   {o}   (hE : X7_hasOrder  σ   = some o) : Runs 0 0 0 mi_X7_hasOrder [vr 6 0] (hp σ) (fun v h => v = some (vi o) ∧ h = hp σ) := by
  refine Runs.of pn_X7 (Nat.le_of_ble_eq_true rfl) ?_
  exact ok_X7_hasOrder_j0   hE ⟨rfl, rfl⟩
theorem ok_X7_orderLength_j0 {Q : Option AV → AH → Prop}  {σ : SS}   {o}    (hE : X7_orderLength_j0  σ   = some o) (hK : Q (some (vi o)) (hp σ)) : Ws 0 mi_X7_orderLength Q 0 [some (vr 6 0)] [] σ := by
  unfold X7_orderLength_j0 at hE
  refine Wp.aload_n dc_X7_orderLength_0 rfl ?_
  refine Wp.sgetI dc_X7_orderLength_1 fw_X7_97 (mO6 (by decide)) ?_
  cases hE
  exact Wp.ireturn dc_X7_orderLength_4 rfl rfl (Nat.le_refl _) (Nat.le_refl _) hK
theorem ok_X7_orderLength  {σ : SS}   {o}   (hE : X7_orderLength  σ   = some o) : Runs 0 0 0 mi_X7_orderLength [vr 6 0] (hp σ) (fun v h => v = some (vi o) ∧ h = hp σ) := by
  refine Runs.of pn_X7 (Nat.le_of_ble_eq_true rfl) ?_
  exact ok_X7_orderLength_j0   hE ⟨rfl, rfl⟩
theorem ok_X7_inOrder_j0 {Q : Option AV → AH → Prop}  {σ : SS}  {x1 : Int32} {o}    (hE : X7_inOrder_j0  σ  x1 = some o) (hK : Q (some (vi o)) (hp σ)) : Ws 1 mi_X7_inOrder Q 0 [some (vr 6 0), some (vi x1)] [] σ := by
  unfold X7_inOrder_j0 at hE
  refine Wp.aload_n dc_X7_inOrder_0 rfl ?_
  refine Wp.sgetR (t := 26) dc_X7_inOrder_1 fw_X7_31 (mO6 (by decide)) rfl ?_
  refine Wp.iconst dc_X7_inOrder_4 ic_0 ?_
  refine Wp.iload_n dc_X7_inOrder_5 rfl ?_
  obtain ⟨v6, h6, hE⟩ := bnd hE
  refine Wp.cV2i (ok_X4_at (by decide) h6) dc_X7_inOrder_6 mw_X7_61 (mO3 (by decide)) (by decide) (Nat.le_of_ble_eq_true rfl) ?_
  cases hE
  exact Wp.ireturn dc_X7_inOrder_9 rfl rfl (Nat.le_refl _) (Nat.le_refl _) hK
theorem ok_X7_inOrder  {σ : SS}  {x1 : Int32} {o}   (hE : X7_inOrder  σ  x1 = some o) : Runs 1 0 0 mi_X7_inOrder [vr 6 0, vi x1] (hp σ) (fun v h => v = some (vi o) ∧ h = hp σ) := by
  refine Runs.of pn_X7 (Nat.le_of_ble_eq_true rfl) ?_
  exact ok_X7_inOrder_j0   hE ⟨rfl, rfl⟩
theorem ok_X7_loosensFirst_j0 {Q : Option AV → AH → Prop}  {σ : SS}   {o}    (hE : X7_loosensFirst_j0  σ   = some o) (hK : Q (some (vi o)) (hp σ)) : Ws 0 mi_X7_loosensFirst Q 0 [some (vr 6 0)] [] σ := by
  unfold X7_loosensFirst_j0 at hE
  refine Wp.aload_n dc_X7_loosensFirst_0 rfl ?_
  refine Wp.sgetI dc_X7_loosensFirst_1 fw_X7_87 (mO6 (by decide)) ?_
  cases hE
  exact Wp.ireturn dc_X7_loosensFirst_4 rfl rfl (Nat.le_refl _) (Nat.le_refl _) hK
theorem ok_X7_loosensFirst  {σ : SS}   {o}   (hE : X7_loosensFirst  σ   = some o) : Runs 0 0 0 mi_X7_loosensFirst [vr 6 0] (hp σ) (fun v h => v = some (vi o) ∧ h = hp σ) := by
  refine Runs.of pn_X7 (Nat.le_of_ble_eq_true rfl) ?_
  exact ok_X7_loosensFirst_j0   hE ⟨rfl, rfl⟩
def X8_sixteenthsGrown_P10 (Q : Option AV → AH → Prop) (σ : SS) (r1 : Nat) (x2 : Int32) (ss : Int32 × Int32) : Prop := ∀ z0 : Option AV, Ws 2 mi_X8_sixteenthsGrown Q 10 [z0, some (vr 0 r1), some (vi x2), some (vi ss.1), some (vi ss.2)] [] σ
def X8_sixteenthsGrown_R10 (Q : Option AV → AH → Prop) (σ : SS) (r1 : Nat) (x2 : Int32) (tt : Int32) : Prop := ∀ z0 z1 z4 : Option AV, Ws 2 mi_X8_sixteenthsGrown Q 50 [z0, z1, some (vi x2), some (vi tt), z4] [] σ
theorem ok_X8_sixteenthsGrown_j42 {Q : Option AV → AH → Prop}  {σ : SS} {r1 : Nat} {x2 : Int32} {x4 : Int32} {s0 : Int32} {s1 : Int32} {o} {z0 z3 : Option AV}  (hr1 : r1 < 5) (hE : X8_sixteenthsGrown_j42  σ r1 x2 x4 s0 s1 = some o) (hS : ∀ ss, o = Sum.inl ss → (X8_sixteenthsGrown_P10  Q σ r1 x2) ss) (hT : ∀ tt, o = Sum.inr tt → (X8_sixteenthsGrown_R10  Q σ r1 x2) tt) : Ws 2 mi_X8_sixteenthsGrown Q 42 [z0, some (vr 0 r1), some (vi x2), z3, some (vi x4)] [vi s1, vi s0] σ := by
  unfold X8_sixteenthsGrown_j42 at hE
  refine Wp.iadd dc_X8_sixteenthsGrown_42 ?_
  obtain ⟨x3_43, e_43, hE⟩ := bnS hE
  rw [e_43]
  refine Wp.istore_n dc_X8_sixteenthsGrown_43 (by decide) ?_
  obtain ⟨x4_44, e_44, hE⟩ := bnS hE
  refine Wp.iinc dc_X8_sixteenthsGrown_44 rfl ((ii ic_1).trans e_44) (by decide) ?_
  refine Wp.goto (tgt := 10) dc_X8_sixteenthsGrown_47 (by decide) ?_
  cases hE
  exact hS _ rfl _
theorem ok_X8_sixteenthsGrown_l10c {Q : Option AV → AH → Prop}  {σ : SS} {r1 : Nat} {x2 : Int32} {x3 : Int32} {x4 : Int32} {o} {z0 : Option AV}  (hr1 : r1 < 5) (hE : X8_sixteenthsGrown_l10c  σ r1 x2 x3 x4 = some o) (hS : ∀ ss, o = Sum.inl ss → (X8_sixteenthsGrown_P10  Q σ r1 x2) ss) (hT : ∀ tt, o = Sum.inr tt → (X8_sixteenthsGrown_R10  Q σ r1 x2) tt) : Ws 2 mi_X8_sixteenthsGrown Q 10 [z0, some (vr 0 r1), some (vi x2), some (vi x3), some (vi x4)] [] σ := by
  unfold X8_sixteenthsGrown_l10c at hE
  refine Wp.iload dc_X8_sixteenthsGrown_10 rfl ?_
  refine Wp.aload_n dc_X8_sixteenthsGrown_12 rfl ?_
  obtain ⟨v13, h13, hE⟩ := bnd hE
  refine Wp.cV0i (ok_X0_leadCount (by omega) h13) dc_X8_sixteenthsGrown_13 mw_X8_26 (mO0 (by omega)) (by decide) (Nat.le_of_ble_eq_true rfl) ?_
  refine Wp.icmp_ge (tgt := 50) dc_X8_sixteenthsGrown_16 (by decide) (fun hc16 => ?_) (fun hc16 => ?_)
  · rw [if_pos hc16] at hE
    cases hE
    exact hT _ rfl _ _ _
  · rw [if_neg hc16] at hE
    refine Wp.iload_n dc_X8_sixteenthsGrown_19 rfl ?_
    refine Wp.iload_n dc_X8_sixteenthsGrown_20 rfl ?_
    refine Wp.iload dc_X8_sixteenthsGrown_21 rfl ?_
    refine Wp.ishr dc_X8_sixteenthsGrown_23 ?_
    refine Wp.iconst dc_X8_sixteenthsGrown_24 ic_1 ?_
    refine Wp.iand dc_X8_sixteenthsGrown_25 ?_
    refine Wp.iconst dc_X8_sixteenthsGrown_26 ic_1 ?_
    refine Wp.icmp_ne (tgt := 41) dc_X8_sixteenthsGrown_27 (by decide) (fun hc27 => ?_) (fun hc27 => ?_)
    · rw [if_neg hc27] at hE
      refine Wp.iconst dc_X8_sixteenthsGrown_41 ic_0 ?_
      exact ok_X8_sixteenthsGrown_j42  hr1 hE hS hT
    · rw [if_pos hc27] at hE
      refine Wp.aload_n dc_X8_sixteenthsGrown_30 rfl ?_
      refine Wp.bipush dc_X8_sixteenthsGrown_31 bp_6 ?_
      refine Wp.iload dc_X8_sixteenthsGrown_33 rfl ?_
      obtain ⟨v35, h35, hE⟩ := bnd hE
      refine Wp.cV2i (ok_X0_number (by omega) h35) dc_X8_sixteenthsGrown_35 mw_X8_29 (mO0 (by omega)) (by decide) (Nat.le_of_ble_eq_true rfl) ?_
      refine Wp.goto (tgt := 42) dc_X8_sixteenthsGrown_38 (by decide) ?_
      exact ok_X8_sixteenthsGrown_j42  hr1 hE hS hT
theorem ok_X8_sixteenthsGrown_l10 {Q : Option AV → AH → Prop}  {σ : SS} {r1 : Nat} {x2 : Int32} {x3 : Int32} {x4 : Int32} {o} {z0 : Option AV}  (hr1 : r1 < 5) (hE : X8_sixteenthsGrown_l10  σ r1 x2 x3 x4 = some o) (hK : Q (some (vi o)) (hp σ)) : Ws 2 mi_X8_sixteenthsGrown Q 10 [z0, some (vr 0 r1), some (vi x2), some (vi x3), some (vi x4)] [] σ := by
  unfold X8_sixteenthsGrown_l10 at hE
  obtain ⟨t10, h1, hE⟩ := bnd hE
  refine iter_ok (P := (X8_sixteenthsGrown_P10  Q σ r1 x2)) (R := (X8_sixteenthsGrown_R10  Q σ r1 x2)) (fun ss o h2 hS hT => ?_) NF _ _ h1 ?_ _
  · intro z0
    exact ok_X8_sixteenthsGrown_l10c  hr1 h2 hS hT
  · intro z0 z1 z4
    show Ws 2 mi_X8_sixteenthsGrown Q 50 [z0, z1, some (vi x2), some (vi t10), z4] [] σ
    refine Wp.iload_n dc_X8_sixteenthsGrown_50 rfl ?_
    obtain ⟨v51, h51, hE⟩ := bnd hE
    refine Wp.cS1i (ok_J6_bitCount_0f7a4  h51) dc_X8_sixteenthsGrown_51 mw_X8_33 (by decide) (Nat.le_of_ble_eq_true rfl) ?_
    refine Wp.iconst dc_X8_sixteenthsGrown_54 ic_1 ?_
    refine Wp.icmp_le (tgt := 62) dc_X8_sixteenthsGrown_55 (by decide) (fun hc55 => ?_) (fun hc55 => ?_)
    · rw [if_pos hc55] at hE
      refine Wp.iconst dc_X8_sixteenthsGrown_62 ic_0 ?_
      cases hE
      exact Wp.ireturn dc_X8_sixteenthsGrown_63 rfl rfl (Nat.le_refl _) (Nat.le_refl _) hK
    · rw [if_neg hc55] at hE
      refine Wp.iload_n dc_X8_sixteenthsGrown_58 rfl ?_
      refine Wp.goto (tgt := 63) dc_X8_sixteenthsGrown_59 (by decide) ?_
      cases hE
      exact Wp.ireturn dc_X8_sixteenthsGrown_63 rfl rfl (Nat.le_refl _) (Nat.le_refl _) hK
theorem ok_X8_sixteenthsGrown_j0 {Q : Option AV → AH → Prop}  {σ : SS} {r1 : Nat}  {o} {z0 z2 z3 z4 : Option AV}  (hr1 : r1 < 5) (hE : X8_sixteenthsGrown_j0  σ r1  = some o) (hK : Q (some (vi o)) (hp σ)) : Ws 2 mi_X8_sixteenthsGrown Q 0 [z0, some (vr 0 r1), z2, z3, z4] [] σ := by
  unfold X8_sixteenthsGrown_j0 at hE
  refine Wp.aload_n dc_X8_sixteenthsGrown_0 rfl ?_
  obtain ⟨v1, h1, hE⟩ := bnd hE
  refine Wp.cV0i (ok_X0_unclippedSet (by omega) h1) dc_X8_sixteenthsGrown_1 mw_X8_22 (mO0 (by omega)) (by decide) (Nat.le_of_ble_eq_true rfl) ?_
  refine Wp.istore_n dc_X8_sixteenthsGrown_4 (by decide) ?_
  refine Wp.iconst dc_X8_sixteenthsGrown_5 ic_0 ?_
  refine Wp.istore_n dc_X8_sixteenthsGrown_6 (by decide) ?_
  refine Wp.iconst dc_X8_sixteenthsGrown_7 ic_0 ?_
  refine Wp.istore dc_X8_sixteenthsGrown_8 (by decide) ?_
  exact ok_X8_sixteenthsGrown_l10  hr1 hE hK
theorem ok_X8_sixteenthsGrown  {σ : SS} {r1 : Nat}  {o}  (hr1 : r1 < 5) (hE : X8_sixteenthsGrown  σ r1  = some o) : Runs 2 0 0 mi_X8_sixteenthsGrown [vr 7 0, vr 0 r1] (hp σ) (fun v h => v = some (vi o) ∧ h = hp σ) := by
  refine Runs.of pn_X8 (Nat.le_of_ble_eq_true rfl) ?_
  exact ok_X8_sixteenthsGrown_j0  hr1 hE ⟨rfl, rfl⟩
def X8_openingsForClips_P25 (Q : Option AV → AH → Prop) (σ : SS) (r1 : Nat) (x2 : Int32) (x3 : Int32) (ss : Int32) : Prop := ∀ z0 z1 : Option AV, Ws 3 mi_X8_openingsForClips Q 25 [z0, z1, some (vi x2), some (vi x3), some (vi ss)] [] σ
def X8_openingsForClips_R25 (Q : Option AV → AH → Prop) (σ : SS) (r1 : Nat) (x2 : Int32) (x3 : Int32) (tt : (Int32) ⊕ (Unit)) : Prop := match tt with
  | Sum.inl tt => ∀ z0 z1 z2 z3 : Option AV, Ws 3 mi_X8_openingsForClips Q 41 [z0, z1, z2, z3, some (vi tt)] [] σ
  | Sum.inr tt => ∀ z0 z1 z2 z3 z4 : Option AV, Ws 3 mi_X8_openingsForClips Q 50 [z0, z1, z2, z3, z4] [] σ
theorem ok_X8_openingsForClips_l25c {Q : Option AV → AH → Prop}  {σ : SS} {r1 : Nat} {x2 : Int32} {x3 : Int32} {x4 : Int32} {o} {z0 z1 : Option AV}  (hr1 : r1 < 5) (hE : X8_openingsForClips_l25c  σ r1 x2 x3 x4 = some o) (hS : ∀ ss, o = Sum.inl ss → (X8_openingsForClips_P25  Q σ r1 x2 x3) ss) (hT : ∀ tt, o = Sum.inr tt → (X8_openingsForClips_R25  Q σ r1 x2 x3) tt) : Ws 3 mi_X8_openingsForClips Q 25 [z0, z1, some (vi x2), some (vi x3), some (vi x4)] [] σ := by
  unfold X8_openingsForClips_l25c at hE
  refine Wp.iload dc_X8_openingsForClips_25 rfl ?_
  refine Wp.sipush dc_X8_openingsForClips_27 sp_999 ?_
  refine Wp.icmp_gt (tgt := 50) dc_X8_openingsForClips_30 (by decide) (fun hc30 => ?_) (fun hc30 => ?_)
  · rw [if_pos hc30] at hE
    cases hE
    exact hT _ rfl _ _ _ _ _
  · rw [if_neg hc30] at hE
    refine Wp.iload dc_X8_openingsForClips_33 rfl ?_
    refine Wp.iload_n dc_X8_openingsForClips_35 rfl ?_
    refine Wp.imul dc_X8_openingsForClips_36 ?_
    refine Wp.iload_n dc_X8_openingsForClips_37 rfl ?_
    refine Wp.icmp_le (tgt := 44) dc_X8_openingsForClips_38 (by decide) (fun hc38 => ?_) (fun hc38 => ?_)
    · rw [if_pos hc38] at hE
      obtain ⟨x4_44, e_44, hE⟩ := bnS hE
      refine Wp.iinc dc_X8_openingsForClips_44 rfl ((ii ic_1).trans e_44) (by decide) ?_
      refine Wp.goto (tgt := 25) dc_X8_openingsForClips_47 (by decide) ?_
      cases hE
      exact hS _ rfl _ _
    · rw [if_neg hc38] at hE
      cases hE
      exact hT _ rfl _ _ _ _
theorem ok_X8_openingsForClips_l25 {Q : Option AV → AH → Prop}  {σ : SS} {r1 : Nat} {x2 : Int32} {x3 : Int32} {x4 : Int32} {o} {z0 z1 : Option AV}  (hr1 : r1 < 5) (hE : X8_openingsForClips_l25  σ r1 x2 x3 x4 = some o) (hK : Q (some (vi o)) (hp σ)) : Ws 3 mi_X8_openingsForClips Q 25 [z0, z1, some (vi x2), some (vi x3), some (vi x4)] [] σ := by
  unfold X8_openingsForClips_l25 at hE
  obtain ⟨t25, h1, hE⟩ := bnd hE
  refine iter_ok (P := (X8_openingsForClips_P25  Q σ r1 x2 x3)) (R := (X8_openingsForClips_R25  Q σ r1 x2 x3)) (fun ss o h2 hS hT => ?_) NF _ _ h1 ?_ _ _
  · intro z0 z1
    exact ok_X8_openingsForClips_l25c  hr1 h2 hS hT
  · rcases t25 with e41 | u41
    · dsimp only at hE
      intro z0 z1 z2 z3
      show Ws 3 mi_X8_openingsForClips Q 41 [z0, z1, z2, z3, some (vi e41)] [] σ
      refine Wp.iload dc_X8_openingsForClips_41 rfl ?_
      cases hE
      exact Wp.ireturn dc_X8_openingsForClips_43 rfl rfl (Nat.le_refl _) (Nat.le_refl _) hK
    · dsimp only at hE
      skip
      intro z0 z1 z2 z3 z4
      show Ws 3 mi_X8_openingsForClips Q 50 [z0, z1, z2, z3, z4] [] σ
      refine Wp.iconst dc_X8_openingsForClips_50 ic_m1 ?_
      cases hE
      exact Wp.ireturn dc_X8_openingsForClips_51 rfl rfl (Nat.le_refl _) (Nat.le_refl _) hK
theorem ok_X8_openingsForClips_j0 {Q : Option AV → AH → Prop}  {σ : SS} {r1 : Nat}  {o} {z2 z3 z4 : Option AV}  (hr1 : r1 < 5) (hE : X8_openingsForClips_j0  σ r1  = some o) (hK : Q (some (vi o)) (hp σ)) : Ws 3 mi_X8_openingsForClips Q 0 [some (vr 7 0), some (vr 0 r1), z2, z3, z4] [] σ := by
  unfold X8_openingsForClips_j0 at hE
  refine Wp.aload_n dc_X8_openingsForClips_0 rfl ?_
  refine Wp.aload_n dc_X8_openingsForClips_1 rfl ?_
  obtain ⟨v2, h2, hE⟩ := bnd hE
  refine Wp.cV1i (ok_X8_sixteenthsGrown (by omega) h2) dc_X8_openingsForClips_2 mw_X8_39 (mO7 (by decide)) (by decide) (Nat.le_of_ble_eq_true rfl) ?_
  refine Wp.iconst dc_X8_openingsForClips_5 ic_5 ?_
  refine Wp.imul dc_X8_openingsForClips_6 ?_
  obtain ⟨x2_7, e_7, hE⟩ := bnS hE
  rw [e_7]
  refine Wp.istore_n dc_X8_openingsForClips_7 (by decide) ?_
  refine Wp.aload_n dc_X8_openingsForClips_8 rfl ?_
  obtain ⟨v9, h9, hE⟩ := bnd hE
  refine Wp.cV0i (ok_X0_unclippedSet (by omega) h9) dc_X8_openingsForClips_9 mw_X8_22 (mO0 (by omega)) (by decide) (Nat.le_of_ble_eq_true rfl) ?_
  obtain ⟨v12, h12, hE⟩ := bnd hE
  refine Wp.cS1i (ok_J6_bitCount_0f7a4  h12) dc_X8_openingsForClips_12 mw_X8_33 (by decide) (Nat.le_of_ble_eq_true rfl) ?_
  refine Wp.bipush dc_X8_openingsForClips_15 bp_12 ?_
  refine Wp.imul dc_X8_openingsForClips_17 ?_
  refine Wp.bipush dc_X8_openingsForClips_18 bp_16 ?_
  refine Wp.imul dc_X8_openingsForClips_20 ?_
  obtain ⟨x3_21, e_21, hE⟩ := bnS hE
  rw [e_21]
  refine Wp.istore_n dc_X8_openingsForClips_21 (by decide) ?_
  refine Wp.iconst dc_X8_openingsForClips_22 ic_1 ?_
  refine Wp.istore dc_X8_openingsForClips_23 (by decide) ?_
  exact ok_X8_openingsForClips_l25  hr1 hE hK
theorem ok_X8_openingsForClips  {σ : SS} {r1 : Nat}  {o}  (hr1 : r1 < 5) (hE : X8_openingsForClips  σ r1  = some o) : Runs 3 0 0 mi_X8_openingsForClips [vr 7 0, vr 0 r1] (hp σ) (fun v h => v = some (vi o) ∧ h = hp σ) := by
  refine Runs.of pn_X8 (Nat.le_of_ble_eq_true rfl) ?_
  exact ok_X8_openingsForClips_j0  hr1 hE ⟨rfl, rfl⟩
def X8_usedTogether_P5 (Q : Option AV → AH → Prop) (σ : SS) (r1 : Nat) (x2 : Int32) (ss : Int32 × Int32) : Prop := ∀ z0 : Option AV, Ws 2 mi_X8_usedTogether Q 5 [z0, some (vr 0 r1), some (vi x2), some (vi ss.1), some (vi ss.2)] [] σ
def X8_usedTogether_R5 (Q : Option AV → AH → Prop) (σ : SS) (r1 : Nat) (x2 : Int32) (tt : Int32) : Prop := ∀ z0 z1 z2 z4 : Option AV, Ws 2 mi_X8_usedTogether Q 44 [z0, z1, z2, some (vi tt), z4] [] σ
theorem ok_X8_usedTogether_j36 {Q : Option AV → AH → Prop}  {σ : SS} {r1 : Nat} {x2 : Int32} {x4 : Int32} {s0 : Int32} {s1 : Int32} {o} {z0 z3 : Option AV}  (hr1 : r1 < 5) (hE : X8_usedTogether_j36  σ r1 x2 x4 s0 s1 = some o) (hS : ∀ ss, o = Sum.inl ss → (X8_usedTogether_P5  Q σ r1 x2) ss) (hT : ∀ tt, o = Sum.inr tt → (X8_usedTogether_R5  Q σ r1 x2) tt) : Ws 2 mi_X8_usedTogether Q 36 [z0, some (vr 0 r1), some (vi x2), z3, some (vi x4)] [vi s1, vi s0] σ := by
  unfold X8_usedTogether_j36 at hE
  refine Wp.iadd dc_X8_usedTogether_36 ?_
  obtain ⟨x3_37, e_37, hE⟩ := bnS hE
  rw [e_37]
  refine Wp.istore_n dc_X8_usedTogether_37 (by decide) ?_
  obtain ⟨x4_38, e_38, hE⟩ := bnS hE
  refine Wp.iinc dc_X8_usedTogether_38 rfl ((ii ic_1).trans e_38) (by decide) ?_
  refine Wp.goto (tgt := 5) dc_X8_usedTogether_41 (by decide) ?_
  cases hE
  exact hS _ rfl _
theorem ok_X8_usedTogether_l5c {Q : Option AV → AH → Prop}  {σ : SS} {r1 : Nat} {x2 : Int32} {x3 : Int32} {x4 : Int32} {o} {z0 : Option AV}  (hr1 : r1 < 5) (hE : X8_usedTogether_l5c  σ r1 x2 x3 x4 = some o) (hS : ∀ ss, o = Sum.inl ss → (X8_usedTogether_P5  Q σ r1 x2) ss) (hT : ∀ tt, o = Sum.inr tt → (X8_usedTogether_R5  Q σ r1 x2) tt) : Ws 2 mi_X8_usedTogether Q 5 [z0, some (vr 0 r1), some (vi x2), some (vi x3), some (vi x4)] [] σ := by
  unfold X8_usedTogether_l5c at hE
  refine Wp.iload dc_X8_usedTogether_5 rfl ?_
  refine Wp.aload_n dc_X8_usedTogether_7 rfl ?_
  obtain ⟨v8, h8, hE⟩ := bnd hE
  refine Wp.cV0i (ok_X0_leadCount (by omega) h8) dc_X8_usedTogether_8 mw_X8_26 (mO0 (by omega)) (by decide) (Nat.le_of_ble_eq_true rfl) ?_
  refine Wp.icmp_ge (tgt := 44) dc_X8_usedTogether_11 (by decide) (fun hc11 => ?_) (fun hc11 => ?_)
  · rw [if_pos hc11] at hE
    cases hE
    exact hT _ rfl _ _ _ _
  · rw [if_neg hc11] at hE
    refine Wp.iload_n dc_X8_usedTogether_14 rfl ?_
    refine Wp.iload_n dc_X8_usedTogether_15 rfl ?_
    refine Wp.iload dc_X8_usedTogether_16 rfl ?_
    refine Wp.ishr dc_X8_usedTogether_18 ?_
    refine Wp.iconst dc_X8_usedTogether_19 ic_1 ?_
    refine Wp.iand dc_X8_usedTogether_20 ?_
    refine Wp.iconst dc_X8_usedTogether_21 ic_1 ?_
    refine Wp.icmp_ne (tgt := 35) dc_X8_usedTogether_22 (by decide) (fun hc22 => ?_) (fun hc22 => ?_)
    · rw [if_neg hc22] at hE
      refine Wp.iconst dc_X8_usedTogether_35 ic_0 ?_
      exact ok_X8_usedTogether_j36  hr1 hE hS hT
    · rw [if_pos hc22] at hE
      refine Wp.aload_n dc_X8_usedTogether_25 rfl ?_
      refine Wp.iconst dc_X8_usedTogether_26 ic_5 ?_
      refine Wp.iload dc_X8_usedTogether_27 rfl ?_
      obtain ⟨v29, h29, hE⟩ := bnd hE
      refine Wp.cV2i (ok_X0_number (by omega) h29) dc_X8_usedTogether_29 mw_X8_29 (mO0 (by omega)) (by decide) (Nat.le_of_ble_eq_true rfl) ?_
      refine Wp.goto (tgt := 36) dc_X8_usedTogether_32 (by decide) ?_
      exact ok_X8_usedTogether_j36  hr1 hE hS hT
theorem ok_X8_usedTogether_l5 {Q : Option AV → AH → Prop}  {σ : SS} {r1 : Nat} {x2 : Int32} {x3 : Int32} {x4 : Int32} {o} {z0 : Option AV}  (hr1 : r1 < 5) (hE : X8_usedTogether_l5  σ r1 x2 x3 x4 = some o) (hK : Q (some (vi o)) (hp σ)) : Ws 2 mi_X8_usedTogether Q 5 [z0, some (vr 0 r1), some (vi x2), some (vi x3), some (vi x4)] [] σ := by
  unfold X8_usedTogether_l5 at hE
  obtain ⟨t5, h1, hE⟩ := bnd hE
  refine iter_ok (P := (X8_usedTogether_P5  Q σ r1 x2)) (R := (X8_usedTogether_R5  Q σ r1 x2)) (fun ss o h2 hS hT => ?_) NF _ _ h1 ?_ _
  · intro z0
    exact ok_X8_usedTogether_l5c  hr1 h2 hS hT
  · intro z0 z1 z2 z4
    show Ws 2 mi_X8_usedTogether Q 44 [z0, z1, z2, some (vi t5), z4] [] σ
    refine Wp.iload_n dc_X8_usedTogether_44 rfl ?_
    cases hE
    exact Wp.ireturn dc_X8_usedTogether_45 rfl rfl (Nat.le_refl _) (Nat.le_refl _) hK
theorem ok_X8_usedTogether_j0 {Q : Option AV → AH → Prop}  {σ : SS} {r1 : Nat} {x2 : Int32} {o} {z0 z3 z4 : Option AV}  (hr1 : r1 < 5) (hE : X8_usedTogether_j0  σ r1 x2 = some o) (hK : Q (some (vi o)) (hp σ)) : Ws 2 mi_X8_usedTogether Q 0 [z0, some (vr 0 r1), some (vi x2), z3, z4] [] σ := by
  unfold X8_usedTogether_j0 at hE
  refine Wp.iconst dc_X8_usedTogether_0 ic_0 ?_
  refine Wp.istore_n dc_X8_usedTogether_1 (by decide) ?_
  refine Wp.iconst dc_X8_usedTogether_2 ic_0 ?_
  refine Wp.istore dc_X8_usedTogether_3 (by decide) ?_
  exact ok_X8_usedTogether_l5  hr1 hE hK
theorem ok_X8_usedTogether  {σ : SS} {r1 : Nat} {x2 : Int32} {o}  (hr1 : r1 < 5) (hE : X8_usedTogether  σ r1 x2 = some o) : Runs 2 0 0 mi_X8_usedTogether [vr 7 0, vr 0 r1, vi x2] (hp σ) (fun v h => v = some (vi o) ∧ h = hp σ) := by
  refine Runs.of pn_X8 (Nat.le_of_ble_eq_true rfl) ?_
  exact ok_X8_usedTogether_j0  hr1 hE ⟨rfl, rfl⟩
def X8_triedAhead_P13 (Q : Option AV → AH → Prop) (σ : SS) (r0 : Nat) (x1 : Int32) (x2 : Int32) (x3 : Int32) (ss : Int32 × Int32) : Prop := ∀ z6 z7 : Option AV, Ws 2 mi_X8_triedAhead Q 13 [some (vr 0 r0), some (vi x1), some (vi x2), some (vi x3), some (vi ss.1), some (vi ss.2), z6, z7] [] σ
def X8_triedAhead_R13 (Q : Option AV → AH → Prop) (σ : SS) (r0 : Nat) (x1 : Int32) (x2 : Int32) (x3 : Int32) (tt : Int32) : Prop := ∀ z0 z1 z2 z3 z5 z6 z7 : Option AV, Ws 2 mi_X8_triedAhead Q 87 [z0, z1, z2, z3, some (vi tt), z5, z6, z7] [] σ
theorem ok_X8_triedAhead_j78 {Q : Option AV → AH → Prop}  {σ : SS} {r0 : Nat} {x1 : Int32} {x2 : Int32} {x3 : Int32} {x5 : Int32} {s0 : Int32} {s1 : Int32} {o} {z4 z6 z7 : Option AV}  (hr0 : r0 < 5) (hE : X8_triedAhead_j78  σ r0 x1 x2 x3 x5 s0 s1 = some o) (hS : ∀ ss, o = Sum.inl ss → (X8_triedAhead_P13  Q σ r0 x1 x2 x3) ss) (hT : ∀ tt, o = Sum.inr tt → (X8_triedAhead_R13  Q σ r0 x1 x2 x3) tt) : Ws 2 mi_X8_triedAhead Q 78 [some (vr 0 r0), some (vi x1), some (vi x2), some (vi x3), z4, some (vi x5), z6, z7] [vi s1, vi s0] σ := by
  unfold X8_triedAhead_j78 at hE
  refine Wp.iadd dc_X8_triedAhead_78 ?_
  obtain ⟨x4_79, e_79, hE⟩ := bnS hE
  rw [e_79]
  refine Wp.istore dc_X8_triedAhead_79 (by decide) ?_
  obtain ⟨x5_81, e_81, hE⟩ := bnS hE
  refine Wp.iinc dc_X8_triedAhead_81 rfl ((ii ic_1).trans e_81) (by decide) ?_
  refine Wp.goto (tgt := 13) dc_X8_triedAhead_84 (by decide) ?_
  cases hE
  exact hS _ rfl _ _
theorem ok_X8_triedAhead_j77 {Q : Option AV → AH → Prop}  {σ : SS} {r0 : Nat} {x1 : Int32} {x2 : Int32} {x3 : Int32} {x5 : Int32} {s0 : Int32} {o} {z4 z6 z7 : Option AV}  (hr0 : r0 < 5) (hE : X8_triedAhead_j77  σ r0 x1 x2 x3 x5 s0 = some o) (hS : ∀ ss, o = Sum.inl ss → (X8_triedAhead_P13  Q σ r0 x1 x2 x3) ss) (hT : ∀ tt, o = Sum.inr tt → (X8_triedAhead_R13  Q σ r0 x1 x2 x3) tt) : Ws 2 mi_X8_triedAhead Q 77 [some (vr 0 r0), some (vi x1), some (vi x2), some (vi x3), z4, some (vi x5), z6, z7] [vi s0] σ := by
  unfold X8_triedAhead_j77 at hE
  refine Wp.iconst dc_X8_triedAhead_77 ic_0 ?_
  exact ok_X8_triedAhead_j78  hr0 hE hS hT
theorem ok_X8_triedAhead_j54 {Q : Option AV → AH → Prop}  {σ : SS} {r0 : Nat} {x1 : Int32} {x2 : Int32} {x3 : Int32} {x4 : Int32} {x5 : Int32} {s0 : Int32} {o} {z6 z7 : Option AV}  (hr0 : r0 < 5) (hE : X8_triedAhead_j54  σ r0 x1 x2 x3 x4 x5 s0 = some o) (hS : ∀ ss, o = Sum.inl ss → (X8_triedAhead_P13  Q σ r0 x1 x2 x3) ss) (hT : ∀ tt, o = Sum.inr tt → (X8_triedAhead_R13  Q σ r0 x1 x2 x3) tt) : Ws 2 mi_X8_triedAhead Q 54 [some (vr 0 r0), some (vi x1), some (vi x2), some (vi x3), some (vi x4), some (vi x5), z6, z7] [vi s0] σ := by
  unfold X8_triedAhead_j54 at hE
  refine Wp.istore dc_X8_triedAhead_54 (by decide) ?_
  refine Wp.iload dc_X8_triedAhead_56 rfl ?_
  refine Wp.iload dc_X8_triedAhead_58 rfl ?_
  refine Wp.if_eq (tgt := 77) dc_X8_triedAhead_60 (by decide) (fun hc60 => ?_) (fun hc60 => ?_)
  · rw [if_pos hc60] at hE
    exact ok_X8_triedAhead_j77  hr0 hE hS hT
  · rw [if_neg hc60] at hE
    refine Wp.iload_n dc_X8_triedAhead_63 rfl ?_
    refine Wp.iload dc_X8_triedAhead_64 rfl ?_
    refine Wp.ishr dc_X8_triedAhead_66 ?_
    refine Wp.iconst dc_X8_triedAhead_67 ic_1 ?_
    refine Wp.iand dc_X8_triedAhead_68 ?_
    refine Wp.iconst dc_X8_triedAhead_69 ic_1 ?_
    refine Wp.icmp_ne (tgt := 77) dc_X8_triedAhead_70 (by decide) (fun hc70 => ?_) (fun hc70 => ?_)
    · rw [if_neg hc70] at hE
      exact ok_X8_triedAhead_j77  hr0 hE hS hT
    · rw [if_pos hc70] at hE
      refine Wp.iconst dc_X8_triedAhead_73 ic_1 ?_
      refine Wp.goto (tgt := 78) dc_X8_triedAhead_74 (by decide) ?_
      exact ok_X8_triedAhead_j78  hr0 hE hS hT
theorem ok_X8_triedAhead_j49 {Q : Option AV → AH → Prop}  {σ : SS} {r0 : Nat} {x1 : Int32} {x2 : Int32} {x3 : Int32} {x4 : Int32} {x5 : Int32} {o} {z6 z7 : Option AV}  (hr0 : r0 < 5) (hE : X8_triedAhead_j49  σ r0 x1 x2 x3 x4 x5 = some o) (hS : ∀ ss, o = Sum.inl ss → (X8_triedAhead_P13  Q σ r0 x1 x2 x3) ss) (hT : ∀ tt, o = Sum.inr tt → (X8_triedAhead_R13  Q σ r0 x1 x2 x3) tt) : Ws 2 mi_X8_triedAhead Q 49 [some (vr 0 r0), some (vi x1), some (vi x2), some (vi x3), some (vi x4), some (vi x5), z6, z7] [] σ := by
  unfold X8_triedAhead_j49 at hE
  refine Wp.iconst dc_X8_triedAhead_49 ic_1 ?_
  refine Wp.goto (tgt := 54) dc_X8_triedAhead_50 (by decide) ?_
  exact ok_X8_triedAhead_j54  hr0 hE hS hT
theorem ok_X8_triedAhead_j53 {Q : Option AV → AH → Prop}  {σ : SS} {r0 : Nat} {x1 : Int32} {x2 : Int32} {x3 : Int32} {x4 : Int32} {x5 : Int32} {o} {z6 z7 : Option AV}  (hr0 : r0 < 5) (hE : X8_triedAhead_j53  σ r0 x1 x2 x3 x4 x5 = some o) (hS : ∀ ss, o = Sum.inl ss → (X8_triedAhead_P13  Q σ r0 x1 x2 x3) ss) (hT : ∀ tt, o = Sum.inr tt → (X8_triedAhead_R13  Q σ r0 x1 x2 x3) tt) : Ws 2 mi_X8_triedAhead Q 53 [some (vr 0 r0), some (vi x1), some (vi x2), some (vi x3), some (vi x4), some (vi x5), z6, z7] [] σ := by
  unfold X8_triedAhead_j53 at hE
  refine Wp.iconst dc_X8_triedAhead_53 ic_0 ?_
  exact ok_X8_triedAhead_j54  hr0 hE hS hT
theorem ok_X8_triedAhead_l13c {Q : Option AV → AH → Prop}  {σ : SS} {r0 : Nat} {x1 : Int32} {x2 : Int32} {x3 : Int32} {x4 : Int32} {x5 : Int32} {o} {z6 z7 : Option AV}  (hr0 : r0 < 5) (hE : X8_triedAhead_l13c  σ r0 x1 x2 x3 x4 x5 = some o) (hS : ∀ ss, o = Sum.inl ss → (X8_triedAhead_P13  Q σ r0 x1 x2 x3) ss) (hT : ∀ tt, o = Sum.inr tt → (X8_triedAhead_R13  Q σ r0 x1 x2 x3) tt) : Ws 2 mi_X8_triedAhead Q 13 [some (vr 0 r0), some (vi x1), some (vi x2), some (vi x3), some (vi x4), some (vi x5), z6, z7] [] σ := by
  unfold X8_triedAhead_l13c at hE
  refine Wp.iload dc_X8_triedAhead_13 rfl ?_
  refine Wp.aload_n dc_X8_triedAhead_15 rfl ?_
  obtain ⟨v16, h16, hE⟩ := bnd hE
  refine Wp.cV0i (ok_X0_leadCount (by omega) h16) dc_X8_triedAhead_16 mw_X8_26 (mO0 (by omega)) (by decide) (Nat.le_of_ble_eq_true rfl) ?_
  refine Wp.icmp_ge (tgt := 87) dc_X8_triedAhead_19 (by decide) (fun hc19 => ?_) (fun hc19 => ?_)
  · rw [if_pos hc19] at hE
    cases hE
    exact hT _ rfl _ _ _ _ _ _ _
  · rw [if_neg hc19] at hE
    refine Wp.aload_n dc_X8_triedAhead_22 rfl ?_
    refine Wp.iconst dc_X8_triedAhead_23 ic_5 ?_
    refine Wp.iload dc_X8_triedAhead_24 rfl ?_
    obtain ⟨v26, h26, hE⟩ := bnd hE
    refine Wp.cV2i (ok_X0_number (by omega) h26) dc_X8_triedAhead_26 mw_X8_29 (mO0 (by omega)) (by decide) (Nat.le_of_ble_eq_true rfl) ?_
    refine Wp.istore dc_X8_triedAhead_29 (by decide) ?_
    refine Wp.iload dc_X8_triedAhead_31 rfl ?_
    refine Wp.iload_n dc_X8_triedAhead_33 rfl ?_
    refine Wp.icmp_gt (tgt := 49) dc_X8_triedAhead_34 (by decide) (fun hc34 => ?_) (fun hc34 => ?_)
    · rw [if_pos hc34] at hE
      exact ok_X8_triedAhead_j49  hr0 hE hS hT
    · rw [if_neg hc34] at hE
      refine Wp.iload dc_X8_triedAhead_37 rfl ?_
      refine Wp.iload_n dc_X8_triedAhead_39 rfl ?_
      refine Wp.icmp_ne (tgt := 53) dc_X8_triedAhead_40 (by decide) (fun hc40 => ?_) (fun hc40 => ?_)
      · rw [if_neg hc40] at hE
        exact ok_X8_triedAhead_j53  hr0 hE hS hT
      · rw [if_pos hc40] at hE
        refine Wp.iload dc_X8_triedAhead_43 rfl ?_
        refine Wp.iload_n dc_X8_triedAhead_45 rfl ?_
        refine Wp.icmp_ge (tgt := 53) dc_X8_triedAhead_46 (by decide) (fun hc46 => ?_) (fun hc46 => ?_)
        · rw [if_pos hc46] at hE
          exact ok_X8_triedAhead_j53  hr0 hE hS hT
        · rw [if_neg hc46] at hE
          exact ok_X8_triedAhead_j49  hr0 hE hS hT
theorem ok_X8_triedAhead_l13 {Q : Option AV → AH → Prop}  {σ : SS} {r0 : Nat} {x1 : Int32} {x2 : Int32} {x3 : Int32} {x4 : Int32} {x5 : Int32} {o} {z6 z7 : Option AV}  (hr0 : r0 < 5) (hE : X8_triedAhead_l13  σ r0 x1 x2 x3 x4 x5 = some o) (hK : Q (some (vi o)) (hp σ)) : Ws 2 mi_X8_triedAhead Q 13 [some (vr 0 r0), some (vi x1), some (vi x2), some (vi x3), some (vi x4), some (vi x5), z6, z7] [] σ := by
  unfold X8_triedAhead_l13 at hE
  obtain ⟨t13, h1, hE⟩ := bnd hE
  refine iter_ok (P := (X8_triedAhead_P13  Q σ r0 x1 x2 x3)) (R := (X8_triedAhead_R13  Q σ r0 x1 x2 x3)) (fun ss o h2 hS hT => ?_) NF _ _ h1 ?_ _ _
  · intro z6 z7
    exact ok_X8_triedAhead_l13c  hr0 h2 hS hT
  · intro z0 z1 z2 z3 z5 z6 z7
    show Ws 2 mi_X8_triedAhead Q 87 [z0, z1, z2, z3, some (vi t13), z5, z6, z7] [] σ
    refine Wp.iload dc_X8_triedAhead_87 rfl ?_
    cases hE
    exact Wp.ireturn dc_X8_triedAhead_89 rfl rfl (Nat.le_refl _) (Nat.le_refl _) hK
theorem ok_X8_triedAhead_j0 {Q : Option AV → AH → Prop}  {σ : SS} {r0 : Nat} {x1 : Int32} {x2 : Int32} {o} {z3 z4 z5 z6 z7 : Option AV}  (hr0 : r0 < 5) (hE : X8_triedAhead_j0  σ r0 x1 x2 = some o) (hK : Q (some (vi o)) (hp σ)) : Ws 2 mi_X8_triedAhead Q 0 [some (vr 0 r0), some (vi x1), some (vi x2), z3, z4, z5, z6, z7] [] σ := by
  unfold X8_triedAhead_j0 at hE
  refine Wp.aload_n dc_X8_triedAhead_0 rfl ?_
  refine Wp.iconst dc_X8_triedAhead_1 ic_5 ?_
  refine Wp.iload_n dc_X8_triedAhead_2 rfl ?_
  obtain ⟨v3, h3, hE⟩ := bnd hE
  refine Wp.cV2i (ok_X0_number (by omega) h3) dc_X8_triedAhead_3 mw_X8_29 (mO0 (by omega)) (by decide) (Nat.le_of_ble_eq_true rfl) ?_
  refine Wp.istore_n dc_X8_triedAhead_6 (by decide) ?_
  refine Wp.iconst dc_X8_triedAhead_7 ic_0 ?_
  refine Wp.istore dc_X8_triedAhead_8 (by decide) ?_
  refine Wp.iconst dc_X8_triedAhead_10 ic_0 ?_
  refine Wp.istore dc_X8_triedAhead_11 (by decide) ?_
  exact ok_X8_triedAhead_l13  hr0 hE hK
theorem ok_X8_triedAhead  {σ : SS} {r0 : Nat} {x1 : Int32} {x2 : Int32} {o}  (hr0 : r0 < 5) (hE : X8_triedAhead  σ r0 x1 x2 = some o) : Runs 2 0 0 mi_X8_triedAhead [vr 0 r0, vi x1, vi x2] (hp σ) (fun v h => v = some (vi o) ∧ h = hp σ) := by
  refine Runs.of pn_X8 (Nat.le_of_ble_eq_true rfl) ?_
  exact ok_X8_triedAhead_j0  hr0 hE ⟨rfl, rfl⟩
def X8_triesTogether_P5 (Q : Option AV → AH → Prop) (σ : SS) (r1 : Nat) (x2 : Int32) (ss : Int32 × Int32) : Prop := ∀ z0 : Option AV, Ws 3 mi_X8_triesTogether Q 5 [z0, some (vr 0 r1), some (vi x2), some (vi ss.1), some (vi ss.2)] [] σ
def X8_triesTogether_R5 (Q : Option AV → AH → Prop) (σ : SS) (r1 : Nat) (x2 : Int32) (tt : Int32) : Prop := ∀ z0 z1 z2 z4 : Option AV, Ws 3 mi_X8_triesTogether Q 50 [z0, z1, z2, some (vi tt), z4] [] σ
theorem ok_X8_triesTogether_j44 {Q : Option AV → AH → Prop}  {σ : SS} {r1 : Nat} {x2 : Int32} {x3 : Int32} {x4 : Int32} {o} {z0 : Option AV}  (hr1 : r1 < 5) (hE : X8_triesTogether_j44  σ r1 x2 x3 x4 = some o) (hS : ∀ ss, o = Sum.inl ss → (X8_triesTogether_P5  Q σ r1 x2) ss) (hT : ∀ tt, o = Sum.inr tt → (X8_triesTogether_R5  Q σ r1 x2) tt) : Ws 3 mi_X8_triesTogether Q 44 [z0, some (vr 0 r1), some (vi x2), some (vi x3), some (vi x4)] [] σ := by
  unfold X8_triesTogether_j44 at hE
  obtain ⟨x4_44, e_44, hE⟩ := bnS hE
  refine Wp.iinc dc_X8_triesTogether_44 rfl ((ii ic_1).trans e_44) (by decide) ?_
  refine Wp.goto (tgt := 5) dc_X8_triesTogether_47 (by decide) ?_
  cases hE
  exact hS _ rfl _
theorem ok_X8_triesTogether_l5c {Q : Option AV → AH → Prop}  {σ : SS} {r1 : Nat} {x2 : Int32} {x3 : Int32} {x4 : Int32} {o} {z0 : Option AV}  (hr1 : r1 < 5) (hE : X8_triesTogether_l5c  σ r1 x2 x3 x4 = some o) (hS : ∀ ss, o = Sum.inl ss → (X8_triesTogether_P5  Q σ r1 x2) ss) (hT : ∀ tt, o = Sum.inr tt → (X8_triesTogether_R5  Q σ r1 x2) tt) : Ws 3 mi_X8_triesTogether Q 5 [z0, some (vr 0 r1), some (vi x2), some (vi x3), some (vi x4)] [] σ := by
  unfold X8_triesTogether_l5c at hE
  refine Wp.iload dc_X8_triesTogether_5 rfl ?_
  refine Wp.aload_n dc_X8_triesTogether_7 rfl ?_
  obtain ⟨v8, h8, hE⟩ := bnd hE
  refine Wp.cV0i (ok_X0_leadCount (by omega) h8) dc_X8_triesTogether_8 mw_X8_26 (mO0 (by omega)) (by decide) (Nat.le_of_ble_eq_true rfl) ?_
  refine Wp.icmp_ge (tgt := 50) dc_X8_triesTogether_11 (by decide) (fun hc11 => ?_) (fun hc11 => ?_)
  · rw [if_pos hc11] at hE
    cases hE
    exact hT _ rfl _ _ _ _
  · rw [if_neg hc11] at hE
    refine Wp.iload_n dc_X8_triesTogether_14 rfl ?_
    refine Wp.iload dc_X8_triesTogether_15 rfl ?_
    refine Wp.ishr dc_X8_triesTogether_17 ?_
    refine Wp.iconst dc_X8_triesTogether_18 ic_1 ?_
    refine Wp.iand dc_X8_triesTogether_19 ?_
    refine Wp.iconst dc_X8_triesTogether_20 ic_1 ?_
    refine Wp.icmp_ne (tgt := 44) dc_X8_triesTogether_21 (by decide) (fun hc21 => ?_) (fun hc21 => ?_)
    · rw [if_neg hc21] at hE
      exact ok_X8_triesTogether_j44  hr1 hE hS hT
    · rw [if_pos hc21] at hE
      refine Wp.iload_n dc_X8_triesTogether_24 rfl ?_
      refine Wp.aload_n dc_X8_triesTogether_25 rfl ?_
      refine Wp.iconst dc_X8_triesTogether_26 ic_5 ?_
      refine Wp.iload dc_X8_triesTogether_27 rfl ?_
      obtain ⟨v29, h29, hE⟩ := bnd hE
      refine Wp.cV2i (ok_X0_number (by omega) h29) dc_X8_triesTogether_29 mw_X8_29 (mO0 (by omega)) (by decide) (Nat.le_of_ble_eq_true rfl) ?_
      refine Wp.aload_n dc_X8_triesTogether_32 rfl ?_
      refine Wp.iload_n dc_X8_triesTogether_33 rfl ?_
      refine Wp.iload dc_X8_triesTogether_34 rfl ?_
      obtain ⟨v36, h36, hE⟩ := bnd hE
      refine Wp.cS3i (ok_X8_triedAhead (by omega) h36) dc_X8_triesTogether_36 mw_X8_43 (by decide) (Nat.le_of_ble_eq_true rfl) ?_
      refine Wp.iconst dc_X8_triesTogether_39 ic_1 ?_
      refine Wp.iadd dc_X8_triesTogether_40 ?_
      refine Wp.imul dc_X8_triesTogether_41 ?_
      refine Wp.iadd dc_X8_triesTogether_42 ?_
      obtain ⟨x3_43, e_43, hE⟩ := bnS hE
      rw [e_43]
      refine Wp.istore_n dc_X8_triesTogether_43 (by decide) ?_
      exact ok_X8_triesTogether_j44  hr1 hE hS hT
theorem ok_X8_triesTogether_l5 {Q : Option AV → AH → Prop}  {σ : SS} {r1 : Nat} {x2 : Int32} {x3 : Int32} {x4 : Int32} {o} {z0 : Option AV}  (hr1 : r1 < 5) (hE : X8_triesTogether_l5  σ r1 x2 x3 x4 = some o) (hK : Q (some (vi o)) (hp σ)) : Ws 3 mi_X8_triesTogether Q 5 [z0, some (vr 0 r1), some (vi x2), some (vi x3), some (vi x4)] [] σ := by
  unfold X8_triesTogether_l5 at hE
  obtain ⟨t5, h1, hE⟩ := bnd hE
  refine iter_ok (P := (X8_triesTogether_P5  Q σ r1 x2)) (R := (X8_triesTogether_R5  Q σ r1 x2)) (fun ss o h2 hS hT => ?_) NF _ _ h1 ?_ _
  · intro z0
    exact ok_X8_triesTogether_l5c  hr1 h2 hS hT
  · intro z0 z1 z2 z4
    show Ws 3 mi_X8_triesTogether Q 50 [z0, z1, z2, some (vi t5), z4] [] σ
    refine Wp.iload_n dc_X8_triesTogether_50 rfl ?_
    cases hE
    exact Wp.ireturn dc_X8_triesTogether_51 rfl rfl (Nat.le_refl _) (Nat.le_refl _) hK
theorem ok_X8_triesTogether_j0 {Q : Option AV → AH → Prop}  {σ : SS} {r1 : Nat} {x2 : Int32} {o} {z0 z3 z4 : Option AV}  (hr1 : r1 < 5) (hE : X8_triesTogether_j0  σ r1 x2 = some o) (hK : Q (some (vi o)) (hp σ)) : Ws 3 mi_X8_triesTogether Q 0 [z0, some (vr 0 r1), some (vi x2), z3, z4] [] σ := by
  unfold X8_triesTogether_j0 at hE
  refine Wp.iconst dc_X8_triesTogether_0 ic_0 ?_
  refine Wp.istore_n dc_X8_triesTogether_1 (by decide) ?_
  refine Wp.iconst dc_X8_triesTogether_2 ic_0 ?_
  refine Wp.istore dc_X8_triesTogether_3 (by decide) ?_
  exact ok_X8_triesTogether_l5  hr1 hE hK
theorem ok_X8_triesTogether  {σ : SS} {r1 : Nat} {x2 : Int32} {o}  (hr1 : r1 < 5) (hE : X8_triesTogether  σ r1 x2 = some o) : Runs 3 0 0 mi_X8_triesTogether [vr 7 0, vr 0 r1, vi x2] (hp σ) (fun v h => v = some (vi o) ∧ h = hp σ) := by
  refine Runs.of pn_X8 (Nat.le_of_ble_eq_true rfl) ?_
  exact ok_X8_triesTogether_j0  hr1 hE ⟨rfl, rfl⟩
def X8_triedAt_P3 (Q : Option AV → AH → Prop) (σ : SS) (r1 : Nat) (x2 : Int32) (x3 : Int32) (ss : Int32) : Prop := ∀ z0 : Option AV, Ws 3 mi_X8_triedAt Q 3 [z0, some (vr 0 r1), some (vi x2), some (vi x3), some (vi ss)] [] σ
def X8_triedAt_R3 (Q : Option AV → AH → Prop) (σ : SS) (r1 : Nat) (x2 : Int32) (x3 : Int32) (tt : (Int32) ⊕ (Unit)) : Prop := match tt with
  | Sum.inl tt => ∀ z0 z1 z2 z3 : Option AV, Ws 3 mi_X8_triedAt Q 33 [z0, z1, z2, z3, some (vi tt)] [] σ
  | Sum.inr tt => ∀ z0 z1 z2 z3 z4 : Option AV, Ws 3 mi_X8_triedAt Q 42 [z0, z1, z2, z3, z4] [] σ
theorem ok_X8_triedAt_j36 {Q : Option AV → AH → Prop}  {σ : SS} {r1 : Nat} {x2 : Int32} {x3 : Int32} {x4 : Int32} {o} {z0 : Option AV}  (hr1 : r1 < 5) (hE : X8_triedAt_j36  σ r1 x2 x3 x4 = some o) (hS : ∀ ss, o = Sum.inl ss → (X8_triedAt_P3  Q σ r1 x2 x3) ss) (hT : ∀ tt, o = Sum.inr tt → (X8_triedAt_R3  Q σ r1 x2 x3) tt) : Ws 3 mi_X8_triedAt Q 36 [z0, some (vr 0 r1), some (vi x2), some (vi x3), some (vi x4)] [] σ := by
  unfold X8_triedAt_j36 at hE
  obtain ⟨x4_36, e_36, hE⟩ := bnS hE
  refine Wp.iinc dc_X8_triedAt_36 rfl ((ii ic_1).trans e_36) (by decide) ?_
  refine Wp.goto (tgt := 3) dc_X8_triedAt_39 (by decide) ?_
  cases hE
  exact hS _ rfl _
theorem ok_X8_triedAt_l3c {Q : Option AV → AH → Prop}  {σ : SS} {r1 : Nat} {x2 : Int32} {x3 : Int32} {x4 : Int32} {o} {z0 : Option AV}  (hr1 : r1 < 5) (hE : X8_triedAt_l3c  σ r1 x2 x3 x4 = some o) (hS : ∀ ss, o = Sum.inl ss → (X8_triedAt_P3  Q σ r1 x2 x3) ss) (hT : ∀ tt, o = Sum.inr tt → (X8_triedAt_R3  Q σ r1 x2 x3) tt) : Ws 3 mi_X8_triedAt Q 3 [z0, some (vr 0 r1), some (vi x2), some (vi x3), some (vi x4)] [] σ := by
  unfold X8_triedAt_l3c at hE
  refine Wp.iload dc_X8_triedAt_3 rfl ?_
  refine Wp.aload_n dc_X8_triedAt_5 rfl ?_
  obtain ⟨v6, h6, hE⟩ := bnd hE
  refine Wp.cV0i (ok_X0_leadCount (by omega) h6) dc_X8_triedAt_6 mw_X8_26 (mO0 (by omega)) (by decide) (Nat.le_of_ble_eq_true rfl) ?_
  refine Wp.icmp_ge (tgt := 42) dc_X8_triedAt_9 (by decide) (fun hc9 => ?_) (fun hc9 => ?_)
  · rw [if_pos hc9] at hE
    cases hE
    exact hT _ rfl _ _ _ _ _
  · rw [if_neg hc9] at hE
    refine Wp.iload_n dc_X8_triedAt_12 rfl ?_
    refine Wp.iload dc_X8_triedAt_13 rfl ?_
    refine Wp.ishr dc_X8_triedAt_15 ?_
    refine Wp.iconst dc_X8_triedAt_16 ic_1 ?_
    refine Wp.iand dc_X8_triedAt_17 ?_
    refine Wp.iconst dc_X8_triedAt_18 ic_1 ?_
    refine Wp.icmp_ne (tgt := 36) dc_X8_triedAt_19 (by decide) (fun hc19 => ?_) (fun hc19 => ?_)
    · rw [if_neg hc19] at hE
      exact ok_X8_triedAt_j36  hr1 hE hS hT
    · rw [if_pos hc19] at hE
      refine Wp.aload_n dc_X8_triedAt_22 rfl ?_
      refine Wp.iload_n dc_X8_triedAt_23 rfl ?_
      refine Wp.iload dc_X8_triedAt_24 rfl ?_
      obtain ⟨v26, h26, hE⟩ := bnd hE
      refine Wp.cS3i (ok_X8_triedAhead (by omega) h26) dc_X8_triedAt_26 mw_X8_43 (by decide) (Nat.le_of_ble_eq_true rfl) ?_
      refine Wp.iload_n dc_X8_triedAt_29 rfl ?_
      refine Wp.icmp_ne (tgt := 36) dc_X8_triedAt_30 (by decide) (fun hc30 => ?_) (fun hc30 => ?_)
      · rw [if_neg hc30] at hE
        exact ok_X8_triedAt_j36  hr1 hE hS hT
      · rw [if_pos hc30] at hE
        cases hE
        exact hT _ rfl _ _ _ _
theorem ok_X8_triedAt_l3 {Q : Option AV → AH → Prop}  {σ : SS} {r1 : Nat} {x2 : Int32} {x3 : Int32} {x4 : Int32} {o} {z0 : Option AV}  (hr1 : r1 < 5) (hE : X8_triedAt_l3  σ r1 x2 x3 x4 = some o) (hK : Q (some (vi o)) (hp σ)) : Ws 3 mi_X8_triedAt Q 3 [z0, some (vr 0 r1), some (vi x2), some (vi x3), some (vi x4)] [] σ := by
  unfold X8_triedAt_l3 at hE
  obtain ⟨t3, h1, hE⟩ := bnd hE
  refine iter_ok (P := (X8_triedAt_P3  Q σ r1 x2 x3)) (R := (X8_triedAt_R3  Q σ r1 x2 x3)) (fun ss o h2 hS hT => ?_) NF _ _ h1 ?_ _
  · intro z0
    exact ok_X8_triedAt_l3c  hr1 h2 hS hT
  · rcases t3 with e33 | u33
    · dsimp only at hE
      intro z0 z1 z2 z3
      show Ws 3 mi_X8_triedAt Q 33 [z0, z1, z2, z3, some (vi e33)] [] σ
      refine Wp.iload dc_X8_triedAt_33 rfl ?_
      cases hE
      exact Wp.ireturn dc_X8_triedAt_35 rfl rfl (Nat.le_refl _) (Nat.le_refl _) hK
    · dsimp only at hE
      skip
      intro z0 z1 z2 z3 z4
      show Ws 3 mi_X8_triedAt Q 42 [z0, z1, z2, z3, z4] [] σ
      refine Wp.iconst dc_X8_triedAt_42 ic_m1 ?_
      cases hE
      exact Wp.ireturn dc_X8_triedAt_43 rfl rfl (Nat.le_refl _) (Nat.le_refl _) hK
theorem ok_X8_triedAt_j0 {Q : Option AV → AH → Prop}  {σ : SS} {r1 : Nat} {x2 : Int32} {x3 : Int32} {o} {z0 z4 : Option AV}  (hr1 : r1 < 5) (hE : X8_triedAt_j0  σ r1 x2 x3 = some o) (hK : Q (some (vi o)) (hp σ)) : Ws 3 mi_X8_triedAt Q 0 [z0, some (vr 0 r1), some (vi x2), some (vi x3), z4] [] σ := by
  unfold X8_triedAt_j0 at hE
  refine Wp.iconst dc_X8_triedAt_0 ic_0 ?_
  refine Wp.istore dc_X8_triedAt_1 (by decide) ?_
  exact ok_X8_triedAt_l3  hr1 hE hK
theorem ok_X8_triedAt  {σ : SS} {r1 : Nat} {x2 : Int32} {x3 : Int32} {o}  (hr1 : r1 < 5) (hE : X8_triedAt  σ r1 x2 x3 = some o) : Runs 3 0 0 mi_X8_triedAt [vr 7 0, vr 0 r1, vi x2, vi x3] (hp σ) (fun v h => v = some (vi o) ∧ h = hp σ) := by
  refine Runs.of pn_X8 (Nat.le_of_ble_eq_true rfl) ?_
  exact ok_X8_triedAt_j0  hr1 hE ⟨rfl, rfl⟩
def X8_longest_P4 (Q : Option AV → AH → Prop) (σ : SS) (r1 : Nat)  (ss : Int32 × Int32) : Prop := ∀ z0 : Option AV, Ws 2 mi_X8_longest Q 4 [z0, some (vr 0 r1), some (vi ss.1), some (vi ss.2)] [] σ
def X8_longest_R4 (Q : Option AV → AH → Prop) (σ : SS) (r1 : Nat)  (tt : Int32) : Prop := ∀ z0 z1 z3 : Option AV, Ws 2 mi_X8_longest Q 41 [z0, z1, some (vi tt), z3] [] σ
theorem ok_X8_longest_j31 {Q : Option AV → AH → Prop}  {σ : SS} {r1 : Nat} {x3 : Int32} {s0 : Int32} {s1 : Int32} {o} {z0 z2 : Option AV}  (hr1 : r1 < 5) (hE : X8_longest_j31  σ r1 x3 s0 s1 = some o) (hS : ∀ ss, o = Sum.inl ss → (X8_longest_P4  Q σ r1 ) ss) (hT : ∀ tt, o = Sum.inr tt → (X8_longest_R4  Q σ r1 ) tt) : Ws 2 mi_X8_longest Q 31 [z0, some (vr 0 r1), z2, some (vi x3)] [vi s1, vi s0] σ := by
  unfold X8_longest_j31 at hE
  refine Wp.mmax dc_X8_longest_31 lw_X8_51 ms_max mi_Math mk_max (by decide) (Nat.le_refl _) (Nat.le_refl _) (Nat.le_of_ble_eq_true rfl) ?_
  obtain ⟨x2_34, e_34, hE⟩ := bnS hE
  rw [e_34]
  refine Wp.istore_n dc_X8_longest_34 (by decide) ?_
  obtain ⟨x3_35, e_35, hE⟩ := bnS hE
  refine Wp.iinc dc_X8_longest_35 rfl ((ii ic_1).trans e_35) (by decide) ?_
  refine Wp.goto (tgt := 4) dc_X8_longest_38 (by decide) ?_
  cases hE
  exact hS _ rfl _
theorem ok_X8_longest_l4c {Q : Option AV → AH → Prop}  {σ : SS} {r1 : Nat}  {x2 : Int32} {x3 : Int32} {o} {z0 : Option AV}  (hr1 : r1 < 5) (hE : X8_longest_l4c  σ r1  x2 x3 = some o) (hS : ∀ ss, o = Sum.inl ss → (X8_longest_P4  Q σ r1 ) ss) (hT : ∀ tt, o = Sum.inr tt → (X8_longest_R4  Q σ r1 ) tt) : Ws 2 mi_X8_longest Q 4 [z0, some (vr 0 r1), some (vi x2), some (vi x3)] [] σ := by
  unfold X8_longest_l4c at hE
  refine Wp.iload_n dc_X8_longest_4 rfl ?_
  refine Wp.aload_n dc_X8_longest_5 rfl ?_
  obtain ⟨v6, h6, hE⟩ := bnd hE
  refine Wp.cV0i (ok_X0_leadCount (by omega) h6) dc_X8_longest_6 mw_X8_26 (mO0 (by omega)) (by decide) (Nat.le_of_ble_eq_true rfl) ?_
  refine Wp.icmp_ge (tgt := 41) dc_X8_longest_9 (by decide) (fun hc9 => ?_) (fun hc9 => ?_)
  · rw [if_pos hc9] at hE
    cases hE
    exact hT _ rfl _ _ _
  · rw [if_neg hc9] at hE
    refine Wp.iload_n dc_X8_longest_12 rfl ?_
    refine Wp.aload_n dc_X8_longest_13 rfl ?_
    refine Wp.iload_n dc_X8_longest_14 rfl ?_
    obtain ⟨v15, h15, hE⟩ := bnd hE
    refine Wp.cV1i (ok_X0_isIn (by omega) h15) dc_X8_longest_15 mw_X8_47 (mO0 (by omega)) (by decide) (Nat.le_of_ble_eq_true rfl) ?_
    refine Wp.if_eq (tgt := 30) dc_X8_longest_18 (by decide) (fun hc18 => ?_) (fun hc18 => ?_)
    · rw [if_pos hc18] at hE
      refine Wp.iconst dc_X8_longest_30 ic_0 ?_
      exact ok_X8_longest_j31  hr1 hE hS hT
    · rw [if_neg hc18] at hE
      refine Wp.aload_n dc_X8_longest_21 rfl ?_
      refine Wp.iconst dc_X8_longest_22 ic_0 ?_
      refine Wp.iload_n dc_X8_longest_23 rfl ?_
      obtain ⟨v24, h24, hE⟩ := bnd hE
      refine Wp.cV2i (ok_X0_number (by omega) h24) dc_X8_longest_24 mw_X8_29 (mO0 (by omega)) (by decide) (Nat.le_of_ble_eq_true rfl) ?_
      refine Wp.goto (tgt := 31) dc_X8_longest_27 (by decide) ?_
      exact ok_X8_longest_j31  hr1 hE hS hT
theorem ok_X8_longest_l4 {Q : Option AV → AH → Prop}  {σ : SS} {r1 : Nat} {x2 : Int32} {x3 : Int32} {o} {z0 : Option AV}  (hr1 : r1 < 5) (hE : X8_longest_l4  σ r1 x2 x3 = some o) (hK : Q (some (vi o)) (hp σ)) : Ws 2 mi_X8_longest Q 4 [z0, some (vr 0 r1), some (vi x2), some (vi x3)] [] σ := by
  unfold X8_longest_l4 at hE
  obtain ⟨t4, h1, hE⟩ := bnd hE
  refine iter_ok (P := (X8_longest_P4  Q σ r1 )) (R := (X8_longest_R4  Q σ r1 )) (fun ss o h2 hS hT => ?_) NF _ _ h1 ?_ _
  · intro z0
    exact ok_X8_longest_l4c  hr1 h2 hS hT
  · intro z0 z1 z3
    show Ws 2 mi_X8_longest Q 41 [z0, z1, some (vi t4), z3] [] σ
    refine Wp.iload_n dc_X8_longest_41 rfl ?_
    cases hE
    exact Wp.ireturn dc_X8_longest_42 rfl rfl (Nat.le_refl _) (Nat.le_refl _) hK
theorem ok_X8_longest_j0 {Q : Option AV → AH → Prop}  {σ : SS} {r1 : Nat}  {o} {z0 z2 z3 : Option AV}  (hr1 : r1 < 5) (hE : X8_longest_j0  σ r1  = some o) (hK : Q (some (vi o)) (hp σ)) : Ws 2 mi_X8_longest Q 0 [z0, some (vr 0 r1), z2, z3] [] σ := by
  unfold X8_longest_j0 at hE
  refine Wp.iconst dc_X8_longest_0 ic_0 ?_
  refine Wp.istore_n dc_X8_longest_1 (by decide) ?_
  refine Wp.iconst dc_X8_longest_2 ic_0 ?_
  refine Wp.istore_n dc_X8_longest_3 (by decide) ?_
  exact ok_X8_longest_l4  hr1 hE hK
theorem ok_X8_longest  {σ : SS} {r1 : Nat}  {o}  (hr1 : r1 < 5) (hE : X8_longest  σ r1  = some o) : Runs 2 0 0 mi_X8_longest [vr 7 0, vr 0 r1] (hp σ) (fun v h => v = some (vi o) ∧ h = hp σ) := by
  refine Runs.of pn_X8 (Nat.le_of_ble_eq_true rfl) ?_
  exact ok_X8_longest_j0  hr1 hE ⟨rfl, rfl⟩
def X8_leastFilled_P7 (Q : Option AV → AH → Prop) (σ : SS) (r1 : Nat) (x2 : Int32) (x3 : Int32) (ss : Int32 × Int32) : Prop := ∀ z6 z7 z8 : Option AV, Ws 2 mi_X8_leastFilled Q 7 [some (vr 7 0), some (vr 0 r1), some (vi x2), some (vi x3), some (vi ss.1), some (vi ss.2), z6, z7, z8] [] σ
def X8_leastFilled_R7 (Q : Option AV → AH → Prop) (σ : SS) (r1 : Nat) (x2 : Int32) (x3 : Int32) (tt : Int32) : Prop := ∀ z0 z1 z2 z3 z5 z6 z7 z8 : Option AV, Ws 2 mi_X8_leastFilled Q 111 [z0, z1, z2, z3, some (vi tt), z5, z6, z7, z8] [] σ
theorem ok_X8_leastFilled_j105 {Q : Option AV → AH → Prop}  {σ : SS} {r1 : Nat} {x2 : Int32} {x3 : Int32} {x4 : Int32} {x5 : Int32} {o} {z6 z7 z8 : Option AV}  (hr1 : r1 < 5) (hE : X8_leastFilled_j105  σ r1 x2 x3 x4 x5 = some o) (hS : ∀ ss, o = Sum.inl ss → (X8_leastFilled_P7  Q σ r1 x2 x3) ss) (hT : ∀ tt, o = Sum.inr tt → (X8_leastFilled_R7  Q σ r1 x2 x3) tt) : Ws 2 mi_X8_leastFilled Q 105 [some (vr 7 0), some (vr 0 r1), some (vi x2), some (vi x3), some (vi x4), some (vi x5), z6, z7, z8] [] σ := by
  unfold X8_leastFilled_j105 at hE
  obtain ⟨x5_105, e_105, hE⟩ := bnS hE
  refine Wp.iinc dc_X8_leastFilled_105 rfl ((ii ic_1).trans e_105) (by decide) ?_
  refine Wp.goto (tgt := 7) dc_X8_leastFilled_108 (by decide) ?_
  cases hE
  exact hS _ rfl _ _ _
theorem ok_X8_leastFilled_j100 {Q : Option AV → AH → Prop}  {σ : SS} {r1 : Nat} {x2 : Int32} {x3 : Int32} {x5 : Int32} {s0 : Int32} {s1 : Int32} {o} {z4 z6 z7 z8 : Option AV}  (hr1 : r1 < 5) (hE : X8_leastFilled_j100  σ r1 x2 x3 x5 s0 s1 = some o) (hS : ∀ ss, o = Sum.inl ss → (X8_leastFilled_P7  Q σ r1 x2 x3) ss) (hT : ∀ tt, o = Sum.inr tt → (X8_leastFilled_R7  Q σ r1 x2 x3) tt) : Ws 2 mi_X8_leastFilled Q 100 [some (vr 7 0), some (vr 0 r1), some (vi x2), some (vi x3), z4, some (vi x5), z6, z7, z8] [vi s1, vi s0] σ := by
  unfold X8_leastFilled_j100 at hE
  refine Wp.mmin dc_X8_leastFilled_100 lw_X8_70 ms_min mi_Math mk_min (by decide) (Nat.le_refl _) (Nat.le_refl _) (Nat.le_of_ble_eq_true rfl) ?_
  obtain ⟨x4_103, e_103, hE⟩ := bnS hE
  rw [e_103]
  refine Wp.istore dc_X8_leastFilled_103 (by decide) ?_
  exact ok_X8_leastFilled_j105  hr1 hE hS hT
theorem ok_X8_leastFilled_j70 {Q : Option AV → AH → Prop}  {σ : SS} {r1 : Nat} {x2 : Int32} {x3 : Int32} {x4 : Int32} {x5 : Int32} {x6 : Int32} {x7 : Int32} {s0 : Int32} {o} {z8 : Option AV}  (hr1 : r1 < 5) (hE : X8_leastFilled_j70  σ r1 x2 x3 x4 x5 x6 x7 s0 = some o) (hS : ∀ ss, o = Sum.inl ss → (X8_leastFilled_P7  Q σ r1 x2 x3) ss) (hT : ∀ tt, o = Sum.inr tt → (X8_leastFilled_R7  Q σ r1 x2 x3) tt) : Ws 2 mi_X8_leastFilled Q 70 [some (vr 7 0), some (vr 0 r1), some (vi x2), some (vi x3), some (vi x4), some (vi x5), some (vi x6), some (vi x7), z8] [vi s0] σ := by
  unfold X8_leastFilled_j70 at hE
  refine Wp.istore dc_X8_leastFilled_70 (by decide) ?_
  refine Wp.iload dc_X8_leastFilled_72 rfl ?_
  refine Wp.iload dc_X8_leastFilled_74 rfl ?_
  refine Wp.if_eq (tgt := 87) dc_X8_leastFilled_76 (by decide) (fun hc76 => ?_) (fun hc76 => ?_)
  · rw [if_pos hc76] at hE
    refine Wp.iload dc_X8_leastFilled_87 rfl ?_
    refine Wp.bipush dc_X8_leastFilled_89 bp_7 ?_
    refine Wp.ishr dc_X8_leastFilled_91 ?_
    refine Wp.iconst dc_X8_leastFilled_92 ic_1 ?_
    refine Wp.iadd dc_X8_leastFilled_93 ?_
    refine Wp.bipush dc_X8_leastFilled_94 bp_7 ?_
    refine Wp.ishl dc_X8_leastFilled_96 ?_
    refine Wp.iload dc_X8_leastFilled_97 rfl ?_
    refine Wp.iadd dc_X8_leastFilled_99 ?_
    exact ok_X8_leastFilled_j100  hr1 hE hS hT
  · rw [if_neg hc76] at hE
    refine Wp.iload dc_X8_leastFilled_79 rfl ?_
    refine Wp.iload dc_X8_leastFilled_81 rfl ?_
    refine Wp.iadd dc_X8_leastFilled_83 ?_
    refine Wp.goto (tgt := 100) dc_X8_leastFilled_84 (by decide) ?_
    exact ok_X8_leastFilled_j100  hr1 hE hS hT
theorem ok_X8_leastFilled_l7c {Q : Option AV → AH → Prop}  {σ : SS} {r1 : Nat} {x2 : Int32} {x3 : Int32} {x4 : Int32} {x5 : Int32} {o} {z6 z7 z8 : Option AV}  (hr1 : r1 < 5) (hE : X8_leastFilled_l7c  σ r1 x2 x3 x4 x5 = some o) (hS : ∀ ss, o = Sum.inl ss → (X8_leastFilled_P7  Q σ r1 x2 x3) ss) (hT : ∀ tt, o = Sum.inr tt → (X8_leastFilled_R7  Q σ r1 x2 x3) tt) : Ws 2 mi_X8_leastFilled Q 7 [some (vr 7 0), some (vr 0 r1), some (vi x2), some (vi x3), some (vi x4), some (vi x5), z6, z7, z8] [] σ := by
  unfold X8_leastFilled_l7c at hE
  refine Wp.iload dc_X8_leastFilled_7 rfl ?_
  refine Wp.aload_n dc_X8_leastFilled_9 rfl ?_
  obtain ⟨v10, h10, hE⟩ := bnd hE
  refine Wp.cV0i (ok_X0_leadCount (by omega) h10) dc_X8_leastFilled_10 mw_X8_26 (mO0 (by omega)) (by decide) (Nat.le_of_ble_eq_true rfl) ?_
  refine Wp.icmp_ge (tgt := 111) dc_X8_leastFilled_13 (by decide) (fun hc13 => ?_) (fun hc13 => ?_)
  · rw [if_pos hc13] at hE
    cases hE
    exact hT _ rfl _ _ _ _ _ _ _ _
  · rw [if_neg hc13] at hE
    refine Wp.iload_n dc_X8_leastFilled_16 rfl ?_
    refine Wp.iload dc_X8_leastFilled_17 rfl ?_
    refine Wp.ishr dc_X8_leastFilled_19 ?_
    refine Wp.iconst dc_X8_leastFilled_20 ic_1 ?_
    refine Wp.iand dc_X8_leastFilled_21 ?_
    refine Wp.iconst dc_X8_leastFilled_22 ic_1 ?_
    refine Wp.icmp_ne (tgt := 105) dc_X8_leastFilled_23 (by decide) (fun hc23 => ?_) (fun hc23 => ?_)
    · rw [if_neg hc23] at hE
      exact ok_X8_leastFilled_j105  hr1 hE hS hT
    · rw [if_pos hc23] at hE
      refine Wp.aload_n dc_X8_leastFilled_26 rfl ?_
      refine Wp.sgetR (t := 27) dc_X8_leastFilled_27 fw_X8_16 (mO7 (by decide)) rfl ?_
      refine Wp.iconst dc_X8_leastFilled_30 ic_0 ?_
      refine Wp.iload_n dc_X8_leastFilled_31 rfl ?_
      refine Wp.iconst dc_X8_leastFilled_32 ic_1 ?_
      refine Wp.iload dc_X8_leastFilled_33 rfl ?_
      refine Wp.ishl dc_X8_leastFilled_35 ?_
      refine Wp.iconst dc_X8_leastFilled_36 ic_m1 ?_
      refine Wp.ixor dc_X8_leastFilled_37 ?_
      refine Wp.iand dc_X8_leastFilled_38 ?_
      obtain ⟨v39, h39, hE⟩ := bnd hE
      refine Wp.cV2i (ok_X4_at (by decide) h39) dc_X8_leastFilled_39 mw_X8_66 (mO3 (by decide)) (by decide) (Nat.le_of_ble_eq_true rfl) ?_
      refine Wp.istore dc_X8_leastFilled_42 (by decide) ?_
      refine Wp.aload_n dc_X8_leastFilled_44 rfl ?_
      refine Wp.iconst dc_X8_leastFilled_45 ic_0 ?_
      refine Wp.iload dc_X8_leastFilled_46 rfl ?_
      obtain ⟨v48, h48, hE⟩ := bnd hE
      refine Wp.cV2i (ok_X0_number (by omega) h48) dc_X8_leastFilled_48 mw_X8_29 (mO0 (by omega)) (by decide) (Nat.le_of_ble_eq_true rfl) ?_
      refine Wp.istore dc_X8_leastFilled_51 (by decide) ?_
      refine Wp.iload dc_X8_leastFilled_53 rfl ?_
      refine Wp.bipush dc_X8_leastFilled_55 bp_127 ?_
      refine Wp.iand dc_X8_leastFilled_57 ?_
      refine Wp.iload dc_X8_leastFilled_58 rfl ?_
      refine Wp.iadd dc_X8_leastFilled_60 ?_
      refine Wp.iload_n dc_X8_leastFilled_61 rfl ?_
      refine Wp.icmp_gt (tgt := 69) dc_X8_leastFilled_62 (by decide) (fun hc62 => ?_) (fun hc62 => ?_)
      · rw [if_pos hc62] at hE
        refine Wp.iconst dc_X8_leastFilled_69 ic_0 ?_
        exact ok_X8_leastFilled_j70  hr1 hE hS hT
      · rw [if_neg hc62] at hE
        refine Wp.iconst dc_X8_leastFilled_65 ic_1 ?_
        refine Wp.goto (tgt := 70) dc_X8_leastFilled_66 (by decide) ?_
        exact ok_X8_leastFilled_j70  hr1 hE hS hT
theorem ok_X8_leastFilled_l7 {Q : Option AV → AH → Prop}  {σ : SS} {r1 : Nat} {x2 : Int32} {x3 : Int32} {x4 : Int32} {x5 : Int32} {o} {z6 z7 z8 : Option AV}  (hr1 : r1 < 5) (hE : X8_leastFilled_l7  σ r1 x2 x3 x4 x5 = some o) (hK : Q (some (vi o)) (hp σ)) : Ws 2 mi_X8_leastFilled Q 7 [some (vr 7 0), some (vr 0 r1), some (vi x2), some (vi x3), some (vi x4), some (vi x5), z6, z7, z8] [] σ := by
  unfold X8_leastFilled_l7 at hE
  obtain ⟨t7, h1, hE⟩ := bnd hE
  refine iter_ok (P := (X8_leastFilled_P7  Q σ r1 x2 x3)) (R := (X8_leastFilled_R7  Q σ r1 x2 x3)) (fun ss o h2 hS hT => ?_) NF _ _ h1 ?_ _ _ _
  · intro z6 z7 z8
    exact ok_X8_leastFilled_l7c  hr1 h2 hS hT
  · intro z0 z1 z2 z3 z5 z6 z7 z8
    show Ws 2 mi_X8_leastFilled Q 111 [z0, z1, z2, z3, some (vi t7), z5, z6, z7, z8] [] σ
    refine Wp.iload dc_X8_leastFilled_111 rfl ?_
    cases hE
    exact Wp.ireturn dc_X8_leastFilled_113 rfl rfl (Nat.le_refl _) (Nat.le_refl _) hK
theorem ok_X8_leastFilled_j0 {Q : Option AV → AH → Prop}  {σ : SS} {r1 : Nat} {x2 : Int32} {x3 : Int32} {o} {z4 z5 z6 z7 z8 : Option AV}  (hr1 : r1 < 5) (hE : X8_leastFilled_j0  σ r1 x2 x3 = some o) (hK : Q (some (vi o)) (hp σ)) : Ws 2 mi_X8_leastFilled Q 0 [some (vr 7 0), some (vr 0 r1), some (vi x2), some (vi x3), z4, z5, z6, z7, z8] [] σ := by
  unfold X8_leastFilled_j0 at hE
  refine Wp.ldc dc_X8_leastFilled_0 kw_X8_69 ?_
  refine Wp.istore dc_X8_leastFilled_2 (by decide) ?_
  refine Wp.iconst dc_X8_leastFilled_4 ic_0 ?_
  refine Wp.istore dc_X8_leastFilled_5 (by decide) ?_
  exact ok_X8_leastFilled_l7  hr1 hE hK
theorem ok_X8_leastFilled  {σ : SS} {r1 : Nat} {x2 : Int32} {x3 : Int32} {o}  (hr1 : r1 < 5) (hE : X8_leastFilled  σ r1 x2 x3 = some o) : Runs 2 0 0 mi_X8_leastFilled [vr 7 0, vr 0 r1, vi x2, vi x3] (hp σ) (fun v h => v = some (vi o) ∧ h = hp σ) := by
  refine Runs.of pn_X8 (Nat.le_of_ble_eq_true rfl) ?_
  exact ok_X8_leastFilled_j0  hr1 hE ⟨rfl, rfl⟩
def X8_fewestBoxes_P18 (Q : Option AV → AH → Prop)  (r1 : Nat) (x2 : Int32) (x3 : Int32) (ss : Int32 × SS) : Prop := Ws 3 mi_X8_fewestBoxes Q 18 [some (vr 7 0), some (vr 0 r1), some (vi x2), some (vi x3), some (vi ss.1)] [] ss.2
def X8_fewestBoxes_R18 (Q : Option AV → AH → Prop)  (r1 : Nat) (x2 : Int32) (x3 : Int32) (tt : SS) : Prop := ∀ z1 z2 z4 : Option AV, Ws 3 mi_X8_fewestBoxes Q 57 [some (vr 7 0), z1, z2, some (vi x3), z4] [] tt
theorem ok_X8_fewestBoxes_j51 {Q : Option AV → AH → Prop}  {σ : SS} {r1 : Nat} {x2 : Int32} {x3 : Int32} {x4 : Int32} {o}   (hr1 : r1 < 5) (hE : X8_fewestBoxes_j51  σ r1 x2 x3 x4 = some o) (hS : ∀ ss, o = Sum.inl ss → (X8_fewestBoxes_P18  Q  r1 x2 x3) ss) (hT : ∀ tt, o = Sum.inr tt → (X8_fewestBoxes_R18  Q  r1 x2 x3) tt) : Ws 3 mi_X8_fewestBoxes Q 51 [some (vr 7 0), some (vr 0 r1), some (vi x2), some (vi x3), some (vi x4)] [] σ := by
  unfold X8_fewestBoxes_j51 at hE
  obtain ⟨x4_51, e_51, hE⟩ := bnS hE
  refine Wp.iinc dc_X8_fewestBoxes_51 rfl ((ii ic_1).trans e_51) (by decide) ?_
  refine Wp.goto (tgt := 18) dc_X8_fewestBoxes_54 (by decide) ?_
  cases hE
  exact hS _ rfl
theorem ok_X8_fewestBoxes_l18c {Q : Option AV → AH → Prop}  {σ : SS} {r1 : Nat} {x2 : Int32} {x3 : Int32} {x4 : Int32} {o}   (hr1 : r1 < 5) (hE : X8_fewestBoxes_l18c  σ r1 x2 x3 x4 = some o) (hS : ∀ ss, o = Sum.inl ss → (X8_fewestBoxes_P18  Q  r1 x2 x3) ss) (hT : ∀ tt, o = Sum.inr tt → (X8_fewestBoxes_R18  Q  r1 x2 x3) tt) : Ws 3 mi_X8_fewestBoxes Q 18 [some (vr 7 0), some (vr 0 r1), some (vi x2), some (vi x3), some (vi x4)] [] σ := by
  unfold X8_fewestBoxes_l18c at hE
  refine Wp.iload dc_X8_fewestBoxes_18 rfl ?_
  refine Wp.iload_n dc_X8_fewestBoxes_20 rfl ?_
  refine Wp.icmp_gt (tgt := 57) dc_X8_fewestBoxes_21 (by decide) (fun hc21 => ?_) (fun hc21 => ?_)
  · rw [if_pos hc21] at hE
    cases hE
    exact hT _ rfl _ _ _
  · rw [if_neg hc21] at hE
    refine Wp.iload dc_X8_fewestBoxes_24 rfl ?_
    refine Wp.iload_n dc_X8_fewestBoxes_26 rfl ?_
    refine Wp.iconst dc_X8_fewestBoxes_27 ic_m1 ?_
    refine Wp.ixor dc_X8_fewestBoxes_28 ?_
    refine Wp.iand dc_X8_fewestBoxes_29 ?_
    refine Wp.if_ne (tgt := 51) dc_X8_fewestBoxes_30 (by decide) (fun hc30 => ?_) (fun hc30 => ?_)
    · rw [if_neg hc30] at hE
      exact ok_X8_fewestBoxes_j51  hr1 hE hS hT
    · rw [if_pos hc30] at hE
      refine Wp.aload_n dc_X8_fewestBoxes_33 rfl ?_
      refine Wp.sgetR (t := 27) dc_X8_fewestBoxes_34 fw_X8_16 (mO7 (by decide)) rfl ?_
      refine Wp.iconst dc_X8_fewestBoxes_37 ic_0 ?_
      refine Wp.iload dc_X8_fewestBoxes_38 rfl ?_
      refine Wp.aload_n dc_X8_fewestBoxes_40 rfl ?_
      refine Wp.aload_n dc_X8_fewestBoxes_41 rfl ?_
      refine Wp.iload dc_X8_fewestBoxes_42 rfl ?_
      refine Wp.iload_n dc_X8_fewestBoxes_44 rfl ?_
      obtain ⟨v45, h45, hE⟩ := bnd hE
      refine Wp.cV3i (ok_X8_leastFilled (by omega) h45) dc_X8_fewestBoxes_45 mw_X8_63 (mO7 (by decide)) (by decide) (Nat.le_of_ble_eq_true rfl) ?_
      obtain ⟨σ48, h48, hE⟩ := bnd hE
      refine Wp.cV3v (ok_X4_put (by decide) h48) dc_X8_fewestBoxes_48 mw_X8_59 (mO3 (by decide)) (by decide) (Nat.le_of_ble_eq_true rfl) ?_
      exact ok_X8_fewestBoxes_j51  hr1 hE hS hT
theorem ok_X8_fewestBoxes_l18 {Q : Option AV → AH → Prop}  {σ : SS} {r1 : Nat} {x2 : Int32} {x3 : Int32} {x4 : Int32} {o}   (hr1 : r1 < 5) (hE : X8_fewestBoxes_l18  σ r1 x2 x3 x4 = some o) (hK : Q (some (vi o.1)) (hp o.2)) : Ws 3 mi_X8_fewestBoxes Q 18 [some (vr 7 0), some (vr 0 r1), some (vi x2), some (vi x3), some (vi x4)] [] σ := by
  unfold X8_fewestBoxes_l18 at hE
  obtain ⟨t18, h1, hE⟩ := bnd hE
  refine iter_ok (P := (X8_fewestBoxes_P18  Q  r1 x2 x3)) (R := (X8_fewestBoxes_R18  Q  r1 x2 x3)) (fun ss o h2 hS hT => ?_) NF _ _ h1 ?_
  · skip
    exact ok_X8_fewestBoxes_l18c  hr1 h2 hS hT
  · intro z1 z2 z4
    show Ws 3 mi_X8_fewestBoxes Q 57 [some (vr 7 0), z1, z2, some (vi x3), z4] [] t18
    refine Wp.aload_n dc_X8_fewestBoxes_57 rfl ?_
    refine Wp.sgetR (t := 27) dc_X8_fewestBoxes_58 fw_X8_16 (mO7 (by decide)) rfl ?_
    refine Wp.iconst dc_X8_fewestBoxes_61 ic_0 ?_
    refine Wp.iload_n dc_X8_fewestBoxes_62 rfl ?_
    obtain ⟨v63, h63, hE⟩ := bnd hE
    refine Wp.cV2i (ok_X4_at (by decide) h63) dc_X8_fewestBoxes_63 mw_X8_66 (mO3 (by decide)) (by decide) (Nat.le_of_ble_eq_true rfl) ?_
    refine Wp.bipush dc_X8_fewestBoxes_66 bp_7 ?_
    refine Wp.ishr dc_X8_fewestBoxes_68 ?_
    cases hE
    exact Wp.ireturn dc_X8_fewestBoxes_69 rfl rfl (Nat.le_refl _) (Nat.le_refl _) hK
theorem ok_X8_fewestBoxes_j0 {Q : Option AV → AH → Prop}  {σ : SS} {r1 : Nat} {x2 : Int32} {o} {z3 z4 : Option AV}  (hr1 : r1 < 5) (hE : X8_fewestBoxes_j0  σ r1 x2 = some o) (hK : Q (some (vi o.1)) (hp o.2)) : Ws 3 mi_X8_fewestBoxes Q 0 [some (vr 7 0), some (vr 0 r1), some (vi x2), z3, z4] [] σ := by
  unfold X8_fewestBoxes_j0 at hE
  refine Wp.aload_n dc_X8_fewestBoxes_0 rfl ?_
  obtain ⟨v1, h1, hE⟩ := bnd hE
  refine Wp.cV0i (ok_X0_insideSet (by omega) h1) dc_X8_fewestBoxes_1 mw_X8_56 (mO0 (by omega)) (by decide) (Nat.le_of_ble_eq_true rfl) ?_
  refine Wp.istore_n dc_X8_fewestBoxes_4 (by decide) ?_
  refine Wp.aload_n dc_X8_fewestBoxes_5 rfl ?_
  refine Wp.sgetR (t := 27) dc_X8_fewestBoxes_6 fw_X8_16 (mO7 (by decide)) rfl ?_
  refine Wp.iconst dc_X8_fewestBoxes_9 ic_0 ?_
  refine Wp.iconst dc_X8_fewestBoxes_10 ic_0 ?_
  refine Wp.iload_n dc_X8_fewestBoxes_11 rfl ?_
  obtain ⟨σ12, h12, hE⟩ := bnd hE
  refine Wp.cV3v (ok_X4_put (by decide) h12) dc_X8_fewestBoxes_12 mw_X8_59 (mO3 (by decide)) (by decide) (Nat.le_of_ble_eq_true rfl) ?_
  refine Wp.iconst dc_X8_fewestBoxes_15 ic_1 ?_
  refine Wp.istore dc_X8_fewestBoxes_16 (by decide) ?_
  exact ok_X8_fewestBoxes_l18  hr1 hE hK
theorem ok_X8_fewestBoxes  {σ : SS} {r1 : Nat} {x2 : Int32} {o}  (hr1 : r1 < 5) (hE : X8_fewestBoxes  σ r1 x2 = some o) : Runs 3 0 0 mi_X8_fewestBoxes [vr 7 0, vr 0 r1, vi x2] (hp σ) (fun v h => v = some (vi o.1) ∧ h = hp o.2) := by
  refine Runs.of pn_X8 (Nat.le_of_ble_eq_true rfl) ?_
  exact ok_X8_fewestBoxes_j0  hr1 hE ⟨rfl, rfl⟩
def X8_thrown_P5 (Q : Option AV → AH → Prop) (σ : SS) (r1 : Nat) (x2 : Int32) (ss : Int32 × Int32) : Prop := ∀ z0 z5 z6 : Option AV, Ws 3 mi_X8_thrown Q 5 [z0, some (vr 0 r1), some (vi x2), some (vi ss.1), some (vi ss.2), z5, z6] [] σ
def X8_thrown_R5 (Q : Option AV → AH → Prop) (σ : SS) (r1 : Nat) (x2 : Int32) (tt : Int32) : Prop := ∀ z0 z1 z2 z4 z5 z6 : Option AV, Ws 3 mi_X8_thrown Q 85 [z0, z1, z2, some (vi tt), z4, z5, z6] [] σ
theorem ok_X8_thrown_j77 {Q : Option AV → AH → Prop}  {σ : SS} {r1 : Nat} {x2 : Int32} {x4 : Int32} {s0 : Int32} {s1 : Int32} {o} {z0 z3 z5 z6 : Option AV}  (hr1 : r1 < 5) (hE : X8_thrown_j77  σ r1 x2 x4 s0 s1 = some o) (hS : ∀ ss, o = Sum.inl ss → (X8_thrown_P5  Q σ r1 x2) ss) (hT : ∀ tt, o = Sum.inr tt → (X8_thrown_R5  Q σ r1 x2) tt) : Ws 3 mi_X8_thrown Q 77 [z0, some (vr 0 r1), some (vi x2), z3, some (vi x4), z5, z6] [vi s1, vi s0] σ := by
  unfold X8_thrown_j77 at hE
  refine Wp.ior dc_X8_thrown_77 ?_
  obtain ⟨x3_78, e_78, hE⟩ := bnS hE
  rw [e_78]
  refine Wp.istore_n dc_X8_thrown_78 (by decide) ?_
  obtain ⟨x4_79, e_79, hE⟩ := bnS hE
  refine Wp.iinc dc_X8_thrown_79 rfl ((ii ic_1).trans e_79) (by decide) ?_
  refine Wp.goto (tgt := 5) dc_X8_thrown_82 (by decide) ?_
  cases hE
  exact hS _ rfl _ _ _
theorem ok_X8_thrown_j61 {Q : Option AV → AH → Prop}  {σ : SS} {r1 : Nat} {x2 : Int32} {x3 : Int32} {x4 : Int32} {s0 : Int32} {o} {z0 z5 z6 : Option AV}  (hr1 : r1 < 5) (hE : X8_thrown_j61  σ r1 x2 x3 x4 s0 = some o) (hS : ∀ ss, o = Sum.inl ss → (X8_thrown_P5  Q σ r1 x2) ss) (hT : ∀ tt, o = Sum.inr tt → (X8_thrown_R5  Q σ r1 x2) tt) : Ws 3 mi_X8_thrown Q 61 [z0, some (vr 0 r1), some (vi x2), some (vi x3), some (vi x4), z5, z6] [vi s0] σ := by
  unfold X8_thrown_j61 at hE
  refine Wp.istore dc_X8_thrown_61 (by decide) ?_
  refine Wp.iload_n dc_X8_thrown_63 rfl ?_
  refine Wp.iload dc_X8_thrown_64 rfl ?_
  refine Wp.if_eq (tgt := 76) dc_X8_thrown_66 (by decide) (fun hc66 => ?_) (fun hc66 => ?_)
  · rw [if_pos hc66] at hE
    refine Wp.iconst dc_X8_thrown_76 ic_0 ?_
    exact ok_X8_thrown_j77  hr1 hE hS hT
  · rw [if_neg hc66] at hE
    refine Wp.iconst dc_X8_thrown_69 ic_1 ?_
    refine Wp.iload dc_X8_thrown_70 rfl ?_
    refine Wp.ishl dc_X8_thrown_72 ?_
    refine Wp.goto (tgt := 77) dc_X8_thrown_73 (by decide) ?_
    exact ok_X8_thrown_j77  hr1 hE hS hT
theorem ok_X8_thrown_j60 {Q : Option AV → AH → Prop}  {σ : SS} {r1 : Nat} {x2 : Int32} {x3 : Int32} {x4 : Int32} {o} {z0 z5 z6 : Option AV}  (hr1 : r1 < 5) (hE : X8_thrown_j60  σ r1 x2 x3 x4 = some o) (hS : ∀ ss, o = Sum.inl ss → (X8_thrown_P5  Q σ r1 x2) ss) (hT : ∀ tt, o = Sum.inr tt → (X8_thrown_R5  Q σ r1 x2) tt) : Ws 3 mi_X8_thrown Q 60 [z0, some (vr 0 r1), some (vi x2), some (vi x3), some (vi x4), z5, z6] [] σ := by
  unfold X8_thrown_j60 at hE
  refine Wp.iconst dc_X8_thrown_60 ic_0 ?_
  exact ok_X8_thrown_j61  hr1 hE hS hT
theorem ok_X8_thrown_l5c {Q : Option AV → AH → Prop}  {σ : SS} {r1 : Nat} {x2 : Int32} {x3 : Int32} {x4 : Int32} {o} {z0 z5 z6 : Option AV}  (hr1 : r1 < 5) (hE : X8_thrown_l5c  σ r1 x2 x3 x4 = some o) (hS : ∀ ss, o = Sum.inl ss → (X8_thrown_P5  Q σ r1 x2) ss) (hT : ∀ tt, o = Sum.inr tt → (X8_thrown_R5  Q σ r1 x2) tt) : Ws 3 mi_X8_thrown Q 5 [z0, some (vr 0 r1), some (vi x2), some (vi x3), some (vi x4), z5, z6] [] σ := by
  unfold X8_thrown_l5c at hE
  refine Wp.iload dc_X8_thrown_5 rfl ?_
  refine Wp.aload_n dc_X8_thrown_7 rfl ?_
  obtain ⟨v8, h8, hE⟩ := bnd hE
  refine Wp.cV0i (ok_X0_leadCount (by omega) h8) dc_X8_thrown_8 mw_X8_26 (mO0 (by omega)) (by decide) (Nat.le_of_ble_eq_true rfl) ?_
  refine Wp.icmp_ge (tgt := 85) dc_X8_thrown_11 (by decide) (fun hc11 => ?_) (fun hc11 => ?_)
  · rw [if_pos hc11] at hE
    cases hE
    exact hT _ rfl _ _ _ _ _ _
  · rw [if_neg hc11] at hE
    refine Wp.aload_n dc_X8_thrown_14 rfl ?_
    refine Wp.iconst dc_X8_thrown_15 ic_4 ?_
    refine Wp.iload dc_X8_thrown_16 rfl ?_
    obtain ⟨v18, h18, hE⟩ := bnd hE
    refine Wp.cV2i (ok_X0_number (by omega) h18) dc_X8_thrown_18 mw_X8_29 (mO0 (by omega)) (by decide) (Nat.le_of_ble_eq_true rfl) ?_
    refine Wp.aload_n dc_X8_thrown_21 rfl ?_
    refine Wp.iconst dc_X8_thrown_22 ic_5 ?_
    refine Wp.iload dc_X8_thrown_23 rfl ?_
    obtain ⟨v25, h25, hE⟩ := bnd hE
    refine Wp.cV2i (ok_X0_number (by omega) h25) dc_X8_thrown_25 mw_X8_29 (mO0 (by omega)) (by decide) (Nat.le_of_ble_eq_true rfl) ?_
    refine Wp.imul dc_X8_thrown_28 ?_
    obtain ⟨x5_29, e_29, hE⟩ := bnS hE
    rw [e_29]
    refine Wp.istore dc_X8_thrown_29 (by decide) ?_
    refine Wp.aload_n dc_X8_thrown_31 rfl ?_
    refine Wp.iload dc_X8_thrown_32 rfl ?_
    obtain ⟨v34, h34, hE⟩ := bnd hE
    refine Wp.cV1i (ok_X0_isIn (by omega) h34) dc_X8_thrown_34 mw_X8_47 (mO0 (by omega)) (by decide) (Nat.le_of_ble_eq_true rfl) ?_
    refine Wp.if_eq (tgt := 60) dc_X8_thrown_37 (by decide) (fun hc37 => ?_) (fun hc37 => ?_)
    · rw [if_pos hc37] at hE
      exact ok_X8_thrown_j60  hr1 hE hS hT
    · rw [if_neg hc37] at hE
      refine Wp.iload dc_X8_thrown_40 rfl ?_
      refine Wp.bipush dc_X8_thrown_42 bp_16 ?_
      refine Wp.iload_n dc_X8_thrown_44 rfl ?_
      refine Wp.imul dc_X8_thrown_45 ?_
      refine Wp.aload_n dc_X8_thrown_46 rfl ?_
      refine Wp.iload dc_X8_thrown_47 rfl ?_
      obtain ⟨v49, h49, hE⟩ := bnd hE
      refine Wp.cV1i (ok_X0_countOn (by omega) h49) dc_X8_thrown_49 mw_X8_73 (mO0 (by omega)) (by decide) (Nat.le_of_ble_eq_true rfl) ?_
      refine Wp.imul dc_X8_thrown_52 ?_
      refine Wp.icmp_ge (tgt := 60) dc_X8_thrown_53 (by decide) (fun hc53 => ?_) (fun hc53 => ?_)
      · rw [if_pos hc53] at hE
        exact ok_X8_thrown_j60  hr1 hE hS hT
      · rw [if_neg hc53] at hE
        refine Wp.iconst dc_X8_thrown_56 ic_1 ?_
        refine Wp.goto (tgt := 61) dc_X8_thrown_57 (by decide) ?_
        exact ok_X8_thrown_j61  hr1 hE hS hT
theorem ok_X8_thrown_l5 {Q : Option AV → AH → Prop}  {σ : SS} {r1 : Nat} {x2 : Int32} {x3 : Int32} {x4 : Int32} {o} {z0 z5 z6 : Option AV}  (hr1 : r1 < 5) (hE : X8_thrown_l5  σ r1 x2 x3 x4 = some o) (hK : Q (some (vi o)) (hp σ)) : Ws 3 mi_X8_thrown Q 5 [z0, some (vr 0 r1), some (vi x2), some (vi x3), some (vi x4), z5, z6] [] σ := by
  unfold X8_thrown_l5 at hE
  obtain ⟨t5, h1, hE⟩ := bnd hE
  refine iter_ok (P := (X8_thrown_P5  Q σ r1 x2)) (R := (X8_thrown_R5  Q σ r1 x2)) (fun ss o h2 hS hT => ?_) NF _ _ h1 ?_ _ _ _
  · intro z0 z5 z6
    exact ok_X8_thrown_l5c  hr1 h2 hS hT
  · intro z0 z1 z2 z4 z5 z6
    show Ws 3 mi_X8_thrown Q 85 [z0, z1, z2, some (vi t5), z4, z5, z6] [] σ
    refine Wp.iload_n dc_X8_thrown_85 rfl ?_
    cases hE
    exact Wp.ireturn dc_X8_thrown_86 rfl rfl (Nat.le_refl _) (Nat.le_refl _) hK
theorem ok_X8_thrown_j0 {Q : Option AV → AH → Prop}  {σ : SS} {r1 : Nat} {x2 : Int32} {o} {z0 z3 z4 z5 z6 : Option AV}  (hr1 : r1 < 5) (hE : X8_thrown_j0  σ r1 x2 = some o) (hK : Q (some (vi o)) (hp σ)) : Ws 3 mi_X8_thrown Q 0 [z0, some (vr 0 r1), some (vi x2), z3, z4, z5, z6] [] σ := by
  unfold X8_thrown_j0 at hE
  refine Wp.iconst dc_X8_thrown_0 ic_0 ?_
  refine Wp.istore_n dc_X8_thrown_1 (by decide) ?_
  refine Wp.iconst dc_X8_thrown_2 ic_0 ?_
  refine Wp.istore dc_X8_thrown_3 (by decide) ?_
  exact ok_X8_thrown_l5  hr1 hE hK
theorem ok_X8_thrown  {σ : SS} {r1 : Nat} {x2 : Int32} {o}  (hr1 : r1 < 5) (hE : X8_thrown  σ r1 x2 = some o) : Runs 3 0 0 mi_X8_thrown [vr 7 0, vr 0 r1, vi x2] (hp σ) (fun v h => v = some (vi o) ∧ h = hp σ) := by
  refine Runs.of pn_X8 (Nat.le_of_ble_eq_true rfl) ?_
  exact ok_X8_thrown_j0  hr1 hE ⟨rfl, rfl⟩
theorem ok_X9_isThere_j0 {Q : Option AV → AH → Prop}  {σ : SS} {t : Nat}  {o}   (ht : t < 5) (hE : X9_isThere_j0  σ t  = some o) (hK : Q (some (vi o)) (hp σ)) : Ws 0 mi_X9_isThere Q 0 [some (vr 8 t)] [] σ := by
  unfold X9_isThere_j0 at hE
  refine Wp.aload_n dc_X9_isThere_0 rfl ?_
  refine Wp.sgetI dc_X9_isThere_1 fw_X9_20 (mO8 (by omega)) ?_
  obtain ⟨b4, h4, hE⟩ := bnd hE
  obtain ⟨e_4, hb4⟩ := zb_some h4
  skip
  cases hE
  exact Wp.ireturn dc_X9_isThere_4 rfl hb4.1 (Nat.le_refl _) (Nat.le_refl _) hK
theorem ok_X9_isThere  {σ : SS} {t : Nat}  {o}  (ht : t < 5) (hE : X9_isThere  σ t  = some o) : Runs 0 0 0 mi_X9_isThere [vr 8 t] (hp σ) (fun v h => v = some (vi o) ∧ h = hp σ) := by
  refine Runs.of pn_X9 (Nat.le_of_ble_eq_true rfl) ?_
  exact ok_X9_isThere_j0  ht hE ⟨rfl, rfl⟩
theorem ok_X9_setThere_j0 {Q : Option AV → AH → Prop}  {σ : SS} {t : Nat}  {o}   (ht : t < 5) (hE : X9_setThere_j0  σ t  = some o) (hK : Q none (hp o)) : Ws 0 mi_X9_setThere Q 0 [some (vr 8 t)] [] σ := by
  unfold X9_setThere_j0 at hE
  refine Wp.aload_n dc_X9_setThere_0 rfl ?_
  refine Wp.iconst dc_X9_setThere_1 ic_1 ?_
  refine Wp.sputI dc_X9_setThere_2 fw_X9_20 (mO8 (by omega)) Nr.z1 ?_
  obtain ⟨σ2, es_2, hE⟩ := bnS hE
  rw [es_2]
  cases hE
  exact Wp.return dc_X9_setThere_5 rfl (Nat.le_refl _) (Nat.le_refl _) hK
theorem ok_X9_setThere  {σ : SS} {t : Nat}  {o}  (ht : t < 5) (hE : X9_setThere  σ t  = some o) : Runs 0 0 0 mi_X9_setThere [vr 8 t] (hp σ) (fun v h => v = none ∧ h = hp o) := by
  refine Runs.of pn_X9 (Nat.le_of_ble_eq_true rfl) ?_
  exact ok_X9_setThere_j0  ht hE ⟨rfl, rfl⟩
theorem ok_X9_stepCount_j0 {Q : Option AV → AH → Prop}  {σ : SS} {t : Nat}  {o}   (ht : t < 5) (hE : X9_stepCount_j0  σ t  = some o) (hK : Q (some (vi o)) (hp σ)) : Ws 0 mi_X9_stepCount Q 0 [some (vr 8 t)] [] σ := by
  unfold X9_stepCount_j0 at hE
  refine Wp.aload_n dc_X9_stepCount_0 rfl ?_
  refine Wp.sgetI dc_X9_stepCount_1 fw_X9_28 (mO8 (by omega)) ?_
  cases hE
  exact Wp.ireturn dc_X9_stepCount_4 rfl rfl (Nat.le_refl _) (Nat.le_refl _) hK
theorem ok_X9_stepCount  {σ : SS} {t : Nat}  {o}  (ht : t < 5) (hE : X9_stepCount  σ t  = some o) : Runs 0 0 0 mi_X9_stepCount [vr 8 t] (hp σ) (fun v h => v = some (vi o) ∧ h = hp σ) := by
  refine Runs.of pn_X9 (Nat.le_of_ble_eq_true rfl) ?_
  exact ok_X9_stepCount_j0  ht hE ⟨rfl, rfl⟩
theorem ok_X9_isFull_j0 {Q : Option AV → AH → Prop}  {σ : SS} {t : Nat}  {o}   (ht : t < 5) (hE : X9_isFull_j0  σ t  = some o) (hK : Q (some (vi o)) (hp σ)) : Ws 0 mi_X9_isFull Q 0 [some (vr 8 t)] [] σ := by
  unfold X9_isFull_j0 at hE
  refine Wp.aload_n dc_X9_isFull_0 rfl ?_
  refine Wp.sgetI dc_X9_isFull_1 fw_X9_28 (mO8 (by omega)) ?_
  refine Wp.bipush dc_X9_isFull_4 bp_30 ?_
  refine Wp.icmp_lt (tgt := 13) dc_X9_isFull_6 (by decide) (fun hc6 => ?_) (fun hc6 => ?_)
  · rw [if_pos hc6] at hE
    refine Wp.iconst dc_X9_isFull_13 ic_0 ?_
    cases hE
    exact Wp.ireturn dc_X9_isFull_14 rfl Nr.z0.1 (Nat.le_refl _) (Nat.le_refl _) hK
  · rw [if_neg hc6] at hE
    refine Wp.iconst dc_X9_isFull_9 ic_1 ?_
    refine Wp.goto (tgt := 14) dc_X9_isFull_10 (by decide) ?_
    cases hE
    exact Wp.ireturn dc_X9_isFull_14 rfl Nr.z1.1 (Nat.le_refl _) (Nat.le_refl _) hK
theorem ok_X9_isFull  {σ : SS} {t : Nat}  {o}  (ht : t < 5) (hE : X9_isFull  σ t  = some o) : Runs 0 0 0 mi_X9_isFull [vr 8 t] (hp σ) (fun v h => v = some (vi o) ∧ h = hp σ) := by
  refine Runs.of pn_X9 (Nat.le_of_ble_eq_true rfl) ?_
  exact ok_X9_isFull_j0  ht hE ⟨rfl, rfl⟩
theorem ok_X9_addStep_j0 {Q : Option AV → AH → Prop}  {σ : SS} {t : Nat} {x1 : Int32} {x2 : Int32} {x3 : Int32} {o}   (ht : t < 5) (hE : X9_addStep_j0  σ t x1 x2 x3 = some o) (hK : Q none (hp o)) : Ws 1 mi_X9_addStep Q 0 [some (vr 8 t), some (vi x1), some (vi x2), some (vi x3)] [] σ := by
  unfold X9_addStep_j0 at hE
  refine Wp.aload_n dc_X9_addStep_0 rfl ?_
  refine Wp.sgetR (t := (4 * t)) dc_X9_addStep_1 fw_X9_16 (mO8 (by omega)) rfl ?_
  refine Wp.iconst dc_X9_addStep_4 ic_0 ?_
  refine Wp.aload_n dc_X9_addStep_5 rfl ?_
  refine Wp.sgetI dc_X9_addStep_6 fw_X9_24 (mO8 (by omega)) ?_
  refine Wp.iload_n dc_X9_addStep_9 rfl ?_
  obtain ⟨σ10, h10, hE⟩ := bnd hE
  refine Wp.cV3v (ok_X4_put (by omega) h10) dc_X9_addStep_10 mw_X9_35 (mO3 (by omega)) (by decide) (Nat.le_of_ble_eq_true rfl) ?_
  refine Wp.aload_n dc_X9_addStep_13 rfl ?_
  refine Wp.sgetR (t := (4 * t)) dc_X9_addStep_14 fw_X9_16 (mO8 (by omega)) rfl ?_
  refine Wp.iconst dc_X9_addStep_17 ic_1 ?_
  refine Wp.aload_n dc_X9_addStep_18 rfl ?_
  refine Wp.sgetI dc_X9_addStep_19 fw_X9_24 (mO8 (by omega)) ?_
  refine Wp.iload_n dc_X9_addStep_22 rfl ?_
  obtain ⟨σ23, h23, hE⟩ := bnd hE
  refine Wp.cV3v (ok_X4_put (by omega) h23) dc_X9_addStep_23 mw_X9_35 (mO3 (by omega)) (by decide) (Nat.le_of_ble_eq_true rfl) ?_
  refine Wp.aload_n dc_X9_addStep_26 rfl ?_
  refine Wp.sgetR (t := (4 * t)) dc_X9_addStep_27 fw_X9_16 (mO8 (by omega)) rfl ?_
  refine Wp.iconst dc_X9_addStep_30 ic_2 ?_
  refine Wp.aload_n dc_X9_addStep_31 rfl ?_
  refine Wp.sgetI dc_X9_addStep_32 fw_X9_24 (mO8 (by omega)) ?_
  refine Wp.iload_n dc_X9_addStep_35 rfl ?_
  obtain ⟨σ36, h36, hE⟩ := bnd hE
  refine Wp.cV3v (ok_X4_put (by omega) h36) dc_X9_addStep_36 mw_X9_35 (mO3 (by omega)) (by decide) (Nat.le_of_ble_eq_true rfl) ?_
  refine Wp.aload_n dc_X9_addStep_39 rfl ?_
  refine Wp.sgetR (t := (4 * t)) dc_X9_addStep_40 fw_X9_16 (mO8 (by omega)) rfl ?_
  refine Wp.iconst dc_X9_addStep_43 ic_3 ?_
  refine Wp.aload_n dc_X9_addStep_44 rfl ?_
  refine Wp.sgetI dc_X9_addStep_45 fw_X9_24 (mO8 (by omega)) ?_
  refine Wp.iconst dc_X9_addStep_48 ic_m1 ?_
  obtain ⟨σ49, h49, hE⟩ := bnd hE
  refine Wp.cV3v (ok_X4_put (by omega) h49) dc_X9_addStep_49 mw_X9_35 (mO3 (by omega)) (by decide) (Nat.le_of_ble_eq_true rfl) ?_
  refine Wp.aload_n dc_X9_addStep_52 rfl ?_
  refine Wp.dup dc_X9_addStep_53 rfl ?_
  refine Wp.sgetI dc_X9_addStep_54 fw_X9_24 (mO8 (by omega)) ?_
  refine Wp.iconst dc_X9_addStep_57 ic_1 ?_
  refine Wp.iadd dc_X9_addStep_58 ?_
  refine Wp.sputI dc_X9_addStep_59 fw_X9_24 (mO8 (by omega)) (Nr.i _) ?_
  obtain ⟨σ59, es_59, hE⟩ := bnS hE
  rw [es_59]
  refine Wp.aload_n dc_X9_addStep_62 rfl ?_
  refine Wp.dup dc_X9_addStep_63 rfl ?_
  refine Wp.sgetI dc_X9_addStep_64 fw_X9_28 (mO8 (by omega)) ?_
  refine Wp.iconst dc_X9_addStep_67 ic_1 ?_
  refine Wp.iadd dc_X9_addStep_68 ?_
  refine Wp.sputI dc_X9_addStep_69 fw_X9_28 (mO8 (by omega)) (Nr.i _) ?_
  obtain ⟨σ69, es_69, hE⟩ := bnS hE
  rw [es_69]
  cases hE
  exact Wp.return dc_X9_addStep_72 rfl (Nat.le_refl _) (Nat.le_refl _) hK
theorem ok_X9_addStep  {σ : SS} {t : Nat} {x1 : Int32} {x2 : Int32} {x3 : Int32} {o}  (ht : t < 5) (hE : X9_addStep  σ t x1 x2 x3 = some o) : Runs 1 0 0 mi_X9_addStep [vr 8 t, vi x1, vi x2, vi x3] (hp σ) (fun v h => v = none ∧ h = hp o) := by
  refine Runs.of pn_X9 (Nat.le_of_ble_eq_true rfl) ?_
  exact ok_X9_addStep_j0  ht hE ⟨rfl, rfl⟩
theorem ok_X9_addEnd_j0 {Q : Option AV → AH → Prop}  {σ : SS} {t : Nat} {x1 : Int32} {o}   (ht : t < 5) (hE : X9_addEnd_j0  σ t x1 = some o) (hK : Q none (hp o)) : Ws 1 mi_X9_addEnd Q 0 [some (vr 8 t), some (vi x1)] [] σ := by
  unfold X9_addEnd_j0 at hE
  refine Wp.aload_n dc_X9_addEnd_0 rfl ?_
  refine Wp.sgetR (t := (4 * t)) dc_X9_addEnd_1 fw_X9_16 (mO8 (by omega)) rfl ?_
  refine Wp.iconst dc_X9_addEnd_4 ic_0 ?_
  refine Wp.aload_n dc_X9_addEnd_5 rfl ?_
  refine Wp.sgetI dc_X9_addEnd_6 fw_X9_24 (mO8 (by omega)) ?_
  refine Wp.bipush dc_X9_addEnd_9 bp_22 ?_
  obtain ⟨σ11, h11, hE⟩ := bnd hE
  refine Wp.cV3v (ok_X4_put (by omega) h11) dc_X9_addEnd_11 mw_X9_35 (mO3 (by omega)) (by decide) (Nat.le_of_ble_eq_true rfl) ?_
  refine Wp.aload_n dc_X9_addEnd_14 rfl ?_
  refine Wp.sgetR (t := (4 * t)) dc_X9_addEnd_15 fw_X9_16 (mO8 (by omega)) rfl ?_
  refine Wp.iconst dc_X9_addEnd_18 ic_3 ?_
  refine Wp.aload_n dc_X9_addEnd_19 rfl ?_
  refine Wp.sgetI dc_X9_addEnd_20 fw_X9_24 (mO8 (by omega)) ?_
  refine Wp.iload_n dc_X9_addEnd_23 rfl ?_
  obtain ⟨σ24, h24, hE⟩ := bnd hE
  refine Wp.cV3v (ok_X4_put (by omega) h24) dc_X9_addEnd_24 mw_X9_35 (mO3 (by omega)) (by decide) (Nat.le_of_ble_eq_true rfl) ?_
  refine Wp.aload_n dc_X9_addEnd_27 rfl ?_
  refine Wp.sgetR (t := (4 * t)) dc_X9_addEnd_28 fw_X9_16 (mO8 (by omega)) rfl ?_
  refine Wp.iconst dc_X9_addEnd_31 ic_3 ?_
  refine Wp.iload_n dc_X9_addEnd_32 rfl ?_
  refine Wp.aload_n dc_X9_addEnd_33 rfl ?_
  refine Wp.sgetI dc_X9_addEnd_34 fw_X9_24 (mO8 (by omega)) ?_
  obtain ⟨σ37, h37, hE⟩ := bnd hE
  refine Wp.cV3v (ok_X4_put (by omega) h37) dc_X9_addEnd_37 mw_X9_35 (mO3 (by omega)) (by decide) (Nat.le_of_ble_eq_true rfl) ?_
  refine Wp.aload_n dc_X9_addEnd_40 rfl ?_
  refine Wp.dup dc_X9_addEnd_41 rfl ?_
  refine Wp.sgetI dc_X9_addEnd_42 fw_X9_24 (mO8 (by omega)) ?_
  refine Wp.iconst dc_X9_addEnd_45 ic_1 ?_
  refine Wp.iadd dc_X9_addEnd_46 ?_
  refine Wp.sputI dc_X9_addEnd_47 fw_X9_24 (mO8 (by omega)) (Nr.i _) ?_
  obtain ⟨σ47, es_47, hE⟩ := bnS hE
  rw [es_47]
  cases hE
  exact Wp.return dc_X9_addEnd_50 rfl (Nat.le_refl _) (Nat.le_refl _) hK
theorem ok_X9_addEnd  {σ : SS} {t : Nat} {x1 : Int32} {o}  (ht : t < 5) (hE : X9_addEnd  σ t x1 = some o) : Runs 1 0 0 mi_X9_addEnd [vr 8 t, vi x1] (hp σ) (fun v h => v = none ∧ h = hp o) := by
  refine Runs.of pn_X9 (Nat.le_of_ble_eq_true rfl) ?_
  exact ok_X9_addEnd_j0  ht hE ⟨rfl, rfl⟩
theorem ok_X10_endLine_j0 {Q : Option AV → AH → Prop}  {σ : SS} {r1 : Nat}  {o}   (hr1 : r1 < 5) (hE : X10_endLine_j0  σ r1  = some o) (hK : Q (some (vi o.1)) (hp o.2)) : Ws 9 mi_X10_endLine Q 0 [some (vr 9 0), some (vr 8 r1)] [] σ := by
  unfold X10_endLine_j0 at hE
  refine Wp.aload_n dc_X10_endLine_0 rfl ?_
  refine Wp.sgetI dc_X10_endLine_1 fw_X10_32 (mO9 (by decide)) ?_
  refine Wp.if_ne (tgt := 16) dc_X10_endLine_4 (by decide) (fun hc4 => ?_) (fun hc4 => ?_)
  · rw [if_neg hc4] at hE
    refine Wp.aload_n dc_X10_endLine_16 rfl ?_
    refine Wp.sgetR (t := 0) dc_X10_endLine_17 fw_X10_20 (mO9 (by decide)) rfl ?_
    obtain ⟨σ20, h20, hE⟩ := bnd hE
    refine Wp.cV0v (ok_X5_next  h20) dc_X10_endLine_20 mw_X10_57 (mO4 (by decide)) (by decide) (Nat.le_of_ble_eq_true rfl) ?_
    refine Wp.aload_n dc_X10_endLine_23 rfl ?_
    refine Wp.dup dc_X10_endLine_24 rfl ?_
    refine Wp.sgetI dc_X10_endLine_25 fw_X10_32 (mO9 (by decide)) ?_
    refine Wp.iconst dc_X10_endLine_28 ic_1 ?_
    refine Wp.isub dc_X10_endLine_29 ?_
    refine Wp.sputI dc_X10_endLine_30 fw_X10_32 (mO9 (by decide)) (Nr.i _) ?_
    obtain ⟨σ30, es_30, hE⟩ := bnS hE
    rw [es_30]
    refine Wp.aload_n dc_X10_endLine_33 rfl ?_
    refine Wp.aload_n dc_X10_endLine_34 rfl ?_
    refine Wp.sgetR (t := 21) dc_X10_endLine_35 fw_X10_16 (mO9 (by decide)) rfl ?_
    refine Wp.iconst dc_X10_endLine_38 ic_0 ?_
    refine Wp.aload_n dc_X10_endLine_39 rfl ?_
    refine Wp.sgetI dc_X10_endLine_40 fw_X10_32 (mO9 (by decide)) ?_
    obtain ⟨v43, h43, hE⟩ := bnd hE
    refine Wp.cV2i (ok_X4_at (by decide) h43) dc_X10_endLine_43 mw_X10_60 (mO3 (by decide)) (by decide) (Nat.le_of_ble_eq_true rfl) ?_
    obtain ⟨σ46, h46, hE⟩ := bnd hE
    refine Wp.cV1v (ok_X9_addEnd (by omega) h46) dc_X10_endLine_46 mw_X10_64 (mO8 (by omega)) (by decide) (Nat.le_of_ble_eq_true rfl) ?_
    refine Wp.aload_n dc_X10_endLine_49 rfl ?_
    refine Wp.sgetR (t := 0) dc_X10_endLine_50 fw_X10_20 (mO9 (by decide)) rfl ?_
    refine Wp.bipush dc_X10_endLine_53 bp_59 ?_
    obtain ⟨p55, h55, hE⟩ := bnd hE
    refine Wp.cV1i (ok_X5_passSign  h55) dc_X10_endLine_55 mw_X10_68 (mO4 (by decide)) (by decide) (Nat.le_of_ble_eq_true rfl) ?_
    obtain ⟨b58, h58, hE⟩ := bnd hE
    obtain ⟨e_58, hb58⟩ := zb_some h58
    skip
    cases hE
    exact Wp.ireturn dc_X10_endLine_58 rfl hb58.1 (Nat.le_refl _) (Nat.le_refl _) hK
  · rw [if_pos hc4] at hE
    refine Wp.aload_n dc_X10_endLine_7 rfl ?_
    refine Wp.sgetR (t := 0) dc_X10_endLine_8 fw_X10_20 (mO9 (by decide)) rfl ?_
    refine Wp.iconst dc_X10_endLine_11 ic_2 ?_
    obtain ⟨p12, h12, hE⟩ := bnd hE
    refine Wp.cV1i (ok_X5_fail  h12) dc_X10_endLine_12 mw_X10_54 (mO4 (by decide)) (by decide) (Nat.le_of_ble_eq_true rfl) ?_
    obtain ⟨b15, h15, hE⟩ := bnd hE
    obtain ⟨e_15, hb15⟩ := zb_some h15
    skip
    cases hE
    exact Wp.ireturn dc_X10_endLine_15 rfl hb15.1 (Nat.le_refl _) (Nat.le_refl _) hK
theorem ok_X10_endLine  {σ : SS} {r1 : Nat}  {o}  (hr1 : r1 < 5) (hE : X10_endLine  σ r1  = some o) : Runs 9 0 0 mi_X10_endLine [vr 9 0, vr 8 r1] (hp σ) (fun v h => v = some (vi o.1) ∧ h = hp o.2) := by
  refine Runs.of pn_X10 (Nat.le_of_ble_eq_true rfl) ?_
  exact ok_X10_endLine_j0  hr1 hE ⟨rfl, rfl⟩
theorem ok_X10_namesLead_j24 {Q : Option AV → AH → Prop}  {σ : SS}   {o} {z0 : Option AV}   (hE : X10_namesLead_j24  σ   = some o) (hK : Q (some (vi o)) (hp σ)) : Ws 0 mi_X10_namesLead Q 24 [z0] [] σ := by
  unfold X10_namesLead_j24 at hE
  refine Wp.iconst dc_X10_namesLead_24 ic_1 ?_
  refine Wp.goto (tgt := 29) dc_X10_namesLead_25 (by decide) ?_
  cases hE
  exact Wp.ireturn dc_X10_namesLead_29 rfl Nr.z1.1 (Nat.le_refl _) (Nat.le_refl _) hK
theorem ok_X10_namesLead_j0 {Q : Option AV → AH → Prop}  {σ : SS}  {x0 : Int32} {o}    (hE : X10_namesLead_j0  σ  x0 = some o) (hK : Q (some (vi o)) (hp σ)) : Ws 0 mi_X10_namesLead Q 0 [some (vi x0)] [] σ := by
  unfold X10_namesLead_j0 at hE
  refine Wp.iload_n dc_X10_namesLead_0 rfl ?_
  refine Wp.bipush dc_X10_namesLead_1 bp_13 ?_
  refine Wp.icmp_eq (tgt := 24) dc_X10_namesLead_3 (by decide) (fun hc3 => ?_) (fun hc3 => ?_)
  · rw [if_pos hc3] at hE
    exact ok_X10_namesLead_j24   hE hK
  · rw [if_neg hc3] at hE
    refine Wp.iload_n dc_X10_namesLead_6 rfl ?_
    refine Wp.bipush dc_X10_namesLead_7 bp_15 ?_
    refine Wp.icmp_eq (tgt := 24) dc_X10_namesLead_9 (by decide) (fun hc9 => ?_) (fun hc9 => ?_)
    · rw [if_pos hc9] at hE
      exact ok_X10_namesLead_j24   hE hK
    · rw [if_neg hc9] at hE
      refine Wp.iload_n dc_X10_namesLead_12 rfl ?_
      refine Wp.bipush dc_X10_namesLead_13 bp_17 ?_
      refine Wp.icmp_eq (tgt := 24) dc_X10_namesLead_15 (by decide) (fun hc15 => ?_) (fun hc15 => ?_)
      · rw [if_pos hc15] at hE
        exact ok_X10_namesLead_j24   hE hK
      · rw [if_neg hc15] at hE
        refine Wp.iload_n dc_X10_namesLead_18 rfl ?_
        refine Wp.bipush dc_X10_namesLead_19 bp_6 ?_
        refine Wp.icmp_ne (tgt := 28) dc_X10_namesLead_21 (by decide) (fun hc21 => ?_) (fun hc21 => ?_)
        · rw [if_neg hc21] at hE
          refine Wp.iconst dc_X10_namesLead_28 ic_0 ?_
          cases hE
          exact Wp.ireturn dc_X10_namesLead_29 rfl Nr.z0.1 (Nat.le_refl _) (Nat.le_refl _) hK
        · rw [if_pos hc21] at hE
          exact ok_X10_namesLead_j24   hE hK
theorem ok_X10_namesLead  {σ : SS}  {x0 : Int32} {o}   (hE : X10_namesLead  σ  x0 = some o) : Runs 0 0 0 mi_X10_namesLead [vi x0] (hp σ) (fun v h => v = some (vi o) ∧ h = hp σ) := by
  refine Runs.of pn_X10 (Nat.le_of_ble_eq_true rfl) ?_
  exact ok_X10_namesLead_j0   hE ⟨rfl, rfl⟩
theorem ok_X10_isPlainStep_j25 {Q : Option AV → AH → Prop}  {σ : SS}   {o} {z0 : Option AV}   (hE : X10_isPlainStep_j25  σ   = some o) (hK : Q (some (vi o)) (hp σ)) : Ws 1 mi_X10_isPlainStep Q 25 [z0] [] σ := by
  unfold X10_isPlainStep_j25 at hE
  refine Wp.iconst dc_X10_isPlainStep_25 ic_1 ?_
  refine Wp.goto (tgt := 30) dc_X10_isPlainStep_26 (by decide) ?_
  cases hE
  exact Wp.ireturn dc_X10_isPlainStep_30 rfl Nr.z1.1 (Nat.le_refl _) (Nat.le_refl _) hK
theorem ok_X10_isPlainStep_j0 {Q : Option AV → AH → Prop}  {σ : SS}  {x0 : Int32} {o}    (hE : X10_isPlainStep_j0  σ  x0 = some o) (hK : Q (some (vi o)) (hp σ)) : Ws 1 mi_X10_isPlainStep Q 0 [some (vi x0)] [] σ := by
  unfold X10_isPlainStep_j0 at hE
  refine Wp.iload_n dc_X10_isPlainStep_0 rfl ?_
  refine Wp.bipush dc_X10_isPlainStep_1 bp_12 ?_
  refine Wp.icmp_eq (tgt := 25) dc_X10_isPlainStep_3 (by decide) (fun hc3 => ?_) (fun hc3 => ?_)
  · rw [if_pos hc3] at hE
    exact ok_X10_isPlainStep_j25   hE hK
  · rw [if_neg hc3] at hE
    refine Wp.iload_n dc_X10_isPlainStep_6 rfl ?_
    refine Wp.bipush dc_X10_isPlainStep_7 bp_14 ?_
    refine Wp.icmp_eq (tgt := 25) dc_X10_isPlainStep_9 (by decide) (fun hc9 => ?_) (fun hc9 => ?_)
    · rw [if_pos hc9] at hE
      exact ok_X10_isPlainStep_j25   hE hK
    · rw [if_neg hc9] at hE
      refine Wp.iload_n dc_X10_isPlainStep_12 rfl ?_
      refine Wp.bipush dc_X10_isPlainStep_13 bp_23 ?_
      refine Wp.icmp_eq (tgt := 25) dc_X10_isPlainStep_15 (by decide) (fun hc15 => ?_) (fun hc15 => ?_)
      · rw [if_pos hc15] at hE
        exact ok_X10_isPlainStep_j25   hE hK
      · rw [if_neg hc15] at hE
        refine Wp.iload_n dc_X10_isPlainStep_18 rfl ?_
        obtain ⟨v19, h19, hE⟩ := bnd hE
        refine Wp.cS1i (ok_X10_namesLead  h19) dc_X10_isPlainStep_19 mw_X10_95 (by decide) (Nat.le_of_ble_eq_true rfl) ?_
        refine Wp.if_eq (tgt := 29) dc_X10_isPlainStep_22 (by decide) (fun hc22 => ?_) (fun hc22 => ?_)
        · rw [if_pos hc22] at hE
          refine Wp.iconst dc_X10_isPlainStep_29 ic_0 ?_
          cases hE
          exact Wp.ireturn dc_X10_isPlainStep_30 rfl Nr.z0.1 (Nat.le_refl _) (Nat.le_refl _) hK
        · rw [if_neg hc22] at hE
          exact ok_X10_isPlainStep_j25   hE hK
theorem ok_X10_isPlainStep  {σ : SS}  {x0 : Int32} {o}   (hE : X10_isPlainStep  σ  x0 = some o) : Runs 1 0 0 mi_X10_isPlainStep [vi x0] (hp σ) (fun v h => v = some (vi o) ∧ h = hp σ) := by
  refine Runs.of pn_X10 (Nat.le_of_ble_eq_true rfl) ?_
  exact ok_X10_isPlainStep_j0   hE ⟨rfl, rfl⟩
theorem ok_X10_passLead_j0 {Q : Option AV → AH → Prop}  {σ : SS} {r1 : Nat}  {o} {z2 : Option AV}  (hr1 : r1 < 5) (hE : X10_passLead_j0  σ r1  = some o) (hK : Q (some (vi o.1)) (hp o.2)) : Ws 8 mi_X10_passLead Q 0 [some (vr 9 0), some (vr 0 r1), z2] [] σ := by
  unfold X10_passLead_j0 at hE
  refine Wp.aload_n dc_X10_passLead_0 rfl ?_
  refine Wp.sgetR (t := 0) dc_X10_passLead_1 fw_X10_20 (mO9 (by decide)) rfl ?_
  obtain ⟨v4, h4, hE⟩ := bnd hE
  refine Wp.cV0i (ok_X5_nameStands  h4) dc_X10_passLead_4 mw_X10_113 (mO4 (by decide)) (by decide) (Nat.le_of_ble_eq_true rfl) ?_
  refine Wp.if_ne (tgt := 21) dc_X10_passLead_7 (by decide) (fun hc7 => ?_) (fun hc7 => ?_)
  · rw [if_neg hc7] at hE
    refine Wp.aload_n dc_X10_passLead_21 rfl ?_
    refine Wp.aload_n dc_X10_passLead_22 rfl ?_
    refine Wp.sgetR (t := 0) dc_X10_passLead_23 fw_X10_20 (mO9 (by decide)) rfl ?_
    obtain ⟨v26, h26, hE⟩ := bnd hE
    refine Wp.cV0l (ok_X5_name  h26) dc_X10_passLead_26 mw_X10_116 (mO4 (by decide)) (by decide) (Nat.le_of_ble_eq_true rfl) ?_
    obtain ⟨v29, h29, hE⟩ := bnd hE
    refine Wp.cV1i (ok_X0_leadNamed (by omega) h29) dc_X10_passLead_29 mw_X10_120 (mO0 (by omega)) (by decide) (Nat.le_of_ble_eq_true rfl) ?_
    refine Wp.istore_n dc_X10_passLead_32 (by decide) ?_
    refine Wp.iload_n dc_X10_passLead_33 rfl ?_
    refine Wp.iconst dc_X10_passLead_34 ic_m1 ?_
    refine Wp.icmp_ne (tgt := 49) dc_X10_passLead_35 (by decide) (fun hc35 => ?_) (fun hc35 => ?_)
    · rw [if_neg hc35] at hE
      refine Wp.aload_n dc_X10_passLead_49 rfl ?_
      refine Wp.sgetR (t := 0) dc_X10_passLead_50 fw_X10_20 (mO9 (by decide)) rfl ?_
      obtain ⟨σ53, h53, hE⟩ := bnd hE
      refine Wp.cV0v (ok_X5_next  h53) dc_X10_passLead_53 mw_X10_57 (mO4 (by decide)) (by decide) (Nat.le_of_ble_eq_true rfl) ?_
      refine Wp.iload_n dc_X10_passLead_56 rfl ?_
      cases hE
      exact Wp.ireturn dc_X10_passLead_57 rfl rfl (Nat.le_refl _) (Nat.le_refl _) hK
    · rw [if_pos hc35] at hE
      refine Wp.aload_n dc_X10_passLead_38 rfl ?_
      refine Wp.sgetR (t := 0) dc_X10_passLead_39 fw_X10_20 (mO9 (by decide)) rfl ?_
      refine Wp.iconst dc_X10_passLead_42 ic_3 ?_
      obtain ⟨p43, h43, hE⟩ := bnd hE
      refine Wp.cV1i (ok_X5_fail  h43) dc_X10_passLead_43 mw_X10_54 (mO4 (by decide)) (by decide) (Nat.le_of_ble_eq_true rfl) ?_
      refine Wp.pop dc_X10_passLead_46 rfl ?_
      refine Wp.iconst dc_X10_passLead_47 ic_m1 ?_
      cases hE
      exact Wp.ireturn dc_X10_passLead_48 rfl rfl (Nat.le_refl _) (Nat.le_refl _) hK
  · rw [if_pos hc7] at hE
    refine Wp.aload_n dc_X10_passLead_10 rfl ?_
    refine Wp.sgetR (t := 0) dc_X10_passLead_11 fw_X10_20 (mO9 (by decide)) rfl ?_
    refine Wp.iconst dc_X10_passLead_14 ic_2 ?_
    obtain ⟨p15, h15, hE⟩ := bnd hE
    refine Wp.cV1i (ok_X5_fail  h15) dc_X10_passLead_15 mw_X10_54 (mO4 (by decide)) (by decide) (Nat.le_of_ble_eq_true rfl) ?_
    refine Wp.pop dc_X10_passLead_18 rfl ?_
    refine Wp.iconst dc_X10_passLead_19 ic_m1 ?_
    cases hE
    exact Wp.ireturn dc_X10_passLead_20 rfl rfl (Nat.le_refl _) (Nat.le_refl _) hK
theorem ok_X10_passLead  {σ : SS} {r1 : Nat}  {o}  (hr1 : r1 < 5) (hE : X10_passLead  σ r1  = some o) : Runs 8 0 0 mi_X10_passLead [vr 9 0, vr 0 r1] (hp σ) (fun v h => v = some (vi o.1) ∧ h = hp o.2) := by
  refine Runs.of pn_X10 (Nat.le_of_ble_eq_true rfl) ?_
  exact ok_X10_passLead_j0  hr1 hE ⟨rfl, rfl⟩
theorem ok_X10_testStep_j138 {Q : Option AV → AH → Prop}  {σ : SS} {r1 : Nat} {r2 : Nat} {x3 : Int32} {x4 : Int32} {s0 : Int32} {o} {z0 z1 z5 : Option AV}  (hr1 : r1 < 5) (hr2 : r2 < 5) (hE : X10_testStep_j138  σ r1 r2 x3 x4 s0 = some o) (hK : Q (some (vi o.1)) (hp o.2)) : Ws 9 mi_X10_testStep Q 138 [z0, z1, some (vr 8 r2), some (vi x3), some (vi x4), z5] [vi s0] σ := by
  unfold X10_testStep_j138 at hE
  refine Wp.istore dc_X10_testStep_138 (by decide) ?_
  refine Wp.aload_n dc_X10_testStep_140 rfl ?_
  refine Wp.iload_n dc_X10_testStep_141 rfl ?_
  refine Wp.iload dc_X10_testStep_142 rfl ?_
  refine Wp.iload dc_X10_testStep_144 rfl ?_
  obtain ⟨σ146, h146, hE⟩ := bnd hE
  refine Wp.cV3v (ok_X9_addStep (by omega) h146) dc_X10_testStep_146 mw_X10_105 (mO8 (by omega)) (by decide) (Nat.le_of_ble_eq_true rfl) ?_
  refine Wp.iload dc_X10_testStep_149 rfl ?_
  refine Wp.iconst dc_X10_testStep_151 ic_m1 ?_
  refine Wp.icmp_eq (tgt := 159) dc_X10_testStep_152 (by decide) (fun hc152 => ?_) (fun hc152 => ?_)
  · rw [if_pos hc152] at hE
    refine Wp.iconst dc_X10_testStep_159 ic_0 ?_
    cases hE
    exact Wp.ireturn dc_X10_testStep_160 rfl Nr.z0.1 (Nat.le_refl _) (Nat.le_refl _) hK
  · rw [if_neg hc152] at hE
    refine Wp.iconst dc_X10_testStep_155 ic_1 ?_
    refine Wp.goto (tgt := 160) dc_X10_testStep_156 (by decide) ?_
    cases hE
    exact Wp.ireturn dc_X10_testStep_160 rfl Nr.z1.1 (Nat.le_refl _) (Nat.le_refl _) hK
theorem ok_X10_testStep_j135 {Q : Option AV → AH → Prop}  {σ : SS} {r1 : Nat} {r2 : Nat} {x3 : Int32} {x4 : Int32} {s1 : Int32} {s2 : Int32} {o} {z0 z1 z5 : Option AV}  (hr1 : r1 < 5) (hr2 : r2 < 5) (hE : X10_testStep_j135  σ r1 r2 x3 x4 s1 s2 = some o) (hK : Q (some (vi o.1)) (hp o.2)) : Ws 9 mi_X10_testStep Q 135 [z0, z1, some (vr 8 r2), some (vi x3), some (vi x4), z5] [vi s2, vi s1, vr 4 0] σ := by
  unfold X10_testStep_j135 at hE
  obtain ⟨p135, h135, hE⟩ := bnd hE
  refine Wp.cV2i (ok_X5_passNumber  h135) dc_X10_testStep_135 mw_X10_98 (mO4 (by decide)) (by decide) (Nat.le_of_ble_eq_true rfl) ?_
  exact ok_X10_testStep_j138  hr1 hr2 hE hK
theorem ok_X10_testStep_j103 {Q : Option AV → AH → Prop}  {σ : SS} {r1 : Nat} {r2 : Nat} {x3 : Int32} {x4 : Int32} {o} {z5 : Option AV}  (hr1 : r1 < 5) (hr2 : r2 < 5) (hE : X10_testStep_j103  σ r1 r2 x3 x4 = some o) (hK : Q (some (vi o.1)) (hp o.2)) : Ws 9 mi_X10_testStep Q 103 [some (vr 9 0), some (vr 0 r1), some (vr 8 r2), some (vi x3), some (vi x4), z5] [] σ := by
  unfold X10_testStep_j103 at hE
  refine Wp.iload_n dc_X10_testStep_103 rfl ?_
  refine Wp.bipush dc_X10_testStep_104 bp_20 ?_
  refine Wp.icmp_ne (tgt := 117) dc_X10_testStep_106 (by decide) (fun hc106 => ?_) (fun hc106 => ?_)
  · rw [if_neg hc106] at hE
    refine Wp.aload_n dc_X10_testStep_117 rfl ?_
    refine Wp.sgetR (t := 0) dc_X10_testStep_118 fw_X10_20 (mO9 (by decide)) rfl ?_
    refine Wp.iconst dc_X10_testStep_121 ic_0 ?_
    refine Wp.iload_n dc_X10_testStep_122 rfl ?_
    refine Wp.bipush dc_X10_testStep_123 bp_19 ?_
    refine Wp.icmp_ne (tgt := 133) dc_X10_testStep_125 (by decide) (fun hc125 => ?_) (fun hc125 => ?_)
    · rw [if_neg hc125] at hE
      refine Wp.bipush dc_X10_testStep_133 bp_24 ?_
      exact ok_X10_testStep_j135  hr1 hr2 hE hK
    · rw [if_pos hc125] at hE
      refine Wp.bipush dc_X10_testStep_128 bp_8 ?_
      refine Wp.goto (tgt := 135) dc_X10_testStep_130 (by decide) ?_
      exact ok_X10_testStep_j135  hr1 hr2 hE hK
  · rw [if_pos hc106] at hE
    refine Wp.aload_n dc_X10_testStep_109 rfl ?_
    refine Wp.aload_n dc_X10_testStep_110 rfl ?_
    obtain ⟨p111, h111, hE⟩ := bnd hE
    refine Wp.cV1i (ok_X10_passLead (by omega) h111) dc_X10_testStep_111 mw_X10_101 (mO9 (by decide)) (by decide) (Nat.le_of_ble_eq_true rfl) ?_
    refine Wp.goto (tgt := 138) dc_X10_testStep_114 (by decide) ?_
    exact ok_X10_testStep_j138  hr1 hr2 hE hK
theorem ok_X10_testStep_j87 {Q : Option AV → AH → Prop}  {σ : SS} {r1 : Nat} {r2 : Nat} {x3 : Int32} {s0 : Int32} {o} {z4 z5 : Option AV}  (hr1 : r1 < 5) (hr2 : r2 < 5) (hE : X10_testStep_j87  σ r1 r2 x3 s0 = some o) (hK : Q (some (vi o.1)) (hp o.2)) : Ws 9 mi_X10_testStep Q 87 [some (vr 9 0), some (vr 0 r1), some (vr 8 r2), some (vi x3), z4, z5] [vi s0] σ := by
  unfold X10_testStep_j87 at hE
  refine Wp.istore dc_X10_testStep_87 (by decide) ?_
  refine Wp.aload_n dc_X10_testStep_89 rfl ?_
  refine Wp.sgetR (t := 0) dc_X10_testStep_90 fw_X10_20 (mO9 (by decide)) rfl ?_
  refine Wp.iload dc_X10_testStep_93 rfl ?_
  obtain ⟨p95, h95, hE⟩ := bnd hE
  refine Wp.cV1i (ok_X5_passSign  h95) dc_X10_testStep_95 mw_X10_68 (mO4 (by decide)) (by decide) (Nat.le_of_ble_eq_true rfl) ?_
  refine Wp.if_ne (tgt := 103) dc_X10_testStep_98 (by decide) (fun hc98 => ?_) (fun hc98 => ?_)
  · rw [if_neg hc98] at hE
    exact ok_X10_testStep_j103  hr1 hr2 hE hK
  · rw [if_pos hc98] at hE
    refine Wp.iconst dc_X10_testStep_101 ic_0 ?_
    cases hE
    exact Wp.ireturn dc_X10_testStep_102 rfl Nr.z0.1 (Nat.le_refl _) (Nat.le_refl _) hK
theorem ok_X10_testStep_j35 {Q : Option AV → AH → Prop}  {σ : SS} {r1 : Nat} {r2 : Nat} {x3 : Int32} {o} {z4 z5 : Option AV}  (hr1 : r1 < 5) (hr2 : r2 < 5) (hE : X10_testStep_j35  σ r1 r2 x3 = some o) (hK : Q (some (vi o.1)) (hp o.2)) : Ws 9 mi_X10_testStep Q 35 [some (vr 9 0), some (vr 0 r1), some (vr 8 r2), some (vi x3), z4, z5] [] σ := by
  unfold X10_testStep_j35 at hE
  refine Wp.aload_n dc_X10_testStep_35 rfl ?_
  refine Wp.sgetR (t := 0) dc_X10_testStep_36 fw_X10_20 (mO9 (by decide)) rfl ?_
  obtain ⟨σ39, h39, hE⟩ := bnd hE
  refine Wp.cV0v (ok_X5_next  h39) dc_X10_testStep_39 mw_X10_57 (mO4 (by decide)) (by decide) (Nat.le_of_ble_eq_true rfl) ?_
  refine Wp.iconst dc_X10_testStep_42 ic_0 ?_
  refine Wp.istore dc_X10_testStep_43 (by decide) ?_
  refine Wp.iload_n dc_X10_testStep_45 rfl ?_
  refine Wp.bipush dc_X10_testStep_46 bp_20 ?_
  refine Wp.icmp_eq (tgt := 103) dc_X10_testStep_48 (by decide) (fun hc48 => ?_) (fun hc48 => ?_)
  · rw [if_pos hc48] at hE
    exact ok_X10_testStep_j103  hr1 hr2 hE hK
  · rw [if_neg hc48] at hE
    refine Wp.aload_n dc_X10_testStep_51 rfl ?_
    refine Wp.sgetR (t := 0) dc_X10_testStep_52 fw_X10_20 (mO9 (by decide)) rfl ?_
    refine Wp.bipush dc_X10_testStep_55 bp_60 ?_
    obtain ⟨v57, h57, hE⟩ := bnd hE
    refine Wp.cV1i (ok_X5_signIs  h57) dc_X10_testStep_57 mw_X10_108 (mO4 (by decide)) (by decide) (Nat.le_of_ble_eq_true rfl) ?_
    refine Wp.if_eq (tgt := 68) dc_X10_testStep_60 (by decide) (fun hc60 => ?_) (fun hc60 => ?_)
    · rw [if_pos hc60] at hE
      refine Wp.aload_n dc_X10_testStep_68 rfl ?_
      refine Wp.sgetR (t := 0) dc_X10_testStep_69 fw_X10_20 (mO9 (by decide)) rfl ?_
      refine Wp.bipush dc_X10_testStep_72 bp_62 ?_
      obtain ⟨v74, h74, hE⟩ := bnd hE
      refine Wp.cV1i (ok_X5_signIs  h74) dc_X10_testStep_74 mw_X10_108 (mO4 (by decide)) (by decide) (Nat.le_of_ble_eq_true rfl) ?_
      refine Wp.if_eq (tgt := 85) dc_X10_testStep_77 (by decide) (fun hc77 => ?_) (fun hc77 => ?_)
      · rw [if_pos hc77] at hE
        refine Wp.bipush dc_X10_testStep_85 bp_61 ?_
        exact ok_X10_testStep_j87  hr1 hr2 hE hK
      · rw [if_neg hc77] at hE
        refine Wp.bipush dc_X10_testStep_80 bp_62 ?_
        refine Wp.goto (tgt := 87) dc_X10_testStep_82 (by decide) ?_
        exact ok_X10_testStep_j87  hr1 hr2 hE hK
    · rw [if_neg hc60] at hE
      refine Wp.bipush dc_X10_testStep_63 bp_60 ?_
      refine Wp.goto (tgt := 87) dc_X10_testStep_65 (by decide) ?_
      exact ok_X10_testStep_j87  hr1 hr2 hE hK
theorem ok_X10_testStep_j0 {Q : Option AV → AH → Prop}  {σ : SS} {r1 : Nat} {r2 : Nat}  {o} {z3 z4 z5 : Option AV}  (hr1 : r1 < 5) (hr2 : r2 < 5) (hE : X10_testStep_j0  σ r1 r2  = some o) (hK : Q (some (vi o.1)) (hp o.2)) : Ws 9 mi_X10_testStep Q 0 [some (vr 9 0), some (vr 0 r1), some (vr 8 r2), z3, z4, z5] [] σ := by
  unfold X10_testStep_j0 at hE
  refine Wp.aload_n dc_X10_testStep_0 rfl ?_
  refine Wp.sgetR (t := 0) dc_X10_testStep_1 fw_X10_20 (mO9 (by decide)) rfl ?_
  obtain ⟨v4, h4, hE⟩ := bnd hE
  refine Wp.cV0i (ok_X5_word  h4) dc_X10_testStep_4 mw_X10_71 (mO4 (by decide)) (by decide) (Nat.le_of_ble_eq_true rfl) ?_
  refine Wp.istore_n dc_X10_testStep_7 (by decide) ?_
  refine Wp.iload_n dc_X10_testStep_8 rfl ?_
  refine Wp.bipush dc_X10_testStep_9 bp_19 ?_
  refine Wp.icmp_eq (tgt := 35) dc_X10_testStep_11 (by decide) (fun hc11 => ?_) (fun hc11 => ?_)
  · rw [if_pos hc11] at hE
    exact ok_X10_testStep_j35  hr1 hr2 hE hK
  · rw [if_neg hc11] at hE
    refine Wp.iload_n dc_X10_testStep_14 rfl ?_
    refine Wp.bipush dc_X10_testStep_15 bp_7 ?_
    refine Wp.icmp_eq (tgt := 35) dc_X10_testStep_17 (by decide) (fun hc17 => ?_) (fun hc17 => ?_)
    · rw [if_pos hc17] at hE
      exact ok_X10_testStep_j35  hr1 hr2 hE hK
    · rw [if_neg hc17] at hE
      refine Wp.iload_n dc_X10_testStep_20 rfl ?_
      refine Wp.bipush dc_X10_testStep_21 bp_20 ?_
      refine Wp.icmp_eq (tgt := 35) dc_X10_testStep_23 (by decide) (fun hc23 => ?_) (fun hc23 => ?_)
      · rw [if_pos hc23] at hE
        exact ok_X10_testStep_j35  hr1 hr2 hE hK
      · rw [if_neg hc23] at hE
        refine Wp.aload_n dc_X10_testStep_26 rfl ?_
        refine Wp.sgetR (t := 0) dc_X10_testStep_27 fw_X10_20 (mO9 (by decide)) rfl ?_
        refine Wp.iconst dc_X10_testStep_30 ic_2 ?_
        obtain ⟨p31, h31, hE⟩ := bnd hE
        refine Wp.cV1i (ok_X5_fail  h31) dc_X10_testStep_31 mw_X10_54 (mO4 (by decide)) (by decide) (Nat.le_of_ble_eq_true rfl) ?_
        obtain ⟨b34, h34, hE⟩ := bnd hE
        obtain ⟨e_34, hb34⟩ := zb_some h34
        skip
        cases hE
        exact Wp.ireturn dc_X10_testStep_34 rfl hb34.1 (Nat.le_refl _) (Nat.le_refl _) hK
theorem ok_X10_testStep  {σ : SS} {r1 : Nat} {r2 : Nat}  {o}  (hr1 : r1 < 5) (hr2 : r2 < 5) (hE : X10_testStep  σ r1 r2  = some o) : Runs 9 0 0 mi_X10_testStep [vr 9 0, vr 0 r1, vr 8 r2] (hp σ) (fun v h => v = some (vi o.1) ∧ h = hp o.2) := by
  refine Runs.of pn_X10 (Nat.le_of_ble_eq_true rfl) ?_
  exact ok_X10_testStep_j0  hr1 hr2 hE ⟨rfl, rfl⟩
