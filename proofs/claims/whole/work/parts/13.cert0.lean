/-! certificates (by program: wip/whole/gen.py) -/
theorem ok_X9_clear_j0 {Q : Option AV → AH → Prop}  {σ : SS} {t : Nat}  {o}   (ht : t < 5) (hE : X9_clear_j0  σ t  = some o) (hK : Q none (hp o)) : Ws 0 mi_X9_clear Q 0 [some (vr 8 t)] [] σ := by
  unfold X9_clear_j0 at hE
  refine Wp.aload_n dc_X9_clear_0 rfl ?_
  refine Wp.iconst dc_X9_clear_1 ic_0 ?_
  refine Wp.sputI dc_X9_clear_2 fw_X9_20 (mO8 (by omega)) Nr.z0 ?_
  obtain ⟨σ2, es_2, hE⟩ := bnS hE
  rw [es_2]
  refine Wp.aload_n dc_X9_clear_5 rfl ?_
  refine Wp.iconst dc_X9_clear_6 ic_0 ?_
  refine Wp.sputI dc_X9_clear_7 fw_X9_24 (mO8 (by omega)) (Nr.i _) ?_
  obtain ⟨σ7, es_7, hE⟩ := bnS hE
  rw [es_7]
  refine Wp.aload_n dc_X9_clear_10 rfl ?_
  refine Wp.iconst dc_X9_clear_11 ic_0 ?_
  refine Wp.sputI dc_X9_clear_12 fw_X9_28 (mO8 (by omega)) (Nr.i _) ?_
  obtain ⟨σ12, es_12, hE⟩ := bnS hE
  rw [es_12]
  cases hE
  exact Wp.return dc_X9_clear_15 rfl (Nat.le_refl _) (Nat.le_refl _) hK
theorem ok_X9_clear  {σ : SS} {t : Nat}  {o}  (ht : t < 5) (hE : X9_clear  σ t  = some o) : Runs 0 0 0 mi_X9_clear [vr 8 t] (hp σ) (fun v h => v = none ∧ h = hp o) := by
  refine Runs.of pn_X9 (Nat.le_of_ble_eq_true rfl) ?_
  exact ok_X9_clear_j0  ht hE ⟨rfl, rfl⟩
theorem ok_X0_clear_j0 {Q : Option AV → AH → Prop}  {σ : SS} {t : Nat}  {o}   (ht : t < 5) (hE : X0_clear_j0  σ t  = some o) (hK : Q none (hp o)) : Ws 1 mi_X0_clear Q 0 [some (vr 0 t)] [] σ := by
  unfold X0_clear_j0 at hE
  refine Wp.aload_n dc_X0_clear_0 rfl ?_
  refine Wp.sgetR (t := t) dc_X0_clear_1 fw_X0_12 (mO0 (by omega)) rfl ?_
  obtain ⟨σ4, h4, hE⟩ := bnd hE
  refine Wp.cV0v (ok_X9_clear (by omega) h4) dc_X0_clear_4 mw_X0_37 (mO8 (by omega)) (by decide) (Nat.le_of_ble_eq_true rfl) ?_
  refine Wp.aload_n dc_X0_clear_7 rfl ?_
  refine Wp.iconst dc_X0_clear_8 ic_0 ?_
  refine Wp.sputI dc_X0_clear_9 fw_X0_40 (mO0 (by omega)) (Nr.i _) ?_
  obtain ⟨σ9, es_9, hE⟩ := bnS hE
  rw [es_9]
  refine Wp.aload_n dc_X0_clear_12 rfl ?_
  refine Wp.iconst dc_X0_clear_13 ic_0 ?_
  refine Wp.sputI dc_X0_clear_14 fw_X0_44 (mO0 (by omega)) (Nr.i _) ?_
  obtain ⟨σ14, es_14, hE⟩ := bnS hE
  rw [es_14]
  refine Wp.aload_n dc_X0_clear_17 rfl ?_
  refine Wp.iconst dc_X0_clear_18 ic_0 ?_
  refine Wp.sputI dc_X0_clear_19 fw_X0_47 (mO0 (by omega)) (Nr.i _) ?_
  obtain ⟨σ19, es_19, hE⟩ := bnS hE
  rw [es_19]
  refine Wp.aload_n dc_X0_clear_22 rfl ?_
  refine Wp.iconst dc_X0_clear_23 ic_0 ?_
  refine Wp.sputI dc_X0_clear_24 fw_X0_50 (mO0 (by omega)) (Nr.i _) ?_
  obtain ⟨σ24, es_24, hE⟩ := bnS hE
  rw [es_24]
  refine Wp.aload_n dc_X0_clear_27 rfl ?_
  refine Wp.iconst dc_X0_clear_28 ic_0 ?_
  refine Wp.sputI dc_X0_clear_29 fw_X0_53 (mO0 (by omega)) (Nr.i _) ?_
  obtain ⟨σ29, es_29, hE⟩ := bnS hE
  rw [es_29]
  refine Wp.aload_n dc_X0_clear_32 rfl ?_
  refine Wp.iconst dc_X0_clear_33 ic_0 ?_
  refine Wp.sputI dc_X0_clear_34 fw_X0_56 (mO0 (by omega)) (Nr.i _) ?_
  obtain ⟨σ34, es_34, hE⟩ := bnS hE
  rw [es_34]
  refine Wp.aload_n dc_X0_clear_37 rfl ?_
  refine Wp.iconst dc_X0_clear_38 ic_0 ?_
  refine Wp.sputI dc_X0_clear_39 fw_X0_59 (mO0 (by omega)) (Nr.i _) ?_
  obtain ⟨σ39, es_39, hE⟩ := bnS hE
  rw [es_39]
  refine Wp.aload_n dc_X0_clear_42 rfl ?_
  refine Wp.iconst dc_X0_clear_43 ic_0 ?_
  refine Wp.sputI dc_X0_clear_44 fw_X0_62 (mO0 (by omega)) (Nr.i _) ?_
  obtain ⟨σ44, es_44, hE⟩ := bnS hE
  rw [es_44]
  cases hE
  exact Wp.return dc_X0_clear_47 rfl (Nat.le_refl _) (Nat.le_refl _) hK
theorem ok_X0_clear  {σ : SS} {t : Nat}  {o}  (ht : t < 5) (hE : X0_clear  σ t  = some o) : Runs 1 0 0 mi_X0_clear [vr 0 t] (hp σ) (fun v h => v = none ∧ h = hp o) := by
  refine Runs.of pn_X0 (Nat.le_of_ble_eq_true rfl) ?_
  exact ok_X0_clear_j0  ht hE ⟨rfl, rfl⟩
def X4_takeOver_P7 (Q : Option AV → AH → Prop)  (t : Nat) (r1 : Nat)  (ss : Int32 × SS) : Prop := Ws 0 mi_X4_takeOver Q 7 [some (vr 3 t), some (vr 3 r1), some (vi ss.1)] [] ss.2
def X4_takeOver_R7 (Q : Option AV → AH → Prop)  (t : Nat) (r1 : Nat)  (tt : SS) : Prop := ∀ z0 z1 z2 : Option AV, Ws 0 mi_X4_takeOver Q 43 [z0, z1, z2] [] tt
theorem ok_X4_takeOver_l7c {Q : Option AV → AH → Prop}  {σ : SS} {t : Nat} {r1 : Nat}  {x2 : Int32} {o}   (ht : t < 31) (hr1 : r1 < 31) (hE : X4_takeOver_l7c  σ t r1  x2 = some o) (hS : ∀ ss, o = Sum.inl ss → (X4_takeOver_P7  Q  t r1 ) ss) (hT : ∀ tt, o = Sum.inr tt → (X4_takeOver_R7  Q  t r1 ) tt) : Ws 0 mi_X4_takeOver Q 7 [some (vr 3 t), some (vr 3 r1), some (vi x2)] [] σ := by
  unfold X4_takeOver_l7c at hE
  refine Wp.iload_n dc_X4_takeOver_7 rfl ?_
  refine Wp.aload_n dc_X4_takeOver_8 rfl ?_
  refine Wp.sgetR (t := t) dc_X4_takeOver_9 fw_X4_16 (mO3 (by omega)) rfl ?_
  refine Wp.salenI dc_X4_takeOver_12 (mO13 (by omega)) ?_
  refine Wp.icmp_ge (tgt := 43) dc_X4_takeOver_13 (by decide) (fun hc13 => ?_) (fun hc13 => ?_)
  · rw [if_pos hc13] at hE
    cases hE
    exact hT _ rfl _ _ _
  · rw [if_neg hc13] at hE
    refine Wp.iload_n dc_X4_takeOver_16 rfl ?_
    refine Wp.aload_n dc_X4_takeOver_17 rfl ?_
    refine Wp.sgetR (t := r1) dc_X4_takeOver_18 fw_X4_16 (mO3 (by omega)) rfl ?_
    refine Wp.salenI dc_X4_takeOver_21 (mO13 (by omega)) ?_
    refine Wp.icmp_ge (tgt := 43) dc_X4_takeOver_22 (by decide) (fun hc22 => ?_) (fun hc22 => ?_)
    · rw [if_pos hc22] at hE
      cases hE
      exact hT _ rfl _ _ _
    · rw [if_neg hc22] at hE
      refine Wp.aload_n dc_X4_takeOver_25 rfl ?_
      refine Wp.sgetR (t := t) dc_X4_takeOver_26 fw_X4_16 (mO3 (by omega)) rfl ?_
      refine Wp.iload_n dc_X4_takeOver_29 rfl ?_
      refine Wp.aload_n dc_X4_takeOver_30 rfl ?_
      refine Wp.sgetR (t := r1) dc_X4_takeOver_31 fw_X4_16 (mO3 (by omega)) rfl ?_
      refine Wp.iload_n dc_X4_takeOver_34 rfl ?_
      obtain ⟨j35, h35, hE⟩ := bnd hE
      refine Wp.siald dc_X4_takeOver_35 (mO13 (by omega)) h35 ?_
      obtain ⟨j36, h36, hE⟩ := bnd hE
      refine Wp.siast dc_X4_takeOver_36 (mO13 (by omega)) h36 ?_
      obtain ⟨σ36, es_36, hE⟩ := bnS hE
      rw [es_36]
      obtain ⟨x2_37, e_37, hE⟩ := bnS hE
      refine Wp.iinc dc_X4_takeOver_37 rfl ((ii ic_1).trans e_37) (by decide) ?_
      refine Wp.goto (tgt := 7) dc_X4_takeOver_40 (by decide) ?_
      cases hE
      exact hS _ rfl
theorem ok_X4_takeOver_l7 {Q : Option AV → AH → Prop}  {σ : SS} {t : Nat} {r1 : Nat} {x2 : Int32} {o}   (ht : t < 31) (hr1 : r1 < 31) (hE : X4_takeOver_l7  σ t r1 x2 = some o) (hK : Q none (hp o)) : Ws 0 mi_X4_takeOver Q 7 [some (vr 3 t), some (vr 3 r1), some (vi x2)] [] σ := by
  unfold X4_takeOver_l7 at hE
  obtain ⟨t7, h1, hE⟩ := bnd hE
  refine iter_ok (P := (X4_takeOver_P7  Q  t r1 )) (R := (X4_takeOver_R7  Q  t r1 )) (fun ss o h2 hS hT => ?_) NF _ _ h1 ?_
  · skip
    exact ok_X4_takeOver_l7c  ht hr1 h2 hS hT
  · intro z0 z1 z2
    show Ws 0 mi_X4_takeOver Q 43 [z0, z1, z2] [] t7
    cases hE
    exact Wp.return dc_X4_takeOver_43 rfl (Nat.le_refl _) (Nat.le_refl _) hK
theorem ok_X4_takeOver_j0 {Q : Option AV → AH → Prop}  {σ : SS} {t : Nat} {r1 : Nat}  {o} {z2 : Option AV}  (ht : t < 31) (hr1 : r1 < 31) (hE : X4_takeOver_j0  σ t r1  = some o) (hK : Q none (hp o)) : Ws 0 mi_X4_takeOver Q 0 [some (vr 3 t), some (vr 3 r1), z2] [] σ := by
  unfold X4_takeOver_j0 at hE
  refine Wp.aload_n dc_X4_takeOver_0 rfl ?_
  refine Wp.ifnonnull (tgt := 5) dc_X4_takeOver_1 (by decide) ?_
  refine Wp.iconst dc_X4_takeOver_5 ic_0 ?_
  refine Wp.istore_n dc_X4_takeOver_6 (by decide) ?_
  exact ok_X4_takeOver_l7  ht hr1 hE hK
theorem ok_X4_takeOver  {σ : SS} {t : Nat} {r1 : Nat}  {o}  (ht : t < 31) (hr1 : r1 < 31) (hE : X4_takeOver  σ t r1  = some o) : Runs 0 0 0 mi_X4_takeOver [vr 3 t, vr 3 r1] (hp σ) (fun v h => v = none ∧ h = hp o) := by
  refine Runs.of pn_X4 (Nat.le_of_ble_eq_true rfl) ?_
  exact ok_X4_takeOver_j0  ht hr1 hE ⟨rfl, rfl⟩
theorem ok_X9_takeOver_j0 {Q : Option AV → AH → Prop}  {σ : SS} {t : Nat} {r1 : Nat}  {o}   (ht : t < 5) (hr1 : r1 < 5) (hE : X9_takeOver_j0  σ t r1  = some o) (hK : Q none (hp o)) : Ws 1 mi_X9_takeOver Q 0 [some (vr 8 t), some (vr 8 r1)] [] σ := by
  unfold X9_takeOver_j0 at hE
  refine Wp.aload_n dc_X9_takeOver_0 rfl ?_
  refine Wp.ifnonnull (tgt := 5) dc_X9_takeOver_1 (by decide) ?_
  refine Wp.aload_n dc_X9_takeOver_5 rfl ?_
  refine Wp.sgetR (t := (4 * t)) dc_X9_takeOver_6 fw_X9_16 (mO8 (by omega)) rfl ?_
  refine Wp.aload_n dc_X9_takeOver_9 rfl ?_
  refine Wp.sgetR (t := (4 * r1)) dc_X9_takeOver_10 fw_X9_16 (mO8 (by omega)) rfl ?_
  obtain ⟨σ13, h13, hE⟩ := bnd hE
  refine Wp.cV1v (ok_X4_takeOver (by omega) (by omega) h13) dc_X9_takeOver_13 mw_X9_31 (mO3 (by omega)) (by decide) (Nat.le_of_ble_eq_true rfl) ?_
  refine Wp.aload_n dc_X9_takeOver_16 rfl ?_
  refine Wp.aload_n dc_X9_takeOver_17 rfl ?_
  refine Wp.sgetI dc_X9_takeOver_18 fw_X9_20 (mO8 (by omega)) ?_
  obtain ⟨b21, h21, hE⟩ := bnd hE
  obtain ⟨e_21, hb21⟩ := zb_some h21
  skip
  refine Wp.sputI dc_X9_takeOver_21 fw_X9_20 (mO8 (by omega)) hb21 ?_
  obtain ⟨σ21, es_21, hE⟩ := bnS hE
  rw [es_21]
  refine Wp.aload_n dc_X9_takeOver_24 rfl ?_
  refine Wp.aload_n dc_X9_takeOver_25 rfl ?_
  refine Wp.sgetI dc_X9_takeOver_26 fw_X9_24 (mO8 (by omega)) ?_
  refine Wp.sputI dc_X9_takeOver_29 fw_X9_24 (mO8 (by omega)) (Nr.i _) ?_
  obtain ⟨σ29, es_29, hE⟩ := bnS hE
  rw [es_29]
  refine Wp.aload_n dc_X9_takeOver_32 rfl ?_
  refine Wp.aload_n dc_X9_takeOver_33 rfl ?_
  refine Wp.sgetI dc_X9_takeOver_34 fw_X9_28 (mO8 (by omega)) ?_
  refine Wp.sputI dc_X9_takeOver_37 fw_X9_28 (mO8 (by omega)) (Nr.i _) ?_
  obtain ⟨σ37, es_37, hE⟩ := bnS hE
  rw [es_37]
  cases hE
  exact Wp.return dc_X9_takeOver_40 rfl (Nat.le_refl _) (Nat.le_refl _) hK
theorem ok_X9_takeOver  {σ : SS} {t : Nat} {r1 : Nat}  {o}  (ht : t < 5) (hr1 : r1 < 5) (hE : X9_takeOver  σ t r1  = some o) : Runs 1 0 0 mi_X9_takeOver [vr 8 t, vr 8 r1] (hp σ) (fun v h => v = none ∧ h = hp o) := by
  refine Runs.of pn_X9 (Nat.le_of_ble_eq_true rfl) ?_
  exact ok_X9_takeOver_j0  ht hr1 hE ⟨rfl, rfl⟩
def X0_takeOver_P51 (Q : Option AV → AH → Prop)  (t : Nat) (r1 : Nat)  (ss : Int32 × SS) : Prop := Ws 2 mi_X0_takeOver Q 51 [some (vr 0 t), some (vr 0 r1), some (vi ss.1)] [] ss.2
def X0_takeOver_R51 (Q : Option AV → AH → Prop)  (t : Nat) (r1 : Nat)  (tt : SS) : Prop := ∀ z2 : Option AV, Ws 2 mi_X0_takeOver Q 87 [some (vr 0 t), some (vr 0 r1), z2] [] tt
theorem ok_X0_takeOver_l51c {Q : Option AV → AH → Prop}  {σ : SS} {t : Nat} {r1 : Nat}  {x2 : Int32} {o}   (ht : t < 5) (hr1 : r1 < 5) (hE : X0_takeOver_l51c  σ t r1  x2 = some o) (hS : ∀ ss, o = Sum.inl ss → (X0_takeOver_P51  Q  t r1 ) ss) (hT : ∀ tt, o = Sum.inr tt → (X0_takeOver_R51  Q  t r1 ) tt) : Ws 2 mi_X0_takeOver Q 51 [some (vr 0 t), some (vr 0 r1), some (vi x2)] [] σ := by
  unfold X0_takeOver_l51c at hE
  refine Wp.iload_n dc_X0_takeOver_51 rfl ?_
  refine Wp.aload_n dc_X0_takeOver_52 rfl ?_
  refine Wp.sgetR (t := t) dc_X0_takeOver_53 fw_X0_33 (mO0 (by omega)) rfl ?_
  refine Wp.salenJ dc_X0_takeOver_56 (mO14 (by omega)) ?_
  refine Wp.icmp_ge (tgt := 87) dc_X0_takeOver_57 (by decide) (fun hc57 => ?_) (fun hc57 => ?_)
  · rw [if_pos hc57] at hE
    cases hE
    exact hT _ rfl _
  · rw [if_neg hc57] at hE
    refine Wp.iload_n dc_X0_takeOver_60 rfl ?_
    refine Wp.aload_n dc_X0_takeOver_61 rfl ?_
    refine Wp.sgetR (t := r1) dc_X0_takeOver_62 fw_X0_33 (mO0 (by omega)) rfl ?_
    refine Wp.salenJ dc_X0_takeOver_65 (mO14 (by omega)) ?_
    refine Wp.icmp_ge (tgt := 87) dc_X0_takeOver_66 (by decide) (fun hc66 => ?_) (fun hc66 => ?_)
    · rw [if_pos hc66] at hE
      cases hE
      exact hT _ rfl _
    · rw [if_neg hc66] at hE
      refine Wp.aload_n dc_X0_takeOver_69 rfl ?_
      refine Wp.sgetR (t := t) dc_X0_takeOver_70 fw_X0_33 (mO0 (by omega)) rfl ?_
      refine Wp.iload_n dc_X0_takeOver_73 rfl ?_
      refine Wp.aload_n dc_X0_takeOver_74 rfl ?_
      refine Wp.sgetR (t := r1) dc_X0_takeOver_75 fw_X0_33 (mO0 (by omega)) rfl ?_
      refine Wp.iload_n dc_X0_takeOver_78 rfl ?_
      obtain ⟨j79, h79, hE⟩ := bnd hE
      refine Wp.slald dc_X0_takeOver_79 (mO14 (by omega)) h79 ?_
      obtain ⟨j80, h80, hE⟩ := bnd hE
      refine Wp.slast dc_X0_takeOver_80 (mO14 (by omega)) h80 ?_
      obtain ⟨σ80, es_80, hE⟩ := bnS hE
      rw [es_80]
      obtain ⟨x2_81, e_81, hE⟩ := bnS hE
      refine Wp.iinc dc_X0_takeOver_81 rfl ((ii ic_1).trans e_81) (by decide) ?_
      refine Wp.goto (tgt := 51) dc_X0_takeOver_84 (by decide) ?_
      cases hE
      exact hS _ rfl
theorem ok_X0_takeOver_j87 {Q : Option AV → AH → Prop}  {σ : SS} {t : Nat} {r1 : Nat}  {o} {z2 : Option AV}  (ht : t < 5) (hr1 : r1 < 5) (hE : X0_takeOver_j87  σ t r1  = some o) (hK : Q none (hp o)) : Ws 2 mi_X0_takeOver Q 87 [some (vr 0 t), some (vr 0 r1), z2] [] σ := by
  unfold X0_takeOver_j87 at hE
  refine Wp.aload_n dc_X0_takeOver_87 rfl ?_
  refine Wp.aload_n dc_X0_takeOver_88 rfl ?_
  refine Wp.sgetI dc_X0_takeOver_89 fw_X0_40 (mO0 (by omega)) ?_
  refine Wp.sputI dc_X0_takeOver_92 fw_X0_40 (mO0 (by omega)) (Nr.i _) ?_
  obtain ⟨σ92, es_92, hE⟩ := bnS hE
  rw [es_92]
  refine Wp.aload_n dc_X0_takeOver_95 rfl ?_
  refine Wp.aload_n dc_X0_takeOver_96 rfl ?_
  refine Wp.sgetI dc_X0_takeOver_97 fw_X0_44 (mO0 (by omega)) ?_
  refine Wp.sputI dc_X0_takeOver_100 fw_X0_44 (mO0 (by omega)) (Nr.i _) ?_
  obtain ⟨σ100, es_100, hE⟩ := bnS hE
  rw [es_100]
  refine Wp.aload_n dc_X0_takeOver_103 rfl ?_
  refine Wp.aload_n dc_X0_takeOver_104 rfl ?_
  refine Wp.sgetI dc_X0_takeOver_105 fw_X0_47 (mO0 (by omega)) ?_
  refine Wp.sputI dc_X0_takeOver_108 fw_X0_47 (mO0 (by omega)) (Nr.i _) ?_
  obtain ⟨σ108, es_108, hE⟩ := bnS hE
  rw [es_108]
  refine Wp.aload_n dc_X0_takeOver_111 rfl ?_
  refine Wp.aload_n dc_X0_takeOver_112 rfl ?_
  refine Wp.sgetI dc_X0_takeOver_113 fw_X0_50 (mO0 (by omega)) ?_
  refine Wp.sputI dc_X0_takeOver_116 fw_X0_50 (mO0 (by omega)) (Nr.i _) ?_
  obtain ⟨σ116, es_116, hE⟩ := bnS hE
  rw [es_116]
  refine Wp.aload_n dc_X0_takeOver_119 rfl ?_
  refine Wp.aload_n dc_X0_takeOver_120 rfl ?_
  refine Wp.sgetI dc_X0_takeOver_121 fw_X0_53 (mO0 (by omega)) ?_
  refine Wp.sputI dc_X0_takeOver_124 fw_X0_53 (mO0 (by omega)) (Nr.i _) ?_
  obtain ⟨σ124, es_124, hE⟩ := bnS hE
  rw [es_124]
  refine Wp.aload_n dc_X0_takeOver_127 rfl ?_
  refine Wp.aload_n dc_X0_takeOver_128 rfl ?_
  refine Wp.sgetI dc_X0_takeOver_129 fw_X0_56 (mO0 (by omega)) ?_
  refine Wp.sputI dc_X0_takeOver_132 fw_X0_56 (mO0 (by omega)) (Nr.i _) ?_
  obtain ⟨σ132, es_132, hE⟩ := bnS hE
  rw [es_132]
  refine Wp.aload_n dc_X0_takeOver_135 rfl ?_
  refine Wp.aload_n dc_X0_takeOver_136 rfl ?_
  refine Wp.sgetI dc_X0_takeOver_137 fw_X0_59 (mO0 (by omega)) ?_
  refine Wp.sputI dc_X0_takeOver_140 fw_X0_59 (mO0 (by omega)) (Nr.i _) ?_
  obtain ⟨σ140, es_140, hE⟩ := bnS hE
  rw [es_140]
  refine Wp.aload_n dc_X0_takeOver_143 rfl ?_
  refine Wp.aload_n dc_X0_takeOver_144 rfl ?_
  refine Wp.sgetI dc_X0_takeOver_145 fw_X0_62 (mO0 (by omega)) ?_
  refine Wp.sputI dc_X0_takeOver_148 fw_X0_62 (mO0 (by omega)) (Nr.i _) ?_
  obtain ⟨σ148, es_148, hE⟩ := bnS hE
  rw [es_148]
  cases hE
  exact Wp.return dc_X0_takeOver_151 rfl (Nat.le_refl _) (Nat.le_refl _) hK
theorem ok_X0_takeOver_l51 {Q : Option AV → AH → Prop}  {σ : SS} {t : Nat} {r1 : Nat} {x2 : Int32} {o}   (ht : t < 5) (hr1 : r1 < 5) (hE : X0_takeOver_l51  σ t r1 x2 = some o) (hK : Q none (hp o)) : Ws 2 mi_X0_takeOver Q 51 [some (vr 0 t), some (vr 0 r1), some (vi x2)] [] σ := by
  unfold X0_takeOver_l51 at hE
  obtain ⟨t51, h1, hE⟩ := bnd hE
  refine iter_ok (P := (X0_takeOver_P51  Q  t r1 )) (R := (X0_takeOver_R51  Q  t r1 )) (fun ss o h2 hS hT => ?_) NF _ _ h1 ?_
  · skip
    exact ok_X0_takeOver_l51c  ht hr1 h2 hS hT
  · intro z2
    show Ws 2 mi_X0_takeOver Q 87 [some (vr 0 t), some (vr 0 r1), z2] [] t51
    exact ok_X0_takeOver_j87  ht hr1 hE hK
theorem ok_X0_takeOver_j0 {Q : Option AV → AH → Prop}  {σ : SS} {t : Nat} {r1 : Nat}  {o} {z2 : Option AV}  (ht : t < 5) (hr1 : r1 < 5) (hE : X0_takeOver_j0  σ t r1  = some o) (hK : Q none (hp o)) : Ws 2 mi_X0_takeOver Q 0 [some (vr 0 t), some (vr 0 r1), z2] [] σ := by
  unfold X0_takeOver_j0 at hE
  refine Wp.aload_n dc_X0_takeOver_0 rfl ?_
  refine Wp.ifnonnull (tgt := 5) dc_X0_takeOver_1 (by decide) ?_
  refine Wp.aload_n dc_X0_takeOver_5 rfl ?_
  refine Wp.sgetR (t := t) dc_X0_takeOver_6 fw_X0_12 (mO0 (by omega)) rfl ?_
  refine Wp.aload_n dc_X0_takeOver_9 rfl ?_
  refine Wp.sgetR (t := r1) dc_X0_takeOver_10 fw_X0_12 (mO0 (by omega)) rfl ?_
  obtain ⟨σ13, h13, hE⟩ := bnd hE
  refine Wp.cV1v (ok_X9_takeOver (by omega) (by omega) h13) dc_X0_takeOver_13 mw_X0_65 (mO8 (by omega)) (by decide) (Nat.le_of_ble_eq_true rfl) ?_
  refine Wp.aload_n dc_X0_takeOver_16 rfl ?_
  refine Wp.sgetR (t := (4 * t + 1)) dc_X0_takeOver_17 fw_X0_23 (mO0 (by omega)) rfl ?_
  refine Wp.aload_n dc_X0_takeOver_20 rfl ?_
  refine Wp.sgetR (t := (4 * r1 + 1)) dc_X0_takeOver_21 fw_X0_23 (mO0 (by omega)) rfl ?_
  obtain ⟨σ24, h24, hE⟩ := bnd hE
  refine Wp.cV1v (ok_X4_takeOver (by omega) (by omega) h24) dc_X0_takeOver_24 mw_X0_69 (mO3 (by omega)) (by decide) (Nat.le_of_ble_eq_true rfl) ?_
  refine Wp.aload_n dc_X0_takeOver_27 rfl ?_
  refine Wp.sgetR (t := (4 * t + 2)) dc_X0_takeOver_28 fw_X0_27 (mO0 (by omega)) rfl ?_
  refine Wp.aload_n dc_X0_takeOver_31 rfl ?_
  refine Wp.sgetR (t := (4 * r1 + 2)) dc_X0_takeOver_32 fw_X0_27 (mO0 (by omega)) rfl ?_
  obtain ⟨σ35, h35, hE⟩ := bnd hE
  refine Wp.cV1v (ok_X4_takeOver (by omega) (by omega) h35) dc_X0_takeOver_35 mw_X0_69 (mO3 (by omega)) (by decide) (Nat.le_of_ble_eq_true rfl) ?_
  refine Wp.aload_n dc_X0_takeOver_38 rfl ?_
  refine Wp.sgetR (t := (4 * t + 3)) dc_X0_takeOver_39 fw_X0_30 (mO0 (by omega)) rfl ?_
  refine Wp.aload_n dc_X0_takeOver_42 rfl ?_
  refine Wp.sgetR (t := (4 * r1 + 3)) dc_X0_takeOver_43 fw_X0_30 (mO0 (by omega)) rfl ?_
  obtain ⟨σ46, h46, hE⟩ := bnd hE
  refine Wp.cV1v (ok_X4_takeOver (by omega) (by omega) h46) dc_X0_takeOver_46 mw_X0_69 (mO3 (by omega)) (by decide) (Nat.le_of_ble_eq_true rfl) ?_
  refine Wp.iconst dc_X0_takeOver_49 ic_0 ?_
  refine Wp.istore_n dc_X0_takeOver_50 (by decide) ?_
  exact ok_X0_takeOver_l51  ht hr1 hE hK
theorem ok_X0_takeOver  {σ : SS} {t : Nat} {r1 : Nat}  {o}  (ht : t < 5) (hr1 : r1 < 5) (hE : X0_takeOver  σ t r1  = some o) : Runs 2 0 0 mi_X0_takeOver [vr 0 t, vr 0 r1] (hp σ) (fun v h => v = none ∧ h = hp o) := by
  refine Runs.of pn_X0 (Nat.le_of_ble_eq_true rfl) ?_
  exact ok_X0_takeOver_j0  ht hr1 hE ⟨rfl, rfl⟩
theorem ok_X0_leadCount_j0 {Q : Option AV → AH → Prop}  {σ : SS} {t : Nat}  {o}   (ht : t < 5) (hE : X0_leadCount_j0  σ t  = some o) (hK : Q (some (vi o)) (hp σ)) : Ws 0 mi_X0_leadCount Q 0 [some (vr 0 t)] [] σ := by
  unfold X0_leadCount_j0 at hE
  refine Wp.aload_n dc_X0_leadCount_0 rfl ?_
  refine Wp.sgetI dc_X0_leadCount_1 fw_X0_40 (mO0 (by omega)) ?_
  cases hE
  exact Wp.ireturn dc_X0_leadCount_4 rfl rfl (Nat.le_refl _) (Nat.le_refl _) hK
theorem ok_X0_leadCount  {σ : SS} {t : Nat}  {o}  (ht : t < 5) (hE : X0_leadCount  σ t  = some o) : Runs 0 0 0 mi_X0_leadCount [vr 0 t] (hp σ) (fun v h => v = some (vi o) ∧ h = hp σ) := by
  refine Runs.of pn_X0 (Nat.le_of_ble_eq_true rfl) ?_
  exact ok_X0_leadCount_j0  ht hE ⟨rfl, rfl⟩
theorem ok_X0_crossingCount_j0 {Q : Option AV → AH → Prop}  {σ : SS} {t : Nat}  {o}   (ht : t < 5) (hE : X0_crossingCount_j0  σ t  = some o) (hK : Q (some (vi o)) (hp σ)) : Ws 0 mi_X0_crossingCount Q 0 [some (vr 0 t)] [] σ := by
  unfold X0_crossingCount_j0 at hE
  refine Wp.aload_n dc_X0_crossingCount_0 rfl ?_
  refine Wp.sgetI dc_X0_crossingCount_1 fw_X0_44 (mO0 (by omega)) ?_
  cases hE
  exact Wp.ireturn dc_X0_crossingCount_4 rfl rfl (Nat.le_refl _) (Nat.le_refl _) hK
theorem ok_X0_crossingCount  {σ : SS} {t : Nat}  {o}  (ht : t < 5) (hE : X0_crossingCount  σ t  = some o) : Runs 0 0 0 mi_X0_crossingCount [vr 0 t] (hp σ) (fun v h => v = some (vi o) ∧ h = hp σ) := by
  refine Runs.of pn_X0 (Nat.le_of_ble_eq_true rfl) ?_
  exact ok_X0_crossingCount_j0  ht hE ⟨rfl, rfl⟩
theorem ok_X0_lookCount_j0 {Q : Option AV → AH → Prop}  {σ : SS} {t : Nat}  {o}   (ht : t < 5) (hE : X0_lookCount_j0  σ t  = some o) (hK : Q (some (vi o)) (hp σ)) : Ws 0 mi_X0_lookCount Q 0 [some (vr 0 t)] [] σ := by
  unfold X0_lookCount_j0 at hE
  refine Wp.aload_n dc_X0_lookCount_0 rfl ?_
  refine Wp.sgetI dc_X0_lookCount_1 fw_X0_47 (mO0 (by omega)) ?_
  cases hE
  exact Wp.ireturn dc_X0_lookCount_4 rfl rfl (Nat.le_refl _) (Nat.le_refl _) hK
theorem ok_X0_lookCount  {σ : SS} {t : Nat}  {o}  (ht : t < 5) (hE : X0_lookCount  σ t  = some o) : Runs 0 0 0 mi_X0_lookCount [vr 0 t] (hp σ) (fun v h => v = some (vi o) ∧ h = hp σ) := by
  refine Runs.of pn_X0 (Nat.le_of_ble_eq_true rfl) ?_
  exact ok_X0_lookCount_j0  ht hE ⟨rfl, rfl⟩
theorem ok_X0_insideSet_j0 {Q : Option AV → AH → Prop}  {σ : SS} {t : Nat}  {o}   (ht : t < 5) (hE : X0_insideSet_j0  σ t  = some o) (hK : Q (some (vi o)) (hp σ)) : Ws 0 mi_X0_insideSet Q 0 [some (vr 0 t)] [] σ := by
  unfold X0_insideSet_j0 at hE
  refine Wp.aload_n dc_X0_insideSet_0 rfl ?_
  refine Wp.sgetI dc_X0_insideSet_1 fw_X0_50 (mO0 (by omega)) ?_
  cases hE
  exact Wp.ireturn dc_X0_insideSet_4 rfl rfl (Nat.le_refl _) (Nat.le_refl _) hK
theorem ok_X0_insideSet  {σ : SS} {t : Nat}  {o}  (ht : t < 5) (hE : X0_insideSet  σ t  = some o) : Runs 0 0 0 mi_X0_insideSet [vr 0 t] (hp σ) (fun v h => v = some (vi o) ∧ h = hp σ) := by
  refine Runs.of pn_X0 (Nat.le_of_ble_eq_true rfl) ?_
  exact ok_X0_insideSet_j0  ht hE ⟨rfl, rfl⟩
theorem ok_X0_secondsSpent_j0 {Q : Option AV → AH → Prop}  {σ : SS} {t : Nat}  {o}   (ht : t < 5) (hE : X0_secondsSpent_j0  σ t  = some o) (hK : Q (some (vi o)) (hp σ)) : Ws 0 mi_X0_secondsSpent Q 0 [some (vr 0 t)] [] σ := by
  unfold X0_secondsSpent_j0 at hE
  refine Wp.aload_n dc_X0_secondsSpent_0 rfl ?_
  refine Wp.sgetI dc_X0_secondsSpent_1 fw_X0_56 (mO0 (by omega)) ?_
  cases hE
  exact Wp.ireturn dc_X0_secondsSpent_4 rfl rfl (Nat.le_refl _) (Nat.le_refl _) hK
theorem ok_X0_secondsSpent  {σ : SS} {t : Nat}  {o}  (ht : t < 5) (hE : X0_secondsSpent  σ t  = some o) : Runs 0 0 0 mi_X0_secondsSpent [vr 0 t] (hp σ) (fun v h => v = some (vi o) ∧ h = hp σ) := by
  refine Runs.of pn_X0 (Nat.le_of_ble_eq_true rfl) ?_
  exact ok_X0_secondsSpent_j0  ht hE ⟨rfl, rfl⟩
theorem ok_X0_total_j0 {Q : Option AV → AH → Prop}  {σ : SS} {t : Nat} {x1 : Int32} {o}   (ht : t < 5) (hE : X0_total_j0  σ t x1 = some o) (hK : Q (some (vi o)) (hp σ)) : Ws 0 mi_X0_total Q 0 [some (vr 0 t), some (vi x1)] [] σ := by
  unfold X0_total_j0 at hE
  refine Wp.iload_n dc_X0_total_0 rfl ?_
  by_cases hc1_0 : x1 = 0
  · rw [if_pos hc1_0] at hE
    rw [hc1_0]
    refine Wp.tswIn (tgt := 44) dc_X0_total_1 (by decide) (by decide) rfl (by decide) ?_
    refine Wp.aload_n dc_X0_total_44 rfl ?_
    refine Wp.sgetI dc_X0_total_45 fw_X0_40 (mO0 (by omega)) ?_
    refine Wp.goto (tgt := 102) dc_X0_total_48 (by decide) ?_
    cases hE
    exact Wp.ireturn dc_X0_total_102 rfl rfl (Nat.le_refl _) (Nat.le_refl _) hK
  · rw [if_neg hc1_0] at hE
    by_cases hc1_1 : x1 = 1
    · rw [if_pos hc1_1] at hE
      rw [hc1_1]
      refine Wp.tswIn (tgt := 51) dc_X0_total_1 (by decide) (by decide) rfl (by decide) ?_
      refine Wp.aload_n dc_X0_total_51 rfl ?_
      refine Wp.sgetI dc_X0_total_52 fw_X0_44 (mO0 (by omega)) ?_
      refine Wp.goto (tgt := 102) dc_X0_total_55 (by decide) ?_
      cases hE
      exact Wp.ireturn dc_X0_total_102 rfl rfl (Nat.le_refl _) (Nat.le_refl _) hK
    · rw [if_neg hc1_1] at hE
      by_cases hc1_2 : x1 = 2
      · rw [if_pos hc1_2] at hE
        rw [hc1_2]
        refine Wp.tswIn (tgt := 58) dc_X0_total_1 (by decide) (by decide) rfl (by decide) ?_
        refine Wp.aload_n dc_X0_total_58 rfl ?_
        refine Wp.sgetI dc_X0_total_59 fw_X0_47 (mO0 (by omega)) ?_
        refine Wp.goto (tgt := 102) dc_X0_total_62 (by decide) ?_
        cases hE
        exact Wp.ireturn dc_X0_total_102 rfl rfl (Nat.le_refl _) (Nat.le_refl _) hK
      · rw [if_neg hc1_2] at hE
        by_cases hc1_3 : x1 = 3
        · rw [if_pos hc1_3] at hE
          rw [hc1_3]
          refine Wp.tswIn (tgt := 65) dc_X0_total_1 (by decide) (by decide) rfl (by decide) ?_
          refine Wp.aload_n dc_X0_total_65 rfl ?_
          refine Wp.sgetI dc_X0_total_66 fw_X0_50 (mO0 (by omega)) ?_
          refine Wp.goto (tgt := 102) dc_X0_total_69 (by decide) ?_
          cases hE
          exact Wp.ireturn dc_X0_total_102 rfl rfl (Nat.le_refl _) (Nat.le_refl _) hK
        · rw [if_neg hc1_3] at hE
          by_cases hc1_4 : x1 = 4
          · rw [if_pos hc1_4] at hE
            rw [hc1_4]
            refine Wp.tswIn (tgt := 72) dc_X0_total_1 (by decide) (by decide) rfl (by decide) ?_
            refine Wp.aload_n dc_X0_total_72 rfl ?_
            refine Wp.sgetI dc_X0_total_73 fw_X0_53 (mO0 (by omega)) ?_
            refine Wp.aload_n dc_X0_total_76 rfl ?_
            refine Wp.sgetI dc_X0_total_77 fw_X0_50 (mO0 (by omega)) ?_
            refine Wp.iand dc_X0_total_80 ?_
            refine Wp.goto (tgt := 102) dc_X0_total_81 (by decide) ?_
            cases hE
            exact Wp.ireturn dc_X0_total_102 rfl rfl (Nat.le_refl _) (Nat.le_refl _) hK
          · rw [if_neg hc1_4] at hE
            by_cases hc1_5 : x1 = 5
            · rw [if_pos hc1_5] at hE
              rw [hc1_5]
              refine Wp.tswIn (tgt := 84) dc_X0_total_1 (by decide) (by decide) rfl (by decide) ?_
              refine Wp.aload_n dc_X0_total_84 rfl ?_
              refine Wp.sgetI dc_X0_total_85 fw_X0_56 (mO0 (by omega)) ?_
              refine Wp.goto (tgt := 102) dc_X0_total_88 (by decide) ?_
              cases hE
              exact Wp.ireturn dc_X0_total_102 rfl rfl (Nat.le_refl _) (Nat.le_refl _) hK
            · rw [if_neg hc1_5] at hE
              by_cases hc1_6 : x1 = 6
              · rw [if_pos hc1_6] at hE
                rw [hc1_6]
                refine Wp.tswIn (tgt := 91) dc_X0_total_1 (by decide) (by decide) rfl (by decide) ?_
                refine Wp.aload_n dc_X0_total_91 rfl ?_
                refine Wp.sgetI dc_X0_total_92 fw_X0_59 (mO0 (by omega)) ?_
                refine Wp.goto (tgt := 102) dc_X0_total_95 (by decide) ?_
                cases hE
                exact Wp.ireturn dc_X0_total_102 rfl rfl (Nat.le_refl _) (Nat.le_refl _) hK
              · rw [if_neg hc1_6] at hE
                refine Wp.tswOut (tgt := 98) dc_X0_total_1 (tsw6 hc1_0 hc1_1 hc1_2 hc1_3 hc1_4 hc1_5 hc1_6) (by decide) ?_
                refine Wp.aload_n dc_X0_total_98 rfl ?_
                refine Wp.sgetI dc_X0_total_99 fw_X0_62 (mO0 (by omega)) ?_
                cases hE
                exact Wp.ireturn dc_X0_total_102 rfl rfl (Nat.le_refl _) (Nat.le_refl _) hK
theorem ok_X0_total  {σ : SS} {t : Nat} {x1 : Int32} {o}  (ht : t < 5) (hE : X0_total  σ t x1 = some o) : Runs 0 0 0 mi_X0_total [vr 0 t, vi x1] (hp σ) (fun v h => v = some (vi o) ∧ h = hp σ) := by
  refine Runs.of pn_X0 (Nat.le_of_ble_eq_true rfl) ?_
  exact ok_X0_total_j0  ht hE ⟨rfl, rfl⟩
theorem ok_X0_has_j0 {Q : Option AV → AH → Prop}  {σ : SS} {t : Nat} {x1 : Int32} {o}   (ht : t < 5) (hE : X0_has_j0  σ t x1 = some o) (hK : Q (some (vi o)) (hp σ)) : Ws 0 mi_X0_has Q 0 [some (vr 0 t), some (vi x1)] [] σ := by
  unfold X0_has_j0 at hE
  refine Wp.iload_n dc_X0_has_0 rfl ?_
  refine Wp.if_lt (tgt := 16) dc_X0_has_1 (by decide) (fun hc1 => ?_) (fun hc1 => ?_)
  · rw [if_pos hc1] at hE
    refine Wp.iconst dc_X0_has_16 ic_0 ?_
    cases hE
    exact Wp.ireturn dc_X0_has_17 rfl Nr.z0.1 (Nat.le_refl _) (Nat.le_refl _) hK
  · rw [if_neg hc1] at hE
    refine Wp.iload_n dc_X0_has_4 rfl ?_
    refine Wp.aload_n dc_X0_has_5 rfl ?_
    refine Wp.sgetI dc_X0_has_6 fw_X0_40 (mO0 (by omega)) ?_
    refine Wp.icmp_ge (tgt := 16) dc_X0_has_9 (by decide) (fun hc9 => ?_) (fun hc9 => ?_)
    · rw [if_pos hc9] at hE
      refine Wp.iconst dc_X0_has_16 ic_0 ?_
      cases hE
      exact Wp.ireturn dc_X0_has_17 rfl Nr.z0.1 (Nat.le_refl _) (Nat.le_refl _) hK
    · rw [if_neg hc9] at hE
      refine Wp.iconst dc_X0_has_12 ic_1 ?_
      refine Wp.goto (tgt := 17) dc_X0_has_13 (by decide) ?_
      cases hE
      exact Wp.ireturn dc_X0_has_17 rfl Nr.z1.1 (Nat.le_refl _) (Nat.le_refl _) hK
theorem ok_X0_has  {σ : SS} {t : Nat} {x1 : Int32} {o}  (ht : t < 5) (hE : X0_has  σ t x1 = some o) : Runs 0 0 0 mi_X0_has [vr 0 t, vi x1] (hp σ) (fun v h => v = some (vi o) ∧ h = hp σ) := by
  refine Runs.of pn_X0 (Nat.le_of_ble_eq_true rfl) ?_
  exact ok_X0_has_j0  ht hE ⟨rfl, rfl⟩
theorem ok_X0_hasLook_j0 {Q : Option AV → AH → Prop}  {σ : SS} {t : Nat} {x1 : Int32} {o}   (ht : t < 5) (hE : X0_hasLook_j0  σ t x1 = some o) (hK : Q (some (vi o)) (hp σ)) : Ws 0 mi_X0_hasLook Q 0 [some (vr 0 t), some (vi x1)] [] σ := by
  unfold X0_hasLook_j0 at hE
  refine Wp.iload_n dc_X0_hasLook_0 rfl ?_
  refine Wp.if_lt (tgt := 16) dc_X0_hasLook_1 (by decide) (fun hc1 => ?_) (fun hc1 => ?_)
  · rw [if_pos hc1] at hE
    refine Wp.iconst dc_X0_hasLook_16 ic_0 ?_
    cases hE
    exact Wp.ireturn dc_X0_hasLook_17 rfl Nr.z0.1 (Nat.le_refl _) (Nat.le_refl _) hK
  · rw [if_neg hc1] at hE
    refine Wp.iload_n dc_X0_hasLook_4 rfl ?_
    refine Wp.aload_n dc_X0_hasLook_5 rfl ?_
    refine Wp.sgetI dc_X0_hasLook_6 fw_X0_47 (mO0 (by omega)) ?_
    refine Wp.icmp_ge (tgt := 16) dc_X0_hasLook_9 (by decide) (fun hc9 => ?_) (fun hc9 => ?_)
    · rw [if_pos hc9] at hE
      refine Wp.iconst dc_X0_hasLook_16 ic_0 ?_
      cases hE
      exact Wp.ireturn dc_X0_hasLook_17 rfl Nr.z0.1 (Nat.le_refl _) (Nat.le_refl _) hK
    · rw [if_neg hc9] at hE
      refine Wp.iconst dc_X0_hasLook_12 ic_1 ?_
      refine Wp.goto (tgt := 17) dc_X0_hasLook_13 (by decide) ?_
      cases hE
      exact Wp.ireturn dc_X0_hasLook_17 rfl Nr.z1.1 (Nat.le_refl _) (Nat.le_refl _) hK
theorem ok_X0_hasLook  {σ : SS} {t : Nat} {x1 : Int32} {o}  (ht : t < 5) (hE : X0_hasLook  σ t x1 = some o) : Runs 0 0 0 mi_X0_hasLook [vr 0 t, vi x1] (hp σ) (fun v h => v = some (vi o) ∧ h = hp σ) := by
  refine Runs.of pn_X0 (Nat.le_of_ble_eq_true rfl) ?_
  exact ok_X0_hasLook_j0  ht hE ⟨rfl, rfl⟩
theorem ok_X0_isIn_j0 {Q : Option AV → AH → Prop}  {σ : SS} {t : Nat} {x1 : Int32} {o}   (ht : t < 5) (hE : X0_isIn_j0  σ t x1 = some o) (hK : Q (some (vi o)) (hp σ)) : Ws 1 mi_X0_isIn Q 0 [some (vr 0 t), some (vi x1)] [] σ := by
  unfold X0_isIn_j0 at hE
  refine Wp.aload_n dc_X0_isIn_0 rfl ?_
  refine Wp.iload_n dc_X0_isIn_1 rfl ?_
  obtain ⟨v2, h2, hE⟩ := bnd hE
  refine Wp.cV1i (ok_X0_has (by omega) h2) dc_X0_isIn_2 mw_X0_72 (mO0 (by omega)) (by decide) (Nat.le_of_ble_eq_true rfl) ?_
  refine Wp.if_eq (tgt := 24) dc_X0_isIn_5 (by decide) (fun hc5 => ?_) (fun hc5 => ?_)
  · rw [if_pos hc5] at hE
    refine Wp.iconst dc_X0_isIn_24 ic_0 ?_
    cases hE
    exact Wp.ireturn dc_X0_isIn_25 rfl Nr.z0.1 (Nat.le_refl _) (Nat.le_refl _) hK
  · rw [if_neg hc5] at hE
    refine Wp.aload_n dc_X0_isIn_8 rfl ?_
    refine Wp.sgetI dc_X0_isIn_9 fw_X0_50 (mO0 (by omega)) ?_
    refine Wp.iload_n dc_X0_isIn_12 rfl ?_
    refine Wp.ishr dc_X0_isIn_13 ?_
    refine Wp.iconst dc_X0_isIn_14 ic_1 ?_
    refine Wp.iand dc_X0_isIn_15 ?_
    refine Wp.iconst dc_X0_isIn_16 ic_1 ?_
    refine Wp.icmp_ne (tgt := 24) dc_X0_isIn_17 (by decide) (fun hc17 => ?_) (fun hc17 => ?_)
    · rw [if_neg hc17] at hE
      refine Wp.iconst dc_X0_isIn_24 ic_0 ?_
      cases hE
      exact Wp.ireturn dc_X0_isIn_25 rfl Nr.z0.1 (Nat.le_refl _) (Nat.le_refl _) hK
    · rw [if_pos hc17] at hE
      refine Wp.iconst dc_X0_isIn_20 ic_1 ?_
      refine Wp.goto (tgt := 25) dc_X0_isIn_21 (by decide) ?_
      cases hE
      exact Wp.ireturn dc_X0_isIn_25 rfl Nr.z1.1 (Nat.le_refl _) (Nat.le_refl _) hK
theorem ok_X0_isIn  {σ : SS} {t : Nat} {x1 : Int32} {o}  (ht : t < 5) (hE : X0_isIn  σ t x1 = some o) : Runs 1 0 0 mi_X0_isIn [vr 0 t, vi x1] (hp σ) (fun v h => v = some (vi o) ∧ h = hp σ) := by
  refine Runs.of pn_X0 (Nat.le_of_ble_eq_true rfl) ?_
  exact ok_X0_isIn_j0  ht hE ⟨rfl, rfl⟩
theorem ok_X0_hasClip_j0 {Q : Option AV → AH → Prop}  {σ : SS} {t : Nat} {x1 : Int32} {o}   (ht : t < 5) (hE : X0_hasClip_j0  σ t x1 = some o) (hK : Q (some (vi o)) (hp σ)) : Ws 1 mi_X0_hasClip Q 0 [some (vr 0 t), some (vi x1)] [] σ := by
  unfold X0_hasClip_j0 at hE
  refine Wp.aload_n dc_X0_hasClip_0 rfl ?_
  refine Wp.iload_n dc_X0_hasClip_1 rfl ?_
  obtain ⟨v2, h2, hE⟩ := bnd hE
  refine Wp.cV1i (ok_X0_has (by omega) h2) dc_X0_hasClip_2 mw_X0_72 (mO0 (by omega)) (by decide) (Nat.le_of_ble_eq_true rfl) ?_
  refine Wp.if_eq (tgt := 24) dc_X0_hasClip_5 (by decide) (fun hc5 => ?_) (fun hc5 => ?_)
  · rw [if_pos hc5] at hE
    refine Wp.iconst dc_X0_hasClip_24 ic_0 ?_
    cases hE
    exact Wp.ireturn dc_X0_hasClip_25 rfl Nr.z0.1 (Nat.le_refl _) (Nat.le_refl _) hK
  · rw [if_neg hc5] at hE
    refine Wp.aload_n dc_X0_hasClip_8 rfl ?_
    refine Wp.sgetI dc_X0_hasClip_9 fw_X0_53 (mO0 (by omega)) ?_
    refine Wp.iload_n dc_X0_hasClip_12 rfl ?_
    refine Wp.ishr dc_X0_hasClip_13 ?_
    refine Wp.iconst dc_X0_hasClip_14 ic_1 ?_
    refine Wp.iand dc_X0_hasClip_15 ?_
    refine Wp.iconst dc_X0_hasClip_16 ic_1 ?_
    refine Wp.icmp_ne (tgt := 24) dc_X0_hasClip_17 (by decide) (fun hc17 => ?_) (fun hc17 => ?_)
    · rw [if_neg hc17] at hE
      refine Wp.iconst dc_X0_hasClip_24 ic_0 ?_
      cases hE
      exact Wp.ireturn dc_X0_hasClip_25 rfl Nr.z0.1 (Nat.le_refl _) (Nat.le_refl _) hK
    · rw [if_pos hc17] at hE
      refine Wp.iconst dc_X0_hasClip_20 ic_1 ?_
      refine Wp.goto (tgt := 25) dc_X0_hasClip_21 (by decide) ?_
      cases hE
      exact Wp.ireturn dc_X0_hasClip_25 rfl Nr.z1.1 (Nat.le_refl _) (Nat.le_refl _) hK
theorem ok_X0_hasClip  {σ : SS} {t : Nat} {x1 : Int32} {o}  (ht : t < 5) (hE : X0_hasClip  σ t x1 = some o) : Runs 1 0 0 mi_X0_hasClip [vr 0 t, vi x1] (hp σ) (fun v h => v = some (vi o) ∧ h = hp σ) := by
  refine Runs.of pn_X0 (Nat.le_of_ble_eq_true rfl) ?_
  exact ok_X0_hasClip_j0  ht hE ⟨rfl, rfl⟩
theorem ok_X0_isFull_j0 {Q : Option AV → AH → Prop}  {σ : SS} {t : Nat}  {o}   (ht : t < 5) (hE : X0_isFull_j0  σ t  = some o) (hK : Q (some (vi o)) (hp σ)) : Ws 0 mi_X0_isFull Q 0 [some (vr 0 t)] [] σ := by
  unfold X0_isFull_j0 at hE
  refine Wp.aload_n dc_X0_isFull_0 rfl ?_
  refine Wp.sgetI dc_X0_isFull_1 fw_X0_44 (mO0 (by omega)) ?_
  refine Wp.bipush dc_X0_isFull_4 bp_24 ?_
  refine Wp.icmp_lt (tgt := 13) dc_X0_isFull_6 (by decide) (fun hc6 => ?_) (fun hc6 => ?_)
  · rw [if_pos hc6] at hE
    refine Wp.iconst dc_X0_isFull_13 ic_0 ?_
    cases hE
    exact Wp.ireturn dc_X0_isFull_14 rfl Nr.z0.1 (Nat.le_refl _) (Nat.le_refl _) hK
  · rw [if_neg hc6] at hE
    refine Wp.iconst dc_X0_isFull_9 ic_1 ?_
    refine Wp.goto (tgt := 14) dc_X0_isFull_10 (by decide) ?_
    cases hE
    exact Wp.ireturn dc_X0_isFull_14 rfl Nr.z1.1 (Nat.le_refl _) (Nat.le_refl _) hK
theorem ok_X0_isFull  {σ : SS} {t : Nat}  {o}  (ht : t < 5) (hE : X0_isFull  σ t  = some o) : Runs 0 0 0 mi_X0_isFull [vr 0 t] (hp σ) (fun v h => v = some (vi o) ∧ h = hp σ) := by
  refine Runs.of pn_X0 (Nat.le_of_ble_eq_true rfl) ?_
  exact ok_X0_isFull_j0  ht hE ⟨rfl, rfl⟩
theorem ok_X4_at_j0 {Q : Option AV → AH → Prop}  {σ : SS} {t : Nat} {x1 : Int32} {x2 : Int32} {o} {z3 : Option AV}  (ht : t < 31) (hE : X4_at_j0  σ t x1 x2 = some o) (hK : Q (some (vi o)) (hp σ)) : Ws 0 mi_X4_at Q 0 [some (vr 3 t), some (vi x1), some (vi x2), z3] [] σ := by
  unfold X4_at_j0 at hE
  refine Wp.iload_n dc_X4_at_0 rfl ?_
  refine Wp.if_lt (tgt := 24) dc_X4_at_1 (by decide) (fun hc1 => ?_) (fun hc1 => ?_)
  · rw [if_pos hc1] at hE
    refine Wp.iconst dc_X4_at_24 ic_0 ?_
    cases hE
    exact Wp.ireturn dc_X4_at_25 rfl rfl (Nat.le_refl _) (Nat.le_refl _) hK
  · rw [if_neg hc1] at hE
    refine Wp.iload_n dc_X4_at_4 rfl ?_
    refine Wp.aload_n dc_X4_at_5 rfl ?_
    refine Wp.sgetC (t := TR t) dc_X4_at_6 fw_X4_7 (mO3 (by omega)) rfl ?_
    refine Wp.icmp_ge (tgt := 24) dc_X4_at_9 (by decide) (fun hc9 => ?_) (fun hc9 => ?_)
    · rw [if_pos hc9] at hE
      refine Wp.iconst dc_X4_at_24 ic_0 ?_
      cases hE
      exact Wp.ireturn dc_X4_at_25 rfl rfl (Nat.le_refl _) (Nat.le_refl _) hK
    · rw [if_neg hc9] at hE
      refine Wp.iload_n dc_X4_at_12 rfl ?_
      refine Wp.if_lt (tgt := 24) dc_X4_at_13 (by decide) (fun hc13 => ?_) (fun hc13 => ?_)
      · rw [if_pos hc13] at hE
        refine Wp.iconst dc_X4_at_24 ic_0 ?_
        cases hE
        exact Wp.ireturn dc_X4_at_25 rfl rfl (Nat.le_refl _) (Nat.le_refl _) hK
      · rw [if_neg hc13] at hE
        refine Wp.iload_n dc_X4_at_16 rfl ?_
        refine Wp.aload_n dc_X4_at_17 rfl ?_
        refine Wp.sgetC (t := TW t) dc_X4_at_18 fw_X4_13 (mO3 (by omega)) rfl ?_
        refine Wp.icmp_lt (tgt := 26) dc_X4_at_21 (by decide) (fun hc21 => ?_) (fun hc21 => ?_)
        · rw [if_pos hc21] at hE
          refine Wp.iload_n dc_X4_at_26 rfl ?_
          refine Wp.aload_n dc_X4_at_27 rfl ?_
          refine Wp.sgetC (t := TW t) dc_X4_at_28 fw_X4_13 (mO3 (by omega)) rfl ?_
          refine Wp.imul dc_X4_at_31 ?_
          refine Wp.iload_n dc_X4_at_32 rfl ?_
          refine Wp.iadd dc_X4_at_33 ?_
          obtain ⟨x3_34, e_34, hE⟩ := bnS hE
          rw [e_34]
          refine Wp.istore_n dc_X4_at_34 (by decide) ?_
          refine Wp.iload_n dc_X4_at_35 rfl ?_
          refine Wp.if_lt (tgt := 57) dc_X4_at_36 (by decide) (fun hc36 => ?_) (fun hc36 => ?_)
          · rw [if_pos hc36] at hE
            refine Wp.iconst dc_X4_at_57 ic_0 ?_
            cases hE
            exact Wp.ireturn dc_X4_at_58 rfl rfl (Nat.le_refl _) (Nat.le_refl _) hK
          · rw [if_neg hc36] at hE
            refine Wp.iload_n dc_X4_at_39 rfl ?_
            refine Wp.aload_n dc_X4_at_40 rfl ?_
            refine Wp.sgetR (t := t) dc_X4_at_41 fw_X4_16 (mO3 (by omega)) rfl ?_
            refine Wp.salenI dc_X4_at_44 (mO13 (by omega)) ?_
            refine Wp.icmp_ge (tgt := 57) dc_X4_at_45 (by decide) (fun hc45 => ?_) (fun hc45 => ?_)
            · rw [if_pos hc45] at hE
              refine Wp.iconst dc_X4_at_57 ic_0 ?_
              cases hE
              exact Wp.ireturn dc_X4_at_58 rfl rfl (Nat.le_refl _) (Nat.le_refl _) hK
            · rw [if_neg hc45] at hE
              refine Wp.aload_n dc_X4_at_48 rfl ?_
              refine Wp.sgetR (t := t) dc_X4_at_49 fw_X4_16 (mO3 (by omega)) rfl ?_
              refine Wp.iload_n dc_X4_at_52 rfl ?_
              obtain ⟨j53, h53, hE⟩ := bnd hE
              refine Wp.siald dc_X4_at_53 (mO13 (by omega)) h53 ?_
              refine Wp.goto (tgt := 58) dc_X4_at_54 (by decide) ?_
              cases hE
              exact Wp.ireturn dc_X4_at_58 rfl rfl (Nat.le_refl _) (Nat.le_refl _) hK
        · rw [if_neg hc21] at hE
          refine Wp.iconst dc_X4_at_24 ic_0 ?_
          cases hE
          exact Wp.ireturn dc_X4_at_25 rfl rfl (Nat.le_refl _) (Nat.le_refl _) hK
theorem ok_X4_at  {σ : SS} {t : Nat} {x1 : Int32} {x2 : Int32} {o}  (ht : t < 31) (hE : X4_at  σ t x1 x2 = some o) : Runs 0 0 0 mi_X4_at [vr 3 t, vi x1, vi x2] (hp σ) (fun v h => v = some (vi o) ∧ h = hp σ) := by
  refine Runs.of pn_X4 (Nat.le_of_ble_eq_true rfl) ?_
  exact ok_X4_at_j0  ht hE ⟨rfl, rfl⟩
theorem ok_X0_otherAt_j0 {Q : Option AV → AH → Prop}  {σ : SS} {t : Nat} {x1 : Int32} {x2 : Int32} {o} {z3 z4 : Option AV}  (ht : t < 5) (hE : X0_otherAt_j0  σ t x1 x2 = some o) (hK : Q (some (vi o)) (hp σ)) : Ws 1 mi_X0_otherAt Q 0 [some (vr 0 t), some (vi x1), some (vi x2), z3, z4] [] σ := by
  unfold X0_otherAt_j0 at hE
  refine Wp.aload_n dc_X0_otherAt_0 rfl ?_
  refine Wp.sgetR (t := (4 * t + 2)) dc_X0_otherAt_1 fw_X0_27 (mO0 (by omega)) rfl ?_
  refine Wp.iconst dc_X0_otherAt_4 ic_0 ?_
  refine Wp.iload_n dc_X0_otherAt_5 rfl ?_
  obtain ⟨v6, h6, hE⟩ := bnd hE
  refine Wp.cV2i (ok_X4_at (by omega) h6) dc_X0_otherAt_6 mw_X0_89 (mO3 (by omega)) (by decide) (Nat.le_of_ble_eq_true rfl) ?_
  refine Wp.istore_n dc_X0_otherAt_9 (by decide) ?_
  refine Wp.aload_n dc_X0_otherAt_10 rfl ?_
  refine Wp.sgetR (t := (4 * t + 2)) dc_X0_otherAt_11 fw_X0_27 (mO0 (by omega)) rfl ?_
  refine Wp.iconst dc_X0_otherAt_14 ic_1 ?_
  refine Wp.iload_n dc_X0_otherAt_15 rfl ?_
  obtain ⟨v16, h16, hE⟩ := bnd hE
  refine Wp.cV2i (ok_X4_at (by omega) h16) dc_X0_otherAt_16 mw_X0_89 (mO3 (by omega)) (by decide) (Nat.le_of_ble_eq_true rfl) ?_
  refine Wp.istore dc_X0_otherAt_19 (by decide) ?_
  refine Wp.iload_n dc_X0_otherAt_21 rfl ?_
  refine Wp.iload_n dc_X0_otherAt_22 rfl ?_
  refine Wp.icmp_ne (tgt := 31) dc_X0_otherAt_23 (by decide) (fun hc23 => ?_) (fun hc23 => ?_)
  · rw [if_neg hc23] at hE
    refine Wp.iload dc_X0_otherAt_31 rfl ?_
    refine Wp.iload_n dc_X0_otherAt_33 rfl ?_
    refine Wp.icmp_ne (tgt := 41) dc_X0_otherAt_34 (by decide) (fun hc34 => ?_) (fun hc34 => ?_)
    · rw [if_neg hc34] at hE
      refine Wp.iconst dc_X0_otherAt_41 ic_m1 ?_
      cases hE
      exact Wp.ireturn dc_X0_otherAt_42 rfl rfl (Nat.le_refl _) (Nat.le_refl _) hK
    · rw [if_pos hc34] at hE
      refine Wp.iload_n dc_X0_otherAt_37 rfl ?_
      refine Wp.goto (tgt := 42) dc_X0_otherAt_38 (by decide) ?_
      cases hE
      exact Wp.ireturn dc_X0_otherAt_42 rfl rfl (Nat.le_refl _) (Nat.le_refl _) hK
  · rw [if_pos hc23] at hE
    refine Wp.iload dc_X0_otherAt_26 rfl ?_
    refine Wp.goto (tgt := 42) dc_X0_otherAt_28 (by decide) ?_
    cases hE
    exact Wp.ireturn dc_X0_otherAt_42 rfl rfl (Nat.le_refl _) (Nat.le_refl _) hK
theorem ok_X0_otherAt  {σ : SS} {t : Nat} {x1 : Int32} {x2 : Int32} {o}  (ht : t < 5) (hE : X0_otherAt  σ t x1 x2 = some o) : Runs 1 0 0 mi_X0_otherAt [vr 0 t, vi x1, vi x2] (hp σ) (fun v h => v = some (vi o) ∧ h = hp σ) := by
  refine Runs.of pn_X0 (Nat.le_of_ble_eq_true rfl) ?_
  exact ok_X0_otherAt_j0  ht hE ⟨rfl, rfl⟩
def X0_countOn_P4 (Q : Option AV → AH → Prop) (σ : SS) (t : Nat) (x1 : Int32) (ss : Int32 × Int32) : Prop := Ws 2 mi_X0_countOn Q 4 [some (vr 0 t), some (vi x1), some (vi ss.1), some (vi ss.2)] [] σ
def X0_countOn_R4 (Q : Option AV → AH → Prop) (σ : SS) (t : Nat) (x1 : Int32) (tt : Int32) : Prop := ∀ z0 z1 z3 : Option AV, Ws 2 mi_X0_countOn Q 36 [z0, z1, some (vi tt), z3] [] σ
theorem ok_X0_countOn_j28 {Q : Option AV → AH → Prop}  {σ : SS} {t : Nat} {x1 : Int32} {x3 : Int32} {s0 : Int32} {s1 : Int32} {o} {z2 : Option AV}  (ht : t < 5) (hE : X0_countOn_j28  σ t x1 x3 s0 s1 = some o) (hS : ∀ ss, o = Sum.inl ss → (X0_countOn_P4  Q σ t x1) ss) (hT : ∀ tt, o = Sum.inr tt → (X0_countOn_R4  Q σ t x1) tt) : Ws 2 mi_X0_countOn Q 28 [some (vr 0 t), some (vi x1), z2, some (vi x3)] [vi s1, vi s0] σ := by
  unfold X0_countOn_j28 at hE
  refine Wp.iadd dc_X0_countOn_28 ?_
  obtain ⟨x2_29, e_29, hE⟩ := bnS hE
  rw [e_29]
  refine Wp.istore_n dc_X0_countOn_29 (by decide) ?_
  obtain ⟨x3_30, e_30, hE⟩ := bnS hE
  refine Wp.iinc dc_X0_countOn_30 rfl ((ii ic_1).trans e_30) (by decide) ?_
  refine Wp.goto (tgt := 4) dc_X0_countOn_33 (by decide) ?_
  cases hE
  exact hS _ rfl
theorem ok_X0_countOn_l4c {Q : Option AV → AH → Prop}  {σ : SS} {t : Nat} {x1 : Int32} {x2 : Int32} {x3 : Int32} {o}   (ht : t < 5) (hE : X0_countOn_l4c  σ t x1 x2 x3 = some o) (hS : ∀ ss, o = Sum.inl ss → (X0_countOn_P4  Q σ t x1) ss) (hT : ∀ tt, o = Sum.inr tt → (X0_countOn_R4  Q σ t x1) tt) : Ws 2 mi_X0_countOn Q 4 [some (vr 0 t), some (vi x1), some (vi x2), some (vi x3)] [] σ := by
  unfold X0_countOn_l4c at hE
  refine Wp.iload_n dc_X0_countOn_4 rfl ?_
  refine Wp.aload_n dc_X0_countOn_5 rfl ?_
  refine Wp.sgetI dc_X0_countOn_6 fw_X0_44 (mO0 (by omega)) ?_
  refine Wp.icmp_ge (tgt := 36) dc_X0_countOn_9 (by decide) (fun hc9 => ?_) (fun hc9 => ?_)
  · rw [if_pos hc9] at hE
    cases hE
    exact hT _ rfl _ _ _
  · rw [if_neg hc9] at hE
    refine Wp.iload_n dc_X0_countOn_12 rfl ?_
    refine Wp.aload_n dc_X0_countOn_13 rfl ?_
    refine Wp.iload_n dc_X0_countOn_14 rfl ?_
    refine Wp.iload_n dc_X0_countOn_15 rfl ?_
    obtain ⟨v16, h16, hE⟩ := bnd hE
    refine Wp.cV2i (ok_X0_otherAt (by omega) h16) dc_X0_countOn_16 mw_X0_96 (mO0 (by omega)) (by decide) (Nat.le_of_ble_eq_true rfl) ?_
    refine Wp.iconst dc_X0_countOn_19 ic_m1 ?_
    refine Wp.icmp_ne (tgt := 27) dc_X0_countOn_20 (by decide) (fun hc20 => ?_) (fun hc20 => ?_)
    · rw [if_neg hc20] at hE
      refine Wp.iconst dc_X0_countOn_27 ic_1 ?_
      exact ok_X0_countOn_j28  ht hE hS hT
    · rw [if_pos hc20] at hE
      refine Wp.iconst dc_X0_countOn_23 ic_0 ?_
      refine Wp.goto (tgt := 28) dc_X0_countOn_24 (by decide) ?_
      exact ok_X0_countOn_j28  ht hE hS hT
theorem ok_X0_countOn_l4 {Q : Option AV → AH → Prop}  {σ : SS} {t : Nat} {x1 : Int32} {x2 : Int32} {x3 : Int32} {o}   (ht : t < 5) (hE : X0_countOn_l4  σ t x1 x2 x3 = some o) (hK : Q (some (vi o)) (hp σ)) : Ws 2 mi_X0_countOn Q 4 [some (vr 0 t), some (vi x1), some (vi x2), some (vi x3)] [] σ := by
  unfold X0_countOn_l4 at hE
  obtain ⟨t4, h1, hE⟩ := bnd hE
  refine iter_ok (P := (X0_countOn_P4  Q σ t x1)) (R := (X0_countOn_R4  Q σ t x1)) (fun ss o h2 hS hT => ?_) NF _ _ h1 ?_
  · skip
    exact ok_X0_countOn_l4c  ht h2 hS hT
  · intro z0 z1 z3
    show Ws 2 mi_X0_countOn Q 36 [z0, z1, some (vi t4), z3] [] σ
    refine Wp.iload_n dc_X0_countOn_36 rfl ?_
    cases hE
    exact Wp.ireturn dc_X0_countOn_37 rfl rfl (Nat.le_refl _) (Nat.le_refl _) hK
theorem ok_X0_countOn_j0 {Q : Option AV → AH → Prop}  {σ : SS} {t : Nat} {x1 : Int32} {o} {z2 z3 : Option AV}  (ht : t < 5) (hE : X0_countOn_j0  σ t x1 = some o) (hK : Q (some (vi o)) (hp σ)) : Ws 2 mi_X0_countOn Q 0 [some (vr 0 t), some (vi x1), z2, z3] [] σ := by
  unfold X0_countOn_j0 at hE
  refine Wp.iconst dc_X0_countOn_0 ic_0 ?_
  refine Wp.istore_n dc_X0_countOn_1 (by decide) ?_
  refine Wp.iconst dc_X0_countOn_2 ic_0 ?_
  refine Wp.istore_n dc_X0_countOn_3 (by decide) ?_
  exact ok_X0_countOn_l4  ht hE hK
theorem ok_X0_countOn  {σ : SS} {t : Nat} {x1 : Int32} {o}  (ht : t < 5) (hE : X0_countOn  σ t x1 = some o) : Runs 2 0 0 mi_X0_countOn [vr 0 t, vi x1] (hp σ) (fun v h => v = some (vi o) ∧ h = hp σ) := by
  refine Runs.of pn_X0 (Nat.le_of_ble_eq_true rfl) ?_
  exact ok_X0_countOn_j0  ht hE ⟨rfl, rfl⟩
theorem ok_X0_isFree_j0 {Q : Option AV → AH → Prop}  {σ : SS} {t : Nat} {x1 : Int32} {o}   (ht : t < 5) (hE : X0_isFree_j0  σ t x1 = some o) (hK : Q (some (vi o)) (hp σ)) : Ws 3 mi_X0_isFree Q 0 [some (vr 0 t), some (vi x1)] [] σ := by
  unfold X0_isFree_j0 at hE
  refine Wp.aload_n dc_X0_isFree_0 rfl ?_
  refine Wp.iload_n dc_X0_isFree_1 rfl ?_
  obtain ⟨v2, h2, hE⟩ := bnd hE
  refine Wp.cV1i (ok_X0_isIn (by omega) h2) dc_X0_isFree_2 mw_X0_76 (mO0 (by omega)) (by decide) (Nat.le_of_ble_eq_true rfl) ?_
  refine Wp.if_eq (tgt := 20) dc_X0_isFree_5 (by decide) (fun hc5 => ?_) (fun hc5 => ?_)
  · rw [if_pos hc5] at hE
    refine Wp.iconst dc_X0_isFree_20 ic_0 ?_
    cases hE
    exact Wp.ireturn dc_X0_isFree_21 rfl Nr.z0.1 (Nat.le_refl _) (Nat.le_refl _) hK
  · rw [if_neg hc5] at hE
    refine Wp.aload_n dc_X0_isFree_8 rfl ?_
    refine Wp.iload_n dc_X0_isFree_9 rfl ?_
    obtain ⟨v10, h10, hE⟩ := bnd hE
    refine Wp.cV1i (ok_X0_countOn (by omega) h10) dc_X0_isFree_10 mw_X0_79 (mO0 (by omega)) (by decide) (Nat.le_of_ble_eq_true rfl) ?_
    refine Wp.if_ne (tgt := 20) dc_X0_isFree_13 (by decide) (fun hc13 => ?_) (fun hc13 => ?_)
    · rw [if_neg hc13] at hE
      refine Wp.iconst dc_X0_isFree_20 ic_0 ?_
      cases hE
      exact Wp.ireturn dc_X0_isFree_21 rfl Nr.z0.1 (Nat.le_refl _) (Nat.le_refl _) hK
    · rw [if_pos hc13] at hE
      refine Wp.iconst dc_X0_isFree_16 ic_1 ?_
      refine Wp.goto (tgt := 21) dc_X0_isFree_17 (by decide) ?_
      cases hE
      exact Wp.ireturn dc_X0_isFree_21 rfl Nr.z1.1 (Nat.le_refl _) (Nat.le_refl _) hK
theorem ok_X0_isFree  {σ : SS} {t : Nat} {x1 : Int32} {o}  (ht : t < 5) (hE : X0_isFree  σ t x1 = some o) : Runs 3 0 0 mi_X0_isFree [vr 0 t, vi x1] (hp σ) (fun v h => v = some (vi o) ∧ h = hp σ) := by
  refine Runs.of pn_X0 (Nat.le_of_ble_eq_true rfl) ?_
  exact ok_X0_isFree_j0  ht hE ⟨rfl, rfl⟩
theorem ok_X0_canGetClip_j0 {Q : Option AV → AH → Prop}  {σ : SS} {t : Nat} {x1 : Int32} {o}   (ht : t < 5) (hE : X0_canGetClip_j0  σ t x1 = some o) (hK : Q (some (vi o)) (hp σ)) : Ws 4 mi_X0_canGetClip Q 0 [some (vr 0 t), some (vi x1)] [] σ := by
  unfold X0_canGetClip_j0 at hE
  refine Wp.aload_n dc_X0_canGetClip_0 rfl ?_
  refine Wp.iload_n dc_X0_canGetClip_1 rfl ?_
  obtain ⟨v2, h2, hE⟩ := bnd hE
  refine Wp.cV1i (ok_X0_isFree (by omega) h2) dc_X0_canGetClip_2 mw_X0_83 (mO0 (by omega)) (by decide) (Nat.le_of_ble_eq_true rfl) ?_
  refine Wp.if_eq (tgt := 20) dc_X0_canGetClip_5 (by decide) (fun hc5 => ?_) (fun hc5 => ?_)
  · rw [if_pos hc5] at hE
    refine Wp.iconst dc_X0_canGetClip_20 ic_0 ?_
    cases hE
    exact Wp.ireturn dc_X0_canGetClip_21 rfl Nr.z0.1 (Nat.le_refl _) (Nat.le_refl _) hK
  · rw [if_neg hc5] at hE
    refine Wp.aload_n dc_X0_canGetClip_8 rfl ?_
    refine Wp.iload_n dc_X0_canGetClip_9 rfl ?_
    obtain ⟨v10, h10, hE⟩ := bnd hE
    refine Wp.cV1i (ok_X0_hasClip (by omega) h10) dc_X0_canGetClip_10 mw_X0_86 (mO0 (by omega)) (by decide) (Nat.le_of_ble_eq_true rfl) ?_
    refine Wp.if_ne (tgt := 20) dc_X0_canGetClip_13 (by decide) (fun hc13 => ?_) (fun hc13 => ?_)
    · rw [if_neg hc13] at hE
      refine Wp.iconst dc_X0_canGetClip_20 ic_0 ?_
      cases hE
      exact Wp.ireturn dc_X0_canGetClip_21 rfl Nr.z0.1 (Nat.le_refl _) (Nat.le_refl _) hK
    · rw [if_pos hc13] at hE
      refine Wp.iconst dc_X0_canGetClip_16 ic_1 ?_
      refine Wp.goto (tgt := 21) dc_X0_canGetClip_17 (by decide) ?_
      cases hE
      exact Wp.ireturn dc_X0_canGetClip_21 rfl Nr.z1.1 (Nat.le_refl _) (Nat.le_refl _) hK
theorem ok_X0_canGetClip  {σ : SS} {t : Nat} {x1 : Int32} {o}  (ht : t < 5) (hE : X0_canGetClip  σ t x1 = some o) : Runs 4 0 0 mi_X0_canGetClip [vr 0 t, vi x1] (hp σ) (fun v h => v = some (vi o) ∧ h = hp σ) := by
  refine Runs.of pn_X0 (Nat.le_of_ble_eq_true rfl) ?_
  exact ok_X0_canGetClip_j0  ht hE ⟨rfl, rfl⟩
theorem ok_X0_canBeCrossed_j0 {Q : Option AV → AH → Prop}  {σ : SS} {t : Nat} {x1 : Int32} {o}   (ht : t < 5) (hE : X0_canBeCrossed_j0  σ t x1 = some o) (hK : Q (some (vi o)) (hp σ)) : Ws 2 mi_X0_canBeCrossed Q 0 [some (vr 0 t), some (vi x1)] [] σ := by
  unfold X0_canBeCrossed_j0 at hE
  refine Wp.aload_n dc_X0_canBeCrossed_0 rfl ?_
  refine Wp.iload_n dc_X0_canBeCrossed_1 rfl ?_
  obtain ⟨v2, h2, hE⟩ := bnd hE
  refine Wp.cV1i (ok_X0_isIn (by omega) h2) dc_X0_canBeCrossed_2 mw_X0_76 (mO0 (by omega)) (by decide) (Nat.le_of_ble_eq_true rfl) ?_
  refine Wp.if_eq (tgt := 20) dc_X0_canBeCrossed_5 (by decide) (fun hc5 => ?_) (fun hc5 => ?_)
  · rw [if_pos hc5] at hE
    refine Wp.iconst dc_X0_canBeCrossed_20 ic_0 ?_
    cases hE
    exact Wp.ireturn dc_X0_canBeCrossed_21 rfl Nr.z0.1 (Nat.le_refl _) (Nat.le_refl _) hK
  · rw [if_neg hc5] at hE
    refine Wp.aload_n dc_X0_canBeCrossed_8 rfl ?_
    refine Wp.iload_n dc_X0_canBeCrossed_9 rfl ?_
    obtain ⟨v10, h10, hE⟩ := bnd hE
    refine Wp.cV1i (ok_X0_hasClip (by omega) h10) dc_X0_canBeCrossed_10 mw_X0_86 (mO0 (by omega)) (by decide) (Nat.le_of_ble_eq_true rfl) ?_
    refine Wp.if_ne (tgt := 20) dc_X0_canBeCrossed_13 (by decide) (fun hc13 => ?_) (fun hc13 => ?_)
    · rw [if_neg hc13] at hE
      refine Wp.iconst dc_X0_canBeCrossed_20 ic_0 ?_
      cases hE
      exact Wp.ireturn dc_X0_canBeCrossed_21 rfl Nr.z0.1 (Nat.le_refl _) (Nat.le_refl _) hK
    · rw [if_pos hc13] at hE
      refine Wp.iconst dc_X0_canBeCrossed_16 ic_1 ?_
      refine Wp.goto (tgt := 21) dc_X0_canBeCrossed_17 (by decide) ?_
      cases hE
      exact Wp.ireturn dc_X0_canBeCrossed_21 rfl Nr.z1.1 (Nat.le_refl _) (Nat.le_refl _) hK
theorem ok_X0_canBeCrossed  {σ : SS} {t : Nat} {x1 : Int32} {o}  (ht : t < 5) (hE : X0_canBeCrossed  σ t x1 = some o) : Runs 2 0 0 mi_X0_canBeCrossed [vr 0 t, vi x1] (hp σ) (fun v h => v = some (vi o) ∧ h = hp σ) := by
  refine Runs.of pn_X0 (Nat.le_of_ble_eq_true rfl) ?_
  exact ok_X0_canBeCrossed_j0  ht hE ⟨rfl, rfl⟩
theorem ok_X0_unclippedSet_j0 {Q : Option AV → AH → Prop}  {σ : SS} {t : Nat}  {o}   (ht : t < 5) (hE : X0_unclippedSet_j0  σ t  = some o) (hK : Q (some (vi o)) (hp σ)) : Ws 0 mi_X0_unclippedSet Q 0 [some (vr 0 t)] [] σ := by
  unfold X0_unclippedSet_j0 at hE
  refine Wp.aload_n dc_X0_unclippedSet_0 rfl ?_
  refine Wp.sgetI dc_X0_unclippedSet_1 fw_X0_50 (mO0 (by omega)) ?_
  refine Wp.aload_n dc_X0_unclippedSet_4 rfl ?_
  refine Wp.sgetI dc_X0_unclippedSet_5 fw_X0_53 (mO0 (by omega)) ?_
  refine Wp.iconst dc_X0_unclippedSet_8 ic_m1 ?_
  refine Wp.ixor dc_X0_unclippedSet_9 ?_
  refine Wp.iand dc_X0_unclippedSet_10 ?_
  cases hE
  exact Wp.ireturn dc_X0_unclippedSet_11 rfl rfl (Nat.le_refl _) (Nat.le_refl _) hK
theorem ok_X0_unclippedSet  {σ : SS} {t : Nat}  {o}  (ht : t < 5) (hE : X0_unclippedSet  σ t  = some o) : Runs 0 0 0 mi_X0_unclippedSet [vr 0 t] (hp σ) (fun v h => v = some (vi o) ∧ h = hp σ) := by
  refine Runs.of pn_X0 (Nat.le_of_ble_eq_true rfl) ?_
  exact ok_X0_unclippedSet_j0  ht hE ⟨rfl, rfl⟩
theorem ok_X0_number_j0 {Q : Option AV → AH → Prop}  {σ : SS} {t : Nat} {x1 : Int32} {x2 : Int32} {o}   (ht : t < 5) (hE : X0_number_j0  σ t x1 x2 = some o) (hK : Q (some (vi o)) (hp σ)) : Ws 1 mi_X0_number Q 0 [some (vr 0 t), some (vi x1), some (vi x2)] [] σ := by
  unfold X0_number_j0 at hE
  refine Wp.aload_n dc_X0_number_0 rfl ?_
  refine Wp.sgetR (t := (4 * t + 1)) dc_X0_number_1 fw_X0_23 (mO0 (by omega)) rfl ?_
  refine Wp.iload_n dc_X0_number_4 rfl ?_
  refine Wp.iload_n dc_X0_number_5 rfl ?_
  obtain ⟨v6, h6, hE⟩ := bnd hE
  refine Wp.cV2i (ok_X4_at (by omega) h6) dc_X0_number_6 mw_X0_89 (mO3 (by omega)) (by decide) (Nat.le_of_ble_eq_true rfl) ?_
  cases hE
  exact Wp.ireturn dc_X0_number_9 rfl rfl (Nat.le_refl _) (Nat.le_refl _) hK
theorem ok_X0_number  {σ : SS} {t : Nat} {x1 : Int32} {x2 : Int32} {o}  (ht : t < 5) (hE : X0_number  σ t x1 x2 = some o) : Runs 1 0 0 mi_X0_number [vr 0 t, vi x1, vi x2] (hp σ) (fun v h => v = some (vi o) ∧ h = hp σ) := by
  refine Runs.of pn_X0 (Nat.le_of_ble_eq_true rfl) ?_
  exact ok_X0_number_j0  ht hE ⟨rfl, rfl⟩
theorem ok_X0_lookSet_j0 {Q : Option AV → AH → Prop}  {σ : SS} {t : Nat} {x1 : Int32} {o}   (ht : t < 5) (hE : X0_lookSet_j0  σ t x1 = some o) (hK : Q (some (vi o)) (hp σ)) : Ws 1 mi_X0_lookSet Q 0 [some (vr 0 t), some (vi x1)] [] σ := by
  unfold X0_lookSet_j0 at hE
  refine Wp.aload_n dc_X0_lookSet_0 rfl ?_
  refine Wp.iload_n dc_X0_lookSet_1 rfl ?_
  obtain ⟨v2, h2, hE⟩ := bnd hE
  refine Wp.cV1i (ok_X0_hasLook (by omega) h2) dc_X0_lookSet_2 mw_X0_93 (mO0 (by omega)) (by decide) (Nat.le_of_ble_eq_true rfl) ?_
  refine Wp.if_eq (tgt := 20) dc_X0_lookSet_5 (by decide) (fun hc5 => ?_) (fun hc5 => ?_)
  · rw [if_pos hc5] at hE
    refine Wp.iconst dc_X0_lookSet_20 ic_0 ?_
    cases hE
    exact Wp.ireturn dc_X0_lookSet_21 rfl rfl (Nat.le_refl _) (Nat.le_refl _) hK
  · rw [if_neg hc5] at hE
    refine Wp.aload_n dc_X0_lookSet_8 rfl ?_
    refine Wp.sgetR (t := (4 * t + 3)) dc_X0_lookSet_9 fw_X0_30 (mO0 (by omega)) rfl ?_
    refine Wp.iconst dc_X0_lookSet_12 ic_0 ?_
    refine Wp.iload_n dc_X0_lookSet_13 rfl ?_
    obtain ⟨v14, h14, hE⟩ := bnd hE
    refine Wp.cV2i (ok_X4_at (by omega) h14) dc_X0_lookSet_14 mw_X0_89 (mO3 (by omega)) (by decide) (Nat.le_of_ble_eq_true rfl) ?_
    refine Wp.goto (tgt := 21) dc_X0_lookSet_17 (by decide) ?_
    cases hE
    exact Wp.ireturn dc_X0_lookSet_21 rfl rfl (Nat.le_refl _) (Nat.le_refl _) hK
theorem ok_X0_lookSet  {σ : SS} {t : Nat} {x1 : Int32} {o}  (ht : t < 5) (hE : X0_lookSet  σ t x1 = some o) : Runs 1 0 0 mi_X0_lookSet [vr 0 t, vi x1] (hp σ) (fun v h => v = some (vi o) ∧ h = hp σ) := by
  refine Runs.of pn_X0 (Nat.le_of_ble_eq_true rfl) ?_
  exact ok_X0_lookSet_j0  ht hE ⟨rfl, rfl⟩
theorem ok_X0_crossingAt_j0 {Q : Option AV → AH → Prop}  {σ : SS} {t : Nat} {x1 : Int32} {x2 : Int32} {o}   (ht : t < 5) (hE : X0_crossingAt_j0  σ t x1 x2 = some o) (hK : Q (some (vi o)) (hp σ)) : Ws 1 mi_X0_crossingAt Q 0 [some (vr 0 t), some (vi x1), some (vi x2)] [] σ := by
  unfold X0_crossingAt_j0 at hE
  refine Wp.aload_n dc_X0_crossingAt_0 rfl ?_
  refine Wp.sgetR (t := (4 * t + 2)) dc_X0_crossingAt_1 fw_X0_27 (mO0 (by omega)) rfl ?_
  refine Wp.iload_n dc_X0_crossingAt_4 rfl ?_
  refine Wp.iload_n dc_X0_crossingAt_5 rfl ?_
  obtain ⟨v6, h6, hE⟩ := bnd hE
  refine Wp.cV2i (ok_X4_at (by omega) h6) dc_X0_crossingAt_6 mw_X0_89 (mO3 (by omega)) (by decide) (Nat.le_of_ble_eq_true rfl) ?_
  cases hE
  exact Wp.ireturn dc_X0_crossingAt_9 rfl rfl (Nat.le_refl _) (Nat.le_refl _) hK
theorem ok_X0_crossingAt  {σ : SS} {t : Nat} {x1 : Int32} {x2 : Int32} {o}  (ht : t < 5) (hE : X0_crossingAt  σ t x1 x2 = some o) : Runs 1 0 0 mi_X0_crossingAt [vr 0 t, vi x1, vi x2] (hp σ) (fun v h => v = some (vi o) ∧ h = hp σ) := by
  refine Runs.of pn_X0 (Nat.le_of_ble_eq_true rfl) ?_
  exact ok_X0_crossingAt_j0  ht hE ⟨rfl, rfl⟩
theorem ok_X0_stateAt_j0 {Q : Option AV → AH → Prop}  {σ : SS} {t : Nat} {x1 : Int32} {o}   (ht : t < 5) (hE : X0_stateAt_j0  σ t x1 = some o) (hK : Q (some (vi o)) (hp σ)) : Ws 1 mi_X0_stateAt Q 0 [some (vr 0 t), some (vi x1)] [] σ := by
  unfold X0_stateAt_j0 at hE
  refine Wp.aload_n dc_X0_stateAt_0 rfl ?_
  refine Wp.sgetR (t := (4 * t + 2)) dc_X0_stateAt_1 fw_X0_27 (mO0 (by omega)) rfl ?_
  refine Wp.iconst dc_X0_stateAt_4 ic_2 ?_
  refine Wp.iload_n dc_X0_stateAt_5 rfl ?_
  obtain ⟨v6, h6, hE⟩ := bnd hE
  refine Wp.cV2i (ok_X4_at (by omega) h6) dc_X0_stateAt_6 mw_X0_89 (mO3 (by omega)) (by decide) (Nat.le_of_ble_eq_true rfl) ?_
  cases hE
  exact Wp.ireturn dc_X0_stateAt_9 rfl rfl (Nat.le_refl _) (Nat.le_refl _) hK
theorem ok_X0_stateAt  {σ : SS} {t : Nat} {x1 : Int32} {o}  (ht : t < 5) (hE : X0_stateAt  σ t x1 = some o) : Runs 1 0 0 mi_X0_stateAt [vr 0 t, vi x1] (hp σ) (fun v h => v = some (vi o) ∧ h = hp σ) := by
  refine Runs.of pn_X0 (Nat.le_of_ble_eq_true rfl) ?_
  exact ok_X0_stateAt_j0  ht hE ⟨rfl, rfl⟩
def X0_countBetween_P5 (Q : Option AV → AH → Prop) (σ : SS) (t : Nat) (x1 : Int32) (x2 : Int32) (ss : Int32 × Int32) : Prop := Ws 2 mi_X0_countBetween Q 5 [some (vr 0 t), some (vi x1), some (vi x2), some (vi ss.1), some (vi ss.2)] [] σ
def X0_countBetween_R5 (Q : Option AV → AH → Prop) (σ : SS) (t : Nat) (x1 : Int32) (x2 : Int32) (tt : Int32) : Prop := ∀ z0 z1 z2 z4 : Option AV, Ws 2 mi_X0_countBetween Q 39 [z0, z1, z2, some (vi tt), z4] [] σ
theorem ok_X0_countBetween_j31 {Q : Option AV → AH → Prop}  {σ : SS} {t : Nat} {x1 : Int32} {x2 : Int32} {x4 : Int32} {s0 : Int32} {s1 : Int32} {o} {z3 : Option AV}  (ht : t < 5) (hE : X0_countBetween_j31  σ t x1 x2 x4 s0 s1 = some o) (hS : ∀ ss, o = Sum.inl ss → (X0_countBetween_P5  Q σ t x1 x2) ss) (hT : ∀ tt, o = Sum.inr tt → (X0_countBetween_R5  Q σ t x1 x2) tt) : Ws 2 mi_X0_countBetween Q 31 [some (vr 0 t), some (vi x1), some (vi x2), z3, some (vi x4)] [vi s1, vi s0] σ := by
  unfold X0_countBetween_j31 at hE
  refine Wp.iadd dc_X0_countBetween_31 ?_
  obtain ⟨x3_32, e_32, hE⟩ := bnS hE
  rw [e_32]
  refine Wp.istore_n dc_X0_countBetween_32 (by decide) ?_
  obtain ⟨x4_33, e_33, hE⟩ := bnS hE
  refine Wp.iinc dc_X0_countBetween_33 rfl ((ii ic_1).trans e_33) (by decide) ?_
  refine Wp.goto (tgt := 5) dc_X0_countBetween_36 (by decide) ?_
  cases hE
  exact hS _ rfl
theorem ok_X0_countBetween_l5c {Q : Option AV → AH → Prop}  {σ : SS} {t : Nat} {x1 : Int32} {x2 : Int32} {x3 : Int32} {x4 : Int32} {o}   (ht : t < 5) (hE : X0_countBetween_l5c  σ t x1 x2 x3 x4 = some o) (hS : ∀ ss, o = Sum.inl ss → (X0_countBetween_P5  Q σ t x1 x2) ss) (hT : ∀ tt, o = Sum.inr tt → (X0_countBetween_R5  Q σ t x1 x2) tt) : Ws 2 mi_X0_countBetween Q 5 [some (vr 0 t), some (vi x1), some (vi x2), some (vi x3), some (vi x4)] [] σ := by
  unfold X0_countBetween_l5c at hE
  refine Wp.iload dc_X0_countBetween_5 rfl ?_
  refine Wp.aload_n dc_X0_countBetween_7 rfl ?_
  refine Wp.sgetI dc_X0_countBetween_8 fw_X0_44 (mO0 (by omega)) ?_
  refine Wp.icmp_ge (tgt := 39) dc_X0_countBetween_11 (by decide) (fun hc11 => ?_) (fun hc11 => ?_)
  · rw [if_pos hc11] at hE
    cases hE
    exact hT _ rfl _ _ _ _
  · rw [if_neg hc11] at hE
    refine Wp.iload_n dc_X0_countBetween_14 rfl ?_
    refine Wp.aload_n dc_X0_countBetween_15 rfl ?_
    refine Wp.iload dc_X0_countBetween_16 rfl ?_
    refine Wp.iload_n dc_X0_countBetween_18 rfl ?_
    obtain ⟨v19, h19, hE⟩ := bnd hE
    refine Wp.cV2i (ok_X0_otherAt (by omega) h19) dc_X0_countBetween_19 mw_X0_96 (mO0 (by omega)) (by decide) (Nat.le_of_ble_eq_true rfl) ?_
    refine Wp.iload_n dc_X0_countBetween_22 rfl ?_
    refine Wp.icmp_ne (tgt := 30) dc_X0_countBetween_23 (by decide) (fun hc23 => ?_) (fun hc23 => ?_)
    · rw [if_neg hc23] at hE
      refine Wp.iconst dc_X0_countBetween_30 ic_0 ?_
      exact ok_X0_countBetween_j31  ht hE hS hT
    · rw [if_pos hc23] at hE
      refine Wp.iconst dc_X0_countBetween_26 ic_1 ?_
      refine Wp.goto (tgt := 31) dc_X0_countBetween_27 (by decide) ?_
      exact ok_X0_countBetween_j31  ht hE hS hT
theorem ok_X0_countBetween_l5 {Q : Option AV → AH → Prop}  {σ : SS} {t : Nat} {x1 : Int32} {x2 : Int32} {x3 : Int32} {x4 : Int32} {o}   (ht : t < 5) (hE : X0_countBetween_l5  σ t x1 x2 x3 x4 = some o) (hK : Q (some (vi o)) (hp σ)) : Ws 2 mi_X0_countBetween Q 5 [some (vr 0 t), some (vi x1), some (vi x2), some (vi x3), some (vi x4)] [] σ := by
  unfold X0_countBetween_l5 at hE
  obtain ⟨t5, h1, hE⟩ := bnd hE
  refine iter_ok (P := (X0_countBetween_P5  Q σ t x1 x2)) (R := (X0_countBetween_R5  Q σ t x1 x2)) (fun ss o h2 hS hT => ?_) NF _ _ h1 ?_
  · skip
    exact ok_X0_countBetween_l5c  ht h2 hS hT
  · intro z0 z1 z2 z4
    show Ws 2 mi_X0_countBetween Q 39 [z0, z1, z2, some (vi t5), z4] [] σ
    refine Wp.iload_n dc_X0_countBetween_39 rfl ?_
    cases hE
    exact Wp.ireturn dc_X0_countBetween_40 rfl rfl (Nat.le_refl _) (Nat.le_refl _) hK
theorem ok_X0_countBetween_j0 {Q : Option AV → AH → Prop}  {σ : SS} {t : Nat} {x1 : Int32} {x2 : Int32} {o} {z3 z4 : Option AV}  (ht : t < 5) (hE : X0_countBetween_j0  σ t x1 x2 = some o) (hK : Q (some (vi o)) (hp σ)) : Ws 2 mi_X0_countBetween Q 0 [some (vr 0 t), some (vi x1), some (vi x2), z3, z4] [] σ := by
  unfold X0_countBetween_j0 at hE
  refine Wp.iconst dc_X0_countBetween_0 ic_0 ?_
  refine Wp.istore_n dc_X0_countBetween_1 (by decide) ?_
  refine Wp.iconst dc_X0_countBetween_2 ic_0 ?_
  refine Wp.istore dc_X0_countBetween_3 (by decide) ?_
  exact ok_X0_countBetween_l5  ht hE hK
theorem ok_X0_countBetween  {σ : SS} {t : Nat} {x1 : Int32} {x2 : Int32} {o}  (ht : t < 5) (hE : X0_countBetween  σ t x1 x2 = some o) : Runs 2 0 0 mi_X0_countBetween [vr 0 t, vi x1, vi x2] (hp σ) (fun v h => v = some (vi o) ∧ h = hp σ) := by
  refine Runs.of pn_X0 (Nat.le_of_ble_eq_true rfl) ?_
  exact ok_X0_countBetween_j0  ht hE ⟨rfl, rfl⟩
def X0_countInState_P4 (Q : Option AV → AH → Prop) (σ : SS) (t : Nat) (x1 : Int32) (ss : Int32 × Int32) : Prop := Ws 2 mi_X0_countInState Q 4 [some (vr 0 t), some (vi x1), some (vi ss.1), some (vi ss.2)] [] σ
def X0_countInState_R4 (Q : Option AV → AH → Prop) (σ : SS) (t : Nat) (x1 : Int32) (tt : Int32) : Prop := ∀ z0 z1 z3 : Option AV, Ws 2 mi_X0_countInState Q 35 [z0, z1, some (vi tt), z3] [] σ
theorem ok_X0_countInState_j27 {Q : Option AV → AH → Prop}  {σ : SS} {t : Nat} {x1 : Int32} {x3 : Int32} {s0 : Int32} {s1 : Int32} {o} {z2 : Option AV}  (ht : t < 5) (hE : X0_countInState_j27  σ t x1 x3 s0 s1 = some o) (hS : ∀ ss, o = Sum.inl ss → (X0_countInState_P4  Q σ t x1) ss) (hT : ∀ tt, o = Sum.inr tt → (X0_countInState_R4  Q σ t x1) tt) : Ws 2 mi_X0_countInState Q 27 [some (vr 0 t), some (vi x1), z2, some (vi x3)] [vi s1, vi s0] σ := by
  unfold X0_countInState_j27 at hE
  refine Wp.iadd dc_X0_countInState_27 ?_
  obtain ⟨x2_28, e_28, hE⟩ := bnS hE
  rw [e_28]
  refine Wp.istore_n dc_X0_countInState_28 (by decide) ?_
  obtain ⟨x3_29, e_29, hE⟩ := bnS hE
  refine Wp.iinc dc_X0_countInState_29 rfl ((ii ic_1).trans e_29) (by decide) ?_
  refine Wp.goto (tgt := 4) dc_X0_countInState_32 (by decide) ?_
  cases hE
  exact hS _ rfl
theorem ok_X0_countInState_l4c {Q : Option AV → AH → Prop}  {σ : SS} {t : Nat} {x1 : Int32} {x2 : Int32} {x3 : Int32} {o}   (ht : t < 5) (hE : X0_countInState_l4c  σ t x1 x2 x3 = some o) (hS : ∀ ss, o = Sum.inl ss → (X0_countInState_P4  Q σ t x1) ss) (hT : ∀ tt, o = Sum.inr tt → (X0_countInState_R4  Q σ t x1) tt) : Ws 2 mi_X0_countInState Q 4 [some (vr 0 t), some (vi x1), some (vi x2), some (vi x3)] [] σ := by
  unfold X0_countInState_l4c at hE
  refine Wp.iload_n dc_X0_countInState_4 rfl ?_
  refine Wp.aload_n dc_X0_countInState_5 rfl ?_
  refine Wp.sgetI dc_X0_countInState_6 fw_X0_44 (mO0 (by omega)) ?_
  refine Wp.icmp_ge (tgt := 35) dc_X0_countInState_9 (by decide) (fun hc9 => ?_) (fun hc9 => ?_)
  · rw [if_pos hc9] at hE
    cases hE
    exact hT _ rfl _ _ _
  · rw [if_neg hc9] at hE
    refine Wp.iload_n dc_X0_countInState_12 rfl ?_
    refine Wp.aload_n dc_X0_countInState_13 rfl ?_
    refine Wp.iload_n dc_X0_countInState_14 rfl ?_
    obtain ⟨v15, h15, hE⟩ := bnd hE
    refine Wp.cV1i (ok_X0_stateAt (by omega) h15) dc_X0_countInState_15 mw_X0_99 (mO0 (by omega)) (by decide) (Nat.le_of_ble_eq_true rfl) ?_
    refine Wp.iload_n dc_X0_countInState_18 rfl ?_
    refine Wp.icmp_ne (tgt := 26) dc_X0_countInState_19 (by decide) (fun hc19 => ?_) (fun hc19 => ?_)
    · rw [if_neg hc19] at hE
      refine Wp.iconst dc_X0_countInState_26 ic_0 ?_
      exact ok_X0_countInState_j27  ht hE hS hT
    · rw [if_pos hc19] at hE
      refine Wp.iconst dc_X0_countInState_22 ic_1 ?_
      refine Wp.goto (tgt := 27) dc_X0_countInState_23 (by decide) ?_
      exact ok_X0_countInState_j27  ht hE hS hT
theorem ok_X0_countInState_l4 {Q : Option AV → AH → Prop}  {σ : SS} {t : Nat} {x1 : Int32} {x2 : Int32} {x3 : Int32} {o}   (ht : t < 5) (hE : X0_countInState_l4  σ t x1 x2 x3 = some o) (hK : Q (some (vi o)) (hp σ)) : Ws 2 mi_X0_countInState Q 4 [some (vr 0 t), some (vi x1), some (vi x2), some (vi x3)] [] σ := by
  unfold X0_countInState_l4 at hE
  obtain ⟨t4, h1, hE⟩ := bnd hE
  refine iter_ok (P := (X0_countInState_P4  Q σ t x1)) (R := (X0_countInState_R4  Q σ t x1)) (fun ss o h2 hS hT => ?_) NF _ _ h1 ?_
  · skip
    exact ok_X0_countInState_l4c  ht h2 hS hT
  · intro z0 z1 z3
    show Ws 2 mi_X0_countInState Q 35 [z0, z1, some (vi t4), z3] [] σ
    refine Wp.iload_n dc_X0_countInState_35 rfl ?_
    cases hE
    exact Wp.ireturn dc_X0_countInState_36 rfl rfl (Nat.le_refl _) (Nat.le_refl _) hK
theorem ok_X0_countInState_j0 {Q : Option AV → AH → Prop}  {σ : SS} {t : Nat} {x1 : Int32} {o} {z2 z3 : Option AV}  (ht : t < 5) (hE : X0_countInState_j0  σ t x1 = some o) (hK : Q (some (vi o)) (hp σ)) : Ws 2 mi_X0_countInState Q 0 [some (vr 0 t), some (vi x1), z2, z3] [] σ := by
  unfold X0_countInState_j0 at hE
  refine Wp.iconst dc_X0_countInState_0 ic_0 ?_
  refine Wp.istore_n dc_X0_countInState_1 (by decide) ?_
  refine Wp.iconst dc_X0_countInState_2 ic_0 ?_
  refine Wp.istore_n dc_X0_countInState_3 (by decide) ?_
  exact ok_X0_countInState_l4  ht hE hK
theorem ok_X0_countInState  {σ : SS} {t : Nat} {x1 : Int32} {o}  (ht : t < 5) (hE : X0_countInState  σ t x1 = some o) : Runs 2 0 0 mi_X0_countInState [vr 0 t, vi x1] (hp σ) (fun v h => v = some (vi o) ∧ h = hp σ) := by
  refine Runs.of pn_X0 (Nat.le_of_ble_eq_true rfl) ?_
  exact ok_X0_countInState_j0  ht hE ⟨rfl, rfl⟩
def X0_crossingOn_P5 (Q : Option AV → AH → Prop) (σ : SS) (t : Nat) (x1 : Int32) (ss : Int32 × Int32) : Prop := ∀ z2 : Option AV, Ws 2 mi_X0_crossingOn Q 5 [some (vr 0 t), some (vi x1), z2, some (vi ss.1), some (vi ss.2)] [] σ
def X0_crossingOn_R5 (Q : Option AV → AH → Prop) (σ : SS) (t : Nat) (x1 : Int32) (tt : (Int32) ⊕ (Unit)) : Prop := match tt with
  | Sum.inl tt => ∀ z0 z1 z2 z3 : Option AV, Ws 2 mi_X0_crossingOn Q 29 [z0, z1, z2, z3, some (vi tt)] [] σ
  | Sum.inr tt => ∀ z0 z1 z2 z3 z4 : Option AV, Ws 2 mi_X0_crossingOn Q 41 [z0, z1, z2, z3, z4] [] σ
theorem ok_X0_crossingOn_j35 {Q : Option AV → AH → Prop}  {σ : SS} {t : Nat} {x1 : Int32} {x3 : Int32} {x4 : Int32} {o} {z2 : Option AV}  (ht : t < 5) (hE : X0_crossingOn_j35  σ t x1 x3 x4 = some o) (hS : ∀ ss, o = Sum.inl ss → (X0_crossingOn_P5  Q σ t x1) ss) (hT : ∀ tt, o = Sum.inr tt → (X0_crossingOn_R5  Q σ t x1) tt) : Ws 2 mi_X0_crossingOn Q 35 [some (vr 0 t), some (vi x1), z2, some (vi x3), some (vi x4)] [] σ := by
  unfold X0_crossingOn_j35 at hE
  obtain ⟨x4_35, e_35, hE⟩ := bnS hE
  refine Wp.iinc dc_X0_crossingOn_35 rfl ((ii ic_1).trans e_35) (by decide) ?_
  refine Wp.goto (tgt := 5) dc_X0_crossingOn_38 (by decide) ?_
  cases hE
  exact hS _ rfl _
theorem ok_X0_crossingOn_l5c {Q : Option AV → AH → Prop}  {σ : SS} {t : Nat} {x1 : Int32} {x3 : Int32} {x4 : Int32} {o} {z2 : Option AV}  (ht : t < 5) (hE : X0_crossingOn_l5c  σ t x1 x3 x4 = some o) (hS : ∀ ss, o = Sum.inl ss → (X0_crossingOn_P5  Q σ t x1) ss) (hT : ∀ tt, o = Sum.inr tt → (X0_crossingOn_R5  Q σ t x1) tt) : Ws 2 mi_X0_crossingOn Q 5 [some (vr 0 t), some (vi x1), z2, some (vi x3), some (vi x4)] [] σ := by
  unfold X0_crossingOn_l5c at hE
  refine Wp.iload dc_X0_crossingOn_5 rfl ?_
  refine Wp.aload_n dc_X0_crossingOn_7 rfl ?_
  refine Wp.sgetI dc_X0_crossingOn_8 fw_X0_44 (mO0 (by omega)) ?_
  refine Wp.icmp_ge (tgt := 41) dc_X0_crossingOn_11 (by decide) (fun hc11 => ?_) (fun hc11 => ?_)
  · rw [if_pos hc11] at hE
    cases hE
    exact hT _ rfl _ _ _ _ _
  · rw [if_neg hc11] at hE
    refine Wp.aload_n dc_X0_crossingOn_14 rfl ?_
    refine Wp.iload dc_X0_crossingOn_15 rfl ?_
    refine Wp.iload_n dc_X0_crossingOn_17 rfl ?_
    obtain ⟨v18, h18, hE⟩ := bnd hE
    refine Wp.cV2i (ok_X0_otherAt (by omega) h18) dc_X0_crossingOn_18 mw_X0_96 (mO0 (by omega)) (by decide) (Nat.le_of_ble_eq_true rfl) ?_
    refine Wp.iconst dc_X0_crossingOn_21 ic_m1 ?_
    refine Wp.icmp_eq (tgt := 35) dc_X0_crossingOn_22 (by decide) (fun hc22 => ?_) (fun hc22 => ?_)
    · rw [if_pos hc22] at hE
      exact ok_X0_crossingOn_j35  ht hE hS hT
    · rw [if_neg hc22] at hE
      refine Wp.iload_n dc_X0_crossingOn_25 rfl ?_
      refine Wp.if_ne (tgt := 32) dc_X0_crossingOn_26 (by decide) (fun hc26 => ?_) (fun hc26 => ?_)
      · rw [if_neg hc26] at hE
        obtain ⟨x3_32, e_32, hE⟩ := bnS hE
        refine Wp.iinc dc_X0_crossingOn_32 rfl ((ii ic_m1).trans e_32) (by decide) ?_
        exact ok_X0_crossingOn_j35  ht hE hS hT
      · rw [if_pos hc26] at hE
        cases hE
        exact hT _ rfl _ _ _ _
theorem ok_X0_crossingOn_l5 {Q : Option AV → AH → Prop}  {σ : SS} {t : Nat} {x1 : Int32} {x3 : Int32} {x4 : Int32} {o} {z2 : Option AV}  (ht : t < 5) (hE : X0_crossingOn_l5  σ t x1 x3 x4 = some o) (hK : Q (some (vi o)) (hp σ)) : Ws 2 mi_X0_crossingOn Q 5 [some (vr 0 t), some (vi x1), z2, some (vi x3), some (vi x4)] [] σ := by
  unfold X0_crossingOn_l5 at hE
  obtain ⟨t5, h1, hE⟩ := bnd hE
  refine iter_ok (P := (X0_crossingOn_P5  Q σ t x1)) (R := (X0_crossingOn_R5  Q σ t x1)) (fun ss o h2 hS hT => ?_) NF _ _ h1 ?_ _
  · intro z2
    exact ok_X0_crossingOn_l5c  ht h2 hS hT
  · rcases t5 with e29 | u29
    · dsimp only at hE
      intro z0 z1 z2 z3
      show Ws 2 mi_X0_crossingOn Q 29 [z0, z1, z2, z3, some (vi e29)] [] σ
      refine Wp.iload dc_X0_crossingOn_29 rfl ?_
      cases hE
      exact Wp.ireturn dc_X0_crossingOn_31 rfl rfl (Nat.le_refl _) (Nat.le_refl _) hK
    · dsimp only at hE
      skip
      intro z0 z1 z2 z3 z4
      show Ws 2 mi_X0_crossingOn Q 41 [z0, z1, z2, z3, z4] [] σ
      refine Wp.iconst dc_X0_crossingOn_41 ic_m1 ?_
      cases hE
      exact Wp.ireturn dc_X0_crossingOn_42 rfl rfl (Nat.le_refl _) (Nat.le_refl _) hK
theorem ok_X0_crossingOn_j0 {Q : Option AV → AH → Prop}  {σ : SS} {t : Nat} {x1 : Int32} {x2 : Int32} {o} {z3 z4 : Option AV}  (ht : t < 5) (hE : X0_crossingOn_j0  σ t x1 x2 = some o) (hK : Q (some (vi o)) (hp σ)) : Ws 2 mi_X0_crossingOn Q 0 [some (vr 0 t), some (vi x1), some (vi x2), z3, z4] [] σ := by
  unfold X0_crossingOn_j0 at hE
  refine Wp.iload_n dc_X0_crossingOn_0 rfl ?_
  refine Wp.istore_n dc_X0_crossingOn_1 (by decide) ?_
  refine Wp.iconst dc_X0_crossingOn_2 ic_0 ?_
  refine Wp.istore dc_X0_crossingOn_3 (by decide) ?_
  exact ok_X0_crossingOn_l5  ht hE hK
theorem ok_X0_crossingOn  {σ : SS} {t : Nat} {x1 : Int32} {x2 : Int32} {o}  (ht : t < 5) (hE : X0_crossingOn  σ t x1 x2 = some o) : Runs 2 0 0 mi_X0_crossingOn [vr 0 t, vi x1, vi x2] (hp σ) (fun v h => v = some (vi o) ∧ h = hp σ) := by
  refine Runs.of pn_X0 (Nat.le_of_ble_eq_true rfl) ?_
  exact ok_X0_crossingOn_j0  ht hE ⟨rfl, rfl⟩
def X0_mostCrossed_P6 (Q : Option AV → AH → Prop) (σ : SS) (t : Nat)  (ss : Int32 × Int32 × Int32) : Prop := Ws 3 mi_X0_mostCrossed Q 6 [some (vr 0 t), some (vi ss.1), some (vi ss.2.1), some (vi ss.2.2)] [] σ
def X0_mostCrossed_R6 (Q : Option AV → AH → Prop) (σ : SS) (t : Nat)  (tt : Int32) : Prop := ∀ z0 z2 z3 : Option AV, Ws 3 mi_X0_mostCrossed Q 45 [z0, some (vi tt), z2, z3] [] σ
theorem ok_X0_mostCrossed_j39 {Q : Option AV → AH → Prop}  {σ : SS} {t : Nat} {x1 : Int32} {x2 : Int32} {x3 : Int32} {o}   (ht : t < 5) (hE : X0_mostCrossed_j39  σ t x1 x2 x3 = some o) (hS : ∀ ss, o = Sum.inl ss → (X0_mostCrossed_P6  Q σ t ) ss) (hT : ∀ tt, o = Sum.inr tt → (X0_mostCrossed_R6  Q σ t ) tt) : Ws 3 mi_X0_mostCrossed Q 39 [some (vr 0 t), some (vi x1), some (vi x2), some (vi x3)] [] σ := by
  unfold X0_mostCrossed_j39 at hE
  obtain ⟨x3_39, e_39, hE⟩ := bnS hE
  refine Wp.iinc dc_X0_mostCrossed_39 rfl ((ii ic_1).trans e_39) (by decide) ?_
  refine Wp.goto (tgt := 6) dc_X0_mostCrossed_42 (by decide) ?_
  cases hE
  exact hS _ rfl
theorem ok_X0_mostCrossed_l6c {Q : Option AV → AH → Prop}  {σ : SS} {t : Nat}  {x1 : Int32} {x2 : Int32} {x3 : Int32} {o}   (ht : t < 5) (hE : X0_mostCrossed_l6c  σ t  x1 x2 x3 = some o) (hS : ∀ ss, o = Sum.inl ss → (X0_mostCrossed_P6  Q σ t ) ss) (hT : ∀ tt, o = Sum.inr tt → (X0_mostCrossed_R6  Q σ t ) tt) : Ws 3 mi_X0_mostCrossed Q 6 [some (vr 0 t), some (vi x1), some (vi x2), some (vi x3)] [] σ := by
  unfold X0_mostCrossed_l6c at hE
  refine Wp.iload_n dc_X0_mostCrossed_6 rfl ?_
  refine Wp.aload_n dc_X0_mostCrossed_7 rfl ?_
  refine Wp.sgetI dc_X0_mostCrossed_8 fw_X0_40 (mO0 (by omega)) ?_
  refine Wp.icmp_ge (tgt := 45) dc_X0_mostCrossed_11 (by decide) (fun hc11 => ?_) (fun hc11 => ?_)
  · rw [if_pos hc11] at hE
    cases hE
    exact hT _ rfl _ _ _
  · rw [if_neg hc11] at hE
    refine Wp.aload_n dc_X0_mostCrossed_14 rfl ?_
    refine Wp.iload_n dc_X0_mostCrossed_15 rfl ?_
    obtain ⟨v16, h16, hE⟩ := bnd hE
    refine Wp.cV1i (ok_X0_isIn (by omega) h16) dc_X0_mostCrossed_16 mw_X0_76 (mO0 (by omega)) (by decide) (Nat.le_of_ble_eq_true rfl) ?_
    refine Wp.if_eq (tgt := 39) dc_X0_mostCrossed_19 (by decide) (fun hc19 => ?_) (fun hc19 => ?_)
    · rw [if_pos hc19] at hE
      exact ok_X0_mostCrossed_j39  ht hE hS hT
    · rw [if_neg hc19] at hE
      refine Wp.aload_n dc_X0_mostCrossed_22 rfl ?_
      refine Wp.iload_n dc_X0_mostCrossed_23 rfl ?_
      obtain ⟨v24, h24, hE⟩ := bnd hE
      refine Wp.cV1i (ok_X0_countOn (by omega) h24) dc_X0_mostCrossed_24 mw_X0_79 (mO0 (by omega)) (by decide) (Nat.le_of_ble_eq_true rfl) ?_
      refine Wp.iload_n dc_X0_mostCrossed_27 rfl ?_
      refine Wp.icmp_le (tgt := 39) dc_X0_mostCrossed_28 (by decide) (fun hc28 => ?_) (fun hc28 => ?_)
      · rw [if_pos hc28] at hE
        exact ok_X0_mostCrossed_j39  ht hE hS hT
      · rw [if_neg hc28] at hE
        refine Wp.iload_n dc_X0_mostCrossed_31 rfl ?_
        refine Wp.istore_n dc_X0_mostCrossed_32 (by decide) ?_
        refine Wp.aload_n dc_X0_mostCrossed_33 rfl ?_
        refine Wp.iload_n dc_X0_mostCrossed_34 rfl ?_
        obtain ⟨v35, h35, hE⟩ := bnd hE
        refine Wp.cV1i (ok_X0_countOn (by omega) h35) dc_X0_mostCrossed_35 mw_X0_79 (mO0 (by omega)) (by decide) (Nat.le_of_ble_eq_true rfl) ?_
        refine Wp.istore_n dc_X0_mostCrossed_38 (by decide) ?_
        exact ok_X0_mostCrossed_j39  ht hE hS hT
theorem ok_X0_mostCrossed_l6 {Q : Option AV → AH → Prop}  {σ : SS} {t : Nat} {x1 : Int32} {x2 : Int32} {x3 : Int32} {o}   (ht : t < 5) (hE : X0_mostCrossed_l6  σ t x1 x2 x3 = some o) (hK : Q (some (vi o)) (hp σ)) : Ws 3 mi_X0_mostCrossed Q 6 [some (vr 0 t), some (vi x1), some (vi x2), some (vi x3)] [] σ := by
  unfold X0_mostCrossed_l6 at hE
  obtain ⟨t6, h1, hE⟩ := bnd hE
  refine iter_ok (P := (X0_mostCrossed_P6  Q σ t )) (R := (X0_mostCrossed_R6  Q σ t )) (fun ss o h2 hS hT => ?_) NF _ _ h1 ?_
  · skip
    exact ok_X0_mostCrossed_l6c  ht h2 hS hT
  · intro z0 z2 z3
    show Ws 3 mi_X0_mostCrossed Q 45 [z0, some (vi t6), z2, z3] [] σ
    refine Wp.iload_n dc_X0_mostCrossed_45 rfl ?_
    cases hE
    exact Wp.ireturn dc_X0_mostCrossed_46 rfl rfl (Nat.le_refl _) (Nat.le_refl _) hK
theorem ok_X0_mostCrossed_j0 {Q : Option AV → AH → Prop}  {σ : SS} {t : Nat}  {o} {z1 z2 z3 : Option AV}  (ht : t < 5) (hE : X0_mostCrossed_j0  σ t  = some o) (hK : Q (some (vi o)) (hp σ)) : Ws 3 mi_X0_mostCrossed Q 0 [some (vr 0 t), z1, z2, z3] [] σ := by
  unfold X0_mostCrossed_j0 at hE
  refine Wp.iconst dc_X0_mostCrossed_0 ic_m1 ?_
  refine Wp.istore_n dc_X0_mostCrossed_1 (by decide) ?_
  refine Wp.iconst dc_X0_mostCrossed_2 ic_m1 ?_
  refine Wp.istore_n dc_X0_mostCrossed_3 (by decide) ?_
  refine Wp.iconst dc_X0_mostCrossed_4 ic_0 ?_
  refine Wp.istore_n dc_X0_mostCrossed_5 (by decide) ?_
  exact ok_X0_mostCrossed_l6  ht hE hK
theorem ok_X0_mostCrossed  {σ : SS} {t : Nat}  {o}  (ht : t < 5) (hE : X0_mostCrossed  σ t  = some o) : Runs 3 0 0 mi_X0_mostCrossed [vr 0 t] (hp σ) (fun v h => v = some (vi o) ∧ h = hp σ) := by
  refine Runs.of pn_X0 (Nat.le_of_ble_eq_true rfl) ?_
  exact ok_X0_mostCrossed_j0  ht hE ⟨rfl, rfl⟩
def X0_leadNamed_P2 (Q : Option AV → AH → Prop) (σ : SS) (t : Nat) (y1 : Int64) (ss : Int32) : Prop := Ws 0 mi_X0_leadNamed Q 2 [some (vr 0 t), some (vl y1), none, some (vi ss)] [] σ
def X0_leadNamed_R2 (Q : Option AV → AH → Prop) (σ : SS) (t : Nat) (y1 : Int64) (tt : (Int32) ⊕ (Unit)) : Prop := match tt with
  | Sum.inl tt => ∀ z0 z1 z2 : Option AV, Ws 0 mi_X0_leadNamed Q 30 [z0, z1, z2, some (vi tt)] [] σ
  | Sum.inr tt => ∀ z0 z1 z2 z3 : Option AV, Ws 0 mi_X0_leadNamed Q 38 [z0, z1, z2, z3] [] σ
theorem ok_X0_leadNamed_l2c {Q : Option AV → AH → Prop}  {σ : SS} {t : Nat} {y1 : Int64} {x3 : Int32} {o}   (ht : t < 5) (hE : X0_leadNamed_l2c  σ t y1 x3 = some o) (hS : ∀ ss, o = Sum.inl ss → (X0_leadNamed_P2  Q σ t y1) ss) (hT : ∀ tt, o = Sum.inr tt → (X0_leadNamed_R2  Q σ t y1) tt) : Ws 0 mi_X0_leadNamed Q 2 [some (vr 0 t), some (vl y1), none, some (vi x3)] [] σ := by
  unfold X0_leadNamed_l2c at hE
  refine Wp.iload_n dc_X0_leadNamed_2 rfl ?_
  refine Wp.aload_n dc_X0_leadNamed_3 rfl ?_
  refine Wp.sgetI dc_X0_leadNamed_4 fw_X0_40 (mO0 (by omega)) ?_
  refine Wp.icmp_ge (tgt := 38) dc_X0_leadNamed_7 (by decide) (fun hc7 => ?_) (fun hc7 => ?_)
  · rw [if_pos hc7] at hE
    cases hE
    exact hT _ rfl _ _ _ _
  · rw [if_neg hc7] at hE
    refine Wp.iload_n dc_X0_leadNamed_10 rfl ?_
    refine Wp.aload_n dc_X0_leadNamed_11 rfl ?_
    refine Wp.sgetR (t := t) dc_X0_leadNamed_12 fw_X0_33 (mO0 (by omega)) rfl ?_
    refine Wp.salenJ dc_X0_leadNamed_15 (mO14 (by omega)) ?_
    refine Wp.icmp_ge (tgt := 38) dc_X0_leadNamed_16 (by decide) (fun hc16 => ?_) (fun hc16 => ?_)
    · rw [if_pos hc16] at hE
      cases hE
      exact hT _ rfl _ _ _ _
    · rw [if_neg hc16] at hE
      refine Wp.aload_n dc_X0_leadNamed_19 rfl ?_
      refine Wp.sgetR (t := t) dc_X0_leadNamed_20 fw_X0_33 (mO0 (by omega)) rfl ?_
      refine Wp.iload_n dc_X0_leadNamed_23 rfl ?_
      obtain ⟨j24, h24, hE⟩ := bnd hE
      refine Wp.slald dc_X0_leadNamed_24 (mO14 (by omega)) h24 ?_
      refine Wp.lload_n dc_X0_leadNamed_25 rfl ?_
      refine Wp.lcmp dc_X0_leadNamed_26 ?_
      refine Wp.if_ne (tgt := 32) dc_X0_leadNamed_27 (by decide) (fun hc27 => ?_) (fun hc27 => ?_)
      · rw [if_neg hc27] at hE
        obtain ⟨x3_32, e_32, hE⟩ := bnS hE
        refine Wp.iinc dc_X0_leadNamed_32 rfl ((ii ic_1).trans e_32) (by decide) ?_
        refine Wp.goto (tgt := 2) dc_X0_leadNamed_35 (by decide) ?_
        cases hE
        exact hS _ rfl
      · rw [if_pos hc27] at hE
        cases hE
        exact hT _ rfl _ _ _
theorem ok_X0_leadNamed_l2 {Q : Option AV → AH → Prop}  {σ : SS} {t : Nat} {y1 : Int64} {x3 : Int32} {o}   (ht : t < 5) (hE : X0_leadNamed_l2  σ t y1 x3 = some o) (hK : Q (some (vi o)) (hp σ)) : Ws 0 mi_X0_leadNamed Q 2 [some (vr 0 t), some (vl y1), none, some (vi x3)] [] σ := by
  unfold X0_leadNamed_l2 at hE
  obtain ⟨t2, h1, hE⟩ := bnd hE
  refine iter_ok (P := (X0_leadNamed_P2  Q σ t y1)) (R := (X0_leadNamed_R2  Q σ t y1)) (fun ss o h2 hS hT => ?_) NF _ _ h1 ?_
  · skip
    exact ok_X0_leadNamed_l2c  ht h2 hS hT
  · rcases t2 with e30 | u30
    · dsimp only at hE
      intro z0 z1 z2
      show Ws 0 mi_X0_leadNamed Q 30 [z0, z1, z2, some (vi e30)] [] σ
      refine Wp.iload_n dc_X0_leadNamed_30 rfl ?_
      cases hE
      exact Wp.ireturn dc_X0_leadNamed_31 rfl rfl (Nat.le_refl _) (Nat.le_refl _) hK
    · dsimp only at hE
      skip
      intro z0 z1 z2 z3
      show Ws 0 mi_X0_leadNamed Q 38 [z0, z1, z2, z3] [] σ
      refine Wp.iconst dc_X0_leadNamed_38 ic_m1 ?_
      cases hE
      exact Wp.ireturn dc_X0_leadNamed_39 rfl rfl (Nat.le_refl _) (Nat.le_refl _) hK
theorem ok_X0_leadNamed_j0 {Q : Option AV → AH → Prop}  {σ : SS} {t : Nat} {y1 : Int64} {o} {z3 : Option AV}  (ht : t < 5) (hE : X0_leadNamed_j0  σ t y1 = some o) (hK : Q (some (vi o)) (hp σ)) : Ws 0 mi_X0_leadNamed Q 0 [some (vr 0 t), some (vl y1), none, z3] [] σ := by
  unfold X0_leadNamed_j0 at hE
  refine Wp.iconst dc_X0_leadNamed_0 ic_0 ?_
  refine Wp.istore_n dc_X0_leadNamed_1 (by decide) ?_
  exact ok_X0_leadNamed_l2  ht hE hK
theorem ok_X0_leadNamed  {σ : SS} {t : Nat} {y1 : Int64} {o}  (ht : t < 5) (hE : X0_leadNamed  σ t y1 = some o) : Runs 0 0 0 mi_X0_leadNamed [vr 0 t, vl y1] (hp σ) (fun v h => v = some (vi o) ∧ h = hp σ) := by
  refine Runs.of pn_X0 (Nat.le_of_ble_eq_true rfl) ?_
  exact ok_X0_leadNamed_j0  ht hE ⟨rfl, rfl⟩
def X0_isTaken_P3 (Q : Option AV → AH → Prop) (σ : SS) (t : Nat) (y1 : Int64) (ss : Int32) : Prop := Ws 1 mi_X0_isTaken Q 3 [some (vr 0 t), some (vl y1), none, some (vi ss)] [] σ
def X0_isTaken_R3 (Q : Option AV → AH → Prop) (σ : SS) (t : Nat) (y1 : Int64) (tt : (Unit) ⊕ (Unit)) : Prop := match tt with
  | Sum.inl tt => ∀ z0 z1 z2 z3 : Option AV, Ws 1 mi_X0_isTaken Q 34 [z0, z1, z2, z3] [] σ
  | Sum.inr tt => ∀ z3 : Option AV, Ws 1 mi_X0_isTaken Q 42 [some (vr 0 t), some (vl y1), none, z3] [] σ
theorem ok_X0_isTaken_l3c {Q : Option AV → AH → Prop}  {σ : SS} {t : Nat} {y1 : Int64} {x3 : Int32} {o}   (ht : t < 5) (hE : X0_isTaken_l3c  σ t y1 x3 = some o) (hS : ∀ ss, o = Sum.inl ss → (X0_isTaken_P3  Q σ t y1) ss) (hT : ∀ tt, o = Sum.inr tt → (X0_isTaken_R3  Q σ t y1) tt) : Ws 1 mi_X0_isTaken Q 3 [some (vr 0 t), some (vl y1), none, some (vi x3)] [] σ := by
  unfold X0_isTaken_l3c at hE
  refine Wp.iload_n dc_X0_isTaken_3 rfl ?_
  refine Wp.bipush dc_X0_isTaken_4 bp_8 ?_
  refine Wp.aload_n dc_X0_isTaken_6 rfl ?_
  refine Wp.sgetI dc_X0_isTaken_7 fw_X0_47 (mO0 (by omega)) ?_
  refine Wp.iadd dc_X0_isTaken_10 ?_
  refine Wp.icmp_ge (tgt := 42) dc_X0_isTaken_11 (by decide) (fun hc11 => ?_) (fun hc11 => ?_)
  · rw [if_pos hc11] at hE
    cases hE
    exact hT _ rfl _
  · rw [if_neg hc11] at hE
    refine Wp.iload_n dc_X0_isTaken_14 rfl ?_
    refine Wp.aload_n dc_X0_isTaken_15 rfl ?_
    refine Wp.sgetR (t := t) dc_X0_isTaken_16 fw_X0_33 (mO0 (by omega)) rfl ?_
    refine Wp.salenJ dc_X0_isTaken_19 (mO14 (by omega)) ?_
    refine Wp.icmp_ge (tgt := 42) dc_X0_isTaken_20 (by decide) (fun hc20 => ?_) (fun hc20 => ?_)
    · rw [if_pos hc20] at hE
      cases hE
      exact hT _ rfl _
    · rw [if_neg hc20] at hE
      refine Wp.aload_n dc_X0_isTaken_23 rfl ?_
      refine Wp.sgetR (t := t) dc_X0_isTaken_24 fw_X0_33 (mO0 (by omega)) rfl ?_
      refine Wp.iload_n dc_X0_isTaken_27 rfl ?_
      obtain ⟨j28, h28, hE⟩ := bnd hE
      refine Wp.slald dc_X0_isTaken_28 (mO14 (by omega)) h28 ?_
      refine Wp.lload_n dc_X0_isTaken_29 rfl ?_
      refine Wp.lcmp dc_X0_isTaken_30 ?_
      refine Wp.if_ne (tgt := 36) dc_X0_isTaken_31 (by decide) (fun hc31 => ?_) (fun hc31 => ?_)
      · rw [if_neg hc31] at hE
        obtain ⟨x3_36, e_36, hE⟩ := bnS hE
        refine Wp.iinc dc_X0_isTaken_36 rfl ((ii ic_1).trans e_36) (by decide) ?_
        refine Wp.goto (tgt := 3) dc_X0_isTaken_39 (by decide) ?_
        cases hE
        exact hS _ rfl
      · rw [if_pos hc31] at hE
        cases hE
        exact hT _ rfl _ _ _ _
theorem ok_X0_isTaken_j42 {Q : Option AV → AH → Prop}  {σ : SS} {t : Nat} {y1 : Int64} {o} {z3 : Option AV}  (ht : t < 5) (hE : X0_isTaken_j42  σ t y1 = some o) (hK : Q (some (vi o)) (hp σ)) : Ws 1 mi_X0_isTaken Q 42 [some (vr 0 t), some (vl y1), none, z3] [] σ := by
  unfold X0_isTaken_j42 at hE
  refine Wp.aload_n dc_X0_isTaken_42 rfl ?_
  refine Wp.lload_n dc_X0_isTaken_43 rfl ?_
  obtain ⟨v44, h44, hE⟩ := bnd hE
  refine Wp.cV1i (ok_X0_leadNamed (by omega) h44) dc_X0_isTaken_44 mw_X0_102 (mO0 (by omega)) (by decide) (Nat.le_of_ble_eq_true rfl) ?_
  refine Wp.iconst dc_X0_isTaken_47 ic_m1 ?_
  refine Wp.icmp_eq (tgt := 55) dc_X0_isTaken_48 (by decide) (fun hc48 => ?_) (fun hc48 => ?_)
  · rw [if_pos hc48] at hE
    refine Wp.iconst dc_X0_isTaken_55 ic_0 ?_
    cases hE
    exact Wp.ireturn dc_X0_isTaken_56 rfl Nr.z0.1 (Nat.le_refl _) (Nat.le_refl _) hK
  · rw [if_neg hc48] at hE
    refine Wp.iconst dc_X0_isTaken_51 ic_1 ?_
    refine Wp.goto (tgt := 56) dc_X0_isTaken_52 (by decide) ?_
    cases hE
    exact Wp.ireturn dc_X0_isTaken_56 rfl Nr.z1.1 (Nat.le_refl _) (Nat.le_refl _) hK
theorem ok_X0_isTaken_l3 {Q : Option AV → AH → Prop}  {σ : SS} {t : Nat} {y1 : Int64} {x3 : Int32} {o}   (ht : t < 5) (hE : X0_isTaken_l3  σ t y1 x3 = some o) (hK : Q (some (vi o)) (hp σ)) : Ws 1 mi_X0_isTaken Q 3 [some (vr 0 t), some (vl y1), none, some (vi x3)] [] σ := by
  unfold X0_isTaken_l3 at hE
  obtain ⟨t3, h1, hE⟩ := bnd hE
  refine iter_ok (P := (X0_isTaken_P3  Q σ t y1)) (R := (X0_isTaken_R3  Q σ t y1)) (fun ss o h2 hS hT => ?_) NF _ _ h1 ?_
  · skip
    exact ok_X0_isTaken_l3c  ht h2 hS hT
  · rcases t3 with e34 | u34
    · dsimp only at hE
      intro z0 z1 z2 z3
      show Ws 1 mi_X0_isTaken Q 34 [z0, z1, z2, z3] [] σ
      refine Wp.iconst dc_X0_isTaken_34 ic_1 ?_
      cases hE
      exact Wp.ireturn dc_X0_isTaken_35 rfl Nr.z1.1 (Nat.le_refl _) (Nat.le_refl _) hK
    · dsimp only at hE
      skip
      intro z3
      show Ws 1 mi_X0_isTaken Q 42 [some (vr 0 t), some (vl y1), none, z3] [] σ
      exact ok_X0_isTaken_j42  ht hE hK
theorem ok_X0_isTaken_j0 {Q : Option AV → AH → Prop}  {σ : SS} {t : Nat} {y1 : Int64} {o} {z3 : Option AV}  (ht : t < 5) (hE : X0_isTaken_j0  σ t y1 = some o) (hK : Q (some (vi o)) (hp σ)) : Ws 1 mi_X0_isTaken Q 0 [some (vr 0 t), some (vl y1), none, z3] [] σ := by
  unfold X0_isTaken_j0 at hE
  refine Wp.bipush dc_X0_isTaken_0 bp_8 ?_
  refine Wp.istore_n dc_X0_isTaken_2 (by decide) ?_
  exact ok_X0_isTaken_l3  ht hE hK
theorem ok_X0_isTaken  {σ : SS} {t : Nat} {y1 : Int64} {o}  (ht : t < 5) (hE : X0_isTaken  σ t y1 = some o) : Runs 1 0 0 mi_X0_isTaken [vr 0 t, vl y1] (hp σ) (fun v h => v = some (vi o) ∧ h = hp σ) := by
  refine Runs.of pn_X0 (Nat.le_of_ble_eq_true rfl) ?_
  exact ok_X0_isTaken_j0  ht hE ⟨rfl, rfl⟩
theorem ok_X4_put_j0 {Q : Option AV → AH → Prop}  {σ : SS} {t : Nat} {x1 : Int32} {x2 : Int32} {x3 : Int32} {o} {z4 : Option AV}  (ht : t < 31) (hE : X4_put_j0  σ t x1 x2 x3 = some o) (hK : Q none (hp o)) : Ws 0 mi_X4_put Q 0 [some (vr 3 t), some (vi x1), some (vi x2), some (vi x3), z4] [] σ := by
  unfold X4_put_j0 at hE
  refine Wp.iload_n dc_X4_put_0 rfl ?_
  refine Wp.if_lt (tgt := 24) dc_X4_put_1 (by decide) (fun hc1 => ?_) (fun hc1 => ?_)
  · rw [if_pos hc1] at hE
    cases hE
    exact Wp.return dc_X4_put_24 rfl (Nat.le_refl _) (Nat.le_refl _) hK
  · rw [if_neg hc1] at hE
    refine Wp.iload_n dc_X4_put_4 rfl ?_
    refine Wp.aload_n dc_X4_put_5 rfl ?_
    refine Wp.sgetC (t := TR t) dc_X4_put_6 fw_X4_7 (mO3 (by omega)) rfl ?_
    refine Wp.icmp_ge (tgt := 24) dc_X4_put_9 (by decide) (fun hc9 => ?_) (fun hc9 => ?_)
    · rw [if_pos hc9] at hE
      cases hE
      exact Wp.return dc_X4_put_24 rfl (Nat.le_refl _) (Nat.le_refl _) hK
    · rw [if_neg hc9] at hE
      refine Wp.iload_n dc_X4_put_12 rfl ?_
      refine Wp.if_lt (tgt := 24) dc_X4_put_13 (by decide) (fun hc13 => ?_) (fun hc13 => ?_)
      · rw [if_pos hc13] at hE
        cases hE
        exact Wp.return dc_X4_put_24 rfl (Nat.le_refl _) (Nat.le_refl _) hK
      · rw [if_neg hc13] at hE
        refine Wp.iload_n dc_X4_put_16 rfl ?_
        refine Wp.aload_n dc_X4_put_17 rfl ?_
        refine Wp.sgetC (t := TW t) dc_X4_put_18 fw_X4_13 (mO3 (by omega)) rfl ?_
        refine Wp.icmp_lt (tgt := 25) dc_X4_put_21 (by decide) (fun hc21 => ?_) (fun hc21 => ?_)
        · rw [if_pos hc21] at hE
          refine Wp.iload_n dc_X4_put_25 rfl ?_
          refine Wp.aload_n dc_X4_put_26 rfl ?_
          refine Wp.sgetC (t := TW t) dc_X4_put_27 fw_X4_13 (mO3 (by omega)) rfl ?_
          refine Wp.imul dc_X4_put_30 ?_
          refine Wp.iload_n dc_X4_put_31 rfl ?_
          refine Wp.iadd dc_X4_put_32 ?_
          obtain ⟨x4_33, e_33, hE⟩ := bnS hE
          rw [e_33]
          refine Wp.istore dc_X4_put_33 (by decide) ?_
          refine Wp.iload dc_X4_put_35 rfl ?_
          refine Wp.if_lt (tgt := 58) dc_X4_put_37 (by decide) (fun hc37 => ?_) (fun hc37 => ?_)
          · rw [if_pos hc37] at hE
            cases hE
            exact Wp.return dc_X4_put_58 rfl (Nat.le_refl _) (Nat.le_refl _) hK
          · rw [if_neg hc37] at hE
            refine Wp.iload dc_X4_put_40 rfl ?_
            refine Wp.aload_n dc_X4_put_42 rfl ?_
            refine Wp.sgetR (t := t) dc_X4_put_43 fw_X4_16 (mO3 (by omega)) rfl ?_
            refine Wp.salenI dc_X4_put_46 (mO13 (by omega)) ?_
            refine Wp.icmp_ge (tgt := 58) dc_X4_put_47 (by decide) (fun hc47 => ?_) (fun hc47 => ?_)
            · rw [if_pos hc47] at hE
              cases hE
              exact Wp.return dc_X4_put_58 rfl (Nat.le_refl _) (Nat.le_refl _) hK
            · rw [if_neg hc47] at hE
              refine Wp.aload_n dc_X4_put_50 rfl ?_
              refine Wp.sgetR (t := t) dc_X4_put_51 fw_X4_16 (mO3 (by omega)) rfl ?_
              refine Wp.iload dc_X4_put_54 rfl ?_
              refine Wp.iload_n dc_X4_put_56 rfl ?_
              obtain ⟨j57, h57, hE⟩ := bnd hE
              refine Wp.siast dc_X4_put_57 (mO13 (by omega)) h57 ?_
              obtain ⟨σ57, es_57, hE⟩ := bnS hE
              rw [es_57]
              cases hE
              exact Wp.return dc_X4_put_58 rfl (Nat.le_refl _) (Nat.le_refl _) hK
        · rw [if_neg hc21] at hE
          cases hE
          exact Wp.return dc_X4_put_24 rfl (Nat.le_refl _) (Nat.le_refl _) hK
theorem ok_X4_put  {σ : SS} {t : Nat} {x1 : Int32} {x2 : Int32} {x3 : Int32} {o}  (ht : t < 31) (hE : X4_put  σ t x1 x2 x3 = some o) : Runs 0 0 0 mi_X4_put [vr 3 t, vi x1, vi x2, vi x3] (hp σ) (fun v h => v = none ∧ h = hp o) := by
  refine Runs.of pn_X4 (Nat.le_of_ble_eq_true rfl) ?_
  exact ok_X4_put_j0  ht hE ⟨rfl, rfl⟩
theorem ok_X0_addLead_j0 {Q : Option AV → AH → Prop}  {σ : SS} {t : Nat} {y1 : Int64} {o} {z3 : Option AV}  (ht : t < 5) (hE : X0_addLead_j0  σ t y1 = some o) (hK : Q (some (vi o.1)) (hp o.2)) : Ws 1 mi_X0_addLead Q 0 [some (vr 0 t), some (vl y1), none, z3] [] σ := by
  unfold X0_addLead_j0 at hE
  refine Wp.aload_n dc_X0_addLead_0 rfl ?_
  refine Wp.sgetI dc_X0_addLead_1 fw_X0_40 (mO0 (by omega)) ?_
  obtain ⟨x3_4, e_4, hE⟩ := bnS hE
  rw [e_4]
  refine Wp.istore_n dc_X0_addLead_4 (by decide) ?_
  refine Wp.iload_n dc_X0_addLead_5 rfl ?_
  refine Wp.if_lt (tgt := 103) dc_X0_addLead_6 (by decide) (fun hc6 => ?_) (fun hc6 => ?_)
  · rw [if_pos hc6] at hE
    refine Wp.iload_n dc_X0_addLead_103 rfl ?_
    cases hE
    exact Wp.ireturn dc_X0_addLead_104 rfl rfl (Nat.le_refl _) (Nat.le_refl _) hK
  · rw [if_neg hc6] at hE
    refine Wp.iload_n dc_X0_addLead_9 rfl ?_
    refine Wp.bipush dc_X0_addLead_10 bp_8 ?_
    refine Wp.icmp_ge (tgt := 103) dc_X0_addLead_12 (by decide) (fun hc12 => ?_) (fun hc12 => ?_)
    · rw [if_pos hc12] at hE
      refine Wp.iload_n dc_X0_addLead_103 rfl ?_
      cases hE
      exact Wp.ireturn dc_X0_addLead_104 rfl rfl (Nat.le_refl _) (Nat.le_refl _) hK
    · rw [if_neg hc12] at hE
      refine Wp.iload_n dc_X0_addLead_15 rfl ?_
      refine Wp.aload_n dc_X0_addLead_16 rfl ?_
      refine Wp.sgetR (t := t) dc_X0_addLead_17 fw_X0_33 (mO0 (by omega)) rfl ?_
      refine Wp.salenJ dc_X0_addLead_20 (mO14 (by omega)) ?_
      refine Wp.icmp_ge (tgt := 103) dc_X0_addLead_21 (by decide) (fun hc21 => ?_) (fun hc21 => ?_)
      · rw [if_pos hc21] at hE
        refine Wp.iload_n dc_X0_addLead_103 rfl ?_
        cases hE
        exact Wp.ireturn dc_X0_addLead_104 rfl rfl (Nat.le_refl _) (Nat.le_refl _) hK
      · rw [if_neg hc21] at hE
        refine Wp.aload_n dc_X0_addLead_24 rfl ?_
        refine Wp.sgetR (t := t) dc_X0_addLead_25 fw_X0_33 (mO0 (by omega)) rfl ?_
        refine Wp.iload_n dc_X0_addLead_28 rfl ?_
        refine Wp.lload_n dc_X0_addLead_29 rfl ?_
        obtain ⟨j30, h30, hE⟩ := bnd hE
        refine Wp.slast dc_X0_addLead_30 (mO14 (by omega)) h30 ?_
        obtain ⟨σ30, es_30, hE⟩ := bnS hE
        rw [es_30]
        refine Wp.aload_n dc_X0_addLead_31 rfl ?_
        refine Wp.dup dc_X0_addLead_32 rfl ?_
        refine Wp.sgetI dc_X0_addLead_33 fw_X0_40 (mO0 (by omega)) ?_
        refine Wp.iconst dc_X0_addLead_36 ic_1 ?_
        refine Wp.iadd dc_X0_addLead_37 ?_
        refine Wp.sputI dc_X0_addLead_38 fw_X0_40 (mO0 (by omega)) (Nr.i _) ?_
        obtain ⟨σ38, es_38, hE⟩ := bnS hE
        rw [es_38]
        refine Wp.aload_n dc_X0_addLead_41 rfl ?_
        refine Wp.dup dc_X0_addLead_42 rfl ?_
        refine Wp.sgetI dc_X0_addLead_43 fw_X0_50 (mO0 (by omega)) ?_
        refine Wp.iconst dc_X0_addLead_46 ic_1 ?_
        refine Wp.iload_n dc_X0_addLead_47 rfl ?_
        refine Wp.ishl dc_X0_addLead_48 ?_
        refine Wp.ior dc_X0_addLead_49 ?_
        refine Wp.sputI dc_X0_addLead_50 fw_X0_50 (mO0 (by omega)) (Nr.i _) ?_
        obtain ⟨σ50, es_50, hE⟩ := bnS hE
        rw [es_50]
        refine Wp.aload_n dc_X0_addLead_53 rfl ?_
        refine Wp.sgetR (t := (4 * t + 1)) dc_X0_addLead_54 fw_X0_23 (mO0 (by omega)) rfl ?_
        refine Wp.iconst dc_X0_addLead_57 ic_1 ?_
        refine Wp.iload_n dc_X0_addLead_58 rfl ?_
        refine Wp.iconst dc_X0_addLead_59 ic_0 ?_
        obtain ⟨σ60, h60, hE⟩ := bnd hE
        refine Wp.cV3v (ok_X4_put (by omega) h60) dc_X0_addLead_60 mw_X0_106 (mO3 (by omega)) (by decide) (Nat.le_of_ble_eq_true rfl) ?_
        refine Wp.aload_n dc_X0_addLead_63 rfl ?_
        refine Wp.sgetR (t := (4 * t + 1)) dc_X0_addLead_64 fw_X0_23 (mO0 (by omega)) rfl ?_
        refine Wp.iconst dc_X0_addLead_67 ic_2 ?_
        refine Wp.iload_n dc_X0_addLead_68 rfl ?_
        refine Wp.iconst dc_X0_addLead_69 ic_3 ?_
        obtain ⟨σ70, h70, hE⟩ := bnd hE
        refine Wp.cV3v (ok_X4_put (by omega) h70) dc_X0_addLead_70 mw_X0_106 (mO3 (by omega)) (by decide) (Nat.le_of_ble_eq_true rfl) ?_
        refine Wp.aload_n dc_X0_addLead_73 rfl ?_
        refine Wp.sgetR (t := (4 * t + 1)) dc_X0_addLead_74 fw_X0_23 (mO0 (by omega)) rfl ?_
        refine Wp.iconst dc_X0_addLead_77 ic_3 ?_
        refine Wp.iload_n dc_X0_addLead_78 rfl ?_
        refine Wp.iconst dc_X0_addLead_79 ic_3 ?_
        obtain ⟨σ80, h80, hE⟩ := bnd hE
        refine Wp.cV3v (ok_X4_put (by omega) h80) dc_X0_addLead_80 mw_X0_106 (mO3 (by omega)) (by decide) (Nat.le_of_ble_eq_true rfl) ?_
        refine Wp.aload_n dc_X0_addLead_83 rfl ?_
        refine Wp.sgetR (t := (4 * t + 1)) dc_X0_addLead_84 fw_X0_23 (mO0 (by omega)) rfl ?_
        refine Wp.iconst dc_X0_addLead_87 ic_4 ?_
        refine Wp.iload_n dc_X0_addLead_88 rfl ?_
        refine Wp.iconst dc_X0_addLead_89 ic_0 ?_
        obtain ⟨σ90, h90, hE⟩ := bnd hE
        refine Wp.cV3v (ok_X4_put (by omega) h90) dc_X0_addLead_90 mw_X0_106 (mO3 (by omega)) (by decide) (Nat.le_of_ble_eq_true rfl) ?_
        refine Wp.aload_n dc_X0_addLead_93 rfl ?_
        refine Wp.sgetR (t := (4 * t + 1)) dc_X0_addLead_94 fw_X0_23 (mO0 (by omega)) rfl ?_
        refine Wp.iconst dc_X0_addLead_97 ic_5 ?_
        refine Wp.iload_n dc_X0_addLead_98 rfl ?_
        refine Wp.iconst dc_X0_addLead_99 ic_0 ?_
        obtain ⟨σ100, h100, hE⟩ := bnd hE
        refine Wp.cV3v (ok_X4_put (by omega) h100) dc_X0_addLead_100 mw_X0_106 (mO3 (by omega)) (by decide) (Nat.le_of_ble_eq_true rfl) ?_
        refine Wp.iload_n dc_X0_addLead_103 rfl ?_
        cases hE
        exact Wp.ireturn dc_X0_addLead_104 rfl rfl (Nat.le_refl _) (Nat.le_refl _) hK
theorem ok_X0_addLead  {σ : SS} {t : Nat} {y1 : Int64} {o}  (ht : t < 5) (hE : X0_addLead  σ t y1 = some o) : Runs 1 0 0 mi_X0_addLead [vr 0 t, vl y1] (hp σ) (fun v h => v = some (vi o.1) ∧ h = hp o.2) := by
  refine Runs.of pn_X0 (Nat.le_of_ble_eq_true rfl) ?_
  exact ok_X0_addLead_j0  ht hE ⟨rfl, rfl⟩
theorem ok_X0_setNumber_j0 {Q : Option AV → AH → Prop}  {σ : SS} {t : Nat} {x1 : Int32} {x2 : Int32} {x3 : Int32} {o} {z4 : Option AV}  (ht : t < 5) (hE : X0_setNumber_j0  σ t x1 x2 x3 = some o) (hK : Q none (hp o)) : Ws 1 mi_X0_setNumber Q 0 [some (vr 0 t), some (vi x1), some (vi x2), some (vi x3), z4] [] σ := by
  unfold X0_setNumber_j0 at hE
  refine Wp.aload_n dc_X0_setNumber_0 rfl ?_
  refine Wp.sgetR (t := (4 * t + 1)) dc_X0_setNumber_1 fw_X0_23 (mO0 (by omega)) rfl ?_
  refine Wp.iload_n dc_X0_setNumber_4 rfl ?_
  refine Wp.iload_n dc_X0_setNumber_5 rfl ?_
  refine Wp.iload_n dc_X0_setNumber_6 rfl ?_
  obtain ⟨σ7, h7, hE⟩ := bnd hE
  refine Wp.cV3v (ok_X4_put (by omega) h7) dc_X0_setNumber_7 mw_X0_106 (mO3 (by omega)) (by decide) (Nat.le_of_ble_eq_true rfl) ?_
  refine Wp.aload_n dc_X0_setNumber_10 rfl ?_
  refine Wp.sgetR (t := (4 * t + 1)) dc_X0_setNumber_11 fw_X0_23 (mO0 (by omega)) rfl ?_
  refine Wp.iconst dc_X0_setNumber_14 ic_0 ?_
  refine Wp.iload_n dc_X0_setNumber_15 rfl ?_
  obtain ⟨v16, h16, hE⟩ := bnd hE
  refine Wp.cV2i (ok_X4_at (by omega) h16) dc_X0_setNumber_16 mw_X0_89 (mO3 (by omega)) (by decide) (Nat.le_of_ble_eq_true rfl) ?_
  refine Wp.iconst dc_X0_setNumber_19 ic_2 ?_
  refine Wp.idiv dc_X0_setNumber_20 (by decide) ?_
  refine Wp.aload_n dc_X0_setNumber_21 rfl ?_
  refine Wp.sgetR (t := (4 * t + 1)) dc_X0_setNumber_22 fw_X0_23 (mO0 (by omega)) rfl ?_
  refine Wp.iconst dc_X0_setNumber_25 ic_1 ?_
  refine Wp.iload_n dc_X0_setNumber_26 rfl ?_
  obtain ⟨v27, h27, hE⟩ := bnd hE
  refine Wp.cV2i (ok_X4_at (by omega) h27) dc_X0_setNumber_27 mw_X0_89 (mO3 (by omega)) (by decide) (Nat.le_of_ble_eq_true rfl) ?_
  refine Wp.isub dc_X0_setNumber_30 ?_
  obtain ⟨x4_31, e_31, hE⟩ := bnS hE
  rw [e_31]
  refine Wp.istore dc_X0_setNumber_31 (by decide) ?_
  refine Wp.aload_n dc_X0_setNumber_33 rfl ?_
  refine Wp.sgetR (t := (4 * t + 1)) dc_X0_setNumber_34 fw_X0_23 (mO0 (by omega)) rfl ?_
  refine Wp.bipush dc_X0_setNumber_37 bp_6 ?_
  refine Wp.iload_n dc_X0_setNumber_39 rfl ?_
  refine Wp.iconst dc_X0_setNumber_40 ic_0 ?_
  refine Wp.bipush dc_X0_setNumber_41 bp_15 ?_
  refine Wp.iload dc_X0_setNumber_43 rfl ?_
  refine Wp.mmin dc_X0_setNumber_45 lw_X0_110 ms_min mi_Math mk_min (by decide) (Nat.le_refl _) (Nat.le_refl _) (Nat.le_of_ble_eq_true rfl) ?_
  refine Wp.mmax dc_X0_setNumber_48 lw_X0_115 ms_max mi_Math mk_max (by decide) (Nat.le_refl _) (Nat.le_refl _) (Nat.le_of_ble_eq_true rfl) ?_
  obtain ⟨σ51, h51, hE⟩ := bnd hE
  refine Wp.cV3v (ok_X4_put (by omega) h51) dc_X0_setNumber_51 mw_X0_106 (mO3 (by omega)) (by decide) (Nat.le_of_ble_eq_true rfl) ?_
  cases hE
  exact Wp.return dc_X0_setNumber_54 rfl (Nat.le_refl _) (Nat.le_refl _) hK
theorem ok_X0_setNumber  {σ : SS} {t : Nat} {x1 : Int32} {x2 : Int32} {x3 : Int32} {o}  (ht : t < 5) (hE : X0_setNumber  σ t x1 x2 x3 = some o) : Runs 1 0 0 mi_X0_setNumber [vr 0 t, vi x1, vi x2, vi x3] (hp σ) (fun v h => v = none ∧ h = hp o) := by
  refine Runs.of pn_X0 (Nat.le_of_ble_eq_true rfl) ?_
  exact ok_X0_setNumber_j0  ht hE ⟨rfl, rfl⟩
theorem ok_X0_setClip_j20 {Q : Option AV → AH → Prop}  {σ : SS} {t : Nat} {s1 : Int32} {s2 : Int32} {o} {z0 z1 : Option AV}  (ht : t < 5) (hE : X0_setClip_j20  σ t s1 s2 = some o) (hK : Q none (hp o)) : Ws 1 mi_X0_setClip Q 20 [z0, z1] [vi s2, vi s1, vr 0 t] σ := by
  unfold X0_setClip_j20 at hE
  refine Wp.ior dc_X0_setClip_20 ?_
  refine Wp.sputI dc_X0_setClip_21 fw_X0_53 (mO0 (by omega)) (Nr.i _) ?_
  obtain ⟨σ21, es_21, hE⟩ := bnS hE
  rw [es_21]
  cases hE
  exact Wp.return dc_X0_setClip_24 rfl (Nat.le_refl _) (Nat.le_refl _) hK
theorem ok_X0_setClip_j0 {Q : Option AV → AH → Prop}  {σ : SS} {t : Nat} {x1 : Int32} {o}   (ht : t < 5) (hE : X0_setClip_j0  σ t x1 = some o) (hK : Q none (hp o)) : Ws 1 mi_X0_setClip Q 0 [some (vr 0 t), some (vi x1)] [] σ := by
  unfold X0_setClip_j0 at hE
  refine Wp.aload_n dc_X0_setClip_0 rfl ?_
  refine Wp.dup dc_X0_setClip_1 rfl ?_
  refine Wp.sgetI dc_X0_setClip_2 fw_X0_53 (mO0 (by omega)) ?_
  refine Wp.aload_n dc_X0_setClip_5 rfl ?_
  refine Wp.iload_n dc_X0_setClip_6 rfl ?_
  obtain ⟨v7, h7, hE⟩ := bnd hE
  refine Wp.cV1i (ok_X0_has (by omega) h7) dc_X0_setClip_7 mw_X0_72 (mO0 (by omega)) (by decide) (Nat.le_of_ble_eq_true rfl) ?_
  refine Wp.if_eq (tgt := 19) dc_X0_setClip_10 (by decide) (fun hc10 => ?_) (fun hc10 => ?_)
  · rw [if_pos hc10] at hE
    refine Wp.iconst dc_X0_setClip_19 ic_0 ?_
    exact ok_X0_setClip_j20  ht hE hK
  · rw [if_neg hc10] at hE
    refine Wp.iconst dc_X0_setClip_13 ic_1 ?_
    refine Wp.iload_n dc_X0_setClip_14 rfl ?_
    refine Wp.ishl dc_X0_setClip_15 ?_
    refine Wp.goto (tgt := 20) dc_X0_setClip_16 (by decide) ?_
    exact ok_X0_setClip_j20  ht hE hK
theorem ok_X0_setClip  {σ : SS} {t : Nat} {x1 : Int32} {o}  (ht : t < 5) (hE : X0_setClip  σ t x1 = some o) : Runs 1 0 0 mi_X0_setClip [vr 0 t, vi x1] (hp σ) (fun v h => v = none ∧ h = hp o) := by
  refine Runs.of pn_X0 (Nat.le_of_ble_eq_true rfl) ?_
  exact ok_X0_setClip_j0  ht hE ⟨rfl, rfl⟩
theorem ok_X0_addLook_j0 {Q : Option AV → AH → Prop}  {σ : SS} {t : Nat} {y1 : Int64} {o} {z3 z4 : Option AV}  (ht : t < 5) (hE : X0_addLook_j0  σ t y1 = some o) (hK : Q (some (vi o.1)) (hp o.2)) : Ws 1 mi_X0_addLook Q 0 [some (vr 0 t), some (vl y1), none, z3, z4] [] σ := by
  unfold X0_addLook_j0 at hE
  refine Wp.aload_n dc_X0_addLook_0 rfl ?_
  refine Wp.sgetI dc_X0_addLook_1 fw_X0_47 (mO0 (by omega)) ?_
  obtain ⟨x3_4, e_4, hE⟩ := bnS hE
  rw [e_4]
  refine Wp.istore_n dc_X0_addLook_4 (by decide) ?_
  refine Wp.bipush dc_X0_addLook_5 bp_8 ?_
  refine Wp.iload_n dc_X0_addLook_7 rfl ?_
  refine Wp.iadd dc_X0_addLook_8 ?_
  obtain ⟨x4_9, e_9, hE⟩ := bnS hE
  rw [e_9]
  refine Wp.istore dc_X0_addLook_9 (by decide) ?_
  refine Wp.iload_n dc_X0_addLook_11 rfl ?_
  refine Wp.if_lt (tgt := 58) dc_X0_addLook_12 (by decide) (fun hc12 => ?_) (fun hc12 => ?_)
  · rw [if_pos hc12] at hE
    refine Wp.iload_n dc_X0_addLook_58 rfl ?_
    cases hE
    exact Wp.ireturn dc_X0_addLook_59 rfl rfl (Nat.le_refl _) (Nat.le_refl _) hK
  · rw [if_neg hc12] at hE
    refine Wp.iload_n dc_X0_addLook_15 rfl ?_
    refine Wp.iconst dc_X0_addLook_16 ic_3 ?_
    refine Wp.icmp_ge (tgt := 58) dc_X0_addLook_17 (by decide) (fun hc17 => ?_) (fun hc17 => ?_)
    · rw [if_pos hc17] at hE
      refine Wp.iload_n dc_X0_addLook_58 rfl ?_
      cases hE
      exact Wp.ireturn dc_X0_addLook_59 rfl rfl (Nat.le_refl _) (Nat.le_refl _) hK
    · rw [if_neg hc17] at hE
      refine Wp.iload dc_X0_addLook_20 rfl ?_
      refine Wp.aload_n dc_X0_addLook_22 rfl ?_
      refine Wp.sgetR (t := t) dc_X0_addLook_23 fw_X0_33 (mO0 (by omega)) rfl ?_
      refine Wp.salenJ dc_X0_addLook_26 (mO14 (by omega)) ?_
      refine Wp.icmp_ge (tgt := 58) dc_X0_addLook_27 (by decide) (fun hc27 => ?_) (fun hc27 => ?_)
      · rw [if_pos hc27] at hE
        refine Wp.iload_n dc_X0_addLook_58 rfl ?_
        cases hE
        exact Wp.ireturn dc_X0_addLook_59 rfl rfl (Nat.le_refl _) (Nat.le_refl _) hK
      · rw [if_neg hc27] at hE
        refine Wp.aload_n dc_X0_addLook_30 rfl ?_
        refine Wp.sgetR (t := t) dc_X0_addLook_31 fw_X0_33 (mO0 (by omega)) rfl ?_
        refine Wp.iload dc_X0_addLook_34 rfl ?_
        refine Wp.lload_n dc_X0_addLook_36 rfl ?_
        obtain ⟨j37, h37, hE⟩ := bnd hE
        refine Wp.slast dc_X0_addLook_37 (mO14 (by omega)) h37 ?_
        obtain ⟨σ37, es_37, hE⟩ := bnS hE
        rw [es_37]
        refine Wp.aload_n dc_X0_addLook_38 rfl ?_
        refine Wp.sgetR (t := (4 * t + 3)) dc_X0_addLook_39 fw_X0_30 (mO0 (by omega)) rfl ?_
        refine Wp.iconst dc_X0_addLook_42 ic_0 ?_
        refine Wp.iload_n dc_X0_addLook_43 rfl ?_
        refine Wp.iconst dc_X0_addLook_44 ic_0 ?_
        obtain ⟨σ45, h45, hE⟩ := bnd hE
        refine Wp.cV3v (ok_X4_put (by omega) h45) dc_X0_addLook_45 mw_X0_106 (mO3 (by omega)) (by decide) (Nat.le_of_ble_eq_true rfl) ?_
        refine Wp.aload_n dc_X0_addLook_48 rfl ?_
        refine Wp.dup dc_X0_addLook_49 rfl ?_
        refine Wp.sgetI dc_X0_addLook_50 fw_X0_47 (mO0 (by omega)) ?_
        refine Wp.iconst dc_X0_addLook_53 ic_1 ?_
        refine Wp.iadd dc_X0_addLook_54 ?_
        refine Wp.sputI dc_X0_addLook_55 fw_X0_47 (mO0 (by omega)) (Nr.i _) ?_
        obtain ⟨σ55, es_55, hE⟩ := bnS hE
        rw [es_55]
        refine Wp.iload_n dc_X0_addLook_58 rfl ?_
        cases hE
        exact Wp.ireturn dc_X0_addLook_59 rfl rfl (Nat.le_refl _) (Nat.le_refl _) hK
theorem ok_X0_addLook  {σ : SS} {t : Nat} {y1 : Int64} {o}  (ht : t < 5) (hE : X0_addLook  σ t y1 = some o) : Runs 1 0 0 mi_X0_addLook [vr 0 t, vl y1] (hp σ) (fun v h => v = some (vi o.1) ∧ h = hp o.2) := by
  refine Runs.of pn_X0 (Nat.le_of_ble_eq_true rfl) ?_
  exact ok_X0_addLook_j0  ht hE ⟨rfl, rfl⟩
theorem ok_X0_addToLook_j0 {Q : Option AV → AH → Prop}  {σ : SS} {t : Nat} {x1 : Int32} {x2 : Int32} {o}   (ht : t < 5) (hE : X0_addToLook_j0  σ t x1 x2 = some o) (hK : Q none (hp o)) : Ws 1 mi_X0_addToLook Q 0 [some (vr 0 t), some (vi x1), some (vi x2)] [] σ := by
  unfold X0_addToLook_j0 at hE
  refine Wp.aload_n dc_X0_addToLook_0 rfl ?_
  refine Wp.iload_n dc_X0_addToLook_1 rfl ?_
  obtain ⟨v2, h2, hE⟩ := bnd hE
  refine Wp.cV1i (ok_X0_hasLook (by omega) h2) dc_X0_addToLook_2 mw_X0_93 (mO0 (by omega)) (by decide) (Nat.le_of_ble_eq_true rfl) ?_
  refine Wp.if_eq (tgt := 38) dc_X0_addToLook_5 (by decide) (fun hc5 => ?_) (fun hc5 => ?_)
  · rw [if_pos hc5] at hE
    cases hE
    exact Wp.return dc_X0_addToLook_38 rfl (Nat.le_refl _) (Nat.le_refl _) hK
  · rw [if_neg hc5] at hE
    refine Wp.aload_n dc_X0_addToLook_8 rfl ?_
    refine Wp.iload_n dc_X0_addToLook_9 rfl ?_
    obtain ⟨v10, h10, hE⟩ := bnd hE
    refine Wp.cV1i (ok_X0_has (by omega) h10) dc_X0_addToLook_10 mw_X0_72 (mO0 (by omega)) (by decide) (Nat.le_of_ble_eq_true rfl) ?_
    refine Wp.if_eq (tgt := 38) dc_X0_addToLook_13 (by decide) (fun hc13 => ?_) (fun hc13 => ?_)
    · rw [if_pos hc13] at hE
      cases hE
      exact Wp.return dc_X0_addToLook_38 rfl (Nat.le_refl _) (Nat.le_refl _) hK
    · rw [if_neg hc13] at hE
      refine Wp.aload_n dc_X0_addToLook_16 rfl ?_
      refine Wp.sgetR (t := (4 * t + 3)) dc_X0_addToLook_17 fw_X0_30 (mO0 (by omega)) rfl ?_
      refine Wp.iconst dc_X0_addToLook_20 ic_0 ?_
      refine Wp.iload_n dc_X0_addToLook_21 rfl ?_
      refine Wp.aload_n dc_X0_addToLook_22 rfl ?_
      refine Wp.sgetR (t := (4 * t + 3)) dc_X0_addToLook_23 fw_X0_30 (mO0 (by omega)) rfl ?_
      refine Wp.iconst dc_X0_addToLook_26 ic_0 ?_
      refine Wp.iload_n dc_X0_addToLook_27 rfl ?_
      obtain ⟨v28, h28, hE⟩ := bnd hE
      refine Wp.cV2i (ok_X4_at (by omega) h28) dc_X0_addToLook_28 mw_X0_89 (mO3 (by omega)) (by decide) (Nat.le_of_ble_eq_true rfl) ?_
      refine Wp.iconst dc_X0_addToLook_31 ic_1 ?_
      refine Wp.iload_n dc_X0_addToLook_32 rfl ?_
      refine Wp.ishl dc_X0_addToLook_33 ?_
      refine Wp.ior dc_X0_addToLook_34 ?_
      obtain ⟨σ35, h35, hE⟩ := bnd hE
      refine Wp.cV3v (ok_X4_put (by omega) h35) dc_X0_addToLook_35 mw_X0_106 (mO3 (by omega)) (by decide) (Nat.le_of_ble_eq_true rfl) ?_
      cases hE
      exact Wp.return dc_X0_addToLook_38 rfl (Nat.le_refl _) (Nat.le_refl _) hK
theorem ok_X0_addToLook  {σ : SS} {t : Nat} {x1 : Int32} {x2 : Int32} {o}  (ht : t < 5) (hE : X0_addToLook  σ t x1 x2 = some o) : Runs 1 0 0 mi_X0_addToLook [vr 0 t, vi x1, vi x2] (hp σ) (fun v h => v = none ∧ h = hp o) := by
  refine Runs.of pn_X0 (Nat.le_of_ble_eq_true rfl) ?_
  exact ok_X0_addToLook_j0  ht hE ⟨rfl, rfl⟩
theorem ok_X0_addCrossing_j0 {Q : Option AV → AH → Prop}  {σ : SS} {t : Nat} {x1 : Int32} {x2 : Int32} {x3 : Int32} {o}   (ht : t < 5) (hE : X0_addCrossing_j0  σ t x1 x2 x3 = some o) (hK : Q (some (vi o.1)) (hp o.2)) : Ws 1 mi_X0_addCrossing Q 0 [some (vr 0 t), some (vi x1), some (vi x2), some (vi x3)] [] σ := by
  unfold X0_addCrossing_j0 at hE
  refine Wp.aload_n dc_X0_addCrossing_0 rfl ?_
  obtain ⟨v1, h1, hE⟩ := bnd hE
  refine Wp.cV0i (ok_X0_isFull (by omega) h1) dc_X0_addCrossing_1 mw_X0_118 (mO0 (by omega)) (by decide) (Nat.le_of_ble_eq_true rfl) ?_
  refine Wp.if_eq (tgt := 9) dc_X0_addCrossing_4 (by decide) (fun hc4 => ?_) (fun hc4 => ?_)
  · rw [if_pos hc4] at hE
    refine Wp.aload_n dc_X0_addCrossing_9 rfl ?_
    refine Wp.sgetR (t := (4 * t + 2)) dc_X0_addCrossing_10 fw_X0_27 (mO0 (by omega)) rfl ?_
    refine Wp.iconst dc_X0_addCrossing_13 ic_0 ?_
    refine Wp.aload_n dc_X0_addCrossing_14 rfl ?_
    refine Wp.sgetI dc_X0_addCrossing_15 fw_X0_44 (mO0 (by omega)) ?_
    refine Wp.iload_n dc_X0_addCrossing_18 rfl ?_
    obtain ⟨σ19, h19, hE⟩ := bnd hE
    refine Wp.cV3v (ok_X4_put (by omega) h19) dc_X0_addCrossing_19 mw_X0_106 (mO3 (by omega)) (by decide) (Nat.le_of_ble_eq_true rfl) ?_
    refine Wp.aload_n dc_X0_addCrossing_22 rfl ?_
    refine Wp.sgetR (t := (4 * t + 2)) dc_X0_addCrossing_23 fw_X0_27 (mO0 (by omega)) rfl ?_
    refine Wp.iconst dc_X0_addCrossing_26 ic_1 ?_
    refine Wp.aload_n dc_X0_addCrossing_27 rfl ?_
    refine Wp.sgetI dc_X0_addCrossing_28 fw_X0_44 (mO0 (by omega)) ?_
    refine Wp.iload_n dc_X0_addCrossing_31 rfl ?_
    obtain ⟨σ32, h32, hE⟩ := bnd hE
    refine Wp.cV3v (ok_X4_put (by omega) h32) dc_X0_addCrossing_32 mw_X0_106 (mO3 (by omega)) (by decide) (Nat.le_of_ble_eq_true rfl) ?_
    refine Wp.aload_n dc_X0_addCrossing_35 rfl ?_
    refine Wp.sgetR (t := (4 * t + 2)) dc_X0_addCrossing_36 fw_X0_27 (mO0 (by omega)) rfl ?_
    refine Wp.iconst dc_X0_addCrossing_39 ic_2 ?_
    refine Wp.aload_n dc_X0_addCrossing_40 rfl ?_
    refine Wp.sgetI dc_X0_addCrossing_41 fw_X0_44 (mO0 (by omega)) ?_
    refine Wp.iload_n dc_X0_addCrossing_44 rfl ?_
    obtain ⟨σ45, h45, hE⟩ := bnd hE
    refine Wp.cV3v (ok_X4_put (by omega) h45) dc_X0_addCrossing_45 mw_X0_106 (mO3 (by omega)) (by decide) (Nat.le_of_ble_eq_true rfl) ?_
    refine Wp.aload_n dc_X0_addCrossing_48 rfl ?_
    refine Wp.dup dc_X0_addCrossing_49 rfl ?_
    refine Wp.sgetI dc_X0_addCrossing_50 fw_X0_44 (mO0 (by omega)) ?_
    refine Wp.iconst dc_X0_addCrossing_53 ic_1 ?_
    refine Wp.iadd dc_X0_addCrossing_54 ?_
    refine Wp.sputI dc_X0_addCrossing_55 fw_X0_44 (mO0 (by omega)) (Nr.i _) ?_
    obtain ⟨σ55, es_55, hE⟩ := bnS hE
    rw [es_55]
    refine Wp.iconst dc_X0_addCrossing_58 ic_1 ?_
    cases hE
    exact Wp.ireturn dc_X0_addCrossing_59 rfl Nr.z1.1 (Nat.le_refl _) (Nat.le_refl _) hK
  · rw [if_neg hc4] at hE
    refine Wp.iconst dc_X0_addCrossing_7 ic_0 ?_
    cases hE
    exact Wp.ireturn dc_X0_addCrossing_8 rfl Nr.z0.1 (Nat.le_refl _) (Nat.le_refl _) hK
theorem ok_X0_addCrossing  {σ : SS} {t : Nat} {x1 : Int32} {x2 : Int32} {x3 : Int32} {o}  (ht : t < 5) (hE : X0_addCrossing  σ t x1 x2 x3 = some o) : Runs 1 0 0 mi_X0_addCrossing [vr 0 t, vi x1, vi x2, vi x3] (hp σ) (fun v h => v = some (vi o.1) ∧ h = hp o.2) := by
  refine Runs.of pn_X0 (Nat.le_of_ble_eq_true rfl) ?_
  exact ok_X0_addCrossing_j0  ht hE ⟨rfl, rfl⟩
theorem ok_X0_secondsToUndo_j29 {Q : Option AV → AH → Prop}  {σ : SS} {t : Nat} {x2 : Int32} {s0 : Int32} {o} {z1 z3 : Option AV}  (ht : t < 5) (hE : X0_secondsToUndo_j29  σ t x2 s0 = some o) (hK : Q (some (vi o)) (hp σ)) : Ws 1 mi_X0_secondsToUndo Q 29 [some (vr 0 t), z1, some (vi x2), z3] [vi s0] σ := by
  unfold X0_secondsToUndo_j29 at hE
  refine Wp.istore_n dc_X0_secondsToUndo_29 (by decide) ?_
  refine Wp.iload_n dc_X0_secondsToUndo_30 rfl ?_
  refine Wp.aload_n dc_X0_secondsToUndo_31 rfl ?_
  refine Wp.sgetR (t := (4 * t + 1)) dc_X0_secondsToUndo_32 fw_X0_23 (mO0 (by omega)) rfl ?_
  refine Wp.iconst dc_X0_secondsToUndo_35 ic_1 ?_
  refine Wp.iload_n dc_X0_secondsToUndo_36 rfl ?_
  obtain ⟨v37, h37, hE⟩ := bnd hE
  refine Wp.cV2i (ok_X4_at (by omega) h37) dc_X0_secondsToUndo_37 mw_X0_89 (mO3 (by omega)) (by decide) (Nat.le_of_ble_eq_true rfl) ?_
  refine Wp.iadd dc_X0_secondsToUndo_40 ?_
  cases hE
  exact Wp.ireturn dc_X0_secondsToUndo_41 rfl rfl (Nat.le_refl _) (Nat.le_refl _) hK
theorem ok_X0_secondsToUndo_j0 {Q : Option AV → AH → Prop}  {σ : SS} {t : Nat} {x1 : Int32} {x2 : Int32} {o} {z3 : Option AV}  (ht : t < 5) (hE : X0_secondsToUndo_j0  σ t x1 x2 = some o) (hK : Q (some (vi o)) (hp σ)) : Ws 1 mi_X0_secondsToUndo Q 0 [some (vr 0 t), some (vi x1), some (vi x2), z3] [] σ := by
  unfold X0_secondsToUndo_j0 at hE
  refine Wp.iload_n dc_X0_secondsToUndo_0 rfl ?_
  refine Wp.if_ne (tgt := 8) dc_X0_secondsToUndo_1 (by decide) (fun hc1 => ?_) (fun hc1 => ?_)
  · rw [if_neg hc1] at hE
    refine Wp.iload_n dc_X0_secondsToUndo_8 rfl ?_
    refine Wp.iconst dc_X0_secondsToUndo_9 ic_1 ?_
    refine Wp.icmp_ne (tgt := 17) dc_X0_secondsToUndo_10 (by decide) (fun hc10 => ?_) (fun hc10 => ?_)
    · rw [if_neg hc10] at hE
      refine Wp.iload_n dc_X0_secondsToUndo_17 rfl ?_
      refine Wp.iconst dc_X0_secondsToUndo_18 ic_2 ?_
      refine Wp.icmp_ne (tgt := 27) dc_X0_secondsToUndo_19 (by decide) (fun hc19 => ?_) (fun hc19 => ?_)
      · rw [if_neg hc19] at hE
        refine Wp.bipush dc_X0_secondsToUndo_27 bp_15 ?_
        exact ok_X0_secondsToUndo_j29  ht hE hK
      · rw [if_pos hc19] at hE
        refine Wp.bipush dc_X0_secondsToUndo_22 bp_6 ?_
        refine Wp.goto (tgt := 29) dc_X0_secondsToUndo_24 (by decide) ?_
        exact ok_X0_secondsToUndo_j29  ht hE hK
    · rw [if_pos hc10] at hE
      refine Wp.iconst dc_X0_secondsToUndo_13 ic_3 ?_
      refine Wp.goto (tgt := 29) dc_X0_secondsToUndo_14 (by decide) ?_
      exact ok_X0_secondsToUndo_j29  ht hE hK
  · rw [if_pos hc1] at hE
    refine Wp.iconst dc_X0_secondsToUndo_4 ic_1 ?_
    refine Wp.goto (tgt := 29) dc_X0_secondsToUndo_5 (by decide) ?_
    exact ok_X0_secondsToUndo_j29  ht hE hK
theorem ok_X0_secondsToUndo  {σ : SS} {t : Nat} {x1 : Int32} {x2 : Int32} {o}  (ht : t < 5) (hE : X0_secondsToUndo  σ t x1 x2 = some o) : Runs 1 0 0 mi_X0_secondsToUndo [vr 0 t, vi x1, vi x2] (hp σ) (fun v h => v = some (vi o) ∧ h = hp σ) := by
  refine Runs.of pn_X0 (Nat.le_of_ble_eq_true rfl) ?_
  exact ok_X0_secondsToUndo_j0  ht hE ⟨rfl, rfl⟩
def X0_sweep_P4 (Q : Option AV → AH → Prop)  (t : Nat)  (ss : Int32 × Int32 × SS) : Prop := Ws 2 mi_X0_sweep Q 4 [some (vr 0 t), some (vi ss.1), some (vi ss.2.1)] [] ss.2.2
def X0_sweep_R4 (Q : Option AV → AH → Prop)  (t : Nat)  (tt : Int32 × SS) : Prop := ∀ z2 : Option AV, Ws 2 mi_X0_sweep Q 84 [some (vr 0 t), some (vi tt.1), z2] [] tt.2
theorem ok_X0_sweep_j78 {Q : Option AV → AH → Prop}  {σ : SS} {t : Nat} {x1 : Int32} {x2 : Int32} {o}   (ht : t < 5) (hE : X0_sweep_j78  σ t x1 x2 = some o) (hS : ∀ ss, o = Sum.inl ss → (X0_sweep_P4  Q  t ) ss) (hT : ∀ tt, o = Sum.inr tt → (X0_sweep_R4  Q  t ) tt) : Ws 2 mi_X0_sweep Q 78 [some (vr 0 t), some (vi x1), some (vi x2)] [] σ := by
  unfold X0_sweep_j78 at hE
  obtain ⟨x2_78, e_78, hE⟩ := bnS hE
  refine Wp.iinc dc_X0_sweep_78 rfl ((ii ic_1).trans e_78) (by decide) ?_
  refine Wp.goto (tgt := 4) dc_X0_sweep_81 (by decide) ?_
  cases hE
  exact hS _ rfl
theorem ok_X0_sweep_l4c {Q : Option AV → AH → Prop}  {σ : SS} {t : Nat}  {x1 : Int32} {x2 : Int32} {o}   (ht : t < 5) (hE : X0_sweep_l4c  σ t  x1 x2 = some o) (hS : ∀ ss, o = Sum.inl ss → (X0_sweep_P4  Q  t ) ss) (hT : ∀ tt, o = Sum.inr tt → (X0_sweep_R4  Q  t ) tt) : Ws 2 mi_X0_sweep Q 4 [some (vr 0 t), some (vi x1), some (vi x2)] [] σ := by
  unfold X0_sweep_l4c at hE
  refine Wp.iload_n dc_X0_sweep_4 rfl ?_
  refine Wp.aload_n dc_X0_sweep_5 rfl ?_
  refine Wp.sgetI dc_X0_sweep_6 fw_X0_44 (mO0 (by omega)) ?_
  refine Wp.icmp_ge (tgt := 84) dc_X0_sweep_9 (by decide) (fun hc9 => ?_) (fun hc9 => ?_)
  · rw [if_pos hc9] at hE
    cases hE
    exact hT _ rfl _
  · rw [if_neg hc9] at hE
    refine Wp.aload_n dc_X0_sweep_12 rfl ?_
    refine Wp.iload_n dc_X0_sweep_13 rfl ?_
    obtain ⟨v14, h14, hE⟩ := bnd hE
    refine Wp.cV1i (ok_X0_stateAt (by omega) h14) dc_X0_sweep_14 mw_X0_99 (mO0 (by omega)) (by decide) (Nat.le_of_ble_eq_true rfl) ?_
    refine Wp.iconst dc_X0_sweep_17 ic_m1 ?_
    refine Wp.icmp_eq (tgt := 78) dc_X0_sweep_18 (by decide) (fun hc18 => ?_) (fun hc18 => ?_)
    · rw [if_pos hc18] at hE
      exact ok_X0_sweep_j78  ht hE hS hT
    · rw [if_neg hc18] at hE
      refine Wp.aload_n dc_X0_sweep_21 rfl ?_
      refine Wp.sgetR (t := (4 * t + 2)) dc_X0_sweep_22 fw_X0_27 (mO0 (by omega)) rfl ?_
      refine Wp.iconst dc_X0_sweep_25 ic_0 ?_
      refine Wp.iload_n dc_X0_sweep_26 rfl ?_
      refine Wp.aload_n dc_X0_sweep_27 rfl ?_
      refine Wp.sgetR (t := (4 * t + 2)) dc_X0_sweep_28 fw_X0_27 (mO0 (by omega)) rfl ?_
      refine Wp.iconst dc_X0_sweep_31 ic_0 ?_
      refine Wp.iload_n dc_X0_sweep_32 rfl ?_
      obtain ⟨v33, h33, hE⟩ := bnd hE
      refine Wp.cV2i (ok_X4_at (by omega) h33) dc_X0_sweep_33 mw_X0_89 (mO3 (by omega)) (by decide) (Nat.le_of_ble_eq_true rfl) ?_
      obtain ⟨σ36, h36, hE⟩ := bnd hE
      refine Wp.cV3v (ok_X4_put (by omega) h36) dc_X0_sweep_36 mw_X0_106 (mO3 (by omega)) (by decide) (Nat.le_of_ble_eq_true rfl) ?_
      refine Wp.aload_n dc_X0_sweep_39 rfl ?_
      refine Wp.sgetR (t := (4 * t + 2)) dc_X0_sweep_40 fw_X0_27 (mO0 (by omega)) rfl ?_
      refine Wp.iconst dc_X0_sweep_43 ic_1 ?_
      refine Wp.iload_n dc_X0_sweep_44 rfl ?_
      refine Wp.aload_n dc_X0_sweep_45 rfl ?_
      refine Wp.sgetR (t := (4 * t + 2)) dc_X0_sweep_46 fw_X0_27 (mO0 (by omega)) rfl ?_
      refine Wp.iconst dc_X0_sweep_49 ic_1 ?_
      refine Wp.iload_n dc_X0_sweep_50 rfl ?_
      obtain ⟨v51, h51, hE⟩ := bnd hE
      refine Wp.cV2i (ok_X4_at (by omega) h51) dc_X0_sweep_51 mw_X0_89 (mO3 (by omega)) (by decide) (Nat.le_of_ble_eq_true rfl) ?_
      obtain ⟨σ54, h54, hE⟩ := bnd hE
      refine Wp.cV3v (ok_X4_put (by omega) h54) dc_X0_sweep_54 mw_X0_106 (mO3 (by omega)) (by decide) (Nat.le_of_ble_eq_true rfl) ?_
      refine Wp.aload_n dc_X0_sweep_57 rfl ?_
      refine Wp.sgetR (t := (4 * t + 2)) dc_X0_sweep_58 fw_X0_27 (mO0 (by omega)) rfl ?_
      refine Wp.iconst dc_X0_sweep_61 ic_2 ?_
      refine Wp.iload_n dc_X0_sweep_62 rfl ?_
      refine Wp.aload_n dc_X0_sweep_63 rfl ?_
      refine Wp.sgetR (t := (4 * t + 2)) dc_X0_sweep_64 fw_X0_27 (mO0 (by omega)) rfl ?_
      refine Wp.iconst dc_X0_sweep_67 ic_2 ?_
      refine Wp.iload_n dc_X0_sweep_68 rfl ?_
      obtain ⟨v69, h69, hE⟩ := bnd hE
      refine Wp.cV2i (ok_X4_at (by omega) h69) dc_X0_sweep_69 mw_X0_89 (mO3 (by omega)) (by decide) (Nat.le_of_ble_eq_true rfl) ?_
      obtain ⟨σ72, h72, hE⟩ := bnd hE
      refine Wp.cV3v (ok_X4_put (by omega) h72) dc_X0_sweep_72 mw_X0_106 (mO3 (by omega)) (by decide) (Nat.le_of_ble_eq_true rfl) ?_
      obtain ⟨x1_75, e_75, hE⟩ := bnS hE
      refine Wp.iinc dc_X0_sweep_75 rfl ((ii ic_1).trans e_75) (by decide) ?_
      exact ok_X0_sweep_j78  ht hE hS hT
theorem ok_X0_sweep_l4 {Q : Option AV → AH → Prop}  {σ : SS} {t : Nat} {x1 : Int32} {x2 : Int32} {o}   (ht : t < 5) (hE : X0_sweep_l4  σ t x1 x2 = some o) (hK : Q none (hp o)) : Ws 2 mi_X0_sweep Q 4 [some (vr 0 t), some (vi x1), some (vi x2)] [] σ := by
  unfold X0_sweep_l4 at hE
  obtain ⟨t4, h1, hE⟩ := bnd hE
  refine iter_ok (P := (X0_sweep_P4  Q  t )) (R := (X0_sweep_R4  Q  t )) (fun ss o h2 hS hT => ?_) NF _ _ h1 ?_
  · skip
    exact ok_X0_sweep_l4c  ht h2 hS hT
  · intro z2
    show Ws 2 mi_X0_sweep Q 84 [some (vr 0 t), some (vi t4.1), z2] [] t4.2
    refine Wp.aload_n dc_X0_sweep_84 rfl ?_
    refine Wp.iload_n dc_X0_sweep_85 rfl ?_
    refine Wp.sputI dc_X0_sweep_86 fw_X0_44 (mO0 (by omega)) (Nr.i _) ?_
    obtain ⟨σ86, es_86, hE⟩ := bnS hE
    rw [es_86]
    cases hE
    exact Wp.return dc_X0_sweep_89 rfl (Nat.le_refl _) (Nat.le_refl _) hK
theorem ok_X0_sweep_j0 {Q : Option AV → AH → Prop}  {σ : SS} {t : Nat}  {o} {z1 z2 : Option AV}  (ht : t < 5) (hE : X0_sweep_j0  σ t  = some o) (hK : Q none (hp o)) : Ws 2 mi_X0_sweep Q 0 [some (vr 0 t), z1, z2] [] σ := by
  unfold X0_sweep_j0 at hE
  refine Wp.iconst dc_X0_sweep_0 ic_0 ?_
  refine Wp.istore_n dc_X0_sweep_1 (by decide) ?_
  refine Wp.iconst dc_X0_sweep_2 ic_0 ?_
  refine Wp.istore_n dc_X0_sweep_3 (by decide) ?_
  exact ok_X0_sweep_l4  ht hE hK
theorem ok_X0_sweep  {σ : SS} {t : Nat}  {o}  (ht : t < 5) (hE : X0_sweep  σ t  = some o) : Runs 2 0 0 mi_X0_sweep [vr 0 t] (hp σ) (fun v h => v = none ∧ h = hp o) := by
  refine Runs.of pn_X0 (Nat.le_of_ble_eq_true rfl) ?_
  exact ok_X0_sweep_j0  ht hE ⟨rfl, rfl⟩
theorem ok_X0_undoNearest_j17 {Q : Option AV → AH → Prop}  {σ : SS} {t : Nat} {x1 : Int32} {s1 : Int32} {s2 : Int32} {o} {z2 z3 z4 : Option AV}  (ht : t < 5) (hE : X0_undoNearest_j17  σ t x1 s1 s2 = some o) (hK : Q (some (vi o.1)) (hp o.2)) : Ws 3 mi_X0_undoNearest Q 17 [some (vr 0 t), some (vi x1), z2, z3, z4] [vi s2, vi s1, vr 0 t] σ := by
  unfold X0_undoNearest_j17 at hE
  obtain ⟨v17, h17, hE⟩ := bnd hE
  refine Wp.cV2i (ok_X0_crossingOn (by omega) h17) dc_X0_undoNearest_17 mw_X0_122 (mO0 (by omega)) (by decide) (Nat.le_of_ble_eq_true rfl) ?_
  refine Wp.istore_n dc_X0_undoNearest_20 (by decide) ?_
  refine Wp.aload_n dc_X0_undoNearest_21 rfl ?_
  refine Wp.aload_n dc_X0_undoNearest_22 rfl ?_
  refine Wp.iload_n dc_X0_undoNearest_23 rfl ?_
  obtain ⟨v24, h24, hE⟩ := bnd hE
  refine Wp.cV1i (ok_X0_stateAt (by omega) h24) dc_X0_undoNearest_24 mw_X0_99 (mO0 (by omega)) (by decide) (Nat.le_of_ble_eq_true rfl) ?_
  refine Wp.aload_n dc_X0_undoNearest_27 rfl ?_
  refine Wp.iload_n dc_X0_undoNearest_28 rfl ?_
  refine Wp.iload_n dc_X0_undoNearest_29 rfl ?_
  obtain ⟨v30, h30, hE⟩ := bnd hE
  refine Wp.cV2i (ok_X0_otherAt (by omega) h30) dc_X0_undoNearest_30 mw_X0_96 (mO0 (by omega)) (by decide) (Nat.le_of_ble_eq_true rfl) ?_
  obtain ⟨v33, h33, hE⟩ := bnd hE
  refine Wp.cV2i (ok_X0_secondsToUndo (by omega) h33) dc_X0_undoNearest_33 mw_X0_125 (mO0 (by omega)) (by decide) (Nat.le_of_ble_eq_true rfl) ?_
  refine Wp.istore dc_X0_undoNearest_36 (by decide) ?_
  refine Wp.aload_n dc_X0_undoNearest_38 rfl ?_
  refine Wp.sgetR (t := (4 * t + 2)) dc_X0_undoNearest_39 fw_X0_27 (mO0 (by omega)) rfl ?_
  refine Wp.iconst dc_X0_undoNearest_42 ic_2 ?_
  refine Wp.iload_n dc_X0_undoNearest_43 rfl ?_
  refine Wp.iconst dc_X0_undoNearest_44 ic_m1 ?_
  obtain ⟨σ45, h45, hE⟩ := bnd hE
  refine Wp.cV3v (ok_X4_put (by omega) h45) dc_X0_undoNearest_45 mw_X0_106 (mO3 (by omega)) (by decide) (Nat.le_of_ble_eq_true rfl) ?_
  refine Wp.aload_n dc_X0_undoNearest_48 rfl ?_
  obtain ⟨σ49, h49, hE⟩ := bnd hE
  refine Wp.cV0v (ok_X0_sweep (by omega) h49) dc_X0_undoNearest_49 mw_X0_128 (mO0 (by omega)) (by decide) (Nat.le_of_ble_eq_true rfl) ?_
  refine Wp.aload_n dc_X0_undoNearest_52 rfl ?_
  refine Wp.dup dc_X0_undoNearest_53 rfl ?_
  refine Wp.sgetI dc_X0_undoNearest_54 fw_X0_56 (mO0 (by omega)) ?_
  refine Wp.iload dc_X0_undoNearest_57 rfl ?_
  refine Wp.iadd dc_X0_undoNearest_59 ?_
  refine Wp.sputI dc_X0_undoNearest_60 fw_X0_56 (mO0 (by omega)) (Nr.i _) ?_
  obtain ⟨σ60, es_60, hE⟩ := bnS hE
  rw [es_60]
  refine Wp.iload dc_X0_undoNearest_63 rfl ?_
  cases hE
  exact Wp.ireturn dc_X0_undoNearest_65 rfl rfl (Nat.le_refl _) (Nat.le_refl _) hK
theorem ok_X0_undoNearest_j0 {Q : Option AV → AH → Prop}  {σ : SS} {t : Nat} {x1 : Int32} {x2 : Int32} {o} {z3 z4 : Option AV}  (ht : t < 5) (hE : X0_undoNearest_j0  σ t x1 x2 = some o) (hK : Q (some (vi o.1)) (hp o.2)) : Ws 3 mi_X0_undoNearest Q 0 [some (vr 0 t), some (vi x1), some (vi x2), z3, z4] [] σ := by
  unfold X0_undoNearest_j0 at hE
  refine Wp.aload_n dc_X0_undoNearest_0 rfl ?_
  refine Wp.iload_n dc_X0_undoNearest_1 rfl ?_
  refine Wp.iload_n dc_X0_undoNearest_2 rfl ?_
  refine Wp.if_ne (tgt := 10) dc_X0_undoNearest_3 (by decide) (fun hc3 => ?_) (fun hc3 => ?_)
  · rw [if_neg hc3] at hE
    refine Wp.aload_n dc_X0_undoNearest_10 rfl ?_
    refine Wp.iload_n dc_X0_undoNearest_11 rfl ?_
    obtain ⟨v12, h12, hE⟩ := bnd hE
    refine Wp.cV1i (ok_X0_countOn (by omega) h12) dc_X0_undoNearest_12 mw_X0_79 (mO0 (by omega)) (by decide) (Nat.le_of_ble_eq_true rfl) ?_
    refine Wp.iconst dc_X0_undoNearest_15 ic_1 ?_
    refine Wp.isub dc_X0_undoNearest_16 ?_
    exact ok_X0_undoNearest_j17  ht hE hK
  · rw [if_pos hc3] at hE
    refine Wp.iconst dc_X0_undoNearest_6 ic_0 ?_
    refine Wp.goto (tgt := 17) dc_X0_undoNearest_7 (by decide) ?_
    exact ok_X0_undoNearest_j17  ht hE hK
theorem ok_X0_undoNearest  {σ : SS} {t : Nat} {x1 : Int32} {x2 : Int32} {o}  (ht : t < 5) (hE : X0_undoNearest  σ t x1 x2 = some o) : Runs 3 0 0 mi_X0_undoNearest [vr 0 t, vi x1, vi x2] (hp σ) (fun v h => v = some (vi o.1) ∧ h = hp o.2) := by
  refine Runs.of pn_X0 (Nat.le_of_ble_eq_true rfl) ?_
  exact ok_X0_undoNearest_j0  ht hE ⟨rfl, rfl⟩
theorem ok_X0_stateAfter_j0 {Q : Option AV → AH → Prop}  {σ : SS} {t : Nat} {x1 : Int32} {x2 : Int32} {o} {z3 : Option AV}  (ht : t < 5) (hE : X0_stateAfter_j0  σ t x1 x2 = some o) (hK : Q (some (vi o)) (hp σ)) : Ws 1 mi_X0_stateAfter Q 0 [some (vr 0 t), some (vi x1), some (vi x2), z3] [] σ := by
  unfold X0_stateAfter_j0 at hE
  refine Wp.aload_n dc_X0_stateAfter_0 rfl ?_
  refine Wp.sgetR (t := (4 * t + 2)) dc_X0_stateAfter_1 fw_X0_27 (mO0 (by omega)) rfl ?_
  refine Wp.iconst dc_X0_stateAfter_4 ic_2 ?_
  refine Wp.iload_n dc_X0_stateAfter_5 rfl ?_
  obtain ⟨v6, h6, hE⟩ := bnd hE
  refine Wp.cV2i (ok_X4_at (by omega) h6) dc_X0_stateAfter_6 mw_X0_89 (mO3 (by omega)) (by decide) (Nat.le_of_ble_eq_true rfl) ?_
  refine Wp.istore_n dc_X0_stateAfter_9 (by decide) ?_
  refine Wp.iload_n dc_X0_stateAfter_10 rfl ?_
  refine Wp.iconst dc_X0_stateAfter_11 ic_3 ?_
  refine Wp.icmp_ne (tgt := 19) dc_X0_stateAfter_12 (by decide) (fun hc12 => ?_) (fun hc12 => ?_)
  · rw [if_neg hc12] at hE
    refine Wp.iload_n dc_X0_stateAfter_19 rfl ?_
    refine Wp.iload_n dc_X0_stateAfter_20 rfl ?_
    refine Wp.isub dc_X0_stateAfter_21 ?_
    cases hE
    exact Wp.ireturn dc_X0_stateAfter_22 rfl rfl (Nat.le_refl _) (Nat.le_refl _) hK
  · rw [if_pos hc12] at hE
    refine Wp.iconst dc_X0_stateAfter_15 ic_3 ?_
    refine Wp.goto (tgt := 22) dc_X0_stateAfter_16 (by decide) ?_
    cases hE
    exact Wp.ireturn dc_X0_stateAfter_22 rfl rfl (Nat.le_refl _) (Nat.le_refl _) hK
theorem ok_X0_stateAfter  {σ : SS} {t : Nat} {x1 : Int32} {x2 : Int32} {o}  (ht : t < 5) (hE : X0_stateAfter  σ t x1 x2 = some o) : Runs 1 0 0 mi_X0_stateAfter [vr 0 t, vi x1, vi x2] (hp σ) (fun v h => v = some (vi o) ∧ h = hp σ) := by
  refine Runs.of pn_X0 (Nat.le_of_ble_eq_true rfl) ?_
  exact ok_X0_stateAfter_j0  ht hE ⟨rfl, rfl⟩
def X0_loosenOnce_P7 (Q : Option AV → AH → Prop)  (t : Nat) (x1 : Int32) (ss : Int32 × SS) : Prop := Ws 3 mi_X0_loosenOnce Q 7 [some (vr 0 t), some (vi x1), some (vi ss.1)] [] ss.2
def X0_loosenOnce_R7 (Q : Option AV → AH → Prop)  (t : Nat) (x1 : Int32) (tt : SS) : Prop := ∀ z2 : Option AV, Ws 3 mi_X0_loosenOnce Q 36 [some (vr 0 t), some (vi x1), z2] [] tt
theorem ok_X0_loosenOnce_l7c {Q : Option AV → AH → Prop}  {σ : SS} {t : Nat} {x1 : Int32} {x2 : Int32} {o}   (ht : t < 5) (hE : X0_loosenOnce_l7c  σ t x1 x2 = some o) (hS : ∀ ss, o = Sum.inl ss → (X0_loosenOnce_P7  Q  t x1) ss) (hT : ∀ tt, o = Sum.inr tt → (X0_loosenOnce_R7  Q  t x1) tt) : Ws 3 mi_X0_loosenOnce Q 7 [some (vr 0 t), some (vi x1), some (vi x2)] [] σ := by
  unfold X0_loosenOnce_l7c at hE
  refine Wp.iload_n dc_X0_loosenOnce_7 rfl ?_
  refine Wp.aload_n dc_X0_loosenOnce_8 rfl ?_
  refine Wp.sgetI dc_X0_loosenOnce_9 fw_X0_44 (mO0 (by omega)) ?_
  refine Wp.icmp_ge (tgt := 36) dc_X0_loosenOnce_12 (by decide) (fun hc12 => ?_) (fun hc12 => ?_)
  · rw [if_pos hc12] at hE
    cases hE
    exact hT _ rfl _
  · rw [if_neg hc12] at hE
    refine Wp.aload_n dc_X0_loosenOnce_15 rfl ?_
    refine Wp.sgetR (t := (4 * t + 2)) dc_X0_loosenOnce_16 fw_X0_27 (mO0 (by omega)) rfl ?_
    refine Wp.iconst dc_X0_loosenOnce_19 ic_2 ?_
    refine Wp.iload_n dc_X0_loosenOnce_20 rfl ?_
    refine Wp.aload_n dc_X0_loosenOnce_21 rfl ?_
    refine Wp.iload_n dc_X0_loosenOnce_22 rfl ?_
    refine Wp.iconst dc_X0_loosenOnce_23 ic_1 ?_
    obtain ⟨v24, h24, hE⟩ := bnd hE
    refine Wp.cV2i (ok_X0_stateAfter (by omega) h24) dc_X0_loosenOnce_24 mw_X0_131 (mO0 (by omega)) (by decide) (Nat.le_of_ble_eq_true rfl) ?_
    obtain ⟨σ27, h27, hE⟩ := bnd hE
    refine Wp.cV3v (ok_X4_put (by omega) h27) dc_X0_loosenOnce_27 mw_X0_106 (mO3 (by omega)) (by decide) (Nat.le_of_ble_eq_true rfl) ?_
    obtain ⟨x2_30, e_30, hE⟩ := bnS hE
    refine Wp.iinc dc_X0_loosenOnce_30 rfl ((ii ic_1).trans e_30) (by decide) ?_
    refine Wp.goto (tgt := 7) dc_X0_loosenOnce_33 (by decide) ?_
    cases hE
    exact hS _ rfl
theorem ok_X0_loosenOnce_l7 {Q : Option AV → AH → Prop}  {σ : SS} {t : Nat} {x1 : Int32} {x2 : Int32} {o}   (ht : t < 5) (hE : X0_loosenOnce_l7  σ t x1 x2 = some o) (hK : Q (some (vi o.1)) (hp o.2)) : Ws 3 mi_X0_loosenOnce Q 7 [some (vr 0 t), some (vi x1), some (vi x2)] [] σ := by
  unfold X0_loosenOnce_l7 at hE
  obtain ⟨t7, h1, hE⟩ := bnd hE
  refine iter_ok (P := (X0_loosenOnce_P7  Q  t x1)) (R := (X0_loosenOnce_R7  Q  t x1)) (fun ss o h2 hS hT => ?_) NF _ _ h1 ?_
  · skip
    exact ok_X0_loosenOnce_l7c  ht h2 hS hT
  · intro z2
    show Ws 3 mi_X0_loosenOnce Q 36 [some (vr 0 t), some (vi x1), z2] [] t7
    refine Wp.aload_n dc_X0_loosenOnce_36 rfl ?_
    obtain ⟨σ37, h37, hE⟩ := bnd hE
    refine Wp.cV0v (ok_X0_sweep (by omega) h37) dc_X0_loosenOnce_37 mw_X0_128 (mO0 (by omega)) (by decide) (Nat.le_of_ble_eq_true rfl) ?_
    refine Wp.aload_n dc_X0_loosenOnce_40 rfl ?_
    refine Wp.dup dc_X0_loosenOnce_41 rfl ?_
    refine Wp.sgetI dc_X0_loosenOnce_42 fw_X0_56 (mO0 (by omega)) ?_
    refine Wp.iload_n dc_X0_loosenOnce_45 rfl ?_
    refine Wp.iadd dc_X0_loosenOnce_46 ?_
    refine Wp.sputI dc_X0_loosenOnce_47 fw_X0_56 (mO0 (by omega)) (Nr.i _) ?_
    obtain ⟨σ47, es_47, hE⟩ := bnS hE
    rw [es_47]
    refine Wp.iload_n dc_X0_loosenOnce_50 rfl ?_
    cases hE
    exact Wp.ireturn dc_X0_loosenOnce_51 rfl rfl (Nat.le_refl _) (Nat.le_refl _) hK
theorem ok_X0_loosenOnce_j0 {Q : Option AV → AH → Prop}  {σ : SS} {t : Nat}  {o} {z1 z2 : Option AV}  (ht : t < 5) (hE : X0_loosenOnce_j0  σ t  = some o) (hK : Q (some (vi o.1)) (hp o.2)) : Ws 3 mi_X0_loosenOnce Q 0 [some (vr 0 t), z1, z2] [] σ := by
  unfold X0_loosenOnce_j0 at hE
  refine Wp.aload_n dc_X0_loosenOnce_0 rfl ?_
  refine Wp.sgetI dc_X0_loosenOnce_1 fw_X0_44 (mO0 (by omega)) ?_
  obtain ⟨x1_4, e_4, hE⟩ := bnS hE
  rw [e_4]
  refine Wp.istore_n dc_X0_loosenOnce_4 (by decide) ?_
  refine Wp.iconst dc_X0_loosenOnce_5 ic_0 ?_
  refine Wp.istore_n dc_X0_loosenOnce_6 (by decide) ?_
  exact ok_X0_loosenOnce_l7  ht hE hK
theorem ok_X0_loosenOnce  {σ : SS} {t : Nat}  {o}  (ht : t < 5) (hE : X0_loosenOnce  σ t  = some o) : Runs 3 0 0 mi_X0_loosenOnce [vr 0 t] (hp σ) (fun v h => v = some (vi o.1) ∧ h = hp o.2) := by
  refine Runs.of pn_X0 (Nat.le_of_ble_eq_true rfl) ?_
  exact ok_X0_loosenOnce_j0  ht hE ⟨rfl, rfl⟩
def X0_secondsToLoosen_P4 (Q : Option AV → AH → Prop) (σ : SS) (t : Nat) (x1 : Int32) (ss : Int32 × Int32) : Prop := Ws 2 mi_X0_secondsToLoosen Q 4 [some (vr 0 t), some (vi x1), some (vi ss.1), some (vi ss.2)] [] σ
def X0_secondsToLoosen_R4 (Q : Option AV → AH → Prop) (σ : SS) (t : Nat) (x1 : Int32) (tt : Int32) : Prop := ∀ z0 z1 z3 : Option AV, Ws 2 mi_X0_secondsToLoosen Q 45 [z0, z1, some (vi tt), z3] [] σ
theorem ok_X0_secondsToLoosen_j37 {Q : Option AV → AH → Prop}  {σ : SS} {t : Nat} {x1 : Int32} {x3 : Int32} {s0 : Int32} {s1 : Int32} {o} {z2 : Option AV}  (ht : t < 5) (hE : X0_secondsToLoosen_j37  σ t x1 x3 s0 s1 = some o) (hS : ∀ ss, o = Sum.inl ss → (X0_secondsToLoosen_P4  Q σ t x1) ss) (hT : ∀ tt, o = Sum.inr tt → (X0_secondsToLoosen_R4  Q σ t x1) tt) : Ws 2 mi_X0_secondsToLoosen Q 37 [some (vr 0 t), some (vi x1), z2, some (vi x3)] [vi s1, vi s0] σ := by
  unfold X0_secondsToLoosen_j37 at hE
  refine Wp.iadd dc_X0_secondsToLoosen_37 ?_
  obtain ⟨x2_38, e_38, hE⟩ := bnS hE
  rw [e_38]
  refine Wp.istore_n dc_X0_secondsToLoosen_38 (by decide) ?_
  obtain ⟨x3_39, e_39, hE⟩ := bnS hE
  refine Wp.iinc dc_X0_secondsToLoosen_39 rfl ((ii ic_1).trans e_39) (by decide) ?_
  refine Wp.goto (tgt := 4) dc_X0_secondsToLoosen_42 (by decide) ?_
  cases hE
  exact hS _ rfl
theorem ok_X0_secondsToLoosen_l4c {Q : Option AV → AH → Prop}  {σ : SS} {t : Nat} {x1 : Int32} {x2 : Int32} {x3 : Int32} {o}   (ht : t < 5) (hE : X0_secondsToLoosen_l4c  σ t x1 x2 x3 = some o) (hS : ∀ ss, o = Sum.inl ss → (X0_secondsToLoosen_P4  Q σ t x1) ss) (hT : ∀ tt, o = Sum.inr tt → (X0_secondsToLoosen_R4  Q σ t x1) tt) : Ws 2 mi_X0_secondsToLoosen Q 4 [some (vr 0 t), some (vi x1), some (vi x2), some (vi x3)] [] σ := by
  unfold X0_secondsToLoosen_l4c at hE
  refine Wp.iload_n dc_X0_secondsToLoosen_4 rfl ?_
  refine Wp.aload_n dc_X0_secondsToLoosen_5 rfl ?_
  refine Wp.sgetI dc_X0_secondsToLoosen_6 fw_X0_44 (mO0 (by omega)) ?_
  refine Wp.icmp_ge (tgt := 45) dc_X0_secondsToLoosen_9 (by decide) (fun hc9 => ?_) (fun hc9 => ?_)
  · rw [if_pos hc9] at hE
    cases hE
    exact hT _ rfl _ _ _
  · rw [if_neg hc9] at hE
    refine Wp.iload_n dc_X0_secondsToLoosen_12 rfl ?_
    refine Wp.aload_n dc_X0_secondsToLoosen_13 rfl ?_
    refine Wp.iload_n dc_X0_secondsToLoosen_14 rfl ?_
    obtain ⟨v15, h15, hE⟩ := bnd hE
    refine Wp.cV1i (ok_X0_stateAt (by omega) h15) dc_X0_secondsToLoosen_15 mw_X0_99 (mO0 (by omega)) (by decide) (Nat.le_of_ble_eq_true rfl) ?_
    refine Wp.iconst dc_X0_secondsToLoosen_18 ic_3 ?_
    refine Wp.icmp_ne (tgt := 26) dc_X0_secondsToLoosen_19 (by decide) (fun hc19 => ?_) (fun hc19 => ?_)
    · rw [if_neg hc19] at hE
      refine Wp.iload_n dc_X0_secondsToLoosen_26 rfl ?_
      refine Wp.aload_n dc_X0_secondsToLoosen_27 rfl ?_
      refine Wp.iload_n dc_X0_secondsToLoosen_28 rfl ?_
      obtain ⟨v29, h29, hE⟩ := bnd hE
      refine Wp.cV1i (ok_X0_stateAt (by omega) h29) dc_X0_secondsToLoosen_29 mw_X0_99 (mO0 (by omega)) (by decide) (Nat.le_of_ble_eq_true rfl) ?_
      refine Wp.iconst dc_X0_secondsToLoosen_32 ic_1 ?_
      refine Wp.iadd dc_X0_secondsToLoosen_33 ?_
      refine Wp.mmin dc_X0_secondsToLoosen_34 lw_X0_110 ms_min mi_Math mk_min (by decide) (Nat.le_refl _) (Nat.le_refl _) (Nat.le_of_ble_eq_true rfl) ?_
      exact ok_X0_secondsToLoosen_j37  ht hE hS hT
    · rw [if_pos hc19] at hE
      refine Wp.iload_n dc_X0_secondsToLoosen_22 rfl ?_
      refine Wp.goto (tgt := 37) dc_X0_secondsToLoosen_23 (by decide) ?_
      exact ok_X0_secondsToLoosen_j37  ht hE hS hT
theorem ok_X0_secondsToLoosen_l4 {Q : Option AV → AH → Prop}  {σ : SS} {t : Nat} {x1 : Int32} {x2 : Int32} {x3 : Int32} {o}   (ht : t < 5) (hE : X0_secondsToLoosen_l4  σ t x1 x2 x3 = some o) (hK : Q (some (vi o)) (hp σ)) : Ws 2 mi_X0_secondsToLoosen Q 4 [some (vr 0 t), some (vi x1), some (vi x2), some (vi x3)] [] σ := by
  unfold X0_secondsToLoosen_l4 at hE
  obtain ⟨t4, h1, hE⟩ := bnd hE
  refine iter_ok (P := (X0_secondsToLoosen_P4  Q σ t x1)) (R := (X0_secondsToLoosen_R4  Q σ t x1)) (fun ss o h2 hS hT => ?_) NF _ _ h1 ?_
  · skip
    exact ok_X0_secondsToLoosen_l4c  ht h2 hS hT
  · intro z0 z1 z3
    show Ws 2 mi_X0_secondsToLoosen Q 45 [z0, z1, some (vi t4), z3] [] σ
    refine Wp.iload_n dc_X0_secondsToLoosen_45 rfl ?_
    cases hE
    exact Wp.ireturn dc_X0_secondsToLoosen_46 rfl rfl (Nat.le_refl _) (Nat.le_refl _) hK
theorem ok_X0_secondsToLoosen_j0 {Q : Option AV → AH → Prop}  {σ : SS} {t : Nat} {x1 : Int32} {o} {z2 z3 : Option AV}  (ht : t < 5) (hE : X0_secondsToLoosen_j0  σ t x1 = some o) (hK : Q (some (vi o)) (hp σ)) : Ws 2 mi_X0_secondsToLoosen Q 0 [some (vr 0 t), some (vi x1), z2, z3] [] σ := by
  unfold X0_secondsToLoosen_j0 at hE
  refine Wp.iconst dc_X0_secondsToLoosen_0 ic_0 ?_
  refine Wp.istore_n dc_X0_secondsToLoosen_1 (by decide) ?_
  refine Wp.iconst dc_X0_secondsToLoosen_2 ic_0 ?_
  refine Wp.istore_n dc_X0_secondsToLoosen_3 (by decide) ?_
  exact ok_X0_secondsToLoosen_l4  ht hE hK
theorem ok_X0_secondsToLoosen  {σ : SS} {t : Nat} {x1 : Int32} {o}  (ht : t < 5) (hE : X0_secondsToLoosen  σ t x1 = some o) : Runs 2 0 0 mi_X0_secondsToLoosen [vr 0 t, vi x1] (hp σ) (fun v h => v = some (vi o) ∧ h = hp σ) := by
  refine Runs.of pn_X0 (Nat.le_of_ble_eq_true rfl) ?_
  exact ok_X0_secondsToLoosen_j0  ht hE ⟨rfl, rfl⟩
def X0_pullAt_P2 (Q : Option AV → AH → Prop)  (t : Nat) (x1 : Int32) (x2 : Int32) (ss : Int32 × SS) : Prop := ∀ z4 z5 : Option AV, Ws 3 mi_X0_pullAt Q 2 [some (vr 0 t), some (vi x1), some (vi x2), some (vi ss.1), z4, z5] [] ss.2
def X0_pullAt_R2 (Q : Option AV → AH → Prop)  (t : Nat) (x1 : Int32) (x2 : Int32) (tt : SS) : Prop := ∀ z1 z2 z3 z4 z5 : Option AV, Ws 3 mi_X0_pullAt Q 75 [some (vr 0 t), z1, z2, z3, z4, z5] [] tt
theorem ok_X0_pullAt_j69 {Q : Option AV → AH → Prop}  {σ : SS} {t : Nat} {x1 : Int32} {x2 : Int32} {x3 : Int32} {o} {z4 z5 : Option AV}  (ht : t < 5) (hE : X0_pullAt_j69  σ t x1 x2 x3 = some o) (hS : ∀ ss, o = Sum.inl ss → (X0_pullAt_P2  Q  t x1 x2) ss) (hT : ∀ tt, o = Sum.inr tt → (X0_pullAt_R2  Q  t x1 x2) tt) : Ws 3 mi_X0_pullAt Q 69 [some (vr 0 t), some (vi x1), some (vi x2), some (vi x3), z4, z5] [] σ := by
  unfold X0_pullAt_j69 at hE
  obtain ⟨x3_69, e_69, hE⟩ := bnS hE
  refine Wp.iinc dc_X0_pullAt_69 rfl ((ii ic_1).trans e_69) (by decide) ?_
  refine Wp.goto (tgt := 2) dc_X0_pullAt_72 (by decide) ?_
  cases hE
  exact hS _ rfl _ _
theorem ok_X0_pullAt_j66 {Q : Option AV → AH → Prop}  {σ : SS} {t : Nat} {x1 : Int32} {x2 : Int32} {x3 : Int32} {s1 : Int32} {s2 : Int32} {s3 : Int32} {o} {z4 z5 : Option AV}  (ht : t < 5) (hE : X0_pullAt_j66  σ t x1 x2 x3 s1 s2 s3 = some o) (hS : ∀ ss, o = Sum.inl ss → (X0_pullAt_P2  Q  t x1 x2) ss) (hT : ∀ tt, o = Sum.inr tt → (X0_pullAt_R2  Q  t x1 x2) tt) : Ws 3 mi_X0_pullAt Q 66 [some (vr 0 t), some (vi x1), some (vi x2), some (vi x3), z4, z5] [vi s3, vi s2, vi s1, vr 3 (4 * t + 2)] σ := by
  unfold X0_pullAt_j66 at hE
  obtain ⟨σ66, h66, hE⟩ := bnd hE
  refine Wp.cV3v (ok_X4_put (by omega) h66) dc_X0_pullAt_66 mw_X0_106 (mO3 (by omega)) (by decide) (Nat.le_of_ble_eq_true rfl) ?_
  exact ok_X0_pullAt_j69  ht hE hS hT
theorem ok_X0_pullAt_j41 {Q : Option AV → AH → Prop}  {σ : SS} {t : Nat} {x1 : Int32} {x2 : Int32} {x3 : Int32} {x4 : Int32} {s0 : Int32} {o} {z5 : Option AV}  (ht : t < 5) (hE : X0_pullAt_j41  σ t x1 x2 x3 x4 s0 = some o) (hS : ∀ ss, o = Sum.inl ss → (X0_pullAt_P2  Q  t x1 x2) ss) (hT : ∀ tt, o = Sum.inr tt → (X0_pullAt_R2  Q  t x1 x2) tt) : Ws 3 mi_X0_pullAt Q 41 [some (vr 0 t), some (vi x1), some (vi x2), some (vi x3), some (vi x4), z5] [vi s0] σ := by
  unfold X0_pullAt_j41 at hE
  refine Wp.istore dc_X0_pullAt_41 (by decide) ?_
  refine Wp.aload_n dc_X0_pullAt_43 rfl ?_
  refine Wp.sgetR (t := (4 * t + 2)) dc_X0_pullAt_44 fw_X0_27 (mO0 (by omega)) rfl ?_
  refine Wp.iconst dc_X0_pullAt_47 ic_2 ?_
  refine Wp.iload_n dc_X0_pullAt_48 rfl ?_
  refine Wp.iload dc_X0_pullAt_49 rfl ?_
  refine Wp.if_eq (tgt := 58) dc_X0_pullAt_51 (by decide) (fun hc51 => ?_) (fun hc51 => ?_)
  · rw [if_pos hc51] at hE
    refine Wp.iconst dc_X0_pullAt_58 ic_3 ?_
    refine Wp.iload dc_X0_pullAt_59 rfl ?_
    refine Wp.iconst dc_X0_pullAt_61 ic_1 ?_
    refine Wp.iadd dc_X0_pullAt_62 ?_
    refine Wp.mmin dc_X0_pullAt_63 lw_X0_110 ms_min mi_Math mk_min (by decide) (Nat.le_refl _) (Nat.le_refl _) (Nat.le_of_ble_eq_true rfl) ?_
    exact ok_X0_pullAt_j66  ht hE hS hT
  · rw [if_neg hc51] at hE
    refine Wp.iconst dc_X0_pullAt_54 ic_m1 ?_
    refine Wp.goto (tgt := 66) dc_X0_pullAt_55 (by decide) ?_
    exact ok_X0_pullAt_j66  ht hE hS hT
theorem ok_X0_pullAt_j36 {Q : Option AV → AH → Prop}  {σ : SS} {t : Nat} {x1 : Int32} {x2 : Int32} {x3 : Int32} {x4 : Int32} {o} {z5 : Option AV}  (ht : t < 5) (hE : X0_pullAt_j36  σ t x1 x2 x3 x4 = some o) (hS : ∀ ss, o = Sum.inl ss → (X0_pullAt_P2  Q  t x1 x2) ss) (hT : ∀ tt, o = Sum.inr tt → (X0_pullAt_R2  Q  t x1 x2) tt) : Ws 3 mi_X0_pullAt Q 36 [some (vr 0 t), some (vi x1), some (vi x2), some (vi x3), some (vi x4), z5] [] σ := by
  unfold X0_pullAt_j36 at hE
  refine Wp.iconst dc_X0_pullAt_36 ic_1 ?_
  refine Wp.goto (tgt := 41) dc_X0_pullAt_37 (by decide) ?_
  exact ok_X0_pullAt_j41  ht hE hS hT
theorem ok_X0_pullAt_l2c {Q : Option AV → AH → Prop}  {σ : SS} {t : Nat} {x1 : Int32} {x2 : Int32} {x3 : Int32} {o} {z4 z5 : Option AV}  (ht : t < 5) (hE : X0_pullAt_l2c  σ t x1 x2 x3 = some o) (hS : ∀ ss, o = Sum.inl ss → (X0_pullAt_P2  Q  t x1 x2) ss) (hT : ∀ tt, o = Sum.inr tt → (X0_pullAt_R2  Q  t x1 x2) tt) : Ws 3 mi_X0_pullAt Q 2 [some (vr 0 t), some (vi x1), some (vi x2), some (vi x3), z4, z5] [] σ := by
  unfold X0_pullAt_l2c at hE
  refine Wp.iload_n dc_X0_pullAt_2 rfl ?_
  refine Wp.aload_n dc_X0_pullAt_3 rfl ?_
  refine Wp.sgetI dc_X0_pullAt_4 fw_X0_44 (mO0 (by omega)) ?_
  refine Wp.icmp_ge (tgt := 75) dc_X0_pullAt_7 (by decide) (fun hc7 => ?_) (fun hc7 => ?_)
  · rw [if_pos hc7] at hE
    cases hE
    exact hT _ rfl _ _ _ _ _
  · rw [if_neg hc7] at hE
    refine Wp.aload_n dc_X0_pullAt_10 rfl ?_
    refine Wp.iload_n dc_X0_pullAt_11 rfl ?_
    refine Wp.iload_n dc_X0_pullAt_12 rfl ?_
    obtain ⟨v13, h13, hE⟩ := bnd hE
    refine Wp.cV2i (ok_X0_otherAt (by omega) h13) dc_X0_pullAt_13 mw_X0_96 (mO0 (by omega)) (by decide) (Nat.le_of_ble_eq_true rfl) ?_
    refine Wp.iconst dc_X0_pullAt_16 ic_m1 ?_
    refine Wp.icmp_eq (tgt := 69) dc_X0_pullAt_17 (by decide) (fun hc17 => ?_) (fun hc17 => ?_)
    · rw [if_pos hc17] at hE
      exact ok_X0_pullAt_j69  ht hE hS hT
    · rw [if_neg hc17] at hE
      refine Wp.aload_n dc_X0_pullAt_20 rfl ?_
      refine Wp.iload_n dc_X0_pullAt_21 rfl ?_
      obtain ⟨v22, h22, hE⟩ := bnd hE
      refine Wp.cV1i (ok_X0_stateAt (by omega) h22) dc_X0_pullAt_22 mw_X0_99 (mO0 (by omega)) (by decide) (Nat.le_of_ble_eq_true rfl) ?_
      refine Wp.istore dc_X0_pullAt_25 (by decide) ?_
      refine Wp.iload_n dc_X0_pullAt_27 rfl ?_
      refine Wp.if_ne (tgt := 36) dc_X0_pullAt_28 (by decide) (fun hc28 => ?_) (fun hc28 => ?_)
      · rw [if_neg hc28] at hE
        exact ok_X0_pullAt_j36  ht hE hS hT
      · rw [if_pos hc28] at hE
        refine Wp.iload dc_X0_pullAt_31 rfl ?_
        refine Wp.if_ne (tgt := 40) dc_X0_pullAt_33 (by decide) (fun hc33 => ?_) (fun hc33 => ?_)
        · rw [if_neg hc33] at hE
          refine Wp.iconst dc_X0_pullAt_40 ic_0 ?_
          exact ok_X0_pullAt_j41  ht hE hS hT
        · rw [if_pos hc33] at hE
          exact ok_X0_pullAt_j36  ht hE hS hT
theorem ok_X0_pullAt_l2 {Q : Option AV → AH → Prop}  {σ : SS} {t : Nat} {x1 : Int32} {x2 : Int32} {x3 : Int32} {o} {z4 z5 : Option AV}  (ht : t < 5) (hE : X0_pullAt_l2  σ t x1 x2 x3 = some o) (hK : Q none (hp o)) : Ws 3 mi_X0_pullAt Q 2 [some (vr 0 t), some (vi x1), some (vi x2), some (vi x3), z4, z5] [] σ := by
  unfold X0_pullAt_l2 at hE
  obtain ⟨t2, h1, hE⟩ := bnd hE
  refine iter_ok (P := (X0_pullAt_P2  Q  t x1 x2)) (R := (X0_pullAt_R2  Q  t x1 x2)) (fun ss o h2 hS hT => ?_) NF _ _ h1 ?_ _ _
  · intro z4 z5
    exact ok_X0_pullAt_l2c  ht h2 hS hT
  · intro z1 z2 z3 z4 z5
    show Ws 3 mi_X0_pullAt Q 75 [some (vr 0 t), z1, z2, z3, z4, z5] [] t2
    refine Wp.aload_n dc_X0_pullAt_75 rfl ?_
    obtain ⟨σ76, h76, hE⟩ := bnd hE
    refine Wp.cV0v (ok_X0_sweep (by omega) h76) dc_X0_pullAt_76 mw_X0_128 (mO0 (by omega)) (by decide) (Nat.le_of_ble_eq_true rfl) ?_
    refine Wp.aload_n dc_X0_pullAt_79 rfl ?_
    refine Wp.dup dc_X0_pullAt_80 rfl ?_
    refine Wp.sgetI dc_X0_pullAt_81 fw_X0_56 (mO0 (by omega)) ?_
    refine Wp.iconst dc_X0_pullAt_84 ic_2 ?_
    refine Wp.iadd dc_X0_pullAt_85 ?_
    refine Wp.sputI dc_X0_pullAt_86 fw_X0_56 (mO0 (by omega)) (Nr.i _) ?_
    obtain ⟨σ86, es_86, hE⟩ := bnS hE
    rw [es_86]
    cases hE
    exact Wp.return dc_X0_pullAt_89 rfl (Nat.le_refl _) (Nat.le_refl _) hK
theorem ok_X0_pullAt_j0 {Q : Option AV → AH → Prop}  {σ : SS} {t : Nat} {x1 : Int32} {x2 : Int32} {o} {z3 z4 z5 : Option AV}  (ht : t < 5) (hE : X0_pullAt_j0  σ t x1 x2 = some o) (hK : Q none (hp o)) : Ws 3 mi_X0_pullAt Q 0 [some (vr 0 t), some (vi x1), some (vi x2), z3, z4, z5] [] σ := by
  unfold X0_pullAt_j0 at hE
  refine Wp.iconst dc_X0_pullAt_0 ic_0 ?_
  refine Wp.istore_n dc_X0_pullAt_1 (by decide) ?_
  exact ok_X0_pullAt_l2  ht hE hK
theorem ok_X0_pullAt  {σ : SS} {t : Nat} {x1 : Int32} {x2 : Int32} {o}  (ht : t < 5) (hE : X0_pullAt  σ t x1 x2 = some o) : Runs 3 0 0 mi_X0_pullAt [vr 0 t, vi x1, vi x2] (hp σ) (fun v h => v = none ∧ h = hp o) := by
  refine Runs.of pn_X0 (Nat.le_of_ble_eq_true rfl) ?_
  exact ok_X0_pullAt_j0  ht hE ⟨rfl, rfl⟩
def X0_cutOff_P7 (Q : Option AV → AH → Prop)  (t : Nat) (x1 : Int32) (x2 : Int32) (ss : Int32 × SS) : Prop := Ws 3 mi_X0_cutOff Q 7 [some (vr 0 t), some (vi x1), some (vi x2), some (vi ss.1)] [] ss.2
def X0_cutOff_R7 (Q : Option AV → AH → Prop)  (t : Nat) (x1 : Int32) (x2 : Int32) (tt : SS) : Prop := ∀ z3 : Option AV, Ws 3 mi_X0_cutOff Q 41 [some (vr 0 t), some (vi x1), some (vi x2), z3] [] tt
theorem ok_X0_cutOff_j35 {Q : Option AV → AH → Prop}  {σ : SS} {t : Nat} {x1 : Int32} {x2 : Int32} {x3 : Int32} {o}   (ht : t < 5) (hE : X0_cutOff_j35  σ t x1 x2 x3 = some o) (hS : ∀ ss, o = Sum.inl ss → (X0_cutOff_P7  Q  t x1 x2) ss) (hT : ∀ tt, o = Sum.inr tt → (X0_cutOff_R7  Q  t x1 x2) tt) : Ws 3 mi_X0_cutOff Q 35 [some (vr 0 t), some (vi x1), some (vi x2), some (vi x3)] [] σ := by
  unfold X0_cutOff_j35 at hE
  obtain ⟨x3_35, e_35, hE⟩ := bnS hE
  refine Wp.iinc dc_X0_cutOff_35 rfl ((ii ic_1).trans e_35) (by decide) ?_
  refine Wp.goto (tgt := 7) dc_X0_cutOff_38 (by decide) ?_
  cases hE
  exact hS _ rfl
theorem ok_X0_cutOff_l7c {Q : Option AV → AH → Prop}  {σ : SS} {t : Nat} {x1 : Int32} {x2 : Int32} {x3 : Int32} {o}   (ht : t < 5) (hE : X0_cutOff_l7c  σ t x1 x2 x3 = some o) (hS : ∀ ss, o = Sum.inl ss → (X0_cutOff_P7  Q  t x1 x2) ss) (hT : ∀ tt, o = Sum.inr tt → (X0_cutOff_R7  Q  t x1 x2) tt) : Ws 3 mi_X0_cutOff Q 7 [some (vr 0 t), some (vi x1), some (vi x2), some (vi x3)] [] σ := by
  unfold X0_cutOff_l7c at hE
  refine Wp.iload_n dc_X0_cutOff_7 rfl ?_
  refine Wp.aload_n dc_X0_cutOff_8 rfl ?_
  refine Wp.sgetI dc_X0_cutOff_9 fw_X0_44 (mO0 (by omega)) ?_
  refine Wp.icmp_ge (tgt := 41) dc_X0_cutOff_12 (by decide) (fun hc12 => ?_) (fun hc12 => ?_)
  · rw [if_pos hc12] at hE
    cases hE
    exact hT _ rfl _
  · rw [if_neg hc12] at hE
    refine Wp.aload_n dc_X0_cutOff_15 rfl ?_
    refine Wp.iload_n dc_X0_cutOff_16 rfl ?_
    refine Wp.iload_n dc_X0_cutOff_17 rfl ?_
    obtain ⟨v18, h18, hE⟩ := bnd hE
    refine Wp.cV2i (ok_X0_otherAt (by omega) h18) dc_X0_cutOff_18 mw_X0_96 (mO0 (by omega)) (by decide) (Nat.le_of_ble_eq_true rfl) ?_
    refine Wp.iconst dc_X0_cutOff_21 ic_m1 ?_
    refine Wp.icmp_eq (tgt := 35) dc_X0_cutOff_22 (by decide) (fun hc22 => ?_) (fun hc22 => ?_)
    · rw [if_pos hc22] at hE
      exact ok_X0_cutOff_j35  ht hE hS hT
    · rw [if_neg hc22] at hE
      refine Wp.aload_n dc_X0_cutOff_25 rfl ?_
      refine Wp.sgetR (t := (4 * t + 2)) dc_X0_cutOff_26 fw_X0_27 (mO0 (by omega)) rfl ?_
      refine Wp.iconst dc_X0_cutOff_29 ic_2 ?_
      refine Wp.iload_n dc_X0_cutOff_30 rfl ?_
      refine Wp.iconst dc_X0_cutOff_31 ic_m1 ?_
      obtain ⟨σ32, h32, hE⟩ := bnd hE
      refine Wp.cV3v (ok_X4_put (by omega) h32) dc_X0_cutOff_32 mw_X0_106 (mO3 (by omega)) (by decide) (Nat.le_of_ble_eq_true rfl) ?_
      exact ok_X0_cutOff_j35  ht hE hS hT
theorem ok_X0_cutOff_j88 {Q : Option AV → AH → Prop}  {σ : SS} {t : Nat} {x2 : Int32} {s1 : Int32} {s2 : Int32} {o} {z1 z3 : Option AV}  (ht : t < 5) (hE : X0_cutOff_j88  σ t x2 s1 s2 = some o) (hK : Q (some (vi o.1)) (hp o.2)) : Ws 3 mi_X0_cutOff Q 88 [some (vr 0 t), z1, some (vi x2), z3] [vi s2, vi s1, vr 0 t] σ := by
  unfold X0_cutOff_j88 at hE
  refine Wp.iand dc_X0_cutOff_88 ?_
  refine Wp.sputI dc_X0_cutOff_89 fw_X0_50 (mO0 (by omega)) (Nr.i _) ?_
  obtain ⟨σ89, es_89, hE⟩ := bnS hE
  rw [es_89]
  refine Wp.iload_n dc_X0_cutOff_92 rfl ?_
  refine Wp.aload_n dc_X0_cutOff_93 rfl ?_
  refine Wp.sgetI dc_X0_cutOff_94 fw_X0_44 (mO0 (by omega)) ?_
  refine Wp.isub dc_X0_cutOff_97 ?_
  cases hE
  exact Wp.ireturn dc_X0_cutOff_98 rfl rfl (Nat.le_refl _) (Nat.le_refl _) hK
theorem ok_X0_cutOff_l7 {Q : Option AV → AH → Prop}  {σ : SS} {t : Nat} {x1 : Int32} {x2 : Int32} {x3 : Int32} {o}   (ht : t < 5) (hE : X0_cutOff_l7  σ t x1 x2 x3 = some o) (hK : Q (some (vi o.1)) (hp o.2)) : Ws 3 mi_X0_cutOff Q 7 [some (vr 0 t), some (vi x1), some (vi x2), some (vi x3)] [] σ := by
  unfold X0_cutOff_l7 at hE
  obtain ⟨t7, h1, hE⟩ := bnd hE
  refine iter_ok (P := (X0_cutOff_P7  Q  t x1 x2)) (R := (X0_cutOff_R7  Q  t x1 x2)) (fun ss o h2 hS hT => ?_) NF _ _ h1 ?_
  · skip
    exact ok_X0_cutOff_l7c  ht h2 hS hT
  · intro z3
    show Ws 3 mi_X0_cutOff Q 41 [some (vr 0 t), some (vi x1), some (vi x2), z3] [] t7
    refine Wp.aload_n dc_X0_cutOff_41 rfl ?_
    obtain ⟨σ42, h42, hE⟩ := bnd hE
    refine Wp.cV0v (ok_X0_sweep (by omega) h42) dc_X0_cutOff_42 mw_X0_128 (mO0 (by omega)) (by decide) (Nat.le_of_ble_eq_true rfl) ?_
    refine Wp.aload_n dc_X0_cutOff_45 rfl ?_
    refine Wp.dup dc_X0_cutOff_46 rfl ?_
    refine Wp.sgetI dc_X0_cutOff_47 fw_X0_59 (mO0 (by omega)) ?_
    refine Wp.aload_n dc_X0_cutOff_50 rfl ?_
    refine Wp.sgetR (t := (4 * t + 1)) dc_X0_cutOff_51 fw_X0_23 (mO0 (by omega)) rfl ?_
    refine Wp.iconst dc_X0_cutOff_54 ic_4 ?_
    refine Wp.iload_n dc_X0_cutOff_55 rfl ?_
    obtain ⟨v56, h56, hE⟩ := bnd hE
    refine Wp.cV2i (ok_X4_at (by omega) h56) dc_X0_cutOff_56 mw_X0_89 (mO3 (by omega)) (by decide) (Nat.le_of_ble_eq_true rfl) ?_
    refine Wp.iadd dc_X0_cutOff_59 ?_
    refine Wp.sputI dc_X0_cutOff_60 fw_X0_59 (mO0 (by omega)) (Nr.i _) ?_
    obtain ⟨σ60, es_60, hE⟩ := bnS hE
    rw [es_60]
    refine Wp.aload_n dc_X0_cutOff_63 rfl ?_
    refine Wp.dup dc_X0_cutOff_64 rfl ?_
    refine Wp.sgetI dc_X0_cutOff_65 fw_X0_50 (mO0 (by omega)) ?_
    refine Wp.aload_n dc_X0_cutOff_68 rfl ?_
    refine Wp.iload_n dc_X0_cutOff_69 rfl ?_
    obtain ⟨v70, h70, hE⟩ := bnd hE
    refine Wp.cV1i (ok_X0_has (by omega) h70) dc_X0_cutOff_70 mw_X0_72 (mO0 (by omega)) (by decide) (Nat.le_of_ble_eq_true rfl) ?_
    refine Wp.if_eq (tgt := 84) dc_X0_cutOff_73 (by decide) (fun hc73 => ?_) (fun hc73 => ?_)
    · rw [if_pos hc73] at hE
      refine Wp.aload_n dc_X0_cutOff_84 rfl ?_
      refine Wp.sgetI dc_X0_cutOff_85 fw_X0_50 (mO0 (by omega)) ?_
      exact ok_X0_cutOff_j88  ht hE hK
    · rw [if_neg hc73] at hE
      refine Wp.iconst dc_X0_cutOff_76 ic_1 ?_
      refine Wp.iload_n dc_X0_cutOff_77 rfl ?_
      refine Wp.ishl dc_X0_cutOff_78 ?_
      refine Wp.iconst dc_X0_cutOff_79 ic_m1 ?_
      refine Wp.ixor dc_X0_cutOff_80 ?_
      refine Wp.goto (tgt := 88) dc_X0_cutOff_81 (by decide) ?_
      exact ok_X0_cutOff_j88  ht hE hK
theorem ok_X0_cutOff_j0 {Q : Option AV → AH → Prop}  {σ : SS} {t : Nat} {x1 : Int32} {o} {z2 z3 : Option AV}  (ht : t < 5) (hE : X0_cutOff_j0  σ t x1 = some o) (hK : Q (some (vi o.1)) (hp o.2)) : Ws 3 mi_X0_cutOff Q 0 [some (vr 0 t), some (vi x1), z2, z3] [] σ := by
  unfold X0_cutOff_j0 at hE
  refine Wp.aload_n dc_X0_cutOff_0 rfl ?_
  refine Wp.sgetI dc_X0_cutOff_1 fw_X0_44 (mO0 (by omega)) ?_
  obtain ⟨x2_4, e_4, hE⟩ := bnS hE
  rw [e_4]
  refine Wp.istore_n dc_X0_cutOff_4 (by decide) ?_
  refine Wp.iconst dc_X0_cutOff_5 ic_0 ?_
  refine Wp.istore_n dc_X0_cutOff_6 (by decide) ?_
  exact ok_X0_cutOff_l7  ht hE hK
theorem ok_X0_cutOff  {σ : SS} {t : Nat} {x1 : Int32} {o}  (ht : t < 5) (hE : X0_cutOff  σ t x1 = some o) : Runs 3 0 0 mi_X0_cutOff [vr 0 t, vi x1] (hp σ) (fun v h => v = some (vi o.1) ∧ h = hp o.2) := by
  refine Runs.of pn_X0 (Nat.le_of_ble_eq_true rfl) ?_
  exact ok_X0_cutOff_j0  ht hE ⟨rfl, rfl⟩
theorem ok_X0_putClip_j0 {Q : Option AV → AH → Prop}  {σ : SS} {t : Nat} {x1 : Int32} {o}   (ht : t < 5) (hE : X0_putClip_j0  σ t x1 = some o) (hK : Q (some (vi o.1)) (hp o.2)) : Ws 2 mi_X0_putClip Q 0 [some (vr 0 t), some (vi x1)] [] σ := by
  unfold X0_putClip_j0 at hE
  refine Wp.aload_n dc_X0_putClip_0 rfl ?_
  refine Wp.iload_n dc_X0_putClip_1 rfl ?_
  obtain ⟨σ2, h2, hE⟩ := bnd hE
  refine Wp.cV1v (ok_X0_setClip (by omega) h2) dc_X0_putClip_2 mw_X0_134 (mO0 (by omega)) (by decide) (Nat.le_of_ble_eq_true rfl) ?_
  refine Wp.aload_n dc_X0_putClip_5 rfl ?_
  refine Wp.dup dc_X0_putClip_6 rfl ?_
  refine Wp.sgetI dc_X0_putClip_7 fw_X0_56 (mO0 (by omega)) ?_
  refine Wp.bipush dc_X0_putClip_10 bp_12 ?_
  refine Wp.iadd dc_X0_putClip_12 ?_
  refine Wp.sputI dc_X0_putClip_13 fw_X0_56 (mO0 (by omega)) (Nr.i _) ?_
  obtain ⟨σ13, es_13, hE⟩ := bnS hE
  rw [es_13]
  refine Wp.iconst dc_X0_putClip_16 ic_1 ?_
  cases hE
  exact Wp.ireturn dc_X0_putClip_17 rfl Nr.z1.1 (Nat.le_refl _) (Nat.le_refl _) hK
theorem ok_X0_putClip  {σ : SS} {t : Nat} {x1 : Int32} {o}  (ht : t < 5) (hE : X0_putClip  σ t x1 = some o) : Runs 2 0 0 mi_X0_putClip [vr 0 t, vi x1] (hp σ) (fun v h => v = some (vi o.1) ∧ h = hp o.2) := by
  refine Runs.of pn_X0 (Nat.le_of_ble_eq_true rfl) ?_
  exact ok_X0_putClip_j0  ht hE ⟨rfl, rfl⟩
theorem ok_X0_takeClip_j25 {Q : Option AV → AH → Prop}  {σ : SS} {t : Nat} {s1 : Int32} {s2 : Int32} {o} {z0 z1 : Option AV}  (ht : t < 5) (hE : X0_takeClip_j25  σ t s1 s2 = some o) (hK : Q (some (vi o.1)) (hp o.2)) : Ws 1 mi_X0_takeClip Q 25 [z0, z1] [vi s2, vi s1, vr 0 t] σ := by
  unfold X0_takeClip_j25 at hE
  refine Wp.iand dc_X0_takeClip_25 ?_
  refine Wp.sputI dc_X0_takeClip_26 fw_X0_53 (mO0 (by omega)) (Nr.i _) ?_
  obtain ⟨σ26, es_26, hE⟩ := bnS hE
  rw [es_26]
  refine Wp.iconst dc_X0_takeClip_29 ic_1 ?_
  cases hE
  exact Wp.ireturn dc_X0_takeClip_30 rfl Nr.z1.1 (Nat.le_refl _) (Nat.le_refl _) hK
theorem ok_X0_takeClip_j0 {Q : Option AV → AH → Prop}  {σ : SS} {t : Nat} {x1 : Int32} {o}   (ht : t < 5) (hE : X0_takeClip_j0  σ t x1 = some o) (hK : Q (some (vi o.1)) (hp o.2)) : Ws 1 mi_X0_takeClip Q 0 [some (vr 0 t), some (vi x1)] [] σ := by
  unfold X0_takeClip_j0 at hE
  refine Wp.aload_n dc_X0_takeClip_0 rfl ?_
  refine Wp.dup dc_X0_takeClip_1 rfl ?_
  refine Wp.sgetI dc_X0_takeClip_2 fw_X0_53 (mO0 (by omega)) ?_
  refine Wp.aload_n dc_X0_takeClip_5 rfl ?_
  refine Wp.iload_n dc_X0_takeClip_6 rfl ?_
  obtain ⟨v7, h7, hE⟩ := bnd hE
  refine Wp.cV1i (ok_X0_has (by omega) h7) dc_X0_takeClip_7 mw_X0_72 (mO0 (by omega)) (by decide) (Nat.le_of_ble_eq_true rfl) ?_
  refine Wp.if_eq (tgt := 21) dc_X0_takeClip_10 (by decide) (fun hc10 => ?_) (fun hc10 => ?_)
  · rw [if_pos hc10] at hE
    refine Wp.aload_n dc_X0_takeClip_21 rfl ?_
    refine Wp.sgetI dc_X0_takeClip_22 fw_X0_53 (mO0 (by omega)) ?_
    exact ok_X0_takeClip_j25  ht hE hK
  · rw [if_neg hc10] at hE
    refine Wp.iconst dc_X0_takeClip_13 ic_1 ?_
    refine Wp.iload_n dc_X0_takeClip_14 rfl ?_
    refine Wp.ishl dc_X0_takeClip_15 ?_
    refine Wp.iconst dc_X0_takeClip_16 ic_m1 ?_
    refine Wp.ixor dc_X0_takeClip_17 ?_
    refine Wp.goto (tgt := 25) dc_X0_takeClip_18 (by decide) ?_
    exact ok_X0_takeClip_j25  ht hE hK
theorem ok_X0_takeClip  {σ : SS} {t : Nat} {x1 : Int32} {o}  (ht : t < 5) (hE : X0_takeClip  σ t x1 = some o) : Runs 1 0 0 mi_X0_takeClip [vr 0 t, vi x1] (hp σ) (fun v h => v = some (vi o.1) ∧ h = hp o.2) := by
  refine Runs.of pn_X0 (Nat.le_of_ble_eq_true rfl) ?_
  exact ok_X0_takeClip_j0  ht hE ⟨rfl, rfl⟩
theorem ok_X0_drawFrom_j0 {Q : Option AV → AH → Prop}  {σ : SS} {t : Nat} {x1 : Int32} {o}   (ht : t < 5) (hE : X0_drawFrom_j0  σ t x1 = some o) (hK : Q none (hp o)) : Ws 0 mi_X0_drawFrom Q 0 [some (vr 0 t), some (vi x1)] [] σ := by
  unfold X0_drawFrom_j0 at hE
  refine Wp.aload_n dc_X0_drawFrom_0 rfl ?_
  refine Wp.iload_n dc_X0_drawFrom_1 rfl ?_
  refine Wp.sputI dc_X0_drawFrom_2 fw_X0_138 (mO0 (by omega)) (Nr.i _) ?_
  obtain ⟨σ2, es_2, hE⟩ := bnS hE
  rw [es_2]
  cases hE
  exact Wp.return dc_X0_drawFrom_5 rfl (Nat.le_refl _) (Nat.le_refl _) hK
theorem ok_X0_drawFrom  {σ : SS} {t : Nat} {x1 : Int32} {o}  (ht : t < 5) (hE : X0_drawFrom  σ t x1 = some o) : Runs 0 0 0 mi_X0_drawFrom [vr 0 t, vi x1] (hp σ) (fun v h => v = none ∧ h = hp o) := by
  refine Runs.of pn_X0 (Nat.le_of_ble_eq_true rfl) ?_
  exact ok_X0_drawFrom_j0  ht hE ⟨rfl, rfl⟩
theorem ok_X0_drawBy_j0 {Q : Option AV → AH → Prop}  {σ : SS} {t : Nat} {x1 : Int32} {o}   (ht : t < 5) (hE : X0_drawBy_j0  σ t x1 = some o) (hK : Q (some (vi o.1)) (hp o.2)) : Ws 0 mi_X0_drawBy Q 0 [some (vr 0 t), some (vi x1)] [] σ := by
  unfold X0_drawBy_j0 at hE
  refine Wp.aload_n dc_X0_drawBy_0 rfl ?_
  refine Wp.aload_n dc_X0_drawBy_1 rfl ?_
  refine Wp.sgetI dc_X0_drawBy_2 fw_X0_138 (mO0 (by omega)) ?_
  refine Wp.sipush dc_X0_drawBy_5 sp_2897 ?_
  refine Wp.imul dc_X0_drawBy_8 ?_
  refine Wp.sipush dc_X0_drawBy_9 sp_10529 ?_
  refine Wp.iadd dc_X0_drawBy_12 ?_
  refine Wp.ldc dc_X0_drawBy_13 kw_X0_163 ?_
  refine Wp.iand dc_X0_drawBy_15 ?_
  refine Wp.sputI dc_X0_drawBy_16 fw_X0_138 (mO0 (by omega)) (Nr.i _) ?_
  obtain ⟨σ16, es_16, hE⟩ := bnS hE
  rw [es_16]
  refine Wp.iload_n dc_X0_drawBy_19 rfl ?_
  refine Wp.if_le (tgt := 34) dc_X0_drawBy_20 (by decide) (fun hc20 => ?_) (fun hc20 => ?_)
  · rw [if_pos hc20] at hE
    refine Wp.iconst dc_X0_drawBy_34 ic_0 ?_
    cases hE
    exact Wp.ireturn dc_X0_drawBy_35 rfl rfl (Nat.le_refl _) (Nat.le_refl _) hK
  · rw [if_neg hc20] at hE
    refine Wp.aload_n dc_X0_drawBy_23 rfl ?_
    refine Wp.sgetI dc_X0_drawBy_24 fw_X0_138 (mO0 (by omega)) ?_
    refine Wp.iconst dc_X0_drawBy_27 ic_3 ?_
    refine Wp.ishr dc_X0_drawBy_28 ?_
    refine Wp.iload_n dc_X0_drawBy_29 rfl ?_
    obtain ⟨w30, h30, hE⟩ := bnd hE
    refine Wp.irem dc_X0_drawBy_30 (nz_some h30) ?_
    refine Wp.goto (tgt := 35) dc_X0_drawBy_31 (by decide) ?_
    cases hE
    exact Wp.ireturn dc_X0_drawBy_35 rfl rfl (Nat.le_refl _) (Nat.le_refl _) hK
theorem ok_X0_drawBy  {σ : SS} {t : Nat} {x1 : Int32} {o}  (ht : t < 5) (hE : X0_drawBy  σ t x1 = some o) : Runs 0 0 0 mi_X0_drawBy [vr 0 t, vi x1] (hp σ) (fun v h => v = some (vi o.1) ∧ h = hp o.2) := by
  refine Runs.of pn_X0 (Nat.le_of_ble_eq_true rfl) ?_
  exact ok_X0_drawBy_j0  ht hE ⟨rfl, rfl⟩
theorem ok_J6_bitCount_0f7a4_j0 {Q : Option AV → AH → Prop}  {σ : SS}  {x0 : Int32} {o}    (hE : J6_bitCount_0f7a4_j0  σ  x0 = some o) (hK : Q (some (vi o)) (hp σ)) : Ws 0 mi_J6_bitCount_0f7a4 Q 0 [some (vi x0)] [] σ := by
  unfold J6_bitCount_0f7a4_j0 at hE
  refine Wp.iload_n dc_J6_bitCount_0f7a4_0 rfl ?_
  refine Wp.iload_n dc_J6_bitCount_0f7a4_1 rfl ?_
  refine Wp.iconst dc_J6_bitCount_0f7a4_2 ic_1 ?_
  refine Wp.iushr dc_J6_bitCount_0f7a4_3 ?_
  refine Wp.ldc_w dc_J6_bitCount_0f7a4_4 kw_J6_265 ?_
  refine Wp.iand dc_J6_bitCount_0f7a4_7 ?_
  refine Wp.isub dc_J6_bitCount_0f7a4_8 ?_
  obtain ⟨x0_9, e_9, hE⟩ := bnS hE
  rw [e_9]
  refine Wp.istore_n dc_J6_bitCount_0f7a4_9 (by decide) ?_
  refine Wp.iload_n dc_J6_bitCount_0f7a4_10 rfl ?_
  refine Wp.ldc_w dc_J6_bitCount_0f7a4_11 kw_J6_266 ?_
  refine Wp.iand dc_J6_bitCount_0f7a4_14 ?_
  refine Wp.iload_n dc_J6_bitCount_0f7a4_15 rfl ?_
  refine Wp.iconst dc_J6_bitCount_0f7a4_16 ic_2 ?_
  refine Wp.iushr dc_J6_bitCount_0f7a4_17 ?_
  refine Wp.ldc_w dc_J6_bitCount_0f7a4_18 kw_J6_266 ?_
  refine Wp.iand dc_J6_bitCount_0f7a4_21 ?_
  refine Wp.iadd dc_J6_bitCount_0f7a4_22 ?_
  obtain ⟨x0_23, e_23, hE⟩ := bnS hE
  rw [e_23]
  refine Wp.istore_n dc_J6_bitCount_0f7a4_23 (by decide) ?_
  refine Wp.iload_n dc_J6_bitCount_0f7a4_24 rfl ?_
  refine Wp.iload_n dc_J6_bitCount_0f7a4_25 rfl ?_
  refine Wp.iconst dc_J6_bitCount_0f7a4_26 ic_4 ?_
  refine Wp.iushr dc_J6_bitCount_0f7a4_27 ?_
  refine Wp.iadd dc_J6_bitCount_0f7a4_28 ?_
  refine Wp.ldc_w dc_J6_bitCount_0f7a4_29 kw_J6_267 ?_
  refine Wp.iand dc_J6_bitCount_0f7a4_32 ?_
  obtain ⟨x0_33, e_33, hE⟩ := bnS hE
  rw [e_33]
  refine Wp.istore_n dc_J6_bitCount_0f7a4_33 (by decide) ?_
  refine Wp.iload_n dc_J6_bitCount_0f7a4_34 rfl ?_
  refine Wp.iload_n dc_J6_bitCount_0f7a4_35 rfl ?_
  refine Wp.bipush dc_J6_bitCount_0f7a4_36 bp_8 ?_
  refine Wp.iushr dc_J6_bitCount_0f7a4_38 ?_
  refine Wp.iadd dc_J6_bitCount_0f7a4_39 ?_
  obtain ⟨x0_40, e_40, hE⟩ := bnS hE
  rw [e_40]
  refine Wp.istore_n dc_J6_bitCount_0f7a4_40 (by decide) ?_
  refine Wp.iload_n dc_J6_bitCount_0f7a4_41 rfl ?_
  refine Wp.iload_n dc_J6_bitCount_0f7a4_42 rfl ?_
  refine Wp.bipush dc_J6_bitCount_0f7a4_43 bp_16 ?_
  refine Wp.iushr dc_J6_bitCount_0f7a4_45 ?_
  refine Wp.iadd dc_J6_bitCount_0f7a4_46 ?_
  obtain ⟨x0_47, e_47, hE⟩ := bnS hE
  rw [e_47]
  refine Wp.istore_n dc_J6_bitCount_0f7a4_47 (by decide) ?_
  refine Wp.iload_n dc_J6_bitCount_0f7a4_48 rfl ?_
  refine Wp.bipush dc_J6_bitCount_0f7a4_49 bp_63 ?_
  refine Wp.iand dc_J6_bitCount_0f7a4_51 ?_
  cases hE
  exact Wp.ireturn dc_J6_bitCount_0f7a4_52 rfl rfl (Nat.le_refl _) (Nat.le_refl _) hK
theorem ok_J6_bitCount_0f7a4  {σ : SS}  {x0 : Int32} {o}   (hE : J6_bitCount_0f7a4  σ  x0 = some o) : Runs 0 0 0 mi_J6_bitCount_0f7a4 [vi x0] (hp σ) (fun v h => v = some (vi o) ∧ h = hp σ) := by
  refine Runs.of pn_J6 (Nat.le_of_ble_eq_true rfl) ?_
  exact ok_J6_bitCount_0f7a4_j0   hE ⟨rfl, rfl⟩
def X0_memberAt_P4 (Q : Option AV → AH → Prop) (σ : SS)  (x0 : Int32) (ss : Int32 × Int32) : Prop := ∀ z1 : Option AV, Ws 0 mi_X0_memberAt Q 4 [some (vi x0), z1, some (vi ss.1), some (vi ss.2)] [] σ
def X0_memberAt_R4 (Q : Option AV → AH → Prop) (σ : SS)  (x0 : Int32) (tt : (Int32) ⊕ (Unit)) : Prop := match tt with
  | Sum.inl tt => ∀ z0 z1 z2 : Option AV, Ws 0 mi_X0_memberAt Q 23 [z0, z1, z2, some (vi tt)] [] σ
  | Sum.inr tt => ∀ z0 z1 z2 z3 : Option AV, Ws 0 mi_X0_memberAt Q 34 [z0, z1, z2, z3] [] σ
theorem ok_X0_memberAt_j28 {Q : Option AV → AH → Prop}  {σ : SS}  {x0 : Int32} {x2 : Int32} {x3 : Int32} {o} {z1 : Option AV}   (hE : X0_memberAt_j28  σ  x0 x2 x3 = some o) (hS : ∀ ss, o = Sum.inl ss → (X0_memberAt_P4  Q σ  x0) ss) (hT : ∀ tt, o = Sum.inr tt → (X0_memberAt_R4  Q σ  x0) tt) : Ws 0 mi_X0_memberAt Q 28 [some (vi x0), z1, some (vi x2), some (vi x3)] [] σ := by
  unfold X0_memberAt_j28 at hE
  obtain ⟨x3_28, e_28, hE⟩ := bnS hE
  refine Wp.iinc dc_X0_memberAt_28 rfl ((ii ic_1).trans e_28) (by decide) ?_
  refine Wp.goto (tgt := 4) dc_X0_memberAt_31 (by decide) ?_
  cases hE
  exact hS _ rfl _
theorem ok_X0_memberAt_l4c {Q : Option AV → AH → Prop}  {σ : SS}  {x0 : Int32} {x2 : Int32} {x3 : Int32} {o} {z1 : Option AV}   (hE : X0_memberAt_l4c  σ  x0 x2 x3 = some o) (hS : ∀ ss, o = Sum.inl ss → (X0_memberAt_P4  Q σ  x0) ss) (hT : ∀ tt, o = Sum.inr tt → (X0_memberAt_R4  Q σ  x0) tt) : Ws 0 mi_X0_memberAt Q 4 [some (vi x0), z1, some (vi x2), some (vi x3)] [] σ := by
  unfold X0_memberAt_l4c at hE
  refine Wp.iload_n dc_X0_memberAt_4 rfl ?_
  refine Wp.bipush dc_X0_memberAt_5 bp_8 ?_
  refine Wp.icmp_ge (tgt := 34) dc_X0_memberAt_7 (by decide) (fun hc7 => ?_) (fun hc7 => ?_)
  · rw [if_pos hc7] at hE
    cases hE
    exact hT _ rfl _ _ _ _
  · rw [if_neg hc7] at hE
    refine Wp.iload_n dc_X0_memberAt_10 rfl ?_
    refine Wp.iload_n dc_X0_memberAt_11 rfl ?_
    refine Wp.ishr dc_X0_memberAt_12 ?_
    refine Wp.iconst dc_X0_memberAt_13 ic_1 ?_
    refine Wp.iand dc_X0_memberAt_14 ?_
    refine Wp.iconst dc_X0_memberAt_15 ic_1 ?_
    refine Wp.icmp_ne (tgt := 28) dc_X0_memberAt_16 (by decide) (fun hc16 => ?_) (fun hc16 => ?_)
    · rw [if_neg hc16] at hE
      exact ok_X0_memberAt_j28   hE hS hT
    · rw [if_pos hc16] at hE
      refine Wp.iload_n dc_X0_memberAt_19 rfl ?_
      refine Wp.if_ne (tgt := 25) dc_X0_memberAt_20 (by decide) (fun hc20 => ?_) (fun hc20 => ?_)
      · rw [if_neg hc20] at hE
        obtain ⟨x2_25, e_25, hE⟩ := bnS hE
        refine Wp.iinc dc_X0_memberAt_25 rfl ((ii ic_m1).trans e_25) (by decide) ?_
        exact ok_X0_memberAt_j28   hE hS hT
      · rw [if_pos hc20] at hE
        cases hE
        exact hT _ rfl _ _ _
theorem ok_X0_memberAt_l4 {Q : Option AV → AH → Prop}  {σ : SS}  {x0 : Int32} {x2 : Int32} {x3 : Int32} {o} {z1 : Option AV}   (hE : X0_memberAt_l4  σ  x0 x2 x3 = some o) (hK : Q (some (vi o)) (hp σ)) : Ws 0 mi_X0_memberAt Q 4 [some (vi x0), z1, some (vi x2), some (vi x3)] [] σ := by
  unfold X0_memberAt_l4 at hE
  obtain ⟨t4, h1, hE⟩ := bnd hE
  refine iter_ok (P := (X0_memberAt_P4  Q σ  x0)) (R := (X0_memberAt_R4  Q σ  x0)) (fun ss o h2 hS hT => ?_) NF _ _ h1 ?_ _
  · intro z1
    exact ok_X0_memberAt_l4c   h2 hS hT
  · rcases t4 with e23 | u23
    · dsimp only at hE
      intro z0 z1 z2
      show Ws 0 mi_X0_memberAt Q 23 [z0, z1, z2, some (vi e23)] [] σ
      refine Wp.iload_n dc_X0_memberAt_23 rfl ?_
      cases hE
      exact Wp.ireturn dc_X0_memberAt_24 rfl rfl (Nat.le_refl _) (Nat.le_refl _) hK
    · dsimp only at hE
      skip
      intro z0 z1 z2 z3
      show Ws 0 mi_X0_memberAt Q 34 [z0, z1, z2, z3] [] σ
      refine Wp.iconst dc_X0_memberAt_34 ic_m1 ?_
      cases hE
      exact Wp.ireturn dc_X0_memberAt_35 rfl rfl (Nat.le_refl _) (Nat.le_refl _) hK
theorem ok_X0_memberAt_j0 {Q : Option AV → AH → Prop}  {σ : SS}  {x0 : Int32} {x1 : Int32} {o} {z2 z3 : Option AV}   (hE : X0_memberAt_j0  σ  x0 x1 = some o) (hK : Q (some (vi o)) (hp σ)) : Ws 0 mi_X0_memberAt Q 0 [some (vi x0), some (vi x1), z2, z3] [] σ := by
  unfold X0_memberAt_j0 at hE
  refine Wp.iload_n dc_X0_memberAt_0 rfl ?_
  refine Wp.istore_n dc_X0_memberAt_1 (by decide) ?_
  refine Wp.iconst dc_X0_memberAt_2 ic_0 ?_
  refine Wp.istore_n dc_X0_memberAt_3 (by decide) ?_
  exact ok_X0_memberAt_l4   hE hK
theorem ok_X0_memberAt  {σ : SS}  {x0 : Int32} {x1 : Int32} {o}   (hE : X0_memberAt  σ  x0 x1 = some o) : Runs 0 0 0 mi_X0_memberAt [vi x0, vi x1] (hp σ) (fun v h => v = some (vi o) ∧ h = hp σ) := by
  refine Runs.of pn_X0 (Nat.le_of_ble_eq_true rfl) ?_
  exact ok_X0_memberAt_j0   hE ⟨rfl, rfl⟩
theorem ok_X0_crossByDraw_j103 {Q : Option AV → AH → Prop}  {σ : SS} {t : Nat} {s1 : Int32} {s2 : Int32} {s3 : Int32} {o} {z0 z1 z2 z3 z4 z5 z6 z7 : Option AV}  (ht : t < 5) (hE : X0_crossByDraw_j103  σ t s1 s2 s3 = some o) (hK : Q (some (vi o.1)) (hp o.2)) : Ws 2 mi_X0_crossByDraw Q 103 [z0, z1, z2, z3, z4, z5, z6, z7] [vi s3, vi s2, vi s1, vr 0 t] σ := by
  unfold X0_crossByDraw_j103 at hE
  obtain ⟨p103, h103, hE⟩ := bnd hE
  refine Wp.cV3i (ok_X0_addCrossing (by omega) h103) dc_X0_crossByDraw_103 mw_X0_159 (mO0 (by omega)) (by decide) (Nat.le_of_ble_eq_true rfl) ?_
  refine Wp.if_eq (tgt := 113) dc_X0_crossByDraw_106 (by decide) (fun hc106 => ?_) (fun hc106 => ?_)
  · rw [if_pos hc106] at hE
    refine Wp.iconst dc_X0_crossByDraw_113 ic_0 ?_
    cases hE
    exact Wp.ireturn dc_X0_crossByDraw_114 rfl rfl (Nat.le_refl _) (Nat.le_refl _) hK
  · rw [if_neg hc106] at hE
    refine Wp.iconst dc_X0_crossByDraw_109 ic_1 ?_
    refine Wp.goto (tgt := 114) dc_X0_crossByDraw_110 (by decide) ?_
    cases hE
    exact Wp.ireturn dc_X0_crossByDraw_114 rfl rfl (Nat.le_refl _) (Nat.le_refl _) hK
theorem ok_X0_crossByDraw_j87 {Q : Option AV → AH → Prop}  {σ : SS} {t : Nat} {x1 : Int32} {x5 : Int32} {s0 : Int32} {o} {z2 z3 z4 z6 z7 : Option AV}  (ht : t < 5) (hE : X0_crossByDraw_j87  σ t x1 x5 s0 = some o) (hK : Q (some (vi o.1)) (hp o.2)) : Ws 2 mi_X0_crossByDraw Q 87 [some (vr 0 t), some (vi x1), z2, z3, z4, some (vi x5), z6, z7] [vi s0] σ := by
  unfold X0_crossByDraw_j87 at hE
  refine Wp.istore dc_X0_crossByDraw_87 (by decide) ?_
  refine Wp.aload_n dc_X0_crossByDraw_89 rfl ?_
  refine Wp.iload_n dc_X0_crossByDraw_90 rfl ?_
  refine Wp.iload dc_X0_crossByDraw_91 rfl ?_
  refine Wp.iload dc_X0_crossByDraw_93 rfl ?_
  refine Wp.if_eq (tgt := 102) dc_X0_crossByDraw_95 (by decide) (fun hc95 => ?_) (fun hc95 => ?_)
  · rw [if_pos hc95] at hE
    refine Wp.iconst dc_X0_crossByDraw_102 ic_0 ?_
    exact ok_X0_crossByDraw_j103  ht hE hK
  · rw [if_neg hc95] at hE
    refine Wp.iconst dc_X0_crossByDraw_98 ic_1 ?_
    refine Wp.goto (tgt := 103) dc_X0_crossByDraw_99 (by decide) ?_
    exact ok_X0_crossByDraw_j103  ht hE hK
theorem ok_X0_crossByDraw_j82 {Q : Option AV → AH → Prop}  {σ : SS} {t : Nat} {x1 : Int32} {x5 : Int32} {o} {z2 z3 z4 z6 z7 : Option AV}  (ht : t < 5) (hE : X0_crossByDraw_j82  σ t x1 x5 = some o) (hK : Q (some (vi o.1)) (hp o.2)) : Ws 2 mi_X0_crossByDraw Q 82 [some (vr 0 t), some (vi x1), z2, z3, z4, some (vi x5), z6, z7] [] σ := by
  unfold X0_crossByDraw_j82 at hE
  refine Wp.iconst dc_X0_crossByDraw_82 ic_1 ?_
  refine Wp.goto (tgt := 87) dc_X0_crossByDraw_83 (by decide) ?_
  exact ok_X0_crossByDraw_j87  ht hE hK
theorem ok_X0_crossByDraw_j0 {Q : Option AV → AH → Prop}  {σ : SS} {t : Nat} {x1 : Int32} {x2 : Int32} {o} {z3 z4 z5 z6 z7 : Option AV}  (ht : t < 5) (hE : X0_crossByDraw_j0  σ t x1 x2 = some o) (hK : Q (some (vi o.1)) (hp o.2)) : Ws 2 mi_X0_crossByDraw Q 0 [some (vr 0 t), some (vi x1), some (vi x2), z3, z4, z5, z6, z7] [] σ := by
  unfold X0_crossByDraw_j0 at hE
  refine Wp.iload_n dc_X0_crossByDraw_0 rfl ?_
  obtain ⟨v1, h1, hE⟩ := bnd hE
  refine Wp.cS1i (ok_J6_bitCount_0f7a4  h1) dc_X0_crossByDraw_1 mw_X0_151 (by decide) (Nat.le_of_ble_eq_true rfl) ?_
  refine Wp.istore_n dc_X0_crossByDraw_4 (by decide) ?_
  refine Wp.iload_n dc_X0_crossByDraw_5 rfl ?_
  refine Wp.if_ne (tgt := 11) dc_X0_crossByDraw_6 (by decide) (fun hc6 => ?_) (fun hc6 => ?_)
  · rw [if_neg hc6] at hE
    refine Wp.aload_n dc_X0_crossByDraw_11 rfl ?_
    refine Wp.iload_n dc_X0_crossByDraw_12 rfl ?_
    obtain ⟨p13, h13, hE⟩ := bnd hE
    refine Wp.cV1i (ok_X0_drawBy (by omega) h13) dc_X0_crossByDraw_13 mw_X0_145 (mO0 (by omega)) (by decide) (Nat.le_of_ble_eq_true rfl) ?_
    refine Wp.istore dc_X0_crossByDraw_16 (by decide) ?_
    refine Wp.aload_n dc_X0_crossByDraw_18 rfl ?_
    obtain ⟨v19, h19, hE⟩ := bnd hE
    refine Wp.cV0i (ok_X0_isFull (by omega) h19) dc_X0_crossByDraw_19 mw_X0_118 (mO0 (by omega)) (by decide) (Nat.le_of_ble_eq_true rfl) ?_
    refine Wp.if_eq (tgt := 27) dc_X0_crossByDraw_22 (by decide) (fun hc22 => ?_) (fun hc22 => ?_)
    · rw [if_pos hc22] at hE
      refine Wp.iload_n dc_X0_crossByDraw_27 rfl ?_
      refine Wp.iload dc_X0_crossByDraw_28 rfl ?_
      obtain ⟨v30, h30, hE⟩ := bnd hE
      refine Wp.cS2i (ok_X0_memberAt  h30) dc_X0_crossByDraw_30 mw_X0_156 (by decide) (Nat.le_of_ble_eq_true rfl) ?_
      refine Wp.istore dc_X0_crossByDraw_33 (by decide) ?_
      refine Wp.bipush dc_X0_crossByDraw_35 bp_9 ?_
      refine Wp.aload_n dc_X0_crossByDraw_37 rfl ?_
      refine Wp.sgetR (t := (4 * t + 1)) dc_X0_crossByDraw_38 fw_X0_23 (mO0 (by omega)) rfl ?_
      refine Wp.iconst dc_X0_crossByDraw_41 ic_1 ?_
      refine Wp.iload dc_X0_crossByDraw_42 rfl ?_
      obtain ⟨v44, h44, hE⟩ := bnd hE
      refine Wp.cV2i (ok_X4_at (by omega) h44) dc_X0_crossByDraw_44 mw_X0_89 (mO3 (by omega)) (by decide) (Nat.le_of_ble_eq_true rfl) ?_
      refine Wp.iconst dc_X0_crossByDraw_47 ic_2 ?_
      refine Wp.iadd dc_X0_crossByDraw_48 ?_
      refine Wp.mmin dc_X0_crossByDraw_49 lw_X0_110 ms_min mi_Math mk_min (by decide) (Nat.le_refl _) (Nat.le_refl _) (Nat.le_of_ble_eq_true rfl) ?_
      obtain ⟨x6_52, e_52, hE⟩ := bnS hE
      rw [e_52]
      refine Wp.istore dc_X0_crossByDraw_52 (by decide) ?_
      refine Wp.aload_n dc_X0_crossByDraw_54 rfl ?_
      refine Wp.sgetR (t := (4 * t + 1)) dc_X0_crossByDraw_55 fw_X0_23 (mO0 (by omega)) rfl ?_
      refine Wp.iconst dc_X0_crossByDraw_58 ic_2 ?_
      refine Wp.iload_n dc_X0_crossByDraw_59 rfl ?_
      obtain ⟨v60, h60, hE⟩ := bnd hE
      refine Wp.cV2i (ok_X4_at (by omega) h60) dc_X0_crossByDraw_60 mw_X0_89 (mO3 (by omega)) (by decide) (Nat.le_of_ble_eq_true rfl) ?_
      refine Wp.iload dc_X0_crossByDraw_63 rfl ?_
      refine Wp.icmp_lt (tgt := 82) dc_X0_crossByDraw_65 (by decide) (fun hc65 => ?_) (fun hc65 => ?_)
      · rw [if_pos hc65] at hE
        exact ok_X0_crossByDraw_j82  ht hE hK
      · rw [if_neg hc65] at hE
        refine Wp.aload_n dc_X0_crossByDraw_68 rfl ?_
        refine Wp.sgetR (t := (4 * t + 1)) dc_X0_crossByDraw_69 fw_X0_23 (mO0 (by omega)) rfl ?_
        refine Wp.iconst dc_X0_crossByDraw_72 ic_3 ?_
        refine Wp.iload_n dc_X0_crossByDraw_73 rfl ?_
        obtain ⟨v74, h74, hE⟩ := bnd hE
        refine Wp.cV2i (ok_X4_at (by omega) h74) dc_X0_crossByDraw_74 mw_X0_89 (mO3 (by omega)) (by decide) (Nat.le_of_ble_eq_true rfl) ?_
        refine Wp.iload dc_X0_crossByDraw_77 rfl ?_
        refine Wp.icmp_ge (tgt := 86) dc_X0_crossByDraw_79 (by decide) (fun hc79 => ?_) (fun hc79 => ?_)
        · rw [if_pos hc79] at hE
          refine Wp.iconst dc_X0_crossByDraw_86 ic_0 ?_
          exact ok_X0_crossByDraw_j87  ht hE hK
        · rw [if_neg hc79] at hE
          exact ok_X0_crossByDraw_j82  ht hE hK
    · rw [if_neg hc22] at hE
      refine Wp.iconst dc_X0_crossByDraw_25 ic_0 ?_
      cases hE
      exact Wp.ireturn dc_X0_crossByDraw_26 rfl rfl (Nat.le_refl _) (Nat.le_refl _) hK
  · rw [if_pos hc6] at hE
    refine Wp.iconst dc_X0_crossByDraw_9 ic_0 ?_
    cases hE
    exact Wp.ireturn dc_X0_crossByDraw_10 rfl rfl (Nat.le_refl _) (Nat.le_refl _) hK
theorem ok_X0_crossByDraw  {σ : SS} {t : Nat} {x1 : Int32} {x2 : Int32} {o}  (ht : t < 5) (hE : X0_crossByDraw  σ t x1 x2 = some o) : Runs 2 0 0 mi_X0_crossByDraw [vr 0 t, vi x1, vi x2] (hp σ) (fun v h => v = some (vi o.1) ∧ h = hp o.2) := by
  refine Runs.of pn_X0 (Nat.le_of_ble_eq_true rfl) ?_
  exact ok_X0_crossByDraw_j0  ht hE ⟨rfl, rfl⟩
def X0_openOnce_P19 (Q : Option AV → AH → Prop)  (t : Nat) (x1 : Int32) (ss : Int32 × Int32 × SS) : Prop := Ws 3 mi_X0_openOnce Q 19 [some (vr 0 t), some (vi x1), some (vi ss.1), some (vi ss.2.1)] [] ss.2.2
def X0_openOnce_R19 (Q : Option AV → AH → Prop)  (t : Nat) (x1 : Int32) (tt : Int32 × SS) : Prop := ∀ z0 z1 z3 : Option AV, Ws 3 mi_X0_openOnce Q 76 [z0, z1, some (vi tt.1), z3] [] tt.2
theorem ok_X0_openOnce_j70 {Q : Option AV → AH → Prop}  {σ : SS} {t : Nat} {x1 : Int32} {x2 : Int32} {x3 : Int32} {o}   (ht : t < 5) (hE : X0_openOnce_j70  σ t x1 x2 x3 = some o) (hS : ∀ ss, o = Sum.inl ss → (X0_openOnce_P19  Q  t x1) ss) (hT : ∀ tt, o = Sum.inr tt → (X0_openOnce_R19  Q  t x1) tt) : Ws 3 mi_X0_openOnce Q 70 [some (vr 0 t), some (vi x1), some (vi x2), some (vi x3)] [] σ := by
  unfold X0_openOnce_j70 at hE
  obtain ⟨x3_70, e_70, hE⟩ := bnS hE
  refine Wp.iinc dc_X0_openOnce_70 rfl ((ii ic_1).trans e_70) (by decide) ?_
  refine Wp.goto (tgt := 19) dc_X0_openOnce_73 (by decide) ?_
  cases hE
  exact hS _ rfl
theorem ok_X0_openOnce_l19c {Q : Option AV → AH → Prop}  {σ : SS} {t : Nat} {x1 : Int32} {x2 : Int32} {x3 : Int32} {o}   (ht : t < 5) (hE : X0_openOnce_l19c  σ t x1 x2 x3 = some o) (hS : ∀ ss, o = Sum.inl ss → (X0_openOnce_P19  Q  t x1) ss) (hT : ∀ tt, o = Sum.inr tt → (X0_openOnce_R19  Q  t x1) tt) : Ws 3 mi_X0_openOnce Q 19 [some (vr 0 t), some (vi x1), some (vi x2), some (vi x3)] [] σ := by
  unfold X0_openOnce_l19c at hE
  refine Wp.iload_n dc_X0_openOnce_19 rfl ?_
  refine Wp.aload_n dc_X0_openOnce_20 rfl ?_
  refine Wp.sgetI dc_X0_openOnce_21 fw_X0_40 (mO0 (by omega)) ?_
  refine Wp.icmp_ge (tgt := 76) dc_X0_openOnce_24 (by decide) (fun hc24 => ?_) (fun hc24 => ?_)
  · rw [if_pos hc24] at hE
    cases hE
    exact hT _ rfl _ _ _
  · rw [if_neg hc24] at hE
    refine Wp.iload_n dc_X0_openOnce_27 rfl ?_
    refine Wp.iload_n dc_X0_openOnce_28 rfl ?_
    refine Wp.ishr dc_X0_openOnce_29 ?_
    refine Wp.iconst dc_X0_openOnce_30 ic_1 ?_
    refine Wp.iand dc_X0_openOnce_31 ?_
    refine Wp.iconst dc_X0_openOnce_32 ic_1 ?_
    refine Wp.icmp_ne (tgt := 70) dc_X0_openOnce_33 (by decide) (fun hc33 => ?_) (fun hc33 => ?_)
    · rw [if_neg hc33] at hE
      exact ok_X0_openOnce_j70  ht hE hS hT
    · rw [if_pos hc33] at hE
      refine Wp.aload_n dc_X0_openOnce_36 rfl ?_
      refine Wp.bipush dc_X0_openOnce_37 bp_16 ?_
      obtain ⟨p39, h39, hE⟩ := bnd hE
      refine Wp.cV1i (ok_X0_drawBy (by omega) h39) dc_X0_openOnce_39 mw_X0_145 (mO0 (by omega)) (by decide) (Nat.le_of_ble_eq_true rfl) ?_
      refine Wp.aload_n dc_X0_openOnce_42 rfl ?_
      refine Wp.sgetR (t := (4 * t + 1)) dc_X0_openOnce_43 fw_X0_23 (mO0 (by omega)) rfl ?_
      refine Wp.bipush dc_X0_openOnce_46 bp_6 ?_
      refine Wp.iload_n dc_X0_openOnce_48 rfl ?_
      obtain ⟨v49, h49, hE⟩ := bnd hE
      refine Wp.cV2i (ok_X4_at (by omega) h49) dc_X0_openOnce_49 mw_X0_89 (mO3 (by omega)) (by decide) (Nat.le_of_ble_eq_true rfl) ?_
      refine Wp.icmp_ge (tgt := 70) dc_X0_openOnce_52 (by decide) (fun hc52 => ?_) (fun hc52 => ?_)
      · rw [if_pos hc52] at hE
        exact ok_X0_openOnce_j70  ht hE hS hT
      · rw [if_neg hc52] at hE
        refine Wp.iload_n dc_X0_openOnce_55 rfl ?_
        refine Wp.aload_n dc_X0_openOnce_56 rfl ?_
        refine Wp.iload_n dc_X0_openOnce_57 rfl ?_
        refine Wp.iload_n dc_X0_openOnce_58 rfl ?_
        refine Wp.iconst dc_X0_openOnce_59 ic_1 ?_
        refine Wp.iload_n dc_X0_openOnce_60 rfl ?_
        refine Wp.ishl dc_X0_openOnce_61 ?_
        refine Wp.iconst dc_X0_openOnce_62 ic_m1 ?_
        refine Wp.ixor dc_X0_openOnce_63 ?_
        refine Wp.iand dc_X0_openOnce_64 ?_
        obtain ⟨p65, h65, hE⟩ := bnd hE
        refine Wp.cV2i (ok_X0_crossByDraw (by omega) h65) dc_X0_openOnce_65 mw_X0_148 (mO0 (by omega)) (by decide) (Nat.le_of_ble_eq_true rfl) ?_
        refine Wp.iadd dc_X0_openOnce_68 ?_
        obtain ⟨x2_69, e_69, hE⟩ := bnS hE
        rw [e_69]
        refine Wp.istore_n dc_X0_openOnce_69 (by decide) ?_
        exact ok_X0_openOnce_j70  ht hE hS hT
theorem ok_X0_openOnce_l19 {Q : Option AV → AH → Prop}  {σ : SS} {t : Nat} {x1 : Int32} {x2 : Int32} {x3 : Int32} {o}   (ht : t < 5) (hE : X0_openOnce_l19  σ t x1 x2 x3 = some o) (hK : Q (some (vi o.1)) (hp o.2)) : Ws 3 mi_X0_openOnce Q 19 [some (vr 0 t), some (vi x1), some (vi x2), some (vi x3)] [] σ := by
  unfold X0_openOnce_l19 at hE
  obtain ⟨t19, h1, hE⟩ := bnd hE
  refine iter_ok (P := (X0_openOnce_P19  Q  t x1)) (R := (X0_openOnce_R19  Q  t x1)) (fun ss o h2 hS hT => ?_) NF _ _ h1 ?_
  · skip
    exact ok_X0_openOnce_l19c  ht h2 hS hT
  · intro z0 z1 z3
    show Ws 3 mi_X0_openOnce Q 76 [z0, z1, some (vi t19.1), z3] [] t19.2
    refine Wp.iload_n dc_X0_openOnce_76 rfl ?_
    cases hE
    exact Wp.ireturn dc_X0_openOnce_77 rfl rfl (Nat.le_refl _) (Nat.le_refl _) hK
theorem ok_X0_openOnce_j0 {Q : Option AV → AH → Prop}  {σ : SS} {t : Nat}  {o} {z1 z2 z3 : Option AV}  (ht : t < 5) (hE : X0_openOnce_j0  σ t  = some o) (hK : Q (some (vi o.1)) (hp o.2)) : Ws 3 mi_X0_openOnce Q 0 [some (vr 0 t), z1, z2, z3] [] σ := by
  unfold X0_openOnce_j0 at hE
  refine Wp.aload_n dc_X0_openOnce_0 rfl ?_
  refine Wp.dup dc_X0_openOnce_1 rfl ?_
  refine Wp.sgetI dc_X0_openOnce_2 fw_X0_62 (mO0 (by omega)) ?_
  refine Wp.iconst dc_X0_openOnce_5 ic_1 ?_
  refine Wp.iadd dc_X0_openOnce_6 ?_
  refine Wp.sputI dc_X0_openOnce_7 fw_X0_62 (mO0 (by omega)) (Nr.i _) ?_
  obtain ⟨σ7, es_7, hE⟩ := bnS hE
  rw [es_7]
  refine Wp.aload_n dc_X0_openOnce_10 rfl ?_
  obtain ⟨v11, h11, hE⟩ := bnd hE
  refine Wp.cV0i (ok_X0_unclippedSet (by omega) h11) dc_X0_openOnce_11 mw_X0_141 (mO0 (by omega)) (by decide) (Nat.le_of_ble_eq_true rfl) ?_
  refine Wp.istore_n dc_X0_openOnce_14 (by decide) ?_
  refine Wp.iconst dc_X0_openOnce_15 ic_0 ?_
  refine Wp.istore_n dc_X0_openOnce_16 (by decide) ?_
  refine Wp.iconst dc_X0_openOnce_17 ic_0 ?_
  refine Wp.istore_n dc_X0_openOnce_18 (by decide) ?_
  exact ok_X0_openOnce_l19  ht hE hK
theorem ok_X0_openOnce  {σ : SS} {t : Nat}  {o}  (ht : t < 5) (hE : X0_openOnce  σ t  = some o) : Runs 3 0 0 mi_X0_openOnce [vr 0 t] (hp σ) (fun v h => v = some (vi o.1) ∧ h = hp o.2) := by
  refine Runs.of pn_X0 (Nat.le_of_ble_eq_true rfl) ?_
  exact ok_X0_openOnce_j0  ht hE ⟨rfl, rfl⟩
theorem ok_X5_atEnd_j0 {Q : Option AV → AH → Prop}  {σ : SS}   {o}    (hE : X5_atEnd_j0  σ   = some o) (hK : Q (some (vi o)) (hp σ)) : Ws 0 mi_X5_atEnd Q 0 [some (vr 4 0)] [] σ := by
  unfold X5_atEnd_j0 at hE
  refine Wp.aload_n dc_X5_atEnd_0 rfl ?_
  refine Wp.sgetI dc_X5_atEnd_1 fw_X5_40 (mO4 (by decide)) ?_
  refine Wp.if_ne (tgt := 11) dc_X5_atEnd_4 (by decide) (fun hc4 => ?_) (fun hc4 => ?_)
  · rw [if_neg hc4] at hE
    refine Wp.iconst dc_X5_atEnd_11 ic_0 ?_
    cases hE
    exact Wp.ireturn dc_X5_atEnd_12 rfl Nr.z0.1 (Nat.le_refl _) (Nat.le_refl _) hK
  · rw [if_pos hc4] at hE
    refine Wp.iconst dc_X5_atEnd_7 ic_1 ?_
    refine Wp.goto (tgt := 12) dc_X5_atEnd_8 (by decide) ?_
    cases hE
    exact Wp.ireturn dc_X5_atEnd_12 rfl Nr.z1.1 (Nat.le_refl _) (Nat.le_refl _) hK
theorem ok_X5_atEnd  {σ : SS}   {o}   (hE : X5_atEnd  σ   = some o) : Runs 0 0 0 mi_X5_atEnd [vr 4 0] (hp σ) (fun v h => v = some (vi o) ∧ h = hp σ) := by
  refine Runs.of pn_X5 (Nat.le_of_ble_eq_true rfl) ?_
  exact ok_X5_atEnd_j0   hE ⟨rfl, rfl⟩
theorem ok_X5_wordIs_j0 {Q : Option AV → AH → Prop}  {σ : SS}  {x1 : Int32} {o}    (hE : X5_wordIs_j0  σ  x1 = some o) (hK : Q (some (vi o)) (hp σ)) : Ws 0 mi_X5_wordIs Q 0 [some (vr 4 0), some (vi x1)] [] σ := by
  unfold X5_wordIs_j0 at hE
  refine Wp.aload_n dc_X5_wordIs_0 rfl ?_
  refine Wp.sgetI dc_X5_wordIs_1 fw_X5_40 (mO4 (by decide)) ?_
  refine Wp.iconst dc_X5_wordIs_4 ic_2 ?_
  refine Wp.icmp_ne (tgt := 20) dc_X5_wordIs_5 (by decide) (fun hc5 => ?_) (fun hc5 => ?_)
  · rw [if_neg hc5] at hE
    refine Wp.iconst dc_X5_wordIs_20 ic_0 ?_
    cases hE
    exact Wp.ireturn dc_X5_wordIs_21 rfl Nr.z0.1 (Nat.le_refl _) (Nat.le_refl _) hK
  · rw [if_pos hc5] at hE
    refine Wp.aload_n dc_X5_wordIs_8 rfl ?_
    refine Wp.sgetI dc_X5_wordIs_9 fw_X5_60 (mO4 (by decide)) ?_
    refine Wp.iload_n dc_X5_wordIs_12 rfl ?_
    refine Wp.icmp_ne (tgt := 20) dc_X5_wordIs_13 (by decide) (fun hc13 => ?_) (fun hc13 => ?_)
    · rw [if_neg hc13] at hE
      refine Wp.iconst dc_X5_wordIs_20 ic_0 ?_
      cases hE
      exact Wp.ireturn dc_X5_wordIs_21 rfl Nr.z0.1 (Nat.le_refl _) (Nat.le_refl _) hK
    · rw [if_pos hc13] at hE
      refine Wp.iconst dc_X5_wordIs_16 ic_1 ?_
      refine Wp.goto (tgt := 21) dc_X5_wordIs_17 (by decide) ?_
      cases hE
      exact Wp.ireturn dc_X5_wordIs_21 rfl Nr.z1.1 (Nat.le_refl _) (Nat.le_refl _) hK
theorem ok_X5_wordIs  {σ : SS}  {x1 : Int32} {o}   (hE : X5_wordIs  σ  x1 = some o) : Runs 0 0 0 mi_X5_wordIs [vr 4 0, vi x1] (hp σ) (fun v h => v = some (vi o) ∧ h = hp σ) := by
  refine Runs.of pn_X5 (Nat.le_of_ble_eq_true rfl) ?_
  exact ok_X5_wordIs_j0   hE ⟨rfl, rfl⟩
theorem ok_X5_fail_j14 {Q : Option AV → AH → Prop}  {σ : SS}  {s1 : Int32} {o} {z1 : Option AV}   (hE : X5_fail_j14  σ  s1 = some o) (hK : Q (some (vi o.1)) (hp o.2)) : Ws 0 mi_X5_fail Q 14 [some (vr 4 0), z1] [vi s1, vr 4 0] σ := by
  unfold X5_fail_j14 at hE
  refine Wp.sputI dc_X5_fail_14 fw_X5_15 (mO4 (by decide)) (Nr.i _) ?_
  obtain ⟨σ14, es_14, hE⟩ := bnS hE
  rw [es_14]
  refine Wp.aload_n dc_X5_fail_17 rfl ?_
  refine Wp.aload_n dc_X5_fail_18 rfl ?_
  refine Wp.sgetI dc_X5_fail_19 fw_X5_43 (mO4 (by decide)) ?_
  refine Wp.sputI dc_X5_fail_22 fw_X5_19 (mO4 (by decide)) (Nr.i _) ?_
  obtain ⟨σ22, es_22, hE⟩ := bnS hE
  rw [es_22]
  refine Wp.iconst dc_X5_fail_25 ic_0 ?_
  cases hE
  exact Wp.ireturn dc_X5_fail_26 rfl Nr.z0.1 (Nat.le_refl _) (Nat.le_refl _) hK
theorem ok_X5_fail_j0 {Q : Option AV → AH → Prop}  {σ : SS}  {x1 : Int32} {o}    (hE : X5_fail_j0  σ  x1 = some o) (hK : Q (some (vi o.1)) (hp o.2)) : Ws 0 mi_X5_fail Q 0 [some (vr 4 0), some (vi x1)] [] σ := by
  unfold X5_fail_j0 at hE
  refine Wp.aload_n dc_X5_fail_0 rfl ?_
  refine Wp.aload_n dc_X5_fail_1 rfl ?_
  refine Wp.sgetI dc_X5_fail_2 fw_X5_40 (mO4 (by decide)) ?_
  refine Wp.iconst dc_X5_fail_5 ic_1 ?_
  refine Wp.icmp_ne (tgt := 13) dc_X5_fail_6 (by decide) (fun hc6 => ?_) (fun hc6 => ?_)
  · rw [if_neg hc6] at hE
    refine Wp.iload_n dc_X5_fail_13 rfl ?_
    exact ok_X5_fail_j14   hE hK
  · rw [if_pos hc6] at hE
    refine Wp.iconst dc_X5_fail_9 ic_1 ?_
    refine Wp.goto (tgt := 14) dc_X5_fail_10 (by decide) ?_
    exact ok_X5_fail_j14   hE hK
theorem ok_X5_fail  {σ : SS}  {x1 : Int32} {o}   (hE : X5_fail  σ  x1 = some o) : Runs 0 0 0 mi_X5_fail [vr 4 0, vi x1] (hp σ) (fun v h => v = some (vi o.1) ∧ h = hp o.2) := by
  refine Runs.of pn_X5 (Nat.le_of_ble_eq_true rfl) ?_
  exact ok_X5_fail_j0   hE ⟨rfl, rfl⟩
theorem ok_X5_byteAt_j0 {Q : Option AV → AH → Prop}  {σ : SS}  {x1 : Int32} {o}    (hE : X5_byteAt_j0  σ  x1 = some o) (hK : Q (some (vi o)) (hp σ)) : Ws 0 mi_X5_byteAt Q 0 [some (vr 4 0), some (vi x1)] [] σ := by
  unfold X5_byteAt_j0 at hE
  refine Wp.iload_n dc_X5_byteAt_0 rfl ?_
  refine Wp.if_lt (tgt := 30) dc_X5_byteAt_1 (by decide) (fun hc1 => ?_) (fun hc1 => ?_)
  · rw [if_pos hc1] at hE
    refine Wp.iconst dc_X5_byteAt_30 ic_m1 ?_
    cases hE
    exact Wp.ireturn dc_X5_byteAt_31 rfl rfl (Nat.le_refl _) (Nat.le_refl _) hK
  · rw [if_neg hc1] at hE
    refine Wp.iload_n dc_X5_byteAt_4 rfl ?_
    refine Wp.aload_n dc_X5_byteAt_5 rfl ?_
    refine Wp.sgetI dc_X5_byteAt_6 fw_X5_31 (mO4 (by decide)) ?_
    refine Wp.icmp_ge (tgt := 30) dc_X5_byteAt_9 (by decide) (fun hc9 => ?_) (fun hc9 => ?_)
    · rw [if_pos hc9] at hE
      refine Wp.iconst dc_X5_byteAt_30 ic_m1 ?_
      cases hE
      exact Wp.ireturn dc_X5_byteAt_31 rfl rfl (Nat.le_refl _) (Nat.le_refl _) hK
    · rw [if_neg hc9] at hE
      refine Wp.iload_n dc_X5_byteAt_12 rfl ?_
      refine Wp.aload_n dc_X5_byteAt_13 rfl ?_
      refine Wp.sgetR (t := 31) dc_X5_byteAt_14 fw_X5_11 (mO4 (by decide)) rfl ?_
      refine Wp.salenI dc_X5_byteAt_17 (mO13 (by decide)) ?_
      refine Wp.icmp_ge (tgt := 30) dc_X5_byteAt_18 (by decide) (fun hc18 => ?_) (fun hc18 => ?_)
      · rw [if_pos hc18] at hE
        refine Wp.iconst dc_X5_byteAt_30 ic_m1 ?_
        cases hE
        exact Wp.ireturn dc_X5_byteAt_31 rfl rfl (Nat.le_refl _) (Nat.le_refl _) hK
      · rw [if_neg hc18] at hE
        refine Wp.aload_n dc_X5_byteAt_21 rfl ?_
        refine Wp.sgetR (t := 31) dc_X5_byteAt_22 fw_X5_11 (mO4 (by decide)) rfl ?_
        refine Wp.iload_n dc_X5_byteAt_25 rfl ?_
        obtain ⟨j26, h26, hE⟩ := bnd hE
        refine Wp.siald dc_X5_byteAt_26 (mO13 (by decide)) h26 ?_
        refine Wp.goto (tgt := 31) dc_X5_byteAt_27 (by decide) ?_
        cases hE
        exact Wp.ireturn dc_X5_byteAt_31 rfl rfl (Nat.le_refl _) (Nat.le_refl _) hK
theorem ok_X5_byteAt  {σ : SS}  {x1 : Int32} {o}   (hE : X5_byteAt  σ  x1 = some o) : Runs 0 0 0 mi_X5_byteAt [vr 4 0, vi x1] (hp σ) (fun v h => v = some (vi o) ∧ h = hp σ) := by
  refine Runs.of pn_X5 (Nat.le_of_ble_eq_true rfl) ?_
  exact ok_X5_byteAt_j0   hE ⟨rfl, rfl⟩
theorem ok_X5_isBlank_j12 {Q : Option AV → AH → Prop}  {σ : SS}   {o} {z0 : Option AV}   (hE : X5_isBlank_j12  σ   = some o) (hK : Q (some (vi o)) (hp σ)) : Ws 0 mi_X5_isBlank Q 12 [z0] [] σ := by
  unfold X5_isBlank_j12 at hE
  refine Wp.iconst dc_X5_isBlank_12 ic_1 ?_
  refine Wp.goto (tgt := 17) dc_X5_isBlank_13 (by decide) ?_
  cases hE
  exact Wp.ireturn dc_X5_isBlank_17 rfl Nr.z1.1 (Nat.le_refl _) (Nat.le_refl _) hK
theorem ok_X5_isBlank_j0 {Q : Option AV → AH → Prop}  {σ : SS}  {x0 : Int32} {o}    (hE : X5_isBlank_j0  σ  x0 = some o) (hK : Q (some (vi o)) (hp σ)) : Ws 0 mi_X5_isBlank Q 0 [some (vi x0)] [] σ := by
  unfold X5_isBlank_j0 at hE
  refine Wp.iload_n dc_X5_isBlank_0 rfl ?_
  refine Wp.bipush dc_X5_isBlank_1 bp_10 ?_
  refine Wp.icmp_eq (tgt := 12) dc_X5_isBlank_3 (by decide) (fun hc3 => ?_) (fun hc3 => ?_)
  · rw [if_pos hc3] at hE
    exact ok_X5_isBlank_j12   hE hK
  · rw [if_neg hc3] at hE
    refine Wp.iload_n dc_X5_isBlank_6 rfl ?_
    refine Wp.bipush dc_X5_isBlank_7 bp_32 ?_
    refine Wp.icmp_ne (tgt := 16) dc_X5_isBlank_9 (by decide) (fun hc9 => ?_) (fun hc9 => ?_)
    · rw [if_neg hc9] at hE
      refine Wp.iconst dc_X5_isBlank_16 ic_0 ?_
      cases hE
      exact Wp.ireturn dc_X5_isBlank_17 rfl Nr.z0.1 (Nat.le_refl _) (Nat.le_refl _) hK
    · rw [if_pos hc9] at hE
      exact ok_X5_isBlank_j12   hE hK
theorem ok_X5_isBlank  {σ : SS}  {x0 : Int32} {o}   (hE : X5_isBlank  σ  x0 = some o) : Runs 0 0 0 mi_X5_isBlank [vi x0] (hp σ) (fun v h => v = some (vi o) ∧ h = hp σ) := by
  refine Runs.of pn_X5 (Nat.le_of_ble_eq_true rfl) ?_
  exact ok_X5_isBlank_j0   hE ⟨rfl, rfl⟩
theorem ok_X5_isLetter_j0 {Q : Option AV → AH → Prop}  {σ : SS}  {x0 : Int32} {o}    (hE : X5_isLetter_j0  σ  x0 = some o) (hK : Q (some (vi o)) (hp σ)) : Ws 0 mi_X5_isLetter Q 0 [some (vi x0)] [] σ := by
  unfold X5_isLetter_j0 at hE
  refine Wp.iload_n dc_X5_isLetter_0 rfl ?_
  refine Wp.bipush dc_X5_isLetter_1 bp_97 ?_
  refine Wp.icmp_lt (tgt := 16) dc_X5_isLetter_3 (by decide) (fun hc3 => ?_) (fun hc3 => ?_)
  · rw [if_pos hc3] at hE
    refine Wp.iconst dc_X5_isLetter_16 ic_0 ?_
    cases hE
    exact Wp.ireturn dc_X5_isLetter_17 rfl Nr.z0.1 (Nat.le_refl _) (Nat.le_refl _) hK
  · rw [if_neg hc3] at hE
    refine Wp.iload_n dc_X5_isLetter_6 rfl ?_
    refine Wp.bipush dc_X5_isLetter_7 bp_122 ?_
    refine Wp.icmp_gt (tgt := 16) dc_X5_isLetter_9 (by decide) (fun hc9 => ?_) (fun hc9 => ?_)
    · rw [if_pos hc9] at hE
      refine Wp.iconst dc_X5_isLetter_16 ic_0 ?_
      cases hE
      exact Wp.ireturn dc_X5_isLetter_17 rfl Nr.z0.1 (Nat.le_refl _) (Nat.le_refl _) hK
    · rw [if_neg hc9] at hE
      refine Wp.iconst dc_X5_isLetter_12 ic_1 ?_
      refine Wp.goto (tgt := 17) dc_X5_isLetter_13 (by decide) ?_
      cases hE
      exact Wp.ireturn dc_X5_isLetter_17 rfl Nr.z1.1 (Nat.le_refl _) (Nat.le_refl _) hK
theorem ok_X5_isLetter  {σ : SS}  {x0 : Int32} {o}   (hE : X5_isLetter  σ  x0 = some o) : Runs 0 0 0 mi_X5_isLetter [vi x0] (hp σ) (fun v h => v = some (vi o) ∧ h = hp σ) := by
  refine Runs.of pn_X5 (Nat.le_of_ble_eq_true rfl) ?_
  exact ok_X5_isLetter_j0   hE ⟨rfl, rfl⟩
def X5_numberOfWord_P12 (Q : Option AV → AH → Prop) (σ : SS)   (ss : Int32 × Int32 × Int32 × Int32) : Prop := ∀ z5 : Option AV, Ws 6 mi_X5_numberOfWord Q 12 [some (vr 4 0), some (vi ss.1), some (vi ss.2.1), some (vi ss.2.2.1), some (vi ss.2.2.2), z5] [] σ
def X5_numberOfWord_R12 (Q : Option AV → AH → Prop) (σ : SS)   (tt : (Int32) ⊕ (Unit)) : Prop := match tt with
  | Sum.inl tt => ∀ z0 z2 z3 z4 z5 : Option AV, Ws 6 mi_X5_numberOfWord Q 84 [z0, some (vi tt), z2, z3, z4, z5] [] σ
  | Sum.inr tt => ∀ z0 z1 z2 z3 z4 z5 : Option AV, Ws 6 mi_X5_numberOfWord Q 102 [z0, z1, z2, z3, z4, z5] [] σ
theorem ok_X5_numberOfWord_j96 {Q : Option AV → AH → Prop}  {σ : SS}  {x1 : Int32} {x2 : Int32} {x3 : Int32} {x4 : Int32} {o} {z5 : Option AV}   (hE : X5_numberOfWord_j96  σ  x1 x2 x3 x4 = some o) (hS : ∀ ss, o = Sum.inl ss → (X5_numberOfWord_P12  Q σ  ) ss) (hT : ∀ tt, o = Sum.inr tt → (X5_numberOfWord_R12  Q σ  ) tt) : Ws 6 mi_X5_numberOfWord Q 96 [some (vr 4 0), some (vi x1), some (vi x2), some (vi x3), some (vi x4), z5] [] σ := by
  unfold X5_numberOfWord_j96 at hE
  obtain ⟨x4_96, e_96, hE⟩ := bnS hE
  refine Wp.iinc dc_X5_numberOfWord_96 rfl ((ii ic_1).trans e_96) (by decide) ?_
  refine Wp.goto (tgt := 12) dc_X5_numberOfWord_99 (by decide) ?_
  cases hE
  exact hS _ rfl _
theorem ok_X5_numberOfWord_j86 {Q : Option AV → AH → Prop}  {σ : SS}  {x1 : Int32} {x4 : Int32} {o} {z2 z3 z5 : Option AV}   (hE : X5_numberOfWord_j86  σ  x1 x4 = some o) (hS : ∀ ss, o = Sum.inl ss → (X5_numberOfWord_P12  Q σ  ) ss) (hT : ∀ tt, o = Sum.inr tt → (X5_numberOfWord_R12  Q σ  ) tt) : Ws 6 mi_X5_numberOfWord Q 86 [some (vr 4 0), some (vi x1), z2, z3, some (vi x4), z5] [] σ := by
  unfold X5_numberOfWord_j86 at hE
  obtain ⟨x1_86, e_86, hE⟩ := bnS hE
  refine Wp.iinc dc_X5_numberOfWord_86 rfl ((ii ic_1).trans e_86) (by decide) ?_
  refine Wp.aload_n dc_X5_numberOfWord_89 rfl ?_
  refine Wp.sgetI dc_X5_numberOfWord_90 fw_X5_43 (mO4 (by decide)) ?_
  obtain ⟨x2_93, e_93, hE⟩ := bnS hE
  rw [e_93]
  refine Wp.istore_n dc_X5_numberOfWord_93 (by decide) ?_
  refine Wp.iconst dc_X5_numberOfWord_94 ic_1 ?_
  refine Wp.istore_n dc_X5_numberOfWord_95 (by decide) ?_
  exact ok_X5_numberOfWord_j96   hE hS hT
theorem ok_X5_numberOfWord_j65 {Q : Option AV → AH → Prop}  {σ : SS}  {x1 : Int32} {x2 : Int32} {x4 : Int32} {s0 : Int32} {o} {z3 z5 : Option AV}   (hE : X5_numberOfWord_j65  σ  x1 x2 x4 s0 = some o) (hS : ∀ ss, o = Sum.inl ss → (X5_numberOfWord_P12  Q σ  ) ss) (hT : ∀ tt, o = Sum.inr tt → (X5_numberOfWord_R12  Q σ  ) tt) : Ws 6 mi_X5_numberOfWord Q 65 [some (vr 4 0), some (vi x1), some (vi x2), z3, some (vi x4), z5] [vi s0] σ := by
  unfold X5_numberOfWord_j65 at hE
  refine Wp.istore_n dc_X5_numberOfWord_65 (by decide) ?_
  obtain ⟨x2_66, e_66, hE⟩ := bnS hE
  refine Wp.iinc dc_X5_numberOfWord_66 rfl ((ii ic_1).trans e_66) (by decide) ?_
  refine Wp.goto (tgt := 96) dc_X5_numberOfWord_69 (by decide) ?_
  exact ok_X5_numberOfWord_j96   hE hS hT
theorem ok_X5_numberOfWord_j64 {Q : Option AV → AH → Prop}  {σ : SS}  {x1 : Int32} {x2 : Int32} {x4 : Int32} {o} {z3 z5 : Option AV}   (hE : X5_numberOfWord_j64  σ  x1 x2 x4 = some o) (hS : ∀ ss, o = Sum.inl ss → (X5_numberOfWord_P12  Q σ  ) ss) (hT : ∀ tt, o = Sum.inr tt → (X5_numberOfWord_R12  Q σ  ) tt) : Ws 6 mi_X5_numberOfWord Q 64 [some (vr 4 0), some (vi x1), some (vi x2), z3, some (vi x4), z5] [] σ := by
  unfold X5_numberOfWord_j64 at hE
  refine Wp.iconst dc_X5_numberOfWord_64 ic_0 ?_
  exact ok_X5_numberOfWord_j65   hE hS hT
theorem ok_X5_numberOfWord_l12c {Q : Option AV → AH → Prop}  {σ : SS}   {x1 : Int32} {x2 : Int32} {x3 : Int32} {x4 : Int32} {o} {z5 : Option AV}   (hE : X5_numberOfWord_l12c  σ   x1 x2 x3 x4 = some o) (hS : ∀ ss, o = Sum.inl ss → (X5_numberOfWord_P12  Q σ  ) ss) (hT : ∀ tt, o = Sum.inr tt → (X5_numberOfWord_R12  Q σ  ) tt) : Ws 6 mi_X5_numberOfWord Q 12 [some (vr 4 0), some (vi x1), some (vi x2), some (vi x3), some (vi x4), z5] [] σ := by
  unfold X5_numberOfWord_l12c at hE
  refine Wp.iload dc_X5_numberOfWord_12 rfl ?_
  refine Wp.strLen dc_X5_numberOfWord_14 dc_X5_numberOfWord_16 (Nat.le_of_ble_eq_true rfl) ?_
  refine Wp.icmp_ge (tgt := 102) dc_X5_numberOfWord_19 (by decide) (fun hc19 => ?_) (fun hc19 => ?_)
  · rw [if_pos hc19] at hE
    cases hE
    exact hT _ rfl _ _ _ _ _ _
  · rw [if_neg hc19] at hE
    obtain ⟨j22, h22, hE⟩ := bnd hE
    refine Wp.strAt dc_X5_numberOfWord_22 dc_X5_numberOfWord_24 dc_X5_numberOfWord_26 rfl h22 (Nat.le_of_ble_eq_true rfl) ?_
    obtain ⟨x5_29, e_29, hE⟩ := bnS hE
    rw [e_29]
    refine Wp.istore dc_X5_numberOfWord_29 (by decide) ?_
    refine Wp.iload dc_X5_numberOfWord_31 rfl ?_
    refine Wp.bipush dc_X5_numberOfWord_33 bp_32 ?_
    refine Wp.icmp_eq (tgt := 72) dc_X5_numberOfWord_35 (by decide) (fun hc35 => ?_) (fun hc35 => ?_)
    · rw [if_pos hc35] at hE
      refine Wp.iload_n dc_X5_numberOfWord_72 rfl ?_
      refine Wp.if_eq (tgt := 86) dc_X5_numberOfWord_73 (by decide) (fun hc73 => ?_) (fun hc73 => ?_)
      · rw [if_pos hc73] at hE
        exact ok_X5_numberOfWord_j86   hE hS hT
      · rw [if_neg hc73] at hE
        refine Wp.iload_n dc_X5_numberOfWord_76 rfl ?_
        refine Wp.aload_n dc_X5_numberOfWord_77 rfl ?_
        refine Wp.sgetI dc_X5_numberOfWord_78 fw_X5_34 (mO4 (by decide)) ?_
        refine Wp.icmp_ne (tgt := 86) dc_X5_numberOfWord_81 (by decide) (fun hc81 => ?_) (fun hc81 => ?_)
        · rw [if_neg hc81] at hE
          exact ok_X5_numberOfWord_j86   hE hS hT
        · rw [if_pos hc81] at hE
          cases hE
          exact hT _ rfl _ _ _ _ _
    · rw [if_neg hc35] at hE
      refine Wp.iload_n dc_X5_numberOfWord_38 rfl ?_
      refine Wp.if_eq (tgt := 64) dc_X5_numberOfWord_39 (by decide) (fun hc39 => ?_) (fun hc39 => ?_)
      · rw [if_pos hc39] at hE
        exact ok_X5_numberOfWord_j64   hE hS hT
      · rw [if_neg hc39] at hE
        refine Wp.iload_n dc_X5_numberOfWord_42 rfl ?_
        refine Wp.aload_n dc_X5_numberOfWord_43 rfl ?_
        refine Wp.sgetI dc_X5_numberOfWord_44 fw_X5_34 (mO4 (by decide)) ?_
        refine Wp.icmp_ge (tgt := 64) dc_X5_numberOfWord_47 (by decide) (fun hc47 => ?_) (fun hc47 => ?_)
        · rw [if_pos hc47] at hE
          exact ok_X5_numberOfWord_j64   hE hS hT
        · rw [if_neg hc47] at hE
          refine Wp.aload_n dc_X5_numberOfWord_50 rfl ?_
          refine Wp.iload_n dc_X5_numberOfWord_51 rfl ?_
          obtain ⟨v52, h52, hE⟩ := bnd hE
          refine Wp.cV1i (ok_X5_byteAt  h52) dc_X5_numberOfWord_52 mw_X5_49 (mO4 (by decide)) (by decide) (Nat.le_of_ble_eq_true rfl) ?_
          refine Wp.iload dc_X5_numberOfWord_55 rfl ?_
          refine Wp.icmp_ne (tgt := 64) dc_X5_numberOfWord_57 (by decide) (fun hc57 => ?_) (fun hc57 => ?_)
          · rw [if_neg hc57] at hE
            exact ok_X5_numberOfWord_j64   hE hS hT
          · rw [if_pos hc57] at hE
            refine Wp.iconst dc_X5_numberOfWord_60 ic_1 ?_
            refine Wp.goto (tgt := 65) dc_X5_numberOfWord_61 (by decide) ?_
            exact ok_X5_numberOfWord_j65   hE hS hT
theorem ok_X5_numberOfWord_l12 {Q : Option AV → AH → Prop}  {σ : SS}  {x1 : Int32} {x2 : Int32} {x3 : Int32} {x4 : Int32} {o} {z5 : Option AV}   (hE : X5_numberOfWord_l12  σ  x1 x2 x3 x4 = some o) (hK : Q (some (vi o)) (hp σ)) : Ws 6 mi_X5_numberOfWord Q 12 [some (vr 4 0), some (vi x1), some (vi x2), some (vi x3), some (vi x4), z5] [] σ := by
  unfold X5_numberOfWord_l12 at hE
  obtain ⟨t12, h1, hE⟩ := bnd hE
  refine iter_ok (P := (X5_numberOfWord_P12  Q σ  )) (R := (X5_numberOfWord_R12  Q σ  )) (fun ss o h2 hS hT => ?_) NF _ _ h1 ?_ _
  · intro z5
    exact ok_X5_numberOfWord_l12c   h2 hS hT
  · rcases t12 with e84 | u84
    · dsimp only at hE
      intro z0 z2 z3 z4 z5
      show Ws 6 mi_X5_numberOfWord Q 84 [z0, some (vi e84), z2, z3, z4, z5] [] σ
      refine Wp.iload_n dc_X5_numberOfWord_84 rfl ?_
      cases hE
      exact Wp.ireturn dc_X5_numberOfWord_85 rfl rfl (Nat.le_refl _) (Nat.le_refl _) hK
    · dsimp only at hE
      skip
      intro z0 z1 z2 z3 z4 z5
      show Ws 6 mi_X5_numberOfWord Q 102 [z0, z1, z2, z3, z4, z5] [] σ
      refine Wp.iconst dc_X5_numberOfWord_102 ic_m1 ?_
      cases hE
      exact Wp.ireturn dc_X5_numberOfWord_103 rfl rfl (Nat.le_refl _) (Nat.le_refl _) hK
theorem ok_X5_numberOfWord_j0 {Q : Option AV → AH → Prop}  {σ : SS}   {o} {z1 z2 z3 z4 z5 : Option AV}   (hE : X5_numberOfWord_j0  σ   = some o) (hK : Q (some (vi o)) (hp σ)) : Ws 6 mi_X5_numberOfWord Q 0 [some (vr 4 0), z1, z2, z3, z4, z5] [] σ := by
  unfold X5_numberOfWord_j0 at hE
  refine Wp.iconst dc_X5_numberOfWord_0 ic_0 ?_
  refine Wp.istore_n dc_X5_numberOfWord_1 (by decide) ?_
  refine Wp.aload_n dc_X5_numberOfWord_2 rfl ?_
  refine Wp.sgetI dc_X5_numberOfWord_3 fw_X5_43 (mO4 (by decide)) ?_
  obtain ⟨x2_6, e_6, hE⟩ := bnS hE
  rw [e_6]
  refine Wp.istore_n dc_X5_numberOfWord_6 (by decide) ?_
  refine Wp.iconst dc_X5_numberOfWord_7 ic_1 ?_
  refine Wp.istore_n dc_X5_numberOfWord_8 (by decide) ?_
  refine Wp.iconst dc_X5_numberOfWord_9 ic_0 ?_
  refine Wp.istore dc_X5_numberOfWord_10 (by decide) ?_
  exact ok_X5_numberOfWord_l12   hE hK
theorem ok_X5_numberOfWord  {σ : SS}   {o}   (hE : X5_numberOfWord  σ   = some o) : Runs 6 0 0 mi_X5_numberOfWord [vr 4 0] (hp σ) (fun v h => v = some (vi o) ∧ h = hp σ) := by
  refine Runs.of pn_X5 (Nat.le_of_ble_eq_true rfl) ?_
  exact ok_X5_numberOfWord_j0   hE ⟨rfl, rfl⟩
