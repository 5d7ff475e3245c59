/-! certificates (by program: wip/whole/gen.py) -/
theorem ok_X10_wholeStep_j53 {Q : Option AV → AH → Prop}  {σ : SS} {r2 : Nat} {r3 : Nat} {x1 : Int32} {s0 : Int32} {o} {z0 z2 z4 z5 : Option AV}  (hr2 : r2 < 5) (hr3 : r3 < 5) (hE : X10_wholeStep_j53  σ r2 r3 x1 s0 = some o) (hK : Q (some (vi o.1)) (hp o.2)) : Ws 9 mi_X10_wholeStep Q 53 [z0, some (vi x1), z2, some (vr 8 r3), z4, z5] [vi s0] σ := by
  unfold X10_wholeStep_j53 at hE
  refine Wp.istore dc_X10_wholeStep_53 (by decide) ?_
  refine Wp.aload_n dc_X10_wholeStep_55 rfl ?_
  refine Wp.iload_n dc_X10_wholeStep_56 rfl ?_
  refine Wp.iload dc_X10_wholeStep_57 rfl ?_
  refine Wp.iconst dc_X10_wholeStep_59 ic_0 ?_
  obtain ⟨σ60, h60, hE⟩ := bnd hE
  refine Wp.cV3v (ok_X9_addStep (by omega) h60) dc_X10_wholeStep_60 mw_X10_105 (mO8 (by omega)) (by decide) (Nat.le_of_ble_eq_true rfl) ?_
  refine Wp.iload dc_X10_wholeStep_63 rfl ?_
  refine Wp.iconst dc_X10_wholeStep_65 ic_m1 ?_
  refine Wp.icmp_eq (tgt := 73) dc_X10_wholeStep_66 (by decide) (fun hc66 => ?_) (fun hc66 => ?_)
  · rw [if_pos hc66] at hE
    refine Wp.iconst dc_X10_wholeStep_73 ic_0 ?_
    cases hE
    exact Wp.ireturn dc_X10_wholeStep_74 rfl Nr.z0.1 (Nat.le_refl _) (Nat.le_refl _) hK
  · rw [if_neg hc66] at hE
    refine Wp.iconst dc_X10_wholeStep_69 ic_1 ?_
    refine Wp.goto (tgt := 74) dc_X10_wholeStep_70 (by decide) ?_
    cases hE
    exact Wp.ireturn dc_X10_wholeStep_74 rfl Nr.z1.1 (Nat.le_refl _) (Nat.le_refl _) hK
theorem ok_X10_wholeStep_j17 {Q : Option AV → AH → Prop}  {σ : SS} {r2 : Nat} {r3 : Nat} {x1 : Int32} {s0 : Int32} {o} {z4 z5 : Option AV}  (hr2 : r2 < 5) (hr3 : r3 < 5) (hE : X10_wholeStep_j17  σ r2 r3 x1 s0 = some o) (hK : Q (some (vi o.1)) (hp o.2)) : Ws 9 mi_X10_wholeStep Q 17 [some (vr 9 0), some (vi x1), some (vr 0 r2), some (vr 8 r3), z4, z5] [vi s0] σ := by
  unfold X10_wholeStep_j17 at hE
  refine Wp.istore dc_X10_wholeStep_17 (by decide) ?_
  refine Wp.iload dc_X10_wholeStep_19 rfl ?_
  refine Wp.if_eq (tgt := 37) dc_X10_wholeStep_21 (by decide) (fun hc21 => ?_) (fun hc21 => ?_)
  · rw [if_pos hc21] at hE
    refine Wp.iload_n dc_X10_wholeStep_37 rfl ?_
    obtain ⟨v38, h38, hE⟩ := bnd hE
    refine Wp.cS1i (ok_X10_namesLead  h38) dc_X10_wholeStep_38 mw_X10_95 (by decide) (Nat.le_of_ble_eq_true rfl) ?_
    refine Wp.if_eq (tgt := 52) dc_X10_wholeStep_41 (by decide) (fun hc41 => ?_) (fun hc41 => ?_)
    · rw [if_pos hc41] at hE
      refine Wp.iconst dc_X10_wholeStep_52 ic_0 ?_
      exact ok_X10_wholeStep_j53  hr2 hr3 hE hK
    · rw [if_neg hc41] at hE
      refine Wp.aload_n dc_X10_wholeStep_44 rfl ?_
      refine Wp.aload_n dc_X10_wholeStep_45 rfl ?_
      obtain ⟨p46, h46, hE⟩ := bnd hE
      refine Wp.cV1i (ok_X10_passLead (by omega) h46) dc_X10_wholeStep_46 mw_X10_101 (mO9 (by decide)) (by decide) (Nat.le_of_ble_eq_true rfl) ?_
      refine Wp.goto (tgt := 53) dc_X10_wholeStep_49 (by decide) ?_
      exact ok_X10_wholeStep_j53  hr2 hr3 hE hK
  · rw [if_neg hc21] at hE
    refine Wp.aload_n dc_X10_wholeStep_24 rfl ?_
    refine Wp.sgetR (t := 0) dc_X10_wholeStep_25 fw_X10_20 (mO9 (by decide)) rfl ?_
    refine Wp.iconst dc_X10_wholeStep_28 ic_1 ?_
    refine Wp.bipush dc_X10_wholeStep_29 bp_99 ?_
    obtain ⟨p31, h31, hE⟩ := bnd hE
    refine Wp.cV2i (ok_X5_passNumber  h31) dc_X10_wholeStep_31 mw_X10_98 (mO4 (by decide)) (by decide) (Nat.le_of_ble_eq_true rfl) ?_
    refine Wp.goto (tgt := 53) dc_X10_wholeStep_34 (by decide) ?_
    exact ok_X10_wholeStep_j53  hr2 hr3 hE hK
theorem ok_X10_wholeStep_j12 {Q : Option AV → AH → Prop}  {σ : SS} {r2 : Nat} {r3 : Nat} {x1 : Int32} {o} {z4 z5 : Option AV}  (hr2 : r2 < 5) (hr3 : r3 < 5) (hE : X10_wholeStep_j12  σ r2 r3 x1 = some o) (hK : Q (some (vi o.1)) (hp o.2)) : Ws 9 mi_X10_wholeStep Q 12 [some (vr 9 0), some (vi x1), some (vr 0 r2), some (vr 8 r3), z4, z5] [] σ := by
  unfold X10_wholeStep_j12 at hE
  refine Wp.iconst dc_X10_wholeStep_12 ic_1 ?_
  refine Wp.goto (tgt := 17) dc_X10_wholeStep_13 (by decide) ?_
  exact ok_X10_wholeStep_j17  hr2 hr3 hE hK
theorem ok_X10_wholeStep_j0 {Q : Option AV → AH → Prop}  {σ : SS} {r2 : Nat} {r3 : Nat} {x1 : Int32} {o} {z4 z5 : Option AV}  (hr2 : r2 < 5) (hr3 : r3 < 5) (hE : X10_wholeStep_j0  σ r2 r3 x1 = some o) (hK : Q (some (vi o.1)) (hp o.2)) : Ws 9 mi_X10_wholeStep Q 0 [some (vr 9 0), some (vi x1), some (vr 0 r2), some (vr 8 r3), z4, z5] [] σ := by
  unfold X10_wholeStep_j0 at hE
  refine Wp.iload_n dc_X10_wholeStep_0 rfl ?_
  refine Wp.bipush dc_X10_wholeStep_1 bp_12 ?_
  refine Wp.icmp_eq (tgt := 12) dc_X10_wholeStep_3 (by decide) (fun hc3 => ?_) (fun hc3 => ?_)
  · rw [if_pos hc3] at hE
    exact ok_X10_wholeStep_j12  hr2 hr3 hE hK
  · rw [if_neg hc3] at hE
    refine Wp.iload_n dc_X10_wholeStep_6 rfl ?_
    refine Wp.bipush dc_X10_wholeStep_7 bp_21 ?_
    refine Wp.icmp_ne (tgt := 16) dc_X10_wholeStep_9 (by decide) (fun hc9 => ?_) (fun hc9 => ?_)
    · rw [if_neg hc9] at hE
      refine Wp.iconst dc_X10_wholeStep_16 ic_0 ?_
      exact ok_X10_wholeStep_j17  hr2 hr3 hE hK
    · rw [if_pos hc9] at hE
      exact ok_X10_wholeStep_j12  hr2 hr3 hE hK
theorem ok_X10_wholeStep  {σ : SS} {r2 : Nat} {r3 : Nat} {x1 : Int32} {o}  (hr2 : r2 < 5) (hr3 : r3 < 5) (hE : X10_wholeStep  σ r2 r3 x1 = some o) : Runs 9 0 0 mi_X10_wholeStep [vr 9 0, vi x1, vr 0 r2, vr 8 r3] (hp σ) (fun v h => v = some (vi o.1) ∧ h = hp o.2) := by
  refine Runs.of pn_X10 (Nat.le_of_ble_eq_true rfl) ?_
  exact ok_X10_wholeStep_j0  hr2 hr3 hE ⟨rfl, rfl⟩
theorem ok_X10_stepLine_j154 {Q : Option AV → AH → Prop}  {σ : SS} {r1 : Nat} {r2 : Nat}  {o} {z1 z2 z3 z4 : Option AV}  (hr1 : r1 < 5) (hr2 : r2 < 5) (hE : X10_stepLine_j154  σ r1 r2  = some o) (hK : Q (some (vi o.1)) (hp o.2)) : Ws 10 mi_X10_stepLine Q 154 [some (vr 9 0), z1, z2, z3, z4] [] σ := by
  unfold X10_stepLine_j154 at hE
  refine Wp.aload_n dc_X10_stepLine_154 rfl ?_
  refine Wp.sgetR (t := 0) dc_X10_stepLine_155 fw_X10_20 (mO9 (by decide)) rfl ?_
  refine Wp.bipush dc_X10_stepLine_158 bp_59 ?_
  obtain ⟨p160, h160, hE⟩ := bnd hE
  refine Wp.cV1i (ok_X5_passSign  h160) dc_X10_stepLine_160 mw_X10_68 (mO4 (by decide)) (by decide) (Nat.le_of_ble_eq_true rfl) ?_
  refine Wp.if_eq (tgt := 170) dc_X10_stepLine_163 (by decide) (fun hc163 => ?_) (fun hc163 => ?_)
  · rw [if_pos hc163] at hE
    refine Wp.iconst dc_X10_stepLine_170 ic_0 ?_
    cases hE
    exact Wp.ireturn dc_X10_stepLine_171 rfl Nr.z0.1 (Nat.le_refl _) (Nat.le_refl _) hK
  · rw [if_neg hc163] at hE
    refine Wp.iconst dc_X10_stepLine_166 ic_1 ?_
    refine Wp.goto (tgt := 171) dc_X10_stepLine_167 (by decide) ?_
    cases hE
    exact Wp.ireturn dc_X10_stepLine_171 rfl Nr.z1.1 (Nat.le_refl _) (Nat.le_refl _) hK
theorem ok_X10_stepLine_j126 {Q : Option AV → AH → Prop}  {σ : SS} {r1 : Nat} {r2 : Nat} {x3 : Int32} {o} {z4 : Option AV}  (hr1 : r1 < 5) (hr2 : r2 < 5) (hE : X10_stepLine_j126  σ r1 r2 x3 = some o) (hK : Q (some (vi o.1)) (hp o.2)) : Ws 10 mi_X10_stepLine Q 126 [some (vr 9 0), some (vr 0 r1), some (vr 8 r2), some (vi x3), z4] [] σ := by
  unfold X10_stepLine_j126 at hE
  refine Wp.iload_n dc_X10_stepLine_126 rfl ?_
  refine Wp.bipush dc_X10_stepLine_127 bp_18 ?_
  refine Wp.icmp_ne (tgt := 144) dc_X10_stepLine_129 (by decide) (fun hc129 => ?_) (fun hc129 => ?_)
  · rw [if_neg hc129] at hE
    refine Wp.aload_n dc_X10_stepLine_144 rfl ?_
    refine Wp.iload_n dc_X10_stepLine_145 rfl ?_
    refine Wp.aload_n dc_X10_stepLine_146 rfl ?_
    refine Wp.aload_n dc_X10_stepLine_147 rfl ?_
    obtain ⟨p148, h148, hE⟩ := bnd hE
    refine Wp.cV3i (ok_X10_wholeStep (by omega) (by omega) h148) dc_X10_stepLine_148 mw_X10_91 (mO9 (by decide)) (by decide) (Nat.le_of_ble_eq_true rfl) ?_
    refine Wp.if_eq (tgt := 170) dc_X10_stepLine_151 (by decide) (fun hc151 => ?_) (fun hc151 => ?_)
    · rw [if_pos hc151] at hE
      refine Wp.iconst dc_X10_stepLine_170 ic_0 ?_
      cases hE
      exact Wp.ireturn dc_X10_stepLine_171 rfl Nr.z0.1 (Nat.le_refl _) (Nat.le_refl _) hK
    · rw [if_neg hc151] at hE
      exact ok_X10_stepLine_j154  hr1 hr2 hE hK
  · rw [if_pos hc129] at hE
    refine Wp.aload_n dc_X10_stepLine_132 rfl ?_
    refine Wp.aload_n dc_X10_stepLine_133 rfl ?_
    refine Wp.aload_n dc_X10_stepLine_134 rfl ?_
    obtain ⟨p135, h135, hE⟩ := bnd hE
    refine Wp.cV2i (ok_X10_testStep (by omega) (by omega) h135) dc_X10_stepLine_135 mw_X10_88 (mO9 (by decide)) (by decide) (Nat.le_of_ble_eq_true rfl) ?_
    refine Wp.if_eq (tgt := 170) dc_X10_stepLine_138 (by decide) (fun hc138 => ?_) (fun hc138 => ?_)
    · rw [if_pos hc138] at hE
      refine Wp.iconst dc_X10_stepLine_170 ic_0 ?_
      cases hE
      exact Wp.ireturn dc_X10_stepLine_171 rfl Nr.z0.1 (Nat.le_refl _) (Nat.le_refl _) hK
    · rw [if_neg hc138] at hE
      refine Wp.goto (tgt := 154) dc_X10_stepLine_141 (by decide) ?_
      exact ok_X10_stepLine_j154  hr1 hr2 hE hK
theorem ok_X10_stepLine_j88 {Q : Option AV → AH → Prop}  {σ : SS} {r1 : Nat} {r2 : Nat} {x3 : Int32} {x4 : Int32} {o}   (hr1 : r1 < 5) (hr2 : r2 < 5) (hE : X10_stepLine_j88  σ r1 r2 x3 x4 = some o) (hK : Q (some (vi o.1)) (hp o.2)) : Ws 10 mi_X10_stepLine Q 88 [some (vr 9 0), some (vr 0 r1), some (vr 8 r2), some (vi x3), some (vi x4)] [] σ := by
  unfold X10_stepLine_j88 at hE
  refine Wp.aload_n dc_X10_stepLine_88 rfl ?_
  refine Wp.sgetR (t := 0) dc_X10_stepLine_89 fw_X10_20 (mO9 (by decide)) rfl ?_
  obtain ⟨σ92, h92, hE⟩ := bnd hE
  refine Wp.cV0v (ok_X5_next  h92) dc_X10_stepLine_92 mw_X10_57 (mO4 (by decide)) (by decide) (Nat.le_of_ble_eq_true rfl) ?_
  refine Wp.iload dc_X10_stepLine_95 rfl ?_
  refine Wp.if_eq (tgt := 126) dc_X10_stepLine_97 (by decide) (fun hc97 => ?_) (fun hc97 => ?_)
  · rw [if_pos hc97] at hE
    exact ok_X10_stepLine_j126  hr1 hr2 hE hK
  · rw [if_neg hc97] at hE
    refine Wp.aload_n dc_X10_stepLine_100 rfl ?_
    refine Wp.sgetR (t := 21) dc_X10_stepLine_101 fw_X10_16 (mO9 (by decide)) rfl ?_
    refine Wp.iconst dc_X10_stepLine_104 ic_0 ?_
    refine Wp.aload_n dc_X10_stepLine_105 rfl ?_
    refine Wp.sgetI dc_X10_stepLine_106 fw_X10_32 (mO9 (by decide)) ?_
    refine Wp.aload_n dc_X10_stepLine_109 rfl ?_
    obtain ⟨v110, h110, hE⟩ := bnd hE
    refine Wp.cV0i (ok_X9_lineCount (by omega) h110) dc_X10_stepLine_110 mw_X10_81 (mO8 (by omega)) (by decide) (Nat.le_of_ble_eq_true rfl) ?_
    obtain ⟨σ113, h113, hE⟩ := bnd hE
    refine Wp.cV3v (ok_X4_put (by decide) h113) dc_X10_stepLine_113 mw_X10_84 (mO3 (by decide)) (by decide) (Nat.le_of_ble_eq_true rfl) ?_
    refine Wp.aload_n dc_X10_stepLine_116 rfl ?_
    refine Wp.dup dc_X10_stepLine_117 rfl ?_
    refine Wp.sgetI dc_X10_stepLine_118 fw_X10_32 (mO9 (by decide)) ?_
    refine Wp.iconst dc_X10_stepLine_121 ic_1 ?_
    refine Wp.iadd dc_X10_stepLine_122 ?_
    refine Wp.sputI dc_X10_stepLine_123 fw_X10_32 (mO9 (by decide)) (Nr.i _) ?_
    obtain ⟨σ123, es_123, hE⟩ := bnS hE
    rw [es_123]
    exact ok_X10_stepLine_j126  hr1 hr2 hE hK
theorem ok_X10_stepLine_j48 {Q : Option AV → AH → Prop}  {σ : SS} {r1 : Nat} {r2 : Nat} {x3 : Int32} {x4 : Int32} {o}   (hr1 : r1 < 5) (hr2 : r2 < 5) (hE : X10_stepLine_j48  σ r1 r2 x3 x4 = some o) (hK : Q (some (vi o.1)) (hp o.2)) : Ws 10 mi_X10_stepLine Q 48 [some (vr 9 0), some (vr 0 r1), some (vr 8 r2), some (vi x3), some (vi x4)] [] σ := by
  unfold X10_stepLine_j48 at hE
  refine Wp.aload_n dc_X10_stepLine_48 rfl ?_
  obtain ⟨v49, h49, hE⟩ := bnd hE
  refine Wp.cV0i (ok_X9_isFull (by omega) h49) dc_X10_stepLine_49 mw_X10_78 (mO8 (by omega)) (by decide) (Nat.le_of_ble_eq_true rfl) ?_
  refine Wp.if_eq (tgt := 65) dc_X10_stepLine_52 (by decide) (fun hc52 => ?_) (fun hc52 => ?_)
  · rw [if_pos hc52] at hE
    refine Wp.iload dc_X10_stepLine_65 rfl ?_
    refine Wp.if_eq (tgt := 88) dc_X10_stepLine_67 (by decide) (fun hc67 => ?_) (fun hc67 => ?_)
    · rw [if_pos hc67] at hE
      exact ok_X10_stepLine_j88  hr1 hr2 hE hK
    · rw [if_neg hc67] at hE
      refine Wp.aload_n dc_X10_stepLine_70 rfl ?_
      refine Wp.sgetI dc_X10_stepLine_71 fw_X10_32 (mO9 (by decide)) ?_
      refine Wp.iconst dc_X10_stepLine_74 ic_3 ?_
      refine Wp.icmp_lt (tgt := 88) dc_X10_stepLine_75 (by decide) (fun hc75 => ?_) (fun hc75 => ?_)
      · rw [if_pos hc75] at hE
        exact ok_X10_stepLine_j88  hr1 hr2 hE hK
      · rw [if_neg hc75] at hE
        refine Wp.aload_n dc_X10_stepLine_78 rfl ?_
        refine Wp.sgetR (t := 0) dc_X10_stepLine_79 fw_X10_20 (mO9 (by decide)) rfl ?_
        refine Wp.bipush dc_X10_stepLine_82 bp_7 ?_
        obtain ⟨p84, h84, hE⟩ := bnd hE
        refine Wp.cV1i (ok_X5_fail  h84) dc_X10_stepLine_84 mw_X10_54 (mO4 (by decide)) (by decide) (Nat.le_of_ble_eq_true rfl) ?_
        obtain ⟨b87, h87, hE⟩ := bnd hE
        obtain ⟨e_87, hb87⟩ := zb_some h87
        skip
        cases hE
        exact Wp.ireturn dc_X10_stepLine_87 rfl hb87.1 (Nat.le_refl _) (Nat.le_refl _) hK
  · rw [if_neg hc52] at hE
    refine Wp.aload_n dc_X10_stepLine_55 rfl ?_
    refine Wp.sgetR (t := 0) dc_X10_stepLine_56 fw_X10_20 (mO9 (by decide)) rfl ?_
    refine Wp.bipush dc_X10_stepLine_59 bp_6 ?_
    obtain ⟨p61, h61, hE⟩ := bnd hE
    refine Wp.cV1i (ok_X5_fail  h61) dc_X10_stepLine_61 mw_X10_54 (mO4 (by decide)) (by decide) (Nat.le_of_ble_eq_true rfl) ?_
    obtain ⟨b64, h64, hE⟩ := bnd hE
    obtain ⟨e_64, hb64⟩ := zb_some h64
    skip
    cases hE
    exact Wp.ireturn dc_X10_stepLine_64 rfl hb64.1 (Nat.le_refl _) (Nat.le_refl _) hK
theorem ok_X10_stepLine_j25 {Q : Option AV → AH → Prop}  {σ : SS} {r1 : Nat} {r2 : Nat} {x3 : Int32} {s0 : Int32} {o} {z4 : Option AV}  (hr1 : r1 < 5) (hr2 : r2 < 5) (hE : X10_stepLine_j25  σ r1 r2 x3 s0 = some o) (hK : Q (some (vi o.1)) (hp o.2)) : Ws 10 mi_X10_stepLine Q 25 [some (vr 9 0), some (vr 0 r1), some (vr 8 r2), some (vi x3), z4] [vi s0] σ := by
  unfold X10_stepLine_j25 at hE
  refine Wp.istore dc_X10_stepLine_25 (by decide) ?_
  refine Wp.iload dc_X10_stepLine_27 rfl ?_
  refine Wp.if_ne (tgt := 48) dc_X10_stepLine_29 (by decide) (fun hc29 => ?_) (fun hc29 => ?_)
  · rw [if_neg hc29] at hE
    exact ok_X10_stepLine_j48  hr1 hr2 hE hK
  · rw [if_pos hc29] at hE
    refine Wp.iload_n dc_X10_stepLine_32 rfl ?_
    obtain ⟨v33, h33, hE⟩ := bnd hE
    refine Wp.cS1i (ok_X10_isPlainStep  h33) dc_X10_stepLine_33 mw_X10_75 (by decide) (Nat.le_of_ble_eq_true rfl) ?_
    refine Wp.if_ne (tgt := 48) dc_X10_stepLine_36 (by decide) (fun hc36 => ?_) (fun hc36 => ?_)
    · rw [if_neg hc36] at hE
      exact ok_X10_stepLine_j48  hr1 hr2 hE hK
    · rw [if_pos hc36] at hE
      refine Wp.aload_n dc_X10_stepLine_39 rfl ?_
      refine Wp.sgetR (t := 0) dc_X10_stepLine_40 fw_X10_20 (mO9 (by decide)) rfl ?_
      refine Wp.iconst dc_X10_stepLine_43 ic_2 ?_
      obtain ⟨p44, h44, hE⟩ := bnd hE
      refine Wp.cV1i (ok_X5_fail  h44) dc_X10_stepLine_44 mw_X10_54 (mO4 (by decide)) (by decide) (Nat.le_of_ble_eq_true rfl) ?_
      obtain ⟨b47, h47, hE⟩ := bnd hE
      obtain ⟨e_47, hb47⟩ := zb_some h47
      skip
      cases hE
      exact Wp.ireturn dc_X10_stepLine_47 rfl hb47.1 (Nat.le_refl _) (Nat.le_refl _) hK
theorem ok_X10_stepLine_j20 {Q : Option AV → AH → Prop}  {σ : SS} {r1 : Nat} {r2 : Nat} {x3 : Int32} {o} {z4 : Option AV}  (hr1 : r1 < 5) (hr2 : r2 < 5) (hE : X10_stepLine_j20  σ r1 r2 x3 = some o) (hK : Q (some (vi o.1)) (hp o.2)) : Ws 10 mi_X10_stepLine Q 20 [some (vr 9 0), some (vr 0 r1), some (vr 8 r2), some (vi x3), z4] [] σ := by
  unfold X10_stepLine_j20 at hE
  refine Wp.iconst dc_X10_stepLine_20 ic_1 ?_
  refine Wp.goto (tgt := 25) dc_X10_stepLine_21 (by decide) ?_
  exact ok_X10_stepLine_j25  hr1 hr2 hE hK
theorem ok_X10_stepLine_j0 {Q : Option AV → AH → Prop}  {σ : SS} {r1 : Nat} {r2 : Nat}  {o} {z3 z4 : Option AV}  (hr1 : r1 < 5) (hr2 : r2 < 5) (hE : X10_stepLine_j0  σ r1 r2  = some o) (hK : Q (some (vi o.1)) (hp o.2)) : Ws 10 mi_X10_stepLine Q 0 [some (vr 9 0), some (vr 0 r1), some (vr 8 r2), z3, z4] [] σ := by
  unfold X10_stepLine_j0 at hE
  refine Wp.aload_n dc_X10_stepLine_0 rfl ?_
  refine Wp.sgetR (t := 0) dc_X10_stepLine_1 fw_X10_20 (mO9 (by decide)) rfl ?_
  obtain ⟨v4, h4, hE⟩ := bnd hE
  refine Wp.cV0i (ok_X5_word  h4) dc_X10_stepLine_4 mw_X10_71 (mO4 (by decide)) (by decide) (Nat.le_of_ble_eq_true rfl) ?_
  refine Wp.istore_n dc_X10_stepLine_7 (by decide) ?_
  refine Wp.iload_n dc_X10_stepLine_8 rfl ?_
  refine Wp.bipush dc_X10_stepLine_9 bp_18 ?_
  refine Wp.icmp_eq (tgt := 20) dc_X10_stepLine_11 (by decide) (fun hc11 => ?_) (fun hc11 => ?_)
  · rw [if_pos hc11] at hE
    exact ok_X10_stepLine_j20  hr1 hr2 hE hK
  · rw [if_neg hc11] at hE
    refine Wp.iload_n dc_X10_stepLine_14 rfl ?_
    refine Wp.bipush dc_X10_stepLine_15 bp_21 ?_
    refine Wp.icmp_ne (tgt := 24) dc_X10_stepLine_17 (by decide) (fun hc17 => ?_) (fun hc17 => ?_)
    · rw [if_neg hc17] at hE
      refine Wp.iconst dc_X10_stepLine_24 ic_0 ?_
      exact ok_X10_stepLine_j25  hr1 hr2 hE hK
    · rw [if_pos hc17] at hE
      exact ok_X10_stepLine_j20  hr1 hr2 hE hK
theorem ok_X10_stepLine  {σ : SS} {r1 : Nat} {r2 : Nat}  {o}  (hr1 : r1 < 5) (hr2 : r2 < 5) (hE : X10_stepLine  σ r1 r2  = some o) : Runs 10 0 0 mi_X10_stepLine [vr 9 0, vr 0 r1, vr 8 r2] (hp σ) (fun v h => v = some (vi o.1) ∧ h = hp o.2) := by
  refine Runs.of pn_X10 (Nat.le_of_ble_eq_true rfl) ?_
  exact ok_X10_stepLine_j0  hr1 hr2 hE ⟨rfl, rfl⟩
def X10_isGood_P18 (Q : Option AV → AH → Prop)  (r1 : Nat) (r2 : Nat)  (ss : Int32 × Int32 × SS) : Prop := Ws 11 mi_X10_isGood Q 18 [some (vr 9 0), some (vr 0 r1), some (vr 8 r2), some (vi ss.1), some (vi ss.2.1)] [] ss.2.2
def X10_isGood_R18 (Q : Option AV → AH → Prop)  (r1 : Nat) (r2 : Nat)  (tt : Int32 × SS) : Prop := ∀ z1 z2 z4 : Option AV, Ws 11 mi_X10_isGood Q 73 [some (vr 9 0), z1, z2, some (vi tt.1), z4] [] tt.2
theorem ok_X10_isGood_j66 {Q : Option AV → AH → Prop}  {σ : SS} {r1 : Nat} {r2 : Nat} {x4 : Int32} {s0 : Int32} {o} {z3 : Option AV}  (hr1 : r1 < 5) (hr2 : r2 < 5) (hE : X10_isGood_j66  σ r1 r2 x4 s0 = some o) (hS : ∀ ss, o = Sum.inl ss → (X10_isGood_P18  Q  r1 r2 ) ss) (hT : ∀ tt, o = Sum.inr tt → (X10_isGood_R18  Q  r1 r2 ) tt) : Ws 11 mi_X10_isGood Q 66 [some (vr 9 0), some (vr 0 r1), some (vr 8 r2), z3, some (vi x4)] [vi s0] σ := by
  unfold X10_isGood_j66 at hE
  refine Wp.istore_n dc_X10_isGood_66 (by decide) ?_
  obtain ⟨x4_67, e_67, hE⟩ := bnS hE
  refine Wp.iinc dc_X10_isGood_67 rfl ((ii ic_1).trans e_67) (by decide) ?_
  refine Wp.goto (tgt := 18) dc_X10_isGood_70 (by decide) ?_
  cases hE
  exact hS _ rfl
theorem ok_X10_isGood_l18c {Q : Option AV → AH → Prop}  {σ : SS} {r1 : Nat} {r2 : Nat}  {x3 : Int32} {x4 : Int32} {o}   (hr1 : r1 < 5) (hr2 : r2 < 5) (hE : X10_isGood_l18c  σ r1 r2  x3 x4 = some o) (hS : ∀ ss, o = Sum.inl ss → (X10_isGood_P18  Q  r1 r2 ) ss) (hT : ∀ tt, o = Sum.inr tt → (X10_isGood_R18  Q  r1 r2 ) tt) : Ws 11 mi_X10_isGood Q 18 [some (vr 9 0), some (vr 0 r1), some (vr 8 r2), some (vi x3), some (vi x4)] [] σ := by
  unfold X10_isGood_l18c at hE
  refine Wp.iload dc_X10_isGood_18 rfl ?_
  refine Wp.sipush dc_X10_isGood_20 sp_900 ?_
  refine Wp.icmp_gt (tgt := 73) dc_X10_isGood_23 (by decide) (fun hc23 => ?_) (fun hc23 => ?_)
  · rw [if_pos hc23] at hE
    cases hE
    exact hT _ rfl _ _ _
  · rw [if_neg hc23] at hE
    refine Wp.iload_n dc_X10_isGood_26 rfl ?_
    refine Wp.if_eq (tgt := 73) dc_X10_isGood_27 (by decide) (fun hc27 => ?_) (fun hc27 => ?_)
    · rw [if_pos hc27] at hE
      cases hE
      exact hT _ rfl _ _ _
    · rw [if_neg hc27] at hE
      refine Wp.aload_n dc_X10_isGood_30 rfl ?_
      refine Wp.sgetR (t := 0) dc_X10_isGood_31 fw_X10_20 (mO9 (by decide)) rfl ?_
      obtain ⟨v34, h34, hE⟩ := bnd hE
      refine Wp.cV0i (ok_X5_atEnd  h34) dc_X10_isGood_34 mw_X10_38 (mO4 (by decide)) (by decide) (Nat.le_of_ble_eq_true rfl) ?_
      refine Wp.if_ne (tgt := 73) dc_X10_isGood_37 (by decide) (fun hc37 => ?_) (fun hc37 => ?_)
      · rw [if_neg hc37] at hE
        cases hE
        exact hT _ rfl _ _ _
      · rw [if_pos hc37] at hE
        refine Wp.aload_n dc_X10_isGood_40 rfl ?_
        refine Wp.sgetR (t := 0) dc_X10_isGood_41 fw_X10_20 (mO9 (by decide)) rfl ?_
        refine Wp.bipush dc_X10_isGood_44 bp_22 ?_
        obtain ⟨v46, h46, hE⟩ := bnd hE
        refine Wp.cV1i (ok_X5_wordIs  h46) dc_X10_isGood_46 mw_X10_42 (mO4 (by decide)) (by decide) (Nat.le_of_ble_eq_true rfl) ?_
        refine Wp.if_eq (tgt := 60) dc_X10_isGood_49 (by decide) (fun hc49 => ?_) (fun hc49 => ?_)
        · rw [if_pos hc49] at hE
          refine Wp.aload_n dc_X10_isGood_60 rfl ?_
          refine Wp.aload_n dc_X10_isGood_61 rfl ?_
          refine Wp.aload_n dc_X10_isGood_62 rfl ?_
          obtain ⟨p63, h63, hE⟩ := bnd hE
          refine Wp.cV2i (ok_X10_stepLine (by omega) (by omega) h63) dc_X10_isGood_63 mw_X10_50 (mO9 (by decide)) (by decide) (Nat.le_of_ble_eq_true rfl) ?_
          exact ok_X10_isGood_j66  hr1 hr2 hE hS hT
        · rw [if_neg hc49] at hE
          refine Wp.aload_n dc_X10_isGood_52 rfl ?_
          refine Wp.aload_n dc_X10_isGood_53 rfl ?_
          obtain ⟨p54, h54, hE⟩ := bnd hE
          refine Wp.cV1i (ok_X10_endLine (by omega) h54) dc_X10_isGood_54 mw_X10_46 (mO9 (by decide)) (by decide) (Nat.le_of_ble_eq_true rfl) ?_
          refine Wp.goto (tgt := 66) dc_X10_isGood_57 (by decide) ?_
          exact ok_X10_isGood_j66  hr1 hr2 hE hS hT
theorem ok_X10_isGood_j95 {Q : Option AV → AH → Prop}  {σ : SS} {r1 : Nat} {r2 : Nat}  {o} {z0 z1 z2 z3 z4 : Option AV}  (hr1 : r1 < 5) (hr2 : r2 < 5) (hE : X10_isGood_j95  σ r1 r2  = some o) (hK : Q (some (vi o.1)) (hp o.2)) : Ws 11 mi_X10_isGood Q 95 [z0, z1, z2, z3, z4] [] σ := by
  unfold X10_isGood_j95 at hE
  refine Wp.iconst dc_X10_isGood_95 ic_1 ?_
  refine Wp.goto (tgt := 100) dc_X10_isGood_96 (by decide) ?_
  cases hE
  exact Wp.ireturn dc_X10_isGood_100 rfl Nr.z1.1 (Nat.le_refl _) (Nat.le_refl _) hK
theorem ok_X10_isGood_j73 {Q : Option AV → AH → Prop}  {σ : SS} {r1 : Nat} {r2 : Nat} {x3 : Int32} {o} {z1 z2 z4 : Option AV}  (hr1 : r1 < 5) (hr2 : r2 < 5) (hE : X10_isGood_j73  σ r1 r2 x3 = some o) (hK : Q (some (vi o.1)) (hp o.2)) : Ws 11 mi_X10_isGood Q 73 [some (vr 9 0), z1, z2, some (vi x3), z4] [] σ := by
  unfold X10_isGood_j73 at hE
  refine Wp.iload_n dc_X10_isGood_73 rfl ?_
  refine Wp.if_eq (tgt := 99) dc_X10_isGood_74 (by decide) (fun hc74 => ?_) (fun hc74 => ?_)
  · rw [if_pos hc74] at hE
    refine Wp.iconst dc_X10_isGood_99 ic_0 ?_
    cases hE
    exact Wp.ireturn dc_X10_isGood_100 rfl Nr.z0.1 (Nat.le_refl _) (Nat.le_refl _) hK
  · rw [if_neg hc74] at hE
    refine Wp.aload_n dc_X10_isGood_77 rfl ?_
    refine Wp.sgetI dc_X10_isGood_78 fw_X10_32 (mO9 (by decide)) ?_
    refine Wp.if_eq (tgt := 95) dc_X10_isGood_81 (by decide) (fun hc81 => ?_) (fun hc81 => ?_)
    · rw [if_pos hc81] at hE
      exact ok_X10_isGood_j95  hr1 hr2 hE hK
    · rw [if_neg hc81] at hE
      refine Wp.aload_n dc_X10_isGood_84 rfl ?_
      refine Wp.sgetR (t := 0) dc_X10_isGood_85 fw_X10_20 (mO9 (by decide)) rfl ?_
      refine Wp.iconst dc_X10_isGood_88 ic_2 ?_
      obtain ⟨p89, h89, hE⟩ := bnd hE
      refine Wp.cV1i (ok_X5_fail  h89) dc_X10_isGood_89 mw_X10_54 (mO4 (by decide)) (by decide) (Nat.le_of_ble_eq_true rfl) ?_
      refine Wp.if_eq (tgt := 99) dc_X10_isGood_92 (by decide) (fun hc92 => ?_) (fun hc92 => ?_)
      · rw [if_pos hc92] at hE
        refine Wp.iconst dc_X10_isGood_99 ic_0 ?_
        cases hE
        exact Wp.ireturn dc_X10_isGood_100 rfl Nr.z0.1 (Nat.le_refl _) (Nat.le_refl _) hK
      · rw [if_neg hc92] at hE
        exact ok_X10_isGood_j95  hr1 hr2 hE hK
theorem ok_X10_isGood_l18 {Q : Option AV → AH → Prop}  {σ : SS} {r1 : Nat} {r2 : Nat} {x3 : Int32} {x4 : Int32} {o}   (hr1 : r1 < 5) (hr2 : r2 < 5) (hE : X10_isGood_l18  σ r1 r2 x3 x4 = some o) (hK : Q (some (vi o.1)) (hp o.2)) : Ws 11 mi_X10_isGood Q 18 [some (vr 9 0), some (vr 0 r1), some (vr 8 r2), some (vi x3), some (vi x4)] [] σ := by
  unfold X10_isGood_l18 at hE
  obtain ⟨t18, h1, hE⟩ := bnd hE
  refine iter_ok (P := (X10_isGood_P18  Q  r1 r2 )) (R := (X10_isGood_R18  Q  r1 r2 )) (fun ss o h2 hS hT => ?_) NF _ _ h1 ?_
  · skip
    exact ok_X10_isGood_l18c  hr1 hr2 h2 hS hT
  · intro z1 z2 z4
    show Ws 11 mi_X10_isGood Q 73 [some (vr 9 0), z1, z2, some (vi t18.1), z4] [] t18.2
    exact ok_X10_isGood_j73  hr1 hr2 hE hK
theorem ok_X10_isGood_j0 {Q : Option AV → AH → Prop}  {σ : SS} {r1 : Nat} {r2 : Nat}  {o} {z3 z4 : Option AV}  (hr1 : r1 < 5) (hr2 : r2 < 5) (hE : X10_isGood_j0  σ r1 r2  = some o) (hK : Q (some (vi o.1)) (hp o.2)) : Ws 11 mi_X10_isGood Q 0 [some (vr 9 0), some (vr 0 r1), some (vr 8 r2), z3, z4] [] σ := by
  unfold X10_isGood_j0 at hE
  refine Wp.aload_n dc_X10_isGood_0 rfl ?_
  obtain ⟨σ1, h1, hE⟩ := bnd hE
  refine Wp.cV0v (ok_X9_clear (by omega) h1) dc_X10_isGood_1 mw_X10_24 (mO8 (by omega)) (by decide) (Nat.le_of_ble_eq_true rfl) ?_
  refine Wp.aload_n dc_X10_isGood_4 rfl ?_
  obtain ⟨σ5, h5, hE⟩ := bnd hE
  refine Wp.cV0v (ok_X9_setThere (by omega) h5) dc_X10_isGood_5 mw_X10_29 (mO8 (by omega)) (by decide) (Nat.le_of_ble_eq_true rfl) ?_
  refine Wp.aload_n dc_X10_isGood_8 rfl ?_
  refine Wp.iconst dc_X10_isGood_9 ic_0 ?_
  refine Wp.sputI dc_X10_isGood_10 fw_X10_32 (mO9 (by decide)) (Nr.i _) ?_
  obtain ⟨σ10, es_10, hE⟩ := bnS hE
  rw [es_10]
  refine Wp.iconst dc_X10_isGood_13 ic_1 ?_
  refine Wp.istore_n dc_X10_isGood_14 (by decide) ?_
  refine Wp.iconst dc_X10_isGood_15 ic_0 ?_
  refine Wp.istore dc_X10_isGood_16 (by decide) ?_
  exact ok_X10_isGood_l18  hr1 hr2 hE hK
theorem ok_X10_isGood  {σ : SS} {r1 : Nat} {r2 : Nat}  {o}  (hr1 : r1 < 5) (hr2 : r2 < 5) (hE : X10_isGood  σ r1 r2  = some o) : Runs 11 0 0 mi_X10_isGood [vr 9 0, vr 0 r1, vr 8 r2] (hp σ) (fun v h => v = some (vi o.1) ∧ h = hp o.2) := by
  refine Runs.of pn_X10 (Nat.le_of_ble_eq_true rfl) ?_
  exact ok_X10_isGood_j0  hr1 hr2 hE ⟨rfl, rfl⟩
theorem ok_X11_status_j0 {Q : Option AV → AH → Prop}  {σ : SS}   {o}    (hE : X11_status_j0  σ   = some o) (hK : Q (some (vi o)) (hp σ)) : Ws 0 mi_X11_status Q 0 [some (vr 10 0)] [] σ := by
  unfold X11_status_j0 at hE
  refine Wp.aload_n dc_X11_status_0 rfl ?_
  refine Wp.sgetI dc_X11_status_1 fw_X11_80 (mO10 (by decide)) ?_
  cases hE
  exact Wp.ireturn dc_X11_status_4 rfl rfl (Nat.le_refl _) (Nat.le_refl _) hK
theorem ok_X11_status  {σ : SS}   {o}   (hE : X11_status  σ   = some o) : Runs 0 0 0 mi_X11_status [vr 10 0] (hp σ) (fun v h => v = some (vi o) ∧ h = hp σ) := by
  refine Runs.of pn_X11 (Nat.le_of_ble_eq_true rfl) ?_
  exact ok_X11_status_j0   hE ⟨rfl, rfl⟩
theorem ok_X11_top_j0 {Q : Option AV → AH → Prop}  {σ : SS}   {o}    (hE : X11_top_j0  σ   = some o) (hK : Q (some (vl o)) (hp σ)) : Ws 0 mi_X11_top Q 0 [some (vr 10 0)] [] σ := by
  unfold X11_top_j0 at hE
  refine Wp.aload_n dc_X11_top_0 rfl ?_
  refine Wp.sgetJ dc_X11_top_1 fw_X11_84 (mO10 (by decide)) ?_
  cases hE
  exact Wp.lreturn dc_X11_top_4 rfl (Nat.le_refl _) (Nat.le_refl _) hK
theorem ok_X11_top  {σ : SS}   {o}   (hE : X11_top  σ   = some o) : Runs 0 0 0 mi_X11_top [vr 10 0] (hp σ) (fun v h => v = some (vl o) ∧ h = hp σ) := by
  refine Runs.of pn_X11 (Nat.le_of_ble_eq_true rfl) ?_
  exact ok_X11_top_j0   hE ⟨rfl, rfl⟩
theorem ok_X11_bottom_j0 {Q : Option AV → AH → Prop}  {σ : SS}   {o}    (hE : X11_bottom_j0  σ   = some o) (hK : Q (some (vl o)) (hp σ)) : Ws 0 mi_X11_bottom Q 0 [some (vr 10 0)] [] σ := by
  unfold X11_bottom_j0 at hE
  refine Wp.aload_n dc_X11_bottom_0 rfl ?_
  refine Wp.sgetJ dc_X11_bottom_1 fw_X11_76 (mO10 (by decide)) ?_
  cases hE
  exact Wp.lreturn dc_X11_bottom_4 rfl (Nat.le_refl _) (Nat.le_refl _) hK
theorem ok_X11_bottom  {σ : SS}   {o}   (hE : X11_bottom  σ   = some o) : Runs 0 0 0 mi_X11_bottom [vr 10 0] (hp σ) (fun v h => v = some (vl o) ∧ h = hp σ) := by
  refine Runs.of pn_X11 (Nat.le_of_ble_eq_true rfl) ?_
  exact ok_X11_bottom_j0   hE ⟨rfl, rfl⟩
theorem ok_X11_answers_j0 {Q : Option AV → AH → Prop}  {σ : SS}  {x1 : Int32} {o}    (hE : X11_answers_j0  σ  x1 = some o) (hK : Q (some (vi o.1)) (hp o.2)) : Ws 0 mi_X11_answers Q 0 [some (vr 10 0), some (vi x1)] [] σ := by
  unfold X11_answers_j0 at hE
  refine Wp.aload_n dc_X11_answers_0 rfl ?_
  refine Wp.iload_n dc_X11_answers_1 rfl ?_
  refine Wp.sputI dc_X11_answers_2 fw_X11_80 (mO10 (by decide)) (Nr.i _) ?_
  obtain ⟨σ2, es_2, hE⟩ := bnS hE
  rw [es_2]
  refine Wp.iload_n dc_X11_answers_5 rfl ?_
  refine Wp.if_ne (tgt := 13) dc_X11_answers_6 (by decide) (fun hc6 => ?_) (fun hc6 => ?_)
  · rw [if_neg hc6] at hE
    refine Wp.iconst dc_X11_answers_13 ic_0 ?_
    cases hE
    exact Wp.ireturn dc_X11_answers_14 rfl Nr.z0.1 (Nat.le_refl _) (Nat.le_refl _) hK
  · rw [if_pos hc6] at hE
    refine Wp.iconst dc_X11_answers_9 ic_1 ?_
    refine Wp.goto (tgt := 14) dc_X11_answers_10 (by decide) ?_
    cases hE
    exact Wp.ireturn dc_X11_answers_14 rfl Nr.z1.1 (Nat.le_refl _) (Nat.le_refl _) hK
theorem ok_X11_answers  {σ : SS}  {x1 : Int32} {o}   (hE : X11_answers  σ  x1 = some o) : Runs 0 0 0 mi_X11_answers [vr 10 0, vi x1] (hp σ) (fun v h => v = some (vi o.1) ∧ h = hp o.2) := by
  refine Runs.of pn_X11 (Nat.le_of_ble_eq_true rfl) ?_
  exact ok_X11_answers_j0   hE ⟨rfl, rfl⟩
theorem ok_X11_tray_j47 {Q : Option AV → AH → Prop}  {σ : SS}  {x1 : Int32} {x2 : Int32} {x3 : Int32} {s1 : Int32} {o}    (hE : X11_tray_j47  σ  x1 x2 x3 s1 = some o) (hK : Q (some (vi o.1)) (hp o.2)) : Ws 5 mi_X11_tray Q 47 [some (vr 10 0), some (vi x1), some (vi x2), some (vi x3)] [vi s1, vr 10 0] σ := by
  unfold X11_tray_j47 at hE
  obtain ⟨p47, h47, hE⟩ := bnd hE
  refine Wp.cV1i (ok_X11_answers  h47) dc_X11_tray_47 mw_X11_94 (mO10 (by decide)) (by decide) (Nat.le_of_ble_eq_true rfl) ?_
  refine Wp.if_eq (tgt := 70) dc_X11_tray_50 (by decide) (fun hc50 => ?_) (fun hc50 => ?_)
  · rw [if_pos hc50] at hE
    refine Wp.iconst dc_X11_tray_70 ic_0 ?_
    cases hE
    exact Wp.ireturn dc_X11_tray_71 rfl Nr.z0.1 (Nat.le_refl _) (Nat.le_refl _) hK
  · rw [if_neg hc50] at hE
    refine Wp.aload_n dc_X11_tray_53 rfl ?_
    refine Wp.sgetR (t := 0) dc_X11_tray_54 fw_X11_10 (mO10 (by decide)) rfl ?_
    refine Wp.iload_n dc_X11_tray_57 rfl ?_
    refine Wp.iload_n dc_X11_tray_58 rfl ?_
    refine Wp.iload_n dc_X11_tray_59 rfl ?_
    obtain ⟨p60, h60, hE⟩ := bnd hE
    refine Wp.cV3i (ok_X6_lay  h60) dc_X11_tray_60 mw_X11_97 (mO5 (by decide)) (by decide) (Nat.le_of_ble_eq_true rfl) ?_
    refine Wp.if_eq (tgt := 70) dc_X11_tray_63 (by decide) (fun hc63 => ?_) (fun hc63 => ?_)
    · rw [if_pos hc63] at hE
      refine Wp.iconst dc_X11_tray_70 ic_0 ?_
      cases hE
      exact Wp.ireturn dc_X11_tray_71 rfl Nr.z0.1 (Nat.le_refl _) (Nat.le_refl _) hK
    · rw [if_neg hc63] at hE
      refine Wp.iconst dc_X11_tray_66 ic_1 ?_
      refine Wp.goto (tgt := 71) dc_X11_tray_67 (by decide) ?_
      cases hE
      exact Wp.ireturn dc_X11_tray_71 rfl Nr.z1.1 (Nat.le_refl _) (Nat.le_refl _) hK
theorem ok_X11_tray_j23 {Q : Option AV → AH → Prop}  {σ : SS}  {x1 : Int32} {x2 : Int32} {x3 : Int32} {o}    (hE : X11_tray_j23  σ  x1 x2 x3 = some o) (hK : Q (some (vi o.1)) (hp o.2)) : Ws 5 mi_X11_tray Q 23 [some (vr 10 0), some (vi x1), some (vi x2), some (vi x3)] [vr 10 0] σ := by
  unfold X11_tray_j23 at hE
  refine Wp.iconst dc_X11_tray_23 ic_1 ?_
  refine Wp.goto (tgt := 47) dc_X11_tray_24 (by decide) ?_
  exact ok_X11_tray_j47   hE hK
theorem ok_X11_tray_j0 {Q : Option AV → AH → Prop}  {σ : SS}  {x1 : Int32} {x2 : Int32} {x3 : Int32} {o}    (hE : X11_tray_j0  σ  x1 x2 x3 = some o) (hK : Q (some (vi o.1)) (hp o.2)) : Ws 5 mi_X11_tray Q 0 [some (vr 10 0), some (vi x1), some (vi x2), some (vi x3)] [] σ := by
  unfold X11_tray_j0 at hE
  refine Wp.aload_n dc_X11_tray_0 rfl ?_
  refine Wp.aload_n dc_X11_tray_1 rfl ?_
  refine Wp.sgetR (t := 0) dc_X11_tray_2 fw_X11_10 (mO10 (by decide)) rfl ?_
  refine Wp.iload_n dc_X11_tray_5 rfl ?_
  obtain ⟨v6, h6, hE⟩ := bnd hE
  refine Wp.cV1i (ok_X6_isNumber  h6) dc_X11_tray_6 mw_X11_87 (mO5 (by decide)) (by decide) (Nat.le_of_ble_eq_true rfl) ?_
  refine Wp.if_eq (tgt := 23) dc_X11_tray_9 (by decide) (fun hc9 => ?_) (fun hc9 => ?_)
  · rw [if_pos hc9] at hE
    exact ok_X11_tray_j23   hE hK
  · rw [if_neg hc9] at hE
    refine Wp.aload_n dc_X11_tray_12 rfl ?_
    refine Wp.sgetR (t := 0) dc_X11_tray_13 fw_X11_10 (mO10 (by decide)) rfl ?_
    refine Wp.iload_n dc_X11_tray_16 rfl ?_
    obtain ⟨v17, h17, hE⟩ := bnd hE
    refine Wp.cV1i (ok_X6_isSort  h17) dc_X11_tray_17 mw_X11_91 (mO5 (by decide)) (by decide) (Nat.le_of_ble_eq_true rfl) ?_
    refine Wp.if_ne (tgt := 27) dc_X11_tray_20 (by decide) (fun hc20 => ?_) (fun hc20 => ?_)
    · rw [if_neg hc20] at hE
      refine Wp.iload_n dc_X11_tray_27 rfl ?_
      refine Wp.bipush dc_X11_tray_28 bp_60 ?_
      refine Wp.icmp_le (tgt := 37) dc_X11_tray_30 (by decide) (fun hc30 => ?_) (fun hc30 => ?_)
      · rw [if_pos hc30] at hE
        refine Wp.iload_n dc_X11_tray_37 rfl ?_
        refine Wp.if_ge (tgt := 46) dc_X11_tray_38 (by decide) (fun hc38 => ?_) (fun hc38 => ?_)
        · rw [if_pos hc38] at hE
          refine Wp.iconst dc_X11_tray_46 ic_0 ?_
          exact ok_X11_tray_j47   hE hK
        · rw [if_neg hc38] at hE
          refine Wp.bipush dc_X11_tray_41 bp_6 ?_
          refine Wp.goto (tgt := 47) dc_X11_tray_43 (by decide) ?_
          exact ok_X11_tray_j47   hE hK
      · rw [if_neg hc30] at hE
        refine Wp.iconst dc_X11_tray_33 ic_5 ?_
        refine Wp.goto (tgt := 47) dc_X11_tray_34 (by decide) ?_
        exact ok_X11_tray_j47   hE hK
    · rw [if_pos hc20] at hE
      exact ok_X11_tray_j23   hE hK
theorem ok_X11_tray  {σ : SS}  {x1 : Int32} {x2 : Int32} {x3 : Int32} {o}   (hE : X11_tray  σ  x1 x2 x3 = some o) : Runs 5 0 0 mi_X11_tray [vr 10 0, vi x1, vi x2, vi x3] (hp σ) (fun v h => v = some (vi o.1) ∧ h = hp o.2) := by
  refine Runs.of pn_X11 (Nat.le_of_ble_eq_true rfl) ?_
  exact ok_X11_tray_j0   hE ⟨rfl, rfl⟩
theorem ok_X11_placeStatus_j0 {Q : Option AV → AH → Prop}  {σ : SS}  {x1 : Int32} {x2 : Int32} {o}    (hE : X11_placeStatus_j0  σ  x1 x2 = some o) (hK : Q (some (vi o)) (hp σ)) : Ws 2 mi_X11_placeStatus Q 0 [some (vr 10 0), some (vi x1), some (vi x2)] [] σ := by
  unfold X11_placeStatus_j0 at hE
  refine Wp.aload_n dc_X11_placeStatus_0 rfl ?_
  refine Wp.sgetR (t := 0) dc_X11_placeStatus_1 fw_X11_10 (mO10 (by decide)) rfl ?_
  refine Wp.iload_n dc_X11_placeStatus_4 rfl ?_
  obtain ⟨v5, h5, hE⟩ := bnd hE
  refine Wp.cV1i (ok_X6_isNumber  h5) dc_X11_placeStatus_5 mw_X11_87 (mO5 (by decide)) (by decide) (Nat.le_of_ble_eq_true rfl) ?_
  refine Wp.if_ne (tgt := 15) dc_X11_placeStatus_8 (by decide) (fun hc8 => ?_) (fun hc8 => ?_)
  · rw [if_neg hc8] at hE
    refine Wp.aload_n dc_X11_placeStatus_15 rfl ?_
    refine Wp.sgetR (t := 0) dc_X11_placeStatus_16 fw_X11_10 (mO10 (by decide)) rfl ?_
    refine Wp.iload_n dc_X11_placeStatus_19 rfl ?_
    obtain ⟨v20, h20, hE⟩ := bnd hE
    refine Wp.cV1i (ok_X6_isThere  h20) dc_X11_placeStatus_20 mw_X11_115 (mO5 (by decide)) (by decide) (Nat.le_of_ble_eq_true rfl) ?_
    refine Wp.if_ne (tgt := 30) dc_X11_placeStatus_23 (by decide) (fun hc23 => ?_) (fun hc23 => ?_)
    · rw [if_neg hc23] at hE
      refine Wp.aload_n dc_X11_placeStatus_30 rfl ?_
      refine Wp.sgetR (t := 0) dc_X11_placeStatus_31 fw_X11_10 (mO10 (by decide)) rfl ?_
      refine Wp.iload_n dc_X11_placeStatus_34 rfl ?_
      refine Wp.iload_n dc_X11_placeStatus_35 rfl ?_
      refine Wp.iconst dc_X11_placeStatus_36 ic_1 ?_
      obtain ⟨v37, h37, hE⟩ := bnd hE
      refine Wp.cV3i (ok_X6_holds  h37) dc_X11_placeStatus_37 mw_X11_122 (mO5 (by decide)) (by decide) (Nat.le_of_ble_eq_true rfl) ?_
      refine Wp.if_eq (tgt := 47) dc_X11_placeStatus_40 (by decide) (fun hc40 => ?_) (fun hc40 => ?_)
      · rw [if_pos hc40] at hE
        refine Wp.iconst dc_X11_placeStatus_47 ic_4 ?_
        cases hE
        exact Wp.ireturn dc_X11_placeStatus_48 rfl rfl (Nat.le_refl _) (Nat.le_refl _) hK
      · rw [if_neg hc40] at hE
        refine Wp.iconst dc_X11_placeStatus_43 ic_0 ?_
        refine Wp.goto (tgt := 48) dc_X11_placeStatus_44 (by decide) ?_
        cases hE
        exact Wp.ireturn dc_X11_placeStatus_48 rfl rfl (Nat.le_refl _) (Nat.le_refl _) hK
    · rw [if_pos hc23] at hE
      refine Wp.iconst dc_X11_placeStatus_26 ic_3 ?_
      refine Wp.goto (tgt := 48) dc_X11_placeStatus_27 (by decide) ?_
      cases hE
      exact Wp.ireturn dc_X11_placeStatus_48 rfl rfl (Nat.le_refl _) (Nat.le_refl _) hK
  · rw [if_pos hc8] at hE
    refine Wp.iconst dc_X11_placeStatus_11 ic_1 ?_
    refine Wp.goto (tgt := 48) dc_X11_placeStatus_12 (by decide) ?_
    cases hE
    exact Wp.ireturn dc_X11_placeStatus_48 rfl rfl (Nat.le_refl _) (Nat.le_refl _) hK
theorem ok_X11_placeStatus  {σ : SS}  {x1 : Int32} {x2 : Int32} {o}   (hE : X11_placeStatus  σ  x1 x2 = some o) : Runs 2 0 0 mi_X11_placeStatus [vr 10 0, vi x1, vi x2] (hp σ) (fun v h => v = some (vi o) ∧ h = hp σ) := by
  refine Runs.of pn_X11 (Nat.le_of_ble_eq_true rfl) ?_
  exact ok_X11_placeStatus_j0   hE ⟨rfl, rfl⟩
theorem ok_X11_write_j0 {Q : Option AV → AH → Prop}  {σ : SS}  {x1 : Int32} {x2 : Int32} {y3 : Int64} {o}    (hE : X11_write_j0  σ  x1 x2 y3 = some o) (hK : Q (some (vi o.1)) (hp o.2)) : Ws 4 mi_X11_write Q 0 [some (vr 10 0), some (vi x1), some (vi x2), some (vl y3), none] [] σ := by
  unfold X11_write_j0 at hE
  refine Wp.aload_n dc_X11_write_0 rfl ?_
  refine Wp.aload_n dc_X11_write_1 rfl ?_
  refine Wp.iload_n dc_X11_write_2 rfl ?_
  refine Wp.iload_n dc_X11_write_3 rfl ?_
  obtain ⟨v4, h4, hE⟩ := bnd hE
  refine Wp.cV2i (ok_X11_placeStatus  h4) dc_X11_write_4 mw_X11_101 (mO10 (by decide)) (by decide) (Nat.le_of_ble_eq_true rfl) ?_
  obtain ⟨p7, h7, hE⟩ := bnd hE
  refine Wp.cV1i (ok_X11_answers  h7) dc_X11_write_7 mw_X11_94 (mO10 (by decide)) (by decide) (Nat.le_of_ble_eq_true rfl) ?_
  refine Wp.if_eq (tgt := 30) dc_X11_write_10 (by decide) (fun hc10 => ?_) (fun hc10 => ?_)
  · rw [if_pos hc10] at hE
    refine Wp.iconst dc_X11_write_30 ic_0 ?_
    cases hE
    exact Wp.ireturn dc_X11_write_31 rfl Nr.z0.1 (Nat.le_refl _) (Nat.le_refl _) hK
  · rw [if_neg hc10] at hE
    refine Wp.aload_n dc_X11_write_13 rfl ?_
    refine Wp.sgetR (t := 0) dc_X11_write_14 fw_X11_10 (mO10 (by decide)) rfl ?_
    refine Wp.iload_n dc_X11_write_17 rfl ?_
    refine Wp.iload_n dc_X11_write_18 rfl ?_
    refine Wp.lload_n dc_X11_write_19 rfl ?_
    obtain ⟨p20, h20, hE⟩ := bnd hE
    refine Wp.cV3i (ok_X6_put  h20) dc_X11_write_20 mw_X11_105 (mO5 (by decide)) (by decide) (Nat.le_of_ble_eq_true rfl) ?_
    refine Wp.if_eq (tgt := 30) dc_X11_write_23 (by decide) (fun hc23 => ?_) (fun hc23 => ?_)
    · rw [if_pos hc23] at hE
      refine Wp.iconst dc_X11_write_30 ic_0 ?_
      cases hE
      exact Wp.ireturn dc_X11_write_31 rfl Nr.z0.1 (Nat.le_refl _) (Nat.le_refl _) hK
    · rw [if_neg hc23] at hE
      refine Wp.iconst dc_X11_write_26 ic_1 ?_
      refine Wp.goto (tgt := 31) dc_X11_write_27 (by decide) ?_
      cases hE
      exact Wp.ireturn dc_X11_write_31 rfl Nr.z1.1 (Nat.le_refl _) (Nat.le_refl _) hK
theorem ok_X11_write  {σ : SS}  {x1 : Int32} {x2 : Int32} {y3 : Int64} {o}   (hE : X11_write  σ  x1 x2 y3 = some o) : Runs 4 0 0 mi_X11_write [vr 10 0, vi x1, vi x2, vl y3] (hp σ) (fun v h => v = some (vi o.1) ∧ h = hp o.2) := by
  refine Runs.of pn_X11 (Nat.le_of_ble_eq_true rfl) ?_
  exact ok_X11_write_j0   hE ⟨rfl, rfl⟩
theorem ok_X11_read_j0 {Q : Option AV → AH → Prop}  {σ : SS}  {x1 : Int32} {x2 : Int32} {o}    (hE : X11_read_j0  σ  x1 x2 = some o) (hK : Q (some (vl o.1)) (hp o.2)) : Ws 4 mi_X11_read Q 0 [some (vr 10 0), some (vi x1), some (vi x2)] [] σ := by
  unfold X11_read_j0 at hE
  refine Wp.aload_n dc_X11_read_0 rfl ?_
  refine Wp.aload_n dc_X11_read_1 rfl ?_
  refine Wp.iload_n dc_X11_read_2 rfl ?_
  refine Wp.iload_n dc_X11_read_3 rfl ?_
  obtain ⟨v4, h4, hE⟩ := bnd hE
  refine Wp.cV2i (ok_X11_placeStatus  h4) dc_X11_read_4 mw_X11_101 (mO10 (by decide)) (by decide) (Nat.le_of_ble_eq_true rfl) ?_
  obtain ⟨p7, h7, hE⟩ := bnd hE
  refine Wp.cV1i (ok_X11_answers  h7) dc_X11_read_7 mw_X11_94 (mO10 (by decide)) (by decide) (Nat.le_of_ble_eq_true rfl) ?_
  refine Wp.if_eq (tgt := 25) dc_X11_read_10 (by decide) (fun hc10 => ?_) (fun hc10 => ?_)
  · rw [if_pos hc10] at hE
    refine Wp.ldc2 dc_X11_read_25 kw_X11_113 ?_
    cases hE
    exact Wp.lreturn dc_X11_read_28 rfl (Nat.le_refl _) (Nat.le_refl _) hK
  · rw [if_neg hc10] at hE
    refine Wp.aload_n dc_X11_read_13 rfl ?_
    refine Wp.sgetR (t := 0) dc_X11_read_14 fw_X11_10 (mO10 (by decide)) rfl ?_
    refine Wp.iload_n dc_X11_read_17 rfl ?_
    refine Wp.iload_n dc_X11_read_18 rfl ?_
    obtain ⟨v19, h19, hE⟩ := bnd hE
    refine Wp.cV2l (ok_X6_at  h19) dc_X11_read_19 mw_X11_109 (mO5 (by decide)) (by decide) (Nat.le_of_ble_eq_true rfl) ?_
    refine Wp.goto (tgt := 28) dc_X11_read_22 (by decide) ?_
    cases hE
    exact Wp.lreturn dc_X11_read_28 rfl (Nat.le_refl _) (Nat.le_refl _) hK
theorem ok_X11_read  {σ : SS}  {x1 : Int32} {x2 : Int32} {o}   (hE : X11_read  σ  x1 x2 = some o) : Runs 4 0 0 mi_X11_read [vr 10 0, vi x1, vi x2] (hp σ) (fun v h => v = some (vl o.1) ∧ h = hp o.2) := by
  refine Runs.of pn_X11 (Nat.le_of_ble_eq_true rfl) ?_
  exact ok_X11_read_j0   hE ⟨rfl, rfl⟩
theorem ok_X11_pour_j114 {Q : Option AV → AH → Prop}  {σ : SS}  {x1 : Int32} {x2 : Int32} {x3 : Int32} {x4 : Int32} {x5 : Int32} {s1 : Int32} {o}    (hE : X11_pour_j114  σ  x1 x2 x3 x4 x5 s1 = some o) (hK : Q (some (vi o.1)) (hp o.2)) : Ws 5 mi_X11_pour Q 114 [some (vr 10 0), some (vi x1), some (vi x2), some (vi x3), some (vi x4), some (vi x5)] [vi s1, vr 10 0] σ := by
  unfold X11_pour_j114 at hE
  obtain ⟨p114, h114, hE⟩ := bnd hE
  refine Wp.cV1i (ok_X11_answers  h114) dc_X11_pour_114 mw_X11_94 (mO10 (by decide)) (by decide) (Nat.le_of_ble_eq_true rfl) ?_
  refine Wp.if_eq (tgt := 141) dc_X11_pour_117 (by decide) (fun hc117 => ?_) (fun hc117 => ?_)
  · rw [if_pos hc117] at hE
    refine Wp.iconst dc_X11_pour_141 ic_0 ?_
    cases hE
    exact Wp.ireturn dc_X11_pour_142 rfl Nr.z0.1 (Nat.le_refl _) (Nat.le_refl _) hK
  · rw [if_neg hc117] at hE
    refine Wp.aload_n dc_X11_pour_120 rfl ?_
    refine Wp.sgetR (t := 0) dc_X11_pour_121 fw_X11_10 (mO10 (by decide)) rfl ?_
    refine Wp.iload_n dc_X11_pour_124 rfl ?_
    refine Wp.iload_n dc_X11_pour_125 rfl ?_
    refine Wp.iload_n dc_X11_pour_126 rfl ?_
    refine Wp.iload dc_X11_pour_127 rfl ?_
    refine Wp.iload dc_X11_pour_129 rfl ?_
    obtain ⟨p131, h131, hE⟩ := bnd hE
    refine Wp.cV5i (ok_X6_move  h131) dc_X11_pour_131 mw_X11_125 (mO5 (by decide)) (by decide) (Nat.le_of_ble_eq_true rfl) ?_
    refine Wp.if_eq (tgt := 141) dc_X11_pour_134 (by decide) (fun hc134 => ?_) (fun hc134 => ?_)
    · rw [if_pos hc134] at hE
      refine Wp.iconst dc_X11_pour_141 ic_0 ?_
      cases hE
      exact Wp.ireturn dc_X11_pour_142 rfl Nr.z0.1 (Nat.le_refl _) (Nat.le_refl _) hK
    · rw [if_neg hc134] at hE
      refine Wp.iconst dc_X11_pour_137 ic_1 ?_
      refine Wp.goto (tgt := 142) dc_X11_pour_138 (by decide) ?_
      cases hE
      exact Wp.ireturn dc_X11_pour_142 rfl Nr.z1.1 (Nat.le_refl _) (Nat.le_refl _) hK
theorem ok_X11_pour_j23 {Q : Option AV → AH → Prop}  {σ : SS}  {x1 : Int32} {x2 : Int32} {x3 : Int32} {x4 : Int32} {x5 : Int32} {o}    (hE : X11_pour_j23  σ  x1 x2 x3 x4 x5 = some o) (hK : Q (some (vi o.1)) (hp o.2)) : Ws 5 mi_X11_pour Q 23 [some (vr 10 0), some (vi x1), some (vi x2), some (vi x3), some (vi x4), some (vi x5)] [vr 10 0] σ := by
  unfold X11_pour_j23 at hE
  refine Wp.iconst dc_X11_pour_23 ic_1 ?_
  refine Wp.goto (tgt := 114) dc_X11_pour_24 (by decide) ?_
  exact ok_X11_pour_j114   hE hK
theorem ok_X11_pour_j49 {Q : Option AV → AH → Prop}  {σ : SS}  {x1 : Int32} {x2 : Int32} {x3 : Int32} {x4 : Int32} {x5 : Int32} {o}    (hE : X11_pour_j49  σ  x1 x2 x3 x4 x5 = some o) (hK : Q (some (vi o.1)) (hp o.2)) : Ws 5 mi_X11_pour Q 49 [some (vr 10 0), some (vi x1), some (vi x2), some (vi x3), some (vi x4), some (vi x5)] [vr 10 0] σ := by
  unfold X11_pour_j49 at hE
  refine Wp.iconst dc_X11_pour_49 ic_3 ?_
  refine Wp.goto (tgt := 114) dc_X11_pour_50 (by decide) ?_
  exact ok_X11_pour_j114   hE hK
theorem ok_X11_pour_j109 {Q : Option AV → AH → Prop}  {σ : SS}  {x1 : Int32} {x2 : Int32} {x3 : Int32} {x4 : Int32} {x5 : Int32} {o}    (hE : X11_pour_j109  σ  x1 x2 x3 x4 x5 = some o) (hK : Q (some (vi o.1)) (hp o.2)) : Ws 5 mi_X11_pour Q 109 [some (vr 10 0), some (vi x1), some (vi x2), some (vi x3), some (vi x4), some (vi x5)] [vr 10 0] σ := by
  unfold X11_pour_j109 at hE
  refine Wp.iconst dc_X11_pour_109 ic_4 ?_
  refine Wp.goto (tgt := 114) dc_X11_pour_110 (by decide) ?_
  exact ok_X11_pour_j114   hE hK
theorem ok_X11_pour_j0 {Q : Option AV → AH → Prop}  {σ : SS}  {x1 : Int32} {x2 : Int32} {x3 : Int32} {x4 : Int32} {x5 : Int32} {o}    (hE : X11_pour_j0  σ  x1 x2 x3 x4 x5 = some o) (hK : Q (some (vi o.1)) (hp o.2)) : Ws 5 mi_X11_pour Q 0 [some (vr 10 0), some (vi x1), some (vi x2), some (vi x3), some (vi x4), some (vi x5)] [] σ := by
  unfold X11_pour_j0 at hE
  refine Wp.aload_n dc_X11_pour_0 rfl ?_
  refine Wp.aload_n dc_X11_pour_1 rfl ?_
  refine Wp.sgetR (t := 0) dc_X11_pour_2 fw_X11_10 (mO10 (by decide)) rfl ?_
  refine Wp.iload_n dc_X11_pour_5 rfl ?_
  obtain ⟨v6, h6, hE⟩ := bnd hE
  refine Wp.cV1i (ok_X6_isNumber  h6) dc_X11_pour_6 mw_X11_87 (mO5 (by decide)) (by decide) (Nat.le_of_ble_eq_true rfl) ?_
  refine Wp.if_eq (tgt := 23) dc_X11_pour_9 (by decide) (fun hc9 => ?_) (fun hc9 => ?_)
  · rw [if_pos hc9] at hE
    exact ok_X11_pour_j23   hE hK
  · rw [if_neg hc9] at hE
    refine Wp.aload_n dc_X11_pour_12 rfl ?_
    refine Wp.sgetR (t := 0) dc_X11_pour_13 fw_X11_10 (mO10 (by decide)) rfl ?_
    refine Wp.iload_n dc_X11_pour_16 rfl ?_
    obtain ⟨v17, h17, hE⟩ := bnd hE
    refine Wp.cV1i (ok_X6_isNumber  h17) dc_X11_pour_17 mw_X11_87 (mO5 (by decide)) (by decide) (Nat.le_of_ble_eq_true rfl) ?_
    refine Wp.if_ne (tgt := 27) dc_X11_pour_20 (by decide) (fun hc20 => ?_) (fun hc20 => ?_)
    · rw [if_neg hc20] at hE
      refine Wp.aload_n dc_X11_pour_27 rfl ?_
      refine Wp.sgetR (t := 0) dc_X11_pour_28 fw_X11_10 (mO10 (by decide)) rfl ?_
      refine Wp.iload_n dc_X11_pour_31 rfl ?_
      obtain ⟨v32, h32, hE⟩ := bnd hE
      refine Wp.cV1i (ok_X6_isThere  h32) dc_X11_pour_32 mw_X11_115 (mO5 (by decide)) (by decide) (Nat.le_of_ble_eq_true rfl) ?_
      refine Wp.if_eq (tgt := 49) dc_X11_pour_35 (by decide) (fun hc35 => ?_) (fun hc35 => ?_)
      · rw [if_pos hc35] at hE
        exact ok_X11_pour_j49   hE hK
      · rw [if_neg hc35] at hE
        refine Wp.aload_n dc_X11_pour_38 rfl ?_
        refine Wp.sgetR (t := 0) dc_X11_pour_39 fw_X11_10 (mO10 (by decide)) rfl ?_
        refine Wp.iload_n dc_X11_pour_42 rfl ?_
        obtain ⟨v43, h43, hE⟩ := bnd hE
        refine Wp.cV1i (ok_X6_isThere  h43) dc_X11_pour_43 mw_X11_115 (mO5 (by decide)) (by decide) (Nat.le_of_ble_eq_true rfl) ?_
        refine Wp.if_ne (tgt := 53) dc_X11_pour_46 (by decide) (fun hc46 => ?_) (fun hc46 => ?_)
        · rw [if_neg hc46] at hE
          refine Wp.aload_n dc_X11_pour_53 rfl ?_
          refine Wp.sgetR (t := 0) dc_X11_pour_54 fw_X11_10 (mO10 (by decide)) rfl ?_
          refine Wp.iload_n dc_X11_pour_57 rfl ?_
          refine Wp.iload_n dc_X11_pour_58 rfl ?_
          obtain ⟨v59, h59, hE⟩ := bnd hE
          refine Wp.cV2i (ok_X6_alike  h59) dc_X11_pour_59 mw_X11_118 (mO5 (by decide)) (by decide) (Nat.le_of_ble_eq_true rfl) ?_
          refine Wp.if_ne (tgt := 70) dc_X11_pour_62 (by decide) (fun hc62 => ?_) (fun hc62 => ?_)
          · rw [if_neg hc62] at hE
            refine Wp.iload dc_X11_pour_70 rfl ?_
            refine Wp.if_ge (tgt := 80) dc_X11_pour_72 (by decide) (fun hc72 => ?_) (fun hc72 => ?_)
            · rw [if_pos hc72] at hE
              refine Wp.aload_n dc_X11_pour_80 rfl ?_
              refine Wp.sgetR (t := 0) dc_X11_pour_81 fw_X11_10 (mO10 (by decide)) rfl ?_
              refine Wp.iload_n dc_X11_pour_84 rfl ?_
              refine Wp.iload_n dc_X11_pour_85 rfl ?_
              refine Wp.iload dc_X11_pour_86 rfl ?_
              obtain ⟨v88, h88, hE⟩ := bnd hE
              refine Wp.cV3i (ok_X6_holds  h88) dc_X11_pour_88 mw_X11_122 (mO5 (by decide)) (by decide) (Nat.le_of_ble_eq_true rfl) ?_
              refine Wp.if_eq (tgt := 109) dc_X11_pour_91 (by decide) (fun hc91 => ?_) (fun hc91 => ?_)
              · rw [if_pos hc91] at hE
                exact ok_X11_pour_j109   hE hK
              · rw [if_neg hc91] at hE
                refine Wp.aload_n dc_X11_pour_94 rfl ?_
                refine Wp.sgetR (t := 0) dc_X11_pour_95 fw_X11_10 (mO10 (by decide)) rfl ?_
                refine Wp.iload_n dc_X11_pour_98 rfl ?_
                refine Wp.iload dc_X11_pour_99 rfl ?_
                refine Wp.iload dc_X11_pour_101 rfl ?_
                obtain ⟨v103, h103, hE⟩ := bnd hE
                refine Wp.cV3i (ok_X6_holds  h103) dc_X11_pour_103 mw_X11_122 (mO5 (by decide)) (by decide) (Nat.le_of_ble_eq_true rfl) ?_
                refine Wp.if_ne (tgt := 113) dc_X11_pour_106 (by decide) (fun hc106 => ?_) (fun hc106 => ?_)
                · rw [if_neg hc106] at hE
                  refine Wp.iconst dc_X11_pour_113 ic_0 ?_
                  exact ok_X11_pour_j114   hE hK
                · rw [if_pos hc106] at hE
                  exact ok_X11_pour_j109   hE hK
            · rw [if_neg hc72] at hE
              refine Wp.bipush dc_X11_pour_75 bp_6 ?_
              refine Wp.goto (tgt := 114) dc_X11_pour_77 (by decide) ?_
              exact ok_X11_pour_j114   hE hK
          · rw [if_pos hc62] at hE
            refine Wp.bipush dc_X11_pour_65 bp_11 ?_
            refine Wp.goto (tgt := 114) dc_X11_pour_67 (by decide) ?_
            exact ok_X11_pour_j114   hE hK
        · rw [if_pos hc46] at hE
          exact ok_X11_pour_j49   hE hK
    · rw [if_pos hc20] at hE
      exact ok_X11_pour_j23   hE hK
theorem ok_X11_pour  {σ : SS}  {x1 : Int32} {x2 : Int32} {x3 : Int32} {x4 : Int32} {x5 : Int32} {o}   (hE : X11_pour  σ  x1 x2 x3 x4 x5 = some o) : Runs 5 0 0 mi_X11_pour [vr 10 0, vi x1, vi x2, vi x3, vi x4, vi x5] (hp σ) (fun v h => v = some (vi o.1) ∧ h = hp o.2) := by
  refine Runs.of pn_X11 (Nat.le_of_ble_eq_true rfl) ?_
  exact ok_X11_pour_j0   hE ⟨rfl, rfl⟩
theorem ok_X11_feed_j0 {Q : Option AV → AH → Prop}  {σ : SS}  {x1 : Int32} {x2 : Int32} {x3 : Int32} {x4 : Int32} {x5 : Int32} {o}    (hE : X11_feed_j0  σ  x1 x2 x3 x4 x5 = some o) (hK : Q (some (vi o.1)) (hp o.2)) : Ws 1 mi_X11_feed Q 0 [some (vr 10 0), some (vi x1), some (vi x2), some (vi x3), some (vi x4), some (vi x5)] [] σ := by
  unfold X11_feed_j0 at hE
  refine Wp.aload_n dc_X11_feed_0 rfl ?_
  refine Wp.sgetR (t := 0) dc_X11_feed_1 fw_X11_19 (mO10 (by decide)) rfl ?_
  obtain ⟨v4, h4, hE⟩ := bnd hE
  refine Wp.cV0i (ok_X5_hasRoom  h4) dc_X11_feed_4 mw_X11_129 (mO4 (by decide)) (by decide) (Nat.le_of_ble_eq_true rfl) ?_
  refine Wp.if_ne (tgt := 12) dc_X11_feed_7 (by decide) (fun hc7 => ?_) (fun hc7 => ?_)
  · rw [if_neg hc7] at hE
    refine Wp.aload_n dc_X11_feed_12 rfl ?_
    refine Wp.sgetR (t := 0) dc_X11_feed_13 fw_X11_19 (mO10 (by decide)) rfl ?_
    refine Wp.iload_n dc_X11_feed_16 rfl ?_
    obtain ⟨p17, h17, hE⟩ := bnd hE
    refine Wp.cV1i (ok_X5_append  h17) dc_X11_feed_17 mw_X11_133 (mO4 (by decide)) (by decide) (Nat.le_of_ble_eq_true rfl) ?_
    refine Wp.pop dc_X11_feed_20 rfl ?_
    refine Wp.aload_n dc_X11_feed_21 rfl ?_
    refine Wp.sgetR (t := 0) dc_X11_feed_22 fw_X11_19 (mO10 (by decide)) rfl ?_
    refine Wp.iload_n dc_X11_feed_25 rfl ?_
    obtain ⟨p26, h26, hE⟩ := bnd hE
    refine Wp.cV1i (ok_X5_append  h26) dc_X11_feed_26 mw_X11_133 (mO4 (by decide)) (by decide) (Nat.le_of_ble_eq_true rfl) ?_
    refine Wp.pop dc_X11_feed_29 rfl ?_
    refine Wp.aload_n dc_X11_feed_30 rfl ?_
    refine Wp.sgetR (t := 0) dc_X11_feed_31 fw_X11_19 (mO10 (by decide)) rfl ?_
    refine Wp.iload_n dc_X11_feed_34 rfl ?_
    obtain ⟨p35, h35, hE⟩ := bnd hE
    refine Wp.cV1i (ok_X5_append  h35) dc_X11_feed_35 mw_X11_133 (mO4 (by decide)) (by decide) (Nat.le_of_ble_eq_true rfl) ?_
    refine Wp.pop dc_X11_feed_38 rfl ?_
    refine Wp.aload_n dc_X11_feed_39 rfl ?_
    refine Wp.sgetR (t := 0) dc_X11_feed_40 fw_X11_19 (mO10 (by decide)) rfl ?_
    refine Wp.iload dc_X11_feed_43 rfl ?_
    obtain ⟨p45, h45, hE⟩ := bnd hE
    refine Wp.cV1i (ok_X5_append  h45) dc_X11_feed_45 mw_X11_133 (mO4 (by decide)) (by decide) (Nat.le_of_ble_eq_true rfl) ?_
    refine Wp.pop dc_X11_feed_48 rfl ?_
    refine Wp.aload_n dc_X11_feed_49 rfl ?_
    refine Wp.sgetR (t := 0) dc_X11_feed_50 fw_X11_19 (mO10 (by decide)) rfl ?_
    refine Wp.iload dc_X11_feed_53 rfl ?_
    obtain ⟨p55, h55, hE⟩ := bnd hE
    refine Wp.cV1i (ok_X5_append  h55) dc_X11_feed_55 mw_X11_133 (mO4 (by decide)) (by decide) (Nat.le_of_ble_eq_true rfl) ?_
    cases hE
    exact Wp.ireturn dc_X11_feed_58 rfl rfl (Nat.le_refl _) (Nat.le_refl _) hK
  · rw [if_pos hc7] at hE
    refine Wp.iconst dc_X11_feed_10 ic_m1 ?_
    cases hE
    exact Wp.ireturn dc_X11_feed_11 rfl rfl (Nat.le_refl _) (Nat.le_refl _) hK
theorem ok_X11_feed  {σ : SS}  {x1 : Int32} {x2 : Int32} {x3 : Int32} {x4 : Int32} {x5 : Int32} {o}   (hE : X11_feed  σ  x1 x2 x3 x4 x5 = some o) : Runs 1 0 0 mi_X11_feed [vr 10 0, vi x1, vi x2, vi x3, vi x4, vi x5] (hp σ) (fun v h => v = some (vi o.1) ∧ h = hp o.2) := by
  refine Runs.of pn_X11 (Nat.le_of_ble_eq_true rfl) ?_
  exact ok_X11_feed_j0   hE ⟨rfl, rfl⟩
theorem ok_X11_drawer_j58 {Q : Option AV → AH → Prop}  {σ : SS}  {s1 : Int32} {o} {z1 : Option AV}   (hE : X11_drawer_j58  σ  s1 = some o) (hK : Q (some (vi o.1)) (hp o.2)) : Ws 12 mi_X11_drawer Q 58 [some (vr 10 0), z1] [vi s1, vr 10 0] σ := by
  unfold X11_drawer_j58 at hE
  obtain ⟨p58, h58, hE⟩ := bnd hE
  refine Wp.cV1i (ok_X11_answers  h58) dc_X11_drawer_58 mw_X11_94 (mO10 (by decide)) (by decide) (Nat.le_of_ble_eq_true rfl) ?_
  refine Wp.if_ne (tgt := 66) dc_X11_drawer_61 (by decide) (fun hc61 => ?_) (fun hc61 => ?_)
  · rw [if_neg hc61] at hE
    refine Wp.aload_n dc_X11_drawer_66 rfl ?_
    refine Wp.sgetR (t := 0) dc_X11_drawer_67 fw_X11_42 (mO10 (by decide)) rfl ?_
    refine Wp.aload_n dc_X11_drawer_70 rfl ?_
    refine Wp.sgetR (t := 1) dc_X11_drawer_71 fw_X11_46 (mO10 (by decide)) rfl ?_
    obtain ⟨σ74, h74, hE⟩ := bnd hE
    refine Wp.cV1v (ok_X0_takeOver (by decide) (by decide) h74) dc_X11_drawer_74 mw_X11_149 (mO0 (by decide)) (by decide) (Nat.le_of_ble_eq_true rfl) ?_
    refine Wp.aload_n dc_X11_drawer_77 rfl ?_
    refine Wp.sgetR (t := 0) dc_X11_drawer_78 fw_X11_42 (mO10 (by decide)) rfl ?_
    obtain ⟨v81, h81, hE⟩ := bnd hE
    refine Wp.cV0i (ok_X0_leadCount (by decide) h81) dc_X11_drawer_81 mw_X11_153 (mO0 (by decide)) (by decide) (Nat.le_of_ble_eq_true rfl) ?_
    cases hE
    exact Wp.ireturn dc_X11_drawer_84 rfl rfl (Nat.le_refl _) (Nat.le_refl _) hK
  · rw [if_pos hc61] at hE
    refine Wp.iconst dc_X11_drawer_64 ic_m1 ?_
    cases hE
    exact Wp.ireturn dc_X11_drawer_65 rfl rfl (Nat.le_refl _) (Nat.le_refl _) hK
theorem ok_X11_drawer_j21 {Q : Option AV → AH → Prop}  {σ : SS}  {x1 : Int32} {s1 : Int32} {o}    (hE : X11_drawer_j21  σ  x1 s1 = some o) (hK : Q (some (vi o.1)) (hp o.2)) : Ws 12 mi_X11_drawer Q 21 [some (vr 10 0), some (vi x1)] [vi s1, vr 10 0] σ := by
  unfold X11_drawer_j21 at hE
  obtain ⟨p21, h21, hE⟩ := bnd hE
  refine Wp.cV1i (ok_X11_answers  h21) dc_X11_drawer_21 mw_X11_94 (mO10 (by decide)) (by decide) (Nat.le_of_ble_eq_true rfl) ?_
  refine Wp.if_ne (tgt := 29) dc_X11_drawer_24 (by decide) (fun hc24 => ?_) (fun hc24 => ?_)
  · rw [if_neg hc24] at hE
    refine Wp.aload_n dc_X11_drawer_29 rfl ?_
    refine Wp.sgetR (t := 0) dc_X11_drawer_30 fw_X11_19 (mO10 (by decide)) rfl ?_
    refine Wp.iload_n dc_X11_drawer_33 rfl ?_
    obtain ⟨σ34, h34, hE⟩ := bnd hE
    refine Wp.cV1v (ok_X5_begin  h34) dc_X11_drawer_34 mw_X11_141 (mO4 (by decide)) (by decide) (Nat.le_of_ble_eq_true rfl) ?_
    refine Wp.aload_n dc_X11_drawer_37 rfl ?_
    refine Wp.aload_n dc_X11_drawer_38 rfl ?_
    refine Wp.sgetR (t := 0) dc_X11_drawer_39 fw_X11_28 (mO10 (by decide)) rfl ?_
    refine Wp.aload_n dc_X11_drawer_42 rfl ?_
    refine Wp.sgetR (t := 1) dc_X11_drawer_43 fw_X11_46 (mO10 (by decide)) rfl ?_
    obtain ⟨p46, h46, hE⟩ := bnd hE
    refine Wp.cV1i (ok_X1_isGood (by decide) h46) dc_X11_drawer_46 mw_X11_145 (mO1 (by decide)) (by decide) (Nat.le_of_ble_eq_true rfl) ?_
    refine Wp.if_eq (tgt := 56) dc_X11_drawer_49 (by decide) (fun hc49 => ?_) (fun hc49 => ?_)
    · rw [if_pos hc49] at hE
      refine Wp.bipush dc_X11_drawer_56 bp_10 ?_
      exact ok_X11_drawer_j58   hE hK
    · rw [if_neg hc49] at hE
      refine Wp.iconst dc_X11_drawer_52 ic_0 ?_
      refine Wp.goto (tgt := 58) dc_X11_drawer_53 (by decide) ?_
      exact ok_X11_drawer_j58   hE hK
  · rw [if_pos hc24] at hE
    refine Wp.iconst dc_X11_drawer_27 ic_m1 ?_
    cases hE
    exact Wp.ireturn dc_X11_drawer_28 rfl rfl (Nat.le_refl _) (Nat.le_refl _) hK
theorem ok_X11_drawer_j16 {Q : Option AV → AH → Prop}  {σ : SS}  {x1 : Int32} {o}    (hE : X11_drawer_j16  σ  x1 = some o) (hK : Q (some (vi o.1)) (hp o.2)) : Ws 12 mi_X11_drawer Q 16 [some (vr 10 0), some (vi x1)] [vr 10 0] σ := by
  unfold X11_drawer_j16 at hE
  refine Wp.iconst dc_X11_drawer_16 ic_5 ?_
  refine Wp.goto (tgt := 21) dc_X11_drawer_17 (by decide) ?_
  exact ok_X11_drawer_j21   hE hK
theorem ok_X11_drawer_j0 {Q : Option AV → AH → Prop}  {σ : SS}  {x1 : Int32} {o}    (hE : X11_drawer_j0  σ  x1 = some o) (hK : Q (some (vi o.1)) (hp o.2)) : Ws 12 mi_X11_drawer Q 0 [some (vr 10 0), some (vi x1)] [] σ := by
  unfold X11_drawer_j0 at hE
  refine Wp.aload_n dc_X11_drawer_0 rfl ?_
  refine Wp.iload_n dc_X11_drawer_1 rfl ?_
  refine Wp.if_lt (tgt := 16) dc_X11_drawer_2 (by decide) (fun hc2 => ?_) (fun hc2 => ?_)
  · rw [if_pos hc2] at hE
    exact ok_X11_drawer_j16   hE hK
  · rw [if_neg hc2] at hE
    refine Wp.iload_n dc_X11_drawer_5 rfl ?_
    refine Wp.aload_n dc_X11_drawer_6 rfl ?_
    refine Wp.sgetR (t := 0) dc_X11_drawer_7 fw_X11_19 (mO10 (by decide)) rfl ?_
    obtain ⟨v10, h10, hE⟩ := bnd hE
    refine Wp.cV0i (ok_X5_fed  h10) dc_X11_drawer_10 mw_X11_137 (mO4 (by decide)) (by decide) (Nat.le_of_ble_eq_true rfl) ?_
    refine Wp.icmp_le (tgt := 20) dc_X11_drawer_13 (by decide) (fun hc13 => ?_) (fun hc13 => ?_)
    · rw [if_pos hc13] at hE
      refine Wp.iconst dc_X11_drawer_20 ic_0 ?_
      exact ok_X11_drawer_j21   hE hK
    · rw [if_neg hc13] at hE
      exact ok_X11_drawer_j16   hE hK
theorem ok_X11_drawer  {σ : SS}  {x1 : Int32} {o}   (hE : X11_drawer  σ  x1 = some o) : Runs 12 0 0 mi_X11_drawer [vr 10 0, vi x1] (hp σ) (fun v h => v = some (vi o.1) ∧ h = hp o.2) := by
  refine Runs.of pn_X11 (Nat.le_of_ble_eq_true rfl) ?_
  exact ok_X11_drawer_j0   hE ⟨rfl, rfl⟩
theorem ok_X11_years_j72 {Q : Option AV → AH → Prop}  {σ : SS}  {s1 : Int32} {o} {z1 : Option AV}   (hE : X11_years_j72  σ  s1 = some o) (hK : Q (some (vi o.1)) (hp o.2)) : Ws 12 mi_X11_years Q 72 [some (vr 10 0), z1] [vi s1, vr 10 0] σ := by
  unfold X11_years_j72 at hE
  obtain ⟨p72, h72, hE⟩ := bnd hE
  refine Wp.cV1i (ok_X11_answers  h72) dc_X11_years_72 mw_X11_94 (mO10 (by decide)) (by decide) (Nat.le_of_ble_eq_true rfl) ?_
  refine Wp.if_ne (tgt := 80) dc_X11_years_75 (by decide) (fun hc75 => ?_) (fun hc75 => ?_)
  · rw [if_neg hc75] at hE
    refine Wp.aload_n dc_X11_years_80 rfl ?_
    refine Wp.sgetR (t := 0) dc_X11_years_81 fw_X11_42 (mO10 (by decide)) rfl ?_
    refine Wp.sgetR (t := 0) dc_X11_years_84 fw_X11_156 (mO0 (by decide)) rfl ?_
    refine Wp.aload_n dc_X11_years_87 rfl ?_
    refine Wp.sgetR (t := 1) dc_X11_years_88 fw_X11_46 (mO10 (by decide)) rfl ?_
    refine Wp.sgetR (t := 1) dc_X11_years_91 fw_X11_156 (mO0 (by decide)) rfl ?_
    obtain ⟨σ94, h94, hE⟩ := bnd hE
    refine Wp.cV1v (ok_X9_takeOver (by decide) (by decide) h94) dc_X11_years_94 mw_X11_163 (mO8 (by decide)) (by decide) (Nat.le_of_ble_eq_true rfl) ?_
    refine Wp.aload_n dc_X11_years_97 rfl ?_
    refine Wp.sgetR (t := 0) dc_X11_years_98 fw_X11_42 (mO10 (by decide)) rfl ?_
    refine Wp.sgetR (t := 0) dc_X11_years_101 fw_X11_156 (mO0 (by decide)) rfl ?_
    obtain ⟨v104, h104, hE⟩ := bnd hE
    refine Wp.cV0i (ok_X9_stepCount (by decide) h104) dc_X11_years_104 mw_X11_168 (mO8 (by decide)) (by decide) (Nat.le_of_ble_eq_true rfl) ?_
    cases hE
    exact Wp.ireturn dc_X11_years_107 rfl rfl (Nat.le_refl _) (Nat.le_refl _) hK
  · rw [if_pos hc75] at hE
    refine Wp.iconst dc_X11_years_78 ic_m1 ?_
    cases hE
    exact Wp.ireturn dc_X11_years_79 rfl rfl (Nat.le_refl _) (Nat.le_refl _) hK
theorem ok_X11_years_j28 {Q : Option AV → AH → Prop}  {σ : SS}  {x1 : Int32} {s1 : Int32} {o}    (hE : X11_years_j28  σ  x1 s1 = some o) (hK : Q (some (vi o.1)) (hp o.2)) : Ws 12 mi_X11_years Q 28 [some (vr 10 0), some (vi x1)] [vi s1, vr 10 0] σ := by
  unfold X11_years_j28 at hE
  obtain ⟨p28, h28, hE⟩ := bnd hE
  refine Wp.cV1i (ok_X11_answers  h28) dc_X11_years_28 mw_X11_94 (mO10 (by decide)) (by decide) (Nat.le_of_ble_eq_true rfl) ?_
  refine Wp.if_ne (tgt := 36) dc_X11_years_31 (by decide) (fun hc31 => ?_) (fun hc31 => ?_)
  · rw [if_neg hc31] at hE
    refine Wp.aload_n dc_X11_years_36 rfl ?_
    refine Wp.sgetR (t := 0) dc_X11_years_37 fw_X11_19 (mO10 (by decide)) rfl ?_
    refine Wp.iload_n dc_X11_years_40 rfl ?_
    obtain ⟨σ41, h41, hE⟩ := bnd hE
    refine Wp.cV1v (ok_X5_begin  h41) dc_X11_years_41 mw_X11_141 (mO4 (by decide)) (by decide) (Nat.le_of_ble_eq_true rfl) ?_
    refine Wp.aload_n dc_X11_years_44 rfl ?_
    refine Wp.aload_n dc_X11_years_45 rfl ?_
    refine Wp.sgetR (t := 0) dc_X11_years_46 fw_X11_35 (mO10 (by decide)) rfl ?_
    refine Wp.aload_n dc_X11_years_49 rfl ?_
    refine Wp.sgetR (t := 0) dc_X11_years_50 fw_X11_42 (mO10 (by decide)) rfl ?_
    refine Wp.aload_n dc_X11_years_53 rfl ?_
    refine Wp.sgetR (t := 1) dc_X11_years_54 fw_X11_46 (mO10 (by decide)) rfl ?_
    refine Wp.sgetR (t := 1) dc_X11_years_57 fw_X11_156 (mO0 (by decide)) rfl ?_
    obtain ⟨p60, h60, hE⟩ := bnd hE
    refine Wp.cV2i (ok_X10_isGood (by decide) (by decide) h60) dc_X11_years_60 mw_X11_160 (mO9 (by decide)) (by decide) (Nat.le_of_ble_eq_true rfl) ?_
    refine Wp.if_eq (tgt := 70) dc_X11_years_63 (by decide) (fun hc63 => ?_) (fun hc63 => ?_)
    · rw [if_pos hc63] at hE
      refine Wp.bipush dc_X11_years_70 bp_10 ?_
      exact ok_X11_years_j72   hE hK
    · rw [if_neg hc63] at hE
      refine Wp.iconst dc_X11_years_66 ic_0 ?_
      refine Wp.goto (tgt := 72) dc_X11_years_67 (by decide) ?_
      exact ok_X11_years_j72   hE hK
  · rw [if_pos hc31] at hE
    refine Wp.iconst dc_X11_years_34 ic_m1 ?_
    cases hE
    exact Wp.ireturn dc_X11_years_35 rfl rfl (Nat.le_refl _) (Nat.le_refl _) hK
theorem ok_X11_years_j23 {Q : Option AV → AH → Prop}  {σ : SS}  {x1 : Int32} {o}    (hE : X11_years_j23  σ  x1 = some o) (hK : Q (some (vi o.1)) (hp o.2)) : Ws 12 mi_X11_years Q 23 [some (vr 10 0), some (vi x1)] [vr 10 0] σ := by
  unfold X11_years_j23 at hE
  refine Wp.iconst dc_X11_years_23 ic_5 ?_
  refine Wp.goto (tgt := 28) dc_X11_years_24 (by decide) ?_
  exact ok_X11_years_j28   hE hK
theorem ok_X11_years_j0 {Q : Option AV → AH → Prop}  {σ : SS}  {x1 : Int32} {o}    (hE : X11_years_j0  σ  x1 = some o) (hK : Q (some (vi o.1)) (hp o.2)) : Ws 12 mi_X11_years Q 0 [some (vr 10 0), some (vi x1)] [] σ := by
  unfold X11_years_j0 at hE
  refine Wp.aload_n dc_X11_years_0 rfl ?_
  refine Wp.iload_n dc_X11_years_1 rfl ?_
  refine Wp.if_lt (tgt := 23) dc_X11_years_2 (by decide) (fun hc2 => ?_) (fun hc2 => ?_)
  · rw [if_pos hc2] at hE
    exact ok_X11_years_j23   hE hK
  · rw [if_neg hc2] at hE
    refine Wp.iload_n dc_X11_years_5 rfl ?_
    refine Wp.aload_n dc_X11_years_6 rfl ?_
    refine Wp.sgetR (t := 0) dc_X11_years_7 fw_X11_19 (mO10 (by decide)) rfl ?_
    obtain ⟨v10, h10, hE⟩ := bnd hE
    refine Wp.cV0i (ok_X5_fed  h10) dc_X11_years_10 mw_X11_137 (mO4 (by decide)) (by decide) (Nat.le_of_ble_eq_true rfl) ?_
    refine Wp.icmp_gt (tgt := 23) dc_X11_years_13 (by decide) (fun hc13 => ?_) (fun hc13 => ?_)
    · rw [if_pos hc13] at hE
      exact ok_X11_years_j23   hE hK
    · rw [if_neg hc13] at hE
      refine Wp.iload_n dc_X11_years_16 rfl ?_
      refine Wp.sipush dc_X11_years_17 sp_300 ?_
      refine Wp.icmp_le (tgt := 27) dc_X11_years_20 (by decide) (fun hc20 => ?_) (fun hc20 => ?_)
      · rw [if_pos hc20] at hE
        refine Wp.iconst dc_X11_years_27 ic_0 ?_
        exact ok_X11_years_j28   hE hK
      · rw [if_neg hc20] at hE
        exact ok_X11_years_j23   hE hK
theorem ok_X11_years  {σ : SS}  {x1 : Int32} {o}   (hE : X11_years  σ  x1 = some o) : Runs 12 0 0 mi_X11_years [vr 10 0, vi x1] (hp σ) (fun v h => v = some (vi o.1) ∧ h = hp o.2) := by
  refine Runs.of pn_X11 (Nat.le_of_ble_eq_true rfl) ?_
  exact ok_X11_years_j0   hE ⟨rfl, rfl⟩
theorem ok_X11_fault_j0 {Q : Option AV → AH → Prop}  {σ : SS}  {x1 : Int32} {o}    (hE : X11_fault_j0  σ  x1 = some o) (hK : Q (some (vi o)) (hp σ)) : Ws 1 mi_X11_fault Q 0 [some (vr 10 0), some (vi x1)] [] σ := by
  unfold X11_fault_j0 at hE
  refine Wp.iload_n dc_X11_fault_0 rfl ?_
  refine Wp.if_ne (tgt := 14) dc_X11_fault_1 (by decide) (fun hc1 => ?_) (fun hc1 => ?_)
  · rw [if_neg hc1] at hE
    refine Wp.iload_n dc_X11_fault_14 rfl ?_
    refine Wp.iconst dc_X11_fault_15 ic_1 ?_
    refine Wp.icmp_ne (tgt := 29) dc_X11_fault_16 (by decide) (fun hc16 => ?_) (fun hc16 => ?_)
    · rw [if_neg hc16] at hE
      refine Wp.iconst dc_X11_fault_29 ic_m1 ?_
      cases hE
      exact Wp.ireturn dc_X11_fault_30 rfl rfl (Nat.le_refl _) (Nat.le_refl _) hK
    · rw [if_pos hc16] at hE
      refine Wp.aload_n dc_X11_fault_19 rfl ?_
      refine Wp.sgetR (t := 0) dc_X11_fault_20 fw_X11_19 (mO10 (by decide)) rfl ?_
      obtain ⟨v23, h23, hE⟩ := bnd hE
      refine Wp.cV0i (ok_X5_faultPlace  h23) dc_X11_fault_23 mw_X11_174 (mO4 (by decide)) (by decide) (Nat.le_of_ble_eq_true rfl) ?_
      refine Wp.goto (tgt := 30) dc_X11_fault_26 (by decide) ?_
      cases hE
      exact Wp.ireturn dc_X11_fault_30 rfl rfl (Nat.le_refl _) (Nat.le_refl _) hK
  · rw [if_pos hc1] at hE
    refine Wp.aload_n dc_X11_fault_4 rfl ?_
    refine Wp.sgetR (t := 0) dc_X11_fault_5 fw_X11_19 (mO10 (by decide)) rfl ?_
    obtain ⟨v8, h8, hE⟩ := bnd hE
    refine Wp.cV0i (ok_X5_faultKind  h8) dc_X11_fault_8 mw_X11_171 (mO4 (by decide)) (by decide) (Nat.le_of_ble_eq_true rfl) ?_
    refine Wp.goto (tgt := 30) dc_X11_fault_11 (by decide) ?_
    cases hE
    exact Wp.ireturn dc_X11_fault_30 rfl rfl (Nat.le_refl _) (Nat.le_refl _) hK
theorem ok_X11_fault  {σ : SS}  {x1 : Int32} {o}   (hE : X11_fault  σ  x1 = some o) : Runs 1 0 0 mi_X11_fault [vr 10 0, vi x1] (hp σ) (fun v h => v = some (vi o) ∧ h = hp σ) := by
  refine Runs.of pn_X11 (Nat.le_of_ble_eq_true rfl) ?_
  exact ok_X11_fault_j0   hE ⟨rfl, rfl⟩
theorem ok_X11_many_j16 {Q : Option AV → AH → Prop}  {σ : SS}  {x1 : Int32} {s1 : Int32} {o}    (hE : X11_many_j16  σ  x1 s1 = some o) (hK : Q (some (vi o.1)) (hp o.2)) : Ws 1 mi_X11_many Q 16 [some (vr 10 0), some (vi x1)] [vi s1, vr 10 0] σ := by
  unfold X11_many_j16 at hE
  obtain ⟨p16, h16, hE⟩ := bnd hE
  refine Wp.cV1i (ok_X11_answers  h16) dc_X11_many_16 mw_X11_94 (mO10 (by decide)) (by decide) (Nat.le_of_ble_eq_true rfl) ?_
  refine Wp.if_eq (tgt := 33) dc_X11_many_19 (by decide) (fun hc19 => ?_) (fun hc19 => ?_)
  · rw [if_pos hc19] at hE
    refine Wp.iconst dc_X11_many_33 ic_m1 ?_
    cases hE
    exact Wp.ireturn dc_X11_many_34 rfl rfl (Nat.le_refl _) (Nat.le_refl _) hK
  · rw [if_neg hc19] at hE
    refine Wp.aload_n dc_X11_many_22 rfl ?_
    refine Wp.sgetR (t := 0) dc_X11_many_23 fw_X11_42 (mO10 (by decide)) rfl ?_
    refine Wp.iload_n dc_X11_many_26 rfl ?_
    obtain ⟨v27, h27, hE⟩ := bnd hE
    refine Wp.cV1i (ok_X0_total (by decide) h27) dc_X11_many_27 mw_X11_177 (mO0 (by decide)) (by decide) (Nat.le_of_ble_eq_true rfl) ?_
    refine Wp.goto (tgt := 34) dc_X11_many_30 (by decide) ?_
    cases hE
    exact Wp.ireturn dc_X11_many_34 rfl rfl (Nat.le_refl _) (Nat.le_refl _) hK
theorem ok_X11_many_j11 {Q : Option AV → AH → Prop}  {σ : SS}  {x1 : Int32} {o}    (hE : X11_many_j11  σ  x1 = some o) (hK : Q (some (vi o.1)) (hp o.2)) : Ws 1 mi_X11_many Q 11 [some (vr 10 0), some (vi x1)] [vr 10 0] σ := by
  unfold X11_many_j11 at hE
  refine Wp.iconst dc_X11_many_11 ic_5 ?_
  refine Wp.goto (tgt := 16) dc_X11_many_12 (by decide) ?_
  exact ok_X11_many_j16   hE hK
theorem ok_X11_many_j0 {Q : Option AV → AH → Prop}  {σ : SS}  {x1 : Int32} {o}    (hE : X11_many_j0  σ  x1 = some o) (hK : Q (some (vi o.1)) (hp o.2)) : Ws 1 mi_X11_many Q 0 [some (vr 10 0), some (vi x1)] [] σ := by
  unfold X11_many_j0 at hE
  refine Wp.aload_n dc_X11_many_0 rfl ?_
  refine Wp.iload_n dc_X11_many_1 rfl ?_
  refine Wp.if_lt (tgt := 11) dc_X11_many_2 (by decide) (fun hc2 => ?_) (fun hc2 => ?_)
  · rw [if_pos hc2] at hE
    exact ok_X11_many_j11   hE hK
  · rw [if_neg hc2] at hE
    refine Wp.iload_n dc_X11_many_5 rfl ?_
    refine Wp.bipush dc_X11_many_6 bp_7 ?_
    refine Wp.icmp_le (tgt := 15) dc_X11_many_8 (by decide) (fun hc8 => ?_) (fun hc8 => ?_)
    · rw [if_pos hc8] at hE
      refine Wp.iconst dc_X11_many_15 ic_0 ?_
      exact ok_X11_many_j16   hE hK
    · rw [if_neg hc8] at hE
      exact ok_X11_many_j11   hE hK
theorem ok_X11_many  {σ : SS}  {x1 : Int32} {o}   (hE : X11_many  σ  x1 = some o) : Runs 1 0 0 mi_X11_many [vr 10 0, vi x1] (hp σ) (fun v h => v = some (vi o.1) ∧ h = hp o.2) := by
  refine Runs.of pn_X11 (Nat.le_of_ble_eq_true rfl) ?_
  exact ok_X11_many_j0   hE ⟨rfl, rfl⟩
theorem ok_X11_lead_j72 {Q : Option AV → AH → Prop}  {σ : SS}  {x1 : Int32} {s1 : Int32} {o} {z0 z2 : Option AV}   (hE : X11_lead_j72  σ  x1 s1 = some o) (hK : Q (some (vi o.1)) (hp o.2)) : Ws 3 mi_X11_lead Q 72 [z0, some (vi x1), z2] [vi s1, vr 0 0] σ := by
  unfold X11_lead_j72 at hE
  refine Wp.iload_n dc_X11_lead_72 rfl ?_
  obtain ⟨v73, h73, hE⟩ := bnd hE
  refine Wp.cV2i (ok_X0_number (by decide) h73) dc_X11_lead_73 mw_X11_186 (mO0 (by decide)) (by decide) (Nat.le_of_ble_eq_true rfl) ?_
  cases hE
  exact Wp.ireturn dc_X11_lead_76 rfl rfl (Nat.le_refl _) (Nat.le_refl _) hK
theorem ok_X11_lead_j31 {Q : Option AV → AH → Prop}  {σ : SS}  {x1 : Int32} {x2 : Int32} {s1 : Int32} {o}    (hE : X11_lead_j31  σ  x1 x2 s1 = some o) (hK : Q (some (vi o.1)) (hp o.2)) : Ws 3 mi_X11_lead Q 31 [some (vr 10 0), some (vi x1), some (vi x2)] [vi s1, vr 10 0] σ := by
  unfold X11_lead_j31 at hE
  obtain ⟨p31, h31, hE⟩ := bnd hE
  refine Wp.cV1i (ok_X11_answers  h31) dc_X11_lead_31 mw_X11_94 (mO10 (by decide)) (by decide) (Nat.le_of_ble_eq_true rfl) ?_
  refine Wp.if_ne (tgt := 39) dc_X11_lead_34 (by decide) (fun hc34 => ?_) (fun hc34 => ?_)
  · rw [if_neg hc34] at hE
    refine Wp.iload_n dc_X11_lead_39 rfl ?_
    refine Wp.bipush dc_X11_lead_40 bp_6 ?_
    refine Wp.icmp_ne (tgt := 56) dc_X11_lead_42 (by decide) (fun hc42 => ?_) (fun hc42 => ?_)
    · rw [if_neg hc42] at hE
      refine Wp.aload_n dc_X11_lead_56 rfl ?_
      refine Wp.sgetR (t := 0) dc_X11_lead_57 fw_X11_42 (mO10 (by decide)) rfl ?_
      refine Wp.iload_n dc_X11_lead_60 rfl ?_
      refine Wp.bipush dc_X11_lead_61 bp_7 ?_
      refine Wp.icmp_ne (tgt := 71) dc_X11_lead_63 (by decide) (fun hc63 => ?_) (fun hc63 => ?_)
      · rw [if_neg hc63] at hE
        refine Wp.iload_n dc_X11_lead_71 rfl ?_
        exact ok_X11_lead_j72   hE hK
      · rw [if_pos hc63] at hE
        refine Wp.bipush dc_X11_lead_66 bp_6 ?_
        refine Wp.goto (tgt := 72) dc_X11_lead_68 (by decide) ?_
        exact ok_X11_lead_j72   hE hK
    · rw [if_pos hc42] at hE
      refine Wp.aload_n dc_X11_lead_45 rfl ?_
      refine Wp.sgetR (t := 0) dc_X11_lead_46 fw_X11_42 (mO10 (by decide)) rfl ?_
      refine Wp.iload_n dc_X11_lead_49 rfl ?_
      obtain ⟨v50, h50, hE⟩ := bnd hE
      refine Wp.cV1i (ok_X0_countOn (by decide) h50) dc_X11_lead_50 mw_X11_183 (mO0 (by decide)) (by decide) (Nat.le_of_ble_eq_true rfl) ?_
      refine Wp.goto (tgt := 76) dc_X11_lead_53 (by decide) ?_
      cases hE
      exact Wp.ireturn dc_X11_lead_76 rfl rfl (Nat.le_refl _) (Nat.le_refl _) hK
  · rw [if_pos hc34] at hE
    refine Wp.iconst dc_X11_lead_37 ic_m1 ?_
    cases hE
    exact Wp.ireturn dc_X11_lead_38 rfl rfl (Nat.le_refl _) (Nat.le_refl _) hK
theorem ok_X11_lead_j26 {Q : Option AV → AH → Prop}  {σ : SS}  {x1 : Int32} {x2 : Int32} {o}    (hE : X11_lead_j26  σ  x1 x2 = some o) (hK : Q (some (vi o.1)) (hp o.2)) : Ws 3 mi_X11_lead Q 26 [some (vr 10 0), some (vi x1), some (vi x2)] [vr 10 0] σ := by
  unfold X11_lead_j26 at hE
  refine Wp.iconst dc_X11_lead_26 ic_5 ?_
  refine Wp.goto (tgt := 31) dc_X11_lead_27 (by decide) ?_
  exact ok_X11_lead_j31   hE hK
theorem ok_X11_lead_j0 {Q : Option AV → AH → Prop}  {σ : SS}  {x1 : Int32} {x2 : Int32} {o}    (hE : X11_lead_j0  σ  x1 x2 = some o) (hK : Q (some (vi o.1)) (hp o.2)) : Ws 3 mi_X11_lead Q 0 [some (vr 10 0), some (vi x1), some (vi x2)] [] σ := by
  unfold X11_lead_j0 at hE
  refine Wp.aload_n dc_X11_lead_0 rfl ?_
  refine Wp.aload_n dc_X11_lead_1 rfl ?_
  refine Wp.sgetR (t := 0) dc_X11_lead_2 fw_X11_42 (mO10 (by decide)) rfl ?_
  refine Wp.iload_n dc_X11_lead_5 rfl ?_
  obtain ⟨v6, h6, hE⟩ := bnd hE
  refine Wp.cV1i (ok_X0_has (by decide) h6) dc_X11_lead_6 mw_X11_180 (mO0 (by decide)) (by decide) (Nat.le_of_ble_eq_true rfl) ?_
  refine Wp.if_ne (tgt := 16) dc_X11_lead_9 (by decide) (fun hc9 => ?_) (fun hc9 => ?_)
  · rw [if_neg hc9] at hE
    refine Wp.iload_n dc_X11_lead_16 rfl ?_
    refine Wp.if_lt (tgt := 26) dc_X11_lead_17 (by decide) (fun hc17 => ?_) (fun hc17 => ?_)
    · rw [if_pos hc17] at hE
      exact ok_X11_lead_j26   hE hK
    · rw [if_neg hc17] at hE
      refine Wp.iload_n dc_X11_lead_20 rfl ?_
      refine Wp.bipush dc_X11_lead_21 bp_7 ?_
      refine Wp.icmp_le (tgt := 30) dc_X11_lead_23 (by decide) (fun hc23 => ?_) (fun hc23 => ?_)
      · rw [if_pos hc23] at hE
        refine Wp.iconst dc_X11_lead_30 ic_0 ?_
        exact ok_X11_lead_j31   hE hK
      · rw [if_neg hc23] at hE
        exact ok_X11_lead_j26   hE hK
  · rw [if_pos hc9] at hE
    refine Wp.iconst dc_X11_lead_12 ic_2 ?_
    refine Wp.goto (tgt := 31) dc_X11_lead_13 (by decide) ?_
    exact ok_X11_lead_j31   hE hK
theorem ok_X11_lead  {σ : SS}  {x1 : Int32} {x2 : Int32} {o}   (hE : X11_lead  σ  x1 x2 = some o) : Runs 3 0 0 mi_X11_lead [vr 10 0, vi x1, vi x2] (hp σ) (fun v h => v = some (vi o.1) ∧ h = hp o.2) := by
  refine Runs.of pn_X11 (Nat.le_of_ble_eq_true rfl) ?_
  exact ok_X11_lead_j0   hE ⟨rfl, rfl⟩
theorem ok_X11_crossing_j35 {Q : Option AV → AH → Prop}  {σ : SS}  {x1 : Int32} {x2 : Int32} {s1 : Int32} {o}    (hE : X11_crossing_j35  σ  x1 x2 s1 = some o) (hK : Q (some (vi o.1)) (hp o.2)) : Ws 2 mi_X11_crossing Q 35 [some (vr 10 0), some (vi x1), some (vi x2)] [vi s1, vr 10 0] σ := by
  unfold X11_crossing_j35 at hE
  obtain ⟨p35, h35, hE⟩ := bnd hE
  refine Wp.cV1i (ok_X11_answers  h35) dc_X11_crossing_35 mw_X11_94 (mO10 (by decide)) (by decide) (Nat.le_of_ble_eq_true rfl) ?_
  refine Wp.if_eq (tgt := 53) dc_X11_crossing_38 (by decide) (fun hc38 => ?_) (fun hc38 => ?_)
  · rw [if_pos hc38] at hE
    refine Wp.iconst dc_X11_crossing_53 ic_m1 ?_
    cases hE
    exact Wp.ireturn dc_X11_crossing_54 rfl rfl (Nat.le_refl _) (Nat.le_refl _) hK
  · rw [if_neg hc38] at hE
    refine Wp.aload_n dc_X11_crossing_41 rfl ?_
    refine Wp.sgetR (t := 0) dc_X11_crossing_42 fw_X11_42 (mO10 (by decide)) rfl ?_
    refine Wp.iload_n dc_X11_crossing_45 rfl ?_
    refine Wp.iload_n dc_X11_crossing_46 rfl ?_
    obtain ⟨v47, h47, hE⟩ := bnd hE
    refine Wp.cV2i (ok_X0_crossingAt (by decide) h47) dc_X11_crossing_47 mw_X11_192 (mO0 (by decide)) (by decide) (Nat.le_of_ble_eq_true rfl) ?_
    refine Wp.goto (tgt := 54) dc_X11_crossing_50 (by decide) ?_
    cases hE
    exact Wp.ireturn dc_X11_crossing_54 rfl rfl (Nat.le_refl _) (Nat.le_refl _) hK
theorem ok_X11_crossing_j10 {Q : Option AV → AH → Prop}  {σ : SS}  {x1 : Int32} {x2 : Int32} {o}    (hE : X11_crossing_j10  σ  x1 x2 = some o) (hK : Q (some (vi o.1)) (hp o.2)) : Ws 2 mi_X11_crossing Q 10 [some (vr 10 0), some (vi x1), some (vi x2)] [vr 10 0] σ := by
  unfold X11_crossing_j10 at hE
  refine Wp.iconst dc_X11_crossing_10 ic_5 ?_
  refine Wp.goto (tgt := 35) dc_X11_crossing_11 (by decide) ?_
  exact ok_X11_crossing_j35   hE hK
theorem ok_X11_crossing_j29 {Q : Option AV → AH → Prop}  {σ : SS}  {x1 : Int32} {x2 : Int32} {o}    (hE : X11_crossing_j29  σ  x1 x2 = some o) (hK : Q (some (vi o.1)) (hp o.2)) : Ws 2 mi_X11_crossing Q 29 [some (vr 10 0), some (vi x1), some (vi x2)] [vr 10 0] σ := by
  unfold X11_crossing_j29 at hE
  refine Wp.bipush dc_X11_crossing_29 bp_8 ?_
  refine Wp.goto (tgt := 35) dc_X11_crossing_31 (by decide) ?_
  exact ok_X11_crossing_j35   hE hK
theorem ok_X11_crossing_j0 {Q : Option AV → AH → Prop}  {σ : SS}  {x1 : Int32} {x2 : Int32} {o}    (hE : X11_crossing_j0  σ  x1 x2 = some o) (hK : Q (some (vi o.1)) (hp o.2)) : Ws 2 mi_X11_crossing Q 0 [some (vr 10 0), some (vi x1), some (vi x2)] [] σ := by
  unfold X11_crossing_j0 at hE
  refine Wp.aload_n dc_X11_crossing_0 rfl ?_
  refine Wp.iload_n dc_X11_crossing_1 rfl ?_
  refine Wp.if_lt (tgt := 10) dc_X11_crossing_2 (by decide) (fun hc2 => ?_) (fun hc2 => ?_)
  · rw [if_pos hc2] at hE
    exact ok_X11_crossing_j10   hE hK
  · rw [if_neg hc2] at hE
    refine Wp.iload_n dc_X11_crossing_5 rfl ?_
    refine Wp.iconst dc_X11_crossing_6 ic_2 ?_
    refine Wp.icmp_le (tgt := 14) dc_X11_crossing_7 (by decide) (fun hc7 => ?_) (fun hc7 => ?_)
    · rw [if_pos hc7] at hE
      refine Wp.iload_n dc_X11_crossing_14 rfl ?_
      refine Wp.if_lt (tgt := 29) dc_X11_crossing_15 (by decide) (fun hc15 => ?_) (fun hc15 => ?_)
      · rw [if_pos hc15] at hE
        exact ok_X11_crossing_j29   hE hK
      · rw [if_neg hc15] at hE
        refine Wp.iload_n dc_X11_crossing_18 rfl ?_
        refine Wp.aload_n dc_X11_crossing_19 rfl ?_
        refine Wp.sgetR (t := 0) dc_X11_crossing_20 fw_X11_42 (mO10 (by decide)) rfl ?_
        obtain ⟨v23, h23, hE⟩ := bnd hE
        refine Wp.cV0i (ok_X0_crossingCount (by decide) h23) dc_X11_crossing_23 mw_X11_189 (mO0 (by decide)) (by decide) (Nat.le_of_ble_eq_true rfl) ?_
        refine Wp.icmp_lt (tgt := 34) dc_X11_crossing_26 (by decide) (fun hc26 => ?_) (fun hc26 => ?_)
        · rw [if_pos hc26] at hE
          refine Wp.iconst dc_X11_crossing_34 ic_0 ?_
          exact ok_X11_crossing_j35   hE hK
        · rw [if_neg hc26] at hE
          exact ok_X11_crossing_j29   hE hK
    · rw [if_neg hc7] at hE
      exact ok_X11_crossing_j10   hE hK
theorem ok_X11_crossing  {σ : SS}  {x1 : Int32} {x2 : Int32} {o}   (hE : X11_crossing  σ  x1 x2 = some o) : Runs 2 0 0 mi_X11_crossing [vr 10 0, vi x1, vi x2] (hp σ) (fun v h => v = some (vi o.1) ∧ h = hp o.2) := by
  refine Runs.of pn_X11 (Nat.le_of_ble_eq_true rfl) ?_
  exact ok_X11_crossing_j0   hE ⟨rfl, rfl⟩
theorem ok_X11_along_j38 {Q : Option AV → AH → Prop}  {σ : SS}  {x1 : Int32} {x2 : Int32} {s1 : Int32} {o}    (hE : X11_along_j38  σ  x1 x2 s1 = some o) (hK : Q (some (vi o.1)) (hp o.2)) : Ws 3 mi_X11_along Q 38 [some (vr 10 0), some (vi x1), some (vi x2)] [vi s1, vr 10 0] σ := by
  unfold X11_along_j38 at hE
  obtain ⟨p38, h38, hE⟩ := bnd hE
  refine Wp.cV1i (ok_X11_answers  h38) dc_X11_along_38 mw_X11_94 (mO10 (by decide)) (by decide) (Nat.le_of_ble_eq_true rfl) ?_
  refine Wp.if_eq (tgt := 56) dc_X11_along_41 (by decide) (fun hc41 => ?_) (fun hc41 => ?_)
  · rw [if_pos hc41] at hE
    refine Wp.iconst dc_X11_along_56 ic_m1 ?_
    cases hE
    exact Wp.ireturn dc_X11_along_57 rfl rfl (Nat.le_refl _) (Nat.le_refl _) hK
  · rw [if_neg hc41] at hE
    refine Wp.aload_n dc_X11_along_44 rfl ?_
    refine Wp.sgetR (t := 0) dc_X11_along_45 fw_X11_42 (mO10 (by decide)) rfl ?_
    refine Wp.iload_n dc_X11_along_48 rfl ?_
    refine Wp.iload_n dc_X11_along_49 rfl ?_
    obtain ⟨v50, h50, hE⟩ := bnd hE
    refine Wp.cV2i (ok_X0_crossingOn (by decide) h50) dc_X11_along_50 mw_X11_195 (mO0 (by decide)) (by decide) (Nat.le_of_ble_eq_true rfl) ?_
    refine Wp.goto (tgt := 57) dc_X11_along_53 (by decide) ?_
    cases hE
    exact Wp.ireturn dc_X11_along_57 rfl rfl (Nat.le_refl _) (Nat.le_refl _) hK
theorem ok_X11_along_j32 {Q : Option AV → AH → Prop}  {σ : SS}  {x1 : Int32} {x2 : Int32} {o}    (hE : X11_along_j32  σ  x1 x2 = some o) (hK : Q (some (vi o.1)) (hp o.2)) : Ws 3 mi_X11_along Q 32 [some (vr 10 0), some (vi x1), some (vi x2)] [vr 10 0] σ := by
  unfold X11_along_j32 at hE
  refine Wp.bipush dc_X11_along_32 bp_8 ?_
  refine Wp.goto (tgt := 38) dc_X11_along_34 (by decide) ?_
  exact ok_X11_along_j38   hE hK
theorem ok_X11_along_j0 {Q : Option AV → AH → Prop}  {σ : SS}  {x1 : Int32} {x2 : Int32} {o}    (hE : X11_along_j0  σ  x1 x2 = some o) (hK : Q (some (vi o.1)) (hp o.2)) : Ws 3 mi_X11_along Q 0 [some (vr 10 0), some (vi x1), some (vi x2)] [] σ := by
  unfold X11_along_j0 at hE
  refine Wp.aload_n dc_X11_along_0 rfl ?_
  refine Wp.aload_n dc_X11_along_1 rfl ?_
  refine Wp.sgetR (t := 0) dc_X11_along_2 fw_X11_42 (mO10 (by decide)) rfl ?_
  refine Wp.iload_n dc_X11_along_5 rfl ?_
  obtain ⟨v6, h6, hE⟩ := bnd hE
  refine Wp.cV1i (ok_X0_has (by decide) h6) dc_X11_along_6 mw_X11_180 (mO0 (by decide)) (by decide) (Nat.le_of_ble_eq_true rfl) ?_
  refine Wp.if_ne (tgt := 16) dc_X11_along_9 (by decide) (fun hc9 => ?_) (fun hc9 => ?_)
  · rw [if_neg hc9] at hE
    refine Wp.iload_n dc_X11_along_16 rfl ?_
    refine Wp.if_lt (tgt := 32) dc_X11_along_17 (by decide) (fun hc17 => ?_) (fun hc17 => ?_)
    · rw [if_pos hc17] at hE
      exact ok_X11_along_j32   hE hK
    · rw [if_neg hc17] at hE
      refine Wp.iload_n dc_X11_along_20 rfl ?_
      refine Wp.aload_n dc_X11_along_21 rfl ?_
      refine Wp.sgetR (t := 0) dc_X11_along_22 fw_X11_42 (mO10 (by decide)) rfl ?_
      refine Wp.iload_n dc_X11_along_25 rfl ?_
      obtain ⟨v26, h26, hE⟩ := bnd hE
      refine Wp.cV1i (ok_X0_countOn (by decide) h26) dc_X11_along_26 mw_X11_183 (mO0 (by decide)) (by decide) (Nat.le_of_ble_eq_true rfl) ?_
      refine Wp.icmp_lt (tgt := 37) dc_X11_along_29 (by decide) (fun hc29 => ?_) (fun hc29 => ?_)
      · rw [if_pos hc29] at hE
        refine Wp.iconst dc_X11_along_37 ic_0 ?_
        exact ok_X11_along_j38   hE hK
      · rw [if_neg hc29] at hE
        exact ok_X11_along_j32   hE hK
  · rw [if_pos hc9] at hE
    refine Wp.iconst dc_X11_along_12 ic_2 ?_
    refine Wp.goto (tgt := 38) dc_X11_along_13 (by decide) ?_
    exact ok_X11_along_j38   hE hK
theorem ok_X11_along  {σ : SS}  {x1 : Int32} {x2 : Int32} {o}   (hE : X11_along  σ  x1 x2 = some o) : Runs 3 0 0 mi_X11_along [vr 10 0, vi x1, vi x2] (hp σ) (fun v h => v = some (vi o.1) ∧ h = hp o.2) := by
  refine Runs.of pn_X11 (Nat.le_of_ble_eq_true rfl) ?_
  exact ok_X11_along_j0   hE ⟨rfl, rfl⟩
theorem ok_X11_look_j17 {Q : Option AV → AH → Prop}  {σ : SS}  {x1 : Int32} {s1 : Int32} {o}    (hE : X11_look_j17  σ  x1 s1 = some o) (hK : Q (some (vi o.1)) (hp o.2)) : Ws 2 mi_X11_look Q 17 [some (vr 10 0), some (vi x1)] [vi s1, vr 10 0] σ := by
  unfold X11_look_j17 at hE
  obtain ⟨p17, h17, hE⟩ := bnd hE
  refine Wp.cV1i (ok_X11_answers  h17) dc_X11_look_17 mw_X11_94 (mO10 (by decide)) (by decide) (Nat.le_of_ble_eq_true rfl) ?_
  refine Wp.if_eq (tgt := 34) dc_X11_look_20 (by decide) (fun hc20 => ?_) (fun hc20 => ?_)
  · rw [if_pos hc20] at hE
    refine Wp.iconst dc_X11_look_34 ic_m1 ?_
    cases hE
    exact Wp.ireturn dc_X11_look_35 rfl rfl (Nat.le_refl _) (Nat.le_refl _) hK
  · rw [if_neg hc20] at hE
    refine Wp.aload_n dc_X11_look_23 rfl ?_
    refine Wp.sgetR (t := 0) dc_X11_look_24 fw_X11_42 (mO10 (by decide)) rfl ?_
    refine Wp.iload_n dc_X11_look_27 rfl ?_
    obtain ⟨v28, h28, hE⟩ := bnd hE
    refine Wp.cV1i (ok_X0_lookSet (by decide) h28) dc_X11_look_28 mw_X11_201 (mO0 (by decide)) (by decide) (Nat.le_of_ble_eq_true rfl) ?_
    refine Wp.goto (tgt := 35) dc_X11_look_31 (by decide) ?_
    cases hE
    exact Wp.ireturn dc_X11_look_35 rfl rfl (Nat.le_refl _) (Nat.le_refl _) hK
theorem ok_X11_look_j0 {Q : Option AV → AH → Prop}  {σ : SS}  {x1 : Int32} {o}    (hE : X11_look_j0  σ  x1 = some o) (hK : Q (some (vi o.1)) (hp o.2)) : Ws 2 mi_X11_look Q 0 [some (vr 10 0), some (vi x1)] [] σ := by
  unfold X11_look_j0 at hE
  refine Wp.aload_n dc_X11_look_0 rfl ?_
  refine Wp.aload_n dc_X11_look_1 rfl ?_
  refine Wp.sgetR (t := 0) dc_X11_look_2 fw_X11_42 (mO10 (by decide)) rfl ?_
  refine Wp.iload_n dc_X11_look_5 rfl ?_
  obtain ⟨v6, h6, hE⟩ := bnd hE
  refine Wp.cV1i (ok_X0_hasLook (by decide) h6) dc_X11_look_6 mw_X11_198 (mO0 (by decide)) (by decide) (Nat.le_of_ble_eq_true rfl) ?_
  refine Wp.if_eq (tgt := 16) dc_X11_look_9 (by decide) (fun hc9 => ?_) (fun hc9 => ?_)
  · rw [if_pos hc9] at hE
    refine Wp.iconst dc_X11_look_16 ic_2 ?_
    exact ok_X11_look_j17   hE hK
  · rw [if_neg hc9] at hE
    refine Wp.iconst dc_X11_look_12 ic_0 ?_
    refine Wp.goto (tgt := 17) dc_X11_look_13 (by decide) ?_
    exact ok_X11_look_j17   hE hK
theorem ok_X11_look  {σ : SS}  {x1 : Int32} {o}   (hE : X11_look  σ  x1 = some o) : Runs 2 0 0 mi_X11_look [vr 10 0, vi x1] (hp σ) (fun v h => v = some (vi o.1) ∧ h = hp o.2) := by
  refine Runs.of pn_X11 (Nat.le_of_ble_eq_true rfl) ?_
  exact ok_X11_look_j0   hE ⟨rfl, rfl⟩
theorem ok_X11_between_j37 {Q : Option AV → AH → Prop}  {σ : SS}  {x1 : Int32} {x2 : Int32} {s1 : Int32} {o}    (hE : X11_between_j37  σ  x1 x2 s1 = some o) (hK : Q (some (vi o.1)) (hp o.2)) : Ws 3 mi_X11_between Q 37 [some (vr 10 0), some (vi x1), some (vi x2)] [vi s1, vr 10 0] σ := by
  unfold X11_between_j37 at hE
  obtain ⟨p37, h37, hE⟩ := bnd hE
  refine Wp.cV1i (ok_X11_answers  h37) dc_X11_between_37 mw_X11_94 (mO10 (by decide)) (by decide) (Nat.le_of_ble_eq_true rfl) ?_
  refine Wp.if_eq (tgt := 55) dc_X11_between_40 (by decide) (fun hc40 => ?_) (fun hc40 => ?_)
  · rw [if_pos hc40] at hE
    refine Wp.iconst dc_X11_between_55 ic_m1 ?_
    cases hE
    exact Wp.ireturn dc_X11_between_56 rfl rfl (Nat.le_refl _) (Nat.le_refl _) hK
  · rw [if_neg hc40] at hE
    refine Wp.aload_n dc_X11_between_43 rfl ?_
    refine Wp.sgetR (t := 0) dc_X11_between_44 fw_X11_42 (mO10 (by decide)) rfl ?_
    refine Wp.iload_n dc_X11_between_47 rfl ?_
    refine Wp.iload_n dc_X11_between_48 rfl ?_
    obtain ⟨v49, h49, hE⟩ := bnd hE
    refine Wp.cV2i (ok_X0_countBetween (by decide) h49) dc_X11_between_49 mw_X11_204 (mO0 (by decide)) (by decide) (Nat.le_of_ble_eq_true rfl) ?_
    refine Wp.goto (tgt := 56) dc_X11_between_52 (by decide) ?_
    cases hE
    exact Wp.ireturn dc_X11_between_56 rfl rfl (Nat.le_refl _) (Nat.le_refl _) hK
theorem ok_X11_between_j23 {Q : Option AV → AH → Prop}  {σ : SS}  {x1 : Int32} {x2 : Int32} {o}    (hE : X11_between_j23  σ  x1 x2 = some o) (hK : Q (some (vi o.1)) (hp o.2)) : Ws 3 mi_X11_between Q 23 [some (vr 10 0), some (vi x1), some (vi x2)] [vr 10 0] σ := by
  unfold X11_between_j23 at hE
  refine Wp.iconst dc_X11_between_23 ic_2 ?_
  refine Wp.goto (tgt := 37) dc_X11_between_24 (by decide) ?_
  exact ok_X11_between_j37   hE hK
theorem ok_X11_between_j0 {Q : Option AV → AH → Prop}  {σ : SS}  {x1 : Int32} {x2 : Int32} {o}    (hE : X11_between_j0  σ  x1 x2 = some o) (hK : Q (some (vi o.1)) (hp o.2)) : Ws 3 mi_X11_between Q 0 [some (vr 10 0), some (vi x1), some (vi x2)] [] σ := by
  unfold X11_between_j0 at hE
  refine Wp.aload_n dc_X11_between_0 rfl ?_
  refine Wp.aload_n dc_X11_between_1 rfl ?_
  refine Wp.sgetR (t := 0) dc_X11_between_2 fw_X11_42 (mO10 (by decide)) rfl ?_
  refine Wp.iload_n dc_X11_between_5 rfl ?_
  obtain ⟨v6, h6, hE⟩ := bnd hE
  refine Wp.cV1i (ok_X0_has (by decide) h6) dc_X11_between_6 mw_X11_180 (mO0 (by decide)) (by decide) (Nat.le_of_ble_eq_true rfl) ?_
  refine Wp.if_eq (tgt := 23) dc_X11_between_9 (by decide) (fun hc9 => ?_) (fun hc9 => ?_)
  · rw [if_pos hc9] at hE
    exact ok_X11_between_j23   hE hK
  · rw [if_neg hc9] at hE
    refine Wp.aload_n dc_X11_between_12 rfl ?_
    refine Wp.sgetR (t := 0) dc_X11_between_13 fw_X11_42 (mO10 (by decide)) rfl ?_
    refine Wp.iload_n dc_X11_between_16 rfl ?_
    obtain ⟨v17, h17, hE⟩ := bnd hE
    refine Wp.cV1i (ok_X0_has (by decide) h17) dc_X11_between_17 mw_X11_180 (mO0 (by decide)) (by decide) (Nat.le_of_ble_eq_true rfl) ?_
    refine Wp.if_ne (tgt := 27) dc_X11_between_20 (by decide) (fun hc20 => ?_) (fun hc20 => ?_)
    · rw [if_neg hc20] at hE
      refine Wp.iload_n dc_X11_between_27 rfl ?_
      refine Wp.iload_n dc_X11_between_28 rfl ?_
      refine Wp.icmp_ne (tgt := 36) dc_X11_between_29 (by decide) (fun hc29 => ?_) (fun hc29 => ?_)
      · rw [if_neg hc29] at hE
        refine Wp.iconst dc_X11_between_36 ic_0 ?_
        exact ok_X11_between_j37   hE hK
      · rw [if_pos hc29] at hE
        refine Wp.iconst dc_X11_between_32 ic_5 ?_
        refine Wp.goto (tgt := 37) dc_X11_between_33 (by decide) ?_
        exact ok_X11_between_j37   hE hK
    · rw [if_pos hc20] at hE
      exact ok_X11_between_j23   hE hK
theorem ok_X11_between  {σ : SS}  {x1 : Int32} {x2 : Int32} {o}   (hE : X11_between  σ  x1 x2 = some o) : Runs 3 0 0 mi_X11_between [vr 10 0, vi x1, vi x2] (hp σ) (fun v h => v = some (vi o.1) ∧ h = hp o.2) := by
  refine Runs.of pn_X11 (Nat.le_of_ble_eq_true rfl) ?_
  exact ok_X11_between_j0   hE ⟨rfl, rfl⟩
def X11_copyStates_P67 (Q : Option AV → AH → Prop)   (x1 : Int32) (x2 : Int32) (ss : Int32 × SS) : Prop := Ws 4 mi_X11_copyStates Q 67 [some (vr 10 0), some (vi x1), some (vi x2), some (vi ss.1)] [] ss.2
def X11_copyStates_R67 (Q : Option AV → AH → Prop)   (x1 : Int32) (x2 : Int32) (tt : SS) : Prop := ∀ z0 z1 z3 : Option AV, Ws 4 mi_X11_copyStates Q 97 [z0, z1, some (vi x2), z3] [] tt
theorem ok_X11_copyStates_l67c {Q : Option AV → AH → Prop}  {σ : SS}  {x1 : Int32} {x2 : Int32} {x3 : Int32} {o}    (hE : X11_copyStates_l67c  σ  x1 x2 x3 = some o) (hS : ∀ ss, o = Sum.inl ss → (X11_copyStates_P67  Q   x1 x2) ss) (hT : ∀ tt, o = Sum.inr tt → (X11_copyStates_R67  Q   x1 x2) tt) : Ws 4 mi_X11_copyStates Q 67 [some (vr 10 0), some (vi x1), some (vi x2), some (vi x3)] [] σ := by
  unfold X11_copyStates_l67c at hE
  refine Wp.iload_n dc_X11_copyStates_67 rfl ?_
  refine Wp.iload_n dc_X11_copyStates_68 rfl ?_
  refine Wp.icmp_ge (tgt := 97) dc_X11_copyStates_69 (by decide) (fun hc69 => ?_) (fun hc69 => ?_)
  · rw [if_pos hc69] at hE
    cases hE
    exact hT _ rfl _ _ _
  · rw [if_neg hc69] at hE
    refine Wp.aload_n dc_X11_copyStates_72 rfl ?_
    refine Wp.sgetR (t := 0) dc_X11_copyStates_73 fw_X11_10 (mO10 (by decide)) rfl ?_
    refine Wp.iload_n dc_X11_copyStates_76 rfl ?_
    refine Wp.iload_n dc_X11_copyStates_77 rfl ?_
    refine Wp.aload_n dc_X11_copyStates_78 rfl ?_
    refine Wp.sgetR (t := 0) dc_X11_copyStates_79 fw_X11_42 (mO10 (by decide)) rfl ?_
    refine Wp.iload_n dc_X11_copyStates_82 rfl ?_
    obtain ⟨v83, h83, hE⟩ := bnd hE
    refine Wp.cV1i (ok_X0_stateAt (by decide) h83) dc_X11_copyStates_83 mw_X11_207 (mO0 (by decide)) (by decide) (Nat.le_of_ble_eq_true rfl) ?_
    refine Wp.i2l dc_X11_copyStates_86 ?_
    obtain ⟨p87, h87, hE⟩ := bnd hE
    refine Wp.cV3i (ok_X6_put  h87) dc_X11_copyStates_87 mw_X11_105 (mO5 (by decide)) (by decide) (Nat.le_of_ble_eq_true rfl) ?_
    refine Wp.pop dc_X11_copyStates_90 rfl ?_
    obtain ⟨x3_91, e_91, hE⟩ := bnS hE
    refine Wp.iinc dc_X11_copyStates_91 rfl ((ii ic_1).trans e_91) (by decide) ?_
    refine Wp.goto (tgt := 67) dc_X11_copyStates_94 (by decide) ?_
    cases hE
    exact hS _ rfl
theorem ok_X11_copyStates_l67 {Q : Option AV → AH → Prop}  {σ : SS}  {x1 : Int32} {x2 : Int32} {x3 : Int32} {o}    (hE : X11_copyStates_l67  σ  x1 x2 x3 = some o) (hK : Q (some (vi o.1)) (hp o.2)) : Ws 4 mi_X11_copyStates Q 67 [some (vr 10 0), some (vi x1), some (vi x2), some (vi x3)] [] σ := by
  unfold X11_copyStates_l67 at hE
  obtain ⟨t67, h1, hE⟩ := bnd hE
  refine iter_ok (P := (X11_copyStates_P67  Q   x1 x2)) (R := (X11_copyStates_R67  Q   x1 x2)) (fun ss o h2 hS hT => ?_) NF _ _ h1 ?_
  · skip
    exact ok_X11_copyStates_l67c   h2 hS hT
  · intro z0 z1 z3
    show Ws 4 mi_X11_copyStates Q 97 [z0, z1, some (vi x2), z3] [] t67
    refine Wp.iload_n dc_X11_copyStates_97 rfl ?_
    cases hE
    exact Wp.ireturn dc_X11_copyStates_98 rfl rfl (Nat.le_refl _) (Nat.le_refl _) hK
theorem ok_X11_copyStates_j57 {Q : Option AV → AH → Prop}  {σ : SS}  {x1 : Int32} {x2 : Int32} {s1 : Int32} {o} {z3 : Option AV}   (hE : X11_copyStates_j57  σ  x1 x2 s1 = some o) (hK : Q (some (vi o.1)) (hp o.2)) : Ws 4 mi_X11_copyStates Q 57 [some (vr 10 0), some (vi x1), some (vi x2), z3] [vi s1, vr 10 0] σ := by
  unfold X11_copyStates_j57 at hE
  obtain ⟨p57, h57, hE⟩ := bnd hE
  refine Wp.cV1i (ok_X11_answers  h57) dc_X11_copyStates_57 mw_X11_94 (mO10 (by decide)) (by decide) (Nat.le_of_ble_eq_true rfl) ?_
  refine Wp.if_ne (tgt := 65) dc_X11_copyStates_60 (by decide) (fun hc60 => ?_) (fun hc60 => ?_)
  · rw [if_neg hc60] at hE
    refine Wp.iconst dc_X11_copyStates_65 ic_0 ?_
    refine Wp.istore_n dc_X11_copyStates_66 (by decide) ?_
    exact ok_X11_copyStates_l67   hE hK
  · rw [if_pos hc60] at hE
    refine Wp.iconst dc_X11_copyStates_63 ic_m1 ?_
    cases hE
    exact Wp.ireturn dc_X11_copyStates_64 rfl rfl (Nat.le_refl _) (Nat.le_refl _) hK
theorem ok_X11_copyStates_j0 {Q : Option AV → AH → Prop}  {σ : SS}  {x1 : Int32} {o} {z2 z3 : Option AV}   (hE : X11_copyStates_j0  σ  x1 = some o) (hK : Q (some (vi o.1)) (hp o.2)) : Ws 4 mi_X11_copyStates Q 0 [some (vr 10 0), some (vi x1), z2, z3] [] σ := by
  unfold X11_copyStates_j0 at hE
  refine Wp.aload_n dc_X11_copyStates_0 rfl ?_
  refine Wp.sgetR (t := 0) dc_X11_copyStates_1 fw_X11_42 (mO10 (by decide)) rfl ?_
  obtain ⟨v4, h4, hE⟩ := bnd hE
  refine Wp.cV0i (ok_X0_crossingCount (by decide) h4) dc_X11_copyStates_4 mw_X11_189 (mO0 (by decide)) (by decide) (Nat.le_of_ble_eq_true rfl) ?_
  refine Wp.istore_n dc_X11_copyStates_7 (by decide) ?_
  refine Wp.aload_n dc_X11_copyStates_8 rfl ?_
  refine Wp.aload_n dc_X11_copyStates_9 rfl ?_
  refine Wp.sgetR (t := 0) dc_X11_copyStates_10 fw_X11_10 (mO10 (by decide)) rfl ?_
  refine Wp.iload_n dc_X11_copyStates_13 rfl ?_
  obtain ⟨v14, h14, hE⟩ := bnd hE
  refine Wp.cV1i (ok_X6_isNumber  h14) dc_X11_copyStates_14 mw_X11_87 (mO5 (by decide)) (by decide) (Nat.le_of_ble_eq_true rfl) ?_
  refine Wp.if_ne (tgt := 24) dc_X11_copyStates_17 (by decide) (fun hc17 => ?_) (fun hc17 => ?_)
  · rw [if_neg hc17] at hE
    refine Wp.aload_n dc_X11_copyStates_24 rfl ?_
    refine Wp.sgetR (t := 0) dc_X11_copyStates_25 fw_X11_10 (mO10 (by decide)) rfl ?_
    refine Wp.iload_n dc_X11_copyStates_28 rfl ?_
    obtain ⟨v29, h29, hE⟩ := bnd hE
    refine Wp.cV1i (ok_X6_isThere  h29) dc_X11_copyStates_29 mw_X11_115 (mO5 (by decide)) (by decide) (Nat.le_of_ble_eq_true rfl) ?_
    refine Wp.if_ne (tgt := 39) dc_X11_copyStates_32 (by decide) (fun hc32 => ?_) (fun hc32 => ?_)
    · rw [if_neg hc32] at hE
      refine Wp.aload_n dc_X11_copyStates_39 rfl ?_
      refine Wp.sgetR (t := 0) dc_X11_copyStates_40 fw_X11_10 (mO10 (by decide)) rfl ?_
      refine Wp.iload_n dc_X11_copyStates_43 rfl ?_
      refine Wp.iconst dc_X11_copyStates_44 ic_0 ?_
      refine Wp.iload_n dc_X11_copyStates_45 rfl ?_
      obtain ⟨v46, h46, hE⟩ := bnd hE
      refine Wp.cV3i (ok_X6_holds  h46) dc_X11_copyStates_46 mw_X11_122 (mO5 (by decide)) (by decide) (Nat.le_of_ble_eq_true rfl) ?_
      refine Wp.if_ne (tgt := 56) dc_X11_copyStates_49 (by decide) (fun hc49 => ?_) (fun hc49 => ?_)
      · rw [if_neg hc49] at hE
        refine Wp.iconst dc_X11_copyStates_56 ic_0 ?_
        exact ok_X11_copyStates_j57   hE hK
      · rw [if_pos hc49] at hE
        refine Wp.iconst dc_X11_copyStates_52 ic_4 ?_
        refine Wp.goto (tgt := 57) dc_X11_copyStates_53 (by decide) ?_
        exact ok_X11_copyStates_j57   hE hK
    · rw [if_pos hc32] at hE
      refine Wp.iconst dc_X11_copyStates_35 ic_3 ?_
      refine Wp.goto (tgt := 57) dc_X11_copyStates_36 (by decide) ?_
      exact ok_X11_copyStates_j57   hE hK
  · rw [if_pos hc17] at hE
    refine Wp.iconst dc_X11_copyStates_20 ic_1 ?_
    refine Wp.goto (tgt := 57) dc_X11_copyStates_21 (by decide) ?_
    exact ok_X11_copyStates_j57   hE hK
theorem ok_X11_copyStates  {σ : SS}  {x1 : Int32} {o}   (hE : X11_copyStates  σ  x1 = some o) : Runs 4 0 0 mi_X11_copyStates [vr 10 0, vi x1] (hp σ) (fun v h => v = some (vi o.1) ∧ h = hp o.2) := by
  refine Runs.of pn_X11 (Nat.le_of_ble_eq_true rfl) ?_
  exact ok_X11_copyStates_j0   hE ⟨rfl, rfl⟩
theorem ok_X11_follow_j62 {Q : Option AV → AH → Prop}  {σ : SS}  {x1 : Int32} {x2 : Int32} {s1 : Int32} {o}    (hE : X11_follow_j62  σ  x1 x2 s1 = some o) (hK : Q (some (vi o.1)) (hp o.2)) : Ws 4 mi_X11_follow Q 62 [some (vr 10 0), some (vi x1), some (vi x2)] [vi s1, vr 10 0] σ := by
  unfold X11_follow_j62 at hE
  obtain ⟨p62, h62, hE⟩ := bnd hE
  refine Wp.cV1i (ok_X11_answers  h62) dc_X11_follow_62 mw_X11_94 (mO10 (by decide)) (by decide) (Nat.le_of_ble_eq_true rfl) ?_
  refine Wp.if_eq (tgt := 80) dc_X11_follow_65 (by decide) (fun hc65 => ?_) (fun hc65 => ?_)
  · rw [if_pos hc65] at hE
    refine Wp.iconst dc_X11_follow_80 ic_m1 ?_
    cases hE
    exact Wp.ireturn dc_X11_follow_81 rfl rfl (Nat.le_refl _) (Nat.le_refl _) hK
  · rw [if_neg hc65] at hE
    refine Wp.aload_n dc_X11_follow_68 rfl ?_
    refine Wp.sgetR (t := 0) dc_X11_follow_69 fw_X11_42 (mO10 (by decide)) rfl ?_
    refine Wp.iload_n dc_X11_follow_72 rfl ?_
    refine Wp.iload_n dc_X11_follow_73 rfl ?_
    obtain ⟨p74, h74, hE⟩ := bnd hE
    refine Wp.cV2i (ok_X0_undoNearest (by decide) h74) dc_X11_follow_74 mw_X11_213 (mO0 (by decide)) (by decide) (Nat.le_of_ble_eq_true rfl) ?_
    refine Wp.goto (tgt := 81) dc_X11_follow_77 (by decide) ?_
    cases hE
    exact Wp.ireturn dc_X11_follow_81 rfl rfl (Nat.le_refl _) (Nat.le_refl _) hK
theorem ok_X11_follow_j25 {Q : Option AV → AH → Prop}  {σ : SS}  {x1 : Int32} {x2 : Int32} {o}    (hE : X11_follow_j25  σ  x1 x2 = some o) (hK : Q (some (vi o.1)) (hp o.2)) : Ws 4 mi_X11_follow Q 25 [some (vr 10 0), some (vi x1), some (vi x2)] [vr 10 0] σ := by
  unfold X11_follow_j25 at hE
  refine Wp.iconst dc_X11_follow_25 ic_5 ?_
  refine Wp.goto (tgt := 62) dc_X11_follow_26 (by decide) ?_
  exact ok_X11_follow_j62   hE hK
theorem ok_X11_follow_j0 {Q : Option AV → AH → Prop}  {σ : SS}  {x1 : Int32} {x2 : Int32} {o}    (hE : X11_follow_j0  σ  x1 x2 = some o) (hK : Q (some (vi o.1)) (hp o.2)) : Ws 4 mi_X11_follow Q 0 [some (vr 10 0), some (vi x1), some (vi x2)] [] σ := by
  unfold X11_follow_j0 at hE
  refine Wp.aload_n dc_X11_follow_0 rfl ?_
  refine Wp.aload_n dc_X11_follow_1 rfl ?_
  refine Wp.sgetR (t := 0) dc_X11_follow_2 fw_X11_42 (mO10 (by decide)) rfl ?_
  refine Wp.iload_n dc_X11_follow_5 rfl ?_
  obtain ⟨v6, h6, hE⟩ := bnd hE
  refine Wp.cV1i (ok_X0_has (by decide) h6) dc_X11_follow_6 mw_X11_180 (mO0 (by decide)) (by decide) (Nat.le_of_ble_eq_true rfl) ?_
  refine Wp.if_ne (tgt := 16) dc_X11_follow_9 (by decide) (fun hc9 => ?_) (fun hc9 => ?_)
  · rw [if_neg hc9] at hE
    refine Wp.iload_n dc_X11_follow_16 rfl ?_
    refine Wp.if_lt (tgt := 25) dc_X11_follow_17 (by decide) (fun hc17 => ?_) (fun hc17 => ?_)
    · rw [if_pos hc17] at hE
      exact ok_X11_follow_j25   hE hK
    · rw [if_neg hc17] at hE
      refine Wp.iload_n dc_X11_follow_20 rfl ?_
      refine Wp.iconst dc_X11_follow_21 ic_1 ?_
      refine Wp.icmp_le (tgt := 29) dc_X11_follow_22 (by decide) (fun hc22 => ?_) (fun hc22 => ?_)
      · rw [if_pos hc22] at hE
        refine Wp.aload_n dc_X11_follow_29 rfl ?_
        refine Wp.sgetR (t := 0) dc_X11_follow_30 fw_X11_42 (mO10 (by decide)) rfl ?_
        refine Wp.iload_n dc_X11_follow_33 rfl ?_
        obtain ⟨v34, h34, hE⟩ := bnd hE
        refine Wp.cV1i (ok_X0_isIn (by decide) h34) dc_X11_follow_34 mw_X11_210 (mO0 (by decide)) (by decide) (Nat.le_of_ble_eq_true rfl) ?_
        refine Wp.if_ne (tgt := 45) dc_X11_follow_37 (by decide) (fun hc37 => ?_) (fun hc37 => ?_)
        · rw [if_neg hc37] at hE
          refine Wp.aload_n dc_X11_follow_45 rfl ?_
          refine Wp.sgetR (t := 0) dc_X11_follow_46 fw_X11_42 (mO10 (by decide)) rfl ?_
          refine Wp.iload_n dc_X11_follow_49 rfl ?_
          obtain ⟨v50, h50, hE⟩ := bnd hE
          refine Wp.cV1i (ok_X0_countOn (by decide) h50) dc_X11_follow_50 mw_X11_183 (mO0 (by decide)) (by decide) (Nat.le_of_ble_eq_true rfl) ?_
          refine Wp.if_ne (tgt := 61) dc_X11_follow_53 (by decide) (fun hc53 => ?_) (fun hc53 => ?_)
          · rw [if_neg hc53] at hE
            refine Wp.iconst dc_X11_follow_61 ic_0 ?_
            exact ok_X11_follow_j62   hE hK
          · rw [if_pos hc53] at hE
            refine Wp.bipush dc_X11_follow_56 bp_8 ?_
            refine Wp.goto (tgt := 62) dc_X11_follow_58 (by decide) ?_
            exact ok_X11_follow_j62   hE hK
        · rw [if_pos hc37] at hE
          refine Wp.bipush dc_X11_follow_40 bp_9 ?_
          refine Wp.goto (tgt := 62) dc_X11_follow_42 (by decide) ?_
          exact ok_X11_follow_j62   hE hK
      · rw [if_neg hc22] at hE
        exact ok_X11_follow_j25   hE hK
  · rw [if_pos hc9] at hE
    refine Wp.iconst dc_X11_follow_12 ic_2 ?_
    refine Wp.goto (tgt := 62) dc_X11_follow_13 (by decide) ?_
    exact ok_X11_follow_j62   hE hK
theorem ok_X11_follow  {σ : SS}  {x1 : Int32} {x2 : Int32} {o}   (hE : X11_follow  σ  x1 x2 = some o) : Runs 4 0 0 mi_X11_follow [vr 10 0, vi x1, vi x2] (hp σ) (fun v h => v = some (vi o.1) ∧ h = hp o.2) := by
  refine Runs.of pn_X11 (Nat.le_of_ble_eq_true rfl) ?_
  exact ok_X11_follow_j0   hE ⟨rfl, rfl⟩
theorem ok_X11_loosen_j0 {Q : Option AV → AH → Prop}  {σ : SS}   {o}    (hE : X11_loosen_j0  σ   = some o) (hK : Q (some (vi o.1)) (hp o.2)) : Ws 4 mi_X11_loosen Q 0 [some (vr 10 0)] [] σ := by
  unfold X11_loosen_j0 at hE
  refine Wp.aload_n dc_X11_loosen_0 rfl ?_
  refine Wp.iconst dc_X11_loosen_1 ic_0 ?_
  obtain ⟨p2, h2, hE⟩ := bnd hE
  refine Wp.cV1i (ok_X11_answers  h2) dc_X11_loosen_2 mw_X11_94 (mO10 (by decide)) (by decide) (Nat.le_of_ble_eq_true rfl) ?_
  refine Wp.pop dc_X11_loosen_5 rfl ?_
  refine Wp.aload_n dc_X11_loosen_6 rfl ?_
  refine Wp.sgetR (t := 0) dc_X11_loosen_7 fw_X11_42 (mO10 (by decide)) rfl ?_
  obtain ⟨p10, h10, hE⟩ := bnd hE
  refine Wp.cV0i (ok_X0_loosenOnce (by decide) h10) dc_X11_loosen_10 mw_X11_216 (mO0 (by decide)) (by decide) (Nat.le_of_ble_eq_true rfl) ?_
  cases hE
  exact Wp.ireturn dc_X11_loosen_13 rfl rfl (Nat.le_refl _) (Nat.le_refl _) hK
theorem ok_X11_loosen  {σ : SS}   {o}   (hE : X11_loosen  σ   = some o) : Runs 4 0 0 mi_X11_loosen [vr 10 0] (hp σ) (fun v h => v = some (vi o.1) ∧ h = hp o.2) := by
  refine Runs.of pn_X11 (Nat.le_of_ble_eq_true rfl) ?_
  exact ok_X11_loosen_j0   hE ⟨rfl, rfl⟩
theorem ok_X11_inStatus_j0 {Q : Option AV → AH → Prop}  {σ : SS}  {x1 : Int32} {o}    (hE : X11_inStatus_j0  σ  x1 = some o) (hK : Q (some (vi o)) (hp σ)) : Ws 2 mi_X11_inStatus Q 0 [some (vr 10 0), some (vi x1)] [] σ := by
  unfold X11_inStatus_j0 at hE
  refine Wp.aload_n dc_X11_inStatus_0 rfl ?_
  refine Wp.sgetR (t := 0) dc_X11_inStatus_1 fw_X11_42 (mO10 (by decide)) rfl ?_
  refine Wp.iload_n dc_X11_inStatus_4 rfl ?_
  obtain ⟨v5, h5, hE⟩ := bnd hE
  refine Wp.cV1i (ok_X0_has (by decide) h5) dc_X11_inStatus_5 mw_X11_180 (mO0 (by decide)) (by decide) (Nat.le_of_ble_eq_true rfl) ?_
  refine Wp.if_ne (tgt := 15) dc_X11_inStatus_8 (by decide) (fun hc8 => ?_) (fun hc8 => ?_)
  · rw [if_neg hc8] at hE
    refine Wp.aload_n dc_X11_inStatus_15 rfl ?_
    refine Wp.sgetR (t := 0) dc_X11_inStatus_16 fw_X11_42 (mO10 (by decide)) rfl ?_
    refine Wp.iload_n dc_X11_inStatus_19 rfl ?_
    obtain ⟨v20, h20, hE⟩ := bnd hE
    refine Wp.cV1i (ok_X0_isIn (by decide) h20) dc_X11_inStatus_20 mw_X11_210 (mO0 (by decide)) (by decide) (Nat.le_of_ble_eq_true rfl) ?_
    refine Wp.if_eq (tgt := 30) dc_X11_inStatus_23 (by decide) (fun hc23 => ?_) (fun hc23 => ?_)
    · rw [if_pos hc23] at hE
      refine Wp.bipush dc_X11_inStatus_30 bp_9 ?_
      cases hE
      exact Wp.ireturn dc_X11_inStatus_32 rfl rfl (Nat.le_refl _) (Nat.le_refl _) hK
    · rw [if_neg hc23] at hE
      refine Wp.iconst dc_X11_inStatus_26 ic_0 ?_
      refine Wp.goto (tgt := 32) dc_X11_inStatus_27 (by decide) ?_
      cases hE
      exact Wp.ireturn dc_X11_inStatus_32 rfl rfl (Nat.le_refl _) (Nat.le_refl _) hK
  · rw [if_pos hc8] at hE
    refine Wp.iconst dc_X11_inStatus_11 ic_2 ?_
    refine Wp.goto (tgt := 32) dc_X11_inStatus_12 (by decide) ?_
    cases hE
    exact Wp.ireturn dc_X11_inStatus_32 rfl rfl (Nat.le_refl _) (Nat.le_refl _) hK
theorem ok_X11_inStatus  {σ : SS}  {x1 : Int32} {o}   (hE : X11_inStatus  σ  x1 = some o) : Runs 2 0 0 mi_X11_inStatus [vr 10 0, vi x1] (hp σ) (fun v h => v = some (vi o) ∧ h = hp σ) := by
  refine Runs.of pn_X11 (Nat.le_of_ble_eq_true rfl) ?_
  exact ok_X11_inStatus_j0   hE ⟨rfl, rfl⟩
theorem ok_X11_pull_j48 {Q : Option AV → AH → Prop}  {σ : SS}  {x2 : Int32} {s1 : Int32} {s2 : Int32} {o} {z0 z1 : Option AV}   (hE : X11_pull_j48  σ  x2 s1 s2 = some o) (hK : Q (some (vi o.1)) (hp o.2)) : Ws 4 mi_X11_pull Q 48 [z0, z1, some (vi x2)] [vi s2, vi s1, vr 0 0] σ := by
  unfold X11_pull_j48 at hE
  obtain ⟨σ48, h48, hE⟩ := bnd hE
  refine Wp.cV2v (ok_X0_pullAt (by decide) h48) dc_X11_pull_48 mw_X11_236 (mO0 (by decide)) (by decide) (Nat.le_of_ble_eq_true rfl) ?_
  refine Wp.iload_n dc_X11_pull_51 rfl ?_
  obtain ⟨v52, h52, hE⟩ := bnd hE
  refine Wp.cS1i (ok_J6_bitCount_0f7a4  h52) dc_X11_pull_52 mw_X11_231 (by decide) (Nat.le_of_ble_eq_true rfl) ?_
  cases hE
  exact Wp.ireturn dc_X11_pull_55 rfl rfl (Nat.le_refl _) (Nat.le_refl _) hK
theorem ok_X11_pull_j0 {Q : Option AV → AH → Prop}  {σ : SS}  {x1 : Int32} {o} {z2 : Option AV}   (hE : X11_pull_j0  σ  x1 = some o) (hK : Q (some (vi o.1)) (hp o.2)) : Ws 4 mi_X11_pull Q 0 [some (vr 10 0), some (vi x1), z2] [] σ := by
  unfold X11_pull_j0 at hE
  refine Wp.aload_n dc_X11_pull_0 rfl ?_
  refine Wp.aload_n dc_X11_pull_1 rfl ?_
  refine Wp.iload_n dc_X11_pull_2 rfl ?_
  obtain ⟨v3, h3, hE⟩ := bnd hE
  refine Wp.cV1i (ok_X11_inStatus  h3) dc_X11_pull_3 mw_X11_219 (mO10 (by decide)) (by decide) (Nat.le_of_ble_eq_true rfl) ?_
  obtain ⟨p6, h6, hE⟩ := bnd hE
  refine Wp.cV1i (ok_X11_answers  h6) dc_X11_pull_6 mw_X11_94 (mO10 (by decide)) (by decide) (Nat.le_of_ble_eq_true rfl) ?_
  refine Wp.if_ne (tgt := 14) dc_X11_pull_9 (by decide) (fun hc9 => ?_) (fun hc9 => ?_)
  · rw [if_neg hc9] at hE
    refine Wp.aload_n dc_X11_pull_14 rfl ?_
    refine Wp.sgetR (t := 0) dc_X11_pull_15 fw_X11_42 (mO10 (by decide)) rfl ?_
    refine Wp.iload_n dc_X11_pull_18 rfl ?_
    refine Wp.aload_n dc_X11_pull_19 rfl ?_
    refine Wp.sgetR (t := 0) dc_X11_pull_20 fw_X11_42 (mO10 (by decide)) rfl ?_
    obtain ⟨v23, h23, hE⟩ := bnd hE
    refine Wp.cV0i (ok_X0_insideSet (by decide) h23) dc_X11_pull_23 mw_X11_222 (mO0 (by decide)) (by decide) (Nat.le_of_ble_eq_true rfl) ?_
    obtain ⟨v26, h26, hE⟩ := bnd hE
    refine Wp.cS3i (ok_X3_around (by decide) h26) dc_X11_pull_26 mw_X11_225 (by decide) (Nat.le_of_ble_eq_true rfl) ?_
    refine Wp.istore_n dc_X11_pull_29 (by decide) ?_
    refine Wp.aload_n dc_X11_pull_30 rfl ?_
    refine Wp.sgetR (t := 0) dc_X11_pull_31 fw_X11_42 (mO10 (by decide)) rfl ?_
    refine Wp.iload_n dc_X11_pull_34 rfl ?_
    refine Wp.iload_n dc_X11_pull_35 rfl ?_
    obtain ⟨v36, h36, hE⟩ := bnd hE
    refine Wp.cS1i (ok_J6_bitCount_0f7a4  h36) dc_X11_pull_36 mw_X11_231 (by decide) (Nat.le_of_ble_eq_true rfl) ?_
    refine Wp.iconst dc_X11_pull_39 ic_1 ?_
    refine Wp.icmp_ne (tgt := 47) dc_X11_pull_40 (by decide) (fun hc40 => ?_) (fun hc40 => ?_)
    · rw [if_neg hc40] at hE
      refine Wp.iconst dc_X11_pull_47 ic_0 ?_
      exact ok_X11_pull_j48   hE hK
    · rw [if_pos hc40] at hE
      refine Wp.iconst dc_X11_pull_43 ic_1 ?_
      refine Wp.goto (tgt := 48) dc_X11_pull_44 (by decide) ?_
      exact ok_X11_pull_j48   hE hK
  · rw [if_pos hc9] at hE
    refine Wp.iconst dc_X11_pull_12 ic_m1 ?_
    cases hE
    exact Wp.ireturn dc_X11_pull_13 rfl rfl (Nat.le_refl _) (Nat.le_refl _) hK
theorem ok_X11_pull  {σ : SS}  {x1 : Int32} {o}   (hE : X11_pull  σ  x1 = some o) : Runs 4 0 0 mi_X11_pull [vr 10 0, vi x1] (hp σ) (fun v h => v = some (vi o.1) ∧ h = hp o.2) := by
  refine Runs.of pn_X11 (Nat.le_of_ble_eq_true rfl) ?_
  exact ok_X11_pull_j0   hE ⟨rfl, rfl⟩
theorem ok_X11_cut_j0 {Q : Option AV → AH → Prop}  {σ : SS}  {x1 : Int32} {o}    (hE : X11_cut_j0  σ  x1 = some o) (hK : Q (some (vi o.1)) (hp o.2)) : Ws 4 mi_X11_cut Q 0 [some (vr 10 0), some (vi x1)] [] σ := by
  unfold X11_cut_j0 at hE
  refine Wp.aload_n dc_X11_cut_0 rfl ?_
  refine Wp.aload_n dc_X11_cut_1 rfl ?_
  refine Wp.iload_n dc_X11_cut_2 rfl ?_
  obtain ⟨v3, h3, hE⟩ := bnd hE
  refine Wp.cV1i (ok_X11_inStatus  h3) dc_X11_cut_3 mw_X11_219 (mO10 (by decide)) (by decide) (Nat.le_of_ble_eq_true rfl) ?_
  obtain ⟨p6, h6, hE⟩ := bnd hE
  refine Wp.cV1i (ok_X11_answers  h6) dc_X11_cut_6 mw_X11_94 (mO10 (by decide)) (by decide) (Nat.le_of_ble_eq_true rfl) ?_
  refine Wp.if_eq (tgt := 23) dc_X11_cut_9 (by decide) (fun hc9 => ?_) (fun hc9 => ?_)
  · rw [if_pos hc9] at hE
    refine Wp.iconst dc_X11_cut_23 ic_m1 ?_
    cases hE
    exact Wp.ireturn dc_X11_cut_24 rfl rfl (Nat.le_refl _) (Nat.le_refl _) hK
  · rw [if_neg hc9] at hE
    refine Wp.aload_n dc_X11_cut_12 rfl ?_
    refine Wp.sgetR (t := 0) dc_X11_cut_13 fw_X11_42 (mO10 (by decide)) rfl ?_
    refine Wp.iload_n dc_X11_cut_16 rfl ?_
    obtain ⟨p17, h17, hE⟩ := bnd hE
    refine Wp.cV1i (ok_X0_cutOff (by decide) h17) dc_X11_cut_17 mw_X11_240 (mO0 (by decide)) (by decide) (Nat.le_of_ble_eq_true rfl) ?_
    refine Wp.goto (tgt := 24) dc_X11_cut_20 (by decide) ?_
    cases hE
    exact Wp.ireturn dc_X11_cut_24 rfl rfl (Nat.le_refl _) (Nat.le_refl _) hK
theorem ok_X11_cut  {σ : SS}  {x1 : Int32} {o}   (hE : X11_cut  σ  x1 = some o) : Runs 4 0 0 mi_X11_cut [vr 10 0, vi x1] (hp σ) (fun v h => v = some (vi o.1) ∧ h = hp o.2) := by
  refine Runs.of pn_X11 (Nat.le_of_ble_eq_true rfl) ?_
  exact ok_X11_cut_j0   hE ⟨rfl, rfl⟩
theorem ok_X11_clip_j33 {Q : Option AV → AH → Prop}  {σ : SS}  {x1 : Int32} {s1 : Int32} {o}    (hE : X11_clip_j33  σ  x1 s1 = some o) (hK : Q (some (vi o.1)) (hp o.2)) : Ws 5 mi_X11_clip Q 33 [some (vr 10 0), some (vi x1)] [vi s1, vr 10 0] σ := by
  unfold X11_clip_j33 at hE
  obtain ⟨p33, h33, hE⟩ := bnd hE
  refine Wp.cV1i (ok_X11_answers  h33) dc_X11_clip_33 mw_X11_94 (mO10 (by decide)) (by decide) (Nat.le_of_ble_eq_true rfl) ?_
  refine Wp.if_eq (tgt := 54) dc_X11_clip_36 (by decide) (fun hc36 => ?_) (fun hc36 => ?_)
  · rw [if_pos hc36] at hE
    refine Wp.iconst dc_X11_clip_54 ic_0 ?_
    cases hE
    exact Wp.ireturn dc_X11_clip_55 rfl Nr.z0.1 (Nat.le_refl _) (Nat.le_refl _) hK
  · rw [if_neg hc36] at hE
    refine Wp.aload_n dc_X11_clip_39 rfl ?_
    refine Wp.sgetR (t := 0) dc_X11_clip_40 fw_X11_42 (mO10 (by decide)) rfl ?_
    refine Wp.iload_n dc_X11_clip_43 rfl ?_
    obtain ⟨p44, h44, hE⟩ := bnd hE
    refine Wp.cV1i (ok_X0_putClip (by decide) h44) dc_X11_clip_44 mw_X11_246 (mO0 (by decide)) (by decide) (Nat.le_of_ble_eq_true rfl) ?_
    refine Wp.if_eq (tgt := 54) dc_X11_clip_47 (by decide) (fun hc47 => ?_) (fun hc47 => ?_)
    · rw [if_pos hc47] at hE
      refine Wp.iconst dc_X11_clip_54 ic_0 ?_
      cases hE
      exact Wp.ireturn dc_X11_clip_55 rfl Nr.z0.1 (Nat.le_refl _) (Nat.le_refl _) hK
    · rw [if_neg hc47] at hE
      refine Wp.iconst dc_X11_clip_50 ic_1 ?_
      refine Wp.goto (tgt := 55) dc_X11_clip_51 (by decide) ?_
      cases hE
      exact Wp.ireturn dc_X11_clip_55 rfl Nr.z1.1 (Nat.le_refl _) (Nat.le_refl _) hK
theorem ok_X11_clip_j0 {Q : Option AV → AH → Prop}  {σ : SS}  {x1 : Int32} {o}    (hE : X11_clip_j0  σ  x1 = some o) (hK : Q (some (vi o.1)) (hp o.2)) : Ws 5 mi_X11_clip Q 0 [some (vr 10 0), some (vi x1)] [] σ := by
  unfold X11_clip_j0 at hE
  refine Wp.aload_n dc_X11_clip_0 rfl ?_
  refine Wp.aload_n dc_X11_clip_1 rfl ?_
  refine Wp.sgetR (t := 0) dc_X11_clip_2 fw_X11_42 (mO10 (by decide)) rfl ?_
  refine Wp.iload_n dc_X11_clip_5 rfl ?_
  obtain ⟨v6, h6, hE⟩ := bnd hE
  refine Wp.cV1i (ok_X0_has (by decide) h6) dc_X11_clip_6 mw_X11_180 (mO0 (by decide)) (by decide) (Nat.le_of_ble_eq_true rfl) ?_
  refine Wp.if_ne (tgt := 16) dc_X11_clip_9 (by decide) (fun hc9 => ?_) (fun hc9 => ?_)
  · rw [if_neg hc9] at hE
    refine Wp.aload_n dc_X11_clip_16 rfl ?_
    refine Wp.sgetR (t := 0) dc_X11_clip_17 fw_X11_42 (mO10 (by decide)) rfl ?_
    refine Wp.iload_n dc_X11_clip_20 rfl ?_
    obtain ⟨v21, h21, hE⟩ := bnd hE
    refine Wp.cV1i (ok_X0_canGetClip (by decide) h21) dc_X11_clip_21 mw_X11_243 (mO0 (by decide)) (by decide) (Nat.le_of_ble_eq_true rfl) ?_
    refine Wp.if_eq (tgt := 31) dc_X11_clip_24 (by decide) (fun hc24 => ?_) (fun hc24 => ?_)
    · rw [if_pos hc24] at hE
      refine Wp.bipush dc_X11_clip_31 bp_9 ?_
      exact ok_X11_clip_j33   hE hK
    · rw [if_neg hc24] at hE
      refine Wp.iconst dc_X11_clip_27 ic_0 ?_
      refine Wp.goto (tgt := 33) dc_X11_clip_28 (by decide) ?_
      exact ok_X11_clip_j33   hE hK
  · rw [if_pos hc9] at hE
    refine Wp.iconst dc_X11_clip_12 ic_2 ?_
    refine Wp.goto (tgt := 33) dc_X11_clip_13 (by decide) ?_
    exact ok_X11_clip_j33   hE hK
theorem ok_X11_clip  {σ : SS}  {x1 : Int32} {o}   (hE : X11_clip  σ  x1 = some o) : Runs 5 0 0 mi_X11_clip [vr 10 0, vi x1] (hp σ) (fun v h => v = some (vi o.1) ∧ h = hp o.2) := by
  refine Runs.of pn_X11 (Nat.le_of_ble_eq_true rfl) ?_
  exact ok_X11_clip_j0   hE ⟨rfl, rfl⟩
theorem ok_X11_unclip_j44 {Q : Option AV → AH → Prop}  {σ : SS}  {x1 : Int32} {s1 : Int32} {o}    (hE : X11_unclip_j44  σ  x1 s1 = some o) (hK : Q (some (vi o.1)) (hp o.2)) : Ws 2 mi_X11_unclip Q 44 [some (vr 10 0), some (vi x1)] [vi s1, vr 10 0] σ := by
  unfold X11_unclip_j44 at hE
  obtain ⟨p44, h44, hE⟩ := bnd hE
  refine Wp.cV1i (ok_X11_answers  h44) dc_X11_unclip_44 mw_X11_94 (mO10 (by decide)) (by decide) (Nat.le_of_ble_eq_true rfl) ?_
  refine Wp.if_eq (tgt := 65) dc_X11_unclip_47 (by decide) (fun hc47 => ?_) (fun hc47 => ?_)
  · rw [if_pos hc47] at hE
    refine Wp.iconst dc_X11_unclip_65 ic_0 ?_
    cases hE
    exact Wp.ireturn dc_X11_unclip_66 rfl Nr.z0.1 (Nat.le_refl _) (Nat.le_refl _) hK
  · rw [if_neg hc47] at hE
    refine Wp.aload_n dc_X11_unclip_50 rfl ?_
    refine Wp.sgetR (t := 0) dc_X11_unclip_51 fw_X11_42 (mO10 (by decide)) rfl ?_
    refine Wp.iload_n dc_X11_unclip_54 rfl ?_
    obtain ⟨p55, h55, hE⟩ := bnd hE
    refine Wp.cV1i (ok_X0_takeClip (by decide) h55) dc_X11_unclip_55 mw_X11_252 (mO0 (by decide)) (by decide) (Nat.le_of_ble_eq_true rfl) ?_
    refine Wp.if_eq (tgt := 65) dc_X11_unclip_58 (by decide) (fun hc58 => ?_) (fun hc58 => ?_)
    · rw [if_pos hc58] at hE
      refine Wp.iconst dc_X11_unclip_65 ic_0 ?_
      cases hE
      exact Wp.ireturn dc_X11_unclip_66 rfl Nr.z0.1 (Nat.le_refl _) (Nat.le_refl _) hK
    · rw [if_neg hc58] at hE
      refine Wp.iconst dc_X11_unclip_61 ic_1 ?_
      refine Wp.goto (tgt := 66) dc_X11_unclip_62 (by decide) ?_
      cases hE
      exact Wp.ireturn dc_X11_unclip_66 rfl Nr.z1.1 (Nat.le_refl _) (Nat.le_refl _) hK
theorem ok_X11_unclip_j42 {Q : Option AV → AH → Prop}  {σ : SS}  {x1 : Int32} {o}    (hE : X11_unclip_j42  σ  x1 = some o) (hK : Q (some (vi o.1)) (hp o.2)) : Ws 2 mi_X11_unclip Q 42 [some (vr 10 0), some (vi x1)] [vr 10 0] σ := by
  unfold X11_unclip_j42 at hE
  refine Wp.bipush dc_X11_unclip_42 bp_9 ?_
  exact ok_X11_unclip_j44   hE hK
theorem ok_X11_unclip_j0 {Q : Option AV → AH → Prop}  {σ : SS}  {x1 : Int32} {o}    (hE : X11_unclip_j0  σ  x1 = some o) (hK : Q (some (vi o.1)) (hp o.2)) : Ws 2 mi_X11_unclip Q 0 [some (vr 10 0), some (vi x1)] [] σ := by
  unfold X11_unclip_j0 at hE
  refine Wp.aload_n dc_X11_unclip_0 rfl ?_
  refine Wp.aload_n dc_X11_unclip_1 rfl ?_
  refine Wp.sgetR (t := 0) dc_X11_unclip_2 fw_X11_42 (mO10 (by decide)) rfl ?_
  refine Wp.iload_n dc_X11_unclip_5 rfl ?_
  obtain ⟨v6, h6, hE⟩ := bnd hE
  refine Wp.cV1i (ok_X0_has (by decide) h6) dc_X11_unclip_6 mw_X11_180 (mO0 (by decide)) (by decide) (Nat.le_of_ble_eq_true rfl) ?_
  refine Wp.if_ne (tgt := 16) dc_X11_unclip_9 (by decide) (fun hc9 => ?_) (fun hc9 => ?_)
  · rw [if_neg hc9] at hE
    refine Wp.aload_n dc_X11_unclip_16 rfl ?_
    refine Wp.sgetR (t := 0) dc_X11_unclip_17 fw_X11_42 (mO10 (by decide)) rfl ?_
    refine Wp.iload_n dc_X11_unclip_20 rfl ?_
    obtain ⟨v21, h21, hE⟩ := bnd hE
    refine Wp.cV1i (ok_X0_isIn (by decide) h21) dc_X11_unclip_21 mw_X11_210 (mO0 (by decide)) (by decide) (Nat.le_of_ble_eq_true rfl) ?_
    refine Wp.if_eq (tgt := 42) dc_X11_unclip_24 (by decide) (fun hc24 => ?_) (fun hc24 => ?_)
    · rw [if_pos hc24] at hE
      exact ok_X11_unclip_j42   hE hK
    · rw [if_neg hc24] at hE
      refine Wp.aload_n dc_X11_unclip_27 rfl ?_
      refine Wp.sgetR (t := 0) dc_X11_unclip_28 fw_X11_42 (mO10 (by decide)) rfl ?_
      refine Wp.iload_n dc_X11_unclip_31 rfl ?_
      obtain ⟨v32, h32, hE⟩ := bnd hE
      refine Wp.cV1i (ok_X0_hasClip (by decide) h32) dc_X11_unclip_32 mw_X11_249 (mO0 (by decide)) (by decide) (Nat.le_of_ble_eq_true rfl) ?_
      refine Wp.if_eq (tgt := 42) dc_X11_unclip_35 (by decide) (fun hc35 => ?_) (fun hc35 => ?_)
      · rw [if_pos hc35] at hE
        exact ok_X11_unclip_j42   hE hK
      · rw [if_neg hc35] at hE
        refine Wp.iconst dc_X11_unclip_38 ic_0 ?_
        refine Wp.goto (tgt := 44) dc_X11_unclip_39 (by decide) ?_
        exact ok_X11_unclip_j44   hE hK
  · rw [if_pos hc9] at hE
    refine Wp.iconst dc_X11_unclip_12 ic_2 ?_
    refine Wp.goto (tgt := 44) dc_X11_unclip_13 (by decide) ?_
    exact ok_X11_unclip_j44   hE hK
theorem ok_X11_unclip  {σ : SS}  {x1 : Int32} {o}   (hE : X11_unclip  σ  x1 = some o) : Runs 2 0 0 mi_X11_unclip [vr 10 0, vi x1] (hp σ) (fun v h => v = some (vi o.1) ∧ h = hp o.2) := by
  refine Runs.of pn_X11 (Nat.le_of_ble_eq_true rfl) ?_
  exact ok_X11_unclip_j0   hE ⟨rfl, rfl⟩
theorem ok_X11_cross_j88 {Q : Option AV → AH → Prop}  {σ : SS}  {x1 : Int32} {x2 : Int32} {x3 : Int32} {s1 : Int32} {o}    (hE : X11_cross_j88  σ  x1 x2 x3 s1 = some o) (hK : Q (some (vi o.1)) (hp o.2)) : Ws 3 mi_X11_cross Q 88 [some (vr 10 0), some (vi x1), some (vi x2), some (vi x3)] [vi s1, vr 10 0] σ := by
  unfold X11_cross_j88 at hE
  obtain ⟨p88, h88, hE⟩ := bnd hE
  refine Wp.cV1i (ok_X11_answers  h88) dc_X11_cross_88 mw_X11_94 (mO10 (by decide)) (by decide) (Nat.le_of_ble_eq_true rfl) ?_
  refine Wp.if_ne (tgt := 96) dc_X11_cross_91 (by decide) (fun hc91 => ?_) (fun hc91 => ?_)
  · rw [if_neg hc91] at hE
    refine Wp.aload_n dc_X11_cross_96 rfl ?_
    refine Wp.sgetR (t := 0) dc_X11_cross_97 fw_X11_42 (mO10 (by decide)) rfl ?_
    refine Wp.iload_n dc_X11_cross_100 rfl ?_
    refine Wp.iload_n dc_X11_cross_101 rfl ?_
    refine Wp.iload_n dc_X11_cross_102 rfl ?_
    obtain ⟨p103, h103, hE⟩ := bnd hE
    refine Wp.cV3i (ok_X0_addCrossing (by decide) h103) dc_X11_cross_103 mw_X11_261 (mO0 (by decide)) (by decide) (Nat.le_of_ble_eq_true rfl) ?_
    refine Wp.pop dc_X11_cross_106 rfl ?_
    refine Wp.aload_n dc_X11_cross_107 rfl ?_
    refine Wp.sgetR (t := 0) dc_X11_cross_108 fw_X11_42 (mO10 (by decide)) rfl ?_
    obtain ⟨v111, h111, hE⟩ := bnd hE
    refine Wp.cV0i (ok_X0_crossingCount (by decide) h111) dc_X11_cross_111 mw_X11_189 (mO0 (by decide)) (by decide) (Nat.le_of_ble_eq_true rfl) ?_
    cases hE
    exact Wp.ireturn dc_X11_cross_114 rfl rfl (Nat.le_refl _) (Nat.le_refl _) hK
  · rw [if_pos hc91] at hE
    refine Wp.iconst dc_X11_cross_94 ic_m1 ?_
    cases hE
    exact Wp.ireturn dc_X11_cross_95 rfl rfl (Nat.le_refl _) (Nat.le_refl _) hK
theorem ok_X11_cross_j23 {Q : Option AV → AH → Prop}  {σ : SS}  {x1 : Int32} {x2 : Int32} {x3 : Int32} {o}    (hE : X11_cross_j23  σ  x1 x2 x3 = some o) (hK : Q (some (vi o.1)) (hp o.2)) : Ws 3 mi_X11_cross Q 23 [some (vr 10 0), some (vi x1), some (vi x2), some (vi x3)] [vr 10 0] σ := by
  unfold X11_cross_j23 at hE
  refine Wp.iconst dc_X11_cross_23 ic_2 ?_
  refine Wp.goto (tgt := 88) dc_X11_cross_24 (by decide) ?_
  exact ok_X11_cross_j88   hE hK
theorem ok_X11_cross_j41 {Q : Option AV → AH → Prop}  {σ : SS}  {x1 : Int32} {x2 : Int32} {x3 : Int32} {o}    (hE : X11_cross_j41  σ  x1 x2 x3 = some o) (hK : Q (some (vi o.1)) (hp o.2)) : Ws 3 mi_X11_cross Q 41 [some (vr 10 0), some (vi x1), some (vi x2), some (vi x3)] [vr 10 0] σ := by
  unfold X11_cross_j41 at hE
  refine Wp.iconst dc_X11_cross_41 ic_5 ?_
  refine Wp.goto (tgt := 88) dc_X11_cross_42 (by decide) ?_
  exact ok_X11_cross_j88   hE hK
theorem ok_X11_cross_j86 {Q : Option AV → AH → Prop}  {σ : SS}  {x1 : Int32} {x2 : Int32} {x3 : Int32} {o}    (hE : X11_cross_j86  σ  x1 x2 x3 = some o) (hK : Q (some (vi o.1)) (hp o.2)) : Ws 3 mi_X11_cross Q 86 [some (vr 10 0), some (vi x1), some (vi x2), some (vi x3)] [vr 10 0] σ := by
  unfold X11_cross_j86 at hE
  refine Wp.bipush dc_X11_cross_86 bp_9 ?_
  exact ok_X11_cross_j88   hE hK
theorem ok_X11_cross_j0 {Q : Option AV → AH → Prop}  {σ : SS}  {x1 : Int32} {x2 : Int32} {x3 : Int32} {o}    (hE : X11_cross_j0  σ  x1 x2 x3 = some o) (hK : Q (some (vi o.1)) (hp o.2)) : Ws 3 mi_X11_cross Q 0 [some (vr 10 0), some (vi x1), some (vi x2), some (vi x3)] [] σ := by
  unfold X11_cross_j0 at hE
  refine Wp.aload_n dc_X11_cross_0 rfl ?_
  refine Wp.aload_n dc_X11_cross_1 rfl ?_
  refine Wp.sgetR (t := 0) dc_X11_cross_2 fw_X11_42 (mO10 (by decide)) rfl ?_
  refine Wp.iload_n dc_X11_cross_5 rfl ?_
  obtain ⟨v6, h6, hE⟩ := bnd hE
  refine Wp.cV1i (ok_X0_has (by decide) h6) dc_X11_cross_6 mw_X11_180 (mO0 (by decide)) (by decide) (Nat.le_of_ble_eq_true rfl) ?_
  refine Wp.if_eq (tgt := 23) dc_X11_cross_9 (by decide) (fun hc9 => ?_) (fun hc9 => ?_)
  · rw [if_pos hc9] at hE
    exact ok_X11_cross_j23   hE hK
  · rw [if_neg hc9] at hE
    refine Wp.aload_n dc_X11_cross_12 rfl ?_
    refine Wp.sgetR (t := 0) dc_X11_cross_13 fw_X11_42 (mO10 (by decide)) rfl ?_
    refine Wp.iload_n dc_X11_cross_16 rfl ?_
    obtain ⟨v17, h17, hE⟩ := bnd hE
    refine Wp.cV1i (ok_X0_has (by decide) h17) dc_X11_cross_17 mw_X11_180 (mO0 (by decide)) (by decide) (Nat.le_of_ble_eq_true rfl) ?_
    refine Wp.if_ne (tgt := 27) dc_X11_cross_20 (by decide) (fun hc20 => ?_) (fun hc20 => ?_)
    · rw [if_neg hc20] at hE
      refine Wp.iload_n dc_X11_cross_27 rfl ?_
      refine Wp.iload_n dc_X11_cross_28 rfl ?_
      refine Wp.icmp_eq (tgt := 41) dc_X11_cross_29 (by decide) (fun hc29 => ?_) (fun hc29 => ?_)
      · rw [if_pos hc29] at hE
        exact ok_X11_cross_j41   hE hK
      · rw [if_neg hc29] at hE
        refine Wp.iload_n dc_X11_cross_32 rfl ?_
        refine Wp.if_lt (tgt := 41) dc_X11_cross_33 (by decide) (fun hc33 => ?_) (fun hc33 => ?_)
        · rw [if_pos hc33] at hE
          exact ok_X11_cross_j41   hE hK
        · rw [if_neg hc33] at hE
          refine Wp.iload_n dc_X11_cross_36 rfl ?_
          refine Wp.iconst dc_X11_cross_37 ic_3 ?_
          refine Wp.icmp_le (tgt := 45) dc_X11_cross_38 (by decide) (fun hc38 => ?_) (fun hc38 => ?_)
          · rw [if_pos hc38] at hE
            refine Wp.aload_n dc_X11_cross_45 rfl ?_
            refine Wp.sgetR (t := 0) dc_X11_cross_46 fw_X11_42 (mO10 (by decide)) rfl ?_
            obtain ⟨v49, h49, hE⟩ := bnd hE
            refine Wp.cV0i (ok_X0_isFull (by decide) h49) dc_X11_cross_49 mw_X11_255 (mO0 (by decide)) (by decide) (Nat.le_of_ble_eq_true rfl) ?_
            refine Wp.if_eq (tgt := 60) dc_X11_cross_52 (by decide) (fun hc52 => ?_) (fun hc52 => ?_)
            · rw [if_pos hc52] at hE
              refine Wp.aload_n dc_X11_cross_60 rfl ?_
              refine Wp.sgetR (t := 0) dc_X11_cross_61 fw_X11_42 (mO10 (by decide)) rfl ?_
              refine Wp.iload_n dc_X11_cross_64 rfl ?_
              obtain ⟨v65, h65, hE⟩ := bnd hE
              refine Wp.cV1i (ok_X0_canBeCrossed (by decide) h65) dc_X11_cross_65 mw_X11_258 (mO0 (by decide)) (by decide) (Nat.le_of_ble_eq_true rfl) ?_
              refine Wp.if_eq (tgt := 86) dc_X11_cross_68 (by decide) (fun hc68 => ?_) (fun hc68 => ?_)
              · rw [if_pos hc68] at hE
                exact ok_X11_cross_j86   hE hK
              · rw [if_neg hc68] at hE
                refine Wp.aload_n dc_X11_cross_71 rfl ?_
                refine Wp.sgetR (t := 0) dc_X11_cross_72 fw_X11_42 (mO10 (by decide)) rfl ?_
                refine Wp.iload_n dc_X11_cross_75 rfl ?_
                obtain ⟨v76, h76, hE⟩ := bnd hE
                refine Wp.cV1i (ok_X0_canBeCrossed (by decide) h76) dc_X11_cross_76 mw_X11_258 (mO0 (by decide)) (by decide) (Nat.le_of_ble_eq_true rfl) ?_
                refine Wp.if_eq (tgt := 86) dc_X11_cross_79 (by decide) (fun hc79 => ?_) (fun hc79 => ?_)
                · rw [if_pos hc79] at hE
                  exact ok_X11_cross_j86   hE hK
                · rw [if_neg hc79] at hE
                  refine Wp.iconst dc_X11_cross_82 ic_0 ?_
                  refine Wp.goto (tgt := 88) dc_X11_cross_83 (by decide) ?_
                  exact ok_X11_cross_j88   hE hK
            · rw [if_neg hc52] at hE
              refine Wp.bipush dc_X11_cross_55 bp_7 ?_
              refine Wp.goto (tgt := 88) dc_X11_cross_57 (by decide) ?_
              exact ok_X11_cross_j88   hE hK
          · rw [if_neg hc38] at hE
            exact ok_X11_cross_j41   hE hK
    · rw [if_pos hc20] at hE
      exact ok_X11_cross_j23   hE hK
theorem ok_X11_cross  {σ : SS}  {x1 : Int32} {x2 : Int32} {x3 : Int32} {o}   (hE : X11_cross  σ  x1 x2 x3 = some o) : Runs 3 0 0 mi_X11_cross [vr 10 0, vi x1, vi x2, vi x3] (hp σ) (fun v h => v = some (vi o.1) ∧ h = hp o.2) := by
  refine Runs.of pn_X11 (Nat.le_of_ble_eq_true rfl) ?_
  exact ok_X11_cross_j0   hE ⟨rfl, rfl⟩
theorem ok_X11_isSeed_j0 {Q : Option AV → AH → Prop}  {σ : SS}  {x0 : Int32} {o}    (hE : X11_isSeed_j0  σ  x0 = some o) (hK : Q (some (vi o)) (hp σ)) : Ws 0 mi_X11_isSeed Q 0 [some (vi x0)] [] σ := by
  unfold X11_isSeed_j0 at hE
  refine Wp.iload_n dc_X11_isSeed_0 rfl ?_
  refine Wp.if_lt (tgt := 15) dc_X11_isSeed_1 (by decide) (fun hc1 => ?_) (fun hc1 => ?_)
  · rw [if_pos hc1] at hE
    refine Wp.iconst dc_X11_isSeed_15 ic_0 ?_
    cases hE
    exact Wp.ireturn dc_X11_isSeed_16 rfl Nr.z0.1 (Nat.le_refl _) (Nat.le_refl _) hK
  · rw [if_neg hc1] at hE
    refine Wp.iload_n dc_X11_isSeed_4 rfl ?_
    refine Wp.sipush dc_X11_isSeed_5 sp_9999 ?_
    refine Wp.icmp_gt (tgt := 15) dc_X11_isSeed_8 (by decide) (fun hc8 => ?_) (fun hc8 => ?_)
    · rw [if_pos hc8] at hE
      refine Wp.iconst dc_X11_isSeed_15 ic_0 ?_
      cases hE
      exact Wp.ireturn dc_X11_isSeed_16 rfl Nr.z0.1 (Nat.le_refl _) (Nat.le_refl _) hK
    · rw [if_neg hc8] at hE
      refine Wp.iconst dc_X11_isSeed_11 ic_1 ?_
      refine Wp.goto (tgt := 16) dc_X11_isSeed_12 (by decide) ?_
      cases hE
      exact Wp.ireturn dc_X11_isSeed_16 rfl Nr.z1.1 (Nat.le_refl _) (Nat.le_refl _) hK
theorem ok_X11_isSeed  {σ : SS}  {x0 : Int32} {o}   (hE : X11_isSeed  σ  x0 = some o) : Runs 0 0 0 mi_X11_isSeed [vi x0] (hp σ) (fun v h => v = some (vi o) ∧ h = hp σ) := by
  refine Runs.of pn_X11 (Nat.le_of_ble_eq_true rfl) ?_
  exact ok_X11_isSeed_j0   hE ⟨rfl, rfl⟩
theorem ok_X11_open_j13 {Q : Option AV → AH → Prop}  {σ : SS}  {x1 : Int32} {s1 : Int32} {o}    (hE : X11_open_j13  σ  x1 s1 = some o) (hK : Q (some (vi o.1)) (hp o.2)) : Ws 4 mi_X11_open Q 13 [some (vr 10 0), some (vi x1)] [vi s1, vr 10 0] σ := by
  unfold X11_open_j13 at hE
  obtain ⟨p13, h13, hE⟩ := bnd hE
  refine Wp.cV1i (ok_X11_answers  h13) dc_X11_open_13 mw_X11_94 (mO10 (by decide)) (by decide) (Nat.le_of_ble_eq_true rfl) ?_
  refine Wp.if_ne (tgt := 21) dc_X11_open_16 (by decide) (fun hc16 => ?_) (fun hc16 => ?_)
  · rw [if_neg hc16] at hE
    refine Wp.aload_n dc_X11_open_21 rfl ?_
    refine Wp.sgetR (t := 0) dc_X11_open_22 fw_X11_42 (mO10 (by decide)) rfl ?_
    refine Wp.iload_n dc_X11_open_25 rfl ?_
    obtain ⟨σ26, h26, hE⟩ := bnd hE
    refine Wp.cV1v (ok_X0_drawFrom (by decide) h26) dc_X11_open_26 mw_X11_267 (mO0 (by decide)) (by decide) (Nat.le_of_ble_eq_true rfl) ?_
    refine Wp.aload_n dc_X11_open_29 rfl ?_
    refine Wp.sgetR (t := 0) dc_X11_open_30 fw_X11_42 (mO10 (by decide)) rfl ?_
    obtain ⟨p33, h33, hE⟩ := bnd hE
    refine Wp.cV0i (ok_X0_openOnce (by decide) h33) dc_X11_open_33 mw_X11_270 (mO0 (by decide)) (by decide) (Nat.le_of_ble_eq_true rfl) ?_
    cases hE
    exact Wp.ireturn dc_X11_open_36 rfl rfl (Nat.le_refl _) (Nat.le_refl _) hK
  · rw [if_pos hc16] at hE
    refine Wp.iconst dc_X11_open_19 ic_m1 ?_
    cases hE
    exact Wp.ireturn dc_X11_open_20 rfl rfl (Nat.le_refl _) (Nat.le_refl _) hK
theorem ok_X11_open_j0 {Q : Option AV → AH → Prop}  {σ : SS}  {x1 : Int32} {o}    (hE : X11_open_j0  σ  x1 = some o) (hK : Q (some (vi o.1)) (hp o.2)) : Ws 4 mi_X11_open Q 0 [some (vr 10 0), some (vi x1)] [] σ := by
  unfold X11_open_j0 at hE
  refine Wp.aload_n dc_X11_open_0 rfl ?_
  refine Wp.iload_n dc_X11_open_1 rfl ?_
  obtain ⟨v2, h2, hE⟩ := bnd hE
  refine Wp.cS1i (ok_X11_isSeed  h2) dc_X11_open_2 mw_X11_264 (by decide) (Nat.le_of_ble_eq_true rfl) ?_
  refine Wp.if_eq (tgt := 12) dc_X11_open_5 (by decide) (fun hc5 => ?_) (fun hc5 => ?_)
  · rw [if_pos hc5] at hE
    refine Wp.iconst dc_X11_open_12 ic_5 ?_
    exact ok_X11_open_j13   hE hK
  · rw [if_neg hc5] at hE
    refine Wp.iconst dc_X11_open_8 ic_0 ?_
    refine Wp.goto (tgt := 13) dc_X11_open_9 (by decide) ?_
    exact ok_X11_open_j13   hE hK
theorem ok_X11_open  {σ : SS}  {x1 : Int32} {o}   (hE : X11_open  σ  x1 = some o) : Runs 4 0 0 mi_X11_open [vr 10 0, vi x1] (hp σ) (fun v h => v = some (vi o.1) ∧ h = hp o.2) := by
  refine Runs.of pn_X11 (Nat.le_of_ble_eq_true rfl) ?_
  exact ok_X11_open_j0   hE ⟨rfl, rfl⟩
theorem ok_X11_lump_j0 {Q : Option AV → AH → Prop}  {σ : SS}  {x1 : Int32} {o}    (hE : X11_lump_j0  σ  x1 = some o) (hK : Q (some (vi o.1)) (hp o.2)) : Ws 3 mi_X11_lump Q 0 [some (vr 10 0), some (vi x1)] [] σ := by
  unfold X11_lump_j0 at hE
  refine Wp.aload_n dc_X11_lump_0 rfl ?_
  refine Wp.aload_n dc_X11_lump_1 rfl ?_
  refine Wp.iload_n dc_X11_lump_2 rfl ?_
  obtain ⟨v3, h3, hE⟩ := bnd hE
  refine Wp.cV1i (ok_X11_inStatus  h3) dc_X11_lump_3 mw_X11_219 (mO10 (by decide)) (by decide) (Nat.le_of_ble_eq_true rfl) ?_
  obtain ⟨p6, h6, hE⟩ := bnd hE
  refine Wp.cV1i (ok_X11_answers  h6) dc_X11_lump_6 mw_X11_94 (mO10 (by decide)) (by decide) (Nat.le_of_ble_eq_true rfl) ?_
  refine Wp.if_eq (tgt := 30) dc_X11_lump_9 (by decide) (fun hc9 => ?_) (fun hc9 => ?_)
  · rw [if_pos hc9] at hE
    refine Wp.iconst dc_X11_lump_30 ic_m1 ?_
    cases hE
    exact Wp.ireturn dc_X11_lump_31 rfl rfl (Nat.le_refl _) (Nat.le_refl _) hK
  · rw [if_neg hc9] at hE
    refine Wp.aload_n dc_X11_lump_12 rfl ?_
    refine Wp.sgetR (t := 0) dc_X11_lump_13 fw_X11_42 (mO10 (by decide)) rfl ?_
    refine Wp.iload_n dc_X11_lump_16 rfl ?_
    refine Wp.aload_n dc_X11_lump_17 rfl ?_
    refine Wp.sgetR (t := 0) dc_X11_lump_18 fw_X11_42 (mO10 (by decide)) rfl ?_
    obtain ⟨v21, h21, hE⟩ := bnd hE
    refine Wp.cV0i (ok_X0_insideSet (by decide) h21) dc_X11_lump_21 mw_X11_222 (mO0 (by decide)) (by decide) (Nat.le_of_ble_eq_true rfl) ?_
    obtain ⟨v24, h24, hE⟩ := bnd hE
    refine Wp.cS3i (ok_X3_around (by decide) h24) dc_X11_lump_24 mw_X11_225 (by decide) (Nat.le_of_ble_eq_true rfl) ?_
    refine Wp.goto (tgt := 31) dc_X11_lump_27 (by decide) ?_
    cases hE
    exact Wp.ireturn dc_X11_lump_31 rfl rfl (Nat.le_refl _) (Nat.le_refl _) hK
theorem ok_X11_lump  {σ : SS}  {x1 : Int32} {o}   (hE : X11_lump  σ  x1 = some o) : Runs 3 0 0 mi_X11_lump [vr 10 0, vi x1] (hp σ) (fun v h => v = some (vi o.1) ∧ h = hp o.2) := by
  refine Runs.of pn_X11 (Nat.le_of_ble_eq_true rfl) ?_
  exact ok_X11_lump_j0   hE ⟨rfl, rfl⟩
theorem ok_X11_lumps_j15 {Q : Option AV → AH → Prop}  {σ : SS}  {x1 : Int32} {s1 : Int32} {o}    (hE : X11_lumps_j15  σ  x1 s1 = some o) (hK : Q (some (vi o.1)) (hp o.2)) : Ws 4 mi_X11_lumps Q 15 [some (vr 10 0), some (vi x1)] [vi s1, vr 10 0] σ := by
  unfold X11_lumps_j15 at hE
  obtain ⟨p15, h15, hE⟩ := bnd hE
  refine Wp.cV1i (ok_X11_answers  h15) dc_X11_lumps_15 mw_X11_94 (mO10 (by decide)) (by decide) (Nat.le_of_ble_eq_true rfl) ?_
  refine Wp.if_ne (tgt := 23) dc_X11_lumps_18 (by decide) (fun hc18 => ?_) (fun hc18 => ?_)
  · rw [if_neg hc18] at hE
    refine Wp.iload_n dc_X11_lumps_23 rfl ?_
    refine Wp.if_ne (tgt := 37) dc_X11_lumps_24 (by decide) (fun hc24 => ?_) (fun hc24 => ?_)
    · rw [if_neg hc24] at hE
      refine Wp.aload_n dc_X11_lumps_37 rfl ?_
      refine Wp.sgetR (t := 0) dc_X11_lumps_38 fw_X11_42 (mO10 (by decide)) rfl ?_
      refine Wp.aload_n dc_X11_lumps_41 rfl ?_
      refine Wp.sgetR (t := 0) dc_X11_lumps_42 fw_X11_42 (mO10 (by decide)) rfl ?_
      obtain ⟨v45, h45, hE⟩ := bnd hE
      refine Wp.cV0i (ok_X0_insideSet (by decide) h45) dc_X11_lumps_45 mw_X11_222 (mO0 (by decide)) (by decide) (Nat.le_of_ble_eq_true rfl) ?_
      obtain ⟨v48, h48, hE⟩ := bnd hE
      refine Wp.cS2i (ok_X3_largest (by decide) h48) dc_X11_lumps_48 mw_X11_277 (by decide) (Nat.le_of_ble_eq_true rfl) ?_
      cases hE
      exact Wp.ireturn dc_X11_lumps_51 rfl rfl (Nat.le_refl _) (Nat.le_refl _) hK
    · rw [if_pos hc24] at hE
      refine Wp.aload_n dc_X11_lumps_27 rfl ?_
      refine Wp.sgetR (t := 0) dc_X11_lumps_28 fw_X11_42 (mO10 (by decide)) rfl ?_
      obtain ⟨v31, h31, hE⟩ := bnd hE
      refine Wp.cS1i (ok_X3_howMany (by decide) h31) dc_X11_lumps_31 mw_X11_273 (by decide) (Nat.le_of_ble_eq_true rfl) ?_
      refine Wp.goto (tgt := 51) dc_X11_lumps_34 (by decide) ?_
      cases hE
      exact Wp.ireturn dc_X11_lumps_51 rfl rfl (Nat.le_refl _) (Nat.le_refl _) hK
  · rw [if_pos hc18] at hE
    refine Wp.iconst dc_X11_lumps_21 ic_m1 ?_
    cases hE
    exact Wp.ireturn dc_X11_lumps_22 rfl rfl (Nat.le_refl _) (Nat.le_refl _) hK
theorem ok_X11_lumps_j10 {Q : Option AV → AH → Prop}  {σ : SS}  {x1 : Int32} {o}    (hE : X11_lumps_j10  σ  x1 = some o) (hK : Q (some (vi o.1)) (hp o.2)) : Ws 4 mi_X11_lumps Q 10 [some (vr 10 0), some (vi x1)] [vr 10 0] σ := by
  unfold X11_lumps_j10 at hE
  refine Wp.iconst dc_X11_lumps_10 ic_5 ?_
  refine Wp.goto (tgt := 15) dc_X11_lumps_11 (by decide) ?_
  exact ok_X11_lumps_j15   hE hK
theorem ok_X11_lumps_j0 {Q : Option AV → AH → Prop}  {σ : SS}  {x1 : Int32} {o}    (hE : X11_lumps_j0  σ  x1 = some o) (hK : Q (some (vi o.1)) (hp o.2)) : Ws 4 mi_X11_lumps Q 0 [some (vr 10 0), some (vi x1)] [] σ := by
  unfold X11_lumps_j0 at hE
  refine Wp.aload_n dc_X11_lumps_0 rfl ?_
  refine Wp.iload_n dc_X11_lumps_1 rfl ?_
  refine Wp.if_lt (tgt := 10) dc_X11_lumps_2 (by decide) (fun hc2 => ?_) (fun hc2 => ?_)
  · rw [if_pos hc2] at hE
    exact ok_X11_lumps_j10   hE hK
  · rw [if_neg hc2] at hE
    refine Wp.iload_n dc_X11_lumps_5 rfl ?_
    refine Wp.iconst dc_X11_lumps_6 ic_1 ?_
    refine Wp.icmp_le (tgt := 14) dc_X11_lumps_7 (by decide) (fun hc7 => ?_) (fun hc7 => ?_)
    · rw [if_pos hc7] at hE
      refine Wp.iconst dc_X11_lumps_14 ic_0 ?_
      exact ok_X11_lumps_j15   hE hK
    · rw [if_neg hc7] at hE
      exact ok_X11_lumps_j10   hE hK
theorem ok_X11_lumps  {σ : SS}  {x1 : Int32} {o}   (hE : X11_lumps  σ  x1 = some o) : Runs 4 0 0 mi_X11_lumps [vr 10 0, vi x1] (hp σ) (fun v h => v = some (vi o.1) ∧ h = hp o.2) := by
  refine Runs.of pn_X11 (Nat.le_of_ble_eq_true rfl) ?_
  exact ok_X11_lumps_j0   hE ⟨rfl, rfl⟩
theorem ok_X11_comes_j0 {Q : Option AV → AH → Prop}  {σ : SS}  {x1 : Int32} {o}    (hE : X11_comes_j0  σ  x1 = some o) (hK : Q (some (vi o.1)) (hp o.2)) : Ws 4 mi_X11_comes Q 0 [some (vr 10 0), some (vi x1)] [] σ := by
  unfold X11_comes_j0 at hE
  refine Wp.aload_n dc_X11_comes_0 rfl ?_
  refine Wp.aload_n dc_X11_comes_1 rfl ?_
  refine Wp.iload_n dc_X11_comes_2 rfl ?_
  obtain ⟨v3, h3, hE⟩ := bnd hE
  refine Wp.cV1i (ok_X11_inStatus  h3) dc_X11_comes_3 mw_X11_219 (mO10 (by decide)) (by decide) (Nat.le_of_ble_eq_true rfl) ?_
  obtain ⟨p6, h6, hE⟩ := bnd hE
  refine Wp.cV1i (ok_X11_answers  h6) dc_X11_comes_6 mw_X11_94 (mO10 (by decide)) (by decide) (Nat.le_of_ble_eq_true rfl) ?_
  refine Wp.if_eq (tgt := 31) dc_X11_comes_9 (by decide) (fun hc9 => ?_) (fun hc9 => ?_)
  · rw [if_pos hc9] at hE
    refine Wp.iconst dc_X11_comes_31 ic_m1 ?_
    cases hE
    exact Wp.ireturn dc_X11_comes_32 rfl rfl (Nat.le_refl _) (Nat.le_refl _) hK
  · rw [if_neg hc9] at hE
    refine Wp.aload_n dc_X11_comes_12 rfl ?_
    refine Wp.sgetR (t := 0) dc_X11_comes_13 fw_X11_42 (mO10 (by decide)) rfl ?_
    refine Wp.iload_n dc_X11_comes_16 rfl ?_
    obtain ⟨v17, h17, hE⟩ := bnd hE
    refine Wp.cS2i (ok_X3_isLone (by decide) h17) dc_X11_comes_17 mw_X11_281 (by decide) (Nat.le_of_ble_eq_true rfl) ?_
    refine Wp.if_eq (tgt := 27) dc_X11_comes_20 (by decide) (fun hc20 => ?_) (fun hc20 => ?_)
    · rw [if_pos hc20] at hE
      refine Wp.iconst dc_X11_comes_27 ic_0 ?_
      refine Wp.goto (tgt := 32) dc_X11_comes_28 (by decide) ?_
      cases hE
      exact Wp.ireturn dc_X11_comes_32 rfl rfl (Nat.le_refl _) (Nat.le_refl _) hK
    · rw [if_neg hc20] at hE
      refine Wp.iconst dc_X11_comes_23 ic_1 ?_
      refine Wp.goto (tgt := 32) dc_X11_comes_24 (by decide) ?_
      cases hE
      exact Wp.ireturn dc_X11_comes_32 rfl rfl (Nat.le_refl _) (Nat.le_refl _) hK
theorem ok_X11_comes  {σ : SS}  {x1 : Int32} {o}   (hE : X11_comes  σ  x1 = some o) : Runs 4 0 0 mi_X11_comes [vr 10 0, vi x1] (hp σ) (fun v h => v = some (vi o.1) ∧ h = hp o.2) := by
  refine Runs.of pn_X11 (Nat.le_of_ble_eq_true rfl) ?_
  exact ok_X11_comes_j0   hE ⟨rfl, rfl⟩
theorem ok_X11_easy_j0 {Q : Option AV → AH → Prop}  {σ : SS}   {o}    (hE : X11_easy_j0  σ   = some o) (hK : Q (some (vi o.1)) (hp o.2)) : Ws 5 mi_X11_easy Q 0 [some (vr 10 0)] [] σ := by
  unfold X11_easy_j0 at hE
  refine Wp.aload_n dc_X11_easy_0 rfl ?_
  refine Wp.iconst dc_X11_easy_1 ic_0 ?_
  obtain ⟨p2, h2, hE⟩ := bnd hE
  refine Wp.cV1i (ok_X11_answers  h2) dc_X11_easy_2 mw_X11_94 (mO10 (by decide)) (by decide) (Nat.le_of_ble_eq_true rfl) ?_
  refine Wp.pop dc_X11_easy_5 rfl ?_
  refine Wp.aload_n dc_X11_easy_6 rfl ?_
  refine Wp.sgetR (t := 0) dc_X11_easy_7 fw_X11_42 (mO10 (by decide)) rfl ?_
  obtain ⟨v10, h10, hE⟩ := bnd hE
  refine Wp.cS1i (ok_X3_lone (by decide) h10) dc_X11_easy_10 mw_X11_285 (by decide) (Nat.le_of_ble_eq_true rfl) ?_
  cases hE
  exact Wp.ireturn dc_X11_easy_13 rfl rfl (Nat.le_refl _) (Nat.le_refl _) hK
theorem ok_X11_easy  {σ : SS}   {o}   (hE : X11_easy  σ   = some o) : Runs 5 0 0 mi_X11_easy [vr 10 0] (hp σ) (fun v h => v = some (vi o.1) ∧ h = hp o.2) := by
  refine Runs.of pn_X11 (Nat.le_of_ble_eq_true rfl) ?_
  exact ok_X11_easy_j0   hE ⟨rfl, rfl⟩
theorem ok_X11_free_j17 {Q : Option AV → AH → Prop}  {σ : SS}  {x1 : Int32} {s1 : Int32} {o}    (hE : X11_free_j17  σ  x1 s1 = some o) (hK : Q (some (vi o.1)) (hp o.2)) : Ws 4 mi_X11_free Q 17 [some (vr 10 0), some (vi x1)] [vi s1, vr 10 0] σ := by
  unfold X11_free_j17 at hE
  obtain ⟨p17, h17, hE⟩ := bnd hE
  refine Wp.cV1i (ok_X11_answers  h17) dc_X11_free_17 mw_X11_94 (mO10 (by decide)) (by decide) (Nat.le_of_ble_eq_true rfl) ?_
  refine Wp.if_eq (tgt := 42) dc_X11_free_20 (by decide) (fun hc20 => ?_) (fun hc20 => ?_)
  · rw [if_pos hc20] at hE
    refine Wp.iconst dc_X11_free_42 ic_m1 ?_
    cases hE
    exact Wp.ireturn dc_X11_free_43 rfl rfl (Nat.le_refl _) (Nat.le_refl _) hK
  · rw [if_neg hc20] at hE
    refine Wp.aload_n dc_X11_free_23 rfl ?_
    refine Wp.sgetR (t := 0) dc_X11_free_24 fw_X11_42 (mO10 (by decide)) rfl ?_
    refine Wp.iload_n dc_X11_free_27 rfl ?_
    obtain ⟨v28, h28, hE⟩ := bnd hE
    refine Wp.cV1i (ok_X0_isFree (by decide) h28) dc_X11_free_28 mw_X11_288 (mO0 (by decide)) (by decide) (Nat.le_of_ble_eq_true rfl) ?_
    refine Wp.if_eq (tgt := 38) dc_X11_free_31 (by decide) (fun hc31 => ?_) (fun hc31 => ?_)
    · rw [if_pos hc31] at hE
      refine Wp.iconst dc_X11_free_38 ic_0 ?_
      refine Wp.goto (tgt := 43) dc_X11_free_39 (by decide) ?_
      cases hE
      exact Wp.ireturn dc_X11_free_43 rfl rfl (Nat.le_refl _) (Nat.le_refl _) hK
    · rw [if_neg hc31] at hE
      refine Wp.iconst dc_X11_free_34 ic_1 ?_
      refine Wp.goto (tgt := 43) dc_X11_free_35 (by decide) ?_
      cases hE
      exact Wp.ireturn dc_X11_free_43 rfl rfl (Nat.le_refl _) (Nat.le_refl _) hK
theorem ok_X11_free_j0 {Q : Option AV → AH → Prop}  {σ : SS}  {x1 : Int32} {o}    (hE : X11_free_j0  σ  x1 = some o) (hK : Q (some (vi o.1)) (hp o.2)) : Ws 4 mi_X11_free Q 0 [some (vr 10 0), some (vi x1)] [] σ := by
  unfold X11_free_j0 at hE
  refine Wp.aload_n dc_X11_free_0 rfl ?_
  refine Wp.aload_n dc_X11_free_1 rfl ?_
  refine Wp.sgetR (t := 0) dc_X11_free_2 fw_X11_42 (mO10 (by decide)) rfl ?_
  refine Wp.iload_n dc_X11_free_5 rfl ?_
  obtain ⟨v6, h6, hE⟩ := bnd hE
  refine Wp.cV1i (ok_X0_has (by decide) h6) dc_X11_free_6 mw_X11_180 (mO0 (by decide)) (by decide) (Nat.le_of_ble_eq_true rfl) ?_
  refine Wp.if_eq (tgt := 16) dc_X11_free_9 (by decide) (fun hc9 => ?_) (fun hc9 => ?_)
  · rw [if_pos hc9] at hE
    refine Wp.iconst dc_X11_free_16 ic_2 ?_
    exact ok_X11_free_j17   hE hK
  · rw [if_neg hc9] at hE
    refine Wp.iconst dc_X11_free_12 ic_0 ?_
    refine Wp.goto (tgt := 17) dc_X11_free_13 (by decide) ?_
    exact ok_X11_free_j17   hE hK
theorem ok_X11_free  {σ : SS}  {x1 : Int32} {o}   (hE : X11_free  σ  x1 = some o) : Runs 4 0 0 mi_X11_free [vr 10 0, vi x1] (hp σ) (fun v h => v = some (vi o.1) ∧ h = hp o.2) := by
  refine Runs.of pn_X11 (Nat.le_of_ble_eq_true rfl) ?_
  exact ok_X11_free_j0   hE ⟨rfl, rfl⟩
theorem ok_X11_inState_j15 {Q : Option AV → AH → Prop}  {σ : SS}  {x1 : Int32} {s1 : Int32} {o}    (hE : X11_inState_j15  σ  x1 s1 = some o) (hK : Q (some (vi o.1)) (hp o.2)) : Ws 3 mi_X11_inState Q 15 [some (vr 10 0), some (vi x1)] [vi s1, vr 10 0] σ := by
  unfold X11_inState_j15 at hE
  obtain ⟨p15, h15, hE⟩ := bnd hE
  refine Wp.cV1i (ok_X11_answers  h15) dc_X11_inState_15 mw_X11_94 (mO10 (by decide)) (by decide) (Nat.le_of_ble_eq_true rfl) ?_
  refine Wp.if_eq (tgt := 32) dc_X11_inState_18 (by decide) (fun hc18 => ?_) (fun hc18 => ?_)
  · rw [if_pos hc18] at hE
    refine Wp.iconst dc_X11_inState_32 ic_m1 ?_
    cases hE
    exact Wp.ireturn dc_X11_inState_33 rfl rfl (Nat.le_refl _) (Nat.le_refl _) hK
  · rw [if_neg hc18] at hE
    refine Wp.aload_n dc_X11_inState_21 rfl ?_
    refine Wp.sgetR (t := 0) dc_X11_inState_22 fw_X11_42 (mO10 (by decide)) rfl ?_
    refine Wp.iload_n dc_X11_inState_25 rfl ?_
    obtain ⟨v26, h26, hE⟩ := bnd hE
    refine Wp.cV1i (ok_X0_countInState (by decide) h26) dc_X11_inState_26 mw_X11_291 (mO0 (by decide)) (by decide) (Nat.le_of_ble_eq_true rfl) ?_
    refine Wp.goto (tgt := 33) dc_X11_inState_29 (by decide) ?_
    cases hE
    exact Wp.ireturn dc_X11_inState_33 rfl rfl (Nat.le_refl _) (Nat.le_refl _) hK
theorem ok_X11_inState_j10 {Q : Option AV → AH → Prop}  {σ : SS}  {x1 : Int32} {o}    (hE : X11_inState_j10  σ  x1 = some o) (hK : Q (some (vi o.1)) (hp o.2)) : Ws 3 mi_X11_inState Q 10 [some (vr 10 0), some (vi x1)] [vr 10 0] σ := by
  unfold X11_inState_j10 at hE
  refine Wp.iconst dc_X11_inState_10 ic_5 ?_
  refine Wp.goto (tgt := 15) dc_X11_inState_11 (by decide) ?_
  exact ok_X11_inState_j15   hE hK
theorem ok_X11_inState_j0 {Q : Option AV → AH → Prop}  {σ : SS}  {x1 : Int32} {o}    (hE : X11_inState_j0  σ  x1 = some o) (hK : Q (some (vi o.1)) (hp o.2)) : Ws 3 mi_X11_inState Q 0 [some (vr 10 0), some (vi x1)] [] σ := by
  unfold X11_inState_j0 at hE
  refine Wp.aload_n dc_X11_inState_0 rfl ?_
  refine Wp.iload_n dc_X11_inState_1 rfl ?_
  refine Wp.if_lt (tgt := 10) dc_X11_inState_2 (by decide) (fun hc2 => ?_) (fun hc2 => ?_)
  · rw [if_pos hc2] at hE
    exact ok_X11_inState_j10   hE hK
  · rw [if_neg hc2] at hE
    refine Wp.iload_n dc_X11_inState_5 rfl ?_
    refine Wp.iconst dc_X11_inState_6 ic_3 ?_
    refine Wp.icmp_le (tgt := 14) dc_X11_inState_7 (by decide) (fun hc7 => ?_) (fun hc7 => ?_)
    · rw [if_pos hc7] at hE
      refine Wp.iconst dc_X11_inState_14 ic_0 ?_
      exact ok_X11_inState_j15   hE hK
    · rw [if_neg hc7] at hE
      exact ok_X11_inState_j10   hE hK
theorem ok_X11_inState  {σ : SS}  {x1 : Int32} {o}   (hE : X11_inState  σ  x1 = some o) : Runs 3 0 0 mi_X11_inState [vr 10 0, vi x1] (hp σ) (fun v h => v = some (vi o.1) ∧ h = hp o.2) := by
  refine Runs.of pn_X11 (Nat.le_of_ble_eq_true rfl) ?_
  exact ok_X11_inState_j0   hE ⟨rfl, rfl⟩
theorem ok_X11_worse_j46 {Q : Option AV → AH → Prop}  {σ : SS}  {x1 : Int32} {x2 : Int32} {s1 : Int32} {o}    (hE : X11_worse_j46  σ  x1 x2 s1 = some o) (hK : Q (some (vi o.1)) (hp o.2)) : Ws 4 mi_X11_worse Q 46 [some (vr 10 0), some (vi x1), some (vi x2)] [vi s1, vr 10 0] σ := by
  unfold X11_worse_j46 at hE
  obtain ⟨p46, h46, hE⟩ := bnd hE
  refine Wp.cV1i (ok_X11_answers  h46) dc_X11_worse_46 mw_X11_94 (mO10 (by decide)) (by decide) (Nat.le_of_ble_eq_true rfl) ?_
  refine Wp.if_ne (tgt := 54) dc_X11_worse_49 (by decide) (fun hc49 => ?_) (fun hc49 => ?_)
  · rw [if_neg hc49] at hE
    refine Wp.aload_n dc_X11_worse_54 rfl ?_
    refine Wp.sgetR (t := 1) dc_X11_worse_55 fw_X11_46 (mO10 (by decide)) rfl ?_
    refine Wp.aload_n dc_X11_worse_58 rfl ?_
    refine Wp.sgetR (t := 0) dc_X11_worse_59 fw_X11_42 (mO10 (by decide)) rfl ?_
    obtain ⟨σ62, h62, hE⟩ := bnd hE
    refine Wp.cV1v (ok_X0_takeOver (by decide) (by decide) h62) dc_X11_worse_62 mw_X11_149 (mO0 (by decide)) (by decide) (Nat.le_of_ble_eq_true rfl) ?_
    refine Wp.aload_n dc_X11_worse_65 rfl ?_
    refine Wp.sgetR (t := 1) dc_X11_worse_66 fw_X11_46 (mO10 (by decide)) rfl ?_
    refine Wp.iload_n dc_X11_worse_69 rfl ?_
    refine Wp.aload_n dc_X11_worse_70 rfl ?_
    refine Wp.sgetR (t := 0) dc_X11_worse_71 fw_X11_42 (mO10 (by decide)) rfl ?_
    refine Wp.iload_n dc_X11_worse_74 rfl ?_
    obtain ⟨v75, h75, hE⟩ := bnd hE
    refine Wp.cS2i (ok_X3_isLone (by decide) h75) dc_X11_worse_75 mw_X11_281 (by decide) (Nat.le_of_ble_eq_true rfl) ?_
    obtain ⟨σ78, h78, hE⟩ := bnd hE
    refine Wp.cV2v (ok_X0_pullAt (by decide) h78) dc_X11_worse_78 mw_X11_236 (mO0 (by decide)) (by decide) (Nat.le_of_ble_eq_true rfl) ?_
    refine Wp.aload_n dc_X11_worse_81 rfl ?_
    refine Wp.sgetR (t := 1) dc_X11_worse_82 fw_X11_46 (mO10 (by decide)) rfl ?_
    refine Wp.iload_n dc_X11_worse_85 rfl ?_
    obtain ⟨v86, h86, hE⟩ := bnd hE
    refine Wp.cV1i (ok_X0_countInState (by decide) h86) dc_X11_worse_86 mw_X11_291 (mO0 (by decide)) (by decide) (Nat.le_of_ble_eq_true rfl) ?_
    refine Wp.aload_n dc_X11_worse_89 rfl ?_
    refine Wp.sgetR (t := 0) dc_X11_worse_90 fw_X11_42 (mO10 (by decide)) rfl ?_
    refine Wp.iload_n dc_X11_worse_93 rfl ?_
    obtain ⟨v94, h94, hE⟩ := bnd hE
    refine Wp.cV1i (ok_X0_countInState (by decide) h94) dc_X11_worse_94 mw_X11_291 (mO0 (by decide)) (by decide) (Nat.le_of_ble_eq_true rfl) ?_
    refine Wp.isub dc_X11_worse_97 ?_
    cases hE
    exact Wp.ireturn dc_X11_worse_98 rfl rfl (Nat.le_refl _) (Nat.le_refl _) hK
  · rw [if_pos hc49] at hE
    refine Wp.iconst dc_X11_worse_52 ic_m1 ?_
    cases hE
    exact Wp.ireturn dc_X11_worse_53 rfl rfl (Nat.le_refl _) (Nat.le_refl _) hK
theorem ok_X11_worse_j25 {Q : Option AV → AH → Prop}  {σ : SS}  {x1 : Int32} {x2 : Int32} {o}    (hE : X11_worse_j25  σ  x1 x2 = some o) (hK : Q (some (vi o.1)) (hp o.2)) : Ws 4 mi_X11_worse Q 25 [some (vr 10 0), some (vi x1), some (vi x2)] [vr 10 0] σ := by
  unfold X11_worse_j25 at hE
  refine Wp.iconst dc_X11_worse_25 ic_5 ?_
  refine Wp.goto (tgt := 46) dc_X11_worse_26 (by decide) ?_
  exact ok_X11_worse_j46   hE hK
theorem ok_X11_worse_j0 {Q : Option AV → AH → Prop}  {σ : SS}  {x1 : Int32} {x2 : Int32} {o}    (hE : X11_worse_j0  σ  x1 x2 = some o) (hK : Q (some (vi o.1)) (hp o.2)) : Ws 4 mi_X11_worse Q 0 [some (vr 10 0), some (vi x1), some (vi x2)] [] σ := by
  unfold X11_worse_j0 at hE
  refine Wp.aload_n dc_X11_worse_0 rfl ?_
  refine Wp.aload_n dc_X11_worse_1 rfl ?_
  refine Wp.sgetR (t := 0) dc_X11_worse_2 fw_X11_42 (mO10 (by decide)) rfl ?_
  refine Wp.iload_n dc_X11_worse_5 rfl ?_
  obtain ⟨v6, h6, hE⟩ := bnd hE
  refine Wp.cV1i (ok_X0_has (by decide) h6) dc_X11_worse_6 mw_X11_180 (mO0 (by decide)) (by decide) (Nat.le_of_ble_eq_true rfl) ?_
  refine Wp.if_ne (tgt := 16) dc_X11_worse_9 (by decide) (fun hc9 => ?_) (fun hc9 => ?_)
  · rw [if_neg hc9] at hE
    refine Wp.iload_n dc_X11_worse_16 rfl ?_
    refine Wp.if_lt (tgt := 25) dc_X11_worse_17 (by decide) (fun hc17 => ?_) (fun hc17 => ?_)
    · rw [if_pos hc17] at hE
      exact ok_X11_worse_j25   hE hK
    · rw [if_neg hc17] at hE
      refine Wp.iload_n dc_X11_worse_20 rfl ?_
      refine Wp.iconst dc_X11_worse_21 ic_3 ?_
      refine Wp.icmp_le (tgt := 29) dc_X11_worse_22 (by decide) (fun hc22 => ?_) (fun hc22 => ?_)
      · rw [if_pos hc22] at hE
        refine Wp.aload_n dc_X11_worse_29 rfl ?_
        refine Wp.sgetR (t := 0) dc_X11_worse_30 fw_X11_42 (mO10 (by decide)) rfl ?_
        refine Wp.iload_n dc_X11_worse_33 rfl ?_
        obtain ⟨v34, h34, hE⟩ := bnd hE
        refine Wp.cV1i (ok_X0_isIn (by decide) h34) dc_X11_worse_34 mw_X11_210 (mO0 (by decide)) (by decide) (Nat.le_of_ble_eq_true rfl) ?_
        refine Wp.if_eq (tgt := 44) dc_X11_worse_37 (by decide) (fun hc37 => ?_) (fun hc37 => ?_)
        · rw [if_pos hc37] at hE
          refine Wp.bipush dc_X11_worse_44 bp_9 ?_
          exact ok_X11_worse_j46   hE hK
        · rw [if_neg hc37] at hE
          refine Wp.iconst dc_X11_worse_40 ic_0 ?_
          refine Wp.goto (tgt := 46) dc_X11_worse_41 (by decide) ?_
          exact ok_X11_worse_j46   hE hK
      · rw [if_neg hc22] at hE
        exact ok_X11_worse_j25   hE hK
  · rw [if_pos hc9] at hE
    refine Wp.iconst dc_X11_worse_12 ic_2 ?_
    refine Wp.goto (tgt := 46) dc_X11_worse_13 (by decide) ?_
    exact ok_X11_worse_j46   hE hK
theorem ok_X11_worse  {σ : SS}  {x1 : Int32} {x2 : Int32} {o}   (hE : X11_worse  σ  x1 x2 = some o) : Runs 4 0 0 mi_X11_worse [vr 10 0, vi x1, vi x2] (hp σ) (fun v h => v = some (vi o.1) ∧ h = hp o.2) := by
  refine Runs.of pn_X11 (Nat.le_of_ble_eq_true rfl) ?_
  exact ok_X11_worse_j0   hE ⟨rfl, rfl⟩
theorem ok_X11_someIn_j0 {Q : Option AV → AH → Prop}  {σ : SS}   {o}    (hE : X11_someIn_j0  σ   = some o) (hK : Q (some (vi o)) (hp σ)) : Ws 1 mi_X11_someIn Q 0 [some (vr 10 0)] [] σ := by
  unfold X11_someIn_j0 at hE
  refine Wp.aload_n dc_X11_someIn_0 rfl ?_
  refine Wp.sgetR (t := 0) dc_X11_someIn_1 fw_X11_42 (mO10 (by decide)) rfl ?_
  obtain ⟨v4, h4, hE⟩ := bnd hE
  refine Wp.cV0i (ok_X0_insideSet (by decide) h4) dc_X11_someIn_4 mw_X11_222 (mO0 (by decide)) (by decide) (Nat.le_of_ble_eq_true rfl) ?_
  refine Wp.if_ne (tgt := 15) dc_X11_someIn_7 (by decide) (fun hc7 => ?_) (fun hc7 => ?_)
  · rw [if_neg hc7] at hE
    refine Wp.iconst dc_X11_someIn_15 ic_0 ?_
    cases hE
    exact Wp.ireturn dc_X11_someIn_16 rfl rfl (Nat.le_refl _) (Nat.le_refl _) hK
  · rw [if_pos hc7] at hE
    refine Wp.bipush dc_X11_someIn_10 bp_8 ?_
    refine Wp.goto (tgt := 16) dc_X11_someIn_12 (by decide) ?_
    cases hE
    exact Wp.ireturn dc_X11_someIn_16 rfl rfl (Nat.le_refl _) (Nat.le_refl _) hK
theorem ok_X11_someIn  {σ : SS}   {o}   (hE : X11_someIn  σ   = some o) : Runs 1 0 0 mi_X11_someIn [vr 10 0] (hp σ) (fun v h => v = some (vi o) ∧ h = hp σ) := by
  refine Runs.of pn_X11 (Nat.le_of_ble_eq_true rfl) ?_
  exact ok_X11_someIn_j0   hE ⟨rfl, rfl⟩
theorem ok_X11_worst_j0 {Q : Option AV → AH → Prop}  {σ : SS}   {o}    (hE : X11_worst_j0  σ   = some o) (hK : Q (some (vi o.1)) (hp o.2)) : Ws 4 mi_X11_worst Q 0 [some (vr 10 0)] [] σ := by
  unfold X11_worst_j0 at hE
  refine Wp.aload_n dc_X11_worst_0 rfl ?_
  refine Wp.aload_n dc_X11_worst_1 rfl ?_
  obtain ⟨v2, h2, hE⟩ := bnd hE
  refine Wp.cV0i (ok_X11_someIn  h2) dc_X11_worst_2 mw_X11_294 (mO10 (by decide)) (by decide) (Nat.le_of_ble_eq_true rfl) ?_
  obtain ⟨p5, h5, hE⟩ := bnd hE
  refine Wp.cV1i (ok_X11_answers  h5) dc_X11_worst_5 mw_X11_94 (mO10 (by decide)) (by decide) (Nat.le_of_ble_eq_true rfl) ?_
  refine Wp.if_eq (tgt := 21) dc_X11_worst_8 (by decide) (fun hc8 => ?_) (fun hc8 => ?_)
  · rw [if_pos hc8] at hE
    refine Wp.iconst dc_X11_worst_21 ic_m1 ?_
    cases hE
    exact Wp.ireturn dc_X11_worst_22 rfl rfl (Nat.le_refl _) (Nat.le_refl _) hK
  · rw [if_neg hc8] at hE
    refine Wp.aload_n dc_X11_worst_11 rfl ?_
    refine Wp.sgetR (t := 0) dc_X11_worst_12 fw_X11_42 (mO10 (by decide)) rfl ?_
    obtain ⟨v15, h15, hE⟩ := bnd hE
    refine Wp.cV0i (ok_X0_mostCrossed (by decide) h15) dc_X11_worst_15 mw_X11_297 (mO0 (by decide)) (by decide) (Nat.le_of_ble_eq_true rfl) ?_
    refine Wp.goto (tgt := 22) dc_X11_worst_18 (by decide) ?_
    cases hE
    exact Wp.ireturn dc_X11_worst_22 rfl rfl (Nat.le_refl _) (Nat.le_refl _) hK
theorem ok_X11_worst  {σ : SS}   {o}   (hE : X11_worst  σ   = some o) : Runs 4 0 0 mi_X11_worst [vr 10 0] (hp σ) (fun v h => v = some (vi o.1) ∧ h = hp o.2) := by
  refine Runs.of pn_X11 (Nat.le_of_ble_eq_true rfl) ?_
  exact ok_X11_worst_j0   hE ⟨rfl, rfl⟩
theorem ok_X11_key_j0 {Q : Option AV → AH → Prop}  {σ : SS}   {o}    (hE : X11_key_j0  σ   = some o) (hK : Q (some (vi o.1)) (hp o.2)) : Ws 5 mi_X11_key Q 0 [some (vr 10 0)] [] σ := by
  unfold X11_key_j0 at hE
  refine Wp.aload_n dc_X11_key_0 rfl ?_
  refine Wp.aload_n dc_X11_key_1 rfl ?_
  obtain ⟨v2, h2, hE⟩ := bnd hE
  refine Wp.cV0i (ok_X11_someIn  h2) dc_X11_key_2 mw_X11_294 (mO10 (by decide)) (by decide) (Nat.le_of_ble_eq_true rfl) ?_
  obtain ⟨p5, h5, hE⟩ := bnd hE
  refine Wp.cV1i (ok_X11_answers  h5) dc_X11_key_5 mw_X11_94 (mO10 (by decide)) (by decide) (Nat.le_of_ble_eq_true rfl) ?_
  refine Wp.if_eq (tgt := 21) dc_X11_key_8 (by decide) (fun hc8 => ?_) (fun hc8 => ?_)
  · rw [if_pos hc8] at hE
    refine Wp.iconst dc_X11_key_21 ic_m1 ?_
    cases hE
    exact Wp.ireturn dc_X11_key_22 rfl rfl (Nat.le_refl _) (Nat.le_refl _) hK
  · rw [if_neg hc8] at hE
    refine Wp.aload_n dc_X11_key_11 rfl ?_
    refine Wp.sgetR (t := 0) dc_X11_key_12 fw_X11_42 (mO10 (by decide)) rfl ?_
    obtain ⟨v15, h15, hE⟩ := bnd hE
    refine Wp.cS1i (ok_X3_bestCut (by decide) h15) dc_X11_key_15 mw_X11_300 (by decide) (Nat.le_of_ble_eq_true rfl) ?_
    refine Wp.goto (tgt := 22) dc_X11_key_18 (by decide) ?_
    cases hE
    exact Wp.ireturn dc_X11_key_22 rfl rfl (Nat.le_refl _) (Nat.le_refl _) hK
theorem ok_X11_key  {σ : SS}   {o}   (hE : X11_key  σ   = some o) : Runs 5 0 0 mi_X11_key [vr 10 0] (hp σ) (fun v h => v = some (vi o.1) ∧ h = hp o.2) := by
  refine Runs.of pn_X11 (Nat.le_of_ble_eq_true rfl) ?_
  exact ok_X11_key_j0   hE ⟨rfl, rfl⟩
theorem ok_X11_alone_j0 {Q : Option AV → AH → Prop}  {σ : SS}  {x1 : Int32} {o} {z2 : Option AV}   (hE : X11_alone_j0  σ  x1 = some o) (hK : Q (some (vi o.1)) (hp o.2)) : Ws 4 mi_X11_alone Q 0 [some (vr 10 0), some (vi x1), z2] [] σ := by
  unfold X11_alone_j0 at hE
  refine Wp.aload_n dc_X11_alone_0 rfl ?_
  refine Wp.aload_n dc_X11_alone_1 rfl ?_
  refine Wp.iload_n dc_X11_alone_2 rfl ?_
  obtain ⟨v3, h3, hE⟩ := bnd hE
  refine Wp.cV1i (ok_X11_inStatus  h3) dc_X11_alone_3 mw_X11_219 (mO10 (by decide)) (by decide) (Nat.le_of_ble_eq_true rfl) ?_
  obtain ⟨p6, h6, hE⟩ := bnd hE
  refine Wp.cV1i (ok_X11_answers  h6) dc_X11_alone_6 mw_X11_94 (mO10 (by decide)) (by decide) (Nat.le_of_ble_eq_true rfl) ?_
  refine Wp.if_ne (tgt := 14) dc_X11_alone_9 (by decide) (fun hc9 => ?_) (fun hc9 => ?_)
  · rw [if_neg hc9] at hE
    refine Wp.aload_n dc_X11_alone_14 rfl ?_
    refine Wp.sgetR (t := 0) dc_X11_alone_15 fw_X11_56 (mO10 (by decide)) rfl ?_
    refine Wp.aload_n dc_X11_alone_18 rfl ?_
    refine Wp.sgetR (t := 0) dc_X11_alone_19 fw_X11_42 (mO10 (by decide)) rfl ?_
    refine Wp.iload_n dc_X11_alone_22 rfl ?_
    obtain ⟨p23, h23, hE⟩ := bnd hE
    refine Wp.cV2i (ok_X7_find (by decide) h23) dc_X11_alone_23 mw_X11_303 (mO6 (by decide)) (by decide) (Nat.le_of_ble_eq_true rfl) ?_
    refine Wp.istore_n dc_X11_alone_26 (by decide) ?_
    refine Wp.aload_n dc_X11_alone_27 rfl ?_
    refine Wp.sgetR (t := 0) dc_X11_alone_28 fw_X11_56 (mO10 (by decide)) rfl ?_
    obtain ⟨σ31, h31, hE⟩ := bnd hE
    refine Wp.cV0v (ok_X7_keepWay  h31) dc_X11_alone_31 mw_X11_306 (mO6 (by decide)) (by decide) (Nat.le_of_ble_eq_true rfl) ?_
    refine Wp.iload_n dc_X11_alone_34 rfl ?_
    cases hE
    exact Wp.ireturn dc_X11_alone_35 rfl rfl (Nat.le_refl _) (Nat.le_refl _) hK
  · rw [if_pos hc9] at hE
    refine Wp.iconst dc_X11_alone_12 ic_m1 ?_
    cases hE
    exact Wp.ireturn dc_X11_alone_13 rfl rfl (Nat.le_refl _) (Nat.le_refl _) hK
theorem ok_X11_alone  {σ : SS}  {x1 : Int32} {o}   (hE : X11_alone  σ  x1 = some o) : Runs 4 0 0 mi_X11_alone [vr 10 0, vi x1] (hp σ) (fun v h => v = some (vi o.1) ∧ h = hp o.2) := by
  refine Runs.of pn_X11 (Nat.le_of_ble_eq_true rfl) ?_
  exact ok_X11_alone_j0   hE ⟨rfl, rfl⟩
theorem ok_X11_way_j30 {Q : Option AV → AH → Prop}  {σ : SS}  {x1 : Int32} {s1 : Int32} {o}    (hE : X11_way_j30  σ  x1 s1 = some o) (hK : Q (some (vi o.1)) (hp o.2)) : Ws 2 mi_X11_way Q 30 [some (vr 10 0), some (vi x1)] [vi s1, vr 10 0] σ := by
  unfold X11_way_j30 at hE
  obtain ⟨p30, h30, hE⟩ := bnd hE
  refine Wp.cV1i (ok_X11_answers  h30) dc_X11_way_30 mw_X11_94 (mO10 (by decide)) (by decide) (Nat.le_of_ble_eq_true rfl) ?_
  refine Wp.if_eq (tgt := 47) dc_X11_way_33 (by decide) (fun hc33 => ?_) (fun hc33 => ?_)
  · rw [if_pos hc33] at hE
    refine Wp.iconst dc_X11_way_47 ic_m1 ?_
    cases hE
    exact Wp.ireturn dc_X11_way_48 rfl rfl (Nat.le_refl _) (Nat.le_refl _) hK
  · rw [if_neg hc33] at hE
    refine Wp.aload_n dc_X11_way_36 rfl ?_
    refine Wp.sgetR (t := 0) dc_X11_way_37 fw_X11_56 (mO10 (by decide)) rfl ?_
    refine Wp.iload_n dc_X11_way_40 rfl ?_
    obtain ⟨v41, h41, hE⟩ := bnd hE
    refine Wp.cV1i (ok_X7_keptWay  h41) dc_X11_way_41 mw_X11_312 (mO6 (by decide)) (by decide) (Nat.le_of_ble_eq_true rfl) ?_
    refine Wp.goto (tgt := 48) dc_X11_way_44 (by decide) ?_
    cases hE
    exact Wp.ireturn dc_X11_way_48 rfl rfl (Nat.le_refl _) (Nat.le_refl _) hK
theorem ok_X11_way_j10 {Q : Option AV → AH → Prop}  {σ : SS}  {x1 : Int32} {o}    (hE : X11_way_j10  σ  x1 = some o) (hK : Q (some (vi o.1)) (hp o.2)) : Ws 2 mi_X11_way Q 10 [some (vr 10 0), some (vi x1)] [vr 10 0] σ := by
  unfold X11_way_j10 at hE
  refine Wp.iconst dc_X11_way_10 ic_5 ?_
  refine Wp.goto (tgt := 30) dc_X11_way_11 (by decide) ?_
  exact ok_X11_way_j30   hE hK
theorem ok_X11_way_j0 {Q : Option AV → AH → Prop}  {σ : SS}  {x1 : Int32} {o}    (hE : X11_way_j0  σ  x1 = some o) (hK : Q (some (vi o.1)) (hp o.2)) : Ws 2 mi_X11_way Q 0 [some (vr 10 0), some (vi x1)] [] σ := by
  unfold X11_way_j0 at hE
  refine Wp.aload_n dc_X11_way_0 rfl ?_
  refine Wp.iload_n dc_X11_way_1 rfl ?_
  refine Wp.if_lt (tgt := 10) dc_X11_way_2 (by decide) (fun hc2 => ?_) (fun hc2 => ?_)
  · rw [if_pos hc2] at hE
    exact ok_X11_way_j10   hE hK
  · rw [if_neg hc2] at hE
    refine Wp.iload_n dc_X11_way_5 rfl ?_
    refine Wp.iconst dc_X11_way_6 ic_3 ?_
    refine Wp.icmp_le (tgt := 14) dc_X11_way_7 (by decide) (fun hc7 => ?_) (fun hc7 => ?_)
    · rw [if_pos hc7] at hE
      refine Wp.aload_n dc_X11_way_14 rfl ?_
      refine Wp.sgetR (t := 0) dc_X11_way_15 fw_X11_56 (mO10 (by decide)) rfl ?_
      obtain ⟨v18, h18, hE⟩ := bnd hE
      refine Wp.cV0i (ok_X7_hasWay  h18) dc_X11_way_18 mw_X11_309 (mO6 (by decide)) (by decide) (Nat.le_of_ble_eq_true rfl) ?_
      refine Wp.if_eq (tgt := 28) dc_X11_way_21 (by decide) (fun hc21 => ?_) (fun hc21 => ?_)
      · rw [if_pos hc21] at hE
        refine Wp.bipush dc_X11_way_28 bp_8 ?_
        exact ok_X11_way_j30   hE hK
      · rw [if_neg hc21] at hE
        refine Wp.iconst dc_X11_way_24 ic_0 ?_
        refine Wp.goto (tgt := 30) dc_X11_way_25 (by decide) ?_
        exact ok_X11_way_j30   hE hK
    · rw [if_neg hc7] at hE
      exact ok_X11_way_j10   hE hK
theorem ok_X11_way  {σ : SS}  {x1 : Int32} {o}   (hE : X11_way  σ  x1 = some o) : Runs 2 0 0 mi_X11_way [vr 10 0, vi x1] (hp σ) (fun v h => v = some (vi o.1) ∧ h = hp o.2) := by
  refine Runs.of pn_X11 (Nat.le_of_ble_eq_true rfl) ?_
  exact ok_X11_way_j0   hE ⟨rfl, rfl⟩
theorem ok_X11_follows_j71 {Q : Option AV → AH → Prop}  {σ : SS}  {x1 : Int32} {x2 : Int32} {x3 : Int32} {s1 : Int32} {o}    (hE : X11_follows_j71  σ  x1 x2 x3 s1 = some o) (hK : Q (some (vi o.1)) (hp o.2)) : Ws 4 mi_X11_follows Q 71 [some (vr 10 0), some (vi x1), some (vi x2), some (vi x3)] [vi s1, vr 10 0] σ := by
  unfold X11_follows_j71 at hE
  obtain ⟨p71, h71, hE⟩ := bnd hE
  refine Wp.cV1i (ok_X11_answers  h71) dc_X11_follows_71 mw_X11_94 (mO10 (by decide)) (by decide) (Nat.le_of_ble_eq_true rfl) ?_
  refine Wp.if_eq (tgt := 94) dc_X11_follows_74 (by decide) (fun hc74 => ?_) (fun hc74 => ?_)
  · rw [if_pos hc74] at hE
    refine Wp.iconst dc_X11_follows_94 ic_m1 ?_
    cases hE
    exact Wp.ireturn dc_X11_follows_95 rfl rfl (Nat.le_refl _) (Nat.le_refl _) hK
  · rw [if_neg hc74] at hE
    refine Wp.aload_n dc_X11_follows_77 rfl ?_
    refine Wp.sgetR (t := 0) dc_X11_follows_78 fw_X11_56 (mO10 (by decide)) rfl ?_
    refine Wp.aload_n dc_X11_follows_81 rfl ?_
    refine Wp.sgetR (t := 0) dc_X11_follows_82 fw_X11_42 (mO10 (by decide)) rfl ?_
    refine Wp.iload_n dc_X11_follows_85 rfl ?_
    refine Wp.iload_n dc_X11_follows_86 rfl ?_
    refine Wp.iload_n dc_X11_follows_87 rfl ?_
    obtain ⟨p88, h88, hE⟩ := bnd hE
    refine Wp.cV4i (ok_X7_secondsOfEnds (by decide) h88) dc_X11_follows_88 mw_X11_315 (mO6 (by decide)) (by decide) (Nat.le_of_ble_eq_true rfl) ?_
    refine Wp.goto (tgt := 95) dc_X11_follows_91 (by decide) ?_
    cases hE
    exact Wp.ireturn dc_X11_follows_95 rfl rfl (Nat.le_refl _) (Nat.le_refl _) hK
theorem ok_X11_follows_j66 {Q : Option AV → AH → Prop}  {σ : SS}  {x1 : Int32} {x2 : Int32} {x3 : Int32} {o}    (hE : X11_follows_j66  σ  x1 x2 x3 = some o) (hK : Q (some (vi o.1)) (hp o.2)) : Ws 4 mi_X11_follows Q 66 [some (vr 10 0), some (vi x1), some (vi x2), some (vi x3)] [vr 10 0] σ := by
  unfold X11_follows_j66 at hE
  refine Wp.iconst dc_X11_follows_66 ic_5 ?_
  refine Wp.goto (tgt := 71) dc_X11_follows_67 (by decide) ?_
  exact ok_X11_follows_j71   hE hK
theorem ok_X11_follows_j0 {Q : Option AV → AH → Prop}  {σ : SS}  {x1 : Int32} {x2 : Int32} {x3 : Int32} {o}    (hE : X11_follows_j0  σ  x1 x2 x3 = some o) (hK : Q (some (vi o.1)) (hp o.2)) : Ws 4 mi_X11_follows Q 0 [some (vr 10 0), some (vi x1), some (vi x2), some (vi x3)] [] σ := by
  unfold X11_follows_j0 at hE
  refine Wp.aload_n dc_X11_follows_0 rfl ?_
  refine Wp.aload_n dc_X11_follows_1 rfl ?_
  refine Wp.sgetR (t := 0) dc_X11_follows_2 fw_X11_42 (mO10 (by decide)) rfl ?_
  refine Wp.iload_n dc_X11_follows_5 rfl ?_
  obtain ⟨v6, h6, hE⟩ := bnd hE
  refine Wp.cV1i (ok_X0_has (by decide) h6) dc_X11_follows_6 mw_X11_180 (mO0 (by decide)) (by decide) (Nat.le_of_ble_eq_true rfl) ?_
  refine Wp.if_ne (tgt := 16) dc_X11_follows_9 (by decide) (fun hc9 => ?_) (fun hc9 => ?_)
  · rw [if_neg hc9] at hE
    refine Wp.aload_n dc_X11_follows_16 rfl ?_
    refine Wp.sgetR (t := 0) dc_X11_follows_17 fw_X11_42 (mO10 (by decide)) rfl ?_
    refine Wp.iload_n dc_X11_follows_20 rfl ?_
    obtain ⟨v21, h21, hE⟩ := bnd hE
    refine Wp.cV1i (ok_X0_isIn (by decide) h21) dc_X11_follows_21 mw_X11_210 (mO0 (by decide)) (by decide) (Nat.le_of_ble_eq_true rfl) ?_
    refine Wp.if_ne (tgt := 32) dc_X11_follows_24 (by decide) (fun hc24 => ?_) (fun hc24 => ?_)
    · rw [if_neg hc24] at hE
      refine Wp.iload_n dc_X11_follows_32 rfl ?_
      refine Wp.if_lt (tgt := 66) dc_X11_follows_33 (by decide) (fun hc33 => ?_) (fun hc33 => ?_)
      · rw [if_pos hc33] at hE
        exact ok_X11_follows_j66   hE hK
      · rw [if_neg hc33] at hE
        refine Wp.iload_n dc_X11_follows_36 rfl ?_
        refine Wp.if_lt (tgt := 66) dc_X11_follows_37 (by decide) (fun hc37 => ?_) (fun hc37 => ?_)
        · rw [if_pos hc37] at hE
          exact ok_X11_follows_j66   hE hK
        · rw [if_neg hc37] at hE
          refine Wp.iload_n dc_X11_follows_40 rfl ?_
          refine Wp.aload_n dc_X11_follows_41 rfl ?_
          refine Wp.sgetR (t := 0) dc_X11_follows_42 fw_X11_42 (mO10 (by decide)) rfl ?_
          refine Wp.iload_n dc_X11_follows_45 rfl ?_
          obtain ⟨v46, h46, hE⟩ := bnd hE
          refine Wp.cV1i (ok_X0_countOn (by decide) h46) dc_X11_follows_46 mw_X11_183 (mO0 (by decide)) (by decide) (Nat.le_of_ble_eq_true rfl) ?_
          refine Wp.icmp_gt (tgt := 66) dc_X11_follows_49 (by decide) (fun hc49 => ?_) (fun hc49 => ?_)
          · rw [if_pos hc49] at hE
            exact ok_X11_follows_j66   hE hK
          · rw [if_neg hc49] at hE
            refine Wp.iload_n dc_X11_follows_52 rfl ?_
            refine Wp.aload_n dc_X11_follows_53 rfl ?_
            refine Wp.sgetR (t := 0) dc_X11_follows_54 fw_X11_42 (mO10 (by decide)) rfl ?_
            refine Wp.iload_n dc_X11_follows_57 rfl ?_
            obtain ⟨v58, h58, hE⟩ := bnd hE
            refine Wp.cV1i (ok_X0_countOn (by decide) h58) dc_X11_follows_58 mw_X11_183 (mO0 (by decide)) (by decide) (Nat.le_of_ble_eq_true rfl) ?_
            refine Wp.iload_n dc_X11_follows_61 rfl ?_
            refine Wp.isub dc_X11_follows_62 ?_
            refine Wp.icmp_le (tgt := 70) dc_X11_follows_63 (by decide) (fun hc63 => ?_) (fun hc63 => ?_)
            · rw [if_pos hc63] at hE
              refine Wp.iconst dc_X11_follows_70 ic_0 ?_
              exact ok_X11_follows_j71   hE hK
            · rw [if_neg hc63] at hE
              exact ok_X11_follows_j66   hE hK
    · rw [if_pos hc24] at hE
      refine Wp.bipush dc_X11_follows_27 bp_9 ?_
      refine Wp.goto (tgt := 71) dc_X11_follows_29 (by decide) ?_
      exact ok_X11_follows_j71   hE hK
  · rw [if_pos hc9] at hE
    refine Wp.iconst dc_X11_follows_12 ic_2 ?_
    refine Wp.goto (tgt := 71) dc_X11_follows_13 (by decide) ?_
    exact ok_X11_follows_j71   hE hK
theorem ok_X11_follows  {σ : SS}  {x1 : Int32} {x2 : Int32} {x3 : Int32} {o}   (hE : X11_follows  σ  x1 x2 x3 = some o) : Runs 4 0 0 mi_X11_follows [vr 10 0, vi x1, vi x2, vi x3] (hp σ) (fun v h => v = some (vi o.1) ∧ h = hp o.2) := by
  refine Runs.of pn_X11 (Nat.le_of_ble_eq_true rfl) ?_
  exact ok_X11_follows_j0   hE ⟨rfl, rfl⟩
theorem ok_X11_all_j0 {Q : Option AV → AH → Prop}  {σ : SS}   {o}    (hE : X11_all_j0  σ   = some o) (hK : Q (some (vi o.1)) (hp o.2)) : Ws 7 mi_X11_all Q 0 [some (vr 10 0)] [] σ := by
  unfold X11_all_j0 at hE
  refine Wp.aload_n dc_X11_all_0 rfl ?_
  refine Wp.iconst dc_X11_all_1 ic_0 ?_
  obtain ⟨p2, h2, hE⟩ := bnd hE
  refine Wp.cV1i (ok_X11_answers  h2) dc_X11_all_2 mw_X11_94 (mO10 (by decide)) (by decide) (Nat.le_of_ble_eq_true rfl) ?_
  refine Wp.pop dc_X11_all_5 rfl ?_
  refine Wp.aload_n dc_X11_all_6 rfl ?_
  refine Wp.sgetR (t := 0) dc_X11_all_7 fw_X11_56 (mO10 (by decide)) rfl ?_
  refine Wp.aload_n dc_X11_all_10 rfl ?_
  refine Wp.sgetR (t := 0) dc_X11_all_11 fw_X11_42 (mO10 (by decide)) rfl ?_
  obtain ⟨p14, h14, hE⟩ := bnd hE
  refine Wp.cV1i (ok_X7_findAll (by decide) h14) dc_X11_all_14 mw_X11_319 (mO6 (by decide)) (by decide) (Nat.le_of_ble_eq_true rfl) ?_
  cases hE
  exact Wp.ireturn dc_X11_all_17 rfl rfl (Nat.le_refl _) (Nat.le_refl _) hK
theorem ok_X11_all  {σ : SS}   {o}   (hE : X11_all  σ   = some o) : Runs 7 0 0 mi_X11_all [vr 10 0] (hp σ) (fun v h => v = some (vi o.1) ∧ h = hp o.2) := by
  refine Runs.of pn_X11 (Nat.le_of_ble_eq_true rfl) ?_
  exact ok_X11_all_j0   hE ⟨rfl, rfl⟩
theorem ok_X11_order_j22 {Q : Option AV → AH → Prop}  {σ : SS}  {x1 : Int32} {s1 : Int32} {o}    (hE : X11_order_j22  σ  x1 s1 = some o) (hK : Q (some (vi o.1)) (hp o.2)) : Ws 2 mi_X11_order Q 22 [some (vr 10 0), some (vi x1)] [vi s1, vr 10 0] σ := by
  unfold X11_order_j22 at hE
  obtain ⟨p22, h22, hE⟩ := bnd hE
  refine Wp.cV1i (ok_X11_answers  h22) dc_X11_order_22 mw_X11_94 (mO10 (by decide)) (by decide) (Nat.le_of_ble_eq_true rfl) ?_
  refine Wp.if_eq (tgt := 39) dc_X11_order_25 (by decide) (fun hc25 => ?_) (fun hc25 => ?_)
  · rw [if_pos hc25] at hE
    refine Wp.iconst dc_X11_order_39 ic_m1 ?_
    cases hE
    exact Wp.ireturn dc_X11_order_40 rfl rfl (Nat.le_refl _) (Nat.le_refl _) hK
  · rw [if_neg hc25] at hE
    refine Wp.aload_n dc_X11_order_28 rfl ?_
    refine Wp.sgetR (t := 0) dc_X11_order_29 fw_X11_56 (mO10 (by decide)) rfl ?_
    refine Wp.iload_n dc_X11_order_32 rfl ?_
    obtain ⟨v33, h33, hE⟩ := bnd hE
    refine Wp.cV1i (ok_X7_inOrder  h33) dc_X11_order_33 mw_X11_325 (mO6 (by decide)) (by decide) (Nat.le_of_ble_eq_true rfl) ?_
    refine Wp.goto (tgt := 40) dc_X11_order_36 (by decide) ?_
    cases hE
    exact Wp.ireturn dc_X11_order_40 rfl rfl (Nat.le_refl _) (Nat.le_refl _) hK
theorem ok_X11_order_j16 {Q : Option AV → AH → Prop}  {σ : SS}  {x1 : Int32} {o}    (hE : X11_order_j16  σ  x1 = some o) (hK : Q (some (vi o.1)) (hp o.2)) : Ws 2 mi_X11_order Q 16 [some (vr 10 0), some (vi x1)] [vr 10 0] σ := by
  unfold X11_order_j16 at hE
  refine Wp.bipush dc_X11_order_16 bp_8 ?_
  refine Wp.goto (tgt := 22) dc_X11_order_18 (by decide) ?_
  exact ok_X11_order_j22   hE hK
theorem ok_X11_order_j0 {Q : Option AV → AH → Prop}  {σ : SS}  {x1 : Int32} {o}    (hE : X11_order_j0  σ  x1 = some o) (hK : Q (some (vi o.1)) (hp o.2)) : Ws 2 mi_X11_order Q 0 [some (vr 10 0), some (vi x1)] [] σ := by
  unfold X11_order_j0 at hE
  refine Wp.aload_n dc_X11_order_0 rfl ?_
  refine Wp.iload_n dc_X11_order_1 rfl ?_
  refine Wp.if_lt (tgt := 16) dc_X11_order_2 (by decide) (fun hc2 => ?_) (fun hc2 => ?_)
  · rw [if_pos hc2] at hE
    exact ok_X11_order_j16   hE hK
  · rw [if_neg hc2] at hE
    refine Wp.iload_n dc_X11_order_5 rfl ?_
    refine Wp.aload_n dc_X11_order_6 rfl ?_
    refine Wp.sgetR (t := 0) dc_X11_order_7 fw_X11_56 (mO10 (by decide)) rfl ?_
    obtain ⟨v10, h10, hE⟩ := bnd hE
    refine Wp.cV0i (ok_X7_orderLength  h10) dc_X11_order_10 mw_X11_322 (mO6 (by decide)) (by decide) (Nat.le_of_ble_eq_true rfl) ?_
    refine Wp.icmp_lt (tgt := 21) dc_X11_order_13 (by decide) (fun hc13 => ?_) (fun hc13 => ?_)
    · rw [if_pos hc13] at hE
      refine Wp.iconst dc_X11_order_21 ic_0 ?_
      exact ok_X11_order_j22   hE hK
    · rw [if_neg hc13] at hE
      exact ok_X11_order_j16   hE hK
theorem ok_X11_order  {σ : SS}  {x1 : Int32} {o}   (hE : X11_order  σ  x1 = some o) : Runs 2 0 0 mi_X11_order [vr 10 0, vi x1] (hp σ) (fun v h => v = some (vi o.1) ∧ h = hp o.2) := by
  refine Runs.of pn_X11 (Nat.le_of_ble_eq_true rfl) ?_
  exact ok_X11_order_j0   hE ⟨rfl, rfl⟩
theorem ok_X11_loosens_j17 {Q : Option AV → AH → Prop}  {σ : SS}  {s1 : Int32} {o}    (hE : X11_loosens_j17  σ  s1 = some o) (hK : Q (some (vi o.1)) (hp o.2)) : Ws 1 mi_X11_loosens Q 17 [some (vr 10 0)] [vi s1, vr 10 0] σ := by
  unfold X11_loosens_j17 at hE
  obtain ⟨p17, h17, hE⟩ := bnd hE
  refine Wp.cV1i (ok_X11_answers  h17) dc_X11_loosens_17 mw_X11_94 (mO10 (by decide)) (by decide) (Nat.le_of_ble_eq_true rfl) ?_
  refine Wp.if_eq (tgt := 33) dc_X11_loosens_20 (by decide) (fun hc20 => ?_) (fun hc20 => ?_)
  · rw [if_pos hc20] at hE
    refine Wp.iconst dc_X11_loosens_33 ic_m1 ?_
    cases hE
    exact Wp.ireturn dc_X11_loosens_34 rfl rfl (Nat.le_refl _) (Nat.le_refl _) hK
  · rw [if_neg hc20] at hE
    refine Wp.aload_n dc_X11_loosens_23 rfl ?_
    refine Wp.sgetR (t := 0) dc_X11_loosens_24 fw_X11_56 (mO10 (by decide)) rfl ?_
    obtain ⟨v27, h27, hE⟩ := bnd hE
    refine Wp.cV0i (ok_X7_loosensFirst  h27) dc_X11_loosens_27 mw_X11_331 (mO6 (by decide)) (by decide) (Nat.le_of_ble_eq_true rfl) ?_
    refine Wp.goto (tgt := 34) dc_X11_loosens_30 (by decide) ?_
    cases hE
    exact Wp.ireturn dc_X11_loosens_34 rfl rfl (Nat.le_refl _) (Nat.le_refl _) hK
theorem ok_X11_loosens_j0 {Q : Option AV → AH → Prop}  {σ : SS}   {o}    (hE : X11_loosens_j0  σ   = some o) (hK : Q (some (vi o.1)) (hp o.2)) : Ws 1 mi_X11_loosens Q 0 [some (vr 10 0)] [] σ := by
  unfold X11_loosens_j0 at hE
  refine Wp.aload_n dc_X11_loosens_0 rfl ?_
  refine Wp.aload_n dc_X11_loosens_1 rfl ?_
  refine Wp.sgetR (t := 0) dc_X11_loosens_2 fw_X11_56 (mO10 (by decide)) rfl ?_
  obtain ⟨v5, h5, hE⟩ := bnd hE
  refine Wp.cV0i (ok_X7_hasOrder  h5) dc_X11_loosens_5 mw_X11_328 (mO6 (by decide)) (by decide) (Nat.le_of_ble_eq_true rfl) ?_
  refine Wp.if_eq (tgt := 15) dc_X11_loosens_8 (by decide) (fun hc8 => ?_) (fun hc8 => ?_)
  · rw [if_pos hc8] at hE
    refine Wp.bipush dc_X11_loosens_15 bp_8 ?_
    exact ok_X11_loosens_j17   hE hK
  · rw [if_neg hc8] at hE
    refine Wp.iconst dc_X11_loosens_11 ic_0 ?_
    refine Wp.goto (tgt := 17) dc_X11_loosens_12 (by decide) ?_
    exact ok_X11_loosens_j17   hE hK
theorem ok_X11_loosens  {σ : SS}   {o}   (hE : X11_loosens  σ   = some o) : Runs 1 0 0 mi_X11_loosens [vr 10 0] (hp σ) (fun v h => v = some (vi o.1) ∧ h = hp o.2) := by
  refine Runs.of pn_X11 (Nat.le_of_ble_eq_true rfl) ?_
  exact ok_X11_loosens_j0   hE ⟨rfl, rfl⟩
theorem ok_X11_soonest_j0 {Q : Option AV → AH → Prop}  {σ : SS}   {o}    (hE : X11_soonest_j0  σ   = some o) (hK : Q (some (vi o.1)) (hp o.2)) : Ws 5 mi_X11_soonest Q 0 [some (vr 10 0)] [] σ := by
  unfold X11_soonest_j0 at hE
  refine Wp.aload_n dc_X11_soonest_0 rfl ?_
  refine Wp.aload_n dc_X11_soonest_1 rfl ?_
  obtain ⟨v2, h2, hE⟩ := bnd hE
  refine Wp.cV0i (ok_X11_someIn  h2) dc_X11_soonest_2 mw_X11_294 (mO10 (by decide)) (by decide) (Nat.le_of_ble_eq_true rfl) ?_
  obtain ⟨p5, h5, hE⟩ := bnd hE
  refine Wp.cV1i (ok_X11_answers  h5) dc_X11_soonest_5 mw_X11_94 (mO10 (by decide)) (by decide) (Nat.le_of_ble_eq_true rfl) ?_
  refine Wp.if_eq (tgt := 25) dc_X11_soonest_8 (by decide) (fun hc8 => ?_) (fun hc8 => ?_)
  · rw [if_pos hc8] at hE
    refine Wp.iconst dc_X11_soonest_25 ic_m1 ?_
    cases hE
    exact Wp.ireturn dc_X11_soonest_26 rfl rfl (Nat.le_refl _) (Nat.le_refl _) hK
  · rw [if_neg hc8] at hE
    refine Wp.aload_n dc_X11_soonest_11 rfl ?_
    refine Wp.sgetR (t := 0) dc_X11_soonest_12 fw_X11_56 (mO10 (by decide)) rfl ?_
    refine Wp.aload_n dc_X11_soonest_15 rfl ?_
    refine Wp.sgetR (t := 0) dc_X11_soonest_16 fw_X11_42 (mO10 (by decide)) rfl ?_
    obtain ⟨p19, h19, hE⟩ := bnd hE
    refine Wp.cV1i (ok_X7_soonestOf (by decide) h19) dc_X11_soonest_19 mw_X11_334 (mO6 (by decide)) (by decide) (Nat.le_of_ble_eq_true rfl) ?_
    refine Wp.goto (tgt := 26) dc_X11_soonest_22 (by decide) ?_
    cases hE
    exact Wp.ireturn dc_X11_soonest_26 rfl rfl (Nat.le_refl _) (Nat.le_refl _) hK
theorem ok_X11_soonest  {σ : SS}   {o}   (hE : X11_soonest  σ   = some o) : Runs 5 0 0 mi_X11_soonest [vr 10 0] (hp σ) (fun v h => v = some (vi o.1) ∧ h = hp o.2) := by
  refine Runs.of pn_X11 (Nat.le_of_ble_eq_true rfl) ?_
  exact ok_X11_soonest_j0   hE ⟨rfl, rfl⟩
theorem ok_X11_isPence_j0 {Q : Option AV → AH → Prop}  {σ : SS}  {x0 : Int32} {o}    (hE : X11_isPence_j0  σ  x0 = some o) (hK : Q (some (vi o)) (hp σ)) : Ws 0 mi_X11_isPence Q 0 [some (vi x0)] [] σ := by
  unfold X11_isPence_j0 at hE
  refine Wp.iload_n dc_X11_isPence_0 rfl ?_
  refine Wp.if_lt (tgt := 15) dc_X11_isPence_1 (by decide) (fun hc1 => ?_) (fun hc1 => ?_)
  · rw [if_pos hc1] at hE
    refine Wp.iconst dc_X11_isPence_15 ic_0 ?_
    cases hE
    exact Wp.ireturn dc_X11_isPence_16 rfl Nr.z0.1 (Nat.le_refl _) (Nat.le_refl _) hK
  · rw [if_neg hc1] at hE
    refine Wp.iload_n dc_X11_isPence_4 rfl ?_
    refine Wp.sipush dc_X11_isPence_5 sp_999 ?_
    refine Wp.icmp_gt (tgt := 15) dc_X11_isPence_8 (by decide) (fun hc8 => ?_) (fun hc8 => ?_)
    · rw [if_pos hc8] at hE
      refine Wp.iconst dc_X11_isPence_15 ic_0 ?_
      cases hE
      exact Wp.ireturn dc_X11_isPence_16 rfl Nr.z0.1 (Nat.le_refl _) (Nat.le_refl _) hK
    · rw [if_neg hc8] at hE
      refine Wp.iconst dc_X11_isPence_11 ic_1 ?_
      refine Wp.goto (tgt := 16) dc_X11_isPence_12 (by decide) ?_
      cases hE
      exact Wp.ireturn dc_X11_isPence_16 rfl Nr.z1.1 (Nat.le_refl _) (Nat.le_refl _) hK
theorem ok_X11_isPence  {σ : SS}  {x0 : Int32} {o}   (hE : X11_isPence  σ  x0 = some o) : Runs 0 0 0 mi_X11_isPence [vi x0] (hp σ) (fun v h => v = some (vi o) ∧ h = hp σ) := by
  refine Runs.of pn_X11 (Nat.le_of_ble_eq_true rfl) ?_
  exact ok_X11_isPence_j0   hE ⟨rfl, rfl⟩
def X11_commonDivisor_P9 (Q : Option AV → AH → Prop) (σ : SS)   (ss : Int64 × Int64 × Int32) : Prop := ∀ z0 z1 z2 z3 z9 z10 : Option AV, Ws 0 mi_X11_commonDivisor Q 9 [z0, z1, z2, z3, some (vl ss.1), none, some (vl ss.2.1), none, some (vi ss.2.2), z9, z10] [] σ
def X11_commonDivisor_R9 (Q : Option AV → AH → Prop) (σ : SS)   (tt : Int64) : Prop := ∀ z0 z1 z2 z3 z6 z7 z8 z9 z10 : Option AV, Ws 0 mi_X11_commonDivisor Q 44 [z0, z1, z2, z3, some (vl tt), none, z6, z7, z8, z9, z10] [] σ
theorem ok_X11_commonDivisor_l9c {Q : Option AV → AH → Prop}  {σ : SS}   {y4 : Int64} {y6 : Int64} {x8 : Int32} {o} {z0 z1 z2 z3 z9 z10 : Option AV}   (hE : X11_commonDivisor_l9c  σ   y4 y6 x8 = some o) (hS : ∀ ss, o = Sum.inl ss → (X11_commonDivisor_P9  Q σ  ) ss) (hT : ∀ tt, o = Sum.inr tt → (X11_commonDivisor_R9  Q σ  ) tt) : Ws 0 mi_X11_commonDivisor Q 9 [z0, z1, z2, z3, some (vl y4), none, some (vl y6), none, some (vi x8), z9, z10] [] σ := by
  unfold X11_commonDivisor_l9c at hE
  refine Wp.iload dc_X11_commonDivisor_9 rfl ?_
  refine Wp.bipush dc_X11_commonDivisor_11 bp_100 ?_
  refine Wp.icmp_ge (tgt := 44) dc_X11_commonDivisor_13 (by decide) (fun hc13 => ?_) (fun hc13 => ?_)
  · rw [if_pos hc13] at hE
    cases hE
    exact hT _ rfl _ _ _ _ _ _ _ _ _
  · rw [if_neg hc13] at hE
    refine Wp.lload dc_X11_commonDivisor_16 rfl ?_
    refine Wp.lconst dc_X11_commonDivisor_18 lc_0 ?_
    refine Wp.lcmp dc_X11_commonDivisor_19 ?_
    refine Wp.if_eq (tgt := 44) dc_X11_commonDivisor_20 (by decide) (fun hc20 => ?_) (fun hc20 => ?_)
    · rw [if_pos hc20] at hE
      cases hE
      exact hT _ rfl _ _ _ _ _ _ _ _ _
    · rw [if_neg hc20] at hE
      refine Wp.lload dc_X11_commonDivisor_23 rfl ?_
      refine Wp.lload dc_X11_commonDivisor_25 rfl ?_
      obtain ⟨w27, h27, hE⟩ := bnd hE
      refine Wp.lrem dc_X11_commonDivisor_27 (nzL_some h27) ?_
      obtain ⟨y9_28, e_28, hE⟩ := bnS hE
      rw [e_28]
      refine Wp.lstore dc_X11_commonDivisor_28 (by decide) ?_
      refine Wp.lload dc_X11_commonDivisor_30 rfl ?_
      refine Wp.lstore dc_X11_commonDivisor_32 (by decide) ?_
      refine Wp.lload dc_X11_commonDivisor_34 rfl ?_
      refine Wp.lstore dc_X11_commonDivisor_36 (by decide) ?_
      obtain ⟨x8_38, e_38, hE⟩ := bnS hE
      refine Wp.iinc dc_X11_commonDivisor_38 rfl ((ii ic_1).trans e_38) (by decide) ?_
      refine Wp.goto (tgt := 9) dc_X11_commonDivisor_41 (by decide) ?_
      cases hE
      exact hS _ rfl _ _ _ _ _ _
theorem ok_X11_commonDivisor_l9 {Q : Option AV → AH → Prop}  {σ : SS}  {y4 : Int64} {y6 : Int64} {x8 : Int32} {o} {z0 z1 z2 z3 z9 z10 : Option AV}   (hE : X11_commonDivisor_l9  σ  y4 y6 x8 = some o) (hK : Q (some (vl o)) (hp σ)) : Ws 0 mi_X11_commonDivisor Q 9 [z0, z1, z2, z3, some (vl y4), none, some (vl y6), none, some (vi x8), z9, z10] [] σ := by
  unfold X11_commonDivisor_l9 at hE
  obtain ⟨t9, h1, hE⟩ := bnd hE
  refine iter_ok (P := (X11_commonDivisor_P9  Q σ  )) (R := (X11_commonDivisor_R9  Q σ  )) (fun ss o h2 hS hT => ?_) NF _ _ h1 ?_ _ _ _ _ _ _
  · intro z0 z1 z2 z3 z9 z10
    exact ok_X11_commonDivisor_l9c   h2 hS hT
  · intro z0 z1 z2 z3 z6 z7 z8 z9 z10
    show Ws 0 mi_X11_commonDivisor Q 44 [z0, z1, z2, z3, some (vl t9), none, z6, z7, z8, z9, z10] [] σ
    refine Wp.lload dc_X11_commonDivisor_44 rfl ?_
    cases hE
    exact Wp.lreturn dc_X11_commonDivisor_46 rfl (Nat.le_refl _) (Nat.le_refl _) hK
theorem ok_X11_commonDivisor_j0 {Q : Option AV → AH → Prop}  {σ : SS}  {y0 : Int64} {y2 : Int64} {o} {z4 z5 z6 z7 z8 z9 z10 : Option AV}   (hE : X11_commonDivisor_j0  σ  y0 y2 = some o) (hK : Q (some (vl o)) (hp σ)) : Ws 0 mi_X11_commonDivisor Q 0 [some (vl y0), none, some (vl y2), none, z4, z5, z6, z7, z8, z9, z10] [] σ := by
  unfold X11_commonDivisor_j0 at hE
  refine Wp.lload_n dc_X11_commonDivisor_0 rfl ?_
  refine Wp.lstore dc_X11_commonDivisor_1 (by decide) ?_
  refine Wp.lload_n dc_X11_commonDivisor_3 rfl ?_
  refine Wp.lstore dc_X11_commonDivisor_4 (by decide) ?_
  refine Wp.iconst dc_X11_commonDivisor_6 ic_0 ?_
  refine Wp.istore dc_X11_commonDivisor_7 (by decide) ?_
  exact ok_X11_commonDivisor_l9   hE hK
theorem ok_X11_commonDivisor  {σ : SS}  {y0 : Int64} {y2 : Int64} {o}   (hE : X11_commonDivisor  σ  y0 y2 = some o) : Runs 0 0 0 mi_X11_commonDivisor [vl y0, vl y2] (hp σ) (fun v h => v = some (vl o) ∧ h = hp σ) := by
  refine Runs.of pn_X11 (Nat.le_of_ble_eq_true rfl) ?_
  exact ok_X11_commonDivisor_j0   hE ⟨rfl, rfl⟩
theorem ok_X11_tell_j0 {Q : Option AV → AH → Prop}  {σ : SS}  {y1 : Int64} {y3 : Int64} {o} {z5 z6 : Option AV}   (hE : X11_tell_j0  σ  y1 y3 = some o) (hK : Q (some (vi o.1)) (hp o.2)) : Ws 1 mi_X11_tell Q 0 [some (vr 10 0), some (vl y1), none, some (vl y3), none, z5, z6] [] σ := by
  unfold X11_tell_j0 at hE
  refine Wp.lload_n dc_X11_tell_0 rfl ?_
  refine Wp.mabs dc_X11_tell_1 lw_X11_399 ms_abs mi_Math mk_abs (by decide) (Nat.le_refl _) (Nat.le_refl _) (Nat.le_of_ble_eq_true rfl) ?_
  refine Wp.lload_n dc_X11_tell_4 rfl ?_
  obtain ⟨v5, h5, hE⟩ := bnd hE
  refine Wp.cS2l (ok_X11_commonDivisor  h5) dc_X11_tell_5 mw_X11_405 (by decide) (Nat.le_of_ble_eq_true rfl) ?_
  refine Wp.lstore dc_X11_tell_8 (by decide) ?_
  refine Wp.lload dc_X11_tell_10 rfl ?_
  refine Wp.lconst dc_X11_tell_12 lc_0 ?_
  refine Wp.lcmp dc_X11_tell_13 ?_
  refine Wp.if_le (tgt := 33) dc_X11_tell_14 (by decide) (fun hc14 => ?_) (fun hc14 => ?_)
  · rw [if_pos hc14] at hE
    refine Wp.iconst dc_X11_tell_33 ic_1 ?_
    cases hE
    exact Wp.ireturn dc_X11_tell_34 rfl Nr.z1.1 (Nat.le_refl _) (Nat.le_refl _) hK
  · rw [if_neg hc14] at hE
    refine Wp.aload_n dc_X11_tell_17 rfl ?_
    refine Wp.lload_n dc_X11_tell_18 rfl ?_
    refine Wp.lload dc_X11_tell_19 rfl ?_
    obtain ⟨w21, h21, hE⟩ := bnd hE
    refine Wp.ldiv dc_X11_tell_21 (nzL_some h21) ?_
    refine Wp.sputJ dc_X11_tell_22 fw_X11_84 (mO10 (by decide)) ?_
    obtain ⟨σ22, es_22, hE⟩ := bnS hE
    rw [es_22]
    refine Wp.aload_n dc_X11_tell_25 rfl ?_
    refine Wp.lload_n dc_X11_tell_26 rfl ?_
    refine Wp.lload dc_X11_tell_27 rfl ?_
    obtain ⟨w29, h29, hE⟩ := bnd hE
    refine Wp.ldiv dc_X11_tell_29 (nzL_some h29) ?_
    refine Wp.sputJ dc_X11_tell_30 fw_X11_76 (mO10 (by decide)) ?_
    obtain ⟨σ30, es_30, hE⟩ := bnS hE
    rw [es_30]
    refine Wp.iconst dc_X11_tell_33 ic_1 ?_
    cases hE
    exact Wp.ireturn dc_X11_tell_34 rfl Nr.z1.1 (Nat.le_refl _) (Nat.le_refl _) hK
theorem ok_X11_tell  {σ : SS}  {y1 : Int64} {y3 : Int64} {o}   (hE : X11_tell  σ  y1 y3 = some o) : Runs 1 0 0 mi_X11_tell [vr 10 0, vl y1, vl y3] (hp σ) (fun v h => v = some (vi o.1) ∧ h = hp o.2) := by
  refine Runs.of pn_X11 (Nat.le_of_ble_eq_true rfl) ?_
  exact ok_X11_tell_j0   hE ⟨rfl, rfl⟩
theorem ok_X11_fresh_j44 {Q : Option AV → AH → Prop}  {σ : SS}  {x1 : Int32} {x2 : Int32} {s1 : Int32} {o}    (hE : X11_fresh_j44  σ  x1 x2 s1 = some o) (hK : Q (some (vi o.1)) (hp o.2)) : Ws 4 mi_X11_fresh Q 44 [some (vr 10 0), some (vi x1), some (vi x2)] [vi s1, vr 10 0] σ := by
  unfold X11_fresh_j44 at hE
  obtain ⟨p44, h44, hE⟩ := bnd hE
  refine Wp.cV1i (ok_X11_answers  h44) dc_X11_fresh_44 mw_X11_94 (mO10 (by decide)) (by decide) (Nat.le_of_ble_eq_true rfl) ?_
  refine Wp.if_eq (tgt := 95) dc_X11_fresh_47 (by decide) (fun hc47 => ?_) (fun hc47 => ?_)
  · rw [if_pos hc47] at hE
    refine Wp.iconst dc_X11_fresh_95 ic_0 ?_
    cases hE
    exact Wp.ireturn dc_X11_fresh_96 rfl Nr.z0.1 (Nat.le_refl _) (Nat.le_refl _) hK
  · rw [if_neg hc47] at hE
    refine Wp.aload_n dc_X11_fresh_50 rfl ?_
    refine Wp.aload_n dc_X11_fresh_51 rfl ?_
    refine Wp.sgetR (t := 0) dc_X11_fresh_52 fw_X11_56 (mO10 (by decide)) rfl ?_
    refine Wp.aload_n dc_X11_fresh_55 rfl ?_
    refine Wp.sgetR (t := 0) dc_X11_fresh_56 fw_X11_42 (mO10 (by decide)) rfl ?_
    refine Wp.iload_n dc_X11_fresh_59 rfl ?_
    obtain ⟨p60, h60, hE⟩ := bnd hE
    refine Wp.cV2i (ok_X7_find (by decide) h60) dc_X11_fresh_60 mw_X11_303 (mO6 (by decide)) (by decide) (Nat.le_of_ble_eq_true rfl) ?_
    refine Wp.i2l dc_X11_fresh_63 ?_
    refine Wp.iload_n dc_X11_fresh_64 rfl ?_
    refine Wp.i2l dc_X11_fresh_65 ?_
    refine Wp.lmul dc_X11_fresh_66 ?_
    refine Wp.ldc2 dc_X11_fresh_67 kw_X11_340 ?_
    refine Wp.aload_n dc_X11_fresh_70 rfl ?_
    refine Wp.sgetR (t := 0) dc_X11_fresh_71 fw_X11_42 (mO10 (by decide)) rfl ?_
    refine Wp.iconst dc_X11_fresh_74 ic_4 ?_
    refine Wp.iload_n dc_X11_fresh_75 rfl ?_
    obtain ⟨v76, h76, hE⟩ := bnd hE
    refine Wp.cV2i (ok_X0_number (by decide) h76) dc_X11_fresh_76 mw_X11_186 (mO0 (by decide)) (by decide) (Nat.le_of_ble_eq_true rfl) ?_
    refine Wp.i2l dc_X11_fresh_79 ?_
    refine Wp.lmul dc_X11_fresh_80 ?_
    refine Wp.lsub dc_X11_fresh_81 ?_
    refine Wp.ldc2 dc_X11_fresh_82 kw_X11_340 ?_
    obtain ⟨p85, h85, hE⟩ := bnd hE
    refine Wp.cV2i (ok_X11_tell  h85) dc_X11_fresh_85 mw_X11_342 (mO10 (by decide)) (by decide) (Nat.le_of_ble_eq_true rfl) ?_
    refine Wp.if_eq (tgt := 95) dc_X11_fresh_88 (by decide) (fun hc88 => ?_) (fun hc88 => ?_)
    · rw [if_pos hc88] at hE
      refine Wp.iconst dc_X11_fresh_95 ic_0 ?_
      cases hE
      exact Wp.ireturn dc_X11_fresh_96 rfl Nr.z0.1 (Nat.le_refl _) (Nat.le_refl _) hK
    · rw [if_neg hc88] at hE
      refine Wp.iconst dc_X11_fresh_91 ic_1 ?_
      refine Wp.goto (tgt := 96) dc_X11_fresh_92 (by decide) ?_
      cases hE
      exact Wp.ireturn dc_X11_fresh_96 rfl Nr.z1.1 (Nat.le_refl _) (Nat.le_refl _) hK
theorem ok_X11_fresh_j0 {Q : Option AV → AH → Prop}  {σ : SS}  {x1 : Int32} {x2 : Int32} {o}    (hE : X11_fresh_j0  σ  x1 x2 = some o) (hK : Q (some (vi o.1)) (hp o.2)) : Ws 4 mi_X11_fresh Q 0 [some (vr 10 0), some (vi x1), some (vi x2)] [] σ := by
  unfold X11_fresh_j0 at hE
  refine Wp.aload_n dc_X11_fresh_0 rfl ?_
  refine Wp.aload_n dc_X11_fresh_1 rfl ?_
  refine Wp.sgetR (t := 0) dc_X11_fresh_2 fw_X11_42 (mO10 (by decide)) rfl ?_
  refine Wp.iload_n dc_X11_fresh_5 rfl ?_
  obtain ⟨v6, h6, hE⟩ := bnd hE
  refine Wp.cV1i (ok_X0_has (by decide) h6) dc_X11_fresh_6 mw_X11_180 (mO0 (by decide)) (by decide) (Nat.le_of_ble_eq_true rfl) ?_
  refine Wp.if_ne (tgt := 16) dc_X11_fresh_9 (by decide) (fun hc9 => ?_) (fun hc9 => ?_)
  · rw [if_neg hc9] at hE
    refine Wp.aload_n dc_X11_fresh_16 rfl ?_
    refine Wp.sgetR (t := 0) dc_X11_fresh_17 fw_X11_42 (mO10 (by decide)) rfl ?_
    refine Wp.iload_n dc_X11_fresh_20 rfl ?_
    obtain ⟨v21, h21, hE⟩ := bnd hE
    refine Wp.cV1i (ok_X0_isIn (by decide) h21) dc_X11_fresh_21 mw_X11_210 (mO0 (by decide)) (by decide) (Nat.le_of_ble_eq_true rfl) ?_
    refine Wp.if_ne (tgt := 32) dc_X11_fresh_24 (by decide) (fun hc24 => ?_) (fun hc24 => ?_)
    · rw [if_neg hc24] at hE
      refine Wp.iload_n dc_X11_fresh_32 rfl ?_
      obtain ⟨v33, h33, hE⟩ := bnd hE
      refine Wp.cS1i (ok_X11_isPence  h33) dc_X11_fresh_33 mw_X11_337 (by decide) (Nat.le_of_ble_eq_true rfl) ?_
      refine Wp.if_eq (tgt := 43) dc_X11_fresh_36 (by decide) (fun hc36 => ?_) (fun hc36 => ?_)
      · rw [if_pos hc36] at hE
        refine Wp.iconst dc_X11_fresh_43 ic_5 ?_
        exact ok_X11_fresh_j44   hE hK
      · rw [if_neg hc36] at hE
        refine Wp.iconst dc_X11_fresh_39 ic_0 ?_
        refine Wp.goto (tgt := 44) dc_X11_fresh_40 (by decide) ?_
        exact ok_X11_fresh_j44   hE hK
    · rw [if_pos hc24] at hE
      refine Wp.bipush dc_X11_fresh_27 bp_9 ?_
      refine Wp.goto (tgt := 44) dc_X11_fresh_29 (by decide) ?_
      exact ok_X11_fresh_j44   hE hK
  · rw [if_pos hc9] at hE
    refine Wp.iconst dc_X11_fresh_12 ic_2 ?_
    refine Wp.goto (tgt := 44) dc_X11_fresh_13 (by decide) ?_
    exact ok_X11_fresh_j44   hE hK
theorem ok_X11_fresh  {σ : SS}  {x1 : Int32} {x2 : Int32} {o}   (hE : X11_fresh  σ  x1 x2 = some o) : Runs 4 0 0 mi_X11_fresh [vr 10 0, vi x1, vi x2] (hp σ) (fun v h => v = some (vi o.1) ∧ h = hp o.2) := by
  refine Runs.of pn_X11 (Nat.le_of_ble_eq_true rfl) ?_
  exact ok_X11_fresh_j0   hE ⟨rfl, rfl⟩
theorem ok_X11_grows_j0 {Q : Option AV → AH → Prop}  {σ : SS}   {o}    (hE : X11_grows_j0  σ   = some o) (hK : Q (some (vi o.1)) (hp o.2)) : Ws 3 mi_X11_grows Q 0 [some (vr 10 0)] [] σ := by
  unfold X11_grows_j0 at hE
  refine Wp.aload_n dc_X11_grows_0 rfl ?_
  refine Wp.iconst dc_X11_grows_1 ic_0 ?_
  obtain ⟨p2, h2, hE⟩ := bnd hE
  refine Wp.cV1i (ok_X11_answers  h2) dc_X11_grows_2 mw_X11_94 (mO10 (by decide)) (by decide) (Nat.le_of_ble_eq_true rfl) ?_
  refine Wp.if_eq (tgt := 34) dc_X11_grows_5 (by decide) (fun hc5 => ?_) (fun hc5 => ?_)
  · rw [if_pos hc5] at hE
    refine Wp.iconst dc_X11_grows_34 ic_0 ?_
    cases hE
    exact Wp.ireturn dc_X11_grows_35 rfl Nr.z0.1 (Nat.le_refl _) (Nat.le_refl _) hK
  · rw [if_neg hc5] at hE
    refine Wp.aload_n dc_X11_grows_8 rfl ?_
    refine Wp.aload_n dc_X11_grows_9 rfl ?_
    refine Wp.sgetR (t := 0) dc_X11_grows_10 fw_X11_63 (mO10 (by decide)) rfl ?_
    refine Wp.aload_n dc_X11_grows_13 rfl ?_
    refine Wp.sgetR (t := 0) dc_X11_grows_14 fw_X11_42 (mO10 (by decide)) rfl ?_
    obtain ⟨v17, h17, hE⟩ := bnd hE
    refine Wp.cV1i (ok_X8_sixteenthsGrown (by decide) h17) dc_X11_grows_17 mw_X11_346 (mO7 (by decide)) (by decide) (Nat.le_of_ble_eq_true rfl) ?_
    refine Wp.i2l dc_X11_grows_20 ?_
    refine Wp.ldc2 dc_X11_grows_21 kw_X11_349 ?_
    obtain ⟨p24, h24, hE⟩ := bnd hE
    refine Wp.cV2i (ok_X11_tell  h24) dc_X11_grows_24 mw_X11_342 (mO10 (by decide)) (by decide) (Nat.le_of_ble_eq_true rfl) ?_
    refine Wp.if_eq (tgt := 34) dc_X11_grows_27 (by decide) (fun hc27 => ?_) (fun hc27 => ?_)
    · rw [if_pos hc27] at hE
      refine Wp.iconst dc_X11_grows_34 ic_0 ?_
      cases hE
      exact Wp.ireturn dc_X11_grows_35 rfl Nr.z0.1 (Nat.le_refl _) (Nat.le_refl _) hK
    · rw [if_neg hc27] at hE
      refine Wp.iconst dc_X11_grows_30 ic_1 ?_
      refine Wp.goto (tgt := 35) dc_X11_grows_31 (by decide) ?_
      cases hE
      exact Wp.ireturn dc_X11_grows_35 rfl Nr.z1.1 (Nat.le_refl _) (Nat.le_refl _) hK
theorem ok_X11_grows  {σ : SS}   {o}   (hE : X11_grows  σ   = some o) : Runs 3 0 0 mi_X11_grows [vr 10 0] (hp σ) (fun v h => v = some (vi o.1) ∧ h = hp o.2) := by
  refine Runs.of pn_X11 (Nat.le_of_ble_eq_true rfl) ?_
  exact ok_X11_grows_j0   hE ⟨rfl, rfl⟩
theorem ok_X11_clips_j24 {Q : Option AV → AH → Prop}  {σ : SS}  {x1 : Int32} {s1 : Int32} {o} {z0 : Option AV}   (hE : X11_clips_j24  σ  x1 s1 = some o) (hK : Q (some (vi o.1)) (hp o.2)) : Ws 4 mi_X11_clips Q 24 [z0, some (vi x1)] [vi s1, vr 10 0] σ := by
  unfold X11_clips_j24 at hE
  obtain ⟨p24, h24, hE⟩ := bnd hE
  refine Wp.cV1i (ok_X11_answers  h24) dc_X11_clips_24 mw_X11_94 (mO10 (by decide)) (by decide) (Nat.le_of_ble_eq_true rfl) ?_
  refine Wp.if_eq (tgt := 34) dc_X11_clips_27 (by decide) (fun hc27 => ?_) (fun hc27 => ?_)
  · rw [if_pos hc27] at hE
    refine Wp.iconst dc_X11_clips_34 ic_m1 ?_
    cases hE
    exact Wp.ireturn dc_X11_clips_35 rfl rfl (Nat.le_refl _) (Nat.le_refl _) hK
  · rw [if_neg hc27] at hE
    refine Wp.iload_n dc_X11_clips_30 rfl ?_
    refine Wp.goto (tgt := 35) dc_X11_clips_31 (by decide) ?_
    cases hE
    exact Wp.ireturn dc_X11_clips_35 rfl rfl (Nat.le_refl _) (Nat.le_refl _) hK
theorem ok_X11_clips_j0 {Q : Option AV → AH → Prop}  {σ : SS}   {o} {z1 : Option AV}   (hE : X11_clips_j0  σ   = some o) (hK : Q (some (vi o.1)) (hp o.2)) : Ws 4 mi_X11_clips Q 0 [some (vr 10 0), z1] [] σ := by
  unfold X11_clips_j0 at hE
  refine Wp.aload_n dc_X11_clips_0 rfl ?_
  refine Wp.sgetR (t := 0) dc_X11_clips_1 fw_X11_63 (mO10 (by decide)) rfl ?_
  refine Wp.aload_n dc_X11_clips_4 rfl ?_
  refine Wp.sgetR (t := 0) dc_X11_clips_5 fw_X11_42 (mO10 (by decide)) rfl ?_
  obtain ⟨v8, h8, hE⟩ := bnd hE
  refine Wp.cV1i (ok_X8_openingsForClips (by decide) h8) dc_X11_clips_8 mw_X11_351 (mO7 (by decide)) (by decide) (Nat.le_of_ble_eq_true rfl) ?_
  refine Wp.istore_n dc_X11_clips_11 (by decide) ?_
  refine Wp.aload_n dc_X11_clips_12 rfl ?_
  refine Wp.iload_n dc_X11_clips_13 rfl ?_
  refine Wp.iconst dc_X11_clips_14 ic_m1 ?_
  refine Wp.icmp_ne (tgt := 23) dc_X11_clips_15 (by decide) (fun hc15 => ?_) (fun hc15 => ?_)
  · rw [if_neg hc15] at hE
    refine Wp.iconst dc_X11_clips_23 ic_0 ?_
    exact ok_X11_clips_j24   hE hK
  · rw [if_pos hc15] at hE
    refine Wp.bipush dc_X11_clips_18 bp_8 ?_
    refine Wp.goto (tgt := 24) dc_X11_clips_20 (by decide) ?_
    exact ok_X11_clips_j24   hE hK
theorem ok_X11_clips  {σ : SS}   {o}   (hE : X11_clips  σ   = some o) : Runs 4 0 0 mi_X11_clips [vr 10 0] (hp σ) (fun v h => v = some (vi o.1) ∧ h = hp o.2) := by
  refine Runs.of pn_X11 (Nat.le_of_ble_eq_true rfl) ?_
  exact ok_X11_clips_j0   hE ⟨rfl, rfl⟩
