/-! certificates (by program: wip/whole/gen.py) -/
def X12_allOf_P9 (Q : Option AV → AH → Prop)   (x1 : Int32) (ss : Int32 × SS) : Prop := ∀ z3 z4 : Option AV, Ws 4 mi_X12_allOf Q 9 [some (vr 11 0), some (vi x1), some (vi ss.1), z3, z4] [] ss.2
def X12_allOf_R9 (Q : Option AV → AH → Prop)   (x1 : Int32) (tt : SS) : Prop := ∀ z2 z3 z4 : Option AV, Ws 4 mi_X12_allOf Q 114 [some (vr 11 0), some (vi x1), z2, z3, z4] [] tt
def X12_allOf_P44 (Q : Option AV → AH → Prop)   (x1 : Int32) (x2 : Int32) (ss : Int32 × SS) : Prop := ∀ z4 : Option AV, Ws 4 mi_X12_allOf Q 44 [some (vr 11 0), some (vi x1), some (vi x2), some (vi ss.1), z4] [] ss.2
def X12_allOf_R44 (Q : Option AV → AH → Prop)   (x1 : Int32) (x2 : Int32) (tt : SS) : Prop := ∀ z3 z4 : Option AV, Ws 4 mi_X12_allOf Q 108 [some (vr 11 0), some (vi x1), some (vi x2), z3, z4] [] tt
theorem ok_X12_allOf_j102 {Q : Option AV → AH → Prop}  {σ : SS}  {x1 : Int32} {x2 : Int32} {x3 : Int32} {o} {z4 : Option AV}   (hE : X12_allOf_j102  σ  x1 x2 x3 = some o) (hS : ∀ ss, o = Sum.inl ss → (X12_allOf_P44  Q   x1 x2) ss) (hT : ∀ tt, o = Sum.inr tt → (X12_allOf_R44  Q   x1 x2) tt) : Ws 4 mi_X12_allOf Q 102 [some (vr 11 0), some (vi x1), some (vi x2), some (vi x3), z4] [] σ := by
  unfold X12_allOf_j102 at hE
  obtain ⟨x3_102, e_102, hE⟩ := bnS hE
  refine Wp.iinc dc_X12_allOf_102 rfl ((ii ic_1).trans e_102) (by decide) ?_
  refine Wp.goto (tgt := 44) dc_X12_allOf_105 (by decide) ?_
  cases hE
  exact hS _ rfl _
theorem ok_X12_allOf_l44c {Q : Option AV → AH → Prop}  {σ : SS}  {x1 : Int32} {x2 : Int32} {x3 : Int32} {o} {z4 : Option AV}   (hE : X12_allOf_l44c  σ  x1 x2 x3 = some o) (hS : ∀ ss, o = Sum.inl ss → (X12_allOf_P44  Q   x1 x2) ss) (hT : ∀ tt, o = Sum.inr tt → (X12_allOf_R44  Q   x1 x2) tt) : Ws 4 mi_X12_allOf Q 44 [some (vr 11 0), some (vi x1), some (vi x2), some (vi x3), z4] [] σ := by
  unfold X12_allOf_l44c at hE
  refine Wp.iload_n dc_X12_allOf_44 rfl ?_
  refine Wp.aload_n dc_X12_allOf_45 rfl ?_
  refine Wp.sgetR (t := 34) dc_X12_allOf_46 fw_X12_35 (mO11 (by decide)) rfl ?_
  refine Wp.iconst dc_X12_allOf_49 ic_0 ?_
  obtain ⟨j50, h50, hE⟩ := bnd hE
  refine Wp.siald dc_X12_allOf_50 (mO13 (by decide)) h50 ?_
  refine Wp.icmp_ge (tgt := 108) dc_X12_allOf_51 (by decide) (fun hc51 => ?_) (fun hc51 => ?_)
  · rw [if_pos hc51] at hE
    cases hE
    exact hT _ rfl _ _
  · rw [if_neg hc51] at hE
    refine Wp.iload_n dc_X12_allOf_54 rfl ?_
    refine Wp.iload_n dc_X12_allOf_55 rfl ?_
    obtain ⟨v56, h56, hE⟩ := bnd hE
    refine Wp.cS2i (ok_X12_has  h56) dc_X12_allOf_56 mw_X12_116 (by decide) (Nat.le_of_ble_eq_true rfl) ?_
    refine Wp.if_eq (tgt := 102) dc_X12_allOf_59 (by decide) (fun hc59 => ?_) (fun hc59 => ?_)
    · rw [if_pos hc59] at hE
      exact ok_X12_allOf_j102   hE hS hT
    · rw [if_neg hc59] at hE
      refine Wp.iload_n dc_X12_allOf_62 rfl ?_
      refine Wp.iload_n dc_X12_allOf_63 rfl ?_
      obtain ⟨v64, h64, hE⟩ := bnd hE
      refine Wp.cS2i (ok_X12_has  h64) dc_X12_allOf_64 mw_X12_116 (by decide) (Nat.le_of_ble_eq_true rfl) ?_
      refine Wp.if_ne (tgt := 102) dc_X12_allOf_67 (by decide) (fun hc67 => ?_) (fun hc67 => ?_)
      · rw [if_neg hc67] at hE
        exact ok_X12_allOf_j102   hE hS hT
      · rw [if_pos hc67] at hE
        refine Wp.aload_n dc_X12_allOf_70 rfl ?_
        refine Wp.sgetR (t := 40) dc_X12_allOf_71 fw_X12_56 (mO11 (by decide)) rfl ?_
        refine Wp.iload_n dc_X12_allOf_74 rfl ?_
        refine Wp.aload_n dc_X12_allOf_75 rfl ?_
        refine Wp.sgetR (t := 40) dc_X12_allOf_76 fw_X12_56 (mO11 (by decide)) rfl ?_
        refine Wp.iload_n dc_X12_allOf_79 rfl ?_
        obtain ⟨j80, h80, hE⟩ := bnd hE
        refine Wp.siald dc_X12_allOf_80 (mO13 (by decide)) h80 ?_
        refine Wp.aload_n dc_X12_allOf_81 rfl ?_
        refine Wp.iload_n dc_X12_allOf_82 rfl ?_
        refine Wp.iload_n dc_X12_allOf_83 rfl ?_
        obtain ⟨p84, h84, hE⟩ := bnd hE
        refine Wp.cV2i (ok_X12_costAfter  h84) dc_X12_allOf_84 mw_X12_421 (mO11 (by decide)) (by decide) (Nat.le_of_ble_eq_true rfl) ?_
        refine Wp.aload_n dc_X12_allOf_87 rfl ?_
        refine Wp.sgetR (t := 40) dc_X12_allOf_88 fw_X12_56 (mO11 (by decide)) rfl ?_
        refine Wp.iload_n dc_X12_allOf_91 rfl ?_
        refine Wp.iconst dc_X12_allOf_92 ic_1 ?_
        refine Wp.iload_n dc_X12_allOf_93 rfl ?_
        refine Wp.ishl dc_X12_allOf_94 ?_
        refine Wp.ior dc_X12_allOf_95 ?_
        obtain ⟨j96, h96, hE⟩ := bnd hE
        refine Wp.siald dc_X12_allOf_96 (mO13 (by decide)) h96 ?_
        refine Wp.iadd dc_X12_allOf_97 ?_
        refine Wp.mmin dc_X12_allOf_98 lw_X12_303 ms_min mi_Math mk_min (by decide) (Nat.le_refl _) (Nat.le_refl _) (Nat.le_of_ble_eq_true rfl) ?_
        obtain ⟨j101, h101, hE⟩ := bnd hE
        refine Wp.siast dc_X12_allOf_101 (mO13 (by decide)) h101 ?_
        obtain ⟨σ101, es_101, hE⟩ := bnS hE
        rw [es_101]
        exact ok_X12_allOf_j102   hE hS hT
theorem ok_X12_allOf_j108 {Q : Option AV → AH → Prop}  {σ : SS}  {x1 : Int32} {x2 : Int32} {o} {z3 z4 : Option AV}   (hE : X12_allOf_j108  σ  x1 x2 = some o) (hS : ∀ ss, o = Sum.inl ss → (X12_allOf_P9  Q   x1) ss) (hT : ∀ tt, o = Sum.inr tt → (X12_allOf_R9  Q   x1) tt) : Ws 4 mi_X12_allOf Q 108 [some (vr 11 0), some (vi x1), some (vi x2), z3, z4] [] σ := by
  unfold X12_allOf_j108 at hE
  obtain ⟨x2_108, e_108, hE⟩ := bnS hE
  refine Wp.iinc dc_X12_allOf_108 rfl ((ii ic_m1).trans e_108) (by decide) ?_
  refine Wp.goto (tgt := 9) dc_X12_allOf_111 (by decide) ?_
  cases hE
  exact hS _ rfl _ _
theorem ok_X12_allOf_l44 {Q : Option AV → AH → Prop}  {σ : SS}  {x1 : Int32} {x2 : Int32} {x3 : Int32} {o} {z4 : Option AV}   (hE : X12_allOf_l44  σ  x1 x2 x3 = some o) (hS : ∀ ss, o = Sum.inl ss → (X12_allOf_P9  Q   x1) ss) (hT : ∀ tt, o = Sum.inr tt → (X12_allOf_R9  Q   x1) tt) : Ws 4 mi_X12_allOf Q 44 [some (vr 11 0), some (vi x1), some (vi x2), some (vi x3), z4] [] σ := by
  unfold X12_allOf_l44 at hE
  obtain ⟨t44, h1, hE⟩ := bnd hE
  refine iter_ok (P := (X12_allOf_P44  Q   x1 x2)) (R := (X12_allOf_R44  Q   x1 x2)) (fun ss o h2 hS hT => ?_) NF _ _ h1 ?_ _
  · intro z4
    exact ok_X12_allOf_l44c   h2 hS hT
  · intro z3 z4
    show Ws 4 mi_X12_allOf Q 108 [some (vr 11 0), some (vi x1), some (vi x2), z3, z4] [] t44
    exact ok_X12_allOf_j108   hE hS hT
theorem ok_X12_allOf_j41 {Q : Option AV → AH → Prop}  {σ : SS}  {x1 : Int32} {x2 : Int32} {s1 : Int32} {s2 : Int32} {o} {z3 z4 : Option AV}   (hE : X12_allOf_j41  σ  x1 x2 s1 s2 = some o) (hS : ∀ ss, o = Sum.inl ss → (X12_allOf_P9  Q   x1) ss) (hT : ∀ tt, o = Sum.inr tt → (X12_allOf_R9  Q   x1) tt) : Ws 4 mi_X12_allOf Q 41 [some (vr 11 0), some (vi x1), some (vi x2), z3, z4] [vi s2, vi s1, vr 13 40] σ := by
  unfold X12_allOf_j41 at hE
  obtain ⟨j41, h41, hE⟩ := bnd hE
  refine Wp.siast dc_X12_allOf_41 (mO13 (by decide)) h41 ?_
  obtain ⟨σ41, es_41, hE⟩ := bnS hE
  rw [es_41]
  refine Wp.iconst dc_X12_allOf_42 ic_0 ?_
  refine Wp.istore_n dc_X12_allOf_43 (by decide) ?_
  exact ok_X12_allOf_l44   hE hS hT
theorem ok_X12_allOf_l9c {Q : Option AV → AH → Prop}  {σ : SS}  {x1 : Int32} {x2 : Int32} {o} {z3 z4 : Option AV}   (hE : X12_allOf_l9c  σ  x1 x2 = some o) (hS : ∀ ss, o = Sum.inl ss → (X12_allOf_P9  Q   x1) ss) (hT : ∀ tt, o = Sum.inr tt → (X12_allOf_R9  Q   x1) tt) : Ws 4 mi_X12_allOf Q 9 [some (vr 11 0), some (vi x1), some (vi x2), z3, z4] [] σ := by
  unfold X12_allOf_l9c at hE
  refine Wp.iload_n dc_X12_allOf_9 rfl ?_
  refine Wp.if_lt (tgt := 114) dc_X12_allOf_10 (by decide) (fun hc10 => ?_) (fun hc10 => ?_)
  · rw [if_pos hc10] at hE
    cases hE
    exact hT _ rfl _ _ _
  · rw [if_neg hc10] at hE
    refine Wp.iload_n dc_X12_allOf_13 rfl ?_
    refine Wp.iload_n dc_X12_allOf_14 rfl ?_
    refine Wp.iconst dc_X12_allOf_15 ic_m1 ?_
    refine Wp.ixor dc_X12_allOf_16 ?_
    refine Wp.iand dc_X12_allOf_17 ?_
    refine Wp.if_eq (tgt := 24) dc_X12_allOf_18 (by decide) (fun hc18 => ?_) (fun hc18 => ?_)
    · rw [if_pos hc18] at hE
      refine Wp.aload_n dc_X12_allOf_24 rfl ?_
      refine Wp.sgetR (t := 40) dc_X12_allOf_25 fw_X12_56 (mO11 (by decide)) rfl ?_
      refine Wp.iload_n dc_X12_allOf_28 rfl ?_
      refine Wp.iload_n dc_X12_allOf_29 rfl ?_
      refine Wp.iload_n dc_X12_allOf_30 rfl ?_
      refine Wp.icmp_ne (tgt := 38) dc_X12_allOf_31 (by decide) (fun hc31 => ?_) (fun hc31 => ?_)
      · rw [if_neg hc31] at hE
        refine Wp.ldc_w dc_X12_allOf_38 kw_X12_420 ?_
        exact ok_X12_allOf_j41   hE hS hT
      · rw [if_pos hc31] at hE
        refine Wp.iconst dc_X12_allOf_34 ic_0 ?_
        refine Wp.goto (tgt := 41) dc_X12_allOf_35 (by decide) ?_
        exact ok_X12_allOf_j41   hE hS hT
    · rw [if_neg hc18] at hE
      refine Wp.goto (tgt := 108) dc_X12_allOf_21 (by decide) ?_
      exact ok_X12_allOf_j108   hE hS hT
def X12_allOf_P118 (Q : Option AV → AH → Prop)   (x1 : Int32) (ss : Int32 × Int32 × SS) : Prop := ∀ z4 : Option AV, Ws 4 mi_X12_allOf Q 118 [some (vr 11 0), some (vi x1), some (vi ss.1), some (vi ss.2.1), z4] [] ss.2.2
def X12_allOf_R118 (Q : Option AV → AH → Prop)   (x1 : Int32) (tt : SS) : Prop := ∀ z1 z2 z3 z4 : Option AV, Ws 4 mi_X12_allOf Q 199 [some (vr 11 0), z1, z2, z3, z4] [] tt
def X12_allOf_P126 (Q : Option AV → AH → Prop)   (x1 : Int32) (x2 : Int32) (x3 : Int32) (ss : Int32 × SS) : Prop := Ws 4 mi_X12_allOf Q 126 [some (vr 11 0), some (vi x1), some (vi x2), some (vi x3), some (vi ss.1)] [] ss.2
def X12_allOf_R126 (Q : Option AV → AH → Prop)   (x1 : Int32) (x2 : Int32) (x3 : Int32) (tt : Int32 × SS) : Prop := Ws 4 mi_X12_allOf Q 178 [some (vr 11 0), some (vi x1), some (vi x2), some (vi x3), some (vi tt.1)] [] tt.2
theorem ok_X12_allOf_j172 {Q : Option AV → AH → Prop}  {σ : SS}  {x1 : Int32} {x2 : Int32} {x3 : Int32} {x4 : Int32} {o}    (hE : X12_allOf_j172  σ  x1 x2 x3 x4 = some o) (hS : ∀ ss, o = Sum.inl ss → (X12_allOf_P126  Q   x1 x2 x3) ss) (hT : ∀ tt, o = Sum.inr tt → (X12_allOf_R126  Q   x1 x2 x3) tt) : Ws 4 mi_X12_allOf Q 172 [some (vr 11 0), some (vi x1), some (vi x2), some (vi x3), some (vi x4)] [] σ := by
  unfold X12_allOf_j172 at hE
  obtain ⟨x4_172, e_172, hE⟩ := bnS hE
  refine Wp.iinc dc_X12_allOf_172 rfl ((ii ic_1).trans e_172) (by decide) ?_
  refine Wp.goto (tgt := 126) dc_X12_allOf_175 (by decide) ?_
  cases hE
  exact hS _ rfl
theorem ok_X12_allOf_l126c {Q : Option AV → AH → Prop}  {σ : SS}  {x1 : Int32} {x2 : Int32} {x3 : Int32} {x4 : Int32} {o}    (hE : X12_allOf_l126c  σ  x1 x2 x3 x4 = some o) (hS : ∀ ss, o = Sum.inl ss → (X12_allOf_P126  Q   x1 x2 x3) ss) (hT : ∀ tt, o = Sum.inr tt → (X12_allOf_R126  Q   x1 x2 x3) tt) : Ws 4 mi_X12_allOf Q 126 [some (vr 11 0), some (vi x1), some (vi x2), some (vi x3), some (vi x4)] [] σ := by
  unfold X12_allOf_l126c at hE
  refine Wp.iload_n dc_X12_allOf_126 rfl ?_
  refine Wp.iload dc_X12_allOf_127 rfl ?_
  obtain ⟨v129, h129, hE⟩ := bnd hE
  refine Wp.cS2i (ok_X12_has  h129) dc_X12_allOf_129 mw_X12_116 (by decide) (Nat.le_of_ble_eq_true rfl) ?_
  refine Wp.if_eq (tgt := 172) dc_X12_allOf_132 (by decide) (fun hc132 => ?_) (fun hc132 => ?_)
  · rw [if_pos hc132] at hE
    exact ok_X12_allOf_j172   hE hS hT
  · rw [if_neg hc132] at hE
    refine Wp.iload_n dc_X12_allOf_135 rfl ?_
    refine Wp.iload dc_X12_allOf_136 rfl ?_
    obtain ⟨v138, h138, hE⟩ := bnd hE
    refine Wp.cS2i (ok_X12_has  h138) dc_X12_allOf_138 mw_X12_116 (by decide) (Nat.le_of_ble_eq_true rfl) ?_
    refine Wp.if_ne (tgt := 172) dc_X12_allOf_141 (by decide) (fun hc141 => ?_) (fun hc141 => ?_)
    · rw [if_neg hc141] at hE
      exact ok_X12_allOf_j172   hE hS hT
    · rw [if_pos hc141] at hE
      refine Wp.aload_n dc_X12_allOf_144 rfl ?_
      refine Wp.iload dc_X12_allOf_145 rfl ?_
      refine Wp.iload_n dc_X12_allOf_147 rfl ?_
      obtain ⟨p148, h148, hE⟩ := bnd hE
      refine Wp.cV2i (ok_X12_costAfter  h148) dc_X12_allOf_148 mw_X12_421 (mO11 (by decide)) (by decide) (Nat.le_of_ble_eq_true rfl) ?_
      refine Wp.aload_n dc_X12_allOf_151 rfl ?_
      refine Wp.sgetR (t := 40) dc_X12_allOf_152 fw_X12_56 (mO11 (by decide)) rfl ?_
      refine Wp.iload_n dc_X12_allOf_155 rfl ?_
      refine Wp.iconst dc_X12_allOf_156 ic_1 ?_
      refine Wp.iload dc_X12_allOf_157 rfl ?_
      refine Wp.ishl dc_X12_allOf_159 ?_
      refine Wp.ior dc_X12_allOf_160 ?_
      obtain ⟨j161, h161, hE⟩ := bnd hE
      refine Wp.siald dc_X12_allOf_161 (mO13 (by decide)) h161 ?_
      refine Wp.iadd dc_X12_allOf_162 ?_
      refine Wp.aload_n dc_X12_allOf_163 rfl ?_
      refine Wp.sgetR (t := 40) dc_X12_allOf_164 fw_X12_56 (mO11 (by decide)) rfl ?_
      refine Wp.iload_n dc_X12_allOf_167 rfl ?_
      obtain ⟨j168, h168, hE⟩ := bnd hE
      refine Wp.siald dc_X12_allOf_168 (mO13 (by decide)) h168 ?_
      refine Wp.icmp_eq (tgt := 178) dc_X12_allOf_169 (by decide) (fun hc169 => ?_) (fun hc169 => ?_)
      · rw [if_pos hc169] at hE
        cases hE
        exact hT _ rfl
      · rw [if_neg hc169] at hE
        exact ok_X12_allOf_j172   hE hS hT
theorem ok_X12_allOf_l126 {Q : Option AV → AH → Prop}  {σ : SS}  {x1 : Int32} {x2 : Int32} {x3 : Int32} {x4 : Int32} {o}    (hE : X12_allOf_l126  σ  x1 x2 x3 x4 = some o) (hS : ∀ ss, o = Sum.inl ss → (X12_allOf_P118  Q   x1) ss) (hT : ∀ tt, o = Sum.inr tt → (X12_allOf_R118  Q   x1) tt) : Ws 4 mi_X12_allOf Q 126 [some (vr 11 0), some (vi x1), some (vi x2), some (vi x3), some (vi x4)] [] σ := by
  unfold X12_allOf_l126 at hE
  obtain ⟨t126, h1, hE⟩ := bnd hE
  refine iter_ok (P := (X12_allOf_P126  Q   x1 x2 x3)) (R := (X12_allOf_R126  Q   x1 x2 x3)) (fun ss o h2 hS hT => ?_) NF _ _ h1 ?_
  · skip
    exact ok_X12_allOf_l126c   h2 hS hT
  · skip
    show Ws 4 mi_X12_allOf Q 178 [some (vr 11 0), some (vi x1), some (vi x2), some (vi x3), some (vi t126.1)] [] t126.2
    refine Wp.aload_n dc_X12_allOf_178 rfl ?_
    refine Wp.sgetR (t := 41) dc_X12_allOf_179 fw_X12_59 (mO11 (by decide)) rfl ?_
    refine Wp.iload_n dc_X12_allOf_182 rfl ?_
    refine Wp.iload dc_X12_allOf_183 rfl ?_
    obtain ⟨j185, h185, hE⟩ := bnd hE
    refine Wp.siast dc_X12_allOf_185 (mO13 (by decide)) h185 ?_
    obtain ⟨σ185, es_185, hE⟩ := bnS hE
    rw [es_185]
    obtain ⟨x3_186, e_186, hE⟩ := bnS hE
    refine Wp.iinc dc_X12_allOf_186 rfl ((ii ic_1).trans e_186) (by decide) ?_
    refine Wp.iload_n dc_X12_allOf_189 rfl ?_
    refine Wp.iconst dc_X12_allOf_190 ic_1 ?_
    refine Wp.iload dc_X12_allOf_191 rfl ?_
    refine Wp.ishl dc_X12_allOf_193 ?_
    refine Wp.ior dc_X12_allOf_194 ?_
    obtain ⟨x2_195, e_195, hE⟩ := bnS hE
    rw [e_195]
    refine Wp.istore_n dc_X12_allOf_195 (by decide) ?_
    refine Wp.goto (tgt := 118) dc_X12_allOf_196 (by decide) ?_
    cases hE
    exact hS _ rfl _
theorem ok_X12_allOf_l118c {Q : Option AV → AH → Prop}  {σ : SS}  {x1 : Int32} {x2 : Int32} {x3 : Int32} {o} {z4 : Option AV}   (hE : X12_allOf_l118c  σ  x1 x2 x3 = some o) (hS : ∀ ss, o = Sum.inl ss → (X12_allOf_P118  Q   x1) ss) (hT : ∀ tt, o = Sum.inr tt → (X12_allOf_R118  Q   x1) tt) : Ws 4 mi_X12_allOf Q 118 [some (vr 11 0), some (vi x1), some (vi x2), some (vi x3), z4] [] σ := by
  unfold X12_allOf_l118c at hE
  refine Wp.iload_n dc_X12_allOf_118 rfl ?_
  refine Wp.iload_n dc_X12_allOf_119 rfl ?_
  refine Wp.icmp_eq (tgt := 199) dc_X12_allOf_120 (by decide) (fun hc120 => ?_) (fun hc120 => ?_)
  · rw [if_pos hc120] at hE
    cases hE
    exact hT _ rfl _ _ _ _
  · rw [if_neg hc120] at hE
    refine Wp.iconst dc_X12_allOf_123 ic_0 ?_
    refine Wp.istore dc_X12_allOf_124 (by decide) ?_
    exact ok_X12_allOf_l126   hE hS hT
theorem ok_X12_allOf_l118 {Q : Option AV → AH → Prop}  {σ : SS}  {x1 : Int32} {x2 : Int32} {x3 : Int32} {o} {z4 : Option AV}   (hE : X12_allOf_l118  σ  x1 x2 x3 = some o) (hK : Q (some (vi o.1)) (hp o.2)) : Ws 4 mi_X12_allOf Q 118 [some (vr 11 0), some (vi x1), some (vi x2), some (vi x3), z4] [] σ := by
  unfold X12_allOf_l118 at hE
  obtain ⟨t118, h1, hE⟩ := bnd hE
  refine iter_ok (P := (X12_allOf_P118  Q   x1)) (R := (X12_allOf_R118  Q   x1)) (fun ss o h2 hS hT => ?_) NF _ _ h1 ?_ _
  · intro z4
    exact ok_X12_allOf_l118c   h2 hS hT
  · intro z1 z2 z3 z4
    show Ws 4 mi_X12_allOf Q 199 [some (vr 11 0), z1, z2, z3, z4] [] t118
    refine Wp.aload_n dc_X12_allOf_199 rfl ?_
    refine Wp.sgetR (t := 40) dc_X12_allOf_200 fw_X12_56 (mO11 (by decide)) rfl ?_
    refine Wp.iconst dc_X12_allOf_203 ic_0 ?_
    obtain ⟨j204, h204, hE⟩ := bnd hE
    refine Wp.siald dc_X12_allOf_204 (mO13 (by decide)) h204 ?_
    cases hE
    exact Wp.ireturn dc_X12_allOf_205 rfl rfl (Nat.le_refl _) (Nat.le_refl _) hK
theorem ok_X12_allOf_l9 {Q : Option AV → AH → Prop}  {σ : SS}  {x1 : Int32} {x2 : Int32} {o} {z3 z4 : Option AV}   (hE : X12_allOf_l9  σ  x1 x2 = some o) (hK : Q (some (vi o.1)) (hp o.2)) : Ws 4 mi_X12_allOf Q 9 [some (vr 11 0), some (vi x1), some (vi x2), z3, z4] [] σ := by
  unfold X12_allOf_l9 at hE
  obtain ⟨t9, h1, hE⟩ := bnd hE
  refine iter_ok (P := (X12_allOf_P9  Q   x1)) (R := (X12_allOf_R9  Q   x1)) (fun ss o h2 hS hT => ?_) NF _ _ h1 ?_ _ _
  · intro z3 z4
    exact ok_X12_allOf_l9c   h2 hS hT
  · intro z2 z3 z4
    show Ws 4 mi_X12_allOf Q 114 [some (vr 11 0), some (vi x1), z2, z3, z4] [] t9
    refine Wp.iconst dc_X12_allOf_114 ic_0 ?_
    refine Wp.istore_n dc_X12_allOf_115 (by decide) ?_
    refine Wp.iconst dc_X12_allOf_116 ic_0 ?_
    refine Wp.istore_n dc_X12_allOf_117 (by decide) ?_
    exact ok_X12_allOf_l118   hE hK
theorem ok_X12_allOf_j0 {Q : Option AV → AH → Prop}  {σ : SS}   {o} {z1 z2 z3 z4 : Option AV}   (hE : X12_allOf_j0  σ   = some o) (hK : Q (some (vi o.1)) (hp o.2)) : Ws 4 mi_X12_allOf Q 0 [some (vr 11 0), z1, z2, z3, z4] [] σ := by
  unfold X12_allOf_j0 at hE
  refine Wp.aload_n dc_X12_allOf_0 rfl ?_
  refine Wp.sgetR (t := 34) dc_X12_allOf_1 fw_X12_35 (mO11 (by decide)) rfl ?_
  refine Wp.iconst dc_X12_allOf_4 ic_3 ?_
  obtain ⟨j5, h5, hE⟩ := bnd hE
  refine Wp.siald dc_X12_allOf_5 (mO13 (by decide)) h5 ?_
  obtain ⟨x1_6, e_6, hE⟩ := bnS hE
  rw [e_6]
  refine Wp.istore_n dc_X12_allOf_6 (by decide) ?_
  refine Wp.iload_n dc_X12_allOf_7 rfl ?_
  refine Wp.istore_n dc_X12_allOf_8 (by decide) ?_
  exact ok_X12_allOf_l9   hE hK
theorem ok_X12_allOf  {σ : SS}   {o}   (hE : X12_allOf  σ   = some o) : Runs 4 0 0 mi_X12_allOf [vr 11 0] (hp σ) (fun v h => v = some (vi o.1) ∧ h = hp o.2) := by
  refine Runs.of pn_X12 (Nat.le_of_ble_eq_true rfl) ?_
  exact ok_X12_allOf_j0   hE ⟨rfl, rfl⟩
def X12_all_P14 (Q : Option AV → AH → Prop)    (ss : Int32 × Int32 × SS) : Prop := ∀ z3 z4 : Option AV, Ws 5 mi_X12_all Q 14 [some (vr 11 0), some (vi ss.1), some (vi ss.2.1), z3, z4] [] ss.2.2
def X12_all_R14 (Q : Option AV → AH → Prop)    (tt : Int32 × SS) : Prop := ∀ z0 z2 z3 z4 : Option AV, Ws 5 mi_X12_all Q 128 [z0, some (vi tt.1), z2, z3, z4] [] tt.2
def X12_all_P28 (Q : Option AV → AH → Prop)   (x1 : Int32) (x2 : Int32) (ss : Int32 × Int32 × SS) : Prop := Ws 5 mi_X12_all Q 28 [some (vr 11 0), some (vi x1), some (vi x2), some (vi ss.1), some (vi ss.2.1)] [] ss.2.2
def X12_all_R28 (Q : Option AV → AH → Prop)   (x1 : Int32) (x2 : Int32) (tt : Int32 × SS) : Prop := ∀ z4 : Option AV, Ws 5 mi_X12_all Q 47 [some (vr 11 0), some (vi x1), some (vi x2), some (vi tt.1), z4] [] tt.2
theorem ok_X12_all_l28c {Q : Option AV → AH → Prop}  {σ : SS}  {x1 : Int32} {x2 : Int32} {x3 : Int32} {x4 : Int32} {o}    (hE : X12_all_l28c  σ  x1 x2 x3 x4 = some o) (hS : ∀ ss, o = Sum.inl ss → (X12_all_P28  Q   x1 x2) ss) (hT : ∀ tt, o = Sum.inr tt → (X12_all_R28  Q   x1 x2) tt) : Ws 5 mi_X12_all Q 28 [some (vr 11 0), some (vi x1), some (vi x2), some (vi x3), some (vi x4)] [] σ := by
  unfold X12_all_l28c at hE
  refine Wp.iload dc_X12_all_28 rfl ?_
  refine Wp.iload_n dc_X12_all_30 rfl ?_
  refine Wp.icmp_ge (tgt := 47) dc_X12_all_31 (by decide) (fun hc31 => ?_) (fun hc31 => ?_)
  · rw [if_pos hc31] at hE
    cases hE
    exact hT _ rfl _
  · rw [if_neg hc31] at hE
    refine Wp.iload_n dc_X12_all_34 rfl ?_
    refine Wp.aload_n dc_X12_all_35 rfl ?_
    obtain ⟨p36, h36, hE⟩ := bnd hE
    refine Wp.cV0i (ok_X12_loosensOnce  h36) dc_X12_all_36 mw_X12_343 (mO11 (by decide)) (by decide) (Nat.le_of_ble_eq_true rfl) ?_
    refine Wp.iadd dc_X12_all_39 ?_
    obtain ⟨x3_40, e_40, hE⟩ := bnS hE
    rw [e_40]
    refine Wp.istore_n dc_X12_all_40 (by decide) ?_
    obtain ⟨x4_41, e_41, hE⟩ := bnS hE
    refine Wp.iinc dc_X12_all_41 rfl ((ii ic_1).trans e_41) (by decide) ?_
    refine Wp.goto (tgt := 28) dc_X12_all_44 (by decide) ?_
    cases hE
    exact hS _ rfl
def X12_all_P93 (Q : Option AV → AH → Prop)   (x1 : Int32) (x2 : Int32) (ss : Int32 × SS) : Prop := ∀ z3 : Option AV, Ws 5 mi_X12_all Q 93 [some (vr 11 0), some (vi x1), some (vi x2), z3, some (vi ss.1)] [] ss.2
def X12_all_R93 (Q : Option AV → AH → Prop)   (x1 : Int32) (x2 : Int32) (tt : SS) : Prop := ∀ z3 z4 : Option AV, Ws 5 mi_X12_all Q 122 [some (vr 11 0), some (vi x1), some (vi x2), z3, z4] [] tt
theorem ok_X12_all_l93c {Q : Option AV → AH → Prop}  {σ : SS}  {x1 : Int32} {x2 : Int32} {x4 : Int32} {o} {z3 : Option AV}   (hE : X12_all_l93c  σ  x1 x2 x4 = some o) (hS : ∀ ss, o = Sum.inl ss → (X12_all_P93  Q   x1 x2) ss) (hT : ∀ tt, o = Sum.inr tt → (X12_all_R93  Q   x1 x2) tt) : Ws 5 mi_X12_all Q 93 [some (vr 11 0), some (vi x1), some (vi x2), z3, some (vi x4)] [] σ := by
  unfold X12_all_l93c at hE
  refine Wp.iload dc_X12_all_93 rfl ?_
  refine Wp.aload_n dc_X12_all_95 rfl ?_
  refine Wp.sgetI dc_X12_all_96 fw_X12_68 (mO11 (by decide)) ?_
  refine Wp.icmp_ge (tgt := 122) dc_X12_all_99 (by decide) (fun hc99 => ?_) (fun hc99 => ?_)
  · rw [if_pos hc99] at hE
    cases hE
    exact hT _ rfl _ _
  · rw [if_neg hc99] at hE
    refine Wp.aload_n dc_X12_all_102 rfl ?_
    refine Wp.sgetR (t := 42) dc_X12_all_103 fw_X12_62 (mO11 (by decide)) rfl ?_
    refine Wp.iload dc_X12_all_106 rfl ?_
    refine Wp.aload_n dc_X12_all_108 rfl ?_
    refine Wp.sgetR (t := 41) dc_X12_all_109 fw_X12_59 (mO11 (by decide)) rfl ?_
    refine Wp.iload dc_X12_all_112 rfl ?_
    obtain ⟨j114, h114, hE⟩ := bnd hE
    refine Wp.siald dc_X12_all_114 (mO13 (by decide)) h114 ?_
    obtain ⟨j115, h115, hE⟩ := bnd hE
    refine Wp.siast dc_X12_all_115 (mO13 (by decide)) h115 ?_
    obtain ⟨σ115, es_115, hE⟩ := bnS hE
    rw [es_115]
    obtain ⟨x4_116, e_116, hE⟩ := bnS hE
    refine Wp.iinc dc_X12_all_116 rfl ((ii ic_1).trans e_116) (by decide) ?_
    refine Wp.goto (tgt := 93) dc_X12_all_119 (by decide) ?_
    cases hE
    exact hS _ rfl _
theorem ok_X12_all_j122 {Q : Option AV → AH → Prop}  {σ : SS}  {x1 : Int32} {x2 : Int32} {o} {z3 z4 : Option AV}   (hE : X12_all_j122  σ  x1 x2 = some o) (hS : ∀ ss, o = Sum.inl ss → (X12_all_P14  Q   ) ss) (hT : ∀ tt, o = Sum.inr tt → (X12_all_R14  Q   ) tt) : Ws 5 mi_X12_all Q 122 [some (vr 11 0), some (vi x1), some (vi x2), z3, z4] [] σ := by
  unfold X12_all_j122 at hE
  obtain ⟨x2_122, e_122, hE⟩ := bnS hE
  refine Wp.iinc dc_X12_all_122 rfl ((ii ic_1).trans e_122) (by decide) ?_
  refine Wp.goto (tgt := 14) dc_X12_all_125 (by decide) ?_
  cases hE
  exact hS _ rfl _ _
theorem ok_X12_all_l93 {Q : Option AV → AH → Prop}  {σ : SS}  {x1 : Int32} {x2 : Int32} {x4 : Int32} {o} {z3 : Option AV}   (hE : X12_all_l93  σ  x1 x2 x4 = some o) (hS : ∀ ss, o = Sum.inl ss → (X12_all_P14  Q   ) ss) (hT : ∀ tt, o = Sum.inr tt → (X12_all_R14  Q   ) tt) : Ws 5 mi_X12_all Q 93 [some (vr 11 0), some (vi x1), some (vi x2), z3, some (vi x4)] [] σ := by
  unfold X12_all_l93 at hE
  obtain ⟨t93, h1, hE⟩ := bnd hE
  refine iter_ok (P := (X12_all_P93  Q   x1 x2)) (R := (X12_all_R93  Q   x1 x2)) (fun ss o h2 hS hT => ?_) NF _ _ h1 ?_ _
  · intro z3
    exact ok_X12_all_l93c   h2 hS hT
  · intro z3 z4
    show Ws 5 mi_X12_all Q 122 [some (vr 11 0), some (vi x1), some (vi x2), z3, z4] [] t93
    exact ok_X12_all_j122   hE hS hT
theorem ok_X12_all_j70 {Q : Option AV → AH → Prop}  {σ : SS}  {x2 : Int32} {x3 : Int32} {o} {z1 z4 : Option AV}   (hE : X12_all_j70  σ  x2 x3 = some o) (hS : ∀ ss, o = Sum.inl ss → (X12_all_P14  Q   ) ss) (hT : ∀ tt, o = Sum.inr tt → (X12_all_R14  Q   ) tt) : Ws 5 mi_X12_all Q 70 [some (vr 11 0), z1, some (vi x2), some (vi x3), z4] [] σ := by
  unfold X12_all_j70 at hE
  refine Wp.iload_n dc_X12_all_70 rfl ?_
  refine Wp.istore_n dc_X12_all_71 (by decide) ?_
  refine Wp.aload_n dc_X12_all_72 rfl ?_
  refine Wp.iload_n dc_X12_all_73 rfl ?_
  refine Wp.sputI dc_X12_all_74 fw_X12_427 (mO11 (by decide)) (Nr.i _) ?_
  obtain ⟨σ74, es_74, hE⟩ := bnS hE
  rw [es_74]
  refine Wp.aload_n dc_X12_all_77 rfl ?_
  refine Wp.aload_n dc_X12_all_78 rfl ?_
  refine Wp.sgetR (t := 34) dc_X12_all_79 fw_X12_35 (mO11 (by decide)) rfl ?_
  refine Wp.iconst dc_X12_all_82 ic_3 ?_
  obtain ⟨j83, h83, hE⟩ := bnd hE
  refine Wp.siald dc_X12_all_83 (mO13 (by decide)) h83 ?_
  obtain ⟨v84, h84, hE⟩ := bnd hE
  refine Wp.cS1i (ok_X12_sizeOf  h84) dc_X12_all_84 mw_X12_349 (by decide) (Nat.le_of_ble_eq_true rfl) ?_
  refine Wp.sputI dc_X12_all_87 fw_X12_68 (mO11 (by decide)) (Nr.i _) ?_
  obtain ⟨σ87, es_87, hE⟩ := bnS hE
  rw [es_87]
  refine Wp.iconst dc_X12_all_90 ic_0 ?_
  refine Wp.istore dc_X12_all_91 (by decide) ?_
  exact ok_X12_all_l93   hE hS hT
theorem ok_X12_all_l28 {Q : Option AV → AH → Prop}  {σ : SS}  {x1 : Int32} {x2 : Int32} {x3 : Int32} {x4 : Int32} {o}    (hE : X12_all_l28  σ  x1 x2 x3 x4 = some o) (hS : ∀ ss, o = Sum.inl ss → (X12_all_P14  Q   ) ss) (hT : ∀ tt, o = Sum.inr tt → (X12_all_R14  Q   ) tt) : Ws 5 mi_X12_all Q 28 [some (vr 11 0), some (vi x1), some (vi x2), some (vi x3), some (vi x4)] [] σ := by
  unfold X12_all_l28 at hE
  obtain ⟨t28, h1, hE⟩ := bnd hE
  refine iter_ok (P := (X12_all_P28  Q   x1 x2)) (R := (X12_all_R28  Q   x1 x2)) (fun ss o h2 hS hT => ?_) NF _ _ h1 ?_
  · skip
    exact ok_X12_all_l28c   h2 hS hT
  · intro z4
    show Ws 5 mi_X12_all Q 47 [some (vr 11 0), some (vi x1), some (vi x2), some (vi t28.1), z4] [] t28.2
    refine Wp.iload_n dc_X12_all_47 rfl ?_
    refine Wp.aload_n dc_X12_all_48 rfl ?_
    obtain ⟨p49, h49, hE⟩ := bnd hE
    refine Wp.cV0i (ok_X12_allOf  h49) dc_X12_all_49 mw_X12_424 (mO11 (by decide)) (by decide) (Nat.le_of_ble_eq_true rfl) ?_
    refine Wp.iadd dc_X12_all_52 ?_
    obtain ⟨x3_53, e_53, hE⟩ := bnS hE
    rw [e_53]
    refine Wp.istore_n dc_X12_all_53 (by decide) ?_
    refine Wp.aload_n dc_X12_all_54 rfl ?_
    obtain ⟨σ55, h55, hE⟩ := bnd hE
    refine Wp.cV0v (ok_X12_gives  h55) dc_X12_all_55 mw_X12_395 (mO11 (by decide)) (by decide) (Nat.le_of_ble_eq_true rfl) ?_
    refine Wp.iload_n dc_X12_all_58 rfl ?_
    refine Wp.if_lt (tgt := 70) dc_X12_all_59 (by decide) (fun hc59 => ?_) (fun hc59 => ?_)
    · rw [if_pos hc59] at hE
      exact ok_X12_all_j70   hE hS hT
    · rw [if_neg hc59] at hE
      refine Wp.iload_n dc_X12_all_62 rfl ?_
      refine Wp.iload_n dc_X12_all_63 rfl ?_
      refine Wp.icmp_lt (tgt := 70) dc_X12_all_64 (by decide) (fun hc64 => ?_) (fun hc64 => ?_)
      · rw [if_pos hc64] at hE
        exact ok_X12_all_j70   hE hS hT
      · rw [if_neg hc64] at hE
        refine Wp.goto (tgt := 122) dc_X12_all_67 (by decide) ?_
        exact ok_X12_all_j122   hE hS hT
theorem ok_X12_all_l14c {Q : Option AV → AH → Prop}  {σ : SS}   {x1 : Int32} {x2 : Int32} {o} {z3 z4 : Option AV}   (hE : X12_all_l14c  σ   x1 x2 = some o) (hS : ∀ ss, o = Sum.inl ss → (X12_all_P14  Q   ) ss) (hT : ∀ tt, o = Sum.inr tt → (X12_all_R14  Q   ) tt) : Ws 5 mi_X12_all Q 14 [some (vr 11 0), some (vi x1), some (vi x2), z3, z4] [] σ := by
  unfold X12_all_l14c at hE
  refine Wp.iload_n dc_X12_all_14 rfl ?_
  refine Wp.iconst dc_X12_all_15 ic_4 ?_
  refine Wp.icmp_ge (tgt := 128) dc_X12_all_16 (by decide) (fun hc16 => ?_) (fun hc16 => ?_)
  · rw [if_pos hc16] at hE
    cases hE
    exact hT _ rfl _ _ _ _
  · rw [if_neg hc16] at hE
    refine Wp.aload_n dc_X12_all_19 rfl ?_
    obtain ⟨σ20, h20, hE⟩ := bnd hE
    refine Wp.cV0v (ok_X12_keeps  h20) dc_X12_all_20 mw_X12_392 (mO11 (by decide)) (by decide) (Nat.le_of_ble_eq_true rfl) ?_
    refine Wp.iconst dc_X12_all_23 ic_0 ?_
    refine Wp.istore_n dc_X12_all_24 (by decide) ?_
    refine Wp.iconst dc_X12_all_25 ic_0 ?_
    refine Wp.istore dc_X12_all_26 (by decide) ?_
    exact ok_X12_all_l28   hE hS hT
theorem ok_X12_all_l14 {Q : Option AV → AH → Prop}  {σ : SS}  {x1 : Int32} {x2 : Int32} {o} {z3 z4 : Option AV}   (hE : X12_all_l14  σ  x1 x2 = some o) (hK : Q (some (vi o.1)) (hp o.2)) : Ws 5 mi_X12_all Q 14 [some (vr 11 0), some (vi x1), some (vi x2), z3, z4] [] σ := by
  unfold X12_all_l14 at hE
  obtain ⟨t14, h1, hE⟩ := bnd hE
  refine iter_ok (P := (X12_all_P14  Q   )) (R := (X12_all_R14  Q   )) (fun ss o h2 hS hT => ?_) NF _ _ h1 ?_ _ _
  · intro z3 z4
    exact ok_X12_all_l14c   h2 hS hT
  · intro z0 z2 z3 z4
    show Ws 5 mi_X12_all Q 128 [z0, some (vi t14.1), z2, z3, z4] [] t14.2
    refine Wp.iload_n dc_X12_all_128 rfl ?_
    cases hE
    exact Wp.ireturn dc_X12_all_129 rfl rfl (Nat.le_refl _) (Nat.le_refl _) hK
theorem ok_X12_all_j0 {Q : Option AV → AH → Prop}  {σ : SS}   {o} {z1 z2 z3 z4 : Option AV}   (hE : X12_all_j0  σ   = some o) (hK : Q (some (vi o.1)) (hp o.2)) : Ws 5 mi_X12_all Q 0 [some (vr 11 0), z1, z2, z3, z4] [] σ := by
  unfold X12_all_j0 at hE
  refine Wp.aload_n dc_X12_all_0 rfl ?_
  refine Wp.iconst dc_X12_all_1 ic_0 ?_
  refine Wp.sputI dc_X12_all_2 fw_X12_77 (mO11 (by decide)) (Nr.i _) ?_
  obtain ⟨σ2, es_2, hE⟩ := bnS hE
  rw [es_2]
  refine Wp.aload_n dc_X12_all_5 rfl ?_
  refine Wp.iconst dc_X12_all_6 ic_0 ?_
  refine Wp.sputI dc_X12_all_7 fw_X12_80 (mO11 (by decide)) (Nr.i _) ?_
  obtain ⟨σ7, es_7, hE⟩ := bnS hE
  rw [es_7]
  refine Wp.iconst dc_X12_all_10 ic_m1 ?_
  refine Wp.istore_n dc_X12_all_11 (by decide) ?_
  refine Wp.iconst dc_X12_all_12 ic_0 ?_
  refine Wp.istore_n dc_X12_all_13 (by decide) ?_
  exact ok_X12_all_l14   hE hK
theorem ok_X12_all  {σ : SS}   {o}   (hE : X12_all  σ   = some o) : Runs 5 0 0 mi_X12_all [vr 11 0] (hp σ) (fun v h => v = some (vi o.1) ∧ h = hp o.2) := by
  refine Runs.of pn_X12 (Nat.le_of_ble_eq_true rfl) ?_
  exact ok_X12_all_j0   hE ⟨rfl, rfl⟩
theorem ok_X12_order_j0 {Q : Option AV → AH → Prop}  {σ : SS}  {x1 : Int32} {o}    (hE : X12_order_j0  σ  x1 = some o) (hK : Q (some (vi o.1)) (hp o.2)) : Ws 1 mi_X12_order Q 0 [some (vr 11 0), some (vi x1)] [] σ := by
  unfold X12_order_j0 at hE
  refine Wp.aload_n dc_X12_order_0 rfl ?_
  refine Wp.iconst dc_X12_order_1 ic_0 ?_
  refine Wp.sputI dc_X12_order_2 fw_X12_77 (mO11 (by decide)) (Nr.i _) ?_
  obtain ⟨σ2, es_2, hE⟩ := bnS hE
  rw [es_2]
  refine Wp.aload_n dc_X12_order_5 rfl ?_
  refine Wp.iconst dc_X12_order_6 ic_0 ?_
  refine Wp.sputI dc_X12_order_7 fw_X12_80 (mO11 (by decide)) (Nr.i _) ?_
  obtain ⟨σ7, es_7, hE⟩ := bnS hE
  rw [es_7]
  refine Wp.iload_n dc_X12_order_10 rfl ?_
  refine Wp.i2l dc_X12_order_11 ?_
  refine Wp.lconst dc_X12_order_12 lc_0 ?_
  refine Wp.aload_n dc_X12_order_13 rfl ?_
  refine Wp.sgetI dc_X12_order_14 fw_X12_68 (mO11 (by decide)) ?_
  refine Wp.iconst dc_X12_order_17 ic_1 ?_
  refine Wp.isub dc_X12_order_18 ?_
  refine Wp.i2l dc_X12_order_19 ?_
  obtain ⟨v20, h20, hE⟩ := bnd hE
  refine Wp.cS3i (ok_X12_isIn  h20) dc_X12_order_20 mw_X12_112 (by decide) (Nat.le_of_ble_eq_true rfl) ?_
  refine Wp.if_eq (tgt := 35) dc_X12_order_23 (by decide) (fun hc23 => ?_) (fun hc23 => ?_)
  · rw [if_pos hc23] at hE
    refine Wp.aload_n dc_X12_order_35 rfl ?_
    refine Wp.bipush dc_X12_order_36 bp_8 ?_
    obtain ⟨p38, h38, hE⟩ := bnd hE
    refine Wp.cV1i (ok_X12_refuse  h38) dc_X12_order_38 mw_X12_308 (mO11 (by decide)) (by decide) (Nat.le_of_ble_eq_true rfl) ?_
    cases hE
    exact Wp.ireturn dc_X12_order_41 rfl rfl (Nat.le_refl _) (Nat.le_refl _) hK
  · rw [if_neg hc23] at hE
    refine Wp.aload_n dc_X12_order_26 rfl ?_
    refine Wp.sgetR (t := 42) dc_X12_order_27 fw_X12_62 (mO11 (by decide)) rfl ?_
    refine Wp.iload_n dc_X12_order_30 rfl ?_
    obtain ⟨j31, h31, hE⟩ := bnd hE
    refine Wp.siald dc_X12_order_31 (mO13 (by decide)) h31 ?_
    refine Wp.goto (tgt := 41) dc_X12_order_32 (by decide) ?_
    cases hE
    exact Wp.ireturn dc_X12_order_41 rfl rfl (Nat.le_refl _) (Nat.le_refl _) hK
theorem ok_X12_order  {σ : SS}  {x1 : Int32} {o}   (hE : X12_order  σ  x1 = some o) : Runs 1 0 0 mi_X12_order [vr 11 0, vi x1] (hp σ) (fun v h => v = some (vi o.1) ∧ h = hp o.2) := by
  refine Runs.of pn_X12 (Nat.le_of_ble_eq_true rfl) ?_
  exact ok_X12_order_j0   hE ⟨rfl, rfl⟩
theorem ok_X12_loosens_j0 {Q : Option AV → AH → Prop}  {σ : SS}   {o}    (hE : X12_loosens_j0  σ   = some o) (hK : Q (some (vi o.1)) (hp o.2)) : Ws 1 mi_X12_loosens Q 0 [some (vr 11 0)] [] σ := by
  unfold X12_loosens_j0 at hE
  refine Wp.aload_n dc_X12_loosens_0 rfl ?_
  refine Wp.iconst dc_X12_loosens_1 ic_0 ?_
  refine Wp.sputI dc_X12_loosens_2 fw_X12_77 (mO11 (by decide)) (Nr.i _) ?_
  obtain ⟨σ2, es_2, hE⟩ := bnS hE
  rw [es_2]
  refine Wp.aload_n dc_X12_loosens_5 rfl ?_
  refine Wp.iconst dc_X12_loosens_6 ic_0 ?_
  refine Wp.sputI dc_X12_loosens_7 fw_X12_80 (mO11 (by decide)) (Nr.i _) ?_
  obtain ⟨σ7, es_7, hE⟩ := bnS hE
  rw [es_7]
  refine Wp.aload_n dc_X12_loosens_10 rfl ?_
  refine Wp.sgetI dc_X12_loosens_11 fw_X12_68 (mO11 (by decide)) ?_
  refine Wp.if_ge (tgt := 26) dc_X12_loosens_14 (by decide) (fun hc14 => ?_) (fun hc14 => ?_)
  · rw [if_pos hc14] at hE
    refine Wp.aload_n dc_X12_loosens_26 rfl ?_
    refine Wp.sgetI dc_X12_loosens_27 fw_X12_427 (mO11 (by decide)) ?_
    cases hE
    exact Wp.ireturn dc_X12_loosens_30 rfl rfl (Nat.le_refl _) (Nat.le_refl _) hK
  · rw [if_neg hc14] at hE
    refine Wp.aload_n dc_X12_loosens_17 rfl ?_
    refine Wp.bipush dc_X12_loosens_18 bp_8 ?_
    obtain ⟨p20, h20, hE⟩ := bnd hE
    refine Wp.cV1i (ok_X12_refuse  h20) dc_X12_loosens_20 mw_X12_308 (mO11 (by decide)) (by decide) (Nat.le_of_ble_eq_true rfl) ?_
    refine Wp.goto (tgt := 30) dc_X12_loosens_23 (by decide) ?_
    cases hE
    exact Wp.ireturn dc_X12_loosens_30 rfl rfl (Nat.le_refl _) (Nat.le_refl _) hK
theorem ok_X12_loosens  {σ : SS}   {o}   (hE : X12_loosens  σ   = some o) : Runs 1 0 0 mi_X12_loosens [vr 11 0] (hp σ) (fun v h => v = some (vi o.1) ∧ h = hp o.2) := by
  refine Runs.of pn_X12 (Nat.le_of_ble_eq_true rfl) ?_
  exact ok_X12_loosens_j0   hE ⟨rfl, rfl⟩
def X12_soonest_P16 (Q : Option AV → AH → Prop)    (ss : Int32 × Int32 × Int32 × SS) : Prop := ∀ z4 : Option AV, Ws 4 mi_X12_soonest Q 16 [some (vr 11 0), some (vi ss.1), some (vi ss.2.1), some (vi ss.2.2.1), z4] [] ss.2.2.2
def X12_soonest_R16 (Q : Option AV → AH → Prop)    (tt : Int32 × SS) : Prop := ∀ z2 z3 z4 : Option AV, Ws 4 mi_X12_soonest Q 68 [some (vr 11 0), some (vi tt.1), z2, z3, z4] [] tt.2
theorem ok_X12_soonest_j62 {Q : Option AV → AH → Prop}  {σ : SS}  {x1 : Int32} {x2 : Int32} {x3 : Int32} {o} {z4 : Option AV}   (hE : X12_soonest_j62  σ  x1 x2 x3 = some o) (hS : ∀ ss, o = Sum.inl ss → (X12_soonest_P16  Q   ) ss) (hT : ∀ tt, o = Sum.inr tt → (X12_soonest_R16  Q   ) tt) : Ws 4 mi_X12_soonest Q 62 [some (vr 11 0), some (vi x1), some (vi x2), some (vi x3), z4] [] σ := by
  unfold X12_soonest_j62 at hE
  obtain ⟨x3_62, e_62, hE⟩ := bnS hE
  refine Wp.iinc dc_X12_soonest_62 rfl ((ii ic_1).trans e_62) (by decide) ?_
  refine Wp.goto (tgt := 16) dc_X12_soonest_65 (by decide) ?_
  cases hE
  exact hS _ rfl _
theorem ok_X12_soonest_j57 {Q : Option AV → AH → Prop}  {σ : SS}  {x3 : Int32} {x4 : Int32} {o} {z1 z2 : Option AV}   (hE : X12_soonest_j57  σ  x3 x4 = some o) (hS : ∀ ss, o = Sum.inl ss → (X12_soonest_P16  Q   ) ss) (hT : ∀ tt, o = Sum.inr tt → (X12_soonest_R16  Q   ) tt) : Ws 4 mi_X12_soonest Q 57 [some (vr 11 0), z1, z2, some (vi x3), some (vi x4)] [] σ := by
  unfold X12_soonest_j57 at hE
  refine Wp.iload_n dc_X12_soonest_57 rfl ?_
  refine Wp.istore_n dc_X12_soonest_58 (by decide) ?_
  refine Wp.iload dc_X12_soonest_59 rfl ?_
  refine Wp.istore_n dc_X12_soonest_61 (by decide) ?_
  exact ok_X12_soonest_j62   hE hS hT
theorem ok_X12_soonest_l16c {Q : Option AV → AH → Prop}  {σ : SS}   {x1 : Int32} {x2 : Int32} {x3 : Int32} {o} {z4 : Option AV}   (hE : X12_soonest_l16c  σ   x1 x2 x3 = some o) (hS : ∀ ss, o = Sum.inl ss → (X12_soonest_P16  Q   ) ss) (hT : ∀ tt, o = Sum.inr tt → (X12_soonest_R16  Q   ) tt) : Ws 4 mi_X12_soonest Q 16 [some (vr 11 0), some (vi x1), some (vi x2), some (vi x3), z4] [] σ := by
  unfold X12_soonest_l16c at hE
  refine Wp.iload_n dc_X12_soonest_16 rfl ?_
  refine Wp.aload_n dc_X12_soonest_17 rfl ?_
  refine Wp.sgetR (t := 34) dc_X12_soonest_18 fw_X12_35 (mO11 (by decide)) rfl ?_
  refine Wp.iconst dc_X12_soonest_21 ic_0 ?_
  obtain ⟨j22, h22, hE⟩ := bnd hE
  refine Wp.siald dc_X12_soonest_22 (mO13 (by decide)) h22 ?_
  refine Wp.icmp_ge (tgt := 68) dc_X12_soonest_23 (by decide) (fun hc23 => ?_) (fun hc23 => ?_)
  · rw [if_pos hc23] at hE
    cases hE
    exact hT _ rfl _ _ _
  · rw [if_neg hc23] at hE
    refine Wp.aload_n dc_X12_soonest_26 rfl ?_
    refine Wp.iload_n dc_X12_soonest_27 rfl ?_
    obtain ⟨v28, h28, hE⟩ := bnd hE
    refine Wp.cV1i (ok_X12_isInside  h28) dc_X12_soonest_28 mw_X12_337 (mO11 (by decide)) (by decide) (Nat.le_of_ble_eq_true rfl) ?_
    refine Wp.if_ne (tgt := 37) dc_X12_soonest_31 (by decide) (fun hc31 => ?_) (fun hc31 => ?_)
    · rw [if_neg hc31] at hE
      refine Wp.aload_n dc_X12_soonest_37 rfl ?_
      refine Wp.iload_n dc_X12_soonest_38 rfl ?_
      obtain ⟨p39, h39, hE⟩ := bnd hE
      refine Wp.cV1i (ok_X12_aloneOf  h39) dc_X12_soonest_39 mw_X12_413 (mO11 (by decide)) (by decide) (Nat.le_of_ble_eq_true rfl) ?_
      refine Wp.istore dc_X12_soonest_42 (by decide) ?_
      refine Wp.iload_n dc_X12_soonest_44 rfl ?_
      refine Wp.if_lt (tgt := 57) dc_X12_soonest_45 (by decide) (fun hc45 => ?_) (fun hc45 => ?_)
      · rw [if_pos hc45] at hE
        exact ok_X12_soonest_j57   hE hS hT
      · rw [if_neg hc45] at hE
        refine Wp.iload dc_X12_soonest_48 rfl ?_
        refine Wp.iload_n dc_X12_soonest_50 rfl ?_
        refine Wp.icmp_lt (tgt := 57) dc_X12_soonest_51 (by decide) (fun hc51 => ?_) (fun hc51 => ?_)
        · rw [if_pos hc51] at hE
          exact ok_X12_soonest_j57   hE hS hT
        · rw [if_neg hc51] at hE
          refine Wp.goto (tgt := 62) dc_X12_soonest_54 (by decide) ?_
          exact ok_X12_soonest_j62   hE hS hT
    · rw [if_pos hc31] at hE
      refine Wp.goto (tgt := 62) dc_X12_soonest_34 (by decide) ?_
      exact ok_X12_soonest_j62   hE hS hT
theorem ok_X12_soonest_l16 {Q : Option AV → AH → Prop}  {σ : SS}  {x1 : Int32} {x2 : Int32} {x3 : Int32} {o} {z4 : Option AV}   (hE : X12_soonest_l16  σ  x1 x2 x3 = some o) (hK : Q (some (vi o.1)) (hp o.2)) : Ws 4 mi_X12_soonest Q 16 [some (vr 11 0), some (vi x1), some (vi x2), some (vi x3), z4] [] σ := by
  unfold X12_soonest_l16 at hE
  obtain ⟨t16, h1, hE⟩ := bnd hE
  refine iter_ok (P := (X12_soonest_P16  Q   )) (R := (X12_soonest_R16  Q   )) (fun ss o h2 hS hT => ?_) NF _ _ h1 ?_ _
  · intro z4
    exact ok_X12_soonest_l16c   h2 hS hT
  · intro z2 z3 z4
    show Ws 4 mi_X12_soonest Q 68 [some (vr 11 0), some (vi t16.1), z2, z3, z4] [] t16.2
    refine Wp.iload_n dc_X12_soonest_68 rfl ?_
    refine Wp.if_ge (tgt := 81) dc_X12_soonest_69 (by decide) (fun hc69 => ?_) (fun hc69 => ?_)
    · rw [if_pos hc69] at hE
      refine Wp.iload_n dc_X12_soonest_81 rfl ?_
      cases hE
      exact Wp.ireturn dc_X12_soonest_82 rfl rfl (Nat.le_refl _) (Nat.le_refl _) hK
    · rw [if_neg hc69] at hE
      refine Wp.aload_n dc_X12_soonest_72 rfl ?_
      refine Wp.bipush dc_X12_soonest_73 bp_8 ?_
      obtain ⟨p75, h75, hE⟩ := bnd hE
      refine Wp.cV1i (ok_X12_refuse  h75) dc_X12_soonest_75 mw_X12_308 (mO11 (by decide)) (by decide) (Nat.le_of_ble_eq_true rfl) ?_
      refine Wp.goto (tgt := 82) dc_X12_soonest_78 (by decide) ?_
      cases hE
      exact Wp.ireturn dc_X12_soonest_82 rfl rfl (Nat.le_refl _) (Nat.le_refl _) hK
theorem ok_X12_soonest_j0 {Q : Option AV → AH → Prop}  {σ : SS}   {o} {z1 z2 z3 z4 : Option AV}   (hE : X12_soonest_j0  σ   = some o) (hK : Q (some (vi o.1)) (hp o.2)) : Ws 4 mi_X12_soonest Q 0 [some (vr 11 0), z1, z2, z3, z4] [] σ := by
  unfold X12_soonest_j0 at hE
  refine Wp.aload_n dc_X12_soonest_0 rfl ?_
  refine Wp.iconst dc_X12_soonest_1 ic_0 ?_
  refine Wp.sputI dc_X12_soonest_2 fw_X12_77 (mO11 (by decide)) (Nr.i _) ?_
  obtain ⟨σ2, es_2, hE⟩ := bnS hE
  rw [es_2]
  refine Wp.aload_n dc_X12_soonest_5 rfl ?_
  refine Wp.iconst dc_X12_soonest_6 ic_0 ?_
  refine Wp.sputI dc_X12_soonest_7 fw_X12_80 (mO11 (by decide)) (Nr.i _) ?_
  obtain ⟨σ7, es_7, hE⟩ := bnS hE
  rw [es_7]
  refine Wp.iconst dc_X12_soonest_10 ic_m1 ?_
  refine Wp.istore_n dc_X12_soonest_11 (by decide) ?_
  refine Wp.iconst dc_X12_soonest_12 ic_0 ?_
  refine Wp.istore_n dc_X12_soonest_13 (by decide) ?_
  refine Wp.iconst dc_X12_soonest_14 ic_0 ?_
  refine Wp.istore_n dc_X12_soonest_15 (by decide) ?_
  exact ok_X12_soonest_l16   hE hK
theorem ok_X12_soonest  {σ : SS}   {o}   (hE : X12_soonest  σ   = some o) : Runs 4 0 0 mi_X12_soonest [vr 11 0] (hp σ) (fun v h => v = some (vi o.1) ∧ h = hp o.2) := by
  refine Runs.of pn_X12 (Nat.le_of_ble_eq_true rfl) ?_
  exact ok_X12_soonest_j0   hE ⟨rfl, rfl⟩
theorem ok_X12_fresh_j0 {Q : Option AV → AH → Prop}  {σ : SS}  {x1 : Int32} {x2 : Int32} {o}    (hE : X12_fresh_j0  σ  x1 x2 = some o) (hK : Q (some (vi o.1)) (hp o.2)) : Ws 4 mi_X12_fresh Q 0 [some (vr 11 0), some (vi x1), some (vi x2)] [] σ := by
  unfold X12_fresh_j0 at hE
  refine Wp.aload_n dc_X12_fresh_0 rfl ?_
  refine Wp.iconst dc_X12_fresh_1 ic_0 ?_
  refine Wp.sputI dc_X12_fresh_2 fw_X12_77 (mO11 (by decide)) (Nr.i _) ?_
  obtain ⟨σ2, es_2, hE⟩ := bnS hE
  rw [es_2]
  refine Wp.aload_n dc_X12_fresh_5 rfl ?_
  refine Wp.iconst dc_X12_fresh_6 ic_0 ?_
  refine Wp.sputI dc_X12_fresh_7 fw_X12_80 (mO11 (by decide)) (Nr.i _) ?_
  obtain ⟨σ7, es_7, hE⟩ := bnS hE
  rw [es_7]
  refine Wp.aload_n dc_X12_fresh_10 rfl ?_
  refine Wp.iload_n dc_X12_fresh_11 rfl ?_
  obtain ⟨v12, h12, hE⟩ := bnd hE
  refine Wp.cV1i (ok_X12_isLeadAt  h12) dc_X12_fresh_12 mw_X12_311 (mO11 (by decide)) (by decide) (Nat.le_of_ble_eq_true rfl) ?_
  refine Wp.if_ne (tgt := 24) dc_X12_fresh_15 (by decide) (fun hc15 => ?_) (fun hc15 => ?_)
  · rw [if_neg hc15] at hE
    refine Wp.aload_n dc_X12_fresh_24 rfl ?_
    refine Wp.iload_n dc_X12_fresh_25 rfl ?_
    obtain ⟨v26, h26, hE⟩ := bnd hE
    refine Wp.cV1i (ok_X12_isInside  h26) dc_X12_fresh_26 mw_X12_337 (mO11 (by decide)) (by decide) (Nat.le_of_ble_eq_true rfl) ?_
    refine Wp.if_ne (tgt := 39) dc_X12_fresh_29 (by decide) (fun hc29 => ?_) (fun hc29 => ?_)
    · rw [if_neg hc29] at hE
      refine Wp.iload_n dc_X12_fresh_39 rfl ?_
      refine Wp.i2l dc_X12_fresh_40 ?_
      refine Wp.lconst dc_X12_fresh_41 lc_0 ?_
      refine Wp.ldc2 dc_X12_fresh_42 kw_X12_430 ?_
      obtain ⟨v45, h45, hE⟩ := bnd hE
      refine Wp.cS3i (ok_X12_isIn  h45) dc_X12_fresh_45 mw_X12_112 (by decide) (Nat.le_of_ble_eq_true rfl) ?_
      refine Wp.if_ne (tgt := 57) dc_X12_fresh_48 (by decide) (fun hc48 => ?_) (fun hc48 => ?_)
      · rw [if_neg hc48] at hE
        refine Wp.aload_n dc_X12_fresh_57 rfl ?_
        refine Wp.aload_n dc_X12_fresh_58 rfl ?_
        refine Wp.iload_n dc_X12_fresh_59 rfl ?_
        obtain ⟨p60, h60, hE⟩ := bnd hE
        refine Wp.cV1i (ok_X12_aloneOf  h60) dc_X12_fresh_60 mw_X12_413 (mO11 (by decide)) (by decide) (Nat.le_of_ble_eq_true rfl) ?_
        refine Wp.i2l dc_X12_fresh_63 ?_
        refine Wp.iload_n dc_X12_fresh_64 rfl ?_
        refine Wp.i2l dc_X12_fresh_65 ?_
        refine Wp.lmul dc_X12_fresh_66 ?_
        refine Wp.ldc2 dc_X12_fresh_67 kw_X12_432 ?_
        refine Wp.aload_n dc_X12_fresh_70 rfl ?_
        refine Wp.sgetR (t := 34) dc_X12_fresh_71 fw_X12_35 (mO11 (by decide)) rfl ?_
        refine Wp.bipush dc_X12_fresh_74 bp_40 ?_
        refine Wp.iload_n dc_X12_fresh_76 rfl ?_
        refine Wp.iadd dc_X12_fresh_77 ?_
        obtain ⟨j78, h78, hE⟩ := bnd hE
        refine Wp.siald dc_X12_fresh_78 (mO13 (by decide)) h78 ?_
        refine Wp.i2l dc_X12_fresh_79 ?_
        refine Wp.lmul dc_X12_fresh_80 ?_
        refine Wp.lsub dc_X12_fresh_81 ?_
        refine Wp.ldc2 dc_X12_fresh_82 kw_X12_432 ?_
        obtain ⟨p85, h85, hE⟩ := bnd hE
        refine Wp.cV2i (ok_X12_fraction  h85) dc_X12_fresh_85 mw_X12_434 (mO11 (by decide)) (by decide) (Nat.le_of_ble_eq_true rfl) ?_
        obtain ⟨b88, h88, hE⟩ := bnd hE
        obtain ⟨e_88, hb88⟩ := zb_some h88
        skip
        cases hE
        exact Wp.ireturn dc_X12_fresh_88 rfl hb88.1 (Nat.le_refl _) (Nat.le_refl _) hK
      · rw [if_pos hc48] at hE
        refine Wp.aload_n dc_X12_fresh_51 rfl ?_
        refine Wp.iconst dc_X12_fresh_52 ic_5 ?_
        obtain ⟨p53, h53, hE⟩ := bnd hE
        refine Wp.cV1i (ok_X12_no  h53) dc_X12_fresh_53 mw_X12_92 (mO11 (by decide)) (by decide) (Nat.le_of_ble_eq_true rfl) ?_
        obtain ⟨b56, h56, hE⟩ := bnd hE
        obtain ⟨e_56, hb56⟩ := zb_some h56
        skip
        cases hE
        exact Wp.ireturn dc_X12_fresh_56 rfl hb56.1 (Nat.le_refl _) (Nat.le_refl _) hK
    · rw [if_pos hc29] at hE
      refine Wp.aload_n dc_X12_fresh_32 rfl ?_
      refine Wp.bipush dc_X12_fresh_33 bp_9 ?_
      obtain ⟨p35, h35, hE⟩ := bnd hE
      refine Wp.cV1i (ok_X12_no  h35) dc_X12_fresh_35 mw_X12_92 (mO11 (by decide)) (by decide) (Nat.le_of_ble_eq_true rfl) ?_
      obtain ⟨b38, h38, hE⟩ := bnd hE
      obtain ⟨e_38, hb38⟩ := zb_some h38
      skip
      cases hE
      exact Wp.ireturn dc_X12_fresh_38 rfl hb38.1 (Nat.le_refl _) (Nat.le_refl _) hK
  · rw [if_pos hc15] at hE
    refine Wp.aload_n dc_X12_fresh_18 rfl ?_
    refine Wp.iconst dc_X12_fresh_19 ic_2 ?_
    obtain ⟨p20, h20, hE⟩ := bnd hE
    refine Wp.cV1i (ok_X12_no  h20) dc_X12_fresh_20 mw_X12_92 (mO11 (by decide)) (by decide) (Nat.le_of_ble_eq_true rfl) ?_
    obtain ⟨b23, h23, hE⟩ := bnd hE
    obtain ⟨e_23, hb23⟩ := zb_some h23
    skip
    cases hE
    exact Wp.ireturn dc_X12_fresh_23 rfl hb23.1 (Nat.le_refl _) (Nat.le_refl _) hK
theorem ok_X12_fresh  {σ : SS}  {x1 : Int32} {x2 : Int32} {o}   (hE : X12_fresh  σ  x1 x2 = some o) : Runs 4 0 0 mi_X12_fresh [vr 11 0, vi x1, vi x2] (hp σ) (fun v h => v = some (vi o.1) ∧ h = hp o.2) := by
  refine Runs.of pn_X12 (Nat.le_of_ble_eq_true rfl) ?_
  exact ok_X12_fresh_j0   hE ⟨rfl, rfl⟩
def X12_growth_P17 (Q : Option AV → AH → Prop) (σ : SS)   (ss : Int32 × Int32) : Prop := Ws 2 mi_X12_growth Q 17 [some (vr 11 0), some (vi ss.1), some (vi ss.2)] [] σ
def X12_growth_R17 (Q : Option AV → AH → Prop) (σ : SS)   (tt : Int32) : Prop := ∀ z0 z2 : Option AV, Ws 2 mi_X12_growth Q 56 [z0, some (vi tt), z2] [] σ
theorem ok_X12_growth_j48 {Q : Option AV → AH → Prop}  {σ : SS}  {x2 : Int32} {s0 : Int32} {s1 : Int32} {o} {z1 : Option AV}   (hE : X12_growth_j48  σ  x2 s0 s1 = some o) (hS : ∀ ss, o = Sum.inl ss → (X12_growth_P17  Q σ  ) ss) (hT : ∀ tt, o = Sum.inr tt → (X12_growth_R17  Q σ  ) tt) : Ws 2 mi_X12_growth Q 48 [some (vr 11 0), z1, some (vi x2)] [vi s1, vi s0] σ := by
  unfold X12_growth_j48 at hE
  refine Wp.iadd dc_X12_growth_48 ?_
  obtain ⟨x1_49, e_49, hE⟩ := bnS hE
  rw [e_49]
  refine Wp.istore_n dc_X12_growth_49 (by decide) ?_
  obtain ⟨x2_50, e_50, hE⟩ := bnS hE
  refine Wp.iinc dc_X12_growth_50 rfl ((ii ic_1).trans e_50) (by decide) ?_
  refine Wp.goto (tgt := 17) dc_X12_growth_53 (by decide) ?_
  cases hE
  exact hS _ rfl
theorem ok_X12_growth_l17c {Q : Option AV → AH → Prop}  {σ : SS}   {x1 : Int32} {x2 : Int32} {o}    (hE : X12_growth_l17c  σ   x1 x2 = some o) (hS : ∀ ss, o = Sum.inl ss → (X12_growth_P17  Q σ  ) ss) (hT : ∀ tt, o = Sum.inr tt → (X12_growth_R17  Q σ  ) tt) : Ws 2 mi_X12_growth Q 17 [some (vr 11 0), some (vi x1), some (vi x2)] [] σ := by
  unfold X12_growth_l17c at hE
  refine Wp.iload_n dc_X12_growth_17 rfl ?_
  refine Wp.aload_n dc_X12_growth_18 rfl ?_
  refine Wp.sgetR (t := 34) dc_X12_growth_19 fw_X12_35 (mO11 (by decide)) rfl ?_
  refine Wp.iconst dc_X12_growth_22 ic_0 ?_
  obtain ⟨j23, h23, hE⟩ := bnd hE
  refine Wp.siald dc_X12_growth_23 (mO13 (by decide)) h23 ?_
  refine Wp.icmp_ge (tgt := 56) dc_X12_growth_24 (by decide) (fun hc24 => ?_) (fun hc24 => ?_)
  · rw [if_pos hc24] at hE
    cases hE
    exact hT _ rfl _ _
  · rw [if_neg hc24] at hE
    refine Wp.iload_n dc_X12_growth_27 rfl ?_
    refine Wp.aload_n dc_X12_growth_28 rfl ?_
    obtain ⟨v29, h29, hE⟩ := bnd hE
    refine Wp.cV0i (ok_X12_crossable  h29) dc_X12_growth_29 mw_X12_364 (mO11 (by decide)) (by decide) (Nat.le_of_ble_eq_true rfl) ?_
    refine Wp.iload_n dc_X12_growth_32 rfl ?_
    obtain ⟨v33, h33, hE⟩ := bnd hE
    refine Wp.cS2i (ok_X12_has  h33) dc_X12_growth_33 mw_X12_116 (by decide) (Nat.le_of_ble_eq_true rfl) ?_
    refine Wp.if_eq (tgt := 47) dc_X12_growth_36 (by decide) (fun hc36 => ?_) (fun hc36 => ?_)
    · rw [if_pos hc36] at hE
      refine Wp.iconst dc_X12_growth_47 ic_0 ?_
      exact ok_X12_growth_j48   hE hS hT
    · rw [if_neg hc36] at hE
      refine Wp.aload_n dc_X12_growth_39 rfl ?_
      refine Wp.iload_n dc_X12_growth_40 rfl ?_
      obtain ⟨v41, h41, hE⟩ := bnd hE
      refine Wp.cV1i (ok_X12_riskOf  h41) dc_X12_growth_41 mw_X12_317 (mO11 (by decide)) (by decide) (Nat.le_of_ble_eq_true rfl) ?_
      refine Wp.goto (tgt := 48) dc_X12_growth_44 (by decide) ?_
      exact ok_X12_growth_j48   hE hS hT
theorem ok_X12_growth_l17 {Q : Option AV → AH → Prop}  {σ : SS}  {x1 : Int32} {x2 : Int32} {o}    (hE : X12_growth_l17  σ  x1 x2 = some o) (hK : Q (some (vi o)) (hp σ)) : Ws 2 mi_X12_growth Q 17 [some (vr 11 0), some (vi x1), some (vi x2)] [] σ := by
  unfold X12_growth_l17 at hE
  obtain ⟨t17, h1, hE⟩ := bnd hE
  refine iter_ok (P := (X12_growth_P17  Q σ  )) (R := (X12_growth_R17  Q σ  )) (fun ss o h2 hS hT => ?_) NF _ _ h1 ?_
  · skip
    exact ok_X12_growth_l17c   h2 hS hT
  · intro z0 z2
    show Ws 2 mi_X12_growth Q 56 [z0, some (vi t17), z2] [] σ
    refine Wp.iload_n dc_X12_growth_56 rfl ?_
    cases hE
    exact Wp.ireturn dc_X12_growth_57 rfl rfl (Nat.le_refl _) (Nat.le_refl _) hK
theorem ok_X12_growth_j0 {Q : Option AV → AH → Prop}  {σ : SS}   {o} {z1 z2 : Option AV}   (hE : X12_growth_j0  σ   = some o) (hK : Q (some (vi o)) (hp σ)) : Ws 2 mi_X12_growth Q 0 [some (vr 11 0), z1, z2] [] σ := by
  unfold X12_growth_j0 at hE
  refine Wp.aload_n dc_X12_growth_0 rfl ?_
  obtain ⟨v1, h1, hE⟩ := bnd hE
  refine Wp.cV0i (ok_X12_crossable  h1) dc_X12_growth_1 mw_X12_364 (mO11 (by decide)) (by decide) (Nat.le_of_ble_eq_true rfl) ?_
  obtain ⟨v4, h4, hE⟩ := bnd hE
  refine Wp.cS1i (ok_X12_sizeOf  h4) dc_X12_growth_4 mw_X12_349 (by decide) (Nat.le_of_ble_eq_true rfl) ?_
  refine Wp.iconst dc_X12_growth_7 ic_2 ?_
  refine Wp.icmp_ge (tgt := 13) dc_X12_growth_8 (by decide) (fun hc8 => ?_) (fun hc8 => ?_)
  · rw [if_pos hc8] at hE
    refine Wp.iconst dc_X12_growth_13 ic_0 ?_
    refine Wp.istore_n dc_X12_growth_14 (by decide) ?_
    refine Wp.iconst dc_X12_growth_15 ic_0 ?_
    refine Wp.istore_n dc_X12_growth_16 (by decide) ?_
    exact ok_X12_growth_l17   hE hK
  · rw [if_neg hc8] at hE
    refine Wp.iconst dc_X12_growth_11 ic_0 ?_
    cases hE
    exact Wp.ireturn dc_X12_growth_12 rfl rfl (Nat.le_refl _) (Nat.le_refl _) hK
theorem ok_X12_growth  {σ : SS}   {o}   (hE : X12_growth  σ   = some o) : Runs 2 0 0 mi_X12_growth [vr 11 0] (hp σ) (fun v h => v = some (vi o) ∧ h = hp σ) := by
  refine Runs.of pn_X12 (Nat.le_of_ble_eq_true rfl) ?_
  exact ok_X12_growth_j0   hE ⟨rfl, rfl⟩
theorem ok_X12_grows_j0 {Q : Option AV → AH → Prop}  {σ : SS}   {o}    (hE : X12_grows_j0  σ   = some o) (hK : Q (some (vi o.1)) (hp o.2)) : Ws 3 mi_X12_grows Q 0 [some (vr 11 0)] [] σ := by
  unfold X12_grows_j0 at hE
  refine Wp.aload_n dc_X12_grows_0 rfl ?_
  refine Wp.iconst dc_X12_grows_1 ic_0 ?_
  refine Wp.sputI dc_X12_grows_2 fw_X12_77 (mO11 (by decide)) (Nr.i _) ?_
  obtain ⟨σ2, es_2, hE⟩ := bnS hE
  rw [es_2]
  refine Wp.aload_n dc_X12_grows_5 rfl ?_
  refine Wp.iconst dc_X12_grows_6 ic_0 ?_
  refine Wp.sputI dc_X12_grows_7 fw_X12_80 (mO11 (by decide)) (Nr.i _) ?_
  obtain ⟨σ7, es_7, hE⟩ := bnS hE
  rw [es_7]
  refine Wp.aload_n dc_X12_grows_10 rfl ?_
  refine Wp.aload_n dc_X12_grows_11 rfl ?_
  obtain ⟨v12, h12, hE⟩ := bnd hE
  refine Wp.cV0i (ok_X12_growth  h12) dc_X12_grows_12 mw_X12_438 (mO11 (by decide)) (by decide) (Nat.le_of_ble_eq_true rfl) ?_
  refine Wp.i2l dc_X12_grows_15 ?_
  refine Wp.ldc2 dc_X12_grows_16 kw_X12_441 ?_
  obtain ⟨p19, h19, hE⟩ := bnd hE
  refine Wp.cV2i (ok_X12_fraction  h19) dc_X12_grows_19 mw_X12_434 (mO11 (by decide)) (by decide) (Nat.le_of_ble_eq_true rfl) ?_
  obtain ⟨b22, h22, hE⟩ := bnd hE
  obtain ⟨e_22, hb22⟩ := zb_some h22
  skip
  cases hE
  exact Wp.ireturn dc_X12_grows_22 rfl hb22.1 (Nat.le_refl _) (Nat.le_refl _) hK
theorem ok_X12_grows  {σ : SS}   {o}   (hE : X12_grows  σ   = some o) : Runs 3 0 0 mi_X12_grows [vr 11 0] (hp σ) (fun v h => v = some (vi o.1) ∧ h = hp o.2) := by
  refine Runs.of pn_X12 (Nat.le_of_ble_eq_true rfl) ?_
  exact ok_X12_grows_j0   hE ⟨rfl, rfl⟩
def X12_clips_P12 (Q : Option AV → AH → Prop) (σ : SS)   (ss : Int32) : Prop := Ws 3 mi_X12_clips Q 12 [some (vr 11 0), some (vi ss)] [] σ
def X12_clips_R12 (Q : Option AV → AH → Prop) (σ : SS)   (tt : (Int32) ⊕ (Unit)) : Prop := match tt with
  | Sum.inl tt => ∀ z0 : Option AV, Ws 3 mi_X12_clips Q 41 [z0, some (vi tt)] [] σ
  | Sum.inr tt => ∀ z1 : Option AV, Ws 3 mi_X12_clips Q 49 [some (vr 11 0), z1] [] σ
theorem ok_X12_clips_l12c {Q : Option AV → AH → Prop}  {σ : SS}   {x1 : Int32} {o}    (hE : X12_clips_l12c  σ   x1 = some o) (hS : ∀ ss, o = Sum.inl ss → (X12_clips_P12  Q σ  ) ss) (hT : ∀ tt, o = Sum.inr tt → (X12_clips_R12  Q σ  ) tt) : Ws 3 mi_X12_clips Q 12 [some (vr 11 0), some (vi x1)] [] σ := by
  unfold X12_clips_l12c at hE
  refine Wp.iload_n dc_X12_clips_12 rfl ?_
  refine Wp.sipush dc_X12_clips_13 sp_1000 ?_
  refine Wp.icmp_ge (tgt := 49) dc_X12_clips_16 (by decide) (fun hc16 => ?_) (fun hc16 => ?_)
  · rw [if_pos hc16] at hE
    cases hE
    exact hT _ rfl _
  · rw [if_neg hc16] at hE
    refine Wp.iload_n dc_X12_clips_19 rfl ?_
    refine Wp.aload_n dc_X12_clips_20 rfl ?_
    obtain ⟨v21, h21, hE⟩ := bnd hE
    refine Wp.cV0i (ok_X12_growth  h21) dc_X12_clips_21 mw_X12_438 (mO11 (by decide)) (by decide) (Nat.le_of_ble_eq_true rfl) ?_
    refine Wp.imul dc_X12_clips_24 ?_
    refine Wp.iconst dc_X12_clips_25 ic_5 ?_
    refine Wp.imul dc_X12_clips_26 ?_
    refine Wp.sipush dc_X12_clips_27 sp_192 ?_
    refine Wp.aload_n dc_X12_clips_30 rfl ?_
    obtain ⟨v31, h31, hE⟩ := bnd hE
    refine Wp.cV0i (ok_X12_crossable  h31) dc_X12_clips_31 mw_X12_364 (mO11 (by decide)) (by decide) (Nat.le_of_ble_eq_true rfl) ?_
    obtain ⟨v34, h34, hE⟩ := bnd hE
    refine Wp.cS1i (ok_X12_sizeOf  h34) dc_X12_clips_34 mw_X12_349 (by decide) (Nat.le_of_ble_eq_true rfl) ?_
    refine Wp.imul dc_X12_clips_37 ?_
    refine Wp.icmp_le (tgt := 43) dc_X12_clips_38 (by decide) (fun hc38 => ?_) (fun hc38 => ?_)
    · rw [if_pos hc38] at hE
      obtain ⟨x1_43, e_43, hE⟩ := bnS hE
      refine Wp.iinc dc_X12_clips_43 rfl ((ii ic_1).trans e_43) (by decide) ?_
      refine Wp.goto (tgt := 12) dc_X12_clips_46 (by decide) ?_
      cases hE
      exact hS _ rfl
    · rw [if_neg hc38] at hE
      cases hE
      exact hT _ rfl _
theorem ok_X12_clips_l12 {Q : Option AV → AH → Prop}  {σ : SS}  {x1 : Int32} {o}    (hE : X12_clips_l12  σ  x1 = some o) (hK : Q (some (vi o.1)) (hp o.2)) : Ws 3 mi_X12_clips Q 12 [some (vr 11 0), some (vi x1)] [] σ := by
  unfold X12_clips_l12 at hE
  obtain ⟨t12, h1, hE⟩ := bnd hE
  refine iter_ok (P := (X12_clips_P12  Q σ  )) (R := (X12_clips_R12  Q σ  )) (fun ss o h2 hS hT => ?_) NF _ _ h1 ?_
  · skip
    exact ok_X12_clips_l12c   h2 hS hT
  · rcases t12 with e41 | u41
    · dsimp only at hE
      intro z0
      show Ws 3 mi_X12_clips Q 41 [z0, some (vi e41)] [] σ
      refine Wp.iload_n dc_X12_clips_41 rfl ?_
      cases hE
      exact Wp.ireturn dc_X12_clips_42 rfl rfl (Nat.le_refl _) (Nat.le_refl _) hK
    · dsimp only at hE
      skip
      intro z1
      show Ws 3 mi_X12_clips Q 49 [some (vr 11 0), z1] [] σ
      refine Wp.aload_n dc_X12_clips_49 rfl ?_
      refine Wp.bipush dc_X12_clips_50 bp_8 ?_
      obtain ⟨p52, h52, hE⟩ := bnd hE
      refine Wp.cV1i (ok_X12_refuse  h52) dc_X12_clips_52 mw_X12_308 (mO11 (by decide)) (by decide) (Nat.le_of_ble_eq_true rfl) ?_
      cases hE
      exact Wp.ireturn dc_X12_clips_55 rfl rfl (Nat.le_refl _) (Nat.le_refl _) hK
theorem ok_X12_clips_j0 {Q : Option AV → AH → Prop}  {σ : SS}   {o} {z1 : Option AV}   (hE : X12_clips_j0  σ   = some o) (hK : Q (some (vi o.1)) (hp o.2)) : Ws 3 mi_X12_clips Q 0 [some (vr 11 0), z1] [] σ := by
  unfold X12_clips_j0 at hE
  refine Wp.aload_n dc_X12_clips_0 rfl ?_
  refine Wp.iconst dc_X12_clips_1 ic_0 ?_
  refine Wp.sputI dc_X12_clips_2 fw_X12_77 (mO11 (by decide)) (Nr.i _) ?_
  obtain ⟨σ2, es_2, hE⟩ := bnS hE
  rw [es_2]
  refine Wp.aload_n dc_X12_clips_5 rfl ?_
  refine Wp.iconst dc_X12_clips_6 ic_0 ?_
  refine Wp.sputI dc_X12_clips_7 fw_X12_80 (mO11 (by decide)) (Nr.i _) ?_
  obtain ⟨σ7, es_7, hE⟩ := bnS hE
  rw [es_7]
  refine Wp.iconst dc_X12_clips_10 ic_1 ?_
  refine Wp.istore_n dc_X12_clips_11 (by decide) ?_
  exact ok_X12_clips_l12   hE hK
theorem ok_X12_clips  {σ : SS}   {o}   (hE : X12_clips  σ   = some o) : Runs 3 0 0 mi_X12_clips [vr 11 0] (hp σ) (fun v h => v = some (vi o.1) ∧ h = hp o.2) := by
  refine Runs.of pn_X12 (Nat.le_of_ble_eq_true rfl) ?_
  exact ok_X12_clips_j0   hE ⟨rfl, rfl⟩
def X12_aheadOf_P5 (Q : Option AV → AH → Prop) (σ : SS)  (x1 : Int32) (x2 : Int32) (ss : Int32 × Int32) : Prop := Ws 1 mi_X12_aheadOf Q 5 [some (vr 11 0), some (vi x1), some (vi x2), some (vi ss.1), some (vi ss.2)] [] σ
def X12_aheadOf_R5 (Q : Option AV → AH → Prop) (σ : SS)  (x1 : Int32) (x2 : Int32) (tt : Int32) : Prop := ∀ z0 z1 z2 z4 : Option AV, Ws 1 mi_X12_aheadOf Q 89 [z0, z1, z2, some (vi tt), z4] [] σ
theorem ok_X12_aheadOf_j81 {Q : Option AV → AH → Prop}  {σ : SS}  {x1 : Int32} {x2 : Int32} {x4 : Int32} {s0 : Int32} {s1 : Int32} {o} {z3 : Option AV}   (hE : X12_aheadOf_j81  σ  x1 x2 x4 s0 s1 = some o) (hS : ∀ ss, o = Sum.inl ss → (X12_aheadOf_P5  Q σ  x1 x2) ss) (hT : ∀ tt, o = Sum.inr tt → (X12_aheadOf_R5  Q σ  x1 x2) tt) : Ws 1 mi_X12_aheadOf Q 81 [some (vr 11 0), some (vi x1), some (vi x2), z3, some (vi x4)] [vi s1, vi s0] σ := by
  unfold X12_aheadOf_j81 at hE
  refine Wp.iadd dc_X12_aheadOf_81 ?_
  obtain ⟨x3_82, e_82, hE⟩ := bnS hE
  rw [e_82]
  refine Wp.istore_n dc_X12_aheadOf_82 (by decide) ?_
  obtain ⟨x4_83, e_83, hE⟩ := bnS hE
  refine Wp.iinc dc_X12_aheadOf_83 rfl ((ii ic_1).trans e_83) (by decide) ?_
  refine Wp.goto (tgt := 5) dc_X12_aheadOf_86 (by decide) ?_
  cases hE
  exact hS _ rfl
theorem ok_X12_aheadOf_j80 {Q : Option AV → AH → Prop}  {σ : SS}  {x1 : Int32} {x2 : Int32} {x4 : Int32} {s0 : Int32} {o} {z3 : Option AV}   (hE : X12_aheadOf_j80  σ  x1 x2 x4 s0 = some o) (hS : ∀ ss, o = Sum.inl ss → (X12_aheadOf_P5  Q σ  x1 x2) ss) (hT : ∀ tt, o = Sum.inr tt → (X12_aheadOf_R5  Q σ  x1 x2) tt) : Ws 1 mi_X12_aheadOf Q 80 [some (vr 11 0), some (vi x1), some (vi x2), z3, some (vi x4)] [vi s0] σ := by
  unfold X12_aheadOf_j80 at hE
  refine Wp.iconst dc_X12_aheadOf_80 ic_0 ?_
  exact ok_X12_aheadOf_j81   hE hS hT
theorem ok_X12_aheadOf_j76 {Q : Option AV → AH → Prop}  {σ : SS}  {x1 : Int32} {x2 : Int32} {x4 : Int32} {s0 : Int32} {o} {z3 : Option AV}   (hE : X12_aheadOf_j76  σ  x1 x2 x4 s0 = some o) (hS : ∀ ss, o = Sum.inl ss → (X12_aheadOf_P5  Q σ  x1 x2) ss) (hT : ∀ tt, o = Sum.inr tt → (X12_aheadOf_R5  Q σ  x1 x2) tt) : Ws 1 mi_X12_aheadOf Q 76 [some (vr 11 0), some (vi x1), some (vi x2), z3, some (vi x4)] [vi s0] σ := by
  unfold X12_aheadOf_j76 at hE
  refine Wp.iconst dc_X12_aheadOf_76 ic_1 ?_
  refine Wp.goto (tgt := 81) dc_X12_aheadOf_77 (by decide) ?_
  exact ok_X12_aheadOf_j81   hE hS hT
theorem ok_X12_aheadOf_l5c {Q : Option AV → AH → Prop}  {σ : SS}  {x1 : Int32} {x2 : Int32} {x3 : Int32} {x4 : Int32} {o}    (hE : X12_aheadOf_l5c  σ  x1 x2 x3 x4 = some o) (hS : ∀ ss, o = Sum.inl ss → (X12_aheadOf_P5  Q σ  x1 x2) ss) (hT : ∀ tt, o = Sum.inr tt → (X12_aheadOf_R5  Q σ  x1 x2) tt) : Ws 1 mi_X12_aheadOf Q 5 [some (vr 11 0), some (vi x1), some (vi x2), some (vi x3), some (vi x4)] [] σ := by
  unfold X12_aheadOf_l5c at hE
  refine Wp.iload dc_X12_aheadOf_5 rfl ?_
  refine Wp.aload_n dc_X12_aheadOf_7 rfl ?_
  refine Wp.sgetR (t := 34) dc_X12_aheadOf_8 fw_X12_35 (mO11 (by decide)) rfl ?_
  refine Wp.iconst dc_X12_aheadOf_11 ic_0 ?_
  obtain ⟨j12, h12, hE⟩ := bnd hE
  refine Wp.siald dc_X12_aheadOf_12 (mO13 (by decide)) h12 ?_
  refine Wp.icmp_ge (tgt := 89) dc_X12_aheadOf_13 (by decide) (fun hc13 => ?_) (fun hc13 => ?_)
  · rw [if_pos hc13] at hE
    cases hE
    exact hT _ rfl _ _ _ _
  · rw [if_neg hc13] at hE
    refine Wp.iload_n dc_X12_aheadOf_16 rfl ?_
    refine Wp.iload_n dc_X12_aheadOf_17 rfl ?_
    refine Wp.iload dc_X12_aheadOf_18 rfl ?_
    obtain ⟨v20, h20, hE⟩ := bnd hE
    refine Wp.cS2i (ok_X12_has  h20) dc_X12_aheadOf_20 mw_X12_116 (by decide) (Nat.le_of_ble_eq_true rfl) ?_
    refine Wp.if_eq (tgt := 80) dc_X12_aheadOf_23 (by decide) (fun hc23 => ?_) (fun hc23 => ?_)
    · rw [if_pos hc23] at hE
      exact ok_X12_aheadOf_j80   hE hS hT
    · rw [if_neg hc23] at hE
      refine Wp.aload_n dc_X12_aheadOf_26 rfl ?_
      refine Wp.sgetR (t := 34) dc_X12_aheadOf_27 fw_X12_35 (mO11 (by decide)) rfl ?_
      refine Wp.bipush dc_X12_aheadOf_30 bp_48 ?_
      refine Wp.iload dc_X12_aheadOf_32 rfl ?_
      refine Wp.iadd dc_X12_aheadOf_34 ?_
      obtain ⟨j35, h35, hE⟩ := bnd hE
      refine Wp.siald dc_X12_aheadOf_35 (mO13 (by decide)) h35 ?_
      refine Wp.aload_n dc_X12_aheadOf_36 rfl ?_
      refine Wp.sgetR (t := 34) dc_X12_aheadOf_37 fw_X12_35 (mO11 (by decide)) rfl ?_
      refine Wp.bipush dc_X12_aheadOf_40 bp_48 ?_
      refine Wp.iload_n dc_X12_aheadOf_42 rfl ?_
      refine Wp.iadd dc_X12_aheadOf_43 ?_
      obtain ⟨j44, h44, hE⟩ := bnd hE
      refine Wp.siald dc_X12_aheadOf_44 (mO13 (by decide)) h44 ?_
      refine Wp.icmp_gt (tgt := 76) dc_X12_aheadOf_45 (by decide) (fun hc45 => ?_) (fun hc45 => ?_)
      · rw [if_pos hc45] at hE
        exact ok_X12_aheadOf_j76   hE hS hT
      · rw [if_neg hc45] at hE
        refine Wp.aload_n dc_X12_aheadOf_48 rfl ?_
        refine Wp.sgetR (t := 34) dc_X12_aheadOf_49 fw_X12_35 (mO11 (by decide)) rfl ?_
        refine Wp.bipush dc_X12_aheadOf_52 bp_48 ?_
        refine Wp.iload dc_X12_aheadOf_54 rfl ?_
        refine Wp.iadd dc_X12_aheadOf_56 ?_
        obtain ⟨j57, h57, hE⟩ := bnd hE
        refine Wp.siald dc_X12_aheadOf_57 (mO13 (by decide)) h57 ?_
        refine Wp.aload_n dc_X12_aheadOf_58 rfl ?_
        refine Wp.sgetR (t := 34) dc_X12_aheadOf_59 fw_X12_35 (mO11 (by decide)) rfl ?_
        refine Wp.bipush dc_X12_aheadOf_62 bp_48 ?_
        refine Wp.iload_n dc_X12_aheadOf_64 rfl ?_
        refine Wp.iadd dc_X12_aheadOf_65 ?_
        obtain ⟨j66, h66, hE⟩ := bnd hE
        refine Wp.siald dc_X12_aheadOf_66 (mO13 (by decide)) h66 ?_
        refine Wp.icmp_ne (tgt := 80) dc_X12_aheadOf_67 (by decide) (fun hc67 => ?_) (fun hc67 => ?_)
        · rw [if_neg hc67] at hE
          exact ok_X12_aheadOf_j80   hE hS hT
        · rw [if_pos hc67] at hE
          refine Wp.iload dc_X12_aheadOf_70 rfl ?_
          refine Wp.iload_n dc_X12_aheadOf_72 rfl ?_
          refine Wp.icmp_ge (tgt := 80) dc_X12_aheadOf_73 (by decide) (fun hc73 => ?_) (fun hc73 => ?_)
          · rw [if_pos hc73] at hE
            exact ok_X12_aheadOf_j80   hE hS hT
          · rw [if_neg hc73] at hE
            exact ok_X12_aheadOf_j76   hE hS hT
theorem ok_X12_aheadOf_l5 {Q : Option AV → AH → Prop}  {σ : SS}  {x1 : Int32} {x2 : Int32} {x3 : Int32} {x4 : Int32} {o}    (hE : X12_aheadOf_l5  σ  x1 x2 x3 x4 = some o) (hK : Q (some (vi o)) (hp σ)) : Ws 1 mi_X12_aheadOf Q 5 [some (vr 11 0), some (vi x1), some (vi x2), some (vi x3), some (vi x4)] [] σ := by
  unfold X12_aheadOf_l5 at hE
  obtain ⟨t5, h1, hE⟩ := bnd hE
  refine iter_ok (P := (X12_aheadOf_P5  Q σ  x1 x2)) (R := (X12_aheadOf_R5  Q σ  x1 x2)) (fun ss o h2 hS hT => ?_) NF _ _ h1 ?_
  · skip
    exact ok_X12_aheadOf_l5c   h2 hS hT
  · intro z0 z1 z2 z4
    show Ws 1 mi_X12_aheadOf Q 89 [z0, z1, z2, some (vi t5), z4] [] σ
    refine Wp.iload_n dc_X12_aheadOf_89 rfl ?_
    cases hE
    exact Wp.ireturn dc_X12_aheadOf_90 rfl rfl (Nat.le_refl _) (Nat.le_refl _) hK
theorem ok_X12_aheadOf_j0 {Q : Option AV → AH → Prop}  {σ : SS}  {x1 : Int32} {x2 : Int32} {o} {z3 z4 : Option AV}   (hE : X12_aheadOf_j0  σ  x1 x2 = some o) (hK : Q (some (vi o)) (hp σ)) : Ws 1 mi_X12_aheadOf Q 0 [some (vr 11 0), some (vi x1), some (vi x2), z3, z4] [] σ := by
  unfold X12_aheadOf_j0 at hE
  refine Wp.iconst dc_X12_aheadOf_0 ic_0 ?_
  refine Wp.istore_n dc_X12_aheadOf_1 (by decide) ?_
  refine Wp.iconst dc_X12_aheadOf_2 ic_0 ?_
  refine Wp.istore dc_X12_aheadOf_3 (by decide) ?_
  exact ok_X12_aheadOf_l5   hE hK
theorem ok_X12_aheadOf  {σ : SS}  {x1 : Int32} {x2 : Int32} {o}   (hE : X12_aheadOf  σ  x1 x2 = some o) : Runs 1 0 0 mi_X12_aheadOf [vr 11 0, vi x1, vi x2] (hp σ) (fun v h => v = some (vi o) ∧ h = hp σ) := by
  refine Runs.of pn_X12 (Nat.le_of_ble_eq_true rfl) ?_
  exact ok_X12_aheadOf_j0   hE ⟨rfl, rfl⟩
def X12_tries_P70 (Q : Option AV → AH → Prop) (σ : SS)  (x2 : Int32) (ss : Int32 × Int32 × Int32) : Prop := ∀ z1 : Option AV, Ws 2 mi_X12_tries Q 70 [some (vr 11 0), z1, some (vi x2), some (vi ss.1), some (vi ss.2.1), some (vi ss.2.2)] [] σ
def X12_tries_R70 (Q : Option AV → AH → Prop) (σ : SS)  (x2 : Int32) (tt : Int32 × Int32) : Prop := ∀ z1 z2 z5 : Option AV, Ws 2 mi_X12_tries Q 137 [some (vr 11 0), z1, z2, some (vi tt.1), some (vi tt.2), z5] [] σ
theorem ok_X12_tries_j131 {Q : Option AV → AH → Prop}  {σ : SS}  {x2 : Int32} {x3 : Int32} {x4 : Int32} {x5 : Int32} {o} {z1 : Option AV}   (hE : X12_tries_j131  σ  x2 x3 x4 x5 = some o) (hS : ∀ ss, o = Sum.inl ss → (X12_tries_P70  Q σ  x2) ss) (hT : ∀ tt, o = Sum.inr tt → (X12_tries_R70  Q σ  x2) tt) : Ws 2 mi_X12_tries Q 131 [some (vr 11 0), z1, some (vi x2), some (vi x3), some (vi x4), some (vi x5)] [] σ := by
  unfold X12_tries_j131 at hE
  obtain ⟨x5_131, e_131, hE⟩ := bnS hE
  refine Wp.iinc dc_X12_tries_131 rfl ((ii ic_1).trans e_131) (by decide) ?_
  refine Wp.goto (tgt := 70) dc_X12_tries_134 (by decide) ?_
  cases hE
  exact hS _ rfl _
theorem ok_X12_tries_l70c {Q : Option AV → AH → Prop}  {σ : SS}  {x2 : Int32} {x3 : Int32} {x4 : Int32} {x5 : Int32} {o} {z1 : Option AV}   (hE : X12_tries_l70c  σ  x2 x3 x4 x5 = some o) (hS : ∀ ss, o = Sum.inl ss → (X12_tries_P70  Q σ  x2) ss) (hT : ∀ tt, o = Sum.inr tt → (X12_tries_R70  Q σ  x2) tt) : Ws 2 mi_X12_tries Q 70 [some (vr 11 0), z1, some (vi x2), some (vi x3), some (vi x4), some (vi x5)] [] σ := by
  unfold X12_tries_l70c at hE
  refine Wp.iload dc_X12_tries_70 rfl ?_
  refine Wp.aload_n dc_X12_tries_72 rfl ?_
  refine Wp.sgetR (t := 34) dc_X12_tries_73 fw_X12_35 (mO11 (by decide)) rfl ?_
  refine Wp.iconst dc_X12_tries_76 ic_0 ?_
  obtain ⟨j77, h77, hE⟩ := bnd hE
  refine Wp.siald dc_X12_tries_77 (mO13 (by decide)) h77 ?_
  refine Wp.icmp_ge (tgt := 137) dc_X12_tries_78 (by decide) (fun hc78 => ?_) (fun hc78 => ?_)
  · rw [if_pos hc78] at hE
    cases hE
    exact hT _ rfl _ _ _
  · rw [if_neg hc78] at hE
    refine Wp.iload_n dc_X12_tries_81 rfl ?_
    refine Wp.iload dc_X12_tries_82 rfl ?_
    obtain ⟨v84, h84, hE⟩ := bnd hE
    refine Wp.cS2i (ok_X12_has  h84) dc_X12_tries_84 mw_X12_116 (by decide) (Nat.le_of_ble_eq_true rfl) ?_
    refine Wp.if_ne (tgt := 93) dc_X12_tries_87 (by decide) (fun hc87 => ?_) (fun hc87 => ?_)
    · rw [if_neg hc87] at hE
      refine Wp.iload_n dc_X12_tries_93 rfl ?_
      refine Wp.aload_n dc_X12_tries_94 rfl ?_
      refine Wp.sgetR (t := 34) dc_X12_tries_95 fw_X12_35 (mO11 (by decide)) rfl ?_
      refine Wp.bipush dc_X12_tries_98 bp_48 ?_
      refine Wp.iload dc_X12_tries_100 rfl ?_
      refine Wp.iadd dc_X12_tries_102 ?_
      obtain ⟨j103, h103, hE⟩ := bnd hE
      refine Wp.siald dc_X12_tries_103 (mO13 (by decide)) h103 ?_
      refine Wp.iadd dc_X12_tries_104 ?_
      obtain ⟨x3_105, e_105, hE⟩ := bnS hE
      rw [e_105]
      refine Wp.istore_n dc_X12_tries_105 (by decide) ?_
      refine Wp.iload dc_X12_tries_106 rfl ?_
      refine Wp.aload_n dc_X12_tries_108 rfl ?_
      refine Wp.sgetR (t := 34) dc_X12_tries_109 fw_X12_35 (mO11 (by decide)) rfl ?_
      refine Wp.bipush dc_X12_tries_112 bp_48 ?_
      refine Wp.iload dc_X12_tries_114 rfl ?_
      refine Wp.iadd dc_X12_tries_116 ?_
      obtain ⟨j117, h117, hE⟩ := bnd hE
      refine Wp.siald dc_X12_tries_117 (mO13 (by decide)) h117 ?_
      refine Wp.iconst dc_X12_tries_118 ic_1 ?_
      refine Wp.aload_n dc_X12_tries_119 rfl ?_
      refine Wp.iload_n dc_X12_tries_120 rfl ?_
      refine Wp.iload dc_X12_tries_121 rfl ?_
      obtain ⟨v123, h123, hE⟩ := bnd hE
      refine Wp.cV2i (ok_X12_aheadOf  h123) dc_X12_tries_123 mw_X12_443 (mO11 (by decide)) (by decide) (Nat.le_of_ble_eq_true rfl) ?_
      refine Wp.iadd dc_X12_tries_126 ?_
      refine Wp.imul dc_X12_tries_127 ?_
      refine Wp.iadd dc_X12_tries_128 ?_
      obtain ⟨x4_129, e_129, hE⟩ := bnS hE
      rw [e_129]
      refine Wp.istore dc_X12_tries_129 (by decide) ?_
      exact ok_X12_tries_j131   hE hS hT
    · rw [if_pos hc87] at hE
      refine Wp.goto (tgt := 131) dc_X12_tries_90 (by decide) ?_
      exact ok_X12_tries_j131   hE hS hT
theorem ok_X12_tries_l70 {Q : Option AV → AH → Prop}  {σ : SS}  {x2 : Int32} {x3 : Int32} {x4 : Int32} {x5 : Int32} {o} {z1 : Option AV}   (hE : X12_tries_l70  σ  x2 x3 x4 x5 = some o) (hK : Q (some (vi o.1)) (hp o.2)) : Ws 2 mi_X12_tries Q 70 [some (vr 11 0), z1, some (vi x2), some (vi x3), some (vi x4), some (vi x5)] [] σ := by
  unfold X12_tries_l70 at hE
  obtain ⟨t70, h1, hE⟩ := bnd hE
  refine iter_ok (P := (X12_tries_P70  Q σ  x2)) (R := (X12_tries_R70  Q σ  x2)) (fun ss o h2 hS hT => ?_) NF _ _ h1 ?_ _
  · intro z1
    exact ok_X12_tries_l70c   h2 hS hT
  · intro z1 z2 z5
    show Ws 2 mi_X12_tries Q 137 [some (vr 11 0), z1, z2, some (vi t70.1), some (vi t70.2), z5] [] σ
    refine Wp.iload_n dc_X12_tries_137 rfl ?_
    refine Wp.if_ne (tgt := 150) dc_X12_tries_138 (by decide) (fun hc138 => ?_) (fun hc138 => ?_)
    · rw [if_neg hc138] at hE
      refine Wp.aload_n dc_X12_tries_150 rfl ?_
      refine Wp.iload dc_X12_tries_151 rfl ?_
      refine Wp.i2l dc_X12_tries_153 ?_
      refine Wp.iload_n dc_X12_tries_154 rfl ?_
      refine Wp.i2l dc_X12_tries_155 ?_
      obtain ⟨p156, h156, hE⟩ := bnd hE
      refine Wp.cV2i (ok_X12_fraction  h156) dc_X12_tries_156 mw_X12_434 (mO11 (by decide)) (by decide) (Nat.le_of_ble_eq_true rfl) ?_
      obtain ⟨b159, h159, hE⟩ := bnd hE
      obtain ⟨e_159, hb159⟩ := zb_some h159
      skip
      cases hE
      exact Wp.ireturn dc_X12_tries_159 rfl hb159.1 (Nat.le_refl _) (Nat.le_refl _) hK
    · rw [if_pos hc138] at hE
      refine Wp.aload_n dc_X12_tries_141 rfl ?_
      refine Wp.bipush dc_X12_tries_142 bp_9 ?_
      obtain ⟨p144, h144, hE⟩ := bnd hE
      refine Wp.cV1i (ok_X12_no  h144) dc_X12_tries_144 mw_X12_92 (mO11 (by decide)) (by decide) (Nat.le_of_ble_eq_true rfl) ?_
      refine Wp.goto (tgt := 159) dc_X12_tries_147 (by decide) ?_
      obtain ⟨b159, h159, hE⟩ := bnd hE
      obtain ⟨e_159, hb159⟩ := zb_some h159
      skip
      cases hE
      exact Wp.ireturn dc_X12_tries_159 rfl hb159.1 (Nat.le_refl _) (Nat.le_refl _) hK
theorem ok_X12_tries_j0 {Q : Option AV → AH → Prop}  {σ : SS}  {x1 : Int32} {o} {z2 z3 z4 z5 : Option AV}   (hE : X12_tries_j0  σ  x1 = some o) (hK : Q (some (vi o.1)) (hp o.2)) : Ws 2 mi_X12_tries Q 0 [some (vr 11 0), some (vi x1), z2, z3, z4, z5] [] σ := by
  unfold X12_tries_j0 at hE
  refine Wp.aload_n dc_X12_tries_0 rfl ?_
  refine Wp.iconst dc_X12_tries_1 ic_0 ?_
  refine Wp.sputI dc_X12_tries_2 fw_X12_77 (mO11 (by decide)) (Nr.i _) ?_
  obtain ⟨σ2, es_2, hE⟩ := bnS hE
  rw [es_2]
  refine Wp.aload_n dc_X12_tries_5 rfl ?_
  refine Wp.iconst dc_X12_tries_6 ic_0 ?_
  refine Wp.sputI dc_X12_tries_7 fw_X12_80 (mO11 (by decide)) (Nr.i _) ?_
  obtain ⟨σ7, es_7, hE⟩ := bnS hE
  rw [es_7]
  refine Wp.iload_n dc_X12_tries_10 rfl ?_
  refine Wp.i2l dc_X12_tries_11 ?_
  refine Wp.lconst dc_X12_tries_12 lc_0 ?_
  refine Wp.aload_n dc_X12_tries_13 rfl ?_
  refine Wp.sgetR (t := 34) dc_X12_tries_14 fw_X12_35 (mO11 (by decide)) rfl ?_
  refine Wp.iconst dc_X12_tries_17 ic_2 ?_
  obtain ⟨j18, h18, hE⟩ := bnd hE
  refine Wp.siald dc_X12_tries_18 (mO13 (by decide)) h18 ?_
  refine Wp.iconst dc_X12_tries_19 ic_1 ?_
  refine Wp.isub dc_X12_tries_20 ?_
  refine Wp.i2l dc_X12_tries_21 ?_
  obtain ⟨v22, h22, hE⟩ := bnd hE
  refine Wp.cS3i (ok_X12_isIn  h22) dc_X12_tries_22 mw_X12_112 (by decide) (Nat.le_of_ble_eq_true rfl) ?_
  refine Wp.if_ne (tgt := 34) dc_X12_tries_25 (by decide) (fun hc25 => ?_) (fun hc25 => ?_)
  · rw [if_neg hc25] at hE
    refine Wp.aload_n dc_X12_tries_34 rfl ?_
    refine Wp.sgetR (t := 34) dc_X12_tries_35 fw_X12_35 (mO11 (by decide)) rfl ?_
    refine Wp.bipush dc_X12_tries_38 bp_56 ?_
    refine Wp.iload_n dc_X12_tries_40 rfl ?_
    refine Wp.iadd dc_X12_tries_41 ?_
    obtain ⟨j42, h42, hE⟩ := bnd hE
    refine Wp.siald dc_X12_tries_42 (mO13 (by decide)) h42 ?_
    refine Wp.aload_n dc_X12_tries_43 rfl ?_
    refine Wp.sgetR (t := 34) dc_X12_tries_44 fw_X12_35 (mO11 (by decide)) rfl ?_
    refine Wp.iconst dc_X12_tries_47 ic_3 ?_
    obtain ⟨j48, h48, hE⟩ := bnd hE
    refine Wp.siald dc_X12_tries_48 (mO13 (by decide)) h48 ?_
    refine Wp.iand dc_X12_tries_49 ?_
    obtain ⟨x2_50, e_50, hE⟩ := bnS hE
    rw [e_50]
    refine Wp.istore_n dc_X12_tries_50 (by decide) ?_
    refine Wp.iload_n dc_X12_tries_51 rfl ?_
    refine Wp.if_ne (tgt := 62) dc_X12_tries_52 (by decide) (fun hc52 => ?_) (fun hc52 => ?_)
    · rw [if_neg hc52] at hE
      refine Wp.iconst dc_X12_tries_62 ic_0 ?_
      refine Wp.istore_n dc_X12_tries_63 (by decide) ?_
      refine Wp.iconst dc_X12_tries_64 ic_0 ?_
      refine Wp.istore dc_X12_tries_65 (by decide) ?_
      refine Wp.iconst dc_X12_tries_67 ic_0 ?_
      refine Wp.istore dc_X12_tries_68 (by decide) ?_
      exact ok_X12_tries_l70   hE hK
    · rw [if_pos hc52] at hE
      refine Wp.aload_n dc_X12_tries_55 rfl ?_
      refine Wp.bipush dc_X12_tries_56 bp_8 ?_
      obtain ⟨p58, h58, hE⟩ := bnd hE
      refine Wp.cV1i (ok_X12_no  h58) dc_X12_tries_58 mw_X12_92 (mO11 (by decide)) (by decide) (Nat.le_of_ble_eq_true rfl) ?_
      obtain ⟨b61, h61, hE⟩ := bnd hE
      obtain ⟨e_61, hb61⟩ := zb_some h61
      skip
      cases hE
      exact Wp.ireturn dc_X12_tries_61 rfl hb61.1 (Nat.le_refl _) (Nat.le_refl _) hK
  · rw [if_pos hc25] at hE
    refine Wp.aload_n dc_X12_tries_28 rfl ?_
    refine Wp.iconst dc_X12_tries_29 ic_2 ?_
    obtain ⟨p30, h30, hE⟩ := bnd hE
    refine Wp.cV1i (ok_X12_no  h30) dc_X12_tries_30 mw_X12_92 (mO11 (by decide)) (by decide) (Nat.le_of_ble_eq_true rfl) ?_
    obtain ⟨b33, h33, hE⟩ := bnd hE
    obtain ⟨e_33, hb33⟩ := zb_some h33
    skip
    cases hE
    exact Wp.ireturn dc_X12_tries_33 rfl hb33.1 (Nat.le_refl _) (Nat.le_refl _) hK
theorem ok_X12_tries  {σ : SS}  {x1 : Int32} {o}   (hE : X12_tries  σ  x1 = some o) : Runs 2 0 0 mi_X12_tries [vr 11 0, vi x1] (hp σ) (fun v h => v = some (vi o.1) ∧ h = hp o.2) := by
  refine Runs.of pn_X12 (Nat.le_of_ble_eq_true rfl) ?_
  exact ok_X12_tries_j0   hE ⟨rfl, rfl⟩
def X12_nextTry_P54 (Q : Option AV → AH → Prop) (σ : SS)  (x2 : Int32) (x3 : Int32) (ss : Int32) : Prop := ∀ z1 : Option AV, Ws 2 mi_X12_nextTry Q 54 [some (vr 11 0), z1, some (vi x2), some (vi x3), some (vi ss)] [] σ
def X12_nextTry_R54 (Q : Option AV → AH → Prop) (σ : SS)  (x2 : Int32) (x3 : Int32) (tt : (Int32) ⊕ (Unit)) : Prop := match tt with
  | Sum.inl tt => ∀ z0 z1 z2 z3 : Option AV, Ws 2 mi_X12_nextTry Q 85 [z0, z1, z2, z3, some (vi tt)] [] σ
  | Sum.inr tt => ∀ z1 z2 z3 z4 : Option AV, Ws 2 mi_X12_nextTry Q 94 [some (vr 11 0), z1, z2, z3, z4] [] σ
theorem ok_X12_nextTry_j88 {Q : Option AV → AH → Prop}  {σ : SS}  {x2 : Int32} {x3 : Int32} {x4 : Int32} {o} {z1 : Option AV}   (hE : X12_nextTry_j88  σ  x2 x3 x4 = some o) (hS : ∀ ss, o = Sum.inl ss → (X12_nextTry_P54  Q σ  x2 x3) ss) (hT : ∀ tt, o = Sum.inr tt → (X12_nextTry_R54  Q σ  x2 x3) tt) : Ws 2 mi_X12_nextTry Q 88 [some (vr 11 0), z1, some (vi x2), some (vi x3), some (vi x4)] [] σ := by
  unfold X12_nextTry_j88 at hE
  obtain ⟨x4_88, e_88, hE⟩ := bnS hE
  refine Wp.iinc dc_X12_nextTry_88 rfl ((ii ic_1).trans e_88) (by decide) ?_
  refine Wp.goto (tgt := 54) dc_X12_nextTry_91 (by decide) ?_
  cases hE
  exact hS _ rfl _
theorem ok_X12_nextTry_l54c {Q : Option AV → AH → Prop}  {σ : SS}  {x2 : Int32} {x3 : Int32} {x4 : Int32} {o} {z1 : Option AV}   (hE : X12_nextTry_l54c  σ  x2 x3 x4 = some o) (hS : ∀ ss, o = Sum.inl ss → (X12_nextTry_P54  Q σ  x2 x3) ss) (hT : ∀ tt, o = Sum.inr tt → (X12_nextTry_R54  Q σ  x2 x3) tt) : Ws 2 mi_X12_nextTry Q 54 [some (vr 11 0), z1, some (vi x2), some (vi x3), some (vi x4)] [] σ := by
  unfold X12_nextTry_l54c at hE
  refine Wp.iload dc_X12_nextTry_54 rfl ?_
  refine Wp.aload_n dc_X12_nextTry_56 rfl ?_
  refine Wp.sgetR (t := 34) dc_X12_nextTry_57 fw_X12_35 (mO11 (by decide)) rfl ?_
  refine Wp.iconst dc_X12_nextTry_60 ic_0 ?_
  obtain ⟨j61, h61, hE⟩ := bnd hE
  refine Wp.siald dc_X12_nextTry_61 (mO13 (by decide)) h61 ?_
  refine Wp.icmp_ge (tgt := 94) dc_X12_nextTry_62 (by decide) (fun hc62 => ?_) (fun hc62 => ?_)
  · rw [if_pos hc62] at hE
    cases hE
    exact hT _ rfl _ _ _ _
  · rw [if_neg hc62] at hE
    refine Wp.iload_n dc_X12_nextTry_65 rfl ?_
    refine Wp.iload dc_X12_nextTry_66 rfl ?_
    obtain ⟨v68, h68, hE⟩ := bnd hE
    refine Wp.cS2i (ok_X12_has  h68) dc_X12_nextTry_68 mw_X12_116 (by decide) (Nat.le_of_ble_eq_true rfl) ?_
    refine Wp.if_eq (tgt := 88) dc_X12_nextTry_71 (by decide) (fun hc71 => ?_) (fun hc71 => ?_)
    · rw [if_pos hc71] at hE
      exact ok_X12_nextTry_j88   hE hS hT
    · rw [if_neg hc71] at hE
      refine Wp.aload_n dc_X12_nextTry_74 rfl ?_
      refine Wp.iload_n dc_X12_nextTry_75 rfl ?_
      refine Wp.iload dc_X12_nextTry_76 rfl ?_
      obtain ⟨v78, h78, hE⟩ := bnd hE
      refine Wp.cV2i (ok_X12_aheadOf  h78) dc_X12_nextTry_78 mw_X12_443 (mO11 (by decide)) (by decide) (Nat.le_of_ble_eq_true rfl) ?_
      refine Wp.iload_n dc_X12_nextTry_81 rfl ?_
      refine Wp.icmp_ne (tgt := 88) dc_X12_nextTry_82 (by decide) (fun hc82 => ?_) (fun hc82 => ?_)
      · rw [if_neg hc82] at hE
        exact ok_X12_nextTry_j88   hE hS hT
      · rw [if_pos hc82] at hE
        cases hE
        exact hT _ rfl _ _ _ _
theorem ok_X12_nextTry_l54 {Q : Option AV → AH → Prop}  {σ : SS}  {x2 : Int32} {x3 : Int32} {x4 : Int32} {o} {z1 : Option AV}   (hE : X12_nextTry_l54  σ  x2 x3 x4 = some o) (hK : Q (some (vi o.1)) (hp o.2)) : Ws 2 mi_X12_nextTry Q 54 [some (vr 11 0), z1, some (vi x2), some (vi x3), some (vi x4)] [] σ := by
  unfold X12_nextTry_l54 at hE
  obtain ⟨t54, h1, hE⟩ := bnd hE
  refine iter_ok (P := (X12_nextTry_P54  Q σ  x2 x3)) (R := (X12_nextTry_R54  Q σ  x2 x3)) (fun ss o h2 hS hT => ?_) NF _ _ h1 ?_ _
  · intro z1
    exact ok_X12_nextTry_l54c   h2 hS hT
  · rcases t54 with e85 | u85
    · dsimp only at hE
      intro z0 z1 z2 z3
      show Ws 2 mi_X12_nextTry Q 85 [z0, z1, z2, z3, some (vi e85)] [] σ
      refine Wp.iload dc_X12_nextTry_85 rfl ?_
      cases hE
      exact Wp.ireturn dc_X12_nextTry_87 rfl rfl (Nat.le_refl _) (Nat.le_refl _) hK
    · dsimp only at hE
      skip
      intro z1 z2 z3 z4
      show Ws 2 mi_X12_nextTry Q 94 [some (vr 11 0), z1, z2, z3, z4] [] σ
      refine Wp.aload_n dc_X12_nextTry_94 rfl ?_
      refine Wp.bipush dc_X12_nextTry_95 bp_8 ?_
      obtain ⟨p97, h97, hE⟩ := bnd hE
      refine Wp.cV1i (ok_X12_refuse  h97) dc_X12_nextTry_97 mw_X12_308 (mO11 (by decide)) (by decide) (Nat.le_of_ble_eq_true rfl) ?_
      cases hE
      exact Wp.ireturn dc_X12_nextTry_100 rfl rfl (Nat.le_refl _) (Nat.le_refl _) hK
theorem ok_X12_nextTry_j0 {Q : Option AV → AH → Prop}  {σ : SS}  {x1 : Int32} {x2 : Int32} {o} {z3 z4 : Option AV}   (hE : X12_nextTry_j0  σ  x1 x2 = some o) (hK : Q (some (vi o.1)) (hp o.2)) : Ws 2 mi_X12_nextTry Q 0 [some (vr 11 0), some (vi x1), some (vi x2), z3, z4] [] σ := by
  unfold X12_nextTry_j0 at hE
  refine Wp.aload_n dc_X12_nextTry_0 rfl ?_
  refine Wp.iconst dc_X12_nextTry_1 ic_0 ?_
  refine Wp.sputI dc_X12_nextTry_2 fw_X12_77 (mO11 (by decide)) (Nr.i _) ?_
  obtain ⟨σ2, es_2, hE⟩ := bnS hE
  rw [es_2]
  refine Wp.aload_n dc_X12_nextTry_5 rfl ?_
  refine Wp.iconst dc_X12_nextTry_6 ic_0 ?_
  refine Wp.sputI dc_X12_nextTry_7 fw_X12_80 (mO11 (by decide)) (Nr.i _) ?_
  obtain ⟨σ7, es_7, hE⟩ := bnS hE
  rw [es_7]
  refine Wp.iload_n dc_X12_nextTry_10 rfl ?_
  refine Wp.i2l dc_X12_nextTry_11 ?_
  refine Wp.lconst dc_X12_nextTry_12 lc_0 ?_
  refine Wp.aload_n dc_X12_nextTry_13 rfl ?_
  refine Wp.sgetR (t := 34) dc_X12_nextTry_14 fw_X12_35 (mO11 (by decide)) rfl ?_
  refine Wp.iconst dc_X12_nextTry_17 ic_2 ?_
  obtain ⟨j18, h18, hE⟩ := bnd hE
  refine Wp.siald dc_X12_nextTry_18 (mO13 (by decide)) h18 ?_
  refine Wp.iconst dc_X12_nextTry_19 ic_1 ?_
  refine Wp.isub dc_X12_nextTry_20 ?_
  refine Wp.i2l dc_X12_nextTry_21 ?_
  obtain ⟨v22, h22, hE⟩ := bnd hE
  refine Wp.cS3i (ok_X12_isIn  h22) dc_X12_nextTry_22 mw_X12_112 (by decide) (Nat.le_of_ble_eq_true rfl) ?_
  refine Wp.if_ne (tgt := 34) dc_X12_nextTry_25 (by decide) (fun hc25 => ?_) (fun hc25 => ?_)
  · rw [if_neg hc25] at hE
    refine Wp.aload_n dc_X12_nextTry_34 rfl ?_
    refine Wp.sgetR (t := 34) dc_X12_nextTry_35 fw_X12_35 (mO11 (by decide)) rfl ?_
    refine Wp.bipush dc_X12_nextTry_38 bp_56 ?_
    refine Wp.iload_n dc_X12_nextTry_40 rfl ?_
    refine Wp.iadd dc_X12_nextTry_41 ?_
    obtain ⟨j42, h42, hE⟩ := bnd hE
    refine Wp.siald dc_X12_nextTry_42 (mO13 (by decide)) h42 ?_
    refine Wp.aload_n dc_X12_nextTry_43 rfl ?_
    refine Wp.sgetR (t := 34) dc_X12_nextTry_44 fw_X12_35 (mO11 (by decide)) rfl ?_
    refine Wp.iconst dc_X12_nextTry_47 ic_3 ?_
    obtain ⟨j48, h48, hE⟩ := bnd hE
    refine Wp.siald dc_X12_nextTry_48 (mO13 (by decide)) h48 ?_
    refine Wp.iand dc_X12_nextTry_49 ?_
    obtain ⟨x3_50, e_50, hE⟩ := bnS hE
    rw [e_50]
    refine Wp.istore_n dc_X12_nextTry_50 (by decide) ?_
    refine Wp.iconst dc_X12_nextTry_51 ic_0 ?_
    refine Wp.istore dc_X12_nextTry_52 (by decide) ?_
    exact ok_X12_nextTry_l54   hE hK
  · rw [if_pos hc25] at hE
    refine Wp.aload_n dc_X12_nextTry_28 rfl ?_
    refine Wp.iconst dc_X12_nextTry_29 ic_2 ?_
    obtain ⟨p30, h30, hE⟩ := bnd hE
    refine Wp.cV1i (ok_X12_refuse  h30) dc_X12_nextTry_30 mw_X12_308 (mO11 (by decide)) (by decide) (Nat.le_of_ble_eq_true rfl) ?_
    cases hE
    exact Wp.ireturn dc_X12_nextTry_33 rfl rfl (Nat.le_refl _) (Nat.le_refl _) hK
theorem ok_X12_nextTry  {σ : SS}  {x1 : Int32} {x2 : Int32} {o}   (hE : X12_nextTry  σ  x1 x2 = some o) : Runs 2 0 0 mi_X12_nextTry [vr 11 0, vi x1, vi x2] (hp σ) (fun v h => v = some (vi o.1) ∧ h = hp o.2) := by
  refine Runs.of pn_X12 (Nat.le_of_ble_eq_true rfl) ?_
  exact ok_X12_nextTry_j0   hE ⟨rfl, rfl⟩
def X12_longOf_P4 (Q : Option AV → AH → Prop) (σ : SS)  (x1 : Int32) (ss : Int32 × Int32) : Prop := Ws 1 mi_X12_longOf Q 4 [some (vr 11 0), some (vi x1), some (vi ss.1), some (vi ss.2)] [] σ
def X12_longOf_R4 (Q : Option AV → AH → Prop) (σ : SS)  (x1 : Int32) (tt : Int32) : Prop := ∀ z0 z1 z3 : Option AV, Ws 1 mi_X12_longOf Q 44 [z0, z1, some (vi tt), z3] [] σ
theorem ok_X12_longOf_j36 {Q : Option AV → AH → Prop}  {σ : SS}  {x1 : Int32} {x3 : Int32} {s0 : Int32} {s1 : Int32} {o} {z2 : Option AV}   (hE : X12_longOf_j36  σ  x1 x3 s0 s1 = some o) (hS : ∀ ss, o = Sum.inl ss → (X12_longOf_P4  Q σ  x1) ss) (hT : ∀ tt, o = Sum.inr tt → (X12_longOf_R4  Q σ  x1) tt) : Ws 1 mi_X12_longOf Q 36 [some (vr 11 0), some (vi x1), z2, some (vi x3)] [vi s1, vi s0] σ := by
  unfold X12_longOf_j36 at hE
  refine Wp.iadd dc_X12_longOf_36 ?_
  obtain ⟨x2_37, e_37, hE⟩ := bnS hE
  rw [e_37]
  refine Wp.istore_n dc_X12_longOf_37 (by decide) ?_
  obtain ⟨x3_38, e_38, hE⟩ := bnS hE
  refine Wp.iinc dc_X12_longOf_38 rfl ((ii ic_1).trans e_38) (by decide) ?_
  refine Wp.goto (tgt := 4) dc_X12_longOf_41 (by decide) ?_
  cases hE
  exact hS _ rfl
theorem ok_X12_longOf_l4c {Q : Option AV → AH → Prop}  {σ : SS}  {x1 : Int32} {x2 : Int32} {x3 : Int32} {o}    (hE : X12_longOf_l4c  σ  x1 x2 x3 = some o) (hS : ∀ ss, o = Sum.inl ss → (X12_longOf_P4  Q σ  x1) ss) (hT : ∀ tt, o = Sum.inr tt → (X12_longOf_R4  Q σ  x1) tt) : Ws 1 mi_X12_longOf Q 4 [some (vr 11 0), some (vi x1), some (vi x2), some (vi x3)] [] σ := by
  unfold X12_longOf_l4c at hE
  refine Wp.iload_n dc_X12_longOf_4 rfl ?_
  refine Wp.aload_n dc_X12_longOf_5 rfl ?_
  refine Wp.sgetR (t := 34) dc_X12_longOf_6 fw_X12_35 (mO11 (by decide)) rfl ?_
  refine Wp.iconst dc_X12_longOf_9 ic_0 ?_
  obtain ⟨j10, h10, hE⟩ := bnd hE
  refine Wp.siald dc_X12_longOf_10 (mO13 (by decide)) h10 ?_
  refine Wp.icmp_ge (tgt := 44) dc_X12_longOf_11 (by decide) (fun hc11 => ?_) (fun hc11 => ?_)
  · rw [if_pos hc11] at hE
    cases hE
    exact hT _ rfl _ _ _
  · rw [if_neg hc11] at hE
    refine Wp.iload_n dc_X12_longOf_14 rfl ?_
    refine Wp.iload_n dc_X12_longOf_15 rfl ?_
    refine Wp.iload_n dc_X12_longOf_16 rfl ?_
    obtain ⟨v17, h17, hE⟩ := bnd hE
    refine Wp.cS2i (ok_X12_has  h17) dc_X12_longOf_17 mw_X12_116 (by decide) (Nat.le_of_ble_eq_true rfl) ?_
    refine Wp.if_eq (tgt := 35) dc_X12_longOf_20 (by decide) (fun hc20 => ?_) (fun hc20 => ?_)
    · rw [if_pos hc20] at hE
      refine Wp.iconst dc_X12_longOf_35 ic_0 ?_
      exact ok_X12_longOf_j36   hE hS hT
    · rw [if_neg hc20] at hE
      refine Wp.aload_n dc_X12_longOf_23 rfl ?_
      refine Wp.sgetR (t := 34) dc_X12_longOf_24 fw_X12_35 (mO11 (by decide)) rfl ?_
      refine Wp.bipush dc_X12_longOf_27 bp_8 ?_
      refine Wp.iload_n dc_X12_longOf_29 rfl ?_
      refine Wp.iadd dc_X12_longOf_30 ?_
      obtain ⟨j31, h31, hE⟩ := bnd hE
      refine Wp.siald dc_X12_longOf_31 (mO13 (by decide)) h31 ?_
      refine Wp.goto (tgt := 36) dc_X12_longOf_32 (by decide) ?_
      exact ok_X12_longOf_j36   hE hS hT
theorem ok_X12_longOf_l4 {Q : Option AV → AH → Prop}  {σ : SS}  {x1 : Int32} {x2 : Int32} {x3 : Int32} {o}    (hE : X12_longOf_l4  σ  x1 x2 x3 = some o) (hK : Q (some (vi o)) (hp σ)) : Ws 1 mi_X12_longOf Q 4 [some (vr 11 0), some (vi x1), some (vi x2), some (vi x3)] [] σ := by
  unfold X12_longOf_l4 at hE
  obtain ⟨t4, h1, hE⟩ := bnd hE
  refine iter_ok (P := (X12_longOf_P4  Q σ  x1)) (R := (X12_longOf_R4  Q σ  x1)) (fun ss o h2 hS hT => ?_) NF _ _ h1 ?_
  · skip
    exact ok_X12_longOf_l4c   h2 hS hT
  · intro z0 z1 z3
    show Ws 1 mi_X12_longOf Q 44 [z0, z1, some (vi t4), z3] [] σ
    refine Wp.iload_n dc_X12_longOf_44 rfl ?_
    cases hE
    exact Wp.ireturn dc_X12_longOf_45 rfl rfl (Nat.le_refl _) (Nat.le_refl _) hK
theorem ok_X12_longOf_j0 {Q : Option AV → AH → Prop}  {σ : SS}  {x1 : Int32} {o} {z2 z3 : Option AV}   (hE : X12_longOf_j0  σ  x1 = some o) (hK : Q (some (vi o)) (hp σ)) : Ws 1 mi_X12_longOf Q 0 [some (vr 11 0), some (vi x1), z2, z3] [] σ := by
  unfold X12_longOf_j0 at hE
  refine Wp.iconst dc_X12_longOf_0 ic_0 ?_
  refine Wp.istore_n dc_X12_longOf_1 (by decide) ?_
  refine Wp.iconst dc_X12_longOf_2 ic_0 ?_
  refine Wp.istore_n dc_X12_longOf_3 (by decide) ?_
  exact ok_X12_longOf_l4   hE hK
theorem ok_X12_longOf  {σ : SS}  {x1 : Int32} {o}   (hE : X12_longOf  σ  x1 = some o) : Runs 1 0 0 mi_X12_longOf [vr 11 0, vi x1] (hp σ) (fun v h => v = some (vi o) ∧ h = hp σ) := by
  refine Runs.of pn_X12 (Nat.le_of_ble_eq_true rfl) ?_
  exact ok_X12_longOf_j0   hE ⟨rfl, rfl⟩
def X12_boxes_P37 (Q : Option AV → AH → Prop) (σ : SS)  (x1 : Int32) (x2 : Int32) (ss : Int32) : Prop := ∀ z4 : Option AV, Ws 2 mi_X12_boxes Q 37 [some (vr 11 0), some (vi x1), some (vi x2), some (vi ss), z4] [] σ
def X12_boxes_R37 (Q : Option AV → AH → Prop) (σ : SS)  (x1 : Int32) (x2 : Int32) (tt : (Unit) ⊕ (Unit)) : Prop := match tt with
  | Sum.inl tt => ∀ z1 z2 z3 z4 : Option AV, Ws 2 mi_X12_boxes Q 68 [some (vr 11 0), z1, z2, z3, z4] [] σ
  | Sum.inr tt => ∀ z3 z4 : Option AV, Ws 2 mi_X12_boxes Q 81 [some (vr 11 0), some (vi x1), some (vi x2), z3, z4] [] σ
theorem ok_X12_boxes_j75 {Q : Option AV → AH → Prop}  {σ : SS}  {x1 : Int32} {x2 : Int32} {x3 : Int32} {o} {z4 : Option AV}   (hE : X12_boxes_j75  σ  x1 x2 x3 = some o) (hS : ∀ ss, o = Sum.inl ss → (X12_boxes_P37  Q σ  x1 x2) ss) (hT : ∀ tt, o = Sum.inr tt → (X12_boxes_R37  Q σ  x1 x2) tt) : Ws 2 mi_X12_boxes Q 75 [some (vr 11 0), some (vi x1), some (vi x2), some (vi x3), z4] [] σ := by
  unfold X12_boxes_j75 at hE
  obtain ⟨x3_75, e_75, hE⟩ := bnS hE
  refine Wp.iinc dc_X12_boxes_75 rfl ((ii ic_1).trans e_75) (by decide) ?_
  refine Wp.goto (tgt := 37) dc_X12_boxes_78 (by decide) ?_
  cases hE
  exact hS _ rfl _
theorem ok_X12_boxes_l37c {Q : Option AV → AH → Prop}  {σ : SS}  {x1 : Int32} {x2 : Int32} {x3 : Int32} {o} {z4 : Option AV}   (hE : X12_boxes_l37c  σ  x1 x2 x3 = some o) (hS : ∀ ss, o = Sum.inl ss → (X12_boxes_P37  Q σ  x1 x2) ss) (hT : ∀ tt, o = Sum.inr tt → (X12_boxes_R37  Q σ  x1 x2) tt) : Ws 2 mi_X12_boxes Q 37 [some (vr 11 0), some (vi x1), some (vi x2), some (vi x3), z4] [] σ := by
  unfold X12_boxes_l37c at hE
  refine Wp.iload_n dc_X12_boxes_37 rfl ?_
  refine Wp.aload_n dc_X12_boxes_38 rfl ?_
  refine Wp.sgetR (t := 34) dc_X12_boxes_39 fw_X12_35 (mO11 (by decide)) rfl ?_
  refine Wp.iconst dc_X12_boxes_42 ic_0 ?_
  obtain ⟨j43, h43, hE⟩ := bnd hE
  refine Wp.siald dc_X12_boxes_43 (mO13 (by decide)) h43 ?_
  refine Wp.icmp_ge (tgt := 81) dc_X12_boxes_44 (by decide) (fun hc44 => ?_) (fun hc44 => ?_)
  · rw [if_pos hc44] at hE
    cases hE
    exact hT _ rfl _ _
  · rw [if_neg hc44] at hE
    refine Wp.iload_n dc_X12_boxes_47 rfl ?_
    refine Wp.iload_n dc_X12_boxes_48 rfl ?_
    obtain ⟨v49, h49, hE⟩ := bnd hE
    refine Wp.cS2i (ok_X12_has  h49) dc_X12_boxes_49 mw_X12_116 (by decide) (Nat.le_of_ble_eq_true rfl) ?_
    refine Wp.if_eq (tgt := 75) dc_X12_boxes_52 (by decide) (fun hc52 => ?_) (fun hc52 => ?_)
    · rw [if_pos hc52] at hE
      exact ok_X12_boxes_j75   hE hS hT
    · rw [if_neg hc52] at hE
      refine Wp.aload_n dc_X12_boxes_55 rfl ?_
      refine Wp.sgetR (t := 34) dc_X12_boxes_56 fw_X12_35 (mO11 (by decide)) rfl ?_
      refine Wp.bipush dc_X12_boxes_59 bp_8 ?_
      refine Wp.iload_n dc_X12_boxes_61 rfl ?_
      refine Wp.iadd dc_X12_boxes_62 ?_
      obtain ⟨j63, h63, hE⟩ := bnd hE
      refine Wp.siald dc_X12_boxes_63 (mO13 (by decide)) h63 ?_
      refine Wp.iload_n dc_X12_boxes_64 rfl ?_
      refine Wp.icmp_le (tgt := 75) dc_X12_boxes_65 (by decide) (fun hc65 => ?_) (fun hc65 => ?_)
      · rw [if_pos hc65] at hE
        exact ok_X12_boxes_j75   hE hS hT
      · rw [if_neg hc65] at hE
        cases hE
        exact hT _ rfl _ _ _ _
def X12_boxes_P83 (Q : Option AV → AH → Prop)   (x1 : Int32) (x2 : Int32) (ss : Int32 × SS) : Prop := ∀ z4 : Option AV, Ws 2 mi_X12_boxes Q 83 [some (vr 11 0), some (vi x1), some (vi x2), some (vi ss.1), z4] [] ss.2
def X12_boxes_R83 (Q : Option AV → AH → Prop)   (x1 : Int32) (x2 : Int32) (tt : SS) : Prop := ∀ z1 z3 z4 : Option AV, Ws 2 mi_X12_boxes Q 178 [some (vr 11 0), z1, some (vi x2), z3, z4] [] tt
def X12_boxes_P118 (Q : Option AV → AH → Prop)   (x1 : Int32) (x2 : Int32) (x3 : Int32) (ss : Int32 × SS) : Prop := Ws 2 mi_X12_boxes Q 118 [some (vr 11 0), some (vi x1), some (vi x2), some (vi x3), some (vi ss.1)] [] ss.2
def X12_boxes_R118 (Q : Option AV → AH → Prop)   (x1 : Int32) (x2 : Int32) (x3 : Int32) (tt : SS) : Prop := ∀ z4 : Option AV, Ws 2 mi_X12_boxes Q 172 [some (vr 11 0), some (vi x1), some (vi x2), some (vi x3), z4] [] tt
theorem ok_X12_boxes_j161 {Q : Option AV → AH → Prop}  {σ : SS}  {x1 : Int32} {x2 : Int32} {x3 : Int32} {x4 : Int32} {o}    (hE : X12_boxes_j161  σ  x1 x2 x3 x4 = some o) (hS : ∀ ss, o = Sum.inl ss → (X12_boxes_P118  Q   x1 x2 x3) ss) (hT : ∀ tt, o = Sum.inr tt → (X12_boxes_R118  Q   x1 x2 x3) tt) : Ws 2 mi_X12_boxes Q 161 [some (vr 11 0), some (vi x1), some (vi x2), some (vi x3), some (vi x4)] [] σ := by
  unfold X12_boxes_j161 at hE
  refine Wp.iload dc_X12_boxes_161 rfl ?_
  refine Wp.iconst dc_X12_boxes_163 ic_1 ?_
  refine Wp.isub dc_X12_boxes_164 ?_
  refine Wp.iload_n dc_X12_boxes_165 rfl ?_
  refine Wp.iand dc_X12_boxes_166 ?_
  obtain ⟨x4_167, e_167, hE⟩ := bnS hE
  rw [e_167]
  refine Wp.istore dc_X12_boxes_167 (by decide) ?_
  refine Wp.goto (tgt := 118) dc_X12_boxes_169 (by decide) ?_
  cases hE
  exact hS _ rfl
theorem ok_X12_boxes_l118c {Q : Option AV → AH → Prop}  {σ : SS}  {x1 : Int32} {x2 : Int32} {x3 : Int32} {x4 : Int32} {o}    (hE : X12_boxes_l118c  σ  x1 x2 x3 x4 = some o) (hS : ∀ ss, o = Sum.inl ss → (X12_boxes_P118  Q   x1 x2 x3) ss) (hT : ∀ tt, o = Sum.inr tt → (X12_boxes_R118  Q   x1 x2 x3) tt) : Ws 2 mi_X12_boxes Q 118 [some (vr 11 0), some (vi x1), some (vi x2), some (vi x3), some (vi x4)] [] σ := by
  unfold X12_boxes_l118c at hE
  refine Wp.iload dc_X12_boxes_118 rfl ?_
  refine Wp.if_le (tgt := 172) dc_X12_boxes_120 (by decide) (fun hc120 => ?_) (fun hc120 => ?_)
  · rw [if_pos hc120] at hE
    cases hE
    exact hT _ rfl _
  · rw [if_neg hc120] at hE
    refine Wp.aload_n dc_X12_boxes_123 rfl ?_
    refine Wp.iload dc_X12_boxes_124 rfl ?_
    obtain ⟨v126, h126, hE⟩ := bnd hE
    refine Wp.cV1i (ok_X12_longOf  h126) dc_X12_boxes_126 mw_X12_448 (mO11 (by decide)) (by decide) (Nat.le_of_ble_eq_true rfl) ?_
    refine Wp.iload_n dc_X12_boxes_129 rfl ?_
    refine Wp.icmp_gt (tgt := 161) dc_X12_boxes_130 (by decide) (fun hc130 => ?_) (fun hc130 => ?_)
    · rw [if_pos hc130] at hE
      exact ok_X12_boxes_j161   hE hS hT
    · rw [if_neg hc130] at hE
      refine Wp.aload_n dc_X12_boxes_133 rfl ?_
      refine Wp.sgetR (t := 40) dc_X12_boxes_134 fw_X12_56 (mO11 (by decide)) rfl ?_
      refine Wp.iload_n dc_X12_boxes_137 rfl ?_
      refine Wp.aload_n dc_X12_boxes_138 rfl ?_
      refine Wp.sgetR (t := 40) dc_X12_boxes_139 fw_X12_56 (mO11 (by decide)) rfl ?_
      refine Wp.iload_n dc_X12_boxes_142 rfl ?_
      obtain ⟨j143, h143, hE⟩ := bnd hE
      refine Wp.siald dc_X12_boxes_143 (mO13 (by decide)) h143 ?_
      refine Wp.iconst dc_X12_boxes_144 ic_1 ?_
      refine Wp.aload_n dc_X12_boxes_145 rfl ?_
      refine Wp.sgetR (t := 40) dc_X12_boxes_146 fw_X12_56 (mO11 (by decide)) rfl ?_
      refine Wp.iload_n dc_X12_boxes_149 rfl ?_
      refine Wp.iload dc_X12_boxes_150 rfl ?_
      refine Wp.iconst dc_X12_boxes_152 ic_m1 ?_
      refine Wp.ixor dc_X12_boxes_153 ?_
      refine Wp.iand dc_X12_boxes_154 ?_
      obtain ⟨j155, h155, hE⟩ := bnd hE
      refine Wp.siald dc_X12_boxes_155 (mO13 (by decide)) h155 ?_
      refine Wp.iadd dc_X12_boxes_156 ?_
      refine Wp.mmin dc_X12_boxes_157 lw_X12_303 ms_min mi_Math mk_min (by decide) (Nat.le_refl _) (Nat.le_refl _) (Nat.le_of_ble_eq_true rfl) ?_
      obtain ⟨j160, h160, hE⟩ := bnd hE
      refine Wp.siast dc_X12_boxes_160 (mO13 (by decide)) h160 ?_
      obtain ⟨σ160, es_160, hE⟩ := bnS hE
      rw [es_160]
      exact ok_X12_boxes_j161   hE hS hT
theorem ok_X12_boxes_j172 {Q : Option AV → AH → Prop}  {σ : SS}  {x1 : Int32} {x2 : Int32} {x3 : Int32} {o} {z4 : Option AV}   (hE : X12_boxes_j172  σ  x1 x2 x3 = some o) (hS : ∀ ss, o = Sum.inl ss → (X12_boxes_P83  Q   x1 x2) ss) (hT : ∀ tt, o = Sum.inr tt → (X12_boxes_R83  Q   x1 x2) tt) : Ws 2 mi_X12_boxes Q 172 [some (vr 11 0), some (vi x1), some (vi x2), some (vi x3), z4] [] σ := by
  unfold X12_boxes_j172 at hE
  obtain ⟨x3_172, e_172, hE⟩ := bnS hE
  refine Wp.iinc dc_X12_boxes_172 rfl ((ii ic_1).trans e_172) (by decide) ?_
  refine Wp.goto (tgt := 83) dc_X12_boxes_175 (by decide) ?_
  cases hE
  exact hS _ rfl _
theorem ok_X12_boxes_l118 {Q : Option AV → AH → Prop}  {σ : SS}  {x1 : Int32} {x2 : Int32} {x3 : Int32} {x4 : Int32} {o}    (hE : X12_boxes_l118  σ  x1 x2 x3 x4 = some o) (hS : ∀ ss, o = Sum.inl ss → (X12_boxes_P83  Q   x1 x2) ss) (hT : ∀ tt, o = Sum.inr tt → (X12_boxes_R83  Q   x1 x2) tt) : Ws 2 mi_X12_boxes Q 118 [some (vr 11 0), some (vi x1), some (vi x2), some (vi x3), some (vi x4)] [] σ := by
  unfold X12_boxes_l118 at hE
  obtain ⟨t118, h1, hE⟩ := bnd hE
  refine iter_ok (P := (X12_boxes_P118  Q   x1 x2 x3)) (R := (X12_boxes_R118  Q   x1 x2 x3)) (fun ss o h2 hS hT => ?_) NF _ _ h1 ?_
  · skip
    exact ok_X12_boxes_l118c   h2 hS hT
  · intro z4
    show Ws 2 mi_X12_boxes Q 172 [some (vr 11 0), some (vi x1), some (vi x2), some (vi x3), z4] [] t118
    exact ok_X12_boxes_j172   hE hS hT
theorem ok_X12_boxes_j103 {Q : Option AV → AH → Prop}  {σ : SS}  {x1 : Int32} {x2 : Int32} {x3 : Int32} {s1 : Int32} {s2 : Int32} {o} {z4 : Option AV}   (hE : X12_boxes_j103  σ  x1 x2 x3 s1 s2 = some o) (hS : ∀ ss, o = Sum.inl ss → (X12_boxes_P83  Q   x1 x2) ss) (hT : ∀ tt, o = Sum.inr tt → (X12_boxes_R83  Q   x1 x2) tt) : Ws 2 mi_X12_boxes Q 103 [some (vr 11 0), some (vi x1), some (vi x2), some (vi x3), z4] [vi s2, vi s1, vr 13 40] σ := by
  unfold X12_boxes_j103 at hE
  obtain ⟨j103, h103, hE⟩ := bnd hE
  refine Wp.siast dc_X12_boxes_103 (mO13 (by decide)) h103 ?_
  obtain ⟨σ103, es_103, hE⟩ := bnS hE
  rw [es_103]
  refine Wp.iload_n dc_X12_boxes_104 rfl ?_
  refine Wp.iload_n dc_X12_boxes_105 rfl ?_
  refine Wp.iconst dc_X12_boxes_106 ic_m1 ?_
  refine Wp.ixor dc_X12_boxes_107 ?_
  refine Wp.iand dc_X12_boxes_108 ?_
  refine Wp.if_eq (tgt := 115) dc_X12_boxes_109 (by decide) (fun hc109 => ?_) (fun hc109 => ?_)
  · rw [if_pos hc109] at hE
    refine Wp.iload_n dc_X12_boxes_115 rfl ?_
    refine Wp.istore dc_X12_boxes_116 (by decide) ?_
    exact ok_X12_boxes_l118   hE hS hT
  · rw [if_neg hc109] at hE
    refine Wp.goto (tgt := 172) dc_X12_boxes_112 (by decide) ?_
    exact ok_X12_boxes_j172   hE hS hT
theorem ok_X12_boxes_l83c {Q : Option AV → AH → Prop}  {σ : SS}  {x1 : Int32} {x2 : Int32} {x3 : Int32} {o} {z4 : Option AV}   (hE : X12_boxes_l83c  σ  x1 x2 x3 = some o) (hS : ∀ ss, o = Sum.inl ss → (X12_boxes_P83  Q   x1 x2) ss) (hT : ∀ tt, o = Sum.inr tt → (X12_boxes_R83  Q   x1 x2) tt) : Ws 2 mi_X12_boxes Q 83 [some (vr 11 0), some (vi x1), some (vi x2), some (vi x3), z4] [] σ := by
  unfold X12_boxes_l83c at hE
  refine Wp.iload_n dc_X12_boxes_83 rfl ?_
  refine Wp.iload_n dc_X12_boxes_84 rfl ?_
  refine Wp.icmp_gt (tgt := 178) dc_X12_boxes_85 (by decide) (fun hc85 => ?_) (fun hc85 => ?_)
  · rw [if_pos hc85] at hE
    cases hE
    exact hT _ rfl _ _ _
  · rw [if_neg hc85] at hE
    refine Wp.aload_n dc_X12_boxes_88 rfl ?_
    refine Wp.sgetR (t := 40) dc_X12_boxes_89 fw_X12_56 (mO11 (by decide)) rfl ?_
    refine Wp.iload_n dc_X12_boxes_92 rfl ?_
    refine Wp.iload_n dc_X12_boxes_93 rfl ?_
    refine Wp.if_ne (tgt := 101) dc_X12_boxes_94 (by decide) (fun hc94 => ?_) (fun hc94 => ?_)
    · rw [if_neg hc94] at hE
      refine Wp.bipush dc_X12_boxes_101 bp_99 ?_
      exact ok_X12_boxes_j103   hE hS hT
    · rw [if_pos hc94] at hE
      refine Wp.iconst dc_X12_boxes_97 ic_0 ?_
      refine Wp.goto (tgt := 103) dc_X12_boxes_98 (by decide) ?_
      exact ok_X12_boxes_j103   hE hS hT
theorem ok_X12_boxes_l83 {Q : Option AV → AH → Prop}  {σ : SS}  {x1 : Int32} {x2 : Int32} {x3 : Int32} {o} {z4 : Option AV}   (hE : X12_boxes_l83  σ  x1 x2 x3 = some o) (hK : Q (some (vi o.1)) (hp o.2)) : Ws 2 mi_X12_boxes Q 83 [some (vr 11 0), some (vi x1), some (vi x2), some (vi x3), z4] [] σ := by
  unfold X12_boxes_l83 at hE
  obtain ⟨t83, h1, hE⟩ := bnd hE
  refine iter_ok (P := (X12_boxes_P83  Q   x1 x2)) (R := (X12_boxes_R83  Q   x1 x2)) (fun ss o h2 hS hT => ?_) NF _ _ h1 ?_ _
  · intro z4
    exact ok_X12_boxes_l83c   h2 hS hT
  · intro z1 z3 z4
    show Ws 2 mi_X12_boxes Q 178 [some (vr 11 0), z1, some (vi x2), z3, z4] [] t83
    refine Wp.aload_n dc_X12_boxes_178 rfl ?_
    refine Wp.sgetR (t := 40) dc_X12_boxes_179 fw_X12_56 (mO11 (by decide)) rfl ?_
    refine Wp.iload_n dc_X12_boxes_182 rfl ?_
    obtain ⟨j183, h183, hE⟩ := bnd hE
    refine Wp.siald dc_X12_boxes_183 (mO13 (by decide)) h183 ?_
    cases hE
    exact Wp.ireturn dc_X12_boxes_184 rfl rfl (Nat.le_refl _) (Nat.le_refl _) hK
theorem ok_X12_boxes_l37 {Q : Option AV → AH → Prop}  {σ : SS}  {x1 : Int32} {x2 : Int32} {x3 : Int32} {o} {z4 : Option AV}   (hE : X12_boxes_l37  σ  x1 x2 x3 = some o) (hK : Q (some (vi o.1)) (hp o.2)) : Ws 2 mi_X12_boxes Q 37 [some (vr 11 0), some (vi x1), some (vi x2), some (vi x3), z4] [] σ := by
  unfold X12_boxes_l37 at hE
  obtain ⟨t37, h1, hE⟩ := bnd hE
  refine iter_ok (P := (X12_boxes_P37  Q σ  x1 x2)) (R := (X12_boxes_R37  Q σ  x1 x2)) (fun ss o h2 hS hT => ?_) NF _ _ h1 ?_ _
  · intro z4
    exact ok_X12_boxes_l37c   h2 hS hT
  · rcases t37 with e68 | u68
    · dsimp only at hE
      intro z1 z2 z3 z4
      show Ws 2 mi_X12_boxes Q 68 [some (vr 11 0), z1, z2, z3, z4] [] σ
      refine Wp.aload_n dc_X12_boxes_68 rfl ?_
      refine Wp.bipush dc_X12_boxes_69 bp_9 ?_
      obtain ⟨p71, h71, hE⟩ := bnd hE
      refine Wp.cV1i (ok_X12_refuse  h71) dc_X12_boxes_71 mw_X12_308 (mO11 (by decide)) (by decide) (Nat.le_of_ble_eq_true rfl) ?_
      cases hE
      exact Wp.ireturn dc_X12_boxes_74 rfl rfl (Nat.le_refl _) (Nat.le_refl _) hK
    · dsimp only at hE
      skip
      intro z3 z4
      show Ws 2 mi_X12_boxes Q 81 [some (vr 11 0), some (vi x1), some (vi x2), z3, z4] [] σ
      refine Wp.iconst dc_X12_boxes_81 ic_0 ?_
      refine Wp.istore_n dc_X12_boxes_82 (by decide) ?_
      exact ok_X12_boxes_l83   hE hK
theorem ok_X12_boxes_j0 {Q : Option AV → AH → Prop}  {σ : SS}  {x1 : Int32} {o} {z2 z3 z4 : Option AV}   (hE : X12_boxes_j0  σ  x1 = some o) (hK : Q (some (vi o.1)) (hp o.2)) : Ws 2 mi_X12_boxes Q 0 [some (vr 11 0), some (vi x1), z2, z3, z4] [] σ := by
  unfold X12_boxes_j0 at hE
  refine Wp.aload_n dc_X12_boxes_0 rfl ?_
  refine Wp.iconst dc_X12_boxes_1 ic_0 ?_
  refine Wp.sputI dc_X12_boxes_2 fw_X12_77 (mO11 (by decide)) (Nr.i _) ?_
  obtain ⟨σ2, es_2, hE⟩ := bnS hE
  rw [es_2]
  refine Wp.aload_n dc_X12_boxes_5 rfl ?_
  refine Wp.iconst dc_X12_boxes_6 ic_0 ?_
  refine Wp.sputI dc_X12_boxes_7 fw_X12_80 (mO11 (by decide)) (Nr.i _) ?_
  obtain ⟨σ7, es_7, hE⟩ := bnS hE
  rw [es_7]
  refine Wp.iload_n dc_X12_boxes_10 rfl ?_
  refine Wp.i2l dc_X12_boxes_11 ?_
  refine Wp.lconst dc_X12_boxes_12 lc_1 ?_
  refine Wp.ldc2 dc_X12_boxes_13 kw_X12_446 ?_
  obtain ⟨v16, h16, hE⟩ := bnd hE
  refine Wp.cS3i (ok_X12_isIn  h16) dc_X12_boxes_16 mw_X12_112 (by decide) (Nat.le_of_ble_eq_true rfl) ?_
  refine Wp.if_ne (tgt := 28) dc_X12_boxes_19 (by decide) (fun hc19 => ?_) (fun hc19 => ?_)
  · rw [if_neg hc19] at hE
    refine Wp.aload_n dc_X12_boxes_28 rfl ?_
    refine Wp.sgetR (t := 34) dc_X12_boxes_29 fw_X12_35 (mO11 (by decide)) rfl ?_
    refine Wp.iconst dc_X12_boxes_32 ic_3 ?_
    obtain ⟨j33, h33, hE⟩ := bnd hE
    refine Wp.siald dc_X12_boxes_33 (mO13 (by decide)) h33 ?_
    obtain ⟨x2_34, e_34, hE⟩ := bnS hE
    rw [e_34]
    refine Wp.istore_n dc_X12_boxes_34 (by decide) ?_
    refine Wp.iconst dc_X12_boxes_35 ic_0 ?_
    refine Wp.istore_n dc_X12_boxes_36 (by decide) ?_
    exact ok_X12_boxes_l37   hE hK
  · rw [if_pos hc19] at hE
    refine Wp.aload_n dc_X12_boxes_22 rfl ?_
    refine Wp.iconst dc_X12_boxes_23 ic_5 ?_
    obtain ⟨p24, h24, hE⟩ := bnd hE
    refine Wp.cV1i (ok_X12_refuse  h24) dc_X12_boxes_24 mw_X12_308 (mO11 (by decide)) (by decide) (Nat.le_of_ble_eq_true rfl) ?_
    cases hE
    exact Wp.ireturn dc_X12_boxes_27 rfl rfl (Nat.le_refl _) (Nat.le_refl _) hK
theorem ok_X12_boxes  {σ : SS}  {x1 : Int32} {o}   (hE : X12_boxes  σ  x1 = some o) : Runs 2 0 0 mi_X12_boxes [vr 11 0, vi x1] (hp σ) (fun v h => v = some (vi o.1) ∧ h = hp o.2) := by
  refine Runs.of pn_X12 (Nat.le_of_ble_eq_true rfl) ?_
  exact ok_X12_boxes_j0   hE ⟨rfl, rfl⟩
def X12_waste_P32 (Q : Option AV → AH → Prop) (σ : SS)  (x1 : Int32) (ss : Int32 × Int32) : Prop := Ws 2 mi_X12_waste Q 32 [some (vr 11 0), some (vi x1), some (vi ss.1), some (vi ss.2)] [] σ
def X12_waste_R32 (Q : Option AV → AH → Prop) (σ : SS)  (x1 : Int32) (tt : Int32) : Prop := ∀ z0 z1 z3 : Option AV, Ws 2 mi_X12_waste Q 98 [z0, z1, some (vi tt), z3] [] σ
theorem ok_X12_waste_j90 {Q : Option AV → AH → Prop}  {σ : SS}  {x1 : Int32} {x3 : Int32} {s0 : Int32} {s1 : Int32} {o} {z2 : Option AV}   (hE : X12_waste_j90  σ  x1 x3 s0 s1 = some o) (hS : ∀ ss, o = Sum.inl ss → (X12_waste_P32  Q σ  x1) ss) (hT : ∀ tt, o = Sum.inr tt → (X12_waste_R32  Q σ  x1) tt) : Ws 2 mi_X12_waste Q 90 [some (vr 11 0), some (vi x1), z2, some (vi x3)] [vi s1, vi s0] σ := by
  unfold X12_waste_j90 at hE
  refine Wp.ior dc_X12_waste_90 ?_
  obtain ⟨x2_91, e_91, hE⟩ := bnS hE
  rw [e_91]
  refine Wp.istore_n dc_X12_waste_91 (by decide) ?_
  obtain ⟨x3_92, e_92, hE⟩ := bnS hE
  refine Wp.iinc dc_X12_waste_92 rfl ((ii ic_1).trans e_92) (by decide) ?_
  refine Wp.goto (tgt := 32) dc_X12_waste_95 (by decide) ?_
  cases hE
  exact hS _ rfl
theorem ok_X12_waste_j89 {Q : Option AV → AH → Prop}  {σ : SS}  {x1 : Int32} {x3 : Int32} {s0 : Int32} {o} {z2 : Option AV}   (hE : X12_waste_j89  σ  x1 x3 s0 = some o) (hS : ∀ ss, o = Sum.inl ss → (X12_waste_P32  Q σ  x1) ss) (hT : ∀ tt, o = Sum.inr tt → (X12_waste_R32  Q σ  x1) tt) : Ws 2 mi_X12_waste Q 89 [some (vr 11 0), some (vi x1), z2, some (vi x3)] [vi s0] σ := by
  unfold X12_waste_j89 at hE
  refine Wp.iconst dc_X12_waste_89 ic_0 ?_
  exact ok_X12_waste_j90   hE hS hT
theorem ok_X12_waste_l32c {Q : Option AV → AH → Prop}  {σ : SS}  {x1 : Int32} {x2 : Int32} {x3 : Int32} {o}    (hE : X12_waste_l32c  σ  x1 x2 x3 = some o) (hS : ∀ ss, o = Sum.inl ss → (X12_waste_P32  Q σ  x1) ss) (hT : ∀ tt, o = Sum.inr tt → (X12_waste_R32  Q σ  x1) tt) : Ws 2 mi_X12_waste Q 32 [some (vr 11 0), some (vi x1), some (vi x2), some (vi x3)] [] σ := by
  unfold X12_waste_l32c at hE
  refine Wp.iload_n dc_X12_waste_32 rfl ?_
  refine Wp.aload_n dc_X12_waste_33 rfl ?_
  refine Wp.sgetR (t := 34) dc_X12_waste_34 fw_X12_35 (mO11 (by decide)) rfl ?_
  refine Wp.iconst dc_X12_waste_37 ic_0 ?_
  obtain ⟨j38, h38, hE⟩ := bnd hE
  refine Wp.siald dc_X12_waste_38 (mO13 (by decide)) h38 ?_
  refine Wp.icmp_ge (tgt := 98) dc_X12_waste_39 (by decide) (fun hc39 => ?_) (fun hc39 => ?_)
  · rw [if_pos hc39] at hE
    cases hE
    exact hT _ rfl _ _ _
  · rw [if_neg hc39] at hE
    refine Wp.iload_n dc_X12_waste_42 rfl ?_
    refine Wp.aload_n dc_X12_waste_43 rfl ?_
    refine Wp.iload_n dc_X12_waste_44 rfl ?_
    obtain ⟨v45, h45, hE⟩ := bnd hE
    refine Wp.cV1i (ok_X12_isInside  h45) dc_X12_waste_45 mw_X12_337 (mO11 (by decide)) (by decide) (Nat.le_of_ble_eq_true rfl) ?_
    refine Wp.if_eq (tgt := 89) dc_X12_waste_48 (by decide) (fun hc48 => ?_) (fun hc48 => ?_)
    · rw [if_pos hc48] at hE
      exact ok_X12_waste_j89   hE hS hT
    · rw [if_neg hc48] at hE
      refine Wp.aload_n dc_X12_waste_51 rfl ?_
      refine Wp.sgetR (t := 34) dc_X12_waste_52 fw_X12_35 (mO11 (by decide)) rfl ?_
      refine Wp.bipush dc_X12_waste_55 bp_40 ?_
      refine Wp.iload_n dc_X12_waste_57 rfl ?_
      refine Wp.iadd dc_X12_waste_58 ?_
      obtain ⟨j59, h59, hE⟩ := bnd hE
      refine Wp.siald dc_X12_waste_59 (mO13 (by decide)) h59 ?_
      refine Wp.aload_n dc_X12_waste_60 rfl ?_
      refine Wp.sgetR (t := 34) dc_X12_waste_61 fw_X12_35 (mO11 (by decide)) rfl ?_
      refine Wp.bipush dc_X12_waste_64 bp_48 ?_
      refine Wp.iload_n dc_X12_waste_66 rfl ?_
      refine Wp.iadd dc_X12_waste_67 ?_
      obtain ⟨j68, h68, hE⟩ := bnd hE
      refine Wp.siald dc_X12_waste_68 (mO13 (by decide)) h68 ?_
      refine Wp.imul dc_X12_waste_69 ?_
      refine Wp.bipush dc_X12_waste_70 bp_16 ?_
      refine Wp.iload_n dc_X12_waste_72 rfl ?_
      refine Wp.imul dc_X12_waste_73 ?_
      refine Wp.aload_n dc_X12_waste_74 rfl ?_
      refine Wp.iload_n dc_X12_waste_75 rfl ?_
      obtain ⟨v76, h76, hE⟩ := bnd hE
      refine Wp.cV1i (ok_X12_crossings  h76) dc_X12_waste_76 mw_X12_314 (mO11 (by decide)) (by decide) (Nat.le_of_ble_eq_true rfl) ?_
      refine Wp.imul dc_X12_waste_79 ?_
      refine Wp.icmp_ge (tgt := 89) dc_X12_waste_80 (by decide) (fun hc80 => ?_) (fun hc80 => ?_)
      · rw [if_pos hc80] at hE
        exact ok_X12_waste_j89   hE hS hT
      · rw [if_neg hc80] at hE
        refine Wp.iconst dc_X12_waste_83 ic_1 ?_
        refine Wp.iload_n dc_X12_waste_84 rfl ?_
        refine Wp.ishl dc_X12_waste_85 ?_
        refine Wp.goto (tgt := 90) dc_X12_waste_86 (by decide) ?_
        exact ok_X12_waste_j90   hE hS hT
theorem ok_X12_waste_l32 {Q : Option AV → AH → Prop}  {σ : SS}  {x1 : Int32} {x2 : Int32} {x3 : Int32} {o}    (hE : X12_waste_l32  σ  x1 x2 x3 = some o) (hK : Q (some (vi o.1)) (hp o.2)) : Ws 2 mi_X12_waste Q 32 [some (vr 11 0), some (vi x1), some (vi x2), some (vi x3)] [] σ := by
  unfold X12_waste_l32 at hE
  obtain ⟨t32, h1, hE⟩ := bnd hE
  refine iter_ok (P := (X12_waste_P32  Q σ  x1)) (R := (X12_waste_R32  Q σ  x1)) (fun ss o h2 hS hT => ?_) NF _ _ h1 ?_
  · skip
    exact ok_X12_waste_l32c   h2 hS hT
  · intro z0 z1 z3
    show Ws 2 mi_X12_waste Q 98 [z0, z1, some (vi t32), z3] [] σ
    refine Wp.iload_n dc_X12_waste_98 rfl ?_
    cases hE
    exact Wp.ireturn dc_X12_waste_99 rfl rfl (Nat.le_refl _) (Nat.le_refl _) hK
theorem ok_X12_waste_j0 {Q : Option AV → AH → Prop}  {σ : SS}  {x1 : Int32} {o} {z2 z3 : Option AV}   (hE : X12_waste_j0  σ  x1 = some o) (hK : Q (some (vi o.1)) (hp o.2)) : Ws 2 mi_X12_waste Q 0 [some (vr 11 0), some (vi x1), z2, z3] [] σ := by
  unfold X12_waste_j0 at hE
  refine Wp.aload_n dc_X12_waste_0 rfl ?_
  refine Wp.iconst dc_X12_waste_1 ic_0 ?_
  refine Wp.sputI dc_X12_waste_2 fw_X12_77 (mO11 (by decide)) (Nr.i _) ?_
  obtain ⟨σ2, es_2, hE⟩ := bnS hE
  rw [es_2]
  refine Wp.aload_n dc_X12_waste_5 rfl ?_
  refine Wp.iconst dc_X12_waste_6 ic_0 ?_
  refine Wp.sputI dc_X12_waste_7 fw_X12_80 (mO11 (by decide)) (Nr.i _) ?_
  obtain ⟨σ7, es_7, hE⟩ := bnS hE
  rw [es_7]
  refine Wp.iload_n dc_X12_waste_10 rfl ?_
  refine Wp.i2l dc_X12_waste_11 ?_
  refine Wp.lconst dc_X12_waste_12 lc_0 ?_
  refine Wp.ldc2 dc_X12_waste_13 kw_X12_430 ?_
  obtain ⟨v16, h16, hE⟩ := bnd hE
  refine Wp.cS3i (ok_X12_isIn  h16) dc_X12_waste_16 mw_X12_112 (by decide) (Nat.le_of_ble_eq_true rfl) ?_
  refine Wp.if_ne (tgt := 28) dc_X12_waste_19 (by decide) (fun hc19 => ?_) (fun hc19 => ?_)
  · rw [if_neg hc19] at hE
    refine Wp.iconst dc_X12_waste_28 ic_0 ?_
    refine Wp.istore_n dc_X12_waste_29 (by decide) ?_
    refine Wp.iconst dc_X12_waste_30 ic_0 ?_
    refine Wp.istore_n dc_X12_waste_31 (by decide) ?_
    exact ok_X12_waste_l32   hE hK
  · rw [if_pos hc19] at hE
    refine Wp.aload_n dc_X12_waste_22 rfl ?_
    refine Wp.iconst dc_X12_waste_23 ic_5 ?_
    obtain ⟨p24, h24, hE⟩ := bnd hE
    refine Wp.cV1i (ok_X12_refuse  h24) dc_X12_waste_24 mw_X12_308 (mO11 (by decide)) (by decide) (Nat.le_of_ble_eq_true rfl) ?_
    cases hE
    exact Wp.ireturn dc_X12_waste_27 rfl rfl (Nat.le_refl _) (Nat.le_refl _) hK
theorem ok_X12_waste  {σ : SS}  {x1 : Int32} {o}   (hE : X12_waste  σ  x1 = some o) : Runs 2 0 0 mi_X12_waste [vr 11 0, vi x1] (hp σ) (fun v h => v = some (vi o.1) ∧ h = hp o.2) := by
  refine Runs.of pn_X12 (Nat.le_of_ble_eq_true rfl) ?_
  exact ok_X12_waste_j0   hE ⟨rfl, rfl⟩
def X12_takes_P8 (Q : Option AV → AH → Prop)   (x1 : Int32) (ss : Int32 × SS) : Prop := Ws 4 mi_X12_takes Q 8 [some (vr 11 0), some (vi x1), some (vi ss.1)] [] ss.2
def X12_takes_R8 (Q : Option AV → AH → Prop)   (x1 : Int32) (tt : SS) : Prop := ∀ z2 : Option AV, Ws 4 mi_X12_takes Q 29 [some (vr 11 0), some (vi x1), z2] [] tt
theorem ok_X12_takes_l8c {Q : Option AV → AH → Prop}  {σ : SS}  {x1 : Int32} {x2 : Int32} {o}    (hE : X12_takes_l8c  σ  x1 x2 = some o) (hS : ∀ ss, o = Sum.inl ss → (X12_takes_P8  Q   x1) ss) (hT : ∀ tt, o = Sum.inr tt → (X12_takes_R8  Q   x1) tt) : Ws 4 mi_X12_takes Q 8 [some (vr 11 0), some (vi x1), some (vi x2)] [] σ := by
  unfold X12_takes_l8c at hE
  refine Wp.iload_n dc_X12_takes_8 rfl ?_
  refine Wp.aload_n dc_X12_takes_9 rfl ?_
  refine Wp.sgetR (t := 38) dc_X12_takes_10 fw_X12_50 (mO11 (by decide)) rfl ?_
  refine Wp.iconst dc_X12_takes_13 ic_0 ?_
  obtain ⟨j14, h14, hE⟩ := bnd hE
  refine Wp.siald dc_X12_takes_14 (mO13 (by decide)) h14 ?_
  refine Wp.icmp_ge (tgt := 29) dc_X12_takes_15 (by decide) (fun hc15 => ?_) (fun hc15 => ?_)
  · rw [if_pos hc15] at hE
    cases hE
    exact hT _ rfl _
  · rw [if_neg hc15] at hE
    refine Wp.aload_n dc_X12_takes_18 rfl ?_
    obtain ⟨p19, h19, hE⟩ := bnd hE
    refine Wp.cV0i (ok_X12_loosensOnce  h19) dc_X12_takes_19 mw_X12_343 (mO11 (by decide)) (by decide) (Nat.le_of_ble_eq_true rfl) ?_
    refine Wp.pop dc_X12_takes_22 rfl ?_
    obtain ⟨x2_23, e_23, hE⟩ := bnS hE
    refine Wp.iinc dc_X12_takes_23 rfl ((ii ic_1).trans e_23) (by decide) ?_
    refine Wp.goto (tgt := 8) dc_X12_takes_26 (by decide) ?_
    cases hE
    exact hS _ rfl
def X12_takes_P31 (Q : Option AV → AH → Prop)   (x1 : Int32) (ss : Int32 × SS) : Prop := Ws 4 mi_X12_takes Q 31 [some (vr 11 0), some (vi x1), some (vi ss.1)] [] ss.2
def X12_takes_R31 (Q : Option AV → AH → Prop)   (x1 : Int32) (tt : SS) : Prop := ∀ z2 : Option AV, Ws 4 mi_X12_takes Q 54 [some (vr 11 0), some (vi x1), z2] [] tt
theorem ok_X12_takes_l31c {Q : Option AV → AH → Prop}  {σ : SS}  {x1 : Int32} {x2 : Int32} {o}    (hE : X12_takes_l31c  σ  x1 x2 = some o) (hS : ∀ ss, o = Sum.inl ss → (X12_takes_P31  Q   x1) ss) (hT : ∀ tt, o = Sum.inr tt → (X12_takes_R31  Q   x1) tt) : Ws 4 mi_X12_takes Q 31 [some (vr 11 0), some (vi x1), some (vi x2)] [] σ := by
  unfold X12_takes_l31c at hE
  refine Wp.iload_n dc_X12_takes_31 rfl ?_
  refine Wp.aload_n dc_X12_takes_32 rfl ?_
  refine Wp.sgetR (t := 38) dc_X12_takes_33 fw_X12_50 (mO11 (by decide)) rfl ?_
  refine Wp.iconst dc_X12_takes_36 ic_1 ?_
  obtain ⟨j37, h37, hE⟩ := bnd hE
  refine Wp.siald dc_X12_takes_37 (mO13 (by decide)) h37 ?_
  refine Wp.icmp_ge (tgt := 54) dc_X12_takes_38 (by decide) (fun hc38 => ?_) (fun hc38 => ?_)
  · rw [if_pos hc38] at hE
    cases hE
    exact hT _ rfl _
  · rw [if_neg hc38] at hE
    refine Wp.aload_n dc_X12_takes_41 rfl ?_
    refine Wp.iload_n dc_X12_takes_42 rfl ?_
    refine Wp.iconst dc_X12_takes_43 ic_0 ?_
    obtain ⟨p44, h44, hE⟩ := bnd hE
    refine Wp.cV2i (ok_X12_followsOne  h44) dc_X12_takes_44 mw_X12_340 (mO11 (by decide)) (by decide) (Nat.le_of_ble_eq_true rfl) ?_
    refine Wp.pop dc_X12_takes_47 rfl ?_
    obtain ⟨x2_48, e_48, hE⟩ := bnS hE
    refine Wp.iinc dc_X12_takes_48 rfl ((ii ic_1).trans e_48) (by decide) ?_
    refine Wp.goto (tgt := 31) dc_X12_takes_51 (by decide) ?_
    cases hE
    exact hS _ rfl
def X12_takes_P56 (Q : Option AV → AH → Prop)   (x1 : Int32) (ss : Int32 × SS) : Prop := Ws 4 mi_X12_takes Q 56 [some (vr 11 0), some (vi x1), some (vi ss.1)] [] ss.2
def X12_takes_R56 (Q : Option AV → AH → Prop)   (x1 : Int32) (tt : SS) : Prop := ∀ z2 : Option AV, Ws 4 mi_X12_takes Q 79 [some (vr 11 0), some (vi x1), z2] [] tt
theorem ok_X12_takes_l56c {Q : Option AV → AH → Prop}  {σ : SS}  {x1 : Int32} {x2 : Int32} {o}    (hE : X12_takes_l56c  σ  x1 x2 = some o) (hS : ∀ ss, o = Sum.inl ss → (X12_takes_P56  Q   x1) ss) (hT : ∀ tt, o = Sum.inr tt → (X12_takes_R56  Q   x1) tt) : Ws 4 mi_X12_takes Q 56 [some (vr 11 0), some (vi x1), some (vi x2)] [] σ := by
  unfold X12_takes_l56c at hE
  refine Wp.iload_n dc_X12_takes_56 rfl ?_
  refine Wp.aload_n dc_X12_takes_57 rfl ?_
  refine Wp.sgetR (t := 38) dc_X12_takes_58 fw_X12_50 (mO11 (by decide)) rfl ?_
  refine Wp.iconst dc_X12_takes_61 ic_2 ?_
  obtain ⟨j62, h62, hE⟩ := bnd hE
  refine Wp.siald dc_X12_takes_62 (mO13 (by decide)) h62 ?_
  refine Wp.icmp_ge (tgt := 79) dc_X12_takes_63 (by decide) (fun hc63 => ?_) (fun hc63 => ?_)
  · rw [if_pos hc63] at hE
    cases hE
    exact hT _ rfl _
  · rw [if_neg hc63] at hE
    refine Wp.aload_n dc_X12_takes_66 rfl ?_
    refine Wp.iload_n dc_X12_takes_67 rfl ?_
    refine Wp.iconst dc_X12_takes_68 ic_1 ?_
    obtain ⟨p69, h69, hE⟩ := bnd hE
    refine Wp.cV2i (ok_X12_followsOne  h69) dc_X12_takes_69 mw_X12_340 (mO11 (by decide)) (by decide) (Nat.le_of_ble_eq_true rfl) ?_
    refine Wp.pop dc_X12_takes_72 rfl ?_
    obtain ⟨x2_73, e_73, hE⟩ := bnS hE
    refine Wp.iinc dc_X12_takes_73 rfl ((ii ic_1).trans e_73) (by decide) ?_
    refine Wp.goto (tgt := 56) dc_X12_takes_76 (by decide) ?_
    cases hE
    exact hS _ rfl
theorem ok_X12_takes_j94 {Q : Option AV → AH → Prop}  {σ : SS}   {o} {z1 z2 : Option AV}   (hE : X12_takes_j94  σ   = some o) (hK : Q none (hp o)) : Ws 4 mi_X12_takes Q 94 [some (vr 11 0), z1, z2] [] σ := by
  unfold X12_takes_j94 at hE
  refine Wp.aload_n dc_X12_takes_94 rfl ?_
  refine Wp.dup dc_X12_takes_95 rfl ?_
  refine Wp.sgetI dc_X12_takes_96 fw_X12_451 (mO11 (by decide)) ?_
  refine Wp.iconst dc_X12_takes_99 ic_1 ?_
  refine Wp.iadd dc_X12_takes_100 ?_
  refine Wp.sputI dc_X12_takes_101 fw_X12_451 (mO11 (by decide)) (Nr.i _) ?_
  obtain ⟨σ101, es_101, hE⟩ := bnS hE
  rw [es_101]
  cases hE
  exact Wp.return dc_X12_takes_104 rfl (Nat.le_refl _) (Nat.le_refl _) hK
theorem ok_X12_takes_l56 {Q : Option AV → AH → Prop}  {σ : SS}  {x1 : Int32} {x2 : Int32} {o}    (hE : X12_takes_l56  σ  x1 x2 = some o) (hK : Q none (hp o)) : Ws 4 mi_X12_takes Q 56 [some (vr 11 0), some (vi x1), some (vi x2)] [] σ := by
  unfold X12_takes_l56 at hE
  obtain ⟨t56, h1, hE⟩ := bnd hE
  refine iter_ok (P := (X12_takes_P56  Q   x1)) (R := (X12_takes_R56  Q   x1)) (fun ss o h2 hS hT => ?_) NF _ _ h1 ?_
  · skip
    exact ok_X12_takes_l56c   h2 hS hT
  · intro z2
    show Ws 4 mi_X12_takes Q 79 [some (vr 11 0), some (vi x1), z2] [] t56
    refine Wp.aload_n dc_X12_takes_79 rfl ?_
    refine Wp.sgetR (t := 38) dc_X12_takes_80 fw_X12_50 (mO11 (by decide)) rfl ?_
    refine Wp.iconst dc_X12_takes_83 ic_3 ?_
    obtain ⟨j84, h84, hE⟩ := bnd hE
    refine Wp.siald dc_X12_takes_84 (mO13 (by decide)) h84 ?_
    refine Wp.iconst dc_X12_takes_85 ic_1 ?_
    refine Wp.icmp_ne (tgt := 94) dc_X12_takes_86 (by decide) (fun hc86 => ?_) (fun hc86 => ?_)
    · rw [if_neg hc86] at hE
      exact ok_X12_takes_j94   hE hK
    · rw [if_pos hc86] at hE
      refine Wp.aload_n dc_X12_takes_89 rfl ?_
      refine Wp.iload_n dc_X12_takes_90 rfl ?_
      obtain ⟨σ91, h91, hE⟩ := bnd hE
      refine Wp.cV1v (ok_X12_pulls  h91) dc_X12_takes_91 mw_X12_355 (mO11 (by decide)) (by decide) (Nat.le_of_ble_eq_true rfl) ?_
      exact ok_X12_takes_j94   hE hK
theorem ok_X12_takes_l31 {Q : Option AV → AH → Prop}  {σ : SS}  {x1 : Int32} {x2 : Int32} {o}    (hE : X12_takes_l31  σ  x1 x2 = some o) (hK : Q none (hp o)) : Ws 4 mi_X12_takes Q 31 [some (vr 11 0), some (vi x1), some (vi x2)] [] σ := by
  unfold X12_takes_l31 at hE
  obtain ⟨t31, h1, hE⟩ := bnd hE
  refine iter_ok (P := (X12_takes_P31  Q   x1)) (R := (X12_takes_R31  Q   x1)) (fun ss o h2 hS hT => ?_) NF _ _ h1 ?_
  · skip
    exact ok_X12_takes_l31c   h2 hS hT
  · intro z2
    show Ws 4 mi_X12_takes Q 54 [some (vr 11 0), some (vi x1), z2] [] t31
    refine Wp.iconst dc_X12_takes_54 ic_0 ?_
    refine Wp.istore_n dc_X12_takes_55 (by decide) ?_
    exact ok_X12_takes_l56   hE hK
theorem ok_X12_takes_l8 {Q : Option AV → AH → Prop}  {σ : SS}  {x1 : Int32} {x2 : Int32} {o}    (hE : X12_takes_l8  σ  x1 x2 = some o) (hK : Q none (hp o)) : Ws 4 mi_X12_takes Q 8 [some (vr 11 0), some (vi x1), some (vi x2)] [] σ := by
  unfold X12_takes_l8 at hE
  obtain ⟨t8, h1, hE⟩ := bnd hE
  refine iter_ok (P := (X12_takes_P8  Q   x1)) (R := (X12_takes_R8  Q   x1)) (fun ss o h2 hS hT => ?_) NF _ _ h1 ?_
  · skip
    exact ok_X12_takes_l8c   h2 hS hT
  · intro z2
    show Ws 4 mi_X12_takes Q 29 [some (vr 11 0), some (vi x1), z2] [] t8
    refine Wp.iconst dc_X12_takes_29 ic_0 ?_
    refine Wp.istore_n dc_X12_takes_30 (by decide) ?_
    exact ok_X12_takes_l31   hE hK
theorem ok_X12_takes_j0 {Q : Option AV → AH → Prop}  {σ : SS}  {x1 : Int32} {o} {z2 : Option AV}   (hE : X12_takes_j0  σ  x1 = some o) (hK : Q none (hp o)) : Ws 4 mi_X12_takes Q 0 [some (vr 11 0), some (vi x1), z2] [] σ := by
  unfold X12_takes_j0 at hE
  refine Wp.aload_n dc_X12_takes_0 rfl ?_
  refine Wp.iload_n dc_X12_takes_1 rfl ?_
  obtain ⟨p2, h2, hE⟩ := bnd hE
  refine Wp.cV1i (ok_X12_aloneOf  h2) dc_X12_takes_2 mw_X12_413 (mO11 (by decide)) (by decide) (Nat.le_of_ble_eq_true rfl) ?_
  refine Wp.pop dc_X12_takes_5 rfl ?_
  refine Wp.iconst dc_X12_takes_6 ic_0 ?_
  refine Wp.istore_n dc_X12_takes_7 (by decide) ?_
  exact ok_X12_takes_l8   hE hK
theorem ok_X12_takes  {σ : SS}  {x1 : Int32} {o}   (hE : X12_takes  σ  x1 = some o) : Runs 4 0 0 mi_X12_takes [vr 11 0, vi x1] (hp σ) (fun v h => v = none ∧ h = hp o) := by
  refine Runs.of pn_X12 (Nat.le_of_ble_eq_true rfl) ?_
  exact ok_X12_takes_j0   hE ⟨rfl, rfl⟩
def X12_does_P23 (Q : Option AV → AH → Prop)   (x3 : Int32) (ss : Int32 × SS) : Prop := ∀ z1 z2 : Option AV, Ws 5 mi_X12_does Q 23 [some (vr 11 0), z1, z2, some (vi x3), some (vi ss.1)] [] ss.2
def X12_does_R23 (Q : Option AV → AH → Prop)   (x3 : Int32) (tt : SS) : Prop := ∀ z1 z2 z4 : Option AV, Ws 5 mi_X12_does Q 48 [some (vr 11 0), z1, z2, some (vi x3), z4] [] tt
theorem ok_X12_does_l23c {Q : Option AV → AH → Prop}  {σ : SS}  {x3 : Int32} {x4 : Int32} {o} {z1 z2 : Option AV}   (hE : X12_does_l23c  σ  x3 x4 = some o) (hS : ∀ ss, o = Sum.inl ss → (X12_does_P23  Q   x3) ss) (hT : ∀ tt, o = Sum.inr tt → (X12_does_R23  Q   x3) tt) : Ws 5 mi_X12_does Q 23 [some (vr 11 0), z1, z2, some (vi x3), some (vi x4)] [] σ := by
  unfold X12_does_l23c at hE
  refine Wp.iload dc_X12_does_23 rfl ?_
  refine Wp.iload_n dc_X12_does_25 rfl ?_
  refine Wp.icmp_ge (tgt := 48) dc_X12_does_26 (by decide) (fun hc26 => ?_) (fun hc26 => ?_)
  · rw [if_pos hc26] at hE
    cases hE
    exact hT _ rfl _ _ _
  · rw [if_neg hc26] at hE
    refine Wp.aload_n dc_X12_does_29 rfl ?_
    refine Wp.dup dc_X12_does_30 rfl ?_
    refine Wp.sgetI dc_X12_does_31 fw_X12_454 (mO11 (by decide)) ?_
    refine Wp.aload_n dc_X12_does_34 rfl ?_
    obtain ⟨p35, h35, hE⟩ := bnd hE
    refine Wp.cV0i (ok_X12_opens  h35) dc_X12_does_35 mw_X12_380 (mO11 (by decide)) (by decide) (Nat.le_of_ble_eq_true rfl) ?_
    refine Wp.iadd dc_X12_does_38 ?_
    refine Wp.sputI dc_X12_does_39 fw_X12_454 (mO11 (by decide)) (Nr.i _) ?_
    obtain ⟨σ39, es_39, hE⟩ := bnS hE
    rw [es_39]
    obtain ⟨x4_42, e_42, hE⟩ := bnS hE
    refine Wp.iinc dc_X12_does_42 rfl ((ii ic_1).trans e_42) (by decide) ?_
    refine Wp.goto (tgt := 23) dc_X12_does_45 (by decide) ?_
    cases hE
    exact hS _ rfl _ _
theorem ok_X12_does_l23 {Q : Option AV → AH → Prop}  {σ : SS}  {x3 : Int32} {x4 : Int32} {o} {z1 z2 : Option AV}   (hE : X12_does_l23  σ  x3 x4 = some o) (hK : Q (some (vi o.1)) (hp o.2)) : Ws 5 mi_X12_does Q 23 [some (vr 11 0), z1, z2, some (vi x3), some (vi x4)] [] σ := by
  unfold X12_does_l23 at hE
  obtain ⟨t23, h1, hE⟩ := bnd hE
  refine iter_ok (P := (X12_does_P23  Q   x3)) (R := (X12_does_R23  Q   x3)) (fun ss o h2 hS hT => ?_) NF _ _ h1 ?_ _ _
  · intro z1 z2
    exact ok_X12_does_l23c   h2 hS hT
  · intro z1 z2 z4
    show Ws 5 mi_X12_does Q 48 [some (vr 11 0), z1, z2, some (vi x3), z4] [] t23
    refine Wp.aload_n dc_X12_does_48 rfl ?_
    refine Wp.dup dc_X12_does_49 rfl ?_
    refine Wp.sgetI dc_X12_does_50 fw_X12_457 (mO11 (by decide)) ?_
    refine Wp.iload_n dc_X12_does_53 rfl ?_
    refine Wp.iadd dc_X12_does_54 ?_
    refine Wp.sputI dc_X12_does_55 fw_X12_457 (mO11 (by decide)) (Nr.i _) ?_
    obtain ⟨σ55, es_55, hE⟩ := bnS hE
    rw [es_55]
    refine Wp.iconst dc_X12_does_58 ic_1 ?_
    cases hE
    exact Wp.ireturn dc_X12_does_59 rfl Nr.z1.1 (Nat.le_refl _) (Nat.le_refl _) hK
theorem ok_X12_does_j0 {Q : Option AV → AH → Prop}  {σ : SS}  {x1 : Int32} {o} {z2 z3 z4 : Option AV}   (hE : X12_does_j0  σ  x1 = some o) (hK : Q (some (vi o.1)) (hp o.2)) : Ws 5 mi_X12_does Q 0 [some (vr 11 0), some (vi x1), z2, z3, z4] [] σ := by
  unfold X12_does_j0 at hE
  refine Wp.aload_n dc_X12_does_0 rfl ?_
  refine Wp.sgetR (t := 34) dc_X12_does_1 fw_X12_35 (mO11 (by decide)) rfl ?_
  refine Wp.iload_n dc_X12_does_4 rfl ?_
  obtain ⟨j5, h5, hE⟩ := bnd hE
  refine Wp.siald dc_X12_does_5 (mO13 (by decide)) h5 ?_
  obtain ⟨x2_6, e_6, hE⟩ := bnS hE
  rw [e_6]
  refine Wp.istore_n dc_X12_does_6 (by decide) ?_
  refine Wp.aload_n dc_X12_does_7 rfl ?_
  refine Wp.sgetR (t := 34) dc_X12_does_8 fw_X12_35 (mO11 (by decide)) rfl ?_
  refine Wp.iload_n dc_X12_does_11 rfl ?_
  refine Wp.iconst dc_X12_does_12 ic_1 ?_
  refine Wp.iadd dc_X12_does_13 ?_
  obtain ⟨j14, h14, hE⟩ := bnd hE
  refine Wp.siald dc_X12_does_14 (mO13 (by decide)) h14 ?_
  obtain ⟨x3_15, e_15, hE⟩ := bnS hE
  rw [e_15]
  refine Wp.istore_n dc_X12_does_15 (by decide) ?_
  refine Wp.iload_n dc_X12_does_16 rfl ?_
  refine Wp.if_ne (tgt := 60) dc_X12_does_17 (by decide) (fun hc17 => ?_) (fun hc17 => ?_)
  · rw [if_neg hc17] at hE
    refine Wp.iload_n dc_X12_does_60 rfl ?_
    refine Wp.iconst dc_X12_does_61 ic_2 ?_
    refine Wp.icmp_ne (tgt := 72) dc_X12_does_62 (by decide) (fun hc62 => ?_) (fun hc62 => ?_)
    · rw [if_neg hc62] at hE
      refine Wp.aload_n dc_X12_does_72 rfl ?_
      refine Wp.iload_n dc_X12_does_73 rfl ?_
      obtain ⟨v74, h74, hE⟩ := bnd hE
      refine Wp.cV1i (ok_X12_isInside  h74) dc_X12_does_74 mw_X12_337 (mO11 (by decide)) (by decide) (Nat.le_of_ble_eq_true rfl) ?_
      refine Wp.if_ne (tgt := 82) dc_X12_does_77 (by decide) (fun hc77 => ?_) (fun hc77 => ?_)
      · rw [if_neg hc77] at hE
        refine Wp.iload_n dc_X12_does_82 rfl ?_
        refine Wp.iconst dc_X12_does_83 ic_1 ?_
        refine Wp.icmp_ne (tgt := 95) dc_X12_does_84 (by decide) (fun hc84 => ?_) (fun hc84 => ?_)
        · rw [if_neg hc84] at hE
          refine Wp.iload_n dc_X12_does_95 rfl ?_
          refine Wp.iconst dc_X12_does_96 ic_3 ?_
          refine Wp.icmp_ne (tgt := 108) dc_X12_does_97 (by decide) (fun hc97 => ?_) (fun hc97 => ?_)
          · rw [if_neg hc97] at hE
            refine Wp.iload_n dc_X12_does_108 rfl ?_
            refine Wp.iconst dc_X12_does_109 ic_4 ?_
            refine Wp.icmp_ne (tgt := 122) dc_X12_does_110 (by decide) (fun hc110 => ?_) (fun hc110 => ?_)
            · rw [if_neg hc110] at hE
              refine Wp.aload_n dc_X12_does_122 rfl ?_
              refine Wp.iload_n dc_X12_does_123 rfl ?_
              obtain ⟨p124, h124, hE⟩ := bnd hE
              refine Wp.cV1i (ok_X12_clips2  h124) dc_X12_does_124 mw_X12_361 (mO11 (by decide)) (by decide) (Nat.le_of_ble_eq_true rfl) ?_
              obtain ⟨b127, h127, hE⟩ := bnd hE
              obtain ⟨e_127, hb127⟩ := zb_some h127
              skip
              cases hE
              exact Wp.ireturn dc_X12_does_127 rfl hb127.1 (Nat.le_refl _) (Nat.le_refl _) hK
            · rw [if_pos hc110] at hE
              refine Wp.aload_n dc_X12_does_113 rfl ?_
              refine Wp.iload_n dc_X12_does_114 rfl ?_
              obtain ⟨p115, h115, hE⟩ := bnd hE
              refine Wp.cV1i (ok_X12_cuts  h115) dc_X12_does_115 mw_X12_358 (mO11 (by decide)) (by decide) (Nat.le_of_ble_eq_true rfl) ?_
              refine Wp.pop dc_X12_does_118 rfl ?_
              refine Wp.goto (tgt := 128) dc_X12_does_119 (by decide) ?_
              refine Wp.iconst dc_X12_does_128 ic_1 ?_
              cases hE
              exact Wp.ireturn dc_X12_does_129 rfl Nr.z1.1 (Nat.le_refl _) (Nat.le_refl _) hK
          · rw [if_pos hc97] at hE
            refine Wp.aload_n dc_X12_does_100 rfl ?_
            refine Wp.iload_n dc_X12_does_101 rfl ?_
            obtain ⟨σ102, h102, hE⟩ := bnd hE
            refine Wp.cV1v (ok_X12_pulls  h102) dc_X12_does_102 mw_X12_355 (mO11 (by decide)) (by decide) (Nat.le_of_ble_eq_true rfl) ?_
            refine Wp.goto (tgt := 128) dc_X12_does_105 (by decide) ?_
            refine Wp.iconst dc_X12_does_128 ic_1 ?_
            cases hE
            exact Wp.ireturn dc_X12_does_129 rfl Nr.z1.1 (Nat.le_refl _) (Nat.le_refl _) hK
        · rw [if_pos hc84] at hE
          refine Wp.aload_n dc_X12_does_87 rfl ?_
          refine Wp.iload_n dc_X12_does_88 rfl ?_
          obtain ⟨σ89, h89, hE⟩ := bnd hE
          refine Wp.cV1v (ok_X12_takes  h89) dc_X12_does_89 mw_X12_460 (mO11 (by decide)) (by decide) (Nat.le_of_ble_eq_true rfl) ?_
          refine Wp.goto (tgt := 128) dc_X12_does_92 (by decide) ?_
          refine Wp.iconst dc_X12_does_128 ic_1 ?_
          cases hE
          exact Wp.ireturn dc_X12_does_129 rfl Nr.z1.1 (Nat.le_refl _) (Nat.le_refl _) hK
      · rw [if_pos hc77] at hE
        refine Wp.iconst dc_X12_does_80 ic_0 ?_
        cases hE
        exact Wp.ireturn dc_X12_does_81 rfl Nr.z0.1 (Nat.le_refl _) (Nat.le_refl _) hK
    · rw [if_pos hc62] at hE
      refine Wp.aload_n dc_X12_does_65 rfl ?_
      obtain ⟨p66, h66, hE⟩ := bnd hE
      refine Wp.cV0i (ok_X12_loosensOnce  h66) dc_X12_does_66 mw_X12_343 (mO11 (by decide)) (by decide) (Nat.le_of_ble_eq_true rfl) ?_
      refine Wp.pop dc_X12_does_69 rfl ?_
      refine Wp.iconst dc_X12_does_70 ic_1 ?_
      cases hE
      exact Wp.ireturn dc_X12_does_71 rfl Nr.z1.1 (Nat.le_refl _) (Nat.le_refl _) hK
  · rw [if_pos hc17] at hE
    refine Wp.iconst dc_X12_does_20 ic_0 ?_
    refine Wp.istore dc_X12_does_21 (by decide) ?_
    exact ok_X12_does_l23   hE hK
theorem ok_X12_does  {σ : SS}  {x1 : Int32} {o}   (hE : X12_does  σ  x1 = some o) : Runs 5 0 0 mi_X12_does [vr 11 0, vi x1] (hp σ) (fun v h => v = some (vi o.1) ∧ h = hp o.2) := by
  refine Runs.of pn_X12 (Nat.le_of_ble_eq_true rfl) ?_
  exact ok_X12_does_j0   hE ⟨rfl, rfl⟩
theorem ok_X12_isSo_j46 {Q : Option AV → AH → Prop}  {σ : SS}  {x1 : Int32} {s0 : Int32} {o} {z2 z3 : Option AV}   (hE : X12_isSo_j46  σ  x1 s0 = some o) (hK : Q (some (vi o)) (hp σ)) : Ws 3 mi_X12_isSo Q 46 [some (vr 11 0), some (vi x1), z2, z3] [vi s0] σ := by
  unfold X12_isSo_j46 at hE
  refine Wp.istore_n dc_X12_isSo_46 (by decide) ?_
  refine Wp.aload_n dc_X12_isSo_47 rfl ?_
  refine Wp.sgetR (t := 34) dc_X12_isSo_48 fw_X12_35 (mO11 (by decide)) rfl ?_
  refine Wp.iload_n dc_X12_isSo_51 rfl ?_
  refine Wp.bipush dc_X12_isSo_52 bp_7 ?_
  refine Wp.iadd dc_X12_isSo_54 ?_
  obtain ⟨j55, h55, hE⟩ := bnd hE
  refine Wp.siald dc_X12_isSo_55 (mO13 (by decide)) h55 ?_
  refine Wp.bipush dc_X12_isSo_56 bp_60 ?_
  refine Wp.icmp_ne (tgt := 81) dc_X12_isSo_58 (by decide) (fun hc58 => ?_) (fun hc58 => ?_)
  · rw [if_neg hc58] at hE
    refine Wp.aload_n dc_X12_isSo_81 rfl ?_
    refine Wp.sgetR (t := 34) dc_X12_isSo_82 fw_X12_35 (mO11 (by decide)) rfl ?_
    refine Wp.iload_n dc_X12_isSo_85 rfl ?_
    refine Wp.bipush dc_X12_isSo_86 bp_7 ?_
    refine Wp.iadd dc_X12_isSo_88 ?_
    obtain ⟨j89, h89, hE⟩ := bnd hE
    refine Wp.siald dc_X12_isSo_89 (mO13 (by decide)) h89 ?_
    refine Wp.bipush dc_X12_isSo_90 bp_62 ?_
    refine Wp.icmp_ne (tgt := 115) dc_X12_isSo_92 (by decide) (fun hc92 => ?_) (fun hc92 => ?_)
    · rw [if_neg hc92] at hE
      refine Wp.iload_n dc_X12_isSo_115 rfl ?_
      refine Wp.aload_n dc_X12_isSo_116 rfl ?_
      refine Wp.sgetR (t := 34) dc_X12_isSo_117 fw_X12_35 (mO11 (by decide)) rfl ?_
      refine Wp.iload_n dc_X12_isSo_120 rfl ?_
      refine Wp.iconst dc_X12_isSo_121 ic_2 ?_
      refine Wp.iadd dc_X12_isSo_122 ?_
      obtain ⟨j123, h123, hE⟩ := bnd hE
      refine Wp.siald dc_X12_isSo_123 (mO13 (by decide)) h123 ?_
      refine Wp.icmp_ne (tgt := 131) dc_X12_isSo_124 (by decide) (fun hc124 => ?_) (fun hc124 => ?_)
      · rw [if_neg hc124] at hE
        refine Wp.iconst dc_X12_isSo_131 ic_0 ?_
        cases hE
        exact Wp.ireturn dc_X12_isSo_132 rfl Nr.z0.1 (Nat.le_refl _) (Nat.le_refl _) hK
      · rw [if_pos hc124] at hE
        refine Wp.iconst dc_X12_isSo_127 ic_1 ?_
        refine Wp.goto (tgt := 132) dc_X12_isSo_128 (by decide) ?_
        cases hE
        exact Wp.ireturn dc_X12_isSo_132 rfl Nr.z1.1 (Nat.le_refl _) (Nat.le_refl _) hK
    · rw [if_pos hc92] at hE
      refine Wp.iload_n dc_X12_isSo_95 rfl ?_
      refine Wp.aload_n dc_X12_isSo_96 rfl ?_
      refine Wp.sgetR (t := 34) dc_X12_isSo_97 fw_X12_35 (mO11 (by decide)) rfl ?_
      refine Wp.iload_n dc_X12_isSo_100 rfl ?_
      refine Wp.iconst dc_X12_isSo_101 ic_2 ?_
      refine Wp.iadd dc_X12_isSo_102 ?_
      obtain ⟨j103, h103, hE⟩ := bnd hE
      refine Wp.siald dc_X12_isSo_103 (mO13 (by decide)) h103 ?_
      refine Wp.icmp_le (tgt := 111) dc_X12_isSo_104 (by decide) (fun hc104 => ?_) (fun hc104 => ?_)
      · rw [if_pos hc104] at hE
        refine Wp.iconst dc_X12_isSo_111 ic_0 ?_
        refine Wp.goto (tgt := 132) dc_X12_isSo_112 (by decide) ?_
        cases hE
        exact Wp.ireturn dc_X12_isSo_132 rfl Nr.z0.1 (Nat.le_refl _) (Nat.le_refl _) hK
      · rw [if_neg hc104] at hE
        refine Wp.iconst dc_X12_isSo_107 ic_1 ?_
        refine Wp.goto (tgt := 132) dc_X12_isSo_108 (by decide) ?_
        cases hE
        exact Wp.ireturn dc_X12_isSo_132 rfl Nr.z1.1 (Nat.le_refl _) (Nat.le_refl _) hK
  · rw [if_pos hc58] at hE
    refine Wp.iload_n dc_X12_isSo_61 rfl ?_
    refine Wp.aload_n dc_X12_isSo_62 rfl ?_
    refine Wp.sgetR (t := 34) dc_X12_isSo_63 fw_X12_35 (mO11 (by decide)) rfl ?_
    refine Wp.iload_n dc_X12_isSo_66 rfl ?_
    refine Wp.iconst dc_X12_isSo_67 ic_2 ?_
    refine Wp.iadd dc_X12_isSo_68 ?_
    obtain ⟨j69, h69, hE⟩ := bnd hE
    refine Wp.siald dc_X12_isSo_69 (mO13 (by decide)) h69 ?_
    refine Wp.icmp_ge (tgt := 77) dc_X12_isSo_70 (by decide) (fun hc70 => ?_) (fun hc70 => ?_)
    · rw [if_pos hc70] at hE
      refine Wp.iconst dc_X12_isSo_77 ic_0 ?_
      refine Wp.goto (tgt := 132) dc_X12_isSo_78 (by decide) ?_
      cases hE
      exact Wp.ireturn dc_X12_isSo_132 rfl Nr.z0.1 (Nat.le_refl _) (Nat.le_refl _) hK
    · rw [if_neg hc70] at hE
      refine Wp.iconst dc_X12_isSo_73 ic_1 ?_
      refine Wp.goto (tgt := 132) dc_X12_isSo_74 (by decide) ?_
      cases hE
      exact Wp.ireturn dc_X12_isSo_132 rfl Nr.z1.1 (Nat.le_refl _) (Nat.le_refl _) hK
theorem ok_X12_isSo_j0 {Q : Option AV → AH → Prop}  {σ : SS}  {x1 : Int32} {o} {z2 z3 : Option AV}   (hE : X12_isSo_j0  σ  x1 = some o) (hK : Q (some (vi o)) (hp σ)) : Ws 3 mi_X12_isSo Q 0 [some (vr 11 0), some (vi x1), z2, z3] [] σ := by
  unfold X12_isSo_j0 at hE
  refine Wp.aload_n dc_X12_isSo_0 rfl ?_
  refine Wp.sgetR (t := 34) dc_X12_isSo_1 fw_X12_35 (mO11 (by decide)) rfl ?_
  refine Wp.iload_n dc_X12_isSo_4 rfl ?_
  refine Wp.bipush dc_X12_isSo_5 bp_6 ?_
  refine Wp.iadd dc_X12_isSo_7 ?_
  obtain ⟨j8, h8, hE⟩ := bnd hE
  refine Wp.siald dc_X12_isSo_8 (mO13 (by decide)) h8 ?_
  obtain ⟨x2_9, e_9, hE⟩ := bnS hE
  rw [e_9]
  refine Wp.istore_n dc_X12_isSo_9 (by decide) ?_
  refine Wp.iload_n dc_X12_isSo_10 rfl ?_
  refine Wp.iconst dc_X12_isSo_11 ic_2 ?_
  refine Wp.icmp_ne (tgt := 28) dc_X12_isSo_12 (by decide) (fun hc12 => ?_) (fun hc12 => ?_)
  · rw [if_neg hc12] at hE
    refine Wp.iload_n dc_X12_isSo_28 rfl ?_
    refine Wp.if_ne (tgt := 40) dc_X12_isSo_29 (by decide) (fun hc29 => ?_) (fun hc29 => ?_)
    · rw [if_neg hc29] at hE
      refine Wp.aload_n dc_X12_isSo_40 rfl ?_
      refine Wp.sgetR (t := 34) dc_X12_isSo_41 fw_X12_35 (mO11 (by decide)) rfl ?_
      refine Wp.iconst dc_X12_isSo_44 ic_1 ?_
      obtain ⟨j45, h45, hE⟩ := bnd hE
      refine Wp.siald dc_X12_isSo_45 (mO13 (by decide)) h45 ?_
      exact ok_X12_isSo_j46   hE hK
    · rw [if_pos hc29] at hE
      refine Wp.aload_n dc_X12_isSo_32 rfl ?_
      refine Wp.iconst dc_X12_isSo_33 ic_m1 ?_
      obtain ⟨v34, h34, hE⟩ := bnd hE
      refine Wp.cV1i (ok_X12_largest  h34) dc_X12_isSo_34 mw_X12_383 (mO11 (by decide)) (by decide) (Nat.le_of_ble_eq_true rfl) ?_
      refine Wp.goto (tgt := 46) dc_X12_isSo_37 (by decide) ?_
      exact ok_X12_isSo_j46   hE hK
  · rw [if_pos hc12] at hE
    refine Wp.aload_n dc_X12_isSo_15 rfl ?_
    refine Wp.aload_n dc_X12_isSo_16 rfl ?_
    refine Wp.sgetR (t := 34) dc_X12_isSo_17 fw_X12_35 (mO11 (by decide)) rfl ?_
    refine Wp.iload_n dc_X12_isSo_20 rfl ?_
    refine Wp.iconst dc_X12_isSo_21 ic_1 ?_
    refine Wp.iadd dc_X12_isSo_22 ?_
    obtain ⟨j23, h23, hE⟩ := bnd hE
    refine Wp.siald dc_X12_isSo_23 (mO13 (by decide)) h23 ?_
    obtain ⟨v24, h24, hE⟩ := bnd hE
    refine Wp.cV1i (ok_X12_isFree  h24) dc_X12_isSo_24 mw_X12_386 (mO11 (by decide)) (by decide) (Nat.le_of_ble_eq_true rfl) ?_
    obtain ⟨b27, h27, hE⟩ := bnd hE
    obtain ⟨e_27, hb27⟩ := zb_some h27
    skip
    cases hE
    exact Wp.ireturn dc_X12_isSo_27 rfl hb27.1 (Nat.le_refl _) (Nat.le_refl _) hK
theorem ok_X12_isSo  {σ : SS}  {x1 : Int32} {o}   (hE : X12_isSo  σ  x1 = some o) : Runs 3 0 0 mi_X12_isSo [vr 11 0, vi x1] (hp σ) (fun v h => v = some (vi o) ∧ h = hp σ) := by
  refine Runs.of pn_X12 (Nat.le_of_ble_eq_true rfl) ?_
  exact ok_X12_isSo_j0   hE ⟨rfl, rfl⟩
def X12_doAll_P2 (d : Nat) (Q : Option AV → AH → Prop)   (x2 : Int32) (ss : Int32 × SS) : Prop := ∀ z1 : Option AV, Ws d mi_X12_doAll Q 2 [some (vr 11 0), z1, some (vi x2), some (vi ss.1)] [] ss.2
def X12_doAll_R2 (d : Nat) (Q : Option AV → AH → Prop)   (x2 : Int32) (tt : SS) : Prop := ∀ z0 z1 z2 z3 : Option AV, Ws d mi_X12_doAll Q 39 [z0, z1, z2, z3] [] tt
theorem ok_X12_doAll_l2c {Q : Option AV → AH → Prop} {rec_X12_doOne : SS → Int32 → Option SS} {d dr : Nat} {σ : SS}  {x2 : Int32} {x3 : Int32} {o} {z1 : Option AV} (hrec_X12_doOne : ∀ σ a0 o, rec_X12_doOne σ a0 = some o → Runs dr 0 0 mi_X12_doOne [vr 11 0, vi a0] (hp σ) (fun v h => v = none ∧ h = hp o)) (hdr : dr + 1 ≤ d) (hd40 : 40 ≤ d)  (hE : X12_doAll_l2c rec_X12_doOne σ  x2 x3 = some o) (hS : ∀ ss, o = Sum.inl ss → (X12_doAll_P2 d Q   x2) ss) (hT : ∀ tt, o = Sum.inr tt → (X12_doAll_R2 d Q   x2) tt) : Ws d mi_X12_doAll Q 2 [some (vr 11 0), z1, some (vi x2), some (vi x3)] [] σ := by
  unfold X12_doAll_l2c at hE
  refine Wp.iload_n dc_X12_doAll_2 rfl ?_
  refine Wp.iload_n dc_X12_doAll_3 rfl ?_
  refine Wp.icmp_ge (tgt := 39) dc_X12_doAll_4 (by decide) (fun hc4 => ?_) (fun hc4 => ?_)
  · rw [if_pos hc4] at hE
    cases hE
    exact hT _ rfl _ _ _ _
  · rw [if_neg hc4] at hE
    refine Wp.aload_n dc_X12_doAll_7 rfl ?_
    refine Wp.sgetI dc_X12_doAll_8 fw_X12_466 (mO11 (by decide)) ?_
    refine Wp.if_ne (tgt := 39) dc_X12_doAll_11 (by decide) (fun hc11 => ?_) (fun hc11 => ?_)
    · rw [if_neg hc11] at hE
      cases hE
      exact hT _ rfl _ _ _ _
    · rw [if_pos hc11] at hE
      refine Wp.aload_n dc_X12_doAll_14 rfl ?_
      refine Wp.iload_n dc_X12_doAll_15 rfl ?_
      obtain ⟨σ16, h16, hE⟩ := bnd hE
      refine Wp.cV1v (hrec_X12_doOne _ _ _ h16) dc_X12_doAll_16 mw_X12_484 (mO11 (by decide)) (by omega) (Nat.le_of_ble_eq_true rfl) ?_
      refine Wp.aload_n dc_X12_doAll_19 rfl ?_
      refine Wp.sgetR (t := 34) dc_X12_doAll_20 fw_X12_35 (mO11 (by decide)) rfl ?_
      refine Wp.sipush dc_X12_doAll_23 sp_134 ?_
      refine Wp.bipush dc_X12_doAll_26 bp_9 ?_
      refine Wp.iload_n dc_X12_doAll_28 rfl ?_
      refine Wp.imul dc_X12_doAll_29 ?_
      refine Wp.iadd dc_X12_doAll_30 ?_
      refine Wp.bipush dc_X12_doAll_31 bp_8 ?_
      refine Wp.iadd dc_X12_doAll_33 ?_
      obtain ⟨j34, h34, hE⟩ := bnd hE
      refine Wp.siald dc_X12_doAll_34 (mO13 (by decide)) h34 ?_
      obtain ⟨x3_35, e_35, hE⟩ := bnS hE
      rw [e_35]
      refine Wp.istore_n dc_X12_doAll_35 (by decide) ?_
      refine Wp.goto (tgt := 2) dc_X12_doAll_36 (by decide) ?_
      cases hE
      exact hS _ rfl _
theorem ok_X12_doAll_l2 {Q : Option AV → AH → Prop} {rec_X12_doOne : SS → Int32 → Option SS} {d dr : Nat} {σ : SS}  {x2 : Int32} {x3 : Int32} {o} {z1 : Option AV} (hrec_X12_doOne : ∀ σ a0 o, rec_X12_doOne σ a0 = some o → Runs dr 0 0 mi_X12_doOne [vr 11 0, vi a0] (hp σ) (fun v h => v = none ∧ h = hp o)) (hdr : dr + 1 ≤ d) (hd40 : 40 ≤ d)  (hE : X12_doAll_l2 rec_X12_doOne σ  x2 x3 = some o) (hK : Q none (hp o)) : Ws d mi_X12_doAll Q 2 [some (vr 11 0), z1, some (vi x2), some (vi x3)] [] σ := by
  unfold X12_doAll_l2 at hE
  obtain ⟨t2, h1, hE⟩ := bnd hE
  refine iter_ok (P := (X12_doAll_P2 d Q   x2)) (R := (X12_doAll_R2 d Q   x2)) (fun ss o h2 hS hT => ?_) NF _ _ h1 ?_ _
  · intro z1
    exact ok_X12_doAll_l2c hrec_X12_doOne hdr hd40  h2 hS hT
  · intro z0 z1 z2 z3
    show Ws d mi_X12_doAll Q 39 [z0, z1, z2, z3] [] t2
    cases hE
    exact Wp.return dc_X12_doAll_39 rfl (Nat.le_refl _) (Nat.le_refl _) hK
theorem ok_X12_doAll_j0 {Q : Option AV → AH → Prop} {rec_X12_doOne : SS → Int32 → Option SS} {d dr : Nat} {σ : SS}  {x1 : Int32} {x2 : Int32} {o} {z3 : Option AV} (hrec_X12_doOne : ∀ σ a0 o, rec_X12_doOne σ a0 = some o → Runs dr 0 0 mi_X12_doOne [vr 11 0, vi a0] (hp σ) (fun v h => v = none ∧ h = hp o)) (hdr : dr + 1 ≤ d) (hd40 : 40 ≤ d)  (hE : X12_doAll_j0 rec_X12_doOne σ  x1 x2 = some o) (hK : Q none (hp o)) : Ws d mi_X12_doAll Q 0 [some (vr 11 0), some (vi x1), some (vi x2), z3] [] σ := by
  unfold X12_doAll_j0 at hE
  refine Wp.iload_n dc_X12_doAll_0 rfl ?_
  refine Wp.istore_n dc_X12_doAll_1 (by decide) ?_
  exact ok_X12_doAll_l2 hrec_X12_doOne hdr hd40  hE hK
theorem ok_X12_doAll {rec_X12_doOne : SS → Int32 → Option SS} {d dr : Nat} {σ : SS}  {x1 : Int32} {x2 : Int32} {o} (hrec_X12_doOne : ∀ σ a0 o, rec_X12_doOne σ a0 = some o → Runs dr 0 0 mi_X12_doOne [vr 11 0, vi a0] (hp σ) (fun v h => v = none ∧ h = hp o)) (hdr : dr + 1 ≤ d) (hd40 : 40 ≤ d)  (hE : X12_doAll rec_X12_doOne σ  x1 x2 = some o) : Runs d 0 0 mi_X12_doAll [vr 11 0, vi x1, vi x2] (hp σ) (fun v h => v = none ∧ h = hp o) := by
  refine Runs.of pn_X12 (Nat.le_of_ble_eq_true rfl) ?_
  exact ok_X12_doAll_j0 hrec_X12_doOne hdr hd40  hE ⟨rfl, rfl⟩
def X12_doOne_P120 (d : Nat) (Q : Option AV → AH → Prop)   (x1 : Int32) (x2 : Int32) (ss : Int32 × SS) : Prop := ∀ z3 : Option AV, Ws d mi_X12_doOne Q 120 [some (vr 11 0), some (vi x1), some (vi x2), z3, some (vi ss.1)] [] ss.2
def X12_doOne_R120 (d : Nat) (Q : Option AV → AH → Prop)   (x1 : Int32) (x2 : Int32) (tt : SS) : Prop := ∀ z0 z1 z2 z3 z4 : Option AV, Ws d mi_X12_doOne Q 162 [z0, z1, z2, z3, z4] [] tt
theorem ok_X12_doOne_l120c {Q : Option AV → AH → Prop} {rec_X12_doAll : SS → Int32 → Int32 → Option SS} {d dr : Nat} {σ : SS}  {x1 : Int32} {x2 : Int32} {x4 : Int32} {o} {z3 : Option AV} (hrec_X12_doAll : ∀ σ a0 a1 o, rec_X12_doAll σ a0 a1 = some o → Runs dr 0 0 mi_X12_doAll [vr 11 0, vi a0, vi a1] (hp σ) (fun v h => v = none ∧ h = hp o)) (hdr : dr + 1 ≤ d) (hd40 : 40 ≤ d)  (hE : X12_doOne_l120c rec_X12_doAll σ  x1 x2 x4 = some o) (hS : ∀ ss, o = Sum.inl ss → (X12_doOne_P120 d Q   x1 x2) ss) (hT : ∀ tt, o = Sum.inr tt → (X12_doOne_R120 d Q   x1 x2) tt) : Ws d mi_X12_doOne Q 120 [some (vr 11 0), some (vi x1), some (vi x2), z3, some (vi x4)] [] σ := by
  unfold X12_doOne_l120c at hE
  refine Wp.iload dc_X12_doOne_120 rfl ?_
  refine Wp.aload_n dc_X12_doOne_122 rfl ?_
  refine Wp.sgetR (t := 34) dc_X12_doOne_123 fw_X12_35 (mO11 (by decide)) rfl ?_
  refine Wp.iload_n dc_X12_doOne_126 rfl ?_
  refine Wp.iconst dc_X12_doOne_127 ic_1 ?_
  refine Wp.iadd dc_X12_doOne_128 ?_
  obtain ⟨j129, h129, hE⟩ := bnd hE
  refine Wp.siald dc_X12_doOne_129 (mO13 (by decide)) h129 ?_
  refine Wp.icmp_ge (tgt := 162) dc_X12_doOne_130 (by decide) (fun hc130 => ?_) (fun hc130 => ?_)
  · rw [if_pos hc130] at hE
    cases hE
    exact hT _ rfl _ _ _ _ _
  · rw [if_neg hc130] at hE
    refine Wp.aload_n dc_X12_doOne_133 rfl ?_
    refine Wp.sgetI dc_X12_doOne_134 fw_X12_466 (mO11 (by decide)) ?_
    refine Wp.if_ne (tgt := 162) dc_X12_doOne_137 (by decide) (fun hc137 => ?_) (fun hc137 => ?_)
    · rw [if_neg hc137] at hE
      cases hE
      exact hT _ rfl _ _ _ _ _
    · rw [if_pos hc137] at hE
      refine Wp.aload_n dc_X12_doOne_140 rfl ?_
      refine Wp.iload_n dc_X12_doOne_141 rfl ?_
      refine Wp.iconst dc_X12_doOne_142 ic_1 ?_
      refine Wp.iadd dc_X12_doOne_143 ?_
      refine Wp.aload_n dc_X12_doOne_144 rfl ?_
      refine Wp.sgetR (t := 34) dc_X12_doOne_145 fw_X12_35 (mO11 (by decide)) rfl ?_
      refine Wp.iload_n dc_X12_doOne_148 rfl ?_
      refine Wp.bipush dc_X12_doOne_149 bp_8 ?_
      refine Wp.iadd dc_X12_doOne_151 ?_
      obtain ⟨j152, h152, hE⟩ := bnd hE
      refine Wp.siald dc_X12_doOne_152 (mO13 (by decide)) h152 ?_
      obtain ⟨σ153, h153, hE⟩ := bnd hE
      refine Wp.cV2v (hrec_X12_doAll _ _ _ _ h153) dc_X12_doOne_153 mw_X12_481 (mO11 (by decide)) (by omega) (Nat.le_of_ble_eq_true rfl) ?_
      obtain ⟨x4_156, e_156, hE⟩ := bnS hE
      refine Wp.iinc dc_X12_doOne_156 rfl ((ii ic_1).trans e_156) (by decide) ?_
      refine Wp.goto (tgt := 120) dc_X12_doOne_159 (by decide) ?_
      cases hE
      exact hS _ rfl _
theorem ok_X12_doOne_j162 {Q : Option AV → AH → Prop} {rec_X12_doAll : SS → Int32 → Int32 → Option SS} {d dr : Nat} {σ : SS}   {o} {z0 z1 z2 z3 z4 : Option AV} (hrec_X12_doAll : ∀ σ a0 a1 o, rec_X12_doAll σ a0 a1 = some o → Runs dr 0 0 mi_X12_doAll [vr 11 0, vi a0, vi a1] (hp σ) (fun v h => v = none ∧ h = hp o)) (hdr : dr + 1 ≤ d) (hd40 : 40 ≤ d)  (hE : X12_doOne_j162 rec_X12_doAll σ   = some o) (hK : Q none (hp o)) : Ws d mi_X12_doOne Q 162 [z0, z1, z2, z3, z4] [] σ := by
  unfold X12_doOne_j162 at hE
  refine Wp.goto (tgt := 176) dc_X12_doOne_162 (by decide) ?_
  cases hE
  exact Wp.return dc_X12_doOne_176 rfl (Nat.le_refl _) (Nat.le_refl _) hK
theorem ok_X12_doOne_l120 {Q : Option AV → AH → Prop} {rec_X12_doAll : SS → Int32 → Int32 → Option SS} {d dr : Nat} {σ : SS}  {x1 : Int32} {x2 : Int32} {x4 : Int32} {o} {z3 : Option AV} (hrec_X12_doAll : ∀ σ a0 a1 o, rec_X12_doAll σ a0 a1 = some o → Runs dr 0 0 mi_X12_doAll [vr 11 0, vi a0, vi a1] (hp σ) (fun v h => v = none ∧ h = hp o)) (hdr : dr + 1 ≤ d) (hd40 : 40 ≤ d)  (hE : X12_doOne_l120 rec_X12_doAll σ  x1 x2 x4 = some o) (hK : Q none (hp o)) : Ws d mi_X12_doOne Q 120 [some (vr 11 0), some (vi x1), some (vi x2), z3, some (vi x4)] [] σ := by
  unfold X12_doOne_l120 at hE
  obtain ⟨t120, h1, hE⟩ := bnd hE
  refine iter_ok (P := (X12_doOne_P120 d Q   x1 x2)) (R := (X12_doOne_R120 d Q   x1 x2)) (fun ss o h2 hS hT => ?_) NF _ _ h1 ?_ _
  · intro z3
    exact ok_X12_doOne_l120c hrec_X12_doAll hdr hd40  h2 hS hT
  · intro z0 z1 z2 z3 z4
    show Ws d mi_X12_doOne Q 162 [z0, z1, z2, z3, z4] [] t120
    exact ok_X12_doOne_j162 hrec_X12_doAll hdr hd40  hE hK
theorem ok_X12_doOne_j111 {Q : Option AV → AH → Prop} {rec_X12_doAll : SS → Int32 → Int32 → Option SS} {d dr : Nat} {σ : SS}  {x1 : Int32} {x2 : Int32} {x3 : Int32} {o} {z4 : Option AV} (hrec_X12_doAll : ∀ σ a0 a1 o, rec_X12_doAll σ a0 a1 = some o → Runs dr 0 0 mi_X12_doAll [vr 11 0, vi a0, vi a1] (hp σ) (fun v h => v = none ∧ h = hp o)) (hdr : dr + 1 ≤ d) (hd40 : 40 ≤ d)  (hE : X12_doOne_j111 rec_X12_doAll σ  x1 x2 x3 = some o) (hK : Q none (hp o)) : Ws d mi_X12_doOne Q 111 [some (vr 11 0), some (vi x1), some (vi x2), some (vi x3), z4] [] σ := by
  unfold X12_doOne_j111 at hE
  refine Wp.iload_n dc_X12_doOne_111 rfl ?_
  refine Wp.bipush dc_X12_doOne_112 bp_7 ?_
  refine Wp.icmp_ne (tgt := 165) dc_X12_doOne_114 (by decide) (fun hc114 => ?_) (fun hc114 => ?_)
  · rw [if_neg hc114] at hE
    refine Wp.iload_n dc_X12_doOne_165 rfl ?_
    refine Wp.bipush dc_X12_doOne_166 bp_7 ?_
    refine Wp.icmp_le (tgt := 176) dc_X12_doOne_168 (by decide) (fun hc168 => ?_) (fun hc168 => ?_)
    · rw [if_pos hc168] at hE
      cases hE
      exact Wp.return dc_X12_doOne_176 rfl (Nat.le_refl _) (Nat.le_refl _) hK
    · rw [if_neg hc168] at hE
      refine Wp.aload_n dc_X12_doOne_171 rfl ?_
      refine Wp.iconst dc_X12_doOne_172 ic_1 ?_
      refine Wp.sputI dc_X12_doOne_173 fw_X12_466 (mO11 (by decide)) Nr.z1 ?_
      obtain ⟨σ173, es_173, hE⟩ := bnS hE
      rw [es_173]
      cases hE
      exact Wp.return dc_X12_doOne_176 rfl (Nat.le_refl _) (Nat.le_refl _) hK
  · rw [if_pos hc114] at hE
    refine Wp.iconst dc_X12_doOne_117 ic_0 ?_
    refine Wp.istore dc_X12_doOne_118 (by decide) ?_
    exact ok_X12_doOne_l120 hrec_X12_doAll hdr hd40  hE hK
theorem ok_X12_doOne_j71 {Q : Option AV → AH → Prop} {rec_X12_doAll : SS → Int32 → Int32 → Option SS} {d dr : Nat} {σ : SS}  {s1 : Int32} {s2 : Int32} {o} {z0 z1 z2 z3 z4 : Option AV} (hrec_X12_doAll : ∀ σ a0 a1 o, rec_X12_doAll σ a0 a1 = some o → Runs dr 0 0 mi_X12_doAll [vr 11 0, vi a0, vi a1] (hp σ) (fun v h => v = none ∧ h = hp o)) (hdr : dr + 1 ≤ d) (hd40 : 40 ≤ d)  (hE : X12_doOne_j71 rec_X12_doAll σ  s1 s2 = some o) (hK : Q none (hp o)) : Ws d mi_X12_doOne Q 71 [z0, z1, z2, z3, z4] [vi s2, vi s1, vr 11 0] σ := by
  unfold X12_doOne_j71 at hE
  refine Wp.iadd dc_X12_doOne_71 ?_
  refine Wp.sputI dc_X12_doOne_72 fw_X12_472 (mO11 (by decide)) (Nr.i _) ?_
  obtain ⟨σ72, es_72, hE⟩ := bnS hE
  rw [es_72]
  refine Wp.goto (tgt := 176) dc_X12_doOne_75 (by decide) ?_
  cases hE
  exact Wp.return dc_X12_doOne_176 rfl (Nat.le_refl _) (Nat.le_refl _) hK
theorem ok_X12_doOne_j0 {Q : Option AV → AH → Prop} {rec_X12_doAll : SS → Int32 → Int32 → Option SS} {d dr : Nat} {σ : SS}  {x1 : Int32} {o} {z2 z3 z4 : Option AV} (hrec_X12_doAll : ∀ σ a0 a1 o, rec_X12_doAll σ a0 a1 = some o → Runs dr 0 0 mi_X12_doAll [vr 11 0, vi a0, vi a1] (hp σ) (fun v h => v = none ∧ h = hp o)) (hdr : dr + 1 ≤ d) (hd40 : 40 ≤ d)  (hE : X12_doOne_j0 rec_X12_doAll σ  x1 = some o) (hK : Q none (hp o)) : Ws d mi_X12_doOne Q 0 [some (vr 11 0), some (vi x1), z2, z3, z4] [] σ := by
  unfold X12_doOne_j0 at hE
  refine Wp.aload_n dc_X12_doOne_0 rfl ?_
  refine Wp.sgetI dc_X12_doOne_1 fw_X12_463 (mO11 (by decide)) ?_
  refine Wp.sipush dc_X12_doOne_4 sp_300 ?_
  refine Wp.icmp_ne (tgt := 21) dc_X12_doOne_7 (by decide) (fun hc7 => ?_) (fun hc7 => ?_)
  · rw [if_neg hc7] at hE
    refine Wp.aload_n dc_X12_doOne_21 rfl ?_
    refine Wp.dup dc_X12_doOne_22 rfl ?_
    refine Wp.sgetI dc_X12_doOne_23 fw_X12_463 (mO11 (by decide)) ?_
    refine Wp.iconst dc_X12_doOne_26 ic_1 ?_
    refine Wp.iadd dc_X12_doOne_27 ?_
    refine Wp.sputI dc_X12_doOne_28 fw_X12_463 (mO11 (by decide)) (Nr.i _) ?_
    obtain ⟨σ28, es_28, hE⟩ := bnS hE
    rw [es_28]
    refine Wp.sipush dc_X12_doOne_31 sp_134 ?_
    refine Wp.bipush dc_X12_doOne_34 bp_9 ?_
    refine Wp.iload_n dc_X12_doOne_36 rfl ?_
    refine Wp.imul dc_X12_doOne_37 ?_
    refine Wp.iadd dc_X12_doOne_38 ?_
    obtain ⟨x2_39, e_39, hE⟩ := bnS hE
    rw [e_39]
    refine Wp.istore_n dc_X12_doOne_39 (by decide) ?_
    refine Wp.aload_n dc_X12_doOne_40 rfl ?_
    refine Wp.sgetR (t := 34) dc_X12_doOne_41 fw_X12_35 (mO11 (by decide)) rfl ?_
    refine Wp.iload_n dc_X12_doOne_44 rfl ?_
    obtain ⟨j45, h45, hE⟩ := bnd hE
    refine Wp.siald dc_X12_doOne_45 (mO13 (by decide)) h45 ?_
    obtain ⟨x3_46, e_46, hE⟩ := bnS hE
    rw [e_46]
    refine Wp.istore_n dc_X12_doOne_46 (by decide) ?_
    refine Wp.iload_n dc_X12_doOne_47 rfl ?_
    refine Wp.bipush dc_X12_doOne_48 bp_6 ?_
    refine Wp.icmp_ge (tgt := 78) dc_X12_doOne_50 (by decide) (fun hc50 => ?_) (fun hc50 => ?_)
    · rw [if_pos hc50] at hE
      refine Wp.iload_n dc_X12_doOne_78 rfl ?_
      refine Wp.bipush dc_X12_doOne_79 bp_6 ?_
      refine Wp.icmp_ne (tgt := 111) dc_X12_doOne_81 (by decide) (fun hc81 => ?_) (fun hc81 => ?_)
      · rw [if_neg hc81] at hE
        exact ok_X12_doOne_j111 hrec_X12_doAll hdr hd40  hE hK
      · rw [if_pos hc81] at hE
        refine Wp.aload_n dc_X12_doOne_84 rfl ?_
        refine Wp.iload_n dc_X12_doOne_85 rfl ?_
        obtain ⟨v86, h86, hE⟩ := bnd hE
        refine Wp.cV1i (ok_X12_isSo  h86) dc_X12_doOne_86 mw_X12_478 (mO11 (by decide)) (by omega) (Nat.le_of_ble_eq_true rfl) ?_
        refine Wp.if_eq (tgt := 111) dc_X12_doOne_89 (by decide) (fun hc89 => ?_) (fun hc89 => ?_)
        · rw [if_pos hc89] at hE
          exact ok_X12_doOne_j111 hrec_X12_doAll hdr hd40  hE hK
        · rw [if_neg hc89] at hE
          refine Wp.aload_n dc_X12_doOne_92 rfl ?_
          refine Wp.iload_n dc_X12_doOne_93 rfl ?_
          refine Wp.iconst dc_X12_doOne_94 ic_1 ?_
          refine Wp.iadd dc_X12_doOne_95 ?_
          refine Wp.aload_n dc_X12_doOne_96 rfl ?_
          refine Wp.sgetR (t := 34) dc_X12_doOne_97 fw_X12_35 (mO11 (by decide)) rfl ?_
          refine Wp.iload_n dc_X12_doOne_100 rfl ?_
          refine Wp.bipush dc_X12_doOne_101 bp_8 ?_
          refine Wp.iadd dc_X12_doOne_103 ?_
          obtain ⟨j104, h104, hE⟩ := bnd hE
          refine Wp.siald dc_X12_doOne_104 (mO13 (by decide)) h104 ?_
          obtain ⟨σ105, h105, hE⟩ := bnd hE
          refine Wp.cV2v (hrec_X12_doAll _ _ _ _ h105) dc_X12_doOne_105 mw_X12_481 (mO11 (by decide)) (by omega) (Nat.le_of_ble_eq_true rfl) ?_
          refine Wp.goto (tgt := 176) dc_X12_doOne_108 (by decide) ?_
          cases hE
          exact Wp.return dc_X12_doOne_176 rfl (Nat.le_refl _) (Nat.le_refl _) hK
    · rw [if_neg hc50] at hE
      refine Wp.aload_n dc_X12_doOne_53 rfl ?_
      refine Wp.dup dc_X12_doOne_54 rfl ?_
      refine Wp.sgetI dc_X12_doOne_55 fw_X12_472 (mO11 (by decide)) ?_
      refine Wp.aload_n dc_X12_doOne_58 rfl ?_
      refine Wp.iload_n dc_X12_doOne_59 rfl ?_
      obtain ⟨p60, h60, hE⟩ := bnd hE
      refine Wp.cV1i (ok_X12_does  h60) dc_X12_doOne_60 mw_X12_475 (mO11 (by decide)) (by omega) (Nat.le_of_ble_eq_true rfl) ?_
      refine Wp.if_eq (tgt := 70) dc_X12_doOne_63 (by decide) (fun hc63 => ?_) (fun hc63 => ?_)
      · rw [if_pos hc63] at hE
        refine Wp.iconst dc_X12_doOne_70 ic_1 ?_
        exact ok_X12_doOne_j71 hrec_X12_doAll hdr hd40  hE hK
      · rw [if_neg hc63] at hE
        refine Wp.iconst dc_X12_doOne_66 ic_0 ?_
        refine Wp.goto (tgt := 71) dc_X12_doOne_67 (by decide) ?_
        exact ok_X12_doOne_j71 hrec_X12_doAll hdr hd40  hE hK
  · rw [if_pos hc7] at hE
    refine Wp.aload_n dc_X12_doOne_10 rfl ?_
    refine Wp.iconst dc_X12_doOne_11 ic_1 ?_
    refine Wp.sputI dc_X12_doOne_12 fw_X12_466 (mO11 (by decide)) Nr.z1 ?_
    obtain ⟨σ12, es_12, hE⟩ := bnS hE
    rw [es_12]
    refine Wp.aload_n dc_X12_doOne_15 rfl ?_
    refine Wp.iconst dc_X12_doOne_16 ic_1 ?_
    refine Wp.sputI dc_X12_doOne_17 fw_X12_469 (mO11 (by decide)) (Nr.i _) ?_
    obtain ⟨σ17, es_17, hE⟩ := bnS hE
    rw [es_17]
    cases hE
    exact Wp.return dc_X12_doOne_20 rfl (Nat.le_refl _) (Nat.le_refl _) hK
theorem ok_X12_doOne {rec_X12_doAll : SS → Int32 → Int32 → Option SS} {d dr : Nat} {σ : SS}  {x1 : Int32} {o} (hrec_X12_doAll : ∀ σ a0 a1 o, rec_X12_doAll σ a0 a1 = some o → Runs dr 0 0 mi_X12_doAll [vr 11 0, vi a0, vi a1] (hp σ) (fun v h => v = none ∧ h = hp o)) (hdr : dr + 1 ≤ d) (hd40 : 40 ≤ d)  (hE : X12_doOne rec_X12_doAll σ  x1 = some o) : Runs d 0 0 mi_X12_doOne [vr 11 0, vi x1] (hp σ) (fun v h => v = none ∧ h = hp o) := by
  refine Runs.of pn_X12 (Nat.le_of_ble_eq_true rfl) ?_
  exact ok_X12_doOne_j0 hrec_X12_doAll hdr hd40  hE ⟨rfl, rfl⟩
theorem ok_X12_doAllN : ∀ (n : Nat) {σ : SS} {x1 x2 : Int32} {o : SS}, X12_doAllN n σ x1 x2 = some o → Runs (40 + 2 * n) 0 0 mi_X12_doAll [vr 11 0, vi x1, vi x2] (hp σ) (fun v h => v = none ∧ h = hp o) := by
  intro n
  induction n with
  | zero => intro σ x1 x2 o h; cases h
  | succ n ih =>
    intro σ x1 x2 o h
    refine ok_X12_doAll (dr := 40 + 2 * n + 1) (fun σ a o z => ?_) (by omega) (by omega) h
    exact ok_X12_doOne (dr := 40 + 2 * n) (fun σ a b o z => ih z) (by omega) (by omega) z
theorem ok_X12_runs_j0 {Q : Option AV → AH → Prop}  {σ : SS}  {x1 : Int32} {o}    (hE : X12_runs_j0  σ  x1 = some o) (hK : Q none (hp o)) : Ws 52 mi_X12_runs Q 0 [some (vr 11 0), some (vi x1)] [] σ := by
  unfold X12_runs_j0 at hE
  refine Wp.aload_n dc_X12_runs_0 rfl ?_
  refine Wp.iload_n dc_X12_runs_1 rfl ?_
  refine Wp.sputI dc_X12_runs_2 fw_X12_371 (mO11 (by decide)) (Nr.i _) ?_
  obtain ⟨σ2, es_2, hE⟩ := bnS hE
  rw [es_2]
  refine Wp.aload_n dc_X12_runs_5 rfl ?_
  refine Wp.iconst dc_X12_runs_6 ic_0 ?_
  refine Wp.sputI dc_X12_runs_7 fw_X12_463 (mO11 (by decide)) (Nr.i _) ?_
  obtain ⟨σ7, es_7, hE⟩ := bnS hE
  rw [es_7]
  refine Wp.aload_n dc_X12_runs_10 rfl ?_
  refine Wp.iconst dc_X12_runs_11 ic_0 ?_
  refine Wp.sputI dc_X12_runs_12 fw_X12_472 (mO11 (by decide)) (Nr.i _) ?_
  obtain ⟨σ12, es_12, hE⟩ := bnS hE
  rw [es_12]
  refine Wp.aload_n dc_X12_runs_15 rfl ?_
  refine Wp.iconst dc_X12_runs_16 ic_0 ?_
  refine Wp.sputI dc_X12_runs_17 fw_X12_457 (mO11 (by decide)) (Nr.i _) ?_
  obtain ⟨σ17, es_17, hE⟩ := bnS hE
  rw [es_17]
  refine Wp.aload_n dc_X12_runs_20 rfl ?_
  refine Wp.iconst dc_X12_runs_21 ic_0 ?_
  refine Wp.sputI dc_X12_runs_22 fw_X12_454 (mO11 (by decide)) (Nr.i _) ?_
  obtain ⟨σ22, es_22, hE⟩ := bnS hE
  rw [es_22]
  refine Wp.aload_n dc_X12_runs_25 rfl ?_
  refine Wp.iconst dc_X12_runs_26 ic_0 ?_
  refine Wp.sputI dc_X12_runs_27 fw_X12_451 (mO11 (by decide)) (Nr.i _) ?_
  obtain ⟨σ27, es_27, hE⟩ := bnS hE
  rw [es_27]
  refine Wp.aload_n dc_X12_runs_30 rfl ?_
  refine Wp.iconst dc_X12_runs_31 ic_0 ?_
  refine Wp.sputI dc_X12_runs_32 fw_X12_469 (mO11 (by decide)) (Nr.i _) ?_
  obtain ⟨σ32, es_32, hE⟩ := bnS hE
  rw [es_32]
  refine Wp.aload_n dc_X12_runs_35 rfl ?_
  refine Wp.iconst dc_X12_runs_36 ic_0 ?_
  refine Wp.sputI dc_X12_runs_37 fw_X12_466 (mO11 (by decide)) Nr.z0 ?_
  obtain ⟨σ37, es_37, hE⟩ := bnS hE
  rw [es_37]
  refine Wp.aload_n dc_X12_runs_40 rfl ?_
  refine Wp.iconst dc_X12_runs_41 ic_0 ?_
  refine Wp.aload_n dc_X12_runs_42 rfl ?_
  refine Wp.sgetR (t := 34) dc_X12_runs_43 fw_X12_35 (mO11 (by decide)) rfl ?_
  refine Wp.sipush dc_X12_runs_46 sp_133 ?_
  obtain ⟨j49, h49, hE⟩ := bnd hE
  refine Wp.siald dc_X12_runs_49 (mO13 (by decide)) h49 ?_
  obtain ⟨σ50, h50, hE⟩ := bnd hE
  refine Wp.cV2v (ok_X12_doAllN 5 h50) dc_X12_runs_50 mw_X12_481 (mO11 (by decide)) (by decide) (Nat.le_of_ble_eq_true rfl) ?_
  cases hE
  exact Wp.return dc_X12_runs_53 rfl (Nat.le_refl _) (Nat.le_refl _) hK
theorem ok_X12_runs  {σ : SS}  {x1 : Int32} {o}   (hE : X12_runs  σ  x1 = some o) : Runs 52 0 0 mi_X12_runs [vr 11 0, vi x1] (hp σ) (fun v h => v = none ∧ h = hp o) := by
  refine Runs.of pn_X12 (Nat.le_of_ble_eq_true rfl) ?_
  exact ok_X12_runs_j0   hE ⟨rfl, rfl⟩
theorem ok_X12_live_j0 {Q : Option AV → AH → Prop}  {σ : SS}  {x1 : Int32} {o}    (hE : X12_live_j0  σ  x1 = some o) (hK : Q (some (vi o.1)) (hp o.2)) : Ws 53 mi_X12_live Q 0 [some (vr 11 0), some (vi x1)] [] σ := by
  unfold X12_live_j0 at hE
  refine Wp.aload_n dc_X12_live_0 rfl ?_
  refine Wp.iconst dc_X12_live_1 ic_0 ?_
  refine Wp.sputI dc_X12_live_2 fw_X12_77 (mO11 (by decide)) (Nr.i _) ?_
  obtain ⟨σ2, es_2, hE⟩ := bnS hE
  rw [es_2]
  refine Wp.aload_n dc_X12_live_5 rfl ?_
  refine Wp.iconst dc_X12_live_6 ic_0 ?_
  refine Wp.sputI dc_X12_live_7 fw_X12_80 (mO11 (by decide)) (Nr.i _) ?_
  obtain ⟨σ7, es_7, hE⟩ := bnS hE
  rw [es_7]
  refine Wp.iload_n dc_X12_live_10 rfl ?_
  refine Wp.i2l dc_X12_live_11 ?_
  refine Wp.lconst dc_X12_live_12 lc_0 ?_
  refine Wp.ldc2 dc_X12_live_13 kw_X12_378 ?_
  obtain ⟨v16, h16, hE⟩ := bnd hE
  refine Wp.cS3i (ok_X12_isIn  h16) dc_X12_live_16 mw_X12_112 (by decide) (Nat.le_of_ble_eq_true rfl) ?_
  refine Wp.if_ne (tgt := 28) dc_X12_live_19 (by decide) (fun hc19 => ?_) (fun hc19 => ?_)
  · rw [if_neg hc19] at hE
    refine Wp.aload_n dc_X12_live_28 rfl ?_
    refine Wp.sgetR (t := 34) dc_X12_live_29 fw_X12_35 (mO11 (by decide)) rfl ?_
    refine Wp.sipush dc_X12_live_32 sp_132 ?_
    obtain ⟨j35, h35, hE⟩ := bnd hE
    refine Wp.siald dc_X12_live_35 (mO13 (by decide)) h35 ?_
    refine Wp.if_ne (tgt := 46) dc_X12_live_36 (by decide) (fun hc36 => ?_) (fun hc36 => ?_)
    · rw [if_neg hc36] at hE
      refine Wp.aload_n dc_X12_live_46 rfl ?_
      refine Wp.iload_n dc_X12_live_47 rfl ?_
      obtain ⟨σ48, h48, hE⟩ := bnd hE
      refine Wp.cV1v (ok_X12_runs  h48) dc_X12_live_48 mw_X12_487 (mO11 (by decide)) (by decide) (Nat.le_of_ble_eq_true rfl) ?_
      refine Wp.aload_n dc_X12_live_51 rfl ?_
      refine Wp.sgetR (t := 44) dc_X12_live_52 fw_X12_71 (mO11 (by decide)) rfl ?_
      refine Wp.iconst dc_X12_live_55 ic_0 ?_
      refine Wp.aload_n dc_X12_live_56 rfl ?_
      refine Wp.sgetI dc_X12_live_57 fw_X12_472 (mO11 (by decide)) ?_
      obtain ⟨j60, h60, hE⟩ := bnd hE
      refine Wp.siast dc_X12_live_60 (mO13 (by decide)) h60 ?_
      obtain ⟨σ60, es_60, hE⟩ := bnS hE
      rw [es_60]
      refine Wp.aload_n dc_X12_live_61 rfl ?_
      refine Wp.sgetR (t := 44) dc_X12_live_62 fw_X12_71 (mO11 (by decide)) rfl ?_
      refine Wp.iconst dc_X12_live_65 ic_1 ?_
      refine Wp.aload_n dc_X12_live_66 rfl ?_
      refine Wp.sgetI dc_X12_live_67 fw_X12_457 (mO11 (by decide)) ?_
      obtain ⟨j70, h70, hE⟩ := bnd hE
      refine Wp.siast dc_X12_live_70 (mO13 (by decide)) h70 ?_
      obtain ⟨σ70, es_70, hE⟩ := bnS hE
      rw [es_70]
      refine Wp.aload_n dc_X12_live_71 rfl ?_
      refine Wp.sgetR (t := 44) dc_X12_live_72 fw_X12_71 (mO11 (by decide)) rfl ?_
      refine Wp.iconst dc_X12_live_75 ic_2 ?_
      refine Wp.aload_n dc_X12_live_76 rfl ?_
      refine Wp.sgetI dc_X12_live_77 fw_X12_454 (mO11 (by decide)) ?_
      obtain ⟨j80, h80, hE⟩ := bnd hE
      refine Wp.siast dc_X12_live_80 (mO13 (by decide)) h80 ?_
      obtain ⟨σ80, es_80, hE⟩ := bnS hE
      rw [es_80]
      refine Wp.aload_n dc_X12_live_81 rfl ?_
      refine Wp.sgetR (t := 44) dc_X12_live_82 fw_X12_71 (mO11 (by decide)) rfl ?_
      refine Wp.iconst dc_X12_live_85 ic_3 ?_
      refine Wp.aload_n dc_X12_live_86 rfl ?_
      refine Wp.sgetI dc_X12_live_87 fw_X12_451 (mO11 (by decide)) ?_
      obtain ⟨j90, h90, hE⟩ := bnd hE
      refine Wp.siast dc_X12_live_90 (mO13 (by decide)) h90 ?_
      obtain ⟨σ90, es_90, hE⟩ := bnS hE
      rw [es_90]
      refine Wp.aload_n dc_X12_live_91 rfl ?_
      refine Wp.sgetR (t := 44) dc_X12_live_92 fw_X12_71 (mO11 (by decide)) rfl ?_
      refine Wp.iconst dc_X12_live_95 ic_4 ?_
      refine Wp.aload_n dc_X12_live_96 rfl ?_
      refine Wp.sgetI dc_X12_live_97 fw_X12_469 (mO11 (by decide)) ?_
      obtain ⟨j100, h100, hE⟩ := bnd hE
      refine Wp.siast dc_X12_live_100 (mO13 (by decide)) h100 ?_
      obtain ⟨σ100, es_100, hE⟩ := bnS hE
      rw [es_100]
      refine Wp.aload_n dc_X12_live_101 rfl ?_
      refine Wp.iconst dc_X12_live_102 ic_1 ?_
      refine Wp.sputI dc_X12_live_103 fw_X12_490 (mO11 (by decide)) Nr.z1 ?_
      obtain ⟨σ103, es_103, hE⟩ := bnS hE
      rw [es_103]
      refine Wp.aload_n dc_X12_live_106 rfl ?_
      refine Wp.sgetI dc_X12_live_107 fw_X12_463 (mO11 (by decide)) ?_
      cases hE
      exact Wp.ireturn dc_X12_live_110 rfl rfl (Nat.le_refl _) (Nat.le_refl _) hK
    · rw [if_pos hc36] at hE
      refine Wp.aload_n dc_X12_live_39 rfl ?_
      refine Wp.bipush dc_X12_live_40 bp_8 ?_
      obtain ⟨p42, h42, hE⟩ := bnd hE
      refine Wp.cV1i (ok_X12_refuse  h42) dc_X12_live_42 mw_X12_308 (mO11 (by decide)) (by decide) (Nat.le_of_ble_eq_true rfl) ?_
      cases hE
      exact Wp.ireturn dc_X12_live_45 rfl rfl (Nat.le_refl _) (Nat.le_refl _) hK
  · rw [if_pos hc19] at hE
    refine Wp.aload_n dc_X12_live_22 rfl ?_
    refine Wp.iconst dc_X12_live_23 ic_5 ?_
    obtain ⟨p24, h24, hE⟩ := bnd hE
    refine Wp.cV1i (ok_X12_refuse  h24) dc_X12_live_24 mw_X12_308 (mO11 (by decide)) (by decide) (Nat.le_of_ble_eq_true rfl) ?_
    cases hE
    exact Wp.ireturn dc_X12_live_27 rfl rfl (Nat.le_refl _) (Nat.le_refl _) hK
theorem ok_X12_live  {σ : SS}  {x1 : Int32} {o}   (hE : X12_live  σ  x1 = some o) : Runs 53 0 0 mi_X12_live [vr 11 0, vi x1] (hp σ) (fun v h => v = some (vi o.1) ∧ h = hp o.2) := by
  refine Runs.of pn_X12 (Nat.le_of_ble_eq_true rfl) ?_
  exact ok_X12_live_j0   hE ⟨rfl, rfl⟩
theorem ok_X12_lived_j0 {Q : Option AV → AH → Prop}  {σ : SS}  {x1 : Int32} {o}    (hE : X12_lived_j0  σ  x1 = some o) (hK : Q (some (vi o.1)) (hp o.2)) : Ws 1 mi_X12_lived Q 0 [some (vr 11 0), some (vi x1)] [] σ := by
  unfold X12_lived_j0 at hE
  refine Wp.aload_n dc_X12_lived_0 rfl ?_
  refine Wp.iconst dc_X12_lived_1 ic_0 ?_
  refine Wp.sputI dc_X12_lived_2 fw_X12_77 (mO11 (by decide)) (Nr.i _) ?_
  obtain ⟨σ2, es_2, hE⟩ := bnS hE
  rw [es_2]
  refine Wp.aload_n dc_X12_lived_5 rfl ?_
  refine Wp.iconst dc_X12_lived_6 ic_0 ?_
  refine Wp.sputI dc_X12_lived_7 fw_X12_80 (mO11 (by decide)) (Nr.i _) ?_
  obtain ⟨σ7, es_7, hE⟩ := bnS hE
  rw [es_7]
  refine Wp.iload_n dc_X12_lived_10 rfl ?_
  refine Wp.i2l dc_X12_lived_11 ?_
  refine Wp.lconst dc_X12_lived_12 lc_0 ?_
  refine Wp.ldc2 dc_X12_lived_13 kw_X12_167 ?_
  obtain ⟨v16, h16, hE⟩ := bnd hE
  refine Wp.cS3i (ok_X12_isIn  h16) dc_X12_lived_16 mw_X12_112 (by decide) (Nat.le_of_ble_eq_true rfl) ?_
  refine Wp.if_ne (tgt := 28) dc_X12_lived_19 (by decide) (fun hc19 => ?_) (fun hc19 => ?_)
  · rw [if_neg hc19] at hE
    refine Wp.aload_n dc_X12_lived_28 rfl ?_
    refine Wp.sgetI dc_X12_lived_29 fw_X12_490 (mO11 (by decide)) ?_
    refine Wp.if_eq (tgt := 44) dc_X12_lived_32 (by decide) (fun hc32 => ?_) (fun hc32 => ?_)
    · rw [if_pos hc32] at hE
      refine Wp.aload_n dc_X12_lived_44 rfl ?_
      refine Wp.bipush dc_X12_lived_45 bp_8 ?_
      obtain ⟨p47, h47, hE⟩ := bnd hE
      refine Wp.cV1i (ok_X12_refuse  h47) dc_X12_lived_47 mw_X12_308 (mO11 (by decide)) (by decide) (Nat.le_of_ble_eq_true rfl) ?_
      cases hE
      exact Wp.ireturn dc_X12_lived_50 rfl rfl (Nat.le_refl _) (Nat.le_refl _) hK
    · rw [if_neg hc32] at hE
      refine Wp.aload_n dc_X12_lived_35 rfl ?_
      refine Wp.sgetR (t := 44) dc_X12_lived_36 fw_X12_71 (mO11 (by decide)) rfl ?_
      refine Wp.iload_n dc_X12_lived_39 rfl ?_
      obtain ⟨j40, h40, hE⟩ := bnd hE
      refine Wp.siald dc_X12_lived_40 (mO13 (by decide)) h40 ?_
      refine Wp.goto (tgt := 50) dc_X12_lived_41 (by decide) ?_
      cases hE
      exact Wp.ireturn dc_X12_lived_50 rfl rfl (Nat.le_refl _) (Nat.le_refl _) hK
  · rw [if_pos hc19] at hE
    refine Wp.aload_n dc_X12_lived_22 rfl ?_
    refine Wp.iconst dc_X12_lived_23 ic_5 ?_
    obtain ⟨p24, h24, hE⟩ := bnd hE
    refine Wp.cV1i (ok_X12_refuse  h24) dc_X12_lived_24 mw_X12_308 (mO11 (by decide)) (by decide) (Nat.le_of_ble_eq_true rfl) ?_
    cases hE
    exact Wp.ireturn dc_X12_lived_27 rfl rfl (Nat.le_refl _) (Nat.le_refl _) hK
theorem ok_X12_lived  {σ : SS}  {x1 : Int32} {o}   (hE : X12_lived  σ  x1 = some o) : Runs 1 0 0 mi_X12_lived [vr 11 0, vi x1] (hp σ) (fun v h => v = some (vi o.1) ∧ h = hp o.2) := by
  refine Runs.of pn_X12 (Nat.le_of_ble_eq_true rfl) ?_
  exact ok_X12_lived_j0   hE ⟨rfl, rfl⟩
theorem ok_X12_tried_j27 {Q : Option AV → AH → Prop}  {σ : SS}   {o} {z1 z2 z3 z4 z5 z6 z7 : Option AV}   (hE : X12_tried_j27  σ   = some o) (hK : Q (some (vi o.1)) (hp o.2)) : Ws 53 mi_X12_tried Q 27 [some (vr 11 0), z1, z2, z3, z4, z5, z6, z7] [] σ := by
  unfold X12_tried_j27 at hE
  refine Wp.aload_n dc_X12_tried_27 rfl ?_
  refine Wp.iconst dc_X12_tried_28 ic_5 ?_
  obtain ⟨p29, h29, hE⟩ := bnd hE
  refine Wp.cV1i (ok_X12_no  h29) dc_X12_tried_29 mw_X12_92 (mO11 (by decide)) (by decide) (Nat.le_of_ble_eq_true rfl) ?_
  obtain ⟨b32, h32, hE⟩ := bnd hE
  obtain ⟨e_32, hb32⟩ := zb_some h32
  skip
  cases hE
  exact Wp.ireturn dc_X12_tried_32 rfl hb32.1 (Nat.le_refl _) (Nat.le_refl _) hK
def X12_tried_P54 (Q : Option AV → AH → Prop)   (x1 : Int32) (x2 : Int32) (x3 : Int32) (ss : Int32 × SS) : Prop := ∀ z5 z6 z7 : Option AV, Ws 53 mi_X12_tried Q 54 [some (vr 11 0), some (vi x1), some (vi x2), some (vi x3), some (vi ss.1), z5, z6, z7] [] ss.2
def X12_tried_R54 (Q : Option AV → AH → Prop)   (x1 : Int32) (x2 : Int32) (x3 : Int32) (tt : SS) : Prop := ∀ z4 z5 z6 z7 : Option AV, Ws 53 mi_X12_tried Q 82 [some (vr 11 0), some (vi x1), some (vi x2), some (vi x3), z4, z5, z6, z7] [] tt
theorem ok_X12_tried_l54c {Q : Option AV → AH → Prop}  {σ : SS}  {x1 : Int32} {x2 : Int32} {x3 : Int32} {x4 : Int32} {o} {z5 z6 z7 : Option AV}   (hE : X12_tried_l54c  σ  x1 x2 x3 x4 = some o) (hS : ∀ ss, o = Sum.inl ss → (X12_tried_P54  Q   x1 x2 x3) ss) (hT : ∀ tt, o = Sum.inr tt → (X12_tried_R54  Q   x1 x2 x3) tt) : Ws 53 mi_X12_tried Q 54 [some (vr 11 0), some (vi x1), some (vi x2), some (vi x3), some (vi x4), z5, z6, z7] [] σ := by
  unfold X12_tried_l54c at hE
  refine Wp.iload dc_X12_tried_54 rfl ?_
  refine Wp.sipush dc_X12_tried_56 sp_132 ?_
  refine Wp.icmp_ge (tgt := 82) dc_X12_tried_59 (by decide) (fun hc59 => ?_) (fun hc59 => ?_)
  · rw [if_pos hc59] at hE
    cases hE
    exact hT _ rfl _ _ _ _
  · rw [if_neg hc59] at hE
    refine Wp.aload_n dc_X12_tried_62 rfl ?_
    refine Wp.sgetR (t := 45) dc_X12_tried_63 fw_X12_74 (mO11 (by decide)) rfl ?_
    refine Wp.iload dc_X12_tried_66 rfl ?_
    refine Wp.aload_n dc_X12_tried_68 rfl ?_
    refine Wp.sgetR (t := 34) dc_X12_tried_69 fw_X12_35 (mO11 (by decide)) rfl ?_
    refine Wp.iload dc_X12_tried_72 rfl ?_
    obtain ⟨j74, h74, hE⟩ := bnd hE
    refine Wp.siald dc_X12_tried_74 (mO13 (by decide)) h74 ?_
    obtain ⟨j75, h75, hE⟩ := bnd hE
    refine Wp.siast dc_X12_tried_75 (mO13 (by decide)) h75 ?_
    obtain ⟨σ75, es_75, hE⟩ := bnS hE
    rw [es_75]
    obtain ⟨x4_76, e_76, hE⟩ := bnS hE
    refine Wp.iinc dc_X12_tried_76 rfl ((ii ic_1).trans e_76) (by decide) ?_
    refine Wp.goto (tgt := 54) dc_X12_tried_79 (by decide) ?_
    cases hE
    exact hS _ rfl _ _ _
def X12_tried_P88 (Q : Option AV → AH → Prop)   (x1 : Int32) (x2 : Int32) (x3 : Int32) (ss : Int64 × Int32 × SS) : Prop := ∀ z7 : Option AV, Ws 53 mi_X12_tried Q 88 [some (vr 11 0), some (vi x1), some (vi x2), some (vi x3), some (vl ss.1), none, some (vi ss.2.1), z7] [] ss.2.2
def X12_tried_R88 (Q : Option AV → AH → Prop)   (x1 : Int32) (x2 : Int32) (x3 : Int32) (tt : Int64 × SS) : Prop := ∀ z1 z2 z6 z7 : Option AV, Ws 53 mi_X12_tried Q 178 [some (vr 11 0), z1, z2, some (vi x3), some (vl tt.1), none, z6, z7] [] tt.2
def X12_tried_P144 (Q : Option AV → AH → Prop)   (x1 : Int32) (x2 : Int32) (x3 : Int32) (y4 : Int64) (x6 : Int32) (ss : Int32 × SS) : Prop := Ws 53 mi_X12_tried Q 144 [some (vr 11 0), some (vi x1), some (vi x2), some (vi x3), some (vl y4), none, some (vi x6), some (vi ss.1)] [] ss.2
def X12_tried_R144 (Q : Option AV → AH → Prop)   (x1 : Int32) (x2 : Int32) (x3 : Int32) (y4 : Int64) (x6 : Int32) (tt : SS) : Prop := ∀ z7 : Option AV, Ws 53 mi_X12_tried Q 172 [some (vr 11 0), some (vi x1), some (vi x2), some (vi x3), some (vl y4), none, some (vi x6), z7] [] tt
theorem ok_X12_tried_l144c {Q : Option AV → AH → Prop}  {σ : SS}  {x1 : Int32} {x2 : Int32} {x3 : Int32} {y4 : Int64} {x6 : Int32} {x7 : Int32} {o}    (hE : X12_tried_l144c  σ  x1 x2 x3 y4 x6 x7 = some o) (hS : ∀ ss, o = Sum.inl ss → (X12_tried_P144  Q   x1 x2 x3 y4 x6) ss) (hT : ∀ tt, o = Sum.inr tt → (X12_tried_R144  Q   x1 x2 x3 y4 x6) tt) : Ws 53 mi_X12_tried Q 144 [some (vr 11 0), some (vi x1), some (vi x2), some (vi x3), some (vl y4), none, some (vi x6), some (vi x7)] [] σ := by
  unfold X12_tried_l144c at hE
  refine Wp.iload dc_X12_tried_144 rfl ?_
  refine Wp.sipush dc_X12_tried_146 sp_132 ?_
  refine Wp.icmp_ge (tgt := 172) dc_X12_tried_149 (by decide) (fun hc149 => ?_) (fun hc149 => ?_)
  · rw [if_pos hc149] at hE
    cases hE
    exact hT _ rfl _
  · rw [if_neg hc149] at hE
    refine Wp.aload_n dc_X12_tried_152 rfl ?_
    refine Wp.sgetR (t := 34) dc_X12_tried_153 fw_X12_35 (mO11 (by decide)) rfl ?_
    refine Wp.iload dc_X12_tried_156 rfl ?_
    refine Wp.aload_n dc_X12_tried_158 rfl ?_
    refine Wp.sgetR (t := 45) dc_X12_tried_159 fw_X12_74 (mO11 (by decide)) rfl ?_
    refine Wp.iload dc_X12_tried_162 rfl ?_
    obtain ⟨j164, h164, hE⟩ := bnd hE
    refine Wp.siald dc_X12_tried_164 (mO13 (by decide)) h164 ?_
    obtain ⟨j165, h165, hE⟩ := bnd hE
    refine Wp.siast dc_X12_tried_165 (mO13 (by decide)) h165 ?_
    obtain ⟨σ165, es_165, hE⟩ := bnS hE
    rw [es_165]
    obtain ⟨x7_166, e_166, hE⟩ := bnS hE
    refine Wp.iinc dc_X12_tried_166 rfl ((ii ic_1).trans e_166) (by decide) ?_
    refine Wp.goto (tgt := 144) dc_X12_tried_169 (by decide) ?_
    cases hE
    exact hS _ rfl
theorem ok_X12_tried_l144 {Q : Option AV → AH → Prop}  {σ : SS}  {x1 : Int32} {x2 : Int32} {x3 : Int32} {y4 : Int64} {x6 : Int32} {x7 : Int32} {o}    (hE : X12_tried_l144  σ  x1 x2 x3 y4 x6 x7 = some o) (hS : ∀ ss, o = Sum.inl ss → (X12_tried_P88  Q   x1 x2 x3) ss) (hT : ∀ tt, o = Sum.inr tt → (X12_tried_R88  Q   x1 x2 x3) tt) : Ws 53 mi_X12_tried Q 144 [some (vr 11 0), some (vi x1), some (vi x2), some (vi x3), some (vl y4), none, some (vi x6), some (vi x7)] [] σ := by
  unfold X12_tried_l144 at hE
  obtain ⟨t144, h1, hE⟩ := bnd hE
  refine iter_ok (P := (X12_tried_P144  Q   x1 x2 x3 y4 x6)) (R := (X12_tried_R144  Q   x1 x2 x3 y4 x6)) (fun ss o h2 hS hT => ?_) NF _ _ h1 ?_
  · skip
    exact ok_X12_tried_l144c   h2 hS hT
  · intro z7
    show Ws 53 mi_X12_tried Q 172 [some (vr 11 0), some (vi x1), some (vi x2), some (vi x3), some (vl y4), none, some (vi x6), z7] [] t144
    obtain ⟨x6_172, e_172, hE⟩ := bnS hE
    refine Wp.iinc dc_X12_tried_172 rfl ((ii ic_1).trans e_172) (by decide) ?_
    refine Wp.goto (tgt := 88) dc_X12_tried_175 (by decide) ?_
    cases hE
    exact hS _ rfl _
theorem ok_X12_tried_j138 {Q : Option AV → AH → Prop}  {σ : SS}  {x1 : Int32} {x2 : Int32} {x3 : Int32} {x6 : Int32} {s0 : Int64} {s1 : Int64} {o} {z4 z5 z7 : Option AV}   (hE : X12_tried_j138  σ  x1 x2 x3 x6 s0 s1 = some o) (hS : ∀ ss, o = Sum.inl ss → (X12_tried_P88  Q   x1 x2 x3) ss) (hT : ∀ tt, o = Sum.inr tt → (X12_tried_R88  Q   x1 x2 x3) tt) : Ws 53 mi_X12_tried Q 138 [some (vr 11 0), some (vi x1), some (vi x2), some (vi x3), z4, z5, some (vi x6), z7] [vl s1, vl s0] σ := by
  unfold X12_tried_j138 at hE
  refine Wp.ladd dc_X12_tried_138 ?_
  obtain ⟨y4_139, e_139, hE⟩ := bnS hE
  rw [e_139]
  refine Wp.lstore dc_X12_tried_139 (by decide) ?_
  refine Wp.iconst dc_X12_tried_141 ic_0 ?_
  refine Wp.istore dc_X12_tried_142 (by decide) ?_
  exact ok_X12_tried_l144   hE hS hT
theorem ok_X12_tried_l88c {Q : Option AV → AH → Prop}  {σ : SS}  {x1 : Int32} {x2 : Int32} {x3 : Int32} {y4 : Int64} {x6 : Int32} {o} {z7 : Option AV}   (hE : X12_tried_l88c  σ  x1 x2 x3 y4 x6 = some o) (hS : ∀ ss, o = Sum.inl ss → (X12_tried_P88  Q   x1 x2 x3) ss) (hT : ∀ tt, o = Sum.inr tt → (X12_tried_R88  Q   x1 x2 x3) tt) : Ws 53 mi_X12_tried Q 88 [some (vr 11 0), some (vi x1), some (vi x2), some (vi x3), some (vl y4), none, some (vi x6), z7] [] σ := by
  unfold X12_tried_l88c at hE
  refine Wp.iload dc_X12_tried_88 rfl ?_
  refine Wp.iload_n dc_X12_tried_90 rfl ?_
  refine Wp.icmp_ge (tgt := 178) dc_X12_tried_91 (by decide) (fun hc91 => ?_) (fun hc91 => ?_)
  · rw [if_pos hc91] at hE
    cases hE
    exact hT _ rfl _ _ _ _
  · rw [if_neg hc91] at hE
    refine Wp.aload_n dc_X12_tried_94 rfl ?_
    refine Wp.iload_n dc_X12_tried_95 rfl ?_
    refine Wp.iload dc_X12_tried_96 rfl ?_
    refine Wp.iadd dc_X12_tried_98 ?_
    obtain ⟨σ99, h99, hE⟩ := bnd hE
    refine Wp.cV1v (ok_X12_runs  h99) dc_X12_tried_99 mw_X12_487 (mO11 (by decide)) (by decide) (Nat.le_of_ble_eq_true rfl) ?_
    refine Wp.lload dc_X12_tried_102 rfl ?_
    refine Wp.iload_n dc_X12_tried_104 rfl ?_
    refine Wp.if_ge (tgt := 125) dc_X12_tried_105 (by decide) (fun hc105 => ?_) (fun hc105 => ?_)
    · rw [if_pos hc105] at hE
      refine Wp.aload_n dc_X12_tried_125 rfl ?_
      refine Wp.iload_n dc_X12_tried_126 rfl ?_
      obtain ⟨v127, h127, hE⟩ := bnd hE
      refine Wp.cV1i (ok_X12_isFree  h127) dc_X12_tried_127 mw_X12_386 (mO11 (by decide)) (by decide) (Nat.le_of_ble_eq_true rfl) ?_
      refine Wp.if_eq (tgt := 137) dc_X12_tried_130 (by decide) (fun hc130 => ?_) (fun hc130 => ?_)
      · rw [if_pos hc130] at hE
        refine Wp.lconst dc_X12_tried_137 lc_0 ?_
        exact ok_X12_tried_j138   hE hS hT
      · rw [if_neg hc130] at hE
        refine Wp.lconst dc_X12_tried_133 lc_1 ?_
        refine Wp.goto (tgt := 138) dc_X12_tried_134 (by decide) ?_
        exact ok_X12_tried_j138   hE hS hT
    · rw [if_neg hc105] at hE
      refine Wp.aload_n dc_X12_tried_108 rfl ?_
      refine Wp.sgetR (t := 34) dc_X12_tried_109 fw_X12_35 (mO11 (by decide)) rfl ?_
      refine Wp.iconst dc_X12_tried_112 ic_5 ?_
      obtain ⟨j113, h113, hE⟩ := bnd hE
      refine Wp.siald dc_X12_tried_113 (mO13 (by decide)) h113 ?_
      refine Wp.aload_n dc_X12_tried_114 rfl ?_
      refine Wp.sgetR (t := 45) dc_X12_tried_115 fw_X12_74 (mO11 (by decide)) rfl ?_
      refine Wp.iconst dc_X12_tried_118 ic_5 ?_
      obtain ⟨j119, h119, hE⟩ := bnd hE
      refine Wp.siald dc_X12_tried_119 (mO13 (by decide)) h119 ?_
      refine Wp.isub dc_X12_tried_120 ?_
      refine Wp.i2l dc_X12_tried_121 ?_
      refine Wp.goto (tgt := 138) dc_X12_tried_122 (by decide) ?_
      exact ok_X12_tried_j138   hE hS hT
theorem ok_X12_tried_l88 {Q : Option AV → AH → Prop}  {σ : SS}  {x1 : Int32} {x2 : Int32} {x3 : Int32} {y4 : Int64} {x6 : Int32} {o} {z7 : Option AV}   (hE : X12_tried_l88  σ  x1 x2 x3 y4 x6 = some o) (hK : Q (some (vi o.1)) (hp o.2)) : Ws 53 mi_X12_tried Q 88 [some (vr 11 0), some (vi x1), some (vi x2), some (vi x3), some (vl y4), none, some (vi x6), z7] [] σ := by
  unfold X12_tried_l88 at hE
  obtain ⟨t88, h1, hE⟩ := bnd hE
  refine iter_ok (P := (X12_tried_P88  Q   x1 x2 x3)) (R := (X12_tried_R88  Q   x1 x2 x3)) (fun ss o h2 hS hT => ?_) NF _ _ h1 ?_ _
  · intro z7
    exact ok_X12_tried_l88c   h2 hS hT
  · intro z1 z2 z6 z7
    show Ws 53 mi_X12_tried Q 178 [some (vr 11 0), z1, z2, some (vi x3), some (vl t88.1), none, z6, z7] [] t88.2
    refine Wp.aload_n dc_X12_tried_178 rfl ?_
    refine Wp.lload dc_X12_tried_179 rfl ?_
    refine Wp.iload_n dc_X12_tried_181 rfl ?_
    refine Wp.i2l dc_X12_tried_182 ?_
    obtain ⟨p183, h183, hE⟩ := bnd hE
    refine Wp.cV2i (ok_X12_fraction  h183) dc_X12_tried_183 mw_X12_434 (mO11 (by decide)) (by decide) (Nat.le_of_ble_eq_true rfl) ?_
    obtain ⟨b186, h186, hE⟩ := bnd hE
    obtain ⟨e_186, hb186⟩ := zb_some h186
    skip
    cases hE
    exact Wp.ireturn dc_X12_tried_186 rfl hb186.1 (Nat.le_refl _) (Nat.le_refl _) hK
theorem ok_X12_tried_l54 {Q : Option AV → AH → Prop}  {σ : SS}  {x1 : Int32} {x2 : Int32} {x3 : Int32} {x4 : Int32} {o} {z5 z6 z7 : Option AV}   (hE : X12_tried_l54  σ  x1 x2 x3 x4 = some o) (hK : Q (some (vi o.1)) (hp o.2)) : Ws 53 mi_X12_tried Q 54 [some (vr 11 0), some (vi x1), some (vi x2), some (vi x3), some (vi x4), z5, z6, z7] [] σ := by
  unfold X12_tried_l54 at hE
  obtain ⟨t54, h1, hE⟩ := bnd hE
  refine iter_ok (P := (X12_tried_P54  Q   x1 x2 x3)) (R := (X12_tried_R54  Q   x1 x2 x3)) (fun ss o h2 hS hT => ?_) NF _ _ h1 ?_ _ _ _
  · intro z5 z6 z7
    exact ok_X12_tried_l54c   h2 hS hT
  · intro z4 z5 z6 z7
    show Ws 53 mi_X12_tried Q 82 [some (vr 11 0), some (vi x1), some (vi x2), some (vi x3), z4, z5, z6, z7] [] t54
    refine Wp.lconst dc_X12_tried_82 lc_0 ?_
    refine Wp.lstore dc_X12_tried_83 (by decide) ?_
    refine Wp.iconst dc_X12_tried_85 ic_0 ?_
    refine Wp.istore dc_X12_tried_86 (by decide) ?_
    exact ok_X12_tried_l88   hE hK
theorem ok_X12_tried_j0 {Q : Option AV → AH → Prop}  {σ : SS}  {x1 : Int32} {x2 : Int32} {x3 : Int32} {o} {z4 z5 z6 z7 : Option AV}   (hE : X12_tried_j0  σ  x1 x2 x3 = some o) (hK : Q (some (vi o.1)) (hp o.2)) : Ws 53 mi_X12_tried Q 0 [some (vr 11 0), some (vi x1), some (vi x2), some (vi x3), z4, z5, z6, z7] [] σ := by
  unfold X12_tried_j0 at hE
  refine Wp.iload_n dc_X12_tried_0 rfl ?_
  refine Wp.i2l dc_X12_tried_1 ?_
  refine Wp.lconst dc_X12_tried_2 lc_1 ?_
  refine Wp.ldc2 dc_X12_tried_3 kw_X12_493 ?_
  obtain ⟨v6, h6, hE⟩ := bnd hE
  refine Wp.cS3i (ok_X12_isIn  h6) dc_X12_tried_6 mw_X12_112 (by decide) (Nat.le_of_ble_eq_true rfl) ?_
  refine Wp.if_eq (tgt := 27) dc_X12_tried_9 (by decide) (fun hc9 => ?_) (fun hc9 => ?_)
  · rw [if_pos hc9] at hE
    exact ok_X12_tried_j27   hE hK
  · rw [if_neg hc9] at hE
    refine Wp.iload_n dc_X12_tried_12 rfl ?_
    refine Wp.i2l dc_X12_tried_13 ?_
    refine Wp.lconst dc_X12_tried_14 lc_0 ?_
    refine Wp.sipush dc_X12_tried_15 sp_10000 ?_
    refine Wp.iload_n dc_X12_tried_18 rfl ?_
    refine Wp.isub dc_X12_tried_19 ?_
    refine Wp.i2l dc_X12_tried_20 ?_
    obtain ⟨v21, h21, hE⟩ := bnd hE
    refine Wp.cS3i (ok_X12_isIn  h21) dc_X12_tried_21 mw_X12_112 (by decide) (Nat.le_of_ble_eq_true rfl) ?_
    refine Wp.if_ne (tgt := 33) dc_X12_tried_24 (by decide) (fun hc24 => ?_) (fun hc24 => ?_)
    · rw [if_neg hc24] at hE
      refine Wp.aload_n dc_X12_tried_33 rfl ?_
      refine Wp.sgetR (t := 34) dc_X12_tried_34 fw_X12_35 (mO11 (by decide)) rfl ?_
      refine Wp.sipush dc_X12_tried_37 sp_132 ?_
      obtain ⟨j40, h40, hE⟩ := bnd hE
      refine Wp.siald dc_X12_tried_40 (mO13 (by decide)) h40 ?_
      refine Wp.if_ne (tgt := 51) dc_X12_tried_41 (by decide) (fun hc41 => ?_) (fun hc41 => ?_)
      · rw [if_neg hc41] at hE
        refine Wp.iconst dc_X12_tried_51 ic_0 ?_
        refine Wp.istore dc_X12_tried_52 (by decide) ?_
        exact ok_X12_tried_l54   hE hK
      · rw [if_pos hc41] at hE
        refine Wp.aload_n dc_X12_tried_44 rfl ?_
        refine Wp.bipush dc_X12_tried_45 bp_8 ?_
        obtain ⟨p47, h47, hE⟩ := bnd hE
        refine Wp.cV1i (ok_X12_no  h47) dc_X12_tried_47 mw_X12_92 (mO11 (by decide)) (by decide) (Nat.le_of_ble_eq_true rfl) ?_
        obtain ⟨b50, h50, hE⟩ := bnd hE
        obtain ⟨e_50, hb50⟩ := zb_some h50
        skip
        cases hE
        exact Wp.ireturn dc_X12_tried_50 rfl hb50.1 (Nat.le_refl _) (Nat.le_refl _) hK
    · rw [if_pos hc24] at hE
      exact ok_X12_tried_j27   hE hK
theorem ok_X12_tried  {σ : SS}  {x1 : Int32} {x2 : Int32} {x3 : Int32} {o}   (hE : X12_tried  σ  x1 x2 x3 = some o) : Runs 53 0 0 mi_X12_tried [vr 11 0, vi x1, vi x2, vi x3] (hp σ) (fun v h => v = some (vi o.1) ∧ h = hp o.2) := by
  refine Runs.of pn_X12 (Nat.le_of_ble_eq_true rfl) ?_
  exact ok_X12_tried_j0   hE ⟨rfl, rfl⟩
theorem ok_X12_mean_j0 {Q : Option AV → AH → Prop}  {σ : SS}  {x1 : Int32} {x2 : Int32} {o}    (hE : X12_mean_j0  σ  x1 x2 = some o) (hK : Q (some (vi o.1)) (hp o.2)) : Ws 54 mi_X12_mean Q 0 [some (vr 11 0), some (vi x1), some (vi x2)] [] σ := by
  unfold X12_mean_j0 at hE
  refine Wp.aload_n dc_X12_mean_0 rfl ?_
  refine Wp.iconst dc_X12_mean_1 ic_0 ?_
  refine Wp.sputI dc_X12_mean_2 fw_X12_77 (mO11 (by decide)) (Nr.i _) ?_
  obtain ⟨σ2, es_2, hE⟩ := bnS hE
  rw [es_2]
  refine Wp.aload_n dc_X12_mean_5 rfl ?_
  refine Wp.iconst dc_X12_mean_6 ic_0 ?_
  refine Wp.sputI dc_X12_mean_7 fw_X12_80 (mO11 (by decide)) (Nr.i _) ?_
  obtain ⟨σ7, es_7, hE⟩ := bnS hE
  rw [es_7]
  refine Wp.aload_n dc_X12_mean_10 rfl ?_
  refine Wp.iconst dc_X12_mean_11 ic_m1 ?_
  refine Wp.iload_n dc_X12_mean_12 rfl ?_
  refine Wp.iload_n dc_X12_mean_13 rfl ?_
  obtain ⟨p14, h14, hE⟩ := bnd hE
  refine Wp.cV3i (ok_X12_tried  h14) dc_X12_mean_14 mw_X12_495 (mO11 (by decide)) (by decide) (Nat.le_of_ble_eq_true rfl) ?_
  obtain ⟨b17, h17, hE⟩ := bnd hE
  obtain ⟨e_17, hb17⟩ := zb_some h17
  skip
  cases hE
  exact Wp.ireturn dc_X12_mean_17 rfl hb17.1 (Nat.le_refl _) (Nat.le_refl _) hK
theorem ok_X12_mean  {σ : SS}  {x1 : Int32} {x2 : Int32} {o}   (hE : X12_mean  σ  x1 x2 = some o) : Runs 54 0 0 mi_X12_mean [vr 11 0, vi x1, vi x2] (hp σ) (fun v h => v = some (vi o.1) ∧ h = hp o.2) := by
  refine Runs.of pn_X12 (Nat.le_of_ble_eq_true rfl) ?_
  exact ok_X12_mean_j0   hE ⟨rfl, rfl⟩
theorem ok_X12_odds_j0 {Q : Option AV → AH → Prop}  {σ : SS}  {x1 : Int32} {x2 : Int32} {x3 : Int32} {o}    (hE : X12_odds_j0  σ  x1 x2 x3 = some o) (hK : Q (some (vi o.1)) (hp o.2)) : Ws 54 mi_X12_odds Q 0 [some (vr 11 0), some (vi x1), some (vi x2), some (vi x3)] [] σ := by
  unfold X12_odds_j0 at hE
  refine Wp.aload_n dc_X12_odds_0 rfl ?_
  refine Wp.iconst dc_X12_odds_1 ic_0 ?_
  refine Wp.sputI dc_X12_odds_2 fw_X12_77 (mO11 (by decide)) (Nr.i _) ?_
  obtain ⟨σ2, es_2, hE⟩ := bnS hE
  rw [es_2]
  refine Wp.aload_n dc_X12_odds_5 rfl ?_
  refine Wp.iconst dc_X12_odds_6 ic_0 ?_
  refine Wp.sputI dc_X12_odds_7 fw_X12_80 (mO11 (by decide)) (Nr.i _) ?_
  obtain ⟨σ7, es_7, hE⟩ := bnS hE
  rw [es_7]
  refine Wp.aload_n dc_X12_odds_10 rfl ?_
  refine Wp.iload_n dc_X12_odds_11 rfl ?_
  obtain ⟨v12, h12, hE⟩ := bnd hE
  refine Wp.cV1i (ok_X12_isLeadAt  h12) dc_X12_odds_12 mw_X12_311 (mO11 (by decide)) (by decide) (Nat.le_of_ble_eq_true rfl) ?_
  refine Wp.if_eq (tgt := 28) dc_X12_odds_15 (by decide) (fun hc15 => ?_) (fun hc15 => ?_)
  · rw [if_pos hc15] at hE
    refine Wp.aload_n dc_X12_odds_28 rfl ?_
    refine Wp.iconst dc_X12_odds_29 ic_2 ?_
    obtain ⟨p30, h30, hE⟩ := bnd hE
    refine Wp.cV1i (ok_X12_no  h30) dc_X12_odds_30 mw_X12_92 (mO11 (by decide)) (by decide) (Nat.le_of_ble_eq_true rfl) ?_
    obtain ⟨b33, h33, hE⟩ := bnd hE
    obtain ⟨e_33, hb33⟩ := zb_some h33
    skip
    cases hE
    exact Wp.ireturn dc_X12_odds_33 rfl hb33.1 (Nat.le_refl _) (Nat.le_refl _) hK
  · rw [if_neg hc15] at hE
    refine Wp.aload_n dc_X12_odds_18 rfl ?_
    refine Wp.iload_n dc_X12_odds_19 rfl ?_
    refine Wp.iload_n dc_X12_odds_20 rfl ?_
    refine Wp.iload_n dc_X12_odds_21 rfl ?_
    obtain ⟨p22, h22, hE⟩ := bnd hE
    refine Wp.cV3i (ok_X12_tried  h22) dc_X12_odds_22 mw_X12_495 (mO11 (by decide)) (by decide) (Nat.le_of_ble_eq_true rfl) ?_
    refine Wp.goto (tgt := 33) dc_X12_odds_25 (by decide) ?_
    obtain ⟨b33, h33, hE⟩ := bnd hE
    obtain ⟨e_33, hb33⟩ := zb_some h33
    skip
    cases hE
    exact Wp.ireturn dc_X12_odds_33 rfl hb33.1 (Nat.le_refl _) (Nat.le_refl _) hK
theorem ok_X12_odds  {σ : SS}  {x1 : Int32} {x2 : Int32} {x3 : Int32} {o}   (hE : X12_odds  σ  x1 x2 x3 = some o) : Runs 54 0 0 mi_X12_odds [vr 11 0, vi x1, vi x2, vi x3] (hp σ) (fun v h => v = some (vi o.1) ∧ h = hp o.2) := by
  refine Runs.of pn_X12 (Nat.le_of_ble_eq_true rfl) ?_
  exact ok_X12_odds_j0   hE ⟨rfl, rfl⟩
theorem ok_X12_mark_j0 {Q : Option AV → AH → Prop}  {σ : SS}   {o}    (hE : X12_mark_j0  σ   = some o) (hK : Q (some (vi o.1)) (hp o.2)) : Ws 1 mi_X12_mark Q 0 [some (vr 11 0)] [] σ := by
  unfold X12_mark_j0 at hE
  refine Wp.aload_n dc_X12_mark_0 rfl ?_
  refine Wp.iconst dc_X12_mark_1 ic_0 ?_
  refine Wp.sputI dc_X12_mark_2 fw_X12_77 (mO11 (by decide)) (Nr.i _) ?_
  obtain ⟨σ2, es_2, hE⟩ := bnS hE
  rw [es_2]
  refine Wp.aload_n dc_X12_mark_5 rfl ?_
  refine Wp.iconst dc_X12_mark_6 ic_0 ?_
  refine Wp.sputI dc_X12_mark_7 fw_X12_80 (mO11 (by decide)) (Nr.i _) ?_
  obtain ⟨σ7, es_7, hE⟩ := bnS hE
  rw [es_7]
  refine Wp.aload_n dc_X12_mark_10 rfl ?_
  refine Wp.sgetI dc_X12_mark_11 fw_X12_499 (mO11 (by decide)) ?_
  refine Wp.iconst dc_X12_mark_14 ic_3 ?_
  refine Wp.icmp_ne (tgt := 25) dc_X12_mark_15 (by decide) (fun hc15 => ?_) (fun hc15 => ?_)
  · rw [if_neg hc15] at hE
    refine Wp.aload_n dc_X12_mark_25 rfl ?_
    refine Wp.dup dc_X12_mark_26 rfl ?_
    refine Wp.sgetI dc_X12_mark_27 fw_X12_499 (mO11 (by decide)) ?_
    refine Wp.iconst dc_X12_mark_30 ic_1 ?_
    refine Wp.iadd dc_X12_mark_31 ?_
    refine Wp.sputI dc_X12_mark_32 fw_X12_499 (mO11 (by decide)) (Nr.i _) ?_
    obtain ⟨σ32, es_32, hE⟩ := bnS hE
    rw [es_32]
    refine Wp.aload_n dc_X12_mark_35 rfl ?_
    refine Wp.iconst dc_X12_mark_36 ic_0 ?_
    refine Wp.aload_n dc_X12_mark_37 rfl ?_
    refine Wp.sgetI dc_X12_mark_38 fw_X12_499 (mO11 (by decide)) ?_
    obtain ⟨σ41, h41, hE⟩ := bnd hE
    refine Wp.cV2v (ok_X12_copy  h41) dc_X12_mark_41 mw_X12_282 (mO11 (by decide)) (by decide) (Nat.le_of_ble_eq_true rfl) ?_
    refine Wp.aload_n dc_X12_mark_44 rfl ?_
    refine Wp.sgetI dc_X12_mark_45 fw_X12_499 (mO11 (by decide)) ?_
    cases hE
    exact Wp.ireturn dc_X12_mark_48 rfl rfl (Nat.le_refl _) (Nat.le_refl _) hK
  · rw [if_pos hc15] at hE
    refine Wp.aload_n dc_X12_mark_18 rfl ?_
    refine Wp.bipush dc_X12_mark_19 bp_7 ?_
    obtain ⟨p21, h21, hE⟩ := bnd hE
    refine Wp.cV1i (ok_X12_refuse  h21) dc_X12_mark_21 mw_X12_308 (mO11 (by decide)) (by decide) (Nat.le_of_ble_eq_true rfl) ?_
    cases hE
    exact Wp.ireturn dc_X12_mark_24 rfl rfl (Nat.le_refl _) (Nat.le_refl _) hK
theorem ok_X12_mark  {σ : SS}   {o}   (hE : X12_mark  σ   = some o) : Runs 1 0 0 mi_X12_mark [vr 11 0] (hp σ) (fun v h => v = some (vi o.1) ∧ h = hp o.2) := by
  refine Runs.of pn_X12 (Nat.le_of_ble_eq_true rfl) ?_
  exact ok_X12_mark_j0   hE ⟨rfl, rfl⟩
theorem ok_X12_back_j0 {Q : Option AV → AH → Prop}  {σ : SS}   {o}    (hE : X12_back_j0  σ   = some o) (hK : Q (some (vi o.1)) (hp o.2)) : Ws 1 mi_X12_back Q 0 [some (vr 11 0)] [] σ := by
  unfold X12_back_j0 at hE
  refine Wp.aload_n dc_X12_back_0 rfl ?_
  refine Wp.iconst dc_X12_back_1 ic_0 ?_
  refine Wp.sputI dc_X12_back_2 fw_X12_77 (mO11 (by decide)) (Nr.i _) ?_
  obtain ⟨σ2, es_2, hE⟩ := bnS hE
  rw [es_2]
  refine Wp.aload_n dc_X12_back_5 rfl ?_
  refine Wp.iconst dc_X12_back_6 ic_0 ?_
  refine Wp.sputI dc_X12_back_7 fw_X12_80 (mO11 (by decide)) (Nr.i _) ?_
  obtain ⟨σ7, es_7, hE⟩ := bnS hE
  rw [es_7]
  refine Wp.aload_n dc_X12_back_10 rfl ?_
  refine Wp.sgetI dc_X12_back_11 fw_X12_499 (mO11 (by decide)) ?_
  refine Wp.if_ne (tgt := 24) dc_X12_back_14 (by decide) (fun hc14 => ?_) (fun hc14 => ?_)
  · rw [if_neg hc14] at hE
    refine Wp.aload_n dc_X12_back_24 rfl ?_
    refine Wp.aload_n dc_X12_back_25 rfl ?_
    refine Wp.sgetI dc_X12_back_26 fw_X12_499 (mO11 (by decide)) ?_
    refine Wp.iconst dc_X12_back_29 ic_0 ?_
    obtain ⟨σ30, h30, hE⟩ := bnd hE
    refine Wp.cV2v (ok_X12_copy  h30) dc_X12_back_30 mw_X12_282 (mO11 (by decide)) (by decide) (Nat.le_of_ble_eq_true rfl) ?_
    refine Wp.aload_n dc_X12_back_33 rfl ?_
    refine Wp.dup dc_X12_back_34 rfl ?_
    refine Wp.sgetI dc_X12_back_35 fw_X12_499 (mO11 (by decide)) ?_
    refine Wp.iconst dc_X12_back_38 ic_1 ?_
    refine Wp.isub dc_X12_back_39 ?_
    refine Wp.sputI dc_X12_back_40 fw_X12_499 (mO11 (by decide)) (Nr.i _) ?_
    obtain ⟨σ40, es_40, hE⟩ := bnS hE
    rw [es_40]
    refine Wp.aload_n dc_X12_back_43 rfl ?_
    refine Wp.sgetI dc_X12_back_44 fw_X12_499 (mO11 (by decide)) ?_
    cases hE
    exact Wp.ireturn dc_X12_back_47 rfl rfl (Nat.le_refl _) (Nat.le_refl _) hK
  · rw [if_pos hc14] at hE
    refine Wp.aload_n dc_X12_back_17 rfl ?_
    refine Wp.bipush dc_X12_back_18 bp_8 ?_
    obtain ⟨p20, h20, hE⟩ := bnd hE
    refine Wp.cV1i (ok_X12_refuse  h20) dc_X12_back_20 mw_X12_308 (mO11 (by decide)) (by decide) (Nat.le_of_ble_eq_true rfl) ?_
    cases hE
    exact Wp.ireturn dc_X12_back_23 rfl rfl (Nat.le_refl _) (Nat.le_refl _) hK
theorem ok_X12_back  {σ : SS}   {o}   (hE : X12_back  σ   = some o) : Runs 1 0 0 mi_X12_back [vr 11 0] (hp σ) (fun v h => v = some (vi o.1) ∧ h = hp o.2) := by
  refine Runs.of pn_X12 (Nat.le_of_ble_eq_true rfl) ?_
  exact ok_X12_back_j0   hE ⟨rfl, rfl⟩
